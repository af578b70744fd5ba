abbrev LLV (sb x i : Nat) : List (Nat × Value) := [(0, .ref sb), (1, .ref x), (2, .ref (x + 96)), (3, .int (nI i))]
section LAWC
variable {g : GT} {M : MT} {sb sl : Nat} {sx : Nat → Int32} {J J' : Heap → Prop} {rc rs pc : Nat} {lv : List (Nat × Value)} {st : List Value} {S : ST} {P : PT} {I : IT} {Q : QT} {x n i t : Nat}
theorem BL.arg {tt : Int} (h0 : decode (mC M) pc = .ok (.aload_n 0, 1)) (h1 : decode (mC M) (pc + 1) = .ok (.iload_n 3, 1)) (h2 : decode (mC M) (pc + 2) = .ok (.iconst tt, 1)) (h3 : decode (mC M) (pc + 3) = .ok (.iadd, 1)) (h4 : decode (mC M) (pc + 4) = .ok (.iaload, 1)) (ht : Int32.ofInt tt = nI t) (hb : sb < gB g) (hi : i + t < sl) (hsl : sl < 2 ^ 31) (K : BL g M sb sl sx J rc rs (pc + 5) (LLV sb x i) (.int (sx (i + t)) :: st) S P I Q) : BL g M sb sl sx J rc rs pc (LLV sb x i) st S P I Q :=
  BL.aload_n 0 h0 rfl rfl (BL.iload_n 3 h1 rfl rfl (BL.iconst (nI t) h2 ht (BL.iadd h3 (BL.sld (j := i + t) h4 hb (by rw [nI_add2]; exact ix_n hi hsl) K))))
theorem sim_t8 (h : Sim S P I x n) : sT S x = 9 := h.1.1.1
theorem sim_t9 (h : Sim S P I x n) : sT S (x + 96) = 10 := h.1.ly.2.1.1.1
theorem oc8 (h : Sim S P I x n) : ∀ H, Rep g S P I H → JT H → OC g H x 8 := fun H hR _ => hR.oc (sim_t8 h) rfl
theorem oc9 (h : Sim S P I x n) : ∀ H H', Rep g S P I H → JT H → KC H H' → OC g H' (x + 96) 9 := fun H H' hR _ hk => (hR.oc (sim_t9 h) rfl).keep hk
theorem lc_feed (hb : sb < gB g) (hsl : sl ≤ 3072) (hi : 6 * n + 5 < sl) (hS : Sim S P I x n) (K : ∀ S' P' I', Sim S' P' I' x (n + 1) → BL g ML_law sb sl sx JT rc rs 900 (LLV sb x (6 * n)) [] S' P' I' Q) : BL g ML_law sb sl sx JT (rc + 84) (rs + 1130) 152 (LLV sb x (6 * n)) [] S P I Q := by
  refine BL.less (rc' := rc + 0 + 0) (rs' := rs + 0 + 0) ?_ (by omega) (by omega)
  refine BL.aload_n 1 dL_law_152 rfl rfl ?_
  refine BL.arg (t := 1) dL_law_153 dL_law_154 dL_law_155 dL_law_156 dL_law_157 rfl hb (by omega) (by omega) ?_
  refine BL.arg (t := 2) dL_law_158 dL_law_159 dL_law_160 dL_law_161 dL_law_162 rfl hb (by omega) (by omega) ?_
  refine BL.arg (t := 3) dL_law_163 dL_law_164 dL_law_165 dL_law_166 dL_law_167 rfl hb (by omega) (by omega) ?_
  refine BL.arg (t := 4) dL_law_168 dL_law_169 dL_law_170 dL_law_171 dL_law_172 rfl hb (by omega) (by omega) ?_
  refine BL.arg (t := 5) dL_law_173 dL_law_174 dL_law_175 dL_law_176 dL_law_177 rfl hb (by omega) (by omega) ?_
  refine BL.callV (J' := fun H => OC g H (x + 96) 9) (M' := MX8_feed) (rc := rc + 0) (rs := rs + 0) (mc := 0) (ms := 0) (st := []) [.int (sx (6 * n + 1)), .int (sx (6 * n + 2)), .int (sx (6 * n + 3)), .int (sx (6 * n + 4)), .int (sx (6 * n + 5))] dL_law_178 mv_X8_feed lk_L_13 ⟨Nat.le_of_ble_eq_true rfl, Nat.le_of_ble_eq_true rfl⟩ rfl rfl (Nat.le_of_ble_eq_true rfl) (oc8 hS) (oc9 hS) ?_
  refine T.mono (sim_feed hS _ _ _ _ _) (fun r S1 P1 I1 hT => ?_)
  refine BL.aload_n 2 dL_law_181 rfl rfl ?_
  refine BL.arg (t := 1) dL_law_182 dL_law_183 dL_law_184 dL_law_185 dL_law_186 rfl hb (by omega) (by omega) ?_
  refine BL.arg (t := 2) dL_law_187 dL_law_188 dL_law_189 dL_law_190 dL_law_191 rfl hb (by omega) (by omega) ?_
  refine BL.arg (t := 3) dL_law_192 dL_law_193 dL_law_194 dL_law_195 dL_law_196 rfl hb (by omega) (by omega) ?_
  refine BL.arg (t := 4) dL_law_197 dL_law_198 dL_law_199 dL_law_200 dL_law_201 rfl hb (by omega) (by omega) ?_
  refine BL.arg (t := 5) dL_law_202 dL_law_203 dL_law_204 dL_law_205 dL_law_206 rfl hb (by omega) (by omega) ?_
  refine BL.callV (J' := JT) (M' := MX9_feed) (rc := rc) (rs := rs) (mc := 0) (ms := 0) (st := r.toList ++ []) [.int (sx (6 * n + 1)), .int (sx (6 * n + 2)), .int (sx (6 * n + 3)), .int (sx (6 * n + 4)), .int (sx (6 * n + 5))] dL_law_207 mv_X9_feed lk_L_17 ⟨Nat.le_of_ble_eq_true rfl, Nat.le_of_ble_eq_true rfl⟩ rfl rfl (by rw [List.append_nil]; exact cat8 r) (fun _ _ h => h) (fun _ _ _ _ _ => trivial) ?_
  refine T.mono hT (fun r2 S2 P2 I2 h => ?_)
  obtain ⟨rfl, ⟨z, rfl⟩, hS2⟩ := h
  exact BL.icmp_eq 900 dL_law_210 (by decide) (fun _ => K S2 P2 I2 hS2) (fun q => absurd rfl q)
theorem lc_end (hb : sb < gB g) (hsl : sl ≤ 3072) (hi : 6 * n + 5 < sl) (hS : Sim S P I x n) (K : ∀ S' P' I', Sim S' P' I' x (n + 1) → BL g ML_law sb sl sx JT rc rs 900 (LLV sb x (6 * n)) [] S' P' I' Q) : BL g ML_law sb sl sx JT (rc + 84) (rs + 1130) 215 (LLV sb x (6 * n)) [] S P I Q := by
  refine BL.less (rc' := rc + 0 + 0) (rs' := rs + 0 + 0) ?_ (by omega) (by omega)
  refine BL.aload_n 1 dL_law_215 rfl rfl ?_
  refine BL.arg (t := 1) dL_law_216 dL_law_217 dL_law_218 dL_law_219 dL_law_220 rfl hb (by omega) (by omega) ?_
  refine BL.callV (J' := fun H => OC g H (x + 96) 9) (M' := MX8_end) (rc := rc + 0) (rs := rs + 0) (mc := 0) (ms := 0) (st := []) [.int (sx (6 * n + 1))] dL_law_221 mv_X8_end lk_L_18 ⟨Nat.le_of_ble_eq_true rfl, Nat.le_of_ble_eq_true rfl⟩ rfl rfl (Nat.le_of_ble_eq_true rfl) (oc8 hS) (oc9 hS) ?_
  refine T.mono (sim_end hS _) (fun r S1 P1 I1 hT => ?_)
  refine BL.aload_n 2 dL_law_224 rfl rfl ?_
  refine BL.arg (t := 1) dL_law_225 dL_law_226 dL_law_227 dL_law_228 dL_law_229 rfl hb (by omega) (by omega) ?_
  refine BL.callV (J' := JT) (M' := MX9_end) (rc := rc) (rs := rs) (mc := 0) (ms := 0) (st := r.toList ++ []) [.int (sx (6 * n + 1))] dL_law_230 mv_X9_end lk_L_22 ⟨Nat.le_of_ble_eq_true rfl, Nat.le_of_ble_eq_true rfl⟩ rfl rfl (by rw [List.append_nil]; exact cat8 r) (fun _ _ h => h) (fun _ _ _ _ _ => trivial) ?_
  refine T.mono hT (fun r2 S2 P2 I2 h => ?_)
  obtain ⟨rfl, ⟨z, rfl⟩, hS2⟩ := h
  exact BL.icmp_eq 900 dL_law_233 (by decide) (fun _ => K S2 P2 I2 hS2) (fun q => absurd rfl q)
theorem lc_custom (hb : sb < gB g) (hsl : sl ≤ 3072) (hi : 6 * n + 5 < sl) (hS : Sim S P I x n) (K : ∀ S' P' I', Sim S' P' I' x (n + 1) → BL g ML_law sb sl sx JT rc rs 900 (LLV sb x (6 * n)) [] S' P' I' Q) : BL g ML_law sb sl sx JT (rc + 84) (rs + 1130) 238 (LLV sb x (6 * n)) [] S P I Q := by
  refine BL.less (rc' := rc + 0 + 0) (rs' := rs + 0 + 0) ?_ (by omega) (by omega)
  refine BL.aload_n 1 dL_law_238 rfl rfl ?_
  refine BL.callV (J' := fun H => OC g H (x + 96) 9) (M' := MX8_custom) (rc := rc + 0) (rs := rs + 0) (mc := 0) (ms := 0) (st := []) [] dL_law_239 mv_X8_custom lk_L_23 ⟨Nat.le_of_ble_eq_true rfl, Nat.le_of_ble_eq_true rfl⟩ rfl rfl (Nat.le_of_ble_eq_true rfl) (oc8 hS) (oc9 hS) ?_
  refine T.mono (sim_custom hS) (fun r S1 P1 I1 hT => ?_)
  refine BL.aload_n 2 dL_law_242 rfl rfl ?_
  refine BL.callV (J' := JT) (M' := MX9_custom) (rc := rc) (rs := rs) (mc := 0) (ms := 0) (st := r.toList ++ []) [] dL_law_243 mv_X9_custom lk_L_27 ⟨Nat.le_of_ble_eq_true rfl, Nat.le_of_ble_eq_true rfl⟩ rfl rfl (by rw [List.append_nil]; exact cat8 r) (fun _ _ h => h) (fun _ _ _ _ _ => trivial) ?_
  refine T.mono hT (fun r2 S2 P2 I2 h => ?_)
  obtain ⟨rfl, ⟨z, rfl⟩, hS2⟩ := h
  exact BL.icmp_eq 900 dL_law_246 (by decide) (fun _ => K S2 P2 I2 hS2) (fun q => absurd rfl q)
theorem lc_fault (hb : sb < gB g) (hsl : sl ≤ 3072) (hi : 6 * n + 5 < sl) (hS : Sim S P I x n) (K : ∀ S' P' I', Sim S' P' I' x (n + 1) → BL g ML_law sb sl sx JT rc rs 900 (LLV sb x (6 * n)) [] S' P' I' Q) : BL g ML_law sb sl sx JT (rc + 84) (rs + 1130) 251 (LLV sb x (6 * n)) [] S P I Q := by
  refine BL.less (rc' := rc + 0 + 0) (rs' := rs + 0 + 0) ?_ (by omega) (by omega)
  refine BL.aload_n 1 dL_law_251 rfl rfl ?_
  refine BL.arg (t := 1) dL_law_252 dL_law_253 dL_law_254 dL_law_255 dL_law_256 rfl hb (by omega) (by omega) ?_
  refine BL.callV (J' := fun H => OC g H (x + 96) 9) (M' := MX8_fault) (rc := rc + 0) (rs := rs + 0) (mc := 0) (ms := 0) (st := []) [.int (sx (6 * n + 1))] dL_law_257 mv_X8_fault lk_L_28 ⟨Nat.le_of_ble_eq_true rfl, Nat.le_of_ble_eq_true rfl⟩ rfl rfl (Nat.le_of_ble_eq_true rfl) (oc8 hS) (oc9 hS) ?_
  refine T.mono (sim_fault hS _) (fun r S1 P1 I1 hT => ?_)
  refine BL.aload_n 2 dL_law_260 rfl rfl ?_
  refine BL.arg (t := 1) dL_law_261 dL_law_262 dL_law_263 dL_law_264 dL_law_265 rfl hb (by omega) (by omega) ?_
  refine BL.callV (J' := JT) (M' := MX9_fault) (rc := rc) (rs := rs) (mc := 0) (ms := 0) (st := r.toList ++ []) [.int (sx (6 * n + 1))] dL_law_266 mv_X9_fault lk_L_31 ⟨Nat.le_of_ble_eq_true rfl, Nat.le_of_ble_eq_true rfl⟩ rfl rfl (by rw [List.append_nil]; exact cat8 r) (fun _ _ h => h) (fun _ _ _ _ _ => trivial) ?_
  refine T.mono hT (fun r2 S2 P2 I2 h => ?_)
  obtain ⟨rfl, ⟨z, rfl⟩, hS2⟩ := h
  exact BL.icmp_eq 900 dL_law_269 (by decide) (fun _ => K S2 P2 I2 hS2) (fun q => absurd rfl q)
theorem lc_house (hb : sb < gB g) (hsl : sl ≤ 3072) (hi : 6 * n + 5 < sl) (hS : Sim S P I x n) (K : ∀ S' P' I', Sim S' P' I' x (n + 1) → BL g ML_law sb sl sx JT rc rs 900 (LLV sb x (6 * n)) [] S' P' I' Q) : BL g ML_law sb sl sx JT (rc + 84) (rs + 1130) 274 (LLV sb x (6 * n)) [] S P I Q := by
  refine BL.less (rc' := rc + 0 + 0) (rs' := rs + 0 + 0) ?_ (by omega) (by omega)
  refine BL.aload_n 1 dL_law_274 rfl rfl ?_
  refine BL.callV (J' := fun H => OC g H (x + 96) 9) (M' := MX8_house) (rc := rc + 0) (rs := rs + 0) (mc := 0) (ms := 0) (st := []) [] dL_law_275 mv_X8_house lk_L_32 ⟨Nat.le_of_ble_eq_true rfl, Nat.le_of_ble_eq_true rfl⟩ rfl rfl (Nat.le_of_ble_eq_true rfl) (oc8 hS) (oc9 hS) ?_
  refine T.mono (sim_house hS) (fun r S1 P1 I1 hT => ?_)
  refine BL.aload_n 2 dL_law_278 rfl rfl ?_
  refine BL.callV (J' := JT) (M' := MX9_house) (rc := rc) (rs := rs) (mc := 0) (ms := 0) (st := r.toList ++ []) [] dL_law_279 mv_X9_house lk_L_35 ⟨Nat.le_of_ble_eq_true rfl, Nat.le_of_ble_eq_true rfl⟩ rfl rfl (by rw [List.append_nil]; exact cat8 r) (fun _ _ h => h) (fun _ _ _ _ _ => trivial) ?_
  refine T.mono hT (fun r2 S2 P2 I2 h => ?_)
  obtain ⟨rfl, ⟨z, rfl⟩, hS2⟩ := h
  exact BL.icmp_eq 900 dL_law_282 (by decide) (fun _ => K S2 P2 I2 hS2) (fun q => absurd rfl q)
theorem lc_shape (hb : sb < gB g) (hsl : sl ≤ 3072) (hi : 6 * n + 5 < sl) (hS : Sim S P I x n) (K : ∀ S' P' I', Sim S' P' I' x (n + 1) → BL g ML_law sb sl sx JT rc rs 900 (LLV sb x (6 * n)) [] S' P' I' Q) : BL g ML_law sb sl sx JT (rc + 84) (rs + 1130) 287 (LLV sb x (6 * n)) [] S P I Q := by
  refine BL.less (rc' := rc + 0 + 0) (rs' := rs + 0 + 0) ?_ (by omega) (by omega)
  refine BL.aload_n 1 dL_law_287 rfl rfl ?_
  refine BL.arg (t := 1) dL_law_288 dL_law_289 dL_law_290 dL_law_291 dL_law_292 rfl hb (by omega) (by omega) ?_
  refine BL.arg (t := 2) dL_law_293 dL_law_294 dL_law_295 dL_law_296 dL_law_297 rfl hb (by omega) (by omega) ?_
  refine BL.arg (t := 3) dL_law_298 dL_law_299 dL_law_300 dL_law_301 dL_law_302 rfl hb (by omega) (by omega) ?_
  refine BL.callV (J' := fun H => OC g H (x + 96) 9) (M' := MX8_shape) (rc := rc + 0) (rs := rs + 0) (mc := 0) (ms := 0) (st := []) [.int (sx (6 * n + 1)), .int (sx (6 * n + 2)), .int (sx (6 * n + 3))] dL_law_303 mv_X8_shape lk_L_36 ⟨Nat.le_of_ble_eq_true rfl, Nat.le_of_ble_eq_true rfl⟩ rfl rfl (Nat.le_of_ble_eq_true rfl) (oc8 hS) (oc9 hS) ?_
  refine T.mono (sim_shape hS _ _ _) (fun r S1 P1 I1 hT => ?_)
  refine BL.aload_n 2 dL_law_306 rfl rfl ?_
  refine BL.arg (t := 1) dL_law_307 dL_law_308 dL_law_309 dL_law_310 dL_law_311 rfl hb (by omega) (by omega) ?_
  refine BL.arg (t := 2) dL_law_312 dL_law_313 dL_law_314 dL_law_315 dL_law_316 rfl hb (by omega) (by omega) ?_
  refine BL.arg (t := 3) dL_law_317 dL_law_318 dL_law_319 dL_law_320 dL_law_321 rfl hb (by omega) (by omega) ?_
  refine BL.callV (J' := JT) (M' := MX9_shape) (rc := rc) (rs := rs) (mc := 0) (ms := 0) (st := r.toList ++ []) [.int (sx (6 * n + 1)), .int (sx (6 * n + 2)), .int (sx (6 * n + 3))] dL_law_322 mv_X9_shape lk_L_40 ⟨Nat.le_of_ble_eq_true rfl, Nat.le_of_ble_eq_true rfl⟩ rfl rfl (by rw [List.append_nil]; exact cat8 r) (fun _ _ h => h) (fun _ _ _ _ _ => trivial) ?_
  refine T.mono hT (fun r2 S2 P2 I2 h => ?_)
  obtain ⟨rfl, ⟨z, rfl⟩, hS2⟩ := h
  exact BL.icmp_eq 900 dL_law_325 (by decide) (fun _ => K S2 P2 I2 hS2) (fun q => absurd rfl q)
theorem lc_glaze (hb : sb < gB g) (hsl : sl ≤ 3072) (hi : 6 * n + 5 < sl) (hS : Sim S P I x n) (K : ∀ S' P' I', Sim S' P' I' x (n + 1) → BL g ML_law sb sl sx JT rc rs 900 (LLV sb x (6 * n)) [] S' P' I' Q) : BL g ML_law sb sl sx JT (rc + 84) (rs + 1130) 330 (LLV sb x (6 * n)) [] S P I Q := by
  refine BL.less (rc' := rc + 0 + 0) (rs' := rs + 0 + 0) ?_ (by omega) (by omega)
  refine BL.aload_n 1 dL_law_330 rfl rfl ?_
  refine BL.arg (t := 1) dL_law_331 dL_law_332 dL_law_333 dL_law_334 dL_law_335 rfl hb (by omega) (by omega) ?_
  refine BL.arg (t := 2) dL_law_336 dL_law_337 dL_law_338 dL_law_339 dL_law_340 rfl hb (by omega) (by omega) ?_
  refine BL.callV (J' := fun H => OC g H (x + 96) 9) (M' := MX8_glaze) (rc := rc + 0) (rs := rs + 0) (mc := 0) (ms := 0) (st := []) [.int (sx (6 * n + 1)), .int (sx (6 * n + 2))] dL_law_341 mv_X8_glaze lk_L_41 ⟨Nat.le_of_ble_eq_true rfl, Nat.le_of_ble_eq_true rfl⟩ rfl rfl (Nat.le_of_ble_eq_true rfl) (oc8 hS) (oc9 hS) ?_
  refine T.mono (sim_glaze hS _ _) (fun r S1 P1 I1 hT => ?_)
  refine BL.aload_n 2 dL_law_344 rfl rfl ?_
  refine BL.arg (t := 1) dL_law_345 dL_law_346 dL_law_347 dL_law_348 dL_law_349 rfl hb (by omega) (by omega) ?_
  refine BL.arg (t := 2) dL_law_350 dL_law_351 dL_law_352 dL_law_353 dL_law_354 rfl hb (by omega) (by omega) ?_
  refine BL.callV (J' := JT) (M' := MX9_glaze) (rc := rc) (rs := rs) (mc := 0) (ms := 0) (st := r.toList ++ []) [.int (sx (6 * n + 1)), .int (sx (6 * n + 2))] dL_law_355 mv_X9_glaze lk_L_45 ⟨Nat.le_of_ble_eq_true rfl, Nat.le_of_ble_eq_true rfl⟩ rfl rfl (by rw [List.append_nil]; exact cat8 r) (fun _ _ h => h) (fun _ _ _ _ _ => trivial) ?_
  refine T.mono hT (fun r2 S2 P2 I2 h => ?_)
  obtain ⟨rfl, ⟨z, rfl⟩, hS2⟩ := h
  exact BL.icmp_eq 900 dL_law_358 (by decide) (fun _ => K S2 P2 I2 hS2) (fun q => absurd rfl q)
theorem lc_kiln (hb : sb < gB g) (hsl : sl ≤ 3072) (hi : 6 * n + 5 < sl) (hS : Sim S P I x n) (K : ∀ S' P' I', Sim S' P' I' x (n + 1) → BL g ML_law sb sl sx JT rc rs 900 (LLV sb x (6 * n)) [] S' P' I' Q) : BL g ML_law sb sl sx JT (rc + 84) (rs + 1130) 363 (LLV sb x (6 * n)) [] S P I Q := by
  refine BL.less (rc' := rc + 0 + 0) (rs' := rs + 0 + 0) ?_ (by omega) (by omega)
  refine BL.aload_n 1 dL_law_363 rfl rfl ?_
  refine BL.arg (t := 1) dL_law_364 dL_law_365 dL_law_366 dL_law_367 dL_law_368 rfl hb (by omega) (by omega) ?_
  refine BL.callV (J' := fun H => OC g H (x + 96) 9) (M' := MX8_kiln) (rc := rc + 0) (rs := rs + 0) (mc := 0) (ms := 0) (st := []) [.int (sx (6 * n + 1))] dL_law_369 mv_X8_kiln lk_L_46 ⟨Nat.le_of_ble_eq_true rfl, Nat.le_of_ble_eq_true rfl⟩ rfl rfl (Nat.le_of_ble_eq_true rfl) (oc8 hS) (oc9 hS) ?_
  refine T.mono (sim_kiln hS _) (fun r S1 P1 I1 hT => ?_)
  refine BL.aload_n 2 dL_law_372 rfl rfl ?_
  refine BL.arg (t := 1) dL_law_373 dL_law_374 dL_law_375 dL_law_376 dL_law_377 rfl hb (by omega) (by omega) ?_
  refine BL.callV (J' := JT) (M' := MX9_kiln) (rc := rc) (rs := rs) (mc := 0) (ms := 0) (st := r.toList ++ []) [.int (sx (6 * n + 1))] dL_law_378 mv_X9_kiln lk_L_50 ⟨Nat.le_of_ble_eq_true rfl, Nat.le_of_ble_eq_true rfl⟩ rfl rfl (by rw [List.append_nil]; exact cat8 r) (fun _ _ h => h) (fun _ _ _ _ _ => trivial) ?_
  refine T.mono hT (fun r2 S2 P2 I2 h => ?_)
  obtain ⟨rfl, ⟨z, rfl⟩, hS2⟩ := h
  exact BL.icmp_eq 900 dL_law_381 (by decide) (fun _ => K S2 P2 I2 hS2) (fun q => absurd rfl q)
theorem lc_value (hb : sb < gB g) (hsl : sl ≤ 3072) (hi : 6 * n + 5 < sl) (hS : Sim S P I x n) (K : ∀ S' P' I', Sim S' P' I' x (n + 1) → BL g ML_law sb sl sx JT rc rs 900 (LLV sb x (6 * n)) [] S' P' I' Q) : BL g ML_law sb sl sx JT (rc + 84) (rs + 1130) 386 (LLV sb x (6 * n)) [] S P I Q := by
  refine BL.less (rc' := rc + 0 + 0) (rs' := rs + 0 + 0) ?_ (by omega) (by omega)
  refine BL.aload_n 1 dL_law_386 rfl rfl ?_
  refine BL.arg (t := 1) dL_law_387 dL_law_388 dL_law_389 dL_law_390 dL_law_391 rfl hb (by omega) (by omega) ?_
  refine BL.arg (t := 2) dL_law_392 dL_law_393 dL_law_394 dL_law_395 dL_law_396 rfl hb (by omega) (by omega) ?_
  refine BL.arg (t := 3) dL_law_397 dL_law_398 dL_law_399 dL_law_400 dL_law_401 rfl hb (by omega) (by omega) ?_
  refine BL.callV (J' := fun H => OC g H (x + 96) 9) (M' := MX8_value) (rc := rc + 0) (rs := rs + 0) (mc := 0) (ms := 0) (st := []) [.int (sx (6 * n + 1)), .int (sx (6 * n + 2)), .int (sx (6 * n + 3))] dL_law_402 mv_X8_value lk_L_51 ⟨Nat.le_of_ble_eq_true rfl, Nat.le_of_ble_eq_true rfl⟩ rfl rfl (Nat.le_of_ble_eq_true rfl) (oc8 hS) (oc9 hS) ?_
  refine T.mono (sim_value hS _ _ _) (fun r S1 P1 I1 hT => ?_)
  refine BL.aload_n 2 dL_law_405 rfl rfl ?_
  refine BL.arg (t := 1) dL_law_406 dL_law_407 dL_law_408 dL_law_409 dL_law_410 rfl hb (by omega) (by omega) ?_
  refine BL.arg (t := 2) dL_law_411 dL_law_412 dL_law_413 dL_law_414 dL_law_415 rfl hb (by omega) (by omega) ?_
  refine BL.arg (t := 3) dL_law_416 dL_law_417 dL_law_418 dL_law_419 dL_law_420 rfl hb (by omega) (by omega) ?_
  refine BL.callV (J' := JT) (M' := MX9_value) (rc := rc) (rs := rs) (mc := 0) (ms := 0) (st := r.toList ++ []) [.int (sx (6 * n + 1)), .int (sx (6 * n + 2)), .int (sx (6 * n + 3))] dL_law_421 mv_X9_value lk_L_54 ⟨Nat.le_of_ble_eq_true rfl, Nat.le_of_ble_eq_true rfl⟩ rfl rfl (by rw [List.append_nil]; exact cat8 r) (fun _ _ h => h) (fun _ _ _ _ _ => trivial) ?_
  refine T.mono hT (fun r2 S2 P2 I2 h => ?_)
  obtain ⟨rfl, ⟨z, rfl⟩, hS2⟩ := h
  exact BL.icmp_eq 900 dL_law_424 (by decide) (fun _ => K S2 P2 I2 hS2) (fun q => absurd rfl q)
theorem lc_pot (hb : sb < gB g) (hsl : sl ≤ 3072) (hi : 6 * n + 5 < sl) (hS : Sim S P I x n) (K : ∀ S' P' I', Sim S' P' I' x (n + 1) → BL g ML_law sb sl sx JT rc rs 900 (LLV sb x (6 * n)) [] S' P' I' Q) : BL g ML_law sb sl sx JT (rc + 84) (rs + 1130) 429 (LLV sb x (6 * n)) [] S P I Q := by
  refine BL.less (rc' := rc + 0 + 0) (rs' := rs + 0 + 0) ?_ (by omega) (by omega)
  refine BL.aload_n 1 dL_law_429 rfl rfl ?_
  refine BL.arg (t := 1) dL_law_430 dL_law_431 dL_law_432 dL_law_433 dL_law_434 rfl hb (by omega) (by omega) ?_
  refine BL.arg (t := 2) dL_law_435 dL_law_436 dL_law_437 dL_law_438 dL_law_439 rfl hb (by omega) (by omega) ?_
  refine BL.arg (t := 3) dL_law_440 dL_law_441 dL_law_442 dL_law_443 dL_law_444 rfl hb (by omega) (by omega) ?_
  refine BL.arg (t := 4) dL_law_445 dL_law_446 dL_law_447 dL_law_448 dL_law_449 rfl hb (by omega) (by omega) ?_
  refine BL.callV (J' := fun H => OC g H (x + 96) 9) (M' := MX8_pot) (rc := rc + 0) (rs := rs + 0) (mc := 0) (ms := 0) (st := []) [.int (sx (6 * n + 1)), .int (sx (6 * n + 2)), .int (sx (6 * n + 3)), .int (sx (6 * n + 4))] dL_law_450 mv_X8_pot lk_L_55 ⟨Nat.le_of_ble_eq_true rfl, Nat.le_of_ble_eq_true rfl⟩ rfl rfl (Nat.le_of_ble_eq_true rfl) (oc8 hS) (oc9 hS) ?_
  refine T.mono (sim_pot hS _ _ _ _) (fun r S1 P1 I1 hT => ?_)
  refine BL.aload_n 2 dL_law_453 rfl rfl ?_
  refine BL.arg (t := 1) dL_law_454 dL_law_455 dL_law_456 dL_law_457 dL_law_458 rfl hb (by omega) (by omega) ?_
  refine BL.arg (t := 2) dL_law_459 dL_law_460 dL_law_461 dL_law_462 dL_law_463 rfl hb (by omega) (by omega) ?_
  refine BL.arg (t := 3) dL_law_464 dL_law_465 dL_law_466 dL_law_467 dL_law_468 rfl hb (by omega) (by omega) ?_
  refine BL.arg (t := 4) dL_law_469 dL_law_470 dL_law_471 dL_law_472 dL_law_473 rfl hb (by omega) (by omega) ?_
  refine BL.callV (J' := JT) (M' := MX9_pot) (rc := rc) (rs := rs) (mc := 0) (ms := 0) (st := r.toList ++ []) [.int (sx (6 * n + 1)), .int (sx (6 * n + 2)), .int (sx (6 * n + 3)), .int (sx (6 * n + 4))] dL_law_474 mv_X9_pot lk_L_59 ⟨Nat.le_of_ble_eq_true rfl, Nat.le_of_ble_eq_true rfl⟩ rfl rfl (by rw [List.append_nil]; exact cat8 r) (fun _ _ h => h) (fun _ _ _ _ _ => trivial) ?_
  refine T.mono hT (fun r2 S2 P2 I2 h => ?_)
  obtain ⟨rfl, ⟨z, rfl⟩, hS2⟩ := h
  exact BL.icmp_eq 900 dL_law_477 (by decide) (fun _ => K S2 P2 I2 hS2) (fun q => absurd rfl q)
theorem lc_dry (hb : sb < gB g) (hsl : sl ≤ 3072) (hi : 6 * n + 5 < sl) (hS : Sim S P I x n) (K : ∀ S' P' I', Sim S' P' I' x (n + 1) → BL g ML_law sb sl sx JT rc rs 900 (LLV sb x (6 * n)) [] S' P' I' Q) : BL g ML_law sb sl sx JT (rc + 84) (rs + 1130) 482 (LLV sb x (6 * n)) [] S P I Q := by
  refine BL.less (rc' := rc + 0 + 0) (rs' := rs + 0 + 0) ?_ (by omega) (by omega)
  refine BL.aload_n 1 dL_law_482 rfl rfl ?_
  refine BL.arg (t := 1) dL_law_483 dL_law_484 dL_law_485 dL_law_486 dL_law_487 rfl hb (by omega) (by omega) ?_
  refine BL.callV (J' := fun H => OC g H (x + 96) 9) (M' := MX8_dry) (rc := rc + 0) (rs := rs + 0) (mc := 0) (ms := 0) (st := []) [.int (sx (6 * n + 1))] dL_law_488 mv_X8_dry lk_L_60 ⟨Nat.le_of_ble_eq_true rfl, Nat.le_of_ble_eq_true rfl⟩ rfl rfl (Nat.le_of_ble_eq_true rfl) (oc8 hS) (oc9 hS) ?_
  refine T.mono (sim_dry hS _) (fun r S1 P1 I1 hT => ?_)
  refine BL.aload_n 2 dL_law_491 rfl rfl ?_
  refine BL.arg (t := 1) dL_law_492 dL_law_493 dL_law_494 dL_law_495 dL_law_496 rfl hb (by omega) (by omega) ?_
  refine BL.callV (J' := JT) (M' := MX9_dry) (rc := rc) (rs := rs) (mc := 0) (ms := 0) (st := r.toList ++ []) [.int (sx (6 * n + 1))] dL_law_497 mv_X9_dry lk_L_63 ⟨Nat.le_of_ble_eq_true rfl, Nat.le_of_ble_eq_true rfl⟩ rfl rfl (by rw [List.append_nil]; exact cat8 r) (fun _ _ h => h) (fun _ _ _ _ _ => trivial) ?_
  refine T.mono hT (fun r2 S2 P2 I2 h => ?_)
  obtain ⟨rfl, ⟨z, rfl⟩, hS2⟩ := h
  exact BL.icmp_eq 900 dL_law_500 (by decide) (fun _ => K S2 P2 I2 hS2) (fun q => absurd rfl q)
theorem lc_deal (hb : sb < gB g) (hsl : sl ≤ 3072) (hi : 6 * n + 5 < sl) (hS : Sim S P I x n) (K : ∀ S' P' I', Sim S' P' I' x (n + 1) → BL g ML_law sb sl sx JT rc rs 900 (LLV sb x (6 * n)) [] S' P' I' Q) : BL g ML_law sb sl sx JT (rc + 84) (rs + 1130) 505 (LLV sb x (6 * n)) [] S P I Q := by
  refine BL.less (rc' := rc + 0 + 0) (rs' := rs + 0 + 0) ?_ (by omega) (by omega)
  refine BL.aload_n 1 dL_law_505 rfl rfl ?_
  refine BL.callV (J' := fun H => OC g H (x + 96) 9) (M' := MX8_deal) (rc := rc + 0) (rs := rs + 0) (mc := 0) (ms := 0) (st := []) [] dL_law_506 mv_X8_deal lk_L_64 ⟨Nat.le_of_ble_eq_true rfl, Nat.le_of_ble_eq_true rfl⟩ rfl rfl (Nat.le_of_ble_eq_true rfl) (oc8 hS) (oc9 hS) ?_
  refine T.mono (sim_deal hS) (fun r S1 P1 I1 hT => ?_)
  refine BL.aload_n 2 dL_law_509 rfl rfl ?_
  refine BL.callV (J' := JT) (M' := MX9_deal) (rc := rc) (rs := rs) (mc := 0) (ms := 0) (st := r.toList ++ []) [] dL_law_510 mv_X9_deal lk_L_67 ⟨Nat.le_of_ble_eq_true rfl, Nat.le_of_ble_eq_true rfl⟩ rfl rfl (by rw [List.append_nil]; exact cat8 r) (fun _ _ h => h) (fun _ _ _ _ _ => trivial) ?_
  refine T.mono hT (fun r2 S2 P2 I2 h => ?_)
  obtain ⟨rfl, ⟨z, rfl⟩, hS2⟩ := h
  exact BL.icmp_eq 900 dL_law_513 (by decide) (fun _ => K S2 P2 I2 hS2) (fun q => absurd rfl q)
theorem lc_spread (hb : sb < gB g) (hsl : sl ≤ 3072) (hi : 6 * n + 5 < sl) (hS : Sim S P I x n) (K : ∀ S' P' I', Sim S' P' I' x (n + 1) → BL g ML_law sb sl sx JT rc rs 900 (LLV sb x (6 * n)) [] S' P' I' Q) : BL g ML_law sb sl sx JT (rc + 84) (rs + 1130) 518 (LLV sb x (6 * n)) [] S P I Q := by
  refine BL.less (rc' := rc + 0 + 0) (rs' := rs + 0 + 0) ?_ (by omega) (by omega)
  refine BL.aload_n 1 dL_law_518 rfl rfl ?_
  refine BL.callV (J' := fun H => OC g H (x + 96) 9) (M' := MX8_spread) (rc := rc + 0) (rs := rs + 0) (mc := 0) (ms := 0) (st := []) [] dL_law_519 mv_X8_spread lk_L_68 ⟨Nat.le_of_ble_eq_true rfl, Nat.le_of_ble_eq_true rfl⟩ rfl rfl (Nat.le_of_ble_eq_true rfl) (oc8 hS) (oc9 hS) ?_
  refine T.mono (sim_spread hS (by omega)) (fun r S1 P1 I1 hT => ?_)
  refine BL.aload_n 2 dL_law_522 rfl rfl ?_
  refine BL.callV (J' := JT) (M' := MX9_spread) (rc := rc) (rs := rs) (mc := 0) (ms := 0) (st := r.toList ++ []) [] dL_law_523 mv_X9_spread lk_L_71 ⟨Nat.le_of_ble_eq_true rfl, Nat.le_of_ble_eq_true rfl⟩ rfl rfl (by rw [List.append_nil]; exact cat8 r) (fun _ _ h => h) (fun _ _ _ _ _ => trivial) ?_
  refine T.mono hT (fun r2 S2 P2 I2 h => ?_)
  obtain ⟨rfl, ⟨z, rfl⟩, hS2⟩ := h
  exact BL.icmp_eq 900 dL_law_526 (by decide) (fun _ => K S2 P2 I2 hS2) (fun q => absurd rfl q)
theorem lc_fire (hb : sb < gB g) (hsl : sl ≤ 3072) (hi : 6 * n + 5 < sl) (hS : Sim S P I x n) (K : ∀ S' P' I', Sim S' P' I' x (n + 1) → BL g ML_law sb sl sx JT rc rs 900 (LLV sb x (6 * n)) [] S' P' I' Q) : BL g ML_law sb sl sx JT (rc + 84) (rs + 1130) 531 (LLV sb x (6 * n)) [] S P I Q := by
  refine BL.less (rc' := rc + 0 + 0) (rs' := rs + 0 + 0) ?_ (by omega) (by omega)
  refine BL.aload_n 1 dL_law_531 rfl rfl ?_
  refine BL.arg (t := 1) dL_law_532 dL_law_533 dL_law_534 dL_law_535 dL_law_536 rfl hb (by omega) (by omega) ?_
  refine BL.arg (t := 2) dL_law_537 dL_law_538 dL_law_539 dL_law_540 dL_law_541 rfl hb (by omega) (by omega) ?_
  refine BL.callV (J' := fun H => OC g H (x + 96) 9) (M' := MX8_fire) (rc := rc + 0) (rs := rs + 0) (mc := 0) (ms := 0) (st := []) [.int (sx (6 * n + 1)), .int (sx (6 * n + 2))] dL_law_542 mv_X8_fire lk_L_72 ⟨Nat.le_of_ble_eq_true rfl, Nat.le_of_ble_eq_true rfl⟩ rfl rfl (Nat.le_of_ble_eq_true rfl) (oc8 hS) (oc9 hS) ?_
  refine T.mono (sim_fire hS (by omega) _ _) (fun r S1 P1 I1 hT => ?_)
  refine BL.aload_n 2 dL_law_545 rfl rfl ?_
  refine BL.arg (t := 1) dL_law_546 dL_law_547 dL_law_548 dL_law_549 dL_law_550 rfl hb (by omega) (by omega) ?_
  refine BL.arg (t := 2) dL_law_551 dL_law_552 dL_law_553 dL_law_554 dL_law_555 rfl hb (by omega) (by omega) ?_
  refine BL.callV (J' := JT) (M' := MX9_fire) (rc := rc) (rs := rs) (mc := 0) (ms := 0) (st := r.toList ++ []) [.int (sx (6 * n + 1)), .int (sx (6 * n + 2))] dL_law_556 mv_X9_fire lk_L_76 ⟨Nat.le_of_ble_eq_true rfl, Nat.le_of_ble_eq_true rfl⟩ rfl rfl (by rw [List.append_nil]; exact cat8 r) (fun _ _ h => h) (fun _ _ _ _ _ => trivial) ?_
  refine T.mono hT (fun r2 S2 P2 I2 h => ?_)
  obtain ⟨rfl, ⟨z, rfl⟩, hS2⟩ := h
  exact BL.icmp_eq 900 dL_law_559 (by decide) (fun _ => K S2 P2 I2 hS2) (fun q => absurd rfl q)
theorem lc_rest (hb : sb < gB g) (hsl : sl ≤ 3072) (hi : 6 * n + 5 < sl) (hS : Sim S P I x n) (K : ∀ S' P' I', Sim S' P' I' x (n + 1) → BL g ML_law sb sl sx JT rc rs 900 (LLV sb x (6 * n)) [] S' P' I' Q) : BL g ML_law sb sl sx JT (rc + 84) (rs + 1130) 564 (LLV sb x (6 * n)) [] S P I Q := by
  refine BL.less (rc' := rc + 0 + 0) (rs' := rs + 0 + 0) ?_ (by omega) (by omega)
  refine BL.aload_n 1 dL_law_564 rfl rfl ?_
  refine BL.arg (t := 1) dL_law_565 dL_law_566 dL_law_567 dL_law_568 dL_law_569 rfl hb (by omega) (by omega) ?_
  refine BL.callV (J' := fun H => OC g H (x + 96) 9) (M' := MX8_rest) (rc := rc + 0) (rs := rs + 0) (mc := 0) (ms := 0) (st := []) [.int (sx (6 * n + 1))] dL_law_570 mv_X8_rest lk_L_77 ⟨Nat.le_of_ble_eq_true rfl, Nat.le_of_ble_eq_true rfl⟩ rfl rfl (Nat.le_of_ble_eq_true rfl) (oc8 hS) (oc9 hS) ?_
  refine T.mono (sim_rest hS (by omega) _) (fun r S1 P1 I1 hT => ?_)
  refine BL.aload_n 2 dL_law_573 rfl rfl ?_
  refine BL.arg (t := 1) dL_law_574 dL_law_575 dL_law_576 dL_law_577 dL_law_578 rfl hb (by omega) (by omega) ?_
  refine BL.callV (J' := JT) (M' := MX9_rest) (rc := rc) (rs := rs) (mc := 0) (ms := 0) (st := r.toList ++ []) [.int (sx (6 * n + 1))] dL_law_579 mv_X9_rest lk_L_80 ⟨Nat.le_of_ble_eq_true rfl, Nat.le_of_ble_eq_true rfl⟩ rfl rfl (by rw [List.append_nil]; exact cat8 r) (fun _ _ h => h) (fun _ _ _ _ _ => trivial) ?_
  refine T.mono hT (fun r2 S2 P2 I2 h => ?_)
  obtain ⟨rfl, ⟨z, rfl⟩, hS2⟩ := h
  exact BL.icmp_eq 900 dL_law_582 (by decide) (fun _ => K S2 P2 I2 hS2) (fun q => absurd rfl q)
theorem lc_heat (hb : sb < gB g) (hsl : sl ≤ 3072) (hi : 6 * n + 5 < sl) (hS : Sim S P I x n) (K : ∀ S' P' I', Sim S' P' I' x (n + 1) → BL g ML_law sb sl sx JT rc rs 900 (LLV sb x (6 * n)) [] S' P' I' Q) : BL g ML_law sb sl sx JT (rc + 84) (rs + 1130) 587 (LLV sb x (6 * n)) [] S P I Q := by
  refine BL.less (rc' := rc + 0 + 0) (rs' := rs + 0 + 0) ?_ (by omega) (by omega)
  refine BL.aload_n 1 dL_law_587 rfl rfl ?_
  refine BL.arg (t := 1) dL_law_588 dL_law_589 dL_law_590 dL_law_591 dL_law_592 rfl hb (by omega) (by omega) ?_
  refine BL.callV (J' := fun H => OC g H (x + 96) 9) (M' := MX8_heat) (rc := rc + 0) (rs := rs + 0) (mc := 0) (ms := 0) (st := []) [.int (sx (6 * n + 1))] dL_law_593 mv_X8_heat lk_L_81 ⟨Nat.le_of_ble_eq_true rfl, Nat.le_of_ble_eq_true rfl⟩ rfl rfl (Nat.le_of_ble_eq_true rfl) (oc8 hS) (oc9 hS) ?_
  refine T.mono (sim_heat hS _) (fun r S1 P1 I1 hT => ?_)
  refine BL.aload_n 2 dL_law_596 rfl rfl ?_
  refine BL.arg (t := 1) dL_law_597 dL_law_598 dL_law_599 dL_law_600 dL_law_601 rfl hb (by omega) (by omega) ?_
  refine BL.callV (J' := JT) (M' := MX9_heat) (rc := rc) (rs := rs) (mc := 0) (ms := 0) (st := r.toList ++ []) [.int (sx (6 * n + 1))] dL_law_602 mv_X9_heat lk_L_84 ⟨Nat.le_of_ble_eq_true rfl, Nat.le_of_ble_eq_true rfl⟩ rfl rfl (by rw [List.append_nil]; exact cat8 r) (fun _ _ h => h) (fun _ _ _ _ _ => trivial) ?_
  refine T.mono hT (fun r2 S2 P2 I2 h => ?_)
  obtain ⟨rfl, ⟨z, rfl⟩, hS2⟩ := h
  exact BL.icmp_eq 900 dL_law_605 (by decide) (fun _ => K S2 P2 I2 hS2) (fun q => absurd rfl q)
theorem lc_open (hb : sb < gB g) (hsl : sl ≤ 3072) (hi : 6 * n + 5 < sl) (hS : Sim S P I x n) (K : ∀ S' P' I', Sim S' P' I' x (n + 1) → BL g ML_law sb sl sx JT rc rs 900 (LLV sb x (6 * n)) [] S' P' I' Q) : BL g ML_law sb sl sx JT (rc + 84) (rs + 1130) 610 (LLV sb x (6 * n)) [] S P I Q := by
  refine BL.less (rc' := rc + 0 + 0) (rs' := rs + 0 + 0) ?_ (by omega) (by omega)
  refine BL.aload_n 1 dL_law_610 rfl rfl ?_
  refine BL.callV (J' := fun H => OC g H (x + 96) 9) (M' := MX8_open) (rc := rc + 0) (rs := rs + 0) (mc := 0) (ms := 0) (st := []) [] dL_law_611 mv_X8_open lk_L_85 ⟨Nat.le_of_ble_eq_true rfl, Nat.le_of_ble_eq_true rfl⟩ rfl rfl (Nat.le_of_ble_eq_true rfl) (oc8 hS) (oc9 hS) ?_
  refine T.mono (sim_open hS) (fun r S1 P1 I1 hT => ?_)
  refine BL.aload_n 2 dL_law_614 rfl rfl ?_
  refine BL.callV (J' := JT) (M' := MX9_open) (rc := rc) (rs := rs) (mc := 0) (ms := 0) (st := r.toList ++ []) [] dL_law_615 mv_X9_open lk_L_88 ⟨Nat.le_of_ble_eq_true rfl, Nat.le_of_ble_eq_true rfl⟩ rfl rfl (by rw [List.append_nil]; exact cat8 r) (fun _ _ h => h) (fun _ _ _ _ _ => trivial) ?_
  refine T.mono hT (fun r2 S2 P2 I2 h => ?_)
  obtain ⟨rfl, ⟨z, rfl⟩, hS2⟩ := h
  exact BL.icmp_eq 900 dL_law_618 (by decide) (fun _ => K S2 P2 I2 hS2) (fun q => absurd rfl q)
theorem lc_about (hb : sb < gB g) (hsl : sl ≤ 3072) (hi : 6 * n + 5 < sl) (hS : Sim S P I x n) (K : ∀ S' P' I', Sim S' P' I' x (n + 1) → BL g ML_law sb sl sx JT rc rs 900 (LLV sb x (6 * n)) [] S' P' I' Q) : BL g ML_law sb sl sx JT (rc + 84) (rs + 1130) 623 (LLV sb x (6 * n)) [] S P I Q := by
  refine BL.less (rc' := rc + 0 + 0) (rs' := rs + 0 + 0) ?_ (by omega) (by omega)
  refine BL.aload_n 1 dL_law_623 rfl rfl ?_
  refine BL.arg (t := 1) dL_law_624 dL_law_625 dL_law_626 dL_law_627 dL_law_628 rfl hb (by omega) (by omega) ?_
  refine BL.arg (t := 2) dL_law_629 dL_law_630 dL_law_631 dL_law_632 dL_law_633 rfl hb (by omega) (by omega) ?_
  refine BL.callV (J' := fun H => OC g H (x + 96) 9) (M' := MX8_about) (rc := rc + 0) (rs := rs + 0) (mc := 0) (ms := 0) (st := []) [.int (sx (6 * n + 1)), .int (sx (6 * n + 2))] dL_law_634 mv_X8_about lk_L_89 ⟨Nat.le_of_ble_eq_true rfl, Nat.le_of_ble_eq_true rfl⟩ rfl rfl (Nat.le_of_ble_eq_true rfl) (oc8 hS) (oc9 hS) ?_
  refine T.mono (sim_about hS _ _) (fun r S1 P1 I1 hT => ?_)
  refine BL.aload_n 2 dL_law_637 rfl rfl ?_
  refine BL.arg (t := 1) dL_law_638 dL_law_639 dL_law_640 dL_law_641 dL_law_642 rfl hb (by omega) (by omega) ?_
  refine BL.arg (t := 2) dL_law_643 dL_law_644 dL_law_645 dL_law_646 dL_law_647 rfl hb (by omega) (by omega) ?_
  refine BL.callV (J' := JT) (M' := MX9_about) (rc := rc) (rs := rs) (mc := 0) (ms := 0) (st := r.toList ++ []) [.int (sx (6 * n + 1)), .int (sx (6 * n + 2))] dL_law_648 mv_X9_about lk_L_92 ⟨Nat.le_of_ble_eq_true rfl, Nat.le_of_ble_eq_true rfl⟩ rfl rfl (by rw [List.append_nil]; exact cat8 r) (fun _ _ h => h) (fun _ _ _ _ _ => trivial) ?_
  refine T.mono hT (fun r2 S2 P2 I2 h => ?_)
  obtain ⟨rfl, ⟨z, rfl⟩, hS2⟩ := h
  exact BL.icmp_eq 900 dL_law_651 (by decide) (fun _ => K S2 P2 I2 hS2) (fun q => absurd rfl q)
theorem lc_at (hb : sb < gB g) (hsl : sl ≤ 3072) (hi : 6 * n + 5 < sl) (hS : Sim S P I x n) (K : ∀ S' P' I', Sim S' P' I' x (n + 1) → BL g ML_law sb sl sx JT rc rs 900 (LLV sb x (6 * n)) [] S' P' I' Q) : BL g ML_law sb sl sx JT (rc + 84) (rs + 1130) 656 (LLV sb x (6 * n)) [] S P I Q := by
  refine BL.less (rc' := rc + 0 + 0) (rs' := rs + 0 + 0) ?_ (by omega) (by omega)
  refine BL.aload_n 1 dL_law_656 rfl rfl ?_
  refine BL.arg (t := 1) dL_law_657 dL_law_658 dL_law_659 dL_law_660 dL_law_661 rfl hb (by omega) (by omega) ?_
  refine BL.arg (t := 2) dL_law_662 dL_law_663 dL_law_664 dL_law_665 dL_law_666 rfl hb (by omega) (by omega) ?_
  refine BL.callV (J' := fun H => OC g H (x + 96) 9) (M' := MX8_at) (rc := rc + 0) (rs := rs + 0) (mc := 0) (ms := 0) (st := []) [.int (sx (6 * n + 1)), .int (sx (6 * n + 2))] dL_law_667 mv_X8_at lk_L_93 ⟨Nat.le_of_ble_eq_true rfl, Nat.le_of_ble_eq_true rfl⟩ rfl rfl (Nat.le_of_ble_eq_true rfl) (oc8 hS) (oc9 hS) ?_
  refine T.mono (sim_at hS _ _) (fun r S1 P1 I1 hT => ?_)
  refine BL.aload_n 2 dL_law_670 rfl rfl ?_
  refine BL.arg (t := 1) dL_law_671 dL_law_672 dL_law_673 dL_law_674 dL_law_675 rfl hb (by omega) (by omega) ?_
  refine BL.arg (t := 2) dL_law_676 dL_law_677 dL_law_678 dL_law_679 dL_law_680 rfl hb (by omega) (by omega) ?_
  refine BL.callV (J' := JT) (M' := MX9_at) (rc := rc) (rs := rs) (mc := 0) (ms := 0) (st := r.toList ++ []) [.int (sx (6 * n + 1)), .int (sx (6 * n + 2))] dL_law_681 mv_X9_at lk_L_96 ⟨Nat.le_of_ble_eq_true rfl, Nat.le_of_ble_eq_true rfl⟩ rfl rfl (by rw [List.append_nil]; exact cat8 r) (fun _ _ h => h) (fun _ _ _ _ _ => trivial) ?_
  refine T.mono hT (fun r2 S2 P2 I2 h => ?_)
  obtain ⟨rfl, ⟨z, rfl⟩, hS2⟩ := h
  exact BL.icmp_eq 900 dL_law_684 (by decide) (fun _ => K S2 P2 I2 hS2) (fun q => absurd rfl q)
theorem lc_tell (hb : sb < gB g) (hsl : sl ≤ 3072) (hi : 6 * n + 5 < sl) (hS : Sim S P I x n) (K : ∀ S' P' I', Sim S' P' I' x (n + 1) → BL g ML_law sb sl sx JT rc rs 900 (LLV sb x (6 * n)) [] S' P' I' Q) : BL g ML_law sb sl sx JT (rc + 84) (rs + 1130) 689 (LLV sb x (6 * n)) [] S P I Q := by
  refine BL.less (rc' := rc + 0 + 0) (rs' := rs + 0 + 0) ?_ (by omega) (by omega)
  refine BL.aload_n 1 dL_law_689 rfl rfl ?_
  refine BL.arg (t := 1) dL_law_690 dL_law_691 dL_law_692 dL_law_693 dL_law_694 rfl hb (by omega) (by omega) ?_
  refine BL.arg (t := 2) dL_law_695 dL_law_696 dL_law_697 dL_law_698 dL_law_699 rfl hb (by omega) (by omega) ?_
  refine BL.callV (J' := fun H => OC g H (x + 96) 9) (M' := MX8_tell) (rc := rc + 0) (rs := rs + 0) (mc := 0) (ms := 0) (st := []) [.int (sx (6 * n + 1)), .int (sx (6 * n + 2))] dL_law_700 mv_X8_tell lk_L_97 ⟨Nat.le_of_ble_eq_true rfl, Nat.le_of_ble_eq_true rfl⟩ rfl rfl (Nat.le_of_ble_eq_true rfl) (oc8 hS) (oc9 hS) ?_
  refine T.mono (sim_tell hS _ _) (fun r S1 P1 I1 hT => ?_)
  refine BL.aload_n 2 dL_law_703 rfl rfl ?_
  refine BL.arg (t := 1) dL_law_704 dL_law_705 dL_law_706 dL_law_707 dL_law_708 rfl hb (by omega) (by omega) ?_
  refine BL.arg (t := 2) dL_law_709 dL_law_710 dL_law_711 dL_law_712 dL_law_713 rfl hb (by omega) (by omega) ?_
  refine BL.callV (J' := JT) (M' := MX9_tell) (rc := rc) (rs := rs) (mc := 0) (ms := 0) (st := r.toList ++ []) [.int (sx (6 * n + 1)), .int (sx (6 * n + 2))] dL_law_714 mv_X9_tell lk_L_100 ⟨Nat.le_of_ble_eq_true rfl, Nat.le_of_ble_eq_true rfl⟩ rfl rfl (by rw [List.append_nil]; exact cat8 r) (fun _ _ h => h) (fun _ _ _ _ _ => trivial) ?_
  refine T.mono hT (fun r2 S2 P2 I2 h => ?_)
  obtain ⟨rfl, ⟨z, rfl⟩, hS2⟩ := h
  exact BL.icmp_eq 900 dL_law_717 (by decide) (fun _ => K S2 P2 I2 hS2) (fun q => absurd rfl q)
theorem lc_order (hb : sb < gB g) (hsl : sl ≤ 3072) (hi : 6 * n + 5 < sl) (hS : Sim S P I x n) (K : ∀ S' P' I', Sim S' P' I' x (n + 1) → BL g ML_law sb sl sx JT rc rs 900 (LLV sb x (6 * n)) [] S' P' I' Q) : BL g ML_law sb sl sx JT (rc + 84) (rs + 1130) 722 (LLV sb x (6 * n)) [] S P I Q := by
  refine BL.less (rc' := rc + 0 + 0) (rs' := rs + 0 + 0) ?_ (by omega) (by omega)
  refine BL.aload_n 1 dL_law_722 rfl rfl ?_
  refine BL.arg (t := 1) dL_law_723 dL_law_724 dL_law_725 dL_law_726 dL_law_727 rfl hb (by omega) (by omega) ?_
  refine BL.arg (t := 2) dL_law_728 dL_law_729 dL_law_730 dL_law_731 dL_law_732 rfl hb (by omega) (by omega) ?_
  refine BL.arg (t := 3) dL_law_733 dL_law_734 dL_law_735 dL_law_736 dL_law_737 rfl hb (by omega) (by omega) ?_
  refine BL.arg (t := 4) dL_law_738 dL_law_739 dL_law_740 dL_law_741 dL_law_742 rfl hb (by omega) (by omega) ?_
  refine BL.callV (J' := fun H => OC g H (x + 96) 9) (M' := MX8_order) (rc := rc + 0) (rs := rs + 0) (mc := 0) (ms := 0) (st := []) [.int (sx (6 * n + 1)), .int (sx (6 * n + 2)), .int (sx (6 * n + 3)), .int (sx (6 * n + 4))] dL_law_743 mv_X8_order lk_L_101 ⟨Nat.le_of_ble_eq_true rfl, Nat.le_of_ble_eq_true rfl⟩ rfl rfl (Nat.le_of_ble_eq_true rfl) (oc8 hS) (oc9 hS) ?_
  refine T.mono (sim_order hS _ _ _ _) (fun r S1 P1 I1 hT => ?_)
  refine BL.aload_n 2 dL_law_746 rfl rfl ?_
  refine BL.arg (t := 1) dL_law_747 dL_law_748 dL_law_749 dL_law_750 dL_law_751 rfl hb (by omega) (by omega) ?_
  refine BL.arg (t := 2) dL_law_752 dL_law_753 dL_law_754 dL_law_755 dL_law_756 rfl hb (by omega) (by omega) ?_
  refine BL.arg (t := 3) dL_law_757 dL_law_758 dL_law_759 dL_law_760 dL_law_761 rfl hb (by omega) (by omega) ?_
  refine BL.arg (t := 4) dL_law_762 dL_law_763 dL_law_764 dL_law_765 dL_law_766 rfl hb (by omega) (by omega) ?_
  refine BL.callV (J' := JT) (M' := MX9_order) (rc := rc) (rs := rs) (mc := 0) (ms := 0) (st := r.toList ++ []) [.int (sx (6 * n + 1)), .int (sx (6 * n + 2)), .int (sx (6 * n + 3)), .int (sx (6 * n + 4))] dL_law_767 mv_X9_order lk_L_104 ⟨Nat.le_of_ble_eq_true rfl, Nat.le_of_ble_eq_true rfl⟩ rfl rfl (by rw [List.append_nil]; exact cat8 r) (fun _ _ h => h) (fun _ _ _ _ _ => trivial) ?_
  refine T.mono hT (fun r2 S2 P2 I2 h => ?_)
  obtain ⟨rfl, ⟨z, rfl⟩, hS2⟩ := h
  exact BL.icmp_eq 900 dL_law_770 (by decide) (fun _ => K S2 P2 I2 hS2) (fun q => absurd rfl q)
theorem lc_inTime (hb : sb < gB g) (hsl : sl ≤ 3072) (hi : 6 * n + 5 < sl) (hS : Sim S P I x n) (K : ∀ S' P' I', Sim S' P' I' x (n + 1) → BL g ML_law sb sl sx JT rc rs 900 (LLV sb x (6 * n)) [] S' P' I' Q) : BL g ML_law sb sl sx JT (rc + 84) (rs + 1130) 775 (LLV sb x (6 * n)) [] S P I Q := by
  refine BL.less (rc' := rc + 0 + 0) (rs' := rs + 0 + 0) ?_ (by omega) (by omega)
  refine BL.aload_n 1 dL_law_775 rfl rfl ?_
  refine BL.arg (t := 1) dL_law_776 dL_law_777 dL_law_778 dL_law_779 dL_law_780 rfl hb (by omega) (by omega) ?_
  refine BL.arg (t := 2) dL_law_781 dL_law_782 dL_law_783 dL_law_784 dL_law_785 rfl hb (by omega) (by omega) ?_
  refine BL.callV (J' := fun H => OC g H (x + 96) 9) (M' := MX8_inTime) (rc := rc + 0) (rs := rs + 0) (mc := 0) (ms := 0) (st := []) [.int (sx (6 * n + 1)), .int (sx (6 * n + 2))] dL_law_786 mv_X8_inTime lk_L_105 ⟨Nat.le_of_ble_eq_true rfl, Nat.le_of_ble_eq_true rfl⟩ rfl rfl (Nat.le_of_ble_eq_true rfl) (oc8 hS) (oc9 hS) ?_
  refine T.mono (sim_inTime hS _ _) (fun r S1 P1 I1 hT => ?_)
  refine BL.aload_n 2 dL_law_789 rfl rfl ?_
  refine BL.arg (t := 1) dL_law_790 dL_law_791 dL_law_792 dL_law_793 dL_law_794 rfl hb (by omega) (by omega) ?_
  refine BL.arg (t := 2) dL_law_795 dL_law_796 dL_law_797 dL_law_798 dL_law_799 rfl hb (by omega) (by omega) ?_
  refine BL.callV (J' := JT) (M' := MX9_inTime) (rc := rc) (rs := rs) (mc := 0) (ms := 0) (st := r.toList ++ []) [.int (sx (6 * n + 1)), .int (sx (6 * n + 2))] dL_law_800 mv_X9_inTime lk_L_108 ⟨Nat.le_of_ble_eq_true rfl, Nat.le_of_ble_eq_true rfl⟩ rfl rfl (by rw [List.append_nil]; exact cat8 r) (fun _ _ h => h) (fun _ _ _ _ _ => trivial) ?_
  refine T.mono hT (fun r2 S2 P2 I2 h => ?_)
  obtain ⟨rfl, ⟨z, rfl⟩, hS2⟩ := h
  exact BL.icmp_eq 900 dL_law_803 (by decide) (fun _ => K S2 P2 I2 hS2) (fun q => absurd rfl q)
theorem lc_forget (hb : sb < gB g) (hsl : sl ≤ 3072) (hi : 6 * n + 5 < sl) (hS : Sim S P I x n) (K : ∀ S' P' I', Sim S' P' I' x (n + 1) → BL g ML_law sb sl sx JT rc rs 900 (LLV sb x (6 * n)) [] S' P' I' Q) : BL g ML_law sb sl sx JT (rc + 84) (rs + 1130) 808 (LLV sb x (6 * n)) [] S P I Q := by
  refine BL.less (rc' := rc + 0 + 0) (rs' := rs + 0 + 0) ?_ (by omega) (by omega)
  refine BL.aload_n 1 dL_law_808 rfl rfl ?_
  refine BL.arg (t := 1) dL_law_809 dL_law_810 dL_law_811 dL_law_812 dL_law_813 rfl hb (by omega) (by omega) ?_
  refine BL.callV (J' := fun H => OC g H (x + 96) 9) (M' := MX8_forget) (rc := rc + 0) (rs := rs + 0) (mc := 0) (ms := 0) (st := []) [.int (sx (6 * n + 1))] dL_law_814 mv_X8_forget lk_L_109 ⟨Nat.le_of_ble_eq_true rfl, Nat.le_of_ble_eq_true rfl⟩ rfl rfl (Nat.le_of_ble_eq_true rfl) (oc8 hS) (oc9 hS) ?_
  refine T.mono (sim_forget hS _) (fun r S1 P1 I1 hT => ?_)
  refine BL.aload_n 2 dL_law_817 rfl rfl ?_
  refine BL.arg (t := 1) dL_law_818 dL_law_819 dL_law_820 dL_law_821 dL_law_822 rfl hb (by omega) (by omega) ?_
  refine BL.callV (J' := JT) (M' := MX9_forget) (rc := rc) (rs := rs) (mc := 0) (ms := 0) (st := r.toList ++ []) [.int (sx (6 * n + 1))] dL_law_823 mv_X9_forget lk_L_112 ⟨Nat.le_of_ble_eq_true rfl, Nat.le_of_ble_eq_true rfl⟩ rfl rfl (by rw [List.append_nil]; exact cat8 r) (fun _ _ h => h) (fun _ _ _ _ _ => trivial) ?_
  refine T.mono hT (fun r2 S2 P2 I2 h => ?_)
  obtain ⟨rfl, ⟨z, rfl⟩, hS2⟩ := h
  exact BL.icmp_eq 900 dL_law_826 (by decide) (fun _ => K S2 P2 I2 hS2) (fun q => absurd rfl q)
theorem lc_count (hb : sb < gB g) (hsl : sl ≤ 3072) (hi : 6 * n + 5 < sl) (hS : Sim S P I x n) (K : ∀ S' P' I', Sim S' P' I' x (n + 1) → BL g ML_law sb sl sx JT rc rs 900 (LLV sb x (6 * n)) [] S' P' I' Q) : BL g ML_law sb sl sx JT (rc + 84) (rs + 1130) 831 (LLV sb x (6 * n)) [] S P I Q := by
  refine BL.less (rc' := rc + 0 + 0) (rs' := rs + 0 + 0) ?_ (by omega) (by omega)
  refine BL.aload_n 1 dL_law_831 rfl rfl ?_
  refine BL.arg (t := 1) dL_law_832 dL_law_833 dL_law_834 dL_law_835 dL_law_836 rfl hb (by omega) (by omega) ?_
  refine BL.callV (J' := fun H => OC g H (x + 96) 9) (M' := MX8_count) (rc := rc + 0) (rs := rs + 0) (mc := 0) (ms := 0) (st := []) [.int (sx (6 * n + 1))] dL_law_837 mv_X8_count lk_L_113 ⟨Nat.le_of_ble_eq_true rfl, Nat.le_of_ble_eq_true rfl⟩ rfl rfl (Nat.le_of_ble_eq_true rfl) (oc8 hS) (oc9 hS) ?_
  refine T.mono (sim_count hS _) (fun r S1 P1 I1 hT => ?_)
  refine BL.aload_n 2 dL_law_840 rfl rfl ?_
  refine BL.arg (t := 1) dL_law_841 dL_law_842 dL_law_843 dL_law_844 dL_law_845 rfl hb (by omega) (by omega) ?_
  refine BL.callV (J' := JT) (M' := MX9_count) (rc := rc) (rs := rs) (mc := 0) (ms := 0) (st := r.toList ++ []) [.int (sx (6 * n + 1))] dL_law_846 mv_X9_count lk_L_116 ⟨Nat.le_of_ble_eq_true rfl, Nat.le_of_ble_eq_true rfl⟩ rfl rfl (by rw [List.append_nil]; exact cat8 r) (fun _ _ h => h) (fun _ _ _ _ _ => trivial) ?_
  refine T.mono hT (fun r2 S2 P2 I2 h => ?_)
  obtain ⟨rfl, ⟨z, rfl⟩, hS2⟩ := h
  exact BL.icmp_eq 900 dL_law_849 (by decide) (fun _ => K S2 P2 I2 hS2) (fun q => absurd rfl q)
theorem lc_image (hb : sb < gB g) (hsl : sl ≤ 3072) (hi : 6 * n + 5 < sl) (hS : Sim S P I x n) (K : ∀ S' P' I', Sim S' P' I' x (n + 1) → BL g ML_law sb sl sx JT rc rs 900 (LLV sb x (6 * n)) [] S' P' I' Q) : BL g ML_law sb sl sx JT (rc + 84) (rs + 1130) 854 (LLV sb x (6 * n)) [] S P I Q := by
  refine BL.less (rc' := rc + 0 + 84) (rs' := rs + 0 + 1130) ?_ (by omega) (by omega)
  refine BL.aload_n 1 dL_law_854 rfl rfl ?_
  refine BL.arg (t := 1) dL_law_855 dL_law_856 dL_law_857 dL_law_858 dL_law_859 rfl hb (by omega) (by omega) ?_
  refine BL.callV (J' := fun H => OC g H (x + 96) 9) (M' := MX8_image) (rc := rc + 0) (rs := rs + 0) (mc := 84) (ms := 1130) (st := []) [.int (sx (6 * n + 1))] dL_law_860 mv_X8_image lk_L_117 ⟨Nat.le_of_ble_eq_true rfl, Nat.le_of_ble_eq_true rfl⟩ rfl rfl (Nat.le_of_ble_eq_true rfl) (oc8 hS) (oc9 hS) ?_
  refine T.mono (sim_image hS _) (fun r S1 P1 I1 hT => ?_)
  refine BL.aload_n 2 dL_law_863 rfl rfl ?_
  refine BL.arg (t := 1) dL_law_864 dL_law_865 dL_law_866 dL_law_867 dL_law_868 rfl hb (by omega) (by omega) ?_
  refine BL.callV (J' := JT) (M' := MX9_image) (rc := rc) (rs := rs) (mc := 0) (ms := 0) (st := r.toList ++ []) [.int (sx (6 * n + 1))] dL_law_869 mv_X9_image lk_L_120 ⟨Nat.le_of_ble_eq_true rfl, Nat.le_of_ble_eq_true rfl⟩ rfl rfl (by rw [List.append_nil]; exact cat8 r) (fun _ _ h => h) (fun _ _ _ _ _ => trivial) ?_
  refine T.mono hT (fun r2 S2 P2 I2 h => ?_)
  obtain ⟨rfl, ⟨z, rfl⟩, hS2⟩ := h
  exact BL.icmp_eq 900 dL_law_872 (by decide) (fun _ => K S2 P2 I2 hS2) (fun q => absurd rfl q)
theorem lc_again (hb : sb < gB g) (hsl : sl ≤ 3072) (hi : 6 * n + 5 < sl) (hS : Sim S P I x n) (K : ∀ S' P' I', Sim S' P' I' x (n + 1) → BL g ML_law sb sl sx JT rc rs 900 (LLV sb x (6 * n)) [] S' P' I' Q) : BL g ML_law sb sl sx JT (rc + 84) (rs + 1130) 877 (LLV sb x (6 * n)) [] S P I Q := by
  refine BL.less (rc' := rc + 0 + 0) (rs' := rs + 0 + 0) ?_ (by omega) (by omega)
  refine BL.aload_n 1 dL_law_877 rfl rfl ?_
  refine BL.arg (t := 1) dL_law_878 dL_law_879 dL_law_880 dL_law_881 dL_law_882 rfl hb (by omega) (by omega) ?_
  refine BL.callV (J' := fun H => OC g H (x + 96) 9) (M' := MX8_again) (rc := rc + 0) (rs := rs + 0) (mc := 0) (ms := 0) (st := []) [.int (sx (6 * n + 1))] dL_law_883 mv_X8_again lk_L_121 ⟨Nat.le_of_ble_eq_true rfl, Nat.le_of_ble_eq_true rfl⟩ rfl rfl (Nat.le_of_ble_eq_true rfl) (oc8 hS) (oc9 hS) ?_
  refine T.mono (sim_again hS _) (fun r S1 P1 I1 hT => ?_)
  refine BL.aload_n 2 dL_law_886 rfl rfl ?_
  refine BL.arg (t := 1) dL_law_887 dL_law_888 dL_law_889 dL_law_890 dL_law_891 rfl hb (by omega) (by omega) ?_
  refine BL.callV (J' := JT) (M' := MX9_again) (rc := rc) (rs := rs) (mc := 0) (ms := 0) (st := r.toList ++ []) [.int (sx (6 * n + 1))] dL_law_892 mv_X9_again lk_L_124 ⟨Nat.le_of_ble_eq_true rfl, Nat.le_of_ble_eq_true rfl⟩ rfl rfl (by rw [List.append_nil]; exact cat8 r) (fun _ _ h => h) (fun _ _ _ _ _ => trivial) ?_
  refine T.mono hT (fun r2 S2 P2 I2 h => ?_)
  obtain ⟨rfl, ⟨z, rfl⟩, hS2⟩ := h
  exact BL.icmp_eq 900 dL_law_895 (by decide) (fun _ => K S2 P2 I2 hS2) (fun q => absurd rfl q)
end LAWC
