/-! the law, case by case -/
set_option maxRecDepth 100000 in
set_option maxHeartbeats 4000000 in
theorem lc_type {p : Program} {l : Launch} {e : Env} {s : State} {m : MethodId} {below : List Frame} {meth : Method} {c : Code} {b L : Nat} {xs : Nat → Int32} {D : va_G} {y : Nat → ClassId} {aC aM t : Nat → Nat} {H : Heap} {locs : List Loc} {ls : Array Slot} {Q : State → Prop} {cells slots i : Nat} {Inv : cS → mS → Prop} {σ : cS} {τ : mS} (hstep : ∀ (z0 : Int64) (z1 : Int32) (σ : cS) (τ : mS), Inv σ τ → v_X7_type (fun r σ1 => w_type (fun r2 τ1 => r = r2 ∧ Inv σ1 τ1) z0 z1 τ) z0 z1 σ) (C : lC p s m meth c b L xs D y t) (hcs : cells ≤ 600000 ∧ slots ≤ 7302250) (hL : L ≤ 4096) (hi : i + 8 ≤ L) (hI : Inv σ τ) (hO : lO D y aC aM s H locs σ τ) (hl : lv_has ls 4 [(0, .ref b), (1, .ref (aC 0)), (2, .ref (aM 0)), (3, .int (nI i))]) (kont : ∀ (σ1 : cS) (τ1 : mS) (H : Heap) (locs : List Loc), Inv σ1 τ1 → lO D y aC aM s H locs σ1 τ1 → W p l e room_1 s m #[Value.ref b] below meth c H locs cells slots Q (F0 m 1162 ls [])) : W p l e room_1 s m #[Value.ref b] below meth c H locs cells slots Q (F0 m 148 ls []) := by
  obtain ⟨hx, hb, hr, hml, hown, hts, hX, hbl, hK, hTs, hNw⟩ := id C
  have hbA : ¬ lA s b := Nat.not_le.mpr hbl
  refine lv_aload_n hx hb dL_law_148 rfl (lv_at hl 1 rfl) ?_
  refine lv_aload_n hx hb dL_law_149 rfl (lv_at hl 0 rfl) ?_
  refine lv_iload_n hx hb dL_law_150 rfl (lv_at hl 3 rfl) ?_
  refine lv_iconst (v := 1) hx hb dL_law_151 (by decide) ?_
  refine lv_iadd hx hb dL_law_152 ?_
  refine va_sld hx hb hX hbl hbA hO.2.2 (lin hi hL (k := 1) (by decide)) dL_law_153 ?_
  refine lv_i2l hx hb dL_law_154 rfl ?_
  refine lv_bipush (v := 32) hx hb dL_law_155 (by decide) ?_
  refine lv_lshl hx hb dL_law_157 rfl ?_
  refine lv_aload_n hx hb dL_law_158 rfl (lv_at hl 0 rfl) ?_
  refine lv_iload_n hx hb dL_law_159 rfl (lv_at hl 3 rfl) ?_
  refine lv_iconst (v := 2) hx hb dL_law_160 (by decide) ?_
  refine lv_iadd hx hb dL_law_161 ?_
  refine va_sld hx hb hX hbl hbA hO.2.2 (lin hi hL (k := 2) (by decide)) dL_law_162 ?_
  refine lv_i2l hx hb dL_law_163 rfl ?_
  refine lv_ldc2 (v := 4294967295) hx hb hown (hts (.constantLong RL 13 (4294967295)) (by decide +kernel)) dL_law_164 ?_
  refine lv_land hx hb dL_law_167 ?_
  refine lv_lor hx hb dL_law_168 ?_
  refine lv_aload_n hx hb dL_law_169 rfl (lv_at hl 0 rfl) ?_
  refine lv_iload_n hx hb dL_law_170 rfl (lv_at hl 3 rfl) ?_
  refine lv_iconst (v := 3) hx hb dL_law_171 (by decide) ?_
  refine lv_iadd hx hb dL_law_172 ?_
  refine va_sld hx hb hX hbl hbA hO.2.2 (lin hi hL (k := 3) (by decide)) dL_law_173 ?_
  have hw := hstep ((((xs (nI i + (1 : Int32)).toNatClampNeg).toInt64) <<< ((32 : Int32).toInt64 &&& 63)) ||| (((xs (nI i + (2 : Int32)).toNatClampNeg).toInt64) &&& (4294967295 : Int64))) (xs (nI i + (3 : Int32)).toNatClampNeg) σ τ hI
  refine lx_cic C hO (cc_X7_type l D y aC t _ σ ((((xs (nI i + (1 : Int32)).toNatClampNeg).toInt64) <<< ((32 : Int32).toInt64 &&& 63)) ||| (((xs (nI i + (2 : Int32)).toNatClampNeg).toInt64) &&& (4294967295 : Int64))) (xs (nI i + (3 : Int32)).toNatClampNeg) _ hw) (cwV 2 hts gL_law_X7_type rfl rfl rfl (by decide +kernel) ⟨Nat.le_of_ble_eq_true rfl, Nat.le_of_ble_eq_true rfl⟩) hcs rfl hl.1 rfl (lv_room (Nat.le_of_ble_eq_true rfl)) dL_law_174 (fun r1 σ1 H locs hw hO => ?_)
  refine lv_aload_n hx hb dL_law_177 rfl (lv_at hl 2 rfl) ?_
  refine lv_aload_n hx hb dL_law_178 rfl (lv_at hl 0 rfl) ?_
  refine lv_iload_n hx hb dL_law_179 rfl (lv_at hl 3 rfl) ?_
  refine lv_iconst (v := 1) hx hb dL_law_180 (by decide) ?_
  refine lv_iadd hx hb dL_law_181 ?_
  refine va_sld hx hb hX hbl hbA hO.2.2 (lin hi hL (k := 1) (by decide)) dL_law_182 ?_
  refine lv_i2l hx hb dL_law_183 rfl ?_
  refine lv_bipush (v := 32) hx hb dL_law_184 (by decide) ?_
  refine lv_lshl hx hb dL_law_186 rfl ?_
  refine lv_aload_n hx hb dL_law_187 rfl (lv_at hl 0 rfl) ?_
  refine lv_iload_n hx hb dL_law_188 rfl (lv_at hl 3 rfl) ?_
  refine lv_iconst (v := 2) hx hb dL_law_189 (by decide) ?_
  refine lv_iadd hx hb dL_law_190 ?_
  refine va_sld hx hb hX hbl hbA hO.2.2 (lin hi hL (k := 2) (by decide)) dL_law_191 ?_
  refine lv_i2l hx hb dL_law_192 rfl ?_
  refine lv_ldc2 (v := 4294967295) hx hb hown (hts (.constantLong RL 13 (4294967295)) (by decide +kernel)) dL_law_193 ?_
  refine lv_land hx hb dL_law_196 ?_
  refine lv_lor hx hb dL_law_197 ?_
  refine lv_aload_n hx hb dL_law_198 rfl (lv_at hl 0 rfl) ?_
  refine lv_iload_n hx hb dL_law_199 rfl (lv_at hl 3 rfl) ?_
  refine lv_iconst (v := 3) hx hb dL_law_200 (by decide) ?_
  refine lv_iadd hx hb dL_law_201 ?_
  refine va_sld hx hb hX hbl hbA hO.2.2 (lin hi hL (k := 3) (by decide)) dL_law_202 ?_
  refine lx_cim C hO (c_type l D y aM _ τ ((((xs (nI i + (1 : Int32)).toNatClampNeg).toInt64) <<< ((32 : Int32).toInt64 &&& 63)) ||| (((xs (nI i + (2 : Int32)).toNatClampNeg).toInt64) &&& (4294967295 : Int64))) (xs (nI i + (3 : Int32)).toNatClampNeg) _ hw) (cwV 2 hts gL_law_X8_type rfl rfl rfl (by decide +kernel) ⟨Nat.le_of_ble_eq_true rfl, Nat.le_of_ble_eq_true rfl⟩) hcs rfl hl.1 rfl (lv_room (Nat.le_of_ble_eq_true rfl)) dL_law_203 (fun r2 τ1 H locs hw hO => ?_)
  refine lv_icmp_eq (tgt := 1162) hx hb dL_law_206 (by decide) (fun _ => ?_) (fun hc => absurd hw.1 hc)
  exact kont σ1 τ1 H locs hw.2 hO
set_option maxRecDepth 100000 in
set_option maxHeartbeats 4000000 in
theorem lc_line {p : Program} {l : Launch} {e : Env} {s : State} {m : MethodId} {below : List Frame} {meth : Method} {c : Code} {b L : Nat} {xs : Nat → Int32} {D : va_G} {y : Nat → ClassId} {aC aM t : Nat → Nat} {H : Heap} {locs : List Loc} {ls : Array Slot} {Q : State → Prop} {cells slots i : Nat} {Inv : cS → mS → Prop} {σ : cS} {τ : mS} (hstep : ∀ (z0 : Int32) (σ : cS) (τ : mS), Inv σ τ → v_X7_line (fun r σ1 => w_line (fun r2 τ1 => r = r2 ∧ Inv σ1 τ1) z0 τ) z0 σ) (C : lC p s m meth c b L xs D y t) (hcs : cells ≤ 600000 ∧ slots ≤ 7302250) (hL : L ≤ 4096) (hi : i + 8 ≤ L) (hI : Inv σ τ) (hO : lO D y aC aM s H locs σ τ) (hl : lv_has ls 4 [(0, .ref b), (1, .ref (aC 0)), (2, .ref (aM 0)), (3, .int (nI i))]) (kont : ∀ (σ1 : cS) (τ1 : mS) (H : Heap) (locs : List Loc), Inv σ1 τ1 → lO D y aC aM s H locs σ1 τ1 → W p l e room_1 s m #[Value.ref b] below meth c H locs cells slots Q (F0 m 1162 ls [])) : W p l e room_1 s m #[Value.ref b] below meth c H locs cells slots Q (F0 m 211 ls []) := by
  obtain ⟨hx, hb, hr, hml, hown, hts, hX, hbl, hK, hTs, hNw⟩ := id C
  have hbA : ¬ lA s b := Nat.not_le.mpr hbl
  refine lv_aload_n hx hb dL_law_211 rfl (lv_at hl 1 rfl) ?_
  refine lv_aload_n hx hb dL_law_212 rfl (lv_at hl 0 rfl) ?_
  refine lv_iload_n hx hb dL_law_213 rfl (lv_at hl 3 rfl) ?_
  refine lv_iconst (v := 1) hx hb dL_law_214 (by decide) ?_
  refine lv_iadd hx hb dL_law_215 ?_
  refine va_sld hx hb hX hbl hbA hO.2.2 (lin hi hL (k := 1) (by decide)) dL_law_216 ?_
  have hw := hstep (xs (nI i + (1 : Int32)).toNatClampNeg) σ τ hI
  refine lx_cic C hO (cc_X7_line l D y aC t _ σ (xs (nI i + (1 : Int32)).toNatClampNeg) _ hw) (cwV 1 hts gL_law_X7_line rfl rfl rfl (by decide +kernel) ⟨Nat.le_of_ble_eq_true rfl, Nat.le_of_ble_eq_true rfl⟩) hcs rfl hl.1 rfl (lv_room (Nat.le_of_ble_eq_true rfl)) dL_law_217 (fun r1 σ1 H locs hw hO => ?_)
  refine lv_aload_n hx hb dL_law_220 rfl (lv_at hl 2 rfl) ?_
  refine lv_aload_n hx hb dL_law_221 rfl (lv_at hl 0 rfl) ?_
  refine lv_iload_n hx hb dL_law_222 rfl (lv_at hl 3 rfl) ?_
  refine lv_iconst (v := 1) hx hb dL_law_223 (by decide) ?_
  refine lv_iadd hx hb dL_law_224 ?_
  refine va_sld hx hb hX hbl hbA hO.2.2 (lin hi hL (k := 1) (by decide)) dL_law_225 ?_
  refine lx_cim C hO (c_line l D y aM _ τ (xs (nI i + (1 : Int32)).toNatClampNeg) _ hw) (cwV 1 hts gL_law_X8_line rfl rfl rfl (by decide +kernel) ⟨Nat.le_of_ble_eq_true rfl, Nat.le_of_ble_eq_true rfl⟩) hcs rfl hl.1 rfl (lv_room (Nat.le_of_ble_eq_true rfl)) dL_law_226 (fun r2 τ1 H locs hw hO => ?_)
  refine lv_icmp_eq (tgt := 1162) hx hb dL_law_229 (by decide) (fun _ => ?_) (fun hc => absurd hw.1 hc)
  exact kont σ1 τ1 H locs hw.2 hO
set_option maxRecDepth 100000 in
set_option maxHeartbeats 4000000 in
theorem lc_drop {p : Program} {l : Launch} {e : Env} {s : State} {m : MethodId} {below : List Frame} {meth : Method} {c : Code} {b L : Nat} {xs : Nat → Int32} {D : va_G} {y : Nat → ClassId} {aC aM t : Nat → Nat} {H : Heap} {locs : List Loc} {ls : Array Slot} {Q : State → Prop} {cells slots i : Nat} {Inv : cS → mS → Prop} {σ : cS} {τ : mS} (hstep : ∀ (z0 : Int32) (σ : cS) (τ : mS), Inv σ τ → v_X7_drop (fun r σ1 => w_drop (fun r2 τ1 => r = r2 ∧ Inv σ1 τ1) z0 τ) z0 σ) (C : lC p s m meth c b L xs D y t) (hcs : cells ≤ 600000 ∧ slots ≤ 7302250) (hL : L ≤ 4096) (hi : i + 8 ≤ L) (hI : Inv σ τ) (hO : lO D y aC aM s H locs σ τ) (hl : lv_has ls 4 [(0, .ref b), (1, .ref (aC 0)), (2, .ref (aM 0)), (3, .int (nI i))]) (kont : ∀ (σ1 : cS) (τ1 : mS) (H : Heap) (locs : List Loc), Inv σ1 τ1 → lO D y aC aM s H locs σ1 τ1 → W p l e room_1 s m #[Value.ref b] below meth c H locs cells slots Q (F0 m 1162 ls [])) : W p l e room_1 s m #[Value.ref b] below meth c H locs cells slots Q (F0 m 234 ls []) := by
  obtain ⟨hx, hb, hr, hml, hown, hts, hX, hbl, hK, hTs, hNw⟩ := id C
  have hbA : ¬ lA s b := Nat.not_le.mpr hbl
  refine lv_aload_n hx hb dL_law_234 rfl (lv_at hl 1 rfl) ?_
  refine lv_aload_n hx hb dL_law_235 rfl (lv_at hl 0 rfl) ?_
  refine lv_iload_n hx hb dL_law_236 rfl (lv_at hl 3 rfl) ?_
  refine lv_iconst (v := 1) hx hb dL_law_237 (by decide) ?_
  refine lv_iadd hx hb dL_law_238 ?_
  refine va_sld hx hb hX hbl hbA hO.2.2 (lin hi hL (k := 1) (by decide)) dL_law_239 ?_
  have hw := hstep (xs (nI i + (1 : Int32)).toNatClampNeg) σ τ hI
  refine lx_cic C hO (cc_X7_drop l D y aC t _ σ (xs (nI i + (1 : Int32)).toNatClampNeg) _ hw) (cwV 1 hts gL_law_X7_drop rfl rfl rfl (by decide +kernel) ⟨Nat.le_of_ble_eq_true rfl, Nat.le_of_ble_eq_true rfl⟩) hcs rfl hl.1 rfl (lv_room (Nat.le_of_ble_eq_true rfl)) dL_law_240 (fun r1 σ1 H locs hw hO => ?_)
  refine lv_aload_n hx hb dL_law_243 rfl (lv_at hl 2 rfl) ?_
  refine lv_aload_n hx hb dL_law_244 rfl (lv_at hl 0 rfl) ?_
  refine lv_iload_n hx hb dL_law_245 rfl (lv_at hl 3 rfl) ?_
  refine lv_iconst (v := 1) hx hb dL_law_246 (by decide) ?_
  refine lv_iadd hx hb dL_law_247 ?_
  refine va_sld hx hb hX hbl hbA hO.2.2 (lin hi hL (k := 1) (by decide)) dL_law_248 ?_
  refine lx_cim C hO (c_drop l D y aM _ τ (xs (nI i + (1 : Int32)).toNatClampNeg) _ hw) (cwV 1 hts gL_law_X8_drop rfl rfl rfl (by decide +kernel) ⟨Nat.le_of_ble_eq_true rfl, Nat.le_of_ble_eq_true rfl⟩) hcs rfl hl.1 rfl (lv_room (Nat.le_of_ble_eq_true rfl)) dL_law_249 (fun r2 τ1 H locs hw hO => ?_)
  refine lv_icmp_eq (tgt := 1162) hx hb dL_law_252 (by decide) (fun _ => ?_) (fun hc => absurd hw.1 hc)
  exact kont σ1 τ1 H locs hw.2 hO
set_option maxRecDepth 100000 in
set_option maxHeartbeats 4000000 in
theorem lc_kind {p : Program} {l : Launch} {e : Env} {s : State} {m : MethodId} {below : List Frame} {meth : Method} {c : Code} {b L : Nat} {xs : Nat → Int32} {D : va_G} {y : Nat → ClassId} {aC aM t : Nat → Nat} {H : Heap} {locs : List Loc} {ls : Array Slot} {Q : State → Prop} {cells slots i : Nat} {Inv : cS → mS → Prop} {σ : cS} {τ : mS} (hstep : ∀ (z0 : Int32) (σ : cS) (τ : mS), Inv σ τ → v_X7_kind (fun r σ1 => w_kind (fun r2 τ1 => r = r2 ∧ Inv σ1 τ1) z0 τ) z0 σ) (C : lC p s m meth c b L xs D y t) (hcs : cells ≤ 600000 ∧ slots ≤ 7302250) (hL : L ≤ 4096) (hi : i + 8 ≤ L) (hI : Inv σ τ) (hO : lO D y aC aM s H locs σ τ) (hl : lv_has ls 4 [(0, .ref b), (1, .ref (aC 0)), (2, .ref (aM 0)), (3, .int (nI i))]) (kont : ∀ (σ1 : cS) (τ1 : mS) (H : Heap) (locs : List Loc), Inv σ1 τ1 → lO D y aC aM s H locs σ1 τ1 → W p l e room_1 s m #[Value.ref b] below meth c H locs cells slots Q (F0 m 1162 ls [])) : W p l e room_1 s m #[Value.ref b] below meth c H locs cells slots Q (F0 m 257 ls []) := by
  obtain ⟨hx, hb, hr, hml, hown, hts, hX, hbl, hK, hTs, hNw⟩ := id C
  have hbA : ¬ lA s b := Nat.not_le.mpr hbl
  refine lv_aload_n hx hb dL_law_257 rfl (lv_at hl 1 rfl) ?_
  refine lv_aload_n hx hb dL_law_258 rfl (lv_at hl 0 rfl) ?_
  refine lv_iload_n hx hb dL_law_259 rfl (lv_at hl 3 rfl) ?_
  refine lv_iconst (v := 1) hx hb dL_law_260 (by decide) ?_
  refine lv_iadd hx hb dL_law_261 ?_
  refine va_sld hx hb hX hbl hbA hO.2.2 (lin hi hL (k := 1) (by decide)) dL_law_262 ?_
  have hw := hstep (xs (nI i + (1 : Int32)).toNatClampNeg) σ τ hI
  refine lx_cic C hO (cc_X7_kind l D y aC t _ σ (xs (nI i + (1 : Int32)).toNatClampNeg) _ hw) (cwV 1 hts gL_law_X7_kind rfl rfl rfl (by decide +kernel) ⟨Nat.le_of_ble_eq_true rfl, Nat.le_of_ble_eq_true rfl⟩) hcs rfl hl.1 rfl (lv_room (Nat.le_of_ble_eq_true rfl)) dL_law_263 (fun r1 σ1 H locs hw hO => ?_)
  refine lv_aload_n hx hb dL_law_266 rfl (lv_at hl 2 rfl) ?_
  refine lv_aload_n hx hb dL_law_267 rfl (lv_at hl 0 rfl) ?_
  refine lv_iload_n hx hb dL_law_268 rfl (lv_at hl 3 rfl) ?_
  refine lv_iconst (v := 1) hx hb dL_law_269 (by decide) ?_
  refine lv_iadd hx hb dL_law_270 ?_
  refine va_sld hx hb hX hbl hbA hO.2.2 (lin hi hL (k := 1) (by decide)) dL_law_271 ?_
  refine lx_cim C hO (c_kind l D y aM _ τ (xs (nI i + (1 : Int32)).toNatClampNeg) _ hw) (cwV 1 hts gL_law_X8_kind rfl rfl rfl (by decide +kernel) ⟨Nat.le_of_ble_eq_true rfl, Nat.le_of_ble_eq_true rfl⟩) hcs rfl hl.1 rfl (lv_room (Nat.le_of_ble_eq_true rfl)) dL_law_272 (fun r2 τ1 H locs hw hO => ?_)
  refine lv_icmp_eq (tgt := 1162) hx hb dL_law_275 (by decide) (fun _ => ?_) (fun hc => absurd hw.1 hc)
  exact kont σ1 τ1 H locs hw.2 hO
set_option maxRecDepth 100000 in
set_option maxHeartbeats 4000000 in
theorem lc_degree {p : Program} {l : Launch} {e : Env} {s : State} {m : MethodId} {below : List Frame} {meth : Method} {c : Code} {b L : Nat} {xs : Nat → Int32} {D : va_G} {y : Nat → ClassId} {aC aM t : Nat → Nat} {H : Heap} {locs : List Loc} {ls : Array Slot} {Q : State → Prop} {cells slots i : Nat} {Inv : cS → mS → Prop} {σ : cS} {τ : mS} (hstep : ∀ (z0 : Int32) (σ : cS) (τ : mS), Inv σ τ → v_X7_degree (fun r σ1 => w_degree (fun r2 τ1 => r = r2 ∧ Inv σ1 τ1) z0 τ) z0 σ) (C : lC p s m meth c b L xs D y t) (hcs : cells ≤ 600000 ∧ slots ≤ 7302250) (hL : L ≤ 4096) (hi : i + 8 ≤ L) (hI : Inv σ τ) (hO : lO D y aC aM s H locs σ τ) (hl : lv_has ls 4 [(0, .ref b), (1, .ref (aC 0)), (2, .ref (aM 0)), (3, .int (nI i))]) (kont : ∀ (σ1 : cS) (τ1 : mS) (H : Heap) (locs : List Loc), Inv σ1 τ1 → lO D y aC aM s H locs σ1 τ1 → W p l e room_1 s m #[Value.ref b] below meth c H locs cells slots Q (F0 m 1162 ls [])) : W p l e room_1 s m #[Value.ref b] below meth c H locs cells slots Q (F0 m 280 ls []) := by
  obtain ⟨hx, hb, hr, hml, hown, hts, hX, hbl, hK, hTs, hNw⟩ := id C
  have hbA : ¬ lA s b := Nat.not_le.mpr hbl
  refine lv_aload_n hx hb dL_law_280 rfl (lv_at hl 1 rfl) ?_
  refine lv_aload_n hx hb dL_law_281 rfl (lv_at hl 0 rfl) ?_
  refine lv_iload_n hx hb dL_law_282 rfl (lv_at hl 3 rfl) ?_
  refine lv_iconst (v := 1) hx hb dL_law_283 (by decide) ?_
  refine lv_iadd hx hb dL_law_284 ?_
  refine va_sld hx hb hX hbl hbA hO.2.2 (lin hi hL (k := 1) (by decide)) dL_law_285 ?_
  have hw := hstep (xs (nI i + (1 : Int32)).toNatClampNeg) σ τ hI
  refine lx_cic C hO (cc_X7_degree l D y aC t _ σ (xs (nI i + (1 : Int32)).toNatClampNeg) _ hw) (cwV 1 hts gL_law_X7_degree rfl rfl rfl (by decide +kernel) ⟨Nat.le_of_ble_eq_true rfl, Nat.le_of_ble_eq_true rfl⟩) hcs rfl hl.1 rfl (lv_room (Nat.le_of_ble_eq_true rfl)) dL_law_286 (fun r1 σ1 H locs hw hO => ?_)
  refine lv_aload_n hx hb dL_law_289 rfl (lv_at hl 2 rfl) ?_
  refine lv_aload_n hx hb dL_law_290 rfl (lv_at hl 0 rfl) ?_
  refine lv_iload_n hx hb dL_law_291 rfl (lv_at hl 3 rfl) ?_
  refine lv_iconst (v := 1) hx hb dL_law_292 (by decide) ?_
  refine lv_iadd hx hb dL_law_293 ?_
  refine va_sld hx hb hX hbl hbA hO.2.2 (lin hi hL (k := 1) (by decide)) dL_law_294 ?_
  refine lx_cim C hO (c_degree l D y aM _ τ (xs (nI i + (1 : Int32)).toNatClampNeg) _ hw) (cwV 1 hts gL_law_X8_degree rfl rfl rfl (by decide +kernel) ⟨Nat.le_of_ble_eq_true rfl, Nat.le_of_ble_eq_true rfl⟩) hcs rfl hl.1 rfl (lv_room (Nat.le_of_ble_eq_true rfl)) dL_law_295 (fun r2 τ1 H locs hw hO => ?_)
  refine lv_icmp_eq (tgt := 1162) hx hb dL_law_298 (by decide) (fun _ => ?_) (fun hc => absurd hw.1 hc)
  exact kont σ1 τ1 H locs hw.2 hO
set_option maxRecDepth 100000 in
set_option maxHeartbeats 4000000 in
theorem lc_told {p : Program} {l : Launch} {e : Env} {s : State} {m : MethodId} {below : List Frame} {meth : Method} {c : Code} {b L : Nat} {xs : Nat → Int32} {D : va_G} {y : Nat → ClassId} {aC aM t : Nat → Nat} {H : Heap} {locs : List Loc} {ls : Array Slot} {Q : State → Prop} {cells slots i : Nat} {Inv : cS → mS → Prop} {σ : cS} {τ : mS} (hstep : ∀ (z0 : Int32) (z1 : Int32) (z2 : Int32) (σ : cS) (τ : mS), Inv σ τ → v_X7_told (fun r σ1 => w_told (fun r2 τ1 => r = r2 ∧ Inv σ1 τ1) z0 z1 z2 τ) z0 z1 z2 σ) (C : lC p s m meth c b L xs D y t) (hcs : cells ≤ 600000 ∧ slots ≤ 7302250) (hL : L ≤ 4096) (hi : i + 8 ≤ L) (hI : Inv σ τ) (hO : lO D y aC aM s H locs σ τ) (hl : lv_has ls 4 [(0, .ref b), (1, .ref (aC 0)), (2, .ref (aM 0)), (3, .int (nI i))]) (kont : ∀ (σ1 : cS) (τ1 : mS) (H : Heap) (locs : List Loc), Inv σ1 τ1 → lO D y aC aM s H locs σ1 τ1 → W p l e room_1 s m #[Value.ref b] below meth c H locs cells slots Q (F0 m 1162 ls [])) : W p l e room_1 s m #[Value.ref b] below meth c H locs cells slots Q (F0 m 303 ls []) := by
  obtain ⟨hx, hb, hr, hml, hown, hts, hX, hbl, hK, hTs, hNw⟩ := id C
  have hbA : ¬ lA s b := Nat.not_le.mpr hbl
  refine lv_aload_n hx hb dL_law_303 rfl (lv_at hl 1 rfl) ?_
  refine lv_aload_n hx hb dL_law_304 rfl (lv_at hl 0 rfl) ?_
  refine lv_iload_n hx hb dL_law_305 rfl (lv_at hl 3 rfl) ?_
  refine lv_iconst (v := 1) hx hb dL_law_306 (by decide) ?_
  refine lv_iadd hx hb dL_law_307 ?_
  refine va_sld hx hb hX hbl hbA hO.2.2 (lin hi hL (k := 1) (by decide)) dL_law_308 ?_
  refine lv_aload_n hx hb dL_law_309 rfl (lv_at hl 0 rfl) ?_
  refine lv_iload_n hx hb dL_law_310 rfl (lv_at hl 3 rfl) ?_
  refine lv_iconst (v := 2) hx hb dL_law_311 (by decide) ?_
  refine lv_iadd hx hb dL_law_312 ?_
  refine va_sld hx hb hX hbl hbA hO.2.2 (lin hi hL (k := 2) (by decide)) dL_law_313 ?_
  refine lv_aload_n hx hb dL_law_314 rfl (lv_at hl 0 rfl) ?_
  refine lv_iload_n hx hb dL_law_315 rfl (lv_at hl 3 rfl) ?_
  refine lv_iconst (v := 3) hx hb dL_law_316 (by decide) ?_
  refine lv_iadd hx hb dL_law_317 ?_
  refine va_sld hx hb hX hbl hbA hO.2.2 (lin hi hL (k := 3) (by decide)) dL_law_318 ?_
  have hw := hstep (xs (nI i + (1 : Int32)).toNatClampNeg) (xs (nI i + (2 : Int32)).toNatClampNeg) (xs (nI i + (3 : Int32)).toNatClampNeg) σ τ hI
  refine lx_cic C hO (cc_X7_told l D y aC t _ σ (xs (nI i + (1 : Int32)).toNatClampNeg) (xs (nI i + (2 : Int32)).toNatClampNeg) (xs (nI i + (3 : Int32)).toNatClampNeg) _ hw) (cwV 3 hts gL_law_X7_told rfl rfl rfl (by decide +kernel) ⟨Nat.le_of_ble_eq_true rfl, Nat.le_of_ble_eq_true rfl⟩) hcs rfl hl.1 rfl (lv_room (Nat.le_of_ble_eq_true rfl)) dL_law_319 (fun r1 σ1 H locs hw hO => ?_)
  refine lv_aload_n hx hb dL_law_322 rfl (lv_at hl 2 rfl) ?_
  refine lv_aload_n hx hb dL_law_323 rfl (lv_at hl 0 rfl) ?_
  refine lv_iload_n hx hb dL_law_324 rfl (lv_at hl 3 rfl) ?_
  refine lv_iconst (v := 1) hx hb dL_law_325 (by decide) ?_
  refine lv_iadd hx hb dL_law_326 ?_
  refine va_sld hx hb hX hbl hbA hO.2.2 (lin hi hL (k := 1) (by decide)) dL_law_327 ?_
  refine lv_aload_n hx hb dL_law_328 rfl (lv_at hl 0 rfl) ?_
  refine lv_iload_n hx hb dL_law_329 rfl (lv_at hl 3 rfl) ?_
  refine lv_iconst (v := 2) hx hb dL_law_330 (by decide) ?_
  refine lv_iadd hx hb dL_law_331 ?_
  refine va_sld hx hb hX hbl hbA hO.2.2 (lin hi hL (k := 2) (by decide)) dL_law_332 ?_
  refine lv_aload_n hx hb dL_law_333 rfl (lv_at hl 0 rfl) ?_
  refine lv_iload_n hx hb dL_law_334 rfl (lv_at hl 3 rfl) ?_
  refine lv_iconst (v := 3) hx hb dL_law_335 (by decide) ?_
  refine lv_iadd hx hb dL_law_336 ?_
  refine va_sld hx hb hX hbl hbA hO.2.2 (lin hi hL (k := 3) (by decide)) dL_law_337 ?_
  refine lx_cim C hO (c_told l D y aM _ τ (xs (nI i + (1 : Int32)).toNatClampNeg) (xs (nI i + (2 : Int32)).toNatClampNeg) (xs (nI i + (3 : Int32)).toNatClampNeg) _ hw) (cwV 3 hts gL_law_X8_told rfl rfl rfl (by decide +kernel) ⟨Nat.le_of_ble_eq_true rfl, Nat.le_of_ble_eq_true rfl⟩) hcs rfl hl.1 rfl (lv_room (Nat.le_of_ble_eq_true rfl)) dL_law_338 (fun r2 τ1 H locs hw hO => ?_)
  refine lv_icmp_eq (tgt := 1162) hx hb dL_law_341 (by decide) (fun _ => ?_) (fun hc => absurd hw.1 hc)
  exact kont σ1 τ1 H locs hw.2 hO
set_option maxRecDepth 100000 in
set_option maxHeartbeats 4000000 in
theorem lc_at {p : Program} {l : Launch} {e : Env} {s : State} {m : MethodId} {below : List Frame} {meth : Method} {c : Code} {b L : Nat} {xs : Nat → Int32} {D : va_G} {y : Nat → ClassId} {aC aM t : Nat → Nat} {H : Heap} {locs : List Loc} {ls : Array Slot} {Q : State → Prop} {cells slots i : Nat} {Inv : cS → mS → Prop} {σ : cS} {τ : mS} (hstep : ∀ (z0 : Int32) (z1 : Int32) (z2 : Int32) (z3 : Int32) (z4 : Int32) (σ : cS) (τ : mS), Inv σ τ → v_X7_at (fun r σ1 => w_at (fun r2 τ1 => r = r2 ∧ Inv σ1 τ1) z0 z1 z2 z3 z4 τ) z0 z1 z2 z3 z4 σ) (C : lC p s m meth c b L xs D y t) (hcs : cells ≤ 600000 ∧ slots ≤ 7302250) (hL : L ≤ 4096) (hi : i + 8 ≤ L) (hI : Inv σ τ) (hO : lO D y aC aM s H locs σ τ) (hl : lv_has ls 4 [(0, .ref b), (1, .ref (aC 0)), (2, .ref (aM 0)), (3, .int (nI i))]) (kont : ∀ (σ1 : cS) (τ1 : mS) (H : Heap) (locs : List Loc), Inv σ1 τ1 → lO D y aC aM s H locs σ1 τ1 → W p l e room_1 s m #[Value.ref b] below meth c H locs cells slots Q (F0 m 1162 ls [])) : W p l e room_1 s m #[Value.ref b] below meth c H locs cells slots Q (F0 m 346 ls []) := by
  obtain ⟨hx, hb, hr, hml, hown, hts, hX, hbl, hK, hTs, hNw⟩ := id C
  have hbA : ¬ lA s b := Nat.not_le.mpr hbl
  refine lv_aload_n hx hb dL_law_346 rfl (lv_at hl 1 rfl) ?_
  refine lv_aload_n hx hb dL_law_347 rfl (lv_at hl 0 rfl) ?_
  refine lv_iload_n hx hb dL_law_348 rfl (lv_at hl 3 rfl) ?_
  refine lv_iconst (v := 1) hx hb dL_law_349 (by decide) ?_
  refine lv_iadd hx hb dL_law_350 ?_
  refine va_sld hx hb hX hbl hbA hO.2.2 (lin hi hL (k := 1) (by decide)) dL_law_351 ?_
  refine lv_aload_n hx hb dL_law_352 rfl (lv_at hl 0 rfl) ?_
  refine lv_iload_n hx hb dL_law_353 rfl (lv_at hl 3 rfl) ?_
  refine lv_iconst (v := 2) hx hb dL_law_354 (by decide) ?_
  refine lv_iadd hx hb dL_law_355 ?_
  refine va_sld hx hb hX hbl hbA hO.2.2 (lin hi hL (k := 2) (by decide)) dL_law_356 ?_
  refine lv_aload_n hx hb dL_law_357 rfl (lv_at hl 0 rfl) ?_
  refine lv_iload_n hx hb dL_law_358 rfl (lv_at hl 3 rfl) ?_
  refine lv_iconst (v := 3) hx hb dL_law_359 (by decide) ?_
  refine lv_iadd hx hb dL_law_360 ?_
  refine va_sld hx hb hX hbl hbA hO.2.2 (lin hi hL (k := 3) (by decide)) dL_law_361 ?_
  refine lv_aload_n hx hb dL_law_362 rfl (lv_at hl 0 rfl) ?_
  refine lv_iload_n hx hb dL_law_363 rfl (lv_at hl 3 rfl) ?_
  refine lv_iconst (v := 4) hx hb dL_law_364 (by decide) ?_
  refine lv_iadd hx hb dL_law_365 ?_
  refine va_sld hx hb hX hbl hbA hO.2.2 (lin hi hL (k := 4) (by decide)) dL_law_366 ?_
  refine lv_aload_n hx hb dL_law_367 rfl (lv_at hl 0 rfl) ?_
  refine lv_iload_n hx hb dL_law_368 rfl (lv_at hl 3 rfl) ?_
  refine lv_iconst (v := 5) hx hb dL_law_369 (by decide) ?_
  refine lv_iadd hx hb dL_law_370 ?_
  refine va_sld hx hb hX hbl hbA hO.2.2 (lin hi hL (k := 5) (by decide)) dL_law_371 ?_
  have hw := hstep (xs (nI i + (1 : Int32)).toNatClampNeg) (xs (nI i + (2 : Int32)).toNatClampNeg) (xs (nI i + (3 : Int32)).toNatClampNeg) (xs (nI i + (4 : Int32)).toNatClampNeg) (xs (nI i + (5 : Int32)).toNatClampNeg) σ τ hI
  refine lx_clc C hO (cc_X7_at l D y aC t _ σ (xs (nI i + (1 : Int32)).toNatClampNeg) (xs (nI i + (2 : Int32)).toNatClampNeg) (xs (nI i + (3 : Int32)).toNatClampNeg) (xs (nI i + (4 : Int32)).toNatClampNeg) (xs (nI i + (5 : Int32)).toNatClampNeg) _ hw) (cwV 5 hts gL_law_X7_at rfl rfl rfl (by decide +kernel) ⟨Nat.le_of_ble_eq_true rfl, Nat.le_of_ble_eq_true rfl⟩) hcs rfl hl.1 rfl (lv_room (Nat.le_of_ble_eq_true rfl)) dL_law_372 (fun r1 σ1 H locs hw hO => ?_)
  refine lv_aload_n hx hb dL_law_375 rfl (lv_at hl 2 rfl) ?_
  refine lv_aload_n hx hb dL_law_376 rfl (lv_at hl 0 rfl) ?_
  refine lv_iload_n hx hb dL_law_377 rfl (lv_at hl 3 rfl) ?_
  refine lv_iconst (v := 1) hx hb dL_law_378 (by decide) ?_
  refine lv_iadd hx hb dL_law_379 ?_
  refine va_sld hx hb hX hbl hbA hO.2.2 (lin hi hL (k := 1) (by decide)) dL_law_380 ?_
  refine lv_aload_n hx hb dL_law_381 rfl (lv_at hl 0 rfl) ?_
  refine lv_iload_n hx hb dL_law_382 rfl (lv_at hl 3 rfl) ?_
  refine lv_iconst (v := 2) hx hb dL_law_383 (by decide) ?_
  refine lv_iadd hx hb dL_law_384 ?_
  refine va_sld hx hb hX hbl hbA hO.2.2 (lin hi hL (k := 2) (by decide)) dL_law_385 ?_
  refine lv_aload_n hx hb dL_law_386 rfl (lv_at hl 0 rfl) ?_
  refine lv_iload_n hx hb dL_law_387 rfl (lv_at hl 3 rfl) ?_
  refine lv_iconst (v := 3) hx hb dL_law_388 (by decide) ?_
  refine lv_iadd hx hb dL_law_389 ?_
  refine va_sld hx hb hX hbl hbA hO.2.2 (lin hi hL (k := 3) (by decide)) dL_law_390 ?_
  refine lv_aload_n hx hb dL_law_391 rfl (lv_at hl 0 rfl) ?_
  refine lv_iload_n hx hb dL_law_392 rfl (lv_at hl 3 rfl) ?_
  refine lv_iconst (v := 4) hx hb dL_law_393 (by decide) ?_
  refine lv_iadd hx hb dL_law_394 ?_
  refine va_sld hx hb hX hbl hbA hO.2.2 (lin hi hL (k := 4) (by decide)) dL_law_395 ?_
  refine lv_aload_n hx hb dL_law_396 rfl (lv_at hl 0 rfl) ?_
  refine lv_iload_n hx hb dL_law_397 rfl (lv_at hl 3 rfl) ?_
  refine lv_iconst (v := 5) hx hb dL_law_398 (by decide) ?_
  refine lv_iadd hx hb dL_law_399 ?_
  refine va_sld hx hb hX hbl hbA hO.2.2 (lin hi hL (k := 5) (by decide)) dL_law_400 ?_
  refine lx_clm C hO (c_at l D y aM _ τ (xs (nI i + (1 : Int32)).toNatClampNeg) (xs (nI i + (2 : Int32)).toNatClampNeg) (xs (nI i + (3 : Int32)).toNatClampNeg) (xs (nI i + (4 : Int32)).toNatClampNeg) (xs (nI i + (5 : Int32)).toNatClampNeg) _ hw) (cwV 5 hts gL_law_X8_at rfl rfl rfl (by decide +kernel) ⟨Nat.le_of_ble_eq_true rfl, Nat.le_of_ble_eq_true rfl⟩) hcs rfl hl.1 rfl (lv_room (Nat.le_of_ble_eq_true rfl)) dL_law_401 (fun r2 τ1 H locs hw hO => ?_)
  refine W.lcmp hx hb dL_law_404 ?_
  refine lv_if_eq (tgt := 1162) hx hb dL_law_405 (by decide) (fun _ => ?_) (fun hc => absurd ((lg_cmp_eq _ _).mpr hw.1) hc)
  exact kont σ1 τ1 H locs hw.2 hO
set_option maxRecDepth 100000 in
set_option maxHeartbeats 4000000 in
theorem lc_far {p : Program} {l : Launch} {e : Env} {s : State} {m : MethodId} {below : List Frame} {meth : Method} {c : Code} {b L : Nat} {xs : Nat → Int32} {D : va_G} {y : Nat → ClassId} {aC aM t : Nat → Nat} {H : Heap} {locs : List Loc} {ls : Array Slot} {Q : State → Prop} {cells slots i : Nat} {Inv : cS → mS → Prop} {σ : cS} {τ : mS} (hstep : ∀ (z0 : Int32) (z1 : Int32) (σ : cS) (τ : mS), Inv σ τ → v_X7_far (fun r σ1 => w_far (fun r2 τ1 => r = r2 ∧ Inv σ1 τ1) z0 z1 τ) z0 z1 σ) (C : lC p s m meth c b L xs D y t) (hcs : cells ≤ 600000 ∧ slots ≤ 7302250) (hL : L ≤ 4096) (hi : i + 8 ≤ L) (hI : Inv σ τ) (hO : lO D y aC aM s H locs σ τ) (hl : lv_has ls 4 [(0, .ref b), (1, .ref (aC 0)), (2, .ref (aM 0)), (3, .int (nI i))]) (kont : ∀ (σ1 : cS) (τ1 : mS) (H : Heap) (locs : List Loc), Inv σ1 τ1 → lO D y aC aM s H locs σ1 τ1 → W p l e room_1 s m #[Value.ref b] below meth c H locs cells slots Q (F0 m 1162 ls [])) : W p l e room_1 s m #[Value.ref b] below meth c H locs cells slots Q (F0 m 410 ls []) := by
  obtain ⟨hx, hb, hr, hml, hown, hts, hX, hbl, hK, hTs, hNw⟩ := id C
  have hbA : ¬ lA s b := Nat.not_le.mpr hbl
  refine lv_aload_n hx hb dL_law_410 rfl (lv_at hl 1 rfl) ?_
  refine lv_aload_n hx hb dL_law_411 rfl (lv_at hl 0 rfl) ?_
  refine lv_iload_n hx hb dL_law_412 rfl (lv_at hl 3 rfl) ?_
  refine lv_iconst (v := 1) hx hb dL_law_413 (by decide) ?_
  refine lv_iadd hx hb dL_law_414 ?_
  refine va_sld hx hb hX hbl hbA hO.2.2 (lin hi hL (k := 1) (by decide)) dL_law_415 ?_
  refine lv_aload_n hx hb dL_law_416 rfl (lv_at hl 0 rfl) ?_
  refine lv_iload_n hx hb dL_law_417 rfl (lv_at hl 3 rfl) ?_
  refine lv_iconst (v := 2) hx hb dL_law_418 (by decide) ?_
  refine lv_iadd hx hb dL_law_419 ?_
  refine va_sld hx hb hX hbl hbA hO.2.2 (lin hi hL (k := 2) (by decide)) dL_law_420 ?_
  have hw := hstep (xs (nI i + (1 : Int32)).toNatClampNeg) (xs (nI i + (2 : Int32)).toNatClampNeg) σ τ hI
  refine lx_cic C hO (cc_X7_far l D y aC t _ σ (xs (nI i + (1 : Int32)).toNatClampNeg) (xs (nI i + (2 : Int32)).toNatClampNeg) _ hw) (cwV 2 hts gL_law_X7_far rfl rfl rfl (by decide +kernel) ⟨Nat.le_of_ble_eq_true rfl, Nat.le_of_ble_eq_true rfl⟩) hcs rfl hl.1 rfl (lv_room (Nat.le_of_ble_eq_true rfl)) dL_law_421 (fun r1 σ1 H locs hw hO => ?_)
  refine lv_aload_n hx hb dL_law_424 rfl (lv_at hl 2 rfl) ?_
  refine lv_aload_n hx hb dL_law_425 rfl (lv_at hl 0 rfl) ?_
  refine lv_iload_n hx hb dL_law_426 rfl (lv_at hl 3 rfl) ?_
  refine lv_iconst (v := 1) hx hb dL_law_427 (by decide) ?_
  refine lv_iadd hx hb dL_law_428 ?_
  refine va_sld hx hb hX hbl hbA hO.2.2 (lin hi hL (k := 1) (by decide)) dL_law_429 ?_
  refine lv_aload_n hx hb dL_law_430 rfl (lv_at hl 0 rfl) ?_
  refine lv_iload_n hx hb dL_law_431 rfl (lv_at hl 3 rfl) ?_
  refine lv_iconst (v := 2) hx hb dL_law_432 (by decide) ?_
  refine lv_iadd hx hb dL_law_433 ?_
  refine va_sld hx hb hX hbl hbA hO.2.2 (lin hi hL (k := 2) (by decide)) dL_law_434 ?_
  refine lx_cim C hO (c_far l D y aM _ τ (xs (nI i + (1 : Int32)).toNatClampNeg) (xs (nI i + (2 : Int32)).toNatClampNeg) _ hw) (cwV 2 hts gL_law_X8_far rfl rfl rfl (by decide +kernel) ⟨Nat.le_of_ble_eq_true rfl, Nat.le_of_ble_eq_true rfl⟩) hcs rfl hl.1 rfl (lv_room (Nat.le_of_ble_eq_true rfl)) dL_law_435 (fun r2 τ1 H locs hw hO => ?_)
  refine lv_icmp_eq (tgt := 1162) hx hb dL_law_438 (by decide) (fun _ => ?_) (fun hc => absurd hw.1 hc)
  exact kont σ1 τ1 H locs hw.2 hO
set_option maxRecDepth 100000 in
set_option maxHeartbeats 4000000 in
theorem lc_equation {p : Program} {l : Launch} {e : Env} {s : State} {m : MethodId} {below : List Frame} {meth : Method} {c : Code} {b L : Nat} {xs : Nat → Int32} {D : va_G} {y : Nat → ClassId} {aC aM t : Nat → Nat} {H : Heap} {locs : List Loc} {ls : Array Slot} {Q : State → Prop} {cells slots i : Nat} {Inv : cS → mS → Prop} {σ : cS} {τ : mS} (hstep : ∀ (z0 : Int32) (z1 : Int32) (σ : cS) (τ : mS), Inv σ τ → v_X7_equation (fun r σ1 => w_equation (fun r2 τ1 => r = r2 ∧ Inv σ1 τ1) z0 z1 τ) z0 z1 σ) (C : lC p s m meth c b L xs D y t) (hcs : cells ≤ 600000 ∧ slots ≤ 7302250) (hL : L ≤ 4096) (hi : i + 8 ≤ L) (hI : Inv σ τ) (hO : lO D y aC aM s H locs σ τ) (hl : lv_has ls 4 [(0, .ref b), (1, .ref (aC 0)), (2, .ref (aM 0)), (3, .int (nI i))]) (kont : ∀ (σ1 : cS) (τ1 : mS) (H : Heap) (locs : List Loc), Inv σ1 τ1 → lO D y aC aM s H locs σ1 τ1 → W p l e room_1 s m #[Value.ref b] below meth c H locs cells slots Q (F0 m 1162 ls [])) : W p l e room_1 s m #[Value.ref b] below meth c H locs cells slots Q (F0 m 443 ls []) := by
  obtain ⟨hx, hb, hr, hml, hown, hts, hX, hbl, hK, hTs, hNw⟩ := id C
  have hbA : ¬ lA s b := Nat.not_le.mpr hbl
  refine lv_aload_n hx hb dL_law_443 rfl (lv_at hl 1 rfl) ?_
  refine lv_aload_n hx hb dL_law_444 rfl (lv_at hl 0 rfl) ?_
  refine lv_iload_n hx hb dL_law_445 rfl (lv_at hl 3 rfl) ?_
  refine lv_iconst (v := 1) hx hb dL_law_446 (by decide) ?_
  refine lv_iadd hx hb dL_law_447 ?_
  refine va_sld hx hb hX hbl hbA hO.2.2 (lin hi hL (k := 1) (by decide)) dL_law_448 ?_
  refine lv_aload_n hx hb dL_law_449 rfl (lv_at hl 0 rfl) ?_
  refine lv_iload_n hx hb dL_law_450 rfl (lv_at hl 3 rfl) ?_
  refine lv_iconst (v := 2) hx hb dL_law_451 (by decide) ?_
  refine lv_iadd hx hb dL_law_452 ?_
  refine va_sld hx hb hX hbl hbA hO.2.2 (lin hi hL (k := 2) (by decide)) dL_law_453 ?_
  have hw := hstep (xs (nI i + (1 : Int32)).toNatClampNeg) (xs (nI i + (2 : Int32)).toNatClampNeg) σ τ hI
  refine lx_clc C hO (cc_X7_equation l D y aC t _ σ (xs (nI i + (1 : Int32)).toNatClampNeg) (xs (nI i + (2 : Int32)).toNatClampNeg) _ hw) (cwV 2 hts gL_law_X7_equation rfl rfl rfl (by decide +kernel) ⟨Nat.le_of_ble_eq_true rfl, Nat.le_of_ble_eq_true rfl⟩) hcs rfl hl.1 rfl (lv_room (Nat.le_of_ble_eq_true rfl)) dL_law_454 (fun r1 σ1 H locs hw hO => ?_)
  refine lv_aload_n hx hb dL_law_457 rfl (lv_at hl 2 rfl) ?_
  refine lv_aload_n hx hb dL_law_458 rfl (lv_at hl 0 rfl) ?_
  refine lv_iload_n hx hb dL_law_459 rfl (lv_at hl 3 rfl) ?_
  refine lv_iconst (v := 1) hx hb dL_law_460 (by decide) ?_
  refine lv_iadd hx hb dL_law_461 ?_
  refine va_sld hx hb hX hbl hbA hO.2.2 (lin hi hL (k := 1) (by decide)) dL_law_462 ?_
  refine lv_aload_n hx hb dL_law_463 rfl (lv_at hl 0 rfl) ?_
  refine lv_iload_n hx hb dL_law_464 rfl (lv_at hl 3 rfl) ?_
  refine lv_iconst (v := 2) hx hb dL_law_465 (by decide) ?_
  refine lv_iadd hx hb dL_law_466 ?_
  refine va_sld hx hb hX hbl hbA hO.2.2 (lin hi hL (k := 2) (by decide)) dL_law_467 ?_
  refine lx_clm C hO (c_equation l D y aM _ τ (xs (nI i + (1 : Int32)).toNatClampNeg) (xs (nI i + (2 : Int32)).toNatClampNeg) _ hw) (cwV 2 hts gL_law_X8_equation rfl rfl rfl (by decide +kernel) ⟨Nat.le_of_ble_eq_true rfl, Nat.le_of_ble_eq_true rfl⟩) hcs rfl hl.1 rfl (lv_room (Nat.le_of_ble_eq_true rfl)) dL_law_468 (fun r2 τ1 H locs hw hO => ?_)
  refine W.lcmp hx hb dL_law_471 ?_
  refine lv_if_eq (tgt := 1162) hx hb dL_law_472 (by decide) (fun _ => ?_) (fun hc => absurd ((lg_cmp_eq _ _).mpr hw.1) hc)
  exact kont σ1 τ1 H locs hw.2 hO
set_option maxRecDepth 100000 in
set_option maxHeartbeats 4000000 in
theorem lc_bends {p : Program} {l : Launch} {e : Env} {s : State} {m : MethodId} {below : List Frame} {meth : Method} {c : Code} {b L : Nat} {xs : Nat → Int32} {D : va_G} {y : Nat → ClassId} {aC aM t : Nat → Nat} {H : Heap} {locs : List Loc} {ls : Array Slot} {Q : State → Prop} {cells slots i : Nat} {Inv : cS → mS → Prop} {σ : cS} {τ : mS} (hstep : ∀ (z0 : Int32) (σ : cS) (τ : mS), Inv σ τ → v_X7_bends (fun r σ1 => w_bends (fun r2 τ1 => r = r2 ∧ Inv σ1 τ1) z0 τ) z0 σ) (C : lC p s m meth c b L xs D y t) (hcs : cells ≤ 600000 ∧ slots ≤ 7302250) (hL : L ≤ 4096) (hi : i + 8 ≤ L) (hI : Inv σ τ) (hO : lO D y aC aM s H locs σ τ) (hl : lv_has ls 4 [(0, .ref b), (1, .ref (aC 0)), (2, .ref (aM 0)), (3, .int (nI i))]) (kont : ∀ (σ1 : cS) (τ1 : mS) (H : Heap) (locs : List Loc), Inv σ1 τ1 → lO D y aC aM s H locs σ1 τ1 → W p l e room_1 s m #[Value.ref b] below meth c H locs cells slots Q (F0 m 1162 ls [])) : W p l e room_1 s m #[Value.ref b] below meth c H locs cells slots Q (F0 m 477 ls []) := by
  obtain ⟨hx, hb, hr, hml, hown, hts, hX, hbl, hK, hTs, hNw⟩ := id C
  have hbA : ¬ lA s b := Nat.not_le.mpr hbl
  refine lv_aload_n hx hb dL_law_477 rfl (lv_at hl 1 rfl) ?_
  refine lv_aload_n hx hb dL_law_478 rfl (lv_at hl 0 rfl) ?_
  refine lv_iload_n hx hb dL_law_479 rfl (lv_at hl 3 rfl) ?_
  refine lv_iconst (v := 1) hx hb dL_law_480 (by decide) ?_
  refine lv_iadd hx hb dL_law_481 ?_
  refine va_sld hx hb hX hbl hbA hO.2.2 (lin hi hL (k := 1) (by decide)) dL_law_482 ?_
  have hw := hstep (xs (nI i + (1 : Int32)).toNatClampNeg) σ τ hI
  refine lx_cic C hO (cc_X7_bends l D y aC t _ σ (xs (nI i + (1 : Int32)).toNatClampNeg) _ hw) (cwV 1 hts gL_law_X7_bends rfl rfl rfl (by decide +kernel) ⟨Nat.le_of_ble_eq_true rfl, Nat.le_of_ble_eq_true rfl⟩) hcs rfl hl.1 rfl (lv_room (Nat.le_of_ble_eq_true rfl)) dL_law_483 (fun r1 σ1 H locs hw hO => ?_)
  refine lv_aload_n hx hb dL_law_486 rfl (lv_at hl 2 rfl) ?_
  refine lv_aload_n hx hb dL_law_487 rfl (lv_at hl 0 rfl) ?_
  refine lv_iload_n hx hb dL_law_488 rfl (lv_at hl 3 rfl) ?_
  refine lv_iconst (v := 1) hx hb dL_law_489 (by decide) ?_
  refine lv_iadd hx hb dL_law_490 ?_
  refine va_sld hx hb hX hbl hbA hO.2.2 (lin hi hL (k := 1) (by decide)) dL_law_491 ?_
  refine lx_cim C hO (c_bends l D y aM _ τ (xs (nI i + (1 : Int32)).toNatClampNeg) _ hw) (cwV 1 hts gL_law_X8_bends rfl rfl rfl (by decide +kernel) ⟨Nat.le_of_ble_eq_true rfl, Nat.le_of_ble_eq_true rfl⟩) hcs rfl hl.1 rfl (lv_room (Nat.le_of_ble_eq_true rfl)) dL_law_492 (fun r2 τ1 H locs hw hO => ?_)
  refine lv_icmp_eq (tgt := 1162) hx hb dL_law_495 (by decide) (fun _ => ?_) (fun hc => absurd hw.1 hc)
  exact kont σ1 τ1 H locs hw.2 hO
set_option maxRecDepth 100000 in
set_option maxHeartbeats 4000000 in
theorem lc_times {p : Program} {l : Launch} {e : Env} {s : State} {m : MethodId} {below : List Frame} {meth : Method} {c : Code} {b L : Nat} {xs : Nat → Int32} {D : va_G} {y : Nat → ClassId} {aC aM t : Nat → Nat} {H : Heap} {locs : List Loc} {ls : Array Slot} {Q : State → Prop} {cells slots i : Nat} {Inv : cS → mS → Prop} {σ : cS} {τ : mS} (hstep : ∀ (z0 : Int32) (σ : cS) (τ : mS), Inv σ τ → v_X7_times (fun r σ1 => w_times (fun r2 τ1 => r = r2 ∧ Inv σ1 τ1) z0 τ) z0 σ) (C : lC p s m meth c b L xs D y t) (hcs : cells ≤ 600000 ∧ slots ≤ 7302250) (hL : L ≤ 4096) (hi : i + 8 ≤ L) (hI : Inv σ τ) (hO : lO D y aC aM s H locs σ τ) (hl : lv_has ls 4 [(0, .ref b), (1, .ref (aC 0)), (2, .ref (aM 0)), (3, .int (nI i))]) (kont : ∀ (σ1 : cS) (τ1 : mS) (H : Heap) (locs : List Loc), Inv σ1 τ1 → lO D y aC aM s H locs σ1 τ1 → W p l e room_1 s m #[Value.ref b] below meth c H locs cells slots Q (F0 m 1162 ls [])) : W p l e room_1 s m #[Value.ref b] below meth c H locs cells slots Q (F0 m 500 ls []) := by
  obtain ⟨hx, hb, hr, hml, hown, hts, hX, hbl, hK, hTs, hNw⟩ := id C
  have hbA : ¬ lA s b := Nat.not_le.mpr hbl
  refine lv_aload_n hx hb dL_law_500 rfl (lv_at hl 1 rfl) ?_
  refine lv_aload_n hx hb dL_law_501 rfl (lv_at hl 0 rfl) ?_
  refine lv_iload_n hx hb dL_law_502 rfl (lv_at hl 3 rfl) ?_
  refine lv_iconst (v := 1) hx hb dL_law_503 (by decide) ?_
  refine lv_iadd hx hb dL_law_504 ?_
  refine va_sld hx hb hX hbl hbA hO.2.2 (lin hi hL (k := 1) (by decide)) dL_law_505 ?_
  have hw := hstep (xs (nI i + (1 : Int32)).toNatClampNeg) σ τ hI
  refine lx_cic C hO (cc_X7_times l D y aC t _ σ (xs (nI i + (1 : Int32)).toNatClampNeg) _ hw) (cwV 1 hts gL_law_X7_times rfl rfl rfl (by decide +kernel) ⟨Nat.le_of_ble_eq_true rfl, Nat.le_of_ble_eq_true rfl⟩) hcs rfl hl.1 rfl (lv_room (Nat.le_of_ble_eq_true rfl)) dL_law_506 (fun r1 σ1 H locs hw hO => ?_)
  refine lv_aload_n hx hb dL_law_509 rfl (lv_at hl 2 rfl) ?_
  refine lv_aload_n hx hb dL_law_510 rfl (lv_at hl 0 rfl) ?_
  refine lv_iload_n hx hb dL_law_511 rfl (lv_at hl 3 rfl) ?_
  refine lv_iconst (v := 1) hx hb dL_law_512 (by decide) ?_
  refine lv_iadd hx hb dL_law_513 ?_
  refine va_sld hx hb hX hbl hbA hO.2.2 (lin hi hL (k := 1) (by decide)) dL_law_514 ?_
  refine lx_cim C hO (c_times l D y aM _ τ (xs (nI i + (1 : Int32)).toNatClampNeg) _ hw) (cwV 1 hts gL_law_X8_times rfl rfl rfl (by decide +kernel) ⟨Nat.le_of_ble_eq_true rfl, Nat.le_of_ble_eq_true rfl⟩) hcs rfl hl.1 rfl (lv_room (Nat.le_of_ble_eq_true rfl)) dL_law_515 (fun r2 τ1 H locs hw hO => ?_)
  refine lv_icmp_eq (tgt := 1162) hx hb dL_law_518 (by decide) (fun _ => ?_) (fun hc => absurd hw.1 hc)
  exact kont σ1 τ1 H locs hw.2 hO
set_option maxRecDepth 100000 in
set_option maxHeartbeats 4000000 in
theorem lc_lies {p : Program} {l : Launch} {e : Env} {s : State} {m : MethodId} {below : List Frame} {meth : Method} {c : Code} {b L : Nat} {xs : Nat → Int32} {D : va_G} {y : Nat → ClassId} {aC aM t : Nat → Nat} {H : Heap} {locs : List Loc} {ls : Array Slot} {Q : State → Prop} {cells slots i : Nat} {Inv : cS → mS → Prop} {σ : cS} {τ : mS} (hstep : ∀ (z0 : Int32) (z1 : Int32) (z2 : Int32) (z3 : Int32) (σ : cS) (τ : mS), Inv σ τ → v_X7_lies (fun r σ1 => w_lies (fun r2 τ1 => r = r2 ∧ Inv σ1 τ1) z0 z1 z2 z3 τ) z0 z1 z2 z3 σ) (C : lC p s m meth c b L xs D y t) (hcs : cells ≤ 600000 ∧ slots ≤ 7302250) (hL : L ≤ 4096) (hi : i + 8 ≤ L) (hI : Inv σ τ) (hO : lO D y aC aM s H locs σ τ) (hl : lv_has ls 4 [(0, .ref b), (1, .ref (aC 0)), (2, .ref (aM 0)), (3, .int (nI i))]) (kont : ∀ (σ1 : cS) (τ1 : mS) (H : Heap) (locs : List Loc), Inv σ1 τ1 → lO D y aC aM s H locs σ1 τ1 → W p l e room_1 s m #[Value.ref b] below meth c H locs cells slots Q (F0 m 1162 ls [])) : W p l e room_1 s m #[Value.ref b] below meth c H locs cells slots Q (F0 m 523 ls []) := by
  obtain ⟨hx, hb, hr, hml, hown, hts, hX, hbl, hK, hTs, hNw⟩ := id C
  have hbA : ¬ lA s b := Nat.not_le.mpr hbl
  refine lv_aload_n hx hb dL_law_523 rfl (lv_at hl 1 rfl) ?_
  refine lv_aload_n hx hb dL_law_524 rfl (lv_at hl 0 rfl) ?_
  refine lv_iload_n hx hb dL_law_525 rfl (lv_at hl 3 rfl) ?_
  refine lv_iconst (v := 1) hx hb dL_law_526 (by decide) ?_
  refine lv_iadd hx hb dL_law_527 ?_
  refine va_sld hx hb hX hbl hbA hO.2.2 (lin hi hL (k := 1) (by decide)) dL_law_528 ?_
  refine lv_aload_n hx hb dL_law_529 rfl (lv_at hl 0 rfl) ?_
  refine lv_iload_n hx hb dL_law_530 rfl (lv_at hl 3 rfl) ?_
  refine lv_iconst (v := 2) hx hb dL_law_531 (by decide) ?_
  refine lv_iadd hx hb dL_law_532 ?_
  refine va_sld hx hb hX hbl hbA hO.2.2 (lin hi hL (k := 2) (by decide)) dL_law_533 ?_
  refine lv_aload_n hx hb dL_law_534 rfl (lv_at hl 0 rfl) ?_
  refine lv_iload_n hx hb dL_law_535 rfl (lv_at hl 3 rfl) ?_
  refine lv_iconst (v := 3) hx hb dL_law_536 (by decide) ?_
  refine lv_iadd hx hb dL_law_537 ?_
  refine va_sld hx hb hX hbl hbA hO.2.2 (lin hi hL (k := 3) (by decide)) dL_law_538 ?_
  refine lv_aload_n hx hb dL_law_539 rfl (lv_at hl 0 rfl) ?_
  refine lv_iload_n hx hb dL_law_540 rfl (lv_at hl 3 rfl) ?_
  refine lv_iconst (v := 4) hx hb dL_law_541 (by decide) ?_
  refine lv_iadd hx hb dL_law_542 ?_
  refine va_sld hx hb hX hbl hbA hO.2.2 (lin hi hL (k := 4) (by decide)) dL_law_543 ?_
  have hw := hstep (xs (nI i + (1 : Int32)).toNatClampNeg) (xs (nI i + (2 : Int32)).toNatClampNeg) (xs (nI i + (3 : Int32)).toNatClampNeg) (xs (nI i + (4 : Int32)).toNatClampNeg) σ τ hI
  refine lx_cic C hO (cc_X7_lies l D y aC t _ σ (xs (nI i + (1 : Int32)).toNatClampNeg) (xs (nI i + (2 : Int32)).toNatClampNeg) (xs (nI i + (3 : Int32)).toNatClampNeg) (xs (nI i + (4 : Int32)).toNatClampNeg) _ hw) (cwV 4 hts gL_law_X7_lies rfl rfl rfl (by decide +kernel) ⟨Nat.le_of_ble_eq_true rfl, Nat.le_of_ble_eq_true rfl⟩) hcs rfl hl.1 rfl (lv_room (Nat.le_of_ble_eq_true rfl)) dL_law_544 (fun r1 σ1 H locs hw hO => ?_)
  refine lv_aload_n hx hb dL_law_547 rfl (lv_at hl 2 rfl) ?_
  refine lv_aload_n hx hb dL_law_548 rfl (lv_at hl 0 rfl) ?_
  refine lv_iload_n hx hb dL_law_549 rfl (lv_at hl 3 rfl) ?_
  refine lv_iconst (v := 1) hx hb dL_law_550 (by decide) ?_
  refine lv_iadd hx hb dL_law_551 ?_
  refine va_sld hx hb hX hbl hbA hO.2.2 (lin hi hL (k := 1) (by decide)) dL_law_552 ?_
  refine lv_aload_n hx hb dL_law_553 rfl (lv_at hl 0 rfl) ?_
  refine lv_iload_n hx hb dL_law_554 rfl (lv_at hl 3 rfl) ?_
  refine lv_iconst (v := 2) hx hb dL_law_555 (by decide) ?_
  refine lv_iadd hx hb dL_law_556 ?_
  refine va_sld hx hb hX hbl hbA hO.2.2 (lin hi hL (k := 2) (by decide)) dL_law_557 ?_
  refine lv_aload_n hx hb dL_law_558 rfl (lv_at hl 0 rfl) ?_
  refine lv_iload_n hx hb dL_law_559 rfl (lv_at hl 3 rfl) ?_
  refine lv_iconst (v := 3) hx hb dL_law_560 (by decide) ?_
  refine lv_iadd hx hb dL_law_561 ?_
  refine va_sld hx hb hX hbl hbA hO.2.2 (lin hi hL (k := 3) (by decide)) dL_law_562 ?_
  refine lv_aload_n hx hb dL_law_563 rfl (lv_at hl 0 rfl) ?_
  refine lv_iload_n hx hb dL_law_564 rfl (lv_at hl 3 rfl) ?_
  refine lv_iconst (v := 4) hx hb dL_law_565 (by decide) ?_
  refine lv_iadd hx hb dL_law_566 ?_
  refine va_sld hx hb hX hbl hbA hO.2.2 (lin hi hL (k := 4) (by decide)) dL_law_567 ?_
  refine lx_cim C hO (c_lies l D y aM _ τ (xs (nI i + (1 : Int32)).toNatClampNeg) (xs (nI i + (2 : Int32)).toNatClampNeg) (xs (nI i + (3 : Int32)).toNatClampNeg) (xs (nI i + (4 : Int32)).toNatClampNeg) _ hw) (cwV 4 hts gL_law_X8_lies rfl rfl rfl (by decide +kernel) ⟨Nat.le_of_ble_eq_true rfl, Nat.le_of_ble_eq_true rfl⟩) hcs rfl hl.1 rfl (lv_room (Nat.le_of_ble_eq_true rfl)) dL_law_568 (fun r2 τ1 H locs hw hO => ?_)
  refine lv_icmp_eq (tgt := 1162) hx hb dL_law_571 (by decide) (fun _ => ?_) (fun hc => absurd hw.1 hc)
  exact kont σ1 τ1 H locs hw.2 hO
set_option maxRecDepth 100000 in
set_option maxHeartbeats 4000000 in
theorem lc_law {p : Program} {l : Launch} {e : Env} {s : State} {m : MethodId} {below : List Frame} {meth : Method} {c : Code} {b L : Nat} {xs : Nat → Int32} {D : va_G} {y : Nat → ClassId} {aC aM t : Nat → Nat} {H : Heap} {locs : List Loc} {ls : Array Slot} {Q : State → Prop} {cells slots i : Nat} {Inv : cS → mS → Prop} {σ : cS} {τ : mS} (hstep : ∀ (z0 : Int32) (z1 : Int32) (σ : cS) (τ : mS), Inv σ τ → v_X7_law (fun r σ1 => w_law (fun r2 τ1 => r = r2 ∧ Inv σ1 τ1) z0 z1 τ) z0 z1 σ) (C : lC p s m meth c b L xs D y t) (hcs : cells ≤ 600000 ∧ slots ≤ 7302250) (hL : L ≤ 4096) (hi : i + 8 ≤ L) (hI : Inv σ τ) (hO : lO D y aC aM s H locs σ τ) (hl : lv_has ls 4 [(0, .ref b), (1, .ref (aC 0)), (2, .ref (aM 0)), (3, .int (nI i))]) (kont : ∀ (σ1 : cS) (τ1 : mS) (H : Heap) (locs : List Loc), Inv σ1 τ1 → lO D y aC aM s H locs σ1 τ1 → W p l e room_1 s m #[Value.ref b] below meth c H locs cells slots Q (F0 m 1162 ls [])) : W p l e room_1 s m #[Value.ref b] below meth c H locs cells slots Q (F0 m 576 ls []) := by
  obtain ⟨hx, hb, hr, hml, hown, hts, hX, hbl, hK, hTs, hNw⟩ := id C
  have hbA : ¬ lA s b := Nat.not_le.mpr hbl
  refine lv_aload_n hx hb dL_law_576 rfl (lv_at hl 1 rfl) ?_
  refine lv_aload_n hx hb dL_law_577 rfl (lv_at hl 0 rfl) ?_
  refine lv_iload_n hx hb dL_law_578 rfl (lv_at hl 3 rfl) ?_
  refine lv_iconst (v := 1) hx hb dL_law_579 (by decide) ?_
  refine lv_iadd hx hb dL_law_580 ?_
  refine va_sld hx hb hX hbl hbA hO.2.2 (lin hi hL (k := 1) (by decide)) dL_law_581 ?_
  refine lv_aload_n hx hb dL_law_582 rfl (lv_at hl 0 rfl) ?_
  refine lv_iload_n hx hb dL_law_583 rfl (lv_at hl 3 rfl) ?_
  refine lv_iconst (v := 2) hx hb dL_law_584 (by decide) ?_
  refine lv_iadd hx hb dL_law_585 ?_
  refine va_sld hx hb hX hbl hbA hO.2.2 (lin hi hL (k := 2) (by decide)) dL_law_586 ?_
  have hw := hstep (xs (nI i + (1 : Int32)).toNatClampNeg) (xs (nI i + (2 : Int32)).toNatClampNeg) σ τ hI
  refine lx_clc C hO (cc_X7_law l D y aC t _ σ (xs (nI i + (1 : Int32)).toNatClampNeg) (xs (nI i + (2 : Int32)).toNatClampNeg) _ hw) (cwV 2 hts gL_law_X7_law rfl rfl rfl (by decide +kernel) ⟨Nat.le_of_ble_eq_true rfl, Nat.le_of_ble_eq_true rfl⟩) hcs rfl hl.1 rfl (lv_room (Nat.le_of_ble_eq_true rfl)) dL_law_587 (fun r1 σ1 H locs hw hO => ?_)
  refine lv_aload_n hx hb dL_law_590 rfl (lv_at hl 2 rfl) ?_
  refine lv_aload_n hx hb dL_law_591 rfl (lv_at hl 0 rfl) ?_
  refine lv_iload_n hx hb dL_law_592 rfl (lv_at hl 3 rfl) ?_
  refine lv_iconst (v := 1) hx hb dL_law_593 (by decide) ?_
  refine lv_iadd hx hb dL_law_594 ?_
  refine va_sld hx hb hX hbl hbA hO.2.2 (lin hi hL (k := 1) (by decide)) dL_law_595 ?_
  refine lv_aload_n hx hb dL_law_596 rfl (lv_at hl 0 rfl) ?_
  refine lv_iload_n hx hb dL_law_597 rfl (lv_at hl 3 rfl) ?_
  refine lv_iconst (v := 2) hx hb dL_law_598 (by decide) ?_
  refine lv_iadd hx hb dL_law_599 ?_
  refine va_sld hx hb hX hbl hbA hO.2.2 (lin hi hL (k := 2) (by decide)) dL_law_600 ?_
  refine lx_clm C hO (c_law l D y aM _ τ (xs (nI i + (1 : Int32)).toNatClampNeg) (xs (nI i + (2 : Int32)).toNatClampNeg) _ hw) (cwV 2 hts gL_law_X8_law rfl rfl rfl (by decide +kernel) ⟨Nat.le_of_ble_eq_true rfl, Nat.le_of_ble_eq_true rfl⟩) hcs rfl hl.1 rfl (lv_room (Nat.le_of_ble_eq_true rfl)) dL_law_601 (fun r2 τ1 H locs hw hO => ?_)
  refine W.lcmp hx hb dL_law_604 ?_
  refine lv_if_eq (tgt := 1162) hx hb dL_law_605 (by decide) (fun _ => ?_) (fun hc => absurd ((lg_cmp_eq _ _).mpr hw.1) hc)
  exact kont σ1 τ1 H locs hw.2 hO
set_option maxRecDepth 100000 in
set_option maxHeartbeats 4000000 in
theorem lc_knot {p : Program} {l : Launch} {e : Env} {s : State} {m : MethodId} {below : List Frame} {meth : Method} {c : Code} {b L : Nat} {xs : Nat → Int32} {D : va_G} {y : Nat → ClassId} {aC aM t : Nat → Nat} {H : Heap} {locs : List Loc} {ls : Array Slot} {Q : State → Prop} {cells slots i : Nat} {Inv : cS → mS → Prop} {σ : cS} {τ : mS} (hstep : ∀ (z0 : Int32) (z1 : Int32) (σ : cS) (τ : mS), Inv σ τ → v_X7_knot (fun r σ1 => w_knot (fun r2 τ1 => r = r2 ∧ Inv σ1 τ1) z0 z1 τ) z0 z1 σ) (C : lC p s m meth c b L xs D y t) (hcs : cells ≤ 600000 ∧ slots ≤ 7302250) (hL : L ≤ 4096) (hi : i + 8 ≤ L) (hI : Inv σ τ) (hO : lO D y aC aM s H locs σ τ) (hl : lv_has ls 4 [(0, .ref b), (1, .ref (aC 0)), (2, .ref (aM 0)), (3, .int (nI i))]) (kont : ∀ (σ1 : cS) (τ1 : mS) (H : Heap) (locs : List Loc), Inv σ1 τ1 → lO D y aC aM s H locs σ1 τ1 → W p l e room_1 s m #[Value.ref b] below meth c H locs cells slots Q (F0 m 1162 ls [])) : W p l e room_1 s m #[Value.ref b] below meth c H locs cells slots Q (F0 m 610 ls []) := by
  obtain ⟨hx, hb, hr, hml, hown, hts, hX, hbl, hK, hTs, hNw⟩ := id C
  have hbA : ¬ lA s b := Nat.not_le.mpr hbl
  refine lv_aload_n hx hb dL_law_610 rfl (lv_at hl 1 rfl) ?_
  refine lv_aload_n hx hb dL_law_611 rfl (lv_at hl 0 rfl) ?_
  refine lv_iload_n hx hb dL_law_612 rfl (lv_at hl 3 rfl) ?_
  refine lv_iconst (v := 1) hx hb dL_law_613 (by decide) ?_
  refine lv_iadd hx hb dL_law_614 ?_
  refine va_sld hx hb hX hbl hbA hO.2.2 (lin hi hL (k := 1) (by decide)) dL_law_615 ?_
  refine lv_aload_n hx hb dL_law_616 rfl (lv_at hl 0 rfl) ?_
  refine lv_iload_n hx hb dL_law_617 rfl (lv_at hl 3 rfl) ?_
  refine lv_iconst (v := 2) hx hb dL_law_618 (by decide) ?_
  refine lv_iadd hx hb dL_law_619 ?_
  refine va_sld hx hb hX hbl hbA hO.2.2 (lin hi hL (k := 2) (by decide)) dL_law_620 ?_
  have hw := hstep (xs (nI i + (1 : Int32)).toNatClampNeg) (xs (nI i + (2 : Int32)).toNatClampNeg) σ τ hI
  refine lx_clc C hO (cc_X7_knot l D y aC t _ σ (xs (nI i + (1 : Int32)).toNatClampNeg) (xs (nI i + (2 : Int32)).toNatClampNeg) _ hw) (cwV 2 hts gL_law_X7_knot rfl rfl rfl (by decide +kernel) ⟨Nat.le_of_ble_eq_true rfl, Nat.le_of_ble_eq_true rfl⟩) hcs rfl hl.1 rfl (lv_room (Nat.le_of_ble_eq_true rfl)) dL_law_621 (fun r1 σ1 H locs hw hO => ?_)
  refine lv_aload_n hx hb dL_law_624 rfl (lv_at hl 2 rfl) ?_
  refine lv_aload_n hx hb dL_law_625 rfl (lv_at hl 0 rfl) ?_
  refine lv_iload_n hx hb dL_law_626 rfl (lv_at hl 3 rfl) ?_
  refine lv_iconst (v := 1) hx hb dL_law_627 (by decide) ?_
  refine lv_iadd hx hb dL_law_628 ?_
  refine va_sld hx hb hX hbl hbA hO.2.2 (lin hi hL (k := 1) (by decide)) dL_law_629 ?_
  refine lv_aload_n hx hb dL_law_630 rfl (lv_at hl 0 rfl) ?_
  refine lv_iload_n hx hb dL_law_631 rfl (lv_at hl 3 rfl) ?_
  refine lv_iconst (v := 2) hx hb dL_law_632 (by decide) ?_
  refine lv_iadd hx hb dL_law_633 ?_
  refine va_sld hx hb hX hbl hbA hO.2.2 (lin hi hL (k := 2) (by decide)) dL_law_634 ?_
  refine lx_clm C hO (c_knot l D y aM _ τ (xs (nI i + (1 : Int32)).toNatClampNeg) (xs (nI i + (2 : Int32)).toNatClampNeg) _ hw) (cwV 2 hts gL_law_X8_knot rfl rfl rfl (by decide +kernel) ⟨Nat.le_of_ble_eq_true rfl, Nat.le_of_ble_eq_true rfl⟩) hcs rfl hl.1 rfl (lv_room (Nat.le_of_ble_eq_true rfl)) dL_law_635 (fun r2 τ1 H locs hw hO => ?_)
  refine W.lcmp hx hb dL_law_638 ?_
  refine lv_if_eq (tgt := 1162) hx hb dL_law_639 (by decide) (fun _ => ?_) (fun hc => absurd ((lg_cmp_eq _ _).mpr hw.1) hc)
  exact kont σ1 τ1 H locs hw.2 hO
set_option maxRecDepth 100000 in
set_option maxHeartbeats 4000000 in
theorem lc_crosses {p : Program} {l : Launch} {e : Env} {s : State} {m : MethodId} {below : List Frame} {meth : Method} {c : Code} {b L : Nat} {xs : Nat → Int32} {D : va_G} {y : Nat → ClassId} {aC aM t : Nat → Nat} {H : Heap} {locs : List Loc} {ls : Array Slot} {Q : State → Prop} {cells slots i : Nat} {Inv : cS → mS → Prop} {σ : cS} {τ : mS} (hstep : ∀ (z0 : Int32) (σ : cS) (τ : mS), Inv σ τ → v_X7_crosses (fun r σ1 => w_crosses (fun r2 τ1 => r = r2 ∧ Inv σ1 τ1) z0 τ) z0 σ) (C : lC p s m meth c b L xs D y t) (hcs : cells ≤ 600000 ∧ slots ≤ 7302250) (hL : L ≤ 4096) (hi : i + 8 ≤ L) (hI : Inv σ τ) (hO : lO D y aC aM s H locs σ τ) (hl : lv_has ls 4 [(0, .ref b), (1, .ref (aC 0)), (2, .ref (aM 0)), (3, .int (nI i))]) (kont : ∀ (σ1 : cS) (τ1 : mS) (H : Heap) (locs : List Loc), Inv σ1 τ1 → lO D y aC aM s H locs σ1 τ1 → W p l e room_1 s m #[Value.ref b] below meth c H locs cells slots Q (F0 m 1162 ls [])) : W p l e room_1 s m #[Value.ref b] below meth c H locs cells slots Q (F0 m 644 ls []) := by
  obtain ⟨hx, hb, hr, hml, hown, hts, hX, hbl, hK, hTs, hNw⟩ := id C
  have hbA : ¬ lA s b := Nat.not_le.mpr hbl
  refine lv_aload_n hx hb dL_law_644 rfl (lv_at hl 1 rfl) ?_
  refine lv_aload_n hx hb dL_law_645 rfl (lv_at hl 0 rfl) ?_
  refine lv_iload_n hx hb dL_law_646 rfl (lv_at hl 3 rfl) ?_
  refine lv_iconst (v := 1) hx hb dL_law_647 (by decide) ?_
  refine lv_iadd hx hb dL_law_648 ?_
  refine va_sld hx hb hX hbl hbA hO.2.2 (lin hi hL (k := 1) (by decide)) dL_law_649 ?_
  have hw := hstep (xs (nI i + (1 : Int32)).toNatClampNeg) σ τ hI
  refine lx_cic C hO (cc_X7_crosses l D y aC t _ σ (xs (nI i + (1 : Int32)).toNatClampNeg) _ hw) (cwV 1 hts gL_law_X7_crosses rfl rfl rfl (by decide +kernel) ⟨Nat.le_of_ble_eq_true rfl, Nat.le_of_ble_eq_true rfl⟩) hcs rfl hl.1 rfl (lv_room (Nat.le_of_ble_eq_true rfl)) dL_law_650 (fun r1 σ1 H locs hw hO => ?_)
  refine lv_aload_n hx hb dL_law_653 rfl (lv_at hl 2 rfl) ?_
  refine lv_aload_n hx hb dL_law_654 rfl (lv_at hl 0 rfl) ?_
  refine lv_iload_n hx hb dL_law_655 rfl (lv_at hl 3 rfl) ?_
  refine lv_iconst (v := 1) hx hb dL_law_656 (by decide) ?_
  refine lv_iadd hx hb dL_law_657 ?_
  refine va_sld hx hb hX hbl hbA hO.2.2 (lin hi hL (k := 1) (by decide)) dL_law_658 ?_
  refine lx_cim C hO (c_crosses l D y aM _ τ (xs (nI i + (1 : Int32)).toNatClampNeg) _ hw) (cwV 1 hts gL_law_X8_crosses rfl rfl rfl (by decide +kernel) ⟨Nat.le_of_ble_eq_true rfl, Nat.le_of_ble_eq_true rfl⟩) hcs rfl hl.1 rfl (lv_room (Nat.le_of_ble_eq_true rfl)) dL_law_659 (fun r2 τ1 H locs hw hO => ?_)
  refine lv_icmp_eq (tgt := 1162) hx hb dL_law_662 (by decide) (fun _ => ?_) (fun hc => absurd hw.1 hc)
  exact kont σ1 τ1 H locs hw.2 hO
set_option maxRecDepth 100000 in
set_option maxHeartbeats 4000000 in
theorem lc_meets {p : Program} {l : Launch} {e : Env} {s : State} {m : MethodId} {below : List Frame} {meth : Method} {c : Code} {b L : Nat} {xs : Nat → Int32} {D : va_G} {y : Nat → ClassId} {aC aM t : Nat → Nat} {H : Heap} {locs : List Loc} {ls : Array Slot} {Q : State → Prop} {cells slots i : Nat} {Inv : cS → mS → Prop} {σ : cS} {τ : mS} (hstep : ∀ (z0 : Int32) (z1 : Int32) (z2 : Int32) (z3 : Int32) (σ : cS) (τ : mS), Inv σ τ → v_X7_meets (fun r σ1 => w_meets (fun r2 τ1 => r = r2 ∧ Inv σ1 τ1) z0 z1 z2 z3 τ) z0 z1 z2 z3 σ) (C : lC p s m meth c b L xs D y t) (hcs : cells ≤ 600000 ∧ slots ≤ 7302250) (hL : L ≤ 4096) (hi : i + 8 ≤ L) (hI : Inv σ τ) (hO : lO D y aC aM s H locs σ τ) (hl : lv_has ls 4 [(0, .ref b), (1, .ref (aC 0)), (2, .ref (aM 0)), (3, .int (nI i))]) (kont : ∀ (σ1 : cS) (τ1 : mS) (H : Heap) (locs : List Loc), Inv σ1 τ1 → lO D y aC aM s H locs σ1 τ1 → W p l e room_1 s m #[Value.ref b] below meth c H locs cells slots Q (F0 m 1162 ls [])) : W p l e room_1 s m #[Value.ref b] below meth c H locs cells slots Q (F0 m 667 ls []) := by
  obtain ⟨hx, hb, hr, hml, hown, hts, hX, hbl, hK, hTs, hNw⟩ := id C
  have hbA : ¬ lA s b := Nat.not_le.mpr hbl
  refine lv_aload_n hx hb dL_law_667 rfl (lv_at hl 1 rfl) ?_
  refine lv_aload_n hx hb dL_law_668 rfl (lv_at hl 0 rfl) ?_
  refine lv_iload_n hx hb dL_law_669 rfl (lv_at hl 3 rfl) ?_
  refine lv_iconst (v := 1) hx hb dL_law_670 (by decide) ?_
  refine lv_iadd hx hb dL_law_671 ?_
  refine va_sld hx hb hX hbl hbA hO.2.2 (lin hi hL (k := 1) (by decide)) dL_law_672 ?_
  refine lv_aload_n hx hb dL_law_673 rfl (lv_at hl 0 rfl) ?_
  refine lv_iload_n hx hb dL_law_674 rfl (lv_at hl 3 rfl) ?_
  refine lv_iconst (v := 2) hx hb dL_law_675 (by decide) ?_
  refine lv_iadd hx hb dL_law_676 ?_
  refine va_sld hx hb hX hbl hbA hO.2.2 (lin hi hL (k := 2) (by decide)) dL_law_677 ?_
  refine lv_aload_n hx hb dL_law_678 rfl (lv_at hl 0 rfl) ?_
  refine lv_iload_n hx hb dL_law_679 rfl (lv_at hl 3 rfl) ?_
  refine lv_iconst (v := 3) hx hb dL_law_680 (by decide) ?_
  refine lv_iadd hx hb dL_law_681 ?_
  refine va_sld hx hb hX hbl hbA hO.2.2 (lin hi hL (k := 3) (by decide)) dL_law_682 ?_
  refine lv_aload_n hx hb dL_law_683 rfl (lv_at hl 0 rfl) ?_
  refine lv_iload_n hx hb dL_law_684 rfl (lv_at hl 3 rfl) ?_
  refine lv_iconst (v := 4) hx hb dL_law_685 (by decide) ?_
  refine lv_iadd hx hb dL_law_686 ?_
  refine va_sld hx hb hX hbl hbA hO.2.2 (lin hi hL (k := 4) (by decide)) dL_law_687 ?_
  have hw := hstep (xs (nI i + (1 : Int32)).toNatClampNeg) (xs (nI i + (2 : Int32)).toNatClampNeg) (xs (nI i + (3 : Int32)).toNatClampNeg) (xs (nI i + (4 : Int32)).toNatClampNeg) σ τ hI
  refine lx_cic C hO (cc_X7_meets l D y aC t _ σ (xs (nI i + (1 : Int32)).toNatClampNeg) (xs (nI i + (2 : Int32)).toNatClampNeg) (xs (nI i + (3 : Int32)).toNatClampNeg) (xs (nI i + (4 : Int32)).toNatClampNeg) _ hw) (cwV 4 hts gL_law_X7_meets rfl rfl rfl (by decide +kernel) ⟨Nat.le_of_ble_eq_true rfl, Nat.le_of_ble_eq_true rfl⟩) hcs rfl hl.1 rfl (lv_room (Nat.le_of_ble_eq_true rfl)) dL_law_688 (fun r1 σ1 H locs hw hO => ?_)
  refine lv_aload_n hx hb dL_law_691 rfl (lv_at hl 2 rfl) ?_
  refine lv_aload_n hx hb dL_law_692 rfl (lv_at hl 0 rfl) ?_
  refine lv_iload_n hx hb dL_law_693 rfl (lv_at hl 3 rfl) ?_
  refine lv_iconst (v := 1) hx hb dL_law_694 (by decide) ?_
  refine lv_iadd hx hb dL_law_695 ?_
  refine va_sld hx hb hX hbl hbA hO.2.2 (lin hi hL (k := 1) (by decide)) dL_law_696 ?_
  refine lv_aload_n hx hb dL_law_697 rfl (lv_at hl 0 rfl) ?_
  refine lv_iload_n hx hb dL_law_698 rfl (lv_at hl 3 rfl) ?_
  refine lv_iconst (v := 2) hx hb dL_law_699 (by decide) ?_
  refine lv_iadd hx hb dL_law_700 ?_
  refine va_sld hx hb hX hbl hbA hO.2.2 (lin hi hL (k := 2) (by decide)) dL_law_701 ?_
  refine lv_aload_n hx hb dL_law_702 rfl (lv_at hl 0 rfl) ?_
  refine lv_iload_n hx hb dL_law_703 rfl (lv_at hl 3 rfl) ?_
  refine lv_iconst (v := 3) hx hb dL_law_704 (by decide) ?_
  refine lv_iadd hx hb dL_law_705 ?_
  refine va_sld hx hb hX hbl hbA hO.2.2 (lin hi hL (k := 3) (by decide)) dL_law_706 ?_
  refine lv_aload_n hx hb dL_law_707 rfl (lv_at hl 0 rfl) ?_
  refine lv_iload_n hx hb dL_law_708 rfl (lv_at hl 3 rfl) ?_
  refine lv_iconst (v := 4) hx hb dL_law_709 (by decide) ?_
  refine lv_iadd hx hb dL_law_710 ?_
  refine va_sld hx hb hX hbl hbA hO.2.2 (lin hi hL (k := 4) (by decide)) dL_law_711 ?_
  refine lx_cim C hO (c_meets l D y aM _ τ (xs (nI i + (1 : Int32)).toNatClampNeg) (xs (nI i + (2 : Int32)).toNatClampNeg) (xs (nI i + (3 : Int32)).toNatClampNeg) (xs (nI i + (4 : Int32)).toNatClampNeg) _ hw) (cwV 4 hts gL_law_X8_meets rfl rfl rfl (by decide +kernel) ⟨Nat.le_of_ble_eq_true rfl, Nat.le_of_ble_eq_true rfl⟩) hcs rfl hl.1 rfl (lv_room (Nat.le_of_ble_eq_true rfl)) dL_law_712 (fun r2 τ1 H locs hw hO => ?_)
  refine lv_icmp_eq (tgt := 1162) hx hb dL_law_715 (by decide) (fun _ => ?_) (fun hc => absurd hw.1 hc)
  exact kont σ1 τ1 H locs hw.2 hO
set_option maxRecDepth 100000 in
set_option maxHeartbeats 4000000 in
theorem lc_touch {p : Program} {l : Launch} {e : Env} {s : State} {m : MethodId} {below : List Frame} {meth : Method} {c : Code} {b L : Nat} {xs : Nat → Int32} {D : va_G} {y : Nat → ClassId} {aC aM t : Nat → Nat} {H : Heap} {locs : List Loc} {ls : Array Slot} {Q : State → Prop} {cells slots i : Nat} {Inv : cS → mS → Prop} {σ : cS} {τ : mS} (hstep : ∀ (z0 : Int32) (z1 : Int32) (z2 : Int32) (z3 : Int32) (σ : cS) (τ : mS), Inv σ τ → v_X7_touch (fun r σ1 => w_touch (fun r2 τ1 => r = r2 ∧ Inv σ1 τ1) z0 z1 z2 z3 τ) z0 z1 z2 z3 σ) (C : lC p s m meth c b L xs D y t) (hcs : cells ≤ 600000 ∧ slots ≤ 7302250) (hL : L ≤ 4096) (hi : i + 8 ≤ L) (hI : Inv σ τ) (hO : lO D y aC aM s H locs σ τ) (hl : lv_has ls 4 [(0, .ref b), (1, .ref (aC 0)), (2, .ref (aM 0)), (3, .int (nI i))]) (kont : ∀ (σ1 : cS) (τ1 : mS) (H : Heap) (locs : List Loc), Inv σ1 τ1 → lO D y aC aM s H locs σ1 τ1 → W p l e room_1 s m #[Value.ref b] below meth c H locs cells slots Q (F0 m 1162 ls [])) : W p l e room_1 s m #[Value.ref b] below meth c H locs cells slots Q (F0 m 720 ls []) := by
  obtain ⟨hx, hb, hr, hml, hown, hts, hX, hbl, hK, hTs, hNw⟩ := id C
  have hbA : ¬ lA s b := Nat.not_le.mpr hbl
  refine lv_aload_n hx hb dL_law_720 rfl (lv_at hl 1 rfl) ?_
  refine lv_aload_n hx hb dL_law_721 rfl (lv_at hl 0 rfl) ?_
  refine lv_iload_n hx hb dL_law_722 rfl (lv_at hl 3 rfl) ?_
  refine lv_iconst (v := 1) hx hb dL_law_723 (by decide) ?_
  refine lv_iadd hx hb dL_law_724 ?_
  refine va_sld hx hb hX hbl hbA hO.2.2 (lin hi hL (k := 1) (by decide)) dL_law_725 ?_
  refine lv_aload_n hx hb dL_law_726 rfl (lv_at hl 0 rfl) ?_
  refine lv_iload_n hx hb dL_law_727 rfl (lv_at hl 3 rfl) ?_
  refine lv_iconst (v := 2) hx hb dL_law_728 (by decide) ?_
  refine lv_iadd hx hb dL_law_729 ?_
  refine va_sld hx hb hX hbl hbA hO.2.2 (lin hi hL (k := 2) (by decide)) dL_law_730 ?_
  refine lv_aload_n hx hb dL_law_731 rfl (lv_at hl 0 rfl) ?_
  refine lv_iload_n hx hb dL_law_732 rfl (lv_at hl 3 rfl) ?_
  refine lv_iconst (v := 3) hx hb dL_law_733 (by decide) ?_
  refine lv_iadd hx hb dL_law_734 ?_
  refine va_sld hx hb hX hbl hbA hO.2.2 (lin hi hL (k := 3) (by decide)) dL_law_735 ?_
  refine lv_aload_n hx hb dL_law_736 rfl (lv_at hl 0 rfl) ?_
  refine lv_iload_n hx hb dL_law_737 rfl (lv_at hl 3 rfl) ?_
  refine lv_iconst (v := 4) hx hb dL_law_738 (by decide) ?_
  refine lv_iadd hx hb dL_law_739 ?_
  refine va_sld hx hb hX hbl hbA hO.2.2 (lin hi hL (k := 4) (by decide)) dL_law_740 ?_
  have hw := hstep (xs (nI i + (1 : Int32)).toNatClampNeg) (xs (nI i + (2 : Int32)).toNatClampNeg) (xs (nI i + (3 : Int32)).toNatClampNeg) (xs (nI i + (4 : Int32)).toNatClampNeg) σ τ hI
  refine lx_clc C hO (cc_X7_touch l D y aC t _ σ (xs (nI i + (1 : Int32)).toNatClampNeg) (xs (nI i + (2 : Int32)).toNatClampNeg) (xs (nI i + (3 : Int32)).toNatClampNeg) (xs (nI i + (4 : Int32)).toNatClampNeg) _ hw) (cwV 4 hts gL_law_X7_touch rfl rfl rfl (by decide +kernel) ⟨Nat.le_of_ble_eq_true rfl, Nat.le_of_ble_eq_true rfl⟩) hcs rfl hl.1 rfl (lv_room (Nat.le_of_ble_eq_true rfl)) dL_law_741 (fun r1 σ1 H locs hw hO => ?_)
  refine lv_aload_n hx hb dL_law_744 rfl (lv_at hl 2 rfl) ?_
  refine lv_aload_n hx hb dL_law_745 rfl (lv_at hl 0 rfl) ?_
  refine lv_iload_n hx hb dL_law_746 rfl (lv_at hl 3 rfl) ?_
  refine lv_iconst (v := 1) hx hb dL_law_747 (by decide) ?_
  refine lv_iadd hx hb dL_law_748 ?_
  refine va_sld hx hb hX hbl hbA hO.2.2 (lin hi hL (k := 1) (by decide)) dL_law_749 ?_
  refine lv_aload_n hx hb dL_law_750 rfl (lv_at hl 0 rfl) ?_
  refine lv_iload_n hx hb dL_law_751 rfl (lv_at hl 3 rfl) ?_
  refine lv_iconst (v := 2) hx hb dL_law_752 (by decide) ?_
  refine lv_iadd hx hb dL_law_753 ?_
  refine va_sld hx hb hX hbl hbA hO.2.2 (lin hi hL (k := 2) (by decide)) dL_law_754 ?_
  refine lv_aload_n hx hb dL_law_755 rfl (lv_at hl 0 rfl) ?_
  refine lv_iload_n hx hb dL_law_756 rfl (lv_at hl 3 rfl) ?_
  refine lv_iconst (v := 3) hx hb dL_law_757 (by decide) ?_
  refine lv_iadd hx hb dL_law_758 ?_
  refine va_sld hx hb hX hbl hbA hO.2.2 (lin hi hL (k := 3) (by decide)) dL_law_759 ?_
  refine lv_aload_n hx hb dL_law_760 rfl (lv_at hl 0 rfl) ?_
  refine lv_iload_n hx hb dL_law_761 rfl (lv_at hl 3 rfl) ?_
  refine lv_iconst (v := 4) hx hb dL_law_762 (by decide) ?_
  refine lv_iadd hx hb dL_law_763 ?_
  refine va_sld hx hb hX hbl hbA hO.2.2 (lin hi hL (k := 4) (by decide)) dL_law_764 ?_
  refine lx_clm C hO (c_touch l D y aM _ τ (xs (nI i + (1 : Int32)).toNatClampNeg) (xs (nI i + (2 : Int32)).toNatClampNeg) (xs (nI i + (3 : Int32)).toNatClampNeg) (xs (nI i + (4 : Int32)).toNatClampNeg) _ hw) (cwV 4 hts gL_law_X8_touch rfl rfl rfl (by decide +kernel) ⟨Nat.le_of_ble_eq_true rfl, Nat.le_of_ble_eq_true rfl⟩) hcs rfl hl.1 rfl (lv_room (Nat.le_of_ble_eq_true rfl)) dL_law_765 (fun r2 τ1 H locs hw hO => ?_)
  refine W.lcmp hx hb dL_law_768 ?_
  refine lv_if_eq (tgt := 1162) hx hb dL_law_769 (by decide) (fun _ => ?_) (fun hc => absurd ((lg_cmp_eq _ _).mpr hw.1) hc)
  exact kont σ1 τ1 H locs hw.2 hO
set_option maxRecDepth 100000 in
set_option maxHeartbeats 4000000 in
theorem lc_same {p : Program} {l : Launch} {e : Env} {s : State} {m : MethodId} {below : List Frame} {meth : Method} {c : Code} {b L : Nat} {xs : Nat → Int32} {D : va_G} {y : Nat → ClassId} {aC aM t : Nat → Nat} {H : Heap} {locs : List Loc} {ls : Array Slot} {Q : State → Prop} {cells slots i : Nat} {Inv : cS → mS → Prop} {σ : cS} {τ : mS} (hstep : ∀ (z0 : Int32) (z1 : Int32) (σ : cS) (τ : mS), Inv σ τ → v_X7_same (fun r σ1 => w_same (fun r2 τ1 => r = r2 ∧ Inv σ1 τ1) z0 z1 τ) z0 z1 σ) (C : lC p s m meth c b L xs D y t) (hcs : cells ≤ 600000 ∧ slots ≤ 7302250) (hL : L ≤ 4096) (hi : i + 8 ≤ L) (hI : Inv σ τ) (hO : lO D y aC aM s H locs σ τ) (hl : lv_has ls 4 [(0, .ref b), (1, .ref (aC 0)), (2, .ref (aM 0)), (3, .int (nI i))]) (kont : ∀ (σ1 : cS) (τ1 : mS) (H : Heap) (locs : List Loc), Inv σ1 τ1 → lO D y aC aM s H locs σ1 τ1 → W p l e room_1 s m #[Value.ref b] below meth c H locs cells slots Q (F0 m 1162 ls [])) : W p l e room_1 s m #[Value.ref b] below meth c H locs cells slots Q (F0 m 774 ls []) := by
  obtain ⟨hx, hb, hr, hml, hown, hts, hX, hbl, hK, hTs, hNw⟩ := id C
  have hbA : ¬ lA s b := Nat.not_le.mpr hbl
  refine lv_aload_n hx hb dL_law_774 rfl (lv_at hl 1 rfl) ?_
  refine lv_aload_n hx hb dL_law_775 rfl (lv_at hl 0 rfl) ?_
  refine lv_iload_n hx hb dL_law_776 rfl (lv_at hl 3 rfl) ?_
  refine lv_iconst (v := 1) hx hb dL_law_777 (by decide) ?_
  refine lv_iadd hx hb dL_law_778 ?_
  refine va_sld hx hb hX hbl hbA hO.2.2 (lin hi hL (k := 1) (by decide)) dL_law_779 ?_
  refine lv_aload_n hx hb dL_law_780 rfl (lv_at hl 0 rfl) ?_
  refine lv_iload_n hx hb dL_law_781 rfl (lv_at hl 3 rfl) ?_
  refine lv_iconst (v := 2) hx hb dL_law_782 (by decide) ?_
  refine lv_iadd hx hb dL_law_783 ?_
  refine va_sld hx hb hX hbl hbA hO.2.2 (lin hi hL (k := 2) (by decide)) dL_law_784 ?_
  have hw := hstep (xs (nI i + (1 : Int32)).toNatClampNeg) (xs (nI i + (2 : Int32)).toNatClampNeg) σ τ hI
  refine lx_cic C hO (cc_X7_same l D y aC t _ σ (xs (nI i + (1 : Int32)).toNatClampNeg) (xs (nI i + (2 : Int32)).toNatClampNeg) _ hw) (cwV 2 hts gL_law_X7_same rfl rfl rfl (by decide +kernel) ⟨Nat.le_of_ble_eq_true rfl, Nat.le_of_ble_eq_true rfl⟩) hcs rfl hl.1 rfl (lv_room (Nat.le_of_ble_eq_true rfl)) dL_law_785 (fun r1 σ1 H locs hw hO => ?_)
  refine lv_aload_n hx hb dL_law_788 rfl (lv_at hl 2 rfl) ?_
  refine lv_aload_n hx hb dL_law_789 rfl (lv_at hl 0 rfl) ?_
  refine lv_iload_n hx hb dL_law_790 rfl (lv_at hl 3 rfl) ?_
  refine lv_iconst (v := 1) hx hb dL_law_791 (by decide) ?_
  refine lv_iadd hx hb dL_law_792 ?_
  refine va_sld hx hb hX hbl hbA hO.2.2 (lin hi hL (k := 1) (by decide)) dL_law_793 ?_
  refine lv_aload_n hx hb dL_law_794 rfl (lv_at hl 0 rfl) ?_
  refine lv_iload_n hx hb dL_law_795 rfl (lv_at hl 3 rfl) ?_
  refine lv_iconst (v := 2) hx hb dL_law_796 (by decide) ?_
  refine lv_iadd hx hb dL_law_797 ?_
  refine va_sld hx hb hX hbl hbA hO.2.2 (lin hi hL (k := 2) (by decide)) dL_law_798 ?_
  refine lx_cim C hO (c_same l D y aM _ τ (xs (nI i + (1 : Int32)).toNatClampNeg) (xs (nI i + (2 : Int32)).toNatClampNeg) _ hw) (cwV 2 hts gL_law_X8_same rfl rfl rfl (by decide +kernel) ⟨Nat.le_of_ble_eq_true rfl, Nat.le_of_ble_eq_true rfl⟩) hcs rfl hl.1 rfl (lv_room (Nat.le_of_ble_eq_true rfl)) dL_law_799 (fun r2 τ1 H locs hw hO => ?_)
  refine lv_icmp_eq (tgt := 1162) hx hb dL_law_802 (by decide) (fun _ => ?_) (fun hc => absurd hw.1 hc)
  exact kont σ1 τ1 H locs hw.2 hO
set_option maxRecDepth 100000 in
set_option maxHeartbeats 4000000 in
theorem lc_anew {p : Program} {l : Launch} {e : Env} {s : State} {m : MethodId} {below : List Frame} {meth : Method} {c : Code} {b L : Nat} {xs : Nat → Int32} {D : va_G} {y : Nat → ClassId} {aC aM t : Nat → Nat} {H : Heap} {locs : List Loc} {ls : Array Slot} {Q : State → Prop} {cells slots i : Nat} {Inv : cS → mS → Prop} {σ : cS} {τ : mS} (hstep : ∀ (z0 : Int32) (z1 : Int32) (z2 : Int32) (z3 : Int32) (z4 : Int32) (σ : cS) (τ : mS), Inv σ τ → v_X7_anew (fun r σ1 => w_anew (fun r2 τ1 => r = r2 ∧ Inv σ1 τ1) z0 z1 z2 z3 z4 τ) z0 z1 z2 z3 z4 σ) (C : lC p s m meth c b L xs D y t) (hcs : cells ≤ 600000 ∧ slots ≤ 7302250) (hL : L ≤ 4096) (hi : i + 8 ≤ L) (hI : Inv σ τ) (hO : lO D y aC aM s H locs σ τ) (hl : lv_has ls 4 [(0, .ref b), (1, .ref (aC 0)), (2, .ref (aM 0)), (3, .int (nI i))]) (kont : ∀ (σ1 : cS) (τ1 : mS) (H : Heap) (locs : List Loc), Inv σ1 τ1 → lO D y aC aM s H locs σ1 τ1 → W p l e room_1 s m #[Value.ref b] below meth c H locs cells slots Q (F0 m 1162 ls [])) : W p l e room_1 s m #[Value.ref b] below meth c H locs cells slots Q (F0 m 807 ls []) := by
  obtain ⟨hx, hb, hr, hml, hown, hts, hX, hbl, hK, hTs, hNw⟩ := id C
  have hbA : ¬ lA s b := Nat.not_le.mpr hbl
  refine lv_aload_n hx hb dL_law_807 rfl (lv_at hl 1 rfl) ?_
  refine lv_aload_n hx hb dL_law_808 rfl (lv_at hl 0 rfl) ?_
  refine lv_iload_n hx hb dL_law_809 rfl (lv_at hl 3 rfl) ?_
  refine lv_iconst (v := 1) hx hb dL_law_810 (by decide) ?_
  refine lv_iadd hx hb dL_law_811 ?_
  refine va_sld hx hb hX hbl hbA hO.2.2 (lin hi hL (k := 1) (by decide)) dL_law_812 ?_
  refine lv_aload_n hx hb dL_law_813 rfl (lv_at hl 0 rfl) ?_
  refine lv_iload_n hx hb dL_law_814 rfl (lv_at hl 3 rfl) ?_
  refine lv_iconst (v := 2) hx hb dL_law_815 (by decide) ?_
  refine lv_iadd hx hb dL_law_816 ?_
  refine va_sld hx hb hX hbl hbA hO.2.2 (lin hi hL (k := 2) (by decide)) dL_law_817 ?_
  refine lv_aload_n hx hb dL_law_818 rfl (lv_at hl 0 rfl) ?_
  refine lv_iload_n hx hb dL_law_819 rfl (lv_at hl 3 rfl) ?_
  refine lv_iconst (v := 3) hx hb dL_law_820 (by decide) ?_
  refine lv_iadd hx hb dL_law_821 ?_
  refine va_sld hx hb hX hbl hbA hO.2.2 (lin hi hL (k := 3) (by decide)) dL_law_822 ?_
  refine lv_aload_n hx hb dL_law_823 rfl (lv_at hl 0 rfl) ?_
  refine lv_iload_n hx hb dL_law_824 rfl (lv_at hl 3 rfl) ?_
  refine lv_iconst (v := 4) hx hb dL_law_825 (by decide) ?_
  refine lv_iadd hx hb dL_law_826 ?_
  refine va_sld hx hb hX hbl hbA hO.2.2 (lin hi hL (k := 4) (by decide)) dL_law_827 ?_
  refine lv_aload_n hx hb dL_law_828 rfl (lv_at hl 0 rfl) ?_
  refine lv_iload_n hx hb dL_law_829 rfl (lv_at hl 3 rfl) ?_
  refine lv_iconst (v := 5) hx hb dL_law_830 (by decide) ?_
  refine lv_iadd hx hb dL_law_831 ?_
  refine va_sld hx hb hX hbl hbA hO.2.2 (lin hi hL (k := 5) (by decide)) dL_law_832 ?_
  have hw := hstep (xs (nI i + (1 : Int32)).toNatClampNeg) (xs (nI i + (2 : Int32)).toNatClampNeg) (xs (nI i + (3 : Int32)).toNatClampNeg) (xs (nI i + (4 : Int32)).toNatClampNeg) (xs (nI i + (5 : Int32)).toNatClampNeg) σ τ hI
  refine lx_cic C hO (cc_X7_anew l D y aC t _ σ (xs (nI i + (1 : Int32)).toNatClampNeg) (xs (nI i + (2 : Int32)).toNatClampNeg) (xs (nI i + (3 : Int32)).toNatClampNeg) (xs (nI i + (4 : Int32)).toNatClampNeg) (xs (nI i + (5 : Int32)).toNatClampNeg) _ hw) (cwV 5 hts gL_law_X7_anew rfl rfl rfl (by decide +kernel) ⟨Nat.le_of_ble_eq_true rfl, Nat.le_of_ble_eq_true rfl⟩) hcs rfl hl.1 rfl (lv_room (Nat.le_of_ble_eq_true rfl)) dL_law_833 (fun r1 σ1 H locs hw hO => ?_)
  refine lv_aload_n hx hb dL_law_836 rfl (lv_at hl 2 rfl) ?_
  refine lv_aload_n hx hb dL_law_837 rfl (lv_at hl 0 rfl) ?_
  refine lv_iload_n hx hb dL_law_838 rfl (lv_at hl 3 rfl) ?_
  refine lv_iconst (v := 1) hx hb dL_law_839 (by decide) ?_
  refine lv_iadd hx hb dL_law_840 ?_
  refine va_sld hx hb hX hbl hbA hO.2.2 (lin hi hL (k := 1) (by decide)) dL_law_841 ?_
  refine lv_aload_n hx hb dL_law_842 rfl (lv_at hl 0 rfl) ?_
  refine lv_iload_n hx hb dL_law_843 rfl (lv_at hl 3 rfl) ?_
  refine lv_iconst (v := 2) hx hb dL_law_844 (by decide) ?_
  refine lv_iadd hx hb dL_law_845 ?_
  refine va_sld hx hb hX hbl hbA hO.2.2 (lin hi hL (k := 2) (by decide)) dL_law_846 ?_
  refine lv_aload_n hx hb dL_law_847 rfl (lv_at hl 0 rfl) ?_
  refine lv_iload_n hx hb dL_law_848 rfl (lv_at hl 3 rfl) ?_
  refine lv_iconst (v := 3) hx hb dL_law_849 (by decide) ?_
  refine lv_iadd hx hb dL_law_850 ?_
  refine va_sld hx hb hX hbl hbA hO.2.2 (lin hi hL (k := 3) (by decide)) dL_law_851 ?_
  refine lv_aload_n hx hb dL_law_852 rfl (lv_at hl 0 rfl) ?_
  refine lv_iload_n hx hb dL_law_853 rfl (lv_at hl 3 rfl) ?_
  refine lv_iconst (v := 4) hx hb dL_law_854 (by decide) ?_
  refine lv_iadd hx hb dL_law_855 ?_
  refine va_sld hx hb hX hbl hbA hO.2.2 (lin hi hL (k := 4) (by decide)) dL_law_856 ?_
  refine lv_aload_n hx hb dL_law_857 rfl (lv_at hl 0 rfl) ?_
  refine lv_iload_n hx hb dL_law_858 rfl (lv_at hl 3 rfl) ?_
  refine lv_iconst (v := 5) hx hb dL_law_859 (by decide) ?_
  refine lv_iadd hx hb dL_law_860 ?_
  refine va_sld hx hb hX hbl hbA hO.2.2 (lin hi hL (k := 5) (by decide)) dL_law_861 ?_
  refine lx_cim C hO (c_anew l D y aM _ τ (xs (nI i + (1 : Int32)).toNatClampNeg) (xs (nI i + (2 : Int32)).toNatClampNeg) (xs (nI i + (3 : Int32)).toNatClampNeg) (xs (nI i + (4 : Int32)).toNatClampNeg) (xs (nI i + (5 : Int32)).toNatClampNeg) _ hw) (cwV 5 hts gL_law_X8_anew rfl rfl rfl (by decide +kernel) ⟨Nat.le_of_ble_eq_true rfl, Nat.le_of_ble_eq_true rfl⟩) hcs rfl hl.1 rfl (lv_room (Nat.le_of_ble_eq_true rfl)) dL_law_862 (fun r2 τ1 H locs hw hO => ?_)
  refine lv_icmp_eq (tgt := 1162) hx hb dL_law_865 (by decide) (fun _ => ?_) (fun hc => absurd hw.1 hc)
  exact kont σ1 τ1 H locs hw.2 hO
set_option maxRecDepth 100000 in
set_option maxHeartbeats 4000000 in
theorem lc_move {p : Program} {l : Launch} {e : Env} {s : State} {m : MethodId} {below : List Frame} {meth : Method} {c : Code} {b L : Nat} {xs : Nat → Int32} {D : va_G} {y : Nat → ClassId} {aC aM t : Nat → Nat} {H : Heap} {locs : List Loc} {ls : Array Slot} {Q : State → Prop} {cells slots i : Nat} {Inv : cS → mS → Prop} {σ : cS} {τ : mS} (hstep : ∀ (z0 : Int32) (z1 : Int32) (z2 : Int32) (z3 : Int32) (z4 : Int32) (z5 : Int32) (z6 : Int32) (σ : cS) (τ : mS), Inv σ τ → v_X7_move (fun r σ1 => w_move (fun r2 τ1 => r = r2 ∧ Inv σ1 τ1) z0 z1 z2 z3 z4 z5 z6 τ) z0 z1 z2 z3 z4 z5 z6 σ) (C : lC p s m meth c b L xs D y t) (hcs : cells ≤ 600000 ∧ slots ≤ 7302250) (hL : L ≤ 4096) (hi : i + 8 ≤ L) (hI : Inv σ τ) (hO : lO D y aC aM s H locs σ τ) (hl : lv_has ls 4 [(0, .ref b), (1, .ref (aC 0)), (2, .ref (aM 0)), (3, .int (nI i))]) (kont : ∀ (σ1 : cS) (τ1 : mS) (H : Heap) (locs : List Loc), Inv σ1 τ1 → lO D y aC aM s H locs σ1 τ1 → W p l e room_1 s m #[Value.ref b] below meth c H locs cells slots Q (F0 m 1162 ls [])) : W p l e room_1 s m #[Value.ref b] below meth c H locs cells slots Q (F0 m 870 ls []) := by
  obtain ⟨hx, hb, hr, hml, hown, hts, hX, hbl, hK, hTs, hNw⟩ := id C
  have hbA : ¬ lA s b := Nat.not_le.mpr hbl
  refine lv_aload_n hx hb dL_law_870 rfl (lv_at hl 1 rfl) ?_
  refine lv_aload_n hx hb dL_law_871 rfl (lv_at hl 0 rfl) ?_
  refine lv_iload_n hx hb dL_law_872 rfl (lv_at hl 3 rfl) ?_
  refine lv_iconst (v := 1) hx hb dL_law_873 (by decide) ?_
  refine lv_iadd hx hb dL_law_874 ?_
  refine va_sld hx hb hX hbl hbA hO.2.2 (lin hi hL (k := 1) (by decide)) dL_law_875 ?_
  refine lv_aload_n hx hb dL_law_876 rfl (lv_at hl 0 rfl) ?_
  refine lv_iload_n hx hb dL_law_877 rfl (lv_at hl 3 rfl) ?_
  refine lv_iconst (v := 2) hx hb dL_law_878 (by decide) ?_
  refine lv_iadd hx hb dL_law_879 ?_
  refine va_sld hx hb hX hbl hbA hO.2.2 (lin hi hL (k := 2) (by decide)) dL_law_880 ?_
  refine lv_aload_n hx hb dL_law_881 rfl (lv_at hl 0 rfl) ?_
  refine lv_iload_n hx hb dL_law_882 rfl (lv_at hl 3 rfl) ?_
  refine lv_iconst (v := 3) hx hb dL_law_883 (by decide) ?_
  refine lv_iadd hx hb dL_law_884 ?_
  refine va_sld hx hb hX hbl hbA hO.2.2 (lin hi hL (k := 3) (by decide)) dL_law_885 ?_
  refine lv_aload_n hx hb dL_law_886 rfl (lv_at hl 0 rfl) ?_
  refine lv_iload_n hx hb dL_law_887 rfl (lv_at hl 3 rfl) ?_
  refine lv_iconst (v := 4) hx hb dL_law_888 (by decide) ?_
  refine lv_iadd hx hb dL_law_889 ?_
  refine va_sld hx hb hX hbl hbA hO.2.2 (lin hi hL (k := 4) (by decide)) dL_law_890 ?_
  refine lv_aload_n hx hb dL_law_891 rfl (lv_at hl 0 rfl) ?_
  refine lv_iload_n hx hb dL_law_892 rfl (lv_at hl 3 rfl) ?_
  refine lv_iconst (v := 5) hx hb dL_law_893 (by decide) ?_
  refine lv_iadd hx hb dL_law_894 ?_
  refine va_sld hx hb hX hbl hbA hO.2.2 (lin hi hL (k := 5) (by decide)) dL_law_895 ?_
  refine lv_aload_n hx hb dL_law_896 rfl (lv_at hl 0 rfl) ?_
  refine lv_iload_n hx hb dL_law_897 rfl (lv_at hl 3 rfl) ?_
  refine lv_bipush (v := 6) hx hb dL_law_898 (by decide) ?_
  refine lv_iadd hx hb dL_law_900 ?_
  refine va_sld hx hb hX hbl hbA hO.2.2 (lin hi hL (k := 6) (by decide)) dL_law_901 ?_
  refine lv_aload_n hx hb dL_law_902 rfl (lv_at hl 0 rfl) ?_
  refine lv_iload_n hx hb dL_law_903 rfl (lv_at hl 3 rfl) ?_
  refine lv_bipush (v := 7) hx hb dL_law_904 (by decide) ?_
  refine lv_iadd hx hb dL_law_906 ?_
  refine va_sld hx hb hX hbl hbA hO.2.2 (lin hi hL (k := 7) (by decide)) dL_law_907 ?_
  have hw := hstep (xs (nI i + (1 : Int32)).toNatClampNeg) (xs (nI i + (2 : Int32)).toNatClampNeg) (xs (nI i + (3 : Int32)).toNatClampNeg) (xs (nI i + (4 : Int32)).toNatClampNeg) (xs (nI i + (5 : Int32)).toNatClampNeg) (xs (nI i + (6 : Int32)).toNatClampNeg) (xs (nI i + (7 : Int32)).toNatClampNeg) σ τ hI
  refine lx_cic C hO (cc_X7_move l D y aC t _ σ (xs (nI i + (1 : Int32)).toNatClampNeg) (xs (nI i + (2 : Int32)).toNatClampNeg) (xs (nI i + (3 : Int32)).toNatClampNeg) (xs (nI i + (4 : Int32)).toNatClampNeg) (xs (nI i + (5 : Int32)).toNatClampNeg) (xs (nI i + (6 : Int32)).toNatClampNeg) (xs (nI i + (7 : Int32)).toNatClampNeg) _ hw) (cwV 7 hts gL_law_X7_move rfl rfl rfl (by decide +kernel) ⟨Nat.le_of_ble_eq_true rfl, Nat.le_of_ble_eq_true rfl⟩) hcs rfl hl.1 rfl (lv_room (Nat.le_of_ble_eq_true rfl)) dL_law_908 (fun r1 σ1 H locs hw hO => ?_)
  refine lv_aload_n hx hb dL_law_911 rfl (lv_at hl 2 rfl) ?_
  refine lv_aload_n hx hb dL_law_912 rfl (lv_at hl 0 rfl) ?_
  refine lv_iload_n hx hb dL_law_913 rfl (lv_at hl 3 rfl) ?_
  refine lv_iconst (v := 1) hx hb dL_law_914 (by decide) ?_
  refine lv_iadd hx hb dL_law_915 ?_
  refine va_sld hx hb hX hbl hbA hO.2.2 (lin hi hL (k := 1) (by decide)) dL_law_916 ?_
  refine lv_aload_n hx hb dL_law_917 rfl (lv_at hl 0 rfl) ?_
  refine lv_iload_n hx hb dL_law_918 rfl (lv_at hl 3 rfl) ?_
  refine lv_iconst (v := 2) hx hb dL_law_919 (by decide) ?_
  refine lv_iadd hx hb dL_law_920 ?_
  refine va_sld hx hb hX hbl hbA hO.2.2 (lin hi hL (k := 2) (by decide)) dL_law_921 ?_
  refine lv_aload_n hx hb dL_law_922 rfl (lv_at hl 0 rfl) ?_
  refine lv_iload_n hx hb dL_law_923 rfl (lv_at hl 3 rfl) ?_
  refine lv_iconst (v := 3) hx hb dL_law_924 (by decide) ?_
  refine lv_iadd hx hb dL_law_925 ?_
  refine va_sld hx hb hX hbl hbA hO.2.2 (lin hi hL (k := 3) (by decide)) dL_law_926 ?_
  refine lv_aload_n hx hb dL_law_927 rfl (lv_at hl 0 rfl) ?_
  refine lv_iload_n hx hb dL_law_928 rfl (lv_at hl 3 rfl) ?_
  refine lv_iconst (v := 4) hx hb dL_law_929 (by decide) ?_
  refine lv_iadd hx hb dL_law_930 ?_
  refine va_sld hx hb hX hbl hbA hO.2.2 (lin hi hL (k := 4) (by decide)) dL_law_931 ?_
  refine lv_aload_n hx hb dL_law_932 rfl (lv_at hl 0 rfl) ?_
  refine lv_iload_n hx hb dL_law_933 rfl (lv_at hl 3 rfl) ?_
  refine lv_iconst (v := 5) hx hb dL_law_934 (by decide) ?_
  refine lv_iadd hx hb dL_law_935 ?_
  refine va_sld hx hb hX hbl hbA hO.2.2 (lin hi hL (k := 5) (by decide)) dL_law_936 ?_
  refine lv_aload_n hx hb dL_law_937 rfl (lv_at hl 0 rfl) ?_
  refine lv_iload_n hx hb dL_law_938 rfl (lv_at hl 3 rfl) ?_
  refine lv_bipush (v := 6) hx hb dL_law_939 (by decide) ?_
  refine lv_iadd hx hb dL_law_941 ?_
  refine va_sld hx hb hX hbl hbA hO.2.2 (lin hi hL (k := 6) (by decide)) dL_law_942 ?_
  refine lv_aload_n hx hb dL_law_943 rfl (lv_at hl 0 rfl) ?_
  refine lv_iload_n hx hb dL_law_944 rfl (lv_at hl 3 rfl) ?_
  refine lv_bipush (v := 7) hx hb dL_law_945 (by decide) ?_
  refine lv_iadd hx hb dL_law_947 ?_
  refine va_sld hx hb hX hbl hbA hO.2.2 (lin hi hL (k := 7) (by decide)) dL_law_948 ?_
  refine lx_cim C hO (c_move l D y aM _ τ (xs (nI i + (1 : Int32)).toNatClampNeg) (xs (nI i + (2 : Int32)).toNatClampNeg) (xs (nI i + (3 : Int32)).toNatClampNeg) (xs (nI i + (4 : Int32)).toNatClampNeg) (xs (nI i + (5 : Int32)).toNatClampNeg) (xs (nI i + (6 : Int32)).toNatClampNeg) (xs (nI i + (7 : Int32)).toNatClampNeg) _ hw) (cwV 7 hts gL_law_X8_move rfl rfl rfl (by decide +kernel) ⟨Nat.le_of_ble_eq_true rfl, Nat.le_of_ble_eq_true rfl⟩) hcs rfl hl.1 rfl (lv_room (Nat.le_of_ble_eq_true rfl)) dL_law_949 (fun r2 τ1 H locs hw hO => ?_)
  refine lv_icmp_eq (tgt := 1162) hx hb dL_law_952 (by decide) (fun _ => ?_) (fun hc => absurd hw.1 hc)
  exact kont σ1 τ1 H locs hw.2 hO
set_option maxRecDepth 100000 in
set_option maxHeartbeats 4000000 in
theorem lc_copy {p : Program} {l : Launch} {e : Env} {s : State} {m : MethodId} {below : List Frame} {meth : Method} {c : Code} {b L : Nat} {xs : Nat → Int32} {D : va_G} {y : Nat → ClassId} {aC aM t : Nat → Nat} {H : Heap} {locs : List Loc} {ls : Array Slot} {Q : State → Prop} {cells slots i : Nat} {Inv : cS → mS → Prop} {σ : cS} {τ : mS} (hstep : ∀ (z0 : Int32) (z1 : Int32) (σ : cS) (τ : mS), Inv σ τ → v_X7_copy (fun r σ1 => w_copy (fun r2 τ1 => r = r2 ∧ Inv σ1 τ1) z0 z1 τ) z0 z1 σ) (C : lC p s m meth c b L xs D y t) (hcs : cells ≤ 600000 ∧ slots ≤ 7302250) (hL : L ≤ 4096) (hi : i + 8 ≤ L) (hI : Inv σ τ) (hO : lO D y aC aM s H locs σ τ) (hl : lv_has ls 4 [(0, .ref b), (1, .ref (aC 0)), (2, .ref (aM 0)), (3, .int (nI i))]) (kont : ∀ (σ1 : cS) (τ1 : mS) (H : Heap) (locs : List Loc), Inv σ1 τ1 → lO D y aC aM s H locs σ1 τ1 → W p l e room_1 s m #[Value.ref b] below meth c H locs cells slots Q (F0 m 1162 ls [])) : W p l e room_1 s m #[Value.ref b] below meth c H locs cells slots Q (F0 m 957 ls []) := by
  obtain ⟨hx, hb, hr, hml, hown, hts, hX, hbl, hK, hTs, hNw⟩ := id C
  have hbA : ¬ lA s b := Nat.not_le.mpr hbl
  refine lv_aload_n hx hb dL_law_957 rfl (lv_at hl 1 rfl) ?_
  refine lv_aload_n hx hb dL_law_958 rfl (lv_at hl 0 rfl) ?_
  refine lv_iload_n hx hb dL_law_959 rfl (lv_at hl 3 rfl) ?_
  refine lv_iconst (v := 1) hx hb dL_law_960 (by decide) ?_
  refine lv_iadd hx hb dL_law_961 ?_
  refine va_sld hx hb hX hbl hbA hO.2.2 (lin hi hL (k := 1) (by decide)) dL_law_962 ?_
  refine lv_aload_n hx hb dL_law_963 rfl (lv_at hl 0 rfl) ?_
  refine lv_iload_n hx hb dL_law_964 rfl (lv_at hl 3 rfl) ?_
  refine lv_iconst (v := 2) hx hb dL_law_965 (by decide) ?_
  refine lv_iadd hx hb dL_law_966 ?_
  refine va_sld hx hb hX hbl hbA hO.2.2 (lin hi hL (k := 2) (by decide)) dL_law_967 ?_
  have hw := hstep (xs (nI i + (1 : Int32)).toNatClampNeg) (xs (nI i + (2 : Int32)).toNatClampNeg) σ τ hI
  refine lx_cic C hO (cc_X7_copy l D y aC t _ σ (xs (nI i + (1 : Int32)).toNatClampNeg) (xs (nI i + (2 : Int32)).toNatClampNeg) _ hw) (cwV 2 hts gL_law_X7_copy rfl rfl rfl (by decide +kernel) ⟨Nat.le_of_ble_eq_true rfl, Nat.le_of_ble_eq_true rfl⟩) hcs rfl hl.1 rfl (lv_room (Nat.le_of_ble_eq_true rfl)) dL_law_968 (fun r1 σ1 H locs hw hO => ?_)
  refine lv_aload_n hx hb dL_law_971 rfl (lv_at hl 2 rfl) ?_
  refine lv_aload_n hx hb dL_law_972 rfl (lv_at hl 0 rfl) ?_
  refine lv_iload_n hx hb dL_law_973 rfl (lv_at hl 3 rfl) ?_
  refine lv_iconst (v := 1) hx hb dL_law_974 (by decide) ?_
  refine lv_iadd hx hb dL_law_975 ?_
  refine va_sld hx hb hX hbl hbA hO.2.2 (lin hi hL (k := 1) (by decide)) dL_law_976 ?_
  refine lv_aload_n hx hb dL_law_977 rfl (lv_at hl 0 rfl) ?_
  refine lv_iload_n hx hb dL_law_978 rfl (lv_at hl 3 rfl) ?_
  refine lv_iconst (v := 2) hx hb dL_law_979 (by decide) ?_
  refine lv_iadd hx hb dL_law_980 ?_
  refine va_sld hx hb hX hbl hbA hO.2.2 (lin hi hL (k := 2) (by decide)) dL_law_981 ?_
  refine lx_cim C hO (c_copy l D y aM _ τ (xs (nI i + (1 : Int32)).toNatClampNeg) (xs (nI i + (2 : Int32)).toNatClampNeg) _ hw) (cwV 2 hts gL_law_X8_copy rfl rfl rfl (by decide +kernel) ⟨Nat.le_of_ble_eq_true rfl, Nat.le_of_ble_eq_true rfl⟩) hcs rfl hl.1 rfl (lv_room (Nat.le_of_ble_eq_true rfl)) dL_law_982 (fun r2 τ1 H locs hw hO => ?_)
  refine lv_icmp_eq (tgt := 1162) hx hb dL_law_985 (by decide) (fun _ => ?_) (fun hc => absurd hw.1 hc)
  exact kont σ1 τ1 H locs hw.2 hO
set_option maxRecDepth 100000 in
set_option maxHeartbeats 4000000 in
theorem lc_sheet {p : Program} {l : Launch} {e : Env} {s : State} {m : MethodId} {below : List Frame} {meth : Method} {c : Code} {b L : Nat} {xs : Nat → Int32} {D : va_G} {y : Nat → ClassId} {aC aM t : Nat → Nat} {H : Heap} {locs : List Loc} {ls : Array Slot} {Q : State → Prop} {cells slots i : Nat} {Inv : cS → mS → Prop} {σ : cS} {τ : mS} (hstep : ∀ (z0 : Int32) (z1 : Int32) (z2 : Int32) (σ : cS) (τ : mS), Inv σ τ → v_X7_sheet (fun r σ1 => w_sheet (fun r2 τ1 => r = r2 ∧ Inv σ1 τ1) z0 z1 z2 τ) z0 z1 z2 σ) (C : lC p s m meth c b L xs D y t) (hcs : cells ≤ 600000 ∧ slots ≤ 7302250) (hL : L ≤ 4096) (hi : i + 8 ≤ L) (hI : Inv σ τ) (hO : lO D y aC aM s H locs σ τ) (hl : lv_has ls 4 [(0, .ref b), (1, .ref (aC 0)), (2, .ref (aM 0)), (3, .int (nI i))]) (kont : ∀ (σ1 : cS) (τ1 : mS) (H : Heap) (locs : List Loc), Inv σ1 τ1 → lO D y aC aM s H locs σ1 τ1 → W p l e room_1 s m #[Value.ref b] below meth c H locs cells slots Q (F0 m 1162 ls [])) : W p l e room_1 s m #[Value.ref b] below meth c H locs cells slots Q (F0 m 990 ls []) := by
  obtain ⟨hx, hb, hr, hml, hown, hts, hX, hbl, hK, hTs, hNw⟩ := id C
  have hbA : ¬ lA s b := Nat.not_le.mpr hbl
  refine lv_aload_n hx hb dL_law_990 rfl (lv_at hl 1 rfl) ?_
  refine lv_aload_n hx hb dL_law_991 rfl (lv_at hl 0 rfl) ?_
  refine lv_iload_n hx hb dL_law_992 rfl (lv_at hl 3 rfl) ?_
  refine lv_iconst (v := 1) hx hb dL_law_993 (by decide) ?_
  refine lv_iadd hx hb dL_law_994 ?_
  refine va_sld hx hb hX hbl hbA hO.2.2 (lin hi hL (k := 1) (by decide)) dL_law_995 ?_
  refine lv_aload_n hx hb dL_law_996 rfl (lv_at hl 0 rfl) ?_
  refine lv_iload_n hx hb dL_law_997 rfl (lv_at hl 3 rfl) ?_
  refine lv_iconst (v := 2) hx hb dL_law_998 (by decide) ?_
  refine lv_iadd hx hb dL_law_999 ?_
  refine va_sld hx hb hX hbl hbA hO.2.2 (lin hi hL (k := 2) (by decide)) dL_law_1000 ?_
  refine lv_aload_n hx hb dL_law_1001 rfl (lv_at hl 0 rfl) ?_
  refine lv_iload_n hx hb dL_law_1002 rfl (lv_at hl 3 rfl) ?_
  refine lv_iconst (v := 3) hx hb dL_law_1003 (by decide) ?_
  refine lv_iadd hx hb dL_law_1004 ?_
  refine va_sld hx hb hX hbl hbA hO.2.2 (lin hi hL (k := 3) (by decide)) dL_law_1005 ?_
  have hw := hstep (xs (nI i + (1 : Int32)).toNatClampNeg) (xs (nI i + (2 : Int32)).toNatClampNeg) (xs (nI i + (3 : Int32)).toNatClampNeg) σ τ hI
  refine lx_cic C hO (cc_X7_sheet l D y aC t _ σ (xs (nI i + (1 : Int32)).toNatClampNeg) (xs (nI i + (2 : Int32)).toNatClampNeg) (xs (nI i + (3 : Int32)).toNatClampNeg) _ hw) (cwV 3 hts gL_law_X7_sheet rfl rfl rfl (by decide +kernel) ⟨Nat.le_of_ble_eq_true rfl, Nat.le_of_ble_eq_true rfl⟩) hcs rfl hl.1 rfl (lv_room (Nat.le_of_ble_eq_true rfl)) dL_law_1006 (fun r1 σ1 H locs hw hO => ?_)
  refine lv_aload_n hx hb dL_law_1009 rfl (lv_at hl 2 rfl) ?_
  refine lv_aload_n hx hb dL_law_1010 rfl (lv_at hl 0 rfl) ?_
  refine lv_iload_n hx hb dL_law_1011 rfl (lv_at hl 3 rfl) ?_
  refine lv_iconst (v := 1) hx hb dL_law_1012 (by decide) ?_
  refine lv_iadd hx hb dL_law_1013 ?_
  refine va_sld hx hb hX hbl hbA hO.2.2 (lin hi hL (k := 1) (by decide)) dL_law_1014 ?_
  refine lv_aload_n hx hb dL_law_1015 rfl (lv_at hl 0 rfl) ?_
  refine lv_iload_n hx hb dL_law_1016 rfl (lv_at hl 3 rfl) ?_
  refine lv_iconst (v := 2) hx hb dL_law_1017 (by decide) ?_
  refine lv_iadd hx hb dL_law_1018 ?_
  refine va_sld hx hb hX hbl hbA hO.2.2 (lin hi hL (k := 2) (by decide)) dL_law_1019 ?_
  refine lv_aload_n hx hb dL_law_1020 rfl (lv_at hl 0 rfl) ?_
  refine lv_iload_n hx hb dL_law_1021 rfl (lv_at hl 3 rfl) ?_
  refine lv_iconst (v := 3) hx hb dL_law_1022 (by decide) ?_
  refine lv_iadd hx hb dL_law_1023 ?_
  refine va_sld hx hb hX hbl hbA hO.2.2 (lin hi hL (k := 3) (by decide)) dL_law_1024 ?_
  refine lx_cim C hO (c_sheet l D y aM _ τ (xs (nI i + (1 : Int32)).toNatClampNeg) (xs (nI i + (2 : Int32)).toNatClampNeg) (xs (nI i + (3 : Int32)).toNatClampNeg) _ hw) (cwV 3 hts gL_law_X8_sheet rfl rfl rfl (by decide +kernel) ⟨Nat.le_of_ble_eq_true rfl, Nat.le_of_ble_eq_true rfl⟩) hcs rfl hl.1 rfl (lv_room (Nat.le_of_ble_eq_true rfl)) dL_law_1025 (fun r2 τ1 H locs hw hO => ?_)
  refine lv_icmp_eq (tgt := 1162) hx hb dL_law_1028 (by decide) (fun _ => ?_) (fun hc => absurd hw.1 hc)
  exact kont σ1 τ1 H locs hw.2 hO
set_option maxRecDepth 100000 in
set_option maxHeartbeats 4000000 in
theorem lc_away {p : Program} {l : Launch} {e : Env} {s : State} {m : MethodId} {below : List Frame} {meth : Method} {c : Code} {b L : Nat} {xs : Nat → Int32} {D : va_G} {y : Nat → ClassId} {aC aM t : Nat → Nat} {H : Heap} {locs : List Loc} {ls : Array Slot} {Q : State → Prop} {cells slots i : Nat} {Inv : cS → mS → Prop} {σ : cS} {τ : mS} (hstep : ∀ (z0 : Int32) (σ : cS) (τ : mS), Inv σ τ → v_X7_away (fun r σ1 => w_away (fun r2 τ1 => r = r2 ∧ Inv σ1 τ1) z0 τ) z0 σ) (C : lC p s m meth c b L xs D y t) (hcs : cells ≤ 600000 ∧ slots ≤ 7302250) (hL : L ≤ 4096) (hi : i + 8 ≤ L) (hI : Inv σ τ) (hO : lO D y aC aM s H locs σ τ) (hl : lv_has ls 4 [(0, .ref b), (1, .ref (aC 0)), (2, .ref (aM 0)), (3, .int (nI i))]) (kont : ∀ (σ1 : cS) (τ1 : mS) (H : Heap) (locs : List Loc), Inv σ1 τ1 → lO D y aC aM s H locs σ1 τ1 → W p l e room_1 s m #[Value.ref b] below meth c H locs cells slots Q (F0 m 1162 ls [])) : W p l e room_1 s m #[Value.ref b] below meth c H locs cells slots Q (F0 m 1033 ls []) := by
  obtain ⟨hx, hb, hr, hml, hown, hts, hX, hbl, hK, hTs, hNw⟩ := id C
  have hbA : ¬ lA s b := Nat.not_le.mpr hbl
  refine lv_aload_n hx hb dL_law_1033 rfl (lv_at hl 1 rfl) ?_
  refine lv_aload_n hx hb dL_law_1034 rfl (lv_at hl 0 rfl) ?_
  refine lv_iload_n hx hb dL_law_1035 rfl (lv_at hl 3 rfl) ?_
  refine lv_iconst (v := 1) hx hb dL_law_1036 (by decide) ?_
  refine lv_iadd hx hb dL_law_1037 ?_
  refine va_sld hx hb hX hbl hbA hO.2.2 (lin hi hL (k := 1) (by decide)) dL_law_1038 ?_
  have hw := hstep (xs (nI i + (1 : Int32)).toNatClampNeg) σ τ hI
  refine lx_cic C hO (cc_X7_away l D y aC t _ σ (xs (nI i + (1 : Int32)).toNatClampNeg) _ hw) (cwV 1 hts gL_law_X7_away rfl rfl rfl (by decide +kernel) ⟨Nat.le_of_ble_eq_true rfl, Nat.le_of_ble_eq_true rfl⟩) hcs rfl hl.1 rfl (lv_room (Nat.le_of_ble_eq_true rfl)) dL_law_1039 (fun r1 σ1 H locs hw hO => ?_)
  refine lv_aload_n hx hb dL_law_1042 rfl (lv_at hl 2 rfl) ?_
  refine lv_aload_n hx hb dL_law_1043 rfl (lv_at hl 0 rfl) ?_
  refine lv_iload_n hx hb dL_law_1044 rfl (lv_at hl 3 rfl) ?_
  refine lv_iconst (v := 1) hx hb dL_law_1045 (by decide) ?_
  refine lv_iadd hx hb dL_law_1046 ?_
  refine va_sld hx hb hX hbl hbA hO.2.2 (lin hi hL (k := 1) (by decide)) dL_law_1047 ?_
  refine lx_cim C hO (c_away l D y aM _ τ (xs (nI i + (1 : Int32)).toNatClampNeg) _ hw) (cwV 1 hts gL_law_X8_away rfl rfl rfl (by decide +kernel) ⟨Nat.le_of_ble_eq_true rfl, Nat.le_of_ble_eq_true rfl⟩) hcs rfl hl.1 rfl (lv_room (Nat.le_of_ble_eq_true rfl)) dL_law_1048 (fun r2 τ1 H locs hw hO => ?_)
  refine lv_icmp_eq (tgt := 1162) hx hb dL_law_1051 (by decide) (fun _ => ?_) (fun hc => absurd hw.1 hc)
  exact kont σ1 τ1 H locs hw.2 hO
set_option maxRecDepth 100000 in
set_option maxHeartbeats 4000000 in
theorem lc_item {p : Program} {l : Launch} {e : Env} {s : State} {m : MethodId} {below : List Frame} {meth : Method} {c : Code} {b L : Nat} {xs : Nat → Int32} {D : va_G} {y : Nat → ClassId} {aC aM t : Nat → Nat} {H : Heap} {locs : List Loc} {ls : Array Slot} {Q : State → Prop} {cells slots i : Nat} {Inv : cS → mS → Prop} {σ : cS} {τ : mS} (hstep : ∀ (z0 : Int32) (z1 : Int32) (z2 : Int32) (z3 : Int32) (σ : cS) (τ : mS), Inv σ τ → v_X7_item (fun r σ1 => w_item (fun r2 τ1 => r = r2 ∧ Inv σ1 τ1) z0 z1 z2 z3 τ) z0 z1 z2 z3 σ) (C : lC p s m meth c b L xs D y t) (hcs : cells ≤ 600000 ∧ slots ≤ 7302250) (hL : L ≤ 4096) (hi : i + 8 ≤ L) (hI : Inv σ τ) (hO : lO D y aC aM s H locs σ τ) (hl : lv_has ls 4 [(0, .ref b), (1, .ref (aC 0)), (2, .ref (aM 0)), (3, .int (nI i))]) (kont : ∀ (σ1 : cS) (τ1 : mS) (H : Heap) (locs : List Loc), Inv σ1 τ1 → lO D y aC aM s H locs σ1 τ1 → W p l e room_1 s m #[Value.ref b] below meth c H locs cells slots Q (F0 m 1162 ls [])) : W p l e room_1 s m #[Value.ref b] below meth c H locs cells slots Q (F0 m 1056 ls []) := by
  obtain ⟨hx, hb, hr, hml, hown, hts, hX, hbl, hK, hTs, hNw⟩ := id C
  have hbA : ¬ lA s b := Nat.not_le.mpr hbl
  refine lv_aload_n hx hb dL_law_1056 rfl (lv_at hl 1 rfl) ?_
  refine lv_aload_n hx hb dL_law_1057 rfl (lv_at hl 0 rfl) ?_
  refine lv_iload_n hx hb dL_law_1058 rfl (lv_at hl 3 rfl) ?_
  refine lv_iconst (v := 1) hx hb dL_law_1059 (by decide) ?_
  refine lv_iadd hx hb dL_law_1060 ?_
  refine va_sld hx hb hX hbl hbA hO.2.2 (lin hi hL (k := 1) (by decide)) dL_law_1061 ?_
  refine lv_aload_n hx hb dL_law_1062 rfl (lv_at hl 0 rfl) ?_
  refine lv_iload_n hx hb dL_law_1063 rfl (lv_at hl 3 rfl) ?_
  refine lv_iconst (v := 2) hx hb dL_law_1064 (by decide) ?_
  refine lv_iadd hx hb dL_law_1065 ?_
  refine va_sld hx hb hX hbl hbA hO.2.2 (lin hi hL (k := 2) (by decide)) dL_law_1066 ?_
  refine lv_aload_n hx hb dL_law_1067 rfl (lv_at hl 0 rfl) ?_
  refine lv_iload_n hx hb dL_law_1068 rfl (lv_at hl 3 rfl) ?_
  refine lv_iconst (v := 3) hx hb dL_law_1069 (by decide) ?_
  refine lv_iadd hx hb dL_law_1070 ?_
  refine va_sld hx hb hX hbl hbA hO.2.2 (lin hi hL (k := 3) (by decide)) dL_law_1071 ?_
  refine lv_aload_n hx hb dL_law_1072 rfl (lv_at hl 0 rfl) ?_
  refine lv_iload_n hx hb dL_law_1073 rfl (lv_at hl 3 rfl) ?_
  refine lv_iconst (v := 4) hx hb dL_law_1074 (by decide) ?_
  refine lv_iadd hx hb dL_law_1075 ?_
  refine va_sld hx hb hX hbl hbA hO.2.2 (lin hi hL (k := 4) (by decide)) dL_law_1076 ?_
  have hw := hstep (xs (nI i + (1 : Int32)).toNatClampNeg) (xs (nI i + (2 : Int32)).toNatClampNeg) (xs (nI i + (3 : Int32)).toNatClampNeg) (xs (nI i + (4 : Int32)).toNatClampNeg) σ τ hI
  refine lx_cic C hO (cc_X7_item l D y aC t _ σ (xs (nI i + (1 : Int32)).toNatClampNeg) (xs (nI i + (2 : Int32)).toNatClampNeg) (xs (nI i + (3 : Int32)).toNatClampNeg) (xs (nI i + (4 : Int32)).toNatClampNeg) _ hw) (cwV 4 hts gL_law_X7_item rfl rfl rfl (by decide +kernel) ⟨Nat.le_of_ble_eq_true rfl, Nat.le_of_ble_eq_true rfl⟩) hcs rfl hl.1 rfl (lv_room (Nat.le_of_ble_eq_true rfl)) dL_law_1077 (fun r1 σ1 H locs hw hO => ?_)
  refine lv_aload_n hx hb dL_law_1080 rfl (lv_at hl 2 rfl) ?_
  refine lv_aload_n hx hb dL_law_1081 rfl (lv_at hl 0 rfl) ?_
  refine lv_iload_n hx hb dL_law_1082 rfl (lv_at hl 3 rfl) ?_
  refine lv_iconst (v := 1) hx hb dL_law_1083 (by decide) ?_
  refine lv_iadd hx hb dL_law_1084 ?_
  refine va_sld hx hb hX hbl hbA hO.2.2 (lin hi hL (k := 1) (by decide)) dL_law_1085 ?_
  refine lv_aload_n hx hb dL_law_1086 rfl (lv_at hl 0 rfl) ?_
  refine lv_iload_n hx hb dL_law_1087 rfl (lv_at hl 3 rfl) ?_
  refine lv_iconst (v := 2) hx hb dL_law_1088 (by decide) ?_
  refine lv_iadd hx hb dL_law_1089 ?_
  refine va_sld hx hb hX hbl hbA hO.2.2 (lin hi hL (k := 2) (by decide)) dL_law_1090 ?_
  refine lv_aload_n hx hb dL_law_1091 rfl (lv_at hl 0 rfl) ?_
  refine lv_iload_n hx hb dL_law_1092 rfl (lv_at hl 3 rfl) ?_
  refine lv_iconst (v := 3) hx hb dL_law_1093 (by decide) ?_
  refine lv_iadd hx hb dL_law_1094 ?_
  refine va_sld hx hb hX hbl hbA hO.2.2 (lin hi hL (k := 3) (by decide)) dL_law_1095 ?_
  refine lv_aload_n hx hb dL_law_1096 rfl (lv_at hl 0 rfl) ?_
  refine lv_iload_n hx hb dL_law_1097 rfl (lv_at hl 3 rfl) ?_
  refine lv_iconst (v := 4) hx hb dL_law_1098 (by decide) ?_
  refine lv_iadd hx hb dL_law_1099 ?_
  refine va_sld hx hb hX hbl hbA hO.2.2 (lin hi hL (k := 4) (by decide)) dL_law_1100 ?_
  refine lx_cim C hO (c_item l D y aM _ τ (xs (nI i + (1 : Int32)).toNatClampNeg) (xs (nI i + (2 : Int32)).toNatClampNeg) (xs (nI i + (3 : Int32)).toNatClampNeg) (xs (nI i + (4 : Int32)).toNatClampNeg) _ hw) (cwV 4 hts gL_law_X8_item rfl rfl rfl (by decide +kernel) ⟨Nat.le_of_ble_eq_true rfl, Nat.le_of_ble_eq_true rfl⟩) hcs rfl hl.1 rfl (lv_room (Nat.le_of_ble_eq_true rfl)) dL_law_1101 (fun r2 τ1 H locs hw hO => ?_)
  refine lv_icmp_eq (tgt := 1162) hx hb dL_law_1104 (by decide) (fun _ => ?_) (fun hc => absurd hw.1 hc)
  exact kont σ1 τ1 H locs hw.2 hO
set_option maxRecDepth 100000 in
set_option maxHeartbeats 4000000 in
theorem lc_terms {p : Program} {l : Launch} {e : Env} {s : State} {m : MethodId} {below : List Frame} {meth : Method} {c : Code} {b L : Nat} {xs : Nat → Int32} {D : va_G} {y : Nat → ClassId} {aC aM t : Nat → Nat} {H : Heap} {locs : List Loc} {ls : Array Slot} {Q : State → Prop} {cells slots i : Nat} {Inv : cS → mS → Prop} {σ : cS} {τ : mS} (hstep : ∀ (z0 : Int32) (z1 : Int32) (z2 : Int32) (z3 : Int32) (σ : cS) (τ : mS), Inv σ τ → v_X7_terms (fun r σ1 => w_terms (fun r2 τ1 => r = r2 ∧ Inv σ1 τ1) z0 z1 z2 z3 τ) z0 z1 z2 z3 σ) (C : lC p s m meth c b L xs D y t) (hcs : cells ≤ 600000 ∧ slots ≤ 7302250) (hL : L ≤ 4096) (hi : i + 8 ≤ L) (hI : Inv σ τ) (hO : lO D y aC aM s H locs σ τ) (hl : lv_has ls 4 [(0, .ref b), (1, .ref (aC 0)), (2, .ref (aM 0)), (3, .int (nI i))]) (kont : ∀ (σ1 : cS) (τ1 : mS) (H : Heap) (locs : List Loc), Inv σ1 τ1 → lO D y aC aM s H locs σ1 τ1 → W p l e room_1 s m #[Value.ref b] below meth c H locs cells slots Q (F0 m 1162 ls [])) : W p l e room_1 s m #[Value.ref b] below meth c H locs cells slots Q (F0 m 1109 ls []) := by
  obtain ⟨hx, hb, hr, hml, hown, hts, hX, hbl, hK, hTs, hNw⟩ := id C
  have hbA : ¬ lA s b := Nat.not_le.mpr hbl
  refine lv_aload_n hx hb dL_law_1109 rfl (lv_at hl 1 rfl) ?_
  refine lv_aload_n hx hb dL_law_1110 rfl (lv_at hl 0 rfl) ?_
  refine lv_iload_n hx hb dL_law_1111 rfl (lv_at hl 3 rfl) ?_
  refine lv_iconst (v := 1) hx hb dL_law_1112 (by decide) ?_
  refine lv_iadd hx hb dL_law_1113 ?_
  refine va_sld hx hb hX hbl hbA hO.2.2 (lin hi hL (k := 1) (by decide)) dL_law_1114 ?_
  refine lv_aload_n hx hb dL_law_1115 rfl (lv_at hl 0 rfl) ?_
  refine lv_iload_n hx hb dL_law_1116 rfl (lv_at hl 3 rfl) ?_
  refine lv_iconst (v := 2) hx hb dL_law_1117 (by decide) ?_
  refine lv_iadd hx hb dL_law_1118 ?_
  refine va_sld hx hb hX hbl hbA hO.2.2 (lin hi hL (k := 2) (by decide)) dL_law_1119 ?_
  refine lv_aload_n hx hb dL_law_1120 rfl (lv_at hl 0 rfl) ?_
  refine lv_iload_n hx hb dL_law_1121 rfl (lv_at hl 3 rfl) ?_
  refine lv_iconst (v := 3) hx hb dL_law_1122 (by decide) ?_
  refine lv_iadd hx hb dL_law_1123 ?_
  refine va_sld hx hb hX hbl hbA hO.2.2 (lin hi hL (k := 3) (by decide)) dL_law_1124 ?_
  refine lv_aload_n hx hb dL_law_1125 rfl (lv_at hl 0 rfl) ?_
  refine lv_iload_n hx hb dL_law_1126 rfl (lv_at hl 3 rfl) ?_
  refine lv_iconst (v := 4) hx hb dL_law_1127 (by decide) ?_
  refine lv_iadd hx hb dL_law_1128 ?_
  refine va_sld hx hb hX hbl hbA hO.2.2 (lin hi hL (k := 4) (by decide)) dL_law_1129 ?_
  have hw := hstep (xs (nI i + (1 : Int32)).toNatClampNeg) (xs (nI i + (2 : Int32)).toNatClampNeg) (xs (nI i + (3 : Int32)).toNatClampNeg) (xs (nI i + (4 : Int32)).toNatClampNeg) σ τ hI
  refine lx_cic C hO (cc_X7_terms l D y aC t _ σ (xs (nI i + (1 : Int32)).toNatClampNeg) (xs (nI i + (2 : Int32)).toNatClampNeg) (xs (nI i + (3 : Int32)).toNatClampNeg) (xs (nI i + (4 : Int32)).toNatClampNeg) _ hw) (cwV 4 hts gL_law_X7_terms rfl rfl rfl (by decide +kernel) ⟨Nat.le_of_ble_eq_true rfl, Nat.le_of_ble_eq_true rfl⟩) hcs rfl hl.1 rfl (lv_room (Nat.le_of_ble_eq_true rfl)) dL_law_1130 (fun r1 σ1 H locs hw hO => ?_)
  refine lv_aload_n hx hb dL_law_1133 rfl (lv_at hl 2 rfl) ?_
  refine lv_aload_n hx hb dL_law_1134 rfl (lv_at hl 0 rfl) ?_
  refine lv_iload_n hx hb dL_law_1135 rfl (lv_at hl 3 rfl) ?_
  refine lv_iconst (v := 1) hx hb dL_law_1136 (by decide) ?_
  refine lv_iadd hx hb dL_law_1137 ?_
  refine va_sld hx hb hX hbl hbA hO.2.2 (lin hi hL (k := 1) (by decide)) dL_law_1138 ?_
  refine lv_aload_n hx hb dL_law_1139 rfl (lv_at hl 0 rfl) ?_
  refine lv_iload_n hx hb dL_law_1140 rfl (lv_at hl 3 rfl) ?_
  refine lv_iconst (v := 2) hx hb dL_law_1141 (by decide) ?_
  refine lv_iadd hx hb dL_law_1142 ?_
  refine va_sld hx hb hX hbl hbA hO.2.2 (lin hi hL (k := 2) (by decide)) dL_law_1143 ?_
  refine lv_aload_n hx hb dL_law_1144 rfl (lv_at hl 0 rfl) ?_
  refine lv_iload_n hx hb dL_law_1145 rfl (lv_at hl 3 rfl) ?_
  refine lv_iconst (v := 3) hx hb dL_law_1146 (by decide) ?_
  refine lv_iadd hx hb dL_law_1147 ?_
  refine va_sld hx hb hX hbl hbA hO.2.2 (lin hi hL (k := 3) (by decide)) dL_law_1148 ?_
  refine lv_aload_n hx hb dL_law_1149 rfl (lv_at hl 0 rfl) ?_
  refine lv_iload_n hx hb dL_law_1150 rfl (lv_at hl 3 rfl) ?_
  refine lv_iconst (v := 4) hx hb dL_law_1151 (by decide) ?_
  refine lv_iadd hx hb dL_law_1152 ?_
  refine va_sld hx hb hX hbl hbA hO.2.2 (lin hi hL (k := 4) (by decide)) dL_law_1153 ?_
  refine lx_cim C hO (c_terms l D y aM _ τ (xs (nI i + (1 : Int32)).toNatClampNeg) (xs (nI i + (2 : Int32)).toNatClampNeg) (xs (nI i + (3 : Int32)).toNatClampNeg) (xs (nI i + (4 : Int32)).toNatClampNeg) _ hw) (cwV 4 hts gL_law_X8_terms rfl rfl rfl (by decide +kernel) ⟨Nat.le_of_ble_eq_true rfl, Nat.le_of_ble_eq_true rfl⟩) hcs rfl hl.1 rfl (lv_room (Nat.le_of_ble_eq_true rfl)) dL_law_1154 (fun r2 τ1 H locs hw hO => ?_)
  refine lv_icmp_eq (tgt := 1162) hx hb dL_law_1157 (by decide) (fun _ => ?_) (fun hc => absurd hw.1 hc)
  exact kont σ1 τ1 H locs hw.2 hO
