/-! the reference: what each method does, and the walk of its bytecode (written by wip/tools/gen.py) -/
abbrev rX8_knot : Room := { frames := 5, cells := 0, slots := 0, locals := 126 }
set_option maxRecDepth 100000 in
set_option maxHeartbeats 4000000 in
theorem k_knot_21 {p : Program} {l : Launch} {e : Env} {s : State} {m : MethodId} {args : Array Value} {below : List Frame} {meth : Method} {c : Code} {D : va_G} {y : Nat → ClassId} {ad : Nat → Nat} {X : va_W} {A : Nat → Prop} {Q : Int64 → mS → Prop} (C : mC p s m args meth c cX8_knot 4 (some .long) wsX8_knot D y A) (x1 : Int32) (x2 : Int32) (z0 : Int32) (σ : mS) (hw : w_knot_21 Q x1 x2 z0 σ) (H : Heap) (locs : List Loc) (ls : Array Slot) (hO : mO D y ad X A s.heap H locs σ) (hl : lv_has ls 4 [(0, .ref (ad 0)), (1, .int x1), (2, .int x2)]) : W p l e rX8_knot s m args below meth c H locs 0 0 (MQ below (va_Ql Q (mB D y ad X A) A) args s 0 0 A) (F0 m 21 ls [.int z0]) := by
  obtain ⟨hx, hb, hr, hml, hown, hts, hlk, hK, hA⟩ := id C
  have hin : ∀ w ∈ wsX80, w ∈ wsX8_knot := fun _ h => List.mem_cons_of_mem _ (List.mem_append_right _ h)
  unfold w_knot_21 at hw
  refine lv_istore_n (lv' := [(3, .int z0), (0, .ref (ad 0)), (1, .int x1), (2, .int x2)]) hx hb dX8_knot_21 rfl hl (by decide) rfl (fun ls hl => ?_)
  refine lv_iload_n hx hb dX8_knot_22 rfl (lv_at hl 0 rfl) ?_
  refine lv_if_ge (tgt := 33) hx hb dX8_knot_23 (by decide) (fun hc => ?_) (fun hc => ?_)
  · have hw := hw.1 hc
    refine lv_aload_n hx hb dX8_knot_33 rfl (lv_at hl 1 rfl) ?_
    refine lv_iload_n hx hb dX8_knot_34 rfl (lv_at hl 2 rfl) ?_
    refine mx_cvv C hO (c_findKnot l D y ad X σ x1 _ hw) (cwV 1 hts gX8_knot_X8_findKnot rfl rfl rfl (by decide +kernel) ⟨Nat.le_of_ble_eq_true rfl, Nat.le_of_ble_eq_true rfl⟩) rfl hl.1 rfl (lv_room (Nat.le_of_ble_eq_true rfl)) dX8_knot_35 (fun σ102 H locs hw hO => ?_)
    refine lv_aload_n hx hb dX8_knot_38 rfl (lv_at hl 1 rfl) ?_
    refine mx_get C hO hin 9 (by decide) (idx := 33) (by decide +kernel) rfl rfl dX8_knot_39 ?_
    refine lv_iload_n hx hb dX8_knot_42 rfl (lv_at hl 3 rfl) ?_
    refine mx_lald C hO (a := 8) rfl hw.1 dX8_knot_43 ?_
    have hw := hw.2
    exact mx_lret C hO hw dX8_knot_44
  · have hw := hw.2 hc
    refine lv_iload_n hx hb dX8_knot_26 rfl (lv_at hl 0 rfl) ?_
    refine lv_i2l hx hb dX8_knot_27 rfl ?_
    refine lv_ldc2 (v := 1000000000000) hx hb hown (hts (.constantLong RX8 175 (1000000000000)) (by decide +kernel)) dX8_knot_28 ?_
    refine lv_lsub hx hb dX8_knot_31 ?_
    exact mx_lret C hO hw dX8_knot_32
set_option maxRecDepth 100000 in
set_option maxHeartbeats 4000000 in
theorem k_knot_e {p : Program} {l : Launch} {e : Env} {s : State} {m : MethodId} {args : Array Value} {below : List Frame} {meth : Method} {c : Code} {D : va_G} {y : Nat → ClassId} {ad : Nat → Nat} {X : va_W} {A : Nat → Prop} {Q : Int64 → mS → Prop} (C : mC p s m args meth c cX8_knot 4 (some .long) wsX8_knot D y A) (x1 : Int32) (x2 : Int32) (σ : mS) (hw : w_knot Q x1 x2 σ) (H : Heap) (locs : List Loc) (ls : Array Slot) (hO : mO D y ad X A s.heap H locs σ) (hl : lv_has ls 4 [(0, .ref (ad 0)), (1, .int x1), (2, .int x2)]) : W p l e rX8_knot s m args below meth c H locs 0 0 (MQ below (va_Ql Q (mB D y ad X A) A) args s 0 0 A) (F0 m 0 ls []) := by
  obtain ⟨hx, hb, hr, hml, hown, hts, hlk, hK, hA⟩ := id C
  unfold w_knot at hw
  refine lv_iload_n hx hb dX8_knot_0 rfl (lv_at hl 2 rfl) ?_
  refine lv_i2l hx hb dX8_knot_1 rfl ?_
  refine lv_lconst (v := 0) hx hb dX8_knot_2 (by decide) ?_
  refine lv_ldc2 (v := 2) hx hb hown (hts (.constantLong RX8 166 (2)) (by decide +kernel)) dX8_knot_3 ?_
  refine mx_cis C hO (c_in l D y ad X σ (x2.toInt64) ((0 : Int64)) ((2 : Int64)) _ hw) (va_cwS 3 hts gX8_knot_X8_in rfl rfl rfl (by decide +kernel) ⟨Nat.le_of_ble_eq_true rfl, Nat.le_of_ble_eq_true rfl⟩) rfl hl.1 rfl (lv_room (Nat.le_of_ble_eq_true rfl)) dX8_knot_6 (fun u101 σ102 H locs hw hO => ?_)
  refine lv_if_ne (tgt := 16) hx hb dX8_knot_9 (by decide) (fun hc => ?_) (fun hc => ?_)
  · have hw := hw.1 hc
    refine lv_aload_n hx hb dX8_knot_16 rfl (lv_at hl 0 rfl) ?_
    refine lv_iload_n hx hb dX8_knot_17 rfl (lv_at hl 1 rfl) ?_
    refine mx_civ C hO (c_againstCubic l D y ad X σ102 x1 _ hw) (cwV 1 hts gX8_knot_X8_againstCubic rfl rfl rfl (by decide +kernel) ⟨Nat.le_of_ble_eq_true rfl, Nat.le_of_ble_eq_true rfl⟩) rfl hl.1 rfl (lv_room (Nat.le_of_ble_eq_true rfl)) dX8_knot_18 (fun u103 σ104 H locs hw hO => ?_)
    exact k_knot_21 C x1 x2 u103 σ104 hw H locs ls hO (lv_sub hl [0, 1, 2] rfl)
  · have hw := hw.2 hc
    refine lv_iconst (v := -1) hx hb dX8_knot_12 (by decide) ?_
    refine lv_goto (tgt := 21) hx hb dX8_knot_13 (by decide) ?_
    exact k_knot_21 C x1 x2 ((-1 : Int32)) σ102 hw H locs ls hO (lv_sub hl [0, 1, 2] rfl)
theorem c_knot (l : Launch) (D : va_G) (y : Nat → ClassId) (ad : Nat → Nat) (X : va_W) (σ : mS) (x1 : Int32) (x2 : Int32) (Q : Int64 → mS → Prop) (hw : w_knot Q x1 x2 σ) : ∀ sz, Met l yX8_knot wsX8_knot rX8_knot (va_Pc [.ref (ad 0), .int x1, .int x2] (mPre D y ad X sz σ)) (va_Ql Q (mB D y ad X (va_A (mW y ad σ ++ X) sz)) (va_A (mW y ad σ ++ X) sz)) 0 0 (va_A (mW y ad σ ++ X) sz) :=
  mMet (Qc := fun A => va_Ql Q (mB D y ad X A) A) rfl (Nat.le_of_ble_eq_true rfl) (fun p e s m args below meth c A ls C hO hl => k_knot_e C x1 x2 σ hw s.heap [] ls hO hl)
abbrev rX8_crosses : Room := { frames := 5, cells := 0, slots := 0, locals := 126 }
set_option maxRecDepth 100000 in
set_option maxHeartbeats 4000000 in
theorem k_crosses_329 {p : Program} {l : Launch} {e : Env} {s : State} {m : MethodId} {args : Array Value} {below : List Frame} {meth : Method} {c : Code} {D : va_G} {y : Nat → ClassId} {ad : Nat → Nat} {X : va_W} {A : Nat → Prop} {Q : Int32 → mS → Prop} (C : mC p s m args meth c cX8_crosses 19 (some .int) wsX8_crosses D y A) (z0 : Int32) (σ : mS) (hw : w_crosses_329 Q z0 σ) (H : Heap) (locs : List Loc) (ls : Array Slot) (hO : mO D y ad X A s.heap H locs σ) (hl : lv_has ls 19 [(0, .ref (ad 0))]) : W p l e rX8_crosses s m args below meth c H locs 0 0 (MQ below (va_Qi Q (mB D y ad X A) A) args s 0 0 A) (F0 m 329 ls [.int z0]) := by
  obtain ⟨hx, hb, hr, hml, hown, hts, hlk, hK, hA⟩ := id C
  unfold w_crosses_329 at hw
  exact mx_iret C hO hw dX8_crosses_329
set_option maxRecDepth 100000 in
set_option maxHeartbeats 4000000 in
theorem k_crosses_252 {p : Program} {l : Launch} {e : Env} {s : State} {m : MethodId} {args : Array Value} {below : List Frame} {meth : Method} {c : Code} {D : va_G} {y : Nat → ClassId} {ad : Nat → Nat} {X : va_W} {A : Nat → Prop} {Q : Int32 → mS → Prop} (C : mC p s m args meth c cX8_crosses 19 (some .int) wsX8_crosses D y A) (x9 : Int64) (x11 : Int64) (z0 : Int64) (σ : mS) (hw : w_crosses_252 Q x9 x11 z0 σ) (H : Heap) (locs : List Loc) (ls : Array Slot) (hO : mO D y ad X A s.heap H locs σ) (hl : lv_has ls 19 [(0, .ref (ad 0)), (9, .long x9), (11, .long x11)]) : W p l e rX8_crosses s m args below meth c H locs 0 0 (MQ below (va_Qi Q (mB D y ad X A) A) args s 0 0 A) (F0 m 252 ls [.long z0]) := by
  obtain ⟨hx, hb, hr, hml, hown, hts, hlk, hK, hA⟩ := id C
  unfold w_crosses_252 at hw
  refine lv_lstore (lv' := [(13, .long z0), (0, .ref (ad 0)), (9, .long x9), (11, .long x11)]) hx hb dX8_crosses_252 hl (by decide) rfl (fun ls hl => ?_)
  refine lv_lload hx hb dX8_crosses_254 (lv_at hl 2 rfl) ?_
  refine lv_lload hx hb dX8_crosses_256 (lv_at hl 3 rfl) ?_
  refine mx_cls C hO (c_common l D y ad X σ x9 x11 _ hw) (va_cwS 2 hts gX8_crosses_X8_common rfl rfl rfl (by decide +kernel) ⟨Nat.le_of_ble_eq_true rfl, Nat.le_of_ble_eq_true rfl⟩) rfl hl.1 rfl (lv_room (Nat.le_of_ble_eq_true rfl)) dX8_crosses_258 (fun u101 σ102 H locs hw hO => ?_)
  refine lv_lload hx hb dX8_crosses_261 (lv_at hl 0 rfl) ?_
  refine mx_cls C hO (c_common l D y ad X σ102 u101 z0 _ hw) (va_cwS 2 hts gX8_crosses_X8_common rfl rfl rfl (by decide +kernel) ⟨Nat.le_of_ble_eq_true rfl, Nat.le_of_ble_eq_true rfl⟩) rfl hl.1 rfl (lv_room (Nat.le_of_ble_eq_true rfl)) dX8_crosses_263 (fun u103 σ104 H locs hw hO => ?_)
  refine lv_lstore (lv' := [(15, .long u103), (13, .long z0), (0, .ref (ad 0)), (9, .long x9), (11, .long x11)]) hx hb dX8_crosses_266 hl (by decide) rfl (fun ls hl => ?_)
  refine lv_lload hx hb dX8_crosses_268 (lv_at hl 3 rfl) ?_
  refine lv_lload hx hb dX8_crosses_270 (lv_at hl 0 rfl) ?_
  refine lv_ldiv hx hb dX8_crosses_272 hw.1 ?_
  have hw := hw.2
  refine lv_topl (fun x9_105 ex9_105 => ?_)
  have hw := hw x9_105 ex9_105
  refine lv_lstore (lv' := [(9, .long x9_105), (15, .long u103), (13, .long z0), (0, .ref (ad 0)), (11, .long x11)]) hx hb dX8_crosses_273 hl (by decide) rfl (fun ls hl => ?_)
  refine lv_lload hx hb dX8_crosses_275 (lv_at hl 4 rfl) ?_
  refine lv_lload hx hb dX8_crosses_277 (lv_at hl 1 rfl) ?_
  refine lv_ldiv hx hb dX8_crosses_279 hw.1 ?_
  have hw := hw.2
  refine lv_topl (fun x11_106 ex11_106 => ?_)
  have hw := hw x11_106 ex11_106
  refine lv_lstore (lv' := [(11, .long x11_106), (9, .long x9_105), (15, .long u103), (13, .long z0), (0, .ref (ad 0))]) hx hb dX8_crosses_280 hl (by decide) rfl (fun ls hl => ?_)
  refine lv_lload hx hb dX8_crosses_282 (lv_at hl 3 rfl) ?_
  refine lv_lload hx hb dX8_crosses_284 (lv_at hl 2 rfl) ?_
  refine lv_ldiv hx hb dX8_crosses_286 hw.1 ?_
  have hw := hw.2
  refine lv_topl (fun x13_107 ex13_107 => ?_)
  have hw := hw x13_107 ex13_107
  refine lv_lstore (lv' := [(13, .long x13_107), (11, .long x11_106), (9, .long x9_105), (15, .long u103), (0, .ref (ad 0))]) hx hb dX8_crosses_287 hl (by decide) rfl (fun ls hl => ?_)
  refine lv_lload hx hb dX8_crosses_289 (lv_at hl 1 rfl) ?_
  refine lv_lload hx hb dX8_crosses_291 (lv_at hl 1 rfl) ?_
  refine lv_lmul hx hb dX8_crosses_293 ?_
  refine lv_ldc2 (v := 4) hx hb hown (hts (.constantLong RX8 225 (4)) (by decide +kernel)) dX8_crosses_294 ?_
  refine lv_lload hx hb dX8_crosses_297 (lv_at hl 2 rfl) ?_
  refine lv_lmul hx hb dX8_crosses_299 ?_
  refine lv_lload hx hb dX8_crosses_300 (lv_at hl 0 rfl) ?_
  refine lv_lmul hx hb dX8_crosses_302 ?_
  refine lv_lsub hx hb dX8_crosses_303 ?_
  refine lv_topl (fun x17_108 ex17_108 => ?_)
  have hw := hw x17_108 ex17_108
  refine lv_lstore (lv' := [(17, .long x17_108), (13, .long x13_107), (11, .long x11_106), (9, .long x9_105), (15, .long u103), (0, .ref (ad 0))]) hx hb dX8_crosses_304 hl (by decide) rfl (fun ls hl => ?_)
  refine lv_lload hx hb dX8_crosses_306 (lv_at hl 0 rfl) ?_
  refine lv_lconst (v := 0) hx hb dX8_crosses_308 (by decide) ?_
  refine W.lcmp hx hb dX8_crosses_309 ?_
  refine lv_if_le (tgt := 317) hx hb dX8_crosses_310 (by decide) (fun hc => ?_) (fun hc => ?_)
  · have hc := (lg_cmp_le _ _).mp hc
    have hw := hw.1 hc
    refine lv_lload hx hb dX8_crosses_317 (lv_at hl 0 rfl) ?_
    refine lv_lconst (v := 0) hx hb dX8_crosses_319 (by decide) ?_
    refine W.lcmp hx hb dX8_crosses_320 ?_
    refine lv_if_ne (tgt := 328) hx hb dX8_crosses_321 (by decide) (fun hc => ?_) (fun hc => ?_)
    · have hc := (not_congr (lg_cmp_eq _ _)).mp hc
      have hw := hw.1 hc
      refine lv_iconst (v := 0) hx hb dX8_crosses_328 (by decide) ?_
      exact k_crosses_329 C ((0 : Int32)) σ104 hw H locs ls hO (lv_sub hl [5] rfl)
    · have hc := (lg_cmp_eq _ _).mp hc
      have hw := hw.2 hc
      refine lv_iconst (v := 1) hx hb dX8_crosses_324 (by decide) ?_
      refine lv_goto (tgt := 329) hx hb dX8_crosses_325 (by decide) ?_
      exact k_crosses_329 C ((1 : Int32)) σ104 hw H locs ls hO (lv_sub hl [5] rfl)
  · have hc := (not_congr (lg_cmp_le _ _)).mp hc
    have hw := hw.2 hc
    refine lv_iconst (v := 2) hx hb dX8_crosses_313 (by decide) ?_
    refine lv_goto (tgt := 329) hx hb dX8_crosses_314 (by decide) ?_
    exact k_crosses_329 C ((2 : Int32)) σ104 hw H locs ls hO (lv_sub hl [5] rfl)
set_option maxRecDepth 100000 in
set_option maxHeartbeats 4000000 in
theorem k_crosses_220 {p : Program} {l : Launch} {e : Env} {s : State} {m : MethodId} {args : Array Value} {below : List Frame} {meth : Method} {c : Code} {D : va_G} {y : Nat → ClassId} {ad : Nat → Nat} {X : va_W} {A : Nat → Prop} {Q : Int32 → mS → Prop} (C : mC p s m args meth c cX8_crosses 19 (some .int) wsX8_crosses D y A) (x5 : Int64) (x7 : Int64) (x9 : Int64) (z0 : Int64) (σ : mS) (hw : w_crosses_220 Q x5 x7 x9 z0 σ) (H : Heap) (locs : List Loc) (ls : Array Slot) (hO : mO D y ad X A s.heap H locs σ) (hl : lv_has ls 19 [(0, .ref (ad 0)), (4, .ref (ad 4)), (5, .long x5), (7, .long x7), (9, .long x9)]) : W p l e rX8_crosses s m args below meth c H locs 0 0 (MQ below (va_Qi Q (mB D y ad X A) A) args s 0 0 A) (F0 m 220 ls [.long z0]) := by
  obtain ⟨hx, hb, hr, hml, hown, hts, hlk, hK, hA⟩ := id C
  unfold w_crosses_220 at hw
  refine lv_lstore (lv' := [(11, .long z0), (0, .ref (ad 0)), (4, .ref (ad 4)), (5, .long x5), (7, .long x7), (9, .long x9)]) hx hb dX8_crosses_220 hl (by decide) rfl (fun ls hl => ?_)
  refine lv_lload hx hb dX8_crosses_222 (lv_at hl 3 rfl) ?_
  refine lv_lconst (v := 0) hx hb dX8_crosses_224 (by decide) ?_
  refine W.lcmp hx hb dX8_crosses_225 ?_
  refine lv_if_eq (tgt := 245) hx hb dX8_crosses_226 (by decide) (fun hc => ?_) (fun hc => ?_)
  · have hc := (lg_cmp_eq _ _).mp hc
    have hw := hw.1 hc
    refine lv_aload hx hb dX8_crosses_245 (lv_at hl 2 rfl) ?_
    refine lv_iconst (v := 0) hx hb dX8_crosses_247 (by decide) ?_
    refine mx_lald C hO (a := 4) rfl hw.1 dX8_crosses_248 ?_
    have hw := hw.2
    refine lv_lload hx hb dX8_crosses_249 (lv_at hl 4 rfl) ?_
    refine lv_ldiv hx hb dX8_crosses_251 hw.1 ?_
    have hw := hw.2
    exact k_crosses_252 C x9 z0 ((σ.1 4 ((0 : Int32)).toNatClampNeg) / x7) σ hw H locs ls hO (lv_sub hl [1, 5, 0] rfl)
  · have hc := (not_congr (lg_cmp_eq _ _)).mp hc
    have hw := hw.2 hc
    refine lv_aload hx hb dX8_crosses_229 (lv_at hl 2 rfl) ?_
    refine lv_iconst (v := 1) hx hb dX8_crosses_231 (by decide) ?_
    refine mx_lald C hO (a := 4) rfl hw.1 dX8_crosses_232 ?_
    have hw := hw.2
    refine lv_lload hx hb dX8_crosses_233 (lv_at hl 4 rfl) ?_
    refine lv_lload hx hb dX8_crosses_235 (lv_at hl 0 rfl) ?_
    refine lv_lmul hx hb dX8_crosses_237 ?_
    refine lv_lsub hx hb dX8_crosses_238 ?_
    refine lv_lload hx hb dX8_crosses_239 (lv_at hl 3 rfl) ?_
    refine lv_ldiv hx hb dX8_crosses_241 hw.1 ?_
    have hw := hw.2
    refine lv_goto (tgt := 252) hx hb dX8_crosses_242 (by decide) ?_
    exact k_crosses_252 C x9 z0 (((σ.1 4 ((1 : Int32)).toNatClampNeg) - (x7 * z0)) / x5) σ hw H locs ls hO (lv_sub hl [1, 5, 0] rfl)
set_option maxRecDepth 100000 in
set_option maxHeartbeats 4000000 in
theorem k_crosses_188 {p : Program} {l : Launch} {e : Env} {s : State} {m : MethodId} {args : Array Value} {below : List Frame} {meth : Method} {c : Code} {D : va_G} {y : Nat → ClassId} {ad : Nat → Nat} {X : va_W} {A : Nat → Prop} {Q : Int32 → mS → Prop} (C : mC p s m args meth c cX8_crosses 19 (some .int) wsX8_crosses D y A) (x5 : Int64) (x7 : Int64) (z0 : Int64) (σ : mS) (hw : w_crosses_188 Q x5 x7 z0 σ) (H : Heap) (locs : List Loc) (ls : Array Slot) (hO : mO D y ad X A s.heap H locs σ) (hl : lv_has ls 19 [(0, .ref (ad 0)), (4, .ref (ad 4)), (5, .long x5), (7, .long x7)]) : W p l e rX8_crosses s m args below meth c H locs 0 0 (MQ below (va_Qi Q (mB D y ad X A) A) args s 0 0 A) (F0 m 188 ls [.long z0]) := by
  obtain ⟨hx, hb, hr, hml, hown, hts, hlk, hK, hA⟩ := id C
  unfold w_crosses_188 at hw
  refine lv_lstore (lv' := [(9, .long z0), (0, .ref (ad 0)), (4, .ref (ad 4)), (5, .long x5), (7, .long x7)]) hx hb dX8_crosses_188 hl (by decide) rfl (fun ls hl => ?_)
  refine lv_lload hx hb dX8_crosses_190 (lv_at hl 3 rfl) ?_
  refine lv_lconst (v := 0) hx hb dX8_crosses_192 (by decide) ?_
  refine W.lcmp hx hb dX8_crosses_193 ?_
  refine lv_if_eq (tgt := 213) hx hb dX8_crosses_194 (by decide) (fun hc => ?_) (fun hc => ?_)
  · have hc := (lg_cmp_eq _ _).mp hc
    have hw := hw.1 hc
    refine lv_aload hx hb dX8_crosses_213 (lv_at hl 2 rfl) ?_
    refine lv_iconst (v := 1) hx hb dX8_crosses_215 (by decide) ?_
    refine mx_lald C hO (a := 4) rfl hw.1 dX8_crosses_216 ?_
    have hw := hw.2
    refine lv_lload hx hb dX8_crosses_217 (lv_at hl 4 rfl) ?_
    refine lv_ldiv hx hb dX8_crosses_219 hw.1 ?_
    have hw := hw.2
    exact k_crosses_220 C x5 x7 z0 ((σ.1 4 ((1 : Int32)).toNatClampNeg) / x7) σ hw H locs ls hO (lv_sub hl [1, 2, 3, 4, 0] rfl)
  · have hc := (not_congr (lg_cmp_eq _ _)).mp hc
    have hw := hw.2 hc
    refine lv_aload hx hb dX8_crosses_197 (lv_at hl 2 rfl) ?_
    refine lv_iconst (v := 2) hx hb dX8_crosses_199 (by decide) ?_
    refine mx_lald C hO (a := 4) rfl hw.1 dX8_crosses_200 ?_
    have hw := hw.2
    refine lv_lload hx hb dX8_crosses_201 (lv_at hl 4 rfl) ?_
    refine lv_lload hx hb dX8_crosses_203 (lv_at hl 0 rfl) ?_
    refine lv_lmul hx hb dX8_crosses_205 ?_
    refine lv_lsub hx hb dX8_crosses_206 ?_
    refine lv_lload hx hb dX8_crosses_207 (lv_at hl 3 rfl) ?_
    refine lv_ldiv hx hb dX8_crosses_209 hw.1 ?_
    have hw := hw.2
    refine lv_goto (tgt := 220) hx hb dX8_crosses_210 (by decide) ?_
    exact k_crosses_220 C x5 x7 z0 (((σ.1 4 ((2 : Int32)).toNatClampNeg) - (x7 * z0)) / x5) σ hw H locs ls hO (lv_sub hl [1, 2, 3, 4, 0] rfl)
set_option maxRecDepth 100000 in
set_option maxHeartbeats 4000000 in
theorem k_crosses_62 {p : Program} {l : Launch} {e : Env} {s : State} {m : MethodId} {args : Array Value} {below : List Frame} {meth : Method} {c : Code} {D : va_G} {y : Nat → ClassId} {ad : Nat → Nat} {X : va_W} {A : Nat → Prop} {Q : Int32 → mS → Prop} (C : mC p s m args meth c cX8_crosses 19 (some .int) wsX8_crosses D y A) (n : Nat) : ∀ (x1 : Int32) (x3 : Int32) (x5 : Int32) (σ : mS), w_crosses_62 Q n x1 x3 x5 σ → ∀ (H : Heap) (locs : List Loc) (ls : Array Slot), mO D y ad X A s.heap H locs σ → lv_has ls 19 [(0, .ref (ad 0)), (1, .int x1), (3, .int x3), (4, .ref (ad 4)), (5, .int x5)] → W p l e rX8_crosses s m args below meth c H locs 0 0 (MQ below (va_Qi Q (mB D y ad X A) A) args s 0 0 A) (F0 m 62 ls []) := by
  obtain ⟨hx, hb, hr, hml, hown, hts, hlk, hK, hA⟩ := id C
  have hin : ∀ w ∈ wsX80, w ∈ wsX8_crosses := fun _ h => List.mem_cons_of_mem _ (List.mem_append_right _ h)
  induction n with
  | zero =>
    intro x1 x3 x5 σ hw
    exact (show False from hw).elim
  | succ n ih =>
    intro x1 x3 x5 σ hw H locs ls hO hl
    unfold w_crosses_62 at hw
    refine lv_iload hx hb dX8_crosses_62 (lv_at hl 4 rfl) ?_
    refine lv_iconst (v := 4) hx hb dX8_crosses_64 (by decide) ?_
    refine lv_icmp_ge (tgt := 142) hx hb dX8_crosses_65 (by decide) (fun hc => ?_) (fun hc => ?_)
    · have hw := hw.1 hc
      refine lv_aload_n hx hb dX8_crosses_142 rfl (lv_at hl 0 rfl) ?_
      refine mx_get C hO hin 14 (by decide) (idx := 48) (by decide +kernel) rfl rfl dX8_crosses_143 ?_
      refine lv_iconst (v := 2) hx hb dX8_crosses_146 (by decide) ?_
      refine lv_iload_n hx hb dX8_crosses_147 rfl (lv_at hl 2 rfl) ?_
      refine lv_imul hx hb dX8_crosses_148 ?_
      refine mx_lald C hO (a := 13) rfl hw.1 dX8_crosses_149 ?_
      have hw := hw.2
      refine lv_topl (fun x5_101 ex5_101 => ?_)
      have hw := hw x5_101 ex5_101
      refine lv_lstore (lv' := [(5, .long x5_101), (0, .ref (ad 0)), (1, .int x1), (3, .int x3), (4, .ref (ad 4))]) hx hb dX8_crosses_150 hl (by decide) rfl (fun ls hl => ?_)
      refine lv_aload_n hx hb dX8_crosses_152 rfl (lv_at hl 1 rfl) ?_
      refine mx_get C hO hin 14 (by decide) (idx := 48) (by decide +kernel) rfl rfl dX8_crosses_153 ?_
      refine lv_iconst (v := 2) hx hb dX8_crosses_156 (by decide) ?_
      refine lv_iload_n hx hb dX8_crosses_157 rfl (lv_at hl 3 rfl) ?_
      refine lv_imul hx hb dX8_crosses_158 ?_
      refine lv_iconst (v := 1) hx hb dX8_crosses_159 (by decide) ?_
      refine lv_iadd hx hb dX8_crosses_160 ?_
      refine mx_lald C hO (a := 13) rfl hw.1 dX8_crosses_161 ?_
      have hw := hw.2
      refine lv_topl (fun x7_102 ex7_102 => ?_)
      have hw := hw x7_102 ex7_102
      refine lv_lstore (lv' := [(7, .long x7_102), (5, .long x5_101), (0, .ref (ad 0)), (1, .int x1), (3, .int x3), (4, .ref (ad 4))]) hx hb dX8_crosses_162 hl (by decide) rfl (fun ls hl => ?_)
      refine lv_lload hx hb dX8_crosses_164 (lv_at hl 1 rfl) ?_
      refine lv_lconst (v := 0) hx hb dX8_crosses_166 (by decide) ?_
      refine W.lcmp hx hb dX8_crosses_167 ?_
      refine lv_if_eq (tgt := 181) hx hb dX8_crosses_168 (by decide) (fun hc => ?_) (fun hc => ?_)
      · have hc := (lg_cmp_eq _ _).mp hc
        have hw := hw.1 hc
        refine lv_aload hx hb dX8_crosses_181 (lv_at hl 5 rfl) ?_
        refine lv_iconst (v := 2) hx hb dX8_crosses_183 (by decide) ?_
        refine mx_lald C hO (a := 4) rfl hw.1 dX8_crosses_184 ?_
        have hw := hw.2
        refine lv_lload hx hb dX8_crosses_185 (lv_at hl 0 rfl) ?_
        refine lv_ldiv hx hb dX8_crosses_187 hw.1 ?_
        have hw := hw.2
        exact k_crosses_188 C x5_101 x7_102 ((σ.1 4 ((2 : Int32)).toNatClampNeg) / x7_102) σ hw H locs ls hO (lv_sub hl [2, 5, 1, 0] rfl)
      · have hc := (not_congr (lg_cmp_eq _ _)).mp hc
        have hw := hw.2 hc
        refine lv_aload hx hb dX8_crosses_171 (lv_at hl 5 rfl) ?_
        refine lv_iconst (v := 3) hx hb dX8_crosses_173 (by decide) ?_
        refine mx_lald C hO (a := 4) rfl hw.1 dX8_crosses_174 ?_
        have hw := hw.2
        refine lv_lload hx hb dX8_crosses_175 (lv_at hl 1 rfl) ?_
        refine lv_ldiv hx hb dX8_crosses_177 hw.1 ?_
        have hw := hw.2
        refine lv_goto (tgt := 188) hx hb dX8_crosses_178 (by decide) ?_
        exact k_crosses_188 C x5_101 x7_102 ((σ.1 4 ((3 : Int32)).toNatClampNeg) / x5_101) σ hw H locs ls hO (lv_sub hl [2, 5, 1, 0] rfl)
    · have hw := hw.2 hc
      refine lv_bipush (v := 12) hx hb dX8_crosses_68 (by decide) ?_
      refine lv_iload_n hx hb dX8_crosses_70 rfl (lv_at hl 1 rfl) ?_
      refine lv_imul hx hb dX8_crosses_71 ?_
      refine lv_iload hx hb dX8_crosses_72 (lv_at hl 4 rfl) ?_
      refine lv_iadd hx hb dX8_crosses_74 ?_
      refine lv_topi (fun x6_103 ex6_103 => ?_)
      have hw := hw x6_103 ex6_103
      refine lv_istore (lv' := [(6, .int x6_103), (0, .ref (ad 0)), (1, .int x1), (3, .int x3), (4, .ref (ad 4)), (5, .int x5)]) hx hb dX8_crosses_75 hl (by decide) rfl (fun ls hl => ?_)
      refine lv_aload_n hx hb dX8_crosses_77 rfl (lv_at hl 1 rfl) ?_
      refine lv_aload_n hx hb dX8_crosses_78 rfl (lv_at hl 1 rfl) ?_
      refine mx_get C hO hin 9 (by decide) (idx := 33) (by decide +kernel) rfl rfl dX8_crosses_79 ?_
      refine lv_iconst (v := 0) hx hb dX8_crosses_82 (by decide) ?_
      refine mx_lald C hO (a := 8) rfl hw.1 dX8_crosses_83 ?_
      have hw := hw.2
      refine lv_aload_n hx hb dX8_crosses_84 rfl (lv_at hl 1 rfl) ?_
      refine mx_get C hO hin 9 (by decide) (idx := 33) (by decide +kernel) rfl rfl dX8_crosses_85 ?_
      refine lv_iconst (v := 1) hx hb dX8_crosses_88 (by decide) ?_
      refine mx_lald C hO (a := 8) rfl hw.1 dX8_crosses_89 ?_
      have hw := hw.2
      refine lv_aload_n hx hb dX8_crosses_90 rfl (lv_at hl 1 rfl) ?_
      refine mx_get C hO hin 9 (by decide) (idx := 33) (by decide +kernel) rfl rfl dX8_crosses_91 ?_
      refine lv_iconst (v := 2) hx hb dX8_crosses_94 (by decide) ?_
      refine mx_lald C hO (a := 8) rfl hw.1 dX8_crosses_95 ?_
      have hw := hw.2
      refine lv_aload_n hx hb dX8_crosses_96 rfl (lv_at hl 1 rfl) ?_
      refine mx_get C hO hin 1 (by decide) (idx := 13) (by decide +kernel) rfl rfl dX8_crosses_97 ?_
      refine lv_iload hx hb dX8_crosses_100 (lv_at hl 0 rfl) ?_
      refine mx_lald C hO (a := 2) rfl hw.1 dX8_crosses_102 ?_
      have hw := hw.2
      refine lv_aload_n hx hb dX8_crosses_103 rfl (lv_at hl 1 rfl) ?_
      refine mx_get C hO hin 1 (by decide) (idx := 13) (by decide +kernel) rfl rfl dX8_crosses_104 ?_
      refine lv_iload hx hb dX8_crosses_107 (lv_at hl 0 rfl) ?_
      refine lv_iconst (v := 4) hx hb dX8_crosses_109 (by decide) ?_
      refine lv_iadd hx hb dX8_crosses_110 ?_
      refine mx_lald C hO (a := 2) rfl hw.1 dX8_crosses_111 ?_
      have hw := hw.2
      refine lv_aload_n hx hb dX8_crosses_112 rfl (lv_at hl 1 rfl) ?_
      refine mx_get C hO hin 1 (by decide) (idx := 13) (by decide +kernel) rfl rfl dX8_crosses_113 ?_
      refine lv_iload hx hb dX8_crosses_116 (lv_at hl 0 rfl) ?_
      refine lv_bipush (v := 8) hx hb dX8_crosses_118 (by decide) ?_
      refine lv_iadd hx hb dX8_crosses_120 ?_
      refine mx_lald C hO (a := 2) rfl hw.1 dX8_crosses_121 ?_
      have hw := hw.2
      refine mx_cvv C hO (c_cross l D y ad X σ (σ.1 8 ((0 : Int32)).toNatClampNeg) (σ.1 8 ((1 : Int32)).toNatClampNeg) (σ.1 8 ((2 : Int32)).toNatClampNeg) (σ.1 2 (x6_103).toNatClampNeg) (σ.1 2 (x6_103 + (4 : Int32)).toNatClampNeg) (σ.1 2 (x6_103 + (8 : Int32)).toNatClampNeg) _ hw) (cwV 6 hts gX8_crosses_X8_cross rfl rfl rfl (by decide +kernel) ⟨Nat.le_of_ble_eq_true rfl, Nat.le_of_ble_eq_true rfl⟩) rfl hl.1 rfl (lv_room (Nat.le_of_ble_eq_true rfl)) dX8_crosses_122 (fun σ105 H locs hw hO => ?_)
      refine lv_aload hx hb dX8_crosses_125 (lv_at hl 4 rfl) ?_
      refine lv_iload hx hb dX8_crosses_127 (lv_at hl 5 rfl) ?_
      refine lv_aload_n hx hb dX8_crosses_129 rfl (lv_at hl 1 rfl) ?_
      refine mx_get C hO hin 5 (by decide) (idx := 26) (by decide +kernel) rfl rfl dX8_crosses_130 ?_
      refine lv_iload_n hx hb dX8_crosses_133 rfl (lv_at hl 3 rfl) ?_
      refine mx_lald C hO (a := 6) rfl hw.1 dX8_crosses_134 ?_
      have hw := hw.2
      refine mx_last C hO (a := 4) rfl hw.1 dX8_crosses_135 (fun H locs σ106 eσ106 hO => ?_)
      have hw := hw.2 σ106 eσ106
      obtain ⟨x5_107, ex5_107⟩ : ∃ y : Int32, y = x5 + 1 := ⟨_, rfl⟩
      have hw := hw x5_107 ex5_107
      refine lv_iinc (v := x5_107) (lv' := [(5, .int x5_107), (6, .int x6_103), (0, .ref (ad 0)), (1, .int x1), (3, .int x3), (4, .ref (ad 4))]) hx hb dX8_crosses_136 hl (k := 5) rfl (by rw [ex5_107]; rfl) (by decide) rfl (fun ls hl => ?_)
      refine lv_goto (tgt := 62) hx hb dX8_crosses_139 (by decide) ?_
      exact ih x1 x3 x5_107 σ106 hw H locs ls hO (lv_sub hl [2, 3, 4, 5, 0] rfl)
set_option maxRecDepth 100000 in
set_option maxHeartbeats 4000000 in
theorem k_crosses_53 {p : Program} {l : Launch} {e : Env} {s : State} {m : MethodId} {args : Array Value} {below : List Frame} {meth : Method} {c : Code} {D : va_G} {y : Nat → ClassId} {ad : Nat → Nat} {X : va_W} {A : Nat → Prop} {Q : Int32 → mS → Prop} (C : mC p s m args meth c cX8_crosses 19 (some .int) wsX8_crosses D y A) (x1 : Int32) (x3 : Int32) (σ : mS) (hw : w_crosses_53 Q x1 x3 σ) (H : Heap) (locs : List Loc) (ls : Array Slot) (hO : mO D y ad X A s.heap H locs σ) (hl : lv_has ls 19 [(0, .ref (ad 0)), (1, .int x1), (3, .int x3)]) : W p l e rX8_crosses s m args below meth c H locs 0 0 (MQ below (va_Qi Q (mB D y ad X A) A) args s 0 0 A) (F0 m 53 ls []) := by
  obtain ⟨hx, hb, hr, hml, hown, hts, hlk, hK, hA⟩ := id C
  have hin : ∀ w ∈ wsX80, w ∈ wsX8_crosses := fun _ h => List.mem_cons_of_mem _ (List.mem_append_right _ h)
  unfold w_crosses_53 at hw
  refine lv_aload_n hx hb dX8_crosses_53 rfl (lv_at hl 0 rfl) ?_
  refine mx_get C hO hin 3 (by decide) (idx := 20) (by decide +kernel) rfl rfl dX8_crosses_54 ?_
  refine lv_astore (lv' := [(4, .ref (ad 4)), (0, .ref (ad 0)), (1, .int x1), (3, .int x3)]) hx hb dX8_crosses_57 hl (by decide) rfl (fun ls hl => ?_)
  refine lv_iconst (v := 0) hx hb dX8_crosses_59 (by decide) ?_
  refine lv_istore (lv' := [(5, .int ((0 : Int32))), (4, .ref (ad 4)), (0, .ref (ad 0)), (1, .int x1), (3, .int x3)]) hx hb dX8_crosses_60 hl (by decide) rfl (fun ls hl => ?_)
  exact k_crosses_62 C fuL x1 x3 ((0 : Int32)) σ hw H locs ls hO (lv_sub hl [2, 3, 4, 1, 0] rfl)
set_option maxRecDepth 100000 in
set_option maxHeartbeats 4000000 in
theorem k_crosses_19 {p : Program} {l : Launch} {e : Env} {s : State} {m : MethodId} {args : Array Value} {below : List Frame} {meth : Method} {c : Code} {D : va_G} {y : Nat → ClassId} {ad : Nat → Nat} {X : va_W} {A : Nat → Prop} {Q : Int32 → mS → Prop} (C : mC p s m args meth c cX8_crosses 19 (some .int) wsX8_crosses D y A) (n : Nat) : ∀ (x1 : Int32) (x3 : Int32) (σ : mS), w_crosses_19 Q n x1 x3 σ → ∀ (H : Heap) (locs : List Loc) (ls : Array Slot), mO D y ad X A s.heap H locs σ → lv_has ls 19 [(0, .ref (ad 0)), (1, .int x1), (3, .int x3)] → W p l e rX8_crosses s m args below meth c H locs 0 0 (MQ below (va_Qi Q (mB D y ad X A) A) args s 0 0 A) (F0 m 19 ls []) := by
  obtain ⟨hx, hb, hr, hml, hown, hts, hlk, hK, hA⟩ := id C
  have hin : ∀ w ∈ wsX80, w ∈ wsX8_crosses := fun _ h => List.mem_cons_of_mem _ (List.mem_append_right _ h)
  induction n with
  | zero =>
    intro x1 x3 σ hw
    exact (show False from hw).elim
  | succ n ih =>
    intro x1 x3 σ hw H locs ls hO hl
    unfold w_crosses_19 at hw
    refine lv_aload_n hx hb dX8_crosses_19 rfl (lv_at hl 0 rfl) ?_
    refine mx_get C hO hin 14 (by decide) (idx := 48) (by decide +kernel) rfl rfl dX8_crosses_20 ?_
    refine lv_iconst (v := 2) hx hb dX8_crosses_23 (by decide) ?_
    refine lv_iload_n hx hb dX8_crosses_24 rfl (lv_at hl 2 rfl) ?_
    refine lv_imul hx hb dX8_crosses_25 ?_
    refine mx_lald C hO (a := 13) rfl hw.1 dX8_crosses_26 ?_
    have hw := hw.2
    refine lv_lconst (v := 0) hx hb dX8_crosses_27 (by decide) ?_
    refine W.lcmp hx hb dX8_crosses_28 ?_
    refine lv_if_ne (tgt := 53) hx hb dX8_crosses_29 (by decide) (fun hc => ?_) (fun hc => ?_)
    · have hc := (not_congr (lg_cmp_eq _ _)).mp hc
      have hw := hw.1 hc
      exact k_crosses_53 C x1 x3 σ hw H locs ls hO (lv_sub hl [0, 1, 2] rfl)
    · have hc := (lg_cmp_eq _ _).mp hc
      have hw := hw.2 hc
      refine lv_aload_n hx hb dX8_crosses_32 rfl (lv_at hl 0 rfl) ?_
      refine mx_get C hO hin 14 (by decide) (idx := 48) (by decide +kernel) rfl rfl dX8_crosses_33 ?_
      refine lv_iconst (v := 2) hx hb dX8_crosses_36 (by decide) ?_
      refine lv_iload_n hx hb dX8_crosses_37 rfl (lv_at hl 2 rfl) ?_
      refine lv_imul hx hb dX8_crosses_38 ?_
      refine lv_iconst (v := 1) hx hb dX8_crosses_39 (by decide) ?_
      refine lv_iadd hx hb dX8_crosses_40 ?_
      refine mx_lald C hO (a := 13) rfl hw.1 dX8_crosses_41 ?_
      have hw := hw.2
      refine lv_lconst (v := 0) hx hb dX8_crosses_42 (by decide) ?_
      refine W.lcmp hx hb dX8_crosses_43 ?_
      refine lv_if_ne (tgt := 53) hx hb dX8_crosses_44 (by decide) (fun hc => ?_) (fun hc => ?_)
      · have hc := (not_congr (lg_cmp_eq _ _)).mp hc
        have hw := hw.1 hc
        exact k_crosses_53 C x1 x3 σ hw H locs ls hO (lv_sub hl [0, 1, 2] rfl)
      · have hc := (lg_cmp_eq _ _).mp hc
        have hw := hw.2 hc
        obtain ⟨x3_101, ex3_101⟩ : ∃ y : Int32, y = x3 + 1 := ⟨_, rfl⟩
        have hw := hw x3_101 ex3_101
        refine lv_iinc (v := x3_101) (lv' := [(3, .int x3_101), (0, .ref (ad 0)), (1, .int x1)]) hx hb dX8_crosses_47 hl (k := 2) rfl (by rw [ex3_101]; rfl) (by decide) rfl (fun ls hl => ?_)
        refine lv_goto (tgt := 19) hx hb dX8_crosses_50 (by decide) ?_
        exact ih x1 x3_101 σ hw H locs ls hO (lv_sub hl [1, 2, 0] rfl)
set_option maxRecDepth 100000 in
set_option maxHeartbeats 4000000 in
theorem k_crosses_e {p : Program} {l : Launch} {e : Env} {s : State} {m : MethodId} {args : Array Value} {below : List Frame} {meth : Method} {c : Code} {D : va_G} {y : Nat → ClassId} {ad : Nat → Nat} {X : va_W} {A : Nat → Prop} {Q : Int32 → mS → Prop} (C : mC p s m args meth c cX8_crosses 19 (some .int) wsX8_crosses D y A) (x1 : Int32) (σ : mS) (hw : w_crosses Q x1 σ) (H : Heap) (locs : List Loc) (ls : Array Slot) (hO : mO D y ad X A s.heap H locs σ) (hl : lv_has ls 19 [(0, .ref (ad 0)), (1, .int x1)]) : W p l e rX8_crosses s m args below meth c H locs 0 0 (MQ below (va_Qi Q (mB D y ad X A) A) args s 0 0 A) (F0 m 0 ls []) := by
  obtain ⟨hx, hb, hr, hml, hown, hts, hlk, hK, hA⟩ := id C
  unfold w_crosses at hw
  refine lv_aload_n hx hb dX8_crosses_0 rfl (lv_at hl 0 rfl) ?_
  refine lv_iload_n hx hb dX8_crosses_1 rfl (lv_at hl 1 rfl) ?_
  refine mx_civ C hO (c_againstCubic l D y ad X σ x1 _ hw) (cwV 1 hts gX8_crosses_X8_againstCubic rfl rfl rfl (by decide +kernel) ⟨Nat.le_of_ble_eq_true rfl, Nat.le_of_ble_eq_true rfl⟩) rfl hl.1 rfl (lv_room (Nat.le_of_ble_eq_true rfl)) dX8_crosses_2 (fun u101 σ102 H locs hw hO => ?_)
  refine lv_istore_n (lv' := [(2, .int u101), (0, .ref (ad 0)), (1, .int x1)]) hx hb dX8_crosses_5 rfl hl (by decide) rfl (fun ls hl => ?_)
  refine lv_iload_n hx hb dX8_crosses_6 rfl (lv_at hl 0 rfl) ?_
  refine lv_if_ge (tgt := 12) hx hb dX8_crosses_7 (by decide) (fun hc => ?_) (fun hc => ?_)
  · have hw := hw.1 hc
    refine lv_aload_n hx hb dX8_crosses_12 rfl (lv_at hl 1 rfl) ?_
    refine lv_iload_n hx hb dX8_crosses_13 rfl (lv_at hl 2 rfl) ?_
    refine mx_cvv C hO (c_findKnot l D y ad X σ102 x1 _ hw) (cwV 1 hts gX8_crosses_X8_findKnot rfl rfl rfl (by decide +kernel) ⟨Nat.le_of_ble_eq_true rfl, Nat.le_of_ble_eq_true rfl⟩) rfl hl.1 rfl (lv_room (Nat.le_of_ble_eq_true rfl)) dX8_crosses_14 (fun σ104 H locs hw hO => ?_)
    refine lv_iconst (v := 0) hx hb dX8_crosses_17 (by decide) ?_
    refine lv_istore_n (lv' := [(3, .int ((0 : Int32))), (2, .int u101), (0, .ref (ad 0)), (1, .int x1)]) hx hb dX8_crosses_18 rfl hl (by decide) rfl (fun ls hl => ?_)
    exact k_crosses_19 C fuL x1 ((0 : Int32)) σ104 hw H locs ls hO (lv_sub hl [2, 3, 0] rfl)
  · have hw := hw.2 hc
    refine lv_iload_n hx hb dX8_crosses_10 rfl (lv_at hl 0 rfl) ?_
    exact mx_iret C hO hw dX8_crosses_11
theorem c_crosses (l : Launch) (D : va_G) (y : Nat → ClassId) (ad : Nat → Nat) (X : va_W) (σ : mS) (x1 : Int32) (Q : Int32 → mS → Prop) (hw : w_crosses Q x1 σ) : ∀ sz, Met l yX8_crosses wsX8_crosses rX8_crosses (va_Pc [.ref (ad 0), .int x1] (mPre D y ad X sz σ)) (va_Qi Q (mB D y ad X (va_A (mW y ad σ ++ X) sz)) (va_A (mW y ad σ ++ X) sz)) 0 0 (va_A (mW y ad σ ++ X) sz) :=
  mMet (Qc := fun A => va_Qi Q (mB D y ad X A) A) rfl (Nat.le_of_ble_eq_true rfl) (fun p e s m args below meth c A ls C hO hl => k_crosses_e C x1 σ hw s.heap [] ls hO hl)
abbrev rX8_rootsOf : Room := { frames := 0, cells := 0, slots := 0, locals := 0 }
set_option maxRecDepth 100000 in
set_option maxHeartbeats 4000000 in
theorem k_rootsOf_115 {p : Program} {l : Launch} {e : Env} {s : State} {m : MethodId} {args : Array Value} {below : List Frame} {meth : Method} {c : Code} {D : va_G} {y : Nat → ClassId} {ad : Nat → Nat} {X : va_W} {A : Nat → Prop} {Q : Int32 → mS → Prop} (C : mC p s m args meth c cX8_rootsOf 10 (some .int) wsX8_rootsOf D y A) (z0 : Int32) (σ : mS) (hw : w_rootsOf_115 Q z0 σ) (H : Heap) (locs : List Loc) (ls : Array Slot) (hO : mO D y ad X A s.heap H locs σ) (hl : lv_has ls 10 []) : W p l e rX8_rootsOf s m args below meth c H locs 0 0 (MQ below (va_Qi Q (mB D y ad X A) A) args s 0 0 A) (F0 m 115 ls [.int z0]) := by
  obtain ⟨hx, hb, hr, hml, hown, hts, hlk, hK, hA⟩ := id C
  unfold w_rootsOf_115 at hw
  exact mx_iret C hO hw dX8_rootsOf_115
set_option maxRecDepth 100000 in
set_option maxHeartbeats 4000000 in
theorem k_rootsOf_161 {p : Program} {l : Launch} {e : Env} {s : State} {m : MethodId} {args : Array Value} {below : List Frame} {meth : Method} {c : Code} {D : va_G} {y : Nat → ClassId} {ad : Nat → Nat} {X : va_W} {A : Nat → Prop} {Q : Int32 → mS → Prop} (C : mC p s m args meth c cX8_rootsOf 10 (some .int) wsX8_rootsOf D y A) (z0 : Int32) (σ : mS) (hw : w_rootsOf_161 Q z0 σ) (H : Heap) (locs : List Loc) (ls : Array Slot) (hO : mO D y ad X A s.heap H locs σ) (hl : lv_has ls 10 []) : W p l e rX8_rootsOf s m args below meth c H locs 0 0 (MQ below (va_Qi Q (mB D y ad X A) A) args s 0 0 A) (F0 m 161 ls [.int z0]) := by
  obtain ⟨hx, hb, hr, hml, hown, hts, hlk, hK, hA⟩ := id C
  unfold w_rootsOf_161 at hw
  exact mx_iret C hO hw dX8_rootsOf_161
set_option maxRecDepth 100000 in
set_option maxHeartbeats 4000000 in
theorem k_rootsOf_174 {p : Program} {l : Launch} {e : Env} {s : State} {m : MethodId} {args : Array Value} {below : List Frame} {meth : Method} {c : Code} {D : va_G} {y : Nat → ClassId} {ad : Nat → Nat} {X : va_W} {A : Nat → Prop} {Q : Int32 → mS → Prop} (C : mC p s m args meth c cX8_rootsOf 10 (some .int) wsX8_rootsOf D y A) (z0 : Int32) (σ : mS) (hw : w_rootsOf_174 Q z0 σ) (H : Heap) (locs : List Loc) (ls : Array Slot) (hO : mO D y ad X A s.heap H locs σ) (hl : lv_has ls 10 []) : W p l e rX8_rootsOf s m args below meth c H locs 0 0 (MQ below (va_Qi Q (mB D y ad X A) A) args s 0 0 A) (F0 m 174 ls [.int z0]) := by
  obtain ⟨hx, hb, hr, hml, hown, hts, hlk, hK, hA⟩ := id C
  unfold w_rootsOf_174 at hw
  exact mx_iret C hO hw dX8_rootsOf_174
set_option maxRecDepth 100000 in
set_option maxHeartbeats 4000000 in
theorem k_rootsOf_e {p : Program} {l : Launch} {e : Env} {s : State} {m : MethodId} {args : Array Value} {below : List Frame} {meth : Method} {c : Code} {D : va_G} {y : Nat → ClassId} {ad : Nat → Nat} {X : va_W} {A : Nat → Prop} {Q : Int32 → mS → Prop} (C : mC p s m args meth c cX8_rootsOf 10 (some .int) wsX8_rootsOf D y A) (x0 : Int64) (x2 : Int64) (x4 : Int64) (x6 : Int64) (σ : mS) (hw : w_rootsOf Q x0 x2 x4 x6 σ) (H : Heap) (locs : List Loc) (ls : Array Slot) (hO : mO D y ad X A s.heap H locs σ) (hl : lv_has ls 10 [(0, .long x0), (2, .long x2), (4, .long x4), (6, .long x6)]) : W p l e rX8_rootsOf s m args below meth c H locs 0 0 (MQ below (va_Qi Q (mB D y ad X A) A) args s 0 0 A) (F0 m 0 ls []) := by
  obtain ⟨hx, hb, hr, hml, hown, hts, hlk, hK, hA⟩ := id C
  unfold w_rootsOf at hw
  refine lv_lload_n hx hb dX8_rootsOf_0 rfl (lv_at hl 0 rfl) ?_
  refine lv_lconst (v := 0) hx hb dX8_rootsOf_1 (by decide) ?_
  refine W.lcmp hx hb dX8_rootsOf_2 ?_
  refine lv_if_eq (tgt := 116) hx hb dX8_rootsOf_3 (by decide) (fun hc => ?_) (fun hc => ?_)
  · have hc := (lg_cmp_eq _ _).mp hc
    have hw := hw.1 hc
    refine lv_lload_n hx hb dX8_rootsOf_116 rfl (lv_at hl 1 rfl) ?_
    refine lv_lconst (v := 0) hx hb dX8_rootsOf_117 (by decide) ?_
    refine W.lcmp hx hb dX8_rootsOf_118 ?_
    refine lv_if_eq (tgt := 162) hx hb dX8_rootsOf_119 (by decide) (fun hc => ?_) (fun hc => ?_)
    · have hc := (lg_cmp_eq _ _).mp hc
      have hw := hw.1 hc
      refine lv_lload hx hb dX8_rootsOf_162 (lv_at hl 2 rfl) ?_
      refine lv_lconst (v := 0) hx hb dX8_rootsOf_164 (by decide) ?_
      refine W.lcmp hx hb dX8_rootsOf_165 ?_
      refine lv_if_eq (tgt := 173) hx hb dX8_rootsOf_166 (by decide) (fun hc => ?_) (fun hc => ?_)
      · have hc := (lg_cmp_eq _ _).mp hc
        have hw := hw.1 hc
        refine lv_iconst (v := 0) hx hb dX8_rootsOf_173 (by decide) ?_
        exact k_rootsOf_174 C ((0 : Int32)) σ hw H locs ls hO (lv_sub hl [] rfl)
      · have hc := (not_congr (lg_cmp_eq _ _)).mp hc
        have hw := hw.2 hc
        refine lv_iconst (v := 1) hx hb dX8_rootsOf_169 (by decide) ?_
        refine lv_goto (tgt := 174) hx hb dX8_rootsOf_170 (by decide) ?_
        exact k_rootsOf_174 C ((1 : Int32)) σ hw H locs ls hO (lv_sub hl [] rfl)
    · have hc := (not_congr (lg_cmp_eq _ _)).mp hc
      have hw := hw.2 hc
      refine lv_lload hx hb dX8_rootsOf_122 (lv_at hl 2 rfl) ?_
      refine lv_lload hx hb dX8_rootsOf_124 (lv_at hl 2 rfl) ?_
      refine lv_lmul hx hb dX8_rootsOf_126 ?_
      refine lv_ldc2 (v := 4) hx hb hown (hts (.constantLong RX8 225 (4)) (by decide +kernel)) dX8_rootsOf_127 ?_
      refine lv_lload_n hx hb dX8_rootsOf_130 rfl (lv_at hl 1 rfl) ?_
      refine lv_lmul hx hb dX8_rootsOf_131 ?_
      refine lv_lload hx hb dX8_rootsOf_132 (lv_at hl 3 rfl) ?_
      refine lv_lmul hx hb dX8_rootsOf_134 ?_
      refine lv_lsub hx hb dX8_rootsOf_135 ?_
      refine lv_topl (fun x8_101 ex8_101 => ?_)
      have hw := hw x8_101 ex8_101
      refine lv_lstore (lv' := [(8, .long x8_101), (0, .long x0), (2, .long x2), (4, .long x4), (6, .long x6)]) hx hb dX8_rootsOf_136 hl (by decide) rfl (fun ls hl => ?_)
      refine lv_lload hx hb dX8_rootsOf_138 (lv_at hl 0 rfl) ?_
      refine lv_lconst (v := 0) hx hb dX8_rootsOf_140 (by decide) ?_
      refine W.lcmp hx hb dX8_rootsOf_141 ?_
      refine lv_if_le (tgt := 149) hx hb dX8_rootsOf_142 (by decide) (fun hc => ?_) (fun hc => ?_)
      · have hc := (lg_cmp_le _ _).mp hc
        have hw := hw.1 hc
        refine lv_lload hx hb dX8_rootsOf_149 (lv_at hl 0 rfl) ?_
        refine lv_lconst (v := 0) hx hb dX8_rootsOf_151 (by decide) ?_
        refine W.lcmp hx hb dX8_rootsOf_152 ?_
        refine lv_if_ne (tgt := 160) hx hb dX8_rootsOf_153 (by decide) (fun hc => ?_) (fun hc => ?_)
        · have hc := (not_congr (lg_cmp_eq _ _)).mp hc
          have hw := hw.1 hc
          refine lv_iconst (v := 0) hx hb dX8_rootsOf_160 (by decide) ?_
          exact k_rootsOf_161 C ((0 : Int32)) σ hw H locs ls hO (lv_sub hl [] rfl)
        · have hc := (lg_cmp_eq _ _).mp hc
          have hw := hw.2 hc
          refine lv_iconst (v := 1) hx hb dX8_rootsOf_156 (by decide) ?_
          refine lv_goto (tgt := 161) hx hb dX8_rootsOf_157 (by decide) ?_
          exact k_rootsOf_161 C ((1 : Int32)) σ hw H locs ls hO (lv_sub hl [] rfl)
      · have hc := (not_congr (lg_cmp_le _ _)).mp hc
        have hw := hw.2 hc
        refine lv_iconst (v := 2) hx hb dX8_rootsOf_145 (by decide) ?_
        refine lv_goto (tgt := 161) hx hb dX8_rootsOf_146 (by decide) ?_
        exact k_rootsOf_161 C ((2 : Int32)) σ hw H locs ls hO (lv_sub hl [] rfl)
  · have hc := (not_congr (lg_cmp_eq _ _)).mp hc
    have hw := hw.2 hc
    refine lv_ldc2 (v := 18) hx hb hown (hts (.constantLong RX8 227 (18)) (by decide +kernel)) dX8_rootsOf_6 ?_
    refine lv_lload_n hx hb dX8_rootsOf_9 rfl (lv_at hl 0 rfl) ?_
    refine lv_lmul hx hb dX8_rootsOf_10 ?_
    refine lv_lload_n hx hb dX8_rootsOf_11 rfl (lv_at hl 1 rfl) ?_
    refine lv_lmul hx hb dX8_rootsOf_12 ?_
    refine lv_lload hx hb dX8_rootsOf_13 (lv_at hl 2 rfl) ?_
    refine lv_lmul hx hb dX8_rootsOf_15 ?_
    refine lv_lload hx hb dX8_rootsOf_16 (lv_at hl 3 rfl) ?_
    refine lv_lmul hx hb dX8_rootsOf_18 ?_
    refine lv_ldc2 (v := 4) hx hb hown (hts (.constantLong RX8 225 (4)) (by decide +kernel)) dX8_rootsOf_19 ?_
    refine lv_lload_n hx hb dX8_rootsOf_22 rfl (lv_at hl 1 rfl) ?_
    refine lv_lmul hx hb dX8_rootsOf_23 ?_
    refine lv_lload_n hx hb dX8_rootsOf_24 rfl (lv_at hl 1 rfl) ?_
    refine lv_lmul hx hb dX8_rootsOf_25 ?_
    refine lv_lload_n hx hb dX8_rootsOf_26 rfl (lv_at hl 1 rfl) ?_
    refine lv_lmul hx hb dX8_rootsOf_27 ?_
    refine lv_lload hx hb dX8_rootsOf_28 (lv_at hl 3 rfl) ?_
    refine lv_lmul hx hb dX8_rootsOf_30 ?_
    refine lv_lsub hx hb dX8_rootsOf_31 ?_
    refine lv_lload_n hx hb dX8_rootsOf_32 rfl (lv_at hl 1 rfl) ?_
    refine lv_lload_n hx hb dX8_rootsOf_33 rfl (lv_at hl 1 rfl) ?_
    refine lv_lmul hx hb dX8_rootsOf_34 ?_
    refine lv_lload hx hb dX8_rootsOf_35 (lv_at hl 2 rfl) ?_
    refine lv_lmul hx hb dX8_rootsOf_37 ?_
    refine lv_lload hx hb dX8_rootsOf_38 (lv_at hl 2 rfl) ?_
    refine lv_lmul hx hb dX8_rootsOf_40 ?_
    refine lv_ladd hx hb dX8_rootsOf_41 ?_
    refine lv_ldc2 (v := 4) hx hb hown (hts (.constantLong RX8 225 (4)) (by decide +kernel)) dX8_rootsOf_42 ?_
    refine lv_lload_n hx hb dX8_rootsOf_45 rfl (lv_at hl 0 rfl) ?_
    refine lv_lmul hx hb dX8_rootsOf_46 ?_
    refine lv_lload hx hb dX8_rootsOf_47 (lv_at hl 2 rfl) ?_
    refine lv_lmul hx hb dX8_rootsOf_49 ?_
    refine lv_lload hx hb dX8_rootsOf_50 (lv_at hl 2 rfl) ?_
    refine lv_lmul hx hb dX8_rootsOf_52 ?_
    refine lv_lload hx hb dX8_rootsOf_53 (lv_at hl 2 rfl) ?_
    refine lv_lmul hx hb dX8_rootsOf_55 ?_
    refine lv_lsub hx hb dX8_rootsOf_56 ?_
    refine lv_ldc2 (v := 27) hx hb hown (hts (.constantLong RX8 229 (27)) (by decide +kernel)) dX8_rootsOf_57 ?_
    refine lv_lload_n hx hb dX8_rootsOf_60 rfl (lv_at hl 0 rfl) ?_
    refine lv_lmul hx hb dX8_rootsOf_61 ?_
    refine lv_lload_n hx hb dX8_rootsOf_62 rfl (lv_at hl 0 rfl) ?_
    refine lv_lmul hx hb dX8_rootsOf_63 ?_
    refine lv_lload hx hb dX8_rootsOf_64 (lv_at hl 3 rfl) ?_
    refine lv_lmul hx hb dX8_rootsOf_66 ?_
    refine lv_lload hx hb dX8_rootsOf_67 (lv_at hl 3 rfl) ?_
    refine lv_lmul hx hb dX8_rootsOf_69 ?_
    refine lv_lsub hx hb dX8_rootsOf_70 ?_
    refine lv_topl (fun x8_102 ex8_102 => ?_)
    have hw := hw x8_102 ex8_102
    refine lv_lstore (lv' := [(8, .long x8_102), (0, .long x0), (2, .long x2), (4, .long x4), (6, .long x6)]) hx hb dX8_rootsOf_71 hl (by decide) rfl (fun ls hl => ?_)
    refine lv_lload hx hb dX8_rootsOf_73 (lv_at hl 0 rfl) ?_
    refine lv_lconst (v := 0) hx hb dX8_rootsOf_75 (by decide) ?_
    refine W.lcmp hx hb dX8_rootsOf_76 ?_
    refine lv_if_le (tgt := 84) hx hb dX8_rootsOf_77 (by decide) (fun hc => ?_) (fun hc => ?_)
    · have hc := (lg_cmp_le _ _).mp hc
      have hw := hw.1 hc
      refine lv_lload hx hb dX8_rootsOf_84 (lv_at hl 0 rfl) ?_
      refine lv_lconst (v := 0) hx hb dX8_rootsOf_86 (by decide) ?_
      refine W.lcmp hx hb dX8_rootsOf_87 ?_
      refine lv_if_ge (tgt := 95) hx hb dX8_rootsOf_88 (by decide) (fun hc => ?_) (fun hc => ?_)
      · have hc := (lg_cmp_ge _ _).mp hc
        have hw := hw.1 hc
        refine lv_lload_n hx hb dX8_rootsOf_95 rfl (lv_at hl 2 rfl) ?_
        refine lv_lload_n hx hb dX8_rootsOf_96 rfl (lv_at hl 2 rfl) ?_
        refine lv_lmul hx hb dX8_rootsOf_97 ?_
        refine lv_ldc2 (v := 3) hx hb hown (hts (.constantLong RX8 122 (3)) (by decide +kernel)) dX8_rootsOf_98 ?_
        refine lv_lload_n hx hb dX8_rootsOf_101 rfl (lv_at hl 1 rfl) ?_
        refine lv_lmul hx hb dX8_rootsOf_102 ?_
        refine lv_lload hx hb dX8_rootsOf_103 (lv_at hl 3 rfl) ?_
        refine lv_lmul hx hb dX8_rootsOf_105 ?_
        refine W.lcmp hx hb dX8_rootsOf_106 ?_
        refine lv_if_ne (tgt := 114) hx hb dX8_rootsOf_107 (by decide) (fun hc => ?_) (fun hc => ?_)
        · have hc := (not_congr (lg_cmp_eq _ _)).mp hc
          have hw := hw.1 hc
          refine lv_iconst (v := 2) hx hb dX8_rootsOf_114 (by decide) ?_
          exact k_rootsOf_115 C ((2 : Int32)) σ hw H locs ls hO (lv_sub hl [] rfl)
        · have hc := (lg_cmp_eq _ _).mp hc
          have hw := hw.2 hc
          refine lv_iconst (v := 1) hx hb dX8_rootsOf_110 (by decide) ?_
          refine lv_goto (tgt := 115) hx hb dX8_rootsOf_111 (by decide) ?_
          exact k_rootsOf_115 C ((1 : Int32)) σ hw H locs ls hO (lv_sub hl [] rfl)
      · have hc := (not_congr (lg_cmp_ge _ _)).mp hc
        have hw := hw.2 hc
        refine lv_iconst (v := 1) hx hb dX8_rootsOf_91 (by decide) ?_
        refine lv_goto (tgt := 115) hx hb dX8_rootsOf_92 (by decide) ?_
        exact k_rootsOf_115 C ((1 : Int32)) σ hw H locs ls hO (lv_sub hl [] rfl)
    · have hc := (not_congr (lg_cmp_le _ _)).mp hc
      have hw := hw.2 hc
      refine lv_iconst (v := 3) hx hb dX8_rootsOf_80 (by decide) ?_
      refine lv_goto (tgt := 115) hx hb dX8_rootsOf_81 (by decide) ?_
      exact k_rootsOf_115 C ((3 : Int32)) σ hw H locs ls hO (lv_sub hl [] rfl)
theorem c_rootsOf (l : Launch) (D : va_G) (y : Nat → ClassId) (ad : Nat → Nat) (X : va_W) (σ : mS) (x0 : Int64) (x2 : Int64) (x4 : Int64) (x6 : Int64) (Q : Int32 → mS → Prop) (hw : w_rootsOf Q x0 x2 x4 x6 σ) : ∀ sz, Met l yX8_rootsOf wsX8_rootsOf rX8_rootsOf (va_Pc [.long x0, .long x2, .long x4, .long x6] (mPre D y ad X sz σ)) (va_Qi Q (mB D y ad X (va_A (mW y ad σ ++ X) sz)) (va_A (mW y ad σ ++ X) sz)) 0 0 (va_A (mW y ad σ ++ X) sz) :=
  mMet (Qc := fun A => va_Qi Q (mB D y ad X A) A) rfl (Nat.le_of_ble_eq_true rfl) (fun p e s m args below meth c A ls C hO hl => k_rootsOf_e C x0 x2 x4 x6 σ hw s.heap [] ls hO hl)
abbrev rX8_meets : Room := { frames := 3, cells := 0, slots := 0, locals := 66 }
set_option maxRecDepth 100000 in
set_option maxHeartbeats 4000000 in
theorem k_meets_158 {p : Program} {l : Launch} {e : Env} {s : State} {m : MethodId} {args : Array Value} {below : List Frame} {meth : Method} {c : Code} {D : va_G} {y : Nat → ClassId} {ad : Nat → Nat} {X : va_W} {A : Nat → Prop} {Q : Int32 → mS → Prop} (C : mC p s m args meth c cX8_meets 9 (some .int) wsX8_meets D y A) {r76 : Int32 → Int32 → Int32 → Int32 → Int32 → Int32 → mS → Prop} (hr76 : ∀ (x1 : Int32) (x2 : Int32) (x3 : Int32) (x4 : Int32) (x6 : Int32) (x7 : Int32) (σ : mS), r76 x1 x2 x3 x4 x6 x7 σ → ∀ (H : Heap) (locs : List Loc) (ls : Array Slot), mO D y ad X A s.heap H locs σ → lv_has ls 9 [(0, .ref (ad 0)), (1, .int x1), (2, .int x2), (3, .int x3), (4, .int x4), (6, .int x6), (7, .int x7)] → W p l e rX8_meets s m args below meth c H locs 0 0 (MQ below (va_Qi Q (mB D y ad X A) A) args s 0 0 A) (F0 m 76 ls [])) (x1 : Int32) (x2 : Int32) (x3 : Int32) (x4 : Int32) (x7 : Int32) (z0 : Int32) (σ : mS) (hw : w_meets_158 Q r76 x1 x2 x3 x4 x7 z0 σ) (H : Heap) (locs : List Loc) (ls : Array Slot) (hO : mO D y ad X A s.heap H locs σ) (hl : lv_has ls 9 [(0, .ref (ad 0)), (1, .int x1), (2, .int x2), (3, .int x3), (4, .int x4), (7, .int x7)]) : W p l e rX8_meets s m args below meth c H locs 0 0 (MQ below (va_Qi Q (mB D y ad X A) A) args s 0 0 A) (F0 m 158 ls [.int z0]) := by
  obtain ⟨hx, hb, hr, hml, hown, hts, hlk, hK, hA⟩ := id C
  unfold w_meets_158 at hw
  refine lv_istore (lv' := [(6, .int z0), (0, .ref (ad 0)), (1, .int x1), (2, .int x2), (3, .int x3), (4, .int x4), (7, .int x7)]) hx hb dX8_meets_158 hl (by decide) rfl (fun ls hl => ?_)
  obtain ⟨x7_101, ex7_101⟩ : ∃ y : Int32, y = x7 + 1 := ⟨_, rfl⟩
  have hw := hw x7_101 ex7_101
  refine lv_iinc (v := x7_101) (lv' := [(7, .int x7_101), (6, .int z0), (0, .ref (ad 0)), (1, .int x1), (2, .int x2), (3, .int x3), (4, .int x4)]) hx hb dX8_meets_160 hl (k := 6) rfl (by rw [ex7_101]; rfl) (by decide) rfl (fun ls hl => ?_)
  refine lv_goto (tgt := 76) hx hb dX8_meets_163 (by decide) ?_
  exact hr76 x1 x2 x3 x4 z0 x7_101 σ hw H locs ls hO (lv_sub hl [2, 3, 4, 5, 6, 1, 0] rfl)
set_option maxRecDepth 100000 in
set_option maxHeartbeats 4000000 in
theorem k_meets_157 {p : Program} {l : Launch} {e : Env} {s : State} {m : MethodId} {args : Array Value} {below : List Frame} {meth : Method} {c : Code} {D : va_G} {y : Nat → ClassId} {ad : Nat → Nat} {X : va_W} {A : Nat → Prop} {Q : Int32 → mS → Prop} (C : mC p s m args meth c cX8_meets 9 (some .int) wsX8_meets D y A) {r76 : Int32 → Int32 → Int32 → Int32 → Int32 → Int32 → mS → Prop} (hr76 : ∀ (x1 : Int32) (x2 : Int32) (x3 : Int32) (x4 : Int32) (x6 : Int32) (x7 : Int32) (σ : mS), r76 x1 x2 x3 x4 x6 x7 σ → ∀ (H : Heap) (locs : List Loc) (ls : Array Slot), mO D y ad X A s.heap H locs σ → lv_has ls 9 [(0, .ref (ad 0)), (1, .int x1), (2, .int x2), (3, .int x3), (4, .int x4), (6, .int x6), (7, .int x7)] → W p l e rX8_meets s m args below meth c H locs 0 0 (MQ below (va_Qi Q (mB D y ad X A) A) args s 0 0 A) (F0 m 76 ls [])) (x1 : Int32) (x2 : Int32) (x3 : Int32) (x4 : Int32) (x7 : Int32) (σ : mS) (hw : w_meets_157 Q r76 x1 x2 x3 x4 x7 σ) (H : Heap) (locs : List Loc) (ls : Array Slot) (hO : mO D y ad X A s.heap H locs σ) (hl : lv_has ls 9 [(0, .ref (ad 0)), (1, .int x1), (2, .int x2), (3, .int x3), (4, .int x4), (7, .int x7)]) : W p l e rX8_meets s m args below meth c H locs 0 0 (MQ below (va_Qi Q (mB D y ad X A) A) args s 0 0 A) (F0 m 157 ls []) := by
  obtain ⟨hx, hb, hr, hml, hown, hts, hlk, hK, hA⟩ := id C
  unfold w_meets_157 at hw
  refine lv_iconst (v := 0) hx hb dX8_meets_157 (by decide) ?_
  exact k_meets_158 C hr76 x1 x2 x3 x4 x7 ((0 : Int32)) σ hw H locs ls hO (lv_sub hl [0, 1, 2, 3, 4, 5] rfl)
set_option maxRecDepth 100000 in
set_option maxHeartbeats 4000000 in
theorem k_meets_203 {p : Program} {l : Launch} {e : Env} {s : State} {m : MethodId} {args : Array Value} {below : List Frame} {meth : Method} {c : Code} {D : va_G} {y : Nat → ClassId} {ad : Nat → Nat} {X : va_W} {A : Nat → Prop} {Q : Int32 → mS → Prop} (C : mC p s m args meth c cX8_meets 9 (some .int) wsX8_meets D y A) (z0 : Int32) (σ : mS) (hw : w_meets_203 Q z0 σ) (H : Heap) (locs : List Loc) (ls : Array Slot) (hO : mO D y ad X A s.heap H locs σ) (hl : lv_has ls 9 [(0, .ref (ad 0))]) : W p l e rX8_meets s m args below meth c H locs 0 0 (MQ below (va_Qi Q (mB D y ad X A) A) args s 0 0 A) (F0 m 203 ls [.int z0]) := by
  obtain ⟨hx, hb, hr, hml, hown, hts, hlk, hK, hA⟩ := id C
  unfold w_meets_203 at hw
  exact mx_iret C hO hw dX8_meets_203
set_option maxRecDepth 100000 in
set_option maxHeartbeats 4000000 in
theorem k_meets_76 {p : Program} {l : Launch} {e : Env} {s : State} {m : MethodId} {args : Array Value} {below : List Frame} {meth : Method} {c : Code} {D : va_G} {y : Nat → ClassId} {ad : Nat → Nat} {X : va_W} {A : Nat → Prop} {Q : Int32 → mS → Prop} (C : mC p s m args meth c cX8_meets 9 (some .int) wsX8_meets D y A) (n : Nat) : ∀ (x1 : Int32) (x2 : Int32) (x3 : Int32) (x4 : Int32) (x6 : Int32) (x7 : Int32) (σ : mS), w_meets_76 Q n x1 x2 x3 x4 x6 x7 σ → ∀ (H : Heap) (locs : List Loc) (ls : Array Slot), mO D y ad X A s.heap H locs σ → lv_has ls 9 [(0, .ref (ad 0)), (1, .int x1), (2, .int x2), (3, .int x3), (4, .int x4), (6, .int x6), (7, .int x7)] → W p l e rX8_meets s m args below meth c H locs 0 0 (MQ below (va_Qi Q (mB D y ad X A) A) args s 0 0 A) (F0 m 76 ls []) := by
  obtain ⟨hx, hb, hr, hml, hown, hts, hlk, hK, hA⟩ := id C
  have hin : ∀ w ∈ wsX80, w ∈ wsX8_meets := fun _ h => List.mem_cons_of_mem _ (List.mem_append_right _ h)
  induction n with
  | zero =>
    intro x1 x2 x3 x4 x6 x7 σ hw
    exact (show False from hw).elim
  | succ n ih =>
    intro x1 x2 x3 x4 x6 x7 σ hw H locs ls hO hl
    unfold w_meets_76 at hw
    refine lv_iload hx hb dX8_meets_76 (lv_at hl 6 rfl) ?_
    refine lv_iconst (v := 4) hx hb dX8_meets_78 (by decide) ?_
    refine lv_icmp_ge (tgt := 166) hx hb dX8_meets_79 (by decide) (fun hc => ?_) (fun hc => ?_)
    · have hw := hw.1 hc
      refine lv_iload hx hb dX8_meets_166 (lv_at hl 5 rfl) ?_
      refine lv_if_eq (tgt := 176) hx hb dX8_meets_168 (by decide) (fun hc => ?_) (fun hc => ?_)
      · have hw := hw.1 hc
        refine lv_aload_n hx hb dX8_meets_176 rfl (lv_at hl 0 rfl) ?_
        refine mx_get C hO hin 3 (by decide) (idx := 20) (by decide +kernel) rfl rfl dX8_meets_177 ?_
        refine lv_iconst (v := 3) hx hb dX8_meets_180 (by decide) ?_
        refine mx_lald C hO (a := 4) rfl hw.1 dX8_meets_181 ?_
        have hw := hw.2
        refine lv_aload_n hx hb dX8_meets_182 rfl (lv_at hl 0 rfl) ?_
        refine mx_get C hO hin 3 (by decide) (idx := 20) (by decide +kernel) rfl rfl dX8_meets_183 ?_
        refine lv_iconst (v := 2) hx hb dX8_meets_186 (by decide) ?_
        refine mx_lald C hO (a := 4) rfl hw.1 dX8_meets_187 ?_
        have hw := hw.2
        refine lv_aload_n hx hb dX8_meets_188 rfl (lv_at hl 0 rfl) ?_
        refine mx_get C hO hin 3 (by decide) (idx := 20) (by decide +kernel) rfl rfl dX8_meets_189 ?_
        refine lv_iconst (v := 1) hx hb dX8_meets_192 (by decide) ?_
        refine mx_lald C hO (a := 4) rfl hw.1 dX8_meets_193 ?_
        have hw := hw.2
        refine lv_aload_n hx hb dX8_meets_194 rfl (lv_at hl 0 rfl) ?_
        refine mx_get C hO hin 3 (by decide) (idx := 20) (by decide +kernel) rfl rfl dX8_meets_195 ?_
        refine lv_iconst (v := 0) hx hb dX8_meets_198 (by decide) ?_
        refine mx_lald C hO (a := 4) rfl hw.1 dX8_meets_199 ?_
        have hw := hw.2
        refine mx_cis C hO (c_rootsOf l D y ad X σ (σ.1 4 ((3 : Int32)).toNatClampNeg) (σ.1 4 ((2 : Int32)).toNatClampNeg) (σ.1 4 ((1 : Int32)).toNatClampNeg) (σ.1 4 ((0 : Int32)).toNatClampNeg) _ hw) (va_cwS 4 hts gX8_meets_X8_rootsOf rfl rfl rfl (by decide +kernel) ⟨Nat.le_of_ble_eq_true rfl, Nat.le_of_ble_eq_true rfl⟩) rfl hl.1 rfl (lv_room (Nat.le_of_ble_eq_true rfl)) dX8_meets_200 (fun u101 σ102 H locs hw hO => ?_)
        exact k_meets_203 C u101 σ102 hw H locs ls hO (lv_sub hl [0] rfl)
      · have hw := hw.2 hc
        refine lv_bipush (v := -4) hx hb dX8_meets_171 (by decide) ?_
        refine lv_goto (tgt := 203) hx hb dX8_meets_173 (by decide) ?_
        exact k_meets_203 C ((-4 : Int32)) σ hw H locs ls hO (lv_sub hl [0] rfl)
    · have hw := hw.2 hc
      refine lv_bipush (v := 12) hx hb dX8_meets_82 (by decide) ?_
      refine lv_iload_n hx hb dX8_meets_84 rfl (lv_at hl 1 rfl) ?_
      refine lv_imul hx hb dX8_meets_85 ?_
      refine lv_iload hx hb dX8_meets_86 (lv_at hl 6 rfl) ?_
      refine lv_iadd hx hb dX8_meets_88 ?_
      refine lv_topi (fun x8_103 ex8_103 => ?_)
      have hw := hw x8_103 ex8_103
      refine lv_istore (lv' := [(8, .int x8_103), (0, .ref (ad 0)), (1, .int x1), (2, .int x2), (3, .int x3), (4, .int x4), (6, .int x6), (7, .int x7)]) hx hb dX8_meets_89 hl (by decide) rfl (fun ls hl => ?_)
      refine lv_aload_n hx hb dX8_meets_91 rfl (lv_at hl 1 rfl) ?_
      refine mx_get C hO hin 3 (by decide) (idx := 20) (by decide +kernel) rfl rfl dX8_meets_92 ?_
      refine lv_iload hx hb dX8_meets_95 (lv_at hl 7 rfl) ?_
      refine lv_iload_n hx hb dX8_meets_97 rfl (lv_at hl 3 rfl) ?_
      refine lv_i2l hx hb dX8_meets_98 rfl ?_
      refine lv_aload_n hx hb dX8_meets_99 rfl (lv_at hl 1 rfl) ?_
      refine mx_get C hO hin 1 (by decide) (idx := 13) (by decide +kernel) rfl rfl dX8_meets_100 ?_
      refine lv_iload hx hb dX8_meets_103 (lv_at hl 0 rfl) ?_
      refine mx_lald C hO (a := 2) rfl hw.1 dX8_meets_105 ?_
      have hw := hw.2
      refine lv_lmul hx hb dX8_meets_106 ?_
      refine lv_iload_n hx hb dX8_meets_107 rfl (lv_at hl 4 rfl) ?_
      refine lv_i2l hx hb dX8_meets_108 rfl ?_
      refine lv_aload_n hx hb dX8_meets_109 rfl (lv_at hl 1 rfl) ?_
      refine mx_get C hO hin 1 (by decide) (idx := 13) (by decide +kernel) rfl rfl dX8_meets_110 ?_
      refine lv_iload hx hb dX8_meets_113 (lv_at hl 0 rfl) ?_
      refine lv_iconst (v := 4) hx hb dX8_meets_115 (by decide) ?_
      refine lv_iadd hx hb dX8_meets_116 ?_
      refine mx_lald C hO (a := 2) rfl hw.1 dX8_meets_117 ?_
      have hw := hw.2
      refine lv_lmul hx hb dX8_meets_118 ?_
      refine lv_ladd hx hb dX8_meets_119 ?_
      refine lv_iload hx hb dX8_meets_120 (lv_at hl 5 rfl) ?_
      refine lv_i2l hx hb dX8_meets_122 rfl ?_
      refine lv_aload_n hx hb dX8_meets_123 rfl (lv_at hl 1 rfl) ?_
      refine mx_get C hO hin 1 (by decide) (idx := 13) (by decide +kernel) rfl rfl dX8_meets_124 ?_
      refine lv_iload hx hb dX8_meets_127 (lv_at hl 0 rfl) ?_
      refine lv_bipush (v := 8) hx hb dX8_meets_129 (by decide) ?_
      refine lv_iadd hx hb dX8_meets_131 ?_
      refine mx_lald C hO (a := 2) rfl hw.1 dX8_meets_132 ?_
      have hw := hw.2
      refine lv_lmul hx hb dX8_meets_133 ?_
      refine lv_ladd hx hb dX8_meets_134 ?_
      refine mx_last C hO (a := 4) rfl hw.1 dX8_meets_135 (fun H locs σ104 eσ104 hO => ?_)
      have hw := hw.2 σ104 eσ104
      refine lv_iload hx hb dX8_meets_136 (lv_at hl 6 rfl) ?_
      refine lv_if_eq (tgt := 157) hx hb dX8_meets_138 (by decide) (fun hc => ?_) (fun hc => ?_)
      · have hw := hw.1 hc
        exact k_meets_157 C (fun x1 x2 x3 x4 x6 x7 σ hw H locs ls hO hl => ih x1 x2 x3 x4 x6 x7 σ hw H locs ls hO hl) x1 x2 x3 x4 x7 σ104 hw H locs ls hO (lv_sub hl [1, 2, 3, 4, 5, 7] rfl)
      · have hw := hw.2 hc
        refine lv_aload_n hx hb dX8_meets_141 rfl (lv_at hl 1 rfl) ?_
        refine mx_get C hO hin 3 (by decide) (idx := 20) (by decide +kernel) rfl rfl dX8_meets_142 ?_
        refine lv_iload hx hb dX8_meets_145 (lv_at hl 7 rfl) ?_
        refine mx_lald C hO (a := 4) rfl hw.1 dX8_meets_147 ?_
        have hw := hw.2
        refine lv_lconst (v := 0) hx hb dX8_meets_148 (by decide) ?_
        refine W.lcmp hx hb dX8_meets_149 ?_
        refine lv_if_ne (tgt := 157) hx hb dX8_meets_150 (by decide) (fun hc => ?_) (fun hc => ?_)
        · have hc := (not_congr (lg_cmp_eq _ _)).mp hc
          have hw := hw.1 hc
          exact k_meets_157 C (fun x1 x2 x3 x4 x6 x7 σ hw H locs ls hO hl => ih x1 x2 x3 x4 x6 x7 σ hw H locs ls hO hl) x1 x2 x3 x4 x7 σ104 hw H locs ls hO (lv_sub hl [1, 2, 3, 4, 5, 7] rfl)
        · have hc := (lg_cmp_eq _ _).mp hc
          have hw := hw.2 hc
          refine lv_iconst (v := 1) hx hb dX8_meets_153 (by decide) ?_
          refine lv_goto (tgt := 158) hx hb dX8_meets_154 (by decide) ?_
          exact k_meets_158 C (fun x1 x2 x3 x4 x6 x7 σ hw H locs ls hO hl => ih x1 x2 x3 x4 x6 x7 σ hw H locs ls hO hl) x1 x2 x3 x4 x7 ((1 : Int32)) σ104 hw H locs ls hO (lv_sub hl [1, 2, 3, 4, 5, 7] rfl)
set_option maxRecDepth 100000 in
set_option maxHeartbeats 4000000 in
theorem k_meets_60 {p : Program} {l : Launch} {e : Env} {s : State} {m : MethodId} {args : Array Value} {below : List Frame} {meth : Method} {c : Code} {D : va_G} {y : Nat → ClassId} {ad : Nat → Nat} {X : va_W} {A : Nat → Prop} {Q : Int32 → mS → Prop} (C : mC p s m args meth c cX8_meets 9 (some .int) wsX8_meets D y A) (x1 : Int32) (x2 : Int32) (x3 : Int32) (x4 : Int32) (z0 : Int32) (σ : mS) (hw : w_meets_60 Q x1 x2 x3 x4 z0 σ) (H : Heap) (locs : List Loc) (ls : Array Slot) (hO : mO D y ad X A s.heap H locs σ) (hl : lv_has ls 9 [(0, .ref (ad 0)), (1, .int x1), (2, .int x2), (3, .int x3), (4, .int x4)]) : W p l e rX8_meets s m args below meth c H locs 0 0 (MQ below (va_Qi Q (mB D y ad X A) A) args s 0 0 A) (F0 m 60 ls [.int z0]) := by
  obtain ⟨hx, hb, hr, hml, hown, hts, hlk, hK, hA⟩ := id C
  unfold w_meets_60 at hw
  refine lv_istore (lv' := [(5, .int z0), (0, .ref (ad 0)), (1, .int x1), (2, .int x2), (3, .int x3), (4, .int x4)]) hx hb dX8_meets_60 hl (by decide) rfl (fun ls hl => ?_)
  refine lv_iload hx hb dX8_meets_62 (lv_at hl 0 rfl) ?_
  refine lv_if_ge (tgt := 70) hx hb dX8_meets_64 (by decide) (fun hc => ?_) (fun hc => ?_)
  · have hw := hw.1 hc
    refine lv_iconst (v := 1) hx hb dX8_meets_70 (by decide) ?_
    refine lv_istore (lv' := [(6, .int ((1 : Int32))), (5, .int z0), (0, .ref (ad 0)), (1, .int x1), (2, .int x2), (3, .int x3), (4, .int x4)]) hx hb dX8_meets_71 hl (by decide) rfl (fun ls hl => ?_)
    refine lv_iconst (v := 0) hx hb dX8_meets_73 (by decide) ?_
    refine lv_istore (lv' := [(7, .int ((0 : Int32))), (6, .int ((1 : Int32))), (5, .int z0), (0, .ref (ad 0)), (1, .int x1), (2, .int x2), (3, .int x3), (4, .int x4)]) hx hb dX8_meets_74 hl (by decide) rfl (fun ls hl => ?_)
    exact k_meets_76 C fuL x1 x2 x3 x4 ((1 : Int32)) ((0 : Int32)) σ hw H locs ls hO (lv_sub hl [3, 4, 5, 6, 7, 1, 0] rfl)
  · have hw := hw.2 hc
    refine lv_iload hx hb dX8_meets_67 (lv_at hl 0 rfl) ?_
    exact mx_iret C hO hw dX8_meets_69
set_option maxRecDepth 100000 in
set_option maxHeartbeats 4000000 in
theorem k_meets_51 {p : Program} {l : Launch} {e : Env} {s : State} {m : MethodId} {args : Array Value} {below : List Frame} {meth : Method} {c : Code} {D : va_G} {y : Nat → ClassId} {ad : Nat → Nat} {X : va_W} {A : Nat → Prop} {Q : Int32 → mS → Prop} (C : mC p s m args meth c cX8_meets 9 (some .int) wsX8_meets D y A) (x1 : Int32) (x2 : Int32) (x3 : Int32) (x4 : Int32) (σ : mS) (hw : w_meets_51 Q x1 x2 x3 x4 σ) (H : Heap) (locs : List Loc) (ls : Array Slot) (hO : mO D y ad X A s.heap H locs σ) (hl : lv_has ls 9 [(0, .ref (ad 0)), (1, .int x1), (2, .int x2), (3, .int x3), (4, .int x4)]) : W p l e rX8_meets s m args below meth c H locs 0 0 (MQ below (va_Qi Q (mB D y ad X A) A) args s 0 0 A) (F0 m 51 ls []) := by
  obtain ⟨hx, hb, hr, hml, hown, hts, hlk, hK, hA⟩ := id C
  unfold w_meets_51 at hw
  refine lv_iconst (v := -1) hx hb dX8_meets_51 (by decide) ?_
  refine lv_goto (tgt := 60) hx hb dX8_meets_52 (by decide) ?_
  exact k_meets_60 C x1 x2 x3 x4 ((-1 : Int32)) σ hw H locs ls hO (lv_sub hl [0, 1, 2, 3, 4] rfl)
set_option maxRecDepth 100000 in
set_option maxHeartbeats 4000000 in
theorem k_meets_55 {p : Program} {l : Launch} {e : Env} {s : State} {m : MethodId} {args : Array Value} {below : List Frame} {meth : Method} {c : Code} {D : va_G} {y : Nat → ClassId} {ad : Nat → Nat} {X : va_W} {A : Nat → Prop} {Q : Int32 → mS → Prop} (C : mC p s m args meth c cX8_meets 9 (some .int) wsX8_meets D y A) (x1 : Int32) (x2 : Int32) (x3 : Int32) (x4 : Int32) (σ : mS) (hw : w_meets_55 Q x1 x2 x3 x4 σ) (H : Heap) (locs : List Loc) (ls : Array Slot) (hO : mO D y ad X A s.heap H locs σ) (hl : lv_has ls 9 [(0, .ref (ad 0)), (1, .int x1), (2, .int x2), (3, .int x3), (4, .int x4)]) : W p l e rX8_meets s m args below meth c H locs 0 0 (MQ below (va_Qi Q (mB D y ad X A) A) args s 0 0 A) (F0 m 55 ls []) := by
  obtain ⟨hx, hb, hr, hml, hown, hts, hlk, hK, hA⟩ := id C
  unfold w_meets_55 at hw
  refine lv_aload_n hx hb dX8_meets_55 rfl (lv_at hl 0 rfl) ?_
  refine lv_iload_n hx hb dX8_meets_56 rfl (lv_at hl 1 rfl) ?_
  refine mx_civ C hO (c_against l D y ad X σ x1 _ hw) (cwV 1 hts gX8_meets_X8_against rfl rfl rfl (by decide +kernel) ⟨Nat.le_of_ble_eq_true rfl, Nat.le_of_ble_eq_true rfl⟩) rfl hl.1 rfl (lv_room (Nat.le_of_ble_eq_true rfl)) dX8_meets_57 (fun u101 σ102 H locs hw hO => ?_)
  exact k_meets_60 C x1 x2 x3 x4 u101 σ102 hw H locs ls hO (lv_sub hl [0, 1, 2, 3, 4] rfl)
set_option maxRecDepth 100000 in
set_option maxHeartbeats 4000000 in
theorem k_meets_e {p : Program} {l : Launch} {e : Env} {s : State} {m : MethodId} {args : Array Value} {below : List Frame} {meth : Method} {c : Code} {D : va_G} {y : Nat → ClassId} {ad : Nat → Nat} {X : va_W} {A : Nat → Prop} {Q : Int32 → mS → Prop} (C : mC p s m args meth c cX8_meets 9 (some .int) wsX8_meets D y A) (x1 : Int32) (x2 : Int32) (x3 : Int32) (x4 : Int32) (σ : mS) (hw : w_meets Q x1 x2 x3 x4 σ) (H : Heap) (locs : List Loc) (ls : Array Slot) (hO : mO D y ad X A s.heap H locs σ) (hl : lv_has ls 9 [(0, .ref (ad 0)), (1, .int x1), (2, .int x2), (3, .int x3), (4, .int x4)]) : W p l e rX8_meets s m args below meth c H locs 0 0 (MQ below (va_Qi Q (mB D y ad X A) A) args s 0 0 A) (F0 m 0 ls []) := by
  obtain ⟨hx, hb, hr, hml, hown, hts, hlk, hK, hA⟩ := id C
  unfold w_meets at hw
  refine lv_iload_n hx hb dX8_meets_0 rfl (lv_at hl 2 rfl) ?_
  refine lv_i2l hx hb dX8_meets_1 rfl ?_
  refine lv_ldc2 (v := -20) hx hb hown (hts (.constantLong RX8 168 (-20)) (by decide +kernel)) dX8_meets_2 ?_
  refine lv_ldc2 (v := 20) hx hb hown (hts (.constantLong RX8 170 (20)) (by decide +kernel)) dX8_meets_5 ?_
  refine mx_cis C hO (c_in l D y ad X σ (x2.toInt64) ((-20 : Int64)) ((20 : Int64)) _ hw) (va_cwS 3 hts gX8_meets_X8_in rfl rfl rfl (by decide +kernel) ⟨Nat.le_of_ble_eq_true rfl, Nat.le_of_ble_eq_true rfl⟩) rfl hl.1 rfl (lv_room (Nat.le_of_ble_eq_true rfl)) dX8_meets_8 (fun u101 σ102 H locs hw hO => ?_)
  refine lv_if_eq (tgt := 51) hx hb dX8_meets_11 (by decide) (fun hc => ?_) (fun hc => ?_)
  · have hw := hw.1 hc
    exact k_meets_51 C x1 x2 x3 x4 σ102 hw H locs ls hO (lv_sub hl [0, 1, 2, 3, 4] rfl)
  · have hw := hw.2 hc
    refine lv_iload_n hx hb dX8_meets_14 rfl (lv_at hl 3 rfl) ?_
    refine lv_i2l hx hb dX8_meets_15 rfl ?_
    refine lv_ldc2 (v := -20) hx hb hown (hts (.constantLong RX8 168 (-20)) (by decide +kernel)) dX8_meets_16 ?_
    refine lv_ldc2 (v := 20) hx hb hown (hts (.constantLong RX8 170 (20)) (by decide +kernel)) dX8_meets_19 ?_
    refine mx_cis C hO (c_in l D y ad X σ102 (x3.toInt64) ((-20 : Int64)) ((20 : Int64)) _ hw) (va_cwS 3 hts gX8_meets_X8_in rfl rfl rfl (by decide +kernel) ⟨Nat.le_of_ble_eq_true rfl, Nat.le_of_ble_eq_true rfl⟩) rfl hl.1 rfl (lv_room (Nat.le_of_ble_eq_true rfl)) dX8_meets_22 (fun u103 σ104 H locs hw hO => ?_)
    refine lv_if_eq (tgt := 51) hx hb dX8_meets_25 (by decide) (fun hc => ?_) (fun hc => ?_)
    · have hw := hw.1 hc
      exact k_meets_51 C x1 x2 x3 x4 σ104 hw H locs ls hO (lv_sub hl [0, 1, 2, 3, 4] rfl)
    · have hw := hw.2 hc
      refine lv_iload hx hb dX8_meets_28 (lv_at hl 4 rfl) ?_
      refine lv_i2l hx hb dX8_meets_30 rfl ?_
      refine lv_ldc2 (v := -20) hx hb hown (hts (.constantLong RX8 168 (-20)) (by decide +kernel)) dX8_meets_31 ?_
      refine lv_ldc2 (v := 20) hx hb hown (hts (.constantLong RX8 170 (20)) (by decide +kernel)) dX8_meets_34 ?_
      refine mx_cis C hO (c_in l D y ad X σ104 (x4.toInt64) ((-20 : Int64)) ((20 : Int64)) _ hw) (va_cwS 3 hts gX8_meets_X8_in rfl rfl rfl (by decide +kernel) ⟨Nat.le_of_ble_eq_true rfl, Nat.le_of_ble_eq_true rfl⟩) rfl hl.1 rfl (lv_room (Nat.le_of_ble_eq_true rfl)) dX8_meets_37 (fun u105 σ106 H locs hw hO => ?_)
      refine lv_if_eq (tgt := 51) hx hb dX8_meets_40 (by decide) (fun hc => ?_) (fun hc => ?_)
      · have hw := hw.1 hc
        exact k_meets_51 C x1 x2 x3 x4 σ106 hw H locs ls hO (lv_sub hl [0, 1, 2, 3, 4] rfl)
      · have hw := hw.2 hc
        refine lv_iload_n hx hb dX8_meets_43 rfl (lv_at hl 2 rfl) ?_
        refine lv_if_ne (tgt := 55) hx hb dX8_meets_44 (by decide) (fun hc => ?_) (fun hc => ?_)
        · have hw := hw.1 hc
          exact k_meets_55 C x1 x2 x3 x4 σ106 hw H locs ls hO (lv_sub hl [0, 1, 2, 3, 4] rfl)
        · have hw := hw.2 hc
          refine lv_iload_n hx hb dX8_meets_47 rfl (lv_at hl 3 rfl) ?_
          refine lv_if_ne (tgt := 55) hx hb dX8_meets_48 (by decide) (fun hc => ?_) (fun hc => ?_)
          · have hw := hw.1 hc
            exact k_meets_55 C x1 x2 x3 x4 σ106 hw H locs ls hO (lv_sub hl [0, 1, 2, 3, 4] rfl)
          · have hw := hw.2 hc
            exact k_meets_51 C x1 x2 x3 x4 σ106 hw H locs ls hO (lv_sub hl [0, 1, 2, 3, 4] rfl)
theorem c_meets (l : Launch) (D : va_G) (y : Nat → ClassId) (ad : Nat → Nat) (X : va_W) (σ : mS) (x1 : Int32) (x2 : Int32) (x3 : Int32) (x4 : Int32) (Q : Int32 → mS → Prop) (hw : w_meets Q x1 x2 x3 x4 σ) : ∀ sz, Met l yX8_meets wsX8_meets rX8_meets (va_Pc [.ref (ad 0), .int x1, .int x2, .int x3, .int x4] (mPre D y ad X sz σ)) (va_Qi Q (mB D y ad X (va_A (mW y ad σ ++ X) sz)) (va_A (mW y ad σ ++ X) sz)) 0 0 (va_A (mW y ad σ ++ X) sz) :=
  mMet (Qc := fun A => va_Qi Q (mB D y ad X A) A) rfl (Nat.le_of_ble_eq_true rfl) (fun p e s m args below meth c A ls C hO hl => k_meets_e C x1 x2 x3 x4 σ hw s.heap [] ls hO hl)
