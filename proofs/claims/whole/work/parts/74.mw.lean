/-! the reference: what each method does, and the walk of its bytecode (written by wip/tools/gen.py) -/
abbrev rX8_findEquation : Room := { frames := 4, cells := 0, slots := 0, locals := 104 }
set_option maxRecDepth 100000 in
set_option maxHeartbeats 4000000 in
theorem k_findEquation_312 {p : Program} {l : Launch} {e : Env} {s : State} {m : MethodId} {args : Array Value} {below : List Frame} {meth : Method} {c : Code} {D : va_G} {y : Nat → ClassId} {ad : Nat → Nat} {X : va_W} {A : Nat → Prop} {Q : mS → Prop} (C : mC p s m args meth c cX8_findEquation 8 none wsX8_findEquation D y A) {r274 : Int64 → Int64 → Int32 → mS → Prop} (hr274 : ∀ (x3 : Int64) (x5 : Int64) (x7 : Int32) (σ : mS), r274 x3 x5 x7 σ → ∀ (H : Heap) (locs : List Loc) (ls : Array Slot), mO D y ad X A s.heap H locs σ → lv_has ls 8 [(0, .ref (ad 0)), (3, .long x3), (5, .long x5), (7, .int x7)] → W p l e rX8_findEquation s m args below meth c H locs 0 0 (MQ below (va_Qv Q (mB D y ad X A) A) args s 0 0 A) (F0 m 274 ls [])) (x3 : Int64) (x7 : Int32) (z0 : Int64) (σ : mS) (hw : w_findEquation_312 Q r274 x3 x7 z0 σ) (H : Heap) (locs : List Loc) (ls : Array Slot) (hO : mO D y ad X A s.heap H locs σ) (hl : lv_has ls 8 [(0, .ref (ad 0)), (3, .long x3), (7, .int x7)]) : W p l e rX8_findEquation s m args below meth c H locs 0 0 (MQ below (va_Qv Q (mB D y ad X A) A) args s 0 0 A) (F0 m 312 ls [.long z0]) := by
  obtain ⟨hx, hb, hr, hml, hown, hts, hlk, hK, hA⟩ := id C
  unfold w_findEquation_312 at hw
  refine lv_lstore (lv' := [(5, .long z0), (0, .ref (ad 0)), (3, .long x3), (7, .int x7)]) hx hb dX8_findEquation_312 hl (by decide) rfl (fun ls hl => ?_)
  obtain ⟨x7_101, ex7_101⟩ : ∃ y : Int32, y = x7 + 1 := ⟨_, rfl⟩
  have hw := hw x7_101 ex7_101
  refine lv_iinc (v := x7_101) (lv' := [(7, .int x7_101), (5, .long z0), (0, .ref (ad 0)), (3, .long x3)]) hx hb dX8_findEquation_314 hl (k := 3) rfl (by rw [ex7_101]; rfl) (by decide) rfl (fun ls hl => ?_)
  refine lv_goto (tgt := 274) hx hb dX8_findEquation_317 (by decide) ?_
  exact hr274 x3 z0 x7_101 σ hw H locs ls hO (lv_sub hl [2, 3, 1, 0] rfl)
set_option maxRecDepth 100000 in
set_option maxHeartbeats 4000000 in
theorem k_findEquation_337 {p : Program} {l : Launch} {e : Env} {s : State} {m : MethodId} {args : Array Value} {below : List Frame} {meth : Method} {c : Code} {D : va_G} {y : Nat → ClassId} {ad : Nat → Nat} {X : va_W} {A : Nat → Prop} {Q : mS → Prop} (C : mC p s m args meth c cX8_findEquation 8 none wsX8_findEquation D y A) (n : Nat) : ∀ (x3 : Int64) (x7 : Int32) (σ : mS), w_findEquation_337 Q n x3 x7 σ → ∀ (H : Heap) (locs : List Loc) (ls : Array Slot), mO D y ad X A s.heap H locs σ → lv_has ls 8 [(0, .ref (ad 0)), (3, .long x3), (7, .int x7)] → W p l e rX8_findEquation s m args below meth c H locs 0 0 (MQ below (va_Qv Q (mB D y ad X A) A) args s 0 0 A) (F0 m 337 ls []) := by
  obtain ⟨hx, hb, hr, hml, hown, hts, hlk, hK, hA⟩ := id C
  have hin : ∀ w ∈ wsX80, w ∈ wsX8_findEquation := fun _ h => List.mem_cons_of_mem _ (List.mem_append_right _ h)
  induction n with
  | zero =>
    intro x3 x7 σ hw
    exact (show False from hw).elim
  | succ n ih =>
    intro x3 x7 σ hw H locs ls hO hl
    unfold w_findEquation_337 at hw
    refine lv_iload hx hb dX8_findEquation_337 (lv_at hl 2 rfl) ?_
    refine lv_bipush (v := 10) hx hb dX8_findEquation_339 (by decide) ?_
    refine lv_icmp_ge (tgt := 361) hx hb dX8_findEquation_341 (by decide) (fun hc => ?_) (fun hc => ?_)
    · have hw := hw.1 hc
      exact mx_vret C hO hw dX8_findEquation_361
    · have hw := hw.2 hc
      refine lv_aload_n hx hb dX8_findEquation_344 rfl (lv_at hl 0 rfl) ?_
      refine mx_get C hO hin 11 (by decide) (idx := 39) (by decide +kernel) rfl rfl dX8_findEquation_345 ?_
      refine lv_iload hx hb dX8_findEquation_348 (lv_at hl 2 rfl) ?_
      refine lv_dup2_11 hx hb dX8_findEquation_350 rfl rfl ?_
      refine mx_lald C hO (a := 10) rfl hw.1 dX8_findEquation_351 ?_
      have hw := hw.2
      refine lv_lload_n hx hb dX8_findEquation_352 rfl (lv_at hl 1 rfl) ?_
      refine lv_ldiv hx hb dX8_findEquation_353 hw.1 ?_
      have hw := hw.2
      refine mx_last C hO (a := 10) rfl hw.1 dX8_findEquation_354 (fun H locs σ101 eσ101 hO => ?_)
      have hw := hw.2 σ101 eσ101
      obtain ⟨x7_102, ex7_102⟩ : ∃ y : Int32, y = x7 + 1 := ⟨_, rfl⟩
      have hw := hw x7_102 ex7_102
      refine lv_iinc (v := x7_102) (lv' := [(7, .int x7_102), (0, .ref (ad 0)), (3, .long x3)]) hx hb dX8_findEquation_355 hl (k := 2) rfl (by rw [ex7_102]; rfl) (by decide) rfl (fun ls hl => ?_)
      refine lv_goto (tgt := 337) hx hb dX8_findEquation_358 (by decide) ?_
      exact ih x3 x7_102 σ101 hw H locs ls hO (lv_sub hl [1, 2, 0] rfl)
set_option maxRecDepth 100000 in
set_option maxHeartbeats 4000000 in
theorem k_findEquation_333 {p : Program} {l : Launch} {e : Env} {s : State} {m : MethodId} {args : Array Value} {below : List Frame} {meth : Method} {c : Code} {D : va_G} {y : Nat → ClassId} {ad : Nat → Nat} {X : va_W} {A : Nat → Prop} {Q : mS → Prop} (C : mC p s m args meth c cX8_findEquation 8 none wsX8_findEquation D y A) (z0 : Int64) (σ : mS) (hw : w_findEquation_333 Q z0 σ) (H : Heap) (locs : List Loc) (ls : Array Slot) (hO : mO D y ad X A s.heap H locs σ) (hl : lv_has ls 8 [(0, .ref (ad 0))]) : W p l e rX8_findEquation s m args below meth c H locs 0 0 (MQ below (va_Qv Q (mB D y ad X A) A) args s 0 0 A) (F0 m 333 ls [.long z0]) := by
  obtain ⟨hx, hb, hr, hml, hown, hts, hlk, hK, hA⟩ := id C
  unfold w_findEquation_333 at hw
  refine lv_lstore_n (lv' := [(3, .long z0), (0, .ref (ad 0))]) hx hb dX8_findEquation_333 rfl hl (by decide) rfl (fun ls hl => ?_)
  refine lv_iconst (v := 0) hx hb dX8_findEquation_334 (by decide) ?_
  refine lv_istore (lv' := [(7, .int ((0 : Int32))), (3, .long z0), (0, .ref (ad 0))]) hx hb dX8_findEquation_335 hl (by decide) rfl (fun ls hl => ?_)
  exact k_findEquation_337 C fuL z0 ((0 : Int32)) σ hw H locs ls hO (lv_sub hl [2, 1, 0] rfl)
set_option maxRecDepth 100000 in
set_option maxHeartbeats 4000000 in
theorem k_findEquation_274 {p : Program} {l : Launch} {e : Env} {s : State} {m : MethodId} {args : Array Value} {below : List Frame} {meth : Method} {c : Code} {D : va_G} {y : Nat → ClassId} {ad : Nat → Nat} {X : va_W} {A : Nat → Prop} {Q : mS → Prop} (C : mC p s m args meth c cX8_findEquation 8 none wsX8_findEquation D y A) (n : Nat) : ∀ (x3 : Int64) (x5 : Int64) (x7 : Int32) (σ : mS), w_findEquation_274 Q n x3 x5 x7 σ → ∀ (H : Heap) (locs : List Loc) (ls : Array Slot), mO D y ad X A s.heap H locs σ → lv_has ls 8 [(0, .ref (ad 0)), (3, .long x3), (5, .long x5), (7, .int x7)] → W p l e rX8_findEquation s m args below meth c H locs 0 0 (MQ below (va_Qv Q (mB D y ad X A) A) args s 0 0 A) (F0 m 274 ls []) := by
  obtain ⟨hx, hb, hr, hml, hown, hts, hlk, hK, hA⟩ := id C
  have hin : ∀ w ∈ wsX80, w ∈ wsX8_findEquation := fun _ h => List.mem_cons_of_mem _ (List.mem_append_right _ h)
  induction n with
  | zero =>
    intro x3 x5 x7 σ hw
    exact (show False from hw).elim
  | succ n ih =>
    intro x3 x5 x7 σ hw H locs ls hO hl
    unfold w_findEquation_274 at hw
    refine lv_iload hx hb dX8_findEquation_274 (lv_at hl 3 rfl) ?_
    refine lv_bipush (v := 10) hx hb dX8_findEquation_276 (by decide) ?_
    refine lv_icmp_ge (tgt := 320) hx hb dX8_findEquation_278 (by decide) (fun hc => ?_) (fun hc => ?_)
    · have hw := hw.1 hc
      refine lv_lload hx hb dX8_findEquation_320 (lv_at hl 2 rfl) ?_
      refine lv_lconst (v := 0) hx hb dX8_findEquation_322 (by decide) ?_
      refine W.lcmp hx hb dX8_findEquation_323 ?_
      refine lv_if_ge (tgt := 332) hx hb dX8_findEquation_324 (by decide) (fun hc => ?_) (fun hc => ?_)
      · have hc := (lg_cmp_ge _ _).mp hc
        have hw := hw.1 hc
        refine lv_lload_n hx hb dX8_findEquation_332 rfl (lv_at hl 1 rfl) ?_
        exact k_findEquation_333 C x3 σ hw H locs ls hO (lv_sub hl [0] rfl)
      · have hc := (not_congr (lg_cmp_ge _ _)).mp hc
        have hw := hw.2 hc
        refine lv_lload_n hx hb dX8_findEquation_327 rfl (lv_at hl 1 rfl) ?_
        refine lv_lneg hx hb dX8_findEquation_328 ?_
        refine lv_goto (tgt := 333) hx hb dX8_findEquation_329 (by decide) ?_
        exact k_findEquation_333 C (-x3) σ hw H locs ls hO (lv_sub hl [0] rfl)
    · have hw := hw.2 hc
      refine lv_lload_n hx hb dX8_findEquation_281 rfl (lv_at hl 1 rfl) ?_
      refine lv_aload_n hx hb dX8_findEquation_282 rfl (lv_at hl 0 rfl) ?_
      refine mx_get C hO hin 11 (by decide) (idx := 39) (by decide +kernel) rfl rfl dX8_findEquation_283 ?_
      refine lv_iload hx hb dX8_findEquation_286 (lv_at hl 3 rfl) ?_
      refine mx_lald C hO (a := 10) rfl hw.1 dX8_findEquation_288 ?_
      have hw := hw.2
      refine mx_cls C hO (c_common l D y ad X σ x3 (σ.1 10 (x7).toNatClampNeg) _ hw) (va_cwS 2 hts gX8_findEquation_X8_common rfl rfl rfl (by decide +kernel) ⟨Nat.le_of_ble_eq_true rfl, Nat.le_of_ble_eq_true rfl⟩) rfl hl.1 rfl (lv_room (Nat.le_of_ble_eq_true rfl)) dX8_findEquation_289 (fun u101 σ102 H locs hw hO => ?_)
      refine lv_lstore_n (lv' := [(3, .long u101), (0, .ref (ad 0)), (5, .long x5), (7, .int x7)]) hx hb dX8_findEquation_292 rfl hl (by decide) rfl (fun ls hl => ?_)
      refine lv_lload hx hb dX8_findEquation_293 (lv_at hl 2 rfl) ?_
      refine lv_lconst (v := 0) hx hb dX8_findEquation_295 (by decide) ?_
      refine W.lcmp hx hb dX8_findEquation_296 ?_
      refine lv_if_ne (tgt := 310) hx hb dX8_findEquation_297 (by decide) (fun hc => ?_) (fun hc => ?_)
      · have hc := (not_congr (lg_cmp_eq _ _)).mp hc
        have hw := hw.1 hc
        refine lv_lload hx hb dX8_findEquation_310 (lv_at hl 2 rfl) ?_
        exact k_findEquation_312 C (fun x3 x5 x7 σ hw H locs ls hO hl => ih x3 x5 x7 σ hw H locs ls hO hl) u101 x7 x5 σ102 hw H locs ls hO (lv_sub hl [1, 0, 3] rfl)
      · have hc := (lg_cmp_eq _ _).mp hc
        have hw := hw.2 hc
        refine lv_aload_n hx hb dX8_findEquation_300 rfl (lv_at hl 1 rfl) ?_
        refine mx_get C hO hin 11 (by decide) (idx := 39) (by decide +kernel) rfl rfl dX8_findEquation_301 ?_
        refine lv_iload hx hb dX8_findEquation_304 (lv_at hl 3 rfl) ?_
        refine mx_lald C hO (a := 10) rfl hw.1 dX8_findEquation_306 ?_
        have hw := hw.2
        refine lv_goto (tgt := 312) hx hb dX8_findEquation_307 (by decide) ?_
        exact k_findEquation_312 C (fun x3 x5 x7 σ hw H locs ls hO hl => ih x3 x5 x7 σ hw H locs ls hO hl) u101 x7 (σ102.1 10 (x7).toNatClampNeg) σ102 hw H locs ls hO (lv_sub hl [1, 0, 3] rfl)
set_option maxRecDepth 100000 in
set_option maxHeartbeats 4000000 in
theorem k_findEquation_266 {p : Program} {l : Launch} {e : Env} {s : State} {m : MethodId} {args : Array Value} {below : List Frame} {meth : Method} {c : Code} {D : va_G} {y : Nat → ClassId} {ad : Nat → Nat} {X : va_W} {A : Nat → Prop} {Q : mS → Prop} (C : mC p s m args meth c cX8_findEquation 8 none wsX8_findEquation D y A)  (σ : mS) (hw : w_findEquation_266 Q σ) (H : Heap) (locs : List Loc) (ls : Array Slot) (hO : mO D y ad X A s.heap H locs σ) (hl : lv_has ls 8 [(0, .ref (ad 0))]) : W p l e rX8_findEquation s m args below meth c H locs 0 0 (MQ below (va_Qv Q (mB D y ad X A) A) args s 0 0 A) (F0 m 266 ls []) := by
  obtain ⟨hx, hb, hr, hml, hown, hts, hlk, hK, hA⟩ := id C
  unfold w_findEquation_266 at hw
  refine lv_lconst (v := 0) hx hb dX8_findEquation_266 (by decide) ?_
  refine lv_lstore_n (lv' := [(3, .long ((0 : Int64))), (0, .ref (ad 0))]) hx hb dX8_findEquation_267 rfl hl (by decide) rfl (fun ls hl => ?_)
  refine lv_lconst (v := 0) hx hb dX8_findEquation_268 (by decide) ?_
  refine lv_lstore (lv' := [(5, .long ((0 : Int64))), (3, .long ((0 : Int64))), (0, .ref (ad 0))]) hx hb dX8_findEquation_269 hl (by decide) rfl (fun ls hl => ?_)
  refine lv_iconst (v := 0) hx hb dX8_findEquation_271 (by decide) ?_
  refine lv_istore (lv' := [(7, .int ((0 : Int32))), (5, .long ((0 : Int64))), (3, .long ((0 : Int64))), (0, .ref (ad 0))]) hx hb dX8_findEquation_272 hl (by decide) rfl (fun ls hl => ?_)
  exact k_findEquation_274 C fuL ((0 : Int64)) ((0 : Int64)) ((0 : Int32)) σ hw H locs ls hO (lv_sub hl [3, 2, 1, 0] rfl)
set_option maxRecDepth 100000 in
set_option maxHeartbeats 4000000 in
theorem k_findEquation_23 {p : Program} {l : Launch} {e : Env} {s : State} {m : MethodId} {args : Array Value} {below : List Frame} {meth : Method} {c : Code} {D : va_G} {y : Nat → ClassId} {ad : Nat → Nat} {X : va_W} {A : Nat → Prop} {Q : mS → Prop} (C : mC p s m args meth c cX8_findEquation 8 none wsX8_findEquation D y A) (n : Nat) : ∀ (x1 : Int32) (x2 : Int32) (σ : mS), w_findEquation_23 Q n x1 x2 σ → ∀ (H : Heap) (locs : List Loc) (ls : Array Slot), mO D y ad X A s.heap H locs σ → lv_has ls 8 [(0, .ref (ad 0)), (1, .int x1), (2, .int x2)] → W p l e rX8_findEquation s m args below meth c H locs 0 0 (MQ below (va_Qv Q (mB D y ad X A) A) args s 0 0 A) (F0 m 23 ls []) := by
  obtain ⟨hx, hb, hr, hml, hown, hts, hlk, hK, hA⟩ := id C
  have hin : ∀ w ∈ wsX80, w ∈ wsX8_findEquation := fun _ h => List.mem_cons_of_mem _ (List.mem_append_right _ h)
  induction n with
  | zero =>
    intro x1 x2 σ hw
    exact (show False from hw).elim
  | succ n ih =>
    intro x1 x2 σ hw H locs ls hO hl
    unfold w_findEquation_23 at hw
    refine lv_iload_n hx hb dX8_findEquation_23 rfl (lv_at hl 2 rfl) ?_
    refine lv_bipush (v := 27) hx hb dX8_findEquation_24 (by decide) ?_
    refine lv_icmp_ge (tgt := 42) hx hb dX8_findEquation_26 (by decide) (fun hc => ?_) (fun hc => ?_)
    · have hw := hw.1 hc
      refine lv_aload_n hx hb dX8_findEquation_42 rfl (lv_at hl 0 rfl) ?_
      refine lv_iload_n hx hb dX8_findEquation_43 rfl (lv_at hl 1 rfl) ?_
      refine mx_civ C hO (c_kindOf l D y ad X σ x1 _ hw) (cwV 1 hts gX8_findEquation_X8_kindOf rfl rfl rfl (by decide +kernel) ⟨Nat.le_of_ble_eq_true rfl, Nat.le_of_ble_eq_true rfl⟩) rfl hl.1 rfl (lv_room (Nat.le_of_ble_eq_true rfl)) dX8_findEquation_44 (fun u101 σ102 H locs hw hO => ?_)
      refine lv_istore_n (lv' := [(2, .int u101), (0, .ref (ad 0)), (1, .int x1)]) hx hb dX8_findEquation_47 rfl hl (by decide) rfl (fun ls hl => ?_)
      refine lv_iload_n hx hb dX8_findEquation_48 rfl (lv_at hl 0 rfl) ?_
      refine lv_iconst (v := 1) hx hb dX8_findEquation_49 (by decide) ?_
      refine lv_icmp_ne (tgt := 95) hx hb dX8_findEquation_50 (by decide) (fun hc => ?_) (fun hc => ?_)
      · have hw := hw.1 hc
        refine lv_iload_n hx hb dX8_findEquation_95 rfl (lv_at hl 0 rfl) ?_
        refine lv_iconst (v := 2) hx hb dX8_findEquation_96 (by decide) ?_
        refine lv_icmp_ne (tgt := 147) hx hb dX8_findEquation_97 (by decide) (fun hc => ?_) (fun hc => ?_)
        · have hw := hw.1 hc
          refine lv_aload_n hx hb dX8_findEquation_147 rfl (lv_at hl 1 rfl) ?_
          refine lv_iload_n hx hb dX8_findEquation_148 rfl (lv_at hl 2 rfl) ?_
          refine lv_iconst (v := 0) hx hb dX8_findEquation_149 (by decide) ?_
          refine lv_iconst (v := 1) hx hb dX8_findEquation_150 (by decide) ?_
          refine lv_iconst (v := 0) hx hb dX8_findEquation_151 (by decide) ?_
          refine mx_cvv C hO (c_addPair l D y ad X σ102 x1 ((0 : Int32)) ((1 : Int32)) ((0 : Int32)) _ hw) (cwV 4 hts gX8_findEquation_X8_addPair rfl rfl rfl (by decide +kernel) ⟨Nat.le_of_ble_eq_true rfl, Nat.le_of_ble_eq_true rfl⟩) rfl hl.1 rfl (lv_room (Nat.le_of_ble_eq_true rfl)) dX8_findEquation_152 (fun σ104 H locs hw hO => ?_)
          refine lv_aload_n hx hb dX8_findEquation_155 rfl (lv_at hl 1 rfl) ?_
          refine lv_iload_n hx hb dX8_findEquation_156 rfl (lv_at hl 2 rfl) ?_
          refine lv_iconst (v := 3) hx hb dX8_findEquation_157 (by decide) ?_
          refine lv_iconst (v := 2) hx hb dX8_findEquation_158 (by decide) ?_
          refine lv_iconst (v := 0) hx hb dX8_findEquation_159 (by decide) ?_
          refine mx_cvv C hO (c_addPair l D y ad X σ104 x1 ((3 : Int32)) ((2 : Int32)) ((0 : Int32)) _ hw) (cwV 4 hts gX8_findEquation_X8_addPair rfl rfl rfl (by decide +kernel) ⟨Nat.le_of_ble_eq_true rfl, Nat.le_of_ble_eq_true rfl⟩) rfl hl.1 rfl (lv_room (Nat.le_of_ble_eq_true rfl)) dX8_findEquation_160 (fun σ106 H locs hw hO => ?_)
          refine lv_aload_n hx hb dX8_findEquation_163 rfl (lv_at hl 1 rfl) ?_
          refine lv_iload_n hx hb dX8_findEquation_164 rfl (lv_at hl 2 rfl) ?_
          refine lv_bipush (v := 6) hx hb dX8_findEquation_165 (by decide) ?_
          refine lv_iconst (v := 3) hx hb dX8_findEquation_167 (by decide) ?_
          refine lv_iconst (v := 0) hx hb dX8_findEquation_168 (by decide) ?_
          refine mx_cvv C hO (c_addPair l D y ad X σ106 x1 ((6 : Int32)) ((3 : Int32)) ((0 : Int32)) _ hw) (cwV 4 hts gX8_findEquation_X8_addPair rfl rfl rfl (by decide +kernel) ⟨Nat.le_of_ble_eq_true rfl, Nat.le_of_ble_eq_true rfl⟩) rfl hl.1 rfl (lv_room (Nat.le_of_ble_eq_true rfl)) dX8_findEquation_169 (fun σ108 H locs hw hO => ?_)
          refine lv_aload_n hx hb dX8_findEquation_172 rfl (lv_at hl 1 rfl) ?_
          refine lv_iload_n hx hb dX8_findEquation_173 rfl (lv_at hl 2 rfl) ?_
          refine lv_bipush (v := 9) hx hb dX8_findEquation_174 (by decide) ?_
          refine lv_iconst (v := 3) hx hb dX8_findEquation_176 (by decide) ?_
          refine lv_iconst (v := 0) hx hb dX8_findEquation_177 (by decide) ?_
          refine mx_cvv C hO (c_addPair l D y ad X σ108 x1 ((9 : Int32)) ((3 : Int32)) ((0 : Int32)) _ hw) (cwV 4 hts gX8_findEquation_X8_addPair rfl rfl rfl (by decide +kernel) ⟨Nat.le_of_ble_eq_true rfl, Nat.le_of_ble_eq_true rfl⟩) rfl hl.1 rfl (lv_room (Nat.le_of_ble_eq_true rfl)) dX8_findEquation_178 (fun σ110 H locs hw hO => ?_)
          refine lv_aload_n hx hb dX8_findEquation_181 rfl (lv_at hl 1 rfl) ?_
          refine lv_iload_n hx hb dX8_findEquation_182 rfl (lv_at hl 2 rfl) ?_
          refine lv_bipush (v := 9) hx hb dX8_findEquation_183 (by decide) ?_
          refine lv_iconst (v := 2) hx hb dX8_findEquation_185 (by decide) ?_
          refine lv_iconst (v := 1) hx hb dX8_findEquation_186 (by decide) ?_
          refine mx_cvv C hO (c_addPair l D y ad X σ110 x1 ((9 : Int32)) ((2 : Int32)) ((1 : Int32)) _ hw) (cwV 4 hts gX8_findEquation_X8_addPair rfl rfl rfl (by decide +kernel) ⟨Nat.le_of_ble_eq_true rfl, Nat.le_of_ble_eq_true rfl⟩) rfl hl.1 rfl (lv_room (Nat.le_of_ble_eq_true rfl)) dX8_findEquation_187 (fun σ112 H locs hw hO => ?_)
          refine lv_aload_n hx hb dX8_findEquation_190 rfl (lv_at hl 1 rfl) ?_
          refine lv_iload_n hx hb dX8_findEquation_191 rfl (lv_at hl 2 rfl) ?_
          refine lv_bipush (v := 12) hx hb dX8_findEquation_192 (by decide) ?_
          refine lv_iconst (v := 3) hx hb dX8_findEquation_194 (by decide) ?_
          refine lv_iconst (v := 1) hx hb dX8_findEquation_195 (by decide) ?_
          refine mx_cvv C hO (c_addPair l D y ad X σ112 x1 ((12 : Int32)) ((3 : Int32)) ((1 : Int32)) _ hw) (cwV 4 hts gX8_findEquation_X8_addPair rfl rfl rfl (by decide +kernel) ⟨Nat.le_of_ble_eq_true rfl, Nat.le_of_ble_eq_true rfl⟩) rfl hl.1 rfl (lv_room (Nat.le_of_ble_eq_true rfl)) dX8_findEquation_196 (fun σ114 H locs hw hO => ?_)
          refine lv_aload_n hx hb dX8_findEquation_199 rfl (lv_at hl 1 rfl) ?_
          refine lv_iload_n hx hb dX8_findEquation_200 rfl (lv_at hl 2 rfl) ?_
          refine lv_bipush (v := 15) hx hb dX8_findEquation_201 (by decide) ?_
          refine lv_iconst (v := 3) hx hb dX8_findEquation_203 (by decide) ?_
          refine lv_iconst (v := 2) hx hb dX8_findEquation_204 (by decide) ?_
          refine mx_cvv C hO (c_addPair l D y ad X σ114 x1 ((15 : Int32)) ((3 : Int32)) ((2 : Int32)) _ hw) (cwV 4 hts gX8_findEquation_X8_addPair rfl rfl rfl (by decide +kernel) ⟨Nat.le_of_ble_eq_true rfl, Nat.le_of_ble_eq_true rfl⟩) rfl hl.1 rfl (lv_room (Nat.le_of_ble_eq_true rfl)) dX8_findEquation_205 (fun σ116 H locs hw hO => ?_)
          refine lv_aload_n hx hb dX8_findEquation_208 rfl (lv_at hl 1 rfl) ?_
          refine lv_iconst (v := 0) hx hb dX8_findEquation_209 (by decide) ?_
          refine lv_bipush (v := 9) hx hb dX8_findEquation_210 (by decide) ?_
          refine lv_bipush (v := 15) hx hb dX8_findEquation_212 (by decide) ?_
          refine lv_lconst (v := 1) hx hb dX8_findEquation_214 (by decide) ?_
          refine mx_cvv C hO (c_addProduct l D y ad X σ116 ((0 : Int32)) ((9 : Int32)) ((15 : Int32)) ((1 : Int64)) _ hw) (cwV 4 hts gX8_findEquation_X8_addProduct rfl rfl rfl (by decide +kernel) ⟨Nat.le_of_ble_eq_true rfl, Nat.le_of_ble_eq_true rfl⟩) rfl hl.1 rfl (lv_room (Nat.le_of_ble_eq_true rfl)) dX8_findEquation_215 (fun σ118 H locs hw hO => ?_)
          refine lv_aload_n hx hb dX8_findEquation_218 rfl (lv_at hl 1 rfl) ?_
          refine lv_iconst (v := 3) hx hb dX8_findEquation_219 (by decide) ?_
          refine lv_bipush (v := 12) hx hb dX8_findEquation_220 (by decide) ?_
          refine lv_bipush (v := 6) hx hb dX8_findEquation_222 (by decide) ?_
          refine lv_ldc2 (v := 2) hx hb hown (hts (.constantLong RX8 166 (2)) (by decide +kernel)) dX8_findEquation_224 ?_
          refine mx_cvv C hO (c_addProduct l D y ad X σ118 ((3 : Int32)) ((12 : Int32)) ((6 : Int32)) ((2 : Int64)) _ hw) (cwV 4 hts gX8_findEquation_X8_addProduct rfl rfl rfl (by decide +kernel) ⟨Nat.le_of_ble_eq_true rfl, Nat.le_of_ble_eq_true rfl⟩) rfl hl.1 rfl (lv_room (Nat.le_of_ble_eq_true rfl)) dX8_findEquation_227 (fun σ120 H locs hw hO => ?_)
          refine lv_aload_n hx hb dX8_findEquation_230 rfl (lv_at hl 1 rfl) ?_
          refine lv_bipush (v := 6) hx hb dX8_findEquation_231 (by decide) ?_
          refine lv_bipush (v := 9) hx hb dX8_findEquation_233 (by decide) ?_
          refine lv_bipush (v := 6) hx hb dX8_findEquation_235 (by decide) ?_
          refine lv_ldc2 (v := -1) hx hb hown (hts (.constantLong RX8 195 (-1)) (by decide +kernel)) dX8_findEquation_237 ?_
          refine mx_cvv C hO (c_addProduct l D y ad X σ120 ((6 : Int32)) ((9 : Int32)) ((6 : Int32)) ((-1 : Int64)) _ hw) (cwV 4 hts gX8_findEquation_X8_addProduct rfl rfl rfl (by decide +kernel) ⟨Nat.le_of_ble_eq_true rfl, Nat.le_of_ble_eq_true rfl⟩) rfl hl.1 rfl (lv_room (Nat.le_of_ble_eq_true rfl)) dX8_findEquation_240 (fun σ122 H locs hw hO => ?_)
          refine lv_aload_n hx hb dX8_findEquation_243 rfl (lv_at hl 1 rfl) ?_
          refine lv_iconst (v := 0) hx hb dX8_findEquation_244 (by decide) ?_
          refine lv_bipush (v := 12) hx hb dX8_findEquation_245 (by decide) ?_
          refine lv_bipush (v := 12) hx hb dX8_findEquation_247 (by decide) ?_
          refine lv_ldc2 (v := -1) hx hb hown (hts (.constantLong RX8 195 (-1)) (by decide +kernel)) dX8_findEquation_249 ?_
          refine mx_cvv C hO (c_addProduct l D y ad X σ122 ((0 : Int32)) ((12 : Int32)) ((12 : Int32)) ((-1 : Int64)) _ hw) (cwV 4 hts gX8_findEquation_X8_addProduct rfl rfl rfl (by decide +kernel) ⟨Nat.le_of_ble_eq_true rfl, Nat.le_of_ble_eq_true rfl⟩) rfl hl.1 rfl (lv_room (Nat.le_of_ble_eq_true rfl)) dX8_findEquation_252 (fun σ124 H locs hw hO => ?_)
          refine lv_aload_n hx hb dX8_findEquation_255 rfl (lv_at hl 1 rfl) ?_
          refine lv_iconst (v := 3) hx hb dX8_findEquation_256 (by decide) ?_
          refine lv_iconst (v := 3) hx hb dX8_findEquation_257 (by decide) ?_
          refine lv_bipush (v := 15) hx hb dX8_findEquation_258 (by decide) ?_
          refine lv_ldc2 (v := -1) hx hb hown (hts (.constantLong RX8 195 (-1)) (by decide +kernel)) dX8_findEquation_260 ?_
          refine mx_cvv C hO (c_addProduct l D y ad X σ124 ((3 : Int32)) ((3 : Int32)) ((15 : Int32)) ((-1 : Int64)) _ hw) (cwV 4 hts gX8_findEquation_X8_addProduct rfl rfl rfl (by decide +kernel) ⟨Nat.le_of_ble_eq_true rfl, Nat.le_of_ble_eq_true rfl⟩) rfl hl.1 rfl (lv_room (Nat.le_of_ble_eq_true rfl)) dX8_findEquation_263 (fun σ126 H locs hw hO => ?_)
          exact k_findEquation_266 C σ126 hw H locs ls hO (lv_sub hl [1] rfl)
        · have hw := hw.2 hc
          refine lv_aload_n hx hb dX8_findEquation_100 rfl (lv_at hl 1 rfl) ?_
          refine lv_iload_n hx hb dX8_findEquation_101 rfl (lv_at hl 2 rfl) ?_
          refine lv_iconst (v := 0) hx hb dX8_findEquation_102 (by decide) ?_
          refine lv_iconst (v := 1) hx hb dX8_findEquation_103 (by decide) ?_
          refine lv_iconst (v := 0) hx hb dX8_findEquation_104 (by decide) ?_
          refine mx_cvv C hO (c_addPair l D y ad X σ102 x1 ((0 : Int32)) ((1 : Int32)) ((0 : Int32)) _ hw) (cwV 4 hts gX8_findEquation_X8_addPair rfl rfl rfl (by decide +kernel) ⟨Nat.le_of_ble_eq_true rfl, Nat.le_of_ble_eq_true rfl⟩) rfl hl.1 rfl (lv_room (Nat.le_of_ble_eq_true rfl)) dX8_findEquation_105 (fun σ128 H locs hw hO => ?_)
          refine lv_aload_n hx hb dX8_findEquation_108 rfl (lv_at hl 1 rfl) ?_
          refine lv_iload_n hx hb dX8_findEquation_109 rfl (lv_at hl 2 rfl) ?_
          refine lv_iconst (v := 3) hx hb dX8_findEquation_110 (by decide) ?_
          refine lv_iconst (v := 2) hx hb dX8_findEquation_111 (by decide) ?_
          refine lv_iconst (v := 0) hx hb dX8_findEquation_112 (by decide) ?_
          refine mx_cvv C hO (c_addPair l D y ad X σ128 x1 ((3 : Int32)) ((2 : Int32)) ((0 : Int32)) _ hw) (cwV 4 hts gX8_findEquation_X8_addPair rfl rfl rfl (by decide +kernel) ⟨Nat.le_of_ble_eq_true rfl, Nat.le_of_ble_eq_true rfl⟩) rfl hl.1 rfl (lv_room (Nat.le_of_ble_eq_true rfl)) dX8_findEquation_113 (fun σ130 H locs hw hO => ?_)
          refine lv_aload_n hx hb dX8_findEquation_116 rfl (lv_at hl 1 rfl) ?_
          refine lv_iload_n hx hb dX8_findEquation_117 rfl (lv_at hl 2 rfl) ?_
          refine lv_bipush (v := 6) hx hb dX8_findEquation_118 (by decide) ?_
          refine lv_iconst (v := 2) hx hb dX8_findEquation_120 (by decide) ?_
          refine lv_iconst (v := 1) hx hb dX8_findEquation_121 (by decide) ?_
          refine mx_cvv C hO (c_addPair l D y ad X σ130 x1 ((6 : Int32)) ((2 : Int32)) ((1 : Int32)) _ hw) (cwV 4 hts gX8_findEquation_X8_addPair rfl rfl rfl (by decide +kernel) ⟨Nat.le_of_ble_eq_true rfl, Nat.le_of_ble_eq_true rfl⟩) rfl hl.1 rfl (lv_room (Nat.le_of_ble_eq_true rfl)) dX8_findEquation_122 (fun σ132 H locs hw hO => ?_)
          refine lv_aload_n hx hb dX8_findEquation_125 rfl (lv_at hl 1 rfl) ?_
          refine lv_iconst (v := 0) hx hb dX8_findEquation_126 (by decide) ?_
          refine lv_bipush (v := 6) hx hb dX8_findEquation_127 (by decide) ?_
          refine lv_iconst (v := -1) hx hb dX8_findEquation_129 (by decide) ?_
          refine lv_lconst (v := 1) hx hb dX8_findEquation_130 (by decide) ?_
          refine mx_cvv C hO (c_addProduct l D y ad X σ132 ((0 : Int32)) ((6 : Int32)) ((-1 : Int32)) ((1 : Int64)) _ hw) (cwV 4 hts gX8_findEquation_X8_addProduct rfl rfl rfl (by decide +kernel) ⟨Nat.le_of_ble_eq_true rfl, Nat.le_of_ble_eq_true rfl⟩) rfl hl.1 rfl (lv_room (Nat.le_of_ble_eq_true rfl)) dX8_findEquation_131 (fun σ134 H locs hw hO => ?_)
          refine lv_aload_n hx hb dX8_findEquation_134 rfl (lv_at hl 1 rfl) ?_
          refine lv_iconst (v := 3) hx hb dX8_findEquation_135 (by decide) ?_
          refine lv_iconst (v := 3) hx hb dX8_findEquation_136 (by decide) ?_
          refine lv_iconst (v := -1) hx hb dX8_findEquation_137 (by decide) ?_
          refine lv_ldc2 (v := -1) hx hb hown (hts (.constantLong RX8 195 (-1)) (by decide +kernel)) dX8_findEquation_138 ?_
          refine mx_cvv C hO (c_addProduct l D y ad X σ134 ((3 : Int32)) ((3 : Int32)) ((-1 : Int32)) ((-1 : Int64)) _ hw) (cwV 4 hts gX8_findEquation_X8_addProduct rfl rfl rfl (by decide +kernel) ⟨Nat.le_of_ble_eq_true rfl, Nat.le_of_ble_eq_true rfl⟩) rfl hl.1 rfl (lv_room (Nat.le_of_ble_eq_true rfl)) dX8_findEquation_141 (fun σ136 H locs hw hO => ?_)
          refine lv_goto (tgt := 266) hx hb dX8_findEquation_144 (by decide) ?_
          exact k_findEquation_266 C σ136 hw H locs ls hO (lv_sub hl [1] rfl)
      · have hw := hw.2 hc
        refine lv_aload_n hx hb dX8_findEquation_53 rfl (lv_at hl 1 rfl) ?_
        refine mx_get C hO hin 11 (by decide) (idx := 39) (by decide +kernel) rfl rfl dX8_findEquation_54 ?_
        refine lv_bipush (v := 7) hx hb dX8_findEquation_57 (by decide) ?_
        refine lv_aload_n hx hb dX8_findEquation_59 rfl (lv_at hl 1 rfl) ?_
        refine mx_get C hO hin 5 (by decide) (idx := 26) (by decide +kernel) rfl rfl dX8_findEquation_60 ?_
        refine lv_iconst (v := 0) hx hb dX8_findEquation_63 (by decide) ?_
        refine mx_lald C hO (a := 6) rfl hw.1 dX8_findEquation_64 ?_
        have hw := hw.2
        refine mx_last C hO (a := 10) rfl hw.1 dX8_findEquation_65 (fun H locs σ137 eσ137 hO => ?_)
        have hw := hw.2 σ137 eσ137
        refine lv_aload_n hx hb dX8_findEquation_66 rfl (lv_at hl 1 rfl) ?_
        refine mx_get C hO hin 11 (by decide) (idx := 39) (by decide +kernel) rfl rfl dX8_findEquation_67 ?_
        refine lv_bipush (v := 8) hx hb dX8_findEquation_70 (by decide) ?_
        refine lv_aload_n hx hb dX8_findEquation_72 rfl (lv_at hl 1 rfl) ?_
        refine mx_get C hO hin 5 (by decide) (idx := 26) (by decide +kernel) rfl rfl dX8_findEquation_73 ?_
        refine lv_iconst (v := 1) hx hb dX8_findEquation_76 (by decide) ?_
        refine mx_lald C hO (a := 6) rfl hw.1 dX8_findEquation_77 ?_
        have hw := hw.2
        refine mx_last C hO (a := 10) rfl hw.1 dX8_findEquation_78 (fun H locs σ138 eσ138 hO => ?_)
        have hw := hw.2 σ138 eσ138
        refine lv_aload_n hx hb dX8_findEquation_79 rfl (lv_at hl 1 rfl) ?_
        refine mx_get C hO hin 11 (by decide) (idx := 39) (by decide +kernel) rfl rfl dX8_findEquation_80 ?_
        refine lv_bipush (v := 9) hx hb dX8_findEquation_83 (by decide) ?_
        refine lv_aload_n hx hb dX8_findEquation_85 rfl (lv_at hl 1 rfl) ?_
        refine mx_get C hO hin 5 (by decide) (idx := 26) (by decide +kernel) rfl rfl dX8_findEquation_86 ?_
        refine lv_iconst (v := 2) hx hb dX8_findEquation_89 (by decide) ?_
        refine mx_lald C hO (a := 6) rfl hw.1 dX8_findEquation_90 ?_
        have hw := hw.2
        refine mx_last C hO (a := 10) rfl hw.1 dX8_findEquation_91 (fun H locs σ139 eσ139 hO => ?_)
        have hw := hw.2 σ139 eσ139
        refine lv_goto (tgt := 266) hx hb dX8_findEquation_92 (by decide) ?_
        exact k_findEquation_266 C σ139 hw H locs ls hO (lv_sub hl [1] rfl)
    · have hw := hw.2 hc
      refine lv_aload_n hx hb dX8_findEquation_29 rfl (lv_at hl 0 rfl) ?_
      refine mx_get C hO hin 10 (by decide) (idx := 36) (by decide +kernel) rfl rfl dX8_findEquation_30 ?_
      refine lv_iload_n hx hb dX8_findEquation_33 rfl (lv_at hl 2 rfl) ?_
      refine lv_lconst (v := 0) hx hb dX8_findEquation_34 (by decide) ?_
      refine mx_last C hO (a := 9) rfl hw.1 dX8_findEquation_35 (fun H locs σ140 eσ140 hO => ?_)
      have hw := hw.2 σ140 eσ140
      obtain ⟨x2_141, ex2_141⟩ : ∃ y : Int32, y = x2 + 1 := ⟨_, rfl⟩
      have hw := hw x2_141 ex2_141
      refine lv_iinc (v := x2_141) (lv' := [(2, .int x2_141), (0, .ref (ad 0)), (1, .int x1)]) hx hb dX8_findEquation_36 hl (k := 2) rfl (by rw [ex2_141]; rfl) (by decide) rfl (fun ls hl => ?_)
      refine lv_goto (tgt := 23) hx hb dX8_findEquation_39 (by decide) ?_
      exact ih x1 x2_141 σ140 hw H locs ls hO (lv_sub hl [1, 2, 0] rfl)
set_option maxRecDepth 100000 in
set_option maxHeartbeats 4000000 in
theorem k_findEquation_2 {p : Program} {l : Launch} {e : Env} {s : State} {m : MethodId} {args : Array Value} {below : List Frame} {meth : Method} {c : Code} {D : va_G} {y : Nat → ClassId} {ad : Nat → Nat} {X : va_W} {A : Nat → Prop} {Q : mS → Prop} (C : mC p s m args meth c cX8_findEquation 8 none wsX8_findEquation D y A) (n : Nat) : ∀ (x1 : Int32) (x2 : Int32) (σ : mS), w_findEquation_2 Q n x1 x2 σ → ∀ (H : Heap) (locs : List Loc) (ls : Array Slot), mO D y ad X A s.heap H locs σ → lv_has ls 8 [(0, .ref (ad 0)), (1, .int x1), (2, .int x2)] → W p l e rX8_findEquation s m args below meth c H locs 0 0 (MQ below (va_Qv Q (mB D y ad X A) A) args s 0 0 A) (F0 m 2 ls []) := by
  obtain ⟨hx, hb, hr, hml, hown, hts, hlk, hK, hA⟩ := id C
  have hin : ∀ w ∈ wsX80, w ∈ wsX8_findEquation := fun _ h => List.mem_cons_of_mem _ (List.mem_append_right _ h)
  induction n with
  | zero =>
    intro x1 x2 σ hw
    exact (show False from hw).elim
  | succ n ih =>
    intro x1 x2 σ hw H locs ls hO hl
    unfold w_findEquation_2 at hw
    refine lv_iload_n hx hb dX8_findEquation_2 rfl (lv_at hl 2 rfl) ?_
    refine lv_bipush (v := 10) hx hb dX8_findEquation_3 (by decide) ?_
    refine lv_icmp_ge (tgt := 21) hx hb dX8_findEquation_5 (by decide) (fun hc => ?_) (fun hc => ?_)
    · have hw := hw.1 hc
      refine lv_iconst (v := 0) hx hb dX8_findEquation_21 (by decide) ?_
      refine lv_istore_n (lv' := [(2, .int ((0 : Int32))), (0, .ref (ad 0)), (1, .int x1)]) hx hb dX8_findEquation_22 rfl hl (by decide) rfl (fun ls hl => ?_)
      exact k_findEquation_23 C fuL x1 ((0 : Int32)) σ hw H locs ls hO (lv_sub hl [1, 2, 0] rfl)
    · have hw := hw.2 hc
      refine lv_aload_n hx hb dX8_findEquation_8 rfl (lv_at hl 0 rfl) ?_
      refine mx_get C hO hin 11 (by decide) (idx := 39) (by decide +kernel) rfl rfl dX8_findEquation_9 ?_
      refine lv_iload_n hx hb dX8_findEquation_12 rfl (lv_at hl 2 rfl) ?_
      refine lv_lconst (v := 0) hx hb dX8_findEquation_13 (by decide) ?_
      refine mx_last C hO (a := 10) rfl hw.1 dX8_findEquation_14 (fun H locs σ101 eσ101 hO => ?_)
      have hw := hw.2 σ101 eσ101
      obtain ⟨x2_102, ex2_102⟩ : ∃ y : Int32, y = x2 + 1 := ⟨_, rfl⟩
      have hw := hw x2_102 ex2_102
      refine lv_iinc (v := x2_102) (lv' := [(2, .int x2_102), (0, .ref (ad 0)), (1, .int x1)]) hx hb dX8_findEquation_15 hl (k := 2) rfl (by rw [ex2_102]; rfl) (by decide) rfl (fun ls hl => ?_)
      refine lv_goto (tgt := 2) hx hb dX8_findEquation_18 (by decide) ?_
      exact ih x1 x2_102 σ101 hw H locs ls hO (lv_sub hl [1, 2, 0] rfl)
set_option maxRecDepth 100000 in
set_option maxHeartbeats 4000000 in
theorem k_findEquation_e {p : Program} {l : Launch} {e : Env} {s : State} {m : MethodId} {args : Array Value} {below : List Frame} {meth : Method} {c : Code} {D : va_G} {y : Nat → ClassId} {ad : Nat → Nat} {X : va_W} {A : Nat → Prop} {Q : mS → Prop} (C : mC p s m args meth c cX8_findEquation 8 none wsX8_findEquation D y A) (x1 : Int32) (σ : mS) (hw : w_findEquation Q x1 σ) (H : Heap) (locs : List Loc) (ls : Array Slot) (hO : mO D y ad X A s.heap H locs σ) (hl : lv_has ls 8 [(0, .ref (ad 0)), (1, .int x1)]) : W p l e rX8_findEquation s m args below meth c H locs 0 0 (MQ below (va_Qv Q (mB D y ad X A) A) args s 0 0 A) (F0 m 0 ls []) := by
  obtain ⟨hx, hb, hr, hml, hown, hts, hlk, hK, hA⟩ := id C
  unfold w_findEquation at hw
  refine lv_iconst (v := 0) hx hb dX8_findEquation_0 (by decide) ?_
  refine lv_istore_n (lv' := [(2, .int ((0 : Int32))), (0, .ref (ad 0)), (1, .int x1)]) hx hb dX8_findEquation_1 rfl hl (by decide) rfl (fun ls hl => ?_)
  exact k_findEquation_2 C fuL x1 ((0 : Int32)) σ hw H locs ls hO (lv_sub hl [1, 2, 0] rfl)
theorem c_findEquation (l : Launch) (D : va_G) (y : Nat → ClassId) (ad : Nat → Nat) (X : va_W) (σ : mS) (x1 : Int32) (Q : mS → Prop) (hw : w_findEquation Q x1 σ) : ∀ sz, Met l yX8_findEquation wsX8_findEquation rX8_findEquation (va_Pc [.ref (ad 0), .int x1] (mPre D y ad X sz σ)) (va_Qv Q (mB D y ad X (va_A (mW y ad σ ++ X) sz)) (va_A (mW y ad σ ++ X) sz)) 0 0 (va_A (mW y ad σ ++ X) sz) :=
  mMet (Qc := fun A => va_Qv Q (mB D y ad X A) A) rfl (Nat.le_of_ble_eq_true rfl) (fun p e s m args below meth c A ls C hO hl => k_findEquation_e C x1 σ hw s.heap [] ls hO hl)
abbrev rX8_equation : Room := { frames := 5, cells := 0, slots := 0, locals := 131 }
set_option maxRecDepth 100000 in
set_option maxHeartbeats 4000000 in
theorem k_equation_37 {p : Program} {l : Launch} {e : Env} {s : State} {m : MethodId} {args : Array Value} {below : List Frame} {meth : Method} {c : Code} {D : va_G} {y : Nat → ClassId} {ad : Nat → Nat} {X : va_W} {A : Nat → Prop} {Q : Int64 → mS → Prop} (C : mC p s m args meth c cX8_equation 4 (some .long) wsX8_equation D y A) (x1 : Int32) (x2 : Int32) (x3 : Int32) (σ : mS) (hw : w_equation_37 Q x1 x2 x3 σ) (H : Heap) (locs : List Loc) (ls : Array Slot) (hO : mO D y ad X A s.heap H locs σ) (hl : lv_has ls 4 [(0, .ref (ad 0)), (1, .int x1), (2, .int x2), (3, .int x3)]) : W p l e rX8_equation s m args below meth c H locs 0 0 (MQ below (va_Ql Q (mB D y ad X A) A) args s 0 0 A) (F0 m 37 ls []) := by
  obtain ⟨hx, hb, hr, hml, hown, hts, hlk, hK, hA⟩ := id C
  have hin : ∀ w ∈ wsX80, w ∈ wsX8_equation := fun _ h => List.mem_cons_of_mem _ (List.mem_append_right _ h)
  unfold w_equation_37 at hw
  refine lv_iload_n hx hb dX8_equation_37 rfl (lv_at hl 3 rfl) ?_
  refine lv_if_ge (tgt := 48) hx hb dX8_equation_38 (by decide) (fun hc => ?_) (fun hc => ?_)
  · have hw := hw.1 hc
    refine lv_aload_n hx hb dX8_equation_48 rfl (lv_at hl 0 rfl) ?_
    refine lv_iload_n hx hb dX8_equation_49 rfl (lv_at hl 1 rfl) ?_
    refine mx_cvv C hO (c_findEquation l D y ad X σ x1 _ hw) (cwV 1 hts gX8_equation_X8_findEquation rfl rfl rfl (by decide +kernel) ⟨Nat.le_of_ble_eq_true rfl, Nat.le_of_ble_eq_true rfl⟩) rfl hl.1 rfl (lv_room (Nat.le_of_ble_eq_true rfl)) dX8_equation_50 (fun σ102 H locs hw hO => ?_)
    refine lv_aload_n hx hb dX8_equation_53 rfl (lv_at hl 0 rfl) ?_
    refine mx_get C hO hin 11 (by decide) (idx := 39) (by decide +kernel) rfl rfl dX8_equation_54 ?_
    refine lv_iload_n hx hb dX8_equation_57 rfl (lv_at hl 2 rfl) ?_
    refine mx_lald C hO (a := 10) rfl hw.1 dX8_equation_58 ?_
    have hw := hw.2
    exact mx_lret C hO hw dX8_equation_59
  · have hw := hw.2 hc
    refine lv_iload_n hx hb dX8_equation_41 rfl (lv_at hl 3 rfl) ?_
    refine lv_i2l hx hb dX8_equation_42 rfl ?_
    refine lv_ldc2 (v := 1000000000000000) hx hb hown (hts (.constantLong RX8 197 (1000000000000000)) (by decide +kernel)) dX8_equation_43 ?_
    refine lv_lsub hx hb dX8_equation_46 ?_
    exact mx_lret C hO hw dX8_equation_47
set_option maxRecDepth 100000 in
set_option maxHeartbeats 4000000 in
theorem k_equation_21 {p : Program} {l : Launch} {e : Env} {s : State} {m : MethodId} {args : Array Value} {below : List Frame} {meth : Method} {c : Code} {D : va_G} {y : Nat → ClassId} {ad : Nat → Nat} {X : va_W} {A : Nat → Prop} {Q : Int64 → mS → Prop} (C : mC p s m args meth c cX8_equation 4 (some .long) wsX8_equation D y A) (x1 : Int32) (x2 : Int32) (z0 : Int32) (σ : mS) (hw : w_equation_21 Q x1 x2 z0 σ) (H : Heap) (locs : List Loc) (ls : Array Slot) (hO : mO D y ad X A s.heap H locs σ) (hl : lv_has ls 4 [(0, .ref (ad 0)), (1, .int x1), (2, .int x2)]) : W p l e rX8_equation s m args below meth c H locs 0 0 (MQ below (va_Ql Q (mB D y ad X A) A) args s 0 0 A) (F0 m 21 ls [.int z0]) := by
  obtain ⟨hx, hb, hr, hml, hown, hts, hlk, hK, hA⟩ := id C
  unfold w_equation_21 at hw
  refine lv_istore_n (lv' := [(3, .int z0), (0, .ref (ad 0)), (1, .int x1), (2, .int x2)]) hx hb dX8_equation_21 rfl hl (by decide) rfl (fun ls hl => ?_)
  refine lv_iload_n hx hb dX8_equation_22 rfl (lv_at hl 0 rfl) ?_
  refine lv_if_ne (tgt := 37) hx hb dX8_equation_23 (by decide) (fun hc => ?_) (fun hc => ?_)
  · have hw := hw.1 hc
    exact k_equation_37 C x1 x2 z0 σ hw H locs ls hO (lv_sub hl [1, 2, 3, 0] rfl)
  · have hw := hw.2 hc
    refine lv_aload_n hx hb dX8_equation_26 rfl (lv_at hl 1 rfl) ?_
    refine lv_iload_n hx hb dX8_equation_27 rfl (lv_at hl 2 rfl) ?_
    refine mx_civ C hO (c_kindOf l D y ad X σ x1 _ hw) (cwV 1 hts gX8_equation_X8_kindOf rfl rfl rfl (by decide +kernel) ⟨Nat.le_of_ble_eq_true rfl, Nat.le_of_ble_eq_true rfl⟩) rfl hl.1 rfl (lv_room (Nat.le_of_ble_eq_true rfl)) dX8_equation_28 (fun u101 σ102 H locs hw hO => ?_)
    refine lv_if_ne (tgt := 37) hx hb dX8_equation_31 (by decide) (fun hc => ?_) (fun hc => ?_)
    · have hw := hw.1 hc
      exact k_equation_37 C x1 x2 z0 σ102 hw H locs ls hO (lv_sub hl [1, 2, 3, 0] rfl)
    · have hw := hw.2 hc
      refine lv_bipush (v := -4) hx hb dX8_equation_34 (by decide) ?_
      refine lv_istore_n (lv' := [(3, .int ((-4 : Int32))), (0, .ref (ad 0)), (1, .int x1), (2, .int x2)]) hx hb dX8_equation_36 rfl hl (by decide) rfl (fun ls hl => ?_)
      exact k_equation_37 C x1 x2 ((-4 : Int32)) σ102 hw H locs ls hO (lv_sub hl [1, 2, 3, 0] rfl)
set_option maxRecDepth 100000 in
set_option maxHeartbeats 4000000 in
theorem k_equation_e {p : Program} {l : Launch} {e : Env} {s : State} {m : MethodId} {args : Array Value} {below : List Frame} {meth : Method} {c : Code} {D : va_G} {y : Nat → ClassId} {ad : Nat → Nat} {X : va_W} {A : Nat → Prop} {Q : Int64 → mS → Prop} (C : mC p s m args meth c cX8_equation 4 (some .long) wsX8_equation D y A) (x1 : Int32) (x2 : Int32) (σ : mS) (hw : w_equation Q x1 x2 σ) (H : Heap) (locs : List Loc) (ls : Array Slot) (hO : mO D y ad X A s.heap H locs σ) (hl : lv_has ls 4 [(0, .ref (ad 0)), (1, .int x1), (2, .int x2)]) : W p l e rX8_equation s m args below meth c H locs 0 0 (MQ below (va_Ql Q (mB D y ad X A) A) args s 0 0 A) (F0 m 0 ls []) := by
  obtain ⟨hx, hb, hr, hml, hown, hts, hlk, hK, hA⟩ := id C
  unfold w_equation at hw
  refine lv_iload_n hx hb dX8_equation_0 rfl (lv_at hl 2 rfl) ?_
  refine lv_i2l hx hb dX8_equation_1 rfl ?_
  refine lv_lconst (v := 0) hx hb dX8_equation_2 (by decide) ?_
  refine lv_ldc2 (v := 9) hx hb hown (hts (.constantLong RX8 101 (9)) (by decide +kernel)) dX8_equation_3 ?_
  refine mx_cis C hO (c_in l D y ad X σ (x2.toInt64) ((0 : Int64)) ((9 : Int64)) _ hw) (va_cwS 3 hts gX8_equation_X8_in rfl rfl rfl (by decide +kernel) ⟨Nat.le_of_ble_eq_true rfl, Nat.le_of_ble_eq_true rfl⟩) rfl hl.1 rfl (lv_room (Nat.le_of_ble_eq_true rfl)) dX8_equation_6 (fun u101 σ102 H locs hw hO => ?_)
  refine lv_if_ne (tgt := 16) hx hb dX8_equation_9 (by decide) (fun hc => ?_) (fun hc => ?_)
  · have hw := hw.1 hc
    refine lv_aload_n hx hb dX8_equation_16 rfl (lv_at hl 0 rfl) ?_
    refine lv_iload_n hx hb dX8_equation_17 rfl (lv_at hl 1 rfl) ?_
    refine mx_civ C hO (c_against l D y ad X σ102 x1 _ hw) (cwV 1 hts gX8_equation_X8_against rfl rfl rfl (by decide +kernel) ⟨Nat.le_of_ble_eq_true rfl, Nat.le_of_ble_eq_true rfl⟩) rfl hl.1 rfl (lv_room (Nat.le_of_ble_eq_true rfl)) dX8_equation_18 (fun u103 σ104 H locs hw hO => ?_)
    exact k_equation_21 C x1 x2 u103 σ104 hw H locs ls hO (lv_sub hl [0, 1, 2] rfl)
  · have hw := hw.2 hc
    refine lv_iconst (v := -1) hx hb dX8_equation_12 (by decide) ?_
    refine lv_goto (tgt := 21) hx hb dX8_equation_13 (by decide) ?_
    exact k_equation_21 C x1 x2 ((-1 : Int32)) σ102 hw H locs ls hO (lv_sub hl [0, 1, 2] rfl)
theorem c_equation (l : Launch) (D : va_G) (y : Nat → ClassId) (ad : Nat → Nat) (X : va_W) (σ : mS) (x1 : Int32) (x2 : Int32) (Q : Int64 → mS → Prop) (hw : w_equation Q x1 x2 σ) : ∀ sz, Met l yX8_equation wsX8_equation rX8_equation (va_Pc [.ref (ad 0), .int x1, .int x2] (mPre D y ad X sz σ)) (va_Ql Q (mB D y ad X (va_A (mW y ad σ ++ X) sz)) (va_A (mW y ad σ ++ X) sz)) 0 0 (va_A (mW y ad σ ++ X) sz) :=
  mMet (Qc := fun A => va_Ql Q (mB D y ad X A) A) rfl (Nat.le_of_ble_eq_true rfl) (fun p e s m args below meth c A ls C hO hl => k_equation_e C x1 x2 σ hw s.heap [] ls hO hl)
abbrev rX8_bends : Room := { frames := 4, cells := 0, slots := 0, locals := 104 }
set_option maxRecDepth 100000 in
set_option maxHeartbeats 4000000 in
theorem k_bends_30 {p : Program} {l : Launch} {e : Env} {s : State} {m : MethodId} {args : Array Value} {below : List Frame} {meth : Method} {c : Code} {D : va_G} {y : Nat → ClassId} {ad : Nat → Nat} {X : va_W} {A : Nat → Prop} {Q : Int32 → mS → Prop} (C : mC p s m args meth c cX8_bends 4 (some .int) wsX8_bends D y A) (z0 : Int32) (σ : mS) (hw : w_bends_30 Q z0 σ) (H : Heap) (locs : List Loc) (ls : Array Slot) (hO : mO D y ad X A s.heap H locs σ) (hl : lv_has ls 4 [(0, .ref (ad 0))]) : W p l e rX8_bends s m args below meth c H locs 0 0 (MQ below (va_Qi Q (mB D y ad X A) A) args s 0 0 A) (F0 m 30 ls [.int z0]) := by
  obtain ⟨hx, hb, hr, hml, hown, hts, hlk, hK, hA⟩ := id C
  unfold w_bends_30 at hw
  exact mx_iret C hO hw dX8_bends_30
set_option maxRecDepth 100000 in
set_option maxHeartbeats 4000000 in
theorem k_bends_19 {p : Program} {l : Launch} {e : Env} {s : State} {m : MethodId} {args : Array Value} {below : List Frame} {meth : Method} {c : Code} {D : va_G} {y : Nat → ClassId} {ad : Nat → Nat} {X : va_W} {A : Nat → Prop} {Q : Int32 → mS → Prop} (C : mC p s m args meth c cX8_bends 4 (some .int) wsX8_bends D y A) (z0 : Int32) (σ : mS) (hw : w_bends_19 Q z0 σ) (H : Heap) (locs : List Loc) (ls : Array Slot) (hO : mO D y ad X A s.heap H locs σ) (hl : lv_has ls 4 [(0, .ref (ad 0))]) : W p l e rX8_bends s m args below meth c H locs 0 0 (MQ below (va_Qi Q (mB D y ad X A) A) args s 0 0 A) (F0 m 19 ls [.int z0]) := by
  obtain ⟨hx, hb, hr, hml, hown, hts, hlk, hK, hA⟩ := id C
  unfold w_bends_19 at hw
  refine lv_istore_n (lv' := [(3, .int z0), (0, .ref (ad 0))]) hx hb dX8_bends_19 rfl hl (by decide) rfl (fun ls hl => ?_)
  refine lv_iload_n hx hb dX8_bends_20 rfl (lv_at hl 0 rfl) ?_
  refine lv_if_ne (tgt := 29) hx hb dX8_bends_21 (by decide) (fun hc => ?_) (fun hc => ?_)
  · have hw := hw.1 hc
    refine lv_iload_n hx hb dX8_bends_29 rfl (lv_at hl 0 rfl) ?_
    exact k_bends_30 C z0 σ hw H locs ls hO (lv_sub hl [1] rfl)
  · have hw := hw.2 hc
    refine lv_bipush (v := -4) hx hb dX8_bends_24 (by decide) ?_
    refine lv_goto (tgt := 30) hx hb dX8_bends_26 (by decide) ?_
    exact k_bends_30 C ((-4 : Int32)) σ hw H locs ls hO (lv_sub hl [1] rfl)
set_option maxRecDepth 100000 in
set_option maxHeartbeats 4000000 in
theorem k_bends_e {p : Program} {l : Launch} {e : Env} {s : State} {m : MethodId} {args : Array Value} {below : List Frame} {meth : Method} {c : Code} {D : va_G} {y : Nat → ClassId} {ad : Nat → Nat} {X : va_W} {A : Nat → Prop} {Q : Int32 → mS → Prop} (C : mC p s m args meth c cX8_bends 4 (some .int) wsX8_bends D y A) (x1 : Int32) (σ : mS) (hw : w_bends Q x1 σ) (H : Heap) (locs : List Loc) (ls : Array Slot) (hO : mO D y ad X A s.heap H locs σ) (hl : lv_has ls 4 [(0, .ref (ad 0)), (1, .int x1)]) : W p l e rX8_bends s m args below meth c H locs 0 0 (MQ below (va_Qi Q (mB D y ad X A) A) args s 0 0 A) (F0 m 0 ls []) := by
  obtain ⟨hx, hb, hr, hml, hown, hts, hlk, hK, hA⟩ := id C
  unfold w_bends at hw
  refine lv_aload_n hx hb dX8_bends_0 rfl (lv_at hl 0 rfl) ?_
  refine lv_iload_n hx hb dX8_bends_1 rfl (lv_at hl 1 rfl) ?_
  refine mx_civ C hO (c_against l D y ad X σ x1 _ hw) (cwV 1 hts gX8_bends_X8_against rfl rfl rfl (by decide +kernel) ⟨Nat.le_of_ble_eq_true rfl, Nat.le_of_ble_eq_true rfl⟩) rfl hl.1 rfl (lv_room (Nat.le_of_ble_eq_true rfl)) dX8_bends_2 (fun u101 σ102 H locs hw hO => ?_)
  refine lv_istore_n (lv' := [(2, .int u101), (0, .ref (ad 0)), (1, .int x1)]) hx hb dX8_bends_5 rfl hl (by decide) rfl (fun ls hl => ?_)
  refine lv_iload_n hx hb dX8_bends_6 rfl (lv_at hl 0 rfl) ?_
  refine lv_if_ge (tgt := 14) hx hb dX8_bends_7 (by decide) (fun hc => ?_) (fun hc => ?_)
  · have hw := hw.1 hc
    refine lv_aload_n hx hb dX8_bends_14 rfl (lv_at hl 1 rfl) ?_
    refine lv_iload_n hx hb dX8_bends_15 rfl (lv_at hl 2 rfl) ?_
    refine mx_civ C hO (c_kindOf l D y ad X σ102 x1 _ hw) (cwV 1 hts gX8_bends_X8_kindOf rfl rfl rfl (by decide +kernel) ⟨Nat.le_of_ble_eq_true rfl, Nat.le_of_ble_eq_true rfl⟩) rfl hl.1 rfl (lv_room (Nat.le_of_ble_eq_true rfl)) dX8_bends_16 (fun u103 σ104 H locs hw hO => ?_)
    exact k_bends_19 C u103 σ104 hw H locs ls hO (lv_sub hl [1] rfl)
  · have hw := hw.2 hc
    refine lv_iload_n hx hb dX8_bends_10 rfl (lv_at hl 0 rfl) ?_
    refine lv_goto (tgt := 19) hx hb dX8_bends_11 (by decide) ?_
    exact k_bends_19 C u101 σ102 hw H locs ls hO (lv_sub hl [1] rfl)
theorem c_bends (l : Launch) (D : va_G) (y : Nat → ClassId) (ad : Nat → Nat) (X : va_W) (σ : mS) (x1 : Int32) (Q : Int32 → mS → Prop) (hw : w_bends Q x1 σ) : ∀ sz, Met l yX8_bends wsX8_bends rX8_bends (va_Pc [.ref (ad 0), .int x1] (mPre D y ad X sz σ)) (va_Qi Q (mB D y ad X (va_A (mW y ad σ ++ X) sz)) (va_A (mW y ad σ ++ X) sz)) 0 0 (va_A (mW y ad σ ++ X) sz) :=
  mMet (Qc := fun A => va_Qi Q (mB D y ad X A) A) rfl (Nat.le_of_ble_eq_true rfl) (fun p e s m args below meth c A ls C hO hl => k_bends_e C x1 σ hw s.heap [] ls hO hl)
abbrev rX8_times : Room := { frames := 5, cells := 0, slots := 0, locals := 127 }
set_option maxRecDepth 100000 in
set_option maxHeartbeats 4000000 in
theorem k_times_29 {p : Program} {l : Launch} {e : Env} {s : State} {m : MethodId} {args : Array Value} {below : List Frame} {meth : Method} {c : Code} {D : va_G} {y : Nat → ClassId} {ad : Nat → Nat} {X : va_W} {A : Nat → Prop} {Q : Int32 → mS → Prop} (C : mC p s m args meth c cX8_times 3 (some .int) wsX8_times D y A) (z0 : Int32) (σ : mS) (hw : w_times_29 Q z0 σ) (H : Heap) (locs : List Loc) (ls : Array Slot) (hO : mO D y ad X A s.heap H locs σ) (hl : lv_has ls 3 [(0, .ref (ad 0))]) : W p l e rX8_times s m args below meth c H locs 0 0 (MQ below (va_Qi Q (mB D y ad X A) A) args s 0 0 A) (F0 m 29 ls [.int z0]) := by
  obtain ⟨hx, hb, hr, hml, hown, hts, hlk, hK, hA⟩ := id C
  unfold w_times_29 at hw
  exact mx_iret C hO hw dX8_times_29
set_option maxRecDepth 100000 in
set_option maxHeartbeats 4000000 in
theorem k_times_e {p : Program} {l : Launch} {e : Env} {s : State} {m : MethodId} {args : Array Value} {below : List Frame} {meth : Method} {c : Code} {D : va_G} {y : Nat → ClassId} {ad : Nat → Nat} {X : va_W} {A : Nat → Prop} {Q : Int32 → mS → Prop} (C : mC p s m args meth c cX8_times 3 (some .int) wsX8_times D y A) (x1 : Int32) (σ : mS) (hw : w_times Q x1 σ) (H : Heap) (locs : List Loc) (ls : Array Slot) (hO : mO D y ad X A s.heap H locs σ) (hl : lv_has ls 3 [(0, .ref (ad 0)), (1, .int x1)]) : W p l e rX8_times s m args below meth c H locs 0 0 (MQ below (va_Qi Q (mB D y ad X A) A) args s 0 0 A) (F0 m 0 ls []) := by
  obtain ⟨hx, hb, hr, hml, hown, hts, hlk, hK, hA⟩ := id C
  unfold w_times at hw
  refine lv_aload_n hx hb dX8_times_0 rfl (lv_at hl 0 rfl) ?_
  refine lv_iload_n hx hb dX8_times_1 rfl (lv_at hl 1 rfl) ?_
  refine mx_civ C hO (c_bends l D y ad X σ x1 _ hw) (cwV 1 hts gX8_times_X8_bends rfl rfl rfl (by decide +kernel) ⟨Nat.le_of_ble_eq_true rfl, Nat.le_of_ble_eq_true rfl⟩) rfl hl.1 rfl (lv_room (Nat.le_of_ble_eq_true rfl)) dX8_times_2 (fun u101 σ102 H locs hw hO => ?_)
  refine lv_istore_n (lv' := [(2, .int u101), (0, .ref (ad 0)), (1, .int x1)]) hx hb dX8_times_5 rfl hl (by decide) rfl (fun ls hl => ?_)
  refine lv_iload_n hx hb dX8_times_6 rfl (lv_at hl 0 rfl) ?_
  refine lv_iconst (v := 1) hx hb dX8_times_7 (by decide) ?_
  refine lv_icmp_ne (tgt := 19) hx hb dX8_times_8 (by decide) (fun hc => ?_) (fun hc => ?_)
  · have hw := hw.1 hc
    refine lv_iload_n hx hb dX8_times_19 rfl (lv_at hl 0 rfl) ?_
    refine lv_iconst (v := 1) hx hb dX8_times_20 (by decide) ?_
    refine lv_icmp_le (tgt := 28) hx hb dX8_times_21 (by decide) (fun hc => ?_) (fun hc => ?_)
    · have hw := hw.1 hc
      refine lv_iload_n hx hb dX8_times_28 rfl (lv_at hl 0 rfl) ?_
      exact k_times_29 C u101 σ102 hw H locs ls hO (lv_sub hl [1] rfl)
    · have hw := hw.2 hc
      refine lv_iconst (v := 1) hx hb dX8_times_24 (by decide) ?_
      refine lv_goto (tgt := 29) hx hb dX8_times_25 (by decide) ?_
      exact k_times_29 C ((1 : Int32)) σ102 hw H locs ls hO (lv_sub hl [1] rfl)
  · have hw := hw.2 hc
    refine lv_aload_n hx hb dX8_times_11 rfl (lv_at hl 1 rfl) ?_
    refine lv_iload_n hx hb dX8_times_12 rfl (lv_at hl 2 rfl) ?_
    refine mx_civ C hO (c_degreeOf l D y ad X σ102 x1 _ hw) (cwV 1 hts gX8_times_X8_degreeOf rfl rfl rfl (by decide +kernel) ⟨Nat.le_of_ble_eq_true rfl, Nat.le_of_ble_eq_true rfl⟩) rfl hl.1 rfl (lv_room (Nat.le_of_ble_eq_true rfl)) dX8_times_13 (fun u103 σ104 H locs hw hO => ?_)
    refine lv_goto (tgt := 29) hx hb dX8_times_16 (by decide) ?_
    exact k_times_29 C u103 σ104 hw H locs ls hO (lv_sub hl [1] rfl)
theorem c_times (l : Launch) (D : va_G) (y : Nat → ClassId) (ad : Nat → Nat) (X : va_W) (σ : mS) (x1 : Int32) (Q : Int32 → mS → Prop) (hw : w_times Q x1 σ) : ∀ sz, Met l yX8_times wsX8_times rX8_times (va_Pc [.ref (ad 0), .int x1] (mPre D y ad X sz σ)) (va_Qi Q (mB D y ad X (va_A (mW y ad σ ++ X) sz)) (va_A (mW y ad σ ++ X) sz)) 0 0 (va_A (mW y ad σ ++ X) sz) :=
  mMet (Qc := fun A => va_Qi Q (mB D y ad X A) A) rfl (Nat.le_of_ble_eq_true rfl) (fun p e s m args below meth c A ls C hO hl => k_times_e C x1 σ hw s.heap [] ls hO hl)
abbrev rX8_lies : Room := { frames := 5, cells := 0, slots := 0, locals := 131 }
set_option maxRecDepth 100000 in
set_option maxHeartbeats 4000000 in
theorem k_lies_137 {p : Program} {l : Launch} {e : Env} {s : State} {m : MethodId} {args : Array Value} {below : List Frame} {meth : Method} {c : Code} {D : va_G} {y : Nat → ClassId} {ad : Nat → Nat} {X : va_W} {A : Nat → Prop} {Q : Int32 → mS → Prop} (C : mC p s m args meth c cX8_lies 13 (some .int) wsX8_lies D y A) (z0 : Int32) (σ : mS) (hw : w_lies_137 Q z0 σ) (H : Heap) (locs : List Loc) (ls : Array Slot) (hO : mO D y ad X A s.heap H locs σ) (hl : lv_has ls 13 [(0, .ref (ad 0))]) : W p l e rX8_lies s m args below meth c H locs 0 0 (MQ below (va_Qi Q (mB D y ad X A) A) args s 0 0 A) (F0 m 137 ls [.int z0]) := by
  obtain ⟨hx, hb, hr, hml, hown, hts, hlk, hK, hA⟩ := id C
  unfold w_lies_137 at hw
  exact mx_iret C hO hw dX8_lies_137
set_option maxRecDepth 100000 in
set_option maxHeartbeats 4000000 in
theorem k_lies_136 {p : Program} {l : Launch} {e : Env} {s : State} {m : MethodId} {args : Array Value} {below : List Frame} {meth : Method} {c : Code} {D : va_G} {y : Nat → ClassId} {ad : Nat → Nat} {X : va_W} {A : Nat → Prop} {Q : Int32 → mS → Prop} (C : mC p s m args meth c cX8_lies 13 (some .int) wsX8_lies D y A)  (σ : mS) (hw : w_lies_136 Q σ) (H : Heap) (locs : List Loc) (ls : Array Slot) (hO : mO D y ad X A s.heap H locs σ) (hl : lv_has ls 13 [(0, .ref (ad 0))]) : W p l e rX8_lies s m args below meth c H locs 0 0 (MQ below (va_Qi Q (mB D y ad X A) A) args s 0 0 A) (F0 m 136 ls []) := by
  obtain ⟨hx, hb, hr, hml, hown, hts, hlk, hK, hA⟩ := id C
  unfold w_lies_136 at hw
  refine lv_iconst (v := 0) hx hb dX8_lies_136 (by decide) ?_
  exact k_lies_137 C ((0 : Int32)) σ hw H locs ls hO (lv_sub hl [0] rfl)
set_option maxRecDepth 100000 in
set_option maxHeartbeats 4000000 in
theorem k_lies_222 {p : Program} {l : Launch} {e : Env} {s : State} {m : MethodId} {args : Array Value} {below : List Frame} {meth : Method} {c : Code} {D : va_G} {y : Nat → ClassId} {ad : Nat → Nat} {X : va_W} {A : Nat → Prop} {Q : Int32 → mS → Prop} (C : mC p s m args meth c cX8_lies 13 (some .int) wsX8_lies D y A) {r149 : Int32 → Int32 → Int32 → Int64 → Int32 → mS → Prop} (hr149 : ∀ (x2 : Int32) (x3 : Int32) (x4 : Int32) (x6 : Int64) (x8 : Int32) (σ : mS), r149 x2 x3 x4 x6 x8 σ → ∀ (H : Heap) (locs : List Loc) (ls : Array Slot), mO D y ad X A s.heap H locs σ → lv_has ls 13 [(0, .ref (ad 0)), (2, .int x2), (3, .int x3), (4, .int x4), (6, .long x6), (8, .int x8)] → W p l e rX8_lies s m args below meth c H locs 0 0 (MQ below (va_Qi Q (mB D y ad X A) A) args s 0 0 A) (F0 m 149 ls [])) {r158 : Int32 → Int32 → Int32 → Int64 → Int32 → Int32 → mS → Prop} (hr158 : ∀ (x2 : Int32) (x3 : Int32) (x4 : Int32) (x6 : Int64) (x8 : Int32) (x9 : Int32) (σ : mS), r158 x2 x3 x4 x6 x8 x9 σ → ∀ (H : Heap) (locs : List Loc) (ls : Array Slot), mO D y ad X A s.heap H locs σ → lv_has ls 13 [(0, .ref (ad 0)), (2, .int x2), (3, .int x3), (4, .int x4), (6, .long x6), (8, .int x8), (9, .int x9)] → W p l e rX8_lies s m args below meth c H locs 0 0 (MQ below (va_Qi Q (mB D y ad X A) A) args s 0 0 A) (F0 m 158 ls [])) {r184 : Int32 → Int32 → Int32 → Int64 → Int32 → Int32 → Int64 → Int32 → mS → Prop} (hr184 : ∀ (x2 : Int32) (x3 : Int32) (x4 : Int32) (x6 : Int64) (x8 : Int32) (x9 : Int32) (x10 : Int64) (x12 : Int32) (σ : mS), r184 x2 x3 x4 x6 x8 x9 x10 x12 σ → ∀ (H : Heap) (locs : List Loc) (ls : Array Slot), mO D y ad X A s.heap H locs σ → lv_has ls 13 [(0, .ref (ad 0)), (2, .int x2), (3, .int x3), (4, .int x4), (6, .long x6), (8, .int x8), (9, .int x9), (10, .long x10), (12, .int x12)] → W p l e rX8_lies s m args below meth c H locs 0 0 (MQ below (va_Qi Q (mB D y ad X A) A) args s 0 0 A) (F0 m 184 ls [])) (x2 : Int32) (x3 : Int32) (x4 : Int32) (x6 : Int64) (x8 : Int32) (x9 : Int32) (x12 : Int32) (z0 : Int64) (z1 : Int64) (σ : mS) (hw : w_lies_222 Q r149 r158 r184 x2 x3 x4 x6 x8 x9 x12 z0 z1 σ) (H : Heap) (locs : List Loc) (ls : Array Slot) (hO : mO D y ad X A s.heap H locs σ) (hl : lv_has ls 13 [(0, .ref (ad 0)), (2, .int x2), (3, .int x3), (4, .int x4), (6, .long x6), (8, .int x8), (9, .int x9), (12, .int x12)]) : W p l e rX8_lies s m args below meth c H locs 0 0 (MQ below (va_Qi Q (mB D y ad X A) A) args s 0 0 A) (F0 m 222 ls [.long z1, .long z0]) := by
  obtain ⟨hx, hb, hr, hml, hown, hts, hlk, hK, hA⟩ := id C
  unfold w_lies_222 at hw
  refine lv_lmul hx hb dX8_lies_222 ?_
  refine lv_topl (fun x10_101 ex10_101 => ?_)
  have hw := hw x10_101 ex10_101
  refine lv_lstore (lv' := [(10, .long x10_101), (0, .ref (ad 0)), (2, .int x2), (3, .int x3), (4, .int x4), (6, .long x6), (8, .int x8), (9, .int x9), (12, .int x12)]) hx hb dX8_lies_223 hl (by decide) rfl (fun ls hl => ?_)
  obtain ⟨x12_102, ex12_102⟩ : ∃ y : Int32, y = x12 + 1 := ⟨_, rfl⟩
  have hw := hw x12_102 ex12_102
  refine lv_iinc (v := x12_102) (lv' := [(12, .int x12_102), (10, .long x10_101), (0, .ref (ad 0)), (2, .int x2), (3, .int x3), (4, .int x4), (6, .long x6), (8, .int x8), (9, .int x9)]) hx hb dX8_lies_225 hl (k := 8) rfl (by rw [ex12_102]; rfl) (by decide) rfl (fun ls hl => ?_)
  refine lv_goto (tgt := 184) hx hb dX8_lies_228 (by decide) ?_
  exact hr184 x2 x3 x4 x6 x8 x9 x10_101 x12_102 σ hw H locs ls hO (lv_sub hl [2, 3, 4, 5, 6, 7, 8, 1, 0] rfl)
set_option maxRecDepth 100000 in
set_option maxHeartbeats 4000000 in
theorem k_lies_184 {p : Program} {l : Launch} {e : Env} {s : State} {m : MethodId} {args : Array Value} {below : List Frame} {meth : Method} {c : Code} {D : va_G} {y : Nat → ClassId} {ad : Nat → Nat} {X : va_W} {A : Nat → Prop} {Q : Int32 → mS → Prop} (C : mC p s m args meth c cX8_lies 13 (some .int) wsX8_lies D y A) {r149 : Int32 → Int32 → Int32 → Int64 → Int32 → mS → Prop} (hr149 : ∀ (x2 : Int32) (x3 : Int32) (x4 : Int32) (x6 : Int64) (x8 : Int32) (σ : mS), r149 x2 x3 x4 x6 x8 σ → ∀ (H : Heap) (locs : List Loc) (ls : Array Slot), mO D y ad X A s.heap H locs σ → lv_has ls 13 [(0, .ref (ad 0)), (2, .int x2), (3, .int x3), (4, .int x4), (6, .long x6), (8, .int x8)] → W p l e rX8_lies s m args below meth c H locs 0 0 (MQ below (va_Qi Q (mB D y ad X A) A) args s 0 0 A) (F0 m 149 ls [])) {r158 : Int32 → Int32 → Int32 → Int64 → Int32 → Int32 → mS → Prop} (hr158 : ∀ (x2 : Int32) (x3 : Int32) (x4 : Int32) (x6 : Int64) (x8 : Int32) (x9 : Int32) (σ : mS), r158 x2 x3 x4 x6 x8 x9 σ → ∀ (H : Heap) (locs : List Loc) (ls : Array Slot), mO D y ad X A s.heap H locs σ → lv_has ls 13 [(0, .ref (ad 0)), (2, .int x2), (3, .int x3), (4, .int x4), (6, .long x6), (8, .int x8), (9, .int x9)] → W p l e rX8_lies s m args below meth c H locs 0 0 (MQ below (va_Qi Q (mB D y ad X A) A) args s 0 0 A) (F0 m 158 ls [])) (n : Nat) : ∀ (x2 : Int32) (x3 : Int32) (x4 : Int32) (x6 : Int64) (x8 : Int32) (x9 : Int32) (x10 : Int64) (x12 : Int32) (σ : mS), w_lies_184 Q r149 r158 n x2 x3 x4 x6 x8 x9 x10 x12 σ → ∀ (H : Heap) (locs : List Loc) (ls : Array Slot), mO D y ad X A s.heap H locs σ → lv_has ls 13 [(0, .ref (ad 0)), (2, .int x2), (3, .int x3), (4, .int x4), (6, .long x6), (8, .int x8), (9, .int x9), (10, .long x10), (12, .int x12)] → W p l e rX8_lies s m args below meth c H locs 0 0 (MQ below (va_Qi Q (mB D y ad X A) A) args s 0 0 A) (F0 m 184 ls []) := by
  obtain ⟨hx, hb, hr, hml, hown, hts, hlk, hK, hA⟩ := id C
  induction n with
  | zero =>
    intro x2 x3 x4 x6 x8 x9 x10 x12 σ hw
    exact (show False from hw).elim
  | succ n ih =>
    intro x2 x3 x4 x6 x8 x9 x10 x12 σ hw H locs ls hO hl
    unfold w_lies_184 at hw
    refine lv_iload hx hb dX8_lies_184 (lv_at hl 8 rfl) ?_
    refine lv_iconst (v := 3) hx hb dX8_lies_186 (by decide) ?_
    refine lv_icmp_ge (tgt := 231) hx hb dX8_lies_187 (by decide) (fun hc => ?_) (fun hc => ?_)
    · have hw := hw.1 hc
      refine lv_lload hx hb dX8_lies_231 (lv_at hl 4 rfl) ?_
      refine lv_lload hx hb dX8_lies_233 (lv_at hl 7 rfl) ?_
      refine lv_ladd hx hb dX8_lies_235 ?_
      refine lv_topl (fun x6_101 ex6_101 => ?_)
      have hw := hw x6_101 ex6_101
      refine lv_lstore (lv' := [(6, .long x6_101), (0, .ref (ad 0)), (2, .int x2), (3, .int x3), (4, .int x4), (8, .int x8), (9, .int x9), (10, .long x10), (12, .int x12)]) hx hb dX8_lies_236 hl (by decide) rfl (fun ls hl => ?_)
      obtain ⟨x9_102, ex9_102⟩ : ∃ y : Int32, y = x9 + 1 := ⟨_, rfl⟩
      have hw := hw x9_102 ex9_102
      refine lv_iinc (v := x9_102) (lv' := [(9, .int x9_102), (6, .long x6_101), (0, .ref (ad 0)), (2, .int x2), (3, .int x3), (4, .int x4), (8, .int x8), (10, .long x10), (12, .int x12)]) hx hb dX8_lies_238 hl (k := 6) rfl (by rw [ex9_102]; rfl) (by decide) rfl (fun ls hl => ?_)
      refine lv_goto (tgt := 158) hx hb dX8_lies_241 (by decide) ?_
      exact hr158 x2 x3 x4 x6_101 x8 x9_102 σ hw H locs ls hO (lv_sub hl [2, 3, 4, 5, 1, 6, 0] rfl)
    · have hw := hw.2 hc
      refine lv_lload hx hb dX8_lies_190 (lv_at hl 7 rfl) ?_
      refine lv_iload hx hb dX8_lies_192 (lv_at hl 8 rfl) ?_
      refine lv_iload hx hb dX8_lies_194 (lv_at hl 5 rfl) ?_
      refine lv_icmp_ge (tgt := 204) hx hb dX8_lies_196 (by decide) (fun hc => ?_) (fun hc => ?_)
      · have hw := hw.1 hc
        refine lv_iload hx hb dX8_lies_204 (lv_at hl 8 rfl) ?_
        refine lv_iload hx hb dX8_lies_206 (lv_at hl 5 rfl) ?_
        refine lv_iload hx hb dX8_lies_208 (lv_at hl 6 rfl) ?_
        refine lv_iadd hx hb dX8_lies_210 ?_
        refine lv_icmp_ge (tgt := 219) hx hb dX8_lies_211 (by decide) (fun hc => ?_) (fun hc => ?_)
        · have hw := hw.1 hc
          refine lv_iload hx hb dX8_lies_219 (lv_at hl 3 rfl) ?_
          refine lv_i2l hx hb dX8_lies_221 rfl ?_
          exact k_lies_222 C hr149 hr158 (fun x2 x3 x4 x6 x8 x9 x10 x12 σ hw H locs ls hO hl => ih x2 x3 x4 x6 x8 x9 x10 x12 σ hw H locs ls hO hl) x2 x3 x4 x6 x8 x9 x12 x10 (x4.toInt64) σ hw H locs ls hO (lv_sub hl [0, 1, 2, 3, 4, 5, 6, 8] rfl)
        · have hw := hw.2 hc
          refine lv_iload_n hx hb dX8_lies_214 rfl (lv_at hl 2 rfl) ?_
          refine lv_i2l hx hb dX8_lies_215 rfl ?_
          refine lv_goto (tgt := 222) hx hb dX8_lies_216 (by decide) ?_
          exact k_lies_222 C hr149 hr158 (fun x2 x3 x4 x6 x8 x9 x10 x12 σ hw H locs ls hO hl => ih x2 x3 x4 x6 x8 x9 x10 x12 σ hw H locs ls hO hl) x2 x3 x4 x6 x8 x9 x12 x10 (x3.toInt64) σ hw H locs ls hO (lv_sub hl [0, 1, 2, 3, 4, 5, 6, 8] rfl)
      · have hw := hw.2 hc
        refine lv_iload_n hx hb dX8_lies_199 rfl (lv_at hl 1 rfl) ?_
        refine lv_i2l hx hb dX8_lies_200 rfl ?_
        refine lv_goto (tgt := 222) hx hb dX8_lies_201 (by decide) ?_
        exact k_lies_222 C hr149 hr158 (fun x2 x3 x4 x6 x8 x9 x10 x12 σ hw H locs ls hO hl => ih x2 x3 x4 x6 x8 x9 x10 x12 σ hw H locs ls hO hl) x2 x3 x4 x6 x8 x9 x12 x10 (x2.toInt64) σ hw H locs ls hO (lv_sub hl [0, 1, 2, 3, 4, 5, 6, 8] rfl)
set_option maxRecDepth 100000 in
set_option maxHeartbeats 4000000 in
theorem k_lies_158 {p : Program} {l : Launch} {e : Env} {s : State} {m : MethodId} {args : Array Value} {below : List Frame} {meth : Method} {c : Code} {D : va_G} {y : Nat → ClassId} {ad : Nat → Nat} {X : va_W} {A : Nat → Prop} {Q : Int32 → mS → Prop} (C : mC p s m args meth c cX8_lies 13 (some .int) wsX8_lies D y A) {r149 : Int32 → Int32 → Int32 → Int64 → Int32 → mS → Prop} (hr149 : ∀ (x2 : Int32) (x3 : Int32) (x4 : Int32) (x6 : Int64) (x8 : Int32) (σ : mS), r149 x2 x3 x4 x6 x8 σ → ∀ (H : Heap) (locs : List Loc) (ls : Array Slot), mO D y ad X A s.heap H locs σ → lv_has ls 13 [(0, .ref (ad 0)), (2, .int x2), (3, .int x3), (4, .int x4), (6, .long x6), (8, .int x8)] → W p l e rX8_lies s m args below meth c H locs 0 0 (MQ below (va_Qi Q (mB D y ad X A) A) args s 0 0 A) (F0 m 149 ls [])) (n : Nat) : ∀ (x2 : Int32) (x3 : Int32) (x4 : Int32) (x6 : Int64) (x8 : Int32) (x9 : Int32) (σ : mS), w_lies_158 Q r149 n x2 x3 x4 x6 x8 x9 σ → ∀ (H : Heap) (locs : List Loc) (ls : Array Slot), mO D y ad X A s.heap H locs σ → lv_has ls 13 [(0, .ref (ad 0)), (2, .int x2), (3, .int x3), (4, .int x4), (6, .long x6), (8, .int x8), (9, .int x9)] → W p l e rX8_lies s m args below meth c H locs 0 0 (MQ below (va_Qi Q (mB D y ad X A) A) args s 0 0 A) (F0 m 158 ls []) := by
  obtain ⟨hx, hb, hr, hml, hown, hts, hlk, hK, hA⟩ := id C
  have hin : ∀ w ∈ wsX80, w ∈ wsX8_lies := fun _ h => List.mem_cons_of_mem _ (List.mem_append_right _ h)
  induction n with
  | zero =>
    intro x2 x3 x4 x6 x8 x9 σ hw
    exact (show False from hw).elim
  | succ n ih =>
    intro x2 x3 x4 x6 x8 x9 σ hw H locs ls hO hl
    unfold w_lies_158 at hw
    refine lv_iload hx hb dX8_lies_158 (lv_at hl 5 rfl) ?_
    refine lv_iload hx hb dX8_lies_160 (lv_at hl 6 rfl) ?_
    refine lv_iadd hx hb dX8_lies_162 ?_
    refine lv_iconst (v := 4) hx hb dX8_lies_163 (by decide) ?_
    refine lv_icmp_ge (tgt := 244) hx hb dX8_lies_164 (by decide) (fun hc => ?_) (fun hc => ?_)
    · have hw := hw.1 hc
      obtain ⟨x8_101, ex8_101⟩ : ∃ y : Int32, y = x8 + 1 := ⟨_, rfl⟩
      have hw := hw x8_101 ex8_101
      refine lv_iinc (v := x8_101) (lv' := [(8, .int x8_101), (0, .ref (ad 0)), (2, .int x2), (3, .int x3), (4, .int x4), (6, .long x6), (9, .int x9)]) hx hb dX8_lies_244 hl (k := 5) rfl (by rw [ex8_101]; rfl) (by decide) rfl (fun ls hl => ?_)
      refine lv_goto (tgt := 149) hx hb dX8_lies_247 (by decide) ?_
      exact hr149 x2 x3 x4 x6 x8_101 σ hw H locs ls hO (lv_sub hl [1, 2, 3, 4, 5, 0] rfl)
    · have hw := hw.2 hc
      refine lv_aload_n hx hb dX8_lies_167 rfl (lv_at hl 0 rfl) ?_
      refine mx_get C hO hin 11 (by decide) (idx := 39) (by decide +kernel) rfl rfl dX8_lies_168 ?_
      refine lv_iload hx hb dX8_lies_171 (lv_at hl 5 rfl) ?_
      refine lv_iload hx hb dX8_lies_173 (lv_at hl 6 rfl) ?_
      refine mx_cis C hO (c_placeOf l D y ad X σ x8 x9 _ hw) (va_cwS 2 hts gX8_lies_X8_placeOf rfl rfl rfl (by decide +kernel) ⟨Nat.le_of_ble_eq_true rfl, Nat.le_of_ble_eq_true rfl⟩) rfl hl.1 rfl (lv_room (Nat.le_of_ble_eq_true rfl)) dX8_lies_175 (fun u102 σ103 H locs hw hO => ?_)
      refine mx_lald C hO (a := 10) rfl hw.1 dX8_lies_178 ?_
      have hw := hw.2
      refine lv_topl (fun x10_104 ex10_104 => ?_)
      have hw := hw x10_104 ex10_104
      refine lv_lstore (lv' := [(10, .long x10_104), (0, .ref (ad 0)), (2, .int x2), (3, .int x3), (4, .int x4), (6, .long x6), (8, .int x8), (9, .int x9)]) hx hb dX8_lies_179 hl (by decide) rfl (fun ls hl => ?_)
      refine lv_iconst (v := 0) hx hb dX8_lies_181 (by decide) ?_
      refine lv_istore (lv' := [(12, .int ((0 : Int32))), (10, .long x10_104), (0, .ref (ad 0)), (2, .int x2), (3, .int x3), (4, .int x4), (6, .long x6), (8, .int x8), (9, .int x9)]) hx hb dX8_lies_182 hl (by decide) rfl (fun ls hl => ?_)
      exact k_lies_184 C hr149 (fun x2 x3 x4 x6 x8 x9 σ hw H locs ls hO hl => ih x2 x3 x4 x6 x8 x9 σ hw H locs ls hO hl) fuL x2 x3 x4 x6 x8 x9 x10_104 ((0 : Int32)) σ103 hw H locs ls hO (lv_sub hl [2, 3, 4, 5, 6, 7, 8, 1, 0] rfl)
set_option maxRecDepth 100000 in
set_option maxHeartbeats 4000000 in
theorem k_lies_262 {p : Program} {l : Launch} {e : Env} {s : State} {m : MethodId} {args : Array Value} {below : List Frame} {meth : Method} {c : Code} {D : va_G} {y : Nat → ClassId} {ad : Nat → Nat} {X : va_W} {A : Nat → Prop} {Q : Int32 → mS → Prop} (C : mC p s m args meth c cX8_lies 13 (some .int) wsX8_lies D y A) (z0 : Int32) (σ : mS) (hw : w_lies_262 Q z0 σ) (H : Heap) (locs : List Loc) (ls : Array Slot) (hO : mO D y ad X A s.heap H locs σ) (hl : lv_has ls 13 [(0, .ref (ad 0))]) : W p l e rX8_lies s m args below meth c H locs 0 0 (MQ below (va_Qi Q (mB D y ad X A) A) args s 0 0 A) (F0 m 262 ls [.int z0]) := by
  obtain ⟨hx, hb, hr, hml, hown, hts, hlk, hK, hA⟩ := id C
  unfold w_lies_262 at hw
  exact mx_iret C hO hw dX8_lies_262
set_option maxRecDepth 100000 in
set_option maxHeartbeats 4000000 in
theorem k_lies_149 {p : Program} {l : Launch} {e : Env} {s : State} {m : MethodId} {args : Array Value} {below : List Frame} {meth : Method} {c : Code} {D : va_G} {y : Nat → ClassId} {ad : Nat → Nat} {X : va_W} {A : Nat → Prop} {Q : Int32 → mS → Prop} (C : mC p s m args meth c cX8_lies 13 (some .int) wsX8_lies D y A) (n : Nat) : ∀ (x2 : Int32) (x3 : Int32) (x4 : Int32) (x6 : Int64) (x8 : Int32) (σ : mS), w_lies_149 Q n x2 x3 x4 x6 x8 σ → ∀ (H : Heap) (locs : List Loc) (ls : Array Slot), mO D y ad X A s.heap H locs σ → lv_has ls 13 [(0, .ref (ad 0)), (2, .int x2), (3, .int x3), (4, .int x4), (6, .long x6), (8, .int x8)] → W p l e rX8_lies s m args below meth c H locs 0 0 (MQ below (va_Qi Q (mB D y ad X A) A) args s 0 0 A) (F0 m 149 ls []) := by
  obtain ⟨hx, hb, hr, hml, hown, hts, hlk, hK, hA⟩ := id C
  induction n with
  | zero =>
    intro x2 x3 x4 x6 x8 σ hw
    exact (show False from hw).elim
  | succ n ih =>
    intro x2 x3 x4 x6 x8 σ hw H locs ls hO hl
    unfold w_lies_149 at hw
    refine lv_iload hx hb dX8_lies_149 (lv_at hl 5 rfl) ?_
    refine lv_iconst (v := 4) hx hb dX8_lies_151 (by decide) ?_
    refine lv_icmp_ge (tgt := 250) hx hb dX8_lies_152 (by decide) (fun hc => ?_) (fun hc => ?_)
    · have hw := hw.1 hc
      refine lv_lload hx hb dX8_lies_250 (lv_at hl 4 rfl) ?_
      refine lv_lconst (v := 0) hx hb dX8_lies_252 (by decide) ?_
      refine W.lcmp hx hb dX8_lies_253 ?_
      refine lv_if_ne (tgt := 261) hx hb dX8_lies_254 (by decide) (fun hc => ?_) (fun hc => ?_)
      · have hc := (not_congr (lg_cmp_eq _ _)).mp hc
        have hw := hw.1 hc
        refine lv_iconst (v := 0) hx hb dX8_lies_261 (by decide) ?_
        exact k_lies_262 C ((0 : Int32)) σ hw H locs ls hO (lv_sub hl [0] rfl)
      · have hc := (lg_cmp_eq _ _).mp hc
        have hw := hw.2 hc
        refine lv_iconst (v := 1) hx hb dX8_lies_257 (by decide) ?_
        refine lv_goto (tgt := 262) hx hb dX8_lies_258 (by decide) ?_
        exact k_lies_262 C ((1 : Int32)) σ hw H locs ls hO (lv_sub hl [0] rfl)
    · have hw := hw.2 hc
      refine lv_iconst (v := 0) hx hb dX8_lies_155 (by decide) ?_
      refine lv_istore (lv' := [(9, .int ((0 : Int32))), (0, .ref (ad 0)), (2, .int x2), (3, .int x3), (4, .int x4), (6, .long x6), (8, .int x8)]) hx hb dX8_lies_156 hl (by decide) rfl (fun ls hl => ?_)
      exact k_lies_158 C (fun x2 x3 x4 x6 x8 σ hw H locs ls hO hl => ih x2 x3 x4 x6 x8 σ hw H locs ls hO hl) fuL x2 x3 x4 x6 x8 ((0 : Int32)) σ hw H locs ls hO (lv_sub hl [1, 2, 3, 4, 5, 6, 0] rfl)
set_option maxRecDepth 100000 in
set_option maxHeartbeats 4000000 in
theorem k_lies_50 {p : Program} {l : Launch} {e : Env} {s : State} {m : MethodId} {args : Array Value} {below : List Frame} {meth : Method} {c : Code} {D : va_G} {y : Nat → ClassId} {ad : Nat → Nat} {X : va_W} {A : Nat → Prop} {Q : Int32 → mS → Prop} (C : mC p s m args meth c cX8_lies 13 (some .int) wsX8_lies D y A) (x1 : Int32) (x2 : Int32) (x3 : Int32) (x4 : Int32) (z0 : Int32) (σ : mS) (hw : w_lies_50 Q x1 x2 x3 x4 z0 σ) (H : Heap) (locs : List Loc) (ls : Array Slot) (hO : mO D y ad X A s.heap H locs σ) (hl : lv_has ls 13 [(0, .ref (ad 0)), (1, .int x1), (2, .int x2), (3, .int x3), (4, .int x4)]) : W p l e rX8_lies s m args below meth c H locs 0 0 (MQ below (va_Qi Q (mB D y ad X A) A) args s 0 0 A) (F0 m 50 ls [.int z0]) := by
  obtain ⟨hx, hb, hr, hml, hown, hts, hlk, hK, hA⟩ := id C
  have hin : ∀ w ∈ wsX80, w ∈ wsX8_lies := fun _ h => List.mem_cons_of_mem _ (List.mem_append_right _ h)
  unfold w_lies_50 at hw
  refine lv_istore (lv' := [(5, .int z0), (0, .ref (ad 0)), (1, .int x1), (2, .int x2), (3, .int x3), (4, .int x4)]) hx hb dX8_lies_50 hl (by decide) rfl (fun ls hl => ?_)
  refine lv_iload hx hb dX8_lies_52 (lv_at hl 0 rfl) ?_
  refine lv_if_ge (tgt := 60) hx hb dX8_lies_54 (by decide) (fun hc => ?_) (fun hc => ?_)
  · have hw := hw.1 hc
    refine lv_aload_n hx hb dX8_lies_60 rfl (lv_at hl 1 rfl) ?_
    refine lv_iload_n hx hb dX8_lies_61 rfl (lv_at hl 2 rfl) ?_
    refine mx_civ C hO (c_kindOf l D y ad X σ x1 _ hw) (cwV 1 hts gX8_lies_X8_kindOf rfl rfl rfl (by decide +kernel) ⟨Nat.le_of_ble_eq_true rfl, Nat.le_of_ble_eq_true rfl⟩) rfl hl.1 rfl (lv_room (Nat.le_of_ble_eq_true rfl)) dX8_lies_62 (fun u101 σ102 H locs hw hO => ?_)
    refine lv_if_ne (tgt := 138) hx hb dX8_lies_65 (by decide) (fun hc => ?_) (fun hc => ?_)
    · have hw := hw.1 hc
      refine lv_aload_n hx hb dX8_lies_138 rfl (lv_at hl 1 rfl) ?_
      refine lv_iload_n hx hb dX8_lies_139 rfl (lv_at hl 2 rfl) ?_
      refine mx_cvv C hO (c_findEquation l D y ad X σ102 x1 _ hw) (cwV 1 hts gX8_lies_X8_findEquation rfl rfl rfl (by decide +kernel) ⟨Nat.le_of_ble_eq_true rfl, Nat.le_of_ble_eq_true rfl⟩) rfl hl.1 rfl (lv_room (Nat.le_of_ble_eq_true rfl)) dX8_lies_140 (fun σ104 H locs hw hO => ?_)
      refine lv_lconst (v := 0) hx hb dX8_lies_143 (by decide) ?_
      refine lv_lstore (lv' := [(6, .long ((0 : Int64))), (5, .int z0), (0, .ref (ad 0)), (1, .int x1), (2, .int x2), (3, .int x3), (4, .int x4)]) hx hb dX8_lies_144 hl (by decide) rfl (fun ls hl => ?_)
      refine lv_iconst (v := 0) hx hb dX8_lies_146 (by decide) ?_
      refine lv_istore (lv' := [(8, .int ((0 : Int32))), (6, .long ((0 : Int64))), (5, .int z0), (0, .ref (ad 0)), (1, .int x1), (2, .int x2), (3, .int x3), (4, .int x4)]) hx hb dX8_lies_147 hl (by decide) rfl (fun ls hl => ?_)
      exact k_lies_149 C fuL x2 x3 x4 ((0 : Int64)) ((0 : Int32)) σ104 hw H locs ls hO (lv_sub hl [3, 5, 6, 7, 1, 0] rfl)
    · have hw := hw.2 hc
      refine lv_bipush (v := 12) hx hb dX8_lies_68 (by decide) ?_
      refine lv_iload_n hx hb dX8_lies_70 rfl (lv_at hl 2 rfl) ?_
      refine lv_imul hx hb dX8_lies_71 ?_
      refine lv_topi (fun x6_105 ex6_105 => ?_)
      have hw := hw x6_105 ex6_105
      refine lv_istore (lv' := [(6, .int x6_105), (5, .int z0), (0, .ref (ad 0)), (1, .int x1), (2, .int x2), (3, .int x3), (4, .int x4)]) hx hb dX8_lies_72 hl (by decide) rfl (fun ls hl => ?_)
      refine lv_aload_n hx hb dX8_lies_74 rfl (lv_at hl 2 rfl) ?_
      refine mx_get C hO hin 1 (by decide) (idx := 13) (by decide +kernel) rfl rfl dX8_lies_75 ?_
      refine lv_iload hx hb dX8_lies_78 (lv_at hl 0 rfl) ?_
      refine mx_lald C hO (a := 2) rfl hw.1 dX8_lies_80 ?_
      have hw := hw.2
      refine lv_iload hx hb dX8_lies_81 (lv_at hl 6 rfl) ?_
      refine lv_i2l hx hb dX8_lies_83 rfl ?_
      refine lv_lmul hx hb dX8_lies_84 ?_
      refine lv_iload_n hx hb dX8_lies_85 rfl (lv_at hl 4 rfl) ?_
      refine lv_i2l hx hb dX8_lies_86 rfl ?_
      refine lv_aload_n hx hb dX8_lies_87 rfl (lv_at hl 2 rfl) ?_
      refine mx_get C hO hin 1 (by decide) (idx := 13) (by decide +kernel) rfl rfl dX8_lies_88 ?_
      refine lv_iload hx hb dX8_lies_91 (lv_at hl 0 rfl) ?_
      refine lv_bipush (v := 8) hx hb dX8_lies_93 (by decide) ?_
      refine lv_iadd hx hb dX8_lies_95 ?_
      refine mx_lald C hO (a := 2) rfl hw.1 dX8_lies_96 ?_
      have hw := hw.2
      refine lv_lmul hx hb dX8_lies_97 ?_
      refine W.lcmp hx hb dX8_lies_98 ?_
      refine lv_if_ne (tgt := 136) hx hb dX8_lies_99 (by decide) (fun hc => ?_) (fun hc => ?_)
      · have hc := (not_congr (lg_cmp_eq _ _)).mp hc
        have hw := hw.1 hc
        exact k_lies_136 C σ102 hw H locs ls hO (lv_sub hl [2] rfl)
      · have hc := (lg_cmp_eq _ _).mp hc
        have hw := hw.2 hc
        refine lv_aload_n hx hb dX8_lies_102 rfl (lv_at hl 2 rfl) ?_
        refine mx_get C hO hin 1 (by decide) (idx := 13) (by decide +kernel) rfl rfl dX8_lies_103 ?_
        refine lv_iload hx hb dX8_lies_106 (lv_at hl 0 rfl) ?_
        refine lv_iconst (v := 4) hx hb dX8_lies_108 (by decide) ?_
        refine lv_iadd hx hb dX8_lies_109 ?_
        refine mx_lald C hO (a := 2) rfl hw.1 dX8_lies_110 ?_
        have hw := hw.2
        refine lv_iload hx hb dX8_lies_111 (lv_at hl 6 rfl) ?_
        refine lv_i2l hx hb dX8_lies_113 rfl ?_
        refine lv_lmul hx hb dX8_lies_114 ?_
        refine lv_iload_n hx hb dX8_lies_115 rfl (lv_at hl 5 rfl) ?_
        refine lv_i2l hx hb dX8_lies_116 rfl ?_
        refine lv_aload_n hx hb dX8_lies_117 rfl (lv_at hl 2 rfl) ?_
        refine mx_get C hO hin 1 (by decide) (idx := 13) (by decide +kernel) rfl rfl dX8_lies_118 ?_
        refine lv_iload hx hb dX8_lies_121 (lv_at hl 0 rfl) ?_
        refine lv_bipush (v := 8) hx hb dX8_lies_123 (by decide) ?_
        refine lv_iadd hx hb dX8_lies_125 ?_
        refine mx_lald C hO (a := 2) rfl hw.1 dX8_lies_126 ?_
        have hw := hw.2
        refine lv_lmul hx hb dX8_lies_127 ?_
        refine W.lcmp hx hb dX8_lies_128 ?_
        refine lv_if_ne (tgt := 136) hx hb dX8_lies_129 (by decide) (fun hc => ?_) (fun hc => ?_)
        · have hc := (not_congr (lg_cmp_eq _ _)).mp hc
          have hw := hw.1 hc
          exact k_lies_136 C σ102 hw H locs ls hO (lv_sub hl [2] rfl)
        · have hc := (lg_cmp_eq _ _).mp hc
          have hw := hw.2 hc
          refine lv_iconst (v := 1) hx hb dX8_lies_132 (by decide) ?_
          refine lv_goto (tgt := 137) hx hb dX8_lies_133 (by decide) ?_
          exact k_lies_137 C ((1 : Int32)) σ102 hw H locs ls hO (lv_sub hl [2] rfl)
  · have hw := hw.2 hc
    refine lv_iload hx hb dX8_lies_57 (lv_at hl 0 rfl) ?_
    exact mx_iret C hO hw dX8_lies_59
set_option maxRecDepth 100000 in
set_option maxHeartbeats 4000000 in
theorem k_lies_41 {p : Program} {l : Launch} {e : Env} {s : State} {m : MethodId} {args : Array Value} {below : List Frame} {meth : Method} {c : Code} {D : va_G} {y : Nat → ClassId} {ad : Nat → Nat} {X : va_W} {A : Nat → Prop} {Q : Int32 → mS → Prop} (C : mC p s m args meth c cX8_lies 13 (some .int) wsX8_lies D y A) (x1 : Int32) (x2 : Int32) (x3 : Int32) (x4 : Int32) (σ : mS) (hw : w_lies_41 Q x1 x2 x3 x4 σ) (H : Heap) (locs : List Loc) (ls : Array Slot) (hO : mO D y ad X A s.heap H locs σ) (hl : lv_has ls 13 [(0, .ref (ad 0)), (1, .int x1), (2, .int x2), (3, .int x3), (4, .int x4)]) : W p l e rX8_lies s m args below meth c H locs 0 0 (MQ below (va_Qi Q (mB D y ad X A) A) args s 0 0 A) (F0 m 41 ls []) := by
  obtain ⟨hx, hb, hr, hml, hown, hts, hlk, hK, hA⟩ := id C
  unfold w_lies_41 at hw
  refine lv_iconst (v := -1) hx hb dX8_lies_41 (by decide) ?_
  refine lv_goto (tgt := 50) hx hb dX8_lies_42 (by decide) ?_
  exact k_lies_50 C x1 x2 x3 x4 ((-1 : Int32)) σ hw H locs ls hO (lv_sub hl [0, 1, 2, 3, 4] rfl)
set_option maxRecDepth 100000 in
set_option maxHeartbeats 4000000 in
theorem k_lies_e {p : Program} {l : Launch} {e : Env} {s : State} {m : MethodId} {args : Array Value} {below : List Frame} {meth : Method} {c : Code} {D : va_G} {y : Nat → ClassId} {ad : Nat → Nat} {X : va_W} {A : Nat → Prop} {Q : Int32 → mS → Prop} (C : mC p s m args meth c cX8_lies 13 (some .int) wsX8_lies D y A) (x1 : Int32) (x2 : Int32) (x3 : Int32) (x4 : Int32) (σ : mS) (hw : w_lies Q x1 x2 x3 x4 σ) (H : Heap) (locs : List Loc) (ls : Array Slot) (hO : mO D y ad X A s.heap H locs σ) (hl : lv_has ls 13 [(0, .ref (ad 0)), (1, .int x1), (2, .int x2), (3, .int x3), (4, .int x4)]) : W p l e rX8_lies s m args below meth c H locs 0 0 (MQ below (va_Qi Q (mB D y ad X A) A) args s 0 0 A) (F0 m 0 ls []) := by
  obtain ⟨hx, hb, hr, hml, hown, hts, hlk, hK, hA⟩ := id C
  unfold w_lies at hw
  refine lv_iload_n hx hb dX8_lies_0 rfl (lv_at hl 2 rfl) ?_
  refine lv_i2l hx hb dX8_lies_1 rfl ?_
  refine lv_ldc2 (v := -20) hx hb hown (hts (.constantLong RX8 168 (-20)) (by decide +kernel)) dX8_lies_2 ?_
  refine lv_ldc2 (v := 20) hx hb hown (hts (.constantLong RX8 170 (20)) (by decide +kernel)) dX8_lies_5 ?_
  refine mx_cis C hO (c_in l D y ad X σ (x2.toInt64) ((-20 : Int64)) ((20 : Int64)) _ hw) (va_cwS 3 hts gX8_lies_X8_in rfl rfl rfl (by decide +kernel) ⟨Nat.le_of_ble_eq_true rfl, Nat.le_of_ble_eq_true rfl⟩) rfl hl.1 rfl (lv_room (Nat.le_of_ble_eq_true rfl)) dX8_lies_8 (fun u101 σ102 H locs hw hO => ?_)
  refine lv_if_eq (tgt := 41) hx hb dX8_lies_11 (by decide) (fun hc => ?_) (fun hc => ?_)
  · have hw := hw.1 hc
    exact k_lies_41 C x1 x2 x3 x4 σ102 hw H locs ls hO (lv_sub hl [0, 1, 2, 3, 4] rfl)
  · have hw := hw.2 hc
    refine lv_iload_n hx hb dX8_lies_14 rfl (lv_at hl 3 rfl) ?_
    refine lv_i2l hx hb dX8_lies_15 rfl ?_
    refine lv_ldc2 (v := -20) hx hb hown (hts (.constantLong RX8 168 (-20)) (by decide +kernel)) dX8_lies_16 ?_
    refine lv_ldc2 (v := 20) hx hb hown (hts (.constantLong RX8 170 (20)) (by decide +kernel)) dX8_lies_19 ?_
    refine mx_cis C hO (c_in l D y ad X σ102 (x3.toInt64) ((-20 : Int64)) ((20 : Int64)) _ hw) (va_cwS 3 hts gX8_lies_X8_in rfl rfl rfl (by decide +kernel) ⟨Nat.le_of_ble_eq_true rfl, Nat.le_of_ble_eq_true rfl⟩) rfl hl.1 rfl (lv_room (Nat.le_of_ble_eq_true rfl)) dX8_lies_22 (fun u103 σ104 H locs hw hO => ?_)
    refine lv_if_eq (tgt := 41) hx hb dX8_lies_25 (by decide) (fun hc => ?_) (fun hc => ?_)
    · have hw := hw.1 hc
      exact k_lies_41 C x1 x2 x3 x4 σ104 hw H locs ls hO (lv_sub hl [0, 1, 2, 3, 4] rfl)
    · have hw := hw.2 hc
      refine lv_iload hx hb dX8_lies_28 (lv_at hl 4 rfl) ?_
      refine lv_i2l hx hb dX8_lies_30 rfl ?_
      refine lv_lconst (v := 1) hx hb dX8_lies_31 (by decide) ?_
      refine lv_ldc2 (v := 20) hx hb hown (hts (.constantLong RX8 170 (20)) (by decide +kernel)) dX8_lies_32 ?_
      refine mx_cis C hO (c_in l D y ad X σ104 (x4.toInt64) ((1 : Int64)) ((20 : Int64)) _ hw) (va_cwS 3 hts gX8_lies_X8_in rfl rfl rfl (by decide +kernel) ⟨Nat.le_of_ble_eq_true rfl, Nat.le_of_ble_eq_true rfl⟩) rfl hl.1 rfl (lv_room (Nat.le_of_ble_eq_true rfl)) dX8_lies_35 (fun u105 σ106 H locs hw hO => ?_)
      refine lv_if_ne (tgt := 45) hx hb dX8_lies_38 (by decide) (fun hc => ?_) (fun hc => ?_)
      · have hw := hw.1 hc
        refine lv_aload_n hx hb dX8_lies_45 rfl (lv_at hl 0 rfl) ?_
        refine lv_iload_n hx hb dX8_lies_46 rfl (lv_at hl 1 rfl) ?_
        refine mx_civ C hO (c_against l D y ad X σ106 x1 _ hw) (cwV 1 hts gX8_lies_X8_against rfl rfl rfl (by decide +kernel) ⟨Nat.le_of_ble_eq_true rfl, Nat.le_of_ble_eq_true rfl⟩) rfl hl.1 rfl (lv_room (Nat.le_of_ble_eq_true rfl)) dX8_lies_47 (fun u107 σ108 H locs hw hO => ?_)
        exact k_lies_50 C x1 x2 x3 x4 u107 σ108 hw H locs ls hO (lv_sub hl [0, 1, 2, 3, 4] rfl)
      · have hw := hw.2 hc
        exact k_lies_41 C x1 x2 x3 x4 σ106 hw H locs ls hO (lv_sub hl [0, 1, 2, 3, 4] rfl)
theorem c_lies (l : Launch) (D : va_G) (y : Nat → ClassId) (ad : Nat → Nat) (X : va_W) (σ : mS) (x1 : Int32) (x2 : Int32) (x3 : Int32) (x4 : Int32) (Q : Int32 → mS → Prop) (hw : w_lies Q x1 x2 x3 x4 σ) : ∀ sz, Met l yX8_lies wsX8_lies rX8_lies (va_Pc [.ref (ad 0), .int x1, .int x2, .int x3, .int x4] (mPre D y ad X sz σ)) (va_Qi Q (mB D y ad X (va_A (mW y ad σ ++ X) sz)) (va_A (mW y ad σ ++ X) sz)) 0 0 (va_A (mW y ad σ ++ X) sz) :=
  mMet (Qc := fun A => va_Qi Q (mB D y ad X A) A) rfl (Nat.le_of_ble_eq_true rfl) (fun p e s m args below meth c A ls C hO hl => k_lies_e C x1 x2 x3 x4 σ hw s.heap [] ls hO hl)
