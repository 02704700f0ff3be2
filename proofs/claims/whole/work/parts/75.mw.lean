/-! the reference: what each method does, and the walk of its bytecode (written by wip/tools/gen.py) -/
abbrev rX8_without : Room := { frames := 0, cells := 0, slots := 0, locals := 0 }
set_option maxRecDepth 100000 in
set_option maxHeartbeats 4000000 in
theorem k_without_50 {p : Program} {l : Launch} {e : Env} {s : State} {m : MethodId} {args : Array Value} {below : List Frame} {meth : Method} {c : Code} {D : va_G} {y : Nat → ClassId} {ad : Nat → Nat} {X : va_W} {A : Nat → Prop} {Q : Int64 → mS → Prop} (C : mC p s m args meth c cX8_without 11 (some .long) wsX8_without D y A) {r2 : Int32 → Int32 → mS → Prop} (hr2 : ∀ (x1 : Int32) (x2 : Int32) (σ : mS), r2 x1 x2 σ → ∀ (H : Heap) (locs : List Loc) (ls : Array Slot), mO D y ad X A s.heap H locs σ → lv_has ls 11 [(0, .ref (ad 0)), (1, .int x1), (2, .int x2)] → W p l e rX8_without s m args below meth c H locs 0 0 (MQ below (va_Ql Q (mB D y ad X A) A) args s 0 0 A) (F0 m 2 ls [])) {r12 : Int32 → Int32 → Int32 → Int32 → mS → Prop} (hr12 : ∀ (x1 : Int32) (x2 : Int32) (x3 : Int32) (x4 : Int32) (σ : mS), r12 x1 x2 x3 x4 σ → ∀ (H : Heap) (locs : List Loc) (ls : Array Slot), mO D y ad X A s.heap H locs σ → lv_has ls 11 [(0, .ref (ad 0)), (1, .int x1), (2, .int x2), (3, .int x3), (4, .int x4)] → W p l e rX8_without s m args below meth c H locs 0 0 (MQ below (va_Ql Q (mB D y ad X A) A) args s 0 0 A) (F0 m 12 ls [])) (x1 : Int32) (x2 : Int32) (x3 : Int32) (x4 : Int32) (σ : mS) (hw : w_without_50 Q r2 r12 x1 x2 x3 x4 σ) (H : Heap) (locs : List Loc) (ls : Array Slot) (hO : mO D y ad X A s.heap H locs σ) (hl : lv_has ls 11 [(0, .ref (ad 0)), (1, .int x1), (2, .int x2), (3, .int x3), (4, .int x4)]) : W p l e rX8_without s m args below meth c H locs 0 0 (MQ below (va_Ql Q (mB D y ad X A) A) args s 0 0 A) (F0 m 50 ls []) := by
  obtain ⟨hx, hb, hr, hml, hown, hts, hlk, hK, hA⟩ := id C
  unfold w_without_50 at hw
  obtain ⟨x4_101, ex4_101⟩ : ∃ y : Int32, y = x4 + 1 := ⟨_, rfl⟩
  have hw := hw x4_101 ex4_101
  refine lv_iinc (v := x4_101) (lv' := [(4, .int x4_101), (0, .ref (ad 0)), (1, .int x1), (2, .int x2), (3, .int x3)]) hx hb dX8_without_50 hl (k := 4) rfl (by rw [ex4_101]; rfl) (by decide) rfl (fun ls hl => ?_)
  refine lv_goto (tgt := 12) hx hb dX8_without_53 (by decide) ?_
  exact hr12 x1 x2 x3 x4_101 σ hw H locs ls hO (lv_sub hl [1, 2, 3, 4, 0] rfl)
set_option maxRecDepth 100000 in
set_option maxHeartbeats 4000000 in
theorem k_without_12 {p : Program} {l : Launch} {e : Env} {s : State} {m : MethodId} {args : Array Value} {below : List Frame} {meth : Method} {c : Code} {D : va_G} {y : Nat → ClassId} {ad : Nat → Nat} {X : va_W} {A : Nat → Prop} {Q : Int64 → mS → Prop} (C : mC p s m args meth c cX8_without 11 (some .long) wsX8_without D y A) {r2 : Int32 → Int32 → mS → Prop} (hr2 : ∀ (x1 : Int32) (x2 : Int32) (σ : mS), r2 x1 x2 σ → ∀ (H : Heap) (locs : List Loc) (ls : Array Slot), mO D y ad X A s.heap H locs σ → lv_has ls 11 [(0, .ref (ad 0)), (1, .int x1), (2, .int x2)] → W p l e rX8_without s m args below meth c H locs 0 0 (MQ below (va_Ql Q (mB D y ad X A) A) args s 0 0 A) (F0 m 2 ls [])) (n : Nat) : ∀ (x1 : Int32) (x2 : Int32) (x3 : Int32) (x4 : Int32) (σ : mS), w_without_12 Q r2 n x1 x2 x3 x4 σ → ∀ (H : Heap) (locs : List Loc) (ls : Array Slot), mO D y ad X A s.heap H locs σ → lv_has ls 11 [(0, .ref (ad 0)), (1, .int x1), (2, .int x2), (3, .int x3), (4, .int x4)] → W p l e rX8_without s m args below meth c H locs 0 0 (MQ below (va_Ql Q (mB D y ad X A) A) args s 0 0 A) (F0 m 12 ls []) := by
  obtain ⟨hx, hb, hr, hml, hown, hts, hlk, hK, hA⟩ := id C
  have hin : ∀ w ∈ wsX80, w ∈ wsX8_without := fun _ h => List.mem_cons_of_mem _ (List.mem_append_right _ h)
  induction n with
  | zero =>
    intro x1 x2 x3 x4 σ hw
    exact (show False from hw).elim
  | succ n ih =>
    intro x1 x2 x3 x4 σ hw H locs ls hO hl
    unfold w_without_12 at hw
    refine lv_iload hx hb dX8_without_12 (lv_at hl 4 rfl) ?_
    refine lv_bipush (v := 6) hx hb dX8_without_14 (by decide) ?_
    refine lv_icmp_ge (tgt := 56) hx hb dX8_without_16 (by decide) (fun hc => ?_) (fun hc => ?_)
    · have hw := hw.1 hc
      obtain ⟨x2_101, ex2_101⟩ : ∃ y : Int32, y = x2 + 1 := ⟨_, rfl⟩
      have hw := hw x2_101 ex2_101
      refine lv_iinc (v := x2_101) (lv' := [(2, .int x2_101), (0, .ref (ad 0)), (1, .int x1), (3, .int x3), (4, .int x4)]) hx hb dX8_without_56 hl (k := 2) rfl (by rw [ex2_101]; rfl) (by decide) rfl (fun ls hl => ?_)
      refine lv_goto (tgt := 2) hx hb dX8_without_59 (by decide) ?_
      exact hr2 x1 x2_101 σ hw H locs ls hO (lv_sub hl [1, 2, 0] rfl)
    · have hw := hw.2 hc
      refine lv_iload hx hb dX8_without_19 (lv_at hl 4 rfl) ?_
      refine lv_iload_n hx hb dX8_without_21 rfl (lv_at hl 1 rfl) ?_
      refine lv_icmp_eq (tgt := 50) hx hb dX8_without_22 (by decide) (fun hc => ?_) (fun hc => ?_)
      · have hw := hw.1 hc
        exact k_without_50 C hr2 (fun x1 x2 x3 x4 σ hw H locs ls hO hl => ih x1 x2 x3 x4 σ hw H locs ls hO hl) x1 x2 x3 x4 σ hw H locs ls hO (lv_sub hl [0, 1, 2, 3, 4] rfl)
      · have hw := hw.2 hc
        refine lv_aload_n hx hb dX8_without_25 rfl (lv_at hl 0 rfl) ?_
        refine mx_get C hO hin 13 (by decide) (idx := 45) (by decide +kernel) rfl rfl dX8_without_26 ?_
        refine lv_iconst (v := 5) hx hb dX8_without_29 (by decide) ?_
        refine lv_iload_n hx hb dX8_without_30 rfl (lv_at hl 2 rfl) ?_
        refine lv_imul hx hb dX8_without_31 ?_
        refine lv_iload_n hx hb dX8_without_32 rfl (lv_at hl 3 rfl) ?_
        refine lv_iadd hx hb dX8_without_33 ?_
        refine lv_aload_n hx hb dX8_without_34 rfl (lv_at hl 0 rfl) ?_
        refine mx_get C hO hin 12 (by decide) (idx := 42) (by decide +kernel) rfl rfl dX8_without_35 ?_
        refine lv_bipush (v := 6) hx hb dX8_without_38 (by decide) ?_
        refine lv_iload_n hx hb dX8_without_40 rfl (lv_at hl 2 rfl) ?_
        refine lv_imul hx hb dX8_without_41 ?_
        refine lv_iload hx hb dX8_without_42 (lv_at hl 4 rfl) ?_
        refine lv_iadd hx hb dX8_without_44 ?_
        refine mx_lald C hO (a := 11) rfl hw.1 dX8_without_45 ?_
        have hw := hw.2
        refine mx_last C hO (a := 12) rfl hw.1 dX8_without_46 (fun H locs σ102 eσ102 hO => ?_)
        have hw := hw.2 σ102 eσ102
        obtain ⟨x3_103, ex3_103⟩ : ∃ y : Int32, y = x3 + 1 := ⟨_, rfl⟩
        have hw := hw x3_103 ex3_103
        refine lv_iinc (v := x3_103) (lv' := [(3, .int x3_103), (0, .ref (ad 0)), (1, .int x1), (2, .int x2), (4, .int x4)]) hx hb dX8_without_47 hl (k := 3) rfl (by rw [ex3_103]; rfl) (by decide) rfl (fun ls hl => ?_)
        exact k_without_50 C hr2 (fun x1 x2 x3 x4 σ hw H locs ls hO hl => ih x1 x2 x3 x4 σ hw H locs ls hO hl) x1 x2 x3_103 x4 σ102 hw H locs ls hO (lv_sub hl [1, 2, 3, 0, 4] rfl)
set_option maxRecDepth 100000 in
set_option maxHeartbeats 4000000 in
theorem k_without_226 {p : Program} {l : Launch} {e : Env} {s : State} {m : MethodId} {args : Array Value} {below : List Frame} {meth : Method} {c : Code} {D : va_G} {y : Nat → ClassId} {ad : Nat → Nat} {X : va_W} {A : Nat → Prop} {Q : Int64 → mS → Prop} (C : mC p s m args meth c cX8_without 11 (some .long) wsX8_without D y A) {r70 : Int64 → Int64 → Int32 → mS → Prop} (hr70 : ∀ (x2 : Int64) (x4 : Int64) (x6 : Int32) (σ : mS), r70 x2 x4 x6 σ → ∀ (H : Heap) (locs : List Loc) (ls : Array Slot), mO D y ad X A s.heap H locs σ → lv_has ls 11 [(0, .ref (ad 0)), (2, .long x2), (4, .long x4), (6, .int x6)] → W p l e rX8_without s m args below meth c H locs 0 0 (MQ below (va_Ql Q (mB D y ad X A) A) args s 0 0 A) (F0 m 70 ls [])) {r214 : Int64 → Int64 → Int32 → Int32 → mS → Prop} (hr214 : ∀ (x2 : Int64) (x4 : Int64) (x6 : Int32) (x8 : Int32) (σ : mS), r214 x2 x4 x6 x8 σ → ∀ (H : Heap) (locs : List Loc) (ls : Array Slot), mO D y ad X A s.heap H locs σ → lv_has ls 11 [(0, .ref (ad 0)), (2, .long x2), (4, .long x4), (6, .int x6), (8, .int x8)] → W p l e rX8_without s m args below meth c H locs 0 0 (MQ below (va_Ql Q (mB D y ad X A) A) args s 0 0 A) (F0 m 214 ls [])) (n : Nat) : ∀ (x2 : Int64) (x4 : Int64) (x6 : Int32) (x8 : Int32) (x9 : Int32) (σ : mS), w_without_226 Q r70 r214 n x2 x4 x6 x8 x9 σ → ∀ (H : Heap) (locs : List Loc) (ls : Array Slot), mO D y ad X A s.heap H locs σ → lv_has ls 11 [(0, .ref (ad 0)), (2, .long x2), (4, .long x4), (6, .int x6), (8, .int x8), (9, .int x9)] → W p l e rX8_without s m args below meth c H locs 0 0 (MQ below (va_Ql Q (mB D y ad X A) A) args s 0 0 A) (F0 m 226 ls []) := by
  obtain ⟨hx, hb, hr, hml, hown, hts, hlk, hK, hA⟩ := id C
  have hin : ∀ w ∈ wsX80, w ∈ wsX8_without := fun _ h => List.mem_cons_of_mem _ (List.mem_append_right _ h)
  induction n with
  | zero =>
    intro x2 x4 x6 x8 x9 σ hw
    exact (show False from hw).elim
  | succ n ih =>
    intro x2 x4 x6 x8 x9 σ hw H locs ls hO hl
    unfold w_without_226 at hw
    refine lv_iload hx hb dX8_without_226 (lv_at hl 5 rfl) ?_
    refine lv_iconst (v := 5) hx hb dX8_without_228 (by decide) ?_
    refine lv_icmp_ge (tgt := 303) hx hb dX8_without_229 (by decide) (fun hc => ?_) (fun hc => ?_)
    · have hw := hw.1 hc
      obtain ⟨x8_101, ex8_101⟩ : ∃ y : Int32, y = x8 + 1 := ⟨_, rfl⟩
      have hw := hw x8_101 ex8_101
      refine lv_iinc (v := x8_101) (lv' := [(8, .int x8_101), (0, .ref (ad 0)), (2, .long x2), (4, .long x4), (6, .int x6), (9, .int x9)]) hx hb dX8_without_303 hl (k := 4) rfl (by rw [ex8_101]; rfl) (by decide) rfl (fun ls hl => ?_)
      refine lv_goto (tgt := 214) hx hb dX8_without_306 (by decide) ?_
      exact hr214 x2 x4 x6 x8_101 σ hw H locs ls hO (lv_sub hl [1, 2, 3, 4, 0] rfl)
    · have hw := hw.2 hc
      refine lv_aload_n hx hb dX8_without_232 rfl (lv_at hl 0 rfl) ?_
      refine mx_get C hO hin 13 (by decide) (idx := 45) (by decide +kernel) rfl rfl dX8_without_233 ?_
      refine lv_iconst (v := 5) hx hb dX8_without_236 (by decide) ?_
      refine lv_iload hx hb dX8_without_237 (lv_at hl 4 rfl) ?_
      refine lv_imul hx hb dX8_without_239 ?_
      refine lv_iload hx hb dX8_without_240 (lv_at hl 5 rfl) ?_
      refine lv_iadd hx hb dX8_without_242 ?_
      refine lv_aload_n hx hb dX8_without_243 rfl (lv_at hl 0 rfl) ?_
      refine mx_get C hO hin 13 (by decide) (idx := 45) (by decide +kernel) rfl rfl dX8_without_244 ?_
      refine lv_iconst (v := 5) hx hb dX8_without_247 (by decide) ?_
      refine lv_iload hx hb dX8_without_248 (lv_at hl 4 rfl) ?_
      refine lv_imul hx hb dX8_without_250 ?_
      refine lv_iload hx hb dX8_without_251 (lv_at hl 5 rfl) ?_
      refine lv_iadd hx hb dX8_without_253 ?_
      refine mx_lald C hO (a := 12) rfl hw.1 dX8_without_254 ?_
      have hw := hw.2
      refine lv_aload_n hx hb dX8_without_255 rfl (lv_at hl 0 rfl) ?_
      refine mx_get C hO hin 13 (by decide) (idx := 45) (by decide +kernel) rfl rfl dX8_without_256 ?_
      refine lv_iconst (v := 5) hx hb dX8_without_259 (by decide) ?_
      refine lv_iload hx hb dX8_without_260 (lv_at hl 3 rfl) ?_
      refine lv_imul hx hb dX8_without_262 ?_
      refine lv_iload hx hb dX8_without_263 (lv_at hl 3 rfl) ?_
      refine lv_iadd hx hb dX8_without_265 ?_
      refine mx_lald C hO (a := 12) rfl hw.1 dX8_without_266 ?_
      have hw := hw.2
      refine lv_lmul hx hb dX8_without_267 ?_
      refine lv_aload_n hx hb dX8_without_268 rfl (lv_at hl 0 rfl) ?_
      refine mx_get C hO hin 13 (by decide) (idx := 45) (by decide +kernel) rfl rfl dX8_without_269 ?_
      refine lv_iconst (v := 5) hx hb dX8_without_272 (by decide) ?_
      refine lv_iload hx hb dX8_without_273 (lv_at hl 4 rfl) ?_
      refine lv_imul hx hb dX8_without_275 ?_
      refine lv_iload hx hb dX8_without_276 (lv_at hl 3 rfl) ?_
      refine lv_iadd hx hb dX8_without_278 ?_
      refine mx_lald C hO (a := 12) rfl hw.1 dX8_without_279 ?_
      have hw := hw.2
      refine lv_aload_n hx hb dX8_without_280 rfl (lv_at hl 0 rfl) ?_
      refine mx_get C hO hin 13 (by decide) (idx := 45) (by decide +kernel) rfl rfl dX8_without_281 ?_
      refine lv_iconst (v := 5) hx hb dX8_without_284 (by decide) ?_
      refine lv_iload hx hb dX8_without_285 (lv_at hl 3 rfl) ?_
      refine lv_imul hx hb dX8_without_287 ?_
      refine lv_iload hx hb dX8_without_288 (lv_at hl 5 rfl) ?_
      refine lv_iadd hx hb dX8_without_290 ?_
      refine mx_lald C hO (a := 12) rfl hw.1 dX8_without_291 ?_
      have hw := hw.2
      refine lv_lmul hx hb dX8_without_292 ?_
      refine lv_lsub hx hb dX8_without_293 ?_
      refine lv_lload_n hx hb dX8_without_294 rfl (lv_at hl 1 rfl) ?_
      refine lv_ldiv hx hb dX8_without_295 hw.1 ?_
      have hw := hw.2
      refine mx_last C hO (a := 12) rfl hw.1 dX8_without_296 (fun H locs σ102 eσ102 hO => ?_)
      have hw := hw.2 σ102 eσ102
      obtain ⟨x9_103, ex9_103⟩ : ∃ y : Int32, y = x9 + 1 := ⟨_, rfl⟩
      have hw := hw x9_103 ex9_103
      refine lv_iinc (v := x9_103) (lv' := [(9, .int x9_103), (0, .ref (ad 0)), (2, .long x2), (4, .long x4), (6, .int x6), (8, .int x8)]) hx hb dX8_without_297 hl (k := 5) rfl (by rw [ex9_103]; rfl) (by decide) rfl (fun ls hl => ?_)
      refine lv_goto (tgt := 226) hx hb dX8_without_300 (by decide) ?_
      exact ih x2 x4 x6 x8 x9_103 σ102 hw H locs ls hO (lv_sub hl [1, 2, 3, 4, 5, 0] rfl)
set_option maxRecDepth 100000 in
set_option maxHeartbeats 4000000 in
theorem k_without_214 {p : Program} {l : Launch} {e : Env} {s : State} {m : MethodId} {args : Array Value} {below : List Frame} {meth : Method} {c : Code} {D : va_G} {y : Nat → ClassId} {ad : Nat → Nat} {X : va_W} {A : Nat → Prop} {Q : Int64 → mS → Prop} (C : mC p s m args meth c cX8_without 11 (some .long) wsX8_without D y A) {r70 : Int64 → Int64 → Int32 → mS → Prop} (hr70 : ∀ (x2 : Int64) (x4 : Int64) (x6 : Int32) (σ : mS), r70 x2 x4 x6 σ → ∀ (H : Heap) (locs : List Loc) (ls : Array Slot), mO D y ad X A s.heap H locs σ → lv_has ls 11 [(0, .ref (ad 0)), (2, .long x2), (4, .long x4), (6, .int x6)] → W p l e rX8_without s m args below meth c H locs 0 0 (MQ below (va_Ql Q (mB D y ad X A) A) args s 0 0 A) (F0 m 70 ls [])) (n : Nat) : ∀ (x2 : Int64) (x4 : Int64) (x6 : Int32) (x8 : Int32) (σ : mS), w_without_214 Q r70 n x2 x4 x6 x8 σ → ∀ (H : Heap) (locs : List Loc) (ls : Array Slot), mO D y ad X A s.heap H locs σ → lv_has ls 11 [(0, .ref (ad 0)), (2, .long x2), (4, .long x4), (6, .int x6), (8, .int x8)] → W p l e rX8_without s m args below meth c H locs 0 0 (MQ below (va_Ql Q (mB D y ad X A) A) args s 0 0 A) (F0 m 214 ls []) := by
  obtain ⟨hx, hb, hr, hml, hown, hts, hlk, hK, hA⟩ := id C
  have hin : ∀ w ∈ wsX80, w ∈ wsX8_without := fun _ h => List.mem_cons_of_mem _ (List.mem_append_right _ h)
  induction n with
  | zero =>
    intro x2 x4 x6 x8 σ hw
    exact (show False from hw).elim
  | succ n ih =>
    intro x2 x4 x6 x8 σ hw H locs ls hO hl
    unfold w_without_214 at hw
    refine lv_iload hx hb dX8_without_214 (lv_at hl 4 rfl) ?_
    refine lv_iconst (v := 5) hx hb dX8_without_216 (by decide) ?_
    refine lv_icmp_ge (tgt := 309) hx hb dX8_without_217 (by decide) (fun hc => ?_) (fun hc => ?_)
    · have hw := hw.1 hc
      refine lv_aload_n hx hb dX8_without_309 rfl (lv_at hl 0 rfl) ?_
      refine mx_get C hO hin 13 (by decide) (idx := 45) (by decide +kernel) rfl rfl dX8_without_310 ?_
      refine lv_iconst (v := 5) hx hb dX8_without_313 (by decide) ?_
      refine lv_iload hx hb dX8_without_314 (lv_at hl 3 rfl) ?_
      refine lv_imul hx hb dX8_without_316 ?_
      refine lv_iload hx hb dX8_without_317 (lv_at hl 3 rfl) ?_
      refine lv_iadd hx hb dX8_without_319 ?_
      refine mx_lald C hO (a := 12) rfl hw.1 dX8_without_320 ?_
      have hw := hw.2
      refine lv_topl (fun x2_101 ex2_101 => ?_)
      have hw := hw x2_101 ex2_101
      refine lv_lstore_n (lv' := [(2, .long x2_101), (0, .ref (ad 0)), (4, .long x4), (6, .int x6), (8, .int x8)]) hx hb dX8_without_321 rfl hl (by decide) rfl (fun ls hl => ?_)
      obtain ⟨x6_102, ex6_102⟩ : ∃ y : Int32, y = x6 + 1 := ⟨_, rfl⟩
      have hw := hw x6_102 ex6_102
      refine lv_iinc (v := x6_102) (lv' := [(6, .int x6_102), (2, .long x2_101), (0, .ref (ad 0)), (4, .long x4), (8, .int x8)]) hx hb dX8_without_322 hl (k := 3) rfl (by rw [ex6_102]; rfl) (by decide) rfl (fun ls hl => ?_)
      refine lv_goto (tgt := 70) hx hb dX8_without_325 (by decide) ?_
      exact hr70 x2_101 x4 x6_102 σ hw H locs ls hO (lv_sub hl [2, 1, 3, 0] rfl)
    · have hw := hw.2 hc
      refine lv_iload hx hb dX8_without_220 (lv_at hl 3 rfl) ?_
      refine lv_iconst (v := 1) hx hb dX8_without_222 (by decide) ?_
      refine lv_iadd hx hb dX8_without_223 ?_
      refine lv_topi (fun x9_103 ex9_103 => ?_)
      have hw := hw x9_103 ex9_103
      refine lv_istore (lv' := [(9, .int x9_103), (0, .ref (ad 0)), (2, .long x2), (4, .long x4), (6, .int x6), (8, .int x8)]) hx hb dX8_without_224 hl (by decide) rfl (fun ls hl => ?_)
      exact k_without_226 C hr70 (fun x2 x4 x6 x8 σ hw H locs ls hO hl => ih x2 x4 x6 x8 σ hw H locs ls hO hl) fuL x2 x4 x6 x8 x9_103 σ hw H locs ls hO (lv_sub hl [1, 2, 3, 4, 5, 0] rfl)
set_option maxRecDepth 100000 in
set_option maxHeartbeats 4000000 in
theorem k_without_206 {p : Program} {l : Launch} {e : Env} {s : State} {m : MethodId} {args : Array Value} {below : List Frame} {meth : Method} {c : Code} {D : va_G} {y : Nat → ClassId} {ad : Nat → Nat} {X : va_W} {A : Nat → Prop} {Q : Int64 → mS → Prop} (C : mC p s m args meth c cX8_without 11 (some .long) wsX8_without D y A) {r70 : Int64 → Int64 → Int32 → mS → Prop} (hr70 : ∀ (x2 : Int64) (x4 : Int64) (x6 : Int32) (σ : mS), r70 x2 x4 x6 σ → ∀ (H : Heap) (locs : List Loc) (ls : Array Slot), mO D y ad X A s.heap H locs σ → lv_has ls 11 [(0, .ref (ad 0)), (2, .long x2), (4, .long x4), (6, .int x6)] → W p l e rX8_without s m args below meth c H locs 0 0 (MQ below (va_Ql Q (mB D y ad X A) A) args s 0 0 A) (F0 m 70 ls [])) (x2 : Int64) (x6 : Int32) (z0 : Int64) (σ : mS) (hw : w_without_206 Q r70 x2 x6 z0 σ) (H : Heap) (locs : List Loc) (ls : Array Slot) (hO : mO D y ad X A s.heap H locs σ) (hl : lv_has ls 11 [(0, .ref (ad 0)), (2, .long x2), (6, .int x6)]) : W p l e rX8_without s m args below meth c H locs 0 0 (MQ below (va_Ql Q (mB D y ad X A) A) args s 0 0 A) (F0 m 206 ls [.long z0]) := by
  obtain ⟨hx, hb, hr, hml, hown, hts, hlk, hK, hA⟩ := id C
  unfold w_without_206 at hw
  refine lv_lstore (lv' := [(4, .long z0), (0, .ref (ad 0)), (2, .long x2), (6, .int x6)]) hx hb dX8_without_206 hl (by decide) rfl (fun ls hl => ?_)
  refine lv_iload hx hb dX8_without_208 (lv_at hl 3 rfl) ?_
  refine lv_iconst (v := 1) hx hb dX8_without_210 (by decide) ?_
  refine lv_iadd hx hb dX8_without_211 ?_
  refine lv_topi (fun x8_101 ex8_101 => ?_)
  have hw := hw x8_101 ex8_101
  refine lv_istore (lv' := [(8, .int x8_101), (4, .long z0), (0, .ref (ad 0)), (2, .long x2), (6, .int x6)]) hx hb dX8_without_212 hl (by decide) rfl (fun ls hl => ?_)
  exact k_without_214 C hr70 fuL x2 z0 x6 x8_101 σ hw H locs ls hO (lv_sub hl [2, 3, 1, 4, 0] rfl)
set_option maxRecDepth 100000 in
set_option maxHeartbeats 4000000 in
theorem k_without_191 {p : Program} {l : Launch} {e : Env} {s : State} {m : MethodId} {args : Array Value} {below : List Frame} {meth : Method} {c : Code} {D : va_G} {y : Nat → ClassId} {ad : Nat → Nat} {X : va_W} {A : Nat → Prop} {Q : Int64 → mS → Prop} (C : mC p s m args meth c cX8_without 11 (some .long) wsX8_without D y A) {r70 : Int64 → Int64 → Int32 → mS → Prop} (hr70 : ∀ (x2 : Int64) (x4 : Int64) (x6 : Int32) (σ : mS), r70 x2 x4 x6 σ → ∀ (H : Heap) (locs : List Loc) (ls : Array Slot), mO D y ad X A s.heap H locs σ → lv_has ls 11 [(0, .ref (ad 0)), (2, .long x2), (4, .long x4), (6, .int x6)] → W p l e rX8_without s m args below meth c H locs 0 0 (MQ below (va_Ql Q (mB D y ad X A) A) args s 0 0 A) (F0 m 70 ls [])) (x2 : Int64) (x4 : Int64) (x6 : Int32) (x7 : Int32) (σ : mS) (hw : w_without_191 Q r70 x2 x4 x6 x7 σ) (H : Heap) (locs : List Loc) (ls : Array Slot) (hO : mO D y ad X A s.heap H locs σ) (hl : lv_has ls 11 [(0, .ref (ad 0)), (2, .long x2), (4, .long x4), (6, .int x6), (7, .int x7)]) : W p l e rX8_without s m args below meth c H locs 0 0 (MQ below (va_Ql Q (mB D y ad X A) A) args s 0 0 A) (F0 m 191 ls []) := by
  obtain ⟨hx, hb, hr, hml, hown, hts, hlk, hK, hA⟩ := id C
  unfold w_without_191 at hw
  refine lv_iload hx hb dX8_without_191 (lv_at hl 4 rfl) ?_
  refine lv_iload hx hb dX8_without_193 (lv_at hl 3 rfl) ?_
  refine lv_icmp_eq (tgt := 204) hx hb dX8_without_195 (by decide) (fun hc => ?_) (fun hc => ?_)
  · have hw := hw.1 hc
    refine lv_lload hx hb dX8_without_204 (lv_at hl 2 rfl) ?_
    exact k_without_206 C hr70 x2 x6 x4 σ hw H locs ls hO (lv_sub hl [0, 1, 3] rfl)
  · have hw := hw.2 hc
    refine lv_lload hx hb dX8_without_198 (lv_at hl 2 rfl) ?_
    refine lv_lneg hx hb dX8_without_200 ?_
    refine lv_goto (tgt := 206) hx hb dX8_without_201 (by decide) ?_
    exact k_without_206 C hr70 x2 x6 (-x4) σ hw H locs ls hO (lv_sub hl [0, 1, 3] rfl)
set_option maxRecDepth 100000 in
set_option maxHeartbeats 4000000 in
theorem k_without_120 {p : Program} {l : Launch} {e : Env} {s : State} {m : MethodId} {args : Array Value} {below : List Frame} {meth : Method} {c : Code} {D : va_G} {y : Nat → ClassId} {ad : Nat → Nat} {X : va_W} {A : Nat → Prop} {Q : Int64 → mS → Prop} (C : mC p s m args meth c cX8_without 11 (some .long) wsX8_without D y A) {r70 : Int64 → Int64 → Int32 → mS → Prop} (hr70 : ∀ (x2 : Int64) (x4 : Int64) (x6 : Int32) (σ : mS), r70 x2 x4 x6 σ → ∀ (H : Heap) (locs : List Loc) (ls : Array Slot), mO D y ad X A s.heap H locs σ → lv_has ls 11 [(0, .ref (ad 0)), (2, .long x2), (4, .long x4), (6, .int x6)] → W p l e rX8_without s m args below meth c H locs 0 0 (MQ below (va_Ql Q (mB D y ad X A) A) args s 0 0 A) (F0 m 70 ls [])) (n : Nat) : ∀ (x2 : Int64) (x4 : Int64) (x6 : Int32) (x7 : Int32) (x8 : Int32) (σ : mS), w_without_120 Q r70 n x2 x4 x6 x7 x8 σ → ∀ (H : Heap) (locs : List Loc) (ls : Array Slot), mO D y ad X A s.heap H locs σ → lv_has ls 11 [(0, .ref (ad 0)), (2, .long x2), (4, .long x4), (6, .int x6), (7, .int x7), (8, .int x8)] → W p l e rX8_without s m args below meth c H locs 0 0 (MQ below (va_Ql Q (mB D y ad X A) A) args s 0 0 A) (F0 m 120 ls []) := by
  obtain ⟨hx, hb, hr, hml, hown, hts, hlk, hK, hA⟩ := id C
  have hin : ∀ w ∈ wsX80, w ∈ wsX8_without := fun _ h => List.mem_cons_of_mem _ (List.mem_append_right _ h)
  induction n with
  | zero =>
    intro x2 x4 x6 x7 x8 σ hw
    exact (show False from hw).elim
  | succ n ih =>
    intro x2 x4 x6 x7 x8 σ hw H locs ls hO hl
    unfold w_without_120 at hw
    refine lv_iload hx hb dX8_without_120 (lv_at hl 5 rfl) ?_
    refine lv_iconst (v := 5) hx hb dX8_without_122 (by decide) ?_
    refine lv_icmp_ge (tgt := 191) hx hb dX8_without_123 (by decide) (fun hc => ?_) (fun hc => ?_)
    · have hw := hw.1 hc
      exact k_without_191 C hr70 x2 x4 x6 x7 σ hw H locs ls hO (lv_sub hl [0, 1, 2, 3, 4] rfl)
    · have hw := hw.2 hc
      refine lv_iload hx hb dX8_without_126 (lv_at hl 4 rfl) ?_
      refine lv_iload hx hb dX8_without_128 (lv_at hl 3 rfl) ?_
      refine lv_icmp_eq (tgt := 191) hx hb dX8_without_130 (by decide) (fun hc => ?_) (fun hc => ?_)
      · have hw := hw.1 hc
        exact k_without_191 C hr70 x2 x4 x6 x7 σ hw H locs ls hO (lv_sub hl [0, 1, 2, 3, 4] rfl)
      · have hw := hw.2 hc
        refine lv_aload_n hx hb dX8_without_133 rfl (lv_at hl 0 rfl) ?_
        refine mx_get C hO hin 13 (by decide) (idx := 45) (by decide +kernel) rfl rfl dX8_without_134 ?_
        refine lv_iconst (v := 5) hx hb dX8_without_137 (by decide) ?_
        refine lv_iload hx hb dX8_without_138 (lv_at hl 4 rfl) ?_
        refine lv_imul hx hb dX8_without_140 ?_
        refine lv_iload hx hb dX8_without_141 (lv_at hl 5 rfl) ?_
        refine lv_iadd hx hb dX8_without_143 ?_
        refine mx_lald C hO (a := 12) rfl hw.1 dX8_without_144 ?_
        have hw := hw.2
        refine lv_topl (fun x9_101 ex9_101 => ?_)
        have hw := hw x9_101 ex9_101
        refine lv_lstore (lv' := [(9, .long x9_101), (0, .ref (ad 0)), (2, .long x2), (4, .long x4), (6, .int x6), (7, .int x7), (8, .int x8)]) hx hb dX8_without_145 hl (by decide) rfl (fun ls hl => ?_)
        refine lv_aload_n hx hb dX8_without_147 rfl (lv_at hl 1 rfl) ?_
        refine mx_get C hO hin 13 (by decide) (idx := 45) (by decide +kernel) rfl rfl dX8_without_148 ?_
        refine lv_iconst (v := 5) hx hb dX8_without_151 (by decide) ?_
        refine lv_iload hx hb dX8_without_152 (lv_at hl 5 rfl) ?_
        refine lv_imul hx hb dX8_without_154 ?_
        refine lv_iload hx hb dX8_without_155 (lv_at hl 6 rfl) ?_
        refine lv_iadd hx hb dX8_without_157 ?_
        refine lv_aload_n hx hb dX8_without_158 rfl (lv_at hl 1 rfl) ?_
        refine mx_get C hO hin 13 (by decide) (idx := 45) (by decide +kernel) rfl rfl dX8_without_159 ?_
        refine lv_iconst (v := 5) hx hb dX8_without_162 (by decide) ?_
        refine lv_iload hx hb dX8_without_163 (lv_at hl 4 rfl) ?_
        refine lv_imul hx hb dX8_without_165 ?_
        refine lv_iload hx hb dX8_without_166 (lv_at hl 6 rfl) ?_
        refine lv_iadd hx hb dX8_without_168 ?_
        refine mx_lald C hO (a := 12) rfl hw.1 dX8_without_169 ?_
        have hw := hw.2
        refine mx_last C hO (a := 12) rfl hw.1 dX8_without_170 (fun H locs σ102 eσ102 hO => ?_)
        have hw := hw.2 σ102 eσ102
        refine lv_aload_n hx hb dX8_without_171 rfl (lv_at hl 1 rfl) ?_
        refine mx_get C hO hin 13 (by decide) (idx := 45) (by decide +kernel) rfl rfl dX8_without_172 ?_
        refine lv_iconst (v := 5) hx hb dX8_without_175 (by decide) ?_
        refine lv_iload hx hb dX8_without_176 (lv_at hl 4 rfl) ?_
        refine lv_imul hx hb dX8_without_178 ?_
        refine lv_iload hx hb dX8_without_179 (lv_at hl 6 rfl) ?_
        refine lv_iadd hx hb dX8_without_181 ?_
        refine lv_lload hx hb dX8_without_182 (lv_at hl 0 rfl) ?_
        refine mx_last C hO (a := 12) rfl hw.1 dX8_without_184 (fun H locs σ103 eσ103 hO => ?_)
        have hw := hw.2 σ103 eσ103
        obtain ⟨x8_104, ex8_104⟩ : ∃ y : Int32, y = x8 + 1 := ⟨_, rfl⟩
        have hw := hw x8_104 ex8_104
        refine lv_iinc (v := x8_104) (lv' := [(8, .int x8_104), (9, .long x9_101), (0, .ref (ad 0)), (2, .long x2), (4, .long x4), (6, .int x6), (7, .int x7)]) hx hb dX8_without_185 hl (k := 6) rfl (by rw [ex8_104]; rfl) (by decide) rfl (fun ls hl => ?_)
        refine lv_goto (tgt := 120) hx hb dX8_without_188 (by decide) ?_
        exact ih x2 x4 x6 x7 x8_104 σ103 hw H locs ls hO (lv_sub hl [2, 3, 4, 5, 6, 0] rfl)
set_option maxRecDepth 100000 in
set_option maxHeartbeats 4000000 in
theorem k_without_109 {p : Program} {l : Launch} {e : Env} {s : State} {m : MethodId} {args : Array Value} {below : List Frame} {meth : Method} {c : Code} {D : va_G} {y : Nat → ClassId} {ad : Nat → Nat} {X : va_W} {A : Nat → Prop} {Q : Int64 → mS → Prop} (C : mC p s m args meth c cX8_without 11 (some .long) wsX8_without D y A) {r70 : Int64 → Int64 → Int32 → mS → Prop} (hr70 : ∀ (x2 : Int64) (x4 : Int64) (x6 : Int32) (σ : mS), r70 x2 x4 x6 σ → ∀ (H : Heap) (locs : List Loc) (ls : Array Slot), mO D y ad X A s.heap H locs σ → lv_has ls 11 [(0, .ref (ad 0)), (2, .long x2), (4, .long x4), (6, .int x6)] → W p l e rX8_without s m args below meth c H locs 0 0 (MQ below (va_Ql Q (mB D y ad X A) A) args s 0 0 A) (F0 m 70 ls [])) (x2 : Int64) (x4 : Int64) (x6 : Int32) (x7 : Int32) (σ : mS) (hw : w_without_109 Q r70 x2 x4 x6 x7 σ) (H : Heap) (locs : List Loc) (ls : Array Slot) (hO : mO D y ad X A s.heap H locs σ) (hl : lv_has ls 11 [(0, .ref (ad 0)), (2, .long x2), (4, .long x4), (6, .int x6), (7, .int x7)]) : W p l e rX8_without s m args below meth c H locs 0 0 (MQ below (va_Ql Q (mB D y ad X A) A) args s 0 0 A) (F0 m 109 ls []) := by
  obtain ⟨hx, hb, hr, hml, hown, hts, hlk, hK, hA⟩ := id C
  unfold w_without_109 at hw
  refine lv_iload hx hb dX8_without_109 (lv_at hl 4 rfl) ?_
  refine lv_iconst (v := 5) hx hb dX8_without_111 (by decide) ?_
  refine lv_icmp_ne (tgt := 117) hx hb dX8_without_112 (by decide) (fun hc => ?_) (fun hc => ?_)
  · have hw := hw.1 hc
    refine lv_iconst (v := 0) hx hb dX8_without_117 (by decide) ?_
    refine lv_istore (lv' := [(8, .int ((0 : Int32))), (0, .ref (ad 0)), (2, .long x2), (4, .long x4), (6, .int x6), (7, .int x7)]) hx hb dX8_without_118 hl (by decide) rfl (fun ls hl => ?_)
    exact k_without_120 C hr70 fuL x2 x4 x6 x7 ((0 : Int32)) σ hw H locs ls hO (lv_sub hl [1, 2, 3, 4, 5, 0] rfl)
  · have hw := hw.2 hc
    refine lv_lconst (v := 0) hx hb dX8_without_115 (by decide) ?_
    exact mx_lret C hO hw dX8_without_116
set_option maxRecDepth 100000 in
set_option maxHeartbeats 4000000 in
theorem k_without_80 {p : Program} {l : Launch} {e : Env} {s : State} {m : MethodId} {args : Array Value} {below : List Frame} {meth : Method} {c : Code} {D : va_G} {y : Nat → ClassId} {ad : Nat → Nat} {X : va_W} {A : Nat → Prop} {Q : Int64 → mS → Prop} (C : mC p s m args meth c cX8_without 11 (some .long) wsX8_without D y A) {r70 : Int64 → Int64 → Int32 → mS → Prop} (hr70 : ∀ (x2 : Int64) (x4 : Int64) (x6 : Int32) (σ : mS), r70 x2 x4 x6 σ → ∀ (H : Heap) (locs : List Loc) (ls : Array Slot), mO D y ad X A s.heap H locs σ → lv_has ls 11 [(0, .ref (ad 0)), (2, .long x2), (4, .long x4), (6, .int x6)] → W p l e rX8_without s m args below meth c H locs 0 0 (MQ below (va_Ql Q (mB D y ad X A) A) args s 0 0 A) (F0 m 70 ls [])) (n : Nat) : ∀ (x2 : Int64) (x4 : Int64) (x6 : Int32) (x7 : Int32) (σ : mS), w_without_80 Q r70 n x2 x4 x6 x7 σ → ∀ (H : Heap) (locs : List Loc) (ls : Array Slot), mO D y ad X A s.heap H locs σ → lv_has ls 11 [(0, .ref (ad 0)), (2, .long x2), (4, .long x4), (6, .int x6), (7, .int x7)] → W p l e rX8_without s m args below meth c H locs 0 0 (MQ below (va_Ql Q (mB D y ad X A) A) args s 0 0 A) (F0 m 80 ls []) := by
  obtain ⟨hx, hb, hr, hml, hown, hts, hlk, hK, hA⟩ := id C
  have hin : ∀ w ∈ wsX80, w ∈ wsX8_without := fun _ h => List.mem_cons_of_mem _ (List.mem_append_right _ h)
  induction n with
  | zero =>
    intro x2 x4 x6 x7 σ hw
    exact (show False from hw).elim
  | succ n ih =>
    intro x2 x4 x6 x7 σ hw H locs ls hO hl
    unfold w_without_80 at hw
    refine lv_iload hx hb dX8_without_80 (lv_at hl 4 rfl) ?_
    refine lv_iconst (v := 5) hx hb dX8_without_82 (by decide) ?_
    refine lv_icmp_ge (tgt := 109) hx hb dX8_without_83 (by decide) (fun hc => ?_) (fun hc => ?_)
    · have hw := hw.1 hc
      exact k_without_109 C hr70 x2 x4 x6 x7 σ hw H locs ls hO (lv_sub hl [0, 1, 2, 3, 4] rfl)
    · have hw := hw.2 hc
      refine lv_aload_n hx hb dX8_without_86 rfl (lv_at hl 0 rfl) ?_
      refine mx_get C hO hin 13 (by decide) (idx := 45) (by decide +kernel) rfl rfl dX8_without_87 ?_
      refine lv_iconst (v := 5) hx hb dX8_without_90 (by decide) ?_
      refine lv_iload hx hb dX8_without_91 (lv_at hl 4 rfl) ?_
      refine lv_imul hx hb dX8_without_93 ?_
      refine lv_iload hx hb dX8_without_94 (lv_at hl 3 rfl) ?_
      refine lv_iadd hx hb dX8_without_96 ?_
      refine mx_lald C hO (a := 12) rfl hw.1 dX8_without_97 ?_
      have hw := hw.2
      refine lv_lconst (v := 0) hx hb dX8_without_98 (by decide) ?_
      refine W.lcmp hx hb dX8_without_99 ?_
      refine lv_if_ne (tgt := 109) hx hb dX8_without_100 (by decide) (fun hc => ?_) (fun hc => ?_)
      · have hc := (not_congr (lg_cmp_eq _ _)).mp hc
        have hw := hw.1 hc
        exact k_without_109 C hr70 x2 x4 x6 x7 σ hw H locs ls hO (lv_sub hl [0, 1, 2, 3, 4] rfl)
      · have hc := (lg_cmp_eq _ _).mp hc
        have hw := hw.2 hc
        obtain ⟨x7_101, ex7_101⟩ : ∃ y : Int32, y = x7 + 1 := ⟨_, rfl⟩
        have hw := hw x7_101 ex7_101
        refine lv_iinc (v := x7_101) (lv' := [(7, .int x7_101), (0, .ref (ad 0)), (2, .long x2), (4, .long x4), (6, .int x6)]) hx hb dX8_without_103 hl (k := 4) rfl (by rw [ex7_101]; rfl) (by decide) rfl (fun ls hl => ?_)
        refine lv_goto (tgt := 80) hx hb dX8_without_106 (by decide) ?_
        exact ih x2 x4 x6 x7_101 σ hw H locs ls hO (lv_sub hl [1, 2, 3, 4, 0] rfl)
set_option maxRecDepth 100000 in
set_option maxHeartbeats 4000000 in
theorem k_without_70 {p : Program} {l : Launch} {e : Env} {s : State} {m : MethodId} {args : Array Value} {below : List Frame} {meth : Method} {c : Code} {D : va_G} {y : Nat → ClassId} {ad : Nat → Nat} {X : va_W} {A : Nat → Prop} {Q : Int64 → mS → Prop} (C : mC p s m args meth c cX8_without 11 (some .long) wsX8_without D y A) (n : Nat) : ∀ (x2 : Int64) (x4 : Int64) (x6 : Int32) (σ : mS), w_without_70 Q n x2 x4 x6 σ → ∀ (H : Heap) (locs : List Loc) (ls : Array Slot), mO D y ad X A s.heap H locs σ → lv_has ls 11 [(0, .ref (ad 0)), (2, .long x2), (4, .long x4), (6, .int x6)] → W p l e rX8_without s m args below meth c H locs 0 0 (MQ below (va_Ql Q (mB D y ad X A) A) args s 0 0 A) (F0 m 70 ls []) := by
  obtain ⟨hx, hb, hr, hml, hown, hts, hlk, hK, hA⟩ := id C
  have hin : ∀ w ∈ wsX80, w ∈ wsX8_without := fun _ h => List.mem_cons_of_mem _ (List.mem_append_right _ h)
  induction n with
  | zero =>
    intro x2 x4 x6 σ hw
    exact (show False from hw).elim
  | succ n ih =>
    intro x2 x4 x6 σ hw H locs ls hO hl
    unfold w_without_70 at hw
    refine lv_iload hx hb dX8_without_70 (lv_at hl 3 rfl) ?_
    refine lv_iconst (v := 4) hx hb dX8_without_72 (by decide) ?_
    refine lv_icmp_ge (tgt := 328) hx hb dX8_without_73 (by decide) (fun hc => ?_) (fun hc => ?_)
    · have hw := hw.1 hc
      refine lv_lload hx hb dX8_without_328 (lv_at hl 2 rfl) ?_
      refine lv_aload_n hx hb dX8_without_330 rfl (lv_at hl 0 rfl) ?_
      refine mx_get C hO hin 13 (by decide) (idx := 45) (by decide +kernel) rfl rfl dX8_without_331 ?_
      refine lv_bipush (v := 24) hx hb dX8_without_334 (by decide) ?_
      refine mx_lald C hO (a := 12) rfl hw.1 dX8_without_336 ?_
      have hw := hw.2
      refine lv_lmul hx hb dX8_without_337 ?_
      exact mx_lret C hO hw dX8_without_338
    · have hw := hw.2 hc
      refine lv_iload hx hb dX8_without_76 (lv_at hl 3 rfl) ?_
      refine lv_istore (lv' := [(7, .int x6), (0, .ref (ad 0)), (2, .long x2), (4, .long x4), (6, .int x6)]) hx hb dX8_without_78 hl (by decide) rfl (fun ls hl => ?_)
      exact k_without_80 C (fun x2 x4 x6 σ hw H locs ls hO hl => ih x2 x4 x6 σ hw H locs ls hO hl) fuL x2 x4 x6 x6 σ hw H locs ls hO (lv_sub hl [1, 2, 3, 4, 0] rfl)
set_option maxRecDepth 100000 in
set_option maxHeartbeats 4000000 in
theorem k_without_2 {p : Program} {l : Launch} {e : Env} {s : State} {m : MethodId} {args : Array Value} {below : List Frame} {meth : Method} {c : Code} {D : va_G} {y : Nat → ClassId} {ad : Nat → Nat} {X : va_W} {A : Nat → Prop} {Q : Int64 → mS → Prop} (C : mC p s m args meth c cX8_without 11 (some .long) wsX8_without D y A) (n : Nat) : ∀ (x1 : Int32) (x2 : Int32) (σ : mS), w_without_2 Q n x1 x2 σ → ∀ (H : Heap) (locs : List Loc) (ls : Array Slot), mO D y ad X A s.heap H locs σ → lv_has ls 11 [(0, .ref (ad 0)), (1, .int x1), (2, .int x2)] → W p l e rX8_without s m args below meth c H locs 0 0 (MQ below (va_Ql Q (mB D y ad X A) A) args s 0 0 A) (F0 m 2 ls []) := by
  obtain ⟨hx, hb, hr, hml, hown, hts, hlk, hK, hA⟩ := id C
  induction n with
  | zero =>
    intro x1 x2 σ hw
    exact (show False from hw).elim
  | succ n ih =>
    intro x1 x2 σ hw H locs ls hO hl
    unfold w_without_2 at hw
    refine lv_iload_n hx hb dX8_without_2 rfl (lv_at hl 2 rfl) ?_
    refine lv_iconst (v := 5) hx hb dX8_without_3 (by decide) ?_
    refine lv_icmp_ge (tgt := 62) hx hb dX8_without_4 (by decide) (fun hc => ?_) (fun hc => ?_)
    · have hw := hw.1 hc
      refine lv_lconst (v := 1) hx hb dX8_without_62 (by decide) ?_
      refine lv_lstore_n (lv' := [(2, .long ((1 : Int64))), (0, .ref (ad 0)), (1, .int x1)]) hx hb dX8_without_63 rfl hl (by decide) rfl (fun ls hl => ?_)
      refine lv_lconst (v := 1) hx hb dX8_without_64 (by decide) ?_
      refine lv_lstore (lv' := [(4, .long ((1 : Int64))), (2, .long ((1 : Int64))), (0, .ref (ad 0)), (1, .int x1)]) hx hb dX8_without_65 hl (by decide) rfl (fun ls hl => ?_)
      refine lv_iconst (v := 0) hx hb dX8_without_67 (by decide) ?_
      refine lv_istore (lv' := [(6, .int ((0 : Int32))), (4, .long ((1 : Int64))), (2, .long ((1 : Int64))), (0, .ref (ad 0)), (1, .int x1)]) hx hb dX8_without_68 hl (by decide) rfl (fun ls hl => ?_)
      exact k_without_70 C fuL ((1 : Int64)) ((1 : Int64)) ((0 : Int32)) σ hw H locs ls hO (lv_sub hl [3, 2, 1, 0] rfl)
    · have hw := hw.2 hc
      refine lv_iconst (v := 0) hx hb dX8_without_7 (by decide) ?_
      refine lv_istore_n (lv' := [(3, .int ((0 : Int32))), (0, .ref (ad 0)), (1, .int x1), (2, .int x2)]) hx hb dX8_without_8 rfl hl (by decide) rfl (fun ls hl => ?_)
      refine lv_iconst (v := 0) hx hb dX8_without_9 (by decide) ?_
      refine lv_istore (lv' := [(4, .int ((0 : Int32))), (3, .int ((0 : Int32))), (0, .ref (ad 0)), (1, .int x1), (2, .int x2)]) hx hb dX8_without_10 hl (by decide) rfl (fun ls hl => ?_)
      exact k_without_12 C (fun x1 x2 σ hw H locs ls hO hl => ih x1 x2 σ hw H locs ls hO hl) fuL x1 x2 ((0 : Int32)) ((0 : Int32)) σ hw H locs ls hO (lv_sub hl [2, 3, 4, 1, 0] rfl)
set_option maxRecDepth 100000 in
set_option maxHeartbeats 4000000 in
theorem k_without_e {p : Program} {l : Launch} {e : Env} {s : State} {m : MethodId} {args : Array Value} {below : List Frame} {meth : Method} {c : Code} {D : va_G} {y : Nat → ClassId} {ad : Nat → Nat} {X : va_W} {A : Nat → Prop} {Q : Int64 → mS → Prop} (C : mC p s m args meth c cX8_without 11 (some .long) wsX8_without D y A) (x1 : Int32) (σ : mS) (hw : w_without Q x1 σ) (H : Heap) (locs : List Loc) (ls : Array Slot) (hO : mO D y ad X A s.heap H locs σ) (hl : lv_has ls 11 [(0, .ref (ad 0)), (1, .int x1)]) : W p l e rX8_without s m args below meth c H locs 0 0 (MQ below (va_Ql Q (mB D y ad X A) A) args s 0 0 A) (F0 m 0 ls []) := by
  obtain ⟨hx, hb, hr, hml, hown, hts, hlk, hK, hA⟩ := id C
  unfold w_without at hw
  refine lv_iconst (v := 0) hx hb dX8_without_0 (by decide) ?_
  refine lv_istore_n (lv' := [(2, .int ((0 : Int32))), (0, .ref (ad 0)), (1, .int x1)]) hx hb dX8_without_1 rfl hl (by decide) rfl (fun ls hl => ?_)
  exact k_without_2 C fuL x1 ((0 : Int32)) σ hw H locs ls hO (lv_sub hl [1, 2, 0] rfl)
theorem c_without (l : Launch) (D : va_G) (y : Nat → ClassId) (ad : Nat → Nat) (X : va_W) (σ : mS) (x1 : Int32) (Q : Int64 → mS → Prop) (hw : w_without Q x1 σ) : ∀ sz, Met l yX8_without wsX8_without rX8_without (va_Pc [.ref (ad 0), .int x1] (mPre D y ad X sz σ)) (va_Ql Q (mB D y ad X (va_A (mW y ad σ ++ X) sz)) (va_A (mW y ad σ ++ X) sz)) 0 0 (va_A (mW y ad σ ++ X) sz) :=
  mMet (Qc := fun A => va_Ql Q (mB D y ad X A) A) rfl (Nat.le_of_ble_eq_true rfl) (fun p e s m args below meth c A ls C hO hl => k_without_e C x1 σ hw s.heap [] ls hO hl)
abbrev rX8_findLaw : Room := { frames := 1, cells := 0, slots := 0, locals := 30 }
set_option maxRecDepth 100000 in
set_option maxHeartbeats 4000000 in
theorem k_findLaw_88 {p : Program} {l : Launch} {e : Env} {s : State} {m : MethodId} {args : Array Value} {below : List Frame} {meth : Method} {c : Code} {D : va_G} {y : Nat → ClassId} {ad : Nat → Nat} {X : va_W} {A : Nat → Prop} {Q : mS → Prop} (C : mC p s m args meth c cX8_findLaw 7 none wsX8_findLaw D y A) {r2 : Int32 → Int32 → mS → Prop} (hr2 : ∀ (x1 : Int32) (x2 : Int32) (σ : mS), r2 x1 x2 σ → ∀ (H : Heap) (locs : List Loc) (ls : Array Slot), mO D y ad X A s.heap H locs σ → lv_has ls 7 [(0, .ref (ad 0)), (1, .int x1), (2, .int x2)] → W p l e rX8_findLaw s m args below meth c H locs 0 0 (MQ below (va_Qv Q (mB D y ad X A) A) args s 0 0 A) (F0 m 2 ls [])) {r9 : Int32 → Int32 → Int32 → mS → Prop} (hr9 : ∀ (x1 : Int32) (x2 : Int32) (x3 : Int32) (σ : mS), r9 x1 x2 x3 σ → ∀ (H : Heap) (locs : List Loc) (ls : Array Slot), mO D y ad X A s.heap H locs σ → lv_has ls 7 [(0, .ref (ad 0)), (1, .int x1), (2, .int x2), (3, .int x3)] → W p l e rX8_findLaw s m args below meth c H locs 0 0 (MQ below (va_Qv Q (mB D y ad X A) A) args s 0 0 A) (F0 m 9 ls [])) (x1 : Int32) (x2 : Int32) (x3 : Int32) (z1 : Int32) (z2 : Int64) (σ : mS) (hw : w_findLaw_88 Q r2 r9 x1 x2 x3 z1 z2 σ) (H : Heap) (locs : List Loc) (ls : Array Slot) (hO : mO D y ad X A s.heap H locs σ) (hl : lv_has ls 7 [(0, .ref (ad 0)), (1, .int x1), (2, .int x2), (3, .int x3)]) : W p l e rX8_findLaw s m args below meth c H locs 0 0 (MQ below (va_Qv Q (mB D y ad X A) A) args s 0 0 A) (F0 m 88 ls [.long z2, .int z1, .ref (ad 11)]) := by
  obtain ⟨hx, hb, hr, hml, hown, hts, hlk, hK, hA⟩ := id C
  unfold w_findLaw_88 at hw
  refine mx_last C hO (a := 11) rfl hw.1 dX8_findLaw_88 (fun H locs σ101 eσ101 hO => ?_)
  have hw := hw.2 σ101 eσ101
  obtain ⟨x3_102, ex3_102⟩ : ∃ y : Int32, y = x3 + 1 := ⟨_, rfl⟩
  have hw := hw x3_102 ex3_102
  refine lv_iinc (v := x3_102) (lv' := [(3, .int x3_102), (0, .ref (ad 0)), (1, .int x1), (2, .int x2)]) hx hb dX8_findLaw_89 hl (k := 3) rfl (by rw [ex3_102]; rfl) (by decide) rfl (fun ls hl => ?_)
  refine lv_goto (tgt := 9) hx hb dX8_findLaw_92 (by decide) ?_
  exact hr9 x1 x2 x3_102 σ101 hw H locs ls hO (lv_sub hl [1, 2, 3, 0] rfl)
set_option maxRecDepth 100000 in
set_option maxHeartbeats 4000000 in
theorem k_findLaw_55 {p : Program} {l : Launch} {e : Env} {s : State} {m : MethodId} {args : Array Value} {below : List Frame} {meth : Method} {c : Code} {D : va_G} {y : Nat → ClassId} {ad : Nat → Nat} {X : va_W} {A : Nat → Prop} {Q : mS → Prop} (C : mC p s m args meth c cX8_findLaw 7 none wsX8_findLaw D y A) {r2 : Int32 → Int32 → mS → Prop} (hr2 : ∀ (x1 : Int32) (x2 : Int32) (σ : mS), r2 x1 x2 σ → ∀ (H : Heap) (locs : List Loc) (ls : Array Slot), mO D y ad X A s.heap H locs σ → lv_has ls 7 [(0, .ref (ad 0)), (1, .int x1), (2, .int x2)] → W p l e rX8_findLaw s m args below meth c H locs 0 0 (MQ below (va_Qv Q (mB D y ad X A) A) args s 0 0 A) (F0 m 2 ls [])) {r9 : Int32 → Int32 → Int32 → mS → Prop} (hr9 : ∀ (x1 : Int32) (x2 : Int32) (x3 : Int32) (σ : mS), r9 x1 x2 x3 σ → ∀ (H : Heap) (locs : List Loc) (ls : Array Slot), mO D y ad X A s.heap H locs σ → lv_has ls 7 [(0, .ref (ad 0)), (1, .int x1), (2, .int x2), (3, .int x3)] → W p l e rX8_findLaw s m args below meth c H locs 0 0 (MQ below (va_Qv Q (mB D y ad X A) A) args s 0 0 A) (F0 m 9 ls [])) (x1 : Int32) (x2 : Int32) (x3 : Int32) (x4 : Int32) (z1 : Int32) (z2 : Int64) (σ : mS) (hw : w_findLaw_55 Q r2 r9 x1 x2 x3 x4 z1 z2 σ) (H : Heap) (locs : List Loc) (ls : Array Slot) (hO : mO D y ad X A s.heap H locs σ) (hl : lv_has ls 7 [(0, .ref (ad 0)), (1, .int x1), (2, .int x2), (3, .int x3), (4, .int x4)]) : W p l e rX8_findLaw s m args below meth c H locs 0 0 (MQ below (va_Qv Q (mB D y ad X A) A) args s 0 0 A) (F0 m 55 ls [.long z2, .int z1, .ref (ad 11)]) := by
  obtain ⟨hx, hb, hr, hml, hown, hts, hlk, hK, hA⟩ := id C
  have hin : ∀ w ∈ wsX80, w ∈ wsX8_findLaw := fun _ h => List.mem_cons_of_mem _ (List.mem_append_right _ h)
  unfold w_findLaw_55 at hw
  refine mx_last C hO (a := 11) rfl hw.1 dX8_findLaw_55 (fun H locs σ101 eσ101 hO => ?_)
  have hw := hw.2 σ101 eσ101
  refine lv_aload_n hx hb dX8_findLaw_56 rfl (lv_at hl 0 rfl) ?_
  refine mx_get C hO hin 12 (by decide) (idx := 42) (by decide +kernel) rfl rfl dX8_findLaw_57 ?_
  refine lv_bipush (v := 6) hx hb dX8_findLaw_60 (by decide) ?_
  refine lv_iload_n hx hb dX8_findLaw_62 rfl (lv_at hl 2 rfl) ?_
  refine lv_imul hx hb dX8_findLaw_63 ?_
  refine lv_iconst (v := 2) hx hb dX8_findLaw_64 (by decide) ?_
  refine lv_iload_n hx hb dX8_findLaw_65 rfl (lv_at hl 3 rfl) ?_
  refine lv_imul hx hb dX8_findLaw_66 ?_
  refine lv_iadd hx hb dX8_findLaw_67 ?_
  refine lv_iconst (v := 1) hx hb dX8_findLaw_68 (by decide) ?_
  refine lv_iadd hx hb dX8_findLaw_69 ?_
  refine lv_iload_n hx hb dX8_findLaw_70 rfl (lv_at hl 2 rfl) ?_
  refine lv_iconst (v := 4) hx hb dX8_findLaw_71 (by decide) ?_
  refine lv_icmp_ge (tgt := 87) hx hb dX8_findLaw_72 (by decide) (fun hc => ?_) (fun hc => ?_)
  · have hw := hw.1 hc
    refine lv_lconst (v := 0) hx hb dX8_findLaw_87 (by decide) ?_
    exact k_findLaw_88 C hr2 hr9 x1 x2 x3 ((((6 : Int32) * x2) + ((2 : Int32) * x3)) + (1 : Int32)) ((0 : Int64)) σ101 hw H locs ls hO (lv_sub hl [0, 1, 2, 3] rfl)
  · have hw := hw.2 hc
    refine lv_aload_n hx hb dX8_findLaw_75 rfl (lv_at hl 0 rfl) ?_
    refine mx_get C hO hin 1 (by decide) (idx := 13) (by decide +kernel) rfl rfl dX8_findLaw_76 ?_
    refine lv_iload hx hb dX8_findLaw_79 (lv_at hl 4 rfl) ?_
    refine lv_iload_n hx hb dX8_findLaw_81 rfl (lv_at hl 2 rfl) ?_
    refine lv_iadd hx hb dX8_findLaw_82 ?_
    refine mx_lald C hO (a := 2) rfl hw.1 dX8_findLaw_83 ?_
    have hw := hw.2
    refine lv_goto (tgt := 88) hx hb dX8_findLaw_84 (by decide) ?_
    exact k_findLaw_88 C hr2 hr9 x1 x2 x3 ((((6 : Int32) * x2) + ((2 : Int32) * x3)) + (1 : Int32)) (σ101.1 2 (x4 + x2).toNatClampNeg) σ101 hw H locs ls hO (lv_sub hl [0, 1, 2, 3] rfl)
set_option maxRecDepth 100000 in
set_option maxHeartbeats 4000000 in
theorem k_findLaw_9 {p : Program} {l : Launch} {e : Env} {s : State} {m : MethodId} {args : Array Value} {below : List Frame} {meth : Method} {c : Code} {D : va_G} {y : Nat → ClassId} {ad : Nat → Nat} {X : va_W} {A : Nat → Prop} {Q : mS → Prop} (C : mC p s m args meth c cX8_findLaw 7 none wsX8_findLaw D y A) {r2 : Int32 → Int32 → mS → Prop} (hr2 : ∀ (x1 : Int32) (x2 : Int32) (σ : mS), r2 x1 x2 σ → ∀ (H : Heap) (locs : List Loc) (ls : Array Slot), mO D y ad X A s.heap H locs σ → lv_has ls 7 [(0, .ref (ad 0)), (1, .int x1), (2, .int x2)] → W p l e rX8_findLaw s m args below meth c H locs 0 0 (MQ below (va_Qv Q (mB D y ad X A) A) args s 0 0 A) (F0 m 2 ls [])) (n : Nat) : ∀ (x1 : Int32) (x2 : Int32) (x3 : Int32) (σ : mS), w_findLaw_9 Q r2 n x1 x2 x3 σ → ∀ (H : Heap) (locs : List Loc) (ls : Array Slot), mO D y ad X A s.heap H locs σ → lv_has ls 7 [(0, .ref (ad 0)), (1, .int x1), (2, .int x2), (3, .int x3)] → W p l e rX8_findLaw s m args below meth c H locs 0 0 (MQ below (va_Qv Q (mB D y ad X A) A) args s 0 0 A) (F0 m 9 ls []) := by
  obtain ⟨hx, hb, hr, hml, hown, hts, hlk, hK, hA⟩ := id C
  have hin : ∀ w ∈ wsX80, w ∈ wsX8_findLaw := fun _ h => List.mem_cons_of_mem _ (List.mem_append_right _ h)
  induction n with
  | zero =>
    intro x1 x2 x3 σ hw
    exact (show False from hw).elim
  | succ n ih =>
    intro x1 x2 x3 σ hw H locs ls hO hl
    unfold w_findLaw_9 at hw
    refine lv_iload_n hx hb dX8_findLaw_9 rfl (lv_at hl 3 rfl) ?_
    refine lv_iconst (v := 3) hx hb dX8_findLaw_10 (by decide) ?_
    refine lv_icmp_ge (tgt := 95) hx hb dX8_findLaw_11 (by decide) (fun hc => ?_) (fun hc => ?_)
    · have hw := hw.1 hc
      obtain ⟨x2_101, ex2_101⟩ : ∃ y : Int32, y = x2 + 1 := ⟨_, rfl⟩
      have hw := hw x2_101 ex2_101
      refine lv_iinc (v := x2_101) (lv' := [(2, .int x2_101), (0, .ref (ad 0)), (1, .int x1), (3, .int x3)]) hx hb dX8_findLaw_95 hl (k := 2) rfl (by rw [ex2_101]; rfl) (by decide) rfl (fun ls hl => ?_)
      refine lv_goto (tgt := 2) hx hb dX8_findLaw_98 (by decide) ?_
      exact hr2 x1 x2_101 σ hw H locs ls hO (lv_sub hl [1, 2, 0] rfl)
    · have hw := hw.2 hc
      refine lv_bipush (v := 12) hx hb dX8_findLaw_14 (by decide) ?_
      refine lv_iload_n hx hb dX8_findLaw_16 rfl (lv_at hl 1 rfl) ?_
      refine lv_imul hx hb dX8_findLaw_17 ?_
      refine lv_iconst (v := 4) hx hb dX8_findLaw_18 (by decide) ?_
      refine lv_iload_n hx hb dX8_findLaw_19 rfl (lv_at hl 3 rfl) ?_
      refine lv_imul hx hb dX8_findLaw_20 ?_
      refine lv_iadd hx hb dX8_findLaw_21 ?_
      refine lv_topi (fun x4_102 ex4_102 => ?_)
      have hw := hw x4_102 ex4_102
      refine lv_istore (lv' := [(4, .int x4_102), (0, .ref (ad 0)), (1, .int x1), (2, .int x2), (3, .int x3)]) hx hb dX8_findLaw_22 hl (by decide) rfl (fun ls hl => ?_)
      refine lv_aload_n hx hb dX8_findLaw_24 rfl (lv_at hl 1 rfl) ?_
      refine mx_get C hO hin 12 (by decide) (idx := 42) (by decide +kernel) rfl rfl dX8_findLaw_25 ?_
      refine lv_bipush (v := 6) hx hb dX8_findLaw_28 (by decide) ?_
      refine lv_iload_n hx hb dX8_findLaw_30 rfl (lv_at hl 3 rfl) ?_
      refine lv_imul hx hb dX8_findLaw_31 ?_
      refine lv_iconst (v := 2) hx hb dX8_findLaw_32 (by decide) ?_
      refine lv_iload_n hx hb dX8_findLaw_33 rfl (lv_at hl 4 rfl) ?_
      refine lv_imul hx hb dX8_findLaw_34 ?_
      refine lv_iadd hx hb dX8_findLaw_35 ?_
      refine lv_iload_n hx hb dX8_findLaw_36 rfl (lv_at hl 3 rfl) ?_
      refine lv_if_le (tgt := 54) hx hb dX8_findLaw_37 (by decide) (fun hc => ?_) (fun hc => ?_)
      · have hw := hw.1 hc
        refine lv_lconst (v := 0) hx hb dX8_findLaw_54 (by decide) ?_
        exact k_findLaw_55 C hr2 (fun x1 x2 x3 σ hw H locs ls hO hl => ih x1 x2 x3 σ hw H locs ls hO hl) x1 x2 x3 x4_102 (((6 : Int32) * x2) + ((2 : Int32) * x3)) ((0 : Int64)) σ hw H locs ls hO (lv_sub hl [1, 2, 3, 4, 0] rfl)
      · have hw := hw.2 hc
        refine lv_aload_n hx hb dX8_findLaw_40 rfl (lv_at hl 1 rfl) ?_
        refine mx_get C hO hin 1 (by decide) (idx := 13) (by decide +kernel) rfl rfl dX8_findLaw_41 ?_
        refine lv_iload hx hb dX8_findLaw_44 (lv_at hl 0 rfl) ?_
        refine lv_iload_n hx hb dX8_findLaw_46 rfl (lv_at hl 3 rfl) ?_
        refine lv_iadd hx hb dX8_findLaw_47 ?_
        refine lv_iconst (v := 1) hx hb dX8_findLaw_48 (by decide) ?_
        refine lv_isub hx hb dX8_findLaw_49 ?_
        refine mx_lald C hO (a := 2) rfl hw.1 dX8_findLaw_50 ?_
        have hw := hw.2
        refine lv_goto (tgt := 55) hx hb dX8_findLaw_51 (by decide) ?_
        exact k_findLaw_55 C hr2 (fun x1 x2 x3 σ hw H locs ls hO hl => ih x1 x2 x3 σ hw H locs ls hO hl) x1 x2 x3 x4_102 (((6 : Int32) * x2) + ((2 : Int32) * x3)) (σ.1 2 ((x4_102 + x2) - (1 : Int32)).toNatClampNeg) σ hw H locs ls hO (lv_sub hl [1, 2, 3, 4, 0] rfl)
set_option maxRecDepth 100000 in
set_option maxHeartbeats 4000000 in
theorem k_findLaw_175 {p : Program} {l : Launch} {e : Env} {s : State} {m : MethodId} {args : Array Value} {below : List Frame} {meth : Method} {c : Code} {D : va_G} {y : Nat → ClassId} {ad : Nat → Nat} {X : va_W} {A : Nat → Prop} {Q : mS → Prop} (C : mC p s m args meth c cX8_findLaw 7 none wsX8_findLaw D y A) {r109 : Int64 → Int64 → Int32 → mS → Prop} (hr109 : ∀ (x2 : Int64) (x4 : Int64) (x6 : Int32) (σ : mS), r109 x2 x4 x6 σ → ∀ (H : Heap) (locs : List Loc) (ls : Array Slot), mO D y ad X A s.heap H locs σ → lv_has ls 7 [(0, .ref (ad 0)), (2, .long x2), (4, .long x4), (6, .int x6)] → W p l e rX8_findLaw s m args below meth c H locs 0 0 (MQ below (va_Qv Q (mB D y ad X A) A) args s 0 0 A) (F0 m 109 ls [])) (x2 : Int64) (x6 : Int32) (z0 : Int64) (σ : mS) (hw : w_findLaw_175 Q r109 x2 x6 z0 σ) (H : Heap) (locs : List Loc) (ls : Array Slot) (hO : mO D y ad X A s.heap H locs σ) (hl : lv_has ls 7 [(0, .ref (ad 0)), (2, .long x2), (6, .int x6)]) : W p l e rX8_findLaw s m args below meth c H locs 0 0 (MQ below (va_Qv Q (mB D y ad X A) A) args s 0 0 A) (F0 m 175 ls [.long z0]) := by
  obtain ⟨hx, hb, hr, hml, hown, hts, hlk, hK, hA⟩ := id C
  unfold w_findLaw_175 at hw
  refine lv_lstore (lv' := [(4, .long z0), (0, .ref (ad 0)), (2, .long x2), (6, .int x6)]) hx hb dX8_findLaw_175 hl (by decide) rfl (fun ls hl => ?_)
  obtain ⟨x6_101, ex6_101⟩ : ∃ y : Int32, y = x6 + 1 := ⟨_, rfl⟩
  have hw := hw x6_101 ex6_101
  refine lv_iinc (v := x6_101) (lv' := [(6, .int x6_101), (4, .long z0), (0, .ref (ad 0)), (2, .long x2)]) hx hb dX8_findLaw_177 hl (k := 3) rfl (by rw [ex6_101]; rfl) (by decide) rfl (fun ls hl => ?_)
  refine lv_goto (tgt := 109) hx hb dX8_findLaw_180 (by decide) ?_
  exact hr109 x2 z0 x6_101 σ hw H locs ls hO (lv_sub hl [2, 3, 1, 0] rfl)
set_option maxRecDepth 100000 in
set_option maxHeartbeats 4000000 in
theorem k_findLaw_142 {p : Program} {l : Launch} {e : Env} {s : State} {m : MethodId} {args : Array Value} {below : List Frame} {meth : Method} {c : Code} {D : va_G} {y : Nat → ClassId} {ad : Nat → Nat} {X : va_W} {A : Nat → Prop} {Q : mS → Prop} (C : mC p s m args meth c cX8_findLaw 7 none wsX8_findLaw D y A) {r109 : Int64 → Int64 → Int32 → mS → Prop} (hr109 : ∀ (x2 : Int64) (x4 : Int64) (x6 : Int32) (σ : mS), r109 x2 x4 x6 σ → ∀ (H : Heap) (locs : List Loc) (ls : Array Slot), mO D y ad X A s.heap H locs σ → lv_has ls 7 [(0, .ref (ad 0)), (2, .long x2), (4, .long x4), (6, .int x6)] → W p l e rX8_findLaw s m args below meth c H locs 0 0 (MQ below (va_Qv Q (mB D y ad X A) A) args s 0 0 A) (F0 m 109 ls [])) (x2 : Int64) (x4 : Int64) (x6 : Int32) (z1 : Int32) (z2 : Int64) (z3 : Int64) (σ : mS) (hw : w_findLaw_142 Q r109 x2 x4 x6 z1 z2 z3 σ) (H : Heap) (locs : List Loc) (ls : Array Slot) (hO : mO D y ad X A s.heap H locs σ) (hl : lv_has ls 7 [(0, .ref (ad 0)), (2, .long x2), (4, .long x4), (6, .int x6)]) : W p l e rX8_findLaw s m args below meth c H locs 0 0 (MQ below (va_Qv Q (mB D y ad X A) A) args s 0 0 A) (F0 m 142 ls [.long z3, .long z2, .int z1, .ref (ad 13)]) := by
  obtain ⟨hx, hb, hr, hml, hown, hts, hlk, hK, hA⟩ := id C
  have hin : ∀ w ∈ wsX80, w ∈ wsX8_findLaw := fun _ h => List.mem_cons_of_mem _ (List.mem_append_right _ h)
  unfold w_findLaw_142 at hw
  refine lv_lmul hx hb dX8_findLaw_142 ?_
  refine mx_last C hO (a := 13) rfl hw.1 dX8_findLaw_143 (fun H locs σ101 eσ101 hO => ?_)
  have hw := hw.2 σ101 eσ101
  refine lv_lload_n hx hb dX8_findLaw_144 rfl (lv_at hl 1 rfl) ?_
  refine lv_aload_n hx hb dX8_findLaw_145 rfl (lv_at hl 0 rfl) ?_
  refine mx_get C hO hin 14 (by decide) (idx := 48) (by decide +kernel) rfl rfl dX8_findLaw_146 ?_
  refine lv_iload hx hb dX8_findLaw_149 (lv_at hl 3 rfl) ?_
  refine mx_lald C hO (a := 13) rfl hw.1 dX8_findLaw_151 ?_
  have hw := hw.2
  refine mx_cls C hO (c_common l D y ad X σ101 x2 (σ101.1 13 (x6).toNatClampNeg) _ hw) (va_cwS 2 hts gX8_findLaw_X8_common rfl rfl rfl (by decide +kernel) ⟨Nat.le_of_ble_eq_true rfl, Nat.le_of_ble_eq_true rfl⟩) rfl hl.1 rfl (lv_room (Nat.le_of_ble_eq_true rfl)) dX8_findLaw_152 (fun u102 σ103 H locs hw hO => ?_)
  refine lv_lstore_n (lv' := [(2, .long u102), (0, .ref (ad 0)), (4, .long x4), (6, .int x6)]) hx hb dX8_findLaw_155 rfl hl (by decide) rfl (fun ls hl => ?_)
  refine lv_lload hx hb dX8_findLaw_156 (lv_at hl 2 rfl) ?_
  refine lv_lconst (v := 0) hx hb dX8_findLaw_158 (by decide) ?_
  refine W.lcmp hx hb dX8_findLaw_159 ?_
  refine lv_if_ne (tgt := 173) hx hb dX8_findLaw_160 (by decide) (fun hc => ?_) (fun hc => ?_)
  · have hc := (not_congr (lg_cmp_eq _ _)).mp hc
    have hw := hw.1 hc
    refine lv_lload hx hb dX8_findLaw_173 (lv_at hl 2 rfl) ?_
    exact k_findLaw_175 C hr109 u102 x6 x4 σ103 hw H locs ls hO (lv_sub hl [1, 0, 3] rfl)
  · have hc := (lg_cmp_eq _ _).mp hc
    have hw := hw.2 hc
    refine lv_aload_n hx hb dX8_findLaw_163 rfl (lv_at hl 1 rfl) ?_
    refine mx_get C hO hin 14 (by decide) (idx := 48) (by decide +kernel) rfl rfl dX8_findLaw_164 ?_
    refine lv_iload hx hb dX8_findLaw_167 (lv_at hl 3 rfl) ?_
    refine mx_lald C hO (a := 13) rfl hw.1 dX8_findLaw_169 ?_
    have hw := hw.2
    refine lv_goto (tgt := 175) hx hb dX8_findLaw_170 (by decide) ?_
    exact k_findLaw_175 C hr109 u102 x6 (σ103.1 13 (x6).toNatClampNeg) σ103 hw H locs ls hO (lv_sub hl [1, 0, 3] rfl)
set_option maxRecDepth 100000 in
set_option maxHeartbeats 4000000 in
theorem k_findLaw_200 {p : Program} {l : Launch} {e : Env} {s : State} {m : MethodId} {args : Array Value} {below : List Frame} {meth : Method} {c : Code} {D : va_G} {y : Nat → ClassId} {ad : Nat → Nat} {X : va_W} {A : Nat → Prop} {Q : mS → Prop} (C : mC p s m args meth c cX8_findLaw 7 none wsX8_findLaw D y A) (n : Nat) : ∀ (x2 : Int64) (x6 : Int32) (σ : mS), w_findLaw_200 Q n x2 x6 σ → ∀ (H : Heap) (locs : List Loc) (ls : Array Slot), mO D y ad X A s.heap H locs σ → lv_has ls 7 [(0, .ref (ad 0)), (2, .long x2), (6, .int x6)] → W p l e rX8_findLaw s m args below meth c H locs 0 0 (MQ below (va_Qv Q (mB D y ad X A) A) args s 0 0 A) (F0 m 200 ls []) := by
  obtain ⟨hx, hb, hr, hml, hown, hts, hlk, hK, hA⟩ := id C
  have hin : ∀ w ∈ wsX80, w ∈ wsX8_findLaw := fun _ h => List.mem_cons_of_mem _ (List.mem_append_right _ h)
  induction n with
  | zero =>
    intro x2 x6 σ hw
    exact (show False from hw).elim
  | succ n ih =>
    intro x2 x6 σ hw H locs ls hO hl
    unfold w_findLaw_200 at hw
    refine lv_iload hx hb dX8_findLaw_200 (lv_at hl 2 rfl) ?_
    refine lv_bipush (v := 6) hx hb dX8_findLaw_202 (by decide) ?_
    refine lv_icmp_ge (tgt := 224) hx hb dX8_findLaw_204 (by decide) (fun hc => ?_) (fun hc => ?_)
    · have hw := hw.1 hc
      exact mx_vret C hO hw dX8_findLaw_224
    · have hw := hw.2 hc
      refine lv_aload_n hx hb dX8_findLaw_207 rfl (lv_at hl 0 rfl) ?_
      refine mx_get C hO hin 14 (by decide) (idx := 48) (by decide +kernel) rfl rfl dX8_findLaw_208 ?_
      refine lv_iload hx hb dX8_findLaw_211 (lv_at hl 2 rfl) ?_
      refine lv_dup2_11 hx hb dX8_findLaw_213 rfl rfl ?_
      refine mx_lald C hO (a := 13) rfl hw.1 dX8_findLaw_214 ?_
      have hw := hw.2
      refine lv_lload_n hx hb dX8_findLaw_215 rfl (lv_at hl 1 rfl) ?_
      refine lv_ldiv hx hb dX8_findLaw_216 hw.1 ?_
      have hw := hw.2
      refine mx_last C hO (a := 13) rfl hw.1 dX8_findLaw_217 (fun H locs σ101 eσ101 hO => ?_)
      have hw := hw.2 σ101 eσ101
      obtain ⟨x6_102, ex6_102⟩ : ∃ y : Int32, y = x6 + 1 := ⟨_, rfl⟩
      have hw := hw x6_102 ex6_102
      refine lv_iinc (v := x6_102) (lv' := [(6, .int x6_102), (0, .ref (ad 0)), (2, .long x2)]) hx hb dX8_findLaw_218 hl (k := 2) rfl (by rw [ex6_102]; rfl) (by decide) rfl (fun ls hl => ?_)
      refine lv_goto (tgt := 200) hx hb dX8_findLaw_221 (by decide) ?_
      exact ih x2 x6_102 σ101 hw H locs ls hO (lv_sub hl [1, 2, 0] rfl)
set_option maxRecDepth 100000 in
set_option maxHeartbeats 4000000 in
theorem k_findLaw_196 {p : Program} {l : Launch} {e : Env} {s : State} {m : MethodId} {args : Array Value} {below : List Frame} {meth : Method} {c : Code} {D : va_G} {y : Nat → ClassId} {ad : Nat → Nat} {X : va_W} {A : Nat → Prop} {Q : mS → Prop} (C : mC p s m args meth c cX8_findLaw 7 none wsX8_findLaw D y A) (z0 : Int64) (σ : mS) (hw : w_findLaw_196 Q z0 σ) (H : Heap) (locs : List Loc) (ls : Array Slot) (hO : mO D y ad X A s.heap H locs σ) (hl : lv_has ls 7 [(0, .ref (ad 0))]) : W p l e rX8_findLaw s m args below meth c H locs 0 0 (MQ below (va_Qv Q (mB D y ad X A) A) args s 0 0 A) (F0 m 196 ls [.long z0]) := by
  obtain ⟨hx, hb, hr, hml, hown, hts, hlk, hK, hA⟩ := id C
  unfold w_findLaw_196 at hw
  refine lv_lstore_n (lv' := [(2, .long z0), (0, .ref (ad 0))]) hx hb dX8_findLaw_196 rfl hl (by decide) rfl (fun ls hl => ?_)
  refine lv_iconst (v := 0) hx hb dX8_findLaw_197 (by decide) ?_
  refine lv_istore (lv' := [(6, .int ((0 : Int32))), (2, .long z0), (0, .ref (ad 0))]) hx hb dX8_findLaw_198 hl (by decide) rfl (fun ls hl => ?_)
  exact k_findLaw_200 C fuL z0 ((0 : Int32)) σ hw H locs ls hO (lv_sub hl [2, 1, 0] rfl)
set_option maxRecDepth 100000 in
set_option maxHeartbeats 4000000 in
theorem k_findLaw_109 {p : Program} {l : Launch} {e : Env} {s : State} {m : MethodId} {args : Array Value} {below : List Frame} {meth : Method} {c : Code} {D : va_G} {y : Nat → ClassId} {ad : Nat → Nat} {X : va_W} {A : Nat → Prop} {Q : mS → Prop} (C : mC p s m args meth c cX8_findLaw 7 none wsX8_findLaw D y A) (n : Nat) : ∀ (x2 : Int64) (x4 : Int64) (x6 : Int32) (σ : mS), w_findLaw_109 Q n x2 x4 x6 σ → ∀ (H : Heap) (locs : List Loc) (ls : Array Slot), mO D y ad X A s.heap H locs σ → lv_has ls 7 [(0, .ref (ad 0)), (2, .long x2), (4, .long x4), (6, .int x6)] → W p l e rX8_findLaw s m args below meth c H locs 0 0 (MQ below (va_Qv Q (mB D y ad X A) A) args s 0 0 A) (F0 m 109 ls []) := by
  obtain ⟨hx, hb, hr, hml, hown, hts, hlk, hK, hA⟩ := id C
  have hin : ∀ w ∈ wsX80, w ∈ wsX8_findLaw := fun _ h => List.mem_cons_of_mem _ (List.mem_append_right _ h)
  induction n with
  | zero =>
    intro x2 x4 x6 σ hw
    exact (show False from hw).elim
  | succ n ih =>
    intro x2 x4 x6 σ hw H locs ls hO hl
    unfold w_findLaw_109 at hw
    refine lv_iload hx hb dX8_findLaw_109 (lv_at hl 3 rfl) ?_
    refine lv_bipush (v := 6) hx hb dX8_findLaw_111 (by decide) ?_
    refine lv_icmp_ge (tgt := 183) hx hb dX8_findLaw_113 (by decide) (fun hc => ?_) (fun hc => ?_)
    · have hw := hw.1 hc
      refine lv_lload hx hb dX8_findLaw_183 (lv_at hl 2 rfl) ?_
      refine lv_lconst (v := 0) hx hb dX8_findLaw_185 (by decide) ?_
      refine W.lcmp hx hb dX8_findLaw_186 ?_
      refine lv_if_ge (tgt := 195) hx hb dX8_findLaw_187 (by decide) (fun hc => ?_) (fun hc => ?_)
      · have hc := (lg_cmp_ge _ _).mp hc
        have hw := hw.1 hc
        refine lv_lload_n hx hb dX8_findLaw_195 rfl (lv_at hl 1 rfl) ?_
        exact k_findLaw_196 C x2 σ hw H locs ls hO (lv_sub hl [0] rfl)
      · have hc := (not_congr (lg_cmp_ge _ _)).mp hc
        have hw := hw.2 hc
        refine lv_lload_n hx hb dX8_findLaw_190 rfl (lv_at hl 1 rfl) ?_
        refine lv_lneg hx hb dX8_findLaw_191 ?_
        refine lv_goto (tgt := 196) hx hb dX8_findLaw_192 (by decide) ?_
        exact k_findLaw_196 C (-x2) σ hw H locs ls hO (lv_sub hl [0] rfl)
    · have hw := hw.2 hc
      refine lv_aload_n hx hb dX8_findLaw_116 rfl (lv_at hl 0 rfl) ?_
      refine mx_get C hO hin 14 (by decide) (idx := 48) (by decide +kernel) rfl rfl dX8_findLaw_117 ?_
      refine lv_iload hx hb dX8_findLaw_120 (lv_at hl 3 rfl) ?_
      refine lv_aload_n hx hb dX8_findLaw_122 rfl (lv_at hl 0 rfl) ?_
      refine lv_iload hx hb dX8_findLaw_123 (lv_at hl 3 rfl) ?_
      refine mx_clv C hO (c_without l D y ad X σ x6 _ hw) (cwV 1 hts gX8_findLaw_X8_without rfl rfl rfl (by decide +kernel) ⟨Nat.le_of_ble_eq_true rfl, Nat.le_of_ble_eq_true rfl⟩) rfl hl.1 rfl (lv_room (Nat.le_of_ble_eq_true rfl)) dX8_findLaw_125 (fun u101 σ102 H locs hw hO => ?_)
      refine lv_iload hx hb dX8_findLaw_128 (lv_at hl 3 rfl) ?_
      refine lv_iconst (v := 2) hx hb dX8_findLaw_130 (by decide) ?_
      refine lv_irem hx hb dX8_findLaw_131 hw.1 ?_
      have hw := hw.2
      refine lv_if_ne (tgt := 139) hx hb dX8_findLaw_132 (by decide) (fun hc => ?_) (fun hc => ?_)
      · have hw := hw.1 hc
        refine lv_ldc2 (v := -1) hx hb hown (hts (.constantLong RX8 195 (-1)) (by decide +kernel)) dX8_findLaw_139 ?_
        exact k_findLaw_142 C (fun x2 x4 x6 σ hw H locs ls hO hl => ih x2 x4 x6 σ hw H locs ls hO hl) x2 x4 x6 x6 u101 ((-1 : Int64)) σ102 hw H locs ls hO (lv_sub hl [0, 1, 2, 3] rfl)
      · have hw := hw.2 hc
        refine lv_lconst (v := 1) hx hb dX8_findLaw_135 (by decide) ?_
        refine lv_goto (tgt := 142) hx hb dX8_findLaw_136 (by decide) ?_
        exact k_findLaw_142 C (fun x2 x4 x6 σ hw H locs ls hO hl => ih x2 x4 x6 σ hw H locs ls hO hl) x2 x4 x6 x6 u101 ((1 : Int64)) σ102 hw H locs ls hO (lv_sub hl [0, 1, 2, 3] rfl)
set_option maxRecDepth 100000 in
set_option maxHeartbeats 4000000 in
theorem k_findLaw_2 {p : Program} {l : Launch} {e : Env} {s : State} {m : MethodId} {args : Array Value} {below : List Frame} {meth : Method} {c : Code} {D : va_G} {y : Nat → ClassId} {ad : Nat → Nat} {X : va_W} {A : Nat → Prop} {Q : mS → Prop} (C : mC p s m args meth c cX8_findLaw 7 none wsX8_findLaw D y A) (n : Nat) : ∀ (x1 : Int32) (x2 : Int32) (σ : mS), w_findLaw_2 Q n x1 x2 σ → ∀ (H : Heap) (locs : List Loc) (ls : Array Slot), mO D y ad X A s.heap H locs σ → lv_has ls 7 [(0, .ref (ad 0)), (1, .int x1), (2, .int x2)] → W p l e rX8_findLaw s m args below meth c H locs 0 0 (MQ below (va_Qv Q (mB D y ad X A) A) args s 0 0 A) (F0 m 2 ls []) := by
  obtain ⟨hx, hb, hr, hml, hown, hts, hlk, hK, hA⟩ := id C
  induction n with
  | zero =>
    intro x1 x2 σ hw
    exact (show False from hw).elim
  | succ n ih =>
    intro x1 x2 σ hw H locs ls hO hl
    unfold w_findLaw_2 at hw
    refine lv_iload_n hx hb dX8_findLaw_2 rfl (lv_at hl 2 rfl) ?_
    refine lv_iconst (v := 5) hx hb dX8_findLaw_3 (by decide) ?_
    refine lv_icmp_ge (tgt := 101) hx hb dX8_findLaw_4 (by decide) (fun hc => ?_) (fun hc => ?_)
    · have hw := hw.1 hc
      refine lv_lconst (v := 0) hx hb dX8_findLaw_101 (by decide) ?_
      refine lv_lstore_n (lv' := [(2, .long ((0 : Int64))), (0, .ref (ad 0)), (1, .int x1)]) hx hb dX8_findLaw_102 rfl hl (by decide) rfl (fun ls hl => ?_)
      refine lv_lconst (v := 0) hx hb dX8_findLaw_103 (by decide) ?_
      refine lv_lstore (lv' := [(4, .long ((0 : Int64))), (2, .long ((0 : Int64))), (0, .ref (ad 0)), (1, .int x1)]) hx hb dX8_findLaw_104 hl (by decide) rfl (fun ls hl => ?_)
      refine lv_iconst (v := 0) hx hb dX8_findLaw_106 (by decide) ?_
      refine lv_istore (lv' := [(6, .int ((0 : Int32))), (4, .long ((0 : Int64))), (2, .long ((0 : Int64))), (0, .ref (ad 0)), (1, .int x1)]) hx hb dX8_findLaw_107 hl (by decide) rfl (fun ls hl => ?_)
      exact k_findLaw_109 C fuL ((0 : Int64)) ((0 : Int64)) ((0 : Int32)) σ hw H locs ls hO (lv_sub hl [3, 2, 1, 0] rfl)
    · have hw := hw.2 hc
      refine lv_iconst (v := 0) hx hb dX8_findLaw_7 (by decide) ?_
      refine lv_istore_n (lv' := [(3, .int ((0 : Int32))), (0, .ref (ad 0)), (1, .int x1), (2, .int x2)]) hx hb dX8_findLaw_8 rfl hl (by decide) rfl (fun ls hl => ?_)
      exact k_findLaw_9 C (fun x1 x2 σ hw H locs ls hO hl => ih x1 x2 σ hw H locs ls hO hl) fuL x1 x2 ((0 : Int32)) σ hw H locs ls hO (lv_sub hl [1, 2, 3, 0] rfl)
set_option maxRecDepth 100000 in
set_option maxHeartbeats 4000000 in
theorem k_findLaw_e {p : Program} {l : Launch} {e : Env} {s : State} {m : MethodId} {args : Array Value} {below : List Frame} {meth : Method} {c : Code} {D : va_G} {y : Nat → ClassId} {ad : Nat → Nat} {X : va_W} {A : Nat → Prop} {Q : mS → Prop} (C : mC p s m args meth c cX8_findLaw 7 none wsX8_findLaw D y A) (x1 : Int32) (σ : mS) (hw : w_findLaw Q x1 σ) (H : Heap) (locs : List Loc) (ls : Array Slot) (hO : mO D y ad X A s.heap H locs σ) (hl : lv_has ls 7 [(0, .ref (ad 0)), (1, .int x1)]) : W p l e rX8_findLaw s m args below meth c H locs 0 0 (MQ below (va_Qv Q (mB D y ad X A) A) args s 0 0 A) (F0 m 0 ls []) := by
  obtain ⟨hx, hb, hr, hml, hown, hts, hlk, hK, hA⟩ := id C
  unfold w_findLaw at hw
  refine lv_iconst (v := 0) hx hb dX8_findLaw_0 (by decide) ?_
  refine lv_istore_n (lv' := [(2, .int ((0 : Int32))), (0, .ref (ad 0)), (1, .int x1)]) hx hb dX8_findLaw_1 rfl hl (by decide) rfl (fun ls hl => ?_)
  exact k_findLaw_2 C fuL x1 ((0 : Int32)) σ hw H locs ls hO (lv_sub hl [1, 2, 0] rfl)
theorem c_findLaw (l : Launch) (D : va_G) (y : Nat → ClassId) (ad : Nat → Nat) (X : va_W) (σ : mS) (x1 : Int32) (Q : mS → Prop) (hw : w_findLaw Q x1 σ) : ∀ sz, Met l yX8_findLaw wsX8_findLaw rX8_findLaw (va_Pc [.ref (ad 0), .int x1] (mPre D y ad X sz σ)) (va_Qv Q (mB D y ad X (va_A (mW y ad σ ++ X) sz)) (va_A (mW y ad σ ++ X) sz)) 0 0 (va_A (mW y ad σ ++ X) sz) :=
  mMet (Qc := fun A => va_Qv Q (mB D y ad X A) A) rfl (Nat.le_of_ble_eq_true rfl) (fun p e s m args below meth c A ls C hO hl => k_findLaw_e C x1 σ hw s.heap [] ls hO hl)
abbrev rX8_findKnot : Room := { frames := 2, cells := 0, slots := 0, locals := 57 }
set_option maxRecDepth 100000 in
set_option maxHeartbeats 4000000 in
theorem k_findKnot_47 {p : Program} {l : Launch} {e : Env} {s : State} {m : MethodId} {args : Array Value} {below : List Frame} {meth : Method} {c : Code} {D : va_G} {y : Nat → ClassId} {ad : Nat → Nat} {X : va_W} {A : Nat → Prop} {Q : mS → Prop} (C : mC p s m args meth c cX8_findKnot 3 none wsX8_findKnot D y A) (n : Nat) : ∀ (x2 : Int32) (σ : mS), w_findKnot_47 Q n x2 σ → ∀ (H : Heap) (locs : List Loc) (ls : Array Slot), mO D y ad X A s.heap H locs σ → lv_has ls 3 [(0, .ref (ad 0)), (2, .int x2)] → W p l e rX8_findKnot s m args below meth c H locs 0 0 (MQ below (va_Qv Q (mB D y ad X A) A) args s 0 0 A) (F0 m 47 ls []) := by
  obtain ⟨hx, hb, hr, hml, hown, hts, hlk, hK, hA⟩ := id C
  have hin : ∀ w ∈ wsX80, w ∈ wsX8_findKnot := fun _ h => List.mem_cons_of_mem _ (List.mem_append_right _ h)
  induction n with
  | zero =>
    intro x2 σ hw
    exact (show False from hw).elim
  | succ n ih =>
    intro x2 σ hw H locs ls hO hl
    unfold w_findKnot_47 at hw
    refine lv_iload_n hx hb dX8_findKnot_47 rfl (lv_at hl 1 rfl) ?_
    refine lv_iconst (v := 3) hx hb dX8_findKnot_48 (by decide) ?_
    refine lv_icmp_ge (tgt := 70) hx hb dX8_findKnot_49 (by decide) (fun hc => ?_) (fun hc => ?_)
    · have hw := hw.1 hc
      refine lv_aload_n hx hb dX8_findKnot_70 rfl (lv_at hl 0 rfl) ?_
      refine lv_iconst (v := 1) hx hb dX8_findKnot_71 (by decide) ?_
      refine mx_cvv C hO (c_tidy l D y ad X σ ((1 : Int32)) _ hw) (cwV 1 hts gX8_findKnot_X8_tidy rfl rfl rfl (by decide +kernel) ⟨Nat.le_of_ble_eq_true rfl, Nat.le_of_ble_eq_true rfl⟩) rfl hl.1 rfl (lv_room (Nat.le_of_ble_eq_true rfl)) dX8_findKnot_72 (fun σ102 H locs hw hO => ?_)
      exact mx_vret C hO hw dX8_findKnot_75
    · have hw := hw.2 hc
      refine lv_aload_n hx hb dX8_findKnot_52 rfl (lv_at hl 0 rfl) ?_
      refine mx_get C hO hin 9 (by decide) (idx := 33) (by decide +kernel) rfl rfl dX8_findKnot_53 ?_
      refine lv_iload_n hx hb dX8_findKnot_56 rfl (lv_at hl 1 rfl) ?_
      refine lv_aload_n hx hb dX8_findKnot_57 rfl (lv_at hl 0 rfl) ?_
      refine mx_get C hO hin 5 (by decide) (idx := 26) (by decide +kernel) rfl rfl dX8_findKnot_58 ?_
      refine lv_iload_n hx hb dX8_findKnot_61 rfl (lv_at hl 1 rfl) ?_
      refine mx_lald C hO (a := 6) rfl hw.1 dX8_findKnot_62 ?_
      have hw := hw.2
      refine mx_last C hO (a := 8) rfl hw.1 dX8_findKnot_63 (fun H locs σ103 eσ103 hO => ?_)
      have hw := hw.2 σ103 eσ103
      obtain ⟨x2_104, ex2_104⟩ : ∃ y : Int32, y = x2 + 1 := ⟨_, rfl⟩
      have hw := hw x2_104 ex2_104
      refine lv_iinc (v := x2_104) (lv' := [(2, .int x2_104), (0, .ref (ad 0))]) hx hb dX8_findKnot_64 hl (k := 1) rfl (by rw [ex2_104]; rfl) (by decide) rfl (fun ls hl => ?_)
      refine lv_goto (tgt := 47) hx hb dX8_findKnot_67 (by decide) ?_
      exact ih x2_104 σ103 hw H locs ls hO (lv_sub hl [1, 0] rfl)
set_option maxRecDepth 100000 in
set_option maxHeartbeats 4000000 in
theorem k_findKnot_e {p : Program} {l : Launch} {e : Env} {s : State} {m : MethodId} {args : Array Value} {below : List Frame} {meth : Method} {c : Code} {D : va_G} {y : Nat → ClassId} {ad : Nat → Nat} {X : va_W} {A : Nat → Prop} {Q : mS → Prop} (C : mC p s m args meth c cX8_findKnot 3 none wsX8_findKnot D y A) (x1 : Int32) (σ : mS) (hw : w_findKnot Q x1 σ) (H : Heap) (locs : List Loc) (ls : Array Slot) (hO : mO D y ad X A s.heap H locs σ) (hl : lv_has ls 3 [(0, .ref (ad 0)), (1, .int x1)]) : W p l e rX8_findKnot s m args below meth c H locs 0 0 (MQ below (va_Qv Q (mB D y ad X A) A) args s 0 0 A) (F0 m 0 ls []) := by
  obtain ⟨hx, hb, hr, hml, hown, hts, hlk, hK, hA⟩ := id C
  have hin : ∀ w ∈ wsX80, w ∈ wsX8_findKnot := fun _ h => List.mem_cons_of_mem _ (List.mem_append_right _ h)
  unfold w_findKnot at hw
  refine lv_aload_n hx hb dX8_findKnot_0 rfl (lv_at hl 0 rfl) ?_
  refine lv_iload_n hx hb dX8_findKnot_1 rfl (lv_at hl 1 rfl) ?_
  refine mx_cvv C hO (c_findLaw l D y ad X σ x1 _ hw) (cwV 1 hts gX8_findKnot_X8_findLaw rfl rfl rfl (by decide +kernel) ⟨Nat.le_of_ble_eq_true rfl, Nat.le_of_ble_eq_true rfl⟩) rfl hl.1 rfl (lv_room (Nat.le_of_ble_eq_true rfl)) dX8_findKnot_2 (fun σ102 H locs hw hO => ?_)
  refine lv_aload_n hx hb dX8_findKnot_5 rfl (lv_at hl 0 rfl) ?_
  refine lv_aload_n hx hb dX8_findKnot_6 rfl (lv_at hl 0 rfl) ?_
  refine mx_get C hO hin 14 (by decide) (idx := 48) (by decide +kernel) rfl rfl dX8_findKnot_7 ?_
  refine lv_iconst (v := 0) hx hb dX8_findKnot_10 (by decide) ?_
  refine mx_lald C hO (a := 13) rfl hw.1 dX8_findKnot_11 ?_
  have hw := hw.2
  refine lv_aload_n hx hb dX8_findKnot_12 rfl (lv_at hl 0 rfl) ?_
  refine mx_get C hO hin 14 (by decide) (idx := 48) (by decide +kernel) rfl rfl dX8_findKnot_13 ?_
  refine lv_iconst (v := 2) hx hb dX8_findKnot_16 (by decide) ?_
  refine mx_lald C hO (a := 13) rfl hw.1 dX8_findKnot_17 ?_
  have hw := hw.2
  refine lv_aload_n hx hb dX8_findKnot_18 rfl (lv_at hl 0 rfl) ?_
  refine mx_get C hO hin 14 (by decide) (idx := 48) (by decide +kernel) rfl rfl dX8_findKnot_19 ?_
  refine lv_iconst (v := 4) hx hb dX8_findKnot_22 (by decide) ?_
  refine mx_lald C hO (a := 13) rfl hw.1 dX8_findKnot_23 ?_
  have hw := hw.2
  refine lv_aload_n hx hb dX8_findKnot_24 rfl (lv_at hl 0 rfl) ?_
  refine mx_get C hO hin 14 (by decide) (idx := 48) (by decide +kernel) rfl rfl dX8_findKnot_25 ?_
  refine lv_iconst (v := 1) hx hb dX8_findKnot_28 (by decide) ?_
  refine mx_lald C hO (a := 13) rfl hw.1 dX8_findKnot_29 ?_
  have hw := hw.2
  refine lv_aload_n hx hb dX8_findKnot_30 rfl (lv_at hl 0 rfl) ?_
  refine mx_get C hO hin 14 (by decide) (idx := 48) (by decide +kernel) rfl rfl dX8_findKnot_31 ?_
  refine lv_iconst (v := 3) hx hb dX8_findKnot_34 (by decide) ?_
  refine mx_lald C hO (a := 13) rfl hw.1 dX8_findKnot_35 ?_
  have hw := hw.2
  refine lv_aload_n hx hb dX8_findKnot_36 rfl (lv_at hl 0 rfl) ?_
  refine mx_get C hO hin 14 (by decide) (idx := 48) (by decide +kernel) rfl rfl dX8_findKnot_37 ?_
  refine lv_iconst (v := 5) hx hb dX8_findKnot_40 (by decide) ?_
  refine mx_lald C hO (a := 13) rfl hw.1 dX8_findKnot_41 ?_
  have hw := hw.2
  refine mx_cvv C hO (c_cross l D y ad X σ102 (σ102.1 13 ((0 : Int32)).toNatClampNeg) (σ102.1 13 ((2 : Int32)).toNatClampNeg) (σ102.1 13 ((4 : Int32)).toNatClampNeg) (σ102.1 13 ((1 : Int32)).toNatClampNeg) (σ102.1 13 ((3 : Int32)).toNatClampNeg) (σ102.1 13 ((5 : Int32)).toNatClampNeg) _ hw) (cwV 6 hts gX8_findKnot_X8_cross rfl rfl rfl (by decide +kernel) ⟨Nat.le_of_ble_eq_true rfl, Nat.le_of_ble_eq_true rfl⟩) rfl hl.1 rfl (lv_room (Nat.le_of_ble_eq_true rfl)) dX8_findKnot_42 (fun σ104 H locs hw hO => ?_)
  refine lv_iconst (v := 0) hx hb dX8_findKnot_45 (by decide) ?_
  refine lv_istore_n (lv' := [(2, .int ((0 : Int32))), (0, .ref (ad 0)), (1, .int x1)]) hx hb dX8_findKnot_46 rfl hl (by decide) rfl (fun ls hl => ?_)
  exact k_findKnot_47 C fuL ((0 : Int32)) σ104 hw H locs ls hO (lv_sub hl [1, 0] rfl)
theorem c_findKnot (l : Launch) (D : va_G) (y : Nat → ClassId) (ad : Nat → Nat) (X : va_W) (σ : mS) (x1 : Int32) (Q : mS → Prop) (hw : w_findKnot Q x1 σ) : ∀ sz, Met l yX8_findKnot wsX8_findKnot rX8_findKnot (va_Pc [.ref (ad 0), .int x1] (mPre D y ad X sz σ)) (va_Qv Q (mB D y ad X (va_A (mW y ad σ ++ X) sz)) (va_A (mW y ad σ ++ X) sz)) 0 0 (va_A (mW y ad σ ++ X) sz) :=
  mMet (Qc := fun A => va_Qv Q (mB D y ad X A) A) rfl (Nat.le_of_ble_eq_true rfl) (fun p e s m args below meth c A ls C hO hl => k_findKnot_e C x1 σ hw s.heap [] ls hO hl)
abbrev rX8_againstCubic : Room := { frames := 4, cells := 0, slots := 0, locals := 104 }
set_option maxRecDepth 100000 in
set_option maxHeartbeats 4000000 in
theorem k_againstCubic_29 {p : Program} {l : Launch} {e : Env} {s : State} {m : MethodId} {args : Array Value} {below : List Frame} {meth : Method} {c : Code} {D : va_G} {y : Nat → ClassId} {ad : Nat → Nat} {X : va_W} {A : Nat → Prop} {Q : Int32 → mS → Prop} (C : mC p s m args meth c cX8_againstCubic 3 (some .int) wsX8_againstCubic D y A) (z0 : Int32) (σ : mS) (hw : w_againstCubic_29 Q z0 σ) (H : Heap) (locs : List Loc) (ls : Array Slot) (hO : mO D y ad X A s.heap H locs σ) (hl : lv_has ls 3 [(0, .ref (ad 0))]) : W p l e rX8_againstCubic s m args below meth c H locs 0 0 (MQ below (va_Qi Q (mB D y ad X A) A) args s 0 0 A) (F0 m 29 ls [.int z0]) := by
  obtain ⟨hx, hb, hr, hml, hown, hts, hlk, hK, hA⟩ := id C
  unfold w_againstCubic_29 at hw
  exact mx_iret C hO hw dX8_againstCubic_29
set_option maxRecDepth 100000 in
set_option maxHeartbeats 4000000 in
theorem k_againstCubic_e {p : Program} {l : Launch} {e : Env} {s : State} {m : MethodId} {args : Array Value} {below : List Frame} {meth : Method} {c : Code} {D : va_G} {y : Nat → ClassId} {ad : Nat → Nat} {X : va_W} {A : Nat → Prop} {Q : Int32 → mS → Prop} (C : mC p s m args meth c cX8_againstCubic 3 (some .int) wsX8_againstCubic D y A) (x1 : Int32) (σ : mS) (hw : w_againstCubic Q x1 σ) (H : Heap) (locs : List Loc) (ls : Array Slot) (hO : mO D y ad X A s.heap H locs σ) (hl : lv_has ls 3 [(0, .ref (ad 0)), (1, .int x1)]) : W p l e rX8_againstCubic s m args below meth c H locs 0 0 (MQ below (va_Qi Q (mB D y ad X A) A) args s 0 0 A) (F0 m 0 ls []) := by
  obtain ⟨hx, hb, hr, hml, hown, hts, hlk, hK, hA⟩ := id C
  unfold w_againstCubic at hw
  refine lv_aload_n hx hb dX8_againstCubic_0 rfl (lv_at hl 0 rfl) ?_
  refine lv_iload_n hx hb dX8_againstCubic_1 rfl (lv_at hl 1 rfl) ?_
  refine mx_civ C hO (c_against l D y ad X σ x1 _ hw) (cwV 1 hts gX8_againstCubic_X8_against rfl rfl rfl (by decide +kernel) ⟨Nat.le_of_ble_eq_true rfl, Nat.le_of_ble_eq_true rfl⟩) rfl hl.1 rfl (lv_room (Nat.le_of_ble_eq_true rfl)) dX8_againstCubic_2 (fun u101 σ102 H locs hw hO => ?_)
  refine lv_istore_n (lv' := [(2, .int u101), (0, .ref (ad 0)), (1, .int x1)]) hx hb dX8_againstCubic_5 rfl hl (by decide) rfl (fun ls hl => ?_)
  refine lv_iload_n hx hb dX8_againstCubic_6 rfl (lv_at hl 0 rfl) ?_
  refine lv_if_ge (tgt := 14) hx hb dX8_againstCubic_7 (by decide) (fun hc => ?_) (fun hc => ?_)
  · have hw := hw.1 hc
    refine lv_aload_n hx hb dX8_againstCubic_14 rfl (lv_at hl 1 rfl) ?_
    refine lv_iload_n hx hb dX8_againstCubic_15 rfl (lv_at hl 2 rfl) ?_
    refine mx_civ C hO (c_kindOf l D y ad X σ102 x1 _ hw) (cwV 1 hts gX8_againstCubic_X8_kindOf rfl rfl rfl (by decide +kernel) ⟨Nat.le_of_ble_eq_true rfl, Nat.le_of_ble_eq_true rfl⟩) rfl hl.1 rfl (lv_room (Nat.le_of_ble_eq_true rfl)) dX8_againstCubic_16 (fun u103 σ104 H locs hw hO => ?_)
    refine lv_iconst (v := 3) hx hb dX8_againstCubic_19 (by decide) ?_
    refine lv_icmp_ne (tgt := 27) hx hb dX8_againstCubic_20 (by decide) (fun hc => ?_) (fun hc => ?_)
    · have hw := hw.1 hc
      refine lv_bipush (v := -12) hx hb dX8_againstCubic_27 (by decide) ?_
      exact k_againstCubic_29 C ((-12 : Int32)) σ104 hw H locs ls hO (lv_sub hl [1] rfl)
    · have hw := hw.2 hc
      refine lv_iconst (v := 0) hx hb dX8_againstCubic_23 (by decide) ?_
      refine lv_goto (tgt := 29) hx hb dX8_againstCubic_24 (by decide) ?_
      exact k_againstCubic_29 C ((0 : Int32)) σ104 hw H locs ls hO (lv_sub hl [1] rfl)
  · have hw := hw.2 hc
    refine lv_iload_n hx hb dX8_againstCubic_10 rfl (lv_at hl 0 rfl) ?_
    refine lv_goto (tgt := 29) hx hb dX8_againstCubic_11 (by decide) ?_
    exact k_againstCubic_29 C u101 σ102 hw H locs ls hO (lv_sub hl [1] rfl)
theorem c_againstCubic (l : Launch) (D : va_G) (y : Nat → ClassId) (ad : Nat → Nat) (X : va_W) (σ : mS) (x1 : Int32) (Q : Int32 → mS → Prop) (hw : w_againstCubic Q x1 σ) : ∀ sz, Met l yX8_againstCubic wsX8_againstCubic rX8_againstCubic (va_Pc [.ref (ad 0), .int x1] (mPre D y ad X sz σ)) (va_Qi Q (mB D y ad X (va_A (mW y ad σ ++ X) sz)) (va_A (mW y ad σ ++ X) sz)) 0 0 (va_A (mW y ad σ ++ X) sz) :=
  mMet (Qc := fun A => va_Qi Q (mB D y ad X A) A) rfl (Nat.le_of_ble_eq_true rfl) (fun p e s m args below meth c A ls C hO hl => k_againstCubic_e C x1 σ hw s.heap [] ls hO hl)
abbrev rX8_law : Room := { frames := 5, cells := 0, slots := 0, locals := 126 }
set_option maxRecDepth 100000 in
set_option maxHeartbeats 4000000 in
theorem k_law_21 {p : Program} {l : Launch} {e : Env} {s : State} {m : MethodId} {args : Array Value} {below : List Frame} {meth : Method} {c : Code} {D : va_G} {y : Nat → ClassId} {ad : Nat → Nat} {X : va_W} {A : Nat → Prop} {Q : Int64 → mS → Prop} (C : mC p s m args meth c cX8_law 4 (some .long) wsX8_law D y A) (x1 : Int32) (x2 : Int32) (z0 : Int32) (σ : mS) (hw : w_law_21 Q x1 x2 z0 σ) (H : Heap) (locs : List Loc) (ls : Array Slot) (hO : mO D y ad X A s.heap H locs σ) (hl : lv_has ls 4 [(0, .ref (ad 0)), (1, .int x1), (2, .int x2)]) : W p l e rX8_law s m args below meth c H locs 0 0 (MQ below (va_Ql Q (mB D y ad X A) A) args s 0 0 A) (F0 m 21 ls [.int z0]) := by
  obtain ⟨hx, hb, hr, hml, hown, hts, hlk, hK, hA⟩ := id C
  have hin : ∀ w ∈ wsX80, w ∈ wsX8_law := fun _ h => List.mem_cons_of_mem _ (List.mem_append_right _ h)
  unfold w_law_21 at hw
  refine lv_istore_n (lv' := [(3, .int z0), (0, .ref (ad 0)), (1, .int x1), (2, .int x2)]) hx hb dX8_law_21 rfl hl (by decide) rfl (fun ls hl => ?_)
  refine lv_iload_n hx hb dX8_law_22 rfl (lv_at hl 0 rfl) ?_
  refine lv_if_ge (tgt := 33) hx hb dX8_law_23 (by decide) (fun hc => ?_) (fun hc => ?_)
  · have hw := hw.1 hc
    refine lv_aload_n hx hb dX8_law_33 rfl (lv_at hl 1 rfl) ?_
    refine lv_iload_n hx hb dX8_law_34 rfl (lv_at hl 2 rfl) ?_
    refine mx_cvv C hO (c_findLaw l D y ad X σ x1 _ hw) (cwV 1 hts gX8_law_X8_findLaw rfl rfl rfl (by decide +kernel) ⟨Nat.le_of_ble_eq_true rfl, Nat.le_of_ble_eq_true rfl⟩) rfl hl.1 rfl (lv_room (Nat.le_of_ble_eq_true rfl)) dX8_law_35 (fun σ102 H locs hw hO => ?_)
    refine lv_aload_n hx hb dX8_law_38 rfl (lv_at hl 1 rfl) ?_
    refine mx_get C hO hin 14 (by decide) (idx := 48) (by decide +kernel) rfl rfl dX8_law_39 ?_
    refine lv_iload_n hx hb dX8_law_42 rfl (lv_at hl 3 rfl) ?_
    refine mx_lald C hO (a := 13) rfl hw.1 dX8_law_43 ?_
    have hw := hw.2
    exact mx_lret C hO hw dX8_law_44
  · have hw := hw.2 hc
    refine lv_iload_n hx hb dX8_law_26 rfl (lv_at hl 0 rfl) ?_
    refine lv_i2l hx hb dX8_law_27 rfl ?_
    refine lv_ldc2 (v := 1000000000000) hx hb hown (hts (.constantLong RX8 175 (1000000000000)) (by decide +kernel)) dX8_law_28 ?_
    refine lv_lsub hx hb dX8_law_31 ?_
    exact mx_lret C hO hw dX8_law_32
set_option maxRecDepth 100000 in
set_option maxHeartbeats 4000000 in
theorem k_law_e {p : Program} {l : Launch} {e : Env} {s : State} {m : MethodId} {args : Array Value} {below : List Frame} {meth : Method} {c : Code} {D : va_G} {y : Nat → ClassId} {ad : Nat → Nat} {X : va_W} {A : Nat → Prop} {Q : Int64 → mS → Prop} (C : mC p s m args meth c cX8_law 4 (some .long) wsX8_law D y A) (x1 : Int32) (x2 : Int32) (σ : mS) (hw : w_law Q x1 x2 σ) (H : Heap) (locs : List Loc) (ls : Array Slot) (hO : mO D y ad X A s.heap H locs σ) (hl : lv_has ls 4 [(0, .ref (ad 0)), (1, .int x1), (2, .int x2)]) : W p l e rX8_law s m args below meth c H locs 0 0 (MQ below (va_Ql Q (mB D y ad X A) A) args s 0 0 A) (F0 m 0 ls []) := by
  obtain ⟨hx, hb, hr, hml, hown, hts, hlk, hK, hA⟩ := id C
  unfold w_law at hw
  refine lv_iload_n hx hb dX8_law_0 rfl (lv_at hl 2 rfl) ?_
  refine lv_i2l hx hb dX8_law_1 rfl ?_
  refine lv_lconst (v := 0) hx hb dX8_law_2 (by decide) ?_
  refine lv_ldc2 (v := 5) hx hb hown (hts (.constantLong RX8 217 (5)) (by decide +kernel)) dX8_law_3 ?_
  refine mx_cis C hO (c_in l D y ad X σ (x2.toInt64) ((0 : Int64)) ((5 : Int64)) _ hw) (va_cwS 3 hts gX8_law_X8_in rfl rfl rfl (by decide +kernel) ⟨Nat.le_of_ble_eq_true rfl, Nat.le_of_ble_eq_true rfl⟩) rfl hl.1 rfl (lv_room (Nat.le_of_ble_eq_true rfl)) dX8_law_6 (fun u101 σ102 H locs hw hO => ?_)
  refine lv_if_ne (tgt := 16) hx hb dX8_law_9 (by decide) (fun hc => ?_) (fun hc => ?_)
  · have hw := hw.1 hc
    refine lv_aload_n hx hb dX8_law_16 rfl (lv_at hl 0 rfl) ?_
    refine lv_iload_n hx hb dX8_law_17 rfl (lv_at hl 1 rfl) ?_
    refine mx_civ C hO (c_againstCubic l D y ad X σ102 x1 _ hw) (cwV 1 hts gX8_law_X8_againstCubic rfl rfl rfl (by decide +kernel) ⟨Nat.le_of_ble_eq_true rfl, Nat.le_of_ble_eq_true rfl⟩) rfl hl.1 rfl (lv_room (Nat.le_of_ble_eq_true rfl)) dX8_law_18 (fun u103 σ104 H locs hw hO => ?_)
    exact k_law_21 C x1 x2 u103 σ104 hw H locs ls hO (lv_sub hl [0, 1, 2] rfl)
  · have hw := hw.2 hc
    refine lv_iconst (v := -1) hx hb dX8_law_12 (by decide) ?_
    refine lv_goto (tgt := 21) hx hb dX8_law_13 (by decide) ?_
    exact k_law_21 C x1 x2 ((-1 : Int32)) σ102 hw H locs ls hO (lv_sub hl [0, 1, 2] rfl)
theorem c_law (l : Launch) (D : va_G) (y : Nat → ClassId) (ad : Nat → Nat) (X : va_W) (σ : mS) (x1 : Int32) (x2 : Int32) (Q : Int64 → mS → Prop) (hw : w_law Q x1 x2 σ) : ∀ sz, Met l yX8_law wsX8_law rX8_law (va_Pc [.ref (ad 0), .int x1, .int x2] (mPre D y ad X sz σ)) (va_Ql Q (mB D y ad X (va_A (mW y ad σ ++ X) sz)) (va_A (mW y ad σ ++ X) sz)) 0 0 (va_A (mW y ad σ ++ X) sz) :=
  mMet (Qc := fun A => va_Ql Q (mB D y ad X A) A) rfl (Nat.le_of_ble_eq_true rfl) (fun p e s m args below meth c A ls C hO hl => k_law_e C x1 x2 σ hw s.heap [] ls hO hl)
