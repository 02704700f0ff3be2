/-! the reference: what each method does, and the walk of its bytecode (written by wip/tools/gen.py) -/
abbrev rX8_in : Room := { frames := 0, cells := 0, slots := 0, locals := 0 }
set_option maxRecDepth 100000 in
set_option maxHeartbeats 4000000 in
theorem k_in_18 {p : Program} {l : Launch} {e : Env} {s : State} {m : MethodId} {args : Array Value} {below : List Frame} {meth : Method} {c : Code} {D : va_G} {y : Nat → ClassId} {ad : Nat → Nat} {X : va_W} {A : Nat → Prop} {Q : Int32 → mS → Prop} (C : mC p s m args meth c cX8_in 6 (some .boolean) wsX8_in D y A) (z0 : Int32) (σ : mS) (hw : w_in_18 Q z0 σ) (H : Heap) (locs : List Loc) (ls : Array Slot) (hO : mO D y ad X A s.heap H locs σ) (hl : lv_has ls 6 []) : W p l e rX8_in s m args below meth c H locs 0 0 (MQ below (va_Qi Q (mB D y ad X A) A) args s 0 0 A) (F0 m 18 ls [.int z0]) := by
  obtain ⟨hx, hb, hr, hml, hown, hts, hlk, hK, hA⟩ := id C
  unfold w_in_18 at hw
  exact mx_zret C hO hw.1 hw.2 dX8_in_18
set_option maxRecDepth 100000 in
set_option maxHeartbeats 4000000 in
theorem k_in_17 {p : Program} {l : Launch} {e : Env} {s : State} {m : MethodId} {args : Array Value} {below : List Frame} {meth : Method} {c : Code} {D : va_G} {y : Nat → ClassId} {ad : Nat → Nat} {X : va_W} {A : Nat → Prop} {Q : Int32 → mS → Prop} (C : mC p s m args meth c cX8_in 6 (some .boolean) wsX8_in D y A)  (σ : mS) (hw : w_in_17 Q σ) (H : Heap) (locs : List Loc) (ls : Array Slot) (hO : mO D y ad X A s.heap H locs σ) (hl : lv_has ls 6 []) : W p l e rX8_in s m args below meth c H locs 0 0 (MQ below (va_Qi Q (mB D y ad X A) A) args s 0 0 A) (F0 m 17 ls []) := by
  obtain ⟨hx, hb, hr, hml, hown, hts, hlk, hK, hA⟩ := id C
  unfold w_in_17 at hw
  refine lv_iconst (v := 0) hx hb dX8_in_17 (by decide) ?_
  exact k_in_18 C ((0 : Int32)) σ hw H locs ls hO (lv_sub hl [] rfl)
set_option maxRecDepth 100000 in
set_option maxHeartbeats 4000000 in
theorem k_in_e {p : Program} {l : Launch} {e : Env} {s : State} {m : MethodId} {args : Array Value} {below : List Frame} {meth : Method} {c : Code} {D : va_G} {y : Nat → ClassId} {ad : Nat → Nat} {X : va_W} {A : Nat → Prop} {Q : Int32 → mS → Prop} (C : mC p s m args meth c cX8_in 6 (some .boolean) wsX8_in D y A) (x0 : Int64) (x2 : Int64) (x4 : Int64) (σ : mS) (hw : w_in Q x0 x2 x4 σ) (H : Heap) (locs : List Loc) (ls : Array Slot) (hO : mO D y ad X A s.heap H locs σ) (hl : lv_has ls 6 [(0, .long x0), (2, .long x2), (4, .long x4)]) : W p l e rX8_in s m args below meth c H locs 0 0 (MQ below (va_Qi Q (mB D y ad X A) A) args s 0 0 A) (F0 m 0 ls []) := by
  obtain ⟨hx, hb, hr, hml, hown, hts, hlk, hK, hA⟩ := id C
  unfold w_in at hw
  refine lv_lload_n hx hb dX8_in_0 rfl (lv_at hl 0 rfl) ?_
  refine lv_lload_n hx hb dX8_in_1 rfl (lv_at hl 1 rfl) ?_
  refine W.lcmp hx hb dX8_in_2 ?_
  refine lv_if_lt (tgt := 17) hx hb dX8_in_3 (by decide) (fun hc => ?_) (fun hc => ?_)
  · have hc := (lg_cmp_lt _ _).mp hc
    have hw := hw.1 hc
    exact k_in_17 C σ hw H locs ls hO (lv_sub hl [] rfl)
  · have hc := (not_congr (lg_cmp_lt _ _)).mp hc
    have hw := hw.2 hc
    refine lv_lload_n hx hb dX8_in_6 rfl (lv_at hl 0 rfl) ?_
    refine lv_lload hx hb dX8_in_7 (lv_at hl 2 rfl) ?_
    refine W.lcmp hx hb dX8_in_9 ?_
    refine lv_if_gt (tgt := 17) hx hb dX8_in_10 (by decide) (fun hc => ?_) (fun hc => ?_)
    · have hc := (lg_cmp_gt _ _).mp hc
      have hw := hw.1 hc
      exact k_in_17 C σ hw H locs ls hO (lv_sub hl [] rfl)
    · have hc := (not_congr (lg_cmp_gt _ _)).mp hc
      have hw := hw.2 hc
      refine lv_iconst (v := 1) hx hb dX8_in_13 (by decide) ?_
      refine lv_goto (tgt := 18) hx hb dX8_in_14 (by decide) ?_
      exact k_in_18 C ((1 : Int32)) σ hw H locs ls hO (lv_sub hl [] rfl)
theorem c_in (l : Launch) (D : va_G) (y : Nat → ClassId) (ad : Nat → Nat) (X : va_W) (σ : mS) (x0 : Int64) (x2 : Int64) (x4 : Int64) (Q : Int32 → mS → Prop) (hw : w_in Q x0 x2 x4 σ) : ∀ sz, Met l yX8_in wsX8_in rX8_in (va_Pc [.long x0, .long x2, .long x4] (mPre D y ad X sz σ)) (va_Qi Q (mB D y ad X (va_A (mW y ad σ ++ X) sz)) (va_A (mW y ad σ ++ X) sz)) 0 0 (va_A (mW y ad σ ++ X) sz) :=
  mMet (Qc := fun A => va_Qi Q (mB D y ad X A) A) rfl (Nat.le_of_ble_eq_true rfl) (fun p e s m args below meth c A ls C hO hl => k_in_e C x0 x2 x4 σ hw s.heap [] ls hO hl)
abbrev rX8_common : Room := { frames := 0, cells := 0, slots := 0, locals := 0 }
set_option maxRecDepth 100000 in
set_option maxHeartbeats 4000000 in
theorem k_common_28 {p : Program} {l : Launch} {e : Env} {s : State} {m : MethodId} {args : Array Value} {below : List Frame} {meth : Method} {c : Code} {D : va_G} {y : Nat → ClassId} {ad : Nat → Nat} {X : va_W} {A : Nat → Prop} {Q : Int64 → mS → Prop} (C : mC p s m args meth c cX8_common 10 (some .long) wsX8_common D y A) (n : Nat) : ∀ (x4 : Int64) (x6 : Int64) (σ : mS), w_common_28 Q n x4 x6 σ → ∀ (H : Heap) (locs : List Loc) (ls : Array Slot), mO D y ad X A s.heap H locs σ → lv_has ls 10 [(4, .long x4), (6, .long x6)] → W p l e rX8_common s m args below meth c H locs 0 0 (MQ below (va_Ql Q (mB D y ad X A) A) args s 0 0 A) (F0 m 28 ls []) := by
  obtain ⟨hx, hb, hr, hml, hown, hts, hlk, hK, hA⟩ := id C
  induction n with
  | zero =>
    intro x4 x6 σ hw
    exact (show False from hw).elim
  | succ n ih =>
    intro x4 x6 σ hw H locs ls hO hl
    unfold w_common_28 at hw
    refine lv_lload hx hb dX8_common_28 (lv_at hl 1 rfl) ?_
    refine lv_lconst (v := 0) hx hb dX8_common_30 (by decide) ?_
    refine W.lcmp hx hb dX8_common_31 ?_
    refine lv_if_eq (tgt := 53) hx hb dX8_common_32 (by decide) (fun hc => ?_) (fun hc => ?_)
    · have hc := (lg_cmp_eq _ _).mp hc
      have hw := hw.1 hc
      refine lv_lload hx hb dX8_common_53 (lv_at hl 0 rfl) ?_
      exact mx_lret C hO hw dX8_common_55
    · have hc := (not_congr (lg_cmp_eq _ _)).mp hc
      have hw := hw.2 hc
      refine lv_lload hx hb dX8_common_35 (lv_at hl 0 rfl) ?_
      refine lv_lload hx hb dX8_common_37 (lv_at hl 1 rfl) ?_
      refine lv_lrem hx hb dX8_common_39 hw.1 ?_
      have hw := hw.2
      refine lv_topl (fun x8_101 ex8_101 => ?_)
      have hw := hw x8_101 ex8_101
      refine lv_lstore (lv' := [(8, .long x8_101), (4, .long x4), (6, .long x6)]) hx hb dX8_common_40 hl (by decide) rfl (fun ls hl => ?_)
      refine lv_lload hx hb dX8_common_42 (lv_at hl 2 rfl) ?_
      refine lv_lstore (lv' := [(4, .long x6), (8, .long x8_101), (6, .long x6)]) hx hb dX8_common_44 hl (by decide) rfl (fun ls hl => ?_)
      refine lv_lload hx hb dX8_common_46 (lv_at hl 1 rfl) ?_
      refine lv_lstore (lv' := [(6, .long x8_101), (4, .long x6), (8, .long x8_101)]) hx hb dX8_common_48 hl (by decide) rfl (fun ls hl => ?_)
      refine lv_goto (tgt := 28) hx hb dX8_common_50 (by decide) ?_
      exact ih x6 x8_101 σ hw H locs ls hO (lv_sub hl [1, 0] rfl)
set_option maxRecDepth 100000 in
set_option maxHeartbeats 4000000 in
theorem k_common_26 {p : Program} {l : Launch} {e : Env} {s : State} {m : MethodId} {args : Array Value} {below : List Frame} {meth : Method} {c : Code} {D : va_G} {y : Nat → ClassId} {ad : Nat → Nat} {X : va_W} {A : Nat → Prop} {Q : Int64 → mS → Prop} (C : mC p s m args meth c cX8_common 10 (some .long) wsX8_common D y A) (x4 : Int64) (z0 : Int64) (σ : mS) (hw : w_common_26 Q x4 z0 σ) (H : Heap) (locs : List Loc) (ls : Array Slot) (hO : mO D y ad X A s.heap H locs σ) (hl : lv_has ls 10 [(4, .long x4)]) : W p l e rX8_common s m args below meth c H locs 0 0 (MQ below (va_Ql Q (mB D y ad X A) A) args s 0 0 A) (F0 m 26 ls [.long z0]) := by
  obtain ⟨hx, hb, hr, hml, hown, hts, hlk, hK, hA⟩ := id C
  unfold w_common_26 at hw
  refine lv_lstore (lv' := [(6, .long z0), (4, .long x4)]) hx hb dX8_common_26 hl (by decide) rfl (fun ls hl => ?_)
  exact k_common_28 C fuL x4 z0 σ hw H locs ls hO (lv_sub hl [1, 0] rfl)
set_option maxRecDepth 100000 in
set_option maxHeartbeats 4000000 in
theorem k_common_12 {p : Program} {l : Launch} {e : Env} {s : State} {m : MethodId} {args : Array Value} {below : List Frame} {meth : Method} {c : Code} {D : va_G} {y : Nat → ClassId} {ad : Nat → Nat} {X : va_W} {A : Nat → Prop} {Q : Int64 → mS → Prop} (C : mC p s m args meth c cX8_common 10 (some .long) wsX8_common D y A) (x2 : Int64) (z0 : Int64) (σ : mS) (hw : w_common_12 Q x2 z0 σ) (H : Heap) (locs : List Loc) (ls : Array Slot) (hO : mO D y ad X A s.heap H locs σ) (hl : lv_has ls 10 [(2, .long x2)]) : W p l e rX8_common s m args below meth c H locs 0 0 (MQ below (va_Ql Q (mB D y ad X A) A) args s 0 0 A) (F0 m 12 ls [.long z0]) := by
  obtain ⟨hx, hb, hr, hml, hown, hts, hlk, hK, hA⟩ := id C
  unfold w_common_12 at hw
  refine lv_lstore (lv' := [(4, .long z0), (2, .long x2)]) hx hb dX8_common_12 hl (by decide) rfl (fun ls hl => ?_)
  refine lv_lload_n hx hb dX8_common_14 rfl (lv_at hl 1 rfl) ?_
  refine lv_lconst (v := 0) hx hb dX8_common_15 (by decide) ?_
  refine W.lcmp hx hb dX8_common_16 ?_
  refine lv_if_ge (tgt := 25) hx hb dX8_common_17 (by decide) (fun hc => ?_) (fun hc => ?_)
  · have hc := (lg_cmp_ge _ _).mp hc
    have hw := hw.1 hc
    refine lv_lload_n hx hb dX8_common_25 rfl (lv_at hl 1 rfl) ?_
    exact k_common_26 C z0 x2 σ hw H locs ls hO (lv_sub hl [0] rfl)
  · have hc := (not_congr (lg_cmp_ge _ _)).mp hc
    have hw := hw.2 hc
    refine lv_lload_n hx hb dX8_common_20 rfl (lv_at hl 1 rfl) ?_
    refine lv_lneg hx hb dX8_common_21 ?_
    refine lv_goto (tgt := 26) hx hb dX8_common_22 (by decide) ?_
    exact k_common_26 C z0 (-x2) σ hw H locs ls hO (lv_sub hl [0] rfl)
set_option maxRecDepth 100000 in
set_option maxHeartbeats 4000000 in
theorem k_common_e {p : Program} {l : Launch} {e : Env} {s : State} {m : MethodId} {args : Array Value} {below : List Frame} {meth : Method} {c : Code} {D : va_G} {y : Nat → ClassId} {ad : Nat → Nat} {X : va_W} {A : Nat → Prop} {Q : Int64 → mS → Prop} (C : mC p s m args meth c cX8_common 10 (some .long) wsX8_common D y A) (x0 : Int64) (x2 : Int64) (σ : mS) (hw : w_common Q x0 x2 σ) (H : Heap) (locs : List Loc) (ls : Array Slot) (hO : mO D y ad X A s.heap H locs σ) (hl : lv_has ls 10 [(0, .long x0), (2, .long x2)]) : W p l e rX8_common s m args below meth c H locs 0 0 (MQ below (va_Ql Q (mB D y ad X A) A) args s 0 0 A) (F0 m 0 ls []) := by
  obtain ⟨hx, hb, hr, hml, hown, hts, hlk, hK, hA⟩ := id C
  unfold w_common at hw
  refine lv_lload_n hx hb dX8_common_0 rfl (lv_at hl 0 rfl) ?_
  refine lv_lconst (v := 0) hx hb dX8_common_1 (by decide) ?_
  refine W.lcmp hx hb dX8_common_2 ?_
  refine lv_if_ge (tgt := 11) hx hb dX8_common_3 (by decide) (fun hc => ?_) (fun hc => ?_)
  · have hc := (lg_cmp_ge _ _).mp hc
    have hw := hw.1 hc
    refine lv_lload_n hx hb dX8_common_11 rfl (lv_at hl 0 rfl) ?_
    exact k_common_12 C x2 x0 σ hw H locs ls hO (lv_sub hl [1] rfl)
  · have hc := (not_congr (lg_cmp_ge _ _)).mp hc
    have hw := hw.2 hc
    refine lv_lload_n hx hb dX8_common_6 rfl (lv_at hl 0 rfl) ?_
    refine lv_lneg hx hb dX8_common_7 ?_
    refine lv_goto (tgt := 12) hx hb dX8_common_8 (by decide) ?_
    exact k_common_12 C x2 (-x0) σ hw H locs ls hO (lv_sub hl [1] rfl)
theorem c_common (l : Launch) (D : va_G) (y : Nat → ClassId) (ad : Nat → Nat) (X : va_W) (σ : mS) (x0 : Int64) (x2 : Int64) (Q : Int64 → mS → Prop) (hw : w_common Q x0 x2 σ) : ∀ sz, Met l yX8_common wsX8_common rX8_common (va_Pc [.long x0, .long x2] (mPre D y ad X sz σ)) (va_Ql Q (mB D y ad X (va_A (mW y ad σ ++ X) sz)) (va_A (mW y ad σ ++ X) sz)) 0 0 (va_A (mW y ad σ ++ X) sz) :=
  mMet (Qc := fun A => va_Ql Q (mB D y ad X A) A) rfl (Nat.le_of_ble_eq_true rfl) (fun p e s m args below meth c A ls C hO hl => k_common_e C x0 x2 σ hw s.heap [] ls hO hl)
abbrev rX8_degreeAt : Room := { frames := 0, cells := 0, slots := 0, locals := 0 }
set_option maxRecDepth 100000 in
set_option maxHeartbeats 4000000 in
theorem k_degreeAt_22 {p : Program} {l : Launch} {e : Env} {s : State} {m : MethodId} {args : Array Value} {below : List Frame} {meth : Method} {c : Code} {D : va_G} {y : Nat → ClassId} {ad : Nat → Nat} {X : va_W} {A : Nat → Prop} {Q : Int32 → mS → Prop} (C : mC p s m args meth c cX8_degreeAt 3 (some .int) wsX8_degreeAt D y A) {r0 : Nat} (ha_r0 : mJ r0 = true) (x2 : Int32) (σ : mS) (hw : w_degreeAt_22 Q r0 x2 σ) (H : Heap) (locs : List Loc) (ls : Array Slot) (hO : mO D y ad X A s.heap H locs σ) (hl : lv_has ls 3 [(2, .int x2)]) : W p l e rX8_degreeAt s m args below meth c H locs 0 0 (MQ below (va_Qi Q (mB D y ad X A) A) args s 0 0 A) (F0 m 22 ls []) := by
  obtain ⟨hx, hb, hr, hml, hown, hts, hlk, hK, hA⟩ := id C
  unfold w_degreeAt_22 at hw
  refine lv_iload_n hx hb dX8_degreeAt_22 rfl (lv_at hl 0 rfl) ?_
  exact mx_iret C hO hw dX8_degreeAt_23
set_option maxRecDepth 100000 in
set_option maxHeartbeats 4000000 in
theorem k_degreeAt_2 {p : Program} {l : Launch} {e : Env} {s : State} {m : MethodId} {args : Array Value} {below : List Frame} {meth : Method} {c : Code} {D : va_G} {y : Nat → ClassId} {ad : Nat → Nat} {X : va_W} {A : Nat → Prop} {Q : Int32 → mS → Prop} (C : mC p s m args meth c cX8_degreeAt 3 (some .int) wsX8_degreeAt D y A) {r0 : Nat} (ha_r0 : mJ r0 = true) (n : Nat) : ∀ (x1 : Int32) (x2 : Int32) (σ : mS), w_degreeAt_2 Q r0 n x1 x2 σ → ∀ (H : Heap) (locs : List Loc) (ls : Array Slot), mO D y ad X A s.heap H locs σ → lv_has ls 3 [(0, .ref (ad r0)), (1, .int x1), (2, .int x2)] → W p l e rX8_degreeAt s m args below meth c H locs 0 0 (MQ below (va_Qi Q (mB D y ad X A) A) args s 0 0 A) (F0 m 2 ls []) := by
  obtain ⟨hx, hb, hr, hml, hown, hts, hlk, hK, hA⟩ := id C
  induction n with
  | zero =>
    intro x1 x2 σ hw
    exact (show False from hw).elim
  | succ n ih =>
    intro x1 x2 σ hw H locs ls hO hl
    unfold w_degreeAt_2 at hw
    refine lv_iload_n hx hb dX8_degreeAt_2 rfl (lv_at hl 2 rfl) ?_
    refine lv_if_lt (tgt := 22) hx hb dX8_degreeAt_3 (by decide) (fun hc => ?_) (fun hc => ?_)
    · have hw := hw.1 hc
      exact k_degreeAt_22 C ha_r0 x2 σ hw H locs ls hO (lv_sub hl [2] rfl)
    · have hw := hw.2 hc
      refine lv_aload_n hx hb dX8_degreeAt_6 rfl (lv_at hl 0 rfl) ?_
      refine lv_iload_n hx hb dX8_degreeAt_7 rfl (lv_at hl 1 rfl) ?_
      refine lv_iload_n hx hb dX8_degreeAt_8 rfl (lv_at hl 2 rfl) ?_
      refine lv_iadd hx hb dX8_degreeAt_9 ?_
      refine mx_lald C hO (a := r0) ha_r0 hw.1 dX8_degreeAt_10 ?_
      have hw := hw.2
      refine lv_lconst (v := 0) hx hb dX8_degreeAt_11 (by decide) ?_
      refine W.lcmp hx hb dX8_degreeAt_12 ?_
      refine lv_if_ne (tgt := 22) hx hb dX8_degreeAt_13 (by decide) (fun hc => ?_) (fun hc => ?_)
      · have hc := (not_congr (lg_cmp_eq _ _)).mp hc
        have hw := hw.1 hc
        exact k_degreeAt_22 C ha_r0 x2 σ hw H locs ls hO (lv_sub hl [2] rfl)
      · have hc := (lg_cmp_eq _ _).mp hc
        have hw := hw.2 hc
        obtain ⟨x2_101, ex2_101⟩ : ∃ y : Int32, y = x2 + (-1) := ⟨_, rfl⟩
        have hw := hw x2_101 ex2_101
        refine lv_iinc (v := x2_101) (lv' := [(2, .int x2_101), (0, .ref (ad r0)), (1, .int x1)]) hx hb dX8_degreeAt_16 hl (k := 2) rfl (by rw [ex2_101]; rfl) (by decide) rfl (fun ls hl => ?_)
        refine lv_goto (tgt := 2) hx hb dX8_degreeAt_19 (by decide) ?_
        exact ih x1 x2_101 σ hw H locs ls hO (lv_sub hl [1, 2, 0] rfl)
set_option maxRecDepth 100000 in
set_option maxHeartbeats 4000000 in
theorem k_degreeAt_e {p : Program} {l : Launch} {e : Env} {s : State} {m : MethodId} {args : Array Value} {below : List Frame} {meth : Method} {c : Code} {D : va_G} {y : Nat → ClassId} {ad : Nat → Nat} {X : va_W} {A : Nat → Prop} {Q : Int32 → mS → Prop} (C : mC p s m args meth c cX8_degreeAt 3 (some .int) wsX8_degreeAt D y A) {r0 : Nat} (ha_r0 : mJ r0 = true) (x1 : Int32) (σ : mS) (hw : w_degreeAt Q r0 x1 σ) (H : Heap) (locs : List Loc) (ls : Array Slot) (hO : mO D y ad X A s.heap H locs σ) (hl : lv_has ls 3 [(0, .ref (ad r0)), (1, .int x1)]) : W p l e rX8_degreeAt s m args below meth c H locs 0 0 (MQ below (va_Qi Q (mB D y ad X A) A) args s 0 0 A) (F0 m 0 ls []) := by
  obtain ⟨hx, hb, hr, hml, hown, hts, hlk, hK, hA⟩ := id C
  unfold w_degreeAt at hw
  refine lv_iconst (v := 3) hx hb dX8_degreeAt_0 (by decide) ?_
  refine lv_istore_n (lv' := [(2, .int ((3 : Int32))), (0, .ref (ad r0)), (1, .int x1)]) hx hb dX8_degreeAt_1 rfl hl (by decide) rfl (fun ls hl => ?_)
  exact k_degreeAt_2 C ha_r0 fuL x1 ((3 : Int32)) σ hw H locs ls hO (lv_sub hl [1, 2, 0] rfl)
theorem c_degreeAt (l : Launch) (D : va_G) (y : Nat → ClassId) (ad : Nat → Nat) (X : va_W) (σ : mS) (r0 : Nat) (x1 : Int32) (ha_r0 : mJ r0 = true) (Q : Int32 → mS → Prop) (hw : w_degreeAt Q r0 x1 σ) : ∀ sz, Met l yX8_degreeAt wsX8_degreeAt rX8_degreeAt (va_Pc [.ref (ad r0), .int x1] (mPre D y ad X sz σ)) (va_Qi Q (mB D y ad X (va_A (mW y ad σ ++ X) sz)) (va_A (mW y ad σ ++ X) sz)) 0 0 (va_A (mW y ad σ ++ X) sz) :=
  mMet (Qc := fun A => va_Qi Q (mB D y ad X A) A) rfl (Nat.le_of_ble_eq_true rfl) (fun p e s m args below meth c A ls C hO hl => k_degreeAt_e C ha_r0 x1 σ hw s.heap [] ls hO hl)
abbrev rX8_clean : Room := { frames := 1, cells := 0, slots := 0, locals := 29 }
set_option maxRecDepth 100000 in
set_option maxHeartbeats 4000000 in
theorem k_clean_49 {p : Program} {l : Launch} {e : Env} {s : State} {m : MethodId} {args : Array Value} {below : List Frame} {meth : Method} {c : Code} {D : va_G} {y : Nat → ClassId} {ad : Nat → Nat} {X : va_W} {A : Nat → Prop} {Q : mS → Prop} (C : mC p s m args meth c cX8_clean 4 none wsX8_clean D y A) {r0 : Nat} (ha_r0 : mJ r0 = true)  (σ : mS) (hw : w_clean_49 Q r0 σ) (H : Heap) (locs : List Loc) (ls : Array Slot) (hO : mO D y ad X A s.heap H locs σ) (hl : lv_has ls 4 []) : W p l e rX8_clean s m args below meth c H locs 0 0 (MQ below (va_Qv Q (mB D y ad X A) A) args s 0 0 A) (F0 m 49 ls []) := by
  obtain ⟨hx, hb, hr, hml, hown, hts, hlk, hK, hA⟩ := id C
  unfold w_clean_49 at hw
  exact mx_vret C hO hw dX8_clean_49
set_option maxRecDepth 100000 in
set_option maxHeartbeats 4000000 in
theorem k_clean_25 {p : Program} {l : Launch} {e : Env} {s : State} {m : MethodId} {args : Array Value} {below : List Frame} {meth : Method} {c : Code} {D : va_G} {y : Nat → ClassId} {ad : Nat → Nat} {X : va_W} {A : Nat → Prop} {Q : mS → Prop} (C : mC p s m args meth c cX8_clean 4 none wsX8_clean D y A) {r0 : Nat} (ha_r0 : mJ r0 = true) (n : Nat) : ∀ (x1 : Int64) (x3 : Int32) (σ : mS), w_clean_25 Q r0 n x1 x3 σ → ∀ (H : Heap) (locs : List Loc) (ls : Array Slot), mO D y ad X A s.heap H locs σ → lv_has ls 4 [(0, .ref (ad r0)), (1, .long x1), (3, .int x3)] → W p l e rX8_clean s m args below meth c H locs 0 0 (MQ below (va_Qv Q (mB D y ad X A) A) args s 0 0 A) (F0 m 25 ls []) := by
  obtain ⟨hx, hb, hr, hml, hown, hts, hlk, hK, hA⟩ := id C
  induction n with
  | zero =>
    intro x1 x3 σ hw
    exact (show False from hw).elim
  | succ n ih =>
    intro x1 x3 σ hw H locs ls hO hl
    unfold w_clean_25 at hw
    refine lv_iload_n hx hb dX8_clean_25 rfl (lv_at hl 2 rfl) ?_
    refine lv_iconst (v := 4) hx hb dX8_clean_26 (by decide) ?_
    refine lv_icmp_ge (tgt := 49) hx hb dX8_clean_27 (by decide) (fun hc => ?_) (fun hc => ?_)
    · have hw := hw.1 hc
      exact k_clean_49 C ha_r0 σ hw H locs ls hO (lv_sub hl [] rfl)
    · have hw := hw.2 hc
      refine lv_lload_n hx hb dX8_clean_30 rfl (lv_at hl 1 rfl) ?_
      refine lv_lconst (v := 1) hx hb dX8_clean_31 (by decide) ?_
      refine W.lcmp hx hb dX8_clean_32 ?_
      refine lv_if_le (tgt := 49) hx hb dX8_clean_33 (by decide) (fun hc => ?_) (fun hc => ?_)
      · have hc := (lg_cmp_le _ _).mp hc
        have hw := hw.1 hc
        exact k_clean_49 C ha_r0 σ hw H locs ls hO (lv_sub hl [] rfl)
      · have hc := (not_congr (lg_cmp_le _ _)).mp hc
        have hw := hw.2 hc
        refine lv_aload_n hx hb dX8_clean_36 rfl (lv_at hl 0 rfl) ?_
        refine lv_iload_n hx hb dX8_clean_37 rfl (lv_at hl 2 rfl) ?_
        refine lv_dup2_11 hx hb dX8_clean_38 rfl rfl ?_
        refine mx_lald C hO (a := r0) ha_r0 hw.1 dX8_clean_39 ?_
        have hw := hw.2
        refine lv_lload_n hx hb dX8_clean_40 rfl (lv_at hl 1 rfl) ?_
        refine lv_ldiv hx hb dX8_clean_41 hw.1 ?_
        have hw := hw.2
        refine mx_last C hO (a := r0) ha_r0 hw.1 dX8_clean_42 (fun H locs σ101 eσ101 hO => ?_)
        have hw := hw.2 σ101 eσ101
        obtain ⟨x3_102, ex3_102⟩ : ∃ y : Int32, y = x3 + 1 := ⟨_, rfl⟩
        have hw := hw x3_102 ex3_102
        refine lv_iinc (v := x3_102) (lv' := [(3, .int x3_102), (0, .ref (ad r0)), (1, .long x1)]) hx hb dX8_clean_43 hl (k := 2) rfl (by rw [ex3_102]; rfl) (by decide) rfl (fun ls hl => ?_)
        refine lv_goto (tgt := 25) hx hb dX8_clean_46 (by decide) ?_
        exact ih x1 x3_102 σ101 hw H locs ls hO (lv_sub hl [1, 2, 0] rfl)
set_option maxRecDepth 100000 in
set_option maxHeartbeats 4000000 in
theorem k_clean_4 {p : Program} {l : Launch} {e : Env} {s : State} {m : MethodId} {args : Array Value} {below : List Frame} {meth : Method} {c : Code} {D : va_G} {y : Nat → ClassId} {ad : Nat → Nat} {X : va_W} {A : Nat → Prop} {Q : mS → Prop} (C : mC p s m args meth c cX8_clean 4 none wsX8_clean D y A) {r0 : Nat} (ha_r0 : mJ r0 = true) (n : Nat) : ∀ (x1 : Int64) (x3 : Int32) (σ : mS), w_clean_4 Q r0 n x1 x3 σ → ∀ (H : Heap) (locs : List Loc) (ls : Array Slot), mO D y ad X A s.heap H locs σ → lv_has ls 4 [(0, .ref (ad r0)), (1, .long x1), (3, .int x3)] → W p l e rX8_clean s m args below meth c H locs 0 0 (MQ below (va_Qv Q (mB D y ad X A) A) args s 0 0 A) (F0 m 4 ls []) := by
  obtain ⟨hx, hb, hr, hml, hown, hts, hlk, hK, hA⟩ := id C
  induction n with
  | zero =>
    intro x1 x3 σ hw
    exact (show False from hw).elim
  | succ n ih =>
    intro x1 x3 σ hw H locs ls hO hl
    unfold w_clean_4 at hw
    refine lv_iload_n hx hb dX8_clean_4 rfl (lv_at hl 2 rfl) ?_
    refine lv_iconst (v := 4) hx hb dX8_clean_5 (by decide) ?_
    refine lv_icmp_ge (tgt := 23) hx hb dX8_clean_6 (by decide) (fun hc => ?_) (fun hc => ?_)
    · have hw := hw.1 hc
      refine lv_iconst (v := 0) hx hb dX8_clean_23 (by decide) ?_
      refine lv_istore_n (lv' := [(3, .int ((0 : Int32))), (0, .ref (ad r0)), (1, .long x1)]) hx hb dX8_clean_24 rfl hl (by decide) rfl (fun ls hl => ?_)
      exact k_clean_25 C ha_r0 fuL x1 ((0 : Int32)) σ hw H locs ls hO (lv_sub hl [1, 2, 0] rfl)
    · have hw := hw.2 hc
      refine lv_lload_n hx hb dX8_clean_9 rfl (lv_at hl 1 rfl) ?_
      refine lv_aload_n hx hb dX8_clean_10 rfl (lv_at hl 0 rfl) ?_
      refine lv_iload_n hx hb dX8_clean_11 rfl (lv_at hl 2 rfl) ?_
      refine mx_lald C hO (a := r0) ha_r0 hw.1 dX8_clean_12 ?_
      have hw := hw.2
      refine mx_cls C hO (c_common l D y ad X σ x1 (σ.1 r0 (x3).toNatClampNeg) _ hw) (va_cwS 2 hts gX8_clean_X8_common rfl rfl rfl (by decide +kernel) ⟨Nat.le_of_ble_eq_true rfl, Nat.le_of_ble_eq_true rfl⟩) rfl hl.1 rfl (lv_room (Nat.le_of_ble_eq_true rfl)) dX8_clean_13 (fun u101 σ102 H locs hw hO => ?_)
      refine lv_lstore_n (lv' := [(1, .long u101), (0, .ref (ad r0)), (3, .int x3)]) hx hb dX8_clean_16 rfl hl (by decide) rfl (fun ls hl => ?_)
      obtain ⟨x3_103, ex3_103⟩ : ∃ y : Int32, y = x3 + 1 := ⟨_, rfl⟩
      have hw := hw x3_103 ex3_103
      refine lv_iinc (v := x3_103) (lv' := [(3, .int x3_103), (1, .long u101), (0, .ref (ad r0))]) hx hb dX8_clean_17 hl (k := 2) rfl (by rw [ex3_103]; rfl) (by decide) rfl (fun ls hl => ?_)
      refine lv_goto (tgt := 4) hx hb dX8_clean_20 (by decide) ?_
      exact ih u101 x3_103 σ102 hw H locs ls hO (lv_sub hl [2, 1, 0] rfl)
set_option maxRecDepth 100000 in
set_option maxHeartbeats 4000000 in
theorem k_clean_e {p : Program} {l : Launch} {e : Env} {s : State} {m : MethodId} {args : Array Value} {below : List Frame} {meth : Method} {c : Code} {D : va_G} {y : Nat → ClassId} {ad : Nat → Nat} {X : va_W} {A : Nat → Prop} {Q : mS → Prop} (C : mC p s m args meth c cX8_clean 4 none wsX8_clean D y A) {r0 : Nat} (ha_r0 : mJ r0 = true)  (σ : mS) (hw : w_clean Q r0 σ) (H : Heap) (locs : List Loc) (ls : Array Slot) (hO : mO D y ad X A s.heap H locs σ) (hl : lv_has ls 4 [(0, .ref (ad r0))]) : W p l e rX8_clean s m args below meth c H locs 0 0 (MQ below (va_Qv Q (mB D y ad X A) A) args s 0 0 A) (F0 m 0 ls []) := by
  obtain ⟨hx, hb, hr, hml, hown, hts, hlk, hK, hA⟩ := id C
  unfold w_clean at hw
  refine lv_lconst (v := 0) hx hb dX8_clean_0 (by decide) ?_
  refine lv_lstore_n (lv' := [(1, .long ((0 : Int64))), (0, .ref (ad r0))]) hx hb dX8_clean_1 rfl hl (by decide) rfl (fun ls hl => ?_)
  refine lv_iconst (v := 0) hx hb dX8_clean_2 (by decide) ?_
  refine lv_istore_n (lv' := [(3, .int ((0 : Int32))), (1, .long ((0 : Int64))), (0, .ref (ad r0))]) hx hb dX8_clean_3 rfl hl (by decide) rfl (fun ls hl => ?_)
  exact k_clean_4 C ha_r0 fuL ((0 : Int64)) ((0 : Int32)) σ hw H locs ls hO (lv_sub hl [2, 1, 0] rfl)
theorem c_clean (l : Launch) (D : va_G) (y : Nat → ClassId) (ad : Nat → Nat) (X : va_W) (σ : mS) (r0 : Nat) (ha_r0 : mJ r0 = true) (Q : mS → Prop) (hw : w_clean Q r0 σ) : ∀ sz, Met l yX8_clean wsX8_clean rX8_clean (va_Pc [.ref (ad r0)] (mPre D y ad X sz σ)) (va_Qv Q (mB D y ad X (va_A (mW y ad σ ++ X) sz)) (va_A (mW y ad σ ++ X) sz)) 0 0 (va_A (mW y ad σ ++ X) sz) :=
  mMet (Qc := fun A => va_Qv Q (mB D y ad X A) A) rfl (Nat.le_of_ble_eq_true rfl) (fun p e s m args below meth c A ls C hO hl => k_clean_e C ha_r0 σ hw s.heap [] ls hO hl)
abbrev rX8_leave : Room := { frames := 2, cells := 0, slots := 0, locals := 52 }
set_option maxRecDepth 100000 in
set_option maxHeartbeats 4000000 in
theorem k_leave_68 {p : Program} {l : Launch} {e : Env} {s : State} {m : MethodId} {args : Array Value} {below : List Frame} {meth : Method} {c : Code} {D : va_G} {y : Nat → ClassId} {ad : Nat → Nat} {X : va_W} {A : Nat → Prop} {Q : mS → Prop} (C : mC p s m args meth c cX8_leave 8 none wsX8_leave D y A) {r18 : Int32 → Int32 → mS → Prop} (hr18 : ∀ (x1 : Int32) (x2 : Int32) (σ : mS), r18 x1 x2 σ → ∀ (H : Heap) (locs : List Loc) (ls : Array Slot), mO D y ad X A s.heap H locs σ → lv_has ls 8 [(0, .ref (ad 0)), (1, .int x1), (2, .int x2)] → W p l e rX8_leave s m args below meth c H locs 0 0 (MQ below (va_Qv Q (mB D y ad X A) A) args s 0 0 A) (F0 m 18 ls [])) (n : Nat) : ∀ (x1 : Int32) (x2 : Int32) (x3 : Int64) (x7 : Int32) (σ : mS), w_leave_68 Q r18 n x1 x2 x3 x7 σ → ∀ (H : Heap) (locs : List Loc) (ls : Array Slot), mO D y ad X A s.heap H locs σ → lv_has ls 8 [(0, .ref (ad 0)), (1, .int x1), (2, .int x2), (3, .long x3), (7, .int x7)] → W p l e rX8_leave s m args below meth c H locs 0 0 (MQ below (va_Qv Q (mB D y ad X A) A) args s 0 0 A) (F0 m 68 ls []) := by
  obtain ⟨hx, hb, hr, hml, hown, hts, hlk, hK, hA⟩ := id C
  have hin : ∀ w ∈ wsX80, w ∈ wsX8_leave := fun _ h => List.mem_cons_of_mem _ (List.mem_append_right _ h)
  induction n with
  | zero =>
    intro x1 x2 x3 x7 σ hw
    exact (show False from hw).elim
  | succ n ih =>
    intro x1 x2 x3 x7 σ hw H locs ls hO hl
    unfold w_leave_68 at hw
    refine lv_iload hx hb dX8_leave_68 (lv_at hl 4 rfl) ?_
    refine lv_iload_n hx hb dX8_leave_70 rfl (lv_at hl 1 rfl) ?_
    refine lv_icmp_gt (tgt := 103) hx hb dX8_leave_71 (by decide) (fun hc => ?_) (fun hc => ?_)
    · have hw := hw.1 hc
      refine lv_aload_n hx hb dX8_leave_103 rfl (lv_at hl 0 rfl) ?_
      refine mx_get C hO hin 3 (by decide) (idx := 20) (by decide +kernel) rfl rfl dX8_leave_104 ?_
      refine lv_iconst (v := 0) hx hb dX8_leave_107 (by decide) ?_
      refine mx_cis C hO (c_degreeAt l D y ad X σ 4 ((0 : Int32)) (rfl) _ hw) (va_cwS 2 hts gX8_leave_X8_degreeAt rfl rfl rfl (by decide +kernel) ⟨Nat.le_of_ble_eq_true rfl, Nat.le_of_ble_eq_true rfl⟩) rfl hl.1 rfl (lv_room (Nat.le_of_ble_eq_true rfl)) dX8_leave_108 (fun u101 σ102 H locs hw hO => ?_)
      refine lv_istore_n (lv' := [(2, .int u101), (0, .ref (ad 0)), (1, .int x1), (3, .long x3), (7, .int x7)]) hx hb dX8_leave_111 rfl hl (by decide) rfl (fun ls hl => ?_)
      refine lv_goto (tgt := 18) hx hb dX8_leave_112 (by decide) ?_
      exact hr18 x1 u101 σ102 hw H locs ls hO (lv_sub hl [1, 2, 0] rfl)
    · have hw := hw.2 hc
      refine lv_aload_n hx hb dX8_leave_74 rfl (lv_at hl 0 rfl) ?_
      refine mx_get C hO hin 3 (by decide) (idx := 20) (by decide +kernel) rfl rfl dX8_leave_75 ?_
      refine lv_iload_n hx hb dX8_leave_78 rfl (lv_at hl 2 rfl) ?_
      refine lv_iload_n hx hb dX8_leave_79 rfl (lv_at hl 1 rfl) ?_
      refine lv_isub hx hb dX8_leave_80 ?_
      refine lv_iload hx hb dX8_leave_81 (lv_at hl 4 rfl) ?_
      refine lv_iadd hx hb dX8_leave_83 ?_
      refine lv_dup2_11 hx hb dX8_leave_84 rfl rfl ?_
      refine mx_lald C hO (a := 4) rfl hw.1 dX8_leave_85 ?_
      have hw := hw.2
      refine lv_lload_n hx hb dX8_leave_86 rfl (lv_at hl 3 rfl) ?_
      refine lv_aload_n hx hb dX8_leave_87 rfl (lv_at hl 0 rfl) ?_
      refine mx_get C hO hin 4 (by decide) (idx := 23) (by decide +kernel) rfl rfl dX8_leave_88 ?_
      refine lv_iload hx hb dX8_leave_91 (lv_at hl 4 rfl) ?_
      refine mx_lald C hO (a := 5) rfl hw.1 dX8_leave_93 ?_
      have hw := hw.2
      refine lv_lmul hx hb dX8_leave_94 ?_
      refine lv_lsub hx hb dX8_leave_95 ?_
      refine mx_last C hO (a := 4) rfl hw.1 dX8_leave_96 (fun H locs σ103 eσ103 hO => ?_)
      have hw := hw.2 σ103 eσ103
      obtain ⟨x7_104, ex7_104⟩ : ∃ y : Int32, y = x7 + 1 := ⟨_, rfl⟩
      have hw := hw x7_104 ex7_104
      refine lv_iinc (v := x7_104) (lv' := [(7, .int x7_104), (0, .ref (ad 0)), (1, .int x1), (2, .int x2), (3, .long x3)]) hx hb dX8_leave_97 hl (k := 4) rfl (by rw [ex7_104]; rfl) (by decide) rfl (fun ls hl => ?_)
      refine lv_goto (tgt := 68) hx hb dX8_leave_100 (by decide) ?_
      exact ih x1 x2 x3 x7_104 σ103 hw H locs ls hO (lv_sub hl [1, 2, 3, 4, 0] rfl)
set_option maxRecDepth 100000 in
set_option maxHeartbeats 4000000 in
theorem k_leave_41 {p : Program} {l : Launch} {e : Env} {s : State} {m : MethodId} {args : Array Value} {below : List Frame} {meth : Method} {c : Code} {D : va_G} {y : Nat → ClassId} {ad : Nat → Nat} {X : va_W} {A : Nat → Prop} {Q : mS → Prop} (C : mC p s m args meth c cX8_leave 8 none wsX8_leave D y A) {r18 : Int32 → Int32 → mS → Prop} (hr18 : ∀ (x1 : Int32) (x2 : Int32) (σ : mS), r18 x1 x2 σ → ∀ (H : Heap) (locs : List Loc) (ls : Array Slot), mO D y ad X A s.heap H locs σ → lv_has ls 8 [(0, .ref (ad 0)), (1, .int x1), (2, .int x2)] → W p l e rX8_leave s m args below meth c H locs 0 0 (MQ below (va_Qv Q (mB D y ad X A) A) args s 0 0 A) (F0 m 18 ls [])) (n : Nat) : ∀ (x1 : Int32) (x2 : Int32) (x3 : Int64) (x5 : Int64) (x7 : Int32) (σ : mS), w_leave_41 Q r18 n x1 x2 x3 x5 x7 σ → ∀ (H : Heap) (locs : List Loc) (ls : Array Slot), mO D y ad X A s.heap H locs σ → lv_has ls 8 [(0, .ref (ad 0)), (1, .int x1), (2, .int x2), (3, .long x3), (5, .long x5), (7, .int x7)] → W p l e rX8_leave s m args below meth c H locs 0 0 (MQ below (va_Qv Q (mB D y ad X A) A) args s 0 0 A) (F0 m 41 ls []) := by
  obtain ⟨hx, hb, hr, hml, hown, hts, hlk, hK, hA⟩ := id C
  have hin : ∀ w ∈ wsX80, w ∈ wsX8_leave := fun _ h => List.mem_cons_of_mem _ (List.mem_append_right _ h)
  induction n with
  | zero =>
    intro x1 x2 x3 x5 x7 σ hw
    exact (show False from hw).elim
  | succ n ih =>
    intro x1 x2 x3 x5 x7 σ hw H locs ls hO hl
    unfold w_leave_41 at hw
    refine lv_iload hx hb dX8_leave_41 (lv_at hl 5 rfl) ?_
    refine lv_iconst (v := 4) hx hb dX8_leave_43 (by decide) ?_
    refine lv_icmp_ge (tgt := 65) hx hb dX8_leave_44 (by decide) (fun hc => ?_) (fun hc => ?_)
    · have hw := hw.1 hc
      refine lv_iconst (v := 0) hx hb dX8_leave_65 (by decide) ?_
      refine lv_istore (lv' := [(7, .int ((0 : Int32))), (0, .ref (ad 0)), (1, .int x1), (2, .int x2), (3, .long x3), (5, .long x5)]) hx hb dX8_leave_66 hl (by decide) rfl (fun ls hl => ?_)
      exact k_leave_68 C hr18 fuL x1 x2 x3 ((0 : Int32)) σ hw H locs ls hO (lv_sub hl [1, 2, 3, 4, 0] rfl)
    · have hw := hw.2 hc
      refine lv_aload_n hx hb dX8_leave_47 rfl (lv_at hl 0 rfl) ?_
      refine mx_get C hO hin 3 (by decide) (idx := 20) (by decide +kernel) rfl rfl dX8_leave_48 ?_
      refine lv_iload hx hb dX8_leave_51 (lv_at hl 5 rfl) ?_
      refine lv_dup2_11 hx hb dX8_leave_53 rfl rfl ?_
      refine mx_lald C hO (a := 4) rfl hw.1 dX8_leave_54 ?_
      have hw := hw.2
      refine lv_lload hx hb dX8_leave_55 (lv_at hl 4 rfl) ?_
      refine lv_lmul hx hb dX8_leave_57 ?_
      refine mx_last C hO (a := 4) rfl hw.1 dX8_leave_58 (fun H locs σ101 eσ101 hO => ?_)
      have hw := hw.2 σ101 eσ101
      obtain ⟨x7_102, ex7_102⟩ : ∃ y : Int32, y = x7 + 1 := ⟨_, rfl⟩
      have hw := hw x7_102 ex7_102
      refine lv_iinc (v := x7_102) (lv' := [(7, .int x7_102), (0, .ref (ad 0)), (1, .int x1), (2, .int x2), (3, .long x3), (5, .long x5)]) hx hb dX8_leave_59 hl (k := 5) rfl (by rw [ex7_102]; rfl) (by decide) rfl (fun ls hl => ?_)
      refine lv_goto (tgt := 41) hx hb dX8_leave_62 (by decide) ?_
      exact ih x1 x2 x3 x5 x7_102 σ101 hw H locs ls hO (lv_sub hl [1, 2, 3, 4, 5, 0] rfl)
set_option maxRecDepth 100000 in
set_option maxHeartbeats 4000000 in
theorem k_leave_18 {p : Program} {l : Launch} {e : Env} {s : State} {m : MethodId} {args : Array Value} {below : List Frame} {meth : Method} {c : Code} {D : va_G} {y : Nat → ClassId} {ad : Nat → Nat} {X : va_W} {A : Nat → Prop} {Q : mS → Prop} (C : mC p s m args meth c cX8_leave 8 none wsX8_leave D y A) (n : Nat) : ∀ (x1 : Int32) (x2 : Int32) (σ : mS), w_leave_18 Q n x1 x2 σ → ∀ (H : Heap) (locs : List Loc) (ls : Array Slot), mO D y ad X A s.heap H locs σ → lv_has ls 8 [(0, .ref (ad 0)), (1, .int x1), (2, .int x2)] → W p l e rX8_leave s m args below meth c H locs 0 0 (MQ below (va_Qv Q (mB D y ad X A) A) args s 0 0 A) (F0 m 18 ls []) := by
  obtain ⟨hx, hb, hr, hml, hown, hts, hlk, hK, hA⟩ := id C
  have hin : ∀ w ∈ wsX80, w ∈ wsX8_leave := fun _ h => List.mem_cons_of_mem _ (List.mem_append_right _ h)
  induction n with
  | zero =>
    intro x1 x2 σ hw
    exact (show False from hw).elim
  | succ n ih =>
    intro x1 x2 σ hw H locs ls hO hl
    unfold w_leave_18 at hw
    refine lv_iload_n hx hb dX8_leave_18 rfl (lv_at hl 2 rfl) ?_
    refine lv_iload_n hx hb dX8_leave_19 rfl (lv_at hl 1 rfl) ?_
    refine lv_icmp_lt (tgt := 115) hx hb dX8_leave_20 (by decide) (fun hc => ?_) (fun hc => ?_)
    · have hw := hw.1 hc
      refine lv_aload_n hx hb dX8_leave_115 rfl (lv_at hl 0 rfl) ?_
      refine mx_get C hO hin 3 (by decide) (idx := 20) (by decide +kernel) rfl rfl dX8_leave_116 ?_
      refine mx_cvs C hO (c_clean l D y ad X σ 4 (rfl) _ hw) (va_cwS 1 hts gX8_leave_X8_clean rfl rfl rfl (by decide +kernel) ⟨Nat.le_of_ble_eq_true rfl, Nat.le_of_ble_eq_true rfl⟩) rfl hl.1 rfl (lv_room (Nat.le_of_ble_eq_true rfl)) dX8_leave_119 (fun σ102 H locs hw hO => ?_)
      exact mx_vret C hO hw dX8_leave_122
    · have hw := hw.2 hc
      refine lv_aload_n hx hb dX8_leave_23 rfl (lv_at hl 0 rfl) ?_
      refine mx_get C hO hin 3 (by decide) (idx := 20) (by decide +kernel) rfl rfl dX8_leave_24 ?_
      refine lv_iload_n hx hb dX8_leave_27 rfl (lv_at hl 2 rfl) ?_
      refine mx_lald C hO (a := 4) rfl hw.1 dX8_leave_28 ?_
      have hw := hw.2
      refine lv_topl (fun x3_103 ex3_103 => ?_)
      have hw := hw x3_103 ex3_103
      refine lv_lstore_n (lv' := [(3, .long x3_103), (0, .ref (ad 0)), (1, .int x1), (2, .int x2)]) hx hb dX8_leave_29 rfl hl (by decide) rfl (fun ls hl => ?_)
      refine lv_aload_n hx hb dX8_leave_30 rfl (lv_at hl 1 rfl) ?_
      refine mx_get C hO hin 4 (by decide) (idx := 23) (by decide +kernel) rfl rfl dX8_leave_31 ?_
      refine lv_iload_n hx hb dX8_leave_34 rfl (lv_at hl 2 rfl) ?_
      refine mx_lald C hO (a := 5) rfl hw.1 dX8_leave_35 ?_
      have hw := hw.2
      refine lv_topl (fun x5_104 ex5_104 => ?_)
      have hw := hw x5_104 ex5_104
      refine lv_lstore (lv' := [(5, .long x5_104), (3, .long x3_103), (0, .ref (ad 0)), (1, .int x1), (2, .int x2)]) hx hb dX8_leave_36 hl (by decide) rfl (fun ls hl => ?_)
      refine lv_iconst (v := 0) hx hb dX8_leave_38 (by decide) ?_
      refine lv_istore (lv' := [(7, .int ((0 : Int32))), (5, .long x5_104), (3, .long x3_103), (0, .ref (ad 0)), (1, .int x1), (2, .int x2)]) hx hb dX8_leave_39 hl (by decide) rfl (fun ls hl => ?_)
      exact k_leave_41 C (fun x1 x2 σ hw H locs ls hO hl => ih x1 x2 σ hw H locs ls hO hl) fuL x1 x2 x3_103 x5_104 ((0 : Int32)) σ hw H locs ls hO (lv_sub hl [3, 4, 5, 2, 1, 0] rfl)
set_option maxRecDepth 100000 in
set_option maxHeartbeats 4000000 in
theorem k_leave_e {p : Program} {l : Launch} {e : Env} {s : State} {m : MethodId} {args : Array Value} {below : List Frame} {meth : Method} {c : Code} {D : va_G} {y : Nat → ClassId} {ad : Nat → Nat} {X : va_W} {A : Nat → Prop} {Q : mS → Prop} (C : mC p s m args meth c cX8_leave 8 none wsX8_leave D y A)  (σ : mS) (hw : w_leave Q σ) (H : Heap) (locs : List Loc) (ls : Array Slot) (hO : mO D y ad X A s.heap H locs σ) (hl : lv_has ls 8 [(0, .ref (ad 0))]) : W p l e rX8_leave s m args below meth c H locs 0 0 (MQ below (va_Qv Q (mB D y ad X A) A) args s 0 0 A) (F0 m 0 ls []) := by
  obtain ⟨hx, hb, hr, hml, hown, hts, hlk, hK, hA⟩ := id C
  have hin : ∀ w ∈ wsX80, w ∈ wsX8_leave := fun _ h => List.mem_cons_of_mem _ (List.mem_append_right _ h)
  unfold w_leave at hw
  refine lv_aload_n hx hb dX8_leave_0 rfl (lv_at hl 0 rfl) ?_
  refine mx_get C hO hin 4 (by decide) (idx := 23) (by decide +kernel) rfl rfl dX8_leave_1 ?_
  refine lv_iconst (v := 0) hx hb dX8_leave_4 (by decide) ?_
  refine mx_cis C hO (c_degreeAt l D y ad X σ 5 ((0 : Int32)) (rfl) _ hw) (va_cwS 2 hts gX8_leave_X8_degreeAt rfl rfl rfl (by decide +kernel) ⟨Nat.le_of_ble_eq_true rfl, Nat.le_of_ble_eq_true rfl⟩) rfl hl.1 rfl (lv_room (Nat.le_of_ble_eq_true rfl)) dX8_leave_5 (fun u101 σ102 H locs hw hO => ?_)
  refine lv_istore_n (lv' := [(1, .int u101), (0, .ref (ad 0))]) hx hb dX8_leave_8 rfl hl (by decide) rfl (fun ls hl => ?_)
  refine lv_aload_n hx hb dX8_leave_9 rfl (lv_at hl 1 rfl) ?_
  refine mx_get C hO hin 3 (by decide) (idx := 20) (by decide +kernel) rfl rfl dX8_leave_10 ?_
  refine lv_iconst (v := 0) hx hb dX8_leave_13 (by decide) ?_
  refine mx_cis C hO (c_degreeAt l D y ad X σ102 4 ((0 : Int32)) (rfl) _ hw) (va_cwS 2 hts gX8_leave_X8_degreeAt rfl rfl rfl (by decide +kernel) ⟨Nat.le_of_ble_eq_true rfl, Nat.le_of_ble_eq_true rfl⟩) rfl hl.1 rfl (lv_room (Nat.le_of_ble_eq_true rfl)) dX8_leave_14 (fun u103 σ104 H locs hw hO => ?_)
  refine lv_istore_n (lv' := [(2, .int u103), (1, .int u101), (0, .ref (ad 0))]) hx hb dX8_leave_17 rfl hl (by decide) rfl (fun ls hl => ?_)
  exact k_leave_18 C fuL u101 u103 σ104 hw H locs ls hO (lv_sub hl [2, 1, 0] rfl)
theorem c_leave (l : Launch) (D : va_G) (y : Nat → ClassId) (ad : Nat → Nat) (X : va_W) (σ : mS)  (Q : mS → Prop) (hw : w_leave Q σ) : ∀ sz, Met l yX8_leave wsX8_leave rX8_leave (va_Pc [.ref (ad 0)] (mPre D y ad X sz σ)) (va_Qv Q (mB D y ad X (va_A (mW y ad σ ++ X) sz)) (va_A (mW y ad σ ++ X) sz)) 0 0 (va_A (mW y ad σ ++ X) sz) :=
  mMet (Qc := fun A => va_Qv Q (mB D y ad X A) A) rfl (Nat.le_of_ble_eq_true rfl) (fun p e s m args below meth c A ls C hO hl => k_leave_e C σ hw s.heap [] ls hO hl)
abbrev rX8_change : Room := { frames := 0, cells := 0, slots := 0, locals := 0 }
set_option maxRecDepth 100000 in
set_option maxHeartbeats 4000000 in
theorem k_change_2 {p : Program} {l : Launch} {e : Env} {s : State} {m : MethodId} {args : Array Value} {below : List Frame} {meth : Method} {c : Code} {D : va_G} {y : Nat → ClassId} {ad : Nat → Nat} {X : va_W} {A : Nat → Prop} {Q : mS → Prop} (C : mC p s m args meth c cX8_change 4 none wsX8_change D y A) (n : Nat) : ∀ (x1 : Int32) (σ : mS), w_change_2 Q n x1 σ → ∀ (H : Heap) (locs : List Loc) (ls : Array Slot), mO D y ad X A s.heap H locs σ → lv_has ls 4 [(0, .ref (ad 0)), (1, .int x1)] → W p l e rX8_change s m args below meth c H locs 0 0 (MQ below (va_Qv Q (mB D y ad X A) A) args s 0 0 A) (F0 m 2 ls []) := by
  obtain ⟨hx, hb, hr, hml, hown, hts, hlk, hK, hA⟩ := id C
  have hin : ∀ w ∈ wsX80, w ∈ wsX8_change := fun _ h => List.mem_cons_of_mem _ (List.mem_append_right _ h)
  induction n with
  | zero =>
    intro x1 σ hw
    exact (show False from hw).elim
  | succ n ih =>
    intro x1 σ hw H locs ls hO hl
    unfold w_change_2 at hw
    refine lv_iload_n hx hb dX8_change_2 rfl (lv_at hl 1 rfl) ?_
    refine lv_iconst (v := 4) hx hb dX8_change_3 (by decide) ?_
    refine lv_icmp_ge (tgt := 39) hx hb dX8_change_4 (by decide) (fun hc => ?_) (fun hc => ?_)
    · have hw := hw.1 hc
      exact mx_vret C hO hw dX8_change_39
    · have hw := hw.2 hc
      refine lv_aload_n hx hb dX8_change_7 rfl (lv_at hl 0 rfl) ?_
      refine mx_get C hO hin 3 (by decide) (idx := 20) (by decide +kernel) rfl rfl dX8_change_8 ?_
      refine lv_iload_n hx hb dX8_change_11 rfl (lv_at hl 1 rfl) ?_
      refine mx_lald C hO (a := 4) rfl hw.1 dX8_change_12 ?_
      have hw := hw.2
      refine lv_topl (fun x2_101 ex2_101 => ?_)
      have hw := hw x2_101 ex2_101
      refine lv_lstore_n (lv' := [(2, .long x2_101), (0, .ref (ad 0)), (1, .int x1)]) hx hb dX8_change_13 rfl hl (by decide) rfl (fun ls hl => ?_)
      refine lv_aload_n hx hb dX8_change_14 rfl (lv_at hl 1 rfl) ?_
      refine mx_get C hO hin 3 (by decide) (idx := 20) (by decide +kernel) rfl rfl dX8_change_15 ?_
      refine lv_iload_n hx hb dX8_change_18 rfl (lv_at hl 2 rfl) ?_
      refine lv_aload_n hx hb dX8_change_19 rfl (lv_at hl 1 rfl) ?_
      refine mx_get C hO hin 4 (by decide) (idx := 23) (by decide +kernel) rfl rfl dX8_change_20 ?_
      refine lv_iload_n hx hb dX8_change_23 rfl (lv_at hl 2 rfl) ?_
      refine mx_lald C hO (a := 5) rfl hw.1 dX8_change_24 ?_
      have hw := hw.2
      refine mx_last C hO (a := 4) rfl hw.1 dX8_change_25 (fun H locs σ102 eσ102 hO => ?_)
      have hw := hw.2 σ102 eσ102
      refine lv_aload_n hx hb dX8_change_26 rfl (lv_at hl 1 rfl) ?_
      refine mx_get C hO hin 4 (by decide) (idx := 23) (by decide +kernel) rfl rfl dX8_change_27 ?_
      refine lv_iload_n hx hb dX8_change_30 rfl (lv_at hl 2 rfl) ?_
      refine lv_lload_n hx hb dX8_change_31 rfl (lv_at hl 0 rfl) ?_
      refine mx_last C hO (a := 5) rfl hw.1 dX8_change_32 (fun H locs σ103 eσ103 hO => ?_)
      have hw := hw.2 σ103 eσ103
      obtain ⟨x1_104, ex1_104⟩ : ∃ y : Int32, y = x1 + 1 := ⟨_, rfl⟩
      have hw := hw x1_104 ex1_104
      refine lv_iinc (v := x1_104) (lv' := [(1, .int x1_104), (2, .long x2_101), (0, .ref (ad 0))]) hx hb dX8_change_33 hl (k := 2) rfl (by rw [ex1_104]; rfl) (by decide) rfl (fun ls hl => ?_)
      refine lv_goto (tgt := 2) hx hb dX8_change_36 (by decide) ?_
      exact ih x1_104 σ103 hw H locs ls hO (lv_sub hl [2, 0] rfl)
set_option maxRecDepth 100000 in
set_option maxHeartbeats 4000000 in
theorem k_change_e {p : Program} {l : Launch} {e : Env} {s : State} {m : MethodId} {args : Array Value} {below : List Frame} {meth : Method} {c : Code} {D : va_G} {y : Nat → ClassId} {ad : Nat → Nat} {X : va_W} {A : Nat → Prop} {Q : mS → Prop} (C : mC p s m args meth c cX8_change 4 none wsX8_change D y A)  (σ : mS) (hw : w_change Q σ) (H : Heap) (locs : List Loc) (ls : Array Slot) (hO : mO D y ad X A s.heap H locs σ) (hl : lv_has ls 4 [(0, .ref (ad 0))]) : W p l e rX8_change s m args below meth c H locs 0 0 (MQ below (va_Qv Q (mB D y ad X A) A) args s 0 0 A) (F0 m 0 ls []) := by
  obtain ⟨hx, hb, hr, hml, hown, hts, hlk, hK, hA⟩ := id C
  unfold w_change at hw
  refine lv_iconst (v := 0) hx hb dX8_change_0 (by decide) ?_
  refine lv_istore_n (lv' := [(1, .int ((0 : Int32))), (0, .ref (ad 0))]) hx hb dX8_change_1 rfl hl (by decide) rfl (fun ls hl => ?_)
  exact k_change_2 C fuL ((0 : Int32)) σ hw H locs ls hO (lv_sub hl [1, 0] rfl)
theorem c_change (l : Launch) (D : va_G) (y : Nat → ClassId) (ad : Nat → Nat) (X : va_W) (σ : mS)  (Q : mS → Prop) (hw : w_change Q σ) : ∀ sz, Met l yX8_change wsX8_change rX8_change (va_Pc [.ref (ad 0)] (mPre D y ad X sz σ)) (va_Qv Q (mB D y ad X (va_A (mW y ad σ ++ X) sz)) (va_A (mW y ad σ ++ X) sz)) 0 0 (va_A (mW y ad σ ++ X) sz) :=
  mMet (Qc := fun A => va_Qv Q (mB D y ad X A) A) rfl (Nat.le_of_ble_eq_true rfl) (fun p e s m args below meth c A ls C hO hl => k_change_e C σ hw s.heap [] ls hO hl)
abbrev rX8_dividesLine : Room := { frames := 1, cells := 0, slots := 0, locals := 25 }
set_option maxRecDepth 100000 in
set_option maxHeartbeats 4000000 in
theorem k_dividesLine_85 {p : Program} {l : Launch} {e : Env} {s : State} {m : MethodId} {args : Array Value} {below : List Frame} {meth : Method} {c : Code} {D : va_G} {y : Nat → ClassId} {ad : Nat → Nat} {X : va_W} {A : Nat → Prop} {Q : Int32 → mS → Prop} (C : mC p s m args meth c cX8_dividesLine 8 (some .boolean) wsX8_dividesLine D y A) {r4 : Int64 → Int32 → mS → Prop} (hr4 : ∀ (x1 : Int64) (x3 : Int32) (σ : mS), r4 x1 x3 σ → ∀ (H : Heap) (locs : List Loc) (ls : Array Slot), mO D y ad X A s.heap H locs σ → lv_has ls 8 [(0, .ref (ad 0)), (1, .long x1), (3, .int x3)] → W p l e rX8_dividesLine s m args below meth c H locs 0 0 (MQ below (va_Qi Q (mB D y ad X A) A) args s 0 0 A) (F0 m 4 ls []))  (σ : mS) (hw : w_dividesLine_85 Q r4 σ) (H : Heap) (locs : List Loc) (ls : Array Slot) (hO : mO D y ad X A s.heap H locs σ) (hl : lv_has ls 8 [(0, .ref (ad 0))]) : W p l e rX8_dividesLine s m args below meth c H locs 0 0 (MQ below (va_Qi Q (mB D y ad X A) A) args s 0 0 A) (F0 m 85 ls []) := by
  obtain ⟨hx, hb, hr, hml, hown, hts, hlk, hK, hA⟩ := id C
  unfold w_dividesLine_85 at hw
  refine lv_iconst (v := 0) hx hb dX8_dividesLine_85 (by decide) ?_
  exact mx_zret C hO hw.1 hw.2 dX8_dividesLine_86
set_option maxRecDepth 100000 in
set_option maxHeartbeats 4000000 in
theorem k_dividesLine_107 {p : Program} {l : Launch} {e : Env} {s : State} {m : MethodId} {args : Array Value} {below : List Frame} {meth : Method} {c : Code} {D : va_G} {y : Nat → ClassId} {ad : Nat → Nat} {X : va_W} {A : Nat → Prop} {Q : Int32 → mS → Prop} (C : mC p s m args meth c cX8_dividesLine 8 (some .boolean) wsX8_dividesLine D y A) {r4 : Int64 → Int32 → mS → Prop} (hr4 : ∀ (x1 : Int64) (x3 : Int32) (σ : mS), r4 x1 x3 σ → ∀ (H : Heap) (locs : List Loc) (ls : Array Slot), mO D y ad X A s.heap H locs σ → lv_has ls 8 [(0, .ref (ad 0)), (1, .long x1), (3, .int x3)] → W p l e rX8_dividesLine s m args below meth c H locs 0 0 (MQ below (va_Qi Q (mB D y ad X A) A) args s 0 0 A) (F0 m 4 ls [])) (x3 : Int32) (z0 : Int64) (σ : mS) (hw : w_dividesLine_107 Q r4 x3 z0 σ) (H : Heap) (locs : List Loc) (ls : Array Slot) (hO : mO D y ad X A s.heap H locs σ) (hl : lv_has ls 8 [(0, .ref (ad 0)), (3, .int x3)]) : W p l e rX8_dividesLine s m args below meth c H locs 0 0 (MQ below (va_Qi Q (mB D y ad X A) A) args s 0 0 A) (F0 m 107 ls [.long z0]) := by
  obtain ⟨hx, hb, hr, hml, hown, hts, hlk, hK, hA⟩ := id C
  unfold w_dividesLine_107 at hw
  refine lv_lstore_n (lv' := [(1, .long z0), (0, .ref (ad 0)), (3, .int x3)]) hx hb dX8_dividesLine_107 rfl hl (by decide) rfl (fun ls hl => ?_)
  obtain ⟨x3_101, ex3_101⟩ : ∃ y : Int32, y = x3 + (-1) := ⟨_, rfl⟩
  have hw := hw x3_101 ex3_101
  refine lv_iinc (v := x3_101) (lv' := [(3, .int x3_101), (1, .long z0), (0, .ref (ad 0))]) hx hb dX8_dividesLine_108 hl (k := 2) rfl (by rw [ex3_101]; rfl) (by decide) rfl (fun ls hl => ?_)
  refine lv_goto (tgt := 4) hx hb dX8_dividesLine_111 (by decide) ?_
  exact hr4 z0 x3_101 σ hw H locs ls hO (lv_sub hl [2, 1, 0] rfl)
set_option maxRecDepth 100000 in
set_option maxHeartbeats 4000000 in
theorem k_dividesLine_87 {p : Program} {l : Launch} {e : Env} {s : State} {m : MethodId} {args : Array Value} {below : List Frame} {meth : Method} {c : Code} {D : va_G} {y : Nat → ClassId} {ad : Nat → Nat} {X : va_W} {A : Nat → Prop} {Q : Int32 → mS → Prop} (C : mC p s m args meth c cX8_dividesLine 8 (some .boolean) wsX8_dividesLine D y A) {r4 : Int64 → Int32 → mS → Prop} (hr4 : ∀ (x1 : Int64) (x3 : Int32) (σ : mS), r4 x1 x3 σ → ∀ (H : Heap) (locs : List Loc) (ls : Array Slot), mO D y ad X A s.heap H locs σ → lv_has ls 8 [(0, .ref (ad 0)), (1, .long x1), (3, .int x3)] → W p l e rX8_dividesLine s m args below meth c H locs 0 0 (MQ below (va_Qi Q (mB D y ad X A) A) args s 0 0 A) (F0 m 4 ls [])) (x3 : Int32) (x6 : Int64) (σ : mS) (hw : w_dividesLine_87 Q r4 x3 x6 σ) (H : Heap) (locs : List Loc) (ls : Array Slot) (hO : mO D y ad X A s.heap H locs σ) (hl : lv_has ls 8 [(0, .ref (ad 0)), (3, .int x3), (6, .long x6)]) : W p l e rX8_dividesLine s m args below meth c H locs 0 0 (MQ below (va_Qi Q (mB D y ad X A) A) args s 0 0 A) (F0 m 87 ls []) := by
  obtain ⟨hx, hb, hr, hml, hown, hts, hlk, hK, hA⟩ := id C
  have hin : ∀ w ∈ wsX80, w ∈ wsX8_dividesLine := fun _ h => List.mem_cons_of_mem _ (List.mem_append_right _ h)
  unfold w_dividesLine_87 at hw
  refine lv_lload hx hb dX8_dividesLine_87 (lv_at hl 2 rfl) ?_
  refine lv_lconst (v := 0) hx hb dX8_dividesLine_89 (by decide) ?_
  refine W.lcmp hx hb dX8_dividesLine_90 ?_
  refine lv_if_ne (tgt := 98) hx hb dX8_dividesLine_91 (by decide) (fun hc => ?_) (fun hc => ?_)
  · have hc := (not_congr (lg_cmp_eq _ _)).mp hc
    have hw := hw.1 hc
    refine lv_lload hx hb dX8_dividesLine_98 (lv_at hl 2 rfl) ?_
    refine lv_aload_n hx hb dX8_dividesLine_100 rfl (lv_at hl 0 rfl) ?_
    refine mx_get C hO hin 4 (by decide) (idx := 23) (by decide +kernel) rfl rfl dX8_dividesLine_101 ?_
    refine lv_iconst (v := 0) hx hb dX8_dividesLine_104 (by decide) ?_
    refine mx_lald C hO (a := 5) rfl hw.1 dX8_dividesLine_105 ?_
    have hw := hw.2
    refine lv_lmul hx hb dX8_dividesLine_106 ?_
    exact k_dividesLine_107 C hr4 x3 (x6 * (σ.1 5 ((0 : Int32)).toNatClampNeg)) σ hw H locs ls hO (lv_sub hl [0, 1] rfl)
  · have hc := (lg_cmp_eq _ _).mp hc
    have hw := hw.2 hc
    refine lv_lconst (v := 0) hx hb dX8_dividesLine_94 (by decide) ?_
    refine lv_goto (tgt := 107) hx hb dX8_dividesLine_95 (by decide) ?_
    exact k_dividesLine_107 C hr4 x3 ((0 : Int64)) σ hw H locs ls hO (lv_sub hl [0, 1] rfl)
set_option maxRecDepth 100000 in
set_option maxHeartbeats 4000000 in
theorem k_dividesLine_130 {p : Program} {l : Launch} {e : Env} {s : State} {m : MethodId} {args : Array Value} {below : List Frame} {meth : Method} {c : Code} {D : va_G} {y : Nat → ClassId} {ad : Nat → Nat} {X : va_W} {A : Nat → Prop} {Q : Int32 → mS → Prop} (C : mC p s m args meth c cX8_dividesLine 8 (some .boolean) wsX8_dividesLine D y A) (z0 : Int32) (σ : mS) (hw : w_dividesLine_130 Q z0 σ) (H : Heap) (locs : List Loc) (ls : Array Slot) (hO : mO D y ad X A s.heap H locs σ) (hl : lv_has ls 8 [(0, .ref (ad 0))]) : W p l e rX8_dividesLine s m args below meth c H locs 0 0 (MQ below (va_Qi Q (mB D y ad X A) A) args s 0 0 A) (F0 m 130 ls [.int z0]) := by
  obtain ⟨hx, hb, hr, hml, hown, hts, hlk, hK, hA⟩ := id C
  unfold w_dividesLine_130 at hw
  exact mx_zret C hO hw.1 hw.2 dX8_dividesLine_130
set_option maxRecDepth 100000 in
set_option maxHeartbeats 4000000 in
theorem k_dividesLine_4 {p : Program} {l : Launch} {e : Env} {s : State} {m : MethodId} {args : Array Value} {below : List Frame} {meth : Method} {c : Code} {D : va_G} {y : Nat → ClassId} {ad : Nat → Nat} {X : va_W} {A : Nat → Prop} {Q : Int32 → mS → Prop} (C : mC p s m args meth c cX8_dividesLine 8 (some .boolean) wsX8_dividesLine D y A) (n : Nat) : ∀ (x1 : Int64) (x3 : Int32) (σ : mS), w_dividesLine_4 Q n x1 x3 σ → ∀ (H : Heap) (locs : List Loc) (ls : Array Slot), mO D y ad X A s.heap H locs σ → lv_has ls 8 [(0, .ref (ad 0)), (1, .long x1), (3, .int x3)] → W p l e rX8_dividesLine s m args below meth c H locs 0 0 (MQ below (va_Qi Q (mB D y ad X A) A) args s 0 0 A) (F0 m 4 ls []) := by
  obtain ⟨hx, hb, hr, hml, hown, hts, hlk, hK, hA⟩ := id C
  have hin : ∀ w ∈ wsX80, w ∈ wsX8_dividesLine := fun _ h => List.mem_cons_of_mem _ (List.mem_append_right _ h)
  induction n with
  | zero =>
    intro x1 x3 σ hw
    exact (show False from hw).elim
  | succ n ih =>
    intro x1 x3 σ hw H locs ls hO hl
    unfold w_dividesLine_4 at hw
    refine lv_iload_n hx hb dX8_dividesLine_4 rfl (lv_at hl 2 rfl) ?_
    refine lv_iconst (v := 1) hx hb dX8_dividesLine_5 (by decide) ?_
    refine lv_icmp_lt (tgt := 114) hx hb dX8_dividesLine_6 (by decide) (fun hc => ?_) (fun hc => ?_)
    · have hw := hw.1 hc
      refine lv_aload_n hx hb dX8_dividesLine_114 rfl (lv_at hl 0 rfl) ?_
      refine mx_get C hO hin 3 (by decide) (idx := 20) (by decide +kernel) rfl rfl dX8_dividesLine_115 ?_
      refine lv_iconst (v := 0) hx hb dX8_dividesLine_118 (by decide) ?_
      refine mx_lald C hO (a := 4) rfl hw.1 dX8_dividesLine_119 ?_
      have hw := hw.2
      refine lv_lload_n hx hb dX8_dividesLine_120 rfl (lv_at hl 1 rfl) ?_
      refine W.lcmp hx hb dX8_dividesLine_121 ?_
      refine lv_if_ne (tgt := 129) hx hb dX8_dividesLine_122 (by decide) (fun hc => ?_) (fun hc => ?_)
      · have hc := (not_congr (lg_cmp_eq _ _)).mp hc
        have hw := hw.1 hc
        refine lv_iconst (v := 0) hx hb dX8_dividesLine_129 (by decide) ?_
        exact k_dividesLine_130 C ((0 : Int32)) σ hw H locs ls hO (lv_sub hl [0] rfl)
      · have hc := (lg_cmp_eq _ _).mp hc
        have hw := hw.2 hc
        refine lv_iconst (v := 1) hx hb dX8_dividesLine_125 (by decide) ?_
        refine lv_goto (tgt := 130) hx hb dX8_dividesLine_126 (by decide) ?_
        exact k_dividesLine_130 C ((1 : Int32)) σ hw H locs ls hO (lv_sub hl [0] rfl)
    · have hw := hw.2 hc
      refine lv_aload_n hx hb dX8_dividesLine_9 rfl (lv_at hl 0 rfl) ?_
      refine mx_get C hO hin 3 (by decide) (idx := 20) (by decide +kernel) rfl rfl dX8_dividesLine_10 ?_
      refine lv_iload_n hx hb dX8_dividesLine_13 rfl (lv_at hl 2 rfl) ?_
      refine mx_lald C hO (a := 4) rfl hw.1 dX8_dividesLine_14 ?_
      have hw := hw.2
      refine lv_lload_n hx hb dX8_dividesLine_15 rfl (lv_at hl 1 rfl) ?_
      refine lv_lsub hx hb dX8_dividesLine_16 ?_
      refine lv_topl (fun x4_101 ex4_101 => ?_)
      have hw := hw x4_101 ex4_101
      refine lv_lstore (lv' := [(4, .long x4_101), (0, .ref (ad 0)), (1, .long x1), (3, .int x3)]) hx hb dX8_dividesLine_17 hl (by decide) rfl (fun ls hl => ?_)
      refine lv_lload hx hb dX8_dividesLine_19 (lv_at hl 0 rfl) ?_
      refine lv_aload_n hx hb dX8_dividesLine_21 rfl (lv_at hl 1 rfl) ?_
      refine mx_get C hO hin 4 (by decide) (idx := 23) (by decide +kernel) rfl rfl dX8_dividesLine_22 ?_
      refine lv_iconst (v := 1) hx hb dX8_dividesLine_25 (by decide) ?_
      refine mx_lald C hO (a := 5) rfl hw.1 dX8_dividesLine_26 ?_
      have hw := hw.2
      refine lv_lrem hx hb dX8_dividesLine_27 hw.1 ?_
      have hw := hw.2
      refine lv_lconst (v := 0) hx hb dX8_dividesLine_28 (by decide) ?_
      refine W.lcmp hx hb dX8_dividesLine_29 ?_
      refine lv_if_eq (tgt := 35) hx hb dX8_dividesLine_30 (by decide) (fun hc => ?_) (fun hc => ?_)
      · have hc := (lg_cmp_eq _ _).mp hc
        have hw := hw.1 hc
        refine lv_lload hx hb dX8_dividesLine_35 (lv_at hl 0 rfl) ?_
        refine lv_aload_n hx hb dX8_dividesLine_37 rfl (lv_at hl 1 rfl) ?_
        refine mx_get C hO hin 4 (by decide) (idx := 23) (by decide +kernel) rfl rfl dX8_dividesLine_38 ?_
        refine lv_iconst (v := 1) hx hb dX8_dividesLine_41 (by decide) ?_
        refine mx_lald C hO (a := 5) rfl hw.1 dX8_dividesLine_42 ?_
        have hw := hw.2
        refine lv_ldiv hx hb dX8_dividesLine_43 hw.1 ?_
        have hw := hw.2
        refine lv_topl (fun x6_102 ex6_102 => ?_)
        have hw := hw x6_102 ex6_102
        refine lv_lstore (lv' := [(6, .long x6_102), (4, .long x4_101), (0, .ref (ad 0)), (1, .long x1), (3, .int x3)]) hx hb dX8_dividesLine_44 hl (by decide) rfl (fun ls hl => ?_)
        refine lv_lload hx hb dX8_dividesLine_46 (lv_at hl 0 rfl) ?_
        refine lv_lconst (v := 0) hx hb dX8_dividesLine_48 (by decide) ?_
        refine W.lcmp hx hb dX8_dividesLine_49 ?_
        refine lv_if_eq (tgt := 87) hx hb dX8_dividesLine_50 (by decide) (fun hc => ?_) (fun hc => ?_)
        · have hc := (lg_cmp_eq _ _).mp hc
          have hw := hw.1 hc
          exact k_dividesLine_87 C (fun x1 x3 σ hw H locs ls hO hl => ih x1 x3 σ hw H locs ls hO hl) x3 x6_102 σ hw H locs ls hO (lv_sub hl [2, 4, 0] rfl)
        · have hc := (not_congr (lg_cmp_eq _ _)).mp hc
          have hw := hw.2 hc
          refine lv_aload_n hx hb dX8_dividesLine_53 rfl (lv_at hl 2 rfl) ?_
          refine mx_get C hO hin 4 (by decide) (idx := 23) (by decide +kernel) rfl rfl dX8_dividesLine_54 ?_
          refine lv_iconst (v := 0) hx hb dX8_dividesLine_57 (by decide) ?_
          refine mx_lald C hO (a := 5) rfl hw.1 dX8_dividesLine_58 ?_
          have hw := hw.2
          refine lv_ldc2 (v := -1000000000) hx hb hown (hts (.constantLong RX8 75 (-1000000000)) (by decide +kernel)) dX8_dividesLine_59 ?_
          refine lv_ldc2 (v := 1000000000) hx hb hown (hts (.constantLong RX8 77 (1000000000)) (by decide +kernel)) dX8_dividesLine_62 ?_
          refine mx_cis C hO (c_in l D y ad X σ (σ.1 5 ((0 : Int32)).toNatClampNeg) ((-1000000000 : Int64)) ((1000000000 : Int64)) _ hw) (va_cwS 3 hts gX8_dividesLine_X8_in rfl rfl rfl (by decide +kernel) ⟨Nat.le_of_ble_eq_true rfl, Nat.le_of_ble_eq_true rfl⟩) rfl hl.1 rfl (lv_room (Nat.le_of_ble_eq_true rfl)) dX8_dividesLine_65 (fun u103 σ104 H locs hw hO => ?_)
          refine lv_if_eq (tgt := 85) hx hb dX8_dividesLine_68 (by decide) (fun hc => ?_) (fun hc => ?_)
          · have hw := hw.1 hc
            exact k_dividesLine_85 C (fun x1 x3 σ hw H locs ls hO hl => ih x1 x3 σ hw H locs ls hO hl) σ104 hw H locs ls hO (lv_sub hl [2] rfl)
          · have hw := hw.2 hc
            refine lv_lload hx hb dX8_dividesLine_71 (lv_at hl 0 rfl) ?_
            refine lv_ldc2 (v := -1000000000) hx hb hown (hts (.constantLong RX8 75 (-1000000000)) (by decide +kernel)) dX8_dividesLine_73 ?_
            refine lv_ldc2 (v := 1000000000) hx hb hown (hts (.constantLong RX8 77 (1000000000)) (by decide +kernel)) dX8_dividesLine_76 ?_
            refine mx_cis C hO (c_in l D y ad X σ104 x6_102 ((-1000000000 : Int64)) ((1000000000 : Int64)) _ hw) (va_cwS 3 hts gX8_dividesLine_X8_in rfl rfl rfl (by decide +kernel) ⟨Nat.le_of_ble_eq_true rfl, Nat.le_of_ble_eq_true rfl⟩) rfl hl.1 rfl (lv_room (Nat.le_of_ble_eq_true rfl)) dX8_dividesLine_79 (fun u105 σ106 H locs hw hO => ?_)
            refine lv_if_ne (tgt := 87) hx hb dX8_dividesLine_82 (by decide) (fun hc => ?_) (fun hc => ?_)
            · have hw := hw.1 hc
              exact k_dividesLine_87 C (fun x1 x3 σ hw H locs ls hO hl => ih x1 x3 σ hw H locs ls hO hl) x3 x6_102 σ106 hw H locs ls hO (lv_sub hl [2, 4, 0] rfl)
            · have hw := hw.2 hc
              exact k_dividesLine_85 C (fun x1 x3 σ hw H locs ls hO hl => ih x1 x3 σ hw H locs ls hO hl) σ106 hw H locs ls hO (lv_sub hl [2] rfl)
      · have hc := (not_congr (lg_cmp_eq _ _)).mp hc
        have hw := hw.2 hc
        refine lv_iconst (v := 0) hx hb dX8_dividesLine_33 (by decide) ?_
        exact mx_zret C hO hw.1 hw.2 dX8_dividesLine_34
set_option maxRecDepth 100000 in
set_option maxHeartbeats 4000000 in
theorem k_dividesLine_e {p : Program} {l : Launch} {e : Env} {s : State} {m : MethodId} {args : Array Value} {below : List Frame} {meth : Method} {c : Code} {D : va_G} {y : Nat → ClassId} {ad : Nat → Nat} {X : va_W} {A : Nat → Prop} {Q : Int32 → mS → Prop} (C : mC p s m args meth c cX8_dividesLine 8 (some .boolean) wsX8_dividesLine D y A)  (σ : mS) (hw : w_dividesLine Q σ) (H : Heap) (locs : List Loc) (ls : Array Slot) (hO : mO D y ad X A s.heap H locs σ) (hl : lv_has ls 8 [(0, .ref (ad 0))]) : W p l e rX8_dividesLine s m args below meth c H locs 0 0 (MQ below (va_Qi Q (mB D y ad X A) A) args s 0 0 A) (F0 m 0 ls []) := by
  obtain ⟨hx, hb, hr, hml, hown, hts, hlk, hK, hA⟩ := id C
  unfold w_dividesLine at hw
  refine lv_lconst (v := 0) hx hb dX8_dividesLine_0 (by decide) ?_
  refine lv_lstore_n (lv' := [(1, .long ((0 : Int64))), (0, .ref (ad 0))]) hx hb dX8_dividesLine_1 rfl hl (by decide) rfl (fun ls hl => ?_)
  refine lv_iconst (v := 3) hx hb dX8_dividesLine_2 (by decide) ?_
  refine lv_istore_n (lv' := [(3, .int ((3 : Int32))), (1, .long ((0 : Int64))), (0, .ref (ad 0))]) hx hb dX8_dividesLine_3 rfl hl (by decide) rfl (fun ls hl => ?_)
  exact k_dividesLine_4 C fuL ((0 : Int64)) ((3 : Int32)) σ hw H locs ls hO (lv_sub hl [2, 1, 0] rfl)
theorem c_dividesLine (l : Launch) (D : va_G) (y : Nat → ClassId) (ad : Nat → Nat) (X : va_W) (σ : mS)  (Q : Int32 → mS → Prop) (hw : w_dividesLine Q σ) : ∀ sz, Met l yX8_dividesLine wsX8_dividesLine rX8_dividesLine (va_Pc [.ref (ad 0)] (mPre D y ad X sz σ)) (va_Qi Q (mB D y ad X (va_A (mW y ad σ ++ X) sz)) (va_A (mW y ad σ ++ X) sz)) 0 0 (va_A (mW y ad σ ++ X) sz) :=
  mMet (Qc := fun A => va_Qi Q (mB D y ad X A) A) rfl (Nat.le_of_ble_eq_true rfl) (fun p e s m args below meth c A ls C hO hl => k_dividesLine_e C σ hw s.heap [] ls hO hl)
abbrev rX8_findCommon : Room := { frames := 3, cells := 0, slots := 0, locals := 79 }
set_option maxRecDepth 100000 in
set_option maxHeartbeats 4000000 in
theorem k_findCommon_113 {p : Program} {l : Launch} {e : Env} {s : State} {m : MethodId} {args : Array Value} {below : List Frame} {meth : Method} {c : Code} {D : va_G} {y : Nat → ClassId} {ad : Nat → Nat} {X : va_W} {A : Nat → Prop} {Q : mS → Prop} (C : mC p s m args meth c cX8_findCommon 4 none wsX8_findCommon D y A) {r81 : Int32 → Int32 → mS → Prop} (hr81 : ∀ (x2 : Int32) (x3 : Int32) (σ : mS), r81 x2 x3 σ → ∀ (H : Heap) (locs : List Loc) (ls : Array Slot), mO D y ad X A s.heap H locs σ → lv_has ls 4 [(0, .ref (ad 0)), (2, .int x2), (3, .int x3)] → W p l e rX8_findCommon s m args below meth c H locs 0 0 (MQ below (va_Qv Q (mB D y ad X A) A) args s 0 0 A) (F0 m 81 ls [])) (x2 : Int32) (x3 : Int32) (z1 : Int32) (z2 : Int64) (σ : mS) (hw : w_findCommon_113 Q r81 x2 x3 z1 z2 σ) (H : Heap) (locs : List Loc) (ls : Array Slot) (hO : mO D y ad X A s.heap H locs σ) (hl : lv_has ls 4 [(0, .ref (ad 0)), (2, .int x2), (3, .int x3)]) : W p l e rX8_findCommon s m args below meth c H locs 0 0 (MQ below (va_Qv Q (mB D y ad X A) A) args s 0 0 A) (F0 m 113 ls [.long z2, .int z1, .ref (ad 4)]) := by
  obtain ⟨hx, hb, hr, hml, hown, hts, hlk, hK, hA⟩ := id C
  unfold w_findCommon_113 at hw
  refine mx_last C hO (a := 4) rfl hw.1 dX8_findCommon_113 (fun H locs σ101 eσ101 hO => ?_)
  have hw := hw.2 σ101 eσ101
  obtain ⟨x3_102, ex3_102⟩ : ∃ y : Int32, y = x3 + 1 := ⟨_, rfl⟩
  have hw := hw x3_102 ex3_102
  refine lv_iinc (v := x3_102) (lv' := [(3, .int x3_102), (0, .ref (ad 0)), (2, .int x2)]) hx hb dX8_findCommon_114 hl (k := 2) rfl (by rw [ex3_102]; rfl) (by decide) rfl (fun ls hl => ?_)
  refine lv_goto (tgt := 81) hx hb dX8_findCommon_117 (by decide) ?_
  exact hr81 x2 x3_102 σ101 hw H locs ls hO (lv_sub hl [1, 2, 0] rfl)
set_option maxRecDepth 100000 in
set_option maxHeartbeats 4000000 in
theorem k_findCommon_155 {p : Program} {l : Launch} {e : Env} {s : State} {m : MethodId} {args : Array Value} {below : List Frame} {meth : Method} {c : Code} {D : va_G} {y : Nat → ClassId} {ad : Nat → Nat} {X : va_W} {A : Nat → Prop} {Q : mS → Prop} (C : mC p s m args meth c cX8_findCommon 4 none wsX8_findCommon D y A)  (σ : mS) (hw : w_findCommon_155 Q σ) (H : Heap) (locs : List Loc) (ls : Array Slot) (hO : mO D y ad X A s.heap H locs σ) (hl : lv_has ls 4 [(0, .ref (ad 0))]) : W p l e rX8_findCommon s m args below meth c H locs 0 0 (MQ below (va_Qv Q (mB D y ad X A) A) args s 0 0 A) (F0 m 155 ls []) := by
  obtain ⟨hx, hb, hr, hml, hown, hts, hlk, hK, hA⟩ := id C
  unfold w_findCommon_155 at hw
  exact mx_vret C hO hw dX8_findCommon_155
set_option maxRecDepth 100000 in
set_option maxHeartbeats 4000000 in
theorem k_findCommon_81 {p : Program} {l : Launch} {e : Env} {s : State} {m : MethodId} {args : Array Value} {below : List Frame} {meth : Method} {c : Code} {D : va_G} {y : Nat → ClassId} {ad : Nat → Nat} {X : va_W} {A : Nat → Prop} {Q : mS → Prop} (C : mC p s m args meth c cX8_findCommon 4 none wsX8_findCommon D y A) (n : Nat) : ∀ (x2 : Int32) (x3 : Int32) (σ : mS), w_findCommon_81 Q n x2 x3 σ → ∀ (H : Heap) (locs : List Loc) (ls : Array Slot), mO D y ad X A s.heap H locs σ → lv_has ls 4 [(0, .ref (ad 0)), (2, .int x2), (3, .int x3)] → W p l e rX8_findCommon s m args below meth c H locs 0 0 (MQ below (va_Qv Q (mB D y ad X A) A) args s 0 0 A) (F0 m 81 ls []) := by
  obtain ⟨hx, hb, hr, hml, hown, hts, hlk, hK, hA⟩ := id C
  have hin : ∀ w ∈ wsX80, w ∈ wsX8_findCommon := fun _ h => List.mem_cons_of_mem _ (List.mem_append_right _ h)
  induction n with
  | zero =>
    intro x2 x3 σ hw
    exact (show False from hw).elim
  | succ n ih =>
    intro x2 x3 σ hw H locs ls hO hl
    unfold w_findCommon_81 at hw
    refine lv_iload_n hx hb dX8_findCommon_81 rfl (lv_at hl 2 rfl) ?_
    refine lv_iconst (v := 4) hx hb dX8_findCommon_82 (by decide) ?_
    refine lv_icmp_ge (tgt := 120) hx hb dX8_findCommon_83 (by decide) (fun hc => ?_) (fun hc => ?_)
    · have hw := hw.1 hc
      refine lv_goto (tgt := 155) hx hb dX8_findCommon_120 (by decide) ?_
      exact k_findCommon_155 C σ hw H locs ls hO (lv_sub hl [0] rfl)
    · have hw := hw.2 hc
      refine lv_aload_n hx hb dX8_findCommon_86 rfl (lv_at hl 0 rfl) ?_
      refine mx_get C hO hin 3 (by decide) (idx := 20) (by decide +kernel) rfl rfl dX8_findCommon_87 ?_
      refine lv_iload_n hx hb dX8_findCommon_90 rfl (lv_at hl 2 rfl) ?_
      refine lv_iload_n hx hb dX8_findCommon_91 rfl (lv_at hl 1 rfl) ?_
      refine lv_if_eq (tgt := 104) hx hb dX8_findCommon_92 (by decide) (fun hc => ?_) (fun hc => ?_)
      · have hw := hw.1 hc
        refine lv_iload_n hx hb dX8_findCommon_104 rfl (lv_at hl 2 rfl) ?_
        refine lv_if_ne (tgt := 112) hx hb dX8_findCommon_105 (by decide) (fun hc => ?_) (fun hc => ?_)
        · have hw := hw.1 hc
          refine lv_lconst (v := 0) hx hb dX8_findCommon_112 (by decide) ?_
          exact k_findCommon_113 C (fun x2 x3 σ hw H locs ls hO hl => ih x2 x3 σ hw H locs ls hO hl) x2 x3 x3 ((0 : Int64)) σ hw H locs ls hO (lv_sub hl [0, 1, 2] rfl)
        · have hw := hw.2 hc
          refine lv_lconst (v := 1) hx hb dX8_findCommon_108 (by decide) ?_
          refine lv_goto (tgt := 113) hx hb dX8_findCommon_109 (by decide) ?_
          exact k_findCommon_113 C (fun x2 x3 σ hw H locs ls hO hl => ih x2 x3 σ hw H locs ls hO hl) x2 x3 x3 ((1 : Int64)) σ hw H locs ls hO (lv_sub hl [0, 1, 2] rfl)
      · have hw := hw.2 hc
        refine lv_aload_n hx hb dX8_findCommon_95 rfl (lv_at hl 0 rfl) ?_
        refine mx_get C hO hin 4 (by decide) (idx := 23) (by decide +kernel) rfl rfl dX8_findCommon_96 ?_
        refine lv_iload_n hx hb dX8_findCommon_99 rfl (lv_at hl 2 rfl) ?_
        refine mx_lald C hO (a := 5) rfl hw.1 dX8_findCommon_100 ?_
        have hw := hw.2
        refine lv_goto (tgt := 113) hx hb dX8_findCommon_101 (by decide) ?_
        exact k_findCommon_113 C (fun x2 x3 σ hw H locs ls hO hl => ih x2 x3 σ hw H locs ls hO hl) x2 x3 x3 (σ.1 5 (x3).toNatClampNeg) σ hw H locs ls hO (lv_sub hl [0, 1, 2] rfl)
set_option maxRecDepth 100000 in
set_option maxHeartbeats 4000000 in
theorem k_findCommon_148 {p : Program} {l : Launch} {e : Env} {s : State} {m : MethodId} {args : Array Value} {below : List Frame} {meth : Method} {c : Code} {D : va_G} {y : Nat → ClassId} {ad : Nat → Nat} {X : va_W} {A : Nat → Prop} {Q : mS → Prop} (C : mC p s m args meth c cX8_findCommon 4 none wsX8_findCommon D y A) {r129 : Int32 → mS → Prop} (hr129 : ∀ (x2 : Int32) (σ : mS), r129 x2 σ → ∀ (H : Heap) (locs : List Loc) (ls : Array Slot), mO D y ad X A s.heap H locs σ → lv_has ls 4 [(0, .ref (ad 0)), (2, .int x2)] → W p l e rX8_findCommon s m args below meth c H locs 0 0 (MQ below (va_Qv Q (mB D y ad X A) A) args s 0 0 A) (F0 m 129 ls [])) (x2 : Int32) (z1 : Int32) (z2 : Int64) (σ : mS) (hw : w_findCommon_148 Q r129 x2 z1 z2 σ) (H : Heap) (locs : List Loc) (ls : Array Slot) (hO : mO D y ad X A s.heap H locs σ) (hl : lv_has ls 4 [(0, .ref (ad 0)), (2, .int x2)]) : W p l e rX8_findCommon s m args below meth c H locs 0 0 (MQ below (va_Qv Q (mB D y ad X A) A) args s 0 0 A) (F0 m 148 ls [.long z2, .int z1, .ref (ad 4)]) := by
  obtain ⟨hx, hb, hr, hml, hown, hts, hlk, hK, hA⟩ := id C
  unfold w_findCommon_148 at hw
  refine mx_last C hO (a := 4) rfl hw.1 dX8_findCommon_148 (fun H locs σ101 eσ101 hO => ?_)
  have hw := hw.2 σ101 eσ101
  obtain ⟨x2_102, ex2_102⟩ : ∃ y : Int32, y = x2 + 1 := ⟨_, rfl⟩
  have hw := hw x2_102 ex2_102
  refine lv_iinc (v := x2_102) (lv' := [(2, .int x2_102), (0, .ref (ad 0))]) hx hb dX8_findCommon_149 hl (k := 1) rfl (by rw [ex2_102]; rfl) (by decide) rfl (fun ls hl => ?_)
  refine lv_goto (tgt := 129) hx hb dX8_findCommon_152 (by decide) ?_
  exact hr129 x2_102 σ101 hw H locs ls hO (lv_sub hl [1, 0] rfl)
set_option maxRecDepth 100000 in
set_option maxHeartbeats 4000000 in
theorem k_findCommon_129 {p : Program} {l : Launch} {e : Env} {s : State} {m : MethodId} {args : Array Value} {below : List Frame} {meth : Method} {c : Code} {D : va_G} {y : Nat → ClassId} {ad : Nat → Nat} {X : va_W} {A : Nat → Prop} {Q : mS → Prop} (C : mC p s m args meth c cX8_findCommon 4 none wsX8_findCommon D y A) (n : Nat) : ∀ (x2 : Int32) (σ : mS), w_findCommon_129 Q n x2 σ → ∀ (H : Heap) (locs : List Loc) (ls : Array Slot), mO D y ad X A s.heap H locs σ → lv_has ls 4 [(0, .ref (ad 0)), (2, .int x2)] → W p l e rX8_findCommon s m args below meth c H locs 0 0 (MQ below (va_Qv Q (mB D y ad X A) A) args s 0 0 A) (F0 m 129 ls []) := by
  obtain ⟨hx, hb, hr, hml, hown, hts, hlk, hK, hA⟩ := id C
  have hin : ∀ w ∈ wsX80, w ∈ wsX8_findCommon := fun _ h => List.mem_cons_of_mem _ (List.mem_append_right _ h)
  induction n with
  | zero =>
    intro x2 σ hw
    exact (show False from hw).elim
  | succ n ih =>
    intro x2 σ hw H locs ls hO hl
    unfold w_findCommon_129 at hw
    refine lv_iload_n hx hb dX8_findCommon_129 rfl (lv_at hl 1 rfl) ?_
    refine lv_iconst (v := 4) hx hb dX8_findCommon_130 (by decide) ?_
    refine lv_icmp_ge (tgt := 155) hx hb dX8_findCommon_131 (by decide) (fun hc => ?_) (fun hc => ?_)
    · have hw := hw.1 hc
      exact k_findCommon_155 C σ hw H locs ls hO (lv_sub hl [0] rfl)
    · have hw := hw.2 hc
      refine lv_aload_n hx hb dX8_findCommon_134 rfl (lv_at hl 0 rfl) ?_
      refine mx_get C hO hin 3 (by decide) (idx := 20) (by decide +kernel) rfl rfl dX8_findCommon_135 ?_
      refine lv_iload_n hx hb dX8_findCommon_138 rfl (lv_at hl 1 rfl) ?_
      refine lv_iload_n hx hb dX8_findCommon_139 rfl (lv_at hl 1 rfl) ?_
      refine lv_if_ne (tgt := 147) hx hb dX8_findCommon_140 (by decide) (fun hc => ?_) (fun hc => ?_)
      · have hw := hw.1 hc
        refine lv_lconst (v := 0) hx hb dX8_findCommon_147 (by decide) ?_
        exact k_findCommon_148 C (fun x2 σ hw H locs ls hO hl => ih x2 σ hw H locs ls hO hl) x2 x2 ((0 : Int64)) σ hw H locs ls hO (lv_sub hl [0, 1] rfl)
      · have hw := hw.2 hc
        refine lv_lconst (v := 1) hx hb dX8_findCommon_143 (by decide) ?_
        refine lv_goto (tgt := 148) hx hb dX8_findCommon_144 (by decide) ?_
        exact k_findCommon_148 C (fun x2 σ hw H locs ls hO hl => ih x2 σ hw H locs ls hO hl) x2 x2 ((1 : Int64)) σ hw H locs ls hO (lv_sub hl [0, 1] rfl)
set_option maxRecDepth 100000 in
set_option maxHeartbeats 4000000 in
theorem k_findCommon_37 {p : Program} {l : Launch} {e : Env} {s : State} {m : MethodId} {args : Array Value} {below : List Frame} {meth : Method} {c : Code} {D : va_G} {y : Nat → ClassId} {ad : Nat → Nat} {X : va_W} {A : Nat → Prop} {Q : mS → Prop} (C : mC p s m args meth c cX8_findCommon 4 none wsX8_findCommon D y A) (n : Nat) : ∀  (σ : mS), w_findCommon_37 Q n σ → ∀ (H : Heap) (locs : List Loc) (ls : Array Slot), mO D y ad X A s.heap H locs σ → lv_has ls 4 [(0, .ref (ad 0))] → W p l e rX8_findCommon s m args below meth c H locs 0 0 (MQ below (va_Qv Q (mB D y ad X A) A) args s 0 0 A) (F0 m 37 ls []) := by
  obtain ⟨hx, hb, hr, hml, hown, hts, hlk, hK, hA⟩ := id C
  have hin : ∀ w ∈ wsX80, w ∈ wsX8_findCommon := fun _ h => List.mem_cons_of_mem _ (List.mem_append_right _ h)
  induction n with
  | zero =>
    intro  σ hw
    exact (show False from hw).elim
  | succ n ih =>
    intro  σ hw H locs ls hO hl
    unfold w_findCommon_37 at hw
    refine lv_aload_n hx hb dX8_findCommon_37 rfl (lv_at hl 0 rfl) ?_
    refine mx_get C hO hin 4 (by decide) (idx := 23) (by decide +kernel) rfl rfl dX8_findCommon_38 ?_
    refine lv_iconst (v := 0) hx hb dX8_findCommon_41 (by decide) ?_
    refine mx_cis C hO (c_degreeAt l D y ad X σ 5 ((0 : Int32)) (rfl) _ hw) (va_cwS 2 hts gX8_findCommon_X8_degreeAt rfl rfl rfl (by decide +kernel) ⟨Nat.le_of_ble_eq_true rfl, Nat.le_of_ble_eq_true rfl⟩) rfl hl.1 rfl (lv_room (Nat.le_of_ble_eq_true rfl)) dX8_findCommon_42 (fun u101 σ102 H locs hw hO => ?_)
    refine lv_iconst (v := 1) hx hb dX8_findCommon_45 (by decide) ?_
    refine lv_icmp_le (tgt := 60) hx hb dX8_findCommon_46 (by decide) (fun hc => ?_) (fun hc => ?_)
    · have hw := hw.1 hc
      refine lv_aload_n hx hb dX8_findCommon_60 rfl (lv_at hl 0 rfl) ?_
      refine mx_get C hO hin 4 (by decide) (idx := 23) (by decide +kernel) rfl rfl dX8_findCommon_61 ?_
      refine lv_iconst (v := 0) hx hb dX8_findCommon_64 (by decide) ?_
      refine mx_cis C hO (c_degreeAt l D y ad X σ102 5 ((0 : Int32)) (rfl) _ hw) (va_cwS 2 hts gX8_findCommon_X8_degreeAt rfl rfl rfl (by decide +kernel) ⟨Nat.le_of_ble_eq_true rfl, Nat.le_of_ble_eq_true rfl⟩) rfl hl.1 rfl (lv_room (Nat.le_of_ble_eq_true rfl)) dX8_findCommon_65 (fun u103 σ104 H locs hw hO => ?_)
      refine lv_istore_n (lv' := [(1, .int u103), (0, .ref (ad 0))]) hx hb dX8_findCommon_68 rfl hl (by decide) rfl (fun ls hl => ?_)
      refine lv_iload_n hx hb dX8_findCommon_69 rfl (lv_at hl 0 rfl) ?_
      refine lv_iconst (v := 1) hx hb dX8_findCommon_70 (by decide) ?_
      refine lv_icmp_ne (tgt := 123) hx hb dX8_findCommon_71 (by decide) (fun hc => ?_) (fun hc => ?_)
      · have hw := hw.1 hc
        refine lv_iload_n hx hb dX8_findCommon_123 rfl (lv_at hl 0 rfl) ?_
        refine lv_if_ne (tgt := 155) hx hb dX8_findCommon_124 (by decide) (fun hc => ?_) (fun hc => ?_)
        · have hw := hw.1 hc
          exact k_findCommon_155 C σ104 hw H locs ls hO (lv_sub hl [1] rfl)
        · have hw := hw.2 hc
          refine lv_iconst (v := 0) hx hb dX8_findCommon_127 (by decide) ?_
          refine lv_istore_n (lv' := [(2, .int ((0 : Int32))), (1, .int u103), (0, .ref (ad 0))]) hx hb dX8_findCommon_128 rfl hl (by decide) rfl (fun ls hl => ?_)
          exact k_findCommon_129 C fuL ((0 : Int32)) σ104 hw H locs ls hO (lv_sub hl [2, 0] rfl)
      · have hw := hw.2 hc
        refine lv_aload_n hx hb dX8_findCommon_74 rfl (lv_at hl 1 rfl) ?_
        refine mx_civ C hO (c_dividesLine l D y ad X σ104 _ hw) (cwV 0 hts gX8_findCommon_X8_dividesLine rfl rfl rfl (by decide +kernel) ⟨Nat.le_of_ble_eq_true rfl, Nat.le_of_ble_eq_true rfl⟩) rfl hl.1 rfl (lv_room (Nat.le_of_ble_eq_true rfl)) dX8_findCommon_75 (fun u105 σ106 H locs hw hO => ?_)
        refine lv_istore_n (lv' := [(2, .int u105), (1, .int u103), (0, .ref (ad 0))]) hx hb dX8_findCommon_78 rfl hl (by decide) rfl (fun ls hl => ?_)
        refine lv_iconst (v := 0) hx hb dX8_findCommon_79 (by decide) ?_
        refine lv_istore_n (lv' := [(3, .int ((0 : Int32))), (2, .int u105), (1, .int u103), (0, .ref (ad 0))]) hx hb dX8_findCommon_80 rfl hl (by decide) rfl (fun ls hl => ?_)
        exact k_findCommon_81 C fuL u105 ((0 : Int32)) σ106 hw H locs ls hO (lv_sub hl [3, 1, 0] rfl)
    · have hw := hw.2 hc
      refine lv_aload_n hx hb dX8_findCommon_49 rfl (lv_at hl 0 rfl) ?_
      refine mx_cvv C hO (c_leave l D y ad X σ102 _ hw) (cwV 0 hts gX8_findCommon_X8_leave rfl rfl rfl (by decide +kernel) ⟨Nat.le_of_ble_eq_true rfl, Nat.le_of_ble_eq_true rfl⟩) rfl hl.1 rfl (lv_room (Nat.le_of_ble_eq_true rfl)) dX8_findCommon_50 (fun σ108 H locs hw hO => ?_)
      refine lv_aload_n hx hb dX8_findCommon_53 rfl (lv_at hl 0 rfl) ?_
      refine mx_cvv C hO (c_change l D y ad X σ108 _ hw) (cwV 0 hts gX8_findCommon_X8_change rfl rfl rfl (by decide +kernel) ⟨Nat.le_of_ble_eq_true rfl, Nat.le_of_ble_eq_true rfl⟩) rfl hl.1 rfl (lv_room (Nat.le_of_ble_eq_true rfl)) dX8_findCommon_54 (fun σ110 H locs hw hO => ?_)
      refine lv_goto (tgt := 37) hx hb dX8_findCommon_57 (by decide) ?_
      exact ih σ110 hw H locs ls hO (lv_sub hl [0] rfl)
set_option maxRecDepth 100000 in
set_option maxHeartbeats 4000000 in
theorem k_findCommon_e {p : Program} {l : Launch} {e : Env} {s : State} {m : MethodId} {args : Array Value} {below : List Frame} {meth : Method} {c : Code} {D : va_G} {y : Nat → ClassId} {ad : Nat → Nat} {X : va_W} {A : Nat → Prop} {Q : mS → Prop} (C : mC p s m args meth c cX8_findCommon 4 none wsX8_findCommon D y A)  (σ : mS) (hw : w_findCommon Q σ) (H : Heap) (locs : List Loc) (ls : Array Slot) (hO : mO D y ad X A s.heap H locs σ) (hl : lv_has ls 4 [(0, .ref (ad 0))]) : W p l e rX8_findCommon s m args below meth c H locs 0 0 (MQ below (va_Qv Q (mB D y ad X A) A) args s 0 0 A) (F0 m 0 ls []) := by
  obtain ⟨hx, hb, hr, hml, hown, hts, hlk, hK, hA⟩ := id C
  have hin : ∀ w ∈ wsX80, w ∈ wsX8_findCommon := fun _ h => List.mem_cons_of_mem _ (List.mem_append_right _ h)
  unfold w_findCommon at hw
  refine lv_aload_n hx hb dX8_findCommon_0 rfl (lv_at hl 0 rfl) ?_
  refine mx_get C hO hin 3 (by decide) (idx := 20) (by decide +kernel) rfl rfl dX8_findCommon_1 ?_
  refine mx_cvs C hO (c_clean l D y ad X σ 4 (rfl) _ hw) (va_cwS 1 hts gX8_findCommon_X8_clean rfl rfl rfl (by decide +kernel) ⟨Nat.le_of_ble_eq_true rfl, Nat.le_of_ble_eq_true rfl⟩) rfl hl.1 rfl (lv_room (Nat.le_of_ble_eq_true rfl)) dX8_findCommon_4 (fun σ102 H locs hw hO => ?_)
  refine lv_aload_n hx hb dX8_findCommon_7 rfl (lv_at hl 0 rfl) ?_
  refine mx_get C hO hin 4 (by decide) (idx := 23) (by decide +kernel) rfl rfl dX8_findCommon_8 ?_
  refine mx_cvs C hO (c_clean l D y ad X σ102 5 (rfl) _ hw) (va_cwS 1 hts gX8_findCommon_X8_clean rfl rfl rfl (by decide +kernel) ⟨Nat.le_of_ble_eq_true rfl, Nat.le_of_ble_eq_true rfl⟩) rfl hl.1 rfl (lv_room (Nat.le_of_ble_eq_true rfl)) dX8_findCommon_11 (fun σ104 H locs hw hO => ?_)
  refine lv_aload_n hx hb dX8_findCommon_14 rfl (lv_at hl 0 rfl) ?_
  refine mx_get C hO hin 3 (by decide) (idx := 20) (by decide +kernel) rfl rfl dX8_findCommon_15 ?_
  refine lv_iconst (v := 0) hx hb dX8_findCommon_18 (by decide) ?_
  refine mx_cis C hO (c_degreeAt l D y ad X σ104 4 ((0 : Int32)) (rfl) _ hw) (va_cwS 2 hts gX8_findCommon_X8_degreeAt rfl rfl rfl (by decide +kernel) ⟨Nat.le_of_ble_eq_true rfl, Nat.le_of_ble_eq_true rfl⟩) rfl hl.1 rfl (lv_room (Nat.le_of_ble_eq_true rfl)) dX8_findCommon_19 (fun u105 σ106 H locs hw hO => ?_)
  refine lv_aload_n hx hb dX8_findCommon_22 rfl (lv_at hl 0 rfl) ?_
  refine mx_get C hO hin 4 (by decide) (idx := 23) (by decide +kernel) rfl rfl dX8_findCommon_23 ?_
  refine lv_iconst (v := 0) hx hb dX8_findCommon_26 (by decide) ?_
  refine mx_cis C hO (c_degreeAt l D y ad X σ106 5 ((0 : Int32)) (rfl) _ hw) (va_cwS 2 hts gX8_findCommon_X8_degreeAt rfl rfl rfl (by decide +kernel) ⟨Nat.le_of_ble_eq_true rfl, Nat.le_of_ble_eq_true rfl⟩) rfl hl.1 rfl (lv_room (Nat.le_of_ble_eq_true rfl)) dX8_findCommon_27 (fun u107 σ108 H locs hw hO => ?_)
  refine lv_icmp_ge (tgt := 37) hx hb dX8_findCommon_30 (by decide) (fun hc => ?_) (fun hc => ?_)
  · have hw := hw.1 hc
    exact k_findCommon_37 C fuL σ108 hw H locs ls hO (lv_sub hl [0] rfl)
  · have hw := hw.2 hc
    refine lv_aload_n hx hb dX8_findCommon_33 rfl (lv_at hl 0 rfl) ?_
    refine mx_cvv C hO (c_change l D y ad X σ108 _ hw) (cwV 0 hts gX8_findCommon_X8_change rfl rfl rfl (by decide +kernel) ⟨Nat.le_of_ble_eq_true rfl, Nat.le_of_ble_eq_true rfl⟩) rfl hl.1 rfl (lv_room (Nat.le_of_ble_eq_true rfl)) dX8_findCommon_34 (fun σ110 H locs hw hO => ?_)
    exact k_findCommon_37 C fuL σ110 hw H locs ls hO (lv_sub hl [0] rfl)
theorem c_findCommon (l : Launch) (D : va_G) (y : Nat → ClassId) (ad : Nat → Nat) (X : va_W) (σ : mS)  (Q : mS → Prop) (hw : w_findCommon Q σ) : ∀ sz, Met l yX8_findCommon wsX8_findCommon rX8_findCommon (va_Pc [.ref (ad 0)] (mPre D y ad X sz σ)) (va_Qv Q (mB D y ad X (va_A (mW y ad σ ++ X) sz)) (va_A (mW y ad σ ++ X) sz)) 0 0 (va_A (mW y ad σ ++ X) sz) :=
  mMet (Qc := fun A => va_Qv Q (mB D y ad X A) A) rfl (Nat.le_of_ble_eq_true rfl) (fun p e s m args below meth c A ls C hO hl => k_findCommon_e C σ hw s.heap [] ls hO hl)
abbrev rX8_divideMade : Room := { frames := 1, cells := 0, slots := 0, locals := 22 }
set_option maxRecDepth 100000 in
set_option maxHeartbeats 4000000 in
theorem k_divideMade_91 {p : Program} {l : Launch} {e : Env} {s : State} {m : MethodId} {args : Array Value} {below : List Frame} {meth : Method} {c : Code} {D : va_G} {y : Nat → ClassId} {ad : Nat → Nat} {X : va_W} {A : Nat → Prop} {Q : mS → Prop} (C : mC p s m args meth c cX8_divideMade 7 none wsX8_divideMade D y A) {r11 : Int32 → Int32 → mS → Prop} (hr11 : ∀ (x1 : Int32) (x2 : Int32) (σ : mS), r11 x1 x2 σ → ∀ (H : Heap) (locs : List Loc) (ls : Array Slot), mO D y ad X A s.heap H locs σ → lv_has ls 7 [(0, .ref (ad 0)), (1, .int x1), (2, .int x2)] → W p l e rX8_divideMade s m args below meth c H locs 0 0 (MQ below (va_Qv Q (mB D y ad X A) A) args s 0 0 A) (F0 m 11 ls [])) {r57 : Int32 → Int32 → Int32 → mS → Prop} (hr57 : ∀ (x1 : Int32) (x2 : Int32) (x3 : Int32) (σ : mS), r57 x1 x2 x3 σ → ∀ (H : Heap) (locs : List Loc) (ls : Array Slot), mO D y ad X A s.heap H locs σ → lv_has ls 7 [(0, .ref (ad 0)), (1, .int x1), (2, .int x2), (3, .int x3)] → W p l e rX8_divideMade s m args below meth c H locs 0 0 (MQ below (va_Qv Q (mB D y ad X A) A) args s 0 0 A) (F0 m 57 ls [])) (n : Nat) : ∀ (x1 : Int32) (x2 : Int32) (x3 : Int32) (x4 : Int64) (x6 : Int32) (σ : mS), w_divideMade_91 Q r11 r57 n x1 x2 x3 x4 x6 σ → ∀ (H : Heap) (locs : List Loc) (ls : Array Slot), mO D y ad X A s.heap H locs σ → lv_has ls 7 [(0, .ref (ad 0)), (1, .int x1), (2, .int x2), (3, .int x3), (4, .long x4), (6, .int x6)] → W p l e rX8_divideMade s m args below meth c H locs 0 0 (MQ below (va_Qv Q (mB D y ad X A) A) args s 0 0 A) (F0 m 91 ls []) := by
  obtain ⟨hx, hb, hr, hml, hown, hts, hlk, hK, hA⟩ := id C
  have hin : ∀ w ∈ wsX80, w ∈ wsX8_divideMade := fun _ h => List.mem_cons_of_mem _ (List.mem_append_right _ h)
  induction n with
  | zero =>
    intro x1 x2 x3 x4 x6 σ hw
    exact (show False from hw).elim
  | succ n ih =>
    intro x1 x2 x3 x4 x6 σ hw H locs ls hO hl
    unfold w_divideMade_91 at hw
    refine lv_iload hx hb dX8_divideMade_91 (lv_at hl 5 rfl) ?_
    refine lv_iload_n hx hb dX8_divideMade_93 rfl (lv_at hl 1 rfl) ?_
    refine lv_icmp_gt (tgt := 125) hx hb dX8_divideMade_94 (by decide) (fun hc => ?_) (fun hc => ?_)
    · have hw := hw.1 hc
      obtain ⟨x3_101, ex3_101⟩ : ∃ y : Int32, y = x3 + (-1) := ⟨_, rfl⟩
      have hw := hw x3_101 ex3_101
      refine lv_iinc (v := x3_101) (lv' := [(3, .int x3_101), (0, .ref (ad 0)), (1, .int x1), (2, .int x2), (4, .long x4), (6, .int x6)]) hx hb dX8_divideMade_125 hl (k := 3) rfl (by rw [ex3_101]; rfl) (by decide) rfl (fun ls hl => ?_)
      refine lv_goto (tgt := 57) hx hb dX8_divideMade_128 (by decide) ?_
      exact hr57 x1 x2 x3_101 σ hw H locs ls hO (lv_sub hl [1, 2, 3, 0] rfl)
    · have hw := hw.2 hc
      refine lv_aload_n hx hb dX8_divideMade_97 rfl (lv_at hl 0 rfl) ?_
      refine mx_get C hO hin 4 (by decide) (idx := 23) (by decide +kernel) rfl rfl dX8_divideMade_98 ?_
      refine lv_iload_n hx hb dX8_divideMade_101 rfl (lv_at hl 3 rfl) ?_
      refine lv_iload hx hb dX8_divideMade_102 (lv_at hl 5 rfl) ?_
      refine lv_iadd hx hb dX8_divideMade_104 ?_
      refine lv_dup2_11 hx hb dX8_divideMade_105 rfl rfl ?_
      refine mx_lald C hO (a := 5) rfl hw.1 dX8_divideMade_106 ?_
      have hw := hw.2
      refine lv_lload hx hb dX8_divideMade_107 (lv_at hl 4 rfl) ?_
      refine lv_aload_n hx hb dX8_divideMade_109 rfl (lv_at hl 0 rfl) ?_
      refine mx_get C hO hin 3 (by decide) (idx := 20) (by decide +kernel) rfl rfl dX8_divideMade_110 ?_
      refine lv_iload hx hb dX8_divideMade_113 (lv_at hl 5 rfl) ?_
      refine mx_lald C hO (a := 4) rfl hw.1 dX8_divideMade_115 ?_
      have hw := hw.2
      refine lv_lmul hx hb dX8_divideMade_116 ?_
      refine lv_lsub hx hb dX8_divideMade_117 ?_
      refine mx_last C hO (a := 5) rfl hw.1 dX8_divideMade_118 (fun H locs σ102 eσ102 hO => ?_)
      have hw := hw.2 σ102 eσ102
      obtain ⟨x6_103, ex6_103⟩ : ∃ y : Int32, y = x6 + 1 := ⟨_, rfl⟩
      have hw := hw x6_103 ex6_103
      refine lv_iinc (v := x6_103) (lv' := [(6, .int x6_103), (0, .ref (ad 0)), (1, .int x1), (2, .int x2), (3, .int x3), (4, .long x4)]) hx hb dX8_divideMade_119 hl (k := 5) rfl (by rw [ex6_103]; rfl) (by decide) rfl (fun ls hl => ?_)
      refine lv_goto (tgt := 91) hx hb dX8_divideMade_122 (by decide) ?_
      exact ih x1 x2 x3 x4 x6_103 σ102 hw H locs ls hO (lv_sub hl [1, 2, 3, 4, 5, 0] rfl)
set_option maxRecDepth 100000 in
set_option maxHeartbeats 4000000 in
theorem k_divideMade_57 {p : Program} {l : Launch} {e : Env} {s : State} {m : MethodId} {args : Array Value} {below : List Frame} {meth : Method} {c : Code} {D : va_G} {y : Nat → ClassId} {ad : Nat → Nat} {X : va_W} {A : Nat → Prop} {Q : mS → Prop} (C : mC p s m args meth c cX8_divideMade 7 none wsX8_divideMade D y A) {r11 : Int32 → Int32 → mS → Prop} (hr11 : ∀ (x1 : Int32) (x2 : Int32) (σ : mS), r11 x1 x2 σ → ∀ (H : Heap) (locs : List Loc) (ls : Array Slot), mO D y ad X A s.heap H locs σ → lv_has ls 7 [(0, .ref (ad 0)), (1, .int x1), (2, .int x2)] → W p l e rX8_divideMade s m args below meth c H locs 0 0 (MQ below (va_Qv Q (mB D y ad X A) A) args s 0 0 A) (F0 m 11 ls [])) (n : Nat) : ∀ (x1 : Int32) (x2 : Int32) (x3 : Int32) (σ : mS), w_divideMade_57 Q r11 n x1 x2 x3 σ → ∀ (H : Heap) (locs : List Loc) (ls : Array Slot), mO D y ad X A s.heap H locs σ → lv_has ls 7 [(0, .ref (ad 0)), (1, .int x1), (2, .int x2), (3, .int x3)] → W p l e rX8_divideMade s m args below meth c H locs 0 0 (MQ below (va_Qv Q (mB D y ad X A) A) args s 0 0 A) (F0 m 57 ls []) := by
  obtain ⟨hx, hb, hr, hml, hown, hts, hlk, hK, hA⟩ := id C
  have hin : ∀ w ∈ wsX80, w ∈ wsX8_divideMade := fun _ h => List.mem_cons_of_mem _ (List.mem_append_right _ h)
  induction n with
  | zero =>
    intro x1 x2 x3 σ hw
    exact (show False from hw).elim
  | succ n ih =>
    intro x1 x2 x3 σ hw H locs ls hO hl
    unfold w_divideMade_57 at hw
    refine lv_iload_n hx hb dX8_divideMade_57 rfl (lv_at hl 3 rfl) ?_
    refine lv_if_lt (tgt := 131) hx hb dX8_divideMade_58 (by decide) (fun hc => ?_) (fun hc => ?_)
    · have hw := hw.1 hc
      obtain ⟨x2_101, ex2_101⟩ : ∃ y : Int32, y = x2 + 4 := ⟨_, rfl⟩
      have hw := hw x2_101 ex2_101
      refine lv_iinc (v := x2_101) (lv' := [(2, .int x2_101), (0, .ref (ad 0)), (1, .int x1), (3, .int x3)]) hx hb dX8_divideMade_131 hl (k := 2) rfl (by rw [ex2_101]; rfl) (by decide) rfl (fun ls hl => ?_)
      refine lv_goto (tgt := 11) hx hb dX8_divideMade_134 (by decide) ?_
      exact hr11 x1 x2_101 σ hw H locs ls hO (lv_sub hl [1, 2, 0] rfl)
    · have hw := hw.2 hc
      refine lv_aload_n hx hb dX8_divideMade_61 rfl (lv_at hl 0 rfl) ?_
      refine mx_get C hO hin 4 (by decide) (idx := 23) (by decide +kernel) rfl rfl dX8_divideMade_62 ?_
      refine lv_iload_n hx hb dX8_divideMade_65 rfl (lv_at hl 1 rfl) ?_
      refine lv_iload_n hx hb dX8_divideMade_66 rfl (lv_at hl 3 rfl) ?_
      refine lv_iadd hx hb dX8_divideMade_67 ?_
      refine mx_lald C hO (a := 5) rfl hw.1 dX8_divideMade_68 ?_
      have hw := hw.2
      refine lv_aload_n hx hb dX8_divideMade_69 rfl (lv_at hl 0 rfl) ?_
      refine mx_get C hO hin 3 (by decide) (idx := 20) (by decide +kernel) rfl rfl dX8_divideMade_70 ?_
      refine lv_iload_n hx hb dX8_divideMade_73 rfl (lv_at hl 1 rfl) ?_
      refine mx_lald C hO (a := 4) rfl hw.1 dX8_divideMade_74 ?_
      have hw := hw.2
      refine lv_ldiv hx hb dX8_divideMade_75 hw.1 ?_
      have hw := hw.2
      refine lv_topl (fun x4_102 ex4_102 => ?_)
      have hw := hw x4_102 ex4_102
      refine lv_lstore (lv' := [(4, .long x4_102), (0, .ref (ad 0)), (1, .int x1), (2, .int x2), (3, .int x3)]) hx hb dX8_divideMade_76 hl (by decide) rfl (fun ls hl => ?_)
      refine lv_aload_n hx hb dX8_divideMade_78 rfl (lv_at hl 1 rfl) ?_
      refine mx_get C hO hin 2 (by decide) (idx := 17) (by decide +kernel) rfl rfl dX8_divideMade_79 ?_
      refine lv_iload_n hx hb dX8_divideMade_82 rfl (lv_at hl 3 rfl) ?_
      refine lv_iload_n hx hb dX8_divideMade_83 rfl (lv_at hl 4 rfl) ?_
      refine lv_iadd hx hb dX8_divideMade_84 ?_
      refine lv_lload hx hb dX8_divideMade_85 (lv_at hl 0 rfl) ?_
      refine mx_last C hO (a := 3) rfl hw.1 dX8_divideMade_87 (fun H locs σ103 eσ103 hO => ?_)
      have hw := hw.2 σ103 eσ103
      refine lv_iconst (v := 0) hx hb dX8_divideMade_88 (by decide) ?_
      refine lv_istore (lv' := [(6, .int ((0 : Int32))), (4, .long x4_102), (0, .ref (ad 0)), (1, .int x1), (2, .int x2), (3, .int x3)]) hx hb dX8_divideMade_89 hl (by decide) rfl (fun ls hl => ?_)
      exact k_divideMade_91 C hr11 (fun x1 x2 x3 σ hw H locs ls hO hl => ih x1 x2 x3 σ hw H locs ls hO hl) fuL x1 x2 x3 x4_102 ((0 : Int32)) σ103 hw H locs ls hO (lv_sub hl [2, 3, 4, 5, 1, 0] rfl)
set_option maxRecDepth 100000 in
set_option maxHeartbeats 4000000 in
theorem k_divideMade_19 {p : Program} {l : Launch} {e : Env} {s : State} {m : MethodId} {args : Array Value} {below : List Frame} {meth : Method} {c : Code} {D : va_G} {y : Nat → ClassId} {ad : Nat → Nat} {X : va_W} {A : Nat → Prop} {Q : mS → Prop} (C : mC p s m args meth c cX8_divideMade 7 none wsX8_divideMade D y A) {r11 : Int32 → Int32 → mS → Prop} (hr11 : ∀ (x1 : Int32) (x2 : Int32) (σ : mS), r11 x1 x2 σ → ∀ (H : Heap) (locs : List Loc) (ls : Array Slot), mO D y ad X A s.heap H locs σ → lv_has ls 7 [(0, .ref (ad 0)), (1, .int x1), (2, .int x2)] → W p l e rX8_divideMade s m args below meth c H locs 0 0 (MQ below (va_Qv Q (mB D y ad X A) A) args s 0 0 A) (F0 m 11 ls [])) (n : Nat) : ∀ (x1 : Int32) (x2 : Int32) (x3 : Int32) (σ : mS), w_divideMade_19 Q r11 n x1 x2 x3 σ → ∀ (H : Heap) (locs : List Loc) (ls : Array Slot), mO D y ad X A s.heap H locs σ → lv_has ls 7 [(0, .ref (ad 0)), (1, .int x1), (2, .int x2), (3, .int x3)] → W p l e rX8_divideMade s m args below meth c H locs 0 0 (MQ below (va_Qv Q (mB D y ad X A) A) args s 0 0 A) (F0 m 19 ls []) := by
  obtain ⟨hx, hb, hr, hml, hown, hts, hlk, hK, hA⟩ := id C
  have hin : ∀ w ∈ wsX80, w ∈ wsX8_divideMade := fun _ h => List.mem_cons_of_mem _ (List.mem_append_right _ h)
  induction n with
  | zero =>
    intro x1 x2 x3 σ hw
    exact (show False from hw).elim
  | succ n ih =>
    intro x1 x2 x3 σ hw H locs ls hO hl
    unfold w_divideMade_19 at hw
    refine lv_iload_n hx hb dX8_divideMade_19 rfl (lv_at hl 3 rfl) ?_
    refine lv_iconst (v := 4) hx hb dX8_divideMade_20 (by decide) ?_
    refine lv_icmp_ge (tgt := 53) hx hb dX8_divideMade_21 (by decide) (fun hc => ?_) (fun hc => ?_)
    · have hw := hw.1 hc
      refine lv_iconst (v := 3) hx hb dX8_divideMade_53 (by decide) ?_
      refine lv_iload_n hx hb dX8_divideMade_54 rfl (lv_at hl 1 rfl) ?_
      refine lv_isub hx hb dX8_divideMade_55 ?_
      refine lv_topi (fun x3_101 ex3_101 => ?_)
      have hw := hw x3_101 ex3_101
      refine lv_istore_n (lv' := [(3, .int x3_101), (0, .ref (ad 0)), (1, .int x1), (2, .int x2)]) hx hb dX8_divideMade_56 rfl hl (by decide) rfl (fun ls hl => ?_)
      exact k_divideMade_57 C hr11 fuL x1 x2 x3_101 σ hw H locs ls hO (lv_sub hl [1, 2, 3, 0] rfl)
    · have hw := hw.2 hc
      refine lv_aload_n hx hb dX8_divideMade_24 rfl (lv_at hl 0 rfl) ?_
      refine mx_get C hO hin 4 (by decide) (idx := 23) (by decide +kernel) rfl rfl dX8_divideMade_25 ?_
      refine lv_iload_n hx hb dX8_divideMade_28 rfl (lv_at hl 3 rfl) ?_
      refine lv_aload_n hx hb dX8_divideMade_29 rfl (lv_at hl 0 rfl) ?_
      refine mx_get C hO hin 2 (by decide) (idx := 17) (by decide +kernel) rfl rfl dX8_divideMade_30 ?_
      refine lv_iload_n hx hb dX8_divideMade_33 rfl (lv_at hl 2 rfl) ?_
      refine lv_iload_n hx hb dX8_divideMade_34 rfl (lv_at hl 3 rfl) ?_
      refine lv_iadd hx hb dX8_divideMade_35 ?_
      refine mx_lald C hO (a := 3) rfl hw.1 dX8_divideMade_36 ?_
      have hw := hw.2
      refine mx_last C hO (a := 5) rfl hw.1 dX8_divideMade_37 (fun H locs σ102 eσ102 hO => ?_)
      have hw := hw.2 σ102 eσ102
      refine lv_aload_n hx hb dX8_divideMade_38 rfl (lv_at hl 0 rfl) ?_
      refine mx_get C hO hin 2 (by decide) (idx := 17) (by decide +kernel) rfl rfl dX8_divideMade_39 ?_
      refine lv_iload_n hx hb dX8_divideMade_42 rfl (lv_at hl 2 rfl) ?_
      refine lv_iload_n hx hb dX8_divideMade_43 rfl (lv_at hl 3 rfl) ?_
      refine lv_iadd hx hb dX8_divideMade_44 ?_
      refine lv_lconst (v := 0) hx hb dX8_divideMade_45 (by decide) ?_
      refine mx_last C hO (a := 3) rfl hw.1 dX8_divideMade_46 (fun H locs σ103 eσ103 hO => ?_)
      have hw := hw.2 σ103 eσ103
      obtain ⟨x3_104, ex3_104⟩ : ∃ y : Int32, y = x3 + 1 := ⟨_, rfl⟩
      have hw := hw x3_104 ex3_104
      refine lv_iinc (v := x3_104) (lv' := [(3, .int x3_104), (0, .ref (ad 0)), (1, .int x1), (2, .int x2)]) hx hb dX8_divideMade_47 hl (k := 3) rfl (by rw [ex3_104]; rfl) (by decide) rfl (fun ls hl => ?_)
      refine lv_goto (tgt := 19) hx hb dX8_divideMade_50 (by decide) ?_
      exact ih x1 x2 x3_104 σ103 hw H locs ls hO (lv_sub hl [1, 2, 3, 0] rfl)
set_option maxRecDepth 100000 in
set_option maxHeartbeats 4000000 in
theorem k_divideMade_11 {p : Program} {l : Launch} {e : Env} {s : State} {m : MethodId} {args : Array Value} {below : List Frame} {meth : Method} {c : Code} {D : va_G} {y : Nat → ClassId} {ad : Nat → Nat} {X : va_W} {A : Nat → Prop} {Q : mS → Prop} (C : mC p s m args meth c cX8_divideMade 7 none wsX8_divideMade D y A) (n : Nat) : ∀ (x1 : Int32) (x2 : Int32) (σ : mS), w_divideMade_11 Q n x1 x2 σ → ∀ (H : Heap) (locs : List Loc) (ls : Array Slot), mO D y ad X A s.heap H locs σ → lv_has ls 7 [(0, .ref (ad 0)), (1, .int x1), (2, .int x2)] → W p l e rX8_divideMade s m args below meth c H locs 0 0 (MQ below (va_Qv Q (mB D y ad X A) A) args s 0 0 A) (F0 m 11 ls []) := by
  obtain ⟨hx, hb, hr, hml, hown, hts, hlk, hK, hA⟩ := id C
  induction n with
  | zero =>
    intro x1 x2 σ hw
    exact (show False from hw).elim
  | succ n ih =>
    intro x1 x2 σ hw H locs ls hO hl
    unfold w_divideMade_11 at hw
    refine lv_iload_n hx hb dX8_divideMade_11 rfl (lv_at hl 2 rfl) ?_
    refine lv_bipush (v := 12) hx hb dX8_divideMade_12 (by decide) ?_
    refine lv_icmp_ge (tgt := 137) hx hb dX8_divideMade_14 (by decide) (fun hc => ?_) (fun hc => ?_)
    · have hw := hw.1 hc
      exact mx_vret C hO hw dX8_divideMade_137
    · have hw := hw.2 hc
      refine lv_iconst (v := 0) hx hb dX8_divideMade_17 (by decide) ?_
      refine lv_istore_n (lv' := [(3, .int ((0 : Int32))), (0, .ref (ad 0)), (1, .int x1), (2, .int x2)]) hx hb dX8_divideMade_18 rfl hl (by decide) rfl (fun ls hl => ?_)
      exact k_divideMade_19 C (fun x1 x2 σ hw H locs ls hO hl => ih x1 x2 σ hw H locs ls hO hl) fuL x1 x2 ((0 : Int32)) σ hw H locs ls hO (lv_sub hl [1, 2, 3, 0] rfl)
set_option maxRecDepth 100000 in
set_option maxHeartbeats 4000000 in
theorem k_divideMade_e {p : Program} {l : Launch} {e : Env} {s : State} {m : MethodId} {args : Array Value} {below : List Frame} {meth : Method} {c : Code} {D : va_G} {y : Nat → ClassId} {ad : Nat → Nat} {X : va_W} {A : Nat → Prop} {Q : mS → Prop} (C : mC p s m args meth c cX8_divideMade 7 none wsX8_divideMade D y A)  (σ : mS) (hw : w_divideMade Q σ) (H : Heap) (locs : List Loc) (ls : Array Slot) (hO : mO D y ad X A s.heap H locs σ) (hl : lv_has ls 7 [(0, .ref (ad 0))]) : W p l e rX8_divideMade s m args below meth c H locs 0 0 (MQ below (va_Qv Q (mB D y ad X A) A) args s 0 0 A) (F0 m 0 ls []) := by
  obtain ⟨hx, hb, hr, hml, hown, hts, hlk, hK, hA⟩ := id C
  have hin : ∀ w ∈ wsX80, w ∈ wsX8_divideMade := fun _ h => List.mem_cons_of_mem _ (List.mem_append_right _ h)
  unfold w_divideMade at hw
  refine lv_aload_n hx hb dX8_divideMade_0 rfl (lv_at hl 0 rfl) ?_
  refine mx_get C hO hin 3 (by decide) (idx := 20) (by decide +kernel) rfl rfl dX8_divideMade_1 ?_
  refine lv_iconst (v := 0) hx hb dX8_divideMade_4 (by decide) ?_
  refine mx_cis C hO (c_degreeAt l D y ad X σ 4 ((0 : Int32)) (rfl) _ hw) (va_cwS 2 hts gX8_divideMade_X8_degreeAt rfl rfl rfl (by decide +kernel) ⟨Nat.le_of_ble_eq_true rfl, Nat.le_of_ble_eq_true rfl⟩) rfl hl.1 rfl (lv_room (Nat.le_of_ble_eq_true rfl)) dX8_divideMade_5 (fun u101 σ102 H locs hw hO => ?_)
  refine lv_istore_n (lv' := [(1, .int u101), (0, .ref (ad 0))]) hx hb dX8_divideMade_8 rfl hl (by decide) rfl (fun ls hl => ?_)
  refine lv_iconst (v := 0) hx hb dX8_divideMade_9 (by decide) ?_
  refine lv_istore_n (lv' := [(2, .int ((0 : Int32))), (1, .int u101), (0, .ref (ad 0))]) hx hb dX8_divideMade_10 rfl hl (by decide) rfl (fun ls hl => ?_)
  exact k_divideMade_11 C fuL u101 ((0 : Int32)) σ102 hw H locs ls hO (lv_sub hl [2, 1, 0] rfl)
theorem c_divideMade (l : Launch) (D : va_G) (y : Nat → ClassId) (ad : Nat → Nat) (X : va_W) (σ : mS)  (Q : mS → Prop) (hw : w_divideMade Q σ) : ∀ sz, Met l yX8_divideMade wsX8_divideMade rX8_divideMade (va_Pc [.ref (ad 0)] (mPre D y ad X sz σ)) (va_Qv Q (mB D y ad X (va_A (mW y ad σ ++ X) sz)) (va_A (mW y ad σ ++ X) sz)) 0 0 (va_A (mW y ad σ ++ X) sz) :=
  mMet (Qc := fun A => va_Qv Q (mB D y ad X A) A) rfl (Nat.le_of_ble_eq_true rfl) (fun p e s m args below meth c A ls C hO hl => k_divideMade_e C σ hw s.heap [] ls hO hl)
