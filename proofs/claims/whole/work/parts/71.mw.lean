/-! the reference: what each method does, and the walk of its bytecode (written by wip/tools/gen.py) -/
abbrev rX8_degreeOf : Room := { frames := 1, cells := 0, slots := 0, locals := 22 }
set_option maxRecDepth 100000 in
set_option maxHeartbeats 4000000 in
theorem k_degreeOf_37 {p : Program} {l : Launch} {e : Env} {s : State} {m : MethodId} {args : Array Value} {below : List Frame} {meth : Method} {c : Code} {D : va_G} {y : Nat → ClassId} {ad : Nat → Nat} {X : va_W} {A : Nat → Prop} {Q : Int32 → mS → Prop} (C : mC p s m args meth c cX8_degreeOf 5 (some .int) wsX8_degreeOf D y A) {r4 : Int32 → Int32 → Int32 → mS → Prop} (hr4 : ∀ (x1 : Int32) (x2 : Int32) (x3 : Int32) (σ : mS), r4 x1 x2 x3 σ → ∀ (H : Heap) (locs : List Loc) (ls : Array Slot), mO D y ad X A s.heap H locs σ → lv_has ls 5 [(0, .ref (ad 0)), (1, .int x1), (2, .int x2), (3, .int x3)] → W p l e rX8_degreeOf s m args below meth c H locs 0 0 (MQ below (va_Qi Q (mB D y ad X A) A) args s 0 0 A) (F0 m 4 ls [])) (x1 : Int32) (x3 : Int32) (z0 : Int32) (σ : mS) (hw : w_degreeOf_37 Q r4 x1 x3 z0 σ) (H : Heap) (locs : List Loc) (ls : Array Slot) (hO : mO D y ad X A s.heap H locs σ) (hl : lv_has ls 5 [(0, .ref (ad 0)), (1, .int x1), (3, .int x3)]) : W p l e rX8_degreeOf s m args below meth c H locs 0 0 (MQ below (va_Qi Q (mB D y ad X A) A) args s 0 0 A) (F0 m 37 ls [.int z0]) := by
  obtain ⟨hx, hb, hr, hml, hown, hts, hlk, hK, hA⟩ := id C
  unfold w_degreeOf_37 at hw
  refine lv_istore_n (lv' := [(2, .int z0), (0, .ref (ad 0)), (1, .int x1), (3, .int x3)]) hx hb dX8_degreeOf_37 rfl hl (by decide) rfl (fun ls hl => ?_)
  obtain ⟨x3_101, ex3_101⟩ : ∃ y : Int32, y = x3 + 4 := ⟨_, rfl⟩
  have hw := hw x3_101 ex3_101
  refine lv_iinc (v := x3_101) (lv' := [(3, .int x3_101), (2, .int z0), (0, .ref (ad 0)), (1, .int x1)]) hx hb dX8_degreeOf_38 hl (k := 3) rfl (by rw [ex3_101]; rfl) (by decide) rfl (fun ls hl => ?_)
  refine lv_goto (tgt := 4) hx hb dX8_degreeOf_41 (by decide) ?_
  exact hr4 x1 z0 x3_101 σ hw H locs ls hO (lv_sub hl [2, 3, 1, 0] rfl)
set_option maxRecDepth 100000 in
set_option maxHeartbeats 4000000 in
theorem k_degreeOf_4 {p : Program} {l : Launch} {e : Env} {s : State} {m : MethodId} {args : Array Value} {below : List Frame} {meth : Method} {c : Code} {D : va_G} {y : Nat → ClassId} {ad : Nat → Nat} {X : va_W} {A : Nat → Prop} {Q : Int32 → mS → Prop} (C : mC p s m args meth c cX8_degreeOf 5 (some .int) wsX8_degreeOf D y A) (n : Nat) : ∀ (x1 : Int32) (x2 : Int32) (x3 : Int32) (σ : mS), w_degreeOf_4 Q n x1 x2 x3 σ → ∀ (H : Heap) (locs : List Loc) (ls : Array Slot), mO D y ad X A s.heap H locs σ → lv_has ls 5 [(0, .ref (ad 0)), (1, .int x1), (2, .int x2), (3, .int x3)] → W p l e rX8_degreeOf s m args below meth c H locs 0 0 (MQ below (va_Qi Q (mB D y ad X A) A) args s 0 0 A) (F0 m 4 ls []) := by
  obtain ⟨hx, hb, hr, hml, hown, hts, hlk, hK, hA⟩ := id C
  have hin : ∀ w ∈ wsX80, w ∈ wsX8_degreeOf := fun _ h => List.mem_cons_of_mem _ (List.mem_append_right _ h)
  induction n with
  | zero =>
    intro x1 x2 x3 σ hw
    exact (show False from hw).elim
  | succ n ih =>
    intro x1 x2 x3 σ hw H locs ls hO hl
    unfold w_degreeOf_4 at hw
    refine lv_iload_n hx hb dX8_degreeOf_4 rfl (lv_at hl 3 rfl) ?_
    refine lv_bipush (v := 12) hx hb dX8_degreeOf_5 (by decide) ?_
    refine lv_icmp_ge (tgt := 44) hx hb dX8_degreeOf_7 (by decide) (fun hc => ?_) (fun hc => ?_)
    · have hw := hw.1 hc
      refine lv_iload_n hx hb dX8_degreeOf_44 rfl (lv_at hl 2 rfl) ?_
      exact mx_iret C hO hw dX8_degreeOf_45
    · have hw := hw.2 hc
      refine lv_aload_n hx hb dX8_degreeOf_10 rfl (lv_at hl 0 rfl) ?_
      refine mx_get C hO hin 1 (by decide) (idx := 13) (by decide +kernel) rfl rfl dX8_degreeOf_11 ?_
      refine lv_bipush (v := 12) hx hb dX8_degreeOf_14 (by decide) ?_
      refine lv_iload_n hx hb dX8_degreeOf_16 rfl (lv_at hl 1 rfl) ?_
      refine lv_imul hx hb dX8_degreeOf_17 ?_
      refine lv_iload_n hx hb dX8_degreeOf_18 rfl (lv_at hl 3 rfl) ?_
      refine lv_iadd hx hb dX8_degreeOf_19 ?_
      refine mx_cis C hO (c_degreeAt l D y ad X σ 2 (((12 : Int32) * x1) + x3) (rfl) _ hw) (va_cwS 2 hts gX8_degreeOf_X8_degreeAt rfl rfl rfl (by decide +kernel) ⟨Nat.le_of_ble_eq_true rfl, Nat.le_of_ble_eq_true rfl⟩) rfl hl.1 rfl (lv_room (Nat.le_of_ble_eq_true rfl)) dX8_degreeOf_20 (fun u101 σ102 H locs hw hO => ?_)
      refine lv_istore (lv' := [(4, .int u101), (0, .ref (ad 0)), (1, .int x1), (2, .int x2), (3, .int x3)]) hx hb dX8_degreeOf_23 hl (by decide) rfl (fun ls hl => ?_)
      refine lv_iload hx hb dX8_degreeOf_25 (lv_at hl 0 rfl) ?_
      refine lv_iload_n hx hb dX8_degreeOf_27 rfl (lv_at hl 3 rfl) ?_
      refine lv_icmp_le (tgt := 36) hx hb dX8_degreeOf_28 (by decide) (fun hc => ?_) (fun hc => ?_)
      · have hw := hw.1 hc
        refine lv_iload_n hx hb dX8_degreeOf_36 rfl (lv_at hl 3 rfl) ?_
        exact k_degreeOf_37 C (fun x1 x2 x3 σ hw H locs ls hO hl => ih x1 x2 x3 σ hw H locs ls hO hl) x1 x3 x2 σ102 hw H locs ls hO (lv_sub hl [1, 2, 4] rfl)
      · have hw := hw.2 hc
        refine lv_iload hx hb dX8_degreeOf_31 (lv_at hl 0 rfl) ?_
        refine lv_goto (tgt := 37) hx hb dX8_degreeOf_33 (by decide) ?_
        exact k_degreeOf_37 C (fun x1 x2 x3 σ hw H locs ls hO hl => ih x1 x2 x3 σ hw H locs ls hO hl) x1 x3 u101 σ102 hw H locs ls hO (lv_sub hl [1, 2, 4] rfl)
set_option maxRecDepth 100000 in
set_option maxHeartbeats 4000000 in
theorem k_degreeOf_e {p : Program} {l : Launch} {e : Env} {s : State} {m : MethodId} {args : Array Value} {below : List Frame} {meth : Method} {c : Code} {D : va_G} {y : Nat → ClassId} {ad : Nat → Nat} {X : va_W} {A : Nat → Prop} {Q : Int32 → mS → Prop} (C : mC p s m args meth c cX8_degreeOf 5 (some .int) wsX8_degreeOf D y A) (x1 : Int32) (σ : mS) (hw : w_degreeOf Q x1 σ) (H : Heap) (locs : List Loc) (ls : Array Slot) (hO : mO D y ad X A s.heap H locs σ) (hl : lv_has ls 5 [(0, .ref (ad 0)), (1, .int x1)]) : W p l e rX8_degreeOf s m args below meth c H locs 0 0 (MQ below (va_Qi Q (mB D y ad X A) A) args s 0 0 A) (F0 m 0 ls []) := by
  obtain ⟨hx, hb, hr, hml, hown, hts, hlk, hK, hA⟩ := id C
  unfold w_degreeOf at hw
  refine lv_iconst (v := 0) hx hb dX8_degreeOf_0 (by decide) ?_
  refine lv_istore_n (lv' := [(2, .int ((0 : Int32))), (0, .ref (ad 0)), (1, .int x1)]) hx hb dX8_degreeOf_1 rfl hl (by decide) rfl (fun ls hl => ?_)
  refine lv_iconst (v := 0) hx hb dX8_degreeOf_2 (by decide) ?_
  refine lv_istore_n (lv' := [(3, .int ((0 : Int32))), (2, .int ((0 : Int32))), (0, .ref (ad 0)), (1, .int x1)]) hx hb dX8_degreeOf_3 rfl hl (by decide) rfl (fun ls hl => ?_)
  exact k_degreeOf_4 C fuL x1 ((0 : Int32)) ((0 : Int32)) σ hw H locs ls hO (lv_sub hl [2, 3, 1, 0] rfl)
theorem c_degreeOf (l : Launch) (D : va_G) (y : Nat → ClassId) (ad : Nat → Nat) (X : va_W) (σ : mS) (x1 : Int32) (Q : Int32 → mS → Prop) (hw : w_degreeOf Q x1 σ) : ∀ sz, Met l yX8_degreeOf wsX8_degreeOf rX8_degreeOf (va_Pc [.ref (ad 0), .int x1] (mPre D y ad X sz σ)) (va_Qi Q (mB D y ad X (va_A (mW y ad σ ++ X) sz)) (va_A (mW y ad σ ++ X) sz)) 0 0 (va_A (mW y ad σ ++ X) sz) :=
  mMet (Qc := fun A => va_Qi Q (mB D y ad X A) A) rfl (Nat.le_of_ble_eq_true rfl) (fun p e s m args below meth c A ls C hO hl => k_degreeOf_e C x1 σ hw s.heap [] ls hO hl)
abbrev rX8_cross : Room := { frames := 0, cells := 0, slots := 0, locals := 0 }
set_option maxRecDepth 100000 in
set_option maxHeartbeats 4000000 in
theorem k_cross_e {p : Program} {l : Launch} {e : Env} {s : State} {m : MethodId} {args : Array Value} {below : List Frame} {meth : Method} {c : Code} {D : va_G} {y : Nat → ClassId} {ad : Nat → Nat} {X : va_W} {A : Nat → Prop} {Q : mS → Prop} (C : mC p s m args meth c cX8_cross 13 none wsX8_cross D y A) (x1 : Int64) (x3 : Int64) (x5 : Int64) (x7 : Int64) (x9 : Int64) (x11 : Int64) (σ : mS) (hw : w_cross Q x1 x3 x5 x7 x9 x11 σ) (H : Heap) (locs : List Loc) (ls : Array Slot) (hO : mO D y ad X A s.heap H locs σ) (hl : lv_has ls 13 [(0, .ref (ad 0)), (1, .long x1), (3, .long x3), (5, .long x5), (7, .long x7), (9, .long x9), (11, .long x11)]) : W p l e rX8_cross s m args below meth c H locs 0 0 (MQ below (va_Qv Q (mB D y ad X A) A) args s 0 0 A) (F0 m 0 ls []) := by
  obtain ⟨hx, hb, hr, hml, hown, hts, hlk, hK, hA⟩ := id C
  have hin : ∀ w ∈ wsX80, w ∈ wsX8_cross := fun _ h => List.mem_cons_of_mem _ (List.mem_append_right _ h)
  unfold w_cross at hw
  refine lv_aload_n hx hb dX8_cross_0 rfl (lv_at hl 0 rfl) ?_
  refine mx_get C hO hin 5 (by decide) (idx := 26) (by decide +kernel) rfl rfl dX8_cross_1 ?_
  refine lv_iconst (v := 0) hx hb dX8_cross_4 (by decide) ?_
  refine lv_lload_n hx hb dX8_cross_5 rfl (lv_at hl 2 rfl) ?_
  refine lv_lload hx hb dX8_cross_6 (lv_at hl 6 rfl) ?_
  refine lv_lmul hx hb dX8_cross_8 ?_
  refine lv_lload hx hb dX8_cross_9 (lv_at hl 3 rfl) ?_
  refine lv_lload hx hb dX8_cross_11 (lv_at hl 5 rfl) ?_
  refine lv_lmul hx hb dX8_cross_13 ?_
  refine lv_lsub hx hb dX8_cross_14 ?_
  refine mx_last C hO (a := 6) rfl hw.1 dX8_cross_15 (fun H locs σ101 eσ101 hO => ?_)
  have hw := hw.2 σ101 eσ101
  refine lv_aload_n hx hb dX8_cross_16 rfl (lv_at hl 0 rfl) ?_
  refine mx_get C hO hin 5 (by decide) (idx := 26) (by decide +kernel) rfl rfl dX8_cross_17 ?_
  refine lv_iconst (v := 1) hx hb dX8_cross_20 (by decide) ?_
  refine lv_lload hx hb dX8_cross_21 (lv_at hl 3 rfl) ?_
  refine lv_lload hx hb dX8_cross_23 (lv_at hl 4 rfl) ?_
  refine lv_lmul hx hb dX8_cross_25 ?_
  refine lv_lload_n hx hb dX8_cross_26 rfl (lv_at hl 1 rfl) ?_
  refine lv_lload hx hb dX8_cross_27 (lv_at hl 6 rfl) ?_
  refine lv_lmul hx hb dX8_cross_29 ?_
  refine lv_lsub hx hb dX8_cross_30 ?_
  refine mx_last C hO (a := 6) rfl hw.1 dX8_cross_31 (fun H locs σ102 eσ102 hO => ?_)
  have hw := hw.2 σ102 eσ102
  refine lv_aload_n hx hb dX8_cross_32 rfl (lv_at hl 0 rfl) ?_
  refine mx_get C hO hin 5 (by decide) (idx := 26) (by decide +kernel) rfl rfl dX8_cross_33 ?_
  refine lv_iconst (v := 2) hx hb dX8_cross_36 (by decide) ?_
  refine lv_lload_n hx hb dX8_cross_37 rfl (lv_at hl 1 rfl) ?_
  refine lv_lload hx hb dX8_cross_38 (lv_at hl 5 rfl) ?_
  refine lv_lmul hx hb dX8_cross_40 ?_
  refine lv_lload_n hx hb dX8_cross_41 rfl (lv_at hl 2 rfl) ?_
  refine lv_lload hx hb dX8_cross_42 (lv_at hl 4 rfl) ?_
  refine lv_lmul hx hb dX8_cross_44 ?_
  refine lv_lsub hx hb dX8_cross_45 ?_
  refine mx_last C hO (a := 6) rfl hw.1 dX8_cross_46 (fun H locs σ103 eσ103 hO => ?_)
  have hw := hw.2 σ103 eσ103
  exact mx_vret C hO hw dX8_cross_47
theorem c_cross (l : Launch) (D : va_G) (y : Nat → ClassId) (ad : Nat → Nat) (X : va_W) (σ : mS) (x1 : Int64) (x3 : Int64) (x5 : Int64) (x7 : Int64) (x9 : Int64) (x11 : Int64) (Q : mS → Prop) (hw : w_cross Q x1 x3 x5 x7 x9 x11 σ) : ∀ sz, Met l yX8_cross wsX8_cross rX8_cross (va_Pc [.ref (ad 0), .long x1, .long x3, .long x5, .long x7, .long x9, .long x11] (mPre D y ad X sz σ)) (va_Qv Q (mB D y ad X (va_A (mW y ad σ ++ X) sz)) (va_A (mW y ad σ ++ X) sz)) 0 0 (va_A (mW y ad σ ++ X) sz) :=
  mMet (Qc := fun A => va_Qv Q (mB D y ad X A) A) rfl (Nat.le_of_ble_eq_true rfl) (fun p e s m args below meth c A ls C hO hl => k_cross_e C x1 x3 x5 x7 x9 x11 σ hw s.heap [] ls hO hl)
abbrev rX8_findStraight : Room := { frames := 1, cells := 0, slots := 0, locals := 32 }
set_option maxRecDepth 100000 in
set_option maxHeartbeats 4000000 in
theorem k_findStraight_112 {p : Program} {l : Launch} {e : Env} {s : State} {m : MethodId} {args : Array Value} {below : List Frame} {meth : Method} {c : Code} {D : va_G} {y : Nat → ClassId} {ad : Nat → Nat} {X : va_W} {A : Nat → Prop} {Q : Int32 → mS → Prop} (C : mC p s m args meth c cX8_findStraight 5 (some .boolean) wsX8_findStraight D y A) (z0 : Int32) (σ : mS) (hw : w_findStraight_112 Q z0 σ) (H : Heap) (locs : List Loc) (ls : Array Slot) (hO : mO D y ad X A s.heap H locs σ) (hl : lv_has ls 5 [(0, .ref (ad 0))]) : W p l e rX8_findStraight s m args below meth c H locs 0 0 (MQ below (va_Qi Q (mB D y ad X A) A) args s 0 0 A) (F0 m 112 ls [.int z0]) := by
  obtain ⟨hx, hb, hr, hml, hown, hts, hlk, hK, hA⟩ := id C
  unfold w_findStraight_112 at hw
  exact mx_zret C hO hw.1 hw.2 dX8_findStraight_112
set_option maxRecDepth 100000 in
set_option maxHeartbeats 4000000 in
theorem k_findStraight_107 {p : Program} {l : Launch} {e : Env} {s : State} {m : MethodId} {args : Array Value} {below : List Frame} {meth : Method} {c : Code} {D : va_G} {y : Nat → ClassId} {ad : Nat → Nat} {X : va_W} {A : Nat → Prop} {Q : Int32 → mS → Prop} (C : mC p s m args meth c cX8_findStraight 5 (some .boolean) wsX8_findStraight D y A)  (σ : mS) (hw : w_findStraight_107 Q σ) (H : Heap) (locs : List Loc) (ls : Array Slot) (hO : mO D y ad X A s.heap H locs σ) (hl : lv_has ls 5 [(0, .ref (ad 0))]) : W p l e rX8_findStraight s m args below meth c H locs 0 0 (MQ below (va_Qi Q (mB D y ad X A) A) args s 0 0 A) (F0 m 107 ls []) := by
  obtain ⟨hx, hb, hr, hml, hown, hts, hlk, hK, hA⟩ := id C
  unfold w_findStraight_107 at hw
  refine lv_iconst (v := 1) hx hb dX8_findStraight_107 (by decide) ?_
  refine lv_goto (tgt := 112) hx hb dX8_findStraight_108 (by decide) ?_
  exact k_findStraight_112 C ((1 : Int32)) σ hw H locs ls hO (lv_sub hl [0] rfl)
set_option maxRecDepth 100000 in
set_option maxHeartbeats 4000000 in
theorem k_findStraight_e {p : Program} {l : Launch} {e : Env} {s : State} {m : MethodId} {args : Array Value} {below : List Frame} {meth : Method} {c : Code} {D : va_G} {y : Nat → ClassId} {ad : Nat → Nat} {X : va_W} {A : Nat → Prop} {Q : Int32 → mS → Prop} (C : mC p s m args meth c cX8_findStraight 5 (some .boolean) wsX8_findStraight D y A) (x1 : Int32) (x2 : Int32) (x3 : Int32) (σ : mS) (hw : w_findStraight Q x1 x2 x3 σ) (H : Heap) (locs : List Loc) (ls : Array Slot) (hO : mO D y ad X A s.heap H locs σ) (hl : lv_has ls 5 [(0, .ref (ad 0)), (1, .int x1), (2, .int x2), (3, .int x3)]) : W p l e rX8_findStraight s m args below meth c H locs 0 0 (MQ below (va_Qi Q (mB D y ad X A) A) args s 0 0 A) (F0 m 0 ls []) := by
  obtain ⟨hx, hb, hr, hml, hown, hts, hlk, hK, hA⟩ := id C
  have hin : ∀ w ∈ wsX80, w ∈ wsX8_findStraight := fun _ h => List.mem_cons_of_mem _ (List.mem_append_right _ h)
  unfold w_findStraight at hw
  refine lv_bipush (v := 12) hx hb dX8_findStraight_0 (by decide) ?_
  refine lv_iload_n hx hb dX8_findStraight_2 rfl (lv_at hl 1 rfl) ?_
  refine lv_imul hx hb dX8_findStraight_3 ?_
  refine lv_topi (fun x4_101 ex4_101 => ?_)
  have hw := hw x4_101 ex4_101
  refine lv_istore (lv' := [(4, .int x4_101), (0, .ref (ad 0)), (1, .int x1), (2, .int x2), (3, .int x3)]) hx hb dX8_findStraight_4 hl (by decide) rfl (fun ls hl => ?_)
  refine lv_aload_n hx hb dX8_findStraight_6 rfl (lv_at hl 1 rfl) ?_
  refine lv_aload_n hx hb dX8_findStraight_7 rfl (lv_at hl 1 rfl) ?_
  refine mx_get C hO hin 1 (by decide) (idx := 13) (by decide +kernel) rfl rfl dX8_findStraight_8 ?_
  refine lv_iload hx hb dX8_findStraight_11 (lv_at hl 0 rfl) ?_
  refine lv_iload_n hx hb dX8_findStraight_13 rfl (lv_at hl 3 rfl) ?_
  refine lv_iadd hx hb dX8_findStraight_14 ?_
  refine mx_lald C hO (a := 2) rfl hw.1 dX8_findStraight_15 ?_
  have hw := hw.2
  refine lv_aload_n hx hb dX8_findStraight_16 rfl (lv_at hl 1 rfl) ?_
  refine mx_get C hO hin 1 (by decide) (idx := 13) (by decide +kernel) rfl rfl dX8_findStraight_17 ?_
  refine lv_iload hx hb dX8_findStraight_20 (lv_at hl 0 rfl) ?_
  refine lv_iconst (v := 4) hx hb dX8_findStraight_22 (by decide) ?_
  refine lv_iadd hx hb dX8_findStraight_23 ?_
  refine lv_iload_n hx hb dX8_findStraight_24 rfl (lv_at hl 3 rfl) ?_
  refine lv_iadd hx hb dX8_findStraight_25 ?_
  refine mx_lald C hO (a := 2) rfl hw.1 dX8_findStraight_26 ?_
  have hw := hw.2
  refine lv_aload_n hx hb dX8_findStraight_27 rfl (lv_at hl 1 rfl) ?_
  refine mx_get C hO hin 1 (by decide) (idx := 13) (by decide +kernel) rfl rfl dX8_findStraight_28 ?_
  refine lv_iload hx hb dX8_findStraight_31 (lv_at hl 0 rfl) ?_
  refine lv_bipush (v := 8) hx hb dX8_findStraight_33 (by decide) ?_
  refine lv_iadd hx hb dX8_findStraight_35 ?_
  refine lv_iload_n hx hb dX8_findStraight_36 rfl (lv_at hl 3 rfl) ?_
  refine lv_iadd hx hb dX8_findStraight_37 ?_
  refine mx_lald C hO (a := 2) rfl hw.1 dX8_findStraight_38 ?_
  have hw := hw.2
  refine lv_aload_n hx hb dX8_findStraight_39 rfl (lv_at hl 1 rfl) ?_
  refine mx_get C hO hin 1 (by decide) (idx := 13) (by decide +kernel) rfl rfl dX8_findStraight_40 ?_
  refine lv_iload hx hb dX8_findStraight_43 (lv_at hl 0 rfl) ?_
  refine lv_iload_n hx hb dX8_findStraight_45 rfl (lv_at hl 4 rfl) ?_
  refine lv_iadd hx hb dX8_findStraight_46 ?_
  refine mx_lald C hO (a := 2) rfl hw.1 dX8_findStraight_47 ?_
  have hw := hw.2
  refine lv_aload_n hx hb dX8_findStraight_48 rfl (lv_at hl 1 rfl) ?_
  refine mx_get C hO hin 1 (by decide) (idx := 13) (by decide +kernel) rfl rfl dX8_findStraight_49 ?_
  refine lv_iload hx hb dX8_findStraight_52 (lv_at hl 0 rfl) ?_
  refine lv_iconst (v := 4) hx hb dX8_findStraight_54 (by decide) ?_
  refine lv_iadd hx hb dX8_findStraight_55 ?_
  refine lv_iload_n hx hb dX8_findStraight_56 rfl (lv_at hl 4 rfl) ?_
  refine lv_iadd hx hb dX8_findStraight_57 ?_
  refine mx_lald C hO (a := 2) rfl hw.1 dX8_findStraight_58 ?_
  have hw := hw.2
  refine lv_aload_n hx hb dX8_findStraight_59 rfl (lv_at hl 1 rfl) ?_
  refine mx_get C hO hin 1 (by decide) (idx := 13) (by decide +kernel) rfl rfl dX8_findStraight_60 ?_
  refine lv_iload hx hb dX8_findStraight_63 (lv_at hl 0 rfl) ?_
  refine lv_bipush (v := 8) hx hb dX8_findStraight_65 (by decide) ?_
  refine lv_iadd hx hb dX8_findStraight_67 ?_
  refine lv_iload_n hx hb dX8_findStraight_68 rfl (lv_at hl 4 rfl) ?_
  refine lv_iadd hx hb dX8_findStraight_69 ?_
  refine mx_lald C hO (a := 2) rfl hw.1 dX8_findStraight_70 ?_
  have hw := hw.2
  refine mx_cvv C hO (c_cross l D y ad X σ (σ.1 2 (x4_101 + x2).toNatClampNeg) (σ.1 2 ((x4_101 + (4 : Int32)) + x2).toNatClampNeg) (σ.1 2 ((x4_101 + (8 : Int32)) + x2).toNatClampNeg) (σ.1 2 (x4_101 + x3).toNatClampNeg) (σ.1 2 ((x4_101 + (4 : Int32)) + x3).toNatClampNeg) (σ.1 2 ((x4_101 + (8 : Int32)) + x3).toNatClampNeg) _ hw) (cwV 6 hts gX8_findStraight_X8_cross rfl rfl rfl (by decide +kernel) ⟨Nat.le_of_ble_eq_true rfl, Nat.le_of_ble_eq_true rfl⟩) rfl hl.1 rfl (lv_room (Nat.le_of_ble_eq_true rfl)) dX8_findStraight_71 (fun σ103 H locs hw hO => ?_)
  refine lv_aload_n hx hb dX8_findStraight_74 rfl (lv_at hl 1 rfl) ?_
  refine mx_get C hO hin 5 (by decide) (idx := 26) (by decide +kernel) rfl rfl dX8_findStraight_75 ?_
  refine lv_iconst (v := 0) hx hb dX8_findStraight_78 (by decide) ?_
  refine mx_lald C hO (a := 6) rfl hw.1 dX8_findStraight_79 ?_
  have hw := hw.2
  refine lv_lconst (v := 0) hx hb dX8_findStraight_80 (by decide) ?_
  refine W.lcmp hx hb dX8_findStraight_81 ?_
  refine lv_if_ne (tgt := 107) hx hb dX8_findStraight_82 (by decide) (fun hc => ?_) (fun hc => ?_)
  · have hc := (not_congr (lg_cmp_eq _ _)).mp hc
    have hw := hw.1 hc
    exact k_findStraight_107 C σ103 hw H locs ls hO (lv_sub hl [1] rfl)
  · have hc := (lg_cmp_eq _ _).mp hc
    have hw := hw.2 hc
    refine lv_aload_n hx hb dX8_findStraight_85 rfl (lv_at hl 1 rfl) ?_
    refine mx_get C hO hin 5 (by decide) (idx := 26) (by decide +kernel) rfl rfl dX8_findStraight_86 ?_
    refine lv_iconst (v := 1) hx hb dX8_findStraight_89 (by decide) ?_
    refine mx_lald C hO (a := 6) rfl hw.1 dX8_findStraight_90 ?_
    have hw := hw.2
    refine lv_lconst (v := 0) hx hb dX8_findStraight_91 (by decide) ?_
    refine W.lcmp hx hb dX8_findStraight_92 ?_
    refine lv_if_ne (tgt := 107) hx hb dX8_findStraight_93 (by decide) (fun hc => ?_) (fun hc => ?_)
    · have hc := (not_congr (lg_cmp_eq _ _)).mp hc
      have hw := hw.1 hc
      exact k_findStraight_107 C σ103 hw H locs ls hO (lv_sub hl [1] rfl)
    · have hc := (lg_cmp_eq _ _).mp hc
      have hw := hw.2 hc
      refine lv_aload_n hx hb dX8_findStraight_96 rfl (lv_at hl 1 rfl) ?_
      refine mx_get C hO hin 5 (by decide) (idx := 26) (by decide +kernel) rfl rfl dX8_findStraight_97 ?_
      refine lv_iconst (v := 2) hx hb dX8_findStraight_100 (by decide) ?_
      refine mx_lald C hO (a := 6) rfl hw.1 dX8_findStraight_101 ?_
      have hw := hw.2
      refine lv_lconst (v := 0) hx hb dX8_findStraight_102 (by decide) ?_
      refine W.lcmp hx hb dX8_findStraight_103 ?_
      refine lv_if_eq (tgt := 111) hx hb dX8_findStraight_104 (by decide) (fun hc => ?_) (fun hc => ?_)
      · have hc := (lg_cmp_eq _ _).mp hc
        have hw := hw.1 hc
        refine lv_iconst (v := 0) hx hb dX8_findStraight_111 (by decide) ?_
        exact k_findStraight_112 C ((0 : Int32)) σ103 hw H locs ls hO (lv_sub hl [1] rfl)
      · have hc := (not_congr (lg_cmp_eq _ _)).mp hc
        have hw := hw.2 hc
        exact k_findStraight_107 C σ103 hw H locs ls hO (lv_sub hl [1] rfl)
theorem c_findStraight (l : Launch) (D : va_G) (y : Nat → ClassId) (ad : Nat → Nat) (X : va_W) (σ : mS) (x1 : Int32) (x2 : Int32) (x3 : Int32) (Q : Int32 → mS → Prop) (hw : w_findStraight Q x1 x2 x3 σ) : ∀ sz, Met l yX8_findStraight wsX8_findStraight rX8_findStraight (va_Pc [.ref (ad 0), .int x1, .int x2, .int x3] (mPre D y ad X sz σ)) (va_Qi Q (mB D y ad X (va_A (mW y ad σ ++ X) sz)) (va_A (mW y ad σ ++ X) sz)) 0 0 (va_A (mW y ad σ ++ X) sz) :=
  mMet (Qc := fun A => va_Qi Q (mB D y ad X A) A) rfl (Nat.le_of_ble_eq_true rfl) (fun p e s m args below meth c A ls C hO hl => k_findStraight_e C x1 x2 x3 σ hw s.heap [] ls hO hl)
abbrev rX8_isStraight : Room := { frames := 2, cells := 0, slots := 0, locals := 56 }
set_option maxRecDepth 100000 in
set_option maxHeartbeats 4000000 in
theorem k_isStraight_53 {p : Program} {l : Launch} {e : Env} {s : State} {m : MethodId} {args : Array Value} {below : List Frame} {meth : Method} {c : Code} {D : va_G} {y : Nat → ClassId} {ad : Nat → Nat} {X : va_W} {A : Nat → Prop} {Q : Int32 → mS → Prop} (C : mC p s m args meth c cX8_isStraight 7 (some .boolean) wsX8_isStraight D y A) {r11 : Int32 → Int32 → Int32 → Int32 → mS → Prop} (hr11 : ∀ (x1 : Int32) (x2 : Int32) (x3 : Int32) (x4 : Int32) (σ : mS), r11 x1 x2 x3 x4 σ → ∀ (H : Heap) (locs : List Loc) (ls : Array Slot), mO D y ad X A s.heap H locs σ → lv_has ls 7 [(0, .ref (ad 0)), (1, .int x1), (2, .int x2), (3, .int x3), (4, .int x4)] → W p l e rX8_isStraight s m args below meth c H locs 0 0 (MQ below (va_Qi Q (mB D y ad X A) A) args s 0 0 A) (F0 m 11 ls [])) (x1 : Int32) (x2 : Int32) (x3 : Int32) (x4 : Int32) (σ : mS) (hw : w_isStraight_53 Q r11 x1 x2 x3 x4 σ) (H : Heap) (locs : List Loc) (ls : Array Slot) (hO : mO D y ad X A s.heap H locs σ) (hl : lv_has ls 7 [(0, .ref (ad 0)), (1, .int x1), (2, .int x2), (3, .int x3), (4, .int x4)]) : W p l e rX8_isStraight s m args below meth c H locs 0 0 (MQ below (va_Qi Q (mB D y ad X A) A) args s 0 0 A) (F0 m 53 ls []) := by
  obtain ⟨hx, hb, hr, hml, hown, hts, hlk, hK, hA⟩ := id C
  unfold w_isStraight_53 at hw
  obtain ⟨x4_101, ex4_101⟩ : ∃ y : Int32, y = x4 + 1 := ⟨_, rfl⟩
  have hw := hw x4_101 ex4_101
  refine lv_iinc (v := x4_101) (lv' := [(4, .int x4_101), (0, .ref (ad 0)), (1, .int x1), (2, .int x2), (3, .int x3)]) hx hb dX8_isStraight_53 hl (k := 4) rfl (by rw [ex4_101]; rfl) (by decide) rfl (fun ls hl => ?_)
  refine lv_goto (tgt := 11) hx hb dX8_isStraight_56 (by decide) ?_
  exact hr11 x1 x2 x3 x4_101 σ hw H locs ls hO (lv_sub hl [1, 2, 3, 4, 0] rfl)
set_option maxRecDepth 100000 in
set_option maxHeartbeats 4000000 in
theorem k_isStraight_27 {p : Program} {l : Launch} {e : Env} {s : State} {m : MethodId} {args : Array Value} {below : List Frame} {meth : Method} {c : Code} {D : va_G} {y : Nat → ClassId} {ad : Nat → Nat} {X : va_W} {A : Nat → Prop} {Q : Int32 → mS → Prop} (C : mC p s m args meth c cX8_isStraight 7 (some .boolean) wsX8_isStraight D y A) {r11 : Int32 → Int32 → Int32 → Int32 → mS → Prop} (hr11 : ∀ (x1 : Int32) (x2 : Int32) (x3 : Int32) (x4 : Int32) (σ : mS), r11 x1 x2 x3 x4 σ → ∀ (H : Heap) (locs : List Loc) (ls : Array Slot), mO D y ad X A s.heap H locs σ → lv_has ls 7 [(0, .ref (ad 0)), (1, .int x1), (2, .int x2), (3, .int x3), (4, .int x4)] → W p l e rX8_isStraight s m args below meth c H locs 0 0 (MQ below (va_Qi Q (mB D y ad X A) A) args s 0 0 A) (F0 m 11 ls [])) (n : Nat) : ∀ (x1 : Int32) (x2 : Int32) (x3 : Int32) (x4 : Int32) (x5 : Int32) (σ : mS), w_isStraight_27 Q r11 n x1 x2 x3 x4 x5 σ → ∀ (H : Heap) (locs : List Loc) (ls : Array Slot), mO D y ad X A s.heap H locs σ → lv_has ls 7 [(0, .ref (ad 0)), (1, .int x1), (2, .int x2), (3, .int x3), (4, .int x4), (5, .int x5)] → W p l e rX8_isStraight s m args below meth c H locs 0 0 (MQ below (va_Qi Q (mB D y ad X A) A) args s 0 0 A) (F0 m 27 ls []) := by
  obtain ⟨hx, hb, hr, hml, hown, hts, hlk, hK, hA⟩ := id C
  induction n with
  | zero =>
    intro x1 x2 x3 x4 x5 σ hw
    exact (show False from hw).elim
  | succ n ih =>
    intro x1 x2 x3 x4 x5 σ hw H locs ls hO hl
    unfold w_isStraight_27 at hw
    refine lv_iload hx hb dX8_isStraight_27 (lv_at hl 5 rfl) ?_
    refine lv_iload_n hx hb dX8_isStraight_29 rfl (lv_at hl 2 rfl) ?_
    refine lv_icmp_gt (tgt := 53) hx hb dX8_isStraight_30 (by decide) (fun hc => ?_) (fun hc => ?_)
    · have hw := hw.1 hc
      exact k_isStraight_53 C hr11 x1 x2 x3 x4 σ hw H locs ls hO (lv_sub hl [0, 1, 2, 3, 4] rfl)
    · have hw := hw.2 hc
      refine lv_iload_n hx hb dX8_isStraight_33 rfl (lv_at hl 3 rfl) ?_
      refine lv_if_ne (tgt := 53) hx hb dX8_isStraight_34 (by decide) (fun hc => ?_) (fun hc => ?_)
      · have hw := hw.1 hc
        exact k_isStraight_53 C hr11 x1 x2 x3 x4 σ hw H locs ls hO (lv_sub hl [0, 1, 2, 3, 4] rfl)
      · have hw := hw.2 hc
        refine lv_aload_n hx hb dX8_isStraight_37 rfl (lv_at hl 0 rfl) ?_
        refine lv_iload_n hx hb dX8_isStraight_38 rfl (lv_at hl 1 rfl) ?_
        refine lv_iload hx hb dX8_isStraight_39 (lv_at hl 4 rfl) ?_
        refine lv_iload hx hb dX8_isStraight_41 (lv_at hl 5 rfl) ?_
        refine mx_civ C hO (c_findStraight l D y ad X σ x1 x4 x5 _ hw) (cwV 3 hts gX8_isStraight_X8_findStraight rfl rfl rfl (by decide +kernel) ⟨Nat.le_of_ble_eq_true rfl, Nat.le_of_ble_eq_true rfl⟩) rfl hl.1 rfl (lv_room (Nat.le_of_ble_eq_true rfl)) dX8_isStraight_43 (fun u101 σ102 H locs hw hO => ?_)
        refine lv_istore_n (lv' := [(3, .int u101), (0, .ref (ad 0)), (1, .int x1), (2, .int x2), (4, .int x4), (5, .int x5)]) hx hb dX8_isStraight_46 rfl hl (by decide) rfl (fun ls hl => ?_)
        obtain ⟨x5_103, ex5_103⟩ : ∃ y : Int32, y = x5 + 1 := ⟨_, rfl⟩
        have hw := hw x5_103 ex5_103
        refine lv_iinc (v := x5_103) (lv' := [(5, .int x5_103), (3, .int u101), (0, .ref (ad 0)), (1, .int x1), (2, .int x2), (4, .int x4)]) hx hb dX8_isStraight_47 hl (k := 5) rfl (by rw [ex5_103]; rfl) (by decide) rfl (fun ls hl => ?_)
        refine lv_goto (tgt := 27) hx hb dX8_isStraight_50 (by decide) ?_
        exact ih x1 x2 u101 x4 x5_103 σ102 hw H locs ls hO (lv_sub hl [2, 3, 4, 1, 5, 0] rfl)
set_option maxRecDepth 100000 in
set_option maxHeartbeats 4000000 in
theorem k_isStraight_144 {p : Program} {l : Launch} {e : Env} {s : State} {m : MethodId} {args : Array Value} {below : List Frame} {meth : Method} {c : Code} {D : va_G} {y : Nat → ClassId} {ad : Nat → Nat} {X : va_W} {A : Nat → Prop} {Q : Int32 → mS → Prop} (C : mC p s m args meth c cX8_isStraight 7 (some .boolean) wsX8_isStraight D y A) {r65 : Int32 → Int32 → Int32 → mS → Prop} (hr65 : ∀ (x1 : Int32) (x4 : Int32) (x5 : Int32) (σ : mS), r65 x1 x4 x5 σ → ∀ (H : Heap) (locs : List Loc) (ls : Array Slot), mO D y ad X A s.heap H locs σ → lv_has ls 7 [(0, .ref (ad 0)), (1, .int x1), (4, .int x4), (5, .int x5)] → W p l e rX8_isStraight s m args below meth c H locs 0 0 (MQ below (va_Qi Q (mB D y ad X A) A) args s 0 0 A) (F0 m 65 ls [])) (x1 : Int32) (x5 : Int32) (z0 : Int32) (σ : mS) (hw : w_isStraight_144 Q r65 x1 x5 z0 σ) (H : Heap) (locs : List Loc) (ls : Array Slot) (hO : mO D y ad X A s.heap H locs σ) (hl : lv_has ls 7 [(0, .ref (ad 0)), (1, .int x1), (5, .int x5)]) : W p l e rX8_isStraight s m args below meth c H locs 0 0 (MQ below (va_Qi Q (mB D y ad X A) A) args s 0 0 A) (F0 m 144 ls [.int z0]) := by
  obtain ⟨hx, hb, hr, hml, hown, hts, hlk, hK, hA⟩ := id C
  unfold w_isStraight_144 at hw
  refine lv_istore (lv' := [(4, .int z0), (0, .ref (ad 0)), (1, .int x1), (5, .int x5)]) hx hb dX8_isStraight_144 hl (by decide) rfl (fun ls hl => ?_)
  obtain ⟨x5_101, ex5_101⟩ : ∃ y : Int32, y = x5 + 1 := ⟨_, rfl⟩
  have hw := hw x5_101 ex5_101
  refine lv_iinc (v := x5_101) (lv' := [(5, .int x5_101), (4, .int z0), (0, .ref (ad 0)), (1, .int x1)]) hx hb dX8_isStraight_146 hl (k := 3) rfl (by rw [ex5_101]; rfl) (by decide) rfl (fun ls hl => ?_)
  refine lv_goto (tgt := 65) hx hb dX8_isStraight_149 (by decide) ?_
  exact hr65 x1 z0 x5_101 σ hw H locs ls hO (lv_sub hl [2, 3, 1, 0] rfl)
set_option maxRecDepth 100000 in
set_option maxHeartbeats 4000000 in
theorem k_isStraight_143 {p : Program} {l : Launch} {e : Env} {s : State} {m : MethodId} {args : Array Value} {below : List Frame} {meth : Method} {c : Code} {D : va_G} {y : Nat → ClassId} {ad : Nat → Nat} {X : va_W} {A : Nat → Prop} {Q : Int32 → mS → Prop} (C : mC p s m args meth c cX8_isStraight 7 (some .boolean) wsX8_isStraight D y A) {r65 : Int32 → Int32 → Int32 → mS → Prop} (hr65 : ∀ (x1 : Int32) (x4 : Int32) (x5 : Int32) (σ : mS), r65 x1 x4 x5 σ → ∀ (H : Heap) (locs : List Loc) (ls : Array Slot), mO D y ad X A s.heap H locs σ → lv_has ls 7 [(0, .ref (ad 0)), (1, .int x1), (4, .int x4), (5, .int x5)] → W p l e rX8_isStraight s m args below meth c H locs 0 0 (MQ below (va_Qi Q (mB D y ad X A) A) args s 0 0 A) (F0 m 65 ls [])) (x1 : Int32) (x5 : Int32) (σ : mS) (hw : w_isStraight_143 Q r65 x1 x5 σ) (H : Heap) (locs : List Loc) (ls : Array Slot) (hO : mO D y ad X A s.heap H locs σ) (hl : lv_has ls 7 [(0, .ref (ad 0)), (1, .int x1), (5, .int x5)]) : W p l e rX8_isStraight s m args below meth c H locs 0 0 (MQ below (va_Qi Q (mB D y ad X A) A) args s 0 0 A) (F0 m 143 ls []) := by
  obtain ⟨hx, hb, hr, hml, hown, hts, hlk, hK, hA⟩ := id C
  unfold w_isStraight_143 at hw
  refine lv_iconst (v := 0) hx hb dX8_isStraight_143 (by decide) ?_
  exact k_isStraight_144 C hr65 x1 x5 ((0 : Int32)) σ hw H locs ls hO (lv_sub hl [0, 1, 2] rfl)
set_option maxRecDepth 100000 in
set_option maxHeartbeats 4000000 in
theorem k_isStraight_65 {p : Program} {l : Launch} {e : Env} {s : State} {m : MethodId} {args : Array Value} {below : List Frame} {meth : Method} {c : Code} {D : va_G} {y : Nat → ClassId} {ad : Nat → Nat} {X : va_W} {A : Nat → Prop} {Q : Int32 → mS → Prop} (C : mC p s m args meth c cX8_isStraight 7 (some .boolean) wsX8_isStraight D y A) (n : Nat) : ∀ (x1 : Int32) (x4 : Int32) (x5 : Int32) (σ : mS), w_isStraight_65 Q n x1 x4 x5 σ → ∀ (H : Heap) (locs : List Loc) (ls : Array Slot), mO D y ad X A s.heap H locs σ → lv_has ls 7 [(0, .ref (ad 0)), (1, .int x1), (4, .int x4), (5, .int x5)] → W p l e rX8_isStraight s m args below meth c H locs 0 0 (MQ below (va_Qi Q (mB D y ad X A) A) args s 0 0 A) (F0 m 65 ls []) := by
  obtain ⟨hx, hb, hr, hml, hown, hts, hlk, hK, hA⟩ := id C
  have hin : ∀ w ∈ wsX80, w ∈ wsX8_isStraight := fun _ h => List.mem_cons_of_mem _ (List.mem_append_right _ h)
  induction n with
  | zero =>
    intro x1 x4 x5 σ hw
    exact (show False from hw).elim
  | succ n ih =>
    intro x1 x4 x5 σ hw H locs ls hO hl
    unfold w_isStraight_65 at hw
    refine lv_iload hx hb dX8_isStraight_65 (lv_at hl 3 rfl) ?_
    refine lv_iconst (v := 4) hx hb dX8_isStraight_67 (by decide) ?_
    refine lv_icmp_ge (tgt := 152) hx hb dX8_isStraight_68 (by decide) (fun hc => ?_) (fun hc => ?_)
    · have hw := hw.1 hc
      refine lv_iload hx hb dX8_isStraight_152 (lv_at hl 2 rfl) ?_
      exact mx_zret C hO hw.1 hw.2 dX8_isStraight_154
    · have hw := hw.2 hc
      refine lv_bipush (v := 12) hx hb dX8_isStraight_71 (by decide) ?_
      refine lv_iload_n hx hb dX8_isStraight_73 rfl (lv_at hl 1 rfl) ?_
      refine lv_imul hx hb dX8_isStraight_74 ?_
      refine lv_iload hx hb dX8_isStraight_75 (lv_at hl 3 rfl) ?_
      refine lv_iadd hx hb dX8_isStraight_77 ?_
      refine lv_topi (fun x6_101 ex6_101 => ?_)
      have hw := hw x6_101 ex6_101
      refine lv_istore (lv' := [(6, .int x6_101), (0, .ref (ad 0)), (1, .int x1), (4, .int x4), (5, .int x5)]) hx hb dX8_isStraight_78 hl (by decide) rfl (fun ls hl => ?_)
      refine lv_iload hx hb dX8_isStraight_80 (lv_at hl 3 rfl) ?_
      refine lv_if_eq (tgt := 143) hx hb dX8_isStraight_82 (by decide) (fun hc => ?_) (fun hc => ?_)
      · have hw := hw.1 hc
        exact k_isStraight_143 C (fun x1 x4 x5 σ hw H locs ls hO hl => ih x1 x4 x5 σ hw H locs ls hO hl) x1 x5 σ hw H locs ls hO (lv_sub hl [1, 2, 4] rfl)
      · have hw := hw.2 hc
        refine lv_aload_n hx hb dX8_isStraight_85 rfl (lv_at hl 1 rfl) ?_
        refine mx_get C hO hin 5 (by decide) (idx := 26) (by decide +kernel) rfl rfl dX8_isStraight_86 ?_
        refine lv_iconst (v := 0) hx hb dX8_isStraight_89 (by decide) ?_
        refine mx_lald C hO (a := 6) rfl hw.1 dX8_isStraight_90 ?_
        have hw := hw.2
        refine lv_aload_n hx hb dX8_isStraight_91 rfl (lv_at hl 1 rfl) ?_
        refine mx_get C hO hin 1 (by decide) (idx := 13) (by decide +kernel) rfl rfl dX8_isStraight_92 ?_
        refine lv_iload hx hb dX8_isStraight_95 (lv_at hl 0 rfl) ?_
        refine mx_lald C hO (a := 2) rfl hw.1 dX8_isStraight_97 ?_
        have hw := hw.2
        refine lv_lmul hx hb dX8_isStraight_98 ?_
        refine lv_aload_n hx hb dX8_isStraight_99 rfl (lv_at hl 1 rfl) ?_
        refine mx_get C hO hin 5 (by decide) (idx := 26) (by decide +kernel) rfl rfl dX8_isStraight_100 ?_
        refine lv_iconst (v := 1) hx hb dX8_isStraight_103 (by decide) ?_
        refine mx_lald C hO (a := 6) rfl hw.1 dX8_isStraight_104 ?_
        have hw := hw.2
        refine lv_aload_n hx hb dX8_isStraight_105 rfl (lv_at hl 1 rfl) ?_
        refine mx_get C hO hin 1 (by decide) (idx := 13) (by decide +kernel) rfl rfl dX8_isStraight_106 ?_
        refine lv_iload hx hb dX8_isStraight_109 (lv_at hl 0 rfl) ?_
        refine lv_iconst (v := 4) hx hb dX8_isStraight_111 (by decide) ?_
        refine lv_iadd hx hb dX8_isStraight_112 ?_
        refine mx_lald C hO (a := 2) rfl hw.1 dX8_isStraight_113 ?_
        have hw := hw.2
        refine lv_lmul hx hb dX8_isStraight_114 ?_
        refine lv_ladd hx hb dX8_isStraight_115 ?_
        refine lv_aload_n hx hb dX8_isStraight_116 rfl (lv_at hl 1 rfl) ?_
        refine mx_get C hO hin 5 (by decide) (idx := 26) (by decide +kernel) rfl rfl dX8_isStraight_117 ?_
        refine lv_iconst (v := 2) hx hb dX8_isStraight_120 (by decide) ?_
        refine mx_lald C hO (a := 6) rfl hw.1 dX8_isStraight_121 ?_
        have hw := hw.2
        refine lv_aload_n hx hb dX8_isStraight_122 rfl (lv_at hl 1 rfl) ?_
        refine mx_get C hO hin 1 (by decide) (idx := 13) (by decide +kernel) rfl rfl dX8_isStraight_123 ?_
        refine lv_iload hx hb dX8_isStraight_126 (lv_at hl 0 rfl) ?_
        refine lv_bipush (v := 8) hx hb dX8_isStraight_128 (by decide) ?_
        refine lv_iadd hx hb dX8_isStraight_130 ?_
        refine mx_lald C hO (a := 2) rfl hw.1 dX8_isStraight_131 ?_
        have hw := hw.2
        refine lv_lmul hx hb dX8_isStraight_132 ?_
        refine lv_ladd hx hb dX8_isStraight_133 ?_
        refine lv_lconst (v := 0) hx hb dX8_isStraight_134 (by decide) ?_
        refine W.lcmp hx hb dX8_isStraight_135 ?_
        refine lv_if_ne (tgt := 143) hx hb dX8_isStraight_136 (by decide) (fun hc => ?_) (fun hc => ?_)
        · have hc := (not_congr (lg_cmp_eq _ _)).mp hc
          have hw := hw.1 hc
          exact k_isStraight_143 C (fun x1 x4 x5 σ hw H locs ls hO hl => ih x1 x4 x5 σ hw H locs ls hO hl) x1 x5 σ hw H locs ls hO (lv_sub hl [1, 2, 4] rfl)
        · have hc := (lg_cmp_eq _ _).mp hc
          have hw := hw.2 hc
          refine lv_iconst (v := 1) hx hb dX8_isStraight_139 (by decide) ?_
          refine lv_goto (tgt := 144) hx hb dX8_isStraight_140 (by decide) ?_
          exact k_isStraight_144 C (fun x1 x4 x5 σ hw H locs ls hO hl => ih x1 x4 x5 σ hw H locs ls hO hl) x1 x5 ((1 : Int32)) σ hw H locs ls hO (lv_sub hl [1, 2, 4] rfl)
set_option maxRecDepth 100000 in
set_option maxHeartbeats 4000000 in
theorem k_isStraight_59 {p : Program} {l : Launch} {e : Env} {s : State} {m : MethodId} {args : Array Value} {below : List Frame} {meth : Method} {c : Code} {D : va_G} {y : Nat → ClassId} {ad : Nat → Nat} {X : va_W} {A : Nat → Prop} {Q : Int32 → mS → Prop} (C : mC p s m args meth c cX8_isStraight 7 (some .boolean) wsX8_isStraight D y A) (x1 : Int32) (x3 : Int32) (σ : mS) (hw : w_isStraight_59 Q x1 x3 σ) (H : Heap) (locs : List Loc) (ls : Array Slot) (hO : mO D y ad X A s.heap H locs σ) (hl : lv_has ls 7 [(0, .ref (ad 0)), (1, .int x1), (3, .int x3)]) : W p l e rX8_isStraight s m args below meth c H locs 0 0 (MQ below (va_Qi Q (mB D y ad X A) A) args s 0 0 A) (F0 m 59 ls []) := by
  obtain ⟨hx, hb, hr, hml, hown, hts, hlk, hK, hA⟩ := id C
  unfold w_isStraight_59 at hw
  refine lv_iload_n hx hb dX8_isStraight_59 rfl (lv_at hl 2 rfl) ?_
  refine lv_istore (lv' := [(4, .int x3), (0, .ref (ad 0)), (1, .int x1), (3, .int x3)]) hx hb dX8_isStraight_60 hl (by decide) rfl (fun ls hl => ?_)
  refine lv_iconst (v := 0) hx hb dX8_isStraight_62 (by decide) ?_
  refine lv_istore (lv' := [(5, .int ((0 : Int32))), (4, .int x3), (0, .ref (ad 0)), (1, .int x1), (3, .int x3)]) hx hb dX8_isStraight_63 hl (by decide) rfl (fun ls hl => ?_)
  exact k_isStraight_65 C fuL x1 x3 ((0 : Int32)) σ hw H locs ls hO (lv_sub hl [2, 3, 1, 0] rfl)
set_option maxRecDepth 100000 in
set_option maxHeartbeats 4000000 in
theorem k_isStraight_11 {p : Program} {l : Launch} {e : Env} {s : State} {m : MethodId} {args : Array Value} {below : List Frame} {meth : Method} {c : Code} {D : va_G} {y : Nat → ClassId} {ad : Nat → Nat} {X : va_W} {A : Nat → Prop} {Q : Int32 → mS → Prop} (C : mC p s m args meth c cX8_isStraight 7 (some .boolean) wsX8_isStraight D y A) (n : Nat) : ∀ (x1 : Int32) (x2 : Int32) (x3 : Int32) (x4 : Int32) (σ : mS), w_isStraight_11 Q n x1 x2 x3 x4 σ → ∀ (H : Heap) (locs : List Loc) (ls : Array Slot), mO D y ad X A s.heap H locs σ → lv_has ls 7 [(0, .ref (ad 0)), (1, .int x1), (2, .int x2), (3, .int x3), (4, .int x4)] → W p l e rX8_isStraight s m args below meth c H locs 0 0 (MQ below (va_Qi Q (mB D y ad X A) A) args s 0 0 A) (F0 m 11 ls []) := by
  obtain ⟨hx, hb, hr, hml, hown, hts, hlk, hK, hA⟩ := id C
  induction n with
  | zero =>
    intro x1 x2 x3 x4 σ hw
    exact (show False from hw).elim
  | succ n ih =>
    intro x1 x2 x3 x4 σ hw H locs ls hO hl
    unfold w_isStraight_11 at hw
    refine lv_iload hx hb dX8_isStraight_11 (lv_at hl 4 rfl) ?_
    refine lv_iload_n hx hb dX8_isStraight_13 rfl (lv_at hl 2 rfl) ?_
    refine lv_icmp_ge (tgt := 59) hx hb dX8_isStraight_14 (by decide) (fun hc => ?_) (fun hc => ?_)
    · have hw := hw.1 hc
      exact k_isStraight_59 C x1 x3 σ hw H locs ls hO (lv_sub hl [0, 1, 3] rfl)
    · have hw := hw.2 hc
      refine lv_iload_n hx hb dX8_isStraight_17 rfl (lv_at hl 3 rfl) ?_
      refine lv_if_ne (tgt := 59) hx hb dX8_isStraight_18 (by decide) (fun hc => ?_) (fun hc => ?_)
      · have hw := hw.1 hc
        exact k_isStraight_59 C x1 x3 σ hw H locs ls hO (lv_sub hl [0, 1, 3] rfl)
      · have hw := hw.2 hc
        refine lv_iload hx hb dX8_isStraight_21 (lv_at hl 4 rfl) ?_
        refine lv_iconst (v := 1) hx hb dX8_isStraight_23 (by decide) ?_
        refine lv_iadd hx hb dX8_isStraight_24 ?_
        refine lv_topi (fun x5_101 ex5_101 => ?_)
        have hw := hw x5_101 ex5_101
        refine lv_istore (lv' := [(5, .int x5_101), (0, .ref (ad 0)), (1, .int x1), (2, .int x2), (3, .int x3), (4, .int x4)]) hx hb dX8_isStraight_25 hl (by decide) rfl (fun ls hl => ?_)
        exact k_isStraight_27 C (fun x1 x2 x3 x4 σ hw H locs ls hO hl => ih x1 x2 x3 x4 σ hw H locs ls hO hl) fuL x1 x2 x3 x4 x5_101 σ hw H locs ls hO (lv_sub hl [1, 2, 3, 4, 5, 0] rfl)
set_option maxRecDepth 100000 in
set_option maxHeartbeats 4000000 in
theorem k_isStraight_e {p : Program} {l : Launch} {e : Env} {s : State} {m : MethodId} {args : Array Value} {below : List Frame} {meth : Method} {c : Code} {D : va_G} {y : Nat → ClassId} {ad : Nat → Nat} {X : va_W} {A : Nat → Prop} {Q : Int32 → mS → Prop} (C : mC p s m args meth c cX8_isStraight 7 (some .boolean) wsX8_isStraight D y A) (x1 : Int32) (σ : mS) (hw : w_isStraight Q x1 σ) (H : Heap) (locs : List Loc) (ls : Array Slot) (hO : mO D y ad X A s.heap H locs σ) (hl : lv_has ls 7 [(0, .ref (ad 0)), (1, .int x1)]) : W p l e rX8_isStraight s m args below meth c H locs 0 0 (MQ below (va_Qi Q (mB D y ad X A) A) args s 0 0 A) (F0 m 0 ls []) := by
  obtain ⟨hx, hb, hr, hml, hown, hts, hlk, hK, hA⟩ := id C
  unfold w_isStraight at hw
  refine lv_aload_n hx hb dX8_isStraight_0 rfl (lv_at hl 0 rfl) ?_
  refine lv_iload_n hx hb dX8_isStraight_1 rfl (lv_at hl 1 rfl) ?_
  refine mx_civ C hO (c_degreeOf l D y ad X σ x1 _ hw) (cwV 1 hts gX8_isStraight_X8_degreeOf rfl rfl rfl (by decide +kernel) ⟨Nat.le_of_ble_eq_true rfl, Nat.le_of_ble_eq_true rfl⟩) rfl hl.1 rfl (lv_room (Nat.le_of_ble_eq_true rfl)) dX8_isStraight_2 (fun u101 σ102 H locs hw hO => ?_)
  refine lv_istore_n (lv' := [(2, .int u101), (0, .ref (ad 0)), (1, .int x1)]) hx hb dX8_isStraight_5 rfl hl (by decide) rfl (fun ls hl => ?_)
  refine lv_iconst (v := 0) hx hb dX8_isStraight_6 (by decide) ?_
  refine lv_istore_n (lv' := [(3, .int ((0 : Int32))), (2, .int u101), (0, .ref (ad 0)), (1, .int x1)]) hx hb dX8_isStraight_7 rfl hl (by decide) rfl (fun ls hl => ?_)
  refine lv_iconst (v := 0) hx hb dX8_isStraight_8 (by decide) ?_
  refine lv_istore (lv' := [(4, .int ((0 : Int32))), (3, .int ((0 : Int32))), (2, .int u101), (0, .ref (ad 0)), (1, .int x1)]) hx hb dX8_isStraight_9 hl (by decide) rfl (fun ls hl => ?_)
  exact k_isStraight_11 C fuL x1 u101 ((0 : Int32)) ((0 : Int32)) σ102 hw H locs ls hO (lv_sub hl [3, 4, 2, 1, 0] rfl)
theorem c_isStraight (l : Launch) (D : va_G) (y : Nat → ClassId) (ad : Nat → Nat) (X : va_W) (σ : mS) (x1 : Int32) (Q : Int32 → mS → Prop) (hw : w_isStraight Q x1 σ) : ∀ sz, Met l yX8_isStraight wsX8_isStraight rX8_isStraight (va_Pc [.ref (ad 0), .int x1] (mPre D y ad X sz σ)) (va_Qi Q (mB D y ad X (va_A (mW y ad σ ++ X) sz)) (va_A (mW y ad σ ++ X) sz)) 0 0 (va_A (mW y ad σ ++ X) sz) :=
  mMet (Qc := fun A => va_Qi Q (mB D y ad X A) A) rfl (Nat.le_of_ble_eq_true rfl) (fun p e s m args below meth c A ls C hO hl => k_isStraight_e C x1 σ hw s.heap [] ls hO hl)
abbrev rX8_kindOf : Room := { frames := 3, cells := 0, slots := 0, locals := 82 }
set_option maxRecDepth 100000 in
set_option maxHeartbeats 4000000 in
theorem k_kindOf_27 {p : Program} {l : Launch} {e : Env} {s : State} {m : MethodId} {args : Array Value} {below : List Frame} {meth : Method} {c : Code} {D : va_G} {y : Nat → ClassId} {ad : Nat → Nat} {X : va_W} {A : Nat → Prop} {Q : Int32 → mS → Prop} (C : mC p s m args meth c cX8_kindOf 3 (some .int) wsX8_kindOf D y A) (z0 : Int32) (σ : mS) (hw : w_kindOf_27 Q z0 σ) (H : Heap) (locs : List Loc) (ls : Array Slot) (hO : mO D y ad X A s.heap H locs σ) (hl : lv_has ls 3 [(0, .ref (ad 0))]) : W p l e rX8_kindOf s m args below meth c H locs 0 0 (MQ below (va_Qi Q (mB D y ad X A) A) args s 0 0 A) (F0 m 27 ls [.int z0]) := by
  obtain ⟨hx, hb, hr, hml, hown, hts, hlk, hK, hA⟩ := id C
  unfold w_kindOf_27 at hw
  exact mx_iret C hO hw dX8_kindOf_27
set_option maxRecDepth 100000 in
set_option maxHeartbeats 4000000 in
theorem k_kindOf_e {p : Program} {l : Launch} {e : Env} {s : State} {m : MethodId} {args : Array Value} {below : List Frame} {meth : Method} {c : Code} {D : va_G} {y : Nat → ClassId} {ad : Nat → Nat} {X : va_W} {A : Nat → Prop} {Q : Int32 → mS → Prop} (C : mC p s m args meth c cX8_kindOf 3 (some .int) wsX8_kindOf D y A) (x1 : Int32) (σ : mS) (hw : w_kindOf Q x1 σ) (H : Heap) (locs : List Loc) (ls : Array Slot) (hO : mO D y ad X A s.heap H locs σ) (hl : lv_has ls 3 [(0, .ref (ad 0)), (1, .int x1)]) : W p l e rX8_kindOf s m args below meth c H locs 0 0 (MQ below (va_Qi Q (mB D y ad X A) A) args s 0 0 A) (F0 m 0 ls []) := by
  obtain ⟨hx, hb, hr, hml, hown, hts, hlk, hK, hA⟩ := id C
  unfold w_kindOf at hw
  refine lv_aload_n hx hb dX8_kindOf_0 rfl (lv_at hl 0 rfl) ?_
  refine lv_iload_n hx hb dX8_kindOf_1 rfl (lv_at hl 1 rfl) ?_
  refine mx_civ C hO (c_degreeOf l D y ad X σ x1 _ hw) (cwV 1 hts gX8_kindOf_X8_degreeOf rfl rfl rfl (by decide +kernel) ⟨Nat.le_of_ble_eq_true rfl, Nat.le_of_ble_eq_true rfl⟩) rfl hl.1 rfl (lv_room (Nat.le_of_ble_eq_true rfl)) dX8_kindOf_2 (fun u101 σ102 H locs hw hO => ?_)
  refine lv_istore_n (lv' := [(2, .int u101), (0, .ref (ad 0)), (1, .int x1)]) hx hb dX8_kindOf_5 rfl hl (by decide) rfl (fun ls hl => ?_)
  refine lv_iload_n hx hb dX8_kindOf_6 rfl (lv_at hl 0 rfl) ?_
  refine lv_if_ne (tgt := 14) hx hb dX8_kindOf_7 (by decide) (fun hc => ?_) (fun hc => ?_)
  · have hw := hw.1 hc
    refine lv_aload_n hx hb dX8_kindOf_14 rfl (lv_at hl 1 rfl) ?_
    refine lv_iload_n hx hb dX8_kindOf_15 rfl (lv_at hl 2 rfl) ?_
    refine mx_civ C hO (c_isStraight l D y ad X σ102 x1 _ hw) (cwV 1 hts gX8_kindOf_X8_isStraight rfl rfl rfl (by decide +kernel) ⟨Nat.le_of_ble_eq_true rfl, Nat.le_of_ble_eq_true rfl⟩) rfl hl.1 rfl (lv_room (Nat.le_of_ble_eq_true rfl)) dX8_kindOf_16 (fun u103 σ104 H locs hw hO => ?_)
    refine lv_if_eq (tgt := 26) hx hb dX8_kindOf_19 (by decide) (fun hc => ?_) (fun hc => ?_)
    · have hw := hw.1 hc
      refine lv_iload_n hx hb dX8_kindOf_26 rfl (lv_at hl 0 rfl) ?_
      exact k_kindOf_27 C u101 σ104 hw H locs ls hO (lv_sub hl [1] rfl)
    · have hw := hw.2 hc
      refine lv_iconst (v := 1) hx hb dX8_kindOf_22 (by decide) ?_
      refine lv_goto (tgt := 27) hx hb dX8_kindOf_23 (by decide) ?_
      exact k_kindOf_27 C ((1 : Int32)) σ104 hw H locs ls hO (lv_sub hl [1] rfl)
  · have hw := hw.2 hc
    refine lv_iconst (v := 0) hx hb dX8_kindOf_10 (by decide) ?_
    refine lv_goto (tgt := 27) hx hb dX8_kindOf_11 (by decide) ?_
    exact k_kindOf_27 C ((0 : Int32)) σ102 hw H locs ls hO (lv_sub hl [1] rfl)
theorem c_kindOf (l : Launch) (D : va_G) (y : Nat → ClassId) (ad : Nat → Nat) (X : va_W) (σ : mS) (x1 : Int32) (Q : Int32 → mS → Prop) (hw : w_kindOf Q x1 σ) : ∀ sz, Met l yX8_kindOf wsX8_kindOf rX8_kindOf (va_Pc [.ref (ad 0), .int x1] (mPre D y ad X sz σ)) (va_Qi Q (mB D y ad X (va_A (mW y ad σ ++ X) sz)) (va_A (mW y ad σ ++ X) sz)) 0 0 (va_A (mW y ad σ ++ X) sz) :=
  mMet (Qc := fun A => va_Qi Q (mB D y ad X A) A) rfl (Nat.le_of_ble_eq_true rfl) (fun p e s m args below meth c A ls C hO hl => k_kindOf_e C x1 σ hw s.heap [] ls hO hl)
abbrev rX8_keep : Room := { frames := 4, cells := 0, slots := 0, locals := 104 }
set_option maxRecDepth 100000 in
set_option maxHeartbeats 4000000 in
theorem k_keep_205 {p : Program} {l : Launch} {e : Env} {s : State} {m : MethodId} {args : Array Value} {below : List Frame} {meth : Method} {c : Code} {D : va_G} {y : Nat → ClassId} {ad : Nat → Nat} {X : va_W} {A : Nat → Prop} {Q : Int32 → mS → Prop} (C : mC p s m args meth c cX8_keep 5 (some .int) wsX8_keep D y A) (n : Nat) : ∀ (x1 : Int32) (x4 : Int32) (σ : mS), w_keep_205 Q n x1 x4 σ → ∀ (H : Heap) (locs : List Loc) (ls : Array Slot), mO D y ad X A s.heap H locs σ → lv_has ls 5 [(0, .ref (ad 0)), (1, .int x1), (4, .int x4)] → W p l e rX8_keep s m args below meth c H locs 0 0 (MQ below (va_Qi Q (mB D y ad X A) A) args s 0 0 A) (F0 m 205 ls []) := by
  obtain ⟨hx, hb, hr, hml, hown, hts, hlk, hK, hA⟩ := id C
  have hin : ∀ w ∈ wsX80, w ∈ wsX8_keep := fun _ h => List.mem_cons_of_mem _ (List.mem_append_right _ h)
  induction n with
  | zero =>
    intro x1 x4 σ hw
    exact (show False from hw).elim
  | succ n ih =>
    intro x1 x4 σ hw H locs ls hO hl
    unfold w_keep_205 at hw
    refine lv_iload hx hb dX8_keep_205 (lv_at hl 2 rfl) ?_
    refine lv_bipush (v := 12) hx hb dX8_keep_207 (by decide) ?_
    refine lv_icmp_ge (tgt := 237) hx hb dX8_keep_209 (by decide) (fun hc => ?_) (fun hc => ?_)
    · have hw := hw.1 hc
      refine lv_aload_n hx hb dX8_keep_237 rfl (lv_at hl 0 rfl) ?_
      refine mx_get C hO hin 0 (by decide) (idx := 7) (by decide +kernel) rfl rfl dX8_keep_238 ?_
      refine lv_iload_n hx hb dX8_keep_241 rfl (lv_at hl 1 rfl) ?_
      refine lv_iconst (v := 1) hx hb dX8_keep_242 (by decide) ?_
      refine mx_zast C hO hw.1 dX8_keep_243 (fun H locs σ101 eσ101 hO => ?_)
      have hw := hw.2 σ101 eσ101
      refine lv_aload_n hx hb dX8_keep_244 rfl (lv_at hl 0 rfl) ?_
      refine lv_iload_n hx hb dX8_keep_245 rfl (lv_at hl 1 rfl) ?_
      refine mx_civ C hO (c_kindOf l D y ad X σ101 x1 _ hw) (cwV 1 hts gX8_keep_X8_kindOf rfl rfl rfl (by decide +kernel) ⟨Nat.le_of_ble_eq_true rfl, Nat.le_of_ble_eq_true rfl⟩) rfl hl.1 rfl (lv_room (Nat.le_of_ble_eq_true rfl)) dX8_keep_246 (fun u102 σ103 H locs hw hO => ?_)
      exact mx_iret C hO hw dX8_keep_249
    · have hw := hw.2 hc
      refine lv_aload_n hx hb dX8_keep_212 rfl (lv_at hl 0 rfl) ?_
      refine mx_get C hO hin 1 (by decide) (idx := 13) (by decide +kernel) rfl rfl dX8_keep_213 ?_
      refine lv_bipush (v := 12) hx hb dX8_keep_216 (by decide) ?_
      refine lv_iload_n hx hb dX8_keep_218 rfl (lv_at hl 1 rfl) ?_
      refine lv_imul hx hb dX8_keep_219 ?_
      refine lv_iload hx hb dX8_keep_220 (lv_at hl 2 rfl) ?_
      refine lv_iadd hx hb dX8_keep_222 ?_
      refine lv_aload_n hx hb dX8_keep_223 rfl (lv_at hl 0 rfl) ?_
      refine mx_get C hO hin 2 (by decide) (idx := 17) (by decide +kernel) rfl rfl dX8_keep_224 ?_
      refine lv_iload hx hb dX8_keep_227 (lv_at hl 2 rfl) ?_
      refine mx_lald C hO (a := 3) rfl hw.1 dX8_keep_229 ?_
      have hw := hw.2
      refine mx_last C hO (a := 2) rfl hw.1 dX8_keep_230 (fun H locs σ104 eσ104 hO => ?_)
      have hw := hw.2 σ104 eσ104
      obtain ⟨x4_105, ex4_105⟩ : ∃ y : Int32, y = x4 + 1 := ⟨_, rfl⟩
      have hw := hw x4_105 ex4_105
      refine lv_iinc (v := x4_105) (lv' := [(4, .int x4_105), (0, .ref (ad 0)), (1, .int x1)]) hx hb dX8_keep_231 hl (k := 2) rfl (by rw [ex4_105]; rfl) (by decide) rfl (fun ls hl => ?_)
      refine lv_goto (tgt := 205) hx hb dX8_keep_234 (by decide) ?_
      exact ih x1 x4_105 σ104 hw H locs ls hO (lv_sub hl [1, 2, 0] rfl)
set_option maxRecDepth 100000 in
set_option maxHeartbeats 4000000 in
theorem k_keep_156 {p : Program} {l : Launch} {e : Env} {s : State} {m : MethodId} {args : Array Value} {below : List Frame} {meth : Method} {c : Code} {D : va_G} {y : Nat → ClassId} {ad : Nat → Nat} {X : va_W} {A : Nat → Prop} {Q : Int32 → mS → Prop} (C : mC p s m args meth c cX8_keep 5 (some .int) wsX8_keep D y A) (n : Nat) : ∀ (x1 : Int32) (x2 : Int64) (x4 : Int32) (σ : mS), w_keep_156 Q n x1 x2 x4 σ → ∀ (H : Heap) (locs : List Loc) (ls : Array Slot), mO D y ad X A s.heap H locs σ → lv_has ls 5 [(0, .ref (ad 0)), (1, .int x1), (2, .long x2), (4, .int x4)] → W p l e rX8_keep s m args below meth c H locs 0 0 (MQ below (va_Qi Q (mB D y ad X A) A) args s 0 0 A) (F0 m 156 ls []) := by
  obtain ⟨hx, hb, hr, hml, hown, hts, hlk, hK, hA⟩ := id C
  have hin : ∀ w ∈ wsX80, w ∈ wsX8_keep := fun _ h => List.mem_cons_of_mem _ (List.mem_append_right _ h)
  induction n with
  | zero =>
    intro x1 x2 x4 σ hw
    exact (show False from hw).elim
  | succ n ih =>
    intro x1 x2 x4 σ hw H locs ls hO hl
    unfold w_keep_156 at hw
    refine lv_iload hx hb dX8_keep_156 (lv_at hl 3 rfl) ?_
    refine lv_bipush (v := 12) hx hb dX8_keep_158 (by decide) ?_
    refine lv_icmp_ge (tgt := 202) hx hb dX8_keep_160 (by decide) (fun hc => ?_) (fun hc => ?_)
    · have hw := hw.1 hc
      refine lv_iconst (v := 0) hx hb dX8_keep_202 (by decide) ?_
      refine lv_istore (lv' := [(4, .int ((0 : Int32))), (0, .ref (ad 0)), (1, .int x1), (2, .long x2)]) hx hb dX8_keep_203 hl (by decide) rfl (fun ls hl => ?_)
      exact k_keep_205 C fuL x1 ((0 : Int32)) σ hw H locs ls hO (lv_sub hl [1, 2, 0] rfl)
    · have hw := hw.2 hc
      refine lv_aload_n hx hb dX8_keep_163 rfl (lv_at hl 0 rfl) ?_
      refine mx_get C hO hin 2 (by decide) (idx := 17) (by decide +kernel) rfl rfl dX8_keep_164 ?_
      refine lv_iload hx hb dX8_keep_167 (lv_at hl 3 rfl) ?_
      refine lv_dup2_11 hx hb dX8_keep_169 rfl rfl ?_
      refine mx_lald C hO (a := 3) rfl hw.1 dX8_keep_170 ?_
      have hw := hw.2
      refine lv_lload_n hx hb dX8_keep_171 rfl (lv_at hl 2 rfl) ?_
      refine lv_ldiv hx hb dX8_keep_172 hw.1 ?_
      have hw := hw.2
      refine mx_last C hO (a := 3) rfl hw.1 dX8_keep_173 (fun H locs σ101 eσ101 hO => ?_)
      have hw := hw.2 σ101 eσ101
      refine lv_aload_n hx hb dX8_keep_174 rfl (lv_at hl 0 rfl) ?_
      refine mx_get C hO hin 2 (by decide) (idx := 17) (by decide +kernel) rfl rfl dX8_keep_175 ?_
      refine lv_iload hx hb dX8_keep_178 (lv_at hl 3 rfl) ?_
      refine mx_lald C hO (a := 3) rfl hw.1 dX8_keep_180 ?_
      have hw := hw.2
      refine lv_ldc2 (v := -9) hx hb hown (hts (.constantLong RX8 99 (-9)) (by decide +kernel)) dX8_keep_181 ?_
      refine lv_ldc2 (v := 9) hx hb hown (hts (.constantLong RX8 101 (9)) (by decide +kernel)) dX8_keep_184 ?_
      refine mx_cis C hO (c_in l D y ad X σ101 (σ101.1 3 (x4).toNatClampNeg) ((-9 : Int64)) ((9 : Int64)) _ hw) (va_cwS 3 hts gX8_keep_X8_in rfl rfl rfl (by decide +kernel) ⟨Nat.le_of_ble_eq_true rfl, Nat.le_of_ble_eq_true rfl⟩) rfl hl.1 rfl (lv_room (Nat.le_of_ble_eq_true rfl)) dX8_keep_187 (fun u102 σ103 H locs hw hO => ?_)
      refine lv_if_ne (tgt := 196) hx hb dX8_keep_190 (by decide) (fun hc => ?_) (fun hc => ?_)
      · have hw := hw.1 hc
        obtain ⟨x4_104, ex4_104⟩ : ∃ y : Int32, y = x4 + 1 := ⟨_, rfl⟩
        have hw := hw x4_104 ex4_104
        refine lv_iinc (v := x4_104) (lv' := [(4, .int x4_104), (0, .ref (ad 0)), (1, .int x1), (2, .long x2)]) hx hb dX8_keep_196 hl (k := 3) rfl (by rw [ex4_104]; rfl) (by decide) rfl (fun ls hl => ?_)
        refine lv_goto (tgt := 156) hx hb dX8_keep_199 (by decide) ?_
        exact ih x1 x2 x4_104 σ103 hw H locs ls hO (lv_sub hl [1, 2, 3, 0] rfl)
      · have hw := hw.2 hc
        refine lv_bipush (v := -2) hx hb dX8_keep_193 (by decide) ?_
        exact mx_iret C hO hw dX8_keep_195
set_option maxRecDepth 100000 in
set_option maxHeartbeats 4000000 in
theorem k_keep_152 {p : Program} {l : Launch} {e : Env} {s : State} {m : MethodId} {args : Array Value} {below : List Frame} {meth : Method} {c : Code} {D : va_G} {y : Nat → ClassId} {ad : Nat → Nat} {X : va_W} {A : Nat → Prop} {Q : Int32 → mS → Prop} (C : mC p s m args meth c cX8_keep 5 (some .int) wsX8_keep D y A) (x1 : Int32) (z0 : Int64) (σ : mS) (hw : w_keep_152 Q x1 z0 σ) (H : Heap) (locs : List Loc) (ls : Array Slot) (hO : mO D y ad X A s.heap H locs σ) (hl : lv_has ls 5 [(0, .ref (ad 0)), (1, .int x1)]) : W p l e rX8_keep s m args below meth c H locs 0 0 (MQ below (va_Qi Q (mB D y ad X A) A) args s 0 0 A) (F0 m 152 ls [.long z0]) := by
  obtain ⟨hx, hb, hr, hml, hown, hts, hlk, hK, hA⟩ := id C
  unfold w_keep_152 at hw
  refine lv_lstore_n (lv' := [(2, .long z0), (0, .ref (ad 0)), (1, .int x1)]) hx hb dX8_keep_152 rfl hl (by decide) rfl (fun ls hl => ?_)
  refine lv_iconst (v := 0) hx hb dX8_keep_153 (by decide) ?_
  refine lv_istore (lv' := [(4, .int ((0 : Int32))), (2, .long z0), (0, .ref (ad 0)), (1, .int x1)]) hx hb dX8_keep_154 hl (by decide) rfl (fun ls hl => ?_)
  exact k_keep_156 C fuL x1 z0 ((0 : Int32)) σ hw H locs ls hO (lv_sub hl [2, 3, 1, 0] rfl)
set_option maxRecDepth 100000 in
set_option maxHeartbeats 4000000 in
theorem k_keep_99 {p : Program} {l : Launch} {e : Env} {s : State} {m : MethodId} {args : Array Value} {below : List Frame} {meth : Method} {c : Code} {D : va_G} {y : Nat → ClassId} {ad : Nat → Nat} {X : va_W} {A : Nat → Prop} {Q : Int32 → mS → Prop} (C : mC p s m args meth c cX8_keep 5 (some .int) wsX8_keep D y A) (n : Nat) : ∀ (x1 : Int32) (x2 : Int64) (x4 : Int32) (σ : mS), w_keep_99 Q n x1 x2 x4 σ → ∀ (H : Heap) (locs : List Loc) (ls : Array Slot), mO D y ad X A s.heap H locs σ → lv_has ls 5 [(0, .ref (ad 0)), (1, .int x1), (2, .long x2), (4, .int x4)] → W p l e rX8_keep s m args below meth c H locs 0 0 (MQ below (va_Qi Q (mB D y ad X A) A) args s 0 0 A) (F0 m 99 ls []) := by
  obtain ⟨hx, hb, hr, hml, hown, hts, hlk, hK, hA⟩ := id C
  have hin : ∀ w ∈ wsX80, w ∈ wsX8_keep := fun _ h => List.mem_cons_of_mem _ (List.mem_append_right _ h)
  induction n with
  | zero =>
    intro x1 x2 x4 σ hw
    exact (show False from hw).elim
  | succ n ih =>
    intro x1 x2 x4 σ hw H locs ls hO hl
    unfold w_keep_99 at hw
    refine lv_iload hx hb dX8_keep_99 (lv_at hl 3 rfl) ?_
    refine lv_bipush (v := 12) hx hb dX8_keep_101 (by decide) ?_
    refine lv_icmp_ge (tgt := 124) hx hb dX8_keep_103 (by decide) (fun hc => ?_) (fun hc => ?_)
    · have hw := hw.1 hc
      refine lv_aload_n hx hb dX8_keep_124 rfl (lv_at hl 0 rfl) ?_
      refine mx_get C hO hin 2 (by decide) (idx := 17) (by decide +kernel) rfl rfl dX8_keep_125 ?_
      refine lv_bipush (v := 8) hx hb dX8_keep_128 (by decide) ?_
      refine lv_aload_n hx hb dX8_keep_130 rfl (lv_at hl 0 rfl) ?_
      refine mx_get C hO hin 2 (by decide) (idx := 17) (by decide +kernel) rfl rfl dX8_keep_131 ?_
      refine lv_bipush (v := 8) hx hb dX8_keep_134 (by decide) ?_
      refine mx_cis C hO (c_degreeAt l D y ad X σ 3 ((8 : Int32)) (rfl) _ hw) (va_cwS 2 hts gX8_keep_X8_degreeAt rfl rfl rfl (by decide +kernel) ⟨Nat.le_of_ble_eq_true rfl, Nat.le_of_ble_eq_true rfl⟩) rfl hl.1 rfl (lv_room (Nat.le_of_ble_eq_true rfl)) dX8_keep_136 (fun u101 σ102 H locs hw hO => ?_)
      refine lv_iadd hx hb dX8_keep_139 ?_
      refine mx_lald C hO (a := 3) rfl hw.1 dX8_keep_140 ?_
      have hw := hw.2
      refine lv_lconst (v := 0) hx hb dX8_keep_141 (by decide) ?_
      refine W.lcmp hx hb dX8_keep_142 ?_
      refine lv_if_ge (tgt := 151) hx hb dX8_keep_143 (by decide) (fun hc => ?_) (fun hc => ?_)
      · have hc := (lg_cmp_ge _ _).mp hc
        have hw := hw.1 hc
        refine lv_lload_n hx hb dX8_keep_151 rfl (lv_at hl 2 rfl) ?_
        exact k_keep_152 C x1 x2 σ102 hw H locs ls hO (lv_sub hl [0, 1] rfl)
      · have hc := (not_congr (lg_cmp_ge _ _)).mp hc
        have hw := hw.2 hc
        refine lv_lload_n hx hb dX8_keep_146 rfl (lv_at hl 2 rfl) ?_
        refine lv_lneg hx hb dX8_keep_147 ?_
        refine lv_goto (tgt := 152) hx hb dX8_keep_148 (by decide) ?_
        exact k_keep_152 C x1 (-x2) σ102 hw H locs ls hO (lv_sub hl [0, 1] rfl)
    · have hw := hw.2 hc
      refine lv_lload_n hx hb dX8_keep_106 rfl (lv_at hl 2 rfl) ?_
      refine lv_aload_n hx hb dX8_keep_107 rfl (lv_at hl 0 rfl) ?_
      refine mx_get C hO hin 2 (by decide) (idx := 17) (by decide +kernel) rfl rfl dX8_keep_108 ?_
      refine lv_iload hx hb dX8_keep_111 (lv_at hl 3 rfl) ?_
      refine mx_lald C hO (a := 3) rfl hw.1 dX8_keep_113 ?_
      have hw := hw.2
      refine mx_cls C hO (c_common l D y ad X σ x2 (σ.1 3 (x4).toNatClampNeg) _ hw) (va_cwS 2 hts gX8_keep_X8_common rfl rfl rfl (by decide +kernel) ⟨Nat.le_of_ble_eq_true rfl, Nat.le_of_ble_eq_true rfl⟩) rfl hl.1 rfl (lv_room (Nat.le_of_ble_eq_true rfl)) dX8_keep_114 (fun u103 σ104 H locs hw hO => ?_)
      refine lv_lstore_n (lv' := [(2, .long u103), (0, .ref (ad 0)), (1, .int x1), (4, .int x4)]) hx hb dX8_keep_117 rfl hl (by decide) rfl (fun ls hl => ?_)
      obtain ⟨x4_105, ex4_105⟩ : ∃ y : Int32, y = x4 + 1 := ⟨_, rfl⟩
      have hw := hw x4_105 ex4_105
      refine lv_iinc (v := x4_105) (lv' := [(4, .int x4_105), (2, .long u103), (0, .ref (ad 0)), (1, .int x1)]) hx hb dX8_keep_118 hl (k := 3) rfl (by rw [ex4_105]; rfl) (by decide) rfl (fun ls hl => ?_)
      refine lv_goto (tgt := 99) hx hb dX8_keep_121 (by decide) ?_
      exact ih x1 u103 x4_105 σ104 hw H locs ls hO (lv_sub hl [2, 3, 1, 0] rfl)
set_option maxRecDepth 100000 in
set_option maxHeartbeats 4000000 in
theorem k_keep_60 {p : Program} {l : Launch} {e : Env} {s : State} {m : MethodId} {args : Array Value} {below : List Frame} {meth : Method} {c : Code} {D : va_G} {y : Nat → ClassId} {ad : Nat → Nat} {X : va_W} {A : Nat → Prop} {Q : Int32 → mS → Prop} (C : mC p s m args meth c cX8_keep 5 (some .int) wsX8_keep D y A) (n : Nat) : ∀ (x1 : Int32) (x2 : Int32) (σ : mS), w_keep_60 Q n x1 x2 σ → ∀ (H : Heap) (locs : List Loc) (ls : Array Slot), mO D y ad X A s.heap H locs σ → lv_has ls 5 [(0, .ref (ad 0)), (1, .int x1), (2, .int x2)] → W p l e rX8_keep s m args below meth c H locs 0 0 (MQ below (va_Qi Q (mB D y ad X A) A) args s 0 0 A) (F0 m 60 ls []) := by
  obtain ⟨hx, hb, hr, hml, hown, hts, hlk, hK, hA⟩ := id C
  have hin : ∀ w ∈ wsX80, w ∈ wsX8_keep := fun _ h => List.mem_cons_of_mem _ (List.mem_append_right _ h)
  induction n with
  | zero =>
    intro x1 x2 σ hw
    exact (show False from hw).elim
  | succ n ih =>
    intro x1 x2 σ hw H locs ls hO hl
    unfold w_keep_60 at hw
    refine lv_iload_n hx hb dX8_keep_60 rfl (lv_at hl 2 rfl) ?_
    refine lv_iconst (v := 4) hx hb dX8_keep_61 (by decide) ?_
    refine lv_icmp_ge (tgt := 86) hx hb dX8_keep_62 (by decide) (fun hc => ?_) (fun hc => ?_)
    · have hw := hw.1 hc
      refine lv_aload_n hx hb dX8_keep_86 rfl (lv_at hl 0 rfl) ?_
      refine mx_cvv C hO (c_findCommon l D y ad X σ _ hw) (cwV 0 hts gX8_keep_X8_findCommon rfl rfl rfl (by decide +kernel) ⟨Nat.le_of_ble_eq_true rfl, Nat.le_of_ble_eq_true rfl⟩) rfl hl.1 rfl (lv_room (Nat.le_of_ble_eq_true rfl)) dX8_keep_87 (fun σ102 H locs hw hO => ?_)
      refine lv_aload_n hx hb dX8_keep_90 rfl (lv_at hl 0 rfl) ?_
      refine mx_cvv C hO (c_divideMade l D y ad X σ102 _ hw) (cwV 0 hts gX8_keep_X8_divideMade rfl rfl rfl (by decide +kernel) ⟨Nat.le_of_ble_eq_true rfl, Nat.le_of_ble_eq_true rfl⟩) rfl hl.1 rfl (lv_room (Nat.le_of_ble_eq_true rfl)) dX8_keep_91 (fun σ104 H locs hw hO => ?_)
      refine lv_lconst (v := 0) hx hb dX8_keep_94 (by decide) ?_
      refine lv_lstore_n (lv' := [(2, .long ((0 : Int64))), (0, .ref (ad 0)), (1, .int x1)]) hx hb dX8_keep_95 rfl hl (by decide) rfl (fun ls hl => ?_)
      refine lv_iconst (v := 0) hx hb dX8_keep_96 (by decide) ?_
      refine lv_istore (lv' := [(4, .int ((0 : Int32))), (2, .long ((0 : Int64))), (0, .ref (ad 0)), (1, .int x1)]) hx hb dX8_keep_97 hl (by decide) rfl (fun ls hl => ?_)
      exact k_keep_99 C fuL x1 ((0 : Int64)) ((0 : Int32)) σ104 hw H locs ls hO (lv_sub hl [2, 3, 1, 0] rfl)
    · have hw := hw.2 hc
      refine lv_aload_n hx hb dX8_keep_65 rfl (lv_at hl 0 rfl) ?_
      refine mx_get C hO hin 4 (by decide) (idx := 23) (by decide +kernel) rfl rfl dX8_keep_66 ?_
      refine lv_iload_n hx hb dX8_keep_69 rfl (lv_at hl 2 rfl) ?_
      refine lv_aload_n hx hb dX8_keep_70 rfl (lv_at hl 0 rfl) ?_
      refine mx_get C hO hin 2 (by decide) (idx := 17) (by decide +kernel) rfl rfl dX8_keep_71 ?_
      refine lv_bipush (v := 8) hx hb dX8_keep_74 (by decide) ?_
      refine lv_iload_n hx hb dX8_keep_76 rfl (lv_at hl 2 rfl) ?_
      refine lv_iadd hx hb dX8_keep_77 ?_
      refine mx_lald C hO (a := 3) rfl hw.1 dX8_keep_78 ?_
      have hw := hw.2
      refine mx_last C hO (a := 5) rfl hw.1 dX8_keep_79 (fun H locs σ105 eσ105 hO => ?_)
      have hw := hw.2 σ105 eσ105
      obtain ⟨x2_106, ex2_106⟩ : ∃ y : Int32, y = x2 + 1 := ⟨_, rfl⟩
      have hw := hw x2_106 ex2_106
      refine lv_iinc (v := x2_106) (lv' := [(2, .int x2_106), (0, .ref (ad 0)), (1, .int x1)]) hx hb dX8_keep_80 hl (k := 2) rfl (by rw [ex2_106]; rfl) (by decide) rfl (fun ls hl => ?_)
      refine lv_goto (tgt := 60) hx hb dX8_keep_83 (by decide) ?_
      exact ih x1 x2_106 σ105 hw H locs ls hO (lv_sub hl [1, 2, 0] rfl)
set_option maxRecDepth 100000 in
set_option maxHeartbeats 4000000 in
theorem k_keep_17 {p : Program} {l : Launch} {e : Env} {s : State} {m : MethodId} {args : Array Value} {below : List Frame} {meth : Method} {c : Code} {D : va_G} {y : Nat → ClassId} {ad : Nat → Nat} {X : va_W} {A : Nat → Prop} {Q : Int32 → mS → Prop} (C : mC p s m args meth c cX8_keep 5 (some .int) wsX8_keep D y A) (n : Nat) : ∀ (x1 : Int32) (x2 : Int32) (σ : mS), w_keep_17 Q n x1 x2 σ → ∀ (H : Heap) (locs : List Loc) (ls : Array Slot), mO D y ad X A s.heap H locs σ → lv_has ls 5 [(0, .ref (ad 0)), (1, .int x1), (2, .int x2)] → W p l e rX8_keep s m args below meth c H locs 0 0 (MQ below (va_Qi Q (mB D y ad X A) A) args s 0 0 A) (F0 m 17 ls []) := by
  obtain ⟨hx, hb, hr, hml, hown, hts, hlk, hK, hA⟩ := id C
  have hin : ∀ w ∈ wsX80, w ∈ wsX8_keep := fun _ h => List.mem_cons_of_mem _ (List.mem_append_right _ h)
  induction n with
  | zero =>
    intro x1 x2 σ hw
    exact (show False from hw).elim
  | succ n ih =>
    intro x1 x2 σ hw H locs ls hO hl
    unfold w_keep_17 at hw
    refine lv_iload_n hx hb dX8_keep_17 rfl (lv_at hl 2 rfl) ?_
    refine lv_iconst (v := 4) hx hb dX8_keep_18 (by decide) ?_
    refine lv_icmp_ge (tgt := 54) hx hb dX8_keep_19 (by decide) (fun hc => ?_) (fun hc => ?_)
    · have hw := hw.1 hc
      refine lv_aload_n hx hb dX8_keep_54 rfl (lv_at hl 0 rfl) ?_
      refine mx_cvv C hO (c_findCommon l D y ad X σ _ hw) (cwV 0 hts gX8_keep_X8_findCommon rfl rfl rfl (by decide +kernel) ⟨Nat.le_of_ble_eq_true rfl, Nat.le_of_ble_eq_true rfl⟩) rfl hl.1 rfl (lv_room (Nat.le_of_ble_eq_true rfl)) dX8_keep_55 (fun σ102 H locs hw hO => ?_)
      refine lv_iconst (v := 0) hx hb dX8_keep_58 (by decide) ?_
      refine lv_istore_n (lv' := [(2, .int ((0 : Int32))), (0, .ref (ad 0)), (1, .int x1)]) hx hb dX8_keep_59 rfl hl (by decide) rfl (fun ls hl => ?_)
      exact k_keep_60 C fuL x1 ((0 : Int32)) σ102 hw H locs ls hO (lv_sub hl [1, 2, 0] rfl)
    · have hw := hw.2 hc
      refine lv_aload_n hx hb dX8_keep_22 rfl (lv_at hl 0 rfl) ?_
      refine mx_get C hO hin 3 (by decide) (idx := 20) (by decide +kernel) rfl rfl dX8_keep_23 ?_
      refine lv_iload_n hx hb dX8_keep_26 rfl (lv_at hl 2 rfl) ?_
      refine lv_aload_n hx hb dX8_keep_27 rfl (lv_at hl 0 rfl) ?_
      refine mx_get C hO hin 2 (by decide) (idx := 17) (by decide +kernel) rfl rfl dX8_keep_28 ?_
      refine lv_iload_n hx hb dX8_keep_31 rfl (lv_at hl 2 rfl) ?_
      refine mx_lald C hO (a := 3) rfl hw.1 dX8_keep_32 ?_
      have hw := hw.2
      refine mx_last C hO (a := 4) rfl hw.1 dX8_keep_33 (fun H locs σ103 eσ103 hO => ?_)
      have hw := hw.2 σ103 eσ103
      refine lv_aload_n hx hb dX8_keep_34 rfl (lv_at hl 0 rfl) ?_
      refine mx_get C hO hin 4 (by decide) (idx := 23) (by decide +kernel) rfl rfl dX8_keep_35 ?_
      refine lv_iload_n hx hb dX8_keep_38 rfl (lv_at hl 2 rfl) ?_
      refine lv_aload_n hx hb dX8_keep_39 rfl (lv_at hl 0 rfl) ?_
      refine mx_get C hO hin 2 (by decide) (idx := 17) (by decide +kernel) rfl rfl dX8_keep_40 ?_
      refine lv_iconst (v := 4) hx hb dX8_keep_43 (by decide) ?_
      refine lv_iload_n hx hb dX8_keep_44 rfl (lv_at hl 2 rfl) ?_
      refine lv_iadd hx hb dX8_keep_45 ?_
      refine mx_lald C hO (a := 3) rfl hw.1 dX8_keep_46 ?_
      have hw := hw.2
      refine mx_last C hO (a := 5) rfl hw.1 dX8_keep_47 (fun H locs σ104 eσ104 hO => ?_)
      have hw := hw.2 σ104 eσ104
      obtain ⟨x2_105, ex2_105⟩ : ∃ y : Int32, y = x2 + 1 := ⟨_, rfl⟩
      have hw := hw x2_105 ex2_105
      refine lv_iinc (v := x2_105) (lv' := [(2, .int x2_105), (0, .ref (ad 0)), (1, .int x1)]) hx hb dX8_keep_48 hl (k := 2) rfl (by rw [ex2_105]; rfl) (by decide) rfl (fun ls hl => ?_)
      refine lv_goto (tgt := 17) hx hb dX8_keep_51 (by decide) ?_
      exact ih x1 x2_105 σ104 hw H locs ls hO (lv_sub hl [1, 2, 0] rfl)
set_option maxRecDepth 100000 in
set_option maxHeartbeats 4000000 in
theorem k_keep_e {p : Program} {l : Launch} {e : Env} {s : State} {m : MethodId} {args : Array Value} {below : List Frame} {meth : Method} {c : Code} {D : va_G} {y : Nat → ClassId} {ad : Nat → Nat} {X : va_W} {A : Nat → Prop} {Q : Int32 → mS → Prop} (C : mC p s m args meth c cX8_keep 5 (some .int) wsX8_keep D y A) (x1 : Int32) (σ : mS) (hw : w_keep Q x1 σ) (H : Heap) (locs : List Loc) (ls : Array Slot) (hO : mO D y ad X A s.heap H locs σ) (hl : lv_has ls 5 [(0, .ref (ad 0)), (1, .int x1)]) : W p l e rX8_keep s m args below meth c H locs 0 0 (MQ below (va_Qi Q (mB D y ad X A) A) args s 0 0 A) (F0 m 0 ls []) := by
  obtain ⟨hx, hb, hr, hml, hown, hts, hlk, hK, hA⟩ := id C
  have hin : ∀ w ∈ wsX80, w ∈ wsX8_keep := fun _ h => List.mem_cons_of_mem _ (List.mem_append_right _ h)
  unfold w_keep at hw
  refine lv_aload_n hx hb dX8_keep_0 rfl (lv_at hl 0 rfl) ?_
  refine mx_get C hO hin 2 (by decide) (idx := 17) (by decide +kernel) rfl rfl dX8_keep_1 ?_
  refine lv_bipush (v := 8) hx hb dX8_keep_4 (by decide) ?_
  refine mx_cis C hO (c_degreeAt l D y ad X σ 3 ((8 : Int32)) (rfl) _ hw) (va_cwS 2 hts gX8_keep_X8_degreeAt rfl rfl rfl (by decide +kernel) ⟨Nat.le_of_ble_eq_true rfl, Nat.le_of_ble_eq_true rfl⟩) rfl hl.1 rfl (lv_room (Nat.le_of_ble_eq_true rfl)) dX8_keep_6 (fun u101 σ102 H locs hw hO => ?_)
  refine lv_if_ge (tgt := 15) hx hb dX8_keep_9 (by decide) (fun hc => ?_) (fun hc => ?_)
  · have hw := hw.1 hc
    refine lv_iconst (v := 0) hx hb dX8_keep_15 (by decide) ?_
    refine lv_istore_n (lv' := [(2, .int ((0 : Int32))), (0, .ref (ad 0)), (1, .int x1)]) hx hb dX8_keep_16 rfl hl (by decide) rfl (fun ls hl => ?_)
    exact k_keep_17 C fuL x1 ((0 : Int32)) σ102 hw H locs ls hO (lv_sub hl [1, 2, 0] rfl)
  · have hw := hw.2 hc
    refine lv_bipush (v := -2) hx hb dX8_keep_12 (by decide) ?_
    exact mx_iret C hO hw dX8_keep_14
theorem c_keep (l : Launch) (D : va_G) (y : Nat → ClassId) (ad : Nat → Nat) (X : va_W) (σ : mS) (x1 : Int32) (Q : Int32 → mS → Prop) (hw : w_keep Q x1 σ) : ∀ sz, Met l yX8_keep wsX8_keep rX8_keep (va_Pc [.ref (ad 0), .int x1] (mPre D y ad X sz σ)) (va_Qi Q (mB D y ad X (va_A (mW y ad σ ++ X) sz)) (va_A (mW y ad σ ++ X) sz)) 0 0 (va_A (mW y ad σ ++ X) sz) :=
  mMet (Qc := fun A => va_Qi Q (mB D y ad X A) A) rfl (Nat.le_of_ble_eq_true rfl) (fun p e s m args below meth c A ls C hO hl => k_keep_e C x1 σ hw s.heap [] ls hO hl)
abbrev rX8_isLine : Room := { frames := 1, cells := 0, slots := 0, locals := 25 }
set_option maxRecDepth 100000 in
set_option maxHeartbeats 4000000 in
theorem k_isLine_e {p : Program} {l : Launch} {e : Env} {s : State} {m : MethodId} {args : Array Value} {below : List Frame} {meth : Method} {c : Code} {D : va_G} {y : Nat → ClassId} {ad : Nat → Nat} {X : va_W} {A : Nat → Prop} {Q : Int32 → mS → Prop} (C : mC p s m args meth c cX8_isLine 1 (some .boolean) wsX8_isLine D y A) (x0 : Int32) (σ : mS) (hw : w_isLine Q x0 σ) (H : Heap) (locs : List Loc) (ls : Array Slot) (hO : mO D y ad X A s.heap H locs σ) (hl : lv_has ls 1 [(0, .int x0)]) : W p l e rX8_isLine s m args below meth c H locs 0 0 (MQ below (va_Qi Q (mB D y ad X A) A) args s 0 0 A) (F0 m 0 ls []) := by
  obtain ⟨hx, hb, hr, hml, hown, hts, hlk, hK, hA⟩ := id C
  unfold w_isLine at hw
  refine lv_iload_n hx hb dX8_isLine_0 rfl (lv_at hl 0 rfl) ?_
  refine lv_i2l hx hb dX8_isLine_1 rfl ?_
  refine lv_lconst (v := 0) hx hb dX8_isLine_2 (by decide) ?_
  refine lv_ldc2 (v := 3) hx hb hown (hts (.constantLong RX8 122 (3)) (by decide +kernel)) dX8_isLine_3 ?_
  refine mx_cis C hO (c_in l D y ad X σ (x0.toInt64) ((0 : Int64)) ((3 : Int64)) _ hw) (va_cwS 3 hts gX8_isLine_X8_in rfl rfl rfl (by decide +kernel) ⟨Nat.le_of_ble_eq_true rfl, Nat.le_of_ble_eq_true rfl⟩) rfl hl.1 rfl (lv_room (Nat.le_of_ble_eq_true rfl)) dX8_isLine_6 (fun u101 σ102 H locs hw hO => ?_)
  exact mx_zret C hO hw.1 hw.2 dX8_isLine_9
theorem c_isLine (l : Launch) (D : va_G) (y : Nat → ClassId) (ad : Nat → Nat) (X : va_W) (σ : mS) (x0 : Int32) (Q : Int32 → mS → Prop) (hw : w_isLine Q x0 σ) : ∀ sz, Met l yX8_isLine wsX8_isLine rX8_isLine (va_Pc [.int x0] (mPre D y ad X sz σ)) (va_Qi Q (mB D y ad X (va_A (mW y ad σ ++ X) sz)) (va_A (mW y ad σ ++ X) sz)) 0 0 (va_A (mW y ad σ ++ X) sz) :=
  mMet (Qc := fun A => va_Qi Q (mB D y ad X A) A) rfl (Nat.le_of_ble_eq_true rfl) (fun p e s m args below meth c A ls C hO hl => k_isLine_e C x0 σ hw s.heap [] ls hO hl)
abbrev rX8_against : Room := { frames := 2, cells := 0, slots := 0, locals := 45 }
set_option maxRecDepth 100000 in
set_option maxHeartbeats 4000000 in
theorem k_against_26 {p : Program} {l : Launch} {e : Env} {s : State} {m : MethodId} {args : Array Value} {below : List Frame} {meth : Method} {c : Code} {D : va_G} {y : Nat → ClassId} {ad : Nat → Nat} {X : va_W} {A : Nat → Prop} {Q : Int32 → mS → Prop} (C : mC p s m args meth c cX8_against 2 (some .int) wsX8_against D y A) (z0 : Int32) (σ : mS) (hw : w_against_26 Q z0 σ) (H : Heap) (locs : List Loc) (ls : Array Slot) (hO : mO D y ad X A s.heap H locs σ) (hl : lv_has ls 2 [(0, .ref (ad 0))]) : W p l e rX8_against s m args below meth c H locs 0 0 (MQ below (va_Qi Q (mB D y ad X A) A) args s 0 0 A) (F0 m 26 ls [.int z0]) := by
  obtain ⟨hx, hb, hr, hml, hown, hts, hlk, hK, hA⟩ := id C
  unfold w_against_26 at hw
  exact mx_iret C hO hw dX8_against_26
set_option maxRecDepth 100000 in
set_option maxHeartbeats 4000000 in
theorem k_against_e {p : Program} {l : Launch} {e : Env} {s : State} {m : MethodId} {args : Array Value} {below : List Frame} {meth : Method} {c : Code} {D : va_G} {y : Nat → ClassId} {ad : Nat → Nat} {X : va_W} {A : Nat → Prop} {Q : Int32 → mS → Prop} (C : mC p s m args meth c cX8_against 2 (some .int) wsX8_against D y A) (x1 : Int32) (σ : mS) (hw : w_against Q x1 σ) (H : Heap) (locs : List Loc) (ls : Array Slot) (hO : mO D y ad X A s.heap H locs σ) (hl : lv_has ls 2 [(0, .ref (ad 0)), (1, .int x1)]) : W p l e rX8_against s m args below meth c H locs 0 0 (MQ below (va_Qi Q (mB D y ad X A) A) args s 0 0 A) (F0 m 0 ls []) := by
  obtain ⟨hx, hb, hr, hml, hown, hts, hlk, hK, hA⟩ := id C
  have hin : ∀ w ∈ wsX80, w ∈ wsX8_against := fun _ h => List.mem_cons_of_mem _ (List.mem_append_right _ h)
  unfold w_against at hw
  refine lv_iload_n hx hb dX8_against_0 rfl (lv_at hl 1 rfl) ?_
  refine mx_cis C hO (c_isLine l D y ad X σ x1 _ hw) (va_cwS 1 hts gX8_against_X8_isLine rfl rfl rfl (by decide +kernel) ⟨Nat.le_of_ble_eq_true rfl, Nat.le_of_ble_eq_true rfl⟩) rfl hl.1 rfl (lv_room (Nat.le_of_ble_eq_true rfl)) dX8_against_1 (fun u101 σ102 H locs hw hO => ?_)
  refine lv_if_ne (tgt := 11) hx hb dX8_against_4 (by decide) (fun hc => ?_) (fun hc => ?_)
  · have hw := hw.1 hc
    refine lv_aload_n hx hb dX8_against_11 rfl (lv_at hl 0 rfl) ?_
    refine mx_get C hO hin 0 (by decide) (idx := 7) (by decide +kernel) rfl rfl dX8_against_12 ?_
    refine lv_iload_n hx hb dX8_against_15 rfl (lv_at hl 1 rfl) ?_
    refine mx_zald C hO hw.1 dX8_against_16 ?_
    have hw := hw.2
    refine lv_if_eq (tgt := 24) hx hb dX8_against_17 (by decide) (fun hc => ?_) (fun hc => ?_)
    · have hw := hw.1 hc
      refine lv_bipush (v := -2) hx hb dX8_against_24 (by decide) ?_
      exact k_against_26 C ((-2 : Int32)) σ102 hw H locs ls hO (lv_sub hl [0] rfl)
    · have hw := hw.2 hc
      refine lv_iconst (v := 0) hx hb dX8_against_20 (by decide) ?_
      refine lv_goto (tgt := 26) hx hb dX8_against_21 (by decide) ?_
      exact k_against_26 C ((0 : Int32)) σ102 hw H locs ls hO (lv_sub hl [0] rfl)
  · have hw := hw.2 hc
    refine lv_iconst (v := -1) hx hb dX8_against_7 (by decide) ?_
    refine lv_goto (tgt := 26) hx hb dX8_against_8 (by decide) ?_
    exact k_against_26 C ((-1 : Int32)) σ102 hw H locs ls hO (lv_sub hl [0] rfl)
theorem c_against (l : Launch) (D : va_G) (y : Nat → ClassId) (ad : Nat → Nat) (X : va_W) (σ : mS) (x1 : Int32) (Q : Int32 → mS → Prop) (hw : w_against Q x1 σ) : ∀ sz, Met l yX8_against wsX8_against rX8_against (va_Pc [.ref (ad 0), .int x1] (mPre D y ad X sz σ)) (va_Qi Q (mB D y ad X (va_A (mW y ad σ ++ X) sz)) (va_A (mW y ad σ ++ X) sz)) 0 0 (va_A (mW y ad σ ++ X) sz) :=
  mMet (Qc := fun A => va_Qi Q (mB D y ad X A) A) rfl (Nat.le_of_ble_eq_true rfl) (fun p e s m args below meth c A ls C hO hl => k_against_e C x1 σ hw s.heap [] ls hO hl)
abbrev rX8_type : Room := { frames := 1, cells := 0, slots := 0, locals := 25 }
set_option maxRecDepth 100000 in
set_option maxHeartbeats 4000000 in
theorem k_type_74 {p : Program} {l : Launch} {e : Env} {s : State} {m : MethodId} {args : Array Value} {below : List Frame} {meth : Method} {c : Code} {D : va_G} {y : Nat → ClassId} {ad : Nat → Nat} {X : va_W} {A : Nat → Prop} {Q : Int32 → mS → Prop} (C : mC p s m args meth c cX8_type 5 (some .int) wsX8_type D y A) (n : Nat) : ∀ (x1 : Int64) (x4 : Int32) (σ : mS), w_type_74 Q n x1 x4 σ → ∀ (H : Heap) (locs : List Loc) (ls : Array Slot), mO D y ad X A s.heap H locs σ → lv_has ls 5 [(0, .ref (ad 0)), (1, .long x1), (4, .int x4)] → W p l e rX8_type s m args below meth c H locs 0 0 (MQ below (va_Qi Q (mB D y ad X A) A) args s 0 0 A) (F0 m 74 ls []) := by
  obtain ⟨hx, hb, hr, hml, hown, hts, hlk, hK, hA⟩ := id C
  have hin : ∀ w ∈ wsX80, w ∈ wsX8_type := fun _ h => List.mem_cons_of_mem _ (List.mem_append_right _ h)
  induction n with
  | zero =>
    intro x1 x4 σ hw
    exact (show False from hw).elim
  | succ n ih =>
    intro x1 x4 σ hw H locs ls hO hl
    unfold w_type_74 at hw
    refine lv_iload hx hb dX8_type_74 (lv_at hl 2 rfl) ?_
    refine lv_if_lt (tgt := 116) hx hb dX8_type_76 (by decide) (fun hc => ?_) (fun hc => ?_)
    · have hw := hw.1 hc
      refine lv_aload_n hx hb dX8_type_116 rfl (lv_at hl 0 rfl) ?_
      refine mx_get C hO hin 7 (by decide) (idx := 135) (by decide +kernel) rfl rfl dX8_type_117 ?_
      exact mx_iret C hO hw dX8_type_120
    · have hw := hw.2 hc
      refine lv_aload_n hx hb dX8_type_79 rfl (lv_at hl 0 rfl) ?_
      refine mx_get C hO hin 6 (by decide) (idx := 29) (by decide +kernel) rfl rfl dX8_type_80 ?_
      refine lv_aload_n hx hb dX8_type_83 rfl (lv_at hl 0 rfl) ?_
      refine mx_get C hO hin 7 (by decide) (idx := 135) (by decide +kernel) rfl rfl dX8_type_84 ?_
      refine lv_lload_n hx hb dX8_type_87 rfl (lv_at hl 1 rfl) ?_
      refine lv_bipush (v := 8) hx hb dX8_type_88 (by decide) ?_
      refine lv_iload hx hb dX8_type_90 (lv_at hl 2 rfl) ?_
      refine lv_imul hx hb dX8_type_92 ?_
      refine lv_lshr hx hb dX8_type_93 rfl ?_
      refine lv_ldc2 (v := 255) hx hb hown (hts (.constantLong RX8 129 (255)) (by decide +kernel)) dX8_type_94 ?_
      refine lv_land hx hb dX8_type_97 ?_
      refine lv_l2i hx hb dX8_type_98 rfl ?_
      refine mx_iast C hO (a := 7) rfl hw.1 dX8_type_99 (fun H locs σ101 eσ101 hO => ?_)
      have hw := hw.2 σ101 eσ101
      refine lv_aload_n hx hb dX8_type_100 rfl (lv_at hl 0 rfl) ?_
      refine lv_dup hx hb dX8_type_101 rfl ?_
      refine mx_get C hO hin 7 (by decide) (idx := 135) (by decide +kernel) rfl rfl dX8_type_102 ?_
      refine lv_iconst (v := 1) hx hb dX8_type_105 (by decide) ?_
      refine lv_iadd hx hb dX8_type_106 ?_
      refine mx_putt C hO hin (idx := 135) (by decide +kernel) dX8_type_107 (fun H locs σ102 eσ102 hO => ?_)
      have hw := hw σ102 eσ102
      obtain ⟨x4_103, ex4_103⟩ : ∃ y : Int32, y = x4 + (-1) := ⟨_, rfl⟩
      have hw := hw x4_103 ex4_103
      refine lv_iinc (v := x4_103) (lv' := [(4, .int x4_103), (0, .ref (ad 0)), (1, .long x1)]) hx hb dX8_type_110 hl (k := 2) rfl (by rw [ex4_103]; rfl) (by decide) rfl (fun ls hl => ?_)
      refine lv_goto (tgt := 74) hx hb dX8_type_113 (by decide) ?_
      exact ih x1 x4_103 σ102 hw H locs ls hO (lv_sub hl [1, 2, 0] rfl)
set_option maxRecDepth 100000 in
set_option maxHeartbeats 4000000 in
theorem k_type_19 {p : Program} {l : Launch} {e : Env} {s : State} {m : MethodId} {args : Array Value} {below : List Frame} {meth : Method} {c : Code} {D : va_G} {y : Nat → ClassId} {ad : Nat → Nat} {X : va_W} {A : Nat → Prop} {Q : Int32 → mS → Prop} (C : mC p s m args meth c cX8_type 5 (some .int) wsX8_type D y A) (n : Nat) : ∀ (x1 : Int64) (x3 : Int32) (x4 : Int32) (σ : mS), w_type_19 Q n x1 x3 x4 σ → ∀ (H : Heap) (locs : List Loc) (ls : Array Slot), mO D y ad X A s.heap H locs σ → lv_has ls 5 [(0, .ref (ad 0)), (1, .long x1), (3, .int x3), (4, .int x4)] → W p l e rX8_type s m args below meth c H locs 0 0 (MQ below (va_Qi Q (mB D y ad X A) A) args s 0 0 A) (F0 m 19 ls []) := by
  obtain ⟨hx, hb, hr, hml, hown, hts, hlk, hK, hA⟩ := id C
  have hin : ∀ w ∈ wsX80, w ∈ wsX8_type := fun _ h => List.mem_cons_of_mem _ (List.mem_append_right _ h)
  induction n with
  | zero =>
    intro x1 x3 x4 σ hw
    exact (show False from hw).elim
  | succ n ih =>
    intro x1 x3 x4 σ hw H locs ls hO hl
    unfold w_type_19 at hw
    refine lv_iload hx hb dX8_type_19 (lv_at hl 3 rfl) ?_
    refine lv_if_lt (tgt := 55) hx hb dX8_type_21 (by decide) (fun hc => ?_) (fun hc => ?_)
    · have hw := hw.1 hc
      refine lv_aload_n hx hb dX8_type_55 rfl (lv_at hl 0 rfl) ?_
      refine mx_get C hO hin 7 (by decide) (idx := 135) (by decide +kernel) rfl rfl dX8_type_56 ?_
      refine lv_iload_n hx hb dX8_type_59 rfl (lv_at hl 2 rfl) ?_
      refine lv_iadd hx hb dX8_type_60 ?_
      refine lv_bipush (v := 90) hx hb dX8_type_61 (by decide) ?_
      refine lv_icmp_le (tgt := 69) hx hb dX8_type_63 (by decide) (fun hc => ?_) (fun hc => ?_)
      · have hw := hw.1 hc
        refine lv_iload_n hx hb dX8_type_69 rfl (lv_at hl 2 rfl) ?_
        refine lv_iconst (v := 1) hx hb dX8_type_70 (by decide) ?_
        refine lv_isub hx hb dX8_type_71 ?_
        refine lv_topi (fun x4_101 ex4_101 => ?_)
        have hw := hw x4_101 ex4_101
        refine lv_istore (lv' := [(4, .int x4_101), (0, .ref (ad 0)), (1, .long x1), (3, .int x3)]) hx hb dX8_type_72 hl (by decide) rfl (fun ls hl => ?_)
        exact k_type_74 C fuL x1 x4_101 σ hw H locs ls hO (lv_sub hl [1, 2, 0] rfl)
      · have hw := hw.2 hc
        refine lv_bipush (v := -3) hx hb dX8_type_66 (by decide) ?_
        exact mx_iret C hO hw dX8_type_68
    · have hw := hw.2 hc
      refine lv_lload_n hx hb dX8_type_24 rfl (lv_at hl 1 rfl) ?_
      refine lv_bipush (v := 8) hx hb dX8_type_25 (by decide) ?_
      refine lv_iload hx hb dX8_type_27 (lv_at hl 3 rfl) ?_
      refine lv_imul hx hb dX8_type_29 ?_
      refine lv_lshr hx hb dX8_type_30 rfl ?_
      refine lv_ldc2 (v := 255) hx hb hown (hts (.constantLong RX8 129 (255)) (by decide +kernel)) dX8_type_31 ?_
      refine lv_land hx hb dX8_type_34 ?_
      refine lv_ldc2 (v := 32) hx hb hown (hts (.constantLong RX8 131 (32)) (by decide +kernel)) dX8_type_35 ?_
      refine lv_ldc2 (v := 126) hx hb hown (hts (.constantLong RX8 133 (126)) (by decide +kernel)) dX8_type_38 ?_
      refine mx_cis C hO (c_in l D y ad X σ ((x1 >>> (((8 : Int32) * x4).toInt64 &&& 63)) &&& (255 : Int64)) ((32 : Int64)) ((126 : Int64)) _ hw) (va_cwS 3 hts gX8_type_X8_in rfl rfl rfl (by decide +kernel) ⟨Nat.le_of_ble_eq_true rfl, Nat.le_of_ble_eq_true rfl⟩) rfl hl.1 rfl (lv_room (Nat.le_of_ble_eq_true rfl)) dX8_type_41 (fun u102 σ103 H locs hw hO => ?_)
      refine lv_if_ne (tgt := 49) hx hb dX8_type_44 (by decide) (fun hc => ?_) (fun hc => ?_)
      · have hw := hw.1 hc
        obtain ⟨x4_104, ex4_104⟩ : ∃ y : Int32, y = x4 + (-1) := ⟨_, rfl⟩
        have hw := hw x4_104 ex4_104
        refine lv_iinc (v := x4_104) (lv' := [(4, .int x4_104), (0, .ref (ad 0)), (1, .long x1), (3, .int x3)]) hx hb dX8_type_49 hl (k := 3) rfl (by rw [ex4_104]; rfl) (by decide) rfl (fun ls hl => ?_)
        refine lv_goto (tgt := 19) hx hb dX8_type_52 (by decide) ?_
        exact ih x1 x3 x4_104 σ103 hw H locs ls hO (lv_sub hl [1, 2, 3, 0] rfl)
      · have hw := hw.2 hc
        refine lv_iconst (v := -1) hx hb dX8_type_47 (by decide) ?_
        exact mx_iret C hO hw dX8_type_48
set_option maxRecDepth 100000 in
set_option maxHeartbeats 4000000 in
theorem k_type_e {p : Program} {l : Launch} {e : Env} {s : State} {m : MethodId} {args : Array Value} {below : List Frame} {meth : Method} {c : Code} {D : va_G} {y : Nat → ClassId} {ad : Nat → Nat} {X : va_W} {A : Nat → Prop} {Q : Int32 → mS → Prop} (C : mC p s m args meth c cX8_type 5 (some .int) wsX8_type D y A) (x1 : Int64) (x3 : Int32) (σ : mS) (hw : w_type Q x1 x3 σ) (H : Heap) (locs : List Loc) (ls : Array Slot) (hO : mO D y ad X A s.heap H locs σ) (hl : lv_has ls 5 [(0, .ref (ad 0)), (1, .long x1), (3, .int x3)]) : W p l e rX8_type s m args below meth c H locs 0 0 (MQ below (va_Qi Q (mB D y ad X A) A) args s 0 0 A) (F0 m 0 ls []) := by
  obtain ⟨hx, hb, hr, hml, hown, hts, hlk, hK, hA⟩ := id C
  unfold w_type at hw
  refine lv_iload_n hx hb dX8_type_0 rfl (lv_at hl 2 rfl) ?_
  refine lv_i2l hx hb dX8_type_1 rfl ?_
  refine lv_lconst (v := 1) hx hb dX8_type_2 (by decide) ?_
  refine lv_ldc2 (v := 8) hx hb hown (hts (.constantLong RX8 127 (8)) (by decide +kernel)) dX8_type_3 ?_
  refine mx_cis C hO (c_in l D y ad X σ (x3.toInt64) ((1 : Int64)) ((8 : Int64)) _ hw) (va_cwS 3 hts gX8_type_X8_in rfl rfl rfl (by decide +kernel) ⟨Nat.le_of_ble_eq_true rfl, Nat.le_of_ble_eq_true rfl⟩) rfl hl.1 rfl (lv_room (Nat.le_of_ble_eq_true rfl)) dX8_type_6 (fun u101 σ102 H locs hw hO => ?_)
  refine lv_if_ne (tgt := 14) hx hb dX8_type_9 (by decide) (fun hc => ?_) (fun hc => ?_)
  · have hw := hw.1 hc
    refine lv_iload_n hx hb dX8_type_14 rfl (lv_at hl 2 rfl) ?_
    refine lv_iconst (v := 1) hx hb dX8_type_15 (by decide) ?_
    refine lv_isub hx hb dX8_type_16 ?_
    refine lv_topi (fun x4_103 ex4_103 => ?_)
    have hw := hw x4_103 ex4_103
    refine lv_istore (lv' := [(4, .int x4_103), (0, .ref (ad 0)), (1, .long x1), (3, .int x3)]) hx hb dX8_type_17 hl (by decide) rfl (fun ls hl => ?_)
    exact k_type_19 C fuL x1 x3 x4_103 σ102 hw H locs ls hO (lv_sub hl [1, 2, 3, 0] rfl)
  · have hw := hw.2 hc
    refine lv_iconst (v := -1) hx hb dX8_type_12 (by decide) ?_
    exact mx_iret C hO hw dX8_type_13
theorem c_type (l : Launch) (D : va_G) (y : Nat → ClassId) (ad : Nat → Nat) (X : va_W) (σ : mS) (x1 : Int64) (x3 : Int32) (Q : Int32 → mS → Prop) (hw : w_type Q x1 x3 σ) : ∀ sz, Met l yX8_type wsX8_type rX8_type (va_Pc [.ref (ad 0), .long x1, .int x3] (mPre D y ad X sz σ)) (va_Qi Q (mB D y ad X (va_A (mW y ad σ ++ X) sz)) (va_A (mW y ad σ ++ X) sz)) 0 0 (va_A (mW y ad σ ++ X) sz) :=
  mMet (Qc := fun A => va_Qi Q (mB D y ad X A) A) rfl (Nat.le_of_ble_eq_true rfl) (fun p e s m args below meth c A ls C hO hl => k_type_e C x1 x3 σ hw s.heap [] ls hO hl)
