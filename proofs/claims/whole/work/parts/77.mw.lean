/-! the reference: what each method does, and the walk of its bytecode (written by wip/tools/gen.py) -/
abbrev rX8_slopeAt : Room := { frames := 0, cells := 0, slots := 0, locals := 0 }
set_option maxRecDepth 100000 in
set_option maxHeartbeats 4000000 in
theorem k_slopeAt_e {p : Program} {l : Launch} {e : Env} {s : State} {m : MethodId} {args : Array Value} {below : List Frame} {meth : Method} {c : Code} {D : va_G} {y : Nat → ClassId} {ad : Nat → Nat} {X : va_W} {A : Nat → Prop} {Q : Int64 → mS → Prop} (C : mC p s m args meth c cX8_slopeAt 6 (some .long) wsX8_slopeAt D y A) (x1 : Int32) (x2 : Int64) (x4 : Int64) (σ : mS) (hw : w_slopeAt Q x1 x2 x4 σ) (H : Heap) (locs : List Loc) (ls : Array Slot) (hO : mO D y ad X A s.heap H locs σ) (hl : lv_has ls 6 [(0, .ref (ad 0)), (1, .int x1), (2, .long x2), (4, .long x4)]) : W p l e rX8_slopeAt s m args below meth c H locs 0 0 (MQ below (va_Ql Q (mB D y ad X A) A) args s 0 0 A) (F0 m 0 ls []) := by
  obtain ⟨hx, hb, hr, hml, hown, hts, hlk, hK, hA⟩ := id C
  have hin : ∀ w ∈ wsX80, w ∈ wsX8_slopeAt := fun _ h => List.mem_cons_of_mem _ (List.mem_append_right _ h)
  unfold w_slopeAt at hw
  refine lv_ldc2 (v := 3) hx hb hown (hts (.constantLong RX8 122 (3)) (by decide +kernel)) dX8_slopeAt_0 ?_
  refine lv_aload_n hx hb dX8_slopeAt_3 rfl (lv_at hl 0 rfl) ?_
  refine mx_get C hO hin 1 (by decide) (idx := 13) (by decide +kernel) rfl rfl dX8_slopeAt_4 ?_
  refine lv_iload_n hx hb dX8_slopeAt_7 rfl (lv_at hl 1 rfl) ?_
  refine lv_iconst (v := 3) hx hb dX8_slopeAt_8 (by decide) ?_
  refine lv_iadd hx hb dX8_slopeAt_9 ?_
  refine mx_lald C hO (a := 2) rfl hw.1 dX8_slopeAt_10 ?_
  have hw := hw.2
  refine lv_lmul hx hb dX8_slopeAt_11 ?_
  refine lv_lload_n hx hb dX8_slopeAt_12 rfl (lv_at hl 2 rfl) ?_
  refine lv_lmul hx hb dX8_slopeAt_13 ?_
  refine lv_ldc2 (v := 2) hx hb hown (hts (.constantLong RX8 166 (2)) (by decide +kernel)) dX8_slopeAt_14 ?_
  refine lv_aload_n hx hb dX8_slopeAt_17 rfl (lv_at hl 0 rfl) ?_
  refine mx_get C hO hin 1 (by decide) (idx := 13) (by decide +kernel) rfl rfl dX8_slopeAt_18 ?_
  refine lv_iload_n hx hb dX8_slopeAt_21 rfl (lv_at hl 1 rfl) ?_
  refine lv_iconst (v := 2) hx hb dX8_slopeAt_22 (by decide) ?_
  refine lv_iadd hx hb dX8_slopeAt_23 ?_
  refine mx_lald C hO (a := 2) rfl hw.1 dX8_slopeAt_24 ?_
  have hw := hw.2
  refine lv_lmul hx hb dX8_slopeAt_25 ?_
  refine lv_lload hx hb dX8_slopeAt_26 (lv_at hl 3 rfl) ?_
  refine lv_lmul hx hb dX8_slopeAt_28 ?_
  refine lv_ladd hx hb dX8_slopeAt_29 ?_
  refine lv_lload_n hx hb dX8_slopeAt_30 rfl (lv_at hl 2 rfl) ?_
  refine lv_lmul hx hb dX8_slopeAt_31 ?_
  refine lv_aload_n hx hb dX8_slopeAt_32 rfl (lv_at hl 0 rfl) ?_
  refine mx_get C hO hin 1 (by decide) (idx := 13) (by decide +kernel) rfl rfl dX8_slopeAt_33 ?_
  refine lv_iload_n hx hb dX8_slopeAt_36 rfl (lv_at hl 1 rfl) ?_
  refine lv_iconst (v := 1) hx hb dX8_slopeAt_37 (by decide) ?_
  refine lv_iadd hx hb dX8_slopeAt_38 ?_
  refine mx_lald C hO (a := 2) rfl hw.1 dX8_slopeAt_39 ?_
  have hw := hw.2
  refine lv_lload hx hb dX8_slopeAt_40 (lv_at hl 3 rfl) ?_
  refine lv_lmul hx hb dX8_slopeAt_42 ?_
  refine lv_lload hx hb dX8_slopeAt_43 (lv_at hl 3 rfl) ?_
  refine lv_lmul hx hb dX8_slopeAt_45 ?_
  refine lv_ladd hx hb dX8_slopeAt_46 ?_
  exact mx_lret C hO hw dX8_slopeAt_47
theorem c_slopeAt (l : Launch) (D : va_G) (y : Nat → ClassId) (ad : Nat → Nat) (X : va_W) (σ : mS) (x1 : Int32) (x2 : Int64) (x4 : Int64) (Q : Int64 → mS → Prop) (hw : w_slopeAt Q x1 x2 x4 σ) : ∀ sz, Met l yX8_slopeAt wsX8_slopeAt rX8_slopeAt (va_Pc [.ref (ad 0), .int x1, .long x2, .long x4] (mPre D y ad X sz σ)) (va_Ql Q (mB D y ad X (va_A (mW y ad σ ++ X) sz)) (va_A (mW y ad σ ++ X) sz)) 0 0 (va_A (mW y ad σ ++ X) sz) :=
  mMet (Qc := fun A => va_Ql Q (mB D y ad X A) A) rfl (Nat.le_of_ble_eq_true rfl) (fun p e s m args below meth c A ls C hO hl => k_slopeAt_e C x1 x2 x4 σ hw s.heap [] ls hO hl)
abbrev rX8_touch : Room := { frames := 3, cells := 0, slots := 0, locals := 70 }
set_option maxRecDepth 100000 in
set_option maxHeartbeats 4000000 in
theorem k_touch_191 {p : Program} {l : Launch} {e : Env} {s : State} {m : MethodId} {args : Array Value} {below : List Frame} {meth : Method} {c : Code} {D : va_G} {y : Nat → ClassId} {ad : Nat → Nat} {X : va_W} {A : Nat → Prop} {Q : Int64 → mS → Prop} (C : mC p s m args meth c cX8_touch 8 (some .long) wsX8_touch D y A) (x4 : Int32) (σ : mS) (hw : w_touch_191 Q x4 σ) (H : Heap) (locs : List Loc) (ls : Array Slot) (hO : mO D y ad X A s.heap H locs σ) (hl : lv_has ls 8 [(0, .ref (ad 0)), (4, .int x4)]) : W p l e rX8_touch s m args below meth c H locs 0 0 (MQ below (va_Ql Q (mB D y ad X A) A) args s 0 0 A) (F0 m 191 ls []) := by
  obtain ⟨hx, hb, hr, hml, hown, hts, hlk, hK, hA⟩ := id C
  have hin : ∀ w ∈ wsX80, w ∈ wsX8_touch := fun _ h => List.mem_cons_of_mem _ (List.mem_append_right _ h)
  unfold w_touch_191 at hw
  refine lv_aload_n hx hb dX8_touch_191 rfl (lv_at hl 0 rfl) ?_
  refine lv_iconst (v := 0) hx hb dX8_touch_192 (by decide) ?_
  refine mx_cvv C hO (c_tidy l D y ad X σ ((0 : Int32)) _ hw) (cwV 1 hts gX8_touch_X8_tidy rfl rfl rfl (by decide +kernel) ⟨Nat.le_of_ble_eq_true rfl, Nat.le_of_ble_eq_true rfl⟩) rfl hl.1 rfl (lv_room (Nat.le_of_ble_eq_true rfl)) dX8_touch_193 (fun σ102 H locs hw hO => ?_)
  refine lv_aload_n hx hb dX8_touch_196 rfl (lv_at hl 0 rfl) ?_
  refine mx_get C hO hin 9 (by decide) (idx := 33) (by decide +kernel) rfl rfl dX8_touch_197 ?_
  refine lv_iload hx hb dX8_touch_200 (lv_at hl 1 rfl) ?_
  refine mx_lald C hO (a := 8) rfl hw.1 dX8_touch_202 ?_
  have hw := hw.2
  exact mx_lret C hO hw dX8_touch_203
set_option maxRecDepth 100000 in
set_option maxHeartbeats 4000000 in
theorem k_touch_128 {p : Program} {l : Launch} {e : Env} {s : State} {m : MethodId} {args : Array Value} {below : List Frame} {meth : Method} {c : Code} {D : va_G} {y : Nat → ClassId} {ad : Nat → Nat} {X : va_W} {A : Nat → Prop} {Q : Int64 → mS → Prop} (C : mC p s m args meth c cX8_touch 8 (some .long) wsX8_touch D y A) (n : Nat) : ∀ (x4 : Int32) (x7 : Int32) (σ : mS), w_touch_128 Q n x4 x7 σ → ∀ (H : Heap) (locs : List Loc) (ls : Array Slot), mO D y ad X A s.heap H locs σ → lv_has ls 8 [(0, .ref (ad 0)), (4, .int x4), (7, .int x7)] → W p l e rX8_touch s m args below meth c H locs 0 0 (MQ below (va_Ql Q (mB D y ad X A) A) args s 0 0 A) (F0 m 128 ls []) := by
  obtain ⟨hx, hb, hr, hml, hown, hts, hlk, hK, hA⟩ := id C
  have hin : ∀ w ∈ wsX80, w ∈ wsX8_touch := fun _ h => List.mem_cons_of_mem _ (List.mem_append_right _ h)
  induction n with
  | zero =>
    intro x4 x7 σ hw
    exact (show False from hw).elim
  | succ n ih =>
    intro x4 x7 σ hw H locs ls hO hl
    unfold w_touch_128 at hw
    refine lv_iload hx hb dX8_touch_128 (lv_at hl 2 rfl) ?_
    refine lv_iconst (v := 3) hx hb dX8_touch_130 (by decide) ?_
    refine lv_icmp_ge (tgt := 154) hx hb dX8_touch_131 (by decide) (fun hc => ?_) (fun hc => ?_)
    · have hw := hw.1 hc
      refine lv_aload_n hx hb dX8_touch_154 rfl (lv_at hl 0 rfl) ?_
      refine mx_get C hO hin 9 (by decide) (idx := 33) (by decide +kernel) rfl rfl dX8_touch_155 ?_
      refine lv_iconst (v := 0) hx hb dX8_touch_158 (by decide) ?_
      refine mx_lald C hO (a := 8) rfl hw.1 dX8_touch_159 ?_
      have hw := hw.2
      refine lv_lconst (v := 0) hx hb dX8_touch_160 (by decide) ?_
      refine W.lcmp hx hb dX8_touch_161 ?_
      refine lv_if_ne (tgt := 191) hx hb dX8_touch_162 (by decide) (fun hc => ?_) (fun hc => ?_)
      · have hc := (not_congr (lg_cmp_eq _ _)).mp hc
        have hw := hw.1 hc
        exact k_touch_191 C x4 σ hw H locs ls hO (lv_sub hl [0, 1] rfl)
      · have hc := (lg_cmp_eq _ _).mp hc
        have hw := hw.2 hc
        refine lv_aload_n hx hb dX8_touch_165 rfl (lv_at hl 0 rfl) ?_
        refine mx_get C hO hin 9 (by decide) (idx := 33) (by decide +kernel) rfl rfl dX8_touch_166 ?_
        refine lv_iconst (v := 1) hx hb dX8_touch_169 (by decide) ?_
        refine mx_lald C hO (a := 8) rfl hw.1 dX8_touch_170 ?_
        have hw := hw.2
        refine lv_lconst (v := 0) hx hb dX8_touch_171 (by decide) ?_
        refine W.lcmp hx hb dX8_touch_172 ?_
        refine lv_if_ne (tgt := 191) hx hb dX8_touch_173 (by decide) (fun hc => ?_) (fun hc => ?_)
        · have hc := (not_congr (lg_cmp_eq _ _)).mp hc
          have hw := hw.1 hc
          exact k_touch_191 C x4 σ hw H locs ls hO (lv_sub hl [0, 1] rfl)
        · have hc := (lg_cmp_eq _ _).mp hc
          have hw := hw.2 hc
          refine lv_aload_n hx hb dX8_touch_176 rfl (lv_at hl 0 rfl) ?_
          refine mx_get C hO hin 9 (by decide) (idx := 33) (by decide +kernel) rfl rfl dX8_touch_177 ?_
          refine lv_iconst (v := 2) hx hb dX8_touch_180 (by decide) ?_
          refine mx_lald C hO (a := 8) rfl hw.1 dX8_touch_181 ?_
          have hw := hw.2
          refine lv_lconst (v := 0) hx hb dX8_touch_182 (by decide) ?_
          refine W.lcmp hx hb dX8_touch_183 ?_
          refine lv_if_ne (tgt := 191) hx hb dX8_touch_184 (by decide) (fun hc => ?_) (fun hc => ?_)
          · have hc := (not_congr (lg_cmp_eq _ _)).mp hc
            have hw := hw.1 hc
            exact k_touch_191 C x4 σ hw H locs ls hO (lv_sub hl [0, 1] rfl)
          · have hc := (lg_cmp_eq _ _).mp hc
            have hw := hw.2 hc
            refine lv_ldc2 (v := -1000000000004) hx hb hown (hts (.constantLong RX8 181 (-1000000000004)) (by decide +kernel)) dX8_touch_187 ?_
            exact mx_lret C hO hw dX8_touch_190
    · have hw := hw.2 hc
      refine lv_aload_n hx hb dX8_touch_134 rfl (lv_at hl 0 rfl) ?_
      refine mx_get C hO hin 9 (by decide) (idx := 33) (by decide +kernel) rfl rfl dX8_touch_135 ?_
      refine lv_iload hx hb dX8_touch_138 (lv_at hl 2 rfl) ?_
      refine lv_aload_n hx hb dX8_touch_140 rfl (lv_at hl 0 rfl) ?_
      refine mx_get C hO hin 5 (by decide) (idx := 26) (by decide +kernel) rfl rfl dX8_touch_141 ?_
      refine lv_iload hx hb dX8_touch_144 (lv_at hl 2 rfl) ?_
      refine mx_lald C hO (a := 6) rfl hw.1 dX8_touch_146 ?_
      have hw := hw.2
      refine mx_last C hO (a := 8) rfl hw.1 dX8_touch_147 (fun H locs σ101 eσ101 hO => ?_)
      have hw := hw.2 σ101 eσ101
      obtain ⟨x7_102, ex7_102⟩ : ∃ y : Int32, y = x7 + 1 := ⟨_, rfl⟩
      have hw := hw x7_102 ex7_102
      refine lv_iinc (v := x7_102) (lv' := [(7, .int x7_102), (0, .ref (ad 0)), (4, .int x4)]) hx hb dX8_touch_148 hl (k := 2) rfl (by rw [ex7_102]; rfl) (by decide) rfl (fun ls hl => ?_)
      refine lv_goto (tgt := 128) hx hb dX8_touch_151 (by decide) ?_
      exact ih x4 x7_102 σ101 hw H locs ls hO (lv_sub hl [1, 2, 0] rfl)
set_option maxRecDepth 100000 in
set_option maxHeartbeats 4000000 in
theorem k_touch_30 {p : Program} {l : Launch} {e : Env} {s : State} {m : MethodId} {args : Array Value} {below : List Frame} {meth : Method} {c : Code} {D : va_G} {y : Nat → ClassId} {ad : Nat → Nat} {X : va_W} {A : Nat → Prop} {Q : Int64 → mS → Prop} (C : mC p s m args meth c cX8_touch 8 (some .long) wsX8_touch D y A) (x1 : Int32) (x2 : Int32) (x3 : Int32) (x4 : Int32) (z0 : Int32) (σ : mS) (hw : w_touch_30 Q x1 x2 x3 x4 z0 σ) (H : Heap) (locs : List Loc) (ls : Array Slot) (hO : mO D y ad X A s.heap H locs σ) (hl : lv_has ls 8 [(0, .ref (ad 0)), (1, .int x1), (2, .int x2), (3, .int x3), (4, .int x4)]) : W p l e rX8_touch s m args below meth c H locs 0 0 (MQ below (va_Ql Q (mB D y ad X A) A) args s 0 0 A) (F0 m 30 ls [.int z0]) := by
  obtain ⟨hx, hb, hr, hml, hown, hts, hlk, hK, hA⟩ := id C
  unfold w_touch_30 at hw
  refine lv_istore (lv' := [(5, .int z0), (0, .ref (ad 0)), (1, .int x1), (2, .int x2), (3, .int x3), (4, .int x4)]) hx hb dX8_touch_30 hl (by decide) rfl (fun ls hl => ?_)
  refine lv_iload hx hb dX8_touch_32 (lv_at hl 0 rfl) ?_
  refine lv_if_ge (tgt := 45) hx hb dX8_touch_34 (by decide) (fun hc => ?_) (fun hc => ?_)
  · have hw := hw.1 hc
    refine lv_bipush (v := 12) hx hb dX8_touch_45 (by decide) ?_
    refine lv_iload_n hx hb dX8_touch_47 rfl (lv_at hl 2 rfl) ?_
    refine lv_imul hx hb dX8_touch_48 ?_
    refine lv_topi (fun x6_101 ex6_101 => ?_)
    have hw := hw x6_101 ex6_101
    refine lv_istore (lv' := [(6, .int x6_101), (5, .int z0), (0, .ref (ad 0)), (1, .int x1), (2, .int x2), (3, .int x3), (4, .int x4)]) hx hb dX8_touch_49 hl (by decide) rfl (fun ls hl => ?_)
    refine lv_aload_n hx hb dX8_touch_51 rfl (lv_at hl 2 rfl) ?_
    refine lv_aload_n hx hb dX8_touch_52 rfl (lv_at hl 2 rfl) ?_
    refine lv_iload hx hb dX8_touch_53 (lv_at hl 0 rfl) ?_
    refine lv_iload_n hx hb dX8_touch_55 rfl (lv_at hl 4 rfl) ?_
    refine lv_i2l hx hb dX8_touch_56 rfl ?_
    refine lv_iload_n hx hb dX8_touch_57 rfl (lv_at hl 5 rfl) ?_
    refine lv_i2l hx hb dX8_touch_58 rfl ?_
    refine mx_clv C hO (c_valueAt l D y ad X σ x6_101 (x2.toInt64) (x3.toInt64) _ hw) (cwV 3 hts gX8_touch_X8_valueAt rfl rfl rfl (by decide +kernel) ⟨Nat.le_of_ble_eq_true rfl, Nat.le_of_ble_eq_true rfl⟩) rfl hl.1 rfl (lv_room (Nat.le_of_ble_eq_true rfl)) dX8_touch_59 (fun u102 σ103 H locs hw hO => ?_)
    refine lv_aload_n hx hb dX8_touch_62 rfl (lv_at hl 2 rfl) ?_
    refine lv_iload hx hb dX8_touch_63 (lv_at hl 0 rfl) ?_
    refine lv_iconst (v := 4) hx hb dX8_touch_65 (by decide) ?_
    refine lv_iadd hx hb dX8_touch_66 ?_
    refine lv_iload_n hx hb dX8_touch_67 rfl (lv_at hl 4 rfl) ?_
    refine lv_i2l hx hb dX8_touch_68 rfl ?_
    refine lv_iload_n hx hb dX8_touch_69 rfl (lv_at hl 5 rfl) ?_
    refine lv_i2l hx hb dX8_touch_70 rfl ?_
    refine mx_clv C hO (c_valueAt l D y ad X σ103 (x6_101 + (4 : Int32)) (x2.toInt64) (x3.toInt64) _ hw) (cwV 3 hts gX8_touch_X8_valueAt rfl rfl rfl (by decide +kernel) ⟨Nat.le_of_ble_eq_true rfl, Nat.le_of_ble_eq_true rfl⟩) rfl hl.1 rfl (lv_room (Nat.le_of_ble_eq_true rfl)) dX8_touch_71 (fun u104 σ105 H locs hw hO => ?_)
    refine lv_aload_n hx hb dX8_touch_74 rfl (lv_at hl 2 rfl) ?_
    refine lv_iload hx hb dX8_touch_75 (lv_at hl 0 rfl) ?_
    refine lv_bipush (v := 8) hx hb dX8_touch_77 (by decide) ?_
    refine lv_iadd hx hb dX8_touch_79 ?_
    refine lv_iload_n hx hb dX8_touch_80 rfl (lv_at hl 4 rfl) ?_
    refine lv_i2l hx hb dX8_touch_81 rfl ?_
    refine lv_iload_n hx hb dX8_touch_82 rfl (lv_at hl 5 rfl) ?_
    refine lv_i2l hx hb dX8_touch_83 rfl ?_
    refine mx_clv C hO (c_valueAt l D y ad X σ105 (x6_101 + (8 : Int32)) (x2.toInt64) (x3.toInt64) _ hw) (cwV 3 hts gX8_touch_X8_valueAt rfl rfl rfl (by decide +kernel) ⟨Nat.le_of_ble_eq_true rfl, Nat.le_of_ble_eq_true rfl⟩) rfl hl.1 rfl (lv_room (Nat.le_of_ble_eq_true rfl)) dX8_touch_84 (fun u106 σ107 H locs hw hO => ?_)
    refine lv_aload_n hx hb dX8_touch_87 rfl (lv_at hl 2 rfl) ?_
    refine lv_iload hx hb dX8_touch_88 (lv_at hl 0 rfl) ?_
    refine lv_iload_n hx hb dX8_touch_90 rfl (lv_at hl 4 rfl) ?_
    refine lv_i2l hx hb dX8_touch_91 rfl ?_
    refine lv_iload_n hx hb dX8_touch_92 rfl (lv_at hl 5 rfl) ?_
    refine lv_i2l hx hb dX8_touch_93 rfl ?_
    refine mx_clv C hO (c_slopeAt l D y ad X σ107 x6_101 (x2.toInt64) (x3.toInt64) _ hw) (cwV 3 hts gX8_touch_X8_slopeAt rfl rfl rfl (by decide +kernel) ⟨Nat.le_of_ble_eq_true rfl, Nat.le_of_ble_eq_true rfl⟩) rfl hl.1 rfl (lv_room (Nat.le_of_ble_eq_true rfl)) dX8_touch_94 (fun u108 σ109 H locs hw hO => ?_)
    refine lv_aload_n hx hb dX8_touch_97 rfl (lv_at hl 2 rfl) ?_
    refine lv_iload hx hb dX8_touch_98 (lv_at hl 0 rfl) ?_
    refine lv_iconst (v := 4) hx hb dX8_touch_100 (by decide) ?_
    refine lv_iadd hx hb dX8_touch_101 ?_
    refine lv_iload_n hx hb dX8_touch_102 rfl (lv_at hl 4 rfl) ?_
    refine lv_i2l hx hb dX8_touch_103 rfl ?_
    refine lv_iload_n hx hb dX8_touch_104 rfl (lv_at hl 5 rfl) ?_
    refine lv_i2l hx hb dX8_touch_105 rfl ?_
    refine mx_clv12 C hO (c_slopeAt l D y ad X σ109 (x6_101 + (4 : Int32)) (x2.toInt64) (x3.toInt64) _ hw) (cwV 3 hts gX8_touch_X8_slopeAt rfl rfl rfl (by decide +kernel) ⟨Nat.le_of_ble_eq_true rfl, Nat.le_of_ble_eq_true rfl⟩) (Nat.le_of_ble_eq_true rfl) rfl hl.1 rfl (Nat.le_of_ble_eq_true rfl) dX8_touch_106 (fun u110 σ111 H locs hw hO => ?_)
    refine lv_aload_n hx hb dX8_touch_109 rfl (lv_at hl 2 rfl) ?_
    refine lv_iload hx hb dX8_touch_110 (lv_at hl 0 rfl) ?_
    refine lv_bipush (v := 8) hx hb dX8_touch_112 (by decide) ?_
    refine lv_iadd hx hb dX8_touch_114 ?_
    refine lv_iload_n hx hb dX8_touch_115 rfl (lv_at hl 4 rfl) ?_
    refine lv_i2l hx hb dX8_touch_116 rfl ?_
    refine lv_iload_n hx hb dX8_touch_117 rfl (lv_at hl 5 rfl) ?_
    refine lv_i2l hx hb dX8_touch_118 rfl ?_
    refine mx_clv12 C hO (c_slopeAt l D y ad X σ111 (x6_101 + (8 : Int32)) (x2.toInt64) (x3.toInt64) _ hw) (cwV 3 hts gX8_touch_X8_slopeAt rfl rfl rfl (by decide +kernel) ⟨Nat.le_of_ble_eq_true rfl, Nat.le_of_ble_eq_true rfl⟩) (Nat.le_of_ble_eq_true rfl) rfl hl.1 rfl (Nat.le_of_ble_eq_true rfl) dX8_touch_119 (fun u112 σ113 H locs hw hO => ?_)
    refine mx_cvv C hO (c_cross l D y ad X σ113 u102 u104 u106 u108 u110 u112 _ hw) (cwV 6 hts gX8_touch_X8_cross rfl rfl rfl (by decide +kernel) ⟨Nat.le_of_ble_eq_true rfl, Nat.le_of_ble_eq_true rfl⟩) rfl hl.1 rfl (lv_room (Nat.le_of_ble_eq_true rfl)) dX8_touch_122 (fun σ115 H locs hw hO => ?_)
    refine lv_iconst (v := 0) hx hb dX8_touch_125 (by decide) ?_
    refine lv_istore (lv' := [(7, .int ((0 : Int32))), (6, .int x6_101), (5, .int z0), (0, .ref (ad 0)), (1, .int x1), (2, .int x2), (3, .int x3), (4, .int x4)]) hx hb dX8_touch_126 hl (by decide) rfl (fun ls hl => ?_)
    exact k_touch_128 C fuL x4 ((0 : Int32)) σ115 hw H locs ls hO (lv_sub hl [3, 7, 0] rfl)
  · have hw := hw.2 hc
    refine lv_iload hx hb dX8_touch_37 (lv_at hl 0 rfl) ?_
    refine lv_i2l hx hb dX8_touch_39 rfl ?_
    refine lv_ldc2 (v := 1000000000000) hx hb hown (hts (.constantLong RX8 175 (1000000000000)) (by decide +kernel)) dX8_touch_40 ?_
    refine lv_lsub hx hb dX8_touch_43 ?_
    exact mx_lret C hO hw dX8_touch_44
set_option maxRecDepth 100000 in
set_option maxHeartbeats 4000000 in
theorem k_touch_21 {p : Program} {l : Launch} {e : Env} {s : State} {m : MethodId} {args : Array Value} {below : List Frame} {meth : Method} {c : Code} {D : va_G} {y : Nat → ClassId} {ad : Nat → Nat} {X : va_W} {A : Nat → Prop} {Q : Int64 → mS → Prop} (C : mC p s m args meth c cX8_touch 8 (some .long) wsX8_touch D y A) (x1 : Int32) (x2 : Int32) (x3 : Int32) (x4 : Int32) (σ : mS) (hw : w_touch_21 Q x1 x2 x3 x4 σ) (H : Heap) (locs : List Loc) (ls : Array Slot) (hO : mO D y ad X A s.heap H locs σ) (hl : lv_has ls 8 [(0, .ref (ad 0)), (1, .int x1), (2, .int x2), (3, .int x3), (4, .int x4)]) : W p l e rX8_touch s m args below meth c H locs 0 0 (MQ below (va_Ql Q (mB D y ad X A) A) args s 0 0 A) (F0 m 21 ls []) := by
  obtain ⟨hx, hb, hr, hml, hown, hts, hlk, hK, hA⟩ := id C
  unfold w_touch_21 at hw
  refine lv_iconst (v := -1) hx hb dX8_touch_21 (by decide) ?_
  refine lv_goto (tgt := 30) hx hb dX8_touch_22 (by decide) ?_
  exact k_touch_30 C x1 x2 x3 x4 ((-1 : Int32)) σ hw H locs ls hO (lv_sub hl [0, 1, 2, 3, 4] rfl)
set_option maxRecDepth 100000 in
set_option maxHeartbeats 4000000 in
theorem k_touch_e {p : Program} {l : Launch} {e : Env} {s : State} {m : MethodId} {args : Array Value} {below : List Frame} {meth : Method} {c : Code} {D : va_G} {y : Nat → ClassId} {ad : Nat → Nat} {X : va_W} {A : Nat → Prop} {Q : Int64 → mS → Prop} (C : mC p s m args meth c cX8_touch 8 (some .long) wsX8_touch D y A) (x1 : Int32) (x2 : Int32) (x3 : Int32) (x4 : Int32) (σ : mS) (hw : w_touch Q x1 x2 x3 x4 σ) (H : Heap) (locs : List Loc) (ls : Array Slot) (hO : mO D y ad X A s.heap H locs σ) (hl : lv_has ls 8 [(0, .ref (ad 0)), (1, .int x1), (2, .int x2), (3, .int x3), (4, .int x4)]) : W p l e rX8_touch s m args below meth c H locs 0 0 (MQ below (va_Ql Q (mB D y ad X A) A) args s 0 0 A) (F0 m 0 ls []) := by
  obtain ⟨hx, hb, hr, hml, hown, hts, hlk, hK, hA⟩ := id C
  unfold w_touch at hw
  refine lv_iload_n hx hb dX8_touch_0 rfl (lv_at hl 2 rfl) ?_
  refine lv_iload_n hx hb dX8_touch_1 rfl (lv_at hl 3 rfl) ?_
  refine mx_cis C hO (c_isTime l D y ad X σ x2 x3 _ hw) (va_cwS 2 hts gX8_touch_X8_isTime rfl rfl rfl (by decide +kernel) ⟨Nat.le_of_ble_eq_true rfl, Nat.le_of_ble_eq_true rfl⟩) rfl hl.1 rfl (lv_room (Nat.le_of_ble_eq_true rfl)) dX8_touch_2 (fun u101 σ102 H locs hw hO => ?_)
  refine lv_if_eq (tgt := 21) hx hb dX8_touch_5 (by decide) (fun hc => ?_) (fun hc => ?_)
  · have hw := hw.1 hc
    exact k_touch_21 C x1 x2 x3 x4 σ102 hw H locs ls hO (lv_sub hl [0, 1, 2, 3, 4] rfl)
  · have hw := hw.2 hc
    refine lv_iload hx hb dX8_touch_8 (lv_at hl 4 rfl) ?_
    refine lv_i2l hx hb dX8_touch_10 rfl ?_
    refine lv_lconst (v := 0) hx hb dX8_touch_11 (by decide) ?_
    refine lv_ldc2 (v := 2) hx hb hown (hts (.constantLong RX8 166 (2)) (by decide +kernel)) dX8_touch_12 ?_
    refine mx_cis C hO (c_in l D y ad X σ102 (x4.toInt64) ((0 : Int64)) ((2 : Int64)) _ hw) (va_cwS 3 hts gX8_touch_X8_in rfl rfl rfl (by decide +kernel) ⟨Nat.le_of_ble_eq_true rfl, Nat.le_of_ble_eq_true rfl⟩) rfl hl.1 rfl (lv_room (Nat.le_of_ble_eq_true rfl)) dX8_touch_15 (fun u103 σ104 H locs hw hO => ?_)
    refine lv_if_ne (tgt := 25) hx hb dX8_touch_18 (by decide) (fun hc => ?_) (fun hc => ?_)
    · have hw := hw.1 hc
      refine lv_aload_n hx hb dX8_touch_25 rfl (lv_at hl 0 rfl) ?_
      refine lv_iload_n hx hb dX8_touch_26 rfl (lv_at hl 1 rfl) ?_
      refine mx_civ C hO (c_against l D y ad X σ104 x1 _ hw) (cwV 1 hts gX8_touch_X8_against rfl rfl rfl (by decide +kernel) ⟨Nat.le_of_ble_eq_true rfl, Nat.le_of_ble_eq_true rfl⟩) rfl hl.1 rfl (lv_room (Nat.le_of_ble_eq_true rfl)) dX8_touch_27 (fun u105 σ106 H locs hw hO => ?_)
      exact k_touch_30 C x1 x2 x3 x4 u105 σ106 hw H locs ls hO (lv_sub hl [0, 1, 2, 3, 4] rfl)
    · have hw := hw.2 hc
      exact k_touch_21 C x1 x2 x3 x4 σ104 hw H locs ls hO (lv_sub hl [0, 1, 2, 3, 4] rfl)
theorem c_touch (l : Launch) (D : va_G) (y : Nat → ClassId) (ad : Nat → Nat) (X : va_W) (σ : mS) (x1 : Int32) (x2 : Int32) (x3 : Int32) (x4 : Int32) (Q : Int64 → mS → Prop) (hw : w_touch Q x1 x2 x3 x4 σ) : ∀ sz, Met l yX8_touch wsX8_touch rX8_touch (va_Pc [.ref (ad 0), .int x1, .int x2, .int x3, .int x4] (mPre D y ad X sz σ)) (va_Ql Q (mB D y ad X (va_A (mW y ad σ ++ X) sz)) (va_A (mW y ad σ ++ X) sz)) 0 0 (va_A (mW y ad σ ++ X) sz) :=
  mMet (Qc := fun A => va_Ql Q (mB D y ad X A) A) rfl (Nat.le_of_ble_eq_true rfl) (fun p e s m args below meth c A ls C hO hl => k_touch_e C x1 x2 x3 x4 σ hw s.heap [] ls hO hl)
abbrev rX8_same : Room := { frames := 5, cells := 0, slots := 0, locals := 131 }
set_option maxRecDepth 100000 in
set_option maxHeartbeats 4000000 in
theorem k_same_14 {p : Program} {l : Launch} {e : Env} {s : State} {m : MethodId} {args : Array Value} {below : List Frame} {meth : Method} {c : Code} {D : va_G} {y : Nat → ClassId} {ad : Nat → Nat} {X : va_W} {A : Nat → Prop} {Q : Int32 → mS → Prop} (C : mC p s m args meth c cX8_same 6 (some .int) wsX8_same D y A)  (σ : mS) (hw : w_same_14 Q σ) (H : Heap) (locs : List Loc) (ls : Array Slot) (hO : mO D y ad X A s.heap H locs σ) (hl : lv_has ls 6 [(0, .ref (ad 0))]) : W p l e rX8_same s m args below meth c H locs 0 0 (MQ below (va_Qi Q (mB D y ad X A) A) args s 0 0 A) (F0 m 14 ls []) := by
  obtain ⟨hx, hb, hr, hml, hown, hts, hlk, hK, hA⟩ := id C
  unfold w_same_14 at hw
  refine lv_iconst (v := -1) hx hb dX8_same_14 (by decide) ?_
  exact mx_iret C hO hw dX8_same_15
set_option maxRecDepth 100000 in
set_option maxHeartbeats 4000000 in
theorem k_same_34 {p : Program} {l : Launch} {e : Env} {s : State} {m : MethodId} {args : Array Value} {below : List Frame} {meth : Method} {c : Code} {D : va_G} {y : Nat → ClassId} {ad : Nat → Nat} {X : va_W} {A : Nat → Prop} {Q : Int32 → mS → Prop} (C : mC p s m args meth c cX8_same 6 (some .int) wsX8_same D y A)  (σ : mS) (hw : w_same_34 Q σ) (H : Heap) (locs : List Loc) (ls : Array Slot) (hO : mO D y ad X A s.heap H locs σ) (hl : lv_has ls 6 [(0, .ref (ad 0))]) : W p l e rX8_same s m args below meth c H locs 0 0 (MQ below (va_Qi Q (mB D y ad X A) A) args s 0 0 A) (F0 m 34 ls []) := by
  obtain ⟨hx, hb, hr, hml, hown, hts, hlk, hK, hA⟩ := id C
  unfold w_same_34 at hw
  refine lv_bipush (v := -2) hx hb dX8_same_34 (by decide) ?_
  exact mx_iret C hO hw dX8_same_36
set_option maxRecDepth 100000 in
set_option maxHeartbeats 4000000 in
theorem k_same_109 {p : Program} {l : Launch} {e : Env} {s : State} {m : MethodId} {args : Array Value} {below : List Frame} {meth : Method} {c : Code} {D : va_G} {y : Nat → ClassId} {ad : Nat → Nat} {X : va_W} {A : Nat → Prop} {Q : Int32 → mS → Prop} (C : mC p s m args meth c cX8_same 6 (some .int) wsX8_same D y A) {r64 : Int32 → Int32 → Int32 → Int32 → mS → Prop} (hr64 : ∀ (x1 : Int32) (x2 : Int32) (x4 : Int32) (x5 : Int32) (σ : mS), r64 x1 x2 x4 x5 σ → ∀ (H : Heap) (locs : List Loc) (ls : Array Slot), mO D y ad X A s.heap H locs σ → lv_has ls 6 [(0, .ref (ad 0)), (1, .int x1), (2, .int x2), (4, .int x4), (5, .int x5)] → W p l e rX8_same s m args below meth c H locs 0 0 (MQ below (va_Qi Q (mB D y ad X A) A) args s 0 0 A) (F0 m 64 ls [])) (x1 : Int32) (x2 : Int32) (x5 : Int32) (z0 : Int32) (σ : mS) (hw : w_same_109 Q r64 x1 x2 x5 z0 σ) (H : Heap) (locs : List Loc) (ls : Array Slot) (hO : mO D y ad X A s.heap H locs σ) (hl : lv_has ls 6 [(0, .ref (ad 0)), (1, .int x1), (2, .int x2), (5, .int x5)]) : W p l e rX8_same s m args below meth c H locs 0 0 (MQ below (va_Qi Q (mB D y ad X A) A) args s 0 0 A) (F0 m 109 ls [.int z0]) := by
  obtain ⟨hx, hb, hr, hml, hown, hts, hlk, hK, hA⟩ := id C
  unfold w_same_109 at hw
  refine lv_istore (lv' := [(4, .int z0), (0, .ref (ad 0)), (1, .int x1), (2, .int x2), (5, .int x5)]) hx hb dX8_same_109 hl (by decide) rfl (fun ls hl => ?_)
  obtain ⟨x5_101, ex5_101⟩ : ∃ y : Int32, y = x5 + 1 := ⟨_, rfl⟩
  have hw := hw x5_101 ex5_101
  refine lv_iinc (v := x5_101) (lv' := [(5, .int x5_101), (4, .int z0), (0, .ref (ad 0)), (1, .int x1), (2, .int x2)]) hx hb dX8_same_111 hl (k := 4) rfl (by rw [ex5_101]; rfl) (by decide) rfl (fun ls hl => ?_)
  refine lv_goto (tgt := 64) hx hb dX8_same_114 (by decide) ?_
  exact hr64 x1 x2 z0 x5_101 σ hw H locs ls hO (lv_sub hl [2, 3, 4, 1, 0] rfl)
set_option maxRecDepth 100000 in
set_option maxHeartbeats 4000000 in
theorem k_same_108 {p : Program} {l : Launch} {e : Env} {s : State} {m : MethodId} {args : Array Value} {below : List Frame} {meth : Method} {c : Code} {D : va_G} {y : Nat → ClassId} {ad : Nat → Nat} {X : va_W} {A : Nat → Prop} {Q : Int32 → mS → Prop} (C : mC p s m args meth c cX8_same 6 (some .int) wsX8_same D y A) {r64 : Int32 → Int32 → Int32 → Int32 → mS → Prop} (hr64 : ∀ (x1 : Int32) (x2 : Int32) (x4 : Int32) (x5 : Int32) (σ : mS), r64 x1 x2 x4 x5 σ → ∀ (H : Heap) (locs : List Loc) (ls : Array Slot), mO D y ad X A s.heap H locs σ → lv_has ls 6 [(0, .ref (ad 0)), (1, .int x1), (2, .int x2), (4, .int x4), (5, .int x5)] → W p l e rX8_same s m args below meth c H locs 0 0 (MQ below (va_Qi Q (mB D y ad X A) A) args s 0 0 A) (F0 m 64 ls [])) (x1 : Int32) (x2 : Int32) (x5 : Int32) (σ : mS) (hw : w_same_108 Q r64 x1 x2 x5 σ) (H : Heap) (locs : List Loc) (ls : Array Slot) (hO : mO D y ad X A s.heap H locs σ) (hl : lv_has ls 6 [(0, .ref (ad 0)), (1, .int x1), (2, .int x2), (5, .int x5)]) : W p l e rX8_same s m args below meth c H locs 0 0 (MQ below (va_Qi Q (mB D y ad X A) A) args s 0 0 A) (F0 m 108 ls []) := by
  obtain ⟨hx, hb, hr, hml, hown, hts, hlk, hK, hA⟩ := id C
  unfold w_same_108 at hw
  refine lv_iconst (v := 0) hx hb dX8_same_108 (by decide) ?_
  exact k_same_109 C hr64 x1 x2 x5 ((0 : Int32)) σ hw H locs ls hO (lv_sub hl [0, 1, 2, 3] rfl)
set_option maxRecDepth 100000 in
set_option maxHeartbeats 4000000 in
theorem k_same_127 {p : Program} {l : Launch} {e : Env} {s : State} {m : MethodId} {args : Array Value} {below : List Frame} {meth : Method} {c : Code} {D : va_G} {y : Nat → ClassId} {ad : Nat → Nat} {X : va_W} {A : Nat → Prop} {Q : Int32 → mS → Prop} (C : mC p s m args meth c cX8_same 6 (some .int) wsX8_same D y A) (z0 : Int32) (σ : mS) (hw : w_same_127 Q z0 σ) (H : Heap) (locs : List Loc) (ls : Array Slot) (hO : mO D y ad X A s.heap H locs σ) (hl : lv_has ls 6 [(0, .ref (ad 0))]) : W p l e rX8_same s m args below meth c H locs 0 0 (MQ below (va_Qi Q (mB D y ad X A) A) args s 0 0 A) (F0 m 127 ls [.int z0]) := by
  obtain ⟨hx, hb, hr, hml, hown, hts, hlk, hK, hA⟩ := id C
  unfold w_same_127 at hw
  exact mx_iret C hO hw dX8_same_127
set_option maxRecDepth 100000 in
set_option maxHeartbeats 4000000 in
theorem k_same_64 {p : Program} {l : Launch} {e : Env} {s : State} {m : MethodId} {args : Array Value} {below : List Frame} {meth : Method} {c : Code} {D : va_G} {y : Nat → ClassId} {ad : Nat → Nat} {X : va_W} {A : Nat → Prop} {Q : Int32 → mS → Prop} (C : mC p s m args meth c cX8_same 6 (some .int) wsX8_same D y A) (n : Nat) : ∀ (x1 : Int32) (x2 : Int32) (x4 : Int32) (x5 : Int32) (σ : mS), w_same_64 Q n x1 x2 x4 x5 σ → ∀ (H : Heap) (locs : List Loc) (ls : Array Slot), mO D y ad X A s.heap H locs σ → lv_has ls 6 [(0, .ref (ad 0)), (1, .int x1), (2, .int x2), (4, .int x4), (5, .int x5)] → W p l e rX8_same s m args below meth c H locs 0 0 (MQ below (va_Qi Q (mB D y ad X A) A) args s 0 0 A) (F0 m 64 ls []) := by
  obtain ⟨hx, hb, hr, hml, hown, hts, hlk, hK, hA⟩ := id C
  have hin : ∀ w ∈ wsX80, w ∈ wsX8_same := fun _ h => List.mem_cons_of_mem _ (List.mem_append_right _ h)
  induction n with
  | zero =>
    intro x1 x2 x4 x5 σ hw
    exact (show False from hw).elim
  | succ n ih =>
    intro x1 x2 x4 x5 σ hw H locs ls hO hl
    unfold w_same_64 at hw
    refine lv_iload hx hb dX8_same_64 (lv_at hl 4 rfl) ?_
    refine lv_bipush (v := 12) hx hb dX8_same_66 (by decide) ?_
    refine lv_icmp_ge (tgt := 117) hx hb dX8_same_68 (by decide) (fun hc => ?_) (fun hc => ?_)
    · have hw := hw.1 hc
      refine lv_iload hx hb dX8_same_117 (lv_at hl 3 rfl) ?_
      refine lv_if_eq (tgt := 126) hx hb dX8_same_119 (by decide) (fun hc => ?_) (fun hc => ?_)
      · have hw := hw.1 hc
        refine lv_iconst (v := 0) hx hb dX8_same_126 (by decide) ?_
        exact k_same_127 C ((0 : Int32)) σ hw H locs ls hO (lv_sub hl [0] rfl)
      · have hw := hw.2 hc
        refine lv_iconst (v := 1) hx hb dX8_same_122 (by decide) ?_
        refine lv_goto (tgt := 127) hx hb dX8_same_123 (by decide) ?_
        exact k_same_127 C ((1 : Int32)) σ hw H locs ls hO (lv_sub hl [0] rfl)
    · have hw := hw.2 hc
      refine lv_iload hx hb dX8_same_71 (lv_at hl 3 rfl) ?_
      refine lv_if_eq (tgt := 108) hx hb dX8_same_73 (by decide) (fun hc => ?_) (fun hc => ?_)
      · have hw := hw.1 hc
        exact k_same_108 C (fun x1 x2 x4 x5 σ hw H locs ls hO hl => ih x1 x2 x4 x5 σ hw H locs ls hO hl) x1 x2 x5 σ hw H locs ls hO (lv_sub hl [0, 1, 2, 4] rfl)
      · have hw := hw.2 hc
        refine lv_aload_n hx hb dX8_same_76 rfl (lv_at hl 0 rfl) ?_
        refine mx_get C hO hin 1 (by decide) (idx := 13) (by decide +kernel) rfl rfl dX8_same_77 ?_
        refine lv_bipush (v := 12) hx hb dX8_same_80 (by decide) ?_
        refine lv_iload_n hx hb dX8_same_82 rfl (lv_at hl 1 rfl) ?_
        refine lv_imul hx hb dX8_same_83 ?_
        refine lv_iload hx hb dX8_same_84 (lv_at hl 4 rfl) ?_
        refine lv_iadd hx hb dX8_same_86 ?_
        refine mx_lald C hO (a := 2) rfl hw.1 dX8_same_87 ?_
        have hw := hw.2
        refine lv_aload_n hx hb dX8_same_88 rfl (lv_at hl 0 rfl) ?_
        refine mx_get C hO hin 1 (by decide) (idx := 13) (by decide +kernel) rfl rfl dX8_same_89 ?_
        refine lv_bipush (v := 12) hx hb dX8_same_92 (by decide) ?_
        refine lv_iload_n hx hb dX8_same_94 rfl (lv_at hl 2 rfl) ?_
        refine lv_imul hx hb dX8_same_95 ?_
        refine lv_iload hx hb dX8_same_96 (lv_at hl 4 rfl) ?_
        refine lv_iadd hx hb dX8_same_98 ?_
        refine mx_lald C hO (a := 2) rfl hw.1 dX8_same_99 ?_
        have hw := hw.2
        refine W.lcmp hx hb dX8_same_100 ?_
        refine lv_if_ne (tgt := 108) hx hb dX8_same_101 (by decide) (fun hc => ?_) (fun hc => ?_)
        · have hc := (not_congr (lg_cmp_eq _ _)).mp hc
          have hw := hw.1 hc
          exact k_same_108 C (fun x1 x2 x4 x5 σ hw H locs ls hO hl => ih x1 x2 x4 x5 σ hw H locs ls hO hl) x1 x2 x5 σ hw H locs ls hO (lv_sub hl [0, 1, 2, 4] rfl)
        · have hc := (lg_cmp_eq _ _).mp hc
          have hw := hw.2 hc
          refine lv_iconst (v := 1) hx hb dX8_same_104 (by decide) ?_
          refine lv_goto (tgt := 109) hx hb dX8_same_105 (by decide) ?_
          exact k_same_109 C (fun x1 x2 x4 x5 σ hw H locs ls hO hl => ih x1 x2 x4 x5 σ hw H locs ls hO hl) x1 x2 x5 ((1 : Int32)) σ hw H locs ls hO (lv_sub hl [0, 1, 2, 4] rfl)
set_option maxRecDepth 100000 in
set_option maxHeartbeats 4000000 in
theorem k_same_206 {p : Program} {l : Launch} {e : Env} {s : State} {m : MethodId} {args : Array Value} {below : List Frame} {meth : Method} {c : Code} {D : va_G} {y : Nat → ClassId} {ad : Nat → Nat} {X : va_W} {A : Nat → Prop} {Q : Int32 → mS → Prop} (C : mC p s m args meth c cX8_same 6 (some .int) wsX8_same D y A) {r171 : Int32 → Int32 → mS → Prop} (hr171 : ∀ (x4 : Int32) (x5 : Int32) (σ : mS), r171 x4 x5 σ → ∀ (H : Heap) (locs : List Loc) (ls : Array Slot), mO D y ad X A s.heap H locs σ → lv_has ls 6 [(0, .ref (ad 0)), (4, .int x4), (5, .int x5)] → W p l e rX8_same s m args below meth c H locs 0 0 (MQ below (va_Qi Q (mB D y ad X A) A) args s 0 0 A) (F0 m 171 ls [])) (x5 : Int32) (z0 : Int32) (σ : mS) (hw : w_same_206 Q r171 x5 z0 σ) (H : Heap) (locs : List Loc) (ls : Array Slot) (hO : mO D y ad X A s.heap H locs σ) (hl : lv_has ls 6 [(0, .ref (ad 0)), (5, .int x5)]) : W p l e rX8_same s m args below meth c H locs 0 0 (MQ below (va_Qi Q (mB D y ad X A) A) args s 0 0 A) (F0 m 206 ls [.int z0]) := by
  obtain ⟨hx, hb, hr, hml, hown, hts, hlk, hK, hA⟩ := id C
  unfold w_same_206 at hw
  refine lv_istore (lv' := [(4, .int z0), (0, .ref (ad 0)), (5, .int x5)]) hx hb dX8_same_206 hl (by decide) rfl (fun ls hl => ?_)
  obtain ⟨x5_101, ex5_101⟩ : ∃ y : Int32, y = x5 + 1 := ⟨_, rfl⟩
  have hw := hw x5_101 ex5_101
  refine lv_iinc (v := x5_101) (lv' := [(5, .int x5_101), (4, .int z0), (0, .ref (ad 0))]) hx hb dX8_same_208 hl (k := 2) rfl (by rw [ex5_101]; rfl) (by decide) rfl (fun ls hl => ?_)
  refine lv_goto (tgt := 171) hx hb dX8_same_211 (by decide) ?_
  exact hr171 z0 x5_101 σ hw H locs ls hO (lv_sub hl [2, 1, 0] rfl)
set_option maxRecDepth 100000 in
set_option maxHeartbeats 4000000 in
theorem k_same_205 {p : Program} {l : Launch} {e : Env} {s : State} {m : MethodId} {args : Array Value} {below : List Frame} {meth : Method} {c : Code} {D : va_G} {y : Nat → ClassId} {ad : Nat → Nat} {X : va_W} {A : Nat → Prop} {Q : Int32 → mS → Prop} (C : mC p s m args meth c cX8_same 6 (some .int) wsX8_same D y A) {r171 : Int32 → Int32 → mS → Prop} (hr171 : ∀ (x4 : Int32) (x5 : Int32) (σ : mS), r171 x4 x5 σ → ∀ (H : Heap) (locs : List Loc) (ls : Array Slot), mO D y ad X A s.heap H locs σ → lv_has ls 6 [(0, .ref (ad 0)), (4, .int x4), (5, .int x5)] → W p l e rX8_same s m args below meth c H locs 0 0 (MQ below (va_Qi Q (mB D y ad X A) A) args s 0 0 A) (F0 m 171 ls [])) (x5 : Int32) (σ : mS) (hw : w_same_205 Q r171 x5 σ) (H : Heap) (locs : List Loc) (ls : Array Slot) (hO : mO D y ad X A s.heap H locs σ) (hl : lv_has ls 6 [(0, .ref (ad 0)), (5, .int x5)]) : W p l e rX8_same s m args below meth c H locs 0 0 (MQ below (va_Qi Q (mB D y ad X A) A) args s 0 0 A) (F0 m 205 ls []) := by
  obtain ⟨hx, hb, hr, hml, hown, hts, hlk, hK, hA⟩ := id C
  unfold w_same_205 at hw
  refine lv_iconst (v := 0) hx hb dX8_same_205 (by decide) ?_
  exact k_same_206 C hr171 x5 ((0 : Int32)) σ hw H locs ls hO (lv_sub hl [0, 1] rfl)
set_option maxRecDepth 100000 in
set_option maxHeartbeats 4000000 in
theorem k_same_224 {p : Program} {l : Launch} {e : Env} {s : State} {m : MethodId} {args : Array Value} {below : List Frame} {meth : Method} {c : Code} {D : va_G} {y : Nat → ClassId} {ad : Nat → Nat} {X : va_W} {A : Nat → Prop} {Q : Int32 → mS → Prop} (C : mC p s m args meth c cX8_same 6 (some .int) wsX8_same D y A) (z0 : Int32) (σ : mS) (hw : w_same_224 Q z0 σ) (H : Heap) (locs : List Loc) (ls : Array Slot) (hO : mO D y ad X A s.heap H locs σ) (hl : lv_has ls 6 [(0, .ref (ad 0))]) : W p l e rX8_same s m args below meth c H locs 0 0 (MQ below (va_Qi Q (mB D y ad X A) A) args s 0 0 A) (F0 m 224 ls [.int z0]) := by
  obtain ⟨hx, hb, hr, hml, hown, hts, hlk, hK, hA⟩ := id C
  unfold w_same_224 at hw
  exact mx_iret C hO hw dX8_same_224
set_option maxRecDepth 100000 in
set_option maxHeartbeats 4000000 in
theorem k_same_171 {p : Program} {l : Launch} {e : Env} {s : State} {m : MethodId} {args : Array Value} {below : List Frame} {meth : Method} {c : Code} {D : va_G} {y : Nat → ClassId} {ad : Nat → Nat} {X : va_W} {A : Nat → Prop} {Q : Int32 → mS → Prop} (C : mC p s m args meth c cX8_same 6 (some .int) wsX8_same D y A) (n : Nat) : ∀ (x4 : Int32) (x5 : Int32) (σ : mS), w_same_171 Q n x4 x5 σ → ∀ (H : Heap) (locs : List Loc) (ls : Array Slot), mO D y ad X A s.heap H locs σ → lv_has ls 6 [(0, .ref (ad 0)), (4, .int x4), (5, .int x5)] → W p l e rX8_same s m args below meth c H locs 0 0 (MQ below (va_Qi Q (mB D y ad X A) A) args s 0 0 A) (F0 m 171 ls []) := by
  obtain ⟨hx, hb, hr, hml, hown, hts, hlk, hK, hA⟩ := id C
  have hin : ∀ w ∈ wsX80, w ∈ wsX8_same := fun _ h => List.mem_cons_of_mem _ (List.mem_append_right _ h)
  induction n with
  | zero =>
    intro x4 x5 σ hw
    exact (show False from hw).elim
  | succ n ih =>
    intro x4 x5 σ hw H locs ls hO hl
    unfold w_same_171 at hw
    refine lv_iload hx hb dX8_same_171 (lv_at hl 2 rfl) ?_
    refine lv_bipush (v := 10) hx hb dX8_same_173 (by decide) ?_
    refine lv_icmp_ge (tgt := 214) hx hb dX8_same_175 (by decide) (fun hc => ?_) (fun hc => ?_)
    · have hw := hw.1 hc
      refine lv_iload hx hb dX8_same_214 (lv_at hl 1 rfl) ?_
      refine lv_if_eq (tgt := 223) hx hb dX8_same_216 (by decide) (fun hc => ?_) (fun hc => ?_)
      · have hw := hw.1 hc
        refine lv_iconst (v := 0) hx hb dX8_same_223 (by decide) ?_
        exact k_same_224 C ((0 : Int32)) σ hw H locs ls hO (lv_sub hl [0] rfl)
      · have hw := hw.2 hc
        refine lv_iconst (v := 1) hx hb dX8_same_219 (by decide) ?_
        refine lv_goto (tgt := 224) hx hb dX8_same_220 (by decide) ?_
        exact k_same_224 C ((1 : Int32)) σ hw H locs ls hO (lv_sub hl [0] rfl)
    · have hw := hw.2 hc
      refine lv_iload hx hb dX8_same_178 (lv_at hl 1 rfl) ?_
      refine lv_if_eq (tgt := 205) hx hb dX8_same_180 (by decide) (fun hc => ?_) (fun hc => ?_)
      · have hw := hw.1 hc
        exact k_same_205 C (fun x4 x5 σ hw H locs ls hO hl => ih x4 x5 σ hw H locs ls hO hl) x5 σ hw H locs ls hO (lv_sub hl [0, 2] rfl)
      · have hw := hw.2 hc
        refine lv_aload_n hx hb dX8_same_183 rfl (lv_at hl 0 rfl) ?_
        refine mx_get C hO hin 15 (by decide) (idx := 51) (by decide +kernel) rfl rfl dX8_same_184 ?_
        refine lv_iload hx hb dX8_same_187 (lv_at hl 2 rfl) ?_
        refine mx_lald C hO (a := 14) rfl hw.1 dX8_same_189 ?_
        have hw := hw.2
        refine lv_aload_n hx hb dX8_same_190 rfl (lv_at hl 0 rfl) ?_
        refine mx_get C hO hin 11 (by decide) (idx := 39) (by decide +kernel) rfl rfl dX8_same_191 ?_
        refine lv_iload hx hb dX8_same_194 (lv_at hl 2 rfl) ?_
        refine mx_lald C hO (a := 10) rfl hw.1 dX8_same_196 ?_
        have hw := hw.2
        refine W.lcmp hx hb dX8_same_197 ?_
        refine lv_if_ne (tgt := 205) hx hb dX8_same_198 (by decide) (fun hc => ?_) (fun hc => ?_)
        · have hc := (not_congr (lg_cmp_eq _ _)).mp hc
          have hw := hw.1 hc
          exact k_same_205 C (fun x4 x5 σ hw H locs ls hO hl => ih x4 x5 σ hw H locs ls hO hl) x5 σ hw H locs ls hO (lv_sub hl [0, 2] rfl)
        · have hc := (lg_cmp_eq _ _).mp hc
          have hw := hw.2 hc
          refine lv_iconst (v := 1) hx hb dX8_same_201 (by decide) ?_
          refine lv_goto (tgt := 206) hx hb dX8_same_202 (by decide) ?_
          exact k_same_206 C (fun x4 x5 σ hw H locs ls hO hl => ih x4 x5 σ hw H locs ls hO hl) x5 ((1 : Int32)) σ hw H locs ls hO (lv_sub hl [0, 2] rfl)
set_option maxRecDepth 100000 in
set_option maxHeartbeats 4000000 in
theorem k_same_136 {p : Program} {l : Launch} {e : Env} {s : State} {m : MethodId} {args : Array Value} {below : List Frame} {meth : Method} {c : Code} {D : va_G} {y : Nat → ClassId} {ad : Nat → Nat} {X : va_W} {A : Nat → Prop} {Q : Int32 → mS → Prop} (C : mC p s m args meth c cX8_same 6 (some .int) wsX8_same D y A) (n : Nat) : ∀ (x2 : Int32) (x4 : Int32) (x5 : Int32) (σ : mS), w_same_136 Q n x2 x4 x5 σ → ∀ (H : Heap) (locs : List Loc) (ls : Array Slot), mO D y ad X A s.heap H locs σ → lv_has ls 6 [(0, .ref (ad 0)), (2, .int x2), (4, .int x4), (5, .int x5)] → W p l e rX8_same s m args below meth c H locs 0 0 (MQ below (va_Qi Q (mB D y ad X A) A) args s 0 0 A) (F0 m 136 ls []) := by
  obtain ⟨hx, hb, hr, hml, hown, hts, hlk, hK, hA⟩ := id C
  have hin : ∀ w ∈ wsX80, w ∈ wsX8_same := fun _ h => List.mem_cons_of_mem _ (List.mem_append_right _ h)
  induction n with
  | zero =>
    intro x2 x4 x5 σ hw
    exact (show False from hw).elim
  | succ n ih =>
    intro x2 x4 x5 σ hw H locs ls hO hl
    unfold w_same_136 at hw
    refine lv_iload hx hb dX8_same_136 (lv_at hl 3 rfl) ?_
    refine lv_bipush (v := 10) hx hb dX8_same_138 (by decide) ?_
    refine lv_icmp_ge (tgt := 163) hx hb dX8_same_140 (by decide) (fun hc => ?_) (fun hc => ?_)
    · have hw := hw.1 hc
      refine lv_aload_n hx hb dX8_same_163 rfl (lv_at hl 0 rfl) ?_
      refine lv_iload_n hx hb dX8_same_164 rfl (lv_at hl 1 rfl) ?_
      refine mx_cvv C hO (c_findEquation l D y ad X σ x2 _ hw) (cwV 1 hts gX8_same_X8_findEquation rfl rfl rfl (by decide +kernel) ⟨Nat.le_of_ble_eq_true rfl, Nat.le_of_ble_eq_true rfl⟩) rfl hl.1 rfl (lv_room (Nat.le_of_ble_eq_true rfl)) dX8_same_165 (fun σ102 H locs hw hO => ?_)
      refine lv_iconst (v := 0) hx hb dX8_same_168 (by decide) ?_
      refine lv_istore (lv' := [(5, .int ((0 : Int32))), (0, .ref (ad 0)), (2, .int x2), (4, .int x4)]) hx hb dX8_same_169 hl (by decide) rfl (fun ls hl => ?_)
      exact k_same_171 C fuL x4 ((0 : Int32)) σ102 hw H locs ls hO (lv_sub hl [1, 3, 0] rfl)
    · have hw := hw.2 hc
      refine lv_aload_n hx hb dX8_same_143 rfl (lv_at hl 0 rfl) ?_
      refine mx_get C hO hin 15 (by decide) (idx := 51) (by decide +kernel) rfl rfl dX8_same_144 ?_
      refine lv_iload hx hb dX8_same_147 (lv_at hl 3 rfl) ?_
      refine lv_aload_n hx hb dX8_same_149 rfl (lv_at hl 0 rfl) ?_
      refine mx_get C hO hin 11 (by decide) (idx := 39) (by decide +kernel) rfl rfl dX8_same_150 ?_
      refine lv_iload hx hb dX8_same_153 (lv_at hl 3 rfl) ?_
      refine mx_lald C hO (a := 10) rfl hw.1 dX8_same_155 ?_
      have hw := hw.2
      refine mx_last C hO (a := 14) rfl hw.1 dX8_same_156 (fun H locs σ103 eσ103 hO => ?_)
      have hw := hw.2 σ103 eσ103
      obtain ⟨x5_104, ex5_104⟩ : ∃ y : Int32, y = x5 + 1 := ⟨_, rfl⟩
      have hw := hw x5_104 ex5_104
      refine lv_iinc (v := x5_104) (lv' := [(5, .int x5_104), (0, .ref (ad 0)), (2, .int x2), (4, .int x4)]) hx hb dX8_same_157 hl (k := 3) rfl (by rw [ex5_104]; rfl) (by decide) rfl (fun ls hl => ?_)
      refine lv_goto (tgt := 136) hx hb dX8_same_160 (by decide) ?_
      exact ih x2 x4 x5_104 σ103 hw H locs ls hO (lv_sub hl [1, 2, 3, 0] rfl)
set_option maxRecDepth 100000 in
set_option maxHeartbeats 4000000 in
theorem k_same_e {p : Program} {l : Launch} {e : Env} {s : State} {m : MethodId} {args : Array Value} {below : List Frame} {meth : Method} {c : Code} {D : va_G} {y : Nat → ClassId} {ad : Nat → Nat} {X : va_W} {A : Nat → Prop} {Q : Int32 → mS → Prop} (C : mC p s m args meth c cX8_same 6 (some .int) wsX8_same D y A) (x1 : Int32) (x2 : Int32) (σ : mS) (hw : w_same Q x1 x2 σ) (H : Heap) (locs : List Loc) (ls : Array Slot) (hO : mO D y ad X A s.heap H locs σ) (hl : lv_has ls 6 [(0, .ref (ad 0)), (1, .int x1), (2, .int x2)]) : W p l e rX8_same s m args below meth c H locs 0 0 (MQ below (va_Qi Q (mB D y ad X A) A) args s 0 0 A) (F0 m 0 ls []) := by
  obtain ⟨hx, hb, hr, hml, hown, hts, hlk, hK, hA⟩ := id C
  have hin : ∀ w ∈ wsX80, w ∈ wsX8_same := fun _ h => List.mem_cons_of_mem _ (List.mem_append_right _ h)
  unfold w_same at hw
  refine lv_iload_n hx hb dX8_same_0 rfl (lv_at hl 1 rfl) ?_
  refine mx_cis C hO (c_isLine l D y ad X σ x1 _ hw) (va_cwS 1 hts gX8_same_X8_isLine rfl rfl rfl (by decide +kernel) ⟨Nat.le_of_ble_eq_true rfl, Nat.le_of_ble_eq_true rfl⟩) rfl hl.1 rfl (lv_room (Nat.le_of_ble_eq_true rfl)) dX8_same_1 (fun u101 σ102 H locs hw hO => ?_)
  refine lv_if_eq (tgt := 14) hx hb dX8_same_4 (by decide) (fun hc => ?_) (fun hc => ?_)
  · have hw := hw.1 hc
    exact k_same_14 C σ102 hw H locs ls hO (lv_sub hl [0] rfl)
  · have hw := hw.2 hc
    refine lv_iload_n hx hb dX8_same_7 rfl (lv_at hl 2 rfl) ?_
    refine mx_cis C hO (c_isLine l D y ad X σ102 x2 _ hw) (va_cwS 1 hts gX8_same_X8_isLine rfl rfl rfl (by decide +kernel) ⟨Nat.le_of_ble_eq_true rfl, Nat.le_of_ble_eq_true rfl⟩) rfl hl.1 rfl (lv_room (Nat.le_of_ble_eq_true rfl)) dX8_same_8 (fun u103 σ104 H locs hw hO => ?_)
    refine lv_if_ne (tgt := 16) hx hb dX8_same_11 (by decide) (fun hc => ?_) (fun hc => ?_)
    · have hw := hw.1 hc
      refine lv_aload_n hx hb dX8_same_16 rfl (lv_at hl 0 rfl) ?_
      refine mx_get C hO hin 0 (by decide) (idx := 7) (by decide +kernel) rfl rfl dX8_same_17 ?_
      refine lv_iload_n hx hb dX8_same_20 rfl (lv_at hl 1 rfl) ?_
      refine mx_zald C hO hw.1 dX8_same_21 ?_
      have hw := hw.2
      refine lv_if_eq (tgt := 34) hx hb dX8_same_22 (by decide) (fun hc => ?_) (fun hc => ?_)
      · have hw := hw.1 hc
        exact k_same_34 C σ104 hw H locs ls hO (lv_sub hl [0] rfl)
      · have hw := hw.2 hc
        refine lv_aload_n hx hb dX8_same_25 rfl (lv_at hl 0 rfl) ?_
        refine mx_get C hO hin 0 (by decide) (idx := 7) (by decide +kernel) rfl rfl dX8_same_26 ?_
        refine lv_iload_n hx hb dX8_same_29 rfl (lv_at hl 2 rfl) ?_
        refine mx_zald C hO hw.1 dX8_same_30 ?_
        have hw := hw.2
        refine lv_if_ne (tgt := 37) hx hb dX8_same_31 (by decide) (fun hc => ?_) (fun hc => ?_)
        · have hw := hw.1 hc
          refine lv_aload_n hx hb dX8_same_37 rfl (lv_at hl 0 rfl) ?_
          refine lv_iload_n hx hb dX8_same_38 rfl (lv_at hl 1 rfl) ?_
          refine mx_civ C hO (c_kindOf l D y ad X σ104 x1 _ hw) (cwV 1 hts gX8_same_X8_kindOf rfl rfl rfl (by decide +kernel) ⟨Nat.le_of_ble_eq_true rfl, Nat.le_of_ble_eq_true rfl⟩) rfl hl.1 rfl (lv_room (Nat.le_of_ble_eq_true rfl)) dX8_same_39 (fun u105 σ106 H locs hw hO => ?_)
          refine lv_istore_n (lv' := [(3, .int u105), (0, .ref (ad 0)), (1, .int x1), (2, .int x2)]) hx hb dX8_same_42 rfl hl (by decide) rfl (fun ls hl => ?_)
          refine lv_iload_n hx hb dX8_same_43 rfl (lv_at hl 0 rfl) ?_
          refine lv_aload_n hx hb dX8_same_44 rfl (lv_at hl 1 rfl) ?_
          refine lv_iload_n hx hb dX8_same_45 rfl (lv_at hl 3 rfl) ?_
          refine mx_civ C hO (c_kindOf l D y ad X σ106 x2 _ hw) (cwV 1 hts gX8_same_X8_kindOf rfl rfl rfl (by decide +kernel) ⟨Nat.le_of_ble_eq_true rfl, Nat.le_of_ble_eq_true rfl⟩) rfl hl.1 rfl (lv_room (Nat.le_of_ble_eq_true rfl)) dX8_same_46 (fun u107 σ108 H locs hw hO => ?_)
          refine lv_icmp_eq (tgt := 54) hx hb dX8_same_49 (by decide) (fun hc => ?_) (fun hc => ?_)
          · have hw := hw.1 hc
            refine lv_iconst (v := 1) hx hb dX8_same_54 (by decide) ?_
            refine lv_istore (lv' := [(4, .int ((1 : Int32))), (3, .int u105), (0, .ref (ad 0)), (1, .int x1), (2, .int x2)]) hx hb dX8_same_55 hl (by decide) rfl (fun ls hl => ?_)
            refine lv_iload_n hx hb dX8_same_57 rfl (lv_at hl 1 rfl) ?_
            refine lv_if_ne (tgt := 128) hx hb dX8_same_58 (by decide) (fun hc => ?_) (fun hc => ?_)
            · have hw := hw.1 hc
              refine lv_aload_n hx hb dX8_same_128 rfl (lv_at hl 2 rfl) ?_
              refine lv_iload_n hx hb dX8_same_129 rfl (lv_at hl 3 rfl) ?_
              refine mx_cvv C hO (c_findEquation l D y ad X σ108 x1 _ hw) (cwV 1 hts gX8_same_X8_findEquation rfl rfl rfl (by decide +kernel) ⟨Nat.le_of_ble_eq_true rfl, Nat.le_of_ble_eq_true rfl⟩) rfl hl.1 rfl (lv_room (Nat.le_of_ble_eq_true rfl)) dX8_same_130 (fun σ110 H locs hw hO => ?_)
              refine lv_iconst (v := 0) hx hb dX8_same_133 (by decide) ?_
              refine lv_istore (lv' := [(5, .int ((0 : Int32))), (4, .int ((1 : Int32))), (3, .int u105), (0, .ref (ad 0)), (1, .int x1), (2, .int x2)]) hx hb dX8_same_134 hl (by decide) rfl (fun ls hl => ?_)
              exact k_same_136 C fuL x2 ((1 : Int32)) ((0 : Int32)) σ110 hw H locs ls hO (lv_sub hl [3, 5, 1, 0] rfl)
            · have hw := hw.2 hc
              refine lv_iconst (v := 0) hx hb dX8_same_61 (by decide) ?_
              refine lv_istore (lv' := [(5, .int ((0 : Int32))), (4, .int ((1 : Int32))), (3, .int u105), (0, .ref (ad 0)), (1, .int x1), (2, .int x2)]) hx hb dX8_same_62 hl (by decide) rfl (fun ls hl => ?_)
              exact k_same_64 C fuL x1 x2 ((1 : Int32)) ((0 : Int32)) σ108 hw H locs ls hO (lv_sub hl [3, 4, 5, 1, 0] rfl)
          · have hw := hw.2 hc
            refine lv_iconst (v := 0) hx hb dX8_same_52 (by decide) ?_
            exact mx_iret C hO hw dX8_same_53
        · have hw := hw.2 hc
          exact k_same_34 C σ104 hw H locs ls hO (lv_sub hl [0] rfl)
    · have hw := hw.2 hc
      exact k_same_14 C σ104 hw H locs ls hO (lv_sub hl [0] rfl)
theorem c_same (l : Launch) (D : va_G) (y : Nat → ClassId) (ad : Nat → Nat) (X : va_W) (σ : mS) (x1 : Int32) (x2 : Int32) (Q : Int32 → mS → Prop) (hw : w_same Q x1 x2 σ) : ∀ sz, Met l yX8_same wsX8_same rX8_same (va_Pc [.ref (ad 0), .int x1, .int x2] (mPre D y ad X sz σ)) (va_Qi Q (mB D y ad X (va_A (mW y ad σ ++ X) sz)) (va_A (mW y ad σ ++ X) sz)) 0 0 (va_A (mW y ad σ ++ X) sz) :=
  mMet (Qc := fun A => va_Qi Q (mB D y ad X A) A) rfl (Nat.le_of_ble_eq_true rfl) (fun p e s m args below meth c A ls C hO hl => k_same_e C x1 x2 σ hw s.heap [] ls hO hl)
abbrev rX8_times_ : Room := { frames := 0, cells := 0, slots := 0, locals := 0 }
set_option maxRecDepth 100000 in
set_option maxHeartbeats 4000000 in
theorem k_times__43 {p : Program} {l : Launch} {e : Env} {s : State} {m : MethodId} {args : Array Value} {below : List Frame} {meth : Method} {c : Code} {D : va_G} {y : Nat → ClassId} {ad : Nat → Nat} {X : va_W} {A : Nat → Prop} {Q : mS → Prop} (C : mC p s m args meth c cX8_times_ 6 none wsX8_times_ D y A) {r3 : Int64 → Int64 → Int32 → mS → Prop} (hr3 : ∀ (x1 : Int64) (x3 : Int64) (x5 : Int32) (σ : mS), r3 x1 x3 x5 σ → ∀ (H : Heap) (locs : List Loc) (ls : Array Slot), mO D y ad X A s.heap H locs σ → lv_has ls 6 [(0, .ref (ad 0)), (1, .long x1), (3, .long x3), (5, .int x5)] → W p l e rX8_times_ s m args below meth c H locs 0 0 (MQ below (va_Qv Q (mB D y ad X A) A) args s 0 0 A) (F0 m 3 ls [])) (x1 : Int64) (x3 : Int64) (x5 : Int32) (z1 : Int32) (z2 : Int64) (z3 : Int64) (σ : mS) (hw : w_times__43 Q r3 x1 x3 x5 z1 z2 z3 σ) (H : Heap) (locs : List Loc) (ls : Array Slot) (hO : mO D y ad X A s.heap H locs σ) (hl : lv_has ls 6 [(0, .ref (ad 0)), (1, .long x1), (3, .long x3), (5, .int x5)]) : W p l e rX8_times_ s m args below meth c H locs 0 0 (MQ below (va_Qv Q (mB D y ad X A) A) args s 0 0 A) (F0 m 43 ls [.long z3, .long z2, .int z1, .ref (ad 5)]) := by
  obtain ⟨hx, hb, hr, hml, hown, hts, hlk, hK, hA⟩ := id C
  unfold w_times__43 at hw
  refine lv_ladd hx hb dX8_times__43 ?_
  refine mx_last C hO (a := 5) rfl hw.1 dX8_times__44 (fun H locs σ101 eσ101 hO => ?_)
  have hw := hw.2 σ101 eσ101
  obtain ⟨x5_102, ex5_102⟩ : ∃ y : Int32, y = x5 + (-1) := ⟨_, rfl⟩
  have hw := hw x5_102 ex5_102
  refine lv_iinc (v := x5_102) (lv' := [(5, .int x5_102), (0, .ref (ad 0)), (1, .long x1), (3, .long x3)]) hx hb dX8_times__45 hl (k := 3) rfl (by rw [ex5_102]; rfl) (by decide) rfl (fun ls hl => ?_)
  refine lv_goto (tgt := 3) hx hb dX8_times__48 (by decide) ?_
  exact hr3 x1 x3 x5_102 σ101 hw H locs ls hO (lv_sub hl [1, 2, 3, 0] rfl)
set_option maxRecDepth 100000 in
set_option maxHeartbeats 4000000 in
theorem k_times__3 {p : Program} {l : Launch} {e : Env} {s : State} {m : MethodId} {args : Array Value} {below : List Frame} {meth : Method} {c : Code} {D : va_G} {y : Nat → ClassId} {ad : Nat → Nat} {X : va_W} {A : Nat → Prop} {Q : mS → Prop} (C : mC p s m args meth c cX8_times_ 6 none wsX8_times_ D y A) (n : Nat) : ∀ (x1 : Int64) (x3 : Int64) (x5 : Int32) (σ : mS), w_times__3 Q n x1 x3 x5 σ → ∀ (H : Heap) (locs : List Loc) (ls : Array Slot), mO D y ad X A s.heap H locs σ → lv_has ls 6 [(0, .ref (ad 0)), (1, .long x1), (3, .long x3), (5, .int x5)] → W p l e rX8_times_ s m args below meth c H locs 0 0 (MQ below (va_Qv Q (mB D y ad X A) A) args s 0 0 A) (F0 m 3 ls []) := by
  obtain ⟨hx, hb, hr, hml, hown, hts, hlk, hK, hA⟩ := id C
  have hin : ∀ w ∈ wsX80, w ∈ wsX8_times_ := fun _ h => List.mem_cons_of_mem _ (List.mem_append_right _ h)
  induction n with
  | zero =>
    intro x1 x3 x5 σ hw
    exact (show False from hw).elim
  | succ n ih =>
    intro x1 x3 x5 σ hw H locs ls hO hl
    unfold w_times__3 at hw
    refine lv_iload hx hb dX8_times__3 (lv_at hl 3 rfl) ?_
    refine lv_if_lt (tgt := 51) hx hb dX8_times__5 (by decide) (fun hc => ?_) (fun hc => ?_)
    · have hw := hw.1 hc
      exact mx_vret C hO hw dX8_times__51
    · have hw := hw.2 hc
      refine lv_aload_n hx hb dX8_times__8 rfl (lv_at hl 0 rfl) ?_
      refine mx_get C hO hin 4 (by decide) (idx := 23) (by decide +kernel) rfl rfl dX8_times__9 ?_
      refine lv_iload hx hb dX8_times__12 (lv_at hl 3 rfl) ?_
      refine lv_lload_n hx hb dX8_times__14 rfl (lv_at hl 2 rfl) ?_
      refine lv_aload_n hx hb dX8_times__15 rfl (lv_at hl 0 rfl) ?_
      refine mx_get C hO hin 4 (by decide) (idx := 23) (by decide +kernel) rfl rfl dX8_times__16 ?_
      refine lv_iload hx hb dX8_times__19 (lv_at hl 3 rfl) ?_
      refine mx_lald C hO (a := 5) rfl hw.1 dX8_times__21 ?_
      have hw := hw.2
      refine lv_lmul hx hb dX8_times__22 ?_
      refine lv_iload hx hb dX8_times__23 (lv_at hl 3 rfl) ?_
      refine lv_if_le (tgt := 42) hx hb dX8_times__25 (by decide) (fun hc => ?_) (fun hc => ?_)
      · have hw := hw.1 hc
        refine lv_lconst (v := 0) hx hb dX8_times__42 (by decide) ?_
        exact k_times__43 C (fun x1 x3 x5 σ hw H locs ls hO hl => ih x1 x3 x5 σ hw H locs ls hO hl) x1 x3 x5 x5 (x3 * (σ.1 5 (x5).toNatClampNeg)) ((0 : Int64)) σ hw H locs ls hO (lv_sub hl [0, 1, 2, 3] rfl)
      · have hw := hw.2 hc
        refine lv_lload_n hx hb dX8_times__28 rfl (lv_at hl 1 rfl) ?_
        refine lv_aload_n hx hb dX8_times__29 rfl (lv_at hl 0 rfl) ?_
        refine mx_get C hO hin 4 (by decide) (idx := 23) (by decide +kernel) rfl rfl dX8_times__30 ?_
        refine lv_iload hx hb dX8_times__33 (lv_at hl 3 rfl) ?_
        refine lv_iconst (v := 1) hx hb dX8_times__35 (by decide) ?_
        refine lv_isub hx hb dX8_times__36 ?_
        refine mx_lald C hO (a := 5) rfl hw.1 dX8_times__37 ?_
        have hw := hw.2
        refine lv_lmul hx hb dX8_times__38 ?_
        refine lv_goto (tgt := 43) hx hb dX8_times__39 (by decide) ?_
        exact k_times__43 C (fun x1 x3 x5 σ hw H locs ls hO hl => ih x1 x3 x5 σ hw H locs ls hO hl) x1 x3 x5 x5 (x3 * (σ.1 5 (x5).toNatClampNeg)) (x1 * (σ.1 5 (x5 - (1 : Int32)).toNatClampNeg)) σ hw H locs ls hO (lv_sub hl [0, 1, 2, 3] rfl)
set_option maxRecDepth 100000 in
set_option maxHeartbeats 4000000 in
theorem k_times__e {p : Program} {l : Launch} {e : Env} {s : State} {m : MethodId} {args : Array Value} {below : List Frame} {meth : Method} {c : Code} {D : va_G} {y : Nat → ClassId} {ad : Nat → Nat} {X : va_W} {A : Nat → Prop} {Q : mS → Prop} (C : mC p s m args meth c cX8_times_ 6 none wsX8_times_ D y A) (x1 : Int64) (x3 : Int64) (σ : mS) (hw : w_times_ Q x1 x3 σ) (H : Heap) (locs : List Loc) (ls : Array Slot) (hO : mO D y ad X A s.heap H locs σ) (hl : lv_has ls 6 [(0, .ref (ad 0)), (1, .long x1), (3, .long x3)]) : W p l e rX8_times_ s m args below meth c H locs 0 0 (MQ below (va_Qv Q (mB D y ad X A) A) args s 0 0 A) (F0 m 0 ls []) := by
  obtain ⟨hx, hb, hr, hml, hown, hts, hlk, hK, hA⟩ := id C
  unfold w_times_ at hw
  refine lv_iconst (v := 3) hx hb dX8_times__0 (by decide) ?_
  refine lv_istore (lv' := [(5, .int ((3 : Int32))), (0, .ref (ad 0)), (1, .long x1), (3, .long x3)]) hx hb dX8_times__1 hl (by decide) rfl (fun ls hl => ?_)
  exact k_times__3 C fuL x1 x3 ((3 : Int32)) σ hw H locs ls hO (lv_sub hl [1, 2, 3, 0] rfl)
theorem c_times_ (l : Launch) (D : va_G) (y : Nat → ClassId) (ad : Nat → Nat) (X : va_W) (σ : mS) (x1 : Int64) (x3 : Int64) (Q : mS → Prop) (hw : w_times_ Q x1 x3 σ) : ∀ sz, Met l yX8_times_ wsX8_times_ rX8_times_ (va_Pc [.ref (ad 0), .long x1, .long x3] (mPre D y ad X sz σ)) (va_Qv Q (mB D y ad X (va_A (mW y ad σ ++ X) sz)) (va_A (mW y ad σ ++ X) sz)) 0 0 (va_A (mW y ad σ ++ X) sz) :=
  mMet (Qc := fun A => va_Qv Q (mB D y ad X A) A) rfl (Nat.le_of_ble_eq_true rfl) (fun p e s m args below meth c A ls C hO hl => k_times__e C x1 x3 σ hw s.heap [] ls hO hl)
abbrev rX8_anew : Room := { frames := 5, cells := 0, slots := 0, locals := 128 }
set_option maxRecDepth 100000 in
set_option maxHeartbeats 4000000 in
theorem k_anew_166 {p : Program} {l : Launch} {e : Env} {s : State} {m : MethodId} {args : Array Value} {below : List Frame} {meth : Method} {c : Code} {D : va_G} {y : Nat → ClassId} {ad : Nat → Nat} {X : va_W} {A : Nat → Prop} {Q : Int32 → mS → Prop} (C : mC p s m args meth c cX8_anew 12 (some .int) wsX8_anew D y A) {r134 : Int32 → Int32 → Int32 → Int32 → Int32 → Int32 → Int32 → mS → Prop} (hr134 : ∀ (x1 : Int32) (x2 : Int32) (x3 : Int32) (x4 : Int32) (x5 : Int32) (x8 : Int32) (x9 : Int32) (σ : mS), r134 x1 x2 x3 x4 x5 x8 x9 σ → ∀ (H : Heap) (locs : List Loc) (ls : Array Slot), mO D y ad X A s.heap H locs σ → lv_has ls 12 [(0, .ref (ad 0)), (1, .int x1), (2, .int x2), (3, .int x3), (4, .int x4), (5, .int x5), (8, .int x8), (9, .int x9)] → W p l e rX8_anew s m args below meth c H locs 0 0 (MQ below (va_Qi Q (mB D y ad X A) A) args s 0 0 A) (F0 m 134 ls [])) {r144 : Int32 → Int32 → Int32 → Int32 → Int32 → Int32 → Int32 → Int32 → mS → Prop} (hr144 : ∀ (x1 : Int32) (x2 : Int32) (x3 : Int32) (x4 : Int32) (x5 : Int32) (x8 : Int32) (x9 : Int32) (x10 : Int32) (σ : mS), r144 x1 x2 x3 x4 x5 x8 x9 x10 σ → ∀ (H : Heap) (locs : List Loc) (ls : Array Slot), mO D y ad X A s.heap H locs σ → lv_has ls 12 [(0, .ref (ad 0)), (1, .int x1), (2, .int x2), (3, .int x3), (4, .int x4), (5, .int x5), (8, .int x8), (9, .int x9), (10, .int x10)] → W p l e rX8_anew s m args below meth c H locs 0 0 (MQ below (va_Qi Q (mB D y ad X A) A) args s 0 0 A) (F0 m 144 ls [])) (x1 : Int32) (x2 : Int32) (x3 : Int32) (x4 : Int32) (x5 : Int32) (x8 : Int32) (x9 : Int32) (x10 : Int32) (z1 : Int32) (z2 : Int64) (σ : mS) (hw : w_anew_166 Q r134 r144 x1 x2 x3 x4 x5 x8 x9 x10 z1 z2 σ) (H : Heap) (locs : List Loc) (ls : Array Slot) (hO : mO D y ad X A s.heap H locs σ) (hl : lv_has ls 12 [(0, .ref (ad 0)), (1, .int x1), (2, .int x2), (3, .int x3), (4, .int x4), (5, .int x5), (8, .int x8), (9, .int x9), (10, .int x10)]) : W p l e rX8_anew s m args below meth c H locs 0 0 (MQ below (va_Qi Q (mB D y ad X A) A) args s 0 0 A) (F0 m 166 ls [.long z2, .int z1, .ref (ad 5)]) := by
  obtain ⟨hx, hb, hr, hml, hown, hts, hlk, hK, hA⟩ := id C
  unfold w_anew_166 at hw
  refine mx_last C hO (a := 5) rfl hw.1 dX8_anew_166 (fun H locs σ101 eσ101 hO => ?_)
  have hw := hw.2 σ101 eσ101
  obtain ⟨x10_102, ex10_102⟩ : ∃ y : Int32, y = x10 + 1 := ⟨_, rfl⟩
  have hw := hw x10_102 ex10_102
  refine lv_iinc (v := x10_102) (lv' := [(10, .int x10_102), (0, .ref (ad 0)), (1, .int x1), (2, .int x2), (3, .int x3), (4, .int x4), (5, .int x5), (8, .int x8), (9, .int x9)]) hx hb dX8_anew_167 hl (k := 8) rfl (by rw [ex10_102]; rfl) (by decide) rfl (fun ls hl => ?_)
  refine lv_goto (tgt := 144) hx hb dX8_anew_170 (by decide) ?_
  exact hr144 x1 x2 x3 x4 x5 x8 x9 x10_102 σ101 hw H locs ls hO (lv_sub hl [1, 2, 3, 4, 5, 6, 7, 8, 0] rfl)
set_option maxRecDepth 100000 in
set_option maxHeartbeats 4000000 in
theorem k_anew_214 {p : Program} {l : Launch} {e : Env} {s : State} {m : MethodId} {args : Array Value} {below : List Frame} {meth : Method} {c : Code} {D : va_G} {y : Nat → ClassId} {ad : Nat → Nat} {X : va_W} {A : Nat → Prop} {Q : Int32 → mS → Prop} (C : mC p s m args meth c cX8_anew 12 (some .int) wsX8_anew D y A) {r134 : Int32 → Int32 → Int32 → Int32 → Int32 → Int32 → Int32 → mS → Prop} (hr134 : ∀ (x1 : Int32) (x2 : Int32) (x3 : Int32) (x4 : Int32) (x5 : Int32) (x8 : Int32) (x9 : Int32) (σ : mS), r134 x1 x2 x3 x4 x5 x8 x9 σ → ∀ (H : Heap) (locs : List Loc) (ls : Array Slot), mO D y ad X A s.heap H locs σ → lv_has ls 12 [(0, .ref (ad 0)), (1, .int x1), (2, .int x2), (3, .int x3), (4, .int x4), (5, .int x5), (8, .int x8), (9, .int x9)] → W p l e rX8_anew s m args below meth c H locs 0 0 (MQ below (va_Qi Q (mB D y ad X A) A) args s 0 0 A) (F0 m 134 ls [])) {r176 : Int32 → Int32 → Int32 → Int32 → Int32 → Int32 → Int32 → Int32 → mS → Prop} (hr176 : ∀ (x1 : Int32) (x2 : Int32) (x3 : Int32) (x4 : Int32) (x5 : Int32) (x8 : Int32) (x9 : Int32) (x10 : Int32) (σ : mS), r176 x1 x2 x3 x4 x5 x8 x9 x10 σ → ∀ (H : Heap) (locs : List Loc) (ls : Array Slot), mO D y ad X A s.heap H locs σ → lv_has ls 12 [(0, .ref (ad 0)), (1, .int x1), (2, .int x2), (3, .int x3), (4, .int x4), (5, .int x5), (8, .int x8), (9, .int x9), (10, .int x10)] → W p l e rX8_anew s m args below meth c H locs 0 0 (MQ below (va_Qi Q (mB D y ad X A) A) args s 0 0 A) (F0 m 176 ls [])) (x1 : Int32) (x2 : Int32) (x3 : Int32) (x4 : Int32) (x5 : Int32) (x8 : Int32) (x9 : Int32) (x10 : Int32) (z1 : Int64) (z2 : Int64) (σ : mS) (hw : w_anew_214 Q r134 r176 x1 x2 x3 x4 x5 x8 x9 x10 z1 z2 σ) (H : Heap) (locs : List Loc) (ls : Array Slot) (hO : mO D y ad X A s.heap H locs σ) (hl : lv_has ls 12 [(0, .ref (ad 0)), (1, .int x1), (2, .int x2), (3, .int x3), (4, .int x4), (5, .int x5), (8, .int x8), (9, .int x9), (10, .int x10)]) : W p l e rX8_anew s m args below meth c H locs 0 0 (MQ below (va_Qi Q (mB D y ad X A) A) args s 0 0 A) (F0 m 214 ls [.long z2, .long z1, .ref (ad 0)]) := by
  obtain ⟨hx, hb, hr, hml, hown, hts, hlk, hK, hA⟩ := id C
  unfold w_anew_214 at hw
  refine mx_cvv C hO (c_times_ l D y ad X σ z1 z2 _ hw) (cwV 2 hts gX8_anew_X8_times_ rfl rfl rfl (by decide +kernel) ⟨Nat.le_of_ble_eq_true rfl, Nat.le_of_ble_eq_true rfl⟩) rfl hl.1 rfl (lv_room (Nat.le_of_ble_eq_true rfl)) dX8_anew_214 (fun σ102 H locs hw hO => ?_)
  obtain ⟨x10_103, ex10_103⟩ : ∃ y : Int32, y = x10 + 1 := ⟨_, rfl⟩
  have hw := hw x10_103 ex10_103
  refine lv_iinc (v := x10_103) (lv' := [(10, .int x10_103), (0, .ref (ad 0)), (1, .int x1), (2, .int x2), (3, .int x3), (4, .int x4), (5, .int x5), (8, .int x8), (9, .int x9)]) hx hb dX8_anew_217 hl (k := 8) rfl (by rw [ex10_103]; rfl) (by decide) rfl (fun ls hl => ?_)
  refine lv_goto (tgt := 176) hx hb dX8_anew_220 (by decide) ?_
  exact hr176 x1 x2 x3 x4 x5 x8 x9 x10_103 σ102 hw H locs ls hO (lv_sub hl [1, 2, 3, 4, 5, 6, 7, 8, 0] rfl)
set_option maxRecDepth 100000 in
set_option maxHeartbeats 4000000 in
theorem k_anew_199 {p : Program} {l : Launch} {e : Env} {s : State} {m : MethodId} {args : Array Value} {below : List Frame} {meth : Method} {c : Code} {D : va_G} {y : Nat → ClassId} {ad : Nat → Nat} {X : va_W} {A : Nat → Prop} {Q : Int32 → mS → Prop} (C : mC p s m args meth c cX8_anew 12 (some .int) wsX8_anew D y A) {r134 : Int32 → Int32 → Int32 → Int32 → Int32 → Int32 → Int32 → mS → Prop} (hr134 : ∀ (x1 : Int32) (x2 : Int32) (x3 : Int32) (x4 : Int32) (x5 : Int32) (x8 : Int32) (x9 : Int32) (σ : mS), r134 x1 x2 x3 x4 x5 x8 x9 σ → ∀ (H : Heap) (locs : List Loc) (ls : Array Slot), mO D y ad X A s.heap H locs σ → lv_has ls 12 [(0, .ref (ad 0)), (1, .int x1), (2, .int x2), (3, .int x3), (4, .int x4), (5, .int x5), (8, .int x8), (9, .int x9)] → W p l e rX8_anew s m args below meth c H locs 0 0 (MQ below (va_Qi Q (mB D y ad X A) A) args s 0 0 A) (F0 m 134 ls [])) {r176 : Int32 → Int32 → Int32 → Int32 → Int32 → Int32 → Int32 → Int32 → mS → Prop} (hr176 : ∀ (x1 : Int32) (x2 : Int32) (x3 : Int32) (x4 : Int32) (x5 : Int32) (x8 : Int32) (x9 : Int32) (x10 : Int32) (σ : mS), r176 x1 x2 x3 x4 x5 x8 x9 x10 σ → ∀ (H : Heap) (locs : List Loc) (ls : Array Slot), mO D y ad X A s.heap H locs σ → lv_has ls 12 [(0, .ref (ad 0)), (1, .int x1), (2, .int x2), (3, .int x3), (4, .int x4), (5, .int x5), (8, .int x8), (9, .int x9), (10, .int x10)] → W p l e rX8_anew s m args below meth c H locs 0 0 (MQ below (va_Qi Q (mB D y ad X A) A) args s 0 0 A) (F0 m 176 ls [])) (x1 : Int32) (x2 : Int32) (x3 : Int32) (x4 : Int32) (x5 : Int32) (x8 : Int32) (x9 : Int32) (x10 : Int32) (z1 : Int64) (σ : mS) (hw : w_anew_199 Q r134 r176 x1 x2 x3 x4 x5 x8 x9 x10 z1 σ) (H : Heap) (locs : List Loc) (ls : Array Slot) (hO : mO D y ad X A s.heap H locs σ) (hl : lv_has ls 12 [(0, .ref (ad 0)), (1, .int x1), (2, .int x2), (3, .int x3), (4, .int x4), (5, .int x5), (8, .int x8), (9, .int x9), (10, .int x10)]) : W p l e rX8_anew s m args below meth c H locs 0 0 (MQ below (va_Qi Q (mB D y ad X A) A) args s 0 0 A) (F0 m 199 ls [.long z1, .ref (ad 0)]) := by
  obtain ⟨hx, hb, hr, hml, hown, hts, hlk, hK, hA⟩ := id C
  unfold w_anew_199 at hw
  refine lv_iload hx hb dX8_anew_199 (lv_at hl 8 rfl) ?_
  refine lv_iload hx hb dX8_anew_201 (lv_at hl 7 rfl) ?_
  refine lv_icmp_ge (tgt := 211) hx hb dX8_anew_203 (by decide) (fun hc => ?_) (fun hc => ?_)
  · have hw := hw.1 hc
    refine lv_iload hx hb dX8_anew_211 (lv_at hl 5 rfl) ?_
    refine lv_i2l hx hb dX8_anew_213 rfl ?_
    exact k_anew_214 C hr134 hr176 x1 x2 x3 x4 x5 x8 x9 x10 z1 (x5.toInt64) σ hw H locs ls hO (lv_sub hl [0, 1, 2, 3, 4, 5, 6, 7, 8] rfl)
  · have hw := hw.2 hc
    refine lv_iload_n hx hb dX8_anew_206 rfl (lv_at hl 3 rfl) ?_
    refine lv_i2l hx hb dX8_anew_207 rfl ?_
    refine lv_goto (tgt := 214) hx hb dX8_anew_208 (by decide) ?_
    exact k_anew_214 C hr134 hr176 x1 x2 x3 x4 x5 x8 x9 x10 z1 (x3.toInt64) σ hw H locs ls hO (lv_sub hl [0, 1, 2, 3, 4, 5, 6, 7, 8] rfl)
set_option maxRecDepth 100000 in
set_option maxHeartbeats 4000000 in
theorem k_anew_236 {p : Program} {l : Launch} {e : Env} {s : State} {m : MethodId} {args : Array Value} {below : List Frame} {meth : Method} {c : Code} {D : va_G} {y : Nat → ClassId} {ad : Nat → Nat} {X : va_W} {A : Nat → Prop} {Q : Int32 → mS → Prop} (C : mC p s m args meth c cX8_anew 12 (some .int) wsX8_anew D y A) {r134 : Int32 → Int32 → Int32 → Int32 → Int32 → Int32 → Int32 → mS → Prop} (hr134 : ∀ (x1 : Int32) (x2 : Int32) (x3 : Int32) (x4 : Int32) (x5 : Int32) (x8 : Int32) (x9 : Int32) (σ : mS), r134 x1 x2 x3 x4 x5 x8 x9 σ → ∀ (H : Heap) (locs : List Loc) (ls : Array Slot), mO D y ad X A s.heap H locs σ → lv_has ls 12 [(0, .ref (ad 0)), (1, .int x1), (2, .int x2), (3, .int x3), (4, .int x4), (5, .int x5), (8, .int x8), (9, .int x9)] → W p l e rX8_anew s m args below meth c H locs 0 0 (MQ below (va_Qi Q (mB D y ad X A) A) args s 0 0 A) (F0 m 134 ls [])) {r226 : Int32 → Int32 → Int32 → Int32 → Int32 → Int32 → Int32 → Int32 → mS → Prop} (hr226 : ∀ (x1 : Int32) (x2 : Int32) (x3 : Int32) (x4 : Int32) (x5 : Int32) (x8 : Int32) (x9 : Int32) (x10 : Int32) (σ : mS), r226 x1 x2 x3 x4 x5 x8 x9 x10 σ → ∀ (H : Heap) (locs : List Loc) (ls : Array Slot), mO D y ad X A s.heap H locs σ → lv_has ls 12 [(0, .ref (ad 0)), (1, .int x1), (2, .int x2), (3, .int x3), (4, .int x4), (5, .int x5), (8, .int x8), (9, .int x9), (10, .int x10)] → W p l e rX8_anew s m args below meth c H locs 0 0 (MQ below (va_Qi Q (mB D y ad X A) A) args s 0 0 A) (F0 m 226 ls [])) (n : Nat) : ∀ (x1 : Int32) (x2 : Int32) (x3 : Int32) (x4 : Int32) (x5 : Int32) (x8 : Int32) (x9 : Int32) (x10 : Int32) (x11 : Int32) (σ : mS), w_anew_236 Q r134 r226 n x1 x2 x3 x4 x5 x8 x9 x10 x11 σ → ∀ (H : Heap) (locs : List Loc) (ls : Array Slot), mO D y ad X A s.heap H locs σ → lv_has ls 12 [(0, .ref (ad 0)), (1, .int x1), (2, .int x2), (3, .int x3), (4, .int x4), (5, .int x5), (8, .int x8), (9, .int x9), (10, .int x10), (11, .int x11)] → W p l e rX8_anew s m args below meth c H locs 0 0 (MQ below (va_Qi Q (mB D y ad X A) A) args s 0 0 A) (F0 m 236 ls []) := by
  obtain ⟨hx, hb, hr, hml, hown, hts, hlk, hK, hA⟩ := id C
  have hin : ∀ w ∈ wsX80, w ∈ wsX8_anew := fun _ h => List.mem_cons_of_mem _ (List.mem_append_right _ h)
  induction n with
  | zero =>
    intro x1 x2 x3 x4 x5 x8 x9 x10 x11 σ hw
    exact (show False from hw).elim
  | succ n ih =>
    intro x1 x2 x3 x4 x5 x8 x9 x10 x11 σ hw H locs ls hO hl
    unfold w_anew_236 at hw
    refine lv_iload hx hb dX8_anew_236 (lv_at hl 9 rfl) ?_
    refine lv_iconst (v := 4) hx hb dX8_anew_238 (by decide) ?_
    refine lv_icmp_ge (tgt := 284) hx hb dX8_anew_239 (by decide) (fun hc => ?_) (fun hc => ?_)
    · have hw := hw.1 hc
      obtain ⟨x10_101, ex10_101⟩ : ∃ y : Int32, y = x10 + 4 := ⟨_, rfl⟩
      have hw := hw x10_101 ex10_101
      refine lv_iinc (v := x10_101) (lv' := [(10, .int x10_101), (0, .ref (ad 0)), (1, .int x1), (2, .int x2), (3, .int x3), (4, .int x4), (5, .int x5), (8, .int x8), (9, .int x9), (11, .int x11)]) hx hb dX8_anew_284 hl (k := 8) rfl (by rw [ex10_101]; rfl) (by decide) rfl (fun ls hl => ?_)
      refine lv_goto (tgt := 226) hx hb dX8_anew_287 (by decide) ?_
      exact hr226 x1 x2 x3 x4 x5 x8 x9 x10_101 σ hw H locs ls hO (lv_sub hl [1, 2, 3, 4, 5, 6, 7, 8, 0] rfl)
    · have hw := hw.2 hc
      refine lv_aload_n hx hb dX8_anew_242 rfl (lv_at hl 0 rfl) ?_
      refine mx_get C hO hin 2 (by decide) (idx := 17) (by decide +kernel) rfl rfl dX8_anew_243 ?_
      refine lv_iload hx hb dX8_anew_246 (lv_at hl 8 rfl) ?_
      refine lv_iload hx hb dX8_anew_248 (lv_at hl 9 rfl) ?_
      refine lv_iadd hx hb dX8_anew_250 ?_
      refine lv_dup2_11 hx hb dX8_anew_251 rfl rfl ?_
      refine mx_lald C hO (a := 3) rfl hw.1 dX8_anew_252 ?_
      have hw := hw.2
      refine lv_aload_n hx hb dX8_anew_253 rfl (lv_at hl 0 rfl) ?_
      refine mx_get C hO hin 1 (by decide) (idx := 13) (by decide +kernel) rfl rfl dX8_anew_254 ?_
      refine lv_bipush (v := 12) hx hb dX8_anew_257 (by decide) ?_
      refine lv_iload_n hx hb dX8_anew_259 rfl (lv_at hl 1 rfl) ?_
      refine lv_imul hx hb dX8_anew_260 ?_
      refine lv_iload hx hb dX8_anew_261 (lv_at hl 8 rfl) ?_
      refine lv_iadd hx hb dX8_anew_263 ?_
      refine lv_iload hx hb dX8_anew_264 (lv_at hl 7 rfl) ?_
      refine lv_iadd hx hb dX8_anew_266 ?_
      refine mx_lald C hO (a := 2) rfl hw.1 dX8_anew_267 ?_
      have hw := hw.2
      refine lv_aload_n hx hb dX8_anew_268 rfl (lv_at hl 0 rfl) ?_
      refine mx_get C hO hin 4 (by decide) (idx := 23) (by decide +kernel) rfl rfl dX8_anew_269 ?_
      refine lv_iload hx hb dX8_anew_272 (lv_at hl 9 rfl) ?_
      refine mx_lald C hO (a := 5) rfl hw.1 dX8_anew_274 ?_
      have hw := hw.2
      refine lv_lmul hx hb dX8_anew_275 ?_
      refine lv_ladd hx hb dX8_anew_276 ?_
      refine mx_last C hO (a := 3) rfl hw.1 dX8_anew_277 (fun H locs σ102 eσ102 hO => ?_)
      have hw := hw.2 σ102 eσ102
      obtain ⟨x11_103, ex11_103⟩ : ∃ y : Int32, y = x11 + 1 := ⟨_, rfl⟩
      have hw := hw x11_103 ex11_103
      refine lv_iinc (v := x11_103) (lv' := [(11, .int x11_103), (0, .ref (ad 0)), (1, .int x1), (2, .int x2), (3, .int x3), (4, .int x4), (5, .int x5), (8, .int x8), (9, .int x9), (10, .int x10)]) hx hb dX8_anew_278 hl (k := 9) rfl (by rw [ex11_103]; rfl) (by decide) rfl (fun ls hl => ?_)
      refine lv_goto (tgt := 236) hx hb dX8_anew_281 (by decide) ?_
      exact ih x1 x2 x3 x4 x5 x8 x9 x10 x11_103 σ102 hw H locs ls hO (lv_sub hl [1, 2, 3, 4, 5, 6, 7, 8, 9, 0] rfl)
set_option maxRecDepth 100000 in
set_option maxHeartbeats 4000000 in
theorem k_anew_226 {p : Program} {l : Launch} {e : Env} {s : State} {m : MethodId} {args : Array Value} {below : List Frame} {meth : Method} {c : Code} {D : va_G} {y : Nat → ClassId} {ad : Nat → Nat} {X : va_W} {A : Nat → Prop} {Q : Int32 → mS → Prop} (C : mC p s m args meth c cX8_anew 12 (some .int) wsX8_anew D y A) {r134 : Int32 → Int32 → Int32 → Int32 → Int32 → Int32 → Int32 → mS → Prop} (hr134 : ∀ (x1 : Int32) (x2 : Int32) (x3 : Int32) (x4 : Int32) (x5 : Int32) (x8 : Int32) (x9 : Int32) (σ : mS), r134 x1 x2 x3 x4 x5 x8 x9 σ → ∀ (H : Heap) (locs : List Loc) (ls : Array Slot), mO D y ad X A s.heap H locs σ → lv_has ls 12 [(0, .ref (ad 0)), (1, .int x1), (2, .int x2), (3, .int x3), (4, .int x4), (5, .int x5), (8, .int x8), (9, .int x9)] → W p l e rX8_anew s m args below meth c H locs 0 0 (MQ below (va_Qi Q (mB D y ad X A) A) args s 0 0 A) (F0 m 134 ls [])) (n : Nat) : ∀ (x1 : Int32) (x2 : Int32) (x3 : Int32) (x4 : Int32) (x5 : Int32) (x8 : Int32) (x9 : Int32) (x10 : Int32) (σ : mS), w_anew_226 Q r134 n x1 x2 x3 x4 x5 x8 x9 x10 σ → ∀ (H : Heap) (locs : List Loc) (ls : Array Slot), mO D y ad X A s.heap H locs σ → lv_has ls 12 [(0, .ref (ad 0)), (1, .int x1), (2, .int x2), (3, .int x3), (4, .int x4), (5, .int x5), (8, .int x8), (9, .int x9), (10, .int x10)] → W p l e rX8_anew s m args below meth c H locs 0 0 (MQ below (va_Qi Q (mB D y ad X A) A) args s 0 0 A) (F0 m 226 ls []) := by
  obtain ⟨hx, hb, hr, hml, hown, hts, hlk, hK, hA⟩ := id C
  induction n with
  | zero =>
    intro x1 x2 x3 x4 x5 x8 x9 x10 σ hw
    exact (show False from hw).elim
  | succ n ih =>
    intro x1 x2 x3 x4 x5 x8 x9 x10 σ hw H locs ls hO hl
    unfold w_anew_226 at hw
    refine lv_iload hx hb dX8_anew_226 (lv_at hl 8 rfl) ?_
    refine lv_bipush (v := 12) hx hb dX8_anew_228 (by decide) ?_
    refine lv_icmp_ge (tgt := 290) hx hb dX8_anew_230 (by decide) (fun hc => ?_) (fun hc => ?_)
    · have hw := hw.1 hc
      obtain ⟨x9_101, ex9_101⟩ : ∃ y : Int32, y = x9 + 1 := ⟨_, rfl⟩
      have hw := hw x9_101 ex9_101
      refine lv_iinc (v := x9_101) (lv' := [(9, .int x9_101), (0, .ref (ad 0)), (1, .int x1), (2, .int x2), (3, .int x3), (4, .int x4), (5, .int x5), (8, .int x8), (10, .int x10)]) hx hb dX8_anew_290 hl (k := 7) rfl (by rw [ex9_101]; rfl) (by decide) rfl (fun ls hl => ?_)
      refine lv_goto (tgt := 134) hx hb dX8_anew_293 (by decide) ?_
      exact hr134 x1 x2 x3 x4 x5 x8 x9_101 σ hw H locs ls hO (lv_sub hl [1, 2, 3, 4, 5, 6, 7, 0] rfl)
    · have hw := hw.2 hc
      refine lv_iconst (v := 0) hx hb dX8_anew_233 (by decide) ?_
      refine lv_istore (lv' := [(11, .int ((0 : Int32))), (0, .ref (ad 0)), (1, .int x1), (2, .int x2), (3, .int x3), (4, .int x4), (5, .int x5), (8, .int x8), (9, .int x9), (10, .int x10)]) hx hb dX8_anew_234 hl (by decide) rfl (fun ls hl => ?_)
      exact k_anew_236 C hr134 (fun x1 x2 x3 x4 x5 x8 x9 x10 σ hw H locs ls hO hl => ih x1 x2 x3 x4 x5 x8 x9 x10 σ hw H locs ls hO hl) fuL x1 x2 x3 x4 x5 x8 x9 x10 ((0 : Int32)) σ hw H locs ls hO (lv_sub hl [1, 2, 3, 4, 5, 6, 7, 8, 9, 0] rfl)
set_option maxRecDepth 100000 in
set_option maxHeartbeats 4000000 in
theorem k_anew_176 {p : Program} {l : Launch} {e : Env} {s : State} {m : MethodId} {args : Array Value} {below : List Frame} {meth : Method} {c : Code} {D : va_G} {y : Nat → ClassId} {ad : Nat → Nat} {X : va_W} {A : Nat → Prop} {Q : Int32 → mS → Prop} (C : mC p s m args meth c cX8_anew 12 (some .int) wsX8_anew D y A) {r134 : Int32 → Int32 → Int32 → Int32 → Int32 → Int32 → Int32 → mS → Prop} (hr134 : ∀ (x1 : Int32) (x2 : Int32) (x3 : Int32) (x4 : Int32) (x5 : Int32) (x8 : Int32) (x9 : Int32) (σ : mS), r134 x1 x2 x3 x4 x5 x8 x9 σ → ∀ (H : Heap) (locs : List Loc) (ls : Array Slot), mO D y ad X A s.heap H locs σ → lv_has ls 12 [(0, .ref (ad 0)), (1, .int x1), (2, .int x2), (3, .int x3), (4, .int x4), (5, .int x5), (8, .int x8), (9, .int x9)] → W p l e rX8_anew s m args below meth c H locs 0 0 (MQ below (va_Qi Q (mB D y ad X A) A) args s 0 0 A) (F0 m 134 ls [])) (n : Nat) : ∀ (x1 : Int32) (x2 : Int32) (x3 : Int32) (x4 : Int32) (x5 : Int32) (x8 : Int32) (x9 : Int32) (x10 : Int32) (σ : mS), w_anew_176 Q r134 n x1 x2 x3 x4 x5 x8 x9 x10 σ → ∀ (H : Heap) (locs : List Loc) (ls : Array Slot), mO D y ad X A s.heap H locs σ → lv_has ls 12 [(0, .ref (ad 0)), (1, .int x1), (2, .int x2), (3, .int x3), (4, .int x4), (5, .int x5), (8, .int x8), (9, .int x9), (10, .int x10)] → W p l e rX8_anew s m args below meth c H locs 0 0 (MQ below (va_Qi Q (mB D y ad X A) A) args s 0 0 A) (F0 m 176 ls []) := by
  obtain ⟨hx, hb, hr, hml, hown, hts, hlk, hK, hA⟩ := id C
  induction n with
  | zero =>
    intro x1 x2 x3 x4 x5 x8 x9 x10 σ hw
    exact (show False from hw).elim
  | succ n ih =>
    intro x1 x2 x3 x4 x5 x8 x9 x10 σ hw H locs ls hO hl
    unfold w_anew_176 at hw
    refine lv_iload hx hb dX8_anew_176 (lv_at hl 8 rfl) ?_
    refine lv_iload hx hb dX8_anew_178 (lv_at hl 6 rfl) ?_
    refine lv_icmp_ge (tgt := 223) hx hb dX8_anew_180 (by decide) (fun hc => ?_) (fun hc => ?_)
    · have hw := hw.1 hc
      refine lv_iconst (v := 0) hx hb dX8_anew_223 (by decide) ?_
      refine lv_istore (lv' := [(10, .int ((0 : Int32))), (0, .ref (ad 0)), (1, .int x1), (2, .int x2), (3, .int x3), (4, .int x4), (5, .int x5), (8, .int x8), (9, .int x9)]) hx hb dX8_anew_224 hl (by decide) rfl (fun ls hl => ?_)
      exact k_anew_226 C hr134 fuL x1 x2 x3 x4 x5 x8 x9 ((0 : Int32)) σ hw H locs ls hO (lv_sub hl [1, 2, 3, 4, 5, 6, 7, 8, 0] rfl)
    · have hw := hw.2 hc
      refine lv_aload_n hx hb dX8_anew_183 rfl (lv_at hl 0 rfl) ?_
      refine lv_iload hx hb dX8_anew_184 (lv_at hl 8 rfl) ?_
      refine lv_iload hx hb dX8_anew_186 (lv_at hl 7 rfl) ?_
      refine lv_icmp_ge (tgt := 196) hx hb dX8_anew_188 (by decide) (fun hc => ?_) (fun hc => ?_)
      · have hw := hw.1 hc
        refine lv_iload hx hb dX8_anew_196 (lv_at hl 4 rfl) ?_
        refine lv_i2l hx hb dX8_anew_198 rfl ?_
        exact k_anew_199 C hr134 (fun x1 x2 x3 x4 x5 x8 x9 x10 σ hw H locs ls hO hl => ih x1 x2 x3 x4 x5 x8 x9 x10 σ hw H locs ls hO hl) x1 x2 x3 x4 x5 x8 x9 x10 (x4.toInt64) σ hw H locs ls hO (lv_sub hl [0, 1, 2, 3, 4, 5, 6, 7, 8] rfl)
      · have hw := hw.2 hc
        refine lv_iload_n hx hb dX8_anew_191 rfl (lv_at hl 2 rfl) ?_
        refine lv_i2l hx hb dX8_anew_192 rfl ?_
        refine lv_goto (tgt := 199) hx hb dX8_anew_193 (by decide) ?_
        exact k_anew_199 C hr134 (fun x1 x2 x3 x4 x5 x8 x9 x10 σ hw H locs ls hO hl => ih x1 x2 x3 x4 x5 x8 x9 x10 σ hw H locs ls hO hl) x1 x2 x3 x4 x5 x8 x9 x10 (x2.toInt64) σ hw H locs ls hO (lv_sub hl [0, 1, 2, 3, 4, 5, 6, 7, 8] rfl)
set_option maxRecDepth 100000 in
set_option maxHeartbeats 4000000 in
theorem k_anew_144 {p : Program} {l : Launch} {e : Env} {s : State} {m : MethodId} {args : Array Value} {below : List Frame} {meth : Method} {c : Code} {D : va_G} {y : Nat → ClassId} {ad : Nat → Nat} {X : va_W} {A : Nat → Prop} {Q : Int32 → mS → Prop} (C : mC p s m args meth c cX8_anew 12 (some .int) wsX8_anew D y A) {r134 : Int32 → Int32 → Int32 → Int32 → Int32 → Int32 → Int32 → mS → Prop} (hr134 : ∀ (x1 : Int32) (x2 : Int32) (x3 : Int32) (x4 : Int32) (x5 : Int32) (x8 : Int32) (x9 : Int32) (σ : mS), r134 x1 x2 x3 x4 x5 x8 x9 σ → ∀ (H : Heap) (locs : List Loc) (ls : Array Slot), mO D y ad X A s.heap H locs σ → lv_has ls 12 [(0, .ref (ad 0)), (1, .int x1), (2, .int x2), (3, .int x3), (4, .int x4), (5, .int x5), (8, .int x8), (9, .int x9)] → W p l e rX8_anew s m args below meth c H locs 0 0 (MQ below (va_Qi Q (mB D y ad X A) A) args s 0 0 A) (F0 m 134 ls [])) (n : Nat) : ∀ (x1 : Int32) (x2 : Int32) (x3 : Int32) (x4 : Int32) (x5 : Int32) (x8 : Int32) (x9 : Int32) (x10 : Int32) (σ : mS), w_anew_144 Q r134 n x1 x2 x3 x4 x5 x8 x9 x10 σ → ∀ (H : Heap) (locs : List Loc) (ls : Array Slot), mO D y ad X A s.heap H locs σ → lv_has ls 12 [(0, .ref (ad 0)), (1, .int x1), (2, .int x2), (3, .int x3), (4, .int x4), (5, .int x5), (8, .int x8), (9, .int x9), (10, .int x10)] → W p l e rX8_anew s m args below meth c H locs 0 0 (MQ below (va_Qi Q (mB D y ad X A) A) args s 0 0 A) (F0 m 144 ls []) := by
  obtain ⟨hx, hb, hr, hml, hown, hts, hlk, hK, hA⟩ := id C
  have hin : ∀ w ∈ wsX80, w ∈ wsX8_anew := fun _ h => List.mem_cons_of_mem _ (List.mem_append_right _ h)
  induction n with
  | zero =>
    intro x1 x2 x3 x4 x5 x8 x9 x10 σ hw
    exact (show False from hw).elim
  | succ n ih =>
    intro x1 x2 x3 x4 x5 x8 x9 x10 σ hw H locs ls hO hl
    unfold w_anew_144 at hw
    refine lv_iload hx hb dX8_anew_144 (lv_at hl 8 rfl) ?_
    refine lv_iconst (v := 4) hx hb dX8_anew_146 (by decide) ?_
    refine lv_icmp_ge (tgt := 173) hx hb dX8_anew_147 (by decide) (fun hc => ?_) (fun hc => ?_)
    · have hw := hw.1 hc
      refine lv_iconst (v := 0) hx hb dX8_anew_173 (by decide) ?_
      refine lv_istore (lv' := [(10, .int ((0 : Int32))), (0, .ref (ad 0)), (1, .int x1), (2, .int x2), (3, .int x3), (4, .int x4), (5, .int x5), (8, .int x8), (9, .int x9)]) hx hb dX8_anew_174 hl (by decide) rfl (fun ls hl => ?_)
      exact k_anew_176 C hr134 fuL x1 x2 x3 x4 x5 x8 x9 ((0 : Int32)) σ hw H locs ls hO (lv_sub hl [1, 2, 3, 4, 5, 6, 7, 8, 0] rfl)
    · have hw := hw.2 hc
      refine lv_aload_n hx hb dX8_anew_150 rfl (lv_at hl 0 rfl) ?_
      refine mx_get C hO hin 4 (by decide) (idx := 23) (by decide +kernel) rfl rfl dX8_anew_151 ?_
      refine lv_iload hx hb dX8_anew_154 (lv_at hl 8 rfl) ?_
      refine lv_iload hx hb dX8_anew_156 (lv_at hl 8 rfl) ?_
      refine lv_if_ne (tgt := 165) hx hb dX8_anew_158 (by decide) (fun hc => ?_) (fun hc => ?_)
      · have hw := hw.1 hc
        refine lv_lconst (v := 0) hx hb dX8_anew_165 (by decide) ?_
        exact k_anew_166 C hr134 (fun x1 x2 x3 x4 x5 x8 x9 x10 σ hw H locs ls hO hl => ih x1 x2 x3 x4 x5 x8 x9 x10 σ hw H locs ls hO hl) x1 x2 x3 x4 x5 x8 x9 x10 x10 ((0 : Int64)) σ hw H locs ls hO (lv_sub hl [0, 1, 2, 3, 4, 5, 6, 7, 8] rfl)
      · have hw := hw.2 hc
        refine lv_lconst (v := 1) hx hb dX8_anew_161 (by decide) ?_
        refine lv_goto (tgt := 166) hx hb dX8_anew_162 (by decide) ?_
        exact k_anew_166 C hr134 (fun x1 x2 x3 x4 x5 x8 x9 x10 σ hw H locs ls hO hl => ih x1 x2 x3 x4 x5 x8 x9 x10 σ hw H locs ls hO hl) x1 x2 x3 x4 x5 x8 x9 x10 x10 ((1 : Int64)) σ hw H locs ls hO (lv_sub hl [0, 1, 2, 3, 4, 5, 6, 7, 8] rfl)
set_option maxRecDepth 100000 in
set_option maxHeartbeats 4000000 in
theorem k_anew_134 {p : Program} {l : Launch} {e : Env} {s : State} {m : MethodId} {args : Array Value} {below : List Frame} {meth : Method} {c : Code} {D : va_G} {y : Nat → ClassId} {ad : Nat → Nat} {X : va_W} {A : Nat → Prop} {Q : Int32 → mS → Prop} (C : mC p s m args meth c cX8_anew 12 (some .int) wsX8_anew D y A) (n : Nat) : ∀ (x1 : Int32) (x2 : Int32) (x3 : Int32) (x4 : Int32) (x5 : Int32) (x8 : Int32) (x9 : Int32) (σ : mS), w_anew_134 Q n x1 x2 x3 x4 x5 x8 x9 σ → ∀ (H : Heap) (locs : List Loc) (ls : Array Slot), mO D y ad X A s.heap H locs σ → lv_has ls 12 [(0, .ref (ad 0)), (1, .int x1), (2, .int x2), (3, .int x3), (4, .int x4), (5, .int x5), (8, .int x8), (9, .int x9)] → W p l e rX8_anew s m args below meth c H locs 0 0 (MQ below (va_Qi Q (mB D y ad X A) A) args s 0 0 A) (F0 m 134 ls []) := by
  obtain ⟨hx, hb, hr, hml, hown, hts, hlk, hK, hA⟩ := id C
  induction n with
  | zero =>
    intro x1 x2 x3 x4 x5 x8 x9 σ hw
    exact (show False from hw).elim
  | succ n ih =>
    intro x1 x2 x3 x4 x5 x8 x9 σ hw H locs ls hO hl
    unfold w_anew_134 at hw
    refine lv_iload hx hb dX8_anew_134 (lv_at hl 7 rfl) ?_
    refine lv_iload hx hb dX8_anew_136 (lv_at hl 6 rfl) ?_
    refine lv_icmp_gt (tgt := 296) hx hb dX8_anew_138 (by decide) (fun hc => ?_) (fun hc => ?_)
    · have hw := hw.1 hc
      refine lv_aload_n hx hb dX8_anew_296 rfl (lv_at hl 0 rfl) ?_
      refine lv_iload_n hx hb dX8_anew_297 rfl (lv_at hl 1 rfl) ?_
      refine mx_civ C hO (c_keep l D y ad X σ x1 _ hw) (cwV 1 hts gX8_anew_X8_keep rfl rfl rfl (by decide +kernel) ⟨Nat.le_of_ble_eq_true rfl, Nat.le_of_ble_eq_true rfl⟩) rfl hl.1 rfl (lv_room (Nat.le_of_ble_eq_true rfl)) dX8_anew_298 (fun u101 σ102 H locs hw hO => ?_)
      exact mx_iret C hO hw dX8_anew_301
    · have hw := hw.2 hc
      refine lv_iconst (v := 0) hx hb dX8_anew_141 (by decide) ?_
      refine lv_istore (lv' := [(10, .int ((0 : Int32))), (0, .ref (ad 0)), (1, .int x1), (2, .int x2), (3, .int x3), (4, .int x4), (5, .int x5), (8, .int x8), (9, .int x9)]) hx hb dX8_anew_142 hl (by decide) rfl (fun ls hl => ?_)
      exact k_anew_144 C (fun x1 x2 x3 x4 x5 x8 x9 σ hw H locs ls hO hl => ih x1 x2 x3 x4 x5 x8 x9 σ hw H locs ls hO hl) fuL x1 x2 x3 x4 x5 x8 x9 ((0 : Int32)) σ hw H locs ls hO (lv_sub hl [1, 2, 3, 4, 5, 6, 7, 8, 0] rfl)
set_option maxRecDepth 100000 in
set_option maxHeartbeats 4000000 in
theorem k_anew_110 {p : Program} {l : Launch} {e : Env} {s : State} {m : MethodId} {args : Array Value} {below : List Frame} {meth : Method} {c : Code} {D : va_G} {y : Nat → ClassId} {ad : Nat → Nat} {X : va_W} {A : Nat → Prop} {Q : Int32 → mS → Prop} (C : mC p s m args meth c cX8_anew 12 (some .int) wsX8_anew D y A) (n : Nat) : ∀ (x1 : Int32) (x2 : Int32) (x3 : Int32) (x4 : Int32) (x5 : Int32) (x8 : Int32) (x9 : Int32) (σ : mS), w_anew_110 Q n x1 x2 x3 x4 x5 x8 x9 σ → ∀ (H : Heap) (locs : List Loc) (ls : Array Slot), mO D y ad X A s.heap H locs σ → lv_has ls 12 [(0, .ref (ad 0)), (1, .int x1), (2, .int x2), (3, .int x3), (4, .int x4), (5, .int x5), (8, .int x8), (9, .int x9)] → W p l e rX8_anew s m args below meth c H locs 0 0 (MQ below (va_Qi Q (mB D y ad X A) A) args s 0 0 A) (F0 m 110 ls []) := by
  obtain ⟨hx, hb, hr, hml, hown, hts, hlk, hK, hA⟩ := id C
  have hin : ∀ w ∈ wsX80, w ∈ wsX8_anew := fun _ h => List.mem_cons_of_mem _ (List.mem_append_right _ h)
  induction n with
  | zero =>
    intro x1 x2 x3 x4 x5 x8 x9 σ hw
    exact (show False from hw).elim
  | succ n ih =>
    intro x1 x2 x3 x4 x5 x8 x9 σ hw H locs ls hO hl
    unfold w_anew_110 at hw
    refine lv_iload hx hb dX8_anew_110 (lv_at hl 7 rfl) ?_
    refine lv_bipush (v := 12) hx hb dX8_anew_112 (by decide) ?_
    refine lv_icmp_ge (tgt := 131) hx hb dX8_anew_114 (by decide) (fun hc => ?_) (fun hc => ?_)
    · have hw := hw.1 hc
      refine lv_iconst (v := 0) hx hb dX8_anew_131 (by decide) ?_
      refine lv_istore (lv' := [(9, .int ((0 : Int32))), (0, .ref (ad 0)), (1, .int x1), (2, .int x2), (3, .int x3), (4, .int x4), (5, .int x5), (8, .int x8)]) hx hb dX8_anew_132 hl (by decide) rfl (fun ls hl => ?_)
      exact k_anew_134 C fuL x1 x2 x3 x4 x5 x8 ((0 : Int32)) σ hw H locs ls hO (lv_sub hl [1, 2, 3, 4, 5, 6, 7, 0] rfl)
    · have hw := hw.2 hc
      refine lv_aload_n hx hb dX8_anew_117 rfl (lv_at hl 0 rfl) ?_
      refine mx_get C hO hin 2 (by decide) (idx := 17) (by decide +kernel) rfl rfl dX8_anew_118 ?_
      refine lv_iload hx hb dX8_anew_121 (lv_at hl 7 rfl) ?_
      refine lv_lconst (v := 0) hx hb dX8_anew_123 (by decide) ?_
      refine mx_last C hO (a := 3) rfl hw.1 dX8_anew_124 (fun H locs σ101 eσ101 hO => ?_)
      have hw := hw.2 σ101 eσ101
      obtain ⟨x9_102, ex9_102⟩ : ∃ y : Int32, y = x9 + 1 := ⟨_, rfl⟩
      have hw := hw x9_102 ex9_102
      refine lv_iinc (v := x9_102) (lv' := [(9, .int x9_102), (0, .ref (ad 0)), (1, .int x1), (2, .int x2), (3, .int x3), (4, .int x4), (5, .int x5), (8, .int x8)]) hx hb dX8_anew_125 hl (k := 7) rfl (by rw [ex9_102]; rfl) (by decide) rfl (fun ls hl => ?_)
      refine lv_goto (tgt := 110) hx hb dX8_anew_128 (by decide) ?_
      exact ih x1 x2 x3 x4 x5 x8 x9_102 σ101 hw H locs ls hO (lv_sub hl [1, 2, 3, 4, 5, 6, 7, 0] rfl)
set_option maxRecDepth 100000 in
set_option maxHeartbeats 4000000 in
theorem k_anew_90 {p : Program} {l : Launch} {e : Env} {s : State} {m : MethodId} {args : Array Value} {below : List Frame} {meth : Method} {c : Code} {D : va_G} {y : Nat → ClassId} {ad : Nat → Nat} {X : va_W} {A : Nat → Prop} {Q : Int32 → mS → Prop} (C : mC p s m args meth c cX8_anew 12 (some .int) wsX8_anew D y A) (x1 : Int32) (x2 : Int32) (x3 : Int32) (x4 : Int32) (x5 : Int32) (z0 : Int32) (σ : mS) (hw : w_anew_90 Q x1 x2 x3 x4 x5 z0 σ) (H : Heap) (locs : List Loc) (ls : Array Slot) (hO : mO D y ad X A s.heap H locs σ) (hl : lv_has ls 12 [(0, .ref (ad 0)), (1, .int x1), (2, .int x2), (3, .int x3), (4, .int x4), (5, .int x5)]) : W p l e rX8_anew s m args below meth c H locs 0 0 (MQ below (va_Qi Q (mB D y ad X A) A) args s 0 0 A) (F0 m 90 ls [.int z0]) := by
  obtain ⟨hx, hb, hr, hml, hown, hts, hlk, hK, hA⟩ := id C
  unfold w_anew_90 at hw
  refine lv_istore (lv' := [(7, .int z0), (0, .ref (ad 0)), (1, .int x1), (2, .int x2), (3, .int x3), (4, .int x4), (5, .int x5)]) hx hb dX8_anew_90 hl (by decide) rfl (fun ls hl => ?_)
  refine lv_iload hx hb dX8_anew_92 (lv_at hl 0 rfl) ?_
  refine lv_if_ge (tgt := 100) hx hb dX8_anew_94 (by decide) (fun hc => ?_) (fun hc => ?_)
  · have hw := hw.1 hc
    refine lv_aload_n hx hb dX8_anew_100 rfl (lv_at hl 1 rfl) ?_
    refine lv_iload_n hx hb dX8_anew_101 rfl (lv_at hl 2 rfl) ?_
    refine mx_civ C hO (c_degreeOf l D y ad X σ x1 _ hw) (cwV 1 hts gX8_anew_X8_degreeOf rfl rfl rfl (by decide +kernel) ⟨Nat.le_of_ble_eq_true rfl, Nat.le_of_ble_eq_true rfl⟩) rfl hl.1 rfl (lv_room (Nat.le_of_ble_eq_true rfl)) dX8_anew_102 (fun u101 σ102 H locs hw hO => ?_)
    refine lv_istore (lv' := [(8, .int u101), (7, .int z0), (0, .ref (ad 0)), (1, .int x1), (2, .int x2), (3, .int x3), (4, .int x4), (5, .int x5)]) hx hb dX8_anew_105 hl (by decide) rfl (fun ls hl => ?_)
    refine lv_iconst (v := 0) hx hb dX8_anew_107 (by decide) ?_
    refine lv_istore (lv' := [(9, .int ((0 : Int32))), (8, .int u101), (7, .int z0), (0, .ref (ad 0)), (1, .int x1), (2, .int x2), (3, .int x3), (4, .int x4), (5, .int x5)]) hx hb dX8_anew_108 hl (by decide) rfl (fun ls hl => ?_)
    exact k_anew_110 C fuL x1 x2 x3 x4 x5 u101 ((0 : Int32)) σ102 hw H locs ls hO (lv_sub hl [3, 4, 5, 6, 7, 8, 1, 0] rfl)
  · have hw := hw.2 hc
    refine lv_iload hx hb dX8_anew_97 (lv_at hl 0 rfl) ?_
    exact mx_iret C hO hw dX8_anew_99
set_option maxRecDepth 100000 in
set_option maxHeartbeats 4000000 in
theorem k_anew_74 {p : Program} {l : Launch} {e : Env} {s : State} {m : MethodId} {args : Array Value} {below : List Frame} {meth : Method} {c : Code} {D : va_G} {y : Nat → ClassId} {ad : Nat → Nat} {X : va_W} {A : Nat → Prop} {Q : Int32 → mS → Prop} (C : mC p s m args meth c cX8_anew 12 (some .int) wsX8_anew D y A) (x1 : Int32) (x2 : Int32) (x3 : Int32) (x4 : Int32) (x5 : Int32) (z0 : Int32) (σ : mS) (hw : w_anew_74 Q x1 x2 x3 x4 x5 z0 σ) (H : Heap) (locs : List Loc) (ls : Array Slot) (hO : mO D y ad X A s.heap H locs σ) (hl : lv_has ls 12 [(0, .ref (ad 0)), (1, .int x1), (2, .int x2), (3, .int x3), (4, .int x4), (5, .int x5)]) : W p l e rX8_anew s m args below meth c H locs 0 0 (MQ below (va_Qi Q (mB D y ad X A) A) args s 0 0 A) (F0 m 74 ls [.int z0]) := by
  obtain ⟨hx, hb, hr, hml, hown, hts, hlk, hK, hA⟩ := id C
  unfold w_anew_74 at hw
  refine lv_istore (lv' := [(6, .int z0), (0, .ref (ad 0)), (1, .int x1), (2, .int x2), (3, .int x3), (4, .int x4), (5, .int x5)]) hx hb dX8_anew_74 hl (by decide) rfl (fun ls hl => ?_)
  refine lv_iload hx hb dX8_anew_76 (lv_at hl 0 rfl) ?_
  refine lv_if_ne (tgt := 85) hx hb dX8_anew_78 (by decide) (fun hc => ?_) (fun hc => ?_)
  · have hw := hw.1 hc
    refine lv_aload_n hx hb dX8_anew_85 rfl (lv_at hl 1 rfl) ?_
    refine lv_iload_n hx hb dX8_anew_86 rfl (lv_at hl 2 rfl) ?_
    refine mx_civ C hO (c_against l D y ad X σ x1 _ hw) (cwV 1 hts gX8_anew_X8_against rfl rfl rfl (by decide +kernel) ⟨Nat.le_of_ble_eq_true rfl, Nat.le_of_ble_eq_true rfl⟩) rfl hl.1 rfl (lv_room (Nat.le_of_ble_eq_true rfl)) dX8_anew_87 (fun u101 σ102 H locs hw hO => ?_)
    exact k_anew_90 C x1 x2 x3 x4 x5 u101 σ102 hw H locs ls hO (lv_sub hl [1, 2, 3, 4, 5, 6] rfl)
  · have hw := hw.2 hc
    refine lv_iconst (v := -1) hx hb dX8_anew_81 (by decide) ?_
    refine lv_goto (tgt := 90) hx hb dX8_anew_82 (by decide) ?_
    exact k_anew_90 C x1 x2 x3 x4 x5 ((-1 : Int32)) σ hw H locs ls hO (lv_sub hl [1, 2, 3, 4, 5, 6] rfl)
set_option maxRecDepth 100000 in
set_option maxHeartbeats 4000000 in
theorem k_anew_73 {p : Program} {l : Launch} {e : Env} {s : State} {m : MethodId} {args : Array Value} {below : List Frame} {meth : Method} {c : Code} {D : va_G} {y : Nat → ClassId} {ad : Nat → Nat} {X : va_W} {A : Nat → Prop} {Q : Int32 → mS → Prop} (C : mC p s m args meth c cX8_anew 12 (some .int) wsX8_anew D y A) (x1 : Int32) (x2 : Int32) (x3 : Int32) (x4 : Int32) (x5 : Int32) (σ : mS) (hw : w_anew_73 Q x1 x2 x3 x4 x5 σ) (H : Heap) (locs : List Loc) (ls : Array Slot) (hO : mO D y ad X A s.heap H locs σ) (hl : lv_has ls 12 [(0, .ref (ad 0)), (1, .int x1), (2, .int x2), (3, .int x3), (4, .int x4), (5, .int x5)]) : W p l e rX8_anew s m args below meth c H locs 0 0 (MQ below (va_Qi Q (mB D y ad X A) A) args s 0 0 A) (F0 m 73 ls []) := by
  obtain ⟨hx, hb, hr, hml, hown, hts, hlk, hK, hA⟩ := id C
  unfold w_anew_73 at hw
  refine lv_iconst (v := 0) hx hb dX8_anew_73 (by decide) ?_
  exact k_anew_74 C x1 x2 x3 x4 x5 ((0 : Int32)) σ hw H locs ls hO (lv_sub hl [0, 1, 2, 3, 4, 5] rfl)
set_option maxRecDepth 100000 in
set_option maxHeartbeats 4000000 in
theorem k_anew_e {p : Program} {l : Launch} {e : Env} {s : State} {m : MethodId} {args : Array Value} {below : List Frame} {meth : Method} {c : Code} {D : va_G} {y : Nat → ClassId} {ad : Nat → Nat} {X : va_W} {A : Nat → Prop} {Q : Int32 → mS → Prop} (C : mC p s m args meth c cX8_anew 12 (some .int) wsX8_anew D y A) (x1 : Int32) (x2 : Int32) (x3 : Int32) (x4 : Int32) (x5 : Int32) (σ : mS) (hw : w_anew Q x1 x2 x3 x4 x5 σ) (H : Heap) (locs : List Loc) (ls : Array Slot) (hO : mO D y ad X A s.heap H locs σ) (hl : lv_has ls 12 [(0, .ref (ad 0)), (1, .int x1), (2, .int x2), (3, .int x3), (4, .int x4), (5, .int x5)]) : W p l e rX8_anew s m args below meth c H locs 0 0 (MQ below (va_Qi Q (mB D y ad X A) A) args s 0 0 A) (F0 m 0 ls []) := by
  obtain ⟨hx, hb, hr, hml, hown, hts, hlk, hK, hA⟩ := id C
  unfold w_anew at hw
  refine lv_iload_n hx hb dX8_anew_0 rfl (lv_at hl 2 rfl) ?_
  refine lv_i2l hx hb dX8_anew_1 rfl ?_
  refine lv_ldc2 (v := -5) hx hb hown (hts (.constantLong RX8 238 (-5)) (by decide +kernel)) dX8_anew_2 ?_
  refine lv_ldc2 (v := 5) hx hb hown (hts (.constantLong RX8 217 (5)) (by decide +kernel)) dX8_anew_5 ?_
  refine mx_cis C hO (c_in l D y ad X σ (x2.toInt64) ((-5 : Int64)) ((5 : Int64)) _ hw) (va_cwS 3 hts gX8_anew_X8_in rfl rfl rfl (by decide +kernel) ⟨Nat.le_of_ble_eq_true rfl, Nat.le_of_ble_eq_true rfl⟩) rfl hl.1 rfl (lv_room (Nat.le_of_ble_eq_true rfl)) dX8_anew_8 (fun u101 σ102 H locs hw hO => ?_)
  refine lv_if_eq (tgt := 73) hx hb dX8_anew_11 (by decide) (fun hc => ?_) (fun hc => ?_)
  · have hw := hw.1 hc
    exact k_anew_73 C x1 x2 x3 x4 x5 σ102 hw H locs ls hO (lv_sub hl [0, 1, 2, 3, 4, 5] rfl)
  · have hw := hw.2 hc
    refine lv_iload_n hx hb dX8_anew_14 rfl (lv_at hl 3 rfl) ?_
    refine lv_i2l hx hb dX8_anew_15 rfl ?_
    refine lv_ldc2 (v := -5) hx hb hown (hts (.constantLong RX8 238 (-5)) (by decide +kernel)) dX8_anew_16 ?_
    refine lv_ldc2 (v := 5) hx hb hown (hts (.constantLong RX8 217 (5)) (by decide +kernel)) dX8_anew_19 ?_
    refine mx_cis C hO (c_in l D y ad X σ102 (x3.toInt64) ((-5 : Int64)) ((5 : Int64)) _ hw) (va_cwS 3 hts gX8_anew_X8_in rfl rfl rfl (by decide +kernel) ⟨Nat.le_of_ble_eq_true rfl, Nat.le_of_ble_eq_true rfl⟩) rfl hl.1 rfl (lv_room (Nat.le_of_ble_eq_true rfl)) dX8_anew_22 (fun u103 σ104 H locs hw hO => ?_)
    refine lv_if_eq (tgt := 73) hx hb dX8_anew_25 (by decide) (fun hc => ?_) (fun hc => ?_)
    · have hw := hw.1 hc
      exact k_anew_73 C x1 x2 x3 x4 x5 σ104 hw H locs ls hO (lv_sub hl [0, 1, 2, 3, 4, 5] rfl)
    · have hw := hw.2 hc
      refine lv_iload hx hb dX8_anew_28 (lv_at hl 4 rfl) ?_
      refine lv_i2l hx hb dX8_anew_30 rfl ?_
      refine lv_ldc2 (v := -5) hx hb hown (hts (.constantLong RX8 238 (-5)) (by decide +kernel)) dX8_anew_31 ?_
      refine lv_ldc2 (v := 5) hx hb hown (hts (.constantLong RX8 217 (5)) (by decide +kernel)) dX8_anew_34 ?_
      refine mx_cis C hO (c_in l D y ad X σ104 (x4.toInt64) ((-5 : Int64)) ((5 : Int64)) _ hw) (va_cwS 3 hts gX8_anew_X8_in rfl rfl rfl (by decide +kernel) ⟨Nat.le_of_ble_eq_true rfl, Nat.le_of_ble_eq_true rfl⟩) rfl hl.1 rfl (lv_room (Nat.le_of_ble_eq_true rfl)) dX8_anew_37 (fun u105 σ106 H locs hw hO => ?_)
      refine lv_if_eq (tgt := 73) hx hb dX8_anew_40 (by decide) (fun hc => ?_) (fun hc => ?_)
      · have hw := hw.1 hc
        exact k_anew_73 C x1 x2 x3 x4 x5 σ106 hw H locs ls hO (lv_sub hl [0, 1, 2, 3, 4, 5] rfl)
      · have hw := hw.2 hc
        refine lv_iload hx hb dX8_anew_43 (lv_at hl 5 rfl) ?_
        refine lv_i2l hx hb dX8_anew_45 rfl ?_
        refine lv_ldc2 (v := -5) hx hb hown (hts (.constantLong RX8 238 (-5)) (by decide +kernel)) dX8_anew_46 ?_
        refine lv_ldc2 (v := 5) hx hb hown (hts (.constantLong RX8 217 (5)) (by decide +kernel)) dX8_anew_49 ?_
        refine mx_cis C hO (c_in l D y ad X σ106 (x5.toInt64) ((-5 : Int64)) ((5 : Int64)) _ hw) (va_cwS 3 hts gX8_anew_X8_in rfl rfl rfl (by decide +kernel) ⟨Nat.le_of_ble_eq_true rfl, Nat.le_of_ble_eq_true rfl⟩) rfl hl.1 rfl (lv_room (Nat.le_of_ble_eq_true rfl)) dX8_anew_52 (fun u107 σ108 H locs hw hO => ?_)
        refine lv_if_eq (tgt := 73) hx hb dX8_anew_55 (by decide) (fun hc => ?_) (fun hc => ?_)
        · have hw := hw.1 hc
          exact k_anew_73 C x1 x2 x3 x4 x5 σ108 hw H locs ls hO (lv_sub hl [0, 1, 2, 3, 4, 5] rfl)
        · have hw := hw.2 hc
          refine lv_iload_n hx hb dX8_anew_58 rfl (lv_at hl 2 rfl) ?_
          refine lv_iload hx hb dX8_anew_59 (lv_at hl 5 rfl) ?_
          refine lv_imul hx hb dX8_anew_61 ?_
          refine lv_iload_n hx hb dX8_anew_62 rfl (lv_at hl 3 rfl) ?_
          refine lv_iload hx hb dX8_anew_63 (lv_at hl 4 rfl) ?_
          refine lv_imul hx hb dX8_anew_65 ?_
          refine lv_icmp_eq (tgt := 73) hx hb dX8_anew_66 (by decide) (fun hc => ?_) (fun hc => ?_)
          · have hw := hw.1 hc
            exact k_anew_73 C x1 x2 x3 x4 x5 σ108 hw H locs ls hO (lv_sub hl [0, 1, 2, 3, 4, 5] rfl)
          · have hw := hw.2 hc
            refine lv_iconst (v := 1) hx hb dX8_anew_69 (by decide) ?_
            refine lv_goto (tgt := 74) hx hb dX8_anew_70 (by decide) ?_
            exact k_anew_74 C x1 x2 x3 x4 x5 ((1 : Int32)) σ108 hw H locs ls hO (lv_sub hl [0, 1, 2, 3, 4, 5] rfl)
theorem c_anew (l : Launch) (D : va_G) (y : Nat → ClassId) (ad : Nat → Nat) (X : va_W) (σ : mS) (x1 : Int32) (x2 : Int32) (x3 : Int32) (x4 : Int32) (x5 : Int32) (Q : Int32 → mS → Prop) (hw : w_anew Q x1 x2 x3 x4 x5 σ) : ∀ sz, Met l yX8_anew wsX8_anew rX8_anew (va_Pc [.ref (ad 0), .int x1, .int x2, .int x3, .int x4, .int x5] (mPre D y ad X sz σ)) (va_Qi Q (mB D y ad X (va_A (mW y ad σ ++ X) sz)) (va_A (mW y ad σ ++ X) sz)) 0 0 (va_A (mW y ad σ ++ X) sz) :=
  mMet (Qc := fun A => va_Qi Q (mB D y ad X A) A) rfl (Nat.le_of_ble_eq_true rfl) (fun p e s m args below meth c A ls C hO hl => k_anew_e C x1 x2 x3 x4 x5 σ hw s.heap [] ls hO hl)
