/-! the reference: what each method does, and the walk of its bytecode (written by wip/tools/gen.py) -/
abbrev rX8_at : Room := { frames := 3, cells := 0, slots := 0, locals := 66 }
set_option maxRecDepth 100000 in
set_option maxHeartbeats 4000000 in
theorem k_at_145 {p : Program} {l : Launch} {e : Env} {s : State} {m : MethodId} {args : Array Value} {below : List Frame} {meth : Method} {c : Code} {D : va_G} {y : Nat → ClassId} {ad : Nat → Nat} {X : va_W} {A : Nat → Prop} {Q : Int64 → mS → Prop} (C : mC p s m args meth c cX8_at 13 (some .long) wsX8_at D y A) (z0 : Int64) (σ : mS) (hw : w_at_145 Q z0 σ) (H : Heap) (locs : List Loc) (ls : Array Slot) (hO : mO D y ad X A s.heap H locs σ) (hl : lv_has ls 13 [(0, .ref (ad 0))]) : W p l e rX8_at s m args below meth c H locs 0 0 (MQ below (va_Ql Q (mB D y ad X A) A) args s 0 0 A) (F0 m 145 ls [.long z0]) := by
  obtain ⟨hx, hb, hr, hml, hown, hts, hlk, hK, hA⟩ := id C
  unfold w_at_145 at hw
  exact mx_lret C hO hw dX8_at_145
set_option maxRecDepth 100000 in
set_option maxHeartbeats 4000000 in
theorem k_at_125 {p : Program} {l : Launch} {e : Env} {s : State} {m : MethodId} {args : Array Value} {below : List Frame} {meth : Method} {c : Code} {D : va_G} {y : Nat → ClassId} {ad : Nat → Nat} {X : va_W} {A : Nat → Prop} {Q : Int64 → mS → Prop} (C : mC p s m args meth c cX8_at 13 (some .long) wsX8_at D y A) (x5 : Int32) (x7 : Int64) (x9 : Int64) (z0 : Int64) (σ : mS) (hw : w_at_125 Q x5 x7 x9 z0 σ) (H : Heap) (locs : List Loc) (ls : Array Slot) (hO : mO D y ad X A s.heap H locs σ) (hl : lv_has ls 13 [(0, .ref (ad 0)), (5, .int x5), (7, .long x7), (9, .long x9)]) : W p l e rX8_at s m args below meth c H locs 0 0 (MQ below (va_Ql Q (mB D y ad X A) A) args s 0 0 A) (F0 m 125 ls [.long z0]) := by
  obtain ⟨hx, hb, hr, hml, hown, hts, hlk, hK, hA⟩ := id C
  unfold w_at_125 at hw
  refine lv_lstore (lv' := [(11, .long z0), (0, .ref (ad 0)), (5, .int x5), (7, .long x7), (9, .long x9)]) hx hb dX8_at_125 hl (by decide) rfl (fun ls hl => ?_)
  refine lv_iload hx hb dX8_at_127 (lv_at hl 2 rfl) ?_
  refine lv_if_ne (tgt := 140) hx hb dX8_at_129 (by decide) (fun hc => ?_) (fun hc => ?_)
  · have hw := hw.1 hc
    refine lv_lload hx hb dX8_at_140 (lv_at hl 4 rfl) ?_
    refine lv_lload hx hb dX8_at_142 (lv_at hl 0 rfl) ?_
    refine lv_ldiv hx hb dX8_at_144 hw.1 ?_
    have hw := hw.2
    exact k_at_145 C (x9 / z0) σ hw H locs ls hO (lv_sub hl [1] rfl)
  · have hw := hw.2 hc
    refine lv_lload hx hb dX8_at_132 (lv_at hl 3 rfl) ?_
    refine lv_lload hx hb dX8_at_134 (lv_at hl 0 rfl) ?_
    refine lv_ldiv hx hb dX8_at_136 hw.1 ?_
    have hw := hw.2
    refine lv_goto (tgt := 145) hx hb dX8_at_137 (by decide) ?_
    exact k_at_145 C (x7 / z0) σ hw H locs ls hO (lv_sub hl [1] rfl)
set_option maxRecDepth 100000 in
set_option maxHeartbeats 4000000 in
theorem k_at_39 {p : Program} {l : Launch} {e : Env} {s : State} {m : MethodId} {args : Array Value} {below : List Frame} {meth : Method} {c : Code} {D : va_G} {y : Nat → ClassId} {ad : Nat → Nat} {X : va_W} {A : Nat → Prop} {Q : Int64 → mS → Prop} (C : mC p s m args meth c cX8_at 13 (some .long) wsX8_at D y A) (x1 : Int32) (x2 : Int32) (x3 : Int32) (x4 : Int32) (x5 : Int32) (z0 : Int32) (σ : mS) (hw : w_at_39 Q x1 x2 x3 x4 x5 z0 σ) (H : Heap) (locs : List Loc) (ls : Array Slot) (hO : mO D y ad X A s.heap H locs σ) (hl : lv_has ls 13 [(0, .ref (ad 0)), (1, .int x1), (2, .int x2), (3, .int x3), (4, .int x4), (5, .int x5)]) : W p l e rX8_at s m args below meth c H locs 0 0 (MQ below (va_Ql Q (mB D y ad X A) A) args s 0 0 A) (F0 m 39 ls [.int z0]) := by
  obtain ⟨hx, hb, hr, hml, hown, hts, hlk, hK, hA⟩ := id C
  unfold w_at_39 at hw
  refine lv_istore (lv' := [(6, .int z0), (0, .ref (ad 0)), (1, .int x1), (2, .int x2), (3, .int x3), (4, .int x4), (5, .int x5)]) hx hb dX8_at_39 hl (by decide) rfl (fun ls hl => ?_)
  refine lv_iload hx hb dX8_at_41 (lv_at hl 0 rfl) ?_
  refine lv_if_ge (tgt := 54) hx hb dX8_at_43 (by decide) (fun hc => ?_) (fun hc => ?_)
  · have hw := hw.1 hc
    refine lv_aload_n hx hb dX8_at_54 rfl (lv_at hl 1 rfl) ?_
    refine lv_bipush (v := 12) hx hb dX8_at_55 (by decide) ?_
    refine lv_iload_n hx hb dX8_at_57 rfl (lv_at hl 2 rfl) ?_
    refine lv_imul hx hb dX8_at_58 ?_
    refine lv_iconst (v := 4) hx hb dX8_at_59 (by decide) ?_
    refine lv_iload hx hb dX8_at_60 (lv_at hl 5 rfl) ?_
    refine lv_imul hx hb dX8_at_62 ?_
    refine lv_iadd hx hb dX8_at_63 ?_
    refine lv_iload_n hx hb dX8_at_64 rfl (lv_at hl 3 rfl) ?_
    refine lv_i2l hx hb dX8_at_65 rfl ?_
    refine lv_iload_n hx hb dX8_at_66 rfl (lv_at hl 4 rfl) ?_
    refine lv_i2l hx hb dX8_at_67 rfl ?_
    refine mx_clv C hO (c_valueAt l D y ad X σ (((12 : Int32) * x1) + ((4 : Int32) * x4)) (x2.toInt64) (x3.toInt64) _ hw) (cwV 3 hts gX8_at_X8_valueAt rfl rfl rfl (by decide +kernel) ⟨Nat.le_of_ble_eq_true rfl, Nat.le_of_ble_eq_true rfl⟩) rfl hl.1 rfl (lv_room (Nat.le_of_ble_eq_true rfl)) dX8_at_68 (fun u101 σ102 H locs hw hO => ?_)
    refine lv_lstore (lv' := [(7, .long u101), (6, .int z0), (0, .ref (ad 0)), (1, .int x1), (2, .int x2), (3, .int x3), (4, .int x4), (5, .int x5)]) hx hb dX8_at_71 hl (by decide) rfl (fun ls hl => ?_)
    refine lv_aload_n hx hb dX8_at_73 rfl (lv_at hl 2 rfl) ?_
    refine lv_bipush (v := 12) hx hb dX8_at_74 (by decide) ?_
    refine lv_iload_n hx hb dX8_at_76 rfl (lv_at hl 3 rfl) ?_
    refine lv_imul hx hb dX8_at_77 ?_
    refine lv_bipush (v := 8) hx hb dX8_at_78 (by decide) ?_
    refine lv_iadd hx hb dX8_at_80 ?_
    refine lv_iload_n hx hb dX8_at_81 rfl (lv_at hl 4 rfl) ?_
    refine lv_i2l hx hb dX8_at_82 rfl ?_
    refine lv_iload_n hx hb dX8_at_83 rfl (lv_at hl 5 rfl) ?_
    refine lv_i2l hx hb dX8_at_84 rfl ?_
    refine mx_clv C hO (c_valueAt l D y ad X σ102 (((12 : Int32) * x1) + (8 : Int32)) (x2.toInt64) (x3.toInt64) _ hw) (cwV 3 hts gX8_at_X8_valueAt rfl rfl rfl (by decide +kernel) ⟨Nat.le_of_ble_eq_true rfl, Nat.le_of_ble_eq_true rfl⟩) rfl hl.1 rfl (lv_room (Nat.le_of_ble_eq_true rfl)) dX8_at_85 (fun u103 σ104 H locs hw hO => ?_)
    refine lv_lstore (lv' := [(9, .long u103), (7, .long u101), (6, .int z0), (0, .ref (ad 0)), (1, .int x1), (2, .int x2), (3, .int x3), (4, .int x4), (5, .int x5)]) hx hb dX8_at_88 hl (by decide) rfl (fun ls hl => ?_)
    refine lv_lload hx hb dX8_at_90 (lv_at hl 0 rfl) ?_
    refine lv_lconst (v := 0) hx hb dX8_at_92 (by decide) ?_
    refine W.lcmp hx hb dX8_at_93 ?_
    refine lv_if_ne (tgt := 101) hx hb dX8_at_94 (by decide) (fun hc => ?_) (fun hc => ?_)
    · have hc := (not_congr (lg_cmp_eq _ _)).mp hc
      have hw := hw.1 hc
      refine lv_lload hx hb dX8_at_101 (lv_at hl 1 rfl) ?_
      refine lv_lload hx hb dX8_at_103 (lv_at hl 0 rfl) ?_
      refine mx_cls C hO (c_common l D y ad X σ104 u101 u103 _ hw) (va_cwS 2 hts gX8_at_X8_common rfl rfl rfl (by decide +kernel) ⟨Nat.le_of_ble_eq_true rfl, Nat.le_of_ble_eq_true rfl⟩) rfl hl.1 rfl (lv_room (Nat.le_of_ble_eq_true rfl)) dX8_at_105 (fun u105 σ106 H locs hw hO => ?_)
      refine lv_lstore (lv' := [(11, .long u105), (9, .long u103), (7, .long u101), (6, .int z0), (0, .ref (ad 0)), (1, .int x1), (2, .int x2), (3, .int x3), (4, .int x4), (5, .int x5)]) hx hb dX8_at_108 hl (by decide) rfl (fun ls hl => ?_)
      refine lv_lload hx hb dX8_at_110 (lv_at hl 1 rfl) ?_
      refine lv_lconst (v := 0) hx hb dX8_at_112 (by decide) ?_
      refine W.lcmp hx hb dX8_at_113 ?_
      refine lv_if_ge (tgt := 123) hx hb dX8_at_114 (by decide) (fun hc => ?_) (fun hc => ?_)
      · have hc := (lg_cmp_ge _ _).mp hc
        have hw := hw.1 hc
        refine lv_lload hx hb dX8_at_123 (lv_at hl 0 rfl) ?_
        exact k_at_125 C x5 u101 u103 u105 σ106 hw H locs ls hO (lv_sub hl [4, 9, 2, 1] rfl)
      · have hc := (not_congr (lg_cmp_ge _ _)).mp hc
        have hw := hw.2 hc
        refine lv_lload hx hb dX8_at_117 (lv_at hl 0 rfl) ?_
        refine lv_lneg hx hb dX8_at_119 ?_
        refine lv_goto (tgt := 125) hx hb dX8_at_120 (by decide) ?_
        exact k_at_125 C x5 u101 u103 (-u105) σ106 hw H locs ls hO (lv_sub hl [4, 9, 2, 1] rfl)
    · have hc := (lg_cmp_eq _ _).mp hc
      have hw := hw.2 hc
      refine lv_ldc2 (v := -1000000000004) hx hb hown (hts (.constantLong RX8 181 (-1000000000004)) (by decide +kernel)) dX8_at_97 ?_
      exact mx_lret C hO hw dX8_at_100
  · have hw := hw.2 hc
    refine lv_iload hx hb dX8_at_46 (lv_at hl 0 rfl) ?_
    refine lv_i2l hx hb dX8_at_48 rfl ?_
    refine lv_ldc2 (v := 1000000000000) hx hb hown (hts (.constantLong RX8 175 (1000000000000)) (by decide +kernel)) dX8_at_49 ?_
    refine lv_lsub hx hb dX8_at_52 ?_
    exact mx_lret C hO hw dX8_at_53
set_option maxRecDepth 100000 in
set_option maxHeartbeats 4000000 in
theorem k_at_30 {p : Program} {l : Launch} {e : Env} {s : State} {m : MethodId} {args : Array Value} {below : List Frame} {meth : Method} {c : Code} {D : va_G} {y : Nat → ClassId} {ad : Nat → Nat} {X : va_W} {A : Nat → Prop} {Q : Int64 → mS → Prop} (C : mC p s m args meth c cX8_at 13 (some .long) wsX8_at D y A) (x1 : Int32) (x2 : Int32) (x3 : Int32) (x4 : Int32) (x5 : Int32) (σ : mS) (hw : w_at_30 Q x1 x2 x3 x4 x5 σ) (H : Heap) (locs : List Loc) (ls : Array Slot) (hO : mO D y ad X A s.heap H locs σ) (hl : lv_has ls 13 [(0, .ref (ad 0)), (1, .int x1), (2, .int x2), (3, .int x3), (4, .int x4), (5, .int x5)]) : W p l e rX8_at s m args below meth c H locs 0 0 (MQ below (va_Ql Q (mB D y ad X A) A) args s 0 0 A) (F0 m 30 ls []) := by
  obtain ⟨hx, hb, hr, hml, hown, hts, hlk, hK, hA⟩ := id C
  unfold w_at_30 at hw
  refine lv_iconst (v := -1) hx hb dX8_at_30 (by decide) ?_
  refine lv_goto (tgt := 39) hx hb dX8_at_31 (by decide) ?_
  exact k_at_39 C x1 x2 x3 x4 x5 ((-1 : Int32)) σ hw H locs ls hO (lv_sub hl [0, 1, 2, 3, 4, 5] rfl)
set_option maxRecDepth 100000 in
set_option maxHeartbeats 4000000 in
theorem k_at_e {p : Program} {l : Launch} {e : Env} {s : State} {m : MethodId} {args : Array Value} {below : List Frame} {meth : Method} {c : Code} {D : va_G} {y : Nat → ClassId} {ad : Nat → Nat} {X : va_W} {A : Nat → Prop} {Q : Int64 → mS → Prop} (C : mC p s m args meth c cX8_at 13 (some .long) wsX8_at D y A) (x1 : Int32) (x2 : Int32) (x3 : Int32) (x4 : Int32) (x5 : Int32) (σ : mS) (hw : w_at Q x1 x2 x3 x4 x5 σ) (H : Heap) (locs : List Loc) (ls : Array Slot) (hO : mO D y ad X A s.heap H locs σ) (hl : lv_has ls 13 [(0, .ref (ad 0)), (1, .int x1), (2, .int x2), (3, .int x3), (4, .int x4), (5, .int x5)]) : W p l e rX8_at s m args below meth c H locs 0 0 (MQ below (va_Ql Q (mB D y ad X A) A) args s 0 0 A) (F0 m 0 ls []) := by
  obtain ⟨hx, hb, hr, hml, hown, hts, hlk, hK, hA⟩ := id C
  unfold w_at at hw
  refine lv_iload_n hx hb dX8_at_0 rfl (lv_at hl 2 rfl) ?_
  refine lv_iload_n hx hb dX8_at_1 rfl (lv_at hl 3 rfl) ?_
  refine mx_cis C hO (c_isTime l D y ad X σ x2 x3 _ hw) (va_cwS 2 hts gX8_at_X8_isTime rfl rfl rfl (by decide +kernel) ⟨Nat.le_of_ble_eq_true rfl, Nat.le_of_ble_eq_true rfl⟩) rfl hl.1 rfl (lv_room (Nat.le_of_ble_eq_true rfl)) dX8_at_2 (fun u101 σ102 H locs hw hO => ?_)
  refine lv_if_eq (tgt := 30) hx hb dX8_at_5 (by decide) (fun hc => ?_) (fun hc => ?_)
  · have hw := hw.1 hc
    exact k_at_30 C x1 x2 x3 x4 x5 σ102 hw H locs ls hO (lv_sub hl [0, 1, 2, 3, 4, 5] rfl)
  · have hw := hw.2 hc
    refine lv_iload hx hb dX8_at_8 (lv_at hl 4 rfl) ?_
    refine lv_i2l hx hb dX8_at_10 rfl ?_
    refine lv_lconst (v := 0) hx hb dX8_at_11 (by decide) ?_
    refine lv_lconst (v := 1) hx hb dX8_at_12 (by decide) ?_
    refine mx_cis C hO (c_in l D y ad X σ102 (x4.toInt64) ((0 : Int64)) ((1 : Int64)) _ hw) (va_cwS 3 hts gX8_at_X8_in rfl rfl rfl (by decide +kernel) ⟨Nat.le_of_ble_eq_true rfl, Nat.le_of_ble_eq_true rfl⟩) rfl hl.1 rfl (lv_room (Nat.le_of_ble_eq_true rfl)) dX8_at_13 (fun u103 σ104 H locs hw hO => ?_)
    refine lv_if_eq (tgt := 30) hx hb dX8_at_16 (by decide) (fun hc => ?_) (fun hc => ?_)
    · have hw := hw.1 hc
      exact k_at_30 C x1 x2 x3 x4 x5 σ104 hw H locs ls hO (lv_sub hl [0, 1, 2, 3, 4, 5] rfl)
    · have hw := hw.2 hc
      refine lv_iload hx hb dX8_at_19 (lv_at hl 5 rfl) ?_
      refine lv_i2l hx hb dX8_at_21 rfl ?_
      refine lv_lconst (v := 0) hx hb dX8_at_22 (by decide) ?_
      refine lv_lconst (v := 1) hx hb dX8_at_23 (by decide) ?_
      refine mx_cis C hO (c_in l D y ad X σ104 (x5.toInt64) ((0 : Int64)) ((1 : Int64)) _ hw) (va_cwS 3 hts gX8_at_X8_in rfl rfl rfl (by decide +kernel) ⟨Nat.le_of_ble_eq_true rfl, Nat.le_of_ble_eq_true rfl⟩) rfl hl.1 rfl (lv_room (Nat.le_of_ble_eq_true rfl)) dX8_at_24 (fun u105 σ106 H locs hw hO => ?_)
      refine lv_if_ne (tgt := 34) hx hb dX8_at_27 (by decide) (fun hc => ?_) (fun hc => ?_)
      · have hw := hw.1 hc
        refine lv_aload_n hx hb dX8_at_34 rfl (lv_at hl 0 rfl) ?_
        refine lv_iload_n hx hb dX8_at_35 rfl (lv_at hl 1 rfl) ?_
        refine mx_civ C hO (c_against l D y ad X σ106 x1 _ hw) (cwV 1 hts gX8_at_X8_against rfl rfl rfl (by decide +kernel) ⟨Nat.le_of_ble_eq_true rfl, Nat.le_of_ble_eq_true rfl⟩) rfl hl.1 rfl (lv_room (Nat.le_of_ble_eq_true rfl)) dX8_at_36 (fun u107 σ108 H locs hw hO => ?_)
        exact k_at_39 C x1 x2 x3 x4 x5 u107 σ108 hw H locs ls hO (lv_sub hl [0, 1, 2, 3, 4, 5] rfl)
      · have hw := hw.2 hc
        exact k_at_30 C x1 x2 x3 x4 x5 σ106 hw H locs ls hO (lv_sub hl [0, 1, 2, 3, 4, 5] rfl)
theorem c_at (l : Launch) (D : va_G) (y : Nat → ClassId) (ad : Nat → Nat) (X : va_W) (σ : mS) (x1 : Int32) (x2 : Int32) (x3 : Int32) (x4 : Int32) (x5 : Int32) (Q : Int64 → mS → Prop) (hw : w_at Q x1 x2 x3 x4 x5 σ) : ∀ sz, Met l yX8_at wsX8_at rX8_at (va_Pc [.ref (ad 0), .int x1, .int x2, .int x3, .int x4, .int x5] (mPre D y ad X sz σ)) (va_Ql Q (mB D y ad X (va_A (mW y ad σ ++ X) sz)) (va_A (mW y ad σ ++ X) sz)) 0 0 (va_A (mW y ad σ ++ X) sz) :=
  mMet (Qc := fun A => va_Ql Q (mB D y ad X A) A) rfl (Nat.le_of_ble_eq_true rfl) (fun p e s m args below meth c A ls C hO hl => k_at_e C x1 x2 x3 x4 x5 σ hw s.heap [] ls hO hl)
abbrev rX8_tidy : Room := { frames := 1, cells := 0, slots := 0, locals := 29 }
set_option maxRecDepth 100000 in
set_option maxHeartbeats 4000000 in
theorem k_tidy_147 {p : Program} {l : Launch} {e : Env} {s : State} {m : MethodId} {args : Array Value} {below : List Frame} {meth : Method} {c : Code} {D : va_G} {y : Nat → ClassId} {ad : Nat → Nat} {X : va_W} {A : Nat → Prop} {Q : mS → Prop} (C : mC p s m args meth c cX8_tidy 9 none wsX8_tidy D y A) (n : Nat) : ∀ (x2 : Int64) (x8 : Int32) (σ : mS), w_tidy_147 Q n x2 x8 σ → ∀ (H : Heap) (locs : List Loc) (ls : Array Slot), mO D y ad X A s.heap H locs σ → lv_has ls 9 [(0, .ref (ad 0)), (2, .long x2), (8, .int x8)] → W p l e rX8_tidy s m args below meth c H locs 0 0 (MQ below (va_Qv Q (mB D y ad X A) A) args s 0 0 A) (F0 m 147 ls []) := by
  obtain ⟨hx, hb, hr, hml, hown, hts, hlk, hK, hA⟩ := id C
  have hin : ∀ w ∈ wsX80, w ∈ wsX8_tidy := fun _ h => List.mem_cons_of_mem _ (List.mem_append_right _ h)
  induction n with
  | zero =>
    intro x2 x8 σ hw
    exact (show False from hw).elim
  | succ n ih =>
    intro x2 x8 σ hw H locs ls hO hl
    unfold w_tidy_147 at hw
    refine lv_iload hx hb dX8_tidy_147 (lv_at hl 2 rfl) ?_
    refine lv_iconst (v := 3) hx hb dX8_tidy_149 (by decide) ?_
    refine lv_icmp_ge (tgt := 170) hx hb dX8_tidy_150 (by decide) (fun hc => ?_) (fun hc => ?_)
    · have hw := hw.1 hc
      exact mx_vret C hO hw dX8_tidy_170
    · have hw := hw.2 hc
      refine lv_aload_n hx hb dX8_tidy_153 rfl (lv_at hl 0 rfl) ?_
      refine mx_get C hO hin 9 (by decide) (idx := 33) (by decide +kernel) rfl rfl dX8_tidy_154 ?_
      refine lv_iload hx hb dX8_tidy_157 (lv_at hl 2 rfl) ?_
      refine lv_dup2_11 hx hb dX8_tidy_159 rfl rfl ?_
      refine mx_lald C hO (a := 8) rfl hw.1 dX8_tidy_160 ?_
      have hw := hw.2
      refine lv_lload_n hx hb dX8_tidy_161 rfl (lv_at hl 1 rfl) ?_
      refine lv_ldiv hx hb dX8_tidy_162 hw.1 ?_
      have hw := hw.2
      refine mx_last C hO (a := 8) rfl hw.1 dX8_tidy_163 (fun H locs σ101 eσ101 hO => ?_)
      have hw := hw.2 σ101 eσ101
      obtain ⟨x8_102, ex8_102⟩ : ∃ y : Int32, y = x8 + 1 := ⟨_, rfl⟩
      have hw := hw x8_102 ex8_102
      refine lv_iinc (v := x8_102) (lv' := [(8, .int x8_102), (0, .ref (ad 0)), (2, .long x2)]) hx hb dX8_tidy_164 hl (k := 2) rfl (by rw [ex8_102]; rfl) (by decide) rfl (fun ls hl => ?_)
      refine lv_goto (tgt := 147) hx hb dX8_tidy_167 (by decide) ?_
      exact ih x2 x8_102 σ101 hw H locs ls hO (lv_sub hl [1, 2, 0] rfl)
set_option maxRecDepth 100000 in
set_option maxHeartbeats 4000000 in
theorem k_tidy_143 {p : Program} {l : Launch} {e : Env} {s : State} {m : MethodId} {args : Array Value} {below : List Frame} {meth : Method} {c : Code} {D : va_G} {y : Nat → ClassId} {ad : Nat → Nat} {X : va_W} {A : Nat → Prop} {Q : mS → Prop} (C : mC p s m args meth c cX8_tidy 9 none wsX8_tidy D y A) (z0 : Int64) (σ : mS) (hw : w_tidy_143 Q z0 σ) (H : Heap) (locs : List Loc) (ls : Array Slot) (hO : mO D y ad X A s.heap H locs σ) (hl : lv_has ls 9 [(0, .ref (ad 0))]) : W p l e rX8_tidy s m args below meth c H locs 0 0 (MQ below (va_Qv Q (mB D y ad X A) A) args s 0 0 A) (F0 m 143 ls [.long z0]) := by
  obtain ⟨hx, hb, hr, hml, hown, hts, hlk, hK, hA⟩ := id C
  unfold w_tidy_143 at hw
  refine lv_lstore_n (lv' := [(2, .long z0), (0, .ref (ad 0))]) hx hb dX8_tidy_143 rfl hl (by decide) rfl (fun ls hl => ?_)
  refine lv_iconst (v := 0) hx hb dX8_tidy_144 (by decide) ?_
  refine lv_istore (lv' := [(8, .int ((0 : Int32))), (2, .long z0), (0, .ref (ad 0))]) hx hb dX8_tidy_145 hl (by decide) rfl (fun ls hl => ?_)
  exact k_tidy_147 C fuL z0 ((0 : Int32)) σ hw H locs ls hO (lv_sub hl [2, 1, 0] rfl)
set_option maxRecDepth 100000 in
set_option maxHeartbeats 4000000 in
theorem k_tidy_132 {p : Program} {l : Launch} {e : Env} {s : State} {m : MethodId} {args : Array Value} {below : List Frame} {meth : Method} {c : Code} {D : va_G} {y : Nat → ClassId} {ad : Nat → Nat} {X : va_W} {A : Nat → Prop} {Q : mS → Prop} (C : mC p s m args meth c cX8_tidy 9 none wsX8_tidy D y A) (x2 : Int64) (z0 : Int64) (σ : mS) (hw : w_tidy_132 Q x2 z0 σ) (H : Heap) (locs : List Loc) (ls : Array Slot) (hO : mO D y ad X A s.heap H locs σ) (hl : lv_has ls 9 [(0, .ref (ad 0)), (2, .long x2)]) : W p l e rX8_tidy s m args below meth c H locs 0 0 (MQ below (va_Qv Q (mB D y ad X A) A) args s 0 0 A) (F0 m 132 ls [.long z0]) := by
  obtain ⟨hx, hb, hr, hml, hown, hts, hlk, hK, hA⟩ := id C
  unfold w_tidy_132 at hw
  refine lv_lconst (v := 0) hx hb dX8_tidy_132 (by decide) ?_
  refine W.lcmp hx hb dX8_tidy_133 ?_
  refine lv_if_ge (tgt := 142) hx hb dX8_tidy_134 (by decide) (fun hc => ?_) (fun hc => ?_)
  · have hc := (lg_cmp_ge _ _).mp hc
    have hw := hw.1 hc
    refine lv_lload_n hx hb dX8_tidy_142 rfl (lv_at hl 1 rfl) ?_
    exact k_tidy_143 C x2 σ hw H locs ls hO (lv_sub hl [0] rfl)
  · have hc := (not_congr (lg_cmp_ge _ _)).mp hc
    have hw := hw.2 hc
    refine lv_lload_n hx hb dX8_tidy_137 rfl (lv_at hl 1 rfl) ?_
    refine lv_lneg hx hb dX8_tidy_138 ?_
    refine lv_goto (tgt := 143) hx hb dX8_tidy_139 (by decide) ?_
    exact k_tidy_143 C (-x2) σ hw H locs ls hO (lv_sub hl [0] rfl)
set_option maxRecDepth 100000 in
set_option maxHeartbeats 4000000 in
theorem k_tidy_119 {p : Program} {l : Launch} {e : Env} {s : State} {m : MethodId} {args : Array Value} {below : List Frame} {meth : Method} {c : Code} {D : va_G} {y : Nat → ClassId} {ad : Nat → Nat} {X : va_W} {A : Nat → Prop} {Q : mS → Prop} (C : mC p s m args meth c cX8_tidy 9 none wsX8_tidy D y A) (x1 : Int32) (x2 : Int64) (x4 : Int64) (z0 : Int64) (σ : mS) (hw : w_tidy_119 Q x1 x2 x4 z0 σ) (H : Heap) (locs : List Loc) (ls : Array Slot) (hO : mO D y ad X A s.heap H locs σ) (hl : lv_has ls 9 [(0, .ref (ad 0)), (1, .int x1), (2, .long x2), (4, .long x4)]) : W p l e rX8_tidy s m args below meth c H locs 0 0 (MQ below (va_Qv Q (mB D y ad X A) A) args s 0 0 A) (F0 m 119 ls [.long z0]) := by
  obtain ⟨hx, hb, hr, hml, hown, hts, hlk, hK, hA⟩ := id C
  unfold w_tidy_119 at hw
  refine lv_lstore (lv' := [(6, .long z0), (0, .ref (ad 0)), (1, .int x1), (2, .long x2), (4, .long x4)]) hx hb dX8_tidy_119 hl (by decide) rfl (fun ls hl => ?_)
  refine lv_iload_n hx hb dX8_tidy_121 rfl (lv_at hl 2 rfl) ?_
  refine lv_if_eq (tgt := 130) hx hb dX8_tidy_122 (by decide) (fun hc => ?_) (fun hc => ?_)
  · have hw := hw.1 hc
    refine lv_lload hx hb dX8_tidy_130 (lv_at hl 4 rfl) ?_
    exact k_tidy_132 C x2 x4 σ hw H locs ls hO (lv_sub hl [1, 3] rfl)
  · have hw := hw.2 hc
    refine lv_lload hx hb dX8_tidy_125 (lv_at hl 0 rfl) ?_
    refine lv_goto (tgt := 132) hx hb dX8_tidy_127 (by decide) ?_
    exact k_tidy_132 C x2 z0 σ hw H locs ls hO (lv_sub hl [1, 3] rfl)
set_option maxRecDepth 100000 in
set_option maxHeartbeats 4000000 in
theorem k_tidy_71 {p : Program} {l : Launch} {e : Env} {s : State} {m : MethodId} {args : Array Value} {below : List Frame} {meth : Method} {c : Code} {D : va_G} {y : Nat → ClassId} {ad : Nat → Nat} {X : va_W} {A : Nat → Prop} {Q : mS → Prop} (C : mC p s m args meth c cX8_tidy 9 none wsX8_tidy D y A) (x1 : Int32) (x2 : Int64) (z0 : Int64) (σ : mS) (hw : w_tidy_71 Q x1 x2 z0 σ) (H : Heap) (locs : List Loc) (ls : Array Slot) (hO : mO D y ad X A s.heap H locs σ) (hl : lv_has ls 9 [(0, .ref (ad 0)), (1, .int x1), (2, .long x2)]) : W p l e rX8_tidy s m args below meth c H locs 0 0 (MQ below (va_Qv Q (mB D y ad X A) A) args s 0 0 A) (F0 m 71 ls [.long z0]) := by
  obtain ⟨hx, hb, hr, hml, hown, hts, hlk, hK, hA⟩ := id C
  have hin : ∀ w ∈ wsX80, w ∈ wsX8_tidy := fun _ h => List.mem_cons_of_mem _ (List.mem_append_right _ h)
  unfold w_tidy_71 at hw
  refine lv_lstore (lv' := [(4, .long z0), (0, .ref (ad 0)), (1, .int x1), (2, .long x2)]) hx hb dX8_tidy_71 hl (by decide) rfl (fun ls hl => ?_)
  refine lv_aload_n hx hb dX8_tidy_73 rfl (lv_at hl 1 rfl) ?_
  refine mx_get C hO hin 9 (by decide) (idx := 33) (by decide +kernel) rfl rfl dX8_tidy_74 ?_
  refine lv_iconst (v := 2) hx hb dX8_tidy_77 (by decide) ?_
  refine mx_lald C hO (a := 8) rfl hw.1 dX8_tidy_78 ?_
  have hw := hw.2
  refine lv_lconst (v := 0) hx hb dX8_tidy_79 (by decide) ?_
  refine W.lcmp hx hb dX8_tidy_80 ?_
  refine lv_if_eq (tgt := 93) hx hb dX8_tidy_81 (by decide) (fun hc => ?_) (fun hc => ?_)
  · have hc := (lg_cmp_eq _ _).mp hc
    have hw := hw.1 hc
    refine lv_aload_n hx hb dX8_tidy_93 rfl (lv_at hl 1 rfl) ?_
    refine mx_get C hO hin 9 (by decide) (idx := 33) (by decide +kernel) rfl rfl dX8_tidy_94 ?_
    refine lv_iconst (v := 1) hx hb dX8_tidy_97 (by decide) ?_
    refine mx_lald C hO (a := 8) rfl hw.1 dX8_tidy_98 ?_
    have hw := hw.2
    refine lv_lconst (v := 0) hx hb dX8_tidy_99 (by decide) ?_
    refine W.lcmp hx hb dX8_tidy_100 ?_
    refine lv_if_eq (tgt := 113) hx hb dX8_tidy_101 (by decide) (fun hc => ?_) (fun hc => ?_)
    · have hc := (lg_cmp_eq _ _).mp hc
      have hw := hw.1 hc
      refine lv_aload_n hx hb dX8_tidy_113 rfl (lv_at hl 1 rfl) ?_
      refine mx_get C hO hin 9 (by decide) (idx := 33) (by decide +kernel) rfl rfl dX8_tidy_114 ?_
      refine lv_iconst (v := 0) hx hb dX8_tidy_117 (by decide) ?_
      refine mx_lald C hO (a := 8) rfl hw.1 dX8_tidy_118 ?_
      have hw := hw.2
      exact k_tidy_119 C x1 x2 z0 (σ.1 8 ((0 : Int32)).toNatClampNeg) σ hw H locs ls hO (lv_sub hl [1, 2, 3, 0] rfl)
    · have hc := (not_congr (lg_cmp_eq _ _)).mp hc
      have hw := hw.2 hc
      refine lv_aload_n hx hb dX8_tidy_104 rfl (lv_at hl 1 rfl) ?_
      refine mx_get C hO hin 9 (by decide) (idx := 33) (by decide +kernel) rfl rfl dX8_tidy_105 ?_
      refine lv_iconst (v := 1) hx hb dX8_tidy_108 (by decide) ?_
      refine mx_lald C hO (a := 8) rfl hw.1 dX8_tidy_109 ?_
      have hw := hw.2
      refine lv_goto (tgt := 119) hx hb dX8_tidy_110 (by decide) ?_
      exact k_tidy_119 C x1 x2 z0 (σ.1 8 ((1 : Int32)).toNatClampNeg) σ hw H locs ls hO (lv_sub hl [1, 2, 3, 0] rfl)
  · have hc := (not_congr (lg_cmp_eq _ _)).mp hc
    have hw := hw.2 hc
    refine lv_aload_n hx hb dX8_tidy_84 rfl (lv_at hl 1 rfl) ?_
    refine mx_get C hO hin 9 (by decide) (idx := 33) (by decide +kernel) rfl rfl dX8_tidy_85 ?_
    refine lv_iconst (v := 2) hx hb dX8_tidy_88 (by decide) ?_
    refine mx_lald C hO (a := 8) rfl hw.1 dX8_tidy_89 ?_
    have hw := hw.2
    refine lv_goto (tgt := 119) hx hb dX8_tidy_90 (by decide) ?_
    exact k_tidy_119 C x1 x2 z0 (σ.1 8 ((2 : Int32)).toNatClampNeg) σ hw H locs ls hO (lv_sub hl [1, 2, 3, 0] rfl)
set_option maxRecDepth 100000 in
set_option maxHeartbeats 4000000 in
theorem k_tidy_e {p : Program} {l : Launch} {e : Env} {s : State} {m : MethodId} {args : Array Value} {below : List Frame} {meth : Method} {c : Code} {D : va_G} {y : Nat → ClassId} {ad : Nat → Nat} {X : va_W} {A : Nat → Prop} {Q : mS → Prop} (C : mC p s m args meth c cX8_tidy 9 none wsX8_tidy D y A) (x1 : Int32) (σ : mS) (hw : w_tidy Q x1 σ) (H : Heap) (locs : List Loc) (ls : Array Slot) (hO : mO D y ad X A s.heap H locs σ) (hl : lv_has ls 9 [(0, .ref (ad 0)), (1, .int x1)]) : W p l e rX8_tidy s m args below meth c H locs 0 0 (MQ below (va_Qv Q (mB D y ad X A) A) args s 0 0 A) (F0 m 0 ls []) := by
  obtain ⟨hx, hb, hr, hml, hown, hts, hlk, hK, hA⟩ := id C
  have hin : ∀ w ∈ wsX80, w ∈ wsX8_tidy := fun _ h => List.mem_cons_of_mem _ (List.mem_append_right _ h)
  unfold w_tidy at hw
  refine lv_aload_n hx hb dX8_tidy_0 rfl (lv_at hl 0 rfl) ?_
  refine mx_get C hO hin 9 (by decide) (idx := 33) (by decide +kernel) rfl rfl dX8_tidy_1 ?_
  refine lv_iconst (v := 0) hx hb dX8_tidy_4 (by decide) ?_
  refine mx_lald C hO (a := 8) rfl hw.1 dX8_tidy_5 ?_
  have hw := hw.2
  refine lv_aload_n hx hb dX8_tidy_6 rfl (lv_at hl 0 rfl) ?_
  refine mx_get C hO hin 9 (by decide) (idx := 33) (by decide +kernel) rfl rfl dX8_tidy_7 ?_
  refine lv_iconst (v := 1) hx hb dX8_tidy_10 (by decide) ?_
  refine mx_lald C hO (a := 8) rfl hw.1 dX8_tidy_11 ?_
  have hw := hw.2
  refine mx_cls C hO (c_common l D y ad X σ (σ.1 8 ((0 : Int32)).toNatClampNeg) (σ.1 8 ((1 : Int32)).toNatClampNeg) _ hw) (va_cwS 2 hts gX8_tidy_X8_common rfl rfl rfl (by decide +kernel) ⟨Nat.le_of_ble_eq_true rfl, Nat.le_of_ble_eq_true rfl⟩) rfl hl.1 rfl (lv_room (Nat.le_of_ble_eq_true rfl)) dX8_tidy_12 (fun u101 σ102 H locs hw hO => ?_)
  refine lv_aload_n hx hb dX8_tidy_15 rfl (lv_at hl 0 rfl) ?_
  refine mx_get C hO hin 9 (by decide) (idx := 33) (by decide +kernel) rfl rfl dX8_tidy_16 ?_
  refine lv_iconst (v := 2) hx hb dX8_tidy_19 (by decide) ?_
  refine mx_lald C hO (a := 8) rfl hw.1 dX8_tidy_20 ?_
  have hw := hw.2
  refine mx_cls C hO (c_common l D y ad X σ102 u101 (σ102.1 8 ((2 : Int32)).toNatClampNeg) _ hw) (va_cwS 2 hts gX8_tidy_X8_common rfl rfl rfl (by decide +kernel) ⟨Nat.le_of_ble_eq_true rfl, Nat.le_of_ble_eq_true rfl⟩) rfl hl.1 rfl (lv_room (Nat.le_of_ble_eq_true rfl)) dX8_tidy_21 (fun u103 σ104 H locs hw hO => ?_)
  refine lv_lstore_n (lv' := [(2, .long u103), (0, .ref (ad 0)), (1, .int x1)]) hx hb dX8_tidy_24 rfl hl (by decide) rfl (fun ls hl => ?_)
  refine lv_aload_n hx hb dX8_tidy_25 rfl (lv_at hl 1 rfl) ?_
  refine mx_get C hO hin 9 (by decide) (idx := 33) (by decide +kernel) rfl rfl dX8_tidy_26 ?_
  refine lv_iconst (v := 0) hx hb dX8_tidy_29 (by decide) ?_
  refine mx_lald C hO (a := 8) rfl hw.1 dX8_tidy_30 ?_
  have hw := hw.2
  refine lv_lconst (v := 0) hx hb dX8_tidy_31 (by decide) ?_
  refine W.lcmp hx hb dX8_tidy_32 ?_
  refine lv_if_eq (tgt := 45) hx hb dX8_tidy_33 (by decide) (fun hc => ?_) (fun hc => ?_)
  · have hc := (lg_cmp_eq _ _).mp hc
    have hw := hw.1 hc
    refine lv_aload_n hx hb dX8_tidy_45 rfl (lv_at hl 1 rfl) ?_
    refine mx_get C hO hin 9 (by decide) (idx := 33) (by decide +kernel) rfl rfl dX8_tidy_46 ?_
    refine lv_iconst (v := 1) hx hb dX8_tidy_49 (by decide) ?_
    refine mx_lald C hO (a := 8) rfl hw.1 dX8_tidy_50 ?_
    have hw := hw.2
    refine lv_lconst (v := 0) hx hb dX8_tidy_51 (by decide) ?_
    refine W.lcmp hx hb dX8_tidy_52 ?_
    refine lv_if_eq (tgt := 65) hx hb dX8_tidy_53 (by decide) (fun hc => ?_) (fun hc => ?_)
    · have hc := (lg_cmp_eq _ _).mp hc
      have hw := hw.1 hc
      refine lv_aload_n hx hb dX8_tidy_65 rfl (lv_at hl 1 rfl) ?_
      refine mx_get C hO hin 9 (by decide) (idx := 33) (by decide +kernel) rfl rfl dX8_tidy_66 ?_
      refine lv_iconst (v := 2) hx hb dX8_tidy_69 (by decide) ?_
      refine mx_lald C hO (a := 8) rfl hw.1 dX8_tidy_70 ?_
      have hw := hw.2
      exact k_tidy_71 C x1 u103 (σ104.1 8 ((2 : Int32)).toNatClampNeg) σ104 hw H locs ls hO (lv_sub hl [1, 2, 0] rfl)
    · have hc := (not_congr (lg_cmp_eq _ _)).mp hc
      have hw := hw.2 hc
      refine lv_aload_n hx hb dX8_tidy_56 rfl (lv_at hl 1 rfl) ?_
      refine mx_get C hO hin 9 (by decide) (idx := 33) (by decide +kernel) rfl rfl dX8_tidy_57 ?_
      refine lv_iconst (v := 1) hx hb dX8_tidy_60 (by decide) ?_
      refine mx_lald C hO (a := 8) rfl hw.1 dX8_tidy_61 ?_
      have hw := hw.2
      refine lv_goto (tgt := 71) hx hb dX8_tidy_62 (by decide) ?_
      exact k_tidy_71 C x1 u103 (σ104.1 8 ((1 : Int32)).toNatClampNeg) σ104 hw H locs ls hO (lv_sub hl [1, 2, 0] rfl)
  · have hc := (not_congr (lg_cmp_eq _ _)).mp hc
    have hw := hw.2 hc
    refine lv_aload_n hx hb dX8_tidy_36 rfl (lv_at hl 1 rfl) ?_
    refine mx_get C hO hin 9 (by decide) (idx := 33) (by decide +kernel) rfl rfl dX8_tidy_37 ?_
    refine lv_iconst (v := 0) hx hb dX8_tidy_40 (by decide) ?_
    refine mx_lald C hO (a := 8) rfl hw.1 dX8_tidy_41 ?_
    have hw := hw.2
    refine lv_goto (tgt := 71) hx hb dX8_tidy_42 (by decide) ?_
    exact k_tidy_71 C x1 u103 (σ104.1 8 ((0 : Int32)).toNatClampNeg) σ104 hw H locs ls hO (lv_sub hl [1, 2, 0] rfl)
theorem c_tidy (l : Launch) (D : va_G) (y : Nat → ClassId) (ad : Nat → Nat) (X : va_W) (σ : mS) (x1 : Int32) (Q : mS → Prop) (hw : w_tidy Q x1 σ) : ∀ sz, Met l yX8_tidy wsX8_tidy rX8_tidy (va_Pc [.ref (ad 0), .int x1] (mPre D y ad X sz σ)) (va_Qv Q (mB D y ad X (va_A (mW y ad σ ++ X) sz)) (va_A (mW y ad σ ++ X) sz)) 0 0 (va_A (mW y ad σ ++ X) sz) :=
  mMet (Qc := fun A => va_Qv Q (mB D y ad X A) A) rfl (Nat.le_of_ble_eq_true rfl) (fun p e s m args below meth c A ls C hO hl => k_tidy_e C x1 σ hw s.heap [] ls hO hl)
abbrev rX8_far : Room := { frames := 3, cells := 0, slots := 0, locals := 66 }
set_option maxRecDepth 100000 in
set_option maxHeartbeats 4000000 in
theorem k_far_21 {p : Program} {l : Launch} {e : Env} {s : State} {m : MethodId} {args : Array Value} {below : List Frame} {meth : Method} {c : Code} {D : va_G} {y : Nat → ClassId} {ad : Nat → Nat} {X : va_W} {A : Nat → Prop} {Q : Int32 → mS → Prop} (C : mC p s m args meth c cX8_far 4 (some .int) wsX8_far D y A) (x1 : Int32) (x2 : Int32) (z0 : Int32) (σ : mS) (hw : w_far_21 Q x1 x2 z0 σ) (H : Heap) (locs : List Loc) (ls : Array Slot) (hO : mO D y ad X A s.heap H locs σ) (hl : lv_has ls 4 [(0, .ref (ad 0)), (1, .int x1), (2, .int x2)]) : W p l e rX8_far s m args below meth c H locs 0 0 (MQ below (va_Qi Q (mB D y ad X A) A) args s 0 0 A) (F0 m 21 ls [.int z0]) := by
  obtain ⟨hx, hb, hr, hml, hown, hts, hlk, hK, hA⟩ := id C
  have hin : ∀ w ∈ wsX80, w ∈ wsX8_far := fun _ h => List.mem_cons_of_mem _ (List.mem_append_right _ h)
  unfold w_far_21 at hw
  refine lv_istore_n (lv' := [(3, .int z0), (0, .ref (ad 0)), (1, .int x1), (2, .int x2)]) hx hb dX8_far_21 rfl hl (by decide) rfl (fun ls hl => ?_)
  refine lv_iload_n hx hb dX8_far_22 rfl (lv_at hl 0 rfl) ?_
  refine lv_if_ge (tgt := 32) hx hb dX8_far_23 (by decide) (fun hc => ?_) (fun hc => ?_)
  · have hw := hw.1 hc
    refine lv_aload_n hx hb dX8_far_32 rfl (lv_at hl 1 rfl) ?_
    refine mx_get C hO hin 1 (by decide) (idx := 13) (by decide +kernel) rfl rfl dX8_far_33 ?_
    refine lv_bipush (v := 12) hx hb dX8_far_36 (by decide) ?_
    refine lv_iload_n hx hb dX8_far_38 rfl (lv_at hl 2 rfl) ?_
    refine lv_imul hx hb dX8_far_39 ?_
    refine lv_iconst (v := 4) hx hb dX8_far_40 (by decide) ?_
    refine lv_iload_n hx hb dX8_far_41 rfl (lv_at hl 3 rfl) ?_
    refine lv_imul hx hb dX8_far_42 ?_
    refine lv_iadd hx hb dX8_far_43 ?_
    refine lv_aload_n hx hb dX8_far_44 rfl (lv_at hl 1 rfl) ?_
    refine lv_iload_n hx hb dX8_far_45 rfl (lv_at hl 2 rfl) ?_
    refine mx_civ C hO (c_degreeOf l D y ad X σ x1 _ hw) (cwV 1 hts gX8_far_X8_degreeOf rfl rfl rfl (by decide +kernel) ⟨Nat.le_of_ble_eq_true rfl, Nat.le_of_ble_eq_true rfl⟩) rfl hl.1 rfl (lv_room (Nat.le_of_ble_eq_true rfl)) dX8_far_46 (fun u101 σ102 H locs hw hO => ?_)
    refine lv_iadd hx hb dX8_far_49 ?_
    refine mx_lald C hO (a := 2) rfl hw.1 dX8_far_50 ?_
    have hw := hw.2
    refine lv_l2i hx hb dX8_far_51 rfl ?_
    exact mx_iret C hO hw dX8_far_52
  · have hw := hw.2 hc
    refine lv_iload_n hx hb dX8_far_26 rfl (lv_at hl 0 rfl) ?_
    refine lv_sipush (v := 1000) hx hb dX8_far_27 (by decide) ?_
    refine lv_isub hx hb dX8_far_30 ?_
    exact mx_iret C hO hw dX8_far_31
set_option maxRecDepth 100000 in
set_option maxHeartbeats 4000000 in
theorem k_far_e {p : Program} {l : Launch} {e : Env} {s : State} {m : MethodId} {args : Array Value} {below : List Frame} {meth : Method} {c : Code} {D : va_G} {y : Nat → ClassId} {ad : Nat → Nat} {X : va_W} {A : Nat → Prop} {Q : Int32 → mS → Prop} (C : mC p s m args meth c cX8_far 4 (some .int) wsX8_far D y A) (x1 : Int32) (x2 : Int32) (σ : mS) (hw : w_far Q x1 x2 σ) (H : Heap) (locs : List Loc) (ls : Array Slot) (hO : mO D y ad X A s.heap H locs σ) (hl : lv_has ls 4 [(0, .ref (ad 0)), (1, .int x1), (2, .int x2)]) : W p l e rX8_far s m args below meth c H locs 0 0 (MQ below (va_Qi Q (mB D y ad X A) A) args s 0 0 A) (F0 m 0 ls []) := by
  obtain ⟨hx, hb, hr, hml, hown, hts, hlk, hK, hA⟩ := id C
  unfold w_far at hw
  refine lv_iload_n hx hb dX8_far_0 rfl (lv_at hl 2 rfl) ?_
  refine lv_i2l hx hb dX8_far_1 rfl ?_
  refine lv_lconst (v := 0) hx hb dX8_far_2 (by decide) ?_
  refine lv_ldc2 (v := 2) hx hb hown (hts (.constantLong RX8 166 (2)) (by decide +kernel)) dX8_far_3 ?_
  refine mx_cis C hO (c_in l D y ad X σ (x2.toInt64) ((0 : Int64)) ((2 : Int64)) _ hw) (va_cwS 3 hts gX8_far_X8_in rfl rfl rfl (by decide +kernel) ⟨Nat.le_of_ble_eq_true rfl, Nat.le_of_ble_eq_true rfl⟩) rfl hl.1 rfl (lv_room (Nat.le_of_ble_eq_true rfl)) dX8_far_6 (fun u101 σ102 H locs hw hO => ?_)
  refine lv_if_ne (tgt := 16) hx hb dX8_far_9 (by decide) (fun hc => ?_) (fun hc => ?_)
  · have hw := hw.1 hc
    refine lv_aload_n hx hb dX8_far_16 rfl (lv_at hl 0 rfl) ?_
    refine lv_iload_n hx hb dX8_far_17 rfl (lv_at hl 1 rfl) ?_
    refine mx_civ C hO (c_against l D y ad X σ102 x1 _ hw) (cwV 1 hts gX8_far_X8_against rfl rfl rfl (by decide +kernel) ⟨Nat.le_of_ble_eq_true rfl, Nat.le_of_ble_eq_true rfl⟩) rfl hl.1 rfl (lv_room (Nat.le_of_ble_eq_true rfl)) dX8_far_18 (fun u103 σ104 H locs hw hO => ?_)
    exact k_far_21 C x1 x2 u103 σ104 hw H locs ls hO (lv_sub hl [0, 1, 2] rfl)
  · have hw := hw.2 hc
    refine lv_iconst (v := -1) hx hb dX8_far_12 (by decide) ?_
    refine lv_goto (tgt := 21) hx hb dX8_far_13 (by decide) ?_
    exact k_far_21 C x1 x2 ((-1 : Int32)) σ102 hw H locs ls hO (lv_sub hl [0, 1, 2] rfl)
theorem c_far (l : Launch) (D : va_G) (y : Nat → ClassId) (ad : Nat → Nat) (X : va_W) (σ : mS) (x1 : Int32) (x2 : Int32) (Q : Int32 → mS → Prop) (hw : w_far Q x1 x2 σ) : ∀ sz, Met l yX8_far wsX8_far rX8_far (va_Pc [.ref (ad 0), .int x1, .int x2] (mPre D y ad X sz σ)) (va_Qi Q (mB D y ad X (va_A (mW y ad σ ++ X) sz)) (va_A (mW y ad σ ++ X) sz)) 0 0 (va_A (mW y ad σ ++ X) sz) :=
  mMet (Qc := fun A => va_Qi Q (mB D y ad X A) A) rfl (Nat.le_of_ble_eq_true rfl) (fun p e s m args below meth c A ls C hO hl => k_far_e C x1 x2 σ hw s.heap [] ls hO hl)
abbrev rX8_addPair : Room := { frames := 0, cells := 0, slots := 0, locals := 0 }
set_option maxRecDepth 100000 in
set_option maxHeartbeats 4000000 in
theorem k_addPair_e {p : Program} {l : Launch} {e : Env} {s : State} {m : MethodId} {args : Array Value} {below : List Frame} {meth : Method} {c : Code} {D : va_G} {y : Nat → ClassId} {ad : Nat → Nat} {X : va_W} {A : Nat → Prop} {Q : mS → Prop} (C : mC p s m args meth c cX8_addPair 6 none wsX8_addPair D y A) (x1 : Int32) (x2 : Int32) (x3 : Int32) (x4 : Int32) (σ : mS) (hw : w_addPair Q x1 x2 x3 x4 σ) (H : Heap) (locs : List Loc) (ls : Array Slot) (hO : mO D y ad X A s.heap H locs σ) (hl : lv_has ls 6 [(0, .ref (ad 0)), (1, .int x1), (2, .int x2), (3, .int x3), (4, .int x4)]) : W p l e rX8_addPair s m args below meth c H locs 0 0 (MQ below (va_Qv Q (mB D y ad X A) A) args s 0 0 A) (F0 m 0 ls []) := by
  obtain ⟨hx, hb, hr, hml, hown, hts, hlk, hK, hA⟩ := id C
  have hin : ∀ w ∈ wsX80, w ∈ wsX8_addPair := fun _ h => List.mem_cons_of_mem _ (List.mem_append_right _ h)
  unfold w_addPair at hw
  refine lv_bipush (v := 12) hx hb dX8_addPair_0 (by decide) ?_
  refine lv_iload_n hx hb dX8_addPair_2 rfl (lv_at hl 1 rfl) ?_
  refine lv_imul hx hb dX8_addPair_3 ?_
  refine lv_topi (fun x5_101 ex5_101 => ?_)
  have hw := hw x5_101 ex5_101
  refine lv_istore (lv' := [(5, .int x5_101), (0, .ref (ad 0)), (1, .int x1), (2, .int x2), (3, .int x3), (4, .int x4)]) hx hb dX8_addPair_4 hl (by decide) rfl (fun ls hl => ?_)
  refine lv_aload_n hx hb dX8_addPair_6 rfl (lv_at hl 1 rfl) ?_
  refine mx_get C hO hin 10 (by decide) (idx := 36) (by decide +kernel) rfl rfl dX8_addPair_7 ?_
  refine lv_iload_n hx hb dX8_addPair_10 rfl (lv_at hl 3 rfl) ?_
  refine lv_dup2_11 hx hb dX8_addPair_11 rfl rfl ?_
  refine mx_lald C hO (a := 9) rfl hw.1 dX8_addPair_12 ?_
  have hw := hw.2
  refine lv_aload_n hx hb dX8_addPair_13 rfl (lv_at hl 1 rfl) ?_
  refine mx_get C hO hin 1 (by decide) (idx := 13) (by decide +kernel) rfl rfl dX8_addPair_14 ?_
  refine lv_iload hx hb dX8_addPair_17 (lv_at hl 0 rfl) ?_
  refine lv_bipush (v := 8) hx hb dX8_addPair_19 (by decide) ?_
  refine lv_iadd hx hb dX8_addPair_21 ?_
  refine lv_iload hx hb dX8_addPair_22 (lv_at hl 5 rfl) ?_
  refine lv_iadd hx hb dX8_addPair_24 ?_
  refine mx_lald C hO (a := 2) rfl hw.1 dX8_addPair_25 ?_
  have hw := hw.2
  refine lv_aload_n hx hb dX8_addPair_26 rfl (lv_at hl 1 rfl) ?_
  refine mx_get C hO hin 1 (by decide) (idx := 13) (by decide +kernel) rfl rfl dX8_addPair_27 ?_
  refine lv_iload hx hb dX8_addPair_30 (lv_at hl 0 rfl) ?_
  refine lv_iconst (v := 4) hx hb dX8_addPair_32 (by decide) ?_
  refine lv_iadd hx hb dX8_addPair_33 ?_
  refine lv_iload_n hx hb dX8_addPair_34 rfl (lv_at hl 4 rfl) ?_
  refine lv_iadd hx hb dX8_addPair_35 ?_
  refine mx_lald C hO (a := 2) rfl hw.1 dX8_addPair_36 ?_
  have hw := hw.2
  refine lv_lmul hx hb dX8_addPair_37 ?_
  refine lv_aload_n hx hb dX8_addPair_38 rfl (lv_at hl 1 rfl) ?_
  refine mx_get C hO hin 1 (by decide) (idx := 13) (by decide +kernel) rfl rfl dX8_addPair_39 ?_
  refine lv_iload hx hb dX8_addPair_42 (lv_at hl 0 rfl) ?_
  refine lv_bipush (v := 8) hx hb dX8_addPair_44 (by decide) ?_
  refine lv_iadd hx hb dX8_addPair_46 ?_
  refine lv_iload_n hx hb dX8_addPair_47 rfl (lv_at hl 4 rfl) ?_
  refine lv_iadd hx hb dX8_addPair_48 ?_
  refine mx_lald C hO (a := 2) rfl hw.1 dX8_addPair_49 ?_
  have hw := hw.2
  refine lv_aload_n hx hb dX8_addPair_50 rfl (lv_at hl 1 rfl) ?_
  refine mx_get C hO hin 1 (by decide) (idx := 13) (by decide +kernel) rfl rfl dX8_addPair_51 ?_
  refine lv_iload hx hb dX8_addPair_54 (lv_at hl 0 rfl) ?_
  refine lv_iconst (v := 4) hx hb dX8_addPair_56 (by decide) ?_
  refine lv_iadd hx hb dX8_addPair_57 ?_
  refine lv_iload hx hb dX8_addPair_58 (lv_at hl 5 rfl) ?_
  refine lv_iadd hx hb dX8_addPair_60 ?_
  refine mx_lald C hO (a := 2) rfl hw.1 dX8_addPair_61 ?_
  have hw := hw.2
  refine lv_lmul hx hb dX8_addPair_62 ?_
  refine lv_lsub hx hb dX8_addPair_63 ?_
  refine lv_ladd hx hb dX8_addPair_64 ?_
  refine mx_last C hO (a := 9) rfl hw.1 dX8_addPair_65 (fun H locs σ102 eσ102 hO => ?_)
  have hw := hw.2 σ102 eσ102
  refine lv_aload_n hx hb dX8_addPair_66 rfl (lv_at hl 1 rfl) ?_
  refine mx_get C hO hin 10 (by decide) (idx := 36) (by decide +kernel) rfl rfl dX8_addPair_67 ?_
  refine lv_iload_n hx hb dX8_addPair_70 rfl (lv_at hl 3 rfl) ?_
  refine lv_iconst (v := 1) hx hb dX8_addPair_71 (by decide) ?_
  refine lv_iadd hx hb dX8_addPair_72 ?_
  refine lv_dup2_11 hx hb dX8_addPair_73 rfl rfl ?_
  refine mx_lald C hO (a := 9) rfl hw.1 dX8_addPair_74 ?_
  have hw := hw.2
  refine lv_aload_n hx hb dX8_addPair_75 rfl (lv_at hl 1 rfl) ?_
  refine mx_get C hO hin 1 (by decide) (idx := 13) (by decide +kernel) rfl rfl dX8_addPair_76 ?_
  refine lv_iload hx hb dX8_addPair_79 (lv_at hl 0 rfl) ?_
  refine lv_iload hx hb dX8_addPair_81 (lv_at hl 5 rfl) ?_
  refine lv_iadd hx hb dX8_addPair_83 ?_
  refine mx_lald C hO (a := 2) rfl hw.1 dX8_addPair_84 ?_
  have hw := hw.2
  refine lv_aload_n hx hb dX8_addPair_85 rfl (lv_at hl 1 rfl) ?_
  refine mx_get C hO hin 1 (by decide) (idx := 13) (by decide +kernel) rfl rfl dX8_addPair_86 ?_
  refine lv_iload hx hb dX8_addPair_89 (lv_at hl 0 rfl) ?_
  refine lv_bipush (v := 8) hx hb dX8_addPair_91 (by decide) ?_
  refine lv_iadd hx hb dX8_addPair_93 ?_
  refine lv_iload_n hx hb dX8_addPair_94 rfl (lv_at hl 4 rfl) ?_
  refine lv_iadd hx hb dX8_addPair_95 ?_
  refine mx_lald C hO (a := 2) rfl hw.1 dX8_addPair_96 ?_
  have hw := hw.2
  refine lv_lmul hx hb dX8_addPair_97 ?_
  refine lv_aload_n hx hb dX8_addPair_98 rfl (lv_at hl 1 rfl) ?_
  refine mx_get C hO hin 1 (by decide) (idx := 13) (by decide +kernel) rfl rfl dX8_addPair_99 ?_
  refine lv_iload hx hb dX8_addPair_102 (lv_at hl 0 rfl) ?_
  refine lv_iload_n hx hb dX8_addPair_104 rfl (lv_at hl 4 rfl) ?_
  refine lv_iadd hx hb dX8_addPair_105 ?_
  refine mx_lald C hO (a := 2) rfl hw.1 dX8_addPair_106 ?_
  have hw := hw.2
  refine lv_aload_n hx hb dX8_addPair_107 rfl (lv_at hl 1 rfl) ?_
  refine mx_get C hO hin 1 (by decide) (idx := 13) (by decide +kernel) rfl rfl dX8_addPair_108 ?_
  refine lv_iload hx hb dX8_addPair_111 (lv_at hl 0 rfl) ?_
  refine lv_bipush (v := 8) hx hb dX8_addPair_113 (by decide) ?_
  refine lv_iadd hx hb dX8_addPair_115 ?_
  refine lv_iload hx hb dX8_addPair_116 (lv_at hl 5 rfl) ?_
  refine lv_iadd hx hb dX8_addPair_118 ?_
  refine mx_lald C hO (a := 2) rfl hw.1 dX8_addPair_119 ?_
  have hw := hw.2
  refine lv_lmul hx hb dX8_addPair_120 ?_
  refine lv_lsub hx hb dX8_addPair_121 ?_
  refine lv_ladd hx hb dX8_addPair_122 ?_
  refine mx_last C hO (a := 9) rfl hw.1 dX8_addPair_123 (fun H locs σ103 eσ103 hO => ?_)
  have hw := hw.2 σ103 eσ103
  refine lv_aload_n hx hb dX8_addPair_124 rfl (lv_at hl 1 rfl) ?_
  refine mx_get C hO hin 10 (by decide) (idx := 36) (by decide +kernel) rfl rfl dX8_addPair_125 ?_
  refine lv_iload_n hx hb dX8_addPair_128 rfl (lv_at hl 3 rfl) ?_
  refine lv_iconst (v := 2) hx hb dX8_addPair_129 (by decide) ?_
  refine lv_iadd hx hb dX8_addPair_130 ?_
  refine lv_dup2_11 hx hb dX8_addPair_131 rfl rfl ?_
  refine mx_lald C hO (a := 9) rfl hw.1 dX8_addPair_132 ?_
  have hw := hw.2
  refine lv_aload_n hx hb dX8_addPair_133 rfl (lv_at hl 1 rfl) ?_
  refine mx_get C hO hin 1 (by decide) (idx := 13) (by decide +kernel) rfl rfl dX8_addPair_134 ?_
  refine lv_iload hx hb dX8_addPair_137 (lv_at hl 0 rfl) ?_
  refine lv_iload_n hx hb dX8_addPair_139 rfl (lv_at hl 4 rfl) ?_
  refine lv_iadd hx hb dX8_addPair_140 ?_
  refine mx_lald C hO (a := 2) rfl hw.1 dX8_addPair_141 ?_
  have hw := hw.2
  refine lv_aload_n hx hb dX8_addPair_142 rfl (lv_at hl 1 rfl) ?_
  refine mx_get C hO hin 1 (by decide) (idx := 13) (by decide +kernel) rfl rfl dX8_addPair_143 ?_
  refine lv_iload hx hb dX8_addPair_146 (lv_at hl 0 rfl) ?_
  refine lv_iconst (v := 4) hx hb dX8_addPair_148 (by decide) ?_
  refine lv_iadd hx hb dX8_addPair_149 ?_
  refine lv_iload hx hb dX8_addPair_150 (lv_at hl 5 rfl) ?_
  refine lv_iadd hx hb dX8_addPair_152 ?_
  refine mx_lald C hO (a := 2) rfl hw.1 dX8_addPair_153 ?_
  have hw := hw.2
  refine lv_lmul hx hb dX8_addPair_154 ?_
  refine lv_aload_n hx hb dX8_addPair_155 rfl (lv_at hl 1 rfl) ?_
  refine mx_get C hO hin 1 (by decide) (idx := 13) (by decide +kernel) rfl rfl dX8_addPair_156 ?_
  refine lv_iload hx hb dX8_addPair_159 (lv_at hl 0 rfl) ?_
  refine lv_iload hx hb dX8_addPair_161 (lv_at hl 5 rfl) ?_
  refine lv_iadd hx hb dX8_addPair_163 ?_
  refine mx_lald C hO (a := 2) rfl hw.1 dX8_addPair_164 ?_
  have hw := hw.2
  refine lv_aload_n hx hb dX8_addPair_165 rfl (lv_at hl 1 rfl) ?_
  refine mx_get C hO hin 1 (by decide) (idx := 13) (by decide +kernel) rfl rfl dX8_addPair_166 ?_
  refine lv_iload hx hb dX8_addPair_169 (lv_at hl 0 rfl) ?_
  refine lv_iconst (v := 4) hx hb dX8_addPair_171 (by decide) ?_
  refine lv_iadd hx hb dX8_addPair_172 ?_
  refine lv_iload_n hx hb dX8_addPair_173 rfl (lv_at hl 4 rfl) ?_
  refine lv_iadd hx hb dX8_addPair_174 ?_
  refine mx_lald C hO (a := 2) rfl hw.1 dX8_addPair_175 ?_
  have hw := hw.2
  refine lv_lmul hx hb dX8_addPair_176 ?_
  refine lv_lsub hx hb dX8_addPair_177 ?_
  refine lv_ladd hx hb dX8_addPair_178 ?_
  refine mx_last C hO (a := 9) rfl hw.1 dX8_addPair_179 (fun H locs σ104 eσ104 hO => ?_)
  have hw := hw.2 σ104 eσ104
  exact mx_vret C hO hw dX8_addPair_180
theorem c_addPair (l : Launch) (D : va_G) (y : Nat → ClassId) (ad : Nat → Nat) (X : va_W) (σ : mS) (x1 : Int32) (x2 : Int32) (x3 : Int32) (x4 : Int32) (Q : mS → Prop) (hw : w_addPair Q x1 x2 x3 x4 σ) : ∀ sz, Met l yX8_addPair wsX8_addPair rX8_addPair (va_Pc [.ref (ad 0), .int x1, .int x2, .int x3, .int x4] (mPre D y ad X sz σ)) (va_Qv Q (mB D y ad X (va_A (mW y ad σ ++ X) sz)) (va_A (mW y ad σ ++ X) sz)) 0 0 (va_A (mW y ad σ ++ X) sz) :=
  mMet (Qc := fun A => va_Qv Q (mB D y ad X A) A) rfl (Nat.le_of_ble_eq_true rfl) (fun p e s m args below meth c A ls C hO hl => k_addPair_e C x1 x2 x3 x4 σ hw s.heap [] ls hO hl)
abbrev rX8_placeOf : Room := { frames := 0, cells := 0, slots := 0, locals := 0 }
set_option maxRecDepth 100000 in
set_option maxHeartbeats 4000000 in
theorem k_placeOf_38 {p : Program} {l : Launch} {e : Env} {s : State} {m : MethodId} {args : Array Value} {below : List Frame} {meth : Method} {c : Code} {D : va_G} {y : Nat → ClassId} {ad : Nat → Nat} {X : va_W} {A : Nat → Prop} {Q : Int32 → mS → Prop} (C : mC p s m args meth c cX8_placeOf 3 (some .int) wsX8_placeOf D y A) (z0 : Int32) (σ : mS) (hw : w_placeOf_38 Q z0 σ) (H : Heap) (locs : List Loc) (ls : Array Slot) (hO : mO D y ad X A s.heap H locs σ) (hl : lv_has ls 3 []) : W p l e rX8_placeOf s m args below meth c H locs 0 0 (MQ below (va_Qi Q (mB D y ad X A) A) args s 0 0 A) (F0 m 38 ls [.int z0]) := by
  obtain ⟨hx, hb, hr, hml, hown, hts, hlk, hK, hA⟩ := id C
  unfold w_placeOf_38 at hw
  exact mx_iret C hO hw dX8_placeOf_38
set_option maxRecDepth 100000 in
set_option maxHeartbeats 4000000 in
theorem k_placeOf_e {p : Program} {l : Launch} {e : Env} {s : State} {m : MethodId} {args : Array Value} {below : List Frame} {meth : Method} {c : Code} {D : va_G} {y : Nat → ClassId} {ad : Nat → Nat} {X : va_W} {A : Nat → Prop} {Q : Int32 → mS → Prop} (C : mC p s m args meth c cX8_placeOf 3 (some .int) wsX8_placeOf D y A) (x0 : Int32) (x1 : Int32) (σ : mS) (hw : w_placeOf Q x0 x1 σ) (H : Heap) (locs : List Loc) (ls : Array Slot) (hO : mO D y ad X A s.heap H locs σ) (hl : lv_has ls 3 [(0, .int x0), (1, .int x1)]) : W p l e rX8_placeOf s m args below meth c H locs 0 0 (MQ below (va_Qi Q (mB D y ad X A) A) args s 0 0 A) (F0 m 0 ls []) := by
  obtain ⟨hx, hb, hr, hml, hown, hts, hlk, hK, hA⟩ := id C
  unfold w_placeOf at hw
  refine lv_iload_n hx hb dX8_placeOf_0 rfl (lv_at hl 0 rfl) ?_
  refine lv_iload_n hx hb dX8_placeOf_1 rfl (lv_at hl 1 rfl) ?_
  refine lv_iadd hx hb dX8_placeOf_2 ?_
  refine lv_topi (fun x2_101 ex2_101 => ?_)
  have hw := hw x2_101 ex2_101
  refine lv_istore_n (lv' := [(2, .int x2_101), (0, .int x0), (1, .int x1)]) hx hb dX8_placeOf_3 rfl hl (by decide) rfl (fun ls hl => ?_)
  refine lv_iload_n hx hb dX8_placeOf_4 rfl (lv_at hl 0 rfl) ?_
  refine lv_iconst (v := 3) hx hb dX8_placeOf_5 (by decide) ?_
  refine lv_icmp_ne (tgt := 13) hx hb dX8_placeOf_6 (by decide) (fun hc => ?_) (fun hc => ?_)
  · have hw := hw.1 hc
    refine lv_iload_n hx hb dX8_placeOf_13 rfl (lv_at hl 0 rfl) ?_
    refine lv_iconst (v := 2) hx hb dX8_placeOf_14 (by decide) ?_
    refine lv_icmp_ne (tgt := 24) hx hb dX8_placeOf_15 (by decide) (fun hc => ?_) (fun hc => ?_)
    · have hw := hw.1 hc
      refine lv_iload_n hx hb dX8_placeOf_24 rfl (lv_at hl 0 rfl) ?_
      refine lv_iconst (v := 1) hx hb dX8_placeOf_25 (by decide) ?_
      refine lv_icmp_ne (tgt := 36) hx hb dX8_placeOf_26 (by decide) (fun hc => ?_) (fun hc => ?_)
      · have hw := hw.1 hc
        refine lv_bipush (v := 9) hx hb dX8_placeOf_36 (by decide) ?_
        exact k_placeOf_38 C ((9 : Int32)) σ hw H locs ls hO (lv_sub hl [] rfl)
      · have hw := hw.2 hc
        refine lv_bipush (v := 7) hx hb dX8_placeOf_29 (by decide) ?_
        refine lv_iload_n hx hb dX8_placeOf_31 rfl (lv_at hl 2 rfl) ?_
        refine lv_iadd hx hb dX8_placeOf_32 ?_
        refine lv_goto (tgt := 38) hx hb dX8_placeOf_33 (by decide) ?_
        exact k_placeOf_38 C ((7 : Int32) + x1) σ hw H locs ls hO (lv_sub hl [] rfl)
    · have hw := hw.2 hc
      refine lv_iconst (v := 4) hx hb dX8_placeOf_18 (by decide) ?_
      refine lv_iload_n hx hb dX8_placeOf_19 rfl (lv_at hl 2 rfl) ?_
      refine lv_iadd hx hb dX8_placeOf_20 ?_
      refine lv_goto (tgt := 38) hx hb dX8_placeOf_21 (by decide) ?_
      exact k_placeOf_38 C ((4 : Int32) + x1) σ hw H locs ls hO (lv_sub hl [] rfl)
  · have hw := hw.2 hc
    refine lv_iload_n hx hb dX8_placeOf_9 rfl (lv_at hl 2 rfl) ?_
    refine lv_goto (tgt := 38) hx hb dX8_placeOf_10 (by decide) ?_
    exact k_placeOf_38 C x1 σ hw H locs ls hO (lv_sub hl [] rfl)
theorem c_placeOf (l : Launch) (D : va_G) (y : Nat → ClassId) (ad : Nat → Nat) (X : va_W) (σ : mS) (x0 : Int32) (x1 : Int32) (Q : Int32 → mS → Prop) (hw : w_placeOf Q x0 x1 σ) : ∀ sz, Met l yX8_placeOf wsX8_placeOf rX8_placeOf (va_Pc [.int x0, .int x1] (mPre D y ad X sz σ)) (va_Qi Q (mB D y ad X (va_A (mW y ad σ ++ X) sz)) (va_A (mW y ad σ ++ X) sz)) 0 0 (va_A (mW y ad σ ++ X) sz) :=
  mMet (Qc := fun A => va_Qi Q (mB D y ad X A) A) rfl (Nat.le_of_ble_eq_true rfl) (fun p e s m args below meth c A ls C hO hl => k_placeOf_e C x0 x1 σ hw s.heap [] ls hO hl)
abbrev rX8_addProduct : Room := { frames := 1, cells := 0, slots := 0, locals := 22 }
set_option maxRecDepth 100000 in
set_option maxHeartbeats 4000000 in
theorem k_addProduct_123 {p : Program} {l : Launch} {e : Env} {s : State} {m : MethodId} {args : Array Value} {below : List Frame} {meth : Method} {c : Code} {D : va_G} {y : Nat → ClassId} {ad : Nat → Nat} {X : va_W} {A : Nat → Prop} {Q : mS → Prop} (C : mC p s m args meth c cX8_addProduct 13 none wsX8_addProduct D y A) {r3 : Int32 → Int32 → Int32 → Int64 → Int32 → mS → Prop} (hr3 : ∀ (x1 : Int32) (x2 : Int32) (x3 : Int32) (x4 : Int64) (x6 : Int32) (σ : mS), r3 x1 x2 x3 x4 x6 σ → ∀ (H : Heap) (locs : List Loc) (ls : Array Slot), mO D y ad X A s.heap H locs σ → lv_has ls 13 [(0, .ref (ad 0)), (1, .int x1), (2, .int x2), (3, .int x3), (4, .long x4), (6, .int x6)] → W p l e rX8_addProduct s m args below meth c H locs 0 0 (MQ below (va_Qv Q (mB D y ad X A) A) args s 0 0 A) (F0 m 3 ls [])) {r12 : Int32 → Int32 → Int32 → Int64 → Int32 → Int32 → mS → Prop} (hr12 : ∀ (x1 : Int32) (x2 : Int32) (x3 : Int32) (x4 : Int64) (x6 : Int32) (x7 : Int32) (σ : mS), r12 x1 x2 x3 x4 x6 x7 σ → ∀ (H : Heap) (locs : List Loc) (ls : Array Slot), mO D y ad X A s.heap H locs σ → lv_has ls 13 [(0, .ref (ad 0)), (1, .int x1), (2, .int x2), (3, .int x3), (4, .long x4), (6, .int x6), (7, .int x7)] → W p l e rX8_addProduct s m args below meth c H locs 0 0 (MQ below (va_Qv Q (mB D y ad X A) A) args s 0 0 A) (F0 m 12 ls [])) {r29 : Int32 → Int32 → Int32 → Int64 → Int32 → Int32 → Int32 → mS → Prop} (hr29 : ∀ (x1 : Int32) (x2 : Int32) (x3 : Int32) (x4 : Int64) (x6 : Int32) (x7 : Int32) (x8 : Int32) (σ : mS), r29 x1 x2 x3 x4 x6 x7 x8 σ → ∀ (H : Heap) (locs : List Loc) (ls : Array Slot), mO D y ad X A s.heap H locs σ → lv_has ls 13 [(0, .ref (ad 0)), (1, .int x1), (2, .int x2), (3, .int x3), (4, .long x4), (6, .int x6), (7, .int x7), (8, .int x8)] → W p l e rX8_addProduct s m args below meth c H locs 0 0 (MQ below (va_Qv Q (mB D y ad X A) A) args s 0 0 A) (F0 m 29 ls [])) (x1 : Int32) (x2 : Int32) (x3 : Int32) (x4 : Int64) (x6 : Int32) (x7 : Int32) (x8 : Int32) (x9 : Int32) (x10 : Int32) (z0 : Int64) (σ : mS) (hw : w_addProduct_123 Q r3 r12 r29 x1 x2 x3 x4 x6 x7 x8 x9 x10 z0 σ) (H : Heap) (locs : List Loc) (ls : Array Slot) (hO : mO D y ad X A s.heap H locs σ) (hl : lv_has ls 13 [(0, .ref (ad 0)), (1, .int x1), (2, .int x2), (3, .int x3), (4, .long x4), (6, .int x6), (7, .int x7), (8, .int x8), (9, .int x9), (10, .int x10)]) : W p l e rX8_addProduct s m args below meth c H locs 0 0 (MQ below (va_Qv Q (mB D y ad X A) A) args s 0 0 A) (F0 m 123 ls [.long z0]) := by
  obtain ⟨hx, hb, hr, hml, hown, hts, hlk, hK, hA⟩ := id C
  have hin : ∀ w ∈ wsX80, w ∈ wsX8_addProduct := fun _ h => List.mem_cons_of_mem _ (List.mem_append_right _ h)
  unfold w_addProduct_123 at hw
  refine lv_lstore (lv' := [(11, .long z0), (0, .ref (ad 0)), (1, .int x1), (2, .int x2), (3, .int x3), (4, .long x4), (6, .int x6), (7, .int x7), (8, .int x8), (9, .int x9), (10, .int x10)]) hx hb dX8_addProduct_123 hl (by decide) rfl (fun ls hl => ?_)
  refine lv_aload_n hx hb dX8_addProduct_125 rfl (lv_at hl 1 rfl) ?_
  refine mx_get C hO hin 11 (by decide) (idx := 39) (by decide +kernel) rfl rfl dX8_addProduct_126 ?_
  refine lv_iload hx hb dX8_addProduct_129 (lv_at hl 9 rfl) ?_
  refine lv_iload hx hb dX8_addProduct_131 (lv_at hl 10 rfl) ?_
  refine mx_cis C hO (c_placeOf l D y ad X σ x9 x10 _ hw) (va_cwS 2 hts gX8_addProduct_X8_placeOf rfl rfl rfl (by decide +kernel) ⟨Nat.le_of_ble_eq_true rfl, Nat.le_of_ble_eq_true rfl⟩) rfl hl.1 rfl (lv_room (Nat.le_of_ble_eq_true rfl)) dX8_addProduct_133 (fun u101 σ102 H locs hw hO => ?_)
  refine lv_dup2_11 hx hb dX8_addProduct_136 rfl rfl ?_
  refine mx_lald C hO (a := 10) rfl hw.1 dX8_addProduct_137 ?_
  have hw := hw.2
  refine lv_lload hx hb dX8_addProduct_138 (lv_at hl 5 rfl) ?_
  refine lv_aload_n hx hb dX8_addProduct_140 rfl (lv_at hl 1 rfl) ?_
  refine mx_get C hO hin 10 (by decide) (idx := 36) (by decide +kernel) rfl rfl dX8_addProduct_141 ?_
  refine lv_iload_n hx hb dX8_addProduct_144 rfl (lv_at hl 2 rfl) ?_
  refine lv_iload hx hb dX8_addProduct_145 (lv_at hl 6 rfl) ?_
  refine lv_iadd hx hb dX8_addProduct_147 ?_
  refine mx_lald C hO (a := 9) rfl hw.1 dX8_addProduct_148 ?_
  have hw := hw.2
  refine lv_lmul hx hb dX8_addProduct_149 ?_
  refine lv_aload_n hx hb dX8_addProduct_150 rfl (lv_at hl 1 rfl) ?_
  refine mx_get C hO hin 10 (by decide) (idx := 36) (by decide +kernel) rfl rfl dX8_addProduct_151 ?_
  refine lv_iload_n hx hb dX8_addProduct_154 rfl (lv_at hl 3 rfl) ?_
  refine lv_iload hx hb dX8_addProduct_155 (lv_at hl 7 rfl) ?_
  refine lv_iadd hx hb dX8_addProduct_157 ?_
  refine mx_lald C hO (a := 9) rfl hw.1 dX8_addProduct_158 ?_
  have hw := hw.2
  refine lv_lmul hx hb dX8_addProduct_159 ?_
  refine lv_lload hx hb dX8_addProduct_160 (lv_at hl 0 rfl) ?_
  refine lv_lmul hx hb dX8_addProduct_162 ?_
  refine lv_ladd hx hb dX8_addProduct_163 ?_
  refine mx_last C hO (a := 10) rfl hw.1 dX8_addProduct_164 (fun H locs σ103 eσ103 hO => ?_)
  have hw := hw.2 σ103 eσ103
  obtain ⟨x8_104, ex8_104⟩ : ∃ y : Int32, y = x8 + 1 := ⟨_, rfl⟩
  have hw := hw x8_104 ex8_104
  refine lv_iinc (v := x8_104) (lv' := [(8, .int x8_104), (11, .long z0), (0, .ref (ad 0)), (1, .int x1), (2, .int x2), (3, .int x3), (4, .long x4), (6, .int x6), (7, .int x7), (9, .int x9), (10, .int x10)]) hx hb dX8_addProduct_165 hl (k := 8) rfl (by rw [ex8_104]; rfl) (by decide) rfl (fun ls hl => ?_)
  refine lv_goto (tgt := 29) hx hb dX8_addProduct_168 (by decide) ?_
  exact hr29 x1 x2 x3 x4 x6 x7 x8_104 σ103 hw H locs ls hO (lv_sub hl [2, 3, 4, 5, 6, 7, 8, 0] rfl)
set_option maxRecDepth 100000 in
set_option maxHeartbeats 4000000 in
theorem k_addProduct_103 {p : Program} {l : Launch} {e : Env} {s : State} {m : MethodId} {args : Array Value} {below : List Frame} {meth : Method} {c : Code} {D : va_G} {y : Nat → ClassId} {ad : Nat → Nat} {X : va_W} {A : Nat → Prop} {Q : mS → Prop} (C : mC p s m args meth c cX8_addProduct 13 none wsX8_addProduct D y A) {r3 : Int32 → Int32 → Int32 → Int64 → Int32 → mS → Prop} (hr3 : ∀ (x1 : Int32) (x2 : Int32) (x3 : Int32) (x4 : Int64) (x6 : Int32) (σ : mS), r3 x1 x2 x3 x4 x6 σ → ∀ (H : Heap) (locs : List Loc) (ls : Array Slot), mO D y ad X A s.heap H locs σ → lv_has ls 13 [(0, .ref (ad 0)), (1, .int x1), (2, .int x2), (3, .int x3), (4, .long x4), (6, .int x6)] → W p l e rX8_addProduct s m args below meth c H locs 0 0 (MQ below (va_Qv Q (mB D y ad X A) A) args s 0 0 A) (F0 m 3 ls [])) {r12 : Int32 → Int32 → Int32 → Int64 → Int32 → Int32 → mS → Prop} (hr12 : ∀ (x1 : Int32) (x2 : Int32) (x3 : Int32) (x4 : Int64) (x6 : Int32) (x7 : Int32) (σ : mS), r12 x1 x2 x3 x4 x6 x7 σ → ∀ (H : Heap) (locs : List Loc) (ls : Array Slot), mO D y ad X A s.heap H locs σ → lv_has ls 13 [(0, .ref (ad 0)), (1, .int x1), (2, .int x2), (3, .int x3), (4, .long x4), (6, .int x6), (7, .int x7)] → W p l e rX8_addProduct s m args below meth c H locs 0 0 (MQ below (va_Qv Q (mB D y ad X A) A) args s 0 0 A) (F0 m 12 ls [])) {r29 : Int32 → Int32 → Int32 → Int64 → Int32 → Int32 → Int32 → mS → Prop} (hr29 : ∀ (x1 : Int32) (x2 : Int32) (x3 : Int32) (x4 : Int64) (x6 : Int32) (x7 : Int32) (x8 : Int32) (σ : mS), r29 x1 x2 x3 x4 x6 x7 x8 σ → ∀ (H : Heap) (locs : List Loc) (ls : Array Slot), mO D y ad X A s.heap H locs σ → lv_has ls 13 [(0, .ref (ad 0)), (1, .int x1), (2, .int x2), (3, .int x3), (4, .long x4), (6, .int x6), (7, .int x7), (8, .int x8)] → W p l e rX8_addProduct s m args below meth c H locs 0 0 (MQ below (va_Qv Q (mB D y ad X A) A) args s 0 0 A) (F0 m 29 ls [])) (x1 : Int32) (x2 : Int32) (x3 : Int32) (x4 : Int64) (x6 : Int32) (x7 : Int32) (x8 : Int32) (x9 : Int32) (z0 : Int32) (z1 : Int32) (σ : mS) (hw : w_addProduct_103 Q r3 r12 r29 x1 x2 x3 x4 x6 x7 x8 x9 z0 z1 σ) (H : Heap) (locs : List Loc) (ls : Array Slot) (hO : mO D y ad X A s.heap H locs σ) (hl : lv_has ls 13 [(0, .ref (ad 0)), (1, .int x1), (2, .int x2), (3, .int x3), (4, .long x4), (6, .int x6), (7, .int x7), (8, .int x8), (9, .int x9)]) : W p l e rX8_addProduct s m args below meth c H locs 0 0 (MQ below (va_Qv Q (mB D y ad X A) A) args s 0 0 A) (F0 m 103 ls [.int z1, .int z0]) := by
  obtain ⟨hx, hb, hr, hml, hown, hts, hlk, hK, hA⟩ := id C
  have hin : ∀ w ∈ wsX80, w ∈ wsX8_addProduct := fun _ h => List.mem_cons_of_mem _ (List.mem_append_right _ h)
  unfold w_addProduct_103 at hw
  refine lv_iadd hx hb dX8_addProduct_103 ?_
  refine lv_topi (fun x10_101 ex10_101 => ?_)
  have hw := hw x10_101 ex10_101
  refine lv_istore (lv' := [(10, .int x10_101), (0, .ref (ad 0)), (1, .int x1), (2, .int x2), (3, .int x3), (4, .long x4), (6, .int x6), (7, .int x7), (8, .int x8), (9, .int x9)]) hx hb dX8_addProduct_104 hl (by decide) rfl (fun ls hl => ?_)
  refine lv_iload_n hx hb dX8_addProduct_106 rfl (lv_at hl 4 rfl) ?_
  refine lv_if_ge (tgt := 114) hx hb dX8_addProduct_107 (by decide) (fun hc => ?_) (fun hc => ?_)
  · have hw := hw.1 hc
    refine lv_aload_n hx hb dX8_addProduct_114 rfl (lv_at hl 1 rfl) ?_
    refine mx_get C hO hin 10 (by decide) (idx := 36) (by decide +kernel) rfl rfl dX8_addProduct_115 ?_
    refine lv_iload_n hx hb dX8_addProduct_118 rfl (lv_at hl 4 rfl) ?_
    refine lv_iload hx hb dX8_addProduct_119 (lv_at hl 8 rfl) ?_
    refine lv_iadd hx hb dX8_addProduct_121 ?_
    refine mx_lald C hO (a := 9) rfl hw.1 dX8_addProduct_122 ?_
    have hw := hw.2
    exact k_addProduct_123 C hr3 hr12 hr29 x1 x2 x3 x4 x6 x7 x8 x9 x10_101 (σ.1 9 (x3 + x8).toNatClampNeg) σ hw H locs ls hO (lv_sub hl [1, 2, 3, 4, 5, 6, 7, 8, 9, 0] rfl)
  · have hw := hw.2 hc
    refine lv_lconst (v := 1) hx hb dX8_addProduct_110 (by decide) ?_
    refine lv_goto (tgt := 123) hx hb dX8_addProduct_111 (by decide) ?_
    exact k_addProduct_123 C hr3 hr12 hr29 x1 x2 x3 x4 x6 x7 x8 x9 x10_101 ((1 : Int64)) σ hw H locs ls hO (lv_sub hl [1, 2, 3, 4, 5, 6, 7, 8, 9, 0] rfl)
set_option maxRecDepth 100000 in
set_option maxHeartbeats 4000000 in
theorem k_addProduct_91 {p : Program} {l : Launch} {e : Env} {s : State} {m : MethodId} {args : Array Value} {below : List Frame} {meth : Method} {c : Code} {D : va_G} {y : Nat → ClassId} {ad : Nat → Nat} {X : va_W} {A : Nat → Prop} {Q : mS → Prop} (C : mC p s m args meth c cX8_addProduct 13 none wsX8_addProduct D y A) {r3 : Int32 → Int32 → Int32 → Int64 → Int32 → mS → Prop} (hr3 : ∀ (x1 : Int32) (x2 : Int32) (x3 : Int32) (x4 : Int64) (x6 : Int32) (σ : mS), r3 x1 x2 x3 x4 x6 σ → ∀ (H : Heap) (locs : List Loc) (ls : Array Slot), mO D y ad X A s.heap H locs σ → lv_has ls 13 [(0, .ref (ad 0)), (1, .int x1), (2, .int x2), (3, .int x3), (4, .long x4), (6, .int x6)] → W p l e rX8_addProduct s m args below meth c H locs 0 0 (MQ below (va_Qv Q (mB D y ad X A) A) args s 0 0 A) (F0 m 3 ls [])) {r12 : Int32 → Int32 → Int32 → Int64 → Int32 → Int32 → mS → Prop} (hr12 : ∀ (x1 : Int32) (x2 : Int32) (x3 : Int32) (x4 : Int64) (x6 : Int32) (x7 : Int32) (σ : mS), r12 x1 x2 x3 x4 x6 x7 σ → ∀ (H : Heap) (locs : List Loc) (ls : Array Slot), mO D y ad X A s.heap H locs σ → lv_has ls 13 [(0, .ref (ad 0)), (1, .int x1), (2, .int x2), (3, .int x3), (4, .long x4), (6, .int x6), (7, .int x7)] → W p l e rX8_addProduct s m args below meth c H locs 0 0 (MQ below (va_Qv Q (mB D y ad X A) A) args s 0 0 A) (F0 m 12 ls [])) {r29 : Int32 → Int32 → Int32 → Int64 → Int32 → Int32 → Int32 → mS → Prop} (hr29 : ∀ (x1 : Int32) (x2 : Int32) (x3 : Int32) (x4 : Int64) (x6 : Int32) (x7 : Int32) (x8 : Int32) (σ : mS), r29 x1 x2 x3 x4 x6 x7 x8 σ → ∀ (H : Heap) (locs : List Loc) (ls : Array Slot), mO D y ad X A s.heap H locs σ → lv_has ls 13 [(0, .ref (ad 0)), (1, .int x1), (2, .int x2), (3, .int x3), (4, .long x4), (6, .int x6), (7, .int x7), (8, .int x8)] → W p l e rX8_addProduct s m args below meth c H locs 0 0 (MQ below (va_Qv Q (mB D y ad X A) A) args s 0 0 A) (F0 m 29 ls [])) (x1 : Int32) (x2 : Int32) (x3 : Int32) (x4 : Int64) (x6 : Int32) (x7 : Int32) (x8 : Int32) (x9 : Int32) (z0 : Int32) (z1 : Int32) (σ : mS) (hw : w_addProduct_91 Q r3 r12 r29 x1 x2 x3 x4 x6 x7 x8 x9 z0 z1 σ) (H : Heap) (locs : List Loc) (ls : Array Slot) (hO : mO D y ad X A s.heap H locs σ) (hl : lv_has ls 13 [(0, .ref (ad 0)), (1, .int x1), (2, .int x2), (3, .int x3), (4, .long x4), (6, .int x6), (7, .int x7), (8, .int x8), (9, .int x9)]) : W p l e rX8_addProduct s m args below meth c H locs 0 0 (MQ below (va_Qv Q (mB D y ad X A) A) args s 0 0 A) (F0 m 91 ls [.int z1, .int z0]) := by
  obtain ⟨hx, hb, hr, hml, hown, hts, hlk, hK, hA⟩ := id C
  unfold w_addProduct_91 at hw
  refine lv_iadd hx hb dX8_addProduct_91 ?_
  refine lv_iload hx hb dX8_addProduct_92 (lv_at hl 7 rfl) ?_
  refine lv_iconst (v := 1) hx hb dX8_addProduct_94 (by decide) ?_
  refine lv_icmp_ne (tgt := 102) hx hb dX8_addProduct_95 (by decide) (fun hc => ?_) (fun hc => ?_)
  · have hw := hw.1 hc
    refine lv_iconst (v := 0) hx hb dX8_addProduct_102 (by decide) ?_
    exact k_addProduct_103 C hr3 hr12 hr29 x1 x2 x3 x4 x6 x7 x8 x9 (z0 + z1) ((0 : Int32)) σ hw H locs ls hO (lv_sub hl [0, 1, 2, 3, 4, 5, 6, 7, 8] rfl)
  · have hw := hw.2 hc
    refine lv_iconst (v := 1) hx hb dX8_addProduct_98 (by decide) ?_
    refine lv_goto (tgt := 103) hx hb dX8_addProduct_99 (by decide) ?_
    exact k_addProduct_103 C hr3 hr12 hr29 x1 x2 x3 x4 x6 x7 x8 x9 (z0 + z1) ((1 : Int32)) σ hw H locs ls hO (lv_sub hl [0, 1, 2, 3, 4, 5, 6, 7, 8] rfl)
set_option maxRecDepth 100000 in
set_option maxHeartbeats 4000000 in
theorem k_addProduct_80 {p : Program} {l : Launch} {e : Env} {s : State} {m : MethodId} {args : Array Value} {below : List Frame} {meth : Method} {c : Code} {D : va_G} {y : Nat → ClassId} {ad : Nat → Nat} {X : va_W} {A : Nat → Prop} {Q : mS → Prop} (C : mC p s m args meth c cX8_addProduct 13 none wsX8_addProduct D y A) {r3 : Int32 → Int32 → Int32 → Int64 → Int32 → mS → Prop} (hr3 : ∀ (x1 : Int32) (x2 : Int32) (x3 : Int32) (x4 : Int64) (x6 : Int32) (σ : mS), r3 x1 x2 x3 x4 x6 σ → ∀ (H : Heap) (locs : List Loc) (ls : Array Slot), mO D y ad X A s.heap H locs σ → lv_has ls 13 [(0, .ref (ad 0)), (1, .int x1), (2, .int x2), (3, .int x3), (4, .long x4), (6, .int x6)] → W p l e rX8_addProduct s m args below meth c H locs 0 0 (MQ below (va_Qv Q (mB D y ad X A) A) args s 0 0 A) (F0 m 3 ls [])) {r12 : Int32 → Int32 → Int32 → Int64 → Int32 → Int32 → mS → Prop} (hr12 : ∀ (x1 : Int32) (x2 : Int32) (x3 : Int32) (x4 : Int64) (x6 : Int32) (x7 : Int32) (σ : mS), r12 x1 x2 x3 x4 x6 x7 σ → ∀ (H : Heap) (locs : List Loc) (ls : Array Slot), mO D y ad X A s.heap H locs σ → lv_has ls 13 [(0, .ref (ad 0)), (1, .int x1), (2, .int x2), (3, .int x3), (4, .long x4), (6, .int x6), (7, .int x7)] → W p l e rX8_addProduct s m args below meth c H locs 0 0 (MQ below (va_Qv Q (mB D y ad X A) A) args s 0 0 A) (F0 m 12 ls [])) {r29 : Int32 → Int32 → Int32 → Int64 → Int32 → Int32 → Int32 → mS → Prop} (hr29 : ∀ (x1 : Int32) (x2 : Int32) (x3 : Int32) (x4 : Int64) (x6 : Int32) (x7 : Int32) (x8 : Int32) (σ : mS), r29 x1 x2 x3 x4 x6 x7 x8 σ → ∀ (H : Heap) (locs : List Loc) (ls : Array Slot), mO D y ad X A s.heap H locs σ → lv_has ls 13 [(0, .ref (ad 0)), (1, .int x1), (2, .int x2), (3, .int x3), (4, .long x4), (6, .int x6), (7, .int x7), (8, .int x8)] → W p l e rX8_addProduct s m args below meth c H locs 0 0 (MQ below (va_Qv Q (mB D y ad X A) A) args s 0 0 A) (F0 m 29 ls [])) (x1 : Int32) (x2 : Int32) (x3 : Int32) (x4 : Int64) (x6 : Int32) (x7 : Int32) (x8 : Int32) (x9 : Int32) (z0 : Int32) (σ : mS) (hw : w_addProduct_80 Q r3 r12 r29 x1 x2 x3 x4 x6 x7 x8 x9 z0 σ) (H : Heap) (locs : List Loc) (ls : Array Slot) (hO : mO D y ad X A s.heap H locs σ) (hl : lv_has ls 13 [(0, .ref (ad 0)), (1, .int x1), (2, .int x2), (3, .int x3), (4, .long x4), (6, .int x6), (7, .int x7), (8, .int x8), (9, .int x9)]) : W p l e rX8_addProduct s m args below meth c H locs 0 0 (MQ below (va_Qv Q (mB D y ad X A) A) args s 0 0 A) (F0 m 80 ls [.int z0]) := by
  obtain ⟨hx, hb, hr, hml, hown, hts, hlk, hK, hA⟩ := id C
  unfold w_addProduct_80 at hw
  refine lv_iload hx hb dX8_addProduct_80 (lv_at hl 6 rfl) ?_
  refine lv_iconst (v := 1) hx hb dX8_addProduct_82 (by decide) ?_
  refine lv_icmp_ne (tgt := 90) hx hb dX8_addProduct_83 (by decide) (fun hc => ?_) (fun hc => ?_)
  · have hw := hw.1 hc
    refine lv_iconst (v := 0) hx hb dX8_addProduct_90 (by decide) ?_
    exact k_addProduct_91 C hr3 hr12 hr29 x1 x2 x3 x4 x6 x7 x8 x9 z0 ((0 : Int32)) σ hw H locs ls hO (lv_sub hl [0, 1, 2, 3, 4, 5, 6, 7, 8] rfl)
  · have hw := hw.2 hc
    refine lv_iconst (v := 1) hx hb dX8_addProduct_86 (by decide) ?_
    refine lv_goto (tgt := 91) hx hb dX8_addProduct_87 (by decide) ?_
    exact k_addProduct_91 C hr3 hr12 hr29 x1 x2 x3 x4 x6 x7 x8 x9 z0 ((1 : Int32)) σ hw H locs ls hO (lv_sub hl [0, 1, 2, 3, 4, 5, 6, 7, 8] rfl)
set_option maxRecDepth 100000 in
set_option maxHeartbeats 4000000 in
theorem k_addProduct_66 {p : Program} {l : Launch} {e : Env} {s : State} {m : MethodId} {args : Array Value} {below : List Frame} {meth : Method} {c : Code} {D : va_G} {y : Nat → ClassId} {ad : Nat → Nat} {X : va_W} {A : Nat → Prop} {Q : mS → Prop} (C : mC p s m args meth c cX8_addProduct 13 none wsX8_addProduct D y A) {r3 : Int32 → Int32 → Int32 → Int64 → Int32 → mS → Prop} (hr3 : ∀ (x1 : Int32) (x2 : Int32) (x3 : Int32) (x4 : Int64) (x6 : Int32) (σ : mS), r3 x1 x2 x3 x4 x6 σ → ∀ (H : Heap) (locs : List Loc) (ls : Array Slot), mO D y ad X A s.heap H locs σ → lv_has ls 13 [(0, .ref (ad 0)), (1, .int x1), (2, .int x2), (3, .int x3), (4, .long x4), (6, .int x6)] → W p l e rX8_addProduct s m args below meth c H locs 0 0 (MQ below (va_Qv Q (mB D y ad X A) A) args s 0 0 A) (F0 m 3 ls [])) {r12 : Int32 → Int32 → Int32 → Int64 → Int32 → Int32 → mS → Prop} (hr12 : ∀ (x1 : Int32) (x2 : Int32) (x3 : Int32) (x4 : Int64) (x6 : Int32) (x7 : Int32) (σ : mS), r12 x1 x2 x3 x4 x6 x7 σ → ∀ (H : Heap) (locs : List Loc) (ls : Array Slot), mO D y ad X A s.heap H locs σ → lv_has ls 13 [(0, .ref (ad 0)), (1, .int x1), (2, .int x2), (3, .int x3), (4, .long x4), (6, .int x6), (7, .int x7)] → W p l e rX8_addProduct s m args below meth c H locs 0 0 (MQ below (va_Qv Q (mB D y ad X A) A) args s 0 0 A) (F0 m 12 ls [])) {r29 : Int32 → Int32 → Int32 → Int64 → Int32 → Int32 → Int32 → mS → Prop} (hr29 : ∀ (x1 : Int32) (x2 : Int32) (x3 : Int32) (x4 : Int64) (x6 : Int32) (x7 : Int32) (x8 : Int32) (σ : mS), r29 x1 x2 x3 x4 x6 x7 x8 σ → ∀ (H : Heap) (locs : List Loc) (ls : Array Slot), mO D y ad X A s.heap H locs σ → lv_has ls 13 [(0, .ref (ad 0)), (1, .int x1), (2, .int x2), (3, .int x3), (4, .long x4), (6, .int x6), (7, .int x7), (8, .int x8)] → W p l e rX8_addProduct s m args below meth c H locs 0 0 (MQ below (va_Qv Q (mB D y ad X A) A) args s 0 0 A) (F0 m 29 ls [])) (x1 : Int32) (x2 : Int32) (x3 : Int32) (x4 : Int64) (x6 : Int32) (x7 : Int32) (x8 : Int32) (z0 : Int32) (z1 : Int32) (σ : mS) (hw : w_addProduct_66 Q r3 r12 r29 x1 x2 x3 x4 x6 x7 x8 z0 z1 σ) (H : Heap) (locs : List Loc) (ls : Array Slot) (hO : mO D y ad X A s.heap H locs σ) (hl : lv_has ls 13 [(0, .ref (ad 0)), (1, .int x1), (2, .int x2), (3, .int x3), (4, .long x4), (6, .int x6), (7, .int x7), (8, .int x8)]) : W p l e rX8_addProduct s m args below meth c H locs 0 0 (MQ below (va_Qv Q (mB D y ad X A) A) args s 0 0 A) (F0 m 66 ls [.int z1, .int z0]) := by
  obtain ⟨hx, hb, hr, hml, hown, hts, hlk, hK, hA⟩ := id C
  unfold w_addProduct_66 at hw
  refine lv_iadd hx hb dX8_addProduct_66 ?_
  refine lv_topi (fun x9_101 ex9_101 => ?_)
  have hw := hw x9_101 ex9_101
  refine lv_istore (lv' := [(9, .int x9_101), (0, .ref (ad 0)), (1, .int x1), (2, .int x2), (3, .int x3), (4, .long x4), (6, .int x6), (7, .int x7), (8, .int x8)]) hx hb dX8_addProduct_67 hl (by decide) rfl (fun ls hl => ?_)
  refine lv_iload hx hb dX8_addProduct_69 (lv_at hl 6 rfl) ?_
  refine lv_iconst (v := 1) hx hb dX8_addProduct_71 (by decide) ?_
  refine lv_icmp_ne (tgt := 79) hx hb dX8_addProduct_72 (by decide) (fun hc => ?_) (fun hc => ?_)
  · have hw := hw.1 hc
    refine lv_iconst (v := 0) hx hb dX8_addProduct_79 (by decide) ?_
    exact k_addProduct_80 C hr3 hr12 hr29 x1 x2 x3 x4 x6 x7 x8 x9_101 ((0 : Int32)) σ hw H locs ls hO (lv_sub hl [1, 2, 3, 4, 5, 6, 7, 8, 0] rfl)
  · have hw := hw.2 hc
    refine lv_iconst (v := 1) hx hb dX8_addProduct_75 (by decide) ?_
    refine lv_goto (tgt := 80) hx hb dX8_addProduct_76 (by decide) ?_
    exact k_addProduct_80 C hr3 hr12 hr29 x1 x2 x3 x4 x6 x7 x8 x9_101 ((1 : Int32)) σ hw H locs ls hO (lv_sub hl [1, 2, 3, 4, 5, 6, 7, 8, 0] rfl)
set_option maxRecDepth 100000 in
set_option maxHeartbeats 4000000 in
theorem k_addProduct_55 {p : Program} {l : Launch} {e : Env} {s : State} {m : MethodId} {args : Array Value} {below : List Frame} {meth : Method} {c : Code} {D : va_G} {y : Nat → ClassId} {ad : Nat → Nat} {X : va_W} {A : Nat → Prop} {Q : mS → Prop} (C : mC p s m args meth c cX8_addProduct 13 none wsX8_addProduct D y A) {r3 : Int32 → Int32 → Int32 → Int64 → Int32 → mS → Prop} (hr3 : ∀ (x1 : Int32) (x2 : Int32) (x3 : Int32) (x4 : Int64) (x6 : Int32) (σ : mS), r3 x1 x2 x3 x4 x6 σ → ∀ (H : Heap) (locs : List Loc) (ls : Array Slot), mO D y ad X A s.heap H locs σ → lv_has ls 13 [(0, .ref (ad 0)), (1, .int x1), (2, .int x2), (3, .int x3), (4, .long x4), (6, .int x6)] → W p l e rX8_addProduct s m args below meth c H locs 0 0 (MQ below (va_Qv Q (mB D y ad X A) A) args s 0 0 A) (F0 m 3 ls [])) {r12 : Int32 → Int32 → Int32 → Int64 → Int32 → Int32 → mS → Prop} (hr12 : ∀ (x1 : Int32) (x2 : Int32) (x3 : Int32) (x4 : Int64) (x6 : Int32) (x7 : Int32) (σ : mS), r12 x1 x2 x3 x4 x6 x7 σ → ∀ (H : Heap) (locs : List Loc) (ls : Array Slot), mO D y ad X A s.heap H locs σ → lv_has ls 13 [(0, .ref (ad 0)), (1, .int x1), (2, .int x2), (3, .int x3), (4, .long x4), (6, .int x6), (7, .int x7)] → W p l e rX8_addProduct s m args below meth c H locs 0 0 (MQ below (va_Qv Q (mB D y ad X A) A) args s 0 0 A) (F0 m 12 ls [])) {r29 : Int32 → Int32 → Int32 → Int64 → Int32 → Int32 → Int32 → mS → Prop} (hr29 : ∀ (x1 : Int32) (x2 : Int32) (x3 : Int32) (x4 : Int64) (x6 : Int32) (x7 : Int32) (x8 : Int32) (σ : mS), r29 x1 x2 x3 x4 x6 x7 x8 σ → ∀ (H : Heap) (locs : List Loc) (ls : Array Slot), mO D y ad X A s.heap H locs σ → lv_has ls 13 [(0, .ref (ad 0)), (1, .int x1), (2, .int x2), (3, .int x3), (4, .long x4), (6, .int x6), (7, .int x7), (8, .int x8)] → W p l e rX8_addProduct s m args below meth c H locs 0 0 (MQ below (va_Qv Q (mB D y ad X A) A) args s 0 0 A) (F0 m 29 ls [])) (x1 : Int32) (x2 : Int32) (x3 : Int32) (x4 : Int64) (x6 : Int32) (x7 : Int32) (x8 : Int32) (z0 : Int32) (z1 : Int32) (σ : mS) (hw : w_addProduct_55 Q r3 r12 r29 x1 x2 x3 x4 x6 x7 x8 z0 z1 σ) (H : Heap) (locs : List Loc) (ls : Array Slot) (hO : mO D y ad X A s.heap H locs σ) (hl : lv_has ls 13 [(0, .ref (ad 0)), (1, .int x1), (2, .int x2), (3, .int x3), (4, .long x4), (6, .int x6), (7, .int x7), (8, .int x8)]) : W p l e rX8_addProduct s m args below meth c H locs 0 0 (MQ below (va_Qv Q (mB D y ad X A) A) args s 0 0 A) (F0 m 55 ls [.int z1, .int z0]) := by
  obtain ⟨hx, hb, hr, hml, hown, hts, hlk, hK, hA⟩ := id C
  unfold w_addProduct_55 at hw
  refine lv_iadd hx hb dX8_addProduct_55 ?_
  refine lv_iload hx hb dX8_addProduct_56 (lv_at hl 7 rfl) ?_
  refine lv_if_ne (tgt := 65) hx hb dX8_addProduct_58 (by decide) (fun hc => ?_) (fun hc => ?_)
  · have hw := hw.1 hc
    refine lv_iconst (v := 0) hx hb dX8_addProduct_65 (by decide) ?_
    exact k_addProduct_66 C hr3 hr12 hr29 x1 x2 x3 x4 x6 x7 x8 (z0 + z1) ((0 : Int32)) σ hw H locs ls hO (lv_sub hl [0, 1, 2, 3, 4, 5, 6, 7] rfl)
  · have hw := hw.2 hc
    refine lv_iconst (v := 1) hx hb dX8_addProduct_61 (by decide) ?_
    refine lv_goto (tgt := 66) hx hb dX8_addProduct_62 (by decide) ?_
    exact k_addProduct_66 C hr3 hr12 hr29 x1 x2 x3 x4 x6 x7 x8 (z0 + z1) ((1 : Int32)) σ hw H locs ls hO (lv_sub hl [0, 1, 2, 3, 4, 5, 6, 7] rfl)
set_option maxRecDepth 100000 in
set_option maxHeartbeats 4000000 in
theorem k_addProduct_45 {p : Program} {l : Launch} {e : Env} {s : State} {m : MethodId} {args : Array Value} {below : List Frame} {meth : Method} {c : Code} {D : va_G} {y : Nat → ClassId} {ad : Nat → Nat} {X : va_W} {A : Nat → Prop} {Q : mS → Prop} (C : mC p s m args meth c cX8_addProduct 13 none wsX8_addProduct D y A) {r3 : Int32 → Int32 → Int32 → Int64 → Int32 → mS → Prop} (hr3 : ∀ (x1 : Int32) (x2 : Int32) (x3 : Int32) (x4 : Int64) (x6 : Int32) (σ : mS), r3 x1 x2 x3 x4 x6 σ → ∀ (H : Heap) (locs : List Loc) (ls : Array Slot), mO D y ad X A s.heap H locs σ → lv_has ls 13 [(0, .ref (ad 0)), (1, .int x1), (2, .int x2), (3, .int x3), (4, .long x4), (6, .int x6)] → W p l e rX8_addProduct s m args below meth c H locs 0 0 (MQ below (va_Qv Q (mB D y ad X A) A) args s 0 0 A) (F0 m 3 ls [])) {r12 : Int32 → Int32 → Int32 → Int64 → Int32 → Int32 → mS → Prop} (hr12 : ∀ (x1 : Int32) (x2 : Int32) (x3 : Int32) (x4 : Int64) (x6 : Int32) (x7 : Int32) (σ : mS), r12 x1 x2 x3 x4 x6 x7 σ → ∀ (H : Heap) (locs : List Loc) (ls : Array Slot), mO D y ad X A s.heap H locs σ → lv_has ls 13 [(0, .ref (ad 0)), (1, .int x1), (2, .int x2), (3, .int x3), (4, .long x4), (6, .int x6), (7, .int x7)] → W p l e rX8_addProduct s m args below meth c H locs 0 0 (MQ below (va_Qv Q (mB D y ad X A) A) args s 0 0 A) (F0 m 12 ls [])) {r29 : Int32 → Int32 → Int32 → Int64 → Int32 → Int32 → Int32 → mS → Prop} (hr29 : ∀ (x1 : Int32) (x2 : Int32) (x3 : Int32) (x4 : Int64) (x6 : Int32) (x7 : Int32) (x8 : Int32) (σ : mS), r29 x1 x2 x3 x4 x6 x7 x8 σ → ∀ (H : Heap) (locs : List Loc) (ls : Array Slot), mO D y ad X A s.heap H locs σ → lv_has ls 13 [(0, .ref (ad 0)), (1, .int x1), (2, .int x2), (3, .int x3), (4, .long x4), (6, .int x6), (7, .int x7), (8, .int x8)] → W p l e rX8_addProduct s m args below meth c H locs 0 0 (MQ below (va_Qv Q (mB D y ad X A) A) args s 0 0 A) (F0 m 29 ls [])) (x1 : Int32) (x2 : Int32) (x3 : Int32) (x4 : Int64) (x6 : Int32) (x7 : Int32) (x8 : Int32) (z0 : Int32) (σ : mS) (hw : w_addProduct_45 Q r3 r12 r29 x1 x2 x3 x4 x6 x7 x8 z0 σ) (H : Heap) (locs : List Loc) (ls : Array Slot) (hO : mO D y ad X A s.heap H locs σ) (hl : lv_has ls 13 [(0, .ref (ad 0)), (1, .int x1), (2, .int x2), (3, .int x3), (4, .long x4), (6, .int x6), (7, .int x7), (8, .int x8)]) : W p l e rX8_addProduct s m args below meth c H locs 0 0 (MQ below (va_Qv Q (mB D y ad X A) A) args s 0 0 A) (F0 m 45 ls [.int z0]) := by
  obtain ⟨hx, hb, hr, hml, hown, hts, hlk, hK, hA⟩ := id C
  unfold w_addProduct_45 at hw
  refine lv_iload hx hb dX8_addProduct_45 (lv_at hl 6 rfl) ?_
  refine lv_if_ne (tgt := 54) hx hb dX8_addProduct_47 (by decide) (fun hc => ?_) (fun hc => ?_)
  · have hw := hw.1 hc
    refine lv_iconst (v := 0) hx hb dX8_addProduct_54 (by decide) ?_
    exact k_addProduct_55 C hr3 hr12 hr29 x1 x2 x3 x4 x6 x7 x8 z0 ((0 : Int32)) σ hw H locs ls hO (lv_sub hl [0, 1, 2, 3, 4, 5, 6, 7] rfl)
  · have hw := hw.2 hc
    refine lv_iconst (v := 1) hx hb dX8_addProduct_50 (by decide) ?_
    refine lv_goto (tgt := 55) hx hb dX8_addProduct_51 (by decide) ?_
    exact k_addProduct_55 C hr3 hr12 hr29 x1 x2 x3 x4 x6 x7 x8 z0 ((1 : Int32)) σ hw H locs ls hO (lv_sub hl [0, 1, 2, 3, 4, 5, 6, 7] rfl)
set_option maxRecDepth 100000 in
set_option maxHeartbeats 4000000 in
theorem k_addProduct_29 {p : Program} {l : Launch} {e : Env} {s : State} {m : MethodId} {args : Array Value} {below : List Frame} {meth : Method} {c : Code} {D : va_G} {y : Nat → ClassId} {ad : Nat → Nat} {X : va_W} {A : Nat → Prop} {Q : mS → Prop} (C : mC p s m args meth c cX8_addProduct 13 none wsX8_addProduct D y A) {r3 : Int32 → Int32 → Int32 → Int64 → Int32 → mS → Prop} (hr3 : ∀ (x1 : Int32) (x2 : Int32) (x3 : Int32) (x4 : Int64) (x6 : Int32) (σ : mS), r3 x1 x2 x3 x4 x6 σ → ∀ (H : Heap) (locs : List Loc) (ls : Array Slot), mO D y ad X A s.heap H locs σ → lv_has ls 13 [(0, .ref (ad 0)), (1, .int x1), (2, .int x2), (3, .int x3), (4, .long x4), (6, .int x6)] → W p l e rX8_addProduct s m args below meth c H locs 0 0 (MQ below (va_Qv Q (mB D y ad X A) A) args s 0 0 A) (F0 m 3 ls [])) {r12 : Int32 → Int32 → Int32 → Int64 → Int32 → Int32 → mS → Prop} (hr12 : ∀ (x1 : Int32) (x2 : Int32) (x3 : Int32) (x4 : Int64) (x6 : Int32) (x7 : Int32) (σ : mS), r12 x1 x2 x3 x4 x6 x7 σ → ∀ (H : Heap) (locs : List Loc) (ls : Array Slot), mO D y ad X A s.heap H locs σ → lv_has ls 13 [(0, .ref (ad 0)), (1, .int x1), (2, .int x2), (3, .int x3), (4, .long x4), (6, .int x6), (7, .int x7)] → W p l e rX8_addProduct s m args below meth c H locs 0 0 (MQ below (va_Qv Q (mB D y ad X A) A) args s 0 0 A) (F0 m 12 ls [])) (n : Nat) : ∀ (x1 : Int32) (x2 : Int32) (x3 : Int32) (x4 : Int64) (x6 : Int32) (x7 : Int32) (x8 : Int32) (σ : mS), w_addProduct_29 Q r3 r12 n x1 x2 x3 x4 x6 x7 x8 σ → ∀ (H : Heap) (locs : List Loc) (ls : Array Slot), mO D y ad X A s.heap H locs σ → lv_has ls 13 [(0, .ref (ad 0)), (1, .int x1), (2, .int x2), (3, .int x3), (4, .long x4), (6, .int x6), (7, .int x7), (8, .int x8)] → W p l e rX8_addProduct s m args below meth c H locs 0 0 (MQ below (va_Qv Q (mB D y ad X A) A) args s 0 0 A) (F0 m 29 ls []) := by
  obtain ⟨hx, hb, hr, hml, hown, hts, hlk, hK, hA⟩ := id C
  induction n with
  | zero =>
    intro x1 x2 x3 x4 x6 x7 x8 σ hw
    exact (show False from hw).elim
  | succ n ih =>
    intro x1 x2 x3 x4 x6 x7 x8 σ hw H locs ls hO hl
    unfold w_addProduct_29 at hw
    refine lv_iload hx hb dX8_addProduct_29 (lv_at hl 7 rfl) ?_
    refine lv_iconst (v := 3) hx hb dX8_addProduct_31 (by decide) ?_
    refine lv_icmp_ge (tgt := 171) hx hb dX8_addProduct_32 (by decide) (fun hc => ?_) (fun hc => ?_)
    · have hw := hw.1 hc
      obtain ⟨x7_101, ex7_101⟩ : ∃ y : Int32, y = x7 + 1 := ⟨_, rfl⟩
      have hw := hw x7_101 ex7_101
      refine lv_iinc (v := x7_101) (lv' := [(7, .int x7_101), (0, .ref (ad 0)), (1, .int x1), (2, .int x2), (3, .int x3), (4, .long x4), (6, .int x6), (8, .int x8)]) hx hb dX8_addProduct_171 hl (k := 6) rfl (by rw [ex7_101]; rfl) (by decide) rfl (fun ls hl => ?_)
      refine lv_goto (tgt := 12) hx hb dX8_addProduct_174 (by decide) ?_
      exact hr12 x1 x2 x3 x4 x6 x7_101 σ hw H locs ls hO (lv_sub hl [1, 2, 3, 4, 5, 6, 0] rfl)
    · have hw := hw.2 hc
      refine lv_iload hx hb dX8_addProduct_35 (lv_at hl 5 rfl) ?_
      refine lv_if_ne (tgt := 44) hx hb dX8_addProduct_37 (by decide) (fun hc => ?_) (fun hc => ?_)
      · have hw := hw.1 hc
        refine lv_iconst (v := 0) hx hb dX8_addProduct_44 (by decide) ?_
        exact k_addProduct_45 C hr3 hr12 (fun x1 x2 x3 x4 x6 x7 x8 σ hw H locs ls hO hl => ih x1 x2 x3 x4 x6 x7 x8 σ hw H locs ls hO hl) x1 x2 x3 x4 x6 x7 x8 ((0 : Int32)) σ hw H locs ls hO (lv_sub hl [0, 1, 2, 3, 4, 5, 6, 7] rfl)
      · have hw := hw.2 hc
        refine lv_iconst (v := 1) hx hb dX8_addProduct_40 (by decide) ?_
        refine lv_goto (tgt := 45) hx hb dX8_addProduct_41 (by decide) ?_
        exact k_addProduct_45 C hr3 hr12 (fun x1 x2 x3 x4 x6 x7 x8 σ hw H locs ls hO hl => ih x1 x2 x3 x4 x6 x7 x8 σ hw H locs ls hO hl) x1 x2 x3 x4 x6 x7 x8 ((1 : Int32)) σ hw H locs ls hO (lv_sub hl [0, 1, 2, 3, 4, 5, 6, 7] rfl)
set_option maxRecDepth 100000 in
set_option maxHeartbeats 4000000 in
theorem k_addProduct_27 {p : Program} {l : Launch} {e : Env} {s : State} {m : MethodId} {args : Array Value} {below : List Frame} {meth : Method} {c : Code} {D : va_G} {y : Nat → ClassId} {ad : Nat → Nat} {X : va_W} {A : Nat → Prop} {Q : mS → Prop} (C : mC p s m args meth c cX8_addProduct 13 none wsX8_addProduct D y A) {r3 : Int32 → Int32 → Int32 → Int64 → Int32 → mS → Prop} (hr3 : ∀ (x1 : Int32) (x2 : Int32) (x3 : Int32) (x4 : Int64) (x6 : Int32) (σ : mS), r3 x1 x2 x3 x4 x6 σ → ∀ (H : Heap) (locs : List Loc) (ls : Array Slot), mO D y ad X A s.heap H locs σ → lv_has ls 13 [(0, .ref (ad 0)), (1, .int x1), (2, .int x2), (3, .int x3), (4, .long x4), (6, .int x6)] → W p l e rX8_addProduct s m args below meth c H locs 0 0 (MQ below (va_Qv Q (mB D y ad X A) A) args s 0 0 A) (F0 m 3 ls [])) {r12 : Int32 → Int32 → Int32 → Int64 → Int32 → Int32 → mS → Prop} (hr12 : ∀ (x1 : Int32) (x2 : Int32) (x3 : Int32) (x4 : Int64) (x6 : Int32) (x7 : Int32) (σ : mS), r12 x1 x2 x3 x4 x6 x7 σ → ∀ (H : Heap) (locs : List Loc) (ls : Array Slot), mO D y ad X A s.heap H locs σ → lv_has ls 13 [(0, .ref (ad 0)), (1, .int x1), (2, .int x2), (3, .int x3), (4, .long x4), (6, .int x6), (7, .int x7)] → W p l e rX8_addProduct s m args below meth c H locs 0 0 (MQ below (va_Qv Q (mB D y ad X A) A) args s 0 0 A) (F0 m 12 ls [])) (x1 : Int32) (x2 : Int32) (x3 : Int32) (x4 : Int64) (x6 : Int32) (x7 : Int32) (z0 : Int32) (σ : mS) (hw : w_addProduct_27 Q r3 r12 x1 x2 x3 x4 x6 x7 z0 σ) (H : Heap) (locs : List Loc) (ls : Array Slot) (hO : mO D y ad X A s.heap H locs σ) (hl : lv_has ls 13 [(0, .ref (ad 0)), (1, .int x1), (2, .int x2), (3, .int x3), (4, .long x4), (6, .int x6), (7, .int x7)]) : W p l e rX8_addProduct s m args below meth c H locs 0 0 (MQ below (va_Qv Q (mB D y ad X A) A) args s 0 0 A) (F0 m 27 ls [.int z0]) := by
  obtain ⟨hx, hb, hr, hml, hown, hts, hlk, hK, hA⟩ := id C
  unfold w_addProduct_27 at hw
  refine lv_istore (lv' := [(8, .int z0), (0, .ref (ad 0)), (1, .int x1), (2, .int x2), (3, .int x3), (4, .long x4), (6, .int x6), (7, .int x7)]) hx hb dX8_addProduct_27 hl (by decide) rfl (fun ls hl => ?_)
  exact k_addProduct_29 C hr3 hr12 fuL x1 x2 x3 x4 x6 x7 z0 σ hw H locs ls hO (lv_sub hl [1, 2, 3, 4, 5, 6, 7, 0] rfl)
set_option maxRecDepth 100000 in
set_option maxHeartbeats 4000000 in
theorem k_addProduct_12 {p : Program} {l : Launch} {e : Env} {s : State} {m : MethodId} {args : Array Value} {below : List Frame} {meth : Method} {c : Code} {D : va_G} {y : Nat → ClassId} {ad : Nat → Nat} {X : va_W} {A : Nat → Prop} {Q : mS → Prop} (C : mC p s m args meth c cX8_addProduct 13 none wsX8_addProduct D y A) {r3 : Int32 → Int32 → Int32 → Int64 → Int32 → mS → Prop} (hr3 : ∀ (x1 : Int32) (x2 : Int32) (x3 : Int32) (x4 : Int64) (x6 : Int32) (σ : mS), r3 x1 x2 x3 x4 x6 σ → ∀ (H : Heap) (locs : List Loc) (ls : Array Slot), mO D y ad X A s.heap H locs σ → lv_has ls 13 [(0, .ref (ad 0)), (1, .int x1), (2, .int x2), (3, .int x3), (4, .long x4), (6, .int x6)] → W p l e rX8_addProduct s m args below meth c H locs 0 0 (MQ below (va_Qv Q (mB D y ad X A) A) args s 0 0 A) (F0 m 3 ls [])) (n : Nat) : ∀ (x1 : Int32) (x2 : Int32) (x3 : Int32) (x4 : Int64) (x6 : Int32) (x7 : Int32) (σ : mS), w_addProduct_12 Q r3 n x1 x2 x3 x4 x6 x7 σ → ∀ (H : Heap) (locs : List Loc) (ls : Array Slot), mO D y ad X A s.heap H locs σ → lv_has ls 13 [(0, .ref (ad 0)), (1, .int x1), (2, .int x2), (3, .int x3), (4, .long x4), (6, .int x6), (7, .int x7)] → W p l e rX8_addProduct s m args below meth c H locs 0 0 (MQ below (va_Qv Q (mB D y ad X A) A) args s 0 0 A) (F0 m 12 ls []) := by
  obtain ⟨hx, hb, hr, hml, hown, hts, hlk, hK, hA⟩ := id C
  induction n with
  | zero =>
    intro x1 x2 x3 x4 x6 x7 σ hw
    exact (show False from hw).elim
  | succ n ih =>
    intro x1 x2 x3 x4 x6 x7 σ hw H locs ls hO hl
    unfold w_addProduct_12 at hw
    refine lv_iload hx hb dX8_addProduct_12 (lv_at hl 6 rfl) ?_
    refine lv_iconst (v := 3) hx hb dX8_addProduct_14 (by decide) ?_
    refine lv_icmp_ge (tgt := 177) hx hb dX8_addProduct_15 (by decide) (fun hc => ?_) (fun hc => ?_)
    · have hw := hw.1 hc
      obtain ⟨x6_101, ex6_101⟩ : ∃ y : Int32, y = x6 + 1 := ⟨_, rfl⟩
      have hw := hw x6_101 ex6_101
      refine lv_iinc (v := x6_101) (lv' := [(6, .int x6_101), (0, .ref (ad 0)), (1, .int x1), (2, .int x2), (3, .int x3), (4, .long x4), (7, .int x7)]) hx hb dX8_addProduct_177 hl (k := 5) rfl (by rw [ex6_101]; rfl) (by decide) rfl (fun ls hl => ?_)
      refine lv_goto (tgt := 3) hx hb dX8_addProduct_180 (by decide) ?_
      exact hr3 x1 x2 x3 x4 x6_101 σ hw H locs ls hO (lv_sub hl [1, 2, 3, 4, 5, 0] rfl)
    · have hw := hw.2 hc
      refine lv_iload_n hx hb dX8_addProduct_18 rfl (lv_at hl 3 rfl) ?_
      refine lv_if_ge (tgt := 26) hx hb dX8_addProduct_19 (by decide) (fun hc => ?_) (fun hc => ?_)
      · have hw := hw.1 hc
        refine lv_iconst (v := 0) hx hb dX8_addProduct_26 (by decide) ?_
        exact k_addProduct_27 C hr3 (fun x1 x2 x3 x4 x6 x7 σ hw H locs ls hO hl => ih x1 x2 x3 x4 x6 x7 σ hw H locs ls hO hl) x1 x2 x3 x4 x6 x7 ((0 : Int32)) σ hw H locs ls hO (lv_sub hl [0, 1, 2, 3, 4, 5, 6] rfl)
      · have hw := hw.2 hc
        refine lv_iconst (v := 2) hx hb dX8_addProduct_22 (by decide) ?_
        refine lv_goto (tgt := 27) hx hb dX8_addProduct_23 (by decide) ?_
        exact k_addProduct_27 C hr3 (fun x1 x2 x3 x4 x6 x7 σ hw H locs ls hO hl => ih x1 x2 x3 x4 x6 x7 σ hw H locs ls hO hl) x1 x2 x3 x4 x6 x7 ((2 : Int32)) σ hw H locs ls hO (lv_sub hl [0, 1, 2, 3, 4, 5, 6] rfl)
set_option maxRecDepth 100000 in
set_option maxHeartbeats 4000000 in
theorem k_addProduct_3 {p : Program} {l : Launch} {e : Env} {s : State} {m : MethodId} {args : Array Value} {below : List Frame} {meth : Method} {c : Code} {D : va_G} {y : Nat → ClassId} {ad : Nat → Nat} {X : va_W} {A : Nat → Prop} {Q : mS → Prop} (C : mC p s m args meth c cX8_addProduct 13 none wsX8_addProduct D y A) (n : Nat) : ∀ (x1 : Int32) (x2 : Int32) (x3 : Int32) (x4 : Int64) (x6 : Int32) (σ : mS), w_addProduct_3 Q n x1 x2 x3 x4 x6 σ → ∀ (H : Heap) (locs : List Loc) (ls : Array Slot), mO D y ad X A s.heap H locs σ → lv_has ls 13 [(0, .ref (ad 0)), (1, .int x1), (2, .int x2), (3, .int x3), (4, .long x4), (6, .int x6)] → W p l e rX8_addProduct s m args below meth c H locs 0 0 (MQ below (va_Qv Q (mB D y ad X A) A) args s 0 0 A) (F0 m 3 ls []) := by
  obtain ⟨hx, hb, hr, hml, hown, hts, hlk, hK, hA⟩ := id C
  induction n with
  | zero =>
    intro x1 x2 x3 x4 x6 σ hw
    exact (show False from hw).elim
  | succ n ih =>
    intro x1 x2 x3 x4 x6 σ hw H locs ls hO hl
    unfold w_addProduct_3 at hw
    refine lv_iload hx hb dX8_addProduct_3 (lv_at hl 5 rfl) ?_
    refine lv_iconst (v := 3) hx hb dX8_addProduct_5 (by decide) ?_
    refine lv_icmp_ge (tgt := 183) hx hb dX8_addProduct_6 (by decide) (fun hc => ?_) (fun hc => ?_)
    · have hw := hw.1 hc
      exact mx_vret C hO hw dX8_addProduct_183
    · have hw := hw.2 hc
      refine lv_iconst (v := 0) hx hb dX8_addProduct_9 (by decide) ?_
      refine lv_istore (lv' := [(7, .int ((0 : Int32))), (0, .ref (ad 0)), (1, .int x1), (2, .int x2), (3, .int x3), (4, .long x4), (6, .int x6)]) hx hb dX8_addProduct_10 hl (by decide) rfl (fun ls hl => ?_)
      exact k_addProduct_12 C (fun x1 x2 x3 x4 x6 σ hw H locs ls hO hl => ih x1 x2 x3 x4 x6 σ hw H locs ls hO hl) fuL x1 x2 x3 x4 x6 ((0 : Int32)) σ hw H locs ls hO (lv_sub hl [1, 2, 3, 4, 5, 6, 0] rfl)
set_option maxRecDepth 100000 in
set_option maxHeartbeats 4000000 in
theorem k_addProduct_e {p : Program} {l : Launch} {e : Env} {s : State} {m : MethodId} {args : Array Value} {below : List Frame} {meth : Method} {c : Code} {D : va_G} {y : Nat → ClassId} {ad : Nat → Nat} {X : va_W} {A : Nat → Prop} {Q : mS → Prop} (C : mC p s m args meth c cX8_addProduct 13 none wsX8_addProduct D y A) (x1 : Int32) (x2 : Int32) (x3 : Int32) (x4 : Int64) (σ : mS) (hw : w_addProduct Q x1 x2 x3 x4 σ) (H : Heap) (locs : List Loc) (ls : Array Slot) (hO : mO D y ad X A s.heap H locs σ) (hl : lv_has ls 13 [(0, .ref (ad 0)), (1, .int x1), (2, .int x2), (3, .int x3), (4, .long x4)]) : W p l e rX8_addProduct s m args below meth c H locs 0 0 (MQ below (va_Qv Q (mB D y ad X A) A) args s 0 0 A) (F0 m 0 ls []) := by
  obtain ⟨hx, hb, hr, hml, hown, hts, hlk, hK, hA⟩ := id C
  unfold w_addProduct at hw
  refine lv_iconst (v := 0) hx hb dX8_addProduct_0 (by decide) ?_
  refine lv_istore (lv' := [(6, .int ((0 : Int32))), (0, .ref (ad 0)), (1, .int x1), (2, .int x2), (3, .int x3), (4, .long x4)]) hx hb dX8_addProduct_1 hl (by decide) rfl (fun ls hl => ?_)
  exact k_addProduct_3 C fuL x1 x2 x3 x4 ((0 : Int32)) σ hw H locs ls hO (lv_sub hl [1, 2, 3, 4, 5, 0] rfl)
theorem c_addProduct (l : Launch) (D : va_G) (y : Nat → ClassId) (ad : Nat → Nat) (X : va_W) (σ : mS) (x1 : Int32) (x2 : Int32) (x3 : Int32) (x4 : Int64) (Q : mS → Prop) (hw : w_addProduct Q x1 x2 x3 x4 σ) : ∀ sz, Met l yX8_addProduct wsX8_addProduct rX8_addProduct (va_Pc [.ref (ad 0), .int x1, .int x2, .int x3, .long x4] (mPre D y ad X sz σ)) (va_Qv Q (mB D y ad X (va_A (mW y ad σ ++ X) sz)) (va_A (mW y ad σ ++ X) sz)) 0 0 (va_A (mW y ad σ ++ X) sz) :=
  mMet (Qc := fun A => va_Qv Q (mB D y ad X A) A) rfl (Nat.le_of_ble_eq_true rfl) (fun p e s m args below meth c A ls C hO hl => k_addProduct_e C x1 x2 x3 x4 σ hw s.heap [] ls hO hl)
