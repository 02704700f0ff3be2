/-! the class: what each method does, and the walk of its bytecode (written by wip/tools/cgen.py) -/
abbrev rc_X1_divide : Room := { frames := 1, cells := 0, slots := 0, locals := 26 }
set_option maxRecDepth 100000 in
set_option maxHeartbeats 4000000 in
theorem kc_X1_divide_23 {p : Program} {l : Launch} {e : Env} {s : State} {m : MethodId} {args : Array Value} {below : List Frame} {meth : Method} {c : Code} {D : va_G} {y : Nat → ClassId} {ad t : Nat → Nat} {X : va_W} {A : Nat → Prop} {Q : cS → Prop} (C : cC p s m args meth c cX1_divide 6 none RX1 wsX1_divide D y t A) {r1 : Nat} (ha_r1 : cJ r1 = true)  (σ : cS) (hw : v_X1_divide_23 Q r1 σ) (H : Heap) (locs : List Loc) (ls : Array Slot) (hO : cO D y ad X A s.heap H locs σ) (hl : lv_has ls 6 [(0, .ref (ad 5))]) : W p l e rc_X1_divide s m args below meth c H locs 0 0 (MQ below (va_Qv Q (cB D y ad X A) A) args s 0 0 A) (F0 m 23 ls []) := by
  obtain ⟨hx, hb, hr, hml, hown, hts, hlk, hK, hA, hTs, hNw⟩ := id C
  unfold v_X1_divide_23 at hw
  exact cx_vret C hO hw dX1_divide_23
set_option maxRecDepth 100000 in
set_option maxHeartbeats 4000000 in
theorem kc_X1_divide_67 {p : Program} {l : Launch} {e : Env} {s : State} {m : MethodId} {args : Array Value} {below : List Frame} {meth : Method} {c : Code} {D : va_G} {y : Nat → ClassId} {ad t : Nat → Nat} {X : va_W} {A : Nat → Prop} {Q : cS → Prop} (C : cC p s m args meth c cX1_divide 6 none RX1 wsX1_divide D y t A) {r1 : Nat} (ha_r1 : cJ r1 = true) {r37 : Int32 → Int32 → Int32 → cS → Prop} (hr37 : ∀ (x2 : Int32) (x3 : Int32) (x4 : Int32) (σ : cS), r37 x2 x3 x4 σ → ∀ (H : Heap) (locs : List Loc) (ls : Array Slot), cO D y ad X A s.heap H locs σ → lv_has ls 6 [(0, .ref (ad 5)), (1, .ref (ad r1)), (2, .int x2), (3, .int x3), (4, .int x4)] → W p l e rc_X1_divide s m args below meth c H locs 0 0 (MQ below (va_Qv Q (cB D y ad X A) A) args s 0 0 A) (F0 m 37 ls [])) (n : Nat) : ∀ (x2 : Int32) (x3 : Int32) (x4 : Int32) (x5 : Int32) (σ : cS), v_X1_divide_67 Q r1 r37 n x2 x3 x4 x5 σ → ∀ (H : Heap) (locs : List Loc) (ls : Array Slot), cO D y ad X A s.heap H locs σ → lv_has ls 6 [(0, .ref (ad 5)), (1, .ref (ad r1)), (2, .int x2), (3, .int x3), (4, .int x4), (5, .int x5)] → W p l e rc_X1_divide s m args below meth c H locs 0 0 (MQ below (va_Qv Q (cB D y ad X A) A) args s 0 0 A) (F0 m 67 ls []) := by
  obtain ⟨hx, hb, hr, hml, hown, hts, hlk, hK, hA, hTs, hNw⟩ := id C
  have hinX1 : ∀ w ∈ wsX10, w ∈ wsX1_divide := fun _ h => List.mem_cons_of_mem _ (List.mem_append_right _ h)
  induction n with
  | zero =>
    intro x2 x3 x4 x5 σ hw
    exact (show False from hw).elim
  | succ n ih =>
    intro x2 x3 x4 x5 σ hw H locs ls hO hl
    unfold v_X1_divide_67 at hw
    refine lv_iload hx hb dX1_divide_67 (lv_at hl 5 rfl) ?_
    refine lv_iload_n hx hb dX1_divide_69 rfl (lv_at hl 3 rfl) ?_
    refine lv_icmp_gt (tgt := 106) hx hb dX1_divide_70 (by decide) (fun hc => ?_) (fun hc => ?_)
    · have hw := hw.1 hc
      obtain ⟨x4_101, ex4_101⟩ : ∃ y : Int32, y = x4 + (-1) := ⟨_, rfl⟩
      have hw := hw x4_101 ex4_101
      refine lv_iinc (v := x4_101) (lv' := [(4, .int x4_101), (0, .ref (ad 5)), (1, .ref (ad r1)), (2, .int x2), (3, .int x3), (5, .int x5)]) hx hb dX1_divide_106 hl (k := 4) rfl (by rw [ex4_101]; rfl) (by decide) rfl (fun ls hl => ?_)
      refine lv_goto (tgt := 37) hx hb dX1_divide_109 (by decide) ?_
      exact hr37 x2 x3 x4_101 σ hw H locs ls hO (lv_sub hl [1, 2, 3, 4, 0] rfl)
    · have hw := hw.2 hc
      refine lv_aload_n hx hb dX1_divide_73 rfl (lv_at hl 1 rfl) ?_
      refine lv_iload_n hx hb dX1_divide_74 rfl (lv_at hl 2 rfl) ?_
      refine lv_iload hx hb dX1_divide_75 (lv_at hl 4 rfl) ?_
      refine lv_iadd hx hb dX1_divide_77 ?_
      refine lv_iload hx hb dX1_divide_78 (lv_at hl 5 rfl) ?_
      refine lv_iadd hx hb dX1_divide_80 ?_
      refine lv_dup2_11 hx hb dX1_divide_81 rfl rfl ?_
      refine cx_lald C hO (a := r1) ha_r1 hw.1 dX1_divide_82 ?_
      have hw := hw.2
      refine lv_aload_n hx hb dX1_divide_83 rfl (lv_at hl 0 rfl) ?_
      refine cx_get C hO (by decide) rfl rfl hinX1 2 (by decide) (idx := 18) (by decide +kernel) rfl rfl dX1_divide_84 ?_
      refine lv_iload hx hb dX1_divide_87 (lv_at hl 4 rfl) ?_
      refine cx_lald C hO (a := 8) rfl hw.1 dX1_divide_89 ?_
      have hw := hw.2
      refine lv_aload_n hx hb dX1_divide_90 rfl (lv_at hl 0 rfl) ?_
      refine cx_get C hO (by decide) rfl rfl hinX1 0 (by decide) (idx := 9) (by decide +kernel) rfl rfl dX1_divide_91 ?_
      have hj102 := hw.1
      have hw := hw.2
      refine lv_iload hx hb dX1_divide_94 (lv_at hl 5 rfl) ?_
      refine cx_lald C hO (a := (σ.2.2.2 0)) hj102 hw.1 dX1_divide_96 ?_
      have hw := hw.2
      refine lv_lmul hx hb dX1_divide_97 ?_
      refine lv_lsub hx hb dX1_divide_98 ?_
      refine cx_last C hO (a := r1) ha_r1 hw.1 dX1_divide_99 (fun H locs σ103 eσ103 hO => ?_)
      have hw := hw.2 σ103 eσ103
      obtain ⟨x5_104, ex5_104⟩ : ∃ y : Int32, y = x5 + 1 := ⟨_, rfl⟩
      have hw := hw x5_104 ex5_104
      refine lv_iinc (v := x5_104) (lv' := [(5, .int x5_104), (0, .ref (ad 5)), (1, .ref (ad r1)), (2, .int x2), (3, .int x3), (4, .int x4)]) hx hb dX1_divide_100 hl (k := 5) rfl (by rw [ex5_104]; rfl) (by decide) rfl (fun ls hl => ?_)
      refine lv_goto (tgt := 67) hx hb dX1_divide_103 (by decide) ?_
      exact ih x2 x3 x4 x5_104 σ103 hw H locs ls hO (lv_sub hl [1, 2, 3, 4, 5, 0] rfl)
set_option maxRecDepth 100000 in
set_option maxHeartbeats 4000000 in
theorem kc_X1_divide_37 {p : Program} {l : Launch} {e : Env} {s : State} {m : MethodId} {args : Array Value} {below : List Frame} {meth : Method} {c : Code} {D : va_G} {y : Nat → ClassId} {ad t : Nat → Nat} {X : va_W} {A : Nat → Prop} {Q : cS → Prop} (C : cC p s m args meth c cX1_divide 6 none RX1 wsX1_divide D y t A) {r1 : Nat} (ha_r1 : cJ r1 = true) (n : Nat) : ∀ (x2 : Int32) (x3 : Int32) (x4 : Int32) (σ : cS), v_X1_divide_37 Q r1 n x2 x3 x4 σ → ∀ (H : Heap) (locs : List Loc) (ls : Array Slot), cO D y ad X A s.heap H locs σ → lv_has ls 6 [(0, .ref (ad 5)), (1, .ref (ad r1)), (2, .int x2), (3, .int x3), (4, .int x4)] → W p l e rc_X1_divide s m args below meth c H locs 0 0 (MQ below (va_Qv Q (cB D y ad X A) A) args s 0 0 A) (F0 m 37 ls []) := by
  obtain ⟨hx, hb, hr, hml, hown, hts, hlk, hK, hA, hTs, hNw⟩ := id C
  have hinX1 : ∀ w ∈ wsX10, w ∈ wsX1_divide := fun _ h => List.mem_cons_of_mem _ (List.mem_append_right _ h)
  induction n with
  | zero =>
    intro x2 x3 x4 σ hw
    exact (show False from hw).elim
  | succ n ih =>
    intro x2 x3 x4 σ hw H locs ls hO hl
    unfold v_X1_divide_37 at hw
    refine lv_iload hx hb dX1_divide_37 (lv_at hl 4 rfl) ?_
    refine lv_if_lt (tgt := 112) hx hb dX1_divide_39 (by decide) (fun hc => ?_) (fun hc => ?_)
    · have hw := hw.1 hc
      refine lv_aload_n hx hb dX1_divide_112 rfl (lv_at hl 0 rfl) ?_
      refine cx_get C hO (by decide) rfl rfl hinX1 2 (by decide) (idx := 18) (by decide +kernel) rfl rfl dX1_divide_113 ?_
      refine lv_iconst (v := 0) hx hb dX1_divide_116 (by decide) ?_
      refine lv_aload_n hx hb dX1_divide_117 rfl (lv_at hl 1 rfl) ?_
      refine lv_iload_n hx hb dX1_divide_118 rfl (lv_at hl 2 rfl) ?_
      refine lv_iconst (v := 4) hx hb dX1_divide_119 (by decide) ?_
      refine cx_copy C hO (a0 := 8) (a := r1) rfl ha_r1 (by decide +kernel) hw.1.1 hw.1.2.1 hw.1.2.2.1 hw.1.2.2.2.1 hw.1.2.2.2.2 (Nat.le_of_ble_eq_true rfl) (Nat.le_of_ble_eq_true rfl) hl.1 dX1_divide_120 (fun H locs σ101 eσ101 hO => ?_)
      have hw := hw.2 σ101 eσ101
      exact cx_vret C hO hw dX1_divide_123
    · have hw := hw.2 hc
      refine lv_aload_n hx hb dX1_divide_42 rfl (lv_at hl 0 rfl) ?_
      refine cx_get C hO (by decide) rfl rfl hinX1 2 (by decide) (idx := 18) (by decide +kernel) rfl rfl dX1_divide_43 ?_
      refine lv_iload hx hb dX1_divide_46 (lv_at hl 4 rfl) ?_
      refine lv_aload_n hx hb dX1_divide_48 rfl (lv_at hl 1 rfl) ?_
      refine lv_iload_n hx hb dX1_divide_49 rfl (lv_at hl 2 rfl) ?_
      refine lv_iload_n hx hb dX1_divide_50 rfl (lv_at hl 3 rfl) ?_
      refine lv_iadd hx hb dX1_divide_51 ?_
      refine lv_iload hx hb dX1_divide_52 (lv_at hl 4 rfl) ?_
      refine lv_iadd hx hb dX1_divide_54 ?_
      refine cx_lald C hO (a := r1) ha_r1 hw.1 dX1_divide_55 ?_
      have hw := hw.2
      refine lv_aload_n hx hb dX1_divide_56 rfl (lv_at hl 0 rfl) ?_
      refine cx_get C hO (by decide) rfl rfl hinX1 0 (by decide) (idx := 9) (by decide +kernel) rfl rfl dX1_divide_57 ?_
      have hj102 := hw.1
      have hw := hw.2
      refine lv_iload_n hx hb dX1_divide_60 rfl (lv_at hl 3 rfl) ?_
      refine cx_lald C hO (a := (σ.2.2.2 0)) hj102 hw.1 dX1_divide_61 ?_
      have hw := hw.2
      refine lv_ldiv hx hb dX1_divide_62 hw.1 ?_
      have hw := hw.2
      refine cx_last C hO (a := 8) rfl hw.1 dX1_divide_63 (fun H locs σ103 eσ103 hO => ?_)
      have hw := hw.2 σ103 eσ103
      refine lv_iconst (v := 0) hx hb dX1_divide_64 (by decide) ?_
      refine lv_istore (lv' := [(5, .int ((0 : Int32))), (0, .ref (ad 5)), (1, .ref (ad r1)), (2, .int x2), (3, .int x3), (4, .int x4)]) hx hb dX1_divide_65 hl (by decide) rfl (fun ls hl => ?_)
      exact kc_X1_divide_67 C ha_r1 ih fuL x2 x3 x4 ((0 : Int32)) σ103 hw H locs ls hO (lv_sub hl [1, 2, 3, 4, 5, 0] rfl)
set_option maxRecDepth 100000 in
set_option maxHeartbeats 4000000 in
theorem kc_X1_divide_e {p : Program} {l : Launch} {e : Env} {s : State} {m : MethodId} {args : Array Value} {below : List Frame} {meth : Method} {c : Code} {D : va_G} {y : Nat → ClassId} {ad t : Nat → Nat} {X : va_W} {A : Nat → Prop} {Q : cS → Prop} (C : cC p s m args meth c cX1_divide 6 none RX1 wsX1_divide D y t A) {r1 : Nat} (ha_r1 : cJ r1 = true) (x2 : Int32) (σ : cS) (hw : v_X1_divide Q r1 x2 σ) (H : Heap) (locs : List Loc) (ls : Array Slot) (hO : cO D y ad X A s.heap H locs σ) (hl : lv_has ls 6 [(0, .ref (ad 5)), (1, .ref (ad r1)), (2, .int x2)]) : W p l e rc_X1_divide s m args below meth c H locs 0 0 (MQ below (va_Qv Q (cB D y ad X A) A) args s 0 0 A) (F0 m 0 ls []) := by
  obtain ⟨hx, hb, hr, hml, hown, hts, hlk, hK, hA, hTs, hNw⟩ := id C
  have hinX1 : ∀ w ∈ wsX10, w ∈ wsX1_divide := fun _ h => List.mem_cons_of_mem _ (List.mem_append_right _ h)
  unfold v_X1_divide at hw
  refine lv_aload_n hx hb dX1_divide_0 rfl (lv_at hl 0 rfl) ?_
  refine cx_get C hO (by decide) rfl rfl hinX1 0 (by decide) (idx := 9) (by decide +kernel) rfl rfl dX1_divide_1 ?_
  have hj101 := hw.1
  have hw := hw.2
  refine cx_cis C hO (cc_X6_last l D y ad t X σ (σ.2.2.2 0) hj101 _ hw) (va_cwS 1 hts gX1_divide_X6_last rfl rfl rfl (by decide +kernel) ⟨Nat.le_of_ble_eq_true rfl, Nat.le_of_ble_eq_true rfl⟩) rfl hl.1 rfl (lv_room (Nat.le_of_ble_eq_true rfl)) dX1_divide_4 (fun u102 σ103 H locs hw hO => ?_)
  refine lv_istore_n (lv' := [(3, .int u102), (0, .ref (ad 5)), (1, .ref (ad r1)), (2, .int x2)]) hx hb dX1_divide_7 rfl hl (by decide) rfl (fun ls hl => ?_)
  refine lv_iload_n hx hb dX1_divide_8 rfl (lv_at hl 0 rfl) ?_
  refine lv_if_lt (tgt := 23) hx hb dX1_divide_9 (by decide) (fun hc => ?_) (fun hc => ?_)
  · have hw := hw.1 hc
    exact kc_X1_divide_23 C ha_r1 σ103 hw H locs ls hO (lv_sub hl [1] rfl)
  · have hw := hw.2 hc
    refine lv_aload_n hx hb dX1_divide_12 rfl (lv_at hl 1 rfl) ?_
    refine cx_get C hO (by decide) rfl rfl hinX1 0 (by decide) (idx := 9) (by decide +kernel) rfl rfl dX1_divide_13 ?_
    have hj104 := hw.1
    have hw := hw.2
    refine lv_iload_n hx hb dX1_divide_16 rfl (lv_at hl 0 rfl) ?_
    refine cx_lald C hO (a := (σ103.2.2.2 0)) hj104 hw.1 dX1_divide_17 ?_
    have hw := hw.2
    refine lv_lconst (v := 0) hx hb dX1_divide_18 (by decide) ?_
    refine W.lcmp hx hb dX1_divide_19 ?_
    refine lv_if_ne (tgt := 24) hx hb dX1_divide_20 (by decide) (fun hc => ?_) (fun hc => ?_)
    · have hc := (not_congr (lg_cmp_eq _ _)).mp hc
      have hw := hw.1 hc
      refine lv_aload_n hx hb dX1_divide_24 rfl (lv_at hl 1 rfl) ?_
      refine cx_get C hO (by decide) rfl rfl hinX1 2 (by decide) (idx := 18) (by decide +kernel) rfl rfl dX1_divide_25 ?_
      refine lv_lconst (v := 0) hx hb dX1_divide_28 (by decide) ?_
      refine cx_cvs C hO (cc_J7_fill_d0a16 l D y ad t X σ103 8 (0 : Int64) rfl _ hw) (va_cwS 2 hts gX1_divide_J7_fill_d0a16 rfl rfl rfl (by decide +kernel) ⟨Nat.le_of_ble_eq_true rfl, Nat.le_of_ble_eq_true rfl⟩) rfl hl.1 rfl (lv_room (Nat.le_of_ble_eq_true rfl)) dX1_divide_29 (fun σ106 H locs hw hO => ?_)
      refine lv_iconst (v := 3) hx hb dX1_divide_32 (by decide) ?_
      refine lv_iload_n hx hb dX1_divide_33 rfl (lv_at hl 0 rfl) ?_
      refine lv_isub hx hb dX1_divide_34 ?_
      refine lv_topi (fun x4_107 ex4_107 => ?_)
      have hw := hw x4_107 ex4_107
      refine lv_istore (lv' := [(4, .int x4_107), (3, .int u102), (0, .ref (ad 5)), (1, .ref (ad r1)), (2, .int x2)]) hx hb dX1_divide_35 hl (by decide) rfl (fun ls hl => ?_)
      exact kc_X1_divide_37 C ha_r1 fuL x2 u102 x4_107 σ106 hw H locs ls hO (lv_sub hl [2, 3, 4, 1, 0] rfl)
    · have hc := (lg_cmp_eq _ _).mp hc
      have hw := hw.2 hc
      exact kc_X1_divide_23 C ha_r1 σ103 hw H locs ls hO (lv_sub hl [1] rfl)
theorem cc_X1_divide (l : Launch) (D : va_G) (y : Nat → ClassId) (ad t : Nat → Nat) (X : va_W) (σ : cS) (r1 : Nat) (x2 : Int32) (ha_r1 : cJ r1 = true) (Q : cS → Prop) (hw : v_X1_divide Q r1 x2 σ) : ∀ sz, Met l yX1_divide wsX1_divide rc_X1_divide (va_Pc [.ref (ad 5), .ref (ad r1), .int x2] (cPre D y ad t X sz σ)) (va_Qv Q (cB D y ad X (va_A (cW y ad σ ++ X) sz)) (va_A (cW y ad σ ++ X) sz)) 0 0 (va_A (cW y ad σ ++ X) sz) :=
  cMet (Qc := fun A => va_Qv Q (cB D y ad X A) A) (by decide) (own := RX1) rfl (Nat.le_of_ble_eq_true rfl) (fun p e s m args below meth c A ls C hO hl => kc_X1_divide_e C ha_r1 x2 σ hw s.heap [] ls hO hl)
abbrev rc_X6_turn : Room := { frames := 0, cells := 0, slots := 0, locals := 0 }
set_option maxRecDepth 100000 in
set_option maxHeartbeats 4000000 in
theorem kc_X6_turn_18 {p : Program} {l : Launch} {e : Env} {s : State} {m : MethodId} {args : Array Value} {below : List Frame} {meth : Method} {c : Code} {D : va_G} {y : Nat → ClassId} {ad t : Nat → Nat} {X : va_W} {A : Nat → Prop} {Q : cS → Prop} (C : cC p s m args meth c cX6_turn 3 none RX6 wsX6_turn D y t A) {r0 : Nat} (ha_r0 : cJ r0 = true)  (σ : cS) (hw : v_X6_turn_18 Q r0 σ) (H : Heap) (locs : List Loc) (ls : Array Slot) (hO : cO D y ad X A s.heap H locs σ) (hl : lv_has ls 3 []) : W p l e rc_X6_turn s m args below meth c H locs 0 0 (MQ below (va_Qv Q (cB D y ad X A) A) args s 0 0 A) (F0 m 18 ls []) := by
  obtain ⟨hx, hb, hr, hml, hown, hts, hlk, hK, hA, hTs, hNw⟩ := id C
  unfold v_X6_turn_18 at hw
  exact cx_vret C hO hw dX6_turn_18
set_option maxRecDepth 100000 in
set_option maxHeartbeats 4000000 in
theorem kc_X6_turn_21 {p : Program} {l : Launch} {e : Env} {s : State} {m : MethodId} {args : Array Value} {below : List Frame} {meth : Method} {c : Code} {D : va_G} {y : Nat → ClassId} {ad t : Nat → Nat} {X : va_W} {A : Nat → Prop} {Q : cS → Prop} (C : cC p s m args meth c cX6_turn 3 none RX6 wsX6_turn D y t A) {r0 : Nat} (ha_r0 : cJ r0 = true) (n : Nat) : ∀ (x2 : Int32) (σ : cS), v_X6_turn_21 Q r0 n x2 σ → ∀ (H : Heap) (locs : List Loc) (ls : Array Slot), cO D y ad X A s.heap H locs σ → lv_has ls 3 [(0, .ref (ad r0)), (2, .int x2)] → W p l e rc_X6_turn s m args below meth c H locs 0 0 (MQ below (va_Qv Q (cB D y ad X A) A) args s 0 0 A) (F0 m 21 ls []) := by
  obtain ⟨hx, hb, hr, hml, hown, hts, hlk, hK, hA, hTs, hNw⟩ := id C
  induction n with
  | zero =>
    intro x2 σ hw
    exact (show False from hw).elim
  | succ n ih =>
    intro x2 σ hw H locs ls hO hl
    unfold v_X6_turn_21 at hw
    refine lv_iload_n hx hb dX6_turn_21 rfl (lv_at hl 1 rfl) ?_
    refine lv_aload_n hx hb dX6_turn_22 rfl (lv_at hl 0 rfl) ?_
    refine cx_alen C hO (a := r0) ha_r0 dX6_turn_23 ?_
    refine lv_icmp_ge (tgt := 40) hx hb dX6_turn_24 (by decide) (fun hc => ?_) (fun hc => ?_)
    · have hw := hw.1 hc
      exact cx_vret C hO hw dX6_turn_40
    · have hw := hw.2 hc
      refine lv_aload_n hx hb dX6_turn_27 rfl (lv_at hl 0 rfl) ?_
      refine lv_iload_n hx hb dX6_turn_28 rfl (lv_at hl 1 rfl) ?_
      refine lv_aload_n hx hb dX6_turn_29 rfl (lv_at hl 0 rfl) ?_
      refine lv_iload_n hx hb dX6_turn_30 rfl (lv_at hl 1 rfl) ?_
      refine cx_lald C hO (a := r0) ha_r0 hw.1 dX6_turn_31 ?_
      have hw := hw.2
      refine lv_lneg hx hb dX6_turn_32 ?_
      refine cx_last C hO (a := r0) ha_r0 hw.1 dX6_turn_33 (fun H locs σ101 eσ101 hO => ?_)
      have hw := hw.2 σ101 eσ101
      obtain ⟨x2_102, ex2_102⟩ : ∃ y : Int32, y = x2 + 1 := ⟨_, rfl⟩
      have hw := hw x2_102 ex2_102
      refine lv_iinc (v := x2_102) (lv' := [(2, .int x2_102), (0, .ref (ad r0))]) hx hb dX6_turn_34 hl (k := 1) rfl (by rw [ex2_102]; rfl) (by decide) rfl (fun ls hl => ?_)
      refine lv_goto (tgt := 21) hx hb dX6_turn_37 (by decide) ?_
      exact ih x2_102 σ101 hw H locs ls hO (lv_sub hl [1, 0] rfl)
set_option maxRecDepth 100000 in
set_option maxHeartbeats 4000000 in
theorem kc_X6_turn_e {p : Program} {l : Launch} {e : Env} {s : State} {m : MethodId} {args : Array Value} {below : List Frame} {meth : Method} {c : Code} {D : va_G} {y : Nat → ClassId} {ad t : Nat → Nat} {X : va_W} {A : Nat → Prop} {Q : cS → Prop} (C : cC p s m args meth c cX6_turn 3 none RX6 wsX6_turn D y t A) {r0 : Nat} (ha_r0 : cJ r0 = true) (x1 : Int32) (σ : cS) (hw : v_X6_turn Q r0 x1 σ) (H : Heap) (locs : List Loc) (ls : Array Slot) (hO : cO D y ad X A s.heap H locs σ) (hl : lv_has ls 3 [(0, .ref (ad r0)), (1, .int x1)]) : W p l e rc_X6_turn s m args below meth c H locs 0 0 (MQ below (va_Qv Q (cB D y ad X A) A) args s 0 0 A) (F0 m 0 ls []) := by
  obtain ⟨hx, hb, hr, hml, hown, hts, hlk, hK, hA, hTs, hNw⟩ := id C
  unfold v_X6_turn at hw
  refine lv_iload_n hx hb dX6_turn_0 rfl (lv_at hl 1 rfl) ?_
  refine lv_if_lt (tgt := 18) hx hb dX6_turn_1 (by decide) (fun hc => ?_) (fun hc => ?_)
  · have hw := hw.1 hc
    exact kc_X6_turn_18 C ha_r0 σ hw H locs ls hO (lv_sub hl [] rfl)
  · have hw := hw.2 hc
    refine lv_iload_n hx hb dX6_turn_4 rfl (lv_at hl 1 rfl) ?_
    refine lv_aload_n hx hb dX6_turn_5 rfl (lv_at hl 0 rfl) ?_
    refine cx_alen C hO (a := r0) ha_r0 dX6_turn_6 ?_
    refine lv_icmp_ge (tgt := 18) hx hb dX6_turn_7 (by decide) (fun hc => ?_) (fun hc => ?_)
    · have hw := hw.1 hc
      exact kc_X6_turn_18 C ha_r0 σ hw H locs ls hO (lv_sub hl [] rfl)
    · have hw := hw.2 hc
      refine lv_aload_n hx hb dX6_turn_10 rfl (lv_at hl 0 rfl) ?_
      refine lv_iload_n hx hb dX6_turn_11 rfl (lv_at hl 1 rfl) ?_
      refine cx_lald C hO (a := r0) ha_r0 hw.1 dX6_turn_12 ?_
      have hw := hw.2
      refine lv_lconst (v := 0) hx hb dX6_turn_13 (by decide) ?_
      refine W.lcmp hx hb dX6_turn_14 ?_
      refine lv_if_lt (tgt := 19) hx hb dX6_turn_15 (by decide) (fun hc => ?_) (fun hc => ?_)
      · have hc := (lg_cmp_lt _ _).mp hc
        have hw := hw.1 hc
        refine lv_iconst (v := 0) hx hb dX6_turn_19 (by decide) ?_
        refine lv_istore_n (lv' := [(2, .int ((0 : Int32))), (0, .ref (ad r0)), (1, .int x1)]) hx hb dX6_turn_20 rfl hl (by decide) rfl (fun ls hl => ?_)
        exact kc_X6_turn_21 C ha_r0 fuL ((0 : Int32)) σ hw H locs ls hO (lv_sub hl [1, 0] rfl)
      · have hc := (not_congr (lg_cmp_lt _ _)).mp hc
        have hw := hw.2 hc
        exact kc_X6_turn_18 C ha_r0 σ hw H locs ls hO (lv_sub hl [] rfl)
theorem cc_X6_turn (l : Launch) (D : va_G) (y : Nat → ClassId) (ad t : Nat → Nat) (X : va_W) (σ : cS) (r0 : Nat) (x1 : Int32) (ha_r0 : cJ r0 = true) (Q : cS → Prop) (hw : v_X6_turn Q r0 x1 σ) : ∀ sz, Met l yX6_turn wsX6_turn rc_X6_turn (va_Pc [.ref (ad r0), .int x1] (cPre D y ad t X sz σ)) (va_Qv Q (cB D y ad X (va_A (cW y ad σ ++ X) sz)) (va_A (cW y ad σ ++ X) sz)) 0 0 (va_A (cW y ad σ ++ X) sz) :=
  cMet (Qc := fun A => va_Qv Q (cB D y ad X A) A) (by decide) (own := RX6) rfl (Nat.le_of_ble_eq_true rfl) (fun p e s m args below meth c A ls C hO hl => kc_X6_turn_e C ha_r0 x1 σ hw s.heap [] ls hO hl)
abbrev rc_X1_lowerNumbers : Room := { frames := 3, cells := 0, slots := 0, locals := 74 }
set_option maxRecDepth 100000 in
set_option maxHeartbeats 4000000 in
theorem kc_X1_lowerNumbers_36 {p : Program} {l : Launch} {e : Env} {s : State} {m : MethodId} {args : Array Value} {below : List Frame} {meth : Method} {c : Code} {D : va_G} {y : Nat → ClassId} {ad t : Nat → Nat} {X : va_W} {A : Nat → Prop} {Q : Int32 → cS → Prop} (C : cC p s m args meth c cX1_lowerNumbers 2 (some .boolean) RX1 wsX1_lowerNumbers D y t A) {r0 : Nat} (ha_r0 : cJ r0 = true) (z0 : Int32) (σ : cS) (hw : v_X1_lowerNumbers_36 Q r0 z0 σ) (H : Heap) (locs : List Loc) (ls : Array Slot) (hO : cO D y ad X A s.heap H locs σ) (hl : lv_has ls 2 []) : W p l e rc_X1_lowerNumbers s m args below meth c H locs 0 0 (MQ below (va_Qi Q (cB D y ad X A) A) args s 0 0 A) (F0 m 36 ls [.int z0]) := by
  obtain ⟨hx, hb, hr, hml, hown, hts, hlk, hK, hA, hTs, hNw⟩ := id C
  unfold v_X1_lowerNumbers_36 at hw
  exact cx_zret C hO hw.1 hw.2 dX1_lowerNumbers_36
set_option maxRecDepth 100000 in
set_option maxHeartbeats 4000000 in
theorem kc_X1_lowerNumbers_e {p : Program} {l : Launch} {e : Env} {s : State} {m : MethodId} {args : Array Value} {below : List Frame} {meth : Method} {c : Code} {D : va_G} {y : Nat → ClassId} {ad t : Nat → Nat} {X : va_W} {A : Nat → Prop} {Q : Int32 → cS → Prop} (C : cC p s m args meth c cX1_lowerNumbers 2 (some .boolean) RX1 wsX1_lowerNumbers D y t A) {r0 : Nat} (ha_r0 : cJ r0 = true)  (σ : cS) (hw : v_X1_lowerNumbers Q r0 σ) (H : Heap) (locs : List Loc) (ls : Array Slot) (hO : cO D y ad X A s.heap H locs σ) (hl : lv_has ls 2 [(0, .ref (ad r0))]) : W p l e rc_X1_lowerNumbers s m args below meth c H locs 0 0 (MQ below (va_Qi Q (cB D y ad X A) A) args s 0 0 A) (F0 m 0 ls []) := by
  obtain ⟨hx, hb, hr, hml, hown, hts, hlk, hK, hA, hTs, hNw⟩ := id C
  unfold v_X1_lowerNumbers at hw
  refine lv_aload_n hx hb dX1_lowerNumbers_0 rfl (lv_at hl 0 rfl) ?_
  refine cx_cis C hO (cc_X1_topOfW l D y ad t X σ r0 ha_r0 _ hw) (va_cwS 1 hts gX1_lowerNumbers_X1_topOfW rfl rfl rfl (by decide +kernel) ⟨Nat.le_of_ble_eq_true rfl, Nat.le_of_ble_eq_true rfl⟩) rfl hl.1 rfl (lv_room (Nat.le_of_ble_eq_true rfl)) dX1_lowerNumbers_1 (fun u101 σ102 H locs hw hO => ?_)
  refine lv_istore_n (lv' := [(1, .int u101), (0, .ref (ad r0))]) hx hb dX1_lowerNumbers_4 rfl hl (by decide) rfl (fun ls hl => ?_)
  refine lv_iload_n hx hb dX1_lowerNumbers_5 rfl (lv_at hl 0 rfl) ?_
  refine lv_if_ge (tgt := 11) hx hb dX1_lowerNumbers_6 (by decide) (fun hc => ?_) (fun hc => ?_)
  · have hw := hw.1 hc
    refine lv_aload_n hx hb dX1_lowerNumbers_11 rfl (lv_at hl 1 rfl) ?_
    refine cx_cvs C hO (cc_X6_takeOffDivisor l D y ad t X σ102 r0 ha_r0 _ hw) (va_cwS 1 hts gX1_lowerNumbers_X6_takeOffDivisor rfl rfl rfl (by decide +kernel) ⟨Nat.le_of_ble_eq_true rfl, Nat.le_of_ble_eq_true rfl⟩) rfl hl.1 rfl (lv_room (Nat.le_of_ble_eq_true rfl)) dX1_lowerNumbers_12 (fun σ104 H locs hw hO => ?_)
    refine lv_aload_n hx hb dX1_lowerNumbers_15 rfl (lv_at hl 1 rfl) ?_
    refine lv_iload_n hx hb dX1_lowerNumbers_16 rfl (lv_at hl 0 rfl) ?_
    refine cx_cvs C hO (cc_X6_turn l D y ad t X σ104 r0 u101 ha_r0 _ hw) (va_cwS 2 hts gX1_lowerNumbers_X6_turn rfl rfl rfl (by decide +kernel) ⟨Nat.le_of_ble_eq_true rfl, Nat.le_of_ble_eq_true rfl⟩) rfl hl.1 rfl (lv_room (Nat.le_of_ble_eq_true rfl)) dX1_lowerNumbers_17 (fun σ106 H locs hw hO => ?_)
    refine lv_aload_n hx hb dX1_lowerNumbers_20 rfl (lv_at hl 1 rfl) ?_
    refine cx_cls C hO (cc_X6_widest l D y ad t X σ106 r0 ha_r0 _ hw) (va_cwS 1 hts gX1_lowerNumbers_X6_widest rfl rfl rfl (by decide +kernel) ⟨Nat.le_of_ble_eq_true rfl, Nat.le_of_ble_eq_true rfl⟩) rfl hl.1 rfl (lv_room (Nat.le_of_ble_eq_true rfl)) dX1_lowerNumbers_21 (fun u107 σ108 H locs hw hO => ?_)
    refine lv_ldc2 (v := 9) hx hb hown (hts (.constantLong RX1 61 (9)) (by decide +kernel)) dX1_lowerNumbers_24 ?_
    refine W.lcmp hx hb dX1_lowerNumbers_27 ?_
    refine lv_if_gt (tgt := 35) hx hb dX1_lowerNumbers_28 (by decide) (fun hc => ?_) (fun hc => ?_)
    · have hc := (lg_cmp_gt _ _).mp hc
      have hw := hw.1 hc
      refine lv_iconst (v := 0) hx hb dX1_lowerNumbers_35 (by decide) ?_
      exact kc_X1_lowerNumbers_36 C ha_r0 ((0 : Int32)) σ108 hw H locs ls hO (lv_sub hl [] rfl)
    · have hc := (not_congr (lg_cmp_gt _ _)).mp hc
      have hw := hw.2 hc
      refine lv_iconst (v := 1) hx hb dX1_lowerNumbers_31 (by decide) ?_
      refine lv_goto (tgt := 36) hx hb dX1_lowerNumbers_32 (by decide) ?_
      exact kc_X1_lowerNumbers_36 C ha_r0 ((1 : Int32)) σ108 hw H locs ls hO (lv_sub hl [] rfl)
  · have hw := hw.2 hc
    refine lv_iconst (v := 0) hx hb dX1_lowerNumbers_9 (by decide) ?_
    exact cx_zret C hO hw.1 hw.2 dX1_lowerNumbers_10
theorem cc_X1_lowerNumbers (l : Launch) (D : va_G) (y : Nat → ClassId) (ad t : Nat → Nat) (X : va_W) (σ : cS) (r0 : Nat) (ha_r0 : cJ r0 = true) (Q : Int32 → cS → Prop) (hw : v_X1_lowerNumbers Q r0 σ) : ∀ sz, Met l yX1_lowerNumbers wsX1_lowerNumbers rc_X1_lowerNumbers (va_Pc [.ref (ad r0)] (cPre D y ad t X sz σ)) (va_Qi Q (cB D y ad X (va_A (cW y ad σ ++ X) sz)) (va_A (cW y ad σ ++ X) sz)) 0 0 (va_A (cW y ad σ ++ X) sz) :=
  cMet (Qc := fun A => va_Qi Q (cB D y ad X A) A) (by decide) (own := RX1) rfl (Nat.le_of_ble_eq_true rfl) (fun p e s m args below meth c A ls C hO hl => kc_X1_lowerNumbers_e C ha_r0 σ hw s.heap [] ls hO hl)
abbrev rc_X1_make : Room := { frames := 5, cells := 0, slots := 0, locals := 124 }
set_option maxRecDepth 100000 in
set_option maxHeartbeats 4000000 in
theorem kc_X1_make_55 {p : Program} {l : Launch} {e : Env} {s : State} {m : MethodId} {args : Array Value} {below : List Frame} {meth : Method} {c : Code} {D : va_G} {y : Nat → ClassId} {ad t : Nat → Nat} {X : va_W} {A : Nat → Prop} {Q : Int32 → cS → Prop} (C : cC p s m args meth c cX1_make 3 (some .boolean) RX1 wsX1_make D y t A) {r1 : Nat} (ha_r1 : cJ r1 = true) (n : Nat) : ∀ (x2 : Int32) (σ : cS), v_X1_make_55 Q r1 n x2 σ → ∀ (H : Heap) (locs : List Loc) (ls : Array Slot), cO D y ad X A s.heap H locs σ → lv_has ls 3 [(0, .ref (ad 5)), (1, .ref (ad r1)), (2, .int x2)] → W p l e rc_X1_make s m args below meth c H locs 0 0 (MQ below (va_Qi Q (cB D y ad X A) A) args s 0 0 A) (F0 m 55 ls []) := by
  obtain ⟨hx, hb, hr, hml, hown, hts, hlk, hK, hA, hTs, hNw⟩ := id C
  induction n with
  | zero =>
    intro x2 σ hw
    exact (show False from hw).elim
  | succ n ih =>
    intro x2 σ hw H locs ls hO hl
    unfold v_X1_make_55 at hw
    refine lv_iload_n hx hb dX1_make_55 rfl (lv_at hl 2 rfl) ?_
    refine lv_bipush (v := 12) hx hb dX1_make_56 (by decide) ?_
    refine lv_icmp_ge (tgt := 73) hx hb dX1_make_58 (by decide) (fun hc => ?_) (fun hc => ?_)
    · have hw := hw.1 hc
      refine lv_aload_n hx hb dX1_make_73 rfl (lv_at hl 1 rfl) ?_
      refine cx_cis C hO (cc_X1_lowerNumbers l D y ad t X σ r1 ha_r1 _ hw) (va_cwS 1 hts gX1_make_X1_lowerNumbers rfl rfl rfl (by decide +kernel) ⟨Nat.le_of_ble_eq_true rfl, Nat.le_of_ble_eq_true rfl⟩) rfl hl.1 rfl (lv_room (Nat.le_of_ble_eq_true rfl)) dX1_make_74 (fun u101 σ102 H locs hw hO => ?_)
      exact cx_zret C hO hw.1 hw.2 dX1_make_77
    · have hw := hw.2 hc
      refine lv_aload_n hx hb dX1_make_61 rfl (lv_at hl 0 rfl) ?_
      refine lv_aload_n hx hb dX1_make_62 rfl (lv_at hl 1 rfl) ?_
      refine lv_iload_n hx hb dX1_make_63 rfl (lv_at hl 2 rfl) ?_
      refine cx_cvv C hO (cc_X1_divide l D y ad t X σ r1 x2 ha_r1 _ hw) (by decide) rfl rfl (cwV 2 hts gX1_make_X1_divide rfl rfl rfl (by decide +kernel) ⟨Nat.le_of_ble_eq_true rfl, Nat.le_of_ble_eq_true rfl⟩) rfl hl.1 rfl (lv_room (Nat.le_of_ble_eq_true rfl)) dX1_make_64 (fun σ104 H locs hw hO => ?_)
      obtain ⟨x2_105, ex2_105⟩ : ∃ y : Int32, y = x2 + 4 := ⟨_, rfl⟩
      have hw := hw x2_105 ex2_105
      refine lv_iinc (v := x2_105) (lv' := [(2, .int x2_105), (0, .ref (ad 5)), (1, .ref (ad r1))]) hx hb dX1_make_67 hl (k := 2) rfl (by rw [ex2_105]; rfl) (by decide) rfl (fun ls hl => ?_)
      refine lv_goto (tgt := 55) hx hb dX1_make_70 (by decide) ?_
      exact ih x2_105 σ104 hw H locs ls hO (lv_sub hl [1, 2, 0] rfl)
set_option maxRecDepth 100000 in
set_option maxHeartbeats 4000000 in
theorem kc_X1_make_19 {p : Program} {l : Launch} {e : Env} {s : State} {m : MethodId} {args : Array Value} {below : List Frame} {meth : Method} {c : Code} {D : va_G} {y : Nat → ClassId} {ad t : Nat → Nat} {X : va_W} {A : Nat → Prop} {Q : Int32 → cS → Prop} (C : cC p s m args meth c cX1_make 3 (some .boolean) RX1 wsX1_make D y t A) {r1 : Nat} (ha_r1 : cJ r1 = true) (n : Nat) : ∀ (x2 : Int32) (σ : cS), v_X1_make_19 Q r1 n x2 σ → ∀ (H : Heap) (locs : List Loc) (ls : Array Slot), cO D y ad X A s.heap H locs σ → lv_has ls 3 [(0, .ref (ad 5)), (1, .ref (ad r1)), (2, .int x2)] → W p l e rc_X1_make s m args below meth c H locs 0 0 (MQ below (va_Qi Q (cB D y ad X A) A) args s 0 0 A) (F0 m 19 ls []) := by
  obtain ⟨hx, hb, hr, hml, hown, hts, hlk, hK, hA, hTs, hNw⟩ := id C
  have hinX1 : ∀ w ∈ wsX10, w ∈ wsX1_make := fun _ h => List.mem_cons_of_mem _ (List.mem_append_right _ h)
  induction n with
  | zero =>
    intro x2 σ hw
    exact (show False from hw).elim
  | succ n ih =>
    intro x2 σ hw H locs ls hO hl
    unfold v_X1_make_19 at hw
    refine lv_iload_n hx hb dX1_make_19 rfl (lv_at hl 2 rfl) ?_
    refine lv_bipush (v := 12) hx hb dX1_make_20 (by decide) ?_
    refine lv_icmp_ge (tgt := 53) hx hb dX1_make_22 (by decide) (fun hc => ?_) (fun hc => ?_)
    · have hw := hw.1 hc
      refine lv_iconst (v := 0) hx hb dX1_make_53 (by decide) ?_
      refine lv_istore_n (lv' := [(2, .int ((0 : Int32))), (0, .ref (ad 5)), (1, .ref (ad r1))]) hx hb dX1_make_54 rfl hl (by decide) rfl (fun ls hl => ?_)
      exact kc_X1_make_55 C ha_r1 fuL ((0 : Int32)) σ hw H locs ls hO (lv_sub hl [1, 2, 0] rfl)
    · have hw := hw.2 hc
      refine lv_aload_n hx hb dX1_make_25 rfl (lv_at hl 1 rfl) ?_
      refine lv_iload_n hx hb dX1_make_26 rfl (lv_at hl 2 rfl) ?_
      refine lv_aload_n hx hb dX1_make_27 rfl (lv_at hl 0 rfl) ?_
      refine cx_get C hO (by decide) rfl rfl hinX1 1 (by decide) (idx := 15) (by decide +kernel) rfl rfl dX1_make_28 ?_
      have hj101 := hw.1
      have hw := hw.2
      refine lv_iconst (v := 0) hx hb dX1_make_31 (by decide) ?_
      refine lv_iconst (v := 4) hx hb dX1_make_32 (by decide) ?_
      refine cx_copy C hO (a0 := r1) (a := (σ.2.2.2 1)) ha_r1 hj101 (by decide +kernel) hw.1.1 hw.1.2.1 hw.1.2.2.1 hw.1.2.2.2.1 hw.1.2.2.2.2 (Nat.le_of_ble_eq_true rfl) (Nat.le_of_ble_eq_true rfl) hl.1 dX1_make_33 (fun H locs σ102 eσ102 hO => ?_)
      have hw := hw.2 σ102 eσ102
      refine lv_aload_n hx hb dX1_make_36 rfl (lv_at hl 0 rfl) ?_
      refine cx_get C hO (by decide) rfl rfl hinX1 1 (by decide) (idx := 15) (by decide +kernel) rfl rfl dX1_make_37 ?_
      have hj103 := hw.1
      have hw := hw.2
      refine cx_cvs C hO (cc_X6_takeOffDivisor l D y ad t X σ102 (σ102.2.2.2 1) hj103 _ hw) (va_cwS 1 hts gX1_make_X6_takeOffDivisor rfl rfl rfl (by decide +kernel) ⟨Nat.le_of_ble_eq_true rfl, Nat.le_of_ble_eq_true rfl⟩) rfl hl.1 rfl (lv_room (Nat.le_of_ble_eq_true rfl)) dX1_make_40 (fun σ105 H locs hw hO => ?_)
      refine lv_aload_n hx hb dX1_make_43 rfl (lv_at hl 0 rfl) ?_
      refine cx_cvv C hO (cc_X1_findDivisor l D y ad t X σ105 _ hw) (by decide) rfl rfl (cwV 0 hts gX1_make_X1_findDivisor rfl rfl rfl (by decide +kernel) ⟨Nat.le_of_ble_eq_true rfl, Nat.le_of_ble_eq_true rfl⟩) rfl hl.1 rfl (lv_room (Nat.le_of_ble_eq_true rfl)) dX1_make_44 (fun σ107 H locs hw hO => ?_)
      obtain ⟨x2_108, ex2_108⟩ : ∃ y : Int32, y = x2 + 4 := ⟨_, rfl⟩
      have hw := hw x2_108 ex2_108
      refine lv_iinc (v := x2_108) (lv' := [(2, .int x2_108), (0, .ref (ad 5)), (1, .ref (ad r1))]) hx hb dX1_make_47 hl (k := 2) rfl (by rw [ex2_108]; rfl) (by decide) rfl (fun ls hl => ?_)
      refine lv_goto (tgt := 19) hx hb dX1_make_50 (by decide) ?_
      exact ih x2_108 σ107 hw H locs ls hO (lv_sub hl [1, 2, 0] rfl)
set_option maxRecDepth 100000 in
set_option maxHeartbeats 4000000 in
theorem kc_X1_make_e {p : Program} {l : Launch} {e : Env} {s : State} {m : MethodId} {args : Array Value} {below : List Frame} {meth : Method} {c : Code} {D : va_G} {y : Nat → ClassId} {ad t : Nat → Nat} {X : va_W} {A : Nat → Prop} {Q : Int32 → cS → Prop} (C : cC p s m args meth c cX1_make 3 (some .boolean) RX1 wsX1_make D y t A) {r1 : Nat} (ha_r1 : cJ r1 = true)  (σ : cS) (hw : v_X1_make Q r1 σ) (H : Heap) (locs : List Loc) (ls : Array Slot) (hO : cO D y ad X A s.heap H locs σ) (hl : lv_has ls 3 [(0, .ref (ad 5)), (1, .ref (ad r1))]) : W p l e rc_X1_make s m args below meth c H locs 0 0 (MQ below (va_Qi Q (cB D y ad X A) A) args s 0 0 A) (F0 m 0 ls []) := by
  obtain ⟨hx, hb, hr, hml, hown, hts, hlk, hK, hA, hTs, hNw⟩ := id C
  have hinX1 : ∀ w ∈ wsX10, w ∈ wsX1_make := fun _ h => List.mem_cons_of_mem _ (List.mem_append_right _ h)
  unfold v_X1_make at hw
  refine lv_aload_n hx hb dX1_make_0 rfl (lv_at hl 1 rfl) ?_
  refine cx_cis C hO (cc_X1_topOfW l D y ad t X σ r1 ha_r1 _ hw) (va_cwS 1 hts gX1_make_X1_topOfW rfl rfl rfl (by decide +kernel) ⟨Nat.le_of_ble_eq_true rfl, Nat.le_of_ble_eq_true rfl⟩) rfl hl.1 rfl (lv_room (Nat.le_of_ble_eq_true rfl)) dX1_make_1 (fun u101 σ102 H locs hw hO => ?_)
  refine lv_if_ge (tgt := 9) hx hb dX1_make_4 (by decide) (fun hc => ?_) (fun hc => ?_)
  · have hw := hw.1 hc
    refine lv_aload_n hx hb dX1_make_9 rfl (lv_at hl 0 rfl) ?_
    refine cx_get C hO (by decide) rfl rfl hinX1 0 (by decide) (idx := 9) (by decide +kernel) rfl rfl dX1_make_10 ?_
    have hj103 := hw.1
    have hw := hw.2
    refine lv_lconst (v := 0) hx hb dX1_make_13 (by decide) ?_
    refine cx_cvs C hO (cc_J7_fill_d0a16 l D y ad t X σ102 (σ102.2.2.2 0) (0 : Int64) hj103 _ hw) (va_cwS 2 hts gX1_make_J7_fill_d0a16 rfl rfl rfl (by decide +kernel) ⟨Nat.le_of_ble_eq_true rfl, Nat.le_of_ble_eq_true rfl⟩) rfl hl.1 rfl (lv_room (Nat.le_of_ble_eq_true rfl)) dX1_make_14 (fun σ105 H locs hw hO => ?_)
    refine lv_iconst (v := 0) hx hb dX1_make_17 (by decide) ?_
    refine lv_istore_n (lv' := [(2, .int ((0 : Int32))), (0, .ref (ad 5)), (1, .ref (ad r1))]) hx hb dX1_make_18 rfl hl (by decide) rfl (fun ls hl => ?_)
    exact kc_X1_make_19 C ha_r1 fuL ((0 : Int32)) σ105 hw H locs ls hO (lv_sub hl [1, 2, 0] rfl)
  · have hw := hw.2 hc
    refine lv_iconst (v := 0) hx hb dX1_make_7 (by decide) ?_
    exact cx_zret C hO hw.1 hw.2 dX1_make_8
theorem cc_X1_make (l : Launch) (D : va_G) (y : Nat → ClassId) (ad t : Nat → Nat) (X : va_W) (σ : cS) (r1 : Nat) (ha_r1 : cJ r1 = true) (Q : Int32 → cS → Prop) (hw : v_X1_make Q r1 σ) : ∀ sz, Met l yX1_make wsX1_make rc_X1_make (va_Pc [.ref (ad 5), .ref (ad r1)] (cPre D y ad t X sz σ)) (va_Qi Q (cB D y ad X (va_A (cW y ad σ ++ X) sz)) (va_A (cW y ad σ ++ X) sz)) 0 0 (va_A (cW y ad σ ++ X) sz) :=
  cMet (Qc := fun A => va_Qi Q (cB D y ad X A) A) (by decide) (own := RX1) rfl (Nat.le_of_ble_eq_true rfl) (fun p e s m args below meth c A ls C hO hl => kc_X1_make_e C ha_r1 σ hw s.heap [] ls hO hl)
abbrev rc_X2_ofCubic : Room := { frames := 0, cells := 0, slots := 0, locals := 0 }
set_option maxRecDepth 100000 in
set_option maxHeartbeats 4000000 in
theorem kc_X2_ofCubic_86 {p : Program} {l : Launch} {e : Env} {s : State} {m : MethodId} {args : Array Value} {below : List Frame} {meth : Method} {c : Code} {D : va_G} {y : Nat → ClassId} {ad t : Nat → Nat} {X : va_W} {A : Nat → Prop} {Q : Int32 → cS → Prop} (C : cC p s m args meth c cX2_ofCubic 10 (some .int) RX2 wsX2_ofCubic D y t A) (z0 : Int32) (σ : cS) (hw : v_X2_ofCubic_86 Q z0 σ) (H : Heap) (locs : List Loc) (ls : Array Slot) (hO : cO D y ad X A s.heap H locs σ) (hl : lv_has ls 10 []) : W p l e rc_X2_ofCubic s m args below meth c H locs 0 0 (MQ below (va_Qi Q (cB D y ad X A) A) args s 0 0 A) (F0 m 86 ls [.int z0]) := by
  obtain ⟨hx, hb, hr, hml, hown, hts, hlk, hK, hA, hTs, hNw⟩ := id C
  unfold v_X2_ofCubic_86 at hw
  exact cx_iret C hO hw dX2_ofCubic_86
set_option maxRecDepth 100000 in
set_option maxHeartbeats 4000000 in
theorem kc_X2_ofCubic_107 {p : Program} {l : Launch} {e : Env} {s : State} {m : MethodId} {args : Array Value} {below : List Frame} {meth : Method} {c : Code} {D : va_G} {y : Nat → ClassId} {ad t : Nat → Nat} {X : va_W} {A : Nat → Prop} {Q : Int32 → cS → Prop} (C : cC p s m args meth c cX2_ofCubic 10 (some .int) RX2 wsX2_ofCubic D y t A) (z0 : Int32) (σ : cS) (hw : v_X2_ofCubic_107 Q z0 σ) (H : Heap) (locs : List Loc) (ls : Array Slot) (hO : cO D y ad X A s.heap H locs σ) (hl : lv_has ls 10 []) : W p l e rc_X2_ofCubic s m args below meth c H locs 0 0 (MQ below (va_Qi Q (cB D y ad X A) A) args s 0 0 A) (F0 m 107 ls [.int z0]) := by
  obtain ⟨hx, hb, hr, hml, hown, hts, hlk, hK, hA, hTs, hNw⟩ := id C
  unfold v_X2_ofCubic_107 at hw
  exact cx_iret C hO hw dX2_ofCubic_107
set_option maxRecDepth 100000 in
set_option maxHeartbeats 4000000 in
theorem kc_X2_ofCubic_e {p : Program} {l : Launch} {e : Env} {s : State} {m : MethodId} {args : Array Value} {below : List Frame} {meth : Method} {c : Code} {D : va_G} {y : Nat → ClassId} {ad t : Nat → Nat} {X : va_W} {A : Nat → Prop} {Q : Int32 → cS → Prop} (C : cC p s m args meth c cX2_ofCubic 10 (some .int) RX2 wsX2_ofCubic D y t A) (x0 : Int64) (x2 : Int64) (x4 : Int64) (x6 : Int64) (σ : cS) (hw : v_X2_ofCubic Q x0 x2 x4 x6 σ) (H : Heap) (locs : List Loc) (ls : Array Slot) (hO : cO D y ad X A s.heap H locs σ) (hl : lv_has ls 10 [(0, .long x0), (2, .long x2), (4, .long x4), (6, .long x6)]) : W p l e rc_X2_ofCubic s m args below meth c H locs 0 0 (MQ below (va_Qi Q (cB D y ad X A) A) args s 0 0 A) (F0 m 0 ls []) := by
  obtain ⟨hx, hb, hr, hml, hown, hts, hlk, hK, hA, hTs, hNw⟩ := id C
  unfold v_X2_ofCubic at hw
  refine lv_ldc2 (v := 18) hx hb hown (hts (.constantLong RX2 27 (18)) (by decide +kernel)) dX2_ofCubic_0 ?_
  refine lv_lload_n hx hb dX2_ofCubic_3 rfl (lv_at hl 0 rfl) ?_
  refine lv_lmul hx hb dX2_ofCubic_4 ?_
  refine lv_lload_n hx hb dX2_ofCubic_5 rfl (lv_at hl 1 rfl) ?_
  refine lv_lmul hx hb dX2_ofCubic_6 ?_
  refine lv_lload hx hb dX2_ofCubic_7 (lv_at hl 2 rfl) ?_
  refine lv_lmul hx hb dX2_ofCubic_9 ?_
  refine lv_lload hx hb dX2_ofCubic_10 (lv_at hl 3 rfl) ?_
  refine lv_lmul hx hb dX2_ofCubic_12 ?_
  refine lv_ldc2 (v := 4) hx hb hown (hts (.constantLong RX2 19 (4)) (by decide +kernel)) dX2_ofCubic_13 ?_
  refine lv_lload_n hx hb dX2_ofCubic_16 rfl (lv_at hl 1 rfl) ?_
  refine lv_lmul hx hb dX2_ofCubic_17 ?_
  refine lv_lload_n hx hb dX2_ofCubic_18 rfl (lv_at hl 1 rfl) ?_
  refine lv_lmul hx hb dX2_ofCubic_19 ?_
  refine lv_lload_n hx hb dX2_ofCubic_20 rfl (lv_at hl 1 rfl) ?_
  refine lv_lmul hx hb dX2_ofCubic_21 ?_
  refine lv_lload hx hb dX2_ofCubic_22 (lv_at hl 3 rfl) ?_
  refine lv_lmul hx hb dX2_ofCubic_24 ?_
  refine lv_lsub hx hb dX2_ofCubic_25 ?_
  refine lv_lload_n hx hb dX2_ofCubic_26 rfl (lv_at hl 1 rfl) ?_
  refine lv_lload_n hx hb dX2_ofCubic_27 rfl (lv_at hl 1 rfl) ?_
  refine lv_lmul hx hb dX2_ofCubic_28 ?_
  refine lv_lload hx hb dX2_ofCubic_29 (lv_at hl 2 rfl) ?_
  refine lv_lmul hx hb dX2_ofCubic_31 ?_
  refine lv_lload hx hb dX2_ofCubic_32 (lv_at hl 2 rfl) ?_
  refine lv_lmul hx hb dX2_ofCubic_34 ?_
  refine lv_ladd hx hb dX2_ofCubic_35 ?_
  refine lv_ldc2 (v := 4) hx hb hown (hts (.constantLong RX2 19 (4)) (by decide +kernel)) dX2_ofCubic_36 ?_
  refine lv_lload_n hx hb dX2_ofCubic_39 rfl (lv_at hl 0 rfl) ?_
  refine lv_lmul hx hb dX2_ofCubic_40 ?_
  refine lv_lload hx hb dX2_ofCubic_41 (lv_at hl 2 rfl) ?_
  refine lv_lmul hx hb dX2_ofCubic_43 ?_
  refine lv_lload hx hb dX2_ofCubic_44 (lv_at hl 2 rfl) ?_
  refine lv_lmul hx hb dX2_ofCubic_46 ?_
  refine lv_lload hx hb dX2_ofCubic_47 (lv_at hl 2 rfl) ?_
  refine lv_lmul hx hb dX2_ofCubic_49 ?_
  refine lv_lsub hx hb dX2_ofCubic_50 ?_
  refine lv_ldc2 (v := 27) hx hb hown (hts (.constantLong RX2 29 (27)) (by decide +kernel)) dX2_ofCubic_51 ?_
  refine lv_lload_n hx hb dX2_ofCubic_54 rfl (lv_at hl 0 rfl) ?_
  refine lv_lmul hx hb dX2_ofCubic_55 ?_
  refine lv_lload_n hx hb dX2_ofCubic_56 rfl (lv_at hl 0 rfl) ?_
  refine lv_lmul hx hb dX2_ofCubic_57 ?_
  refine lv_lload hx hb dX2_ofCubic_58 (lv_at hl 3 rfl) ?_
  refine lv_lmul hx hb dX2_ofCubic_60 ?_
  refine lv_lload hx hb dX2_ofCubic_61 (lv_at hl 3 rfl) ?_
  refine lv_lmul hx hb dX2_ofCubic_63 ?_
  refine lv_lsub hx hb dX2_ofCubic_64 ?_
  refine lv_topl (fun x8_101 ex8_101 => ?_)
  have hw := hw x8_101 ex8_101
  refine lv_lstore (lv' := [(8, .long x8_101), (0, .long x0), (2, .long x2), (4, .long x4), (6, .long x6)]) hx hb dX2_ofCubic_65 hl (by decide) rfl (fun ls hl => ?_)
  refine lv_lload hx hb dX2_ofCubic_67 (lv_at hl 0 rfl) ?_
  refine lv_lconst (v := 0) hx hb dX2_ofCubic_69 (by decide) ?_
  refine W.lcmp hx hb dX2_ofCubic_70 ?_
  refine lv_if_eq (tgt := 87) hx hb dX2_ofCubic_71 (by decide) (fun hc => ?_) (fun hc => ?_)
  · have hc := (lg_cmp_eq _ _).mp hc
    have hw := hw.1 hc
    refine lv_lload_n hx hb dX2_ofCubic_87 rfl (lv_at hl 2 rfl) ?_
    refine lv_lload_n hx hb dX2_ofCubic_88 rfl (lv_at hl 2 rfl) ?_
    refine lv_lmul hx hb dX2_ofCubic_89 ?_
    refine lv_ldc2 (v := 3) hx hb hown (hts (.constantLong RX2 31 (3)) (by decide +kernel)) dX2_ofCubic_90 ?_
    refine lv_lload_n hx hb dX2_ofCubic_93 rfl (lv_at hl 1 rfl) ?_
    refine lv_lmul hx hb dX2_ofCubic_94 ?_
    refine lv_lload hx hb dX2_ofCubic_95 (lv_at hl 3 rfl) ?_
    refine lv_lmul hx hb dX2_ofCubic_97 ?_
    refine W.lcmp hx hb dX2_ofCubic_98 ?_
    refine lv_if_ne (tgt := 106) hx hb dX2_ofCubic_99 (by decide) (fun hc => ?_) (fun hc => ?_)
    · have hc := (not_congr (lg_cmp_eq _ _)).mp hc
      have hw := hw.1 hc
      refine lv_iconst (v := 2) hx hb dX2_ofCubic_106 (by decide) ?_
      exact kc_X2_ofCubic_107 C ((2 : Int32)) σ hw H locs ls hO (lv_sub hl [] rfl)
    · have hc := (lg_cmp_eq _ _).mp hc
      have hw := hw.2 hc
      refine lv_iconst (v := 1) hx hb dX2_ofCubic_102 (by decide) ?_
      refine lv_goto (tgt := 107) hx hb dX2_ofCubic_103 (by decide) ?_
      exact kc_X2_ofCubic_107 C ((1 : Int32)) σ hw H locs ls hO (lv_sub hl [] rfl)
  · have hc := (not_congr (lg_cmp_eq _ _)).mp hc
    have hw := hw.2 hc
    refine lv_lload hx hb dX2_ofCubic_74 (lv_at hl 0 rfl) ?_
    refine lv_lconst (v := 0) hx hb dX2_ofCubic_76 (by decide) ?_
    refine W.lcmp hx hb dX2_ofCubic_77 ?_
    refine lv_if_le (tgt := 85) hx hb dX2_ofCubic_78 (by decide) (fun hc => ?_) (fun hc => ?_)
    · have hc := (lg_cmp_le _ _).mp hc
      have hw := hw.1 hc
      refine lv_iconst (v := 1) hx hb dX2_ofCubic_85 (by decide) ?_
      exact kc_X2_ofCubic_86 C ((1 : Int32)) σ hw H locs ls hO (lv_sub hl [] rfl)
    · have hc := (not_congr (lg_cmp_le _ _)).mp hc
      have hw := hw.2 hc
      refine lv_iconst (v := 3) hx hb dX2_ofCubic_81 (by decide) ?_
      refine lv_goto (tgt := 86) hx hb dX2_ofCubic_82 (by decide) ?_
      exact kc_X2_ofCubic_86 C ((3 : Int32)) σ hw H locs ls hO (lv_sub hl [] rfl)
theorem cc_X2_ofCubic (l : Launch) (D : va_G) (y : Nat → ClassId) (ad t : Nat → Nat) (X : va_W) (σ : cS) (x0 : Int64) (x2 : Int64) (x4 : Int64) (x6 : Int64) (Q : Int32 → cS → Prop) (hw : v_X2_ofCubic Q x0 x2 x4 x6 σ) : ∀ sz, Met l yX2_ofCubic wsX2_ofCubic rc_X2_ofCubic (va_Pc [.long x0, .long x2, .long x4, .long x6] (cPre D y ad t X sz σ)) (va_Qi Q (cB D y ad X (va_A (cW y ad σ ++ X) sz)) (va_A (cW y ad σ ++ X) sz)) 0 0 (va_A (cW y ad σ ++ X) sz) :=
  cMet (Qc := fun A => va_Qi Q (cB D y ad X A) A) (by decide) (own := RX2) rfl (Nat.le_of_ble_eq_true rfl) (fun p e s m args below meth c A ls C hO hl => kc_X2_ofCubic_e C x0 x2 x4 x6 σ hw s.heap [] ls hO hl)
abbrev rc_J13_signum_95d88 : Room := { frames := 0, cells := 0, slots := 0, locals := 0 }
set_option maxRecDepth 100000 in
set_option maxHeartbeats 4000000 in
theorem kc_J13_signum_95d88_e {p : Program} {l : Launch} {e : Env} {s : State} {m : MethodId} {args : Array Value} {below : List Frame} {meth : Method} {c : Code} {D : va_G} {y : Nat → ClassId} {ad t : Nat → Nat} {X : va_W} {A : Nat → Prop} {Q : Int32 → cS → Prop} (C : cC p s m args meth c cJ13_signum_95d88 2 (some .int) RJ13 wsJ13_signum_95d88 D y t A) (x0 : Int64) (σ : cS) (hw : v_J13_signum_95d88 Q x0 σ) (H : Heap) (locs : List Loc) (ls : Array Slot) (hO : cO D y ad X A s.heap H locs σ) (hl : lv_has ls 2 [(0, .long x0)]) : W p l e rc_J13_signum_95d88 s m args below meth c H locs 0 0 (MQ below (va_Qi Q (cB D y ad X A) A) args s 0 0 A) (F0 m 0 ls []) := by
  obtain ⟨hx, hb, hr, hml, hown, hts, hlk, hK, hA, hTs, hNw⟩ := id C
  unfold v_J13_signum_95d88 at hw
  refine lv_lload_n hx hb dJ13_signum_95d88_0 rfl (lv_at hl 0 rfl) ?_
  refine lv_bipush (v := 63) hx hb dJ13_signum_95d88_1 (by decide) ?_
  refine lv_lshr hx hb dJ13_signum_95d88_3 rfl ?_
  refine lv_lload_n hx hb dJ13_signum_95d88_4 rfl (lv_at hl 0 rfl) ?_
  refine lv_lneg hx hb dJ13_signum_95d88_5 ?_
  refine lv_bipush (v := 63) hx hb dJ13_signum_95d88_6 (by decide) ?_
  refine lv_lushr hx hb dJ13_signum_95d88_8 rfl ?_
  refine lv_lor hx hb dJ13_signum_95d88_9 ?_
  refine lv_l2i hx hb dJ13_signum_95d88_10 rfl ?_
  exact cx_iret C hO hw dJ13_signum_95d88_11
theorem cc_J13_signum_95d88 (l : Launch) (D : va_G) (y : Nat → ClassId) (ad t : Nat → Nat) (X : va_W) (σ : cS) (x0 : Int64) (Q : Int32 → cS → Prop) (hw : v_J13_signum_95d88 Q x0 σ) : ∀ sz, Met l yJ13_signum_95d88 wsJ13_signum_95d88 rc_J13_signum_95d88 (va_Pc [.long x0] (cPre D y ad t X sz σ)) (va_Qi Q (cB D y ad X (va_A (cW y ad σ ++ X) sz)) (va_A (cW y ad σ ++ X) sz)) 0 0 (va_A (cW y ad σ ++ X) sz) :=
  cMet (Qc := fun A => va_Qi Q (cB D y ad X A) A) (by decide) (own := RJ13) rfl (Nat.le_of_ble_eq_true rfl) (fun p e s m args below meth c A ls C hO hl => kc_J13_signum_95d88_e C x0 σ hw s.heap [] ls hO hl)
abbrev rc_X2_count : Room := { frames := 1, cells := 0, slots := 0, locals := 29 }
set_option maxRecDepth 100000 in
set_option maxHeartbeats 4000000 in
theorem kc_X2_count_66 {p : Program} {l : Launch} {e : Env} {s : State} {m : MethodId} {args : Array Value} {below : List Frame} {meth : Method} {c : Code} {D : va_G} {y : Nat → ClassId} {ad t : Nat → Nat} {X : va_W} {A : Nat → Prop} {Q : Int32 → cS → Prop} (C : cC p s m args meth c cX2_count 2 (some .int) RX2 wsX2_count D y t A) {r0 : Nat} (ha_r0 : cJ r0 = true) (z0 : Int32) (σ : cS) (hw : v_X2_count_66 Q r0 z0 σ) (H : Heap) (locs : List Loc) (ls : Array Slot) (hO : cO D y ad X A s.heap H locs σ) (hl : lv_has ls 2 []) : W p l e rc_X2_count s m args below meth c H locs 0 0 (MQ below (va_Qi Q (cB D y ad X A) A) args s 0 0 A) (F0 m 66 ls [.int z0]) := by
  obtain ⟨hx, hb, hr, hml, hown, hts, hlk, hK, hA, hTs, hNw⟩ := id C
  unfold v_X2_count_66 at hw
  exact cx_iret C hO hw dX2_count_66
set_option maxRecDepth 100000 in
set_option maxHeartbeats 4000000 in
theorem kc_X2_count_e {p : Program} {l : Launch} {e : Env} {s : State} {m : MethodId} {args : Array Value} {below : List Frame} {meth : Method} {c : Code} {D : va_G} {y : Nat → ClassId} {ad t : Nat → Nat} {X : va_W} {A : Nat → Prop} {Q : Int32 → cS → Prop} (C : cC p s m args meth c cX2_count 2 (some .int) RX2 wsX2_count D y t A) {r0 : Nat} (ha_r0 : cJ r0 = true)  (σ : cS) (hw : v_X2_count Q r0 σ) (H : Heap) (locs : List Loc) (ls : Array Slot) (hO : cO D y ad X A s.heap H locs σ) (hl : lv_has ls 2 [(0, .ref (ad r0))]) : W p l e rc_X2_count s m args below meth c H locs 0 0 (MQ below (va_Qi Q (cB D y ad X A) A) args s 0 0 A) (F0 m 0 ls []) := by
  obtain ⟨hx, hb, hr, hml, hown, hts, hlk, hK, hA, hTs, hNw⟩ := id C
  unfold v_X2_count at hw
  refine lv_aload_n hx hb dX2_count_0 rfl (lv_at hl 0 rfl) ?_
  refine cx_cis C hO (cc_X6_last l D y ad t X σ r0 ha_r0 _ hw) (va_cwS 1 hts gX2_count_X6_last rfl rfl rfl (by decide +kernel) ⟨Nat.le_of_ble_eq_true rfl, Nat.le_of_ble_eq_true rfl⟩) rfl hl.1 rfl (lv_room (Nat.le_of_ble_eq_true rfl)) dX2_count_1 (fun u101 σ102 H locs hw hO => ?_)
  refine lv_istore_n (lv' := [(1, .int u101), (0, .ref (ad r0))]) hx hb dX2_count_4 rfl hl (by decide) rfl (fun ls hl => ?_)
  refine lv_iload_n hx hb dX2_count_5 rfl (lv_at hl 0 rfl) ?_
  refine lv_iconst (v := 3) hx hb dX2_count_6 (by decide) ?_
  refine lv_icmp_ne (tgt := 26) hx hb dX2_count_7 (by decide) (fun hc => ?_) (fun hc => ?_)
  · have hw := hw.1 hc
    refine lv_iload_n hx hb dX2_count_26 rfl (lv_at hl 0 rfl) ?_
    refine lv_iconst (v := 2) hx hb dX2_count_27 (by decide) ?_
    refine lv_icmp_ne (tgt := 56) hx hb dX2_count_28 (by decide) (fun hc => ?_) (fun hc => ?_)
    · have hw := hw.1 hc
      refine lv_iload_n hx hb dX2_count_56 rfl (lv_at hl 0 rfl) ?_
      refine lv_iconst (v := 1) hx hb dX2_count_57 (by decide) ?_
      refine lv_icmp_ne (tgt := 65) hx hb dX2_count_58 (by decide) (fun hc => ?_) (fun hc => ?_)
      · have hw := hw.1 hc
        refine lv_iconst (v := 0) hx hb dX2_count_65 (by decide) ?_
        exact kc_X2_count_66 C ha_r0 ((0 : Int32)) σ102 hw H locs ls hO (lv_sub hl [] rfl)
      · have hw := hw.2 hc
        refine lv_iconst (v := 1) hx hb dX2_count_61 (by decide) ?_
        refine lv_goto (tgt := 66) hx hb dX2_count_62 (by decide) ?_
        exact kc_X2_count_66 C ha_r0 ((1 : Int32)) σ102 hw H locs ls hO (lv_sub hl [] rfl)
    · have hw := hw.2 hc
      refine lv_iconst (v := 1) hx hb dX2_count_31 (by decide) ?_
      refine lv_aload_n hx hb dX2_count_32 rfl (lv_at hl 1 rfl) ?_
      refine lv_iconst (v := 1) hx hb dX2_count_33 (by decide) ?_
      refine cx_lald C hO (a := r0) ha_r0 hw.1 dX2_count_34 ?_
      have hw := hw.2
      refine lv_aload_n hx hb dX2_count_35 rfl (lv_at hl 1 rfl) ?_
      refine lv_iconst (v := 1) hx hb dX2_count_36 (by decide) ?_
      refine cx_lald C hO (a := r0) ha_r0 hw.1 dX2_count_37 ?_
      have hw := hw.2
      refine lv_lmul hx hb dX2_count_38 ?_
      refine lv_ldc2 (v := 4) hx hb hown (hts (.constantLong RX2 19 (4)) (by decide +kernel)) dX2_count_39 ?_
      refine lv_aload_n hx hb dX2_count_42 rfl (lv_at hl 1 rfl) ?_
      refine lv_iconst (v := 2) hx hb dX2_count_43 (by decide) ?_
      refine cx_lald C hO (a := r0) ha_r0 hw.1 dX2_count_44 ?_
      have hw := hw.2
      refine lv_lmul hx hb dX2_count_45 ?_
      refine lv_aload_n hx hb dX2_count_46 rfl (lv_at hl 1 rfl) ?_
      refine lv_iconst (v := 0) hx hb dX2_count_47 (by decide) ?_
      refine cx_lald C hO (a := r0) ha_r0 hw.1 dX2_count_48 ?_
      have hw := hw.2
      refine lv_lmul hx hb dX2_count_49 ?_
      refine lv_lsub hx hb dX2_count_50 ?_
      refine cx_cis C hO (cc_J13_signum_95d88 l D y ad t X σ102 (((σ102.1 r0 ((1 : Int32)).toNatClampNeg) * (σ102.1 r0 ((1 : Int32)).toNatClampNeg)) - (((4 : Int64) * (σ102.1 r0 ((2 : Int32)).toNatClampNeg)) * (σ102.1 r0 ((0 : Int32)).toNatClampNeg))) _ hw) (va_cwS 1 hts gX2_count_J13_signum_95d88 rfl rfl rfl (by decide +kernel) ⟨Nat.le_of_ble_eq_true rfl, Nat.le_of_ble_eq_true rfl⟩) rfl hl.1 rfl (lv_room (Nat.le_of_ble_eq_true rfl)) dX2_count_51 (fun u103 σ104 H locs hw hO => ?_)
      refine lv_iadd hx hb dX2_count_54 ?_
      exact cx_iret C hO hw dX2_count_55
  · have hw := hw.2 hc
    refine lv_aload_n hx hb dX2_count_10 rfl (lv_at hl 1 rfl) ?_
    refine lv_iconst (v := 3) hx hb dX2_count_11 (by decide) ?_
    refine cx_lald C hO (a := r0) ha_r0 hw.1 dX2_count_12 ?_
    have hw := hw.2
    refine lv_aload_n hx hb dX2_count_13 rfl (lv_at hl 1 rfl) ?_
    refine lv_iconst (v := 2) hx hb dX2_count_14 (by decide) ?_
    refine cx_lald C hO (a := r0) ha_r0 hw.1 dX2_count_15 ?_
    have hw := hw.2
    refine lv_aload_n hx hb dX2_count_16 rfl (lv_at hl 1 rfl) ?_
    refine lv_iconst (v := 1) hx hb dX2_count_17 (by decide) ?_
    refine cx_lald C hO (a := r0) ha_r0 hw.1 dX2_count_18 ?_
    have hw := hw.2
    refine lv_aload_n hx hb dX2_count_19 rfl (lv_at hl 1 rfl) ?_
    refine lv_iconst (v := 0) hx hb dX2_count_20 (by decide) ?_
    refine cx_lald C hO (a := r0) ha_r0 hw.1 dX2_count_21 ?_
    have hw := hw.2
    refine cx_cis C hO (cc_X2_ofCubic l D y ad t X σ102 (σ102.1 r0 ((3 : Int32)).toNatClampNeg) (σ102.1 r0 ((2 : Int32)).toNatClampNeg) (σ102.1 r0 ((1 : Int32)).toNatClampNeg) (σ102.1 r0 ((0 : Int32)).toNatClampNeg) _ hw) (va_cwS 4 hts gX2_count_X2_ofCubic rfl rfl rfl (by decide +kernel) ⟨Nat.le_of_ble_eq_true rfl, Nat.le_of_ble_eq_true rfl⟩) rfl hl.1 rfl (lv_room (Nat.le_of_ble_eq_true rfl)) dX2_count_22 (fun u105 σ106 H locs hw hO => ?_)
    exact cx_iret C hO hw dX2_count_25
theorem cc_X2_count (l : Launch) (D : va_G) (y : Nat → ClassId) (ad t : Nat → Nat) (X : va_W) (σ : cS) (r0 : Nat) (ha_r0 : cJ r0 = true) (Q : Int32 → cS → Prop) (hw : v_X2_count Q r0 σ) : ∀ sz, Met l yX2_count wsX2_count rc_X2_count (va_Pc [.ref (ad r0)] (cPre D y ad t X sz σ)) (va_Qi Q (cB D y ad X (va_A (cW y ad σ ++ X) sz)) (va_A (cW y ad σ ++ X) sz)) 0 0 (va_A (cW y ad σ ++ X) sz) :=
  cMet (Qc := fun A => va_Qi Q (cB D y ad X A) A) (by decide) (own := RX2) rfl (Nat.le_of_ble_eq_true rfl) (fun p e s m args below meth c A ls C hO hl => kc_X2_count_e C ha_r0 σ hw s.heap [] ls hO hl)
abbrev rc_X4_degreeOf : Room := { frames := 1, cells := 0, slots := 0, locals := 22 }
set_option maxRecDepth 100000 in
set_option maxHeartbeats 4000000 in
theorem kc_X4_degreeOf_39 {p : Program} {l : Launch} {e : Env} {s : State} {m : MethodId} {args : Array Value} {below : List Frame} {meth : Method} {c : Code} {D : va_G} {y : Nat → ClassId} {ad t : Nat → Nat} {X : va_W} {A : Nat → Prop} {Q : Int32 → cS → Prop} (C : cC p s m args meth c cX4_degreeOf 2 (some .int) RX4 wsX4_degreeOf D y t A) {r0 : Nat} (ha_r0 : cL r0 = true) {r2 : Int32 → cS → Prop} (hr2 : ∀ (x1 : Int32) (σ : cS), r2 x1 σ → ∀ (H : Heap) (locs : List Loc) (ls : Array Slot), cO D y ad X A s.heap H locs σ → lv_has ls 2 [(0, .ref (ad r0)), (1, .int x1)] → W p l e rc_X4_degreeOf s m args below meth c H locs 0 0 (MQ below (va_Qi Q (cB D y ad X A) A) args s 0 0 A) (F0 m 2 ls [])) (x1 : Int32) (σ : cS) (hw : v_X4_degreeOf_39 Q r0 r2 x1 σ) (H : Heap) (locs : List Loc) (ls : Array Slot) (hO : cO D y ad X A s.heap H locs σ) (hl : lv_has ls 2 [(1, .int x1)]) : W p l e rc_X4_degreeOf s m args below meth c H locs 0 0 (MQ below (va_Qi Q (cB D y ad X A) A) args s 0 0 A) (F0 m 39 ls []) := by
  obtain ⟨hx, hb, hr, hml, hown, hts, hlk, hK, hA, hTs, hNw⟩ := id C
  unfold v_X4_degreeOf_39 at hw
  refine lv_iload_n hx hb dX4_degreeOf_39 rfl (lv_at hl 0 rfl) ?_
  exact cx_iret C hO hw dX4_degreeOf_40
set_option maxRecDepth 100000 in
set_option maxHeartbeats 4000000 in
theorem kc_X4_degreeOf_2 {p : Program} {l : Launch} {e : Env} {s : State} {m : MethodId} {args : Array Value} {below : List Frame} {meth : Method} {c : Code} {D : va_G} {y : Nat → ClassId} {ad t : Nat → Nat} {X : va_W} {A : Nat → Prop} {Q : Int32 → cS → Prop} (C : cC p s m args meth c cX4_degreeOf 2 (some .int) RX4 wsX4_degreeOf D y t A) {r0 : Nat} (ha_r0 : cL r0 = true) (n : Nat) : ∀ (x1 : Int32) (σ : cS), v_X4_degreeOf_2 Q r0 n x1 σ → ∀ (H : Heap) (locs : List Loc) (ls : Array Slot), cO D y ad X A s.heap H locs σ → lv_has ls 2 [(0, .ref (ad r0)), (1, .int x1)] → W p l e rc_X4_degreeOf s m args below meth c H locs 0 0 (MQ below (va_Qi Q (cB D y ad X A) A) args s 0 0 A) (F0 m 2 ls []) := by
  obtain ⟨hx, hb, hr, hml, hown, hts, hlk, hK, hA, hTs, hNw⟩ := id C
  induction n with
  | zero =>
    intro x1 σ hw
    exact (show False from hw).elim
  | succ n ih =>
    intro x1 σ hw H locs ls hO hl
    unfold v_X4_degreeOf_2 at hw
    refine lv_iload_n hx hb dX4_degreeOf_2 rfl (lv_at hl 1 rfl) ?_
    refine lv_if_le (tgt := 47) hx hb dX4_degreeOf_3 (by decide) (fun hc => ?_) (fun hc => ?_)
    · have hw := hw.1 hc
      refine lv_iconst (v := 0) hx hb dX4_degreeOf_47 (by decide) ?_
      exact cx_iret C hO hw dX4_degreeOf_48
    · have hw := hw.2 hc
      refine lv_aload_n hx hb dX4_degreeOf_6 rfl (lv_at hl 0 rfl) ?_
      refine lv_iconst (v := 0) hx hb dX4_degreeOf_7 (by decide) ?_
      refine lv_iload_n hx hb dX4_degreeOf_8 rfl (lv_at hl 1 rfl) ?_
      refine cx_clv C hO (cc_X0_number l D y ad t X σ r0 (0 : Int32) x1 ha_r0 _ hw) (cL_lt ha_r0).1 (cE_L ha_r0) rfl (cwV 2 hts gX4_degreeOf_X0_number rfl rfl rfl (by decide +kernel) ⟨Nat.le_of_ble_eq_true rfl, Nat.le_of_ble_eq_true rfl⟩) rfl hl.1 rfl (lv_room (Nat.le_of_ble_eq_true rfl)) dX4_degreeOf_9 (fun u101 σ102 H locs hw hO => ?_)
      refine lv_lconst (v := 0) hx hb dX4_degreeOf_12 (by decide) ?_
      refine W.lcmp hx hb dX4_degreeOf_13 ?_
      refine lv_if_ne (tgt := 39) hx hb dX4_degreeOf_14 (by decide) (fun hc => ?_) (fun hc => ?_)
      · have hc := (not_congr (lg_cmp_eq _ _)).mp hc
        have hw := hw.1 hc
        exact kc_X4_degreeOf_39 C ha_r0 ih x1 σ102 hw H locs ls hO (lv_sub hl [1] rfl)
      · have hc := (lg_cmp_eq _ _).mp hc
        have hw := hw.2 hc
        refine lv_aload_n hx hb dX4_degreeOf_17 rfl (lv_at hl 0 rfl) ?_
        refine lv_iconst (v := 1) hx hb dX4_degreeOf_18 (by decide) ?_
        refine lv_iload_n hx hb dX4_degreeOf_19 rfl (lv_at hl 1 rfl) ?_
        refine cx_clv C hO (cc_X0_number l D y ad t X σ102 r0 (1 : Int32) x1 ha_r0 _ hw) (cL_lt ha_r0).1 (cE_L ha_r0) rfl (cwV 2 hts gX4_degreeOf_X0_number rfl rfl rfl (by decide +kernel) ⟨Nat.le_of_ble_eq_true rfl, Nat.le_of_ble_eq_true rfl⟩) rfl hl.1 rfl (lv_room (Nat.le_of_ble_eq_true rfl)) dX4_degreeOf_20 (fun u103 σ104 H locs hw hO => ?_)
        refine lv_lconst (v := 0) hx hb dX4_degreeOf_23 (by decide) ?_
        refine W.lcmp hx hb dX4_degreeOf_24 ?_
        refine lv_if_ne (tgt := 39) hx hb dX4_degreeOf_25 (by decide) (fun hc => ?_) (fun hc => ?_)
        · have hc := (not_congr (lg_cmp_eq _ _)).mp hc
          have hw := hw.1 hc
          exact kc_X4_degreeOf_39 C ha_r0 ih x1 σ104 hw H locs ls hO (lv_sub hl [1] rfl)
        · have hc := (lg_cmp_eq _ _).mp hc
          have hw := hw.2 hc
          refine lv_aload_n hx hb dX4_degreeOf_28 rfl (lv_at hl 0 rfl) ?_
          refine lv_iconst (v := 2) hx hb dX4_degreeOf_29 (by decide) ?_
          refine lv_iload_n hx hb dX4_degreeOf_30 rfl (lv_at hl 1 rfl) ?_
          refine cx_clv C hO (cc_X0_number l D y ad t X σ104 r0 (2 : Int32) x1 ha_r0 _ hw) (cL_lt ha_r0).1 (cE_L ha_r0) rfl (cwV 2 hts gX4_degreeOf_X0_number rfl rfl rfl (by decide +kernel) ⟨Nat.le_of_ble_eq_true rfl, Nat.le_of_ble_eq_true rfl⟩) rfl hl.1 rfl (lv_room (Nat.le_of_ble_eq_true rfl)) dX4_degreeOf_31 (fun u105 σ106 H locs hw hO => ?_)
          refine lv_lconst (v := 0) hx hb dX4_degreeOf_34 (by decide) ?_
          refine W.lcmp hx hb dX4_degreeOf_35 ?_
          refine lv_if_eq (tgt := 41) hx hb dX4_degreeOf_36 (by decide) (fun hc => ?_) (fun hc => ?_)
          · have hc := (lg_cmp_eq _ _).mp hc
            have hw := hw.1 hc
            obtain ⟨x1_107, ex1_107⟩ : ∃ y : Int32, y = x1 + (-1) := ⟨_, rfl⟩
            have hw := hw x1_107 ex1_107
            refine lv_iinc (v := x1_107) (lv' := [(1, .int x1_107), (0, .ref (ad r0))]) hx hb dX4_degreeOf_41 hl (k := 1) rfl (by rw [ex1_107]; rfl) (by decide) rfl (fun ls hl => ?_)
            refine lv_goto (tgt := 2) hx hb dX4_degreeOf_44 (by decide) ?_
            exact ih x1_107 σ106 hw H locs ls hO (lv_sub hl [1, 0] rfl)
          · have hc := (not_congr (lg_cmp_eq _ _)).mp hc
            have hw := hw.2 hc
            exact kc_X4_degreeOf_39 C ha_r0 ih x1 σ106 hw H locs ls hO (lv_sub hl [1] rfl)
set_option maxRecDepth 100000 in
set_option maxHeartbeats 4000000 in
theorem kc_X4_degreeOf_e {p : Program} {l : Launch} {e : Env} {s : State} {m : MethodId} {args : Array Value} {below : List Frame} {meth : Method} {c : Code} {D : va_G} {y : Nat → ClassId} {ad t : Nat → Nat} {X : va_W} {A : Nat → Prop} {Q : Int32 → cS → Prop} (C : cC p s m args meth c cX4_degreeOf 2 (some .int) RX4 wsX4_degreeOf D y t A) {r0 : Nat} (ha_r0 : cL r0 = true)  (σ : cS) (hw : v_X4_degreeOf Q r0 σ) (H : Heap) (locs : List Loc) (ls : Array Slot) (hO : cO D y ad X A s.heap H locs σ) (hl : lv_has ls 2 [(0, .ref (ad r0))]) : W p l e rc_X4_degreeOf s m args below meth c H locs 0 0 (MQ below (va_Qi Q (cB D y ad X A) A) args s 0 0 A) (F0 m 0 ls []) := by
  obtain ⟨hx, hb, hr, hml, hown, hts, hlk, hK, hA, hTs, hNw⟩ := id C
  unfold v_X4_degreeOf at hw
  refine lv_iconst (v := 3) hx hb dX4_degreeOf_0 (by decide) ?_
  refine lv_istore_n (lv' := [(1, .int ((3 : Int32))), (0, .ref (ad r0))]) hx hb dX4_degreeOf_1 rfl hl (by decide) rfl (fun ls hl => ?_)
  exact kc_X4_degreeOf_2 C ha_r0 fuL ((3 : Int32)) σ hw H locs ls hO (lv_sub hl [1, 0] rfl)
theorem cc_X4_degreeOf (l : Launch) (D : va_G) (y : Nat → ClassId) (ad t : Nat → Nat) (X : va_W) (σ : cS) (r0 : Nat) (ha_r0 : cL r0 = true) (Q : Int32 → cS → Prop) (hw : v_X4_degreeOf Q r0 σ) : ∀ sz, Met l yX4_degreeOf wsX4_degreeOf rc_X4_degreeOf (va_Pc [.ref (ad r0)] (cPre D y ad t X sz σ)) (va_Qi Q (cB D y ad X (va_A (cW y ad σ ++ X) sz)) (va_A (cW y ad σ ++ X) sz)) 0 0 (va_A (cW y ad σ ++ X) sz) :=
  cMet (Qc := fun A => va_Qi Q (cB D y ad X A) A) (by decide) (own := RX4) rfl (Nat.le_of_ble_eq_true rfl) (fun p e s m args below meth c A ls C hO hl => kc_X4_degreeOf_e C ha_r0 σ hw s.heap [] ls hO hl)
abbrev rc_X4_cross : Room := { frames := 0, cells := 0, slots := 0, locals := 0 }
set_option maxRecDepth 100000 in
set_option maxHeartbeats 4000000 in
theorem kc_X4_cross_e {p : Program} {l : Launch} {e : Env} {s : State} {m : MethodId} {args : Array Value} {below : List Frame} {meth : Method} {c : Code} {D : va_G} {y : Nat → ClassId} {ad t : Nat → Nat} {X : va_W} {A : Nat → Prop} {Q : cS → Prop} (C : cC p s m args meth c cX4_cross 1 none RX4 wsX4_cross D y t A)  (σ : cS) (hw : v_X4_cross Q σ) (H : Heap) (locs : List Loc) (ls : Array Slot) (hO : cO D y ad X A s.heap H locs σ) (hl : lv_has ls 1 [(0, .ref (ad 9))]) : W p l e rc_X4_cross s m args below meth c H locs 0 0 (MQ below (va_Qv Q (cB D y ad X A) A) args s 0 0 A) (F0 m 0 ls []) := by
  obtain ⟨hx, hb, hr, hml, hown, hts, hlk, hK, hA, hTs, hNw⟩ := id C
  have hinX4 : ∀ w ∈ wsX40, w ∈ wsX4_cross := fun _ h => List.mem_cons_of_mem _ (List.mem_append_right _ h)
  unfold v_X4_cross at hw
  refine lv_aload_n hx hb dX4_cross_0 rfl (lv_at hl 0 rfl) ?_
  refine cx_get C hO (by decide) rfl rfl hinX4 3 (by decide) (idx := 21) (by decide +kernel) rfl rfl dX4_cross_1 ?_
  refine lv_iconst (v := 0) hx hb dX4_cross_4 (by decide) ?_
  refine lv_aload_n hx hb dX4_cross_5 rfl (lv_at hl 0 rfl) ?_
  refine cx_get C hO (by decide) rfl rfl hinX4 1 (by decide) (idx := 15) (by decide +kernel) rfl rfl dX4_cross_6 ?_
  refine lv_iconst (v := 1) hx hb dX4_cross_9 (by decide) ?_
  refine cx_lald C hO (a := 11) rfl hw.1 dX4_cross_10 ?_
  have hw := hw.2
  refine lv_aload_n hx hb dX4_cross_11 rfl (lv_at hl 0 rfl) ?_
  refine cx_get C hO (by decide) rfl rfl hinX4 2 (by decide) (idx := 18) (by decide +kernel) rfl rfl dX4_cross_12 ?_
  refine lv_iconst (v := 2) hx hb dX4_cross_15 (by decide) ?_
  refine cx_lald C hO (a := 12) rfl hw.1 dX4_cross_16 ?_
  have hw := hw.2
  refine lv_lmul hx hb dX4_cross_17 ?_
  refine lv_aload_n hx hb dX4_cross_18 rfl (lv_at hl 0 rfl) ?_
  refine cx_get C hO (by decide) rfl rfl hinX4 1 (by decide) (idx := 15) (by decide +kernel) rfl rfl dX4_cross_19 ?_
  refine lv_iconst (v := 2) hx hb dX4_cross_22 (by decide) ?_
  refine cx_lald C hO (a := 11) rfl hw.1 dX4_cross_23 ?_
  have hw := hw.2
  refine lv_aload_n hx hb dX4_cross_24 rfl (lv_at hl 0 rfl) ?_
  refine cx_get C hO (by decide) rfl rfl hinX4 2 (by decide) (idx := 18) (by decide +kernel) rfl rfl dX4_cross_25 ?_
  refine lv_iconst (v := 1) hx hb dX4_cross_28 (by decide) ?_
  refine cx_lald C hO (a := 12) rfl hw.1 dX4_cross_29 ?_
  have hw := hw.2
  refine lv_lmul hx hb dX4_cross_30 ?_
  refine lv_lsub hx hb dX4_cross_31 ?_
  refine cx_last C hO (a := 13) rfl hw.1 dX4_cross_32 (fun H locs σ101 eσ101 hO => ?_)
  have hw := hw.2 σ101 eσ101
  refine lv_aload_n hx hb dX4_cross_33 rfl (lv_at hl 0 rfl) ?_
  refine cx_get C hO (by decide) rfl rfl hinX4 3 (by decide) (idx := 21) (by decide +kernel) rfl rfl dX4_cross_34 ?_
  refine lv_iconst (v := 1) hx hb dX4_cross_37 (by decide) ?_
  refine lv_aload_n hx hb dX4_cross_38 rfl (lv_at hl 0 rfl) ?_
  refine cx_get C hO (by decide) rfl rfl hinX4 1 (by decide) (idx := 15) (by decide +kernel) rfl rfl dX4_cross_39 ?_
  refine lv_iconst (v := 2) hx hb dX4_cross_42 (by decide) ?_
  refine cx_lald C hO (a := 11) rfl hw.1 dX4_cross_43 ?_
  have hw := hw.2
  refine lv_aload_n hx hb dX4_cross_44 rfl (lv_at hl 0 rfl) ?_
  refine cx_get C hO (by decide) rfl rfl hinX4 2 (by decide) (idx := 18) (by decide +kernel) rfl rfl dX4_cross_45 ?_
  refine lv_iconst (v := 0) hx hb dX4_cross_48 (by decide) ?_
  refine cx_lald C hO (a := 12) rfl hw.1 dX4_cross_49 ?_
  have hw := hw.2
  refine lv_lmul hx hb dX4_cross_50 ?_
  refine lv_aload_n hx hb dX4_cross_51 rfl (lv_at hl 0 rfl) ?_
  refine cx_get C hO (by decide) rfl rfl hinX4 1 (by decide) (idx := 15) (by decide +kernel) rfl rfl dX4_cross_52 ?_
  refine lv_iconst (v := 0) hx hb dX4_cross_55 (by decide) ?_
  refine cx_lald C hO (a := 11) rfl hw.1 dX4_cross_56 ?_
  have hw := hw.2
  refine lv_aload_n hx hb dX4_cross_57 rfl (lv_at hl 0 rfl) ?_
  refine cx_get C hO (by decide) rfl rfl hinX4 2 (by decide) (idx := 18) (by decide +kernel) rfl rfl dX4_cross_58 ?_
  refine lv_iconst (v := 2) hx hb dX4_cross_61 (by decide) ?_
  refine cx_lald C hO (a := 12) rfl hw.1 dX4_cross_62 ?_
  have hw := hw.2
  refine lv_lmul hx hb dX4_cross_63 ?_
  refine lv_lsub hx hb dX4_cross_64 ?_
  refine cx_last C hO (a := 13) rfl hw.1 dX4_cross_65 (fun H locs σ102 eσ102 hO => ?_)
  have hw := hw.2 σ102 eσ102
  refine lv_aload_n hx hb dX4_cross_66 rfl (lv_at hl 0 rfl) ?_
  refine cx_get C hO (by decide) rfl rfl hinX4 3 (by decide) (idx := 21) (by decide +kernel) rfl rfl dX4_cross_67 ?_
  refine lv_iconst (v := 2) hx hb dX4_cross_70 (by decide) ?_
  refine lv_aload_n hx hb dX4_cross_71 rfl (lv_at hl 0 rfl) ?_
  refine cx_get C hO (by decide) rfl rfl hinX4 1 (by decide) (idx := 15) (by decide +kernel) rfl rfl dX4_cross_72 ?_
  refine lv_iconst (v := 0) hx hb dX4_cross_75 (by decide) ?_
  refine cx_lald C hO (a := 11) rfl hw.1 dX4_cross_76 ?_
  have hw := hw.2
  refine lv_aload_n hx hb dX4_cross_77 rfl (lv_at hl 0 rfl) ?_
  refine cx_get C hO (by decide) rfl rfl hinX4 2 (by decide) (idx := 18) (by decide +kernel) rfl rfl dX4_cross_78 ?_
  refine lv_iconst (v := 1) hx hb dX4_cross_81 (by decide) ?_
  refine cx_lald C hO (a := 12) rfl hw.1 dX4_cross_82 ?_
  have hw := hw.2
  refine lv_lmul hx hb dX4_cross_83 ?_
  refine lv_aload_n hx hb dX4_cross_84 rfl (lv_at hl 0 rfl) ?_
  refine cx_get C hO (by decide) rfl rfl hinX4 1 (by decide) (idx := 15) (by decide +kernel) rfl rfl dX4_cross_85 ?_
  refine lv_iconst (v := 1) hx hb dX4_cross_88 (by decide) ?_
  refine cx_lald C hO (a := 11) rfl hw.1 dX4_cross_89 ?_
  have hw := hw.2
  refine lv_aload_n hx hb dX4_cross_90 rfl (lv_at hl 0 rfl) ?_
  refine cx_get C hO (by decide) rfl rfl hinX4 2 (by decide) (idx := 18) (by decide +kernel) rfl rfl dX4_cross_91 ?_
  refine lv_iconst (v := 0) hx hb dX4_cross_94 (by decide) ?_
  refine cx_lald C hO (a := 12) rfl hw.1 dX4_cross_95 ?_
  have hw := hw.2
  refine lv_lmul hx hb dX4_cross_96 ?_
  refine lv_lsub hx hb dX4_cross_97 ?_
  refine cx_last C hO (a := 13) rfl hw.1 dX4_cross_98 (fun H locs σ103 eσ103 hO => ?_)
  have hw := hw.2 σ103 eσ103
  exact cx_vret C hO hw dX4_cross_99
theorem cc_X4_cross (l : Launch) (D : va_G) (y : Nat → ClassId) (ad t : Nat → Nat) (X : va_W) (σ : cS)  (Q : cS → Prop) (hw : v_X4_cross Q σ) : ∀ sz, Met l yX4_cross wsX4_cross rc_X4_cross (va_Pc [.ref (ad 9)] (cPre D y ad t X sz σ)) (va_Qv Q (cB D y ad X (va_A (cW y ad σ ++ X) sz)) (va_A (cW y ad σ ++ X) sz)) 0 0 (va_A (cW y ad σ ++ X) sz) :=
  cMet (Qc := fun A => va_Qv Q (cB D y ad X A) A) (by decide) (own := RX4) rfl (Nat.le_of_ble_eq_true rfl) (fun p e s m args below meth c A ls C hO hl => kc_X4_cross_e C σ hw s.heap [] ls hO hl)
abbrev rc_X4_findForm : Room := { frames := 1, cells := 0, slots := 0, locals := 26 }
set_option maxRecDepth 100000 in
set_option maxHeartbeats 4000000 in
theorem kc_X4_findForm_3 {p : Program} {l : Launch} {e : Env} {s : State} {m : MethodId} {args : Array Value} {below : List Frame} {meth : Method} {c : Code} {D : va_G} {y : Nat → ClassId} {ad t : Nat → Nat} {X : va_W} {A : Nat → Prop} {Q : cS → Prop} (C : cC p s m args meth c cX4_findForm 6 none RX4 wsX4_findForm D y t A) {r1 : Nat} (ha_r1 : cL r1 = true) (n : Nat) : ∀ (x2 : Int32) (x3 : Int32) (x4 : Int32) (x5 : Int32) (σ : cS), v_X4_findForm_3 Q r1 n x2 x3 x4 x5 σ → ∀ (H : Heap) (locs : List Loc) (ls : Array Slot), cO D y ad X A s.heap H locs σ → lv_has ls 6 [(0, .ref (ad 9)), (1, .ref (ad r1)), (2, .int x2), (3, .int x3), (4, .int x4), (5, .int x5)] → W p l e rc_X4_findForm s m args below meth c H locs 0 0 (MQ below (va_Qv Q (cB D y ad X A) A) args s 0 0 A) (F0 m 3 ls []) := by
  obtain ⟨hx, hb, hr, hml, hown, hts, hlk, hK, hA, hTs, hNw⟩ := id C
  have hinX4 : ∀ w ∈ wsX40, w ∈ wsX4_findForm := fun _ h => List.mem_cons_of_mem _ (List.mem_append_left _ (List.mem_append_right _ h))
  induction n with
  | zero =>
    intro x2 x3 x4 x5 σ hw
    exact (show False from hw).elim
  | succ n ih =>
    intro x2 x3 x4 x5 σ hw H locs ls hO hl
    unfold v_X4_findForm_3 at hw
    refine lv_iload hx hb dX4_findForm_3 (lv_at hl 5 rfl) ?_
    refine lv_iconst (v := 3) hx hb dX4_findForm_5 (by decide) ?_
    refine lv_icmp_ge (tgt := 44) hx hb dX4_findForm_6 (by decide) (fun hc => ?_) (fun hc => ?_)
    · have hw := hw.1 hc
      refine lv_aload_n hx hb dX4_findForm_44 rfl (lv_at hl 0 rfl) ?_
      refine cx_cvv C hO (cc_X4_cross l D y ad t X σ _ hw) (by decide) rfl rfl (cwV 0 hts gX4_findForm_X4_cross rfl rfl rfl (by decide +kernel) ⟨Nat.le_of_ble_eq_true rfl, Nat.le_of_ble_eq_true rfl⟩) rfl hl.1 rfl (lv_room (Nat.le_of_ble_eq_true rfl)) dX4_findForm_45 (fun σ102 H locs hw hO => ?_)
      refine lv_aload_n hx hb dX4_findForm_48 rfl (lv_at hl 0 rfl) ?_
      refine cx_get C hO (by decide) rfl rfl hinX4 3 (by decide) (idx := 21) (by decide +kernel) rfl rfl dX4_findForm_49 ?_
      refine lv_iconst (v := 0) hx hb dX4_findForm_52 (by decide) ?_
      refine lv_aload_n hx hb dX4_findForm_53 rfl (lv_at hl 0 rfl) ?_
      refine cx_get C hO (by decide) rfl rfl hinX4 0 (by decide) (idx := 9) (by decide +kernel) rfl rfl dX4_findForm_54 ?_
      refine lv_iconst (v := 3) hx hb dX4_findForm_57 (by decide) ?_
      refine lv_iload_n hx hb dX4_findForm_58 rfl (lv_at hl 2 rfl) ?_
      refine lv_imul hx hb dX4_findForm_59 ?_
      refine lv_iconst (v := 3) hx hb dX4_findForm_60 (by decide) ?_
      refine cx_copy C hO (a0 := 13) (a := 10) rfl rfl (by decide +kernel) hw.1.1 hw.1.2.1 hw.1.2.2.1 hw.1.2.2.2.1 hw.1.2.2.2.2 (Nat.le_of_ble_eq_true rfl) (Nat.le_of_ble_eq_true rfl) hl.1 dX4_findForm_61 (fun H locs σ103 eσ103 hO => ?_)
      have hw := hw.2 σ103 eσ103
      exact cx_vret C hO hw dX4_findForm_64
    · have hw := hw.2 hc
      refine lv_aload_n hx hb dX4_findForm_9 rfl (lv_at hl 0 rfl) ?_
      refine cx_get C hO (by decide) rfl rfl hinX4 1 (by decide) (idx := 15) (by decide +kernel) rfl rfl dX4_findForm_10 ?_
      refine lv_iload hx hb dX4_findForm_13 (lv_at hl 5 rfl) ?_
      refine lv_aload_n hx hb dX4_findForm_15 rfl (lv_at hl 1 rfl) ?_
      refine lv_iload hx hb dX4_findForm_16 (lv_at hl 5 rfl) ?_
      refine lv_iload_n hx hb dX4_findForm_18 rfl (lv_at hl 3 rfl) ?_
      refine cx_clv C hO (cc_X0_number l D y ad t X σ r1 x5 x3 ha_r1 _ hw) (cL_lt ha_r1).1 (cE_L ha_r1) rfl (cwV 2 hts gX4_findForm_X0_number rfl rfl rfl (by decide +kernel) ⟨Nat.le_of_ble_eq_true rfl, Nat.le_of_ble_eq_true rfl⟩) rfl hl.1 rfl (lv_room (Nat.le_of_ble_eq_true rfl)) dX4_findForm_19 (fun u104 σ105 H locs hw hO => ?_)
      refine cx_last C hO (a := 11) rfl hw.1 dX4_findForm_22 (fun H locs σ106 eσ106 hO => ?_)
      have hw := hw.2 σ106 eσ106
      refine lv_aload_n hx hb dX4_findForm_23 rfl (lv_at hl 0 rfl) ?_
      refine cx_get C hO (by decide) rfl rfl hinX4 2 (by decide) (idx := 18) (by decide +kernel) rfl rfl dX4_findForm_24 ?_
      refine lv_iload hx hb dX4_findForm_27 (lv_at hl 5 rfl) ?_
      refine lv_aload_n hx hb dX4_findForm_29 rfl (lv_at hl 1 rfl) ?_
      refine lv_iload hx hb dX4_findForm_30 (lv_at hl 5 rfl) ?_
      refine lv_iload hx hb dX4_findForm_32 (lv_at hl 4 rfl) ?_
      refine cx_clv C hO (cc_X0_number l D y ad t X σ106 r1 x5 x4 ha_r1 _ hw) (cL_lt ha_r1).1 (cE_L ha_r1) rfl (cwV 2 hts gX4_findForm_X0_number rfl rfl rfl (by decide +kernel) ⟨Nat.le_of_ble_eq_true rfl, Nat.le_of_ble_eq_true rfl⟩) rfl hl.1 rfl (lv_room (Nat.le_of_ble_eq_true rfl)) dX4_findForm_34 (fun u107 σ108 H locs hw hO => ?_)
      refine cx_last C hO (a := 12) rfl hw.1 dX4_findForm_37 (fun H locs σ109 eσ109 hO => ?_)
      have hw := hw.2 σ109 eσ109
      obtain ⟨x5_110, ex5_110⟩ : ∃ y : Int32, y = x5 + 1 := ⟨_, rfl⟩
      have hw := hw x5_110 ex5_110
      refine lv_iinc (v := x5_110) (lv' := [(5, .int x5_110), (0, .ref (ad 9)), (1, .ref (ad r1)), (2, .int x2), (3, .int x3), (4, .int x4)]) hx hb dX4_findForm_38 hl (k := 5) rfl (by rw [ex5_110]; rfl) (by decide) rfl (fun ls hl => ?_)
      refine lv_goto (tgt := 3) hx hb dX4_findForm_41 (by decide) ?_
      exact ih x2 x3 x4 x5_110 σ109 hw H locs ls hO (lv_sub hl [1, 2, 3, 4, 5, 0] rfl)
set_option maxRecDepth 100000 in
set_option maxHeartbeats 4000000 in
theorem kc_X4_findForm_e {p : Program} {l : Launch} {e : Env} {s : State} {m : MethodId} {args : Array Value} {below : List Frame} {meth : Method} {c : Code} {D : va_G} {y : Nat → ClassId} {ad t : Nat → Nat} {X : va_W} {A : Nat → Prop} {Q : cS → Prop} (C : cC p s m args meth c cX4_findForm 6 none RX4 wsX4_findForm D y t A) {r1 : Nat} (ha_r1 : cL r1 = true) (x2 : Int32) (x3 : Int32) (x4 : Int32) (σ : cS) (hw : v_X4_findForm Q r1 x2 x3 x4 σ) (H : Heap) (locs : List Loc) (ls : Array Slot) (hO : cO D y ad X A s.heap H locs σ) (hl : lv_has ls 6 [(0, .ref (ad 9)), (1, .ref (ad r1)), (2, .int x2), (3, .int x3), (4, .int x4)]) : W p l e rc_X4_findForm s m args below meth c H locs 0 0 (MQ below (va_Qv Q (cB D y ad X A) A) args s 0 0 A) (F0 m 0 ls []) := by
  obtain ⟨hx, hb, hr, hml, hown, hts, hlk, hK, hA, hTs, hNw⟩ := id C
  unfold v_X4_findForm at hw
  refine lv_iconst (v := 0) hx hb dX4_findForm_0 (by decide) ?_
  refine lv_istore (lv' := [(5, .int ((0 : Int32))), (0, .ref (ad 9)), (1, .ref (ad r1)), (2, .int x2), (3, .int x3), (4, .int x4)]) hx hb dX4_findForm_1 hl (by decide) rfl (fun ls hl => ?_)
  exact kc_X4_findForm_3 C ha_r1 fuL x2 x3 x4 ((0 : Int32)) σ hw H locs ls hO (lv_sub hl [1, 2, 3, 4, 5, 0] rfl)
theorem cc_X4_findForm (l : Launch) (D : va_G) (y : Nat → ClassId) (ad t : Nat → Nat) (X : va_W) (σ : cS) (r1 : Nat) (x2 : Int32) (x3 : Int32) (x4 : Int32) (ha_r1 : cL r1 = true) (Q : cS → Prop) (hw : v_X4_findForm Q r1 x2 x3 x4 σ) : ∀ sz, Met l yX4_findForm wsX4_findForm rc_X4_findForm (va_Pc [.ref (ad 9), .ref (ad r1), .int x2, .int x3, .int x4] (cPre D y ad t X sz σ)) (va_Qv Q (cB D y ad X (va_A (cW y ad σ ++ X) sz)) (va_A (cW y ad σ ++ X) sz)) 0 0 (va_A (cW y ad σ ++ X) sz) :=
  cMet (Qc := fun A => va_Qv Q (cB D y ad X A) A) (by decide) (own := RX4) rfl (Nat.le_of_ble_eq_true rfl) (fun p e s m args below meth c A ls C hO hl => kc_X4_findForm_e C ha_r1 x2 x3 x4 σ hw s.heap [] ls hO hl)
