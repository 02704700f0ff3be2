/-! the class: what each method does, and the walk of its bytecode (written by wip/tools/cgen.py) -/
abbrev rc_X0_placeInEquation : Room := { frames := 1, cells := 0, slots := 0, locals := 21 }
set_option maxRecDepth 100000 in
set_option maxHeartbeats 4000000 in
theorem kc_X0_placeInEquation_e {p : Program} {l : Launch} {e : Env} {s : State} {m : MethodId} {args : Array Value} {below : List Frame} {meth : Method} {c : Code} {D : va_G} {y : Nat → ClassId} {ad t : Nat → Nat} {X : va_W} {A : Nat → Prop} {Q : Int32 → cS → Prop} (C : cC p s m args meth c cX0_placeInEquation 2 (some .int) RX0 wsX0_placeInEquation D y t A) (x0 : Int32) (x1 : Int32) (σ : cS) (hw : v_X0_placeInEquation Q x0 x1 σ) (H : Heap) (locs : List Loc) (ls : Array Slot) (hO : cO D y ad X A s.heap H locs σ) (hl : lv_has ls 2 [(0, .int x0), (1, .int x1)]) : W p l e rc_X0_placeInEquation s m args below meth c H locs 0 0 (MQ below (va_Qi Q (cB D y ad X A) A) args s 0 0 A) (F0 m 0 ls []) := by
  obtain ⟨hx, hb, hr, hml, hown, hts, hlk, hK, hA, hTs, hNw⟩ := id C
  unfold v_X0_placeInEquation at hw
  refine cx_gets C hO hTs.1 (idx := 24) (by decide +kernel) rfl dX0_placeInEquation_0 ?_
  refine lv_iload_n hx hb dX0_placeInEquation_3 rfl (lv_at hl 0 rfl) ?_
  refine lv_iload_n hx hb dX0_placeInEquation_4 rfl (lv_at hl 1 rfl) ?_
  refine lv_iadd hx hb dX0_placeInEquation_5 ?_
  refine lv_iconst (v := 0) hx hb dX0_placeInEquation_6 (by decide) ?_
  refine va_mmax hx hb (by rw [hml]; exact hl.1.symm) hown (hts (.methodLink RX0 28 Lib.Math.max.name) (by decide +kernel)) (hts (.static Lib.Math.max.name) (by decide +kernel)) (hts (.initialized "java/lang/Math") (by decide +kernel)) (hts (.code Lib.Math.max.name Lib.Math.max.code 2 (some .int)) (by decide +kernel)) (Nat.le_of_ble_eq_true rfl) (Nat.le_of_ble_eq_true rfl) (Nat.zero_le _) (Nat.zero_le _) dX0_placeInEquation_7 ?_
  refine lv_topi (fun a101 ea101 => ?_)
  have hw := hw a101 ea101
  refine lv_iconst (v := 3) hx hb dX0_placeInEquation_10 (by decide) ?_
  refine va_mmin hx hb (by rw [hml]; exact hl.1.symm) hown (hts (.methodLink RX0 34 Lib.Math.min.name) (by decide +kernel)) (hts (.static Lib.Math.min.name) (by decide +kernel)) (hts (.initialized "java/lang/Math") (by decide +kernel)) (hts (.code Lib.Math.min.name Lib.Math.min.code 2 (some .int)) (by decide +kernel)) (Nat.le_of_ble_eq_true rfl) (Nat.le_of_ble_eq_true rfl) (Nat.zero_le _) (Nat.zero_le _) dX0_placeInEquation_11 ?_
  refine lv_topi (fun a102 ea102 => ?_)
  have hw := hw a102 ea102
  refine cx_ti C hO hTs.1 hw.1 dX0_placeInEquation_14 ?_
  have hw := hw.2
  refine lv_iload_n hx hb dX0_placeInEquation_15 rfl (lv_at hl 1 rfl) ?_
  refine lv_iadd hx hb dX0_placeInEquation_16 ?_
  exact cx_iret C hO hw dX0_placeInEquation_17
theorem cc_X0_placeInEquation (l : Launch) (D : va_G) (y : Nat → ClassId) (ad t : Nat → Nat) (X : va_W) (σ : cS) (x0 : Int32) (x1 : Int32) (Q : Int32 → cS → Prop) (hw : v_X0_placeInEquation Q x0 x1 σ) : ∀ sz, Met l yX0_placeInEquation wsX0_placeInEquation rc_X0_placeInEquation (va_Pc [.int x0, .int x1] (cPre D y ad t X sz σ)) (va_Qi Q (cB D y ad X (va_A (cW y ad σ ++ X) sz)) (va_A (cW y ad σ ++ X) sz)) 0 0 (va_A (cW y ad σ ++ X) sz) :=
  cMet (Qc := fun A => va_Qi Q (cB D y ad X A) A) (by decide) (own := RX0) rfl (Nat.le_of_ble_eq_true rfl) (fun p e s m args below meth c A ls C hO hl => kc_X0_placeInEquation_e C x0 x1 σ hw s.heap [] ls hO hl)
abbrev rc_X0_number : Room := { frames := 0, cells := 0, slots := 0, locals := 0 }
set_option maxRecDepth 100000 in
set_option maxHeartbeats 4000000 in
theorem kc_X0_number_32 {p : Program} {l : Launch} {e : Env} {s : State} {m : MethodId} {args : Array Value} {below : List Frame} {meth : Method} {c : Code} {D : va_G} {y : Nat → ClassId} {ad t : Nat → Nat} {X : va_W} {A : Nat → Prop} {Q : Int64 → cS → Prop} (C : cC p s m args meth c cX0_number 3 (some .long) RX0 wsX0_number D y t A) {r0 : Nat} (ha_r0 : cL r0 = true) (z0 : Int64) (σ : cS) (hw : v_X0_number_32 Q r0 z0 σ) (H : Heap) (locs : List Loc) (ls : Array Slot) (hO : cO D y ad X A s.heap H locs σ) (hl : lv_has ls 3 [(0, .ref (ad r0))]) : W p l e rc_X0_number s m args below meth c H locs 0 0 (MQ below (va_Ql Q (cB D y ad X A) A) args s 0 0 A) (F0 m 32 ls [.long z0]) := by
  obtain ⟨hx, hb, hr, hml, hown, hts, hlk, hK, hA, hTs, hNw⟩ := id C
  unfold v_X0_number_32 at hw
  exact cx_lret C hO hw dX0_number_32
set_option maxRecDepth 100000 in
set_option maxHeartbeats 4000000 in
theorem kc_X0_number_18 {p : Program} {l : Launch} {e : Env} {s : State} {m : MethodId} {args : Array Value} {below : List Frame} {meth : Method} {c : Code} {D : va_G} {y : Nat → ClassId} {ad t : Nat → Nat} {X : va_W} {A : Nat → Prop} {Q : Int64 → cS → Prop} (C : cC p s m args meth c cX0_number 3 (some .long) RX0 wsX0_number D y t A) {r0 : Nat} (ha_r0 : cL r0 = true)  (σ : cS) (hw : v_X0_number_18 Q r0 σ) (H : Heap) (locs : List Loc) (ls : Array Slot) (hO : cO D y ad X A s.heap H locs σ) (hl : lv_has ls 3 [(0, .ref (ad r0))]) : W p l e rc_X0_number s m args below meth c H locs 0 0 (MQ below (va_Ql Q (cB D y ad X A) A) args s 0 0 A) (F0 m 18 ls []) := by
  obtain ⟨hx, hb, hr, hml, hown, hts, hlk, hK, hA, hTs, hNw⟩ := id C
  unfold v_X0_number_18 at hw
  refine lv_lconst (v := 0) hx hb dX0_number_18 (by decide) ?_
  refine lv_goto (tgt := 32) hx hb dX0_number_19 (by decide) ?_
  exact kc_X0_number_32 C ha_r0 ((0 : Int64)) σ hw H locs ls hO (lv_sub hl [0] rfl)
set_option maxRecDepth 100000 in
set_option maxHeartbeats 4000000 in
theorem kc_X0_number_e {p : Program} {l : Launch} {e : Env} {s : State} {m : MethodId} {args : Array Value} {below : List Frame} {meth : Method} {c : Code} {D : va_G} {y : Nat → ClassId} {ad t : Nat → Nat} {X : va_W} {A : Nat → Prop} {Q : Int64 → cS → Prop} (C : cC p s m args meth c cX0_number 3 (some .long) RX0 wsX0_number D y t A) {r0 : Nat} (ha_r0 : cL r0 = true) (x1 : Int32) (x2 : Int32) (σ : cS) (hw : v_X0_number Q r0 x1 x2 σ) (H : Heap) (locs : List Loc) (ls : Array Slot) (hO : cO D y ad X A s.heap H locs σ) (hl : lv_has ls 3 [(0, .ref (ad r0)), (1, .int x1), (2, .int x2)]) : W p l e rc_X0_number s m args below meth c H locs 0 0 (MQ below (va_Ql Q (cB D y ad X A) A) args s 0 0 A) (F0 m 0 ls []) := by
  obtain ⟨hx, hb, hr, hml, hown, hts, hlk, hK, hA, hTs, hNw⟩ := id C
  have hinX0 : ∀ w ∈ wsX00, w ∈ wsX0_number := fun _ h => List.mem_cons_of_mem _ (List.mem_append_right _ h)
  unfold v_X0_number at hw
  refine lv_iload_n hx hb dX0_number_0 rfl (lv_at hl 1 rfl) ?_
  refine lv_if_lt (tgt := 18) hx hb dX0_number_1 (by decide) (fun hc => ?_) (fun hc => ?_)
  · have hw := hw.1 hc
    exact kc_X0_number_18 C ha_r0 σ hw H locs ls hO (lv_sub hl [0] rfl)
  · have hw := hw.2 hc
    refine lv_iload_n hx hb dX0_number_4 rfl (lv_at hl 1 rfl) ?_
    refine lv_iconst (v := 2) hx hb dX0_number_5 (by decide) ?_
    refine lv_icmp_gt (tgt := 18) hx hb dX0_number_6 (by decide) (fun hc => ?_) (fun hc => ?_)
    · have hw := hw.1 hc
      exact kc_X0_number_18 C ha_r0 σ hw H locs ls hO (lv_sub hl [0] rfl)
    · have hw := hw.2 hc
      refine lv_iload_n hx hb dX0_number_9 rfl (lv_at hl 2 rfl) ?_
      refine lv_if_lt (tgt := 18) hx hb dX0_number_10 (by decide) (fun hc => ?_) (fun hc => ?_)
      · have hw := hw.1 hc
        exact kc_X0_number_18 C ha_r0 σ hw H locs ls hO (lv_sub hl [0] rfl)
      · have hw := hw.2 hc
        refine lv_iload_n hx hb dX0_number_13 rfl (lv_at hl 2 rfl) ?_
        refine lv_iconst (v := 4) hx hb dX0_number_14 (by decide) ?_
        refine lv_icmp_lt (tgt := 22) hx hb dX0_number_15 (by decide) (fun hc => ?_) (fun hc => ?_)
        · have hw := hw.1 hc
          refine lv_aload_n hx hb dX0_number_22 rfl (lv_at hl 0 rfl) ?_
          refine cx_get C hO (cL_lt ha_r0).1 (cE_L ha_r0) rfl hinX0 0 (by decide) (idx := 9) (by decide +kernel) rfl rfl dX0_number_23 ?_
          refine lv_iconst (v := 4) hx hb dX0_number_26 (by decide) ?_
          refine lv_iload_n hx hb dX0_number_27 rfl (lv_at hl 1 rfl) ?_
          refine lv_imul hx hb dX0_number_28 ?_
          refine lv_iload_n hx hb dX0_number_29 rfl (lv_at hl 2 rfl) ?_
          refine lv_iadd hx hb dX0_number_30 ?_
          refine cx_lald C hO (a := (r0 + 1)) ((cL_J ha_r0).1) hw.1 dX0_number_31 ?_
          have hw := hw.2
          exact kc_X0_number_32 C ha_r0 (σ.1 (r0 + 1) (((4 : Int32) * x1) + x2).toNatClampNeg) σ hw H locs ls hO (lv_sub hl [0] rfl)
        · have hw := hw.2 hc
          exact kc_X0_number_18 C ha_r0 σ hw H locs ls hO (lv_sub hl [0] rfl)
theorem cc_X0_number (l : Launch) (D : va_G) (y : Nat → ClassId) (ad t : Nat → Nat) (X : va_W) (σ : cS) (r0 : Nat) (x1 : Int32) (x2 : Int32) (ha_r0 : cL r0 = true) (Q : Int64 → cS → Prop) (hw : v_X0_number Q r0 x1 x2 σ) : ∀ sz, Met l yX0_number wsX0_number rc_X0_number (va_Pc [.ref (ad r0), .int x1, .int x2] (cPre D y ad t X sz σ)) (va_Ql Q (cB D y ad X (va_A (cW y ad σ ++ X) sz)) (va_A (cW y ad σ ++ X) sz)) 0 0 (va_A (cW y ad σ ++ X) sz) :=
  cMet (Qc := fun A => va_Ql Q (cB D y ad X A) A) (by decide) (own := RX0) rfl (Nat.le_of_ble_eq_true rfl) (fun p e s m args below meth c A ls C hO hl => kc_X0_number_e C ha_r0 x1 x2 σ hw s.heap [] ls hO hl)
abbrev rc_X0_combined : Room := { frames := 1, cells := 0, slots := 0, locals := 22 }
set_option maxRecDepth 100000 in
set_option maxHeartbeats 4000000 in
theorem kc_X0_combined_e {p : Program} {l : Launch} {e : Env} {s : State} {m : MethodId} {args : Array Value} {below : List Frame} {meth : Method} {c : Code} {D : va_G} {y : Nat → ClassId} {ad t : Nat → Nat} {X : va_W} {A : Nat → Prop} {Q : Int64 → cS → Prop} (C : cC p s m args meth c cX0_combined 8 (some .long) RX0 wsX0_combined D y t A) {r0 : Nat} (ha_r0 : cL r0 = true) (x1 : Int64) (x3 : Int64) (x5 : Int64) (x7 : Int32) (σ : cS) (hw : v_X0_combined Q r0 x1 x3 x5 x7 σ) (H : Heap) (locs : List Loc) (ls : Array Slot) (hO : cO D y ad X A s.heap H locs σ) (hl : lv_has ls 8 [(0, .ref (ad r0)), (1, .long x1), (3, .long x3), (5, .long x5), (7, .int x7)]) : W p l e rc_X0_combined s m args below meth c H locs 0 0 (MQ below (va_Ql Q (cB D y ad X A) A) args s 0 0 A) (F0 m 0 ls []) := by
  obtain ⟨hx, hb, hr, hml, hown, hts, hlk, hK, hA, hTs, hNw⟩ := id C
  unfold v_X0_combined at hw
  refine lv_lload_n hx hb dX0_combined_0 rfl (lv_at hl 1 rfl) ?_
  refine lv_aload_n hx hb dX0_combined_1 rfl (lv_at hl 0 rfl) ?_
  refine lv_iconst (v := 0) hx hb dX0_combined_2 (by decide) ?_
  refine lv_iload hx hb dX0_combined_3 (lv_at hl 4 rfl) ?_
  refine cx_clv C hO (cc_X0_number l D y ad t X σ r0 (0 : Int32) x7 ha_r0 _ hw) (cL_lt ha_r0).1 (cE_L ha_r0) rfl (cwV 2 hts gX0_combined_X0_number rfl rfl rfl (by decide +kernel) ⟨Nat.le_of_ble_eq_true rfl, Nat.le_of_ble_eq_true rfl⟩) rfl hl.1 rfl (lv_room (Nat.le_of_ble_eq_true rfl)) dX0_combined_5 (fun u101 σ102 H locs hw hO => ?_)
  refine lv_lmul hx hb dX0_combined_8 ?_
  refine lv_lload_n hx hb dX0_combined_9 rfl (lv_at hl 2 rfl) ?_
  refine lv_aload_n hx hb dX0_combined_10 rfl (lv_at hl 0 rfl) ?_
  refine lv_iconst (v := 1) hx hb dX0_combined_11 (by decide) ?_
  refine lv_iload hx hb dX0_combined_12 (lv_at hl 4 rfl) ?_
  refine cx_clv C hO (cc_X0_number l D y ad t X σ102 r0 (1 : Int32) x7 ha_r0 _ hw) (cL_lt ha_r0).1 (cE_L ha_r0) rfl (cwV 2 hts gX0_combined_X0_number rfl rfl rfl (by decide +kernel) ⟨Nat.le_of_ble_eq_true rfl, Nat.le_of_ble_eq_true rfl⟩) rfl hl.1 rfl (lv_room (Nat.le_of_ble_eq_true rfl)) dX0_combined_14 (fun u103 σ104 H locs hw hO => ?_)
  refine lv_lmul hx hb dX0_combined_17 ?_
  refine lv_ladd hx hb dX0_combined_18 ?_
  refine lv_lload hx hb dX0_combined_19 (lv_at hl 3 rfl) ?_
  refine lv_aload_n hx hb dX0_combined_21 rfl (lv_at hl 0 rfl) ?_
  refine lv_iconst (v := 2) hx hb dX0_combined_22 (by decide) ?_
  refine lv_iload hx hb dX0_combined_23 (lv_at hl 4 rfl) ?_
  refine cx_clv C hO (cc_X0_number l D y ad t X σ104 r0 (2 : Int32) x7 ha_r0 _ hw) (cL_lt ha_r0).1 (cE_L ha_r0) rfl (cwV 2 hts gX0_combined_X0_number rfl rfl rfl (by decide +kernel) ⟨Nat.le_of_ble_eq_true rfl, Nat.le_of_ble_eq_true rfl⟩) rfl hl.1 rfl (lv_room (Nat.le_of_ble_eq_true rfl)) dX0_combined_25 (fun u105 σ106 H locs hw hO => ?_)
  refine lv_lmul hx hb dX0_combined_28 ?_
  refine lv_ladd hx hb dX0_combined_29 ?_
  exact cx_lret C hO hw dX0_combined_30
theorem cc_X0_combined (l : Launch) (D : va_G) (y : Nat → ClassId) (ad t : Nat → Nat) (X : va_W) (σ : cS) (r0 : Nat) (x1 : Int64) (x3 : Int64) (x5 : Int64) (x7 : Int32) (ha_r0 : cL r0 = true) (Q : Int64 → cS → Prop) (hw : v_X0_combined Q r0 x1 x3 x5 x7 σ) : ∀ sz, Met l yX0_combined wsX0_combined rc_X0_combined (va_Pc [.ref (ad r0), .long x1, .long x3, .long x5, .int x7] (cPre D y ad t X sz σ)) (va_Ql Q (cB D y ad X (va_A (cW y ad σ ++ X) sz)) (va_A (cW y ad σ ++ X) sz)) 0 0 (va_A (cW y ad σ ++ X) sz) :=
  cMet (Qc := fun A => va_Ql Q (cB D y ad X A) A) (by decide) (own := RX0) rfl (Nat.le_of_ble_eq_true rfl) (fun p e s m args below meth c A ls C hO hl => kc_X0_combined_e C ha_r0 x1 x3 x5 x7 σ hw s.heap [] ls hO hl)
abbrev rc_X0_value : Room := { frames := 1, cells := 0, slots := 0, locals := 22 }
set_option maxRecDepth 100000 in
set_option maxHeartbeats 4000000 in
theorem kc_X0_value_e {p : Program} {l : Launch} {e : Env} {s : State} {m : MethodId} {args : Array Value} {below : List Frame} {meth : Method} {c : Code} {D : va_G} {y : Nat → ClassId} {ad t : Nat → Nat} {X : va_W} {A : Nat → Prop} {Q : Int64 → cS → Prop} (C : cC p s m args meth c cX0_value 6 (some .long) RX0 wsX0_value D y t A) {r0 : Nat} (ha_r0 : cL r0 = true) (x1 : Int32) (x2 : Int64) (x4 : Int64) (σ : cS) (hw : v_X0_value Q r0 x1 x2 x4 σ) (H : Heap) (locs : List Loc) (ls : Array Slot) (hO : cO D y ad X A s.heap H locs σ) (hl : lv_has ls 6 [(0, .ref (ad r0)), (1, .int x1), (2, .long x2), (4, .long x4)]) : W p l e rc_X0_value s m args below meth c H locs 0 0 (MQ below (va_Ql Q (cB D y ad X A) A) args s 0 0 A) (F0 m 0 ls []) := by
  obtain ⟨hx, hb, hr, hml, hown, hts, hlk, hK, hA, hTs, hNw⟩ := id C
  unfold v_X0_value at hw
  refine lv_aload_n hx hb dX0_value_0 rfl (lv_at hl 0 rfl) ?_
  refine lv_iload_n hx hb dX0_value_1 rfl (lv_at hl 1 rfl) ?_
  refine lv_iconst (v := 3) hx hb dX0_value_2 (by decide) ?_
  refine cx_clv C hO (cc_X0_number l D y ad t X σ r0 x1 (3 : Int32) ha_r0 _ hw) (cL_lt ha_r0).1 (cE_L ha_r0) rfl (cwV 2 hts gX0_value_X0_number rfl rfl rfl (by decide +kernel) ⟨Nat.le_of_ble_eq_true rfl, Nat.le_of_ble_eq_true rfl⟩) rfl hl.1 rfl (lv_room (Nat.le_of_ble_eq_true rfl)) dX0_value_3 (fun u101 σ102 H locs hw hO => ?_)
  refine lv_lload_n hx hb dX0_value_6 rfl (lv_at hl 2 rfl) ?_
  refine lv_lmul hx hb dX0_value_7 ?_
  refine lv_aload_n hx hb dX0_value_8 rfl (lv_at hl 0 rfl) ?_
  refine lv_iload_n hx hb dX0_value_9 rfl (lv_at hl 1 rfl) ?_
  refine lv_iconst (v := 2) hx hb dX0_value_10 (by decide) ?_
  refine cx_clv C hO (cc_X0_number l D y ad t X σ102 r0 x1 (2 : Int32) ha_r0 _ hw) (cL_lt ha_r0).1 (cE_L ha_r0) rfl (cwV 2 hts gX0_value_X0_number rfl rfl rfl (by decide +kernel) ⟨Nat.le_of_ble_eq_true rfl, Nat.le_of_ble_eq_true rfl⟩) rfl hl.1 rfl (lv_room (Nat.le_of_ble_eq_true rfl)) dX0_value_11 (fun u103 σ104 H locs hw hO => ?_)
  refine lv_lload hx hb dX0_value_14 (lv_at hl 3 rfl) ?_
  refine lv_lmul hx hb dX0_value_16 ?_
  refine lv_ladd hx hb dX0_value_17 ?_
  refine lv_lload_n hx hb dX0_value_18 rfl (lv_at hl 2 rfl) ?_
  refine lv_lmul hx hb dX0_value_19 ?_
  refine lv_aload_n hx hb dX0_value_20 rfl (lv_at hl 0 rfl) ?_
  refine lv_iload_n hx hb dX0_value_21 rfl (lv_at hl 1 rfl) ?_
  refine lv_iconst (v := 1) hx hb dX0_value_22 (by decide) ?_
  refine cx_clv C hO (cc_X0_number l D y ad t X σ104 r0 x1 (1 : Int32) ha_r0 _ hw) (cL_lt ha_r0).1 (cE_L ha_r0) rfl (cwV 2 hts gX0_value_X0_number rfl rfl rfl (by decide +kernel) ⟨Nat.le_of_ble_eq_true rfl, Nat.le_of_ble_eq_true rfl⟩) rfl hl.1 rfl (lv_room (Nat.le_of_ble_eq_true rfl)) dX0_value_23 (fun u105 σ106 H locs hw hO => ?_)
  refine lv_lload hx hb dX0_value_26 (lv_at hl 3 rfl) ?_
  refine lv_lmul hx hb dX0_value_28 ?_
  refine lv_lload hx hb dX0_value_29 (lv_at hl 3 rfl) ?_
  refine lv_lmul hx hb dX0_value_31 ?_
  refine lv_ladd hx hb dX0_value_32 ?_
  refine lv_lload_n hx hb dX0_value_33 rfl (lv_at hl 2 rfl) ?_
  refine lv_lmul hx hb dX0_value_34 ?_
  refine lv_aload_n hx hb dX0_value_35 rfl (lv_at hl 0 rfl) ?_
  refine lv_iload_n hx hb dX0_value_36 rfl (lv_at hl 1 rfl) ?_
  refine lv_iconst (v := 0) hx hb dX0_value_37 (by decide) ?_
  refine cx_clv C hO (cc_X0_number l D y ad t X σ106 r0 x1 (0 : Int32) ha_r0 _ hw) (cL_lt ha_r0).1 (cE_L ha_r0) rfl (cwV 2 hts gX0_value_X0_number rfl rfl rfl (by decide +kernel) ⟨Nat.le_of_ble_eq_true rfl, Nat.le_of_ble_eq_true rfl⟩) rfl hl.1 rfl (lv_room (Nat.le_of_ble_eq_true rfl)) dX0_value_38 (fun u107 σ108 H locs hw hO => ?_)
  refine lv_lload hx hb dX0_value_41 (lv_at hl 3 rfl) ?_
  refine lv_lmul hx hb dX0_value_43 ?_
  refine lv_lload hx hb dX0_value_44 (lv_at hl 3 rfl) ?_
  refine lv_lmul hx hb dX0_value_46 ?_
  refine lv_lload hx hb dX0_value_47 (lv_at hl 3 rfl) ?_
  refine lv_lmul hx hb dX0_value_49 ?_
  refine lv_ladd hx hb dX0_value_50 ?_
  exact cx_lret C hO hw dX0_value_51
theorem cc_X0_value (l : Launch) (D : va_G) (y : Nat → ClassId) (ad t : Nat → Nat) (X : va_W) (σ : cS) (r0 : Nat) (x1 : Int32) (x2 : Int64) (x4 : Int64) (ha_r0 : cL r0 = true) (Q : Int64 → cS → Prop) (hw : v_X0_value Q r0 x1 x2 x4 σ) : ∀ sz, Met l yX0_value wsX0_value rc_X0_value (va_Pc [.ref (ad r0), .int x1, .long x2, .long x4] (cPre D y ad t X sz σ)) (va_Ql Q (cB D y ad X (va_A (cW y ad σ ++ X) sz)) (va_A (cW y ad σ ++ X) sz)) 0 0 (va_A (cW y ad σ ++ X) sz) :=
  cMet (Qc := fun A => va_Ql Q (cB D y ad X A) A) (by decide) (own := RX0) rfl (Nat.le_of_ble_eq_true rfl) (fun p e s m args below meth c A ls C hO hl => kc_X0_value_e C ha_r0 x1 x2 x4 σ hw s.heap [] ls hO hl)
abbrev rc_X0_growth : Room := { frames := 1, cells := 0, slots := 0, locals := 22 }
set_option maxRecDepth 100000 in
set_option maxHeartbeats 4000000 in
theorem kc_X0_growth_e {p : Program} {l : Launch} {e : Env} {s : State} {m : MethodId} {args : Array Value} {below : List Frame} {meth : Method} {c : Code} {D : va_G} {y : Nat → ClassId} {ad t : Nat → Nat} {X : va_W} {A : Nat → Prop} {Q : Int64 → cS → Prop} (C : cC p s m args meth c cX0_growth 6 (some .long) RX0 wsX0_growth D y t A) {r0 : Nat} (ha_r0 : cL r0 = true) (x1 : Int32) (x2 : Int64) (x4 : Int64) (σ : cS) (hw : v_X0_growth Q r0 x1 x2 x4 σ) (H : Heap) (locs : List Loc) (ls : Array Slot) (hO : cO D y ad X A s.heap H locs σ) (hl : lv_has ls 6 [(0, .ref (ad r0)), (1, .int x1), (2, .long x2), (4, .long x4)]) : W p l e rc_X0_growth s m args below meth c H locs 0 0 (MQ below (va_Ql Q (cB D y ad X A) A) args s 0 0 A) (F0 m 0 ls []) := by
  obtain ⟨hx, hb, hr, hml, hown, hts, hlk, hK, hA, hTs, hNw⟩ := id C
  unfold v_X0_growth at hw
  refine lv_ldc2 (v := 3) hx hb hown (hts (.constantLong RX0 41 (3)) (by decide +kernel)) dX0_growth_0 ?_
  refine lv_aload_n hx hb dX0_growth_3 rfl (lv_at hl 0 rfl) ?_
  refine lv_iload_n hx hb dX0_growth_4 rfl (lv_at hl 1 rfl) ?_
  refine lv_iconst (v := 3) hx hb dX0_growth_5 (by decide) ?_
  refine cx_clv C hO (cc_X0_number l D y ad t X σ r0 x1 (3 : Int32) ha_r0 _ hw) (cL_lt ha_r0).1 (cE_L ha_r0) rfl (cwV 2 hts gX0_growth_X0_number rfl rfl rfl (by decide +kernel) ⟨Nat.le_of_ble_eq_true rfl, Nat.le_of_ble_eq_true rfl⟩) rfl hl.1 rfl (lv_room (Nat.le_of_ble_eq_true rfl)) dX0_growth_6 (fun u101 σ102 H locs hw hO => ?_)
  refine lv_lmul hx hb dX0_growth_9 ?_
  refine lv_lload_n hx hb dX0_growth_10 rfl (lv_at hl 2 rfl) ?_
  refine lv_lmul hx hb dX0_growth_11 ?_
  refine lv_ldc2 (v := 2) hx hb hown (hts (.constantLong RX0 43 (2)) (by decide +kernel)) dX0_growth_12 ?_
  refine lv_aload_n hx hb dX0_growth_15 rfl (lv_at hl 0 rfl) ?_
  refine lv_iload_n hx hb dX0_growth_16 rfl (lv_at hl 1 rfl) ?_
  refine lv_iconst (v := 2) hx hb dX0_growth_17 (by decide) ?_
  refine cx_clv C hO (cc_X0_number l D y ad t X σ102 r0 x1 (2 : Int32) ha_r0 _ hw) (cL_lt ha_r0).1 (cE_L ha_r0) rfl (cwV 2 hts gX0_growth_X0_number rfl rfl rfl (by decide +kernel) ⟨Nat.le_of_ble_eq_true rfl, Nat.le_of_ble_eq_true rfl⟩) rfl hl.1 rfl (lv_room (Nat.le_of_ble_eq_true rfl)) dX0_growth_18 (fun u103 σ104 H locs hw hO => ?_)
  refine lv_lmul hx hb dX0_growth_21 ?_
  refine lv_lload hx hb dX0_growth_22 (lv_at hl 3 rfl) ?_
  refine lv_lmul hx hb dX0_growth_24 ?_
  refine lv_ladd hx hb dX0_growth_25 ?_
  refine lv_lload_n hx hb dX0_growth_26 rfl (lv_at hl 2 rfl) ?_
  refine lv_lmul hx hb dX0_growth_27 ?_
  refine lv_aload_n hx hb dX0_growth_28 rfl (lv_at hl 0 rfl) ?_
  refine lv_iload_n hx hb dX0_growth_29 rfl (lv_at hl 1 rfl) ?_
  refine lv_iconst (v := 1) hx hb dX0_growth_30 (by decide) ?_
  refine cx_clv C hO (cc_X0_number l D y ad t X σ104 r0 x1 (1 : Int32) ha_r0 _ hw) (cL_lt ha_r0).1 (cE_L ha_r0) rfl (cwV 2 hts gX0_growth_X0_number rfl rfl rfl (by decide +kernel) ⟨Nat.le_of_ble_eq_true rfl, Nat.le_of_ble_eq_true rfl⟩) rfl hl.1 rfl (lv_room (Nat.le_of_ble_eq_true rfl)) dX0_growth_31 (fun u105 σ106 H locs hw hO => ?_)
  refine lv_lload hx hb dX0_growth_34 (lv_at hl 3 rfl) ?_
  refine lv_lmul hx hb dX0_growth_36 ?_
  refine lv_lload hx hb dX0_growth_37 (lv_at hl 3 rfl) ?_
  refine lv_lmul hx hb dX0_growth_39 ?_
  refine lv_ladd hx hb dX0_growth_40 ?_
  exact cx_lret C hO hw dX0_growth_41
theorem cc_X0_growth (l : Launch) (D : va_G) (y : Nat → ClassId) (ad t : Nat → Nat) (X : va_W) (σ : cS) (r0 : Nat) (x1 : Int32) (x2 : Int64) (x4 : Int64) (ha_r0 : cL r0 = true) (Q : Int64 → cS → Prop) (hw : v_X0_growth Q r0 x1 x2 x4 σ) : ∀ sz, Met l yX0_growth wsX0_growth rc_X0_growth (va_Pc [.ref (ad r0), .int x1, .long x2, .long x4] (cPre D y ad t X sz σ)) (va_Ql Q (cB D y ad X (va_A (cW y ad σ ++ X) sz)) (va_A (cW y ad σ ++ X) sz)) 0 0 (va_A (cW y ad σ ++ X) sz) :=
  cMet (Qc := fun A => va_Ql Q (cB D y ad X A) A) (by decide) (own := RX0) rfl (Nat.le_of_ble_eq_true rfl) (fun p e s m args below meth c A ls C hO hl => kc_X0_growth_e C ha_r0 x1 x2 x4 σ hw s.heap [] ls hO hl)
abbrev rc_X0_equationDegree : Room := { frames := 0, cells := 0, slots := 0, locals := 0 }
set_option maxRecDepth 100000 in
set_option maxHeartbeats 4000000 in
theorem kc_X0_equationDegree_16 {p : Program} {l : Launch} {e : Env} {s : State} {m : MethodId} {args : Array Value} {below : List Frame} {meth : Method} {c : Code} {D : va_G} {y : Nat → ClassId} {ad t : Nat → Nat} {X : va_W} {A : Nat → Prop} {Q : Int32 → cS → Prop} (C : cC p s m args meth c cX0_equationDegree 1 (some .int) RX0 wsX0_equationDegree D y t A) {r0 : Nat} (ha_r0 : cL r0 = true) (z0 : Int32) (σ : cS) (hw : v_X0_equationDegree_16 Q r0 z0 σ) (H : Heap) (locs : List Loc) (ls : Array Slot) (hO : cO D y ad X A s.heap H locs σ) (hl : lv_has ls 1 [(0, .ref (ad r0))]) : W p l e rc_X0_equationDegree s m args below meth c H locs 0 0 (MQ below (va_Qi Q (cB D y ad X A) A) args s 0 0 A) (F0 m 16 ls [.int z0]) := by
  obtain ⟨hx, hb, hr, hml, hown, hts, hlk, hK, hA, hTs, hNw⟩ := id C
  unfold v_X0_equationDegree_16 at hw
  exact cx_iret C hO hw dX0_equationDegree_16
set_option maxRecDepth 100000 in
set_option maxHeartbeats 4000000 in
theorem kc_X0_equationDegree_e {p : Program} {l : Launch} {e : Env} {s : State} {m : MethodId} {args : Array Value} {below : List Frame} {meth : Method} {c : Code} {D : va_G} {y : Nat → ClassId} {ad t : Nat → Nat} {X : va_W} {A : Nat → Prop} {Q : Int32 → cS → Prop} (C : cC p s m args meth c cX0_equationDegree 1 (some .int) RX0 wsX0_equationDegree D y t A) {r0 : Nat} (ha_r0 : cL r0 = true)  (σ : cS) (hw : v_X0_equationDegree Q r0 σ) (H : Heap) (locs : List Loc) (ls : Array Slot) (hO : cO D y ad X A s.heap H locs σ) (hl : lv_has ls 1 [(0, .ref (ad r0))]) : W p l e rc_X0_equationDegree s m args below meth c H locs 0 0 (MQ below (va_Qi Q (cB D y ad X A) A) args s 0 0 A) (F0 m 0 ls []) := by
  obtain ⟨hx, hb, hr, hml, hown, hts, hlk, hK, hA, hTs, hNw⟩ := id C
  have hinX0 : ∀ w ∈ wsX00, w ∈ wsX0_equationDegree := fun _ h => List.mem_cons_of_mem _ (List.mem_append_right _ h)
  unfold v_X0_equationDegree at hw
  refine lv_aload_n hx hb dX0_equationDegree_0 rfl (lv_at hl 0 rfl) ?_
  refine cx_get C hO (cL_lt ha_r0).1 (cE_L ha_r0) rfl hinX0 6 (by decide) (idx := 45) (by decide +kernel) rfl rfl dX0_equationDegree_1 ?_
  refine lv_iconst (v := 1) hx hb dX0_equationDegree_4 (by decide) ?_
  refine lv_icmp_ne (tgt := 12) hx hb dX0_equationDegree_5 (by decide) (fun hc => ?_) (fun hc => ?_)
  · have hw := hw.1 hc
    refine lv_aload_n hx hb dX0_equationDegree_12 rfl (lv_at hl 0 rfl) ?_
    refine cx_get C hO (cL_lt ha_r0).1 (cE_L ha_r0) rfl hinX0 5 (by decide) (idx := 49) (by decide +kernel) rfl rfl dX0_equationDegree_13 ?_
    exact kc_X0_equationDegree_16 C ha_r0 (σ.2.2.1 r0 5) σ hw H locs ls hO (lv_sub hl [0] rfl)
  · have hw := hw.2 hc
    refine lv_iconst (v := 1) hx hb dX0_equationDegree_8 (by decide) ?_
    refine lv_goto (tgt := 16) hx hb dX0_equationDegree_9 (by decide) ?_
    exact kc_X0_equationDegree_16 C ha_r0 ((1 : Int32)) σ hw H locs ls hO (lv_sub hl [0] rfl)
theorem cc_X0_equationDegree (l : Launch) (D : va_G) (y : Nat → ClassId) (ad t : Nat → Nat) (X : va_W) (σ : cS) (r0 : Nat) (ha_r0 : cL r0 = true) (Q : Int32 → cS → Prop) (hw : v_X0_equationDegree Q r0 σ) : ∀ sz, Met l yX0_equationDegree wsX0_equationDegree rc_X0_equationDegree (va_Pc [.ref (ad r0)] (cPre D y ad t X sz σ)) (va_Qi Q (cB D y ad X (va_A (cW y ad σ ++ X) sz)) (va_A (cW y ad σ ++ X) sz)) 0 0 (va_A (cW y ad σ ++ X) sz) :=
  cMet (Qc := fun A => va_Qi Q (cB D y ad X A) A) (by decide) (own := RX0) rfl (Nat.le_of_ble_eq_true rfl) (fun p e s m args below meth c A ls C hO hl => kc_X0_equationDegree_e C ha_r0 σ hw s.heap [] ls hO hl)
abbrev rc_X0_power : Room := { frames := 0, cells := 0, slots := 0, locals := 0 }
set_option maxRecDepth 100000 in
set_option maxHeartbeats 4000000 in
theorem kc_X0_power_5 {p : Program} {l : Launch} {e : Env} {s : State} {m : MethodId} {args : Array Value} {below : List Frame} {meth : Method} {c : Code} {D : va_G} {y : Nat → ClassId} {ad t : Nat → Nat} {X : va_W} {A : Nat → Prop} {Q : Int64 → cS → Prop} (C : cC p s m args meth c cX0_power 6 (some .long) RX0 wsX0_power D y t A) (n : Nat) : ∀ (x0 : Int64) (x2 : Int32) (x3 : Int64) (x5 : Int32) (σ : cS), v_X0_power_5 Q n x0 x2 x3 x5 σ → ∀ (H : Heap) (locs : List Loc) (ls : Array Slot), cO D y ad X A s.heap H locs σ → lv_has ls 6 [(0, .long x0), (2, .int x2), (3, .long x3), (5, .int x5)] → W p l e rc_X0_power s m args below meth c H locs 0 0 (MQ below (va_Ql Q (cB D y ad X A) A) args s 0 0 A) (F0 m 5 ls []) := by
  obtain ⟨hx, hb, hr, hml, hown, hts, hlk, hK, hA, hTs, hNw⟩ := id C
  induction n with
  | zero =>
    intro x0 x2 x3 x5 σ hw
    exact (show False from hw).elim
  | succ n ih =>
    intro x0 x2 x3 x5 σ hw H locs ls hO hl
    unfold v_X0_power_5 at hw
    refine lv_iload hx hb dX0_power_5 (lv_at hl 3 rfl) ?_
    refine lv_iload_n hx hb dX0_power_7 rfl (lv_at hl 1 rfl) ?_
    refine lv_icmp_ge (tgt := 21) hx hb dX0_power_8 (by decide) (fun hc => ?_) (fun hc => ?_)
    · have hw := hw.1 hc
      refine lv_lload_n hx hb dX0_power_21 rfl (lv_at hl 2 rfl) ?_
      exact cx_lret C hO hw dX0_power_22
    · have hw := hw.2 hc
      refine lv_lload_n hx hb dX0_power_11 rfl (lv_at hl 2 rfl) ?_
      refine lv_lload_n hx hb dX0_power_12 rfl (lv_at hl 0 rfl) ?_
      refine lv_lmul hx hb dX0_power_13 ?_
      refine lv_topl (fun x3_101 ex3_101 => ?_)
      have hw := hw x3_101 ex3_101
      refine lv_lstore_n (lv' := [(3, .long x3_101), (0, .long x0), (2, .int x2), (5, .int x5)]) hx hb dX0_power_14 rfl hl (by decide) rfl (fun ls hl => ?_)
      obtain ⟨x5_102, ex5_102⟩ : ∃ y : Int32, y = x5 + 1 := ⟨_, rfl⟩
      have hw := hw x5_102 ex5_102
      refine lv_iinc (v := x5_102) (lv' := [(5, .int x5_102), (3, .long x3_101), (0, .long x0), (2, .int x2)]) hx hb dX0_power_15 hl (k := 3) rfl (by rw [ex5_102]; rfl) (by decide) rfl (fun ls hl => ?_)
      refine lv_goto (tgt := 5) hx hb dX0_power_18 (by decide) ?_
      exact ih x0 x2 x3_101 x5_102 σ hw H locs ls hO (lv_sub hl [2, 3, 1, 0] rfl)
set_option maxRecDepth 100000 in
set_option maxHeartbeats 4000000 in
theorem kc_X0_power_e {p : Program} {l : Launch} {e : Env} {s : State} {m : MethodId} {args : Array Value} {below : List Frame} {meth : Method} {c : Code} {D : va_G} {y : Nat → ClassId} {ad t : Nat → Nat} {X : va_W} {A : Nat → Prop} {Q : Int64 → cS → Prop} (C : cC p s m args meth c cX0_power 6 (some .long) RX0 wsX0_power D y t A) (x0 : Int64) (x2 : Int32) (σ : cS) (hw : v_X0_power Q x0 x2 σ) (H : Heap) (locs : List Loc) (ls : Array Slot) (hO : cO D y ad X A s.heap H locs σ) (hl : lv_has ls 6 [(0, .long x0), (2, .int x2)]) : W p l e rc_X0_power s m args below meth c H locs 0 0 (MQ below (va_Ql Q (cB D y ad X A) A) args s 0 0 A) (F0 m 0 ls []) := by
  obtain ⟨hx, hb, hr, hml, hown, hts, hlk, hK, hA, hTs, hNw⟩ := id C
  unfold v_X0_power at hw
  refine lv_lconst (v := 1) hx hb dX0_power_0 (by decide) ?_
  refine lv_lstore_n (lv' := [(3, .long ((1 : Int64))), (0, .long x0), (2, .int x2)]) hx hb dX0_power_1 rfl hl (by decide) rfl (fun ls hl => ?_)
  refine lv_iconst (v := 0) hx hb dX0_power_2 (by decide) ?_
  refine lv_istore (lv' := [(5, .int ((0 : Int32))), (3, .long ((1 : Int64))), (0, .long x0), (2, .int x2)]) hx hb dX0_power_3 hl (by decide) rfl (fun ls hl => ?_)
  exact kc_X0_power_5 C fuL x0 x2 ((1 : Int64)) ((0 : Int32)) σ hw H locs ls hO (lv_sub hl [2, 3, 1, 0] rfl)
theorem cc_X0_power (l : Launch) (D : va_G) (y : Nat → ClassId) (ad t : Nat → Nat) (X : va_W) (σ : cS) (x0 : Int64) (x2 : Int32) (Q : Int64 → cS → Prop) (hw : v_X0_power Q x0 x2 σ) : ∀ sz, Met l yX0_power wsX0_power rc_X0_power (va_Pc [.long x0, .int x2] (cPre D y ad t X sz σ)) (va_Ql Q (cB D y ad X (va_A (cW y ad σ ++ X) sz)) (va_A (cW y ad σ ++ X) sz)) 0 0 (va_A (cW y ad σ ++ X) sz) :=
  cMet (Qc := fun A => va_Ql Q (cB D y ad X A) A) (by decide) (own := RX0) rfl (Nat.le_of_ble_eq_true rfl) (fun p e s m args below meth c A ls C hO hl => kc_X0_power_e C x0 x2 σ hw s.heap [] ls hO hl)
abbrev rc_X0_holds : Room := { frames := 2, cells := 0, slots := 0, locals := 42 }
set_option maxRecDepth 100000 in
set_option maxHeartbeats 4000000 in
theorem kc_X0_holds_54 {p : Program} {l : Launch} {e : Env} {s : State} {m : MethodId} {args : Array Value} {below : List Frame} {meth : Method} {c : Code} {D : va_G} {y : Nat → ClassId} {ad t : Nat → Nat} {X : va_W} {A : Nat → Prop} {Q : Int32 → cS → Prop} (C : cC p s m args meth c cX0_holds 11 (some .boolean) RX0 wsX0_holds D y t A) {r0 : Nat} (ha_r0 : cL r0 = true) (z0 : Int32) (σ : cS) (hw : v_X0_holds_54 Q r0 z0 σ) (H : Heap) (locs : List Loc) (ls : Array Slot) (hO : cO D y ad X A s.heap H locs σ) (hl : lv_has ls 11 [(0, .ref (ad r0))]) : W p l e rc_X0_holds s m args below meth c H locs 0 0 (MQ below (va_Qi Q (cB D y ad X A) A) args s 0 0 A) (F0 m 54 ls [.int z0]) := by
  obtain ⟨hx, hb, hr, hml, hown, hts, hlk, hK, hA, hTs, hNw⟩ := id C
  unfold v_X0_holds_54 at hw
  exact cx_zret C hO hw.1 hw.2 dX0_holds_54
set_option maxRecDepth 100000 in
set_option maxHeartbeats 4000000 in
theorem kc_X0_holds_53 {p : Program} {l : Launch} {e : Env} {s : State} {m : MethodId} {args : Array Value} {below : List Frame} {meth : Method} {c : Code} {D : va_G} {y : Nat → ClassId} {ad t : Nat → Nat} {X : va_W} {A : Nat → Prop} {Q : Int32 → cS → Prop} (C : cC p s m args meth c cX0_holds 11 (some .boolean) RX0 wsX0_holds D y t A) {r0 : Nat} (ha_r0 : cL r0 = true)  (σ : cS) (hw : v_X0_holds_53 Q r0 σ) (H : Heap) (locs : List Loc) (ls : Array Slot) (hO : cO D y ad X A s.heap H locs σ) (hl : lv_has ls 11 [(0, .ref (ad r0))]) : W p l e rc_X0_holds s m args below meth c H locs 0 0 (MQ below (va_Qi Q (cB D y ad X A) A) args s 0 0 A) (F0 m 53 ls []) := by
  obtain ⟨hx, hb, hr, hml, hown, hts, hlk, hK, hA, hTs, hNw⟩ := id C
  unfold v_X0_holds_53 at hw
  refine lv_iconst (v := 0) hx hb dX0_holds_53 (by decide) ?_
  exact kc_X0_holds_54 C ha_r0 ((0 : Int32)) σ hw H locs ls hO (lv_sub hl [0] rfl)
set_option maxRecDepth 100000 in
set_option maxHeartbeats 4000000 in
theorem kc_X0_holds_70 {p : Program} {l : Launch} {e : Env} {s : State} {m : MethodId} {args : Array Value} {below : List Frame} {meth : Method} {c : Code} {D : va_G} {y : Nat → ClassId} {ad t : Nat → Nat} {X : va_W} {A : Nat → Prop} {Q : Int32 → cS → Prop} (C : cC p s m args meth c cX0_holds 11 (some .boolean) RX0 wsX0_holds D y t A) {r0 : Nat} (ha_r0 : cL r0 = true) {r61 : Int64 → Int64 → Int64 → Int64 → Int32 → cS → Prop} (hr61 : ∀ (x1 : Int64) (x3 : Int64) (x5 : Int64) (x7 : Int64) (x9 : Int32) (σ : cS), r61 x1 x3 x5 x7 x9 σ → ∀ (H : Heap) (locs : List Loc) (ls : Array Slot), cO D y ad X A s.heap H locs σ → lv_has ls 11 [(0, .ref (ad r0)), (1, .long x1), (3, .long x3), (5, .long x5), (7, .long x7), (9, .int x9)] → W p l e rc_X0_holds s m args below meth c H locs 0 0 (MQ below (va_Qi Q (cB D y ad X A) A) args s 0 0 A) (F0 m 61 ls [])) (n : Nat) : ∀ (x1 : Int64) (x3 : Int64) (x5 : Int64) (x7 : Int64) (x9 : Int32) (x10 : Int32) (σ : cS), v_X0_holds_70 Q r0 r61 n x1 x3 x5 x7 x9 x10 σ → ∀ (H : Heap) (locs : List Loc) (ls : Array Slot), cO D y ad X A s.heap H locs σ → lv_has ls 11 [(0, .ref (ad r0)), (1, .long x1), (3, .long x3), (5, .long x5), (7, .long x7), (9, .int x9), (10, .int x10)] → W p l e rc_X0_holds s m args below meth c H locs 0 0 (MQ below (va_Qi Q (cB D y ad X A) A) args s 0 0 A) (F0 m 70 ls []) := by
  obtain ⟨hx, hb, hr, hml, hown, hts, hlk, hK, hA, hTs, hNw⟩ := id C
  have hinX0 : ∀ w ∈ wsX00, w ∈ wsX0_holds := fun _ h => List.mem_cons_of_mem _ (List.mem_append_right _ h)
  induction n with
  | zero =>
    intro x1 x3 x5 x7 x9 x10 σ hw
    exact (show False from hw).elim
  | succ n ih =>
    intro x1 x3 x5 x7 x9 x10 σ hw H locs ls hO hl
    unfold v_X0_holds_70 at hw
    refine lv_iload hx hb dX0_holds_70 (lv_at hl 5 rfl) ?_
    refine lv_iload hx hb dX0_holds_72 (lv_at hl 6 rfl) ?_
    refine lv_iadd hx hb dX0_holds_74 ?_
    refine lv_iconst (v := 3) hx hb dX0_holds_75 (by decide) ?_
    refine lv_icmp_gt (tgt := 129) hx hb dX0_holds_76 (by decide) (fun hc => ?_) (fun hc => ?_)
    · have hw := hw.1 hc
      obtain ⟨x9_101, ex9_101⟩ : ∃ y : Int32, y = x9 + 1 := ⟨_, rfl⟩
      have hw := hw x9_101 ex9_101
      refine lv_iinc (v := x9_101) (lv' := [(9, .int x9_101), (0, .ref (ad r0)), (1, .long x1), (3, .long x3), (5, .long x5), (7, .long x7), (10, .int x10)]) hx hb dX0_holds_129 hl (k := 5) rfl (by rw [ex9_101]; rfl) (by decide) rfl (fun ls hl => ?_)
      refine lv_goto (tgt := 61) hx hb dX0_holds_132 (by decide) ?_
      exact hr61 x1 x3 x5 x7 x9_101 σ hw H locs ls hO (lv_sub hl [1, 2, 3, 4, 5, 0] rfl)
    · have hw := hw.2 hc
      refine lv_lload hx hb dX0_holds_79 (lv_at hl 4 rfl) ?_
      refine lv_aload_n hx hb dX0_holds_81 rfl (lv_at hl 0 rfl) ?_
      refine cx_get C hO (cL_lt ha_r0).1 (cE_L ha_r0) rfl hinX0 1 (by decide) (idx := 15) (by decide +kernel) rfl rfl dX0_holds_82 ?_
      refine lv_iload hx hb dX0_holds_85 (lv_at hl 5 rfl) ?_
      refine lv_iload hx hb dX0_holds_87 (lv_at hl 6 rfl) ?_
      refine cx_cis C hO (cc_X0_placeInEquation l D y ad t X σ x9 x10 _ hw) (va_cwS 2 hts gX0_holds_X0_placeInEquation rfl rfl rfl (by decide +kernel) ⟨Nat.le_of_ble_eq_true rfl, Nat.le_of_ble_eq_true rfl⟩) rfl hl.1 rfl (lv_room (Nat.le_of_ble_eq_true rfl)) dX0_holds_89 (fun u102 σ103 H locs hw hO => ?_)
      refine cx_lald C hO (a := (r0 + 2)) ((cL_J ha_r0).2.1) hw.1 dX0_holds_92 ?_
      have hw := hw.2
      refine lv_lload_n hx hb dX0_holds_93 rfl (lv_at hl 1 rfl) ?_
      refine lv_iload hx hb dX0_holds_94 (lv_at hl 5 rfl) ?_
      refine cx_cls C hO (cc_X0_power l D y ad t X σ103 x1 x9 _ hw) (va_cwS 2 hts gX0_holds_X0_power rfl rfl rfl (by decide +kernel) ⟨Nat.le_of_ble_eq_true rfl, Nat.le_of_ble_eq_true rfl⟩) rfl hl.1 rfl (lv_room (Nat.le_of_ble_eq_true rfl)) dX0_holds_96 (fun u104 σ105 H locs hw hO => ?_)
      refine lv_lmul hx hb dX0_holds_99 ?_
      refine lv_lload_n hx hb dX0_holds_100 rfl (lv_at hl 2 rfl) ?_
      refine lv_iload hx hb dX0_holds_101 (lv_at hl 6 rfl) ?_
      refine cx_cls C hO (cc_X0_power l D y ad t X σ105 x3 x10 _ hw) (va_cwS 2 hts gX0_holds_X0_power rfl rfl rfl (by decide +kernel) ⟨Nat.le_of_ble_eq_true rfl, Nat.le_of_ble_eq_true rfl⟩) rfl hl.1 rfl (lv_room (Nat.le_of_ble_eq_true rfl)) dX0_holds_103 (fun u106 σ107 H locs hw hO => ?_)
      refine lv_lmul hx hb dX0_holds_106 ?_
      refine lv_lload hx hb dX0_holds_107 (lv_at hl 3 rfl) ?_
      refine lv_iconst (v := 3) hx hb dX0_holds_109 (by decide) ?_
      refine lv_iload hx hb dX0_holds_110 (lv_at hl 5 rfl) ?_
      refine lv_isub hx hb dX0_holds_112 ?_
      refine lv_iload hx hb dX0_holds_113 (lv_at hl 6 rfl) ?_
      refine lv_isub hx hb dX0_holds_115 ?_
      refine cx_cls C hO (cc_X0_power l D y ad t X σ107 x5 (((3 : Int32) - x9) - x10) _ hw) (va_cwS 2 hts gX0_holds_X0_power rfl rfl rfl (by decide +kernel) ⟨Nat.le_of_ble_eq_true rfl, Nat.le_of_ble_eq_true rfl⟩) rfl hl.1 rfl (lv_room (Nat.le_of_ble_eq_true rfl)) dX0_holds_116 (fun u108 σ109 H locs hw hO => ?_)
      refine lv_lmul hx hb dX0_holds_119 ?_
      refine lv_ladd hx hb dX0_holds_120 ?_
      refine lv_topl (fun x7_110 ex7_110 => ?_)
      have hw := hw x7_110 ex7_110
      refine lv_lstore (lv' := [(7, .long x7_110), (0, .ref (ad r0)), (1, .long x1), (3, .long x3), (5, .long x5), (9, .int x9), (10, .int x10)]) hx hb dX0_holds_121 hl (by decide) rfl (fun ls hl => ?_)
      obtain ⟨x10_111, ex10_111⟩ : ∃ y : Int32, y = x10 + 1 := ⟨_, rfl⟩
      have hw := hw x10_111 ex10_111
      refine lv_iinc (v := x10_111) (lv' := [(10, .int x10_111), (7, .long x7_110), (0, .ref (ad r0)), (1, .long x1), (3, .long x3), (5, .long x5), (9, .int x9)]) hx hb dX0_holds_123 hl (k := 6) rfl (by rw [ex10_111]; rfl) (by decide) rfl (fun ls hl => ?_)
      refine lv_goto (tgt := 70) hx hb dX0_holds_126 (by decide) ?_
      exact ih x1 x3 x5 x7_110 x9 x10_111 σ109 hw H locs ls hO (lv_sub hl [2, 3, 4, 5, 1, 6, 0] rfl)
set_option maxRecDepth 100000 in
set_option maxHeartbeats 4000000 in
theorem kc_X0_holds_147 {p : Program} {l : Launch} {e : Env} {s : State} {m : MethodId} {args : Array Value} {below : List Frame} {meth : Method} {c : Code} {D : va_G} {y : Nat → ClassId} {ad t : Nat → Nat} {X : va_W} {A : Nat → Prop} {Q : Int32 → cS → Prop} (C : cC p s m args meth c cX0_holds 11 (some .boolean) RX0 wsX0_holds D y t A) {r0 : Nat} (ha_r0 : cL r0 = true) (z0 : Int32) (σ : cS) (hw : v_X0_holds_147 Q r0 z0 σ) (H : Heap) (locs : List Loc) (ls : Array Slot) (hO : cO D y ad X A s.heap H locs σ) (hl : lv_has ls 11 [(0, .ref (ad r0))]) : W p l e rc_X0_holds s m args below meth c H locs 0 0 (MQ below (va_Qi Q (cB D y ad X A) A) args s 0 0 A) (F0 m 147 ls [.int z0]) := by
  obtain ⟨hx, hb, hr, hml, hown, hts, hlk, hK, hA, hTs, hNw⟩ := id C
  unfold v_X0_holds_147 at hw
  exact cx_zret C hO hw.1 hw.2 dX0_holds_147
set_option maxRecDepth 100000 in
set_option maxHeartbeats 4000000 in
theorem kc_X0_holds_61 {p : Program} {l : Launch} {e : Env} {s : State} {m : MethodId} {args : Array Value} {below : List Frame} {meth : Method} {c : Code} {D : va_G} {y : Nat → ClassId} {ad t : Nat → Nat} {X : va_W} {A : Nat → Prop} {Q : Int32 → cS → Prop} (C : cC p s m args meth c cX0_holds 11 (some .boolean) RX0 wsX0_holds D y t A) {r0 : Nat} (ha_r0 : cL r0 = true) (n : Nat) : ∀ (x1 : Int64) (x3 : Int64) (x5 : Int64) (x7 : Int64) (x9 : Int32) (σ : cS), v_X0_holds_61 Q r0 n x1 x3 x5 x7 x9 σ → ∀ (H : Heap) (locs : List Loc) (ls : Array Slot), cO D y ad X A s.heap H locs σ → lv_has ls 11 [(0, .ref (ad r0)), (1, .long x1), (3, .long x3), (5, .long x5), (7, .long x7), (9, .int x9)] → W p l e rc_X0_holds s m args below meth c H locs 0 0 (MQ below (va_Qi Q (cB D y ad X A) A) args s 0 0 A) (F0 m 61 ls []) := by
  obtain ⟨hx, hb, hr, hml, hown, hts, hlk, hK, hA, hTs, hNw⟩ := id C
  induction n with
  | zero =>
    intro x1 x3 x5 x7 x9 σ hw
    exact (show False from hw).elim
  | succ n ih =>
    intro x1 x3 x5 x7 x9 σ hw H locs ls hO hl
    unfold v_X0_holds_61 at hw
    refine lv_iload hx hb dX0_holds_61 (lv_at hl 5 rfl) ?_
    refine lv_iconst (v := 3) hx hb dX0_holds_63 (by decide) ?_
    refine lv_icmp_gt (tgt := 135) hx hb dX0_holds_64 (by decide) (fun hc => ?_) (fun hc => ?_)
    · have hw := hw.1 hc
      refine lv_lload hx hb dX0_holds_135 (lv_at hl 4 rfl) ?_
      refine lv_lconst (v := 0) hx hb dX0_holds_137 (by decide) ?_
      refine W.lcmp hx hb dX0_holds_138 ?_
      refine lv_if_ne (tgt := 146) hx hb dX0_holds_139 (by decide) (fun hc => ?_) (fun hc => ?_)
      · have hc := (not_congr (lg_cmp_eq _ _)).mp hc
        have hw := hw.1 hc
        refine lv_iconst (v := 0) hx hb dX0_holds_146 (by decide) ?_
        exact kc_X0_holds_147 C ha_r0 ((0 : Int32)) σ hw H locs ls hO (lv_sub hl [0] rfl)
      · have hc := (lg_cmp_eq _ _).mp hc
        have hw := hw.2 hc
        refine lv_iconst (v := 1) hx hb dX0_holds_142 (by decide) ?_
        refine lv_goto (tgt := 147) hx hb dX0_holds_143 (by decide) ?_
        exact kc_X0_holds_147 C ha_r0 ((1 : Int32)) σ hw H locs ls hO (lv_sub hl [0] rfl)
    · have hw := hw.2 hc
      refine lv_iconst (v := 0) hx hb dX0_holds_67 (by decide) ?_
      refine lv_istore (lv' := [(10, .int ((0 : Int32))), (0, .ref (ad r0)), (1, .long x1), (3, .long x3), (5, .long x5), (7, .long x7), (9, .int x9)]) hx hb dX0_holds_68 hl (by decide) rfl (fun ls hl => ?_)
      exact kc_X0_holds_70 C ha_r0 ih fuL x1 x3 x5 x7 x9 ((0 : Int32)) σ hw H locs ls hO (lv_sub hl [1, 2, 3, 4, 5, 6, 0] rfl)
set_option maxRecDepth 100000 in
set_option maxHeartbeats 4000000 in
theorem kc_X0_holds_e {p : Program} {l : Launch} {e : Env} {s : State} {m : MethodId} {args : Array Value} {below : List Frame} {meth : Method} {c : Code} {D : va_G} {y : Nat → ClassId} {ad t : Nat → Nat} {X : va_W} {A : Nat → Prop} {Q : Int32 → cS → Prop} (C : cC p s m args meth c cX0_holds 11 (some .boolean) RX0 wsX0_holds D y t A) {r0 : Nat} (ha_r0 : cL r0 = true) (x1 : Int64) (x3 : Int64) (x5 : Int64) (σ : cS) (hw : v_X0_holds Q r0 x1 x3 x5 σ) (H : Heap) (locs : List Loc) (ls : Array Slot) (hO : cO D y ad X A s.heap H locs σ) (hl : lv_has ls 11 [(0, .ref (ad r0)), (1, .long x1), (3, .long x3), (5, .long x5)]) : W p l e rc_X0_holds s m args below meth c H locs 0 0 (MQ below (va_Qi Q (cB D y ad X A) A) args s 0 0 A) (F0 m 0 ls []) := by
  obtain ⟨hx, hb, hr, hml, hown, hts, hlk, hK, hA, hTs, hNw⟩ := id C
  have hinX0 : ∀ w ∈ wsX00, w ∈ wsX0_holds := fun _ h => List.mem_cons_of_mem _ (List.mem_append_right _ h)
  unfold v_X0_holds at hw
  refine lv_aload_n hx hb dX0_holds_0 rfl (lv_at hl 0 rfl) ?_
  refine cx_get C hO (cL_lt ha_r0).1 (cE_L ha_r0) rfl hinX0 6 (by decide) (idx := 45) (by decide +kernel) rfl rfl dX0_holds_1 ?_
  refine lv_if_ne (tgt := 55) hx hb dX0_holds_4 (by decide) (fun hc => ?_) (fun hc => ?_)
  · have hw := hw.1 hc
    refine lv_lconst (v := 0) hx hb dX0_holds_55 (by decide) ?_
    refine lv_lstore (lv' := [(7, .long ((0 : Int64))), (0, .ref (ad r0)), (1, .long x1), (3, .long x3), (5, .long x5)]) hx hb dX0_holds_56 hl (by decide) rfl (fun ls hl => ?_)
    refine lv_iconst (v := 0) hx hb dX0_holds_58 (by decide) ?_
    refine lv_istore (lv' := [(9, .int ((0 : Int32))), (7, .long ((0 : Int64))), (0, .ref (ad r0)), (1, .long x1), (3, .long x3), (5, .long x5)]) hx hb dX0_holds_59 hl (by decide) rfl (fun ls hl => ?_)
    exact kc_X0_holds_61 C ha_r0 fuL x1 x3 x5 ((0 : Int64)) ((0 : Int32)) σ hw H locs ls hO (lv_sub hl [2, 3, 4, 5, 1, 0] rfl)
  · have hw := hw.2 hc
    refine lv_aload_n hx hb dX0_holds_7 rfl (lv_at hl 0 rfl) ?_
    refine lv_iconst (v := 0) hx hb dX0_holds_8 (by decide) ?_
    refine lv_iconst (v := 0) hx hb dX0_holds_9 (by decide) ?_
    refine cx_clv C hO (cc_X0_number l D y ad t X σ r0 (0 : Int32) (0 : Int32) ha_r0 _ hw) (cL_lt ha_r0).1 (cE_L ha_r0) rfl (cwV 2 hts gX0_holds_X0_number rfl rfl rfl (by decide +kernel) ⟨Nat.le_of_ble_eq_true rfl, Nat.le_of_ble_eq_true rfl⟩) rfl hl.1 rfl (lv_room (Nat.le_of_ble_eq_true rfl)) dX0_holds_10 (fun u101 σ102 H locs hw hO => ?_)
    refine lv_lload hx hb dX0_holds_13 (lv_at hl 3 rfl) ?_
    refine lv_lmul hx hb dX0_holds_15 ?_
    refine lv_lload_n hx hb dX0_holds_16 rfl (lv_at hl 1 rfl) ?_
    refine lv_aload_n hx hb dX0_holds_17 rfl (lv_at hl 0 rfl) ?_
    refine lv_iconst (v := 2) hx hb dX0_holds_18 (by decide) ?_
    refine lv_iconst (v := 0) hx hb dX0_holds_19 (by decide) ?_
    refine cx_clv C hO (cc_X0_number l D y ad t X σ102 r0 (2 : Int32) (0 : Int32) ha_r0 _ hw) (cL_lt ha_r0).1 (cE_L ha_r0) rfl (cwV 2 hts gX0_holds_X0_number rfl rfl rfl (by decide +kernel) ⟨Nat.le_of_ble_eq_true rfl, Nat.le_of_ble_eq_true rfl⟩) rfl hl.1 rfl (lv_room (Nat.le_of_ble_eq_true rfl)) dX0_holds_20 (fun u103 σ104 H locs hw hO => ?_)
    refine lv_lmul hx hb dX0_holds_23 ?_
    refine W.lcmp hx hb dX0_holds_24 ?_
    refine lv_if_ne (tgt := 53) hx hb dX0_holds_25 (by decide) (fun hc => ?_) (fun hc => ?_)
    · have hc := (not_congr (lg_cmp_eq _ _)).mp hc
      have hw := hw.1 hc
      exact kc_X0_holds_53 C ha_r0 σ104 hw H locs ls hO (lv_sub hl [0] rfl)
    · have hc := (lg_cmp_eq _ _).mp hc
      have hw := hw.2 hc
      refine lv_aload_n hx hb dX0_holds_28 rfl (lv_at hl 0 rfl) ?_
      refine lv_iconst (v := 1) hx hb dX0_holds_29 (by decide) ?_
      refine lv_iconst (v := 0) hx hb dX0_holds_30 (by decide) ?_
      refine cx_clv C hO (cc_X0_number l D y ad t X σ104 r0 (1 : Int32) (0 : Int32) ha_r0 _ hw) (cL_lt ha_r0).1 (cE_L ha_r0) rfl (cwV 2 hts gX0_holds_X0_number rfl rfl rfl (by decide +kernel) ⟨Nat.le_of_ble_eq_true rfl, Nat.le_of_ble_eq_true rfl⟩) rfl hl.1 rfl (lv_room (Nat.le_of_ble_eq_true rfl)) dX0_holds_31 (fun u105 σ106 H locs hw hO => ?_)
      refine lv_lload hx hb dX0_holds_34 (lv_at hl 3 rfl) ?_
      refine lv_lmul hx hb dX0_holds_36 ?_
      refine lv_lload_n hx hb dX0_holds_37 rfl (lv_at hl 2 rfl) ?_
      refine lv_aload_n hx hb dX0_holds_38 rfl (lv_at hl 0 rfl) ?_
      refine lv_iconst (v := 2) hx hb dX0_holds_39 (by decide) ?_
      refine lv_iconst (v := 0) hx hb dX0_holds_40 (by decide) ?_
      refine cx_clv C hO (cc_X0_number l D y ad t X σ106 r0 (2 : Int32) (0 : Int32) ha_r0 _ hw) (cL_lt ha_r0).1 (cE_L ha_r0) rfl (cwV 2 hts gX0_holds_X0_number rfl rfl rfl (by decide +kernel) ⟨Nat.le_of_ble_eq_true rfl, Nat.le_of_ble_eq_true rfl⟩) rfl hl.1 rfl (lv_room (Nat.le_of_ble_eq_true rfl)) dX0_holds_41 (fun u107 σ108 H locs hw hO => ?_)
      refine lv_lmul hx hb dX0_holds_44 ?_
      refine W.lcmp hx hb dX0_holds_45 ?_
      refine lv_if_ne (tgt := 53) hx hb dX0_holds_46 (by decide) (fun hc => ?_) (fun hc => ?_)
      · have hc := (not_congr (lg_cmp_eq _ _)).mp hc
        have hw := hw.1 hc
        exact kc_X0_holds_53 C ha_r0 σ108 hw H locs ls hO (lv_sub hl [0] rfl)
      · have hc := (lg_cmp_eq _ _).mp hc
        have hw := hw.2 hc
        refine lv_iconst (v := 1) hx hb dX0_holds_49 (by decide) ?_
        refine lv_goto (tgt := 54) hx hb dX0_holds_50 (by decide) ?_
        exact kc_X0_holds_54 C ha_r0 ((1 : Int32)) σ108 hw H locs ls hO (lv_sub hl [0] rfl)
theorem cc_X0_holds (l : Launch) (D : va_G) (y : Nat → ClassId) (ad t : Nat → Nat) (X : va_W) (σ : cS) (r0 : Nat) (x1 : Int64) (x3 : Int64) (x5 : Int64) (ha_r0 : cL r0 = true) (Q : Int32 → cS → Prop) (hw : v_X0_holds Q r0 x1 x3 x5 σ) : ∀ sz, Met l yX0_holds wsX0_holds rc_X0_holds (va_Pc [.ref (ad r0), .long x1, .long x3, .long x5] (cPre D y ad t X sz σ)) (va_Qi Q (cB D y ad X (va_A (cW y ad σ ++ X) sz)) (va_A (cW y ad σ ++ X) sz)) 0 0 (va_A (cW y ad σ ++ X) sz) :=
  cMet (Qc := fun A => va_Qi Q (cB D y ad X A) A) (by decide) (own := RX0) rfl (Nat.le_of_ble_eq_true rfl) (fun p e s m args below meth c A ls C hO hl => kc_X0_holds_e C ha_r0 x1 x3 x5 σ hw s.heap [] ls hO hl)
abbrev rc_X6_last : Room := { frames := 0, cells := 0, slots := 0, locals := 0 }
set_option maxRecDepth 100000 in
set_option maxHeartbeats 4000000 in
theorem kc_X6_last_5 {p : Program} {l : Launch} {e : Env} {s : State} {m : MethodId} {args : Array Value} {below : List Frame} {meth : Method} {c : Code} {D : va_G} {y : Nat → ClassId} {ad t : Nat → Nat} {X : va_W} {A : Nat → Prop} {Q : Int32 → cS → Prop} (C : cC p s m args meth c cX6_last 2 (some .int) RX6 wsX6_last D y t A) {r0 : Nat} (ha_r0 : cJ r0 = true) (n : Nat) : ∀ (x1 : Int32) (σ : cS), v_X6_last_5 Q r0 n x1 σ → ∀ (H : Heap) (locs : List Loc) (ls : Array Slot), cO D y ad X A s.heap H locs σ → lv_has ls 2 [(0, .ref (ad r0)), (1, .int x1)] → W p l e rc_X6_last s m args below meth c H locs 0 0 (MQ below (va_Qi Q (cB D y ad X A) A) args s 0 0 A) (F0 m 5 ls []) := by
  obtain ⟨hx, hb, hr, hml, hown, hts, hlk, hK, hA, hTs, hNw⟩ := id C
  induction n with
  | zero =>
    intro x1 σ hw
    exact (show False from hw).elim
  | succ n ih =>
    intro x1 σ hw H locs ls hO hl
    unfold v_X6_last_5 at hw
    refine lv_iload_n hx hb dX6_last_5 rfl (lv_at hl 1 rfl) ?_
    refine lv_if_lt (tgt := 25) hx hb dX6_last_6 (by decide) (fun hc => ?_) (fun hc => ?_)
    · have hw := hw.1 hc
      refine lv_iconst (v := -1) hx hb dX6_last_25 (by decide) ?_
      exact cx_iret C hO hw dX6_last_26
    · have hw := hw.2 hc
      refine lv_aload_n hx hb dX6_last_9 rfl (lv_at hl 0 rfl) ?_
      refine lv_iload_n hx hb dX6_last_10 rfl (lv_at hl 1 rfl) ?_
      refine cx_lald C hO (a := r0) ha_r0 hw.1 dX6_last_11 ?_
      have hw := hw.2
      refine lv_lconst (v := 0) hx hb dX6_last_12 (by decide) ?_
      refine W.lcmp hx hb dX6_last_13 ?_
      refine lv_if_eq (tgt := 19) hx hb dX6_last_14 (by decide) (fun hc => ?_) (fun hc => ?_)
      · have hc := (lg_cmp_eq _ _).mp hc
        have hw := hw.1 hc
        obtain ⟨x1_101, ex1_101⟩ : ∃ y : Int32, y = x1 + (-1) := ⟨_, rfl⟩
        have hw := hw x1_101 ex1_101
        refine lv_iinc (v := x1_101) (lv' := [(1, .int x1_101), (0, .ref (ad r0))]) hx hb dX6_last_19 hl (k := 1) rfl (by rw [ex1_101]; rfl) (by decide) rfl (fun ls hl => ?_)
        refine lv_goto (tgt := 5) hx hb dX6_last_22 (by decide) ?_
        exact ih x1_101 σ hw H locs ls hO (lv_sub hl [1, 0] rfl)
      · have hc := (not_congr (lg_cmp_eq _ _)).mp hc
        have hw := hw.2 hc
        refine lv_iload_n hx hb dX6_last_17 rfl (lv_at hl 1 rfl) ?_
        exact cx_iret C hO hw dX6_last_18
set_option maxRecDepth 100000 in
set_option maxHeartbeats 4000000 in
theorem kc_X6_last_e {p : Program} {l : Launch} {e : Env} {s : State} {m : MethodId} {args : Array Value} {below : List Frame} {meth : Method} {c : Code} {D : va_G} {y : Nat → ClassId} {ad t : Nat → Nat} {X : va_W} {A : Nat → Prop} {Q : Int32 → cS → Prop} (C : cC p s m args meth c cX6_last 2 (some .int) RX6 wsX6_last D y t A) {r0 : Nat} (ha_r0 : cJ r0 = true)  (σ : cS) (hw : v_X6_last Q r0 σ) (H : Heap) (locs : List Loc) (ls : Array Slot) (hO : cO D y ad X A s.heap H locs σ) (hl : lv_has ls 2 [(0, .ref (ad r0))]) : W p l e rc_X6_last s m args below meth c H locs 0 0 (MQ below (va_Qi Q (cB D y ad X A) A) args s 0 0 A) (F0 m 0 ls []) := by
  obtain ⟨hx, hb, hr, hml, hown, hts, hlk, hK, hA, hTs, hNw⟩ := id C
  unfold v_X6_last at hw
  refine lv_aload_n hx hb dX6_last_0 rfl (lv_at hl 0 rfl) ?_
  refine cx_alen C hO (a := r0) ha_r0 dX6_last_1 ?_
  refine lv_iconst (v := 1) hx hb dX6_last_2 (by decide) ?_
  refine lv_isub hx hb dX6_last_3 ?_
  refine lv_topi (fun x1_101 ex1_101 => ?_)
  have hw := hw x1_101 ex1_101
  refine lv_istore_n (lv' := [(1, .int x1_101), (0, .ref (ad r0))]) hx hb dX6_last_4 rfl hl (by decide) rfl (fun ls hl => ?_)
  exact kc_X6_last_5 C ha_r0 fuL x1_101 σ hw H locs ls hO (lv_sub hl [1, 0] rfl)
theorem cc_X6_last (l : Launch) (D : va_G) (y : Nat → ClassId) (ad t : Nat → Nat) (X : va_W) (σ : cS) (r0 : Nat) (ha_r0 : cJ r0 = true) (Q : Int32 → cS → Prop) (hw : v_X6_last Q r0 σ) : ∀ sz, Met l yX6_last wsX6_last rc_X6_last (va_Pc [.ref (ad r0)] (cPre D y ad t X sz σ)) (va_Qi Q (cB D y ad X (va_A (cW y ad σ ++ X) sz)) (va_A (cW y ad σ ++ X) sz)) 0 0 (va_A (cW y ad σ ++ X) sz) :=
  cMet (Qc := fun A => va_Qi Q (cB D y ad X A) A) (by decide) (own := RX6) rfl (Nat.le_of_ble_eq_true rfl) (fun p e s m args below meth c A ls C hO hl => kc_X6_last_e C ha_r0 σ hw s.heap [] ls hO hl)
abbrev rc_X1_topOfW : Room := { frames := 1, cells := 0, slots := 0, locals := 21 }
set_option maxRecDepth 100000 in
set_option maxHeartbeats 4000000 in
theorem kc_X1_topOfW_16 {p : Program} {l : Launch} {e : Env} {s : State} {m : MethodId} {args : Array Value} {below : List Frame} {meth : Method} {c : Code} {D : va_G} {y : Nat → ClassId} {ad t : Nat → Nat} {X : va_W} {A : Nat → Prop} {Q : Int32 → cS → Prop} (C : cC p s m args meth c cX1_topOfW 2 (some .int) RX1 wsX1_topOfW D y t A) {r0 : Nat} (ha_r0 : cJ r0 = true) (z0 : Int32) (σ : cS) (hw : v_X1_topOfW_16 Q r0 z0 σ) (H : Heap) (locs : List Loc) (ls : Array Slot) (hO : cO D y ad X A s.heap H locs σ) (hl : lv_has ls 2 []) : W p l e rc_X1_topOfW s m args below meth c H locs 0 0 (MQ below (va_Qi Q (cB D y ad X A) A) args s 0 0 A) (F0 m 16 ls [.int z0]) := by
  obtain ⟨hx, hb, hr, hml, hown, hts, hlk, hK, hA, hTs, hNw⟩ := id C
  unfold v_X1_topOfW_16 at hw
  exact cx_iret C hO hw dX1_topOfW_16
set_option maxRecDepth 100000 in
set_option maxHeartbeats 4000000 in
theorem kc_X1_topOfW_e {p : Program} {l : Launch} {e : Env} {s : State} {m : MethodId} {args : Array Value} {below : List Frame} {meth : Method} {c : Code} {D : va_G} {y : Nat → ClassId} {ad t : Nat → Nat} {X : va_W} {A : Nat → Prop} {Q : Int32 → cS → Prop} (C : cC p s m args meth c cX1_topOfW 2 (some .int) RX1 wsX1_topOfW D y t A) {r0 : Nat} (ha_r0 : cJ r0 = true)  (σ : cS) (hw : v_X1_topOfW Q r0 σ) (H : Heap) (locs : List Loc) (ls : Array Slot) (hO : cO D y ad X A s.heap H locs σ) (hl : lv_has ls 2 [(0, .ref (ad r0))]) : W p l e rc_X1_topOfW s m args below meth c H locs 0 0 (MQ below (va_Qi Q (cB D y ad X A) A) args s 0 0 A) (F0 m 0 ls []) := by
  obtain ⟨hx, hb, hr, hml, hown, hts, hlk, hK, hA, hTs, hNw⟩ := id C
  unfold v_X1_topOfW at hw
  refine lv_aload_n hx hb dX1_topOfW_0 rfl (lv_at hl 0 rfl) ?_
  refine cx_cis C hO (cc_X6_last l D y ad t X σ r0 ha_r0 _ hw) (va_cwS 1 hts gX1_topOfW_X6_last rfl rfl rfl (by decide +kernel) ⟨Nat.le_of_ble_eq_true rfl, Nat.le_of_ble_eq_true rfl⟩) rfl hl.1 rfl (lv_room (Nat.le_of_ble_eq_true rfl)) dX1_topOfW_1 (fun u101 σ102 H locs hw hO => ?_)
  refine lv_istore_n (lv' := [(1, .int u101), (0, .ref (ad r0))]) hx hb dX1_topOfW_4 rfl hl (by decide) rfl (fun ls hl => ?_)
  refine lv_iload_n hx hb dX1_topOfW_5 rfl (lv_at hl 0 rfl) ?_
  refine lv_bipush (v := 8) hx hb dX1_topOfW_6 (by decide) ?_
  refine lv_icmp_ge (tgt := 15) hx hb dX1_topOfW_8 (by decide) (fun hc => ?_) (fun hc => ?_)
  · have hw := hw.1 hc
    refine lv_iload_n hx hb dX1_topOfW_15 rfl (lv_at hl 0 rfl) ?_
    exact kc_X1_topOfW_16 C ha_r0 u101 σ102 hw H locs ls hO (lv_sub hl [] rfl)
  · have hw := hw.2 hc
    refine lv_iconst (v := -1) hx hb dX1_topOfW_11 (by decide) ?_
    refine lv_goto (tgt := 16) hx hb dX1_topOfW_12 (by decide) ?_
    exact kc_X1_topOfW_16 C ha_r0 ((-1 : Int32)) σ102 hw H locs ls hO (lv_sub hl [] rfl)
theorem cc_X1_topOfW (l : Launch) (D : va_G) (y : Nat → ClassId) (ad t : Nat → Nat) (X : va_W) (σ : cS) (r0 : Nat) (ha_r0 : cJ r0 = true) (Q : Int32 → cS → Prop) (hw : v_X1_topOfW Q r0 σ) : ∀ sz, Met l yX1_topOfW wsX1_topOfW rc_X1_topOfW (va_Pc [.ref (ad r0)] (cPre D y ad t X sz σ)) (va_Qi Q (cB D y ad X (va_A (cW y ad σ ++ X) sz)) (va_A (cW y ad σ ++ X) sz)) 0 0 (va_A (cW y ad σ ++ X) sz) :=
  cMet (Qc := fun A => va_Qi Q (cB D y ad X A) A) (by decide) (own := RX1) rfl (Nat.le_of_ble_eq_true rfl) (fun p e s m args below meth c A ls C hO hl => kc_X1_topOfW_e C ha_r0 σ hw s.heap [] ls hO hl)
abbrev rc_J7_fill_d0a16 : Room := { frames := 0, cells := 0, slots := 0, locals := 0 }
set_option maxRecDepth 100000 in
set_option maxHeartbeats 4000000 in
theorem kc_J7_fill_d0a16_6 {p : Program} {l : Launch} {e : Env} {s : State} {m : MethodId} {args : Array Value} {below : List Frame} {meth : Method} {c : Code} {D : va_G} {y : Nat → ClassId} {ad t : Nat → Nat} {X : va_W} {A : Nat → Prop} {Q : cS → Prop} (C : cC p s m args meth c cJ7_fill_d0a16 5 none RJ7 wsJ7_fill_d0a16 D y t A) {r0 : Nat} (ha_r0 : cJ r0 = true) (n : Nat) : ∀ (x1 : Int64) (x3 : Int32) (x4 : Int32) (σ : cS), v_J7_fill_d0a16_6 Q r0 n x1 x3 x4 σ → ∀ (H : Heap) (locs : List Loc) (ls : Array Slot), cO D y ad X A s.heap H locs σ → lv_has ls 5 [(0, .ref (ad r0)), (1, .long x1), (3, .int x3), (4, .int x4)] → W p l e rc_J7_fill_d0a16 s m args below meth c H locs 0 0 (MQ below (va_Qv Q (cB D y ad X A) A) args s 0 0 A) (F0 m 6 ls []) := by
  obtain ⟨hx, hb, hr, hml, hown, hts, hlk, hK, hA, hTs, hNw⟩ := id C
  induction n with
  | zero =>
    intro x1 x3 x4 σ hw
    exact (show False from hw).elim
  | succ n ih =>
    intro x1 x3 x4 σ hw H locs ls hO hl
    unfold v_J7_fill_d0a16_6 at hw
    refine lv_iload_n hx hb dJ7_fill_d0a16_6 rfl (lv_at hl 2 rfl) ?_
    refine lv_iload hx hb dJ7_fill_d0a16_7 (lv_at hl 3 rfl) ?_
    refine lv_icmp_ge (tgt := 22) hx hb dJ7_fill_d0a16_9 (by decide) (fun hc => ?_) (fun hc => ?_)
    · have hw := hw.1 hc
      exact cx_vret C hO hw dJ7_fill_d0a16_22
    · have hw := hw.2 hc
      refine lv_aload_n hx hb dJ7_fill_d0a16_12 rfl (lv_at hl 0 rfl) ?_
      refine lv_iload_n hx hb dJ7_fill_d0a16_13 rfl (lv_at hl 2 rfl) ?_
      refine lv_lload_n hx hb dJ7_fill_d0a16_14 rfl (lv_at hl 1 rfl) ?_
      refine cx_last C hO (a := r0) ha_r0 hw.1 dJ7_fill_d0a16_15 (fun H locs σ101 eσ101 hO => ?_)
      have hw := hw.2 σ101 eσ101
      obtain ⟨x3_102, ex3_102⟩ : ∃ y : Int32, y = x3 + 1 := ⟨_, rfl⟩
      have hw := hw x3_102 ex3_102
      refine lv_iinc (v := x3_102) (lv' := [(3, .int x3_102), (0, .ref (ad r0)), (1, .long x1), (4, .int x4)]) hx hb dJ7_fill_d0a16_16 hl (k := 2) rfl (by rw [ex3_102]; rfl) (by decide) rfl (fun ls hl => ?_)
      refine lv_goto (tgt := 6) hx hb dJ7_fill_d0a16_19 (by decide) ?_
      exact ih x1 x3_102 x4 σ101 hw H locs ls hO (lv_sub hl [1, 2, 0, 3] rfl)
set_option maxRecDepth 100000 in
set_option maxHeartbeats 4000000 in
theorem kc_J7_fill_d0a16_e {p : Program} {l : Launch} {e : Env} {s : State} {m : MethodId} {args : Array Value} {below : List Frame} {meth : Method} {c : Code} {D : va_G} {y : Nat → ClassId} {ad t : Nat → Nat} {X : va_W} {A : Nat → Prop} {Q : cS → Prop} (C : cC p s m args meth c cJ7_fill_d0a16 5 none RJ7 wsJ7_fill_d0a16 D y t A) {r0 : Nat} (ha_r0 : cJ r0 = true) (x1 : Int64) (σ : cS) (hw : v_J7_fill_d0a16 Q r0 x1 σ) (H : Heap) (locs : List Loc) (ls : Array Slot) (hO : cO D y ad X A s.heap H locs σ) (hl : lv_has ls 5 [(0, .ref (ad r0)), (1, .long x1)]) : W p l e rc_J7_fill_d0a16 s m args below meth c H locs 0 0 (MQ below (va_Qv Q (cB D y ad X A) A) args s 0 0 A) (F0 m 0 ls []) := by
  obtain ⟨hx, hb, hr, hml, hown, hts, hlk, hK, hA, hTs, hNw⟩ := id C
  unfold v_J7_fill_d0a16 at hw
  refine lv_iconst (v := 0) hx hb dJ7_fill_d0a16_0 (by decide) ?_
  refine lv_istore_n (lv' := [(3, .int ((0 : Int32))), (0, .ref (ad r0)), (1, .long x1)]) hx hb dJ7_fill_d0a16_1 rfl hl (by decide) rfl (fun ls hl => ?_)
  refine lv_aload_n hx hb dJ7_fill_d0a16_2 rfl (lv_at hl 1 rfl) ?_
  refine cx_alen C hO (a := r0) ha_r0 dJ7_fill_d0a16_3 ?_
  refine lv_topi (fun x4_101 ex4_101 => ?_)
  have hw := hw x4_101 ex4_101
  refine lv_istore (lv' := [(4, .int x4_101), (3, .int ((0 : Int32))), (0, .ref (ad r0)), (1, .long x1)]) hx hb dJ7_fill_d0a16_4 hl (by decide) rfl (fun ls hl => ?_)
  exact kc_J7_fill_d0a16_6 C ha_r0 fuL x1 ((0 : Int32)) x4_101 σ hw H locs ls hO (lv_sub hl [2, 3, 1, 0] rfl)
theorem cc_J7_fill_d0a16 (l : Launch) (D : va_G) (y : Nat → ClassId) (ad t : Nat → Nat) (X : va_W) (σ : cS) (r0 : Nat) (x1 : Int64) (ha_r0 : cJ r0 = true) (Q : cS → Prop) (hw : v_J7_fill_d0a16 Q r0 x1 σ) : ∀ sz, Met l yJ7_fill_d0a16 wsJ7_fill_d0a16 rc_J7_fill_d0a16 (va_Pc [.ref (ad r0), .long x1] (cPre D y ad t X sz σ)) (va_Qv Q (cB D y ad X (va_A (cW y ad σ ++ X) sz)) (va_A (cW y ad σ ++ X) sz)) 0 0 (va_A (cW y ad σ ++ X) sz) :=
  cMet (Qc := fun A => va_Qv Q (cB D y ad X A) A) (by decide) (own := RJ7) rfl (Nat.le_of_ble_eq_true rfl) (fun p e s m args below meth c A ls C hO hl => kc_J7_fill_d0a16_e C ha_r0 x1 σ hw s.heap [] ls hO hl)
abbrev rc_X6_divisor : Room := { frames := 1, cells := 0, slots := 0, locals := 21 }
set_option maxRecDepth 100000 in
set_option maxHeartbeats 4000000 in
theorem kc_X6_divisor_50 {p : Program} {l : Launch} {e : Env} {s : State} {m : MethodId} {args : Array Value} {below : List Frame} {meth : Method} {c : Code} {D : va_G} {y : Nat → ClassId} {ad t : Nat → Nat} {X : va_W} {A : Nat → Prop} {Q : Int64 → cS → Prop} (C : cC p s m args meth c cX6_divisor 11 (some .long) RX6 wsX6_divisor D y t A) (x4 : Int64) (σ : cS) (hw : v_X6_divisor_50 Q x4 σ) (H : Heap) (locs : List Loc) (ls : Array Slot) (hO : cO D y ad X A s.heap H locs σ) (hl : lv_has ls 11 [(4, .long x4)]) : W p l e rc_X6_divisor s m args below meth c H locs 0 0 (MQ below (va_Ql Q (cB D y ad X A) A) args s 0 0 A) (F0 m 50 ls []) := by
  obtain ⟨hx, hb, hr, hml, hown, hts, hlk, hK, hA, hTs, hNw⟩ := id C
  unfold v_X6_divisor_50 at hw
  refine lv_lload hx hb dX6_divisor_50 (lv_at hl 0 rfl) ?_
  exact cx_lret C hO hw dX6_divisor_52
set_option maxRecDepth 100000 in
set_option maxHeartbeats 4000000 in
theorem kc_X6_divisor_15 {p : Program} {l : Launch} {e : Env} {s : State} {m : MethodId} {args : Array Value} {below : List Frame} {meth : Method} {c : Code} {D : va_G} {y : Nat → ClassId} {ad t : Nat → Nat} {X : va_W} {A : Nat → Prop} {Q : Int64 → cS → Prop} (C : cC p s m args meth c cX6_divisor 11 (some .long) RX6 wsX6_divisor D y t A) (n : Nat) : ∀ (x4 : Int64) (x6 : Int64) (x8 : Int32) (σ : cS), v_X6_divisor_15 Q n x4 x6 x8 σ → ∀ (H : Heap) (locs : List Loc) (ls : Array Slot), cO D y ad X A s.heap H locs σ → lv_has ls 11 [(4, .long x4), (6, .long x6), (8, .int x8)] → W p l e rc_X6_divisor s m args below meth c H locs 0 0 (MQ below (va_Ql Q (cB D y ad X A) A) args s 0 0 A) (F0 m 15 ls []) := by
  obtain ⟨hx, hb, hr, hml, hown, hts, hlk, hK, hA, hTs, hNw⟩ := id C
  induction n with
  | zero =>
    intro x4 x6 x8 σ hw
    exact (show False from hw).elim
  | succ n ih =>
    intro x4 x6 x8 σ hw H locs ls hO hl
    unfold v_X6_divisor_15 at hw
    refine lv_lload hx hb dX6_divisor_15 (lv_at hl 1 rfl) ?_
    refine lv_lconst (v := 0) hx hb dX6_divisor_17 (by decide) ?_
    refine W.lcmp hx hb dX6_divisor_18 ?_
    refine lv_if_eq (tgt := 50) hx hb dX6_divisor_19 (by decide) (fun hc => ?_) (fun hc => ?_)
    · have hc := (lg_cmp_eq _ _).mp hc
      have hw := hw.1 hc
      exact kc_X6_divisor_50 C x4 σ hw H locs ls hO (lv_sub hl [0] rfl)
    · have hc := (not_congr (lg_cmp_eq _ _)).mp hc
      have hw := hw.2 hc
      refine lv_iload hx hb dX6_divisor_22 (lv_at hl 2 rfl) ?_
      refine lv_bipush (v := 100) hx hb dX6_divisor_24 (by decide) ?_
      refine lv_icmp_ge (tgt := 50) hx hb dX6_divisor_26 (by decide) (fun hc => ?_) (fun hc => ?_)
      · have hw := hw.1 hc
        exact kc_X6_divisor_50 C x4 σ hw H locs ls hO (lv_sub hl [0] rfl)
      · have hw := hw.2 hc
        refine lv_lload hx hb dX6_divisor_29 (lv_at hl 0 rfl) ?_
        refine lv_lload hx hb dX6_divisor_31 (lv_at hl 1 rfl) ?_
        refine lv_lrem hx hb dX6_divisor_33 hw.1 ?_
        have hw := hw.2
        refine lv_topl (fun x9_101 ex9_101 => ?_)
        have hw := hw x9_101 ex9_101
        refine lv_lstore (lv' := [(9, .long x9_101), (4, .long x4), (6, .long x6), (8, .int x8)]) hx hb dX6_divisor_34 hl (by decide) rfl (fun ls hl => ?_)
        refine lv_lload hx hb dX6_divisor_36 (lv_at hl 2 rfl) ?_
        refine lv_lstore (lv' := [(4, .long x6), (9, .long x9_101), (6, .long x6), (8, .int x8)]) hx hb dX6_divisor_38 hl (by decide) rfl (fun ls hl => ?_)
        refine lv_lload hx hb dX6_divisor_40 (lv_at hl 1 rfl) ?_
        refine lv_lstore (lv' := [(6, .long x9_101), (4, .long x6), (9, .long x9_101), (8, .int x8)]) hx hb dX6_divisor_42 hl (by decide) rfl (fun ls hl => ?_)
        obtain ⟨x8_102, ex8_102⟩ : ∃ y : Int32, y = x8 + 1 := ⟨_, rfl⟩
        have hw := hw x8_102 ex8_102
        refine lv_iinc (v := x8_102) (lv' := [(8, .int x8_102), (6, .long x9_101), (4, .long x6), (9, .long x9_101)]) hx hb dX6_divisor_44 hl (k := 3) rfl (by rw [ex8_102]; rfl) (by decide) rfl (fun ls hl => ?_)
        refine lv_goto (tgt := 15) hx hb dX6_divisor_47 (by decide) ?_
        exact ih x6 x9_101 x8_102 σ hw H locs ls hO (lv_sub hl [2, 1, 0] rfl)
set_option maxRecDepth 100000 in
set_option maxHeartbeats 4000000 in
theorem kc_X6_divisor_e {p : Program} {l : Launch} {e : Env} {s : State} {m : MethodId} {args : Array Value} {below : List Frame} {meth : Method} {c : Code} {D : va_G} {y : Nat → ClassId} {ad t : Nat → Nat} {X : va_W} {A : Nat → Prop} {Q : Int64 → cS → Prop} (C : cC p s m args meth c cX6_divisor 11 (some .long) RX6 wsX6_divisor D y t A) (x0 : Int64) (x2 : Int64) (σ : cS) (hw : v_X6_divisor Q x0 x2 σ) (H : Heap) (locs : List Loc) (ls : Array Slot) (hO : cO D y ad X A s.heap H locs σ) (hl : lv_has ls 11 [(0, .long x0), (2, .long x2)]) : W p l e rc_X6_divisor s m args below meth c H locs 0 0 (MQ below (va_Ql Q (cB D y ad X A) A) args s 0 0 A) (F0 m 0 ls []) := by
  obtain ⟨hx, hb, hr, hml, hown, hts, hlk, hK, hA, hTs, hNw⟩ := id C
  unfold v_X6_divisor at hw
  refine lv_lload_n hx hb dX6_divisor_0 rfl (lv_at hl 0 rfl) ?_
  refine va_mabs_long hx hb (by rw [hml]; exact hl.1.symm) hown (hts (.methodLink RX6 7 Lib.MathLoose.abs_long.x) (by decide +kernel)) (hts (.static Lib.MathLoose.abs_long.x) (by decide +kernel)) (hts (.initialized "java/lang/Math") (by decide +kernel)) (hts (.code Lib.MathLoose.abs_long.x Lib.MathLoose.abs_long.code 2 (some .long)) (by decide +kernel)) (Nat.le_of_ble_eq_true rfl) (Nat.le_of_ble_eq_true rfl) (Nat.zero_le _) (Nat.zero_le _) dX6_divisor_1 ?_
  refine lv_topl (fun a101 ea101 => ?_)
  have hw := hw a101 ea101
  refine lv_lstore (lv' := [(4, .long a101), (0, .long x0), (2, .long x2)]) hx hb dX6_divisor_4 hl (by decide) rfl (fun ls hl => ?_)
  refine lv_lload_n hx hb dX6_divisor_6 rfl (lv_at hl 2 rfl) ?_
  refine va_mabs_long hx hb (by rw [hml]; exact hl.1.symm) hown (hts (.methodLink RX6 7 Lib.MathLoose.abs_long.x) (by decide +kernel)) (hts (.static Lib.MathLoose.abs_long.x) (by decide +kernel)) (hts (.initialized "java/lang/Math") (by decide +kernel)) (hts (.code Lib.MathLoose.abs_long.x Lib.MathLoose.abs_long.code 2 (some .long)) (by decide +kernel)) (Nat.le_of_ble_eq_true rfl) (Nat.le_of_ble_eq_true rfl) (Nat.zero_le _) (Nat.zero_le _) dX6_divisor_7 ?_
  refine lv_topl (fun a102 ea102 => ?_)
  have hw := hw a102 ea102
  refine lv_lstore (lv' := [(6, .long a102), (4, .long a101), (0, .long x0), (2, .long x2)]) hx hb dX6_divisor_10 hl (by decide) rfl (fun ls hl => ?_)
  refine lv_iconst (v := 0) hx hb dX6_divisor_12 (by decide) ?_
  refine lv_istore (lv' := [(8, .int ((0 : Int32))), (6, .long a102), (4, .long a101), (0, .long x0), (2, .long x2)]) hx hb dX6_divisor_13 hl (by decide) rfl (fun ls hl => ?_)
  exact kc_X6_divisor_15 C fuL a101 a102 ((0 : Int32)) σ hw H locs ls hO (lv_sub hl [2, 1, 0] rfl)
theorem cc_X6_divisor (l : Launch) (D : va_G) (y : Nat → ClassId) (ad t : Nat → Nat) (X : va_W) (σ : cS) (x0 : Int64) (x2 : Int64) (Q : Int64 → cS → Prop) (hw : v_X6_divisor Q x0 x2 σ) : ∀ sz, Met l yX6_divisor wsX6_divisor rc_X6_divisor (va_Pc [.long x0, .long x2] (cPre D y ad t X sz σ)) (va_Ql Q (cB D y ad X (va_A (cW y ad σ ++ X) sz)) (va_A (cW y ad σ ++ X) sz)) 0 0 (va_A (cW y ad σ ++ X) sz) :=
  cMet (Qc := fun A => va_Ql Q (cB D y ad X A) A) (by decide) (own := RX6) rfl (Nat.le_of_ble_eq_true rfl) (fun p e s m args below meth c A ls C hO hl => kc_X6_divisor_e C x0 x2 σ hw s.heap [] ls hO hl)
abbrev rc_X6_takeOffDivisor : Room := { frames := 2, cells := 0, slots := 0, locals := 51 }
set_option maxRecDepth 100000 in
set_option maxHeartbeats 4000000 in
theorem kc_X6_takeOffDivisor_51 {p : Program} {l : Launch} {e : Env} {s : State} {m : MethodId} {args : Array Value} {below : List Frame} {meth : Method} {c : Code} {D : va_G} {y : Nat → ClassId} {ad t : Nat → Nat} {X : va_W} {A : Nat → Prop} {Q : cS → Prop} (C : cC p s m args meth c cX6_takeOffDivisor 4 none RX6 wsX6_takeOffDivisor D y t A) {r0 : Nat} (ha_r0 : cJ r0 = true)  (σ : cS) (hw : v_X6_takeOffDivisor_51 Q r0 σ) (H : Heap) (locs : List Loc) (ls : Array Slot) (hO : cO D y ad X A s.heap H locs σ) (hl : lv_has ls 4 []) : W p l e rc_X6_takeOffDivisor s m args below meth c H locs 0 0 (MQ below (va_Qv Q (cB D y ad X A) A) args s 0 0 A) (F0 m 51 ls []) := by
  obtain ⟨hx, hb, hr, hml, hown, hts, hlk, hK, hA, hTs, hNw⟩ := id C
  unfold v_X6_takeOffDivisor_51 at hw
  exact cx_vret C hO hw dX6_takeOffDivisor_51
set_option maxRecDepth 100000 in
set_option maxHeartbeats 4000000 in
theorem kc_X6_takeOffDivisor_32 {p : Program} {l : Launch} {e : Env} {s : State} {m : MethodId} {args : Array Value} {below : List Frame} {meth : Method} {c : Code} {D : va_G} {y : Nat → ClassId} {ad t : Nat → Nat} {X : va_W} {A : Nat → Prop} {Q : cS → Prop} (C : cC p s m args meth c cX6_takeOffDivisor 4 none RX6 wsX6_takeOffDivisor D y t A) {r0 : Nat} (ha_r0 : cJ r0 = true) (n : Nat) : ∀ (x1 : Int64) (x3 : Int32) (σ : cS), v_X6_takeOffDivisor_32 Q r0 n x1 x3 σ → ∀ (H : Heap) (locs : List Loc) (ls : Array Slot), cO D y ad X A s.heap H locs σ → lv_has ls 4 [(0, .ref (ad r0)), (1, .long x1), (3, .int x3)] → W p l e rc_X6_takeOffDivisor s m args below meth c H locs 0 0 (MQ below (va_Qv Q (cB D y ad X A) A) args s 0 0 A) (F0 m 32 ls []) := by
  obtain ⟨hx, hb, hr, hml, hown, hts, hlk, hK, hA, hTs, hNw⟩ := id C
  induction n with
  | zero =>
    intro x1 x3 σ hw
    exact (show False from hw).elim
  | succ n ih =>
    intro x1 x3 σ hw H locs ls hO hl
    unfold v_X6_takeOffDivisor_32 at hw
    refine lv_iload_n hx hb dX6_takeOffDivisor_32 rfl (lv_at hl 2 rfl) ?_
    refine lv_aload_n hx hb dX6_takeOffDivisor_33 rfl (lv_at hl 0 rfl) ?_
    refine cx_alen C hO (a := r0) ha_r0 dX6_takeOffDivisor_34 ?_
    refine lv_icmp_ge (tgt := 51) hx hb dX6_takeOffDivisor_35 (by decide) (fun hc => ?_) (fun hc => ?_)
    · have hw := hw.1 hc
      exact kc_X6_takeOffDivisor_51 C ha_r0 σ hw H locs ls hO (lv_sub hl [] rfl)
    · have hw := hw.2 hc
      refine lv_aload_n hx hb dX6_takeOffDivisor_38 rfl (lv_at hl 0 rfl) ?_
      refine lv_iload_n hx hb dX6_takeOffDivisor_39 rfl (lv_at hl 2 rfl) ?_
      refine lv_dup2_11 hx hb dX6_takeOffDivisor_40 rfl rfl ?_
      refine cx_lald C hO (a := r0) ha_r0 hw.1 dX6_takeOffDivisor_41 ?_
      have hw := hw.2
      refine lv_lload_n hx hb dX6_takeOffDivisor_42 rfl (lv_at hl 1 rfl) ?_
      refine lv_ldiv hx hb dX6_takeOffDivisor_43 hw.1 ?_
      have hw := hw.2
      refine cx_last C hO (a := r0) ha_r0 hw.1 dX6_takeOffDivisor_44 (fun H locs σ101 eσ101 hO => ?_)
      have hw := hw.2 σ101 eσ101
      obtain ⟨x3_102, ex3_102⟩ : ∃ y : Int32, y = x3 + 1 := ⟨_, rfl⟩
      have hw := hw x3_102 ex3_102
      refine lv_iinc (v := x3_102) (lv' := [(3, .int x3_102), (0, .ref (ad r0)), (1, .long x1)]) hx hb dX6_takeOffDivisor_45 hl (k := 2) rfl (by rw [ex3_102]; rfl) (by decide) rfl (fun ls hl => ?_)
      refine lv_goto (tgt := 32) hx hb dX6_takeOffDivisor_48 (by decide) ?_
      exact ih x1 x3_102 σ101 hw H locs ls hO (lv_sub hl [1, 2, 0] rfl)
set_option maxRecDepth 100000 in
set_option maxHeartbeats 4000000 in
theorem kc_X6_takeOffDivisor_4 {p : Program} {l : Launch} {e : Env} {s : State} {m : MethodId} {args : Array Value} {below : List Frame} {meth : Method} {c : Code} {D : va_G} {y : Nat → ClassId} {ad t : Nat → Nat} {X : va_W} {A : Nat → Prop} {Q : cS → Prop} (C : cC p s m args meth c cX6_takeOffDivisor 4 none RX6 wsX6_takeOffDivisor D y t A) {r0 : Nat} (ha_r0 : cJ r0 = true) (n : Nat) : ∀ (x1 : Int64) (x3 : Int32) (σ : cS), v_X6_takeOffDivisor_4 Q r0 n x1 x3 σ → ∀ (H : Heap) (locs : List Loc) (ls : Array Slot), cO D y ad X A s.heap H locs σ → lv_has ls 4 [(0, .ref (ad r0)), (1, .long x1), (3, .int x3)] → W p l e rc_X6_takeOffDivisor s m args below meth c H locs 0 0 (MQ below (va_Qv Q (cB D y ad X A) A) args s 0 0 A) (F0 m 4 ls []) := by
  obtain ⟨hx, hb, hr, hml, hown, hts, hlk, hK, hA, hTs, hNw⟩ := id C
  induction n with
  | zero =>
    intro x1 x3 σ hw
    exact (show False from hw).elim
  | succ n ih =>
    intro x1 x3 σ hw H locs ls hO hl
    unfold v_X6_takeOffDivisor_4 at hw
    refine lv_iload_n hx hb dX6_takeOffDivisor_4 rfl (lv_at hl 2 rfl) ?_
    refine lv_aload_n hx hb dX6_takeOffDivisor_5 rfl (lv_at hl 0 rfl) ?_
    refine cx_alen C hO (a := r0) ha_r0 dX6_takeOffDivisor_6 ?_
    refine lv_icmp_ge (tgt := 24) hx hb dX6_takeOffDivisor_7 (by decide) (fun hc => ?_) (fun hc => ?_)
    · have hw := hw.1 hc
      refine lv_lload_n hx hb dX6_takeOffDivisor_24 rfl (lv_at hl 1 rfl) ?_
      refine lv_lconst (v := 1) hx hb dX6_takeOffDivisor_25 (by decide) ?_
      refine W.lcmp hx hb dX6_takeOffDivisor_26 ?_
      refine lv_if_le (tgt := 51) hx hb dX6_takeOffDivisor_27 (by decide) (fun hc => ?_) (fun hc => ?_)
      · have hc := (lg_cmp_le _ _).mp hc
        have hw := hw.1 hc
        exact kc_X6_takeOffDivisor_51 C ha_r0 σ hw H locs ls hO (lv_sub hl [] rfl)
      · have hc := (not_congr (lg_cmp_le _ _)).mp hc
        have hw := hw.2 hc
        refine lv_iconst (v := 0) hx hb dX6_takeOffDivisor_30 (by decide) ?_
        refine lv_istore_n (lv' := [(3, .int ((0 : Int32))), (0, .ref (ad r0)), (1, .long x1)]) hx hb dX6_takeOffDivisor_31 rfl hl (by decide) rfl (fun ls hl => ?_)
        exact kc_X6_takeOffDivisor_32 C ha_r0 fuL x1 ((0 : Int32)) σ hw H locs ls hO (lv_sub hl [1, 2, 0] rfl)
    · have hw := hw.2 hc
      refine lv_lload_n hx hb dX6_takeOffDivisor_10 rfl (lv_at hl 1 rfl) ?_
      refine lv_aload_n hx hb dX6_takeOffDivisor_11 rfl (lv_at hl 0 rfl) ?_
      refine lv_iload_n hx hb dX6_takeOffDivisor_12 rfl (lv_at hl 2 rfl) ?_
      refine cx_lald C hO (a := r0) ha_r0 hw.1 dX6_takeOffDivisor_13 ?_
      have hw := hw.2
      refine cx_cls C hO (cc_X6_divisor l D y ad t X σ x1 (σ.1 r0 (x3).toNatClampNeg) _ hw) (va_cwS 2 hts gX6_takeOffDivisor_X6_divisor rfl rfl rfl (by decide +kernel) ⟨Nat.le_of_ble_eq_true rfl, Nat.le_of_ble_eq_true rfl⟩) rfl hl.1 rfl (lv_room (Nat.le_of_ble_eq_true rfl)) dX6_takeOffDivisor_14 (fun u101 σ102 H locs hw hO => ?_)
      refine lv_lstore_n (lv' := [(1, .long u101), (0, .ref (ad r0)), (3, .int x3)]) hx hb dX6_takeOffDivisor_17 rfl hl (by decide) rfl (fun ls hl => ?_)
      obtain ⟨x3_103, ex3_103⟩ : ∃ y : Int32, y = x3 + 1 := ⟨_, rfl⟩
      have hw := hw x3_103 ex3_103
      refine lv_iinc (v := x3_103) (lv' := [(3, .int x3_103), (1, .long u101), (0, .ref (ad r0))]) hx hb dX6_takeOffDivisor_18 hl (k := 2) rfl (by rw [ex3_103]; rfl) (by decide) rfl (fun ls hl => ?_)
      refine lv_goto (tgt := 4) hx hb dX6_takeOffDivisor_21 (by decide) ?_
      exact ih u101 x3_103 σ102 hw H locs ls hO (lv_sub hl [2, 1, 0] rfl)
set_option maxRecDepth 100000 in
set_option maxHeartbeats 4000000 in
theorem kc_X6_takeOffDivisor_e {p : Program} {l : Launch} {e : Env} {s : State} {m : MethodId} {args : Array Value} {below : List Frame} {meth : Method} {c : Code} {D : va_G} {y : Nat → ClassId} {ad t : Nat → Nat} {X : va_W} {A : Nat → Prop} {Q : cS → Prop} (C : cC p s m args meth c cX6_takeOffDivisor 4 none RX6 wsX6_takeOffDivisor D y t A) {r0 : Nat} (ha_r0 : cJ r0 = true)  (σ : cS) (hw : v_X6_takeOffDivisor Q r0 σ) (H : Heap) (locs : List Loc) (ls : Array Slot) (hO : cO D y ad X A s.heap H locs σ) (hl : lv_has ls 4 [(0, .ref (ad r0))]) : W p l e rc_X6_takeOffDivisor s m args below meth c H locs 0 0 (MQ below (va_Qv Q (cB D y ad X A) A) args s 0 0 A) (F0 m 0 ls []) := by
  obtain ⟨hx, hb, hr, hml, hown, hts, hlk, hK, hA, hTs, hNw⟩ := id C
  unfold v_X6_takeOffDivisor at hw
  refine lv_lconst (v := 0) hx hb dX6_takeOffDivisor_0 (by decide) ?_
  refine lv_lstore_n (lv' := [(1, .long ((0 : Int64))), (0, .ref (ad r0))]) hx hb dX6_takeOffDivisor_1 rfl hl (by decide) rfl (fun ls hl => ?_)
  refine lv_iconst (v := 0) hx hb dX6_takeOffDivisor_2 (by decide) ?_
  refine lv_istore_n (lv' := [(3, .int ((0 : Int32))), (1, .long ((0 : Int64))), (0, .ref (ad r0))]) hx hb dX6_takeOffDivisor_3 rfl hl (by decide) rfl (fun ls hl => ?_)
  exact kc_X6_takeOffDivisor_4 C ha_r0 fuL ((0 : Int64)) ((0 : Int32)) σ hw H locs ls hO (lv_sub hl [2, 1, 0] rfl)
theorem cc_X6_takeOffDivisor (l : Launch) (D : va_G) (y : Nat → ClassId) (ad t : Nat → Nat) (X : va_W) (σ : cS) (r0 : Nat) (ha_r0 : cJ r0 = true) (Q : cS → Prop) (hw : v_X6_takeOffDivisor Q r0 σ) : ∀ sz, Met l yX6_takeOffDivisor wsX6_takeOffDivisor rc_X6_takeOffDivisor (va_Pc [.ref (ad r0)] (cPre D y ad t X sz σ)) (va_Qv Q (cB D y ad X (va_A (cW y ad σ ++ X) sz)) (va_A (cW y ad σ ++ X) sz)) 0 0 (va_A (cW y ad σ ++ X) sz) :=
  cMet (Qc := fun A => va_Qv Q (cB D y ad X A) A) (by decide) (own := RX6) rfl (Nat.le_of_ble_eq_true rfl) (fun p e s m args below meth c A ls C hO hl => kc_X6_takeOffDivisor_e C ha_r0 σ hw s.heap [] ls hO hl)
abbrev rc_X6_widest : Room := { frames := 1, cells := 0, slots := 0, locals := 21 }
set_option maxRecDepth 100000 in
set_option maxHeartbeats 4000000 in
theorem kc_X6_widest_4 {p : Program} {l : Launch} {e : Env} {s : State} {m : MethodId} {args : Array Value} {below : List Frame} {meth : Method} {c : Code} {D : va_G} {y : Nat → ClassId} {ad t : Nat → Nat} {X : va_W} {A : Nat → Prop} {Q : Int64 → cS → Prop} (C : cC p s m args meth c cX6_widest 4 (some .long) RX6 wsX6_widest D y t A) {r0 : Nat} (ha_r0 : cJ r0 = true) (n : Nat) : ∀ (x1 : Int64) (x3 : Int32) (σ : cS), v_X6_widest_4 Q r0 n x1 x3 σ → ∀ (H : Heap) (locs : List Loc) (ls : Array Slot), cO D y ad X A s.heap H locs σ → lv_has ls 4 [(0, .ref (ad r0)), (1, .long x1), (3, .int x3)] → W p l e rc_X6_widest s m args below meth c H locs 0 0 (MQ below (va_Ql Q (cB D y ad X A) A) args s 0 0 A) (F0 m 4 ls []) := by
  obtain ⟨hx, hb, hr, hml, hown, hts, hlk, hK, hA, hTs, hNw⟩ := id C
  induction n with
  | zero =>
    intro x1 x3 σ hw
    exact (show False from hw).elim
  | succ n ih =>
    intro x1 x3 σ hw H locs ls hO hl
    unfold v_X6_widest_4 at hw
    refine lv_iload_n hx hb dX6_widest_4 rfl (lv_at hl 2 rfl) ?_
    refine lv_aload_n hx hb dX6_widest_5 rfl (lv_at hl 0 rfl) ?_
    refine cx_alen C hO (a := r0) ha_r0 dX6_widest_6 ?_
    refine lv_icmp_ge (tgt := 27) hx hb dX6_widest_7 (by decide) (fun hc => ?_) (fun hc => ?_)
    · have hw := hw.1 hc
      refine lv_lload_n hx hb dX6_widest_27 rfl (lv_at hl 1 rfl) ?_
      exact cx_lret C hO hw dX6_widest_28
    · have hw := hw.2 hc
      refine lv_lload_n hx hb dX6_widest_10 rfl (lv_at hl 1 rfl) ?_
      refine lv_aload_n hx hb dX6_widest_11 rfl (lv_at hl 0 rfl) ?_
      refine lv_iload_n hx hb dX6_widest_12 rfl (lv_at hl 2 rfl) ?_
      refine cx_lald C hO (a := r0) ha_r0 hw.1 dX6_widest_13 ?_
      have hw := hw.2
      refine va_mabs_long hx hb (by rw [hml]; exact hl.1.symm) hown (hts (.methodLink RX6 7 Lib.MathLoose.abs_long.x) (by decide +kernel)) (hts (.static Lib.MathLoose.abs_long.x) (by decide +kernel)) (hts (.initialized "java/lang/Math") (by decide +kernel)) (hts (.code Lib.MathLoose.abs_long.x Lib.MathLoose.abs_long.code 2 (some .long)) (by decide +kernel)) (Nat.le_of_ble_eq_true rfl) (Nat.le_of_ble_eq_true rfl) (Nat.zero_le _) (Nat.zero_le _) dX6_widest_14 ?_
      refine lv_topl (fun a101 ea101 => ?_)
      have hw := hw a101 ea101
      refine va_mmax_long hx hb (by rw [hml]; exact hl.1.symm) hown (hts (.methodLink RX6 19 Lib.MathLoose.max_long.x) (by decide +kernel)) (hts (.static Lib.MathLoose.max_long.x) (by decide +kernel)) (hts (.initialized "java/lang/Math") (by decide +kernel)) (hts (.code Lib.MathLoose.max_long.x Lib.MathLoose.max_long.code 4 (some .long)) (by decide +kernel)) (Nat.le_of_ble_eq_true rfl) (Nat.le_of_ble_eq_true rfl) (Nat.zero_le _) (Nat.zero_le _) dX6_widest_17 ?_
      refine lv_topl (fun a102 ea102 => ?_)
      have hw := hw a102 ea102
      refine lv_lstore_n (lv' := [(1, .long a102), (0, .ref (ad r0)), (3, .int x3)]) hx hb dX6_widest_20 rfl hl (by decide) rfl (fun ls hl => ?_)
      obtain ⟨x3_103, ex3_103⟩ : ∃ y : Int32, y = x3 + 1 := ⟨_, rfl⟩
      have hw := hw x3_103 ex3_103
      refine lv_iinc (v := x3_103) (lv' := [(3, .int x3_103), (1, .long a102), (0, .ref (ad r0))]) hx hb dX6_widest_21 hl (k := 2) rfl (by rw [ex3_103]; rfl) (by decide) rfl (fun ls hl => ?_)
      refine lv_goto (tgt := 4) hx hb dX6_widest_24 (by decide) ?_
      exact ih a102 x3_103 σ hw H locs ls hO (lv_sub hl [2, 1, 0] rfl)
set_option maxRecDepth 100000 in
set_option maxHeartbeats 4000000 in
theorem kc_X6_widest_e {p : Program} {l : Launch} {e : Env} {s : State} {m : MethodId} {args : Array Value} {below : List Frame} {meth : Method} {c : Code} {D : va_G} {y : Nat → ClassId} {ad t : Nat → Nat} {X : va_W} {A : Nat → Prop} {Q : Int64 → cS → Prop} (C : cC p s m args meth c cX6_widest 4 (some .long) RX6 wsX6_widest D y t A) {r0 : Nat} (ha_r0 : cJ r0 = true)  (σ : cS) (hw : v_X6_widest Q r0 σ) (H : Heap) (locs : List Loc) (ls : Array Slot) (hO : cO D y ad X A s.heap H locs σ) (hl : lv_has ls 4 [(0, .ref (ad r0))]) : W p l e rc_X6_widest s m args below meth c H locs 0 0 (MQ below (va_Ql Q (cB D y ad X A) A) args s 0 0 A) (F0 m 0 ls []) := by
  obtain ⟨hx, hb, hr, hml, hown, hts, hlk, hK, hA, hTs, hNw⟩ := id C
  unfold v_X6_widest at hw
  refine lv_lconst (v := 0) hx hb dX6_widest_0 (by decide) ?_
  refine lv_lstore_n (lv' := [(1, .long ((0 : Int64))), (0, .ref (ad r0))]) hx hb dX6_widest_1 rfl hl (by decide) rfl (fun ls hl => ?_)
  refine lv_iconst (v := 0) hx hb dX6_widest_2 (by decide) ?_
  refine lv_istore_n (lv' := [(3, .int ((0 : Int32))), (1, .long ((0 : Int64))), (0, .ref (ad r0))]) hx hb dX6_widest_3 rfl hl (by decide) rfl (fun ls hl => ?_)
  exact kc_X6_widest_4 C ha_r0 fuL ((0 : Int64)) ((0 : Int32)) σ hw H locs ls hO (lv_sub hl [2, 1, 0] rfl)
theorem cc_X6_widest (l : Launch) (D : va_G) (y : Nat → ClassId) (ad t : Nat → Nat) (X : va_W) (σ : cS) (r0 : Nat) (ha_r0 : cJ r0 = true) (Q : Int64 → cS → Prop) (hw : v_X6_widest Q r0 σ) : ∀ sz, Met l yX6_widest wsX6_widest rc_X6_widest (va_Pc [.ref (ad r0)] (cPre D y ad t X sz σ)) (va_Ql Q (cB D y ad X (va_A (cW y ad σ ++ X) sz)) (va_A (cW y ad σ ++ X) sz)) 0 0 (va_A (cW y ad σ ++ X) sz) :=
  cMet (Qc := fun A => va_Ql Q (cB D y ad X A) A) (by decide) (own := RX6) rfl (Nat.le_of_ble_eq_true rfl) (fun p e s m args below meth c A ls C hO hl => kc_X6_widest_e C ha_r0 σ hw s.heap [] ls hO hl)
abbrev rc_X1_eliminate : Room := { frames := 3, cells := 0, slots := 0, locals := 74 }
set_option maxRecDepth 100000 in
set_option maxHeartbeats 4000000 in
theorem kc_X1_eliminate_14 {p : Program} {l : Launch} {e : Env} {s : State} {m : MethodId} {args : Array Value} {below : List Frame} {meth : Method} {c : Code} {D : va_G} {y : Nat → ClassId} {ad t : Nat → Nat} {X : va_W} {A : Nat → Prop} {Q : cS → Prop} (C : cC p s m args meth c cX1_eliminate 9 none RX1 wsX1_eliminate D y t A)  (σ : cS) (hw : v_X1_eliminate_14 Q σ) (H : Heap) (locs : List Loc) (ls : Array Slot) (hO : cO D y ad X A s.heap H locs σ) (hl : lv_has ls 9 [(0, .ref (ad 5))]) : W p l e rc_X1_eliminate s m args below meth c H locs 0 0 (MQ below (va_Qv Q (cB D y ad X A) A) args s 0 0 A) (F0 m 14 ls []) := by
  obtain ⟨hx, hb, hr, hml, hown, hts, hlk, hK, hA, hTs, hNw⟩ := id C
  unfold v_X1_eliminate_14 at hw
  exact cx_vret C hO hw dX1_eliminate_14
set_option maxRecDepth 100000 in
set_option maxHeartbeats 4000000 in
theorem kc_X1_eliminate_82 {p : Program} {l : Launch} {e : Env} {s : State} {m : MethodId} {args : Array Value} {below : List Frame} {meth : Method} {c : Code} {D : va_G} {y : Nat → ClassId} {ad t : Nat → Nat} {X : va_W} {A : Nat → Prop} {Q : cS → Prop} (C : cC p s m args meth c cX1_eliminate 9 none RX1 wsX1_eliminate D y t A) {r38 : Int32 → Int64 → Int64 → Int32 → cS → Prop} (hr38 : ∀ (x3 : Int32) (x4 : Int64) (x6 : Int64) (x8 : Int32) (σ : cS), r38 x3 x4 x6 x8 σ → ∀ (H : Heap) (locs : List Loc) (ls : Array Slot), cO D y ad X A s.heap H locs σ → lv_has ls 9 [(0, .ref (ad 5)), (3, .int x3), (4, .long x4), (6, .long x6), (8, .int x8)] → W p l e rc_X1_eliminate s m args below meth c H locs 0 0 (MQ below (va_Qv Q (cB D y ad X A) A) args s 0 0 A) (F0 m 38 ls [])) (os0 : Nat) (x3 : Int32) (x4 : Int64) (x6 : Int64) (x8 : Int32) (z1 : Int32) (z2 : Int64) (z3 : Int64) (σ : cS) (hw : v_X1_eliminate_82 Q r38 os0 x3 x4 x6 x8 z1 z2 z3 σ) (hos0 : cJ os0 = true) (H : Heap) (locs : List Loc) (ls : Array Slot) (hO : cO D y ad X A s.heap H locs σ) (hl : lv_has ls 9 [(0, .ref (ad 5)), (3, .int x3), (4, .long x4), (6, .long x6), (8, .int x8)]) : W p l e rc_X1_eliminate s m args below meth c H locs 0 0 (MQ below (va_Qv Q (cB D y ad X A) A) args s 0 0 A) (F0 m 82 ls [.long z3, .long z2, .int z1, .ref (ad os0)]) := by
  obtain ⟨hx, hb, hr, hml, hown, hts, hlk, hK, hA, hTs, hNw⟩ := id C
  unfold v_X1_eliminate_82 at hw
  refine lv_lsub hx hb dX1_eliminate_82 ?_
  refine cx_last C hO (a := os0) hos0 hw.1 dX1_eliminate_83 (fun H locs σ101 eσ101 hO => ?_)
  have hw := hw.2 σ101 eσ101
  obtain ⟨x8_102, ex8_102⟩ : ∃ y : Int32, y = x8 + 1 := ⟨_, rfl⟩
  have hw := hw x8_102 ex8_102
  refine lv_iinc (v := x8_102) (lv' := [(8, .int x8_102), (0, .ref (ad 5)), (3, .int x3), (4, .long x4), (6, .long x6)]) hx hb dX1_eliminate_84 hl (k := 4) rfl (by rw [ex8_102]; rfl) (by decide) rfl (fun ls hl => ?_)
  refine lv_goto (tgt := 38) hx hb dX1_eliminate_87 (by decide) ?_
  exact hr38 x3 x4 x6 x8_102 σ101 hw H locs ls hO (lv_sub hl [1, 2, 3, 4, 0] rfl)
set_option maxRecDepth 100000 in
set_option maxHeartbeats 4000000 in
theorem kc_X1_eliminate_38 {p : Program} {l : Launch} {e : Env} {s : State} {m : MethodId} {args : Array Value} {below : List Frame} {meth : Method} {c : Code} {D : va_G} {y : Nat → ClassId} {ad t : Nat → Nat} {X : va_W} {A : Nat → Prop} {Q : cS → Prop} (C : cC p s m args meth c cX1_eliminate 9 none RX1 wsX1_eliminate D y t A) (n : Nat) : ∀ (x3 : Int32) (x4 : Int64) (x6 : Int64) (x8 : Int32) (σ : cS), v_X1_eliminate_38 Q n x3 x4 x6 x8 σ → ∀ (H : Heap) (locs : List Loc) (ls : Array Slot), cO D y ad X A s.heap H locs σ → lv_has ls 9 [(0, .ref (ad 5)), (3, .int x3), (4, .long x4), (6, .long x6), (8, .int x8)] → W p l e rc_X1_eliminate s m args below meth c H locs 0 0 (MQ below (va_Qv Q (cB D y ad X A) A) args s 0 0 A) (F0 m 38 ls []) := by
  obtain ⟨hx, hb, hr, hml, hown, hts, hlk, hK, hA, hTs, hNw⟩ := id C
  have hinX1 : ∀ w ∈ wsX10, w ∈ wsX1_eliminate := fun _ h => List.mem_cons_of_mem _ (List.mem_append_right _ h)
  induction n with
  | zero =>
    intro x3 x4 x6 x8 σ hw
    exact (show False from hw).elim
  | succ n ih =>
    intro x3 x4 x6 x8 σ hw H locs ls hO hl
    unfold v_X1_eliminate_38 at hw
    refine lv_iload hx hb dX1_eliminate_38 (lv_at hl 4 rfl) ?_
    refine lv_iconst (v := 4) hx hb dX1_eliminate_40 (by decide) ?_
    refine lv_icmp_ge (tgt := 90) hx hb dX1_eliminate_41 (by decide) (fun hc => ?_) (fun hc => ?_)
    · have hw := hw.1 hc
      refine lv_aload_n hx hb dX1_eliminate_90 rfl (lv_at hl 0 rfl) ?_
      refine cx_get C hO (by decide) rfl rfl hinX1 0 (by decide) (idx := 9) (by decide +kernel) rfl rfl dX1_eliminate_91 ?_
      have hj101 := hw.1
      have hw := hw.2
      refine cx_cvs C hO (cc_X6_takeOffDivisor l D y ad t X σ (σ.2.2.2 0) hj101 _ hw) (va_cwS 1 hts gX1_eliminate_X6_takeOffDivisor rfl rfl rfl (by decide +kernel) ⟨Nat.le_of_ble_eq_true rfl, Nat.le_of_ble_eq_true rfl⟩) rfl hl.1 rfl (lv_room (Nat.le_of_ble_eq_true rfl)) dX1_eliminate_94 (fun σ103 H locs hw hO => ?_)
      exact cx_vret C hO hw dX1_eliminate_97
    · have hw := hw.2 hc
      refine lv_aload_n hx hb dX1_eliminate_44 rfl (lv_at hl 0 rfl) ?_
      refine cx_get C hO (by decide) rfl rfl hinX1 0 (by decide) (idx := 9) (by decide +kernel) rfl rfl dX1_eliminate_45 ?_
      have hj104 := hw.1
      have hw := hw.2
      refine lv_iload hx hb dX1_eliminate_48 (lv_at hl 4 rfl) ?_
      refine lv_aload_n hx hb dX1_eliminate_50 rfl (lv_at hl 0 rfl) ?_
      refine cx_get C hO (by decide) rfl rfl hinX1 0 (by decide) (idx := 9) (by decide +kernel) rfl rfl dX1_eliminate_51 ?_
      have hj105 := hw.1
      have hw := hw.2
      refine lv_iload hx hb dX1_eliminate_54 (lv_at hl 4 rfl) ?_
      refine cx_lald C hO (a := (σ.2.2.2 0)) hj105 hw.1 dX1_eliminate_56 ?_
      have hw := hw.2
      refine lv_lload hx hb dX1_eliminate_57 (lv_at hl 3 rfl) ?_
      refine lv_lmul hx hb dX1_eliminate_59 ?_
      refine lv_iload hx hb dX1_eliminate_60 (lv_at hl 4 rfl) ?_
      refine lv_iload_n hx hb dX1_eliminate_62 rfl (lv_at hl 1 rfl) ?_
      refine lv_icmp_ge (tgt := 70) hx hb dX1_eliminate_63 (by decide) (fun hc => ?_) (fun hc => ?_)
      · have hw := hw.1 hc
        refine lv_aload_n hx hb dX1_eliminate_70 rfl (lv_at hl 0 rfl) ?_
        refine cx_get C hO (by decide) rfl rfl hinX1 1 (by decide) (idx := 15) (by decide +kernel) rfl rfl dX1_eliminate_71 ?_
        have hj106 := hw.1
        have hw := hw.2
        refine lv_iload hx hb dX1_eliminate_74 (lv_at hl 4 rfl) ?_
        refine lv_iload_n hx hb dX1_eliminate_76 rfl (lv_at hl 1 rfl) ?_
        refine lv_isub hx hb dX1_eliminate_77 ?_
        refine cx_lald C hO (a := (σ.2.2.2 1)) hj106 hw.1 dX1_eliminate_78 ?_
        have hw := hw.2
        refine lv_lload hx hb dX1_eliminate_79 (lv_at hl 2 rfl) ?_
        refine lv_lmul hx hb dX1_eliminate_81 ?_
        exact kc_X1_eliminate_82 C ih ((σ.2.2.2 0)) x3 x4 x6 x8 x8 ((σ.1 (σ.2.2.2 0) (x8).toNatClampNeg) * x6) ((σ.1 (σ.2.2.2 1) (x8 - x3).toNatClampNeg) * x4) σ hw hj104 H locs ls hO (lv_sub hl [0, 1, 2, 3, 4] rfl)
      · have hw := hw.2 hc
        refine lv_lconst (v := 0) hx hb dX1_eliminate_66 (by decide) ?_
        refine lv_goto (tgt := 82) hx hb dX1_eliminate_67 (by decide) ?_
        exact kc_X1_eliminate_82 C ih ((σ.2.2.2 0)) x3 x4 x6 x8 x8 ((σ.1 (σ.2.2.2 0) (x8).toNatClampNeg) * x6) ((0 : Int64)) σ hw hj104 H locs ls hO (lv_sub hl [0, 1, 2, 3, 4] rfl)
set_option maxRecDepth 100000 in
set_option maxHeartbeats 4000000 in
theorem kc_X1_eliminate_e {p : Program} {l : Launch} {e : Env} {s : State} {m : MethodId} {args : Array Value} {below : List Frame} {meth : Method} {c : Code} {D : va_G} {y : Nat → ClassId} {ad t : Nat → Nat} {X : va_W} {A : Nat → Prop} {Q : cS → Prop} (C : cC p s m args meth c cX1_eliminate 9 none RX1 wsX1_eliminate D y t A) (x1 : Int32) (x2 : Int32) (σ : cS) (hw : v_X1_eliminate Q x1 x2 σ) (H : Heap) (locs : List Loc) (ls : Array Slot) (hO : cO D y ad X A s.heap H locs σ) (hl : lv_has ls 9 [(0, .ref (ad 5)), (1, .int x1), (2, .int x2)]) : W p l e rc_X1_eliminate s m args below meth c H locs 0 0 (MQ below (va_Qv Q (cB D y ad X A) A) args s 0 0 A) (F0 m 0 ls []) := by
  obtain ⟨hx, hb, hr, hml, hown, hts, hlk, hK, hA, hTs, hNw⟩ := id C
  have hinX1 : ∀ w ∈ wsX10, w ∈ wsX1_eliminate := fun _ h => List.mem_cons_of_mem _ (List.mem_append_right _ h)
  unfold v_X1_eliminate at hw
  refine lv_iload_n hx hb dX1_eliminate_0 rfl (lv_at hl 2 rfl) ?_
  refine lv_if_lt (tgt := 14) hx hb dX1_eliminate_1 (by decide) (fun hc => ?_) (fun hc => ?_)
  · have hw := hw.1 hc
    exact kc_X1_eliminate_14 C σ hw H locs ls hO (lv_sub hl [0] rfl)
  · have hw := hw.2 hc
    refine lv_iload_n hx hb dX1_eliminate_4 rfl (lv_at hl 1 rfl) ?_
    refine lv_iload_n hx hb dX1_eliminate_5 rfl (lv_at hl 2 rfl) ?_
    refine lv_icmp_lt (tgt := 14) hx hb dX1_eliminate_6 (by decide) (fun hc => ?_) (fun hc => ?_)
    · have hw := hw.1 hc
      exact kc_X1_eliminate_14 C σ hw H locs ls hO (lv_sub hl [0] rfl)
    · have hw := hw.2 hc
      refine lv_iload_n hx hb dX1_eliminate_9 rfl (lv_at hl 1 rfl) ?_
      refine lv_iconst (v := 4) hx hb dX1_eliminate_10 (by decide) ?_
      refine lv_icmp_lt (tgt := 15) hx hb dX1_eliminate_11 (by decide) (fun hc => ?_) (fun hc => ?_)
      · have hw := hw.1 hc
        refine lv_iload_n hx hb dX1_eliminate_15 rfl (lv_at hl 1 rfl) ?_
        refine lv_iload_n hx hb dX1_eliminate_16 rfl (lv_at hl 2 rfl) ?_
        refine lv_isub hx hb dX1_eliminate_17 ?_
        refine lv_topi (fun x3_101 ex3_101 => ?_)
        have hw := hw x3_101 ex3_101
        refine lv_istore_n (lv' := [(3, .int x3_101), (0, .ref (ad 5)), (1, .int x1), (2, .int x2)]) hx hb dX1_eliminate_18 rfl hl (by decide) rfl (fun ls hl => ?_)
        refine lv_aload_n hx hb dX1_eliminate_19 rfl (lv_at hl 1 rfl) ?_
        refine cx_get C hO (by decide) rfl rfl hinX1 0 (by decide) (idx := 9) (by decide +kernel) rfl rfl dX1_eliminate_20 ?_
        have hj102 := hw.1
        have hw := hw.2
        refine lv_iload_n hx hb dX1_eliminate_23 rfl (lv_at hl 2 rfl) ?_
        refine cx_lald C hO (a := (σ.2.2.2 0)) hj102 hw.1 dX1_eliminate_24 ?_
        have hw := hw.2
        refine lv_topl (fun x4_103 ex4_103 => ?_)
        have hw := hw x4_103 ex4_103
        refine lv_lstore (lv' := [(4, .long x4_103), (3, .int x3_101), (0, .ref (ad 5)), (1, .int x1), (2, .int x2)]) hx hb dX1_eliminate_25 hl (by decide) rfl (fun ls hl => ?_)
        refine lv_aload_n hx hb dX1_eliminate_27 rfl (lv_at hl 2 rfl) ?_
        refine cx_get C hO (by decide) rfl rfl hinX1 1 (by decide) (idx := 15) (by decide +kernel) rfl rfl dX1_eliminate_28 ?_
        have hj104 := hw.1
        have hw := hw.2
        refine lv_iload_n hx hb dX1_eliminate_31 rfl (lv_at hl 4 rfl) ?_
        refine cx_lald C hO (a := (σ.2.2.2 1)) hj104 hw.1 dX1_eliminate_32 ?_
        have hw := hw.2
        refine lv_topl (fun x6_105 ex6_105 => ?_)
        have hw := hw x6_105 ex6_105
        refine lv_lstore (lv' := [(6, .long x6_105), (4, .long x4_103), (3, .int x3_101), (0, .ref (ad 5)), (1, .int x1), (2, .int x2)]) hx hb dX1_eliminate_33 hl (by decide) rfl (fun ls hl => ?_)
        refine lv_iconst (v := 0) hx hb dX1_eliminate_35 (by decide) ?_
        refine lv_istore (lv' := [(8, .int ((0 : Int32))), (6, .long x6_105), (4, .long x4_103), (3, .int x3_101), (0, .ref (ad 5)), (1, .int x1), (2, .int x2)]) hx hb dX1_eliminate_36 hl (by decide) rfl (fun ls hl => ?_)
        exact kc_X1_eliminate_38 C fuL x3_101 x4_103 x6_105 ((0 : Int32)) σ hw H locs ls hO (lv_sub hl [4, 3, 2, 1, 0] rfl)
      · have hw := hw.2 hc
        exact kc_X1_eliminate_14 C σ hw H locs ls hO (lv_sub hl [0] rfl)
theorem cc_X1_eliminate (l : Launch) (D : va_G) (y : Nat → ClassId) (ad t : Nat → Nat) (X : va_W) (σ : cS) (x1 : Int32) (x2 : Int32) (Q : cS → Prop) (hw : v_X1_eliminate Q x1 x2 σ) : ∀ sz, Met l yX1_eliminate wsX1_eliminate rc_X1_eliminate (va_Pc [.ref (ad 5), .int x1, .int x2] (cPre D y ad t X sz σ)) (va_Qv Q (cB D y ad X (va_A (cW y ad σ ++ X) sz)) (va_A (cW y ad σ ++ X) sz)) 0 0 (va_A (cW y ad σ ++ X) sz) :=
  cMet (Qc := fun A => va_Qv Q (cB D y ad X A) A) (by decide) (own := RX1) rfl (Nat.le_of_ble_eq_true rfl) (fun p e s m args below meth c A ls C hO hl => kc_X1_eliminate_e C x1 x2 σ hw s.heap [] ls hO hl)
abbrev rc_X1_findDivisor : Room := { frames := 4, cells := 0, slots := 0, locals := 102 }
set_option maxRecDepth 100000 in
set_option maxHeartbeats 4000000 in
theorem kc_X1_findDivisor_79 {p : Program} {l : Launch} {e : Env} {s : State} {m : MethodId} {args : Array Value} {below : List Frame} {meth : Method} {c : Code} {D : va_G} {y : Nat → ClassId} {ad t : Nat → Nat} {X : va_W} {A : Nat → Prop} {Q : cS → Prop} (C : cC p s m args meth c cX1_findDivisor 3 none RX1 wsX1_findDivisor D y t A) {r2 : Int32 → cS → Prop} (hr2 : ∀ (x1 : Int32) (σ : cS), r2 x1 σ → ∀ (H : Heap) (locs : List Loc) (ls : Array Slot), cO D y ad X A s.heap H locs σ → lv_has ls 3 [(0, .ref (ad 5)), (1, .int x1)] → W p l e rc_X1_findDivisor s m args below meth c H locs 0 0 (MQ below (va_Qv Q (cB D y ad X A) A) args s 0 0 A) (F0 m 2 ls []))  (σ : cS) (hw : v_X1_findDivisor_79 Q r2 σ) (H : Heap) (locs : List Loc) (ls : Array Slot) (hO : cO D y ad X A s.heap H locs σ) (hl : lv_has ls 3 [(0, .ref (ad 5))]) : W p l e rc_X1_findDivisor s m args below meth c H locs 0 0 (MQ below (va_Qv Q (cB D y ad X A) A) args s 0 0 A) (F0 m 79 ls []) := by
  obtain ⟨hx, hb, hr, hml, hown, hts, hlk, hK, hA, hTs, hNw⟩ := id C
  have hinX1 : ∀ w ∈ wsX10, w ∈ wsX1_findDivisor := fun _ h => List.mem_cons_of_mem _ (List.mem_append_right _ h)
  unfold v_X1_findDivisor_79 at hw
  refine lv_aload_n hx hb dX1_findDivisor_79 rfl (lv_at hl 0 rfl) ?_
  refine cx_get C hO (by decide) rfl rfl hinX1 0 (by decide) (idx := 9) (by decide +kernel) rfl rfl dX1_findDivisor_80 ?_
  have hj101 := hw.1
  have hw := hw.2
  refine lv_lconst (v := 0) hx hb dX1_findDivisor_83 (by decide) ?_
  refine cx_cvs C hO (cc_J7_fill_d0a16 l D y ad t X σ (σ.2.2.2 0) (0 : Int64) hj101 _ hw) (va_cwS 2 hts gX1_findDivisor_J7_fill_d0a16 rfl rfl rfl (by decide +kernel) ⟨Nat.le_of_ble_eq_true rfl, Nat.le_of_ble_eq_true rfl⟩) rfl hl.1 rfl (lv_room (Nat.le_of_ble_eq_true rfl)) dX1_findDivisor_84 (fun σ103 H locs hw hO => ?_)
  refine lv_aload_n hx hb dX1_findDivisor_87 rfl (lv_at hl 0 rfl) ?_
  refine cx_get C hO (by decide) rfl rfl hinX1 0 (by decide) (idx := 9) (by decide +kernel) rfl rfl dX1_findDivisor_88 ?_
  have hj104 := hw.1
  have hw := hw.2
  refine lv_iconst (v := 0) hx hb dX1_findDivisor_91 (by decide) ?_
  refine lv_lconst (v := 1) hx hb dX1_findDivisor_92 (by decide) ?_
  refine cx_last C hO (a := (σ103.2.2.2 0)) hj104 hw.1 dX1_findDivisor_93 (fun H locs σ105 eσ105 hO => ?_)
  have hw := hw.2 σ105 eσ105
  exact cx_vret C hO hw dX1_findDivisor_94
set_option maxRecDepth 100000 in
set_option maxHeartbeats 4000000 in
theorem kc_X1_findDivisor_95 {p : Program} {l : Launch} {e : Env} {s : State} {m : MethodId} {args : Array Value} {below : List Frame} {meth : Method} {c : Code} {D : va_G} {y : Nat → ClassId} {ad t : Nat → Nat} {X : va_W} {A : Nat → Prop} {Q : cS → Prop} (C : cC p s m args meth c cX1_findDivisor 3 none RX1 wsX1_findDivisor D y t A) {r2 : Int32 → cS → Prop} (hr2 : ∀ (x1 : Int32) (σ : cS), r2 x1 σ → ∀ (H : Heap) (locs : List Loc) (ls : Array Slot), cO D y ad X A s.heap H locs σ → lv_has ls 3 [(0, .ref (ad 5)), (1, .int x1)] → W p l e rc_X1_findDivisor s m args below meth c H locs 0 0 (MQ below (va_Qv Q (cB D y ad X A) A) args s 0 0 A) (F0 m 2 ls [])) (x1 : Int32) (x2 : Int32) (σ : cS) (hw : v_X1_findDivisor_95 Q r2 x1 x2 σ) (H : Heap) (locs : List Loc) (ls : Array Slot) (hO : cO D y ad X A s.heap H locs σ) (hl : lv_has ls 3 [(0, .ref (ad 5)), (1, .int x1), (2, .int x2)]) : W p l e rc_X1_findDivisor s m args below meth c H locs 0 0 (MQ below (va_Qv Q (cB D y ad X A) A) args s 0 0 A) (F0 m 95 ls []) := by
  obtain ⟨hx, hb, hr, hml, hown, hts, hlk, hK, hA, hTs, hNw⟩ := id C
  have hinX1 : ∀ w ∈ wsX10, w ∈ wsX1_findDivisor := fun _ h => List.mem_cons_of_mem _ (List.mem_append_right _ h)
  unfold v_X1_findDivisor_95 at hw
  refine lv_aload_n hx hb dX1_findDivisor_95 rfl (lv_at hl 0 rfl) ?_
  refine lv_aload_n hx hb dX1_findDivisor_96 rfl (lv_at hl 0 rfl) ?_
  refine cx_get C hO (by decide) rfl rfl hinX1 0 (by decide) (idx := 9) (by decide +kernel) rfl rfl dX1_findDivisor_97 ?_
  have hj101 := hw.1
  have hw := hw.2
  refine cx_cis C hO (cc_X6_last l D y ad t X σ (σ.2.2.2 0) hj101 _ hw) (va_cwS 1 hts gX1_findDivisor_X6_last rfl rfl rfl (by decide +kernel) ⟨Nat.le_of_ble_eq_true rfl, Nat.le_of_ble_eq_true rfl⟩) rfl hl.1 rfl (lv_room (Nat.le_of_ble_eq_true rfl)) dX1_findDivisor_100 (fun u102 σ103 H locs hw hO => ?_)
  refine lv_iload_n hx hb dX1_findDivisor_103 rfl (lv_at hl 2 rfl) ?_
  refine cx_cvv C hO (cc_X1_eliminate l D y ad t X σ103 u102 x2 _ hw) (by decide) rfl rfl (cwV 2 hts gX1_findDivisor_X1_eliminate rfl rfl rfl (by decide +kernel) ⟨Nat.le_of_ble_eq_true rfl, Nat.le_of_ble_eq_true rfl⟩) rfl hl.1 rfl (lv_room (Nat.le_of_ble_eq_true rfl)) dX1_findDivisor_104 (fun σ105 H locs hw hO => ?_)
  obtain ⟨x1_106, ex1_106⟩ : ∃ y : Int32, y = x1 + 1 := ⟨_, rfl⟩
  have hw := hw x1_106 ex1_106
  refine lv_iinc (v := x1_106) (lv' := [(1, .int x1_106), (0, .ref (ad 5)), (2, .int x2)]) hx hb dX1_findDivisor_107 hl (k := 1) rfl (by rw [ex1_106]; rfl) (by decide) rfl (fun ls hl => ?_)
  refine lv_goto (tgt := 2) hx hb dX1_findDivisor_110 (by decide) ?_
  exact hr2 x1_106 σ105 hw H locs ls hO (lv_sub hl [1, 0] rfl)
set_option maxRecDepth 100000 in
set_option maxHeartbeats 4000000 in
theorem kc_X1_findDivisor_43 {p : Program} {l : Launch} {e : Env} {s : State} {m : MethodId} {args : Array Value} {below : List Frame} {meth : Method} {c : Code} {D : va_G} {y : Nat → ClassId} {ad t : Nat → Nat} {X : va_W} {A : Nat → Prop} {Q : cS → Prop} (C : cC p s m args meth c cX1_findDivisor 3 none RX1 wsX1_findDivisor D y t A) {r2 : Int32 → cS → Prop} (hr2 : ∀ (x1 : Int32) (σ : cS), r2 x1 σ → ∀ (H : Heap) (locs : List Loc) (ls : Array Slot), cO D y ad X A s.heap H locs σ → lv_has ls 3 [(0, .ref (ad 5)), (1, .int x1)] → W p l e rc_X1_findDivisor s m args below meth c H locs 0 0 (MQ below (va_Qv Q (cB D y ad X A) A) args s 0 0 A) (F0 m 2 ls [])) (x1 : Int32) (σ : cS) (hw : v_X1_findDivisor_43 Q r2 x1 σ) (H : Heap) (locs : List Loc) (ls : Array Slot) (hO : cO D y ad X A s.heap H locs σ) (hl : lv_has ls 3 [(0, .ref (ad 5)), (1, .int x1)]) : W p l e rc_X1_findDivisor s m args below meth c H locs 0 0 (MQ below (va_Qv Q (cB D y ad X A) A) args s 0 0 A) (F0 m 43 ls []) := by
  obtain ⟨hx, hb, hr, hml, hown, hts, hlk, hK, hA, hTs, hNw⟩ := id C
  have hinX1 : ∀ w ∈ wsX10, w ∈ wsX1_findDivisor := fun _ h => List.mem_cons_of_mem _ (List.mem_append_right _ h)
  unfold v_X1_findDivisor_43 at hw
  refine lv_aload_n hx hb dX1_findDivisor_43 rfl (lv_at hl 0 rfl) ?_
  refine cx_get C hO (by decide) rfl rfl hinX1 1 (by decide) (idx := 15) (by decide +kernel) rfl rfl dX1_findDivisor_44 ?_
  have hj101 := hw.1
  have hw := hw.2
  refine cx_cis C hO (cc_X6_last l D y ad t X σ (σ.2.2.2 1) hj101 _ hw) (va_cwS 1 hts gX1_findDivisor_X6_last rfl rfl rfl (by decide +kernel) ⟨Nat.le_of_ble_eq_true rfl, Nat.le_of_ble_eq_true rfl⟩) rfl hl.1 rfl (lv_room (Nat.le_of_ble_eq_true rfl)) dX1_findDivisor_47 (fun u102 σ103 H locs hw hO => ?_)
  refine lv_istore_n (lv' := [(2, .int u102), (0, .ref (ad 5)), (1, .int x1)]) hx hb dX1_findDivisor_50 rfl hl (by decide) rfl (fun ls hl => ?_)
  refine lv_iload_n hx hb dX1_findDivisor_51 rfl (lv_at hl 0 rfl) ?_
  refine lv_if_ge (tgt := 56) hx hb dX1_findDivisor_52 (by decide) (fun hc => ?_) (fun hc => ?_)
  · have hw := hw.1 hc
    refine lv_iload_n hx hb dX1_findDivisor_56 rfl (lv_at hl 0 rfl) ?_
    refine lv_if_eq (tgt := 79) hx hb dX1_findDivisor_57 (by decide) (fun hc => ?_) (fun hc => ?_)
    · have hw := hw.1 hc
      exact kc_X1_findDivisor_79 C hr2 σ103 hw H locs ls hO (lv_sub hl [1] rfl)
    · have hw := hw.2 hc
      refine lv_iload_n hx hb dX1_findDivisor_60 rfl (lv_at hl 0 rfl) ?_
      refine lv_iconst (v := 1) hx hb dX1_findDivisor_61 (by decide) ?_
      refine lv_icmp_ne (tgt := 95) hx hb dX1_findDivisor_62 (by decide) (fun hc => ?_) (fun hc => ?_)
      · have hw := hw.1 hc
        exact kc_X1_findDivisor_95 C hr2 x1 u102 σ103 hw H locs ls hO (lv_sub hl [1, 2, 0] rfl)
      · have hw := hw.2 hc
        refine lv_aload_n hx hb dX1_findDivisor_65 rfl (lv_at hl 1 rfl) ?_
        refine cx_get C hO (by decide) rfl rfl hinX1 1 (by decide) (idx := 15) (by decide +kernel) rfl rfl dX1_findDivisor_66 ?_
        have hj104 := hw.1
        have hw := hw.2
        refine cx_cls C hO (cc_X6_widest l D y ad t X σ103 (σ103.2.2.2 1) hj104 _ hw) (va_cwS 1 hts gX1_findDivisor_X6_widest rfl rfl rfl (by decide +kernel) ⟨Nat.le_of_ble_eq_true rfl, Nat.le_of_ble_eq_true rfl⟩) rfl hl.1 rfl (lv_room (Nat.le_of_ble_eq_true rfl)) dX1_findDivisor_69 (fun u105 σ106 H locs hw hO => ?_)
        refine lv_ldc2 (v := 3000) hx hb hown (hts (.constantLong RX1 66 (3000)) (by decide +kernel)) dX1_findDivisor_72 ?_
        refine W.lcmp hx hb dX1_findDivisor_75 ?_
        refine lv_if_le (tgt := 95) hx hb dX1_findDivisor_76 (by decide) (fun hc => ?_) (fun hc => ?_)
        · have hc := (lg_cmp_le _ _).mp hc
          have hw := hw.1 hc
          exact kc_X1_findDivisor_95 C hr2 x1 u102 σ106 hw H locs ls hO (lv_sub hl [1, 2, 0] rfl)
        · have hc := (not_congr (lg_cmp_le _ _)).mp hc
          have hw := hw.2 hc
          exact kc_X1_findDivisor_79 C hr2 σ106 hw H locs ls hO (lv_sub hl [1] rfl)
  · have hw := hw.2 hc
    exact cx_vret C hO hw dX1_findDivisor_55
set_option maxRecDepth 100000 in
set_option maxHeartbeats 4000000 in
theorem kc_X1_findDivisor_2 {p : Program} {l : Launch} {e : Env} {s : State} {m : MethodId} {args : Array Value} {below : List Frame} {meth : Method} {c : Code} {D : va_G} {y : Nat → ClassId} {ad t : Nat → Nat} {X : va_W} {A : Nat → Prop} {Q : cS → Prop} (C : cC p s m args meth c cX1_findDivisor 3 none RX1 wsX1_findDivisor D y t A) (n : Nat) : ∀ (x1 : Int32) (σ : cS), v_X1_findDivisor_2 Q n x1 σ → ∀ (H : Heap) (locs : List Loc) (ls : Array Slot), cO D y ad X A s.heap H locs σ → lv_has ls 3 [(0, .ref (ad 5)), (1, .int x1)] → W p l e rc_X1_findDivisor s m args below meth c H locs 0 0 (MQ below (va_Qv Q (cB D y ad X A) A) args s 0 0 A) (F0 m 2 ls []) := by
  obtain ⟨hx, hb, hr, hml, hown, hts, hlk, hK, hA, hTs, hNw⟩ := id C
  have hinX1 : ∀ w ∈ wsX10, w ∈ wsX1_findDivisor := fun _ h => List.mem_cons_of_mem _ (List.mem_append_right _ h)
  induction n with
  | zero =>
    intro x1 σ hw
    exact (show False from hw).elim
  | succ n ih =>
    intro x1 σ hw H locs ls hO hl
    unfold v_X1_findDivisor_2 at hw
    refine lv_iload_n hx hb dX1_findDivisor_2 rfl (lv_at hl 1 rfl) ?_
    refine lv_bipush (v := 16) hx hb dX1_findDivisor_3 (by decide) ?_
    refine lv_icmp_ge (tgt := 113) hx hb dX1_findDivisor_5 (by decide) (fun hc => ?_) (fun hc => ?_)
    · have hw := hw.1 hc
      exact cx_vret C hO hw dX1_findDivisor_113
    · have hw := hw.2 hc
      refine lv_aload_n hx hb dX1_findDivisor_8 rfl (lv_at hl 0 rfl) ?_
      refine cx_get C hO (by decide) rfl rfl hinX1 0 (by decide) (idx := 9) (by decide +kernel) rfl rfl dX1_findDivisor_9 ?_
      have hj101 := hw.1
      have hw := hw.2
      refine cx_cis C hO (cc_X6_last l D y ad t X σ (σ.2.2.2 0) hj101 _ hw) (va_cwS 1 hts gX1_findDivisor_X6_last rfl rfl rfl (by decide +kernel) ⟨Nat.le_of_ble_eq_true rfl, Nat.le_of_ble_eq_true rfl⟩) rfl hl.1 rfl (lv_room (Nat.le_of_ble_eq_true rfl)) dX1_findDivisor_12 (fun u102 σ103 H locs hw hO => ?_)
      refine lv_aload_n hx hb dX1_findDivisor_15 rfl (lv_at hl 0 rfl) ?_
      refine cx_get C hO (by decide) rfl rfl hinX1 1 (by decide) (idx := 15) (by decide +kernel) rfl rfl dX1_findDivisor_16 ?_
      have hj104 := hw.1
      have hw := hw.2
      refine cx_cis C hO (cc_X6_last l D y ad t X σ103 (σ103.2.2.2 1) hj104 _ hw) (va_cwS 1 hts gX1_findDivisor_X6_last rfl rfl rfl (by decide +kernel) ⟨Nat.le_of_ble_eq_true rfl, Nat.le_of_ble_eq_true rfl⟩) rfl hl.1 rfl (lv_room (Nat.le_of_ble_eq_true rfl)) dX1_findDivisor_19 (fun u105 σ106 H locs hw hO => ?_)
      refine lv_icmp_ge (tgt := 43) hx hb dX1_findDivisor_22 (by decide) (fun hc => ?_) (fun hc => ?_)
      · have hw := hw.1 hc
        exact kc_X1_findDivisor_43 C ih x1 σ106 hw H locs ls hO (lv_sub hl [0, 1] rfl)
      · have hw := hw.2 hc
        refine lv_aload_n hx hb dX1_findDivisor_25 rfl (lv_at hl 0 rfl) ?_
        refine cx_get C hO (by decide) rfl rfl hinX1 0 (by decide) (idx := 9) (by decide +kernel) rfl rfl dX1_findDivisor_26 ?_
        have hj107 := hw.1
        have hw := hw.2
        refine lv_astore_n (lv' := [(2, .ref (ad (σ106.2.2.2 0))), (0, .ref (ad 5)), (1, .int x1)]) hx hb dX1_findDivisor_29 rfl hl (by decide) rfl (fun ls hl => ?_)
        refine lv_aload_n hx hb dX1_findDivisor_30 rfl (lv_at hl 1 rfl) ?_
        refine lv_aload_n hx hb dX1_findDivisor_31 rfl (lv_at hl 1 rfl) ?_
        refine cx_get C hO (by decide) rfl rfl hinX1 1 (by decide) (idx := 15) (by decide +kernel) rfl rfl dX1_findDivisor_32 ?_
        have hj108 := hw.1
        have hw := hw.2
        refine cx_put C hO (ty := .array .long) (by decide) rfl rfl hinX1 tyX1 tyX1_ok nmX1 0 (by decide) (idx := 9) (by decide +kernel) rfl rfl (by decide +kernel) rfl rfl (Nat.le_of_ble_eq_true rfl) (cW_P (by decide)) dX1_findDivisor_35 (fun H locs σ109 eσ109 hO => ?_)
        have hw := hw σ109 eσ109
        refine lv_aload_n hx hb dX1_findDivisor_38 rfl (lv_at hl 1 rfl) ?_
        refine lv_aload_n hx hb dX1_findDivisor_39 rfl (lv_at hl 0 rfl) ?_
        refine cx_put C hO (ty := .array .long) (by decide) rfl rfl hinX1 tyX1 tyX1_ok nmX1 1 (by decide) (idx := 15) (by decide +kernel) rfl rfl (by decide +kernel) rfl rfl (Nat.le_of_ble_eq_true rfl) (cW_P (by decide)) dX1_findDivisor_40 (fun H locs σ110 eσ110 hO => ?_)
        have hw := hw σ110 eσ110
        exact kc_X1_findDivisor_43 C ih x1 σ110 hw H locs ls hO (lv_sub hl [1, 2] rfl)
set_option maxRecDepth 100000 in
set_option maxHeartbeats 4000000 in
theorem kc_X1_findDivisor_e {p : Program} {l : Launch} {e : Env} {s : State} {m : MethodId} {args : Array Value} {below : List Frame} {meth : Method} {c : Code} {D : va_G} {y : Nat → ClassId} {ad t : Nat → Nat} {X : va_W} {A : Nat → Prop} {Q : cS → Prop} (C : cC p s m args meth c cX1_findDivisor 3 none RX1 wsX1_findDivisor D y t A)  (σ : cS) (hw : v_X1_findDivisor Q σ) (H : Heap) (locs : List Loc) (ls : Array Slot) (hO : cO D y ad X A s.heap H locs σ) (hl : lv_has ls 3 [(0, .ref (ad 5))]) : W p l e rc_X1_findDivisor s m args below meth c H locs 0 0 (MQ below (va_Qv Q (cB D y ad X A) A) args s 0 0 A) (F0 m 0 ls []) := by
  obtain ⟨hx, hb, hr, hml, hown, hts, hlk, hK, hA, hTs, hNw⟩ := id C
  unfold v_X1_findDivisor at hw
  refine lv_iconst (v := 0) hx hb dX1_findDivisor_0 (by decide) ?_
  refine lv_istore_n (lv' := [(1, .int ((0 : Int32))), (0, .ref (ad 5))]) hx hb dX1_findDivisor_1 rfl hl (by decide) rfl (fun ls hl => ?_)
  exact kc_X1_findDivisor_2 C fuL ((0 : Int32)) σ hw H locs ls hO (lv_sub hl [1, 0] rfl)
theorem cc_X1_findDivisor (l : Launch) (D : va_G) (y : Nat → ClassId) (ad t : Nat → Nat) (X : va_W) (σ : cS)  (Q : cS → Prop) (hw : v_X1_findDivisor Q σ) : ∀ sz, Met l yX1_findDivisor wsX1_findDivisor rc_X1_findDivisor (va_Pc [.ref (ad 5)] (cPre D y ad t X sz σ)) (va_Qv Q (cB D y ad X (va_A (cW y ad σ ++ X) sz)) (va_A (cW y ad σ ++ X) sz)) 0 0 (va_A (cW y ad σ ++ X) sz) :=
  cMet (Qc := fun A => va_Qv Q (cB D y ad X A) A) (by decide) (own := RX1) rfl (Nat.le_of_ble_eq_true rfl) (fun p e s m args below meth c A ls C hO hl => kc_X1_findDivisor_e C σ hw s.heap [] ls hO hl)
