/-! the class: what each method does, and the walk of its bytecode (written by wip/tools/cgen.py) -/
abbrev rc_X7_far : Room := { frames := 3, cells := 0, slots := 0, locals := 63 }
set_option maxRecDepth 100000 in
set_option maxHeartbeats 4000000 in
theorem kc_X7_far_51 {p : Program} {l : Launch} {e : Env} {s : State} {m : MethodId} {args : Array Value} {below : List Frame} {meth : Method} {c : Code} {D : va_G} {y : Nat → ClassId} {ad t : Nat → Nat} {X : va_W} {A : Nat → Prop} {Q : Int32 → cS → Prop} (C : cC p s m args meth c cX7_far 4 (some .int) RX7 wsX7_far D y t A) (z0 : Int32) (σ : cS) (hw : v_X7_far_51 Q z0 σ) (H : Heap) (locs : List Loc) (ls : Array Slot) (hO : cO D y ad X A s.heap H locs σ) (hl : lv_has ls 4 [(0, .ref (ad 0))]) : W p l e rc_X7_far s m args below meth c H locs 0 0 (MQ below (va_Qi Q (cB D y ad X A) A) args s 0 0 A) (F0 m 51 ls [.int z0]) := by
  obtain ⟨hx, hb, hr, hml, hown, hts, hlk, hK, hA, hTs, hNw⟩ := id C
  unfold v_X7_far_51 at hw
  exact cx_iret C hO hw dX7_far_51
set_option maxRecDepth 100000 in
set_option maxHeartbeats 4000000 in
theorem kc_X7_far_e {p : Program} {l : Launch} {e : Env} {s : State} {m : MethodId} {args : Array Value} {below : List Frame} {meth : Method} {c : Code} {D : va_G} {y : Nat → ClassId} {ad t : Nat → Nat} {X : va_W} {A : Nat → Prop} {Q : Int32 → cS → Prop} (C : cC p s m args meth c cX7_far 4 (some .int) RX7 wsX7_far D y t A) (x1 : Int32) (x2 : Int32) (σ : cS) (hw : v_X7_far Q x1 x2 σ) (H : Heap) (locs : List Loc) (ls : Array Slot) (hO : cO D y ad X A s.heap H locs σ) (hl : lv_has ls 4 [(0, .ref (ad 0)), (1, .int x1), (2, .int x2)]) : W p l e rc_X7_far s m args below meth c H locs 0 0 (MQ below (va_Qi Q (cB D y ad X A) A) args s 0 0 A) (F0 m 0 ls []) := by
  obtain ⟨hx, hb, hr, hml, hown, hts, hlk, hK, hA, hTs, hNw⟩ := id C
  have hinX0 : ∀ w ∈ wsX00, w ∈ wsX7_far := fun _ h => List.mem_cons_of_mem _ (List.mem_append_right _ h)
  have hinX7 : ∀ w ∈ wsX70, w ∈ wsX7_far := fun _ h => List.mem_cons_of_mem _ (List.mem_append_left _ (List.mem_append_right _ h))
  unfold v_X7_far at hw
  refine lv_iload_n hx hb dX7_far_0 rfl (lv_at hl 2 rfl) ?_
  refine lv_iconst (v := 0) hx hb dX7_far_1 (by decide) ?_
  refine lv_iconst (v := 2) hx hb dX7_far_2 (by decide) ?_
  refine cx_cis C hO (cc_X7_within l D y ad t X σ x2 (0 : Int32) (2 : Int32) _ hw) (va_cwS 3 hts gX7_far_X7_within rfl rfl rfl (by decide +kernel) ⟨Nat.le_of_ble_eq_true rfl, Nat.le_of_ble_eq_true rfl⟩) rfl hl.1 rfl (lv_room (Nat.le_of_ble_eq_true rfl)) dX7_far_3 (fun u101 σ102 H locs hw hO => ?_)
  refine lv_if_ne (tgt := 13) hx hb dX7_far_6 (by decide) (fun hc => ?_) (fun hc => ?_)
  · have hw := hw.1 hc
    refine lv_aload_n hx hb dX7_far_13 rfl (lv_at hl 0 rfl) ?_
    refine lv_iload_n hx hb dX7_far_14 rfl (lv_at hl 1 rfl) ?_
    refine cx_civ C hO (cc_X7_missing l D y ad t X σ102 x1 _ hw) (by decide) rfl rfl (cwV 1 hts gX7_far_X7_missing rfl rfl rfl (by decide +kernel) ⟨Nat.le_of_ble_eq_true rfl, Nat.le_of_ble_eq_true rfl⟩) rfl hl.1 rfl (lv_room (Nat.le_of_ble_eq_true rfl)) dX7_far_15 (fun u103 σ104 H locs hw hO => ?_)
    refine lv_istore_n (lv' := [(3, .int u103), (0, .ref (ad 0)), (1, .int x1), (2, .int x2)]) hx hb dX7_far_18 rfl hl (by decide) rfl (fun ls hl => ?_)
    refine lv_iload_n hx hb dX7_far_19 rfl (lv_at hl 0 rfl) ?_
    refine lv_if_eq (tgt := 31) hx hb dX7_far_20 (by decide) (fun hc => ?_) (fun hc => ?_)
    · have hw := hw.1 hc
      refine lv_aload_n hx hb dX7_far_31 rfl (lv_at hl 1 rfl) ?_
      refine cx_get C hO (by decide) rfl rfl hinX7 1 (by decide) (idx := 18) (by decide +kernel) rfl rfl dX7_far_32 ?_
      refine lv_iload_n hx hb dX7_far_35 rfl (lv_at hl 2 rfl) ?_
      refine cx_aaL C hO hw.1 dX7_far_36 (fun o105 eo105 ho105 => ?_)
      have hw := hw.2 o105 eo105
      refine lv_iload_n hx hb dX7_far_37 rfl (lv_at hl 3 rfl) ?_
      refine lv_aload_n hx hb dX7_far_38 rfl (lv_at hl 1 rfl) ?_
      refine cx_get C hO (by decide) rfl rfl hinX7 1 (by decide) (idx := 18) (by decide +kernel) rfl rfl dX7_far_39 ?_
      refine lv_iload_n hx hb dX7_far_42 rfl (lv_at hl 2 rfl) ?_
      refine cx_aaL C hO hw.1 dX7_far_43 (fun o106 eo106 ho106 => ?_)
      have hw := hw.2 o106 eo106
      refine cx_get C hO (cL_lt ho106).1 (cE_L ho106) rfl hinX0 5 (by decide) (idx := 97) (by decide +kernel) rfl rfl dX7_far_44 ?_
      refine cx_clv C hO (cc_X0_number l D y ad t X σ104 o105 x2 (σ104.2.2.1 o106 5) ho105 _ hw) (cL_lt ho105).1 (cE_L ho105) rfl (cwV 2 hts gX7_far_X0_number rfl rfl rfl (by decide +kernel) ⟨Nat.le_of_ble_eq_true rfl, Nat.le_of_ble_eq_true rfl⟩) rfl hl.1 rfl (lv_room (Nat.le_of_ble_eq_true rfl)) dX7_far_47 (fun u107 σ108 H locs hw hO => ?_)
      refine lv_l2i hx hb dX7_far_50 rfl ?_
      exact kc_X7_far_51 C (u107.toInt32) σ108 hw H locs ls hO (lv_sub hl [1] rfl)
    · have hw := hw.2 hc
      refine lv_iload_n hx hb dX7_far_23 rfl (lv_at hl 0 rfl) ?_
      refine lv_sipush (v := 1000) hx hb dX7_far_24 (by decide) ?_
      refine lv_isub hx hb dX7_far_27 ?_
      refine lv_goto (tgt := 51) hx hb dX7_far_28 (by decide) ?_
      exact kc_X7_far_51 C (u103 - (1000 : Int32)) σ104 hw H locs ls hO (lv_sub hl [1] rfl)
  · have hw := hw.2 hc
    refine lv_sipush (v := -1001) hx hb dX7_far_9 (by decide) ?_
    exact cx_iret C hO hw dX7_far_12
theorem cc_X7_far (l : Launch) (D : va_G) (y : Nat → ClassId) (ad t : Nat → Nat) (X : va_W) (σ : cS) (x1 : Int32) (x2 : Int32) (Q : Int32 → cS → Prop) (hw : v_X7_far Q x1 x2 σ) : ∀ sz, Met l yX7_far wsX7_far rc_X7_far (va_Pc [.ref (ad 0), .int x1, .int x2] (cPre D y ad t X sz σ)) (va_Qi Q (cB D y ad X (va_A (cW y ad σ ++ X) sz)) (va_A (cW y ad σ ++ X) sz)) 0 0 (va_A (cW y ad σ ++ X) sz) :=
  cMet (Qc := fun A => va_Qi Q (cB D y ad X A) A) (by decide) (own := RX7) rfl (Nat.le_of_ble_eq_true rfl) (fun p e s m args below meth c A ls C hO hl => kc_X7_far_e C x1 x2 σ hw s.heap [] ls hO hl)
abbrev rc_X7_pointless : Room := { frames := 3, cells := 0, slots := 0, locals := 63 }
set_option maxRecDepth 100000 in
set_option maxHeartbeats 4000000 in
theorem kc_X7_pointless_30 {p : Program} {l : Launch} {e : Env} {s : State} {m : MethodId} {args : Array Value} {below : List Frame} {meth : Method} {c : Code} {D : va_G} {y : Nat → ClassId} {ad t : Nat → Nat} {X : va_W} {A : Nat → Prop} {Q : Int32 → cS → Prop} (C : cC p s m args meth c cX7_pointless 3 (some .int) RX7 wsX7_pointless D y t A) (z0 : Int32) (σ : cS) (hw : v_X7_pointless_30 Q z0 σ) (H : Heap) (locs : List Loc) (ls : Array Slot) (hO : cO D y ad X A s.heap H locs σ) (hl : lv_has ls 3 [(0, .ref (ad 0))]) : W p l e rc_X7_pointless s m args below meth c H locs 0 0 (MQ below (va_Qi Q (cB D y ad X A) A) args s 0 0 A) (F0 m 30 ls [.int z0]) := by
  obtain ⟨hx, hb, hr, hml, hown, hts, hlk, hK, hA, hTs, hNw⟩ := id C
  unfold v_X7_pointless_30 at hw
  exact cx_iret C hO hw dX7_pointless_30
set_option maxRecDepth 100000 in
set_option maxHeartbeats 4000000 in
theorem kc_X7_pointless_e {p : Program} {l : Launch} {e : Env} {s : State} {m : MethodId} {args : Array Value} {below : List Frame} {meth : Method} {c : Code} {D : va_G} {y : Nat → ClassId} {ad t : Nat → Nat} {X : va_W} {A : Nat → Prop} {Q : Int32 → cS → Prop} (C : cC p s m args meth c cX7_pointless 3 (some .int) RX7 wsX7_pointless D y t A) (x1 : Int32) (σ : cS) (hw : v_X7_pointless Q x1 σ) (H : Heap) (locs : List Loc) (ls : Array Slot) (hO : cO D y ad X A s.heap H locs σ) (hl : lv_has ls 3 [(0, .ref (ad 0)), (1, .int x1)]) : W p l e rc_X7_pointless s m args below meth c H locs 0 0 (MQ below (va_Qi Q (cB D y ad X A) A) args s 0 0 A) (F0 m 0 ls []) := by
  obtain ⟨hx, hb, hr, hml, hown, hts, hlk, hK, hA, hTs, hNw⟩ := id C
  have hinX0 : ∀ w ∈ wsX00, w ∈ wsX7_pointless := fun _ h => List.mem_cons_of_mem _ (List.mem_append_right _ h)
  have hinX7 : ∀ w ∈ wsX70, w ∈ wsX7_pointless := fun _ h => List.mem_cons_of_mem _ (List.mem_append_left _ (List.mem_append_right _ h))
  unfold v_X7_pointless at hw
  refine lv_aload_n hx hb dX7_pointless_0 rfl (lv_at hl 0 rfl) ?_
  refine lv_iload_n hx hb dX7_pointless_1 rfl (lv_at hl 1 rfl) ?_
  refine cx_civ C hO (cc_X7_missing l D y ad t X σ x1 _ hw) (by decide) rfl rfl (cwV 1 hts gX7_pointless_X7_missing rfl rfl rfl (by decide +kernel) ⟨Nat.le_of_ble_eq_true rfl, Nat.le_of_ble_eq_true rfl⟩) rfl hl.1 rfl (lv_room (Nat.le_of_ble_eq_true rfl)) dX7_pointless_2 (fun u101 σ102 H locs hw hO => ?_)
  refine lv_istore_n (lv' := [(2, .int u101), (0, .ref (ad 0)), (1, .int x1)]) hx hb dX7_pointless_5 rfl hl (by decide) rfl (fun ls hl => ?_)
  refine lv_iload_n hx hb dX7_pointless_6 rfl (lv_at hl 0 rfl) ?_
  refine lv_if_eq (tgt := 12) hx hb dX7_pointless_7 (by decide) (fun hc => ?_) (fun hc => ?_)
  · have hw := hw.1 hc
    refine lv_aload_n hx hb dX7_pointless_12 rfl (lv_at hl 1 rfl) ?_
    refine cx_get C hO (by decide) rfl rfl hinX7 1 (by decide) (idx := 18) (by decide +kernel) rfl rfl dX7_pointless_13 ?_
    refine lv_iload_n hx hb dX7_pointless_16 rfl (lv_at hl 2 rfl) ?_
    refine cx_aaL C hO hw.1 dX7_pointless_17 (fun o103 eo103 ho103 => ?_)
    have hw := hw.2 o103 eo103
    refine cx_get C hO (cL_lt ho103).1 (cE_L ho103) rfl hinX0 6 (by decide) (idx := 94) (by decide +kernel) rfl rfl dX7_pointless_18 ?_
    refine lv_if_ne (tgt := 29) hx hb dX7_pointless_21 (by decide) (fun hc => ?_) (fun hc => ?_)
    · have hw := hw.1 hc
      refine lv_iconst (v := 0) hx hb dX7_pointless_29 (by decide) ?_
      exact kc_X7_pointless_30 C ((0 : Int32)) σ102 hw H locs ls hO (lv_sub hl [1] rfl)
    · have hw := hw.2 hc
      refine lv_bipush (v := -4) hx hb dX7_pointless_24 (by decide) ?_
      refine lv_goto (tgt := 30) hx hb dX7_pointless_26 (by decide) ?_
      exact kc_X7_pointless_30 C ((-4 : Int32)) σ102 hw H locs ls hO (lv_sub hl [1] rfl)
  · have hw := hw.2 hc
    refine lv_iload_n hx hb dX7_pointless_10 rfl (lv_at hl 0 rfl) ?_
    exact cx_iret C hO hw dX7_pointless_11
theorem cc_X7_pointless (l : Launch) (D : va_G) (y : Nat → ClassId) (ad t : Nat → Nat) (X : va_W) (σ : cS) (x1 : Int32) (Q : Int32 → cS → Prop) (hw : v_X7_pointless Q x1 σ) : ∀ sz, Met l yX7_pointless wsX7_pointless rc_X7_pointless (va_Pc [.ref (ad 0), .int x1] (cPre D y ad t X sz σ)) (va_Qi Q (cB D y ad X (va_A (cW y ad σ ++ X) sz)) (va_A (cW y ad σ ++ X) sz)) 0 0 (va_A (cW y ad σ ++ X) sz) :=
  cMet (Qc := fun A => va_Qi Q (cB D y ad X A) A) (by decide) (own := RX7) rfl (Nat.le_of_ble_eq_true rfl) (fun p e s m args below meth c A ls C hO hl => kc_X7_pointless_e C x1 σ hw s.heap [] ls hO hl)
abbrev rc_X7_equation : Room := { frames := 4, cells := 0, slots := 0, locals := 85 }
set_option maxRecDepth 100000 in
set_option maxHeartbeats 4000000 in
theorem kc_X7_equation_44 {p : Program} {l : Launch} {e : Env} {s : State} {m : MethodId} {args : Array Value} {below : List Frame} {meth : Method} {c : Code} {D : va_G} {y : Nat → ClassId} {ad t : Nat → Nat} {X : va_W} {A : Nat → Prop} {Q : Int64 → cS → Prop} (C : cC p s m args meth c cX7_equation 4 (some .long) RX7 wsX7_equation D y t A) (z0 : Int64) (σ : cS) (hw : v_X7_equation_44 Q z0 σ) (H : Heap) (locs : List Loc) (ls : Array Slot) (hO : cO D y ad X A s.heap H locs σ) (hl : lv_has ls 4 [(0, .ref (ad 0))]) : W p l e rc_X7_equation s m args below meth c H locs 0 0 (MQ below (va_Ql Q (cB D y ad X A) A) args s 0 0 A) (F0 m 44 ls [.long z0]) := by
  obtain ⟨hx, hb, hr, hml, hown, hts, hlk, hK, hA, hTs, hNw⟩ := id C
  unfold v_X7_equation_44 at hw
  exact cx_lret C hO hw dX7_equation_44
set_option maxRecDepth 100000 in
set_option maxHeartbeats 4000000 in
theorem kc_X7_equation_e {p : Program} {l : Launch} {e : Env} {s : State} {m : MethodId} {args : Array Value} {below : List Frame} {meth : Method} {c : Code} {D : va_G} {y : Nat → ClassId} {ad t : Nat → Nat} {X : va_W} {A : Nat → Prop} {Q : Int64 → cS → Prop} (C : cC p s m args meth c cX7_equation 4 (some .long) RX7 wsX7_equation D y t A) (x1 : Int32) (x2 : Int32) (σ : cS) (hw : v_X7_equation Q x1 x2 σ) (H : Heap) (locs : List Loc) (ls : Array Slot) (hO : cO D y ad X A s.heap H locs σ) (hl : lv_has ls 4 [(0, .ref (ad 0)), (1, .int x1), (2, .int x2)]) : W p l e rc_X7_equation s m args below meth c H locs 0 0 (MQ below (va_Ql Q (cB D y ad X A) A) args s 0 0 A) (F0 m 0 ls []) := by
  obtain ⟨hx, hb, hr, hml, hown, hts, hlk, hK, hA, hTs, hNw⟩ := id C
  have hinX0 : ∀ w ∈ wsX00, w ∈ wsX7_equation := fun _ h => List.mem_cons_of_mem _ (List.mem_append_right _ h)
  have hinX7 : ∀ w ∈ wsX70, w ∈ wsX7_equation := fun _ h => List.mem_cons_of_mem _ (List.mem_append_left _ (List.mem_append_right _ h))
  unfold v_X7_equation at hw
  refine lv_iload_n hx hb dX7_equation_0 rfl (lv_at hl 2 rfl) ?_
  refine lv_iconst (v := 0) hx hb dX7_equation_1 (by decide) ?_
  refine lv_bipush (v := 9) hx hb dX7_equation_2 (by decide) ?_
  refine cx_cis C hO (cc_X7_within l D y ad t X σ x2 (0 : Int32) (9 : Int32) _ hw) (va_cwS 3 hts gX7_equation_X7_within rfl rfl rfl (by decide +kernel) ⟨Nat.le_of_ble_eq_true rfl, Nat.le_of_ble_eq_true rfl⟩) rfl hl.1 rfl (lv_room (Nat.le_of_ble_eq_true rfl)) dX7_equation_4 (fun u101 σ102 H locs hw hO => ?_)
  refine lv_if_ne (tgt := 14) hx hb dX7_equation_7 (by decide) (fun hc => ?_) (fun hc => ?_)
  · have hw := hw.1 hc
    refine lv_aload_n hx hb dX7_equation_14 rfl (lv_at hl 0 rfl) ?_
    refine lv_iload_n hx hb dX7_equation_15 rfl (lv_at hl 1 rfl) ?_
    refine cx_civ C hO (cc_X7_pointless l D y ad t X σ102 x1 _ hw) (by decide) rfl rfl (cwV 1 hts gX7_equation_X7_pointless rfl rfl rfl (by decide +kernel) ⟨Nat.le_of_ble_eq_true rfl, Nat.le_of_ble_eq_true rfl⟩) rfl hl.1 rfl (lv_room (Nat.le_of_ble_eq_true rfl)) dX7_equation_16 (fun u103 σ104 H locs hw hO => ?_)
    refine lv_istore_n (lv' := [(3, .int u103), (0, .ref (ad 0)), (1, .int x1), (2, .int x2)]) hx hb dX7_equation_19 rfl hl (by decide) rfl (fun ls hl => ?_)
    refine lv_iload_n hx hb dX7_equation_20 rfl (lv_at hl 0 rfl) ?_
    refine lv_if_eq (tgt := 33) hx hb dX7_equation_21 (by decide) (fun hc => ?_) (fun hc => ?_)
    · have hw := hw.1 hc
      refine lv_aload_n hx hb dX7_equation_33 rfl (lv_at hl 1 rfl) ?_
      refine cx_get C hO (by decide) rfl rfl hinX7 1 (by decide) (idx := 18) (by decide +kernel) rfl rfl dX7_equation_34 ?_
      refine lv_iload_n hx hb dX7_equation_37 rfl (lv_at hl 2 rfl) ?_
      refine cx_aaL C hO hw.1 dX7_equation_38 (fun o105 eo105 ho105 => ?_)
      have hw := hw.2 o105 eo105
      refine cx_get C hO (cL_lt ho105).1 (cE_L ho105) rfl hinX0 1 (by decide) (idx := 131) (by decide +kernel) rfl rfl dX7_equation_39 ?_
      refine lv_iload_n hx hb dX7_equation_42 rfl (lv_at hl 3 rfl) ?_
      refine cx_lald C hO (a := (o105 + 2)) ((cL_J ho105).2.1) hw.1 dX7_equation_43 ?_
      have hw := hw.2
      exact kc_X7_equation_44 C (σ104.1 (o105 + 2) (x2).toNatClampNeg) σ104 hw H locs ls hO (lv_sub hl [1] rfl)
    · have hw := hw.2 hc
      refine lv_iload_n hx hb dX7_equation_24 rfl (lv_at hl 0 rfl) ?_
      refine lv_i2l hx hb dX7_equation_25 rfl ?_
      refine lv_ldc2 (v := 1000000000000000) hx hb hown (hts (.constantLong RX7 129 (1000000000000000)) (by decide +kernel)) dX7_equation_26 ?_
      refine lv_lsub hx hb dX7_equation_29 ?_
      refine lv_goto (tgt := 44) hx hb dX7_equation_30 (by decide) ?_
      exact kc_X7_equation_44 C ((u103.toInt64) - (1000000000000000 : Int64)) σ104 hw H locs ls hO (lv_sub hl [1] rfl)
  · have hw := hw.2 hc
    refine lv_ldc2 (v := -1000000000000001) hx hb hown (hts (.constantLong RX7 124 (-1000000000000001)) (by decide +kernel)) dX7_equation_10 ?_
    exact cx_lret C hO hw dX7_equation_13
theorem cc_X7_equation (l : Launch) (D : va_G) (y : Nat → ClassId) (ad t : Nat → Nat) (X : va_W) (σ : cS) (x1 : Int32) (x2 : Int32) (Q : Int64 → cS → Prop) (hw : v_X7_equation Q x1 x2 σ) : ∀ sz, Met l yX7_equation wsX7_equation rc_X7_equation (va_Pc [.ref (ad 0), .int x1, .int x2] (cPre D y ad t X sz σ)) (va_Ql Q (cB D y ad X (va_A (cW y ad σ ++ X) sz)) (va_A (cW y ad σ ++ X) sz)) 0 0 (va_A (cW y ad σ ++ X) sz) :=
  cMet (Qc := fun A => va_Ql Q (cB D y ad X A) A) (by decide) (own := RX7) rfl (Nat.le_of_ble_eq_true rfl) (fun p e s m args below meth c A ls C hO hl => kc_X7_equation_e C x1 x2 σ hw s.heap [] ls hO hl)
abbrev rc_X7_bends : Room := { frames := 4, cells := 0, slots := 0, locals := 85 }
set_option maxRecDepth 100000 in
set_option maxHeartbeats 4000000 in
theorem kc_X7_bends_23 {p : Program} {l : Launch} {e : Env} {s : State} {m : MethodId} {args : Array Value} {below : List Frame} {meth : Method} {c : Code} {D : va_G} {y : Nat → ClassId} {ad t : Nat → Nat} {X : va_W} {A : Nat → Prop} {Q : Int32 → cS → Prop} (C : cC p s m args meth c cX7_bends 3 (some .int) RX7 wsX7_bends D y t A) (z0 : Int32) (σ : cS) (hw : v_X7_bends_23 Q z0 σ) (H : Heap) (locs : List Loc) (ls : Array Slot) (hO : cO D y ad X A s.heap H locs σ) (hl : lv_has ls 3 [(0, .ref (ad 0))]) : W p l e rc_X7_bends s m args below meth c H locs 0 0 (MQ below (va_Qi Q (cB D y ad X A) A) args s 0 0 A) (F0 m 23 ls [.int z0]) := by
  obtain ⟨hx, hb, hr, hml, hown, hts, hlk, hK, hA, hTs, hNw⟩ := id C
  unfold v_X7_bends_23 at hw
  exact cx_iret C hO hw dX7_bends_23
set_option maxRecDepth 100000 in
set_option maxHeartbeats 4000000 in
theorem kc_X7_bends_e {p : Program} {l : Launch} {e : Env} {s : State} {m : MethodId} {args : Array Value} {below : List Frame} {meth : Method} {c : Code} {D : va_G} {y : Nat → ClassId} {ad t : Nat → Nat} {X : va_W} {A : Nat → Prop} {Q : Int32 → cS → Prop} (C : cC p s m args meth c cX7_bends 3 (some .int) RX7 wsX7_bends D y t A) (x1 : Int32) (σ : cS) (hw : v_X7_bends Q x1 σ) (H : Heap) (locs : List Loc) (ls : Array Slot) (hO : cO D y ad X A s.heap H locs σ) (hl : lv_has ls 3 [(0, .ref (ad 0)), (1, .int x1)]) : W p l e rc_X7_bends s m args below meth c H locs 0 0 (MQ below (va_Qi Q (cB D y ad X A) A) args s 0 0 A) (F0 m 0 ls []) := by
  obtain ⟨hx, hb, hr, hml, hown, hts, hlk, hK, hA, hTs, hNw⟩ := id C
  have hinX7 : ∀ w ∈ wsX70, w ∈ wsX7_bends := fun _ h => List.mem_cons_of_mem _ (List.mem_append_left _ (List.mem_append_right _ h))
  unfold v_X7_bends at hw
  refine lv_aload_n hx hb dX7_bends_0 rfl (lv_at hl 0 rfl) ?_
  refine lv_iload_n hx hb dX7_bends_1 rfl (lv_at hl 1 rfl) ?_
  refine cx_civ C hO (cc_X7_pointless l D y ad t X σ x1 _ hw) (by decide) rfl rfl (cwV 1 hts gX7_bends_X7_pointless rfl rfl rfl (by decide +kernel) ⟨Nat.le_of_ble_eq_true rfl, Nat.le_of_ble_eq_true rfl⟩) rfl hl.1 rfl (lv_room (Nat.le_of_ble_eq_true rfl)) dX7_bends_2 (fun u101 σ102 H locs hw hO => ?_)
  refine lv_istore_n (lv' := [(2, .int u101), (0, .ref (ad 0)), (1, .int x1)]) hx hb dX7_bends_5 rfl hl (by decide) rfl (fun ls hl => ?_)
  refine lv_iload_n hx hb dX7_bends_6 rfl (lv_at hl 0 rfl) ?_
  refine lv_if_eq (tgt := 14) hx hb dX7_bends_7 (by decide) (fun hc => ?_) (fun hc => ?_)
  · have hw := hw.1 hc
    refine lv_aload_n hx hb dX7_bends_14 rfl (lv_at hl 1 rfl) ?_
    refine cx_get C hO (by decide) rfl rfl hinX7 1 (by decide) (idx := 18) (by decide +kernel) rfl rfl dX7_bends_15 ?_
    refine lv_iload_n hx hb dX7_bends_18 rfl (lv_at hl 2 rfl) ?_
    refine cx_aaL C hO hw.1 dX7_bends_19 (fun o103 eo103 ho103 => ?_)
    have hw := hw.2 o103 eo103
    refine cx_civ C hO (cc_X0_equationDegree l D y ad t X σ102 o103 ho103 _ hw) (cL_lt ho103).1 (cE_L ho103) rfl (cwV 0 hts gX7_bends_X0_equationDegree rfl rfl rfl (by decide +kernel) ⟨Nat.le_of_ble_eq_true rfl, Nat.le_of_ble_eq_true rfl⟩) rfl hl.1 rfl (lv_room (Nat.le_of_ble_eq_true rfl)) dX7_bends_20 (fun u104 σ105 H locs hw hO => ?_)
    exact kc_X7_bends_23 C u104 σ105 hw H locs ls hO (lv_sub hl [1] rfl)
  · have hw := hw.2 hc
    refine lv_iload_n hx hb dX7_bends_10 rfl (lv_at hl 0 rfl) ?_
    refine lv_goto (tgt := 23) hx hb dX7_bends_11 (by decide) ?_
    exact kc_X7_bends_23 C u101 σ102 hw H locs ls hO (lv_sub hl [1] rfl)
theorem cc_X7_bends (l : Launch) (D : va_G) (y : Nat → ClassId) (ad t : Nat → Nat) (X : va_W) (σ : cS) (x1 : Int32) (Q : Int32 → cS → Prop) (hw : v_X7_bends Q x1 σ) : ∀ sz, Met l yX7_bends wsX7_bends rc_X7_bends (va_Pc [.ref (ad 0), .int x1] (cPre D y ad t X sz σ)) (va_Qi Q (cB D y ad X (va_A (cW y ad σ ++ X) sz)) (va_A (cW y ad σ ++ X) sz)) 0 0 (va_A (cW y ad σ ++ X) sz) :=
  cMet (Qc := fun A => va_Qi Q (cB D y ad X A) A) (by decide) (own := RX7) rfl (Nat.le_of_ble_eq_true rfl) (fun p e s m args below meth c A ls C hO hl => kc_X7_bends_e C x1 σ hw s.heap [] ls hO hl)
abbrev rc_X7_times : Room := { frames := 4, cells := 0, slots := 0, locals := 85 }
set_option maxRecDepth 100000 in
set_option maxHeartbeats 4000000 in
theorem kc_X7_times_38 {p : Program} {l : Launch} {e : Env} {s : State} {m : MethodId} {args : Array Value} {below : List Frame} {meth : Method} {c : Code} {D : va_G} {y : Nat → ClassId} {ad t : Nat → Nat} {X : va_W} {A : Nat → Prop} {Q : Int32 → cS → Prop} (C : cC p s m args meth c cX7_times 3 (some .int) RX7 wsX7_times D y t A) (z0 : Int32) (σ : cS) (hw : v_X7_times_38 Q z0 σ) (H : Heap) (locs : List Loc) (ls : Array Slot) (hO : cO D y ad X A s.heap H locs σ) (hl : lv_has ls 3 [(0, .ref (ad 0))]) : W p l e rc_X7_times s m args below meth c H locs 0 0 (MQ below (va_Qi Q (cB D y ad X A) A) args s 0 0 A) (F0 m 38 ls [.int z0]) := by
  obtain ⟨hx, hb, hr, hml, hown, hts, hlk, hK, hA, hTs, hNw⟩ := id C
  unfold v_X7_times_38 at hw
  exact cx_iret C hO hw dX7_times_38
set_option maxRecDepth 100000 in
set_option maxHeartbeats 4000000 in
theorem kc_X7_times_e {p : Program} {l : Launch} {e : Env} {s : State} {m : MethodId} {args : Array Value} {below : List Frame} {meth : Method} {c : Code} {D : va_G} {y : Nat → ClassId} {ad t : Nat → Nat} {X : va_W} {A : Nat → Prop} {Q : Int32 → cS → Prop} (C : cC p s m args meth c cX7_times 3 (some .int) RX7 wsX7_times D y t A) (x1 : Int32) (σ : cS) (hw : v_X7_times Q x1 σ) (H : Heap) (locs : List Loc) (ls : Array Slot) (hO : cO D y ad X A s.heap H locs σ) (hl : lv_has ls 3 [(0, .ref (ad 0)), (1, .int x1)]) : W p l e rc_X7_times s m args below meth c H locs 0 0 (MQ below (va_Qi Q (cB D y ad X A) A) args s 0 0 A) (F0 m 0 ls []) := by
  obtain ⟨hx, hb, hr, hml, hown, hts, hlk, hK, hA, hTs, hNw⟩ := id C
  have hinX0 : ∀ w ∈ wsX00, w ∈ wsX7_times := fun _ h => List.mem_cons_of_mem _ (List.mem_append_right _ h)
  have hinX7 : ∀ w ∈ wsX70, w ∈ wsX7_times := fun _ h => List.mem_cons_of_mem _ (List.mem_append_left _ (List.mem_append_right _ h))
  unfold v_X7_times at hw
  refine lv_aload_n hx hb dX7_times_0 rfl (lv_at hl 0 rfl) ?_
  refine lv_iload_n hx hb dX7_times_1 rfl (lv_at hl 1 rfl) ?_
  refine cx_civ C hO (cc_X7_pointless l D y ad t X σ x1 _ hw) (by decide) rfl rfl (cwV 1 hts gX7_times_X7_pointless rfl rfl rfl (by decide +kernel) ⟨Nat.le_of_ble_eq_true rfl, Nat.le_of_ble_eq_true rfl⟩) rfl hl.1 rfl (lv_room (Nat.le_of_ble_eq_true rfl)) dX7_times_2 (fun u101 σ102 H locs hw hO => ?_)
  refine lv_istore_n (lv' := [(2, .int u101), (0, .ref (ad 0)), (1, .int x1)]) hx hb dX7_times_5 rfl hl (by decide) rfl (fun ls hl => ?_)
  refine lv_iload_n hx hb dX7_times_6 rfl (lv_at hl 0 rfl) ?_
  refine lv_if_eq (tgt := 12) hx hb dX7_times_7 (by decide) (fun hc => ?_) (fun hc => ?_)
  · have hw := hw.1 hc
    refine lv_aload_n hx hb dX7_times_12 rfl (lv_at hl 1 rfl) ?_
    refine cx_get C hO (by decide) rfl rfl hinX7 1 (by decide) (idx := 18) (by decide +kernel) rfl rfl dX7_times_13 ?_
    refine lv_iload_n hx hb dX7_times_16 rfl (lv_at hl 2 rfl) ?_
    refine cx_aaL C hO hw.1 dX7_times_17 (fun o103 eo103 ho103 => ?_)
    have hw := hw.2 o103 eo103
    refine cx_get C hO (cL_lt ho103).1 (cE_L ho103) rfl hinX0 6 (by decide) (idx := 94) (by decide +kernel) rfl rfl dX7_times_18 ?_
    refine lv_iconst (v := 1) hx hb dX7_times_21 (by decide) ?_
    refine lv_icmp_ne (tgt := 37) hx hb dX7_times_22 (by decide) (fun hc => ?_) (fun hc => ?_)
    · have hw := hw.1 hc
      refine lv_iconst (v := 1) hx hb dX7_times_37 (by decide) ?_
      exact kc_X7_times_38 C ((1 : Int32)) σ102 hw H locs ls hO (lv_sub hl [1] rfl)
    · have hw := hw.2 hc
      refine lv_aload_n hx hb dX7_times_25 rfl (lv_at hl 1 rfl) ?_
      refine cx_get C hO (by decide) rfl rfl hinX7 1 (by decide) (idx := 18) (by decide +kernel) rfl rfl dX7_times_26 ?_
      refine lv_iload_n hx hb dX7_times_29 rfl (lv_at hl 2 rfl) ?_
      refine cx_aaL C hO hw.1 dX7_times_30 (fun o104 eo104 ho104 => ?_)
      have hw := hw.2 o104 eo104
      refine cx_get C hO (cL_lt ho104).1 (cE_L ho104) rfl hinX0 5 (by decide) (idx := 97) (by decide +kernel) rfl rfl dX7_times_31 ?_
      refine lv_goto (tgt := 38) hx hb dX7_times_34 (by decide) ?_
      exact kc_X7_times_38 C (σ102.2.2.1 o104 5) σ102 hw H locs ls hO (lv_sub hl [1] rfl)
  · have hw := hw.2 hc
    refine lv_iload_n hx hb dX7_times_10 rfl (lv_at hl 0 rfl) ?_
    exact cx_iret C hO hw dX7_times_11
theorem cc_X7_times (l : Launch) (D : va_G) (y : Nat → ClassId) (ad t : Nat → Nat) (X : va_W) (σ : cS) (x1 : Int32) (Q : Int32 → cS → Prop) (hw : v_X7_times Q x1 σ) : ∀ sz, Met l yX7_times wsX7_times rc_X7_times (va_Pc [.ref (ad 0), .int x1] (cPre D y ad t X sz σ)) (va_Qi Q (cB D y ad X (va_A (cW y ad σ ++ X) sz)) (va_A (cW y ad σ ++ X) sz)) 0 0 (va_A (cW y ad σ ++ X) sz) :=
  cMet (Qc := fun A => va_Qi Q (cB D y ad X A) A) (by decide) (own := RX7) rfl (Nat.le_of_ble_eq_true rfl) (fun p e s m args below meth c A ls C hO hl => kc_X7_times_e C x1 σ hw s.heap [] ls hO hl)
abbrev rc_X7_lies : Room := { frames := 3, cells := 0, slots := 0, locals := 72 }
set_option maxRecDepth 100000 in
set_option maxHeartbeats 4000000 in
theorem kc_X7_lies_33 {p : Program} {l : Launch} {e : Env} {s : State} {m : MethodId} {args : Array Value} {below : List Frame} {meth : Method} {c : Code} {D : va_G} {y : Nat → ClassId} {ad t : Nat → Nat} {X : va_W} {A : Nat → Prop} {Q : Int32 → cS → Prop} (C : cC p s m args meth c cX7_lies 6 (some .int) RX7 wsX7_lies D y t A)  (σ : cS) (hw : v_X7_lies_33 Q σ) (H : Heap) (locs : List Loc) (ls : Array Slot) (hO : cO D y ad X A s.heap H locs σ) (hl : lv_has ls 6 [(0, .ref (ad 0))]) : W p l e rc_X7_lies s m args below meth c H locs 0 0 (MQ below (va_Qi Q (cB D y ad X A) A) args s 0 0 A) (F0 m 33 ls []) := by
  obtain ⟨hx, hb, hr, hml, hown, hts, hlk, hK, hA, hTs, hNw⟩ := id C
  unfold v_X7_lies_33 at hw
  refine lv_iconst (v := -1) hx hb dX7_lies_33 (by decide) ?_
  exact cx_iret C hO hw dX7_lies_34
set_option maxRecDepth 100000 in
set_option maxHeartbeats 4000000 in
theorem kc_X7_lies_74 {p : Program} {l : Launch} {e : Env} {s : State} {m : MethodId} {args : Array Value} {below : List Frame} {meth : Method} {c : Code} {D : va_G} {y : Nat → ClassId} {ad t : Nat → Nat} {X : va_W} {A : Nat → Prop} {Q : Int32 → cS → Prop} (C : cC p s m args meth c cX7_lies 6 (some .int) RX7 wsX7_lies D y t A) (z0 : Int32) (σ : cS) (hw : v_X7_lies_74 Q z0 σ) (H : Heap) (locs : List Loc) (ls : Array Slot) (hO : cO D y ad X A s.heap H locs σ) (hl : lv_has ls 6 [(0, .ref (ad 0))]) : W p l e rc_X7_lies s m args below meth c H locs 0 0 (MQ below (va_Qi Q (cB D y ad X A) A) args s 0 0 A) (F0 m 74 ls [.int z0]) := by
  obtain ⟨hx, hb, hr, hml, hown, hts, hlk, hK, hA, hTs, hNw⟩ := id C
  unfold v_X7_lies_74 at hw
  exact cx_iret C hO hw dX7_lies_74
set_option maxRecDepth 100000 in
set_option maxHeartbeats 4000000 in
theorem kc_X7_lies_e {p : Program} {l : Launch} {e : Env} {s : State} {m : MethodId} {args : Array Value} {below : List Frame} {meth : Method} {c : Code} {D : va_G} {y : Nat → ClassId} {ad t : Nat → Nat} {X : va_W} {A : Nat → Prop} {Q : Int32 → cS → Prop} (C : cC p s m args meth c cX7_lies 6 (some .int) RX7 wsX7_lies D y t A) (x1 : Int32) (x2 : Int32) (x3 : Int32) (x4 : Int32) (σ : cS) (hw : v_X7_lies Q x1 x2 x3 x4 σ) (H : Heap) (locs : List Loc) (ls : Array Slot) (hO : cO D y ad X A s.heap H locs σ) (hl : lv_has ls 6 [(0, .ref (ad 0)), (1, .int x1), (2, .int x2), (3, .int x3), (4, .int x4)]) : W p l e rc_X7_lies s m args below meth c H locs 0 0 (MQ below (va_Qi Q (cB D y ad X A) A) args s 0 0 A) (F0 m 0 ls []) := by
  obtain ⟨hx, hb, hr, hml, hown, hts, hlk, hK, hA, hTs, hNw⟩ := id C
  have hinX7 : ∀ w ∈ wsX70, w ∈ wsX7_lies := fun _ h => List.mem_cons_of_mem _ (List.mem_append_left _ (List.mem_append_right _ h))
  unfold v_X7_lies at hw
  refine lv_iload_n hx hb dX7_lies_0 rfl (lv_at hl 2 rfl) ?_
  refine lv_bipush (v := -20) hx hb dX7_lies_1 (by decide) ?_
  refine lv_bipush (v := 20) hx hb dX7_lies_3 (by decide) ?_
  refine cx_cis C hO (cc_X7_within l D y ad t X σ x2 (-20 : Int32) (20 : Int32) _ hw) (va_cwS 3 hts gX7_lies_X7_within rfl rfl rfl (by decide +kernel) ⟨Nat.le_of_ble_eq_true rfl, Nat.le_of_ble_eq_true rfl⟩) rfl hl.1 rfl (lv_room (Nat.le_of_ble_eq_true rfl)) dX7_lies_5 (fun u101 σ102 H locs hw hO => ?_)
  refine lv_if_eq (tgt := 33) hx hb dX7_lies_8 (by decide) (fun hc => ?_) (fun hc => ?_)
  · have hw := hw.1 hc
    exact kc_X7_lies_33 C σ102 hw H locs ls hO (lv_sub hl [0] rfl)
  · have hw := hw.2 hc
    refine lv_iload_n hx hb dX7_lies_11 rfl (lv_at hl 3 rfl) ?_
    refine lv_bipush (v := -20) hx hb dX7_lies_12 (by decide) ?_
    refine lv_bipush (v := 20) hx hb dX7_lies_14 (by decide) ?_
    refine cx_cis C hO (cc_X7_within l D y ad t X σ102 x3 (-20 : Int32) (20 : Int32) _ hw) (va_cwS 3 hts gX7_lies_X7_within rfl rfl rfl (by decide +kernel) ⟨Nat.le_of_ble_eq_true rfl, Nat.le_of_ble_eq_true rfl⟩) rfl hl.1 rfl (lv_room (Nat.le_of_ble_eq_true rfl)) dX7_lies_16 (fun u103 σ104 H locs hw hO => ?_)
    refine lv_if_eq (tgt := 33) hx hb dX7_lies_19 (by decide) (fun hc => ?_) (fun hc => ?_)
    · have hw := hw.1 hc
      exact kc_X7_lies_33 C σ104 hw H locs ls hO (lv_sub hl [0] rfl)
    · have hw := hw.2 hc
      refine lv_iload hx hb dX7_lies_22 (lv_at hl 4 rfl) ?_
      refine lv_iconst (v := 1) hx hb dX7_lies_24 (by decide) ?_
      refine lv_bipush (v := 20) hx hb dX7_lies_25 (by decide) ?_
      refine cx_cis C hO (cc_X7_within l D y ad t X σ104 x4 (1 : Int32) (20 : Int32) _ hw) (va_cwS 3 hts gX7_lies_X7_within rfl rfl rfl (by decide +kernel) ⟨Nat.le_of_ble_eq_true rfl, Nat.le_of_ble_eq_true rfl⟩) rfl hl.1 rfl (lv_room (Nat.le_of_ble_eq_true rfl)) dX7_lies_27 (fun u105 σ106 H locs hw hO => ?_)
      refine lv_if_ne (tgt := 35) hx hb dX7_lies_30 (by decide) (fun hc => ?_) (fun hc => ?_)
      · have hw := hw.1 hc
        refine lv_aload_n hx hb dX7_lies_35 rfl (lv_at hl 0 rfl) ?_
        refine lv_iload_n hx hb dX7_lies_36 rfl (lv_at hl 1 rfl) ?_
        refine cx_civ C hO (cc_X7_missing l D y ad t X σ106 x1 _ hw) (by decide) rfl rfl (cwV 1 hts gX7_lies_X7_missing rfl rfl rfl (by decide +kernel) ⟨Nat.le_of_ble_eq_true rfl, Nat.le_of_ble_eq_true rfl⟩) rfl hl.1 rfl (lv_room (Nat.le_of_ble_eq_true rfl)) dX7_lies_37 (fun u107 σ108 H locs hw hO => ?_)
        refine lv_istore (lv' := [(5, .int u107), (0, .ref (ad 0)), (1, .int x1), (2, .int x2), (3, .int x3), (4, .int x4)]) hx hb dX7_lies_40 hl (by decide) rfl (fun ls hl => ?_)
        refine lv_iload hx hb dX7_lies_42 (lv_at hl 0 rfl) ?_
        refine lv_if_eq (tgt := 50) hx hb dX7_lies_44 (by decide) (fun hc => ?_) (fun hc => ?_)
        · have hw := hw.1 hc
          refine lv_aload_n hx hb dX7_lies_50 rfl (lv_at hl 1 rfl) ?_
          refine cx_get C hO (by decide) rfl rfl hinX7 1 (by decide) (idx := 18) (by decide +kernel) rfl rfl dX7_lies_51 ?_
          refine lv_iload_n hx hb dX7_lies_54 rfl (lv_at hl 2 rfl) ?_
          refine cx_aaL C hO hw.1 dX7_lies_55 (fun o109 eo109 ho109 => ?_)
          have hw := hw.2 o109 eo109
          refine lv_iload_n hx hb dX7_lies_56 rfl (lv_at hl 3 rfl) ?_
          refine lv_i2l hx hb dX7_lies_57 rfl ?_
          refine lv_iload_n hx hb dX7_lies_58 rfl (lv_at hl 4 rfl) ?_
          refine lv_i2l hx hb dX7_lies_59 rfl ?_
          refine lv_iload hx hb dX7_lies_60 (lv_at hl 5 rfl) ?_
          refine lv_i2l hx hb dX7_lies_62 rfl ?_
          refine cx_civ C hO (cc_X0_holds l D y ad t X σ108 o109 (x2.toInt64) (x3.toInt64) (x4.toInt64) ho109 _ hw) (cL_lt ho109).1 (cE_L ho109) rfl (cwV 3 hts gX7_lies_X0_holds rfl rfl rfl (by decide +kernel) ⟨Nat.le_of_ble_eq_true rfl, Nat.le_of_ble_eq_true rfl⟩) rfl hl.1 rfl (lv_room (Nat.le_of_ble_eq_true rfl)) dX7_lies_63 (fun u110 σ111 H locs hw hO => ?_)
          refine lv_if_eq (tgt := 73) hx hb dX7_lies_66 (by decide) (fun hc => ?_) (fun hc => ?_)
          · have hw := hw.1 hc
            refine lv_iconst (v := 0) hx hb dX7_lies_73 (by decide) ?_
            exact kc_X7_lies_74 C ((0 : Int32)) σ111 hw H locs ls hO (lv_sub hl [1] rfl)
          · have hw := hw.2 hc
            refine lv_iconst (v := 1) hx hb dX7_lies_69 (by decide) ?_
            refine lv_goto (tgt := 74) hx hb dX7_lies_70 (by decide) ?_
            exact kc_X7_lies_74 C ((1 : Int32)) σ111 hw H locs ls hO (lv_sub hl [1] rfl)
        · have hw := hw.2 hc
          refine lv_iload hx hb dX7_lies_47 (lv_at hl 0 rfl) ?_
          exact cx_iret C hO hw dX7_lies_49
      · have hw := hw.2 hc
        exact kc_X7_lies_33 C σ106 hw H locs ls hO (lv_sub hl [0] rfl)
theorem cc_X7_lies (l : Launch) (D : va_G) (y : Nat → ClassId) (ad t : Nat → Nat) (X : va_W) (σ : cS) (x1 : Int32) (x2 : Int32) (x3 : Int32) (x4 : Int32) (Q : Int32 → cS → Prop) (hw : v_X7_lies Q x1 x2 x3 x4 σ) : ∀ sz, Met l yX7_lies wsX7_lies rc_X7_lies (va_Pc [.ref (ad 0), .int x1, .int x2, .int x3, .int x4] (cPre D y ad t X sz σ)) (va_Qi Q (cB D y ad X (va_A (cW y ad σ ++ X) sz)) (va_A (cW y ad σ ++ X) sz)) 0 0 (va_A (cW y ad σ ++ X) sz) :=
  cMet (Qc := fun A => va_Qi Q (cB D y ad X A) A) (by decide) (own := RX7) rfl (Nat.le_of_ble_eq_true rfl) (fun p e s m args below meth c A ls C hO hl => kc_X7_lies_e C x1 x2 x3 x4 σ hw s.heap [] ls hO hl)
abbrev rc_X7_lawless : Room := { frames := 3, cells := 0, slots := 0, locals := 63 }
set_option maxRecDepth 100000 in
set_option maxHeartbeats 4000000 in
theorem kc_X7_lawless_31 {p : Program} {l : Launch} {e : Env} {s : State} {m : MethodId} {args : Array Value} {below : List Frame} {meth : Method} {c : Code} {D : va_G} {y : Nat → ClassId} {ad t : Nat → Nat} {X : va_W} {A : Nat → Prop} {Q : Int32 → cS → Prop} (C : cC p s m args meth c cX7_lawless 3 (some .int) RX7 wsX7_lawless D y t A) (z0 : Int32) (σ : cS) (hw : v_X7_lawless_31 Q z0 σ) (H : Heap) (locs : List Loc) (ls : Array Slot) (hO : cO D y ad X A s.heap H locs σ) (hl : lv_has ls 3 [(0, .ref (ad 0))]) : W p l e rc_X7_lawless s m args below meth c H locs 0 0 (MQ below (va_Qi Q (cB D y ad X A) A) args s 0 0 A) (F0 m 31 ls [.int z0]) := by
  obtain ⟨hx, hb, hr, hml, hown, hts, hlk, hK, hA, hTs, hNw⟩ := id C
  unfold v_X7_lawless_31 at hw
  exact cx_iret C hO hw dX7_lawless_31
set_option maxRecDepth 100000 in
set_option maxHeartbeats 4000000 in
theorem kc_X7_lawless_e {p : Program} {l : Launch} {e : Env} {s : State} {m : MethodId} {args : Array Value} {below : List Frame} {meth : Method} {c : Code} {D : va_G} {y : Nat → ClassId} {ad t : Nat → Nat} {X : va_W} {A : Nat → Prop} {Q : Int32 → cS → Prop} (C : cC p s m args meth c cX7_lawless 3 (some .int) RX7 wsX7_lawless D y t A) (x1 : Int32) (σ : cS) (hw : v_X7_lawless Q x1 σ) (H : Heap) (locs : List Loc) (ls : Array Slot) (hO : cO D y ad X A s.heap H locs σ) (hl : lv_has ls 3 [(0, .ref (ad 0)), (1, .int x1)]) : W p l e rc_X7_lawless s m args below meth c H locs 0 0 (MQ below (va_Qi Q (cB D y ad X A) A) args s 0 0 A) (F0 m 0 ls []) := by
  obtain ⟨hx, hb, hr, hml, hown, hts, hlk, hK, hA, hTs, hNw⟩ := id C
  have hinX0 : ∀ w ∈ wsX00, w ∈ wsX7_lawless := fun _ h => List.mem_cons_of_mem _ (List.mem_append_right _ h)
  have hinX7 : ∀ w ∈ wsX70, w ∈ wsX7_lawless := fun _ h => List.mem_cons_of_mem _ (List.mem_append_left _ (List.mem_append_right _ h))
  unfold v_X7_lawless at hw
  refine lv_aload_n hx hb dX7_lawless_0 rfl (lv_at hl 0 rfl) ?_
  refine lv_iload_n hx hb dX7_lawless_1 rfl (lv_at hl 1 rfl) ?_
  refine cx_civ C hO (cc_X7_missing l D y ad t X σ x1 _ hw) (by decide) rfl rfl (cwV 1 hts gX7_lawless_X7_missing rfl rfl rfl (by decide +kernel) ⟨Nat.le_of_ble_eq_true rfl, Nat.le_of_ble_eq_true rfl⟩) rfl hl.1 rfl (lv_room (Nat.le_of_ble_eq_true rfl)) dX7_lawless_2 (fun u101 σ102 H locs hw hO => ?_)
  refine lv_istore_n (lv' := [(2, .int u101), (0, .ref (ad 0)), (1, .int x1)]) hx hb dX7_lawless_5 rfl hl (by decide) rfl (fun ls hl => ?_)
  refine lv_iload_n hx hb dX7_lawless_6 rfl (lv_at hl 0 rfl) ?_
  refine lv_if_eq (tgt := 12) hx hb dX7_lawless_7 (by decide) (fun hc => ?_) (fun hc => ?_)
  · have hw := hw.1 hc
    refine lv_aload_n hx hb dX7_lawless_12 rfl (lv_at hl 1 rfl) ?_
    refine cx_get C hO (by decide) rfl rfl hinX7 1 (by decide) (idx := 18) (by decide +kernel) rfl rfl dX7_lawless_13 ?_
    refine lv_iload_n hx hb dX7_lawless_16 rfl (lv_at hl 2 rfl) ?_
    refine cx_aaL C hO hw.1 dX7_lawless_17 (fun o103 eo103 ho103 => ?_)
    have hw := hw.2 o103 eo103
    refine cx_get C hO (cL_lt ho103).1 (cE_L ho103) rfl hinX0 6 (by decide) (idx := 94) (by decide +kernel) rfl rfl dX7_lawless_18 ?_
    refine lv_iconst (v := 3) hx hb dX7_lawless_21 (by decide) ?_
    refine lv_icmp_ne (tgt := 29) hx hb dX7_lawless_22 (by decide) (fun hc => ?_) (fun hc => ?_)
    · have hw := hw.1 hc
      refine lv_bipush (v := -12) hx hb dX7_lawless_29 (by decide) ?_
      exact kc_X7_lawless_31 C ((-12 : Int32)) σ102 hw H locs ls hO (lv_sub hl [1] rfl)
    · have hw := hw.2 hc
      refine lv_iconst (v := 0) hx hb dX7_lawless_25 (by decide) ?_
      refine lv_goto (tgt := 31) hx hb dX7_lawless_26 (by decide) ?_
      exact kc_X7_lawless_31 C ((0 : Int32)) σ102 hw H locs ls hO (lv_sub hl [1] rfl)
  · have hw := hw.2 hc
    refine lv_iload_n hx hb dX7_lawless_10 rfl (lv_at hl 0 rfl) ?_
    exact cx_iret C hO hw dX7_lawless_11
theorem cc_X7_lawless (l : Launch) (D : va_G) (y : Nat → ClassId) (ad t : Nat → Nat) (X : va_W) (σ : cS) (x1 : Int32) (Q : Int32 → cS → Prop) (hw : v_X7_lawless Q x1 σ) : ∀ sz, Met l yX7_lawless wsX7_lawless rc_X7_lawless (va_Pc [.ref (ad 0), .int x1] (cPre D y ad t X sz σ)) (va_Qi Q (cB D y ad X (va_A (cW y ad σ ++ X) sz)) (va_A (cW y ad σ ++ X) sz)) 0 0 (va_A (cW y ad σ ++ X) sz) :=
  cMet (Qc := fun A => va_Qi Q (cB D y ad X A) A) (by decide) (own := RX7) rfl (Nat.le_of_ble_eq_true rfl) (fun p e s m args below meth c A ls C hO hl => kc_X7_lawless_e C x1 σ hw s.heap [] ls hO hl)
abbrev rc_X7_law : Room := { frames := 4, cells := 0, slots := 0, locals := 85 }
set_option maxRecDepth 100000 in
set_option maxHeartbeats 4000000 in
theorem kc_X7_law_43 {p : Program} {l : Launch} {e : Env} {s : State} {m : MethodId} {args : Array Value} {below : List Frame} {meth : Method} {c : Code} {D : va_G} {y : Nat → ClassId} {ad t : Nat → Nat} {X : va_W} {A : Nat → Prop} {Q : Int64 → cS → Prop} (C : cC p s m args meth c cX7_law 4 (some .long) RX7 wsX7_law D y t A) (z0 : Int64) (σ : cS) (hw : v_X7_law_43 Q z0 σ) (H : Heap) (locs : List Loc) (ls : Array Slot) (hO : cO D y ad X A s.heap H locs σ) (hl : lv_has ls 4 [(0, .ref (ad 0))]) : W p l e rc_X7_law s m args below meth c H locs 0 0 (MQ below (va_Ql Q (cB D y ad X A) A) args s 0 0 A) (F0 m 43 ls [.long z0]) := by
  obtain ⟨hx, hb, hr, hml, hown, hts, hlk, hK, hA, hTs, hNw⟩ := id C
  unfold v_X7_law_43 at hw
  exact cx_lret C hO hw dX7_law_43
set_option maxRecDepth 100000 in
set_option maxHeartbeats 4000000 in
theorem kc_X7_law_e {p : Program} {l : Launch} {e : Env} {s : State} {m : MethodId} {args : Array Value} {below : List Frame} {meth : Method} {c : Code} {D : va_G} {y : Nat → ClassId} {ad t : Nat → Nat} {X : va_W} {A : Nat → Prop} {Q : Int64 → cS → Prop} (C : cC p s m args meth c cX7_law 4 (some .long) RX7 wsX7_law D y t A) (x1 : Int32) (x2 : Int32) (σ : cS) (hw : v_X7_law Q x1 x2 σ) (H : Heap) (locs : List Loc) (ls : Array Slot) (hO : cO D y ad X A s.heap H locs σ) (hl : lv_has ls 4 [(0, .ref (ad 0)), (1, .int x1), (2, .int x2)]) : W p l e rc_X7_law s m args below meth c H locs 0 0 (MQ below (va_Ql Q (cB D y ad X A) A) args s 0 0 A) (F0 m 0 ls []) := by
  obtain ⟨hx, hb, hr, hml, hown, hts, hlk, hK, hA, hTs, hNw⟩ := id C
  have hinX0 : ∀ w ∈ wsX00, w ∈ wsX7_law := fun _ h => List.mem_cons_of_mem _ (List.mem_append_right _ h)
  have hinX7 : ∀ w ∈ wsX70, w ∈ wsX7_law := fun _ h => List.mem_cons_of_mem _ (List.mem_append_left _ (List.mem_append_right _ h))
  unfold v_X7_law at hw
  refine lv_iload_n hx hb dX7_law_0 rfl (lv_at hl 2 rfl) ?_
  refine lv_iconst (v := 0) hx hb dX7_law_1 (by decide) ?_
  refine lv_iconst (v := 5) hx hb dX7_law_2 (by decide) ?_
  refine cx_cis C hO (cc_X7_within l D y ad t X σ x2 (0 : Int32) (5 : Int32) _ hw) (va_cwS 3 hts gX7_law_X7_within rfl rfl rfl (by decide +kernel) ⟨Nat.le_of_ble_eq_true rfl, Nat.le_of_ble_eq_true rfl⟩) rfl hl.1 rfl (lv_room (Nat.le_of_ble_eq_true rfl)) dX7_law_3 (fun u101 σ102 H locs hw hO => ?_)
  refine lv_if_ne (tgt := 13) hx hb dX7_law_6 (by decide) (fun hc => ?_) (fun hc => ?_)
  · have hw := hw.1 hc
    refine lv_aload_n hx hb dX7_law_13 rfl (lv_at hl 0 rfl) ?_
    refine lv_iload_n hx hb dX7_law_14 rfl (lv_at hl 1 rfl) ?_
    refine cx_civ C hO (cc_X7_lawless l D y ad t X σ102 x1 _ hw) (by decide) rfl rfl (cwV 1 hts gX7_law_X7_lawless rfl rfl rfl (by decide +kernel) ⟨Nat.le_of_ble_eq_true rfl, Nat.le_of_ble_eq_true rfl⟩) rfl hl.1 rfl (lv_room (Nat.le_of_ble_eq_true rfl)) dX7_law_15 (fun u103 σ104 H locs hw hO => ?_)
    refine lv_istore_n (lv' := [(3, .int u103), (0, .ref (ad 0)), (1, .int x1), (2, .int x2)]) hx hb dX7_law_18 rfl hl (by decide) rfl (fun ls hl => ?_)
    refine lv_iload_n hx hb dX7_law_19 rfl (lv_at hl 0 rfl) ?_
    refine lv_if_eq (tgt := 32) hx hb dX7_law_20 (by decide) (fun hc => ?_) (fun hc => ?_)
    · have hw := hw.1 hc
      refine lv_aload_n hx hb dX7_law_32 rfl (lv_at hl 1 rfl) ?_
      refine cx_get C hO (by decide) rfl rfl hinX7 1 (by decide) (idx := 18) (by decide +kernel) rfl rfl dX7_law_33 ?_
      refine lv_iload_n hx hb dX7_law_36 rfl (lv_at hl 2 rfl) ?_
      refine cx_aaL C hO hw.1 dX7_law_37 (fun o105 eo105 ho105 => ?_)
      have hw := hw.2 o105 eo105
      refine cx_get C hO (cL_lt ho105).1 (cE_L ho105) rfl hinX0 2 (by decide) (idx := 145) (by decide +kernel) rfl rfl dX7_law_38 ?_
      refine lv_iload_n hx hb dX7_law_41 rfl (lv_at hl 3 rfl) ?_
      refine cx_lald C hO (a := (o105 + 3)) ((cL_J ho105).2.2.1) hw.1 dX7_law_42 ?_
      have hw := hw.2
      exact kc_X7_law_43 C (σ104.1 (o105 + 3) (x2).toNatClampNeg) σ104 hw H locs ls hO (lv_sub hl [1] rfl)
    · have hw := hw.2 hc
      refine lv_iload_n hx hb dX7_law_23 rfl (lv_at hl 0 rfl) ?_
      refine lv_i2l hx hb dX7_law_24 rfl ?_
      refine lv_ldc2 (v := 1000000000000) hx hb hown (hts (.constantLong RX7 110 (1000000000000)) (by decide +kernel)) dX7_law_25 ?_
      refine lv_lsub hx hb dX7_law_28 ?_
      refine lv_goto (tgt := 43) hx hb dX7_law_29 (by decide) ?_
      exact kc_X7_law_43 C ((u103.toInt64) - (1000000000000 : Int64)) σ104 hw H locs ls hO (lv_sub hl [1] rfl)
  · have hw := hw.2 hc
    refine lv_ldc2 (v := -1000000000001) hx hb hown (hts (.constantLong RX7 108 (-1000000000001)) (by decide +kernel)) dX7_law_9 ?_
    exact cx_lret C hO hw dX7_law_12
theorem cc_X7_law (l : Launch) (D : va_G) (y : Nat → ClassId) (ad t : Nat → Nat) (X : va_W) (σ : cS) (x1 : Int32) (x2 : Int32) (Q : Int64 → cS → Prop) (hw : v_X7_law Q x1 x2 σ) : ∀ sz, Met l yX7_law wsX7_law rc_X7_law (va_Pc [.ref (ad 0), .int x1, .int x2] (cPre D y ad t X sz σ)) (va_Ql Q (cB D y ad X (va_A (cW y ad σ ++ X) sz)) (va_A (cW y ad σ ++ X) sz)) 0 0 (va_A (cW y ad σ ++ X) sz) :=
  cMet (Qc := fun A => va_Ql Q (cB D y ad X A) A) (by decide) (own := RX7) rfl (Nat.le_of_ble_eq_true rfl) (fun p e s m args below meth c A ls C hO hl => kc_X7_law_e C x1 x2 σ hw s.heap [] ls hO hl)
abbrev rc_X7_knot : Room := { frames := 4, cells := 0, slots := 0, locals := 85 }
set_option maxRecDepth 100000 in
set_option maxHeartbeats 4000000 in
theorem kc_X7_knot_43 {p : Program} {l : Launch} {e : Env} {s : State} {m : MethodId} {args : Array Value} {below : List Frame} {meth : Method} {c : Code} {D : va_G} {y : Nat → ClassId} {ad t : Nat → Nat} {X : va_W} {A : Nat → Prop} {Q : Int64 → cS → Prop} (C : cC p s m args meth c cX7_knot 4 (some .long) RX7 wsX7_knot D y t A) (z0 : Int64) (σ : cS) (hw : v_X7_knot_43 Q z0 σ) (H : Heap) (locs : List Loc) (ls : Array Slot) (hO : cO D y ad X A s.heap H locs σ) (hl : lv_has ls 4 [(0, .ref (ad 0))]) : W p l e rc_X7_knot s m args below meth c H locs 0 0 (MQ below (va_Ql Q (cB D y ad X A) A) args s 0 0 A) (F0 m 43 ls [.long z0]) := by
  obtain ⟨hx, hb, hr, hml, hown, hts, hlk, hK, hA, hTs, hNw⟩ := id C
  unfold v_X7_knot_43 at hw
  exact cx_lret C hO hw dX7_knot_43
set_option maxRecDepth 100000 in
set_option maxHeartbeats 4000000 in
theorem kc_X7_knot_e {p : Program} {l : Launch} {e : Env} {s : State} {m : MethodId} {args : Array Value} {below : List Frame} {meth : Method} {c : Code} {D : va_G} {y : Nat → ClassId} {ad t : Nat → Nat} {X : va_W} {A : Nat → Prop} {Q : Int64 → cS → Prop} (C : cC p s m args meth c cX7_knot 4 (some .long) RX7 wsX7_knot D y t A) (x1 : Int32) (x2 : Int32) (σ : cS) (hw : v_X7_knot Q x1 x2 σ) (H : Heap) (locs : List Loc) (ls : Array Slot) (hO : cO D y ad X A s.heap H locs σ) (hl : lv_has ls 4 [(0, .ref (ad 0)), (1, .int x1), (2, .int x2)]) : W p l e rc_X7_knot s m args below meth c H locs 0 0 (MQ below (va_Ql Q (cB D y ad X A) A) args s 0 0 A) (F0 m 0 ls []) := by
  obtain ⟨hx, hb, hr, hml, hown, hts, hlk, hK, hA, hTs, hNw⟩ := id C
  have hinX0 : ∀ w ∈ wsX00, w ∈ wsX7_knot := fun _ h => List.mem_cons_of_mem _ (List.mem_append_right _ h)
  have hinX7 : ∀ w ∈ wsX70, w ∈ wsX7_knot := fun _ h => List.mem_cons_of_mem _ (List.mem_append_left _ (List.mem_append_right _ h))
  unfold v_X7_knot at hw
  refine lv_iload_n hx hb dX7_knot_0 rfl (lv_at hl 2 rfl) ?_
  refine lv_iconst (v := 0) hx hb dX7_knot_1 (by decide) ?_
  refine lv_iconst (v := 2) hx hb dX7_knot_2 (by decide) ?_
  refine cx_cis C hO (cc_X7_within l D y ad t X σ x2 (0 : Int32) (2 : Int32) _ hw) (va_cwS 3 hts gX7_knot_X7_within rfl rfl rfl (by decide +kernel) ⟨Nat.le_of_ble_eq_true rfl, Nat.le_of_ble_eq_true rfl⟩) rfl hl.1 rfl (lv_room (Nat.le_of_ble_eq_true rfl)) dX7_knot_3 (fun u101 σ102 H locs hw hO => ?_)
  refine lv_if_ne (tgt := 13) hx hb dX7_knot_6 (by decide) (fun hc => ?_) (fun hc => ?_)
  · have hw := hw.1 hc
    refine lv_aload_n hx hb dX7_knot_13 rfl (lv_at hl 0 rfl) ?_
    refine lv_iload_n hx hb dX7_knot_14 rfl (lv_at hl 1 rfl) ?_
    refine cx_civ C hO (cc_X7_lawless l D y ad t X σ102 x1 _ hw) (by decide) rfl rfl (cwV 1 hts gX7_knot_X7_lawless rfl rfl rfl (by decide +kernel) ⟨Nat.le_of_ble_eq_true rfl, Nat.le_of_ble_eq_true rfl⟩) rfl hl.1 rfl (lv_room (Nat.le_of_ble_eq_true rfl)) dX7_knot_15 (fun u103 σ104 H locs hw hO => ?_)
    refine lv_istore_n (lv' := [(3, .int u103), (0, .ref (ad 0)), (1, .int x1), (2, .int x2)]) hx hb dX7_knot_18 rfl hl (by decide) rfl (fun ls hl => ?_)
    refine lv_iload_n hx hb dX7_knot_19 rfl (lv_at hl 0 rfl) ?_
    refine lv_if_eq (tgt := 32) hx hb dX7_knot_20 (by decide) (fun hc => ?_) (fun hc => ?_)
    · have hw := hw.1 hc
      refine lv_aload_n hx hb dX7_knot_32 rfl (lv_at hl 1 rfl) ?_
      refine cx_get C hO (by decide) rfl rfl hinX7 1 (by decide) (idx := 18) (by decide +kernel) rfl rfl dX7_knot_33 ?_
      refine lv_iload_n hx hb dX7_knot_36 rfl (lv_at hl 2 rfl) ?_
      refine cx_aaL C hO hw.1 dX7_knot_37 (fun o105 eo105 ho105 => ?_)
      have hw := hw.2 o105 eo105
      refine cx_get C hO (cL_lt ho105).1 (cE_L ho105) rfl hinX0 3 (by decide) (idx := 148) (by decide +kernel) rfl rfl dX7_knot_38 ?_
      refine lv_iload_n hx hb dX7_knot_41 rfl (lv_at hl 3 rfl) ?_
      refine cx_lald C hO (a := (o105 + 4)) ((cL_J ho105).2.2.2) hw.1 dX7_knot_42 ?_
      have hw := hw.2
      exact kc_X7_knot_43 C (σ104.1 (o105 + 4) (x2).toNatClampNeg) σ104 hw H locs ls hO (lv_sub hl [1] rfl)
    · have hw := hw.2 hc
      refine lv_iload_n hx hb dX7_knot_23 rfl (lv_at hl 0 rfl) ?_
      refine lv_i2l hx hb dX7_knot_24 rfl ?_
      refine lv_ldc2 (v := 1000000000000) hx hb hown (hts (.constantLong RX7 110 (1000000000000)) (by decide +kernel)) dX7_knot_25 ?_
      refine lv_lsub hx hb dX7_knot_28 ?_
      refine lv_goto (tgt := 43) hx hb dX7_knot_29 (by decide) ?_
      exact kc_X7_knot_43 C ((u103.toInt64) - (1000000000000 : Int64)) σ104 hw H locs ls hO (lv_sub hl [1] rfl)
  · have hw := hw.2 hc
    refine lv_ldc2 (v := -1000000000001) hx hb hown (hts (.constantLong RX7 108 (-1000000000001)) (by decide +kernel)) dX7_knot_9 ?_
    exact cx_lret C hO hw dX7_knot_12
theorem cc_X7_knot (l : Launch) (D : va_G) (y : Nat → ClassId) (ad t : Nat → Nat) (X : va_W) (σ : cS) (x1 : Int32) (x2 : Int32) (Q : Int64 → cS → Prop) (hw : v_X7_knot Q x1 x2 σ) : ∀ sz, Met l yX7_knot wsX7_knot rc_X7_knot (va_Pc [.ref (ad 0), .int x1, .int x2] (cPre D y ad t X sz σ)) (va_Ql Q (cB D y ad X (va_A (cW y ad σ ++ X) sz)) (va_A (cW y ad σ ++ X) sz)) 0 0 (va_A (cW y ad σ ++ X) sz) :=
  cMet (Qc := fun A => va_Ql Q (cB D y ad X A) A) (by decide) (own := RX7) rfl (Nat.le_of_ble_eq_true rfl) (fun p e s m args below meth c A ls C hO hl => kc_X7_knot_e C x1 x2 σ hw s.heap [] ls hO hl)
abbrev rc_X7_crosses : Room := { frames := 4, cells := 0, slots := 0, locals := 85 }
set_option maxRecDepth 100000 in
set_option maxHeartbeats 4000000 in
theorem kc_X7_crosses_23 {p : Program} {l : Launch} {e : Env} {s : State} {m : MethodId} {args : Array Value} {below : List Frame} {meth : Method} {c : Code} {D : va_G} {y : Nat → ClassId} {ad t : Nat → Nat} {X : va_W} {A : Nat → Prop} {Q : Int32 → cS → Prop} (C : cC p s m args meth c cX7_crosses 3 (some .int) RX7 wsX7_crosses D y t A) (z0 : Int32) (σ : cS) (hw : v_X7_crosses_23 Q z0 σ) (H : Heap) (locs : List Loc) (ls : Array Slot) (hO : cO D y ad X A s.heap H locs σ) (hl : lv_has ls 3 [(0, .ref (ad 0))]) : W p l e rc_X7_crosses s m args below meth c H locs 0 0 (MQ below (va_Qi Q (cB D y ad X A) A) args s 0 0 A) (F0 m 23 ls [.int z0]) := by
  obtain ⟨hx, hb, hr, hml, hown, hts, hlk, hK, hA, hTs, hNw⟩ := id C
  unfold v_X7_crosses_23 at hw
  exact cx_iret C hO hw dX7_crosses_23
set_option maxRecDepth 100000 in
set_option maxHeartbeats 4000000 in
theorem kc_X7_crosses_e {p : Program} {l : Launch} {e : Env} {s : State} {m : MethodId} {args : Array Value} {below : List Frame} {meth : Method} {c : Code} {D : va_G} {y : Nat → ClassId} {ad t : Nat → Nat} {X : va_W} {A : Nat → Prop} {Q : Int32 → cS → Prop} (C : cC p s m args meth c cX7_crosses 3 (some .int) RX7 wsX7_crosses D y t A) (x1 : Int32) (σ : cS) (hw : v_X7_crosses Q x1 σ) (H : Heap) (locs : List Loc) (ls : Array Slot) (hO : cO D y ad X A s.heap H locs σ) (hl : lv_has ls 3 [(0, .ref (ad 0)), (1, .int x1)]) : W p l e rc_X7_crosses s m args below meth c H locs 0 0 (MQ below (va_Qi Q (cB D y ad X A) A) args s 0 0 A) (F0 m 0 ls []) := by
  obtain ⟨hx, hb, hr, hml, hown, hts, hlk, hK, hA, hTs, hNw⟩ := id C
  have hinX0 : ∀ w ∈ wsX00, w ∈ wsX7_crosses := fun _ h => List.mem_cons_of_mem _ (List.mem_append_right _ h)
  have hinX7 : ∀ w ∈ wsX70, w ∈ wsX7_crosses := fun _ h => List.mem_cons_of_mem _ (List.mem_append_left _ (List.mem_append_right _ h))
  unfold v_X7_crosses at hw
  refine lv_aload_n hx hb dX7_crosses_0 rfl (lv_at hl 0 rfl) ?_
  refine lv_iload_n hx hb dX7_crosses_1 rfl (lv_at hl 1 rfl) ?_
  refine cx_civ C hO (cc_X7_lawless l D y ad t X σ x1 _ hw) (by decide) rfl rfl (cwV 1 hts gX7_crosses_X7_lawless rfl rfl rfl (by decide +kernel) ⟨Nat.le_of_ble_eq_true rfl, Nat.le_of_ble_eq_true rfl⟩) rfl hl.1 rfl (lv_room (Nat.le_of_ble_eq_true rfl)) dX7_crosses_2 (fun u101 σ102 H locs hw hO => ?_)
  refine lv_istore_n (lv' := [(2, .int u101), (0, .ref (ad 0)), (1, .int x1)]) hx hb dX7_crosses_5 rfl hl (by decide) rfl (fun ls hl => ?_)
  refine lv_iload_n hx hb dX7_crosses_6 rfl (lv_at hl 0 rfl) ?_
  refine lv_if_eq (tgt := 14) hx hb dX7_crosses_7 (by decide) (fun hc => ?_) (fun hc => ?_)
  · have hw := hw.1 hc
    refine lv_aload_n hx hb dX7_crosses_14 rfl (lv_at hl 1 rfl) ?_
    refine cx_get C hO (by decide) rfl rfl hinX7 1 (by decide) (idx := 18) (by decide +kernel) rfl rfl dX7_crosses_15 ?_
    refine lv_iload_n hx hb dX7_crosses_18 rfl (lv_at hl 2 rfl) ?_
    refine cx_aaL C hO hw.1 dX7_crosses_19 (fun o103 eo103 ho103 => ?_)
    have hw := hw.2 o103 eo103
    refine cx_get C hO (cL_lt ho103).1 (cE_L ho103) rfl hinX0 7 (by decide) (idx := 151) (by decide +kernel) rfl rfl dX7_crosses_20 ?_
    exact kc_X7_crosses_23 C (σ102.2.2.1 o103 7) σ102 hw H locs ls hO (lv_sub hl [1] rfl)
  · have hw := hw.2 hc
    refine lv_iload_n hx hb dX7_crosses_10 rfl (lv_at hl 0 rfl) ?_
    refine lv_goto (tgt := 23) hx hb dX7_crosses_11 (by decide) ?_
    exact kc_X7_crosses_23 C u101 σ102 hw H locs ls hO (lv_sub hl [1] rfl)
theorem cc_X7_crosses (l : Launch) (D : va_G) (y : Nat → ClassId) (ad t : Nat → Nat) (X : va_W) (σ : cS) (x1 : Int32) (Q : Int32 → cS → Prop) (hw : v_X7_crosses Q x1 σ) : ∀ sz, Met l yX7_crosses wsX7_crosses rc_X7_crosses (va_Pc [.ref (ad 0), .int x1] (cPre D y ad t X sz σ)) (va_Qi Q (cB D y ad X (va_A (cW y ad σ ++ X) sz)) (va_A (cW y ad σ ++ X) sz)) 0 0 (va_A (cW y ad σ ++ X) sz) :=
  cMet (Qc := fun A => va_Qi Q (cB D y ad X A) A) (by decide) (own := RX7) rfl (Nat.le_of_ble_eq_true rfl) (fun p e s m args below meth c A ls C hO hl => kc_X7_crosses_e C x1 σ hw s.heap [] ls hO hl)
abbrev rc_X7_meets : Room := { frames := 3, cells := 0, slots := 0, locals := 63 }
set_option maxRecDepth 100000 in
set_option maxHeartbeats 4000000 in
theorem kc_X7_meets_42 {p : Program} {l : Launch} {e : Env} {s : State} {m : MethodId} {args : Array Value} {below : List Frame} {meth : Method} {c : Code} {D : va_G} {y : Nat → ClassId} {ad t : Nat → Nat} {X : va_W} {A : Nat → Prop} {Q : Int32 → cS → Prop} (C : cC p s m args meth c cX7_meets 7 (some .int) RX7 wsX7_meets D y t A)  (σ : cS) (hw : v_X7_meets_42 Q σ) (H : Heap) (locs : List Loc) (ls : Array Slot) (hO : cO D y ad X A s.heap H locs σ) (hl : lv_has ls 7 [(0, .ref (ad 0))]) : W p l e rc_X7_meets s m args below meth c H locs 0 0 (MQ below (va_Qi Q (cB D y ad X A) A) args s 0 0 A) (F0 m 42 ls []) := by
  obtain ⟨hx, hb, hr, hml, hown, hts, hlk, hK, hA, hTs, hNw⟩ := id C
  unfold v_X7_meets_42 at hw
  refine lv_iconst (v := -1) hx hb dX7_meets_42 (by decide) ?_
  exact cx_iret C hO hw dX7_meets_43
set_option maxRecDepth 100000 in
set_option maxHeartbeats 4000000 in
theorem kc_X7_meets_121 {p : Program} {l : Launch} {e : Env} {s : State} {m : MethodId} {args : Array Value} {below : List Frame} {meth : Method} {c : Code} {D : va_G} {y : Nat → ClassId} {ad t : Nat → Nat} {X : va_W} {A : Nat → Prop} {Q : Int32 → cS → Prop} (C : cC p s m args meth c cX7_meets 7 (some .int) RX7 wsX7_meets D y t A) (z0 : Int32) (σ : cS) (hw : v_X7_meets_121 Q z0 σ) (H : Heap) (locs : List Loc) (ls : Array Slot) (hO : cO D y ad X A s.heap H locs σ) (hl : lv_has ls 7 [(0, .ref (ad 0))]) : W p l e rc_X7_meets s m args below meth c H locs 0 0 (MQ below (va_Qi Q (cB D y ad X A) A) args s 0 0 A) (F0 m 121 ls [.int z0]) := by
  obtain ⟨hx, hb, hr, hml, hown, hts, hlk, hK, hA, hTs, hNw⟩ := id C
  unfold v_X7_meets_121 at hw
  exact cx_iret C hO hw dX7_meets_121
set_option maxRecDepth 100000 in
set_option maxHeartbeats 4000000 in
theorem kc_X7_meets_62 {p : Program} {l : Launch} {e : Env} {s : State} {m : MethodId} {args : Array Value} {below : List Frame} {meth : Method} {c : Code} {D : va_G} {y : Nat → ClassId} {ad t : Nat → Nat} {X : va_W} {A : Nat → Prop} {Q : Int32 → cS → Prop} (C : cC p s m args meth c cX7_meets 7 (some .int) RX7 wsX7_meets D y t A) (n : Nat) : ∀ (x1 : Int32) (x2 : Int32) (x3 : Int32) (x4 : Int32) (x6 : Int32) (σ : cS), v_X7_meets_62 Q n x1 x2 x3 x4 x6 σ → ∀ (H : Heap) (locs : List Loc) (ls : Array Slot), cO D y ad X A s.heap H locs σ → lv_has ls 7 [(0, .ref (ad 0)), (1, .int x1), (2, .int x2), (3, .int x3), (4, .int x4), (6, .int x6)] → W p l e rc_X7_meets s m args below meth c H locs 0 0 (MQ below (va_Qi Q (cB D y ad X A) A) args s 0 0 A) (F0 m 62 ls []) := by
  obtain ⟨hx, hb, hr, hml, hown, hts, hlk, hK, hA, hTs, hNw⟩ := id C
  have hinX7 : ∀ w ∈ wsX70, w ∈ wsX7_meets := fun _ h => List.mem_cons_of_mem _ (List.mem_append_left _ (List.mem_append_right _ h))
  induction n with
  | zero =>
    intro x1 x2 x3 x4 x6 σ hw
    exact (show False from hw).elim
  | succ n ih =>
    intro x1 x2 x3 x4 x6 σ hw H locs ls hO hl
    unfold v_X7_meets_62 at hw
    refine lv_iload hx hb dX7_meets_62 (lv_at hl 5 rfl) ?_
    refine lv_iconst (v := 4) hx hb dX7_meets_64 (by decide) ?_
    refine lv_icmp_ge (tgt := 99) hx hb dX7_meets_65 (by decide) (fun hc => ?_) (fun hc => ?_)
    · have hw := hw.1 hc
      refine lv_aload_n hx hb dX7_meets_99 rfl (lv_at hl 0 rfl) ?_
      refine cx_get C hO (by decide) rfl rfl hinX7 6 (by decide) (idx := 46) (by decide +kernel) rfl rfl dX7_meets_100 ?_
      refine cx_cis C hO (cc_X6_first l D y ad t X σ 17 rfl _ hw) (va_cwS 1 hts gX7_meets_X6_first rfl rfl rfl (by decide +kernel) ⟨Nat.le_of_ble_eq_true rfl, Nat.le_of_ble_eq_true rfl⟩) rfl hl.1 rfl (lv_room (Nat.le_of_ble_eq_true rfl)) dX7_meets_103 (fun u101 σ102 H locs hw hO => ?_)
      refine lv_if_ge (tgt := 114) hx hb dX7_meets_106 (by decide) (fun hc => ?_) (fun hc => ?_)
      · have hw := hw.1 hc
        refine lv_aload_n hx hb dX7_meets_114 rfl (lv_at hl 0 rfl) ?_
        refine cx_get C hO (by decide) rfl rfl hinX7 6 (by decide) (idx := 46) (by decide +kernel) rfl rfl dX7_meets_115 ?_
        refine cx_cis C hO (cc_X2_count l D y ad t X σ102 17 rfl _ hw) (va_cwS 1 hts gX7_meets_X2_count rfl rfl rfl (by decide +kernel) ⟨Nat.le_of_ble_eq_true rfl, Nat.le_of_ble_eq_true rfl⟩) rfl hl.1 rfl (lv_room (Nat.le_of_ble_eq_true rfl)) dX7_meets_118 (fun u103 σ104 H locs hw hO => ?_)
        exact kc_X7_meets_121 C u103 σ104 hw H locs ls hO (lv_sub hl [0] rfl)
      · have hw := hw.2 hc
        refine lv_bipush (v := -4) hx hb dX7_meets_109 (by decide) ?_
        refine lv_goto (tgt := 121) hx hb dX7_meets_111 (by decide) ?_
        exact kc_X7_meets_121 C ((-4 : Int32)) σ102 hw H locs ls hO (lv_sub hl [0] rfl)
    · have hw := hw.2 hc
      refine lv_aload_n hx hb dX7_meets_68 rfl (lv_at hl 0 rfl) ?_
      refine cx_get C hO (by decide) rfl rfl hinX7 6 (by decide) (idx := 46) (by decide +kernel) rfl rfl dX7_meets_69 ?_
      refine lv_iload hx hb dX7_meets_72 (lv_at hl 5 rfl) ?_
      refine lv_aload_n hx hb dX7_meets_74 rfl (lv_at hl 0 rfl) ?_
      refine cx_get C hO (by decide) rfl rfl hinX7 1 (by decide) (idx := 18) (by decide +kernel) rfl rfl dX7_meets_75 ?_
      refine lv_iload_n hx hb dX7_meets_78 rfl (lv_at hl 1 rfl) ?_
      refine cx_aaL C hO hw.1 dX7_meets_79 (fun o105 eo105 ho105 => ?_)
      have hw := hw.2 o105 eo105
      refine lv_iload_n hx hb dX7_meets_80 rfl (lv_at hl 2 rfl) ?_
      refine lv_i2l hx hb dX7_meets_81 rfl ?_
      refine lv_iload_n hx hb dX7_meets_82 rfl (lv_at hl 3 rfl) ?_
      refine lv_i2l hx hb dX7_meets_83 rfl ?_
      refine lv_iload hx hb dX7_meets_84 (lv_at hl 4 rfl) ?_
      refine lv_i2l hx hb dX7_meets_86 rfl ?_
      refine lv_iload hx hb dX7_meets_87 (lv_at hl 5 rfl) ?_
      refine cx_clv C hO (cc_X0_combined l D y ad t X σ o105 (x2.toInt64) (x3.toInt64) (x4.toInt64) x6 ho105 _ hw) (cL_lt ho105).1 (cE_L ho105) rfl (cwV 4 hts gX7_meets_X0_combined rfl rfl rfl (by decide +kernel) ⟨Nat.le_of_ble_eq_true rfl, Nat.le_of_ble_eq_true rfl⟩) rfl hl.1 rfl (lv_room (Nat.le_of_ble_eq_true rfl)) dX7_meets_89 (fun u106 σ107 H locs hw hO => ?_)
      refine cx_last C hO (a := 17) rfl hw.1 dX7_meets_92 (fun H locs σ108 eσ108 hO => ?_)
      have hw := hw.2 σ108 eσ108
      obtain ⟨x6_109, ex6_109⟩ : ∃ y : Int32, y = x6 + 1 := ⟨_, rfl⟩
      have hw := hw x6_109 ex6_109
      refine lv_iinc (v := x6_109) (lv' := [(6, .int x6_109), (0, .ref (ad 0)), (1, .int x1), (2, .int x2), (3, .int x3), (4, .int x4)]) hx hb dX7_meets_93 hl (k := 5) rfl (by rw [ex6_109]; rfl) (by decide) rfl (fun ls hl => ?_)
      refine lv_goto (tgt := 62) hx hb dX7_meets_96 (by decide) ?_
      exact ih x1 x2 x3 x4 x6_109 σ108 hw H locs ls hO (lv_sub hl [1, 2, 3, 4, 5, 0] rfl)
set_option maxRecDepth 100000 in
set_option maxHeartbeats 4000000 in
theorem kc_X7_meets_44 {p : Program} {l : Launch} {e : Env} {s : State} {m : MethodId} {args : Array Value} {below : List Frame} {meth : Method} {c : Code} {D : va_G} {y : Nat → ClassId} {ad t : Nat → Nat} {X : va_W} {A : Nat → Prop} {Q : Int32 → cS → Prop} (C : cC p s m args meth c cX7_meets 7 (some .int) RX7 wsX7_meets D y t A) (x1 : Int32) (x2 : Int32) (x3 : Int32) (x4 : Int32) (σ : cS) (hw : v_X7_meets_44 Q x1 x2 x3 x4 σ) (H : Heap) (locs : List Loc) (ls : Array Slot) (hO : cO D y ad X A s.heap H locs σ) (hl : lv_has ls 7 [(0, .ref (ad 0)), (1, .int x1), (2, .int x2), (3, .int x3), (4, .int x4)]) : W p l e rc_X7_meets s m args below meth c H locs 0 0 (MQ below (va_Qi Q (cB D y ad X A) A) args s 0 0 A) (F0 m 44 ls []) := by
  obtain ⟨hx, hb, hr, hml, hown, hts, hlk, hK, hA, hTs, hNw⟩ := id C
  unfold v_X7_meets_44 at hw
  refine lv_aload_n hx hb dX7_meets_44 rfl (lv_at hl 0 rfl) ?_
  refine lv_iload_n hx hb dX7_meets_45 rfl (lv_at hl 1 rfl) ?_
  refine cx_civ C hO (cc_X7_missing l D y ad t X σ x1 _ hw) (by decide) rfl rfl (cwV 1 hts gX7_meets_X7_missing rfl rfl rfl (by decide +kernel) ⟨Nat.le_of_ble_eq_true rfl, Nat.le_of_ble_eq_true rfl⟩) rfl hl.1 rfl (lv_room (Nat.le_of_ble_eq_true rfl)) dX7_meets_46 (fun u101 σ102 H locs hw hO => ?_)
  refine lv_istore (lv' := [(5, .int u101), (0, .ref (ad 0)), (1, .int x1), (2, .int x2), (3, .int x3), (4, .int x4)]) hx hb dX7_meets_49 hl (by decide) rfl (fun ls hl => ?_)
  refine lv_iload hx hb dX7_meets_51 (lv_at hl 0 rfl) ?_
  refine lv_if_eq (tgt := 59) hx hb dX7_meets_53 (by decide) (fun hc => ?_) (fun hc => ?_)
  · have hw := hw.1 hc
    refine lv_iconst (v := 0) hx hb dX7_meets_59 (by decide) ?_
    refine lv_istore (lv' := [(6, .int ((0 : Int32))), (5, .int u101), (0, .ref (ad 0)), (1, .int x1), (2, .int x2), (3, .int x3), (4, .int x4)]) hx hb dX7_meets_60 hl (by decide) rfl (fun ls hl => ?_)
    exact kc_X7_meets_62 C fuL x1 x2 x3 x4 ((0 : Int32)) σ102 hw H locs ls hO (lv_sub hl [2, 3, 4, 5, 6, 0] rfl)
  · have hw := hw.2 hc
    refine lv_iload hx hb dX7_meets_56 (lv_at hl 0 rfl) ?_
    exact cx_iret C hO hw dX7_meets_58
set_option maxRecDepth 100000 in
set_option maxHeartbeats 4000000 in
theorem kc_X7_meets_e {p : Program} {l : Launch} {e : Env} {s : State} {m : MethodId} {args : Array Value} {below : List Frame} {meth : Method} {c : Code} {D : va_G} {y : Nat → ClassId} {ad t : Nat → Nat} {X : va_W} {A : Nat → Prop} {Q : Int32 → cS → Prop} (C : cC p s m args meth c cX7_meets 7 (some .int) RX7 wsX7_meets D y t A) (x1 : Int32) (x2 : Int32) (x3 : Int32) (x4 : Int32) (σ : cS) (hw : v_X7_meets Q x1 x2 x3 x4 σ) (H : Heap) (locs : List Loc) (ls : Array Slot) (hO : cO D y ad X A s.heap H locs σ) (hl : lv_has ls 7 [(0, .ref (ad 0)), (1, .int x1), (2, .int x2), (3, .int x3), (4, .int x4)]) : W p l e rc_X7_meets s m args below meth c H locs 0 0 (MQ below (va_Qi Q (cB D y ad X A) A) args s 0 0 A) (F0 m 0 ls []) := by
  obtain ⟨hx, hb, hr, hml, hown, hts, hlk, hK, hA, hTs, hNw⟩ := id C
  unfold v_X7_meets at hw
  refine lv_iload_n hx hb dX7_meets_0 rfl (lv_at hl 2 rfl) ?_
  refine lv_bipush (v := -20) hx hb dX7_meets_1 (by decide) ?_
  refine lv_bipush (v := 20) hx hb dX7_meets_3 (by decide) ?_
  refine cx_cis C hO (cc_X7_within l D y ad t X σ x2 (-20 : Int32) (20 : Int32) _ hw) (va_cwS 3 hts gX7_meets_X7_within rfl rfl rfl (by decide +kernel) ⟨Nat.le_of_ble_eq_true rfl, Nat.le_of_ble_eq_true rfl⟩) rfl hl.1 rfl (lv_room (Nat.le_of_ble_eq_true rfl)) dX7_meets_5 (fun u101 σ102 H locs hw hO => ?_)
  refine lv_if_eq (tgt := 42) hx hb dX7_meets_8 (by decide) (fun hc => ?_) (fun hc => ?_)
  · have hw := hw.1 hc
    exact kc_X7_meets_42 C σ102 hw H locs ls hO (lv_sub hl [0] rfl)
  · have hw := hw.2 hc
    refine lv_iload_n hx hb dX7_meets_11 rfl (lv_at hl 3 rfl) ?_
    refine lv_bipush (v := -20) hx hb dX7_meets_12 (by decide) ?_
    refine lv_bipush (v := 20) hx hb dX7_meets_14 (by decide) ?_
    refine cx_cis C hO (cc_X7_within l D y ad t X σ102 x3 (-20 : Int32) (20 : Int32) _ hw) (va_cwS 3 hts gX7_meets_X7_within rfl rfl rfl (by decide +kernel) ⟨Nat.le_of_ble_eq_true rfl, Nat.le_of_ble_eq_true rfl⟩) rfl hl.1 rfl (lv_room (Nat.le_of_ble_eq_true rfl)) dX7_meets_16 (fun u103 σ104 H locs hw hO => ?_)
    refine lv_if_eq (tgt := 42) hx hb dX7_meets_19 (by decide) (fun hc => ?_) (fun hc => ?_)
    · have hw := hw.1 hc
      exact kc_X7_meets_42 C σ104 hw H locs ls hO (lv_sub hl [0] rfl)
    · have hw := hw.2 hc
      refine lv_iload hx hb dX7_meets_22 (lv_at hl 4 rfl) ?_
      refine lv_bipush (v := -20) hx hb dX7_meets_24 (by decide) ?_
      refine lv_bipush (v := 20) hx hb dX7_meets_26 (by decide) ?_
      refine cx_cis C hO (cc_X7_within l D y ad t X σ104 x4 (-20 : Int32) (20 : Int32) _ hw) (va_cwS 3 hts gX7_meets_X7_within rfl rfl rfl (by decide +kernel) ⟨Nat.le_of_ble_eq_true rfl, Nat.le_of_ble_eq_true rfl⟩) rfl hl.1 rfl (lv_room (Nat.le_of_ble_eq_true rfl)) dX7_meets_28 (fun u105 σ106 H locs hw hO => ?_)
      refine lv_if_eq (tgt := 42) hx hb dX7_meets_31 (by decide) (fun hc => ?_) (fun hc => ?_)
      · have hw := hw.1 hc
        exact kc_X7_meets_42 C σ106 hw H locs ls hO (lv_sub hl [0] rfl)
      · have hw := hw.2 hc
        refine lv_iload_n hx hb dX7_meets_34 rfl (lv_at hl 2 rfl) ?_
        refine lv_if_ne (tgt := 44) hx hb dX7_meets_35 (by decide) (fun hc => ?_) (fun hc => ?_)
        · have hw := hw.1 hc
          exact kc_X7_meets_44 C x1 x2 x3 x4 σ106 hw H locs ls hO (lv_sub hl [0, 1, 2, 3, 4] rfl)
        · have hw := hw.2 hc
          refine lv_iload_n hx hb dX7_meets_38 rfl (lv_at hl 3 rfl) ?_
          refine lv_if_ne (tgt := 44) hx hb dX7_meets_39 (by decide) (fun hc => ?_) (fun hc => ?_)
          · have hw := hw.1 hc
            exact kc_X7_meets_44 C x1 x2 x3 x4 σ106 hw H locs ls hO (lv_sub hl [0, 1, 2, 3, 4] rfl)
          · have hw := hw.2 hc
            exact kc_X7_meets_42 C σ106 hw H locs ls hO (lv_sub hl [0] rfl)
theorem cc_X7_meets (l : Launch) (D : va_G) (y : Nat → ClassId) (ad t : Nat → Nat) (X : va_W) (σ : cS) (x1 : Int32) (x2 : Int32) (x3 : Int32) (x4 : Int32) (Q : Int32 → cS → Prop) (hw : v_X7_meets Q x1 x2 x3 x4 σ) : ∀ sz, Met l yX7_meets wsX7_meets rc_X7_meets (va_Pc [.ref (ad 0), .int x1, .int x2, .int x3, .int x4] (cPre D y ad t X sz σ)) (va_Qi Q (cB D y ad X (va_A (cW y ad σ ++ X) sz)) (va_A (cW y ad σ ++ X) sz)) 0 0 (va_A (cW y ad σ ++ X) sz) :=
  cMet (Qc := fun A => va_Qi Q (cB D y ad X A) A) (by decide) (own := RX7) rfl (Nat.le_of_ble_eq_true rfl) (fun p e s m args below meth c A ls C hO hl => kc_X7_meets_e C x1 x2 x3 x4 σ hw s.heap [] ls hO hl)
abbrev rc_X7_touch : Room := { frames := 4, cells := 0, slots := 0, locals := 99 }
set_option maxRecDepth 100000 in
set_option maxHeartbeats 4000000 in
theorem kc_X7_touch_18 {p : Program} {l : Launch} {e : Env} {s : State} {m : MethodId} {args : Array Value} {below : List Frame} {meth : Method} {c : Code} {D : va_G} {y : Nat → ClassId} {ad t : Nat → Nat} {X : va_W} {A : Nat → Prop} {Q : Int64 → cS → Prop} (C : cC p s m args meth c cX7_touch 6 (some .long) RX7 wsX7_touch D y t A)  (σ : cS) (hw : v_X7_touch_18 Q σ) (H : Heap) (locs : List Loc) (ls : Array Slot) (hO : cO D y ad X A s.heap H locs σ) (hl : lv_has ls 6 [(0, .ref (ad 0))]) : W p l e rc_X7_touch s m args below meth c H locs 0 0 (MQ below (va_Ql Q (cB D y ad X A) A) args s 0 0 A) (F0 m 18 ls []) := by
  obtain ⟨hx, hb, hr, hml, hown, hts, hlk, hK, hA, hTs, hNw⟩ := id C
  unfold v_X7_touch_18 at hw
  refine lv_ldc2 (v := -1000000000001) hx hb hown (hts (.constantLong RX7 108 (-1000000000001)) (by decide +kernel)) dX7_touch_18 ?_
  exact cx_lret C hO hw dX7_touch_21
set_option maxRecDepth 100000 in
set_option maxHeartbeats 4000000 in
theorem kc_X7_touch_84 {p : Program} {l : Launch} {e : Env} {s : State} {m : MethodId} {args : Array Value} {below : List Frame} {meth : Method} {c : Code} {D : va_G} {y : Nat → ClassId} {ad t : Nat → Nat} {X : va_W} {A : Nat → Prop} {Q : Int64 → cS → Prop} (C : cC p s m args meth c cX7_touch 6 (some .long) RX7 wsX7_touch D y t A) (z0 : Int64) (σ : cS) (hw : v_X7_touch_84 Q z0 σ) (H : Heap) (locs : List Loc) (ls : Array Slot) (hO : cO D y ad X A s.heap H locs σ) (hl : lv_has ls 6 [(0, .ref (ad 0))]) : W p l e rc_X7_touch s m args below meth c H locs 0 0 (MQ below (va_Ql Q (cB D y ad X A) A) args s 0 0 A) (F0 m 84 ls [.long z0]) := by
  obtain ⟨hx, hb, hr, hml, hown, hts, hlk, hK, hA, hTs, hNw⟩ := id C
  unfold v_X7_touch_84 at hw
  exact cx_lret C hO hw dX7_touch_84
set_option maxRecDepth 100000 in
set_option maxHeartbeats 4000000 in
theorem kc_X7_touch_e {p : Program} {l : Launch} {e : Env} {s : State} {m : MethodId} {args : Array Value} {below : List Frame} {meth : Method} {c : Code} {D : va_G} {y : Nat → ClassId} {ad t : Nat → Nat} {X : va_W} {A : Nat → Prop} {Q : Int64 → cS → Prop} (C : cC p s m args meth c cX7_touch 6 (some .long) RX7 wsX7_touch D y t A) (x1 : Int32) (x2 : Int32) (x3 : Int32) (x4 : Int32) (σ : cS) (hw : v_X7_touch Q x1 x2 x3 x4 σ) (H : Heap) (locs : List Loc) (ls : Array Slot) (hO : cO D y ad X A s.heap H locs σ) (hl : lv_has ls 6 [(0, .ref (ad 0)), (1, .int x1), (2, .int x2), (3, .int x3), (4, .int x4)]) : W p l e rc_X7_touch s m args below meth c H locs 0 0 (MQ below (va_Ql Q (cB D y ad X A) A) args s 0 0 A) (F0 m 0 ls []) := by
  obtain ⟨hx, hb, hr, hml, hown, hts, hlk, hK, hA, hTs, hNw⟩ := id C
  have hinX7 : ∀ w ∈ wsX70, w ∈ wsX7_touch := fun _ h => List.mem_cons_of_mem _ (List.mem_append_left _ (List.mem_append_left _ (List.mem_append_right _ h)))
  unfold v_X7_touch at hw
  refine lv_iload_n hx hb dX7_touch_0 rfl (lv_at hl 2 rfl) ?_
  refine lv_iload_n hx hb dX7_touch_1 rfl (lv_at hl 3 rfl) ?_
  refine cx_cis C hO (cc_X7_isLetter l D y ad t X σ x2 x3 _ hw) (va_cwS 2 hts gX7_touch_X7_isLetter rfl rfl rfl (by decide +kernel) ⟨Nat.le_of_ble_eq_true rfl, Nat.le_of_ble_eq_true rfl⟩) rfl hl.1 rfl (lv_room (Nat.le_of_ble_eq_true rfl)) dX7_touch_2 (fun u101 σ102 H locs hw hO => ?_)
  refine lv_if_eq (tgt := 18) hx hb dX7_touch_5 (by decide) (fun hc => ?_) (fun hc => ?_)
  · have hw := hw.1 hc
    exact kc_X7_touch_18 C σ102 hw H locs ls hO (lv_sub hl [0] rfl)
  · have hw := hw.2 hc
    refine lv_iload hx hb dX7_touch_8 (lv_at hl 4 rfl) ?_
    refine lv_iconst (v := 0) hx hb dX7_touch_10 (by decide) ?_
    refine lv_iconst (v := 2) hx hb dX7_touch_11 (by decide) ?_
    refine cx_cis C hO (cc_X7_within l D y ad t X σ102 x4 (0 : Int32) (2 : Int32) _ hw) (va_cwS 3 hts gX7_touch_X7_within rfl rfl rfl (by decide +kernel) ⟨Nat.le_of_ble_eq_true rfl, Nat.le_of_ble_eq_true rfl⟩) rfl hl.1 rfl (lv_room (Nat.le_of_ble_eq_true rfl)) dX7_touch_12 (fun u103 σ104 H locs hw hO => ?_)
    refine lv_if_ne (tgt := 22) hx hb dX7_touch_15 (by decide) (fun hc => ?_) (fun hc => ?_)
    · have hw := hw.1 hc
      refine lv_aload_n hx hb dX7_touch_22 rfl (lv_at hl 0 rfl) ?_
      refine lv_iload_n hx hb dX7_touch_23 rfl (lv_at hl 1 rfl) ?_
      refine cx_civ C hO (cc_X7_missing l D y ad t X σ104 x1 _ hw) (by decide) rfl rfl (cwV 1 hts gX7_touch_X7_missing rfl rfl rfl (by decide +kernel) ⟨Nat.le_of_ble_eq_true rfl, Nat.le_of_ble_eq_true rfl⟩) rfl hl.1 rfl (lv_room (Nat.le_of_ble_eq_true rfl)) dX7_touch_24 (fun u105 σ106 H locs hw hO => ?_)
      refine lv_istore (lv' := [(5, .int u105), (0, .ref (ad 0)), (1, .int x1), (2, .int x2), (3, .int x3), (4, .int x4)]) hx hb dX7_touch_27 hl (by decide) rfl (fun ls hl => ?_)
      refine lv_iload hx hb dX7_touch_29 (lv_at hl 0 rfl) ?_
      refine lv_if_eq (tgt := 42) hx hb dX7_touch_31 (by decide) (fun hc => ?_) (fun hc => ?_)
      · have hw := hw.1 hc
        refine lv_aload_n hx hb dX7_touch_42 rfl (lv_at hl 1 rfl) ?_
        refine cx_get C hO (by decide) rfl rfl hinX7 4 (by decide) (idx := 38) (by decide +kernel) rfl rfl dX7_touch_43 ?_
        refine lv_aload_n hx hb dX7_touch_46 rfl (lv_at hl 1 rfl) ?_
        refine cx_get C hO (by decide) rfl rfl hinX7 1 (by decide) (idx := 18) (by decide +kernel) rfl rfl dX7_touch_47 ?_
        refine lv_iload_n hx hb dX7_touch_50 rfl (lv_at hl 2 rfl) ?_
        refine cx_aaL C hO hw.1 dX7_touch_51 (fun o107 eo107 ho107 => ?_)
        have hw := hw.2 o107 eo107
        refine lv_iload_n hx hb dX7_touch_52 rfl (lv_at hl 3 rfl) ?_
        refine lv_iload_n hx hb dX7_touch_53 rfl (lv_at hl 4 rfl) ?_
        refine lv_aload_n hx hb dX7_touch_54 rfl (lv_at hl 1 rfl) ?_
        refine cx_get C hO (by decide) rfl rfl hinX7 7 (by decide) (idx := 49) (by decide +kernel) rfl rfl dX7_touch_55 ?_
        refine cx_cvv C hO (cc_X4_findTouch l D y ad t X σ106 o107 x2 x3 18 ho107 rfl _ hw) (by decide) rfl rfl (cwV 4 hts gX7_touch_X4_findTouch rfl rfl rfl (by decide +kernel) ⟨Nat.le_of_ble_eq_true rfl, Nat.le_of_ble_eq_true rfl⟩) rfl hl.1 rfl (lv_room (Nat.le_of_ble_eq_true rfl)) dX7_touch_58 (fun σ109 H locs hw hO => ?_)
        refine lv_aload_n hx hb dX7_touch_61 rfl (lv_at hl 1 rfl) ?_
        refine cx_get C hO (by decide) rfl rfl hinX7 7 (by decide) (idx := 49) (by decide +kernel) rfl rfl dX7_touch_62 ?_
        refine cx_cis C hO (cc_X6_first l D y ad t X σ109 18 rfl _ hw) (va_cwS 1 hts gX7_touch_X6_first rfl rfl rfl (by decide +kernel) ⟨Nat.le_of_ble_eq_true rfl, Nat.le_of_ble_eq_true rfl⟩) rfl hl.1 rfl (lv_room (Nat.le_of_ble_eq_true rfl)) dX7_touch_65 (fun u110 σ111 H locs hw hO => ?_)
        refine lv_if_ge (tgt := 77) hx hb dX7_touch_68 (by decide) (fun hc => ?_) (fun hc => ?_)
        · have hw := hw.1 hc
          refine lv_aload_n hx hb dX7_touch_77 rfl (lv_at hl 1 rfl) ?_
          refine cx_get C hO (by decide) rfl rfl hinX7 7 (by decide) (idx := 49) (by decide +kernel) rfl rfl dX7_touch_78 ?_
          refine lv_iload hx hb dX7_touch_81 (lv_at hl 5 rfl) ?_
          refine cx_lald C hO (a := 18) rfl hw.1 dX7_touch_83 ?_
          have hw := hw.2
          exact kc_X7_touch_84 C (σ111.1 18 (x4).toNatClampNeg) σ111 hw H locs ls hO (lv_sub hl [1] rfl)
        · have hw := hw.2 hc
          refine lv_ldc2 (v := -1000000000004) hx hb hown (hts (.constantLong RX7 122 (-1000000000004)) (by decide +kernel)) dX7_touch_71 ?_
          refine lv_goto (tgt := 84) hx hb dX7_touch_74 (by decide) ?_
          exact kc_X7_touch_84 C ((-1000000000004 : Int64)) σ111 hw H locs ls hO (lv_sub hl [1] rfl)
      · have hw := hw.2 hc
        refine lv_iload hx hb dX7_touch_34 (lv_at hl 0 rfl) ?_
        refine lv_i2l hx hb dX7_touch_36 rfl ?_
        refine lv_ldc2 (v := 1000000000000) hx hb hown (hts (.constantLong RX7 110 (1000000000000)) (by decide +kernel)) dX7_touch_37 ?_
        refine lv_lsub hx hb dX7_touch_40 ?_
        exact cx_lret C hO hw dX7_touch_41
    · have hw := hw.2 hc
      exact kc_X7_touch_18 C σ104 hw H locs ls hO (lv_sub hl [0] rfl)
theorem cc_X7_touch (l : Launch) (D : va_G) (y : Nat → ClassId) (ad t : Nat → Nat) (X : va_W) (σ : cS) (x1 : Int32) (x2 : Int32) (x3 : Int32) (x4 : Int32) (Q : Int64 → cS → Prop) (hw : v_X7_touch Q x1 x2 x3 x4 σ) : ∀ sz, Met l yX7_touch wsX7_touch rc_X7_touch (va_Pc [.ref (ad 0), .int x1, .int x2, .int x3, .int x4] (cPre D y ad t X sz σ)) (va_Ql Q (cB D y ad X (va_A (cW y ad σ ++ X) sz)) (va_A (cW y ad σ ++ X) sz)) 0 0 (va_A (cW y ad σ ++ X) sz) :=
  cMet (Qc := fun A => va_Ql Q (cB D y ad X A) A) (by decide) (own := RX7) rfl (Nat.le_of_ble_eq_true rfl) (fun p e s m args below meth c A ls C hO hl => kc_X7_touch_e C x1 x2 x3 x4 σ hw s.heap [] ls hO hl)
abbrev rc_X7_same : Room := { frames := 2, cells := 0, slots := 0, locals := 42 }
set_option maxRecDepth 100000 in
set_option maxHeartbeats 4000000 in
theorem kc_X7_same_14 {p : Program} {l : Launch} {e : Env} {s : State} {m : MethodId} {args : Array Value} {below : List Frame} {meth : Method} {c : Code} {D : va_G} {y : Nat → ClassId} {ad t : Nat → Nat} {X : va_W} {A : Nat → Prop} {Q : Int32 → cS → Prop} (C : cC p s m args meth c cX7_same 6 (some .int) RX7 wsX7_same D y t A)  (σ : cS) (hw : v_X7_same_14 Q σ) (H : Heap) (locs : List Loc) (ls : Array Slot) (hO : cO D y ad X A s.heap H locs σ) (hl : lv_has ls 6 [(0, .ref (ad 0))]) : W p l e rc_X7_same s m args below meth c H locs 0 0 (MQ below (va_Qi Q (cB D y ad X A) A) args s 0 0 A) (F0 m 14 ls []) := by
  obtain ⟨hx, hb, hr, hml, hown, hts, hlk, hK, hA, hTs, hNw⟩ := id C
  unfold v_X7_same_14 at hw
  refine lv_iconst (v := -1) hx hb dX7_same_14 (by decide) ?_
  exact cx_iret C hO hw dX7_same_15
set_option maxRecDepth 100000 in
set_option maxHeartbeats 4000000 in
theorem kc_X7_same_46 {p : Program} {l : Launch} {e : Env} {s : State} {m : MethodId} {args : Array Value} {below : List Frame} {meth : Method} {c : Code} {D : va_G} {y : Nat → ClassId} {ad t : Nat → Nat} {X : va_W} {A : Nat → Prop} {Q : Int32 → cS → Prop} (C : cC p s m args meth c cX7_same 6 (some .int) RX7 wsX7_same D y t A)  (σ : cS) (hw : v_X7_same_46 Q σ) (H : Heap) (locs : List Loc) (ls : Array Slot) (hO : cO D y ad X A s.heap H locs σ) (hl : lv_has ls 6 [(0, .ref (ad 0))]) : W p l e rc_X7_same s m args below meth c H locs 0 0 (MQ below (va_Qi Q (cB D y ad X A) A) args s 0 0 A) (F0 m 46 ls []) := by
  obtain ⟨hx, hb, hr, hml, hown, hts, hlk, hK, hA, hTs, hNw⟩ := id C
  unfold v_X7_same_46 at hw
  refine lv_bipush (v := -2) hx hb dX7_same_46 (by decide) ?_
  exact cx_iret C hO hw dX7_same_48
set_option maxRecDepth 100000 in
set_option maxHeartbeats 4000000 in
theorem kc_X7_same_103 {p : Program} {l : Launch} {e : Env} {s : State} {m : MethodId} {args : Array Value} {below : List Frame} {meth : Method} {c : Code} {D : va_G} {y : Nat → ClassId} {ad t : Nat → Nat} {X : va_W} {A : Nat → Prop} {Q : Int32 → cS → Prop} (C : cC p s m args meth c cX7_same 6 (some .int) RX7 wsX7_same D y t A) (z0 : Int32) (σ : cS) (hw : v_X7_same_103 Q z0 σ) (H : Heap) (locs : List Loc) (ls : Array Slot) (hO : cO D y ad X A s.heap H locs σ) (hl : lv_has ls 6 [(0, .ref (ad 0))]) : W p l e rc_X7_same s m args below meth c H locs 0 0 (MQ below (va_Qi Q (cB D y ad X A) A) args s 0 0 A) (F0 m 103 ls [.int z0]) := by
  obtain ⟨hx, hb, hr, hml, hown, hts, hlk, hK, hA, hTs, hNw⟩ := id C
  unfold v_X7_same_103 at hw
  exact cx_iret C hO hw dX7_same_103
set_option maxRecDepth 100000 in
set_option maxHeartbeats 4000000 in
theorem kc_X7_same_91 {p : Program} {l : Launch} {e : Env} {s : State} {m : MethodId} {args : Array Value} {below : List Frame} {meth : Method} {c : Code} {D : va_G} {y : Nat → ClassId} {ad t : Nat → Nat} {X : va_W} {A : Nat → Prop} {Q : Int32 → cS → Prop} (C : cC p s m args meth c cX7_same 6 (some .int) RX7 wsX7_same D y t A) (z0 : Int32) (σ : cS) (hw : v_X7_same_91 Q z0 σ) (H : Heap) (locs : List Loc) (ls : Array Slot) (hO : cO D y ad X A s.heap H locs σ) (hl : lv_has ls 6 [(0, .ref (ad 0))]) : W p l e rc_X7_same s m args below meth c H locs 0 0 (MQ below (va_Qi Q (cB D y ad X A) A) args s 0 0 A) (F0 m 91 ls [.int z0]) := by
  obtain ⟨hx, hb, hr, hml, hown, hts, hlk, hK, hA, hTs, hNw⟩ := id C
  unfold v_X7_same_91 at hw
  refine lv_istore (lv' := [(5, .int z0), (0, .ref (ad 0))]) hx hb dX7_same_91 hl (by decide) rfl (fun ls hl => ?_)
  refine lv_iload hx hb dX7_same_93 (lv_at hl 0 rfl) ?_
  refine lv_if_eq (tgt := 102) hx hb dX7_same_95 (by decide) (fun hc => ?_) (fun hc => ?_)
  · have hw := hw.1 hc
    refine lv_iconst (v := 0) hx hb dX7_same_102 (by decide) ?_
    exact kc_X7_same_103 C ((0 : Int32)) σ hw H locs ls hO (lv_sub hl [1] rfl)
  · have hw := hw.2 hc
    refine lv_iconst (v := 1) hx hb dX7_same_98 (by decide) ?_
    refine lv_goto (tgt := 103) hx hb dX7_same_99 (by decide) ?_
    exact kc_X7_same_103 C ((1 : Int32)) σ hw H locs ls hO (lv_sub hl [1] rfl)
set_option maxRecDepth 100000 in
set_option maxHeartbeats 4000000 in
theorem kc_X7_same_79 {p : Program} {l : Launch} {e : Env} {s : State} {m : MethodId} {args : Array Value} {below : List Frame} {meth : Method} {c : Code} {D : va_G} {y : Nat → ClassId} {ad t : Nat → Nat} {X : va_W} {A : Nat → Prop} {Q : Int32 → cS → Prop} (C : cC p s m args meth c cX7_same 6 (some .int) RX7 wsX7_same D y t A) (o3 : Nat) (o4 : Nat) (σ : cS) (hw : v_X7_same_79 Q o3 o4 σ) (ho3 : cL o3 = true) (ho4 : cL o4 = true) (H : Heap) (locs : List Loc) (ls : Array Slot) (hO : cO D y ad X A s.heap H locs σ) (hl : lv_has ls 6 [(0, .ref (ad 0)), (3, .ref (ad o3)), (4, .ref (ad o4))]) : W p l e rc_X7_same s m args below meth c H locs 0 0 (MQ below (va_Qi Q (cB D y ad X A) A) args s 0 0 A) (F0 m 79 ls []) := by
  obtain ⟨hx, hb, hr, hml, hown, hts, hlk, hK, hA, hTs, hNw⟩ := id C
  have hinX0 : ∀ w ∈ wsX00, w ∈ wsX7_same := fun _ h => List.mem_cons_of_mem _ (List.mem_append_right _ h)
  unfold v_X7_same_79 at hw
  refine lv_aload_n hx hb dX7_same_79 rfl (lv_at hl 1 rfl) ?_
  refine cx_get C hO (cL_lt ho3).1 (cE_L ho3) rfl hinX0 1 (by decide) (idx := 131) (by decide +kernel) rfl rfl dX7_same_80 ?_
  refine lv_aload hx hb dX7_same_83 (lv_at hl 2 rfl) ?_
  refine cx_get C hO (cL_lt ho4).1 (cE_L ho4) rfl hinX0 1 (by decide) (idx := 131) (by decide +kernel) rfl rfl dX7_same_85 ?_
  refine cx_cis C hO (cc_X6_alike l D y ad t X σ (o3 + 2) (o4 + 2) ((cL_J ho3).2.1) ((cL_J ho4).2.1) _ hw) (va_cwS 2 hts gX7_same_X6_alike rfl rfl rfl (by decide +kernel) ⟨Nat.le_of_ble_eq_true rfl, Nat.le_of_ble_eq_true rfl⟩) rfl hl.1 rfl (lv_room (Nat.le_of_ble_eq_true rfl)) dX7_same_88 (fun u101 σ102 H locs hw hO => ?_)
  exact kc_X7_same_91 C u101 σ102 hw H locs ls hO (lv_sub hl [0] rfl)
set_option maxRecDepth 100000 in
set_option maxHeartbeats 4000000 in
theorem kc_X7_same_e {p : Program} {l : Launch} {e : Env} {s : State} {m : MethodId} {args : Array Value} {below : List Frame} {meth : Method} {c : Code} {D : va_G} {y : Nat → ClassId} {ad t : Nat → Nat} {X : va_W} {A : Nat → Prop} {Q : Int32 → cS → Prop} (C : cC p s m args meth c cX7_same 6 (some .int) RX7 wsX7_same D y t A) (x1 : Int32) (x2 : Int32) (σ : cS) (hw : v_X7_same Q x1 x2 σ) (H : Heap) (locs : List Loc) (ls : Array Slot) (hO : cO D y ad X A s.heap H locs σ) (hl : lv_has ls 6 [(0, .ref (ad 0)), (1, .int x1), (2, .int x2)]) : W p l e rc_X7_same s m args below meth c H locs 0 0 (MQ below (va_Qi Q (cB D y ad X A) A) args s 0 0 A) (F0 m 0 ls []) := by
  obtain ⟨hx, hb, hr, hml, hown, hts, hlk, hK, hA, hTs, hNw⟩ := id C
  have hinX0 : ∀ w ∈ wsX00, w ∈ wsX7_same := fun _ h => List.mem_cons_of_mem _ (List.mem_append_right _ h)
  have hinX7 : ∀ w ∈ wsX70, w ∈ wsX7_same := fun _ h => List.mem_cons_of_mem _ (List.mem_append_left _ (List.mem_append_right _ h))
  unfold v_X7_same at hw
  refine lv_iload_n hx hb dX7_same_0 rfl (lv_at hl 1 rfl) ?_
  refine cx_cis C hO (cc_X7_isLine l D y ad t X σ x1 _ hw) (va_cwS 1 hts gX7_same_X7_isLine rfl rfl rfl (by decide +kernel) ⟨Nat.le_of_ble_eq_true rfl, Nat.le_of_ble_eq_true rfl⟩) rfl hl.1 rfl (lv_room (Nat.le_of_ble_eq_true rfl)) dX7_same_1 (fun u101 σ102 H locs hw hO => ?_)
  refine lv_if_eq (tgt := 14) hx hb dX7_same_4 (by decide) (fun hc => ?_) (fun hc => ?_)
  · have hw := hw.1 hc
    exact kc_X7_same_14 C σ102 hw H locs ls hO (lv_sub hl [0] rfl)
  · have hw := hw.2 hc
    refine lv_iload_n hx hb dX7_same_7 rfl (lv_at hl 2 rfl) ?_
    refine cx_cis C hO (cc_X7_isLine l D y ad t X σ102 x2 _ hw) (va_cwS 1 hts gX7_same_X7_isLine rfl rfl rfl (by decide +kernel) ⟨Nat.le_of_ble_eq_true rfl, Nat.le_of_ble_eq_true rfl⟩) rfl hl.1 rfl (lv_room (Nat.le_of_ble_eq_true rfl)) dX7_same_8 (fun u103 σ104 H locs hw hO => ?_)
    refine lv_if_ne (tgt := 16) hx hb dX7_same_11 (by decide) (fun hc => ?_) (fun hc => ?_)
    · have hw := hw.1 hc
      refine lv_aload_n hx hb dX7_same_16 rfl (lv_at hl 0 rfl) ?_
      refine cx_get C hO (by decide) rfl rfl hinX7 1 (by decide) (idx := 18) (by decide +kernel) rfl rfl dX7_same_17 ?_
      refine lv_iload_n hx hb dX7_same_20 rfl (lv_at hl 1 rfl) ?_
      refine cx_aaL C hO hw.1 dX7_same_21 (fun o105 eo105 ho105 => ?_)
      have hw := hw.2 o105 eo105
      refine lv_astore_n (lv' := [(3, .ref (ad o105)), (0, .ref (ad 0)), (1, .int x1), (2, .int x2)]) hx hb dX7_same_22 rfl hl (by decide) rfl (fun ls hl => ?_)
      refine lv_aload_n hx hb dX7_same_23 rfl (lv_at hl 1 rfl) ?_
      refine cx_get C hO (by decide) rfl rfl hinX7 1 (by decide) (idx := 18) (by decide +kernel) rfl rfl dX7_same_24 ?_
      refine lv_iload_n hx hb dX7_same_27 rfl (lv_at hl 3 rfl) ?_
      refine cx_aaL C hO hw.1 dX7_same_28 (fun o106 eo106 ho106 => ?_)
      have hw := hw.2 o106 eo106
      refine lv_astore (lv' := [(4, .ref (ad o106)), (3, .ref (ad o105)), (0, .ref (ad 0)), (1, .int x1), (2, .int x2)]) hx hb dX7_same_29 hl (by decide) rfl (fun ls hl => ?_)
      refine lv_aload_n hx hb dX7_same_31 rfl (lv_at hl 1 rfl) ?_
      refine cx_get C hO (cL_lt ho105).1 (cE_L ho105) rfl hinX0 4 (by decide) (idx := 90) (by decide +kernel) rfl rfl dX7_same_32 ?_
      refine lv_if_eq (tgt := 46) hx hb dX7_same_35 (by decide) (fun hc => ?_) (fun hc => ?_)
      · have hw := hw.1 hc
        exact kc_X7_same_46 C σ104 hw H locs ls hO (lv_sub hl [2] rfl)
      · have hw := hw.2 hc
        refine lv_aload hx hb dX7_same_38 (lv_at hl 0 rfl) ?_
        refine cx_get C hO (cL_lt ho106).1 (cE_L ho106) rfl hinX0 4 (by decide) (idx := 90) (by decide +kernel) rfl rfl dX7_same_40 ?_
        refine lv_if_ne (tgt := 49) hx hb dX7_same_43 (by decide) (fun hc => ?_) (fun hc => ?_)
        · have hw := hw.1 hc
          refine lv_aload_n hx hb dX7_same_49 rfl (lv_at hl 1 rfl) ?_
          refine cx_get C hO (cL_lt ho105).1 (cE_L ho105) rfl hinX0 6 (by decide) (idx := 94) (by decide +kernel) rfl rfl dX7_same_50 ?_
          refine lv_if_ne (tgt := 79) hx hb dX7_same_53 (by decide) (fun hc => ?_) (fun hc => ?_)
          · have hw := hw.1 hc
            exact kc_X7_same_79 C o105 o106 σ104 hw ho105 ho106 H locs ls hO (lv_sub hl [2, 1, 0] rfl)
          · have hw := hw.2 hc
            refine lv_aload hx hb dX7_same_56 (lv_at hl 0 rfl) ?_
            refine cx_get C hO (cL_lt ho106).1 (cE_L ho106) rfl hinX0 6 (by decide) (idx := 94) (by decide +kernel) rfl rfl dX7_same_58 ?_
            refine lv_if_ne (tgt := 79) hx hb dX7_same_61 (by decide) (fun hc => ?_) (fun hc => ?_)
            · have hw := hw.1 hc
              exact kc_X7_same_79 C o105 o106 σ104 hw ho105 ho106 H locs ls hO (lv_sub hl [2, 1, 0] rfl)
            · have hw := hw.2 hc
              refine lv_aload_n hx hb dX7_same_64 rfl (lv_at hl 1 rfl) ?_
              refine cx_get C hO (cL_lt ho105).1 (cE_L ho105) rfl hinX0 0 (by decide) (idx := 171) (by decide +kernel) rfl rfl dX7_same_65 ?_
              refine lv_aload hx hb dX7_same_68 (lv_at hl 0 rfl) ?_
              refine cx_get C hO (cL_lt ho106).1 (cE_L ho106) rfl hinX0 0 (by decide) (idx := 171) (by decide +kernel) rfl rfl dX7_same_70 ?_
              refine cx_cis C hO (cc_X6_alike l D y ad t X σ104 (o105 + 1) (o106 + 1) ((cL_J ho105).1) ((cL_J ho106).1) _ hw) (va_cwS 2 hts gX7_same_X6_alike rfl rfl rfl (by decide +kernel) ⟨Nat.le_of_ble_eq_true rfl, Nat.le_of_ble_eq_true rfl⟩) rfl hl.1 rfl (lv_room (Nat.le_of_ble_eq_true rfl)) dX7_same_73 (fun u107 σ108 H locs hw hO => ?_)
              refine lv_goto (tgt := 91) hx hb dX7_same_76 (by decide) ?_
              exact kc_X7_same_91 C u107 σ108 hw H locs ls hO (lv_sub hl [2] rfl)
        · have hw := hw.2 hc
          exact kc_X7_same_46 C σ104 hw H locs ls hO (lv_sub hl [2] rfl)
    · have hw := hw.2 hc
      exact kc_X7_same_14 C σ104 hw H locs ls hO (lv_sub hl [0] rfl)
theorem cc_X7_same (l : Launch) (D : va_G) (y : Nat → ClassId) (ad t : Nat → Nat) (X : va_W) (σ : cS) (x1 : Int32) (x2 : Int32) (Q : Int32 → cS → Prop) (hw : v_X7_same Q x1 x2 σ) : ∀ sz, Met l yX7_same wsX7_same rc_X7_same (va_Pc [.ref (ad 0), .int x1, .int x2] (cPre D y ad t X sz σ)) (va_Qi Q (cB D y ad X (va_A (cW y ad σ ++ X) sz)) (va_A (cW y ad σ ++ X) sz)) 0 0 (va_A (cW y ad σ ++ X) sz) :=
  cMet (Qc := fun A => va_Qi Q (cB D y ad X A) A) (by decide) (own := RX7) rfl (Nat.le_of_ble_eq_true rfl) (fun p e s m args below meth c A ls C hO hl => kc_X7_same_e C x1 x2 σ hw s.heap [] ls hO hl)
abbrev rc_X7_multiply : Room := { frames := 0, cells := 0, slots := 0, locals := 0 }
set_option maxRecDepth 100000 in
set_option maxHeartbeats 4000000 in
theorem kc_X7_multiply_12 {p : Program} {l : Launch} {e : Env} {s : State} {m : MethodId} {args : Array Value} {below : List Frame} {meth : Method} {c : Code} {D : va_G} {y : Nat → ClassId} {ad t : Nat → Nat} {X : va_W} {A : Nat → Prop} {Q : cS → Prop} (C : cC p s m args meth c cX7_multiply 6 none RX7 wsX7_multiply D y t A) {r0 : Nat} (ha_r0 : cJ r0 = true) {r3 : Int32 → Int32 → Int32 → Int32 → cS → Prop} (hr3 : ∀ (x1 : Int32) (x2 : Int32) (x3 : Int32) (x4 : Int32) (σ : cS), r3 x1 x2 x3 x4 σ → ∀ (H : Heap) (locs : List Loc) (ls : Array Slot), cO D y ad X A s.heap H locs σ → lv_has ls 6 [(0, .ref (ad r0)), (1, .int x1), (2, .int x2), (3, .int x3), (4, .int x4)] → W p l e rc_X7_multiply s m args below meth c H locs 0 0 (MQ below (va_Qv Q (cB D y ad X A) A) args s 0 0 A) (F0 m 3 ls [])) (n : Nat) : ∀ (x1 : Int32) (x2 : Int32) (x3 : Int32) (x4 : Int32) (x5 : Int32) (σ : cS), v_X7_multiply_12 Q r0 r3 n x1 x2 x3 x4 x5 σ → ∀ (H : Heap) (locs : List Loc) (ls : Array Slot), cO D y ad X A s.heap H locs σ → lv_has ls 6 [(0, .ref (ad r0)), (1, .int x1), (2, .int x2), (3, .int x3), (4, .int x4), (5, .int x5)] → W p l e rc_X7_multiply s m args below meth c H locs 0 0 (MQ below (va_Qv Q (cB D y ad X A) A) args s 0 0 A) (F0 m 12 ls []) := by
  obtain ⟨hx, hb, hr, hml, hown, hts, hlk, hK, hA, hTs, hNw⟩ := id C
  induction n with
  | zero =>
    intro x1 x2 x3 x4 x5 σ hw
    exact (show False from hw).elim
  | succ n ih =>
    intro x1 x2 x3 x4 x5 σ hw H locs ls hO hl
    unfold v_X7_multiply_12 at hw
    refine lv_iload hx hb dX7_multiply_12 (lv_at hl 5 rfl) ?_
    refine lv_if_le (tgt := 44) hx hb dX7_multiply_14 (by decide) (fun hc => ?_) (fun hc => ?_)
    · have hw := hw.1 hc
      refine lv_aload_n hx hb dX7_multiply_44 rfl (lv_at hl 0 rfl) ?_
      refine lv_iconst (v := 0) hx hb dX7_multiply_45 (by decide) ?_
      refine lv_dup2_11 hx hb dX7_multiply_46 rfl rfl ?_
      refine cx_lald C hO (a := r0) ha_r0 hw.1 dX7_multiply_47 ?_
      have hw := hw.2
      refine lv_iload_n hx hb dX7_multiply_48 rfl (lv_at hl 2 rfl) ?_
      refine lv_i2l hx hb dX7_multiply_49 rfl ?_
      refine lv_lmul hx hb dX7_multiply_50 ?_
      refine cx_last C hO (a := r0) ha_r0 hw.1 dX7_multiply_51 (fun H locs σ101 eσ101 hO => ?_)
      have hw := hw.2 σ101 eσ101
      obtain ⟨x4_102, ex4_102⟩ : ∃ y : Int32, y = x4 + 1 := ⟨_, rfl⟩
      have hw := hw x4_102 ex4_102
      refine lv_iinc (v := x4_102) (lv' := [(4, .int x4_102), (0, .ref (ad r0)), (1, .int x1), (2, .int x2), (3, .int x3), (5, .int x5)]) hx hb dX7_multiply_52 hl (k := 4) rfl (by rw [ex4_102]; rfl) (by decide) rfl (fun ls hl => ?_)
      refine lv_goto (tgt := 3) hx hb dX7_multiply_55 (by decide) ?_
      exact hr3 x1 x2 x3 x4_102 σ101 hw H locs ls hO (lv_sub hl [1, 2, 3, 4, 0] rfl)
    · have hw := hw.2 hc
      refine lv_aload_n hx hb dX7_multiply_17 rfl (lv_at hl 0 rfl) ?_
      refine lv_iload hx hb dX7_multiply_18 (lv_at hl 5 rfl) ?_
      refine lv_aload_n hx hb dX7_multiply_20 rfl (lv_at hl 0 rfl) ?_
      refine lv_iload hx hb dX7_multiply_21 (lv_at hl 5 rfl) ?_
      refine cx_lald C hO (a := r0) ha_r0 hw.1 dX7_multiply_23 ?_
      have hw := hw.2
      refine lv_iload_n hx hb dX7_multiply_24 rfl (lv_at hl 2 rfl) ?_
      refine lv_i2l hx hb dX7_multiply_25 rfl ?_
      refine lv_lmul hx hb dX7_multiply_26 ?_
      refine lv_aload_n hx hb dX7_multiply_27 rfl (lv_at hl 0 rfl) ?_
      refine lv_iload hx hb dX7_multiply_28 (lv_at hl 5 rfl) ?_
      refine lv_iconst (v := 1) hx hb dX7_multiply_30 (by decide) ?_
      refine lv_isub hx hb dX7_multiply_31 ?_
      refine cx_lald C hO (a := r0) ha_r0 hw.1 dX7_multiply_32 ?_
      have hw := hw.2
      refine lv_iload_n hx hb dX7_multiply_33 rfl (lv_at hl 1 rfl) ?_
      refine lv_i2l hx hb dX7_multiply_34 rfl ?_
      refine lv_lmul hx hb dX7_multiply_35 ?_
      refine lv_ladd hx hb dX7_multiply_36 ?_
      refine cx_last C hO (a := r0) ha_r0 hw.1 dX7_multiply_37 (fun H locs σ103 eσ103 hO => ?_)
      have hw := hw.2 σ103 eσ103
      obtain ⟨x5_104, ex5_104⟩ : ∃ y : Int32, y = x5 + (-1) := ⟨_, rfl⟩
      have hw := hw x5_104 ex5_104
      refine lv_iinc (v := x5_104) (lv' := [(5, .int x5_104), (0, .ref (ad r0)), (1, .int x1), (2, .int x2), (3, .int x3), (4, .int x4)]) hx hb dX7_multiply_38 hl (k := 5) rfl (by rw [ex5_104]; rfl) (by decide) rfl (fun ls hl => ?_)
      refine lv_goto (tgt := 12) hx hb dX7_multiply_41 (by decide) ?_
      exact ih x1 x2 x3 x4 x5_104 σ103 hw H locs ls hO (lv_sub hl [1, 2, 3, 4, 5, 0] rfl)
set_option maxRecDepth 100000 in
set_option maxHeartbeats 4000000 in
theorem kc_X7_multiply_3 {p : Program} {l : Launch} {e : Env} {s : State} {m : MethodId} {args : Array Value} {below : List Frame} {meth : Method} {c : Code} {D : va_G} {y : Nat → ClassId} {ad t : Nat → Nat} {X : va_W} {A : Nat → Prop} {Q : cS → Prop} (C : cC p s m args meth c cX7_multiply 6 none RX7 wsX7_multiply D y t A) {r0 : Nat} (ha_r0 : cJ r0 = true) (n : Nat) : ∀ (x1 : Int32) (x2 : Int32) (x3 : Int32) (x4 : Int32) (σ : cS), v_X7_multiply_3 Q r0 n x1 x2 x3 x4 σ → ∀ (H : Heap) (locs : List Loc) (ls : Array Slot), cO D y ad X A s.heap H locs σ → lv_has ls 6 [(0, .ref (ad r0)), (1, .int x1), (2, .int x2), (3, .int x3), (4, .int x4)] → W p l e rc_X7_multiply s m args below meth c H locs 0 0 (MQ below (va_Qv Q (cB D y ad X A) A) args s 0 0 A) (F0 m 3 ls []) := by
  obtain ⟨hx, hb, hr, hml, hown, hts, hlk, hK, hA, hTs, hNw⟩ := id C
  induction n with
  | zero =>
    intro x1 x2 x3 x4 σ hw
    exact (show False from hw).elim
  | succ n ih =>
    intro x1 x2 x3 x4 σ hw H locs ls hO hl
    unfold v_X7_multiply_3 at hw
    refine lv_iload hx hb dX7_multiply_3 (lv_at hl 4 rfl) ?_
    refine lv_iload_n hx hb dX7_multiply_5 rfl (lv_at hl 3 rfl) ?_
    refine lv_icmp_ge (tgt := 58) hx hb dX7_multiply_6 (by decide) (fun hc => ?_) (fun hc => ?_)
    · have hw := hw.1 hc
      exact cx_vret C hO hw dX7_multiply_58
    · have hw := hw.2 hc
      refine lv_iconst (v := 3) hx hb dX7_multiply_9 (by decide) ?_
      refine lv_istore (lv' := [(5, .int ((3 : Int32))), (0, .ref (ad r0)), (1, .int x1), (2, .int x2), (3, .int x3), (4, .int x4)]) hx hb dX7_multiply_10 hl (by decide) rfl (fun ls hl => ?_)
      exact kc_X7_multiply_12 C ha_r0 ih fuL x1 x2 x3 x4 ((3 : Int32)) σ hw H locs ls hO (lv_sub hl [1, 2, 3, 4, 5, 0] rfl)
set_option maxRecDepth 100000 in
set_option maxHeartbeats 4000000 in
theorem kc_X7_multiply_e {p : Program} {l : Launch} {e : Env} {s : State} {m : MethodId} {args : Array Value} {below : List Frame} {meth : Method} {c : Code} {D : va_G} {y : Nat → ClassId} {ad t : Nat → Nat} {X : va_W} {A : Nat → Prop} {Q : cS → Prop} (C : cC p s m args meth c cX7_multiply 6 none RX7 wsX7_multiply D y t A) {r0 : Nat} (ha_r0 : cJ r0 = true) (x1 : Int32) (x2 : Int32) (x3 : Int32) (σ : cS) (hw : v_X7_multiply Q r0 x1 x2 x3 σ) (H : Heap) (locs : List Loc) (ls : Array Slot) (hO : cO D y ad X A s.heap H locs σ) (hl : lv_has ls 6 [(0, .ref (ad r0)), (1, .int x1), (2, .int x2), (3, .int x3)]) : W p l e rc_X7_multiply s m args below meth c H locs 0 0 (MQ below (va_Qv Q (cB D y ad X A) A) args s 0 0 A) (F0 m 0 ls []) := by
  obtain ⟨hx, hb, hr, hml, hown, hts, hlk, hK, hA, hTs, hNw⟩ := id C
  unfold v_X7_multiply at hw
  refine lv_iconst (v := 0) hx hb dX7_multiply_0 (by decide) ?_
  refine lv_istore (lv' := [(4, .int ((0 : Int32))), (0, .ref (ad r0)), (1, .int x1), (2, .int x2), (3, .int x3)]) hx hb dX7_multiply_1 hl (by decide) rfl (fun ls hl => ?_)
  exact kc_X7_multiply_3 C ha_r0 fuL x1 x2 x3 ((0 : Int32)) σ hw H locs ls hO (lv_sub hl [1, 2, 3, 4, 0] rfl)
theorem cc_X7_multiply (l : Launch) (D : va_G) (y : Nat → ClassId) (ad t : Nat → Nat) (X : va_W) (σ : cS) (r0 : Nat) (x1 : Int32) (x2 : Int32) (x3 : Int32) (ha_r0 : cJ r0 = true) (Q : cS → Prop) (hw : v_X7_multiply Q r0 x1 x2 x3 σ) : ∀ sz, Met l yX7_multiply wsX7_multiply rc_X7_multiply (va_Pc [.ref (ad r0), .int x1, .int x2, .int x3] (cPre D y ad t X sz σ)) (va_Qv Q (cB D y ad X (va_A (cW y ad σ ++ X) sz)) (va_A (cW y ad σ ++ X) sz)) 0 0 (va_A (cW y ad σ ++ X) sz) :=
  cMet (Qc := fun A => va_Qv Q (cB D y ad X A) A) (by decide) (own := RX7) rfl (Nat.le_of_ble_eq_true rfl) (fun p e s m args below meth c A ls C hO hl => kc_X7_multiply_e C ha_r0 x1 x2 x3 σ hw s.heap [] ls hO hl)
