/-! the class: what each method does, and the walk of its bytecode (written by wip/tools/cgen.py) -/
abbrev rc_X5_readPower : Room := { frames := 1, cells := 0, slots := 0, locals := 20 }
set_option maxRecDepth 100000 in
set_option maxHeartbeats 4000000 in
theorem kc_X5_readPower_20 {p : Program} {l : Launch} {e : Env} {s : State} {m : MethodId} {args : Array Value} {below : List Frame} {meth : Method} {c : Code} {D : va_G} {y : Nat → ClassId} {ad t : Nat → Nat} {X : va_W} {A : Nat → Prop} {Q : Int32 → cS → Prop} (C : cC p s m args meth c cX5_readPower 2 (some .int) RX5 wsX5_readPower D y t A) (x1 : Int32) (σ : cS) (hw : v_X5_readPower_20 Q x1 σ) (H : Heap) (locs : List Loc) (ls : Array Slot) (hO : cO D y ad X A s.heap H locs σ) (hl : lv_has ls 2 [(0, .ref (ad 1)), (1, .int x1)]) : W p l e rc_X5_readPower s m args below meth c H locs 0 0 (MQ below (va_Qi Q (cB D y ad X A) A) args s 0 0 A) (F0 m 20 ls []) := by
  obtain ⟨hx, hb, hr, hml, hown, hts, hlk, hK, hA, hTs, hNw⟩ := id C
  have hinX5 : ∀ w ∈ wsX50, w ∈ wsX5_readPower := fun _ h => List.mem_cons_of_mem _ (List.mem_append_right _ h)
  unfold v_X5_readPower_20 at hw
  refine lv_aload_n hx hb dX5_readPower_20 rfl (lv_at hl 0 rfl) ?_
  refine lv_dup hx hb dX5_readPower_21 rfl ?_
  refine cx_get C hO (by decide) rfl rfl hinX5 2 (by decide) (idx := 33) (by decide +kernel) rfl rfl dX5_readPower_22 ?_
  refine lv_iconst (v := 1) hx hb dX5_readPower_25 (by decide) ?_
  refine lv_iadd hx hb dX5_readPower_26 ?_
  refine cx_put C hO (ty := .int) (by decide) rfl rfl hinX5 tyX5 tyX5_ok nmX5 2 (by decide) (idx := 33) (by decide +kernel) rfl rfl (by decide +kernel) rfl rfl (Nat.le_of_ble_eq_true rfl) (cW_FT (by decide)) dX5_readPower_27 (fun H locs σ101 eσ101 hO => ?_)
  have hw := hw σ101 eσ101
  refine lv_iload_n hx hb dX5_readPower_30 rfl (lv_at hl 1 rfl) ?_
  exact cx_iret C hO hw dX5_readPower_31
set_option maxRecDepth 100000 in
set_option maxHeartbeats 4000000 in
theorem kc_X5_readPower_e {p : Program} {l : Launch} {e : Env} {s : State} {m : MethodId} {args : Array Value} {below : List Frame} {meth : Method} {c : Code} {D : va_G} {y : Nat → ClassId} {ad t : Nat → Nat} {X : va_W} {A : Nat → Prop} {Q : Int32 → cS → Prop} (C : cC p s m args meth c cX5_readPower 2 (some .int) RX5 wsX5_readPower D y t A)  (σ : cS) (hw : v_X5_readPower Q σ) (H : Heap) (locs : List Loc) (ls : Array Slot) (hO : cO D y ad X A s.heap H locs σ) (hl : lv_has ls 2 [(0, .ref (ad 1))]) : W p l e rc_X5_readPower s m args below meth c H locs 0 0 (MQ below (va_Qi Q (cB D y ad X A) A) args s 0 0 A) (F0 m 0 ls []) := by
  obtain ⟨hx, hb, hr, hml, hown, hts, hlk, hK, hA, hTs, hNw⟩ := id C
  unfold v_X5_readPower at hw
  refine lv_aload_n hx hb dX5_readPower_0 rfl (lv_at hl 0 rfl) ?_
  refine cx_civ C hO (cc_X5_next l D y ad t X σ _ hw) (by decide) rfl rfl (cwV 0 hts gX5_readPower_X5_next rfl rfl rfl (by decide +kernel) ⟨Nat.le_of_ble_eq_true rfl, Nat.le_of_ble_eq_true rfl⟩) rfl hl.1 rfl (lv_room (Nat.le_of_ble_eq_true rfl)) dX5_readPower_1 (fun u101 σ102 H locs hw hO => ?_)
  refine lv_bipush (v := 48) hx hb dX5_readPower_4 (by decide) ?_
  refine lv_isub hx hb dX5_readPower_6 ?_
  refine lv_topi (fun x1_103 ex1_103 => ?_)
  have hw := hw x1_103 ex1_103
  refine lv_istore_n (lv' := [(1, .int x1_103), (0, .ref (ad 1))]) hx hb dX5_readPower_7 rfl hl (by decide) rfl (fun ls hl => ?_)
  refine lv_iload_n hx hb dX5_readPower_8 rfl (lv_at hl 0 rfl) ?_
  refine lv_iconst (v := 2) hx hb dX5_readPower_9 (by decide) ?_
  refine lv_icmp_eq (tgt := 20) hx hb dX5_readPower_10 (by decide) (fun hc => ?_) (fun hc => ?_)
  · have hw := hw.1 hc
    exact kc_X5_readPower_20 C x1_103 σ102 hw H locs ls hO (lv_sub hl [1, 0] rfl)
  · have hw := hw.2 hc
    refine lv_iload_n hx hb dX5_readPower_13 rfl (lv_at hl 0 rfl) ?_
    refine lv_iconst (v := 3) hx hb dX5_readPower_14 (by decide) ?_
    refine lv_icmp_eq (tgt := 20) hx hb dX5_readPower_15 (by decide) (fun hc => ?_) (fun hc => ?_)
    · have hw := hw.1 hc
      exact kc_X5_readPower_20 C x1_103 σ102 hw H locs ls hO (lv_sub hl [1, 0] rfl)
    · have hw := hw.2 hc
      refine lv_iconst (v := 1) hx hb dX5_readPower_18 (by decide) ?_
      exact cx_iret C hO hw dX5_readPower_19
theorem cc_X5_readPower (l : Launch) (D : va_G) (y : Nat → ClassId) (ad t : Nat → Nat) (X : va_W) (σ : cS)  (Q : Int32 → cS → Prop) (hw : v_X5_readPower Q σ) : ∀ sz, Met l yX5_readPower wsX5_readPower rc_X5_readPower (va_Pc [.ref (ad 1)] (cPre D y ad t X sz σ)) (va_Qi Q (cB D y ad X (va_A (cW y ad σ ++ X) sz)) (va_A (cW y ad σ ++ X) sz)) 0 0 (va_A (cW y ad σ ++ X) sz) :=
  cMet (Qc := fun A => va_Qi Q (cB D y ad X A) A) (by decide) (own := RX5) rfl (Nat.le_of_ble_eq_true rfl) (fun p e s m args below meth c A ls C hO hl => kc_X5_readPower_e C σ hw s.heap [] ls hO hl)
abbrev rc_X5_readTerm : Room := { frames := 3, cells := 0, slots := 0, locals := 64 }
set_option maxRecDepth 100000 in
set_option maxHeartbeats 4000000 in
theorem kc_X5_readTerm_114 {p : Program} {l : Launch} {e : Env} {s : State} {m : MethodId} {args : Array Value} {below : List Frame} {meth : Method} {c : Code} {D : va_G} {y : Nat → ClassId} {ad t : Nat → Nat} {X : va_W} {A : Nat → Prop} {Q : Int32 → cS → Prop} (C : cC p s m args meth c cX5_readTerm 8 (some .boolean) RX5 wsX5_readTerm D y t A) {r1 : Nat} (ha_r1 : cJ r1 = true)  (σ : cS) (hw : v_X5_readTerm_114 Q r1 σ) (H : Heap) (locs : List Loc) (ls : Array Slot) (hO : cO D y ad X A s.heap H locs σ) (hl : lv_has ls 8 [(0, .ref (ad 1))]) : W p l e rc_X5_readTerm s m args below meth c H locs 0 0 (MQ below (va_Qi Q (cB D y ad X A) A) args s 0 0 A) (F0 m 114 ls []) := by
  obtain ⟨hx, hb, hr, hml, hown, hts, hlk, hK, hA, hTs, hNw⟩ := id C
  unfold v_X5_readTerm_114 at hw
  refine lv_iconst (v := 1) hx hb dX5_readTerm_114 (by decide) ?_
  exact cx_zret C hO hw.1 hw.2 dX5_readTerm_115
set_option maxRecDepth 100000 in
set_option maxHeartbeats 4000000 in
theorem kc_X5_readTerm_84 {p : Program} {l : Launch} {e : Env} {s : State} {m : MethodId} {args : Array Value} {below : List Frame} {meth : Method} {c : Code} {D : va_G} {y : Nat → ClassId} {ad t : Nat → Nat} {X : va_W} {A : Nat → Prop} {Q : Int32 → cS → Prop} (C : cC p s m args meth c cX5_readTerm 8 (some .boolean) RX5 wsX5_readTerm D y t A) {r1 : Nat} (ha_r1 : cJ r1 = true) (x2 : Int32) (x3 : Int32) (x4 : Int64) (x6 : Int32) (σ : cS) (hw : v_X5_readTerm_84 Q r1 x2 x3 x4 x6 σ) (H : Heap) (locs : List Loc) (ls : Array Slot) (hO : cO D y ad X A s.heap H locs σ) (hl : lv_has ls 8 [(0, .ref (ad 1)), (1, .ref (ad r1)), (2, .int x2), (3, .int x3), (4, .long x4), (6, .int x6)]) : W p l e rc_X5_readTerm s m args below meth c H locs 0 0 (MQ below (va_Qi Q (cB D y ad X A) A) args s 0 0 A) (F0 m 84 ls []) := by
  obtain ⟨hx, hb, hr, hml, hown, hts, hlk, hK, hA, hTs, hNw⟩ := id C
  unfold v_X5_readTerm_84 at hw
  refine lv_iload_n hx hb dX5_readTerm_84 rfl (lv_at hl 2 rfl) ?_
  refine lv_iload hx hb dX5_readTerm_85 (lv_at hl 5 rfl) ?_
  refine lv_iadd hx hb dX5_readTerm_87 ?_
  refine lv_topi (fun x7_101 ex7_101 => ?_)
  have hw := hw x7_101 ex7_101
  refine lv_istore (lv' := [(7, .int x7_101), (0, .ref (ad 1)), (1, .ref (ad r1)), (2, .int x2), (3, .int x3), (4, .long x4), (6, .int x6)]) hx hb dX5_readTerm_88 hl (by decide) rfl (fun ls hl => ?_)
  refine lv_iload hx hb dX5_readTerm_90 (lv_at hl 0 rfl) ?_
  refine lv_if_lt (tgt := 114) hx hb dX5_readTerm_92 (by decide) (fun hc => ?_) (fun hc => ?_)
  · have hw := hw.1 hc
    exact kc_X5_readTerm_114 C ha_r1 σ hw H locs ls hO (lv_sub hl [1] rfl)
  · have hw := hw.2 hc
    refine lv_iload hx hb dX5_readTerm_95 (lv_at hl 0 rfl) ?_
    refine lv_aload_n hx hb dX5_readTerm_97 rfl (lv_at hl 2 rfl) ?_
    refine cx_alen C hO (a := r1) ha_r1 dX5_readTerm_98 ?_
    refine lv_icmp_ge (tgt := 114) hx hb dX5_readTerm_99 (by decide) (fun hc => ?_) (fun hc => ?_)
    · have hw := hw.1 hc
      exact kc_X5_readTerm_114 C ha_r1 σ hw H locs ls hO (lv_sub hl [1] rfl)
    · have hw := hw.2 hc
      refine lv_aload_n hx hb dX5_readTerm_102 rfl (lv_at hl 2 rfl) ?_
      refine lv_iload hx hb dX5_readTerm_103 (lv_at hl 0 rfl) ?_
      refine lv_dup2_11 hx hb dX5_readTerm_105 rfl rfl ?_
      refine cx_lald C hO (a := r1) ha_r1 hw.1 dX5_readTerm_106 ?_
      have hw := hw.2
      refine lv_iload_n hx hb dX5_readTerm_107 rfl (lv_at hl 4 rfl) ?_
      refine lv_i2l hx hb dX5_readTerm_108 rfl ?_
      refine lv_lload hx hb dX5_readTerm_109 (lv_at hl 5 rfl) ?_
      refine lv_lmul hx hb dX5_readTerm_111 ?_
      refine lv_ladd hx hb dX5_readTerm_112 ?_
      refine cx_last C hO (a := r1) ha_r1 hw.1 dX5_readTerm_113 (fun H locs σ102 eσ102 hO => ?_)
      have hw := hw.2 σ102 eσ102
      exact kc_X5_readTerm_114 C ha_r1 σ102 hw H locs ls hO (lv_sub hl [1] rfl)
set_option maxRecDepth 100000 in
set_option maxHeartbeats 4000000 in
theorem kc_X5_readTerm_59 {p : Program} {l : Launch} {e : Env} {s : State} {m : MethodId} {args : Array Value} {below : List Frame} {meth : Method} {c : Code} {D : va_G} {y : Nat → ClassId} {ad t : Nat → Nat} {X : va_W} {A : Nat → Prop} {Q : Int32 → cS → Prop} (C : cC p s m args meth c cX5_readTerm 8 (some .boolean) RX5 wsX5_readTerm D y t A) {r1 : Nat} (ha_r1 : cJ r1 = true) (x2 : Int32) (x3 : Int32) (x4 : Int64) (x6 : Int32) (σ : cS) (hw : v_X5_readTerm_59 Q r1 x2 x3 x4 x6 σ) (H : Heap) (locs : List Loc) (ls : Array Slot) (hO : cO D y ad X A s.heap H locs σ) (hl : lv_has ls 8 [(0, .ref (ad 1)), (1, .ref (ad r1)), (2, .int x2), (3, .int x3), (4, .long x4), (6, .int x6)]) : W p l e rc_X5_readTerm s m args below meth c H locs 0 0 (MQ below (va_Qi Q (cB D y ad X A) A) args s 0 0 A) (F0 m 59 ls []) := by
  obtain ⟨hx, hb, hr, hml, hown, hts, hlk, hK, hA, hTs, hNw⟩ := id C
  have hinX5 : ∀ w ∈ wsX50, w ∈ wsX5_readTerm := fun _ h => List.mem_cons_of_mem _ (List.mem_append_right _ h)
  unfold v_X5_readTerm_59 at hw
  refine lv_aload_n hx hb dX5_readTerm_59 rfl (lv_at hl 0 rfl) ?_
  refine cx_civ C hO (cc_X5_next l D y ad t X σ _ hw) (by decide) rfl rfl (cwV 0 hts gX5_readTerm_X5_next rfl rfl rfl (by decide +kernel) ⟨Nat.le_of_ble_eq_true rfl, Nat.le_of_ble_eq_true rfl⟩) rfl hl.1 rfl (lv_room (Nat.le_of_ble_eq_true rfl)) dX5_readTerm_60 (fun u101 σ102 H locs hw hO => ?_)
  refine lv_bipush (v := 116) hx hb dX5_readTerm_63 (by decide) ?_
  refine lv_icmp_ne (tgt := 84) hx hb dX5_readTerm_65 (by decide) (fun hc => ?_) (fun hc => ?_)
  · have hw := hw.1 hc
    exact kc_X5_readTerm_84 C ha_r1 x2 x3 x4 x6 σ102 hw H locs ls hO (lv_sub hl [0, 1, 2, 3, 4, 5] rfl)
  · have hw := hw.2 hc
    refine lv_aload_n hx hb dX5_readTerm_68 rfl (lv_at hl 0 rfl) ?_
    refine lv_dup hx hb dX5_readTerm_69 rfl ?_
    refine cx_get C hO (by decide) rfl rfl hinX5 2 (by decide) (idx := 33) (by decide +kernel) rfl rfl dX5_readTerm_70 ?_
    refine lv_iconst (v := 1) hx hb dX5_readTerm_73 (by decide) ?_
    refine lv_iadd hx hb dX5_readTerm_74 ?_
    refine cx_put C hO (ty := .int) (by decide) rfl rfl hinX5 tyX5 tyX5_ok nmX5 2 (by decide) (idx := 33) (by decide +kernel) rfl rfl (by decide +kernel) rfl rfl (Nat.le_of_ble_eq_true rfl) (cW_FT (by decide)) dX5_readTerm_75 (fun H locs σ103 eσ103 hO => ?_)
    have hw := hw σ103 eσ103
    refine lv_aload_n hx hb dX5_readTerm_78 rfl (lv_at hl 0 rfl) ?_
    refine cx_civ C hO (cc_X5_readPower l D y ad t X σ103 _ hw) (by decide) rfl rfl (cwV 0 hts gX5_readTerm_X5_readPower rfl rfl rfl (by decide +kernel) ⟨Nat.le_of_ble_eq_true rfl, Nat.le_of_ble_eq_true rfl⟩) rfl hl.1 rfl (lv_room (Nat.le_of_ble_eq_true rfl)) dX5_readTerm_79 (fun u104 σ105 H locs hw hO => ?_)
    refine lv_istore (lv' := [(6, .int u104), (0, .ref (ad 1)), (1, .ref (ad r1)), (2, .int x2), (3, .int x3), (4, .long x4)]) hx hb dX5_readTerm_82 hl (by decide) rfl (fun ls hl => ?_)
    exact kc_X5_readTerm_84 C ha_r1 x2 x3 x4 u104 σ105 hw H locs ls hO (lv_sub hl [1, 2, 3, 4, 5, 0] rfl)
set_option maxRecDepth 100000 in
set_option maxHeartbeats 4000000 in
theorem kc_X5_readTerm_e {p : Program} {l : Launch} {e : Env} {s : State} {m : MethodId} {args : Array Value} {below : List Frame} {meth : Method} {c : Code} {D : va_G} {y : Nat → ClassId} {ad t : Nat → Nat} {X : va_W} {A : Nat → Prop} {Q : Int32 → cS → Prop} (C : cC p s m args meth c cX5_readTerm 8 (some .boolean) RX5 wsX5_readTerm D y t A) {r1 : Nat} (ha_r1 : cJ r1 = true) (x2 : Int32) (x3 : Int32) (σ : cS) (hw : v_X5_readTerm Q r1 x2 x3 σ) (H : Heap) (locs : List Loc) (ls : Array Slot) (hO : cO D y ad X A s.heap H locs σ) (hl : lv_has ls 8 [(0, .ref (ad 1)), (1, .ref (ad r1)), (2, .int x2), (3, .int x3)]) : W p l e rc_X5_readTerm s m args below meth c H locs 0 0 (MQ below (va_Qi Q (cB D y ad X A) A) args s 0 0 A) (F0 m 0 ls []) := by
  obtain ⟨hx, hb, hr, hml, hown, hts, hlk, hK, hA, hTs, hNw⟩ := id C
  have hinX5 : ∀ w ∈ wsX50, w ∈ wsX5_readTerm := fun _ h => List.mem_cons_of_mem _ (List.mem_append_right _ h)
  unfold v_X5_readTerm at hw
  refine lv_lconst (v := 1) hx hb dX5_readTerm_0 (by decide) ?_
  refine lv_lstore (lv' := [(4, .long ((1 : Int64))), (0, .ref (ad 1)), (1, .ref (ad r1)), (2, .int x2), (3, .int x3)]) hx hb dX5_readTerm_1 hl (by decide) rfl (fun ls hl => ?_)
  refine lv_iconst (v := 0) hx hb dX5_readTerm_3 (by decide) ?_
  refine lv_istore (lv' := [(6, .int ((0 : Int32))), (4, .long ((1 : Int64))), (0, .ref (ad 1)), (1, .ref (ad r1)), (2, .int x2), (3, .int x3)]) hx hb dX5_readTerm_4 hl (by decide) rfl (fun ls hl => ?_)
  refine lv_aload_n hx hb dX5_readTerm_6 rfl (lv_at hl 2 rfl) ?_
  refine cx_civ C hO (cc_X5_next l D y ad t X σ _ hw) (by decide) rfl rfl (cwV 0 hts gX5_readTerm_X5_next rfl rfl rfl (by decide +kernel) ⟨Nat.le_of_ble_eq_true rfl, Nat.le_of_ble_eq_true rfl⟩) rfl hl.1 rfl (lv_room (Nat.le_of_ble_eq_true rfl)) dX5_readTerm_7 (fun u101 σ102 H locs hw hO => ?_)
  refine cx_cis C hO (cc_X5_isDigit l D y ad t X σ102 u101 _ hw) (va_cwS 1 hts gX5_readTerm_X5_isDigit rfl rfl rfl (by decide +kernel) ⟨Nat.le_of_ble_eq_true rfl, Nat.le_of_ble_eq_true rfl⟩) rfl hl.1 rfl (lv_room (Nat.le_of_ble_eq_true rfl)) dX5_readTerm_10 (fun u103 σ104 H locs hw hO => ?_)
  refine lv_if_eq (tgt := 48) hx hb dX5_readTerm_13 (by decide) (fun hc => ?_) (fun hc => ?_)
  · have hw := hw.1 hc
    refine lv_aload_n hx hb dX5_readTerm_48 rfl (lv_at hl 2 rfl) ?_
    refine cx_civ C hO (cc_X5_next l D y ad t X σ104 _ hw) (by decide) rfl rfl (cwV 0 hts gX5_readTerm_X5_next rfl rfl rfl (by decide +kernel) ⟨Nat.le_of_ble_eq_true rfl, Nat.le_of_ble_eq_true rfl⟩) rfl hl.1 rfl (lv_room (Nat.le_of_ble_eq_true rfl)) dX5_readTerm_49 (fun u105 σ106 H locs hw hO => ?_)
    refine lv_bipush (v := 116) hx hb dX5_readTerm_52 (by decide) ?_
    refine lv_icmp_eq (tgt := 59) hx hb dX5_readTerm_54 (by decide) (fun hc => ?_) (fun hc => ?_)
    · have hw := hw.1 hc
      exact kc_X5_readTerm_59 C ha_r1 x2 x3 ((1 : Int64)) ((0 : Int32)) σ106 hw H locs ls hO (lv_sub hl [2, 3, 4, 5, 1, 0] rfl)
    · have hw := hw.2 hc
      refine lv_iconst (v := 0) hx hb dX5_readTerm_57 (by decide) ?_
      exact cx_zret C hO hw.1 hw.2 dX5_readTerm_58
  · have hw := hw.2 hc
    refine lv_aload_n hx hb dX5_readTerm_16 rfl (lv_at hl 2 rfl) ?_
    refine cx_get C hO (by decide) rfl rfl hinX5 2 (by decide) (idx := 33) (by decide +kernel) rfl rfl dX5_readTerm_17 ?_
    refine lv_topi (fun x7_107 ex7_107 => ?_)
    have hw := hw x7_107 ex7_107
    refine lv_istore (lv' := [(7, .int x7_107), (6, .int ((0 : Int32))), (4, .long ((1 : Int64))), (0, .ref (ad 1)), (1, .ref (ad r1)), (2, .int x2), (3, .int x3)]) hx hb dX5_readTerm_20 hl (by decide) rfl (fun ls hl => ?_)
    refine lv_aload_n hx hb dX5_readTerm_22 rfl (lv_at hl 3 rfl) ?_
    refine cx_clv C hO (cc_X5_readNumber l D y ad t X σ104 _ hw) (by decide) rfl rfl (cwV 0 hts gX5_readTerm_X5_readNumber rfl rfl rfl (by decide +kernel) ⟨Nat.le_of_ble_eq_true rfl, Nat.le_of_ble_eq_true rfl⟩) rfl hl.1 rfl (lv_room (Nat.le_of_ble_eq_true rfl)) dX5_readTerm_23 (fun u108 σ109 H locs hw hO => ?_)
    refine lv_lstore (lv' := [(4, .long u108), (7, .int x7_107), (6, .int ((0 : Int32))), (0, .ref (ad 1)), (1, .ref (ad r1)), (2, .int x2), (3, .int x3)]) hx hb dX5_readTerm_26 hl (by decide) rfl (fun ls hl => ?_)
    refine lv_lload hx hb dX5_readTerm_28 (lv_at hl 0 rfl) ?_
    refine lv_ldc2 (v := 99) hx hb hown (hts (.constantLong RX5 56 (99)) (by decide +kernel)) dX5_readTerm_30 ?_
    refine W.lcmp hx hb dX5_readTerm_33 ?_
    refine lv_if_le (tgt := 45) hx hb dX5_readTerm_34 (by decide) (fun hc => ?_) (fun hc => ?_)
    · have hc := (lg_cmp_le _ _).mp hc
      have hw := hw.1 hc
      refine lv_goto (tgt := 59) hx hb dX5_readTerm_45 (by decide) ?_
      exact kc_X5_readTerm_59 C ha_r1 x2 x3 u108 ((0 : Int32)) σ109 hw H locs ls hO (lv_sub hl [3, 4, 5, 6, 0, 2] rfl)
    · have hc := (not_congr (lg_cmp_le _ _)).mp hc
      have hw := hw.2 hc
      refine lv_aload_n hx hb dX5_readTerm_37 rfl (lv_at hl 3 rfl) ?_
      refine lv_iload hx hb dX5_readTerm_38 (lv_at hl 1 rfl) ?_
      refine cx_put C hO (ty := .int) (by decide) rfl rfl hinX5 tyX5 tyX5_ok nmX5 2 (by decide) (idx := 33) (by decide +kernel) rfl rfl (by decide +kernel) rfl rfl (Nat.le_of_ble_eq_true rfl) (cW_FT (by decide)) dX5_readTerm_40 (fun H locs σ110 eσ110 hO => ?_)
      have hw := hw σ110 eσ110
      refine lv_iconst (v := 0) hx hb dX5_readTerm_43 (by decide) ?_
      exact cx_zret C hO hw.1 hw.2 dX5_readTerm_44
theorem cc_X5_readTerm (l : Launch) (D : va_G) (y : Nat → ClassId) (ad t : Nat → Nat) (X : va_W) (σ : cS) (r1 : Nat) (x2 : Int32) (x3 : Int32) (ha_r1 : cJ r1 = true) (Q : Int32 → cS → Prop) (hw : v_X5_readTerm Q r1 x2 x3 σ) : ∀ sz, Met l yX5_readTerm wsX5_readTerm rc_X5_readTerm (va_Pc [.ref (ad 1), .ref (ad r1), .int x2, .int x3] (cPre D y ad t X sz σ)) (va_Qi Q (cB D y ad X (va_A (cW y ad σ ++ X) sz)) (va_A (cW y ad σ ++ X) sz)) 0 0 (va_A (cW y ad σ ++ X) sz) :=
  cMet (Qc := fun A => va_Qi Q (cB D y ad X A) A) (by decide) (own := RX5) rfl (Nat.le_of_ble_eq_true rfl) (fun p e s m args below meth c A ls C hO hl => kc_X5_readTerm_e C ha_r1 x2 x3 σ hw s.heap [] ls hO hl)
abbrev rc_X5_readPolynomial : Room := { frames := 4, cells := 0, slots := 0, locals := 91 }
set_option maxRecDepth 100000 in
set_option maxHeartbeats 4000000 in
theorem kc_X5_readPolynomial_97 {p : Program} {l : Launch} {e : Env} {s : State} {m : MethodId} {args : Array Value} {below : List Frame} {meth : Method} {c : Code} {D : va_G} {y : Nat → ClassId} {ad t : Nat → Nat} {X : va_W} {A : Nat → Prop} {Q : Int32 → cS → Prop} (C : cC p s m args meth c cX5_readPolynomial 6 (some .boolean) RX5 wsX5_readPolynomial D y t A) {r1 : Nat} (ha_r1 : cJ r1 = true) {r5 : Int32 → Int32 → Int32 → cS → Prop} (hr5 : ∀ (x2 : Int32) (x3 : Int32) (x4 : Int32) (σ : cS), r5 x2 x3 x4 σ → ∀ (H : Heap) (locs : List Loc) (ls : Array Slot), cO D y ad X A s.heap H locs σ → lv_has ls 6 [(0, .ref (ad 1)), (1, .ref (ad r1)), (2, .int x2), (3, .int x3), (4, .int x4)] → W p l e rc_X5_readPolynomial s m args below meth c H locs 0 0 (MQ below (va_Qi Q (cB D y ad X A) A) args s 0 0 A) (F0 m 5 ls [])) (x2 : Int32) (x4 : Int32) (z0 : Int32) (σ : cS) (hw : v_X5_readPolynomial_97 Q r1 r5 x2 x4 z0 σ) (H : Heap) (locs : List Loc) (ls : Array Slot) (hO : cO D y ad X A s.heap H locs σ) (hl : lv_has ls 6 [(0, .ref (ad 1)), (1, .ref (ad r1)), (2, .int x2), (4, .int x4)]) : W p l e rc_X5_readPolynomial s m args below meth c H locs 0 0 (MQ below (va_Qi Q (cB D y ad X A) A) args s 0 0 A) (F0 m 97 ls [.int z0]) := by
  obtain ⟨hx, hb, hr, hml, hown, hts, hlk, hK, hA, hTs, hNw⟩ := id C
  unfold v_X5_readPolynomial_97 at hw
  refine lv_istore_n (lv' := [(3, .int z0), (0, .ref (ad 1)), (1, .ref (ad r1)), (2, .int x2), (4, .int x4)]) hx hb dX5_readPolynomial_97 rfl hl (by decide) rfl (fun ls hl => ?_)
  obtain ⟨x4_101, ex4_101⟩ : ∃ y : Int32, y = x4 + 1 := ⟨_, rfl⟩
  have hw := hw x4_101 ex4_101
  refine lv_iinc (v := x4_101) (lv' := [(4, .int x4_101), (3, .int z0), (0, .ref (ad 1)), (1, .ref (ad r1)), (2, .int x2)]) hx hb dX5_readPolynomial_98 hl (k := 4) rfl (by rw [ex4_101]; rfl) (by decide) rfl (fun ls hl => ?_)
  refine lv_goto (tgt := 5) hx hb dX5_readPolynomial_101 (by decide) ?_
  exact hr5 x2 z0 x4_101 σ hw H locs ls hO (lv_sub hl [2, 3, 4, 1, 0] rfl)
set_option maxRecDepth 100000 in
set_option maxHeartbeats 4000000 in
theorem kc_X5_readPolynomial_92 {p : Program} {l : Launch} {e : Env} {s : State} {m : MethodId} {args : Array Value} {below : List Frame} {meth : Method} {c : Code} {D : va_G} {y : Nat → ClassId} {ad t : Nat → Nat} {X : va_W} {A : Nat → Prop} {Q : Int32 → cS → Prop} (C : cC p s m args meth c cX5_readPolynomial 6 (some .boolean) RX5 wsX5_readPolynomial D y t A) {r1 : Nat} (ha_r1 : cJ r1 = true) {r5 : Int32 → Int32 → Int32 → cS → Prop} (hr5 : ∀ (x2 : Int32) (x3 : Int32) (x4 : Int32) (σ : cS), r5 x2 x3 x4 σ → ∀ (H : Heap) (locs : List Loc) (ls : Array Slot), cO D y ad X A s.heap H locs σ → lv_has ls 6 [(0, .ref (ad 1)), (1, .ref (ad r1)), (2, .int x2), (3, .int x3), (4, .int x4)] → W p l e rc_X5_readPolynomial s m args below meth c H locs 0 0 (MQ below (va_Qi Q (cB D y ad X A) A) args s 0 0 A) (F0 m 5 ls [])) (x2 : Int32) (x4 : Int32) (σ : cS) (hw : v_X5_readPolynomial_92 Q r1 r5 x2 x4 σ) (H : Heap) (locs : List Loc) (ls : Array Slot) (hO : cO D y ad X A s.heap H locs σ) (hl : lv_has ls 6 [(0, .ref (ad 1)), (1, .ref (ad r1)), (2, .int x2), (4, .int x4)]) : W p l e rc_X5_readPolynomial s m args below meth c H locs 0 0 (MQ below (va_Qi Q (cB D y ad X A) A) args s 0 0 A) (F0 m 92 ls []) := by
  obtain ⟨hx, hb, hr, hml, hown, hts, hlk, hK, hA, hTs, hNw⟩ := id C
  unfold v_X5_readPolynomial_92 at hw
  refine lv_iconst (v := 1) hx hb dX5_readPolynomial_92 (by decide) ?_
  refine lv_goto (tgt := 97) hx hb dX5_readPolynomial_93 (by decide) ?_
  exact kc_X5_readPolynomial_97 C ha_r1 hr5 x2 x4 ((1 : Int32)) σ hw H locs ls hO (lv_sub hl [0, 1, 2, 3] rfl)
set_option maxRecDepth 100000 in
set_option maxHeartbeats 4000000 in
theorem kc_X5_readPolynomial_66 {p : Program} {l : Launch} {e : Env} {s : State} {m : MethodId} {args : Array Value} {below : List Frame} {meth : Method} {c : Code} {D : va_G} {y : Nat → ClassId} {ad t : Nat → Nat} {X : va_W} {A : Nat → Prop} {Q : Int32 → cS → Prop} (C : cC p s m args meth c cX5_readPolynomial 6 (some .boolean) RX5 wsX5_readPolynomial D y t A) {r1 : Nat} (ha_r1 : cJ r1 = true) {r5 : Int32 → Int32 → Int32 → cS → Prop} (hr5 : ∀ (x2 : Int32) (x3 : Int32) (x4 : Int32) (σ : cS), r5 x2 x3 x4 σ → ∀ (H : Heap) (locs : List Loc) (ls : Array Slot), cO D y ad X A s.heap H locs σ → lv_has ls 6 [(0, .ref (ad 1)), (1, .ref (ad r1)), (2, .int x2), (3, .int x3), (4, .int x4)] → W p l e rc_X5_readPolynomial s m args below meth c H locs 0 0 (MQ below (va_Qi Q (cB D y ad X A) A) args s 0 0 A) (F0 m 5 ls [])) (x2 : Int32) (x4 : Int32) (z2 : Int32) (z3 : Int32) (σ : cS) (hw : v_X5_readPolynomial_66 Q r1 r5 x2 x4 z2 z3 σ) (H : Heap) (locs : List Loc) (ls : Array Slot) (hO : cO D y ad X A s.heap H locs σ) (hl : lv_has ls 6 [(0, .ref (ad 1)), (1, .ref (ad r1)), (2, .int x2), (4, .int x4)]) : W p l e rc_X5_readPolynomial s m args below meth c H locs 0 0 (MQ below (va_Qi Q (cB D y ad X A) A) args s 0 0 A) (F0 m 66 ls [.int z3, .int z2, .ref (ad r1), .ref (ad 1)]) := by
  obtain ⟨hx, hb, hr, hml, hown, hts, hlk, hK, hA, hTs, hNw⟩ := id C
  unfold v_X5_readPolynomial_66 at hw
  refine cx_civ C hO (cc_X5_readTerm l D y ad t X σ r1 z2 z3 ha_r1 _ hw) (by decide) rfl rfl (cwV 3 hts gX5_readPolynomial_X5_readTerm rfl rfl rfl (by decide +kernel) ⟨Nat.le_of_ble_eq_true rfl, Nat.le_of_ble_eq_true rfl⟩) rfl hl.1 rfl (lv_room (Nat.le_of_ble_eq_true rfl)) dX5_readPolynomial_66 (fun u101 σ102 H locs hw hO => ?_)
  refine lv_if_ne (tgt := 74) hx hb dX5_readPolynomial_69 (by decide) (fun hc => ?_) (fun hc => ?_)
  · have hw := hw.1 hc
    refine lv_aload_n hx hb dX5_readPolynomial_74 rfl (lv_at hl 0 rfl) ?_
    refine cx_civ C hO (cc_X5_next l D y ad t X σ102 _ hw) (by decide) rfl rfl (cwV 0 hts gX5_readPolynomial_X5_next rfl rfl rfl (by decide +kernel) ⟨Nat.le_of_ble_eq_true rfl, Nat.le_of_ble_eq_true rfl⟩) rfl hl.1 rfl (lv_room (Nat.le_of_ble_eq_true rfl)) dX5_readPolynomial_75 (fun u103 σ104 H locs hw hO => ?_)
    refine lv_bipush (v := 43) hx hb dX5_readPolynomial_78 (by decide) ?_
    refine lv_icmp_eq (tgt := 92) hx hb dX5_readPolynomial_80 (by decide) (fun hc => ?_) (fun hc => ?_)
    · have hw := hw.1 hc
      exact kc_X5_readPolynomial_92 C ha_r1 hr5 x2 x4 σ104 hw H locs ls hO (lv_sub hl [0, 1, 2, 3] rfl)
    · have hw := hw.2 hc
      refine lv_aload_n hx hb dX5_readPolynomial_83 rfl (lv_at hl 0 rfl) ?_
      refine cx_civ C hO (cc_X5_next l D y ad t X σ104 _ hw) (by decide) rfl rfl (cwV 0 hts gX5_readPolynomial_X5_next rfl rfl rfl (by decide +kernel) ⟨Nat.le_of_ble_eq_true rfl, Nat.le_of_ble_eq_true rfl⟩) rfl hl.1 rfl (lv_room (Nat.le_of_ble_eq_true rfl)) dX5_readPolynomial_84 (fun u105 σ106 H locs hw hO => ?_)
      refine lv_bipush (v := 45) hx hb dX5_readPolynomial_87 (by decide) ?_
      refine lv_icmp_ne (tgt := 96) hx hb dX5_readPolynomial_89 (by decide) (fun hc => ?_) (fun hc => ?_)
      · have hw := hw.1 hc
        refine lv_iconst (v := 0) hx hb dX5_readPolynomial_96 (by decide) ?_
        exact kc_X5_readPolynomial_97 C ha_r1 hr5 x2 x4 ((0 : Int32)) σ106 hw H locs ls hO (lv_sub hl [0, 1, 2, 3] rfl)
      · have hw := hw.2 hc
        exact kc_X5_readPolynomial_92 C ha_r1 hr5 x2 x4 σ106 hw H locs ls hO (lv_sub hl [0, 1, 2, 3] rfl)
  · have hw := hw.2 hc
    refine lv_iconst (v := 0) hx hb dX5_readPolynomial_72 (by decide) ?_
    exact cx_zret C hO hw.1 hw.2 dX5_readPolynomial_73
set_option maxRecDepth 100000 in
set_option maxHeartbeats 4000000 in
theorem kc_X5_readPolynomial_51 {p : Program} {l : Launch} {e : Env} {s : State} {m : MethodId} {args : Array Value} {below : List Frame} {meth : Method} {c : Code} {D : va_G} {y : Nat → ClassId} {ad t : Nat → Nat} {X : va_W} {A : Nat → Prop} {Q : Int32 → cS → Prop} (C : cC p s m args meth c cX5_readPolynomial 6 (some .boolean) RX5 wsX5_readPolynomial D y t A) {r1 : Nat} (ha_r1 : cJ r1 = true) {r5 : Int32 → Int32 → Int32 → cS → Prop} (hr5 : ∀ (x2 : Int32) (x3 : Int32) (x4 : Int32) (σ : cS), r5 x2 x3 x4 σ → ∀ (H : Heap) (locs : List Loc) (ls : Array Slot), cO D y ad X A s.heap H locs σ → lv_has ls 6 [(0, .ref (ad 1)), (1, .ref (ad r1)), (2, .int x2), (3, .int x3), (4, .int x4)] → W p l e rc_X5_readPolynomial s m args below meth c H locs 0 0 (MQ below (va_Qi Q (cB D y ad X A) A) args s 0 0 A) (F0 m 5 ls [])) (x2 : Int32) (x4 : Int32) (x5 : Int32) (σ : cS) (hw : v_X5_readPolynomial_51 Q r1 r5 x2 x4 x5 σ) (H : Heap) (locs : List Loc) (ls : Array Slot) (hO : cO D y ad X A s.heap H locs σ) (hl : lv_has ls 6 [(0, .ref (ad 1)), (1, .ref (ad r1)), (2, .int x2), (4, .int x4), (5, .int x5)]) : W p l e rc_X5_readPolynomial s m args below meth c H locs 0 0 (MQ below (va_Qi Q (cB D y ad X A) A) args s 0 0 A) (F0 m 51 ls []) := by
  obtain ⟨hx, hb, hr, hml, hown, hts, hlk, hK, hA, hTs, hNw⟩ := id C
  unfold v_X5_readPolynomial_51 at hw
  refine lv_aload_n hx hb dX5_readPolynomial_51 rfl (lv_at hl 0 rfl) ?_
  refine lv_aload_n hx hb dX5_readPolynomial_52 rfl (lv_at hl 1 rfl) ?_
  refine lv_iload_n hx hb dX5_readPolynomial_53 rfl (lv_at hl 2 rfl) ?_
  refine lv_iload hx hb dX5_readPolynomial_54 (lv_at hl 4 rfl) ?_
  refine lv_bipush (v := 45) hx hb dX5_readPolynomial_56 (by decide) ?_
  refine lv_icmp_ne (tgt := 65) hx hb dX5_readPolynomial_58 (by decide) (fun hc => ?_) (fun hc => ?_)
  · have hw := hw.1 hc
    refine lv_iconst (v := 1) hx hb dX5_readPolynomial_65 (by decide) ?_
    exact kc_X5_readPolynomial_66 C ha_r1 hr5 x2 x4 x2 ((1 : Int32)) σ hw H locs ls hO (lv_sub hl [0, 1, 2, 3] rfl)
  · have hw := hw.2 hc
    refine lv_iconst (v := -1) hx hb dX5_readPolynomial_61 (by decide) ?_
    refine lv_goto (tgt := 66) hx hb dX5_readPolynomial_62 (by decide) ?_
    exact kc_X5_readPolynomial_66 C ha_r1 hr5 x2 x4 x2 ((-1 : Int32)) σ hw H locs ls hO (lv_sub hl [0, 1, 2, 3] rfl)
set_option maxRecDepth 100000 in
set_option maxHeartbeats 4000000 in
theorem kc_X5_readPolynomial_41 {p : Program} {l : Launch} {e : Env} {s : State} {m : MethodId} {args : Array Value} {below : List Frame} {meth : Method} {c : Code} {D : va_G} {y : Nat → ClassId} {ad t : Nat → Nat} {X : va_W} {A : Nat → Prop} {Q : Int32 → cS → Prop} (C : cC p s m args meth c cX5_readPolynomial 6 (some .boolean) RX5 wsX5_readPolynomial D y t A) {r1 : Nat} (ha_r1 : cJ r1 = true) {r5 : Int32 → Int32 → Int32 → cS → Prop} (hr5 : ∀ (x2 : Int32) (x3 : Int32) (x4 : Int32) (σ : cS), r5 x2 x3 x4 σ → ∀ (H : Heap) (locs : List Loc) (ls : Array Slot), cO D y ad X A s.heap H locs σ → lv_has ls 6 [(0, .ref (ad 1)), (1, .ref (ad r1)), (2, .int x2), (3, .int x3), (4, .int x4)] → W p l e rc_X5_readPolynomial s m args below meth c H locs 0 0 (MQ below (va_Qi Q (cB D y ad X A) A) args s 0 0 A) (F0 m 5 ls [])) (x2 : Int32) (x4 : Int32) (x5 : Int32) (σ : cS) (hw : v_X5_readPolynomial_41 Q r1 r5 x2 x4 x5 σ) (H : Heap) (locs : List Loc) (ls : Array Slot) (hO : cO D y ad X A s.heap H locs σ) (hl : lv_has ls 6 [(0, .ref (ad 1)), (1, .ref (ad r1)), (2, .int x2), (4, .int x4), (5, .int x5)]) : W p l e rc_X5_readPolynomial s m args below meth c H locs 0 0 (MQ below (va_Qi Q (cB D y ad X A) A) args s 0 0 A) (F0 m 41 ls []) := by
  obtain ⟨hx, hb, hr, hml, hown, hts, hlk, hK, hA, hTs, hNw⟩ := id C
  have hinX5 : ∀ w ∈ wsX50, w ∈ wsX5_readPolynomial := fun _ h => List.mem_cons_of_mem _ (List.mem_append_right _ h)
  unfold v_X5_readPolynomial_41 at hw
  refine lv_aload_n hx hb dX5_readPolynomial_41 rfl (lv_at hl 0 rfl) ?_
  refine lv_dup hx hb dX5_readPolynomial_42 rfl ?_
  refine cx_get C hO (by decide) rfl rfl hinX5 2 (by decide) (idx := 33) (by decide +kernel) rfl rfl dX5_readPolynomial_43 ?_
  refine lv_iconst (v := 1) hx hb dX5_readPolynomial_46 (by decide) ?_
  refine lv_iadd hx hb dX5_readPolynomial_47 ?_
  refine cx_put C hO (ty := .int) (by decide) rfl rfl hinX5 tyX5 tyX5_ok nmX5 2 (by decide) (idx := 33) (by decide +kernel) rfl rfl (by decide +kernel) rfl rfl (Nat.le_of_ble_eq_true rfl) (cW_FT (by decide)) dX5_readPolynomial_48 (fun H locs σ101 eσ101 hO => ?_)
  have hw := hw σ101 eσ101
  exact kc_X5_readPolynomial_51 C ha_r1 hr5 x2 x4 x5 σ101 hw H locs ls hO (lv_sub hl [0, 1, 2, 3, 4] rfl)
set_option maxRecDepth 100000 in
set_option maxHeartbeats 4000000 in
theorem kc_X5_readPolynomial_104 {p : Program} {l : Launch} {e : Env} {s : State} {m : MethodId} {args : Array Value} {below : List Frame} {meth : Method} {c : Code} {D : va_G} {y : Nat → ClassId} {ad t : Nat → Nat} {X : va_W} {A : Nat → Prop} {Q : Int32 → cS → Prop} (C : cC p s m args meth c cX5_readPolynomial 6 (some .boolean) RX5 wsX5_readPolynomial D y t A) {r1 : Nat} (ha_r1 : cJ r1 = true)  (σ : cS) (hw : v_X5_readPolynomial_104 Q r1 σ) (H : Heap) (locs : List Loc) (ls : Array Slot) (hO : cO D y ad X A s.heap H locs σ) (hl : lv_has ls 6 [(0, .ref (ad 1))]) : W p l e rc_X5_readPolynomial s m args below meth c H locs 0 0 (MQ below (va_Qi Q (cB D y ad X A) A) args s 0 0 A) (F0 m 104 ls []) := by
  obtain ⟨hx, hb, hr, hml, hown, hts, hlk, hK, hA, hTs, hNw⟩ := id C
  unfold v_X5_readPolynomial_104 at hw
  refine lv_iconst (v := 1) hx hb dX5_readPolynomial_104 (by decide) ?_
  exact cx_zret C hO hw.1 hw.2 dX5_readPolynomial_105
set_option maxRecDepth 100000 in
set_option maxHeartbeats 4000000 in
theorem kc_X5_readPolynomial_5 {p : Program} {l : Launch} {e : Env} {s : State} {m : MethodId} {args : Array Value} {below : List Frame} {meth : Method} {c : Code} {D : va_G} {y : Nat → ClassId} {ad t : Nat → Nat} {X : va_W} {A : Nat → Prop} {Q : Int32 → cS → Prop} (C : cC p s m args meth c cX5_readPolynomial 6 (some .boolean) RX5 wsX5_readPolynomial D y t A) {r1 : Nat} (ha_r1 : cJ r1 = true) (n : Nat) : ∀ (x2 : Int32) (x3 : Int32) (x4 : Int32) (σ : cS), v_X5_readPolynomial_5 Q r1 n x2 x3 x4 σ → ∀ (H : Heap) (locs : List Loc) (ls : Array Slot), cO D y ad X A s.heap H locs σ → lv_has ls 6 [(0, .ref (ad 1)), (1, .ref (ad r1)), (2, .int x2), (3, .int x3), (4, .int x4)] → W p l e rc_X5_readPolynomial s m args below meth c H locs 0 0 (MQ below (va_Qi Q (cB D y ad X A) A) args s 0 0 A) (F0 m 5 ls []) := by
  obtain ⟨hx, hb, hr, hml, hown, hts, hlk, hK, hA, hTs, hNw⟩ := id C
  induction n with
  | zero =>
    intro x2 x3 x4 σ hw
    exact (show False from hw).elim
  | succ n ih =>
    intro x2 x3 x4 σ hw H locs ls hO hl
    unfold v_X5_readPolynomial_5 at hw
    refine lv_iload_n hx hb dX5_readPolynomial_5 rfl (lv_at hl 3 rfl) ?_
    refine lv_if_eq (tgt := 104) hx hb dX5_readPolynomial_6 (by decide) (fun hc => ?_) (fun hc => ?_)
    · have hw := hw.1 hc
      exact kc_X5_readPolynomial_104 C ha_r1 σ hw H locs ls hO (lv_sub hl [0] rfl)
    · have hw := hw.2 hc
      refine lv_iload hx hb dX5_readPolynomial_9 (lv_at hl 4 rfl) ?_
      refine lv_bipush (v := 90) hx hb dX5_readPolynomial_11 (by decide) ?_
      refine lv_icmp_ge (tgt := 104) hx hb dX5_readPolynomial_13 (by decide) (fun hc => ?_) (fun hc => ?_)
      · have hw := hw.1 hc
        exact kc_X5_readPolynomial_104 C ha_r1 σ hw H locs ls hO (lv_sub hl [0] rfl)
      · have hw := hw.2 hc
        refine lv_aload_n hx hb dX5_readPolynomial_16 rfl (lv_at hl 0 rfl) ?_
        refine cx_civ C hO (cc_X5_next l D y ad t X σ _ hw) (by decide) rfl rfl (cwV 0 hts gX5_readPolynomial_X5_next rfl rfl rfl (by decide +kernel) ⟨Nat.le_of_ble_eq_true rfl, Nat.le_of_ble_eq_true rfl⟩) rfl hl.1 rfl (lv_room (Nat.le_of_ble_eq_true rfl)) dX5_readPolynomial_17 (fun u101 σ102 H locs hw hO => ?_)
        refine lv_istore (lv' := [(5, .int u101), (0, .ref (ad 1)), (1, .ref (ad r1)), (2, .int x2), (3, .int x3), (4, .int x4)]) hx hb dX5_readPolynomial_20 hl (by decide) rfl (fun ls hl => ?_)
        refine lv_iload hx hb dX5_readPolynomial_22 (lv_at hl 0 rfl) ?_
        refine lv_bipush (v := 45) hx hb dX5_readPolynomial_24 (by decide) ?_
        refine lv_icmp_eq (tgt := 41) hx hb dX5_readPolynomial_26 (by decide) (fun hc => ?_) (fun hc => ?_)
        · have hw := hw.1 hc
          exact kc_X5_readPolynomial_41 C ha_r1 ih x2 x4 u101 σ102 hw H locs ls hO (lv_sub hl [1, 2, 3, 5, 0] rfl)
        · have hw := hw.2 hc
          refine lv_iload hx hb dX5_readPolynomial_29 (lv_at hl 0 rfl) ?_
          refine lv_bipush (v := 43) hx hb dX5_readPolynomial_31 (by decide) ?_
          refine lv_icmp_ne (tgt := 51) hx hb dX5_readPolynomial_33 (by decide) (fun hc => ?_) (fun hc => ?_)
          · have hw := hw.1 hc
            exact kc_X5_readPolynomial_51 C ha_r1 ih x2 x4 u101 σ102 hw H locs ls hO (lv_sub hl [1, 2, 3, 5, 0] rfl)
          · have hw := hw.2 hc
            refine lv_iload hx hb dX5_readPolynomial_36 (lv_at hl 5 rfl) ?_
            refine lv_if_le (tgt := 51) hx hb dX5_readPolynomial_38 (by decide) (fun hc => ?_) (fun hc => ?_)
            · have hw := hw.1 hc
              exact kc_X5_readPolynomial_51 C ha_r1 ih x2 x4 u101 σ102 hw H locs ls hO (lv_sub hl [1, 2, 3, 5, 0] rfl)
            · have hw := hw.2 hc
              exact kc_X5_readPolynomial_41 C ha_r1 ih x2 x4 u101 σ102 hw H locs ls hO (lv_sub hl [1, 2, 3, 5, 0] rfl)
set_option maxRecDepth 100000 in
set_option maxHeartbeats 4000000 in
theorem kc_X5_readPolynomial_e {p : Program} {l : Launch} {e : Env} {s : State} {m : MethodId} {args : Array Value} {below : List Frame} {meth : Method} {c : Code} {D : va_G} {y : Nat → ClassId} {ad t : Nat → Nat} {X : va_W} {A : Nat → Prop} {Q : Int32 → cS → Prop} (C : cC p s m args meth c cX5_readPolynomial 6 (some .boolean) RX5 wsX5_readPolynomial D y t A) {r1 : Nat} (ha_r1 : cJ r1 = true) (x2 : Int32) (σ : cS) (hw : v_X5_readPolynomial Q r1 x2 σ) (H : Heap) (locs : List Loc) (ls : Array Slot) (hO : cO D y ad X A s.heap H locs σ) (hl : lv_has ls 6 [(0, .ref (ad 1)), (1, .ref (ad r1)), (2, .int x2)]) : W p l e rc_X5_readPolynomial s m args below meth c H locs 0 0 (MQ below (va_Qi Q (cB D y ad X A) A) args s 0 0 A) (F0 m 0 ls []) := by
  obtain ⟨hx, hb, hr, hml, hown, hts, hlk, hK, hA, hTs, hNw⟩ := id C
  unfold v_X5_readPolynomial at hw
  refine lv_iconst (v := 1) hx hb dX5_readPolynomial_0 (by decide) ?_
  refine lv_istore_n (lv' := [(3, .int ((1 : Int32))), (0, .ref (ad 1)), (1, .ref (ad r1)), (2, .int x2)]) hx hb dX5_readPolynomial_1 rfl hl (by decide) rfl (fun ls hl => ?_)
  refine lv_iconst (v := 0) hx hb dX5_readPolynomial_2 (by decide) ?_
  refine lv_istore (lv' := [(4, .int ((0 : Int32))), (3, .int ((1 : Int32))), (0, .ref (ad 1)), (1, .ref (ad r1)), (2, .int x2)]) hx hb dX5_readPolynomial_3 hl (by decide) rfl (fun ls hl => ?_)
  exact kc_X5_readPolynomial_5 C ha_r1 fuL x2 ((1 : Int32)) ((0 : Int32)) σ hw H locs ls hO (lv_sub hl [2, 3, 4, 1, 0] rfl)
theorem cc_X5_readPolynomial (l : Launch) (D : va_G) (y : Nat → ClassId) (ad t : Nat → Nat) (X : va_W) (σ : cS) (r1 : Nat) (x2 : Int32) (ha_r1 : cJ r1 = true) (Q : Int32 → cS → Prop) (hw : v_X5_readPolynomial Q r1 x2 σ) : ∀ sz, Met l yX5_readPolynomial wsX5_readPolynomial rc_X5_readPolynomial (va_Pc [.ref (ad 1), .ref (ad r1), .int x2] (cPre D y ad t X sz σ)) (va_Qi Q (cB D y ad X (va_A (cW y ad σ ++ X) sz)) (va_A (cW y ad σ ++ X) sz)) 0 0 (va_A (cW y ad σ ++ X) sz) :=
  cMet (Qc := fun A => va_Qi Q (cB D y ad X A) A) (by decide) (own := RX5) rfl (Nat.le_of_ble_eq_true rfl) (fun p e s m args below meth c A ls C hO hl => kc_X5_readPolynomial_e C ha_r1 x2 σ hw s.heap [] ls hO hl)
abbrev rc_X5_read : Room := { frames := 5, cells := 0, slots := 0, locals := 116 }
set_option maxRecDepth 100000 in
set_option maxHeartbeats 4000000 in
theorem kc_X5_read_76 {p : Program} {l : Launch} {e : Env} {s : State} {m : MethodId} {args : Array Value} {below : List Frame} {meth : Method} {c : Code} {D : va_G} {y : Nat → ClassId} {ad t : Nat → Nat} {X : va_W} {A : Nat → Prop} {Q : Int32 → cS → Prop} (C : cC p s m args meth c cX5_read 4 (some .boolean) RX5 wsX5_read D y t A) {r1 : Nat} (ha_r1 : cJ r1 = true) {r12 : Int32 → cS → Prop} (hr12 : ∀ (x2 : Int32) (σ : cS), r12 x2 σ → ∀ (H : Heap) (locs : List Loc) (ls : Array Slot), cO D y ad X A s.heap H locs σ → lv_has ls 4 [(0, .ref (ad 1)), (1, .ref (ad r1)), (2, .int x2)] → W p l e rc_X5_read s m args below meth c H locs 0 0 (MQ below (va_Qi Q (cB D y ad X A) A) args s 0 0 A) (F0 m 12 ls [])) (x2 : Int32) (σ : cS) (hw : v_X5_read_76 Q r1 r12 x2 σ) (H : Heap) (locs : List Loc) (ls : Array Slot) (hO : cO D y ad X A s.heap H locs σ) (hl : lv_has ls 4 [(0, .ref (ad 1)), (1, .ref (ad r1)), (2, .int x2)]) : W p l e rc_X5_read s m args below meth c H locs 0 0 (MQ below (va_Qi Q (cB D y ad X A) A) args s 0 0 A) (F0 m 76 ls []) := by
  obtain ⟨hx, hb, hr, hml, hown, hts, hlk, hK, hA, hTs, hNw⟩ := id C
  unfold v_X5_read_76 at hw
  obtain ⟨x2_101, ex2_101⟩ : ∃ y : Int32, y = x2 + 4 := ⟨_, rfl⟩
  have hw := hw x2_101 ex2_101
  refine lv_iinc (v := x2_101) (lv' := [(2, .int x2_101), (0, .ref (ad 1)), (1, .ref (ad r1))]) hx hb dX5_read_76 hl (k := 2) rfl (by rw [ex2_101]; rfl) (by decide) rfl (fun ls hl => ?_)
  refine lv_goto (tgt := 12) hx hb dX5_read_79 (by decide) ?_
  exact hr12 x2_101 σ hw H locs ls hO (lv_sub hl [1, 2, 0] rfl)
set_option maxRecDepth 100000 in
set_option maxHeartbeats 4000000 in
theorem kc_X5_read_57 {p : Program} {l : Launch} {e : Env} {s : State} {m : MethodId} {args : Array Value} {below : List Frame} {meth : Method} {c : Code} {D : va_G} {y : Nat → ClassId} {ad t : Nat → Nat} {X : va_W} {A : Nat → Prop} {Q : Int32 → cS → Prop} (C : cC p s m args meth c cX5_read 4 (some .boolean) RX5 wsX5_read D y t A) {r1 : Nat} (ha_r1 : cJ r1 = true) {r12 : Int32 → cS → Prop} (hr12 : ∀ (x2 : Int32) (σ : cS), r12 x2 σ → ∀ (H : Heap) (locs : List Loc) (ls : Array Slot), cO D y ad X A s.heap H locs σ → lv_has ls 4 [(0, .ref (ad 1)), (1, .ref (ad r1)), (2, .int x2)] → W p l e rc_X5_read s m args below meth c H locs 0 0 (MQ below (va_Qi Q (cB D y ad X A) A) args s 0 0 A) (F0 m 12 ls [])) (x2 : Int32) (x3 : Int32) (z0 : Int32) (z1 : Int32) (σ : cS) (hw : v_X5_read_57 Q r1 r12 x2 x3 z0 z1 σ) (H : Heap) (locs : List Loc) (ls : Array Slot) (hO : cO D y ad X A s.heap H locs σ) (hl : lv_has ls 4 [(0, .ref (ad 1)), (1, .ref (ad r1)), (2, .int x2), (3, .int x3)]) : W p l e rc_X5_read s m args below meth c H locs 0 0 (MQ below (va_Qi Q (cB D y ad X A) A) args s 0 0 A) (F0 m 57 ls [.int z1, .int z0]) := by
  obtain ⟨hx, hb, hr, hml, hown, hts, hlk, hK, hA, hTs, hNw⟩ := id C
  have hinX5 : ∀ w ∈ wsX50, w ∈ wsX5_read := fun _ h => List.mem_cons_of_mem _ (List.mem_append_right _ h)
  unfold v_X5_read_57 at hw
  refine lv_icmp_eq (tgt := 62) hx hb dX5_read_57 (by decide) (fun hc => ?_) (fun hc => ?_)
  · have hw := hw.1 hc
    refine lv_iload_n hx hb dX5_read_62 rfl (lv_at hl 3 rfl) ?_
    refine lv_if_ne (tgt := 76) hx hb dX5_read_63 (by decide) (fun hc => ?_) (fun hc => ?_)
    · have hw := hw.1 hc
      exact kc_X5_read_76 C ha_r1 hr12 x2 σ hw H locs ls hO (lv_sub hl [0, 1, 2] rfl)
    · have hw := hw.2 hc
      refine lv_aload_n hx hb dX5_read_66 rfl (lv_at hl 0 rfl) ?_
      refine lv_dup hx hb dX5_read_67 rfl ?_
      refine cx_get C hO (by decide) rfl rfl hinX5 2 (by decide) (idx := 33) (by decide +kernel) rfl rfl dX5_read_68 ?_
      refine lv_iconst (v := 1) hx hb dX5_read_71 (by decide) ?_
      refine lv_iadd hx hb dX5_read_72 ?_
      refine cx_put C hO (ty := .int) (by decide) rfl rfl hinX5 tyX5 tyX5_ok nmX5 2 (by decide) (idx := 33) (by decide +kernel) rfl rfl (by decide +kernel) rfl rfl (Nat.le_of_ble_eq_true rfl) (cW_FT (by decide)) dX5_read_73 (fun H locs σ101 eσ101 hO => ?_)
      have hw := hw σ101 eσ101
      exact kc_X5_read_76 C ha_r1 hr12 x2 σ101 hw H locs ls hO (lv_sub hl [0, 1, 2] rfl)
  · have hw := hw.2 hc
    refine lv_iconst (v := 0) hx hb dX5_read_60 (by decide) ?_
    exact cx_zret C hO hw.1 hw.2 dX5_read_61
set_option maxRecDepth 100000 in
set_option maxHeartbeats 4000000 in
theorem kc_X5_read_42 {p : Program} {l : Launch} {e : Env} {s : State} {m : MethodId} {args : Array Value} {below : List Frame} {meth : Method} {c : Code} {D : va_G} {y : Nat → ClassId} {ad t : Nat → Nat} {X : va_W} {A : Nat → Prop} {Q : Int32 → cS → Prop} (C : cC p s m args meth c cX5_read 4 (some .boolean) RX5 wsX5_read D y t A) {r1 : Nat} (ha_r1 : cJ r1 = true) {r12 : Int32 → cS → Prop} (hr12 : ∀ (x2 : Int32) (σ : cS), r12 x2 σ → ∀ (H : Heap) (locs : List Loc) (ls : Array Slot), cO D y ad X A s.heap H locs σ → lv_has ls 4 [(0, .ref (ad 1)), (1, .ref (ad r1)), (2, .int x2)] → W p l e rc_X5_read s m args below meth c H locs 0 0 (MQ below (va_Qi Q (cB D y ad X A) A) args s 0 0 A) (F0 m 12 ls [])) (x2 : Int32) (z0 : Int32) (σ : cS) (hw : v_X5_read_42 Q r1 r12 x2 z0 σ) (H : Heap) (locs : List Loc) (ls : Array Slot) (hO : cO D y ad X A s.heap H locs σ) (hl : lv_has ls 4 [(0, .ref (ad 1)), (1, .ref (ad r1)), (2, .int x2)]) : W p l e rc_X5_read s m args below meth c H locs 0 0 (MQ below (va_Qi Q (cB D y ad X A) A) args s 0 0 A) (F0 m 42 ls [.int z0]) := by
  obtain ⟨hx, hb, hr, hml, hown, hts, hlk, hK, hA, hTs, hNw⟩ := id C
  unfold v_X5_read_42 at hw
  refine lv_istore_n (lv' := [(3, .int z0), (0, .ref (ad 1)), (1, .ref (ad r1)), (2, .int x2)]) hx hb dX5_read_42 rfl hl (by decide) rfl (fun ls hl => ?_)
  refine lv_aload_n hx hb dX5_read_43 rfl (lv_at hl 1 rfl) ?_
  refine cx_civ C hO (cc_X5_next l D y ad t X σ _ hw) (by decide) rfl rfl (cwV 0 hts gX5_read_X5_next rfl rfl rfl (by decide +kernel) ⟨Nat.le_of_ble_eq_true rfl, Nat.le_of_ble_eq_true rfl⟩) rfl hl.1 rfl (lv_room (Nat.le_of_ble_eq_true rfl)) dX5_read_44 (fun u101 σ102 H locs hw hO => ?_)
  refine lv_iload_n hx hb dX5_read_47 rfl (lv_at hl 0 rfl) ?_
  refine lv_if_eq (tgt := 55) hx hb dX5_read_48 (by decide) (fun hc => ?_) (fun hc => ?_)
  · have hw := hw.1 hc
    refine lv_bipush (v := 59) hx hb dX5_read_55 (by decide) ?_
    exact kc_X5_read_57 C ha_r1 hr12 x2 z0 u101 ((59 : Int32)) σ102 hw H locs ls hO (lv_sub hl [1, 2, 3, 0] rfl)
  · have hw := hw.2 hc
    refine lv_iconst (v := -1) hx hb dX5_read_51 (by decide) ?_
    refine lv_goto (tgt := 57) hx hb dX5_read_52 (by decide) ?_
    exact kc_X5_read_57 C ha_r1 hr12 x2 z0 u101 ((-1 : Int32)) σ102 hw H locs ls hO (lv_sub hl [1, 2, 3, 0] rfl)
set_option maxRecDepth 100000 in
set_option maxHeartbeats 4000000 in
theorem kc_X5_read_12 {p : Program} {l : Launch} {e : Env} {s : State} {m : MethodId} {args : Array Value} {below : List Frame} {meth : Method} {c : Code} {D : va_G} {y : Nat → ClassId} {ad t : Nat → Nat} {X : va_W} {A : Nat → Prop} {Q : Int32 → cS → Prop} (C : cC p s m args meth c cX5_read 4 (some .boolean) RX5 wsX5_read D y t A) {r1 : Nat} (ha_r1 : cJ r1 = true) (n : Nat) : ∀ (x2 : Int32) (σ : cS), v_X5_read_12 Q r1 n x2 σ → ∀ (H : Heap) (locs : List Loc) (ls : Array Slot), cO D y ad X A s.heap H locs σ → lv_has ls 4 [(0, .ref (ad 1)), (1, .ref (ad r1)), (2, .int x2)] → W p l e rc_X5_read s m args below meth c H locs 0 0 (MQ below (va_Qi Q (cB D y ad X A) A) args s 0 0 A) (F0 m 12 ls []) := by
  obtain ⟨hx, hb, hr, hml, hown, hts, hlk, hK, hA, hTs, hNw⟩ := id C
  induction n with
  | zero =>
    intro x2 σ hw
    exact (show False from hw).elim
  | succ n ih =>
    intro x2 σ hw H locs ls hO hl
    unfold v_X5_read_12 at hw
    refine lv_iload_n hx hb dX5_read_12 rfl (lv_at hl 2 rfl) ?_
    refine lv_bipush (v := 12) hx hb dX5_read_13 (by decide) ?_
    refine lv_icmp_ge (tgt := 82) hx hb dX5_read_15 (by decide) (fun hc => ?_) (fun hc => ?_)
    · have hw := hw.1 hc
      refine lv_iconst (v := 1) hx hb dX5_read_82 (by decide) ?_
      exact cx_zret C hO hw.1 hw.2 dX5_read_83
    · have hw := hw.2 hc
      refine lv_aload_n hx hb dX5_read_18 rfl (lv_at hl 0 rfl) ?_
      refine lv_aload_n hx hb dX5_read_19 rfl (lv_at hl 1 rfl) ?_
      refine lv_iload_n hx hb dX5_read_20 rfl (lv_at hl 2 rfl) ?_
      refine cx_civ C hO (cc_X5_readPolynomial l D y ad t X σ r1 x2 ha_r1 _ hw) (by decide) rfl rfl (cwV 2 hts gX5_read_X5_readPolynomial rfl rfl rfl (by decide +kernel) ⟨Nat.le_of_ble_eq_true rfl, Nat.le_of_ble_eq_true rfl⟩) rfl hl.1 rfl (lv_room (Nat.le_of_ble_eq_true rfl)) dX5_read_21 (fun u101 σ102 H locs hw hO => ?_)
      refine lv_if_ne (tgt := 29) hx hb dX5_read_24 (by decide) (fun hc => ?_) (fun hc => ?_)
      · have hw := hw.1 hc
        refine lv_iload_n hx hb dX5_read_29 rfl (lv_at hl 2 rfl) ?_
        refine lv_iconst (v := 4) hx hb dX5_read_30 (by decide) ?_
        refine lv_iadd hx hb dX5_read_31 ?_
        refine lv_bipush (v := 12) hx hb dX5_read_32 (by decide) ?_
        refine lv_icmp_ne (tgt := 41) hx hb dX5_read_34 (by decide) (fun hc => ?_) (fun hc => ?_)
        · have hw := hw.1 hc
          refine lv_iconst (v := 0) hx hb dX5_read_41 (by decide) ?_
          exact kc_X5_read_42 C ha_r1 ih x2 ((0 : Int32)) σ102 hw H locs ls hO (lv_sub hl [0, 1, 2] rfl)
        · have hw := hw.2 hc
          refine lv_iconst (v := 1) hx hb dX5_read_37 (by decide) ?_
          refine lv_goto (tgt := 42) hx hb dX5_read_38 (by decide) ?_
          exact kc_X5_read_42 C ha_r1 ih x2 ((1 : Int32)) σ102 hw H locs ls hO (lv_sub hl [0, 1, 2] rfl)
      · have hw := hw.2 hc
        refine lv_iconst (v := 0) hx hb dX5_read_27 (by decide) ?_
        exact cx_zret C hO hw.1 hw.2 dX5_read_28
set_option maxRecDepth 100000 in
set_option maxHeartbeats 4000000 in
theorem kc_X5_read_e {p : Program} {l : Launch} {e : Env} {s : State} {m : MethodId} {args : Array Value} {below : List Frame} {meth : Method} {c : Code} {D : va_G} {y : Nat → ClassId} {ad t : Nat → Nat} {X : va_W} {A : Nat → Prop} {Q : Int32 → cS → Prop} (C : cC p s m args meth c cX5_read 4 (some .boolean) RX5 wsX5_read D y t A) {r1 : Nat} (ha_r1 : cJ r1 = true)  (σ : cS) (hw : v_X5_read Q r1 σ) (H : Heap) (locs : List Loc) (ls : Array Slot) (hO : cO D y ad X A s.heap H locs σ) (hl : lv_has ls 4 [(0, .ref (ad 1)), (1, .ref (ad r1))]) : W p l e rc_X5_read s m args below meth c H locs 0 0 (MQ below (va_Qi Q (cB D y ad X A) A) args s 0 0 A) (F0 m 0 ls []) := by
  obtain ⟨hx, hb, hr, hml, hown, hts, hlk, hK, hA, hTs, hNw⟩ := id C
  have hinX5 : ∀ w ∈ wsX50, w ∈ wsX5_read := fun _ h => List.mem_cons_of_mem _ (List.mem_append_right _ h)
  unfold v_X5_read at hw
  refine lv_aload_n hx hb dX5_read_0 rfl (lv_at hl 1 rfl) ?_
  refine lv_lconst (v := 0) hx hb dX5_read_1 (by decide) ?_
  refine cx_cvs C hO (cc_J7_fill_d0a16 l D y ad t X σ r1 (0 : Int64) ha_r1 _ hw) (va_cwS 2 hts gX5_read_J7_fill_d0a16 rfl rfl rfl (by decide +kernel) ⟨Nat.le_of_ble_eq_true rfl, Nat.le_of_ble_eq_true rfl⟩) rfl hl.1 rfl (lv_room (Nat.le_of_ble_eq_true rfl)) dX5_read_2 (fun σ102 H locs hw hO => ?_)
  refine lv_aload_n hx hb dX5_read_5 rfl (lv_at hl 0 rfl) ?_
  refine lv_iconst (v := 0) hx hb dX5_read_6 (by decide) ?_
  refine cx_put C hO (ty := .int) (by decide) rfl rfl hinX5 tyX5 tyX5_ok nmX5 2 (by decide) (idx := 33) (by decide +kernel) rfl rfl (by decide +kernel) rfl rfl (Nat.le_of_ble_eq_true rfl) (cW_FT (by decide)) dX5_read_7 (fun H locs σ103 eσ103 hO => ?_)
  have hw := hw σ103 eσ103
  refine lv_iconst (v := 0) hx hb dX5_read_10 (by decide) ?_
  refine lv_istore_n (lv' := [(2, .int ((0 : Int32))), (0, .ref (ad 1)), (1, .ref (ad r1))]) hx hb dX5_read_11 rfl hl (by decide) rfl (fun ls hl => ?_)
  exact kc_X5_read_12 C ha_r1 fuL ((0 : Int32)) σ103 hw H locs ls hO (lv_sub hl [1, 2, 0] rfl)
theorem cc_X5_read (l : Launch) (D : va_G) (y : Nat → ClassId) (ad t : Nat → Nat) (X : va_W) (σ : cS) (r1 : Nat) (ha_r1 : cJ r1 = true) (Q : Int32 → cS → Prop) (hw : v_X5_read Q r1 σ) : ∀ sz, Met l yX5_read wsX5_read rc_X5_read (va_Pc [.ref (ad 1), .ref (ad r1)] (cPre D y ad t X sz σ)) (va_Qi Q (cB D y ad X (va_A (cW y ad σ ++ X) sz)) (va_A (cW y ad σ ++ X) sz)) 0 0 (va_A (cW y ad σ ++ X) sz) :=
  cMet (Qc := fun A => va_Qi Q (cB D y ad X A) A) (by decide) (own := RX5) rfl (Nat.le_of_ble_eq_true rfl) (fun p e s m args below meth c A ls C hO hl => kc_X5_read_e C ha_r1 σ hw s.heap [] ls hO hl)
abbrev rc_X6_alike : Room := { frames := 0, cells := 0, slots := 0, locals := 0 }
set_option maxRecDepth 100000 in
set_option maxHeartbeats 4000000 in
theorem kc_X6_alike_11 {p : Program} {l : Launch} {e : Env} {s : State} {m : MethodId} {args : Array Value} {below : List Frame} {meth : Method} {c : Code} {D : va_G} {y : Nat → ClassId} {ad t : Nat → Nat} {X : va_W} {A : Nat → Prop} {Q : Int32 → cS → Prop} (C : cC p s m args meth c cX6_alike 3 (some .boolean) RX6 wsX6_alike D y t A) {r0 : Nat} (ha_r0 : cJ r0 = true) {r1 : Nat} (ha_r1 : cJ r1 = true) (n : Nat) : ∀ (x2 : Int32) (σ : cS), v_X6_alike_11 Q r0 r1 n x2 σ → ∀ (H : Heap) (locs : List Loc) (ls : Array Slot), cO D y ad X A s.heap H locs σ → lv_has ls 3 [(0, .ref (ad r0)), (1, .ref (ad r1)), (2, .int x2)] → W p l e rc_X6_alike s m args below meth c H locs 0 0 (MQ below (va_Qi Q (cB D y ad X A) A) args s 0 0 A) (F0 m 11 ls []) := by
  obtain ⟨hx, hb, hr, hml, hown, hts, hlk, hK, hA, hTs, hNw⟩ := id C
  induction n with
  | zero =>
    intro x2 σ hw
    exact (show False from hw).elim
  | succ n ih =>
    intro x2 σ hw H locs ls hO hl
    unfold v_X6_alike_11 at hw
    refine lv_iload_n hx hb dX6_alike_11 rfl (lv_at hl 2 rfl) ?_
    refine lv_aload_n hx hb dX6_alike_12 rfl (lv_at hl 0 rfl) ?_
    refine cx_alen C hO (a := r0) ha_r0 dX6_alike_13 ?_
    refine lv_icmp_ge (tgt := 35) hx hb dX6_alike_14 (by decide) (fun hc => ?_) (fun hc => ?_)
    · have hw := hw.1 hc
      refine lv_iconst (v := 1) hx hb dX6_alike_35 (by decide) ?_
      exact cx_zret C hO hw.1 hw.2 dX6_alike_36
    · have hw := hw.2 hc
      refine lv_aload_n hx hb dX6_alike_17 rfl (lv_at hl 0 rfl) ?_
      refine lv_iload_n hx hb dX6_alike_18 rfl (lv_at hl 2 rfl) ?_
      refine cx_lald C hO (a := r0) ha_r0 hw.1 dX6_alike_19 ?_
      have hw := hw.2
      refine lv_aload_n hx hb dX6_alike_20 rfl (lv_at hl 1 rfl) ?_
      refine lv_iload_n hx hb dX6_alike_21 rfl (lv_at hl 2 rfl) ?_
      refine cx_lald C hO (a := r1) ha_r1 hw.1 dX6_alike_22 ?_
      have hw := hw.2
      refine W.lcmp hx hb dX6_alike_23 ?_
      refine lv_if_eq (tgt := 29) hx hb dX6_alike_24 (by decide) (fun hc => ?_) (fun hc => ?_)
      · have hc := (lg_cmp_eq _ _).mp hc
        have hw := hw.1 hc
        obtain ⟨x2_101, ex2_101⟩ : ∃ y : Int32, y = x2 + 1 := ⟨_, rfl⟩
        have hw := hw x2_101 ex2_101
        refine lv_iinc (v := x2_101) (lv' := [(2, .int x2_101), (0, .ref (ad r0)), (1, .ref (ad r1))]) hx hb dX6_alike_29 hl (k := 2) rfl (by rw [ex2_101]; rfl) (by decide) rfl (fun ls hl => ?_)
        refine lv_goto (tgt := 11) hx hb dX6_alike_32 (by decide) ?_
        exact ih x2_101 σ hw H locs ls hO (lv_sub hl [1, 2, 0] rfl)
      · have hc := (not_congr (lg_cmp_eq _ _)).mp hc
        have hw := hw.2 hc
        refine lv_iconst (v := 0) hx hb dX6_alike_27 (by decide) ?_
        exact cx_zret C hO hw.1 hw.2 dX6_alike_28
set_option maxRecDepth 100000 in
set_option maxHeartbeats 4000000 in
theorem kc_X6_alike_e {p : Program} {l : Launch} {e : Env} {s : State} {m : MethodId} {args : Array Value} {below : List Frame} {meth : Method} {c : Code} {D : va_G} {y : Nat → ClassId} {ad t : Nat → Nat} {X : va_W} {A : Nat → Prop} {Q : Int32 → cS → Prop} (C : cC p s m args meth c cX6_alike 3 (some .boolean) RX6 wsX6_alike D y t A) {r0 : Nat} (ha_r0 : cJ r0 = true) {r1 : Nat} (ha_r1 : cJ r1 = true)  (σ : cS) (hw : v_X6_alike Q r0 r1 σ) (H : Heap) (locs : List Loc) (ls : Array Slot) (hO : cO D y ad X A s.heap H locs σ) (hl : lv_has ls 3 [(0, .ref (ad r0)), (1, .ref (ad r1))]) : W p l e rc_X6_alike s m args below meth c H locs 0 0 (MQ below (va_Qi Q (cB D y ad X A) A) args s 0 0 A) (F0 m 0 ls []) := by
  obtain ⟨hx, hb, hr, hml, hown, hts, hlk, hK, hA, hTs, hNw⟩ := id C
  unfold v_X6_alike at hw
  refine lv_aload_n hx hb dX6_alike_0 rfl (lv_at hl 0 rfl) ?_
  refine cx_alen C hO (a := r0) ha_r0 dX6_alike_1 ?_
  refine lv_aload_n hx hb dX6_alike_2 rfl (lv_at hl 1 rfl) ?_
  refine cx_alen C hO (a := r1) ha_r1 dX6_alike_3 ?_
  refine lv_icmp_eq (tgt := 9) hx hb dX6_alike_4 (by decide) (fun hc => ?_) (fun hc => ?_)
  · have hw := hw.1 hc
    refine lv_iconst (v := 0) hx hb dX6_alike_9 (by decide) ?_
    refine lv_istore_n (lv' := [(2, .int ((0 : Int32))), (0, .ref (ad r0)), (1, .ref (ad r1))]) hx hb dX6_alike_10 rfl hl (by decide) rfl (fun ls hl => ?_)
    exact kc_X6_alike_11 C ha_r0 ha_r1 fuL ((0 : Int32)) σ hw H locs ls hO (lv_sub hl [1, 2, 0] rfl)
  · have hw := hw.2 hc
    refine lv_iconst (v := 0) hx hb dX6_alike_7 (by decide) ?_
    exact cx_zret C hO hw.1 hw.2 dX6_alike_8
theorem cc_X6_alike (l : Launch) (D : va_G) (y : Nat → ClassId) (ad t : Nat → Nat) (X : va_W) (σ : cS) (r0 : Nat) (r1 : Nat) (ha_r0 : cJ r0 = true) (ha_r1 : cJ r1 = true) (Q : Int32 → cS → Prop) (hw : v_X6_alike Q r0 r1 σ) : ∀ sz, Met l yX6_alike wsX6_alike rc_X6_alike (va_Pc [.ref (ad r0), .ref (ad r1)] (cPre D y ad t X sz σ)) (va_Qi Q (cB D y ad X (va_A (cW y ad σ ++ X) sz)) (va_A (cW y ad σ ++ X) sz)) 0 0 (va_A (cW y ad σ ++ X) sz) :=
  cMet (Qc := fun A => va_Qi Q (cB D y ad X A) A) (by decide) (own := RX6) rfl (Nat.le_of_ble_eq_true rfl) (fun p e s m args below meth c A ls C hO hl => kc_X6_alike_e C ha_r0 ha_r1 σ hw s.heap [] ls hO hl)
abbrev rc_X7_type : Room := { frames := 2, cells := 0, slots := 0, locals := 46 }
set_option maxRecDepth 100000 in
set_option maxHeartbeats 4000000 in
theorem kc_X7_type_18 {p : Program} {l : Launch} {e : Env} {s : State} {m : MethodId} {args : Array Value} {below : List Frame} {meth : Method} {c : Code} {D : va_G} {y : Nat → ClassId} {ad t : Nat → Nat} {X : va_W} {A : Nat → Prop} {Q : Int32 → cS → Prop} (C : cC p s m args meth c cX7_type 4 (some .int) RX7 wsX7_type D y t A)  (σ : cS) (hw : v_X7_type_18 Q σ) (H : Heap) (locs : List Loc) (ls : Array Slot) (hO : cO D y ad X A s.heap H locs σ) (hl : lv_has ls 4 [(0, .ref (ad 0))]) : W p l e rc_X7_type s m args below meth c H locs 0 0 (MQ below (va_Qi Q (cB D y ad X A) A) args s 0 0 A) (F0 m 18 ls []) := by
  obtain ⟨hx, hb, hr, hml, hown, hts, hlk, hK, hA, hTs, hNw⟩ := id C
  unfold v_X7_type_18 at hw
  refine lv_iconst (v := -1) hx hb dX7_type_18 (by decide) ?_
  exact cx_iret C hO hw dX7_type_19
set_option maxRecDepth 100000 in
set_option maxHeartbeats 4000000 in
theorem kc_X7_type_44 {p : Program} {l : Launch} {e : Env} {s : State} {m : MethodId} {args : Array Value} {below : List Frame} {meth : Method} {c : Code} {D : va_G} {y : Nat → ClassId} {ad t : Nat → Nat} {X : va_W} {A : Nat → Prop} {Q : Int32 → cS → Prop} (C : cC p s m args meth c cX7_type 4 (some .int) RX7 wsX7_type D y t A) (z0 : Int32) (σ : cS) (hw : v_X7_type_44 Q z0 σ) (H : Heap) (locs : List Loc) (ls : Array Slot) (hO : cO D y ad X A s.heap H locs σ) (hl : lv_has ls 4 [(0, .ref (ad 0))]) : W p l e rc_X7_type s m args below meth c H locs 0 0 (MQ below (va_Qi Q (cB D y ad X A) A) args s 0 0 A) (F0 m 44 ls [.int z0]) := by
  obtain ⟨hx, hb, hr, hml, hown, hts, hlk, hK, hA, hTs, hNw⟩ := id C
  unfold v_X7_type_44 at hw
  exact cx_iret C hO hw dX7_type_44
set_option maxRecDepth 100000 in
set_option maxHeartbeats 4000000 in
theorem kc_X7_type_e {p : Program} {l : Launch} {e : Env} {s : State} {m : MethodId} {args : Array Value} {below : List Frame} {meth : Method} {c : Code} {D : va_G} {y : Nat → ClassId} {ad t : Nat → Nat} {X : va_W} {A : Nat → Prop} {Q : Int32 → cS → Prop} (C : cC p s m args meth c cX7_type 4 (some .int) RX7 wsX7_type D y t A) (x1 : Int64) (x3 : Int32) (σ : cS) (hw : v_X7_type Q x1 x3 σ) (H : Heap) (locs : List Loc) (ls : Array Slot) (hO : cO D y ad X A s.heap H locs σ) (hl : lv_has ls 4 [(0, .ref (ad 0)), (1, .long x1), (3, .int x3)]) : W p l e rc_X7_type s m args below meth c H locs 0 0 (MQ below (va_Qi Q (cB D y ad X A) A) args s 0 0 A) (F0 m 0 ls []) := by
  obtain ⟨hx, hb, hr, hml, hown, hts, hlk, hK, hA, hTs, hNw⟩ := id C
  have hinX5 : ∀ w ∈ wsX50, w ∈ wsX7_type := fun _ h => List.mem_cons_of_mem _ (List.mem_append_right _ h)
  have hinX7 : ∀ w ∈ wsX70, w ∈ wsX7_type := fun _ h => List.mem_cons_of_mem _ (List.mem_append_left _ (List.mem_append_right _ h))
  unfold v_X7_type at hw
  refine lv_iload_n hx hb dX7_type_0 rfl (lv_at hl 2 rfl) ?_
  refine lv_iconst (v := 1) hx hb dX7_type_1 (by decide) ?_
  refine lv_bipush (v := 8) hx hb dX7_type_2 (by decide) ?_
  refine cx_cis C hO (cc_X7_within l D y ad t X σ x3 (1 : Int32) (8 : Int32) _ hw) (va_cwS 3 hts gX7_type_X7_within rfl rfl rfl (by decide +kernel) ⟨Nat.le_of_ble_eq_true rfl, Nat.le_of_ble_eq_true rfl⟩) rfl hl.1 rfl (lv_room (Nat.le_of_ble_eq_true rfl)) dX7_type_4 (fun u101 σ102 H locs hw hO => ?_)
  refine lv_if_eq (tgt := 18) hx hb dX7_type_7 (by decide) (fun hc => ?_) (fun hc => ?_)
  · have hw := hw.1 hc
    exact kc_X7_type_18 C σ102 hw H locs ls hO (lv_sub hl [0] rfl)
  · have hw := hw.2 hc
    refine lv_lload_n hx hb dX7_type_10 rfl (lv_at hl 1 rfl) ?_
    refine lv_iload_n hx hb dX7_type_11 rfl (lv_at hl 2 rfl) ?_
    refine cx_cis C hO (cc_X5_isText l D y ad t X σ102 x1 x3 _ hw) (va_cwS 2 hts gX7_type_X5_isText rfl rfl rfl (by decide +kernel) ⟨Nat.le_of_ble_eq_true rfl, Nat.le_of_ble_eq_true rfl⟩) rfl hl.1 rfl (lv_room (Nat.le_of_ble_eq_true rfl)) dX7_type_12 (fun u103 σ104 H locs hw hO => ?_)
    refine lv_if_ne (tgt := 20) hx hb dX7_type_15 (by decide) (fun hc => ?_) (fun hc => ?_)
    · have hw := hw.1 hc
      refine lv_aload_n hx hb dX7_type_20 rfl (lv_at hl 0 rfl) ?_
      refine cx_get C hO (by decide) rfl rfl hinX7 0 (by decide) (idx := 10) (by decide +kernel) rfl rfl dX7_type_21 ?_
      refine lv_lload_n hx hb dX7_type_24 rfl (lv_at hl 1 rfl) ?_
      refine lv_iload_n hx hb dX7_type_25 rfl (lv_at hl 2 rfl) ?_
      refine cx_civ C hO (cc_X5_append l D y ad t X σ104 x1 x3 _ hw) (by decide) rfl rfl (cwV 2 hts gX7_type_X5_append rfl rfl rfl (by decide +kernel) ⟨Nat.le_of_ble_eq_true rfl, Nat.le_of_ble_eq_true rfl⟩) rfl hl.1 rfl (lv_room (Nat.le_of_ble_eq_true rfl)) dX7_type_26 (fun u105 σ106 H locs hw hO => ?_)
      refine lv_if_eq (tgt := 42) hx hb dX7_type_29 (by decide) (fun hc => ?_) (fun hc => ?_)
      · have hw := hw.1 hc
        refine lv_bipush (v := -3) hx hb dX7_type_42 (by decide) ?_
        exact kc_X7_type_44 C ((-3 : Int32)) σ106 hw H locs ls hO (lv_sub hl [0] rfl)
      · have hw := hw.2 hc
        refine lv_aload_n hx hb dX7_type_32 rfl (lv_at hl 0 rfl) ?_
        refine cx_get C hO (by decide) rfl rfl hinX7 0 (by decide) (idx := 10) (by decide +kernel) rfl rfl dX7_type_33 ?_
        refine cx_get C hO (by decide) rfl rfl hinX5 1 (by decide) (idx := 65) (by decide +kernel) rfl rfl dX7_type_36 ?_
        refine lv_goto (tgt := 44) hx hb dX7_type_39 (by decide) ?_
        exact kc_X7_type_44 C (σ106.2.2.1 1 1) σ106 hw H locs ls hO (lv_sub hl [0] rfl)
    · have hw := hw.2 hc
      exact kc_X7_type_18 C σ104 hw H locs ls hO (lv_sub hl [0] rfl)
theorem cc_X7_type (l : Launch) (D : va_G) (y : Nat → ClassId) (ad t : Nat → Nat) (X : va_W) (σ : cS) (x1 : Int64) (x3 : Int32) (Q : Int32 → cS → Prop) (hw : v_X7_type Q x1 x3 σ) : ∀ sz, Met l yX7_type wsX7_type rc_X7_type (va_Pc [.ref (ad 0), .long x1, .int x3] (cPre D y ad t X sz σ)) (va_Qi Q (cB D y ad X (va_A (cW y ad σ ++ X) sz)) (va_A (cW y ad σ ++ X) sz)) 0 0 (va_A (cW y ad σ ++ X) sz) :=
  cMet (Qc := fun A => va_Qi Q (cB D y ad X A) A) (by decide) (own := RX7) rfl (Nat.le_of_ble_eq_true rfl) (fun p e s m args below meth c A ls C hO hl => kc_X7_type_e C x1 x3 σ hw s.heap [] ls hO hl)
abbrev rc_X7_isLine : Room := { frames := 1, cells := 0, slots := 0, locals := 22 }
set_option maxRecDepth 100000 in
set_option maxHeartbeats 4000000 in
theorem kc_X7_isLine_e {p : Program} {l : Launch} {e : Env} {s : State} {m : MethodId} {args : Array Value} {below : List Frame} {meth : Method} {c : Code} {D : va_G} {y : Nat → ClassId} {ad t : Nat → Nat} {X : va_W} {A : Nat → Prop} {Q : Int32 → cS → Prop} (C : cC p s m args meth c cX7_isLine 1 (some .boolean) RX7 wsX7_isLine D y t A) (x0 : Int32) (σ : cS) (hw : v_X7_isLine Q x0 σ) (H : Heap) (locs : List Loc) (ls : Array Slot) (hO : cO D y ad X A s.heap H locs σ) (hl : lv_has ls 1 [(0, .int x0)]) : W p l e rc_X7_isLine s m args below meth c H locs 0 0 (MQ below (va_Qi Q (cB D y ad X A) A) args s 0 0 A) (F0 m 0 ls []) := by
  obtain ⟨hx, hb, hr, hml, hown, hts, hlk, hK, hA, hTs, hNw⟩ := id C
  unfold v_X7_isLine at hw
  refine lv_iload_n hx hb dX7_isLine_0 rfl (lv_at hl 0 rfl) ?_
  refine lv_iconst (v := 0) hx hb dX7_isLine_1 (by decide) ?_
  refine lv_iconst (v := 3) hx hb dX7_isLine_2 (by decide) ?_
  refine cx_cis C hO (cc_X7_within l D y ad t X σ x0 (0 : Int32) (3 : Int32) _ hw) (va_cwS 3 hts gX7_isLine_X7_within rfl rfl rfl (by decide +kernel) ⟨Nat.le_of_ble_eq_true rfl, Nat.le_of_ble_eq_true rfl⟩) rfl hl.1 rfl (lv_room (Nat.le_of_ble_eq_true rfl)) dX7_isLine_3 (fun u101 σ102 H locs hw hO => ?_)
  exact cx_zret C hO hw.1 hw.2 dX7_isLine_6
theorem cc_X7_isLine (l : Launch) (D : va_G) (y : Nat → ClassId) (ad t : Nat → Nat) (X : va_W) (σ : cS) (x0 : Int32) (Q : Int32 → cS → Prop) (hw : v_X7_isLine Q x0 σ) : ∀ sz, Met l yX7_isLine wsX7_isLine rc_X7_isLine (va_Pc [.int x0] (cPre D y ad t X sz σ)) (va_Qi Q (cB D y ad X (va_A (cW y ad σ ++ X) sz)) (va_A (cW y ad σ ++ X) sz)) 0 0 (va_A (cW y ad σ ++ X) sz) :=
  cMet (Qc := fun A => va_Qi Q (cB D y ad X A) A) (by decide) (own := RX7) rfl (Nat.le_of_ble_eq_true rfl) (fun p e s m args below meth c A ls C hO hl => kc_X7_isLine_e C x0 σ hw s.heap [] ls hO hl)
abbrev rc_X7_settle : Room := { frames := 5, cells := 0, slots := 0, locals := 122 }
set_option maxRecDepth 100000 in
set_option maxHeartbeats 4000000 in
theorem kc_X7_settle_e {p : Program} {l : Launch} {e : Env} {s : State} {m : MethodId} {args : Array Value} {below : List Frame} {meth : Method} {c : Code} {D : va_G} {y : Nat → ClassId} {ad t : Nat → Nat} {X : va_W} {A : Nat → Prop} {Q : Int32 → cS → Prop} (C : cC p s m args meth c cX7_settle 3 (some .int) RX7 wsX7_settle D y t A) (x1 : Int32) (σ : cS) (hw : v_X7_settle Q x1 σ) (H : Heap) (locs : List Loc) (ls : Array Slot) (hO : cO D y ad X A s.heap H locs σ) (hl : lv_has ls 3 [(0, .ref (ad 0)), (1, .int x1)]) : W p l e rc_X7_settle s m args below meth c H locs 0 0 (MQ below (va_Qi Q (cB D y ad X A) A) args s 0 0 A) (F0 m 0 ls []) := by
  obtain ⟨hx, hb, hr, hml, hown, hts, hlk, hK, hA, hTs, hNw⟩ := id C
  have hinX0 : ∀ w ∈ wsX00, w ∈ wsX7_settle := fun _ h => List.mem_cons_of_mem _ (List.mem_append_left _ (List.mem_append_right _ h))
  have hinX7 : ∀ w ∈ wsX70, w ∈ wsX7_settle := fun _ h => List.mem_cons_of_mem _ (List.mem_append_left _ (List.mem_append_left _ (List.mem_append_right _ h)))
  unfold v_X7_settle at hw
  refine lv_aload_n hx hb dX7_settle_0 rfl (lv_at hl 0 rfl) ?_
  refine cx_get C hO (by decide) rfl rfl hinX7 1 (by decide) (idx := 18) (by decide +kernel) rfl rfl dX7_settle_1 ?_
  refine lv_iload_n hx hb dX7_settle_4 rfl (lv_at hl 1 rfl) ?_
  refine cx_aaL C hO hw.1 dX7_settle_5 (fun o101 eo101 ho101 => ?_)
  have hw := hw.2 o101 eo101
  refine lv_astore_n (lv' := [(2, .ref (ad o101)), (0, .ref (ad 0)), (1, .int x1)]) hx hb dX7_settle_6 rfl hl (by decide) rfl (fun ls hl => ?_)
  refine lv_aload_n hx hb dX7_settle_7 rfl (lv_at hl 1 rfl) ?_
  refine cx_get C hO (by decide) rfl rfl hinX7 5 (by decide) (idx := 42) (by decide +kernel) rfl rfl dX7_settle_8 ?_
  refine lv_iconst (v := 0) hx hb dX7_settle_11 (by decide) ?_
  refine lv_aload_n hx hb dX7_settle_12 rfl (lv_at hl 0 rfl) ?_
  refine cx_get C hO (cL_lt ho101).1 (cE_L ho101) rfl hinX0 0 (by decide) (idx := 171) (by decide +kernel) rfl rfl dX7_settle_13 ?_
  refine lv_iconst (v := 0) hx hb dX7_settle_16 (by decide) ?_
  refine lv_bipush (v := 12) hx hb dX7_settle_17 (by decide) ?_
  refine cx_copy C hO (a0 := 16) (a := (o101 + 1)) rfl ((cL_J ho101).1) (by decide +kernel) hw.1.1 hw.1.2.1 hw.1.2.2.1 hw.1.2.2.2.1 hw.1.2.2.2.2 (Nat.le_of_ble_eq_true rfl) (Nat.le_of_ble_eq_true rfl) hl.1 dX7_settle_19 (fun H locs σ102 eσ102 hO => ?_)
  have hw := hw.2 σ102 eσ102
  refine lv_aload_n hx hb dX7_settle_22 rfl (lv_at hl 0 rfl) ?_
  refine lv_iconst (v := 1) hx hb dX7_settle_23 (by decide) ?_
  refine cx_put C hO (ty := .boolean) (cL_lt ho101).1 (cE_L ho101) rfl hinX0 tyX0 tyX0_ok nmX0 4 (by decide) (idx := 90) (by decide +kernel) rfl rfl (by decide +kernel) (by decide) (by decide) (Nat.le_of_ble_eq_true rfl) (cW_FL ho101 (by decide)) dX7_settle_24 (fun H locs σ103 eσ103 hO => ?_)
  have hw := hw σ103 eσ103
  refine lv_aload_n hx hb dX7_settle_27 rfl (lv_at hl 1 rfl) ?_
  refine cx_get C hO (by decide) rfl rfl hinX7 4 (by decide) (idx := 38) (by decide +kernel) rfl rfl dX7_settle_28 ?_
  refine lv_aload_n hx hb dX7_settle_31 rfl (lv_at hl 0 rfl) ?_
  refine cx_cvv C hO (cc_X4_learn l D y ad t X σ103 o101 ho101 _ hw) (by decide) rfl rfl (cwV 1 hts gX7_settle_X4_learn rfl rfl rfl (by decide +kernel) ⟨Nat.le_of_ble_eq_true rfl, Nat.le_of_ble_eq_true rfl⟩) rfl hl.1 rfl (lv_room (Nat.le_of_ble_eq_true rfl)) dX7_settle_32 (fun σ105 H locs hw hO => ?_)
  refine lv_aload_n hx hb dX7_settle_35 rfl (lv_at hl 0 rfl) ?_
  refine cx_get C hO (cL_lt ho101).1 (cE_L ho101) rfl hinX0 6 (by decide) (idx := 94) (by decide +kernel) rfl rfl dX7_settle_36 ?_
  exact cx_iret C hO hw dX7_settle_39
theorem cc_X7_settle (l : Launch) (D : va_G) (y : Nat → ClassId) (ad t : Nat → Nat) (X : va_W) (σ : cS) (x1 : Int32) (Q : Int32 → cS → Prop) (hw : v_X7_settle Q x1 σ) : ∀ sz, Met l yX7_settle wsX7_settle rc_X7_settle (va_Pc [.ref (ad 0), .int x1] (cPre D y ad t X sz σ)) (va_Qi Q (cB D y ad X (va_A (cW y ad σ ++ X) sz)) (va_A (cW y ad σ ++ X) sz)) 0 0 (va_A (cW y ad σ ++ X) sz) :=
  cMet (Qc := fun A => va_Qi Q (cB D y ad X A) A) (by decide) (own := RX7) rfl (Nat.le_of_ble_eq_true rfl) (fun p e s m args below meth c A ls C hO hl => kc_X7_settle_e C x1 σ hw s.heap [] ls hO hl)
abbrev rc_X7_line : Room := { frames := 6, cells := 0, slots := 0, locals := 146 }
set_option maxRecDepth 100000 in
set_option maxHeartbeats 4000000 in
theorem kc_X7_line_70 {p : Program} {l : Launch} {e : Env} {s : State} {m : MethodId} {args : Array Value} {below : List Frame} {meth : Method} {c : Code} {D : va_G} {y : Nat → ClassId} {ad t : Nat → Nat} {X : va_W} {A : Nat → Prop} {Q : Int32 → cS → Prop} (C : cC p s m args meth c cX7_line 4 (some .int) RX7 wsX7_line D y t A) (z0 : Int32) (σ : cS) (hw : v_X7_line_70 Q z0 σ) (H : Heap) (locs : List Loc) (ls : Array Slot) (hO : cO D y ad X A s.heap H locs σ) (hl : lv_has ls 4 [(0, .ref (ad 0))]) : W p l e rc_X7_line s m args below meth c H locs 0 0 (MQ below (va_Qi Q (cB D y ad X A) A) args s 0 0 A) (F0 m 70 ls [.int z0]) := by
  obtain ⟨hx, hb, hr, hml, hown, hts, hlk, hK, hA, hTs, hNw⟩ := id C
  unfold v_X7_line_70 at hw
  exact cx_iret C hO hw dX7_line_70
set_option maxRecDepth 100000 in
set_option maxHeartbeats 4000000 in
theorem kc_X7_line_e {p : Program} {l : Launch} {e : Env} {s : State} {m : MethodId} {args : Array Value} {below : List Frame} {meth : Method} {c : Code} {D : va_G} {y : Nat → ClassId} {ad t : Nat → Nat} {X : va_W} {A : Nat → Prop} {Q : Int32 → cS → Prop} (C : cC p s m args meth c cX7_line 4 (some .int) RX7 wsX7_line D y t A) (x1 : Int32) (σ : cS) (hw : v_X7_line Q x1 σ) (H : Heap) (locs : List Loc) (ls : Array Slot) (hO : cO D y ad X A s.heap H locs σ) (hl : lv_has ls 4 [(0, .ref (ad 0)), (1, .int x1)]) : W p l e rc_X7_line s m args below meth c H locs 0 0 (MQ below (va_Qi Q (cB D y ad X A) A) args s 0 0 A) (F0 m 0 ls []) := by
  obtain ⟨hx, hb, hr, hml, hown, hts, hlk, hK, hA, hTs, hNw⟩ := id C
  have hinX5 : ∀ w ∈ wsX50, w ∈ wsX7_line := fun _ h => List.mem_cons_of_mem _ (List.mem_append_left _ (List.mem_append_left _ (List.mem_append_left _ (List.mem_append_right _ h))))
  have hinX7 : ∀ w ∈ wsX70, w ∈ wsX7_line := fun _ h => List.mem_cons_of_mem _ (List.mem_append_left _ (List.mem_append_left _ (List.mem_append_left _ (List.mem_append_left _ (List.mem_append_right _ h)))))
  unfold v_X7_line at hw
  refine lv_iload_n hx hb dX7_line_0 rfl (lv_at hl 1 rfl) ?_
  refine cx_cis C hO (cc_X7_isLine l D y ad t X σ x1 _ hw) (va_cwS 1 hts gX7_line_X7_isLine rfl rfl rfl (by decide +kernel) ⟨Nat.le_of_ble_eq_true rfl, Nat.le_of_ble_eq_true rfl⟩) rfl hl.1 rfl (lv_room (Nat.le_of_ble_eq_true rfl)) dX7_line_1 (fun u101 σ102 H locs hw hO => ?_)
  refine lv_if_ne (tgt := 9) hx hb dX7_line_4 (by decide) (fun hc => ?_) (fun hc => ?_)
  · have hw := hw.1 hc
    refine lv_aload_n hx hb dX7_line_9 rfl (lv_at hl 0 rfl) ?_
    refine cx_get C hO (by decide) rfl rfl hinX7 0 (by decide) (idx := 10) (by decide +kernel) rfl rfl dX7_line_10 ?_
    refine lv_aload_n hx hb dX7_line_13 rfl (lv_at hl 0 rfl) ?_
    refine cx_get C hO (by decide) rfl rfl hinX7 5 (by decide) (idx := 42) (by decide +kernel) rfl rfl dX7_line_14 ?_
    refine cx_civ C hO (cc_X5_read l D y ad t X σ102 16 rfl _ hw) (by decide) rfl rfl (cwV 1 hts gX7_line_X5_read rfl rfl rfl (by decide +kernel) ⟨Nat.le_of_ble_eq_true rfl, Nat.le_of_ble_eq_true rfl⟩) rfl hl.1 rfl (lv_room (Nat.le_of_ble_eq_true rfl)) dX7_line_17 (fun u103 σ104 H locs hw hO => ?_)
    refine lv_istore_n (lv' := [(2, .int u103), (0, .ref (ad 0)), (1, .int x1)]) hx hb dX7_line_20 rfl hl (by decide) rfl (fun ls hl => ?_)
    refine lv_bipush (v := -20) hx hb dX7_line_21 (by decide) ?_
    refine lv_aload_n hx hb dX7_line_23 rfl (lv_at hl 1 rfl) ?_
    refine cx_get C hO (by decide) rfl rfl hinX7 0 (by decide) (idx := 10) (by decide +kernel) rfl rfl dX7_line_24 ?_
    refine cx_get C hO (by decide) rfl rfl hinX5 2 (by decide) (idx := 77) (by decide +kernel) rfl rfl dX7_line_27 ?_
    refine lv_isub hx hb dX7_line_30 ?_
    refine lv_topi (fun x3_105 ex3_105 => ?_)
    have hw := hw x3_105 ex3_105
    refine lv_istore_n (lv' := [(3, .int x3_105), (2, .int u103), (0, .ref (ad 0)), (1, .int x1)]) hx hb dX7_line_31 rfl hl (by decide) rfl (fun ls hl => ?_)
    refine lv_aload_n hx hb dX7_line_32 rfl (lv_at hl 2 rfl) ?_
    refine cx_get C hO (by decide) rfl rfl hinX7 0 (by decide) (idx := 10) (by decide +kernel) rfl rfl dX7_line_33 ?_
    refine lv_iconst (v := 0) hx hb dX7_line_36 (by decide) ?_
    refine cx_put C hO (ty := .int) (by decide) rfl rfl hinX5 tyX5 tyX5_ok nmX5 1 (by decide) (idx := 65) (by decide +kernel) rfl rfl (by decide +kernel) rfl rfl (Nat.le_of_ble_eq_true rfl) (cW_FT (by decide)) dX7_line_37 (fun H locs σ106 eσ106 hO => ?_)
    have hw := hw σ106 eσ106
    refine lv_iload_n hx hb dX7_line_40 rfl (lv_at hl 1 rfl) ?_
    refine lv_if_ne (tgt := 46) hx hb dX7_line_41 (by decide) (fun hc => ?_) (fun hc => ?_)
    · have hw := hw.1 hc
      refine lv_aload_n hx hb dX7_line_46 rfl (lv_at hl 2 rfl) ?_
      refine cx_get C hO (by decide) rfl rfl hinX7 3 (by decide) (idx := 31) (by decide +kernel) rfl rfl dX7_line_47 ?_
      refine lv_aload_n hx hb dX7_line_50 rfl (lv_at hl 2 rfl) ?_
      refine cx_get C hO (by decide) rfl rfl hinX7 5 (by decide) (idx := 42) (by decide +kernel) rfl rfl dX7_line_51 ?_
      refine cx_civ C hO (cc_X1_make l D y ad t X σ106 16 rfl _ hw) (by decide) rfl rfl (cwV 1 hts gX7_line_X1_make rfl rfl rfl (by decide +kernel) ⟨Nat.le_of_ble_eq_true rfl, Nat.le_of_ble_eq_true rfl⟩) rfl hl.1 rfl (lv_room (Nat.le_of_ble_eq_true rfl)) dX7_line_54 (fun u107 σ108 H locs hw hO => ?_)
      refine lv_if_eq (tgt := 68) hx hb dX7_line_57 (by decide) (fun hc => ?_) (fun hc => ?_)
      · have hw := hw.1 hc
        refine lv_bipush (v := -2) hx hb dX7_line_68 (by decide) ?_
        exact kc_X7_line_70 C ((-2 : Int32)) σ108 hw H locs ls hO (lv_sub hl [2] rfl)
      · have hw := hw.2 hc
        refine lv_aload_n hx hb dX7_line_60 rfl (lv_at hl 2 rfl) ?_
        refine lv_iload_n hx hb dX7_line_61 rfl (lv_at hl 3 rfl) ?_
        refine cx_civ C hO (cc_X7_settle l D y ad t X σ108 x1 _ hw) (by decide) rfl rfl (cwV 1 hts gX7_line_X7_settle rfl rfl rfl (by decide +kernel) ⟨Nat.le_of_ble_eq_true rfl, Nat.le_of_ble_eq_true rfl⟩) rfl hl.1 rfl (lv_room (Nat.le_of_ble_eq_true rfl)) dX7_line_62 (fun u109 σ110 H locs hw hO => ?_)
        refine lv_goto (tgt := 70) hx hb dX7_line_65 (by decide) ?_
        exact kc_X7_line_70 C u109 σ110 hw H locs ls hO (lv_sub hl [2] rfl)
    · have hw := hw.2 hc
      refine lv_iload_n hx hb dX7_line_44 rfl (lv_at hl 0 rfl) ?_
      exact cx_iret C hO hw dX7_line_45
  · have hw := hw.2 hc
    refine lv_iconst (v := -1) hx hb dX7_line_7 (by decide) ?_
    exact cx_iret C hO hw dX7_line_8
theorem cc_X7_line (l : Launch) (D : va_G) (y : Nat → ClassId) (ad t : Nat → Nat) (X : va_W) (σ : cS) (x1 : Int32) (Q : Int32 → cS → Prop) (hw : v_X7_line Q x1 σ) : ∀ sz, Met l yX7_line wsX7_line rc_X7_line (va_Pc [.ref (ad 0), .int x1] (cPre D y ad t X sz σ)) (va_Qi Q (cB D y ad X (va_A (cW y ad σ ++ X) sz)) (va_A (cW y ad σ ++ X) sz)) 0 0 (va_A (cW y ad σ ++ X) sz) :=
  cMet (Qc := fun A => va_Qi Q (cB D y ad X A) A) (by decide) (own := RX7) rfl (Nat.le_of_ble_eq_true rfl) (fun p e s m args below meth c A ls C hO hl => kc_X7_line_e C x1 σ hw s.heap [] ls hO hl)
abbrev rc_X7_missing : Room := { frames := 2, cells := 0, slots := 0, locals := 42 }
set_option maxRecDepth 100000 in
set_option maxHeartbeats 4000000 in
theorem kc_X7_missing_27 {p : Program} {l : Launch} {e : Env} {s : State} {m : MethodId} {args : Array Value} {below : List Frame} {meth : Method} {c : Code} {D : va_G} {y : Nat → ClassId} {ad t : Nat → Nat} {X : va_W} {A : Nat → Prop} {Q : Int32 → cS → Prop} (C : cC p s m args meth c cX7_missing 2 (some .int) RX7 wsX7_missing D y t A) (z0 : Int32) (σ : cS) (hw : v_X7_missing_27 Q z0 σ) (H : Heap) (locs : List Loc) (ls : Array Slot) (hO : cO D y ad X A s.heap H locs σ) (hl : lv_has ls 2 [(0, .ref (ad 0))]) : W p l e rc_X7_missing s m args below meth c H locs 0 0 (MQ below (va_Qi Q (cB D y ad X A) A) args s 0 0 A) (F0 m 27 ls [.int z0]) := by
  obtain ⟨hx, hb, hr, hml, hown, hts, hlk, hK, hA, hTs, hNw⟩ := id C
  unfold v_X7_missing_27 at hw
  exact cx_iret C hO hw dX7_missing_27
set_option maxRecDepth 100000 in
set_option maxHeartbeats 4000000 in
theorem kc_X7_missing_e {p : Program} {l : Launch} {e : Env} {s : State} {m : MethodId} {args : Array Value} {below : List Frame} {meth : Method} {c : Code} {D : va_G} {y : Nat → ClassId} {ad t : Nat → Nat} {X : va_W} {A : Nat → Prop} {Q : Int32 → cS → Prop} (C : cC p s m args meth c cX7_missing 2 (some .int) RX7 wsX7_missing D y t A) (x1 : Int32) (σ : cS) (hw : v_X7_missing Q x1 σ) (H : Heap) (locs : List Loc) (ls : Array Slot) (hO : cO D y ad X A s.heap H locs σ) (hl : lv_has ls 2 [(0, .ref (ad 0)), (1, .int x1)]) : W p l e rc_X7_missing s m args below meth c H locs 0 0 (MQ below (va_Qi Q (cB D y ad X A) A) args s 0 0 A) (F0 m 0 ls []) := by
  obtain ⟨hx, hb, hr, hml, hown, hts, hlk, hK, hA, hTs, hNw⟩ := id C
  have hinX0 : ∀ w ∈ wsX00, w ∈ wsX7_missing := fun _ h => List.mem_cons_of_mem _ (List.mem_append_right _ h)
  have hinX7 : ∀ w ∈ wsX70, w ∈ wsX7_missing := fun _ h => List.mem_cons_of_mem _ (List.mem_append_left _ (List.mem_append_right _ h))
  unfold v_X7_missing at hw
  refine lv_iload_n hx hb dX7_missing_0 rfl (lv_at hl 1 rfl) ?_
  refine cx_cis C hO (cc_X7_isLine l D y ad t X σ x1 _ hw) (va_cwS 1 hts gX7_missing_X7_isLine rfl rfl rfl (by decide +kernel) ⟨Nat.le_of_ble_eq_true rfl, Nat.le_of_ble_eq_true rfl⟩) rfl hl.1 rfl (lv_room (Nat.le_of_ble_eq_true rfl)) dX7_missing_1 (fun u101 σ102 H locs hw hO => ?_)
  refine lv_if_ne (tgt := 9) hx hb dX7_missing_4 (by decide) (fun hc => ?_) (fun hc => ?_)
  · have hw := hw.1 hc
    refine lv_aload_n hx hb dX7_missing_9 rfl (lv_at hl 0 rfl) ?_
    refine cx_get C hO (by decide) rfl rfl hinX7 1 (by decide) (idx := 18) (by decide +kernel) rfl rfl dX7_missing_10 ?_
    refine lv_iload_n hx hb dX7_missing_13 rfl (lv_at hl 1 rfl) ?_
    refine cx_aaL C hO hw.1 dX7_missing_14 (fun o103 eo103 ho103 => ?_)
    have hw := hw.2 o103 eo103
    refine cx_get C hO (cL_lt ho103).1 (cE_L ho103) rfl hinX0 4 (by decide) (idx := 90) (by decide +kernel) rfl rfl dX7_missing_15 ?_
    refine lv_if_eq (tgt := 25) hx hb dX7_missing_18 (by decide) (fun hc => ?_) (fun hc => ?_)
    · have hw := hw.1 hc
      refine lv_bipush (v := -2) hx hb dX7_missing_25 (by decide) ?_
      exact kc_X7_missing_27 C ((-2 : Int32)) σ102 hw H locs ls hO (lv_sub hl [0] rfl)
    · have hw := hw.2 hc
      refine lv_iconst (v := 0) hx hb dX7_missing_21 (by decide) ?_
      refine lv_goto (tgt := 27) hx hb dX7_missing_22 (by decide) ?_
      exact kc_X7_missing_27 C ((0 : Int32)) σ102 hw H locs ls hO (lv_sub hl [0] rfl)
  · have hw := hw.2 hc
    refine lv_iconst (v := -1) hx hb dX7_missing_7 (by decide) ?_
    exact cx_iret C hO hw dX7_missing_8
theorem cc_X7_missing (l : Launch) (D : va_G) (y : Nat → ClassId) (ad t : Nat → Nat) (X : va_W) (σ : cS) (x1 : Int32) (Q : Int32 → cS → Prop) (hw : v_X7_missing Q x1 σ) : ∀ sz, Met l yX7_missing wsX7_missing rc_X7_missing (va_Pc [.ref (ad 0), .int x1] (cPre D y ad t X sz σ)) (va_Qi Q (cB D y ad X (va_A (cW y ad σ ++ X) sz)) (va_A (cW y ad σ ++ X) sz)) 0 0 (va_A (cW y ad σ ++ X) sz) :=
  cMet (Qc := fun A => va_Qi Q (cB D y ad X A) A) (by decide) (own := RX7) rfl (Nat.le_of_ble_eq_true rfl) (fun p e s m args below meth c A ls C hO hl => kc_X7_missing_e C x1 σ hw s.heap [] ls hO hl)
abbrev rc_X7_drop : Room := { frames := 3, cells := 0, slots := 0, locals := 63 }
set_option maxRecDepth 100000 in
set_option maxHeartbeats 4000000 in
theorem kc_X7_drop_e {p : Program} {l : Launch} {e : Env} {s : State} {m : MethodId} {args : Array Value} {below : List Frame} {meth : Method} {c : Code} {D : va_G} {y : Nat → ClassId} {ad t : Nat → Nat} {X : va_W} {A : Nat → Prop} {Q : Int32 → cS → Prop} (C : cC p s m args meth c cX7_drop 3 (some .int) RX7 wsX7_drop D y t A) (x1 : Int32) (σ : cS) (hw : v_X7_drop Q x1 σ) (H : Heap) (locs : List Loc) (ls : Array Slot) (hO : cO D y ad X A s.heap H locs σ) (hl : lv_has ls 3 [(0, .ref (ad 0)), (1, .int x1)]) : W p l e rc_X7_drop s m args below meth c H locs 0 0 (MQ below (va_Qi Q (cB D y ad X A) A) args s 0 0 A) (F0 m 0 ls []) := by
  obtain ⟨hx, hb, hr, hml, hown, hts, hlk, hK, hA, hTs, hNw⟩ := id C
  have hinX0 : ∀ w ∈ wsX00, w ∈ wsX7_drop := fun _ h => List.mem_cons_of_mem _ (List.mem_append_right _ h)
  have hinX7 : ∀ w ∈ wsX70, w ∈ wsX7_drop := fun _ h => List.mem_cons_of_mem _ (List.mem_append_left _ (List.mem_append_right _ h))
  unfold v_X7_drop at hw
  refine lv_aload_n hx hb dX7_drop_0 rfl (lv_at hl 0 rfl) ?_
  refine lv_iload_n hx hb dX7_drop_1 rfl (lv_at hl 1 rfl) ?_
  refine cx_civ C hO (cc_X7_missing l D y ad t X σ x1 _ hw) (by decide) rfl rfl (cwV 1 hts gX7_drop_X7_missing rfl rfl rfl (by decide +kernel) ⟨Nat.le_of_ble_eq_true rfl, Nat.le_of_ble_eq_true rfl⟩) rfl hl.1 rfl (lv_room (Nat.le_of_ble_eq_true rfl)) dX7_drop_2 (fun u101 σ102 H locs hw hO => ?_)
  refine lv_istore_n (lv' := [(2, .int u101), (0, .ref (ad 0)), (1, .int x1)]) hx hb dX7_drop_5 rfl hl (by decide) rfl (fun ls hl => ?_)
  refine lv_iload_n hx hb dX7_drop_6 rfl (lv_at hl 0 rfl) ?_
  refine lv_if_eq (tgt := 12) hx hb dX7_drop_7 (by decide) (fun hc => ?_) (fun hc => ?_)
  · have hw := hw.1 hc
    refine lv_aload_n hx hb dX7_drop_12 rfl (lv_at hl 1 rfl) ?_
    refine cx_get C hO (by decide) rfl rfl hinX7 1 (by decide) (idx := 18) (by decide +kernel) rfl rfl dX7_drop_13 ?_
    refine lv_iload_n hx hb dX7_drop_16 rfl (lv_at hl 2 rfl) ?_
    refine cx_aaL C hO hw.1 dX7_drop_17 (fun o103 eo103 ho103 => ?_)
    have hw := hw.2 o103 eo103
    refine lv_iconst (v := 0) hx hb dX7_drop_18 (by decide) ?_
    refine cx_put C hO (ty := .boolean) (cL_lt ho103).1 (cE_L ho103) rfl hinX0 tyX0 tyX0_ok nmX0 4 (by decide) (idx := 90) (by decide +kernel) rfl rfl (by decide +kernel) (by decide) (by decide) (Nat.le_of_ble_eq_true rfl) (cW_FL ho103 (by decide)) dX7_drop_19 (fun H locs σ104 eσ104 hO => ?_)
    have hw := hw σ104 eσ104
    refine lv_aload_n hx hb dX7_drop_22 rfl (lv_at hl 1 rfl) ?_
    refine cx_get C hO (by decide) rfl rfl hinX7 1 (by decide) (idx := 18) (by decide +kernel) rfl rfl dX7_drop_23 ?_
    refine lv_iload_n hx hb dX7_drop_26 rfl (lv_at hl 2 rfl) ?_
    refine cx_aaL C hO hw.1 dX7_drop_27 (fun o105 eo105 ho105 => ?_)
    have hw := hw.2 o105 eo105
    refine cx_get C hO (cL_lt ho105).1 (cE_L ho105) rfl hinX0 6 (by decide) (idx := 94) (by decide +kernel) rfl rfl dX7_drop_28 ?_
    exact cx_iret C hO hw dX7_drop_31
  · have hw := hw.2 hc
    refine lv_iload_n hx hb dX7_drop_10 rfl (lv_at hl 0 rfl) ?_
    exact cx_iret C hO hw dX7_drop_11
theorem cc_X7_drop (l : Launch) (D : va_G) (y : Nat → ClassId) (ad t : Nat → Nat) (X : va_W) (σ : cS) (x1 : Int32) (Q : Int32 → cS → Prop) (hw : v_X7_drop Q x1 σ) : ∀ sz, Met l yX7_drop wsX7_drop rc_X7_drop (va_Pc [.ref (ad 0), .int x1] (cPre D y ad t X sz σ)) (va_Qi Q (cB D y ad X (va_A (cW y ad σ ++ X) sz)) (va_A (cW y ad σ ++ X) sz)) 0 0 (va_A (cW y ad σ ++ X) sz) :=
  cMet (Qc := fun A => va_Qi Q (cB D y ad X A) A) (by decide) (own := RX7) rfl (Nat.le_of_ble_eq_true rfl) (fun p e s m args below meth c A ls C hO hl => kc_X7_drop_e C x1 σ hw s.heap [] ls hO hl)
abbrev rc_X7_kind : Room := { frames := 3, cells := 0, slots := 0, locals := 63 }
set_option maxRecDepth 100000 in
set_option maxHeartbeats 4000000 in
theorem kc_X7_kind_23 {p : Program} {l : Launch} {e : Env} {s : State} {m : MethodId} {args : Array Value} {below : List Frame} {meth : Method} {c : Code} {D : va_G} {y : Nat → ClassId} {ad t : Nat → Nat} {X : va_W} {A : Nat → Prop} {Q : Int32 → cS → Prop} (C : cC p s m args meth c cX7_kind 3 (some .int) RX7 wsX7_kind D y t A) (z0 : Int32) (σ : cS) (hw : v_X7_kind_23 Q z0 σ) (H : Heap) (locs : List Loc) (ls : Array Slot) (hO : cO D y ad X A s.heap H locs σ) (hl : lv_has ls 3 [(0, .ref (ad 0))]) : W p l e rc_X7_kind s m args below meth c H locs 0 0 (MQ below (va_Qi Q (cB D y ad X A) A) args s 0 0 A) (F0 m 23 ls [.int z0]) := by
  obtain ⟨hx, hb, hr, hml, hown, hts, hlk, hK, hA, hTs, hNw⟩ := id C
  unfold v_X7_kind_23 at hw
  exact cx_iret C hO hw dX7_kind_23
set_option maxRecDepth 100000 in
set_option maxHeartbeats 4000000 in
theorem kc_X7_kind_e {p : Program} {l : Launch} {e : Env} {s : State} {m : MethodId} {args : Array Value} {below : List Frame} {meth : Method} {c : Code} {D : va_G} {y : Nat → ClassId} {ad t : Nat → Nat} {X : va_W} {A : Nat → Prop} {Q : Int32 → cS → Prop} (C : cC p s m args meth c cX7_kind 3 (some .int) RX7 wsX7_kind D y t A) (x1 : Int32) (σ : cS) (hw : v_X7_kind Q x1 σ) (H : Heap) (locs : List Loc) (ls : Array Slot) (hO : cO D y ad X A s.heap H locs σ) (hl : lv_has ls 3 [(0, .ref (ad 0)), (1, .int x1)]) : W p l e rc_X7_kind s m args below meth c H locs 0 0 (MQ below (va_Qi Q (cB D y ad X A) A) args s 0 0 A) (F0 m 0 ls []) := by
  obtain ⟨hx, hb, hr, hml, hown, hts, hlk, hK, hA, hTs, hNw⟩ := id C
  have hinX0 : ∀ w ∈ wsX00, w ∈ wsX7_kind := fun _ h => List.mem_cons_of_mem _ (List.mem_append_right _ h)
  have hinX7 : ∀ w ∈ wsX70, w ∈ wsX7_kind := fun _ h => List.mem_cons_of_mem _ (List.mem_append_left _ (List.mem_append_right _ h))
  unfold v_X7_kind at hw
  refine lv_aload_n hx hb dX7_kind_0 rfl (lv_at hl 0 rfl) ?_
  refine lv_iload_n hx hb dX7_kind_1 rfl (lv_at hl 1 rfl) ?_
  refine cx_civ C hO (cc_X7_missing l D y ad t X σ x1 _ hw) (by decide) rfl rfl (cwV 1 hts gX7_kind_X7_missing rfl rfl rfl (by decide +kernel) ⟨Nat.le_of_ble_eq_true rfl, Nat.le_of_ble_eq_true rfl⟩) rfl hl.1 rfl (lv_room (Nat.le_of_ble_eq_true rfl)) dX7_kind_2 (fun u101 σ102 H locs hw hO => ?_)
  refine lv_istore_n (lv' := [(2, .int u101), (0, .ref (ad 0)), (1, .int x1)]) hx hb dX7_kind_5 rfl hl (by decide) rfl (fun ls hl => ?_)
  refine lv_iload_n hx hb dX7_kind_6 rfl (lv_at hl 0 rfl) ?_
  refine lv_if_eq (tgt := 14) hx hb dX7_kind_7 (by decide) (fun hc => ?_) (fun hc => ?_)
  · have hw := hw.1 hc
    refine lv_aload_n hx hb dX7_kind_14 rfl (lv_at hl 1 rfl) ?_
    refine cx_get C hO (by decide) rfl rfl hinX7 1 (by decide) (idx := 18) (by decide +kernel) rfl rfl dX7_kind_15 ?_
    refine lv_iload_n hx hb dX7_kind_18 rfl (lv_at hl 2 rfl) ?_
    refine cx_aaL C hO hw.1 dX7_kind_19 (fun o103 eo103 ho103 => ?_)
    have hw := hw.2 o103 eo103
    refine cx_get C hO (cL_lt ho103).1 (cE_L ho103) rfl hinX0 6 (by decide) (idx := 94) (by decide +kernel) rfl rfl dX7_kind_20 ?_
    exact kc_X7_kind_23 C (σ102.2.2.1 o103 6) σ102 hw H locs ls hO (lv_sub hl [1] rfl)
  · have hw := hw.2 hc
    refine lv_iload_n hx hb dX7_kind_10 rfl (lv_at hl 0 rfl) ?_
    refine lv_goto (tgt := 23) hx hb dX7_kind_11 (by decide) ?_
    exact kc_X7_kind_23 C u101 σ102 hw H locs ls hO (lv_sub hl [1] rfl)
theorem cc_X7_kind (l : Launch) (D : va_G) (y : Nat → ClassId) (ad t : Nat → Nat) (X : va_W) (σ : cS) (x1 : Int32) (Q : Int32 → cS → Prop) (hw : v_X7_kind Q x1 σ) : ∀ sz, Met l yX7_kind wsX7_kind rc_X7_kind (va_Pc [.ref (ad 0), .int x1] (cPre D y ad t X sz σ)) (va_Qi Q (cB D y ad X (va_A (cW y ad σ ++ X) sz)) (va_A (cW y ad σ ++ X) sz)) 0 0 (va_A (cW y ad σ ++ X) sz) :=
  cMet (Qc := fun A => va_Qi Q (cB D y ad X A) A) (by decide) (own := RX7) rfl (Nat.le_of_ble_eq_true rfl) (fun p e s m args below meth c A ls C hO hl => kc_X7_kind_e C x1 σ hw s.heap [] ls hO hl)
abbrev rc_X7_degree : Room := { frames := 3, cells := 0, slots := 0, locals := 63 }
set_option maxRecDepth 100000 in
set_option maxHeartbeats 4000000 in
theorem kc_X7_degree_23 {p : Program} {l : Launch} {e : Env} {s : State} {m : MethodId} {args : Array Value} {below : List Frame} {meth : Method} {c : Code} {D : va_G} {y : Nat → ClassId} {ad t : Nat → Nat} {X : va_W} {A : Nat → Prop} {Q : Int32 → cS → Prop} (C : cC p s m args meth c cX7_degree 3 (some .int) RX7 wsX7_degree D y t A) (z0 : Int32) (σ : cS) (hw : v_X7_degree_23 Q z0 σ) (H : Heap) (locs : List Loc) (ls : Array Slot) (hO : cO D y ad X A s.heap H locs σ) (hl : lv_has ls 3 [(0, .ref (ad 0))]) : W p l e rc_X7_degree s m args below meth c H locs 0 0 (MQ below (va_Qi Q (cB D y ad X A) A) args s 0 0 A) (F0 m 23 ls [.int z0]) := by
  obtain ⟨hx, hb, hr, hml, hown, hts, hlk, hK, hA, hTs, hNw⟩ := id C
  unfold v_X7_degree_23 at hw
  exact cx_iret C hO hw dX7_degree_23
set_option maxRecDepth 100000 in
set_option maxHeartbeats 4000000 in
theorem kc_X7_degree_e {p : Program} {l : Launch} {e : Env} {s : State} {m : MethodId} {args : Array Value} {below : List Frame} {meth : Method} {c : Code} {D : va_G} {y : Nat → ClassId} {ad t : Nat → Nat} {X : va_W} {A : Nat → Prop} {Q : Int32 → cS → Prop} (C : cC p s m args meth c cX7_degree 3 (some .int) RX7 wsX7_degree D y t A) (x1 : Int32) (σ : cS) (hw : v_X7_degree Q x1 σ) (H : Heap) (locs : List Loc) (ls : Array Slot) (hO : cO D y ad X A s.heap H locs σ) (hl : lv_has ls 3 [(0, .ref (ad 0)), (1, .int x1)]) : W p l e rc_X7_degree s m args below meth c H locs 0 0 (MQ below (va_Qi Q (cB D y ad X A) A) args s 0 0 A) (F0 m 0 ls []) := by
  obtain ⟨hx, hb, hr, hml, hown, hts, hlk, hK, hA, hTs, hNw⟩ := id C
  have hinX0 : ∀ w ∈ wsX00, w ∈ wsX7_degree := fun _ h => List.mem_cons_of_mem _ (List.mem_append_right _ h)
  have hinX7 : ∀ w ∈ wsX70, w ∈ wsX7_degree := fun _ h => List.mem_cons_of_mem _ (List.mem_append_left _ (List.mem_append_right _ h))
  unfold v_X7_degree at hw
  refine lv_aload_n hx hb dX7_degree_0 rfl (lv_at hl 0 rfl) ?_
  refine lv_iload_n hx hb dX7_degree_1 rfl (lv_at hl 1 rfl) ?_
  refine cx_civ C hO (cc_X7_missing l D y ad t X σ x1 _ hw) (by decide) rfl rfl (cwV 1 hts gX7_degree_X7_missing rfl rfl rfl (by decide +kernel) ⟨Nat.le_of_ble_eq_true rfl, Nat.le_of_ble_eq_true rfl⟩) rfl hl.1 rfl (lv_room (Nat.le_of_ble_eq_true rfl)) dX7_degree_2 (fun u101 σ102 H locs hw hO => ?_)
  refine lv_istore_n (lv' := [(2, .int u101), (0, .ref (ad 0)), (1, .int x1)]) hx hb dX7_degree_5 rfl hl (by decide) rfl (fun ls hl => ?_)
  refine lv_iload_n hx hb dX7_degree_6 rfl (lv_at hl 0 rfl) ?_
  refine lv_if_eq (tgt := 14) hx hb dX7_degree_7 (by decide) (fun hc => ?_) (fun hc => ?_)
  · have hw := hw.1 hc
    refine lv_aload_n hx hb dX7_degree_14 rfl (lv_at hl 1 rfl) ?_
    refine cx_get C hO (by decide) rfl rfl hinX7 1 (by decide) (idx := 18) (by decide +kernel) rfl rfl dX7_degree_15 ?_
    refine lv_iload_n hx hb dX7_degree_18 rfl (lv_at hl 2 rfl) ?_
    refine cx_aaL C hO hw.1 dX7_degree_19 (fun o103 eo103 ho103 => ?_)
    have hw := hw.2 o103 eo103
    refine cx_get C hO (cL_lt ho103).1 (cE_L ho103) rfl hinX0 5 (by decide) (idx := 97) (by decide +kernel) rfl rfl dX7_degree_20 ?_
    exact kc_X7_degree_23 C (σ102.2.2.1 o103 5) σ102 hw H locs ls hO (lv_sub hl [1] rfl)
  · have hw := hw.2 hc
    refine lv_iload_n hx hb dX7_degree_10 rfl (lv_at hl 0 rfl) ?_
    refine lv_goto (tgt := 23) hx hb dX7_degree_11 (by decide) ?_
    exact kc_X7_degree_23 C u101 σ102 hw H locs ls hO (lv_sub hl [1] rfl)
theorem cc_X7_degree (l : Launch) (D : va_G) (y : Nat → ClassId) (ad t : Nat → Nat) (X : va_W) (σ : cS) (x1 : Int32) (Q : Int32 → cS → Prop) (hw : v_X7_degree Q x1 σ) : ∀ sz, Met l yX7_degree wsX7_degree rc_X7_degree (va_Pc [.ref (ad 0), .int x1] (cPre D y ad t X sz σ)) (va_Qi Q (cB D y ad X (va_A (cW y ad σ ++ X) sz)) (va_A (cW y ad σ ++ X) sz)) 0 0 (va_A (cW y ad σ ++ X) sz) :=
  cMet (Qc := fun A => va_Qi Q (cB D y ad X A) A) (by decide) (own := RX7) rfl (Nat.le_of_ble_eq_true rfl) (fun p e s m args below meth c A ls C hO hl => kc_X7_degree_e C x1 σ hw s.heap [] ls hO hl)
abbrev rc_X7_told : Room := { frames := 3, cells := 0, slots := 0, locals := 63 }
set_option maxRecDepth 100000 in
set_option maxHeartbeats 4000000 in
theorem kc_X7_told_18 {p : Program} {l : Launch} {e : Env} {s : State} {m : MethodId} {args : Array Value} {below : List Frame} {meth : Method} {c : Code} {D : va_G} {y : Nat → ClassId} {ad t : Nat → Nat} {X : va_W} {A : Nat → Prop} {Q : Int32 → cS → Prop} (C : cC p s m args meth c cX7_told 5 (some .int) RX7 wsX7_told D y t A)  (σ : cS) (hw : v_X7_told_18 Q σ) (H : Heap) (locs : List Loc) (ls : Array Slot) (hO : cO D y ad X A s.heap H locs σ) (hl : lv_has ls 5 [(0, .ref (ad 0))]) : W p l e rc_X7_told s m args below meth c H locs 0 0 (MQ below (va_Qi Q (cB D y ad X A) A) args s 0 0 A) (F0 m 18 ls []) := by
  obtain ⟨hx, hb, hr, hml, hown, hts, hlk, hK, hA, hTs, hNw⟩ := id C
  unfold v_X7_told_18 at hw
  refine lv_sipush (v := -1001) hx hb dX7_told_18 (by decide) ?_
  exact cx_iret C hO hw dX7_told_21
set_option maxRecDepth 100000 in
set_option maxHeartbeats 4000000 in
theorem kc_X7_told_55 {p : Program} {l : Launch} {e : Env} {s : State} {m : MethodId} {args : Array Value} {below : List Frame} {meth : Method} {c : Code} {D : va_G} {y : Nat → ClassId} {ad t : Nat → Nat} {X : va_W} {A : Nat → Prop} {Q : Int32 → cS → Prop} (C : cC p s m args meth c cX7_told 5 (some .int) RX7 wsX7_told D y t A) (z0 : Int32) (σ : cS) (hw : v_X7_told_55 Q z0 σ) (H : Heap) (locs : List Loc) (ls : Array Slot) (hO : cO D y ad X A s.heap H locs σ) (hl : lv_has ls 5 [(0, .ref (ad 0))]) : W p l e rc_X7_told s m args below meth c H locs 0 0 (MQ below (va_Qi Q (cB D y ad X A) A) args s 0 0 A) (F0 m 55 ls [.int z0]) := by
  obtain ⟨hx, hb, hr, hml, hown, hts, hlk, hK, hA, hTs, hNw⟩ := id C
  unfold v_X7_told_55 at hw
  exact cx_iret C hO hw dX7_told_55
set_option maxRecDepth 100000 in
set_option maxHeartbeats 4000000 in
theorem kc_X7_told_e {p : Program} {l : Launch} {e : Env} {s : State} {m : MethodId} {args : Array Value} {below : List Frame} {meth : Method} {c : Code} {D : va_G} {y : Nat → ClassId} {ad t : Nat → Nat} {X : va_W} {A : Nat → Prop} {Q : Int32 → cS → Prop} (C : cC p s m args meth c cX7_told 5 (some .int) RX7 wsX7_told D y t A) (x1 : Int32) (x2 : Int32) (x3 : Int32) (σ : cS) (hw : v_X7_told Q x1 x2 x3 σ) (H : Heap) (locs : List Loc) (ls : Array Slot) (hO : cO D y ad X A s.heap H locs σ) (hl : lv_has ls 5 [(0, .ref (ad 0)), (1, .int x1), (2, .int x2), (3, .int x3)]) : W p l e rc_X7_told s m args below meth c H locs 0 0 (MQ below (va_Qi Q (cB D y ad X A) A) args s 0 0 A) (F0 m 0 ls []) := by
  obtain ⟨hx, hb, hr, hml, hown, hts, hlk, hK, hA, hTs, hNw⟩ := id C
  have hinX7 : ∀ w ∈ wsX70, w ∈ wsX7_told := fun _ h => List.mem_cons_of_mem _ (List.mem_append_left _ (List.mem_append_right _ h))
  unfold v_X7_told at hw
  refine lv_iload_n hx hb dX7_told_0 rfl (lv_at hl 2 rfl) ?_
  refine lv_iconst (v := 0) hx hb dX7_told_1 (by decide) ?_
  refine lv_iconst (v := 2) hx hb dX7_told_2 (by decide) ?_
  refine cx_cis C hO (cc_X7_within l D y ad t X σ x2 (0 : Int32) (2 : Int32) _ hw) (va_cwS 3 hts gX7_told_X7_within rfl rfl rfl (by decide +kernel) ⟨Nat.le_of_ble_eq_true rfl, Nat.le_of_ble_eq_true rfl⟩) rfl hl.1 rfl (lv_room (Nat.le_of_ble_eq_true rfl)) dX7_told_3 (fun u101 σ102 H locs hw hO => ?_)
  refine lv_if_eq (tgt := 18) hx hb dX7_told_6 (by decide) (fun hc => ?_) (fun hc => ?_)
  · have hw := hw.1 hc
    exact kc_X7_told_18 C σ102 hw H locs ls hO (lv_sub hl [0] rfl)
  · have hw := hw.2 hc
    refine lv_iload_n hx hb dX7_told_9 rfl (lv_at hl 3 rfl) ?_
    refine lv_iconst (v := 0) hx hb dX7_told_10 (by decide) ?_
    refine lv_iconst (v := 3) hx hb dX7_told_11 (by decide) ?_
    refine cx_cis C hO (cc_X7_within l D y ad t X σ102 x3 (0 : Int32) (3 : Int32) _ hw) (va_cwS 3 hts gX7_told_X7_within rfl rfl rfl (by decide +kernel) ⟨Nat.le_of_ble_eq_true rfl, Nat.le_of_ble_eq_true rfl⟩) rfl hl.1 rfl (lv_room (Nat.le_of_ble_eq_true rfl)) dX7_told_12 (fun u103 σ104 H locs hw hO => ?_)
    refine lv_if_ne (tgt := 22) hx hb dX7_told_15 (by decide) (fun hc => ?_) (fun hc => ?_)
    · have hw := hw.1 hc
      refine lv_aload_n hx hb dX7_told_22 rfl (lv_at hl 0 rfl) ?_
      refine lv_iload_n hx hb dX7_told_23 rfl (lv_at hl 1 rfl) ?_
      refine cx_civ C hO (cc_X7_missing l D y ad t X σ104 x1 _ hw) (by decide) rfl rfl (cwV 1 hts gX7_told_X7_missing rfl rfl rfl (by decide +kernel) ⟨Nat.le_of_ble_eq_true rfl, Nat.le_of_ble_eq_true rfl⟩) rfl hl.1 rfl (lv_room (Nat.le_of_ble_eq_true rfl)) dX7_told_24 (fun u105 σ106 H locs hw hO => ?_)
      refine lv_istore (lv' := [(4, .int u105), (0, .ref (ad 0)), (1, .int x1), (2, .int x2), (3, .int x3)]) hx hb dX7_told_27 hl (by decide) rfl (fun ls hl => ?_)
      refine lv_iload hx hb dX7_told_29 (lv_at hl 0 rfl) ?_
      refine lv_if_eq (tgt := 43) hx hb dX7_told_31 (by decide) (fun hc => ?_) (fun hc => ?_)
      · have hw := hw.1 hc
        refine lv_aload_n hx hb dX7_told_43 rfl (lv_at hl 1 rfl) ?_
        refine cx_get C hO (by decide) rfl rfl hinX7 1 (by decide) (idx := 18) (by decide +kernel) rfl rfl dX7_told_44 ?_
        refine lv_iload_n hx hb dX7_told_47 rfl (lv_at hl 2 rfl) ?_
        refine cx_aaL C hO hw.1 dX7_told_48 (fun o107 eo107 ho107 => ?_)
        have hw := hw.2 o107 eo107
        refine lv_iload_n hx hb dX7_told_49 rfl (lv_at hl 3 rfl) ?_
        refine lv_iload_n hx hb dX7_told_50 rfl (lv_at hl 4 rfl) ?_
        refine cx_clv C hO (cc_X0_number l D y ad t X σ106 o107 x2 x3 ho107 _ hw) (cL_lt ho107).1 (cE_L ho107) rfl (cwV 2 hts gX7_told_X0_number rfl rfl rfl (by decide +kernel) ⟨Nat.le_of_ble_eq_true rfl, Nat.le_of_ble_eq_true rfl⟩) rfl hl.1 rfl (lv_room (Nat.le_of_ble_eq_true rfl)) dX7_told_51 (fun u108 σ109 H locs hw hO => ?_)
        refine lv_l2i hx hb dX7_told_54 rfl ?_
        exact kc_X7_told_55 C (u108.toInt32) σ109 hw H locs ls hO (lv_sub hl [1] rfl)
      · have hw := hw.2 hc
        refine lv_iload hx hb dX7_told_34 (lv_at hl 0 rfl) ?_
        refine lv_sipush (v := 1000) hx hb dX7_told_36 (by decide) ?_
        refine lv_isub hx hb dX7_told_39 ?_
        refine lv_goto (tgt := 55) hx hb dX7_told_40 (by decide) ?_
        exact kc_X7_told_55 C (u105 - (1000 : Int32)) σ106 hw H locs ls hO (lv_sub hl [1] rfl)
    · have hw := hw.2 hc
      exact kc_X7_told_18 C σ104 hw H locs ls hO (lv_sub hl [0] rfl)
theorem cc_X7_told (l : Launch) (D : va_G) (y : Nat → ClassId) (ad t : Nat → Nat) (X : va_W) (σ : cS) (x1 : Int32) (x2 : Int32) (x3 : Int32) (Q : Int32 → cS → Prop) (hw : v_X7_told Q x1 x2 x3 σ) : ∀ sz, Met l yX7_told wsX7_told rc_X7_told (va_Pc [.ref (ad 0), .int x1, .int x2, .int x3] (cPre D y ad t X sz σ)) (va_Qi Q (cB D y ad X (va_A (cW y ad σ ++ X) sz)) (va_A (cW y ad σ ++ X) sz)) 0 0 (va_A (cW y ad σ ++ X) sz) :=
  cMet (Qc := fun A => va_Qi Q (cB D y ad X A) A) (by decide) (own := RX7) rfl (Nat.le_of_ble_eq_true rfl) (fun p e s m args below meth c A ls C hO hl => kc_X7_told_e C x1 x2 x3 σ hw s.heap [] ls hO hl)
abbrev rc_X7_isLetter : Room := { frames := 1, cells := 0, slots := 0, locals := 22 }
set_option maxRecDepth 100000 in
set_option maxHeartbeats 4000000 in
theorem kc_X7_isLetter_26 {p : Program} {l : Launch} {e : Env} {s : State} {m : MethodId} {args : Array Value} {below : List Frame} {meth : Method} {c : Code} {D : va_G} {y : Nat → ClassId} {ad t : Nat → Nat} {X : va_W} {A : Nat → Prop} {Q : Int32 → cS → Prop} (C : cC p s m args meth c cX7_isLetter 2 (some .boolean) RX7 wsX7_isLetter D y t A) (z0 : Int32) (σ : cS) (hw : v_X7_isLetter_26 Q z0 σ) (H : Heap) (locs : List Loc) (ls : Array Slot) (hO : cO D y ad X A s.heap H locs σ) (hl : lv_has ls 2 []) : W p l e rc_X7_isLetter s m args below meth c H locs 0 0 (MQ below (va_Qi Q (cB D y ad X A) A) args s 0 0 A) (F0 m 26 ls [.int z0]) := by
  obtain ⟨hx, hb, hr, hml, hown, hts, hlk, hK, hA, hTs, hNw⟩ := id C
  unfold v_X7_isLetter_26 at hw
  exact cx_zret C hO hw.1 hw.2 dX7_isLetter_26
set_option maxRecDepth 100000 in
set_option maxHeartbeats 4000000 in
theorem kc_X7_isLetter_25 {p : Program} {l : Launch} {e : Env} {s : State} {m : MethodId} {args : Array Value} {below : List Frame} {meth : Method} {c : Code} {D : va_G} {y : Nat → ClassId} {ad t : Nat → Nat} {X : va_W} {A : Nat → Prop} {Q : Int32 → cS → Prop} (C : cC p s m args meth c cX7_isLetter 2 (some .boolean) RX7 wsX7_isLetter D y t A)  (σ : cS) (hw : v_X7_isLetter_25 Q σ) (H : Heap) (locs : List Loc) (ls : Array Slot) (hO : cO D y ad X A s.heap H locs σ) (hl : lv_has ls 2 []) : W p l e rc_X7_isLetter s m args below meth c H locs 0 0 (MQ below (va_Qi Q (cB D y ad X A) A) args s 0 0 A) (F0 m 25 ls []) := by
  obtain ⟨hx, hb, hr, hml, hown, hts, hlk, hK, hA, hTs, hNw⟩ := id C
  unfold v_X7_isLetter_25 at hw
  refine lv_iconst (v := 0) hx hb dX7_isLetter_25 (by decide) ?_
  exact kc_X7_isLetter_26 C ((0 : Int32)) σ hw H locs ls hO (lv_sub hl [] rfl)
set_option maxRecDepth 100000 in
set_option maxHeartbeats 4000000 in
theorem kc_X7_isLetter_e {p : Program} {l : Launch} {e : Env} {s : State} {m : MethodId} {args : Array Value} {below : List Frame} {meth : Method} {c : Code} {D : va_G} {y : Nat → ClassId} {ad t : Nat → Nat} {X : va_W} {A : Nat → Prop} {Q : Int32 → cS → Prop} (C : cC p s m args meth c cX7_isLetter 2 (some .boolean) RX7 wsX7_isLetter D y t A) (x0 : Int32) (x1 : Int32) (σ : cS) (hw : v_X7_isLetter Q x0 x1 σ) (H : Heap) (locs : List Loc) (ls : Array Slot) (hO : cO D y ad X A s.heap H locs σ) (hl : lv_has ls 2 [(0, .int x0), (1, .int x1)]) : W p l e rc_X7_isLetter s m args below meth c H locs 0 0 (MQ below (va_Qi Q (cB D y ad X A) A) args s 0 0 A) (F0 m 0 ls []) := by
  obtain ⟨hx, hb, hr, hml, hown, hts, hlk, hK, hA, hTs, hNw⟩ := id C
  unfold v_X7_isLetter at hw
  refine lv_iload_n hx hb dX7_isLetter_0 rfl (lv_at hl 0 rfl) ?_
  refine lv_bipush (v := -20) hx hb dX7_isLetter_1 (by decide) ?_
  refine lv_bipush (v := 20) hx hb dX7_isLetter_3 (by decide) ?_
  refine cx_cis C hO (cc_X7_within l D y ad t X σ x0 (-20 : Int32) (20 : Int32) _ hw) (va_cwS 3 hts gX7_isLetter_X7_within rfl rfl rfl (by decide +kernel) ⟨Nat.le_of_ble_eq_true rfl, Nat.le_of_ble_eq_true rfl⟩) rfl hl.1 rfl (lv_room (Nat.le_of_ble_eq_true rfl)) dX7_isLetter_5 (fun u101 σ102 H locs hw hO => ?_)
  refine lv_if_eq (tgt := 25) hx hb dX7_isLetter_8 (by decide) (fun hc => ?_) (fun hc => ?_)
  · have hw := hw.1 hc
    exact kc_X7_isLetter_25 C σ102 hw H locs ls hO (lv_sub hl [] rfl)
  · have hw := hw.2 hc
    refine lv_iload_n hx hb dX7_isLetter_11 rfl (lv_at hl 1 rfl) ?_
    refine lv_iconst (v := 1) hx hb dX7_isLetter_12 (by decide) ?_
    refine lv_bipush (v := 20) hx hb dX7_isLetter_13 (by decide) ?_
    refine cx_cis C hO (cc_X7_within l D y ad t X σ102 x1 (1 : Int32) (20 : Int32) _ hw) (va_cwS 3 hts gX7_isLetter_X7_within rfl rfl rfl (by decide +kernel) ⟨Nat.le_of_ble_eq_true rfl, Nat.le_of_ble_eq_true rfl⟩) rfl hl.1 rfl (lv_room (Nat.le_of_ble_eq_true rfl)) dX7_isLetter_15 (fun u103 σ104 H locs hw hO => ?_)
    refine lv_if_eq (tgt := 25) hx hb dX7_isLetter_18 (by decide) (fun hc => ?_) (fun hc => ?_)
    · have hw := hw.1 hc
      exact kc_X7_isLetter_25 C σ104 hw H locs ls hO (lv_sub hl [] rfl)
    · have hw := hw.2 hc
      refine lv_iconst (v := 1) hx hb dX7_isLetter_21 (by decide) ?_
      refine lv_goto (tgt := 26) hx hb dX7_isLetter_22 (by decide) ?_
      exact kc_X7_isLetter_26 C ((1 : Int32)) σ104 hw H locs ls hO (lv_sub hl [] rfl)
theorem cc_X7_isLetter (l : Launch) (D : va_G) (y : Nat → ClassId) (ad t : Nat → Nat) (X : va_W) (σ : cS) (x0 : Int32) (x1 : Int32) (Q : Int32 → cS → Prop) (hw : v_X7_isLetter Q x0 x1 σ) : ∀ sz, Met l yX7_isLetter wsX7_isLetter rc_X7_isLetter (va_Pc [.int x0, .int x1] (cPre D y ad t X sz σ)) (va_Qi Q (cB D y ad X (va_A (cW y ad σ ++ X) sz)) (va_A (cW y ad σ ++ X) sz)) 0 0 (va_A (cW y ad σ ++ X) sz) :=
  cMet (Qc := fun A => va_Qi Q (cB D y ad X A) A) (by decide) (own := RX7) rfl (Nat.le_of_ble_eq_true rfl) (fun p e s m args below meth c A ls C hO hl => kc_X7_isLetter_e C x0 x1 σ hw s.heap [] ls hO hl)
abbrev rc_X7_at : Room := { frames := 3, cells := 0, slots := 0, locals := 63 }
set_option maxRecDepth 100000 in
set_option maxHeartbeats 4000000 in
theorem kc_X7_at_28 {p : Program} {l : Launch} {e : Env} {s : State} {m : MethodId} {args : Array Value} {below : List Frame} {meth : Method} {c : Code} {D : va_G} {y : Nat → ClassId} {ad t : Nat → Nat} {X : va_W} {A : Nat → Prop} {Q : Int64 → cS → Prop} (C : cC p s m args meth c cX7_at 15 (some .long) RX7 wsX7_at D y t A)  (σ : cS) (hw : v_X7_at_28 Q σ) (H : Heap) (locs : List Loc) (ls : Array Slot) (hO : cO D y ad X A s.heap H locs σ) (hl : lv_has ls 15 [(0, .ref (ad 0))]) : W p l e rc_X7_at s m args below meth c H locs 0 0 (MQ below (va_Ql Q (cB D y ad X A) A) args s 0 0 A) (F0 m 28 ls []) := by
  obtain ⟨hx, hb, hr, hml, hown, hts, hlk, hK, hA, hTs, hNw⟩ := id C
  unfold v_X7_at_28 at hw
  refine lv_ldc2 (v := -1000000000001) hx hb hown (hts (.constantLong RX7 108 (-1000000000001)) (by decide +kernel)) dX7_at_28 ?_
  exact cx_lret C hO hw dX7_at_31
set_option maxRecDepth 100000 in
set_option maxHeartbeats 4000000 in
theorem kc_X7_at_108 {p : Program} {l : Launch} {e : Env} {s : State} {m : MethodId} {args : Array Value} {below : List Frame} {meth : Method} {c : Code} {D : va_G} {y : Nat → ClassId} {ad t : Nat → Nat} {X : va_W} {A : Nat → Prop} {Q : Int64 → cS → Prop} (C : cC p s m args meth c cX7_at 15 (some .long) RX7 wsX7_at D y t A)  (σ : cS) (hw : v_X7_at_108 Q σ) (H : Heap) (locs : List Loc) (ls : Array Slot) (hO : cO D y ad X A s.heap H locs σ) (hl : lv_has ls 15 [(0, .ref (ad 0))]) : W p l e rc_X7_at s m args below meth c H locs 0 0 (MQ below (va_Ql Q (cB D y ad X A) A) args s 0 0 A) (F0 m 108 ls []) := by
  obtain ⟨hx, hb, hr, hml, hown, hts, hlk, hK, hA, hTs, hNw⟩ := id C
  unfold v_X7_at_108 at hw
  refine lv_ldc2 (v := -1000000000004) hx hb hown (hts (.constantLong RX7 122 (-1000000000004)) (by decide +kernel)) dX7_at_108 ?_
  exact cx_lret C hO hw dX7_at_111
set_option maxRecDepth 100000 in
set_option maxHeartbeats 4000000 in
theorem kc_X7_at_144 {p : Program} {l : Launch} {e : Env} {s : State} {m : MethodId} {args : Array Value} {below : List Frame} {meth : Method} {c : Code} {D : va_G} {y : Nat → ClassId} {ad t : Nat → Nat} {X : va_W} {A : Nat → Prop} {Q : Int64 → cS → Prop} (C : cC p s m args meth c cX7_at 15 (some .long) RX7 wsX7_at D y t A) (z0 : Int64) (σ : cS) (hw : v_X7_at_144 Q z0 σ) (H : Heap) (locs : List Loc) (ls : Array Slot) (hO : cO D y ad X A s.heap H locs σ) (hl : lv_has ls 15 [(0, .ref (ad 0))]) : W p l e rc_X7_at s m args below meth c H locs 0 0 (MQ below (va_Ql Q (cB D y ad X A) A) args s 0 0 A) (F0 m 144 ls [.long z0]) := by
  obtain ⟨hx, hb, hr, hml, hown, hts, hlk, hK, hA, hTs, hNw⟩ := id C
  unfold v_X7_at_144 at hw
  exact cx_lret C hO hw dX7_at_144
set_option maxRecDepth 100000 in
set_option maxHeartbeats 4000000 in
theorem kc_X7_at_124 {p : Program} {l : Launch} {e : Env} {s : State} {m : MethodId} {args : Array Value} {below : List Frame} {meth : Method} {c : Code} {D : va_G} {y : Nat → ClassId} {ad t : Nat → Nat} {X : va_W} {A : Nat → Prop} {Q : Int64 → cS → Prop} (C : cC p s m args meth c cX7_at 15 (some .long) RX7 wsX7_at D y t A) (x9 : Int64) (x11 : Int64) (z0 : Int64) (σ : cS) (hw : v_X7_at_124 Q x9 x11 z0 σ) (H : Heap) (locs : List Loc) (ls : Array Slot) (hO : cO D y ad X A s.heap H locs σ) (hl : lv_has ls 15 [(0, .ref (ad 0)), (9, .long x9), (11, .long x11)]) : W p l e rc_X7_at s m args below meth c H locs 0 0 (MQ below (va_Ql Q (cB D y ad X A) A) args s 0 0 A) (F0 m 124 ls [.long z0]) := by
  obtain ⟨hx, hb, hr, hml, hown, hts, hlk, hK, hA, hTs, hNw⟩ := id C
  unfold v_X7_at_124 at hw
  refine lv_lload hx hb dX7_at_124 (lv_at hl 2 rfl) ?_
  refine lv_ldiv hx hb dX7_at_126 hw.1 ?_
  have hw := hw.2
  refine lv_topl (fun x13_101 ex13_101 => ?_)
  have hw := hw x13_101 ex13_101
  refine lv_lstore (lv' := [(13, .long x13_101), (0, .ref (ad 0)), (9, .long x9), (11, .long x11)]) hx hb dX7_at_127 hl (by decide) rfl (fun ls hl => ?_)
  refine lv_lload hx hb dX7_at_129 (lv_at hl 2 rfl) ?_
  refine lv_lconst (v := 0) hx hb dX7_at_131 (by decide) ?_
  refine W.lcmp hx hb dX7_at_132 ?_
  refine lv_if_ge (tgt := 142) hx hb dX7_at_133 (by decide) (fun hc => ?_) (fun hc => ?_)
  · have hc := (lg_cmp_ge _ _).mp hc
    have hw := hw.1 hc
    refine lv_lload hx hb dX7_at_142 (lv_at hl 0 rfl) ?_
    exact kc_X7_at_144 C x13_101 σ hw H locs ls hO (lv_sub hl [1] rfl)
  · have hc := (not_congr (lg_cmp_ge _ _)).mp hc
    have hw := hw.2 hc
    refine lv_lload hx hb dX7_at_136 (lv_at hl 0 rfl) ?_
    refine lv_lneg hx hb dX7_at_138 ?_
    refine lv_goto (tgt := 144) hx hb dX7_at_139 (by decide) ?_
    exact kc_X7_at_144 C (-x13_101) σ hw H locs ls hO (lv_sub hl [1] rfl)
set_option maxRecDepth 100000 in
set_option maxHeartbeats 4000000 in
theorem kc_X7_at_e {p : Program} {l : Launch} {e : Env} {s : State} {m : MethodId} {args : Array Value} {below : List Frame} {meth : Method} {c : Code} {D : va_G} {y : Nat → ClassId} {ad t : Nat → Nat} {X : va_W} {A : Nat → Prop} {Q : Int64 → cS → Prop} (C : cC p s m args meth c cX7_at 15 (some .long) RX7 wsX7_at D y t A) (x1 : Int32) (x2 : Int32) (x3 : Int32) (x4 : Int32) (x5 : Int32) (σ : cS) (hw : v_X7_at Q x1 x2 x3 x4 x5 σ) (H : Heap) (locs : List Loc) (ls : Array Slot) (hO : cO D y ad X A s.heap H locs σ) (hl : lv_has ls 15 [(0, .ref (ad 0)), (1, .int x1), (2, .int x2), (3, .int x3), (4, .int x4), (5, .int x5)]) : W p l e rc_X7_at s m args below meth c H locs 0 0 (MQ below (va_Ql Q (cB D y ad X A) A) args s 0 0 A) (F0 m 0 ls []) := by
  obtain ⟨hx, hb, hr, hml, hown, hts, hlk, hK, hA, hTs, hNw⟩ := id C
  have hinX7 : ∀ w ∈ wsX70, w ∈ wsX7_at := fun _ h => List.mem_cons_of_mem _ (List.mem_append_left _ (List.mem_append_right _ h))
  unfold v_X7_at at hw
  refine lv_iload_n hx hb dX7_at_0 rfl (lv_at hl 2 rfl) ?_
  refine lv_iload_n hx hb dX7_at_1 rfl (lv_at hl 3 rfl) ?_
  refine cx_cis C hO (cc_X7_isLetter l D y ad t X σ x2 x3 _ hw) (va_cwS 2 hts gX7_at_X7_isLetter rfl rfl rfl (by decide +kernel) ⟨Nat.le_of_ble_eq_true rfl, Nat.le_of_ble_eq_true rfl⟩) rfl hl.1 rfl (lv_room (Nat.le_of_ble_eq_true rfl)) dX7_at_2 (fun u101 σ102 H locs hw hO => ?_)
  refine lv_if_eq (tgt := 28) hx hb dX7_at_5 (by decide) (fun hc => ?_) (fun hc => ?_)
  · have hw := hw.1 hc
    exact kc_X7_at_28 C σ102 hw H locs ls hO (lv_sub hl [0] rfl)
  · have hw := hw.2 hc
    refine lv_iload hx hb dX7_at_8 (lv_at hl 4 rfl) ?_
    refine lv_iconst (v := 0) hx hb dX7_at_10 (by decide) ?_
    refine lv_iconst (v := 1) hx hb dX7_at_11 (by decide) ?_
    refine cx_cis C hO (cc_X7_within l D y ad t X σ102 x4 (0 : Int32) (1 : Int32) _ hw) (va_cwS 3 hts gX7_at_X7_within rfl rfl rfl (by decide +kernel) ⟨Nat.le_of_ble_eq_true rfl, Nat.le_of_ble_eq_true rfl⟩) rfl hl.1 rfl (lv_room (Nat.le_of_ble_eq_true rfl)) dX7_at_12 (fun u103 σ104 H locs hw hO => ?_)
    refine lv_if_eq (tgt := 28) hx hb dX7_at_15 (by decide) (fun hc => ?_) (fun hc => ?_)
    · have hw := hw.1 hc
      exact kc_X7_at_28 C σ104 hw H locs ls hO (lv_sub hl [0] rfl)
    · have hw := hw.2 hc
      refine lv_iload hx hb dX7_at_18 (lv_at hl 5 rfl) ?_
      refine lv_iconst (v := 0) hx hb dX7_at_20 (by decide) ?_
      refine lv_iconst (v := 1) hx hb dX7_at_21 (by decide) ?_
      refine cx_cis C hO (cc_X7_within l D y ad t X σ104 x5 (0 : Int32) (1 : Int32) _ hw) (va_cwS 3 hts gX7_at_X7_within rfl rfl rfl (by decide +kernel) ⟨Nat.le_of_ble_eq_true rfl, Nat.le_of_ble_eq_true rfl⟩) rfl hl.1 rfl (lv_room (Nat.le_of_ble_eq_true rfl)) dX7_at_22 (fun u105 σ106 H locs hw hO => ?_)
      refine lv_if_ne (tgt := 32) hx hb dX7_at_25 (by decide) (fun hc => ?_) (fun hc => ?_)
      · have hw := hw.1 hc
        refine lv_aload_n hx hb dX7_at_32 rfl (lv_at hl 0 rfl) ?_
        refine lv_iload_n hx hb dX7_at_33 rfl (lv_at hl 1 rfl) ?_
        refine cx_civ C hO (cc_X7_missing l D y ad t X σ106 x1 _ hw) (by decide) rfl rfl (cwV 1 hts gX7_at_X7_missing rfl rfl rfl (by decide +kernel) ⟨Nat.le_of_ble_eq_true rfl, Nat.le_of_ble_eq_true rfl⟩) rfl hl.1 rfl (lv_room (Nat.le_of_ble_eq_true rfl)) dX7_at_34 (fun u107 σ108 H locs hw hO => ?_)
        refine lv_istore (lv' := [(6, .int u107), (0, .ref (ad 0)), (1, .int x1), (2, .int x2), (3, .int x3), (4, .int x4), (5, .int x5)]) hx hb dX7_at_37 hl (by decide) rfl (fun ls hl => ?_)
        refine lv_iload hx hb dX7_at_39 (lv_at hl 0 rfl) ?_
        refine lv_if_eq (tgt := 52) hx hb dX7_at_41 (by decide) (fun hc => ?_) (fun hc => ?_)
        · have hw := hw.1 hc
          refine lv_aload_n hx hb dX7_at_52 rfl (lv_at hl 1 rfl) ?_
          refine cx_get C hO (by decide) rfl rfl hinX7 1 (by decide) (idx := 18) (by decide +kernel) rfl rfl dX7_at_53 ?_
          refine lv_iload_n hx hb dX7_at_56 rfl (lv_at hl 2 rfl) ?_
          refine cx_aaL C hO hw.1 dX7_at_57 (fun o109 eo109 ho109 => ?_)
          have hw := hw.2 o109 eo109
          refine lv_iload hx hb dX7_at_58 (lv_at hl 5 rfl) ?_
          refine lv_iload_n hx hb dX7_at_60 rfl (lv_at hl 3 rfl) ?_
          refine lv_i2l hx hb dX7_at_61 rfl ?_
          refine lv_iload_n hx hb dX7_at_62 rfl (lv_at hl 4 rfl) ?_
          refine lv_i2l hx hb dX7_at_63 rfl ?_
          refine cx_clv C hO (cc_X0_value l D y ad t X σ108 o109 x4 (x2.toInt64) (x3.toInt64) ho109 _ hw) (cL_lt ho109).1 (cE_L ho109) rfl (cwV 3 hts gX7_at_X0_value rfl rfl rfl (by decide +kernel) ⟨Nat.le_of_ble_eq_true rfl, Nat.le_of_ble_eq_true rfl⟩) rfl hl.1 rfl (lv_room (Nat.le_of_ble_eq_true rfl)) dX7_at_64 (fun u110 σ111 H locs hw hO => ?_)
          refine lv_lstore (lv' := [(7, .long u110), (6, .int u107), (0, .ref (ad 0)), (1, .int x1), (2, .int x2), (3, .int x3), (4, .int x4), (5, .int x5)]) hx hb dX7_at_67 hl (by decide) rfl (fun ls hl => ?_)
          refine lv_aload_n hx hb dX7_at_69 rfl (lv_at hl 2 rfl) ?_
          refine cx_get C hO (by decide) rfl rfl hinX7 1 (by decide) (idx := 18) (by decide +kernel) rfl rfl dX7_at_70 ?_
          refine lv_iload_n hx hb dX7_at_73 rfl (lv_at hl 3 rfl) ?_
          refine cx_aaL C hO hw.1 dX7_at_74 (fun o112 eo112 ho112 => ?_)
          have hw := hw.2 o112 eo112
          refine lv_iconst (v := 2) hx hb dX7_at_75 (by decide) ?_
          refine lv_iload_n hx hb dX7_at_76 rfl (lv_at hl 4 rfl) ?_
          refine lv_i2l hx hb dX7_at_77 rfl ?_
          refine lv_iload_n hx hb dX7_at_78 rfl (lv_at hl 5 rfl) ?_
          refine lv_i2l hx hb dX7_at_79 rfl ?_
          refine cx_clv C hO (cc_X0_value l D y ad t X σ111 o112 (2 : Int32) (x2.toInt64) (x3.toInt64) ho112 _ hw) (cL_lt ho112).1 (cE_L ho112) rfl (cwV 3 hts gX7_at_X0_value rfl rfl rfl (by decide +kernel) ⟨Nat.le_of_ble_eq_true rfl, Nat.le_of_ble_eq_true rfl⟩) rfl hl.1 rfl (lv_room (Nat.le_of_ble_eq_true rfl)) dX7_at_80 (fun u113 σ114 H locs hw hO => ?_)
          refine lv_lstore (lv' := [(9, .long u113), (7, .long u110), (6, .int u107), (0, .ref (ad 0)), (1, .int x1), (2, .int x2), (3, .int x3), (4, .int x4), (5, .int x5)]) hx hb dX7_at_83 hl (by decide) rfl (fun ls hl => ?_)
          refine lv_lload hx hb dX7_at_85 (lv_at hl 1 rfl) ?_
          refine lv_lload hx hb dX7_at_87 (lv_at hl 0 rfl) ?_
          refine cx_cls C hO (cc_X6_divisor l D y ad t X σ114 u110 u113 _ hw) (va_cwS 2 hts gX7_at_X6_divisor rfl rfl rfl (by decide +kernel) ⟨Nat.le_of_ble_eq_true rfl, Nat.le_of_ble_eq_true rfl⟩) rfl hl.1 rfl (lv_room (Nat.le_of_ble_eq_true rfl)) dX7_at_89 (fun u115 σ116 H locs hw hO => ?_)
          refine lv_lstore (lv' := [(11, .long u115), (9, .long u113), (7, .long u110), (6, .int u107), (0, .ref (ad 0)), (1, .int x1), (2, .int x2), (3, .int x3), (4, .int x4), (5, .int x5)]) hx hb dX7_at_92 hl (by decide) rfl (fun ls hl => ?_)
          refine lv_lload hx hb dX7_at_94 (lv_at hl 1 rfl) ?_
          refine lv_lconst (v := 0) hx hb dX7_at_96 (by decide) ?_
          refine W.lcmp hx hb dX7_at_97 ?_
          refine lv_if_eq (tgt := 108) hx hb dX7_at_98 (by decide) (fun hc => ?_) (fun hc => ?_)
          · have hc := (lg_cmp_eq _ _).mp hc
            have hw := hw.1 hc
            exact kc_X7_at_108 C σ116 hw H locs ls hO (lv_sub hl [4] rfl)
          · have hc := (not_congr (lg_cmp_eq _ _)).mp hc
            have hw := hw.2 hc
            refine lv_lload hx hb dX7_at_101 (lv_at hl 0 rfl) ?_
            refine lv_lconst (v := 0) hx hb dX7_at_103 (by decide) ?_
            refine W.lcmp hx hb dX7_at_104 ?_
            refine lv_if_ne (tgt := 112) hx hb dX7_at_105 (by decide) (fun hc => ?_) (fun hc => ?_)
            · have hc := (not_congr (lg_cmp_eq _ _)).mp hc
              have hw := hw.1 hc
              refine lv_iload hx hb dX7_at_112 (lv_at hl 9 rfl) ?_
              refine lv_if_ne (tgt := 122) hx hb dX7_at_114 (by decide) (fun hc => ?_) (fun hc => ?_)
              · have hw := hw.1 hc
                refine lv_lload hx hb dX7_at_122 (lv_at hl 1 rfl) ?_
                exact kc_X7_at_124 C u113 u115 u113 σ116 hw H locs ls hO (lv_sub hl [4, 1, 0] rfl)
              · have hw := hw.2 hc
                refine lv_lload hx hb dX7_at_117 (lv_at hl 2 rfl) ?_
                refine lv_goto (tgt := 124) hx hb dX7_at_119 (by decide) ?_
                exact kc_X7_at_124 C u113 u115 u110 σ116 hw H locs ls hO (lv_sub hl [4, 1, 0] rfl)
            · have hc := (lg_cmp_eq _ _).mp hc
              have hw := hw.2 hc
              exact kc_X7_at_108 C σ116 hw H locs ls hO (lv_sub hl [4] rfl)
        · have hw := hw.2 hc
          refine lv_iload hx hb dX7_at_44 (lv_at hl 0 rfl) ?_
          refine lv_i2l hx hb dX7_at_46 rfl ?_
          refine lv_ldc2 (v := 1000000000000) hx hb hown (hts (.constantLong RX7 110 (1000000000000)) (by decide +kernel)) dX7_at_47 ?_
          refine lv_lsub hx hb dX7_at_50 ?_
          exact cx_lret C hO hw dX7_at_51
      · have hw := hw.2 hc
        exact kc_X7_at_28 C σ106 hw H locs ls hO (lv_sub hl [0] rfl)
theorem cc_X7_at (l : Launch) (D : va_G) (y : Nat → ClassId) (ad t : Nat → Nat) (X : va_W) (σ : cS) (x1 : Int32) (x2 : Int32) (x3 : Int32) (x4 : Int32) (x5 : Int32) (Q : Int64 → cS → Prop) (hw : v_X7_at Q x1 x2 x3 x4 x5 σ) : ∀ sz, Met l yX7_at wsX7_at rc_X7_at (va_Pc [.ref (ad 0), .int x1, .int x2, .int x3, .int x4, .int x5] (cPre D y ad t X sz σ)) (va_Ql Q (cB D y ad X (va_A (cW y ad σ ++ X) sz)) (va_A (cW y ad σ ++ X) sz)) 0 0 (va_A (cW y ad σ ++ X) sz) :=
  cMet (Qc := fun A => va_Ql Q (cB D y ad X A) A) (by decide) (own := RX7) rfl (Nat.le_of_ble_eq_true rfl) (fun p e s m args below meth c A ls C hO hl => kc_X7_at_e C x1 x2 x3 x4 x5 σ hw s.heap [] ls hO hl)
