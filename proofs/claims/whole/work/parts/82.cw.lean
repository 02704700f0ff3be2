/-! the class: what each method does, and the walk of its bytecode (written by wip/tools/cgen.py) -/
abbrev rc_X4_findForms : Room := { frames := 2, cells := 0, slots := 0, locals := 51 }
set_option maxRecDepth 100000 in
set_option maxHeartbeats 4000000 in
theorem kc_X4_findForms_82 {p : Program} {l : Launch} {e : Env} {s : State} {m : MethodId} {args : Array Value} {below : List Frame} {meth : Method} {c : Code} {D : va_G} {y : Nat → ClassId} {ad t : Nat → Nat} {X : va_W} {A : Nat → Prop} {Q : cS → Prop} (C : cC p s m args meth c cX4_findForms 3 none RX4 wsX4_findForms D y t A) {r1 : Nat} (ha_r1 : cL r1 = true) {r31 : Int32 → cS → Prop} (hr31 : ∀ (x2 : Int32) (σ : cS), r31 x2 σ → ∀ (H : Heap) (locs : List Loc) (ls : Array Slot), cO D y ad X A s.heap H locs σ → lv_has ls 3 [(0, .ref (ad 9)), (2, .int x2)] → W p l e rc_X4_findForms s m args below meth c H locs 0 0 (MQ below (va_Qv Q (cB D y ad X A) A) args s 0 0 A) (F0 m 31 ls [])) (x2 : Int32) (z1 : Int32) (z2 : Int64) (σ : cS) (hw : v_X4_findForms_82 Q r1 r31 x2 z1 z2 σ) (H : Heap) (locs : List Loc) (ls : Array Slot) (hO : cO D y ad X A s.heap H locs σ) (hl : lv_has ls 3 [(0, .ref (ad 9)), (2, .int x2)]) : W p l e rc_X4_findForms s m args below meth c H locs 0 0 (MQ below (va_Qv Q (cB D y ad X A) A) args s 0 0 A) (F0 m 82 ls [.long z2, .int z1, .ref (ad 10)]) := by
  obtain ⟨hx, hb, hr, hml, hown, hts, hlk, hK, hA, hTs, hNw⟩ := id C
  unfold v_X4_findForms_82 at hw
  refine cx_last C hO (a := 10) rfl hw.1 dX4_findForms_82 (fun H locs σ101 eσ101 hO => ?_)
  have hw := hw.2 σ101 eσ101
  obtain ⟨x2_102, ex2_102⟩ : ∃ y : Int32, y = x2 + 1 := ⟨_, rfl⟩
  have hw := hw x2_102 ex2_102
  refine lv_iinc (v := x2_102) (lv' := [(2, .int x2_102), (0, .ref (ad 9))]) hx hb dX4_findForms_83 hl (k := 1) rfl (by rw [ex2_102]; rfl) (by decide) rfl (fun ls hl => ?_)
  refine lv_goto (tgt := 31) hx hb dX4_findForms_86 (by decide) ?_
  exact hr31 x2_102 σ101 hw H locs ls hO (lv_sub hl [1, 0] rfl)
set_option maxRecDepth 100000 in
set_option maxHeartbeats 4000000 in
theorem kc_X4_findForms_31 {p : Program} {l : Launch} {e : Env} {s : State} {m : MethodId} {args : Array Value} {below : List Frame} {meth : Method} {c : Code} {D : va_G} {y : Nat → ClassId} {ad t : Nat → Nat} {X : va_W} {A : Nat → Prop} {Q : cS → Prop} (C : cC p s m args meth c cX4_findForms 3 none RX4 wsX4_findForms D y t A) {r1 : Nat} (ha_r1 : cL r1 = true) (n : Nat) : ∀ (x2 : Int32) (σ : cS), v_X4_findForms_31 Q r1 n x2 σ → ∀ (H : Heap) (locs : List Loc) (ls : Array Slot), cO D y ad X A s.heap H locs σ → lv_has ls 3 [(0, .ref (ad 9)), (2, .int x2)] → W p l e rc_X4_findForms s m args below meth c H locs 0 0 (MQ below (va_Qv Q (cB D y ad X A) A) args s 0 0 A) (F0 m 31 ls []) := by
  obtain ⟨hx, hb, hr, hml, hown, hts, hlk, hK, hA, hTs, hNw⟩ := id C
  have hinX4 : ∀ w ∈ wsX40, w ∈ wsX4_findForms := fun _ h => List.mem_cons_of_mem _ (List.mem_append_left _ (List.mem_append_right _ h))
  induction n with
  | zero =>
    intro x2 σ hw
    exact (show False from hw).elim
  | succ n ih =>
    intro x2 σ hw H locs ls hO hl
    unfold v_X4_findForms_31 at hw
    refine lv_iload_n hx hb dX4_findForms_31 rfl (lv_at hl 1 rfl) ?_
    refine lv_iconst (v := 3) hx hb dX4_findForms_32 (by decide) ?_
    refine lv_icmp_ge (tgt := 89) hx hb dX4_findForms_33 (by decide) (fun hc => ?_) (fun hc => ?_)
    · have hw := hw.1 hc
      exact cx_vret C hO hw dX4_findForms_89
    · have hw := hw.2 hc
      refine lv_aload_n hx hb dX4_findForms_36 rfl (lv_at hl 0 rfl) ?_
      refine cx_get C hO (by decide) rfl rfl hinX4 0 (by decide) (idx := 9) (by decide +kernel) rfl rfl dX4_findForms_37 ?_
      refine lv_bipush (v := 18) hx hb dX4_findForms_40 (by decide) ?_
      refine lv_iload_n hx hb dX4_findForms_42 rfl (lv_at hl 1 rfl) ?_
      refine lv_iadd hx hb dX4_findForms_43 ?_
      refine lv_aload_n hx hb dX4_findForms_44 rfl (lv_at hl 0 rfl) ?_
      refine cx_get C hO (by decide) rfl rfl hinX4 0 (by decide) (idx := 9) (by decide +kernel) rfl rfl dX4_findForms_45 ?_
      refine lv_bipush (v := 6) hx hb dX4_findForms_48 (by decide) ?_
      refine lv_iload_n hx hb dX4_findForms_50 rfl (lv_at hl 1 rfl) ?_
      refine lv_iadd hx hb dX4_findForms_51 ?_
      refine cx_lald C hO (a := 10) rfl hw.1 dX4_findForms_52 ?_
      have hw := hw.2
      refine lv_aload_n hx hb dX4_findForms_53 rfl (lv_at hl 0 rfl) ?_
      refine cx_get C hO (by decide) rfl rfl hinX4 0 (by decide) (idx := 9) (by decide +kernel) rfl rfl dX4_findForms_54 ?_
      refine lv_bipush (v := 9) hx hb dX4_findForms_57 (by decide) ?_
      refine lv_iload_n hx hb dX4_findForms_59 rfl (lv_at hl 1 rfl) ?_
      refine lv_iadd hx hb dX4_findForms_60 ?_
      refine cx_lald C hO (a := 10) rfl hw.1 dX4_findForms_61 ?_
      have hw := hw.2
      refine lv_ladd hx hb dX4_findForms_62 ?_
      refine cx_last C hO (a := 10) rfl hw.1 dX4_findForms_63 (fun H locs σ101 eσ101 hO => ?_)
      have hw := hw.2 σ101 eσ101
      refine lv_aload_n hx hb dX4_findForms_64 rfl (lv_at hl 0 rfl) ?_
      refine cx_get C hO (by decide) rfl rfl hinX4 0 (by decide) (idx := 9) (by decide +kernel) rfl rfl dX4_findForms_65 ?_
      refine lv_bipush (v := 21) hx hb dX4_findForms_68 (by decide) ?_
      refine lv_iload_n hx hb dX4_findForms_70 rfl (lv_at hl 1 rfl) ?_
      refine lv_iadd hx hb dX4_findForms_71 ?_
      refine lv_iload_n hx hb dX4_findForms_72 rfl (lv_at hl 1 rfl) ?_
      refine lv_iconst (v := 2) hx hb dX4_findForms_73 (by decide) ?_
      refine lv_icmp_ne (tgt := 81) hx hb dX4_findForms_74 (by decide) (fun hc => ?_) (fun hc => ?_)
      · have hw := hw.1 hc
        refine lv_lconst (v := 0) hx hb dX4_findForms_81 (by decide) ?_
        exact kc_X4_findForms_82 C ha_r1 ih x2 ((21 : Int32) + x2) ((0 : Int64)) σ101 hw H locs ls hO (lv_sub hl [0, 1] rfl)
      · have hw := hw.2 hc
        refine lv_lconst (v := 1) hx hb dX4_findForms_77 (by decide) ?_
        refine lv_goto (tgt := 82) hx hb dX4_findForms_78 (by decide) ?_
        exact kc_X4_findForms_82 C ha_r1 ih x2 ((21 : Int32) + x2) ((1 : Int64)) σ101 hw H locs ls hO (lv_sub hl [0, 1] rfl)
set_option maxRecDepth 100000 in
set_option maxHeartbeats 4000000 in
theorem kc_X4_findForms_2 {p : Program} {l : Launch} {e : Env} {s : State} {m : MethodId} {args : Array Value} {below : List Frame} {meth : Method} {c : Code} {D : va_G} {y : Nat → ClassId} {ad t : Nat → Nat} {X : va_W} {A : Nat → Prop} {Q : cS → Prop} (C : cC p s m args meth c cX4_findForms 3 none RX4 wsX4_findForms D y t A) {r1 : Nat} (ha_r1 : cL r1 = true) (n : Nat) : ∀ (x2 : Int32) (σ : cS), v_X4_findForms_2 Q r1 n x2 σ → ∀ (H : Heap) (locs : List Loc) (ls : Array Slot), cO D y ad X A s.heap H locs σ → lv_has ls 3 [(0, .ref (ad 9)), (1, .ref (ad r1)), (2, .int x2)] → W p l e rc_X4_findForms s m args below meth c H locs 0 0 (MQ below (va_Qv Q (cB D y ad X A) A) args s 0 0 A) (F0 m 2 ls []) := by
  obtain ⟨hx, hb, hr, hml, hown, hts, hlk, hK, hA, hTs, hNw⟩ := id C
  induction n with
  | zero =>
    intro x2 σ hw
    exact (show False from hw).elim
  | succ n ih =>
    intro x2 σ hw H locs ls hO hl
    unfold v_X4_findForms_2 at hw
    refine lv_iload_n hx hb dX4_findForms_2 rfl (lv_at hl 2 rfl) ?_
    refine lv_iconst (v := 5) hx hb dX4_findForms_3 (by decide) ?_
    refine lv_icmp_gt (tgt := 29) hx hb dX4_findForms_4 (by decide) (fun hc => ?_) (fun hc => ?_)
    · have hw := hw.1 hc
      refine lv_iconst (v := 0) hx hb dX4_findForms_29 (by decide) ?_
      refine lv_istore_n (lv' := [(2, .int ((0 : Int32))), (0, .ref (ad 9)), (1, .ref (ad r1))]) hx hb dX4_findForms_30 rfl hl (by decide) rfl (fun ls hl => ?_)
      exact kc_X4_findForms_31 C ha_r1 fuL ((0 : Int32)) σ hw H locs ls hO (lv_sub hl [1, 0] rfl)
    · have hw := hw.2 hc
      refine lv_aload_n hx hb dX4_findForms_7 rfl (lv_at hl 0 rfl) ?_
      refine lv_aload_n hx hb dX4_findForms_8 rfl (lv_at hl 1 rfl) ?_
      refine lv_iload_n hx hb dX4_findForms_9 rfl (lv_at hl 2 rfl) ?_
      refine cx_gets C hO hTs.2.1 (idx := 100) (by decide +kernel) rfl dX4_findForms_10 ?_
      refine lv_iload_n hx hb dX4_findForms_13 rfl (lv_at hl 2 rfl) ?_
      refine cx_ti C hO hTs.2.1 hw.1 dX4_findForms_14 ?_
      have hw := hw.2
      refine cx_gets C hO hTs.2.2.1 (idx := 104) (by decide +kernel) rfl dX4_findForms_15 ?_
      refine lv_iload_n hx hb dX4_findForms_18 rfl (lv_at hl 2 rfl) ?_
      refine cx_ti C hO hTs.2.2.1 hw.1 dX4_findForms_19 ?_
      have hw := hw.2
      refine cx_cvv C hO (cc_X4_findForm l D y ad t X σ r1 x2 (tLEFT (x2).toNatClampNeg) (tRIGHT (x2).toNatClampNeg) ha_r1 _ hw) (by decide) rfl rfl (cwV 4 hts gX4_findForms_X4_findForm rfl rfl rfl (by decide +kernel) ⟨Nat.le_of_ble_eq_true rfl, Nat.le_of_ble_eq_true rfl⟩) rfl hl.1 rfl (lv_room (Nat.le_of_ble_eq_true rfl)) dX4_findForms_20 (fun σ102 H locs hw hO => ?_)
      obtain ⟨x2_103, ex2_103⟩ : ∃ y : Int32, y = x2 + 1 := ⟨_, rfl⟩
      have hw := hw x2_103 ex2_103
      refine lv_iinc (v := x2_103) (lv' := [(2, .int x2_103), (0, .ref (ad 9)), (1, .ref (ad r1))]) hx hb dX4_findForms_23 hl (k := 2) rfl (by rw [ex2_103]; rfl) (by decide) rfl (fun ls hl => ?_)
      refine lv_goto (tgt := 2) hx hb dX4_findForms_26 (by decide) ?_
      exact ih x2_103 σ102 hw H locs ls hO (lv_sub hl [1, 2, 0] rfl)
set_option maxRecDepth 100000 in
set_option maxHeartbeats 4000000 in
theorem kc_X4_findForms_e {p : Program} {l : Launch} {e : Env} {s : State} {m : MethodId} {args : Array Value} {below : List Frame} {meth : Method} {c : Code} {D : va_G} {y : Nat → ClassId} {ad t : Nat → Nat} {X : va_W} {A : Nat → Prop} {Q : cS → Prop} (C : cC p s m args meth c cX4_findForms 3 none RX4 wsX4_findForms D y t A) {r1 : Nat} (ha_r1 : cL r1 = true)  (σ : cS) (hw : v_X4_findForms Q r1 σ) (H : Heap) (locs : List Loc) (ls : Array Slot) (hO : cO D y ad X A s.heap H locs σ) (hl : lv_has ls 3 [(0, .ref (ad 9)), (1, .ref (ad r1))]) : W p l e rc_X4_findForms s m args below meth c H locs 0 0 (MQ below (va_Qv Q (cB D y ad X A) A) args s 0 0 A) (F0 m 0 ls []) := by
  obtain ⟨hx, hb, hr, hml, hown, hts, hlk, hK, hA, hTs, hNw⟩ := id C
  unfold v_X4_findForms at hw
  refine lv_iconst (v := 0) hx hb dX4_findForms_0 (by decide) ?_
  refine lv_istore_n (lv' := [(2, .int ((0 : Int32))), (0, .ref (ad 9)), (1, .ref (ad r1))]) hx hb dX4_findForms_1 rfl hl (by decide) rfl (fun ls hl => ?_)
  exact kc_X4_findForms_2 C ha_r1 fuL ((0 : Int32)) σ hw H locs ls hO (lv_sub hl [1, 2, 0] rfl)
theorem cc_X4_findForms (l : Launch) (D : va_G) (y : Nat → ClassId) (ad t : Nat → Nat) (X : va_W) (σ : cS) (r1 : Nat) (ha_r1 : cL r1 = true) (Q : cS → Prop) (hw : v_X4_findForms Q r1 σ) : ∀ sz, Met l yX4_findForms wsX4_findForms rc_X4_findForms (va_Pc [.ref (ad 9), .ref (ad r1)] (cPre D y ad t X sz σ)) (va_Qv Q (cB D y ad X (va_A (cW y ad σ ++ X) sz)) (va_A (cW y ad σ ++ X) sz)) 0 0 (va_A (cW y ad σ ++ X) sz) :=
  cMet (Qc := fun A => va_Qv Q (cB D y ad X A) A) (by decide) (own := RX4) rfl (Nat.le_of_ble_eq_true rfl) (fun p e s m args below meth c A ls C hO hl => kc_X4_findForms_e C ha_r1 σ hw s.heap [] ls hO hl)
abbrev rc_X4_formAt : Room := { frames := 2, cells := 0, slots := 0, locals := 49 }
set_option maxRecDepth 100000 in
set_option maxHeartbeats 4000000 in
theorem kc_X4_formAt_e {p : Program} {l : Launch} {e : Env} {s : State} {m : MethodId} {args : Array Value} {below : List Frame} {meth : Method} {c : Code} {D : va_G} {y : Nat → ClassId} {ad t : Nat → Nat} {X : va_W} {A : Nat → Prop} {Q : Int64 → cS → Prop} (C : cC p s m args meth c cX4_formAt 4 (some .long) RX4 wsX4_formAt D y t A) {r2 : Nat} (ha_r2 : cL r2 = true) (x1 : Int32) (x3 : Int32) (σ : cS) (hw : v_X4_formAt Q x1 r2 x3 σ) (H : Heap) (locs : List Loc) (ls : Array Slot) (hO : cO D y ad X A s.heap H locs σ) (hl : lv_has ls 4 [(0, .ref (ad 9)), (1, .int x1), (2, .ref (ad r2)), (3, .int x3)]) : W p l e rc_X4_formAt s m args below meth c H locs 0 0 (MQ below (va_Ql Q (cB D y ad X A) A) args s 0 0 A) (F0 m 0 ls []) := by
  obtain ⟨hx, hb, hr, hml, hown, hts, hlk, hK, hA, hTs, hNw⟩ := id C
  have hinX4 : ∀ w ∈ wsX40, w ∈ wsX4_formAt := fun _ h => List.mem_cons_of_mem _ (List.mem_append_left _ (List.mem_append_right _ h))
  unfold v_X4_formAt at hw
  refine lv_aload_n hx hb dX4_formAt_0 rfl (lv_at hl 2 rfl) ?_
  refine lv_aload_n hx hb dX4_formAt_1 rfl (lv_at hl 0 rfl) ?_
  refine cx_get C hO (by decide) rfl rfl hinX4 0 (by decide) (idx := 9) (by decide +kernel) rfl rfl dX4_formAt_2 ?_
  refine lv_iconst (v := 3) hx hb dX4_formAt_5 (by decide) ?_
  refine lv_iload_n hx hb dX4_formAt_6 rfl (lv_at hl 1 rfl) ?_
  refine lv_imul hx hb dX4_formAt_7 ?_
  refine cx_lald C hO (a := 10) rfl hw.1 dX4_formAt_8 ?_
  have hw := hw.2
  refine lv_aload_n hx hb dX4_formAt_9 rfl (lv_at hl 0 rfl) ?_
  refine cx_get C hO (by decide) rfl rfl hinX4 0 (by decide) (idx := 9) (by decide +kernel) rfl rfl dX4_formAt_10 ?_
  refine lv_iconst (v := 3) hx hb dX4_formAt_13 (by decide) ?_
  refine lv_iload_n hx hb dX4_formAt_14 rfl (lv_at hl 1 rfl) ?_
  refine lv_imul hx hb dX4_formAt_15 ?_
  refine lv_iconst (v := 1) hx hb dX4_formAt_16 (by decide) ?_
  refine lv_iadd hx hb dX4_formAt_17 ?_
  refine cx_lald C hO (a := 10) rfl hw.1 dX4_formAt_18 ?_
  have hw := hw.2
  refine lv_aload_n hx hb dX4_formAt_19 rfl (lv_at hl 0 rfl) ?_
  refine cx_get C hO (by decide) rfl rfl hinX4 0 (by decide) (idx := 9) (by decide +kernel) rfl rfl dX4_formAt_20 ?_
  refine lv_iconst (v := 3) hx hb dX4_formAt_23 (by decide) ?_
  refine lv_iload_n hx hb dX4_formAt_24 rfl (lv_at hl 1 rfl) ?_
  refine lv_imul hx hb dX4_formAt_25 ?_
  refine lv_iconst (v := 2) hx hb dX4_formAt_26 (by decide) ?_
  refine lv_iadd hx hb dX4_formAt_27 ?_
  refine cx_lald C hO (a := 10) rfl hw.1 dX4_formAt_28 ?_
  have hw := hw.2
  refine lv_iload_n hx hb dX4_formAt_29 rfl (lv_at hl 3 rfl) ?_
  refine cx_clv C hO (cc_X0_combined l D y ad t X σ r2 (σ.1 10 ((3 : Int32) * x1).toNatClampNeg) (σ.1 10 (((3 : Int32) * x1) + (1 : Int32)).toNatClampNeg) (σ.1 10 (((3 : Int32) * x1) + (2 : Int32)).toNatClampNeg) x3 ha_r2 _ hw) (cL_lt ha_r2).1 (cE_L ha_r2) rfl (cwV 4 hts gX4_formAt_X0_combined rfl rfl rfl (by decide +kernel) ⟨Nat.le_of_ble_eq_true rfl, Nat.le_of_ble_eq_true rfl⟩) rfl hl.1 rfl (lv_room (Nat.le_of_ble_eq_true rfl)) dX4_formAt_30 (fun u101 σ102 H locs hw hO => ?_)
  exact cx_lret C hO hw dX4_formAt_33
theorem cc_X4_formAt (l : Launch) (D : va_G) (y : Nat → ClassId) (ad t : Nat → Nat) (X : va_W) (σ : cS) (x1 : Int32) (r2 : Nat) (x3 : Int32) (ha_r2 : cL r2 = true) (Q : Int64 → cS → Prop) (hw : v_X4_formAt Q x1 r2 x3 σ) : ∀ sz, Met l yX4_formAt wsX4_formAt rc_X4_formAt (va_Pc [.ref (ad 9), .int x1, .ref (ad r2), .int x3] (cPre D y ad t X sz σ)) (va_Ql Q (cB D y ad X (va_A (cW y ad σ ++ X) sz)) (va_A (cW y ad σ ++ X) sz)) 0 0 (va_A (cW y ad σ ++ X) sz) :=
  cMet (Qc := fun A => va_Ql Q (cB D y ad X A) A) (by decide) (own := RX4) rfl (Nat.le_of_ble_eq_true rfl) (fun p e s m args below meth c A ls C hO hl => kc_X4_formAt_e C ha_r2 x1 x3 σ hw s.heap [] ls hO hl)
abbrev rc_X4_findRelation : Room := { frames := 3, cells := 0, slots := 0, locals := 72 }
set_option maxRecDepth 100000 in
set_option maxHeartbeats 4000000 in
theorem kc_X4_findRelation_e {p : Program} {l : Launch} {e : Env} {s : State} {m : MethodId} {args : Array Value} {below : List Frame} {meth : Method} {c : Code} {D : va_G} {y : Nat → ClassId} {ad t : Nat → Nat} {X : va_W} {A : Nat → Prop} {Q : cS → Prop} (C : cC p s m args meth c cX4_findRelation 2 none RX4 wsX4_findRelation D y t A) {r1 : Nat} (ha_r1 : cL r1 = true)  (σ : cS) (hw : v_X4_findRelation Q r1 σ) (H : Heap) (locs : List Loc) (ls : Array Slot) (hO : cO D y ad X A s.heap H locs σ) (hl : lv_has ls 2 [(0, .ref (ad 9)), (1, .ref (ad r1))]) : W p l e rc_X4_findRelation s m args below meth c H locs 0 0 (MQ below (va_Qv Q (cB D y ad X A) A) args s 0 0 A) (F0 m 0 ls []) := by
  obtain ⟨hx, hb, hr, hml, hown, hts, hlk, hK, hA, hTs, hNw⟩ := id C
  have hinX4 : ∀ w ∈ wsX40, w ∈ wsX4_findRelation := fun _ h => List.mem_cons_of_mem _ (List.mem_append_left _ (List.mem_append_right _ h))
  unfold v_X4_findRelation at hw
  refine lv_aload_n hx hb dX4_findRelation_0 rfl (lv_at hl 0 rfl) ?_
  refine cx_get C hO (by decide) rfl rfl hinX4 4 (by decide) (idx := 24) (by decide +kernel) rfl rfl dX4_findRelation_1 ?_
  refine lv_iconst (v := 0) hx hb dX4_findRelation_4 (by decide) ?_
  refine lv_aload_n hx hb dX4_findRelation_5 rfl (lv_at hl 0 rfl) ?_
  refine lv_iconst (v := 5) hx hb dX4_findRelation_6 (by decide) ?_
  refine lv_aload_n hx hb dX4_findRelation_7 rfl (lv_at hl 1 rfl) ?_
  refine lv_iconst (v := 1) hx hb dX4_findRelation_8 (by decide) ?_
  refine cx_clv C hO (cc_X4_formAt l D y ad t X σ (5 : Int32) r1 (1 : Int32) ha_r1 _ hw) (by decide) rfl rfl (cwV 3 hts gX4_findRelation_X4_formAt rfl rfl rfl (by decide +kernel) ⟨Nat.le_of_ble_eq_true rfl, Nat.le_of_ble_eq_true rfl⟩) rfl hl.1 rfl (lv_room (Nat.le_of_ble_eq_true rfl)) dX4_findRelation_9 (fun u101 σ102 H locs hw hO => ?_)
  refine cx_last C hO (a := 14) rfl hw.1 dX4_findRelation_12 (fun H locs σ103 eσ103 hO => ?_)
  have hw := hw.2 σ103 eσ103
  refine lv_aload_n hx hb dX4_findRelation_13 rfl (lv_at hl 0 rfl) ?_
  refine cx_get C hO (by decide) rfl rfl hinX4 4 (by decide) (idx := 24) (by decide +kernel) rfl rfl dX4_findRelation_14 ?_
  refine lv_iconst (v := 1) hx hb dX4_findRelation_17 (by decide) ?_
  refine lv_aload_n hx hb dX4_findRelation_18 rfl (lv_at hl 0 rfl) ?_
  refine lv_iconst (v := 5) hx hb dX4_findRelation_19 (by decide) ?_
  refine lv_aload_n hx hb dX4_findRelation_20 rfl (lv_at hl 1 rfl) ?_
  refine lv_iconst (v := 0) hx hb dX4_findRelation_21 (by decide) ?_
  refine cx_clv C hO (cc_X4_formAt l D y ad t X σ103 (5 : Int32) r1 (0 : Int32) ha_r1 _ hw) (by decide) rfl rfl (cwV 3 hts gX4_findRelation_X4_formAt rfl rfl rfl (by decide +kernel) ⟨Nat.le_of_ble_eq_true rfl, Nat.le_of_ble_eq_true rfl⟩) rfl hl.1 rfl (lv_room (Nat.le_of_ble_eq_true rfl)) dX4_findRelation_22 (fun u104 σ105 H locs hw hO => ?_)
  refine lv_lneg hx hb dX4_findRelation_25 ?_
  refine cx_last C hO (a := 14) rfl hw.1 dX4_findRelation_26 (fun H locs σ106 eσ106 hO => ?_)
  have hw := hw.2 σ106 eσ106
  refine lv_aload_n hx hb dX4_findRelation_27 rfl (lv_at hl 0 rfl) ?_
  refine cx_get C hO (by decide) rfl rfl hinX4 4 (by decide) (idx := 24) (by decide +kernel) rfl rfl dX4_findRelation_28 ?_
  refine lv_iconst (v := 2) hx hb dX4_findRelation_31 (by decide) ?_
  refine lv_aload_n hx hb dX4_findRelation_32 rfl (lv_at hl 0 rfl) ?_
  refine lv_iconst (v := 4) hx hb dX4_findRelation_33 (by decide) ?_
  refine lv_aload_n hx hb dX4_findRelation_34 rfl (lv_at hl 1 rfl) ?_
  refine lv_iconst (v := 0) hx hb dX4_findRelation_35 (by decide) ?_
  refine cx_clv C hO (cc_X4_formAt l D y ad t X σ106 (4 : Int32) r1 (0 : Int32) ha_r1 _ hw) (by decide) rfl rfl (cwV 3 hts gX4_findRelation_X4_formAt rfl rfl rfl (by decide +kernel) ⟨Nat.le_of_ble_eq_true rfl, Nat.le_of_ble_eq_true rfl⟩) rfl hl.1 rfl (lv_room (Nat.le_of_ble_eq_true rfl)) dX4_findRelation_36 (fun u107 σ108 H locs hw hO => ?_)
  refine cx_last C hO (a := 14) rfl hw.1 dX4_findRelation_39 (fun H locs σ109 eσ109 hO => ?_)
  have hw := hw.2 σ109 eσ109
  refine lv_aload_n hx hb dX4_findRelation_40 rfl (lv_at hl 0 rfl) ?_
  refine cx_get C hO (by decide) rfl rfl hinX4 4 (by decide) (idx := 24) (by decide +kernel) rfl rfl dX4_findRelation_41 ?_
  refine lv_iconst (v := 3) hx hb dX4_findRelation_44 (by decide) ?_
  refine lv_aload_n hx hb dX4_findRelation_45 rfl (lv_at hl 0 rfl) ?_
  refine lv_iconst (v := 3) hx hb dX4_findRelation_46 (by decide) ?_
  refine lv_aload_n hx hb dX4_findRelation_47 rfl (lv_at hl 1 rfl) ?_
  refine lv_iconst (v := 0) hx hb dX4_findRelation_48 (by decide) ?_
  refine cx_clv C hO (cc_X4_formAt l D y ad t X σ109 (3 : Int32) r1 (0 : Int32) ha_r1 _ hw) (by decide) rfl rfl (cwV 3 hts gX4_findRelation_X4_formAt rfl rfl rfl (by decide +kernel) ⟨Nat.le_of_ble_eq_true rfl, Nat.le_of_ble_eq_true rfl⟩) rfl hl.1 rfl (lv_room (Nat.le_of_ble_eq_true rfl)) dX4_findRelation_49 (fun u110 σ111 H locs hw hO => ?_)
  refine lv_lneg hx hb dX4_findRelation_52 ?_
  refine cx_last C hO (a := 14) rfl hw.1 dX4_findRelation_53 (fun H locs σ112 eσ112 hO => ?_)
  have hw := hw.2 σ112 eσ112
  exact cx_vret C hO hw dX4_findRelation_54
theorem cc_X4_findRelation (l : Launch) (D : va_G) (y : Nat → ClassId) (ad t : Nat → Nat) (X : va_W) (σ : cS) (r1 : Nat) (ha_r1 : cL r1 = true) (Q : cS → Prop) (hw : v_X4_findRelation Q r1 σ) : ∀ sz, Met l yX4_findRelation wsX4_findRelation rc_X4_findRelation (va_Pc [.ref (ad 9), .ref (ad r1)] (cPre D y ad t X sz σ)) (va_Qv Q (cB D y ad X (va_A (cW y ad σ ++ X) sz)) (va_A (cW y ad σ ++ X) sz)) 0 0 (va_A (cW y ad σ ++ X) sz) :=
  cMet (Qc := fun A => va_Qv Q (cB D y ad X A) A) (by decide) (own := RX4) rfl (Nat.le_of_ble_eq_true rfl) (fun p e s m args below meth c A ls C hO hl => kc_X4_findRelation_e C ha_r1 σ hw s.heap [] ls hO hl)
abbrev rc_X6_first : Room := { frames := 0, cells := 0, slots := 0, locals := 0 }
set_option maxRecDepth 100000 in
set_option maxHeartbeats 4000000 in
theorem kc_X6_first_2 {p : Program} {l : Launch} {e : Env} {s : State} {m : MethodId} {args : Array Value} {below : List Frame} {meth : Method} {c : Code} {D : va_G} {y : Nat → ClassId} {ad t : Nat → Nat} {X : va_W} {A : Nat → Prop} {Q : Int32 → cS → Prop} (C : cC p s m args meth c cX6_first 2 (some .int) RX6 wsX6_first D y t A) {r0 : Nat} (ha_r0 : cJ r0 = true) (n : Nat) : ∀ (x1 : Int32) (σ : cS), v_X6_first_2 Q r0 n x1 σ → ∀ (H : Heap) (locs : List Loc) (ls : Array Slot), cO D y ad X A s.heap H locs σ → lv_has ls 2 [(0, .ref (ad r0)), (1, .int x1)] → W p l e rc_X6_first s m args below meth c H locs 0 0 (MQ below (va_Qi Q (cB D y ad X A) A) args s 0 0 A) (F0 m 2 ls []) := by
  obtain ⟨hx, hb, hr, hml, hown, hts, hlk, hK, hA, hTs, hNw⟩ := id C
  induction n with
  | zero =>
    intro x1 σ hw
    exact (show False from hw).elim
  | succ n ih =>
    intro x1 σ hw H locs ls hO hl
    unfold v_X6_first_2 at hw
    refine lv_iload_n hx hb dX6_first_2 rfl (lv_at hl 1 rfl) ?_
    refine lv_aload_n hx hb dX6_first_3 rfl (lv_at hl 0 rfl) ?_
    refine cx_alen C hO (a := r0) ha_r0 dX6_first_4 ?_
    refine lv_icmp_ge (tgt := 24) hx hb dX6_first_5 (by decide) (fun hc => ?_) (fun hc => ?_)
    · have hw := hw.1 hc
      refine lv_iconst (v := -1) hx hb dX6_first_24 (by decide) ?_
      exact cx_iret C hO hw dX6_first_25
    · have hw := hw.2 hc
      refine lv_aload_n hx hb dX6_first_8 rfl (lv_at hl 0 rfl) ?_
      refine lv_iload_n hx hb dX6_first_9 rfl (lv_at hl 1 rfl) ?_
      refine cx_lald C hO (a := r0) ha_r0 hw.1 dX6_first_10 ?_
      have hw := hw.2
      refine lv_lconst (v := 0) hx hb dX6_first_11 (by decide) ?_
      refine W.lcmp hx hb dX6_first_12 ?_
      refine lv_if_eq (tgt := 18) hx hb dX6_first_13 (by decide) (fun hc => ?_) (fun hc => ?_)
      · have hc := (lg_cmp_eq _ _).mp hc
        have hw := hw.1 hc
        obtain ⟨x1_101, ex1_101⟩ : ∃ y : Int32, y = x1 + 1 := ⟨_, rfl⟩
        have hw := hw x1_101 ex1_101
        refine lv_iinc (v := x1_101) (lv' := [(1, .int x1_101), (0, .ref (ad r0))]) hx hb dX6_first_18 hl (k := 1) rfl (by rw [ex1_101]; rfl) (by decide) rfl (fun ls hl => ?_)
        refine lv_goto (tgt := 2) hx hb dX6_first_21 (by decide) ?_
        exact ih x1_101 σ hw H locs ls hO (lv_sub hl [1, 0] rfl)
      · have hc := (not_congr (lg_cmp_eq _ _)).mp hc
        have hw := hw.2 hc
        refine lv_iload_n hx hb dX6_first_16 rfl (lv_at hl 1 rfl) ?_
        exact cx_iret C hO hw dX6_first_17
set_option maxRecDepth 100000 in
set_option maxHeartbeats 4000000 in
theorem kc_X6_first_e {p : Program} {l : Launch} {e : Env} {s : State} {m : MethodId} {args : Array Value} {below : List Frame} {meth : Method} {c : Code} {D : va_G} {y : Nat → ClassId} {ad t : Nat → Nat} {X : va_W} {A : Nat → Prop} {Q : Int32 → cS → Prop} (C : cC p s m args meth c cX6_first 2 (some .int) RX6 wsX6_first D y t A) {r0 : Nat} (ha_r0 : cJ r0 = true)  (σ : cS) (hw : v_X6_first Q r0 σ) (H : Heap) (locs : List Loc) (ls : Array Slot) (hO : cO D y ad X A s.heap H locs σ) (hl : lv_has ls 2 [(0, .ref (ad r0))]) : W p l e rc_X6_first s m args below meth c H locs 0 0 (MQ below (va_Qi Q (cB D y ad X A) A) args s 0 0 A) (F0 m 0 ls []) := by
  obtain ⟨hx, hb, hr, hml, hown, hts, hlk, hK, hA, hTs, hNw⟩ := id C
  unfold v_X6_first at hw
  refine lv_iconst (v := 0) hx hb dX6_first_0 (by decide) ?_
  refine lv_istore_n (lv' := [(1, .int ((0 : Int32))), (0, .ref (ad r0))]) hx hb dX6_first_1 rfl hl (by decide) rfl (fun ls hl => ?_)
  exact kc_X6_first_2 C ha_r0 fuL ((0 : Int32)) σ hw H locs ls hO (lv_sub hl [1, 0] rfl)
theorem cc_X6_first (l : Launch) (D : va_G) (y : Nat → ClassId) (ad t : Nat → Nat) (X : va_W) (σ : cS) (r0 : Nat) (ha_r0 : cJ r0 = true) (Q : Int32 → cS → Prop) (hw : v_X6_first Q r0 σ) : ∀ sz, Met l yX6_first wsX6_first rc_X6_first (va_Pc [.ref (ad r0)] (cPre D y ad t X sz σ)) (va_Qi Q (cB D y ad X (va_A (cW y ad σ ++ X) sz)) (va_A (cW y ad σ ++ X) sz)) 0 0 (va_A (cW y ad σ ++ X) sz) :=
  cMet (Qc := fun A => va_Qi Q (cB D y ad X A) A) (by decide) (own := RX6) rfl (Nat.le_of_ble_eq_true rfl) (fun p e s m args below meth c A ls C hO hl => kc_X6_first_e C ha_r0 σ hw s.heap [] ls hO hl)
abbrev rc_X4_kindOf : Room := { frames := 1, cells := 0, slots := 0, locals := 21 }
set_option maxRecDepth 100000 in
set_option maxHeartbeats 4000000 in
theorem kc_X4_kindOf_28 {p : Program} {l : Launch} {e : Env} {s : State} {m : MethodId} {args : Array Value} {below : List Frame} {meth : Method} {c : Code} {D : va_G} {y : Nat → ClassId} {ad t : Nat → Nat} {X : va_W} {A : Nat → Prop} {Q : Int32 → cS → Prop} (C : cC p s m args meth c cX4_kindOf 2 (some .int) RX4 wsX4_kindOf D y t A) (z0 : Int32) (σ : cS) (hw : v_X4_kindOf_28 Q z0 σ) (H : Heap) (locs : List Loc) (ls : Array Slot) (hO : cO D y ad X A s.heap H locs σ) (hl : lv_has ls 2 [(0, .ref (ad 9))]) : W p l e rc_X4_kindOf s m args below meth c H locs 0 0 (MQ below (va_Qi Q (cB D y ad X A) A) args s 0 0 A) (F0 m 28 ls [.int z0]) := by
  obtain ⟨hx, hb, hr, hml, hown, hts, hlk, hK, hA, hTs, hNw⟩ := id C
  unfold v_X4_kindOf_28 at hw
  exact cx_iret C hO hw dX4_kindOf_28
set_option maxRecDepth 100000 in
set_option maxHeartbeats 4000000 in
theorem kc_X4_kindOf_e {p : Program} {l : Launch} {e : Env} {s : State} {m : MethodId} {args : Array Value} {below : List Frame} {meth : Method} {c : Code} {D : va_G} {y : Nat → ClassId} {ad t : Nat → Nat} {X : va_W} {A : Nat → Prop} {Q : Int32 → cS → Prop} (C : cC p s m args meth c cX4_kindOf 2 (some .int) RX4 wsX4_kindOf D y t A) (x1 : Int32) (σ : cS) (hw : v_X4_kindOf Q x1 σ) (H : Heap) (locs : List Loc) (ls : Array Slot) (hO : cO D y ad X A s.heap H locs σ) (hl : lv_has ls 2 [(0, .ref (ad 9)), (1, .int x1)]) : W p l e rc_X4_kindOf s m args below meth c H locs 0 0 (MQ below (va_Qi Q (cB D y ad X A) A) args s 0 0 A) (F0 m 0 ls []) := by
  obtain ⟨hx, hb, hr, hml, hown, hts, hlk, hK, hA, hTs, hNw⟩ := id C
  have hinX4 : ∀ w ∈ wsX40, w ∈ wsX4_kindOf := fun _ h => List.mem_cons_of_mem _ (List.mem_append_right _ h)
  unfold v_X4_kindOf at hw
  refine lv_iload_n hx hb dX4_kindOf_0 rfl (lv_at hl 1 rfl) ?_
  refine lv_if_ne (tgt := 6) hx hb dX4_kindOf_1 (by decide) (fun hc => ?_) (fun hc => ?_)
  · have hw := hw.1 hc
    refine lv_aload_n hx hb dX4_kindOf_6 rfl (lv_at hl 0 rfl) ?_
    refine cx_get C hO (by decide) rfl rfl hinX4 4 (by decide) (idx := 24) (by decide +kernel) rfl rfl dX4_kindOf_7 ?_
    refine cx_cis C hO (cc_X6_first l D y ad t X σ 14 rfl _ hw) (va_cwS 1 hts gX4_kindOf_X6_first rfl rfl rfl (by decide +kernel) ⟨Nat.le_of_ble_eq_true rfl, Nat.le_of_ble_eq_true rfl⟩) rfl hl.1 rfl (lv_room (Nat.le_of_ble_eq_true rfl)) dX4_kindOf_10 (fun u101 σ102 H locs hw hO => ?_)
    refine lv_if_ge (tgt := 18) hx hb dX4_kindOf_13 (by decide) (fun hc => ?_) (fun hc => ?_)
    · have hw := hw.1 hc
      refine lv_iload_n hx hb dX4_kindOf_18 rfl (lv_at hl 1 rfl) ?_
      refine lv_iconst (v := 2) hx hb dX4_kindOf_19 (by decide) ?_
      refine lv_icmp_ne (tgt := 27) hx hb dX4_kindOf_20 (by decide) (fun hc => ?_) (fun hc => ?_)
      · have hw := hw.1 hc
        refine lv_iconst (v := 3) hx hb dX4_kindOf_27 (by decide) ?_
        exact kc_X4_kindOf_28 C ((3 : Int32)) σ102 hw H locs ls hO (lv_sub hl [0] rfl)
      · have hw := hw.2 hc
        refine lv_iconst (v := 2) hx hb dX4_kindOf_23 (by decide) ?_
        refine lv_goto (tgt := 28) hx hb dX4_kindOf_24 (by decide) ?_
        exact kc_X4_kindOf_28 C ((2 : Int32)) σ102 hw H locs ls hO (lv_sub hl [0] rfl)
    · have hw := hw.2 hc
      refine lv_iconst (v := 1) hx hb dX4_kindOf_16 (by decide) ?_
      exact cx_iret C hO hw dX4_kindOf_17
  · have hw := hw.2 hc
    refine lv_iconst (v := 0) hx hb dX4_kindOf_4 (by decide) ?_
    exact cx_iret C hO hw dX4_kindOf_5
theorem cc_X4_kindOf (l : Launch) (D : va_G) (y : Nat → ClassId) (ad t : Nat → Nat) (X : va_W) (σ : cS) (x1 : Int32) (Q : Int32 → cS → Prop) (hw : v_X4_kindOf Q x1 σ) : ∀ sz, Met l yX4_kindOf wsX4_kindOf rc_X4_kindOf (va_Pc [.ref (ad 9), .int x1] (cPre D y ad t X sz σ)) (va_Qi Q (cB D y ad X (va_A (cW y ad σ ++ X) sz)) (va_A (cW y ad σ ++ X) sz)) 0 0 (va_A (cW y ad σ ++ X) sz) :=
  cMet (Qc := fun A => va_Qi Q (cB D y ad X A) A) (by decide) (own := RX4) rfl (Nat.le_of_ble_eq_true rfl) (fun p e s m args below meth c A ls C hO hl => kc_X4_kindOf_e C x1 σ hw s.heap [] ls hO hl)
abbrev rc_X4_firstForm : Room := { frames := 0, cells := 0, slots := 0, locals := 0 }
set_option maxRecDepth 100000 in
set_option maxHeartbeats 4000000 in
theorem kc_X4_firstForm_50 {p : Program} {l : Launch} {e : Env} {s : State} {m : MethodId} {args : Array Value} {below : List Frame} {meth : Method} {c : Code} {D : va_G} {y : Nat → ClassId} {ad t : Nat → Nat} {X : va_W} {A : Nat → Prop} {Q : Int32 → cS → Prop} (C : cC p s m args meth c cX4_firstForm 2 (some .int) RX4 wsX4_firstForm D y t A) {r2 : Int32 → cS → Prop} (hr2 : ∀ (x1 : Int32) (σ : cS), r2 x1 σ → ∀ (H : Heap) (locs : List Loc) (ls : Array Slot), cO D y ad X A s.heap H locs σ → lv_has ls 2 [(0, .ref (ad 9)), (1, .int x1)] → W p l e rc_X4_firstForm s m args below meth c H locs 0 0 (MQ below (va_Qi Q (cB D y ad X A) A) args s 0 0 A) (F0 m 2 ls [])) (x1 : Int32) (σ : cS) (hw : v_X4_firstForm_50 Q r2 x1 σ) (H : Heap) (locs : List Loc) (ls : Array Slot) (hO : cO D y ad X A s.heap H locs σ) (hl : lv_has ls 2 [(0, .ref (ad 9)), (1, .int x1)]) : W p l e rc_X4_firstForm s m args below meth c H locs 0 0 (MQ below (va_Qi Q (cB D y ad X A) A) args s 0 0 A) (F0 m 50 ls []) := by
  obtain ⟨hx, hb, hr, hml, hown, hts, hlk, hK, hA, hTs, hNw⟩ := id C
  unfold v_X4_firstForm_50 at hw
  refine lv_iload_n hx hb dX4_firstForm_50 rfl (lv_at hl 1 rfl) ?_
  exact cx_iret C hO hw dX4_firstForm_51
set_option maxRecDepth 100000 in
set_option maxHeartbeats 4000000 in
theorem kc_X4_firstForm_2 {p : Program} {l : Launch} {e : Env} {s : State} {m : MethodId} {args : Array Value} {below : List Frame} {meth : Method} {c : Code} {D : va_G} {y : Nat → ClassId} {ad t : Nat → Nat} {X : va_W} {A : Nat → Prop} {Q : Int32 → cS → Prop} (C : cC p s m args meth c cX4_firstForm 2 (some .int) RX4 wsX4_firstForm D y t A) (n : Nat) : ∀ (x1 : Int32) (σ : cS), v_X4_firstForm_2 Q n x1 σ → ∀ (H : Heap) (locs : List Loc) (ls : Array Slot), cO D y ad X A s.heap H locs σ → lv_has ls 2 [(0, .ref (ad 9)), (1, .int x1)] → W p l e rc_X4_firstForm s m args below meth c H locs 0 0 (MQ below (va_Qi Q (cB D y ad X A) A) args s 0 0 A) (F0 m 2 ls []) := by
  obtain ⟨hx, hb, hr, hml, hown, hts, hlk, hK, hA, hTs, hNw⟩ := id C
  have hinX4 : ∀ w ∈ wsX40, w ∈ wsX4_firstForm := fun _ h => List.mem_cons_of_mem _ (List.mem_append_right _ h)
  induction n with
  | zero =>
    intro x1 σ hw
    exact (show False from hw).elim
  | succ n ih =>
    intro x1 σ hw H locs ls hO hl
    unfold v_X4_firstForm_2 at hw
    refine lv_iload_n hx hb dX4_firstForm_2 rfl (lv_at hl 1 rfl) ?_
    refine lv_iconst (v := 5) hx hb dX4_firstForm_3 (by decide) ?_
    refine lv_icmp_gt (tgt := 58) hx hb dX4_firstForm_4 (by decide) (fun hc => ?_) (fun hc => ?_)
    · have hw := hw.1 hc
      refine lv_bipush (v := 7) hx hb dX4_firstForm_58 (by decide) ?_
      exact cx_iret C hO hw dX4_firstForm_60
    · have hw := hw.2 hc
      refine lv_aload_n hx hb dX4_firstForm_7 rfl (lv_at hl 0 rfl) ?_
      refine cx_get C hO (by decide) rfl rfl hinX4 0 (by decide) (idx := 9) (by decide +kernel) rfl rfl dX4_firstForm_8 ?_
      refine lv_iconst (v := 3) hx hb dX4_firstForm_11 (by decide) ?_
      refine lv_iload_n hx hb dX4_firstForm_12 rfl (lv_at hl 1 rfl) ?_
      refine lv_imul hx hb dX4_firstForm_13 ?_
      refine cx_lald C hO (a := 10) rfl hw.1 dX4_firstForm_14 ?_
      have hw := hw.2
      refine lv_lconst (v := 0) hx hb dX4_firstForm_15 (by decide) ?_
      refine W.lcmp hx hb dX4_firstForm_16 ?_
      refine lv_if_ne (tgt := 50) hx hb dX4_firstForm_17 (by decide) (fun hc => ?_) (fun hc => ?_)
      · have hc := (not_congr (lg_cmp_eq _ _)).mp hc
        have hw := hw.1 hc
        exact kc_X4_firstForm_50 C ih x1 σ hw H locs ls hO (lv_sub hl [0, 1] rfl)
      · have hc := (lg_cmp_eq _ _).mp hc
        have hw := hw.2 hc
        refine lv_aload_n hx hb dX4_firstForm_20 rfl (lv_at hl 0 rfl) ?_
        refine cx_get C hO (by decide) rfl rfl hinX4 0 (by decide) (idx := 9) (by decide +kernel) rfl rfl dX4_firstForm_21 ?_
        refine lv_iconst (v := 3) hx hb dX4_firstForm_24 (by decide) ?_
        refine lv_iload_n hx hb dX4_firstForm_25 rfl (lv_at hl 1 rfl) ?_
        refine lv_imul hx hb dX4_firstForm_26 ?_
        refine lv_iconst (v := 1) hx hb dX4_firstForm_27 (by decide) ?_
        refine lv_iadd hx hb dX4_firstForm_28 ?_
        refine cx_lald C hO (a := 10) rfl hw.1 dX4_firstForm_29 ?_
        have hw := hw.2
        refine lv_lconst (v := 0) hx hb dX4_firstForm_30 (by decide) ?_
        refine W.lcmp hx hb dX4_firstForm_31 ?_
        refine lv_if_ne (tgt := 50) hx hb dX4_firstForm_32 (by decide) (fun hc => ?_) (fun hc => ?_)
        · have hc := (not_congr (lg_cmp_eq _ _)).mp hc
          have hw := hw.1 hc
          exact kc_X4_firstForm_50 C ih x1 σ hw H locs ls hO (lv_sub hl [0, 1] rfl)
        · have hc := (lg_cmp_eq _ _).mp hc
          have hw := hw.2 hc
          refine lv_aload_n hx hb dX4_firstForm_35 rfl (lv_at hl 0 rfl) ?_
          refine cx_get C hO (by decide) rfl rfl hinX4 0 (by decide) (idx := 9) (by decide +kernel) rfl rfl dX4_firstForm_36 ?_
          refine lv_iconst (v := 3) hx hb dX4_firstForm_39 (by decide) ?_
          refine lv_iload_n hx hb dX4_firstForm_40 rfl (lv_at hl 1 rfl) ?_
          refine lv_imul hx hb dX4_firstForm_41 ?_
          refine lv_iconst (v := 2) hx hb dX4_firstForm_42 (by decide) ?_
          refine lv_iadd hx hb dX4_firstForm_43 ?_
          refine cx_lald C hO (a := 10) rfl hw.1 dX4_firstForm_44 ?_
          have hw := hw.2
          refine lv_lconst (v := 0) hx hb dX4_firstForm_45 (by decide) ?_
          refine W.lcmp hx hb dX4_firstForm_46 ?_
          refine lv_if_eq (tgt := 52) hx hb dX4_firstForm_47 (by decide) (fun hc => ?_) (fun hc => ?_)
          · have hc := (lg_cmp_eq _ _).mp hc
            have hw := hw.1 hc
            obtain ⟨x1_101, ex1_101⟩ : ∃ y : Int32, y = x1 + 1 := ⟨_, rfl⟩
            have hw := hw x1_101 ex1_101
            refine lv_iinc (v := x1_101) (lv' := [(1, .int x1_101), (0, .ref (ad 9))]) hx hb dX4_firstForm_52 hl (k := 1) rfl (by rw [ex1_101]; rfl) (by decide) rfl (fun ls hl => ?_)
            refine lv_goto (tgt := 2) hx hb dX4_firstForm_55 (by decide) ?_
            exact ih x1_101 σ hw H locs ls hO (lv_sub hl [1, 0] rfl)
          · have hc := (not_congr (lg_cmp_eq _ _)).mp hc
            have hw := hw.2 hc
            exact kc_X4_firstForm_50 C ih x1 σ hw H locs ls hO (lv_sub hl [0, 1] rfl)
set_option maxRecDepth 100000 in
set_option maxHeartbeats 4000000 in
theorem kc_X4_firstForm_e {p : Program} {l : Launch} {e : Env} {s : State} {m : MethodId} {args : Array Value} {below : List Frame} {meth : Method} {c : Code} {D : va_G} {y : Nat → ClassId} {ad t : Nat → Nat} {X : va_W} {A : Nat → Prop} {Q : Int32 → cS → Prop} (C : cC p s m args meth c cX4_firstForm 2 (some .int) RX4 wsX4_firstForm D y t A)  (σ : cS) (hw : v_X4_firstForm Q σ) (H : Heap) (locs : List Loc) (ls : Array Slot) (hO : cO D y ad X A s.heap H locs σ) (hl : lv_has ls 2 [(0, .ref (ad 9))]) : W p l e rc_X4_firstForm s m args below meth c H locs 0 0 (MQ below (va_Qi Q (cB D y ad X A) A) args s 0 0 A) (F0 m 0 ls []) := by
  obtain ⟨hx, hb, hr, hml, hown, hts, hlk, hK, hA, hTs, hNw⟩ := id C
  unfold v_X4_firstForm at hw
  refine lv_iconst (v := 0) hx hb dX4_firstForm_0 (by decide) ?_
  refine lv_istore_n (lv' := [(1, .int ((0 : Int32))), (0, .ref (ad 9))]) hx hb dX4_firstForm_1 rfl hl (by decide) rfl (fun ls hl => ?_)
  exact kc_X4_firstForm_2 C fuL ((0 : Int32)) σ hw H locs ls hO (lv_sub hl [1, 0] rfl)
theorem cc_X4_firstForm (l : Launch) (D : va_G) (y : Nat → ClassId) (ad t : Nat → Nat) (X : va_W) (σ : cS)  (Q : Int32 → cS → Prop) (hw : v_X4_firstForm Q σ) : ∀ sz, Met l yX4_firstForm wsX4_firstForm rc_X4_firstForm (va_Pc [.ref (ad 9)] (cPre D y ad t X sz σ)) (va_Qi Q (cB D y ad X (va_A (cW y ad σ ++ X) sz)) (va_A (cW y ad σ ++ X) sz)) 0 0 (va_A (cW y ad σ ++ X) sz) :=
  cMet (Qc := fun A => va_Qi Q (cB D y ad X A) A) (by decide) (own := RX4) rfl (Nat.le_of_ble_eq_true rfl) (fun p e s m args below meth c A ls C hO hl => kc_X4_firstForm_e C σ hw s.heap [] ls hO hl)
abbrev rc_X4_howMany : Room := { frames := 0, cells := 0, slots := 0, locals := 0 }
set_option maxRecDepth 100000 in
set_option maxHeartbeats 4000000 in
theorem kc_X4_howMany_31 {p : Program} {l : Launch} {e : Env} {s : State} {m : MethodId} {args : Array Value} {below : List Frame} {meth : Method} {c : Code} {D : va_G} {y : Nat → ClassId} {ad t : Nat → Nat} {X : va_W} {A : Nat → Prop} {Q : Int32 → cS → Prop} (C : cC p s m args meth c cX4_howMany 4 (some .int) RX4 wsX4_howMany D y t A) (z0 : Int32) (z1 : Int32) (σ : cS) (hw : v_X4_howMany_31 Q z0 z1 σ) (H : Heap) (locs : List Loc) (ls : Array Slot) (hO : cO D y ad X A s.heap H locs σ) (hl : lv_has ls 4 []) : W p l e rc_X4_howMany s m args below meth c H locs 0 0 (MQ below (va_Qi Q (cB D y ad X A) A) args s 0 0 A) (F0 m 31 ls [.int z1, .int z0]) := by
  obtain ⟨hx, hb, hr, hml, hown, hts, hlk, hK, hA, hTs, hNw⟩ := id C
  unfold v_X4_howMany_31 at hw
  refine lv_iadd hx hb dX4_howMany_31 ?_
  exact cx_iret C hO hw dX4_howMany_32
set_option maxRecDepth 100000 in
set_option maxHeartbeats 4000000 in
theorem kc_X4_howMany_20 {p : Program} {l : Launch} {e : Env} {s : State} {m : MethodId} {args : Array Value} {below : List Frame} {meth : Method} {c : Code} {D : va_G} {y : Nat → ClassId} {ad t : Nat → Nat} {X : va_W} {A : Nat → Prop} {Q : Int32 → cS → Prop} (C : cC p s m args meth c cX4_howMany 4 (some .int) RX4 wsX4_howMany D y t A) (x0 : Int32) (x3 : Int32) (z0 : Int32) (z1 : Int32) (σ : cS) (hw : v_X4_howMany_20 Q x0 x3 z0 z1 σ) (H : Heap) (locs : List Loc) (ls : Array Slot) (hO : cO D y ad X A s.heap H locs σ) (hl : lv_has ls 4 [(0, .int x0), (3, .int x3)]) : W p l e rc_X4_howMany s m args below meth c H locs 0 0 (MQ below (va_Qi Q (cB D y ad X A) A) args s 0 0 A) (F0 m 20 ls [.int z1, .int z0]) := by
  obtain ⟨hx, hb, hr, hml, hown, hts, hlk, hK, hA, hTs, hNw⟩ := id C
  unfold v_X4_howMany_20 at hw
  refine lv_iadd hx hb dX4_howMany_20 ?_
  refine lv_iload_n hx hb dX4_howMany_21 rfl (lv_at hl 1 rfl) ?_
  refine lv_iload_n hx hb dX4_howMany_22 rfl (lv_at hl 0 rfl) ?_
  refine lv_icmp_ne (tgt := 30) hx hb dX4_howMany_23 (by decide) (fun hc => ?_) (fun hc => ?_)
  · have hw := hw.1 hc
    refine lv_iconst (v := 0) hx hb dX4_howMany_30 (by decide) ?_
    exact kc_X4_howMany_31 C (z0 + z1) ((0 : Int32)) σ hw H locs ls hO (lv_sub hl [] rfl)
  · have hw := hw.2 hc
    refine lv_iconst (v := 1) hx hb dX4_howMany_26 (by decide) ?_
    refine lv_goto (tgt := 31) hx hb dX4_howMany_27 (by decide) ?_
    exact kc_X4_howMany_31 C (z0 + z1) ((1 : Int32)) σ hw H locs ls hO (lv_sub hl [] rfl)
set_option maxRecDepth 100000 in
set_option maxHeartbeats 4000000 in
theorem kc_X4_howMany_10 {p : Program} {l : Launch} {e : Env} {s : State} {m : MethodId} {args : Array Value} {below : List Frame} {meth : Method} {c : Code} {D : va_G} {y : Nat → ClassId} {ad t : Nat → Nat} {X : va_W} {A : Nat → Prop} {Q : Int32 → cS → Prop} (C : cC p s m args meth c cX4_howMany 4 (some .int) RX4 wsX4_howMany D y t A) (x0 : Int32) (x2 : Int32) (x3 : Int32) (z0 : Int32) (σ : cS) (hw : v_X4_howMany_10 Q x0 x2 x3 z0 σ) (H : Heap) (locs : List Loc) (ls : Array Slot) (hO : cO D y ad X A s.heap H locs σ) (hl : lv_has ls 4 [(0, .int x0), (2, .int x2), (3, .int x3)]) : W p l e rc_X4_howMany s m args below meth c H locs 0 0 (MQ below (va_Qi Q (cB D y ad X A) A) args s 0 0 A) (F0 m 10 ls [.int z0]) := by
  obtain ⟨hx, hb, hr, hml, hown, hts, hlk, hK, hA, hTs, hNw⟩ := id C
  unfold v_X4_howMany_10 at hw
  refine lv_iload_n hx hb dX4_howMany_10 rfl (lv_at hl 1 rfl) ?_
  refine lv_iload_n hx hb dX4_howMany_11 rfl (lv_at hl 0 rfl) ?_
  refine lv_icmp_ne (tgt := 19) hx hb dX4_howMany_12 (by decide) (fun hc => ?_) (fun hc => ?_)
  · have hw := hw.1 hc
    refine lv_iconst (v := 0) hx hb dX4_howMany_19 (by decide) ?_
    exact kc_X4_howMany_20 C x0 x3 z0 ((0 : Int32)) σ hw H locs ls hO (lv_sub hl [0, 2] rfl)
  · have hw := hw.2 hc
    refine lv_iconst (v := 1) hx hb dX4_howMany_15 (by decide) ?_
    refine lv_goto (tgt := 20) hx hb dX4_howMany_16 (by decide) ?_
    exact kc_X4_howMany_20 C x0 x3 z0 ((1 : Int32)) σ hw H locs ls hO (lv_sub hl [0, 2] rfl)
set_option maxRecDepth 100000 in
set_option maxHeartbeats 4000000 in
theorem kc_X4_howMany_e {p : Program} {l : Launch} {e : Env} {s : State} {m : MethodId} {args : Array Value} {below : List Frame} {meth : Method} {c : Code} {D : va_G} {y : Nat → ClassId} {ad t : Nat → Nat} {X : va_W} {A : Nat → Prop} {Q : Int32 → cS → Prop} (C : cC p s m args meth c cX4_howMany 4 (some .int) RX4 wsX4_howMany D y t A) (x0 : Int32) (x1 : Int32) (x2 : Int32) (x3 : Int32) (σ : cS) (hw : v_X4_howMany Q x0 x1 x2 x3 σ) (H : Heap) (locs : List Loc) (ls : Array Slot) (hO : cO D y ad X A s.heap H locs σ) (hl : lv_has ls 4 [(0, .int x0), (1, .int x1), (2, .int x2), (3, .int x3)]) : W p l e rc_X4_howMany s m args below meth c H locs 0 0 (MQ below (va_Qi Q (cB D y ad X A) A) args s 0 0 A) (F0 m 0 ls []) := by
  obtain ⟨hx, hb, hr, hml, hown, hts, hlk, hK, hA, hTs, hNw⟩ := id C
  unfold v_X4_howMany at hw
  refine lv_iload_n hx hb dX4_howMany_0 rfl (lv_at hl 1 rfl) ?_
  refine lv_iload_n hx hb dX4_howMany_1 rfl (lv_at hl 0 rfl) ?_
  refine lv_icmp_ne (tgt := 9) hx hb dX4_howMany_2 (by decide) (fun hc => ?_) (fun hc => ?_)
  · have hw := hw.1 hc
    refine lv_iconst (v := 0) hx hb dX4_howMany_9 (by decide) ?_
    exact kc_X4_howMany_10 C x0 x2 x3 ((0 : Int32)) σ hw H locs ls hO (lv_sub hl [0, 2, 3] rfl)
  · have hw := hw.2 hc
    refine lv_iconst (v := 1) hx hb dX4_howMany_5 (by decide) ?_
    refine lv_goto (tgt := 10) hx hb dX4_howMany_6 (by decide) ?_
    exact kc_X4_howMany_10 C x0 x2 x3 ((1 : Int32)) σ hw H locs ls hO (lv_sub hl [0, 2, 3] rfl)
theorem cc_X4_howMany (l : Launch) (D : va_G) (y : Nat → ClassId) (ad t : Nat → Nat) (X : va_W) (σ : cS) (x0 : Int32) (x1 : Int32) (x2 : Int32) (x3 : Int32) (Q : Int32 → cS → Prop) (hw : v_X4_howMany Q x0 x1 x2 x3 σ) : ∀ sz, Met l yX4_howMany wsX4_howMany rc_X4_howMany (va_Pc [.int x0, .int x1, .int x2, .int x3] (cPre D y ad t X sz σ)) (va_Qi Q (cB D y ad X (va_A (cW y ad σ ++ X) sz)) (va_A (cW y ad σ ++ X) sz)) 0 0 (va_A (cW y ad σ ++ X) sz) :=
  cMet (Qc := fun A => va_Qi Q (cB D y ad X A) A) (by decide) (own := RX4) rfl (Nat.le_of_ble_eq_true rfl) (fun p e s m args below meth c A ls C hO hl => kc_X4_howMany_e C x0 x1 x2 x3 σ hw s.heap [] ls hO hl)
abbrev rc_X4_addProduct : Room := { frames := 2, cells := 0, slots := 0, locals := 42 }
set_option maxRecDepth 100000 in
set_option maxHeartbeats 4000000 in
theorem kc_X4_addProduct_21 {p : Program} {l : Launch} {e : Env} {s : State} {m : MethodId} {args : Array Value} {below : List Frame} {meth : Method} {c : Code} {D : va_G} {y : Nat → ClassId} {ad t : Nat → Nat} {X : va_W} {A : Nat → Prop} {Q : cS → Prop} (C : cC p s m args meth c cX4_addProduct 11 none RX4 wsX4_addProduct D y t A) {r1 : Nat} (ha_r1 : cJ r1 = true) {r3 : Int64 → Int32 → Int32 → Int32 → Int32 → cS → Prop} (hr3 : ∀ (x2 : Int64) (x4 : Int32) (x5 : Int32) (x6 : Int32) (x7 : Int32) (σ : cS), r3 x2 x4 x5 x6 x7 σ → ∀ (H : Heap) (locs : List Loc) (ls : Array Slot), cO D y ad X A s.heap H locs σ → lv_has ls 11 [(0, .ref (ad 9)), (1, .ref (ad r1)), (2, .long x2), (4, .int x4), (5, .int x5), (6, .int x6), (7, .int x7)] → W p l e rc_X4_addProduct s m args below meth c H locs 0 0 (MQ below (va_Qv Q (cB D y ad X A) A) args s 0 0 A) (F0 m 3 ls [])) {r12 : Int64 → Int32 → Int32 → Int32 → Int32 → Int32 → cS → Prop} (hr12 : ∀ (x2 : Int64) (x4 : Int32) (x5 : Int32) (x6 : Int32) (x7 : Int32) (x8 : Int32) (σ : cS), r12 x2 x4 x5 x6 x7 x8 σ → ∀ (H : Heap) (locs : List Loc) (ls : Array Slot), cO D y ad X A s.heap H locs σ → lv_has ls 11 [(0, .ref (ad 9)), (1, .ref (ad r1)), (2, .long x2), (4, .int x4), (5, .int x5), (6, .int x6), (7, .int x7), (8, .int x8)] → W p l e rc_X4_addProduct s m args below meth c H locs 0 0 (MQ below (va_Qv Q (cB D y ad X A) A) args s 0 0 A) (F0 m 12 ls [])) (n : Nat) : ∀ (x2 : Int64) (x4 : Int32) (x5 : Int32) (x6 : Int32) (x7 : Int32) (x8 : Int32) (x9 : Int32) (σ : cS), v_X4_addProduct_21 Q r1 r3 r12 n x2 x4 x5 x6 x7 x8 x9 σ → ∀ (H : Heap) (locs : List Loc) (ls : Array Slot), cO D y ad X A s.heap H locs σ → lv_has ls 11 [(0, .ref (ad 9)), (1, .ref (ad r1)), (2, .long x2), (4, .int x4), (5, .int x5), (6, .int x6), (7, .int x7), (8, .int x8), (9, .int x9)] → W p l e rc_X4_addProduct s m args below meth c H locs 0 0 (MQ below (va_Qv Q (cB D y ad X A) A) args s 0 0 A) (F0 m 21 ls []) := by
  obtain ⟨hx, hb, hr, hml, hown, hts, hlk, hK, hA, hTs, hNw⟩ := id C
  have hinX4 : ∀ w ∈ wsX40, w ∈ wsX4_addProduct := fun _ h => List.mem_cons_of_mem _ (List.mem_append_right _ h)
  induction n with
  | zero =>
    intro x2 x4 x5 x6 x7 x8 x9 σ hw
    exact (show False from hw).elim
  | succ n ih =>
    intro x2 x4 x5 x6 x7 x8 x9 σ hw H locs ls hO hl
    unfold v_X4_addProduct_21 at hw
    refine lv_iload hx hb dX4_addProduct_21 (lv_at hl 8 rfl) ?_
    refine lv_iconst (v := 3) hx hb dX4_addProduct_23 (by decide) ?_
    refine lv_icmp_ge (tgt := 105) hx hb dX4_addProduct_24 (by decide) (fun hc => ?_) (fun hc => ?_)
    · have hw := hw.1 hc
      obtain ⟨x8_101, ex8_101⟩ : ∃ y : Int32, y = x8 + 1 := ⟨_, rfl⟩
      have hw := hw x8_101 ex8_101
      refine lv_iinc (v := x8_101) (lv' := [(8, .int x8_101), (0, .ref (ad 9)), (1, .ref (ad r1)), (2, .long x2), (4, .int x4), (5, .int x5), (6, .int x6), (7, .int x7), (9, .int x9)]) hx hb dX4_addProduct_105 hl (k := 7) rfl (by rw [ex8_101]; rfl) (by decide) rfl (fun ls hl => ?_)
      refine lv_goto (tgt := 12) hx hb dX4_addProduct_108 (by decide) ?_
      exact hr12 x2 x4 x5 x6 x7 x8_101 σ hw H locs ls hO (lv_sub hl [1, 2, 3, 4, 5, 6, 7, 0] rfl)
    · have hw := hw.2 hc
      refine lv_iconst (v := 0) hx hb dX4_addProduct_27 (by decide) ?_
      refine lv_iload hx hb dX4_addProduct_28 (lv_at hl 6 rfl) ?_
      refine lv_iload hx hb dX4_addProduct_30 (lv_at hl 7 rfl) ?_
      refine lv_iload hx hb dX4_addProduct_32 (lv_at hl 8 rfl) ?_
      refine cx_cis C hO (cc_X4_howMany l D y ad t X σ (0 : Int32) x7 x8 x9 _ hw) (va_cwS 4 hts gX4_addProduct_X4_howMany rfl rfl rfl (by decide +kernel) ⟨Nat.le_of_ble_eq_true rfl, Nat.le_of_ble_eq_true rfl⟩) rfl hl.1 rfl (lv_room (Nat.le_of_ble_eq_true rfl)) dX4_addProduct_34 (fun u102 σ103 H locs hw hO => ?_)
      refine lv_iconst (v := 1) hx hb dX4_addProduct_37 (by decide) ?_
      refine lv_iload hx hb dX4_addProduct_38 (lv_at hl 6 rfl) ?_
      refine lv_iload hx hb dX4_addProduct_40 (lv_at hl 7 rfl) ?_
      refine lv_iload hx hb dX4_addProduct_42 (lv_at hl 8 rfl) ?_
      refine cx_cis C hO (cc_X4_howMany l D y ad t X σ103 (1 : Int32) x7 x8 x9 _ hw) (va_cwS 4 hts gX4_addProduct_X4_howMany rfl rfl rfl (by decide +kernel) ⟨Nat.le_of_ble_eq_true rfl, Nat.le_of_ble_eq_true rfl⟩) rfl hl.1 rfl (lv_room (Nat.le_of_ble_eq_true rfl)) dX4_addProduct_44 (fun u104 σ105 H locs hw hO => ?_)
      refine cx_cis C hO (cc_X0_placeInEquation l D y ad t X σ105 u102 u104 _ hw) (va_cwS 2 hts gX4_addProduct_X0_placeInEquation rfl rfl rfl (by decide +kernel) ⟨Nat.le_of_ble_eq_true rfl, Nat.le_of_ble_eq_true rfl⟩) rfl hl.1 rfl (lv_room (Nat.le_of_ble_eq_true rfl)) dX4_addProduct_47 (fun u106 σ107 H locs hw hO => ?_)
      refine lv_istore (lv' := [(10, .int u106), (0, .ref (ad 9)), (1, .ref (ad r1)), (2, .long x2), (4, .int x4), (5, .int x5), (6, .int x6), (7, .int x7), (8, .int x8), (9, .int x9)]) hx hb dX4_addProduct_50 hl (by decide) rfl (fun ls hl => ?_)
      refine lv_aload_n hx hb dX4_addProduct_52 rfl (lv_at hl 2 rfl) ?_
      refine lv_iload hx hb dX4_addProduct_53 (lv_at hl 0 rfl) ?_
      refine lv_dup2_11 hx hb dX4_addProduct_55 rfl rfl ?_
      refine cx_lald C hO (a := r1) ha_r1 hw.1 dX4_addProduct_56 ?_
      have hw := hw.2
      refine lv_lload_n hx hb dX4_addProduct_57 rfl (lv_at hl 3 rfl) ?_
      refine lv_aload_n hx hb dX4_addProduct_58 rfl (lv_at hl 1 rfl) ?_
      refine cx_get C hO (by decide) rfl rfl hinX4 0 (by decide) (idx := 9) (by decide +kernel) rfl rfl dX4_addProduct_59 ?_
      refine lv_iconst (v := 3) hx hb dX4_addProduct_62 (by decide) ?_
      refine lv_iload hx hb dX4_addProduct_63 (lv_at hl 4 rfl) ?_
      refine lv_imul hx hb dX4_addProduct_65 ?_
      refine lv_iload hx hb dX4_addProduct_66 (lv_at hl 7 rfl) ?_
      refine lv_iadd hx hb dX4_addProduct_68 ?_
      refine cx_lald C hO (a := 10) rfl hw.1 dX4_addProduct_69 ?_
      have hw := hw.2
      refine lv_lmul hx hb dX4_addProduct_70 ?_
      refine lv_aload_n hx hb dX4_addProduct_71 rfl (lv_at hl 1 rfl) ?_
      refine cx_get C hO (by decide) rfl rfl hinX4 0 (by decide) (idx := 9) (by decide +kernel) rfl rfl dX4_addProduct_72 ?_
      refine lv_iconst (v := 3) hx hb dX4_addProduct_75 (by decide) ?_
      refine lv_iload hx hb dX4_addProduct_76 (lv_at hl 5 rfl) ?_
      refine lv_imul hx hb dX4_addProduct_78 ?_
      refine lv_iload hx hb dX4_addProduct_79 (lv_at hl 8 rfl) ?_
      refine lv_iadd hx hb dX4_addProduct_81 ?_
      refine cx_lald C hO (a := 10) rfl hw.1 dX4_addProduct_82 ?_
      have hw := hw.2
      refine lv_lmul hx hb dX4_addProduct_83 ?_
      refine lv_aload_n hx hb dX4_addProduct_84 rfl (lv_at hl 1 rfl) ?_
      refine cx_get C hO (by decide) rfl rfl hinX4 0 (by decide) (idx := 9) (by decide +kernel) rfl rfl dX4_addProduct_85 ?_
      refine lv_iconst (v := 3) hx hb dX4_addProduct_88 (by decide) ?_
      refine lv_iload hx hb dX4_addProduct_89 (lv_at hl 6 rfl) ?_
      refine lv_imul hx hb dX4_addProduct_91 ?_
      refine lv_iload hx hb dX4_addProduct_92 (lv_at hl 9 rfl) ?_
      refine lv_iadd hx hb dX4_addProduct_94 ?_
      refine cx_lald C hO (a := 10) rfl hw.1 dX4_addProduct_95 ?_
      have hw := hw.2
      refine lv_lmul hx hb dX4_addProduct_96 ?_
      refine lv_ladd hx hb dX4_addProduct_97 ?_
      refine cx_last C hO (a := r1) ha_r1 hw.1 dX4_addProduct_98 (fun H locs σ108 eσ108 hO => ?_)
      have hw := hw.2 σ108 eσ108
      obtain ⟨x9_109, ex9_109⟩ : ∃ y : Int32, y = x9 + 1 := ⟨_, rfl⟩
      have hw := hw x9_109 ex9_109
      refine lv_iinc (v := x9_109) (lv' := [(9, .int x9_109), (10, .int u106), (0, .ref (ad 9)), (1, .ref (ad r1)), (2, .long x2), (4, .int x4), (5, .int x5), (6, .int x6), (7, .int x7), (8, .int x8)]) hx hb dX4_addProduct_99 hl (k := 9) rfl (by rw [ex9_109]; rfl) (by decide) rfl (fun ls hl => ?_)
      refine lv_goto (tgt := 21) hx hb dX4_addProduct_102 (by decide) ?_
      exact ih x2 x4 x5 x6 x7 x8 x9_109 σ108 hw H locs ls hO (lv_sub hl [2, 3, 4, 5, 6, 7, 8, 9, 0] rfl)
set_option maxRecDepth 100000 in
set_option maxHeartbeats 4000000 in
theorem kc_X4_addProduct_12 {p : Program} {l : Launch} {e : Env} {s : State} {m : MethodId} {args : Array Value} {below : List Frame} {meth : Method} {c : Code} {D : va_G} {y : Nat → ClassId} {ad t : Nat → Nat} {X : va_W} {A : Nat → Prop} {Q : cS → Prop} (C : cC p s m args meth c cX4_addProduct 11 none RX4 wsX4_addProduct D y t A) {r1 : Nat} (ha_r1 : cJ r1 = true) {r3 : Int64 → Int32 → Int32 → Int32 → Int32 → cS → Prop} (hr3 : ∀ (x2 : Int64) (x4 : Int32) (x5 : Int32) (x6 : Int32) (x7 : Int32) (σ : cS), r3 x2 x4 x5 x6 x7 σ → ∀ (H : Heap) (locs : List Loc) (ls : Array Slot), cO D y ad X A s.heap H locs σ → lv_has ls 11 [(0, .ref (ad 9)), (1, .ref (ad r1)), (2, .long x2), (4, .int x4), (5, .int x5), (6, .int x6), (7, .int x7)] → W p l e rc_X4_addProduct s m args below meth c H locs 0 0 (MQ below (va_Qv Q (cB D y ad X A) A) args s 0 0 A) (F0 m 3 ls [])) (n : Nat) : ∀ (x2 : Int64) (x4 : Int32) (x5 : Int32) (x6 : Int32) (x7 : Int32) (x8 : Int32) (σ : cS), v_X4_addProduct_12 Q r1 r3 n x2 x4 x5 x6 x7 x8 σ → ∀ (H : Heap) (locs : List Loc) (ls : Array Slot), cO D y ad X A s.heap H locs σ → lv_has ls 11 [(0, .ref (ad 9)), (1, .ref (ad r1)), (2, .long x2), (4, .int x4), (5, .int x5), (6, .int x6), (7, .int x7), (8, .int x8)] → W p l e rc_X4_addProduct s m args below meth c H locs 0 0 (MQ below (va_Qv Q (cB D y ad X A) A) args s 0 0 A) (F0 m 12 ls []) := by
  obtain ⟨hx, hb, hr, hml, hown, hts, hlk, hK, hA, hTs, hNw⟩ := id C
  induction n with
  | zero =>
    intro x2 x4 x5 x6 x7 x8 σ hw
    exact (show False from hw).elim
  | succ n ih =>
    intro x2 x4 x5 x6 x7 x8 σ hw H locs ls hO hl
    unfold v_X4_addProduct_12 at hw
    refine lv_iload hx hb dX4_addProduct_12 (lv_at hl 7 rfl) ?_
    refine lv_iconst (v := 3) hx hb dX4_addProduct_14 (by decide) ?_
    refine lv_icmp_ge (tgt := 111) hx hb dX4_addProduct_15 (by decide) (fun hc => ?_) (fun hc => ?_)
    · have hw := hw.1 hc
      obtain ⟨x7_101, ex7_101⟩ : ∃ y : Int32, y = x7 + 1 := ⟨_, rfl⟩
      have hw := hw x7_101 ex7_101
      refine lv_iinc (v := x7_101) (lv' := [(7, .int x7_101), (0, .ref (ad 9)), (1, .ref (ad r1)), (2, .long x2), (4, .int x4), (5, .int x5), (6, .int x6), (8, .int x8)]) hx hb dX4_addProduct_111 hl (k := 6) rfl (by rw [ex7_101]; rfl) (by decide) rfl (fun ls hl => ?_)
      refine lv_goto (tgt := 3) hx hb dX4_addProduct_114 (by decide) ?_
      exact hr3 x2 x4 x5 x6 x7_101 σ hw H locs ls hO (lv_sub hl [1, 2, 3, 4, 5, 6, 0] rfl)
    · have hw := hw.2 hc
      refine lv_iconst (v := 0) hx hb dX4_addProduct_18 (by decide) ?_
      refine lv_istore (lv' := [(9, .int ((0 : Int32))), (0, .ref (ad 9)), (1, .ref (ad r1)), (2, .long x2), (4, .int x4), (5, .int x5), (6, .int x6), (7, .int x7), (8, .int x8)]) hx hb dX4_addProduct_19 hl (by decide) rfl (fun ls hl => ?_)
      exact kc_X4_addProduct_21 C ha_r1 hr3 ih fuL x2 x4 x5 x6 x7 x8 ((0 : Int32)) σ hw H locs ls hO (lv_sub hl [1, 2, 3, 4, 5, 6, 7, 8, 0] rfl)
set_option maxRecDepth 100000 in
set_option maxHeartbeats 4000000 in
theorem kc_X4_addProduct_3 {p : Program} {l : Launch} {e : Env} {s : State} {m : MethodId} {args : Array Value} {below : List Frame} {meth : Method} {c : Code} {D : va_G} {y : Nat → ClassId} {ad t : Nat → Nat} {X : va_W} {A : Nat → Prop} {Q : cS → Prop} (C : cC p s m args meth c cX4_addProduct 11 none RX4 wsX4_addProduct D y t A) {r1 : Nat} (ha_r1 : cJ r1 = true) (n : Nat) : ∀ (x2 : Int64) (x4 : Int32) (x5 : Int32) (x6 : Int32) (x7 : Int32) (σ : cS), v_X4_addProduct_3 Q r1 n x2 x4 x5 x6 x7 σ → ∀ (H : Heap) (locs : List Loc) (ls : Array Slot), cO D y ad X A s.heap H locs σ → lv_has ls 11 [(0, .ref (ad 9)), (1, .ref (ad r1)), (2, .long x2), (4, .int x4), (5, .int x5), (6, .int x6), (7, .int x7)] → W p l e rc_X4_addProduct s m args below meth c H locs 0 0 (MQ below (va_Qv Q (cB D y ad X A) A) args s 0 0 A) (F0 m 3 ls []) := by
  obtain ⟨hx, hb, hr, hml, hown, hts, hlk, hK, hA, hTs, hNw⟩ := id C
  induction n with
  | zero =>
    intro x2 x4 x5 x6 x7 σ hw
    exact (show False from hw).elim
  | succ n ih =>
    intro x2 x4 x5 x6 x7 σ hw H locs ls hO hl
    unfold v_X4_addProduct_3 at hw
    refine lv_iload hx hb dX4_addProduct_3 (lv_at hl 6 rfl) ?_
    refine lv_iconst (v := 3) hx hb dX4_addProduct_5 (by decide) ?_
    refine lv_icmp_ge (tgt := 117) hx hb dX4_addProduct_6 (by decide) (fun hc => ?_) (fun hc => ?_)
    · have hw := hw.1 hc
      exact cx_vret C hO hw dX4_addProduct_117
    · have hw := hw.2 hc
      refine lv_iconst (v := 0) hx hb dX4_addProduct_9 (by decide) ?_
      refine lv_istore (lv' := [(8, .int ((0 : Int32))), (0, .ref (ad 9)), (1, .ref (ad r1)), (2, .long x2), (4, .int x4), (5, .int x5), (6, .int x6), (7, .int x7)]) hx hb dX4_addProduct_10 hl (by decide) rfl (fun ls hl => ?_)
      exact kc_X4_addProduct_12 C ha_r1 ih fuL x2 x4 x5 x6 x7 ((0 : Int32)) σ hw H locs ls hO (lv_sub hl [1, 2, 3, 4, 5, 6, 7, 0] rfl)
set_option maxRecDepth 100000 in
set_option maxHeartbeats 4000000 in
theorem kc_X4_addProduct_e {p : Program} {l : Launch} {e : Env} {s : State} {m : MethodId} {args : Array Value} {below : List Frame} {meth : Method} {c : Code} {D : va_G} {y : Nat → ClassId} {ad t : Nat → Nat} {X : va_W} {A : Nat → Prop} {Q : cS → Prop} (C : cC p s m args meth c cX4_addProduct 11 none RX4 wsX4_addProduct D y t A) {r1 : Nat} (ha_r1 : cJ r1 = true) (x2 : Int64) (x4 : Int32) (x5 : Int32) (x6 : Int32) (σ : cS) (hw : v_X4_addProduct Q r1 x2 x4 x5 x6 σ) (H : Heap) (locs : List Loc) (ls : Array Slot) (hO : cO D y ad X A s.heap H locs σ) (hl : lv_has ls 11 [(0, .ref (ad 9)), (1, .ref (ad r1)), (2, .long x2), (4, .int x4), (5, .int x5), (6, .int x6)]) : W p l e rc_X4_addProduct s m args below meth c H locs 0 0 (MQ below (va_Qv Q (cB D y ad X A) A) args s 0 0 A) (F0 m 0 ls []) := by
  obtain ⟨hx, hb, hr, hml, hown, hts, hlk, hK, hA, hTs, hNw⟩ := id C
  unfold v_X4_addProduct at hw
  refine lv_iconst (v := 0) hx hb dX4_addProduct_0 (by decide) ?_
  refine lv_istore (lv' := [(7, .int ((0 : Int32))), (0, .ref (ad 9)), (1, .ref (ad r1)), (2, .long x2), (4, .int x4), (5, .int x5), (6, .int x6)]) hx hb dX4_addProduct_1 hl (by decide) rfl (fun ls hl => ?_)
  exact kc_X4_addProduct_3 C ha_r1 fuL x2 x4 x5 x6 ((0 : Int32)) σ hw H locs ls hO (lv_sub hl [1, 2, 3, 4, 5, 6, 0] rfl)
theorem cc_X4_addProduct (l : Launch) (D : va_G) (y : Nat → ClassId) (ad t : Nat → Nat) (X : va_W) (σ : cS) (r1 : Nat) (x2 : Int64) (x4 : Int32) (x5 : Int32) (x6 : Int32) (ha_r1 : cJ r1 = true) (Q : cS → Prop) (hw : v_X4_addProduct Q r1 x2 x4 x5 x6 σ) : ∀ sz, Met l yX4_addProduct wsX4_addProduct rc_X4_addProduct (va_Pc [.ref (ad 9), .ref (ad r1), .long x2, .int x4, .int x5, .int x6] (cPre D y ad t X sz σ)) (va_Qv Q (cB D y ad X (va_A (cW y ad σ ++ X) sz)) (va_A (cW y ad σ ++ X) sz)) 0 0 (va_A (cW y ad σ ++ X) sz) :=
  cMet (Qc := fun A => va_Qv Q (cB D y ad X A) A) (by decide) (own := RX4) rfl (Nat.le_of_ble_eq_true rfl) (fun p e s m args below meth c A ls C hO hl => kc_X4_addProduct_e C ha_r1 x2 x4 x5 x6 σ hw s.heap [] ls hO hl)
abbrev rc_X4_findEquation : Room := { frames := 3, cells := 0, slots := 0, locals := 74 }
set_option maxRecDepth 100000 in
set_option maxHeartbeats 4000000 in
theorem kc_X4_findEquation_153 {p : Program} {l : Launch} {e : Env} {s : State} {m : MethodId} {args : Array Value} {below : List Frame} {meth : Method} {c : Code} {D : va_G} {y : Nat → ClassId} {ad t : Nat → Nat} {X : va_W} {A : Nat → Prop} {Q : cS → Prop} (C : cC p s m args meth c cX4_findEquation 2 none RX4 wsX4_findEquation D y t A) {r1 : Nat} (ha_r1 : cL r1 = true)  (σ : cS) (hw : v_X4_findEquation_153 Q r1 σ) (H : Heap) (locs : List Loc) (ls : Array Slot) (hO : cO D y ad X A s.heap H locs σ) (hl : lv_has ls 2 [(0, .ref (ad 9)), (1, .ref (ad r1))]) : W p l e rc_X4_findEquation s m args below meth c H locs 0 0 (MQ below (va_Qv Q (cB D y ad X A) A) args s 0 0 A) (F0 m 153 ls []) := by
  obtain ⟨hx, hb, hr, hml, hown, hts, hlk, hK, hA, hTs, hNw⟩ := id C
  have hinX0 : ∀ w ∈ wsX00, w ∈ wsX4_findEquation := fun _ h => List.mem_cons_of_mem _ (List.mem_append_left _ (List.mem_append_right _ h))
  unfold v_X4_findEquation_153 at hw
  refine lv_aload_n hx hb dX4_findEquation_153 rfl (lv_at hl 1 rfl) ?_
  refine cx_get C hO (cL_lt ha_r1).1 (cE_L ha_r1) rfl hinX0 1 (by decide) (idx := 119) (by decide +kernel) rfl rfl dX4_findEquation_154 ?_
  refine cx_cvs C hO (cc_X6_takeOffDivisor l D y ad t X σ (r1 + 2) ((cL_J ha_r1).2.1) _ hw) (va_cwS 1 hts gX4_findEquation_X6_takeOffDivisor rfl rfl rfl (by decide +kernel) ⟨Nat.le_of_ble_eq_true rfl, Nat.le_of_ble_eq_true rfl⟩) rfl hl.1 rfl (lv_room (Nat.le_of_ble_eq_true rfl)) dX4_findEquation_157 (fun σ102 H locs hw hO => ?_)
  refine lv_aload_n hx hb dX4_findEquation_160 rfl (lv_at hl 1 rfl) ?_
  refine cx_get C hO (cL_lt ha_r1).1 (cE_L ha_r1) rfl hinX0 1 (by decide) (idx := 119) (by decide +kernel) rfl rfl dX4_findEquation_161 ?_
  refine lv_aload_n hx hb dX4_findEquation_164 rfl (lv_at hl 1 rfl) ?_
  refine cx_get C hO (cL_lt ha_r1).1 (cE_L ha_r1) rfl hinX0 1 (by decide) (idx := 119) (by decide +kernel) rfl rfl dX4_findEquation_165 ?_
  refine cx_cis C hO (cc_X6_first l D y ad t X σ102 (r1 + 2) ((cL_J ha_r1).2.1) _ hw) (va_cwS 1 hts gX4_findEquation_X6_first rfl rfl rfl (by decide +kernel) ⟨Nat.le_of_ble_eq_true rfl, Nat.le_of_ble_eq_true rfl⟩) rfl hl.1 rfl (lv_room (Nat.le_of_ble_eq_true rfl)) dX4_findEquation_168 (fun u103 σ104 H locs hw hO => ?_)
  refine cx_cvs C hO (cc_X6_turn l D y ad t X σ104 (r1 + 2) u103 ((cL_J ha_r1).2.1) _ hw) (va_cwS 2 hts gX4_findEquation_X6_turn rfl rfl rfl (by decide +kernel) ⟨Nat.le_of_ble_eq_true rfl, Nat.le_of_ble_eq_true rfl⟩) rfl hl.1 rfl (lv_room (Nat.le_of_ble_eq_true rfl)) dX4_findEquation_171 (fun σ106 H locs hw hO => ?_)
  exact cx_vret C hO hw dX4_findEquation_174
set_option maxRecDepth 100000 in
set_option maxHeartbeats 4000000 in
theorem kc_X4_findEquation_e {p : Program} {l : Launch} {e : Env} {s : State} {m : MethodId} {args : Array Value} {below : List Frame} {meth : Method} {c : Code} {D : va_G} {y : Nat → ClassId} {ad t : Nat → Nat} {X : va_W} {A : Nat → Prop} {Q : cS → Prop} (C : cC p s m args meth c cX4_findEquation 2 none RX4 wsX4_findEquation D y t A) {r1 : Nat} (ha_r1 : cL r1 = true)  (σ : cS) (hw : v_X4_findEquation Q r1 σ) (H : Heap) (locs : List Loc) (ls : Array Slot) (hO : cO D y ad X A s.heap H locs σ) (hl : lv_has ls 2 [(0, .ref (ad 9)), (1, .ref (ad r1))]) : W p l e rc_X4_findEquation s m args below meth c H locs 0 0 (MQ below (va_Qv Q (cB D y ad X A) A) args s 0 0 A) (F0 m 0 ls []) := by
  obtain ⟨hx, hb, hr, hml, hown, hts, hlk, hK, hA, hTs, hNw⟩ := id C
  have hinX0 : ∀ w ∈ wsX00, w ∈ wsX4_findEquation := fun _ h => List.mem_cons_of_mem _ (List.mem_append_left _ (List.mem_append_right _ h))
  unfold v_X4_findEquation at hw
  refine lv_aload_n hx hb dX4_findEquation_0 rfl (lv_at hl 1 rfl) ?_
  refine cx_get C hO (cL_lt ha_r1).1 (cE_L ha_r1) rfl hinX0 1 (by decide) (idx := 119) (by decide +kernel) rfl rfl dX4_findEquation_1 ?_
  refine lv_lconst (v := 0) hx hb dX4_findEquation_4 (by decide) ?_
  refine cx_cvs C hO (cc_J7_fill_d0a16 l D y ad t X σ (r1 + 2) (0 : Int64) ((cL_J ha_r1).2.1) _ hw) (va_cwS 2 hts gX4_findEquation_J7_fill_d0a16 rfl rfl rfl (by decide +kernel) ⟨Nat.le_of_ble_eq_true rfl, Nat.le_of_ble_eq_true rfl⟩) rfl hl.1 rfl (lv_room (Nat.le_of_ble_eq_true rfl)) dX4_findEquation_5 (fun σ102 H locs hw hO => ?_)
  refine lv_aload_n hx hb dX4_findEquation_8 rfl (lv_at hl 1 rfl) ?_
  refine cx_get C hO (cL_lt ha_r1).1 (cE_L ha_r1) rfl hinX0 6 (by decide) (idx := 51) (by decide +kernel) rfl rfl dX4_findEquation_9 ?_
  refine lv_iconst (v := 1) hx hb dX4_findEquation_12 (by decide) ?_
  refine lv_icmp_ne (tgt := 36) hx hb dX4_findEquation_13 (by decide) (fun hc => ?_) (fun hc => ?_)
  · have hw := hw.1 hc
    refine lv_aload_n hx hb dX4_findEquation_36 rfl (lv_at hl 1 rfl) ?_
    refine cx_get C hO (cL_lt ha_r1).1 (cE_L ha_r1) rfl hinX0 6 (by decide) (idx := 51) (by decide +kernel) rfl rfl dX4_findEquation_37 ?_
    refine lv_iconst (v := 2) hx hb dX4_findEquation_40 (by decide) ?_
    refine lv_icmp_ne (tgt := 75) hx hb dX4_findEquation_41 (by decide) (fun hc => ?_) (fun hc => ?_)
    · have hw := hw.1 hc
      refine lv_aload_n hx hb dX4_findEquation_75 rfl (lv_at hl 1 rfl) ?_
      refine cx_get C hO (cL_lt ha_r1).1 (cE_L ha_r1) rfl hinX0 6 (by decide) (idx := 51) (by decide +kernel) rfl rfl dX4_findEquation_76 ?_
      refine lv_iconst (v := 3) hx hb dX4_findEquation_79 (by decide) ?_
      refine lv_icmp_ne (tgt := 153) hx hb dX4_findEquation_80 (by decide) (fun hc => ?_) (fun hc => ?_)
      · have hw := hw.1 hc
        exact kc_X4_findEquation_153 C ha_r1 σ102 hw H locs ls hO (lv_sub hl [0, 1] rfl)
      · have hw := hw.2 hc
        refine lv_aload_n hx hb dX4_findEquation_83 rfl (lv_at hl 0 rfl) ?_
        refine lv_aload_n hx hb dX4_findEquation_84 rfl (lv_at hl 1 rfl) ?_
        refine cx_get C hO (cL_lt ha_r1).1 (cE_L ha_r1) rfl hinX0 1 (by decide) (idx := 119) (by decide +kernel) rfl rfl dX4_findEquation_85 ?_
        refine lv_lconst (v := 1) hx hb dX4_findEquation_88 (by decide) ?_
        refine lv_iconst (v := 0) hx hb dX4_findEquation_89 (by decide) ?_
        refine lv_bipush (v := 6) hx hb dX4_findEquation_90 (by decide) ?_
        refine lv_iconst (v := 5) hx hb dX4_findEquation_92 (by decide) ?_
        refine cx_cvv C hO (cc_X4_addProduct l D y ad t X σ102 (r1 + 2) (1 : Int64) (0 : Int32) (6 : Int32) (5 : Int32) ((cL_J ha_r1).2.1) _ hw) (by decide) rfl rfl (cwV 5 hts gX4_findEquation_X4_addProduct rfl rfl rfl (by decide +kernel) ⟨Nat.le_of_ble_eq_true rfl, Nat.le_of_ble_eq_true rfl⟩) rfl hl.1 rfl (lv_room (Nat.le_of_ble_eq_true rfl)) dX4_findEquation_93 (fun σ104 H locs hw hO => ?_)
        refine lv_aload_n hx hb dX4_findEquation_96 rfl (lv_at hl 0 rfl) ?_
        refine lv_aload_n hx hb dX4_findEquation_97 rfl (lv_at hl 1 rfl) ?_
        refine cx_get C hO (cL_lt ha_r1).1 (cE_L ha_r1) rfl hinX0 1 (by decide) (idx := 119) (by decide +kernel) rfl rfl dX4_findEquation_98 ?_
        refine lv_ldc2 (v := 2) hx hb hown (hts (.constantLong RX4 138 (2)) (by decide +kernel)) dX4_findEquation_101 ?_
        refine lv_iconst (v := 1) hx hb dX4_findEquation_104 (by decide) ?_
        refine lv_iconst (v := 2) hx hb dX4_findEquation_105 (by decide) ?_
        refine lv_iconst (v := 4) hx hb dX4_findEquation_106 (by decide) ?_
        refine cx_cvv C hO (cc_X4_addProduct l D y ad t X σ104 (r1 + 2) (2 : Int64) (1 : Int32) (2 : Int32) (4 : Int32) ((cL_J ha_r1).2.1) _ hw) (by decide) rfl rfl (cwV 5 hts gX4_findEquation_X4_addProduct rfl rfl rfl (by decide +kernel) ⟨Nat.le_of_ble_eq_true rfl, Nat.le_of_ble_eq_true rfl⟩) rfl hl.1 rfl (lv_room (Nat.le_of_ble_eq_true rfl)) dX4_findEquation_107 (fun σ106 H locs hw hO => ?_)
        refine lv_aload_n hx hb dX4_findEquation_110 rfl (lv_at hl 0 rfl) ?_
        refine lv_aload_n hx hb dX4_findEquation_111 rfl (lv_at hl 1 rfl) ?_
        refine cx_get C hO (cL_lt ha_r1).1 (cE_L ha_r1) rfl hinX0 1 (by decide) (idx := 119) (by decide +kernel) rfl rfl dX4_findEquation_112 ?_
        refine lv_ldc2 (v := -1) hx hb hown (hts (.constantLong RX4 136 (-1)) (by decide +kernel)) dX4_findEquation_115 ?_
        refine lv_iconst (v := 0) hx hb dX4_findEquation_118 (by decide) ?_
        refine lv_iconst (v := 4) hx hb dX4_findEquation_119 (by decide) ?_
        refine lv_iconst (v := 4) hx hb dX4_findEquation_120 (by decide) ?_
        refine cx_cvv C hO (cc_X4_addProduct l D y ad t X σ106 (r1 + 2) (-1 : Int64) (0 : Int32) (4 : Int32) (4 : Int32) ((cL_J ha_r1).2.1) _ hw) (by decide) rfl rfl (cwV 5 hts gX4_findEquation_X4_addProduct rfl rfl rfl (by decide +kernel) ⟨Nat.le_of_ble_eq_true rfl, Nat.le_of_ble_eq_true rfl⟩) rfl hl.1 rfl (lv_room (Nat.le_of_ble_eq_true rfl)) dX4_findEquation_121 (fun σ108 H locs hw hO => ?_)
        refine lv_aload_n hx hb dX4_findEquation_124 rfl (lv_at hl 0 rfl) ?_
        refine lv_aload_n hx hb dX4_findEquation_125 rfl (lv_at hl 1 rfl) ?_
        refine cx_get C hO (cL_lt ha_r1).1 (cE_L ha_r1) rfl hinX0 1 (by decide) (idx := 119) (by decide +kernel) rfl rfl dX4_findEquation_126 ?_
        refine lv_ldc2 (v := -1) hx hb hown (hts (.constantLong RX4 136 (-1)) (by decide +kernel)) dX4_findEquation_129 ?_
        refine lv_bipush (v := 6) hx hb dX4_findEquation_132 (by decide) ?_
        refine lv_iconst (v := 2) hx hb dX4_findEquation_134 (by decide) ?_
        refine lv_iconst (v := 2) hx hb dX4_findEquation_135 (by decide) ?_
        refine cx_cvv C hO (cc_X4_addProduct l D y ad t X σ108 (r1 + 2) (-1 : Int64) (6 : Int32) (2 : Int32) (2 : Int32) ((cL_J ha_r1).2.1) _ hw) (by decide) rfl rfl (cwV 5 hts gX4_findEquation_X4_addProduct rfl rfl rfl (by decide +kernel) ⟨Nat.le_of_ble_eq_true rfl, Nat.le_of_ble_eq_true rfl⟩) rfl hl.1 rfl (lv_room (Nat.le_of_ble_eq_true rfl)) dX4_findEquation_136 (fun σ110 H locs hw hO => ?_)
        refine lv_aload_n hx hb dX4_findEquation_139 rfl (lv_at hl 0 rfl) ?_
        refine lv_aload_n hx hb dX4_findEquation_140 rfl (lv_at hl 1 rfl) ?_
        refine cx_get C hO (cL_lt ha_r1).1 (cE_L ha_r1) rfl hinX0 1 (by decide) (idx := 119) (by decide +kernel) rfl rfl dX4_findEquation_141 ?_
        refine lv_ldc2 (v := -1) hx hb hown (hts (.constantLong RX4 136 (-1)) (by decide +kernel)) dX4_findEquation_144 ?_
        refine lv_iconst (v := 5) hx hb dX4_findEquation_147 (by decide) ?_
        refine lv_iconst (v := 1) hx hb dX4_findEquation_148 (by decide) ?_
        refine lv_iconst (v := 1) hx hb dX4_findEquation_149 (by decide) ?_
        refine cx_cvv C hO (cc_X4_addProduct l D y ad t X σ110 (r1 + 2) (-1 : Int64) (5 : Int32) (1 : Int32) (1 : Int32) ((cL_J ha_r1).2.1) _ hw) (by decide) rfl rfl (cwV 5 hts gX4_findEquation_X4_addProduct rfl rfl rfl (by decide +kernel) ⟨Nat.le_of_ble_eq_true rfl, Nat.le_of_ble_eq_true rfl⟩) rfl hl.1 rfl (lv_room (Nat.le_of_ble_eq_true rfl)) dX4_findEquation_150 (fun σ112 H locs hw hO => ?_)
        exact kc_X4_findEquation_153 C ha_r1 σ112 hw H locs ls hO (lv_sub hl [0, 1] rfl)
    · have hw := hw.2 hc
      refine lv_aload_n hx hb dX4_findEquation_44 rfl (lv_at hl 0 rfl) ?_
      refine lv_aload_n hx hb dX4_findEquation_45 rfl (lv_at hl 1 rfl) ?_
      refine cx_get C hO (cL_lt ha_r1).1 (cE_L ha_r1) rfl hinX0 1 (by decide) (idx := 119) (by decide +kernel) rfl rfl dX4_findEquation_46 ?_
      refine lv_lconst (v := 1) hx hb dX4_findEquation_49 (by decide) ?_
      refine lv_iconst (v := 0) hx hb dX4_findEquation_50 (by decide) ?_
      refine lv_iconst (v := 3) hx hb dX4_findEquation_51 (by decide) ?_
      refine lv_bipush (v := 7) hx hb dX4_findEquation_52 (by decide) ?_
      refine cx_cvv C hO (cc_X4_addProduct l D y ad t X σ102 (r1 + 2) (1 : Int64) (0 : Int32) (3 : Int32) (7 : Int32) ((cL_J ha_r1).2.1) _ hw) (by decide) rfl rfl (cwV 5 hts gX4_findEquation_X4_addProduct rfl rfl rfl (by decide +kernel) ⟨Nat.le_of_ble_eq_true rfl, Nat.le_of_ble_eq_true rfl⟩) rfl hl.1 rfl (lv_room (Nat.le_of_ble_eq_true rfl)) dX4_findEquation_54 (fun σ114 H locs hw hO => ?_)
      refine lv_aload_n hx hb dX4_findEquation_57 rfl (lv_at hl 0 rfl) ?_
      refine lv_aload_n hx hb dX4_findEquation_58 rfl (lv_at hl 1 rfl) ?_
      refine cx_get C hO (cL_lt ha_r1).1 (cE_L ha_r1) rfl hinX0 1 (by decide) (idx := 119) (by decide +kernel) rfl rfl dX4_findEquation_59 ?_
      refine lv_ldc2 (v := -1) hx hb hown (hts (.constantLong RX4 136 (-1)) (by decide +kernel)) dX4_findEquation_62 ?_
      refine lv_iconst (v := 1) hx hb dX4_findEquation_65 (by decide) ?_
      refine lv_iconst (v := 1) hx hb dX4_findEquation_66 (by decide) ?_
      refine lv_bipush (v := 7) hx hb dX4_findEquation_67 (by decide) ?_
      refine cx_cvv C hO (cc_X4_addProduct l D y ad t X σ114 (r1 + 2) (-1 : Int64) (1 : Int32) (1 : Int32) (7 : Int32) ((cL_J ha_r1).2.1) _ hw) (by decide) rfl rfl (cwV 5 hts gX4_findEquation_X4_addProduct rfl rfl rfl (by decide +kernel) ⟨Nat.le_of_ble_eq_true rfl, Nat.le_of_ble_eq_true rfl⟩) rfl hl.1 rfl (lv_room (Nat.le_of_ble_eq_true rfl)) dX4_findEquation_69 (fun σ116 H locs hw hO => ?_)
      refine lv_goto (tgt := 153) hx hb dX4_findEquation_72 (by decide) ?_
      exact kc_X4_findEquation_153 C ha_r1 σ116 hw H locs ls hO (lv_sub hl [0, 1] rfl)
  · have hw := hw.2 hc
    refine lv_aload_n hx hb dX4_findEquation_16 rfl (lv_at hl 0 rfl) ?_
    refine lv_aload_n hx hb dX4_findEquation_17 rfl (lv_at hl 1 rfl) ?_
    refine cx_get C hO (cL_lt ha_r1).1 (cE_L ha_r1) rfl hinX0 1 (by decide) (idx := 119) (by decide +kernel) rfl rfl dX4_findEquation_18 ?_
    refine lv_lconst (v := 1) hx hb dX4_findEquation_21 (by decide) ?_
    refine lv_aload_n hx hb dX4_findEquation_22 rfl (lv_at hl 0 rfl) ?_
    refine cx_civ C hO (cc_X4_firstForm l D y ad t X σ102 _ hw) (by decide) rfl rfl (cwV 0 hts gX4_findEquation_X4_firstForm rfl rfl rfl (by decide +kernel) ⟨Nat.le_of_ble_eq_true rfl, Nat.le_of_ble_eq_true rfl⟩) rfl hl.1 rfl (lv_room (Nat.le_of_ble_eq_true rfl)) dX4_findEquation_23 (fun u117 σ118 H locs hw hO => ?_)
    refine lv_bipush (v := 7) hx hb dX4_findEquation_26 (by decide) ?_
    refine lv_bipush (v := 7) hx hb dX4_findEquation_28 (by decide) ?_
    refine cx_cvv C hO (cc_X4_addProduct l D y ad t X σ118 (r1 + 2) (1 : Int64) u117 (7 : Int32) (7 : Int32) ((cL_J ha_r1).2.1) _ hw) (by decide) rfl rfl (cwV 5 hts gX4_findEquation_X4_addProduct rfl rfl rfl (by decide +kernel) ⟨Nat.le_of_ble_eq_true rfl, Nat.le_of_ble_eq_true rfl⟩) rfl hl.1 rfl (lv_room (Nat.le_of_ble_eq_true rfl)) dX4_findEquation_30 (fun σ120 H locs hw hO => ?_)
    refine lv_goto (tgt := 153) hx hb dX4_findEquation_33 (by decide) ?_
    exact kc_X4_findEquation_153 C ha_r1 σ120 hw H locs ls hO (lv_sub hl [0, 1] rfl)
theorem cc_X4_findEquation (l : Launch) (D : va_G) (y : Nat → ClassId) (ad t : Nat → Nat) (X : va_W) (σ : cS) (r1 : Nat) (ha_r1 : cL r1 = true) (Q : cS → Prop) (hw : v_X4_findEquation Q r1 σ) : ∀ sz, Met l yX4_findEquation wsX4_findEquation rc_X4_findEquation (va_Pc [.ref (ad 9), .ref (ad r1)] (cPre D y ad t X sz σ)) (va_Qv Q (cB D y ad X (va_A (cW y ad σ ++ X) sz)) (va_A (cW y ad σ ++ X) sz)) 0 0 (va_A (cW y ad σ ++ X) sz) :=
  cMet (Qc := fun A => va_Qv Q (cB D y ad X A) A) (by decide) (own := RX4) rfl (Nat.le_of_ble_eq_true rfl) (fun p e s m args below meth c A ls C hO hl => kc_X4_findEquation_e C ha_r1 σ hw s.heap [] ls hO hl)
abbrev rc_X4_findKnotted : Room := { frames := 3, cells := 0, slots := 0, locals := 74 }
set_option maxRecDepth 100000 in
set_option maxHeartbeats 4000000 in
theorem kc_X4_findKnotted_2 {p : Program} {l : Launch} {e : Env} {s : State} {m : MethodId} {args : Array Value} {below : List Frame} {meth : Method} {c : Code} {D : va_G} {y : Nat → ClassId} {ad t : Nat → Nat} {X : va_W} {A : Nat → Prop} {Q : cS → Prop} (C : cC p s m args meth c cX4_findKnotted 2 none RX4 wsX4_findKnotted D y t A) (n : Nat) : ∀ (x1 : Int32) (σ : cS), v_X4_findKnotted_2 Q n x1 σ → ∀ (H : Heap) (locs : List Loc) (ls : Array Slot), cO D y ad X A s.heap H locs σ → lv_has ls 2 [(0, .ref (ad 9)), (1, .int x1)] → W p l e rc_X4_findKnotted s m args below meth c H locs 0 0 (MQ below (va_Qv Q (cB D y ad X A) A) args s 0 0 A) (F0 m 2 ls []) := by
  obtain ⟨hx, hb, hr, hml, hown, hts, hlk, hK, hA, hTs, hNw⟩ := id C
  have hinX4 : ∀ w ∈ wsX40, w ∈ wsX4_findKnotted := fun _ h => List.mem_cons_of_mem _ (List.mem_append_right _ h)
  induction n with
  | zero =>
    intro x1 σ hw
    exact (show False from hw).elim
  | succ n ih =>
    intro x1 σ hw H locs ls hO hl
    unfold v_X4_findKnotted_2 at hw
    refine lv_iload_n hx hb dX4_findKnotted_2 rfl (lv_at hl 1 rfl) ?_
    refine lv_iconst (v := 3) hx hb dX4_findKnotted_3 (by decide) ?_
    refine lv_icmp_ge (tgt := 39) hx hb dX4_findKnotted_4 (by decide) (fun hc => ?_) (fun hc => ?_)
    · have hw := hw.1 hc
      refine lv_aload_n hx hb dX4_findKnotted_39 rfl (lv_at hl 0 rfl) ?_
      refine cx_cvv C hO (cc_X4_cross l D y ad t X σ _ hw) (by decide) rfl rfl (cwV 0 hts gX4_findKnotted_X4_cross rfl rfl rfl (by decide +kernel) ⟨Nat.le_of_ble_eq_true rfl, Nat.le_of_ble_eq_true rfl⟩) rfl hl.1 rfl (lv_room (Nat.le_of_ble_eq_true rfl)) dX4_findKnotted_40 (fun σ102 H locs hw hO => ?_)
      refine lv_aload_n hx hb dX4_findKnotted_43 rfl (lv_at hl 0 rfl) ?_
      refine cx_get C hO (by decide) rfl rfl hinX4 3 (by decide) (idx := 21) (by decide +kernel) rfl rfl dX4_findKnotted_44 ?_
      refine lv_iconst (v := 0) hx hb dX4_findKnotted_47 (by decide) ?_
      refine lv_aload_n hx hb dX4_findKnotted_48 rfl (lv_at hl 0 rfl) ?_
      refine cx_get C hO (by decide) rfl rfl hinX4 5 (by decide) (idx := 27) (by decide +kernel) rfl rfl dX4_findKnotted_49 ?_
      refine lv_iconst (v := 0) hx hb dX4_findKnotted_52 (by decide) ?_
      refine lv_iconst (v := 3) hx hb dX4_findKnotted_53 (by decide) ?_
      refine cx_copy C hO (a0 := 13) (a := 15) rfl rfl (by decide +kernel) hw.1.1 hw.1.2.1 hw.1.2.2.1 hw.1.2.2.2.1 hw.1.2.2.2.2 (Nat.le_of_ble_eq_true rfl) (Nat.le_of_ble_eq_true rfl) hl.1 dX4_findKnotted_54 (fun H locs σ103 eσ103 hO => ?_)
      have hw := hw.2 σ103 eσ103
      refine lv_aload_n hx hb dX4_findKnotted_57 rfl (lv_at hl 0 rfl) ?_
      refine cx_get C hO (by decide) rfl rfl hinX4 5 (by decide) (idx := 27) (by decide +kernel) rfl rfl dX4_findKnotted_58 ?_
      refine cx_cvs C hO (cc_X6_takeOffDivisor l D y ad t X σ103 15 rfl _ hw) (va_cwS 1 hts gX4_findKnotted_X6_takeOffDivisor rfl rfl rfl (by decide +kernel) ⟨Nat.le_of_ble_eq_true rfl, Nat.le_of_ble_eq_true rfl⟩) rfl hl.1 rfl (lv_room (Nat.le_of_ble_eq_true rfl)) dX4_findKnotted_61 (fun σ105 H locs hw hO => ?_)
      exact cx_vret C hO hw dX4_findKnotted_64
    · have hw := hw.2 hc
      refine lv_aload_n hx hb dX4_findKnotted_7 rfl (lv_at hl 0 rfl) ?_
      refine cx_get C hO (by decide) rfl rfl hinX4 1 (by decide) (idx := 15) (by decide +kernel) rfl rfl dX4_findKnotted_8 ?_
      refine lv_iload_n hx hb dX4_findKnotted_11 rfl (lv_at hl 1 rfl) ?_
      refine lv_aload_n hx hb dX4_findKnotted_12 rfl (lv_at hl 0 rfl) ?_
      refine cx_get C hO (by decide) rfl rfl hinX4 4 (by decide) (idx := 24) (by decide +kernel) rfl rfl dX4_findKnotted_13 ?_
      refine lv_iload_n hx hb dX4_findKnotted_16 rfl (lv_at hl 1 rfl) ?_
      refine cx_lald C hO (a := 14) rfl hw.1 dX4_findKnotted_17 ?_
      have hw := hw.2
      refine cx_last C hO (a := 11) rfl hw.1 dX4_findKnotted_18 (fun H locs σ106 eσ106 hO => ?_)
      have hw := hw.2 σ106 eσ106
      refine lv_aload_n hx hb dX4_findKnotted_19 rfl (lv_at hl 0 rfl) ?_
      refine cx_get C hO (by decide) rfl rfl hinX4 2 (by decide) (idx := 18) (by decide +kernel) rfl rfl dX4_findKnotted_20 ?_
      refine lv_iload_n hx hb dX4_findKnotted_23 rfl (lv_at hl 1 rfl) ?_
      refine lv_aload_n hx hb dX4_findKnotted_24 rfl (lv_at hl 0 rfl) ?_
      refine cx_get C hO (by decide) rfl rfl hinX4 4 (by decide) (idx := 24) (by decide +kernel) rfl rfl dX4_findKnotted_25 ?_
      refine lv_iload_n hx hb dX4_findKnotted_28 rfl (lv_at hl 1 rfl) ?_
      refine lv_iconst (v := 1) hx hb dX4_findKnotted_29 (by decide) ?_
      refine lv_iadd hx hb dX4_findKnotted_30 ?_
      refine cx_lald C hO (a := 14) rfl hw.1 dX4_findKnotted_31 ?_
      have hw := hw.2
      refine cx_last C hO (a := 12) rfl hw.1 dX4_findKnotted_32 (fun H locs σ107 eσ107 hO => ?_)
      have hw := hw.2 σ107 eσ107
      obtain ⟨x1_108, ex1_108⟩ : ∃ y : Int32, y = x1 + 1 := ⟨_, rfl⟩
      have hw := hw x1_108 ex1_108
      refine lv_iinc (v := x1_108) (lv' := [(1, .int x1_108), (0, .ref (ad 9))]) hx hb dX4_findKnotted_33 hl (k := 1) rfl (by rw [ex1_108]; rfl) (by decide) rfl (fun ls hl => ?_)
      refine lv_goto (tgt := 2) hx hb dX4_findKnotted_36 (by decide) ?_
      exact ih x1_108 σ107 hw H locs ls hO (lv_sub hl [1, 0] rfl)
set_option maxRecDepth 100000 in
set_option maxHeartbeats 4000000 in
theorem kc_X4_findKnotted_e {p : Program} {l : Launch} {e : Env} {s : State} {m : MethodId} {args : Array Value} {below : List Frame} {meth : Method} {c : Code} {D : va_G} {y : Nat → ClassId} {ad t : Nat → Nat} {X : va_W} {A : Nat → Prop} {Q : cS → Prop} (C : cC p s m args meth c cX4_findKnotted 2 none RX4 wsX4_findKnotted D y t A)  (σ : cS) (hw : v_X4_findKnotted Q σ) (H : Heap) (locs : List Loc) (ls : Array Slot) (hO : cO D y ad X A s.heap H locs σ) (hl : lv_has ls 2 [(0, .ref (ad 9))]) : W p l e rc_X4_findKnotted s m args below meth c H locs 0 0 (MQ below (va_Qv Q (cB D y ad X A) A) args s 0 0 A) (F0 m 0 ls []) := by
  obtain ⟨hx, hb, hr, hml, hown, hts, hlk, hK, hA, hTs, hNw⟩ := id C
  unfold v_X4_findKnotted at hw
  refine lv_iconst (v := 0) hx hb dX4_findKnotted_0 (by decide) ?_
  refine lv_istore_n (lv' := [(1, .int ((0 : Int32))), (0, .ref (ad 9))]) hx hb dX4_findKnotted_1 rfl hl (by decide) rfl (fun ls hl => ?_)
  exact kc_X4_findKnotted_2 C fuL ((0 : Int32)) σ hw H locs ls hO (lv_sub hl [1, 0] rfl)
theorem cc_X4_findKnotted (l : Launch) (D : va_G) (y : Nat → ClassId) (ad t : Nat → Nat) (X : va_W) (σ : cS)  (Q : cS → Prop) (hw : v_X4_findKnotted Q σ) : ∀ sz, Met l yX4_findKnotted wsX4_findKnotted rc_X4_findKnotted (va_Pc [.ref (ad 9)] (cPre D y ad t X sz σ)) (va_Qv Q (cB D y ad X (va_A (cW y ad σ ++ X) sz)) (va_A (cW y ad σ ++ X) sz)) 0 0 (va_A (cW y ad σ ++ X) sz) :=
  cMet (Qc := fun A => va_Qv Q (cB D y ad X A) A) (by decide) (own := RX4) rfl (Nat.le_of_ble_eq_true rfl) (fun p e s m args below meth c A ls C hO hl => kc_X4_findKnotted_e C σ hw s.heap [] ls hO hl)
abbrev rc_X4_knottedNumber : Room := { frames := 0, cells := 0, slots := 0, locals := 0 }
set_option maxRecDepth 100000 in
set_option maxHeartbeats 4000000 in
theorem kc_X4_knottedNumber_19 {p : Program} {l : Launch} {e : Env} {s : State} {m : MethodId} {args : Array Value} {below : List Frame} {meth : Method} {c : Code} {D : va_G} {y : Nat → ClassId} {ad t : Nat → Nat} {X : va_W} {A : Nat → Prop} {Q : Int64 → cS → Prop} (C : cC p s m args meth c cX4_knottedNumber 2 (some .long) RX4 wsX4_knottedNumber D y t A) (z0 : Int64) (σ : cS) (hw : v_X4_knottedNumber_19 Q z0 σ) (H : Heap) (locs : List Loc) (ls : Array Slot) (hO : cO D y ad X A s.heap H locs σ) (hl : lv_has ls 2 [(0, .ref (ad 9))]) : W p l e rc_X4_knottedNumber s m args below meth c H locs 0 0 (MQ below (va_Ql Q (cB D y ad X A) A) args s 0 0 A) (F0 m 19 ls [.long z0]) := by
  obtain ⟨hx, hb, hr, hml, hown, hts, hlk, hK, hA, hTs, hNw⟩ := id C
  unfold v_X4_knottedNumber_19 at hw
  exact cx_lret C hO hw dX4_knottedNumber_19
set_option maxRecDepth 100000 in
set_option maxHeartbeats 4000000 in
theorem kc_X4_knottedNumber_9 {p : Program} {l : Launch} {e : Env} {s : State} {m : MethodId} {args : Array Value} {below : List Frame} {meth : Method} {c : Code} {D : va_G} {y : Nat → ClassId} {ad t : Nat → Nat} {X : va_W} {A : Nat → Prop} {Q : Int64 → cS → Prop} (C : cC p s m args meth c cX4_knottedNumber 2 (some .long) RX4 wsX4_knottedNumber D y t A)  (σ : cS) (hw : v_X4_knottedNumber_9 Q σ) (H : Heap) (locs : List Loc) (ls : Array Slot) (hO : cO D y ad X A s.heap H locs σ) (hl : lv_has ls 2 [(0, .ref (ad 9))]) : W p l e rc_X4_knottedNumber s m args below meth c H locs 0 0 (MQ below (va_Ql Q (cB D y ad X A) A) args s 0 0 A) (F0 m 9 ls []) := by
  obtain ⟨hx, hb, hr, hml, hown, hts, hlk, hK, hA, hTs, hNw⟩ := id C
  unfold v_X4_knottedNumber_9 at hw
  refine lv_lconst (v := 0) hx hb dX4_knottedNumber_9 (by decide) ?_
  refine lv_goto (tgt := 19) hx hb dX4_knottedNumber_10 (by decide) ?_
  exact kc_X4_knottedNumber_19 C ((0 : Int64)) σ hw H locs ls hO (lv_sub hl [0] rfl)
set_option maxRecDepth 100000 in
set_option maxHeartbeats 4000000 in
theorem kc_X4_knottedNumber_e {p : Program} {l : Launch} {e : Env} {s : State} {m : MethodId} {args : Array Value} {below : List Frame} {meth : Method} {c : Code} {D : va_G} {y : Nat → ClassId} {ad t : Nat → Nat} {X : va_W} {A : Nat → Prop} {Q : Int64 → cS → Prop} (C : cC p s m args meth c cX4_knottedNumber 2 (some .long) RX4 wsX4_knottedNumber D y t A) (x1 : Int32) (σ : cS) (hw : v_X4_knottedNumber Q x1 σ) (H : Heap) (locs : List Loc) (ls : Array Slot) (hO : cO D y ad X A s.heap H locs σ) (hl : lv_has ls 2 [(0, .ref (ad 9)), (1, .int x1)]) : W p l e rc_X4_knottedNumber s m args below meth c H locs 0 0 (MQ below (va_Ql Q (cB D y ad X A) A) args s 0 0 A) (F0 m 0 ls []) := by
  obtain ⟨hx, hb, hr, hml, hown, hts, hlk, hK, hA, hTs, hNw⟩ := id C
  have hinX4 : ∀ w ∈ wsX40, w ∈ wsX4_knottedNumber := fun _ h => List.mem_cons_of_mem _ (List.mem_append_right _ h)
  unfold v_X4_knottedNumber at hw
  refine lv_iload_n hx hb dX4_knottedNumber_0 rfl (lv_at hl 1 rfl) ?_
  refine lv_if_lt (tgt := 9) hx hb dX4_knottedNumber_1 (by decide) (fun hc => ?_) (fun hc => ?_)
  · have hw := hw.1 hc
    exact kc_X4_knottedNumber_9 C σ hw H locs ls hO (lv_sub hl [0] rfl)
  · have hw := hw.2 hc
    refine lv_iload_n hx hb dX4_knottedNumber_4 rfl (lv_at hl 1 rfl) ?_
    refine lv_iconst (v := 2) hx hb dX4_knottedNumber_5 (by decide) ?_
    refine lv_icmp_le (tgt := 13) hx hb dX4_knottedNumber_6 (by decide) (fun hc => ?_) (fun hc => ?_)
    · have hw := hw.1 hc
      refine lv_aload_n hx hb dX4_knottedNumber_13 rfl (lv_at hl 0 rfl) ?_
      refine cx_get C hO (by decide) rfl rfl hinX4 5 (by decide) (idx := 27) (by decide +kernel) rfl rfl dX4_knottedNumber_14 ?_
      refine lv_iload_n hx hb dX4_knottedNumber_17 rfl (lv_at hl 1 rfl) ?_
      refine cx_lald C hO (a := 15) rfl hw.1 dX4_knottedNumber_18 ?_
      have hw := hw.2
      exact kc_X4_knottedNumber_19 C (σ.1 15 (x1).toNatClampNeg) σ hw H locs ls hO (lv_sub hl [0] rfl)
    · have hw := hw.2 hc
      exact kc_X4_knottedNumber_9 C σ hw H locs ls hO (lv_sub hl [0] rfl)
theorem cc_X4_knottedNumber (l : Launch) (D : va_G) (y : Nat → ClassId) (ad t : Nat → Nat) (X : va_W) (σ : cS) (x1 : Int32) (Q : Int64 → cS → Prop) (hw : v_X4_knottedNumber Q x1 σ) : ∀ sz, Met l yX4_knottedNumber wsX4_knottedNumber rc_X4_knottedNumber (va_Pc [.ref (ad 9), .int x1] (cPre D y ad t X sz σ)) (va_Ql Q (cB D y ad X (va_A (cW y ad σ ++ X) sz)) (va_A (cW y ad σ ++ X) sz)) 0 0 (va_A (cW y ad σ ++ X) sz) :=
  cMet (Qc := fun A => va_Ql Q (cB D y ad X A) A) (by decide) (own := RX4) rfl (Nat.le_of_ble_eq_true rfl) (fun p e s m args below meth c A ls C hO hl => kc_X4_knottedNumber_e C x1 σ hw s.heap [] ls hO hl)
