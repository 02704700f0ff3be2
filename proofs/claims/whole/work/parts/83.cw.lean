/-! the class: what each method does, and the walk of its bytecode (written by wip/tools/cgen.py) -/
abbrev rc_X4_addToLaw : Room := { frames := 2, cells := 0, slots := 0, locals := 51 }
set_option maxRecDepth 100000 in
set_option maxHeartbeats 4000000 in
theorem kc_X4_addToLaw_12 {p : Program} {l : Launch} {e : Env} {s : State} {m : MethodId} {args : Array Value} {below : List Frame} {meth : Method} {c : Code} {D : va_G} {y : Nat → ClassId} {ad t : Nat → Nat} {X : va_W} {A : Nat → Prop} {Q : cS → Prop} (C : cC p s m args meth c cX4_addToLaw 6 none RX4 wsX4_addToLaw D y t A) {r1 : Nat} (ha_r1 : cL r1 = true) (n : Nat) : ∀ (x2 : Int32) (x5 : Int32) (σ : cS), v_X4_addToLaw_12 Q r1 n x2 x5 σ → ∀ (H : Heap) (locs : List Loc) (ls : Array Slot), cO D y ad X A s.heap H locs σ → lv_has ls 6 [(0, .ref (ad 9)), (1, .ref (ad r1)), (2, .int x2), (5, .int x5)] → W p l e rc_X4_addToLaw s m args below meth c H locs 0 0 (MQ below (va_Qv Q (cB D y ad X A) A) args s 0 0 A) (F0 m 12 ls []) := by
  obtain ⟨hx, hb, hr, hml, hown, hts, hlk, hK, hA, hTs, hNw⟩ := id C
  have hinX0 : ∀ w ∈ wsX00, w ∈ wsX4_addToLaw := fun _ h => List.mem_cons_of_mem _ (List.mem_append_left _ (List.mem_append_right _ h))
  have hinX4 : ∀ w ∈ wsX40, w ∈ wsX4_addToLaw := fun _ h => List.mem_cons_of_mem _ (List.mem_append_right _ h)
  induction n with
  | zero =>
    intro x2 x5 σ hw
    exact (show False from hw).elim
  | succ n ih =>
    intro x2 x5 σ hw H locs ls hO hl
    unfold v_X4_addToLaw_12 at hw
    refine lv_iload hx hb dX4_addToLaw_12 (lv_at hl 3 rfl) ?_
    refine lv_iconst (v := 3) hx hb dX4_addToLaw_14 (by decide) ?_
    refine lv_icmp_ge (tgt := 78) hx hb dX4_addToLaw_15 (by decide) (fun hc => ?_) (fun hc => ?_)
    · have hw := hw.1 hc
      exact cx_vret C hO hw dX4_addToLaw_78
    · have hw := hw.2 hc
      refine lv_aload_n hx hb dX4_addToLaw_18 rfl (lv_at hl 1 rfl) ?_
      refine cx_get C hO (cL_lt ha_r1).1 (cE_L ha_r1) rfl hinX0 2 (by decide) (idx := 156) (by decide +kernel) rfl rfl dX4_addToLaw_19 ?_
      refine lv_iconst (v := 2) hx hb dX4_addToLaw_22 (by decide) ?_
      refine lv_iload hx hb dX4_addToLaw_23 (lv_at hl 3 rfl) ?_
      refine lv_imul hx hb dX4_addToLaw_25 ?_
      refine lv_dup2_11 hx hb dX4_addToLaw_26 rfl rfl ?_
      refine cx_lald C hO (a := (r1 + 3)) ((cL_J ha_r1).2.2.1) hw.1 dX4_addToLaw_27 ?_
      have hw := hw.2
      refine lv_aload_n hx hb dX4_addToLaw_28 rfl (lv_at hl 0 rfl) ?_
      refine lv_iload_n hx hb dX4_addToLaw_29 rfl (lv_at hl 2 rfl) ?_
      refine cx_clv C hO (cc_X4_knottedNumber l D y ad t X σ x2 _ hw) (by decide) rfl rfl (cwV 1 hts gX4_addToLaw_X4_knottedNumber rfl rfl rfl (by decide +kernel) ⟨Nat.le_of_ble_eq_true rfl, Nat.le_of_ble_eq_true rfl⟩) rfl hl.1 rfl (lv_room (Nat.le_of_ble_eq_true rfl)) dX4_addToLaw_30 (fun u101 σ102 H locs hw hO => ?_)
      refine lv_aload_n hx hb dX4_addToLaw_33 rfl (lv_at hl 0 rfl) ?_
      refine cx_get C hO (by decide) rfl rfl hinX4 0 (by decide) (idx := 9) (by decide +kernel) rfl rfl dX4_addToLaw_34 ?_
      refine lv_iload hx hb dX4_addToLaw_37 (lv_at hl 3 rfl) ?_
      refine cx_lald C hO (a := 10) rfl hw.1 dX4_addToLaw_39 ?_
      have hw := hw.2
      refine lv_lmul hx hb dX4_addToLaw_40 ?_
      refine lv_ladd hx hb dX4_addToLaw_41 ?_
      refine cx_last C hO (a := (r1 + 3)) ((cL_J ha_r1).2.2.1) hw.1 dX4_addToLaw_42 (fun H locs σ103 eσ103 hO => ?_)
      have hw := hw.2 σ103 eσ103
      refine lv_aload_n hx hb dX4_addToLaw_43 rfl (lv_at hl 1 rfl) ?_
      refine cx_get C hO (cL_lt ha_r1).1 (cE_L ha_r1) rfl hinX0 2 (by decide) (idx := 156) (by decide +kernel) rfl rfl dX4_addToLaw_44 ?_
      refine lv_iconst (v := 2) hx hb dX4_addToLaw_47 (by decide) ?_
      refine lv_iload hx hb dX4_addToLaw_48 (lv_at hl 3 rfl) ?_
      refine lv_imul hx hb dX4_addToLaw_50 ?_
      refine lv_iconst (v := 1) hx hb dX4_addToLaw_51 (by decide) ?_
      refine lv_iadd hx hb dX4_addToLaw_52 ?_
      refine lv_dup2_11 hx hb dX4_addToLaw_53 rfl rfl ?_
      refine cx_lald C hO (a := (r1 + 3)) ((cL_J ha_r1).2.2.1) hw.1 dX4_addToLaw_54 ?_
      have hw := hw.2
      refine lv_aload_n hx hb dX4_addToLaw_55 rfl (lv_at hl 0 rfl) ?_
      refine lv_iload_n hx hb dX4_addToLaw_56 rfl (lv_at hl 2 rfl) ?_
      refine lv_iconst (v := 1) hx hb dX4_addToLaw_57 (by decide) ?_
      refine lv_isub hx hb dX4_addToLaw_58 ?_
      refine cx_clv C hO (cc_X4_knottedNumber l D y ad t X σ103 (x2 - (1 : Int32)) _ hw) (by decide) rfl rfl (cwV 1 hts gX4_addToLaw_X4_knottedNumber rfl rfl rfl (by decide +kernel) ⟨Nat.le_of_ble_eq_true rfl, Nat.le_of_ble_eq_true rfl⟩) rfl hl.1 rfl (lv_room (Nat.le_of_ble_eq_true rfl)) dX4_addToLaw_59 (fun u104 σ105 H locs hw hO => ?_)
      refine lv_aload_n hx hb dX4_addToLaw_62 rfl (lv_at hl 0 rfl) ?_
      refine cx_get C hO (by decide) rfl rfl hinX4 0 (by decide) (idx := 9) (by decide +kernel) rfl rfl dX4_addToLaw_63 ?_
      refine lv_iload hx hb dX4_addToLaw_66 (lv_at hl 3 rfl) ?_
      refine cx_lald C hO (a := 10) rfl hw.1 dX4_addToLaw_68 ?_
      have hw := hw.2
      refine lv_lmul hx hb dX4_addToLaw_69 ?_
      refine lv_lsub hx hb dX4_addToLaw_70 ?_
      refine cx_last C hO (a := (r1 + 3)) ((cL_J ha_r1).2.2.1) hw.1 dX4_addToLaw_71 (fun H locs σ106 eσ106 hO => ?_)
      have hw := hw.2 σ106 eσ106
      obtain ⟨x5_107, ex5_107⟩ : ∃ y : Int32, y = x5 + 1 := ⟨_, rfl⟩
      have hw := hw x5_107 ex5_107
      refine lv_iinc (v := x5_107) (lv' := [(5, .int x5_107), (0, .ref (ad 9)), (1, .ref (ad r1)), (2, .int x2)]) hx hb dX4_addToLaw_72 hl (k := 3) rfl (by rw [ex5_107]; rfl) (by decide) rfl (fun ls hl => ?_)
      refine lv_goto (tgt := 12) hx hb dX4_addToLaw_75 (by decide) ?_
      exact ih x2 x5_107 σ106 hw H locs ls hO (lv_sub hl [1, 2, 3, 0] rfl)
set_option maxRecDepth 100000 in
set_option maxHeartbeats 4000000 in
theorem kc_X4_addToLaw_e {p : Program} {l : Launch} {e : Env} {s : State} {m : MethodId} {args : Array Value} {below : List Frame} {meth : Method} {c : Code} {D : va_G} {y : Nat → ClassId} {ad t : Nat → Nat} {X : va_W} {A : Nat → Prop} {Q : cS → Prop} (C : cC p s m args meth c cX4_addToLaw 6 none RX4 wsX4_addToLaw D y t A) {r1 : Nat} (ha_r1 : cL r1 = true) (x2 : Int32) (x3 : Int32) (x4 : Int32) (σ : cS) (hw : v_X4_addToLaw Q r1 x2 x3 x4 σ) (H : Heap) (locs : List Loc) (ls : Array Slot) (hO : cO D y ad X A s.heap H locs σ) (hl : lv_has ls 6 [(0, .ref (ad 9)), (1, .ref (ad r1)), (2, .int x2), (3, .int x3), (4, .int x4)]) : W p l e rc_X4_addToLaw s m args below meth c H locs 0 0 (MQ below (va_Qv Q (cB D y ad X A) A) args s 0 0 A) (F0 m 0 ls []) := by
  obtain ⟨hx, hb, hr, hml, hown, hts, hlk, hK, hA, hTs, hNw⟩ := id C
  unfold v_X4_addToLaw at hw
  refine lv_aload_n hx hb dX4_addToLaw_0 rfl (lv_at hl 0 rfl) ?_
  refine lv_aload_n hx hb dX4_addToLaw_1 rfl (lv_at hl 1 rfl) ?_
  refine lv_iconst (v := 0) hx hb dX4_addToLaw_2 (by decide) ?_
  refine lv_iload_n hx hb dX4_addToLaw_3 rfl (lv_at hl 3 rfl) ?_
  refine lv_iload hx hb dX4_addToLaw_4 (lv_at hl 4 rfl) ?_
  refine cx_cvv C hO (cc_X4_findForm l D y ad t X σ r1 (0 : Int32) x3 x4 ha_r1 _ hw) (by decide) rfl rfl (cwV 4 hts gX4_addToLaw_X4_findForm rfl rfl rfl (by decide +kernel) ⟨Nat.le_of_ble_eq_true rfl, Nat.le_of_ble_eq_true rfl⟩) rfl hl.1 rfl (lv_room (Nat.le_of_ble_eq_true rfl)) dX4_addToLaw_6 (fun σ102 H locs hw hO => ?_)
  refine lv_iconst (v := 0) hx hb dX4_addToLaw_9 (by decide) ?_
  refine lv_istore (lv' := [(5, .int ((0 : Int32))), (0, .ref (ad 9)), (1, .ref (ad r1)), (2, .int x2), (3, .int x3), (4, .int x4)]) hx hb dX4_addToLaw_10 hl (by decide) rfl (fun ls hl => ?_)
  exact kc_X4_addToLaw_12 C ha_r1 fuL x2 ((0 : Int32)) σ102 hw H locs ls hO (lv_sub hl [1, 2, 3, 0] rfl)
theorem cc_X4_addToLaw (l : Launch) (D : va_G) (y : Nat → ClassId) (ad t : Nat → Nat) (X : va_W) (σ : cS) (r1 : Nat) (x2 : Int32) (x3 : Int32) (x4 : Int32) (ha_r1 : cL r1 = true) (Q : cS → Prop) (hw : v_X4_addToLaw Q r1 x2 x3 x4 σ) : ∀ sz, Met l yX4_addToLaw wsX4_addToLaw rc_X4_addToLaw (va_Pc [.ref (ad 9), .ref (ad r1), .int x2, .int x3, .int x4] (cPre D y ad t X sz σ)) (va_Qv Q (cB D y ad X (va_A (cW y ad σ ++ X) sz)) (va_A (cW y ad σ ++ X) sz)) 0 0 (va_A (cW y ad σ ++ X) sz) :=
  cMet (Qc := fun A => va_Qv Q (cB D y ad X A) A) (by decide) (own := RX4) rfl (Nat.le_of_ble_eq_true rfl) (fun p e s m args below meth c A ls C hO hl => kc_X4_addToLaw_e C ha_r1 x2 x3 x4 σ hw s.heap [] ls hO hl)
abbrev rc_X4_findLaw : Room := { frames := 3, cells := 0, slots := 0, locals := 76 }
set_option maxRecDepth 100000 in
set_option maxHeartbeats 4000000 in
theorem kc_X4_findLaw_e {p : Program} {l : Launch} {e : Env} {s : State} {m : MethodId} {args : Array Value} {below : List Frame} {meth : Method} {c : Code} {D : va_G} {y : Nat → ClassId} {ad t : Nat → Nat} {X : va_W} {A : Nat → Prop} {Q : cS → Prop} (C : cC p s m args meth c cX4_findLaw 6 none RX4 wsX4_findLaw D y t A) {r1 : Nat} (ha_r1 : cL r1 = true)  (σ : cS) (hw : v_X4_findLaw Q r1 σ) (H : Heap) (locs : List Loc) (ls : Array Slot) (hO : cO D y ad X A s.heap H locs σ) (hl : lv_has ls 6 [(0, .ref (ad 9)), (1, .ref (ad r1))]) : W p l e rc_X4_findLaw s m args below meth c H locs 0 0 (MQ below (va_Qv Q (cB D y ad X A) A) args s 0 0 A) (F0 m 0 ls []) := by
  obtain ⟨hx, hb, hr, hml, hown, hts, hlk, hK, hA, hTs, hNw⟩ := id C
  have hinX0 : ∀ w ∈ wsX00, w ∈ wsX4_findLaw := fun _ h => List.mem_cons_of_mem _ (List.mem_append_right _ h)
  have hinX4 : ∀ w ∈ wsX40, w ∈ wsX4_findLaw := fun _ h => List.mem_cons_of_mem _ (List.mem_append_left _ (List.mem_append_right _ h))
  unfold v_X4_findLaw at hw
  refine lv_aload_n hx hb dX4_findLaw_0 rfl (lv_at hl 0 rfl) ?_
  refine cx_get C hO (by decide) rfl rfl hinX4 4 (by decide) (idx := 24) (by decide +kernel) rfl rfl dX4_findLaw_1 ?_
  refine cx_cis C hO (cc_X6_first l D y ad t X σ 14 rfl _ hw) (va_cwS 1 hts gX4_findLaw_X6_first rfl rfl rfl (by decide +kernel) ⟨Nat.le_of_ble_eq_true rfl, Nat.le_of_ble_eq_true rfl⟩) rfl hl.1 rfl (lv_room (Nat.le_of_ble_eq_true rfl)) dX4_findLaw_4 (fun u101 σ102 H locs hw hO => ?_)
  refine lv_iconst (v := 0) hx hb dX4_findLaw_7 (by decide) ?_
  refine va_mmax hx hb (by rw [hml]; exact hl.1.symm) hown (hts (.methodLink RX4 148 Lib.Math.max.name) (by decide +kernel)) (hts (.static Lib.Math.max.name) (by decide +kernel)) (hts (.initialized "java/lang/Math") (by decide +kernel)) (hts (.code Lib.Math.max.name Lib.Math.max.code 2 (some .int)) (by decide +kernel)) (Nat.le_of_ble_eq_true rfl) (Nat.le_of_ble_eq_true rfl) (Nat.zero_le _) (Nat.zero_le _) dX4_findLaw_8 ?_
  refine lv_topi (fun a103 ea103 => ?_)
  have hw := hw a103 ea103
  refine lv_istore_n (lv' := [(2, .int a103), (0, .ref (ad 9)), (1, .ref (ad r1))]) hx hb dX4_findLaw_11 rfl hl (by decide) rfl (fun ls hl => ?_)
  refine cx_gets C hO hTs.2.2.2 (idx := 153) (by decide +kernel) rfl dX4_findLaw_12 ?_
  refine lv_iconst (v := 3) hx hb dX4_findLaw_15 (by decide) ?_
  refine lv_iload_n hx hb dX4_findLaw_16 rfl (lv_at hl 0 rfl) ?_
  refine lv_imul hx hb dX4_findLaw_17 ?_
  refine cx_ti C hO hTs.2.2.2 hw.1 dX4_findLaw_18 ?_
  have hw := hw.2
  refine lv_topi (fun x3_104 ex3_104 => ?_)
  have hw := hw x3_104 ex3_104
  refine lv_istore_n (lv' := [(3, .int x3_104), (2, .int a103), (0, .ref (ad 9)), (1, .ref (ad r1))]) hx hb dX4_findLaw_19 rfl hl (by decide) rfl (fun ls hl => ?_)
  refine cx_gets C hO hTs.2.2.2 (idx := 153) (by decide +kernel) rfl dX4_findLaw_20 ?_
  refine lv_iconst (v := 3) hx hb dX4_findLaw_23 (by decide) ?_
  refine lv_iload_n hx hb dX4_findLaw_24 rfl (lv_at hl 1 rfl) ?_
  refine lv_imul hx hb dX4_findLaw_25 ?_
  refine lv_iconst (v := 1) hx hb dX4_findLaw_26 (by decide) ?_
  refine lv_iadd hx hb dX4_findLaw_27 ?_
  refine cx_ti C hO hTs.2.2.2 hw.1 dX4_findLaw_28 ?_
  have hw := hw.2
  refine lv_topi (fun x4_105 ex4_105 => ?_)
  have hw := hw x4_105 ex4_105
  refine lv_istore (lv' := [(4, .int x4_105), (3, .int x3_104), (2, .int a103), (0, .ref (ad 9)), (1, .ref (ad r1))]) hx hb dX4_findLaw_29 hl (by decide) rfl (fun ls hl => ?_)
  refine cx_gets C hO hTs.2.2.2 (idx := 153) (by decide +kernel) rfl dX4_findLaw_31 ?_
  refine lv_iconst (v := 3) hx hb dX4_findLaw_34 (by decide) ?_
  refine lv_iload_n hx hb dX4_findLaw_35 rfl (lv_at hl 2 rfl) ?_
  refine lv_imul hx hb dX4_findLaw_36 ?_
  refine lv_iconst (v := 2) hx hb dX4_findLaw_37 (by decide) ?_
  refine lv_iadd hx hb dX4_findLaw_38 ?_
  refine cx_ti C hO hTs.2.2.2 hw.1 dX4_findLaw_39 ?_
  have hw := hw.2
  refine lv_topi (fun x5_106 ex5_106 => ?_)
  have hw := hw x5_106 ex5_106
  refine lv_istore (lv' := [(5, .int x5_106), (4, .int x4_105), (3, .int x3_104), (2, .int a103), (0, .ref (ad 9)), (1, .ref (ad r1))]) hx hb dX4_findLaw_40 hl (by decide) rfl (fun ls hl => ?_)
  refine lv_aload_n hx hb dX4_findLaw_42 rfl (lv_at hl 5 rfl) ?_
  refine cx_get C hO (cL_lt ha_r1).1 (cE_L ha_r1) rfl hinX0 2 (by decide) (idx := 156) (by decide +kernel) rfl rfl dX4_findLaw_43 ?_
  refine lv_lconst (v := 0) hx hb dX4_findLaw_46 (by decide) ?_
  refine cx_cvs C hO (cc_J7_fill_d0a16 l D y ad t X σ102 (r1 + 3) (0 : Int64) ((cL_J ha_r1).2.2.1) _ hw) (va_cwS 2 hts gX4_findLaw_J7_fill_d0a16 rfl rfl rfl (by decide +kernel) ⟨Nat.le_of_ble_eq_true rfl, Nat.le_of_ble_eq_true rfl⟩) rfl hl.1 rfl (lv_room (Nat.le_of_ble_eq_true rfl)) dX4_findLaw_47 (fun σ108 H locs hw hO => ?_)
  refine lv_aload_n hx hb dX4_findLaw_50 rfl (lv_at hl 4 rfl) ?_
  refine lv_aload_n hx hb dX4_findLaw_51 rfl (lv_at hl 5 rfl) ?_
  refine lv_iload_n hx hb dX4_findLaw_52 rfl (lv_at hl 2 rfl) ?_
  refine lv_iload hx hb dX4_findLaw_53 (lv_at hl 1 rfl) ?_
  refine lv_iload hx hb dX4_findLaw_55 (lv_at hl 0 rfl) ?_
  refine cx_cvv C hO (cc_X4_addToLaw l D y ad t X σ108 r1 x3_104 x4_105 x5_106 ha_r1 _ hw) (by decide) rfl rfl (cwV 4 hts gX4_findLaw_X4_addToLaw rfl rfl rfl (by decide +kernel) ⟨Nat.le_of_ble_eq_true rfl, Nat.le_of_ble_eq_true rfl⟩) rfl hl.1 rfl (lv_room (Nat.le_of_ble_eq_true rfl)) dX4_findLaw_57 (fun σ110 H locs hw hO => ?_)
  refine lv_aload_n hx hb dX4_findLaw_60 rfl (lv_at hl 4 rfl) ?_
  refine lv_aload_n hx hb dX4_findLaw_61 rfl (lv_at hl 5 rfl) ?_
  refine lv_iload hx hb dX4_findLaw_62 (lv_at hl 1 rfl) ?_
  refine lv_iload hx hb dX4_findLaw_64 (lv_at hl 0 rfl) ?_
  refine lv_iload_n hx hb dX4_findLaw_66 rfl (lv_at hl 2 rfl) ?_
  refine cx_cvv C hO (cc_X4_addToLaw l D y ad t X σ110 r1 x4_105 x5_106 x3_104 ha_r1 _ hw) (by decide) rfl rfl (cwV 4 hts gX4_findLaw_X4_addToLaw rfl rfl rfl (by decide +kernel) ⟨Nat.le_of_ble_eq_true rfl, Nat.le_of_ble_eq_true rfl⟩) rfl hl.1 rfl (lv_room (Nat.le_of_ble_eq_true rfl)) dX4_findLaw_67 (fun σ112 H locs hw hO => ?_)
  refine lv_aload_n hx hb dX4_findLaw_70 rfl (lv_at hl 4 rfl) ?_
  refine lv_aload_n hx hb dX4_findLaw_71 rfl (lv_at hl 5 rfl) ?_
  refine lv_iload hx hb dX4_findLaw_72 (lv_at hl 0 rfl) ?_
  refine lv_iload_n hx hb dX4_findLaw_74 rfl (lv_at hl 2 rfl) ?_
  refine lv_iload hx hb dX4_findLaw_75 (lv_at hl 1 rfl) ?_
  refine cx_cvv C hO (cc_X4_addToLaw l D y ad t X σ112 r1 x5_106 x3_104 x4_105 ha_r1 _ hw) (by decide) rfl rfl (cwV 4 hts gX4_findLaw_X4_addToLaw rfl rfl rfl (by decide +kernel) ⟨Nat.le_of_ble_eq_true rfl, Nat.le_of_ble_eq_true rfl⟩) rfl hl.1 rfl (lv_room (Nat.le_of_ble_eq_true rfl)) dX4_findLaw_77 (fun σ114 H locs hw hO => ?_)
  refine lv_aload_n hx hb dX4_findLaw_80 rfl (lv_at hl 5 rfl) ?_
  refine cx_get C hO (cL_lt ha_r1).1 (cE_L ha_r1) rfl hinX0 2 (by decide) (idx := 156) (by decide +kernel) rfl rfl dX4_findLaw_81 ?_
  refine cx_cvs C hO (cc_X6_takeOffDivisor l D y ad t X σ114 (r1 + 3) ((cL_J ha_r1).2.2.1) _ hw) (va_cwS 1 hts gX4_findLaw_X6_takeOffDivisor rfl rfl rfl (by decide +kernel) ⟨Nat.le_of_ble_eq_true rfl, Nat.le_of_ble_eq_true rfl⟩) rfl hl.1 rfl (lv_room (Nat.le_of_ble_eq_true rfl)) dX4_findLaw_84 (fun σ116 H locs hw hO => ?_)
  refine lv_aload_n hx hb dX4_findLaw_87 rfl (lv_at hl 5 rfl) ?_
  refine cx_get C hO (cL_lt ha_r1).1 (cE_L ha_r1) rfl hinX0 2 (by decide) (idx := 156) (by decide +kernel) rfl rfl dX4_findLaw_88 ?_
  refine lv_aload_n hx hb dX4_findLaw_91 rfl (lv_at hl 5 rfl) ?_
  refine cx_get C hO (cL_lt ha_r1).1 (cE_L ha_r1) rfl hinX0 2 (by decide) (idx := 156) (by decide +kernel) rfl rfl dX4_findLaw_92 ?_
  refine cx_cis C hO (cc_X6_first l D y ad t X σ116 (r1 + 3) ((cL_J ha_r1).2.2.1) _ hw) (va_cwS 1 hts gX4_findLaw_X6_first rfl rfl rfl (by decide +kernel) ⟨Nat.le_of_ble_eq_true rfl, Nat.le_of_ble_eq_true rfl⟩) rfl hl.1 rfl (lv_room (Nat.le_of_ble_eq_true rfl)) dX4_findLaw_95 (fun u117 σ118 H locs hw hO => ?_)
  refine cx_cvs C hO (cc_X6_turn l D y ad t X σ118 (r1 + 3) u117 ((cL_J ha_r1).2.2.1) _ hw) (va_cwS 2 hts gX4_findLaw_X6_turn rfl rfl rfl (by decide +kernel) ⟨Nat.le_of_ble_eq_true rfl, Nat.le_of_ble_eq_true rfl⟩) rfl hl.1 rfl (lv_room (Nat.le_of_ble_eq_true rfl)) dX4_findLaw_98 (fun σ120 H locs hw hO => ?_)
  exact cx_vret C hO hw dX4_findLaw_101
theorem cc_X4_findLaw (l : Launch) (D : va_G) (y : Nat → ClassId) (ad t : Nat → Nat) (X : va_W) (σ : cS) (r1 : Nat) (ha_r1 : cL r1 = true) (Q : cS → Prop) (hw : v_X4_findLaw Q r1 σ) : ∀ sz, Met l yX4_findLaw wsX4_findLaw rc_X4_findLaw (va_Pc [.ref (ad 9), .ref (ad r1)] (cPre D y ad t X sz σ)) (va_Qv Q (cB D y ad X (va_A (cW y ad σ ++ X) sz)) (va_A (cW y ad σ ++ X) sz)) 0 0 (va_A (cW y ad σ ++ X) sz) :=
  cMet (Qc := fun A => va_Qv Q (cB D y ad X A) A) (by decide) (own := RX4) rfl (Nat.le_of_ble_eq_true rfl) (fun p e s m args below meth c A ls C hO hl => kc_X4_findLaw_e C ha_r1 σ hw s.heap [] ls hO hl)
abbrev rc_X4_findKnot : Room := { frames := 3, cells := 0, slots := 0, locals := 74 }
set_option maxRecDepth 100000 in
set_option maxHeartbeats 4000000 in
theorem kc_X4_findKnot_2 {p : Program} {l : Launch} {e : Env} {s : State} {m : MethodId} {args : Array Value} {below : List Frame} {meth : Method} {c : Code} {D : va_G} {y : Nat → ClassId} {ad t : Nat → Nat} {X : va_W} {A : Nat → Prop} {Q : cS → Prop} (C : cC p s m args meth c cX4_findKnot 3 none RX4 wsX4_findKnot D y t A) {r1 : Nat} (ha_r1 : cL r1 = true) (n : Nat) : ∀ (x2 : Int32) (σ : cS), v_X4_findKnot_2 Q r1 n x2 σ → ∀ (H : Heap) (locs : List Loc) (ls : Array Slot), cO D y ad X A s.heap H locs σ → lv_has ls 3 [(0, .ref (ad 9)), (1, .ref (ad r1)), (2, .int x2)] → W p l e rc_X4_findKnot s m args below meth c H locs 0 0 (MQ below (va_Qv Q (cB D y ad X A) A) args s 0 0 A) (F0 m 2 ls []) := by
  obtain ⟨hx, hb, hr, hml, hown, hts, hlk, hK, hA, hTs, hNw⟩ := id C
  have hinX0 : ∀ w ∈ wsX00, w ∈ wsX4_findKnot := fun _ h => List.mem_cons_of_mem _ (List.mem_append_right _ h)
  have hinX4 : ∀ w ∈ wsX40, w ∈ wsX4_findKnot := fun _ h => List.mem_cons_of_mem _ (List.mem_append_left _ (List.mem_append_right _ h))
  induction n with
  | zero =>
    intro x2 σ hw
    exact (show False from hw).elim
  | succ n ih =>
    intro x2 σ hw H locs ls hO hl
    unfold v_X4_findKnot_2 at hw
    refine lv_iload_n hx hb dX4_findKnot_2 rfl (lv_at hl 2 rfl) ?_
    refine lv_iconst (v := 3) hx hb dX4_findKnot_3 (by decide) ?_
    refine lv_icmp_ge (tgt := 43) hx hb dX4_findKnot_4 (by decide) (fun hc => ?_) (fun hc => ?_)
    · have hw := hw.1 hc
      refine lv_aload_n hx hb dX4_findKnot_43 rfl (lv_at hl 0 rfl) ?_
      refine cx_cvv C hO (cc_X4_cross l D y ad t X σ _ hw) (by decide) rfl rfl (cwV 0 hts gX4_findKnot_X4_cross rfl rfl rfl (by decide +kernel) ⟨Nat.le_of_ble_eq_true rfl, Nat.le_of_ble_eq_true rfl⟩) rfl hl.1 rfl (lv_room (Nat.le_of_ble_eq_true rfl)) dX4_findKnot_44 (fun σ102 H locs hw hO => ?_)
      refine lv_aload_n hx hb dX4_findKnot_47 rfl (lv_at hl 0 rfl) ?_
      refine cx_get C hO (by decide) rfl rfl hinX4 3 (by decide) (idx := 21) (by decide +kernel) rfl rfl dX4_findKnot_48 ?_
      refine lv_iconst (v := 0) hx hb dX4_findKnot_51 (by decide) ?_
      refine lv_aload_n hx hb dX4_findKnot_52 rfl (lv_at hl 1 rfl) ?_
      refine cx_get C hO (cL_lt ha_r1).1 (cE_L ha_r1) rfl hinX0 3 (by decide) (idx := 166) (by decide +kernel) rfl rfl dX4_findKnot_53 ?_
      refine lv_iconst (v := 0) hx hb dX4_findKnot_56 (by decide) ?_
      refine lv_iconst (v := 3) hx hb dX4_findKnot_57 (by decide) ?_
      refine cx_copy C hO (a0 := 13) (a := (r1 + 4)) rfl ((cL_J ha_r1).2.2.2) (by decide +kernel) hw.1.1 hw.1.2.1 hw.1.2.2.1 hw.1.2.2.2.1 hw.1.2.2.2.2 (Nat.le_of_ble_eq_true rfl) (Nat.le_of_ble_eq_true rfl) hl.1 dX4_findKnot_58 (fun H locs σ103 eσ103 hO => ?_)
      have hw := hw.2 σ103 eσ103
      refine lv_aload_n hx hb dX4_findKnot_61 rfl (lv_at hl 1 rfl) ?_
      refine cx_get C hO (cL_lt ha_r1).1 (cE_L ha_r1) rfl hinX0 3 (by decide) (idx := 166) (by decide +kernel) rfl rfl dX4_findKnot_62 ?_
      refine cx_cvs C hO (cc_X6_takeOffDivisor l D y ad t X σ103 (r1 + 4) ((cL_J ha_r1).2.2.2) _ hw) (va_cwS 1 hts gX4_findKnot_X6_takeOffDivisor rfl rfl rfl (by decide +kernel) ⟨Nat.le_of_ble_eq_true rfl, Nat.le_of_ble_eq_true rfl⟩) rfl hl.1 rfl (lv_room (Nat.le_of_ble_eq_true rfl)) dX4_findKnot_65 (fun σ105 H locs hw hO => ?_)
      refine lv_aload_n hx hb dX4_findKnot_68 rfl (lv_at hl 1 rfl) ?_
      refine cx_get C hO (cL_lt ha_r1).1 (cE_L ha_r1) rfl hinX0 3 (by decide) (idx := 166) (by decide +kernel) rfl rfl dX4_findKnot_69 ?_
      refine lv_aload_n hx hb dX4_findKnot_72 rfl (lv_at hl 1 rfl) ?_
      refine cx_get C hO (cL_lt ha_r1).1 (cE_L ha_r1) rfl hinX0 3 (by decide) (idx := 166) (by decide +kernel) rfl rfl dX4_findKnot_73 ?_
      refine cx_cis C hO (cc_X6_last l D y ad t X σ105 (r1 + 4) ((cL_J ha_r1).2.2.2) _ hw) (va_cwS 1 hts gX4_findKnot_X6_last rfl rfl rfl (by decide +kernel) ⟨Nat.le_of_ble_eq_true rfl, Nat.le_of_ble_eq_true rfl⟩) rfl hl.1 rfl (lv_room (Nat.le_of_ble_eq_true rfl)) dX4_findKnot_76 (fun u106 σ107 H locs hw hO => ?_)
      refine cx_cvs C hO (cc_X6_turn l D y ad t X σ107 (r1 + 4) u106 ((cL_J ha_r1).2.2.2) _ hw) (va_cwS 2 hts gX4_findKnot_X6_turn rfl rfl rfl (by decide +kernel) ⟨Nat.le_of_ble_eq_true rfl, Nat.le_of_ble_eq_true rfl⟩) rfl hl.1 rfl (lv_room (Nat.le_of_ble_eq_true rfl)) dX4_findKnot_79 (fun σ109 H locs hw hO => ?_)
      refine lv_aload_n hx hb dX4_findKnot_82 rfl (lv_at hl 1 rfl) ?_
      refine lv_iconst (v := 1) hx hb dX4_findKnot_83 (by decide) ?_
      refine lv_aload_n hx hb dX4_findKnot_84 rfl (lv_at hl 0 rfl) ?_
      refine cx_get C hO (by decide) rfl rfl hinX4 5 (by decide) (idx := 27) (by decide +kernel) rfl rfl dX4_findKnot_85 ?_
      refine lv_iconst (v := 1) hx hb dX4_findKnot_88 (by decide) ?_
      refine cx_lald C hO (a := 15) rfl hw.1 dX4_findKnot_89 ?_
      have hw := hw.2
      refine lv_aload_n hx hb dX4_findKnot_90 rfl (lv_at hl 0 rfl) ?_
      refine cx_get C hO (by decide) rfl rfl hinX4 5 (by decide) (idx := 27) (by decide +kernel) rfl rfl dX4_findKnot_91 ?_
      refine lv_iconst (v := 1) hx hb dX4_findKnot_94 (by decide) ?_
      refine cx_lald C hO (a := 15) rfl hw.1 dX4_findKnot_95 ?_
      have hw := hw.2
      refine lv_lmul hx hb dX4_findKnot_96 ?_
      refine lv_ldc2 (v := 4) hx hb hown (hts (.constantLong RX4 172 (4)) (by decide +kernel)) dX4_findKnot_97 ?_
      refine lv_aload_n hx hb dX4_findKnot_100 rfl (lv_at hl 0 rfl) ?_
      refine cx_get C hO (by decide) rfl rfl hinX4 5 (by decide) (idx := 27) (by decide +kernel) rfl rfl dX4_findKnot_101 ?_
      refine lv_iconst (v := 0) hx hb dX4_findKnot_104 (by decide) ?_
      refine cx_lald C hO (a := 15) rfl hw.1 dX4_findKnot_105 ?_
      have hw := hw.2
      refine lv_lmul hx hb dX4_findKnot_106 ?_
      refine lv_aload_n hx hb dX4_findKnot_107 rfl (lv_at hl 0 rfl) ?_
      refine cx_get C hO (by decide) rfl rfl hinX4 5 (by decide) (idx := 27) (by decide +kernel) rfl rfl dX4_findKnot_108 ?_
      refine lv_iconst (v := 2) hx hb dX4_findKnot_111 (by decide) ?_
      refine cx_lald C hO (a := 15) rfl hw.1 dX4_findKnot_112 ?_
      have hw := hw.2
      refine lv_lmul hx hb dX4_findKnot_113 ?_
      refine lv_lsub hx hb dX4_findKnot_114 ?_
      refine cx_cis C hO (cc_J13_signum_95d88 l D y ad t X σ109 (((σ109.1 15 ((1 : Int32)).toNatClampNeg) * (σ109.1 15 ((1 : Int32)).toNatClampNeg)) - (((4 : Int64) * (σ109.1 15 ((0 : Int32)).toNatClampNeg)) * (σ109.1 15 ((2 : Int32)).toNatClampNeg))) _ hw) (va_cwS 1 hts gX4_findKnot_J13_signum_95d88 rfl rfl rfl (by decide +kernel) ⟨Nat.le_of_ble_eq_true rfl, Nat.le_of_ble_eq_true rfl⟩) rfl hl.1 rfl (lv_room (Nat.le_of_ble_eq_true rfl)) dX4_findKnot_115 (fun u110 σ111 H locs hw hO => ?_)
      refine lv_iadd hx hb dX4_findKnot_118 ?_
      refine cx_put C hO (ty := .int) (cL_lt ha_r1).1 (cE_L ha_r1) rfl hinX0 tyX0 tyX0_ok nmX0 7 (by decide) (idx := 180) (by decide +kernel) rfl rfl (by decide +kernel) rfl rfl (Nat.le_of_ble_eq_true rfl) (cW_FL ha_r1 (by decide)) dX4_findKnot_119 (fun H locs σ112 eσ112 hO => ?_)
      have hw := hw σ112 eσ112
      exact cx_vret C hO hw dX4_findKnot_122
    · have hw := hw.2 hc
      refine lv_aload_n hx hb dX4_findKnot_7 rfl (lv_at hl 0 rfl) ?_
      refine cx_get C hO (by decide) rfl rfl hinX4 1 (by decide) (idx := 15) (by decide +kernel) rfl rfl dX4_findKnot_8 ?_
      refine lv_iload_n hx hb dX4_findKnot_11 rfl (lv_at hl 2 rfl) ?_
      refine lv_aload_n hx hb dX4_findKnot_12 rfl (lv_at hl 1 rfl) ?_
      refine cx_get C hO (cL_lt ha_r1).1 (cE_L ha_r1) rfl hinX0 2 (by decide) (idx := 156) (by decide +kernel) rfl rfl dX4_findKnot_13 ?_
      refine lv_iconst (v := 2) hx hb dX4_findKnot_16 (by decide) ?_
      refine lv_iload_n hx hb dX4_findKnot_17 rfl (lv_at hl 2 rfl) ?_
      refine lv_imul hx hb dX4_findKnot_18 ?_
      refine cx_lald C hO (a := (r1 + 3)) ((cL_J ha_r1).2.2.1) hw.1 dX4_findKnot_19 ?_
      have hw := hw.2
      refine cx_last C hO (a := 11) rfl hw.1 dX4_findKnot_20 (fun H locs σ113 eσ113 hO => ?_)
      have hw := hw.2 σ113 eσ113
      refine lv_aload_n hx hb dX4_findKnot_21 rfl (lv_at hl 0 rfl) ?_
      refine cx_get C hO (by decide) rfl rfl hinX4 2 (by decide) (idx := 18) (by decide +kernel) rfl rfl dX4_findKnot_22 ?_
      refine lv_iload_n hx hb dX4_findKnot_25 rfl (lv_at hl 2 rfl) ?_
      refine lv_aload_n hx hb dX4_findKnot_26 rfl (lv_at hl 1 rfl) ?_
      refine cx_get C hO (cL_lt ha_r1).1 (cE_L ha_r1) rfl hinX0 2 (by decide) (idx := 156) (by decide +kernel) rfl rfl dX4_findKnot_27 ?_
      refine lv_iconst (v := 2) hx hb dX4_findKnot_30 (by decide) ?_
      refine lv_iload_n hx hb dX4_findKnot_31 rfl (lv_at hl 2 rfl) ?_
      refine lv_imul hx hb dX4_findKnot_32 ?_
      refine lv_iconst (v := 1) hx hb dX4_findKnot_33 (by decide) ?_
      refine lv_iadd hx hb dX4_findKnot_34 ?_
      refine cx_lald C hO (a := (r1 + 3)) ((cL_J ha_r1).2.2.1) hw.1 dX4_findKnot_35 ?_
      have hw := hw.2
      refine cx_last C hO (a := 12) rfl hw.1 dX4_findKnot_36 (fun H locs σ114 eσ114 hO => ?_)
      have hw := hw.2 σ114 eσ114
      obtain ⟨x2_115, ex2_115⟩ : ∃ y : Int32, y = x2 + 1 := ⟨_, rfl⟩
      have hw := hw x2_115 ex2_115
      refine lv_iinc (v := x2_115) (lv' := [(2, .int x2_115), (0, .ref (ad 9)), (1, .ref (ad r1))]) hx hb dX4_findKnot_37 hl (k := 2) rfl (by rw [ex2_115]; rfl) (by decide) rfl (fun ls hl => ?_)
      refine lv_goto (tgt := 2) hx hb dX4_findKnot_40 (by decide) ?_
      exact ih x2_115 σ114 hw H locs ls hO (lv_sub hl [1, 2, 0] rfl)
set_option maxRecDepth 100000 in
set_option maxHeartbeats 4000000 in
theorem kc_X4_findKnot_e {p : Program} {l : Launch} {e : Env} {s : State} {m : MethodId} {args : Array Value} {below : List Frame} {meth : Method} {c : Code} {D : va_G} {y : Nat → ClassId} {ad t : Nat → Nat} {X : va_W} {A : Nat → Prop} {Q : cS → Prop} (C : cC p s m args meth c cX4_findKnot 3 none RX4 wsX4_findKnot D y t A) {r1 : Nat} (ha_r1 : cL r1 = true)  (σ : cS) (hw : v_X4_findKnot Q r1 σ) (H : Heap) (locs : List Loc) (ls : Array Slot) (hO : cO D y ad X A s.heap H locs σ) (hl : lv_has ls 3 [(0, .ref (ad 9)), (1, .ref (ad r1))]) : W p l e rc_X4_findKnot s m args below meth c H locs 0 0 (MQ below (va_Qv Q (cB D y ad X A) A) args s 0 0 A) (F0 m 0 ls []) := by
  obtain ⟨hx, hb, hr, hml, hown, hts, hlk, hK, hA, hTs, hNw⟩ := id C
  unfold v_X4_findKnot at hw
  refine lv_iconst (v := 0) hx hb dX4_findKnot_0 (by decide) ?_
  refine lv_istore_n (lv' := [(2, .int ((0 : Int32))), (0, .ref (ad 9)), (1, .ref (ad r1))]) hx hb dX4_findKnot_1 rfl hl (by decide) rfl (fun ls hl => ?_)
  exact kc_X4_findKnot_2 C ha_r1 fuL ((0 : Int32)) σ hw H locs ls hO (lv_sub hl [1, 2, 0] rfl)
theorem cc_X4_findKnot (l : Launch) (D : va_G) (y : Nat → ClassId) (ad t : Nat → Nat) (X : va_W) (σ : cS) (r1 : Nat) (ha_r1 : cL r1 = true) (Q : cS → Prop) (hw : v_X4_findKnot Q r1 σ) : ∀ sz, Met l yX4_findKnot wsX4_findKnot rc_X4_findKnot (va_Pc [.ref (ad 9), .ref (ad r1)] (cPre D y ad t X sz σ)) (va_Qv Q (cB D y ad X (va_A (cW y ad σ ++ X) sz)) (va_A (cW y ad σ ++ X) sz)) 0 0 (va_A (cW y ad σ ++ X) sz) :=
  cMet (Qc := fun A => va_Qv Q (cB D y ad X A) A) (by decide) (own := RX4) rfl (Nat.le_of_ble_eq_true rfl) (fun p e s m args below meth c A ls C hO hl => kc_X4_findKnot_e C ha_r1 σ hw s.heap [] ls hO hl)
abbrev rc_X4_learn : Room := { frames := 4, cells := 0, slots := 0, locals := 101 }
set_option maxRecDepth 100000 in
set_option maxHeartbeats 4000000 in
theorem kc_X4_learn_57 {p : Program} {l : Launch} {e : Env} {s : State} {m : MethodId} {args : Array Value} {below : List Frame} {meth : Method} {c : Code} {D : va_G} {y : Nat → ClassId} {ad t : Nat → Nat} {X : va_W} {A : Nat → Prop} {Q : cS → Prop} (C : cC p s m args meth c cX4_learn 2 none RX4 wsX4_learn D y t A) {r1 : Nat} (ha_r1 : cL r1 = true)  (σ : cS) (hw : v_X4_learn_57 Q r1 σ) (H : Heap) (locs : List Loc) (ls : Array Slot) (hO : cO D y ad X A s.heap H locs σ) (hl : lv_has ls 2 [(0, .ref (ad 9))]) : W p l e rc_X4_learn s m args below meth c H locs 0 0 (MQ below (va_Qv Q (cB D y ad X A) A) args s 0 0 A) (F0 m 57 ls []) := by
  obtain ⟨hx, hb, hr, hml, hown, hts, hlk, hK, hA, hTs, hNw⟩ := id C
  unfold v_X4_learn_57 at hw
  exact cx_vret C hO hw dX4_learn_57
set_option maxRecDepth 100000 in
set_option maxHeartbeats 4000000 in
theorem kc_X4_learn_e {p : Program} {l : Launch} {e : Env} {s : State} {m : MethodId} {args : Array Value} {below : List Frame} {meth : Method} {c : Code} {D : va_G} {y : Nat → ClassId} {ad t : Nat → Nat} {X : va_W} {A : Nat → Prop} {Q : cS → Prop} (C : cC p s m args meth c cX4_learn 2 none RX4 wsX4_learn D y t A) {r1 : Nat} (ha_r1 : cL r1 = true)  (σ : cS) (hw : v_X4_learn Q r1 σ) (H : Heap) (locs : List Loc) (ls : Array Slot) (hO : cO D y ad X A s.heap H locs σ) (hl : lv_has ls 2 [(0, .ref (ad 9)), (1, .ref (ad r1))]) : W p l e rc_X4_learn s m args below meth c H locs 0 0 (MQ below (va_Qv Q (cB D y ad X A) A) args s 0 0 A) (F0 m 0 ls []) := by
  obtain ⟨hx, hb, hr, hml, hown, hts, hlk, hK, hA, hTs, hNw⟩ := id C
  have hinX0 : ∀ w ∈ wsX00, w ∈ wsX4_learn := fun _ h => List.mem_cons_of_mem _ (List.mem_append_left _ (List.mem_append_right _ h))
  unfold v_X4_learn at hw
  refine lv_aload_n hx hb dX4_learn_0 rfl (lv_at hl 1 rfl) ?_
  refine lv_aload_n hx hb dX4_learn_1 rfl (lv_at hl 1 rfl) ?_
  refine cx_cis C hO (cc_X4_degreeOf l D y ad t X σ r1 ha_r1 _ hw) (va_cwS 1 hts gX4_learn_X4_degreeOf rfl rfl rfl (by decide +kernel) ⟨Nat.le_of_ble_eq_true rfl, Nat.le_of_ble_eq_true rfl⟩) rfl hl.1 rfl (lv_room (Nat.le_of_ble_eq_true rfl)) dX4_learn_2 (fun u101 σ102 H locs hw hO => ?_)
  refine cx_put C hO (ty := .int) (cL_lt ha_r1).1 (cE_L ha_r1) rfl hinX0 tyX0 tyX0_ok nmX0 5 (by decide) (idx := 34) (by decide +kernel) rfl rfl (by decide +kernel) rfl rfl (Nat.le_of_ble_eq_true rfl) (cW_FL ha_r1 (by decide)) dX4_learn_5 (fun H locs σ103 eσ103 hO => ?_)
  have hw := hw σ103 eσ103
  refine lv_aload_n hx hb dX4_learn_8 rfl (lv_at hl 0 rfl) ?_
  refine lv_aload_n hx hb dX4_learn_9 rfl (lv_at hl 1 rfl) ?_
  refine cx_cvv C hO (cc_X4_findForms l D y ad t X σ103 r1 ha_r1 _ hw) (by decide) rfl rfl (cwV 1 hts gX4_learn_X4_findForms rfl rfl rfl (by decide +kernel) ⟨Nat.le_of_ble_eq_true rfl, Nat.le_of_ble_eq_true rfl⟩) rfl hl.1 rfl (lv_room (Nat.le_of_ble_eq_true rfl)) dX4_learn_10 (fun σ105 H locs hw hO => ?_)
  refine lv_aload_n hx hb dX4_learn_13 rfl (lv_at hl 0 rfl) ?_
  refine lv_aload_n hx hb dX4_learn_14 rfl (lv_at hl 1 rfl) ?_
  refine cx_cvv C hO (cc_X4_findRelation l D y ad t X σ105 r1 ha_r1 _ hw) (by decide) rfl rfl (cwV 1 hts gX4_learn_X4_findRelation rfl rfl rfl (by decide +kernel) ⟨Nat.le_of_ble_eq_true rfl, Nat.le_of_ble_eq_true rfl⟩) rfl hl.1 rfl (lv_room (Nat.le_of_ble_eq_true rfl)) dX4_learn_15 (fun σ107 H locs hw hO => ?_)
  refine lv_aload_n hx hb dX4_learn_18 rfl (lv_at hl 1 rfl) ?_
  refine lv_aload_n hx hb dX4_learn_19 rfl (lv_at hl 0 rfl) ?_
  refine lv_aload_n hx hb dX4_learn_20 rfl (lv_at hl 1 rfl) ?_
  refine cx_get C hO (cL_lt ha_r1).1 (cE_L ha_r1) rfl hinX0 5 (by decide) (idx := 34) (by decide +kernel) rfl rfl dX4_learn_21 ?_
  refine cx_civ C hO (cc_X4_kindOf l D y ad t X σ107 (σ107.2.2.1 r1 5) _ hw) (by decide) rfl rfl (cwV 1 hts gX4_learn_X4_kindOf rfl rfl rfl (by decide +kernel) ⟨Nat.le_of_ble_eq_true rfl, Nat.le_of_ble_eq_true rfl⟩) rfl hl.1 rfl (lv_room (Nat.le_of_ble_eq_true rfl)) dX4_learn_24 (fun u108 σ109 H locs hw hO => ?_)
  refine cx_put C hO (ty := .int) (cL_lt ha_r1).1 (cE_L ha_r1) rfl hinX0 tyX0 tyX0_ok nmX0 6 (by decide) (idx := 51) (by decide +kernel) rfl rfl (by decide +kernel) rfl rfl (Nat.le_of_ble_eq_true rfl) (cW_FL ha_r1 (by decide)) dX4_learn_27 (fun H locs σ110 eσ110 hO => ?_)
  have hw := hw σ110 eσ110
  refine lv_aload_n hx hb dX4_learn_30 rfl (lv_at hl 0 rfl) ?_
  refine lv_aload_n hx hb dX4_learn_31 rfl (lv_at hl 1 rfl) ?_
  refine cx_cvv C hO (cc_X4_findEquation l D y ad t X σ110 r1 ha_r1 _ hw) (by decide) rfl rfl (cwV 1 hts gX4_learn_X4_findEquation rfl rfl rfl (by decide +kernel) ⟨Nat.le_of_ble_eq_true rfl, Nat.le_of_ble_eq_true rfl⟩) rfl hl.1 rfl (lv_room (Nat.le_of_ble_eq_true rfl)) dX4_learn_32 (fun σ112 H locs hw hO => ?_)
  refine lv_aload_n hx hb dX4_learn_35 rfl (lv_at hl 1 rfl) ?_
  refine cx_get C hO (cL_lt ha_r1).1 (cE_L ha_r1) rfl hinX0 6 (by decide) (idx := 51) (by decide +kernel) rfl rfl dX4_learn_36 ?_
  refine lv_iconst (v := 3) hx hb dX4_learn_39 (by decide) ?_
  refine lv_icmp_ne (tgt := 57) hx hb dX4_learn_40 (by decide) (fun hc => ?_) (fun hc => ?_)
  · have hw := hw.1 hc
    exact kc_X4_learn_57 C ha_r1 σ112 hw H locs ls hO (lv_sub hl [0] rfl)
  · have hw := hw.2 hc
    refine lv_aload_n hx hb dX4_learn_43 rfl (lv_at hl 0 rfl) ?_
    refine cx_cvv C hO (cc_X4_findKnotted l D y ad t X σ112 _ hw) (by decide) rfl rfl (cwV 0 hts gX4_learn_X4_findKnotted rfl rfl rfl (by decide +kernel) ⟨Nat.le_of_ble_eq_true rfl, Nat.le_of_ble_eq_true rfl⟩) rfl hl.1 rfl (lv_room (Nat.le_of_ble_eq_true rfl)) dX4_learn_44 (fun σ114 H locs hw hO => ?_)
    refine lv_aload_n hx hb dX4_learn_47 rfl (lv_at hl 0 rfl) ?_
    refine lv_aload_n hx hb dX4_learn_48 rfl (lv_at hl 1 rfl) ?_
    refine cx_cvv C hO (cc_X4_findLaw l D y ad t X σ114 r1 ha_r1 _ hw) (by decide) rfl rfl (cwV 1 hts gX4_learn_X4_findLaw rfl rfl rfl (by decide +kernel) ⟨Nat.le_of_ble_eq_true rfl, Nat.le_of_ble_eq_true rfl⟩) rfl hl.1 rfl (lv_room (Nat.le_of_ble_eq_true rfl)) dX4_learn_49 (fun σ116 H locs hw hO => ?_)
    refine lv_aload_n hx hb dX4_learn_52 rfl (lv_at hl 0 rfl) ?_
    refine lv_aload_n hx hb dX4_learn_53 rfl (lv_at hl 1 rfl) ?_
    refine cx_cvv C hO (cc_X4_findKnot l D y ad t X σ116 r1 ha_r1 _ hw) (by decide) rfl rfl (cwV 1 hts gX4_learn_X4_findKnot rfl rfl rfl (by decide +kernel) ⟨Nat.le_of_ble_eq_true rfl, Nat.le_of_ble_eq_true rfl⟩) rfl hl.1 rfl (lv_room (Nat.le_of_ble_eq_true rfl)) dX4_learn_54 (fun σ118 H locs hw hO => ?_)
    exact kc_X4_learn_57 C ha_r1 σ118 hw H locs ls hO (lv_sub hl [0] rfl)
theorem cc_X4_learn (l : Launch) (D : va_G) (y : Nat → ClassId) (ad t : Nat → Nat) (X : va_W) (σ : cS) (r1 : Nat) (ha_r1 : cL r1 = true) (Q : cS → Prop) (hw : v_X4_learn Q r1 σ) : ∀ sz, Met l yX4_learn wsX4_learn rc_X4_learn (va_Pc [.ref (ad 9), .ref (ad r1)] (cPre D y ad t X sz σ)) (va_Qv Q (cB D y ad X (va_A (cW y ad σ ++ X) sz)) (va_A (cW y ad σ ++ X) sz)) 0 0 (va_A (cW y ad σ ++ X) sz) :=
  cMet (Qc := fun A => va_Qv Q (cB D y ad X A) A) (by decide) (own := RX4) rfl (Nat.le_of_ble_eq_true rfl) (fun p e s m args below meth c A ls C hO hl => kc_X4_learn_e C ha_r1 σ hw s.heap [] ls hO hl)
abbrev rc_X4_findTouch : Room := { frames := 3, cells := 0, slots := 0, locals := 74 }
set_option maxRecDepth 100000 in
set_option maxHeartbeats 4000000 in
theorem kc_X4_findTouch_3 {p : Program} {l : Launch} {e : Env} {s : State} {m : MethodId} {args : Array Value} {below : List Frame} {meth : Method} {c : Code} {D : va_G} {y : Nat → ClassId} {ad t : Nat → Nat} {X : va_W} {A : Nat → Prop} {Q : cS → Prop} (C : cC p s m args meth c cX4_findTouch 6 none RX4 wsX4_findTouch D y t A) {r1 : Nat} (ha_r1 : cL r1 = true) {r4 : Nat} (ha_r4 : cJ r4 = true) (n : Nat) : ∀ (x2 : Int32) (x3 : Int32) (x5 : Int32) (σ : cS), v_X4_findTouch_3 Q r1 r4 n x2 x3 x5 σ → ∀ (H : Heap) (locs : List Loc) (ls : Array Slot), cO D y ad X A s.heap H locs σ → lv_has ls 6 [(0, .ref (ad 9)), (1, .ref (ad r1)), (2, .int x2), (3, .int x3), (4, .ref (ad r4)), (5, .int x5)] → W p l e rc_X4_findTouch s m args below meth c H locs 0 0 (MQ below (va_Qv Q (cB D y ad X A) A) args s 0 0 A) (F0 m 3 ls []) := by
  obtain ⟨hx, hb, hr, hml, hown, hts, hlk, hK, hA, hTs, hNw⟩ := id C
  have hinX4 : ∀ w ∈ wsX40, w ∈ wsX4_findTouch := fun _ h => List.mem_cons_of_mem _ (List.mem_append_left _ (List.mem_append_right _ h))
  induction n with
  | zero =>
    intro x2 x3 x5 σ hw
    exact (show False from hw).elim
  | succ n ih =>
    intro x2 x3 x5 σ hw H locs ls hO hl
    unfold v_X4_findTouch_3 at hw
    refine lv_iload hx hb dX4_findTouch_3 (lv_at hl 5 rfl) ?_
    refine lv_iconst (v := 3) hx hb dX4_findTouch_5 (by decide) ?_
    refine lv_icmp_ge (tgt := 49) hx hb dX4_findTouch_6 (by decide) (fun hc => ?_) (fun hc => ?_)
    · have hw := hw.1 hc
      refine lv_aload_n hx hb dX4_findTouch_49 rfl (lv_at hl 0 rfl) ?_
      refine cx_cvv C hO (cc_X4_cross l D y ad t X σ _ hw) (by decide) rfl rfl (cwV 0 hts gX4_findTouch_X4_cross rfl rfl rfl (by decide +kernel) ⟨Nat.le_of_ble_eq_true rfl, Nat.le_of_ble_eq_true rfl⟩) rfl hl.1 rfl (lv_room (Nat.le_of_ble_eq_true rfl)) dX4_findTouch_50 (fun σ102 H locs hw hO => ?_)
      refine lv_aload_n hx hb dX4_findTouch_53 rfl (lv_at hl 0 rfl) ?_
      refine cx_get C hO (by decide) rfl rfl hinX4 3 (by decide) (idx := 21) (by decide +kernel) rfl rfl dX4_findTouch_54 ?_
      refine lv_iconst (v := 0) hx hb dX4_findTouch_57 (by decide) ?_
      refine lv_aload hx hb dX4_findTouch_58 (lv_at hl 4 rfl) ?_
      refine lv_iconst (v := 0) hx hb dX4_findTouch_60 (by decide) ?_
      refine lv_iconst (v := 3) hx hb dX4_findTouch_61 (by decide) ?_
      refine cx_copy C hO (a0 := 13) (a := r4) rfl ha_r4 (by decide +kernel) hw.1.1 hw.1.2.1 hw.1.2.2.1 hw.1.2.2.2.1 hw.1.2.2.2.2 (Nat.le_of_ble_eq_true rfl) (Nat.le_of_ble_eq_true rfl) hl.1 dX4_findTouch_62 (fun H locs σ103 eσ103 hO => ?_)
      have hw := hw.2 σ103 eσ103
      refine lv_aload hx hb dX4_findTouch_65 (lv_at hl 4 rfl) ?_
      refine cx_cvs C hO (cc_X6_takeOffDivisor l D y ad t X σ103 r4 ha_r4 _ hw) (va_cwS 1 hts gX4_findTouch_X6_takeOffDivisor rfl rfl rfl (by decide +kernel) ⟨Nat.le_of_ble_eq_true rfl, Nat.le_of_ble_eq_true rfl⟩) rfl hl.1 rfl (lv_room (Nat.le_of_ble_eq_true rfl)) dX4_findTouch_67 (fun σ105 H locs hw hO => ?_)
      refine lv_aload hx hb dX4_findTouch_70 (lv_at hl 4 rfl) ?_
      refine lv_aload hx hb dX4_findTouch_72 (lv_at hl 4 rfl) ?_
      refine cx_cis C hO (cc_X6_first l D y ad t X σ105 r4 ha_r4 _ hw) (va_cwS 1 hts gX4_findTouch_X6_first rfl rfl rfl (by decide +kernel) ⟨Nat.le_of_ble_eq_true rfl, Nat.le_of_ble_eq_true rfl⟩) rfl hl.1 rfl (lv_room (Nat.le_of_ble_eq_true rfl)) dX4_findTouch_74 (fun u106 σ107 H locs hw hO => ?_)
      refine cx_cvs C hO (cc_X6_turn l D y ad t X σ107 r4 u106 ha_r4 _ hw) (va_cwS 2 hts gX4_findTouch_X6_turn rfl rfl rfl (by decide +kernel) ⟨Nat.le_of_ble_eq_true rfl, Nat.le_of_ble_eq_true rfl⟩) rfl hl.1 rfl (lv_room (Nat.le_of_ble_eq_true rfl)) dX4_findTouch_77 (fun σ109 H locs hw hO => ?_)
      exact cx_vret C hO hw dX4_findTouch_80
    · have hw := hw.2 hc
      refine lv_aload_n hx hb dX4_findTouch_9 rfl (lv_at hl 0 rfl) ?_
      refine cx_get C hO (by decide) rfl rfl hinX4 1 (by decide) (idx := 15) (by decide +kernel) rfl rfl dX4_findTouch_10 ?_
      refine lv_iload hx hb dX4_findTouch_13 (lv_at hl 5 rfl) ?_
      refine lv_aload_n hx hb dX4_findTouch_15 rfl (lv_at hl 1 rfl) ?_
      refine lv_iload hx hb dX4_findTouch_16 (lv_at hl 5 rfl) ?_
      refine lv_iload_n hx hb dX4_findTouch_18 rfl (lv_at hl 2 rfl) ?_
      refine lv_i2l hx hb dX4_findTouch_19 rfl ?_
      refine lv_iload_n hx hb dX4_findTouch_20 rfl (lv_at hl 3 rfl) ?_
      refine lv_i2l hx hb dX4_findTouch_21 rfl ?_
      refine cx_clv C hO (cc_X0_value l D y ad t X σ r1 x5 (x2.toInt64) (x3.toInt64) ha_r1 _ hw) (cL_lt ha_r1).1 (cE_L ha_r1) rfl (cwV 3 hts gX4_findTouch_X0_value rfl rfl rfl (by decide +kernel) ⟨Nat.le_of_ble_eq_true rfl, Nat.le_of_ble_eq_true rfl⟩) rfl hl.1 rfl (lv_room (Nat.le_of_ble_eq_true rfl)) dX4_findTouch_22 (fun u110 σ111 H locs hw hO => ?_)
      refine cx_last C hO (a := 11) rfl hw.1 dX4_findTouch_25 (fun H locs σ112 eσ112 hO => ?_)
      have hw := hw.2 σ112 eσ112
      refine lv_aload_n hx hb dX4_findTouch_26 rfl (lv_at hl 0 rfl) ?_
      refine cx_get C hO (by decide) rfl rfl hinX4 2 (by decide) (idx := 18) (by decide +kernel) rfl rfl dX4_findTouch_27 ?_
      refine lv_iload hx hb dX4_findTouch_30 (lv_at hl 5 rfl) ?_
      refine lv_aload_n hx hb dX4_findTouch_32 rfl (lv_at hl 1 rfl) ?_
      refine lv_iload hx hb dX4_findTouch_33 (lv_at hl 5 rfl) ?_
      refine lv_iload_n hx hb dX4_findTouch_35 rfl (lv_at hl 2 rfl) ?_
      refine lv_i2l hx hb dX4_findTouch_36 rfl ?_
      refine lv_iload_n hx hb dX4_findTouch_37 rfl (lv_at hl 3 rfl) ?_
      refine lv_i2l hx hb dX4_findTouch_38 rfl ?_
      refine cx_clv C hO (cc_X0_growth l D y ad t X σ112 r1 x5 (x2.toInt64) (x3.toInt64) ha_r1 _ hw) (cL_lt ha_r1).1 (cE_L ha_r1) rfl (cwV 3 hts gX4_findTouch_X0_growth rfl rfl rfl (by decide +kernel) ⟨Nat.le_of_ble_eq_true rfl, Nat.le_of_ble_eq_true rfl⟩) rfl hl.1 rfl (lv_room (Nat.le_of_ble_eq_true rfl)) dX4_findTouch_39 (fun u113 σ114 H locs hw hO => ?_)
      refine cx_last C hO (a := 12) rfl hw.1 dX4_findTouch_42 (fun H locs σ115 eσ115 hO => ?_)
      have hw := hw.2 σ115 eσ115
      obtain ⟨x5_116, ex5_116⟩ : ∃ y : Int32, y = x5 + 1 := ⟨_, rfl⟩
      have hw := hw x5_116 ex5_116
      refine lv_iinc (v := x5_116) (lv' := [(5, .int x5_116), (0, .ref (ad 9)), (1, .ref (ad r1)), (2, .int x2), (3, .int x3), (4, .ref (ad r4))]) hx hb dX4_findTouch_43 hl (k := 5) rfl (by rw [ex5_116]; rfl) (by decide) rfl (fun ls hl => ?_)
      refine lv_goto (tgt := 3) hx hb dX4_findTouch_46 (by decide) ?_
      exact ih x2 x3 x5_116 σ115 hw H locs ls hO (lv_sub hl [1, 2, 3, 4, 5, 0] rfl)
set_option maxRecDepth 100000 in
set_option maxHeartbeats 4000000 in
theorem kc_X4_findTouch_e {p : Program} {l : Launch} {e : Env} {s : State} {m : MethodId} {args : Array Value} {below : List Frame} {meth : Method} {c : Code} {D : va_G} {y : Nat → ClassId} {ad t : Nat → Nat} {X : va_W} {A : Nat → Prop} {Q : cS → Prop} (C : cC p s m args meth c cX4_findTouch 6 none RX4 wsX4_findTouch D y t A) {r1 : Nat} (ha_r1 : cL r1 = true) {r4 : Nat} (ha_r4 : cJ r4 = true) (x2 : Int32) (x3 : Int32) (σ : cS) (hw : v_X4_findTouch Q r1 x2 x3 r4 σ) (H : Heap) (locs : List Loc) (ls : Array Slot) (hO : cO D y ad X A s.heap H locs σ) (hl : lv_has ls 6 [(0, .ref (ad 9)), (1, .ref (ad r1)), (2, .int x2), (3, .int x3), (4, .ref (ad r4))]) : W p l e rc_X4_findTouch s m args below meth c H locs 0 0 (MQ below (va_Qv Q (cB D y ad X A) A) args s 0 0 A) (F0 m 0 ls []) := by
  obtain ⟨hx, hb, hr, hml, hown, hts, hlk, hK, hA, hTs, hNw⟩ := id C
  unfold v_X4_findTouch at hw
  refine lv_iconst (v := 0) hx hb dX4_findTouch_0 (by decide) ?_
  refine lv_istore (lv' := [(5, .int ((0 : Int32))), (0, .ref (ad 9)), (1, .ref (ad r1)), (2, .int x2), (3, .int x3), (4, .ref (ad r4))]) hx hb dX4_findTouch_1 hl (by decide) rfl (fun ls hl => ?_)
  exact kc_X4_findTouch_3 C ha_r1 ha_r4 fuL x2 x3 ((0 : Int32)) σ hw H locs ls hO (lv_sub hl [1, 2, 3, 4, 5, 0] rfl)
theorem cc_X4_findTouch (l : Launch) (D : va_G) (y : Nat → ClassId) (ad t : Nat → Nat) (X : va_W) (σ : cS) (r1 : Nat) (x2 : Int32) (x3 : Int32) (r4 : Nat) (ha_r1 : cL r1 = true) (ha_r4 : cJ r4 = true) (Q : cS → Prop) (hw : v_X4_findTouch Q r1 x2 x3 r4 σ) : ∀ sz, Met l yX4_findTouch wsX4_findTouch rc_X4_findTouch (va_Pc [.ref (ad 9), .ref (ad r1), .int x2, .int x3, .ref (ad r4)] (cPre D y ad t X sz σ)) (va_Qv Q (cB D y ad X (va_A (cW y ad σ ++ X) sz)) (va_A (cW y ad σ ++ X) sz)) 0 0 (va_A (cW y ad σ ++ X) sz) :=
  cMet (Qc := fun A => va_Qv Q (cB D y ad X A) A) (by decide) (own := RX4) rfl (Nat.le_of_ble_eq_true rfl) (fun p e s m args below meth c A ls C hO hl => kc_X4_findTouch_e C ha_r1 ha_r4 x2 x3 σ hw s.heap [] ls hO hl)
abbrev rc_X5_byteOf : Room := { frames := 0, cells := 0, slots := 0, locals := 0 }
set_option maxRecDepth 100000 in
set_option maxHeartbeats 4000000 in
theorem kc_X5_byteOf_e {p : Program} {l : Launch} {e : Env} {s : State} {m : MethodId} {args : Array Value} {below : List Frame} {meth : Method} {c : Code} {D : va_G} {y : Nat → ClassId} {ad t : Nat → Nat} {X : va_W} {A : Nat → Prop} {Q : Int32 → cS → Prop} (C : cC p s m args meth c cX5_byteOf 3 (some .int) RX5 wsX5_byteOf D y t A) (x0 : Int64) (x2 : Int32) (σ : cS) (hw : v_X5_byteOf Q x0 x2 σ) (H : Heap) (locs : List Loc) (ls : Array Slot) (hO : cO D y ad X A s.heap H locs σ) (hl : lv_has ls 3 [(0, .long x0), (2, .int x2)]) : W p l e rc_X5_byteOf s m args below meth c H locs 0 0 (MQ below (va_Qi Q (cB D y ad X A) A) args s 0 0 A) (F0 m 0 ls []) := by
  obtain ⟨hx, hb, hr, hml, hown, hts, hlk, hK, hA, hTs, hNw⟩ := id C
  unfold v_X5_byteOf at hw
  refine lv_lload_n hx hb dX5_byteOf_0 rfl (lv_at hl 0 rfl) ?_
  refine lv_bipush (v := 8) hx hb dX5_byteOf_1 (by decide) ?_
  refine lv_iload_n hx hb dX5_byteOf_3 rfl (lv_at hl 1 rfl) ?_
  refine lv_imul hx hb dX5_byteOf_4 ?_
  refine lv_lushr hx hb dX5_byteOf_5 rfl ?_
  refine lv_l2i hx hb dX5_byteOf_6 rfl ?_
  refine lv_sipush (v := 255) hx hb dX5_byteOf_7 (by decide) ?_
  refine lv_iand hx hb dX5_byteOf_10 ?_
  exact cx_iret C hO hw dX5_byteOf_11
theorem cc_X5_byteOf (l : Launch) (D : va_G) (y : Nat → ClassId) (ad t : Nat → Nat) (X : va_W) (σ : cS) (x0 : Int64) (x2 : Int32) (Q : Int32 → cS → Prop) (hw : v_X5_byteOf Q x0 x2 σ) : ∀ sz, Met l yX5_byteOf wsX5_byteOf rc_X5_byteOf (va_Pc [.long x0, .int x2] (cPre D y ad t X sz σ)) (va_Qi Q (cB D y ad X (va_A (cW y ad σ ++ X) sz)) (va_A (cW y ad σ ++ X) sz)) 0 0 (va_A (cW y ad σ ++ X) sz) :=
  cMet (Qc := fun A => va_Qi Q (cB D y ad X A) A) (by decide) (own := RX5) rfl (Nat.le_of_ble_eq_true rfl) (fun p e s m args below meth c A ls C hO hl => kc_X5_byteOf_e C x0 x2 σ hw s.heap [] ls hO hl)
abbrev rc_X7_within : Room := { frames := 0, cells := 0, slots := 0, locals := 0 }
set_option maxRecDepth 100000 in
set_option maxHeartbeats 4000000 in
theorem kc_X7_within_15 {p : Program} {l : Launch} {e : Env} {s : State} {m : MethodId} {args : Array Value} {below : List Frame} {meth : Method} {c : Code} {D : va_G} {y : Nat → ClassId} {ad t : Nat → Nat} {X : va_W} {A : Nat → Prop} {Q : Int32 → cS → Prop} (C : cC p s m args meth c cX7_within 3 (some .boolean) RX7 wsX7_within D y t A) (z0 : Int32) (σ : cS) (hw : v_X7_within_15 Q z0 σ) (H : Heap) (locs : List Loc) (ls : Array Slot) (hO : cO D y ad X A s.heap H locs σ) (hl : lv_has ls 3 []) : W p l e rc_X7_within s m args below meth c H locs 0 0 (MQ below (va_Qi Q (cB D y ad X A) A) args s 0 0 A) (F0 m 15 ls [.int z0]) := by
  obtain ⟨hx, hb, hr, hml, hown, hts, hlk, hK, hA, hTs, hNw⟩ := id C
  unfold v_X7_within_15 at hw
  exact cx_zret C hO hw.1 hw.2 dX7_within_15
set_option maxRecDepth 100000 in
set_option maxHeartbeats 4000000 in
theorem kc_X7_within_14 {p : Program} {l : Launch} {e : Env} {s : State} {m : MethodId} {args : Array Value} {below : List Frame} {meth : Method} {c : Code} {D : va_G} {y : Nat → ClassId} {ad t : Nat → Nat} {X : va_W} {A : Nat → Prop} {Q : Int32 → cS → Prop} (C : cC p s m args meth c cX7_within 3 (some .boolean) RX7 wsX7_within D y t A)  (σ : cS) (hw : v_X7_within_14 Q σ) (H : Heap) (locs : List Loc) (ls : Array Slot) (hO : cO D y ad X A s.heap H locs σ) (hl : lv_has ls 3 []) : W p l e rc_X7_within s m args below meth c H locs 0 0 (MQ below (va_Qi Q (cB D y ad X A) A) args s 0 0 A) (F0 m 14 ls []) := by
  obtain ⟨hx, hb, hr, hml, hown, hts, hlk, hK, hA, hTs, hNw⟩ := id C
  unfold v_X7_within_14 at hw
  refine lv_iconst (v := 0) hx hb dX7_within_14 (by decide) ?_
  exact kc_X7_within_15 C ((0 : Int32)) σ hw H locs ls hO (lv_sub hl [] rfl)
set_option maxRecDepth 100000 in
set_option maxHeartbeats 4000000 in
theorem kc_X7_within_e {p : Program} {l : Launch} {e : Env} {s : State} {m : MethodId} {args : Array Value} {below : List Frame} {meth : Method} {c : Code} {D : va_G} {y : Nat → ClassId} {ad t : Nat → Nat} {X : va_W} {A : Nat → Prop} {Q : Int32 → cS → Prop} (C : cC p s m args meth c cX7_within 3 (some .boolean) RX7 wsX7_within D y t A) (x0 : Int32) (x1 : Int32) (x2 : Int32) (σ : cS) (hw : v_X7_within Q x0 x1 x2 σ) (H : Heap) (locs : List Loc) (ls : Array Slot) (hO : cO D y ad X A s.heap H locs σ) (hl : lv_has ls 3 [(0, .int x0), (1, .int x1), (2, .int x2)]) : W p l e rc_X7_within s m args below meth c H locs 0 0 (MQ below (va_Qi Q (cB D y ad X A) A) args s 0 0 A) (F0 m 0 ls []) := by
  obtain ⟨hx, hb, hr, hml, hown, hts, hlk, hK, hA, hTs, hNw⟩ := id C
  unfold v_X7_within at hw
  refine lv_iload_n hx hb dX7_within_0 rfl (lv_at hl 0 rfl) ?_
  refine lv_iload_n hx hb dX7_within_1 rfl (lv_at hl 1 rfl) ?_
  refine lv_icmp_lt (tgt := 14) hx hb dX7_within_2 (by decide) (fun hc => ?_) (fun hc => ?_)
  · have hw := hw.1 hc
    exact kc_X7_within_14 C σ hw H locs ls hO (lv_sub hl [] rfl)
  · have hw := hw.2 hc
    refine lv_iload_n hx hb dX7_within_5 rfl (lv_at hl 0 rfl) ?_
    refine lv_iload_n hx hb dX7_within_6 rfl (lv_at hl 2 rfl) ?_
    refine lv_icmp_gt (tgt := 14) hx hb dX7_within_7 (by decide) (fun hc => ?_) (fun hc => ?_)
    · have hw := hw.1 hc
      exact kc_X7_within_14 C σ hw H locs ls hO (lv_sub hl [] rfl)
    · have hw := hw.2 hc
      refine lv_iconst (v := 1) hx hb dX7_within_10 (by decide) ?_
      refine lv_goto (tgt := 15) hx hb dX7_within_11 (by decide) ?_
      exact kc_X7_within_15 C ((1 : Int32)) σ hw H locs ls hO (lv_sub hl [] rfl)
theorem cc_X7_within (l : Launch) (D : va_G) (y : Nat → ClassId) (ad t : Nat → Nat) (X : va_W) (σ : cS) (x0 : Int32) (x1 : Int32) (x2 : Int32) (Q : Int32 → cS → Prop) (hw : v_X7_within Q x0 x1 x2 σ) : ∀ sz, Met l yX7_within wsX7_within rc_X7_within (va_Pc [.int x0, .int x1, .int x2] (cPre D y ad t X sz σ)) (va_Qi Q (cB D y ad X (va_A (cW y ad σ ++ X) sz)) (va_A (cW y ad σ ++ X) sz)) 0 0 (va_A (cW y ad σ ++ X) sz) :=
  cMet (Qc := fun A => va_Qi Q (cB D y ad X A) A) (by decide) (own := RX7) rfl (Nat.le_of_ble_eq_true rfl) (fun p e s m args below meth c A ls C hO hl => kc_X7_within_e C x0 x1 x2 σ hw s.heap [] ls hO hl)
abbrev rc_X5_isText : Room := { frames := 1, cells := 0, slots := 0, locals := 22 }
set_option maxRecDepth 100000 in
set_option maxHeartbeats 4000000 in
theorem kc_X5_isText_2 {p : Program} {l : Launch} {e : Env} {s : State} {m : MethodId} {args : Array Value} {below : List Frame} {meth : Method} {c : Code} {D : va_G} {y : Nat → ClassId} {ad t : Nat → Nat} {X : va_W} {A : Nat → Prop} {Q : Int32 → cS → Prop} (C : cC p s m args meth c cX5_isText 4 (some .boolean) RX5 wsX5_isText D y t A) (n : Nat) : ∀ (x0 : Int64) (x2 : Int32) (x3 : Int32) (σ : cS), v_X5_isText_2 Q n x0 x2 x3 σ → ∀ (H : Heap) (locs : List Loc) (ls : Array Slot), cO D y ad X A s.heap H locs σ → lv_has ls 4 [(0, .long x0), (2, .int x2), (3, .int x3)] → W p l e rc_X5_isText s m args below meth c H locs 0 0 (MQ below (va_Qi Q (cB D y ad X A) A) args s 0 0 A) (F0 m 2 ls []) := by
  obtain ⟨hx, hb, hr, hml, hown, hts, hlk, hK, hA, hTs, hNw⟩ := id C
  induction n with
  | zero =>
    intro x0 x2 x3 σ hw
    exact (show False from hw).elim
  | succ n ih =>
    intro x0 x2 x3 σ hw H locs ls hO hl
    unfold v_X5_isText_2 at hw
    refine lv_iload_n hx hb dX5_isText_2 rfl (lv_at hl 2 rfl) ?_
    refine lv_iload_n hx hb dX5_isText_3 rfl (lv_at hl 1 rfl) ?_
    refine lv_icmp_ge (tgt := 30) hx hb dX5_isText_4 (by decide) (fun hc => ?_) (fun hc => ?_)
    · have hw := hw.1 hc
      refine lv_iconst (v := 1) hx hb dX5_isText_30 (by decide) ?_
      exact cx_zret C hO hw.1 hw.2 dX5_isText_31
    · have hw := hw.2 hc
      refine lv_lload_n hx hb dX5_isText_7 rfl (lv_at hl 0 rfl) ?_
      refine lv_iload_n hx hb dX5_isText_8 rfl (lv_at hl 2 rfl) ?_
      refine cx_cis C hO (cc_X5_byteOf l D y ad t X σ x0 x3 _ hw) (va_cwS 2 hts gX5_isText_X5_byteOf rfl rfl rfl (by decide +kernel) ⟨Nat.le_of_ble_eq_true rfl, Nat.le_of_ble_eq_true rfl⟩) rfl hl.1 rfl (lv_room (Nat.le_of_ble_eq_true rfl)) dX5_isText_9 (fun u101 σ102 H locs hw hO => ?_)
      refine lv_bipush (v := 32) hx hb dX5_isText_12 (by decide) ?_
      refine lv_bipush (v := 126) hx hb dX5_isText_14 (by decide) ?_
      refine cx_cin C hO (cc_X7_within l D y ad t X σ102 u101 (32 : Int32) (126 : Int32) _ hw) ⟨va_cnB 3 hts gX5_isText_X7_within_n19 rfl rfl rfl hNw (hts (.initialized RX7) (by decide +kernel)) (by decide +kernel) ⟨Nat.le_of_ble_eq_true rfl, Nat.le_of_ble_eq_true rfl⟩, hts (.static yX7_within) (by decide +kernel), trivial⟩ rfl hl.1 rfl (lv_room (Nat.le_of_ble_eq_true rfl)) dX5_isText_16 (fun u103 σ104 H locs hw hO => ?_)
      refine lv_if_ne (tgt := 24) hx hb dX5_isText_19 (by decide) (fun hc => ?_) (fun hc => ?_)
      · have hw := hw.1 hc
        obtain ⟨x3_105, ex3_105⟩ : ∃ y : Int32, y = x3 + 1 := ⟨_, rfl⟩
        have hw := hw x3_105 ex3_105
        refine lv_iinc (v := x3_105) (lv' := [(3, .int x3_105), (0, .long x0), (2, .int x2)]) hx hb dX5_isText_24 hl (k := 2) rfl (by rw [ex3_105]; rfl) (by decide) rfl (fun ls hl => ?_)
        refine lv_goto (tgt := 2) hx hb dX5_isText_27 (by decide) ?_
        exact ih x0 x2 x3_105 σ104 hw H locs ls hO (lv_sub hl [1, 2, 0] rfl)
      · have hw := hw.2 hc
        refine lv_iconst (v := 0) hx hb dX5_isText_22 (by decide) ?_
        exact cx_zret C hO hw.1 hw.2 dX5_isText_23
set_option maxRecDepth 100000 in
set_option maxHeartbeats 4000000 in
theorem kc_X5_isText_e {p : Program} {l : Launch} {e : Env} {s : State} {m : MethodId} {args : Array Value} {below : List Frame} {meth : Method} {c : Code} {D : va_G} {y : Nat → ClassId} {ad t : Nat → Nat} {X : va_W} {A : Nat → Prop} {Q : Int32 → cS → Prop} (C : cC p s m args meth c cX5_isText 4 (some .boolean) RX5 wsX5_isText D y t A) (x0 : Int64) (x2 : Int32) (σ : cS) (hw : v_X5_isText Q x0 x2 σ) (H : Heap) (locs : List Loc) (ls : Array Slot) (hO : cO D y ad X A s.heap H locs σ) (hl : lv_has ls 4 [(0, .long x0), (2, .int x2)]) : W p l e rc_X5_isText s m args below meth c H locs 0 0 (MQ below (va_Qi Q (cB D y ad X A) A) args s 0 0 A) (F0 m 0 ls []) := by
  obtain ⟨hx, hb, hr, hml, hown, hts, hlk, hK, hA, hTs, hNw⟩ := id C
  unfold v_X5_isText at hw
  refine lv_iconst (v := 0) hx hb dX5_isText_0 (by decide) ?_
  refine lv_istore_n (lv' := [(3, .int ((0 : Int32))), (0, .long x0), (2, .int x2)]) hx hb dX5_isText_1 rfl hl (by decide) rfl (fun ls hl => ?_)
  exact kc_X5_isText_2 C fuL x0 x2 ((0 : Int32)) σ hw H locs ls hO (lv_sub hl [1, 2, 0] rfl)
theorem cc_X5_isText (l : Launch) (D : va_G) (y : Nat → ClassId) (ad t : Nat → Nat) (X : va_W) (σ : cS) (x0 : Int64) (x2 : Int32) (Q : Int32 → cS → Prop) (hw : v_X5_isText Q x0 x2 σ) : ∀ sz, Met l yX5_isText wsX5_isText rc_X5_isText (va_Pc [.long x0, .int x2] (cPre D y ad t X sz σ)) (va_Qi Q (cB D y ad X (va_A (cW y ad σ ++ X) sz)) (va_A (cW y ad σ ++ X) sz)) 0 0 (va_A (cW y ad σ ++ X) sz) :=
  cMet (Qc := fun A => va_Qi Q (cB D y ad X A) A) (by decide) (own := RX5) rfl (Nat.le_of_ble_eq_true rfl) (fun p e s m args below meth c A ls C hO hl => kc_X5_isText_e C x0 x2 σ hw s.heap [] ls hO hl)
abbrev rc_X5_append : Room := { frames := 1, cells := 0, slots := 0, locals := 22 }
set_option maxRecDepth 100000 in
set_option maxHeartbeats 4000000 in
theorem kc_X5_append_63 {p : Program} {l : Launch} {e : Env} {s : State} {m : MethodId} {args : Array Value} {below : List Frame} {meth : Method} {c : Code} {D : va_G} {y : Nat → ClassId} {ad t : Nat → Nat} {X : va_W} {A : Nat → Prop} {Q : Int32 → cS → Prop} (C : cC p s m args meth c cX5_append 5 (some .boolean) RX5 wsX5_append D y t A)  (σ : cS) (hw : v_X5_append_63 Q σ) (H : Heap) (locs : List Loc) (ls : Array Slot) (hO : cO D y ad X A s.heap H locs σ) (hl : lv_has ls 5 [(0, .ref (ad 1))]) : W p l e rc_X5_append s m args below meth c H locs 0 0 (MQ below (va_Qi Q (cB D y ad X A) A) args s 0 0 A) (F0 m 63 ls []) := by
  obtain ⟨hx, hb, hr, hml, hown, hts, hlk, hK, hA, hTs, hNw⟩ := id C
  unfold v_X5_append_63 at hw
  refine lv_iconst (v := 1) hx hb dX5_append_63 (by decide) ?_
  exact cx_zret C hO hw.1 hw.2 dX5_append_64
set_option maxRecDepth 100000 in
set_option maxHeartbeats 4000000 in
theorem kc_X5_append_18 {p : Program} {l : Launch} {e : Env} {s : State} {m : MethodId} {args : Array Value} {below : List Frame} {meth : Method} {c : Code} {D : va_G} {y : Nat → ClassId} {ad t : Nat → Nat} {X : va_W} {A : Nat → Prop} {Q : Int32 → cS → Prop} (C : cC p s m args meth c cX5_append 5 (some .boolean) RX5 wsX5_append D y t A) (n : Nat) : ∀ (x1 : Int64) (x4 : Int32) (σ : cS), v_X5_append_18 Q n x1 x4 σ → ∀ (H : Heap) (locs : List Loc) (ls : Array Slot), cO D y ad X A s.heap H locs σ → lv_has ls 5 [(0, .ref (ad 1)), (1, .long x1), (4, .int x4)] → W p l e rc_X5_append s m args below meth c H locs 0 0 (MQ below (va_Qi Q (cB D y ad X A) A) args s 0 0 A) (F0 m 18 ls []) := by
  obtain ⟨hx, hb, hr, hml, hown, hts, hlk, hK, hA, hTs, hNw⟩ := id C
  have hinX5 : ∀ w ∈ wsX50, w ∈ wsX5_append := fun _ h => List.mem_cons_of_mem _ (List.mem_append_right _ h)
  induction n with
  | zero =>
    intro x1 x4 σ hw
    exact (show False from hw).elim
  | succ n ih =>
    intro x1 x4 σ hw H locs ls hO hl
    unfold v_X5_append_18 at hw
    refine lv_iload hx hb dX5_append_18 (lv_at hl 2 rfl) ?_
    refine lv_if_lt (tgt := 63) hx hb dX5_append_20 (by decide) (fun hc => ?_) (fun hc => ?_)
    · have hw := hw.1 hc
      exact kc_X5_append_63 C σ hw H locs ls hO (lv_sub hl [0] rfl)
    · have hw := hw.2 hc
      refine lv_aload_n hx hb dX5_append_23 rfl (lv_at hl 0 rfl) ?_
      refine cx_get C hO (by decide) rfl rfl hinX5 1 (by decide) (idx := 23) (by decide +kernel) rfl rfl dX5_append_24 ?_
      refine lv_bipush (v := 90) hx hb dX5_append_27 (by decide) ?_
      refine lv_icmp_ge (tgt := 63) hx hb dX5_append_29 (by decide) (fun hc => ?_) (fun hc => ?_)
      · have hw := hw.1 hc
        exact kc_X5_append_63 C σ hw H locs ls hO (lv_sub hl [0] rfl)
      · have hw := hw.2 hc
        refine lv_aload_n hx hb dX5_append_32 rfl (lv_at hl 0 rfl) ?_
        refine cx_get C hO (by decide) rfl rfl hinX5 0 (by decide) (idx := 11) (by decide +kernel) rfl rfl dX5_append_33 ?_
        refine lv_aload_n hx hb dX5_append_36 rfl (lv_at hl 0 rfl) ?_
        refine cx_get C hO (by decide) rfl rfl hinX5 1 (by decide) (idx := 23) (by decide +kernel) rfl rfl dX5_append_37 ?_
        refine lv_lload_n hx hb dX5_append_40 rfl (lv_at hl 1 rfl) ?_
        refine lv_iload hx hb dX5_append_41 (lv_at hl 2 rfl) ?_
        refine cx_cis C hO (cc_X5_byteOf l D y ad t X σ x1 x4 _ hw) (va_cwS 2 hts gX5_append_X5_byteOf rfl rfl rfl (by decide +kernel) ⟨Nat.le_of_ble_eq_true rfl, Nat.le_of_ble_eq_true rfl⟩) rfl hl.1 rfl (lv_room (Nat.le_of_ble_eq_true rfl)) dX5_append_43 (fun u101 σ102 H locs hw hO => ?_)
        refine cx_iast C hO hw.1 dX5_append_46 (fun H locs σ103 eσ103 hO => ?_)
        have hw := hw.2 σ103 eσ103
        refine lv_aload_n hx hb dX5_append_47 rfl (lv_at hl 0 rfl) ?_
        refine lv_dup hx hb dX5_append_48 rfl ?_
        refine cx_get C hO (by decide) rfl rfl hinX5 1 (by decide) (idx := 23) (by decide +kernel) rfl rfl dX5_append_49 ?_
        refine lv_iconst (v := 1) hx hb dX5_append_52 (by decide) ?_
        refine lv_iadd hx hb dX5_append_53 ?_
        refine cx_put C hO (ty := .int) (by decide) rfl rfl hinX5 tyX5 tyX5_ok nmX5 1 (by decide) (idx := 23) (by decide +kernel) rfl rfl (by decide +kernel) rfl rfl (Nat.le_of_ble_eq_true rfl) (cW_FT (by decide)) dX5_append_54 (fun H locs σ104 eσ104 hO => ?_)
        have hw := hw σ104 eσ104
        obtain ⟨x4_105, ex4_105⟩ : ∃ y : Int32, y = x4 + (-1) := ⟨_, rfl⟩
        have hw := hw x4_105 ex4_105
        refine lv_iinc (v := x4_105) (lv' := [(4, .int x4_105), (0, .ref (ad 1)), (1, .long x1)]) hx hb dX5_append_57 hl (k := 2) rfl (by rw [ex4_105]; rfl) (by decide) rfl (fun ls hl => ?_)
        refine lv_goto (tgt := 18) hx hb dX5_append_60 (by decide) ?_
        exact ih x1 x4_105 σ104 hw H locs ls hO (lv_sub hl [1, 2, 0] rfl)
set_option maxRecDepth 100000 in
set_option maxHeartbeats 4000000 in
theorem kc_X5_append_e {p : Program} {l : Launch} {e : Env} {s : State} {m : MethodId} {args : Array Value} {below : List Frame} {meth : Method} {c : Code} {D : va_G} {y : Nat → ClassId} {ad t : Nat → Nat} {X : va_W} {A : Nat → Prop} {Q : Int32 → cS → Prop} (C : cC p s m args meth c cX5_append 5 (some .boolean) RX5 wsX5_append D y t A) (x1 : Int64) (x3 : Int32) (σ : cS) (hw : v_X5_append Q x1 x3 σ) (H : Heap) (locs : List Loc) (ls : Array Slot) (hO : cO D y ad X A s.heap H locs σ) (hl : lv_has ls 5 [(0, .ref (ad 1)), (1, .long x1), (3, .int x3)]) : W p l e rc_X5_append s m args below meth c H locs 0 0 (MQ below (va_Qi Q (cB D y ad X A) A) args s 0 0 A) (F0 m 0 ls []) := by
  obtain ⟨hx, hb, hr, hml, hown, hts, hlk, hK, hA, hTs, hNw⟩ := id C
  have hinX5 : ∀ w ∈ wsX50, w ∈ wsX5_append := fun _ h => List.mem_cons_of_mem _ (List.mem_append_right _ h)
  unfold v_X5_append at hw
  refine lv_iload_n hx hb dX5_append_0 rfl (lv_at hl 2 rfl) ?_
  refine lv_bipush (v := 90) hx hb dX5_append_1 (by decide) ?_
  refine lv_aload_n hx hb dX5_append_3 rfl (lv_at hl 0 rfl) ?_
  refine cx_get C hO (by decide) rfl rfl hinX5 1 (by decide) (idx := 23) (by decide +kernel) rfl rfl dX5_append_4 ?_
  refine lv_isub hx hb dX5_append_7 ?_
  refine lv_icmp_le (tgt := 13) hx hb dX5_append_8 (by decide) (fun hc => ?_) (fun hc => ?_)
  · have hw := hw.1 hc
    refine lv_iload_n hx hb dX5_append_13 rfl (lv_at hl 2 rfl) ?_
    refine lv_iconst (v := 1) hx hb dX5_append_14 (by decide) ?_
    refine lv_isub hx hb dX5_append_15 ?_
    refine lv_topi (fun x4_101 ex4_101 => ?_)
    have hw := hw x4_101 ex4_101
    refine lv_istore (lv' := [(4, .int x4_101), (0, .ref (ad 1)), (1, .long x1), (3, .int x3)]) hx hb dX5_append_16 hl (by decide) rfl (fun ls hl => ?_)
    exact kc_X5_append_18 C fuL x1 x4_101 σ hw H locs ls hO (lv_sub hl [1, 2, 0] rfl)
  · have hw := hw.2 hc
    refine lv_iconst (v := 0) hx hb dX5_append_11 (by decide) ?_
    exact cx_zret C hO hw.1 hw.2 dX5_append_12
theorem cc_X5_append (l : Launch) (D : va_G) (y : Nat → ClassId) (ad t : Nat → Nat) (X : va_W) (σ : cS) (x1 : Int64) (x3 : Int32) (Q : Int32 → cS → Prop) (hw : v_X5_append Q x1 x3 σ) : ∀ sz, Met l yX5_append wsX5_append rc_X5_append (va_Pc [.ref (ad 1), .long x1, .int x3] (cPre D y ad t X sz σ)) (va_Qi Q (cB D y ad X (va_A (cW y ad σ ++ X) sz)) (va_A (cW y ad σ ++ X) sz)) 0 0 (va_A (cW y ad σ ++ X) sz) :=
  cMet (Qc := fun A => va_Qi Q (cB D y ad X A) A) (by decide) (own := RX5) rfl (Nat.le_of_ble_eq_true rfl) (fun p e s m args below meth c A ls C hO hl => kc_X5_append_e C x1 x3 σ hw s.heap [] ls hO hl)
abbrev rc_X5_next : Room := { frames := 0, cells := 0, slots := 0, locals := 0 }
set_option maxRecDepth 100000 in
set_option maxHeartbeats 4000000 in
theorem kc_X5_next_87 {p : Program} {l : Launch} {e : Env} {s : State} {m : MethodId} {args : Array Value} {below : List Frame} {meth : Method} {c : Code} {D : va_G} {y : Nat → ClassId} {ad t : Nat → Nat} {X : va_W} {A : Nat → Prop} {Q : Int32 → cS → Prop} (C : cC p s m args meth c cX5_next 1 (some .int) RX5 wsX5_next D y t A) (z0 : Int32) (σ : cS) (hw : v_X5_next_87 Q z0 σ) (H : Heap) (locs : List Loc) (ls : Array Slot) (hO : cO D y ad X A s.heap H locs σ) (hl : lv_has ls 1 [(0, .ref (ad 1))]) : W p l e rc_X5_next s m args below meth c H locs 0 0 (MQ below (va_Qi Q (cB D y ad X A) A) args s 0 0 A) (F0 m 87 ls [.int z0]) := by
  obtain ⟨hx, hb, hr, hml, hown, hts, hlk, hK, hA, hTs, hNw⟩ := id C
  unfold v_X5_next_87 at hw
  exact cx_iret C hO hw dX5_next_87
set_option maxRecDepth 100000 in
set_option maxHeartbeats 4000000 in
theorem kc_X5_next_86 {p : Program} {l : Launch} {e : Env} {s : State} {m : MethodId} {args : Array Value} {below : List Frame} {meth : Method} {c : Code} {D : va_G} {y : Nat → ClassId} {ad t : Nat → Nat} {X : va_W} {A : Nat → Prop} {Q : Int32 → cS → Prop} (C : cC p s m args meth c cX5_next 1 (some .int) RX5 wsX5_next D y t A)  (σ : cS) (hw : v_X5_next_86 Q σ) (H : Heap) (locs : List Loc) (ls : Array Slot) (hO : cO D y ad X A s.heap H locs σ) (hl : lv_has ls 1 [(0, .ref (ad 1))]) : W p l e rc_X5_next s m args below meth c H locs 0 0 (MQ below (va_Qi Q (cB D y ad X A) A) args s 0 0 A) (F0 m 86 ls []) := by
  obtain ⟨hx, hb, hr, hml, hown, hts, hlk, hK, hA, hTs, hNw⟩ := id C
  unfold v_X5_next_86 at hw
  refine lv_iconst (v := -1) hx hb dX5_next_86 (by decide) ?_
  exact kc_X5_next_87 C ((-1 : Int32)) σ hw H locs ls hO (lv_sub hl [0] rfl)
set_option maxRecDepth 100000 in
set_option maxHeartbeats 4000000 in
theorem kc_X5_next_47 {p : Program} {l : Launch} {e : Env} {s : State} {m : MethodId} {args : Array Value} {below : List Frame} {meth : Method} {c : Code} {D : va_G} {y : Nat → ClassId} {ad t : Nat → Nat} {X : va_W} {A : Nat → Prop} {Q : Int32 → cS → Prop} (C : cC p s m args meth c cX5_next 1 (some .int) RX5 wsX5_next D y t A)  (σ : cS) (hw : v_X5_next_47 Q σ) (H : Heap) (locs : List Loc) (ls : Array Slot) (hO : cO D y ad X A s.heap H locs σ) (hl : lv_has ls 1 [(0, .ref (ad 1))]) : W p l e rc_X5_next s m args below meth c H locs 0 0 (MQ below (va_Qi Q (cB D y ad X A) A) args s 0 0 A) (F0 m 47 ls []) := by
  obtain ⟨hx, hb, hr, hml, hown, hts, hlk, hK, hA, hTs, hNw⟩ := id C
  have hinX5 : ∀ w ∈ wsX50, w ∈ wsX5_next := fun _ h => List.mem_cons_of_mem _ (List.mem_append_right _ h)
  unfold v_X5_next_47 at hw
  refine lv_aload_n hx hb dX5_next_47 rfl (lv_at hl 0 rfl) ?_
  refine cx_get C hO (by decide) rfl rfl hinX5 2 (by decide) (idx := 33) (by decide +kernel) rfl rfl dX5_next_48 ?_
  refine lv_if_lt (tgt := 86) hx hb dX5_next_51 (by decide) (fun hc => ?_) (fun hc => ?_)
  · have hw := hw.1 hc
    exact kc_X5_next_86 C σ hw H locs ls hO (lv_sub hl [0] rfl)
  · have hw := hw.2 hc
    refine lv_aload_n hx hb dX5_next_54 rfl (lv_at hl 0 rfl) ?_
    refine cx_get C hO (by decide) rfl rfl hinX5 2 (by decide) (idx := 33) (by decide +kernel) rfl rfl dX5_next_55 ?_
    refine lv_aload_n hx hb dX5_next_58 rfl (lv_at hl 0 rfl) ?_
    refine cx_get C hO (by decide) rfl rfl hinX5 1 (by decide) (idx := 23) (by decide +kernel) rfl rfl dX5_next_59 ?_
    refine lv_icmp_ge (tgt := 86) hx hb dX5_next_62 (by decide) (fun hc => ?_) (fun hc => ?_)
    · have hw := hw.1 hc
      exact kc_X5_next_86 C σ hw H locs ls hO (lv_sub hl [0] rfl)
    · have hw := hw.2 hc
      refine lv_aload_n hx hb dX5_next_65 rfl (lv_at hl 0 rfl) ?_
      refine cx_get C hO (by decide) rfl rfl hinX5 2 (by decide) (idx := 33) (by decide +kernel) rfl rfl dX5_next_66 ?_
      refine lv_bipush (v := 90) hx hb dX5_next_69 (by decide) ?_
      refine lv_icmp_ge (tgt := 86) hx hb dX5_next_71 (by decide) (fun hc => ?_) (fun hc => ?_)
      · have hw := hw.1 hc
        exact kc_X5_next_86 C σ hw H locs ls hO (lv_sub hl [0] rfl)
      · have hw := hw.2 hc
        refine lv_aload_n hx hb dX5_next_74 rfl (lv_at hl 0 rfl) ?_
        refine cx_get C hO (by decide) rfl rfl hinX5 0 (by decide) (idx := 11) (by decide +kernel) rfl rfl dX5_next_75 ?_
        refine lv_aload_n hx hb dX5_next_78 rfl (lv_at hl 0 rfl) ?_
        refine cx_get C hO (by decide) rfl rfl hinX5 2 (by decide) (idx := 33) (by decide +kernel) rfl rfl dX5_next_79 ?_
        refine cx_iald C hO hw.1 dX5_next_82 ?_
        have hw := hw.2
        refine lv_goto (tgt := 87) hx hb dX5_next_83 (by decide) ?_
        exact kc_X5_next_87 C (σ.2.1 2 (σ.2.2.1 1 2).toNatClampNeg) σ hw H locs ls hO (lv_sub hl [0] rfl)
set_option maxRecDepth 100000 in
set_option maxHeartbeats 4000000 in
theorem kc_X5_next_0 {p : Program} {l : Launch} {e : Env} {s : State} {m : MethodId} {args : Array Value} {below : List Frame} {meth : Method} {c : Code} {D : va_G} {y : Nat → ClassId} {ad t : Nat → Nat} {X : va_W} {A : Nat → Prop} {Q : Int32 → cS → Prop} (C : cC p s m args meth c cX5_next 1 (some .int) RX5 wsX5_next D y t A) (n : Nat) : ∀  (σ : cS), v_X5_next_0 Q n σ → ∀ (H : Heap) (locs : List Loc) (ls : Array Slot), cO D y ad X A s.heap H locs σ → lv_has ls 1 [(0, .ref (ad 1))] → W p l e rc_X5_next s m args below meth c H locs 0 0 (MQ below (va_Qi Q (cB D y ad X A) A) args s 0 0 A) (F0 m 0 ls []) := by
  obtain ⟨hx, hb, hr, hml, hown, hts, hlk, hK, hA, hTs, hNw⟩ := id C
  have hinX5 : ∀ w ∈ wsX50, w ∈ wsX5_next := fun _ h => List.mem_cons_of_mem _ (List.mem_append_right _ h)
  induction n with
  | zero =>
    intro  σ hw
    exact (show False from hw).elim
  | succ n ih =>
    intro  σ hw H locs ls hO hl
    unfold v_X5_next_0 at hw
    refine lv_aload_n hx hb dX5_next_0 rfl (lv_at hl 0 rfl) ?_
    refine cx_get C hO (by decide) rfl rfl hinX5 2 (by decide) (idx := 33) (by decide +kernel) rfl rfl dX5_next_1 ?_
    refine lv_aload_n hx hb dX5_next_4 rfl (lv_at hl 0 rfl) ?_
    refine cx_get C hO (by decide) rfl rfl hinX5 1 (by decide) (idx := 23) (by decide +kernel) rfl rfl dX5_next_5 ?_
    refine lv_icmp_ge (tgt := 47) hx hb dX5_next_8 (by decide) (fun hc => ?_) (fun hc => ?_)
    · have hw := hw.1 hc
      exact kc_X5_next_47 C σ hw H locs ls hO (lv_sub hl [0] rfl)
    · have hw := hw.2 hc
      refine lv_aload_n hx hb dX5_next_11 rfl (lv_at hl 0 rfl) ?_
      refine cx_get C hO (by decide) rfl rfl hinX5 2 (by decide) (idx := 33) (by decide +kernel) rfl rfl dX5_next_12 ?_
      refine lv_bipush (v := 90) hx hb dX5_next_15 (by decide) ?_
      refine lv_icmp_ge (tgt := 47) hx hb dX5_next_17 (by decide) (fun hc => ?_) (fun hc => ?_)
      · have hw := hw.1 hc
        exact kc_X5_next_47 C σ hw H locs ls hO (lv_sub hl [0] rfl)
      · have hw := hw.2 hc
        refine lv_aload_n hx hb dX5_next_20 rfl (lv_at hl 0 rfl) ?_
        refine cx_get C hO (by decide) rfl rfl hinX5 0 (by decide) (idx := 11) (by decide +kernel) rfl rfl dX5_next_21 ?_
        refine lv_aload_n hx hb dX5_next_24 rfl (lv_at hl 0 rfl) ?_
        refine cx_get C hO (by decide) rfl rfl hinX5 2 (by decide) (idx := 33) (by decide +kernel) rfl rfl dX5_next_25 ?_
        refine cx_iald C hO hw.1 dX5_next_28 ?_
        have hw := hw.2
        refine lv_bipush (v := 32) hx hb dX5_next_29 (by decide) ?_
        refine lv_icmp_ne (tgt := 47) hx hb dX5_next_31 (by decide) (fun hc => ?_) (fun hc => ?_)
        · have hw := hw.1 hc
          exact kc_X5_next_47 C σ hw H locs ls hO (lv_sub hl [0] rfl)
        · have hw := hw.2 hc
          refine lv_aload_n hx hb dX5_next_34 rfl (lv_at hl 0 rfl) ?_
          refine lv_dup hx hb dX5_next_35 rfl ?_
          refine cx_get C hO (by decide) rfl rfl hinX5 2 (by decide) (idx := 33) (by decide +kernel) rfl rfl dX5_next_36 ?_
          refine lv_iconst (v := 1) hx hb dX5_next_39 (by decide) ?_
          refine lv_iadd hx hb dX5_next_40 ?_
          refine cx_put C hO (ty := .int) (by decide) rfl rfl hinX5 tyX5 tyX5_ok nmX5 2 (by decide) (idx := 33) (by decide +kernel) rfl rfl (by decide +kernel) rfl rfl (Nat.le_of_ble_eq_true rfl) (cW_FT (by decide)) dX5_next_41 (fun H locs σ101 eσ101 hO => ?_)
          have hw := hw σ101 eσ101
          refine lv_goto (tgt := 0) hx hb dX5_next_44 (by decide) ?_
          exact ih σ101 hw H locs ls hO (lv_sub hl [0] rfl)
set_option maxRecDepth 100000 in
set_option maxHeartbeats 4000000 in
theorem kc_X5_next_e {p : Program} {l : Launch} {e : Env} {s : State} {m : MethodId} {args : Array Value} {below : List Frame} {meth : Method} {c : Code} {D : va_G} {y : Nat → ClassId} {ad t : Nat → Nat} {X : va_W} {A : Nat → Prop} {Q : Int32 → cS → Prop} (C : cC p s m args meth c cX5_next 1 (some .int) RX5 wsX5_next D y t A)  (σ : cS) (hw : v_X5_next Q σ) (H : Heap) (locs : List Loc) (ls : Array Slot) (hO : cO D y ad X A s.heap H locs σ) (hl : lv_has ls 1 [(0, .ref (ad 1))]) : W p l e rc_X5_next s m args below meth c H locs 0 0 (MQ below (va_Qi Q (cB D y ad X A) A) args s 0 0 A) (F0 m 0 ls []) := by
  obtain ⟨hx, hb, hr, hml, hown, hts, hlk, hK, hA, hTs, hNw⟩ := id C
  unfold v_X5_next at hw
  exact kc_X5_next_0 C fuL σ hw H locs ls hO (lv_sub hl [0] rfl)
theorem cc_X5_next (l : Launch) (D : va_G) (y : Nat → ClassId) (ad t : Nat → Nat) (X : va_W) (σ : cS)  (Q : Int32 → cS → Prop) (hw : v_X5_next Q σ) : ∀ sz, Met l yX5_next wsX5_next rc_X5_next (va_Pc [.ref (ad 1)] (cPre D y ad t X sz σ)) (va_Qi Q (cB D y ad X (va_A (cW y ad σ ++ X) sz)) (va_A (cW y ad σ ++ X) sz)) 0 0 (va_A (cW y ad σ ++ X) sz) :=
  cMet (Qc := fun A => va_Qi Q (cB D y ad X A) A) (by decide) (own := RX5) rfl (Nat.le_of_ble_eq_true rfl) (fun p e s m args below meth c A ls C hO hl => kc_X5_next_e C σ hw s.heap [] ls hO hl)
abbrev rc_X5_isDigit : Room := { frames := 1, cells := 0, slots := 0, locals := 22 }
set_option maxRecDepth 100000 in
set_option maxHeartbeats 4000000 in
theorem kc_X5_isDigit_e {p : Program} {l : Launch} {e : Env} {s : State} {m : MethodId} {args : Array Value} {below : List Frame} {meth : Method} {c : Code} {D : va_G} {y : Nat → ClassId} {ad t : Nat → Nat} {X : va_W} {A : Nat → Prop} {Q : Int32 → cS → Prop} (C : cC p s m args meth c cX5_isDigit 1 (some .boolean) RX5 wsX5_isDigit D y t A) (x0 : Int32) (σ : cS) (hw : v_X5_isDigit Q x0 σ) (H : Heap) (locs : List Loc) (ls : Array Slot) (hO : cO D y ad X A s.heap H locs σ) (hl : lv_has ls 1 [(0, .int x0)]) : W p l e rc_X5_isDigit s m args below meth c H locs 0 0 (MQ below (va_Qi Q (cB D y ad X A) A) args s 0 0 A) (F0 m 0 ls []) := by
  obtain ⟨hx, hb, hr, hml, hown, hts, hlk, hK, hA, hTs, hNw⟩ := id C
  unfold v_X5_isDigit at hw
  refine lv_iload_n hx hb dX5_isDigit_0 rfl (lv_at hl 0 rfl) ?_
  refine lv_bipush (v := 48) hx hb dX5_isDigit_1 (by decide) ?_
  refine lv_bipush (v := 57) hx hb dX5_isDigit_3 (by decide) ?_
  refine cx_cin C hO (cc_X7_within l D y ad t X σ x0 (48 : Int32) (57 : Int32) _ hw) ⟨va_cnB 3 hts gX5_isDigit_X7_within_n19 rfl rfl rfl hNw (hts (.initialized RX7) (by decide +kernel)) (by decide +kernel) ⟨Nat.le_of_ble_eq_true rfl, Nat.le_of_ble_eq_true rfl⟩, hts (.static yX7_within) (by decide +kernel), trivial⟩ rfl hl.1 rfl (lv_room (Nat.le_of_ble_eq_true rfl)) dX5_isDigit_5 (fun u101 σ102 H locs hw hO => ?_)
  exact cx_zret C hO hw.1 hw.2 dX5_isDigit_8
theorem cc_X5_isDigit (l : Launch) (D : va_G) (y : Nat → ClassId) (ad t : Nat → Nat) (X : va_W) (σ : cS) (x0 : Int32) (Q : Int32 → cS → Prop) (hw : v_X5_isDigit Q x0 σ) : ∀ sz, Met l yX5_isDigit wsX5_isDigit rc_X5_isDigit (va_Pc [.int x0] (cPre D y ad t X sz σ)) (va_Qi Q (cB D y ad X (va_A (cW y ad σ ++ X) sz)) (va_A (cW y ad σ ++ X) sz)) 0 0 (va_A (cW y ad σ ++ X) sz) :=
  cMet (Qc := fun A => va_Qi Q (cB D y ad X A) A) (by decide) (own := RX5) rfl (Nat.le_of_ble_eq_true rfl) (fun p e s m args below meth c A ls C hO hl => kc_X5_isDigit_e C x0 σ hw s.heap [] ls hO hl)
abbrev rc_X5_readNumber : Room := { frames := 2, cells := 0, slots := 0, locals := 42 }
set_option maxRecDepth 100000 in
set_option maxHeartbeats 4000000 in
theorem kc_X5_readNumber_77 {p : Program} {l : Launch} {e : Env} {s : State} {m : MethodId} {args : Array Value} {below : List Frame} {meth : Method} {c : Code} {D : va_G} {y : Nat → ClassId} {ad t : Nat → Nat} {X : va_W} {A : Nat → Prop} {Q : Int64 → cS → Prop} (C : cC p s m args meth c cX5_readNumber 3 (some .long) RX5 wsX5_readNumber D y t A) (x1 : Int64) (σ : cS) (hw : v_X5_readNumber_77 Q x1 σ) (H : Heap) (locs : List Loc) (ls : Array Slot) (hO : cO D y ad X A s.heap H locs σ) (hl : lv_has ls 3 [(0, .ref (ad 1)), (1, .long x1)]) : W p l e rc_X5_readNumber s m args below meth c H locs 0 0 (MQ below (va_Ql Q (cB D y ad X A) A) args s 0 0 A) (F0 m 77 ls []) := by
  obtain ⟨hx, hb, hr, hml, hown, hts, hlk, hK, hA, hTs, hNw⟩ := id C
  unfold v_X5_readNumber_77 at hw
  refine lv_lload_n hx hb dX5_readNumber_77 rfl (lv_at hl 1 rfl) ?_
  exact cx_lret C hO hw dX5_readNumber_78
set_option maxRecDepth 100000 in
set_option maxHeartbeats 4000000 in
theorem kc_X5_readNumber_2 {p : Program} {l : Launch} {e : Env} {s : State} {m : MethodId} {args : Array Value} {below : List Frame} {meth : Method} {c : Code} {D : va_G} {y : Nat → ClassId} {ad t : Nat → Nat} {X : va_W} {A : Nat → Prop} {Q : Int64 → cS → Prop} (C : cC p s m args meth c cX5_readNumber 3 (some .long) RX5 wsX5_readNumber D y t A) (n : Nat) : ∀ (x1 : Int64) (σ : cS), v_X5_readNumber_2 Q n x1 σ → ∀ (H : Heap) (locs : List Loc) (ls : Array Slot), cO D y ad X A s.heap H locs σ → lv_has ls 3 [(0, .ref (ad 1)), (1, .long x1)] → W p l e rc_X5_readNumber s m args below meth c H locs 0 0 (MQ below (va_Ql Q (cB D y ad X A) A) args s 0 0 A) (F0 m 2 ls []) := by
  obtain ⟨hx, hb, hr, hml, hown, hts, hlk, hK, hA, hTs, hNw⟩ := id C
  have hinX5 : ∀ w ∈ wsX50, w ∈ wsX5_readNumber := fun _ h => List.mem_cons_of_mem _ (List.mem_append_right _ h)
  induction n with
  | zero =>
    intro x1 σ hw
    exact (show False from hw).elim
  | succ n ih =>
    intro x1 σ hw H locs ls hO hl
    unfold v_X5_readNumber_2 at hw
    refine lv_aload_n hx hb dX5_readNumber_2 rfl (lv_at hl 0 rfl) ?_
    refine cx_get C hO (by decide) rfl rfl hinX5 2 (by decide) (idx := 33) (by decide +kernel) rfl rfl dX5_readNumber_3 ?_
    refine lv_aload_n hx hb dX5_readNumber_6 rfl (lv_at hl 0 rfl) ?_
    refine cx_get C hO (by decide) rfl rfl hinX5 1 (by decide) (idx := 23) (by decide +kernel) rfl rfl dX5_readNumber_7 ?_
    refine lv_icmp_ge (tgt := 77) hx hb dX5_readNumber_10 (by decide) (fun hc => ?_) (fun hc => ?_)
    · have hw := hw.1 hc
      exact kc_X5_readNumber_77 C x1 σ hw H locs ls hO (lv_sub hl [0, 1] rfl)
    · have hw := hw.2 hc
      refine lv_aload_n hx hb dX5_readNumber_13 rfl (lv_at hl 0 rfl) ?_
      refine cx_get C hO (by decide) rfl rfl hinX5 2 (by decide) (idx := 33) (by decide +kernel) rfl rfl dX5_readNumber_14 ?_
      refine lv_bipush (v := 90) hx hb dX5_readNumber_17 (by decide) ?_
      refine lv_icmp_ge (tgt := 77) hx hb dX5_readNumber_19 (by decide) (fun hc => ?_) (fun hc => ?_)
      · have hw := hw.1 hc
        exact kc_X5_readNumber_77 C x1 σ hw H locs ls hO (lv_sub hl [0, 1] rfl)
      · have hw := hw.2 hc
        refine lv_aload_n hx hb dX5_readNumber_22 rfl (lv_at hl 0 rfl) ?_
        refine cx_get C hO (by decide) rfl rfl hinX5 0 (by decide) (idx := 11) (by decide +kernel) rfl rfl dX5_readNumber_23 ?_
        refine lv_aload_n hx hb dX5_readNumber_26 rfl (lv_at hl 0 rfl) ?_
        refine cx_get C hO (by decide) rfl rfl hinX5 2 (by decide) (idx := 33) (by decide +kernel) rfl rfl dX5_readNumber_27 ?_
        refine cx_iald C hO hw.1 dX5_readNumber_30 ?_
        have hw := hw.2
        refine cx_cis C hO (cc_X5_isDigit l D y ad t X σ (σ.2.1 2 (σ.2.2.1 1 2).toNatClampNeg) _ hw) (va_cwS 1 hts gX5_readNumber_X5_isDigit rfl rfl rfl (by decide +kernel) ⟨Nat.le_of_ble_eq_true rfl, Nat.le_of_ble_eq_true rfl⟩) rfl hl.1 rfl (lv_room (Nat.le_of_ble_eq_true rfl)) dX5_readNumber_31 (fun u101 σ102 H locs hw hO => ?_)
        refine lv_if_eq (tgt := 77) hx hb dX5_readNumber_34 (by decide) (fun hc => ?_) (fun hc => ?_)
        · have hw := hw.1 hc
          exact kc_X5_readNumber_77 C x1 σ102 hw H locs ls hO (lv_sub hl [0, 1] rfl)
        · have hw := hw.2 hc
          refine lv_lload_n hx hb dX5_readNumber_37 rfl (lv_at hl 1 rfl) ?_
          refine lv_ldc2 (v := 10) hx hb hown (hts (.constantLong RX5 61 (10)) (by decide +kernel)) dX5_readNumber_38 ?_
          refine lv_lmul hx hb dX5_readNumber_41 ?_
          refine lv_aload_n hx hb dX5_readNumber_42 rfl (lv_at hl 0 rfl) ?_
          refine cx_get C hO (by decide) rfl rfl hinX5 0 (by decide) (idx := 11) (by decide +kernel) rfl rfl dX5_readNumber_43 ?_
          refine lv_aload_n hx hb dX5_readNumber_46 rfl (lv_at hl 0 rfl) ?_
          refine cx_get C hO (by decide) rfl rfl hinX5 2 (by decide) (idx := 33) (by decide +kernel) rfl rfl dX5_readNumber_47 ?_
          refine cx_iald C hO hw.1 dX5_readNumber_50 ?_
          have hw := hw.2
          refine lv_i2l hx hb dX5_readNumber_51 rfl ?_
          refine lv_ladd hx hb dX5_readNumber_52 ?_
          refine lv_ldc2 (v := 48) hx hb hown (hts (.constantLong RX5 63 (48)) (by decide +kernel)) dX5_readNumber_53 ?_
          refine lv_lsub hx hb dX5_readNumber_56 ?_
          refine lv_ldc2 (v := 100) hx hb hown (hts (.constantLong RX5 65 (100)) (by decide +kernel)) dX5_readNumber_57 ?_
          refine va_mmin_long hx hb (by rw [hml]; exact hl.1.symm) hown (hts (.methodLink RX5 67 Lib.MathLoose.min_long.x) (by decide +kernel)) (hts (.static Lib.MathLoose.min_long.x) (by decide +kernel)) (hts (.initialized "java/lang/Math") (by decide +kernel)) (hts (.code Lib.MathLoose.min_long.x Lib.MathLoose.min_long.code 4 (some .long)) (by decide +kernel)) (Nat.le_of_ble_eq_true rfl) (Nat.le_of_ble_eq_true rfl) (Nat.zero_le _) (Nat.zero_le _) dX5_readNumber_60 ?_
          refine lv_topl (fun a103 ea103 => ?_)
          have hw := hw a103 ea103
          refine lv_lstore_n (lv' := [(1, .long a103), (0, .ref (ad 1))]) hx hb dX5_readNumber_63 rfl hl (by decide) rfl (fun ls hl => ?_)
          refine lv_aload_n hx hb dX5_readNumber_64 rfl (lv_at hl 1 rfl) ?_
          refine lv_dup hx hb dX5_readNumber_65 rfl ?_
          refine cx_get C hO (by decide) rfl rfl hinX5 2 (by decide) (idx := 33) (by decide +kernel) rfl rfl dX5_readNumber_66 ?_
          refine lv_iconst (v := 1) hx hb dX5_readNumber_69 (by decide) ?_
          refine lv_iadd hx hb dX5_readNumber_70 ?_
          refine cx_put C hO (ty := .int) (by decide) rfl rfl hinX5 tyX5 tyX5_ok nmX5 2 (by decide) (idx := 33) (by decide +kernel) rfl rfl (by decide +kernel) rfl rfl (Nat.le_of_ble_eq_true rfl) (cW_FT (by decide)) dX5_readNumber_71 (fun H locs σ104 eσ104 hO => ?_)
          have hw := hw σ104 eσ104
          refine lv_goto (tgt := 2) hx hb dX5_readNumber_74 (by decide) ?_
          exact ih a103 σ104 hw H locs ls hO (lv_sub hl [1, 0] rfl)
set_option maxRecDepth 100000 in
set_option maxHeartbeats 4000000 in
theorem kc_X5_readNumber_e {p : Program} {l : Launch} {e : Env} {s : State} {m : MethodId} {args : Array Value} {below : List Frame} {meth : Method} {c : Code} {D : va_G} {y : Nat → ClassId} {ad t : Nat → Nat} {X : va_W} {A : Nat → Prop} {Q : Int64 → cS → Prop} (C : cC p s m args meth c cX5_readNumber 3 (some .long) RX5 wsX5_readNumber D y t A)  (σ : cS) (hw : v_X5_readNumber Q σ) (H : Heap) (locs : List Loc) (ls : Array Slot) (hO : cO D y ad X A s.heap H locs σ) (hl : lv_has ls 3 [(0, .ref (ad 1))]) : W p l e rc_X5_readNumber s m args below meth c H locs 0 0 (MQ below (va_Ql Q (cB D y ad X A) A) args s 0 0 A) (F0 m 0 ls []) := by
  obtain ⟨hx, hb, hr, hml, hown, hts, hlk, hK, hA, hTs, hNw⟩ := id C
  unfold v_X5_readNumber at hw
  refine lv_lconst (v := 0) hx hb dX5_readNumber_0 (by decide) ?_
  refine lv_lstore_n (lv' := [(1, .long ((0 : Int64))), (0, .ref (ad 1))]) hx hb dX5_readNumber_1 rfl hl (by decide) rfl (fun ls hl => ?_)
  exact kc_X5_readNumber_2 C fuL ((0 : Int64)) σ hw H locs ls hO (lv_sub hl [1, 0] rfl)
theorem cc_X5_readNumber (l : Launch) (D : va_G) (y : Nat → ClassId) (ad t : Nat → Nat) (X : va_W) (σ : cS)  (Q : Int64 → cS → Prop) (hw : v_X5_readNumber Q σ) : ∀ sz, Met l yX5_readNumber wsX5_readNumber rc_X5_readNumber (va_Pc [.ref (ad 1)] (cPre D y ad t X sz σ)) (va_Ql Q (cB D y ad X (va_A (cW y ad σ ++ X) sz)) (va_A (cW y ad σ ++ X) sz)) 0 0 (va_A (cW y ad σ ++ X) sz) :=
  cMet (Qc := fun A => va_Ql Q (cB D y ad X A) A) (by decide) (own := RX5) rfl (Nat.le_of_ble_eq_true rfl) (fun p e s m args below meth c A ls C hO hl => kc_X5_readNumber_e C σ hw s.heap [] ls hO hl)
