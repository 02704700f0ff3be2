/-! the law: its loop and its start, over any relation that the steps keep -/
theorem cnBlind7 {D : va_G} {y : Nat → ClassId} {ws : va_W} {sz : Nat} {av : List Value} : FrameBlind (va_Pc av (cnPre7 D y ws sz)) := fun a U g mk q => by
  obtain ⟨q0, q1, qP, qK, qD, qa, qb, n1, n2, n3, n4, n5⟩ := q
  exact ⟨q0, q1, qP, va_K.moved (u := U) (U := U.calling g mk a) (Vm.Alike.refl U.vm) qK, qD, va_AO.moved (u := U) (U := U.calling g mk a) (Vm.Alike.refl U.vm) qa, va_AO.moved (u := U) (U := U.calling g mk a) (Vm.Alike.refl U.vm) qb, va_Nw.same rfl rfl n1, va_Nw.same rfl rfl n2, va_Nw.same rfl rfl n3, va_Nw.same rfl rfl n4, va_Nw.same rfl rfl n5⟩
def lSteps (Inv : cS → mS → Prop) : Prop :=
  (∀ (z0 : Int64) (z1 : Int32) (σ : cS) (τ : mS), Inv σ τ → v_X7_type (fun r σ1 => w_type (fun r2 τ1 => r = r2 ∧ Inv σ1 τ1) z0 z1 τ) z0 z1 σ) ∧
  (∀ (z0 : Int32) (σ : cS) (τ : mS), Inv σ τ → v_X7_line (fun r σ1 => w_line (fun r2 τ1 => r = r2 ∧ Inv σ1 τ1) z0 τ) z0 σ) ∧
  (∀ (z0 : Int32) (σ : cS) (τ : mS), Inv σ τ → v_X7_drop (fun r σ1 => w_drop (fun r2 τ1 => r = r2 ∧ Inv σ1 τ1) z0 τ) z0 σ) ∧
  (∀ (z0 : Int32) (σ : cS) (τ : mS), Inv σ τ → v_X7_kind (fun r σ1 => w_kind (fun r2 τ1 => r = r2 ∧ Inv σ1 τ1) z0 τ) z0 σ) ∧
  (∀ (z0 : Int32) (σ : cS) (τ : mS), Inv σ τ → v_X7_degree (fun r σ1 => w_degree (fun r2 τ1 => r = r2 ∧ Inv σ1 τ1) z0 τ) z0 σ) ∧
  (∀ (z0 : Int32) (z1 : Int32) (z2 : Int32) (σ : cS) (τ : mS), Inv σ τ → v_X7_told (fun r σ1 => w_told (fun r2 τ1 => r = r2 ∧ Inv σ1 τ1) z0 z1 z2 τ) z0 z1 z2 σ) ∧
  (∀ (z0 : Int32) (z1 : Int32) (z2 : Int32) (z3 : Int32) (z4 : Int32) (σ : cS) (τ : mS), Inv σ τ → v_X7_at (fun r σ1 => w_at (fun r2 τ1 => r = r2 ∧ Inv σ1 τ1) z0 z1 z2 z3 z4 τ) z0 z1 z2 z3 z4 σ) ∧
  (∀ (z0 : Int32) (z1 : Int32) (σ : cS) (τ : mS), Inv σ τ → v_X7_far (fun r σ1 => w_far (fun r2 τ1 => r = r2 ∧ Inv σ1 τ1) z0 z1 τ) z0 z1 σ) ∧
  (∀ (z0 : Int32) (z1 : Int32) (σ : cS) (τ : mS), Inv σ τ → v_X7_equation (fun r σ1 => w_equation (fun r2 τ1 => r = r2 ∧ Inv σ1 τ1) z0 z1 τ) z0 z1 σ) ∧
  (∀ (z0 : Int32) (σ : cS) (τ : mS), Inv σ τ → v_X7_bends (fun r σ1 => w_bends (fun r2 τ1 => r = r2 ∧ Inv σ1 τ1) z0 τ) z0 σ) ∧
  (∀ (z0 : Int32) (σ : cS) (τ : mS), Inv σ τ → v_X7_times (fun r σ1 => w_times (fun r2 τ1 => r = r2 ∧ Inv σ1 τ1) z0 τ) z0 σ) ∧
  (∀ (z0 : Int32) (z1 : Int32) (z2 : Int32) (z3 : Int32) (σ : cS) (τ : mS), Inv σ τ → v_X7_lies (fun r σ1 => w_lies (fun r2 τ1 => r = r2 ∧ Inv σ1 τ1) z0 z1 z2 z3 τ) z0 z1 z2 z3 σ) ∧
  (∀ (z0 : Int32) (z1 : Int32) (σ : cS) (τ : mS), Inv σ τ → v_X7_law (fun r σ1 => w_law (fun r2 τ1 => r = r2 ∧ Inv σ1 τ1) z0 z1 τ) z0 z1 σ) ∧
  (∀ (z0 : Int32) (z1 : Int32) (σ : cS) (τ : mS), Inv σ τ → v_X7_knot (fun r σ1 => w_knot (fun r2 τ1 => r = r2 ∧ Inv σ1 τ1) z0 z1 τ) z0 z1 σ) ∧
  (∀ (z0 : Int32) (σ : cS) (τ : mS), Inv σ τ → v_X7_crosses (fun r σ1 => w_crosses (fun r2 τ1 => r = r2 ∧ Inv σ1 τ1) z0 τ) z0 σ) ∧
  (∀ (z0 : Int32) (z1 : Int32) (z2 : Int32) (z3 : Int32) (σ : cS) (τ : mS), Inv σ τ → v_X7_meets (fun r σ1 => w_meets (fun r2 τ1 => r = r2 ∧ Inv σ1 τ1) z0 z1 z2 z3 τ) z0 z1 z2 z3 σ) ∧
  (∀ (z0 : Int32) (z1 : Int32) (z2 : Int32) (z3 : Int32) (σ : cS) (τ : mS), Inv σ τ → v_X7_touch (fun r σ1 => w_touch (fun r2 τ1 => r = r2 ∧ Inv σ1 τ1) z0 z1 z2 z3 τ) z0 z1 z2 z3 σ) ∧
  (∀ (z0 : Int32) (z1 : Int32) (σ : cS) (τ : mS), Inv σ τ → v_X7_same (fun r σ1 => w_same (fun r2 τ1 => r = r2 ∧ Inv σ1 τ1) z0 z1 τ) z0 z1 σ) ∧
  (∀ (z0 : Int32) (z1 : Int32) (z2 : Int32) (z3 : Int32) (z4 : Int32) (σ : cS) (τ : mS), Inv σ τ → v_X7_anew (fun r σ1 => w_anew (fun r2 τ1 => r = r2 ∧ Inv σ1 τ1) z0 z1 z2 z3 z4 τ) z0 z1 z2 z3 z4 σ) ∧
  (∀ (z0 : Int32) (z1 : Int32) (z2 : Int32) (z3 : Int32) (z4 : Int32) (z5 : Int32) (z6 : Int32) (σ : cS) (τ : mS), Inv σ τ → v_X7_move (fun r σ1 => w_move (fun r2 τ1 => r = r2 ∧ Inv σ1 τ1) z0 z1 z2 z3 z4 z5 z6 τ) z0 z1 z2 z3 z4 z5 z6 σ) ∧
  (∀ (z0 : Int32) (z1 : Int32) (σ : cS) (τ : mS), Inv σ τ → v_X7_copy (fun r σ1 => w_copy (fun r2 τ1 => r = r2 ∧ Inv σ1 τ1) z0 z1 τ) z0 z1 σ) ∧
  (∀ (z0 : Int32) (z1 : Int32) (z2 : Int32) (σ : cS) (τ : mS), Inv σ τ → v_X7_sheet (fun r σ1 => w_sheet (fun r2 τ1 => r = r2 ∧ Inv σ1 τ1) z0 z1 z2 τ) z0 z1 z2 σ) ∧
  (∀ (z0 : Int32) (σ : cS) (τ : mS), Inv σ τ → v_X7_away (fun r σ1 => w_away (fun r2 τ1 => r = r2 ∧ Inv σ1 τ1) z0 τ) z0 σ) ∧
  (∀ (z0 : Int32) (z1 : Int32) (z2 : Int32) (z3 : Int32) (σ : cS) (τ : mS), Inv σ τ → v_X7_item (fun r σ1 => w_item (fun r2 τ1 => r = r2 ∧ Inv σ1 τ1) z0 z1 z2 z3 τ) z0 z1 z2 z3 σ) ∧
  (∀ (z0 : Int32) (z1 : Int32) (z2 : Int32) (z3 : Int32) (σ : cS) (τ : mS), Inv σ τ → v_X7_terms (fun r σ1 => w_terms (fun r2 τ1 => r = r2 ∧ Inv σ1 τ1) z0 z1 z2 z3 τ) z0 z1 z2 z3 σ)
def cF0 : Nat → Nat → Int32
  | 39, 1 => -1 | 41, 1 => -1 | 43, 1 => -1 | 45, 1 => -1 | _, _ => 0
def cP0 : Nat → Nat
  | 0 => 6 | _ => 7
/-- the class at the start -/
def cS0 : cS := (fun _ _ => 0, fun _ _ => 0, cF0, cP0)
def mI0 : Nat → Nat → Int32
  | 15 => upd (upd (upd (upd (fun _ => 0) 0 (-1)) 1 (-1)) 2 (-1)) 3 (-1)
  | _ => fun _ => 0
/-- the reference at the start -/
def mS0 : mS := (fun _ _ => 0, mI0, 0, 0)
def a7 (h0 : Nat) (u : Nat × Nat × Nat × Nat × Nat × Nat × Nat × Nat × Nat × Nat × Nat × Nat × Nat × Nat × Nat × Nat × Nat × Nat × Nat × Nat × Nat × Nat × Nat × Nat × Nat × Nat × Nat × Nat × Nat × Nat × Nat × Nat × Nat × Nat × Nat × Nat × Nat × Nat × Nat × Nat × Nat × Nat × Nat × Nat × Nat × Nat) : Nat → Nat := match u with | (q1, q2, q3, q4, q5, q6, q7, q8, q9, q10, q11, q12, q13, q14, q15, q16, q17, q18, q19, q20, q21, q22, q23, q24, q25, q26, q27, q28, q29, q30, q31, q32, q33, q34, q35, q36, q37, q38, q39, q40, q41, q42, q43, q44, q45, q46) => fun i => ([h0, q1, q2, q3, q4, q5, q6, q7, q8, q9, q10, q11, q12, q13, q14, q15, q16, q17, q18, q19, q20, q21, q22, q23, q24, q25, q26, q27, q28, q29, q30, q31, q32, q33, q34, q35, q36, q37, q38, q39, q40, q41, q42, q43, q44, q45, q46] : List Nat).getD i 0
def a8 (h0 : Nat) (u : Nat × Nat × Nat × Nat × Nat × Nat × Nat × Nat × Nat × Nat × Nat × Nat × Nat × Nat × Nat × Nat × Nat) : Nat → Nat := match u with | (q1, q2, q3, q4, q5, q6, q7, q8, q9, q10, q11, q12, q13, q14, q15, q16, q17) => fun i => ([h0, q1, q2, q3, q4, q5, q6, q7, q8, q9, q10, q11, q12, q13, q14, q15, q16, q17] : List Nat).getD i 0
set_option maxRecDepth 100000 in
theorem cW_start (y : Nat → ClassId) (h0 : Nat) (u : Nat × Nat × Nat × Nat × Nat × Nat × Nat × Nat × Nat × Nat × Nat × Nat × Nat × Nat × Nat × Nat × Nat × Nat × Nat × Nat × Nat × Nat × Nat × Nat × Nat × Nat × Nat × Nat × Nat × Nat × Nat × Nat × Nat × Nat × Nat × Nat × Nat × Nat × Nat × Nat × Nat × Nat × Nat × Nat × Nat × Nat) : cw_X7 y h0 u = cW y (a7 h0 u) cS0 := by
  obtain ⟨q1, q2, q3, q4, q5, q6, q7, q8, q9, q10, q11, q12, q13, q14, q15, q16, q17, q18, q19, q20, q21, q22, q23, q24, q25, q26, q27, q28, q29, q30, q31, q32, q33, q34, q35, q36, q37, q38, q39, q40, q41, q42, q43, q44, q45, q46⟩ := u
  rfl
set_option maxRecDepth 100000 in
theorem mW_start (y : Nat → ClassId) (h0 : Nat) (u : Nat × Nat × Nat × Nat × Nat × Nat × Nat × Nat × Nat × Nat × Nat × Nat × Nat × Nat × Nat × Nat × Nat) : cw_X8 y h0 u = mW y (a8 h0 u) mS0 := by
  obtain ⟨q1, q2, q3, q4, q5, q6, q7, q8, q9, q10, q11, q12, q13, q14, q15, q16, q17⟩ := u
  rfl
theorem lExit {i L : Nat} (hi : i ≤ L + 8) (hL : L ≤ 4096) (hc : ¬ (Int32.ofNat L - 8 < nI i)) : i + 8 ≤ L := by
  have e1 : (nI L - nI 8).toInt = (L : Int) - 8 := pk_sub_toInt (by omega) (by omega)
  have e2 : (nI i).toInt = (i : Int) := nI_toInt (by omega)
  have h2 : ¬ ((nI L - nI 8).toInt < (nI i).toInt) := fun z => hc (Int32.lt_iff_toInt_lt.mpr z)
  rw [e1, e2] at h2
  omega
set_option maxRecDepth 100000 in
set_option maxHeartbeats 8000000 in
theorem law_loop {p : Program} {l : Launch} {e : Env} {s : State} {m : MethodId} {below : List Frame} {meth : Method} {c : Code} {b L : Nat} {xs : Nat → Int32} {D : va_G} {y : Nat → ClassId} {aC aM t : Nat → Nat} {Inv : cS → mS → Prop} (hs : lSteps Inv) (C : lC p s m meth c b L xs D y t) (hlocks : meth.locks = false) (hL : L ≤ 4096) (n : Nat) : ∀ (i : Nat) (σ : cS) (τ : mS) (H : Heap) (locs : List Loc) (ls : Array Slot), i ≤ L + 8 → L + 8 - i < n → Inv σ τ → lO D y aC aM s H locs σ τ → lv_has ls 4 [(0, .ref b), (1, .ref (aC 0)), (2, .ref (aM 0)), (3, .int (nI i))] → W p l e room_1 s m #[Value.ref b] below meth c H locs 65 820 (lw_Z below #[Value.ref b] s) (F0 m 18 ls []) := by
  obtain ⟨hx, hb, hr, hml, hown, hts, hX, hbl, hK, hTs, hNw⟩ := id C
  have hbA : ¬ lA s b := Nat.not_le.mpr hbl
  have hcs : (65 : Nat) ≤ 600000 ∧ (820 : Nat) ≤ 7302250 := by decide
  induction n with
  | zero => intro i σ τ H locs ls hi hn; omega
  | succ n ih =>
    intro i σ τ H locs ls hi hn hI hO hl
    refine lv_iload_n hx hb dL_law_18 rfl (lv_at hl 3 rfl) ?_
    refine lv_aload_n hx hb dL_law_19 rfl (lv_at hl 0 rfl) ?_
    refine va_slen hx hb hX hbl hbA hO.2.2 dL_law_20 ?_
    refine lv_bipush (v := 8) hx hb dL_law_21 (by decide) ?_
    refine lv_isub hx hb dL_law_23 ?_
    refine lv_icmp_gt (tgt := 1168) hx hb dL_law_24 (by decide) (fun _ => ?_) (fun hc => ?_)
    · refine lv_iconst (v := 1) hx hb dL_law_1168 (by decide) ?_
      refine va_forget (fun q hq => hO.2.2.2.2 q hq) ?_
      refine W.widen (k := 600000) (n := 7302250) (by decide) (by decide) ?_
      exact lw_ret hx hb hr hlocks dL_law_1169
    have hi8 : i + 8 ≤ L := lExit hi hL hc
    have kont : ∀ (σ1 : cS) (τ1 : mS) (H : Heap) (locs : List Loc), Inv σ1 τ1 → lO D y aC aM s H locs σ1 τ1 → W p l e room_1 s m #[Value.ref b] below meth c H locs 65 820 (lw_Z below #[Value.ref b] s) (F0 m 1162 ls []) := by
      intro σ1 τ1 H locs hI hO
      refine lv_iinc (v := nI (i + 8)) (lv' := [(3, .int (nI (i + 8))), (0, .ref b), (1, .ref (aC 0)), (2, .ref (aM 0))]) hx hb dL_law_1162 hl (k := 3) rfl (nI_add i 8) (by decide) rfl (fun ls hl => ?_)
      refine lv_goto (tgt := 18) hx hb dL_law_1165 (by decide) ?_
      exact ih (i + 8) σ1 τ1 H locs ls (by omega) (by omega) hI hO (lv_sub hl [1, 2, 3, 0] rfl)
    refine lv_aload_n hx hb dL_law_27 rfl (lv_at hl 0 rfl) ?_
    refine lv_iload_n hx hb dL_law_28 rfl (lv_at hl 3 rfl) ?_
    refine va_sld hx hb hX hbl hbA hO.2.2 (vp_in_nI (by omega) (by omega)) dL_law_29 ?_
    refine lv_bipush (v := 31) hx hb dL_law_30 (by decide) ?_
    refine lv_iand hx hb dL_law_32 ?_
    refine lv_topi (fun z ez => ?_)
    obtain ⟨j, hj, ej⟩ := pk_andE (xs (nI i).toNatClampNeg) (m := 31) 5 (by decide)
    rw [ej] at ez
    subst ez
    match j, hj with
    | 0, _ => exact lv_tableIn (tgt := 148) (off := 115) hx hb dL_law_33 (by decide) (by decide) (by decide) (by decide) (lc_type (hs.1) C hcs hL hi8 hI hO hl kont)
    | 1, _ => exact lv_tableIn (tgt := 211) (off := 178) hx hb dL_law_33 (by decide) (by decide) (by decide) (by decide) (lc_line (hs.2.1) C hcs hL hi8 hI hO hl kont)
    | 2, _ => exact lv_tableIn (tgt := 234) (off := 201) hx hb dL_law_33 (by decide) (by decide) (by decide) (by decide) (lc_drop (hs.2.2.1) C hcs hL hi8 hI hO hl kont)
    | 3, _ => exact lv_tableIn (tgt := 257) (off := 224) hx hb dL_law_33 (by decide) (by decide) (by decide) (by decide) (lc_kind (hs.2.2.2.1) C hcs hL hi8 hI hO hl kont)
    | 4, _ => exact lv_tableIn (tgt := 280) (off := 247) hx hb dL_law_33 (by decide) (by decide) (by decide) (by decide) (lc_degree (hs.2.2.2.2.1) C hcs hL hi8 hI hO hl kont)
    | 5, _ => exact lv_tableIn (tgt := 303) (off := 270) hx hb dL_law_33 (by decide) (by decide) (by decide) (by decide) (lc_told (hs.2.2.2.2.2.1) C hcs hL hi8 hI hO hl kont)
    | 6, _ => exact lv_tableIn (tgt := 346) (off := 313) hx hb dL_law_33 (by decide) (by decide) (by decide) (by decide) (lc_at (hs.2.2.2.2.2.2.1) C hcs hL hi8 hI hO hl kont)
    | 7, _ => exact lv_tableIn (tgt := 410) (off := 377) hx hb dL_law_33 (by decide) (by decide) (by decide) (by decide) (lc_far (hs.2.2.2.2.2.2.2.1) C hcs hL hi8 hI hO hl kont)
    | 8, _ => exact lv_tableIn (tgt := 443) (off := 410) hx hb dL_law_33 (by decide) (by decide) (by decide) (by decide) (lc_equation (hs.2.2.2.2.2.2.2.2.1) C hcs hL hi8 hI hO hl kont)
    | 9, _ => exact lv_tableIn (tgt := 477) (off := 444) hx hb dL_law_33 (by decide) (by decide) (by decide) (by decide) (lc_bends (hs.2.2.2.2.2.2.2.2.2.1) C hcs hL hi8 hI hO hl kont)
    | 10, _ => exact lv_tableIn (tgt := 500) (off := 467) hx hb dL_law_33 (by decide) (by decide) (by decide) (by decide) (lc_times (hs.2.2.2.2.2.2.2.2.2.2.1) C hcs hL hi8 hI hO hl kont)
    | 11, _ => exact lv_tableIn (tgt := 523) (off := 490) hx hb dL_law_33 (by decide) (by decide) (by decide) (by decide) (lc_lies (hs.2.2.2.2.2.2.2.2.2.2.2.1) C hcs hL hi8 hI hO hl kont)
    | 12, _ => exact lv_tableIn (tgt := 576) (off := 543) hx hb dL_law_33 (by decide) (by decide) (by decide) (by decide) (lc_law (hs.2.2.2.2.2.2.2.2.2.2.2.2.1) C hcs hL hi8 hI hO hl kont)
    | 13, _ => exact lv_tableIn (tgt := 610) (off := 577) hx hb dL_law_33 (by decide) (by decide) (by decide) (by decide) (lc_knot (hs.2.2.2.2.2.2.2.2.2.2.2.2.2.1) C hcs hL hi8 hI hO hl kont)
    | 14, _ => exact lv_tableIn (tgt := 644) (off := 611) hx hb dL_law_33 (by decide) (by decide) (by decide) (by decide) (lc_crosses (hs.2.2.2.2.2.2.2.2.2.2.2.2.2.2.1) C hcs hL hi8 hI hO hl kont)
    | 15, _ => exact lv_tableIn (tgt := 667) (off := 634) hx hb dL_law_33 (by decide) (by decide) (by decide) (by decide) (lc_meets (hs.2.2.2.2.2.2.2.2.2.2.2.2.2.2.2.1) C hcs hL hi8 hI hO hl kont)
    | 16, _ => exact lv_tableIn (tgt := 720) (off := 687) hx hb dL_law_33 (by decide) (by decide) (by decide) (by decide) (lc_touch (hs.2.2.2.2.2.2.2.2.2.2.2.2.2.2.2.2.1) C hcs hL hi8 hI hO hl kont)
    | 17, _ => exact lv_tableIn (tgt := 774) (off := 741) hx hb dL_law_33 (by decide) (by decide) (by decide) (by decide) (lc_same (hs.2.2.2.2.2.2.2.2.2.2.2.2.2.2.2.2.2.1) C hcs hL hi8 hI hO hl kont)
    | 18, _ => exact lv_tableIn (tgt := 807) (off := 774) hx hb dL_law_33 (by decide) (by decide) (by decide) (by decide) (lc_anew (hs.2.2.2.2.2.2.2.2.2.2.2.2.2.2.2.2.2.2.1) C hcs hL hi8 hI hO hl kont)
    | 19, _ => exact lv_tableIn (tgt := 870) (off := 837) hx hb dL_law_33 (by decide) (by decide) (by decide) (by decide) (lc_move (hs.2.2.2.2.2.2.2.2.2.2.2.2.2.2.2.2.2.2.2.1) C hcs hL hi8 hI hO hl kont)
    | 20, _ => exact lv_tableIn (tgt := 957) (off := 924) hx hb dL_law_33 (by decide) (by decide) (by decide) (by decide) (lc_copy (hs.2.2.2.2.2.2.2.2.2.2.2.2.2.2.2.2.2.2.2.2.1) C hcs hL hi8 hI hO hl kont)
    | 21, _ => exact lv_tableIn (tgt := 990) (off := 957) hx hb dL_law_33 (by decide) (by decide) (by decide) (by decide) (lc_sheet (hs.2.2.2.2.2.2.2.2.2.2.2.2.2.2.2.2.2.2.2.2.2.1) C hcs hL hi8 hI hO hl kont)
    | 22, _ => exact lv_tableIn (tgt := 1033) (off := 1000) hx hb dL_law_33 (by decide) (by decide) (by decide) (by decide) (lc_away (hs.2.2.2.2.2.2.2.2.2.2.2.2.2.2.2.2.2.2.2.2.2.2.1) C hcs hL hi8 hI hO hl kont)
    | 23, _ => exact lv_tableIn (tgt := 1056) (off := 1023) hx hb dL_law_33 (by decide) (by decide) (by decide) (by decide) (lc_item (hs.2.2.2.2.2.2.2.2.2.2.2.2.2.2.2.2.2.2.2.2.2.2.2.1) C hcs hL hi8 hI hO hl kont)
    | 24, _ => exact lv_tableIn (tgt := 1109) (off := 1076) hx hb dL_law_33 (by decide) (by decide) (by decide) (by decide) (lc_terms (hs.2.2.2.2.2.2.2.2.2.2.2.2.2.2.2.2.2.2.2.2.2.2.2.2) C hcs hL hi8 hI hO hl kont)
    | 25, _ => exact lv_tableOut (tgt := 1162) hx hb dL_law_33 (by decide) (by decide) (kont σ τ H locs hI hO)
    | 26, _ => exact lv_tableOut (tgt := 1162) hx hb dL_law_33 (by decide) (by decide) (kont σ τ H locs hI hO)
    | 27, _ => exact lv_tableOut (tgt := 1162) hx hb dL_law_33 (by decide) (by decide) (kont σ τ H locs hI hO)
    | 28, _ => exact lv_tableOut (tgt := 1162) hx hb dL_law_33 (by decide) (by decide) (kont σ τ H locs hI hO)
    | 29, _ => exact lv_tableOut (tgt := 1162) hx hb dL_law_33 (by decide) (by decide) (kont σ τ H locs hI hO)
    | 30, _ => exact lv_tableOut (tgt := 1162) hx hb dL_law_33 (by decide) (by decide) (kont σ τ H locs hI hO)
    | 31, _ => exact lv_tableOut (tgt := 1162) hx hb dL_law_33 (by decide) (by decide) (kont σ τ H locs hI hO)
    | k + 32, hj => exact absurd hj (by omega)
theorem lKs {s : State} {b : Nat} (hts : ∀ w ∈ lw_tbl, w.before #[Value.ref b] s = true) : ∃ y : Nat → ClassId, ∀ (k : Nat) (q : ClassId × FieldType), (mT y)[k]? = some q → ArrOfT s q.1 q.2 ∧ va_RA s q.1 q.2 := by
  obtain ⟨cI, kI, oI, i1, i2, i3⟩ := Cond.arrayClass_spec (hts (.arrayClass .int) (by decide +kernel))
  obtain ⟨cJ, kJ, oJ, j1, j2, j3⟩ := Cond.arrayClass_spec (hts (.arrayClass .long) (by decide +kernel))
  obtain ⟨cZ, kZ, oZ, z1, z2, z3⟩ := Cond.arrayClass_spec (hts (.arrayClass .boolean) (by decide +kernel))
  obtain ⟨oL, cL', kL, l1, l2, l3, l4, l5⟩ := Cond.arrayOver_spec (hts (.arrayOver (.object "BentShares$Line")) (by decide +kernel))
  obtain ⟨oR, cR', kR, r1, r2, r3, r4, r5⟩ := Cond.arrayOver_spec (hts (.arrayOver (.object "BentShares$Row")) (by decide +kernel))
  refine ⟨fun k => match k with | 0 => cI | 1 => cJ | 2 => cZ | 3 => cL' | _ => cR', ?_⟩
  intro k q hq
  match k, hq with
  | 0, hq => cases hq; exact ⟨fun n z => ⟨fun k h => (by cases h), kI, i2, oI, i3⟩, i1⟩
  | 1, hq => cases hq; exact ⟨fun n z => ⟨fun k h => (by cases h), kJ, j2, oJ, j3⟩, j1⟩
  | 2, hq => cases hq; exact ⟨fun n z => ⟨fun k h => (by cases h), kZ, z2, oZ, z3⟩, z1⟩
  | 3, hq => cases hq; exact ⟨fun n z => ⟨fun k h => (by cases h), kL, l3, oL, l4⟩, kL, oL, l3, l4, l1, l5⟩
  | 4, hq => cases hq; exact ⟨fun n z => ⟨fun k h => (by cases h), kR, r3, oR, r4⟩, kR, oR, r3, r4, r1, r5⟩
  | k + 5, hq => simp [mT] at hq
theorem lT_START {s : State} {b : Nat} (hts : ∀ w ∈ lw_tbl, w.before #[Value.ref b] s = true) (hgv : (Jvm.Cond.and given_1 narrow_1).before #[Value.ref b] s = true) : ∃ t : Nat, cTb "BentShares$Line" "START" t 4 tSTART (lA s) s s.heap := by
  have hs := flat_of_before _ hgv
  have hA : ∀ a : Nat, a < s.heap.size → ¬ lA s a := fun a h => Nat.not_le.mpr h
  obtain ⟨t, ht, hT⟩ := va_Tof (tm := .static "BentShares$Line" "START" "[I") (ty := .int) (N := 4) (f := fun j => .int (tSTART j)) (A := lA s) (by decide) (hs (.arrayOf (.static "BentShares$Line" "START" "[I") .int) (by decide +kernel)) (va_eqt (hs (.eq (.length (.static "BentShares$Line" "START" "[I")) (.int 4)) (by decide +kernel))) (fun j hj => by
    match j, hj with
    | 0, _ => exact va_eqt (hs (.eq (.elem (.static "BentShares$Line" "START" "[I") (.int 0)) (.int 9)) (by decide +kernel))
    | 1, _ => exact va_eqt (hs (.eq (.elem (.static "BentShares$Line" "START" "[I") (.int 1)) (.int 7)) (by decide +kernel))
    | 2, _ => exact va_eqt (hs (.eq (.elem (.static "BentShares$Line" "START" "[I") (.int 2)) (.int 4)) (by decide +kernel))
    | 3, _ => exact va_eqt (hs (.eq (.elem (.static "BentShares$Line" "START" "[I") (.int 3)) (.int 0)) (by decide +kernel))) hA
  exact ⟨t, va_Zref (hts (.laysStatic "BentShares$Line" "START" "[I") (by decide +kernel)) (hts (.initialized "BentShares$Line") (by decide +kernel)) ht hA, hT⟩
theorem lT_LEFT {s : State} {b : Nat} (hts : ∀ w ∈ lw_tbl, w.before #[Value.ref b] s = true) (hgv : (Jvm.Cond.and given_1 narrow_1).before #[Value.ref b] s = true) : ∃ t : Nat, cTb "BentShares$Study" "LEFT" t 6 tLEFT (lA s) s s.heap := by
  have hs := flat_of_before _ hgv
  have hA : ∀ a : Nat, a < s.heap.size → ¬ lA s a := fun a h => Nat.not_le.mpr h
  obtain ⟨t, ht, hT⟩ := va_Tof (tm := .static "BentShares$Study" "LEFT" "[I") (ty := .int) (N := 6) (f := fun j => .int (tLEFT j)) (A := lA s) (by decide) (hs (.arrayOf (.static "BentShares$Study" "LEFT" "[I") .int) (by decide +kernel)) (va_eqt (hs (.eq (.length (.static "BentShares$Study" "LEFT" "[I")) (.int 6)) (by decide +kernel))) (fun j hj => by
    match j, hj with
    | 0, _ => exact va_eqt (hs (.eq (.elem (.static "BentShares$Study" "LEFT" "[I") (.int 0)) (.int 1)) (by decide +kernel))
    | 1, _ => exact va_eqt (hs (.eq (.elem (.static "BentShares$Study" "LEFT" "[I") (.int 1)) (.int 2)) (by decide +kernel))
    | 2, _ => exact va_eqt (hs (.eq (.elem (.static "BentShares$Study" "LEFT" "[I") (.int 2)) (.int 3)) (by decide +kernel))
    | 3, _ => exact va_eqt (hs (.eq (.elem (.static "BentShares$Study" "LEFT" "[I") (.int 3)) (.int 2)) (by decide +kernel))
    | 4, _ => exact va_eqt (hs (.eq (.elem (.static "BentShares$Study" "LEFT" "[I") (.int 4)) (.int 3)) (by decide +kernel))
    | 5, _ => exact va_eqt (hs (.eq (.elem (.static "BentShares$Study" "LEFT" "[I") (.int 5)) (.int 3)) (by decide +kernel))) hA
  exact ⟨t, va_Zref (hts (.laysStatic "BentShares$Study" "LEFT" "[I") (by decide +kernel)) (hts (.initialized "BentShares$Study") (by decide +kernel)) ht hA, hT⟩
theorem lT_RIGHT {s : State} {b : Nat} (hts : ∀ w ∈ lw_tbl, w.before #[Value.ref b] s = true) (hgv : (Jvm.Cond.and given_1 narrow_1).before #[Value.ref b] s = true) : ∃ t : Nat, cTb "BentShares$Study" "RIGHT" t 6 tRIGHT (lA s) s s.heap := by
  have hs := flat_of_before _ hgv
  have hA : ∀ a : Nat, a < s.heap.size → ¬ lA s a := fun a h => Nat.not_le.mpr h
  obtain ⟨t, ht, hT⟩ := va_Tof (tm := .static "BentShares$Study" "RIGHT" "[I") (ty := .int) (N := 6) (f := fun j => .int (tRIGHT j)) (A := lA s) (by decide) (hs (.arrayOf (.static "BentShares$Study" "RIGHT" "[I") .int) (by decide +kernel)) (va_eqt (hs (.eq (.length (.static "BentShares$Study" "RIGHT" "[I")) (.int 6)) (by decide +kernel))) (fun j hj => by
    match j, hj with
    | 0, _ => exact va_eqt (hs (.eq (.elem (.static "BentShares$Study" "RIGHT" "[I") (.int 0)) (.int 0)) (by decide +kernel))
    | 1, _ => exact va_eqt (hs (.eq (.elem (.static "BentShares$Study" "RIGHT" "[I") (.int 1)) (.int 0)) (by decide +kernel))
    | 2, _ => exact va_eqt (hs (.eq (.elem (.static "BentShares$Study" "RIGHT" "[I") (.int 2)) (.int 0)) (by decide +kernel))
    | 3, _ => exact va_eqt (hs (.eq (.elem (.static "BentShares$Study" "RIGHT" "[I") (.int 3)) (.int 1)) (by decide +kernel))
    | 4, _ => exact va_eqt (hs (.eq (.elem (.static "BentShares$Study" "RIGHT" "[I") (.int 4)) (.int 1)) (by decide +kernel))
    | 5, _ => exact va_eqt (hs (.eq (.elem (.static "BentShares$Study" "RIGHT" "[I") (.int 5)) (.int 2)) (by decide +kernel))) hA
  exact ⟨t, va_Zref (hts (.laysStatic "BentShares$Study" "RIGHT" "[I") (by decide +kernel)) (hts (.initialized "BentShares$Study") (by decide +kernel)) ht hA, hT⟩
theorem lT_OTHERS {s : State} {b : Nat} (hts : ∀ w ∈ lw_tbl, w.before #[Value.ref b] s = true) (hgv : (Jvm.Cond.and given_1 narrow_1).before #[Value.ref b] s = true) : ∃ t : Nat, cTb "BentShares$Study" "OTHERS" t 12 tOTHERS (lA s) s s.heap := by
  have hs := flat_of_before _ hgv
  have hA : ∀ a : Nat, a < s.heap.size → ¬ lA s a := fun a h => Nat.not_le.mpr h
  obtain ⟨t, ht, hT⟩ := va_Tof (tm := .static "BentShares$Study" "OTHERS" "[I") (ty := .int) (N := 12) (f := fun j => .int (tOTHERS j)) (A := lA s) (by decide) (hs (.arrayOf (.static "BentShares$Study" "OTHERS" "[I") .int) (by decide +kernel)) (va_eqt (hs (.eq (.length (.static "BentShares$Study" "OTHERS" "[I")) (.int 12)) (by decide +kernel))) (fun j hj => by
    match j, hj with
    | 0, _ => exact va_eqt (hs (.eq (.elem (.static "BentShares$Study" "OTHERS" "[I") (.int 0)) (.int 1)) (by decide +kernel))
    | 1, _ => exact va_eqt (hs (.eq (.elem (.static "BentShares$Study" "OTHERS" "[I") (.int 1)) (.int 2)) (by decide +kernel))
    | 2, _ => exact va_eqt (hs (.eq (.elem (.static "BentShares$Study" "OTHERS" "[I") (.int 2)) (.int 3)) (by decide +kernel))
    | 3, _ => exact va_eqt (hs (.eq (.elem (.static "BentShares$Study" "OTHERS" "[I") (.int 3)) (.int 0)) (by decide +kernel))
    | 4, _ => exact va_eqt (hs (.eq (.elem (.static "BentShares$Study" "OTHERS" "[I") (.int 4)) (.int 2)) (by decide +kernel))
    | 5, _ => exact va_eqt (hs (.eq (.elem (.static "BentShares$Study" "OTHERS" "[I") (.int 5)) (.int 3)) (by decide +kernel))
    | 6, _ => exact va_eqt (hs (.eq (.elem (.static "BentShares$Study" "OTHERS" "[I") (.int 6)) (.int 0)) (by decide +kernel))
    | 7, _ => exact va_eqt (hs (.eq (.elem (.static "BentShares$Study" "OTHERS" "[I") (.int 7)) (.int 1)) (by decide +kernel))
    | 8, _ => exact va_eqt (hs (.eq (.elem (.static "BentShares$Study" "OTHERS" "[I") (.int 8)) (.int 3)) (by decide +kernel))
    | 9, _ => exact va_eqt (hs (.eq (.elem (.static "BentShares$Study" "OTHERS" "[I") (.int 9)) (.int 0)) (by decide +kernel))
    | 10, _ => exact va_eqt (hs (.eq (.elem (.static "BentShares$Study" "OTHERS" "[I") (.int 10)) (.int 1)) (by decide +kernel))
    | 11, _ => exact va_eqt (hs (.eq (.elem (.static "BentShares$Study" "OTHERS" "[I") (.int 11)) (.int 2)) (by decide +kernel))) hA
  exact ⟨t, va_Zref (hts (.laysStatic "BentShares$Study" "OTHERS" "[I") (by decide +kernel)) (hts (.initialized "BentShares$Study") (by decide +kernel)) ht hA, hT⟩
set_option maxRecDepth 100000 in
set_option maxHeartbeats 8000000 in
theorem whole_open {p : Program} {e : Env} {s : State} {m : MethodId} {below : List Frame} {meth : Method} {c : Code} (l : Launch) {b L : Nat} {xs : Nat → Int32} {Inv : cS → mS → Prop} (hs : lSteps Inv) (h0 : Inv cS0 mS0) (hL : L ≤ 4096) (C0 : lw_At p s m meth c b L xs) : W p l e room_1 s m #[Value.ref b] below meth c s.heap [] 0 0 (lw_Z below #[Value.ref b] s) (entryFrame m ([Value.ref b] : List Value).toArray 4) := by
  obtain ⟨hx, hb, hr, hml, hown0, hts0, hX, hbl, hlocks, hgv⟩ := id C0
  have hown : s.vm.findClass RL = some m.cls := hown0
  have hts : ∀ w ∈ wsL_law, w.before #[Value.ref b] s = true := fun w h => hts0 w (wsL_law_in w h)
  have hA : ∀ q : Nat, s.heap.size ≤ q → lA s q := fun _ h => h
  have hbA : ¬ lA s b := Nat.not_le.mpr hbl
  obtain ⟨c0, iS0, hKn0⟩ := u_known (C := RX0) (T := TX0) (N := 8) (n := 8) hts0 in_wsX00 (hts0 (.instantiable RX0 8) (by decide +kernel))
  obtain ⟨c1, iS1, hKn1⟩ := u_known (C := RX1) (T := TX1) (N := 3) (n := 3) hts0 in_wsX10 (hts0 (.instantiable RX1 3) (by decide +kernel))
  obtain ⟨c2, iS2, hKn2⟩ := u_known (C := RX3) (T := TX3) (N := 3) (n := 3) hts0 in_wsX30 (hts0 (.instantiable RX3 3) (by decide +kernel))
  obtain ⟨c3, iS3, hKn3⟩ := u_known (C := RX4) (T := TX4) (N := 6) (n := 6) hts0 in_wsX40 (hts0 (.instantiable RX4 6) (by decide +kernel))
  obtain ⟨c4, iS4, hKn4⟩ := u_known (C := RX5) (T := TX5) (N := 3) (n := 3) hts0 in_wsX50 (hts0 (.instantiable RX5 3) (by decide +kernel))
  obtain ⟨c5, iS5, hKn5⟩ := u_known (C := RX7) (T := TX7) (N := 8) (n := 8) hts0 in_wsX70 (hts0 (.instantiable RX7 8) (by decide +kernel))
  obtain ⟨c6, iS6, hKn6⟩ := u_known (C := RX8) (T := TX8) (N := 19) (n := 19) hts0 in_wsX80 (hts0 (.instantiable RX8 19) (by decide +kernel))
  obtain ⟨y, hKy⟩ := lKs hts0
  obtain ⟨D, hK⟩ : ∃ D : va_G, va_K D vwCl (mT y) s := by
    refine ⟨(fun k => match k with | 0 => c0 | 1 => c1 | 2 => c2 | 3 => c3 | 4 => c4 | 5 => c5 | _ => c6, fun k => match k with | 0 => iS0 | 1 => iS1 | 2 => iS2 | 3 => iS3 | 4 => iS4 | 5 => iS5 | _ => iS6), ?_, hKy⟩
    intro k q hq
    match k, hq with
    | 0, hq => cases hq; exact hKn0
    | 1, hq => cases hq; exact hKn1
    | 2, hq => cases hq; exact hKn2
    | 3, hq => cases hq; exact hKn3
    | 4, hq => cases hq; exact hKn4
    | 5, hq => cases hq; exact hKn5
    | 6, hq => cases hq; exact hKn6
    | k + 7, hq => simp [vwCl] at hq
  obtain ⟨uSTART, hTSTART⟩ := lT_START hts0 hgv
  obtain ⟨uLEFT, hTLEFT⟩ := lT_LEFT hts0 hgv
  obtain ⟨uRIGHT, hTRIGHT⟩ := lT_RIGHT hts0 hgv
  obtain ⟨uOTHERS, hTOTHERS⟩ := lT_OTHERS hts0 hgv
  have hTs : cTs (fun k => match k with | 0 => uSTART | 1 => uLEFT | 2 => uRIGHT | _ => uOTHERS) (lA s) s s.heap := ⟨hTSTART, hTLEFT, hTRIGHT, hTOTHERS⟩
  have hNw : va_Nw cNest s := va_Nw.of rfl (hts0 cNest (by decide +kernel))
  have C : lC p s m meth c b L xs D y _ := ⟨hx, hb, hr, hml, hown, hts, hX, hbl, hK, hTs, hNw⟩
  have hS : va_S (lA s) s.heap s.heap [] := va_S.rf
  have hP : va_P D vwCl [] s.heap := fun k q h => by simp at h
  have hD : va_D (lA s) [] := ⟨fun i j p q h => by simp at h, fun k q h => by simp at h⟩
  have hl := lv_entry ([.ref b]) (n := 4) (Nat.le_of_ble_eq_true rfl)
  rw [lg_entry_eq]
  generalize (lg_sl ([.ref b]) ++ List.replicate (4 - (lg_sl ([.ref b])).length) Slot.unset).toArray = ls at hl ⊢
  have hl : lv_has ls 4 [(0, .ref b)] := hl
  refine va_new (ci := 5) (fs := [.null, .null, .null, .null, .null, .null, .null, .null]) (C := RX7) (T := TX7) (N := 8) hx hb hts0 in_wsX70 tyX7 tyX7_ok hown (hts (.classLink RL 7 RX7) (by decide +kernel)) (hts (.instantiable RX7 8) (by decide +kernel)) (hts (.initialized RX7) (by decide +kernel)) hK hP hD hS hA rfl (fun j hj => by rcases (show j = 0 ∨ j = 1 ∨ j = 2 ∨ j = 3 ∨ j = 4 ∨ j = 5 ∨ j = 6 ∨ j = 7 by omega) with rfl | rfl | rfl | rfl | rfl | rfl | rfl | rfl <;> rfl) (Nat.le_of_ble_eq_true rfl) (Nat.le_of_ble_eq_true rfl) dL_law_0 (fun q0 H hP hD hS => ?_)
  have hP : va_P D vwCl [(q0, .inr (5, [.null, .null, .null, .null, .null, .null, .null, .null]))] H := hP
  have hD : va_D (lA s) [(q0, .inr (5, [.null, .null, .null, .null, .null, .null, .null, .null]))] := hD
  refine W.widen (k := 1) (n := 8) (by decide) (by decide) ?_
  refine lv_dup hx hb dL_law_3 rfl ?_
  have hFc := lFree hD hS
  refine va_callv (va_runI (As := []) (rest := [.ref q0]) ⟨hx, hb, hml, hown, hts⟩ (ci_X7 l D y q0 H.size) (cwI 0 hts gL_law_X7_init rfl rfl rfl (hts (.initialized RX7) (by decide +kernel)) (hts (.methodLink RL 9 yX7_init) (by decide +kernel)) (hts (.instanceMethod yX7_init) (by decide +kernel)) rfl (by decide +kernel) ⟨Nat.le_of_ble_eq_true rfl, Nat.le_of_ble_eq_true rfl⟩) ⟨cnBlind7, fun U hU hW => ⟨rfl, by rw [hU], by rw [hU]; exact hP, va_K.moved hW.alike hK, hD.weaken (fun _ _ _ _ => trivial), (va_AO.of (hts0 (.arrayOver (.object "BentShares$Line")) (by decide +kernel))).moved hW.alike, (va_AO.of (hts0 (.arrayOver (.object "BentShares$Row")) (by decide +kernel))).moved hW.alike, va_Nw.warmM hW (va_Nw.of rfl (hts0 (.methodLinkNest RX7 9 yX5_init "BentShares") (by decide +kernel))), va_Nw.warmM hW (va_Nw.of rfl (hts0 (.methodLinkNest RX7 30 yX1_init "BentShares") (by decide +kernel))), va_Nw.warmM hW (va_Nw.of rfl (hts0 (.methodLinkNest RX7 37 yX4_init "BentShares") (by decide +kernel))), va_Nw.warmM hW (va_Nw.of rfl (hts0 (.methodLinkNest RX7 52 yX0_init "BentShares") (by decide +kernel))), va_Nw.warmM hW (va_Nw.of rfl (hts0 (.methodLinkNest RX7 53 yX3_init "BentShares") (by decide +kernel)))⟩⟩ rfl rfl hl.1 rfl (lv_room (Nat.le_of_ble_eq_true rfl)) dL_law_4 ⟨Nat.le_of_ble_eq_true rfl, Nat.le_of_ble_eq_true rfl⟩) hS (fun q _ h => hFc q h) hFc (fun u7 t7 H1 locs ht hvm hw hB hz1 hk1 hS => ?_)
  obtain ⟨hP1, hK1, hD1⟩ := hB
  rw [ht] at hP1
  have hD1 := hD1.weaken (fun _ _ _ h => hFc _ h)
  generalize H1 = H at hP1 hS ⊢
  rw [cW_start] at hP1 hD1
  generalize hW7 : cW y (a7 q0 u7) cS0 = w7 at hP1 hD1
  refine W.widen (k := 47) (n := 437) (by decide) (by decide) ?_
  refine lv_astore_n (lv' := [(1, .ref q0), (0, .ref b)]) hx hb dL_law_7 rfl hl (by decide) rfl (fun ls hl => ?_)
  have hP := hP1
  have hD := hD1
  refine va_new (ci := 6) (fs := [.null, .null, .null, .null, .null, .null, .null, .int 0, .int 0, .null, .null, .null, .null, .null, .null, .null, .null, .null, .null]) (C := RX8) (T := TX8) (N := 19) hx hb hts0 in_wsX80 tyX8 tyX8_ok hown (hts (.classLink RL 10 RX8) (by decide +kernel)) (hts (.instantiable RX8 19) (by decide +kernel)) (hts (.initialized RX8) (by decide +kernel)) hK hP hD hS hA rfl (fun j hj => by rcases (show j = 0 ∨ j = 1 ∨ j = 2 ∨ j = 3 ∨ j = 4 ∨ j = 5 ∨ j = 6 ∨ j = 7 ∨ j = 8 ∨ j = 9 ∨ j = 10 ∨ j = 11 ∨ j = 12 ∨ j = 13 ∨ j = 14 ∨ j = 15 ∨ j = 16 ∨ j = 17 ∨ j = 18 by omega) with rfl | rfl | rfl | rfl | rfl | rfl | rfl | rfl | rfl | rfl | rfl | rfl | rfl | rfl | rfl | rfl | rfl | rfl | rfl <;> rfl) (Nat.le_of_ble_eq_true rfl) (Nat.le_of_ble_eq_true rfl) dL_law_8 (fun p0 H hP hD hS => ?_)
  refine W.widen (k := 48) (n := 456) (by decide) (by decide) ?_
  refine lv_dup hx hb dL_law_11 rfl ?_
  have hlen : w7.length = 47 := by rw [← hW7, cW_len]
  have hPc : va_P D vwCl [(p0, .inr (6, [.null, .null, .null, .null, .null, .null, .null, .int 0, .int 0, .null, .null, .null, .null, .null, .null, .null, .null, .null, .null]))] H := fun k q hk => hP (47 + k) q (by rw [List.getElem?_append_right (by omega), hlen, Nat.add_sub_cancel_left]; exact hk)
  have hDc : va_D (lA s) [(p0, .inr (6, [.null, .null, .null, .null, .null, .null, .null, .int 0, .int 0, .null, .null, .null, .null, .null, .null, .null, .null, .null, .null]))] := ⟨fun i j p q hi hj hpq => by
      have := hD.1 (47 + i) (47 + j) p q (by rw [List.getElem?_append_right (by omega), hlen, Nat.add_sub_cancel_left]; exact hi) (by rw [List.getElem?_append_right (by omega), hlen, Nat.add_sub_cancel_left]; exact hj) hpq
      omega, fun k q hk => hD.2 (47 + k) q (by rw [List.getElem?_append_right (by omega), hlen, Nat.add_sub_cancel_left]; exact hk)⟩
  have hFc2 := lFree hDc hS
  refine va_callv (va_runI (As := []) (rest := [.ref p0]) ⟨hx, hb, hml, hown, hts⟩ (ci_X8 l D y p0 H.size) (cwI 0 hts gL_law_X8_init rfl rfl rfl (hts (.initialized RX8) (by decide +kernel)) (hts (.methodLink RL 12 yX8_init) (by decide +kernel)) (hts (.instanceMethod yX8_init) (by decide +kernel)) rfl (by decide +kernel) ⟨Nat.le_of_ble_eq_true rfl, Nat.le_of_ble_eq_true rfl⟩) ⟨cnBlind, fun U hU hW => ⟨rfl, by rw [hU], by rw [hU]; exact hPc, va_K.moved hW.alike hK, hDc.weaken (fun _ _ _ _ => trivial)⟩⟩ rfl rfl hl.1 rfl (lv_room (Nat.le_of_ble_eq_true rfl)) dL_law_12 ⟨Nat.le_of_ble_eq_true rfl, Nat.le_of_ble_eq_true rfl⟩) hS (fun q _ h => hFc2 q h) hFc2 (fun u8 t8 H2 locs ht hvm hw hB hz1 hk1 hS => ?_)
  obtain ⟨hP2, hK2, hD2⟩ := hB
  rw [ht] at hP2
  rw [mW_start] at hP2 hD2
  have key : ∀ (k : Nat) (q : Nat × va_E), w7[k]? = some q → q.1 < H.size ∧ ¬ va_A [(p0, .inr (6, [.null, .null, .null, .null, .null, .null, .null, .int 0, .int 0, .null, .null, .null, .null, .null, .null, .null, .null, .null, .null]))] H.size q.1 := by
    intro k q hk
    have hk2 : k < 47 := by rw [← hlen]; exact (List.getElem?_eq_some_iff.mp hk).1
    have hk3 : (w7 ++ [(p0, .inr (6, [.null, .null, .null, .null, .null, .null, .null, .int 0, .int 0, .null, .null, .null, .null, .null, .null, .null, .null, .null, .null]))])[k]? = some q := by rw [List.getElem?_append_left (by omega)]; exact hk
    have hlt := (hP k q hk3).lt
    refine ⟨hlt, ?_⟩
    rintro (⟨k2, e2, h2⟩ | h2)
    · have h4 := hD.1 k (47 + k2) q (q.1, e2) hk3 (by rw [List.getElem?_append_right (by omega), hlen, Nat.add_sub_cancel_left]; exact h2) rfl
      omega
    · omega
  have hP3 : va_P D vwCl (w7 ++ mW y (a8 p0 u8) mS0) H2 := va_P.app (fun k q hk => (hP k q (by rw [List.getElem?_append_left (List.getElem?_eq_some_iff.mp hk).1]; exact hk)).kept (hk1 q.1 (key k q hk).1 (key k q hk).2)) hP2
  have hD3 : va_D (lA s) (w7 ++ mW y (a8 p0 u8) mS0) := va_D.app ⟨fun i j p q hi hj hpq => hD.1 i j p q (by rw [List.getElem?_append_left (List.getElem?_eq_some_iff.mp hi).1]; exact hi) (by rw [List.getElem?_append_left (List.getElem?_eq_some_iff.mp hj).1]; exact hj) hpq, fun k q hk => hD.2 k q (by rw [List.getElem?_append_left (List.getElem?_eq_some_iff.mp hk).1]; exact hk)⟩ (hD2.weaken (fun _ _ _ h => hFc2 _ h)) (fun i j p q hi hj hpq => (key i p hi).2 (by rw [hpq]; exact hD2.2 j q hj))
  subst hW7
  refine W.widen (k := 65) (n := 820) (by decide) (by decide) ?_
  have eM : p0 = a8 p0 u8 0 := by obtain ⟨q1, q2, q3, q4, q5, q6, q7, q8, q9, q10, q11, q12, q13, q14, q15, q16, q17⟩ := u8; rfl
  have eC : q0 = a7 q0 u7 0 := by obtain ⟨q1, q2, q3, q4, q5, q6, q7, q8, q9, q10, q11, q12, q13, q14, q15, q16, q17, q18, q19, q20, q21, q22, q23, q24, q25, q26, q27, q28, q29, q30, q31, q32, q33, q34, q35, q36, q37, q38, q39, q40, q41, q42, q43, q44, q45, q46⟩ := u7; rfl
  refine lv_astore_n (lv' := [(2, .ref p0), (1, .ref q0), (0, .ref b)]) hx hb dL_law_15 rfl hl (by decide) rfl (fun ls hl => ?_)
  refine lv_iconst (v := 0) hx hb dL_law_16 (by decide) ?_
  refine lv_istore_n (lv' := [(3, .int 0), (2, .ref p0), (1, .ref q0), (0, .ref b)]) hx hb dL_law_17 rfl hl (by decide) rfl (fun ls hl => ?_)
  have hl := lv_sub hl (l' := [(0, .ref b), (1, .ref q0), (2, .ref p0), (3, .int 0)]) [3, 2, 1, 0] rfl
  generalize hg8 : a8 p0 u8 = aM at *
  generalize hg7 : a7 q0 u7 = aC at *
  exact law_loop (aC := aC) (aM := aM) hs C hlocks hL (L + 9) 0 cS0 mS0 H2 locs ls (by omega) (by omega) h0 ⟨hP3, hD3, hS⟩ (by rw [← eC, ← eM]; exact hl)
