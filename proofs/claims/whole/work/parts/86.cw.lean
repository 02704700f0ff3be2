/-! the class: what each method does, and the walk of its bytecode (written by wip/tools/cgen.py) -/
abbrev rc_X7_anew : Room := { frames := 6, cells := 0, slots := 0, locals := 144 }
set_option maxRecDepth 100000 in
set_option maxHeartbeats 4000000 in
theorem kc_X7_anew_65 {p : Program} {l : Launch} {e : Env} {s : State} {m : MethodId} {args : Array Value} {below : List Frame} {meth : Method} {c : Code} {D : va_G} {y : Nat → ClassId} {ad t : Nat → Nat} {X : va_W} {A : Nat → Prop} {Q : Int32 → cS → Prop} (C : cC p s m args meth c cX7_anew 10 (some .int) RX7 wsX7_anew D y t A)  (σ : cS) (hw : v_X7_anew_65 Q σ) (H : Heap) (locs : List Loc) (ls : Array Slot) (hO : cO D y ad X A s.heap H locs σ) (hl : lv_has ls 10 [(0, .ref (ad 0))]) : W p l e rc_X7_anew s m args below meth c H locs 0 0 (MQ below (va_Qi Q (cB D y ad X A) A) args s 0 0 A) (F0 m 65 ls []) := by
  obtain ⟨hx, hb, hr, hml, hown, hts, hlk, hK, hA, hTs, hNw⟩ := id C
  unfold v_X7_anew_65 at hw
  refine lv_iconst (v := -1) hx hb dX7_anew_65 (by decide) ?_
  exact cx_iret C hO hw dX7_anew_66
set_option maxRecDepth 100000 in
set_option maxHeartbeats 4000000 in
theorem kc_X7_anew_165 {p : Program} {l : Launch} {e : Env} {s : State} {m : MethodId} {args : Array Value} {below : List Frame} {meth : Method} {c : Code} {D : va_G} {y : Nat → ClassId} {ad t : Nat → Nat} {X : va_W} {A : Nat → Prop} {Q : Int32 → cS → Prop} (C : cC p s m args meth c cX7_anew 10 (some .int) RX7 wsX7_anew D y t A) {r93 : Int32 → Int32 → Int32 → Int32 → Int32 → Int32 → cS → Prop} (hr93 : ∀ (x1 : Int32) (x2 : Int32) (x3 : Int32) (x4 : Int32) (x5 : Int32) (x8 : Int32) (σ : cS), r93 x1 x2 x3 x4 x5 x8 σ → ∀ (H : Heap) (locs : List Loc) (ls : Array Slot), cO D y ad X A s.heap H locs σ → lv_has ls 10 [(0, .ref (ad 0)), (1, .int x1), (2, .int x2), (3, .int x3), (4, .int x4), (5, .int x5), (8, .int x8)] → W p l e rc_X7_anew s m args below meth c H locs 0 0 (MQ below (va_Qi Q (cB D y ad X A) A) args s 0 0 A) (F0 m 93 ls [])) (n : Nat) : ∀ (x1 : Int32) (x2 : Int32) (x3 : Int32) (x4 : Int32) (x5 : Int32) (x8 : Int32) (x9 : Int32) (σ : cS), v_X7_anew_165 Q r93 n x1 x2 x3 x4 x5 x8 x9 σ → ∀ (H : Heap) (locs : List Loc) (ls : Array Slot), cO D y ad X A s.heap H locs σ → lv_has ls 10 [(0, .ref (ad 0)), (1, .int x1), (2, .int x2), (3, .int x3), (4, .int x4), (5, .int x5), (8, .int x8), (9, .int x9)] → W p l e rc_X7_anew s m args below meth c H locs 0 0 (MQ below (va_Qi Q (cB D y ad X A) A) args s 0 0 A) (F0 m 165 ls []) := by
  obtain ⟨hx, hb, hr, hml, hown, hts, hlk, hK, hA, hTs, hNw⟩ := id C
  have hinX7 : ∀ w ∈ wsX70, w ∈ wsX7_anew := fun _ h => List.mem_cons_of_mem _ (List.mem_append_left _ (List.mem_append_left _ (List.mem_append_right _ h)))
  induction n with
  | zero =>
    intro x1 x2 x3 x4 x5 x8 x9 σ hw
    exact (show False from hw).elim
  | succ n ih =>
    intro x1 x2 x3 x4 x5 x8 x9 σ hw H locs ls hO hl
    unfold v_X7_anew_165 at hw
    refine lv_iload hx hb dX7_anew_165 (lv_at hl 7 rfl) ?_
    refine lv_bipush (v := 12) hx hb dX7_anew_167 (by decide) ?_
    refine lv_icmp_ge (tgt := 213) hx hb dX7_anew_169 (by decide) (fun hc => ?_) (fun hc => ?_)
    · have hw := hw.1 hc
      obtain ⟨x8_101, ex8_101⟩ : ∃ y : Int32, y = x8 + 1 := ⟨_, rfl⟩
      have hw := hw x8_101 ex8_101
      refine lv_iinc (v := x8_101) (lv' := [(8, .int x8_101), (0, .ref (ad 0)), (1, .int x1), (2, .int x2), (3, .int x3), (4, .int x4), (5, .int x5), (9, .int x9)]) hx hb dX7_anew_213 hl (k := 6) rfl (by rw [ex8_101]; rfl) (by decide) rfl (fun ls hl => ?_)
      refine lv_goto (tgt := 93) hx hb dX7_anew_216 (by decide) ?_
      exact hr93 x1 x2 x3 x4 x5 x8_101 σ hw H locs ls hO (lv_sub hl [1, 2, 3, 4, 5, 6, 0] rfl)
    · have hw := hw.2 hc
      refine lv_aload_n hx hb dX7_anew_172 rfl (lv_at hl 0 rfl) ?_
      refine cx_get C hO (by decide) rfl rfl hinX7 5 (by decide) (idx := 42) (by decide +kernel) rfl rfl dX7_anew_173 ?_
      refine lv_iload hx hb dX7_anew_176 (lv_at hl 7 rfl) ?_
      refine lv_dup2_11 hx hb dX7_anew_178 rfl rfl ?_
      refine cx_lald C hO (a := 16) rfl hw.1 dX7_anew_179 ?_
      have hw := hw.2
      refine lv_aload_n hx hb dX7_anew_180 rfl (lv_at hl 0 rfl) ?_
      refine cx_get C hO (by decide) rfl rfl hinX7 1 (by decide) (idx := 18) (by decide +kernel) rfl rfl dX7_anew_181 ?_
      refine lv_iload_n hx hb dX7_anew_184 rfl (lv_at hl 1 rfl) ?_
      refine cx_aaL C hO hw.1 dX7_anew_185 (fun o102 eo102 ho102 => ?_)
      have hw := hw.2 o102 eo102
      refine lv_iload hx hb dX7_anew_186 (lv_at hl 7 rfl) ?_
      refine lv_iconst (v := 4) hx hb dX7_anew_188 (by decide) ?_
      refine lv_idiv hx hb dX7_anew_189 hw.1 ?_
      have hw := hw.2
      refine lv_iload hx hb dX7_anew_190 (lv_at hl 6 rfl) ?_
      refine cx_clv C hO (cc_X0_number l D y ad t X σ o102 (x9 / (4 : Int32)) x8 ho102 _ hw) (cL_lt ho102).1 (cE_L ho102) rfl (cwV 2 hts gX7_anew_X0_number rfl rfl rfl (by decide +kernel) ⟨Nat.le_of_ble_eq_true rfl, Nat.le_of_ble_eq_true rfl⟩) rfl hl.1 rfl (lv_room (Nat.le_of_ble_eq_true rfl)) dX7_anew_192 (fun u103 σ104 H locs hw hO => ?_)
      refine lv_aload_n hx hb dX7_anew_195 rfl (lv_at hl 0 rfl) ?_
      refine cx_get C hO (by decide) rfl rfl hinX7 6 (by decide) (idx := 46) (by decide +kernel) rfl rfl dX7_anew_196 ?_
      refine lv_iload hx hb dX7_anew_199 (lv_at hl 7 rfl) ?_
      refine lv_iconst (v := 4) hx hb dX7_anew_201 (by decide) ?_
      refine lv_irem hx hb dX7_anew_202 hw.1 ?_
      have hw := hw.2
      refine cx_lald C hO (a := 17) rfl hw.1 dX7_anew_203 ?_
      have hw := hw.2
      refine lv_lmul hx hb dX7_anew_204 ?_
      refine lv_ladd hx hb dX7_anew_205 ?_
      refine cx_last C hO (a := 16) rfl hw.1 dX7_anew_206 (fun H locs σ105 eσ105 hO => ?_)
      have hw := hw.2 σ105 eσ105
      obtain ⟨x9_106, ex9_106⟩ : ∃ y : Int32, y = x9 + 1 := ⟨_, rfl⟩
      have hw := hw x9_106 ex9_106
      refine lv_iinc (v := x9_106) (lv' := [(9, .int x9_106), (0, .ref (ad 0)), (1, .int x1), (2, .int x2), (3, .int x3), (4, .int x4), (5, .int x5), (8, .int x8)]) hx hb dX7_anew_207 hl (k := 7) rfl (by rw [ex9_106]; rfl) (by decide) rfl (fun ls hl => ?_)
      refine lv_goto (tgt := 165) hx hb dX7_anew_210 (by decide) ?_
      exact ih x1 x2 x3 x4 x5 x8 x9_106 σ105 hw H locs ls hO (lv_sub hl [1, 2, 3, 4, 5, 6, 7, 0] rfl)
set_option maxRecDepth 100000 in
set_option maxHeartbeats 4000000 in
theorem kc_X7_anew_239 {p : Program} {l : Launch} {e : Env} {s : State} {m : MethodId} {args : Array Value} {below : List Frame} {meth : Method} {c : Code} {D : va_G} {y : Nat → ClassId} {ad t : Nat → Nat} {X : va_W} {A : Nat → Prop} {Q : Int32 → cS → Prop} (C : cC p s m args meth c cX7_anew 10 (some .int) RX7 wsX7_anew D y t A) (z0 : Int32) (σ : cS) (hw : v_X7_anew_239 Q z0 σ) (H : Heap) (locs : List Loc) (ls : Array Slot) (hO : cO D y ad X A s.heap H locs σ) (hl : lv_has ls 10 [(0, .ref (ad 0))]) : W p l e rc_X7_anew s m args below meth c H locs 0 0 (MQ below (va_Qi Q (cB D y ad X A) A) args s 0 0 A) (F0 m 239 ls [.int z0]) := by
  obtain ⟨hx, hb, hr, hml, hown, hts, hlk, hK, hA, hTs, hNw⟩ := id C
  unfold v_X7_anew_239 at hw
  exact cx_iret C hO hw dX7_anew_239
set_option maxRecDepth 100000 in
set_option maxHeartbeats 4000000 in
theorem kc_X7_anew_219 {p : Program} {l : Launch} {e : Env} {s : State} {m : MethodId} {args : Array Value} {below : List Frame} {meth : Method} {c : Code} {D : va_G} {y : Nat → ClassId} {ad t : Nat → Nat} {X : va_W} {A : Nat → Prop} {Q : Int32 → cS → Prop} (C : cC p s m args meth c cX7_anew 10 (some .int) RX7 wsX7_anew D y t A) (x1 : Int32) (σ : cS) (hw : v_X7_anew_219 Q x1 σ) (H : Heap) (locs : List Loc) (ls : Array Slot) (hO : cO D y ad X A s.heap H locs σ) (hl : lv_has ls 10 [(0, .ref (ad 0)), (1, .int x1)]) : W p l e rc_X7_anew s m args below meth c H locs 0 0 (MQ below (va_Qi Q (cB D y ad X A) A) args s 0 0 A) (F0 m 219 ls []) := by
  obtain ⟨hx, hb, hr, hml, hown, hts, hlk, hK, hA, hTs, hNw⟩ := id C
  have hinX7 : ∀ w ∈ wsX70, w ∈ wsX7_anew := fun _ h => List.mem_cons_of_mem _ (List.mem_append_left _ (List.mem_append_left _ (List.mem_append_right _ h)))
  unfold v_X7_anew_219 at hw
  refine lv_aload_n hx hb dX7_anew_219 rfl (lv_at hl 0 rfl) ?_
  refine cx_get C hO (by decide) rfl rfl hinX7 5 (by decide) (idx := 42) (by decide +kernel) rfl rfl dX7_anew_220 ?_
  refine cx_cis C hO (cc_X1_lowerNumbers l D y ad t X σ 16 rfl _ hw) (va_cwS 1 hts gX7_anew_X1_lowerNumbers rfl rfl rfl (by decide +kernel) ⟨Nat.le_of_ble_eq_true rfl, Nat.le_of_ble_eq_true rfl⟩) rfl hl.1 rfl (lv_room (Nat.le_of_ble_eq_true rfl)) dX7_anew_223 (fun u101 σ102 H locs hw hO => ?_)
  refine lv_if_eq (tgt := 237) hx hb dX7_anew_226 (by decide) (fun hc => ?_) (fun hc => ?_)
  · have hw := hw.1 hc
    refine lv_bipush (v := -2) hx hb dX7_anew_237 (by decide) ?_
    exact kc_X7_anew_239 C ((-2 : Int32)) σ102 hw H locs ls hO (lv_sub hl [0] rfl)
  · have hw := hw.2 hc
    refine lv_aload_n hx hb dX7_anew_229 rfl (lv_at hl 0 rfl) ?_
    refine lv_iload_n hx hb dX7_anew_230 rfl (lv_at hl 1 rfl) ?_
    refine cx_civ C hO (cc_X7_settle l D y ad t X σ102 x1 _ hw) (by decide) rfl rfl (cwV 1 hts gX7_anew_X7_settle rfl rfl rfl (by decide +kernel) ⟨Nat.le_of_ble_eq_true rfl, Nat.le_of_ble_eq_true rfl⟩) rfl hl.1 rfl (lv_room (Nat.le_of_ble_eq_true rfl)) dX7_anew_231 (fun u103 σ104 H locs hw hO => ?_)
    refine lv_goto (tgt := 239) hx hb dX7_anew_234 (by decide) ?_
    exact kc_X7_anew_239 C u103 σ104 hw H locs ls hO (lv_sub hl [0] rfl)
set_option maxRecDepth 100000 in
set_option maxHeartbeats 4000000 in
theorem kc_X7_anew_93 {p : Program} {l : Launch} {e : Env} {s : State} {m : MethodId} {args : Array Value} {below : List Frame} {meth : Method} {c : Code} {D : va_G} {y : Nat → ClassId} {ad t : Nat → Nat} {X : va_W} {A : Nat → Prop} {Q : Int32 → cS → Prop} (C : cC p s m args meth c cX7_anew 10 (some .int) RX7 wsX7_anew D y t A) (n : Nat) : ∀ (x1 : Int32) (x2 : Int32) (x3 : Int32) (x4 : Int32) (x5 : Int32) (x8 : Int32) (σ : cS), v_X7_anew_93 Q n x1 x2 x3 x4 x5 x8 σ → ∀ (H : Heap) (locs : List Loc) (ls : Array Slot), cO D y ad X A s.heap H locs σ → lv_has ls 10 [(0, .ref (ad 0)), (1, .int x1), (2, .int x2), (3, .int x3), (4, .int x4), (5, .int x5), (8, .int x8)] → W p l e rc_X7_anew s m args below meth c H locs 0 0 (MQ below (va_Qi Q (cB D y ad X A) A) args s 0 0 A) (F0 m 93 ls []) := by
  obtain ⟨hx, hb, hr, hml, hown, hts, hlk, hK, hA, hTs, hNw⟩ := id C
  have hinX0 : ∀ w ∈ wsX00, w ∈ wsX7_anew := fun _ h => List.mem_cons_of_mem _ (List.mem_append_left _ (List.mem_append_right _ h))
  have hinX7 : ∀ w ∈ wsX70, w ∈ wsX7_anew := fun _ h => List.mem_cons_of_mem _ (List.mem_append_left _ (List.mem_append_left _ (List.mem_append_right _ h)))
  induction n with
  | zero =>
    intro x1 x2 x3 x4 x5 x8 σ hw
    exact (show False from hw).elim
  | succ n ih =>
    intro x1 x2 x3 x4 x5 x8 σ hw H locs ls hO hl
    unfold v_X7_anew_93 at hw
    refine lv_iload hx hb dX7_anew_93 (lv_at hl 6 rfl) ?_
    refine lv_aload_n hx hb dX7_anew_95 rfl (lv_at hl 0 rfl) ?_
    refine cx_get C hO (by decide) rfl rfl hinX7 1 (by decide) (idx := 18) (by decide +kernel) rfl rfl dX7_anew_96 ?_
    refine lv_iload_n hx hb dX7_anew_99 rfl (lv_at hl 1 rfl) ?_
    refine cx_aaL C hO hw.1 dX7_anew_100 (fun o101 eo101 ho101 => ?_)
    have hw := hw.2 o101 eo101
    refine cx_get C hO (cL_lt ho101).1 (cE_L ho101) rfl hinX0 5 (by decide) (idx := 97) (by decide +kernel) rfl rfl dX7_anew_101 ?_
    refine lv_icmp_gt (tgt := 219) hx hb dX7_anew_104 (by decide) (fun hc => ?_) (fun hc => ?_)
    · have hw := hw.1 hc
      exact kc_X7_anew_219 C x1 σ hw H locs ls hO (lv_sub hl [0, 1] rfl)
    · have hw := hw.2 hc
      refine lv_iload hx hb dX7_anew_107 (lv_at hl 6 rfl) ?_
      refine lv_iconst (v := 4) hx hb dX7_anew_109 (by decide) ?_
      refine lv_icmp_ge (tgt := 219) hx hb dX7_anew_110 (by decide) (fun hc => ?_) (fun hc => ?_)
      · have hw := hw.1 hc
        exact kc_X7_anew_219 C x1 σ hw H locs ls hO (lv_sub hl [0, 1] rfl)
      · have hw := hw.2 hc
        refine lv_aload_n hx hb dX7_anew_113 rfl (lv_at hl 0 rfl) ?_
        refine cx_get C hO (by decide) rfl rfl hinX7 6 (by decide) (idx := 46) (by decide +kernel) rfl rfl dX7_anew_114 ?_
        refine lv_lconst (v := 0) hx hb dX7_anew_117 (by decide) ?_
        refine cx_cvs C hO (cc_J7_fill_d0a16 l D y ad t X σ 17 (0 : Int64) rfl _ hw) (va_cwS 2 hts gX7_anew_J7_fill_d0a16 rfl rfl rfl (by decide +kernel) ⟨Nat.le_of_ble_eq_true rfl, Nat.le_of_ble_eq_true rfl⟩) rfl hl.1 rfl (lv_room (Nat.le_of_ble_eq_true rfl)) dX7_anew_118 (fun σ103 H locs hw hO => ?_)
        refine lv_aload_n hx hb dX7_anew_121 rfl (lv_at hl 0 rfl) ?_
        refine cx_get C hO (by decide) rfl rfl hinX7 6 (by decide) (idx := 46) (by decide +kernel) rfl rfl dX7_anew_122 ?_
        refine lv_iconst (v := 0) hx hb dX7_anew_125 (by decide) ?_
        refine lv_lconst (v := 1) hx hb dX7_anew_126 (by decide) ?_
        refine cx_last C hO (a := 17) rfl hw.1 dX7_anew_127 (fun H locs σ104 eσ104 hO => ?_)
        have hw := hw.2 σ104 eσ104
        refine lv_aload_n hx hb dX7_anew_128 rfl (lv_at hl 0 rfl) ?_
        refine cx_get C hO (by decide) rfl rfl hinX7 6 (by decide) (idx := 46) (by decide +kernel) rfl rfl dX7_anew_129 ?_
        refine lv_iload_n hx hb dX7_anew_132 rfl (lv_at hl 2 rfl) ?_
        refine lv_iload_n hx hb dX7_anew_133 rfl (lv_at hl 3 rfl) ?_
        refine lv_iload hx hb dX7_anew_134 (lv_at hl 6 rfl) ?_
        refine cx_cvs C hO (cc_X7_multiply l D y ad t X σ104 17 x2 x3 x8 rfl _ hw) (va_cwS 4 hts gX7_anew_X7_multiply rfl rfl rfl (by decide +kernel) ⟨Nat.le_of_ble_eq_true rfl, Nat.le_of_ble_eq_true rfl⟩) rfl hl.1 rfl (lv_room (Nat.le_of_ble_eq_true rfl)) dX7_anew_136 (fun σ106 H locs hw hO => ?_)
        refine lv_aload_n hx hb dX7_anew_139 rfl (lv_at hl 0 rfl) ?_
        refine cx_get C hO (by decide) rfl rfl hinX7 6 (by decide) (idx := 46) (by decide +kernel) rfl rfl dX7_anew_140 ?_
        refine lv_iload hx hb dX7_anew_143 (lv_at hl 4 rfl) ?_
        refine lv_iload hx hb dX7_anew_145 (lv_at hl 5 rfl) ?_
        refine lv_aload_n hx hb dX7_anew_147 rfl (lv_at hl 0 rfl) ?_
        refine cx_get C hO (by decide) rfl rfl hinX7 1 (by decide) (idx := 18) (by decide +kernel) rfl rfl dX7_anew_148 ?_
        refine lv_iload_n hx hb dX7_anew_151 rfl (lv_at hl 1 rfl) ?_
        refine cx_aaL C hO hw.1 dX7_anew_152 (fun o107 eo107 ho107 => ?_)
        have hw := hw.2 o107 eo107
        refine cx_get C hO (cL_lt ho107).1 (cE_L ho107) rfl hinX0 5 (by decide) (idx := 97) (by decide +kernel) rfl rfl dX7_anew_153 ?_
        refine lv_iload hx hb dX7_anew_156 (lv_at hl 6 rfl) ?_
        refine lv_isub hx hb dX7_anew_158 ?_
        refine cx_cvs C hO (cc_X7_multiply l D y ad t X σ106 17 x4 x5 ((σ106.2.2.1 o107 5) - x8) rfl _ hw) (va_cwS 4 hts gX7_anew_X7_multiply rfl rfl rfl (by decide +kernel) ⟨Nat.le_of_ble_eq_true rfl, Nat.le_of_ble_eq_true rfl⟩) rfl hl.1 rfl (lv_room (Nat.le_of_ble_eq_true rfl)) dX7_anew_159 (fun σ109 H locs hw hO => ?_)
        refine lv_iconst (v := 0) hx hb dX7_anew_162 (by decide) ?_
        refine lv_istore (lv' := [(9, .int ((0 : Int32))), (0, .ref (ad 0)), (1, .int x1), (2, .int x2), (3, .int x3), (4, .int x4), (5, .int x5), (8, .int x8)]) hx hb dX7_anew_163 hl (by decide) rfl (fun ls hl => ?_)
        exact kc_X7_anew_165 C ih fuL x1 x2 x3 x4 x5 x8 ((0 : Int32)) σ109 hw H locs ls hO (lv_sub hl [1, 2, 3, 4, 5, 6, 7, 0] rfl)
set_option maxRecDepth 100000 in
set_option maxHeartbeats 4000000 in
theorem kc_X7_anew_47 {p : Program} {l : Launch} {e : Env} {s : State} {m : MethodId} {args : Array Value} {below : List Frame} {meth : Method} {c : Code} {D : va_G} {y : Nat → ClassId} {ad t : Nat → Nat} {X : va_W} {A : Nat → Prop} {Q : Int32 → cS → Prop} (C : cC p s m args meth c cX7_anew 10 (some .int) RX7 wsX7_anew D y t A) (x1 : Int32) (x2 : Int32) (x3 : Int32) (x4 : Int32) (x5 : Int32) (z0 : Int32) (σ : cS) (hw : v_X7_anew_47 Q x1 x2 x3 x4 x5 z0 σ) (H : Heap) (locs : List Loc) (ls : Array Slot) (hO : cO D y ad X A s.heap H locs σ) (hl : lv_has ls 10 [(0, .ref (ad 0)), (1, .int x1), (2, .int x2), (3, .int x3), (4, .int x4), (5, .int x5)]) : W p l e rc_X7_anew s m args below meth c H locs 0 0 (MQ below (va_Qi Q (cB D y ad X A) A) args s 0 0 A) (F0 m 47 ls [.int z0]) := by
  obtain ⟨hx, hb, hr, hml, hown, hts, hlk, hK, hA, hTs, hNw⟩ := id C
  have hinX7 : ∀ w ∈ wsX70, w ∈ wsX7_anew := fun _ h => List.mem_cons_of_mem _ (List.mem_append_left _ (List.mem_append_left _ (List.mem_append_right _ h)))
  unfold v_X7_anew_47 at hw
  refine lv_istore (lv' := [(6, .int z0), (0, .ref (ad 0)), (1, .int x1), (2, .int x2), (3, .int x3), (4, .int x4), (5, .int x5)]) hx hb dX7_anew_47 hl (by decide) rfl (fun ls hl => ?_)
  refine lv_iload hx hb dX7_anew_49 (lv_at hl 0 rfl) ?_
  refine lv_if_eq (tgt := 65) hx hb dX7_anew_51 (by decide) (fun hc => ?_) (fun hc => ?_)
  · have hw := hw.1 hc
    exact kc_X7_anew_65 C σ hw H locs ls hO (lv_sub hl [1] rfl)
  · have hw := hw.2 hc
    refine lv_iload_n hx hb dX7_anew_54 rfl (lv_at hl 3 rfl) ?_
    refine lv_iload hx hb dX7_anew_55 (lv_at hl 6 rfl) ?_
    refine lv_imul hx hb dX7_anew_57 ?_
    refine lv_iload_n hx hb dX7_anew_58 rfl (lv_at hl 4 rfl) ?_
    refine lv_iload hx hb dX7_anew_59 (lv_at hl 5 rfl) ?_
    refine lv_imul hx hb dX7_anew_61 ?_
    refine lv_icmp_ne (tgt := 67) hx hb dX7_anew_62 (by decide) (fun hc => ?_) (fun hc => ?_)
    · have hw := hw.1 hc
      refine lv_aload_n hx hb dX7_anew_67 rfl (lv_at hl 1 rfl) ?_
      refine lv_iload_n hx hb dX7_anew_68 rfl (lv_at hl 2 rfl) ?_
      refine cx_civ C hO (cc_X7_missing l D y ad t X σ x1 _ hw) (by decide) rfl rfl (cwV 1 hts gX7_anew_X7_missing rfl rfl rfl (by decide +kernel) ⟨Nat.le_of_ble_eq_true rfl, Nat.le_of_ble_eq_true rfl⟩) rfl hl.1 rfl (lv_room (Nat.le_of_ble_eq_true rfl)) dX7_anew_69 (fun u101 σ102 H locs hw hO => ?_)
      refine lv_istore (lv' := [(7, .int u101), (6, .int z0), (0, .ref (ad 0)), (1, .int x1), (2, .int x2), (3, .int x3), (4, .int x4), (5, .int x5)]) hx hb dX7_anew_72 hl (by decide) rfl (fun ls hl => ?_)
      refine lv_iload hx hb dX7_anew_74 (lv_at hl 0 rfl) ?_
      refine lv_if_eq (tgt := 82) hx hb dX7_anew_76 (by decide) (fun hc => ?_) (fun hc => ?_)
      · have hw := hw.1 hc
        refine lv_aload_n hx hb dX7_anew_82 rfl (lv_at hl 2 rfl) ?_
        refine cx_get C hO (by decide) rfl rfl hinX7 5 (by decide) (idx := 42) (by decide +kernel) rfl rfl dX7_anew_83 ?_
        refine lv_lconst (v := 0) hx hb dX7_anew_86 (by decide) ?_
        refine cx_cvs C hO (cc_J7_fill_d0a16 l D y ad t X σ102 16 (0 : Int64) rfl _ hw) (va_cwS 2 hts gX7_anew_J7_fill_d0a16 rfl rfl rfl (by decide +kernel) ⟨Nat.le_of_ble_eq_true rfl, Nat.le_of_ble_eq_true rfl⟩) rfl hl.1 rfl (lv_room (Nat.le_of_ble_eq_true rfl)) dX7_anew_87 (fun σ104 H locs hw hO => ?_)
        refine lv_iconst (v := 0) hx hb dX7_anew_90 (by decide) ?_
        refine lv_istore (lv' := [(8, .int ((0 : Int32))), (7, .int u101), (6, .int z0), (0, .ref (ad 0)), (1, .int x1), (2, .int x2), (3, .int x3), (4, .int x4), (5, .int x5)]) hx hb dX7_anew_91 hl (by decide) rfl (fun ls hl => ?_)
        exact kc_X7_anew_93 C fuL x1 x2 x3 x4 x5 ((0 : Int32)) σ104 hw H locs ls hO (lv_sub hl [3, 4, 5, 6, 7, 8, 0] rfl)
      · have hw := hw.2 hc
        refine lv_iload hx hb dX7_anew_79 (lv_at hl 0 rfl) ?_
        exact cx_iret C hO hw dX7_anew_81
    · have hw := hw.2 hc
      exact kc_X7_anew_65 C σ hw H locs ls hO (lv_sub hl [1] rfl)
set_option maxRecDepth 100000 in
set_option maxHeartbeats 4000000 in
theorem kc_X7_anew_46 {p : Program} {l : Launch} {e : Env} {s : State} {m : MethodId} {args : Array Value} {below : List Frame} {meth : Method} {c : Code} {D : va_G} {y : Nat → ClassId} {ad t : Nat → Nat} {X : va_W} {A : Nat → Prop} {Q : Int32 → cS → Prop} (C : cC p s m args meth c cX7_anew 10 (some .int) RX7 wsX7_anew D y t A) (x1 : Int32) (x2 : Int32) (x3 : Int32) (x4 : Int32) (x5 : Int32) (σ : cS) (hw : v_X7_anew_46 Q x1 x2 x3 x4 x5 σ) (H : Heap) (locs : List Loc) (ls : Array Slot) (hO : cO D y ad X A s.heap H locs σ) (hl : lv_has ls 10 [(0, .ref (ad 0)), (1, .int x1), (2, .int x2), (3, .int x3), (4, .int x4), (5, .int x5)]) : W p l e rc_X7_anew s m args below meth c H locs 0 0 (MQ below (va_Qi Q (cB D y ad X A) A) args s 0 0 A) (F0 m 46 ls []) := by
  obtain ⟨hx, hb, hr, hml, hown, hts, hlk, hK, hA, hTs, hNw⟩ := id C
  unfold v_X7_anew_46 at hw
  refine lv_iconst (v := 0) hx hb dX7_anew_46 (by decide) ?_
  exact kc_X7_anew_47 C x1 x2 x3 x4 x5 ((0 : Int32)) σ hw H locs ls hO (lv_sub hl [0, 1, 2, 3, 4, 5] rfl)
set_option maxRecDepth 100000 in
set_option maxHeartbeats 4000000 in
theorem kc_X7_anew_e {p : Program} {l : Launch} {e : Env} {s : State} {m : MethodId} {args : Array Value} {below : List Frame} {meth : Method} {c : Code} {D : va_G} {y : Nat → ClassId} {ad t : Nat → Nat} {X : va_W} {A : Nat → Prop} {Q : Int32 → cS → Prop} (C : cC p s m args meth c cX7_anew 10 (some .int) RX7 wsX7_anew D y t A) (x1 : Int32) (x2 : Int32) (x3 : Int32) (x4 : Int32) (x5 : Int32) (σ : cS) (hw : v_X7_anew Q x1 x2 x3 x4 x5 σ) (H : Heap) (locs : List Loc) (ls : Array Slot) (hO : cO D y ad X A s.heap H locs σ) (hl : lv_has ls 10 [(0, .ref (ad 0)), (1, .int x1), (2, .int x2), (3, .int x3), (4, .int x4), (5, .int x5)]) : W p l e rc_X7_anew s m args below meth c H locs 0 0 (MQ below (va_Qi Q (cB D y ad X A) A) args s 0 0 A) (F0 m 0 ls []) := by
  obtain ⟨hx, hb, hr, hml, hown, hts, hlk, hK, hA, hTs, hNw⟩ := id C
  unfold v_X7_anew at hw
  refine lv_iload_n hx hb dX7_anew_0 rfl (lv_at hl 2 rfl) ?_
  refine lv_bipush (v := -5) hx hb dX7_anew_1 (by decide) ?_
  refine lv_iconst (v := 5) hx hb dX7_anew_3 (by decide) ?_
  refine cx_cis C hO (cc_X7_within l D y ad t X σ x2 (-5 : Int32) (5 : Int32) _ hw) (va_cwS 3 hts gX7_anew_X7_within rfl rfl rfl (by decide +kernel) ⟨Nat.le_of_ble_eq_true rfl, Nat.le_of_ble_eq_true rfl⟩) rfl hl.1 rfl (lv_room (Nat.le_of_ble_eq_true rfl)) dX7_anew_4 (fun u101 σ102 H locs hw hO => ?_)
  refine lv_if_eq (tgt := 46) hx hb dX7_anew_7 (by decide) (fun hc => ?_) (fun hc => ?_)
  · have hw := hw.1 hc
    exact kc_X7_anew_46 C x1 x2 x3 x4 x5 σ102 hw H locs ls hO (lv_sub hl [0, 1, 2, 3, 4, 5] rfl)
  · have hw := hw.2 hc
    refine lv_iload_n hx hb dX7_anew_10 rfl (lv_at hl 3 rfl) ?_
    refine lv_bipush (v := -5) hx hb dX7_anew_11 (by decide) ?_
    refine lv_iconst (v := 5) hx hb dX7_anew_13 (by decide) ?_
    refine cx_cis C hO (cc_X7_within l D y ad t X σ102 x3 (-5 : Int32) (5 : Int32) _ hw) (va_cwS 3 hts gX7_anew_X7_within rfl rfl rfl (by decide +kernel) ⟨Nat.le_of_ble_eq_true rfl, Nat.le_of_ble_eq_true rfl⟩) rfl hl.1 rfl (lv_room (Nat.le_of_ble_eq_true rfl)) dX7_anew_14 (fun u103 σ104 H locs hw hO => ?_)
    refine lv_if_eq (tgt := 46) hx hb dX7_anew_17 (by decide) (fun hc => ?_) (fun hc => ?_)
    · have hw := hw.1 hc
      exact kc_X7_anew_46 C x1 x2 x3 x4 x5 σ104 hw H locs ls hO (lv_sub hl [0, 1, 2, 3, 4, 5] rfl)
    · have hw := hw.2 hc
      refine lv_iload hx hb dX7_anew_20 (lv_at hl 4 rfl) ?_
      refine lv_bipush (v := -5) hx hb dX7_anew_22 (by decide) ?_
      refine lv_iconst (v := 5) hx hb dX7_anew_24 (by decide) ?_
      refine cx_cis C hO (cc_X7_within l D y ad t X σ104 x4 (-5 : Int32) (5 : Int32) _ hw) (va_cwS 3 hts gX7_anew_X7_within rfl rfl rfl (by decide +kernel) ⟨Nat.le_of_ble_eq_true rfl, Nat.le_of_ble_eq_true rfl⟩) rfl hl.1 rfl (lv_room (Nat.le_of_ble_eq_true rfl)) dX7_anew_25 (fun u105 σ106 H locs hw hO => ?_)
      refine lv_if_eq (tgt := 46) hx hb dX7_anew_28 (by decide) (fun hc => ?_) (fun hc => ?_)
      · have hw := hw.1 hc
        exact kc_X7_anew_46 C x1 x2 x3 x4 x5 σ106 hw H locs ls hO (lv_sub hl [0, 1, 2, 3, 4, 5] rfl)
      · have hw := hw.2 hc
        refine lv_iload hx hb dX7_anew_31 (lv_at hl 5 rfl) ?_
        refine lv_bipush (v := -5) hx hb dX7_anew_33 (by decide) ?_
        refine lv_iconst (v := 5) hx hb dX7_anew_35 (by decide) ?_
        refine cx_cis C hO (cc_X7_within l D y ad t X σ106 x5 (-5 : Int32) (5 : Int32) _ hw) (va_cwS 3 hts gX7_anew_X7_within rfl rfl rfl (by decide +kernel) ⟨Nat.le_of_ble_eq_true rfl, Nat.le_of_ble_eq_true rfl⟩) rfl hl.1 rfl (lv_room (Nat.le_of_ble_eq_true rfl)) dX7_anew_36 (fun u107 σ108 H locs hw hO => ?_)
        refine lv_if_eq (tgt := 46) hx hb dX7_anew_39 (by decide) (fun hc => ?_) (fun hc => ?_)
        · have hw := hw.1 hc
          exact kc_X7_anew_46 C x1 x2 x3 x4 x5 σ108 hw H locs ls hO (lv_sub hl [0, 1, 2, 3, 4, 5] rfl)
        · have hw := hw.2 hc
          refine lv_iconst (v := 1) hx hb dX7_anew_42 (by decide) ?_
          refine lv_goto (tgt := 47) hx hb dX7_anew_43 (by decide) ?_
          exact kc_X7_anew_47 C x1 x2 x3 x4 x5 ((1 : Int32)) σ108 hw H locs ls hO (lv_sub hl [0, 1, 2, 3, 4, 5] rfl)
theorem cc_X7_anew (l : Launch) (D : va_G) (y : Nat → ClassId) (ad t : Nat → Nat) (X : va_W) (σ : cS) (x1 : Int32) (x2 : Int32) (x3 : Int32) (x4 : Int32) (x5 : Int32) (Q : Int32 → cS → Prop) (hw : v_X7_anew Q x1 x2 x3 x4 x5 σ) : ∀ sz, Met l yX7_anew wsX7_anew rc_X7_anew (va_Pc [.ref (ad 0), .int x1, .int x2, .int x3, .int x4, .int x5] (cPre D y ad t X sz σ)) (va_Qi Q (cB D y ad X (va_A (cW y ad σ ++ X) sz)) (va_A (cW y ad σ ++ X) sz)) 0 0 (va_A (cW y ad σ ++ X) sz) :=
  cMet (Qc := fun A => va_Qi Q (cB D y ad X A) A) (by decide) (own := RX7) rfl (Nat.le_of_ble_eq_true rfl) (fun p e s m args below meth c A ls C hO hl => kc_X7_anew_e C x1 x2 x3 x4 x5 σ hw s.heap [] ls hO hl)
abbrev rc_X7_move : Room := { frames := 6, cells := 0, slots := 0, locals := 144 }
set_option maxRecDepth 100000 in
set_option maxHeartbeats 4000000 in
theorem kc_X7_move_93 {p : Program} {l : Launch} {e : Env} {s : State} {m : MethodId} {args : Array Value} {below : List Frame} {meth : Method} {c : Code} {D : va_G} {y : Nat → ClassId} {ad t : Nat → Nat} {X : va_W} {A : Nat → Prop} {Q : Int32 → cS → Prop} (C : cC p s m args meth c cX7_move 11 (some .int) RX7 wsX7_move D y t A)  (σ : cS) (hw : v_X7_move_93 Q σ) (H : Heap) (locs : List Loc) (ls : Array Slot) (hO : cO D y ad X A s.heap H locs σ) (hl : lv_has ls 11 [(0, .ref (ad 0))]) : W p l e rc_X7_move s m args below meth c H locs 0 0 (MQ below (va_Qi Q (cB D y ad X A) A) args s 0 0 A) (F0 m 93 ls []) := by
  obtain ⟨hx, hb, hr, hml, hown, hts, hlk, hK, hA, hTs, hNw⟩ := id C
  unfold v_X7_move_93 at hw
  refine lv_iconst (v := -1) hx hb dX7_move_93 (by decide) ?_
  exact cx_iret C hO hw dX7_move_94
set_option maxRecDepth 100000 in
set_option maxHeartbeats 4000000 in
theorem kc_X7_move_221 {p : Program} {l : Launch} {e : Env} {s : State} {m : MethodId} {args : Array Value} {below : List Frame} {meth : Method} {c : Code} {D : va_G} {y : Nat → ClassId} {ad t : Nat → Nat} {X : va_W} {A : Nat → Prop} {Q : Int32 → cS → Prop} (C : cC p s m args meth c cX7_move 11 (some .int) RX7 wsX7_move D y t A) (z0 : Int32) (σ : cS) (hw : v_X7_move_221 Q z0 σ) (H : Heap) (locs : List Loc) (ls : Array Slot) (hO : cO D y ad X A s.heap H locs σ) (hl : lv_has ls 11 [(0, .ref (ad 0))]) : W p l e rc_X7_move s m args below meth c H locs 0 0 (MQ below (va_Qi Q (cB D y ad X A) A) args s 0 0 A) (F0 m 221 ls [.int z0]) := by
  obtain ⟨hx, hb, hr, hml, hown, hts, hlk, hK, hA, hTs, hNw⟩ := id C
  unfold v_X7_move_221 at hw
  exact cx_iret C hO hw dX7_move_221
set_option maxRecDepth 100000 in
set_option maxHeartbeats 4000000 in
theorem kc_X7_move_113 {p : Program} {l : Launch} {e : Env} {s : State} {m : MethodId} {args : Array Value} {below : List Frame} {meth : Method} {c : Code} {D : va_G} {y : Nat → ClassId} {ad t : Nat → Nat} {X : va_W} {A : Nat → Prop} {Q : Int32 → cS → Prop} (C : cC p s m args meth c cX7_move 11 (some .int) RX7 wsX7_move D y t A) (n : Nat) : ∀ (x1 : Int32) (x2 : Int32) (x3 : Int32) (x4 : Int32) (x5 : Int32) (x6 : Int32) (x7 : Int32) (x10 : Int32) (σ : cS), v_X7_move_113 Q n x1 x2 x3 x4 x5 x6 x7 x10 σ → ∀ (H : Heap) (locs : List Loc) (ls : Array Slot), cO D y ad X A s.heap H locs σ → lv_has ls 11 [(0, .ref (ad 0)), (1, .int x1), (2, .int x2), (3, .int x3), (4, .int x4), (5, .int x5), (6, .int x6), (7, .int x7), (10, .int x10)] → W p l e rc_X7_move s m args below meth c H locs 0 0 (MQ below (va_Qi Q (cB D y ad X A) A) args s 0 0 A) (F0 m 113 ls []) := by
  obtain ⟨hx, hb, hr, hml, hown, hts, hlk, hK, hA, hTs, hNw⟩ := id C
  have hinX7 : ∀ w ∈ wsX70, w ∈ wsX7_move := fun _ h => List.mem_cons_of_mem _ (List.mem_append_left _ (List.mem_append_left _ (List.mem_append_right _ h)))
  induction n with
  | zero =>
    intro x1 x2 x3 x4 x5 x6 x7 x10 σ hw
    exact (show False from hw).elim
  | succ n ih =>
    intro x1 x2 x3 x4 x5 x6 x7 x10 σ hw H locs ls hO hl
    unfold v_X7_move_113 at hw
    refine lv_iload hx hb dX7_move_113 (lv_at hl 8 rfl) ?_
    refine lv_iconst (v := 4) hx hb dX7_move_115 (by decide) ?_
    refine lv_icmp_ge (tgt := 201) hx hb dX7_move_116 (by decide) (fun hc => ?_) (fun hc => ?_)
    · have hw := hw.1 hc
      refine lv_aload_n hx hb dX7_move_201 rfl (lv_at hl 0 rfl) ?_
      refine cx_get C hO (by decide) rfl rfl hinX7 5 (by decide) (idx := 42) (by decide +kernel) rfl rfl dX7_move_202 ?_
      refine cx_cis C hO (cc_X1_lowerNumbers l D y ad t X σ 16 rfl _ hw) (va_cwS 1 hts gX7_move_X1_lowerNumbers rfl rfl rfl (by decide +kernel) ⟨Nat.le_of_ble_eq_true rfl, Nat.le_of_ble_eq_true rfl⟩) rfl hl.1 rfl (lv_room (Nat.le_of_ble_eq_true rfl)) dX7_move_205 (fun u101 σ102 H locs hw hO => ?_)
      refine lv_if_eq (tgt := 219) hx hb dX7_move_208 (by decide) (fun hc => ?_) (fun hc => ?_)
      · have hw := hw.1 hc
        refine lv_bipush (v := -2) hx hb dX7_move_219 (by decide) ?_
        exact kc_X7_move_221 C ((-2 : Int32)) σ102 hw H locs ls hO (lv_sub hl [0] rfl)
      · have hw := hw.2 hc
        refine lv_aload_n hx hb dX7_move_211 rfl (lv_at hl 0 rfl) ?_
        refine lv_iload_n hx hb dX7_move_212 rfl (lv_at hl 1 rfl) ?_
        refine cx_civ C hO (cc_X7_settle l D y ad t X σ102 x1 _ hw) (by decide) rfl rfl (cwV 1 hts gX7_move_X7_settle rfl rfl rfl (by decide +kernel) ⟨Nat.le_of_ble_eq_true rfl, Nat.le_of_ble_eq_true rfl⟩) rfl hl.1 rfl (lv_room (Nat.le_of_ble_eq_true rfl)) dX7_move_213 (fun u103 σ104 H locs hw hO => ?_)
        refine lv_goto (tgt := 221) hx hb dX7_move_216 (by decide) ?_
        exact kc_X7_move_221 C u103 σ104 hw H locs ls hO (lv_sub hl [0] rfl)
    · have hw := hw.2 hc
      refine lv_aload_n hx hb dX7_move_119 rfl (lv_at hl 0 rfl) ?_
      refine cx_get C hO (by decide) rfl rfl hinX7 5 (by decide) (idx := 42) (by decide +kernel) rfl rfl dX7_move_120 ?_
      refine lv_iload hx hb dX7_move_123 (lv_at hl 8 rfl) ?_
      refine lv_aload_n hx hb dX7_move_125 rfl (lv_at hl 0 rfl) ?_
      refine cx_get C hO (by decide) rfl rfl hinX7 1 (by decide) (idx := 18) (by decide +kernel) rfl rfl dX7_move_126 ?_
      refine lv_iload_n hx hb dX7_move_129 rfl (lv_at hl 1 rfl) ?_
      refine cx_aaL C hO hw.1 dX7_move_130 (fun o105 eo105 ho105 => ?_)
      have hw := hw.2 o105 eo105
      refine lv_iload_n hx hb dX7_move_131 rfl (lv_at hl 2 rfl) ?_
      refine lv_i2l hx hb dX7_move_132 rfl ?_
      refine lv_iload_n hx hb dX7_move_133 rfl (lv_at hl 3 rfl) ?_
      refine lv_i2l hx hb dX7_move_134 rfl ?_
      refine lv_iload hx hb dX7_move_135 (lv_at hl 6 rfl) ?_
      refine lv_i2l hx hb dX7_move_137 rfl ?_
      refine lv_iload hx hb dX7_move_138 (lv_at hl 8 rfl) ?_
      refine cx_clv C hO (cc_X0_combined l D y ad t X σ o105 (x2.toInt64) (x3.toInt64) (x6.toInt64) x10 ho105 _ hw) (cL_lt ho105).1 (cE_L ho105) rfl (cwV 4 hts gX7_move_X0_combined rfl rfl rfl (by decide +kernel) ⟨Nat.le_of_ble_eq_true rfl, Nat.le_of_ble_eq_true rfl⟩) rfl hl.1 rfl (lv_room (Nat.le_of_ble_eq_true rfl)) dX7_move_140 (fun u106 σ107 H locs hw hO => ?_)
      refine cx_last C hO (a := 16) rfl hw.1 dX7_move_143 (fun H locs σ108 eσ108 hO => ?_)
      have hw := hw.2 σ108 eσ108
      refine lv_aload_n hx hb dX7_move_144 rfl (lv_at hl 0 rfl) ?_
      refine cx_get C hO (by decide) rfl rfl hinX7 5 (by decide) (idx := 42) (by decide +kernel) rfl rfl dX7_move_145 ?_
      refine lv_iconst (v := 4) hx hb dX7_move_148 (by decide) ?_
      refine lv_iload hx hb dX7_move_149 (lv_at hl 8 rfl) ?_
      refine lv_iadd hx hb dX7_move_151 ?_
      refine lv_aload_n hx hb dX7_move_152 rfl (lv_at hl 0 rfl) ?_
      refine cx_get C hO (by decide) rfl rfl hinX7 1 (by decide) (idx := 18) (by decide +kernel) rfl rfl dX7_move_153 ?_
      refine lv_iload_n hx hb dX7_move_156 rfl (lv_at hl 1 rfl) ?_
      refine cx_aaL C hO hw.1 dX7_move_157 (fun o109 eo109 ho109 => ?_)
      have hw := hw.2 o109 eo109
      refine lv_iload hx hb dX7_move_158 (lv_at hl 4 rfl) ?_
      refine lv_i2l hx hb dX7_move_160 rfl ?_
      refine lv_iload hx hb dX7_move_161 (lv_at hl 5 rfl) ?_
      refine lv_i2l hx hb dX7_move_163 rfl ?_
      refine lv_iload hx hb dX7_move_164 (lv_at hl 7 rfl) ?_
      refine lv_i2l hx hb dX7_move_166 rfl ?_
      refine lv_iload hx hb dX7_move_167 (lv_at hl 8 rfl) ?_
      refine cx_clv C hO (cc_X0_combined l D y ad t X σ108 o109 (x4.toInt64) (x5.toInt64) (x7.toInt64) x10 ho109 _ hw) (cL_lt ho109).1 (cE_L ho109) rfl (cwV 4 hts gX7_move_X0_combined rfl rfl rfl (by decide +kernel) ⟨Nat.le_of_ble_eq_true rfl, Nat.le_of_ble_eq_true rfl⟩) rfl hl.1 rfl (lv_room (Nat.le_of_ble_eq_true rfl)) dX7_move_169 (fun u110 σ111 H locs hw hO => ?_)
      refine cx_last C hO (a := 16) rfl hw.1 dX7_move_172 (fun H locs σ112 eσ112 hO => ?_)
      have hw := hw.2 σ112 eσ112
      refine lv_aload_n hx hb dX7_move_173 rfl (lv_at hl 0 rfl) ?_
      refine cx_get C hO (by decide) rfl rfl hinX7 5 (by decide) (idx := 42) (by decide +kernel) rfl rfl dX7_move_174 ?_
      refine lv_bipush (v := 8) hx hb dX7_move_177 (by decide) ?_
      refine lv_iload hx hb dX7_move_179 (lv_at hl 8 rfl) ?_
      refine lv_iadd hx hb dX7_move_181 ?_
      refine lv_aload_n hx hb dX7_move_182 rfl (lv_at hl 0 rfl) ?_
      refine cx_get C hO (by decide) rfl rfl hinX7 1 (by decide) (idx := 18) (by decide +kernel) rfl rfl dX7_move_183 ?_
      refine lv_iload_n hx hb dX7_move_186 rfl (lv_at hl 1 rfl) ?_
      refine cx_aaL C hO hw.1 dX7_move_187 (fun o113 eo113 ho113 => ?_)
      have hw := hw.2 o113 eo113
      refine lv_iconst (v := 2) hx hb dX7_move_188 (by decide) ?_
      refine lv_iload hx hb dX7_move_189 (lv_at hl 8 rfl) ?_
      refine cx_clv C hO (cc_X0_number l D y ad t X σ112 o113 (2 : Int32) x10 ho113 _ hw) (cL_lt ho113).1 (cE_L ho113) rfl (cwV 2 hts gX7_move_X0_number rfl rfl rfl (by decide +kernel) ⟨Nat.le_of_ble_eq_true rfl, Nat.le_of_ble_eq_true rfl⟩) rfl hl.1 rfl (lv_room (Nat.le_of_ble_eq_true rfl)) dX7_move_191 (fun u114 σ115 H locs hw hO => ?_)
      refine cx_last C hO (a := 16) rfl hw.1 dX7_move_194 (fun H locs σ116 eσ116 hO => ?_)
      have hw := hw.2 σ116 eσ116
      obtain ⟨x10_117, ex10_117⟩ : ∃ y : Int32, y = x10 + 1 := ⟨_, rfl⟩
      have hw := hw x10_117 ex10_117
      refine lv_iinc (v := x10_117) (lv' := [(10, .int x10_117), (0, .ref (ad 0)), (1, .int x1), (2, .int x2), (3, .int x3), (4, .int x4), (5, .int x5), (6, .int x6), (7, .int x7)]) hx hb dX7_move_195 hl (k := 8) rfl (by rw [ex10_117]; rfl) (by decide) rfl (fun ls hl => ?_)
      refine lv_goto (tgt := 113) hx hb dX7_move_198 (by decide) ?_
      exact ih x1 x2 x3 x4 x5 x6 x7 x10_117 σ116 hw H locs ls hO (lv_sub hl [1, 2, 3, 4, 5, 6, 7, 8, 0] rfl)
set_option maxRecDepth 100000 in
set_option maxHeartbeats 4000000 in
theorem kc_X7_move_75 {p : Program} {l : Launch} {e : Env} {s : State} {m : MethodId} {args : Array Value} {below : List Frame} {meth : Method} {c : Code} {D : va_G} {y : Nat → ClassId} {ad t : Nat → Nat} {X : va_W} {A : Nat → Prop} {Q : Int32 → cS → Prop} (C : cC p s m args meth c cX7_move 11 (some .int) RX7 wsX7_move D y t A) (x1 : Int32) (x2 : Int32) (x3 : Int32) (x4 : Int32) (x5 : Int32) (x6 : Int32) (x7 : Int32) (z0 : Int32) (σ : cS) (hw : v_X7_move_75 Q x1 x2 x3 x4 x5 x6 x7 z0 σ) (H : Heap) (locs : List Loc) (ls : Array Slot) (hO : cO D y ad X A s.heap H locs σ) (hl : lv_has ls 11 [(0, .ref (ad 0)), (1, .int x1), (2, .int x2), (3, .int x3), (4, .int x4), (5, .int x5), (6, .int x6), (7, .int x7)]) : W p l e rc_X7_move s m args below meth c H locs 0 0 (MQ below (va_Qi Q (cB D y ad X A) A) args s 0 0 A) (F0 m 75 ls [.int z0]) := by
  obtain ⟨hx, hb, hr, hml, hown, hts, hlk, hK, hA, hTs, hNw⟩ := id C
  unfold v_X7_move_75 at hw
  refine lv_istore (lv' := [(8, .int z0), (0, .ref (ad 0)), (1, .int x1), (2, .int x2), (3, .int x3), (4, .int x4), (5, .int x5), (6, .int x6), (7, .int x7)]) hx hb dX7_move_75 hl (by decide) rfl (fun ls hl => ?_)
  refine lv_iload hx hb dX7_move_77 (lv_at hl 0 rfl) ?_
  refine lv_if_eq (tgt := 93) hx hb dX7_move_79 (by decide) (fun hc => ?_) (fun hc => ?_)
  · have hw := hw.1 hc
    exact kc_X7_move_93 C σ hw H locs ls hO (lv_sub hl [1] rfl)
  · have hw := hw.2 hc
    refine lv_iload_n hx hb dX7_move_82 rfl (lv_at hl 3 rfl) ?_
    refine lv_iload hx hb dX7_move_83 (lv_at hl 6 rfl) ?_
    refine lv_imul hx hb dX7_move_85 ?_
    refine lv_iload_n hx hb dX7_move_86 rfl (lv_at hl 4 rfl) ?_
    refine lv_iload hx hb dX7_move_87 (lv_at hl 5 rfl) ?_
    refine lv_imul hx hb dX7_move_89 ?_
    refine lv_icmp_ne (tgt := 95) hx hb dX7_move_90 (by decide) (fun hc => ?_) (fun hc => ?_)
    · have hw := hw.1 hc
      refine lv_aload_n hx hb dX7_move_95 rfl (lv_at hl 1 rfl) ?_
      refine lv_iload_n hx hb dX7_move_96 rfl (lv_at hl 2 rfl) ?_
      refine cx_civ C hO (cc_X7_missing l D y ad t X σ x1 _ hw) (by decide) rfl rfl (cwV 1 hts gX7_move_X7_missing rfl rfl rfl (by decide +kernel) ⟨Nat.le_of_ble_eq_true rfl, Nat.le_of_ble_eq_true rfl⟩) rfl hl.1 rfl (lv_room (Nat.le_of_ble_eq_true rfl)) dX7_move_97 (fun u101 σ102 H locs hw hO => ?_)
      refine lv_istore (lv' := [(9, .int u101), (8, .int z0), (0, .ref (ad 0)), (1, .int x1), (2, .int x2), (3, .int x3), (4, .int x4), (5, .int x5), (6, .int x6), (7, .int x7)]) hx hb dX7_move_100 hl (by decide) rfl (fun ls hl => ?_)
      refine lv_iload hx hb dX7_move_102 (lv_at hl 0 rfl) ?_
      refine lv_if_eq (tgt := 110) hx hb dX7_move_104 (by decide) (fun hc => ?_) (fun hc => ?_)
      · have hw := hw.1 hc
        refine lv_iconst (v := 0) hx hb dX7_move_110 (by decide) ?_
        refine lv_istore (lv' := [(10, .int ((0 : Int32))), (9, .int u101), (8, .int z0), (0, .ref (ad 0)), (1, .int x1), (2, .int x2), (3, .int x3), (4, .int x4), (5, .int x5), (6, .int x6), (7, .int x7)]) hx hb dX7_move_111 hl (by decide) rfl (fun ls hl => ?_)
        exact kc_X7_move_113 C fuL x1 x2 x3 x4 x5 x6 x7 ((0 : Int32)) σ102 hw H locs ls hO (lv_sub hl [3, 4, 5, 6, 7, 8, 9, 10, 0] rfl)
      · have hw := hw.2 hc
        refine lv_iload hx hb dX7_move_107 (lv_at hl 0 rfl) ?_
        exact cx_iret C hO hw dX7_move_109
    · have hw := hw.2 hc
      exact kc_X7_move_93 C σ hw H locs ls hO (lv_sub hl [1] rfl)
set_option maxRecDepth 100000 in
set_option maxHeartbeats 4000000 in
theorem kc_X7_move_74 {p : Program} {l : Launch} {e : Env} {s : State} {m : MethodId} {args : Array Value} {below : List Frame} {meth : Method} {c : Code} {D : va_G} {y : Nat → ClassId} {ad t : Nat → Nat} {X : va_W} {A : Nat → Prop} {Q : Int32 → cS → Prop} (C : cC p s m args meth c cX7_move 11 (some .int) RX7 wsX7_move D y t A) (x1 : Int32) (x2 : Int32) (x3 : Int32) (x4 : Int32) (x5 : Int32) (x6 : Int32) (x7 : Int32) (σ : cS) (hw : v_X7_move_74 Q x1 x2 x3 x4 x5 x6 x7 σ) (H : Heap) (locs : List Loc) (ls : Array Slot) (hO : cO D y ad X A s.heap H locs σ) (hl : lv_has ls 11 [(0, .ref (ad 0)), (1, .int x1), (2, .int x2), (3, .int x3), (4, .int x4), (5, .int x5), (6, .int x6), (7, .int x7)]) : W p l e rc_X7_move s m args below meth c H locs 0 0 (MQ below (va_Qi Q (cB D y ad X A) A) args s 0 0 A) (F0 m 74 ls []) := by
  obtain ⟨hx, hb, hr, hml, hown, hts, hlk, hK, hA, hTs, hNw⟩ := id C
  unfold v_X7_move_74 at hw
  refine lv_iconst (v := 0) hx hb dX7_move_74 (by decide) ?_
  exact kc_X7_move_75 C x1 x2 x3 x4 x5 x6 x7 ((0 : Int32)) σ hw H locs ls hO (lv_sub hl [0, 1, 2, 3, 4, 5, 6, 7] rfl)
set_option maxRecDepth 100000 in
set_option maxHeartbeats 4000000 in
theorem kc_X7_move_e {p : Program} {l : Launch} {e : Env} {s : State} {m : MethodId} {args : Array Value} {below : List Frame} {meth : Method} {c : Code} {D : va_G} {y : Nat → ClassId} {ad t : Nat → Nat} {X : va_W} {A : Nat → Prop} {Q : Int32 → cS → Prop} (C : cC p s m args meth c cX7_move 11 (some .int) RX7 wsX7_move D y t A) (x1 : Int32) (x2 : Int32) (x3 : Int32) (x4 : Int32) (x5 : Int32) (x6 : Int32) (x7 : Int32) (σ : cS) (hw : v_X7_move Q x1 x2 x3 x4 x5 x6 x7 σ) (H : Heap) (locs : List Loc) (ls : Array Slot) (hO : cO D y ad X A s.heap H locs σ) (hl : lv_has ls 11 [(0, .ref (ad 0)), (1, .int x1), (2, .int x2), (3, .int x3), (4, .int x4), (5, .int x5), (6, .int x6), (7, .int x7)]) : W p l e rc_X7_move s m args below meth c H locs 0 0 (MQ below (va_Qi Q (cB D y ad X A) A) args s 0 0 A) (F0 m 0 ls []) := by
  obtain ⟨hx, hb, hr, hml, hown, hts, hlk, hK, hA, hTs, hNw⟩ := id C
  unfold v_X7_move at hw
  refine lv_iload_n hx hb dX7_move_0 rfl (lv_at hl 2 rfl) ?_
  refine lv_bipush (v := -9) hx hb dX7_move_1 (by decide) ?_
  refine lv_bipush (v := 9) hx hb dX7_move_3 (by decide) ?_
  refine cx_cis C hO (cc_X7_within l D y ad t X σ x2 (-9 : Int32) (9 : Int32) _ hw) (va_cwS 3 hts gX7_move_X7_within rfl rfl rfl (by decide +kernel) ⟨Nat.le_of_ble_eq_true rfl, Nat.le_of_ble_eq_true rfl⟩) rfl hl.1 rfl (lv_room (Nat.le_of_ble_eq_true rfl)) dX7_move_5 (fun u101 σ102 H locs hw hO => ?_)
  refine lv_if_eq (tgt := 74) hx hb dX7_move_8 (by decide) (fun hc => ?_) (fun hc => ?_)
  · have hw := hw.1 hc
    exact kc_X7_move_74 C x1 x2 x3 x4 x5 x6 x7 σ102 hw H locs ls hO (lv_sub hl [0, 1, 2, 3, 4, 5, 6, 7] rfl)
  · have hw := hw.2 hc
    refine lv_iload_n hx hb dX7_move_11 rfl (lv_at hl 3 rfl) ?_
    refine lv_bipush (v := -9) hx hb dX7_move_12 (by decide) ?_
    refine lv_bipush (v := 9) hx hb dX7_move_14 (by decide) ?_
    refine cx_cis C hO (cc_X7_within l D y ad t X σ102 x3 (-9 : Int32) (9 : Int32) _ hw) (va_cwS 3 hts gX7_move_X7_within rfl rfl rfl (by decide +kernel) ⟨Nat.le_of_ble_eq_true rfl, Nat.le_of_ble_eq_true rfl⟩) rfl hl.1 rfl (lv_room (Nat.le_of_ble_eq_true rfl)) dX7_move_16 (fun u103 σ104 H locs hw hO => ?_)
    refine lv_if_eq (tgt := 74) hx hb dX7_move_19 (by decide) (fun hc => ?_) (fun hc => ?_)
    · have hw := hw.1 hc
      exact kc_X7_move_74 C x1 x2 x3 x4 x5 x6 x7 σ104 hw H locs ls hO (lv_sub hl [0, 1, 2, 3, 4, 5, 6, 7] rfl)
    · have hw := hw.2 hc
      refine lv_iload hx hb dX7_move_22 (lv_at hl 4 rfl) ?_
      refine lv_bipush (v := -9) hx hb dX7_move_24 (by decide) ?_
      refine lv_bipush (v := 9) hx hb dX7_move_26 (by decide) ?_
      refine cx_cis C hO (cc_X7_within l D y ad t X σ104 x4 (-9 : Int32) (9 : Int32) _ hw) (va_cwS 3 hts gX7_move_X7_within rfl rfl rfl (by decide +kernel) ⟨Nat.le_of_ble_eq_true rfl, Nat.le_of_ble_eq_true rfl⟩) rfl hl.1 rfl (lv_room (Nat.le_of_ble_eq_true rfl)) dX7_move_28 (fun u105 σ106 H locs hw hO => ?_)
      refine lv_if_eq (tgt := 74) hx hb dX7_move_31 (by decide) (fun hc => ?_) (fun hc => ?_)
      · have hw := hw.1 hc
        exact kc_X7_move_74 C x1 x2 x3 x4 x5 x6 x7 σ106 hw H locs ls hO (lv_sub hl [0, 1, 2, 3, 4, 5, 6, 7] rfl)
      · have hw := hw.2 hc
        refine lv_iload hx hb dX7_move_34 (lv_at hl 5 rfl) ?_
        refine lv_bipush (v := -9) hx hb dX7_move_36 (by decide) ?_
        refine lv_bipush (v := 9) hx hb dX7_move_38 (by decide) ?_
        refine cx_cis C hO (cc_X7_within l D y ad t X σ106 x5 (-9 : Int32) (9 : Int32) _ hw) (va_cwS 3 hts gX7_move_X7_within rfl rfl rfl (by decide +kernel) ⟨Nat.le_of_ble_eq_true rfl, Nat.le_of_ble_eq_true rfl⟩) rfl hl.1 rfl (lv_room (Nat.le_of_ble_eq_true rfl)) dX7_move_40 (fun u107 σ108 H locs hw hO => ?_)
        refine lv_if_eq (tgt := 74) hx hb dX7_move_43 (by decide) (fun hc => ?_) (fun hc => ?_)
        · have hw := hw.1 hc
          exact kc_X7_move_74 C x1 x2 x3 x4 x5 x6 x7 σ108 hw H locs ls hO (lv_sub hl [0, 1, 2, 3, 4, 5, 6, 7] rfl)
        · have hw := hw.2 hc
          refine lv_iload hx hb dX7_move_46 (lv_at hl 6 rfl) ?_
          refine lv_bipush (v := -9) hx hb dX7_move_48 (by decide) ?_
          refine lv_bipush (v := 9) hx hb dX7_move_50 (by decide) ?_
          refine cx_cis C hO (cc_X7_within l D y ad t X σ108 x6 (-9 : Int32) (9 : Int32) _ hw) (va_cwS 3 hts gX7_move_X7_within rfl rfl rfl (by decide +kernel) ⟨Nat.le_of_ble_eq_true rfl, Nat.le_of_ble_eq_true rfl⟩) rfl hl.1 rfl (lv_room (Nat.le_of_ble_eq_true rfl)) dX7_move_52 (fun u109 σ110 H locs hw hO => ?_)
          refine lv_if_eq (tgt := 74) hx hb dX7_move_55 (by decide) (fun hc => ?_) (fun hc => ?_)
          · have hw := hw.1 hc
            exact kc_X7_move_74 C x1 x2 x3 x4 x5 x6 x7 σ110 hw H locs ls hO (lv_sub hl [0, 1, 2, 3, 4, 5, 6, 7] rfl)
          · have hw := hw.2 hc
            refine lv_iload hx hb dX7_move_58 (lv_at hl 7 rfl) ?_
            refine lv_bipush (v := -9) hx hb dX7_move_60 (by decide) ?_
            refine lv_bipush (v := 9) hx hb dX7_move_62 (by decide) ?_
            refine cx_cis C hO (cc_X7_within l D y ad t X σ110 x7 (-9 : Int32) (9 : Int32) _ hw) (va_cwS 3 hts gX7_move_X7_within rfl rfl rfl (by decide +kernel) ⟨Nat.le_of_ble_eq_true rfl, Nat.le_of_ble_eq_true rfl⟩) rfl hl.1 rfl (lv_room (Nat.le_of_ble_eq_true rfl)) dX7_move_64 (fun u111 σ112 H locs hw hO => ?_)
            refine lv_if_eq (tgt := 74) hx hb dX7_move_67 (by decide) (fun hc => ?_) (fun hc => ?_)
            · have hw := hw.1 hc
              exact kc_X7_move_74 C x1 x2 x3 x4 x5 x6 x7 σ112 hw H locs ls hO (lv_sub hl [0, 1, 2, 3, 4, 5, 6, 7] rfl)
            · have hw := hw.2 hc
              refine lv_iconst (v := 1) hx hb dX7_move_70 (by decide) ?_
              refine lv_goto (tgt := 75) hx hb dX7_move_71 (by decide) ?_
              exact kc_X7_move_75 C x1 x2 x3 x4 x5 x6 x7 ((1 : Int32)) σ112 hw H locs ls hO (lv_sub hl [0, 1, 2, 3, 4, 5, 6, 7] rfl)
theorem cc_X7_move (l : Launch) (D : va_G) (y : Nat → ClassId) (ad t : Nat → Nat) (X : va_W) (σ : cS) (x1 : Int32) (x2 : Int32) (x3 : Int32) (x4 : Int32) (x5 : Int32) (x6 : Int32) (x7 : Int32) (Q : Int32 → cS → Prop) (hw : v_X7_move Q x1 x2 x3 x4 x5 x6 x7 σ) : ∀ sz, Met l yX7_move wsX7_move rc_X7_move (va_Pc [.ref (ad 0), .int x1, .int x2, .int x3, .int x4, .int x5, .int x6, .int x7] (cPre D y ad t X sz σ)) (va_Qi Q (cB D y ad X (va_A (cW y ad σ ++ X) sz)) (va_A (cW y ad σ ++ X) sz)) 0 0 (va_A (cW y ad σ ++ X) sz) :=
  cMet (Qc := fun A => va_Qi Q (cB D y ad X A) A) (by decide) (own := RX7) rfl (Nat.le_of_ble_eq_true rfl) (fun p e s m args below meth c A ls C hO hl => kc_X7_move_e C x1 x2 x3 x4 x5 x6 x7 σ hw s.heap [] ls hO hl)
abbrev rc_X7_copy : Room := { frames := 6, cells := 0, slots := 0, locals := 144 }
set_option maxRecDepth 100000 in
set_option maxHeartbeats 4000000 in
theorem kc_X7_copy_14 {p : Program} {l : Launch} {e : Env} {s : State} {m : MethodId} {args : Array Value} {below : List Frame} {meth : Method} {c : Code} {D : va_G} {y : Nat → ClassId} {ad t : Nat → Nat} {X : va_W} {A : Nat → Prop} {Q : Int32 → cS → Prop} (C : cC p s m args meth c cX7_copy 4 (some .int) RX7 wsX7_copy D y t A)  (σ : cS) (hw : v_X7_copy_14 Q σ) (H : Heap) (locs : List Loc) (ls : Array Slot) (hO : cO D y ad X A s.heap H locs σ) (hl : lv_has ls 4 [(0, .ref (ad 0))]) : W p l e rc_X7_copy s m args below meth c H locs 0 0 (MQ below (va_Qi Q (cB D y ad X A) A) args s 0 0 A) (F0 m 14 ls []) := by
  obtain ⟨hx, hb, hr, hml, hown, hts, hlk, hK, hA, hTs, hNw⟩ := id C
  unfold v_X7_copy_14 at hw
  refine lv_iconst (v := -1) hx hb dX7_copy_14 (by decide) ?_
  exact cx_iret C hO hw dX7_copy_15
set_option maxRecDepth 100000 in
set_option maxHeartbeats 4000000 in
theorem kc_X7_copy_e {p : Program} {l : Launch} {e : Env} {s : State} {m : MethodId} {args : Array Value} {below : List Frame} {meth : Method} {c : Code} {D : va_G} {y : Nat → ClassId} {ad t : Nat → Nat} {X : va_W} {A : Nat → Prop} {Q : Int32 → cS → Prop} (C : cC p s m args meth c cX7_copy 4 (some .int) RX7 wsX7_copy D y t A) (x1 : Int32) (x2 : Int32) (σ : cS) (hw : v_X7_copy Q x1 x2 σ) (H : Heap) (locs : List Loc) (ls : Array Slot) (hO : cO D y ad X A s.heap H locs σ) (hl : lv_has ls 4 [(0, .ref (ad 0)), (1, .int x1), (2, .int x2)]) : W p l e rc_X7_copy s m args below meth c H locs 0 0 (MQ below (va_Qi Q (cB D y ad X A) A) args s 0 0 A) (F0 m 0 ls []) := by
  obtain ⟨hx, hb, hr, hml, hown, hts, hlk, hK, hA, hTs, hNw⟩ := id C
  have hinX0 : ∀ w ∈ wsX00, w ∈ wsX7_copy := fun _ h => List.mem_cons_of_mem _ (List.mem_append_left _ (List.mem_append_right _ h))
  have hinX7 : ∀ w ∈ wsX70, w ∈ wsX7_copy := fun _ h => List.mem_cons_of_mem _ (List.mem_append_left _ (List.mem_append_left _ (List.mem_append_right _ h)))
  unfold v_X7_copy at hw
  refine lv_iload_n hx hb dX7_copy_0 rfl (lv_at hl 1 rfl) ?_
  refine cx_cis C hO (cc_X7_isLine l D y ad t X σ x1 _ hw) (va_cwS 1 hts gX7_copy_X7_isLine rfl rfl rfl (by decide +kernel) ⟨Nat.le_of_ble_eq_true rfl, Nat.le_of_ble_eq_true rfl⟩) rfl hl.1 rfl (lv_room (Nat.le_of_ble_eq_true rfl)) dX7_copy_1 (fun u101 σ102 H locs hw hO => ?_)
  refine lv_if_eq (tgt := 14) hx hb dX7_copy_4 (by decide) (fun hc => ?_) (fun hc => ?_)
  · have hw := hw.1 hc
    exact kc_X7_copy_14 C σ102 hw H locs ls hO (lv_sub hl [0] rfl)
  · have hw := hw.2 hc
    refine lv_iload_n hx hb dX7_copy_7 rfl (lv_at hl 2 rfl) ?_
    refine cx_cis C hO (cc_X7_isLine l D y ad t X σ102 x2 _ hw) (va_cwS 1 hts gX7_copy_X7_isLine rfl rfl rfl (by decide +kernel) ⟨Nat.le_of_ble_eq_true rfl, Nat.le_of_ble_eq_true rfl⟩) rfl hl.1 rfl (lv_room (Nat.le_of_ble_eq_true rfl)) dX7_copy_8 (fun u103 σ104 H locs hw hO => ?_)
    refine lv_if_ne (tgt := 16) hx hb dX7_copy_11 (by decide) (fun hc => ?_) (fun hc => ?_)
    · have hw := hw.1 hc
      refine lv_aload_n hx hb dX7_copy_16 rfl (lv_at hl 0 rfl) ?_
      refine lv_iload_n hx hb dX7_copy_17 rfl (lv_at hl 1 rfl) ?_
      refine cx_civ C hO (cc_X7_missing l D y ad t X σ104 x1 _ hw) (by decide) rfl rfl (cwV 1 hts gX7_copy_X7_missing rfl rfl rfl (by decide +kernel) ⟨Nat.le_of_ble_eq_true rfl, Nat.le_of_ble_eq_true rfl⟩) rfl hl.1 rfl (lv_room (Nat.le_of_ble_eq_true rfl)) dX7_copy_18 (fun u105 σ106 H locs hw hO => ?_)
      refine lv_istore_n (lv' := [(3, .int u105), (0, .ref (ad 0)), (1, .int x1), (2, .int x2)]) hx hb dX7_copy_21 rfl hl (by decide) rfl (fun ls hl => ?_)
      refine lv_iload_n hx hb dX7_copy_22 rfl (lv_at hl 0 rfl) ?_
      refine lv_if_eq (tgt := 28) hx hb dX7_copy_23 (by decide) (fun hc => ?_) (fun hc => ?_)
      · have hw := hw.1 hc
        refine lv_aload_n hx hb dX7_copy_28 rfl (lv_at hl 1 rfl) ?_
        refine cx_get C hO (by decide) rfl rfl hinX7 1 (by decide) (idx := 18) (by decide +kernel) rfl rfl dX7_copy_29 ?_
        refine lv_iload_n hx hb dX7_copy_32 rfl (lv_at hl 2 rfl) ?_
        refine cx_aaL C hO hw.1 dX7_copy_33 (fun o107 eo107 ho107 => ?_)
        have hw := hw.2 o107 eo107
        refine cx_get C hO (cL_lt ho107).1 (cE_L ho107) rfl hinX0 0 (by decide) (idx := 171) (by decide +kernel) rfl rfl dX7_copy_34 ?_
        refine lv_iconst (v := 0) hx hb dX7_copy_37 (by decide) ?_
        refine lv_aload_n hx hb dX7_copy_38 rfl (lv_at hl 1 rfl) ?_
        refine cx_get C hO (by decide) rfl rfl hinX7 5 (by decide) (idx := 42) (by decide +kernel) rfl rfl dX7_copy_39 ?_
        refine lv_iconst (v := 0) hx hb dX7_copy_42 (by decide) ?_
        refine lv_bipush (v := 12) hx hb dX7_copy_43 (by decide) ?_
        refine cx_copy C hO (a0 := (o107 + 1)) (a := 16) ((cL_J ho107).1) rfl (by decide +kernel) hw.1.1 hw.1.2.1 hw.1.2.2.1 hw.1.2.2.2.1 hw.1.2.2.2.2 (Nat.le_of_ble_eq_true rfl) (Nat.le_of_ble_eq_true rfl) hl.1 dX7_copy_45 (fun H locs σ108 eσ108 hO => ?_)
        have hw := hw.2 σ108 eσ108
        refine lv_aload_n hx hb dX7_copy_48 rfl (lv_at hl 1 rfl) ?_
        refine lv_iload_n hx hb dX7_copy_49 rfl (lv_at hl 3 rfl) ?_
        refine cx_civ C hO (cc_X7_settle l D y ad t X σ108 x2 _ hw) (by decide) rfl rfl (cwV 1 hts gX7_copy_X7_settle rfl rfl rfl (by decide +kernel) ⟨Nat.le_of_ble_eq_true rfl, Nat.le_of_ble_eq_true rfl⟩) rfl hl.1 rfl (lv_room (Nat.le_of_ble_eq_true rfl)) dX7_copy_50 (fun u109 σ110 H locs hw hO => ?_)
        exact cx_iret C hO hw dX7_copy_53
      · have hw := hw.2 hc
        refine lv_iload_n hx hb dX7_copy_26 rfl (lv_at hl 0 rfl) ?_
        exact cx_iret C hO hw dX7_copy_27
    · have hw := hw.2 hc
      exact kc_X7_copy_14 C σ104 hw H locs ls hO (lv_sub hl [0] rfl)
theorem cc_X7_copy (l : Launch) (D : va_G) (y : Nat → ClassId) (ad t : Nat → Nat) (X : va_W) (σ : cS) (x1 : Int32) (x2 : Int32) (Q : Int32 → cS → Prop) (hw : v_X7_copy Q x1 x2 σ) : ∀ sz, Met l yX7_copy wsX7_copy rc_X7_copy (va_Pc [.ref (ad 0), .int x1, .int x2] (cPre D y ad t X sz σ)) (va_Qi Q (cB D y ad X (va_A (cW y ad σ ++ X) sz)) (va_A (cW y ad σ ++ X) sz)) 0 0 (va_A (cW y ad σ ++ X) sz) :=
  cMet (Qc := fun A => va_Qi Q (cB D y ad X A) A) (by decide) (own := RX7) rfl (Nat.le_of_ble_eq_true rfl) (fun p e s m args below meth c A ls C hO hl => kc_X7_copy_e C x1 x2 σ hw s.heap [] ls hO hl)
abbrev rc_X7_isSheet : Room := { frames := 1, cells := 0, slots := 0, locals := 22 }
set_option maxRecDepth 100000 in
set_option maxHeartbeats 4000000 in
theorem kc_X7_isSheet_e {p : Program} {l : Launch} {e : Env} {s : State} {m : MethodId} {args : Array Value} {below : List Frame} {meth : Method} {c : Code} {D : va_G} {y : Nat → ClassId} {ad t : Nat → Nat} {X : va_W} {A : Nat → Prop} {Q : Int32 → cS → Prop} (C : cC p s m args meth c cX7_isSheet 1 (some .boolean) RX7 wsX7_isSheet D y t A) (x0 : Int32) (σ : cS) (hw : v_X7_isSheet Q x0 σ) (H : Heap) (locs : List Loc) (ls : Array Slot) (hO : cO D y ad X A s.heap H locs σ) (hl : lv_has ls 1 [(0, .int x0)]) : W p l e rc_X7_isSheet s m args below meth c H locs 0 0 (MQ below (va_Qi Q (cB D y ad X A) A) args s 0 0 A) (F0 m 0 ls []) := by
  obtain ⟨hx, hb, hr, hml, hown, hts, hlk, hK, hA, hTs, hNw⟩ := id C
  unfold v_X7_isSheet at hw
  refine lv_iload_n hx hb dX7_isSheet_0 rfl (lv_at hl 0 rfl) ?_
  refine lv_iconst (v := 0) hx hb dX7_isSheet_1 (by decide) ?_
  refine lv_iconst (v := 3) hx hb dX7_isSheet_2 (by decide) ?_
  refine cx_cis C hO (cc_X7_within l D y ad t X σ x0 (0 : Int32) (3 : Int32) _ hw) (va_cwS 3 hts gX7_isSheet_X7_within rfl rfl rfl (by decide +kernel) ⟨Nat.le_of_ble_eq_true rfl, Nat.le_of_ble_eq_true rfl⟩) rfl hl.1 rfl (lv_room (Nat.le_of_ble_eq_true rfl)) dX7_isSheet_3 (fun u101 σ102 H locs hw hO => ?_)
  exact cx_zret C hO hw.1 hw.2 dX7_isSheet_6
theorem cc_X7_isSheet (l : Launch) (D : va_G) (y : Nat → ClassId) (ad t : Nat → Nat) (X : va_W) (σ : cS) (x0 : Int32) (Q : Int32 → cS → Prop) (hw : v_X7_isSheet Q x0 σ) : ∀ sz, Met l yX7_isSheet wsX7_isSheet rc_X7_isSheet (va_Pc [.int x0] (cPre D y ad t X sz σ)) (va_Qi Q (cB D y ad X (va_A (cW y ad σ ++ X) sz)) (va_A (cW y ad σ ++ X) sz)) 0 0 (va_A (cW y ad σ ++ X) sz) :=
  cMet (Qc := fun A => va_Qi Q (cB D y ad X A) A) (by decide) (own := RX7) rfl (Nat.le_of_ble_eq_true rfl) (fun p e s m args below meth c A ls C hO hl => kc_X7_isSheet_e C x0 σ hw s.heap [] ls hO hl)
abbrev rc_X7_isLane : Room := { frames := 1, cells := 0, slots := 0, locals := 22 }
set_option maxRecDepth 100000 in
set_option maxHeartbeats 4000000 in
theorem kc_X7_isLane_e {p : Program} {l : Launch} {e : Env} {s : State} {m : MethodId} {args : Array Value} {below : List Frame} {meth : Method} {c : Code} {D : va_G} {y : Nat → ClassId} {ad t : Nat → Nat} {X : va_W} {A : Nat → Prop} {Q : Int32 → cS → Prop} (C : cC p s m args meth c cX7_isLane 1 (some .boolean) RX7 wsX7_isLane D y t A) (x0 : Int32) (σ : cS) (hw : v_X7_isLane Q x0 σ) (H : Heap) (locs : List Loc) (ls : Array Slot) (hO : cO D y ad X A s.heap H locs σ) (hl : lv_has ls 1 [(0, .int x0)]) : W p l e rc_X7_isLane s m args below meth c H locs 0 0 (MQ below (va_Qi Q (cB D y ad X A) A) args s 0 0 A) (F0 m 0 ls []) := by
  obtain ⟨hx, hb, hr, hml, hown, hts, hlk, hK, hA, hTs, hNw⟩ := id C
  unfold v_X7_isLane at hw
  refine lv_iload_n hx hb dX7_isLane_0 rfl (lv_at hl 0 rfl) ?_
  refine lv_iconst (v := 0) hx hb dX7_isLane_1 (by decide) ?_
  refine lv_iconst (v := 2) hx hb dX7_isLane_2 (by decide) ?_
  refine cx_cis C hO (cc_X7_within l D y ad t X σ x0 (0 : Int32) (2 : Int32) _ hw) (va_cwS 3 hts gX7_isLane_X7_within rfl rfl rfl (by decide +kernel) ⟨Nat.le_of_ble_eq_true rfl, Nat.le_of_ble_eq_true rfl⟩) rfl hl.1 rfl (lv_room (Nat.le_of_ble_eq_true rfl)) dX7_isLane_3 (fun u101 σ102 H locs hw hO => ?_)
  exact cx_zret C hO hw.1 hw.2 dX7_isLane_6
theorem cc_X7_isLane (l : Launch) (D : va_G) (y : Nat → ClassId) (ad t : Nat → Nat) (X : va_W) (σ : cS) (x0 : Int32) (Q : Int32 → cS → Prop) (hw : v_X7_isLane Q x0 σ) : ∀ sz, Met l yX7_isLane wsX7_isLane rc_X7_isLane (va_Pc [.int x0] (cPre D y ad t X sz σ)) (va_Qi Q (cB D y ad X (va_A (cW y ad σ ++ X) sz)) (va_A (cW y ad σ ++ X) sz)) 0 0 (va_A (cW y ad σ ++ X) sz) :=
  cMet (Qc := fun A => va_Qi Q (cB D y ad X A) A) (by decide) (own := RX7) rfl (Nat.le_of_ble_eq_true rfl) (fun p e s m args below meth c A ls C hO hl => kc_X7_isLane_e C x0 σ hw s.heap [] ls hO hl)
abbrev rc_X7_sheet : Room := { frames := 2, cells := 0, slots := 0, locals := 42 }
set_option maxRecDepth 100000 in
set_option maxHeartbeats 4000000 in
theorem kc_X7_sheet_20 {p : Program} {l : Launch} {e : Env} {s : State} {m : MethodId} {args : Array Value} {below : List Frame} {meth : Method} {c : Code} {D : va_G} {y : Nat → ClassId} {ad t : Nat → Nat} {X : va_W} {A : Nat → Prop} {Q : Int32 → cS → Prop} (C : cC p s m args meth c cX7_sheet 5 (some .int) RX7 wsX7_sheet D y t A)  (σ : cS) (hw : v_X7_sheet_20 Q σ) (H : Heap) (locs : List Loc) (ls : Array Slot) (hO : cO D y ad X A s.heap H locs σ) (hl : lv_has ls 5 [(0, .ref (ad 0))]) : W p l e rc_X7_sheet s m args below meth c H locs 0 0 (MQ below (va_Qi Q (cB D y ad X A) A) args s 0 0 A) (F0 m 20 ls []) := by
  obtain ⟨hx, hb, hr, hml, hown, hts, hlk, hK, hA, hTs, hNw⟩ := id C
  unfold v_X7_sheet_20 at hw
  refine lv_iconst (v := -1) hx hb dX7_sheet_20 (by decide) ?_
  exact cx_iret C hO hw dX7_sheet_21
set_option maxRecDepth 100000 in
set_option maxHeartbeats 4000000 in
theorem kc_X7_sheet_e {p : Program} {l : Launch} {e : Env} {s : State} {m : MethodId} {args : Array Value} {below : List Frame} {meth : Method} {c : Code} {D : va_G} {y : Nat → ClassId} {ad t : Nat → Nat} {X : va_W} {A : Nat → Prop} {Q : Int32 → cS → Prop} (C : cC p s m args meth c cX7_sheet 5 (some .int) RX7 wsX7_sheet D y t A) (x1 : Int32) (x2 : Int32) (x3 : Int32) (σ : cS) (hw : v_X7_sheet Q x1 x2 x3 σ) (H : Heap) (locs : List Loc) (ls : Array Slot) (hO : cO D y ad X A s.heap H locs σ) (hl : lv_has ls 5 [(0, .ref (ad 0)), (1, .int x1), (2, .int x2), (3, .int x3)]) : W p l e rc_X7_sheet s m args below meth c H locs 0 0 (MQ below (va_Qi Q (cB D y ad X A) A) args s 0 0 A) (F0 m 0 ls []) := by
  obtain ⟨hx, hb, hr, hml, hown, hts, hlk, hK, hA, hTs, hNw⟩ := id C
  have hinX3 : ∀ w ∈ wsX30, w ∈ wsX7_sheet := fun _ h => List.mem_cons_of_mem _ (List.mem_append_right _ h)
  have hinX7 : ∀ w ∈ wsX70, w ∈ wsX7_sheet := fun _ h => List.mem_cons_of_mem _ (List.mem_append_left _ (List.mem_append_right _ h))
  unfold v_X7_sheet at hw
  refine lv_iload_n hx hb dX7_sheet_0 rfl (lv_at hl 1 rfl) ?_
  refine cx_cis C hO (cc_X7_isSheet l D y ad t X σ x1 _ hw) (va_cwS 1 hts gX7_sheet_X7_isSheet rfl rfl rfl (by decide +kernel) ⟨Nat.le_of_ble_eq_true rfl, Nat.le_of_ble_eq_true rfl⟩) rfl hl.1 rfl (lv_room (Nat.le_of_ble_eq_true rfl)) dX7_sheet_1 (fun u101 σ102 H locs hw hO => ?_)
  refine lv_if_eq (tgt := 20) hx hb dX7_sheet_4 (by decide) (fun hc => ?_) (fun hc => ?_)
  · have hw := hw.1 hc
    exact kc_X7_sheet_20 C σ102 hw H locs ls hO (lv_sub hl [0] rfl)
  · have hw := hw.2 hc
    refine lv_iload_n hx hb dX7_sheet_7 rfl (lv_at hl 2 rfl) ?_
    refine cx_cis C hO (cc_X7_isLane l D y ad t X σ102 x2 _ hw) (va_cwS 1 hts gX7_sheet_X7_isLane rfl rfl rfl (by decide +kernel) ⟨Nat.le_of_ble_eq_true rfl, Nat.le_of_ble_eq_true rfl⟩) rfl hl.1 rfl (lv_room (Nat.le_of_ble_eq_true rfl)) dX7_sheet_8 (fun u103 σ104 H locs hw hO => ?_)
    refine lv_if_eq (tgt := 20) hx hb dX7_sheet_11 (by decide) (fun hc => ?_) (fun hc => ?_)
    · have hw := hw.1 hc
      exact kc_X7_sheet_20 C σ104 hw H locs ls hO (lv_sub hl [0] rfl)
    · have hw := hw.2 hc
      refine lv_iload_n hx hb dX7_sheet_14 rfl (lv_at hl 3 rfl) ?_
      refine lv_bipush (v := 20) hx hb dX7_sheet_15 (by decide) ?_
      refine lv_icmp_le (tgt := 22) hx hb dX7_sheet_17 (by decide) (fun hc => ?_) (fun hc => ?_)
      · have hw := hw.1 hc
        refine lv_iload_n hx hb dX7_sheet_22 rfl (lv_at hl 3 rfl) ?_
        refine lv_if_ge (tgt := 29) hx hb dX7_sheet_23 (by decide) (fun hc => ?_) (fun hc => ?_)
        · have hw := hw.1 hc
          refine lv_aload_n hx hb dX7_sheet_29 rfl (lv_at hl 0 rfl) ?_
          refine cx_get C hO (by decide) rfl rfl hinX7 2 (by decide) (idx := 24) (by decide +kernel) rfl rfl dX7_sheet_30 ?_
          refine lv_iload_n hx hb dX7_sheet_33 rfl (lv_at hl 1 rfl) ?_
          refine cx_aaR C hO hw.1 dX7_sheet_34 (fun o105 eo105 ho105 => ?_)
          have hw := hw.2 o105 eo105
          refine lv_astore (lv' := [(4, .ref (ad o105)), (0, .ref (ad 0)), (1, .int x1), (2, .int x2), (3, .int x3)]) hx hb dX7_sheet_35 hl (by decide) rfl (fun ls hl => ?_)
          refine lv_aload hx hb dX7_sheet_37 (lv_at hl 0 rfl) ?_
          refine lv_iload_n hx hb dX7_sheet_39 rfl (lv_at hl 3 rfl) ?_
          refine cx_put C hO (ty := .int) (cR_lt ho105).1 (cE_R ho105) rfl hinX3 tyX3 tyX3_ok nmX3 1 (by decide) (idx := 203) (by decide +kernel) rfl rfl (by decide +kernel) rfl rfl (Nat.le_of_ble_eq_true rfl) (cW_FR ho105 (by decide)) dX7_sheet_40 (fun H locs σ106 eσ106 hO => ?_)
          have hw := hw σ106 eσ106
          refine lv_aload hx hb dX7_sheet_43 (lv_at hl 0 rfl) ?_
          refine lv_iload_n hx hb dX7_sheet_45 rfl (lv_at hl 4 rfl) ?_
          refine cx_put C hO (ty := .int) (cR_lt ho105).1 (cE_R ho105) rfl hinX3 tyX3 tyX3_ok nmX3 2 (by decide) (idx := 206) (by decide +kernel) rfl rfl (by decide +kernel) rfl rfl (Nat.le_of_ble_eq_true rfl) (cW_FR ho105 (by decide)) dX7_sheet_46 (fun H locs σ107 eσ107 hO => ?_)
          have hw := hw σ107 eσ107
          refine lv_aload hx hb dX7_sheet_49 (lv_at hl 0 rfl) ?_
          refine cx_get C hO (cR_lt ho105).1 (cE_R ho105) rfl hinX3 0 (by decide) (idx := 208) (by decide +kernel) rfl rfl dX7_sheet_51 ?_
          refine lv_lconst (v := 0) hx hb dX7_sheet_54 (by decide) ?_
          refine cx_cvs C hO (cc_J7_fill_d0a16 l D y ad t X σ107 (o105 + 1) (0 : Int64) (cR_J ho105) _ hw) (va_cwS 2 hts gX7_sheet_J7_fill_d0a16 rfl rfl rfl (by decide +kernel) ⟨Nat.le_of_ble_eq_true rfl, Nat.le_of_ble_eq_true rfl⟩) rfl hl.1 rfl (lv_room (Nat.le_of_ble_eq_true rfl)) dX7_sheet_55 (fun σ109 H locs hw hO => ?_)
          refine lv_iload_n hx hb dX7_sheet_58 rfl (lv_at hl 4 rfl) ?_
          exact cx_iret C hO hw dX7_sheet_59
        · have hw := hw.2 hc
          refine lv_bipush (v := -14) hx hb dX7_sheet_26 (by decide) ?_
          exact cx_iret C hO hw dX7_sheet_28
      · have hw := hw.2 hc
        exact kc_X7_sheet_20 C σ104 hw H locs ls hO (lv_sub hl [0] rfl)
theorem cc_X7_sheet (l : Launch) (D : va_G) (y : Nat → ClassId) (ad t : Nat → Nat) (X : va_W) (σ : cS) (x1 : Int32) (x2 : Int32) (x3 : Int32) (Q : Int32 → cS → Prop) (hw : v_X7_sheet Q x1 x2 x3 σ) : ∀ sz, Met l yX7_sheet wsX7_sheet rc_X7_sheet (va_Pc [.ref (ad 0), .int x1, .int x2, .int x3] (cPre D y ad t X sz σ)) (va_Qi Q (cB D y ad X (va_A (cW y ad σ ++ X) sz)) (va_A (cW y ad σ ++ X) sz)) 0 0 (va_A (cW y ad σ ++ X) sz) :=
  cMet (Qc := fun A => va_Qi Q (cB D y ad X A) A) (by decide) (own := RX7) rfl (Nat.le_of_ble_eq_true rfl) (fun p e s m args below meth c A ls C hO hl => kc_X7_sheet_e C x1 x2 x3 σ hw s.heap [] ls hO hl)
abbrev rc_X7_away : Room := { frames := 2, cells := 0, slots := 0, locals := 42 }
set_option maxRecDepth 100000 in
set_option maxHeartbeats 4000000 in
theorem kc_X7_away_e {p : Program} {l : Launch} {e : Env} {s : State} {m : MethodId} {args : Array Value} {below : List Frame} {meth : Method} {c : Code} {D : va_G} {y : Nat → ClassId} {ad t : Nat → Nat} {X : va_W} {A : Nat → Prop} {Q : Int32 → cS → Prop} (C : cC p s m args meth c cX7_away 3 (some .int) RX7 wsX7_away D y t A) (x1 : Int32) (σ : cS) (hw : v_X7_away Q x1 σ) (H : Heap) (locs : List Loc) (ls : Array Slot) (hO : cO D y ad X A s.heap H locs σ) (hl : lv_has ls 3 [(0, .ref (ad 0)), (1, .int x1)]) : W p l e rc_X7_away s m args below meth c H locs 0 0 (MQ below (va_Qi Q (cB D y ad X A) A) args s 0 0 A) (F0 m 0 ls []) := by
  obtain ⟨hx, hb, hr, hml, hown, hts, hlk, hK, hA, hTs, hNw⟩ := id C
  have hinX3 : ∀ w ∈ wsX30, w ∈ wsX7_away := fun _ h => List.mem_cons_of_mem _ (List.mem_append_right _ h)
  have hinX7 : ∀ w ∈ wsX70, w ∈ wsX7_away := fun _ h => List.mem_cons_of_mem _ (List.mem_append_left _ (List.mem_append_right _ h))
  unfold v_X7_away at hw
  refine lv_iload_n hx hb dX7_away_0 rfl (lv_at hl 1 rfl) ?_
  refine cx_cis C hO (cc_X7_isSheet l D y ad t X σ x1 _ hw) (va_cwS 1 hts gX7_away_X7_isSheet rfl rfl rfl (by decide +kernel) ⟨Nat.le_of_ble_eq_true rfl, Nat.le_of_ble_eq_true rfl⟩) rfl hl.1 rfl (lv_room (Nat.le_of_ble_eq_true rfl)) dX7_away_1 (fun u101 σ102 H locs hw hO => ?_)
  refine lv_if_ne (tgt := 9) hx hb dX7_away_4 (by decide) (fun hc => ?_) (fun hc => ?_)
  · have hw := hw.1 hc
    refine lv_aload_n hx hb dX7_away_9 rfl (lv_at hl 0 rfl) ?_
    refine cx_get C hO (by decide) rfl rfl hinX7 2 (by decide) (idx := 24) (by decide +kernel) rfl rfl dX7_away_10 ?_
    refine lv_iload_n hx hb dX7_away_13 rfl (lv_at hl 1 rfl) ?_
    refine cx_aaR C hO hw.1 dX7_away_14 (fun o103 eo103 ho103 => ?_)
    have hw := hw.2 o103 eo103
    refine lv_astore_n (lv' := [(2, .ref (ad o103)), (0, .ref (ad 0)), (1, .int x1)]) hx hb dX7_away_15 rfl hl (by decide) rfl (fun ls hl => ?_)
    refine lv_aload_n hx hb dX7_away_16 rfl (lv_at hl 0 rfl) ?_
    refine cx_get C hO (cR_lt ho103).1 (cE_R ho103) rfl hinX3 1 (by decide) (idx := 203) (by decide +kernel) rfl rfl dX7_away_17 ?_
    refine lv_iconst (v := -1) hx hb dX7_away_20 (by decide) ?_
    refine lv_icmp_ne (tgt := 27) hx hb dX7_away_21 (by decide) (fun hc => ?_) (fun hc => ?_)
    · have hw := hw.1 hc
      refine lv_aload_n hx hb dX7_away_27 rfl (lv_at hl 0 rfl) ?_
      refine lv_iconst (v := -1) hx hb dX7_away_28 (by decide) ?_
      refine cx_put C hO (ty := .int) (cR_lt ho103).1 (cE_R ho103) rfl hinX3 tyX3 tyX3_ok nmX3 1 (by decide) (idx := 203) (by decide +kernel) rfl rfl (by decide +kernel) rfl rfl (Nat.le_of_ble_eq_true rfl) (cW_FR ho103 (by decide)) dX7_away_29 (fun H locs σ104 eσ104 hO => ?_)
      have hw := hw σ104 eσ104
      refine lv_aload_n hx hb dX7_away_32 rfl (lv_at hl 0 rfl) ?_
      refine cx_get C hO (cR_lt ho103).1 (cE_R ho103) rfl hinX3 2 (by decide) (idx := 206) (by decide +kernel) rfl rfl dX7_away_33 ?_
      exact cx_iret C hO hw dX7_away_36
    · have hw := hw.2 hc
      refine lv_bipush (v := -11) hx hb dX7_away_24 (by decide) ?_
      exact cx_iret C hO hw dX7_away_26
  · have hw := hw.2 hc
    refine lv_iconst (v := -1) hx hb dX7_away_7 (by decide) ?_
    exact cx_iret C hO hw dX7_away_8
theorem cc_X7_away (l : Launch) (D : va_G) (y : Nat → ClassId) (ad t : Nat → Nat) (X : va_W) (σ : cS) (x1 : Int32) (Q : Int32 → cS → Prop) (hw : v_X7_away Q x1 σ) : ∀ sz, Met l yX7_away wsX7_away rc_X7_away (va_Pc [.ref (ad 0), .int x1] (cPre D y ad t X sz σ)) (va_Qi Q (cB D y ad X (va_A (cW y ad σ ++ X) sz)) (va_A (cW y ad σ ++ X) sz)) 0 0 (va_A (cW y ad σ ++ X) sz) :=
  cMet (Qc := fun A => va_Qi Q (cB D y ad X A) A) (by decide) (own := RX7) rfl (Nat.le_of_ble_eq_true rfl) (fun p e s m args below meth c A ls C hO hl => kc_X7_away_e C x1 σ hw s.heap [] ls hO hl)
abbrev rc_X7_unfit : Room := { frames := 2, cells := 0, slots := 0, locals := 42 }
set_option maxRecDepth 100000 in
set_option maxHeartbeats 4000000 in
theorem kc_X7_unfit_14 {p : Program} {l : Launch} {e : Env} {s : State} {m : MethodId} {args : Array Value} {below : List Frame} {meth : Method} {c : Code} {D : va_G} {y : Nat → ClassId} {ad t : Nat → Nat} {X : va_W} {A : Nat → Prop} {Q : Int32 → cS → Prop} (C : cC p s m args meth c cX7_unfit 6 (some .int) RX7 wsX7_unfit D y t A)  (σ : cS) (hw : v_X7_unfit_14 Q σ) (H : Heap) (locs : List Loc) (ls : Array Slot) (hO : cO D y ad X A s.heap H locs σ) (hl : lv_has ls 6 [(0, .ref (ad 0))]) : W p l e rc_X7_unfit s m args below meth c H locs 0 0 (MQ below (va_Qi Q (cB D y ad X A) A) args s 0 0 A) (F0 m 14 ls []) := by
  obtain ⟨hx, hb, hr, hml, hown, hts, hlk, hK, hA, hTs, hNw⟩ := id C
  unfold v_X7_unfit_14 at hw
  refine lv_iconst (v := -1) hx hb dX7_unfit_14 (by decide) ?_
  exact cx_iret C hO hw dX7_unfit_15
set_option maxRecDepth 100000 in
set_option maxHeartbeats 4000000 in
theorem kc_X7_unfit_70 {p : Program} {l : Launch} {e : Env} {s : State} {m : MethodId} {args : Array Value} {below : List Frame} {meth : Method} {c : Code} {D : va_G} {y : Nat → ClassId} {ad t : Nat → Nat} {X : va_W} {A : Nat → Prop} {Q : Int32 → cS → Prop} (C : cC p s m args meth c cX7_unfit 6 (some .int) RX7 wsX7_unfit D y t A) (z0 : Int32) (σ : cS) (hw : v_X7_unfit_70 Q z0 σ) (H : Heap) (locs : List Loc) (ls : Array Slot) (hO : cO D y ad X A s.heap H locs σ) (hl : lv_has ls 6 [(0, .ref (ad 0))]) : W p l e rc_X7_unfit s m args below meth c H locs 0 0 (MQ below (va_Qi Q (cB D y ad X A) A) args s 0 0 A) (F0 m 70 ls [.int z0]) := by
  obtain ⟨hx, hb, hr, hml, hown, hts, hlk, hK, hA, hTs, hNw⟩ := id C
  unfold v_X7_unfit_70 at hw
  exact cx_iret C hO hw dX7_unfit_70
set_option maxRecDepth 100000 in
set_option maxHeartbeats 4000000 in
theorem kc_X7_unfit_e {p : Program} {l : Launch} {e : Env} {s : State} {m : MethodId} {args : Array Value} {below : List Frame} {meth : Method} {c : Code} {D : va_G} {y : Nat → ClassId} {ad t : Nat → Nat} {X : va_W} {A : Nat → Prop} {Q : Int32 → cS → Prop} (C : cC p s m args meth c cX7_unfit 6 (some .int) RX7 wsX7_unfit D y t A) (x1 : Int32) (x2 : Int32) (x3 : Int32) (x4 : Int32) (σ : cS) (hw : v_X7_unfit Q x1 x2 x3 x4 σ) (H : Heap) (locs : List Loc) (ls : Array Slot) (hO : cO D y ad X A s.heap H locs σ) (hl : lv_has ls 6 [(0, .ref (ad 0)), (1, .int x1), (2, .int x2), (3, .int x3), (4, .int x4)]) : W p l e rc_X7_unfit s m args below meth c H locs 0 0 (MQ below (va_Qi Q (cB D y ad X A) A) args s 0 0 A) (F0 m 0 ls []) := by
  obtain ⟨hx, hb, hr, hml, hown, hts, hlk, hK, hA, hTs, hNw⟩ := id C
  have hinX3 : ∀ w ∈ wsX30, w ∈ wsX7_unfit := fun _ h => List.mem_cons_of_mem _ (List.mem_append_right _ h)
  have hinX7 : ∀ w ∈ wsX70, w ∈ wsX7_unfit := fun _ h => List.mem_cons_of_mem _ (List.mem_append_left _ (List.mem_append_right _ h))
  unfold v_X7_unfit at hw
  refine lv_iload_n hx hb dX7_unfit_0 rfl (lv_at hl 1 rfl) ?_
  refine cx_cis C hO (cc_X7_isSheet l D y ad t X σ x1 _ hw) (va_cwS 1 hts gX7_unfit_X7_isSheet rfl rfl rfl (by decide +kernel) ⟨Nat.le_of_ble_eq_true rfl, Nat.le_of_ble_eq_true rfl⟩) rfl hl.1 rfl (lv_room (Nat.le_of_ble_eq_true rfl)) dX7_unfit_1 (fun u101 σ102 H locs hw hO => ?_)
  refine lv_if_eq (tgt := 14) hx hb dX7_unfit_4 (by decide) (fun hc => ?_) (fun hc => ?_)
  · have hw := hw.1 hc
    exact kc_X7_unfit_14 C σ102 hw H locs ls hO (lv_sub hl [0] rfl)
  · have hw := hw.2 hc
    refine lv_iload_n hx hb dX7_unfit_7 rfl (lv_at hl 2 rfl) ?_
    refine cx_cis C hO (cc_X7_isLane l D y ad t X σ102 x2 _ hw) (va_cwS 1 hts gX7_unfit_X7_isLane rfl rfl rfl (by decide +kernel) ⟨Nat.le_of_ble_eq_true rfl, Nat.le_of_ble_eq_true rfl⟩) rfl hl.1 rfl (lv_room (Nat.le_of_ble_eq_true rfl)) dX7_unfit_8 (fun u103 σ104 H locs hw hO => ?_)
    refine lv_if_ne (tgt := 16) hx hb dX7_unfit_11 (by decide) (fun hc => ?_) (fun hc => ?_)
    · have hw := hw.1 hc
      refine lv_aload_n hx hb dX7_unfit_16 rfl (lv_at hl 0 rfl) ?_
      refine cx_get C hO (by decide) rfl rfl hinX7 2 (by decide) (idx := 24) (by decide +kernel) rfl rfl dX7_unfit_17 ?_
      refine lv_iload_n hx hb dX7_unfit_20 rfl (lv_at hl 1 rfl) ?_
      refine cx_aaR C hO hw.1 dX7_unfit_21 (fun o105 eo105 ho105 => ?_)
      have hw := hw.2 o105 eo105
      refine lv_astore (lv' := [(5, .ref (ad o105)), (0, .ref (ad 0)), (1, .int x1), (2, .int x2), (3, .int x3), (4, .int x4)]) hx hb dX7_unfit_22 hl (by decide) rfl (fun ls hl => ?_)
      refine lv_aload hx hb dX7_unfit_24 (lv_at hl 0 rfl) ?_
      refine cx_get C hO (cR_lt ho105).1 (cE_R ho105) rfl hinX3 1 (by decide) (idx := 203) (by decide +kernel) rfl rfl dX7_unfit_26 ?_
      refine lv_iconst (v := -1) hx hb dX7_unfit_29 (by decide) ?_
      refine lv_icmp_ne (tgt := 36) hx hb dX7_unfit_30 (by decide) (fun hc => ?_) (fun hc => ?_)
      · have hw := hw.1 hc
        refine lv_aload hx hb dX7_unfit_36 (lv_at hl 0 rfl) ?_
        refine cx_get C hO (cR_lt ho105).1 (cE_R ho105) rfl hinX3 1 (by decide) (idx := 203) (by decide +kernel) rfl rfl dX7_unfit_38 ?_
        refine lv_iload_n hx hb dX7_unfit_41 rfl (lv_at hl 3 rfl) ?_
        refine lv_icmp_eq (tgt := 48) hx hb dX7_unfit_42 (by decide) (fun hc => ?_) (fun hc => ?_)
        · have hw := hw.1 hc
          refine lv_iload_n hx hb dX7_unfit_48 rfl (lv_at hl 4 rfl) ?_
          refine lv_iconst (v := 0) hx hb dX7_unfit_49 (by decide) ?_
          refine lv_aload hx hb dX7_unfit_50 (lv_at hl 0 rfl) ?_
          refine cx_get C hO (cR_lt ho105).1 (cE_R ho105) rfl hinX3 2 (by decide) (idx := 206) (by decide +kernel) rfl rfl dX7_unfit_52 ?_
          refine lv_iload hx hb dX7_unfit_55 (lv_at hl 5 rfl) ?_
          refine lv_isub hx hb dX7_unfit_57 ?_
          refine cx_cis C hO (cc_X7_within l D y ad t X σ104 x3 (0 : Int32) ((σ104.2.2.1 o105 2) - x4) _ hw) (va_cwS 3 hts gX7_unfit_X7_within rfl rfl rfl (by decide +kernel) ⟨Nat.le_of_ble_eq_true rfl, Nat.le_of_ble_eq_true rfl⟩) rfl hl.1 rfl (lv_room (Nat.le_of_ble_eq_true rfl)) dX7_unfit_58 (fun u106 σ107 H locs hw hO => ?_)
          refine lv_if_eq (tgt := 68) hx hb dX7_unfit_61 (by decide) (fun hc => ?_) (fun hc => ?_)
          · have hw := hw.1 hc
            refine lv_bipush (v := -13) hx hb dX7_unfit_68 (by decide) ?_
            exact kc_X7_unfit_70 C ((-13 : Int32)) σ107 hw H locs ls hO (lv_sub hl [1] rfl)
          · have hw := hw.2 hc
            refine lv_iconst (v := 0) hx hb dX7_unfit_64 (by decide) ?_
            refine lv_goto (tgt := 70) hx hb dX7_unfit_65 (by decide) ?_
            exact kc_X7_unfit_70 C ((0 : Int32)) σ107 hw H locs ls hO (lv_sub hl [1] rfl)
        · have hw := hw.2 hc
          refine lv_bipush (v := -12) hx hb dX7_unfit_45 (by decide) ?_
          exact cx_iret C hO hw dX7_unfit_47
      · have hw := hw.2 hc
        refine lv_bipush (v := -11) hx hb dX7_unfit_33 (by decide) ?_
        exact cx_iret C hO hw dX7_unfit_35
    · have hw := hw.2 hc
      exact kc_X7_unfit_14 C σ104 hw H locs ls hO (lv_sub hl [0] rfl)
theorem cc_X7_unfit (l : Launch) (D : va_G) (y : Nat → ClassId) (ad t : Nat → Nat) (X : va_W) (σ : cS) (x1 : Int32) (x2 : Int32) (x3 : Int32) (x4 : Int32) (Q : Int32 → cS → Prop) (hw : v_X7_unfit Q x1 x2 x3 x4 σ) : ∀ sz, Met l yX7_unfit wsX7_unfit rc_X7_unfit (va_Pc [.ref (ad 0), .int x1, .int x2, .int x3, .int x4] (cPre D y ad t X sz σ)) (va_Qi Q (cB D y ad X (va_A (cW y ad σ ++ X) sz)) (va_A (cW y ad σ ++ X) sz)) 0 0 (va_A (cW y ad σ ++ X) sz) :=
  cMet (Qc := fun A => va_Qi Q (cB D y ad X A) A) (by decide) (own := RX7) rfl (Nat.le_of_ble_eq_true rfl) (fun p e s m args below meth c A ls C hO hl => kc_X7_unfit_e C x1 x2 x3 x4 σ hw s.heap [] ls hO hl)
abbrev rc_X7_item : Room := { frames := 3, cells := 0, slots := 0, locals := 67 }
set_option maxRecDepth 100000 in
set_option maxHeartbeats 4000000 in
theorem kc_X7_item_42 {p : Program} {l : Launch} {e : Env} {s : State} {m : MethodId} {args : Array Value} {below : List Frame} {meth : Method} {c : Code} {D : va_G} {y : Nat → ClassId} {ad t : Nat → Nat} {X : va_W} {A : Nat → Prop} {Q : Int32 → cS → Prop} (C : cC p s m args meth c cX7_item 6 (some .int) RX7 wsX7_item D y t A) (os0 : Nat) (z1 : Int32) (z2 : Int64) (σ : cS) (hw : v_X7_item_42 Q os0 z1 z2 σ) (hos0 : cJ os0 = true) (H : Heap) (locs : List Loc) (ls : Array Slot) (hO : cO D y ad X A s.heap H locs σ) (hl : lv_has ls 6 [(0, .ref (ad 0))]) : W p l e rc_X7_item s m args below meth c H locs 0 0 (MQ below (va_Qi Q (cB D y ad X A) A) args s 0 0 A) (F0 m 42 ls [.long z2, .int z1, .ref (ad os0)]) := by
  obtain ⟨hx, hb, hr, hml, hown, hts, hlk, hK, hA, hTs, hNw⟩ := id C
  unfold v_X7_item_42 at hw
  refine cx_last C hO (a := os0) hos0 hw.1 dX7_item_42 (fun H locs σ101 eσ101 hO => ?_)
  have hw := hw.2 σ101 eσ101
  refine lv_iconst (v := 1) hx hb dX7_item_43 (by decide) ?_
  exact cx_iret C hO hw dX7_item_44
set_option maxRecDepth 100000 in
set_option maxHeartbeats 4000000 in
theorem kc_X7_item_e {p : Program} {l : Launch} {e : Env} {s : State} {m : MethodId} {args : Array Value} {below : List Frame} {meth : Method} {c : Code} {D : va_G} {y : Nat → ClassId} {ad t : Nat → Nat} {X : va_W} {A : Nat → Prop} {Q : Int32 → cS → Prop} (C : cC p s m args meth c cX7_item 6 (some .int) RX7 wsX7_item D y t A) (x1 : Int32) (x2 : Int32) (x3 : Int32) (x4 : Int32) (σ : cS) (hw : v_X7_item Q x1 x2 x3 x4 σ) (H : Heap) (locs : List Loc) (ls : Array Slot) (hO : cO D y ad X A s.heap H locs σ) (hl : lv_has ls 6 [(0, .ref (ad 0)), (1, .int x1), (2, .int x2), (3, .int x3), (4, .int x4)]) : W p l e rc_X7_item s m args below meth c H locs 0 0 (MQ below (va_Qi Q (cB D y ad X A) A) args s 0 0 A) (F0 m 0 ls []) := by
  obtain ⟨hx, hb, hr, hml, hown, hts, hlk, hK, hA, hTs, hNw⟩ := id C
  have hinX3 : ∀ w ∈ wsX30, w ∈ wsX7_item := fun _ h => List.mem_cons_of_mem _ (List.mem_append_right _ h)
  have hinX7 : ∀ w ∈ wsX70, w ∈ wsX7_item := fun _ h => List.mem_cons_of_mem _ (List.mem_append_left _ (List.mem_append_right _ h))
  unfold v_X7_item at hw
  refine lv_aload_n hx hb dX7_item_0 rfl (lv_at hl 0 rfl) ?_
  refine lv_iload_n hx hb dX7_item_1 rfl (lv_at hl 1 rfl) ?_
  refine lv_iload_n hx hb dX7_item_2 rfl (lv_at hl 2 rfl) ?_
  refine lv_iload_n hx hb dX7_item_3 rfl (lv_at hl 3 rfl) ?_
  refine lv_iconst (v := 1) hx hb dX7_item_4 (by decide) ?_
  refine cx_civ C hO (cc_X7_unfit l D y ad t X σ x1 x2 x3 (1 : Int32) _ hw) (by decide) rfl rfl (cwV 4 hts gX7_item_X7_unfit rfl rfl rfl (by decide +kernel) ⟨Nat.le_of_ble_eq_true rfl, Nat.le_of_ble_eq_true rfl⟩) rfl hl.1 rfl (lv_room (Nat.le_of_ble_eq_true rfl)) dX7_item_5 (fun u101 σ102 H locs hw hO => ?_)
  refine lv_istore (lv' := [(5, .int u101), (0, .ref (ad 0)), (1, .int x1), (2, .int x2), (3, .int x3), (4, .int x4)]) hx hb dX7_item_8 hl (by decide) rfl (fun ls hl => ?_)
  refine lv_iload hx hb dX7_item_10 (lv_at hl 0 rfl) ?_
  refine lv_if_eq (tgt := 18) hx hb dX7_item_12 (by decide) (fun hc => ?_) (fun hc => ?_)
  · have hw := hw.1 hc
    refine lv_aload_n hx hb dX7_item_18 rfl (lv_at hl 1 rfl) ?_
    refine cx_get C hO (by decide) rfl rfl hinX7 2 (by decide) (idx := 24) (by decide +kernel) rfl rfl dX7_item_19 ?_
    refine lv_iload_n hx hb dX7_item_22 rfl (lv_at hl 2 rfl) ?_
    refine cx_aaR C hO hw.1 dX7_item_23 (fun o103 eo103 ho103 => ?_)
    have hw := hw.2 o103 eo103
    refine cx_get C hO (cR_lt ho103).1 (cE_R ho103) rfl hinX3 0 (by decide) (idx := 208) (by decide +kernel) rfl rfl dX7_item_24 ?_
    refine lv_iload_n hx hb dX7_item_27 rfl (lv_at hl 4 rfl) ?_
    refine lv_iload_n hx hb dX7_item_28 rfl (lv_at hl 3 rfl) ?_
    refine lv_if_ne (tgt := 39) hx hb dX7_item_29 (by decide) (fun hc => ?_) (fun hc => ?_)
    · have hw := hw.1 hc
      refine lv_iload hx hb dX7_item_39 (lv_at hl 5 rfl) ?_
      refine lv_i2l hx hb dX7_item_41 rfl ?_
      exact kc_X7_item_42 C ((o103 + 1)) x3 (x4.toInt64) σ102 hw (cR_J ho103) H locs ls hO (lv_sub hl [1] rfl)
    · have hw := hw.2 hc
      refine lv_iload hx hb dX7_item_32 (lv_at hl 5 rfl) ?_
      refine lv_i2b hx hb dX7_item_34 rfl ?_
      refine lv_i2l hx hb dX7_item_35 rfl ?_
      refine lv_goto (tgt := 42) hx hb dX7_item_36 (by decide) ?_
      exact kc_X7_item_42 C ((o103 + 1)) x3 ((x4.toInt8.toInt32).toInt64) σ102 hw (cR_J ho103) H locs ls hO (lv_sub hl [1] rfl)
  · have hw := hw.2 hc
    refine lv_iload hx hb dX7_item_15 (lv_at hl 0 rfl) ?_
    exact cx_iret C hO hw dX7_item_17
theorem cc_X7_item (l : Launch) (D : va_G) (y : Nat → ClassId) (ad t : Nat → Nat) (X : va_W) (σ : cS) (x1 : Int32) (x2 : Int32) (x3 : Int32) (x4 : Int32) (Q : Int32 → cS → Prop) (hw : v_X7_item Q x1 x2 x3 x4 σ) : ∀ sz, Met l yX7_item wsX7_item rc_X7_item (va_Pc [.ref (ad 0), .int x1, .int x2, .int x3, .int x4] (cPre D y ad t X sz σ)) (va_Qi Q (cB D y ad X (va_A (cW y ad σ ++ X) sz)) (va_A (cW y ad σ ++ X) sz)) 0 0 (va_A (cW y ad σ ++ X) sz) :=
  cMet (Qc := fun A => va_Qi Q (cB D y ad X A) A) (by decide) (own := RX7) rfl (Nat.le_of_ble_eq_true rfl) (fun p e s m args below meth c A ls C hO hl => kc_X7_item_e C x1 x2 x3 x4 σ hw s.heap [] ls hO hl)
abbrev rc_X7_terms : Room := { frames := 6, cells := 0, slots := 0, locals := 146 }
set_option maxRecDepth 100000 in
set_option maxHeartbeats 4000000 in
theorem kc_X7_terms_88 {p : Program} {l : Launch} {e : Env} {s : State} {m : MethodId} {args : Array Value} {below : List Frame} {meth : Method} {c : Code} {D : va_G} {y : Nat → ClassId} {ad t : Nat → Nat} {X : va_W} {A : Nat → Prop} {Q : Int32 → cS → Prop} (C : cC p s m args meth c cX7_terms 6 (some .int) RX7 wsX7_terms D y t A) (z0 : Int32) (σ : cS) (hw : v_X7_terms_88 Q z0 σ) (H : Heap) (locs : List Loc) (ls : Array Slot) (hO : cO D y ad X A s.heap H locs σ) (hl : lv_has ls 6 [(0, .ref (ad 0))]) : W p l e rc_X7_terms s m args below meth c H locs 0 0 (MQ below (va_Qi Q (cB D y ad X A) A) args s 0 0 A) (F0 m 88 ls [.int z0]) := by
  obtain ⟨hx, hb, hr, hml, hown, hts, hlk, hK, hA, hTs, hNw⟩ := id C
  unfold v_X7_terms_88 at hw
  exact cx_iret C hO hw dX7_terms_88
set_option maxRecDepth 100000 in
set_option maxHeartbeats 4000000 in
theorem kc_X7_terms_86 {p : Program} {l : Launch} {e : Env} {s : State} {m : MethodId} {args : Array Value} {below : List Frame} {meth : Method} {c : Code} {D : va_G} {y : Nat → ClassId} {ad t : Nat → Nat} {X : va_W} {A : Nat → Prop} {Q : Int32 → cS → Prop} (C : cC p s m args meth c cX7_terms 6 (some .int) RX7 wsX7_terms D y t A)  (σ : cS) (hw : v_X7_terms_86 Q σ) (H : Heap) (locs : List Loc) (ls : Array Slot) (hO : cO D y ad X A s.heap H locs σ) (hl : lv_has ls 6 [(0, .ref (ad 0))]) : W p l e rc_X7_terms s m args below meth c H locs 0 0 (MQ below (va_Qi Q (cB D y ad X A) A) args s 0 0 A) (F0 m 86 ls []) := by
  obtain ⟨hx, hb, hr, hml, hown, hts, hlk, hK, hA, hTs, hNw⟩ := id C
  unfold v_X7_terms_86 at hw
  refine lv_bipush (v := -2) hx hb dX7_terms_86 (by decide) ?_
  exact kc_X7_terms_88 C ((-2 : Int32)) σ hw H locs ls hO (lv_sub hl [0] rfl)
set_option maxRecDepth 100000 in
set_option maxHeartbeats 4000000 in
theorem kc_X7_terms_e {p : Program} {l : Launch} {e : Env} {s : State} {m : MethodId} {args : Array Value} {below : List Frame} {meth : Method} {c : Code} {D : va_G} {y : Nat → ClassId} {ad t : Nat → Nat} {X : va_W} {A : Nat → Prop} {Q : Int32 → cS → Prop} (C : cC p s m args meth c cX7_terms 6 (some .int) RX7 wsX7_terms D y t A) (x1 : Int32) (x2 : Int32) (x3 : Int32) (x4 : Int32) (σ : cS) (hw : v_X7_terms Q x1 x2 x3 x4 σ) (H : Heap) (locs : List Loc) (ls : Array Slot) (hO : cO D y ad X A s.heap H locs σ) (hl : lv_has ls 6 [(0, .ref (ad 0)), (1, .int x1), (2, .int x2), (3, .int x3), (4, .int x4)]) : W p l e rc_X7_terms s m args below meth c H locs 0 0 (MQ below (va_Qi Q (cB D y ad X A) A) args s 0 0 A) (F0 m 0 ls []) := by
  obtain ⟨hx, hb, hr, hml, hown, hts, hlk, hK, hA, hTs, hNw⟩ := id C
  have hinX3 : ∀ w ∈ wsX30, w ∈ wsX7_terms := fun _ h => List.mem_cons_of_mem _ (List.mem_append_left _ (List.mem_append_left _ (List.mem_append_left _ (List.mem_append_right _ h))))
  have hinX7 : ∀ w ∈ wsX70, w ∈ wsX7_terms := fun _ h => List.mem_cons_of_mem _ (List.mem_append_left _ (List.mem_append_left _ (List.mem_append_left _ (List.mem_append_left _ (List.mem_append_right _ h)))))
  unfold v_X7_terms at hw
  refine lv_iload_n hx hb dX7_terms_0 rfl (lv_at hl 1 rfl) ?_
  refine cx_cis C hO (cc_X7_isLine l D y ad t X σ x1 _ hw) (va_cwS 1 hts gX7_terms_X7_isLine rfl rfl rfl (by decide +kernel) ⟨Nat.le_of_ble_eq_true rfl, Nat.le_of_ble_eq_true rfl⟩) rfl hl.1 rfl (lv_room (Nat.le_of_ble_eq_true rfl)) dX7_terms_1 (fun u101 σ102 H locs hw hO => ?_)
  refine lv_if_ne (tgt := 9) hx hb dX7_terms_4 (by decide) (fun hc => ?_) (fun hc => ?_)
  · have hw := hw.1 hc
    refine lv_aload_n hx hb dX7_terms_9 rfl (lv_at hl 0 rfl) ?_
    refine lv_iload_n hx hb dX7_terms_10 rfl (lv_at hl 2 rfl) ?_
    refine lv_iload_n hx hb dX7_terms_11 rfl (lv_at hl 3 rfl) ?_
    refine lv_iload hx hb dX7_terms_12 (lv_at hl 4 rfl) ?_
    refine lv_bipush (v := 12) hx hb dX7_terms_14 (by decide) ?_
    refine cx_civ C hO (cc_X7_unfit l D y ad t X σ102 x2 x3 x4 (12 : Int32) _ hw) (by decide) rfl rfl (cwV 4 hts gX7_terms_X7_unfit rfl rfl rfl (by decide +kernel) ⟨Nat.le_of_ble_eq_true rfl, Nat.le_of_ble_eq_true rfl⟩) rfl hl.1 rfl (lv_room (Nat.le_of_ble_eq_true rfl)) dX7_terms_16 (fun u103 σ104 H locs hw hO => ?_)
    refine lv_istore (lv' := [(5, .int u103), (0, .ref (ad 0)), (1, .int x1), (2, .int x2), (3, .int x3), (4, .int x4)]) hx hb dX7_terms_19 hl (by decide) rfl (fun ls hl => ?_)
    refine lv_iload hx hb dX7_terms_21 (lv_at hl 0 rfl) ?_
    refine lv_if_eq (tgt := 29) hx hb dX7_terms_23 (by decide) (fun hc => ?_) (fun hc => ?_)
    · have hw := hw.1 hc
      refine lv_aload_n hx hb dX7_terms_29 rfl (lv_at hl 1 rfl) ?_
      refine cx_get C hO (by decide) rfl rfl hinX7 2 (by decide) (idx := 24) (by decide +kernel) rfl rfl dX7_terms_30 ?_
      refine lv_iload_n hx hb dX7_terms_33 rfl (lv_at hl 3 rfl) ?_
      refine cx_aaR C hO hw.1 dX7_terms_34 (fun o105 eo105 ho105 => ?_)
      have hw := hw.2 o105 eo105
      refine cx_get C hO (cR_lt ho105).1 (cE_R ho105) rfl hinX3 0 (by decide) (idx := 208) (by decide +kernel) rfl rfl dX7_terms_35 ?_
      refine lv_iload hx hb dX7_terms_38 (lv_at hl 5 rfl) ?_
      refine lv_aload_n hx hb dX7_terms_40 rfl (lv_at hl 1 rfl) ?_
      refine cx_get C hO (by decide) rfl rfl hinX7 5 (by decide) (idx := 42) (by decide +kernel) rfl rfl dX7_terms_41 ?_
      refine lv_iconst (v := 0) hx hb dX7_terms_44 (by decide) ?_
      refine lv_bipush (v := 12) hx hb dX7_terms_45 (by decide) ?_
      refine cx_copy C hO (a0 := (o105 + 1)) (a := 16) (cR_J ho105) rfl (by decide +kernel) hw.1.1 hw.1.2.1 hw.1.2.2.1 hw.1.2.2.2.1 hw.1.2.2.2.2 (Nat.le_of_ble_eq_true rfl) (Nat.le_of_ble_eq_true rfl) hl.1 dX7_terms_47 (fun H locs σ106 eσ106 hO => ?_)
      have hw := hw.2 σ106 eσ106
      refine lv_aload_n hx hb dX7_terms_50 rfl (lv_at hl 1 rfl) ?_
      refine cx_get C hO (by decide) rfl rfl hinX7 5 (by decide) (idx := 42) (by decide +kernel) rfl rfl dX7_terms_51 ?_
      refine cx_cls C hO (cc_X6_widest l D y ad t X σ106 16 rfl _ hw) (va_cwS 1 hts gX7_terms_X6_widest rfl rfl rfl (by decide +kernel) ⟨Nat.le_of_ble_eq_true rfl, Nat.le_of_ble_eq_true rfl⟩) rfl hl.1 rfl (lv_room (Nat.le_of_ble_eq_true rfl)) dX7_terms_54 (fun u107 σ108 H locs hw hO => ?_)
      refine lv_ldc2 (v := 1000) hx hb hown (hts (.constantLong RX7 219 (1000)) (by decide +kernel)) dX7_terms_57 ?_
      refine W.lcmp hx hb dX7_terms_60 ?_
      refine lv_if_gt (tgt := 86) hx hb dX7_terms_61 (by decide) (fun hc => ?_) (fun hc => ?_)
      · have hc := (lg_cmp_gt _ _).mp hc
        have hw := hw.1 hc
        exact kc_X7_terms_86 C σ108 hw H locs ls hO (lv_sub hl [1] rfl)
      · have hc := (not_congr (lg_cmp_gt _ _)).mp hc
        have hw := hw.2 hc
        refine lv_aload_n hx hb dX7_terms_64 rfl (lv_at hl 1 rfl) ?_
        refine cx_get C hO (by decide) rfl rfl hinX7 3 (by decide) (idx := 31) (by decide +kernel) rfl rfl dX7_terms_65 ?_
        refine lv_aload_n hx hb dX7_terms_68 rfl (lv_at hl 1 rfl) ?_
        refine cx_get C hO (by decide) rfl rfl hinX7 5 (by decide) (idx := 42) (by decide +kernel) rfl rfl dX7_terms_69 ?_
        refine cx_civ C hO (cc_X1_make l D y ad t X σ108 16 rfl _ hw) (by decide) rfl rfl (cwV 1 hts gX7_terms_X1_make rfl rfl rfl (by decide +kernel) ⟨Nat.le_of_ble_eq_true rfl, Nat.le_of_ble_eq_true rfl⟩) rfl hl.1 rfl (lv_room (Nat.le_of_ble_eq_true rfl)) dX7_terms_72 (fun u109 σ110 H locs hw hO => ?_)
        refine lv_if_eq (tgt := 86) hx hb dX7_terms_75 (by decide) (fun hc => ?_) (fun hc => ?_)
        · have hw := hw.1 hc
          exact kc_X7_terms_86 C σ110 hw H locs ls hO (lv_sub hl [1] rfl)
        · have hw := hw.2 hc
          refine lv_aload_n hx hb dX7_terms_78 rfl (lv_at hl 1 rfl) ?_
          refine lv_iload_n hx hb dX7_terms_79 rfl (lv_at hl 2 rfl) ?_
          refine cx_civ C hO (cc_X7_settle l D y ad t X σ110 x1 _ hw) (by decide) rfl rfl (cwV 1 hts gX7_terms_X7_settle rfl rfl rfl (by decide +kernel) ⟨Nat.le_of_ble_eq_true rfl, Nat.le_of_ble_eq_true rfl⟩) rfl hl.1 rfl (lv_room (Nat.le_of_ble_eq_true rfl)) dX7_terms_80 (fun u111 σ112 H locs hw hO => ?_)
          refine lv_goto (tgt := 88) hx hb dX7_terms_83 (by decide) ?_
          exact kc_X7_terms_88 C u111 σ112 hw H locs ls hO (lv_sub hl [1] rfl)
    · have hw := hw.2 hc
      refine lv_iload hx hb dX7_terms_26 (lv_at hl 0 rfl) ?_
      exact cx_iret C hO hw dX7_terms_28
  · have hw := hw.2 hc
    refine lv_iconst (v := -1) hx hb dX7_terms_7 (by decide) ?_
    exact cx_iret C hO hw dX7_terms_8
theorem cc_X7_terms (l : Launch) (D : va_G) (y : Nat → ClassId) (ad t : Nat → Nat) (X : va_W) (σ : cS) (x1 : Int32) (x2 : Int32) (x3 : Int32) (x4 : Int32) (Q : Int32 → cS → Prop) (hw : v_X7_terms Q x1 x2 x3 x4 σ) : ∀ sz, Met l yX7_terms wsX7_terms rc_X7_terms (va_Pc [.ref (ad 0), .int x1, .int x2, .int x3, .int x4] (cPre D y ad t X sz σ)) (va_Qi Q (cB D y ad X (va_A (cW y ad σ ++ X) sz)) (va_A (cW y ad σ ++ X) sz)) 0 0 (va_A (cW y ad σ ++ X) sz) :=
  cMet (Qc := fun A => va_Qi Q (cB D y ad X A) A) (by decide) (own := RX7) rfl (Nat.le_of_ble_eq_true rfl) (fun p e s m args below meth c A ls C hO hl => kc_X7_terms_e C x1 x2 x3 x4 σ hw s.heap [] ls hO hl)
