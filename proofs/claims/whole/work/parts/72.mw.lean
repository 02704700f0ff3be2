/-! the reference: what each method does, and the walk of its bytecode (written by wip/tools/gen.py) -/
abbrev rX8_next : Room := { frames := 0, cells := 0, slots := 0, locals := 0 }
set_option maxRecDepth 100000 in
set_option maxHeartbeats 4000000 in
theorem k_next_62 {p : Program} {l : Launch} {e : Env} {s : State} {m : MethodId} {args : Array Value} {below : List Frame} {meth : Method} {c : Code} {D : va_G} {y : Nat → ClassId} {ad : Nat → Nat} {X : va_W} {A : Nat → Prop} {Q : Int32 → mS → Prop} (C : mC p s m args meth c cX8_next 1 (some .int) wsX8_next D y A) (z0 : Int32) (σ : mS) (hw : w_next_62 Q z0 σ) (H : Heap) (locs : List Loc) (ls : Array Slot) (hO : mO D y ad X A s.heap H locs σ) (hl : lv_has ls 1 [(0, .ref (ad 0))]) : W p l e rX8_next s m args below meth c H locs 0 0 (MQ below (va_Qi Q (mB D y ad X A) A) args s 0 0 A) (F0 m 62 ls [.int z0]) := by
  obtain ⟨hx, hb, hr, hml, hown, hts, hlk, hK, hA⟩ := id C
  unfold w_next_62 at hw
  exact mx_iret C hO hw dX8_next_62
set_option maxRecDepth 100000 in
set_option maxHeartbeats 4000000 in
theorem k_next_38 {p : Program} {l : Launch} {e : Env} {s : State} {m : MethodId} {args : Array Value} {below : List Frame} {meth : Method} {c : Code} {D : va_G} {y : Nat → ClassId} {ad : Nat → Nat} {X : va_W} {A : Nat → Prop} {Q : Int32 → mS → Prop} (C : mC p s m args meth c cX8_next 1 (some .int) wsX8_next D y A)  (σ : mS) (hw : w_next_38 Q σ) (H : Heap) (locs : List Loc) (ls : Array Slot) (hO : mO D y ad X A s.heap H locs σ) (hl : lv_has ls 1 [(0, .ref (ad 0))]) : W p l e rX8_next s m args below meth c H locs 0 0 (MQ below (va_Qi Q (mB D y ad X A) A) args s 0 0 A) (F0 m 38 ls []) := by
  obtain ⟨hx, hb, hr, hml, hown, hts, hlk, hK, hA⟩ := id C
  have hin : ∀ w ∈ wsX80, w ∈ wsX8_next := fun _ h => List.mem_cons_of_mem _ (List.mem_append_right _ h)
  unfold w_next_38 at hw
  refine lv_aload_n hx hb dX8_next_38 rfl (lv_at hl 0 rfl) ?_
  refine mx_get C hO hin 8 (by decide) (idx := 139) (by decide +kernel) rfl rfl dX8_next_39 ?_
  refine lv_aload_n hx hb dX8_next_42 rfl (lv_at hl 0 rfl) ?_
  refine mx_get C hO hin 7 (by decide) (idx := 135) (by decide +kernel) rfl rfl dX8_next_43 ?_
  refine lv_icmp_ge (tgt := 61) hx hb dX8_next_46 (by decide) (fun hc => ?_) (fun hc => ?_)
  · have hw := hw.1 hc
    refine lv_iconst (v := -1) hx hb dX8_next_61 (by decide) ?_
    exact k_next_62 C ((-1 : Int32)) σ hw H locs ls hO (lv_sub hl [0] rfl)
  · have hw := hw.2 hc
    refine lv_aload_n hx hb dX8_next_49 rfl (lv_at hl 0 rfl) ?_
    refine mx_get C hO hin 6 (by decide) (idx := 29) (by decide +kernel) rfl rfl dX8_next_50 ?_
    refine lv_aload_n hx hb dX8_next_53 rfl (lv_at hl 0 rfl) ?_
    refine mx_get C hO hin 8 (by decide) (idx := 139) (by decide +kernel) rfl rfl dX8_next_54 ?_
    refine mx_iald C hO (a := 7) rfl hw.1 dX8_next_57 ?_
    have hw := hw.2
    refine lv_goto (tgt := 62) hx hb dX8_next_58 (by decide) ?_
    exact k_next_62 C (σ.2.1 7 (σ.2.2.2).toNatClampNeg) σ hw H locs ls hO (lv_sub hl [0] rfl)
set_option maxRecDepth 100000 in
set_option maxHeartbeats 4000000 in
theorem k_next_0 {p : Program} {l : Launch} {e : Env} {s : State} {m : MethodId} {args : Array Value} {below : List Frame} {meth : Method} {c : Code} {D : va_G} {y : Nat → ClassId} {ad : Nat → Nat} {X : va_W} {A : Nat → Prop} {Q : Int32 → mS → Prop} (C : mC p s m args meth c cX8_next 1 (some .int) wsX8_next D y A) (n : Nat) : ∀  (σ : mS), w_next_0 Q n σ → ∀ (H : Heap) (locs : List Loc) (ls : Array Slot), mO D y ad X A s.heap H locs σ → lv_has ls 1 [(0, .ref (ad 0))] → W p l e rX8_next s m args below meth c H locs 0 0 (MQ below (va_Qi Q (mB D y ad X A) A) args s 0 0 A) (F0 m 0 ls []) := by
  obtain ⟨hx, hb, hr, hml, hown, hts, hlk, hK, hA⟩ := id C
  have hin : ∀ w ∈ wsX80, w ∈ wsX8_next := fun _ h => List.mem_cons_of_mem _ (List.mem_append_right _ h)
  induction n with
  | zero =>
    intro  σ hw
    exact (show False from hw).elim
  | succ n ih =>
    intro  σ hw H locs ls hO hl
    unfold w_next_0 at hw
    refine lv_aload_n hx hb dX8_next_0 rfl (lv_at hl 0 rfl) ?_
    refine mx_get C hO hin 8 (by decide) (idx := 139) (by decide +kernel) rfl rfl dX8_next_1 ?_
    refine lv_aload_n hx hb dX8_next_4 rfl (lv_at hl 0 rfl) ?_
    refine mx_get C hO hin 7 (by decide) (idx := 135) (by decide +kernel) rfl rfl dX8_next_5 ?_
    refine lv_icmp_ge (tgt := 38) hx hb dX8_next_8 (by decide) (fun hc => ?_) (fun hc => ?_)
    · have hw := hw.1 hc
      exact k_next_38 C σ hw H locs ls hO (lv_sub hl [0] rfl)
    · have hw := hw.2 hc
      refine lv_aload_n hx hb dX8_next_11 rfl (lv_at hl 0 rfl) ?_
      refine mx_get C hO hin 6 (by decide) (idx := 29) (by decide +kernel) rfl rfl dX8_next_12 ?_
      refine lv_aload_n hx hb dX8_next_15 rfl (lv_at hl 0 rfl) ?_
      refine mx_get C hO hin 8 (by decide) (idx := 139) (by decide +kernel) rfl rfl dX8_next_16 ?_
      refine mx_iald C hO (a := 7) rfl hw.1 dX8_next_19 ?_
      have hw := hw.2
      refine lv_bipush (v := 32) hx hb dX8_next_20 (by decide) ?_
      refine lv_icmp_ne (tgt := 38) hx hb dX8_next_22 (by decide) (fun hc => ?_) (fun hc => ?_)
      · have hw := hw.1 hc
        exact k_next_38 C σ hw H locs ls hO (lv_sub hl [0] rfl)
      · have hw := hw.2 hc
        refine lv_aload_n hx hb dX8_next_25 rfl (lv_at hl 0 rfl) ?_
        refine lv_dup hx hb dX8_next_26 rfl ?_
        refine mx_get C hO hin 8 (by decide) (idx := 139) (by decide +kernel) rfl rfl dX8_next_27 ?_
        refine lv_iconst (v := 1) hx hb dX8_next_30 (by decide) ?_
        refine lv_iadd hx hb dX8_next_31 ?_
        refine mx_puta C hO hin (idx := 139) (by decide +kernel) dX8_next_32 (fun H locs σ101 eσ101 hO => ?_)
        have hw := hw σ101 eσ101
        refine lv_goto (tgt := 0) hx hb dX8_next_35 (by decide) ?_
        exact ih σ101 hw H locs ls hO (lv_sub hl [0] rfl)
set_option maxRecDepth 100000 in
set_option maxHeartbeats 4000000 in
theorem k_next_e {p : Program} {l : Launch} {e : Env} {s : State} {m : MethodId} {args : Array Value} {below : List Frame} {meth : Method} {c : Code} {D : va_G} {y : Nat → ClassId} {ad : Nat → Nat} {X : va_W} {A : Nat → Prop} {Q : Int32 → mS → Prop} (C : mC p s m args meth c cX8_next 1 (some .int) wsX8_next D y A)  (σ : mS) (hw : w_next Q σ) (H : Heap) (locs : List Loc) (ls : Array Slot) (hO : mO D y ad X A s.heap H locs σ) (hl : lv_has ls 1 [(0, .ref (ad 0))]) : W p l e rX8_next s m args below meth c H locs 0 0 (MQ below (va_Qi Q (mB D y ad X A) A) args s 0 0 A) (F0 m 0 ls []) := by
  obtain ⟨hx, hb, hr, hml, hown, hts, hlk, hK, hA⟩ := id C
  unfold w_next at hw
  exact k_next_0 C fuL σ hw H locs ls hO (lv_sub hl [0] rfl)
theorem c_next (l : Launch) (D : va_G) (y : Nat → ClassId) (ad : Nat → Nat) (X : va_W) (σ : mS)  (Q : Int32 → mS → Prop) (hw : w_next Q σ) : ∀ sz, Met l yX8_next wsX8_next rX8_next (va_Pc [.ref (ad 0)] (mPre D y ad X sz σ)) (va_Qi Q (mB D y ad X (va_A (mW y ad σ ++ X) sz)) (va_A (mW y ad σ ++ X) sz)) 0 0 (va_A (mW y ad σ ++ X) sz) :=
  mMet (Qc := fun A => va_Qi Q (mB D y ad X A) A) rfl (Nat.le_of_ble_eq_true rfl) (fun p e s m args below meth c A ls C hO hl => k_next_e C σ hw s.heap [] ls hO hl)
abbrev rX8_readTerm : Room := { frames := 1, cells := 0, slots := 0, locals := 25 }
set_option maxRecDepth 100000 in
set_option maxHeartbeats 4000000 in
theorem k_readTerm_90 {p : Program} {l : Launch} {e : Env} {s : State} {m : MethodId} {args : Array Value} {below : List Frame} {meth : Method} {c : Code} {D : va_G} {y : Nat → ClassId} {ad : Nat → Nat} {X : va_W} {A : Nat → Prop} {Q : Int32 → mS → Prop} (C : mC p s m args meth c cX8_readTerm 8 (some .boolean) wsX8_readTerm D y A) {r27 : Int32 → Int32 → Int32 → Int32 → Int32 → mS → Prop} (hr27 : ∀ (x1 : Int32) (x2 : Int32) (x4 : Int32) (x5 : Int32) (x6 : Int32) (σ : mS), r27 x1 x2 x4 x5 x6 σ → ∀ (H : Heap) (locs : List Loc) (ls : Array Slot), mO D y ad X A s.heap H locs σ → lv_has ls 8 [(0, .ref (ad 0)), (1, .int x1), (2, .int x2), (4, .int x4), (5, .int x5), (6, .int x6)] → W p l e rX8_readTerm s m args below meth c H locs 0 0 (MQ below (va_Qi Q (mB D y ad X A) A) args s 0 0 A) (F0 m 27 ls [])) (x1 : Int32) (x2 : Int32) (x4 : Int32) (x6 : Int32) (z0 : Int32) (σ : mS) (hw : w_readTerm_90 Q r27 x1 x2 x4 x6 z0 σ) (H : Heap) (locs : List Loc) (ls : Array Slot) (hO : mO D y ad X A s.heap H locs σ) (hl : lv_has ls 8 [(0, .ref (ad 0)), (1, .int x1), (2, .int x2), (4, .int x4), (6, .int x6)]) : W p l e rX8_readTerm s m args below meth c H locs 0 0 (MQ below (va_Qi Q (mB D y ad X A) A) args s 0 0 A) (F0 m 90 ls [.int z0]) := by
  obtain ⟨hx, hb, hr, hml, hown, hts, hlk, hK, hA⟩ := id C
  have hin : ∀ w ∈ wsX80, w ∈ wsX8_readTerm := fun _ h => List.mem_cons_of_mem _ (List.mem_append_right _ h)
  unfold w_readTerm_90 at hw
  refine lv_istore (lv' := [(5, .int z0), (0, .ref (ad 0)), (1, .int x1), (2, .int x2), (4, .int x4), (6, .int x6)]) hx hb dX8_readTerm_90 hl (by decide) rfl (fun ls hl => ?_)
  refine lv_aload_n hx hb dX8_readTerm_92 rfl (lv_at hl 1 rfl) ?_
  refine lv_dup hx hb dX8_readTerm_93 rfl ?_
  refine mx_get C hO hin 8 (by decide) (idx := 139) (by decide +kernel) rfl rfl dX8_readTerm_94 ?_
  refine lv_iconst (v := 1) hx hb dX8_readTerm_97 (by decide) ?_
  refine lv_iadd hx hb dX8_readTerm_98 ?_
  refine mx_puta C hO hin (idx := 139) (by decide +kernel) dX8_readTerm_99 (fun H locs σ101 eσ101 hO => ?_)
  have hw := hw σ101 eσ101
  refine lv_goto (tgt := 27) hx hb dX8_readTerm_102 (by decide) ?_
  exact hr27 x1 x2 x4 z0 x6 σ101 hw H locs ls hO (lv_sub hl [1, 2, 3, 4, 0, 5] rfl)
set_option maxRecDepth 100000 in
set_option maxHeartbeats 4000000 in
theorem k_readTerm_212 {p : Program} {l : Launch} {e : Env} {s : State} {m : MethodId} {args : Array Value} {below : List Frame} {meth : Method} {c : Code} {D : va_G} {y : Nat → ClassId} {ad : Nat → Nat} {X : va_W} {A : Nat → Prop} {Q : Int32 → mS → Prop} (C : mC p s m args meth c cX8_readTerm 8 (some .boolean) wsX8_readTerm D y A) (z1 : Int32) (z2 : Int64) (z3 : Int32) (z4 : Int32) (σ : mS) (hw : w_readTerm_212 Q z1 z2 z3 z4 σ) (H : Heap) (locs : List Loc) (ls : Array Slot) (hO : mO D y ad X A s.heap H locs σ) (hl : lv_has ls 8 [(0, .ref (ad 0))]) : W p l e rX8_readTerm s m args below meth c H locs 0 0 (MQ below (va_Qi Q (mB D y ad X A) A) args s 0 0 A) (F0 m 212 ls [.int z4, .int z3, .long z2, .int z1, .ref (ad 3)]) := by
  obtain ⟨hx, hb, hr, hml, hown, hts, hlk, hK, hA⟩ := id C
  unfold w_readTerm_212 at hw
  refine lv_imul hx hb dX8_readTerm_212 ?_
  refine lv_i2l hx hb dX8_readTerm_213 rfl ?_
  refine lv_ladd hx hb dX8_readTerm_214 ?_
  refine mx_last C hO (a := 3) rfl hw.1 dX8_readTerm_215 (fun H locs σ101 eσ101 hO => ?_)
  have hw := hw.2 σ101 eσ101
  refine lv_iconst (v := 1) hx hb dX8_readTerm_216 (by decide) ?_
  exact mx_zret C hO hw.1 hw.2 dX8_readTerm_217
set_option maxRecDepth 100000 in
set_option maxHeartbeats 4000000 in
theorem k_readTerm_188 {p : Program} {l : Launch} {e : Env} {s : State} {m : MethodId} {args : Array Value} {below : List Frame} {meth : Method} {c : Code} {D : va_G} {y : Nat → ClassId} {ad : Nat → Nat} {X : va_W} {A : Nat → Prop} {Q : Int32 → mS → Prop} (C : mC p s m args meth c cX8_readTerm 8 (some .boolean) wsX8_readTerm D y A) (x1 : Int32) (x2 : Int32) (x5 : Int32) (x6 : Int32) (x7 : Int32) (σ : mS) (hw : w_readTerm_188 Q x1 x2 x5 x6 x7 σ) (H : Heap) (locs : List Loc) (ls : Array Slot) (hO : mO D y ad X A s.heap H locs σ) (hl : lv_has ls 8 [(0, .ref (ad 0)), (1, .int x1), (2, .int x2), (5, .int x5), (6, .int x6), (7, .int x7)]) : W p l e rX8_readTerm s m args below meth c H locs 0 0 (MQ below (va_Qi Q (mB D y ad X A) A) args s 0 0 A) (F0 m 188 ls []) := by
  obtain ⟨hx, hb, hr, hml, hown, hts, hlk, hK, hA⟩ := id C
  have hin : ∀ w ∈ wsX80, w ∈ wsX8_readTerm := fun _ h => List.mem_cons_of_mem _ (List.mem_append_right _ h)
  unfold w_readTerm_188 at hw
  refine lv_aload_n hx hb dX8_readTerm_188 rfl (lv_at hl 0 rfl) ?_
  refine mx_get C hO hin 2 (by decide) (idx := 17) (by decide +kernel) rfl rfl dX8_readTerm_189 ?_
  refine lv_iconst (v := 4) hx hb dX8_readTerm_192 (by decide) ?_
  refine lv_iload_n hx hb dX8_readTerm_193 rfl (lv_at hl 1 rfl) ?_
  refine lv_imul hx hb dX8_readTerm_194 ?_
  refine lv_iload hx hb dX8_readTerm_195 (lv_at hl 5 rfl) ?_
  refine lv_iadd hx hb dX8_readTerm_197 ?_
  refine lv_dup2_11 hx hb dX8_readTerm_198 rfl rfl ?_
  refine mx_lald C hO (a := 3) rfl hw.1 dX8_readTerm_199 ?_
  have hw := hw.2
  refine lv_iload_n hx hb dX8_readTerm_200 rfl (lv_at hl 2 rfl) ?_
  refine lv_iload hx hb dX8_readTerm_201 (lv_at hl 4 rfl) ?_
  refine lv_if_eq (tgt := 211) hx hb dX8_readTerm_203 (by decide) (fun hc => ?_) (fun hc => ?_)
  · have hw := hw.1 hc
    refine lv_iconst (v := 1) hx hb dX8_readTerm_211 (by decide) ?_
    exact k_readTerm_212 C (((4 : Int32) * x1) + x7) (σ.1 3 (((4 : Int32) * x1) + x7).toNatClampNeg) x2 ((1 : Int32)) σ hw H locs ls hO (lv_sub hl [0] rfl)
  · have hw := hw.2 hc
    refine lv_iload hx hb dX8_readTerm_206 (lv_at hl 3 rfl) ?_
    refine lv_goto (tgt := 212) hx hb dX8_readTerm_208 (by decide) ?_
    exact k_readTerm_212 C (((4 : Int32) * x1) + x7) (σ.1 3 (((4 : Int32) * x1) + x7).toNatClampNeg) x2 x5 σ hw H locs ls hO (lv_sub hl [0] rfl)
set_option maxRecDepth 100000 in
set_option maxHeartbeats 4000000 in
theorem k_readTerm_162 {p : Program} {l : Launch} {e : Env} {s : State} {m : MethodId} {args : Array Value} {below : List Frame} {meth : Method} {c : Code} {D : va_G} {y : Nat → ClassId} {ad : Nat → Nat} {X : va_W} {A : Nat → Prop} {Q : Int32 → mS → Prop} (C : mC p s m args meth c cX8_readTerm 8 (some .boolean) wsX8_readTerm D y A) (x1 : Int32) (x2 : Int32) (x3 : Int32) (x5 : Int32) (x6 : Int32) (σ : mS) (hw : w_readTerm_162 Q x1 x2 x3 x5 x6 σ) (H : Heap) (locs : List Loc) (ls : Array Slot) (hO : mO D y ad X A s.heap H locs σ) (hl : lv_has ls 8 [(0, .ref (ad 0)), (1, .int x1), (2, .int x2), (3, .int x3), (5, .int x5), (6, .int x6)]) : W p l e rX8_readTerm s m args below meth c H locs 0 0 (MQ below (va_Qi Q (mB D y ad X A) A) args s 0 0 A) (F0 m 162 ls []) := by
  obtain ⟨hx, hb, hr, hml, hown, hts, hlk, hK, hA⟩ := id C
  have hin : ∀ w ∈ wsX80, w ∈ wsX8_readTerm := fun _ h => List.mem_cons_of_mem _ (List.mem_append_right _ h)
  unfold w_readTerm_162 at hw
  refine lv_iload_n hx hb dX8_readTerm_162 rfl (lv_at hl 3 rfl) ?_
  refine lv_bipush (v := 48) hx hb dX8_readTerm_163 (by decide) ?_
  refine lv_isub hx hb dX8_readTerm_165 ?_
  refine lv_topi (fun x7_101 ex7_101 => ?_)
  have hw := hw x7_101 ex7_101
  refine lv_istore (lv' := [(7, .int x7_101), (0, .ref (ad 0)), (1, .int x1), (2, .int x2), (3, .int x3), (5, .int x5), (6, .int x6)]) hx hb dX8_readTerm_166 hl (by decide) rfl (fun ls hl => ?_)
  refine lv_aload_n hx hb dX8_readTerm_168 rfl (lv_at hl 1 rfl) ?_
  refine lv_dup hx hb dX8_readTerm_169 rfl ?_
  refine mx_get C hO hin 8 (by decide) (idx := 139) (by decide +kernel) rfl rfl dX8_readTerm_170 ?_
  refine lv_iconst (v := 1) hx hb dX8_readTerm_173 (by decide) ?_
  refine lv_iadd hx hb dX8_readTerm_174 ?_
  refine mx_puta C hO hin (idx := 139) (by decide +kernel) dX8_readTerm_175 (fun H locs σ102 eσ102 hO => ?_)
  have hw := hw σ102 eσ102
  refine lv_goto (tgt := 188) hx hb dX8_readTerm_178 (by decide) ?_
  exact k_readTerm_188 C x1 x2 x5 x6 x7_101 σ102 hw H locs ls hO (lv_sub hl [1, 2, 3, 5, 6, 0] rfl)
set_option maxRecDepth 100000 in
set_option maxHeartbeats 4000000 in
theorem k_readTerm_105 {p : Program} {l : Launch} {e : Env} {s : State} {m : MethodId} {args : Array Value} {below : List Frame} {meth : Method} {c : Code} {D : va_G} {y : Nat → ClassId} {ad : Nat → Nat} {X : va_W} {A : Nat → Prop} {Q : Int32 → mS → Prop} (C : mC p s m args meth c cX8_readTerm 8 (some .boolean) wsX8_readTerm D y A) (x1 : Int32) (x2 : Int32) (x4 : Int32) (x5 : Int32) (x6 : Int32) (σ : mS) (hw : w_readTerm_105 Q x1 x2 x4 x5 x6 σ) (H : Heap) (locs : List Loc) (ls : Array Slot) (hO : mO D y ad X A s.heap H locs σ) (hl : lv_has ls 8 [(0, .ref (ad 0)), (1, .int x1), (2, .int x2), (4, .int x4), (5, .int x5), (6, .int x6)]) : W p l e rX8_readTerm s m args below meth c H locs 0 0 (MQ below (va_Qi Q (mB D y ad X A) A) args s 0 0 A) (F0 m 105 ls []) := by
  obtain ⟨hx, hb, hr, hml, hown, hts, hlk, hK, hA⟩ := id C
  have hin : ∀ w ∈ wsX80, w ∈ wsX8_readTerm := fun _ h => List.mem_cons_of_mem _ (List.mem_append_right _ h)
  unfold w_readTerm_105 at hw
  refine lv_iload hx hb dX8_readTerm_105 (lv_at hl 4 rfl) ?_
  refine lv_bipush (v := 99) hx hb dX8_readTerm_107 (by decide) ?_
  refine lv_icmp_le (tgt := 120) hx hb dX8_readTerm_109 (by decide) (fun hc => ?_) (fun hc => ?_)
  · have hw := hw.1 hc
    refine lv_iconst (v := 0) hx hb dX8_readTerm_120 (by decide) ?_
    refine lv_istore (lv' := [(7, .int ((0 : Int32))), (0, .ref (ad 0)), (1, .int x1), (2, .int x2), (4, .int x4), (5, .int x5), (6, .int x6)]) hx hb dX8_readTerm_121 hl (by decide) rfl (fun ls hl => ?_)
    refine lv_aload_n hx hb dX8_readTerm_123 rfl (lv_at hl 1 rfl) ?_
    refine mx_civ C hO (c_next l D y ad X σ _ hw) (cwV 0 hts gX8_readTerm_X8_next rfl rfl rfl (by decide +kernel) ⟨Nat.le_of_ble_eq_true rfl, Nat.le_of_ble_eq_true rfl⟩) rfl hl.1 rfl (lv_room (Nat.le_of_ble_eq_true rfl)) dX8_readTerm_124 (fun u101 σ102 H locs hw hO => ?_)
    refine lv_bipush (v := 116) hx hb dX8_readTerm_127 (by decide) ?_
    refine lv_icmp_ne (tgt := 181) hx hb dX8_readTerm_129 (by decide) (fun hc => ?_) (fun hc => ?_)
    · have hw := hw.1 hc
      refine lv_iload hx hb dX8_readTerm_181 (lv_at hl 6 rfl) ?_
      refine lv_if_ne (tgt := 188) hx hb dX8_readTerm_183 (by decide) (fun hc => ?_) (fun hc => ?_)
      · have hw := hw.1 hc
        exact k_readTerm_188 C x1 x2 x5 x6 ((0 : Int32)) σ102 hw H locs ls hO (lv_sub hl [1, 2, 3, 5, 6, 0] rfl)
      · have hw := hw.2 hc
        refine lv_iconst (v := 0) hx hb dX8_readTerm_186 (by decide) ?_
        exact mx_zret C hO hw.1 hw.2 dX8_readTerm_187
    · have hw := hw.2 hc
      refine lv_aload_n hx hb dX8_readTerm_132 rfl (lv_at hl 1 rfl) ?_
      refine lv_dup hx hb dX8_readTerm_133 rfl ?_
      refine mx_get C hO hin 8 (by decide) (idx := 139) (by decide +kernel) rfl rfl dX8_readTerm_134 ?_
      refine lv_iconst (v := 1) hx hb dX8_readTerm_137 (by decide) ?_
      refine lv_iadd hx hb dX8_readTerm_138 ?_
      refine mx_puta C hO hin (idx := 139) (by decide +kernel) dX8_readTerm_139 (fun H locs σ103 eσ103 hO => ?_)
      have hw := hw σ103 eσ103
      refine lv_iconst (v := 1) hx hb dX8_readTerm_142 (by decide) ?_
      refine lv_istore (lv' := [(7, .int ((1 : Int32))), (0, .ref (ad 0)), (1, .int x1), (2, .int x2), (4, .int x4), (5, .int x5), (6, .int x6)]) hx hb dX8_readTerm_143 hl (by decide) rfl (fun ls hl => ?_)
      refine lv_aload_n hx hb dX8_readTerm_145 rfl (lv_at hl 1 rfl) ?_
      refine mx_civ C hO (c_next l D y ad X σ103 _ hw) (cwV 0 hts gX8_readTerm_X8_next rfl rfl rfl (by decide +kernel) ⟨Nat.le_of_ble_eq_true rfl, Nat.le_of_ble_eq_true rfl⟩) rfl hl.1 rfl (lv_room (Nat.le_of_ble_eq_true rfl)) dX8_readTerm_146 (fun u104 σ105 H locs hw hO => ?_)
      refine lv_istore_n (lv' := [(3, .int u104), (7, .int ((1 : Int32))), (0, .ref (ad 0)), (1, .int x1), (2, .int x2), (4, .int x4), (5, .int x5), (6, .int x6)]) hx hb dX8_readTerm_149 rfl hl (by decide) rfl (fun ls hl => ?_)
      refine lv_iload_n hx hb dX8_readTerm_150 rfl (lv_at hl 0 rfl) ?_
      refine lv_bipush (v := 50) hx hb dX8_readTerm_151 (by decide) ?_
      refine lv_icmp_eq (tgt := 162) hx hb dX8_readTerm_153 (by decide) (fun hc => ?_) (fun hc => ?_)
      · have hw := hw.1 hc
        exact k_readTerm_162 C x1 x2 u104 x5 x6 σ105 hw H locs ls hO (lv_sub hl [2, 3, 4, 0, 6, 7] rfl)
      · have hw := hw.2 hc
        refine lv_iload_n hx hb dX8_readTerm_156 rfl (lv_at hl 0 rfl) ?_
        refine lv_bipush (v := 51) hx hb dX8_readTerm_157 (by decide) ?_
        refine lv_icmp_ne (tgt := 188) hx hb dX8_readTerm_159 (by decide) (fun hc => ?_) (fun hc => ?_)
        · have hw := hw.1 hc
          exact k_readTerm_188 C x1 x2 x5 x6 ((1 : Int32)) σ105 hw H locs ls hO (lv_sub hl [2, 3, 4, 6, 7, 1] rfl)
        · have hw := hw.2 hc
          exact k_readTerm_162 C x1 x2 u104 x5 x6 σ105 hw H locs ls hO (lv_sub hl [2, 3, 4, 0, 6, 7] rfl)
  · have hw := hw.2 hc
    refine lv_aload_n hx hb dX8_readTerm_112 rfl (lv_at hl 0 rfl) ?_
    refine lv_iload hx hb dX8_readTerm_113 (lv_at hl 3 rfl) ?_
    refine mx_puta C hO hin (idx := 139) (by decide +kernel) dX8_readTerm_115 (fun H locs σ106 eσ106 hO => ?_)
    have hw := hw σ106 eσ106
    refine lv_iconst (v := 0) hx hb dX8_readTerm_118 (by decide) ?_
    exact mx_zret C hO hw.1 hw.2 dX8_readTerm_119
set_option maxRecDepth 100000 in
set_option maxHeartbeats 4000000 in
theorem k_readTerm_27 {p : Program} {l : Launch} {e : Env} {s : State} {m : MethodId} {args : Array Value} {below : List Frame} {meth : Method} {c : Code} {D : va_G} {y : Nat → ClassId} {ad : Nat → Nat} {X : va_W} {A : Nat → Prop} {Q : Int32 → mS → Prop} (C : mC p s m args meth c cX8_readTerm 8 (some .boolean) wsX8_readTerm D y A) (n : Nat) : ∀ (x1 : Int32) (x2 : Int32) (x4 : Int32) (x5 : Int32) (x6 : Int32) (σ : mS), w_readTerm_27 Q n x1 x2 x4 x5 x6 σ → ∀ (H : Heap) (locs : List Loc) (ls : Array Slot), mO D y ad X A s.heap H locs σ → lv_has ls 8 [(0, .ref (ad 0)), (1, .int x1), (2, .int x2), (4, .int x4), (5, .int x5), (6, .int x6)] → W p l e rX8_readTerm s m args below meth c H locs 0 0 (MQ below (va_Qi Q (mB D y ad X A) A) args s 0 0 A) (F0 m 27 ls []) := by
  obtain ⟨hx, hb, hr, hml, hown, hts, hlk, hK, hA⟩ := id C
  have hin : ∀ w ∈ wsX80, w ∈ wsX8_readTerm := fun _ h => List.mem_cons_of_mem _ (List.mem_append_right _ h)
  induction n with
  | zero =>
    intro x1 x2 x4 x5 x6 σ hw
    exact (show False from hw).elim
  | succ n ih =>
    intro x1 x2 x4 x5 x6 σ hw H locs ls hO hl
    unfold w_readTerm_27 at hw
    refine lv_aload_n hx hb dX8_readTerm_27 rfl (lv_at hl 0 rfl) ?_
    refine mx_get C hO hin 8 (by decide) (idx := 139) (by decide +kernel) rfl rfl dX8_readTerm_28 ?_
    refine lv_aload_n hx hb dX8_readTerm_31 rfl (lv_at hl 0 rfl) ?_
    refine mx_get C hO hin 7 (by decide) (idx := 135) (by decide +kernel) rfl rfl dX8_readTerm_32 ?_
    refine lv_icmp_ge (tgt := 105) hx hb dX8_readTerm_35 (by decide) (fun hc => ?_) (fun hc => ?_)
    · have hw := hw.1 hc
      exact k_readTerm_105 C x1 x2 x4 x5 x6 σ hw H locs ls hO (lv_sub hl [0, 1, 2, 3, 4, 5] rfl)
    · have hw := hw.2 hc
      refine lv_aload_n hx hb dX8_readTerm_38 rfl (lv_at hl 0 rfl) ?_
      refine mx_get C hO hin 6 (by decide) (idx := 29) (by decide +kernel) rfl rfl dX8_readTerm_39 ?_
      refine lv_aload_n hx hb dX8_readTerm_42 rfl (lv_at hl 0 rfl) ?_
      refine mx_get C hO hin 8 (by decide) (idx := 139) (by decide +kernel) rfl rfl dX8_readTerm_43 ?_
      refine mx_iald C hO (a := 7) rfl hw.1 dX8_readTerm_46 ?_
      have hw := hw.2
      refine lv_i2l hx hb dX8_readTerm_47 rfl ?_
      refine lv_ldc2 (v := 48) hx hb hown (hts (.constantLong RX8 146 (48)) (by decide +kernel)) dX8_readTerm_48 ?_
      refine lv_ldc2 (v := 57) hx hb hown (hts (.constantLong RX8 148 (57)) (by decide +kernel)) dX8_readTerm_51 ?_
      refine mx_cis C hO (c_in l D y ad X σ ((σ.2.1 7 (σ.2.2.2).toNatClampNeg).toInt64) ((48 : Int64)) ((57 : Int64)) _ hw) (va_cwS 3 hts gX8_readTerm_X8_in rfl rfl rfl (by decide +kernel) ⟨Nat.le_of_ble_eq_true rfl, Nat.le_of_ble_eq_true rfl⟩) rfl hl.1 rfl (lv_room (Nat.le_of_ble_eq_true rfl)) dX8_readTerm_54 (fun u101 σ102 H locs hw hO => ?_)
      refine lv_if_eq (tgt := 105) hx hb dX8_readTerm_57 (by decide) (fun hc => ?_) (fun hc => ?_)
      · have hw := hw.1 hc
        exact k_readTerm_105 C x1 x2 x4 x5 x6 σ102 hw H locs ls hO (lv_sub hl [0, 1, 2, 3, 4, 5] rfl)
      · have hw := hw.2 hc
        refine lv_iload hx hb dX8_readTerm_60 (lv_at hl 4 rfl) ?_
        refine lv_bipush (v := 99) hx hb dX8_readTerm_62 (by decide) ?_
        refine lv_icmp_le (tgt := 72) hx hb dX8_readTerm_64 (by decide) (fun hc => ?_) (fun hc => ?_)
        · have hw := hw.1 hc
          refine lv_bipush (v := 10) hx hb dX8_readTerm_72 (by decide) ?_
          refine lv_iload hx hb dX8_readTerm_74 (lv_at hl 4 rfl) ?_
          refine lv_imul hx hb dX8_readTerm_76 ?_
          refine lv_aload_n hx hb dX8_readTerm_77 rfl (lv_at hl 0 rfl) ?_
          refine mx_get C hO hin 6 (by decide) (idx := 29) (by decide +kernel) rfl rfl dX8_readTerm_78 ?_
          refine lv_aload_n hx hb dX8_readTerm_81 rfl (lv_at hl 0 rfl) ?_
          refine mx_get C hO hin 8 (by decide) (idx := 139) (by decide +kernel) rfl rfl dX8_readTerm_82 ?_
          refine mx_iald C hO (a := 7) rfl hw.1 dX8_readTerm_85 ?_
          have hw := hw.2
          refine lv_iadd hx hb dX8_readTerm_86 ?_
          refine lv_bipush (v := 48) hx hb dX8_readTerm_87 (by decide) ?_
          refine lv_isub hx hb dX8_readTerm_89 ?_
          exact k_readTerm_90 C (fun x1 x2 x4 x5 x6 σ hw H locs ls hO hl => ih x1 x2 x4 x5 x6 σ hw H locs ls hO hl) x1 x2 x4 x6 ((((10 : Int32) * x5) + (σ102.2.1 7 (σ102.2.2.2).toNatClampNeg)) - (48 : Int32)) σ102 hw H locs ls hO (lv_sub hl [0, 1, 2, 3, 5] rfl)
        · have hw := hw.2 hc
          refine lv_iload hx hb dX8_readTerm_67 (lv_at hl 4 rfl) ?_
          refine lv_goto (tgt := 90) hx hb dX8_readTerm_69 (by decide) ?_
          exact k_readTerm_90 C (fun x1 x2 x4 x5 x6 σ hw H locs ls hO hl => ih x1 x2 x4 x5 x6 σ hw H locs ls hO hl) x1 x2 x4 x6 x5 σ102 hw H locs ls hO (lv_sub hl [0, 1, 2, 3, 5] rfl)
set_option maxRecDepth 100000 in
set_option maxHeartbeats 4000000 in
theorem k_readTerm_e {p : Program} {l : Launch} {e : Env} {s : State} {m : MethodId} {args : Array Value} {below : List Frame} {meth : Method} {c : Code} {D : va_G} {y : Nat → ClassId} {ad : Nat → Nat} {X : va_W} {A : Nat → Prop} {Q : Int32 → mS → Prop} (C : mC p s m args meth c cX8_readTerm 8 (some .boolean) wsX8_readTerm D y A) (x1 : Int32) (x2 : Int32) (σ : mS) (hw : w_readTerm Q x1 x2 σ) (H : Heap) (locs : List Loc) (ls : Array Slot) (hO : mO D y ad X A s.heap H locs σ) (hl : lv_has ls 8 [(0, .ref (ad 0)), (1, .int x1), (2, .int x2)]) : W p l e rX8_readTerm s m args below meth c H locs 0 0 (MQ below (va_Qi Q (mB D y ad X A) A) args s 0 0 A) (F0 m 0 ls []) := by
  obtain ⟨hx, hb, hr, hml, hown, hts, hlk, hK, hA⟩ := id C
  have hin : ∀ w ∈ wsX80, w ∈ wsX8_readTerm := fun _ h => List.mem_cons_of_mem _ (List.mem_append_right _ h)
  unfold w_readTerm at hw
  refine lv_aload_n hx hb dX8_readTerm_0 rfl (lv_at hl 0 rfl) ?_
  refine mx_civ C hO (c_next l D y ad X σ _ hw) (cwV 0 hts gX8_readTerm_X8_next rfl rfl rfl (by decide +kernel) ⟨Nat.le_of_ble_eq_true rfl, Nat.le_of_ble_eq_true rfl⟩) rfl hl.1 rfl (lv_room (Nat.le_of_ble_eq_true rfl)) dX8_readTerm_1 (fun u101 σ102 H locs hw hO => ?_)
  refine lv_istore_n (lv' := [(3, .int u101), (0, .ref (ad 0)), (1, .int x1), (2, .int x2)]) hx hb dX8_readTerm_4 rfl hl (by decide) rfl (fun ls hl => ?_)
  refine lv_aload_n hx hb dX8_readTerm_5 rfl (lv_at hl 1 rfl) ?_
  refine mx_get C hO hin 8 (by decide) (idx := 139) (by decide +kernel) rfl rfl dX8_readTerm_6 ?_
  refine lv_topi (fun x4_103 ex4_103 => ?_)
  have hw := hw x4_103 ex4_103
  refine lv_istore (lv' := [(4, .int x4_103), (3, .int u101), (0, .ref (ad 0)), (1, .int x1), (2, .int x2)]) hx hb dX8_readTerm_9 hl (by decide) rfl (fun ls hl => ?_)
  refine lv_iconst (v := 0) hx hb dX8_readTerm_11 (by decide) ?_
  refine lv_istore (lv' := [(5, .int ((0 : Int32))), (4, .int x4_103), (3, .int u101), (0, .ref (ad 0)), (1, .int x1), (2, .int x2)]) hx hb dX8_readTerm_12 hl (by decide) rfl (fun ls hl => ?_)
  refine lv_iload_n hx hb dX8_readTerm_14 rfl (lv_at hl 2 rfl) ?_
  refine lv_i2l hx hb dX8_readTerm_15 rfl ?_
  refine lv_ldc2 (v := 48) hx hb hown (hts (.constantLong RX8 146 (48)) (by decide +kernel)) dX8_readTerm_16 ?_
  refine lv_ldc2 (v := 57) hx hb hown (hts (.constantLong RX8 148 (57)) (by decide +kernel)) dX8_readTerm_19 ?_
  refine mx_cis C hO (c_in l D y ad X σ102 (u101.toInt64) ((48 : Int64)) ((57 : Int64)) _ hw) (va_cwS 3 hts gX8_readTerm_X8_in rfl rfl rfl (by decide +kernel) ⟨Nat.le_of_ble_eq_true rfl, Nat.le_of_ble_eq_true rfl⟩) rfl hl.1 rfl (lv_room (Nat.le_of_ble_eq_true rfl)) dX8_readTerm_22 (fun u104 σ105 H locs hw hO => ?_)
  refine lv_istore (lv' := [(6, .int u104), (5, .int ((0 : Int32))), (4, .int x4_103), (3, .int u101), (0, .ref (ad 0)), (1, .int x1), (2, .int x2)]) hx hb dX8_readTerm_25 hl (by decide) rfl (fun ls hl => ?_)
  exact k_readTerm_27 C fuL x1 x2 x4_103 ((0 : Int32)) u104 σ105 hw H locs ls hO (lv_sub hl [4, 5, 6, 2, 1, 0] rfl)
theorem c_readTerm (l : Launch) (D : va_G) (y : Nat → ClassId) (ad : Nat → Nat) (X : va_W) (σ : mS) (x1 : Int32) (x2 : Int32) (Q : Int32 → mS → Prop) (hw : w_readTerm Q x1 x2 σ) : ∀ sz, Met l yX8_readTerm wsX8_readTerm rX8_readTerm (va_Pc [.ref (ad 0), .int x1, .int x2] (mPre D y ad X sz σ)) (va_Qi Q (mB D y ad X (va_A (mW y ad σ ++ X) sz)) (va_A (mW y ad σ ++ X) sz)) 0 0 (va_A (mW y ad σ ++ X) sz) :=
  mMet (Qc := fun A => va_Qi Q (mB D y ad X A) A) rfl (Nat.le_of_ble_eq_true rfl) (fun p e s m args below meth c A ls C hO hl => k_readTerm_e C x1 x2 σ hw s.heap [] ls hO hl)
abbrev rX8_readPolynomial : Room := { frames := 2, cells := 0, slots := 0, locals := 52 }
set_option maxRecDepth 100000 in
set_option maxHeartbeats 4000000 in
theorem k_readPolynomial_86 {p : Program} {l : Launch} {e : Env} {s : State} {m : MethodId} {args : Array Value} {below : List Frame} {meth : Method} {c : Code} {D : va_G} {y : Nat → ClassId} {ad : Nat → Nat} {X : va_W} {A : Nat → Prop} {Q : Int32 → mS → Prop} (C : mC p s m args meth c cX8_readPolynomial 3 (some .boolean) wsX8_readPolynomial D y A) {r51 : Int32 → Int32 → mS → Prop} (hr51 : ∀ (x1 : Int32) (x2 : Int32) (σ : mS), r51 x1 x2 σ → ∀ (H : Heap) (locs : List Loc) (ls : Array Slot), mO D y ad X A s.heap H locs σ → lv_has ls 3 [(0, .ref (ad 0)), (1, .int x1), (2, .int x2)] → W p l e rX8_readPolynomial s m args below meth c H locs 0 0 (MQ below (va_Qi Q (mB D y ad X A) A) args s 0 0 A) (F0 m 51 ls [])) (x1 : Int32) (z1 : Int32) (z2 : Int32) (σ : mS) (hw : w_readPolynomial_86 Q r51 x1 z1 z2 σ) (H : Heap) (locs : List Loc) (ls : Array Slot) (hO : mO D y ad X A s.heap H locs σ) (hl : lv_has ls 3 [(0, .ref (ad 0)), (1, .int x1)]) : W p l e rX8_readPolynomial s m args below meth c H locs 0 0 (MQ below (va_Qi Q (mB D y ad X A) A) args s 0 0 A) (F0 m 86 ls [.int z2, .int z1, .ref (ad 0)]) := by
  obtain ⟨hx, hb, hr, hml, hown, hts, hlk, hK, hA⟩ := id C
  unfold w_readPolynomial_86 at hw
  refine mx_civ C hO (c_readTerm l D y ad X σ z1 z2 _ hw) (cwV 2 hts gX8_readPolynomial_X8_readTerm rfl rfl rfl (by decide +kernel) ⟨Nat.le_of_ble_eq_true rfl, Nat.le_of_ble_eq_true rfl⟩) rfl hl.1 rfl (lv_room (Nat.le_of_ble_eq_true rfl)) dX8_readPolynomial_86 (fun u101 σ102 H locs hw hO => ?_)
  refine lv_if_ne (tgt := 94) hx hb dX8_readPolynomial_89 (by decide) (fun hc => ?_) (fun hc => ?_)
  · have hw := hw.1 hc
    refine lv_aload_n hx hb dX8_readPolynomial_94 rfl (lv_at hl 0 rfl) ?_
    refine mx_civ C hO (c_next l D y ad X σ102 _ hw) (cwV 0 hts gX8_readPolynomial_X8_next rfl rfl rfl (by decide +kernel) ⟨Nat.le_of_ble_eq_true rfl, Nat.le_of_ble_eq_true rfl⟩) rfl hl.1 rfl (lv_room (Nat.le_of_ble_eq_true rfl)) dX8_readPolynomial_95 (fun u103 σ104 H locs hw hO => ?_)
    refine lv_istore_n (lv' := [(2, .int u103), (0, .ref (ad 0)), (1, .int x1)]) hx hb dX8_readPolynomial_98 rfl hl (by decide) rfl (fun ls hl => ?_)
    refine lv_goto (tgt := 51) hx hb dX8_readPolynomial_99 (by decide) ?_
    exact hr51 x1 u103 σ104 hw H locs ls hO (lv_sub hl [1, 2, 0] rfl)
  · have hw := hw.2 hc
    refine lv_iconst (v := 0) hx hb dX8_readPolynomial_92 (by decide) ?_
    exact mx_zret C hO hw.1 hw.2 dX8_readPolynomial_93
set_option maxRecDepth 100000 in
set_option maxHeartbeats 4000000 in
theorem k_readPolynomial_63 {p : Program} {l : Launch} {e : Env} {s : State} {m : MethodId} {args : Array Value} {below : List Frame} {meth : Method} {c : Code} {D : va_G} {y : Nat → ClassId} {ad : Nat → Nat} {X : va_W} {A : Nat → Prop} {Q : Int32 → mS → Prop} (C : mC p s m args meth c cX8_readPolynomial 3 (some .boolean) wsX8_readPolynomial D y A) {r51 : Int32 → Int32 → mS → Prop} (hr51 : ∀ (x1 : Int32) (x2 : Int32) (σ : mS), r51 x1 x2 σ → ∀ (H : Heap) (locs : List Loc) (ls : Array Slot), mO D y ad X A s.heap H locs σ → lv_has ls 3 [(0, .ref (ad 0)), (1, .int x1), (2, .int x2)] → W p l e rX8_readPolynomial s m args below meth c H locs 0 0 (MQ below (va_Qi Q (mB D y ad X A) A) args s 0 0 A) (F0 m 51 ls [])) (x1 : Int32) (x2 : Int32) (σ : mS) (hw : w_readPolynomial_63 Q r51 x1 x2 σ) (H : Heap) (locs : List Loc) (ls : Array Slot) (hO : mO D y ad X A s.heap H locs σ) (hl : lv_has ls 3 [(0, .ref (ad 0)), (1, .int x1), (2, .int x2)]) : W p l e rX8_readPolynomial s m args below meth c H locs 0 0 (MQ below (va_Qi Q (mB D y ad X A) A) args s 0 0 A) (F0 m 63 ls []) := by
  obtain ⟨hx, hb, hr, hml, hown, hts, hlk, hK, hA⟩ := id C
  have hin : ∀ w ∈ wsX80, w ∈ wsX8_readPolynomial := fun _ h => List.mem_cons_of_mem _ (List.mem_append_right _ h)
  unfold w_readPolynomial_63 at hw
  refine lv_aload_n hx hb dX8_readPolynomial_63 rfl (lv_at hl 0 rfl) ?_
  refine lv_dup hx hb dX8_readPolynomial_64 rfl ?_
  refine mx_get C hO hin 8 (by decide) (idx := 139) (by decide +kernel) rfl rfl dX8_readPolynomial_65 ?_
  refine lv_iconst (v := 1) hx hb dX8_readPolynomial_68 (by decide) ?_
  refine lv_iadd hx hb dX8_readPolynomial_69 ?_
  refine mx_puta C hO hin (idx := 139) (by decide +kernel) dX8_readPolynomial_70 (fun H locs σ101 eσ101 hO => ?_)
  have hw := hw σ101 eσ101
  refine lv_aload_n hx hb dX8_readPolynomial_73 rfl (lv_at hl 0 rfl) ?_
  refine lv_iload_n hx hb dX8_readPolynomial_74 rfl (lv_at hl 1 rfl) ?_
  refine lv_iload_n hx hb dX8_readPolynomial_75 rfl (lv_at hl 2 rfl) ?_
  refine lv_bipush (v := 45) hx hb dX8_readPolynomial_76 (by decide) ?_
  refine lv_icmp_ne (tgt := 85) hx hb dX8_readPolynomial_78 (by decide) (fun hc => ?_) (fun hc => ?_)
  · have hw := hw.1 hc
    refine lv_iconst (v := 1) hx hb dX8_readPolynomial_85 (by decide) ?_
    exact k_readPolynomial_86 C hr51 x1 x1 ((1 : Int32)) σ101 hw H locs ls hO (lv_sub hl [0, 1] rfl)
  · have hw := hw.2 hc
    refine lv_iconst (v := -1) hx hb dX8_readPolynomial_81 (by decide) ?_
    refine lv_goto (tgt := 86) hx hb dX8_readPolynomial_82 (by decide) ?_
    exact k_readPolynomial_86 C hr51 x1 x1 ((-1 : Int32)) σ101 hw H locs ls hO (lv_sub hl [0, 1] rfl)
set_option maxRecDepth 100000 in
set_option maxHeartbeats 4000000 in
theorem k_readPolynomial_51 {p : Program} {l : Launch} {e : Env} {s : State} {m : MethodId} {args : Array Value} {below : List Frame} {meth : Method} {c : Code} {D : va_G} {y : Nat → ClassId} {ad : Nat → Nat} {X : va_W} {A : Nat → Prop} {Q : Int32 → mS → Prop} (C : mC p s m args meth c cX8_readPolynomial 3 (some .boolean) wsX8_readPolynomial D y A) (n : Nat) : ∀ (x1 : Int32) (x2 : Int32) (σ : mS), w_readPolynomial_51 Q n x1 x2 σ → ∀ (H : Heap) (locs : List Loc) (ls : Array Slot), mO D y ad X A s.heap H locs σ → lv_has ls 3 [(0, .ref (ad 0)), (1, .int x1), (2, .int x2)] → W p l e rX8_readPolynomial s m args below meth c H locs 0 0 (MQ below (va_Qi Q (mB D y ad X A) A) args s 0 0 A) (F0 m 51 ls []) := by
  obtain ⟨hx, hb, hr, hml, hown, hts, hlk, hK, hA⟩ := id C
  induction n with
  | zero =>
    intro x1 x2 σ hw
    exact (show False from hw).elim
  | succ n ih =>
    intro x1 x2 σ hw H locs ls hO hl
    unfold w_readPolynomial_51 at hw
    refine lv_iload_n hx hb dX8_readPolynomial_51 rfl (lv_at hl 2 rfl) ?_
    refine lv_bipush (v := 43) hx hb dX8_readPolynomial_52 (by decide) ?_
    refine lv_icmp_eq (tgt := 63) hx hb dX8_readPolynomial_54 (by decide) (fun hc => ?_) (fun hc => ?_)
    · have hw := hw.1 hc
      exact k_readPolynomial_63 C (fun x1 x2 σ hw H locs ls hO hl => ih x1 x2 σ hw H locs ls hO hl) x1 x2 σ hw H locs ls hO (lv_sub hl [0, 1, 2] rfl)
    · have hw := hw.2 hc
      refine lv_iload_n hx hb dX8_readPolynomial_57 rfl (lv_at hl 2 rfl) ?_
      refine lv_bipush (v := 45) hx hb dX8_readPolynomial_58 (by decide) ?_
      refine lv_icmp_ne (tgt := 102) hx hb dX8_readPolynomial_60 (by decide) (fun hc => ?_) (fun hc => ?_)
      · have hw := hw.1 hc
        refine lv_iconst (v := 1) hx hb dX8_readPolynomial_102 (by decide) ?_
        exact mx_zret C hO hw.1 hw.2 dX8_readPolynomial_103
      · have hw := hw.2 hc
        exact k_readPolynomial_63 C (fun x1 x2 σ hw H locs ls hO hl => ih x1 x2 σ hw H locs ls hO hl) x1 x2 σ hw H locs ls hO (lv_sub hl [0, 1, 2] rfl)
set_option maxRecDepth 100000 in
set_option maxHeartbeats 4000000 in
theorem k_readPolynomial_38 {p : Program} {l : Launch} {e : Env} {s : State} {m : MethodId} {args : Array Value} {below : List Frame} {meth : Method} {c : Code} {D : va_G} {y : Nat → ClassId} {ad : Nat → Nat} {X : va_W} {A : Nat → Prop} {Q : Int32 → mS → Prop} (C : mC p s m args meth c cX8_readPolynomial 3 (some .boolean) wsX8_readPolynomial D y A) (x1 : Int32) (z1 : Int32) (z2 : Int32) (σ : mS) (hw : w_readPolynomial_38 Q x1 z1 z2 σ) (H : Heap) (locs : List Loc) (ls : Array Slot) (hO : mO D y ad X A s.heap H locs σ) (hl : lv_has ls 3 [(0, .ref (ad 0)), (1, .int x1)]) : W p l e rX8_readPolynomial s m args below meth c H locs 0 0 (MQ below (va_Qi Q (mB D y ad X A) A) args s 0 0 A) (F0 m 38 ls [.int z2, .int z1, .ref (ad 0)]) := by
  obtain ⟨hx, hb, hr, hml, hown, hts, hlk, hK, hA⟩ := id C
  unfold w_readPolynomial_38 at hw
  refine mx_civ C hO (c_readTerm l D y ad X σ z1 z2 _ hw) (cwV 2 hts gX8_readPolynomial_X8_readTerm rfl rfl rfl (by decide +kernel) ⟨Nat.le_of_ble_eq_true rfl, Nat.le_of_ble_eq_true rfl⟩) rfl hl.1 rfl (lv_room (Nat.le_of_ble_eq_true rfl)) dX8_readPolynomial_38 (fun u101 σ102 H locs hw hO => ?_)
  refine lv_if_ne (tgt := 46) hx hb dX8_readPolynomial_41 (by decide) (fun hc => ?_) (fun hc => ?_)
  · have hw := hw.1 hc
    refine lv_aload_n hx hb dX8_readPolynomial_46 rfl (lv_at hl 0 rfl) ?_
    refine mx_civ C hO (c_next l D y ad X σ102 _ hw) (cwV 0 hts gX8_readPolynomial_X8_next rfl rfl rfl (by decide +kernel) ⟨Nat.le_of_ble_eq_true rfl, Nat.le_of_ble_eq_true rfl⟩) rfl hl.1 rfl (lv_room (Nat.le_of_ble_eq_true rfl)) dX8_readPolynomial_47 (fun u103 σ104 H locs hw hO => ?_)
    refine lv_istore_n (lv' := [(2, .int u103), (0, .ref (ad 0)), (1, .int x1)]) hx hb dX8_readPolynomial_50 rfl hl (by decide) rfl (fun ls hl => ?_)
    exact k_readPolynomial_51 C fuL x1 u103 σ104 hw H locs ls hO (lv_sub hl [1, 2, 0] rfl)
  · have hw := hw.2 hc
    refine lv_iconst (v := 0) hx hb dX8_readPolynomial_44 (by decide) ?_
    exact mx_zret C hO hw.1 hw.2 dX8_readPolynomial_45
set_option maxRecDepth 100000 in
set_option maxHeartbeats 4000000 in
theorem k_readPolynomial_21 {p : Program} {l : Launch} {e : Env} {s : State} {m : MethodId} {args : Array Value} {below : List Frame} {meth : Method} {c : Code} {D : va_G} {y : Nat → ClassId} {ad : Nat → Nat} {X : va_W} {A : Nat → Prop} {Q : Int32 → mS → Prop} (C : mC p s m args meth c cX8_readPolynomial 3 (some .boolean) wsX8_readPolynomial D y A) (x1 : Int32) (x2 : Int32) (z1 : Int32) (z2 : Int32) (σ : mS) (hw : w_readPolynomial_21 Q x1 x2 z1 z2 σ) (H : Heap) (locs : List Loc) (ls : Array Slot) (hO : mO D y ad X A s.heap H locs σ) (hl : lv_has ls 3 [(0, .ref (ad 0)), (1, .int x1), (2, .int x2)]) : W p l e rX8_readPolynomial s m args below meth c H locs 0 0 (MQ below (va_Qi Q (mB D y ad X A) A) args s 0 0 A) (F0 m 21 ls [.int z2, .int z1, .ref (ad 0)]) := by
  obtain ⟨hx, hb, hr, hml, hown, hts, hlk, hK, hA⟩ := id C
  have hin : ∀ w ∈ wsX80, w ∈ wsX8_readPolynomial := fun _ h => List.mem_cons_of_mem _ (List.mem_append_right _ h)
  unfold w_readPolynomial_21 at hw
  refine lv_iadd hx hb dX8_readPolynomial_21 ?_
  refine mx_puta C hO hin (idx := 139) (by decide +kernel) dX8_readPolynomial_22 (fun H locs σ101 eσ101 hO => ?_)
  have hw := hw σ101 eσ101
  refine lv_aload_n hx hb dX8_readPolynomial_25 rfl (lv_at hl 0 rfl) ?_
  refine lv_iload_n hx hb dX8_readPolynomial_26 rfl (lv_at hl 1 rfl) ?_
  refine lv_iload_n hx hb dX8_readPolynomial_27 rfl (lv_at hl 2 rfl) ?_
  refine lv_bipush (v := 45) hx hb dX8_readPolynomial_28 (by decide) ?_
  refine lv_icmp_ne (tgt := 37) hx hb dX8_readPolynomial_30 (by decide) (fun hc => ?_) (fun hc => ?_)
  · have hw := hw.1 hc
    refine lv_iconst (v := 1) hx hb dX8_readPolynomial_37 (by decide) ?_
    exact k_readPolynomial_38 C x1 x1 ((1 : Int32)) σ101 hw H locs ls hO (lv_sub hl [0, 1] rfl)
  · have hw := hw.2 hc
    refine lv_iconst (v := -1) hx hb dX8_readPolynomial_33 (by decide) ?_
    refine lv_goto (tgt := 38) hx hb dX8_readPolynomial_34 (by decide) ?_
    exact k_readPolynomial_38 C x1 x1 ((-1 : Int32)) σ101 hw H locs ls hO (lv_sub hl [0, 1] rfl)
set_option maxRecDepth 100000 in
set_option maxHeartbeats 4000000 in
theorem k_readPolynomial_e {p : Program} {l : Launch} {e : Env} {s : State} {m : MethodId} {args : Array Value} {below : List Frame} {meth : Method} {c : Code} {D : va_G} {y : Nat → ClassId} {ad : Nat → Nat} {X : va_W} {A : Nat → Prop} {Q : Int32 → mS → Prop} (C : mC p s m args meth c cX8_readPolynomial 3 (some .boolean) wsX8_readPolynomial D y A) (x1 : Int32) (σ : mS) (hw : w_readPolynomial Q x1 σ) (H : Heap) (locs : List Loc) (ls : Array Slot) (hO : mO D y ad X A s.heap H locs σ) (hl : lv_has ls 3 [(0, .ref (ad 0)), (1, .int x1)]) : W p l e rX8_readPolynomial s m args below meth c H locs 0 0 (MQ below (va_Qi Q (mB D y ad X A) A) args s 0 0 A) (F0 m 0 ls []) := by
  obtain ⟨hx, hb, hr, hml, hown, hts, hlk, hK, hA⟩ := id C
  have hin : ∀ w ∈ wsX80, w ∈ wsX8_readPolynomial := fun _ h => List.mem_cons_of_mem _ (List.mem_append_right _ h)
  unfold w_readPolynomial at hw
  refine lv_aload_n hx hb dX8_readPolynomial_0 rfl (lv_at hl 0 rfl) ?_
  refine mx_civ C hO (c_next l D y ad X σ _ hw) (cwV 0 hts gX8_readPolynomial_X8_next rfl rfl rfl (by decide +kernel) ⟨Nat.le_of_ble_eq_true rfl, Nat.le_of_ble_eq_true rfl⟩) rfl hl.1 rfl (lv_room (Nat.le_of_ble_eq_true rfl)) dX8_readPolynomial_1 (fun u101 σ102 H locs hw hO => ?_)
  refine lv_istore_n (lv' := [(2, .int u101), (0, .ref (ad 0)), (1, .int x1)]) hx hb dX8_readPolynomial_4 rfl hl (by decide) rfl (fun ls hl => ?_)
  refine lv_aload_n hx hb dX8_readPolynomial_5 rfl (lv_at hl 1 rfl) ?_
  refine lv_dup hx hb dX8_readPolynomial_6 rfl ?_
  refine mx_get C hO hin 8 (by decide) (idx := 139) (by decide +kernel) rfl rfl dX8_readPolynomial_7 ?_
  refine lv_iload_n hx hb dX8_readPolynomial_10 rfl (lv_at hl 0 rfl) ?_
  refine lv_bipush (v := 45) hx hb dX8_readPolynomial_11 (by decide) ?_
  refine lv_icmp_ne (tgt := 20) hx hb dX8_readPolynomial_13 (by decide) (fun hc => ?_) (fun hc => ?_)
  · have hw := hw.1 hc
    refine lv_iconst (v := 0) hx hb dX8_readPolynomial_20 (by decide) ?_
    exact k_readPolynomial_21 C x1 u101 (σ102.2.2.2) ((0 : Int32)) σ102 hw H locs ls hO (lv_sub hl [1, 2, 0] rfl)
  · have hw := hw.2 hc
    refine lv_iconst (v := 1) hx hb dX8_readPolynomial_16 (by decide) ?_
    refine lv_goto (tgt := 21) hx hb dX8_readPolynomial_17 (by decide) ?_
    exact k_readPolynomial_21 C x1 u101 (σ102.2.2.2) ((1 : Int32)) σ102 hw H locs ls hO (lv_sub hl [1, 2, 0] rfl)
theorem c_readPolynomial (l : Launch) (D : va_G) (y : Nat → ClassId) (ad : Nat → Nat) (X : va_W) (σ : mS) (x1 : Int32) (Q : Int32 → mS → Prop) (hw : w_readPolynomial Q x1 σ) : ∀ sz, Met l yX8_readPolynomial wsX8_readPolynomial rX8_readPolynomial (va_Pc [.ref (ad 0), .int x1] (mPre D y ad X sz σ)) (va_Qi Q (mB D y ad X (va_A (mW y ad σ ++ X) sz)) (va_A (mW y ad σ ++ X) sz)) 0 0 (va_A (mW y ad σ ++ X) sz) :=
  mMet (Qc := fun A => va_Qi Q (mB D y ad X A) A) rfl (Nat.le_of_ble_eq_true rfl) (fun p e s m args below meth c A ls C hO hl => k_readPolynomial_e C x1 σ hw s.heap [] ls hO hl)
abbrev rX8_readLine : Room := { frames := 3, cells := 0, slots := 0, locals := 74 }
set_option maxRecDepth 100000 in
set_option maxHeartbeats 4000000 in
theorem k_readLine_59 {p : Program} {l : Launch} {e : Env} {s : State} {m : MethodId} {args : Array Value} {below : List Frame} {meth : Method} {c : Code} {D : va_G} {y : Nat → ClassId} {ad : Nat → Nat} {X : va_W} {A : Nat → Prop} {Q : Int32 → mS → Prop} (C : mC p s m args meth c cX8_readLine 2 (some .boolean) wsX8_readLine D y A) {r28 : Int32 → mS → Prop} (hr28 : ∀ (x1 : Int32) (σ : mS), r28 x1 σ → ∀ (H : Heap) (locs : List Loc) (ls : Array Slot), mO D y ad X A s.heap H locs σ → lv_has ls 2 [(0, .ref (ad 0)), (1, .int x1)] → W p l e rX8_readLine s m args below meth c H locs 0 0 (MQ below (va_Qi Q (mB D y ad X A) A) args s 0 0 A) (F0 m 28 ls []))  (σ : mS) (hw : w_readLine_59 Q r28 σ) (H : Heap) (locs : List Loc) (ls : Array Slot) (hO : mO D y ad X A s.heap H locs σ) (hl : lv_has ls 2 [(0, .ref (ad 0))]) : W p l e rX8_readLine s m args below meth c H locs 0 0 (MQ below (va_Qi Q (mB D y ad X A) A) args s 0 0 A) (F0 m 59 ls []) := by
  obtain ⟨hx, hb, hr, hml, hown, hts, hlk, hK, hA⟩ := id C
  unfold w_readLine_59 at hw
  refine lv_iconst (v := 0) hx hb dX8_readLine_59 (by decide) ?_
  exact mx_zret C hO hw.1 hw.2 dX8_readLine_60
set_option maxRecDepth 100000 in
set_option maxHeartbeats 4000000 in
theorem k_readLine_76 {p : Program} {l : Launch} {e : Env} {s : State} {m : MethodId} {args : Array Value} {below : List Frame} {meth : Method} {c : Code} {D : va_G} {y : Nat → ClassId} {ad : Nat → Nat} {X : va_W} {A : Nat → Prop} {Q : Int32 → mS → Prop} (C : mC p s m args meth c cX8_readLine 2 (some .boolean) wsX8_readLine D y A) {r28 : Int32 → mS → Prop} (hr28 : ∀ (x1 : Int32) (σ : mS), r28 x1 σ → ∀ (H : Heap) (locs : List Loc) (ls : Array Slot), mO D y ad X A s.heap H locs σ → lv_has ls 2 [(0, .ref (ad 0)), (1, .int x1)] → W p l e rX8_readLine s m args below meth c H locs 0 0 (MQ below (va_Qi Q (mB D y ad X A) A) args s 0 0 A) (F0 m 28 ls [])) (x1 : Int32) (z1 : Int32) (z2 : Int32) (σ : mS) (hw : w_readLine_76 Q r28 x1 z1 z2 σ) (H : Heap) (locs : List Loc) (ls : Array Slot) (hO : mO D y ad X A s.heap H locs σ) (hl : lv_has ls 2 [(0, .ref (ad 0)), (1, .int x1)]) : W p l e rX8_readLine s m args below meth c H locs 0 0 (MQ below (va_Qi Q (mB D y ad X A) A) args s 0 0 A) (F0 m 76 ls [.int z2, .int z1, .ref (ad 0)]) := by
  obtain ⟨hx, hb, hr, hml, hown, hts, hlk, hK, hA⟩ := id C
  have hin : ∀ w ∈ wsX80, w ∈ wsX8_readLine := fun _ h => List.mem_cons_of_mem _ (List.mem_append_right _ h)
  unfold w_readLine_76 at hw
  refine lv_iadd hx hb dX8_readLine_76 ?_
  refine mx_puta C hO hin (idx := 139) (by decide +kernel) dX8_readLine_77 (fun H locs σ101 eσ101 hO => ?_)
  have hw := hw σ101 eσ101
  obtain ⟨x1_102, ex1_102⟩ : ∃ y : Int32, y = x1 + 1 := ⟨_, rfl⟩
  have hw := hw x1_102 ex1_102
  refine lv_iinc (v := x1_102) (lv' := [(1, .int x1_102), (0, .ref (ad 0))]) hx hb dX8_readLine_80 hl (k := 1) rfl (by rw [ex1_102]; rfl) (by decide) rfl (fun ls hl => ?_)
  refine lv_goto (tgt := 28) hx hb dX8_readLine_83 (by decide) ?_
  exact hr28 x1_102 σ101 hw H locs ls hO (lv_sub hl [1, 0] rfl)
set_option maxRecDepth 100000 in
set_option maxHeartbeats 4000000 in
theorem k_readLine_56 {p : Program} {l : Launch} {e : Env} {s : State} {m : MethodId} {args : Array Value} {below : List Frame} {meth : Method} {c : Code} {D : va_G} {y : Nat → ClassId} {ad : Nat → Nat} {X : va_W} {A : Nat → Prop} {Q : Int32 → mS → Prop} (C : mC p s m args meth c cX8_readLine 2 (some .boolean) wsX8_readLine D y A) {r28 : Int32 → mS → Prop} (hr28 : ∀ (x1 : Int32) (σ : mS), r28 x1 σ → ∀ (H : Heap) (locs : List Loc) (ls : Array Slot), mO D y ad X A s.heap H locs σ → lv_has ls 2 [(0, .ref (ad 0)), (1, .int x1)] → W p l e rX8_readLine s m args below meth c H locs 0 0 (MQ below (va_Qi Q (mB D y ad X A) A) args s 0 0 A) (F0 m 28 ls [])) (x1 : Int32) (z0 : Int32) (z1 : Int32) (σ : mS) (hw : w_readLine_56 Q r28 x1 z0 z1 σ) (H : Heap) (locs : List Loc) (ls : Array Slot) (hO : mO D y ad X A s.heap H locs σ) (hl : lv_has ls 2 [(0, .ref (ad 0)), (1, .int x1)]) : W p l e rX8_readLine s m args below meth c H locs 0 0 (MQ below (va_Qi Q (mB D y ad X A) A) args s 0 0 A) (F0 m 56 ls [.int z1, .int z0]) := by
  obtain ⟨hx, hb, hr, hml, hown, hts, hlk, hK, hA⟩ := id C
  have hin : ∀ w ∈ wsX80, w ∈ wsX8_readLine := fun _ h => List.mem_cons_of_mem _ (List.mem_append_right _ h)
  unfold w_readLine_56 at hw
  refine lv_icmp_eq (tgt := 61) hx hb dX8_readLine_56 (by decide) (fun hc => ?_) (fun hc => ?_)
  · have hw := hw.1 hc
    refine lv_aload_n hx hb dX8_readLine_61 rfl (lv_at hl 0 rfl) ?_
    refine lv_dup hx hb dX8_readLine_62 rfl ?_
    refine mx_get C hO hin 8 (by decide) (idx := 139) (by decide +kernel) rfl rfl dX8_readLine_63 ?_
    refine lv_iload_n hx hb dX8_readLine_66 rfl (lv_at hl 1 rfl) ?_
    refine lv_iconst (v := 2) hx hb dX8_readLine_67 (by decide) ?_
    refine lv_icmp_ge (tgt := 75) hx hb dX8_readLine_68 (by decide) (fun hc => ?_) (fun hc => ?_)
    · have hw := hw.1 hc
      refine lv_iconst (v := 0) hx hb dX8_readLine_75 (by decide) ?_
      exact k_readLine_76 C hr28 x1 (σ.2.2.2) ((0 : Int32)) σ hw H locs ls hO (lv_sub hl [0, 1] rfl)
    · have hw := hw.2 hc
      refine lv_iconst (v := 1) hx hb dX8_readLine_71 (by decide) ?_
      refine lv_goto (tgt := 76) hx hb dX8_readLine_72 (by decide) ?_
      exact k_readLine_76 C hr28 x1 (σ.2.2.2) ((1 : Int32)) σ hw H locs ls hO (lv_sub hl [0, 1] rfl)
  · have hw := hw.2 hc
    exact k_readLine_59 C hr28 σ hw H locs ls hO (lv_sub hl [0] rfl)
set_option maxRecDepth 100000 in
set_option maxHeartbeats 4000000 in
theorem k_readLine_28 {p : Program} {l : Launch} {e : Env} {s : State} {m : MethodId} {args : Array Value} {below : List Frame} {meth : Method} {c : Code} {D : va_G} {y : Nat → ClassId} {ad : Nat → Nat} {X : va_W} {A : Nat → Prop} {Q : Int32 → mS → Prop} (C : mC p s m args meth c cX8_readLine 2 (some .boolean) wsX8_readLine D y A) (n : Nat) : ∀ (x1 : Int32) (σ : mS), w_readLine_28 Q n x1 σ → ∀ (H : Heap) (locs : List Loc) (ls : Array Slot), mO D y ad X A s.heap H locs σ → lv_has ls 2 [(0, .ref (ad 0)), (1, .int x1)] → W p l e rX8_readLine s m args below meth c H locs 0 0 (MQ below (va_Qi Q (mB D y ad X A) A) args s 0 0 A) (F0 m 28 ls []) := by
  obtain ⟨hx, hb, hr, hml, hown, hts, hlk, hK, hA⟩ := id C
  induction n with
  | zero =>
    intro x1 σ hw
    exact (show False from hw).elim
  | succ n ih =>
    intro x1 σ hw H locs ls hO hl
    unfold w_readLine_28 at hw
    refine lv_iload_n hx hb dX8_readLine_28 rfl (lv_at hl 1 rfl) ?_
    refine lv_iconst (v := 3) hx hb dX8_readLine_29 (by decide) ?_
    refine lv_icmp_ge (tgt := 86) hx hb dX8_readLine_30 (by decide) (fun hc => ?_) (fun hc => ?_)
    · have hw := hw.1 hc
      refine lv_iconst (v := 1) hx hb dX8_readLine_86 (by decide) ?_
      exact mx_zret C hO hw.1 hw.2 dX8_readLine_87
    · have hw := hw.2 hc
      refine lv_aload_n hx hb dX8_readLine_33 rfl (lv_at hl 0 rfl) ?_
      refine lv_iload_n hx hb dX8_readLine_34 rfl (lv_at hl 1 rfl) ?_
      refine mx_civ C hO (c_readPolynomial l D y ad X σ x1 _ hw) (cwV 1 hts gX8_readLine_X8_readPolynomial rfl rfl rfl (by decide +kernel) ⟨Nat.le_of_ble_eq_true rfl, Nat.le_of_ble_eq_true rfl⟩) rfl hl.1 rfl (lv_room (Nat.le_of_ble_eq_true rfl)) dX8_readLine_35 (fun u101 σ102 H locs hw hO => ?_)
      refine lv_if_eq (tgt := 59) hx hb dX8_readLine_38 (by decide) (fun hc => ?_) (fun hc => ?_)
      · have hw := hw.1 hc
        exact k_readLine_59 C (fun x1 σ hw H locs ls hO hl => ih x1 σ hw H locs ls hO hl) σ102 hw H locs ls hO (lv_sub hl [0] rfl)
      · have hw := hw.2 hc
        refine lv_aload_n hx hb dX8_readLine_41 rfl (lv_at hl 0 rfl) ?_
        refine mx_civ C hO (c_next l D y ad X σ102 _ hw) (cwV 0 hts gX8_readLine_X8_next rfl rfl rfl (by decide +kernel) ⟨Nat.le_of_ble_eq_true rfl, Nat.le_of_ble_eq_true rfl⟩) rfl hl.1 rfl (lv_room (Nat.le_of_ble_eq_true rfl)) dX8_readLine_42 (fun u103 σ104 H locs hw hO => ?_)
        refine lv_iload_n hx hb dX8_readLine_45 rfl (lv_at hl 1 rfl) ?_
        refine lv_iconst (v := 2) hx hb dX8_readLine_46 (by decide) ?_
        refine lv_icmp_ge (tgt := 55) hx hb dX8_readLine_47 (by decide) (fun hc => ?_) (fun hc => ?_)
        · have hw := hw.1 hc
          refine lv_iconst (v := -1) hx hb dX8_readLine_55 (by decide) ?_
          exact k_readLine_56 C (fun x1 σ hw H locs ls hO hl => ih x1 σ hw H locs ls hO hl) x1 u103 ((-1 : Int32)) σ104 hw H locs ls hO (lv_sub hl [0, 1] rfl)
        · have hw := hw.2 hc
          refine lv_bipush (v := 59) hx hb dX8_readLine_50 (by decide) ?_
          refine lv_goto (tgt := 56) hx hb dX8_readLine_52 (by decide) ?_
          exact k_readLine_56 C (fun x1 σ hw H locs ls hO hl => ih x1 σ hw H locs ls hO hl) x1 u103 ((59 : Int32)) σ104 hw H locs ls hO (lv_sub hl [0, 1] rfl)
set_option maxRecDepth 100000 in
set_option maxHeartbeats 4000000 in
theorem k_readLine_7 {p : Program} {l : Launch} {e : Env} {s : State} {m : MethodId} {args : Array Value} {below : List Frame} {meth : Method} {c : Code} {D : va_G} {y : Nat → ClassId} {ad : Nat → Nat} {X : va_W} {A : Nat → Prop} {Q : Int32 → mS → Prop} (C : mC p s m args meth c cX8_readLine 2 (some .boolean) wsX8_readLine D y A) (n : Nat) : ∀ (x1 : Int32) (σ : mS), w_readLine_7 Q n x1 σ → ∀ (H : Heap) (locs : List Loc) (ls : Array Slot), mO D y ad X A s.heap H locs σ → lv_has ls 2 [(0, .ref (ad 0)), (1, .int x1)] → W p l e rX8_readLine s m args below meth c H locs 0 0 (MQ below (va_Qi Q (mB D y ad X A) A) args s 0 0 A) (F0 m 7 ls []) := by
  obtain ⟨hx, hb, hr, hml, hown, hts, hlk, hK, hA⟩ := id C
  have hin : ∀ w ∈ wsX80, w ∈ wsX8_readLine := fun _ h => List.mem_cons_of_mem _ (List.mem_append_right _ h)
  induction n with
  | zero =>
    intro x1 σ hw
    exact (show False from hw).elim
  | succ n ih =>
    intro x1 σ hw H locs ls hO hl
    unfold w_readLine_7 at hw
    refine lv_iload_n hx hb dX8_readLine_7 rfl (lv_at hl 1 rfl) ?_
    refine lv_bipush (v := 12) hx hb dX8_readLine_8 (by decide) ?_
    refine lv_icmp_ge (tgt := 26) hx hb dX8_readLine_10 (by decide) (fun hc => ?_) (fun hc => ?_)
    · have hw := hw.1 hc
      refine lv_iconst (v := 0) hx hb dX8_readLine_26 (by decide) ?_
      refine lv_istore_n (lv' := [(1, .int ((0 : Int32))), (0, .ref (ad 0))]) hx hb dX8_readLine_27 rfl hl (by decide) rfl (fun ls hl => ?_)
      exact k_readLine_28 C fuL ((0 : Int32)) σ hw H locs ls hO (lv_sub hl [1, 0] rfl)
    · have hw := hw.2 hc
      refine lv_aload_n hx hb dX8_readLine_13 rfl (lv_at hl 0 rfl) ?_
      refine mx_get C hO hin 2 (by decide) (idx := 17) (by decide +kernel) rfl rfl dX8_readLine_14 ?_
      refine lv_iload_n hx hb dX8_readLine_17 rfl (lv_at hl 1 rfl) ?_
      refine lv_lconst (v := 0) hx hb dX8_readLine_18 (by decide) ?_
      refine mx_last C hO (a := 3) rfl hw.1 dX8_readLine_19 (fun H locs σ101 eσ101 hO => ?_)
      have hw := hw.2 σ101 eσ101
      obtain ⟨x1_102, ex1_102⟩ : ∃ y : Int32, y = x1 + 1 := ⟨_, rfl⟩
      have hw := hw x1_102 ex1_102
      refine lv_iinc (v := x1_102) (lv' := [(1, .int x1_102), (0, .ref (ad 0))]) hx hb dX8_readLine_20 hl (k := 1) rfl (by rw [ex1_102]; rfl) (by decide) rfl (fun ls hl => ?_)
      refine lv_goto (tgt := 7) hx hb dX8_readLine_23 (by decide) ?_
      exact ih x1_102 σ101 hw H locs ls hO (lv_sub hl [1, 0] rfl)
set_option maxRecDepth 100000 in
set_option maxHeartbeats 4000000 in
theorem k_readLine_e {p : Program} {l : Launch} {e : Env} {s : State} {m : MethodId} {args : Array Value} {below : List Frame} {meth : Method} {c : Code} {D : va_G} {y : Nat → ClassId} {ad : Nat → Nat} {X : va_W} {A : Nat → Prop} {Q : Int32 → mS → Prop} (C : mC p s m args meth c cX8_readLine 2 (some .boolean) wsX8_readLine D y A)  (σ : mS) (hw : w_readLine Q σ) (H : Heap) (locs : List Loc) (ls : Array Slot) (hO : mO D y ad X A s.heap H locs σ) (hl : lv_has ls 2 [(0, .ref (ad 0))]) : W p l e rX8_readLine s m args below meth c H locs 0 0 (MQ below (va_Qi Q (mB D y ad X A) A) args s 0 0 A) (F0 m 0 ls []) := by
  obtain ⟨hx, hb, hr, hml, hown, hts, hlk, hK, hA⟩ := id C
  have hin : ∀ w ∈ wsX80, w ∈ wsX8_readLine := fun _ h => List.mem_cons_of_mem _ (List.mem_append_right _ h)
  unfold w_readLine at hw
  refine lv_aload_n hx hb dX8_readLine_0 rfl (lv_at hl 0 rfl) ?_
  refine lv_iconst (v := 0) hx hb dX8_readLine_1 (by decide) ?_
  refine mx_puta C hO hin (idx := 139) (by decide +kernel) dX8_readLine_2 (fun H locs σ101 eσ101 hO => ?_)
  have hw := hw σ101 eσ101
  refine lv_iconst (v := 0) hx hb dX8_readLine_5 (by decide) ?_
  refine lv_istore_n (lv' := [(1, .int ((0 : Int32))), (0, .ref (ad 0))]) hx hb dX8_readLine_6 rfl hl (by decide) rfl (fun ls hl => ?_)
  exact k_readLine_7 C fuL ((0 : Int32)) σ101 hw H locs ls hO (lv_sub hl [1, 0] rfl)
theorem c_readLine (l : Launch) (D : va_G) (y : Nat → ClassId) (ad : Nat → Nat) (X : va_W) (σ : mS)  (Q : Int32 → mS → Prop) (hw : w_readLine Q σ) : ∀ sz, Met l yX8_readLine wsX8_readLine rX8_readLine (va_Pc [.ref (ad 0)] (mPre D y ad X sz σ)) (va_Qi Q (mB D y ad X (va_A (mW y ad σ ++ X) sz)) (va_A (mW y ad σ ++ X) sz)) 0 0 (va_A (mW y ad σ ++ X) sz) :=
  mMet (Qc := fun A => va_Qi Q (mB D y ad X A) A) rfl (Nat.le_of_ble_eq_true rfl) (fun p e s m args below meth c A ls C hO hl => k_readLine_e C σ hw s.heap [] ls hO hl)
abbrev rX8_line : Room := { frames := 5, cells := 0, slots := 0, locals := 128 }
set_option maxRecDepth 100000 in
set_option maxHeartbeats 4000000 in
theorem k_line_38 {p : Program} {l : Launch} {e : Env} {s : State} {m : MethodId} {args : Array Value} {below : List Frame} {meth : Method} {c : Code} {D : va_G} {y : Nat → ClassId} {ad : Nat → Nat} {X : va_W} {A : Nat → Prop} {Q : Int32 → mS → Prop} (C : mC p s m args meth c cX8_line 3 (some .int) wsX8_line D y A) (z0 : Int32) (σ : mS) (hw : w_line_38 Q z0 σ) (H : Heap) (locs : List Loc) (ls : Array Slot) (hO : mO D y ad X A s.heap H locs σ) (hl : lv_has ls 3 [(0, .ref (ad 0))]) : W p l e rX8_line s m args below meth c H locs 0 0 (MQ below (va_Qi Q (mB D y ad X A) A) args s 0 0 A) (F0 m 38 ls [.int z0]) := by
  obtain ⟨hx, hb, hr, hml, hown, hts, hlk, hK, hA⟩ := id C
  unfold w_line_38 at hw
  exact mx_iret C hO hw dX8_line_38
set_option maxRecDepth 100000 in
set_option maxHeartbeats 4000000 in
theorem k_line_e {p : Program} {l : Launch} {e : Env} {s : State} {m : MethodId} {args : Array Value} {below : List Frame} {meth : Method} {c : Code} {D : va_G} {y : Nat → ClassId} {ad : Nat → Nat} {X : va_W} {A : Nat → Prop} {Q : Int32 → mS → Prop} (C : mC p s m args meth c cX8_line 3 (some .int) wsX8_line D y A) (x1 : Int32) (σ : mS) (hw : w_line Q x1 σ) (H : Heap) (locs : List Loc) (ls : Array Slot) (hO : mO D y ad X A s.heap H locs σ) (hl : lv_has ls 3 [(0, .ref (ad 0)), (1, .int x1)]) : W p l e rX8_line s m args below meth c H locs 0 0 (MQ below (va_Qi Q (mB D y ad X A) A) args s 0 0 A) (F0 m 0 ls []) := by
  obtain ⟨hx, hb, hr, hml, hown, hts, hlk, hK, hA⟩ := id C
  have hin : ∀ w ∈ wsX80, w ∈ wsX8_line := fun _ h => List.mem_cons_of_mem _ (List.mem_append_right _ h)
  unfold w_line at hw
  refine lv_iload_n hx hb dX8_line_0 rfl (lv_at hl 1 rfl) ?_
  refine mx_cis C hO (c_isLine l D y ad X σ x1 _ hw) (va_cwS 1 hts gX8_line_X8_isLine rfl rfl rfl (by decide +kernel) ⟨Nat.le_of_ble_eq_true rfl, Nat.le_of_ble_eq_true rfl⟩) rfl hl.1 rfl (lv_room (Nat.le_of_ble_eq_true rfl)) dX8_line_1 (fun u101 σ102 H locs hw hO => ?_)
  refine lv_if_ne (tgt := 9) hx hb dX8_line_4 (by decide) (fun hc => ?_) (fun hc => ?_)
  · have hw := hw.1 hc
    refine lv_aload_n hx hb dX8_line_9 rfl (lv_at hl 0 rfl) ?_
    refine mx_civ C hO (c_readLine l D y ad X σ102 _ hw) (cwV 0 hts gX8_line_X8_readLine rfl rfl rfl (by decide +kernel) ⟨Nat.le_of_ble_eq_true rfl, Nat.le_of_ble_eq_true rfl⟩) rfl hl.1 rfl (lv_room (Nat.le_of_ble_eq_true rfl)) dX8_line_10 (fun u103 σ104 H locs hw hO => ?_)
    refine lv_istore_n (lv' := [(2, .int u103), (0, .ref (ad 0)), (1, .int x1)]) hx hb dX8_line_13 rfl hl (by decide) rfl (fun ls hl => ?_)
    refine lv_aload_n hx hb dX8_line_14 rfl (lv_at hl 1 rfl) ?_
    refine lv_iconst (v := 0) hx hb dX8_line_15 (by decide) ?_
    refine mx_putt C hO hin (idx := 135) (by decide +kernel) dX8_line_16 (fun H locs σ105 eσ105 hO => ?_)
    have hw := hw σ105 eσ105
    refine lv_iload_n hx hb dX8_line_19 rfl (lv_at hl 0 rfl) ?_
    refine lv_if_eq (tgt := 31) hx hb dX8_line_20 (by decide) (fun hc => ?_) (fun hc => ?_)
    · have hw := hw.1 hc
      refine lv_bipush (v := -20) hx hb dX8_line_31 (by decide) ?_
      refine lv_aload_n hx hb dX8_line_33 rfl (lv_at hl 1 rfl) ?_
      refine mx_get C hO hin 8 (by decide) (idx := 139) (by decide +kernel) rfl rfl dX8_line_34 ?_
      refine lv_isub hx hb dX8_line_37 ?_
      exact k_line_38 C ((-20 : Int32) - (σ105.2.2.2)) σ105 hw H locs ls hO (lv_sub hl [1] rfl)
    · have hw := hw.2 hc
      refine lv_aload_n hx hb dX8_line_23 rfl (lv_at hl 1 rfl) ?_
      refine lv_iload_n hx hb dX8_line_24 rfl (lv_at hl 2 rfl) ?_
      refine mx_civ C hO (c_keep l D y ad X σ105 x1 _ hw) (cwV 1 hts gX8_line_X8_keep rfl rfl rfl (by decide +kernel) ⟨Nat.le_of_ble_eq_true rfl, Nat.le_of_ble_eq_true rfl⟩) rfl hl.1 rfl (lv_room (Nat.le_of_ble_eq_true rfl)) dX8_line_25 (fun u106 σ107 H locs hw hO => ?_)
      refine lv_goto (tgt := 38) hx hb dX8_line_28 (by decide) ?_
      exact k_line_38 C u106 σ107 hw H locs ls hO (lv_sub hl [1] rfl)
  · have hw := hw.2 hc
    refine lv_iconst (v := -1) hx hb dX8_line_7 (by decide) ?_
    exact mx_iret C hO hw dX8_line_8
theorem c_line (l : Launch) (D : va_G) (y : Nat → ClassId) (ad : Nat → Nat) (X : va_W) (σ : mS) (x1 : Int32) (Q : Int32 → mS → Prop) (hw : w_line Q x1 σ) : ∀ sz, Met l yX8_line wsX8_line rX8_line (va_Pc [.ref (ad 0), .int x1] (mPre D y ad X sz σ)) (va_Qi Q (mB D y ad X (va_A (mW y ad σ ++ X) sz)) (va_A (mW y ad σ ++ X) sz)) 0 0 (va_A (mW y ad σ ++ X) sz) :=
  mMet (Qc := fun A => va_Qi Q (mB D y ad X A) A) rfl (Nat.le_of_ble_eq_true rfl) (fun p e s m args below meth c A ls C hO hl => k_line_e C x1 σ hw s.heap [] ls hO hl)
abbrev rX8_drop : Room := { frames := 4, cells := 0, slots := 0, locals := 104 }
set_option maxRecDepth 100000 in
set_option maxHeartbeats 4000000 in
theorem k_drop_e {p : Program} {l : Launch} {e : Env} {s : State} {m : MethodId} {args : Array Value} {below : List Frame} {meth : Method} {c : Code} {D : va_G} {y : Nat → ClassId} {ad : Nat → Nat} {X : va_W} {A : Nat → Prop} {Q : Int32 → mS → Prop} (C : mC p s m args meth c cX8_drop 3 (some .int) wsX8_drop D y A) (x1 : Int32) (σ : mS) (hw : w_drop Q x1 σ) (H : Heap) (locs : List Loc) (ls : Array Slot) (hO : mO D y ad X A s.heap H locs σ) (hl : lv_has ls 3 [(0, .ref (ad 0)), (1, .int x1)]) : W p l e rX8_drop s m args below meth c H locs 0 0 (MQ below (va_Qi Q (mB D y ad X A) A) args s 0 0 A) (F0 m 0 ls []) := by
  obtain ⟨hx, hb, hr, hml, hown, hts, hlk, hK, hA⟩ := id C
  have hin : ∀ w ∈ wsX80, w ∈ wsX8_drop := fun _ h => List.mem_cons_of_mem _ (List.mem_append_right _ h)
  unfold w_drop at hw
  refine lv_aload_n hx hb dX8_drop_0 rfl (lv_at hl 0 rfl) ?_
  refine lv_iload_n hx hb dX8_drop_1 rfl (lv_at hl 1 rfl) ?_
  refine mx_civ C hO (c_against l D y ad X σ x1 _ hw) (cwV 1 hts gX8_drop_X8_against rfl rfl rfl (by decide +kernel) ⟨Nat.le_of_ble_eq_true rfl, Nat.le_of_ble_eq_true rfl⟩) rfl hl.1 rfl (lv_room (Nat.le_of_ble_eq_true rfl)) dX8_drop_2 (fun u101 σ102 H locs hw hO => ?_)
  refine lv_istore_n (lv' := [(2, .int u101), (0, .ref (ad 0)), (1, .int x1)]) hx hb dX8_drop_5 rfl hl (by decide) rfl (fun ls hl => ?_)
  refine lv_iload_n hx hb dX8_drop_6 rfl (lv_at hl 0 rfl) ?_
  refine lv_if_ge (tgt := 12) hx hb dX8_drop_7 (by decide) (fun hc => ?_) (fun hc => ?_)
  · have hw := hw.1 hc
    refine lv_aload_n hx hb dX8_drop_12 rfl (lv_at hl 1 rfl) ?_
    refine mx_get C hO hin 0 (by decide) (idx := 7) (by decide +kernel) rfl rfl dX8_drop_13 ?_
    refine lv_iload_n hx hb dX8_drop_16 rfl (lv_at hl 2 rfl) ?_
    refine lv_iconst (v := 0) hx hb dX8_drop_17 (by decide) ?_
    refine mx_zast C hO hw.1 dX8_drop_18 (fun H locs σ103 eσ103 hO => ?_)
    have hw := hw.2 σ103 eσ103
    refine lv_aload_n hx hb dX8_drop_19 rfl (lv_at hl 1 rfl) ?_
    refine lv_iload_n hx hb dX8_drop_20 rfl (lv_at hl 2 rfl) ?_
    refine mx_civ C hO (c_kindOf l D y ad X σ103 x1 _ hw) (cwV 1 hts gX8_drop_X8_kindOf rfl rfl rfl (by decide +kernel) ⟨Nat.le_of_ble_eq_true rfl, Nat.le_of_ble_eq_true rfl⟩) rfl hl.1 rfl (lv_room (Nat.le_of_ble_eq_true rfl)) dX8_drop_21 (fun u104 σ105 H locs hw hO => ?_)
    exact mx_iret C hO hw dX8_drop_24
  · have hw := hw.2 hc
    refine lv_iload_n hx hb dX8_drop_10 rfl (lv_at hl 0 rfl) ?_
    exact mx_iret C hO hw dX8_drop_11
theorem c_drop (l : Launch) (D : va_G) (y : Nat → ClassId) (ad : Nat → Nat) (X : va_W) (σ : mS) (x1 : Int32) (Q : Int32 → mS → Prop) (hw : w_drop Q x1 σ) : ∀ sz, Met l yX8_drop wsX8_drop rX8_drop (va_Pc [.ref (ad 0), .int x1] (mPre D y ad X sz σ)) (va_Qi Q (mB D y ad X (va_A (mW y ad σ ++ X) sz)) (va_A (mW y ad σ ++ X) sz)) 0 0 (va_A (mW y ad σ ++ X) sz) :=
  mMet (Qc := fun A => va_Qi Q (mB D y ad X A) A) rfl (Nat.le_of_ble_eq_true rfl) (fun p e s m args below meth c A ls C hO hl => k_drop_e C x1 σ hw s.heap [] ls hO hl)
abbrev rX8_kind : Room := { frames := 4, cells := 0, slots := 0, locals := 104 }
set_option maxRecDepth 100000 in
set_option maxHeartbeats 4000000 in
theorem k_kind_19 {p : Program} {l : Launch} {e : Env} {s : State} {m : MethodId} {args : Array Value} {below : List Frame} {meth : Method} {c : Code} {D : va_G} {y : Nat → ClassId} {ad : Nat → Nat} {X : va_W} {A : Nat → Prop} {Q : Int32 → mS → Prop} (C : mC p s m args meth c cX8_kind 3 (some .int) wsX8_kind D y A) (z0 : Int32) (σ : mS) (hw : w_kind_19 Q z0 σ) (H : Heap) (locs : List Loc) (ls : Array Slot) (hO : mO D y ad X A s.heap H locs σ) (hl : lv_has ls 3 [(0, .ref (ad 0))]) : W p l e rX8_kind s m args below meth c H locs 0 0 (MQ below (va_Qi Q (mB D y ad X A) A) args s 0 0 A) (F0 m 19 ls [.int z0]) := by
  obtain ⟨hx, hb, hr, hml, hown, hts, hlk, hK, hA⟩ := id C
  unfold w_kind_19 at hw
  exact mx_iret C hO hw dX8_kind_19
set_option maxRecDepth 100000 in
set_option maxHeartbeats 4000000 in
theorem k_kind_e {p : Program} {l : Launch} {e : Env} {s : State} {m : MethodId} {args : Array Value} {below : List Frame} {meth : Method} {c : Code} {D : va_G} {y : Nat → ClassId} {ad : Nat → Nat} {X : va_W} {A : Nat → Prop} {Q : Int32 → mS → Prop} (C : mC p s m args meth c cX8_kind 3 (some .int) wsX8_kind D y A) (x1 : Int32) (σ : mS) (hw : w_kind Q x1 σ) (H : Heap) (locs : List Loc) (ls : Array Slot) (hO : mO D y ad X A s.heap H locs σ) (hl : lv_has ls 3 [(0, .ref (ad 0)), (1, .int x1)]) : W p l e rX8_kind s m args below meth c H locs 0 0 (MQ below (va_Qi Q (mB D y ad X A) A) args s 0 0 A) (F0 m 0 ls []) := by
  obtain ⟨hx, hb, hr, hml, hown, hts, hlk, hK, hA⟩ := id C
  unfold w_kind at hw
  refine lv_aload_n hx hb dX8_kind_0 rfl (lv_at hl 0 rfl) ?_
  refine lv_iload_n hx hb dX8_kind_1 rfl (lv_at hl 1 rfl) ?_
  refine mx_civ C hO (c_against l D y ad X σ x1 _ hw) (cwV 1 hts gX8_kind_X8_against rfl rfl rfl (by decide +kernel) ⟨Nat.le_of_ble_eq_true rfl, Nat.le_of_ble_eq_true rfl⟩) rfl hl.1 rfl (lv_room (Nat.le_of_ble_eq_true rfl)) dX8_kind_2 (fun u101 σ102 H locs hw hO => ?_)
  refine lv_istore_n (lv' := [(2, .int u101), (0, .ref (ad 0)), (1, .int x1)]) hx hb dX8_kind_5 rfl hl (by decide) rfl (fun ls hl => ?_)
  refine lv_iload_n hx hb dX8_kind_6 rfl (lv_at hl 0 rfl) ?_
  refine lv_if_ge (tgt := 14) hx hb dX8_kind_7 (by decide) (fun hc => ?_) (fun hc => ?_)
  · have hw := hw.1 hc
    refine lv_aload_n hx hb dX8_kind_14 rfl (lv_at hl 1 rfl) ?_
    refine lv_iload_n hx hb dX8_kind_15 rfl (lv_at hl 2 rfl) ?_
    refine mx_civ C hO (c_kindOf l D y ad X σ102 x1 _ hw) (cwV 1 hts gX8_kind_X8_kindOf rfl rfl rfl (by decide +kernel) ⟨Nat.le_of_ble_eq_true rfl, Nat.le_of_ble_eq_true rfl⟩) rfl hl.1 rfl (lv_room (Nat.le_of_ble_eq_true rfl)) dX8_kind_16 (fun u103 σ104 H locs hw hO => ?_)
    exact k_kind_19 C u103 σ104 hw H locs ls hO (lv_sub hl [1] rfl)
  · have hw := hw.2 hc
    refine lv_iload_n hx hb dX8_kind_10 rfl (lv_at hl 0 rfl) ?_
    refine lv_goto (tgt := 19) hx hb dX8_kind_11 (by decide) ?_
    exact k_kind_19 C u101 σ102 hw H locs ls hO (lv_sub hl [1] rfl)
theorem c_kind (l : Launch) (D : va_G) (y : Nat → ClassId) (ad : Nat → Nat) (X : va_W) (σ : mS) (x1 : Int32) (Q : Int32 → mS → Prop) (hw : w_kind Q x1 σ) : ∀ sz, Met l yX8_kind wsX8_kind rX8_kind (va_Pc [.ref (ad 0), .int x1] (mPre D y ad X sz σ)) (va_Qi Q (mB D y ad X (va_A (mW y ad σ ++ X) sz)) (va_A (mW y ad σ ++ X) sz)) 0 0 (va_A (mW y ad σ ++ X) sz) :=
  mMet (Qc := fun A => va_Qi Q (mB D y ad X A) A) rfl (Nat.le_of_ble_eq_true rfl) (fun p e s m args below meth c A ls C hO hl => k_kind_e C x1 σ hw s.heap [] ls hO hl)
abbrev rX8_degree : Room := { frames := 3, cells := 0, slots := 0, locals := 66 }
set_option maxRecDepth 100000 in
set_option maxHeartbeats 4000000 in
theorem k_degree_19 {p : Program} {l : Launch} {e : Env} {s : State} {m : MethodId} {args : Array Value} {below : List Frame} {meth : Method} {c : Code} {D : va_G} {y : Nat → ClassId} {ad : Nat → Nat} {X : va_W} {A : Nat → Prop} {Q : Int32 → mS → Prop} (C : mC p s m args meth c cX8_degree 3 (some .int) wsX8_degree D y A) (z0 : Int32) (σ : mS) (hw : w_degree_19 Q z0 σ) (H : Heap) (locs : List Loc) (ls : Array Slot) (hO : mO D y ad X A s.heap H locs σ) (hl : lv_has ls 3 [(0, .ref (ad 0))]) : W p l e rX8_degree s m args below meth c H locs 0 0 (MQ below (va_Qi Q (mB D y ad X A) A) args s 0 0 A) (F0 m 19 ls [.int z0]) := by
  obtain ⟨hx, hb, hr, hml, hown, hts, hlk, hK, hA⟩ := id C
  unfold w_degree_19 at hw
  exact mx_iret C hO hw dX8_degree_19
set_option maxRecDepth 100000 in
set_option maxHeartbeats 4000000 in
theorem k_degree_e {p : Program} {l : Launch} {e : Env} {s : State} {m : MethodId} {args : Array Value} {below : List Frame} {meth : Method} {c : Code} {D : va_G} {y : Nat → ClassId} {ad : Nat → Nat} {X : va_W} {A : Nat → Prop} {Q : Int32 → mS → Prop} (C : mC p s m args meth c cX8_degree 3 (some .int) wsX8_degree D y A) (x1 : Int32) (σ : mS) (hw : w_degree Q x1 σ) (H : Heap) (locs : List Loc) (ls : Array Slot) (hO : mO D y ad X A s.heap H locs σ) (hl : lv_has ls 3 [(0, .ref (ad 0)), (1, .int x1)]) : W p l e rX8_degree s m args below meth c H locs 0 0 (MQ below (va_Qi Q (mB D y ad X A) A) args s 0 0 A) (F0 m 0 ls []) := by
  obtain ⟨hx, hb, hr, hml, hown, hts, hlk, hK, hA⟩ := id C
  unfold w_degree at hw
  refine lv_aload_n hx hb dX8_degree_0 rfl (lv_at hl 0 rfl) ?_
  refine lv_iload_n hx hb dX8_degree_1 rfl (lv_at hl 1 rfl) ?_
  refine mx_civ C hO (c_against l D y ad X σ x1 _ hw) (cwV 1 hts gX8_degree_X8_against rfl rfl rfl (by decide +kernel) ⟨Nat.le_of_ble_eq_true rfl, Nat.le_of_ble_eq_true rfl⟩) rfl hl.1 rfl (lv_room (Nat.le_of_ble_eq_true rfl)) dX8_degree_2 (fun u101 σ102 H locs hw hO => ?_)
  refine lv_istore_n (lv' := [(2, .int u101), (0, .ref (ad 0)), (1, .int x1)]) hx hb dX8_degree_5 rfl hl (by decide) rfl (fun ls hl => ?_)
  refine lv_iload_n hx hb dX8_degree_6 rfl (lv_at hl 0 rfl) ?_
  refine lv_if_ge (tgt := 14) hx hb dX8_degree_7 (by decide) (fun hc => ?_) (fun hc => ?_)
  · have hw := hw.1 hc
    refine lv_aload_n hx hb dX8_degree_14 rfl (lv_at hl 1 rfl) ?_
    refine lv_iload_n hx hb dX8_degree_15 rfl (lv_at hl 2 rfl) ?_
    refine mx_civ C hO (c_degreeOf l D y ad X σ102 x1 _ hw) (cwV 1 hts gX8_degree_X8_degreeOf rfl rfl rfl (by decide +kernel) ⟨Nat.le_of_ble_eq_true rfl, Nat.le_of_ble_eq_true rfl⟩) rfl hl.1 rfl (lv_room (Nat.le_of_ble_eq_true rfl)) dX8_degree_16 (fun u103 σ104 H locs hw hO => ?_)
    exact k_degree_19 C u103 σ104 hw H locs ls hO (lv_sub hl [1] rfl)
  · have hw := hw.2 hc
    refine lv_iload_n hx hb dX8_degree_10 rfl (lv_at hl 0 rfl) ?_
    refine lv_goto (tgt := 19) hx hb dX8_degree_11 (by decide) ?_
    exact k_degree_19 C u101 σ102 hw H locs ls hO (lv_sub hl [1] rfl)
theorem c_degree (l : Launch) (D : va_G) (y : Nat → ClassId) (ad : Nat → Nat) (X : va_W) (σ : mS) (x1 : Int32) (Q : Int32 → mS → Prop) (hw : w_degree Q x1 σ) : ∀ sz, Met l yX8_degree wsX8_degree rX8_degree (va_Pc [.ref (ad 0), .int x1] (mPre D y ad X sz σ)) (va_Qi Q (mB D y ad X (va_A (mW y ad σ ++ X) sz)) (va_A (mW y ad σ ++ X) sz)) 0 0 (va_A (mW y ad σ ++ X) sz) :=
  mMet (Qc := fun A => va_Qi Q (mB D y ad X A) A) rfl (Nat.le_of_ble_eq_true rfl) (fun p e s m args below meth c A ls C hO hl => k_degree_e C x1 σ hw s.heap [] ls hO hl)
abbrev rX8_told : Room := { frames := 3, cells := 0, slots := 0, locals := 66 }
set_option maxRecDepth 100000 in
set_option maxHeartbeats 4000000 in
theorem k_told_65 {p : Program} {l : Launch} {e : Env} {s : State} {m : MethodId} {args : Array Value} {below : List Frame} {meth : Method} {c : Code} {D : va_G} {y : Nat → ClassId} {ad : Nat → Nat} {X : va_W} {A : Nat → Prop} {Q : Int32 → mS → Prop} (C : mC p s m args meth c cX8_told 5 (some .int) wsX8_told D y A) (z0 : Int32) (σ : mS) (hw : w_told_65 Q z0 σ) (H : Heap) (locs : List Loc) (ls : Array Slot) (hO : mO D y ad X A s.heap H locs σ) (hl : lv_has ls 5 [(0, .ref (ad 0))]) : W p l e rX8_told s m args below meth c H locs 0 0 (MQ below (va_Qi Q (mB D y ad X A) A) args s 0 0 A) (F0 m 65 ls [.int z0]) := by
  obtain ⟨hx, hb, hr, hml, hown, hts, hlk, hK, hA⟩ := id C
  unfold w_told_65 at hw
  exact mx_iret C hO hw dX8_told_65
set_option maxRecDepth 100000 in
set_option maxHeartbeats 4000000 in
theorem k_told_33 {p : Program} {l : Launch} {e : Env} {s : State} {m : MethodId} {args : Array Value} {below : List Frame} {meth : Method} {c : Code} {D : va_G} {y : Nat → ClassId} {ad : Nat → Nat} {X : va_W} {A : Nat → Prop} {Q : Int32 → mS → Prop} (C : mC p s m args meth c cX8_told 5 (some .int) wsX8_told D y A) (x1 : Int32) (x2 : Int32) (x3 : Int32) (z0 : Int32) (σ : mS) (hw : w_told_33 Q x1 x2 x3 z0 σ) (H : Heap) (locs : List Loc) (ls : Array Slot) (hO : mO D y ad X A s.heap H locs σ) (hl : lv_has ls 5 [(0, .ref (ad 0)), (1, .int x1), (2, .int x2), (3, .int x3)]) : W p l e rX8_told s m args below meth c H locs 0 0 (MQ below (va_Qi Q (mB D y ad X A) A) args s 0 0 A) (F0 m 33 ls [.int z0]) := by
  obtain ⟨hx, hb, hr, hml, hown, hts, hlk, hK, hA⟩ := id C
  have hin : ∀ w ∈ wsX80, w ∈ wsX8_told := fun _ h => List.mem_cons_of_mem _ (List.mem_append_right _ h)
  unfold w_told_33 at hw
  refine lv_istore (lv' := [(4, .int z0), (0, .ref (ad 0)), (1, .int x1), (2, .int x2), (3, .int x3)]) hx hb dX8_told_33 hl (by decide) rfl (fun ls hl => ?_)
  refine lv_iload hx hb dX8_told_35 (lv_at hl 0 rfl) ?_
  refine lv_if_ge (tgt := 49) hx hb dX8_told_37 (by decide) (fun hc => ?_) (fun hc => ?_)
  · have hw := hw.1 hc
    refine lv_aload_n hx hb dX8_told_49 rfl (lv_at hl 1 rfl) ?_
    refine mx_get C hO hin 1 (by decide) (idx := 13) (by decide +kernel) rfl rfl dX8_told_50 ?_
    refine lv_bipush (v := 12) hx hb dX8_told_53 (by decide) ?_
    refine lv_iload_n hx hb dX8_told_55 rfl (lv_at hl 2 rfl) ?_
    refine lv_imul hx hb dX8_told_56 ?_
    refine lv_iconst (v := 4) hx hb dX8_told_57 (by decide) ?_
    refine lv_iload_n hx hb dX8_told_58 rfl (lv_at hl 3 rfl) ?_
    refine lv_imul hx hb dX8_told_59 ?_
    refine lv_iadd hx hb dX8_told_60 ?_
    refine lv_iload_n hx hb dX8_told_61 rfl (lv_at hl 4 rfl) ?_
    refine lv_iadd hx hb dX8_told_62 ?_
    refine mx_lald C hO (a := 2) rfl hw.1 dX8_told_63 ?_
    have hw := hw.2
    refine lv_l2i hx hb dX8_told_64 rfl ?_
    exact k_told_65 C ((σ.1 2 ((((12 : Int32) * x1) + ((4 : Int32) * x2)) + x3).toNatClampNeg).toInt32) σ hw H locs ls hO (lv_sub hl [1] rfl)
  · have hw := hw.2 hc
    refine lv_iload hx hb dX8_told_40 (lv_at hl 0 rfl) ?_
    refine lv_sipush (v := 1000) hx hb dX8_told_42 (by decide) ?_
    refine lv_isub hx hb dX8_told_45 ?_
    refine lv_goto (tgt := 65) hx hb dX8_told_46 (by decide) ?_
    exact k_told_65 C (z0 - (1000 : Int32)) σ hw H locs ls hO (lv_sub hl [1] rfl)
set_option maxRecDepth 100000 in
set_option maxHeartbeats 4000000 in
theorem k_told_24 {p : Program} {l : Launch} {e : Env} {s : State} {m : MethodId} {args : Array Value} {below : List Frame} {meth : Method} {c : Code} {D : va_G} {y : Nat → ClassId} {ad : Nat → Nat} {X : va_W} {A : Nat → Prop} {Q : Int32 → mS → Prop} (C : mC p s m args meth c cX8_told 5 (some .int) wsX8_told D y A) (x1 : Int32) (x2 : Int32) (x3 : Int32) (σ : mS) (hw : w_told_24 Q x1 x2 x3 σ) (H : Heap) (locs : List Loc) (ls : Array Slot) (hO : mO D y ad X A s.heap H locs σ) (hl : lv_has ls 5 [(0, .ref (ad 0)), (1, .int x1), (2, .int x2), (3, .int x3)]) : W p l e rX8_told s m args below meth c H locs 0 0 (MQ below (va_Qi Q (mB D y ad X A) A) args s 0 0 A) (F0 m 24 ls []) := by
  obtain ⟨hx, hb, hr, hml, hown, hts, hlk, hK, hA⟩ := id C
  unfold w_told_24 at hw
  refine lv_iconst (v := -1) hx hb dX8_told_24 (by decide) ?_
  refine lv_goto (tgt := 33) hx hb dX8_told_25 (by decide) ?_
  exact k_told_33 C x1 x2 x3 ((-1 : Int32)) σ hw H locs ls hO (lv_sub hl [0, 1, 2, 3] rfl)
set_option maxRecDepth 100000 in
set_option maxHeartbeats 4000000 in
theorem k_told_e {p : Program} {l : Launch} {e : Env} {s : State} {m : MethodId} {args : Array Value} {below : List Frame} {meth : Method} {c : Code} {D : va_G} {y : Nat → ClassId} {ad : Nat → Nat} {X : va_W} {A : Nat → Prop} {Q : Int32 → mS → Prop} (C : mC p s m args meth c cX8_told 5 (some .int) wsX8_told D y A) (x1 : Int32) (x2 : Int32) (x3 : Int32) (σ : mS) (hw : w_told Q x1 x2 x3 σ) (H : Heap) (locs : List Loc) (ls : Array Slot) (hO : mO D y ad X A s.heap H locs σ) (hl : lv_has ls 5 [(0, .ref (ad 0)), (1, .int x1), (2, .int x2), (3, .int x3)]) : W p l e rX8_told s m args below meth c H locs 0 0 (MQ below (va_Qi Q (mB D y ad X A) A) args s 0 0 A) (F0 m 0 ls []) := by
  obtain ⟨hx, hb, hr, hml, hown, hts, hlk, hK, hA⟩ := id C
  unfold w_told at hw
  refine lv_iload_n hx hb dX8_told_0 rfl (lv_at hl 2 rfl) ?_
  refine lv_i2l hx hb dX8_told_1 rfl ?_
  refine lv_lconst (v := 0) hx hb dX8_told_2 (by decide) ?_
  refine lv_ldc2 (v := 2) hx hb hown (hts (.constantLong RX8 166 (2)) (by decide +kernel)) dX8_told_3 ?_
  refine mx_cis C hO (c_in l D y ad X σ (x2.toInt64) ((0 : Int64)) ((2 : Int64)) _ hw) (va_cwS 3 hts gX8_told_X8_in rfl rfl rfl (by decide +kernel) ⟨Nat.le_of_ble_eq_true rfl, Nat.le_of_ble_eq_true rfl⟩) rfl hl.1 rfl (lv_room (Nat.le_of_ble_eq_true rfl)) dX8_told_6 (fun u101 σ102 H locs hw hO => ?_)
  refine lv_if_eq (tgt := 24) hx hb dX8_told_9 (by decide) (fun hc => ?_) (fun hc => ?_)
  · have hw := hw.1 hc
    exact k_told_24 C x1 x2 x3 σ102 hw H locs ls hO (lv_sub hl [0, 1, 2, 3] rfl)
  · have hw := hw.2 hc
    refine lv_iload_n hx hb dX8_told_12 rfl (lv_at hl 3 rfl) ?_
    refine lv_i2l hx hb dX8_told_13 rfl ?_
    refine lv_lconst (v := 0) hx hb dX8_told_14 (by decide) ?_
    refine lv_ldc2 (v := 3) hx hb hown (hts (.constantLong RX8 122 (3)) (by decide +kernel)) dX8_told_15 ?_
    refine mx_cis C hO (c_in l D y ad X σ102 (x3.toInt64) ((0 : Int64)) ((3 : Int64)) _ hw) (va_cwS 3 hts gX8_told_X8_in rfl rfl rfl (by decide +kernel) ⟨Nat.le_of_ble_eq_true rfl, Nat.le_of_ble_eq_true rfl⟩) rfl hl.1 rfl (lv_room (Nat.le_of_ble_eq_true rfl)) dX8_told_18 (fun u103 σ104 H locs hw hO => ?_)
    refine lv_if_ne (tgt := 28) hx hb dX8_told_21 (by decide) (fun hc => ?_) (fun hc => ?_)
    · have hw := hw.1 hc
      refine lv_aload_n hx hb dX8_told_28 rfl (lv_at hl 0 rfl) ?_
      refine lv_iload_n hx hb dX8_told_29 rfl (lv_at hl 1 rfl) ?_
      refine mx_civ C hO (c_against l D y ad X σ104 x1 _ hw) (cwV 1 hts gX8_told_X8_against rfl rfl rfl (by decide +kernel) ⟨Nat.le_of_ble_eq_true rfl, Nat.le_of_ble_eq_true rfl⟩) rfl hl.1 rfl (lv_room (Nat.le_of_ble_eq_true rfl)) dX8_told_30 (fun u105 σ106 H locs hw hO => ?_)
      exact k_told_33 C x1 x2 x3 u105 σ106 hw H locs ls hO (lv_sub hl [0, 1, 2, 3] rfl)
    · have hw := hw.2 hc
      exact k_told_24 C x1 x2 x3 σ104 hw H locs ls hO (lv_sub hl [0, 1, 2, 3] rfl)
theorem c_told (l : Launch) (D : va_G) (y : Nat → ClassId) (ad : Nat → Nat) (X : va_W) (σ : mS) (x1 : Int32) (x2 : Int32) (x3 : Int32) (Q : Int32 → mS → Prop) (hw : w_told Q x1 x2 x3 σ) : ∀ sz, Met l yX8_told wsX8_told rX8_told (va_Pc [.ref (ad 0), .int x1, .int x2, .int x3] (mPre D y ad X sz σ)) (va_Qi Q (mB D y ad X (va_A (mW y ad σ ++ X) sz)) (va_A (mW y ad σ ++ X) sz)) 0 0 (va_A (mW y ad σ ++ X) sz) :=
  mMet (Qc := fun A => va_Qi Q (mB D y ad X A) A) rfl (Nat.le_of_ble_eq_true rfl) (fun p e s m args below meth c A ls C hO hl => k_told_e C x1 x2 x3 σ hw s.heap [] ls hO hl)
abbrev rX8_valueAt : Room := { frames := 0, cells := 0, slots := 0, locals := 0 }
set_option maxRecDepth 100000 in
set_option maxHeartbeats 4000000 in
theorem k_valueAt_e {p : Program} {l : Launch} {e : Env} {s : State} {m : MethodId} {args : Array Value} {below : List Frame} {meth : Method} {c : Code} {D : va_G} {y : Nat → ClassId} {ad : Nat → Nat} {X : va_W} {A : Nat → Prop} {Q : Int64 → mS → Prop} (C : mC p s m args meth c cX8_valueAt 6 (some .long) wsX8_valueAt D y A) (x1 : Int32) (x2 : Int64) (x4 : Int64) (σ : mS) (hw : w_valueAt Q x1 x2 x4 σ) (H : Heap) (locs : List Loc) (ls : Array Slot) (hO : mO D y ad X A s.heap H locs σ) (hl : lv_has ls 6 [(0, .ref (ad 0)), (1, .int x1), (2, .long x2), (4, .long x4)]) : W p l e rX8_valueAt s m args below meth c H locs 0 0 (MQ below (va_Ql Q (mB D y ad X A) A) args s 0 0 A) (F0 m 0 ls []) := by
  obtain ⟨hx, hb, hr, hml, hown, hts, hlk, hK, hA⟩ := id C
  have hin : ∀ w ∈ wsX80, w ∈ wsX8_valueAt := fun _ h => List.mem_cons_of_mem _ (List.mem_append_right _ h)
  unfold w_valueAt at hw
  refine lv_aload_n hx hb dX8_valueAt_0 rfl (lv_at hl 0 rfl) ?_
  refine mx_get C hO hin 1 (by decide) (idx := 13) (by decide +kernel) rfl rfl dX8_valueAt_1 ?_
  refine lv_iload_n hx hb dX8_valueAt_4 rfl (lv_at hl 1 rfl) ?_
  refine lv_iconst (v := 3) hx hb dX8_valueAt_5 (by decide) ?_
  refine lv_iadd hx hb dX8_valueAt_6 ?_
  refine mx_lald C hO (a := 2) rfl hw.1 dX8_valueAt_7 ?_
  have hw := hw.2
  refine lv_lload_n hx hb dX8_valueAt_8 rfl (lv_at hl 2 rfl) ?_
  refine lv_lmul hx hb dX8_valueAt_9 ?_
  refine lv_aload_n hx hb dX8_valueAt_10 rfl (lv_at hl 0 rfl) ?_
  refine mx_get C hO hin 1 (by decide) (idx := 13) (by decide +kernel) rfl rfl dX8_valueAt_11 ?_
  refine lv_iload_n hx hb dX8_valueAt_14 rfl (lv_at hl 1 rfl) ?_
  refine lv_iconst (v := 2) hx hb dX8_valueAt_15 (by decide) ?_
  refine lv_iadd hx hb dX8_valueAt_16 ?_
  refine mx_lald C hO (a := 2) rfl hw.1 dX8_valueAt_17 ?_
  have hw := hw.2
  refine lv_lload hx hb dX8_valueAt_18 (lv_at hl 3 rfl) ?_
  refine lv_lmul hx hb dX8_valueAt_20 ?_
  refine lv_ladd hx hb dX8_valueAt_21 ?_
  refine lv_lload_n hx hb dX8_valueAt_22 rfl (lv_at hl 2 rfl) ?_
  refine lv_lmul hx hb dX8_valueAt_23 ?_
  refine lv_aload_n hx hb dX8_valueAt_24 rfl (lv_at hl 0 rfl) ?_
  refine mx_get C hO hin 1 (by decide) (idx := 13) (by decide +kernel) rfl rfl dX8_valueAt_25 ?_
  refine lv_iload_n hx hb dX8_valueAt_28 rfl (lv_at hl 1 rfl) ?_
  refine lv_iconst (v := 1) hx hb dX8_valueAt_29 (by decide) ?_
  refine lv_iadd hx hb dX8_valueAt_30 ?_
  refine mx_lald C hO (a := 2) rfl hw.1 dX8_valueAt_31 ?_
  have hw := hw.2
  refine lv_lload hx hb dX8_valueAt_32 (lv_at hl 3 rfl) ?_
  refine lv_lmul hx hb dX8_valueAt_34 ?_
  refine lv_lload hx hb dX8_valueAt_35 (lv_at hl 3 rfl) ?_
  refine lv_lmul hx hb dX8_valueAt_37 ?_
  refine lv_ladd hx hb dX8_valueAt_38 ?_
  refine lv_lload_n hx hb dX8_valueAt_39 rfl (lv_at hl 2 rfl) ?_
  refine lv_lmul hx hb dX8_valueAt_40 ?_
  refine lv_aload_n hx hb dX8_valueAt_41 rfl (lv_at hl 0 rfl) ?_
  refine mx_get C hO hin 1 (by decide) (idx := 13) (by decide +kernel) rfl rfl dX8_valueAt_42 ?_
  refine lv_iload_n hx hb dX8_valueAt_45 rfl (lv_at hl 1 rfl) ?_
  refine mx_lald C hO (a := 2) rfl hw.1 dX8_valueAt_46 ?_
  have hw := hw.2
  refine lv_lload hx hb dX8_valueAt_47 (lv_at hl 3 rfl) ?_
  refine lv_lmul hx hb dX8_valueAt_49 ?_
  refine lv_lload hx hb dX8_valueAt_50 (lv_at hl 3 rfl) ?_
  refine lv_lmul hx hb dX8_valueAt_52 ?_
  refine lv_lload hx hb dX8_valueAt_53 (lv_at hl 3 rfl) ?_
  refine lv_lmul hx hb dX8_valueAt_55 ?_
  refine lv_ladd hx hb dX8_valueAt_56 ?_
  exact mx_lret C hO hw dX8_valueAt_57
theorem c_valueAt (l : Launch) (D : va_G) (y : Nat → ClassId) (ad : Nat → Nat) (X : va_W) (σ : mS) (x1 : Int32) (x2 : Int64) (x4 : Int64) (Q : Int64 → mS → Prop) (hw : w_valueAt Q x1 x2 x4 σ) : ∀ sz, Met l yX8_valueAt wsX8_valueAt rX8_valueAt (va_Pc [.ref (ad 0), .int x1, .long x2, .long x4] (mPre D y ad X sz σ)) (va_Ql Q (mB D y ad X (va_A (mW y ad σ ++ X) sz)) (va_A (mW y ad σ ++ X) sz)) 0 0 (va_A (mW y ad σ ++ X) sz) :=
  mMet (Qc := fun A => va_Ql Q (mB D y ad X A) A) rfl (Nat.le_of_ble_eq_true rfl) (fun p e s m args below meth c A ls C hO hl => k_valueAt_e C x1 x2 x4 σ hw s.heap [] ls hO hl)
abbrev rX8_isTime : Room := { frames := 1, cells := 0, slots := 0, locals := 25 }
set_option maxRecDepth 100000 in
set_option maxHeartbeats 4000000 in
theorem k_isTime_31 {p : Program} {l : Launch} {e : Env} {s : State} {m : MethodId} {args : Array Value} {below : List Frame} {meth : Method} {c : Code} {D : va_G} {y : Nat → ClassId} {ad : Nat → Nat} {X : va_W} {A : Nat → Prop} {Q : Int32 → mS → Prop} (C : mC p s m args meth c cX8_isTime 2 (some .boolean) wsX8_isTime D y A) (z0 : Int32) (σ : mS) (hw : w_isTime_31 Q z0 σ) (H : Heap) (locs : List Loc) (ls : Array Slot) (hO : mO D y ad X A s.heap H locs σ) (hl : lv_has ls 2 []) : W p l e rX8_isTime s m args below meth c H locs 0 0 (MQ below (va_Qi Q (mB D y ad X A) A) args s 0 0 A) (F0 m 31 ls [.int z0]) := by
  obtain ⟨hx, hb, hr, hml, hown, hts, hlk, hK, hA⟩ := id C
  unfold w_isTime_31 at hw
  exact mx_zret C hO hw.1 hw.2 dX8_isTime_31
set_option maxRecDepth 100000 in
set_option maxHeartbeats 4000000 in
theorem k_isTime_30 {p : Program} {l : Launch} {e : Env} {s : State} {m : MethodId} {args : Array Value} {below : List Frame} {meth : Method} {c : Code} {D : va_G} {y : Nat → ClassId} {ad : Nat → Nat} {X : va_W} {A : Nat → Prop} {Q : Int32 → mS → Prop} (C : mC p s m args meth c cX8_isTime 2 (some .boolean) wsX8_isTime D y A)  (σ : mS) (hw : w_isTime_30 Q σ) (H : Heap) (locs : List Loc) (ls : Array Slot) (hO : mO D y ad X A s.heap H locs σ) (hl : lv_has ls 2 []) : W p l e rX8_isTime s m args below meth c H locs 0 0 (MQ below (va_Qi Q (mB D y ad X A) A) args s 0 0 A) (F0 m 30 ls []) := by
  obtain ⟨hx, hb, hr, hml, hown, hts, hlk, hK, hA⟩ := id C
  unfold w_isTime_30 at hw
  refine lv_iconst (v := 0) hx hb dX8_isTime_30 (by decide) ?_
  exact k_isTime_31 C ((0 : Int32)) σ hw H locs ls hO (lv_sub hl [] rfl)
set_option maxRecDepth 100000 in
set_option maxHeartbeats 4000000 in
theorem k_isTime_e {p : Program} {l : Launch} {e : Env} {s : State} {m : MethodId} {args : Array Value} {below : List Frame} {meth : Method} {c : Code} {D : va_G} {y : Nat → ClassId} {ad : Nat → Nat} {X : va_W} {A : Nat → Prop} {Q : Int32 → mS → Prop} (C : mC p s m args meth c cX8_isTime 2 (some .boolean) wsX8_isTime D y A) (x0 : Int32) (x1 : Int32) (σ : mS) (hw : w_isTime Q x0 x1 σ) (H : Heap) (locs : List Loc) (ls : Array Slot) (hO : mO D y ad X A s.heap H locs σ) (hl : lv_has ls 2 [(0, .int x0), (1, .int x1)]) : W p l e rX8_isTime s m args below meth c H locs 0 0 (MQ below (va_Qi Q (mB D y ad X A) A) args s 0 0 A) (F0 m 0 ls []) := by
  obtain ⟨hx, hb, hr, hml, hown, hts, hlk, hK, hA⟩ := id C
  unfold w_isTime at hw
  refine lv_iload_n hx hb dX8_isTime_0 rfl (lv_at hl 0 rfl) ?_
  refine lv_i2l hx hb dX8_isTime_1 rfl ?_
  refine lv_ldc2 (v := -20) hx hb hown (hts (.constantLong RX8 168 (-20)) (by decide +kernel)) dX8_isTime_2 ?_
  refine lv_ldc2 (v := 20) hx hb hown (hts (.constantLong RX8 170 (20)) (by decide +kernel)) dX8_isTime_5 ?_
  refine mx_cis C hO (c_in l D y ad X σ (x0.toInt64) ((-20 : Int64)) ((20 : Int64)) _ hw) (va_cwS 3 hts gX8_isTime_X8_in rfl rfl rfl (by decide +kernel) ⟨Nat.le_of_ble_eq_true rfl, Nat.le_of_ble_eq_true rfl⟩) rfl hl.1 rfl (lv_room (Nat.le_of_ble_eq_true rfl)) dX8_isTime_8 (fun u101 σ102 H locs hw hO => ?_)
  refine lv_if_eq (tgt := 30) hx hb dX8_isTime_11 (by decide) (fun hc => ?_) (fun hc => ?_)
  · have hw := hw.1 hc
    exact k_isTime_30 C σ102 hw H locs ls hO (lv_sub hl [] rfl)
  · have hw := hw.2 hc
    refine lv_iload_n hx hb dX8_isTime_14 rfl (lv_at hl 1 rfl) ?_
    refine lv_i2l hx hb dX8_isTime_15 rfl ?_
    refine lv_lconst (v := 1) hx hb dX8_isTime_16 (by decide) ?_
    refine lv_ldc2 (v := 20) hx hb hown (hts (.constantLong RX8 170 (20)) (by decide +kernel)) dX8_isTime_17 ?_
    refine mx_cis C hO (c_in l D y ad X σ102 (x1.toInt64) ((1 : Int64)) ((20 : Int64)) _ hw) (va_cwS 3 hts gX8_isTime_X8_in rfl rfl rfl (by decide +kernel) ⟨Nat.le_of_ble_eq_true rfl, Nat.le_of_ble_eq_true rfl⟩) rfl hl.1 rfl (lv_room (Nat.le_of_ble_eq_true rfl)) dX8_isTime_20 (fun u103 σ104 H locs hw hO => ?_)
    refine lv_if_eq (tgt := 30) hx hb dX8_isTime_23 (by decide) (fun hc => ?_) (fun hc => ?_)
    · have hw := hw.1 hc
      exact k_isTime_30 C σ104 hw H locs ls hO (lv_sub hl [] rfl)
    · have hw := hw.2 hc
      refine lv_iconst (v := 1) hx hb dX8_isTime_26 (by decide) ?_
      refine lv_goto (tgt := 31) hx hb dX8_isTime_27 (by decide) ?_
      exact k_isTime_31 C ((1 : Int32)) σ104 hw H locs ls hO (lv_sub hl [] rfl)
theorem c_isTime (l : Launch) (D : va_G) (y : Nat → ClassId) (ad : Nat → Nat) (X : va_W) (σ : mS) (x0 : Int32) (x1 : Int32) (Q : Int32 → mS → Prop) (hw : w_isTime Q x0 x1 σ) : ∀ sz, Met l yX8_isTime wsX8_isTime rX8_isTime (va_Pc [.int x0, .int x1] (mPre D y ad X sz σ)) (va_Qi Q (mB D y ad X (va_A (mW y ad σ ++ X) sz)) (va_A (mW y ad σ ++ X) sz)) 0 0 (va_A (mW y ad σ ++ X) sz) :=
  mMet (Qc := fun A => va_Qi Q (mB D y ad X A) A) rfl (Nat.le_of_ble_eq_true rfl) (fun p e s m args below meth c A ls C hO hl => k_isTime_e C x0 x1 σ hw s.heap [] ls hO hl)
