/-! the reference: what each method does, and the walk of its bytecode (written by wip/tools/gen.py) -/
abbrev rX8_move : Room := { frames := 5, cells := 0, slots := 0, locals := 128 }
set_option maxRecDepth 100000 in
set_option maxHeartbeats 4000000 in
theorem k_move_133 {p : Program} {l : Launch} {e : Env} {s : State} {m : MethodId} {args : Array Value} {below : List Frame} {meth : Method} {c : Code} {D : va_G} {y : Nat → ClassId} {ad : Nat → Nat} {X : va_W} {A : Nat → Prop} {Q : Int32 → mS → Prop} (C : mC p s m args meth c cX8_move 12 (some .int) wsX8_move D y A) (n : Nat) : ∀ (x1 : Int32) (x2 : Int32) (x3 : Int32) (x4 : Int32) (x5 : Int32) (x6 : Int32) (x7 : Int32) (x10 : Int32) (σ : mS), w_move_133 Q n x1 x2 x3 x4 x5 x6 x7 x10 σ → ∀ (H : Heap) (locs : List Loc) (ls : Array Slot), mO D y ad X A s.heap H locs σ → lv_has ls 12 [(0, .ref (ad 0)), (1, .int x1), (2, .int x2), (3, .int x3), (4, .int x4), (5, .int x5), (6, .int x6), (7, .int x7), (10, .int x10)] → W p l e rX8_move s m args below meth c H locs 0 0 (MQ below (va_Qi Q (mB D y ad X A) A) args s 0 0 A) (F0 m 133 ls []) := by
  obtain ⟨hx, hb, hr, hml, hown, hts, hlk, hK, hA⟩ := id C
  have hin : ∀ w ∈ wsX80, w ∈ wsX8_move := fun _ h => List.mem_cons_of_mem _ (List.mem_append_right _ h)
  induction n with
  | zero =>
    intro x1 x2 x3 x4 x5 x6 x7 x10 σ hw
    exact (show False from hw).elim
  | succ n ih =>
    intro x1 x2 x3 x4 x5 x6 x7 x10 σ hw H locs ls hO hl
    unfold w_move_133 at hw
    refine lv_iload hx hb dX8_move_133 (lv_at hl 8 rfl) ?_
    refine lv_iconst (v := 4) hx hb dX8_move_135 (by decide) ?_
    refine lv_icmp_ge (tgt := 268) hx hb dX8_move_136 (by decide) (fun hc => ?_) (fun hc => ?_)
    · have hw := hw.1 hc
      refine lv_aload_n hx hb dX8_move_268 rfl (lv_at hl 0 rfl) ?_
      refine lv_iload_n hx hb dX8_move_269 rfl (lv_at hl 1 rfl) ?_
      refine mx_civ C hO (c_keep l D y ad X σ x1 _ hw) (cwV 1 hts gX8_move_X8_keep rfl rfl rfl (by decide +kernel) ⟨Nat.le_of_ble_eq_true rfl, Nat.le_of_ble_eq_true rfl⟩) rfl hl.1 rfl (lv_room (Nat.le_of_ble_eq_true rfl)) dX8_move_270 (fun u101 σ102 H locs hw hO => ?_)
      exact mx_iret C hO hw dX8_move_273
    · have hw := hw.2 hc
      refine lv_bipush (v := 12) hx hb dX8_move_139 (by decide) ?_
      refine lv_iload_n hx hb dX8_move_141 rfl (lv_at hl 1 rfl) ?_
      refine lv_imul hx hb dX8_move_142 ?_
      refine lv_iload hx hb dX8_move_143 (lv_at hl 8 rfl) ?_
      refine lv_iadd hx hb dX8_move_145 ?_
      refine lv_topi (fun x11_103 ex11_103 => ?_)
      have hw := hw x11_103 ex11_103
      refine lv_istore (lv' := [(11, .int x11_103), (0, .ref (ad 0)), (1, .int x1), (2, .int x2), (3, .int x3), (4, .int x4), (5, .int x5), (6, .int x6), (7, .int x7), (10, .int x10)]) hx hb dX8_move_146 hl (by decide) rfl (fun ls hl => ?_)
      refine lv_aload_n hx hb dX8_move_148 rfl (lv_at hl 1 rfl) ?_
      refine mx_get C hO hin 2 (by decide) (idx := 17) (by decide +kernel) rfl rfl dX8_move_149 ?_
      refine lv_iload hx hb dX8_move_152 (lv_at hl 9 rfl) ?_
      refine lv_iload_n hx hb dX8_move_154 rfl (lv_at hl 3 rfl) ?_
      refine lv_i2l hx hb dX8_move_155 rfl ?_
      refine lv_aload_n hx hb dX8_move_156 rfl (lv_at hl 1 rfl) ?_
      refine mx_get C hO hin 1 (by decide) (idx := 13) (by decide +kernel) rfl rfl dX8_move_157 ?_
      refine lv_iload hx hb dX8_move_160 (lv_at hl 0 rfl) ?_
      refine mx_lald C hO (a := 2) rfl hw.1 dX8_move_162 ?_
      have hw := hw.2
      refine lv_lmul hx hb dX8_move_163 ?_
      refine lv_iload_n hx hb dX8_move_164 rfl (lv_at hl 4 rfl) ?_
      refine lv_i2l hx hb dX8_move_165 rfl ?_
      refine lv_aload_n hx hb dX8_move_166 rfl (lv_at hl 1 rfl) ?_
      refine mx_get C hO hin 1 (by decide) (idx := 13) (by decide +kernel) rfl rfl dX8_move_167 ?_
      refine lv_iload hx hb dX8_move_170 (lv_at hl 0 rfl) ?_
      refine lv_iconst (v := 4) hx hb dX8_move_172 (by decide) ?_
      refine lv_iadd hx hb dX8_move_173 ?_
      refine mx_lald C hO (a := 2) rfl hw.1 dX8_move_174 ?_
      have hw := hw.2
      refine lv_lmul hx hb dX8_move_175 ?_
      refine lv_ladd hx hb dX8_move_176 ?_
      refine lv_iload hx hb dX8_move_177 (lv_at hl 7 rfl) ?_
      refine lv_i2l hx hb dX8_move_179 rfl ?_
      refine lv_aload_n hx hb dX8_move_180 rfl (lv_at hl 1 rfl) ?_
      refine mx_get C hO hin 1 (by decide) (idx := 13) (by decide +kernel) rfl rfl dX8_move_181 ?_
      refine lv_iload hx hb dX8_move_184 (lv_at hl 0 rfl) ?_
      refine lv_bipush (v := 8) hx hb dX8_move_186 (by decide) ?_
      refine lv_iadd hx hb dX8_move_188 ?_
      refine mx_lald C hO (a := 2) rfl hw.1 dX8_move_189 ?_
      have hw := hw.2
      refine lv_lmul hx hb dX8_move_190 ?_
      refine lv_ladd hx hb dX8_move_191 ?_
      refine mx_last C hO (a := 3) rfl hw.1 dX8_move_192 (fun H locs σ104 eσ104 hO => ?_)
      have hw := hw.2 σ104 eσ104
      refine lv_aload_n hx hb dX8_move_193 rfl (lv_at hl 1 rfl) ?_
      refine mx_get C hO hin 2 (by decide) (idx := 17) (by decide +kernel) rfl rfl dX8_move_194 ?_
      refine lv_iconst (v := 4) hx hb dX8_move_197 (by decide) ?_
      refine lv_iload hx hb dX8_move_198 (lv_at hl 9 rfl) ?_
      refine lv_iadd hx hb dX8_move_200 ?_
      refine lv_iload hx hb dX8_move_201 (lv_at hl 5 rfl) ?_
      refine lv_i2l hx hb dX8_move_203 rfl ?_
      refine lv_aload_n hx hb dX8_move_204 rfl (lv_at hl 1 rfl) ?_
      refine mx_get C hO hin 1 (by decide) (idx := 13) (by decide +kernel) rfl rfl dX8_move_205 ?_
      refine lv_iload hx hb dX8_move_208 (lv_at hl 0 rfl) ?_
      refine mx_lald C hO (a := 2) rfl hw.1 dX8_move_210 ?_
      have hw := hw.2
      refine lv_lmul hx hb dX8_move_211 ?_
      refine lv_iload hx hb dX8_move_212 (lv_at hl 6 rfl) ?_
      refine lv_i2l hx hb dX8_move_214 rfl ?_
      refine lv_aload_n hx hb dX8_move_215 rfl (lv_at hl 1 rfl) ?_
      refine mx_get C hO hin 1 (by decide) (idx := 13) (by decide +kernel) rfl rfl dX8_move_216 ?_
      refine lv_iload hx hb dX8_move_219 (lv_at hl 0 rfl) ?_
      refine lv_iconst (v := 4) hx hb dX8_move_221 (by decide) ?_
      refine lv_iadd hx hb dX8_move_222 ?_
      refine mx_lald C hO (a := 2) rfl hw.1 dX8_move_223 ?_
      have hw := hw.2
      refine lv_lmul hx hb dX8_move_224 ?_
      refine lv_ladd hx hb dX8_move_225 ?_
      refine lv_iload hx hb dX8_move_226 (lv_at hl 8 rfl) ?_
      refine lv_i2l hx hb dX8_move_228 rfl ?_
      refine lv_aload_n hx hb dX8_move_229 rfl (lv_at hl 1 rfl) ?_
      refine mx_get C hO hin 1 (by decide) (idx := 13) (by decide +kernel) rfl rfl dX8_move_230 ?_
      refine lv_iload hx hb dX8_move_233 (lv_at hl 0 rfl) ?_
      refine lv_bipush (v := 8) hx hb dX8_move_235 (by decide) ?_
      refine lv_iadd hx hb dX8_move_237 ?_
      refine mx_lald C hO (a := 2) rfl hw.1 dX8_move_238 ?_
      have hw := hw.2
      refine lv_lmul hx hb dX8_move_239 ?_
      refine lv_ladd hx hb dX8_move_240 ?_
      refine mx_last C hO (a := 3) rfl hw.1 dX8_move_241 (fun H locs σ105 eσ105 hO => ?_)
      have hw := hw.2 σ105 eσ105
      refine lv_aload_n hx hb dX8_move_242 rfl (lv_at hl 1 rfl) ?_
      refine mx_get C hO hin 2 (by decide) (idx := 17) (by decide +kernel) rfl rfl dX8_move_243 ?_
      refine lv_bipush (v := 8) hx hb dX8_move_246 (by decide) ?_
      refine lv_iload hx hb dX8_move_248 (lv_at hl 9 rfl) ?_
      refine lv_iadd hx hb dX8_move_250 ?_
      refine lv_aload_n hx hb dX8_move_251 rfl (lv_at hl 1 rfl) ?_
      refine mx_get C hO hin 1 (by decide) (idx := 13) (by decide +kernel) rfl rfl dX8_move_252 ?_
      refine lv_iload hx hb dX8_move_255 (lv_at hl 0 rfl) ?_
      refine lv_bipush (v := 8) hx hb dX8_move_257 (by decide) ?_
      refine lv_iadd hx hb dX8_move_259 ?_
      refine mx_lald C hO (a := 2) rfl hw.1 dX8_move_260 ?_
      have hw := hw.2
      refine mx_last C hO (a := 3) rfl hw.1 dX8_move_261 (fun H locs σ106 eσ106 hO => ?_)
      have hw := hw.2 σ106 eσ106
      obtain ⟨x10_107, ex10_107⟩ : ∃ y : Int32, y = x10 + 1 := ⟨_, rfl⟩
      have hw := hw x10_107 ex10_107
      refine lv_iinc (v := x10_107) (lv' := [(10, .int x10_107), (11, .int x11_103), (0, .ref (ad 0)), (1, .int x1), (2, .int x2), (3, .int x3), (4, .int x4), (5, .int x5), (6, .int x6), (7, .int x7)]) hx hb dX8_move_262 hl (k := 9) rfl (by rw [ex10_107]; rfl) (by decide) rfl (fun ls hl => ?_)
      refine lv_goto (tgt := 133) hx hb dX8_move_265 (by decide) ?_
      exact ih x1 x2 x3 x4 x5 x6 x7 x10_107 σ106 hw H locs ls hO (lv_sub hl [2, 3, 4, 5, 6, 7, 8, 9, 0] rfl)
set_option maxRecDepth 100000 in
set_option maxHeartbeats 4000000 in
theorem k_move_120 {p : Program} {l : Launch} {e : Env} {s : State} {m : MethodId} {args : Array Value} {below : List Frame} {meth : Method} {c : Code} {D : va_G} {y : Nat → ClassId} {ad : Nat → Nat} {X : va_W} {A : Nat → Prop} {Q : Int32 → mS → Prop} (C : mC p s m args meth c cX8_move 12 (some .int) wsX8_move D y A) (x1 : Int32) (x2 : Int32) (x3 : Int32) (x4 : Int32) (x5 : Int32) (x6 : Int32) (x7 : Int32) (z0 : Int32) (σ : mS) (hw : w_move_120 Q x1 x2 x3 x4 x5 x6 x7 z0 σ) (H : Heap) (locs : List Loc) (ls : Array Slot) (hO : mO D y ad X A s.heap H locs σ) (hl : lv_has ls 12 [(0, .ref (ad 0)), (1, .int x1), (2, .int x2), (3, .int x3), (4, .int x4), (5, .int x5), (6, .int x6), (7, .int x7)]) : W p l e rX8_move s m args below meth c H locs 0 0 (MQ below (va_Qi Q (mB D y ad X A) A) args s 0 0 A) (F0 m 120 ls [.int z0]) := by
  obtain ⟨hx, hb, hr, hml, hown, hts, hlk, hK, hA⟩ := id C
  unfold w_move_120 at hw
  refine lv_istore (lv' := [(9, .int z0), (0, .ref (ad 0)), (1, .int x1), (2, .int x2), (3, .int x3), (4, .int x4), (5, .int x5), (6, .int x6), (7, .int x7)]) hx hb dX8_move_120 hl (by decide) rfl (fun ls hl => ?_)
  refine lv_iload hx hb dX8_move_122 (lv_at hl 0 rfl) ?_
  refine lv_if_ge (tgt := 130) hx hb dX8_move_124 (by decide) (fun hc => ?_) (fun hc => ?_)
  · have hw := hw.1 hc
    refine lv_iconst (v := 0) hx hb dX8_move_130 (by decide) ?_
    refine lv_istore (lv' := [(10, .int ((0 : Int32))), (9, .int z0), (0, .ref (ad 0)), (1, .int x1), (2, .int x2), (3, .int x3), (4, .int x4), (5, .int x5), (6, .int x6), (7, .int x7)]) hx hb dX8_move_131 hl (by decide) rfl (fun ls hl => ?_)
    exact k_move_133 C fuL x1 x2 x3 x4 x5 x6 x7 ((0 : Int32)) σ hw H locs ls hO (lv_sub hl [2, 3, 4, 5, 6, 7, 8, 9, 0] rfl)
  · have hw := hw.2 hc
    refine lv_iload hx hb dX8_move_127 (lv_at hl 0 rfl) ?_
    exact mx_iret C hO hw dX8_move_129
set_option maxRecDepth 100000 in
set_option maxHeartbeats 4000000 in
theorem k_move_104 {p : Program} {l : Launch} {e : Env} {s : State} {m : MethodId} {args : Array Value} {below : List Frame} {meth : Method} {c : Code} {D : va_G} {y : Nat → ClassId} {ad : Nat → Nat} {X : va_W} {A : Nat → Prop} {Q : Int32 → mS → Prop} (C : mC p s m args meth c cX8_move 12 (some .int) wsX8_move D y A) (x1 : Int32) (x2 : Int32) (x3 : Int32) (x4 : Int32) (x5 : Int32) (x6 : Int32) (x7 : Int32) (z0 : Int32) (σ : mS) (hw : w_move_104 Q x1 x2 x3 x4 x5 x6 x7 z0 σ) (H : Heap) (locs : List Loc) (ls : Array Slot) (hO : mO D y ad X A s.heap H locs σ) (hl : lv_has ls 12 [(0, .ref (ad 0)), (1, .int x1), (2, .int x2), (3, .int x3), (4, .int x4), (5, .int x5), (6, .int x6), (7, .int x7)]) : W p l e rX8_move s m args below meth c H locs 0 0 (MQ below (va_Qi Q (mB D y ad X A) A) args s 0 0 A) (F0 m 104 ls [.int z0]) := by
  obtain ⟨hx, hb, hr, hml, hown, hts, hlk, hK, hA⟩ := id C
  unfold w_move_104 at hw
  refine lv_istore (lv' := [(8, .int z0), (0, .ref (ad 0)), (1, .int x1), (2, .int x2), (3, .int x3), (4, .int x4), (5, .int x5), (6, .int x6), (7, .int x7)]) hx hb dX8_move_104 hl (by decide) rfl (fun ls hl => ?_)
  refine lv_iload hx hb dX8_move_106 (lv_at hl 0 rfl) ?_
  refine lv_if_ne (tgt := 115) hx hb dX8_move_108 (by decide) (fun hc => ?_) (fun hc => ?_)
  · have hw := hw.1 hc
    refine lv_aload_n hx hb dX8_move_115 rfl (lv_at hl 1 rfl) ?_
    refine lv_iload_n hx hb dX8_move_116 rfl (lv_at hl 2 rfl) ?_
    refine mx_civ C hO (c_against l D y ad X σ x1 _ hw) (cwV 1 hts gX8_move_X8_against rfl rfl rfl (by decide +kernel) ⟨Nat.le_of_ble_eq_true rfl, Nat.le_of_ble_eq_true rfl⟩) rfl hl.1 rfl (lv_room (Nat.le_of_ble_eq_true rfl)) dX8_move_117 (fun u101 σ102 H locs hw hO => ?_)
    exact k_move_120 C x1 x2 x3 x4 x5 x6 x7 u101 σ102 hw H locs ls hO (lv_sub hl [1, 2, 3, 4, 5, 6, 7, 8] rfl)
  · have hw := hw.2 hc
    refine lv_iconst (v := -1) hx hb dX8_move_111 (by decide) ?_
    refine lv_goto (tgt := 120) hx hb dX8_move_112 (by decide) ?_
    exact k_move_120 C x1 x2 x3 x4 x5 x6 x7 ((-1 : Int32)) σ hw H locs ls hO (lv_sub hl [1, 2, 3, 4, 5, 6, 7, 8] rfl)
set_option maxRecDepth 100000 in
set_option maxHeartbeats 4000000 in
theorem k_move_103 {p : Program} {l : Launch} {e : Env} {s : State} {m : MethodId} {args : Array Value} {below : List Frame} {meth : Method} {c : Code} {D : va_G} {y : Nat → ClassId} {ad : Nat → Nat} {X : va_W} {A : Nat → Prop} {Q : Int32 → mS → Prop} (C : mC p s m args meth c cX8_move 12 (some .int) wsX8_move D y A) (x1 : Int32) (x2 : Int32) (x3 : Int32) (x4 : Int32) (x5 : Int32) (x6 : Int32) (x7 : Int32) (σ : mS) (hw : w_move_103 Q x1 x2 x3 x4 x5 x6 x7 σ) (H : Heap) (locs : List Loc) (ls : Array Slot) (hO : mO D y ad X A s.heap H locs σ) (hl : lv_has ls 12 [(0, .ref (ad 0)), (1, .int x1), (2, .int x2), (3, .int x3), (4, .int x4), (5, .int x5), (6, .int x6), (7, .int x7)]) : W p l e rX8_move s m args below meth c H locs 0 0 (MQ below (va_Qi Q (mB D y ad X A) A) args s 0 0 A) (F0 m 103 ls []) := by
  obtain ⟨hx, hb, hr, hml, hown, hts, hlk, hK, hA⟩ := id C
  unfold w_move_103 at hw
  refine lv_iconst (v := 0) hx hb dX8_move_103 (by decide) ?_
  exact k_move_104 C x1 x2 x3 x4 x5 x6 x7 ((0 : Int32)) σ hw H locs ls hO (lv_sub hl [0, 1, 2, 3, 4, 5, 6, 7] rfl)
set_option maxRecDepth 100000 in
set_option maxHeartbeats 4000000 in
theorem k_move_e {p : Program} {l : Launch} {e : Env} {s : State} {m : MethodId} {args : Array Value} {below : List Frame} {meth : Method} {c : Code} {D : va_G} {y : Nat → ClassId} {ad : Nat → Nat} {X : va_W} {A : Nat → Prop} {Q : Int32 → mS → Prop} (C : mC p s m args meth c cX8_move 12 (some .int) wsX8_move D y A) (x1 : Int32) (x2 : Int32) (x3 : Int32) (x4 : Int32) (x5 : Int32) (x6 : Int32) (x7 : Int32) (σ : mS) (hw : w_move Q x1 x2 x3 x4 x5 x6 x7 σ) (H : Heap) (locs : List Loc) (ls : Array Slot) (hO : mO D y ad X A s.heap H locs σ) (hl : lv_has ls 12 [(0, .ref (ad 0)), (1, .int x1), (2, .int x2), (3, .int x3), (4, .int x4), (5, .int x5), (6, .int x6), (7, .int x7)]) : W p l e rX8_move s m args below meth c H locs 0 0 (MQ below (va_Qi Q (mB D y ad X A) A) args s 0 0 A) (F0 m 0 ls []) := by
  obtain ⟨hx, hb, hr, hml, hown, hts, hlk, hK, hA⟩ := id C
  unfold w_move at hw
  refine lv_iload_n hx hb dX8_move_0 rfl (lv_at hl 2 rfl) ?_
  refine lv_i2l hx hb dX8_move_1 rfl ?_
  refine lv_ldc2 (v := -9) hx hb hown (hts (.constantLong RX8 99 (-9)) (by decide +kernel)) dX8_move_2 ?_
  refine lv_ldc2 (v := 9) hx hb hown (hts (.constantLong RX8 101 (9)) (by decide +kernel)) dX8_move_5 ?_
  refine mx_cis C hO (c_in l D y ad X σ (x2.toInt64) ((-9 : Int64)) ((9 : Int64)) _ hw) (va_cwS 3 hts gX8_move_X8_in rfl rfl rfl (by decide +kernel) ⟨Nat.le_of_ble_eq_true rfl, Nat.le_of_ble_eq_true rfl⟩) rfl hl.1 rfl (lv_room (Nat.le_of_ble_eq_true rfl)) dX8_move_8 (fun u101 σ102 H locs hw hO => ?_)
  refine lv_if_eq (tgt := 103) hx hb dX8_move_11 (by decide) (fun hc => ?_) (fun hc => ?_)
  · have hw := hw.1 hc
    exact k_move_103 C x1 x2 x3 x4 x5 x6 x7 σ102 hw H locs ls hO (lv_sub hl [0, 1, 2, 3, 4, 5, 6, 7] rfl)
  · have hw := hw.2 hc
    refine lv_iload_n hx hb dX8_move_14 rfl (lv_at hl 3 rfl) ?_
    refine lv_i2l hx hb dX8_move_15 rfl ?_
    refine lv_ldc2 (v := -9) hx hb hown (hts (.constantLong RX8 99 (-9)) (by decide +kernel)) dX8_move_16 ?_
    refine lv_ldc2 (v := 9) hx hb hown (hts (.constantLong RX8 101 (9)) (by decide +kernel)) dX8_move_19 ?_
    refine mx_cis C hO (c_in l D y ad X σ102 (x3.toInt64) ((-9 : Int64)) ((9 : Int64)) _ hw) (va_cwS 3 hts gX8_move_X8_in rfl rfl rfl (by decide +kernel) ⟨Nat.le_of_ble_eq_true rfl, Nat.le_of_ble_eq_true rfl⟩) rfl hl.1 rfl (lv_room (Nat.le_of_ble_eq_true rfl)) dX8_move_22 (fun u103 σ104 H locs hw hO => ?_)
    refine lv_if_eq (tgt := 103) hx hb dX8_move_25 (by decide) (fun hc => ?_) (fun hc => ?_)
    · have hw := hw.1 hc
      exact k_move_103 C x1 x2 x3 x4 x5 x6 x7 σ104 hw H locs ls hO (lv_sub hl [0, 1, 2, 3, 4, 5, 6, 7] rfl)
    · have hw := hw.2 hc
      refine lv_iload hx hb dX8_move_28 (lv_at hl 4 rfl) ?_
      refine lv_i2l hx hb dX8_move_30 rfl ?_
      refine lv_ldc2 (v := -9) hx hb hown (hts (.constantLong RX8 99 (-9)) (by decide +kernel)) dX8_move_31 ?_
      refine lv_ldc2 (v := 9) hx hb hown (hts (.constantLong RX8 101 (9)) (by decide +kernel)) dX8_move_34 ?_
      refine mx_cis C hO (c_in l D y ad X σ104 (x4.toInt64) ((-9 : Int64)) ((9 : Int64)) _ hw) (va_cwS 3 hts gX8_move_X8_in rfl rfl rfl (by decide +kernel) ⟨Nat.le_of_ble_eq_true rfl, Nat.le_of_ble_eq_true rfl⟩) rfl hl.1 rfl (lv_room (Nat.le_of_ble_eq_true rfl)) dX8_move_37 (fun u105 σ106 H locs hw hO => ?_)
      refine lv_if_eq (tgt := 103) hx hb dX8_move_40 (by decide) (fun hc => ?_) (fun hc => ?_)
      · have hw := hw.1 hc
        exact k_move_103 C x1 x2 x3 x4 x5 x6 x7 σ106 hw H locs ls hO (lv_sub hl [0, 1, 2, 3, 4, 5, 6, 7] rfl)
      · have hw := hw.2 hc
        refine lv_iload hx hb dX8_move_43 (lv_at hl 5 rfl) ?_
        refine lv_i2l hx hb dX8_move_45 rfl ?_
        refine lv_ldc2 (v := -9) hx hb hown (hts (.constantLong RX8 99 (-9)) (by decide +kernel)) dX8_move_46 ?_
        refine lv_ldc2 (v := 9) hx hb hown (hts (.constantLong RX8 101 (9)) (by decide +kernel)) dX8_move_49 ?_
        refine mx_cis C hO (c_in l D y ad X σ106 (x5.toInt64) ((-9 : Int64)) ((9 : Int64)) _ hw) (va_cwS 3 hts gX8_move_X8_in rfl rfl rfl (by decide +kernel) ⟨Nat.le_of_ble_eq_true rfl, Nat.le_of_ble_eq_true rfl⟩) rfl hl.1 rfl (lv_room (Nat.le_of_ble_eq_true rfl)) dX8_move_52 (fun u107 σ108 H locs hw hO => ?_)
        refine lv_if_eq (tgt := 103) hx hb dX8_move_55 (by decide) (fun hc => ?_) (fun hc => ?_)
        · have hw := hw.1 hc
          exact k_move_103 C x1 x2 x3 x4 x5 x6 x7 σ108 hw H locs ls hO (lv_sub hl [0, 1, 2, 3, 4, 5, 6, 7] rfl)
        · have hw := hw.2 hc
          refine lv_iload hx hb dX8_move_58 (lv_at hl 6 rfl) ?_
          refine lv_i2l hx hb dX8_move_60 rfl ?_
          refine lv_ldc2 (v := -9) hx hb hown (hts (.constantLong RX8 99 (-9)) (by decide +kernel)) dX8_move_61 ?_
          refine lv_ldc2 (v := 9) hx hb hown (hts (.constantLong RX8 101 (9)) (by decide +kernel)) dX8_move_64 ?_
          refine mx_cis C hO (c_in l D y ad X σ108 (x6.toInt64) ((-9 : Int64)) ((9 : Int64)) _ hw) (va_cwS 3 hts gX8_move_X8_in rfl rfl rfl (by decide +kernel) ⟨Nat.le_of_ble_eq_true rfl, Nat.le_of_ble_eq_true rfl⟩) rfl hl.1 rfl (lv_room (Nat.le_of_ble_eq_true rfl)) dX8_move_67 (fun u109 σ110 H locs hw hO => ?_)
          refine lv_if_eq (tgt := 103) hx hb dX8_move_70 (by decide) (fun hc => ?_) (fun hc => ?_)
          · have hw := hw.1 hc
            exact k_move_103 C x1 x2 x3 x4 x5 x6 x7 σ110 hw H locs ls hO (lv_sub hl [0, 1, 2, 3, 4, 5, 6, 7] rfl)
          · have hw := hw.2 hc
            refine lv_iload hx hb dX8_move_73 (lv_at hl 7 rfl) ?_
            refine lv_i2l hx hb dX8_move_75 rfl ?_
            refine lv_ldc2 (v := -9) hx hb hown (hts (.constantLong RX8 99 (-9)) (by decide +kernel)) dX8_move_76 ?_
            refine lv_ldc2 (v := 9) hx hb hown (hts (.constantLong RX8 101 (9)) (by decide +kernel)) dX8_move_79 ?_
            refine mx_cis C hO (c_in l D y ad X σ110 (x7.toInt64) ((-9 : Int64)) ((9 : Int64)) _ hw) (va_cwS 3 hts gX8_move_X8_in rfl rfl rfl (by decide +kernel) ⟨Nat.le_of_ble_eq_true rfl, Nat.le_of_ble_eq_true rfl⟩) rfl hl.1 rfl (lv_room (Nat.le_of_ble_eq_true rfl)) dX8_move_82 (fun u111 σ112 H locs hw hO => ?_)
            refine lv_if_eq (tgt := 103) hx hb dX8_move_85 (by decide) (fun hc => ?_) (fun hc => ?_)
            · have hw := hw.1 hc
              exact k_move_103 C x1 x2 x3 x4 x5 x6 x7 σ112 hw H locs ls hO (lv_sub hl [0, 1, 2, 3, 4, 5, 6, 7] rfl)
            · have hw := hw.2 hc
              refine lv_iload_n hx hb dX8_move_88 rfl (lv_at hl 2 rfl) ?_
              refine lv_iload hx hb dX8_move_89 (lv_at hl 5 rfl) ?_
              refine lv_imul hx hb dX8_move_91 ?_
              refine lv_iload_n hx hb dX8_move_92 rfl (lv_at hl 3 rfl) ?_
              refine lv_iload hx hb dX8_move_93 (lv_at hl 4 rfl) ?_
              refine lv_imul hx hb dX8_move_95 ?_
              refine lv_icmp_eq (tgt := 103) hx hb dX8_move_96 (by decide) (fun hc => ?_) (fun hc => ?_)
              · have hw := hw.1 hc
                exact k_move_103 C x1 x2 x3 x4 x5 x6 x7 σ112 hw H locs ls hO (lv_sub hl [0, 1, 2, 3, 4, 5, 6, 7] rfl)
              · have hw := hw.2 hc
                refine lv_iconst (v := 1) hx hb dX8_move_99 (by decide) ?_
                refine lv_goto (tgt := 104) hx hb dX8_move_100 (by decide) ?_
                exact k_move_104 C x1 x2 x3 x4 x5 x6 x7 ((1 : Int32)) σ112 hw H locs ls hO (lv_sub hl [0, 1, 2, 3, 4, 5, 6, 7] rfl)
theorem c_move (l : Launch) (D : va_G) (y : Nat → ClassId) (ad : Nat → Nat) (X : va_W) (σ : mS) (x1 : Int32) (x2 : Int32) (x3 : Int32) (x4 : Int32) (x5 : Int32) (x6 : Int32) (x7 : Int32) (Q : Int32 → mS → Prop) (hw : w_move Q x1 x2 x3 x4 x5 x6 x7 σ) : ∀ sz, Met l yX8_move wsX8_move rX8_move (va_Pc [.ref (ad 0), .int x1, .int x2, .int x3, .int x4, .int x5, .int x6, .int x7] (mPre D y ad X sz σ)) (va_Qi Q (mB D y ad X (va_A (mW y ad σ ++ X) sz)) (va_A (mW y ad σ ++ X) sz)) 0 0 (va_A (mW y ad σ ++ X) sz) :=
  mMet (Qc := fun A => va_Qi Q (mB D y ad X A) A) rfl (Nat.le_of_ble_eq_true rfl) (fun p e s m args below meth c A ls C hO hl => k_move_e C x1 x2 x3 x4 x5 x6 x7 σ hw s.heap [] ls hO hl)
abbrev rX8_copy : Room := { frames := 4, cells := 0, slots := 0, locals := 104 }
set_option maxRecDepth 100000 in
set_option maxHeartbeats 4000000 in
theorem k_copy_14 {p : Program} {l : Launch} {e : Env} {s : State} {m : MethodId} {args : Array Value} {below : List Frame} {meth : Method} {c : Code} {D : va_G} {y : Nat → ClassId} {ad : Nat → Nat} {X : va_W} {A : Nat → Prop} {Q : Int32 → mS → Prop} (C : mC p s m args meth c cX8_copy 4 (some .int) wsX8_copy D y A)  (σ : mS) (hw : w_copy_14 Q σ) (H : Heap) (locs : List Loc) (ls : Array Slot) (hO : mO D y ad X A s.heap H locs σ) (hl : lv_has ls 4 [(0, .ref (ad 0))]) : W p l e rX8_copy s m args below meth c H locs 0 0 (MQ below (va_Qi Q (mB D y ad X A) A) args s 0 0 A) (F0 m 14 ls []) := by
  obtain ⟨hx, hb, hr, hml, hown, hts, hlk, hK, hA⟩ := id C
  unfold w_copy_14 at hw
  refine lv_iconst (v := -1) hx hb dX8_copy_14 (by decide) ?_
  exact mx_iret C hO hw dX8_copy_15
set_option maxRecDepth 100000 in
set_option maxHeartbeats 4000000 in
theorem k_copy_30 {p : Program} {l : Launch} {e : Env} {s : State} {m : MethodId} {args : Array Value} {below : List Frame} {meth : Method} {c : Code} {D : va_G} {y : Nat → ClassId} {ad : Nat → Nat} {X : va_W} {A : Nat → Prop} {Q : Int32 → mS → Prop} (C : mC p s m args meth c cX8_copy 4 (some .int) wsX8_copy D y A) (n : Nat) : ∀ (x1 : Int32) (x2 : Int32) (x3 : Int32) (σ : mS), w_copy_30 Q n x1 x2 x3 σ → ∀ (H : Heap) (locs : List Loc) (ls : Array Slot), mO D y ad X A s.heap H locs σ → lv_has ls 4 [(0, .ref (ad 0)), (1, .int x1), (2, .int x2), (3, .int x3)] → W p l e rX8_copy s m args below meth c H locs 0 0 (MQ below (va_Qi Q (mB D y ad X A) A) args s 0 0 A) (F0 m 30 ls []) := by
  obtain ⟨hx, hb, hr, hml, hown, hts, hlk, hK, hA⟩ := id C
  have hin : ∀ w ∈ wsX80, w ∈ wsX8_copy := fun _ h => List.mem_cons_of_mem _ (List.mem_append_right _ h)
  induction n with
  | zero =>
    intro x1 x2 x3 σ hw
    exact (show False from hw).elim
  | succ n ih =>
    intro x1 x2 x3 σ hw H locs ls hO hl
    unfold w_copy_30 at hw
    refine lv_iload_n hx hb dX8_copy_30 rfl (lv_at hl 3 rfl) ?_
    refine lv_bipush (v := 12) hx hb dX8_copy_31 (by decide) ?_
    refine lv_icmp_ge (tgt := 64) hx hb dX8_copy_33 (by decide) (fun hc => ?_) (fun hc => ?_)
    · have hw := hw.1 hc
      refine lv_aload_n hx hb dX8_copy_64 rfl (lv_at hl 0 rfl) ?_
      refine mx_get C hO hin 0 (by decide) (idx := 7) (by decide +kernel) rfl rfl dX8_copy_65 ?_
      refine lv_iload_n hx hb dX8_copy_68 rfl (lv_at hl 2 rfl) ?_
      refine lv_iconst (v := 1) hx hb dX8_copy_69 (by decide) ?_
      refine mx_zast C hO hw.1 dX8_copy_70 (fun H locs σ101 eσ101 hO => ?_)
      have hw := hw.2 σ101 eσ101
      refine lv_aload_n hx hb dX8_copy_71 rfl (lv_at hl 0 rfl) ?_
      refine lv_iload_n hx hb dX8_copy_72 rfl (lv_at hl 2 rfl) ?_
      refine mx_civ C hO (c_kindOf l D y ad X σ101 x2 _ hw) (cwV 1 hts gX8_copy_X8_kindOf rfl rfl rfl (by decide +kernel) ⟨Nat.le_of_ble_eq_true rfl, Nat.le_of_ble_eq_true rfl⟩) rfl hl.1 rfl (lv_room (Nat.le_of_ble_eq_true rfl)) dX8_copy_73 (fun u102 σ103 H locs hw hO => ?_)
      exact mx_iret C hO hw dX8_copy_76
    · have hw := hw.2 hc
      refine lv_aload_n hx hb dX8_copy_36 rfl (lv_at hl 0 rfl) ?_
      refine mx_get C hO hin 1 (by decide) (idx := 13) (by decide +kernel) rfl rfl dX8_copy_37 ?_
      refine lv_bipush (v := 12) hx hb dX8_copy_40 (by decide) ?_
      refine lv_iload_n hx hb dX8_copy_42 rfl (lv_at hl 2 rfl) ?_
      refine lv_imul hx hb dX8_copy_43 ?_
      refine lv_iload_n hx hb dX8_copy_44 rfl (lv_at hl 3 rfl) ?_
      refine lv_iadd hx hb dX8_copy_45 ?_
      refine lv_aload_n hx hb dX8_copy_46 rfl (lv_at hl 0 rfl) ?_
      refine mx_get C hO hin 1 (by decide) (idx := 13) (by decide +kernel) rfl rfl dX8_copy_47 ?_
      refine lv_bipush (v := 12) hx hb dX8_copy_50 (by decide) ?_
      refine lv_iload_n hx hb dX8_copy_52 rfl (lv_at hl 1 rfl) ?_
      refine lv_imul hx hb dX8_copy_53 ?_
      refine lv_iload_n hx hb dX8_copy_54 rfl (lv_at hl 3 rfl) ?_
      refine lv_iadd hx hb dX8_copy_55 ?_
      refine mx_lald C hO (a := 2) rfl hw.1 dX8_copy_56 ?_
      have hw := hw.2
      refine mx_last C hO (a := 2) rfl hw.1 dX8_copy_57 (fun H locs σ104 eσ104 hO => ?_)
      have hw := hw.2 σ104 eσ104
      obtain ⟨x3_105, ex3_105⟩ : ∃ y : Int32, y = x3 + 1 := ⟨_, rfl⟩
      have hw := hw x3_105 ex3_105
      refine lv_iinc (v := x3_105) (lv' := [(3, .int x3_105), (0, .ref (ad 0)), (1, .int x1), (2, .int x2)]) hx hb dX8_copy_58 hl (k := 3) rfl (by rw [ex3_105]; rfl) (by decide) rfl (fun ls hl => ?_)
      refine lv_goto (tgt := 30) hx hb dX8_copy_61 (by decide) ?_
      exact ih x1 x2 x3_105 σ104 hw H locs ls hO (lv_sub hl [1, 2, 3, 0] rfl)
set_option maxRecDepth 100000 in
set_option maxHeartbeats 4000000 in
theorem k_copy_e {p : Program} {l : Launch} {e : Env} {s : State} {m : MethodId} {args : Array Value} {below : List Frame} {meth : Method} {c : Code} {D : va_G} {y : Nat → ClassId} {ad : Nat → Nat} {X : va_W} {A : Nat → Prop} {Q : Int32 → mS → Prop} (C : mC p s m args meth c cX8_copy 4 (some .int) wsX8_copy D y A) (x1 : Int32) (x2 : Int32) (σ : mS) (hw : w_copy Q x1 x2 σ) (H : Heap) (locs : List Loc) (ls : Array Slot) (hO : mO D y ad X A s.heap H locs σ) (hl : lv_has ls 4 [(0, .ref (ad 0)), (1, .int x1), (2, .int x2)]) : W p l e rX8_copy s m args below meth c H locs 0 0 (MQ below (va_Qi Q (mB D y ad X A) A) args s 0 0 A) (F0 m 0 ls []) := by
  obtain ⟨hx, hb, hr, hml, hown, hts, hlk, hK, hA⟩ := id C
  have hin : ∀ w ∈ wsX80, w ∈ wsX8_copy := fun _ h => List.mem_cons_of_mem _ (List.mem_append_right _ h)
  unfold w_copy at hw
  refine lv_iload_n hx hb dX8_copy_0 rfl (lv_at hl 1 rfl) ?_
  refine mx_cis C hO (c_isLine l D y ad X σ x1 _ hw) (va_cwS 1 hts gX8_copy_X8_isLine rfl rfl rfl (by decide +kernel) ⟨Nat.le_of_ble_eq_true rfl, Nat.le_of_ble_eq_true rfl⟩) rfl hl.1 rfl (lv_room (Nat.le_of_ble_eq_true rfl)) dX8_copy_1 (fun u101 σ102 H locs hw hO => ?_)
  refine lv_if_eq (tgt := 14) hx hb dX8_copy_4 (by decide) (fun hc => ?_) (fun hc => ?_)
  · have hw := hw.1 hc
    exact k_copy_14 C σ102 hw H locs ls hO (lv_sub hl [0] rfl)
  · have hw := hw.2 hc
    refine lv_iload_n hx hb dX8_copy_7 rfl (lv_at hl 2 rfl) ?_
    refine mx_cis C hO (c_isLine l D y ad X σ102 x2 _ hw) (va_cwS 1 hts gX8_copy_X8_isLine rfl rfl rfl (by decide +kernel) ⟨Nat.le_of_ble_eq_true rfl, Nat.le_of_ble_eq_true rfl⟩) rfl hl.1 rfl (lv_room (Nat.le_of_ble_eq_true rfl)) dX8_copy_8 (fun u103 σ104 H locs hw hO => ?_)
    refine lv_if_ne (tgt := 16) hx hb dX8_copy_11 (by decide) (fun hc => ?_) (fun hc => ?_)
    · have hw := hw.1 hc
      refine lv_aload_n hx hb dX8_copy_16 rfl (lv_at hl 0 rfl) ?_
      refine mx_get C hO hin 0 (by decide) (idx := 7) (by decide +kernel) rfl rfl dX8_copy_17 ?_
      refine lv_iload_n hx hb dX8_copy_20 rfl (lv_at hl 1 rfl) ?_
      refine mx_zald C hO hw.1 dX8_copy_21 ?_
      have hw := hw.2
      refine lv_if_ne (tgt := 28) hx hb dX8_copy_22 (by decide) (fun hc => ?_) (fun hc => ?_)
      · have hw := hw.1 hc
        refine lv_iconst (v := 0) hx hb dX8_copy_28 (by decide) ?_
        refine lv_istore_n (lv' := [(3, .int ((0 : Int32))), (0, .ref (ad 0)), (1, .int x1), (2, .int x2)]) hx hb dX8_copy_29 rfl hl (by decide) rfl (fun ls hl => ?_)
        exact k_copy_30 C fuL x1 x2 ((0 : Int32)) σ104 hw H locs ls hO (lv_sub hl [1, 2, 3, 0] rfl)
      · have hw := hw.2 hc
        refine lv_bipush (v := -2) hx hb dX8_copy_25 (by decide) ?_
        exact mx_iret C hO hw dX8_copy_27
    · have hw := hw.2 hc
      exact k_copy_14 C σ104 hw H locs ls hO (lv_sub hl [0] rfl)
theorem c_copy (l : Launch) (D : va_G) (y : Nat → ClassId) (ad : Nat → Nat) (X : va_W) (σ : mS) (x1 : Int32) (x2 : Int32) (Q : Int32 → mS → Prop) (hw : w_copy Q x1 x2 σ) : ∀ sz, Met l yX8_copy wsX8_copy rX8_copy (va_Pc [.ref (ad 0), .int x1, .int x2] (mPre D y ad X sz σ)) (va_Qi Q (mB D y ad X (va_A (mW y ad σ ++ X) sz)) (va_A (mW y ad σ ++ X) sz)) 0 0 (va_A (mW y ad σ ++ X) sz) :=
  mMet (Qc := fun A => va_Qi Q (mB D y ad X A) A) rfl (Nat.le_of_ble_eq_true rfl) (fun p e s m args below meth c A ls C hO hl => k_copy_e C x1 x2 σ hw s.heap [] ls hO hl)
abbrev rX8_isSheet : Room := { frames := 1, cells := 0, slots := 0, locals := 25 }
set_option maxRecDepth 100000 in
set_option maxHeartbeats 4000000 in
theorem k_isSheet_29 {p : Program} {l : Launch} {e : Env} {s : State} {m : MethodId} {args : Array Value} {below : List Frame} {meth : Method} {c : Code} {D : va_G} {y : Nat → ClassId} {ad : Nat → Nat} {X : va_W} {A : Nat → Prop} {Q : Int32 → mS → Prop} (C : mC p s m args meth c cX8_isSheet 2 (some .boolean) wsX8_isSheet D y A) (z0 : Int32) (σ : mS) (hw : w_isSheet_29 Q z0 σ) (H : Heap) (locs : List Loc) (ls : Array Slot) (hO : mO D y ad X A s.heap H locs σ) (hl : lv_has ls 2 []) : W p l e rX8_isSheet s m args below meth c H locs 0 0 (MQ below (va_Qi Q (mB D y ad X A) A) args s 0 0 A) (F0 m 29 ls [.int z0]) := by
  obtain ⟨hx, hb, hr, hml, hown, hts, hlk, hK, hA⟩ := id C
  unfold w_isSheet_29 at hw
  exact mx_zret C hO hw.1 hw.2 dX8_isSheet_29
set_option maxRecDepth 100000 in
set_option maxHeartbeats 4000000 in
theorem k_isSheet_28 {p : Program} {l : Launch} {e : Env} {s : State} {m : MethodId} {args : Array Value} {below : List Frame} {meth : Method} {c : Code} {D : va_G} {y : Nat → ClassId} {ad : Nat → Nat} {X : va_W} {A : Nat → Prop} {Q : Int32 → mS → Prop} (C : mC p s m args meth c cX8_isSheet 2 (some .boolean) wsX8_isSheet D y A)  (σ : mS) (hw : w_isSheet_28 Q σ) (H : Heap) (locs : List Loc) (ls : Array Slot) (hO : mO D y ad X A s.heap H locs σ) (hl : lv_has ls 2 []) : W p l e rX8_isSheet s m args below meth c H locs 0 0 (MQ below (va_Qi Q (mB D y ad X A) A) args s 0 0 A) (F0 m 28 ls []) := by
  obtain ⟨hx, hb, hr, hml, hown, hts, hlk, hK, hA⟩ := id C
  unfold w_isSheet_28 at hw
  refine lv_iconst (v := 0) hx hb dX8_isSheet_28 (by decide) ?_
  exact k_isSheet_29 C ((0 : Int32)) σ hw H locs ls hO (lv_sub hl [] rfl)
set_option maxRecDepth 100000 in
set_option maxHeartbeats 4000000 in
theorem k_isSheet_e {p : Program} {l : Launch} {e : Env} {s : State} {m : MethodId} {args : Array Value} {below : List Frame} {meth : Method} {c : Code} {D : va_G} {y : Nat → ClassId} {ad : Nat → Nat} {X : va_W} {A : Nat → Prop} {Q : Int32 → mS → Prop} (C : mC p s m args meth c cX8_isSheet 2 (some .boolean) wsX8_isSheet D y A) (x0 : Int32) (x1 : Int32) (σ : mS) (hw : w_isSheet Q x0 x1 σ) (H : Heap) (locs : List Loc) (ls : Array Slot) (hO : mO D y ad X A s.heap H locs σ) (hl : lv_has ls 2 [(0, .int x0), (1, .int x1)]) : W p l e rX8_isSheet s m args below meth c H locs 0 0 (MQ below (va_Qi Q (mB D y ad X A) A) args s 0 0 A) (F0 m 0 ls []) := by
  obtain ⟨hx, hb, hr, hml, hown, hts, hlk, hK, hA⟩ := id C
  unfold w_isSheet at hw
  refine lv_iload_n hx hb dX8_isSheet_0 rfl (lv_at hl 0 rfl) ?_
  refine lv_i2l hx hb dX8_isSheet_1 rfl ?_
  refine lv_lconst (v := 0) hx hb dX8_isSheet_2 (by decide) ?_
  refine lv_ldc2 (v := 3) hx hb hown (hts (.constantLong RX8 122 (3)) (by decide +kernel)) dX8_isSheet_3 ?_
  refine mx_cis C hO (c_in l D y ad X σ (x0.toInt64) ((0 : Int64)) ((3 : Int64)) _ hw) (va_cwS 3 hts gX8_isSheet_X8_in rfl rfl rfl (by decide +kernel) ⟨Nat.le_of_ble_eq_true rfl, Nat.le_of_ble_eq_true rfl⟩) rfl hl.1 rfl (lv_room (Nat.le_of_ble_eq_true rfl)) dX8_isSheet_6 (fun u101 σ102 H locs hw hO => ?_)
  refine lv_if_eq (tgt := 28) hx hb dX8_isSheet_9 (by decide) (fun hc => ?_) (fun hc => ?_)
  · have hw := hw.1 hc
    exact k_isSheet_28 C σ102 hw H locs ls hO (lv_sub hl [] rfl)
  · have hw := hw.2 hc
    refine lv_iload_n hx hb dX8_isSheet_12 rfl (lv_at hl 1 rfl) ?_
    refine lv_i2l hx hb dX8_isSheet_13 rfl ?_
    refine lv_lconst (v := 0) hx hb dX8_isSheet_14 (by decide) ?_
    refine lv_ldc2 (v := 2) hx hb hown (hts (.constantLong RX8 166 (2)) (by decide +kernel)) dX8_isSheet_15 ?_
    refine mx_cis C hO (c_in l D y ad X σ102 (x1.toInt64) ((0 : Int64)) ((2 : Int64)) _ hw) (va_cwS 3 hts gX8_isSheet_X8_in rfl rfl rfl (by decide +kernel) ⟨Nat.le_of_ble_eq_true rfl, Nat.le_of_ble_eq_true rfl⟩) rfl hl.1 rfl (lv_room (Nat.le_of_ble_eq_true rfl)) dX8_isSheet_18 (fun u103 σ104 H locs hw hO => ?_)
    refine lv_if_eq (tgt := 28) hx hb dX8_isSheet_21 (by decide) (fun hc => ?_) (fun hc => ?_)
    · have hw := hw.1 hc
      exact k_isSheet_28 C σ104 hw H locs ls hO (lv_sub hl [] rfl)
    · have hw := hw.2 hc
      refine lv_iconst (v := 1) hx hb dX8_isSheet_24 (by decide) ?_
      refine lv_goto (tgt := 29) hx hb dX8_isSheet_25 (by decide) ?_
      exact k_isSheet_29 C ((1 : Int32)) σ104 hw H locs ls hO (lv_sub hl [] rfl)
theorem c_isSheet (l : Launch) (D : va_G) (y : Nat → ClassId) (ad : Nat → Nat) (X : va_W) (σ : mS) (x0 : Int32) (x1 : Int32) (Q : Int32 → mS → Prop) (hw : w_isSheet Q x0 x1 σ) : ∀ sz, Met l yX8_isSheet wsX8_isSheet rX8_isSheet (va_Pc [.int x0, .int x1] (mPre D y ad X sz σ)) (va_Qi Q (mB D y ad X (va_A (mW y ad σ ++ X) sz)) (va_A (mW y ad σ ++ X) sz)) 0 0 (va_A (mW y ad σ ++ X) sz) :=
  mMet (Qc := fun A => va_Qi Q (mB D y ad X A) A) rfl (Nat.le_of_ble_eq_true rfl) (fun p e s m args below meth c A ls C hO hl => k_isSheet_e C x0 x1 σ hw s.heap [] ls hO hl)
abbrev rX8_sheet : Room := { frames := 2, cells := 0, slots := 0, locals := 46 }
set_option maxRecDepth 100000 in
set_option maxHeartbeats 4000000 in
theorem k_sheet_14 {p : Program} {l : Launch} {e : Env} {s : State} {m : MethodId} {args : Array Value} {below : List Frame} {meth : Method} {c : Code} {D : va_G} {y : Nat → ClassId} {ad : Nat → Nat} {X : va_W} {A : Nat → Prop} {Q : Int32 → mS → Prop} (C : mC p s m args meth c cX8_sheet 5 (some .int) wsX8_sheet D y A)  (σ : mS) (hw : w_sheet_14 Q σ) (H : Heap) (locs : List Loc) (ls : Array Slot) (hO : mO D y ad X A s.heap H locs σ) (hl : lv_has ls 5 [(0, .ref (ad 0))]) : W p l e rX8_sheet s m args below meth c H locs 0 0 (MQ below (va_Qi Q (mB D y ad X A) A) args s 0 0 A) (F0 m 14 ls []) := by
  obtain ⟨hx, hb, hr, hml, hown, hts, hlk, hK, hA⟩ := id C
  unfold w_sheet_14 at hw
  refine lv_iconst (v := -1) hx hb dX8_sheet_14 (by decide) ?_
  exact mx_iret C hO hw dX8_sheet_15
set_option maxRecDepth 100000 in
set_option maxHeartbeats 4000000 in
theorem k_sheet_40 {p : Program} {l : Launch} {e : Env} {s : State} {m : MethodId} {args : Array Value} {below : List Frame} {meth : Method} {c : Code} {D : va_G} {y : Nat → ClassId} {ad : Nat → Nat} {X : va_W} {A : Nat → Prop} {Q : Int32 → mS → Prop} (C : mC p s m args meth c cX8_sheet 5 (some .int) wsX8_sheet D y A) (n : Nat) : ∀ (x1 : Int32) (x3 : Int32) (x4 : Int32) (σ : mS), w_sheet_40 Q n x1 x3 x4 σ → ∀ (H : Heap) (locs : List Loc) (ls : Array Slot), mO D y ad X A s.heap H locs σ → lv_has ls 5 [(0, .ref (ad 0)), (1, .int x1), (3, .int x3), (4, .int x4)] → W p l e rX8_sheet s m args below meth c H locs 0 0 (MQ below (va_Qi Q (mB D y ad X A) A) args s 0 0 A) (F0 m 40 ls []) := by
  obtain ⟨hx, hb, hr, hml, hown, hts, hlk, hK, hA⟩ := id C
  have hin : ∀ w ∈ wsX80, w ∈ wsX8_sheet := fun _ h => List.mem_cons_of_mem _ (List.mem_append_right _ h)
  induction n with
  | zero =>
    intro x1 x3 x4 σ hw
    exact (show False from hw).elim
  | succ n ih =>
    intro x1 x3 x4 σ hw H locs ls hO hl
    unfold w_sheet_40 at hw
    refine lv_iload hx hb dX8_sheet_40 (lv_at hl 3 rfl) ?_
    refine lv_bipush (v := 20) hx hb dX8_sheet_42 (by decide) ?_
    refine lv_icmp_ge (tgt := 66) hx hb dX8_sheet_44 (by decide) (fun hc => ?_) (fun hc => ?_)
    · have hw := hw.1 hc
      refine lv_iload_n hx hb dX8_sheet_66 rfl (lv_at hl 2 rfl) ?_
      exact mx_iret C hO hw dX8_sheet_67
    · have hw := hw.2 hc
      refine lv_aload_n hx hb dX8_sheet_47 rfl (lv_at hl 0 rfl) ?_
      refine mx_get C hO hin 18 (by decide) (idx := 60) (by decide +kernel) rfl rfl dX8_sheet_48 ?_
      refine lv_bipush (v := 20) hx hb dX8_sheet_51 (by decide) ?_
      refine lv_iload_n hx hb dX8_sheet_53 rfl (lv_at hl 1 rfl) ?_
      refine lv_imul hx hb dX8_sheet_54 ?_
      refine lv_iload hx hb dX8_sheet_55 (lv_at hl 3 rfl) ?_
      refine lv_iadd hx hb dX8_sheet_57 ?_
      refine lv_iconst (v := 0) hx hb dX8_sheet_58 (by decide) ?_
      refine mx_iast C hO (a := 17) rfl hw.1 dX8_sheet_59 (fun H locs σ101 eσ101 hO => ?_)
      have hw := hw.2 σ101 eσ101
      obtain ⟨x4_102, ex4_102⟩ : ∃ y : Int32, y = x4 + 1 := ⟨_, rfl⟩
      have hw := hw x4_102 ex4_102
      refine lv_iinc (v := x4_102) (lv' := [(4, .int x4_102), (0, .ref (ad 0)), (1, .int x1), (3, .int x3)]) hx hb dX8_sheet_60 hl (k := 3) rfl (by rw [ex4_102]; rfl) (by decide) rfl (fun ls hl => ?_)
      refine lv_goto (tgt := 40) hx hb dX8_sheet_63 (by decide) ?_
      exact ih x1 x3 x4_102 σ101 hw H locs ls hO (lv_sub hl [1, 2, 3, 0] rfl)
set_option maxRecDepth 100000 in
set_option maxHeartbeats 4000000 in
theorem k_sheet_e {p : Program} {l : Launch} {e : Env} {s : State} {m : MethodId} {args : Array Value} {below : List Frame} {meth : Method} {c : Code} {D : va_G} {y : Nat → ClassId} {ad : Nat → Nat} {X : va_W} {A : Nat → Prop} {Q : Int32 → mS → Prop} (C : mC p s m args meth c cX8_sheet 5 (some .int) wsX8_sheet D y A) (x1 : Int32) (x2 : Int32) (x3 : Int32) (σ : mS) (hw : w_sheet Q x1 x2 x3 σ) (H : Heap) (locs : List Loc) (ls : Array Slot) (hO : mO D y ad X A s.heap H locs σ) (hl : lv_has ls 5 [(0, .ref (ad 0)), (1, .int x1), (2, .int x2), (3, .int x3)]) : W p l e rX8_sheet s m args below meth c H locs 0 0 (MQ below (va_Qi Q (mB D y ad X A) A) args s 0 0 A) (F0 m 0 ls []) := by
  obtain ⟨hx, hb, hr, hml, hown, hts, hlk, hK, hA⟩ := id C
  have hin : ∀ w ∈ wsX80, w ∈ wsX8_sheet := fun _ h => List.mem_cons_of_mem _ (List.mem_append_right _ h)
  unfold w_sheet at hw
  refine lv_iload_n hx hb dX8_sheet_0 rfl (lv_at hl 1 rfl) ?_
  refine lv_iload_n hx hb dX8_sheet_1 rfl (lv_at hl 2 rfl) ?_
  refine mx_cis C hO (c_isSheet l D y ad X σ x1 x2 _ hw) (va_cwS 2 hts gX8_sheet_X8_isSheet rfl rfl rfl (by decide +kernel) ⟨Nat.le_of_ble_eq_true rfl, Nat.le_of_ble_eq_true rfl⟩) rfl hl.1 rfl (lv_room (Nat.le_of_ble_eq_true rfl)) dX8_sheet_2 (fun u101 σ102 H locs hw hO => ?_)
  refine lv_if_eq (tgt := 14) hx hb dX8_sheet_5 (by decide) (fun hc => ?_) (fun hc => ?_)
  · have hw := hw.1 hc
    exact k_sheet_14 C σ102 hw H locs ls hO (lv_sub hl [0] rfl)
  · have hw := hw.2 hc
    refine lv_iload_n hx hb dX8_sheet_8 rfl (lv_at hl 3 rfl) ?_
    refine lv_bipush (v := 20) hx hb dX8_sheet_9 (by decide) ?_
    refine lv_icmp_le (tgt := 16) hx hb dX8_sheet_11 (by decide) (fun hc => ?_) (fun hc => ?_)
    · have hw := hw.1 hc
      refine lv_iload_n hx hb dX8_sheet_16 rfl (lv_at hl 3 rfl) ?_
      refine lv_if_ge (tgt := 23) hx hb dX8_sheet_17 (by decide) (fun hc => ?_) (fun hc => ?_)
      · have hw := hw.1 hc
        refine lv_aload_n hx hb dX8_sheet_23 rfl (lv_at hl 0 rfl) ?_
        refine mx_get C hO hin 16 (by decide) (idx := 54) (by decide +kernel) rfl rfl dX8_sheet_24 ?_
        refine lv_iload_n hx hb dX8_sheet_27 rfl (lv_at hl 1 rfl) ?_
        refine lv_iload_n hx hb dX8_sheet_28 rfl (lv_at hl 2 rfl) ?_
        refine mx_iast C hO (a := 15) rfl hw.1 dX8_sheet_29 (fun H locs σ103 eσ103 hO => ?_)
        have hw := hw.2 σ103 eσ103
        refine lv_aload_n hx hb dX8_sheet_30 rfl (lv_at hl 0 rfl) ?_
        refine mx_get C hO hin 17 (by decide) (idx := 57) (by decide +kernel) rfl rfl dX8_sheet_31 ?_
        refine lv_iload_n hx hb dX8_sheet_34 rfl (lv_at hl 1 rfl) ?_
        refine lv_iload_n hx hb dX8_sheet_35 rfl (lv_at hl 3 rfl) ?_
        refine mx_iast C hO (a := 16) rfl hw.1 dX8_sheet_36 (fun H locs σ104 eσ104 hO => ?_)
        have hw := hw.2 σ104 eσ104
        refine lv_iconst (v := 0) hx hb dX8_sheet_37 (by decide) ?_
        refine lv_istore (lv' := [(4, .int ((0 : Int32))), (0, .ref (ad 0)), (1, .int x1), (2, .int x2), (3, .int x3)]) hx hb dX8_sheet_38 hl (by decide) rfl (fun ls hl => ?_)
        exact k_sheet_40 C fuL x1 x3 ((0 : Int32)) σ104 hw H locs ls hO (lv_sub hl [1, 2, 4, 0] rfl)
      · have hw := hw.2 hc
        refine lv_bipush (v := -14) hx hb dX8_sheet_20 (by decide) ?_
        exact mx_iret C hO hw dX8_sheet_22
    · have hw := hw.2 hc
      exact k_sheet_14 C σ102 hw H locs ls hO (lv_sub hl [0] rfl)
theorem c_sheet (l : Launch) (D : va_G) (y : Nat → ClassId) (ad : Nat → Nat) (X : va_W) (σ : mS) (x1 : Int32) (x2 : Int32) (x3 : Int32) (Q : Int32 → mS → Prop) (hw : w_sheet Q x1 x2 x3 σ) : ∀ sz, Met l yX8_sheet wsX8_sheet rX8_sheet (va_Pc [.ref (ad 0), .int x1, .int x2, .int x3] (mPre D y ad X sz σ)) (va_Qi Q (mB D y ad X (va_A (mW y ad σ ++ X) sz)) (va_A (mW y ad σ ++ X) sz)) 0 0 (va_A (mW y ad σ ++ X) sz) :=
  mMet (Qc := fun A => va_Qi Q (mB D y ad X A) A) rfl (Nat.le_of_ble_eq_true rfl) (fun p e s m args below meth c A ls C hO hl => k_sheet_e C x1 x2 x3 σ hw s.heap [] ls hO hl)
abbrev rX8_away : Room := { frames := 1, cells := 0, slots := 0, locals := 25 }
set_option maxRecDepth 100000 in
set_option maxHeartbeats 4000000 in
theorem k_away_e {p : Program} {l : Launch} {e : Env} {s : State} {m : MethodId} {args : Array Value} {below : List Frame} {meth : Method} {c : Code} {D : va_G} {y : Nat → ClassId} {ad : Nat → Nat} {X : va_W} {A : Nat → Prop} {Q : Int32 → mS → Prop} (C : mC p s m args meth c cX8_away 2 (some .int) wsX8_away D y A) (x1 : Int32) (σ : mS) (hw : w_away Q x1 σ) (H : Heap) (locs : List Loc) (ls : Array Slot) (hO : mO D y ad X A s.heap H locs σ) (hl : lv_has ls 2 [(0, .ref (ad 0)), (1, .int x1)]) : W p l e rX8_away s m args below meth c H locs 0 0 (MQ below (va_Qi Q (mB D y ad X A) A) args s 0 0 A) (F0 m 0 ls []) := by
  obtain ⟨hx, hb, hr, hml, hown, hts, hlk, hK, hA⟩ := id C
  have hin : ∀ w ∈ wsX80, w ∈ wsX8_away := fun _ h => List.mem_cons_of_mem _ (List.mem_append_right _ h)
  unfold w_away at hw
  refine lv_iload_n hx hb dX8_away_0 rfl (lv_at hl 1 rfl) ?_
  refine lv_i2l hx hb dX8_away_1 rfl ?_
  refine lv_lconst (v := 0) hx hb dX8_away_2 (by decide) ?_
  refine lv_ldc2 (v := 3) hx hb hown (hts (.constantLong RX8 122 (3)) (by decide +kernel)) dX8_away_3 ?_
  refine mx_cis C hO (c_in l D y ad X σ (x1.toInt64) ((0 : Int64)) ((3 : Int64)) _ hw) (va_cwS 3 hts gX8_away_X8_in rfl rfl rfl (by decide +kernel) ⟨Nat.le_of_ble_eq_true rfl, Nat.le_of_ble_eq_true rfl⟩) rfl hl.1 rfl (lv_room (Nat.le_of_ble_eq_true rfl)) dX8_away_6 (fun u101 σ102 H locs hw hO => ?_)
  refine lv_if_ne (tgt := 14) hx hb dX8_away_9 (by decide) (fun hc => ?_) (fun hc => ?_)
  · have hw := hw.1 hc
    refine lv_aload_n hx hb dX8_away_14 rfl (lv_at hl 0 rfl) ?_
    refine mx_get C hO hin 16 (by decide) (idx := 54) (by decide +kernel) rfl rfl dX8_away_15 ?_
    refine lv_iload_n hx hb dX8_away_18 rfl (lv_at hl 1 rfl) ?_
    refine mx_iald C hO (a := 15) rfl hw.1 dX8_away_19 ?_
    have hw := hw.2
    refine lv_if_ge (tgt := 26) hx hb dX8_away_20 (by decide) (fun hc => ?_) (fun hc => ?_)
    · have hw := hw.1 hc
      refine lv_aload_n hx hb dX8_away_26 rfl (lv_at hl 0 rfl) ?_
      refine mx_get C hO hin 16 (by decide) (idx := 54) (by decide +kernel) rfl rfl dX8_away_27 ?_
      refine lv_iload_n hx hb dX8_away_30 rfl (lv_at hl 1 rfl) ?_
      refine lv_iconst (v := -1) hx hb dX8_away_31 (by decide) ?_
      refine mx_iast C hO (a := 15) rfl hw.1 dX8_away_32 (fun H locs σ103 eσ103 hO => ?_)
      have hw := hw.2 σ103 eσ103
      refine lv_aload_n hx hb dX8_away_33 rfl (lv_at hl 0 rfl) ?_
      refine mx_get C hO hin 17 (by decide) (idx := 57) (by decide +kernel) rfl rfl dX8_away_34 ?_
      refine lv_iload_n hx hb dX8_away_37 rfl (lv_at hl 1 rfl) ?_
      refine mx_iald C hO (a := 16) rfl hw.1 dX8_away_38 ?_
      have hw := hw.2
      exact mx_iret C hO hw dX8_away_39
    · have hw := hw.2 hc
      refine lv_bipush (v := -11) hx hb dX8_away_23 (by decide) ?_
      exact mx_iret C hO hw dX8_away_25
  · have hw := hw.2 hc
    refine lv_iconst (v := -1) hx hb dX8_away_12 (by decide) ?_
    exact mx_iret C hO hw dX8_away_13
theorem c_away (l : Launch) (D : va_G) (y : Nat → ClassId) (ad : Nat → Nat) (X : va_W) (σ : mS) (x1 : Int32) (Q : Int32 → mS → Prop) (hw : w_away Q x1 σ) : ∀ sz, Met l yX8_away wsX8_away rX8_away (va_Pc [.ref (ad 0), .int x1] (mPre D y ad X sz σ)) (va_Qi Q (mB D y ad X (va_A (mW y ad σ ++ X) sz)) (va_A (mW y ad σ ++ X) sz)) 0 0 (va_A (mW y ad σ ++ X) sz) :=
  mMet (Qc := fun A => va_Qi Q (mB D y ad X A) A) rfl (Nat.le_of_ble_eq_true rfl) (fun p e s m args below meth c A ls C hO hl => k_away_e C x1 σ hw s.heap [] ls hO hl)
abbrev rX8_item : Room := { frames := 2, cells := 0, slots := 0, locals := 46 }
set_option maxRecDepth 100000 in
set_option maxHeartbeats 4000000 in
theorem k_item_36 {p : Program} {l : Launch} {e : Env} {s : State} {m : MethodId} {args : Array Value} {below : List Frame} {meth : Method} {c : Code} {D : va_G} {y : Nat → ClassId} {ad : Nat → Nat} {X : va_W} {A : Nat → Prop} {Q : Int32 → mS → Prop} (C : mC p s m args meth c cX8_item 5 (some .int) wsX8_item D y A) (z0 : Int32) (σ : mS) (hw : w_item_36 Q z0 σ) (H : Heap) (locs : List Loc) (ls : Array Slot) (hO : mO D y ad X A s.heap H locs σ) (hl : lv_has ls 5 [(0, .ref (ad 0))]) : W p l e rX8_item s m args below meth c H locs 0 0 (MQ below (va_Qi Q (mB D y ad X A) A) args s 0 0 A) (F0 m 36 ls [.int z0]) := by
  obtain ⟨hx, hb, hr, hml, hown, hts, hlk, hK, hA⟩ := id C
  unfold w_item_36 at hw
  exact mx_iret C hO hw dX8_item_36
set_option maxRecDepth 100000 in
set_option maxHeartbeats 4000000 in
theorem k_item_85 {p : Program} {l : Launch} {e : Env} {s : State} {m : MethodId} {args : Array Value} {below : List Frame} {meth : Method} {c : Code} {D : va_G} {y : Nat → ClassId} {ad : Nat → Nat} {X : va_W} {A : Nat → Prop} {Q : Int32 → mS → Prop} (C : mC p s m args meth c cX8_item 5 (some .int) wsX8_item D y A) (z1 : Int32) (z2 : Int32) (σ : mS) (hw : w_item_85 Q z1 z2 σ) (H : Heap) (locs : List Loc) (ls : Array Slot) (hO : mO D y ad X A s.heap H locs σ) (hl : lv_has ls 5 [(0, .ref (ad 0))]) : W p l e rX8_item s m args below meth c H locs 0 0 (MQ below (va_Qi Q (mB D y ad X A) A) args s 0 0 A) (F0 m 85 ls [.int z2, .int z1, .ref (ad 17)]) := by
  obtain ⟨hx, hb, hr, hml, hown, hts, hlk, hK, hA⟩ := id C
  unfold w_item_85 at hw
  refine mx_iast C hO (a := 17) rfl hw.1 dX8_item_85 (fun H locs σ101 eσ101 hO => ?_)
  have hw := hw.2 σ101 eσ101
  refine lv_iconst (v := 1) hx hb dX8_item_86 (by decide) ?_
  exact mx_iret C hO hw dX8_item_87
set_option maxRecDepth 100000 in
set_option maxHeartbeats 4000000 in
theorem k_item_e {p : Program} {l : Launch} {e : Env} {s : State} {m : MethodId} {args : Array Value} {below : List Frame} {meth : Method} {c : Code} {D : va_G} {y : Nat → ClassId} {ad : Nat → Nat} {X : va_W} {A : Nat → Prop} {Q : Int32 → mS → Prop} (C : mC p s m args meth c cX8_item 5 (some .int) wsX8_item D y A) (x1 : Int32) (x2 : Int32) (x3 : Int32) (x4 : Int32) (σ : mS) (hw : w_item Q x1 x2 x3 x4 σ) (H : Heap) (locs : List Loc) (ls : Array Slot) (hO : mO D y ad X A s.heap H locs σ) (hl : lv_has ls 5 [(0, .ref (ad 0)), (1, .int x1), (2, .int x2), (3, .int x3), (4, .int x4)]) : W p l e rX8_item s m args below meth c H locs 0 0 (MQ below (va_Qi Q (mB D y ad X A) A) args s 0 0 A) (F0 m 0 ls []) := by
  obtain ⟨hx, hb, hr, hml, hown, hts, hlk, hK, hA⟩ := id C
  have hin : ∀ w ∈ wsX80, w ∈ wsX8_item := fun _ h => List.mem_cons_of_mem _ (List.mem_append_right _ h)
  unfold w_item at hw
  refine lv_iload_n hx hb dX8_item_0 rfl (lv_at hl 1 rfl) ?_
  refine lv_iload_n hx hb dX8_item_1 rfl (lv_at hl 2 rfl) ?_
  refine mx_cis C hO (c_isSheet l D y ad X σ x1 x2 _ hw) (va_cwS 2 hts gX8_item_X8_isSheet rfl rfl rfl (by decide +kernel) ⟨Nat.le_of_ble_eq_true rfl, Nat.le_of_ble_eq_true rfl⟩) rfl hl.1 rfl (lv_room (Nat.le_of_ble_eq_true rfl)) dX8_item_2 (fun u101 σ102 H locs hw hO => ?_)
  refine lv_if_ne (tgt := 10) hx hb dX8_item_5 (by decide) (fun hc => ?_) (fun hc => ?_)
  · have hw := hw.1 hc
    refine lv_aload_n hx hb dX8_item_10 rfl (lv_at hl 0 rfl) ?_
    refine mx_get C hO hin 16 (by decide) (idx := 54) (by decide +kernel) rfl rfl dX8_item_11 ?_
    refine lv_iload_n hx hb dX8_item_14 rfl (lv_at hl 1 rfl) ?_
    refine mx_iald C hO (a := 15) rfl hw.1 dX8_item_15 ?_
    have hw := hw.2
    refine lv_iload_n hx hb dX8_item_16 rfl (lv_at hl 2 rfl) ?_
    refine lv_icmp_eq (tgt := 37) hx hb dX8_item_17 (by decide) (fun hc => ?_) (fun hc => ?_)
    · have hw := hw.1 hc
      refine lv_iload_n hx hb dX8_item_37 rfl (lv_at hl 3 rfl) ?_
      refine lv_i2l hx hb dX8_item_38 rfl ?_
      refine lv_lconst (v := 0) hx hb dX8_item_39 (by decide) ?_
      refine lv_aload_n hx hb dX8_item_40 rfl (lv_at hl 0 rfl) ?_
      refine mx_get C hO hin 17 (by decide) (idx := 57) (by decide +kernel) rfl rfl dX8_item_41 ?_
      refine lv_iload_n hx hb dX8_item_44 rfl (lv_at hl 1 rfl) ?_
      refine mx_iald C hO (a := 16) rfl hw.1 dX8_item_45 ?_
      have hw := hw.2
      refine lv_iconst (v := 1) hx hb dX8_item_46 (by decide) ?_
      refine lv_isub hx hb dX8_item_47 ?_
      refine lv_i2l hx hb dX8_item_48 rfl ?_
      refine mx_cis C hO (c_in l D y ad X σ102 (x3.toInt64) ((0 : Int64)) (((σ102.2.1 16 (x1).toNatClampNeg) - (1 : Int32)).toInt64) _ hw) (va_cwS 3 hts gX8_item_X8_in rfl rfl rfl (by decide +kernel) ⟨Nat.le_of_ble_eq_true rfl, Nat.le_of_ble_eq_true rfl⟩) rfl hl.1 rfl (lv_room (Nat.le_of_ble_eq_true rfl)) dX8_item_49 (fun u103 σ104 H locs hw hO => ?_)
      refine lv_if_ne (tgt := 58) hx hb dX8_item_52 (by decide) (fun hc => ?_) (fun hc => ?_)
      · have hw := hw.1 hc
        refine lv_aload_n hx hb dX8_item_58 rfl (lv_at hl 0 rfl) ?_
        refine mx_get C hO hin 18 (by decide) (idx := 60) (by decide +kernel) rfl rfl dX8_item_59 ?_
        refine lv_bipush (v := 20) hx hb dX8_item_62 (by decide) ?_
        refine lv_iload_n hx hb dX8_item_64 rfl (lv_at hl 1 rfl) ?_
        refine lv_imul hx hb dX8_item_65 ?_
        refine lv_iload_n hx hb dX8_item_66 rfl (lv_at hl 3 rfl) ?_
        refine lv_iadd hx hb dX8_item_67 ?_
        refine lv_iload_n hx hb dX8_item_68 rfl (lv_at hl 2 rfl) ?_
        refine lv_if_ne (tgt := 83) hx hb dX8_item_69 (by decide) (fun hc => ?_) (fun hc => ?_)
        · have hw := hw.1 hc
          refine lv_iload hx hb dX8_item_83 (lv_at hl 4 rfl) ?_
          exact k_item_85 C (((20 : Int32) * x1) + x3) x4 σ104 hw H locs ls hO (lv_sub hl [0] rfl)
        · have hw := hw.2 hc
          refine lv_iload hx hb dX8_item_72 (lv_at hl 4 rfl) ?_
          refine lv_bipush (v := 24) hx hb dX8_item_74 (by decide) ?_
          refine lv_ishl hx hb dX8_item_76 ?_
          refine lv_bipush (v := 24) hx hb dX8_item_77 (by decide) ?_
          refine lv_ishr hx hb dX8_item_79 ?_
          refine lv_goto (tgt := 85) hx hb dX8_item_80 (by decide) ?_
          exact k_item_85 C (((20 : Int32) * x1) + x3) ((x4 <<< ((24 : Int32) &&& 31)) >>> ((24 : Int32) &&& 31)) σ104 hw H locs ls hO (lv_sub hl [0] rfl)
      · have hw := hw.2 hc
        refine lv_bipush (v := -13) hx hb dX8_item_55 (by decide) ?_
        exact mx_iret C hO hw dX8_item_57
    · have hw := hw.2 hc
      refine lv_aload_n hx hb dX8_item_20 rfl (lv_at hl 0 rfl) ?_
      refine mx_get C hO hin 16 (by decide) (idx := 54) (by decide +kernel) rfl rfl dX8_item_21 ?_
      refine lv_iload_n hx hb dX8_item_24 rfl (lv_at hl 1 rfl) ?_
      refine mx_iald C hO (a := 15) rfl hw.1 dX8_item_25 ?_
      have hw := hw.2
      refine lv_if_ge (tgt := 34) hx hb dX8_item_26 (by decide) (fun hc => ?_) (fun hc => ?_)
      · have hw := hw.1 hc
        refine lv_bipush (v := -12) hx hb dX8_item_34 (by decide) ?_
        exact k_item_36 C ((-12 : Int32)) σ102 hw H locs ls hO (lv_sub hl [0] rfl)
      · have hw := hw.2 hc
        refine lv_bipush (v := -11) hx hb dX8_item_29 (by decide) ?_
        refine lv_goto (tgt := 36) hx hb dX8_item_31 (by decide) ?_
        exact k_item_36 C ((-11 : Int32)) σ102 hw H locs ls hO (lv_sub hl [0] rfl)
  · have hw := hw.2 hc
    refine lv_iconst (v := -1) hx hb dX8_item_8 (by decide) ?_
    exact mx_iret C hO hw dX8_item_9
theorem c_item (l : Launch) (D : va_G) (y : Nat → ClassId) (ad : Nat → Nat) (X : va_W) (σ : mS) (x1 : Int32) (x2 : Int32) (x3 : Int32) (x4 : Int32) (Q : Int32 → mS → Prop) (hw : w_item Q x1 x2 x3 x4 σ) : ∀ sz, Met l yX8_item wsX8_item rX8_item (va_Pc [.ref (ad 0), .int x1, .int x2, .int x3, .int x4] (mPre D y ad X sz σ)) (va_Qi Q (mB D y ad X (va_A (mW y ad σ ++ X) sz)) (va_A (mW y ad σ ++ X) sz)) 0 0 (va_A (mW y ad σ ++ X) sz) :=
  mMet (Qc := fun A => va_Qi Q (mB D y ad X A) A) rfl (Nat.le_of_ble_eq_true rfl) (fun p e s m args below meth c A ls C hO hl => k_item_e C x1 x2 x3 x4 σ hw s.heap [] ls hO hl)
abbrev rX8_terms : Room := { frames := 5, cells := 0, slots := 0, locals := 128 }
set_option maxRecDepth 100000 in
set_option maxHeartbeats 4000000 in
theorem k_terms_15 {p : Program} {l : Launch} {e : Env} {s : State} {m : MethodId} {args : Array Value} {below : List Frame} {meth : Method} {c : Code} {D : va_G} {y : Nat → ClassId} {ad : Nat → Nat} {X : va_W} {A : Nat → Prop} {Q : Int32 → mS → Prop} (C : mC p s m args meth c cX8_terms 6 (some .int) wsX8_terms D y A)  (σ : mS) (hw : w_terms_15 Q σ) (H : Heap) (locs : List Loc) (ls : Array Slot) (hO : mO D y ad X A s.heap H locs σ) (hl : lv_has ls 6 [(0, .ref (ad 0))]) : W p l e rX8_terms s m args below meth c H locs 0 0 (MQ below (va_Qi Q (mB D y ad X A) A) args s 0 0 A) (F0 m 15 ls []) := by
  obtain ⟨hx, hb, hr, hml, hown, hts, hlk, hK, hA⟩ := id C
  unfold w_terms_15 at hw
  refine lv_iconst (v := -1) hx hb dX8_terms_15 (by decide) ?_
  exact mx_iret C hO hw dX8_terms_16
set_option maxRecDepth 100000 in
set_option maxHeartbeats 4000000 in
theorem k_terms_43 {p : Program} {l : Launch} {e : Env} {s : State} {m : MethodId} {args : Array Value} {below : List Frame} {meth : Method} {c : Code} {D : va_G} {y : Nat → ClassId} {ad : Nat → Nat} {X : va_W} {A : Nat → Prop} {Q : Int32 → mS → Prop} (C : mC p s m args meth c cX8_terms 6 (some .int) wsX8_terms D y A) (z0 : Int32) (σ : mS) (hw : w_terms_43 Q z0 σ) (H : Heap) (locs : List Loc) (ls : Array Slot) (hO : mO D y ad X A s.heap H locs σ) (hl : lv_has ls 6 [(0, .ref (ad 0))]) : W p l e rX8_terms s m args below meth c H locs 0 0 (MQ below (va_Qi Q (mB D y ad X A) A) args s 0 0 A) (F0 m 43 ls [.int z0]) := by
  obtain ⟨hx, hb, hr, hml, hown, hts, hlk, hK, hA⟩ := id C
  unfold w_terms_43 at hw
  exact mx_iret C hO hw dX8_terms_43
set_option maxRecDepth 100000 in
set_option maxHeartbeats 4000000 in
theorem k_terms_70 {p : Program} {l : Launch} {e : Env} {s : State} {m : MethodId} {args : Array Value} {below : List Frame} {meth : Method} {c : Code} {D : va_G} {y : Nat → ClassId} {ad : Nat → Nat} {X : va_W} {A : Nat → Prop} {Q : Int32 → mS → Prop} (C : mC p s m args meth c cX8_terms 6 (some .int) wsX8_terms D y A) (n : Nat) : ∀ (x1 : Int32) (x2 : Int32) (x4 : Int32) (x5 : Int32) (σ : mS), w_terms_70 Q n x1 x2 x4 x5 σ → ∀ (H : Heap) (locs : List Loc) (ls : Array Slot), mO D y ad X A s.heap H locs σ → lv_has ls 6 [(0, .ref (ad 0)), (1, .int x1), (2, .int x2), (4, .int x4), (5, .int x5)] → W p l e rX8_terms s m args below meth c H locs 0 0 (MQ below (va_Qi Q (mB D y ad X A) A) args s 0 0 A) (F0 m 70 ls []) := by
  obtain ⟨hx, hb, hr, hml, hown, hts, hlk, hK, hA⟩ := id C
  have hin : ∀ w ∈ wsX80, w ∈ wsX8_terms := fun _ h => List.mem_cons_of_mem _ (List.mem_append_right _ h)
  induction n with
  | zero =>
    intro x1 x2 x4 x5 σ hw
    exact (show False from hw).elim
  | succ n ih =>
    intro x1 x2 x4 x5 σ hw H locs ls hO hl
    unfold w_terms_70 at hw
    refine lv_iload hx hb dX8_terms_70 (lv_at hl 4 rfl) ?_
    refine lv_bipush (v := 12) hx hb dX8_terms_72 (by decide) ?_
    refine lv_icmp_ge (tgt := 128) hx hb dX8_terms_74 (by decide) (fun hc => ?_) (fun hc => ?_)
    · have hw := hw.1 hc
      refine lv_aload_n hx hb dX8_terms_128 rfl (lv_at hl 0 rfl) ?_
      refine lv_iload_n hx hb dX8_terms_129 rfl (lv_at hl 1 rfl) ?_
      refine mx_civ C hO (c_keep l D y ad X σ x1 _ hw) (cwV 1 hts gX8_terms_X8_keep rfl rfl rfl (by decide +kernel) ⟨Nat.le_of_ble_eq_true rfl, Nat.le_of_ble_eq_true rfl⟩) rfl hl.1 rfl (lv_room (Nat.le_of_ble_eq_true rfl)) dX8_terms_130 (fun u101 σ102 H locs hw hO => ?_)
      exact mx_iret C hO hw dX8_terms_133
    · have hw := hw.2 hc
      refine lv_aload_n hx hb dX8_terms_77 rfl (lv_at hl 0 rfl) ?_
      refine mx_get C hO hin 2 (by decide) (idx := 17) (by decide +kernel) rfl rfl dX8_terms_78 ?_
      refine lv_iload hx hb dX8_terms_81 (lv_at hl 4 rfl) ?_
      refine lv_aload_n hx hb dX8_terms_83 rfl (lv_at hl 0 rfl) ?_
      refine mx_get C hO hin 18 (by decide) (idx := 60) (by decide +kernel) rfl rfl dX8_terms_84 ?_
      refine lv_bipush (v := 20) hx hb dX8_terms_87 (by decide) ?_
      refine lv_iload_n hx hb dX8_terms_89 rfl (lv_at hl 2 rfl) ?_
      refine lv_imul hx hb dX8_terms_90 ?_
      refine lv_iload hx hb dX8_terms_91 (lv_at hl 3 rfl) ?_
      refine lv_iadd hx hb dX8_terms_93 ?_
      refine lv_iload hx hb dX8_terms_94 (lv_at hl 4 rfl) ?_
      refine lv_iadd hx hb dX8_terms_96 ?_
      refine mx_iald C hO (a := 17) rfl hw.1 dX8_terms_97 ?_
      have hw := hw.2
      refine lv_i2l hx hb dX8_terms_98 rfl ?_
      refine mx_last C hO (a := 3) rfl hw.1 dX8_terms_99 (fun H locs σ103 eσ103 hO => ?_)
      have hw := hw.2 σ103 eσ103
      refine lv_aload_n hx hb dX8_terms_100 rfl (lv_at hl 0 rfl) ?_
      refine mx_get C hO hin 2 (by decide) (idx := 17) (by decide +kernel) rfl rfl dX8_terms_101 ?_
      refine lv_iload hx hb dX8_terms_104 (lv_at hl 4 rfl) ?_
      refine mx_lald C hO (a := 3) rfl hw.1 dX8_terms_106 ?_
      have hw := hw.2
      refine lv_ldc2 (v := -1000) hx hb hown (hts (.constantLong RX8 247 (-1000)) (by decide +kernel)) dX8_terms_107 ?_
      refine lv_ldc2 (v := 1000) hx hb hown (hts (.constantLong RX8 249 (1000)) (by decide +kernel)) dX8_terms_110 ?_
      refine mx_cis C hO (c_in l D y ad X σ103 (σ103.1 3 (x5).toNatClampNeg) ((-1000 : Int64)) ((1000 : Int64)) _ hw) (va_cwS 3 hts gX8_terms_X8_in rfl rfl rfl (by decide +kernel) ⟨Nat.le_of_ble_eq_true rfl, Nat.le_of_ble_eq_true rfl⟩) rfl hl.1 rfl (lv_room (Nat.le_of_ble_eq_true rfl)) dX8_terms_113 (fun u104 σ105 H locs hw hO => ?_)
      refine lv_if_ne (tgt := 122) hx hb dX8_terms_116 (by decide) (fun hc => ?_) (fun hc => ?_)
      · have hw := hw.1 hc
        obtain ⟨x5_106, ex5_106⟩ : ∃ y : Int32, y = x5 + 1 := ⟨_, rfl⟩
        have hw := hw x5_106 ex5_106
        refine lv_iinc (v := x5_106) (lv' := [(5, .int x5_106), (0, .ref (ad 0)), (1, .int x1), (2, .int x2), (4, .int x4)]) hx hb dX8_terms_122 hl (k := 4) rfl (by rw [ex5_106]; rfl) (by decide) rfl (fun ls hl => ?_)
        refine lv_goto (tgt := 70) hx hb dX8_terms_125 (by decide) ?_
        exact ih x1 x2 x4 x5_106 σ105 hw H locs ls hO (lv_sub hl [1, 2, 3, 4, 0] rfl)
      · have hw := hw.2 hc
        refine lv_bipush (v := -2) hx hb dX8_terms_119 (by decide) ?_
        exact mx_iret C hO hw dX8_terms_121
set_option maxRecDepth 100000 in
set_option maxHeartbeats 4000000 in
theorem k_terms_e {p : Program} {l : Launch} {e : Env} {s : State} {m : MethodId} {args : Array Value} {below : List Frame} {meth : Method} {c : Code} {D : va_G} {y : Nat → ClassId} {ad : Nat → Nat} {X : va_W} {A : Nat → Prop} {Q : Int32 → mS → Prop} (C : mC p s m args meth c cX8_terms 6 (some .int) wsX8_terms D y A) (x1 : Int32) (x2 : Int32) (x3 : Int32) (x4 : Int32) (σ : mS) (hw : w_terms Q x1 x2 x3 x4 σ) (H : Heap) (locs : List Loc) (ls : Array Slot) (hO : mO D y ad X A s.heap H locs σ) (hl : lv_has ls 6 [(0, .ref (ad 0)), (1, .int x1), (2, .int x2), (3, .int x3), (4, .int x4)]) : W p l e rX8_terms s m args below meth c H locs 0 0 (MQ below (va_Qi Q (mB D y ad X A) A) args s 0 0 A) (F0 m 0 ls []) := by
  obtain ⟨hx, hb, hr, hml, hown, hts, hlk, hK, hA⟩ := id C
  have hin : ∀ w ∈ wsX80, w ∈ wsX8_terms := fun _ h => List.mem_cons_of_mem _ (List.mem_append_right _ h)
  unfold w_terms at hw
  refine lv_iload_n hx hb dX8_terms_0 rfl (lv_at hl 1 rfl) ?_
  refine mx_cis C hO (c_isLine l D y ad X σ x1 _ hw) (va_cwS 1 hts gX8_terms_X8_isLine rfl rfl rfl (by decide +kernel) ⟨Nat.le_of_ble_eq_true rfl, Nat.le_of_ble_eq_true rfl⟩) rfl hl.1 rfl (lv_room (Nat.le_of_ble_eq_true rfl)) dX8_terms_1 (fun u101 σ102 H locs hw hO => ?_)
  refine lv_if_eq (tgt := 15) hx hb dX8_terms_4 (by decide) (fun hc => ?_) (fun hc => ?_)
  · have hw := hw.1 hc
    exact k_terms_15 C σ102 hw H locs ls hO (lv_sub hl [0] rfl)
  · have hw := hw.2 hc
    refine lv_iload_n hx hb dX8_terms_7 rfl (lv_at hl 2 rfl) ?_
    refine lv_iload_n hx hb dX8_terms_8 rfl (lv_at hl 3 rfl) ?_
    refine mx_cis C hO (c_isSheet l D y ad X σ102 x2 x3 _ hw) (va_cwS 2 hts gX8_terms_X8_isSheet rfl rfl rfl (by decide +kernel) ⟨Nat.le_of_ble_eq_true rfl, Nat.le_of_ble_eq_true rfl⟩) rfl hl.1 rfl (lv_room (Nat.le_of_ble_eq_true rfl)) dX8_terms_9 (fun u103 σ104 H locs hw hO => ?_)
    refine lv_if_ne (tgt := 17) hx hb dX8_terms_12 (by decide) (fun hc => ?_) (fun hc => ?_)
    · have hw := hw.1 hc
      refine lv_aload_n hx hb dX8_terms_17 rfl (lv_at hl 0 rfl) ?_
      refine mx_get C hO hin 16 (by decide) (idx := 54) (by decide +kernel) rfl rfl dX8_terms_18 ?_
      refine lv_iload_n hx hb dX8_terms_21 rfl (lv_at hl 2 rfl) ?_
      refine mx_iald C hO (a := 15) rfl hw.1 dX8_terms_22 ?_
      have hw := hw.2
      refine lv_iload_n hx hb dX8_terms_23 rfl (lv_at hl 3 rfl) ?_
      refine lv_icmp_eq (tgt := 44) hx hb dX8_terms_24 (by decide) (fun hc => ?_) (fun hc => ?_)
      · have hw := hw.1 hc
        refine lv_iload hx hb dX8_terms_44 (lv_at hl 4 rfl) ?_
        refine lv_i2l hx hb dX8_terms_46 rfl ?_
        refine lv_lconst (v := 0) hx hb dX8_terms_47 (by decide) ?_
        refine lv_aload_n hx hb dX8_terms_48 rfl (lv_at hl 0 rfl) ?_
        refine mx_get C hO hin 17 (by decide) (idx := 57) (by decide +kernel) rfl rfl dX8_terms_49 ?_
        refine lv_iload_n hx hb dX8_terms_52 rfl (lv_at hl 2 rfl) ?_
        refine mx_iald C hO (a := 16) rfl hw.1 dX8_terms_53 ?_
        have hw := hw.2
        refine lv_bipush (v := 12) hx hb dX8_terms_54 (by decide) ?_
        refine lv_isub hx hb dX8_terms_56 ?_
        refine lv_i2l hx hb dX8_terms_57 rfl ?_
        refine mx_cis C hO (c_in l D y ad X σ104 (x4.toInt64) ((0 : Int64)) (((σ104.2.1 16 (x2).toNatClampNeg) - (12 : Int32)).toInt64) _ hw) (va_cwS 3 hts gX8_terms_X8_in rfl rfl rfl (by decide +kernel) ⟨Nat.le_of_ble_eq_true rfl, Nat.le_of_ble_eq_true rfl⟩) rfl hl.1 rfl (lv_room (Nat.le_of_ble_eq_true rfl)) dX8_terms_58 (fun u105 σ106 H locs hw hO => ?_)
        refine lv_if_ne (tgt := 67) hx hb dX8_terms_61 (by decide) (fun hc => ?_) (fun hc => ?_)
        · have hw := hw.1 hc
          refine lv_iconst (v := 0) hx hb dX8_terms_67 (by decide) ?_
          refine lv_istore (lv' := [(5, .int ((0 : Int32))), (0, .ref (ad 0)), (1, .int x1), (2, .int x2), (3, .int x3), (4, .int x4)]) hx hb dX8_terms_68 hl (by decide) rfl (fun ls hl => ?_)
          exact k_terms_70 C fuL x1 x2 x4 ((0 : Int32)) σ106 hw H locs ls hO (lv_sub hl [1, 2, 3, 5, 0] rfl)
        · have hw := hw.2 hc
          refine lv_bipush (v := -13) hx hb dX8_terms_64 (by decide) ?_
          exact mx_iret C hO hw dX8_terms_66
      · have hw := hw.2 hc
        refine lv_aload_n hx hb dX8_terms_27 rfl (lv_at hl 0 rfl) ?_
        refine mx_get C hO hin 16 (by decide) (idx := 54) (by decide +kernel) rfl rfl dX8_terms_28 ?_
        refine lv_iload_n hx hb dX8_terms_31 rfl (lv_at hl 2 rfl) ?_
        refine mx_iald C hO (a := 15) rfl hw.1 dX8_terms_32 ?_
        have hw := hw.2
        refine lv_if_ge (tgt := 41) hx hb dX8_terms_33 (by decide) (fun hc => ?_) (fun hc => ?_)
        · have hw := hw.1 hc
          refine lv_bipush (v := -12) hx hb dX8_terms_41 (by decide) ?_
          exact k_terms_43 C ((-12 : Int32)) σ104 hw H locs ls hO (lv_sub hl [0] rfl)
        · have hw := hw.2 hc
          refine lv_bipush (v := -11) hx hb dX8_terms_36 (by decide) ?_
          refine lv_goto (tgt := 43) hx hb dX8_terms_38 (by decide) ?_
          exact k_terms_43 C ((-11 : Int32)) σ104 hw H locs ls hO (lv_sub hl [0] rfl)
    · have hw := hw.2 hc
      exact k_terms_15 C σ104 hw H locs ls hO (lv_sub hl [0] rfl)
theorem c_terms (l : Launch) (D : va_G) (y : Nat → ClassId) (ad : Nat → Nat) (X : va_W) (σ : mS) (x1 : Int32) (x2 : Int32) (x3 : Int32) (x4 : Int32) (Q : Int32 → mS → Prop) (hw : w_terms Q x1 x2 x3 x4 σ) : ∀ sz, Met l yX8_terms wsX8_terms rX8_terms (va_Pc [.ref (ad 0), .int x1, .int x2, .int x3, .int x4] (mPre D y ad X sz σ)) (va_Qi Q (mB D y ad X (va_A (mW y ad σ ++ X) sz)) (va_A (mW y ad σ ++ X) sz)) 0 0 (va_A (mW y ad σ ++ X) sz) :=
  mMet (Qc := fun A => va_Qi Q (mB D y ad X A) A) rfl (Nat.le_of_ble_eq_true rfl) (fun p e s m args below meth c A ls C hO hl => k_terms_e C x1 x2 x3 x4 σ hw s.heap [] ls hO hl)
