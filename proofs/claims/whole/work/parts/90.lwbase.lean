/-! THE CLAIM OUT OF ONE WALK OF THE LAW'S BODY. Your part is whole_start (and what it stands on); all else here is the same for every law, but numbers. -/
def R_law : String := "BentSharesLaw"
def lw_P (b : Addr) (xs : List Int32) (args : Array Value) (s : State) : Prop := args = #[.ref b] ∧ s.IntsAt b xs ∧ xs.length ≤ 4096 ∧ (Jvm.Cond.and given_1 narrow_1).before args s = true
def lw_Q (_ : Array Value) (s : State) (o : Outcome) (t : State) : Prop := o = .returned (some (.int 1)) ∧ Framed s o t [] 600000 7302250
def lw_Z (below : List Frame) (a : Array Value) (s : State) : State → Prop := fun t => ∃ o, t.status = .running ∧ Ended t below o ∧ lw_Q a s o t
/-- the law's own end, with 1 on the stack, nothing written that was there before, its room as the claim has it -/
theorem lw_ret {p : Program} {l : Launch} {e : Env} {s : State} {m : MethodId} {below : List Frame} {meth : Method} {c : Code} {b : Nat} (hx : p.tables.exec = Jvm.exec) (hb : c.code = code) (hr : meth.sig.returnType = ret) (hlocks : meth.locks = false) {pc : Nat} {H : Heap} {ls : Array Slot} (hdg : decode code pc = .ok (.ireturn, 1)) : W p l e room_1 s m #[Value.ref b] below meth c H [] 600000 7302250 (lw_Z below #[Value.ref b] s) (F0 m pc ls [.int 1]) := by
  intro T hT X
  obtain ⟨fs, hret, hrun, hended, hW, hframe⟩ := X.leave (v := some (.int 1)) (hlocks := hlocks) (fun h => by rw [hr] at h; cases h)
  have hmeth' : T.vm.method? m = some meth := X.method'
  refine ⟨T.setFrames fs, ?_, .returned (some (.int 1)), hrun, hended, rfl, ⟨_, rfl⟩, hW, hframe⟩
  jvm_step X.here [X.here.top, hx, hb, hdg, hmeth', hr, ret, narrow_b1]
  (try refine ⟨rfl, ?_⟩); (try refine ⟨rfl, ?_⟩)
  first | (intro acts; rw [hret _ acts rfl rfl rfl]) | rw [hret _ _ rfl rfl rfl]
  exact Steps.refl _
/-- what holds at the law's entry: the machine, the code, the tables' words (any of lw_tbl by 'hts w (by decide +kernel)'), the script of L ints xs at the cell b, what the Statement gives of the start (any of its parts by flat_of_before) -/
def lw_At (p : Program) (s : State) (m : MethodId) (meth : Method) (c : Code) (b L : Nat) (xs : Nat → Int32) : Prop :=
  p.tables.exec = Jvm.exec ∧ c.code = code ∧ meth.sig.returnType = ret ∧ c.maxLocals = 4 ∧ s.vm.findClass R_law = some m.cls ∧ (∀ w ∈ lw_tbl, w.before #[Value.ref b] s = true) ∧ va_X b L xs s s.heap ∧ b < s.heap.size ∧ meth.locks = false ∧ (Jvm.Cond.and given_1 narrow_1).before #[Value.ref b] s = true
/-! the law's own world: the class's and the reference's -/
abbrev lA (s : State) : Nat → Prop := fun q => s.heap.size ≤ q
def lO (D : va_G) (y : Nat → ClassId) (aC aM : Nat → Nat) (s : State) (H : Heap) (locs : List Loc) (σ : cS) (τ : mS) : Prop := va_P D vwCl (cW y aC σ ++ mW y aM τ) H ∧ va_D (lA s) (cW y aC σ ++ mW y aM τ) ∧ va_S (lA s) s.heap H locs
def lC (p : Program) (s : State) (m : MethodId) (meth : Method) (c : Code) (b L : Nat) (xs : Nat → Int32) (D : va_G) (y : Nat → ClassId) (t : Nat → Nat) : Prop :=
  p.tables.exec = Jvm.exec ∧ c.code = code ∧ meth.sig.returnType = ret ∧ c.maxLocals = 4 ∧ s.vm.findClass RL = some m.cls ∧ (∀ w ∈ wsL_law, w.before #[Value.ref b] s = true) ∧ va_X b L xs s s.heap ∧ b < s.heap.size ∧ va_K D vwCl (mT y) s ∧ cTs t (lA s) s s.heap ∧ va_Nw cNest s
theorem lSwapP {D : va_G} {a b : va_W} {H : Heap} (h : va_P D vwCl (a ++ b) H) : va_P D vwCl (b ++ a) H := va_P.swap (a := []) (b := a) (c := b) h
theorem lSwapD {A : Nat → Prop} {a b : va_W} (h : va_D A (a ++ b)) : va_D A (b ++ a) := va_D.swap (a := []) (b := a) (c := b) h
theorem lFree {s : State} {ws : va_W} {H : Heap} {locs : List Loc} (hD : va_D (lA s) ws) (hS : va_S (lA s) s.heap H locs) : ∀ q, va_A ws H.size q → lA s q := by
  intro q hq
  rcases hq with ⟨k, e, h⟩ | h
  · exact hD.2 k _ h
  · exact Nat.le_trans hS.1 h
section
variable {p : Program} {l : Launch} {e : Env} {s : State} {m : MethodId} {below : List Frame} {meth : Method} {c : Code} {H : Heap} {locs : List Loc} {Q : State → Prop} {b L : Nat} {xs : Nat → Int32} {D : va_G} {y : Nat → ClassId} {aC aM t : Nat → Nat} {σ : cS} {τ : mS} {pc : Nat} {ls : Array Slot} {rest st : List Value} {cells slots : Nat}
variable {yn : MethodName} {bytes : ByteArray} {maxL n index : Nat} {rt : Option FieldType} {wsc : List Cond} {rm : Room} {As : List Value}
theorem lx_cic {Qp : Int32 → cS → Prop} (C : lC p s m meth c b L xs D y t) (hO : lO D y aC aM s H locs σ τ)
    (hM : ∀ sz, Met l yn wsc rm (va_Pc (.ref (aC 0) :: As) (cPre D y aC t (mW y aM τ) sz σ)) (va_Qi Qp (cB D y aC (mW y aM τ) (va_A (cW y aC σ ++ mW y aM τ) sz)) (va_A (cW y aC σ ++ mW y aM τ) sz)) 0 0 (va_A (cW y aC σ ++ mW y aM τ) sz))
    (cw : CallW room_1 s #[Value.ref b] RL RX7 index yn bytes maxL rt wsc rm 0 0 n) (hcs : cells ≤ 600000 ∧ slots ≤ 7302250) (hn : As.length = n) (hls : ls.size = 4) (hst : st = As.reverse ++ .ref (aC 0) :: rest) (hW : 2 * (F0 m pc ls st).monitorRoom + (rest.map fun v => v.category).sum ≤ 8) (hdg : decode code pc = .ok (.invokevirtual index, 3))
    (kk : ∀ (r : Int32) (σ' : cS) (H1 : Heap) (locs1 : List Loc), Qp r σ' → lO D y aC aM s H1 locs1 σ' τ → W p l e room_1 s m #[Value.ref b] below meth c H1 locs1 cells slots Q (F0 m (pc + 3) ls (.int r :: rest))) : W p l e room_1 s m #[Value.ref b] below meth c H locs cells slots Q (F0 m pc ls st) := by
  obtain ⟨hx, hb, hr, hml, hown, hts, hX, hbl, hK, hTs, hNw⟩ := C
  obtain ⟨hP, hD, hS⟩ := hO
  have hF := lFree hD hS
  refine va_calli (va_runV (As := As) (rest := rest) ⟨hx, hb, hml, hown, hts⟩ (hM H.size) cw ⟨cBlind, va_recv hK hP (ci := 5) (q0 := 0) (q := (RX7, TX7, 8)) rfl (cW_get (i := 0) (by decide)), fun U hU hW => ⟨rfl, by rw [hU], by rw [hU]; exact hP, va_K.moved hW.alike hK, hD.weaken (fun _ _ _ _ => trivial), by rw [hU]; exact hTs.to hW.alike (fun a h1 h2 => hS.2.1 a h1 h2) hF, va_Nw.warmM hW hNw⟩⟩ rfl hn hls hst hW hdg ⟨hcs.1, hcs.2⟩) hS (fun q _ h => hF q h) hF (fun r u t H1 locs1 ht hvm hw hB hz1 hk1 hS => ?_)
  obtain ⟨hP1, hK1, hD1⟩ := hB
  rw [ht] at hP1
  exact kk r u H1 locs1 hw ⟨hP1, hD1.weaken (fun _ _ _ h => hF _ h), hS⟩
theorem lx_cim {Qp : Int32 → mS → Prop} (C : lC p s m meth c b L xs D y t) (hO : lO D y aC aM s H locs σ τ)
    (hM : ∀ sz, Met l yn wsc rm (va_Pc (.ref (aM 0) :: As) (mPre D y aM (cW y aC σ) sz τ)) (va_Qi Qp (mB D y aM (cW y aC σ) (va_A (mW y aM τ ++ cW y aC σ) sz)) (va_A (mW y aM τ ++ cW y aC σ) sz)) 0 0 (va_A (mW y aM τ ++ cW y aC σ) sz))
    (cw : CallW room_1 s #[Value.ref b] RL RX8 index yn bytes maxL rt wsc rm 0 0 n) (hcs : cells ≤ 600000 ∧ slots ≤ 7302250) (hn : As.length = n) (hls : ls.size = 4) (hst : st = As.reverse ++ .ref (aM 0) :: rest) (hW : 2 * (F0 m pc ls st).monitorRoom + (rest.map fun v => v.category).sum ≤ 8) (hdg : decode code pc = .ok (.invokevirtual index, 3))
    (kk : ∀ (r : Int32) (τ' : mS) (H1 : Heap) (locs1 : List Loc), Qp r τ' → lO D y aC aM s H1 locs1 σ τ' → W p l e room_1 s m #[Value.ref b] below meth c H1 locs1 cells slots Q (F0 m (pc + 3) ls (.int r :: rest))) : W p l e room_1 s m #[Value.ref b] below meth c H locs cells slots Q (F0 m pc ls st) := by
  obtain ⟨hx, hb, hr, hml, hown, hts, hX, hbl, hK, hTs, hNw⟩ := C
  obtain ⟨hP, hD, hS⟩ := hO
  have hP := lSwapP hP
  have hD := lSwapD hD
  have hF := lFree hD hS
  refine va_calli (va_runV (As := As) (rest := rest) ⟨hx, hb, hml, hown, hts⟩ (hM H.size) cw ⟨mBlind, va_recv hK hP (ci := 6) (q0 := 0) (q := (RX8, TX8, 19)) rfl (mW_get (i := 0) (by decide)), fun U hU hW => ⟨rfl, by rw [hU], by rw [hU]; exact hP, va_K.moved hW.alike hK, hD.weaken (fun _ _ _ _ => trivial)⟩⟩ rfl hn hls hst hW hdg ⟨hcs.1, hcs.2⟩) hS (fun q _ h => hF q h) hF (fun r u t H1 locs1 ht hvm hw hB hz1 hk1 hS => ?_)
  obtain ⟨hP1, hK1, hD1⟩ := hB
  rw [ht] at hP1
  exact kk r u H1 locs1 hw ⟨(lSwapP hP1), (lSwapD hD1).weaken (fun _ _ _ h => hF _ h), hS⟩
theorem lx_clc {Qp : Int64 → cS → Prop} (C : lC p s m meth c b L xs D y t) (hO : lO D y aC aM s H locs σ τ)
    (hM : ∀ sz, Met l yn wsc rm (va_Pc (.ref (aC 0) :: As) (cPre D y aC t (mW y aM τ) sz σ)) (va_Ql Qp (cB D y aC (mW y aM τ) (va_A (cW y aC σ ++ mW y aM τ) sz)) (va_A (cW y aC σ ++ mW y aM τ) sz)) 0 0 (va_A (cW y aC σ ++ mW y aM τ) sz))
    (cw : CallW room_1 s #[Value.ref b] RL RX7 index yn bytes maxL rt wsc rm 0 0 n) (hcs : cells ≤ 600000 ∧ slots ≤ 7302250) (hn : As.length = n) (hls : ls.size = 4) (hst : st = As.reverse ++ .ref (aC 0) :: rest) (hW : 2 * (F0 m pc ls st).monitorRoom + (rest.map fun v => v.category).sum ≤ 8) (hdg : decode code pc = .ok (.invokevirtual index, 3))
    (kk : ∀ (r : Int64) (σ' : cS) (H1 : Heap) (locs1 : List Loc), Qp r σ' → lO D y aC aM s H1 locs1 σ' τ → W p l e room_1 s m #[Value.ref b] below meth c H1 locs1 cells slots Q (F0 m (pc + 3) ls (.long r :: rest))) : W p l e room_1 s m #[Value.ref b] below meth c H locs cells slots Q (F0 m pc ls st) := by
  obtain ⟨hx, hb, hr, hml, hown, hts, hX, hbl, hK, hTs, hNw⟩ := C
  obtain ⟨hP, hD, hS⟩ := hO
  have hF := lFree hD hS
  refine va_calll (va_runV (As := As) (rest := rest) ⟨hx, hb, hml, hown, hts⟩ (hM H.size) cw ⟨cBlind, va_recv hK hP (ci := 5) (q0 := 0) (q := (RX7, TX7, 8)) rfl (cW_get (i := 0) (by decide)), fun U hU hW => ⟨rfl, by rw [hU], by rw [hU]; exact hP, va_K.moved hW.alike hK, hD.weaken (fun _ _ _ _ => trivial), by rw [hU]; exact hTs.to hW.alike (fun a h1 h2 => hS.2.1 a h1 h2) hF, va_Nw.warmM hW hNw⟩⟩ rfl hn hls hst hW hdg ⟨hcs.1, hcs.2⟩) hS (fun q _ h => hF q h) hF (fun r u t H1 locs1 ht hvm hw hB hz1 hk1 hS => ?_)
  obtain ⟨hP1, hK1, hD1⟩ := hB
  rw [ht] at hP1
  exact kk r u H1 locs1 hw ⟨hP1, hD1.weaken (fun _ _ _ h => hF _ h), hS⟩
theorem lx_clm {Qp : Int64 → mS → Prop} (C : lC p s m meth c b L xs D y t) (hO : lO D y aC aM s H locs σ τ)
    (hM : ∀ sz, Met l yn wsc rm (va_Pc (.ref (aM 0) :: As) (mPre D y aM (cW y aC σ) sz τ)) (va_Ql Qp (mB D y aM (cW y aC σ) (va_A (mW y aM τ ++ cW y aC σ) sz)) (va_A (mW y aM τ ++ cW y aC σ) sz)) 0 0 (va_A (mW y aM τ ++ cW y aC σ) sz))
    (cw : CallW room_1 s #[Value.ref b] RL RX8 index yn bytes maxL rt wsc rm 0 0 n) (hcs : cells ≤ 600000 ∧ slots ≤ 7302250) (hn : As.length = n) (hls : ls.size = 4) (hst : st = As.reverse ++ .ref (aM 0) :: rest) (hW : 2 * (F0 m pc ls st).monitorRoom + (rest.map fun v => v.category).sum ≤ 8) (hdg : decode code pc = .ok (.invokevirtual index, 3))
    (kk : ∀ (r : Int64) (τ' : mS) (H1 : Heap) (locs1 : List Loc), Qp r τ' → lO D y aC aM s H1 locs1 σ τ' → W p l e room_1 s m #[Value.ref b] below meth c H1 locs1 cells slots Q (F0 m (pc + 3) ls (.long r :: rest))) : W p l e room_1 s m #[Value.ref b] below meth c H locs cells slots Q (F0 m pc ls st) := by
  obtain ⟨hx, hb, hr, hml, hown, hts, hX, hbl, hK, hTs, hNw⟩ := C
  obtain ⟨hP, hD, hS⟩ := hO
  have hP := lSwapP hP
  have hD := lSwapD hD
  have hF := lFree hD hS
  refine va_calll (va_runV (As := As) (rest := rest) ⟨hx, hb, hml, hown, hts⟩ (hM H.size) cw ⟨mBlind, va_recv hK hP (ci := 6) (q0 := 0) (q := (RX8, TX8, 19)) rfl (mW_get (i := 0) (by decide)), fun U hU hW => ⟨rfl, by rw [hU], by rw [hU]; exact hP, va_K.moved hW.alike hK, hD.weaken (fun _ _ _ _ => trivial)⟩⟩ rfl hn hls hst hW hdg ⟨hcs.1, hcs.2⟩) hS (fun q _ h => hF q h) hF (fun r u t H1 locs1 ht hvm hw hB hz1 hk1 hS => ?_)
  obtain ⟨hP1, hK1, hD1⟩ := hB
  rw [ht] at hP1
  exact kk r u H1 locs1 hw ⟨(lSwapP hP1), (lSwapD hD1).weaken (fun _ _ _ h => hF _ h), hS⟩
end
theorem lin {i L k : Nat} (h : i + 8 ≤ L) (hL : L ≤ 4096) (hk : k < 8) : vp_in (nI i + nI k) L := by
  rw [nI_add]
  exact vp_in_nI (by omega) (by omega)
