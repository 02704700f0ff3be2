/-! THE CLASS'S WORLD: its 47 cells by number, in the order in which they are made: 0 the object; 1 the Tape, 2 its bytes; 3 the row of Lines, 4 the row of Rows; 5 the Plain, 6 and 7 its high and low (which change places), 8 quotient; 9 the Study, 10 forms, 11 left, 12 right, 13 product, 14 relation, 15 knotted; 16 shares, 17 polynomial, 18 straight; 19 + 5 j a Line, behind it numbers, equation, law, knot; 39 + 2 j a Row, behind it its items -/
abbrev cLf (ad : Nat → Nat) (σ : cS) (o : Nat) : List Value := [.ref (ad (o + 1)), .ref (ad (o + 2)), .ref (ad (o + 3)), .ref (ad (o + 4)), .int (σ.2.2.1 o 4), .int (σ.2.2.1 o 5), .int (σ.2.2.1 o 6), .int (σ.2.2.1 o 7)]
abbrev cRf (ad : Nat → Nat) (σ : cS) (o : Nat) : List Value := [.ref (ad (o + 1)), .int (σ.2.2.1 o 1), .int (σ.2.2.1 o 2)]
abbrev cBf (ad : Nat → Nat) : List Value := [.ref (ad 1), .ref (ad 3), .ref (ad 4), .ref (ad 5), .ref (ad 9), .ref (ad 16), .ref (ad 17), .ref (ad 18)]
abbrev cTf (ad : Nat → Nat) (σ : cS) : List Value := [.ref (ad 2), .int (σ.2.2.1 1 1), .int (σ.2.2.1 1 2)]
abbrev cPf (ad : Nat → Nat) (σ : cS) : List Value := [.ref (ad (σ.2.2.2 0)), .ref (ad (σ.2.2.2 1)), .ref (ad 8)]
abbrev cSf (ad : Nat → Nat) : List Value := [.ref (ad 10), .ref (ad 11), .ref (ad 12), .ref (ad 13), .ref (ad 14), .ref (ad 15)]
abbrev cAL (ad : Nat → Nat) : Nat → Option Nat := va_up (va_up (va_up (va_up (fun _ => none) 0 (some (ad 19))) 1 (some (ad 24))) 2 (some (ad 29))) 3 (some (ad 34))
abbrev cAR (ad : Nat → Nat) : Nat → Option Nat := va_up (va_up (va_up (va_up (fun _ => none) 0 (some (ad 39))) 1 (some (ad 41))) 2 (some (ad 43))) 3 (some (ad 45))
theorem cAL_at (ad : Nat → Nat) {i : Int32} (h : vp_in i 4) : va_rf (cAL ad i.toNatClampNeg) = .ref (ad (19 + 5 * i.toNatClampNeg)) := by
  obtain ⟨j, hj, rfl⟩ := vp_in_of h (by decide)
  rw [nI_clamp (by omega)]
  match j, hj with
  | 0, _ => rfl
  | 1, _ => rfl
  | 2, _ => rfl
  | 3, _ => rfl
theorem cAR_at (ad : Nat → Nat) {i : Int32} (h : vp_in i 4) : va_rf (cAR ad i.toNatClampNeg) = .ref (ad (39 + 2 * i.toNatClampNeg)) := by
  obtain ⟨j, hj, rfl⟩ := vp_in_of h (by decide)
  rw [nI_clamp (by omega)]
  match j, hj with
  | 0, _ => rfl
  | 1, _ => rfl
  | 2, _ => rfl
  | 3, _ => rfl
def cE0 (y : Nat → ClassId) (ad : Nat → Nat) (σ : cS) (i : Nat) : va_E :=
  match i with
  | 0 => .inr (5, cBf ad)
  | 1 => .inr (4, cTf ad σ)
  | 2 => .inl (y 0, 90, .inl (σ.2.1 2))
  | 3 => .inl (y 3, 4, .inr (.inr (.inr (.inr (cAL ad)))))
  | 4 => .inl (y 4, 4, .inr (.inr (.inr (.inr (cAR ad)))))
  | 5 => .inr (1, cPf ad σ)
  | _ => .inr (3, cSf ad)
def cE (y : Nat → ClassId) (ad : Nat → Nat) (σ : cS) (i : Nat) : va_E := if cJ i = true then .inl (y 1, cLen i, .inr (.inl (σ.1 i))) else if cL i = true then .inr (0, cLf ad σ i) else if cR i = true then .inr (2, cRf ad σ i) else cE0 y ad σ i
theorem cE_J {y : Nat → ClassId} {ad : Nat → Nat} {σ : cS} {i : Nat} (h : cJ i = true) : cE y ad σ i = .inl (y 1, cLen i, .inr (.inl (σ.1 i))) := if_pos h
theorem cE_L {y : Nat → ClassId} {ad : Nat → Nat} {σ : cS} {i : Nat} (h : cL i = true) : cE y ad σ i = .inr (0, cLf ad σ i) := by
  unfold cE
  rw [(cL_lt h).2.1, h]
  rfl
theorem cE_R {y : Nat → ClassId} {ad : Nat → Nat} {σ : cS} {i : Nat} (h : cR i = true) : cE y ad σ i = .inr (2, cRf ad σ i) := by
  unfold cE
  rw [(cR_lt h).2.1, (cR_lt h).2.2, h]
  rfl
def cW (y : Nat → ClassId) (ad : Nat → Nat) (σ : cS) : va_W := (List.range 47).map (fun i => (ad i, cE y ad σ i))
theorem cW_len {y : Nat → ClassId} {ad : Nat → Nat} {σ : cS} : (cW y ad σ).length = 47 := by simp [cW]
theorem cW_get {y : Nat → ClassId} {ad : Nat → Nat} {σ : cS} {X : va_W} {i : Nat} (h : i < 47) : (cW y ad σ ++ X)[i]? = some (ad i, cE y ad σ i) := by
  rw [List.getElem?_append_left (by rw [cW_len]; exact h), cW, List.getElem?_map, List.getElem?_range h]
  rfl
theorem cW_set {y : Nat → ClassId} {ad : Nat → Nat} {σ σ' : cS} {X : va_W} {i : Nat} {e : va_E} (h : i < 47) (h1 : cE y ad σ' i = e) (h2 : ∀ j, j ≠ i → cE y ad σ' j = cE y ad σ j) : (cW y ad σ ++ X).set i (ad i, e) = cW y ad σ' ++ X := by
  rw [List.set_append_left _ _ (by rw [cW_len]; exact h)]
  refine congrArg (fun l => l ++ X) ?_
  refine List.ext_getElem? (fun k => ?_)
  rw [List.getElem?_set]
  by_cases hk : i = k
  · subst hk
    rw [if_pos rfl, if_pos (by rw [cW_len]; exact h), cW, List.getElem?_map, List.getElem?_range h, ← h1]
    rfl
  · rw [if_neg hk, cW, cW, List.getElem?_map, List.getElem?_map]
    rcases Nat.lt_or_ge k 47 with q | q
    · rw [List.getElem?_range q]
      show some (ad k, cE y ad σ k) = some (ad k, cE y ad σ' k)
      rw [h2 k (fun z => hk z.symm)]
    · rw [List.getElem?_eq_none (by simpa using q)]
      rfl
theorem cW_R {y : Nat → ClassId} {ad : Nat → Nat} {σ : cS} {X : va_W} {a : Nat} {f : Nat → Int64} (h : cJ a = true) : (cW y ad σ ++ X).set a (ad a, .inl (y 1, cLen a, .inr (.inl f))) = cW y ad (cUR σ a f) ++ X :=
  cW_set (cJ_lt h) (by rw [cE_J h, cUR_at]) (fun j hj => by
    unfold cE
    rw [cUR_ne hj]
    rfl)
theorem cE_F {y : Nat → ClassId} {ad : Nat → Nat} {σ : cS} {o k : Nat} {x : Int32} : ∀ j, j ≠ o → cE y ad (cUF σ o k x) j = cE y ad σ j := by
  intro j hj
  have e := cUF_ne (σ := σ) (k := k) (x := x) hj
  unfold cE
  by_cases h1 : cJ j = true
  · rw [if_pos h1, if_pos h1]; rfl
  · rw [if_neg h1, if_neg h1]
    by_cases h2 : cL j = true
    · rw [if_pos h2, if_pos h2]
      show Sum.inr (0, cLf ad (cUF σ o k x) j) = _
      unfold cLf
      rw [e]
    · rw [if_neg h2, if_neg h2]
      by_cases h3 : cR j = true
      · rw [if_pos h3, if_pos h3]
        show Sum.inr (2, cRf ad (cUF σ o k x) j) = _
        unfold cRf
        rw [e]
      · rw [if_neg h3, if_neg h3]
        unfold cE0
        split <;> first | rfl | (unfold cTf; rw [e])
theorem cW_FL {y : Nat → ClassId} {ad : Nat → Nat} {σ : cS} {X : va_W} {o k : Nat} {x : Int32} (h : cL o = true) (hk : k = 4 ∨ k = 5 ∨ k = 6 ∨ k = 7) : (cW y ad σ ++ X).set o (ad o, .inr (0, (cLf ad σ o).set k (.int x))) = cW y ad (cUF σ o k x) ++ X :=
  cW_set (cL_lt h).1 (by
    rw [cE_L h]
    unfold cLf
    rw [cUF_at]
    rcases hk with rfl | rfl | rfl | rfl <;> rfl) cE_F
theorem cW_FR {y : Nat → ClassId} {ad : Nat → Nat} {σ : cS} {X : va_W} {o k : Nat} {x : Int32} (h : cR o = true) (hk : k = 1 ∨ k = 2) : (cW y ad σ ++ X).set o (ad o, .inr (2, (cRf ad σ o).set k (.int x))) = cW y ad (cUF σ o k x) ++ X :=
  cW_set (cR_lt h).1 (by
    rw [cE_R h]
    unfold cRf
    rw [cUF_at]
    rcases hk with rfl | rfl <;> rfl) cE_F
theorem cW_FT {y : Nat → ClassId} {ad : Nat → Nat} {σ : cS} {X : va_W} {k : Nat} {x : Int32} (hk : k = 1 ∨ k = 2) : (cW y ad σ ++ X).set 1 (ad 1, .inr (4, (cTf ad σ).set k (.int x))) = cW y ad (cUF σ 1 k x) ++ X :=
  cW_set (by decide) (by
    show Sum.inr (4, cTf ad (cUF σ 1 k x)) = _
    unfold cTf
    rw [cUF_at]
    rcases hk with rfl | rfl <;> rfl) cE_F
theorem cE_P {y : Nat → ClassId} {ad : Nat → Nat} {σ : cS} {k a : Nat} : ∀ j, j ≠ 5 → cE y ad (cUP σ k a) j = cE y ad σ j := by
  intro j hj
  unfold cE
  have e0 : cE0 y ad (cUP σ k a) j = cE0 y ad σ j := by
    unfold cE0
    split <;> first | rfl | exact absurd rfl hj
  rw [e0]
  rfl
theorem cW_P {y : Nat → ClassId} {ad : Nat → Nat} {σ : cS} {X : va_W} {k a : Nat} (hk : k = 0 ∨ k = 1) : (cW y ad σ ++ X).set 5 (ad 5, .inr (1, (cPf ad σ).set k (.ref (ad a)))) = cW y ad (cUP σ k a) ++ X :=
  cW_set (by decide) (by rcases hk with rfl | rfl <;> rfl) cE_P
theorem cW_I {y : Nat → ClassId} {ad : Nat → Nat} {σ : cS} {X : va_W} {i : Nat} {x : Int32} : (cW y ad σ ++ X).set 2 (ad 2, .inl (y 0, 90, .inl (upd (σ.2.1 2) i x))) = cW y ad (cUI σ i x) ++ X :=
  cW_set (by decide) (by rfl) (fun j hj => by
    unfold cE
    have e0 : cE0 y ad (cUI σ i x) j = cE0 y ad σ j := by
      unfold cE0
      split <;> first | rfl | exact absurd rfl hj
    rw [e0]
    rfl)
def cO (D : va_G) (y : Nat → ClassId) (ad : Nat → Nat) (X : va_W) (A : Nat → Prop) (H0 H : Heap) (locs : List Loc) (σ : cS) : Prop := va_P D vwCl (cW y ad σ ++ X) H ∧ va_D A (cW y ad σ ++ X) ∧ va_S A H0 H locs
/-- a table: a static row of ints that nobody writes -/
def cTb (C n : String) (t N : Nat) (f : Nat → Int32) (A : Nat → Prop) (U : State) (H : Heap) : Prop := va_Z C n "[I" (.ref t) A U H ∧ va_T .int t N (fun j => .int (f j)) A U H
def cTs (t : Nat → Nat) (A : Nat → Prop) (U : State) (H : Heap) : Prop := cTb "BentShares$Line" "START" (t 0) 4 tSTART A U H ∧ cTb "BentShares$Study" "LEFT" (t 1) 6 tLEFT A U H ∧ cTb "BentShares$Study" "RIGHT" (t 2) 6 tRIGHT A U H ∧ cTb "BentShares$Study" "OTHERS" (t 3) 12 tOTHERS A U H
/-- the one link between nest mates -/
abbrev cNest : Cond := .methodLinkNest RX5 19 yX7_within "BentShares"
theorem cTb.moved {C n : String} {t N : Nat} {f : Nat → Int32} {A : Nat → Prop} {u U : State} {H : Heap} (hvm : u.vm.Alike U.vm) (h : cTb C n t N f A u H) : cTb C n t N f A U H := ⟨h.1.moved hvm, h.2.moved hvm⟩
theorem cTb.kept {C n : String} {t N : Nat} {f : Nat → Int32} {A : Nat → Prop} {U : State} {H H1 : Heap} (h : cTb C n t N f A U H) (hq : ∀ a : Nat, a < H.size → ¬ A a → H1[a]? = H[a]?) : cTb C n t N f A U H1 := ⟨h.1.kept hq, h.2.kept hq⟩
theorem cTb.narrow {C n : String} {t N : Nat} {f : Nat → Int32} {A B : Nat → Prop} {U : State} {H : Heap} (h : cTb C n t N f A U H) (hq : ∀ q, B q → A q) : cTb C n t N f B U H := ⟨h.1.narrow hq, h.2.narrow hq⟩
theorem cTs.to {t : Nat → Nat} {A B : Nat → Prop} {u U : State} {H H1 : Heap} (h : cTs t A u H) (hvm : u.vm.Alike U.vm) (hk : ∀ a : Nat, a < H.size → ¬ A a → H1[a]? = H[a]?) (hn : ∀ q, B q → A q) : cTs t B U H1 := ⟨((h.1.kept hk).moved hvm).narrow hn, ((h.2.1.kept hk).moved hvm).narrow hn, ((h.2.2.1.kept hk).moved hvm).narrow hn, ((h.2.2.2.kept hk).moved hvm).narrow hn⟩
def cPre (D : va_G) (y : Nat → ClassId) (ad t : Nat → Nat) (X : va_W) (sz : Nat) (σ : cS) (U : State) : Prop := U.heap.size = sz ∧ va_P D vwCl (cW y ad σ ++ X) U.heap ∧ va_K D vwCl (mT y) U ∧ va_D (fun _ => True) (cW y ad σ ++ X) ∧ cTs t (va_A (cW y ad σ ++ X) sz) U U.heap ∧ va_Nw cNest U
def cB (D : va_G) (y : Nat → ClassId) (ad : Nat → Nat) (X : va_W) (A : Nat → Prop) (σ : cS) (t : State) : Prop := va_P D vwCl (cW y ad σ ++ X) t.heap ∧ va_K D vwCl (mT y) t ∧ va_D A (cW y ad σ ++ X)
def cC (p : Program) (s : State) (m : MethodId) (args : Array Value) (meth : Method) (c : Code) (cc : ByteArray) (nL : Nat) (ret : Option FieldType) (own : String) (ws : List Cond) (D : va_G) (y : Nat → ClassId) (t : Nat → Nat) (A : Nat → Prop) : Prop :=
  p.tables.exec = Jvm.exec ∧ c.code = cc ∧ meth.sig.returnType = ret ∧ c.maxLocals = nL ∧ s.vm.findClass own = some m.cls ∧ (∀ w ∈ ws, w.before args s = true) ∧ meth.locks = false ∧ va_K D vwCl (mT y) s ∧ (∀ q : Nat, s.heap.size ≤ q → A q) ∧ cTs t A s s.heap ∧ va_Nw cNest s
theorem cBlind {D : va_G} {y : Nat → ClassId} {ad t : Nat → Nat} {X : va_W} {sz : Nat} {σ : cS} {av : List Value} : FrameBlind (va_Pc av (cPre D y ad t X sz σ)) := fun a U g mk q => by
  obtain ⟨q0, q1, qP, qK, qD, qT, qN⟩ := q
  exact ⟨q0, q1, qP, va_K.moved (u := U) (U := U.calling g mk a) (Vm.Alike.refl U.vm) qK, qD, qT.to (Vm.Alike.refl U.vm) (fun _ _ _ => rfl) (fun _ h => h), va_Nw.same rfl rfl qN⟩
section
variable {p : Program} {l : Launch} {e : Env} {R : Room} {s : State} {m : MethodId} {args : Array Value} {below : List Frame} {meth : Method} {c : Code} {H : Heap} {locs : List Loc} {Q : State → Prop} {cc : ByteArray} {nL : Nat} {ret : Option FieldType} {own : String} {ws : List Cond} {D : va_G} {y : Nat → ClassId} {ad t : Nat → Nat} {X : va_W} {A : Nat → Prop} {σ : cS} {pc : Nat} {ls : Array Slot} {rest : List Value}
theorem cx_get (C : cC p s m args meth c cc nL ret own ws D y t A) (hO : cO D y ad X A s.heap H locs σ) {id ci N idx : Nat} {Cn ref : String} {T : u_T} {fs : List Value} (hid : id < 47) (hE : cE y ad σ id = .inr (ci, fs)) (hc : vwCl[ci]? = some (Cn, T, N)) (hin : ∀ w ∈ u_ws Cn T N, w ∈ ws) (k : Nat) {v : Value} (hk : k < N) (hlink : Cond.fieldLink own idx ref (T k).2.1 (T k).2.2.1 ∈ ws) (hs : (T k).1 = ref) (hv : fs[k]? = some v) (hdg : decode cc pc = .ok (.getfield idx, 3))
    (kk : W p l e R s m args below meth c H locs 0 0 Q (F0 m (pc + 3) ls (v :: rest))) : W p l e R s m args below meth c H locs 0 0 Q (F0 m pc ls (.ref (ad id) :: rest)) := by
  obtain ⟨hx, hb, hr, hml, hown, hts, hlk, hK, hA, hTs, hNw⟩ := C
  obtain ⟨hP, hD, hS⟩ := hO
  exact va_get (D := D) (ci := ci) (v := v) (C := Cn) (T := T) (N := N) hx hb hts hin hown hK hP id (fs := fs) (by rw [cW_get hid, hE]) hc k hk (hts _ hlink) (fun x h => by rw [← hs]; exact h) hv hdg kk
theorem cx_put (C : cC p s m args meth c cc nL ret own ws D y t A) (hO : cO D y ad X A s.heap H locs σ) {id ci N idx : Nat} {Cn ref : String} {T : u_T} {fs : List Value} {σ1 : cS} (hid : id < 47) (hE : cE y ad σ id = .inr (ci, fs)) (hc : vwCl[ci]? = some (Cn, T, N)) (hin : ∀ w ∈ u_ws Cn T N, w ∈ ws) (ty0 : Nat → FieldType) (hty : ∀ k, k < N → parseFieldDescriptor (T k).2.2.1 = some (ty0 k)) (hnm : ∀ a, a < N → ∀ b, b < N → a ≠ b → (T a).2.1 ≠ (T b).2.1) (k : Nat) {v : Value} {ty : FieldType} (hk : k < N) (hlink : Cond.fieldLink own idx ref (T k).2.1 (T k).2.2.1 ∈ ws) (hs : (T k).1 = ref) (hfin : (T k).2.2.2 = false) (hd : parseFieldDescriptor (T k).2.2.1 = some ty) (hn : narrow ty v = v) (hfit : fits ty v = true) (hl : k < fs.length) (hset : (cW y ad σ ++ X).set id (ad id, .inr (ci, fs.set k v)) = cW y ad σ1 ++ X) (hdg : decode cc pc = .ok (.putfield idx, 3))
    (kk : ∀ (H1 : Heap) (locs1 : List Loc) (σ2 : cS), σ2 = σ1 → cO D y ad X A s.heap H1 locs1 σ2 → W p l e R s m args below meth c H1 locs1 0 0 Q (F0 m (pc + 3) ls rest)) : W p l e R s m args below meth c H locs 0 0 Q (F0 m pc ls (v :: .ref (ad id) :: rest)) := by
  obtain ⟨hx, hb, hr, hml, hown, hts, hlk, hK, hA, hTs, hNw⟩ := C
  obtain ⟨hP, hD, hS⟩ := hO
  refine va_put (D := D) (ci := ci) (v := v) (ty := ty) (C := Cn) (T := T) (N := N) hx hb hts hin ty0 hty hnm hown hK hP hD hS id (fs := fs) (by rw [cW_get hid, hE]) hc k hk (hts _ hlink) (fun x h => by rw [← hs]; exact h) hfin hd hn hfit hl hdg (fun H1 locs1 hP hD hS => ?_)
  rw [hset] at hP hD
  exact kk H1 locs1 σ1 rfl ⟨hP, hD, hS⟩
theorem cx_lald (C : cC p s m args meth c cc nL ret own ws D y t A) (hO : cO D y ad X A s.heap H locs σ) {a : Nat} (ha : cJ a = true) {i : Int32} (hin : vp_in i (cLen a)) (hdg : decode cc pc = .ok (.laload, 1))
    (kk : W p l e R s m args below meth c H locs 0 0 Q (F0 m (pc + 1) ls (.long (σ.1 a i.toNatClampNeg) :: rest))) : W p l e R s m args below meth c H locs 0 0 Q (F0 m pc ls (.int i :: .ref (ad a) :: rest)) := by
  obtain ⟨hx, hb, hr, hml, hown, hts, hlk, hK, hA, hTs, hNw⟩ := C
  obtain ⟨hP, hD, hS⟩ := hO
  exact va_lald hx hb hK hP a 1 (by rw [cW_get (cJ_lt ha), cE_J ha]) rfl hin hdg kk
theorem cx_last (C : cC p s m args meth c cc nL ret own ws D y t A) (hO : cO D y ad X A s.heap H locs σ) {a : Nat} (ha : cJ a = true) {i : Int32} {x : Int64} (hin : vp_in i (cLen a)) (hdg : decode cc pc = .ok (.lastore, 1))
    (kk : ∀ (H1 : Heap) (locs1 : List Loc) (σ1 : cS), σ1 = cUJ σ a i.toNatClampNeg x → cO D y ad X A s.heap H1 locs1 σ1 → W p l e R s m args below meth c H1 locs1 0 0 Q (F0 m (pc + 1) ls rest)) : W p l e R s m args below meth c H locs 0 0 Q (F0 m pc ls (.long x :: .int i :: .ref (ad a) :: rest)) := by
  obtain ⟨hx, hb, hr, hml, hown, hts, hlk, hK, hA, hTs, hNw⟩ := C
  obtain ⟨hP, hD, hS⟩ := hO
  refine va_last hx hb hK hP hD hS a 1 (by rw [cW_get (cJ_lt ha), cE_J ha]) rfl hin hdg (fun H1 locs1 hP hD hS => ?_)
  rw [cW_R ha] at hP hD
  exact kk H1 locs1 _ rfl ⟨hP, hD, hS⟩
theorem cx_alen (C : cC p s m args meth c cc nL ret own ws D y t A) (hO : cO D y ad X A s.heap H locs σ) {a : Nat} (ha : cJ a = true) (hdg : decode cc pc = .ok (.arraylength, 1))
    (kk : W p l e R s m args below meth c H locs 0 0 Q (F0 m (pc + 1) ls (.int (nI (cLen a)) :: rest))) : W p l e R s m args below meth c H locs 0 0 Q (F0 m pc ls (.ref (ad a) :: rest)) := by
  obtain ⟨hx, hb, hr, hml, hown, hts, hlk, hK, hA, hTs, hNw⟩ := C
  obtain ⟨hP, hD, hS⟩ := hO
  exact va_alen hx hb hK hP a 1 (x := (cLen a, .inr (.inl (σ.1 a)))) (by rw [cW_get (cJ_lt ha), cE_J ha]) (ty := .long) rfl rfl hdg kk
theorem cx_iald (C : cC p s m args meth c cc nL ret own ws D y t A) (hO : cO D y ad X A s.heap H locs σ) {i : Int32} (hin : vp_in i 90) (hdg : decode cc pc = .ok (.iaload, 1))
    (kk : W p l e R s m args below meth c H locs 0 0 Q (F0 m (pc + 1) ls (.int (σ.2.1 2 i.toNatClampNeg) :: rest))) : W p l e R s m args below meth c H locs 0 0 Q (F0 m pc ls (.int i :: .ref (ad 2) :: rest)) := by
  obtain ⟨hx, hb, hr, hml, hown, hts, hlk, hK, hA, hTs, hNw⟩ := C
  obtain ⟨hP, hD, hS⟩ := hO
  exact va_iald hx hb hK hP 2 0 (f := σ.2.1 2) (cW_get (i := 2) (by decide)) rfl hin hdg kk
theorem cx_iast (C : cC p s m args meth c cc nL ret own ws D y t A) (hO : cO D y ad X A s.heap H locs σ) {i : Int32} {x : Int32} (hin : vp_in i 90) (hdg : decode cc pc = .ok (.iastore, 1))
    (kk : ∀ (H1 : Heap) (locs1 : List Loc) (σ1 : cS), σ1 = cUI σ i.toNatClampNeg x → cO D y ad X A s.heap H1 locs1 σ1 → W p l e R s m args below meth c H1 locs1 0 0 Q (F0 m (pc + 1) ls rest)) : W p l e R s m args below meth c H locs 0 0 Q (F0 m pc ls (.int x :: .int i :: .ref (ad 2) :: rest)) := by
  obtain ⟨hx, hb, hr, hml, hown, hts, hlk, hK, hA, hTs, hNw⟩ := C
  obtain ⟨hP, hD, hS⟩ := hO
  refine va_iast hx hb hK hP hD hS 2 0 (f := σ.2.1 2) (cW_get (i := 2) (by decide)) rfl hin hdg (fun H1 locs1 hP hD hS => ?_)
  rw [cW_I] at hP hD
  exact kk H1 locs1 _ rfl ⟨hP, hD, hS⟩
theorem cx_aaL (C : cC p s m args meth c cc nL ret own ws D y t A) (hO : cO D y ad X A s.heap H locs σ) {i : Int32} (hin : vp_in i 4) (hdg : decode cc pc = .ok (.aaload, 1))
    (kk : ∀ o : Nat, o = 19 + 5 * i.toNatClampNeg → cL o = true → W p l e R s m args below meth c H locs 0 0 Q (F0 m (pc + 1) ls (.ref (ad o) :: rest))) : W p l e R s m args below meth c H locs 0 0 Q (F0 m pc ls (.int i :: .ref (ad 3) :: rest)) := by
  obtain ⟨hx, hb, hr, hml, hown, hts, hlk, hK, hA, hTs, hNw⟩ := C
  obtain ⟨hP, hD, hS⟩ := hO
  exact va_aldq hx hb hK hP 3 3 (f := cAL ad) (cW_get (i := 3) (by decide)) rfl hin hdg (by rw [cAL_at ad hin]; exact kk _ rfl (cL_at hin))
theorem cx_aaR (C : cC p s m args meth c cc nL ret own ws D y t A) (hO : cO D y ad X A s.heap H locs σ) {i : Int32} (hin : vp_in i 4) (hdg : decode cc pc = .ok (.aaload, 1))
    (kk : ∀ o : Nat, o = 39 + 2 * i.toNatClampNeg → cR o = true → W p l e R s m args below meth c H locs 0 0 Q (F0 m (pc + 1) ls (.ref (ad o) :: rest))) : W p l e R s m args below meth c H locs 0 0 Q (F0 m pc ls (.int i :: .ref (ad 4) :: rest)) := by
  obtain ⟨hx, hb, hr, hml, hown, hts, hlk, hK, hA, hTs, hNw⟩ := C
  obtain ⟨hP, hD, hS⟩ := hO
  exact va_aldq hx hb hK hP 4 4 (f := cAR ad) (cW_get (i := 4) (by decide)) rfl hin hdg (by rw [cAR_at ad hin]; exact kk _ rfl (cR_at hin))
theorem cx_gets (C : cC p s m args meth c cc nL ret own ws D y t A) (hO : cO D y ad X A s.heap H locs σ) {Cn n ref : String} {k N idx : Nat} {f : Nat → Int32} (hT : cTb Cn n k N f A s s.heap) (hlink : Cond.fieldLink own idx ref n "[I" ∈ ws) (hs : Cn = ref) (hdg : decode cc pc = .ok (.getstatic idx, 3))
    (kk : W p l e R s m args below meth c H locs 0 0 Q (F0 m (pc + 3) ls (.ref k :: rest))) : W p l e R s m args below meth c H locs 0 0 Q (F0 m pc ls rest) := by
  obtain ⟨hx, hb, hr, hml, hown, hts, hlk, hK, hA, hTs, hNw⟩ := C
  obtain ⟨hP, hD, hS⟩ := hO
  exact va_gets hx hb hT.1 hS hown (hts _ hlink) (fun x h => by rw [← hs]; exact h) hdg kk
theorem cx_ti (C : cC p s m args meth c cc nL ret own ws D y t A) (hO : cO D y ad X A s.heap H locs σ) {Cn n : String} {k N : Nat} {f : Nat → Int32} (hT : cTb Cn n k N f A s s.heap) {i : Int32} (hin : vp_in i N) (hdg : decode cc pc = .ok (.iaload, 1))
    (kk : W p l e R s m args below meth c H locs 0 0 Q (F0 m (pc + 1) ls (.int (f i.toNatClampNeg) :: rest))) : W p l e R s m args below meth c H locs 0 0 Q (F0 m pc ls (.int i :: .ref k :: rest)) := by
  obtain ⟨hx, hb, hr, hml, hown, hts, hlk, hK, hA, hTs, hNw⟩ := C
  obtain ⟨hP, hD, hS⟩ := hO
  exact va_ti hx hb hT.2 hS hin rfl hdg kk
theorem cx_copy (C : cC p s m args meth c cc nL ret own ws D y t A) (hO : cO D y ad X A s.heap H locs σ) {idx : Nat} {a0 a : Nat} (h0 : cJ a0 = true) (ha : cJ a = true) {sp dp n : Int32} (hnat : ∀ w ∈ ([.methodLink own idx arraycopyName, .native arraycopyName, .static arraycopyName, .initialized "java/lang/System"] : List Cond), w ∈ ws) (h1 : ¬ sp < 0) (h2 : ¬ dp < 0) (h3 : ¬ n < 0) (h4 : sp.toNatClampNeg + n.toNatClampNeg ≤ cLen a0) (h5 : dp.toNatClampNeg + n.toNatClampNeg ≤ cLen a) (hfr : 1 ≤ R.frames) (hlo : (rest.map fun v => v.category).sum + (nativeFrameWords "java/lang/System" "arraycopy" 5 + 11) ≤ R.locals) (hls : ls.size = nL) (hdg : decode cc pc = .ok (.invokestatic idx, 3))
    (kk : ∀ (H1 : Heap) (locs1 : List Loc) (σ1 : cS), σ1 = cUR σ a (va_cpy (σ.1 a0) (σ.1 a) sp.toNatClampNeg dp.toNatClampNeg n.toNatClampNeg) → cO D y ad X A s.heap H1 locs1 σ1 → W p l e R s m args below meth c H1 locs1 0 0 Q (F0 m (pc + 3) ls rest)) : W p l e R s m args below meth c H locs 0 0 Q (F0 m pc ls (.int n :: .int dp :: .ref (ad a) :: .int sp :: .ref (ad a0) :: rest)) := by
  obtain ⟨hx, hb, hr, hml, hown, hts, hlk, hK, hA, hTs, hNw⟩ := C
  obtain ⟨hP, hD, hS⟩ := hO
  refine va_copyl hx hb (by rw [hml, hls]) hown (hts _ (hnat _ (by simp))) (hts _ (hnat _ (by simp))) (hts _ (hnat _ (by simp))) (hts _ (hnat _ (by simp))) hK hP hD hS a0 a 1 1 (by rw [cW_get (cJ_lt h0), cE_J h0]) (by rw [cW_get (cJ_lt ha), cE_J ha]) rfl rfl rfl h1 h2 h3 h4 h5 (fun _ _ => rfl) hfr hlo hdg (fun H1 locs1 hP hD hS => ?_)
  rw [cW_R ha] at hP hD
  exact kk H1 locs1 _ rfl ⟨hP, hD, hS⟩
theorem cx_iret {Qp : Int32 → cS → Prop} {v : Int32} (C : cC p s m args meth c cc nL (some .int) own ws D y t A) (hO : cO D y ad X A s.heap H locs σ) (hq : Qp v σ) (hdg : decode cc pc = .ok (.ireturn, 1)) : W p l e R s m args below meth c H locs 0 0 (MQ below (va_Qi Qp (cB D y ad X A) A) args s 0 0 A) (F0 m pc ls [.int v]) := by
  obtain ⟨hx, hb, hr, hml, hown, hts, hlk, hK, hA, hTs, hNw⟩ := C
  obtain ⟨hP, hD, hS⟩ := hO
  exact W.iret (v := v) hx hb hr (fun t ht hW => ⟨⟨v, σ, rfl, hq, by rw [ht]; exact hP, va_K.moved hW.alike hK, hD⟩, hS.F ht⟩) hS.2.2 hdg
theorem cx_zret {Qp : Int32 → cS → Prop} {v : Int32} (C : cC p s m args meth c cc nL (some .boolean) own ws D y t A) (hO : cO D y ad X A s.heap H locs σ) (hn : narrow .boolean (.int v) = .int v) (hq : Qp v σ) (hdg : decode cc pc = .ok (.ireturn, 1)) : W p l e R s m args below meth c H locs 0 0 (MQ below (va_Qi Qp (cB D y ad X A) A) args s 0 0 A) (F0 m pc ls [.int v]) := by
  obtain ⟨hx, hb, hr, hml, hown, hts, hlk, hK, hA, hTs, hNw⟩ := C
  obtain ⟨hP, hD, hS⟩ := hO
  exact W.zret (v := v) hx hb hr hn (fun t ht hW => ⟨⟨v, σ, rfl, hq, by rw [ht]; exact hP, va_K.moved hW.alike hK, hD⟩, hS.F ht⟩) hS.2.2 hdg
theorem cx_lret {Qp : Int64 → cS → Prop} {v : Int64} (C : cC p s m args meth c cc nL (some .long) own ws D y t A) (hO : cO D y ad X A s.heap H locs σ) (hq : Qp v σ) (hdg : decode cc pc = .ok (.lreturn, 1)) : W p l e R s m args below meth c H locs 0 0 (MQ below (va_Ql Qp (cB D y ad X A) A) args s 0 0 A) (F0 m pc ls [.long v]) := by
  obtain ⟨hx, hb, hr, hml, hown, hts, hlk, hK, hA, hTs, hNw⟩ := C
  obtain ⟨hP, hD, hS⟩ := hO
  exact W.lret (v := v) hx hb hr (fun t ht hW => ⟨⟨v, σ, rfl, hq, by rw [ht]; exact hP, va_K.moved hW.alike hK, hD⟩, hS.F ht⟩) hS.2.2 hdg
theorem cx_vret {Qp : cS → Prop} (C : cC p s m args meth c cc nL none own ws D y t A) (hO : cO D y ad X A s.heap H locs σ) (hq : Qp σ) (hdg : decode cc pc = .ok (.return_, 1)) : W p l e R s m args below meth c H locs 0 0 (MQ below (va_Qv Qp (cB D y ad X A) A) args s 0 0 A) (F0 m pc ls []) := by
  obtain ⟨hx, hb, hr, hml, hown, hts, hlk, hK, hA, hTs, hNw⟩ := C
  obtain ⟨hP, hD, hS⟩ := hO
  exact W.vret hx hb hr (fun t ht hW => ⟨⟨σ, rfl, hq, by rw [ht]; exact hP, va_K.moved hW.alike hK, hD⟩, hS.F ht⟩) hS.2.2 hdg
end
theorem cFree {D : va_G} {y : Nat → ClassId} {ad : Nat → Nat} {X : va_W} {A : Nat → Prop} {H0 H : Heap} {locs : List Loc} {σ : cS} (hO : cO D y ad X A H0 H locs σ) (hA : ∀ q : Nat, H0.size ≤ q → A q) : ∀ q, va_A (cW y ad σ ++ X) H.size q → A q := by
  intro q hq
  rcases hq with ⟨k, e, h⟩ | h
  · exact hO.2.1.2 k _ h
  · exact hA q (Nat.le_trans hO.2.2.1 h)
section
variable {p : Program} {l : Launch} {e : Env} {R : Room} {s : State} {m : MethodId} {args : Array Value} {below : List Frame} {meth : Method} {c : Code} {H : Heap} {locs : List Loc} {Q : State → Prop} {cc : ByteArray} {nL : Nat} {ret : Option FieldType} {own : String} {ws : List Cond} {D : va_G} {y : Nat → ClassId} {ad t : Nat → Nat} {X : va_W} {A : Nat → Prop} {σ : cS} {pc : Nat} {ls : Array Slot} {rest st : List Value}
variable {yn : MethodName} {bytes : ByteArray} {maxL n index : Nat} {rt : Option FieldType} {wsc : List Cond} {rm : Room} {As : List Value}
theorem cx_civ {id ci N : Nat} {Cn : String} {T : u_T} {fs : List Value} {Qp : Int32 → cS → Prop} (C : cC p s m args meth c cc nL ret own ws D y t A) (hO : cO D y ad X A s.heap H locs σ)
    (hM : ∀ sz, Met l yn wsc rm (va_Pc (.ref (ad id) :: As) (cPre D y ad t X sz σ)) (va_Qi Qp (cB D y ad X (va_A (cW y ad σ ++ X) sz)) (va_A (cW y ad σ ++ X) sz)) 0 0 (va_A (cW y ad σ ++ X) sz))
    (hid : id < 47) (hE : cE y ad σ id = .inr (ci, fs)) (hc : vwCl[ci]? = some (Cn, T, N)) (cw : CallW R s args own Cn index yn bytes maxL rt wsc rm 0 0 n) (hn : As.length = n) (hls : ls.size = nL) (hst : st = As.reverse ++ .ref (ad id) :: rest) (hW : 2 * (F0 m pc ls st).monitorRoom + (rest.map fun v => v.category).sum ≤ 8) (hdg : decode cc pc = .ok (.invokevirtual index, 3))
    (kk : ∀ (r : Int32) (σ' : cS) (H1 : Heap) (locs1 : List Loc), Qp r σ' → cO D y ad X A s.heap H1 locs1 σ' → W p l e R s m args below meth c H1 locs1 0 0 Q (F0 m (pc + 3) ls (.int r :: rest))) : W p l e R s m args below meth c H locs 0 0 Q (F0 m pc ls st) := by
  obtain ⟨hx, hb, hr, hml, hown, hts, hlk, hK, hA, hTs, hNw⟩ := C
  have hF := cFree hO hA
  obtain ⟨hP, hD, hS⟩ := hO
  refine va_calli (va_runV (As := As) (rest := rest) ⟨hx, hb, hml, hown, hts⟩ (hM H.size) cw ⟨cBlind, va_recv hK hP (ci := ci) (q0 := id) (q := (Cn, T, N)) hc (by rw [cW_get hid, hE]), fun U hU hW => ⟨rfl, by rw [hU], by rw [hU]; exact hP, va_K.moved hW.alike hK, hD.weaken (fun _ _ _ _ => trivial), by rw [hU]; exact hTs.to hW.alike (fun a h1 h2 => hS.2.1 a h1 h2) hF, va_Nw.warmM hW hNw⟩⟩ rfl hn hls hst hW hdg ⟨Nat.zero_le _, Nat.zero_le _⟩) hS (fun q _ h => hF q h) hF (fun r u t H1 locs1 ht hvm hw hB hz1 hk1 hS => ?_)
  obtain ⟨hP1, hK1, hD1⟩ := hB
  rw [ht] at hP1
  exact kk r u H1 locs1 hw ⟨hP1, hD1.weaken (fun _ _ _ h => hF _ h), hS⟩
theorem cx_cis {Qp : Int32 → cS → Prop} (C : cC p s m args meth c cc nL ret own ws D y t A) (hO : cO D y ad X A s.heap H locs σ)
    (hM : ∀ sz, Met l yn wsc rm (va_Pc As (cPre D y ad t X sz σ)) (va_Qi Qp (cB D y ad X (va_A (cW y ad σ ++ X) sz)) (va_A (cW y ad σ ++ X) sz)) 0 0 (va_A (cW y ad σ ++ X) sz))
    (cw : CallB R s args own index yn bytes maxL rt wsc rm 0 0 n ∧ (Cond.static yn).before args s = true) (hn : As.length = n) (hls : ls.size = nL) (hst : st = As.reverse ++ rest) (hW : 2 * (F0 m pc ls st).monitorRoom + (rest.map fun v => v.category).sum ≤ 8) (hdg : decode cc pc = .ok (.invokestatic index, 3))
    (kk : ∀ (r : Int32) (σ' : cS) (H1 : Heap) (locs1 : List Loc), Qp r σ' → cO D y ad X A s.heap H1 locs1 σ' → W p l e R s m args below meth c H1 locs1 0 0 Q (F0 m (pc + 3) ls (.int r :: rest))) : W p l e R s m args below meth c H locs 0 0 Q (F0 m pc ls st) := by
  obtain ⟨hx, hb, hr, hml, hown, hts, hlk, hK, hA, hTs, hNw⟩ := C
  have hF := cFree hO hA
  obtain ⟨hP, hD, hS⟩ := hO
  refine va_calli (va_runS (As := As) (rest := rest) ⟨hx, hb, hml, hown, hts⟩ (hM H.size) cw ⟨cBlind, fun U hU hW => ⟨rfl, by rw [hU], by rw [hU]; exact hP, va_K.moved hW.alike hK, hD.weaken (fun _ _ _ _ => trivial), by rw [hU]; exact hTs.to hW.alike (fun a h1 h2 => hS.2.1 a h1 h2) hF, va_Nw.warmM hW hNw⟩⟩ rfl hn hls hst hW hdg ⟨Nat.zero_le _, Nat.zero_le _⟩) hS (fun q _ h => hF q h) hF (fun r u t H1 locs1 ht hvm hw hB hz1 hk1 hS => ?_)
  obtain ⟨hP1, hK1, hD1⟩ := hB
  rw [ht] at hP1
  exact kk r u H1 locs1 hw ⟨hP1, hD1.weaken (fun _ _ _ h => hF _ h), hS⟩
theorem cx_cin {Qp : Int32 → cS → Prop} (C : cC p s m args meth c cc nL ret own ws D y t A) (hO : cO D y ad X A s.heap H locs σ)
    (hM : ∀ sz, Met l yn wsc rm (va_Pc As (cPre D y ad t X sz σ)) (va_Qi Qp (cB D y ad X (va_A (cW y ad σ ++ X) sz)) (va_A (cW y ad σ ++ X) sz)) 0 0 (va_A (cW y ad σ ++ X) sz))
    {host : String} (cw : va_CN R s args own index yn host bytes maxL rt wsc rm 0 0 n ∧ (Cond.static yn).before args s = true ∧ True) (hn : As.length = n) (hls : ls.size = nL) (hst : st = As.reverse ++ rest) (hW : 2 * (F0 m pc ls st).monitorRoom + (rest.map fun v => v.category).sum ≤ 8) (hdg : decode cc pc = .ok (.invokestatic index, 3))
    (kk : ∀ (r : Int32) (σ' : cS) (H1 : Heap) (locs1 : List Loc), Qp r σ' → cO D y ad X A s.heap H1 locs1 σ' → W p l e R s m args below meth c H1 locs1 0 0 Q (F0 m (pc + 3) ls (.int r :: rest))) : W p l e R s m args below meth c H locs 0 0 Q (F0 m pc ls st) := by
  obtain ⟨hx, hb, hr, hml, hown, hts, hlk, hK, hA, hTs, hNw⟩ := C
  have hF := cFree hO hA
  obtain ⟨hP, hD, hS⟩ := hO
  refine va_calli (va_runSN (As := As) (rest := rest) ⟨hx, hb, hml, hown, hts⟩ (hM H.size) cw ⟨cBlind, fun U hU hW => ⟨rfl, by rw [hU], by rw [hU]; exact hP, va_K.moved hW.alike hK, hD.weaken (fun _ _ _ _ => trivial), by rw [hU]; exact hTs.to hW.alike (fun a h1 h2 => hS.2.1 a h1 h2) hF, va_Nw.warmM hW hNw⟩⟩ rfl hn hls hst hW hdg ⟨Nat.zero_le _, Nat.zero_le _⟩) hS (fun q _ h => hF q h) hF (fun r u t H1 locs1 ht hvm hw hB hz1 hk1 hS => ?_)
  obtain ⟨hP1, hK1, hD1⟩ := hB
  rw [ht] at hP1
  exact kk r u H1 locs1 hw ⟨hP1, hD1.weaken (fun _ _ _ h => hF _ h), hS⟩
theorem cx_clv {id ci N : Nat} {Cn : String} {T : u_T} {fs : List Value} {Qp : Int64 → cS → Prop} (C : cC p s m args meth c cc nL ret own ws D y t A) (hO : cO D y ad X A s.heap H locs σ)
    (hM : ∀ sz, Met l yn wsc rm (va_Pc (.ref (ad id) :: As) (cPre D y ad t X sz σ)) (va_Ql Qp (cB D y ad X (va_A (cW y ad σ ++ X) sz)) (va_A (cW y ad σ ++ X) sz)) 0 0 (va_A (cW y ad σ ++ X) sz))
    (hid : id < 47) (hE : cE y ad σ id = .inr (ci, fs)) (hc : vwCl[ci]? = some (Cn, T, N)) (cw : CallW R s args own Cn index yn bytes maxL rt wsc rm 0 0 n) (hn : As.length = n) (hls : ls.size = nL) (hst : st = As.reverse ++ .ref (ad id) :: rest) (hW : 2 * (F0 m pc ls st).monitorRoom + (rest.map fun v => v.category).sum ≤ 8) (hdg : decode cc pc = .ok (.invokevirtual index, 3))
    (kk : ∀ (r : Int64) (σ' : cS) (H1 : Heap) (locs1 : List Loc), Qp r σ' → cO D y ad X A s.heap H1 locs1 σ' → W p l e R s m args below meth c H1 locs1 0 0 Q (F0 m (pc + 3) ls (.long r :: rest))) : W p l e R s m args below meth c H locs 0 0 Q (F0 m pc ls st) := by
  obtain ⟨hx, hb, hr, hml, hown, hts, hlk, hK, hA, hTs, hNw⟩ := C
  have hF := cFree hO hA
  obtain ⟨hP, hD, hS⟩ := hO
  refine va_calll (va_runV (As := As) (rest := rest) ⟨hx, hb, hml, hown, hts⟩ (hM H.size) cw ⟨cBlind, va_recv hK hP (ci := ci) (q0 := id) (q := (Cn, T, N)) hc (by rw [cW_get hid, hE]), fun U hU hW => ⟨rfl, by rw [hU], by rw [hU]; exact hP, va_K.moved hW.alike hK, hD.weaken (fun _ _ _ _ => trivial), by rw [hU]; exact hTs.to hW.alike (fun a h1 h2 => hS.2.1 a h1 h2) hF, va_Nw.warmM hW hNw⟩⟩ rfl hn hls hst hW hdg ⟨Nat.zero_le _, Nat.zero_le _⟩) hS (fun q _ h => hF q h) hF (fun r u t H1 locs1 ht hvm hw hB hz1 hk1 hS => ?_)
  obtain ⟨hP1, hK1, hD1⟩ := hB
  rw [ht] at hP1
  exact kk r u H1 locs1 hw ⟨hP1, hD1.weaken (fun _ _ _ h => hF _ h), hS⟩
theorem cx_cls {Qp : Int64 → cS → Prop} (C : cC p s m args meth c cc nL ret own ws D y t A) (hO : cO D y ad X A s.heap H locs σ)
    (hM : ∀ sz, Met l yn wsc rm (va_Pc As (cPre D y ad t X sz σ)) (va_Ql Qp (cB D y ad X (va_A (cW y ad σ ++ X) sz)) (va_A (cW y ad σ ++ X) sz)) 0 0 (va_A (cW y ad σ ++ X) sz))
    (cw : CallB R s args own index yn bytes maxL rt wsc rm 0 0 n ∧ (Cond.static yn).before args s = true) (hn : As.length = n) (hls : ls.size = nL) (hst : st = As.reverse ++ rest) (hW : 2 * (F0 m pc ls st).monitorRoom + (rest.map fun v => v.category).sum ≤ 8) (hdg : decode cc pc = .ok (.invokestatic index, 3))
    (kk : ∀ (r : Int64) (σ' : cS) (H1 : Heap) (locs1 : List Loc), Qp r σ' → cO D y ad X A s.heap H1 locs1 σ' → W p l e R s m args below meth c H1 locs1 0 0 Q (F0 m (pc + 3) ls (.long r :: rest))) : W p l e R s m args below meth c H locs 0 0 Q (F0 m pc ls st) := by
  obtain ⟨hx, hb, hr, hml, hown, hts, hlk, hK, hA, hTs, hNw⟩ := C
  have hF := cFree hO hA
  obtain ⟨hP, hD, hS⟩ := hO
  refine va_calll (va_runS (As := As) (rest := rest) ⟨hx, hb, hml, hown, hts⟩ (hM H.size) cw ⟨cBlind, fun U hU hW => ⟨rfl, by rw [hU], by rw [hU]; exact hP, va_K.moved hW.alike hK, hD.weaken (fun _ _ _ _ => trivial), by rw [hU]; exact hTs.to hW.alike (fun a h1 h2 => hS.2.1 a h1 h2) hF, va_Nw.warmM hW hNw⟩⟩ rfl hn hls hst hW hdg ⟨Nat.zero_le _, Nat.zero_le _⟩) hS (fun q _ h => hF q h) hF (fun r u t H1 locs1 ht hvm hw hB hz1 hk1 hS => ?_)
  obtain ⟨hP1, hK1, hD1⟩ := hB
  rw [ht] at hP1
  exact kk r u H1 locs1 hw ⟨hP1, hD1.weaken (fun _ _ _ h => hF _ h), hS⟩
theorem cx_cln {Qp : Int64 → cS → Prop} (C : cC p s m args meth c cc nL ret own ws D y t A) (hO : cO D y ad X A s.heap H locs σ)
    (hM : ∀ sz, Met l yn wsc rm (va_Pc As (cPre D y ad t X sz σ)) (va_Ql Qp (cB D y ad X (va_A (cW y ad σ ++ X) sz)) (va_A (cW y ad σ ++ X) sz)) 0 0 (va_A (cW y ad σ ++ X) sz))
    {host : String} (cw : va_CN R s args own index yn host bytes maxL rt wsc rm 0 0 n ∧ (Cond.static yn).before args s = true ∧ True) (hn : As.length = n) (hls : ls.size = nL) (hst : st = As.reverse ++ rest) (hW : 2 * (F0 m pc ls st).monitorRoom + (rest.map fun v => v.category).sum ≤ 8) (hdg : decode cc pc = .ok (.invokestatic index, 3))
    (kk : ∀ (r : Int64) (σ' : cS) (H1 : Heap) (locs1 : List Loc), Qp r σ' → cO D y ad X A s.heap H1 locs1 σ' → W p l e R s m args below meth c H1 locs1 0 0 Q (F0 m (pc + 3) ls (.long r :: rest))) : W p l e R s m args below meth c H locs 0 0 Q (F0 m pc ls st) := by
  obtain ⟨hx, hb, hr, hml, hown, hts, hlk, hK, hA, hTs, hNw⟩ := C
  have hF := cFree hO hA
  obtain ⟨hP, hD, hS⟩ := hO
  refine va_calll (va_runSN (As := As) (rest := rest) ⟨hx, hb, hml, hown, hts⟩ (hM H.size) cw ⟨cBlind, fun U hU hW => ⟨rfl, by rw [hU], by rw [hU]; exact hP, va_K.moved hW.alike hK, hD.weaken (fun _ _ _ _ => trivial), by rw [hU]; exact hTs.to hW.alike (fun a h1 h2 => hS.2.1 a h1 h2) hF, va_Nw.warmM hW hNw⟩⟩ rfl hn hls hst hW hdg ⟨Nat.zero_le _, Nat.zero_le _⟩) hS (fun q _ h => hF q h) hF (fun r u t H1 locs1 ht hvm hw hB hz1 hk1 hS => ?_)
  obtain ⟨hP1, hK1, hD1⟩ := hB
  rw [ht] at hP1
  exact kk r u H1 locs1 hw ⟨hP1, hD1.weaken (fun _ _ _ h => hF _ h), hS⟩
theorem cx_cvv {id ci N : Nat} {Cn : String} {T : u_T} {fs : List Value} {Qp : cS → Prop} (C : cC p s m args meth c cc nL ret own ws D y t A) (hO : cO D y ad X A s.heap H locs σ)
    (hM : ∀ sz, Met l yn wsc rm (va_Pc (.ref (ad id) :: As) (cPre D y ad t X sz σ)) (va_Qv Qp (cB D y ad X (va_A (cW y ad σ ++ X) sz)) (va_A (cW y ad σ ++ X) sz)) 0 0 (va_A (cW y ad σ ++ X) sz))
    (hid : id < 47) (hE : cE y ad σ id = .inr (ci, fs)) (hc : vwCl[ci]? = some (Cn, T, N)) (cw : CallW R s args own Cn index yn bytes maxL rt wsc rm 0 0 n) (hn : As.length = n) (hls : ls.size = nL) (hst : st = As.reverse ++ .ref (ad id) :: rest) (hW : 2 * (F0 m pc ls st).monitorRoom + (rest.map fun v => v.category).sum ≤ 8) (hdg : decode cc pc = .ok (.invokevirtual index, 3))
    (kk : ∀ (σ' : cS) (H1 : Heap) (locs1 : List Loc), Qp σ' → cO D y ad X A s.heap H1 locs1 σ' → W p l e R s m args below meth c H1 locs1 0 0 Q (F0 m (pc + 3) ls (rest))) : W p l e R s m args below meth c H locs 0 0 Q (F0 m pc ls st) := by
  obtain ⟨hx, hb, hr, hml, hown, hts, hlk, hK, hA, hTs, hNw⟩ := C
  have hF := cFree hO hA
  obtain ⟨hP, hD, hS⟩ := hO
  refine va_callv (va_runV (As := As) (rest := rest) ⟨hx, hb, hml, hown, hts⟩ (hM H.size) cw ⟨cBlind, va_recv hK hP (ci := ci) (q0 := id) (q := (Cn, T, N)) hc (by rw [cW_get hid, hE]), fun U hU hW => ⟨rfl, by rw [hU], by rw [hU]; exact hP, va_K.moved hW.alike hK, hD.weaken (fun _ _ _ _ => trivial), by rw [hU]; exact hTs.to hW.alike (fun a h1 h2 => hS.2.1 a h1 h2) hF, va_Nw.warmM hW hNw⟩⟩ rfl hn hls hst hW hdg ⟨Nat.zero_le _, Nat.zero_le _⟩) hS (fun q _ h => hF q h) hF (fun u t H1 locs1 ht hvm hw hB hz1 hk1 hS => ?_)
  obtain ⟨hP1, hK1, hD1⟩ := hB
  rw [ht] at hP1
  exact kk u H1 locs1 hw ⟨hP1, hD1.weaken (fun _ _ _ h => hF _ h), hS⟩
theorem cx_cvs {Qp : cS → Prop} (C : cC p s m args meth c cc nL ret own ws D y t A) (hO : cO D y ad X A s.heap H locs σ)
    (hM : ∀ sz, Met l yn wsc rm (va_Pc As (cPre D y ad t X sz σ)) (va_Qv Qp (cB D y ad X (va_A (cW y ad σ ++ X) sz)) (va_A (cW y ad σ ++ X) sz)) 0 0 (va_A (cW y ad σ ++ X) sz))
    (cw : CallB R s args own index yn bytes maxL rt wsc rm 0 0 n ∧ (Cond.static yn).before args s = true) (hn : As.length = n) (hls : ls.size = nL) (hst : st = As.reverse ++ rest) (hW : 2 * (F0 m pc ls st).monitorRoom + (rest.map fun v => v.category).sum ≤ 8) (hdg : decode cc pc = .ok (.invokestatic index, 3))
    (kk : ∀ (σ' : cS) (H1 : Heap) (locs1 : List Loc), Qp σ' → cO D y ad X A s.heap H1 locs1 σ' → W p l e R s m args below meth c H1 locs1 0 0 Q (F0 m (pc + 3) ls (rest))) : W p l e R s m args below meth c H locs 0 0 Q (F0 m pc ls st) := by
  obtain ⟨hx, hb, hr, hml, hown, hts, hlk, hK, hA, hTs, hNw⟩ := C
  have hF := cFree hO hA
  obtain ⟨hP, hD, hS⟩ := hO
  refine va_callv (va_runS (As := As) (rest := rest) ⟨hx, hb, hml, hown, hts⟩ (hM H.size) cw ⟨cBlind, fun U hU hW => ⟨rfl, by rw [hU], by rw [hU]; exact hP, va_K.moved hW.alike hK, hD.weaken (fun _ _ _ _ => trivial), by rw [hU]; exact hTs.to hW.alike (fun a h1 h2 => hS.2.1 a h1 h2) hF, va_Nw.warmM hW hNw⟩⟩ rfl hn hls hst hW hdg ⟨Nat.zero_le _, Nat.zero_le _⟩) hS (fun q _ h => hF q h) hF (fun u t H1 locs1 ht hvm hw hB hz1 hk1 hS => ?_)
  obtain ⟨hP1, hK1, hD1⟩ := hB
  rw [ht] at hP1
  exact kk u H1 locs1 hw ⟨hP1, hD1.weaken (fun _ _ _ h => hF _ h), hS⟩
theorem cx_cvn {Qp : cS → Prop} (C : cC p s m args meth c cc nL ret own ws D y t A) (hO : cO D y ad X A s.heap H locs σ)
    (hM : ∀ sz, Met l yn wsc rm (va_Pc As (cPre D y ad t X sz σ)) (va_Qv Qp (cB D y ad X (va_A (cW y ad σ ++ X) sz)) (va_A (cW y ad σ ++ X) sz)) 0 0 (va_A (cW y ad σ ++ X) sz))
    {host : String} (cw : va_CN R s args own index yn host bytes maxL rt wsc rm 0 0 n ∧ (Cond.static yn).before args s = true ∧ True) (hn : As.length = n) (hls : ls.size = nL) (hst : st = As.reverse ++ rest) (hW : 2 * (F0 m pc ls st).monitorRoom + (rest.map fun v => v.category).sum ≤ 8) (hdg : decode cc pc = .ok (.invokestatic index, 3))
    (kk : ∀ (σ' : cS) (H1 : Heap) (locs1 : List Loc), Qp σ' → cO D y ad X A s.heap H1 locs1 σ' → W p l e R s m args below meth c H1 locs1 0 0 Q (F0 m (pc + 3) ls (rest))) : W p l e R s m args below meth c H locs 0 0 Q (F0 m pc ls st) := by
  obtain ⟨hx, hb, hr, hml, hown, hts, hlk, hK, hA, hTs, hNw⟩ := C
  have hF := cFree hO hA
  obtain ⟨hP, hD, hS⟩ := hO
  refine va_callv (va_runSN (As := As) (rest := rest) ⟨hx, hb, hml, hown, hts⟩ (hM H.size) cw ⟨cBlind, fun U hU hW => ⟨rfl, by rw [hU], by rw [hU]; exact hP, va_K.moved hW.alike hK, hD.weaken (fun _ _ _ _ => trivial), by rw [hU]; exact hTs.to hW.alike (fun a h1 h2 => hS.2.1 a h1 h2) hF, va_Nw.warmM hW hNw⟩⟩ rfl hn hls hst hW hdg ⟨Nat.zero_le _, Nat.zero_le _⟩) hS (fun q _ h => hF q h) hF (fun u t H1 locs1 ht hvm hw hB hz1 hk1 hS => ?_)
  obtain ⟨hP1, hK1, hD1⟩ := hB
  rw [ht] at hP1
  exact kk u H1 locs1 hw ⟨hP1, hD1.weaken (fun _ _ _ h => hF _ h), hS⟩
end
theorem cMet {l : Launch} {D : va_G} {y : Nat → ClassId} {ad t : Nat → Nat} {X : va_W} {σ : cS} {own : String} {yn : MethodName} {cc : ByteArray} {maxL : Nat} {ret : Option FieldType} {ws' : List Cond} {rm : Room} {av : List Value} {Qc : (Nat → Prop) → Array Value → State → Outcome → State → Prop} (hpl : plainName yn.cls = true) (hcls : yn.cls = own) (hlen : (lg_sl av).length ≤ maxL)
    (walk : ∀ (p : Program) (e : Env) (s : State) (m : MethodId) (args : Array Value) (below : List Frame) (meth : Method) (c : Code) (A : Nat → Prop) (ls : Array Slot), cC p s m args meth c cc maxL ret own (Cond.code yn cc maxL ret :: ws') D y t A → cO D y ad X A s.heap s.heap [] σ → lv_has ls maxL (lv_args 0 av) → W p l e rm s m args below meth c s.heap [] 0 0 (MQ below (Qc A) args s 0 0 A) (F0 m 0 ls [])) :
    ∀ sz, Met l yn (Cond.code yn cc maxL ret :: ws') rm (va_Pc av (cPre D y ad t X sz σ)) (Qc (va_A (cW y ad σ ++ X) sz)) 0 0 (va_A (cW y ad σ ++ X) sz) := by
  intro sz
  refine Met.ofW (cc := cc) (maxL := maxL) (ret := ret) hpl rfl ?_
  intro p e s m args below meth c s₁ B hml hv
  obtain ⟨rfl, hsz, hP, hK, hD0, hTs, hNw⟩ := hv
  subst hsz
  have hown : s.vm.findClass own = some m.cls := by rw [← hcls]; exact findClass_of_methodNamed B.named
  have hl := lv_entry av (n := maxL) hlen
  rw [lg_entry_eq]
  exact walk p e s m _ below meth c _ _ ⟨B.exec, B.bytes, B.returns, hml, hown, atoms_spec (ws := Cond.code yn cc maxL ret :: ws') B.pre, B.notSynchronized, hK, fun q h => Or.inr h, hTs, hNw⟩ ⟨hP, hD0.self, va_S.rf⟩ hl
