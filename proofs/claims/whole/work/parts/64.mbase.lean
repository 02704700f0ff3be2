/-! THE REFERENCE'S WORLD: its 18 cells by number: 0 the object, then its rows in the order in which they are made -/
abbrev mFs (ad : Nat → Nat) (σ : mS) : List Value := [.ref (ad 1), .ref (ad 2), .ref (ad 3), .ref (ad 4), .ref (ad 5), .ref (ad 6), .ref (ad 7), .int σ.2.2.1, .int σ.2.2.2, .ref (ad 8), .ref (ad 9), .ref (ad 10), .ref (ad 11), .ref (ad 12), .ref (ad 13), .ref (ad 14), .ref (ad 15), .ref (ad 16), .ref (ad 17)]
def mE (y : Nat → ClassId) (ad : Nat → Nat) (σ : mS) (i : Nat) : va_E :=
  match i with
  | 0 => .inr (6, mFs ad σ)
  | 1 => .inl (y 2, 4, .inl (σ.2.1 1))
  | 7 => .inl (y 0, 90, .inl (σ.2.1 7))
  | 15 => .inl (y 0, 4, .inl (σ.2.1 15))
  | 16 => .inl (y 0, 4, .inl (σ.2.1 16))
  | 17 => .inl (y 0, 80, .inl (σ.2.1 17))
  | i => .inl (y 1, mLen i, .inr (.inl (σ.1 i)))
theorem mE_J {y : Nat → ClassId} {ad : Nat → Nat} {σ : mS} {i : Nat} (h : mJ i = true) : mE y ad σ i = .inl (y 1, mLen i, .inr (.inl (σ.1 i))) := by
  match i, h with
  | 2, _ => rfl
  | 3, _ => rfl
  | 4, _ => rfl
  | 5, _ => rfl
  | 6, _ => rfl
  | 8, _ => rfl
  | 9, _ => rfl
  | 10, _ => rfl
  | 11, _ => rfl
  | 12, _ => rfl
  | 13, _ => rfl
  | 14, _ => rfl
theorem mJ_lt {i : Nat} (h : mJ i = true) : i < 18 := by
  match i, h with
  | 2, _ => decide
  | 3, _ => decide
  | 4, _ => decide
  | 5, _ => decide
  | 6, _ => decide
  | 8, _ => decide
  | 9, _ => decide
  | 10, _ => decide
  | 11, _ => decide
  | 12, _ => decide
  | 13, _ => decide
  | 14, _ => decide
theorem mE_I {y : Nat → ClassId} {ad : Nat → Nat} {σ : mS} {i : Nat} (h : mI i = true) : mE y ad σ i = .inl (y 0, mLen i, .inl (σ.2.1 i)) := by
  match i, h with
  | 7, _ => rfl
  | 15, _ => rfl
  | 16, _ => rfl
  | 17, _ => rfl
theorem mI_lt {i : Nat} (h : mI i = true) : i < 18 := by
  match i, h with
  | 7, _ => decide
  | 15, _ => decide
  | 16, _ => decide
  | 17, _ => decide
def mW (y : Nat → ClassId) (ad : Nat → Nat) (σ : mS) : va_W := (List.range 18).map (fun i => (ad i, mE y ad σ i))
theorem mW_len {y : Nat → ClassId} {ad : Nat → Nat} {σ : mS} : (mW y ad σ).length = 18 := by simp [mW]
theorem mW_get {y : Nat → ClassId} {ad : Nat → Nat} {σ : mS} {X : va_W} {i : Nat} (h : i < 18) : (mW y ad σ ++ X)[i]? = some (ad i, mE y ad σ i) := by
  rw [List.getElem?_append_left (by rw [mW_len]; exact h), mW, List.getElem?_map, List.getElem?_range h]
  rfl
theorem mW_set {y : Nat → ClassId} {ad : Nat → Nat} {σ σ' : mS} {X : va_W} {i : Nat} {e : va_E} (h : i < 18) (h1 : mE y ad σ' i = e) (h2 : ∀ j, j ≠ i → mE y ad σ' j = mE y ad σ j) : (mW y ad σ ++ X).set i (ad i, e) = mW y ad σ' ++ X := by
  rw [List.set_append_left _ _ (by rw [mW_len]; exact h)]
  refine congrArg (fun l => l ++ X) ?_
  refine List.ext_getElem? (fun k => ?_)
  rw [List.getElem?_set]
  by_cases hk : i = k
  · subst hk
    rw [if_pos rfl, if_pos (by rw [mW_len]; exact h), mW, List.getElem?_map, List.getElem?_range h, ← h1]
    rfl
  · rw [if_neg hk, mW, mW, List.getElem?_map, List.getElem?_map]
    rcases Nat.lt_or_ge k 18 with q | q
    · rw [List.getElem?_range q]
      show some (ad k, mE y ad σ k) = some (ad k, mE y ad σ' k)
      rw [h2 k (fun z => hk z.symm)]
    · rw [List.getElem?_eq_none (by simpa using q)]
      rfl
theorem mE_out {y : Nat → ClassId} {ad : Nat → Nat} {σ σ' : mS} {i : Nat} (h0 : σ'.2.2 = σ.2.2) (hJ : ∀ j, σ'.1 j = σ.1 j ∨ (j = i ∧ mJ i = true)) (hI : ∀ j, σ'.2.1 j = σ.2.1 j ∨ (j = i ∧ mJ i = false)) : ∀ j, j ≠ i → mE y ad σ' j = mE y ad σ j := by
  intro j hj
  have e1 : σ'.1 j = σ.1 j := (hJ j).elim id (fun q => absurd q.1 hj)
  have e2 : σ'.2.1 j = σ.2.1 j := (hI j).elim id (fun q => absurd q.1 hj)
  unfold mE mFs
  split <;> simp_all
theorem mW_J {y : Nat → ClassId} {ad : Nat → Nat} {σ : mS} {X : va_W} {a i : Nat} {x : Int64} (h : mJ a = true) : (mW y ad σ ++ X).set a (ad a, .inl (y 1, mLen a, .inr (.inl (vp_updL (σ.1 a) i x)))) = mW y ad (mUJ σ a i x) ++ X :=
  mW_set (mJ_lt h) (by rw [mE_J h, mUJ_at]) (mE_out (i := a) rfl (fun j => by
    by_cases q : j = a
    · exact Or.inr ⟨q, h⟩
    · exact Or.inl (mUJ_ne q)) (fun j => Or.inl rfl))
theorem mE_out2 {y : Nat → ClassId} {ad : Nat → Nat} {σ : mS} {a i : Nat} {x : Int32} : ∀ j, j ≠ a → mE y ad (mUI σ a i x) j = mE y ad σ j := by
  intro j hj
  have e2 : (mUI σ a i x).2.1 j = σ.2.1 j := mUI_ne hj
  unfold mE mFs
  split <;> first | rfl | (rw [e2]; done) | (simp only [e2]; rfl)
theorem mW_I {y : Nat → ClassId} {ad : Nat → Nat} {σ : mS} {X : va_W} {a i : Nat} {x : Int32} (h : mI a = true) : (mW y ad σ ++ X).set a (ad a, .inl (y 0, mLen a, .inl (upd (σ.2.1 a) i x))) = mW y ad (mUI σ a i x) ++ X :=
  mW_set (mI_lt h) (by rw [mE_I h, mUI_at]) mE_out2
theorem mW_Z {y : Nat → ClassId} {ad : Nat → Nat} {σ : mS} {X : va_W} {i : Nat} {x : Int32} : (mW y ad σ ++ X).set 1 (ad 1, .inl (y 2, 4, .inl (upd (σ.2.1 1) i x))) = mW y ad (mUI σ 1 i x) ++ X :=
  mW_set (by decide) (by rfl) mE_out2
theorem mE_out3 {y : Nat → ClassId} {ad : Nat → Nat} {σ σ' : mS} (h1 : σ'.1 = σ.1) (h2 : σ'.2.1 = σ.2.1) : ∀ j, j ≠ 0 → mE y ad σ' j = mE y ad σ j := by
  intro j hj
  unfold mE
  split <;> first | rfl | contradiction | (rw [h2]; done) | (rw [h1]; done)
theorem mW_t {y : Nat → ClassId} {ad : Nat → Nat} {σ : mS} {X : va_W} {x : Int32} : (mW y ad σ ++ X).set 0 (ad 0, .inr (6, (mFs ad σ).set 7 (.int x))) = mW y ad (mUt σ x) ++ X :=
  mW_set (by decide) rfl (mE_out3 rfl rfl)
theorem mW_a {y : Nat → ClassId} {ad : Nat → Nat} {σ : mS} {X : va_W} {x : Int32} : (mW y ad σ ++ X).set 0 (ad 0, .inr (6, (mFs ad σ).set 8 (.int x))) = mW y ad (mUa σ x) ++ X :=
  mW_set (by decide) rfl (mE_out3 rfl rfl)
/-- the array classes -/
abbrev mT (y : Nat → ClassId) : List (ClassId × FieldType) := [(y 0, .int), (y 1, .long), (y 2, .boolean), (y 3, .object "BentShares$Line"), (y 4, .object "BentShares$Row")]
/-- the heap holds the reference's world and X, and nothing outside A has changed since H0 -/
def mO (D : va_G) (y : Nat → ClassId) (ad : Nat → Nat) (X : va_W) (A : Nat → Prop) (H0 H : Heap) (locs : List Loc) (σ : mS) : Prop := va_P D vwCl (mW y ad σ ++ X) H ∧ va_D A (mW y ad σ ++ X) ∧ va_S A H0 H locs
/-- a contract's start -/
def mPre (D : va_G) (y : Nat → ClassId) (ad : Nat → Nat) (X : va_W) (sz : Nat) (σ : mS) (U : State) : Prop := U.heap.size = sz ∧ va_P D vwCl (mW y ad σ ++ X) U.heap ∧ va_K D vwCl (mT y) U ∧ va_D (fun _ => True) (mW y ad σ ++ X)
/-- what holds behind it -/
def mB (D : va_G) (y : Nat → ClassId) (ad : Nat → Nat) (X : va_W) (A : Nat → Prop) (σ : mS) (t : State) : Prop := va_P D vwCl (mW y ad σ ++ X) t.heap ∧ va_K D vwCl (mT y) t ∧ va_D A (mW y ad σ ++ X)
/-- what a method's walk stands on -/
def mC (p : Program) (s : State) (m : MethodId) (args : Array Value) (meth : Method) (c : Code) (cc : ByteArray) (nL : Nat) (ret : Option FieldType) (ws : List Cond) (D : va_G) (y : Nat → ClassId) (A : Nat → Prop) : Prop :=
  p.tables.exec = Jvm.exec ∧ c.code = cc ∧ meth.sig.returnType = ret ∧ c.maxLocals = nL ∧ s.vm.findClass RX8 = some m.cls ∧ (∀ w ∈ ws, w.before args s = true) ∧ meth.locks = false ∧ va_K D vwCl (mT y) s ∧ ∀ q : Nat, s.heap.size ≤ q → A q
theorem mBlind {D : va_G} {y : Nat → ClassId} {ad : Nat → Nat} {X : va_W} {sz : Nat} {σ : mS} {av : List Value} : FrameBlind (va_Pc av (mPre D y ad X sz σ)) := fun a U g mk q => by
  obtain ⟨q0, q1, qP, qK, qD⟩ := q
  exact ⟨q0, q1, qP, va_K.moved (u := U) (U := U.calling g mk a) (Vm.Alike.refl U.vm) qK, qD⟩
section
variable {p : Program} {l : Launch} {e : Env} {R : Room} {s : State} {m : MethodId} {args : Array Value} {below : List Frame} {meth : Method} {c : Code} {H H0 : Heap} {locs : List Loc} {Q : State → Prop} {cc : ByteArray} {nL : Nat} {ret : Option FieldType} {ws : List Cond} {D : va_G} {y : Nat → ClassId} {ad : Nat → Nat} {X : va_W} {A : Nat → Prop} {σ : mS} {pc : Nat} {ls : Array Slot} {rest : List Value}
theorem mx_get (C : mC p s m args meth c cc nL ret ws D y A) (hO : mO D y ad X A H0 H locs σ) (hin : ∀ w ∈ wsX80, w ∈ ws) (k : Nat) {v : Value} (hk : k < 19) {idx : Nat} (hlink : Cond.fieldLink RX8 idx "BentSharesModel" (TX8 k).2.1 (TX8 k).2.2.1 ∈ ws) (hs : (TX8 k).1 = "BentSharesModel") (hv : (mFs ad σ)[k]? = some v) (hdg : decode cc pc = .ok (.getfield idx, 3))
    (kk : W p l e R s m args below meth c H locs 0 0 Q (F0 m (pc + 3) ls (v :: rest))) : W p l e R s m args below meth c H locs 0 0 Q (F0 m pc ls (.ref (ad 0) :: rest)) := by
  obtain ⟨hx, hb, hr, hml, hown, hts, hlk, hK, hA⟩ := C
  obtain ⟨hP, hD, hS⟩ := hO
  exact va_get (D := D) (ci := 6) (v := v) (C := RX8) (T := TX8) (N := 19) hx hb hts hin hown hK hP 0 (fs := mFs ad σ) (mW_get (i := 0) (by decide)) rfl k hk (hts _ hlink) (fun x h => by rw [← hs]; exact h) hv hdg kk
theorem mx_putt (C : mC p s m args meth c cc nL ret ws D y A) (hO : mO D y ad X A H0 H locs σ) (hin : ∀ w ∈ wsX80, w ∈ ws) {x : Int32} {idx : Nat} (hlink : Cond.fieldLink RX8 idx "BentSharesModel" (TX8 7).2.1 (TX8 7).2.2.1 ∈ ws) (hdg : decode cc pc = .ok (.putfield idx, 3))
    (kk : ∀ (H1 : Heap) (locs1 : List Loc) (σ1 : mS), σ1 = mUt σ x → mO D y ad X A H0 H1 locs1 σ1 → W p l e R s m args below meth c H1 locs1 0 0 Q (F0 m (pc + 3) ls rest)) : W p l e R s m args below meth c H locs 0 0 Q (F0 m pc ls (.int x :: .ref (ad 0) :: rest)) := by
  obtain ⟨hx, hb, hr, hml, hown, hts, hlk, hK, hA⟩ := C
  obtain ⟨hP, hD, hS⟩ := hO
  refine va_put (D := D) (ci := 6) (v := .int x) (ty := .int) (C := RX8) (T := TX8) (N := 19) hx hb hts hin tyX8 tyX8_ok nmX8 hown hK hP hD hS 0 (fs := mFs ad σ) (mW_get (i := 0) (by decide)) rfl 7 (by decide) (hts _ hlink) (fun _ h => h) rfl (by decide +kernel) rfl rfl (Nat.le_of_ble_eq_true rfl) hdg (fun H1 locs1 hP hD hS => ?_)
  rw [mW_t] at hP hD
  exact kk H1 locs1 _ rfl ⟨hP, hD, hS⟩
theorem mx_puta (C : mC p s m args meth c cc nL ret ws D y A) (hO : mO D y ad X A H0 H locs σ) (hin : ∀ w ∈ wsX80, w ∈ ws) {x : Int32} {idx : Nat} (hlink : Cond.fieldLink RX8 idx "BentSharesModel" (TX8 8).2.1 (TX8 8).2.2.1 ∈ ws) (hdg : decode cc pc = .ok (.putfield idx, 3))
    (kk : ∀ (H1 : Heap) (locs1 : List Loc) (σ1 : mS), σ1 = mUa σ x → mO D y ad X A H0 H1 locs1 σ1 → W p l e R s m args below meth c H1 locs1 0 0 Q (F0 m (pc + 3) ls rest)) : W p l e R s m args below meth c H locs 0 0 Q (F0 m pc ls (.int x :: .ref (ad 0) :: rest)) := by
  obtain ⟨hx, hb, hr, hml, hown, hts, hlk, hK, hA⟩ := C
  obtain ⟨hP, hD, hS⟩ := hO
  refine va_put (D := D) (ci := 6) (v := .int x) (ty := .int) (C := RX8) (T := TX8) (N := 19) hx hb hts hin tyX8 tyX8_ok nmX8 hown hK hP hD hS 0 (fs := mFs ad σ) (mW_get (i := 0) (by decide)) rfl 8 (by decide) (hts _ hlink) (fun _ h => h) rfl (by decide +kernel) rfl rfl (Nat.le_of_ble_eq_true rfl) hdg (fun H1 locs1 hP hD hS => ?_)
  rw [mW_a] at hP hD
  exact kk H1 locs1 _ rfl ⟨hP, hD, hS⟩
theorem mx_lald (C : mC p s m args meth c cc nL ret ws D y A) (hO : mO D y ad X A H0 H locs σ) {a : Nat} (ha : mJ a = true) {i : Int32} (hin : vp_in i (mLen a)) (hdg : decode cc pc = .ok (.laload, 1))
    (kk : W p l e R s m args below meth c H locs 0 0 Q (F0 m (pc + 1) ls (.long (σ.1 a i.toNatClampNeg) :: rest))) : W p l e R s m args below meth c H locs 0 0 Q (F0 m pc ls (.int i :: .ref (ad a) :: rest)) := by
  obtain ⟨hx, hb, hr, hml, hown, hts, hlk, hK, hA⟩ := C
  obtain ⟨hP, hD, hS⟩ := hO
  exact va_lald hx hb hK hP a 1 (by rw [mW_get (mJ_lt ha), mE_J ha]) rfl hin hdg kk
theorem mx_last (C : mC p s m args meth c cc nL ret ws D y A) (hO : mO D y ad X A H0 H locs σ) {a : Nat} (ha : mJ a = true) {i : Int32} {x : Int64} (hin : vp_in i (mLen a)) (hdg : decode cc pc = .ok (.lastore, 1))
    (kk : ∀ (H1 : Heap) (locs1 : List Loc) (σ1 : mS), σ1 = mUJ σ a i.toNatClampNeg x → mO D y ad X A H0 H1 locs1 σ1 → W p l e R s m args below meth c H1 locs1 0 0 Q (F0 m (pc + 1) ls rest)) : W p l e R s m args below meth c H locs 0 0 Q (F0 m pc ls (.long x :: .int i :: .ref (ad a) :: rest)) := by
  obtain ⟨hx, hb, hr, hml, hown, hts, hlk, hK, hA⟩ := C
  obtain ⟨hP, hD, hS⟩ := hO
  refine va_last hx hb hK hP hD hS a 1 (by rw [mW_get (mJ_lt ha), mE_J ha]) rfl hin hdg (fun H1 locs1 hP hD hS => ?_)
  rw [mW_J ha] at hP hD
  exact kk H1 locs1 _ rfl ⟨hP, hD, hS⟩
theorem mx_iald (C : mC p s m args meth c cc nL ret ws D y A) (hO : mO D y ad X A H0 H locs σ) {a : Nat} (ha : mI a = true) {i : Int32} (hin : vp_in i (mLen a)) (hdg : decode cc pc = .ok (.iaload, 1))
    (kk : W p l e R s m args below meth c H locs 0 0 Q (F0 m (pc + 1) ls (.int (σ.2.1 a i.toNatClampNeg) :: rest))) : W p l e R s m args below meth c H locs 0 0 Q (F0 m pc ls (.int i :: .ref (ad a) :: rest)) := by
  obtain ⟨hx, hb, hr, hml, hown, hts, hlk, hK, hA⟩ := C
  obtain ⟨hP, hD, hS⟩ := hO
  exact va_iald hx hb hK hP a 0 (by rw [mW_get (mI_lt ha), mE_I ha]) rfl hin hdg kk
theorem mx_iast (C : mC p s m args meth c cc nL ret ws D y A) (hO : mO D y ad X A H0 H locs σ) {a : Nat} (ha : mI a = true) {i : Int32} {x : Int32} (hin : vp_in i (mLen a)) (hdg : decode cc pc = .ok (.iastore, 1))
    (kk : ∀ (H1 : Heap) (locs1 : List Loc) (σ1 : mS), σ1 = mUI σ a i.toNatClampNeg x → mO D y ad X A H0 H1 locs1 σ1 → W p l e R s m args below meth c H1 locs1 0 0 Q (F0 m (pc + 1) ls rest)) : W p l e R s m args below meth c H locs 0 0 Q (F0 m pc ls (.int x :: .int i :: .ref (ad a) :: rest)) := by
  obtain ⟨hx, hb, hr, hml, hown, hts, hlk, hK, hA⟩ := C
  obtain ⟨hP, hD, hS⟩ := hO
  refine va_iast hx hb hK hP hD hS a 0 (by rw [mW_get (mI_lt ha), mE_I ha]) rfl hin hdg (fun H1 locs1 hP hD hS => ?_)
  rw [mW_I ha] at hP hD
  exact kk H1 locs1 _ rfl ⟨hP, hD, hS⟩
theorem mx_zald (C : mC p s m args meth c cc nL ret ws D y A) (hO : mO D y ad X A H0 H locs σ) {i : Int32} (hin : vp_in i 4) (hdg : decode cc pc = .ok (.baload, 1))
    (kk : W p l e R s m args below meth c H locs 0 0 Q (F0 m (pc + 1) ls (.int (σ.2.1 1 i.toNatClampNeg) :: rest))) : W p l e R s m args below meth c H locs 0 0 Q (F0 m pc ls (.int i :: .ref (ad 1) :: rest)) := by
  obtain ⟨hx, hb, hr, hml, hown, hts, hlk, hK, hA⟩ := C
  obtain ⟨hP, hD, hS⟩ := hO
  exact va_zald hx hb hK hP 1 2 (f := σ.2.1 1) (mW_get (i := 1) (by decide)) rfl hin hdg kk
theorem mx_zast (C : mC p s m args meth c cc nL ret ws D y A) (hO : mO D y ad X A H0 H locs σ) {i : Int32} {x : Int32} (hin : vp_in i 4) (hdg : decode cc pc = .ok (.bastore, 1))
    (kk : ∀ (H1 : Heap) (locs1 : List Loc) (σ1 : mS), σ1 = mUI σ 1 i.toNatClampNeg (vp_nar .boolean x) → mO D y ad X A H0 H1 locs1 σ1 → W p l e R s m args below meth c H1 locs1 0 0 Q (F0 m (pc + 1) ls rest)) : W p l e R s m args below meth c H locs 0 0 Q (F0 m pc ls (.int x :: .int i :: .ref (ad 1) :: rest)) := by
  obtain ⟨hx, hb, hr, hml, hown, hts, hlk, hK, hA⟩ := C
  obtain ⟨hP, hD, hS⟩ := hO
  refine va_zast hx hb hK hP hD hS 1 2 (f := σ.2.1 1) (mW_get (i := 1) (by decide)) rfl hin hdg (fun H1 locs1 hP hD hS => ?_)
  rw [mW_Z] at hP hD
  exact kk H1 locs1 _ rfl ⟨hP, hD, hS⟩
theorem mx_iret {Qp : Int32 → mS → Prop} {v : Int32} (C : mC p s m args meth c cc nL (some .int) ws D y A) (hO : mO D y ad X A s.heap H locs σ) (hq : Qp v σ) (hdg : decode cc pc = .ok (.ireturn, 1)) : W p l e R s m args below meth c H locs 0 0 (MQ below (va_Qi Qp (mB D y ad X A) A) args s 0 0 A) (F0 m pc ls [.int v]) := by
  obtain ⟨hx, hb, hr, hml, hown, hts, hlk, hK, hA⟩ := C
  obtain ⟨hP, hD, hS⟩ := hO
  exact W.iret (v := v) hx hb hr (fun t ht hW => ⟨⟨v, σ, rfl, hq, by rw [ht]; exact hP, va_K.moved hW.alike hK, hD⟩, hS.F ht⟩) hS.2.2 hdg
theorem mx_zret {Qp : Int32 → mS → Prop} {v : Int32} (C : mC p s m args meth c cc nL (some .boolean) ws D y A) (hO : mO D y ad X A s.heap H locs σ) (hn : narrow .boolean (.int v) = .int v) (hq : Qp v σ) (hdg : decode cc pc = .ok (.ireturn, 1)) : W p l e R s m args below meth c H locs 0 0 (MQ below (va_Qi Qp (mB D y ad X A) A) args s 0 0 A) (F0 m pc ls [.int v]) := by
  obtain ⟨hx, hb, hr, hml, hown, hts, hlk, hK, hA⟩ := C
  obtain ⟨hP, hD, hS⟩ := hO
  exact W.zret (v := v) hx hb hr hn (fun t ht hW => ⟨⟨v, σ, rfl, hq, by rw [ht]; exact hP, va_K.moved hW.alike hK, hD⟩, hS.F ht⟩) hS.2.2 hdg
theorem mx_lret {Qp : Int64 → mS → Prop} {v : Int64} (C : mC p s m args meth c cc nL (some .long) ws D y A) (hO : mO D y ad X A s.heap H locs σ) (hq : Qp v σ) (hdg : decode cc pc = .ok (.lreturn, 1)) : W p l e R s m args below meth c H locs 0 0 (MQ below (va_Ql Qp (mB D y ad X A) A) args s 0 0 A) (F0 m pc ls [.long v]) := by
  obtain ⟨hx, hb, hr, hml, hown, hts, hlk, hK, hA⟩ := C
  obtain ⟨hP, hD, hS⟩ := hO
  exact W.lret (v := v) hx hb hr (fun t ht hW => ⟨⟨v, σ, rfl, hq, by rw [ht]; exact hP, va_K.moved hW.alike hK, hD⟩, hS.F ht⟩) hS.2.2 hdg
theorem mx_vret {Qp : mS → Prop} (C : mC p s m args meth c cc nL none ws D y A) (hO : mO D y ad X A s.heap H locs σ) (hq : Qp σ) (hdg : decode cc pc = .ok (.return_, 1)) : W p l e R s m args below meth c H locs 0 0 (MQ below (va_Qv Qp (mB D y ad X A) A) args s 0 0 A) (F0 m pc ls []) := by
  obtain ⟨hx, hb, hr, hml, hown, hts, hlk, hK, hA⟩ := C
  obtain ⟨hP, hD, hS⟩ := hO
  exact W.vret hx hb hr (fun t ht hW => ⟨⟨σ, rfl, hq, by rw [ht]; exact hP, va_K.moved hW.alike hK, hD⟩, hS.F ht⟩) hS.2.2 hdg
end
/-- what a callee may touch is ours to touch -/
theorem mFree {D : va_G} {y : Nat → ClassId} {ad : Nat → Nat} {X : va_W} {A : Nat → Prop} {H0 H : Heap} {locs : List Loc} {σ : mS} (hO : mO D y ad X A H0 H locs σ) (hA : ∀ q : Nat, H0.size ≤ q → A q) : ∀ q, va_A (mW y ad σ ++ X) H.size q → A q := by
  intro q hq
  rcases hq with ⟨k, e, h⟩ | h
  · exact hO.2.1.2 k _ h
  · exact hA q (Nat.le_trans hO.2.2.1 h)
section
variable {p : Program} {l : Launch} {e : Env} {R : Room} {s : State} {m : MethodId} {args : Array Value} {below : List Frame} {meth : Method} {c : Code} {H : Heap} {locs : List Loc} {Q : State → Prop} {cc : ByteArray} {nL : Nat} {ret : Option FieldType} {ws : List Cond} {D : va_G} {y : Nat → ClassId} {ad : Nat → Nat} {X : va_W} {A : Nat → Prop} {σ : mS} {pc : Nat} {ls : Array Slot} {rest st : List Value}
variable {yn : MethodName} {bytes : ByteArray} {maxL n index : Nat} {rt : Option FieldType} {wsc : List Cond} {rm : Room} {As : List Value}
theorem mx_civ {Qp : Int32 → mS → Prop} (C : mC p s m args meth c cc nL ret ws D y A) (hO : mO D y ad X A s.heap H locs σ)
    (hM : ∀ sz, Met l yn wsc rm (va_Pc (.ref (ad 0) :: As) (mPre D y ad X sz σ)) (va_Qi Qp (mB D y ad X (va_A (mW y ad σ ++ X) sz)) (va_A (mW y ad σ ++ X) sz)) 0 0 (va_A (mW y ad σ ++ X) sz))
    (cw : CallW R s args RX8 RX8 index yn bytes maxL rt wsc rm 0 0 n) (hn : As.length = n) (hls : ls.size = nL) (hst : st = As.reverse ++ .ref (ad 0) :: rest) (hW : 2 * (F0 m pc ls st).monitorRoom + (rest.map fun v => v.category).sum ≤ 8) (hdg : decode cc pc = .ok (.invokevirtual index, 3))
    (kk : ∀ (r : Int32) (σ' : mS) (H1 : Heap) (locs1 : List Loc), Qp r σ' → mO D y ad X A s.heap H1 locs1 σ' → W p l e R s m args below meth c H1 locs1 0 0 Q (F0 m (pc + 3) ls (.int r :: rest))) : W p l e R s m args below meth c H locs 0 0 Q (F0 m pc ls st) := by
  obtain ⟨hx, hb, hr, hml, hown, hts, hlk, hK, hA⟩ := C
  have hF := mFree hO hA
  obtain ⟨hP, hD, hS⟩ := hO
  refine va_calli (va_runV (As := As) (rest := rest) ⟨hx, hb, hml, hown, hts⟩ (hM H.size) cw ⟨mBlind, va_recv hK hP (ci := 6) (q0 := 0) (q := (RX8, TX8, 19)) rfl (mW_get (i := 0) (by decide)), fun U hU hW => ⟨rfl, by rw [hU], by rw [hU]; exact hP, va_K.moved hW.alike hK, hD.weaken (fun _ _ _ _ => trivial)⟩⟩ rfl hn hls hst hW hdg ⟨Nat.zero_le _, Nat.zero_le _⟩) hS (fun q _ h => hF q h) hF (fun r u t H1 locs1 ht hvm hw hB hz1 hk1 hS => ?_)
  obtain ⟨hP1, hK1, hD1⟩ := hB
  rw [ht] at hP1
  exact kk r u H1 locs1 hw ⟨hP1, hD1.weaken (fun _ _ _ h => hF _ h), hS⟩
theorem mx_clv {Qp : Int64 → mS → Prop} (C : mC p s m args meth c cc nL ret ws D y A) (hO : mO D y ad X A s.heap H locs σ)
    (hM : ∀ sz, Met l yn wsc rm (va_Pc (.ref (ad 0) :: As) (mPre D y ad X sz σ)) (va_Ql Qp (mB D y ad X (va_A (mW y ad σ ++ X) sz)) (va_A (mW y ad σ ++ X) sz)) 0 0 (va_A (mW y ad σ ++ X) sz))
    (cw : CallW R s args RX8 RX8 index yn bytes maxL rt wsc rm 0 0 n) (hn : As.length = n) (hls : ls.size = nL) (hst : st = As.reverse ++ .ref (ad 0) :: rest) (hW : 2 * (F0 m pc ls st).monitorRoom + (rest.map fun v => v.category).sum ≤ 8) (hdg : decode cc pc = .ok (.invokevirtual index, 3))
    (kk : ∀ (r : Int64) (σ' : mS) (H1 : Heap) (locs1 : List Loc), Qp r σ' → mO D y ad X A s.heap H1 locs1 σ' → W p l e R s m args below meth c H1 locs1 0 0 Q (F0 m (pc + 3) ls (.long r :: rest))) : W p l e R s m args below meth c H locs 0 0 Q (F0 m pc ls st) := by
  obtain ⟨hx, hb, hr, hml, hown, hts, hlk, hK, hA⟩ := C
  have hF := mFree hO hA
  obtain ⟨hP, hD, hS⟩ := hO
  refine va_calll (va_runV (As := As) (rest := rest) ⟨hx, hb, hml, hown, hts⟩ (hM H.size) cw ⟨mBlind, va_recv hK hP (ci := 6) (q0 := 0) (q := (RX8, TX8, 19)) rfl (mW_get (i := 0) (by decide)), fun U hU hW => ⟨rfl, by rw [hU], by rw [hU]; exact hP, va_K.moved hW.alike hK, hD.weaken (fun _ _ _ _ => trivial)⟩⟩ rfl hn hls hst hW hdg ⟨Nat.zero_le _, Nat.zero_le _⟩) hS (fun q _ h => hF q h) hF (fun r u t H1 locs1 ht hvm hw hB hz1 hk1 hS => ?_)
  obtain ⟨hP1, hK1, hD1⟩ := hB
  rw [ht] at hP1
  exact kk r u H1 locs1 hw ⟨hP1, hD1.weaken (fun _ _ _ h => hF _ h), hS⟩
theorem mx_cvv {Qp : mS → Prop} (C : mC p s m args meth c cc nL ret ws D y A) (hO : mO D y ad X A s.heap H locs σ)
    (hM : ∀ sz, Met l yn wsc rm (va_Pc (.ref (ad 0) :: As) (mPre D y ad X sz σ)) (va_Qv Qp (mB D y ad X (va_A (mW y ad σ ++ X) sz)) (va_A (mW y ad σ ++ X) sz)) 0 0 (va_A (mW y ad σ ++ X) sz))
    (cw : CallW R s args RX8 RX8 index yn bytes maxL rt wsc rm 0 0 n) (hn : As.length = n) (hls : ls.size = nL) (hst : st = As.reverse ++ .ref (ad 0) :: rest) (hW : 2 * (F0 m pc ls st).monitorRoom + (rest.map fun v => v.category).sum ≤ 8) (hdg : decode cc pc = .ok (.invokevirtual index, 3))
    (kk : ∀ (σ' : mS) (H1 : Heap) (locs1 : List Loc), Qp σ' → mO D y ad X A s.heap H1 locs1 σ' → W p l e R s m args below meth c H1 locs1 0 0 Q (F0 m (pc + 3) ls rest)) : W p l e R s m args below meth c H locs 0 0 Q (F0 m pc ls st) := by
  obtain ⟨hx, hb, hr, hml, hown, hts, hlk, hK, hA⟩ := C
  have hF := mFree hO hA
  obtain ⟨hP, hD, hS⟩ := hO
  refine va_callv (va_runV (As := As) (rest := rest) ⟨hx, hb, hml, hown, hts⟩ (hM H.size) cw ⟨mBlind, va_recv hK hP (ci := 6) (q0 := 0) (q := (RX8, TX8, 19)) rfl (mW_get (i := 0) (by decide)), fun U hU hW => ⟨rfl, by rw [hU], by rw [hU]; exact hP, va_K.moved hW.alike hK, hD.weaken (fun _ _ _ _ => trivial)⟩⟩ rfl hn hls hst hW hdg ⟨Nat.zero_le _, Nat.zero_le _⟩) hS (fun q _ h => hF q h) hF (fun u t H1 locs1 ht hvm hw hB hz1 hk1 hS => ?_)
  obtain ⟨hP1, hK1, hD1⟩ := hB
  rw [ht] at hP1
  exact kk u H1 locs1 hw ⟨hP1, hD1.weaken (fun _ _ _ h => hF _ h), hS⟩
theorem mx_cis {Qp : Int32 → mS → Prop} (C : mC p s m args meth c cc nL ret ws D y A) (hO : mO D y ad X A s.heap H locs σ)
    (hM : ∀ sz, Met l yn wsc rm (va_Pc As (mPre D y ad X sz σ)) (va_Qi Qp (mB D y ad X (va_A (mW y ad σ ++ X) sz)) (va_A (mW y ad σ ++ X) sz)) 0 0 (va_A (mW y ad σ ++ X) sz))
    (cw : CallB R s args RX8 index yn bytes maxL rt wsc rm 0 0 n ∧ (Cond.static yn).before args s = true) (hn : As.length = n) (hls : ls.size = nL) (hst : st = As.reverse ++ rest) (hW : 2 * (F0 m pc ls st).monitorRoom + (rest.map fun v => v.category).sum ≤ 8) (hdg : decode cc pc = .ok (.invokestatic index, 3))
    (kk : ∀ (r : Int32) (σ' : mS) (H1 : Heap) (locs1 : List Loc), Qp r σ' → mO D y ad X A s.heap H1 locs1 σ' → W p l e R s m args below meth c H1 locs1 0 0 Q (F0 m (pc + 3) ls (.int r :: rest))) : W p l e R s m args below meth c H locs 0 0 Q (F0 m pc ls st) := by
  obtain ⟨hx, hb, hr, hml, hown, hts, hlk, hK, hA⟩ := C
  have hF := mFree hO hA
  obtain ⟨hP, hD, hS⟩ := hO
  refine va_calli (va_runS (As := As) (rest := rest) ⟨hx, hb, hml, hown, hts⟩ (hM H.size) cw ⟨mBlind, fun U hU hW => ⟨rfl, by rw [hU], by rw [hU]; exact hP, va_K.moved hW.alike hK, hD.weaken (fun _ _ _ _ => trivial)⟩⟩ rfl hn hls hst hW hdg ⟨Nat.zero_le _, Nat.zero_le _⟩) hS (fun q _ h => hF q h) hF (fun r u t H1 locs1 ht hvm hw hB hz1 hk1 hS => ?_)
  obtain ⟨hP1, hK1, hD1⟩ := hB
  rw [ht] at hP1
  exact kk r u H1 locs1 hw ⟨hP1, hD1.weaken (fun _ _ _ h => hF _ h), hS⟩
theorem mx_cls {Qp : Int64 → mS → Prop} (C : mC p s m args meth c cc nL ret ws D y A) (hO : mO D y ad X A s.heap H locs σ)
    (hM : ∀ sz, Met l yn wsc rm (va_Pc As (mPre D y ad X sz σ)) (va_Ql Qp (mB D y ad X (va_A (mW y ad σ ++ X) sz)) (va_A (mW y ad σ ++ X) sz)) 0 0 (va_A (mW y ad σ ++ X) sz))
    (cw : CallB R s args RX8 index yn bytes maxL rt wsc rm 0 0 n ∧ (Cond.static yn).before args s = true) (hn : As.length = n) (hls : ls.size = nL) (hst : st = As.reverse ++ rest) (hW : 2 * (F0 m pc ls st).monitorRoom + (rest.map fun v => v.category).sum ≤ 8) (hdg : decode cc pc = .ok (.invokestatic index, 3))
    (kk : ∀ (r : Int64) (σ' : mS) (H1 : Heap) (locs1 : List Loc), Qp r σ' → mO D y ad X A s.heap H1 locs1 σ' → W p l e R s m args below meth c H1 locs1 0 0 Q (F0 m (pc + 3) ls (.long r :: rest))) : W p l e R s m args below meth c H locs 0 0 Q (F0 m pc ls st) := by
  obtain ⟨hx, hb, hr, hml, hown, hts, hlk, hK, hA⟩ := C
  have hF := mFree hO hA
  obtain ⟨hP, hD, hS⟩ := hO
  refine va_calll (va_runS (As := As) (rest := rest) ⟨hx, hb, hml, hown, hts⟩ (hM H.size) cw ⟨mBlind, fun U hU hW => ⟨rfl, by rw [hU], by rw [hU]; exact hP, va_K.moved hW.alike hK, hD.weaken (fun _ _ _ _ => trivial)⟩⟩ rfl hn hls hst hW hdg ⟨Nat.zero_le _, Nat.zero_le _⟩) hS (fun q _ h => hF q h) hF (fun r u t H1 locs1 ht hvm hw hB hz1 hk1 hS => ?_)
  obtain ⟨hP1, hK1, hD1⟩ := hB
  rw [ht] at hP1
  exact kk r u H1 locs1 hw ⟨hP1, hD1.weaken (fun _ _ _ h => hF _ h), hS⟩
theorem mx_cvs {Qp : mS → Prop} (C : mC p s m args meth c cc nL ret ws D y A) (hO : mO D y ad X A s.heap H locs σ)
    (hM : ∀ sz, Met l yn wsc rm (va_Pc As (mPre D y ad X sz σ)) (va_Qv Qp (mB D y ad X (va_A (mW y ad σ ++ X) sz)) (va_A (mW y ad σ ++ X) sz)) 0 0 (va_A (mW y ad σ ++ X) sz))
    (cw : CallB R s args RX8 index yn bytes maxL rt wsc rm 0 0 n ∧ (Cond.static yn).before args s = true) (hn : As.length = n) (hls : ls.size = nL) (hst : st = As.reverse ++ rest) (hW : 2 * (F0 m pc ls st).monitorRoom + (rest.map fun v => v.category).sum ≤ 8) (hdg : decode cc pc = .ok (.invokestatic index, 3))
    (kk : ∀ (σ' : mS) (H1 : Heap) (locs1 : List Loc), Qp σ' → mO D y ad X A s.heap H1 locs1 σ' → W p l e R s m args below meth c H1 locs1 0 0 Q (F0 m (pc + 3) ls rest)) : W p l e R s m args below meth c H locs 0 0 Q (F0 m pc ls st) := by
  obtain ⟨hx, hb, hr, hml, hown, hts, hlk, hK, hA⟩ := C
  have hF := mFree hO hA
  obtain ⟨hP, hD, hS⟩ := hO
  refine va_callv (va_runS (As := As) (rest := rest) ⟨hx, hb, hml, hown, hts⟩ (hM H.size) cw ⟨mBlind, fun U hU hW => ⟨rfl, by rw [hU], by rw [hU]; exact hP, va_K.moved hW.alike hK, hD.weaken (fun _ _ _ _ => trivial)⟩⟩ rfl hn hls hst hW hdg ⟨Nat.zero_le _, Nat.zero_le _⟩) hS (fun q _ h => hF q h) hF (fun u t H1 locs1 ht hvm hw hB hz1 hk1 hS => ?_)
  obtain ⟨hP1, hK1, hD1⟩ := hB
  rw [ht] at hP1
  exact kk u H1 locs1 hw ⟨hP1, hD1.weaken (fun _ _ _ h => hF _ h), hS⟩
end
/-- a contract out of its walk -/
theorem mMet {l : Launch} {D : va_G} {y : Nat → ClassId} {ad : Nat → Nat} {X : va_W} {σ : mS} {yn : MethodName} {cc : ByteArray} {maxL : Nat} {ret : Option FieldType} {ws' : List Cond} {rm : Room} {av : List Value} {Qc : (Nat → Prop) → Array Value → State → Outcome → State → Prop} (hcls : yn.cls = RX8) (hlen : (lg_sl av).length ≤ maxL)
    (walk : ∀ (p : Program) (e : Env) (s : State) (m : MethodId) (args : Array Value) (below : List Frame) (meth : Method) (c : Code) (A : Nat → Prop) (ls : Array Slot), mC p s m args meth c cc maxL ret (Cond.code yn cc maxL ret :: ws') D y A → mO D y ad X A s.heap s.heap [] σ → lv_has ls maxL (lv_args 0 av) → W p l e rm s m args below meth c s.heap [] 0 0 (MQ below (Qc A) args s 0 0 A) (F0 m 0 ls [])) :
    ∀ sz, Met l yn (Cond.code yn cc maxL ret :: ws') rm (va_Pc av (mPre D y ad X sz σ)) (Qc (va_A (mW y ad σ ++ X) sz)) 0 0 (va_A (mW y ad σ ++ X) sz) := by
  intro sz
  refine Met.ofW (cc := cc) (maxL := maxL) (ret := ret) (by rw [hcls]; decide) rfl ?_
  intro p e s m args below meth c s₁ B hml hv
  obtain ⟨rfl, hsz, hP, hK, hD0⟩ := hv
  subst hsz
  have hown : s.vm.findClass RX8 = some m.cls := by rw [← hcls]; exact findClass_of_methodNamed B.named
  have hl := lv_entry av (n := maxL) hlen
  rw [lg_entry_eq]
  exact walk p e s m _ below meth c _ _ ⟨B.exec, B.bytes, B.returns, hml, hown, atoms_spec (ws := Cond.code yn cc maxL ret :: ws') B.pre, B.notSynchronized, hK, fun q h => Or.inr h⟩ ⟨hP, hD0.self, va_S.rf⟩ hl
