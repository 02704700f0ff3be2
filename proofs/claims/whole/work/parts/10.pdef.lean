/-! PURE: the states of the reference and of the class, and names -/
/-- what is in it: rows of longs by number, rows of ints by number, taped, at -/
abbrev mS : Type := (Nat → Nat → Int64) × (Nat → Nat → Int32) × Int32 × Int32
def mUJ (σ : mS) (a i : Nat) (x : Int64) : mS := (fun b => if b = a then vp_updL (σ.1 a) i x else σ.1 b, σ.2)
def mUI (σ : mS) (a i : Nat) (x : Int32) : mS := (σ.1, fun b => if b = a then upd (σ.2.1 a) i x else σ.2.1 b, σ.2.2)
def mUt (σ : mS) (x : Int32) : mS := (σ.1, σ.2.1, x, σ.2.2.2)
def mUa (σ : mS) (x : Int32) : mS := (σ.1, σ.2.1, σ.2.2.1, x)
def mLen : Nat → Nat
  | 1 => 4 | 2 => 48 | 3 => 12 | 4 => 4 | 5 => 4 | 6 => 3 | 7 => 90 | 8 => 3 | 9 => 27 | 10 => 10 | 11 => 30 | 12 => 25 | 13 => 6 | 14 => 10 | 15 => 4 | 16 => 4 | 17 => 80 | _ => 0
/-- a row of longs -/
def mJ : Nat → Bool
  | 2 => true | 3 => true | 4 => true | 5 => true | 6 => true | 8 => true | 9 => true | 10 => true | 11 => true | 12 => true | 13 => true | 14 => true | _ => false
/-- a row of ints -/
def mI : Nat → Bool
  | 7 => true | 15 => true | 16 => true | 17 => true | _ => false
theorem mUJ_at {σ : mS} {a i : Nat} {x : Int64} : (mUJ σ a i x).1 a = vp_updL (σ.1 a) i x := by simp [mUJ]
theorem mUJ_ne {σ : mS} {a b i : Nat} {x : Int64} (h : b ≠ a) : (mUJ σ a i x).1 b = σ.1 b := by simp [mUJ, h]
theorem mUI_at {σ : mS} {a i : Nat} {x : Int32} : (mUI σ a i x).2.1 a = upd (σ.2.1 a) i x := by simp [mUI]
theorem mUI_ne {σ : mS} {a b i : Nat} {x : Int32} (h : b ≠ a) : (mUI σ a i x).2.1 b = σ.2.1 b := by simp [mUI, h]
/-- a name for a value -/
def nmB {α : Type} (e : α) (P : α → Prop) : Prop := ∀ x, x = e → P x
theorem nmB_iff {α : Type} {e : α} {P : α → Prop} : nmB e P ↔ P e := ⟨fun h => h e rfl, fun h _ q => q ▸ h⟩
/-- how often a loop may go round, at most -/
def fuL : Nat := 1000

/-- rows of longs by number; rows of ints by number; int fields by object and field; which numbers high (0) and low (1) have -/
abbrev cS : Type := (Nat → Nat → Int64) × (Nat → Nat → Int32) × (Nat → Nat → Int32) × (Nat → Nat)
def cUR (σ : cS) (a : Nat) (f : Nat → Int64) : cS := (fun b => if b = a then f else σ.1 b, σ.2)
def cUJ (σ : cS) (a i : Nat) (x : Int64) : cS := cUR σ a (vp_updL (σ.1 a) i x)
def cUI (σ : cS) (i : Nat) (x : Int32) : cS := (σ.1, fun b => if b = 2 then upd (σ.2.1 2) i x else σ.2.1 b, σ.2.2)
def cUF (σ : cS) (o k : Nat) (x : Int32) : cS := (σ.1, σ.2.1, fun b => if b = o then upd (σ.2.2.1 o) k x else σ.2.2.1 b, σ.2.2.2)
def cUP (σ : cS) (k a : Nat) : cS := (σ.1, σ.2.1, σ.2.2.1, fun j => if j = k then a else σ.2.2.2 j)
def cLen : Nat → Nat
  | 2 => 90 | 3 => 4 | 4 => 4 | 6 => 4 | 7 => 4 | 8 => 4 | 10 => 24 | 11 => 3 | 12 => 3 | 13 => 3 | 14 => 4 | 15 => 3 | 16 => 12 | 17 => 4 | 18 => 3 | 20 => 12 | 21 => 10 | 22 => 6 | 23 => 3 | 25 => 12 | 26 => 10 | 27 => 6 | 28 => 3 | 30 => 12 | 31 => 10 | 32 => 6 | 33 => 3 | 35 => 12 | 36 => 10 | 37 => 6 | 38 => 3 | 40 => 20 | 42 => 20 | 44 => 20 | 46 => 20 | _ => 0
/-- a row of longs -/
def cJ : Nat → Bool
  | 6 => true | 7 => true | 8 => true | 10 => true | 11 => true | 12 => true | 13 => true | 14 => true | 15 => true | 16 => true | 17 => true | 18 => true | 20 => true | 21 => true | 22 => true | 23 => true | 25 => true | 26 => true | 27 => true | 28 => true | 30 => true | 31 => true | 32 => true | 33 => true | 35 => true | 36 => true | 37 => true | 38 => true | 40 => true | 42 => true | 44 => true | 46 => true | _ => false
/-- a Line -/
def cL : Nat → Bool
  | 19 => true | 24 => true | 29 => true | 34 => true | _ => false
/-- a Row -/
def cR : Nat → Bool
  | 39 => true | 41 => true | 43 => true | 45 => true | _ => false
theorem cJ_lt {i : Nat} (h : cJ i = true) : i < 47 := by
  rcases Nat.lt_or_ge i 47 with q | q
  · exact q
  · exfalso
    obtain ⟨k, rfl⟩ : ∃ k, i = k + 47 := ⟨i - 47, by omega⟩
    exact Bool.noConfusion (show false = true from h)
theorem cL_lt {i : Nat} (h : cL i = true) : i < 47 ∧ cJ i = false ∧ cR i = false := by
  match i, h with
  | 19, _ => exact ⟨by decide, rfl, rfl⟩
  | 24, _ => exact ⟨by decide, rfl, rfl⟩
  | 29, _ => exact ⟨by decide, rfl, rfl⟩
  | 34, _ => exact ⟨by decide, rfl, rfl⟩
theorem cR_lt {i : Nat} (h : cR i = true) : i < 47 ∧ cJ i = false ∧ cL i = false := by
  match i, h with
  | 39, _ => exact ⟨by decide, rfl, rfl⟩
  | 41, _ => exact ⟨by decide, rfl, rfl⟩
  | 43, _ => exact ⟨by decide, rfl, rfl⟩
  | 45, _ => exact ⟨by decide, rfl, rfl⟩
/-- what belongs to a Line -/
theorem cL_J {o : Nat} (h : cL o = true) : cJ (o + 1) = true ∧ cJ (o + 2) = true ∧ cJ (o + 3) = true ∧ cJ (o + 4) = true := by
  match o, h with
  | 19, _ => exact ⟨rfl, rfl, rfl, rfl⟩
  | 24, _ => exact ⟨rfl, rfl, rfl, rfl⟩
  | 29, _ => exact ⟨rfl, rfl, rfl, rfl⟩
  | 34, _ => exact ⟨rfl, rfl, rfl, rfl⟩
theorem cR_J {o : Nat} (h : cR o = true) : cJ (o + 1) = true := by
  match o, h with
  | 39, _ => rfl
  | 41, _ => rfl
  | 43, _ => rfl
  | 45, _ => rfl
theorem cL_at {i : Int32} (h : vp_in i 4) : cL (19 + 5 * i.toNatClampNeg) = true := by
  obtain ⟨j, hj, rfl⟩ := vp_in_of h (by decide)
  rw [nI_clamp (by omega)]
  match j, hj with
  | 0, _ => rfl
  | 1, _ => rfl
  | 2, _ => rfl
  | 3, _ => rfl
theorem cR_at {i : Int32} (h : vp_in i 4) : cR (39 + 2 * i.toNatClampNeg) = true := by
  obtain ⟨j, hj, rfl⟩ := vp_in_of h (by decide)
  rw [nI_clamp (by omega)]
  match j, hj with
  | 0, _ => rfl
  | 1, _ => rfl
  | 2, _ => rfl
  | 3, _ => rfl
theorem cUR_at {σ : cS} {a : Nat} {f : Nat → Int64} : (cUR σ a f).1 a = f := by simp [cUR]
theorem cUR_ne {σ : cS} {a b : Nat} {f : Nat → Int64} (h : b ≠ a) : (cUR σ a f).1 b = σ.1 b := by simp [cUR, h]
theorem cUF_at {σ : cS} {o k : Nat} {x : Int32} : (cUF σ o k x).2.2.1 o = upd (σ.2.2.1 o) k x := by simp [cUF]
theorem cUF_ne {σ : cS} {o b k : Nat} {x : Int32} (h : b ≠ o) : (cUF σ o k x).2.2.1 b = σ.2.2.1 b := by simp [cUF, h]
def tSTART : Nat → Int32 | 0 => 9 | 1 => 7 | 2 => 4 | _ => 0
def tLEFT : Nat → Int32 | 0 => 1 | 1 => 2 | 2 => 3 | 3 => 2 | 4 => 3 | _ => 3
def tRIGHT : Nat → Int32 | 0 => 0 | 1 => 0 | 2 => 0 | 3 => 1 | 4 => 1 | _ => 2
def tOTHERS : Nat → Int32 | 0 => 1 | 1 => 2 | 2 => 3 | 3 => 0 | 4 => 2 | 5 => 3 | 6 => 0 | 7 => 1 | 8 => 3 | 9 => 0 | 10 => 1 | _ => 2
