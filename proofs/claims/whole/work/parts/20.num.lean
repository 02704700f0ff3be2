/-! PURE: numbers. iL: a whole number as a long -/
def iL (z : Int) : Int64 := Int64.ofInt z
theorem iL_add (a b : Int) : iL a + iL b = iL (a + b) := (Int64.ofInt_add a b).symm
theorem iL_sub (a b : Int) : iL a - iL b = iL (a - b) := (Int64.ofInt_sub a b).symm
theorem iL_mul (a b : Int) : iL a * iL b = iL (a * b) := (Int64.ofInt_mul a b).symm
theorem iL_neg (a : Int) : -iL a = iL (-a) := (Int64.ofInt_neg a).symm
/-- it fits a long, and so does its negative -/
def r63 (z : Int) : Prop := -9223372036854775807 ≤ z ∧ z ≤ 9223372036854775807
theorem iL_toInt {z : Int} (h : r63 z) : (iL z).toInt = z := Int64.toInt_ofInt_of_le (by have := h.1; omega) (by have := h.2; omega)
theorem iL_eq {a b : Int} (ha : r63 a) (hb : r63 b) : iL a = iL b ↔ a = b := by
  constructor
  · intro h
    have := congrArg Int64.toInt h
    rwa [iL_toInt ha, iL_toInt hb] at this
  · intro h; rw [h]
theorem iL_lt {a b : Int} (ha : r63 a) (hb : r63 b) : iL a < iL b ↔ a < b := by rw [Int64.lt_iff_toInt_lt, iL_toInt ha, iL_toInt hb]
theorem iL_le {a b : Int} (ha : r63 a) (hb : r63 b) : iL a ≤ iL b ↔ a ≤ b := by rw [Int64.le_iff_toInt_le, iL_toInt ha, iL_toInt hb]
theorem tdiv_r63 {a b : Int} (ha : r63 a) : r63 (a.tdiv b) := by
  have h1 : (a.tdiv b).natAbs ≤ a.natAbs := by rw [Int.natAbs_tdiv]; exact Nat.div_le_self _ _
  unfold r63 at *
  omega
theorem iL_div {a b : Int} (ha : r63 a) (hb : r63 b) : iL a / iL b = iL (a.tdiv b) := by
  apply Int64.toInt_inj.mp
  have hne : iL a ≠ Int64.minValue := by
    intro h
    have := congrArg Int64.toInt h
    rw [iL_toInt ha] at this
    have e : Int64.minValue.toInt = -9223372036854775808 := by decide
    rw [e] at this
    have := ha.1
    omega
  rw [Int64.toInt_div_of_ne_left _ _ hne, iL_toInt ha, iL_toInt hb, iL_toInt (tdiv_r63 ha)]
theorem iL_rem {a b : Int} (ha : r63 a) (hb : r63 b) : iL a - iL a / iL b * iL b = iL (a.tmod b) := by
  rw [iL_div ha hb, iL_mul, iL_sub, Int.tmod_def, Int.mul_comm]
theorem iL_lit (n : Nat) : (OfNat.ofNat n : Int64) = iL (OfNat.ofNat n : Int) := rfl
theorem iL_0 : (0 : Int64) = iL 0 := rfl
theorem iL_1 : (1 : Int64) = iL 1 := rfl
theorem iL_nat (n : Nat) : lN n = iL (n : Int) := rfl
theorem iL_i (x : Int32) : x.toInt64 = iL x.toInt := (Int64.ofInt_int32ToInt x).symm
theorem iL_of (x : Int64) : x = iL x.toInt := (Int64.ofInt_toInt x).symm
theorem r63_small {z : Int} (n : Nat) (hn : n < 2 ^ 62 := by decide) (h : -(n : Int) ≤ z ∧ z ≤ n) : r63 z := by
  unfold r63
  have : (2:Nat) ^ 62 = 4611686018427387904 := by decide
  omega
/-- for ints: a small whole number as an int -/
def iI (z : Int) : Int32 := Int32.ofInt z
theorem iI_nat (n : Nat) : nI n = iI (n : Int) := rfl
theorem iI_add (a b : Int) : iI a + iI b = iI (a + b) := (Int32.ofInt_add a b).symm
theorem iI_sub (a b : Int) : iI a - iI b = iI (a - b) := (Int32.ofInt_sub a b).symm
theorem iI_mul (a b : Int) : iI a * iI b = iI (a * b) := (Int32.ofInt_mul a b).symm
theorem iI_neg (a : Int) : -iI a = iI (-a) := (Int32.ofInt_neg a).symm
def r31 (z : Int) : Prop := -2147483647 ≤ z ∧ z ≤ 2147483647
theorem iI_toInt {z : Int} (h : r31 z) : (iI z).toInt = z := Int32.toInt_ofInt_of_le (by have := h.1; omega) (by have := h.2; omega)
theorem iI_eq {a b : Int} (ha : r31 a) (hb : r31 b) : iI a = iI b ↔ a = b := by
  constructor
  · intro h
    have := congrArg Int32.toInt h
    rwa [iI_toInt ha, iI_toInt hb] at this
  · intro h; rw [h]
theorem iI_lt {a b : Int} (ha : r31 a) (hb : r31 b) : iI a < iI b ↔ a < b := by rw [Int32.lt_iff_toInt_lt, iI_toInt ha, iI_toInt hb]
theorem iI_le {a b : Int} (ha : r31 a) (hb : r31 b) : iI a ≤ iI b ↔ a ≤ b := by rw [Int32.le_iff_toInt_le, iI_toInt ha, iI_toInt hb]
theorem i32_range (x : Int32) : -2147483648 ≤ x.toInt ∧ x.toInt < 2147483648 := ⟨Int32.le_toInt x, Int32.toInt_lt x⟩
/-- a place in a row, by its number -/
theorem vin_nI {k N : Nat} (h : k < N) (hN : N < 2 ^ 31 := by decide) : vp_in (nI k) N := vp_in_nI h hN
theorem nI_c {k : Nat} (h : k < 2 ^ 31) : (nI k).toNatClampNeg = k := nI_clamp h
theorem nI_lit (n : Nat) : (OfNat.ofNat n : Int32) = nI n := rfl
theorem z_1 : narrow .boolean (.int 1) = .int 1 := by decide
theorem z_0 : narrow .boolean (.int 0) = .int 0 := by decide
/-- the greatest common divisor, as both programs have it -/
theorem pgcd_step {a b : Nat} : Nat.gcd a b = Nat.gcd b (a % b) := by
  rw [Nat.gcd_comm b, ← Nat.gcd_rec b a, Nat.gcd_comm]
theorem lN_rem0 {a b : Nat} (ha : a < 2 ^ 63) (h0 : 0 < b) (hb : b < 2 ^ 63) : lN a - lN a / lN b * lN b = lN (a % b) := pk_lRem ha h0 hb
theorem lN_ne0 {b : Nat} (h0 : 0 < b) (hb : b < 2 ^ 63) : ¬ lN b = 0 := by
  intro h
  have : lN b = lN 0 := h
  rw [pk_lEQ hb (by decide)] at this
  omega
theorem half_rem {a b k : Nat} (hb : b < 2 ^ (k + 1)) (h0 : 0 < b) (hr : 0 < a % b) : b % (a % b) < 2 ^ k := by
  have h1 : a % b < b := Nat.mod_lt _ h0
  have h2 : 2 ^ (k + 1) = 2 * 2 ^ k := by rw [Nat.pow_succ]; omega
  generalize a % b = r at *
  rcases Nat.lt_or_ge r (2 ^ k) with q | q
  · exact Nat.lt_trans (Nat.mod_lt _ hr) q
  · have h3 : b % r = (b - r) % r := by rw [Nat.mod_eq_sub_mod (by omega)]
    have h4 : (b - r) % r ≤ b - r := Nat.mod_le _ _
    omega
