/-! PURE: what a LINE's numbers say (v i: number i of the twelve: X, Y, W, of each t to the powers 0 .. 3), and the relation between the two states -/
def vc (v : Nat → Int) (k : Nat) : Nat → Int := fun w => v (4 * w + k)
def crx (a b : Nat → Int) : Nat → Int
  | 0 => a 1 * b 2 - a 2 * b 1
  | 1 => a 2 * b 0 - a 0 * b 2
  | 2 => a 0 * b 1 - a 1 * b 0
  | _ => 0
def dot3 (a b : Nat → Int) : Int := a 0 * b 0 + a 1 * b 1 + a 2 * b 2
def fo3 (v : Nat → Int) (i j : Nat) : Nat → Int := crx (vc v i) (vc v j)
/-- the numbers r with r0 v0 + r1 v1 + r2 v2 + r3 v3 0 -/
def relv (v : Nat → Int) : Nat → Int
  | 0 => dot3 (fo3 v 3 2) (vc v 1)
  | 1 => -(dot3 (fo3 v 3 2) (vc v 0))
  | 2 => dot3 (fo3 v 3 1) (vc v 0)
  | 3 => -(dot3 (fo3 v 2 1) (vc v 0))
  | _ => 0
def nz3 (a : Nat → Int) : Prop := ¬ (a 0 = 0 ∧ a 1 = 0 ∧ a 2 = 0)
def dg (v : Nat → Int) : Nat :=
  if ¬ (v 3 = 0 ∧ v 7 = 0 ∧ v 11 = 0) then 3 else if ¬ (v 2 = 0 ∧ v 6 = 0 ∧ v 10 = 0) then 2 else if ¬ (v 1 = 0 ∧ v 5 = 0 ∧ v 9 = 0) then 1 else 0
def kd (v : Nat → Int) : Nat :=
  if dg v = 0 then 0 else if relv v 0 = 0 ∧ relv v 1 = 0 ∧ relv v 2 = 0 ∧ relv v 3 = 0 then 1 else if dg v = 2 then 2 else 3
/-- the first (the last) place below N that isn't 0 (else N) -/
def fst0 (z : Nat → Int) (N : Nat) : Nat := fa0 z N N where
  fa0 (z : Nat → Int) (N : Nat) : Nat → Nat
    | 0 => N
    | d + 1 => if z (N - (d + 1)) = 0 then fa0 z N d else N - (d + 1)
def lst0 (z : Nat → Int) : Nat → Nat → Nat
  | N, 0 => N
  | N, k + 1 => if z k = 0 then lst0 z N k else k
/-- without a common divisor, the number at a place above 0 -/
def tidyN (z : Nat → Int) (N t : Nat) : Nat → Int := fun i => if (z t).tdiv (gcdN z N) < 0 then -((z i).tdiv (gcdN z N)) else (z i).tdiv (gcdN z N)
/-- where a product of three letters' powers stands in THE EQUATION -/
def plc (i j k : Nat) : Nat :=
  match (if i = 0 then 1 else 0) + (if j = 0 then 1 else 0) + (if k = 0 then 1 else 0), (if i = 1 then 1 else 0) + (if j = 1 then 1 else 0) + (if k = 1 then 1 else 0) with
  | x, y => (match x + y with | 0 => 9 | 1 => 7 | 2 => 4 | _ => 0) + y
def sum3 (f : Nat → Int) : Int := f 0 + f 1 + f 2
def pr3 (f g h : Nat → Int) (p : Nat) : Int := sum3 (fun i => sum3 (fun j => sum3 (fun k => if plc i j k = p then f i * g j * h k else 0)))
def one3 : Nat → Int
  | 2 => 1
  | _ => 0
def mid3 (v : Nat → Int) : Nat → Int := fun i => fo3 v 3 0 i + fo3 v 2 1 i
/-- the first form that isn't 0 -/
def ff3 (v : Nat → Int) : Nat → Int :=
  if ¬ (fo3 v 1 0 0 = 0 ∧ fo3 v 1 0 1 = 0 ∧ fo3 v 1 0 2 = 0) then fo3 v 1 0
  else if ¬ (fo3 v 2 0 0 = 0 ∧ fo3 v 2 0 1 = 0 ∧ fo3 v 2 0 2 = 0) then fo3 v 2 0
  else if ¬ (fo3 v 3 0 0 = 0 ∧ fo3 v 3 0 1 = 0 ∧ fo3 v 3 0 2 = 0) then fo3 v 3 0
  else if ¬ (fo3 v 2 1 0 = 0 ∧ fo3 v 2 1 1 = 0 ∧ fo3 v 2 1 2 = 0) then fo3 v 2 1
  else if ¬ (fo3 v 3 1 0 = 0 ∧ fo3 v 3 1 1 = 0 ∧ fo3 v 3 1 2 = 0) then fo3 v 3 1
  else if ¬ (fo3 v 3 2 0 = 0 ∧ fo3 v 3 2 1 = 0 ∧ fo3 v 3 2 2 = 0) then fo3 v 3 2
  else one3
/-- THE EQUATION before it is tidied -/
def eqr (v : Nat → Int) (p : Nat) : Int :=
  if kd v = 0 then 0
  else if kd v = 1 then pr3 (ff3 v) one3 one3 p
  else if kd v = 2 then pr3 (fo3 v 1 0) (fo3 v 2 1) one3 p - pr3 (fo3 v 2 0) (fo3 v 2 0) one3 p
  else pr3 (fo3 v 1 0) (mid3 v) (fo3 v 3 2) p + 2 * pr3 (fo3 v 2 0) (fo3 v 3 0) (fo3 v 3 1) p - pr3 (fo3 v 1 0) (fo3 v 3 1) (fo3 v 3 1) p - pr3 (mid3 v) (fo3 v 3 0) (fo3 v 3 0) p - pr3 (fo3 v 3 2) (fo3 v 2 0) (fo3 v 2 0) p
def eqn (v : Nat → Int) : Nat → Int := tidyN (eqr v) 10 (fst0 (eqr v) 10)
/-- the polynomial whose roots are the t of THE KNOT -/
def kqr (v : Nat → Int) : Nat → Int := crx (relv v) (fun i => relv v (i + 1))
def kqn (v : Nat → Int) : Nat → Int := fun i => (kqr v i).tdiv (gcdN (kqr v) 3)
def kq (v : Nat → Int) : Nat → Int
  | 0 => kqn v 0
  | 1 => kqn v 1
  | 2 => kqn v 2
  | _ => 0
/-- THE LAW before it is tidied, by three vectors out of the four -/
def lwa (v : Nat → Int) (i j k : Nat) : Nat → Int := fun c => if c % 2 = 0 then kq v i * fo3 v j k (c / 2) else -((if i = 0 then 0 else kq v (i - 1)) * fo3 v j k (c / 2))
def oth (w : Nat) : Nat × Nat × Nat :=
  match w with
  | 0 => (1, 2, 3)
  | 1 => (0, 2, 3)
  | 2 => (0, 1, 3)
  | _ => (0, 1, 2)
def lwr (v : Nat → Int) : Nat → Int := fun c =>
  match oth (fst0 (relv v) 4) with
  | (i, j, k) => lwa v i j k c + lwa v j k i c + lwa v k i j c
def lw (v : Nat → Int) : Nat → Int := tidyN (lwr v) 6 (fst0 (lwr v) 6)
def knr (v : Nat → Int) : Nat → Int := crx (fun w => lw v (2 * w)) (fun w => lw v (2 * w + 1))
def kn (v : Nat → Int) : Nat → Int := tidyN (knr v) 3 (lst0 (knr v) 3 3)
def ps (v : Nat → Int) : Int := 1 + (kq v 1 * kq v 1 - 4 * kq v 0 * kq v 2).sign
/-- what the class knows of a LINE -/
def known (σ : cS) (o : Nat) (v : Nat → Int) : Prop :=
  (∀ i, i < 12 → σ.1 (o + 1) i = iL (v i)) ∧ σ.2.2.1 o 5 = nI (dg v) ∧ σ.2.2.1 o 6 = nI (kd v) ∧ (∀ i, i < 10 → σ.1 (o + 2) i = iL (eqn v i)) ∧
  (kd v = 3 → (∀ i, i < 6 → σ.1 (o + 3) i = iL (lw v i)) ∧ (∀ i, i < 3 → σ.1 (o + 4) i = iL (kn v i)) ∧ σ.2.2.1 o 7 = iI (ps v))
/-- a polynomial's value, by its numbers -/
def pv : List Int → Int → Int
  | [], _ => 0
  | a :: l, t => a + t * pv l t
def isP (f : Int → Int) : Prop := ∃ l : List Int, ∀ t, f t = pv l t
/-- one of the three polynomials -/
def pe (v : Nat → Int) (w : Nat) (t : Int) : Int := v (4 * w) + t * (v (4 * w + 1) + t * (v (4 * w + 2) + t * v (4 * w + 3)))
/-- k divides f (but for a whole number) -/
def dvP (k f : Int → Int) : Prop := ∃ (m : Int) (q : Int → Int), m ≠ 0 ∧ isP q ∧ ∀ t, m * f t = k t * q t
/-- PLAIN: no polynomial divides all three -/
def copr (v : Nat → Int) : Prop := ∀ k, isP k → dvP k (pe v 0) → dvP k (pe v 1) → dvP k (pe v 2) → ∀ t, k t = k 0
def plain (v : Nat → Int) : Prop := (∀ i, i < 12 → -9 ≤ v i ∧ v i ≤ 9) ∧ (∃ k, k < 4 ∧ 0 < v (8 + k) ∧ ∀ j, k < j → j < 4 → v (8 + j) = 0) ∧ copr v
def lineR (σ : cS) (τ : mS) (j : Nat) : Prop :=
  σ.2.2.1 (19 + 5 * j) 4 = τ.2.1 1 j ∧ (τ.2.1 1 j = 0 ∨ (τ.2.1 1 j = 1 ∧ ∃ v, plain v ∧ (∀ i, i < 12 → τ.1 2 (12 * j + i) = iL (v i)) ∧ known σ (19 + 5 * j) v))
def tapeR (σ : cS) (τ : mS) : Prop := ∃ n : Nat, n ≤ 90 ∧ σ.2.2.1 1 1 = nI n ∧ τ.2.2.1 = nI n ∧ ∀ i, i < n → σ.2.1 2 i = τ.2.1 7 i ∧ ∃ b : Nat, 32 ≤ b ∧ b ≤ 126 ∧ τ.2.1 7 i = nI b
def sheetR (σ : cS) (τ : mS) (j : Nat) : Prop :=
  σ.2.2.1 (39 + 2 * j) 1 = τ.2.1 15 j ∧ σ.2.2.1 (39 + 2 * j) 2 = τ.2.1 16 j ∧ (τ.2.1 15 j = -1 ∨ ∃ k : Nat, k < 3 ∧ τ.2.1 15 j = nI k) ∧ (∃ s : Nat, s ≤ 20 ∧ τ.2.1 16 j = nI s) ∧ ∀ i, i < 20 → σ.1 (40 + 2 * j) i = (τ.2.1 17 (20 * j + i)).toInt64
def plainR (σ : cS) : Prop := (σ.2.2.2 0 = 6 ∧ σ.2.2.2 1 = 7) ∨ (σ.2.2.2 0 = 7 ∧ σ.2.2.2 1 = 6)
def Inv (σ : cS) (τ : mS) : Prop := plainR σ ∧ tapeR σ τ ∧ (∀ j, j < 4 → sheetR σ τ j) ∧ ∀ j, j < 4 → lineR σ τ j
