/-! PURE: the six minors of the table of THE LAW lie in its kernel -/
def tbl (v : Nat → Int) (r c : Nat) : Int := if c % 2 = 0 then (if 0 < r then v (4 * (c / 2) + (r - 1)) else 0) else (if r < 4 then v (4 * (c / 2) + r) else 0)
def mtx (v : Nat → Int) (c : Nat) : Nat → Nat → Int := fun r j => tbl v r (if j < c then j else j + 1)
def mnr (v : Nat → Int) (c : Nat) : Int := if c % 2 = 0 then dt5 (mtx v c) else -(dt5 (mtx v c))
theorem qmp0 (v : Nat → Int) : mnr v 0 * v 0 + mnr v 2 * v 4 + mnr v 4 * v 8 = -(kqr v 0) := by
  simp only [mnr, mtx, tbl, dt5, dt4, dt3, dt2, mnx, kqr, relv, crx, dot3, fo3, vc]
  simp
  grind
theorem qmp1 (v : Nat → Int) : mnr v 0 * v 1 + mnr v 2 * v 5 + mnr v 4 * v 9 = -(kqr v 1) := by
  simp only [mnr, mtx, tbl, dt5, dt4, dt3, dt2, mnx, kqr, relv, crx, dot3, fo3, vc]
  simp
  grind
theorem qmp2 (v : Nat → Int) : mnr v 0 * v 2 + mnr v 2 * v 6 + mnr v 4 * v 10 = -(kqr v 2) := by
  simp only [mnr, mtx, tbl, dt5, dt4, dt3, dt2, mnx, kqr, relv, crx, dot3, fo3, vc]
  simp
  grind
theorem qmp3 (v : Nat → Int) : mnr v 0 * v 3 + mnr v 2 * v 7 + mnr v 4 * v 11 = 0 := by
  simp only [mnr, mtx, tbl, dt5, dt4, dt3, dt2, mnx, kqr, relv, crx, dot3, fo3, vc]
  simp
  grind
theorem qmq0 (v : Nat → Int) : mnr v 1 * v 0 + mnr v 3 * v 4 + mnr v 5 * v 8 = 0 := by
  simp only [mnr, mtx, tbl, dt5, dt4, dt3, dt2, mnx, kqr, relv, crx, dot3, fo3, vc]
  simp
  grind
theorem qmq1 (v : Nat → Int) : mnr v 1 * v 1 + mnr v 3 * v 5 + mnr v 5 * v 9 = kqr v 0 := by
  simp only [mnr, mtx, tbl, dt5, dt4, dt3, dt2, mnx, kqr, relv, crx, dot3, fo3, vc]
  simp
  grind
theorem qmq2 (v : Nat → Int) : mnr v 1 * v 2 + mnr v 3 * v 6 + mnr v 5 * v 10 = kqr v 1 := by
  simp only [mnr, mtx, tbl, dt5, dt4, dt3, dt2, mnx, kqr, relv, crx, dot3, fo3, vc]
  simp
  grind
theorem qmq3 (v : Nat → Int) : mnr v 1 * v 3 + mnr v 3 * v 7 + mnr v 5 * v 11 = kqr v 2 := by
  simp only [mnr, mtx, tbl, dt5, dt4, dt3, dt2, mnx, kqr, relv, crx, dot3, fo3, vc]
  simp
  grind
