/-! PURE: determinants -/
def dt2 (m : Nat → Nat → Int) : Int := m 0 0 * m 1 1 - m 1 0 * m 0 1
def mnx (m : Nat → Nat → Int) (i : Nat) : Nat → Nat → Int := fun r c => m (if r < i then r else r + 1) (c + 1)
def dt3 (m : Nat → Nat → Int) : Int := m 0 0 * dt2 (mnx m 0) - m 1 0 * dt2 (mnx m 1) + m 2 0 * dt2 (mnx m 2)
def dt4 (m : Nat → Nat → Int) : Int := m 0 0 * dt3 (mnx m 0) - m 1 0 * dt3 (mnx m 1) + m 2 0 * dt3 (mnx m 2) - m 3 0 * dt3 (mnx m 3)
def dt5 (m : Nat → Nat → Int) : Int := m 0 0 * dt4 (mnx m 0) - m 1 0 * dt4 (mnx m 1) + m 2 0 * dt4 (mnx m 2) - m 3 0 * dt4 (mnx m 3) + m 4 0 * dt4 (mnx m 4)
/-- what is left when the first column is cleared -/
def cho (m : Nat → Nat → Int) : Nat → Nat → Int := fun r c => m (r + 1) (c + 1) * m 0 0 - m (r + 1) 0 * m 0 (c + 1)
theorem cho2 (m : Nat → Nat → Int) : dt2 (cho m) = m 0 0 * dt3 m := by
  simp only [dt2, dt3, mnx, cho]
  simp
  grind
theorem cho3 (m : Nat → Nat → Int) : dt3 (cho m) = m 0 0 * m 0 0 * dt4 m := by
  simp only [dt2, dt3, dt4, mnx, cho]
  simp
  grind
theorem cho4 (m : Nat → Nat → Int) : dt4 (cho m) = m 0 0 * m 0 0 * m 0 0 * dt5 m := by
  simp only [dt2, dt3, dt4, dt5, mnx, cho]
  simp
  grind
