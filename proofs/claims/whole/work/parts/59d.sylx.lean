/-! PURE: the last of the identities -/
theorem cho_1 (B : Nat → Nat → Int) : cho B = fun i j => bmk 1 B (i + 1) (j + 1) := rfl
theorem dt3_smul (a : Int) (m m' : Nat → Nat → Int) (h : ∀ r c, r < 3 → c < 3 → m r c = a * m' r c) : dt3 m = a * a * a * dt3 m' := by
  simp only [dt3, dt2, mnx]
  simp
  simp only [h 0 0 (by decide) (by decide), h 0 1 (by decide) (by decide), h 0 2 (by decide) (by decide), h 1 0 (by decide) (by decide), h 1 1 (by decide) (by decide), h 1 2 (by decide) (by decide), h 2 0 (by decide) (by decide), h 2 1 (by decide) (by decide), h 2 2 (by decide) (by decide)]
  grind
/-- where all of the column k from k on is 0, so is the determinant -/
def mM2 (B : Nat → Nat → Int) : Nat → Nat → Int := fun i j => bmk 2 B (i + 2) (j + 2)
theorem dt3_M2 (B : Nat → Nat → Int) : B 0 0 * B 0 0 * B 0 0 * dt3 (mM2 B) = bmk 1 B 1 1 * bmk 1 B 1 1 * (B 0 0 * B 0 0 * B 0 0 * dt5 B) := by
  have h1 : dt3 (cho (cho B)) = B 0 0 * B 0 0 * B 0 0 * dt3 (mM2 B) := dt3_smul (B 0 0) _ _ (fun r c _ _ => by
    show bmk 1 B (r + 1 + 1) (c + 1 + 1) * bmk 1 B 1 1 - bmk 1 B (r + 1 + 1) 1 * bmk 1 B 1 (c + 1 + 1) = B 0 0 * bmk 2 B (r + 2) (c + 2)
    exact syl1 B (r + 2) (c + 2))
  rw [← h1, cho3, cho4]
  rfl
theorem mul3_cancel {a x y : Int} (ha : a ≠ 0) (h : a * x = a * y) : x = y := Int.eq_of_mul_eq_mul_left ha h
theorem mul3_nz {a b : Int} (ha : a ≠ 0) (hb : b ≠ 0) : a * b ≠ 0 := fun q => (Int.mul_eq_zero.mp q).elim ha hb
theorem dt3_M2' {B : Nat → Nat → Int} (h0 : B 0 0 ≠ 0) : dt3 (mM2 B) = bmk 1 B 1 1 * bmk 1 B 1 1 * dt5 B := by
  refine mul3_cancel (a := B 0 0 * B 0 0 * B 0 0) (mul3_nz (mul3_nz h0 h0) h0) ?_
  rw [dt3_M2]
  generalize B 0 0 = a
  generalize bmk 1 B 1 1 = b
  generalize dt5 B = d
  grind
theorem syl3 {B : Nat → Nat → Int} (h0 : B 0 0 ≠ 0) (h1 : bmk 1 B 1 1 ≠ 0) : bmk 3 B 4 4 * bmk 3 B 3 3 - bmk 3 B 4 3 * bmk 3 B 3 4 = prv 3 B * dt5 B := by
  have e : ∀ i j, cho (mM2 B) i j = bmk 1 B 1 1 * bmk 3 B (i + 3) (j + 3) := fun i j => syl2 B (i + 3) (j + 3)
  have h2 := cho2 (mM2 B)
  rw [dt3_M2' h0] at h2
  have h3 : dt2 (cho (mM2 B)) = bmk 1 B 1 1 * bmk 1 B 1 1 * (bmk 3 B 4 4 * bmk 3 B 3 3 - bmk 3 B 4 3 * bmk 3 B 3 4) := by
    unfold dt2
    rw [e 0 0, e 1 1, e 1 0, e 0 1]
    simp only [Nat.reduceAdd, Nat.zero_add]
    generalize bmk 3 B 4 4 = a
    generalize bmk 3 B 3 3 = b
    generalize bmk 3 B 4 3 = c
    generalize bmk 3 B 3 4 = d
    generalize bmk 1 B 1 1 = f
    grind
  rw [h3] at h2
  refine mul3_cancel (a := bmk 1 B 1 1 * bmk 1 B 1 1) (mul3_nz h1 h1) ?_
  rw [h2]
  show mM2 B 0 0 * _ = _
  show bmk 2 B 2 2 * _ = _ * (bmk 2 B 2 2 * _)
  generalize bmk 2 B 2 2 = a
  generalize bmk 1 B 1 1 = b
  generalize dt5 B = d
  grind
theorem col0 {B : Nat → Nat → Int} (h : ∀ r, r < 5 → bmk 0 B r 0 = 0) : dt5 B = 0 := by
  have a0 : B 0 0 = 0 := h 0 (by decide)
  have a1 : B 1 0 = 0 := h 1 (by decide)
  have a2 : B 2 0 = 0 := h 2 (by decide)
  have a3 : B 3 0 = 0 := h 3 (by decide)
  have a4 : B 4 0 = 0 := h 4 (by decide)
  unfold dt5
  rw [a0, a1, a2, a3, a4]
  simp
theorem col1 {B : Nat → Nat → Int} (h0 : B 0 0 ≠ 0) (h : ∀ r, 1 ≤ r → r < 5 → bmk 1 B r 1 = 0) : dt5 B = 0 := by
  have e := cho4 B
  have z : dt4 (cho B) = 0 := by
    unfold dt4
    rw [show cho B 0 0 = 0 from h 1 (by decide) (by decide), show cho B 1 0 = 0 from h 2 (by decide) (by decide), show cho B 2 0 = 0 from h 3 (by decide) (by decide), show cho B 3 0 = 0 from h 4 (by decide) (by decide)]
    simp
  rw [z] at e
  exact (Int.mul_eq_zero.mp e.symm).resolve_left (mul3_nz (mul3_nz h0 h0) h0)
theorem col2 {B : Nat → Nat → Int} (h0 : B 0 0 ≠ 0) (h1 : bmk 1 B 1 1 ≠ 0) (h : ∀ r, 2 ≤ r → r < 5 → bmk 2 B r 2 = 0) : dt5 B = 0 := by
  have e := dt3_M2' h0
  have z : dt3 (mM2 B) = 0 := by
    unfold dt3
    rw [show mM2 B 0 0 = 0 from h 2 (by decide) (by decide), show mM2 B 1 0 = 0 from h 3 (by decide) (by decide), show mM2 B 2 0 = 0 from h 4 (by decide) (by decide)]
    simp
  rw [z] at e
  exact (Int.mul_eq_zero.mp e.symm).resolve_left (mul3_nz h1 h1)
theorem col3 {B : Nat → Nat → Int} (h0 : B 0 0 ≠ 0) (h1 : bmk 1 B 1 1 ≠ 0) (h2 : bmk 2 B 2 2 ≠ 0) (h : ∀ r, 3 ≤ r → r < 5 → bmk 3 B r 3 = 0) : dt5 B = 0 := by
  have e := syl3 h0 h1
  rw [h 3 (by decide) (by decide), h 4 (by decide) (by decide)] at e
  have : prv 3 B * dt5 B = 0 := by rw [← e]; simp
  exact (Int.mul_eq_zero.mp this).resolve_left h2
/-- a stage of the elimination -/
def pvs (k : Nat) (B : Nat → Nat → Int) : Prop := ∀ i, i < k → bmk i B i i ≠ 0
theorem colk {k : Nat} {B : Nat → Nat → Int} (hk : k < 4) (hp : pvs k B) (h : ∀ r, k ≤ r → r < 5 → bmk k B r k = 0) : dt5 B = 0 := by
  rcases (show k = 0 ∨ k = 1 ∨ k = 2 ∨ k = 3 by omega) with rfl | rfl | rfl | rfl
  · exact col0 (fun r hr => h r (by omega) hr)
  · exact col1 (hp 0 (by decide)) h
  · exact col2 (hp 0 (by decide)) (hp 1 (by decide)) h
  · exact col3 (hp 0 (by decide)) (hp 1 (by decide)) (hp 2 (by decide)) h
/-- the number at the stage k + 1 (at the last one only the last) -/
theorem sylk {k : Nat} {B : Nat → Nat → Int} (hk : k < 4) (hp : pvs k B) {r c : Nat} (hr : k < r) (hr5 : r < 5) (hc : k < c) (hc5 : c < 5) : bmk k B r c * bmk k B k k - bmk k B r k * bmk k B k c = prv k B * bmk (k + 1) B r c := by
  rcases (show k = 0 ∨ k = 1 ∨ k = 2 ∨ k = 3 by omega) with rfl | rfl | rfl | rfl
  · exact syl0 B r c
  · exact syl1 B r c
  · exact syl2 B r c
  · have er : r = 4 := by omega
    have ec : c = 4 := by omega
    subst er; subst ec
    rw [syl3 (B := B) (hp 0 (by decide)) (hp 1 (by decide))]
    congr 1
theorem bmk_ab {B : Nat → Nat → Int} (h : ∀ r c, r < 5 → c < 5 → ab (B r c) 9) {k : Nat} (hk : k < 5) {r c : Nat} (hr : r < 5) (hc : c < 5) : ab (bmk k B r c) 7085880 := by
  rcases (show k = 0 ∨ k = 1 ∨ k = 2 ∨ k = 3 ∨ k = 4 by omega) with rfl | rfl | rfl | rfl | rfl
  · exact ab_le (h r c hr hc) (by decide)
  · exact ab_le (ab_sub (ab_mul (h r c hr hc) (h 0 0 (by decide) (by decide))) (ab_mul (h r 0 hr (by decide)) (h 0 c (by decide) hc))) (by decide)
  · have e : ab (dt3 (fun i j => B (if i < 2 then i else r) (if j < 2 then j else c))) 4374 := dt3_ab (m := fun i j => B (if i < 2 then i else r) (if j < 2 then j else c)) (fun i j hi hj => h _ _ (by split <;> omega) (by split <;> omega))
    exact ab_le e (by decide)
  · have e : ab (dt4 (fun i j => B (if i < 3 then i else r) (if j < 3 then j else c))) 157464 := dt4_ab (m := fun i j => B (if i < 3 then i else r) (if j < 3 then j else c)) (fun i j hi hj => h _ _ (by split <;> omega) (by split <;> omega))
    exact ab_le e (by decide)
  · have e : ab (dt5 (fun i j => B (if i < 4 then i else r) (if j < 4 then j else c))) 7085880 := dt5_ab (m := fun i j => B (if i < 4 then i else r) (if j < 4 then j else c)) (fun i j hi hj => h _ _ (by split <;> omega) (by split <;> omega))
    exact ab_le e (by decide)
/-- rows exchanged -/
def rsw (B : Nat → Nat → Int) (k p : Nat) : Nat → Nat → Int := fun r c => B (if r = k then p else if r = p then k else r) c
theorem rsw_bmk {B : Nat → Nat → Int} {k p : Nat} (hk : k < 4) (hp : k ≤ p) {i r c : Nat} (hi : i ≤ k) (hr : r < k → r < i) : bmk i (rsw B k p) r c = bmk i B (if r = k then p else if r = p then k else r) c ∨ r < i := by
  rcases Nat.lt_or_ge r i with q | q
  · exact Or.inr q
  · refine Or.inl ?_
    have low : ∀ x, x < i → ∀ c, rsw B k p x c = B x c := by
      intro x hx c
      unfold rsw
      rw [if_neg (by omega), if_neg (by omega)]
    rcases (show i = 0 ∨ i = 1 ∨ i = 2 ∨ i = 3 by omega) with rfl | rfl | rfl | rfl
    · rfl
    · show rsw B k p r c * rsw B k p 0 0 - rsw B k p r 0 * rsw B k p 0 c = _
      rw [low 0 (by decide), low 0 (by decide)]
      rfl
    · show dt3 (fun i j => rsw B k p (if i < 2 then i else r) (if j < 2 then j else c)) = dt3 (fun i j => B (if i < 2 then i else _) (if j < 2 then j else c))
      congr 1
      funext x y
      by_cases hx : x < 2
      · rw [if_pos hx, if_pos hx]; exact low x hx _
      · rw [if_neg hx, if_neg hx]; rfl
    · show dt4 (fun i j => rsw B k p (if i < 3 then i else r) (if j < 3 then j else c)) = dt4 (fun i j => B (if i < 3 then i else _) (if j < 3 then j else c))
      congr 1
      funext x y
      by_cases hx : x < 3
      · rw [if_pos hx, if_pos hx]; exact low x hx _
      · rw [if_neg hx, if_neg hx]; rfl
theorem rsw_low {B : Nat → Nat → Int} {k p : Nat} (hk : k < 4) (hp : k ≤ p) {i : Nat} (hi : i < k) : bmk i (rsw B k p) i i = bmk i B i i := by
  have low : ∀ x, x ≤ i → ∀ c, rsw B k p x c = B x c := by
    intro x hx c
    unfold rsw
    rw [if_neg (by omega), if_neg (by omega)]
  rcases (show i = 0 ∨ i = 1 ∨ i = 2 by omega) with rfl | rfl | rfl
  · exact low 0 (by decide) 0
  · show rsw B k p 1 1 * rsw B k p 0 0 - rsw B k p 1 0 * rsw B k p 0 1 = _
    rw [low 1 (by decide), low 1 (by decide), low 0 (by decide), low 0 (by decide)]
    rfl
  · show dt3 (fun i j => rsw B k p (if i < 2 then i else 2) (if j < 2 then j else 2)) = dt3 (fun i j => B (if i < 2 then i else 2) (if j < 2 then j else 2))
    congr 1
    funext x y
    by_cases hx : x < 2
    · rw [if_pos hx]; exact low x (by omega) _
    · rw [if_neg hx]; exact low 2 (by decide) _
theorem rsw_prv {B : Nat → Nat → Int} {k p : Nat} (hk : k < 4) (hp : k ≤ p) : prv k (rsw B k p) = prv k B := by
  cases k with
  | zero => rfl
  | succ k => exact rsw_low hk hp (by omega)
theorem rsw_dt {B : Nat → Nat → Int} {k p : Nat} (hk : k < p) (hp : p < 5) : dt5 (rsw B k p) = -(dt5 B) := by
  refine dt5_sw (m := B) hk hp (fun c _ => ?_) (fun c _ => ?_) (fun r c _ _ h1 h2 => ?_)
  · unfold rsw; rw [if_pos rfl]
  · unfold rsw; rw [if_neg (by omega), if_pos rfl]
  · unfold rsw; rw [if_neg h1, if_neg h2]
