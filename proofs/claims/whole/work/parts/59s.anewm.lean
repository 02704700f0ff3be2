/-! PURE: shares told anew: what they are, how wide, that no polynomial divides them -/
def mulp (p : Nat → Int) (a b : Int) : Nat → Int := fun k => p k * b + (if k = 0 then 0 else p (k - 1) * a)
def mpw (p : Nat → Int) (a b : Int) : Nat → Nat → Int
  | 0 => p
  | m + 1 => mulp (mpw p a b m) a b
/-- (a t + b) to the power k times (c t + d) to the power n - k -/
def pkk (a b c d : Int) (n k : Nat) : Nat → Int := mpw (mpw one4 a b k) c d (n - k)
def anS (v : Nat → Int) (a b c d : Int) (n i : Nat) : Nat → Int
  | 0 => 0
  | k + 1 => anS v a b c d n i k + v (4 * (i / 4) + k) * pkk a b c d n k (i % 4)
def anZ (v : Nat → Int) (a b c d : Int) (n : Nat) : Nat → Int := fun i => anS v a b c d n i (n + 1)
/-- the four numbers, by the degree -/
def anP (x : Nat → Int) (a b c d : Int) : Nat → Nat → Int
  | 0, 0 => x 0
  | 1, 0 => x 0 * d + x 1 * b
  | 1, 1 => x 0 * c + x 1 * a
  | 2, 0 => x 0 * (d * d) + x 1 * (b * d) + x 2 * (b * b)
  | 2, 1 => x 0 * (2 * c * d) + x 1 * (a * d + b * c) + x 2 * (2 * a * b)
  | 2, 2 => x 0 * (c * c) + x 1 * (a * c) + x 2 * (a * a)
  | 3, 0 => x 0 * (d * d * d) + x 1 * (b * d * d) + x 2 * (b * b * d) + x 3 * (b * b * b)
  | 3, 1 => x 0 * (3 * c * d * d) + x 1 * (a * d * d + 2 * b * c * d) + x 2 * (2 * a * b * d + b * b * c) + x 3 * (3 * a * b * b)
  | 3, 2 => x 0 * (3 * c * c * d) + x 1 * (2 * a * c * d + b * c * c) + x 2 * (a * a * d + 2 * a * b * c) + x 3 * (3 * a * a * b)
  | 3, 3 => x 0 * (c * c * c) + x 1 * (a * c * c) + x 2 * (a * a * c) + x 3 * (a * a * a)
  | _, _ => 0
theorem anZ_P (v : Nat → Int) (a b c d : Int) {n w m : Nat} (hn : n ≤ 3) (hw : w < 3) (hm : m < 4) : anZ v a b c d n (4 * w + m) = anP (fun k => v (4 * w + k)) a b c d n m := by
  unfold anZ
  have e : ∀ k, anS v a b c d n (4 * w + m) (k + 1) = anS v a b c d n (4 * w + m) k + v (4 * w + k) * pkk a b c d n k m := by
    intro k
    show anS v a b c d n (4 * w + m) k + v (4 * ((4 * w + m) / 4) + k) * pkk a b c d n k ((4 * w + m) % 4) = _
    rw [show (4 * w + m) / 4 = w by omega, show (4 * w + m) % 4 = m by omega]
  have e0 : anS v a b c d n (4 * w + m) 0 = 0 := rfl
  rcases (show n = 0 ∨ n = 1 ∨ n = 2 ∨ n = 3 by omega) with rfl | rfl | rfl | rfl
  · rw [e, e0]
    rcases (show m = 0 ∨ m = 1 ∨ m = 2 ∨ m = 3 by omega) with rfl | rfl | rfl | rfl <;> simp [anP, pkk, mpw, one4]
  · rw [e, e, e0]
    rcases (show m = 0 ∨ m = 1 ∨ m = 2 ∨ m = 3 by omega) with rfl | rfl | rfl | rfl <;> simp [anP, pkk, mpw, mulp, one4]
  · rw [e, e, e, e0]
    rcases (show m = 0 ∨ m = 1 ∨ m = 2 ∨ m = 3 by omega) with rfl | rfl | rfl | rfl <;> simp [anP, pkk, mpw, mulp, one4] <;> grind
  · rw [e, e, e, e, e0]
    rcases (show m = 0 ∨ m = 1 ∨ m = 2 ∨ m = 3 by omega) with rfl | rfl | rfl | rfl <;> simp [anP, pkk, mpw, mulp, one4] <;> grind
theorem anP_ab {x : Nat → Int} (hx : ∀ k, k < 4 → ab (x k) 9) {a b c d : Int} (ha : ab a 5) (hb : ab b 5) (hc : ab c 5) (hd : ab d 5) {n m : Nat} (hn : n ≤ 3) (hm : m < 4) : ab (anP x a b c d n m) 13500 := by
  have x0 := hx 0 (by decide); have x1 := hx 1 (by decide); have x2 := hx 2 (by decide); have x3 := hx 3 (by decide)
  have k2 := ab_k 2; have k3 := ab_k 3
  rcases (show n = 0 ∨ n = 1 ∨ n = 2 ∨ n = 3 by omega) with rfl | rfl | rfl | rfl <;> rcases (show m = 0 ∨ m = 1 ∨ m = 2 ∨ m = 3 by omega) with rfl | rfl | rfl | rfl
  · exact ab_le x0 (by decide)
  · exact ab_0
  · exact ab_0
  · exact ab_0
  · exact ab_le (ab_add (ab_mul x0 hd) (ab_mul x1 hb)) (by decide)
  · exact ab_le (ab_add (ab_mul x0 hc) (ab_mul x1 ha)) (by decide)
  · exact ab_0
  · exact ab_0
  · exact ab_le (ab_add (ab_add (ab_mul x0 (ab_mul hd hd)) (ab_mul x1 (ab_mul hb hd))) (ab_mul x2 (ab_mul hb hb))) (by decide)
  · exact ab_le (ab_add (ab_add (ab_mul x0 (ab_mul (ab_mul k2 hc) hd)) (ab_mul x1 (ab_add (ab_mul ha hd) (ab_mul hb hc)))) (ab_mul x2 (ab_mul (ab_mul k2 ha) hb))) (by decide)
  · exact ab_le (ab_add (ab_add (ab_mul x0 (ab_mul hc hc)) (ab_mul x1 (ab_mul ha hc))) (ab_mul x2 (ab_mul ha ha))) (by decide)
  · exact ab_0
  · exact ab_le (ab_add (ab_add (ab_add (ab_mul x0 (ab_mul (ab_mul hd hd) hd)) (ab_mul x1 (ab_mul (ab_mul hb hd) hd))) (ab_mul x2 (ab_mul (ab_mul hb hb) hd))) (ab_mul x3 (ab_mul (ab_mul hb hb) hb))) (by decide)
  · exact ab_le (ab_add (ab_add (ab_add (ab_mul x0 (ab_mul (ab_mul (ab_mul k3 hc) hd) hd)) (ab_mul x1 (ab_add (ab_mul (ab_mul ha hd) hd) (ab_mul (ab_mul (ab_mul k2 hb) hc) hd)))) (ab_mul x2 (ab_add (ab_mul (ab_mul (ab_mul k2 ha) hb) hd) (ab_mul (ab_mul hb hb) hc)))) (ab_mul x3 (ab_mul (ab_mul (ab_mul k3 ha) hb) hb))) (by decide)
  · exact ab_le (ab_add (ab_add (ab_add (ab_mul x0 (ab_mul (ab_mul (ab_mul k3 hc) hc) hd)) (ab_mul x1 (ab_add (ab_mul (ab_mul (ab_mul k2 ha) hc) hd) (ab_mul (ab_mul hb hc) hc)))) (ab_mul x2 (ab_add (ab_mul (ab_mul ha ha) hd) (ab_mul (ab_mul (ab_mul k2 ha) hb) hc)))) (ab_mul x3 (ab_mul (ab_mul (ab_mul k3 ha) ha) hb))) (by decide)
  · exact ab_le (ab_add (ab_add (ab_add (ab_mul x0 (ab_mul (ab_mul hc hc) hc)) (ab_mul x1 (ab_mul (ab_mul ha hc) hc))) (ab_mul x2 (ab_mul (ab_mul ha ha) hc))) (ab_mul x3 (ab_mul (ab_mul ha ha) ha))) (by decide)
/-- the remainder of two of the degree 3 is a d - b c times this -/
def anE (x y : Nat → Int) (a b c d : Int) : Nat → Int
  | 0 => a * a * b * b * (x 2 * y 3 - x 3 * y 2) + a * b * c * d * (x 1 * y 2 - x 2 * y 1) + a * b * (a * d + b * c) * (x 1 * y 3 - x 3 * y 1) + c * c * d * d * (x 0 * y 1 - x 1 * y 0) + c * d * (a * d + b * c) * (x 0 * y 2 - x 2 * y 0) + (a * a * d * d + a * b * c * d + b * b * c * c) * (x 0 * y 3 - x 3 * y 0)
  | 1 => 2 * a * a * a * b * (x 2 * y 3 - x 3 * y 2) + a * a * (a * d + 3 * b * c) * (x 1 * y 3 - x 3 * y 1) + 3 * a * c * (a * d + b * c) * (x 0 * y 3 - x 3 * y 0) + a * c * (a * d + b * c) * (x 1 * y 2 - x 2 * y 1) + 2 * c * c * c * d * (x 0 * y 1 - x 1 * y 0) + c * c * (3 * a * d + b * c) * (x 0 * y 2 - x 2 * y 0)
  | 2 => a * a * a * a * (x 2 * y 3 - x 3 * y 2) + 2 * a * a * a * c * (x 1 * y 3 - x 3 * y 1) + 3 * a * a * c * c * (x 0 * y 3 - x 3 * y 0) + a * a * c * c * (x 1 * y 2 - x 2 * y 1) + 2 * a * c * c * c * (x 0 * y 2 - x 2 * y 0) + c * c * c * c * (x 0 * y 1 - x 1 * y 0)
  | _ => 0
theorem anE_st (x y : Nat → Int) (a b c d : Int) {k : Nat} (hk : k < 4) : stp (anP x a b c d 3) (anP y a b c d 3) 3 3 k = (a * d - b * c) * anE x y a b c d k := by
  unfold stp
  rw [if_pos (by omega), show k - (3 - 3) = k by omega]
  rcases (show k = 0 ∨ k = 1 ∨ k = 2 ∨ k = 3 by omega) with rfl | rfl | rfl | rfl
  · simp only [anP, anE]; grind
  · simp only [anP, anE]; grind
  · simp only [anP, anE]; grind
  · simp only [anP, anE]; grind
theorem anE_ab {x y : Nat → Int} (hx : ∀ k, k < 4 → ab (x k) 9) (hy : ∀ k, k < 4 → ab (y k) 9) {a b c d : Int} (ha : ab a 5) (hb : ab b 5) (hc : ab c 5) (hd : ab d 5) (k : Nat) : ab (anE x y a b c d k) 12000000 := by
  have m : ∀ i j, i < 4 → j < 4 → ab (x i * y j - x j * y i) 162 := fun i j hi hj => ab_sub (ab_mul (hx i hi) (hy j hj)) (ab_mul (hx j hj) (hy i hi))
  have m23 := m 2 3 (by decide) (by decide); have m12 := m 1 2 (by decide) (by decide); have m13 := m 1 3 (by decide) (by decide); have m01 := m 0 1 (by decide) (by decide); have m02 := m 0 2 (by decide) (by decide); have m03 := m 0 3 (by decide) (by decide)
  have k2 := ab_k 2; have k3 := ab_k 3
  have p2 : ∀ {x y : Int}, ab x 5 → ab y 5 → ab (x * y) 25 := fun h g => ab_mul h g
  have p4 : ∀ {x y z w : Int}, ab x 5 → ab y 5 → ab z 5 → ab w 5 → ab (x * y * z * w) 625 := fun h g i j => ab_mul (ab_mul (ab_mul h g) i) j
  match k with
  | 0 => exact ab_le (ab_add (ab_add (ab_add (ab_add (ab_add (ab_mul (p4 ha ha hb hb) m23) (ab_mul (p4 ha hb hc hd) m12)) (ab_mul (ab_mul (p2 ha hb) (ab_add (p2 ha hd) (p2 hb hc))) m13)) (ab_mul (p4 hc hc hd hd) m01)) (ab_mul (ab_mul (p2 hc hd) (ab_add (p2 ha hd) (p2 hb hc))) m02)) (ab_mul (ab_add (ab_add (p4 ha ha hd hd) (p4 ha hb hc hd)) (p4 hb hb hc hc)) m03)) (by decide)
  | 1 => exact ab_le (ab_add (ab_add (ab_add (ab_add (ab_add (ab_mul (ab_mul (ab_mul (ab_mul (ab_mul k2 ha) ha) ha) hb) m23) (ab_mul (ab_mul (p2 ha ha) (ab_add (p2 ha hd) (ab_mul (ab_mul k3 hb) hc))) m13)) (ab_mul (ab_mul (ab_mul (ab_mul k3 ha) hc) (ab_add (p2 ha hd) (p2 hb hc))) m03)) (ab_mul (ab_mul (p2 ha hc) (ab_add (p2 ha hd) (p2 hb hc))) m12)) (ab_mul (ab_mul (ab_mul (ab_mul (ab_mul k2 hc) hc) hc) hd) m01)) (ab_mul (ab_mul (p2 hc hc) (ab_add (ab_mul (ab_mul k3 ha) hd) (p2 hb hc))) m02)) (by decide)
  | 2 => exact ab_le (ab_add (ab_add (ab_add (ab_add (ab_add (ab_mul (p4 ha ha ha ha) m23) (ab_mul (ab_mul (ab_mul (ab_mul (ab_mul k2 ha) ha) ha) hc) m13)) (ab_mul (ab_mul (ab_mul (ab_mul (ab_mul k3 ha) ha) hc) hc) m03)) (ab_mul (p4 ha ha hc hc) m12)) (ab_mul (ab_mul (ab_mul (ab_mul (ab_mul k2 ha) hc) hc) hc) m02)) (ab_mul (p4 hc hc hc hc) m01)) (by decide)
  | _ + 3 => exact ab_0
theorem cl_scale {p q : Nat → Int} {D : Int} {A : Nat} (hD : D ≠ 0) (h : ∀ i, i < 4 → p i = D * q i) (hq : ∀ i, i < 4 → ab (q i) A) : ∀ i, i < 4 → ab (cl4 p i) A := by
  intro i hi
  have e := gcdN_congr h
  rw [gcdN_mul] at e
  unfold cl4
  rw [h i hi, e]
  rcases Nat.eq_zero_or_pos (gcdN q 4) with z | z
  · rw [gcdN_zero z i hi]; simp; exact ab_0
  · rw [tdiv_mul_sgn hD z (gcdN_dvd hi)]
    have h1 : ((q i).tdiv (gcdN q 4)).natAbs ≤ (q i).natAbs := by rw [Int.natAbs_tdiv]; exact Nat.div_le_self _ _
    have h2 := hq i hi
    unfold ab at *
    rw [Int.natAbs_mul]
    have : D.sign.natAbs = 1 := by
      rcases Int.lt_trichotomy D 0 with q | q | q
      · rw [Int.sign_eq_neg_one_of_neg q]; rfl
      · exact absurd q hD
      · rw [Int.sign_eq_one_of_pos q]; rfl
    rw [this]
    omega
/-- beyond the degree there is nothing -/
theorem anP_hi {x : Nat → Int} {a b c d : Int} {n m : Nat} (hn : n ≤ 3) (h : n < m) (hm : m < 4) : anP x a b c d n m = 0 := by
  rcases (show (n = 0 ∧ m = 1) ∨ (n = 0 ∧ m = 2) ∨ (n = 0 ∧ m = 3) ∨ (n = 1 ∧ m = 2) ∨ (n = 1 ∧ m = 3) ∨ (n = 2 ∧ m = 3) by omega) with ⟨rfl, rfl⟩ | ⟨rfl, rfl⟩ | ⟨rfl, rfl⟩ | ⟨rfl, rfl⟩ | ⟨rfl, rfl⟩ | ⟨rfl, rfl⟩ <;> rfl
/-- a polynomial of two letters, of the degree n -/
def hz4 (p : Nat → Int) (n : Nat) (u w : Int) : Int :=
  match n with
  | 0 => p 0
  | 1 => p 0 * w + p 1 * u
  | 2 => p 0 * (w * w) + p 1 * (u * w) + p 2 * (u * u)
  | _ => p 0 * (w * w * w) + p 1 * (u * w * w) + p 2 * (u * u * w) + p 3 * (u * u * u)
theorem isP_hz (p : Nat → Int) (n : Nat) {u w : Int → Int} (hu : isP u) (hw : isP w) : isP (fun s => hz4 p n (u s) (w s)) := by
  have cm := fun (x : Int) {g : Int → Int} (hg : isP g) => isP_congr (isP_cm x hg) (fun t => rfl)
  match n with
  | 0 => exact isP_c _
  | 1 => exact isP_add (isP_cm _ hw) (isP_cm _ hu)
  | 2 => exact isP_add (isP_add (isP_cm _ (isP_mul hw hw)) (isP_cm _ (isP_mul hu hw))) (isP_cm _ (isP_mul hu hu))
  | _ + 3 => exact isP_add (isP_add (isP_add (isP_cm _ (isP_mul (isP_mul hw hw) hw)) (isP_cm _ (isP_mul (isP_mul hu hw) hw))) (isP_cm _ (isP_mul (isP_mul hu hu) hw))) (isP_cm _ (isP_mul (isP_mul hu hu) hu))
/-- back by the letter that undoes it -/
theorem an_back (x : Nat → Int) (a b c d s : Int) {n : Nat} (hn : n ≤ 3) (hx : ∀ k, n < k → k < 4 → x k = 0) : pwt (a * d - b * c) n * e4 x s = hz4 (anP x a b c d n) n (d * s - b) (a - c * s) := by
  rcases (show n = 0 ∨ n = 1 ∨ n = 2 ∨ n = 3 by omega) with rfl | rfl | rfl | rfl
  · have x1 := hx 1 (by decide) (by decide); have x2 := hx 2 (by decide) (by decide); have x3 := hx 3 (by decide) (by decide)
    simp [e4, hz4, anP, pwt, x1, x2, x3]
  · have x2 := hx 2 (by decide) (by decide); have x3 := hx 3 (by decide) (by decide)
    simp only [e4, hz4, anP, pwt, x2, x3]; grind
  · have x3 := hx 3 (by decide) (by decide)
    simp only [e4, hz4, anP, pwt, x3]; grind
  · simp only [e4, hz4, anP, pwt]; grind
/-- a product of two letters -/
theorem hz_mul {p g q : Nat → Int} {n e : Nat} (hn : n ≤ 3) (he : 1 ≤ e) (hen : e ≤ n) (hp : ∀ j, j < 4 → p j = cv4 g q j) (hg : ∀ k, e < k → k < 4 → g k = 0) (hq : ∀ k, n - e < k → k < 4 → q k = 0) (u w : Int) : hz4 p n u w = hz4 g e u w * hz4 q (n - e) u w := by
  have p0 := hp 0 (by decide); have p1 := hp 1 (by decide); have p2 := hp 2 (by decide); have p3 := hp 3 (by decide)
  simp only [cv4] at p0 p1 p2 p3
  rcases (show (n = 1 ∧ e = 1) ∨ (n = 2 ∧ e = 1) ∨ (n = 2 ∧ e = 2) ∨ (n = 3 ∧ e = 1) ∨ (n = 3 ∧ e = 2) ∨ (n = 3 ∧ e = 3) by omega) with ⟨rfl, rfl⟩ | ⟨rfl, rfl⟩ | ⟨rfl, rfl⟩ | ⟨rfl, rfl⟩ | ⟨rfl, rfl⟩ | ⟨rfl, rfl⟩
  · have q1 := hq 1 (by decide) (by decide)
    simp only [hz4, p0, p1, q1]; grind
  · have g2 := hg 2 (by decide) (by decide); have q2 := hq 2 (by decide) (by decide)
    simp only [hz4, p0, p1, p2, g2, q2]; grind
  · have q1 := hq 1 (by decide) (by decide); have q2 := hq 2 (by decide) (by decide)
    simp only [hz4, p0, p1, p2, q1, q2]; grind
  · have g2 := hg 2 (by decide) (by decide); have g3 := hg 3 (by decide) (by decide); have q3 := hq 3 (by decide) (by decide)
    simp only [hz4, p0, p1, p2, p3, g2, g3, q3]; grind
  · have g3 := hg 3 (by decide) (by decide); have q2 := hq 2 (by decide) (by decide); have q3 := hq 3 (by decide) (by decide)
    simp only [hz4, p0, p1, p2, p3, g3, q2, q3]; grind
  · have q1 := hq 1 (by decide) (by decide); have q2 := hq 2 (by decide) (by decide); have q3 := hq 3 (by decide) (by decide)
    simp only [hz4, p0, p1, p2, p3, q1, q2, q3]; grind
/-- what divides one of the degree 3 at most has the degree 3 at most -/
theorem low_of {k : Int → Int} {p : Nat → Int} (hk : isP k) (hd : dvP k (e4 p)) (hp : ∃ i, i < 4 ∧ p i ≠ 0) : ∃ kk : Nat → Int, ∀ t, k t = e4 kk t := by
  obtain ⟨l, hl⟩ := hk
  obtain ⟨m, q, hm, ⟨lq, hlq⟩, e⟩ := hd
  obtain ⟨i, hi, hpi⟩ := hp
  obtain ⟨T, hT⟩ := e4_big hi hpi
  have hq : ∃ a, a ∈ lq ∧ a ≠ 0 := by
    refine Classical.byContradiction (fun w => ?_)
    have z : ∀ a, a ∈ lq → a = 0 := fun a ha => Classical.byContradiction (fun y => w ⟨a, ha, y⟩)
    have := e (T + 1)
    rw [hlq, pv_all0 z, Int.mul_zero] at this
    exact mul3_nz hm (hT _ (by omega)) this
  obtain ⟨U, hU⟩ := pv_big lq hq
  obtain ⟨kk, hkk⟩ := pv_low3 (l := l) (C := m.natAbs * ((p 0).natAbs + (p 1).natAbs + (p 2).natAbs + (p 3).natAbs)) (T := U) (fun t ht => by
    have a := e (t : Int)
    have b := hU (t : Int) (by omega)
    have c := congrArg Int.natAbs a
    rw [Int.natAbs_mul, Int.natAbs_mul, hl, hlq] at c
    have d : (pv l t).natAbs ≤ (pv l t).natAbs * (pv lq t).natAbs := Nat.le_mul_of_pos_right _ (Int.natAbs_pos.mpr b)
    have f := Nat.mul_le_mul_left m.natAbs (e4_le (p := p) (t := t) (by omega))
    rw [← Nat.mul_assoc] at f
    omega)
  exact ⟨kk, fun t => by rw [hl t, hkk t]⟩
theorem pwt_nz {D : Int} (h : D ≠ 0) : ∀ n, pwt D n ≠ 0
  | 0 => by show (1 : Int) ≠ 0; decide
  | n + 1 => mul3_nz h (pwt_nz h n)
theorem dg_z {v : Nat → Int} {w k : Nat} (hw : w < 3) (h : dg v < k) (hk : k < 4) : v (4 * w + k) = 0 := by
  have hg := dg_facts v
  rcases (show w = 0 ∨ w = 1 ∨ w = 2 by omega) with rfl | rfl | rfl <;> rcases (show k = 1 ∨ k = 2 ∨ k = 3 by omega) with rfl | rfl | rfl <;> simp only [Nat.mul_zero, Nat.zero_add, Nat.reduceMul, Nat.reduceAdd] <;> omega
theorem dg_nz {v : Nat → Int} (h : 0 < dg v) : ∃ w, w < 3 ∧ v (4 * w + dg v) ≠ 0 := by
  refine Classical.byContradiction (fun q => ?_)
  have z : ∀ w, w < 3 → v (4 * w + dg v) = 0 := fun w hw => Classical.byContradiction (fun y => q ⟨w, hw, y⟩)
  have hg := dg_facts v
  have hd := dg_le v
  have z0 := z 0 (by decide); have z1 := z 1 (by decide); have z2 := z 2 (by decide)
  rcases (show dg v = 1 ∨ dg v = 2 ∨ dg v = 3 by omega) with e | e | e <;> rw [e] at z0 z1 z2 <;> simp only [Nat.mul_zero, Nat.zero_add, Nat.reduceMul, Nat.reduceAdd] at z0 z1 z2 <;> omega
