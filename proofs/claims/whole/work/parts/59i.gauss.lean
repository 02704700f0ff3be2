/-! PURE: whole shares; polynomials of the degree 1; cleaning -/
theorem tri_mul {t T a : Nat} (h : t * T ≤ a * T) (h0 : 0 < T) : t ≤ a := Nat.le_of_mul_le_mul_right h h0
theorem pv_4 (a b c d : Int) (r : List Int) (t : Int) : pv (a :: b :: c :: d :: r) t = (a + t * b + t * t * c + t * t * t * d) + t * (t * t * t) * pv r t := by
  simp only [pv]
  grind
theorem q_id {l m P G y : Int} (a : l * m * P = G * (l * y)) : l * (m * P) = l * (G * y) := by grind
theorem pv_low3 {l : List Int} {C T : Nat} (h : ∀ t : Nat, T < t → (pv l t).natAbs ≤ C * (t * t * t)) : ∃ q : Nat → Int, ∀ t, pv l t = e4 q t := by
  match l, h with
  | [], _ => exact ⟨fun _ => 0, fun t => by simp [pv, e4]⟩
  | [a], _ => exact ⟨fun i => match i with | 0 => a | _ => 0, fun t => by simp [pv, e4]⟩
  | [a, b], _ => exact ⟨fun i => match i with | 0 => a | 1 => b | _ => 0, fun t => by simp [pv, e4]⟩
  | [a, b, c], _ => exact ⟨fun i => match i with | 0 => a | 1 => b | 2 => c | _ => 0, fun t => by simp [pv, e4]⟩
  | a :: b :: c :: d :: r, h =>
    by_cases hr : ∃ x, x ∈ r ∧ x ≠ 0
    · exfalso
      obtain ⟨U, hU⟩ := pv_big r hr
      let K : Nat := a.natAbs + b.natAbs + c.natAbs + d.natAbs
      let t : Nat := K + C + T + U + 1
      have ht : 0 < t := by show 0 < K + C + T + U + 1; omega
      have h1 := h t (by show T < K + C + T + U + 1; omega)
      have h2 := hU (t : Int) (by show (U : Int) < ((K + C + T + U + 1 : Nat) : Int); omega)
      have e : pv (a :: b :: c :: d :: r) t = (a + t * b + t * t * c + t * t * t * d) + t * (t * t * t) * pv r t := pv_4 a b c d r t
      have T1 : t ≤ t * t := Nat.le_mul_of_pos_left t ht
      have T2 : t * t ≤ t * t * t := Nat.le_mul_of_pos_right _ ht
      have T0 : 0 < t * t * t := Nat.mul_pos (Nat.mul_pos ht ht) ht
      have n1 : ((t : Int) * b).natAbs = t * b.natAbs := by rw [Int.natAbs_mul, Int.natAbs_natCast]
      have n2 : ((t : Int) * t * c).natAbs = t * t * c.natAbs := by rw [Int.natAbs_mul, Int.natAbs_mul, Int.natAbs_natCast]
      have n3 : ((t : Int) * t * t * d).natAbs = t * t * t * d.natAbs := by rw [Int.natAbs_mul, Int.natAbs_mul, Int.natAbs_mul, Int.natAbs_natCast]
      have n4 : ((t : Int) * (t * t * t) * pv r t).natAbs = t * (t * t * t) * (pv r t).natAbs := by rw [Int.natAbs_mul, Int.natAbs_mul, Int.natAbs_mul, Int.natAbs_mul, Int.natAbs_natCast]
      have m0 : a.natAbs ≤ a.natAbs * (t * t * t) := Nat.le_mul_of_pos_right _ T0
      have m1 : t * b.natAbs ≤ b.natAbs * (t * t * t) := by rw [Nat.mul_comm]; exact Nat.mul_le_mul_left _ (Nat.le_trans T1 T2)
      have m2 : t * t * c.natAbs ≤ c.natAbs * (t * t * t) := by rw [Nat.mul_comm]; exact Nat.mul_le_mul_left _ T2
      have m3 : t * t * t * d.natAbs = d.natAbs * (t * t * t) := Nat.mul_comm _ _
      have m4 : t * (t * t * t) ≤ t * (t * t * t) * (pv r t).natAbs := Nat.le_mul_of_pos_right _ (Int.natAbs_pos.mpr h2)
      have kk : K * (t * t * t) = a.natAbs * (t * t * t) + b.natAbs * (t * t * t) + c.natAbs * (t * t * t) + d.natAbs * (t * t * t) := by
        show (a.natAbs + b.natAbs + c.natAbs + d.natAbs) * (t * t * t) = _
        rw [Nat.add_mul, Nat.add_mul, Nat.add_mul]
      have s : (K + C) * (t * t * t) = K * (t * t * t) + C * (t * t * t) := Nat.add_mul _ _ _
      have fin : t * (t * t * t) ≤ (K + C) * (t * t * t) := by omega
      have := tri_mul fin T0
      have : K + C + T + U + 1 ≤ K + C := this
      omega
    · have z : ∀ x, x ∈ r → x = 0 := fun x hx => Classical.byContradiction (fun q => hr ⟨x, hx, q⟩)
      refine ⟨fun i => match i with | 0 => a | 1 => b | 2 => c | _ => d, fun t => ?_⟩
      simp only [pv, e4, pv_all0 z t]
      grind
theorem e4_le {p : Nat → Int} {t : Nat} (ht : 0 < t) : (e4 p t).natAbs ≤ ((p 0).natAbs + (p 1).natAbs + (p 2).natAbs + (p 3).natAbs) * (t * t * t) := by
  have e : e4 p t = p 0 + t * p 1 + t * t * p 2 + t * t * t * p 3 := by unfold e4; grind
  have T1 : t ≤ t * t := Nat.le_mul_of_pos_left t ht
  have T2 : t * t ≤ t * t * t := Nat.le_mul_of_pos_right _ ht
  have T0 : 0 < t * t * t := Nat.mul_pos (Nat.mul_pos ht ht) ht
  have n1 : ((t : Int) * p 1).natAbs = t * (p 1).natAbs := by rw [Int.natAbs_mul, Int.natAbs_natCast]
  have n2 : ((t : Int) * t * p 2).natAbs = t * t * (p 2).natAbs := by rw [Int.natAbs_mul, Int.natAbs_mul, Int.natAbs_natCast]
  have n3 : ((t : Int) * t * t * p 3).natAbs = t * t * t * (p 3).natAbs := by rw [Int.natAbs_mul, Int.natAbs_mul, Int.natAbs_mul, Int.natAbs_natCast]
  have m0 : (p 0).natAbs ≤ (p 0).natAbs * (t * t * t) := Nat.le_mul_of_pos_right _ T0
  have m1 : t * (p 1).natAbs ≤ (p 1).natAbs * (t * t * t) := by rw [Nat.mul_comm]; exact Nat.mul_le_mul_left _ (Nat.le_trans T1 T2)
  have m2 : t * t * (p 2).natAbs ≤ (p 2).natAbs * (t * t * t) := by rw [Nat.mul_comm]; exact Nat.mul_le_mul_left _ T2
  have m3 : t * t * t * (p 3).natAbs = (p 3).natAbs * (t * t * t) := Nat.mul_comm _ _
  rw [Nat.add_mul, Nat.add_mul, Nat.add_mul]
  omega
/-- the seven numbers of a product -/
def cv7 (g q : Nat → Int) : List Int := [g 0 * q 0, g 0 * q 1 + g 1 * q 0, g 0 * q 2 + g 1 * q 1 + g 2 * q 0, g 0 * q 3 + g 1 * q 2 + g 2 * q 1 + g 3 * q 0, g 1 * q 3 + g 2 * q 2 + g 3 * q 1, g 2 * q 3 + g 3 * q 2, g 3 * q 3]
def eq7 (m : Int) (p g q : Nat → Int) : Prop := m * p 0 = g 0 * q 0 ∧ m * p 1 = g 0 * q 1 + g 1 * q 0 ∧ m * p 2 = g 0 * q 2 + g 1 * q 1 + g 2 * q 0 ∧ m * p 3 = g 0 * q 3 + g 1 * q 2 + g 2 * q 1 + g 3 * q 0 ∧ 0 = g 1 * q 3 + g 2 * q 2 + g 3 * q 1 ∧ 0 = g 2 * q 3 + g 3 * q 2 ∧ 0 = g 3 * q 3
theorem eq7_of {m : Int} {p g q : Nat → Int} (h : ∀ t, m * e4 p t = e4 g t * e4 q t) : eq7 m p g q := by
  have z : ∀ x, x ∈ [m * p 0 - g 0 * q 0, m * p 1 - (g 0 * q 1 + g 1 * q 0), m * p 2 - (g 0 * q 2 + g 1 * q 1 + g 2 * q 0), m * p 3 - (g 0 * q 3 + g 1 * q 2 + g 2 * q 1 + g 3 * q 0), -(g 1 * q 3 + g 2 * q 2 + g 3 * q 1), -(g 2 * q 3 + g 3 * q 2), -(g 3 * q 3)] → x = 0 := by
    intro x hx
    refine Classical.byContradiction (fun hn => ?_)
    obtain ⟨T, hT⟩ := pv_big _ ⟨x, hx, hn⟩
    refine hT (T + 1) (by omega) ?_
    have a := h (T + 1)
    simp only [pv, e4] at *
    grind
  have a0 := z (m * p 0 - g 0 * q 0) (by simp)
  have a1 := z (m * p 1 - (g 0 * q 1 + g 1 * q 0)) (by simp)
  have a2 := z (m * p 2 - (g 0 * q 2 + g 1 * q 1 + g 2 * q 0)) (by simp)
  have a3 := z (m * p 3 - (g 0 * q 3 + g 1 * q 2 + g 2 * q 1 + g 3 * q 0)) (by simp)
  have a4 := z (-(g 1 * q 3 + g 2 * q 2 + g 3 * q 1)) (by simp)
  have a5 := z (-(g 2 * q 3 + g 3 * q 2)) (by simp)
  have a6 := z (-(g 3 * q 3)) (by simp)
  exact ⟨by omega, by omega, by omega, by omega, by omega, by omega, by omega⟩
theorem gauss4 {l : Nat} (hl : prm l) {g q : Nat → Int} (hg : ¬ ((l : Int) ∣ g 0 ∧ (l : Int) ∣ g 1 ∧ (l : Int) ∣ g 2 ∧ (l : Int) ∣ g 3)) (c0 : (l : Int) ∣ g 0 * q 0) (c1 : (l : Int) ∣ g 0 * q 1 + g 1 * q 0) (c2 : (l : Int) ∣ g 0 * q 2 + g 1 * q 1 + g 2 * q 0) (c3 : (l : Int) ∣ g 0 * q 3 + g 1 * q 2 + g 2 * q 1 + g 3 * q 0) (c4 : (l : Int) ∣ g 1 * q 3 + g 2 * q 2 + g 3 * q 1) (c5 : (l : Int) ∣ g 2 * q 3 + g 3 * q 2) (c6 : (l : Int) ∣ g 3 * q 3) : (l : Int) ∣ q 0 ∧ (l : Int) ∣ q 1 ∧ (l : Int) ∣ q 2 ∧ (l : Int) ∣ q 3 := by
  have L : ∀ {a b : Int}, (l : Int) ∣ a + b → (l : Int) ∣ b → (l : Int) ∣ a := fun h g => (Int.dvd_add_left g).mp h
  have R : ∀ {a b : Int}, (l : Int) ∣ a + b → (l : Int) ∣ a → (l : Int) ∣ b := fun h g => (Int.dvd_add_right g).mp h
  have ml : ∀ {a b : Int}, (l : Int) ∣ a → (l : Int) ∣ a * b := fun h => Int.dvd_mul_of_dvd_left h
  have mr : ∀ {a b : Int}, (l : Int) ∣ b → (l : Int) ∣ a * b := fun h => Int.dvd_mul_of_dvd_right h
  have ad : ∀ {a b : Int}, (l : Int) ∣ a → (l : Int) ∣ b → (l : Int) ∣ a + b := fun h g => Int.dvd_add h g
  have pr := hl.2
  by_cases h0 : (l : Int) ∣ g 0
  · by_cases h1 : (l : Int) ∣ g 1
    · by_cases h2 : (l : Int) ∣ g 2
      · have h3 : ¬ (l : Int) ∣ g 3 := fun z => hg ⟨h0, h1, h2, z⟩
        have q0 := (pr _ _ (R c3 (ad (ad (ml h0) (ml h1)) (ml h2)))).resolve_left h3
        have q1 := (pr _ _ (R c4 (ad (ml h1) (ml h2)))).resolve_left h3
        have q2 := (pr _ _ (R c5 (ml h2))).resolve_left h3
        exact ⟨q0, q1, q2, (pr _ _ c6).resolve_left h3⟩
      · have q0 := (pr _ _ (R c2 (ad (ml h0) (ml h1)))).resolve_left h2
        have q1 := (pr _ _ (R (L c3 (mr q0)) (ad (ml h0) (ml h1)))).resolve_left h2
        have q2 := (pr _ _ (R (L c4 (mr q1)) (ml h1))).resolve_left h2
        exact ⟨q0, q1, q2, (pr _ _ (L c5 (mr q2))).resolve_left h2⟩
    · have q0 := (pr _ _ (R c1 (ml h0))).resolve_left h1
      have q1 := (pr _ _ (R (L c2 (mr q0)) (ml h0))).resolve_left h1
      have q2 := (pr _ _ (R (L (L c3 (mr q0)) (mr q1)) (ml h0))).resolve_left h1
      exact ⟨q0, q1, q2, (pr _ _ (L (L c4 (mr q1)) (mr q2))).resolve_left h1⟩
  · have q0 := (pr _ _ c0).resolve_left h0
    have q1 := (pr _ _ (L c1 (mr q0))).resolve_left h0
    have q2 := (pr _ _ (L (L c2 (mr q0)) (mr q1))).resolve_left h0
    exact ⟨q0, q1, q2, (pr _ _ (L (L (L c3 (mr q0)) (mr q1)) (mr q2))).resolve_left h0⟩
theorem quot_red {p g : Nat → Int} (hg : gcdN g 4 = 1) : ∀ (n : Nat) (m : Int) (q : Nat → Int), m.natAbs = n → m ≠ 0 → (∀ t, m * e4 p t = e4 g t * e4 q t) → ∃ q' : Nat → Int, ∀ t, e4 p t = e4 g t * e4 q' t := by
  intro n
  induction n using Nat.strongRecOn with
  | _ n ih =>
    intro m q hn hm h
    by_cases h1 : n = 1
    · refine ⟨fun k => m * q k, fun t => ?_⟩
      rw [e4_cm (c := m) (q := q) (fun _ _ => rfl)]
      have mm : m * m = 1 := by
        rcases (show m = 1 ∨ m = -1 by omega) with z | z <;> rw [z] <;> rfl
      have : e4 g t * (m * e4 q t) = m * (e4 g t * e4 q t) := by grind
      rw [this, ← h t, ← Int.mul_assoc, mm, Int.one_mul]
    · obtain ⟨l, hl, hd⟩ := prm_ex h1
      have hd' : (l : Int) ∣ m := Int.ofNat_dvd_left.mpr (by rw [hn]; exact hd)
      obtain ⟨m', hm'⟩ := hd'
      obtain ⟨c0, c1, c2, c3, c4, c5, c6⟩ := eq7_of h
      have dm : ∀ x : Int, (l : Int) ∣ m * x := fun x => Int.dvd_mul_of_dvd_left ⟨m', hm'⟩
      have hg' : ¬ ((l : Int) ∣ g 0 ∧ (l : Int) ∣ g 1 ∧ (l : Int) ∣ g 2 ∧ (l : Int) ∣ g 3) := by
        intro ⟨a, b, c, d⟩
        have := gcdN_max (z := g) (d := l) (N := 4) (fun i hi => by
          rcases (show i = 0 ∨ i = 1 ∨ i = 2 ∨ i = 3 by omega) with rfl | rfl | rfl | rfl
          · exact a
          · exact b
          · exact c
          · exact d)
        rw [hg] at this
        have := Nat.le_of_dvd (by decide) this
        have := hl.1
        omega
      obtain ⟨q0, q1, q2, q3⟩ := gauss4 hl hg' (c0 ▸ dm _) (c1 ▸ dm _) (c2 ▸ dm _) (c3 ▸ dm _) (c4 ▸ Int.dvd_zero _) (c5 ▸ Int.dvd_zero _) (c6 ▸ Int.dvd_zero _)
      obtain ⟨r0, e0⟩ := q0
      obtain ⟨r1, e1⟩ := q1
      obtain ⟨r2, e2⟩ := q2
      obtain ⟨r3, e3⟩ := q3
      have hl0 : (l : Int) ≠ 0 := by have := hl.1; omega
      have hm0 : m' ≠ 0 := fun z => hm (by rw [hm', z, Int.mul_zero])
      refine ih m'.natAbs ?_ m' (fun i => match i with | 0 => r0 | 1 => r1 | 2 => r2 | _ => r3) rfl hm0 (fun t => ?_)
      · rw [← hn, hm', Int.natAbs_mul, Int.natAbs_natCast]
        have := hl.1
        have : m'.natAbs * 1 < m'.natAbs * l := Nat.mul_lt_mul_of_pos_left this (Int.natAbs_pos.mpr hm0)
        rw [Nat.mul_comm l]
        omega
      · refine Int.eq_of_mul_eq_mul_left hl0 ?_
        have : e4 q t = l * e4 (fun i => match i with | 0 => r0 | 1 => r1 | 2 => r2 | _ => r3) t := by
          refine e4_cm (fun k hk => ?_) t
          rcases (show k = 0 ∨ k = 1 ∨ k = 2 ∨ k = 3 by omega) with rfl | rfl | rfl | rfl
          · exact e0
          · exact e1
          · exact e2
          · exact e3
        have a := h t
        rw [this, hm'] at a
        exact q_id a
/-- a share that is whole -/
theorem quot4 {p g : Nat → Int} (hg : gcdN g 4 = 1) (h : dvP (e4 g) (e4 p)) : ∃ q : Nat → Int, ∀ t, e4 p t = e4 g t * e4 q t := by
  obtain ⟨m, x, hm, ⟨l, hl⟩, e⟩ := h
  obtain ⟨i, hi, hgi⟩ := prim_nz hg
  obtain ⟨T, hT⟩ := e4_big hi hgi
  obtain ⟨q, hq⟩ := pv_low3 (l := l) (C := m.natAbs * ((p 0).natAbs + (p 1).natAbs + (p 2).natAbs + (p 3).natAbs)) (T := T) (fun t ht => by
    have a := e (t : Int)
    have b := hT (t : Int) (by omega)
    have c := congrArg Int.natAbs a
    rw [Int.natAbs_mul, Int.natAbs_mul, hl] at c
    have d : (pv l t).natAbs ≤ (e4 g t).natAbs * (pv l t).natAbs := Nat.le_mul_of_pos_left _ (Int.natAbs_pos.mpr b)
    have f := Nat.mul_le_mul_left m.natAbs (e4_le (p := p) (t := t) (by omega))
    rw [← Nat.mul_assoc] at f
    omega)
  exact quot_red hg m.natAbs m q rfl hm (fun t => by rw [e t, hl t, hq t])
/-- of the degree 1 -/
def lin1 (g : Nat → Int) : Prop := g 1 ≠ 0 ∧ g 2 = 0 ∧ g 3 = 0
theorem lin_dv {k : Int → Int} {g : Nat → Int} (hk : isP k) (hg : lin1 g) (h : dvP k (e4 g)) : (∀ t, k t = k 0) ∨ (∀ f, dvP k f → dvP (e4 g) f) := by
  obtain ⟨m, q, hm, hq, e⟩ := h
  have e' : ∀ t, m * (g 0 + t * g 1) = k t * q t := fun t => by
    rw [← e t]; unfold e4; rw [hg.2.1, hg.2.2]; grind
  rcases lin_split hk hq e' with c | c
  · exact Or.inl c
  · refine Or.inr (fun f hf => ?_)
    obtain ⟨n, r, hn, hr, ef⟩ := hf
    have hq0 : q 0 ≠ 0 := by
      intro z
      have a := e' 0
      have b := e' 1
      rw [c 1, z] at b
      rw [z] at a
      have a' : m * g 0 = 0 := by simpa using a
      have b' : m * (g 0 + g 1) = 0 := by simpa using b
      have a2 := (Int.mul_eq_zero.mp a').resolve_left hm
      have b2 := (Int.mul_eq_zero.mp b').resolve_left hm
      exact hg.1 (by omega)
    refine ⟨q 0 * n, fun t => m * r t, mul3_nz hq0 hn, isP_cm m hr, fun t => ?_⟩
    have a := e t
    have b := ef t
    rw [c t] at a
    have : q 0 * n * f t = q 0 * (n * f t) := by grind
    rw [this, b]
    have : q 0 * (k t * r t) = (k t * q 0) * r t := by grind
    rw [this, ← a]
    grind
def one4 : Nat → Int
  | 0 => 1
  | _ => 0
theorem e4_one (t : Int) : e4 one4 t = 1 := by simp [e4, one4]
theorem dv_one {k f : Int → Int} (h : ∀ t, k t = k 0) (hd : dvP k f) (hn : ∃ t, f t ≠ 0) : dvP k (e4 one4) := by
  obtain ⟨m, q, hm, hq, e⟩ := hd
  obtain ⟨t, ht⟩ := hn
  have h0 : k 0 ≠ 0 := fun z => by
    have := e t
    rw [h t, z, Int.zero_mul] at this
    exact (mul3_nz hm ht) this
  exact ⟨k 0, fun _ => 1, h0, isP_c 1, fun t => by rw [e4_one, h t]⟩
theorem one_dv {k f : Int → Int} (hf : isP f) (h : dvP k (e4 one4)) : dvP k f := dv_congr (dv_mul hf h) (fun t => by rw [e4_one]; omega)
/-- numbers without their common divisor -/
def cl4 (p : Nat → Int) : Nat → Int := fun k => (p k).tdiv (gcdN p 4)
theorem cl_dv {k : Int → Int} (p : Nat → Int) : dvP k (e4 (cl4 p)) ↔ dvP k (e4 p) := by
  rcases Nat.eq_zero_or_pos (gcdN p 4) with q | q
  · refine (dv_sc (c := 1) (by decide) (fun i hi => ?_)).symm
    unfold cl4
    rw [gcdN_zero q i hi, q]
    rfl
  · refine (dv_sc (c := (gcdN p 4 : Nat)) (by omega) (fun i hi => ?_)).symm
    exact (Int.mul_tdiv_cancel' (gcdN_dvd (z := p) hi)).symm
theorem cl_z (p : Nat → Int) {i : Nat} (hi : i < 4) : cl4 p i = 0 ↔ p i = 0 := tdiv_z hi
theorem cl_ab {p : Nat → Int} {i A : Nat} (h : ab (p i) A) : ab (cl4 p i) A := by
  have h1 : ((p i).tdiv (gcdN p 4)).natAbs ≤ (p i).natAbs := by rw [Int.natAbs_tdiv]; exact Nat.div_le_self _ _
  unfold cl4 ab at *
  omega
/-- without a common divisor, or all 0 -/
def pz4 (p : Nat → Int) : Prop := gcdN p 4 = 1 ∨ ∀ i, i < 4 → p i = 0
theorem cl_pz (p : Nat → Int) : pz4 (cl4 p) := by
  rcases Nat.eq_zero_or_pos (gcdN p 4) with q | q
  · refine Or.inr (fun i hi => ?_)
    rw [cl_z p hi]
    exact gcdN_zero q i hi
  · refine Or.inl ?_
    have e : gcdN p 4 = gcdN (fun i => (gcdN p 4 : Int) * cl4 p i) 4 := gcdN_congr (fun i hi => (Int.mul_tdiv_cancel' (gcdN_dvd (z := p) hi)).symm)
    rw [gcdN_mul, Int.natAbs_natCast] at e
    exact (Nat.eq_of_mul_eq_mul_left q (show gcdN p 4 * 1 = gcdN p 4 * gcdN (cl4 p) 4 by omega)).symm
/-- how high a polynomial is: 0 nothing, else one more than its degree -/
def mz4 (p : Nat → Int) : Nat := if p 3 ≠ 0 then 4 else if p 2 ≠ 0 then 3 else if p 1 ≠ 0 then 2 else if p 0 ≠ 0 then 1 else 0
theorem mz_facts (p : Nat → Int) : (mz4 p = 0 ∧ ∀ k, k < 4 → p k = 0) ∨ (0 < mz4 p ∧ mz4 p ≤ 4 ∧ p (mz4 p - 1) ≠ 0 ∧ ∀ k, mz4 p ≤ k → k < 4 → p k = 0) := by
  unfold mz4
  by_cases h3 : p 3 = 0
  · rw [if_neg (fun q => q h3)]
    by_cases h2 : p 2 = 0
    · rw [if_neg (fun q => q h2)]
      by_cases h1 : p 1 = 0
      · rw [if_neg (fun q => q h1)]
        by_cases h0 : p 0 = 0
        · rw [if_neg (fun q => q h0)]
          refine Or.inl ⟨rfl, fun k hk => ?_⟩
          rcases (show k = 0 ∨ k = 1 ∨ k = 2 ∨ k = 3 by omega) with rfl | rfl | rfl | rfl <;> assumption
        · rw [if_pos h0]
          refine Or.inr ⟨by decide, by decide, h0, fun k h1 h2 => ?_⟩
          rcases (show k = 1 ∨ k = 2 ∨ k = 3 by omega) with rfl | rfl | rfl <;> assumption
      · rw [if_pos h1]
        refine Or.inr ⟨by decide, by decide, h1, fun k h1 h2 => ?_⟩
        rcases (show k = 2 ∨ k = 3 by omega) with rfl | rfl <;> assumption
    · rw [if_pos h2]
      refine Or.inr ⟨by decide, by decide, h2, fun k h1 h2 => ?_⟩
      rw [show k = 3 by omega]; exact h3
  · rw [if_pos h3]
    exact Or.inr ⟨by decide, by decide, h3, fun k h1 h2 => by omega⟩
theorem mz_le {p : Nat → Int} {d : Nat} (h : ∀ k, d ≤ k → k < 4 → p k = 0) : mz4 p ≤ d := by
  rcases mz_facts p with ⟨a, _⟩ | ⟨a, b, c, _⟩
  · omega
  · rcases Nat.lt_or_ge d (mz4 p) with q | q
    · exact absurd (h (mz4 p - 1) (by omega) (by omega)) c
    · exact q
theorem mz_cl (p : Nat → Int) : mz4 (cl4 p) = mz4 p := by
  unfold mz4
  have z := fun i (hi : i < 4) => cl_z p hi
  simp only [ne_eq, z 0 (by decide), z 1 (by decide), z 2 (by decide), z 3 (by decide)]
