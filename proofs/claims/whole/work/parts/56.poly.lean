/-! PURE: polynomials by their values -/
theorem natAbs_mul_ge {t e : Int} (he : e ≠ 0) : t.natAbs ≤ (t * e).natAbs := by
  rw [Int.natAbs_mul]
  exact Nat.le_mul_of_pos_right _ (Int.natAbs_pos.mpr he)
/-- one that isn't 0 has a value other than 0 at every great number -/
theorem pv_big : ∀ (l : List Int), (∃ a, a ∈ l ∧ a ≠ 0) → ∃ T : Nat, ∀ t : Int, (T : Int) < t → pv l t ≠ 0 := by
  intro l
  induction l with
  | nil => intro ⟨a, h, _⟩; cases h
  | cons b l ih =>
    intro ⟨a, h, ha⟩
    by_cases hl : ∃ a, a ∈ l ∧ a ≠ 0
    · obtain ⟨T, hT⟩ := ih hl
      refine ⟨max T b.natAbs, fun t ht q => ?_⟩
      have h1 := hT t (by omega)
      have h2 := natAbs_mul_ge (t := t) h1
      have h3 : b + t * pv l t = 0 := q
      omega
    · have hb : b ≠ 0 := by
        rcases List.mem_cons.mp h with q | q
        · rw [← q]; exact ha
        · exact absurd ⟨a, q, ha⟩ hl
      refine ⟨0, fun t ht q => ?_⟩
      have hz : ∀ (m : List Int), (∀ a, a ∈ m → a = 0) → pv m t = 0 := by
        intro m
        induction m with
        | nil => intro _; rfl
        | cons c m ihm =>
          intro hm
          show c + t * pv m t = 0
          rw [hm c (List.mem_cons_self), ihm (fun a ha => hm a (List.mem_cons_of_mem _ ha))]
          simp
      have h3 : b + t * pv l t = 0 := q
      rw [hz l (fun a ha => Classical.byContradiction (fun z => hl ⟨a, ha, z⟩))] at h3
      simp at h3
      exact hb h3
theorem pv_prod {l m : List Int} (h : ∀ t, pv l t * pv m t = 0) : (∀ a, a ∈ l → a = 0) ∨ (∀ a, a ∈ m → a = 0) := by
  by_cases hl : ∃ a, a ∈ l ∧ a ≠ 0
  · by_cases hm : ∃ a, a ∈ m ∧ a ≠ 0
    · obtain ⟨T, hT⟩ := pv_big l hl
      obtain ⟨U, hU⟩ := pv_big m hm
      have := h (max T U + 1)
      rcases Int.mul_eq_zero.mp this with q | q
      · exact absurd q (hT _ (by omega))
      · exact absurd q (hU _ (by omega))
    · exact Or.inr (fun a ha => Classical.byContradiction (fun z => hm ⟨a, ha, z⟩))
  · exact Or.inl (fun a ha => Classical.byContradiction (fun z => hl ⟨a, ha, z⟩))
/-- the value of a cubic form -/
def ev3 (e P : Nat → Int) : Int := e 0 * (P 0 * P 0 * P 0) + e 1 * (P 0 * P 0 * P 1) + e 2 * (P 0 * P 1 * P 1) + e 3 * (P 1 * P 1 * P 1) + e 4 * (P 0 * P 0 * P 2) + e 5 * (P 0 * P 1 * P 2) + e 6 * (P 1 * P 1 * P 2) + e 7 * (P 0 * P 2 * P 2) + e 8 * (P 1 * P 2 * P 2) + e 9 * (P 2 * P 2 * P 2)
theorem ev3_pr (F G H P : Nat → Int) : ev3 (pr3 F G H) P = dot3 F P * dot3 G P * dot3 H P := by
  simp [ev3, pr3, sum3, plc, dot3]
  grind
/-- of a quadratic one -/
def ev2 (e P : Nat → Int) : Int := e 4 * (P 0 * P 0) + e 5 * (P 0 * P 1) + e 6 * (P 1 * P 1) + e 7 * (P 0 * P 2) + e 8 * (P 1 * P 2) + e 9 * (P 2 * P 2)
theorem ev2_pr (F G P : Nat → Int) : ev2 (pr3 F G one3) P = dot3 F P * dot3 G P := by
  simp [ev2, pr3, sum3, plc, dot3, one3]
  grind
theorem pr3_low (F G : Nat → Int) : pr3 F G one3 0 = 0 ∧ pr3 F G one3 1 = 0 ∧ pr3 F G one3 2 = 0 ∧ pr3 F G one3 3 = 0 := by
  simp [pr3, sum3, plc, one3]
theorem pr3_one (F : Nat → Int) : (∀ p, p < 7 → pr3 F one3 one3 p = 0) ∧ pr3 F one3 one3 7 = F 0 ∧ pr3 F one3 one3 8 = F 1 ∧ pr3 F one3 one3 9 = F 2 := by
  refine ⟨fun p hp => ?_, ?_, ?_, ?_⟩
  · rcases (show p = 0 ∨ p = 1 ∨ p = 2 ∨ p = 3 ∨ p = 4 ∨ p = 5 ∨ p = 6 by omega) with rfl | rfl | rfl | rfl | rfl | rfl | rfl <;> simp [pr3, sum3, plc, one3]
  · simp [pr3, sum3, plc, one3]
  · simp [pr3, sum3, plc, one3]
  · simp [pr3, sum3, plc, one3]
/-- a sum of the four vectors -/
def cvv (v : Nat → Int) (c0 c1 c2 c3 : Int) : Nat → Int := fun w => c0 * vc v 0 w + c1 * vc v 1 w + c2 * vc v 2 w + c3 * vc v 3 w
theorem f10_cv (v : Nat → Int) (c0 c1 c2 c3 : Int) : dot3 (fo3 v 1 0) (cvv v c0 c1 c2 c3) = -(relv v 3 * c2) + relv v 2 * c3 := by
  simp only [dot3, fo3, crx, relv, cvv]
  grind
theorem f20_cv (v : Nat → Int) (c0 c1 c2 c3 : Int) : dot3 (fo3 v 2 0) (cvv v c0 c1 c2 c3) = relv v 3 * c1 - relv v 1 * c3 := by
  simp only [dot3, fo3, crx, relv, cvv]
  grind
theorem f30_cv (v : Nat → Int) (c0 c1 c2 c3 : Int) : dot3 (fo3 v 3 0) (cvv v c0 c1 c2 c3) = -(relv v 2 * c1) + relv v 1 * c2 := by
  simp only [dot3, fo3, crx, relv, cvv]
  grind
theorem f21_cv (v : Nat → Int) (c0 c1 c2 c3 : Int) : dot3 (fo3 v 2 1) (cvv v c0 c1 c2 c3) = -(relv v 3 * c0) + relv v 0 * c3 := by
  simp only [dot3, fo3, crx, relv, cvv]
  grind
theorem f31_cv (v : Nat → Int) (c0 c1 c2 c3 : Int) : dot3 (fo3 v 3 1) (cvv v c0 c1 c2 c3) = relv v 2 * c0 - relv v 0 * c2 := by
  simp only [dot3, fo3, crx, relv, cvv]
  grind
theorem f32_cv (v : Nat → Int) (c0 c1 c2 c3 : Int) : dot3 (fo3 v 3 2) (cvv v c0 c1 c2 c3) = -(relv v 1 * c0) + relv v 0 * c1 := by
  simp only [dot3, fo3, crx, relv, cvv]
  grind
theorem mid_dot (v P : Nat → Int) : dot3 (mid3 v) P = dot3 (fo3 v 3 0) P + dot3 (fo3 v 2 1) P := by
  simp only [dot3, mid3]
  grind
/-- the CUBIC's form -/
theorem ev3_eq {v : Nat → Int} (h : kd v = 3) (P : Nat → Int) : ev3 (eqr v) P = dot3 (fo3 v 1 0) P * dot3 (mid3 v) P * dot3 (fo3 v 3 2) P + 2 * (dot3 (fo3 v 2 0) P * dot3 (fo3 v 3 0) P * dot3 (fo3 v 3 1) P) - dot3 (fo3 v 1 0) P * dot3 (fo3 v 3 1) P * dot3 (fo3 v 3 1) P - dot3 (mid3 v) P * dot3 (fo3 v 3 0) P * dot3 (fo3 v 3 0) P - dot3 (fo3 v 3 2) P * dot3 (fo3 v 2 0) P * dot3 (fo3 v 2 0) P := by
  have e := eqr_3 h
  rw [← ev3_pr, ← ev3_pr, ← ev3_pr, ← ev3_pr, ← ev3_pr]
  unfold ev3
  rw [e 0, e 1, e 2, e 3, e 4, e 5, e 6, e 7, e 8, e 9]
  generalize pr3 (fo3 v 1 0) (mid3 v) (fo3 v 3 2) = a
  generalize pr3 (fo3 v 2 0) (fo3 v 3 0) (fo3 v 3 1) = b
  generalize pr3 (fo3 v 1 0) (fo3 v 3 1) (fo3 v 3 1) = c
  generalize pr3 (mid3 v) (fo3 v 3 0) (fo3 v 3 0) = d
  generalize pr3 (fo3 v 3 2) (fo3 v 2 0) (fo3 v 2 0) = f
  grind
theorem ev2_eq {v : Nat → Int} (h : kd v = 2) (P : Nat → Int) : ev2 (eqr v) P = dot3 (fo3 v 1 0) P * dot3 (fo3 v 2 1) P - dot3 (fo3 v 2 0) P * dot3 (fo3 v 2 0) P := by
  have e := eqr_2 h
  rw [← ev2_pr, ← ev2_pr]
  unfold ev2
  rw [e 4, e 5, e 6, e 7, e 8, e 9]
  generalize pr3 (fo3 v 1 0) (fo3 v 2 1) one3 = a
  generalize pr3 (fo3 v 2 0) (fo3 v 2 0) one3 = b
  grind
def gcv (r0 r1 r2 r3 c0 c1 c2 c3 : Int) : Int :=
  (-(r3 * c2) + r2 * c3) * ((-(r2 * c1) + r1 * c2) + (-(r3 * c0) + r0 * c3)) * (-(r1 * c0) + r0 * c1) + 2 * ((r3 * c1 - r1 * c3) * (-(r2 * c1) + r1 * c2) * (r2 * c0 - r0 * c2)) - (-(r3 * c2) + r2 * c3) * (r2 * c0 - r0 * c2) * (r2 * c0 - r0 * c2) - ((-(r2 * c1) + r1 * c2) + (-(r3 * c0) + r0 * c3)) * (-(r2 * c1) + r1 * c2) * (-(r2 * c1) + r1 * c2) - (-(r1 * c0) + r0 * c1) * (r3 * c1 - r1 * c3) * (r3 * c1 - r1 * c3)
theorem ev3_cv {v : Nat → Int} (h : kd v = 3) (c0 c1 c2 c3 : Int) : ev3 (eqr v) (cvv v c0 c1 c2 c3) = gcv (relv v 0) (relv v 1) (relv v 2) (relv v 3) c0 c1 c2 c3 := by
  rw [ev3_eq h, mid_dot, f10_cv, f20_cv, f30_cv, f21_cv, f31_cv, f32_cv]
  rfl
/-- on the LINE itself it is 0 -/
theorem gcv_on (r0 r1 r2 r3 t : Int) : gcv r0 r1 r2 r3 1 t (t * t) (t * t * t) = 0 := by
  unfold gcv
  grind
theorem gcv_z {r0 r1 r2 r3 : Int} (h : ∀ c0 c1 c2 c3, gcv r0 r1 r2 r3 c0 c1 c2 c3 = 0) (hr : ¬ (r0 = 0 ∧ r1 = 0 ∧ r2 = 0 ∧ r3 = 0)) : r1 * r3 - r2 * r2 = 0 ∧ r2 * r1 - r0 * r3 = 0 ∧ r0 * r2 - r1 * r1 = 0 := by
  have sq : ∀ x y : Int, x * y = 0 → x ≠ 0 → y = 0 := fun x y h hx => (Int.mul_eq_zero.mp h).resolve_left hx
  have a1 := h 0 0 1 0
  have a2 := h 1 0 1 0
  have a3 := h (-1) 0 1 0
  have a4 := h 0 1 0 0
  have a5 := h 1 1 1 0
  have a6 := h (-1) 1 1 0
  have b2 := h 0 1 0 1
  have b3 := h 0 1 0 (-1)
  have b5 := h 0 1 1 1
  have b6 := h 0 1 1 (-1)
  unfold gcv at a1 a2 a3 a4 a5 a6 b2 b3 b5 b6
  simp only [Int.mul_zero, Int.mul_one, Int.mul_neg, Int.neg_zero, Int.add_zero, Int.zero_add, Int.sub_zero, Int.zero_sub, Int.zero_mul, Int.neg_neg] at a1 a2 a3 a4 a5 a6 b2 b3 b5 b6
  by_cases h3 : r3 = 0
  · by_cases h0 : r0 = 0
    · exfalso
      subst h3; subst h0
      have k1 : r1 * r1 * r1 = 0 := by grind
      have k2 : r2 * r2 * r2 = 0 := by grind
      have z1 : r1 = 0 := by
        rcases Int.mul_eq_zero.mp k1 with q | q
        · rcases Int.mul_eq_zero.mp q with q | q <;> exact q
        · exact q
      have z2 : r2 = 0 := by
        rcases Int.mul_eq_zero.mp k2 with q | q
        · rcases Int.mul_eq_zero.mp q with q | q <;> exact q
        · exact q
      exact hr ⟨rfl, z1, z2, rfl⟩
    · refine ⟨sq r0 _ ?_ h0, sq r0 _ ?_ h0, sq r0 _ ?_ h0⟩ <;> clear sq h hr h0 <;> grind
  · refine ⟨sq r3 _ ?_ h3, sq r3 _ ?_ h3, sq r3 _ ?_ h3⟩ <;> clear sq h hr h3 <;> grind
theorem eqr3_nz {v : Nat → Int} (hc : copr v) (h3 : kd v = 3) : ¬ (∀ p, p < 10 → eqr v p = 0) := by
  intro hz
  have hg : ∀ c0 c1 c2 c3, gcv (relv v 0) (relv v 1) (relv v 2) (relv v 3) c0 c1 c2 c3 = 0 := by
    intro c0 c1 c2 c3
    rw [← ev3_cv h3]
    unfold ev3
    rw [hz 0 (by decide), hz 1 (by decide), hz 2 (by decide), hz 3 (by decide), hz 4 (by decide), hz 5 (by decide), hz 6 (by decide), hz 7 (by decide), hz 8 (by decide), hz 9 (by decide)]
    simp
  have := gcv_z hg (kd3 h3).2
  exact kqr_nz hc h3 ⟨this.1, this.2.1, this.2.2⟩
