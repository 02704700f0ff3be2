/-! PURE: the reference's KIND: what the forms say -/
theorem det_id0 (F a b c : Nat → Int) : dot3 (crx a b) c * F 0 = dot3 F a * crx b c 0 + dot3 F b * crx c a 0 + dot3 F c * crx a b 0 := by
  simp only [dot3, crx]
  grind
theorem det_id1 (F a b c : Nat → Int) : dot3 (crx a b) c * F 1 = dot3 F a * crx b c 1 + dot3 F b * crx c a 1 + dot3 F c * crx a b 1 := by
  simp only [dot3, crx]
  grind
theorem det_id2 (F a b c : Nat → Int) : dot3 (crx a b) c * F 2 = dot3 F a * crx b c 2 + dot3 F b * crx c a 2 + dot3 F c * crx a b 2 := by
  simp only [dot3, crx]
  grind
theorem det_flat {F a b c : Nat → Int} (hF : nz3 F) (ha : dot3 F a = 0) (hb : dot3 F b = 0) (hc : dot3 F c = 0) : dot3 (crx a b) c = 0 := by
  have e0 := det_id0 F a b c
  have e1 := det_id1 F a b c
  have e2 := det_id2 F a b c
  rw [ha, hb, hc] at e0 e1 e2
  simp only [Int.zero_mul, Int.add_zero] at e0 e1 e2
  refine Classical.byContradiction (fun q => hF ⟨?_, ?_, ?_⟩)
  · exact (Int.mul_eq_zero.mp e0).resolve_left q
  · exact (Int.mul_eq_zero.mp e1).resolve_left q
  · exact (Int.mul_eq_zero.mp e2).resolve_left q
def rel0 (v : Nat → Int) : Prop := relv v 0 = 0 ∧ relv v 1 = 0 ∧ relv v 2 = 0 ∧ relv v 3 = 0
theorem flat_rel {v : Nat → Int} {F : Nat → Int} (hF : nz3 F) (h : flat4 F v 4) : rel0 v := by
  have h0 := h 0 (by decide)
  have h1 := h 1 (by decide)
  have h2 := h 2 (by decide)
  have h3 := h 3 (by decide)
  refine ⟨?_, ?_, ?_, ?_⟩
  · exact det_flat hF h3 h2 h1
  · show -(dot3 (fo3 v 3 2) (vc v 0)) = 0
    rw [show dot3 (fo3 v 3 2) (vc v 0) = 0 from det_flat hF h3 h2 h0]; rfl
  · exact det_flat hF h3 h1 h0
  · show -(dot3 (fo3 v 2 1) (vc v 0)) = 0
    rw [show dot3 (fo3 v 2 1) (vc v 0) = 0 from det_flat hF h2 h1 h0]; rfl
theorem det_ab (a b : Nat → Int) : dot3 (crx a b) a = 0 ∧ dot3 (crx a b) b = 0 := by
  simp only [dot3, crx]
  constructor <;> grind
theorem det_sw (a b c : Nat → Int) : dot3 (crx a b) c = -(dot3 (crx b a) c) := by
  simp only [dot3, crx]
  grind
theorem det_cy (a b c : Nat → Int) : dot3 (crx a b) c = dot3 (crx b c) a := by
  simp only [dot3, crx]
  grind
theorem p0 (a b c : Nat → Int) (h : dot3 (crx a b) c = 0) : dot3 (crx b a) c = 0 ∧ dot3 (crx b c) a = 0 ∧ dot3 (crx c a) b = 0 ∧ dot3 (crx a c) b = 0 ∧ dot3 (crx c b) a = 0 := by
  have h1 := det_sw b a c
  have h2 := det_cy a b c
  have h3 := det_cy b c a
  have h4 := det_sw a c b
  have h5 := det_sw c b a
  refine ⟨by omega, by omega, by omega, by omega, by omega⟩
theorem rel_flat {v : Nat → Int} (h : rel0 v) {i j : Nat} (hij : i < j) (hj : j < 4) : flat4 (fo3 v i j) v 4 := by
  obtain ⟨r0, r1, r2, r3⟩ := h
  have d321 : dot3 (crx (vc v 3) (vc v 2)) (vc v 1) = 0 := r0
  have d320 : dot3 (crx (vc v 3) (vc v 2)) (vc v 0) = 0 := by have : -(dot3 (crx (vc v 3) (vc v 2)) (vc v 0)) = 0 := r1; omega
  have d310 : dot3 (crx (vc v 3) (vc v 1)) (vc v 0) = 0 := r2
  have d210 : dot3 (crx (vc v 2) (vc v 1)) (vc v 0) = 0 := by have : -(dot3 (crx (vc v 2) (vc v 1)) (vc v 0)) = 0 := r3; omega
  have neg : ∀ x : Int, x = 0 → -x = 0 := fun x h => by omega
  intro k hk
  show dot3 (crx (vc v i) (vc v j)) (vc v k) = 0
  rcases (show k = i ∨ k = j ∨ (k ≠ i ∧ k ≠ j) by omega) with rfl | rfl | ⟨e1, e2⟩
  · exact (det_ab _ _).1
  · exact (det_ab _ _).2
  · rcases (show j = 1 ∨ j = 2 ∨ j = 3 by omega) with rfl | rfl | rfl
    · have ei : i = 0 := by omega
      subst ei
      rcases (show k = 2 ∨ k = 3 by omega) with rfl | rfl
      · exact (p0 _ _ _ d210).2.2.2.2
      · exact (p0 _ _ _ d310).2.2.2.2
    · rcases (show i = 0 ∨ i = 1 by omega) with rfl | rfl
      · rcases (show k = 1 ∨ k = 3 by omega) with rfl | rfl
        · exact (p0 _ _ _ d210).2.2.1
        · exact (p0 _ _ _ d320).2.2.2.2
      · rcases (show k = 0 ∨ k = 3 by omega) with rfl | rfl
        · exact (p0 _ _ _ d210).1
        · exact (p0 _ _ _ d321).2.2.2.2
    · rcases (show i = 0 ∨ i = 1 ∨ i = 2 by omega) with rfl | rfl | rfl
      · rcases (show k = 1 ∨ k = 2 by omega) with rfl | rfl
        · exact (p0 _ _ _ d310).2.2.1
        · exact (p0 _ _ _ d320).2.2.1
      · rcases (show k = 0 ∨ k = 2 by omega) with rfl | rfl
        · exact (p0 _ _ _ d310).1
        · exact (p0 _ _ _ d321).2.2.1
      · rcases (show k = 0 ∨ k = 1 by omega) with rfl | rfl
        · exact (p0 _ _ _ d320).1
        · exact (p0 _ _ _ d321).1
theorem dg1_rel {v : Nat → Int} (h : dg v = 1) : rel0 v := by
  have hg := dg_facts v
  have z3 : ∀ w, w < 3 → vc v 3 w = 0 := fun w hw => by
    show v (4 * w + 3) = 0
    rcases (show w = 0 ∨ w = 1 ∨ w = 2 by omega) with rfl | rfl | rfl <;> simp only [Nat.mul_zero, Nat.zero_add, Nat.mul_one, Nat.reduceMul, Nat.reduceAdd] <;> omega
  have z2 : ∀ w, w < 3 → vc v 2 w = 0 := fun w hw => by
    show v (4 * w + 2) = 0
    rcases (show w = 0 ∨ w = 1 ∨ w = 2 by omega) with rfl | rfl | rfl <;> simp only [Nat.mul_zero, Nat.zero_add, Nat.mul_one, Nat.reduceMul, Nat.reduceAdd] <;> omega
  have a0 := z3 0 (by decide); have a1 := z3 1 (by decide); have a2 := z3 2 (by decide)
  have b0 := z2 0 (by decide); have b1 := z2 1 (by decide); have b2 := z2 2 (by decide)
  refine ⟨?_, ?_, ?_, ?_⟩ <;> simp only [relv, fo3, dot3, crx, a0, a1, a2, b0, b1, b2] <;> simp
theorem kd_facts (v : Nat → Int) : (dg v = 0 → kd v = 0) ∧ (dg v ≠ 0 → rel0 v → kd v = 1) ∧ (dg v ≠ 0 → ¬ rel0 v → kd v = dg v) := by
  unfold kd rel0
  refine ⟨fun h => if_pos h, fun h1 h2 => by rw [if_neg h1, if_pos h2], fun h1 h2 => ?_⟩
  rw [if_neg h1, if_neg h2]
  by_cases h3 : dg v = 2
  · rw [if_pos h3, h3]
  · rw [if_neg h3]
    have := dg_le v
    have : dg v ≠ 1 := fun q => h2 (dg1_rel q)
    omega
theorem sp_kindOf {Q : Int32 → mS → Prop} {l : Nat} {σ : mS} {v : Nat → Int} (hl : l < 4) (hv : ofV σ l v) (hc : copr v) (h : ∀ σ', s6 σ σ' → (kd v = 1 → ∃ i j, firstP v (dg v) i j ∧ is6 σ' (fo3 v i j)) → Q (nI (kd v)) σ') : w_kindOf Q (nI l) σ := by
  obtain ⟨k0, k1, k2⟩ := kd_facts v
  have hd := dg_le v
  unfold w_kindOf w_kindOf_27
  refine sp_degreeOf hl (fun i hi => ofV_r hv hi) ⟨fun q => ?_, fun q => ?_⟩
  · have h0 : dg v ≠ 0 := fun z => q (by rw [z]; rfl)
    refine sp_isStraight hl hv (par_no hc (by omega)) (fun i j hf g σ' hs hr => ⟨fun z => absurd z (by decide), fun _ => ?_⟩) (fun i j hf g σ' hs => ⟨fun _ => ?_, fun z => absurd rfl z⟩)
    · have e := k1 h0 (flat_rel hf.2.2.1 g)
      have := h σ' hs (fun _ => ⟨i, j, hf, hr⟩)
      rw [e] at this
      exact this
    · have hr : ¬ rel0 v := fun z => g (rel_flat z hf.1 (by have := hf.2.1; omega))
      have e := k2 h0 hr
      have h1 : dg v ≠ 1 := fun z => hr (dg1_rel z)
      have := h σ' hs (fun z => absurd (e.symm.trans z) h1)
      rw [e] at this
      exact this
  · have h0 : dg v = 0 := (nI_eq (by omega) (by omega)).mp q
    have := h σ s6_rf (fun z => absurd ((k0 h0).symm.trans z) (by decide))
    rw [k0 h0] at this
    exact this
