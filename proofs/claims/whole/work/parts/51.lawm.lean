/-! PURE: what copr says of the relation; the six minors and the class's numbers of THE LAW are multiples of one another -/
theorem rel_sum0 (v : Nat → Int) : relv v 0 * v 0 + relv v 1 * v 1 + relv v 2 * v 2 + relv v 3 * v 3 = 0 := by
  simp only [relv, crx, dot3, fo3, vc]
  simp
  grind
theorem rel_sum1 (v : Nat → Int) : relv v 0 * v 4 + relv v 1 * v 5 + relv v 2 * v 6 + relv v 3 * v 7 = 0 := by
  simp only [relv, crx, dot3, fo3, vc]
  simp
  grind
theorem rel_sum2 (v : Nat → Int) : relv v 0 * v 8 + relv v 1 * v 9 + relv v 2 * v 10 + relv v 3 * v 11 = 0 := by
  simp only [relv, crx, dot3, fo3, vc]
  simp
  grind
theorem tw2 {r0 r1 r2 : Int} (h : r0 * r2 - r1 * r1 = 0) : r0 * r0 * r2 = r0 * r1 * r1 := by grind
theorem tw3 {r0 r1 r2 r3 : Int} (h : r2 * r1 - r0 * r3 = 0) (g : r0 * r2 - r1 * r1 = 0) : r0 * r0 * r3 = r1 * r1 * r1 := by grind
theorem lin_id {r0 r1 r2 r3 : Int} {v : Nat → Int} {w : Nat} (hs : r0 * v (4 * w) + r1 * v (4 * w + 1) + r2 * v (4 * w + 2) + r3 * v (4 * w + 3) = 0) (e2 : r0 * r0 * r2 = r0 * r1 * r1) (e3 : r0 * r0 * r3 = r1 * r1 * r1) (t : Int) : r0 * r0 * r0 * pe v w t = (r0 * t - r1) * ((r0 * r0 * v (4 * w + 1) + r0 * r1 * v (4 * w + 2) + r1 * r1 * v (4 * w + 3)) + t * ((r0 * r0 * v (4 * w + 2) + r0 * r1 * v (4 * w + 3)) + t * (r0 * r0 * v (4 * w + 3)))) := by
  have h : r0 * r0 * r0 * v (4 * w) + r0 * r0 * r1 * v (4 * w + 1) + r0 * r1 * r1 * v (4 * w + 2) + r1 * r1 * r1 * v (4 * w + 3) = 0 := by
    rw [← e2, ← e3]
    have : r0 * r0 * (r0 * v (4 * w) + r1 * v (4 * w + 1) + r2 * v (4 * w + 2) + r3 * v (4 * w + 3)) = 0 := by rw [hs, Int.mul_zero]
    grind
  clear hs e2 e3
  unfold pe
  generalize v (4 * w) = x0 at *
  generalize v (4 * w + 1) = x1 at *
  generalize v (4 * w + 2) = x2 at *
  generalize v (4 * w + 3) = x3 at *
  grind
theorem kd3 {v : Nat → Int} (h : kd v = 3) : dg v = 3 ∧ ¬ rel0 v := by
  obtain ⟨f0, f1, f2⟩ := kd_facts v
  have h0 : dg v ≠ 0 := fun z => by have := f0 z; omega
  have hr : ¬ rel0 v := fun z => by have := f1 h0 z; omega
  exact ⟨by have := f2 h0 hr; omega, hr⟩
theorem kqr_nz {v : Nat → Int} (hc : copr v) (h3 : kd v = 3) : nz3 (kqr v) := by
  obtain ⟨hd, hr⟩ := kd3 h3
  intro ⟨z0, z1, z2⟩
  have q0 : relv v 1 * relv v 3 - relv v 2 * relv v 2 = 0 := z0
  have q1 : relv v 2 * relv v 1 - relv v 0 * relv v 3 = 0 := z1
  have q2 : relv v 0 * relv v 2 - relv v 1 * relv v 1 = 0 := z2
  have s0 := rel_sum0 v
  have s1 := rel_sum1 v
  have s2 := rel_sum2 v
  unfold rel0 at hr
  generalize relv v 0 = r0 at *
  generalize relv v 1 = r1 at *
  generalize relv v 2 = r2 at *
  generalize relv v 3 = r3 at *
  by_cases h0 : r0 = 0
  · subst h0
    have h1 : r1 = 0 := by
      have : r1 * r1 = 0 := by omega
      rcases Int.mul_eq_zero.mp this with q | q <;> exact q
    subst h1
    have h2 : r2 = 0 := by
      have : r2 * r2 = 0 := by omega
      rcases Int.mul_eq_zero.mp this with q | q <;> exact q
    subst h2
    have h3' : r3 ≠ 0 := fun z => hr ⟨rfl, rfl, rfl, z⟩
    have a0 : v 3 = 0 := (Int.mul_eq_zero.mp (show r3 * v 3 = 0 by omega)).resolve_left h3'
    have a1 : v 7 = 0 := (Int.mul_eq_zero.mp (show r3 * v 7 = 0 by omega)).resolve_left h3'
    have a2 : v 11 = 0 := (Int.mul_eq_zero.mp (show r3 * v 11 = 0 by omega)).resolve_left h3'
    have := dg_facts v
    have hd2 : dg v ≠ 3 := by unfold dg; rw [if_neg (fun q => q ⟨a0, a1, a2⟩)]; split <;> (try split) <;> omega
    exact hd2 hd
  · have e2 : r0 * r0 * r2 = r0 * r1 * r1 := tw2 q2
    have e3 : r0 * r0 * r3 = r1 * r1 * r1 := tw3 q1 q2
    have go : ∀ w, w < 3 → r0 * v (4 * w) + r1 * v (4 * w + 1) + r2 * v (4 * w + 2) + r3 * v (4 * w + 3) = 0 → dvP (fun t => r0 * t - r1) (pe v w) := by
      intro w hw hs
      refine ⟨r0 * r0 * r0, fun t => (r0 * r0 * v (4 * w + 1) + r0 * r1 * v (4 * w + 2) + r1 * r1 * v (4 * w + 3)) + t * ((r0 * r0 * v (4 * w + 2) + r0 * r1 * v (4 * w + 3)) + t * (r0 * r0 * v (4 * w + 3))), ?_, ⟨[r0 * r0 * v (4 * w + 1) + r0 * r1 * v (4 * w + 2) + r1 * r1 * v (4 * w + 3), r0 * r0 * v (4 * w + 2) + r0 * r1 * v (4 * w + 3), r0 * r0 * v (4 * w + 3)], fun t => by simp only [pv]; grind⟩, fun t => ?_⟩
      · intro q
        rcases Int.mul_eq_zero.mp q with q | q
        · rcases Int.mul_eq_zero.mp q with q | q <;> exact h0 q
        · exact h0 q
      · exact lin_id hs e2 e3 t
    have := hc (fun t => r0 * t - r1) ⟨[-r1, r0], fun t => by simp only [pv]; grind⟩ (go 0 (by decide) s0) (go 1 (by decide) s1) (go 2 (by decide) s2) 1
    exact h0 (by simp at this; omega)
/-- the greatest common divisor of the polynomial of THE KNOT -/
def gq (v : Nat → Int) : Int := (gcdN (kqr v) 3 : Nat)
theorem nz3_t {a : Nat → Int} (h : nz3 a) : ∃ t, t < 3 ∧ a t ≠ 0 := by
  refine Classical.byContradiction (fun q => h ⟨?_, ?_, ?_⟩)
  · exact Classical.byContradiction (fun z => q ⟨0, by decide, z⟩)
  · exact Classical.byContradiction (fun z => q ⟨1, by decide, z⟩)
  · exact Classical.byContradiction (fun z => q ⟨2, by decide, z⟩)
theorem gq_nz {v : Nat → Int} (h : nz3 (kqr v)) : gq v ≠ 0 := by
  obtain ⟨t, ht, hz⟩ := nz3_t h
  have := gcdN_pos ht hz
  unfold gq
  omega
theorem gq_kq (v : Nat → Int) : kqr v 0 = gq v * kq v 0 ∧ kqr v 1 = gq v * kq v 1 ∧ kqr v 2 = gq v * kq v 2 := by
  have e : ∀ c, c < 3 → kqr v c = gq v * kqn v c := fun c hc => (Int.mul_tdiv_cancel' (gcdN_dvd (z := kqr v) hc)).symm
  exact ⟨e 0 (by decide), e 1 (by decide), e 2 (by decide)⟩
def pm (v : Nat → Int) : Nat → Int := fun w => mnr v (2 * w)
def qm (v : Nat → Int) : Nat → Int := fun w => mnr v (2 * w + 1)
theorem pm_dot (v : Nat → Int) {m : Nat} (hm : m < 4) : dot3 (pm v) (vc v m) = -(gq v * kq v m) := by
  obtain ⟨g0, g1, g2⟩ := gq_kq v
  rcases (show m = 0 ∨ m = 1 ∨ m = 2 ∨ m = 3 by omega) with rfl | rfl | rfl | rfl
  · rw [← g0]; exact qmp0 v
  · rw [← g1]; exact qmp1 v
  · rw [← g2]; exact qmp2 v
  · rw [show kq v 3 = 0 from rfl, Int.mul_zero]; exact qmp3 v
theorem qm_dot (v : Nat → Int) {m : Nat} (hm : m < 4) : dot3 (qm v) (vc v m) = gq v * kqm v m := by
  obtain ⟨g0, g1, g2⟩ := gq_kq v
  rcases (show m = 0 ∨ m = 1 ∨ m = 2 ∨ m = 3 by omega) with rfl | rfl | rfl | rfl
  · rw [show kqm v 0 = 0 from rfl, Int.mul_zero]; exact qmq0 v
  · rw [show kqm v 1 = kq v 0 from rfl, ← g0]; exact qmq1 v
  · rw [show kqm v 2 = kq v 1 from rfl, ← g1]; exact qmq2 v
  · rw [show kqm v 3 = kq v 2 from rfl, ← g2]; exact qmq3 v
theorem det_id (F a b c : Nat → Int) {w : Nat} (hw : w < 3) : dot3 (crx a b) c * F w = dot3 F a * crx b c w + dot3 F b * crx c a w + dot3 F c * crx a b w := by
  rcases (show w = 0 ∨ w = 1 ∨ w = 2 by omega) with rfl | rfl | rfl
  · exact det_id0 F a b c
  · exact det_id1 F a b c
  · exact det_id2 F a b c
/-- the determinant by which Cramer's rule divides -/
def dtr (v : Nat → Int) : Int := match oth (fst0 (relv v) 4) with | (i, j, k) => dot3 (fo3 v i j) (vc v k)
theorem dtr_nz {v : Nat → Int} (h : ¬ rel0 v) : dtr v ≠ 0 := by
  have ht : fst0 (relv v) 4 < 4 ∧ relv v (fst0 (relv v) 4) ≠ 0 := by
    rcases fst0_facts (relv v) 4 with ⟨_, b⟩ | ⟨a, b, _⟩
    · exact absurd ⟨b 0 (by decide), b 1 (by decide), b 2 (by decide), b 3 (by decide)⟩ h
    · exact ⟨a, b⟩
  unfold dtr
  generalize fst0 (relv v) 4 = t at *
  obtain ⟨ht, hz⟩ := ht
  have sw : ∀ a b c : Nat → Int, dot3 (crx c b) a = -(dot3 (crx a b) c) := by
    intro a b c
    simp only [dot3, crx]
    grind
  intro q
  apply hz
  rcases (show t = 0 ∨ t = 1 ∨ t = 2 ∨ t = 3 by omega) with rfl | rfl | rfl | rfl
  · show dot3 (crx (vc v 3) (vc v 2)) (vc v 1) = 0
    rw [sw (vc v 1) (vc v 2) (vc v 3)]
    have : dot3 (crx (vc v 1) (vc v 2)) (vc v 3) = 0 := q
    omega
  · show -(dot3 (crx (vc v 3) (vc v 2)) (vc v 0)) = 0
    rw [sw (vc v 0) (vc v 2) (vc v 3)]
    have : dot3 (crx (vc v 0) (vc v 2)) (vc v 3) = 0 := q
    omega
  · show dot3 (crx (vc v 3) (vc v 1)) (vc v 0) = 0
    rw [sw (vc v 0) (vc v 1) (vc v 3)]
    have : dot3 (crx (vc v 0) (vc v 1)) (vc v 3) = 0 := q
    omega
  · show -(dot3 (crx (vc v 2) (vc v 1)) (vc v 0)) = 0
    rw [sw (vc v 0) (vc v 1) (vc v 2)]
    have : dot3 (crx (vc v 0) (vc v 1)) (vc v 2) = 0 := q
    omega
theorem mnr_lwr (v : Nat → Int) {c : Nat} (hc : c < 6) : dtr v * mnr v c = -(gq v) * lwr v c := by
  have o4 := oth_lt (fst0 (relv v) 4)
  unfold dtr lwr
  generalize oth (fst0 (relv v) 4) = t at *
  obtain ⟨i, j, k⟩ := t
  have hi : i < 4 := o4.1
  have hj : j < 4 := o4.2.1
  have hk : k < 4 := o4.2.2
  show dot3 (fo3 v i j) (vc v k) * mnr v c = -(gq v) * (lwa v i j k c + lwa v j k i c + lwa v k i j c)
  obtain ⟨w, hw, e⟩ : ∃ w, w < 3 ∧ (c = 2 * w ∨ c = 2 * w + 1) := ⟨c / 2, by omega, by omega⟩
  rcases e with rfl | rfl
  · have := det_id (pm v) (vc v i) (vc v j) (vc v k) hw
    rw [pm_dot v hi, pm_dot v hj, pm_dot v hk] at this
    rw [lwa_0, lwa_0, lwa_0]
    show dot3 (crx (vc v i) (vc v j)) (vc v k) * pm v w = _
    rw [this]
    unfold fo3
    grind
  · have := det_id (qm v) (vc v i) (vc v j) (vc v k) hw
    rw [qm_dot v hi, qm_dot v hj, qm_dot v hk] at this
    rw [lwa_1, lwa_1, lwa_1]
    show dot3 (crx (vc v i) (vc v j)) (vc v k) * qm v w = _
    rw [this]
    unfold fo3
    grind
theorem lw_mnr {v : Nat → Int} (hc : copr v) (h3 : kd v = 3) {c : Nat} (h : c < 6) : lw v c = td (mnr v) 6 c := by
  have h1 := gq_nz (kqr_nz hc h3)
  have h2 := dtr_nz (kd3 h3).2
  exact td_prop (z := lwr v) (z' := mnr v) (a := -(gq v)) (b := dtr v) (by omega) h2 (fun i hi => (mnr_lwr v hi).symm) h
theorem dt2_ab {m : Nat → Nat → Int} (h : ∀ r c, r < 2 → c < 2 → ab (m r c) 9) : ab (dt2 m) 162 := ab_le (ab_sub (ab_mul (h 0 0 (by decide) (by decide)) (h 1 1 (by decide) (by decide))) (ab_mul (h 1 0 (by decide) (by decide)) (h 0 1 (by decide) (by decide)))) (by decide)
theorem mnx_ab {m : Nat → Nat → Int} {N A : Nat} (h : ∀ r c, r < N + 1 → c < N + 1 → ab (m r c) A) (i : Nat) : ∀ r c, r < N → c < N → ab (mnx m i r c) A := by
  intro r c hr hc
  unfold mnx
  split
  · exact h _ _ (by omega) (by omega)
  · exact h _ _ (by omega) (by omega)
theorem dt3_ab {m : Nat → Nat → Int} (h : ∀ r c, r < 3 → c < 3 → ab (m r c) 9) : ab (dt3 m) 4374 := by
  have d : ∀ i, i < 3 → ab (m i 0 * dt2 (mnx m i)) (9 * 162) := fun i hi => ab_mul (h i 0 hi (by decide)) (dt2_ab (mnx_ab (N := 2) h i))
  exact ab_le (ab_add (ab_sub (d 0 (by decide)) (d 1 (by decide))) (d 2 (by decide))) (by decide)
theorem dt4_ab {m : Nat → Nat → Int} (h : ∀ r c, r < 4 → c < 4 → ab (m r c) 9) : ab (dt4 m) 157464 := by
  have d : ∀ i, i < 4 → ab (m i 0 * dt3 (mnx m i)) (9 * 4374) := fun i hi => ab_mul (h i 0 hi (by decide)) (dt3_ab (mnx_ab (N := 3) h i))
  exact ab_le (ab_sub (ab_add (ab_sub (d 0 (by decide)) (d 1 (by decide))) (d 2 (by decide))) (d 3 (by decide))) (by decide)
theorem dt5_ab {m : Nat → Nat → Int} (h : ∀ r c, r < 5 → c < 5 → ab (m r c) 9) : ab (dt5 m) 7085880 := by
  have d : ∀ i, i < 5 → ab (m i 0 * dt4 (mnx m i)) (9 * 157464) := fun i hi => ab_mul (h i 0 hi (by decide)) (dt4_ab (mnx_ab (N := 4) h i))
  exact ab_le (ab_add (ab_sub (ab_add (ab_sub (d 0 (by decide)) (d 1 (by decide))) (d 2 (by decide))) (d 3 (by decide))) (d 4 (by decide))) (by decide)
theorem tbl_ab {v : Nat → Int} (h : sm9 v) {r c : Nat} (hr : r < 5) (hc : c < 6) : ab (tbl v r c) 9 := by
  unfold tbl
  split
  · split
    · exact ab_i.mpr (h _ (by omega))
    · exact ab_0
  · split
    · exact ab_i.mpr (h _ (by omega))
    · exact ab_0
theorem mtx_ab {v : Nat → Int} (h : sm9 v) (c : Nat) : ∀ r j, r < 5 → j < 5 → ab (mtx v c r j) 9 := by
  intro r j hr hj
  unfold mtx
  refine tbl_ab h hr ?_
  split <;> omega
theorem mnr_ab {v : Nat → Int} (h : sm9 v) (c : Nat) : ab (mnr v c) 8000000 := by
  unfold mnr
  split
  · exact ab_le (dt5_ab (mtx_ab h c)) (by decide)
  · exact ab_neg (ab_le (dt5_ab (mtx_ab h c)) (by decide))
theorem lw_ab {v : Nat → Int} (hs : sm9 v) (hc : copr v) (h3 : kd v = 3) {c : Nat} (h : c < 6) : ab (lw v c) 8000000 := by
  rw [lw_mnr hc h3 h]
  exact tidyN_ab (mnr_ab hs c)
theorem mnr_nz {v : Nat → Int} (hc : copr v) (h3 : kd v = 3) : ∃ t, t < 6 ∧ mnr v t ≠ 0 := by
  refine Classical.byContradiction (fun q => ?_)
  have z : ∀ t, t < 6 → mnr v t = 0 := fun t ht => Classical.byContradiction (fun p => q ⟨t, ht, p⟩)
  obtain ⟨t, ht, hz⟩ := nz3_t (kqr_nz hc h3)
  have := pm_dot v (show t < 4 by omega)
  have e : dot3 (pm v) (vc v t) = 0 := by
    show mnr v 0 * _ + mnr v 2 * _ + mnr v 4 * _ = 0
    rw [z 0 (by decide), z 2 (by decide), z 4 (by decide)]
    simp
  obtain ⟨g0, g1, g2⟩ := gq_kq v
  have : kqr v t = 0 := by
    rcases (show t = 0 ∨ t = 1 ∨ t = 2 by omega) with rfl | rfl | rfl
    · rw [g0]; omega
    · rw [g1]; omega
    · rw [g2]; omega
  exact hz this
theorem td_scale {z : Nat → Int} {N t : Nat} (ht : t < N) (h : z t ≠ 0) : ∃ a : Int, a ≠ 0 ∧ ∀ i, i < N → z i = a * td z N i := by
  have hg := gcdN_pos ht h
  by_cases q : (z (fst0 z N)).tdiv (gcdN z N) < 0
  · refine ⟨-(gcdN z N : Int), by omega, fun i hi => ?_⟩
    unfold td; rw [tidy_neg q]
    show _ = _ * -((z i).tdiv (gcdN z N))
    have := Int.mul_tdiv_cancel' (gcdN_dvd (z := z) hi)
    grind
  · refine ⟨(gcdN z N : Int), by omega, fun i hi => ?_⟩
    unfold td; rw [tidy_pos q]
    show _ = _ * ((z i).tdiv (gcdN z N))
    have := Int.mul_tdiv_cancel' (gcdN_dvd (z := z) hi)
    grind
