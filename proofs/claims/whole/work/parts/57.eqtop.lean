/-! PURE: the highest part of THE EQUATION isn't 0 -/
def Ms (e a : Nat → Int) : Nat → Int
  | 0 => 2 * e 4 * a 0 + e 5 * a 1 + e 7 * a 2
  | 1 => e 5 * a 0 + 2 * e 6 * a 1 + e 8 * a 2
  | 2 => e 7 * a 0 + e 8 * a 1 + 2 * e 9 * a 2
  | _ => 0
def Bs (e v : Nat → Int) (i j : Nat) : Int := dot3 (Ms e (vc v i)) (vc v j)
theorem Bs_sym (e v : Nat → Int) (i j : Nat) : Bs e v i j = Bs e v j i := by
  simp only [Bs, dot3, Ms]
  grind
theorem ev2_pv (e v : Nat → Int) (t : Int) : 2 * ev2 e (cvv v 1 t (t * t) (t * t * t)) = pv [Bs e v 0 0, 2 * Bs e v 0 1, 2 * Bs e v 0 2 + Bs e v 1 1, 2 * Bs e v 0 3 + 2 * Bs e v 1 2, 2 * Bs e v 1 3 + Bs e v 2 2, 2 * Bs e v 2 3, Bs e v 3 3] t := by
  simp only [pv, ev2, cvv, Bs, dot3, Ms]
  grind
theorem rel_lin (F v : Nat → Int) : relv v 0 * dot3 F (vc v 0) + relv v 1 * dot3 F (vc v 1) + relv v 2 * dot3 F (vc v 2) + relv v 3 * dot3 F (vc v 3) = 0 := by
  have s0 := rel_sum0 v
  have s1 := rel_sum1 v
  have s2 := rel_sum2 v
  show relv v 0 * (F 0 * v 0 + F 1 * v 4 + F 2 * v 8) + relv v 1 * (F 0 * v 1 + F 1 * v 5 + F 2 * v 9) + relv v 2 * (F 0 * v 2 + F 1 * v 6 + F 2 * v 10) + relv v 3 * (F 0 * v 3 + F 1 * v 7 + F 2 * v 11) = 0
  generalize relv v 0 = r0 at *
  generalize relv v 1 = r1 at *
  generalize relv v 2 = r2 at *
  generalize relv v 3 = r3 at *
  have : F 0 * (r0 * v 0 + r1 * v 1 + r2 * v 2 + r3 * v 3) + F 1 * (r0 * v 4 + r1 * v 5 + r2 * v 6 + r3 * v 7) + F 2 * (r0 * v 8 + r1 * v 9 + r2 * v 10 + r3 * v 11) = 0 := by rw [s0, s1, s2]; simp
  grind
theorem abc_z {r0 r1 r2 r3 a b c : Int} (h0 : r2 * a + r3 * b = 0) (h1 : -(2 * (r1 * a)) - r2 * b + r3 * c = 0) (h2 : r0 * a - r1 * b - 2 * (r2 * c) = 0) (h3 : r0 * b + r1 * c = 0) (hq : ¬ (r1 * r3 - r2 * r2 = 0 ∧ r2 * r1 - r0 * r3 = 0 ∧ r0 * r2 - r1 * r1 = 0)) : a = 0 ∧ b = 0 ∧ c = 0 := by
  have key : ∀ x : Int, x = a ∨ x = b ∨ x = c → (r1 * r3 - r2 * r2) * (r1 * r3 - r2 * r2) * x = 0 ∧ (r0 * r2 - r1 * r1) * (r0 * r2 - r1 * r1) * x = 0 ∧ ((r2 * r1 - r0 * r3) * (r2 * r1 - r0 * r3) + 2 * ((r1 * r3 - r2 * r2) * (r0 * r2 - r1 * r1))) * x = 0 := by
    intro x hx
    clear hq
    rcases hx with rfl | rfl | rfl
    · refine ⟨?_, ?_, ?_⟩ <;> grind
    · refine ⟨?_, ?_, ?_⟩ <;> grind
    · refine ⟨?_, ?_, ?_⟩ <;> grind
  clear h0 h1 h2 h3
  have fin : ∀ x : Int, x = a ∨ x = b ∨ x = c → x = 0 := by
    intro x hx
    obtain ⟨k0, k2, k1⟩ := key x hx
    generalize r1 * r3 - r2 * r2 = q0 at *
    generalize r2 * r1 - r0 * r3 = q1 at *
    generalize r0 * r2 - r1 * r1 = q2 at *
    by_cases z0 : q0 = 0
    · by_cases z2 : q2 = 0
      · subst z0; subst z2
        have z1 : q1 ≠ 0 := fun z => hq ⟨rfl, z, rfl⟩
        have k1' : q1 * q1 * x = 0 := by simpa using k1
        rcases Int.mul_eq_zero.mp k1' with q | q
        · rcases Int.mul_eq_zero.mp q with q | q <;> exact absurd q z1
        · exact q
      · rcases Int.mul_eq_zero.mp k2 with q | q
        · rcases Int.mul_eq_zero.mp q with q | q <;> exact absurd q z2
        · exact q
    · rcases Int.mul_eq_zero.mp k0 with q | q
      · rcases Int.mul_eq_zero.mp q with q | q <;> exact absurd q z0
      · exact q
  exact ⟨fin a (Or.inl rfl), fin b (Or.inr (Or.inl rfl)), fin c (Or.inr (Or.inr rfl))⟩
theorem flat_z {v F : Nat → Int} (hr : ¬ rel0 v) (h : ∀ k, k < 4 → dot3 F (vc v k) = 0) : F 0 = 0 ∧ F 1 = 0 ∧ F 2 = 0 := by
  refine Classical.byContradiction (fun q => hr (flat_rel (F := F) q h))
theorem plain_w {v : Nat → Int} (h : plain v) : ¬ (v 8 = 0 ∧ v 9 = 0 ∧ v 10 = 0 ∧ v 11 = 0) := by
  obtain ⟨_, ⟨k, hk, hp, _⟩, _⟩ := h
  intro ⟨a, b, c, d⟩
  rcases (show k = 0 ∨ k = 1 ∨ k = 2 ∨ k = 3 by omega) with rfl | rfl | rfl | rfl
  · simp only [Nat.reduceAdd, Nat.add_zero] at hp; omega
  · simp only [Nat.reduceAdd] at hp; omega
  · simp only [Nat.reduceAdd] at hp; omega
  · simp only [Nat.reduceAdd] at hp; omega
theorem eq_top3 {v : Nat → Int} (hp : plain v) (h3 : kd v = 3) : ¬ (eqr v 0 = 0 ∧ eqr v 1 = 0 ∧ eqr v 2 = 0 ∧ eqr v 3 = 0) := by
  intro ⟨e0, e1, e2, e3⟩
  have hr := (kd3 h3).2
  have hn := eqr3_nz hp.2.2 h3
  have hon : ∀ t, pv [v 8, v 9, v 10, v 11] t * pv [Bs (eqr v) v 0 0, 2 * Bs (eqr v) v 0 1, 2 * Bs (eqr v) v 0 2 + Bs (eqr v) v 1 1, 2 * Bs (eqr v) v 0 3 + 2 * Bs (eqr v) v 1 2, 2 * Bs (eqr v) v 1 3 + Bs (eqr v) v 2 2, 2 * Bs (eqr v) v 2 3, Bs (eqr v) v 3 3] t = 0 := by
    intro t
    rw [← ev2_pv]
    have h := ev3_cv h3 1 t (t * t) (t * t * t)
    rw [gcv_on] at h
    have hw : pv [v 8, v 9, v 10, v 11] t = cvv v 1 t (t * t) (t * t * t) 2 := by
      simp only [pv, cvv, vc]
      grind
    rw [hw]
    generalize cvv v 1 t (t * t) (t * t * t) = P at *
    unfold ev3 at h
    rw [e0, e1, e2, e3] at h
    unfold ev2
    grind
  rcases pv_prod hon with q | q
  · exact plain_w hp ⟨q _ (by simp), q _ (by simp), q _ (by simp), q _ (by simp)⟩
  · have b00 := q (Bs (eqr v) v 0 0) (by simp)
    have b01 := q (2 * Bs (eqr v) v 0 1) (by simp)
    have b11 := q (2 * Bs (eqr v) v 0 2 + Bs (eqr v) v 1 1) (by simp)
    have b12 := q (2 * Bs (eqr v) v 0 3 + 2 * Bs (eqr v) v 1 2) (by simp)
    have b22 := q (2 * Bs (eqr v) v 1 3 + Bs (eqr v) v 2 2) (by simp)
    have b23 := q (2 * Bs (eqr v) v 2 3) (by simp)
    have b33 := q (Bs (eqr v) v 3 3) (by simp)
    clear q hon
    have l0 := rel_lin (Ms (eqr v) (vc v 0)) v
    have l1 := rel_lin (Ms (eqr v) (vc v 1)) v
    have l2 := rel_lin (Ms (eqr v) (vc v 2)) v
    have l3 := rel_lin (Ms (eqr v) (vc v 3)) v
    have y10 := Bs_sym (eqr v) v 1 0
    have y20 := Bs_sym (eqr v) v 2 0
    have y21 := Bs_sym (eqr v) v 2 1
    have y30 := Bs_sym (eqr v) v 3 0
    have y31 := Bs_sym (eqr v) v 3 1
    have y32 := Bs_sym (eqr v) v 3 2
    have l0' : relv v 0 * Bs (eqr v) v 0 0 + relv v 1 * Bs (eqr v) v 0 1 + relv v 2 * Bs (eqr v) v 0 2 + relv v 3 * Bs (eqr v) v 0 3 = 0 := l0
    have l1' : relv v 0 * Bs (eqr v) v 1 0 + relv v 1 * Bs (eqr v) v 1 1 + relv v 2 * Bs (eqr v) v 1 2 + relv v 3 * Bs (eqr v) v 1 3 = 0 := l1
    have l2' : relv v 0 * Bs (eqr v) v 2 0 + relv v 1 * Bs (eqr v) v 2 1 + relv v 2 * Bs (eqr v) v 2 2 + relv v 3 * Bs (eqr v) v 2 3 = 0 := l2
    have l3' : relv v 0 * Bs (eqr v) v 3 0 + relv v 1 * Bs (eqr v) v 3 1 + relv v 2 * Bs (eqr v) v 3 2 + relv v 3 * Bs (eqr v) v 3 3 = 0 := l3
    have hq := kqr_nz hp.2.2 h3
    have z : Bs (eqr v) v 0 2 = 0 ∧ Bs (eqr v) v 0 3 = 0 ∧ Bs (eqr v) v 1 3 = 0 := by
      rw [y10] at l1'
      rw [y20, y21] at l2'
      rw [y30, y31, y32] at l3'
      have x01 : Bs (eqr v) v 0 1 = 0 := by omega
      have x11 : Bs (eqr v) v 1 1 = -(2 * Bs (eqr v) v 0 2) := by omega
      have x12 : Bs (eqr v) v 1 2 = -(Bs (eqr v) v 0 3) := by omega
      have x22 : Bs (eqr v) v 2 2 = -(2 * Bs (eqr v) v 1 3) := by omega
      have x23 : Bs (eqr v) v 2 3 = 0 := by omega
      rw [b00, x01] at l0'
      rw [x01, x11, x12] at l1'
      rw [x12, x22, x23] at l2'
      rw [x23, b33] at l3'
      refine abc_z (r0 := relv v 0) (r1 := relv v 1) (r2 := relv v 2) (r3 := relv v 3) ?_ ?_ ?_ ?_ (fun w => hq ⟨w.1, w.2.1, w.2.2⟩)
      · simpa using l0'
      · generalize relv v 1 = r1 at *
        generalize Bs (eqr v) v 0 2 = a at *
        grind
      · generalize relv v 2 = r2 at *
        generalize Bs (eqr v) v 1 3 = a at *
        grind
      · simpa using l3'
    obtain ⟨za, zb, zc⟩ := z
    have all : ∀ i j, i < 4 → j < 4 → dot3 (Ms (eqr v) (vc v i)) (vc v j) = 0 := by
      intro i j hi hj
      show Bs (eqr v) v i j = 0
      rcases (show i = 0 ∨ i = 1 ∨ i = 2 ∨ i = 3 by omega) with rfl | rfl | rfl | rfl <;> rcases (show j = 0 ∨ j = 1 ∨ j = 2 ∨ j = 3 by omega) with rfl | rfl | rfl | rfl <;> omega
    have ms := fun i (hi : i < 4) => flat_z (F := Ms (eqr v) (vc v i)) hr (fun k hk => all i k hi hk)
    have r0 := flat_z (F := fun w => match w with | 0 => 2 * eqr v 4 | 1 => eqr v 5 | _ => eqr v 7) hr (fun k hk => (ms k hk).1)
    have r1 := flat_z (F := fun w => match w with | 0 => eqr v 5 | 1 => 2 * eqr v 6 | _ => eqr v 8) hr (fun k hk => (ms k hk).2.1)
    have r2 := flat_z (F := fun w => match w with | 0 => eqr v 7 | 1 => eqr v 8 | _ => 2 * eqr v 9) hr (fun k hk => (ms k hk).2.2)
    have d0 : 2 * eqr v 4 = 0 ∧ eqr v 5 = 0 ∧ eqr v 7 = 0 := r0
    have d1 : eqr v 5 = 0 ∧ 2 * eqr v 6 = 0 ∧ eqr v 8 = 0 := r1
    have d2 : eqr v 7 = 0 ∧ eqr v 8 = 0 ∧ 2 * eqr v 9 = 0 := r2
    refine hn (fun p hp => ?_)
    rcases (show p = 0 ∨ p = 1 ∨ p = 2 ∨ p = 3 ∨ p = 4 ∨ p = 5 ∨ p = 6 ∨ p = 7 ∨ p = 8 ∨ p = 9 by omega) with rfl | rfl | rfl | rfl | rfl | rfl | rfl | rfl | rfl | rfl <;> omega
theorem kd2 {v : Nat → Int} (h : kd v = 2) : dg v = 2 ∧ ¬ rel0 v ∧ v 3 = 0 ∧ v 7 = 0 ∧ v 11 = 0 := by
  obtain ⟨f0, f1, f2⟩ := kd_facts v
  have h0 : dg v ≠ 0 := fun z => by have := f0 z; omega
  have hr : ¬ rel0 v := fun z => by have := f1 h0 z; omega
  have hd : dg v = 2 := by have := f2 h0 hr; omega
  have hg := dg_facts v
  exact ⟨hd, hr, by omega, by omega, by omega⟩
theorem eq_top2 {v : Nat → Int} (hp : plain v) (h2 : kd v = 2) : ¬ (eqr v 4 = 0 ∧ eqr v 5 = 0 ∧ eqr v 6 = 0) := by
  intro ⟨e4, e5, e6⟩
  obtain ⟨hd, hr, v3, v7, v11⟩ := kd2 h2
  have cv : ∀ c0 c1 c2, ev2 (eqr v) (cvv v c0 c1 c2 0) = relv v 3 * relv v 3 * (c0 * c2 - c1 * c1) := by
    intro c0 c1 c2
    rw [ev2_eq h2, f10_cv, f21_cv, f20_cv]
    grind
  have hon : ∀ t, pv [v 8, v 9, v 10] t * pv [dot3 (fun w => eqr v (7 + w)) (vc v 0), dot3 (fun w => eqr v (7 + w)) (vc v 1), dot3 (fun w => eqr v (7 + w)) (vc v 2)] t = 0 := by
    intro t
    have h := cv 1 t (t * t)
    have hw : pv [v 8, v 9, v 10] t = cvv v 1 t (t * t) 0 2 := by
      simp only [pv, cvv, vc]
      grind
    have hl : pv [dot3 (fun w => eqr v (7 + w)) (vc v 0), dot3 (fun w => eqr v (7 + w)) (vc v 1), dot3 (fun w => eqr v (7 + w)) (vc v 2)] t = eqr v 7 * cvv v 1 t (t * t) 0 0 + eqr v 8 * cvv v 1 t (t * t) 0 1 + eqr v 9 * cvv v 1 t (t * t) 0 2 := by
      simp only [pv, cvv, dot3]
      grind
    rw [hw, hl]
    unfold ev2 at h
    rw [e4, e5, e6] at h
    generalize cvv v 1 t (t * t) 0 = P at *
    grind
  rcases pv_prod hon with q | q
  · exact plain_w hp ⟨q _ (by simp), q _ (by simp), q _ (by simp), v11⟩
  · have l := flat_z (F := fun w => eqr v (7 + w)) hr (fun k hk => by
      rcases (show k = 0 ∨ k = 1 ∨ k = 2 ∨ k = 3 by omega) with rfl | rfl | rfl | rfl
      · exact q _ (by simp)
      · exact q _ (by simp)
      · exact q _ (by simp)
      · show eqr v 7 * v 3 + eqr v 8 * v 7 + eqr v 9 * v 11 = 0
        rw [v3, v7, v11]; simp)
    obtain ⟨e7, e8, e9⟩ := l
    have e7' : eqr v 7 = 0 := e7
    have e8' : eqr v 8 = 0 := e8
    have e9' : eqr v 9 = 0 := e9
    have h := cv 0 1 0
    unfold ev2 at h
    rw [e4, e5, e6, e7', e8', e9'] at h
    have r3 : relv v 3 = 0 := by
      have : relv v 3 * relv v 3 = 0 := by grind
      rcases Int.mul_eq_zero.mp this with q | q <;> exact q
    refine hr ⟨?_, ?_, ?_, r3⟩
    · simp only [relv, fo3, dot3, crx, vc, Nat.reduceMul, Nat.reduceAdd, v3, v7, v11]; simp
    · simp only [relv, fo3, dot3, crx, vc, Nat.reduceMul, Nat.reduceAdd, v3, v7, v11]; simp
    · simp only [relv, fo3, dot3, crx, vc, Nat.reduceMul, Nat.reduceAdd, v3, v7, v11]; simp
theorem eq_low2 {v : Nat → Int} (h2 : kd v = 2) {p : Nat} (hp : p < 4) : eqr v p = 0 := by
  rw [eqr_2 h2]
  have a := pr3_low (fo3 v 1 0) (fo3 v 2 1)
  have b := pr3_low (fo3 v 2 0) (fo3 v 2 0)
  rcases (show p = 0 ∨ p = 1 ∨ p = 2 ∨ p = 3 by omega) with rfl | rfl | rfl | rfl <;> omega
theorem fo3_sw (v : Nat → Int) (i j c : Nat) : fo3 v i j c = -(fo3 v j i c) := by
  unfold fo3
  match c with
  | 0 => simp only [crx]; grind
  | 1 => simp only [crx]; grind
  | 2 => simp only [crx]; grind
  | _ + 3 => rfl
theorem nz3_sw {v : Nat → Int} {i j : Nat} : nz3 (fo3 v i j) ↔ nz3 (fo3 v j i) := by
  unfold nz3
  rw [fo3_sw v i j 0, fo3_sw v i j 1, fo3_sw v i j 2]
  constructor
  · intro h q; exact h ⟨by omega, by omega, by omega⟩
  · intro h q; exact h ⟨by omega, by omega, by omega⟩
theorem ff_first {v : Nat → Int} {i j : Nat} (h : firstP v (dg v) i j) : ff3 v = fo3 v j i := by
  have hd := dg_le v
  have hg := dg_facts v
  obtain ⟨hij, hj, hnz, hbef⟩ := h
  have hz : ∀ a b, a < b → b < 4 → (a < i ∨ (a = i ∧ b < j)) → ¬ nz3 (fo3 v b a) := by
    intro a b hab hb ho
    rw [nz3_sw]
    rcases Nat.lt_or_ge (dg v) b with q | q
    · intro hn
      apply hn
      have z : ∀ w, w < 3 → vc v b w = 0 := by
        intro w hw
        show v (4 * w + b) = 0
        rcases (show w = 0 ∨ w = 1 ∨ w = 2 by omega) with rfl | rfl | rfl <;> rcases (show b = 1 ∨ b = 2 ∨ b = 3 by omega) with rfl | rfl | rfl <;> simp only [Nat.mul_zero, Nat.zero_add, Nat.mul_one, Nat.reduceMul, Nat.reduceAdd] <;> omega
      have z0 := z 0 (by decide); have z1 := z 1 (by decide); have z2 := z 2 (by decide)
      refine ⟨?_, ?_, ?_⟩ <;> simp only [fo3, crx, z0, z1, z2] <;> simp
    · exact hbef a b hab q ho
  have hnz' : nz3 (fo3 v j i) := nz3_sw.mp hnz
  have n10 : (0 < i ∨ (0 = i ∧ 1 < j)) → ¬ nz3 (fo3 v 1 0) := hz 0 1 (by decide) (by decide)
  have n20 : (0 < i ∨ (0 = i ∧ 2 < j)) → ¬ nz3 (fo3 v 2 0) := hz 0 2 (by decide) (by decide)
  have n30 : (0 < i ∨ (0 = i ∧ 3 < j)) → ¬ nz3 (fo3 v 3 0) := hz 0 3 (by decide) (by decide)
  have n21 : (1 < i ∨ (1 = i ∧ 2 < j)) → ¬ nz3 (fo3 v 2 1) := hz 1 2 (by decide) (by decide)
  have n31 : (1 < i ∨ (1 = i ∧ 3 < j)) → ¬ nz3 (fo3 v 3 1) := hz 1 3 (by decide) (by decide)
  unfold ff3
  unfold nz3 at n10 n20 n30 n21 n31 hnz'
  rcases (show (i = 0 ∧ j = 1) ∨ (i = 0 ∧ j = 2) ∨ (i = 0 ∧ j = 3) ∨ (i = 1 ∧ j = 2) ∨ (i = 1 ∧ j = 3) ∨ (i = 2 ∧ j = 3) by omega) with ⟨rfl, rfl⟩ | ⟨rfl, rfl⟩ | ⟨rfl, rfl⟩ | ⟨rfl, rfl⟩ | ⟨rfl, rfl⟩ | ⟨rfl, rfl⟩
  · rw [if_pos hnz']
  · rw [if_neg (n10 (by decide)), if_pos hnz']
  · rw [if_neg (n10 (by decide)), if_neg (n20 (by decide)), if_pos hnz']
  · rw [if_neg (n10 (by decide)), if_neg (n20 (by decide)), if_neg (n30 (by decide)), if_pos hnz']
  · rw [if_neg (n10 (by decide)), if_neg (n20 (by decide)), if_neg (n30 (by decide)), if_neg (n21 (by decide)), if_pos hnz']
  · rw [if_neg (n10 (by decide)), if_neg (n20 (by decide)), if_neg (n30 (by decide)), if_neg (n21 (by decide)), if_neg (n31 (by decide)), if_pos hnz']
theorem ff_nz {v : Nat → Int} (hc : copr v) (h1 : kd v = 1) : nz3 (ff3 v) := by
  obtain ⟨f0, f1, f2⟩ := kd_facts v
  have hd := dg_le v
  have h0 : dg v ≠ 0 := fun z => by have := f0 z; omega
  obtain ⟨a, b, hab, hb, hn⟩ := par_no hc (by omega : 0 < dg v)
  have hn' := nz3_sw.mp hn
  have pk : ∀ (c : Prop) [Decidable c] (x y : Nat → Int), (c → nz3 x) → (¬ c → nz3 y) → nz3 (if c then x else y) := by
    intro c _ x y h1 h2
    split
    · exact h1 ‹_›
    · exact h2 ‹_›
  unfold ff3
  refine pk _ _ _ (fun z => z) (fun z10 => pk _ _ _ (fun z => z) (fun z20 => pk _ _ _ (fun z => z) (fun z30 => pk _ _ _ (fun z => z) (fun z21 => pk _ _ _ (fun z => z) (fun z31 => pk _ _ _ (fun z => z) (fun z32 => ?_))))))
  exfalso
  rcases (show (a = 0 ∧ b = 1) ∨ (a = 0 ∧ b = 2) ∨ (a = 0 ∧ b = 3) ∨ (a = 1 ∧ b = 2) ∨ (a = 1 ∧ b = 3) ∨ (a = 2 ∧ b = 3) by omega) with ⟨rfl, rfl⟩ | ⟨rfl, rfl⟩ | ⟨rfl, rfl⟩ | ⟨rfl, rfl⟩ | ⟨rfl, rfl⟩ | ⟨rfl, rfl⟩
  · exact z10 hn'
  · exact z20 hn'
  · exact z30 hn'
  · exact z21 hn'
  · exact z31 hn'
  · exact z32 hn'
theorem eq_top1 {v : Nat → Int} (hc : copr v) (h1 : kd v = 1) : (∀ p, p < 7 → eqr v p = 0) ∧ ¬ (eqr v 7 = 0 ∧ eqr v 8 = 0 ∧ eqr v 9 = 0) := by
  have e := eqr_1 h1
  have o := pr3_one (ff3 v)
  refine ⟨fun p hp => by rw [e]; exact o.1 p hp, fun q => ff_nz hc h1 ?_⟩
  rw [e, e, e, o.2.1, o.2.2.1, o.2.2.2] at q
  exact q
/-- THE EQUATION of a LINE that is no POINT isn't 0 -/
theorem eqr_nz {v : Nat → Int} (hp : plain v) (h : kd v ≠ 0) : ∃ p, p < 10 ∧ eqr v p ≠ 0 := by
  have hk := kd_le v
  refine Classical.byContradiction (fun q => ?_)
  have z : ∀ p, p < 10 → eqr v p = 0 := fun p hp => Classical.byContradiction (fun w => q ⟨p, hp, w⟩)
  rcases (show kd v = 1 ∨ kd v = 2 ∨ kd v = 3 by omega) with k | k | k
  · exact (eq_top1 hp.2.2 k).2 ⟨z 7 (by decide), z 8 (by decide), z 9 (by decide)⟩
  · exact eq_top2 hp k ⟨z 4 (by decide), z 5 (by decide), z 6 (by decide)⟩
  · exact eq_top3 hp k ⟨z 0 (by decide), z 1 (by decide), z 2 (by decide), z 3 (by decide)⟩
/-- LINES that have the same EQUATION are of one KIND -/
theorem eqn_kd {v u : Nat → Int} (hv : plain v) (hu : plain u) (h : ∀ p, p < 10 → eqn v p = eqn u p) : kd v = kd u := by
  have zz : ∀ p, p < 10 → (eqr v p = 0 ↔ eqr u p = 0) := by
    intro p hp
    rw [← td_z3 (z := eqr v) hp, ← td_z3 (z := eqr u) hp]
    have : td (eqr v) 10 p = td (eqr u) 10 p := h p hp
    rw [this]
  have key : ∀ (a b : Nat → Int), plain a → plain b → (∀ p, p < 10 → (eqr a p = 0 ↔ eqr b p = 0)) → ¬ kd a < kd b := by
    intro a b ha hb z hlt
    have hk := kd_le b
    rcases (show kd b = 1 ∨ kd b = 2 ∨ kd b = 3 by omega) with k | k | k
    · have k0 : kd a = 0 := by omega
      exact (eq_top1 hb.2.2 k).2 ⟨(z 7 (by decide)).mp (eqr_0 k0 7), (z 8 (by decide)).mp (eqr_0 k0 8), (z 9 (by decide)).mp (eqr_0 k0 9)⟩
    · have lo : ∀ p, p < 7 → eqr a p = 0 := by
        intro p hp
        rcases (show kd a = 0 ∨ kd a = 1 by omega) with k0 | k0
        · exact eqr_0 k0 p
        · exact (eq_top1 ha.2.2 k0).1 p hp
      exact eq_top2 hb k ⟨(z 4 (by decide)).mp (lo 4 (by decide)), (z 5 (by decide)).mp (lo 5 (by decide)), (z 6 (by decide)).mp (lo 6 (by decide))⟩
    · have lo : ∀ p, p < 4 → eqr a p = 0 := by
        intro p hp
        rcases (show kd a = 0 ∨ kd a = 1 ∨ kd a = 2 by omega) with k0 | k0 | k0
        · exact eqr_0 k0 p
        · exact (eq_top1 ha.2.2 k0).1 p (by omega)
        · exact eq_low2 k0 hp
      exact eq_top3 hb k ⟨(z 0 (by decide)).mp (lo 0 (by decide)), (z 1 (by decide)).mp (lo 1 (by decide)), (z 2 (by decide)).mp (lo 2 (by decide)), (z 3 (by decide)).mp (lo 3 (by decide))⟩
  have h1 := key v u hv hu zz
  have h2 := key u v hu hv (fun p hp => (zz p hp).symm)
  omega
