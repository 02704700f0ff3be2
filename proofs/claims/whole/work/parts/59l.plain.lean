/-! PURE: PLAIN shares: what they are, that they are one; the class finds them -/
def zw (z : Nat → Int) (w : Nat) : Nat → Int := fun k => z (4 * w + k)
def topW (v : Nat → Int) : Prop := ∃ t, 8 ≤ t ∧ t < 12 ∧ 0 < v t ∧ ∀ j, t < j → j < 12 → v j = 0
/-- v are the shares z, PLAIN -/
def isPl (z v : Nat → Int) : Prop := ∃ (G : Nat → Int) (c : Int), gcdN G 4 = 1 ∧ c ≠ 0 ∧ (∀ k, isP k → (∀ w, w < 3 → dvP k (e4 (zw z w))) → dvP k (e4 G)) ∧ (∀ w, w < 3 → ∀ t, e4 (zw z w) t = c * (e4 G t * e4 (zw v w) t)) ∧ gcdN v 12 = 1 ∧ topW v
theorem tidy_sc {z : Nat → Int} {N t : Nat} (ht : t < N) (h : z t ≠ 0) : ∃ c : Int, c ≠ 0 ∧ (∀ i, i < N → z i = c * tidyN z N t i) ∧ gcdN (tidyN z N t) N = 1 ∧ 0 < tidyN z N t t := by
  have hg := gcdN_pos ht h
  have key : ∃ c : Int, c.natAbs = gcdN z N ∧ (∀ i, i < N → z i = c * tidyN z N t i) ∧ 0 < tidyN z N t t := by
    have hne : (z t).tdiv (gcdN z N) ≠ 0 := fun q => h ((tdiv_z ht).mp q)
    by_cases q : (z t).tdiv (gcdN z N) < 0
    · refine ⟨-(gcdN z N : Int), by omega, fun i hi => ?_, ?_⟩
      · rw [tidy_neg q]
        show _ = _ * -((z i).tdiv (gcdN z N))
        have := Int.mul_tdiv_cancel' (gcdN_dvd (z := z) hi)
        grind
      · rw [tidy_neg q]
        show 0 < -((z t).tdiv (gcdN z N))
        omega
    · refine ⟨(gcdN z N : Int), by omega, fun i hi => ?_, ?_⟩
      · rw [tidy_pos q]
        show _ = _ * ((z i).tdiv (gcdN z N))
        have := Int.mul_tdiv_cancel' (gcdN_dvd (z := z) hi)
        grind
      · rw [tidy_pos q]
        show 0 < (z t).tdiv (gcdN z N)
        omega
  obtain ⟨c, hc, e, p⟩ := key
  refine ⟨c, fun q => by rw [q] at hc; simp at hc; omega, e, ?_, p⟩
  have e2 := gcdN_congr e
  rw [gcdN_mul, hc] at e2
  exact (Nat.eq_of_mul_eq_mul_left hg (show gcdN z N * 1 = gcdN z N * gcdN (tidyN z N t) N by omega)).symm
theorem topW_t {v : Nat → Int} {t : Nat} (h : topW v) (h8 : 8 ≤ t) (ht : t < 12) (hn : v t ≠ 0) (hz : ∀ j, t < j → j < 12 → v j = 0) : 0 < v t := by
  obtain ⟨s, s8, s12, sp, sz⟩ := h
  rcases Nat.lt_trichotomy s t with q | q | q
  · exact absurd (sz t q ht) hn
  · rw [← q]; exact sp
  · have := hz s q s12; omega
theorem prod_dv {z v G : Nat → Int} {c : Int} {w : Nat} (hc : c ≠ 0) (h : ∀ t, e4 (zw z w) t = c * (e4 G t * e4 (zw v w) t)) : dvP (e4 G) (e4 (zw z w)) := ⟨1, fun t => c * e4 (zw v w) t, by decide, isP_cm c (isP_e4 _), fun t => by rw [h t]; grind⟩
theorem isPl_uniq {z v v' : Nat → Int} (h : isPl z v) (h' : isPl z v') : ∀ i, i < 12 → v i = v' i := by
  obtain ⟨G, c, hG, hc, hD, hz, hg, ht⟩ := h
  obtain ⟨G', c', hG', hc', hD', hz', hg', ht'⟩ := h'
  have d1 : dvP (e4 G) (e4 G') := hD' _ (isP_e4 G) (fun w hw => prod_dv hc (hz w hw))
  have d2 : dvP (e4 G') (e4 G) := hD _ (isP_e4 G') (fun w hw => prod_dv hc' (hz' w hw))
  obtain ⟨s, hs, es⟩ := dv_uniq hG hG' d1 d2
  have es4 : ∀ t, e4 G' t = s * e4 G t := fun t => e4_cm es t
  obtain ⟨i, hi, hGi⟩ := prim_nz hG
  obtain ⟨T, hT⟩ := e4_big hi hGi
  have co : ∀ w, w < 3 → ∀ k, k < 4 → c * zw v w k = (c' * s) * zw v' w k := by
    intro w hw
    -- the difference has a value 0 at every great number
    have z0 : ∀ k, k < 4 → (fun k => c * zw v w k - (c' * s) * zw v' w k) k = 0 := by
      intro k hk
      refine Classical.byContradiction (fun hn => ?_)
      obtain ⟨U, hU⟩ := e4_big (p := fun k => c * zw v w k - (c' * s) * zw v' w k) hk hn
      have t1 := hT (T + U + 1) (by omega)
      have t2 := hU (T + U + 1) (by omega)
      apply t2
      have a := hz w hw (T + U + 1)
      have b := hz' w hw (T + U + 1)
      rw [es4] at b
      have e1 : e4 (fun k => c * zw v w k - (c' * s) * zw v' w k) (T + U + 1) = c * e4 (zw v w) (T + U + 1) - (c' * s) * e4 (zw v' w) (T + U + 1) := by
        unfold e4
        grind
      rw [e1]
      have e2 : e4 G (T + U + 1) * (c * e4 (zw v w) (T + U + 1) - (c' * s) * e4 (zw v' w) (T + U + 1)) = 0 := by
        have : e4 G (T + U + 1) * (c * e4 (zw v w) (T + U + 1)) = e4 G (T + U + 1) * ((c' * s) * e4 (zw v' w) (T + U + 1)) := by
          generalize e4 G (T + U + 1) = x at *
          generalize e4 (zw v w) (T + U + 1) = y at *
          generalize e4 (zw v' w) (T + U + 1) = y' at *
          generalize e4 (zw z w) (T + U + 1) = zz at *
          have : x * (c * y) = c * (x * y) := by grind
          rw [this, ← a, b]
          grind
        rw [Int.mul_sub, this]
        omega
      exact (Int.mul_eq_zero.mp e2).resolve_left t1
    intro k hk
    have := z0 k hk
    have : c * zw v w k - (c' * s) * zw v' w k = 0 := this
    omega
  have co12 : ∀ i, i < 12 → c * v i = (c' * s) * v' i := by
    intro i hi
    have := co (i / 4) (by omega) (i % 4) (by omega)
    unfold zw at this
    rw [show 4 * (i / 4) + i % 4 = i by omega] at this
    exact this
  have g1 := gcdN_congr co12
  rw [gcdN_mul, gcdN_mul, hg, hg', Nat.mul_one, Nat.mul_one] at g1
  have sg : c' * s = c ∨ c' * s = -c := by omega
  obtain ⟨t, t8, t12, tp, tz⟩ := ht
  rcases sg with q | q
  · intro i hi
    refine Int.eq_of_mul_eq_mul_left hc ?_
    rw [co12 i hi, q]
  · exfalso
    have neg : ∀ i, i < 12 → v i = -(v' i) := by
      intro i hi
      refine Int.eq_of_mul_eq_mul_left hc ?_
      rw [co12 i hi, q]
      grind
    have a := neg t t12
    have b := topW_t ht' t8 t12 (by omega) (fun j j1 j2 => by have := neg j j2; have := tz j j1 j2; omega)
    omega
/-- PLAIN shares have no common polynomial -/
theorem isPl_copr {z v : Nat → Int} (h : isPl z v) : copr v := by
  obtain ⟨G, c, hG, hc, hD, hz, hg, ht⟩ := h
  intro k hk d0 d1 d2
  have kg : ∀ w, w < 3 → dvP (fun t => k t * e4 G t) (e4 (zw z w)) := by
    intro w hw
    have dw : dvP k (pe v w) := by
      rcases (show w = 0 ∨ w = 1 ∨ w = 2 by omega) with rfl | rfl | rfl
      · exact d0
      · exact d1
      · exact d2
    obtain ⟨m, q, hm, hq, e⟩ := dw
    refine ⟨m, fun t => c * q t, hm, isP_cm c hq, fun t => ?_⟩
    rw [hz w hw t]
    have a := e t
    have : e4 (zw v w) t = pe v w t := rfl
    rw [this]
    have : m * (c * (e4 G t * pe v w t)) = c * e4 G t * (m * pe v w t) := by grind
    rw [this, a]
    grind
  obtain ⟨m, q, hm, hq, e⟩ := hD _ (isP_mul hk (isP_e4 G)) kg
  obtain ⟨i, hi, hGi⟩ := prim_nz hG
  obtain ⟨T, hT⟩ := e4_big hi hGi
  refine cst_of (q := q) hk hm (T := T) (fun t ht => ?_)
  refine Int.eq_of_mul_eq_mul_left (hT t ht) ?_
  have a := e t
  have : e4 G t * (k t * q t) = k t * e4 G t * q t := by grind
  rw [this, ← a]
  exact Int.mul_comm _ _
theorem plain_of {z v : Nat → Int} (h : isPl z v) (h9 : ∀ i, i < 12 → ab (v i) 9) : plain v := by
  have hc := isPl_copr h
  obtain ⟨G, c, hG, hc', hD, hz, hg, t, t8, t12, tp, tz⟩ := h
  refine ⟨fun i hi => ab_i.mp (h9 i hi), ⟨t - 8, by omega, by rw [show 8 + (t - 8) = t by omega]; exact tp, fun j j1 j2 => tz _ (by omega) (by omega)⟩, hc⟩
theorem outB_z : outB (fun _ => 0) ∧ pz4 (fun _ => 0) := by
  have e : mz4 (fun _ => 0) = 0 := by decide
  exact ⟨⟨fun q => by omega, fun q => by omega, fun _ _ => ab_0⟩, Or.inr (fun _ _ => rfl)⟩
theorem bdn_in {g l : Nat → Int} (hg : outB g) (hl : ∀ i, i < 4 → ab (l i) 3000) : bdn g l := by
  obtain ⟨o1, o2, o3⟩ := hg
  exact ⟨fun i hi => ⟨ab_le (o3 i hi) (by decide), ab_le (hl i hi) (by decide)⟩, o1, fun _ => hl, fun _ i hi => ab_le (hl i hi) (by decide), fun _ i hi => ab_le (o3 i hi) (by decide), fun _ _ => o3, fun q _ i hi => ab_le (o2 q i hi) (by decide), fun q _ => o2 q, fun _ _ => hl⟩
def CDm (z : Nat → Int) (m : Nat) (k : Int → Int) : Prop := ∀ w, w < m → dvP k (e4 (zw z w))
theorem CDm_W {z : Nat → Int} {m : Nat} (hm : m ≤ 3) (hb : ∀ i, i < 12 → ab (z i) 3000) : ∀ g : Nat → Int, gcdN g 4 = 1 → lin1 g → CDm z m (e4 g) → (∀ i, i < 4 → ab (g i) 3000) ∨ CDm z m (fun _ => 0) := by
  intro g hg hl hd
  by_cases hn : ∃ w, w < m ∧ ∃ i, i < 4 ∧ zw z w i ≠ 0
  · obtain ⟨w, hw, hp⟩ := hn
    exact Or.inl (lin_bound hg hl (hd w hw) hp (fun i hi => hb _ (by omega)))
  · refine Or.inr (fun w hw => dv_congr (dv_zero _) (fun t => (z_e4 (fun i hi => ?_) t).symm))
    exact Classical.byContradiction (fun q => hn ⟨w, hw, i, hi, q⟩)
theorem st_m19 {Q : Int32 → cS → Prop} {n w : Nat} {σ : cS} {g z : Nat → Int} (hw : w < 3) (hp : plainR σ) (rh : rowIs (σ.1 (σ.2.2.2 0)) 4 g) (hz : rowIs (σ.1 16) 12 z) (hb : ∀ i, i < 12 → ab (z i) 3000) (cd : ∀ k, isP k → (CDm z w k ↔ dvP k (e4 g))) (pg : pz4 g) (og : outB g) (go : ∀ σ' g' l', chP s67 σ σ' → hl2 σ' g' l' → (∀ k, isP k → (CDm z (w + 1) k ↔ dvP k (e4 g'))) → pz4 g' → outB g' → v_X1_make_19 Q 16 n (nI (4 * (w + 1))) σ') : v_X1_make_19 Q 16 (n + 1) (nI (4 * w)) σ := by
  obtain ⟨p1, p2, p3, p4, p5, p6, p7⟩ := plR hp
  unfold v_X1_make_19
  rw [nI_clamp (show 4 * w < 2 ^ 31 by omega), c0, show (4 : Int32).toNatClampNeg = 4 by decide, p4]
  refine ⟨fun q => absurd q (nI_ge (b := 12) (by omega) (by decide)), fun _ => ⟨p2, ⟨nI_pos (by omega), by decide, by decide, by show 4 * w + 4 ≤ 12; omega, by decide⟩, nmB_iff.mpr ?_⟩⟩
  have g1 : chg (fun a => a = σ.2.2.2 1) σ (cUR σ (σ.2.2.2 1) (va_cpy (σ.1 16) (σ.1 (σ.2.2.2 1)) (4 * w) 0 4)) := chg_R rfl
  have r1 : rowIs ((cUR σ (σ.2.2.2 1) (va_cpy (σ.1 16) (σ.1 (σ.2.2.2 1)) (4 * w) 0 4)).1 (σ.2.2.2 1)) 4 (zw z w) := by
    intro i hi
    rw [cUR_at, pk_cpy_in (by omega) (by omega), show 4 * w + (i - 0) = 4 * w + i by omega]
    exact hz (4 * w + i) (by omega)
  revert g1 r1
  generalize cUR σ (σ.2.2.2 1) (va_cpy (σ.1 16) (σ.1 (σ.2.2.2 1)) (4 * w) 0 4) = s1
  intro g1 r1
  have e1 : s1.2.2.2 = σ.2.2.2 := by rw [g1.2]
  rw [e1]
  refine ⟨p2, sp_takeOff p4 (by decide) r1 ?_⟩
  have g2 : chg (fun a => a = σ.2.2.2 1) σ (goneC s1 (σ.2.2.2 1) 4 (fun k => iL ((zw z w k).tdiv (gcdN (zw z w) 4)))) := chg_t2 g1 (chg_R rfl)
  have r2 : rowIs ((goneC s1 (σ.2.2.2 1) 4 (fun k => iL ((zw z w k).tdiv (gcdN (zw z w) 4)))).1 (σ.2.2.2 1)) 4 (cl4 (zw z w)) := goneC_row (fun i hi => tdiv_r63 (r1 i hi).2)
  revert g2 r2
  generalize goneC s1 (σ.2.2.2 1) 4 (fun k => iL ((zw z w k).tdiv (gcdN (zw z w) 4))) = s2
  intro g2 r2
  have h2 : hl2 s2 g (cl4 (zw z w)) := by
    refine ⟨by unfold plainR at *; rw [g2.2]; exact hp, ?_, ?_⟩
    · rw [g2.2]
      intro i hi
      rw [g2.1 _ p5]
      exact rh i hi
    · rw [g2.2]; exact r2
  have hb3 : ∀ i, i < 4 → ab (zw z w i) 3000 := fun i hi => hb _ (by omega)
  refine sp_findDiv (CD := CDm z (w + 1)) (CDm_W (by omega) hb) h2 pg (cl_pz _) (fun k hk => ?_) (bdn_in og (fun i hi => cl_ab (hb3 i hi))) (fun s3 g' l' g3 h3 cd3 pz3 ob3 => nmB_iff.mpr ?_)
  · rw [← cd k hk, cl_dv]
    constructor
    · intro y
      exact ⟨fun w' hw' => y w' (by omega), y w (by omega)⟩
    · intro ⟨y1, y2⟩ w' hw'
      rcases Nat.lt_or_ge w' w with q | q
      · exact y1 w' q
      · rw [show w' = w by omega]; exact y2
  · rw [show nI (4 * w) + 4 = nI (4 * (w + 1)) from nI_add (4 * w) 4]
    exact go s3 g' l' (chP_t (chP_of (chg_w g2 (fun x hx => hx ▸ p7))) g3) h3 cd3 pz3 ob3
theorem sp_makeC {Q : Int32 → cS → Prop} {σ : cS} {z : Nat → Int} (hp : plainR σ) (hz : ∀ i, i < 12 → σ.1 16 i = iL (z i)) (hb : ∀ i, i < 12 → ab (z i) 3000) (no : (∀ k, k < 4 → z (8 + k) = 0) → Q 0 σ) (yes : ¬ (∀ k, k < 4 → z (8 + k) = 0) → ∀ v, isPl z v → ∀ σ', chP (fun a => a = 6 ∨ a = 7 ∨ a = 8 ∨ a = 16) σ σ' → plainR σ' → (∀ i, i < 12 → σ'.1 16 i = iL (v i)) → ((∀ i, i < 12 → ab (v i) 9) → Q 1 σ') ∧ (¬ (∀ i, i < 12 → ab (v i) 9) → Q 0 σ')) : v_X1_make Q 16 σ := by
  have hzr : rowIs (σ.1 16) 12 z := fun i hi => ⟨hz i hi, ab_r (hb i hi)⟩
  have zz : ∀ k, k < 12 → (σ.1 16 k = 0 ↔ z k = 0) := fun k hk => by rw [hz k hk]; exact iL0 (ab_r (hb k hk))
  obtain ⟨p1, p2, p3, p4, p5, p6, p7⟩ := plR hp
  unfold v_X1_make v_X1_topOfW v_X1_topOfW_16
  refine sp_last (N := 12) rfl (by decide) (fun t ht hne hl => ?_) (fun h0 => ⟨fun y => absurd y (by decide), fun _ => ⟨fun y => absurd y (by decide), fun _ => ⟨z_0, no (fun k hk => (zz _ (by omega)).mp (h0 _ (by omega)))⟩⟩⟩)
  have hzt : z t ≠ 0 := fun y => hne ((zz t ht).mpr y)
  refine ⟨fun y => ⟨fun _ => ⟨p1, ?_⟩, fun y2 => absurd (nI_pos' (by omega)) y2⟩, fun y => ⟨fun y2 => absurd y2 (by decide), fun _ => ⟨z_0, no (fun k hk => (zz _ (by omega)).mp (hl (8 + k) ?_ (by omega)))⟩⟩⟩
  · have h8 : 8 ≤ t := (nI_leI (a := 8) (by decide) (by omega)).mp y
    have hW : ¬ (∀ k, k < 4 → z (8 + k) = 0) := fun w => hzt (by have := w (t - 8) (by omega); rwa [show 8 + (t - 8) = t by omega] at this)
    refine sp_fill p3 (by decide) ?_
    have g0 : chg (fun a => a = σ.2.2.2 0) σ (goneC σ (σ.2.2.2 0) 4 (fun _ => 0)) := chg_R rfl
    have r0 : ∀ i, i < 4 → (goneC σ (σ.2.2.2 0) 4 (fun _ => 0)).1 (σ.2.2.2 0) i = 0 := fun i hi => goneC_v hi
    revert g0 r0
    generalize goneC σ (σ.2.2.2 0) 4 (fun _ => 0) = s0
    intro g0 r0
    have e0 : s0.2.2.2 = σ.2.2.2 := by rw [g0.2]
    have n16 : ∀ {a b : cS}, chP s67 a b → b.1 16 = a.1 16 := fun g => g.1 16 (by unfold s67; omega)
    have G0 : chP s67 σ s0 := chP_of (chg_w g0 (fun x hx => hx ▸ p6))
    have rz : ∀ {s : cS}, chP s67 σ s → rowIs (s.1 16) 12 z := fun g => by rw [n16 g]; exact hzr
    refine st_m19 (w := 0) (g := fun _ => 0) (by decide) (by unfold plainR at *; rw [e0]; exact hp) (by rw [e0]; exact fun i hi => ⟨r0 i hi, by show r63 0; unfold r63; omega⟩) (rz G0) hb (fun k _ => ⟨fun _ => dv_congr (dv_zero k) (fun t => (z_e4 (fun _ _ => rfl) t).symm), fun _ w hw => by omega⟩) outB_z.2 outB_z.1 (fun s1 h1 l1 g1 hh1 cd1 pz1 ob1 => ?_)
    have G1 := chP_t G0 g1
    refine st_m19 (w := 1) (by decide) hh1.1 hh1.2.1 (rz G1) hb cd1 pz1 ob1 (fun s2 h2 l2 g2 hh2 cd2 pz2 ob2 => ?_)
    have G2 := chP_t G1 g2
    refine st_m19 (w := 2) (by decide) hh2.1 hh2.2.1 (rz G2) hb cd2 pz2 ob2 (fun s3 G l3 g3 hh3 cd3 pz3 ob3 => ?_)
    have G3 := chP_t G2 g3
    have hW3 : ∃ i, i < 4 ∧ zw z 2 i ≠ 0 := Classical.byContradiction (fun q => hW (fun k hk => Classical.byContradiction (fun w => q ⟨k, hk, w⟩)))
    have hprim : gcdN G 4 = 1 := by
      refine pz3.resolve_right (fun q => ?_)
      have c0' : CDm z 3 (fun _ => 0) := (cd3 _ (isP_c 0)).mpr (dv_congr (dv_zero _) (fun t => (z_e4 q t).symm))
      obtain ⟨m', q', hm', _, e'⟩ := c0' 2 (by decide)
      obtain ⟨i, hi, hzi⟩ := hW3
      obtain ⟨T, hT⟩ := e4_big hi hzi
      have e1 := e' (T + 1)
      rw [Int.zero_mul] at e1
      exact mul3_nz hm' (hT _ (by omega)) e1
    have dG := (cd3 _ (isP_e4 G)).mpr (dv_refl _)
    obtain ⟨q0, hq0⟩ := quot4 hprim (dG 0 (by decide))
    obtain ⟨q1, hq1⟩ := quot4 hprim (dG 1 (by decide))
    obtain ⟨q2, hq2⟩ := quot4 hprim (dG 2 (by decide))
    obtain ⟨lo, hlo, hmz, hG0, hGz⟩ : ∃ lo, lo < 4 ∧ mz4 G = lo + 1 ∧ G lo ≠ 0 ∧ ∀ k, lo < k → k < 4 → G k = 0 := by
      rcases mz_facts G with ⟨_, a⟩ | ⟨a, b, c, d⟩
      · obtain ⟨i, hi, hn⟩ := prim_nz hprim
        exact absurd (a i hi) hn
      · exact ⟨mz4 G - 1, by omega, by omega, c, fun k k1 k2 => d k (by omega) k2⟩
    have D0 := dvs_of hlo hG0 hGz hq0
    have D1 := dvs_of hlo hG0 hGz hq1
    have D2 := dvs_of hlo hG0 hGz hq2
    have hg1 : lo = 1 → ∀ i, i < 4 → ab (G i) 3000 := fun q => ob3.2.1 (by omega)
    have bq : ∀ {p q : Nat → Int}, dvs p G q lo → (∀ i, i < 4 → ab (p i) 3000) → ∀ c, c + lo < 4 → ab (G lo * q c) 1000000000000 := fun D hp' c hc => dvs_ab D hp' ob3.2.2 hg1 hc
    have rq : ∀ {p q : Nat → Int}, dvs p G q lo → (∀ i, i < 4 → ab (p i) 3000) → ∀ c, c < 4 → ab (q c) 1000000000000 := by
      intro p q D hp' c hc
      rcases Nat.lt_or_ge (c + lo) 4 with w | w
      · exact q_le hG0 (bq D hp' c w)
      · rw [D.2.2.2.2 c (by omega) hc]; exact ab_0
    have bz3 : ∀ w, w < 3 → ∀ i, i < 4 → ab (zw z w i) 3000 := fun w hw i hi => hb _ (by omega)
    unfold v_X1_make_19
    refine ⟨fun _ => ?_, fun q => absurd (by decide) q⟩
    have st55 : ∀ {n w : Nat} {s : cS} {q : Nat → Int} {l : Nat → Int}, w < 3 → hl2 s G l → dvs (zw z w) G q lo → (∀ j, j < 4 → s.1 16 (4 * w + j) = iL (zw z w j)) → (∀ s', chP (fun a => a = 8 ∨ a = 16) s s' → hl2 s' G l → (∀ j, j < 4 → s'.1 16 (4 * w + j) = iL (q j)) → (∀ i, (i < 4 * w ∨ 4 * w + 4 ≤ i) → s'.1 16 i = s.1 16 i) → v_X1_make_55 Q 16 n (nI (4 * (w + 1))) s') → v_X1_make_55 Q 16 (n + 1) (nI (4 * w)) s := by
      intro n w s q l hw hh D hs nx
      unfold v_X1_make_55
      refine ⟨fun y => absurd y (nI_ge (b := 12) (by omega) (by decide)), fun _ => ?_⟩
      refine sp_divC hw hh hmz D hs (fun c hc => ab_r (bq D (bz3 w hw) c hc)) (fun s' g' e' r1 r2 => nmB_iff.mpr ?_)
      rw [show nI (4 * w) + 4 = nI (4 * (w + 1)) from nI_add (4 * w) 4]
      obtain ⟨_, _, _, _, _, q6, q7⟩ := plR hh.1
      refine nx s' g' ⟨by have := hh.1; unfold plainR at *; rw [e']; exact this, ?_, ?_⟩ r1 r2
      · rw [e']; intro i hi; rw [g'.1 _ (by unfold s67 at q6; omega)]; exact hh.2.1 i hi
      · rw [e']; intro i hi; rw [g'.1 _ (by unfold s67 at q7; omega)]; exact hh.2.2 i hi
    have zrow : ∀ w j, w < 3 → j < 4 → s3.1 16 (4 * w + j) = iL (zw z w j) := fun w j hw hj => (rz G3 (4 * w + j) (by omega)).1
    refine st55 (n := 999) (w := 0) (by decide) hh3 D0 (fun j hj => zrow 0 j (by decide) hj) (fun s4 g4 hh4 a4 b4 => ?_)
    refine st55 (n := 998) (w := 1) (by decide) hh4 D1 (fun j hj => by rw [b4 _ (by omega)]; exact zrow 1 j (by decide) hj) (fun s5 g5 hh5 a5 b5 => ?_)
    refine st55 (n := 997) (w := 2) (by decide) hh5 D2 (fun j hj => by rw [b5 _ (by omega), b4 _ (by omega)]; exact zrow 2 j (by decide) hj) (fun s6 g6 hh6 a6 b6 => ?_)
    unfold v_X1_make_55
    refine ⟨fun _ => ?_, fun q => absurd (by decide) q⟩
    -- the shares that are left
    have urow : rowIs (s6.1 16) 12 (fun i => if i < 4 then q0 i else if i < 8 then q1 (i - 4) else q2 (i - 8)) := by
      intro i hi
      rcases (show i < 4 ∨ (4 ≤ i ∧ i < 8) ∨ 8 ≤ i by omega) with w | w | w
      · refine ⟨?_, ?_⟩
        · rw [b6 i (by omega), b5 i (by omega)]
          have := a4 i w
          rw [show 4 * 0 + i = i by omega] at this
          rw [this]
          show _ = iL (if i < 4 then q0 i else _)
          rw [if_pos w]
        · show r63 (if i < 4 then q0 i else _)
          rw [if_pos w]; exact ab_r (rq D0 (bz3 0 (by decide)) i w)
      · refine ⟨?_, ?_⟩
        · rw [b6 i (by omega)]
          have := a5 (i - 4) (by omega)
          rw [show 4 * 1 + (i - 4) = i by omega] at this
          rw [this]
          show _ = iL (if i < 4 then q0 i else if i < 8 then q1 (i - 4) else _)
          rw [if_neg (by omega), if_pos (by omega)]
        · show r63 (if i < 4 then q0 i else if i < 8 then q1 (i - 4) else _)
          rw [if_neg (by omega), if_pos (by omega)]; exact ab_r (rq D1 (bz3 1 (by decide)) _ (by omega))
      · refine ⟨?_, ?_⟩
        · have := a6 (i - 8) (by omega)
          rw [show 4 * 2 + (i - 8) = i by omega] at this
          rw [this]
          show _ = iL (if i < 4 then q0 i else if i < 8 then q1 (i - 4) else q2 (i - 8))
          rw [if_neg (by omega), if_neg (by omega)]
        · show r63 (if i < 4 then q0 i else if i < 8 then q1 (i - 4) else q2 (i - 8))
          rw [if_neg (by omega), if_neg (by omega)]; exact ab_r (rq D2 (bz3 2 (by decide)) _ (by omega))
    have uq : ∀ w, w < 3 → ∀ t, e4 (zw z w) t = e4 G t * e4 (zw (fun i => if i < 4 then q0 i else if i < 8 then q1 (i - 4) else q2 (i - 8)) w) t := by
      intro w hw t
      rcases (show w = 0 ∨ w = 1 ∨ w = 2 by omega) with rfl | rfl | rfl
      · exact hq0 t
      · exact hq1 t
      · exact hq2 t
    revert urow uq
    generalize (fun i => if i < 4 then q0 i else if i < 8 then q1 (i - 4) else q2 (i - 8)) = u
    intro urow uq
    have G6 : chP (fun a => a = 6 ∨ a = 7 ∨ a = 8 ∨ a = 16) σ s6 := chP_t (chP_w G3 (fun x hx => by unfold s67 at hx; omega)) (chP_t (chP_w g4 (fun x hx => by omega)) (chP_t (chP_w g5 (fun x hx => by omega)) (chP_w g6 (fun x hx => by omega))))
    refine sp_lower urow (fun hno => ?_) (fun t' t8 t12 hut hzt' s7 g7 e7 => ?_)
    · exfalso
      obtain ⟨i, hi, hzi⟩ := hW3
      obtain ⟨T, hT⟩ := e4_big hi hzi
      refine hT (T + 1) (by omega) ?_
      rw [uq 2 (by decide), z_e4 (p := zw u 2) (fun k hk => hno k hk), Int.mul_zero]
    · obtain ⟨c, hc, ec, gc, pc⟩ := tidy_sc t12 hut
      have pl : isPl z (tidyN u 12 t') := by
        refine ⟨G, c, hprim, hc, fun k hk hd => (cd3 k hk).mp hd, fun w hw t => ?_, gc, t', t8, t12, pc, fun j j1 j2 => ?_⟩
        · rw [uq w hw t, e4_cm (p := zw u w) (q := zw (tidyN u 12 t') w) (c := c) (fun k hk => ec _ (by omega))]
          grind
        · have := ec j j2
          rw [hzt' j j1 j2] at this
          exact (Int.mul_eq_zero.mp this.symm).resolve_left hc
      have G7 : chP (fun a => a = 6 ∨ a = 7 ∨ a = 8 ∨ a = 16) σ s7 := chP_t G6 (chP_of (chg_w g7 (fun x hx => by omega)))
      have ye := yes hW _ pl s7 G7 (by have := hh6.1; unfold plainR at *; rw [g7.2]; exact this) e7
      exact ⟨fun y => ⟨z_1, ye.1 y⟩, fun y => ⟨z_0, ye.2 y⟩⟩
  · rcases Nat.lt_or_ge t 8 with w | w
    · omega
    · exact absurd (nI_le (a := 8) w (by omega)) y
