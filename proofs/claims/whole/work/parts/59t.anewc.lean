/-! PURE: anew (promise 20) -/
theorem cv_top {g q : Nat → Int} {e f : Nat} (h : e + f < 4) (hg : ∀ k, e < k → k < 4 → g k = 0) (hq : ∀ k, f < k → k < 4 → q k = 0) : cv4 g q (e + f) = g e * q f := by
  rcases (show (e = 0 ∧ f = 0) ∨ (e = 0 ∧ f = 1) ∨ (e = 0 ∧ f = 2) ∨ (e = 0 ∧ f = 3) ∨ (e = 1 ∧ f = 0) ∨ (e = 1 ∧ f = 1) ∨ (e = 1 ∧ f = 2) ∨ (e = 2 ∧ f = 0) ∨ (e = 2 ∧ f = 1) ∨ (e = 3 ∧ f = 0) by omega) with ⟨rfl, rfl⟩ | ⟨rfl, rfl⟩ | ⟨rfl, rfl⟩ | ⟨rfl, rfl⟩ | ⟨rfl, rfl⟩ | ⟨rfl, rfl⟩ | ⟨rfl, rfl⟩ | ⟨rfl, rfl⟩ | ⟨rfl, rfl⟩ | ⟨rfl, rfl⟩
  · rfl
  · have := hg 1 (by decide) (by decide); simp [cv4, this]
  · have := hg 1 (by decide) (by decide); have := hg 2 (by decide) (by decide); simp [cv4, *]
  · have := hg 1 (by decide) (by decide); have := hg 2 (by decide) (by decide); have := hg 3 (by decide) (by decide); simp [cv4, *]
  · have := hq 1 (by decide) (by decide); simp [cv4, this]
  · have := hg 2 (by decide) (by decide); have := hq 2 (by decide) (by decide); simp [cv4, *]
  · have := hg 2 (by decide) (by decide); have := hg 3 (by decide) (by decide); have := hq 3 (by decide) (by decide); simp [cv4, *]
  · have := hq 1 (by decide) (by decide); have := hq 2 (by decide) (by decide); simp [cv4, *]
  · have := hg 3 (by decide) (by decide); have := hq 2 (by decide) (by decide); have := hq 3 (by decide) (by decide); simp [cv4, *]
  · have := hq 1 (by decide) (by decide); have := hq 2 (by decide) (by decide); have := hq 3 (by decide) (by decide); simp [cv4, *]
theorem hz_low (q : Nat → Int) (a b c d : Int) {m : Nat} (hm : m ≤ 2) : ∃ r : Nat → Int, (∀ s, hz4 q m (d * s - b) (a - c * s) = e4 r s) ∧ ∀ k, m < k → k < 4 → r k = 0 := by
  rcases (show m = 0 ∨ m = 1 ∨ m = 2 by omega) with rfl | rfl | rfl
  · refine ⟨fun i => match i with | 0 => q 0 | _ => 0, fun s => by simp [hz4, e4], fun k k1 k2 => ?_⟩
    match k, k1 with
    | k + 1, _ => rfl
  · refine ⟨fun i => match i with | 0 => q 0 * a - q 1 * b | 1 => q 1 * d - q 0 * c | _ => 0, fun s => by simp only [hz4, e4]; grind, fun k k1 k2 => ?_⟩
    match k, k1 with
    | k + 2, _ => rfl
  · refine ⟨fun i => match i with | 0 => q 0 * (a * a) - q 1 * (a * b) + q 2 * (b * b) | 1 => q 1 * (a * d + b * c) - 2 * q 0 * a * c - 2 * q 2 * b * d | 2 => q 0 * (c * c) - q 1 * (c * d) + q 2 * (d * d) | _ => 0, fun s => by simp only [hz4, e4]; grind, fun k k1 k2 => ?_⟩
    match k, k1 with
    | k + 3, _ => rfl
theorem an_cop {v : Nat → Int} (h : plain v) {a b c d : Int} (hD : a * d - b * c ≠ 0) : ∀ k, isP k → (∀ w, w < 3 → dvP k (e4 (zw (anZ v a b c d (dg v)) w))) → dvP k (e4 one4) := by
  have hn := dg_le v
  have ez : ∀ w, w < 3 → ∀ i, i < 4 → zw (anZ v a b c d (dg v)) w i = anP (fun k => v (4 * w + k)) a b c d (dg v) i := fun w hw i hi => anZ_P v a b c d hn hw hi
  intro k hk hd0
  have hd : ∀ w, w < 3 → dvP k (e4 (anP (fun k => v (4 * w + k)) a b c d (dg v))) := fun w hw => dv_congr (hd0 w hw) (fun t => e4_congr (ez w hw) t)
  have back := fun w (hw : w < 3) s => an_back (fun k => v (4 * w + k)) a b c d s hn (fun k k1 k2 => dg_z hw k1 k2)
  have hp2 : ∃ i, i < 4 ∧ anP (fun k => v (4 * 2 + k)) a b c d (dg v) i ≠ 0 := by
    refine Classical.byContradiction (fun q => ?_)
    have z : ∀ i, i < 4 → anP (fun k => v (4 * 2 + k)) a b c d (dg v) i = 0 := fun i hi => Classical.byContradiction (fun y => q ⟨i, hi, y⟩)
    obtain ⟨s, hs⟩ := pe_nz h
    have e := back 2 (by decide) s
    have z0 : hz4 (anP (fun k => v (4 * 2 + k)) a b c d (dg v)) (dg v) (d * s - b) (a - c * s) = 0 := by
      unfold hz4
      split <;> simp only [z 0 (by decide), z 1 (by decide), z 2 (by decide), z 3 (by decide)] <;> simp
    rw [z0] at e
    exact mul3_nz (pwt_nz hD _) hs e
  obtain ⟨i2, hi2, hn2⟩ := hp2
  obtain ⟨T2, hT2⟩ := e4_big hi2 hn2
  rcases isP_grow hk with cst | ⟨A, U, gr⟩
  · exact dv_one cst (hd 2 (by decide)) ⟨T2 + 1, hT2 _ (by omega)⟩
  exfalso
  obtain ⟨kk, hkk⟩ := low_of hk (hd 2 (by decide)) ⟨i2, hi2, hn2⟩
  have hkn : ∃ i, i < 4 ∧ kk i ≠ 0 := by
    refine Classical.byContradiction (fun q => ?_)
    have z : ∀ i, i < 4 → kk i = 0 := fun i hi => Classical.byContradiction (fun y => q ⟨i, hi, y⟩)
    have := gr (A + U + 1 : Nat) (by omega)
    rw [hkk, z_e4 z] at this
    simp at this
    omega
  obtain ⟨i0, hi0, hk0⟩ := hkn
  have hgp := gcdN_pos hi0 hk0
  have hprim : gcdN (cl4 kk) 4 = 1 := (cl_pz kk).resolve_right (fun z => hk0 ((cl_z kk hi0).mp (z i0 hi0)))
  have kg : ∀ t, k t = (gcdN kk 4 : Int) * e4 (cl4 kk) t := fun t => by
    rw [hkk t]
    exact e4_cm (fun i hi => (Int.mul_tdiv_cancel' (gcdN_dvd (z := kk) hi)).symm) t
  have gd : ∀ {f : Int → Int}, dvP k f → dvP (e4 (cl4 kk)) f := by
    intro f ⟨m, q, hm, hq, e⟩
    refine ⟨m, fun t => (gcdN kk 4 : Int) * q t, hm, isP_cm _ hq, fun t => ?_⟩
    rw [e t, kg t]
    grind
  revert hprim kg gd
  generalize cl4 kk = g
  intro hprim kg gd
  obtain ⟨e, he4, hg0, hgz⟩ : ∃ e, e < 4 ∧ g e ≠ 0 ∧ ∀ k, e < k → k < 4 → g k = 0 := by
    rcases mz_facts g with ⟨_, x⟩ | ⟨x, y, z, w⟩
    · obtain ⟨i, hi, hn⟩ := prim_nz hprim
      exact absurd (x i hi) hn
    · exact ⟨mz4 g - 1, by omega, z, fun k k1 k2 => w k (by omega) k2⟩
  have he1 : 1 ≤ e := by
    rcases Nat.eq_zero_or_pos e with z | z
    · exfalso
      subst z
      have c0' : ∀ t, k t = (gcdN kk 4 : Int) * g 0 := fun t => by
        rw [kg t]
        unfold e4
        rw [hgz 1 (by decide) (by decide), hgz 2 (by decide) (by decide), hgz 3 (by decide) (by decide)]
        simp
      have := gr (A + U + ((gcdN kk 4 : Int) * g 0).natAbs + 1 : Nat) (by omega)
      rw [c0'] at this
      omega
    · exact z
  -- the shares, and how high they are
  have sh : ∀ w, w < 3 → ∃ q : Nat → Int, dvs (anP (fun k => v (4 * w + k)) a b c d (dg v)) g q e ∧ ∀ k, dg v - e < k → k < 4 → q k = 0 := by
    intro w hw
    obtain ⟨q, hq⟩ := quot4 hprim (gd (hd w hw))
    have D := dvs_of he4 hg0 hgz hq
    refine ⟨q, D, fun k k1 k2 => ?_⟩
    refine Classical.byContradiction (fun hn' => ?_)
    rcases mz_facts q with ⟨_, x⟩ | ⟨x, y, z, w'⟩
    · exact hn' (x k k2)
    · have hf : k ≤ mz4 q - 1 := by
        rcases Nat.lt_or_ge (mz4 q - 1) k with r | r
        · exact absurd (w' k (by omega) k2) hn'
        · exact r
      have hf3 : mz4 q - 1 ≤ 3 - e := by
        rcases Nat.lt_or_ge (3 - e) (mz4 q - 1) with r | r
        · exact absurd (D.2.2.2.2 _ r (by omega)) z
        · exact r
      have top := cv_top (e := e) (f := mz4 q - 1) (by omega) hgz (fun k k1 k2 => w' k (by omega) k2)
      rw [← D.2.2.2.1 _ (by omega), anP_hi hn (by omega) (by omega)] at top
      exact mul3_nz hg0 z top.symm
  have hen : e ≤ dg v := by
    obtain ⟨q, D, hz⟩ := sh 2 (by decide)
    rcases Nat.lt_or_ge (dg v) e with r | r
    · exfalso
      -- then the share's highest number would stand too high
      rcases mz_facts q with ⟨_, x⟩ | ⟨x, y, z, w'⟩
      · apply hn2
        rw [D.2.2.2.1 i2 hi2]
        have x0 := x 0 (by decide); have x1 := x 1 (by decide); have x2 := x 2 (by decide); have x3 := x 3 (by decide)
        unfold cv4
        split <;> simp only [x0, x1, x2, x3] <;> simp
      · have hf3 : mz4 q - 1 ≤ 3 - e := by
          rcases Nat.lt_or_ge (3 - e) (mz4 q - 1) with r' | r'
          · exact absurd (D.2.2.2.2 _ r' (by omega)) z
          · exact r'
        have top := cv_top (e := e) (f := mz4 q - 1) (by omega) hgz (fun k k1 k2 => w' k (by omega) k2)
        rw [← D.2.2.2.1 _ (by omega), anP_hi hn (by omega) (by omega)] at top
        exact mul3_nz hg0 z top.symm
    · exact r
  have iu : isP (fun s => d * s - b) := ⟨[-b, d], fun t => by simp only [pv]; grind⟩
  have iw : isP (fun s => a - c * s) := ⟨[a, -c], fun t => by simp only [pv]; grind⟩
  have prod : ∀ w, w < 3 → ∃ q : Nat → Int, ∀ s, pwt (a * d - b * c) (dg v) * pe v w s = hz4 g e (d * s - b) (a - c * s) * hz4 q (dg v - e) (d * s - b) (a - c * s) := by
    intro w hw
    obtain ⟨q, D, hz⟩ := sh w hw
    refine ⟨q, fun s => ?_⟩
    rw [← hz_mul hn he1 hen D.2.2.2.1 hgz hz]
    exact back w hw s
  have dK : ∀ w, w < 3 → dvP (fun s => hz4 g e (d * s - b) (a - c * s)) (pe v w) := by
    intro w hw
    obtain ⟨q, hq⟩ := prod w hw
    exact ⟨_, fun s => hz4 q (dg v - e) (d * s - b) (a - c * s), pwt_nz hD _, isP_hz q _ iu iw, hq⟩
  have cK := h.2.2 _ (isP_hz g e iu iw) (dK 0 (by decide)) (dK 1 (by decide)) (dK 2 (by decide))
  obtain ⟨w, hw, hvn⟩ := dg_nz (v := v) (by omega)
  obtain ⟨q, hq⟩ := prod w hw
  obtain ⟨r, hr, hrz⟩ := hz_low q a b c d (m := dg v - e) (by omega)
  have co := e4_inj (p := fun i => pwt (a * d - b * c) (dg v) * v (4 * w + i)) (q := fun i => hz4 g e (d * 0 - b) (a - c * 0) * r i) (fun s => by
    rw [e4_cm (c := pwt (a * d - b * c) (dg v)) (q := fun i => v (4 * w + i)) (fun _ _ => rfl), e4_cm (c := hz4 g e (d * 0 - b) (a - c * 0)) (q := r) (fun _ _ => rfl), ← hr s]
    have c1 := cK s
    have c1' : hz4 g e (d * s - b) (a - c * s) = hz4 g e (d * 0 - b) (a - c * 0) := c1
    rw [← c1', ← hq s]
    rfl) (dg v) (by omega)
  have co' : pwt (a * d - b * c) (dg v) * v (4 * w + dg v) = hz4 g e (d * 0 - b) (a - c * 0) * r (dg v) := co
  rw [hrz (dg v) (by omega) (by omega), Int.mul_zero] at co'
  exact mul3_nz (pwt_nz hD _) hvn co'
