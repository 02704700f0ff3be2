/-! PURE: crosses (promise 16) -/
def prm (p : Nat) : Prop := 1 < p ∧ ∀ x y : Int, (p : Int) ∣ x * y → (p : Int) ∣ x ∨ (p : Int) ∣ y
theorem prm_ex2 : ∀ n : Nat, 1 < n → ∃ p, prm p ∧ p ∣ n := by
  intro n
  induction n using Nat.strongRecOn with
  | _ n ih =>
    intro hn
    by_cases h : ∃ m, 1 < m ∧ m < n ∧ m ∣ n
    · obtain ⟨m, h1, h2, h3⟩ := h
      obtain ⟨p, hp, hd⟩ := ih m h2 h1
      exact ⟨p, hp, Nat.dvd_trans hd h3⟩
    · refine ⟨n, ⟨hn, fun x y hxy => ?_⟩, Nat.dvd_refl n⟩
      have hd : n ∣ x.natAbs * y.natAbs := by
        rw [← Int.natAbs_mul]; exact Int.ofNat_dvd_left.mp hxy
      have hg : Nat.gcd n x.natAbs ∣ n := Nat.gcd_dvd_left _ _
      rcases Nat.lt_or_ge (Nat.gcd n x.natAbs) n with q | q
      · have h1 : Nat.gcd n x.natAbs = 1 := by
          rcases Nat.lt_or_ge 1 (Nat.gcd n x.natAbs) with y | y
          · exact absurd ⟨_, y, q, hg⟩ h
          · have := Nat.gcd_pos_of_pos_left x.natAbs (show 0 < n by omega)
            omega
        exact Or.inr (Int.ofNat_dvd_left.mpr (Nat.Coprime.dvd_of_dvd_mul_left h1 hd))
      · have e : Nat.gcd n x.natAbs = n := Nat.le_antisymm (Nat.le_of_dvd (by omega) hg) q
        refine Or.inl (Int.ofNat_dvd_left.mpr ?_)
        rw [← e]
        exact Nat.gcd_dvd_right _ _
theorem prm_ex {n : Nat} (h : n ≠ 1) : ∃ p, prm p ∧ p ∣ n := by
  rcases (show n = 0 ∨ 1 < n by omega) with q | q
  · obtain ⟨p, hp, _⟩ := prm_ex2 2 (by decide)
    exact ⟨p, hp, by rw [q]; exact Nat.dvd_zero p⟩
  · exact prm_ex2 n q
theorem gauss1 {p : Nat} (hp : prm p) {x y k0 k1 k2 : Int} (e0 : (p : Int) ∣ x * k0) (e1 : (p : Int) ∣ x * k1 + y * k0) (e2 : (p : Int) ∣ x * k2 + y * k1) (e3 : (p : Int) ∣ y * k2) (hk : ¬ ((p : Int) ∣ k0 ∧ (p : Int) ∣ k1 ∧ (p : Int) ∣ k2)) : (p : Int) ∣ x ∧ (p : Int) ∣ y := by
  have l : ∀ {a b : Int}, (p : Int) ∣ a + b → (p : Int) ∣ b → (p : Int) ∣ a := fun h g => (Int.dvd_add_left g).mp h
  have r : ∀ {a b : Int}, (p : Int) ∣ a + b → (p : Int) ∣ a → (p : Int) ∣ b := fun h g => (Int.dvd_add_right g).mp h
  have pr := hp.2
  by_cases hx : (p : Int) ∣ x
  · refine ⟨hx, ?_⟩
    by_cases hy : (p : Int) ∣ y
    · exact hy
    · exfalso
      have a2 := (pr _ _ e3).resolve_left hy
      have a1 := (pr _ _ (r e2 (Int.dvd_mul_of_dvd_left hx))).resolve_left hy
      have a0 := (pr _ _ (r e1 (Int.dvd_mul_of_dvd_left hx))).resolve_left hy
      exact hk ⟨a0, a1, a2⟩
  · exfalso
    have a0 := (pr _ _ e0).resolve_left hx
    have a1 := (pr _ _ (l e1 (Int.dvd_mul_of_dvd_right a0))).resolve_left hx
    have a2 := (pr _ _ (l e2 (Int.dvd_mul_of_dvd_right a1))).resolve_left hx
    exact hk ⟨a0, a1, a2⟩
theorem kqn_gcd {v : Nat → Int} (hc : copr v) (h3 : kd v = 3) : gcdN (kqn v) 3 = 1 := by
  obtain ⟨t, ht, hz⟩ := nz3_t (kqr_nz hc h3)
  have hg := gcdN_pos ht hz
  have e : gcdN (kqr v) 3 = gcdN (fun i => gq v * kqn v i) 3 := gcdN_congr (fun i hi => (Int.mul_tdiv_cancel' (gcdN_dvd (z := kqr v) hi)).symm)
  rw [gcdN_mul] at e
  have e2 : (gq v).natAbs = gcdN (kqr v) 3 := by unfold gq; exact Int.natAbs_natCast _
  rw [e2] at e
  exact (Nat.eq_of_mul_eq_mul_left hg (show gcdN (kqr v) 3 * 1 = gcdN (kqr v) 3 * gcdN (kqn v) 3 by omega)).symm
/-- the numbers of the product of the polynomial of THE KNOT and THE LAW's -/
def prX (v : Nat → Int) (c k : Nat) : Int := lwQ v c * kq v k + lwP v c * kqm v k
theorem prX_gcd {v : Nat → Int} (hc : copr v) (h3 : kd v = 3) : gcdN (fun i => prX v (i / 4) (i % 4)) 12 = 1 := by
  refine Classical.byContradiction (fun hn => ?_)
  obtain ⟨p, hp, hd⟩ := prm_ex hn
  have X : ∀ c k, c < 3 → k < 4 → (p : Int) ∣ prX v c k := by
    intro c k h1 h2
    have := gcdN_dvd (z := fun i => prX v (i / 4) (i % 4)) (N := 12) (i := 4 * c + k) (by omega)
    have e : prX v ((4 * c + k) / 4) ((4 * c + k) % 4) = prX v c k := by
      rw [show (4 * c + k) / 4 = c by omega, show (4 * c + k) % 4 = k by omega]
    rw [e] at this
    exact Int.dvd_trans (Int.ofNat_dvd.mpr hd) this
  have hk : ¬ ((p : Int) ∣ kq v 0 ∧ (p : Int) ∣ kq v 1 ∧ (p : Int) ∣ kq v 2) := by
    intro ⟨a, b, c⟩
    have := gcdN_max (z := kqn v) (d := p) (N := 3) (fun i hi => by
      rcases (show i = 0 ∨ i = 1 ∨ i = 2 by omega) with rfl | rfl | rfl
      · exact a
      · exact b
      · exact c)
    rw [kqn_gcd hc h3] at this
    have := Nat.le_of_dvd (by decide) this
    have := hp.1
    omega
  have all : ∀ c, c < 3 → (p : Int) ∣ lwQ v c ∧ (p : Int) ∣ lwP v c := by
    intro c h1
    have x0 := X c 0 h1 (by decide); have x1 := X c 1 h1 (by decide); have x2 := X c 2 h1 (by decide); have x3 := X c 3 h1 (by decide)
    unfold prX at x0 x1 x2 x3
    rw [show kqm v 0 = 0 from rfl, Int.mul_zero, Int.add_zero] at x0
    rw [show kqm v 1 = kq v 0 from rfl] at x1
    rw [show kqm v 2 = kq v 1 from rfl] at x2
    rw [show kqm v 3 = kq v 2 from rfl, show kq v 3 = 0 from rfl, Int.mul_zero, Int.zero_add] at x3
    exact gauss1 hp x0 x1 x2 x3 hk
  have := gcdN_max (z := lw v) (d := p) (N := 6) (fun i hi => by
    obtain ⟨w, hw, e⟩ : ∃ w, w < 3 ∧ (i = 2 * w ∨ i = 2 * w + 1) := ⟨i / 2, by omega, by omega⟩
    rcases e with rfl | rfl
    · exact (all w hw).2
    · exact (all w hw).1)
  rw [lw_gcd hc h3] at this
  have := Nat.le_of_dvd (by decide) this
  have := hp.1
  omega
theorem prX_dvd {v : Nat → Int} (hc : copr v) (h3 : kd v = 3) {n g : Int} (h : ∀ c k, c < 3 → k < 4 → n ∣ g * prX v c k) : n ∣ g := by
  have e := gcdN_mul (a := g) (z := fun i => prX v (i / 4) (i % 4)) 12
  rw [prX_gcd hc h3, Nat.mul_one] at e
  have := gcdN_max (z := fun i => g * prX v (i / 4) (i % 4)) (d := n.natAbs) (N := 12) (fun i hi => Int.natAbs_dvd.mpr (h (i / 4) (i % 4) (by omega) (by omega)))
  rw [e] at this
  exact Int.natAbs_dvd_natAbs.mp this
theorem lst_scale {z : Nat → Int} (h : nz3 z) : ∃ a : Int, a ≠ 0 ∧ ∀ i, i < 3 → z i = a * tidyN z 3 (lst0 z 3 3) i := by
  obtain ⟨t, ht, hz⟩ := nz3_t h
  have hg := gcdN_pos ht hz
  by_cases q : (z (lst0 z 3 3)).tdiv (gcdN z 3) < 0
  · refine ⟨-(gcdN z 3 : Int), by omega, fun i hi => ?_⟩
    rw [tidy_neg q]
    show _ = _ * -((z i).tdiv (gcdN z 3))
    have := Int.mul_tdiv_cancel' (gcdN_dvd (z := z) hi)
    grind
  · refine ⟨(gcdN z 3 : Int), by omega, fun i hi => ?_⟩
    rw [tidy_pos q]
    show _ = _ * ((z i).tdiv (gcdN z 3))
    have := Int.mul_tdiv_cancel' (gcdN_dvd (z := z) hi)
    grind
/-- (p x q) x r = q (p r) - p (q r) -/
theorem crx3 (p q r : Nat → Int) {c : Nat} (hc : c < 3) : crx (crx p q) r c = q c * dot3 p r - p c * dot3 q r := by
  rcases (show c = 0 ∨ c = 1 ∨ c = 2 by omega) with rfl | rfl | rfl <;> simp only [crx, dot3] <;> grind
theorem crx_smul {a b r : Nat → Int} {x : Int} (h : ∀ i, i < 3 → a i = x * b i) {c : Nat} (hc : c < 3) : crx a r c = x * crx b r c := by
  have h0 := h 0 (by decide); have h1 := h 1 (by decide); have h2 := h 2 (by decide)
  rcases (show c = 0 ∨ c = 1 ∨ c = 2 by omega) with rfl | rfl | rfl <;> simp only [crx, h0, h1, h2] <;> grind
/-- what stands against THE KNOT is a whole multiple of the product -/
theorem knot_row {v : Nat → Int} (hc : copr v) (h3 : kd v = 3) : ∃ m : Int, m ≠ 0 ∧ m.natAbs ≤ (gq v).natAbs ∧ ∀ c k, c < 3 → k < 4 → crx (kn v) (vc v k) c = m * prX v c k := by
  obtain ⟨a, ha, hd⟩ := lw_dots hc h3
  obtain ⟨b, hb, hk⟩ := lst_scale (knr_nz hc h3)
  have hg := gq_nz (kqr_nz hc h3)
  have main : ∀ c k, c < 3 → k < 4 → a * b * crx (kn v) (vc v k) c = -(gq v) * prX v c k := by
    intro c k h1 h2
    have e1 : crx (knr v) (vc v k) c = b * crx (kn v) (vc v k) c := crx_smul hk h1
    have e2 : crx (knr v) (vc v k) c = lwQ v c * dot3 (lwP v) (vc v k) - lwP v c * dot3 (lwQ v) (vc v k) := crx3 (lwP v) (lwQ v) (vc v k) h1
    obtain ⟨d1, d2⟩ := hd k h2
    unfold prX
    generalize dot3 (lwP v) (vc v k) = dp at *
    generalize dot3 (lwQ v) (vc v k) = dq at *
    generalize crx (kn v) (vc v k) c = x at *
    generalize lwQ v c = q at *
    generalize lwP v c = p at *
    generalize gq v = g at *
    have : a * b * x = a * (q * dp - p * dq) := by rw [← e2, e1]; grind
    rw [this]
    grind
  have hdv : a * b ∣ -(gq v) := prX_dvd hc h3 (fun c k h1 h2 => ⟨_, (main c k h1 h2).symm⟩)
  obtain ⟨m, hm⟩ := hdv
  have hab : a * b ≠ 0 := mul3_nz ha hb
  have hm0 : m ≠ 0 := fun q => by rw [q, Int.mul_zero] at hm; omega
  refine ⟨m, hm0, ?_, fun c k h1 h2 => ?_⟩
  · have : (-(gq v)).natAbs = (a * b).natAbs * m.natAbs := by rw [hm, Int.natAbs_mul]
    rw [Int.natAbs_neg] at this
    rw [this]
    exact Nat.le_mul_of_pos_left _ (Int.natAbs_pos.mpr hab)
  · refine Int.eq_of_mul_eq_mul_left hab ?_
    rw [main c k h1 h2, hm]
    grind
theorem mk_ab {v : Nat → Int} (hs : sm9 v) {m : Int} (hm : m.natAbs ≤ (gq v).natAbs) {k : Nat} (hk : k < 3) : ab (m * kq v k) 38263752 := by
  have e : kqr v k = gq v * kq v k := by
    obtain ⟨g0, g1, g2⟩ := gq_kq v
    rcases (show k = 0 ∨ k = 1 ∨ k = 2 by omega) with rfl | rfl | rfl
    · exact g0
    · exact g1
    · exact g2
  have b := kqr_ab hs k
  rw [e] at b
  unfold ab at *
  rw [Int.natAbs_mul] at *
  exact Nat.le_trans (Nat.mul_le_mul_right _ hm) b
theorem sgn_sq {m : Int} (h : m ≠ 0) : m.sign * m.sign = 1 := by
  rcases Int.lt_trichotomy m 0 with q | q | q
  · rw [Int.sign_eq_neg_one_of_neg q]; rfl
  · exact absurd q h
  · rw [Int.sign_eq_one_of_pos q]; rfl
theorem cr252 {Q : Int32 → mS → Prop} {τ : mS} {v : Nat → Int} {m : Int} (hs : sm9 v) (hc : copr v) (h3 : kd v = 3) (hm0 : m ≠ 0) (hm : m.natAbs ≤ (gq v).natAbs) (h : Q (iI (ps v)) τ) : w_crosses_252 Q (iL (m * kq v 2)) (iL (m * kq v 1)) (iL (m * kq v 0)) τ := by
  unfold w_crosses_252 w_crosses_329
  have r0 : r63 0 := by unfold r63; omega
  have b0 := mk_ab hs hm (show 0 < 3 by decide); have b1 := mk_ab hs hm (show 1 < 3 by decide); have b2 := mk_ab hs hm (show 2 < 3 by decide)
  refine sp_common (ab_r b2) (ab_r b1) ?_
  have g1 := gcd_ab b2 b1
  refine sp_common (ab_r (ab_le g1 (by decide : max 38263752 38263752 ≤ 38263752))) (ab_r b0) ?_
  have eg : Int.gcd ((Int.gcd (m * kq v 2) (m * kq v 1) : Nat) : Int) (m * kq v 0) = m.natAbs := by
    have z : ∀ i, (fun i => m * kq v (2 - i)) i = m * (fun i => kq v (2 - i)) i := fun i => rfl
    have e1 := gcdN3 (fun i => m * kq v (2 - i))
    have e2 := gcdN_mul (a := m) (z := fun i => kq v (2 - i)) 3
    have e3 : gcdN (fun i => kq v (2 - i)) 3 = 1 := by
      have k1 := kqn_gcd hc h3
      have d := gcdN_max (z := kqn v) (d := gcdN (fun i => kq v (2 - i)) 3) (N := 3) (fun i hi => by
        have := gcdN_dvd (z := fun i => kq v (2 - i)) (N := 3) (i := 2 - i) (by omega)
        have e : kq v (2 - (2 - i)) = kqn v i := by
          rcases (show i = 0 ∨ i = 1 ∨ i = 2 by omega) with rfl | rfl | rfl <;> rfl
        rw [e] at this
        exact this)
      rw [k1] at d
      exact Nat.dvd_one.mp d
    rw [e3, Nat.mul_one] at e2
    rw [e2] at e1
    exact e1.symm
  rw [eg]
  have hmp : 0 < m.natAbs := Int.natAbs_pos.mpr hm0
  have hgb : ab (m.natAbs : Int) 38263752 := by
    have e : gq v ∣ gq v := Int.dvd_refl _
    have : ∃ k, k < 3 ∧ kq v k ≠ 0 := by
      refine Classical.byContradiction (fun q => kq_nz hc h3 ⟨?_, ?_, ?_⟩)
      · exact Classical.byContradiction (fun z => q ⟨0, by decide, z⟩)
      · exact Classical.byContradiction (fun z => q ⟨1, by decide, z⟩)
      · exact Classical.byContradiction (fun z => q ⟨2, by decide, z⟩)
    obtain ⟨k, hk, hz⟩ := this
    have b := mk_ab hs hm hk
    unfold ab at *
    rw [Int.natAbs_mul] at b
    rw [Int.natAbs_natCast]
    exact Nat.le_trans (Nat.le_mul_of_pos_right _ (Int.natAbs_pos.mpr hz)) b
  have rg : r63 (m.natAbs : Int) := ab_r hgb
  have dv : ∀ x : Int, (m * x).tdiv (m.natAbs : Int) = m.sign * x := by
    intro x
    have := tdiv_mul_sgn (a := m) (x := x) (g := 1) hm0 (by decide) (Int.one_dvd x)
    rw [Nat.mul_one] at this
    rw [this]
    congr 1
    exact Int.tdiv_one x
  rw [iL_div (ab_r b2) rg, iL_div (ab_r b1) rg, iL_div (ab_r b0) rg, dv, dv, dv, iL0 rg]
  have ng : ¬ ((m.natAbs : Int) = 0) := by omega
  refine ⟨ng, nmB_iff.mpr ⟨ng, nmB_iff.mpr ⟨ng, nmB_iff.mpr ?_⟩⟩⟩
  rw [show (4 : Int64) = iL 4 from rfl, iL_mul, iL_mul, iL_mul, iL_sub]
  have e : m.sign * kq v 1 * (m.sign * kq v 1) - 4 * (m.sign * kq v 2) * (m.sign * kq v 0) = kq v 1 * kq v 1 - 4 * kq v 0 * kq v 2 := by
    have s := sgn_sq hm0
    generalize m.sign = z at *
    generalize kq v 0 = a at *
    generalize kq v 1 = b at *
    generalize kq v 2 = c at *
    have : z * b * (z * b) - 4 * (z * c) * (z * a) = z * z * (b * b - 4 * a * c) := by grind
    rw [this, s, Int.one_mul]
  rw [e]
  have hd : ab (kq v 1 * kq v 1 - 4 * kq v 0 * kq v 2) 10000000000000000 := ab_le (ab_sub (ab_mul (kq_ab hs 1) (kq_ab hs 1)) (ab_mul (ab_mul (ab_k 4) (kq_ab hs 0)) (kq_ab hs 2))) (by decide)
  unfold ps at h
  generalize kq v 1 * kq v 1 - 4 * kq v 0 * kq v 2 = D at *
  refine nmB_iff.mpr ?_
  rw [iL_0, iL_le (ab_r hd) r0, iL_eq (ab_r hd) r0]
  rcases Int.lt_trichotomy D 0 with q | q | q
  · rw [Int.sign_eq_neg_one_of_neg q] at h
    exact ⟨fun _ => ⟨fun _ => h, fun y => by omega⟩, fun y => by omega⟩
  · subst q
    exact ⟨fun _ => ⟨fun y => absurd rfl y, fun _ => h⟩, fun y => by omega⟩
  · rw [Int.sign_eq_one_of_pos q] at h
    exact ⟨fun y => by omega, fun _ => h⟩
theorem kn_ab {v : Nat → Int} (hs : sm9 v) (hc : copr v) (h3 : kd v = 3) (c : Nat) : ab (kn v c) 128000000000000 := tidyN_ab (knr_ab hs hc h3 c)
theorem cr53 {Q : Int32 → mS → Prop} {τ : mS} {v : Nat → Int} {j c : Nat} (hj : j < 4) (hv : ofV τ j v) (hp : plain v) (h3 : kd v = 3) (hw : is13 τ (lw v)) (hk : is8 τ (kn v)) (hc3 : c < 3) (hn : ¬ (lwP v c = 0 ∧ lwQ v c = 0)) (h : ∀ τ', mch (fun a => a = 4 ∨ a = 6) τ τ' → Q (iI (ps v)) τ') : w_crosses_53 Q (nI j) (nI c) τ := by
  have hs : sm9 v := hp.1
  have hc := hp.2.2
  obtain ⟨m, hm0, hm, hrow⟩ := knot_row hc h3
  unfold w_crosses_53
  have kb := kn_ab hs hc h3
  refine loopU (N := 4) (F := fun n k s => w_crosses_62 Q n (nI j) (nI c) k s) (I := fun k s => mch (fun a => a = 4 ∨ a = 6) τ s ∧ ∀ i, i < k → s.1 4 i = iL (crx (kn v) (vc v i) c)) (by decide) ?_ ?_ τ ⟨mch_rf, fun i hi => by omega⟩
  · intro n k s hk4 ⟨g, z⟩ go
    show w_crosses_62 Q (n + 1) (nI j) (nI c) (nI k) s
    unfold w_crosses_62
    refine ⟨fun q => absurd q (nI_ge (b := 4) hk4 (by decide)), fun _ => nmB_iff.mpr ?_⟩
    have e : ∀ w, w < 3 → s.1 2 (12 * j + k + 4 * w) = iL (vc v k w) := fun w hw => by
      rw [show 12 * j + k + 4 * w = 12 * j + (4 * w + k) by omega, g.1 2 (by decide)]; exact hv.1 (4 * w + k) (by omega)
    have e8 : ∀ w, w < 3 → s.1 8 w = iL (kn v w) := fun w hw => by rw [g.1 8 (by decide)]; exact hk w hw
    rw [c0, c1, c2, show (12 : Int32) = nI 12 from rfl, show (4 : Int32) = nI (4 * 1) from rfl, show (8 : Int32) = nI (4 * 2) from rfl, pk_mul, nI_add, nI_add, nI_add, nI_clamp (show 12 * j + k < 2 ^ 31 by omega), nI_clamp (show 12 * j + k + 4 * 1 < 2 ^ 31 by omega), nI_clamp (show 12 * j + k + 4 * 2 < 2 ^ 31 by omega), show 12 * j + k = 12 * j + k + 4 * 0 by omega, e 0 (by decide), e 1 (by decide), e 2 (by decide), e8 0 (by decide), e8 1 (by decide), e8 2 (by decide)]
    refine ⟨vin0, vin1, vin2, vp_in_nI (by omega) (by decide), vp_in_nI (by omega) (by decide), vp_in_nI (by omega) (by decide), sp_crossM (fun s2 g2 b0 b1 b2 => ?_)⟩
    have b6 : s2.1 6 c = iL (crx (kn v) (vc v k) c) := by
      rcases (show c = 0 ∨ c = 1 ∨ c = 2 by omega) with rfl | rfl | rfl
      · exact b0
      · exact b1
      · exact b2
    rw [nI_clamp (show c < 2 ^ 31 by omega), nI_clamp (show k < 2 ^ 31 by omega), b6, nI_1]
    refine ⟨vp_in_nI hc3 (by decide), vp_in_nI hk4 (by decide), nmB_iff.mpr (nmB_iff.mpr (go _ ⟨mch_t (mch_t g (mch_6 g2 (Or.inr rfl))) (mch_J (Or.inl rfl)), fun i hi => ?_⟩))⟩
    rw [mUJ_at]
    rcases Nat.lt_or_ge i k with q | q
    · rw [updL_ne (by omega), g2.1 4 (by decide)]; exact z i q
    · rw [show i = k by omega, updL_at]
  · intro n s ⟨g, z⟩
    show w_crosses_62 Q (n + 1) (nI j) (nI c) (nI 4) s
    unfold w_crosses_62
    refine ⟨fun _ => ?_, fun q => absurd (by decide) q⟩
    have e13 : ∀ p, p < 6 → s.1 13 p = iL (lw v p) := fun p hp6 => by rw [g.1 13 (by decide)]; exact hw p hp6
    have fin := cr252 (Q := Q) (τ := s) hs hc h3 hm0 hm (h s g)
    have lb := fun p (hp6 : p < 6) => lw_ab hs hc h3 hp6
    have bA : ab (lwP v c) 8000000 := lb (2 * c) (by omega)
    have bB : ab (lwQ v c) 8000000 := lb (2 * c + 1) (by omega)
    have ro : ∀ k, k < 4 → s.1 4 k = iL (m * prX v c k) := fun k hk4 => by rw [z k hk4, hrow c k hc3 hk4]
    have w4 : ∀ k : Nat, k < 4 → vp_in (nI k) 4 := fun k hk4 => vp_in_nI hk4 (by decide)
    rw [show (2 : Int32) = nI 2 from rfl, pk_mul, nI_1, nI_clamp (show 2 * c < 2 ^ 31 by omega), nI_clamp (show 2 * c + 1 < 2 ^ 31 by omega), e13 (2 * c) (by omega), e13 (2 * c + 1) (by omega)]
    refine ⟨vp_in_nI (by omega) (by decide), nmB_iff.mpr ⟨vp_in_nI (by omega) (by decide), nmB_iff.mpr ?_⟩⟩
    have m0 := mk_ab hs hm (show 0 < 3 by decide); have m1 := mk_ab hs hm (show 1 < 3 by decide); have m2 := mk_ab hs hm (show 2 < 3 by decide)
    have x0 : prX v c 0 = lwQ v c * kq v 0 := by unfold prX; rw [show kqm v 0 = 0 from rfl, Int.mul_zero, Int.add_zero]
    have x1 : prX v c 1 = lwQ v c * kq v 1 + lwP v c * kq v 0 := rfl
    have x2 : prX v c 2 = lwQ v c * kq v 2 + lwP v c * kq v 1 := rfl
    have x3 : prX v c 3 = lwP v c * kq v 2 := by unfold prX; rw [show kq v 3 = 0 from rfl, Int.mul_zero, Int.zero_add]; rfl
    have r0' := ro 0 (by decide); have r1' := ro 1 (by decide); have r2' := ro 2 (by decide); have r3' := ro 3 (by decide)
    rw [x0] at r0'
    rw [x1] at r1'
    rw [x2] at r2'
    rw [x3] at r3'
    change ((iL (lwP v c) = 0 → _) ∧ (¬ iL (lwP v c) = 0 → _))
    rw [show lw v (2 * c) = lwP v c from rfl, show lw v (2 * c + 1) = lwQ v c from rfl]
    have dvx : ∀ {a : Int} (x y : Int), a ≠ 0 → ab a 8000000 → ab y 38263752 → x = a * y → iL x / iL a = iL y := by
      intro a x y ha hab hy hx
      rw [iL_div (ab_r (a := x) (by rw [hx]; exact ab_mul hab hy)) (ab_r hab), hx, Int.mul_tdiv_cancel_left _ ha]
    rw [nI_clamp (show 2 < 2 ^ 31 by decide), c3, iL0 (ab_r bA), iL0 (ab_r bB)]
    unfold w_crosses_188 w_crosses_220
    rw [c0, c1, c2, iL0 (ab_r bA), iL0 (ab_r bB), r0', r1', r2', r3']
    refine ⟨fun q => ?_, fun q => ?_⟩
    · have hB : lwQ v c ≠ 0 := fun y => hn ⟨q, y⟩
      refine ⟨w4 2 (by decide), hB, ⟨fun _ => ⟨w4 1 (by decide), hB, ⟨fun _ => ⟨w4 0 (by decide), hB, ?_⟩, fun y => absurd q y⟩⟩, fun y => absurd q y⟩⟩
      rw [dvx (m * (lwQ v c * kq v 2 + lwP v c * kq v 1)) (m * kq v 2) hB bB m2 (by rw [q]; grind), dvx (m * (lwQ v c * kq v 1 + lwP v c * kq v 0)) (m * kq v 1) hB bB m1 (by rw [q]; grind), dvx (m * (lwQ v c * kq v 0)) (m * kq v 0) hB bB m0 (by grind)]
      exact fin
    · refine ⟨w4 3 (by decide), q, ⟨fun y => absurd y q, fun _ => ⟨w4 2 (by decide), q, ⟨fun y => absurd y q, fun _ => ⟨w4 1 (by decide), q, ?_⟩⟩⟩⟩⟩
      rw [dvx (m * (lwP v c * kq v 2)) (m * kq v 2) q bA m2 (by grind), iL_mul, iL_sub, dvx _ (m * kq v 1) q bA m1 (by grind), iL_mul, iL_sub, dvx _ (m * kq v 0) q bA m0 (by grind)]
      exact fin
theorem st_crosses : ∀ (z0 : Int32) (σ : cS) (τ : mS), Inv σ τ → v_X7_crosses (fun r σ1 => w_crosses (fun r2 τ1 => r = r2 ∧ Inv σ1 τ1) z0 τ) z0 σ := by
  intro z0 σ τ hI
  unfold v_X7_crosses v_X7_crosses_23 w_crosses
  rcases lcases hI z0 with h | ⟨j, hj, rfl, h1, h2⟩ | ⟨j, v, hj, rfl, hV⟩
  · exact ll_b h ⟨fun q => absurd q (by decide), fun _ => ac_b h ⟨fun q => absurd q (by decide), fun _ => ⟨rfl, hI⟩⟩⟩
  · exact ll_n hj h1 ⟨fun q => absurd q (by decide), fun _ => ac_n hj h2 ⟨fun q => absurd q (by decide), fun _ => ⟨rfl, hI⟩⟩⟩
  · obtain ⟨h1, h2, hp, hm, hk⟩ := id hV
    have I6 : ∀ {τ'}, s6 τ τ' → Inv σ τ' := fun g => Inv_keep hI cKeep_rf (s6_keep g)
    refine ll_y hj h1 hk.2.2.1 (kd_le v) (fun e => ⟨fun q => absurd q (by decide), fun _ => ?_⟩) (fun e => ⟨fun _ => ⟨vp_in_nI hj (by decide), nmB_iff.mpr ?_⟩, fun q => absurd rfl q⟩)
    · exact ac_y hj h2 (isV_of hV) hp.2.2 (fun _ τ' g => ⟨fun q => absurd q (by decide), fun _ => ⟨rfl, I6 g⟩⟩) (fun z => absurd z e)
    · rw [nI_clamp (show j < 2 ^ 31 by omega), (hk.2.2.2.2 e).2.2]
      refine ac_y hj h2 (isV_of hV) hp.2.2 (fun z => absurd e z) (fun _ τ' g => ⟨fun _ => ?_, fun q => absurd (by decide) q⟩)
      refine sp_findKnotM hj (ofV_s6 (isV_of hV) g) hp e (fun τ2 g2 e13 e8 => ?_)
      have I2 : Inv σ τ2 := Inv_keep (I6 g) cKeep_rf (mch_keep g2 (by unfold scK; omega))
      have ov2 : ofV τ2 j v := ofV_mch (ofV_s6 (isV_of hV) g) g2 (by unfold scK; omega)
      have lb := fun p (hp6 : p < 6) => lw_ab hp.1 hp.2.2 e hp6
      have fin : ∀ c, c < 3 → ¬ (lwP v c = 0 ∧ lwQ v c = 0) → w_crosses_53 (fun r2 τ1 => iI (ps v) = r2 ∧ Inv σ τ1) (nI j) (nI c) τ2 := fun c hc3 hn => cr53 hj ov2 hp e e13 e8 hc3 hn (fun τ3 g3 => ⟨rfl, Inv_keep I2 cKeep_rf (mch_keep g3 (by decide))⟩)
      have step : ∀ (n c : Nat), c < 3 → ((lwP v c = 0 ∧ lwQ v c = 0) → w_crosses_19 (fun r2 τ1 => iI (ps v) = r2 ∧ Inv σ τ1) n (nI j) (nI (c + 1)) τ2) → w_crosses_19 (fun r2 τ1 => iI (ps v) = r2 ∧ Inv σ τ1) (n + 1) (nI j) (nI c) τ2 := by
        intro n c hc3 nx
        unfold w_crosses_19
        rw [show (2 : Int32) = nI 2 from rfl, pk_mul, nI_1, nI_clamp (show 2 * c < 2 ^ 31 by omega), nI_clamp (show 2 * c + 1 < 2 ^ 31 by omega), e13 (2 * c) (by omega), e13 (2 * c + 1) (by omega), iL0 (ab_r (lb (2 * c) (by omega))), iL0 (ab_r (lb (2 * c + 1) (by omega)))]
        refine ⟨vp_in_nI (by omega) (by decide), fun q => fin c hc3 (fun z => q z.1), fun q => ⟨vp_in_nI (by omega) (by decide), fun q2 => fin c hc3 (fun z => q2 z.2), fun q2 => nmB_iff.mpr ?_⟩⟩
        rw [nI_1]
        exact nx ⟨q, q2⟩
      refine step 999 0 (by decide) (fun y0 => step 998 1 (by decide) (fun y1 => step 997 2 (by decide) (fun y2 => ?_)))
      exfalso
      have z : ∀ i, i < 6 → lw v i = 0 := by
        intro i hi
        obtain ⟨w, hw, ei⟩ : ∃ w, w < 3 ∧ (i = 2 * w ∨ i = 2 * w + 1) := ⟨i / 2, by omega, by omega⟩
        rcases (show w = 0 ∨ w = 1 ∨ w = 2 by omega) with rfl | rfl | rfl <;> rcases ei with rfl | rfl
        · exact y0.1
        · exact y0.2
        · exact y1.1
        · exact y1.2
        · exact y2.1
        · exact y2.2
      have e0 : gcdN (lw v) 6 = 0 := by
        have := gcdN_max (z := lw v) (d := 0) (N := 6) (fun i hi => by rw [z i hi]; exact Int.dvd_zero _)
        exact Nat.eq_zero_of_zero_dvd this
      have := lw_gcd hp.2.2 e
      omega
