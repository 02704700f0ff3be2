/-! PURE: the reference's KIND -/
/-- but for the row 6 (straight) nothing is other -/
def s6 (σ σ' : mS) : Prop := (∀ a, a ≠ 6 → σ'.1 a = σ.1 a) ∧ σ'.2 = σ.2
theorem s6_rf {σ : mS} : s6 σ σ := ⟨fun _ _ => rfl, rfl⟩
theorem s6_tr {a b c : mS} (h : s6 a b) (g : s6 b c) : s6 a c := ⟨fun x hx => by rw [g.1 x hx, h.1 x hx], by rw [g.2, h.2]⟩
theorem s6_keep {σ σ' : mS} (h : s6 σ σ') : mKeep σ σ' := ⟨h.1 2 (by decide), by rw [h.2], by rw [h.2]⟩
theorem c0 : (0 : Int32).toNatClampNeg = 0 := by decide
theorem c1 : (1 : Int32).toNatClampNeg = 1 := by decide
theorem c2 : (2 : Int32).toNatClampNeg = 2 := by decide
theorem c3 : (3 : Int32).toNatClampNeg = 3 := by decide
theorem vin0 : vp_in (0 : Int32) 3 := vp_in_nI (n := 0) (by decide) (by decide)
theorem vin1 : vp_in (1 : Int32) 3 := vp_in_nI (n := 1) (by decide) (by decide)
theorem vin2 : vp_in (2 : Int32) 3 := vp_in_nI (n := 2) (by decide) (by decide)
theorem sp_crossM {Q : mS → Prop} {σ : mS} {x y w u v z : Int} (h : ∀ σ' : mS, s6 σ σ' → σ'.1 6 0 = iL (y * z - w * v) → σ'.1 6 1 = iL (w * u - x * z) → σ'.1 6 2 = iL (x * v - y * u) → Q σ') : w_cross Q (iL x) (iL y) (iL w) (iL u) (iL v) (iL z) σ := by
  unfold w_cross
  rw [c0, c1, c2]
  refine ⟨vin0, nmB_iff.mpr ⟨vin1, nmB_iff.mpr ⟨vin2, nmB_iff.mpr (h _ ⟨fun a ha => ?_, rfl⟩ ?_ ?_ ?_)⟩⟩⟩
  · rw [mUJ_ne ha, mUJ_ne ha, mUJ_ne ha]
  · rw [mUJ_at, updL_ne (by decide), mUJ_at, updL_ne (by decide), mUJ_at, updL_at, iL_mul, iL_mul, iL_sub]
  · rw [mUJ_at, updL_ne (by decide), mUJ_at, updL_at, iL_mul, iL_mul, iL_sub]
  · rw [mUJ_at, updL_at, iL_mul, iL_mul, iL_sub]
/-- the reference's row of a LINE -/
def ofV (σ : mS) (j : Nat) (v : Nat → Int) : Prop := (∀ i, i < 12 → σ.1 2 (12 * j + i) = iL (v i)) ∧ ∀ i, i < 12 → -9 ≤ v i ∧ v i ≤ 9
theorem ofV_s6 {σ σ' : mS} {j : Nat} {v : Nat → Int} (h : ofV σ j v) (hs : s6 σ σ') : ofV σ' j v := ⟨fun i hi => by rw [hs.1 2 (by decide)]; exact h.1 i hi, h.2⟩
theorem ofV_r {σ : mS} {j : Nat} {v : Nat → Int} (h : ofV σ j v) {i : Nat} (hi : i < 12) : σ.1 2 (12 * j + i) = iL (v i) ∧ r63 (v i) := ⟨h.1 i hi, by have := h.2 i hi; unfold r63; omega⟩
theorem mul9 {a b : Int} (ha : -9 ≤ a ∧ a ≤ 9) (hb : -9 ≤ b ∧ b ≤ 9) : -81 ≤ a * b ∧ a * b ≤ 81 := by
  have h1 : (a * b).natAbs = a.natAbs * b.natAbs := Int.natAbs_mul a b
  have h2 : a.natAbs * b.natAbs ≤ 9 * 9 := Nat.mul_le_mul (by omega) (by omega)
  omega
theorem fo3_le {v : Nat → Int} (h : ∀ i, i < 12 → -9 ≤ v i ∧ v i ≤ 9) {i j : Nat} (hi : i < 4) (hj : j < 4) (c : Nat) : -162 ≤ fo3 v i j c ∧ fo3 v i j c ≤ 162 := by
  have a0 := h (4 * 0 + i) (by omega)
  have a1 := h (4 * 1 + i) (by omega)
  have a2 := h (4 * 2 + i) (by omega)
  have b0 := h (4 * 0 + j) (by omega)
  have b1 := h (4 * 1 + j) (by omega)
  have b2 := h (4 * 2 + j) (by omega)
  match c with
  | 0 =>
    show -162 ≤ v (4 * 1 + i) * v (4 * 2 + j) - v (4 * 2 + i) * v (4 * 1 + j) ∧ v (4 * 1 + i) * v (4 * 2 + j) - v (4 * 2 + i) * v (4 * 1 + j) ≤ 162
    have := mul9 a1 b2; have := mul9 a2 b1; omega
  | 1 =>
    show -162 ≤ v (4 * 2 + i) * v (4 * 0 + j) - v (4 * 0 + i) * v (4 * 2 + j) ∧ v (4 * 2 + i) * v (4 * 0 + j) - v (4 * 0 + i) * v (4 * 2 + j) ≤ 162
    have := mul9 a2 b0; have := mul9 a0 b2; omega
  | 2 =>
    show -162 ≤ v (4 * 0 + i) * v (4 * 1 + j) - v (4 * 1 + i) * v (4 * 0 + j) ∧ v (4 * 0 + i) * v (4 * 1 + j) - v (4 * 1 + i) * v (4 * 0 + j) ≤ 162
    have := mul9 a0 b1; have := mul9 a1 b0; omega
  | c + 3 =>
    show -162 ≤ (0 : Int) ∧ (0 : Int) ≤ 162
    omega
def is6 (σ : mS) (f : Nat → Int) : Prop := ∀ c, c < 3 → σ.1 6 c = iL (f c)
theorem sp_findStraight {Q : Int32 → mS → Prop} {l i j : Nat} {σ : mS} {v : Nat → Int} (hl : l < 4) (hi : i < 4) (hj : j < 4) (hv : ofV σ l v) (h1 : nz3 (fo3 v i j) → ∀ σ', s6 σ σ' → is6 σ' (fo3 v i j) → Q 1 σ') (h0 : ¬ nz3 (fo3 v i j) → ∀ σ', s6 σ σ' → Q 0 σ') : w_findStraight Q (nI l) (nI i) (nI j) σ := by
  have r0 : r63 0 := by unfold r63; omega
  unfold w_findStraight w_findStraight_107 w_findStraight_112
  refine nmB_iff.mpr ?_
  rw [show (12 : Int32) = nI 12 from rfl, show (4 : Int32) = nI 4 from rfl, show (8 : Int32) = nI 8 from rfl, pk_mul]
  simp only [nI_add]
  rw [nI_clamp (by omega), nI_clamp (by omega), nI_clamp (by omega), nI_clamp (by omega), nI_clamp (by omega), nI_clamp (by omega)]
  refine ⟨vp_in_nI (by omega) (by decide), vp_in_nI (by omega) (by decide), vp_in_nI (by omega) (by decide), vp_in_nI (by omega) (by decide), vp_in_nI (by omega) (by decide), vp_in_nI (by omega) (by decide), ?_⟩
  have e : ∀ w k, w < 3 → k < 4 → σ.1 2 (12 * l + (4 * w + k)) = iL (vc v k w) := fun w k hw hk => hv.1 (4 * w + k) (by omega)
  rw [show 12 * l + i = 12 * l + (4 * 0 + i) by omega, show 12 * l + 4 + i = 12 * l + (4 * 1 + i) by omega, show 12 * l + 8 + i = 12 * l + (4 * 2 + i) by omega, show 12 * l + j = 12 * l + (4 * 0 + j) by omega, show 12 * l + 4 + j = 12 * l + (4 * 1 + j) by omega, show 12 * l + 8 + j = 12 * l + (4 * 2 + j) by omega]
  rw [e 0 i (by decide) hi, e 1 i (by decide) hi, e 2 i (by decide) hi, e 0 j (by decide) hj, e 1 j (by decide) hj, e 2 j (by decide) hj]
  refine sp_crossM (fun σ' hs e0 e1 e2 => ?_)
  rw [c0, c1, c2]
  have b := fun c => fo3_le hv.2 hi hj c
  have rr : ∀ c, r63 (fo3 v i j c) := fun c => by have := b c; unfold r63; omega
  have f0 : σ'.1 6 0 = iL (fo3 v i j 0) := e0
  have f1 : σ'.1 6 1 = iL (fo3 v i j 1) := e1
  have f2 : σ'.1 6 2 = iL (fo3 v i j 2) := e2
  have hrow : is6 σ' (fo3 v i j) := fun c hc => by
    rcases (show c = 0 ∨ c = 1 ∨ c = 2 by omega) with rfl | rfl | rfl
    · exact f0
    · exact f1
    · exact f2
  rw [f0, f1, f2, iL_0, iL_eq (rr 0) r0, iL_eq (rr 1) r0, iL_eq (rr 2) r0]
  refine ⟨vin0, fun g => ⟨z_1, h1 (fun q => g q.1) σ' hs hrow⟩, fun g => ⟨vin1, fun g1 => ⟨z_1, h1 (fun q => g1 q.2.1) σ' hs hrow⟩, fun g1 => ⟨vin2, fun g2 => ⟨z_0, h0 (fun q => q ⟨g, g1, g2⟩) σ' hs⟩, fun g2 => ⟨z_1, h1 (fun q => g2 q.2.2) σ' hs hrow⟩⟩⟩⟩
/-- whether all four vectors lie in the plane of a form -/
def flat4 (f : Nat → Int) (v : Nat → Int) (k : Nat) : Prop := ∀ i, i < k → dot3 f (vc v i) = 0
theorem sp_all {Q : Int32 → mS → Prop} {l : Nat} {σ : mS} {v f : Nat → Int} (hl : l < 4) (hv : ofV σ l v) (hf : is6 σ f) (hb : ∀ c, c < 3 → -162 ≤ f c ∧ f c ≤ 162) (h1 : flat4 f v 4 → Q 1 σ) (h0 : ¬ flat4 f v 4 → Q 0 σ) : ∀ (d k n : Nat), k + d = 4 → d < n → (flat4 f v k → w_isStraight_65 Q n (nI l) 1 (nI k) σ) ∧ (¬ flat4 f v k → w_isStraight_65 Q n (nI l) 0 (nI k) σ) := by
  have r0 : r63 0 := by unfold r63; omega
  intro d
  induction d with
  | zero =>
    intro k n hk hn
    obtain ⟨n, rfl⟩ : ∃ m, n = m + 1 := ⟨n - 1, by omega⟩
    have : k = 4 := by omega
    subst this
    unfold w_isStraight_65
    exact ⟨fun g => ⟨fun _ => ⟨z_1, h1 g⟩, fun q => absurd (by decide) q⟩, fun g => ⟨fun _ => ⟨z_0, h0 g⟩, fun q => absurd (by decide) q⟩⟩
  | succ d ih =>
    intro k n hk hn
    obtain ⟨n, rfl⟩ : ∃ m, n = m + 1 := ⟨n - 1, by omega⟩
    obtain ⟨i1, i0⟩ := ih (k + 1) n (by omega) (by omega)
    unfold w_isStraight_65 w_isStraight_143 w_isStraight_144
    rw [show (4 : Int32) = nI 4 from rfl]
    refine ⟨fun g => ⟨fun q => absurd q (nI_ge (by omega) (by decide)), fun _ => nmB_iff.mpr ⟨fun q => absurd q (by decide), fun _ => ?_⟩⟩, fun g => ⟨fun q => absurd q (nI_ge (by omega) (by decide)), fun _ => nmB_iff.mpr ⟨fun _ => nmB_iff.mpr ?_, fun q => absurd rfl q⟩⟩⟩
    · rw [show (12 : Int32) = nI 12 from rfl, show (8 : Int32) = nI 8 from rfl, pk_mul, nI_1]
      simp only [nI_add]
      rw [c0, c1, c2, nI_clamp (by omega), nI_clamp (by omega), nI_clamp (by omega)]
      rw [hf 0 (by decide), hf 1 (by decide), hf 2 (by decide), show 12 * l + k = 12 * l + (4 * 0 + k) by omega, show 12 * l + (4 * 0 + k) + 4 = 12 * l + (4 * 1 + k) by omega, show 12 * l + (4 * 0 + k) + 8 = 12 * l + (4 * 2 + k) by omega]
      rw [hv.1 (4 * 0 + k) (by omega), hv.1 (4 * 1 + k) (by omega), hv.1 (4 * 2 + k) (by omega), iL_mul, iL_mul, iL_mul, iL_add, iL_add]
      have e : f 0 * v (4 * 0 + k) + f 1 * v (4 * 1 + k) + f 2 * v (4 * 2 + k) = dot3 f (vc v k) := rfl
      have rd : r63 (dot3 f (vc v k)) := by
        rw [← e]
        have m : ∀ c, c < 3 → -1458 ≤ f c * v (4 * c + k) ∧ f c * v (4 * c + k) ≤ 1458 := fun c hc => by
          have h1 : (f c * v (4 * c + k)).natAbs = (f c).natAbs * (v (4 * c + k)).natAbs := Int.natAbs_mul _ _
          have h2 : (f c).natAbs * (v (4 * c + k)).natAbs ≤ 162 * 9 := Nat.mul_le_mul (by have := hb c hc; omega) (by have := hv.2 (4 * c + k) (by omega); omega)
          omega
        have := m 0 (by decide); have := m 1 (by decide); have := m 2 (by decide)
        unfold r63
        omega
      rw [e, iL_0, iL_eq rd r0]
      refine ⟨vin0, vp_in_nI (by omega) (by decide), vin1, vp_in_nI (by omega) (by decide), vin2, vp_in_nI (by omega) (by decide), fun q => nmB_iff.mpr (i0 (fun w => q (w k (by omega)))), fun q => nmB_iff.mpr (i1 (fun i hi => ?_))⟩
      rcases Nat.lt_or_ge i k with z | z
      · exact g i z
      · have : i = k := by omega
        rw [this]; exact q
    · rw [nI_1]
      exact i0 (fun w => g (fun i hi => w i (by omega)))
