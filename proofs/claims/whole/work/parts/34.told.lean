/-! PURE: degree, told, far (promises 6, 7, 9) -/
theorem wi_t {Q : Int32 → cS → Prop} {x a b : Int32} {σ : cS} (p q : Int) (ha : a.toInt = p) (hb : b.toInt = q) (h : inR x p q) (k : Q 1 σ) : v_X7_within Q x a b σ := sp_within ha hb (fun _ => k) (fun z => absurd h z)
theorem wi_f {Q : Int32 → cS → Prop} {x a b : Int32} {σ : cS} (p q : Int) (ha : a.toInt = p) (hb : b.toInt = q) (h : ¬ inR x p q) (k : Q 0 σ) : v_X7_within Q x a b σ := sp_within ha hb (fun z => absurd z h) (fun _ => k)
theorem iM_t {Q : Int32 → mS → Prop} {x : Int32} {a b : Int64} {σ : mS} (p q : Int) (ha : a.toInt = p) (hb : b.toInt = q) (h : inR x p q) (k : Q 1 σ) : w_in Q x.toInt64 a b σ := sp_in ha hb (fun _ => k) (fun z => absurd h z)
theorem iM_f {Q : Int32 → mS → Prop} {x : Int32} {a b : Int64} {σ : mS} (p q : Int) (ha : a.toInt = p) (hb : b.toInt = q) (h : ¬ inR x p q) (k : Q 0 σ) : w_in Q x.toInt64 a b σ := sp_in ha hb (fun z => absurd z h) (fun _ => k)
theorem inR3 {j : Nat} (h : j < 4) : inR (nI j) 0 3 := inR_nI (b := 3) (by omega) (by decide)
theorem mis_b {Q : Int32 → cS → Prop} {x : Int32} {σ : cS} (h : ¬ inR x 0 3) (k : Q (-1) σ) : v_X7_missing Q x σ := sp_missing (fun _ => k) (fun j hj e => absurd (by rw [e]; exact inR3 hj) h) (fun j hj e => absurd (by rw [e]; exact inR3 hj) h)
theorem mis_n {Q : Int32 → cS → Prop} {j : Nat} {σ : cS} (hj : j < 4) (h : σ.2.2.1 (19 + 5 * j) 4 = 0) (k : Q (-2) σ) : v_X7_missing Q (nI j) σ := sp_missing (fun z => absurd (inR3 hj) z) (fun _ _ _ _ => k) (fun j' hj' e z => absurd (by rw [(nI_eq (by omega) (by omega)).mp e.symm]; exact h) z)
theorem mis_y {Q : Int32 → cS → Prop} {j : Nat} {σ : cS} (hj : j < 4) (h : ¬ σ.2.2.1 (19 + 5 * j) 4 = 0) (k : Q 0 σ) : v_X7_missing Q (nI j) σ := sp_missing (fun z => absurd (inR3 hj) z) (fun j' hj' e z => absurd (by rw [(nI_eq (by omega) (by omega)).mp e]; exact z) h) (fun _ _ _ _ => k)
theorem ag_b {Q : Int32 → mS → Prop} {x : Int32} {τ : mS} (h : ¬ inR x 0 3) (k : Q (-1) τ) : w_against Q x τ := sp_against (fun _ => k) (fun j hj e => absurd (by rw [e]; exact inR3 hj) h) (fun j hj e => absurd (by rw [e]; exact inR3 hj) h)
theorem ag_n {Q : Int32 → mS → Prop} {j : Nat} {τ : mS} (hj : j < 4) (h : τ.2.1 1 j = 0) (k : Q (-2) τ) : w_against Q (nI j) τ := sp_against (fun z => absurd (inR3 hj) z) (fun _ _ _ _ => k) (fun j' hj' e z => absurd (by rw [(nI_eq (by omega) (by omega)).mp e.symm]; exact h) z)
theorem ag_y {Q : Int32 → mS → Prop} {j : Nat} {τ : mS} (hj : j < 4) (h : ¬ τ.2.1 1 j = 0) (k : Q 0 τ) : w_against Q (nI j) τ := sp_against (fun z => absurd (inR3 hj) z) (fun j' hj' e z => absurd (by rw [(nI_eq (by omega) (by omega)).mp e]; exact z) h) (fun _ _ _ _ => k)
/-- a LINE's number: it names none, it is nothing, it is one -/
def isV (σ : cS) (τ : mS) (j : Nat) (v : Nat → Int) : Prop := ¬ σ.2.2.1 (19 + 5 * j) 4 = 0 ∧ ¬ τ.2.1 1 j = 0 ∧ plain v ∧ (∀ i, i < 12 → τ.1 2 (12 * j + i) = iL (v i)) ∧ known σ (19 + 5 * j) v
theorem lcases {σ : cS} {τ : mS} (hI : Inv σ τ) (x : Int32) : (¬ inR x 0 3) ∨ (∃ j, j < 4 ∧ x = nI j ∧ σ.2.2.1 (19 + 5 * j) 4 = 0 ∧ τ.2.1 1 j = 0) ∨ (∃ j v, j < 4 ∧ x = nI j ∧ isV σ τ j v) := by
  by_cases h : inR x 0 3
  · obtain ⟨j, hj, e⟩ := inR_nat (b := 3) h (by decide)
    obtain ⟨l1, l2⟩ := hI.2.2.2 j (by omega)
    rcases l2 with l2 | ⟨l2, v, l3, l4, l5⟩
    · exact Or.inr (Or.inl ⟨j, by omega, e, by rw [l1]; exact l2, l2⟩)
    · exact Or.inr (Or.inr ⟨j, v, by omega, e, by rw [l1, l2]; decide, by rw [l2]; decide, l3, l4, l5⟩)
  · exact Or.inl h
theorem plain_r {v : Nat → Int} (h : plain v) {i : Nat} (hi : i < 12) : r63 (v i) := by
  have := h.1 i hi
  unfold r63
  omega
/-- the degree of one polynomial of a row, or -1 -/
def dA (z : Nat → Int) (a : Nat) : Int := if ¬ z (a + 3) = 0 then 3 else if ¬ z (a + 2) = 0 then 2 else if ¬ z (a + 1) = 0 then 1 else if ¬ z a = 0 then 0 else -1
theorem st_dA {Q : Int32 → mS → Prop} {r n a k : Nat} {σ : mS} (hk : k < 4) (ha : a + k < mLen r) (hL : mLen r < 500) (h1 : ¬ σ.1 r (a + k) = 0 → Q (nI k) σ) (h2 : σ.1 r (a + k) = 0 → w_degreeAt_2 Q r n (nI a) (nI k + (-1)) σ) : w_degreeAt_2 Q r (n + 1) (nI a) (nI k) σ := by
  unfold w_degreeAt_2 w_degreeAt_22
  refine ⟨fun h => absurd h (nI_pos (by omega)), fun _ => ?_⟩
  rw [nI_add, nI_clamp (by omega)]
  exact ⟨vp_in_nI ha (by omega), h1, fun h => nmB_iff.mpr (h2 h)⟩
theorem sp_dA {Q : Int32 → mS → Prop} {r a b : Nat} {σ : mS} {z : Nat → Int} (ha : a + 3 < mLen r) (hL : mLen r < 500) (hz : ∀ i, i < 4 → σ.1 r (a + i) = iL (z (b + i)) ∧ r63 (z (b + i))) (h : Q (iI (dA z b)) σ) : w_degreeAt Q r (nI a) σ := by
  have r0 : r63 0 := by unfold r63; omega
  have e0 : ∀ i, i < 4 → (σ.1 r (a + i) = 0 ↔ z (b + i) = 0) := fun i hi => by rw [(hz i hi).1, iL_0, iL_eq (hz i hi).2 r0]
  unfold w_degreeAt
  rw [show fuL = 995 + 1 + 1 + 1 + 1 + 1 from rfl]
  unfold dA at h
  refine st_dA (k := 3) (by decide) ha hL (fun h3 => ?_) (fun h3 => ?_)
  · rw [e0 3 (by decide)] at h3; rw [if_pos h3] at h; exact h
  rw [e0 3 (by decide)] at h3
  rw [if_neg (fun q => q h3)] at h
  rw [pk_m1]
  refine st_dA (k := 2) (by decide) (by omega) hL (fun h3 => ?_) (fun h3 => ?_)
  · rw [e0 2 (by decide)] at h3; rw [if_pos h3] at h; exact h
  rw [e0 2 (by decide)] at h3
  rw [if_neg (fun q => q h3)] at h
  rw [pk_m1]
  refine st_dA (k := 1) (by decide) (by omega) hL (fun h3 => ?_) (fun h3 => ?_)
  · rw [e0 1 (by decide)] at h3; rw [if_pos h3] at h; exact h
  rw [e0 1 (by decide)] at h3
  rw [if_neg (fun q => q h3)] at h
  rw [pk_m1]
  refine st_dA (k := 0) (by decide) (by omega) hL (fun h3 => ?_) (fun h3 => ?_)
  · rw [e0 0 (by decide), Nat.add_zero] at h3; rw [if_pos h3] at h; exact h
  rw [e0 0 (by decide), Nat.add_zero] at h3
  rw [if_neg (fun q => q h3)] at h
  unfold w_degreeAt_2 w_degreeAt_22
  refine ⟨fun _ => h, fun q => absurd (by decide) q⟩
theorem dA_range (z : Nat → Int) (a : Nat) : -1 ≤ dA z a ∧ dA z a ≤ 3 := by
  unfold dA
  split
  · omega
  · split
    · omega
    · split
      · omega
      · split <;> omega
def mx0 (m d : Int) : Int := if d ≤ m then m else d
theorem mx0_le {m d : Int} : m ≤ mx0 m d ∧ d ≤ mx0 m d ∧ (mx0 m d = m ∨ mx0 m d = d) := by
  unfold mx0
  split <;> omega
theorem st_dO {Q : Int32 → mS → Prop} {n j p : Nat} {m : Int} {σ : mS} {v : Nat → Int} (hj : j < 4) (hp : p ≤ 8) (hm : 0 ≤ m ∧ m ≤ 3) (hz : ∀ i, i < 12 → σ.1 2 (12 * j + i) = iL (v i) ∧ r63 (v i)) (h : w_degreeOf_4 Q n (nI j) (iI (mx0 m (dA v p))) (nI (p + 4)) σ) : w_degreeOf_4 Q (n + 1) (nI j) (iI m) (nI p) σ := by
  unfold w_degreeOf_4
  refine ⟨fun z => absurd z (by rw [show (12 : Int32) = nI 12 from rfl]; exact nI_ge (by omega) (by decide)), fun _ => ?_⟩
  rw [show (12 : Int32) = nI 12 from rfl, pk_mul, nI_add]
  have hd := dA_range v p
  refine sp_dA (b := p) (z := v) (show 12 * j + p + 3 < 48 by omega) (by decide) (fun i hi => ?_) ?_
  · have := hz (p + i) (by omega)
    rw [show 12 * j + p + i = 12 * j + (p + i) by omega]
    exact this
  · rw [iI_le (by unfold r31; omega) (by unfold r31; omega)]
    unfold w_degreeOf_37
    rw [show nI p + 4 = nI (p + 4) from nI_add p 4]
    refine ⟨fun q => nmB_iff.mpr ?_, fun q => nmB_iff.mpr ?_⟩
    · unfold mx0 at h; rw [if_pos q] at h; exact h
    · unfold mx0 at h; rw [if_neg q] at h; exact h
theorem dA_facts (z : Nat → Int) (a : Nat) : (z (a + 3) = 0 ∨ dA z a = 3) ∧ (z (a + 3) ≠ 0 ∨ ((z (a + 2) = 0 ∨ dA z a = 2) ∧ (z (a + 2) ≠ 0 ∨ ((z (a + 1) = 0 ∨ dA z a = 1) ∧ (z (a + 1) ≠ 0 ∨ (-1 ≤ dA z a ∧ dA z a ≤ 0)))))) := by
  unfold dA
  by_cases h3 : z (a + 3) = 0
  · rw [if_neg (fun q => q h3)]
    by_cases h2 : z (a + 2) = 0
    · rw [if_neg (fun q => q h2)]
      by_cases h1 : z (a + 1) = 0
      · rw [if_neg (fun q => q h1)]
        by_cases h0 : z a = 0
        · rw [if_neg (fun q => q h0)]; omega
        · rw [if_pos h0]; omega
      · rw [if_pos h1]; omega
    · rw [if_pos h2]; omega
  · rw [if_pos h3]; omega
theorem dg_facts (v : Nat → Int) : ((v 3 = 0 ∧ v 7 = 0 ∧ v 11 = 0) ∨ dg v = 3) ∧ ((v 3 = 0 ∧ v 7 = 0 ∧ v 11 = 0) → (((v 2 = 0 ∧ v 6 = 0 ∧ v 10 = 0) ∨ dg v = 2) ∧ ((v 2 = 0 ∧ v 6 = 0 ∧ v 10 = 0) → (((v 1 = 0 ∧ v 5 = 0 ∧ v 9 = 0) ∨ dg v = 1) ∧ ((v 1 = 0 ∧ v 5 = 0 ∧ v 9 = 0) → dg v = 0))))) := by
  unfold dg
  by_cases h3 : v 3 = 0 ∧ v 7 = 0 ∧ v 11 = 0
  · rw [if_neg (fun q => q h3)]
    by_cases h2 : v 2 = 0 ∧ v 6 = 0 ∧ v 10 = 0
    · rw [if_neg (fun q => q h2)]
      by_cases h1 : v 1 = 0 ∧ v 5 = 0 ∧ v 9 = 0
      · rw [if_neg (fun q => q h1)]; exact ⟨Or.inl h3, fun _ => ⟨Or.inl h2, fun _ => ⟨Or.inl h1, fun _ => rfl⟩⟩⟩
      · rw [if_pos h1]; exact ⟨Or.inl h3, fun _ => ⟨Or.inl h2, fun _ => ⟨Or.inr rfl, fun q => absurd q h1⟩⟩⟩
    · rw [if_pos h2]; exact ⟨Or.inl h3, fun _ => ⟨Or.inr rfl, fun q => absurd q h2⟩⟩
  · rw [if_pos h3]; exact ⟨Or.inr rfl, fun q => absurd q h3⟩
theorem dg_dA {v : Nat → Int} : mx0 (mx0 (mx0 0 (dA v 0)) (dA v 4)) (dA v 8) = (dg v : Int) := by
  have a := dA_facts v 0
  have b := dA_facts v 4
  have c := dA_facts v 8
  have g := dg_facts v
  simp only [Nat.reduceAdd] at a b c
  have m1 := mx0_le (m := 0) (d := dA v 0)
  generalize mx0 0 (dA v 0) = p at *
  have m2 := mx0_le (m := p) (d := dA v 4)
  generalize mx0 p (dA v 4) = q at *
  have m3 := mx0_le (m := q) (d := dA v 8)
  generalize mx0 q (dA v 8) = r at *
  generalize dA v 0 = d0 at *
  generalize dA v 4 = d4 at *
  generalize dA v 8 = d8 at *
  generalize dg v = n at *
  by_cases h3 : v 3 = 0 ∧ v 7 = 0 ∧ v 11 = 0
  · by_cases h2 : v 2 = 0 ∧ v 6 = 0 ∧ v 10 = 0
    · by_cases h1 : v 1 = 0 ∧ v 5 = 0 ∧ v 9 = 0
      · have := (((g.2 h3).2 h2).2 h1)
        obtain ⟨x1, x2, x3⟩ := h3
        obtain ⟨y1, y2, y3⟩ := h2
        obtain ⟨z1, z2, z3⟩ := h1
        simp only [x1, x2, x3, y1, y2, y3, z1, z2, z3, ne_eq, not_true_eq_false, false_or, true_or, true_and] at a b c
        omega
      · have := ((g.2 h3).2 h2).1.resolve_left h1
        obtain ⟨x1, x2, x3⟩ := h3
        obtain ⟨y1, y2, y3⟩ := h2
        simp only [x1, x2, x3, y1, y2, y3, ne_eq, not_true_eq_false, false_or, true_or, true_and] at a b c
        omega
    · have := (g.2 h3).1.resolve_left h2
      obtain ⟨x1, x2, x3⟩ := h3
      simp only [x1, x2, x3, ne_eq, not_true_eq_false, false_or, true_or, true_and] at a b c
      omega
  · have := g.1.resolve_left h3
    omega
theorem sp_degreeOf {Q : Int32 → mS → Prop} {j : Nat} {σ : mS} {v : Nat → Int} (hj : j < 4) (hz : ∀ i, i < 12 → σ.1 2 (12 * j + i) = iL (v i) ∧ r63 (v i)) (h : Q (nI (dg v)) σ) : w_degreeOf Q (nI j) σ := by
  unfold w_degreeOf
  rw [show fuL = 996 + 1 + 1 + 1 + 1 from rfl]
  have r0 := dA_range v 0
  have r4 := dA_range v 4
  have r8 := dA_range v 8
  refine st_dO (m := 0) (p := 0) hj (by decide) (by omega) hz ?_
  refine st_dO (p := 4) hj (by decide) ?_ hz ?_
  · have := mx0_le (m := 0) (d := dA v 0); omega
  refine st_dO (p := 8) hj (by decide) ?_ hz ?_
  · have := mx0_le (m := 0) (d := dA v 0); have := mx0_le (m := mx0 0 (dA v 0)) (d := dA v 4); omega
  rw [dg_dA]
  unfold w_degreeOf_4
  exact ⟨fun _ => h, fun q => absurd (by decide) q⟩
