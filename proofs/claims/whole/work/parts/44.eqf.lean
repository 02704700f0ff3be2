/-! PURE: the class's EQUATION, tidied -/
theorem fa0_facts (z : Nat → Int) (N : Nat) : ∀ d, d ≤ N → (∀ i, i < N - d → z i = 0) → (fst0.fa0 z N d = N ∧ ∀ i, i < N → z i = 0) ∨ (fst0.fa0 z N d < N ∧ z (fst0.fa0 z N d) ≠ 0 ∧ ∀ i, i < fst0.fa0 z N d → z i = 0) := by
  intro d
  induction d with
  | zero => intro _ h; exact Or.inl ⟨rfl, h⟩
  | succ d ih =>
    intro hd h
    unfold fst0.fa0
    by_cases q : z (N - (d + 1)) = 0
    · rw [if_pos q]
      refine ih (by omega) (fun i hi => ?_)
      rcases Nat.lt_or_ge i (N - (d + 1)) with p | p
      · exact h i p
      · have : i = N - (d + 1) := by omega
        rw [this]; exact q
    · rw [if_neg q]
      exact Or.inr ⟨by omega, q, h⟩
theorem fst0_facts (z : Nat → Int) (N : Nat) : (fst0 z N = N ∧ ∀ i, i < N → z i = 0) ∨ (fst0 z N < N ∧ z (fst0 z N) ≠ 0 ∧ ∀ i, i < fst0 z N → z i = 0) := fa0_facts z N N (Nat.le_refl _) (fun i hi => by omega)
theorem lst0_facts (z : Nat → Int) (N : Nat) : ∀ k, (lst0 z N k = N ∧ ∀ i, i < k → z i = 0) ∨ (lst0 z N k < k ∧ z (lst0 z N k) ≠ 0 ∧ ∀ i, lst0 z N k < i → i < k → z i = 0) := by
  intro k
  induction k with
  | zero => exact Or.inl ⟨rfl, fun i hi => by omega⟩
  | succ k ih =>
    unfold lst0
    by_cases q : z k = 0
    · rw [if_pos q]
      rcases ih with ⟨a, b⟩ | ⟨a, b, c⟩
      · refine Or.inl ⟨a, fun i hi => ?_⟩
        rcases Nat.lt_or_ge i k with p | p
        · exact b i p
        · have : i = k := by omega
          rw [this]; exact q
      · refine Or.inr ⟨by omega, b, fun i h1 h2 => ?_⟩
        rcases Nat.lt_or_ge i k with p | p
        · exact c i h1 p
        · have : i = k := by omega
          rw [this]; exact q
    · rw [if_neg q]
      exact Or.inr ⟨by omega, q, fun i h1 h2 => by omega⟩
theorem tdiv_z {z : Nat → Int} {N i : Nat} (h : i < N) : (z i).tdiv (gcdN z N) = 0 ↔ z i = 0 := by
  constructor
  · intro q
    have hd := gcdN_dvd (z := z) h
    have := Int.mul_tdiv_cancel' hd
    rw [q, Int.mul_zero] at this
    exact this.symm
  · intro q; rw [q]; exact Int.zero_tdiv _
theorem goneC_goneC {σ : cS} {r N : Nat} {f g : Nat → Int64} : goneC (goneC σ r N f) r N g = goneC σ r N g := by
  unfold goneC
  rw [cUR_cUR, cUR_at]
  congr 1
  funext k
  by_cases q : k < N
  · rw [if_pos q, if_pos q]
  · rw [if_neg q, if_neg q, if_neg q]
theorem goneC_row {σ : cS} {r N : Nat} {z : Nat → Int} (h : ∀ i, i < N → r63 (z i)) : rowIs ((goneC σ r N (fun k => iL (z k))).1 r) N z := by
  intro i hi
  refine ⟨?_, h i hi⟩
  unfold goneC
  rw [cUR_at]
  show (if i < N then iL (z i) else σ.1 r i) = iL (z i)
  rw [if_pos hi]
theorem tidy_neg {z : Nat → Int} {N t : Nat} (h : (z t).tdiv (gcdN z N) < 0) : tidyN z N t = fun k => -((z k).tdiv (gcdN z N)) := by funext k; unfold tidyN; rw [if_pos h]
theorem tidy_pos {z : Nat → Int} {N t : Nat} (h : ¬ (z t).tdiv (gcdN z N) < 0) : tidyN z N t = fun k => (z k).tdiv (gcdN z N) := by funext k; unfold tidyN; rw [if_neg h]
theorem tidy_all0 {z : Nat → Int} {N t : Nat} (h : ∀ i, i < N → z i = 0) : tidyN z N t = fun k => (z k).tdiv (gcdN z N) := by
  refine tidy_pos ?_
  have : gcdN z N = 0 := by
    clear t
    induction N with
    | zero => rfl
    | succ N ih =>
      show Int.gcd (gcdN z N) (z N) = 0
      rw [h N (by omega), ih (fun i hi => h i (by omega))]
      rfl
  rw [this]
  show ¬ (z t).tdiv 0 < 0
  rw [Int.tdiv_zero]
  decide
theorem sp_tidyT {Q : cS → Prop} {r N t : Nat} {σ : cS} {z : Nat → Int} (hN : cLen r = N) (hN2 : N < 500) (hz : rowIs (σ.1 r) N z) (ht : t < N) (h : Q (goneC σ r N (fun k => iL (tidyN z N t k)))) : v_X6_turn Q r (nI t) (goneC σ r N (fun k => iL ((z k).tdiv (gcdN z N)))) := by
  refine sp_turn (z := fun k => (z k).tdiv (gcdN z N)) hN hN2 (goneC_row (fun i hi => tdiv_r63 (hz i hi).2)) (fun q => ?_) (fun t' ht' e q => ?_)
  · rw [tidy_pos (q t ht rfl)] at h; exact h
  · have : t = t' := (nI_eq (by omega) (by omega)).mp e
    subst this
    rw [tidy_neg q] at h
    rw [goneC_goneC]; exact h
theorem sp_tidyF {Q : cS → Prop} {r N : Nat} {σ : cS} {z : Nat → Int} (hN : cLen r = N) (hN2 : N < 500) (hz : rowIs (σ.1 r) N z) (h : Q (goneC σ r N (fun k => iL (tidyN z N (fst0 z N) k)))) : v_X6_takeOffDivisor (fun σ1 => v_X6_first (fun u σ2 => v_X6_turn Q r u σ2) r σ1) r σ := by
  refine sp_takeOff hN hN2 hz ?_
  have hrow := goneC_row (σ := σ) (r := r) (N := N) (z := fun k => (z k).tdiv (gcdN z N)) (fun i hi => tdiv_r63 (hz i hi).2)
  have hz0 : ∀ i, i < N → ((goneC σ r N (fun k => iL ((z k).tdiv (gcdN z N)))).1 r i = 0 ↔ z i = 0) := fun i hi => by rw [(hrow i hi).1, iL0 (hrow i hi).2]; exact tdiv_z hi
  refine sp_first hN hN2 (fun i hi hne hl => ?_) (fun h0 => ?_)
  · have hi0 : z i ≠ 0 := fun q => hne ((hz0 i hi).mpr q)
    have e : fst0 z N = i := by
      rcases fst0_facts z N with ⟨_, b⟩ | ⟨a, b, c⟩
      · exact absurd (b i hi) hi0
      · rcases Nat.lt_trichotomy (fst0 z N) i with q | q | q
        · exact absurd ((hz0 _ a).mp (hl _ q)) b
        · exact q
        · exact absurd (c i q) hi0
    rw [e] at h
    exact sp_tidyT hN hN2 hz hi h
  · have h00 : ∀ i, i < N → z i = 0 := fun i hi => (hz0 i hi).mp (h0 i hi)
    rw [tidy_all0 h00] at h
    refine sp_turn hN hN2 hrow (fun _ => h) (fun t ht e => ?_)
    exact absurd e (fun q => absurd (show (-1 : Int32) < 0 by decide) (by rw [q]; exact nI_pos (by omega)))
theorem sp_tidyL {Q : cS → Prop} {r N : Nat} {σ : cS} {z : Nat → Int} (hN : cLen r = N) (hN2 : N < 500) (hz : rowIs (σ.1 r) N z) (h : Q (goneC σ r N (fun k => iL (tidyN z N (lst0 z N N) k)))) : v_X6_takeOffDivisor (fun σ1 => v_X6_last (fun u σ2 => v_X6_turn Q r u σ2) r σ1) r σ := by
  refine sp_takeOff hN hN2 hz ?_
  have hrow := goneC_row (σ := σ) (r := r) (N := N) (z := fun k => (z k).tdiv (gcdN z N)) (fun i hi => tdiv_r63 (hz i hi).2)
  have hz0 : ∀ i, i < N → ((goneC σ r N (fun k => iL ((z k).tdiv (gcdN z N)))).1 r i = 0 ↔ z i = 0) := fun i hi => by rw [(hrow i hi).1, iL0 (hrow i hi).2]; exact tdiv_z hi
  refine sp_last hN hN2 (fun i hi hne hl => ?_) (fun h0 => ?_)
  · have hi0 : z i ≠ 0 := fun q => hne ((hz0 i hi).mpr q)
    have e : lst0 z N N = i := by
      rcases lst0_facts z N N with ⟨_, b⟩ | ⟨a, b, c⟩
      · exact absurd (b i hi) hi0
      · rcases Nat.lt_trichotomy (lst0 z N N) i with q | q | q
        · exact absurd (c i q hi) hi0
        · exact q
        · exact absurd ((hz0 _ a).mp (hl _ q a)) b
    rw [e] at h
    exact sp_tidyT hN hN2 hz hi h
  · have h00 : ∀ i, i < N → z i = 0 := fun i hi => (hz0 i hi).mp (h0 i hi)
    rw [tidy_all0 h00] at h
    refine sp_turn hN hN2 hrow (fun _ => h) (fun t ht e => ?_)
    exact absurd e (fun q => absurd (show (-1 : Int32) < 0 by decide) (by rw [q]; exact nI_pos (by omega)))
/-- bounds of THE EQUATION before it is tidied -/
theorem one3_ab (c : Nat) : ab (one3 c) 1 := by
  unfold one3
  split
  · unfold ab; decide
  · unfold ab; decide
theorem mid3_ab {v : Nat → Int} (h : sm9 v) (c : Nat) : ab (mid3 v c) 324 := ab_add (fo3_ab h (i := 3) (j := 0) (by decide) (by decide) c) (fo3_ab h (i := 2) (j := 1) (by decide) (by decide) c)
theorem ff3_ab {v : Nat → Int} (h : sm9 v) (c : Nat) : ab (ff3 v c) 162 := by
  unfold ff3
  split
  · exact fo3_ab h (by decide) (by decide) c
  split
  · exact fo3_ab h (by decide) (by decide) c
  split
  · exact fo3_ab h (by decide) (by decide) c
  split
  · exact fo3_ab h (by decide) (by decide) c
  split
  · exact fo3_ab h (by decide) (by decide) c
  split
  · exact fo3_ab h (by decide) (by decide) c
  · exact ab_le (one3_ab c) (by decide)
theorem sum3_ab {f : Nat → Int} {A : Nat} (h : ∀ c, ab (f c) A) : ab (sum3 f) (A + A + A) := ab_add (ab_add (h 0) (h 1)) (h 2)
theorem pr3_ab {F G H : Nat → Int} {A B C : Nat} (hF : ∀ c, ab (F c) A) (hG : ∀ c, ab (G c) B) (hH : ∀ c, ab (H c) C) (p : Nat) : ab (pr3 F G H p) (27 * (A * B * C)) := by
  have : ab (pr3 F G H p) _ := sum3_ab (fun i => sum3_ab (fun j => sum3_ab (fun k => (by
    split
    · exact ab_mul (ab_mul (hF i) (hG j)) (hH k)
    · exact ab_0 : ab (if plc i j k = p then F i * G j * H k else 0) (A * B * C)))))
  exact ab_le this (by omega)
theorem eqr_ab {v : Nat → Int} (h : sm9 v) (p : Nat) : ab (eqr v p) 1000000000 := by
  have f : ∀ i j, i < 4 → j < 4 → ∀ c, ab (fo3 v i j c) 162 := fun i j hi hj c => fo3_ab h hi hj c
  have f10 := f 1 0 (by decide) (by decide)
  have f20 := f 2 0 (by decide) (by decide)
  have f21 := f 2 1 (by decide) (by decide)
  have f30 := f 3 0 (by decide) (by decide)
  have f31 := f 3 1 (by decide) (by decide)
  have f32 := f 3 2 (by decide) (by decide)
  unfold eqr
  split
  · exact ab_0
  split
  · exact ab_le (pr3_ab (ff3_ab h) one3_ab one3_ab p) (by decide)
  split
  · exact ab_le (ab_sub (pr3_ab f10 f21 one3_ab p) (pr3_ab f20 f20 one3_ab p)) (by decide)
  · exact ab_le (ab_sub (ab_sub (ab_sub (ab_add (pr3_ab f10 (mid3_ab h) f32 p) (ab_mul (a := 2) (A := 2) (by unfold ab; decide) (pr3_ab f20 f30 f31 p))) (pr3_ab f10 f31 f31 p)) (pr3_ab (mid3_ab h) f30 f30 p)) (pr3_ab f32 f20 f20 p)) (by decide)
/-- form number f -/
def frm (v : Nat → Int) (f : Nat) : Nat → Int := if f < 6 then fo3 v (lf6 f) (rt6 f) else if f = 6 then mid3 v else one3
theorem forms8_F {σ : cS} {v : Nat → Int} (h : forms8 σ v) {f : Nat} (hf : f < 8) : isF σ f (frm v f) := by
  refine ⟨hf, fun c hc => ?_⟩
  unfold frm
  by_cases q : f < 6
  · rw [if_pos q]; exact h.1 f q c hc
  · rw [if_neg q]
    by_cases p : f = 6
    · rw [if_pos p, p]; exact h.2.1 c hc
    · rw [if_neg p, show f = 7 by omega]; exact h.2.2 c hc
theorem st_ff {Q : Int32 → cS → Prop} {n f : Nat} {σ : cS} {v : Nat → Int} (hs : sm9 v) (h8 : forms8 σ v) (hf : f < 6) (h1 : nz3 (frm v f) → Q (nI f) σ) (h0 : ¬ nz3 (frm v f) → v_X4_firstForm_2 Q n (nI (f + 1)) σ) : v_X4_firstForm_2 Q (n + 1) (nI f) σ := by
  have hF := forms8_F h8 (show f < 8 by omega)
  have e : frm v f = fo3 v (lf6 f) (rt6 f) := by unfold frm; rw [if_pos hf]
  have z : ∀ c, c < 3 → (σ.1 10 (3 * f + c) = 0 ↔ frm v f c = 0) := fun c hc => by rw [hF.2 c hc]; refine iL0 (ab_r (A := 162) ?_); rw [e]; exact fo3_ab hs (tL6 hf).2.2.1 (tL6 hf).2.2.2 c
  unfold v_X4_firstForm_2 v_X4_firstForm_50
  refine ⟨fun q => absurd q (nI_nlt (a := 5) (by omega) (by decide)), fun _ => ?_⟩
  rw [show (3 : Int32) = nI 3 from rfl, show (1 : Int32) = nI 1 from rfl, show (2 : Int32) = nI 2 from rfl, pk_mul]
  simp only [nI_add]
  rw [nI_clamp (show 3 * f < 2 ^ 31 by omega), nI_clamp (show 3 * f + 1 < 2 ^ 31 by omega), nI_clamp (show 3 * f + 2 < 2 ^ 31 by omega)]
  rw [z 1 (by decide), z 2 (by decide), show (3 * f) = 3 * f + 0 from rfl, z 0 (by decide)]
  refine ⟨vp_in_nI (show 3 * f + 0 < 24 by omega) (by decide), fun q => h1 (fun w => q w.1), fun q0 => ⟨vp_in_nI (show 3 * f + 1 < 24 by omega) (by decide), fun q => h1 (fun w => q w.2.1), fun q1 => ⟨vp_in_nI (show 3 * f + 2 < 24 by omega) (by decide), fun q2 => nmB_iff.mpr (h0 (fun w => w ⟨q0, q1, q2⟩)), fun q => h1 (fun w => q w.2.2)⟩⟩⟩
theorem sp_ff {Q : Int32 → cS → Prop} {σ : cS} {v : Nat → Int} (hs : sm9 v) (h8 : forms8 σ v) (h : ∀ f, f < 8 → frm v f = ff3 v → Q (nI f) σ) : v_X4_firstForm Q σ := by
  unfold v_X4_firstForm
  refine st_ff (f := 0) hs h8 (by decide) (fun p => h 0 (by decide) ?_) (fun p0 => ?_)
  · unfold ff3; rw [if_pos (c := ¬ (fo3 v 1 0 0 = 0 ∧ fo3 v 1 0 1 = 0 ∧ fo3 v 1 0 2 = 0)) p]; rfl
  refine st_ff (f := 1) hs h8 (by decide) (fun p => h 1 (by decide) ?_) (fun p1 => ?_)
  · unfold ff3; rw [if_neg (c := ¬ (fo3 v 1 0 0 = 0 ∧ fo3 v 1 0 1 = 0 ∧ fo3 v 1 0 2 = 0)) p0, if_pos (c := ¬ (fo3 v 2 0 0 = 0 ∧ fo3 v 2 0 1 = 0 ∧ fo3 v 2 0 2 = 0)) p]; rfl
  refine st_ff (f := 2) hs h8 (by decide) (fun p => h 2 (by decide) ?_) (fun p2 => ?_)
  · unfold ff3; rw [if_neg (c := ¬ (fo3 v 1 0 0 = 0 ∧ fo3 v 1 0 1 = 0 ∧ fo3 v 1 0 2 = 0)) p0, if_neg (c := ¬ (fo3 v 2 0 0 = 0 ∧ fo3 v 2 0 1 = 0 ∧ fo3 v 2 0 2 = 0)) p1, if_pos (c := ¬ (fo3 v 3 0 0 = 0 ∧ fo3 v 3 0 1 = 0 ∧ fo3 v 3 0 2 = 0)) p]; rfl
  refine st_ff (f := 3) hs h8 (by decide) (fun p => h 3 (by decide) ?_) (fun p3 => ?_)
  · unfold ff3; rw [if_neg (c := ¬ (fo3 v 1 0 0 = 0 ∧ fo3 v 1 0 1 = 0 ∧ fo3 v 1 0 2 = 0)) p0, if_neg (c := ¬ (fo3 v 2 0 0 = 0 ∧ fo3 v 2 0 1 = 0 ∧ fo3 v 2 0 2 = 0)) p1, if_neg (c := ¬ (fo3 v 3 0 0 = 0 ∧ fo3 v 3 0 1 = 0 ∧ fo3 v 3 0 2 = 0)) p2, if_pos (c := ¬ (fo3 v 2 1 0 = 0 ∧ fo3 v 2 1 1 = 0 ∧ fo3 v 2 1 2 = 0)) p]; rfl
  refine st_ff (f := 4) hs h8 (by decide) (fun p => h 4 (by decide) ?_) (fun p4 => ?_)
  · unfold ff3; rw [if_neg (c := ¬ (fo3 v 1 0 0 = 0 ∧ fo3 v 1 0 1 = 0 ∧ fo3 v 1 0 2 = 0)) p0, if_neg (c := ¬ (fo3 v 2 0 0 = 0 ∧ fo3 v 2 0 1 = 0 ∧ fo3 v 2 0 2 = 0)) p1, if_neg (c := ¬ (fo3 v 3 0 0 = 0 ∧ fo3 v 3 0 1 = 0 ∧ fo3 v 3 0 2 = 0)) p2, if_neg (c := ¬ (fo3 v 2 1 0 = 0 ∧ fo3 v 2 1 1 = 0 ∧ fo3 v 2 1 2 = 0)) p3, if_pos (c := ¬ (fo3 v 3 1 0 = 0 ∧ fo3 v 3 1 1 = 0 ∧ fo3 v 3 1 2 = 0)) p]; rfl
  refine st_ff (f := 5) hs h8 (by decide) (fun p => h 5 (by decide) ?_) (fun p5 => ?_)
  · unfold ff3; rw [if_neg (c := ¬ (fo3 v 1 0 0 = 0 ∧ fo3 v 1 0 1 = 0 ∧ fo3 v 1 0 2 = 0)) p0, if_neg (c := ¬ (fo3 v 2 0 0 = 0 ∧ fo3 v 2 0 1 = 0 ∧ fo3 v 2 0 2 = 0)) p1, if_neg (c := ¬ (fo3 v 3 0 0 = 0 ∧ fo3 v 3 0 1 = 0 ∧ fo3 v 3 0 2 = 0)) p2, if_neg (c := ¬ (fo3 v 2 1 0 = 0 ∧ fo3 v 2 1 1 = 0 ∧ fo3 v 2 1 2 = 0)) p3, if_neg (c := ¬ (fo3 v 3 1 0 = 0 ∧ fo3 v 3 1 1 = 0 ∧ fo3 v 3 1 2 = 0)) p4, if_pos (c := ¬ (fo3 v 3 2 0 = 0 ∧ fo3 v 3 2 1 = 0 ∧ fo3 v 3 2 2 = 0)) p]; rfl
  unfold v_X4_firstForm_2
  refine ⟨fun _ => h 7 (by decide) ?_, fun q => absurd (by decide) q⟩
  unfold ff3; rw [if_neg (c := ¬ (fo3 v 1 0 0 = 0 ∧ fo3 v 1 0 1 = 0 ∧ fo3 v 1 0 2 = 0)) p0, if_neg (c := ¬ (fo3 v 2 0 0 = 0 ∧ fo3 v 2 0 1 = 0 ∧ fo3 v 2 0 2 = 0)) p1, if_neg (c := ¬ (fo3 v 3 0 0 = 0 ∧ fo3 v 3 0 1 = 0 ∧ fo3 v 3 0 2 = 0)) p2, if_neg (c := ¬ (fo3 v 2 1 0 = 0 ∧ fo3 v 2 1 1 = 0 ∧ fo3 v 2 1 2 = 0)) p3, if_neg (c := ¬ (fo3 v 3 1 0 = 0 ∧ fo3 v 3 1 1 = 0 ∧ fo3 v 3 1 2 = 0)) p4, if_neg (c := ¬ (fo3 v 3 2 0 = 0 ∧ fo3 v 3 2 1 = 0 ∧ fo3 v 3 2 2 = 0)) p5]; rfl
