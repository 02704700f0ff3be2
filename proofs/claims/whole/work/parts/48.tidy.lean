/-! PURE: tidied rows that are multiples of one another are the same -/
def td (z : Nat → Int) (N : Nat) : Nat → Int := tidyN z N (fst0 z N)
theorem fst0_eq {z : Nat → Int} {N t : Nat} (ht : t < N) (h : z t ≠ 0) (hl : ∀ i, i < t → z i = 0) : fst0 z N = t := by
  rcases fst0_facts z N with ⟨_, b⟩ | ⟨a, b, c⟩
  · exact absurd (b t ht) h
  · rcases Nat.lt_trichotomy (fst0 z N) t with q | q | q
    · exact absurd (hl _ q) b
    · exact q
    · exact absurd (c t q) h
theorem fst0_congr {z z' : Nat → Int} {N : Nat} (h : ∀ i, i < N → (z i = 0 ↔ z' i = 0)) : fst0 z N = fst0 z' N := by
  rcases fst0_facts z' N with ⟨a, b⟩ | ⟨a, b, c⟩
  · rw [a]
    rcases fst0_facts z N with ⟨a', _⟩ | ⟨a', b', _⟩
    · exact a'
    · exact absurd ((h _ a').mpr (b _ a')) b'
  · exact fst0_eq a (fun q => b ((h _ a).mp q)) (fun i hi => (h i (by omega)).mpr (c i hi))
theorem tidyN_congr {z z' : Nat → Int} {N t : Nat} (h : ∀ i, i < N → z i = z' i) (ht : t < N) {i : Nat} (hi : i < N) : tidyN z N t i = tidyN z' N t i := by
  unfold tidyN
  rw [gcdN_congr h, h t ht, h i hi]
theorem tidyN_zero {z : Nat → Int} {N t : Nat} (h : ∀ i, i < N → z i = 0) {i : Nat} (hi : i < N) : tidyN z N t i = 0 := by
  rw [tidy_all0 h]
  show (z i).tdiv _ = 0
  rw [h i hi]
  exact Int.zero_tdiv _
theorem td_congr {z z' : Nat → Int} {N : Nat} (h : ∀ i, i < N → z i = z' i) {i : Nat} (hi : i < N) : td z N i = td z' N i := by
  unfold td
  rw [fst0_congr (z := z) (z' := z') (fun i hi => by rw [h i hi])]
  rcases fst0_facts z' N with ⟨a, b⟩ | ⟨a, b, c⟩
  · rw [tidyN_zero b hi, tidyN_zero (fun i hi => by rw [h i hi]; exact b i hi) hi]
  · exact tidyN_congr h a hi
theorem gcdN_mul {a : Int} {z : Nat → Int} : ∀ N, gcdN (fun i => a * z i) N = a.natAbs * gcdN z N := by
  intro N
  induction N with
  | zero => rfl
  | succ N ih =>
    show Int.gcd (gcdN (fun i => a * z i) N) (a * z N) = a.natAbs * Int.gcd (gcdN z N) (z N)
    rw [ih]
    show Nat.gcd (a.natAbs * gcdN z N) (a * z N).natAbs = _
    rw [Int.natAbs_mul, Nat.gcd_mul_left]
    rfl
theorem gcdN_pos {z : Nat → Int} {N t : Nat} (ht : t < N) (h : z t ≠ 0) : 0 < gcdN z N := by
  rcases Nat.eq_zero_or_pos (gcdN z N) with q | q
  · exact absurd (gcdN_zero q t ht) h
  · exact q
/-- a number of the row, its sign taken along -/
theorem tdiv_mul_sgn {a x : Int} {g : Nat} (ha : a ≠ 0) (hg : 0 < g) (hd : (g : Int) ∣ x) : (a * x).tdiv ((a.natAbs * g : Nat) : Int) = a.sign * x.tdiv g := by
  obtain ⟨u, rfl⟩ := hd
  have hg' : (g : Int) ≠ 0 := by omega
  rw [Int.mul_tdiv_cancel_left u hg']
  have e : a * ((g : Int) * u) = ((a.natAbs * g : Nat) : Int) * (a.sign * u) := by
    rw [Int.natCast_mul]
    have : a = a.sign * (a.natAbs : Int) := (Int.sign_mul_natAbs a).symm
    generalize hs : a.sign = s at *
    generalize hn : (a.natAbs : Int) = n at *
    rw [this]
    grind
  have hne : ((a.natAbs * g : Nat) : Int) ≠ 0 := by
    have : 0 < a.natAbs * g := Nat.mul_pos (Int.natAbs_pos.mpr ha) hg
    omega
  rw [e, Int.mul_tdiv_cancel_left _ hne]
theorem td_smul {a : Int} {z : Nat → Int} {N : Nat} (ha : a ≠ 0) {i : Nat} (hi : i < N) : td (fun i => a * z i) N i = td z N i := by
  have e : fst0 (fun i => a * z i) N = fst0 z N := fst0_congr (fun i _ => by
    constructor
    · intro q
      rcases Int.mul_eq_zero.mp q with p | p
      · exact absurd p ha
      · exact p
    · intro q
      show a * z i = 0
      rw [q, Int.mul_zero])
  unfold td
  rw [e]
  rcases fst0_facts z N with ⟨_, b⟩ | ⟨ht, hn, _⟩
  · rw [tidyN_zero b hi, tidyN_zero (fun i hi => by rw [b i hi, Int.mul_zero]) hi]
  · generalize fst0 z N = t at *
    have hg := gcdN_pos ht hn
    unfold tidyN
    rw [gcdN_mul, tdiv_mul_sgn ha hg (gcdN_dvd ht), tdiv_mul_sgn ha hg (gcdN_dvd hi)]
    have hu : (z t).tdiv (gcdN z N) ≠ 0 := fun q => hn ((tdiv_z ht).mp q)
    rcases (show a.sign = 1 ∨ a.sign = -1 by
      rcases Int.lt_trichotomy a 0 with q | q | q
      · exact Or.inr (Int.sign_eq_neg_one_of_neg q)
      · exact absurd q ha
      · exact Or.inl (Int.sign_eq_one_of_pos q)) with s | s
    · rw [s, Int.one_mul, Int.one_mul]
    · rw [s]
      rcases Int.lt_trichotomy ((z t).tdiv (gcdN z N)) 0 with q | q | q
      · rw [if_neg (by omega), if_pos q]; omega
      · exact absurd q hu
      · rw [if_pos (by omega), if_neg (by omega)]; omega
theorem td_prop {a b : Int} {z z' : Nat → Int} {N : Nat} (ha : a ≠ 0) (hb : b ≠ 0) (h : ∀ i, i < N → a * z i = b * z' i) {i : Nat} (hi : i < N) : td z N i = td z' N i := by
  rw [← td_smul ha hi, ← td_smul (z := z') hb hi]
  exact td_congr h hi
theorem tidyN_ab {z : Nat → Int} {N t i A : Nat} (h : ab (z i) A) : ab (tidyN z N t i) A := by
  have h1 : ((z i).tdiv (gcdN z N)).natAbs ≤ (z i).natAbs := by rw [Int.natAbs_tdiv]; exact Nat.div_le_self _ _
  unfold tidyN ab at *
  split <;> omega
/-- a tidied row has the greatest common divisor 1 -/
theorem td_gcd {z : Nat → Int} {N t : Nat} (ht : t < N) (h : z t ≠ 0) : gcdN (td z N) N = 1 := by
  have hg := gcdN_pos ht h
  obtain ⟨s, hs, e⟩ : ∃ s : Int, (s = 1 ∨ s = -1) ∧ ∀ i, i < N → z i = (s * gcdN z N) * td z N i := by
    by_cases q : (z (fst0 z N)).tdiv (gcdN z N) < 0
    · refine ⟨-1, Or.inr rfl, fun i hi => ?_⟩
      unfold td; rw [tidy_neg q]
      show _ = _ * -((z i).tdiv (gcdN z N))
      have := Int.mul_tdiv_cancel' (gcdN_dvd (z := z) hi)
      grind
    · refine ⟨1, Or.inl rfl, fun i hi => ?_⟩
      unfold td; rw [tidy_pos q]
      show _ = _ * ((z i).tdiv (gcdN z N))
      have := Int.mul_tdiv_cancel' (gcdN_dvd (z := z) hi)
      grind
  have e2 := gcdN_congr e
  rw [gcdN_mul] at e2
  have e3 : (s * (gcdN z N : Int)).natAbs = gcdN z N := by rcases hs with rfl | rfl <;> omega
  rw [e3] at e2
  have : gcdN z N * 1 = gcdN z N * gcdN (td z N) N := by omega
  exact (Nat.eq_of_mul_eq_mul_left hg this).symm
