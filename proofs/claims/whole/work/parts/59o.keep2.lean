/-! PURE: the reference's division; keep -/
/-- how wide it is -/
theorem dvs_ab2 {p g q : Nat → Int} {lo : Nat} (h : dvs p g q lo) (hp : ∀ i, i < 4 → ab (p i) 13500) (hg : ∀ i, i < 4 → ab (g i) 18000000) (hg1 : lo = 1 → ∀ i, i < 4 → ab (g i) 13500) {c : Nat} (hc : c + lo < 4) : ab (g lo * q c) 10000000000000 := by
  obtain ⟨hlo, h0, hz, e, qz⟩ := h
  have e0 := e 0 (by decide); have e1 := e 1 (by decide); have e2 := e 2 (by decide); have e3 := e 3 (by decide)
  simp only [cv4] at e0 e1 e2 e3
  have b0 := hp 0 (by decide); have b1 := hp 1 (by decide); have b2 := hp 2 (by decide); have b3 := hp 3 (by decide)
  rcases (show lo = 0 ∨ lo = 1 ∨ lo = 2 ∨ lo = 3 by omega) with rfl | rfl | rfl | rfl
  · have g1 := hz 1 (by decide) (by decide); have g2 := hz 2 (by decide) (by decide); have g3 := hz 3 (by decide) (by decide)
    rw [g1] at e1 e2 e3
    rw [g2] at e2 e3
    rw [g3] at e3
    rcases (show c = 0 ∨ c = 1 ∨ c = 2 ∨ c = 3 by omega) with rfl | rfl | rfl | rfl
    · rw [← e0]; exact ab_le b0 (by decide)
    · have : p 1 = g 0 * q 1 := by simpa using e1
      rw [← this]; exact ab_le b1 (by decide)
    · have : p 2 = g 0 * q 2 := by simpa using e2
      rw [← this]; exact ab_le b2 (by decide)
    · have : p 3 = g 0 * q 3 := by simpa using e3
      rw [← this]; exact ab_le b3 (by decide)
  · have g2 := hz 2 (by decide) (by decide); have g3 := hz 3 (by decide) (by decide)
    have q3 := qz 3 (by decide) (by decide)
    rw [g2] at e2 e3
    rw [g3, q3] at e3
    have a2 : ab (g 1 * q 2) 13500 := by
      have : p 3 = g 1 * q 2 := by simpa using e3
      rw [← this]; exact b3
    have q2b := q_le h0 a2
    have gb := hg1 rfl 0 (by decide)
    have a1 : ab (g 1 * q 1) (13500 + 13500 * 13500) := by
      have : g 1 * q 1 = p 2 - g 0 * q 2 := by rw [e2]; simp; omega
      rw [this]; exact ab_sub b2 (ab_mul gb q2b)
    have q1b := q_le h0 a1
    have a0 : ab (g 1 * q 0) (13500 + 13500 * (13500 + 13500 * 13500)) := by
      have : g 1 * q 0 = p 1 - g 0 * q 1 := by rw [e1]; omega
      rw [this]; exact ab_sub b1 (ab_mul gb q1b)
    rcases (show c = 0 ∨ c = 1 ∨ c = 2 by omega) with rfl | rfl | rfl
    · exact ab_le a0 (by decide)
    · exact ab_le a1 (by decide)
    · exact ab_le a2 (by decide)
  · have g3 := hz 3 (by decide) (by decide)
    have q3 := qz 3 (by decide) (by decide); have q2 := qz 2 (by decide) (by decide)
    rw [g3, q3, q2] at e3
    rw [q2] at e2
    have a1 : ab (g 2 * q 1) 13500 := by
      have : p 3 = g 2 * q 1 := by simpa using e3
      rw [← this]; exact b3
    have q1b := q_le h0 a1
    have a0 : ab (g 2 * q 0) (13500 + 18000000 * 13500) := by
      have : g 2 * q 0 = p 2 - g 1 * q 1 := by rw [e2]; simp; omega
      rw [this]; exact ab_sub b2 (ab_mul (hg 1 (by decide)) q1b)
    rcases (show c = 0 ∨ c = 1 by omega) with rfl | rfl
    · exact ab_le a0 (by decide)
    · exact ab_le a1 (by decide)
  · have q3 := qz 3 (by decide) (by decide); have q2 := qz 2 (by decide) (by decide); have q1 := qz 1 (by decide) (by decide)
    rw [q3, q2, q1] at e3
    rw [show c = 0 by omega]
    have : p 3 = g 3 * q 0 := by simpa using e3
    rw [← this]; exact ab_le b3 (by decide)
theorem sp_divM1 {Q : mS → Prop} {n w lo : Nat} {σ : mS} {g p q : Nat → Int} (hw : w < 3) (hg : rw4 σ 4 g) (hd : dvs p g q lo) (hp : ∀ j, j < 4 → σ.1 3 (4 * w + j) = iL (p j)) (hb : ∀ c, c + lo < 4 → r63 (g lo * q c)) (nx : ∀ σ', mch (fun a => a = 3 ∨ a = 5) σ σ' → (∀ j, j < 4 → σ'.1 3 (4 * w + j) = iL (q j)) → (∀ i, (i < 4 * w ∨ 4 * w + 4 ≤ i) → σ'.1 3 i = σ.1 3 i) → w_divideMade_11 Q n (nI lo) (nI (4 * (w + 1))) σ') : w_divideMade_11 Q (n + 1) (nI lo) (nI (4 * w)) σ := by
  obtain ⟨hlo, h0, hz, epq, qz⟩ := id hd
  unfold w_divideMade_11
  refine ⟨fun y => absurd y (nI_ge (b := 12) (by omega) (by decide)), fun _ => ?_⟩
  have g4 : ∀ {u : mS}, mch (fun a => a = 3 ∨ a = 5) σ u → rw4 u 4 g := fun gu => rw4_ch hg gu (by decide)
  refine loopU (N := 4) (F := fun m k s => w_divideMade_19 Q (w_divideMade_11 Q n) m (nI lo) (nI (4 * w)) k s) (I := fun k s => mch (fun a => a = 3 ∨ a = 5) σ s ∧ (∀ j, j < 4 → s.1 3 (4 * w + j) = iL (if j < k then 0 else p j)) ∧ (∀ j, j < k → s.1 5 j = iL (p j)) ∧ ∀ i, (i < 4 * w ∨ 4 * w + 4 ≤ i) → s.1 3 i = σ.1 3 i) (by decide) ?_ ?_ σ ⟨mch_rf, fun j hj => by rw [if_neg (by omega)]; exact hp j hj, fun j hj => by omega, fun _ _ => rfl⟩
  · intro m k s hk ⟨a1, a2, a3, a4⟩ nx2
    show w_divideMade_19 Q (w_divideMade_11 Q n) (m + 1) (nI lo) (nI (4 * w)) (nI k) s
    unfold w_divideMade_19
    rw [nI_add, nI_clamp (show 4 * w + k < 2 ^ 31 by omega), nI_clamp (show k < 2 ^ 31 by omega), a2 k hk, if_neg (by omega), nI_1]
    refine ⟨fun y => absurd y (nI_ge (b := 4) hk (by decide)), fun _ => ⟨vp_in_nI (by omega) (by decide), vp_in_nI hk (by decide), nmB_iff.mpr ⟨vp_in_nI (by omega) (by decide), nmB_iff.mpr (nmB_iff.mpr (nx2 _ ⟨mch_t a1 (mch_t (mch_J (Or.inr rfl)) (mch_J (Or.inl rfl))), fun j hj => ?_, fun j hj => ?_, fun i hi => ?_⟩))⟩⟩⟩
    · rw [mUJ_at, mUJ_ne (by decide)]
      by_cases y : j = k
      · subst y; rw [updL_at, if_pos (by omega)]; rfl
      · rw [updL_ne (by omega), a2 j hj]
        by_cases y2 : j < k
        · rw [if_pos y2, if_pos (by omega)]
        · rw [if_neg y2, if_neg (by omega)]
    · rw [mUJ_ne (by decide), mUJ_at]
      rcases Nat.lt_or_ge j k with y | y
      · rw [updL_ne (by omega)]; exact a3 j y
      · rw [show j = k by omega, updL_at]
    · rw [mUJ_at, updL_ne (by omega), mUJ_ne (by decide)]; exact a4 i hi
  · intro m s ⟨a1, a2, a3, a4⟩
    show w_divideMade_19 Q (w_divideMade_11 Q n) (m + 1) (nI lo) (nI (4 * w)) (nI 4) s
    unfold w_divideMade_19
    refine ⟨fun _ => nmB_iff.mpr ?_, fun y => absurd (by decide) y⟩
    rw [show (3 : Int32) - nI lo = nI (4 - lo) + (-1) by
      rw [show (3 : Int32) = nI 3 from rfl, nI_sub2 (by omega), show 4 - lo = (3 - lo) + 1 by omega, pk_m1]]
    refine loopD (N := 4 - lo) (F := fun m c s => w_divideMade_57 Q (w_divideMade_11 Q n) m (nI lo) (nI (4 * w)) c s) (I := fun c s => mch (fun a => a = 3 ∨ a = 5) σ s ∧ (∀ j, j < 4 → s.1 5 j = iL (cv4 g (qt4 q c) j)) ∧ (∀ i, (i < 4 * w ∨ 4 * w + 4 ≤ i) → s.1 3 i = σ.1 3 i) ∧ ∀ k, k < 4 → s.1 3 (4 * w + k) = iL (if c ≤ k then q k else 0)) ?_ ?_ (4 - lo) fuL s (Nat.le_refl _) (by unfold fuL; omega) ⟨a1, fun j hj => ?_, a4, fun k hk => ?_⟩
    · intro m c s hc ⟨b1, b2, b3, b4⟩ nx2
      show w_divideMade_57 Q (w_divideMade_11 Q n) (m + 1) (nI lo) (nI (4 * w)) (nI c) s
      unfold w_divideMade_57
      have top := cv4_top hd (show c + lo < 4 by omega)
      have e5 : s.1 5 (lo + c) = iL (g lo * q c) := by rw [b2 (lo + c) (by omega), top]
      have rg := (hg lo hlo).2
      rw [nI_add, nI_add, nI_clamp (show lo + c < 2 ^ 31 by omega), nI_clamp (show lo < 2 ^ 31 by omega), nI_clamp (show 4 * w + c < 2 ^ 31 by omega), (g4 b1 lo hlo).1, e5, iL0 rg, iL_div (hb c (by omega)) rg, Int.mul_tdiv_cancel_left _ h0]
      refine ⟨fun y => absurd y (nI_pos (by omega)), fun _ => ⟨vp_in_nI (by omega) (by decide), vp_in_nI hlo (by decide), h0, nmB_iff.mpr ⟨vp_in_nI (by omega) (by decide), nmB_iff.mpr ?_⟩⟩⟩
      have d0 : mch (fun a => a = 3 ∨ a = 5) σ (mUJ s 3 (4 * w + c) (iL (q c))) := mch_t b1 (mch_J (Or.inl rfl))
      have d3 : ∀ i, (i < 4 * w ∨ 4 * w + 4 ≤ i) → (mUJ s 3 (4 * w + c) (iL (q c))).1 3 i = σ.1 3 i := fun i hi => by rw [mUJ_at, updL_ne (by omega)]; exact b3 i hi
      have d4 : ∀ k, k < 4 → (mUJ s 3 (4 * w + c) (iL (q c))).1 3 (4 * w + k) = iL (if c ≤ k then q k else 0) := by
        intro k hk
        rw [mUJ_at]
        rcases Nat.lt_trichotomy k c with y | y | y
        · rw [updL_ne (by omega), b4 k hk, if_neg (by omega), if_neg (by omega)]
        · subst y; rw [updL_at, if_pos (by omega)]
        · rw [updL_ne (by omega), b4 k hk, if_pos (by omega), if_pos (by omega)]
      refine loopU (N := lo + 1) (F := fun y i u => w_divideMade_91 Q (w_divideMade_11 Q n) (w_divideMade_57 Q (w_divideMade_11 Q n) m) y (nI lo) (nI (4 * w)) (nI c) (iL (q c)) i u) (I := fun i u => mch (fun a => a = 3 ∨ a = 5) σ u ∧ (∀ j, j < 4 → u.1 5 j = iL (cv4 g (qt4 q (c + 1)) j - (if c ≤ j ∧ j < c + i then q c * g (j - c) else 0))) ∧ (∀ i, (i < 4 * w ∨ 4 * w + 4 ≤ i) → u.1 3 i = σ.1 3 i) ∧ ∀ k, k < 4 → u.1 3 (4 * w + k) = iL (if c ≤ k then q k else 0)) (by omega) ?_ ?_ _ ⟨d0, fun j hj => by rw [mUJ_ne (by decide), b2 j hj, if_neg (by omega), Int.sub_zero], d3, d4⟩
      · intro y i u hi ⟨f1, f2, f3, f4⟩ nx3
        show w_divideMade_91 Q (w_divideMade_11 Q n) (w_divideMade_57 Q (w_divideMade_11 Q n) m) (y + 1) (nI lo) (nI (4 * w)) (nI c) (iL (q c)) (nI i) u
        unfold w_divideMade_91
        rw [nI_add, nI_clamp (show c + i < 2 ^ 31 by omega), nI_clamp (show i < 2 ^ 31 by omega), f2 (c + i) (by omega), if_neg (by omega), (g4 f1 i (by omega)).1, iL_mul, iL_sub, nI_1 i]
        have w4 := vp_in_nI (show c + i < 4 by omega) (show 4 < 2 ^ 31 by decide)
        refine ⟨fun z => absurd z (nI_nlt (by omega) (by omega)), fun _ => ⟨w4, vp_in_nI (by omega) (by decide), w4, nmB_iff.mpr (nmB_iff.mpr (nx3 _ ⟨mch_t f1 (mch_J (Or.inr rfl)), fun j hj => ?_, fun i' hi' => ?_, fun k hk => ?_⟩))⟩⟩
        · rw [mUJ_at]
          by_cases z : j = c + i
          · subst z
            rw [updL_at, if_pos (by omega), show c + i - c = i by omega, Int.sub_zero]
          · rw [updL_ne z, f2 j hj]
            congr 2
            by_cases z2 : c ≤ j ∧ j < c + i
            · rw [if_pos z2, if_pos (by omega)]
            · rw [if_neg z2, if_neg (by omega)]
        · rw [mUJ_ne (by decide)]; exact f3 i' hi'
        · rw [mUJ_ne (by decide)]; exact f4 k hk
      · intro y u ⟨f1, f2, f3, f4⟩
        show w_divideMade_91 Q (w_divideMade_11 Q n) (w_divideMade_57 Q (w_divideMade_11 Q n) m) (y + 1) (nI lo) (nI (4 * w)) (nI c) (iL (q c)) (nI (lo + 1)) u
        unfold w_divideMade_91
        refine ⟨fun _ => nmB_iff.mpr (nx2 u ⟨f1, fun j hj => ?_, f3, f4⟩), fun z => absurd (nI_lt (by omega) (by omega)) z⟩
        rw [f2 j hj, cv4_st g q (show c < 4 by omega) hj]
        congr 1
        by_cases z : c ≤ j
        · rw [if_pos z]
          by_cases z2 : j < c + (lo + 1)
          · rw [if_pos ⟨z, z2⟩]; omega
          · rw [if_neg (by omega), hz (j - c) (by omega) (by omega)]; simp
        · rw [if_neg z, if_neg (by omega)]; omega
    · intro m s ⟨b1, b2, b3, b4⟩
      show w_divideMade_57 Q (w_divideMade_11 Q n) (m + 1) (nI lo) (nI (4 * w)) (-1) s
      unfold w_divideMade_57
      refine ⟨fun _ => nmB_iff.mpr ?_, fun y => absurd (by decide) y⟩
      rw [show nI (4 * w) + 4 = nI (4 * (w + 1)) from nI_add (4 * w) 4]
      refine nx s b1 (fun j hj => ?_) b3
      rw [b4 j hj, if_pos (by omega)]
    · rw [a3 j hj, epq j hj]
      congr 1
      have : ∀ i, i < 4 → qt4 q (4 - lo) i = q i := by
        intro i hi
        unfold qt4
        by_cases y : i < 4 - lo
        · rw [if_pos y]
        · rw [if_neg y, qz i (by omega) hi]
      rcases (show j = 0 ∨ j = 1 ∨ j = 2 ∨ j = 3 by omega) with rfl | rfl | rfl | rfl <;> simp only [cv4, this 0 (by decide), this 1 (by decide), this 2 (by decide), this 3 (by decide)]
    · rw [a2 k hk, if_pos hk]
      by_cases y : 4 - lo ≤ k
      · rw [if_pos y, qz k (by omega) hk]
      · rw [if_neg y]
/-- the tail of keep: the numbers are lowered, and kept where they fit -/
theorem sp_keepT {Q : Int32 → mS → Prop} {j : Nat} {σ : mS} {u : Nat → Int} (hj : j < 4) (hu : ∀ i, i < 12 → σ.1 3 i = iL (u i) ∧ r63 (u i)) (hW : ∃ k, k < 4 ∧ u (8 + k) ≠ 0) (yes : ∀ t, 8 ≤ t → t < 12 → u t ≠ 0 → (∀ i, t < i → i < 12 → u i = 0) → ((∀ i, i < 12 → ab (tidyN u 12 t i) 9) → ∀ τ' : mS, (∀ a, a ≠ 2 → a ≠ 3 → τ'.1 a = σ.1 a) → (∀ i, i < 12 → τ'.1 2 (12 * j + i) = iL (tidyN u 12 t i)) → (∀ i, (i < 12 * j ∨ 12 * j + 12 ≤ i) → τ'.1 2 i = σ.1 2 i) → τ'.2 = (mUI σ 1 j 1).2 → w_kindOf (fun u102 σ103 => Q u102 σ103) (nI j) τ') ∧ (¬ (∀ i, i < 12 → ab (tidyN u 12 t i) 9) → ∀ τ', mch (fun a => a = 3) σ τ' → Q (-2) τ')) : w_keep_99 Q fuL (nI j) 0 0 σ := by
  have hg63 := gcdN_lt (z := u) (N := 12) (fun i hi => (hu i hi).2)
  have r0 : r63 0 := by unfold r63; omega
  rw [show w_keep_99 Q fuL (nI j) (0 : Int64) 0 σ = (fun n c (s : Int64) => w_keep_99 Q n (nI j) s c σ) fuL 0 0 from rfl]
  refine loopU (N := 12) (F := fun n c (s : Int64) => w_keep_99 Q n (nI j) s c σ) (I := fun c s => s = iL (gcdN u c)) (by decide) ?_ ?_ 0 rfl
  · intro n c s hc hs nx
    subst hs
    show w_keep_99 Q (n + 1) (nI j) (iL (gcdN u c)) (nI c) σ
    unfold w_keep_99
    rw [nI_clamp (show c < 2 ^ 31 by omega), (hu c hc).1]
    refine ⟨fun q => absurd q (nI_ge (b := 12) hc (by decide)), fun _ => ⟨vp_in_nI hc (by decide), sp_common (nat_r63 (hg63 c (by omega))) (hu c hc).2 (nmB_iff.mpr ?_)⟩⟩
    rw [nI_1]
    exact nx _ rfl
  · intro n s hs
    subst hs
    show w_keep_99 Q (n + 1) (nI j) (iL (gcdN u 12)) (nI 12) σ
    unfold w_keep_99
    refine ⟨fun _ => ?_, fun q => absurd (by decide) q⟩
    refine sp_dM (a := 8) (p := zw u 2) (by decide) (by decide) (fun i hi => hu (8 + i) (by omega)) ?_
    obtain ⟨k0, hk0, hk0n⟩ := hW
    rcases mz_facts (zw u 2) with ⟨_, a⟩ | ⟨a, b, c, d⟩
    · exact absurd (a k0 hk0) hk0n
    have et : iI ((mz4 (zw u 2) : Int) - 1) = nI (mz4 (zw u 2) - 1) := by rw [iI_nat]; congr 1; omega
    rw [et, show (8 : Int32) = nI 8 from rfl, nI_add]
    have t8 : 8 ≤ 8 + (mz4 (zw u 2) - 1) := by omega
    have t12 : 8 + (mz4 (zw u 2) - 1) < 12 := by omega
    have tn : u (8 + (mz4 (zw u 2) - 1)) ≠ 0 := c
    have tz : ∀ i, 8 + (mz4 (zw u 2) - 1) < i → i < 12 → u i = 0 := fun i i1 i2 => by
      have := d (i - 8) (by omega) (by omega)
      unfold zw at this
      rwa [show 4 * 2 + (i - 8) = i by omega] at this
    revert t8 t12 tn tz
    generalize 8 + (mz4 (zw u 2) - 1) = t
    intro t8 t12 tn tz
    obtain ⟨Y1, Y0⟩ := yes t t8 t12 tn tz
    rw [nI_clamp (show t < 2 ^ 31 by omega), (hu t t12).1, iL_0, iL_le r0 (hu t t12).2, iL_neg]
    have hgp := gcdN_pos t12 tn
    have rg := nat_r63 (hg63 12 (Nat.le_refl _))
    -- the loop that divides and asks
    have dv : ∀ g : Int, r63 g → g ≠ 0 → (∀ i, i < 12 → (u i).tdiv g = tidyN u 12 t i) → w_keep_152 Q (nI j) (iL g) σ := by
      intro g hg hg0 eg
      unfold w_keep_152
      refine loopU (N := 12) (F := fun n c s => w_keep_156 Q n (nI j) (iL g) c s) (I := fun c s => mch (fun a => a = 3) σ s ∧ (∀ i, i < 12 → s.1 3 i = iL (if i < c then tidyN u 12 t i else u i)) ∧ ∀ i, i < c → ab (tidyN u 12 t i) 9) (by decide) ?_ ?_ σ ⟨mch_rf, fun i hi => by rw [if_neg (by omega)]; exact (hu i hi).1, fun i hi => by omega⟩
      · intro n c s hc ⟨a1, a2, a3⟩ nx
        show w_keep_156 Q (n + 1) (nI j) (iL g) (nI c) s
        unfold w_keep_156
        have w12 := vp_in_nI hc (show 12 < 2 ^ 31 by decide)
        have rt : r63 (tidyN u 12 t c) := by rw [← eg c hc]; exact tdiv_r63 (hu c hc).2
        rw [nI_clamp (show c < 2 ^ 31 by omega), iL0 hg, a2 c hc, if_neg (by omega), iL_div (hu c hc).2 hg, eg c hc]
        refine ⟨fun q => absurd q (nI_ge (b := 12) hc (by decide)), fun _ => ⟨w12, hg0, w12, nmB_iff.mpr ⟨w12, ?_⟩⟩⟩
        rw [mUJ_at, updL_at]
        refine sp_in64 (p := -9) (q := 9) rt (by decide) (by decide) (fun w => ⟨fun _ => nmB_iff.mpr ?_, fun z => absurd z (by decide)⟩) (fun w => ⟨fun z => absurd rfl z, fun _ => Y0 (fun z => w ?_) _ (mch_t a1 (mch_J rfl))⟩)
        · rw [nI_1]
          refine nx _ ⟨mch_t a1 (mch_J rfl), fun i hi => ?_, fun i hi => ?_⟩
          · rw [mUJ_at]
            rcases Nat.lt_trichotomy i c with y | y | y
            · rw [updL_ne (by omega), a2 i hi, if_pos y, if_pos (by omega)]
            · subst y; rw [updL_at, if_pos (by omega)]
            · rw [updL_ne (by omega), a2 i hi, if_neg (by omega), if_neg (by omega)]
          · rcases Nat.lt_or_ge i c with y | y
            · exact a3 i y
            · rw [show i = c by omega]; exact ab_i.mpr w
        · exact ab_i.mp (z c hc)
      · intro n s ⟨a1, a2, a3⟩
        show w_keep_156 Q (n + 1) (nI j) (iL g) (nI 12) s
        unfold w_keep_156
        refine ⟨fun _ => ?_, fun q => absurd (by decide) q⟩
        refine loopU (N := 12) (F := fun n c y => w_keep_205 Q n (nI j) c y) (I := fun c y => (∀ a, a ≠ 2 → a ≠ 3 → y.1 a = σ.1 a) ∧ y.1 3 = s.1 3 ∧ y.2 = σ.2 ∧ (∀ i, i < c → y.1 2 (12 * j + i) = iL (tidyN u 12 t i)) ∧ ∀ i, (i < 12 * j ∨ 12 * j + c ≤ i) → y.1 2 i = σ.1 2 i) (by decide) ?_ ?_ s ⟨fun a _ h3 => a1.1 a h3, rfl, a1.2, fun i hi => by omega, fun i _ => by rw [a1.1 2 (by decide)]⟩
        · intro n c y hc ⟨b1, b2, b3, b4, b5⟩ nx
          show w_keep_205 Q (n + 1) (nI j) (nI c) y
          unfold w_keep_205
          rw [show (12 : Int32) = nI 12 from rfl, pk_mul, nI_add, nI_clamp (show c < 2 ^ 31 by omega), nI_clamp (show 12 * j + c < 2 ^ 31 by omega), b2, a2 c hc, if_pos hc, nI_1]
          refine ⟨fun q => absurd q (nI_ge hc (by decide)), fun _ => ⟨vp_in_nI hc (by decide), vp_in_nI (by omega) (by decide), nmB_iff.mpr (nmB_iff.mpr (nx _ ⟨fun a h2 h3 => by rw [mUJ_ne h2]; exact b1 a h2 h3, by rw [mUJ_ne (by decide)]; exact b2, b3, fun i hi => ?_, fun i hi => ?_⟩))⟩⟩
          · rw [mUJ_at]
            rcases Nat.lt_or_ge i c with z | z
            · rw [updL_ne (by omega)]; exact b4 i z
            · rw [show i = c by omega, updL_at]
          · rw [mUJ_at, updL_ne (by omega)]; exact b5 i (by omega)
        · intro n y ⟨b1, b2, b3, b4, b5⟩
          show w_keep_205 Q (n + 1) (nI j) (nI 12) y
          unfold w_keep_205
          refine ⟨fun _ => ⟨vp_in_nI hj (by decide), nmB_iff.mpr ?_⟩, fun q => absurd (by decide) q⟩
          rw [nI_clamp (show j < 2 ^ 31 by omega), bl1]
          refine Y1 (fun i hi => a3 i hi) _ (fun a h2 h3 => b1 a h2 h3) (fun i hi => b4 i hi) (fun i hi => b5 i hi) ?_
          show (mUI y 1 j 1).2 = (mUI σ 1 j 1).2
          unfold mUI
          rw [b3]
    refine ⟨vp_in_nI t12 (by decide), fun q => dv _ rg (by omega) (fun i _ => ((tidy_val t12 tn i).2 (by omega)).symm), fun q => dv _ (by unfold r63 at *; omega) (by omega) (fun i _ => ((tidy_val t12 tn i).1 (by omega)).symm)⟩
