/-! PURE: the class's common divisor -/
/-- only rows of longs that P names are other, and which is high, which low -/
def chP (P : Nat → Prop) (σ σ' : cS) : Prop := (∀ a, ¬ P a → σ'.1 a = σ.1 a) ∧ σ'.2.1 = σ.2.1 ∧ σ'.2.2.1 = σ.2.2.1
theorem chP_rf {P : Nat → Prop} {σ : cS} : chP P σ σ := ⟨fun _ _ => rfl, rfl, rfl⟩
theorem chP_t {P : Nat → Prop} {a b c : cS} (h : chP P a b) (g : chP P b c) : chP P a c := ⟨fun x hx => by rw [g.1 x hx, h.1 x hx], by rw [g.2.1, h.2.1], by rw [g.2.2, h.2.2]⟩
theorem chP_of {P : Nat → Prop} {σ σ' : cS} (h : chg P σ σ') : chP P σ σ' := ⟨h.1, by rw [h.2], by rw [h.2]⟩
theorem chP_w {P R : Nat → Prop} {a b : cS} (h : chP P a b) (hp : ∀ x, P x → R x) : chP R a b := ⟨fun x hx => h.1 x (fun z => hx (hp x z)), h.2⟩
def hl2 (σ : cS) (h l : Nat → Int) : Prop := plainR σ ∧ rowIs (σ.1 (σ.2.2.2 0)) 4 h ∧ rowIs (σ.1 (σ.2.2.2 1)) 4 l
def s67 (a : Nat) : Prop := a = 6 ∨ a = 7
theorem plR {σ : cS} (h : plainR σ) : cJ (σ.2.2.2 0) = true ∧ cJ (σ.2.2.2 1) = true ∧ cLen (σ.2.2.2 0) = 4 ∧ cLen (σ.2.2.2 1) = 4 ∧ σ.2.2.2 0 ≠ σ.2.2.2 1 ∧ s67 (σ.2.2.2 0) ∧ s67 (σ.2.2.2 1) := by
  rcases h with ⟨a, b⟩ | ⟨a, b⟩ <;> rw [a, b] <;> exact ⟨rfl, rfl, rfl, rfl, by decide, by unfold s67; decide, by unfold s67; decide⟩
theorem sp_lastM {Q : Int32 → cS → Prop} {r : Nat} {σ : cS} {p : Nat → Int} (hr : cLen r = 4) (hp : rowIs (σ.1 r) 4 p) (h : Q (iI ((mz4 p : Int) - 1)) σ) : v_X6_last Q r σ := by
  have z : ∀ k, k < 4 → (σ.1 r k = 0 ↔ p k = 0) := fun k hk => by rw [(hp k hk).1]; exact iL0 (hp k hk).2
  rcases mz_facts p with ⟨a, b⟩ | ⟨a, b, c, d⟩
  · rw [a] at h
    exact sp_last hr (by decide) (fun i hi hne _ => absurd ((z i hi).mpr (b i hi)) hne) (fun _ => h)
  · refine sp_last hr (by decide) (fun i hi hne hl => ?_) (fun h0 => absurd ((z _ (by omega)).mp (h0 _ (by omega))) c)
    have : i = mz4 p - 1 := by
      rcases Nat.lt_trichotomy i (mz4 p - 1) with q | q | q
      · exact absurd ((z _ (by omega)).mp (hl (mz4 p - 1) q (by omega))) c
      · exact q
      · exact absurd ((z i hi).mpr (d i (by omega) hi)) hne
    subst this
    rw [iI_nat]
    have e : ((mz4 p - 1 : Nat) : Int) = (mz4 p : Int) - 1 := by omega
    rw [e]
    exact h
theorem sp_elimC {Q : cS → Prop} {σ : cS} {h l : Nat → Int} {hi lo : Nat} (hh : hl2 σ h l) (h1 : lo ≤ hi) (h3 : hi ≤ 3) (hr : ∀ k, k < 4 → r63 (stp h l hi lo k)) (go : ∀ σ', chP s67 σ σ' → hl2 σ' (cl4 (stp h l hi lo)) l → Q σ') : v_X1_eliminate Q (nI hi) (nI lo) σ := by
  obtain ⟨hp, rh, rl⟩ := hh
  obtain ⟨p1, p2, p3, p4, p5, p6, p7⟩ := plR hp
  unfold v_X1_eliminate
  refine ⟨fun q => absurd q (nI_pos (by omega)), fun _ => ⟨fun q => absurd q (nI_nlt h1 (by omega)), fun _ => ⟨fun _ => nmB_iff.mpr ?_, fun q => absurd (nI_lt (b := 4) (by omega) (by decide)) q⟩⟩⟩
  rw [nI_sub2 h1, nI_clamp (show hi < 2 ^ 31 by omega), nI_clamp (show lo < 2 ^ 31 by omega), p3, p4, (rh hi (by omega)).1, (rl lo (by omega)).1]
  refine ⟨p1, vp_in_nI (by omega) (by decide), nmB_iff.mpr ⟨p2, vp_in_nI (by omega) (by decide), nmB_iff.mpr ?_⟩⟩
  refine loopU (N := 4) (F := fun n k s => v_X1_eliminate_38 Q n (nI (hi - lo)) (iL (h hi)) (iL (l lo)) k s) (I := fun k s => chg (fun a => a = σ.2.2.2 0) σ s ∧ ∀ i, i < 4 → s.1 (σ.2.2.2 0) i = iL (if i < k then stp h l hi lo i else h i)) (by decide) ?_ ?_ σ ⟨chg_rf, fun i hi' => by rw [if_neg (by omega)]; exact (rh i hi').1⟩
  · intro n k s hk ⟨g, z⟩ nx
    show v_X1_eliminate_38 Q (n + 1) (nI (hi - lo)) (iL (h hi)) (iL (l lo)) (nI k) s
    unfold v_X1_eliminate_38 v_X1_eliminate_82
    have es : s.2.2.2 = σ.2.2.2 := by rw [g.2]
    have el : ∀ i, i < 4 → s.1 (σ.2.2.2 1) i = iL (l i) := fun i hi' => by rw [g.1 _ (fun q => p5 q.symm)]; exact (rl i hi').1
    have zk : s.1 (σ.2.2.2 0) k = iL (h k) := by rw [z k hk, if_neg (by omega)]
    rw [es, p3, p4, nI_clamp (show k < 2 ^ 31 by omega), zk, nI_1, nI_leI (show hi - lo < 2 ^ 31 by omega) (show k < 2 ^ 31 by omega)]
    have w4 := vp_in_nI hk (show 4 < 2 ^ 31 by decide)
    have fin : ∀ x : Int, stp h l hi lo k = h k * l lo - x → v_X1_eliminate_38 Q n (nI (hi - lo)) (iL (h hi)) (iL (l lo)) (nI (k + 1)) (cUJ s (σ.2.2.2 0) k (iL (h k) * iL (l lo) - iL x)) := by
      intro x hx
      rw [iL_mul, iL_sub, ← hx]
      refine nx _ ⟨chg_t2 g (chg_J rfl), fun i hi' => ?_⟩
      rw [cUJ_at]
      rcases Nat.lt_trichotomy i k with q | q | q
      · rw [updL_ne (by omega), z i hi', if_pos q, if_pos (by omega)]
      · subst q; rw [updL_at, if_pos (by omega)]
      · rw [updL_ne (by omega), z i hi', if_neg (by omega), if_neg (by omega)]
    refine ⟨fun q => absurd q (nI_ge (b := 4) hk (by decide)), fun _ => ⟨p1, p1, w4, fun q => ?_, fun q => ⟨w4, nmB_iff.mpr (nmB_iff.mpr (fin 0 ?_))⟩⟩⟩
    · rw [nI_sub2 q, nI_clamp (show k - (hi - lo) < 2 ^ 31 by omega), el _ (by omega)]
      refine ⟨p2, vp_in_nI (by omega) (by decide), w4, nmB_iff.mpr (nmB_iff.mpr ?_)⟩
      have := fin (l (k - (hi - lo)) * h hi) (by unfold stp; rw [if_pos q, Int.mul_comm (h hi)])
      rw [← iL_mul (l (k - (hi - lo)))] at this
      exact this
    · unfold stp; rw [if_neg q]
  · intro n s ⟨g, z⟩
    show v_X1_eliminate_38 Q (n + 1) (nI (hi - lo)) (iL (h hi)) (iL (l lo)) (nI 4) s
    unfold v_X1_eliminate_38
    have es : s.2.2.2 = σ.2.2.2 := by rw [g.2]
    rw [es]
    refine ⟨fun _ => ⟨p1, ?_⟩, fun q => absurd (by decide) q⟩
    refine sp_takeOff (z := stp h l hi lo) p3 (by decide) (fun i hi' => ⟨?_, hr i hi'⟩) ?_
    · rw [z i hi', if_pos hi']
    · have g2 : chg (fun a => a = σ.2.2.2 0) σ (goneC s (σ.2.2.2 0) 4 (fun k => iL ((stp h l hi lo k).tdiv (gcdN (stp h l hi lo) 4)))) := chg_t2 g (chg_R rfl)
      refine go _ (chP_of (chg_w g2 (fun x hx => hx ▸ p6))) ⟨?_, ?_, ?_⟩
      · unfold plainR at *
        rw [g2.2]; exact hp
      · rw [g2.2]
        exact goneC_row (fun i hi' => tdiv_r63 (hr i hi'))
      · rw [g2.2]
        intro i hi'
        rw [g2.1 _ (fun q => p5 q.symm)]
        exact rl i hi'
/-- how wide the numbers are, by the degrees -/
def bdn (h l : Nat → Int) : Prop :=
  (∀ i, i < 4 → ab (h i) 3888000000000000000 ∧ ab (l i) 3888000000000000000) ∧ (mz4 h = 4 → ∀ i, i < 4 → ab (h i) 3000) ∧ (mz4 l = 4 → ∀ i, i < 4 → ab (l i) 3000) ∧ (mz4 l = 3 → ∀ i, i < 4 → ab (l i) 18000000) ∧ (mz4 h = 3 → ∀ i, i < 4 → ab (h i) 108000000000) ∧ (mz4 h = 3 → mz4 l ≠ 3 → ∀ i, i < 4 → ab (h i) 18000000) ∧ (mz4 h = 2 → mz4 l = 2 → ∀ i, i < 4 → ab (h i) 108000000000) ∧ (mz4 h = 2 → mz4 l = 0 → ∀ i, i < 4 → ab (h i) 3000) ∧ (mz4 l = 2 → mz4 h = 0 → ∀ i, i < 4 → ab (l i) 3000)
theorem bdn_sw {h l : Nat → Int} (b : bdn h l) (hm : mz4 h < mz4 l) : bdn l h := by
  obtain ⟨b0, b1, b2, b3, b4, b5, b6, b7, b8⟩ := b
  have l4 : mz4 l ≤ 4 := by rcases mz_facts l with ⟨a, _⟩ | ⟨_, a, _⟩ <;> omega
  exact ⟨fun i hi => ⟨(b0 i hi).2, (b0 i hi).1⟩, b2, fun q => by omega, fun q => b5 q (by omega), fun q i hi => ab_le (b3 q i hi) (by decide), fun q _ => b3 q, fun q1 q2 => by omega, fun q1 q2 => b8 q1 q2, fun q1 q2 => by omega⟩
theorem bdn_st {h l : Nat → Int} (b : bdn h l) (hm : mz4 l ≤ mz4 h) (h2 : 2 ≤ mz4 l) (h3 : mz4 l = 2 → ∀ i, i < 4 → ab (l i) 3000) : (∀ k, k < 4 → ab (stp h l (mz4 h - 1) (mz4 l - 1) k) 3888000000000000000) ∧ bdn (cl4 (stp h l (mz4 h - 1) (mz4 l - 1))) l ∧ mz4 (cl4 (stp h l (mz4 h - 1) (mz4 l - 1))) < mz4 h := by
  obtain ⟨b0, b1, b2, b3, b4, b5, b6, b7, b8⟩ := b
  have l4 : mz4 l ≤ 4 := by rcases mz_facts l with ⟨a, _⟩ | ⟨_, a, _⟩ <;> omega
  have hh4 : mz4 h ≤ 4 := by rcases mz_facts h with ⟨a, _⟩ | ⟨_, a, _⟩ <;> omega
  have zh : ∀ k, mz4 h - 1 < k → k < 4 → h k = 0 := by
    rcases mz_facts h with ⟨a, _⟩ | ⟨_, _, _, d⟩
    · omega
    · exact fun k k1 k2 => d k (by omega) k2
  have zl : ∀ k, mz4 l - 1 < k → k < 4 → l k = 0 := by
    rcases mz_facts l with ⟨a, _⟩ | ⟨_, _, _, d⟩
    · omega
    · exact fun k k1 k2 => d k (by omega) k2
  have hmz : mz4 (cl4 (stp h l (mz4 h - 1) (mz4 l - 1))) ≤ mz4 h - 1 := by
    rw [mz_cl]
    exact mz_le (stp_hi (by omega) (by omega) zh zl)
  have fin : ∀ A B : Nat, (∀ i, i < 4 → ab (h i) A) → (∀ i, i < 4 → ab (l i) B) → 2 * (A * B) ≤ 3888000000000000000 → (mz4 h = 4 → 2 * (A * B) ≤ 108000000000) → (mz4 h = 4 → mz4 l ≠ 3 → 2 * (A * B) ≤ 18000000) → (3 ≤ mz4 h → mz4 l = 2 → 2 * (A * B) ≤ 108000000000) → (∀ k, k < 4 → ab (stp h l (mz4 h - 1) (mz4 l - 1) k) 3888000000000000000) ∧ bdn (cl4 (stp h l (mz4 h - 1) (mz4 l - 1))) l := by
    intro A B hA hB f0 f1 f2 f3
    have s := fun k (hk : k < 4) => stp_ab (hi := mz4 h - 1) (lo := mz4 l - 1) (by omega) (by omega) hA hB hk
    have c := fun k (hk : k < 4) => cl_ab (s k hk)
    refine ⟨fun k hk => ab_le (s k hk) f0, fun i hi => ⟨ab_le (c i hi) f0, (b0 i hi).2⟩, fun q => by omega, b2, b3, fun q i hi => ab_le (c i hi) (f1 (by omega)), fun q1 q2 i hi => ab_le (c i hi) (f2 (by omega) q2), fun q1 q2 i hi => ab_le (c i hi) (f3 (by omega) q2), fun q1 q2 => by omega, fun q1 _ => h3 q1⟩
  have key : (∀ k, k < 4 → ab (stp h l (mz4 h - 1) (mz4 l - 1) k) 3888000000000000000) ∧ bdn (cl4 (stp h l (mz4 h - 1) (mz4 l - 1))) l := by
    rcases (show (mz4 h = 4 ∧ mz4 l = 4) ∨ (mz4 h = 4 ∧ mz4 l = 3) ∨ (mz4 h = 4 ∧ mz4 l = 2) ∨ (mz4 h = 3 ∧ mz4 l = 3) ∨ (mz4 h = 3 ∧ mz4 l = 2) ∨ (mz4 h = 2 ∧ mz4 l = 2) by omega) with ⟨e1, e2⟩ | ⟨e1, e2⟩ | ⟨e1, e2⟩ | ⟨e1, e2⟩ | ⟨e1, e2⟩ | ⟨e1, e2⟩
    · exact fin 3000 3000 (b1 e1) (b2 e2) (by decide) (fun _ => by decide) (fun _ _ => by decide) (fun _ q => by omega)
    · exact fin 3000 18000000 (b1 e1) (b3 e2) (by decide) (fun _ => by decide) (fun _ q => absurd e2 q) (fun _ q => by omega)
    · exact fin 3000 3000 (b1 e1) (h3 e2) (by decide) (fun _ => by decide) (fun _ _ => by decide) (fun _ _ => by decide)
    · exact fin 108000000000 18000000 (b4 e1) (b3 e2) (by decide) (fun q => by omega) (fun q => by omega) (fun _ q => by omega)
    · exact fin 18000000 3000 (b5 e1 (by omega)) (h3 e2) (by decide) (fun q => by omega) (fun q => by omega) (fun _ _ => by decide)
    · exact fin 108000000000 3000 (b6 e1 e2) (h3 e2) (by decide) (fun q => by omega) (fun q => by omega) (fun q => by omega)
  exact ⟨key.1, key.2, by omega⟩
/-- how wide a common divisor is -/
def outB (g : Nat → Int) : Prop := (mz4 g = 4 → ∀ i, i < 4 → ab (g i) 3000) ∧ (mz4 g = 2 → ∀ i, i < 4 → ab (g i) 3000) ∧ ∀ i, i < 4 → ab (g i) 18000000
theorem pz_1 {g : Nat → Int} (h : pz4 g) (h1 : mz4 g = 1) : ∀ i, i < 4 → ab (g i) 1 := by
  rcases mz_facts g with ⟨a, _⟩ | ⟨_, _, c, d⟩
  · omega
  · rw [h1] at c d
    have h0 : g 0 ≠ 0 := c
    rcases h with q | q
    · have z1 := d 1 (by decide) (by decide); have z2 := d 2 (by decide) (by decide); have z3 := d 3 (by decide) (by decide)
      have e : gcdN g 4 = (g 0).natAbs := by
        show Nat.gcd (Nat.gcd (Nat.gcd (Nat.gcd 0 (g 0).natAbs) (g 1).natAbs) (g 2).natAbs) (g 3).natAbs = _
        rw [z1, z2, z3]
        simp
      intro i hi
      rcases (show i = 0 ∨ 1 ≤ i by omega) with y | y
      · subst y; unfold ab; omega
      · rw [d i y hi]; exact ab_0
    · exact absurd (q 0 (by decide)) h0
theorem bdn_out {g l : Nat → Int} (b : bdn g l) (hz : pz4 g) (h0 : mz4 l = 0) : outB g := by
  obtain ⟨b0, b1, b2, b3, b4, b5, b6, b7, b8⟩ := b
  have g4 : mz4 g ≤ 4 := by rcases mz_facts g with ⟨a, _⟩ | ⟨_, a, _⟩ <;> omega
  refine ⟨b1, fun q => b7 q h0, fun i hi => ?_⟩
  rcases (show mz4 g = 0 ∨ mz4 g = 1 ∨ mz4 g = 2 ∨ mz4 g = 3 ∨ mz4 g = 4 by omega) with q | q | q | q | q
  · rcases mz_facts g with ⟨_, a⟩ | ⟨a, _⟩
    · rw [a i hi]; exact ab_0
    · omega
  · exact ab_le (pz_1 hz q i hi) (by decide)
  · exact ab_le (b7 q h0 i hi) (by decide)
  · exact b5 q (by omega) i hi
  · exact ab_le (b1 q i hi) (by decide)
theorem one4_out : outB one4 ∧ pz4 one4 := by
  have e : mz4 one4 = 1 := by decide
  have b : ∀ i, i < 4 → ab (one4 i) 1 := fun i hi => by
    rcases (show i = 0 ∨ i = 1 ∨ i = 2 ∨ i = 3 by omega) with rfl | rfl | rfl | rfl <;> (unfold ab; decide)
  refine ⟨⟨fun q => by omega, fun q => by omega, fun i hi => ab_le (b i hi) (by decide)⟩, Or.inl (by decide)⟩
theorem sp_fd79 {Q : cS → Prop} {r2 : _} {σ : cS} {h l : Nat → Int} (hh : hl2 σ h l) (go : ∀ σ', chP s67 σ σ' → hl2 σ' one4 l → Q σ') : v_X1_findDivisor_79 Q r2 σ := by
  obtain ⟨hp, rh, rl⟩ := hh
  obtain ⟨p1, p2, p3, p4, p5, p6, p7⟩ := plR hp
  unfold v_X1_findDivisor_79
  refine ⟨p1, sp_fill p3 (by decide) ?_⟩
  show cJ (σ.2.2.2 0) = true ∧ (vp_in ((0 : Int32)) (cLen (σ.2.2.2 0)) ∧ (nmB (cUJ (goneC σ (σ.2.2.2 0) 4 (fun _ => 0)) (σ.2.2.2 0) ((0 : Int32)).toNatClampNeg ((1 : Int64))) (fun σ105 => Q σ105)))
  rw [p3, c0]
  have g : chg (fun a => a = σ.2.2.2 0) σ (cUJ (goneC σ (σ.2.2.2 0) 4 (fun _ => 0)) (σ.2.2.2 0) 0 (1 : Int64)) := chg_t2 (chg_R rfl) (chg_J rfl)
  refine ⟨p1, vp_in_nI (n := 0) (by decide) (by decide), nmB_iff.mpr (go _ (chP_of (chg_w g (fun x hx => hx ▸ p6))) ⟨by unfold plainR at *; rw [g.2]; exact hp, ?_, ?_⟩)⟩
  · rw [g.2]
    intro i hi
    rw [cUJ_at]
    rcases (show i = 0 ∨ 1 ≤ i by omega) with q | q
    · subst q; rw [updL_at]; exact ⟨rfl, by show r63 1; unfold r63; omega⟩
    · rw [updL_ne (by omega), goneC_v hi]
      have : one4 i = 0 := by
        match i, q with
        | i + 1, _ => rfl
      rw [this]
      exact ⟨rfl, by unfold r63; omega⟩
  · rw [g.2]
    intro i hi
    rw [g.1 _ (fun q => p5 q.symm)]
    exact rl i hi
theorem mzI {a b : Nat} (ha : a ≤ 4) (hb : b ≤ 4) : (iI ((a : Int) - 1) ≤ iI ((b : Int) - 1) ↔ a ≤ b) ∧ (0 ≤ iI ((a : Int) - 1) ↔ 1 ≤ a) ∧ (iI ((a : Int) - 1) = 0 ↔ a = 1) ∧ (iI ((a : Int) - 1) = 1 ↔ a = 2) := by
  have r : ∀ x : Nat, x ≤ 4 → r31 ((x : Int) - 1) := fun x hx => by unfold r31; omega
  refine ⟨?_, ?_, ?_, ?_⟩
  · rw [iI_le (r a ha) (r b hb)]; omega
  · rw [show (0 : Int32) = iI 0 from rfl, iI_le (by unfold r31; omega) (r a ha)]; omega
  · rw [show (0 : Int32) = iI 0 from rfl, iI_eq (r a ha) (by unfold r31; omega)]; omega
  · rw [show (1 : Int32) = iI 1 from rfl, iI_eq (r a ha) (by unfold r31; omega)]; omega
theorem mz_4 (p : Nat → Int) : mz4 p ≤ 4 := by rcases mz_facts p with ⟨a, _⟩ | ⟨_, a, _⟩ <;> omega
theorem z_e4 {p : Nat → Int} (h : ∀ i, i < 4 → p i = 0) (t : Int) : e4 p t = 0 := by
  unfold e4
  rw [h 0 (by decide), h 1 (by decide), h 2 (by decide), h 3 (by decide)]
  simp
/-- the loop of Euclid's way -/
theorem lp_fd {Q : cS → Prop} {σ0 : cS} {CD : (Int → Int) → Prop} (hW : ∀ g : Nat → Int, gcdN g 4 = 1 → lin1 g → CD (e4 g) → (∀ i, i < 4 → ab (g i) 3000) ∨ CD (fun _ => 0)) (go : ∀ σ' g l, chP s67 σ0 σ' → hl2 σ' g l → (∀ k, isP k → (CD k ↔ dvP k (e4 g))) → pz4 g → outB g → Q σ') : ∀ (d x n : Nat) (σ : cS) (h l : Nat → Int), mz4 h + mz4 l ≤ d → x + d ≤ 15 → d + 1 < n → chP s67 σ0 σ → hl2 σ h l → pz4 h → pz4 l → (∀ k, isP k → (CD k ↔ dvP k (e4 h) ∧ dvP k (e4 l))) → bdn h l → v_X1_findDivisor_2 Q n (nI x) σ := by
  intro d
  induction d with
  | zero =>
    intro x n σ h l hd hx hn gc hh ph pl cd b
    obtain ⟨n, rfl⟩ : ∃ m, n = m + 1 := ⟨n - 1, by omega⟩
    obtain ⟨hp, rh, rl⟩ := id hh
    obtain ⟨p1, p2, p3, p4, p5, p6, p7⟩ := plR hp
    unfold v_X1_findDivisor_2
    refine ⟨fun q => absurd q (nI_ge (b := 16) (by omega) (by decide)), fun _ => ⟨p1, sp_lastM p3 rh ⟨p2, sp_lastM p4 rl ?_⟩⟩⟩
    have m := mzI (mz_4 l) (mz_4 h)
    refine ⟨fun q => ?_, fun q => absurd (m.1.mpr (by omega)) q⟩
    unfold v_X1_findDivisor_43
    refine ⟨p2, sp_lastM p4 rl ⟨fun y => absurd (m.2.1.mp y) (by omega), fun _ => ?_⟩⟩
    have zl : ∀ i, i < 4 → l i = 0 := by
      rcases mz_facts l with ⟨_, a⟩ | ⟨a, _⟩
      · exact a
      · omega
    refine go σ h l gc hh (fun k hk => ?_) ph (bdn_out b ph (by omega))
    rw [cd k hk]
    exact ⟨fun z => z.1, fun z => ⟨z, dv_congr (dv_zero k) (fun t => (z_e4 zl t).symm)⟩⟩
  | succ d ih =>
    intro x n σ h l hd hx hn gc hh ph pl cd b
    obtain ⟨n, rfl⟩ : ∃ m, n = m + 1 := ⟨n - 1, by omega⟩
    obtain ⟨hp, rh, rl⟩ := id hh
    obtain ⟨p1, p2, p3, p4, p5, p6, p7⟩ := plR hp
    -- behind the exchange
    have main : ∀ (s : cS) (h l : Nat → Int), mz4 l ≤ mz4 h → mz4 h + mz4 l ≤ d + 1 → chP s67 σ0 s → hl2 s h l → pz4 h → pz4 l → (∀ k, isP k → (CD k ↔ dvP k (e4 h) ∧ dvP k (e4 l))) → bdn h l → v_X1_findDivisor_43 Q (v_X1_findDivisor_2 Q n) (nI x) s := by
      intro s h l hle hd gc hh ph pl cd b
      obtain ⟨hp, rh, rl⟩ := id hh
      obtain ⟨p1, p2, p3, p4, p5, p6, p7⟩ := plR hp
      have m := mzI (mz_4 l) (mz_4 h)
      have fl := mz_facts l
      have fh := mz_facts h
      have one : (∀ k, isP k → (CD k ↔ dvP k (e4 one4))) → v_X1_findDivisor_79 Q (v_X1_findDivisor_2 Q n) s := fun hc => sp_fd79 hh (fun σ' g' h' => go σ' one4 l (chP_t gc g') h' hc one4_out.2 one4_out.1)
      have el : 2 ≤ mz4 l → (mz4 l = 2 → ∀ i, i < 4 → ab (l i) 3000) → v_X1_findDivisor_95 Q (v_X1_findDivisor_2 Q n) (nI x) (iI ((mz4 l : Int) - 1)) s := by
        intro h2 hw
        unfold v_X1_findDivisor_95
        obtain ⟨s1, s2, s3⟩ := bdn_st b hle h2 hw
        refine ⟨p1, sp_lastM p3 rh ?_⟩
        have e1 : iI ((mz4 h : Int) - 1) = nI (mz4 h - 1) := by rw [iI_nat]; congr 1; omega
        have e2 : iI ((mz4 l : Int) - 1) = nI (mz4 l - 1) := by rw [iI_nat]; congr 1; omega
        have h4 := mz_4 h
        rw [e1, e2]
        refine sp_elimC hh (by omega) (by omega) (fun k hk => ab_r (s1 k hk)) (fun s' g' h' => nmB_iff.mpr ?_)
        rw [nI_1]
        refine ih (x + 1) n s' _ l (by omega) (by omega) (by omega) (chP_t gc g') h' (cl_pz _) pl (fun k hk => ?_) s2
        rw [cd k hk, cl_dv]
        rcases fl with ⟨a, _⟩ | ⟨_, _, c, d'⟩
        · omega
        · exact (stp_dv (by omega) (by omega) (fun k k1 k2 => d' k (by omega) k2) c).symm
      unfold v_X1_findDivisor_43
      refine ⟨p2, sp_lastM p4 rl ?_⟩
      rw [m.2.1, m.2.2.1, m.2.2.2]
      refine ⟨fun y => ⟨fun y1 => one (fun k hk => ?_), fun y1 => ⟨fun y2 => el (by omega) (fun q => absurd q y2), fun y2 => ⟨p2, ?_⟩⟩⟩, fun y => ?_⟩
      · -- a number
        rw [cd k hk]
        rcases fl with ⟨a, _⟩ | ⟨_, _, c, d'⟩
        · omega
        · rw [y1] at c d'
          have z1 := d' 1 (by decide) (by decide); have z2 := d' 2 (by decide) (by decide); have z3 := d' 3 (by decide) (by decide)
          have cst : ∀ t, e4 l t = l 0 * e4 one4 t := fun t => by rw [e4_one]; unfold e4; rw [z1, z2, z3]; simp
          exact ⟨fun z => dv_unc c (dv_congr z.2 cst), fun z => ⟨one_dv (isP_e4 h) z, one_dv (isP_e4 l) z⟩⟩
      · -- of the degree 1
        refine sp_widest p4 (by decide) rl ?_
        have hmx := maxN_lt (z := l) (N := 4) (fun i hi => (rl i hi).2) 4 (Nat.le_refl _)
        rw [show (3000 : Int64) = iL 3000 from rfl, iL_le (nat_r63 hmx) (by unfold r63; omega)]
        have mx : ((maxN l 4 : Nat) : Int) ≤ 3000 ↔ ∀ i, i < 4 → ab (l i) 3000 := by
          rw [show ((maxN l 4 : Nat) : Int) ≤ 3000 ↔ maxN l 4 ≤ 3000 by omega, maxN_le]
          exact ⟨fun z i hi => ab_i.mpr (z i hi), fun z i hi => ab_i.mp (z i hi)⟩
        rw [mx]
        refine ⟨fun w => el (by omega) (fun _ => w), fun w => one (fun k hk => ?_)⟩
        rw [cd k hk]
        rcases fl with ⟨a, _⟩ | ⟨_, _, c, d'⟩
        · omega
        · rw [y2] at c d'
          have hlin : lin1 l := ⟨c, d' 2 (by decide) (by decide), d' 3 (by decide) (by decide)⟩
          have hprim : gcdN l 4 = 1 := pl.resolve_right (fun z => c (z 1 (by decide)))
          refine ⟨fun z => ?_, fun z => ⟨one_dv (isP_e4 h) z, one_dv (isP_e4 l) z⟩⟩
          obtain ⟨T, hT⟩ := e4_big (show 1 < 4 by decide) hlin.1
          rcases lin_dv hk hlin z.2 with k1 | k1
          · exact dv_one k1 z.2 ⟨T + 1, hT _ (by omega)⟩
          · exfalso
            have cdl : CD (e4 l) := (cd _ (isP_e4 l)).mpr ⟨k1 _ z.1, dv_refl _⟩
            rcases hW l hprim hlin cdl with w1 | w1
            · exact w w1
            · have := ((cd _ (isP_c 0)).mp w1).2
              obtain ⟨m', q', hm', _, e'⟩ := this
              have e1 := e' (T + 1)
              rw [Int.zero_mul] at e1
              exact mul3_nz hm' (hT _ (by omega)) e1
      · -- nothing
        have zl : ∀ i, i < 4 → l i = 0 := by
          rcases fl with ⟨_, a⟩ | ⟨a, _⟩
          · exact a
          · omega
        refine go s h l gc hh (fun k hk => ?_) ph (bdn_out b ph (by omega))
        rw [cd k hk]
        exact ⟨fun z => z.1, fun z => ⟨z, dv_congr (dv_zero k) (fun t => (z_e4 zl t).symm)⟩⟩
    unfold v_X1_findDivisor_2
    refine ⟨fun q => absurd q (nI_ge (b := 16) (by omega) (by decide)), fun _ => ⟨p1, sp_lastM p3 rh ⟨p2, sp_lastM p4 rl ?_⟩⟩⟩
    rw [(mzI (mz_4 l) (mz_4 h)).1]
    refine ⟨fun q => main σ h l q hd gc hh ph pl cd b, fun q => ⟨p1, p2, nmB_iff.mpr (nmB_iff.mpr ?_)⟩⟩
    have e0 : (cUP (cUP σ 0 (σ.2.2.2 1)) 1 (σ.2.2.2 0)).2.2.2 0 = σ.2.2.2 1 := rfl
    have e1 : (cUP (cUP σ 0 (σ.2.2.2 1)) 1 (σ.2.2.2 0)).2.2.2 1 = σ.2.2.2 0 := rfl
    refine main _ l h (by omega) (by omega) (chP_t gc ⟨fun _ _ => rfl, rfl, rfl⟩) ⟨?_, ?_, ?_⟩ pl ph (fun k hk => by rw [cd k hk]; exact And.comm) (bdn_sw b (by omega))
    · unfold plainR at *
      rw [e0, e1]
      omega
    · rw [e0]; exact rl
    · rw [e1]; exact rh
theorem sp_findDiv {Q : cS → Prop} {σ : cS} {h l : Nat → Int} {CD : (Int → Int) → Prop} (hW : ∀ g : Nat → Int, gcdN g 4 = 1 → lin1 g → CD (e4 g) → (∀ i, i < 4 → ab (g i) 3000) ∨ CD (fun _ => 0)) (hh : hl2 σ h l) (ph : pz4 h) (pl : pz4 l) (cd : ∀ k, isP k → (CD k ↔ dvP k (e4 h) ∧ dvP k (e4 l))) (b : bdn h l) (go : ∀ σ' g l, chP s67 σ σ' → hl2 σ' g l → (∀ k, isP k → (CD k ↔ dvP k (e4 g))) → pz4 g → outB g → Q σ') : v_X1_findDivisor Q σ := by
  unfold v_X1_findDivisor
  have h4 := mz_4 h
  have l4 := mz_4 l
  exact lp_fd hW go 8 0 fuL σ h l (by omega) (by decide) (by unfold fuL; omega) chP_rf hh ph pl cd b
