/-! PURE: the greatest common divisor in both programs -/
theorem iL_natAbs_pos {a : Int} (h : 0 ≤ a) : iL a = lN a.natAbs := by
  rw [iL_nat]
  congr 1
  omega
theorem iL_natAbs_neg {a : Int} (h : ¬ 0 ≤ a) : -iL a = lN a.natAbs := by
  rw [iL_nat, iL_neg]
  congr 1
  omega
theorem r63_natAbs {a : Int} (h : r63 a) : a.natAbs < 2 ^ 63 := by
  have e : (2 : Nat) ^ 63 = 9223372036854775808 := by decide
  unfold r63 at h
  omega
theorem lp_common {Q : Int64 → mS → Prop} {σ : mS} : ∀ (k a b n : Nat), b < 2 ^ k → a < 2 ^ 63 → b < 2 ^ 63 → 2 * k + 1 ≤ n → Q (lN (Nat.gcd a b)) σ → w_common_28 Q n (lN a) (lN b) σ := by
  intro k
  induction k with
  | zero =>
    intro a b n hb ha hb2 hn hq
    obtain ⟨n, rfl⟩ : ∃ m, n = m + 1 := ⟨n - 1, by omega⟩
    have h0 : b = 0 := by simpa using hb
    subst h0
    rw [Nat.gcd_zero_right] at hq
    unfold w_common_28
    exact ⟨fun _ => hq, fun h => absurd rfl h⟩
  | succ k ih =>
    intro a b n hb ha hb2 hn hq
    obtain ⟨n, rfl⟩ : ∃ m, n = m + 1 := ⟨n - 1, by omega⟩
    unfold w_common_28
    rcases Nat.eq_zero_or_pos b with h0 | h0
    · subst h0
      rw [Nat.gcd_zero_right] at hq
      exact ⟨fun _ => hq, fun h => absurd rfl h⟩
    have hne := lN_ne0 h0 hb2
    refine ⟨fun h => absurd h hne, fun _ => ⟨hne, nmB_iff.mpr ?_⟩⟩
    rw [lN_rem0 ha h0 hb2]
    rw [pgcd_step] at hq
    have hr : a % b < b := Nat.mod_lt _ h0
    obtain ⟨n, rfl⟩ : ∃ m, n = m + 1 := ⟨n - 1, by omega⟩
    unfold w_common_28
    rcases Nat.eq_zero_or_pos (a % b) with h1 | h1
    · rw [h1] at hq ⊢
      rw [Nat.gcd_zero_right] at hq
      exact ⟨fun _ => hq, fun h => absurd rfl h⟩
    have hne := lN_ne0 h1 (by omega)
    refine ⟨fun h => absurd h hne, fun _ => ⟨hne, nmB_iff.mpr ?_⟩⟩
    rw [lN_rem0 hb2 h1 (by omega)]
    rw [pgcd_step] at hq
    have h2 : b % (a % b) < a % b := Nat.mod_lt _ h1
    exact ih _ _ n (half_rem hb h0 h1) (by omega) (by omega) (by omega) hq
theorem sp_common {Q : Int64 → mS → Prop} {a b : Int} {σ : mS} (ha : r63 a) (hb : r63 b) (h : Q (iL (Int.gcd a b)) σ) : w_common Q (iL a) (iL b) σ := by
  have r0 : r63 0 := by unfold r63; omega
  have key : w_common_28 Q fuL (lN a.natAbs) (lN b.natAbs) σ := lp_common 63 _ _ _ (r63_natAbs hb) (r63_natAbs ha) (r63_natAbs hb) (by decide) h
  unfold w_common w_common_12 w_common_26
  rw [iL_0, iL_le r0 ha, iL_le r0 hb]
  refine ⟨fun h1 => ⟨fun h2 => ?_, fun h2 => ?_⟩, fun h1 => ⟨fun h2 => ?_, fun h2 => ?_⟩⟩
  · rw [iL_natAbs_pos h1, iL_natAbs_pos h2]; exact key
  · rw [iL_natAbs_pos h1, iL_natAbs_neg h2]; exact key
  · rw [iL_natAbs_neg h1, iL_natAbs_pos h2]; exact key
  · rw [iL_natAbs_neg h1, iL_natAbs_neg h2]; exact key
/-- the numbers of Fibonacci: how many steps Euclid's way needs at most -/
def pG : Nat → Nat
  | 0 => 1
  | 1 => 2
  | k + 2 => pG (k + 1) + pG k
theorem pG_pos (m : Nat) : 0 < pG m := by
  induction m using Nat.strongRecOn with
  | _ m ih => match m with
    | 0 => decide
    | 1 => decide
    | m + 2 => show 0 < pG (m + 1) + pG m; have := ih m (by omega); omega
theorem pG91 : 2 ^ 63 ≤ pG 91 := by decide
theorem lp_div {Q : Int64 → cS → Prop} {σ : cS} : ∀ (k a b n st : Nat), b < pG k → a < 2 ^ 63 → b < 2 ^ 63 → st + k ≤ 100 → k < n → Q (lN (Nat.gcd a b)) σ → v_X6_divisor_15 Q n (lN a) (lN b) (nI st) σ := by
  intro k
  induction k using Nat.strongRecOn with
  | _ k ih =>
    intro a b n st hb ha hb2 hst hn hq
    obtain ⟨n, rfl⟩ : ∃ m, n = m + 1 := ⟨n - 1, by omega⟩
    unfold v_X6_divisor_15 v_X6_divisor_50
    rcases Nat.eq_zero_or_pos b with h0 | h0
    · subst h0
      rw [Nat.gcd_zero_right] at hq
      exact ⟨fun _ => hq, fun h => absurd rfl h⟩
    have hne := lN_ne0 h0 hb2
    obtain ⟨k, rfl⟩ : ∃ m, k = m + 1 := by
      cases k with
      | zero => exact absurd hb (by simp [pG]; omega)
      | succ m => exact ⟨m, rfl⟩
    refine ⟨fun h => absurd h hne, fun _ => ⟨fun h => absurd h (by rw [show (100 : Int32) = nI 100 from rfl]; exact nI_ge (by omega) (by decide)), fun _ => ⟨hne, nmB_iff.mpr (nmB_iff.mpr ?_)⟩⟩⟩
    rw [lN_rem0 ha h0 hb2, nI_1]
    rw [pgcd_step] at hq
    have hr : a % b < b := Nat.mod_lt _ h0
    rcases Nat.lt_or_ge (a % b) (pG k) with q | q
    · exact ih k (by omega) _ _ _ _ q hb2 (by omega) (by omega) (by omega) hq
    obtain ⟨k, rfl⟩ : ∃ m, k = m + 1 := by
      cases k with
      | zero => exfalso; simp [pG] at hb q; omega
      | succ m => exact ⟨m, rfl⟩
    have hb3 : b < pG (k + 1) + pG k := hb
    have h1 : 0 < a % b := by
      rcases Nat.eq_zero_or_pos (a % b) with z | z
      · exfalso
        have := pG_pos (k + 1)
        omega
      · exact z
    obtain ⟨n, rfl⟩ : ∃ m, n = m + 1 := ⟨n - 1, by omega⟩
    unfold v_X6_divisor_15 v_X6_divisor_50
    have hne := lN_ne0 h1 (show a % b < 2 ^ 63 by omega)
    refine ⟨fun h => absurd h hne, fun _ => ⟨fun h => absurd h (by rw [show (100 : Int32) = nI 100 from rfl]; exact nI_ge (by omega) (by decide)), fun _ => ⟨hne, nmB_iff.mpr (nmB_iff.mpr ?_)⟩⟩⟩
    rw [lN_rem0 hb2 h1 (by omega), nI_1]
    rw [pgcd_step] at hq
    have h3 : b % (a % b) ≤ b - a % b := by
      rw [Nat.mod_eq_sub_mod (by omega)]
      exact Nat.mod_le _ _
    exact ih k (by omega) _ _ _ _ (by omega) (by omega) (by omega) (by omega) (by omega) hq
theorem iL_abs {a : Int} (h : r63 a) : (if 0 < iL a then iL a else -iL a) = lN a.natAbs := by
  have r0 : r63 0 := by unfold r63; omega
  by_cases h1 : 0 < a
  · rw [if_pos (by rw [iL_0, iL_lt r0 h]; exact h1), iL_natAbs_pos (by omega)]
  · rw [if_neg (by rw [iL_0, iL_lt r0 h]; exact h1), iL_neg, iL_nat]
    congr 1
    omega
theorem sp_divisor {Q : Int64 → cS → Prop} {a b : Int} {σ : cS} (ha : r63 a) (hb : r63 b) (h : Q (iL (Int.gcd a b)) σ) : v_X6_divisor Q (iL a) (iL b) σ := by
  unfold v_X6_divisor
  rw [iL_abs ha, iL_abs hb]
  refine nmB_iff.mpr (nmB_iff.mpr ?_)
  exact lp_div 91 _ _ _ 0 (Nat.lt_of_lt_of_le (r63_natAbs hb) pG91) (r63_natAbs ha) (r63_natAbs hb) (by decide) (by decide) h
