/-! PURE: small questions that both programs ask -/
def bI (p : Prop) [Decidable p] : Int32 := if p then 1 else 0
theorem bI_t {p : Prop} [Decidable p] (h : p) : bI p = 1 := if_pos h
theorem bI_f {p : Prop} [Decidable p] (h : ¬ p) : bI p = 0 := if_neg h
theorem bI_0 {p : Prop} [Decidable p] : bI p = 0 ↔ ¬ p := by
  by_cases h : p
  · rw [bI_t h]; simp [h]
  · rw [bI_f h]; simp [h]
theorem bI_z {p : Prop} [Decidable p] : narrow .boolean (.int (bI p)) = .int (bI p) := by
  by_cases h : p
  · rw [bI_t h]; decide
  · rw [bI_f h]; decide
/-- a number within two others -/
def inR (x : Int32) (a b : Int) : Prop := a ≤ x.toInt ∧ x.toInt ≤ b
def inRd (x : Int32) (a b : Int) : Decidable (inR x a b) := inferInstanceAs (Decidable (_ ∧ _))
theorem clampLit (n : Nat) (h : n < 2 ^ 31) : (OfNat.ofNat n : Int32).toNatClampNeg = n := nI_clamp h
theorem inR_nat {x : Int32} {b : Nat} (h : inR x 0 b) (hb : b < 2 ^ 31) : ∃ j : Nat, j ≤ b ∧ x = nI j := by
  refine ⟨x.toInt.toNat, by have := h.1; have := h.2; omega, ?_⟩
  apply Int32.toInt_inj.mp
  rw [nI_toInt (by have := h.1; have := h.2; omega)]
  have := h.1
  omega
theorem sp_in {Q : Int32 → mS → Prop} {x : Int32} {a b : Int64} {p q : Int} {σ : mS} (ha : a.toInt = p) (hb : b.toInt = q) (h1 : inR x p q → Q 1 σ) (h0 : ¬ inR x p q → Q 0 σ) : w_in Q x.toInt64 a b σ := by
  have e : x.toInt64.toInt = x.toInt := by rw [iL_i]; exact iL_toInt (by have := i32_range x; unfold r63; omega)
  have l1 : x.toInt64 < a ↔ x.toInt < p := by rw [Int64.lt_iff_toInt_lt, e, ha]
  have l2 : b < x.toInt64 ↔ q < x.toInt := by rw [Int64.lt_iff_toInt_lt, e, hb]
  unfold w_in w_in_17 w_in_18
  rw [l1, l2]
  refine ⟨fun h => ⟨z_0, h0 (fun z => ?_)⟩, fun h => ⟨fun h2 => ⟨z_0, h0 (fun z => ?_)⟩, fun h2 => ⟨z_1, h1 ⟨?_, ?_⟩⟩⟩⟩
  · have := z.1; omega
  · have := z.2; omega
  · omega
  · omega
theorem sp_within {Q : Int32 → cS → Prop} {x a b : Int32} {p q : Int} {σ : cS} (ha : a.toInt = p) (hb : b.toInt = q) (h1 : inR x p q → Q 1 σ) (h0 : ¬ inR x p q → Q 0 σ) : v_X7_within Q x a b σ := by
  have l1 : x < a ↔ x.toInt < p := by rw [Int32.lt_iff_toInt_lt, ha]
  have l2 : b < x ↔ q < x.toInt := by rw [Int32.lt_iff_toInt_lt, hb]
  unfold v_X7_within v_X7_within_14 v_X7_within_15
  rw [l1, l2]
  refine ⟨fun h => ⟨z_0, h0 (fun z => ?_)⟩, fun h => ⟨fun h2 => ⟨z_0, h0 (fun z => ?_)⟩, fun h2 => ⟨z_1, h1 ⟨?_, ?_⟩⟩⟩⟩
  · have := z.1; omega
  · have := z.2; omega
  · omega
  · omega
theorem sp_isLineM {Q : Int32 → mS → Prop} {x : Int32} {σ : mS} (h1 : inR x 0 3 → Q 1 σ) (h0 : ¬ inR x 0 3 → Q 0 σ) : w_isLine Q x σ := by
  unfold w_isLine
  exact sp_in (by decide) (by decide) (fun h => ⟨z_1, h1 h⟩) (fun h => ⟨z_0, h0 h⟩)
theorem sp_isLineC {Q : Int32 → cS → Prop} {x : Int32} {σ : cS} (h1 : inR x 0 3 → Q 1 σ) (h0 : ¬ inR x 0 3 → Q 0 σ) : v_X7_isLine Q x σ := by
  unfold v_X7_isLine
  exact sp_within (by decide) (by decide) (fun h => ⟨z_1, h1 h⟩) (fun h => ⟨z_0, h0 h⟩)
theorem sp_isSheetC {Q : Int32 → cS → Prop} {x : Int32} {σ : cS} (h1 : inR x 0 3 → Q 1 σ) (h0 : ¬ inR x 0 3 → Q 0 σ) : v_X7_isSheet Q x σ := by
  unfold v_X7_isSheet
  exact sp_within (by decide) (by decide) (fun h => ⟨z_1, h1 h⟩) (fun h => ⟨z_0, h0 h⟩)
theorem sp_isLaneC {Q : Int32 → cS → Prop} {x : Int32} {σ : cS} (h1 : inR x 0 2 → Q 1 σ) (h0 : ¬ inR x 0 2 → Q 0 σ) : v_X7_isLane Q x σ := by
  unfold v_X7_isLane
  exact sp_within (by decide) (by decide) (fun h => ⟨z_1, h1 h⟩) (fun h => ⟨z_0, h0 h⟩)
theorem sp_isSheetM {Q : Int32 → mS → Prop} {x y : Int32} {σ : mS} (h1 : inR x 0 3 → inR y 0 2 → Q 1 σ) (h0 : ¬ (inR x 0 3 ∧ inR y 0 2) → Q 0 σ) : w_isSheet Q x y σ := by
  unfold w_isSheet w_isSheet_28 w_isSheet_29
  refine sp_in (p := 0) (q := 3) (by decide) (by decide) (fun hx => ⟨fun h => absurd h (by decide), fun _ => ?_⟩) (fun hx => ⟨fun _ => ?_, fun h => absurd rfl h⟩)
  · refine sp_in (p := 0) (q := 2) (by decide) (by decide) (fun hy => ⟨fun h => absurd h (by decide), fun _ => ?_⟩) (fun hy => ⟨fun _ => ?_, fun h => absurd rfl h⟩)
    · exact ⟨z_1, h1 hx hy⟩
    · exact ⟨z_0, h0 (fun z => hy z.2)⟩
  · exact ⟨z_0, h0 (fun z => hx z.1)⟩
theorem sp_isLetter {Q : Int32 → cS → Prop} {x y : Int32} {σ : cS} (h1 : inR x (-20) 20 → inR y 1 20 → Q 1 σ) (h0 : ¬ (inR x (-20) 20 ∧ inR y 1 20) → Q 0 σ) : v_X7_isLetter Q x y σ := by
  unfold v_X7_isLetter v_X7_isLetter_25 v_X7_isLetter_26
  refine sp_within (p := -20) (q := 20) (by decide) (by decide) (fun hx => ⟨fun h => absurd h (by decide), fun _ => ?_⟩) (fun hx => ⟨fun _ => ?_, fun h => absurd rfl h⟩)
  · refine sp_within (p := 1) (q := 20) (by decide) (by decide) (fun hy => ⟨fun h => absurd h (by decide), fun _ => ?_⟩) (fun hy => ⟨fun _ => ?_, fun h => absurd rfl h⟩)
    · exact ⟨z_1, h1 hx hy⟩
    · exact ⟨z_0, h0 (fun z => hy z.2)⟩
  · exact ⟨z_0, h0 (fun z => hx z.1)⟩
theorem sp_isTime {Q : Int32 → mS → Prop} {x y : Int32} {σ : mS} (h1 : inR x (-20) 20 → inR y 1 20 → Q 1 σ) (h0 : ¬ (inR x (-20) 20 ∧ inR y 1 20) → Q 0 σ) : w_isTime Q x y σ := by
  unfold w_isTime w_isTime_30 w_isTime_31
  refine sp_in (p := -20) (q := 20) (by decide) (by decide) (fun hx => ⟨fun h => absurd h (by decide), fun _ => ?_⟩) (fun hx => ⟨fun _ => ?_, fun h => absurd rfl h⟩)
  · refine sp_in (p := 1) (q := 20) (by decide) (by decide) (fun hy => ⟨fun h => absurd h (by decide), fun _ => ?_⟩) (fun hy => ⟨fun _ => ?_, fun h => absurd rfl h⟩)
    · exact ⟨z_1, h1 hx hy⟩
    · exact ⟨z_0, h0 (fun z => hy z.2)⟩
  · exact ⟨z_0, h0 (fun z => hx z.1)⟩
/-- whether a LINE is there -/
theorem sp_against {Q : Int32 → mS → Prop} {x : Int32} {τ : mS} (hb : ¬ inR x 0 3 → Q (-1) τ) (hn : ∀ j, j < 4 → x = nI j → τ.2.1 1 j = 0 → Q (-2) τ) (hy : ∀ j, j < 4 → x = nI j → ¬ τ.2.1 1 j = 0 → Q 0 τ) : w_against Q x τ := by
  unfold w_against w_against_26
  refine sp_isLineM (fun h => ⟨fun _ => ?_, fun h => absurd h (by decide)⟩) (fun h => ⟨fun h => absurd rfl h, fun _ => hb h⟩)
  obtain ⟨j, hj, rfl⟩ := inR_nat (b := 3) h (by decide)
  refine ⟨vp_in_nI (by omega) (by decide), ?_⟩
  rw [nI_clamp (by omega)]
  exact ⟨hn j (by omega) rfl, hy j (by omega) rfl⟩
theorem sp_missing {Q : Int32 → cS → Prop} {x : Int32} {σ : cS} (hb : ¬ inR x 0 3 → Q (-1) σ) (hn : ∀ j, j < 4 → x = nI j → σ.2.2.1 (19 + 5 * j) 4 = 0 → Q (-2) σ) (hy : ∀ j, j < 4 → x = nI j → ¬ σ.2.2.1 (19 + 5 * j) 4 = 0 → Q 0 σ) : v_X7_missing Q x σ := by
  unfold v_X7_missing v_X7_missing_27
  refine sp_isLineC (fun h => ⟨fun _ => ?_, fun h => absurd h (by decide)⟩) (fun h => ⟨fun h => absurd rfl h, fun _ => hb h⟩)
  obtain ⟨j, hj, rfl⟩ := inR_nat (b := 3) h (by decide)
  refine ⟨vp_in_nI (by omega) (by decide), nmB_iff.mpr ?_⟩
  rw [nI_clamp (by omega)]
  exact ⟨hn j (by omega) rfl, hy j (by omega) rfl⟩
