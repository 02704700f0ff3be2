/-! PURE: item (promise 25) -/
def itV (x2 x4 : Int32) : Int32 := if x2 = 0 then x4.toInt8.toInt32 else x4
theorem sp_itemM {Q : Int32 → mS → Prop} {x1 x2 x3 x4 : Int32} {τ : mS} (hsz : ∀ j, j < 4 → ∃ s : Nat, s ≤ 20 ∧ τ.2.1 16 j = nI s) (hb : ¬ (inR x1 0 3 ∧ inR x2 0 2) → Q (-1) τ) (ho : ∀ j, j < 4 → x1 = nI j → inR x2 0 2 → (¬ τ.2.1 15 j = x2 → ¬ 0 ≤ τ.2.1 15 j → Q (-11) τ) ∧ (¬ τ.2.1 15 j = x2 → 0 ≤ τ.2.1 15 j → Q (-12) τ) ∧ (τ.2.1 15 j = x2 → ∀ s : Nat, s ≤ 20 → τ.2.1 16 j = nI s → (¬ inR x3 0 ((s : Int) - 1) → Q (-13) τ) ∧ (∀ i, i < s → x3 = nI i → Q 1 (mUI τ 17 (20 * j + i) (itV x2 x4))))) : w_item Q x1 x2 x3 x4 τ := by
  unfold w_item w_item_36 w_item_85
  refine sp_isSheetM (fun h1 h2 => ⟨fun _ => ?_, fun h => absurd h (by decide)⟩) (fun h1 => ⟨fun h => absurd rfl h, fun _ => hb h1⟩)
  obtain ⟨j, hj, rfl⟩ := inR_nat (b := 3) h1 (by decide)
  have hv := vp_in_nI (show j < 4 by omega) (by decide)
  obtain ⟨a, b, c⟩ := ho j (by omega) rfl h2
  obtain ⟨s, hs, es⟩ := hsz j (by omega)
  obtain ⟨c1, c2⟩ : (τ.2.1 15 j = x2 → ¬ inR x3 0 ((s : Int) - 1) → Q (-13) τ) ∧ (τ.2.1 15 j = x2 → ∀ i, i < s → x3 = nI i → Q 1 (mUI τ 17 (20 * j + i) (itV x2 x4))) := ⟨fun h => (c h s hs es).1, fun h => (c h s hs es).2⟩
  refine ⟨hv, ?_⟩
  rw [nI_clamp (by omega), es]
  refine ⟨fun h => ⟨hv, ?_⟩, fun h => ⟨hv, b h, a h⟩⟩
  have e : ((nI s - 1).toInt64).toInt = (s : Int) - 1 := by
    rw [iL_i]
    have e2 : (nI s - 1).toInt = (s : Int) - 1 := pk_sub_toInt (a := s) (b := 1) (by omega) (by omega)
    rw [e2]
    exact iL_toInt (by unfold r63; omega)
  refine sp_in (p := 0) (q := (s : Int) - 1) (by decide) e (fun h4 => ⟨fun _ => ?_, fun z => absurd z (by decide)⟩) (fun h4 => ⟨fun z => absurd rfl z, fun _ => c1 h h4⟩)
  obtain ⟨i, hi, rfl⟩ : ∃ i : Nat, i < s ∧ x3 = nI i := by
    obtain ⟨i, hi, e⟩ := inR_nat (x := x3) (b := 20) ⟨h4.1, by have := h4.2; omega⟩ (by decide)
    refine ⟨i, ?_, e⟩
    have := h4.2
    rw [e, nI_toInt (by omega)] at this
    omega
  have hq := c2 h i hi rfl
  rw [show (20 : Int32) = nI 20 from rfl, pk_mul, nI_add, nI_clamp (by omega)]
  have hv2 := vp_in_nI (show 20 * j + i < 80 by omega) (by decide)
  refine ⟨fun h0 => ⟨hv2, nmB_iff.mpr ?_⟩, fun h0 => ⟨hv2, nmB_iff.mpr ?_⟩⟩
  · unfold itV at hq; rw [if_neg h0] at hq; exact hq
  · unfold itV at hq; rw [if_pos h0] at hq; rw [byte_shift]; exact hq
theorem sp_itemC {Q : Int32 → cS → Prop} {x1 x2 x3 x4 : Int32} {σ : cS} (hsz : ∀ j, j < 4 → ∃ s : Nat, s ≤ 20 ∧ σ.2.2.1 (39 + 2 * j) 2 = nI s) (hb : ¬ (inR x1 0 3 ∧ inR x2 0 2) → Q (-1) σ) (ho : ∀ j, j < 4 → x1 = nI j → inR x2 0 2 → (σ.2.2.1 (39 + 2 * j) 1 = -1 → Q (-11) σ) ∧ (¬ σ.2.2.1 (39 + 2 * j) 1 = -1 → ¬ σ.2.2.1 (39 + 2 * j) 1 = x2 → Q (-12) σ) ∧ (¬ σ.2.2.1 (39 + 2 * j) 1 = -1 → σ.2.2.1 (39 + 2 * j) 1 = x2 → ∀ s : Nat, s ≤ 20 → σ.2.2.1 (39 + 2 * j) 2 = nI s → (¬ inR x3 0 ((s : Int) - 1) → Q (-13) σ) ∧ (∀ i, i < s → x3 = nI i → Q 1 (cUJ σ (39 + 2 * j + 1) i (itV x2 x4).toInt64)))) : v_X7_item Q x1 x2 x3 x4 σ := by
  unfold v_X7_item v_X7_item_42
  refine sp_unfit (m := 1) rfl (by decide) hsz (fun h => ⟨fun z => absurd z (by decide), fun _ => hb h⟩) (fun j hj e h2 => ?_)
  obtain ⟨a, b, c⟩ := ho j hj e h2
  refine ⟨fun h => ⟨fun z => absurd z (by decide), fun _ => a h⟩, fun h h' => ⟨fun z => absurd z (by decide), fun _ => b h h'⟩, fun h h' s hs es => ⟨fun h4 => ⟨fun z => absurd z (by decide), fun _ => (c h h' s hs es).1 h4⟩, fun h4 => ⟨fun _ => ?_, fun z => absurd rfl z⟩⟩⟩
  obtain ⟨i, hi, rfl⟩ : ∃ i : Nat, i < s ∧ x3 = nI i := by
    obtain ⟨i, hi, e⟩ := inR_nat (x := x3) (b := 20) ⟨h4.1, by have := h4.2; omega⟩ (by decide)
    refine ⟨i, ?_, e⟩
    have := h4.2
    rw [e, nI_toInt (by omega)] at this
    omega
  have hq := (c h h' s hs es).2 i hi rfl
  rw [e]
  refine ⟨vp_in_nI (by omega) (by decide), nmB_iff.mpr ?_⟩
  rw [nI_clamp (by omega), nI_clamp (by omega)]
  have hlen : cLen (39 + 2 * j + 1) = 20 := by
    rcases (show j = 0 ∨ j = 1 ∨ j = 2 ∨ j = 3 by omega) with rfl | rfl | rfl | rfl <;> rfl
  rw [hlen]
  have hv2 := vp_in_nI (show i < 20 by omega) (by decide)
  refine ⟨fun h0 => ⟨hv2, nmB_iff.mpr ?_⟩, fun h0 => ⟨hv2, nmB_iff.mpr ?_⟩⟩
  · unfold itV at hq; rw [if_neg h0] at hq; exact hq
  · unfold itV at hq; rw [if_pos h0] at hq; exact hq
theorem updL_at {f : Nat → Int64} {j : Nat} {x : Int64} : vp_updL f j x j = x := by simp [vp_updL]
theorem updL_ne {f : Nat → Int64} {j k : Nat} {x : Int64} (h : k ≠ j) : vp_updL f j x k = f k := by simp [vp_updL, h]
theorem cUJ_at {σ : cS} {a i : Nat} {x : Int64} : (cUJ σ a i x).1 a = vp_updL (σ.1 a) i x := cUR_at
theorem cUJ_ne {σ : cS} {a b i : Nat} {x : Int64} (h : b ≠ a) : (cUJ σ a i x).1 b = σ.1 b := cUR_ne h
theorem st_item : ∀ (z0 z1 z2 z3 : Int32) (σ : cS) (τ : mS), Inv σ τ → v_X7_item (fun r σ1 => w_item (fun r2 τ1 => r = r2 ∧ Inv σ1 τ1) z0 z1 z2 z3 τ) z0 z1 z2 z3 σ := by
  intro z0 z1 z2 z3 σ τ hI
  have szM : ∀ j, j < 4 → ∃ s : Nat, s ≤ 20 ∧ τ.2.1 16 j = nI s := fun j hj => (hI.2.2.1 j hj).2.2.2.1
  have szC : ∀ j, j < 4 → ∃ s : Nat, s ≤ 20 ∧ σ.2.2.1 (39 + 2 * j) 2 = nI s := fun j hj => by rw [(hI.2.2.1 j hj).2.1]; exact szM j hj
  refine sp_itemC szC (fun h => sp_itemM szM (fun _ => ⟨rfl, hI⟩) (fun j hj e h2 => absurd ⟨by rw [e]; exact inR_nI (b := 3) (by omega) (by decide), h2⟩ h)) (fun j hj e h2 => ?_)
  have hin : inR z0 0 3 := by rw [e]; exact inR_nI (b := 3) (by omega) (by decide)
  obtain ⟨s1, s2, s3, s4, s5⟩ := hI.2.2.1 j hj
  have same : ∀ j', j' < 4 → z0 = nI j' → j' = j := fun j' hj' e' => (nI_eq (by omega) (by omega)).mp (by rw [← e', e])
  obtain ⟨k2, hk2, ek2⟩ := inR_nat (b := 2) h2 (by decide)
  have hne : ¬ z1 = -1 := by
    intro q; rw [q] at ek2
    have := congrArg Int32.toInt ek2
    rw [nI_toInt (by omega)] at this
    have e1 : (-1 : Int32).toInt = -1 := by decide
    omega
  refine ⟨fun h => sp_itemM szM (fun h => absurd ⟨hin, h2⟩ h) (fun j' hj' e' _ => ?_), fun h h' => sp_itemM szM (fun h => absurd ⟨hin, h2⟩ h) (fun j' hj' e' _ => ?_), fun h h' s hs es => ⟨fun h4 => sp_itemM szM (fun h => absurd ⟨hin, h2⟩ h) (fun j' hj' e' _ => ?_), fun i hi ei => sp_itemM szM (fun h => absurd ⟨hin, h2⟩ h) (fun j' hj' e' _ => ?_)⟩⟩
  · have := same j' hj' e'; subst this
    rw [s1] at h
    rw [h]
    exact ⟨fun _ _ => ⟨rfl, hI⟩, fun _ q => absurd q (by decide), fun q => absurd q.symm hne⟩
  · have := same j' hj' e'; subst this
    rw [s1] at h h'
    obtain ⟨k, hk, ek⟩ : ∃ k : Nat, k < 3 ∧ τ.2.1 15 j' = nI k := s3.resolve_left h
    exact ⟨fun _ q => absurd (by rw [ek]; exact nI_pos' (by omega)) q, fun _ _ => ⟨rfl, hI⟩, fun q => absurd q h'⟩
  · have := same j' hj' e'; subst this
    rw [s1] at h h'
    refine ⟨fun q => absurd h' q, fun q => absurd h' q, fun _ s' hs' es' => ⟨fun _ => ⟨rfl, hI⟩, fun i hi ei => ?_⟩⟩
    have : s' = s := (nI_eq (by omega) (by omega)).mp (by rw [← es', ← s2, es])
    subst this
    exact absurd (by rw [ei]; unfold inR; rw [nI_toInt (by omega)]; omega) h4
  · have := same j' hj' e'; subst this
    rw [s1] at h h'
    refine ⟨fun q => absurd h' q, fun q => absurd h' q, fun _ s' hs' es' => ?_⟩
    have : s' = s := (nI_eq (by omega) (by omega)).mp (by rw [← es', ← s2, es])
    subst this
    refine ⟨fun q => absurd (by rw [ei]; unfold inR; rw [nI_toInt (by omega)]; omega) q, fun i' hi' ei' => ⟨rfl, ?_⟩⟩
    have : i' = i := (nI_eq (by omega) (by omega)).mp (by rw [← ei', ei])
    subst this
    refine Inv_sheet hI hj (fun a ha => cUJ_ne (by omega)) rfl (fun o _ => rfl) rfl rfl rfl (fun b _ _ h17 => mUI_ne h17) (fun q _ => by rw [mUI_ne (by decide)]) (fun q _ => by rw [mUI_ne (by decide)]) (fun q hq => by rw [mUI_at, upd_ne (by omega)]) ?_
    refine ⟨by rw [mUI_ne (by decide)]; exact s1, by rw [mUI_ne (by decide)]; exact s2, by rw [mUI_ne (by decide)]; exact s3, by rw [mUI_ne (by decide)]; exact s4, fun q hq => ?_⟩
    rw [mUI_at, show 40 + 2 * j' = 39 + 2 * j' + 1 by omega, cUJ_at]
    by_cases e : q = i'
    · subst e; rw [updL_at, upd_at]
    · rw [updL_ne e, upd_ne (by omega), show 39 + 2 * j' + 1 = 40 + 2 * j' by omega]; exact s5 q hq
