/-! PURE: degree, told, far (promises 6, 7, 9): the questions themselves -/
theorem cLenL {j : Nat} (hj : j < 4) : cLen (19 + 5 * j + 1) = 12 ∧ cLen (19 + 5 * j + 2) = 10 ∧ cLen (19 + 5 * j + 3) = 6 ∧ cLen (19 + 5 * j + 4) = 3 := by
  rcases (show j = 0 ∨ j = 1 ∨ j = 2 ∨ j = 3 by omega) with rfl | rfl | rfl | rfl <;> exact ⟨rfl, rfl, rfl, rfl⟩
theorem dg_le (v : Nat → Int) : dg v ≤ 3 := by
  unfold dg
  split
  · omega
  · split
    · omega
    · split <;> omega
theorem sp_number {Q : Int64 → cS → Prop} {o w k : Nat} {σ : cS} (hl : cLen (o + 1) = 12) (hw : w < 3) (hk : k < 4) (h : Q (σ.1 (o + 1) (4 * w + k)) σ) : v_X0_number Q o (nI w) (nI k) σ := by
  unfold v_X0_number v_X0_number_18 v_X0_number_32
  refine ⟨fun q => absurd q (nI_pos (by omega)), fun _ => ⟨fun q => absurd q (by rw [show (2 : Int32) = nI 2 from rfl]; exact nI_nlt (by omega) (by omega)), fun _ => ⟨fun q => absurd q (nI_pos (by omega)), fun _ => ⟨fun _ => ?_, fun q => absurd (by rw [show (4 : Int32) = nI 4 from rfl]; exact nI_lt hk (by omega)) q⟩⟩⟩⟩
  rw [show (4 : Int32) = nI 4 from rfl, pk_mul, nI_add, nI_clamp (by omega), hl]
  exact ⟨vp_in_nI (by omega) (by decide), h⟩
theorem st_degree : ∀ (z0 : Int32) (σ : cS) (τ : mS), Inv σ τ → v_X7_degree (fun r σ1 => w_degree (fun r2 τ1 => r = r2 ∧ Inv σ1 τ1) z0 τ) z0 σ := by
  intro z0 σ τ hI
  unfold v_X7_degree v_X7_degree_23 w_degree w_degree_19
  rcases lcases hI z0 with h | ⟨j, hj, rfl, h1, h2⟩ | ⟨j, v, hj, rfl, h1, h2, hp, hm, hk⟩
  · exact mis_b h ⟨fun q => absurd q (by decide), fun _ => ag_b h ⟨fun q => absurd q (by decide), fun _ => ⟨rfl, hI⟩⟩⟩
  · exact mis_n hj h1 ⟨fun q => absurd q (by decide), fun _ => ag_n hj h2 ⟨fun q => absurd q (by decide), fun _ => ⟨rfl, hI⟩⟩⟩
  · refine mis_y hj h1 ⟨fun _ => ⟨vp_in_nI hj (by decide), nmB_iff.mpr ?_⟩, fun q => absurd rfl q⟩
    rw [nI_clamp (by omega)]
    refine ag_y hj h2 ⟨fun _ => sp_degreeOf hj (fun i hi => ⟨hm i hi, plain_r hp hi⟩) ⟨hk.2.1, hI⟩, fun q => absurd (by decide) q⟩
theorem st_told : ∀ (z0 z1 z2 : Int32) (σ : cS) (τ : mS), Inv σ τ → v_X7_told (fun r σ1 => w_told (fun r2 τ1 => r = r2 ∧ Inv σ1 τ1) z0 z1 z2 τ) z0 z1 z2 σ := by
  intro z0 z1 z2 σ τ hI
  unfold v_X7_told v_X7_told_18 v_X7_told_55 w_told w_told_24 w_told_33 w_told_65
  by_cases a1 : inR z1 0 2
  · refine wi_t 0 2 (by decide) (by decide) a1 ⟨fun q => absurd q (by decide), fun _ => ?_⟩
    by_cases a2 : inR z2 0 3
    · refine wi_t 0 3 (by decide) (by decide) a2 ⟨fun _ => ?_, fun q => absurd q (by decide)⟩
      rcases lcases hI z0 with h | ⟨j, hj, rfl, h1, h2⟩ | ⟨j, v, hj, rfl, h1, h2, hp, hm, hk⟩
      · exact mis_b h ⟨fun q => absurd q (by decide), fun _ => iM_t 0 2 (by decide) (by decide) a1 ⟨fun q => absurd q (by decide), fun _ => iM_t 0 3 (by decide) (by decide) a2 ⟨fun _ => ag_b h ⟨fun q => absurd q (by decide), fun _ => ⟨rfl, hI⟩⟩, fun q => absurd q (by decide)⟩⟩⟩
      · exact mis_n hj h1 ⟨fun q => absurd q (by decide), fun _ => iM_t 0 2 (by decide) (by decide) a1 ⟨fun q => absurd q (by decide), fun _ => iM_t 0 3 (by decide) (by decide) a2 ⟨fun _ => ag_n hj h2 ⟨fun q => absurd q (by decide), fun _ => ⟨rfl, hI⟩⟩, fun q => absurd q (by decide)⟩⟩⟩
      · obtain ⟨w, hw, rfl⟩ := inR_nat (b := 2) a1 (by decide)
        obtain ⟨k, hk3, rfl⟩ := inR_nat (b := 3) a2 (by decide)
        refine mis_y hj h1 ⟨fun _ => ⟨vp_in_nI hj (by decide), nmB_iff.mpr ?_⟩, fun q => absurd rfl q⟩
        rw [nI_clamp (by omega)]
        refine sp_number (cLenL hj).1 (by omega) (by omega) ?_
        refine iM_t 0 2 (by decide) (by decide) a1 ⟨fun q => absurd q (by decide), fun _ => iM_t 0 3 (by decide) (by decide) a2 ⟨fun _ => ag_y hj h2 ⟨fun _ => ?_, fun q => absurd (by decide) q⟩, fun q => absurd q (by decide)⟩⟩
        rw [show (12 : Int32) = nI 12 from rfl, show (4 : Int32) = nI 4 from rfl, pk_mul, pk_mul, nI_add, nI_add, nI_clamp (by omega)]
        refine ⟨vp_in_nI (by omega) (by decide), ?_, hI⟩
        rw [hk.1 _ (by omega), show 12 * j + 4 * w + k = 12 * j + (4 * w + k) by omega, hm _ (by omega)]
    · refine wi_f 0 3 (by decide) (by decide) a2 ⟨fun q => absurd rfl q, fun _ => ?_⟩
      exact iM_t 0 2 (by decide) (by decide) a1 ⟨fun q => absurd q (by decide), fun _ => iM_f 0 3 (by decide) (by decide) a2 ⟨fun q => absurd rfl q, fun _ => ⟨fun q => absurd q (by decide), fun _ => ⟨by decide, hI⟩⟩⟩⟩
  · refine wi_f 0 2 (by decide) (by decide) a1 ⟨fun _ => ?_, fun q => absurd rfl q⟩
    exact iM_f 0 2 (by decide) (by decide) a1 ⟨fun _ => ⟨fun q => absurd q (by decide), fun _ => ⟨by decide, hI⟩⟩, fun q => absurd rfl q⟩
theorem st_far : ∀ (z0 z1 : Int32) (σ : cS) (τ : mS), Inv σ τ → v_X7_far (fun r σ1 => w_far (fun r2 τ1 => r = r2 ∧ Inv σ1 τ1) z0 z1 τ) z0 z1 σ := by
  intro z0 z1 σ τ hI
  unfold v_X7_far v_X7_far_51 w_far w_far_21
  by_cases a1 : inR z1 0 2
  · refine wi_t 0 2 (by decide) (by decide) a1 ⟨fun _ => ?_, fun q => absurd q (by decide)⟩
    rcases lcases hI z0 with h | ⟨j, hj, rfl, h1, h2⟩ | ⟨j, v, hj, rfl, h1, h2, hp, hm, hk⟩
    · exact mis_b h ⟨fun q => absurd q (by decide), fun _ => iM_t 0 2 (by decide) (by decide) a1 ⟨fun _ => ag_b h ⟨fun q => absurd q (by decide), fun _ => ⟨rfl, hI⟩⟩, fun q => absurd q (by decide)⟩⟩
    · exact mis_n hj h1 ⟨fun q => absurd q (by decide), fun _ => iM_t 0 2 (by decide) (by decide) a1 ⟨fun _ => ag_n hj h2 ⟨fun q => absurd q (by decide), fun _ => ⟨rfl, hI⟩⟩, fun q => absurd q (by decide)⟩⟩
    · obtain ⟨w, hw, rfl⟩ := inR_nat (b := 2) a1 (by decide)
      have hd := dg_le v
      refine mis_y hj h1 ⟨fun _ => ⟨vp_in_nI hj (by decide), nmB_iff.mpr ⟨vp_in_nI hj (by decide), nmB_iff.mpr ?_⟩⟩, fun q => absurd rfl q⟩
      rw [nI_clamp (by omega), hk.2.1]
      refine sp_number (cLenL hj).1 (by omega) (by omega) ?_
      refine iM_t 0 2 (by decide) (by decide) a1 ⟨fun _ => ag_y hj h2 ⟨fun _ => sp_degreeOf hj (fun i hi => ⟨hm i hi, plain_r hp hi⟩) ?_, fun q => absurd (by decide) q⟩, fun q => absurd q (by decide)⟩
      rw [show (12 : Int32) = nI 12 from rfl, show (4 : Int32) = nI 4 from rfl, pk_mul, pk_mul, nI_add, nI_add, nI_clamp (by omega)]
      refine ⟨vp_in_nI (by omega) (by decide), ?_, hI⟩
      rw [hk.1 _ (by omega), show 12 * j + 4 * w + dg v = 12 * j + (4 * w + dg v) by omega, hm _ (by omega)]
  · refine wi_f 0 2 (by decide) (by decide) a1 ⟨fun q => absurd rfl q, fun _ => ?_⟩
    exact iM_f 0 2 (by decide) (by decide) a1 ⟨fun q => absurd rfl q, fun _ => ⟨fun q => absurd q (by decide), fun _ => ⟨by decide, hI⟩⟩⟩
