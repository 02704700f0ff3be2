/-! PURE: kind, bends, times, drop (promises 5, 11, 12, 4) -/
theorem Inv_line {σ σ' : cS} {τ τ' : mS} {j : Nat} (h : Inv σ τ) (hj : j < 4) (hJ : ∀ a, 19 ≤ a → (a < 19 + 5 * j ∨ 23 + 5 * j < a) → σ'.1 a = σ.1 a) (hB : σ'.2.1 = σ.2.1) (hF : ∀ o, 19 ≤ o → o ≠ 19 + 5 * j → σ'.2.2.1 o = σ.2.2.1 o) (hT : σ'.2.2.1 1 1 = σ.2.2.1 1 1) (hP : plainR σ → plainR σ') (mO : ∀ i, (i < 12 * j ∨ 12 * j + 12 ≤ i) → τ'.1 2 i = τ.1 2 i) (mI : ∀ b, b ≠ 1 → τ'.2.1 b = τ.2.1 b) (m1 : ∀ k, k ≠ j → τ'.2.1 1 k = τ.2.1 1 k) (mT : τ'.2.2.1 = τ.2.2.1) (hn : lineR σ' τ' j) : Inv σ' τ' := by
  obtain ⟨h1, h2, h3, h4⟩ := h
  refine ⟨hP h1, tapeR_keep hT (by rw [hB]) mT (mI 7 (by decide)) h2, fun k hk => sheetR_keep (hJ _ (by omega) (by omega)) (hF _ (by omega) (by omega)) (by rw [mI 15 (by decide)]) (by rw [mI 16 (by decide)]) (fun _ _ => by rw [mI 17 (by decide)]) (h3 k hk), fun k hk => ?_⟩
  by_cases e : k = j
  · subst e; exact hn
  · exact lineR_keep (fun a g1 g2 => hJ a (by omega) (by omega)) (hF _ (by omega) (by omega)) (fun i hi => mO _ (by omega)) (m1 k e) (h4 k hk)
theorem isV_of {σ : cS} {τ : mS} {j : Nat} {v : Nat → Int} (h : isV σ τ j v) : ofV τ j v := ⟨h.2.2.2.1, h.2.2.1.1⟩
theorem st_kind : ∀ (z0 : Int32) (σ : cS) (τ : mS), Inv σ τ → v_X7_kind (fun r σ1 => w_kind (fun r2 τ1 => r = r2 ∧ Inv σ1 τ1) z0 τ) z0 σ := by
  intro z0 σ τ hI
  unfold v_X7_kind v_X7_kind_23 w_kind w_kind_19
  rcases lcases hI z0 with h | ⟨j, hj, rfl, h1, h2⟩ | ⟨j, v, hj, rfl, hV⟩
  · exact mis_b h ⟨fun q => absurd q (by decide), fun _ => ag_b h ⟨fun q => absurd q (by decide), fun _ => ⟨rfl, hI⟩⟩⟩
  · exact mis_n hj h1 ⟨fun q => absurd q (by decide), fun _ => ag_n hj h2 ⟨fun q => absurd q (by decide), fun _ => ⟨rfl, hI⟩⟩⟩
  · obtain ⟨h1, h2, hp, hm, hk⟩ := id hV
    refine mis_y hj h1 ⟨fun _ => ⟨vp_in_nI hj (by decide), nmB_iff.mpr ?_⟩, fun q => absurd rfl q⟩
    rw [nI_clamp (by omega)]
    exact ag_y hj h2 ⟨fun _ => sp_kindOf hj (isV_of hV) hp.2.2 (fun τ' hs _ => ⟨hk.2.2.1, Inv_keep hI cKeep_rf (s6_keep hs)⟩), fun q => absurd (by decide) q⟩
theorem kd_le (v : Nat → Int) : kd v ≤ 3 := by
  unfold kd
  split
  · omega
  · split
    · omega
    · split <;> omega
theorem pl_b {Q : Int32 → cS → Prop} {x : Int32} {σ : cS} (h : ¬ inR x 0 3) (k : Q (-1) σ) : v_X7_pointless Q x σ := by
  unfold v_X7_pointless
  exact mis_b h ⟨fun q => absurd q (by decide), fun _ => k⟩
theorem pl_n {Q : Int32 → cS → Prop} {j : Nat} {σ : cS} (hj : j < 4) (h : σ.2.2.1 (19 + 5 * j) 4 = 0) (k : Q (-2) σ) : v_X7_pointless Q (nI j) σ := by
  unfold v_X7_pointless
  exact mis_n hj h ⟨fun q => absurd q (by decide), fun _ => k⟩
theorem pl_y {Q : Int32 → cS → Prop} {j m : Nat} {σ : cS} (hj : j < 4) (h : ¬ σ.2.2.1 (19 + 5 * j) 4 = 0) (hm : σ.2.2.1 (19 + 5 * j) 6 = nI m) (hm3 : m ≤ 3) (k0 : m = 0 → Q (-4) σ) (k : m ≠ 0 → Q 0 σ) : v_X7_pointless Q (nI j) σ := by
  unfold v_X7_pointless v_X7_pointless_30
  refine mis_y hj h ⟨fun _ => ⟨vp_in_nI hj (by decide), nmB_iff.mpr ?_⟩, fun q => absurd rfl q⟩
  rw [nI_clamp (by omega), hm]
  refine ⟨fun q => k (fun z => q (by rw [z]; rfl)), fun q => k0 ((nI_eq (by omega) (by omega)).mp q)⟩
theorem nI_ne {m k : Nat} (hm : m ≤ 3) (hk : k ≤ 3) (h : m ≠ k) : ¬ nI m = nI k := fun q => h ((nI_eq (by omega) (by omega)).mp q)
theorem st_bends : ∀ (z0 : Int32) (σ : cS) (τ : mS), Inv σ τ → v_X7_bends (fun r σ1 => w_bends (fun r2 τ1 => r = r2 ∧ Inv σ1 τ1) z0 τ) z0 σ := by
  intro z0 σ τ hI
  unfold v_X7_bends v_X7_bends_23 w_bends w_bends_19 w_bends_30
  rcases lcases hI z0 with h | ⟨j, hj, rfl, h1, h2⟩ | ⟨j, v, hj, rfl, hV⟩
  · exact pl_b h ⟨fun q => absurd q (by decide), fun _ => ag_b h ⟨fun q => absurd q (by decide), fun _ => ⟨fun _ => ⟨rfl, hI⟩, fun q => absurd q (by decide)⟩⟩⟩
  · exact pl_n hj h1 ⟨fun q => absurd q (by decide), fun _ => ag_n hj h2 ⟨fun q => absurd q (by decide), fun _ => ⟨fun _ => ⟨rfl, hI⟩, fun q => absurd q (by decide)⟩⟩⟩
  · obtain ⟨h1, h2, hp, hm, hk⟩ := id hV
    obtain ⟨f0, f1, f2⟩ := kd_facts v
    have hk3 := kd_le v
    refine pl_y hj h1 hk.2.2.1 hk3 (fun e => ⟨fun q => absurd q (by decide), fun _ => ?_⟩) (fun e => ⟨fun _ => ⟨vp_in_nI hj (by decide), nmB_iff.mpr ?_⟩, fun q => absurd rfl q⟩)
    · refine ag_y hj h2 ⟨fun _ => sp_kindOf hj (isV_of hV) hp.2.2 (fun τ' hs _ => ?_), fun q => absurd (by decide) q⟩
      rw [e]
      exact ⟨fun q => absurd rfl q, fun _ => ⟨rfl, Inv_keep hI cKeep_rf (s6_keep hs)⟩⟩
    · rw [nI_clamp (by omega)]
      have key : ∀ r : Int32, r = nI (kd v) → w_against (fun u101 σ102 => ((0 ≤ u101 → w_kindOf (fun u103 σ104 => ((¬ u103 = 0 → r = u103 ∧ Inv σ σ104) ∧ (u103 = 0 → r = -4 ∧ Inv σ σ104))) (nI j) σ102) ∧ (¬ 0 ≤ u101 → ((¬ u101 = 0 → r = u101 ∧ Inv σ σ102) ∧ (u101 = 0 → r = -4 ∧ Inv σ σ102))))) (nI j) τ := by
        intro r hr
        refine ag_y hj h2 ⟨fun _ => sp_kindOf hj (isV_of hV) hp.2.2 (fun τ' hs _ => ?_), fun q => absurd (by decide) q⟩
        exact ⟨fun _ => ⟨hr, Inv_keep hI cKeep_rf (s6_keep hs)⟩, fun q => absurd q (nI_ne hk3 (by decide) e)⟩
      unfold v_X0_equationDegree v_X0_equationDegree_16
      rw [hk.2.2.1, hk.2.1]
      refine ⟨fun q => key _ ?_, fun q => key _ q.symm⟩
      have h1' : kd v ≠ 1 := fun z => q (by rw [z]; rfl)
      have hd0 : dg v ≠ 0 := fun z => e (f0 z)
      have : kd v = dg v := f2 hd0 (fun z => h1' (f1 hd0 z))
      rw [this]
theorem st_times : ∀ (z0 : Int32) (σ : cS) (τ : mS), Inv σ τ → v_X7_times (fun r σ1 => w_times (fun r2 τ1 => r = r2 ∧ Inv σ1 τ1) z0 τ) z0 σ := by
  intro z0 σ τ hI
  unfold v_X7_times v_X7_times_38 w_times w_times_29 w_bends w_bends_19 w_bends_30
  rcases lcases hI z0 with h | ⟨j, hj, rfl, h1, h2⟩ | ⟨j, v, hj, rfl, hV⟩
  · exact pl_b h ⟨fun q => absurd q (by decide), fun _ => ag_b h ⟨fun q => absurd q (by decide), fun _ => ⟨fun _ => ⟨fun _ => ⟨fun _ => ⟨rfl, hI⟩, fun q => absurd (by decide) q⟩, fun q => absurd q (by decide)⟩, fun q => absurd q (by decide)⟩⟩⟩
  · exact pl_n hj h1 ⟨fun q => absurd q (by decide), fun _ => ag_n hj h2 ⟨fun q => absurd q (by decide), fun _ => ⟨fun _ => ⟨fun _ => ⟨fun _ => ⟨rfl, hI⟩, fun q => absurd (by decide) q⟩, fun q => absurd q (by decide)⟩, fun q => absurd q (by decide)⟩⟩⟩
  · obtain ⟨h1, h2, hp, hm, hk⟩ := id hV
    have hk3 := kd_le v
    refine pl_y hj h1 hk.2.2.1 hk3 (fun e => ⟨fun q => absurd q (by decide), fun _ => ?_⟩) (fun e => ⟨fun _ => ⟨vp_in_nI hj (by decide), nmB_iff.mpr ?_⟩, fun q => absurd rfl q⟩)
    · refine ag_y hj h2 ⟨fun _ => sp_kindOf hj (isV_of hV) hp.2.2 (fun τ' hs _ => ?_), fun q => absurd (by decide) q⟩
      rw [e]
      exact ⟨fun q => absurd rfl q, fun _ => ⟨fun _ => ⟨fun _ => ⟨rfl, Inv_keep hI cKeep_rf (s6_keep hs)⟩, fun q => absurd (by decide) q⟩, fun q => absurd q (by decide)⟩⟩
    · rw [nI_clamp (by omega), hk.2.2.1]
      refine ⟨fun q => ?_, fun q => ⟨vp_in_nI hj (by decide), nmB_iff.mpr ?_⟩⟩
      · refine ag_y hj h2 ⟨fun _ => sp_kindOf hj (isV_of hV) hp.2.2 (fun τ' hs _ => ⟨fun _ => ⟨fun _ => ⟨fun z => ?_, fun _ => ⟨rfl, Inv_keep hI cKeep_rf (s6_keep hs)⟩⟩, fun z => absurd z q⟩, fun z => absurd z (nI_ne hk3 (by decide) e)⟩), fun q => absurd (by decide) q⟩
        have : kd v ≠ 1 := fun w => q (by rw [w]; rfl)
        exact absurd z (nI_ge (show 1 < kd v by omega) (by omega))
      · refine ag_y hj h2 ⟨fun _ => sp_kindOf hj (isV_of hV) hp.2.2 (fun τ' hs _ => ⟨fun _ => ⟨fun z => absurd q z, fun _ => ?_⟩, fun z => absurd z (nI_ne hk3 (by decide) e)⟩), fun q => absurd (by decide) q⟩
        refine sp_degreeOf hj (fun i hi => ofV_r (ofV_s6 (isV_of hV) hs) hi) ⟨hk.2.1, Inv_keep hI cKeep_rf (s6_keep hs)⟩
theorem st_drop : ∀ (z0 : Int32) (σ : cS) (τ : mS), Inv σ τ → v_X7_drop (fun r σ1 => w_drop (fun r2 τ1 => r = r2 ∧ Inv σ1 τ1) z0 τ) z0 σ := by
  intro z0 σ τ hI
  unfold v_X7_drop w_drop
  rcases lcases hI z0 with h | ⟨j, hj, rfl, h1, h2⟩ | ⟨j, v, hj, rfl, hV⟩
  · exact mis_b h ⟨fun q => absurd q (by decide), fun _ => ag_b h ⟨fun q => absurd q (by decide), fun _ => ⟨rfl, hI⟩⟩⟩
  · exact mis_n hj h1 ⟨fun q => absurd q (by decide), fun _ => ag_n hj h2 ⟨fun q => absurd q (by decide), fun _ => ⟨rfl, hI⟩⟩⟩
  · obtain ⟨h1, h2, hp, hm, hk⟩ := id hV
    have hvj := vp_in_nI hj (show 4 < 2 ^ 31 by decide)
    refine mis_y hj h1 ⟨fun _ => ⟨hvj, nmB_iff.mpr (nmB_iff.mpr ⟨hvj, nmB_iff.mpr ?_⟩)⟩, fun q => absurd rfl q⟩
    rw [nI_clamp (by omega), cUF_at, upd_ne (by decide)]
    refine ag_y hj h2 ⟨fun _ => ⟨hvj, nmB_iff.mpr ?_⟩, fun q => absurd (by decide) q⟩
    rw [show vp_nar .boolean (0 : Int32) = 0 by decide]
    refine sp_kindOf (v := v) hj ⟨hm, hp.1⟩ hp.2.2 (fun τ' hs _ => ⟨hk.2.2.1, ?_⟩)
    have e1 : τ'.2.1 = (mUI τ 1 j 0).2.1 := by rw [hs.2]
    refine Inv_line hI hj (fun a _ _ => rfl) rfl (fun o _ ho => cUF_ne ho) (by rw [cUF_ne (by omega)]) id (fun i _ => by rw [hs.1 2 (by decide)]; rfl) (fun b hb => by rw [e1, mUI_ne hb]) (fun k hk => by rw [e1, mUI_at, upd_ne hk]) (by rw [hs.2]; rfl) ⟨?_, Or.inl ?_⟩
    · rw [cUF_at, upd_at, e1, mUI_at, upd_at]
    · rw [e1, mUI_at, upd_at]
