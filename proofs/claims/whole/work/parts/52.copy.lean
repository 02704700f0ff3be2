/-! PURE: a new LINE on both sides; copy (promise 22) -/
theorem Inv_new {σ σ' : cS} {τ τ' : mS} {j : Nat} {v : Nat → Int} (hI : Inv σ τ) (hj : j < 4) (hp : plain v) (hc : chF (scL (19 + 5 * j)) (19 + 5 * j) σ σ') (h4 : σ'.2.2.1 (19 + 5 * j) 4 = 1) (hk : known σ' (19 + 5 * j) v) (m2 : ∀ i, i < 12 → τ'.1 2 (12 * j + i) = iL (v i)) (mO : ∀ i, (i < 12 * j ∨ 12 * j + 12 ≤ i) → τ'.1 2 i = τ.1 2 i) (mI : ∀ b, b ≠ 1 → τ'.2.1 b = τ.2.1 b) (m1 : ∀ k, k ≠ j → τ'.2.1 1 k = τ.2.1 1 k) (m1j : τ'.2.1 1 j = 1) (mT : τ'.2.2.1 = τ.2.2.1) : Inv σ' τ' := by
  refine Inv_line hI hj (fun a h1 h2 => hc.1 a (by unfold scL; omega)) hc.2.1 (fun o h1 h2 => hc.2.2.1 o h2) (by rw [hc.2.2.1 1 (by omega)]) (fun h => by unfold plainR at *; rw [hc.2.2.2]; exact h) mO mI m1 mT ⟨by rw [h4, m1j], Or.inr ⟨m1j, v, hp, m2, hk⟩⟩
theorem bl1 : vp_nar .boolean (1 : Int32) = 1 := by decide
/-- the reference's rows but for the LINEs' own -/
def mOnly2 (τ τ' : mS) : Prop := (∀ a, a ≠ 2 → τ'.1 a = τ.1 a) ∧ τ'.2 = τ.2
theorem isLineC_t {Q : Int32 → cS → Prop} {j : Nat} {σ : cS} (hj : j < 4) (h : Q 1 σ) : v_X7_isLine Q (nI j) σ := sp_isLineC (fun _ => h) (fun z => absurd (inR3 hj) z)
theorem isLineC_f {Q : Int32 → cS → Prop} {x : Int32} {σ : cS} (hx : ¬ inR x 0 3) (h : Q 0 σ) : v_X7_isLine Q x σ := sp_isLineC (fun z => absurd z hx) (fun _ => h)
theorem isLineM_t {Q : Int32 → mS → Prop} {j : Nat} {σ : mS} (hj : j < 4) (h : Q 1 σ) : w_isLine Q (nI j) σ := sp_isLineM (fun _ => h) (fun z => absurd (inR3 hj) z)
theorem isLineM_f {Q : Int32 → mS → Prop} {x : Int32} {σ : mS} (hx : ¬ inR x 0 3) (h : Q 0 σ) : w_isLine Q x σ := sp_isLineM (fun z => absurd z hx) (fun _ => h)
theorem sp_copyM {Q : Int32 → mS → Prop} {j l : Nat} {τ : mS} {v : Nat → Int} (hj : j < 4) (hl : l < 4) (hv : ofV τ j v) (hc : copr v) (h : ∀ τ' : mS, (∀ i, i < 12 → τ'.1 2 (12 * l + i) = iL (v i)) → (∀ i, (i < 12 * l ∨ 12 * l + 12 ≤ i) → τ'.1 2 i = τ.1 2 i) → (∀ b, b ≠ 1 → τ'.2.1 b = τ.2.1 b) → (∀ k, k ≠ l → τ'.2.1 1 k = τ.2.1 1 k) → τ'.2.1 1 l = 1 → τ'.2.2.1 = τ.2.2.1 → Q (nI (kd v)) τ') : w_copy_30 Q fuL (nI j) (nI l) 0 τ := by
  refine loopU (N := 12) (F := fun n x s => w_copy_30 Q n (nI j) (nI l) x s) (I := fun c s => mOnly2 τ s ∧ (∀ i, i < c → s.1 2 (12 * l + i) = iL (v i)) ∧ ∀ x, (x < 12 * l ∨ 12 * l + c ≤ x) → s.1 2 x = τ.1 2 x) (by decide) ?_ ?_ τ ⟨⟨fun _ _ => rfl, rfl⟩, fun i hi => by omega, fun _ _ => rfl⟩
  · intro n c s hc12 ⟨h1, h2, h3⟩ go
    show w_copy_30 Q (n + 1) (nI j) (nI l) (nI c) s
    unfold w_copy_30
    rw [show (12 : Int32) = nI 12 from rfl, pk_mul, pk_mul, nI_add, nI_add, nI_clamp (show 12 * l + c < 2 ^ 31 by omega), nI_clamp (show 12 * j + c < 2 ^ 31 by omega)]
    refine ⟨fun q => absurd q (nI_ge hc12 (by decide)), fun _ => ⟨vp_in_nI (by omega) (by decide), vp_in_nI (by omega) (by decide), nmB_iff.mpr (nmB_iff.mpr ?_)⟩⟩
    have e : s.1 2 (12 * j + c) = iL (v c) := by
      rw [h3 _ (by omega)]; exact hv.1 c hc12
    rw [e, nI_1]
    refine go _ ⟨⟨fun a ha => by rw [mUJ_ne ha]; exact h1.1 a ha, h1.2⟩, fun i hi => ?_, fun x hx => ?_⟩
    · rw [mUJ_at]
      rcases Nat.lt_or_ge i c with q | q
      · rw [updL_ne (by omega)]; exact h2 i q
      · have : i = c := by omega
        subst this; rw [updL_at]
    · rw [mUJ_at, updL_ne (by omega)]; exact h3 x (by omega)
  · intro n s ⟨h1, h2, h3⟩
    show w_copy_30 Q (n + 1) (nI j) (nI l) (nI 12) s
    unfold w_copy_30
    refine ⟨fun _ => ⟨vp_in_nI hl (by decide), nmB_iff.mpr ?_⟩, fun q => absurd (by decide) q⟩
    rw [nI_clamp (show l < 2 ^ 31 by omega), bl1]
    refine sp_kindOf hl ⟨fun i hi => h2 i hi, hv.2⟩ hc (fun s' hs _ => ?_)
    refine h s' (fun i hi => by rw [hs.1 2 (by decide)]; exact h2 i hi) (fun i hi => by rw [hs.1 2 (by decide)]; exact h3 i hi) (fun b hb => by rw [hs.2, mUI_ne hb, h1.2]) (fun k hk => by rw [hs.2, mUI_at, h1.2, upd_ne hk]) (by rw [hs.2, mUI_at, upd_at]) (by rw [hs.2]; show s.2.2.1 = _; rw [h1.2])
theorem st_copy : ∀ (z0 z1 : Int32) (σ : cS) (τ : mS), Inv σ τ → v_X7_copy (fun r σ1 => w_copy (fun r2 τ1 => r = r2 ∧ Inv σ1 τ1) z0 z1 τ) z0 z1 σ := by
  intro z0 z1 σ τ hI
  unfold v_X7_copy v_X7_copy_14
  have bad : (¬ inR z0 0 3 ∨ ¬ inR z1 0 3) → w_copy (fun r2 τ1 => (-1 : Int32) = r2 ∧ Inv σ τ1) z0 z1 τ := by
    intro h
    unfold w_copy w_copy_14
    by_cases a : inR z0 0 3
    · obtain ⟨j, hj, rfl⟩ := inR_nat (b := 3) a (by decide)
      refine isLineM_t (by omega) ⟨fun q => absurd q (by decide), fun _ => isLineM_f (h.resolve_left (fun z => z a)) ⟨fun q => absurd rfl q, fun _ => ⟨rfl, hI⟩⟩⟩
    · exact isLineM_f a ⟨fun _ => ⟨rfl, hI⟩, fun q => absurd rfl q⟩
  rcases lcases hI z0 with h | ⟨j, hj, rfl, h1, h2⟩ | ⟨j, v, hj, rfl, hV⟩
  · exact isLineC_f h ⟨fun _ => bad (Or.inl h), fun q => absurd rfl q⟩
  · refine isLineC_t hj ⟨fun q => absurd q (by decide), fun _ => ?_⟩
    by_cases a : inR z1 0 3
    · obtain ⟨l, hl, rfl⟩ := inR_nat (b := 3) a (by decide)
      refine isLineC_t (by omega) ⟨fun _ => mis_n hj h1 ⟨fun q => absurd q (by decide), fun _ => ?_⟩, fun q => absurd q (by decide)⟩
      unfold w_copy
      refine isLineM_t hj ⟨fun q => absurd q (by decide), fun _ => isLineM_t (by omega) ⟨fun _ => ⟨vp_in_nI hj (by decide), ?_⟩, fun q => absurd q (by decide)⟩⟩
      rw [nI_clamp (by omega), h2]
      exact ⟨fun q => absurd rfl q, fun _ => ⟨rfl, hI⟩⟩
    · exact isLineC_f a ⟨fun q => absurd rfl q, fun _ => bad (Or.inr a)⟩
  · obtain ⟨h1, h2, hp, hm, hk⟩ := id hV
    refine isLineC_t hj ⟨fun q => absurd q (by decide), fun _ => ?_⟩
    by_cases a : inR z1 0 3
    · obtain ⟨l, hl, rfl⟩ := inR_nat (b := 3) a (by decide)
      refine isLineC_t (by omega) ⟨fun _ => mis_y hj h1 ⟨fun _ => ⟨vp_in_nI hj (by decide), nmB_iff.mpr ?_⟩, fun q => absurd rfl q⟩, fun q => absurd q (by decide)⟩
      rw [nI_clamp (show j < 2 ^ 31 by omega), c0, show (12 : Int32).toNatClampNeg = 12 by decide, (cLenL hj).1]
      refine ⟨⟨by decide, by decide, by decide, by decide, by decide⟩, nmB_iff.mpr ?_⟩
      have hI1 : Inv (cUR σ 16 (va_cpy (σ.1 (19 + 5 * j + 1)) (σ.1 16) 0 0 12)) τ := Inv_keep hI ⟨fun a ha => cUR_ne (by omega), rfl, fun _ _ => rfl, rfl, id⟩ mKeep_rf
      refine sp_settle (v := v) (show l < 4 by omega) hp.1 (fun i hi => ?_) (fun h3 c hc => lw_ab hp.1 hp.2.2 h3 hc) (fun σ' hc h4 hk' => ?_)
      · rw [cUR_at, pk_cpy_in (by omega) (by omega), show 0 + (i - 0) = i by omega]
        exact hk.1 i hi
      · unfold w_copy
        refine isLineM_t hj ⟨fun q => absurd q (by decide), fun _ => isLineM_t (by omega) ⟨fun _ => ⟨vp_in_nI hj (by decide), ?_⟩, fun q => absurd q (by decide)⟩⟩
        rw [nI_clamp (show j < 2 ^ 31 by omega)]
        refine ⟨fun _ => sp_copyM hj (by omega) (isV_of hV) hp.2.2 (fun τ' a1 a2 a3 a4 a5 a6 => ⟨rfl, ?_⟩), fun q => absurd q h2⟩
        exact Inv_new hI1 (by omega) hp hc h4 hk' a1 a2 a3 a4 a5 a6
    · exact isLineC_f a ⟨fun q => absurd rfl q, fun _ => bad (Or.inr a)⟩
