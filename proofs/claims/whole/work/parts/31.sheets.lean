/-! PURE: sheets (promises 23, 24, 25) -/
def cKeep (σ σ' : cS) : Prop := (∀ a, 19 ≤ a → σ'.1 a = σ.1 a) ∧ σ'.2.1 = σ.2.1 ∧ (∀ o, 19 ≤ o → σ'.2.2.1 o = σ.2.2.1 o) ∧ σ'.2.2.1 1 1 = σ.2.2.1 1 1 ∧ (plainR σ → plainR σ')
def mKeep (τ τ' : mS) : Prop := τ'.1 2 = τ.1 2 ∧ τ'.2.1 = τ.2.1 ∧ τ'.2.2.1 = τ.2.2.1
theorem cKeep_rf {σ : cS} : cKeep σ σ := ⟨fun _ _ => rfl, rfl, fun _ _ => rfl, rfl, id⟩
theorem mKeep_rf {τ : mS} : mKeep τ τ := ⟨rfl, rfl, rfl⟩
theorem known_keep {σ σ' : cS} {o : Nat} {v : Nat → Int} (ho : 19 ≤ o) (hJ : ∀ a, o < a → a ≤ o + 4 → σ'.1 a = σ.1 a) (hF : σ'.2.2.1 o = σ.2.2.1 o) (h : known σ o v) : known σ' o v := by
  obtain ⟨h1, h2, h3, h4, h5⟩ := h
  refine ⟨fun i hi => by rw [hJ _ (by omega) (by omega)]; exact h1 i hi, by rw [hF]; exact h2, by rw [hF]; exact h3, fun i hi => by rw [hJ _ (by omega) (by omega)]; exact h4 i hi, fun h => ?_⟩
  obtain ⟨a, b, c⟩ := h5 h
  exact ⟨fun i hi => by rw [hJ _ (by omega) (by omega)]; exact a i hi, fun i hi => by rw [hJ _ (by omega) (by omega)]; exact b i hi, by rw [hF]; exact c⟩
theorem lineR_keep {σ σ' : cS} {τ τ' : mS} {j : Nat} (hJ : ∀ a, 19 + 5 * j < a → a ≤ 19 + 5 * j + 4 → σ'.1 a = σ.1 a) (hF : σ'.2.2.1 (19 + 5 * j) = σ.2.2.1 (19 + 5 * j)) (hO : ∀ i, i < 12 → τ'.1 2 (12 * j + i) = τ.1 2 (12 * j + i)) (hI : τ'.2.1 1 j = τ.2.1 1 j) (h : lineR σ τ j) : lineR σ' τ' j := by
  obtain ⟨h1, h2⟩ := h
  refine ⟨by rw [hF, hI]; exact h1, ?_⟩
  rw [hI]
  rcases h2 with h2 | ⟨h2, v, hp, hm, hk⟩
  · exact Or.inl h2
  · exact Or.inr ⟨h2, v, hp, fun i hi => by rw [hO i hi]; exact hm i hi, known_keep (by omega) hJ hF hk⟩
theorem sheetR_keep {σ σ' : cS} {τ τ' : mS} {j : Nat} (hJ : σ'.1 (40 + 2 * j) = σ.1 (40 + 2 * j)) (hF : σ'.2.2.1 (39 + 2 * j) = σ.2.2.1 (39 + 2 * j)) (h15 : τ'.2.1 15 j = τ.2.1 15 j) (h16 : τ'.2.1 16 j = τ.2.1 16 j) (h17 : ∀ i, i < 20 → τ'.2.1 17 (20 * j + i) = τ.2.1 17 (20 * j + i)) (h : sheetR σ τ j) : sheetR σ' τ' j := by
  obtain ⟨a, b, c, d, e⟩ := h
  exact ⟨by rw [hF, h15]; exact a, by rw [hF, h16]; exact b, by rw [h15]; exact c, by rw [h16]; exact d, fun i hi => by rw [hJ, h17 i hi]; exact e i hi⟩
theorem tapeR_keep {σ σ' : cS} {τ τ' : mS} (h1 : σ'.2.2.1 1 1 = σ.2.2.1 1 1) (h2 : σ'.2.1 2 = σ.2.1 2) (h3 : τ'.2.2.1 = τ.2.2.1) (h4 : τ'.2.1 7 = τ.2.1 7) (h : tapeR σ τ) : tapeR σ' τ' := by
  obtain ⟨n, a, b, c, d⟩ := h
  exact ⟨n, a, by rw [h1]; exact b, by rw [h3]; exact c, fun i hi => by rw [h2, h4]; exact d i hi⟩
theorem Inv_keep {σ σ' : cS} {τ τ' : mS} (h : Inv σ τ) (hc : cKeep σ σ') (hm : mKeep τ τ') : Inv σ' τ' := by
  obtain ⟨h1, h2, h3, h4⟩ := h
  obtain ⟨c1, c2, c3, c4, c5⟩ := hc
  obtain ⟨m1, m2, m3⟩ := hm
  refine ⟨c5 h1, tapeR_keep c4 (by rw [c2]) m3 (by rw [m2]) h2, fun j hj => sheetR_keep (c1 _ (by omega)) (c3 _ (by omega)) (by rw [m2]) (by rw [m2]) (fun _ _ => by rw [m2]) (h3 j hj), fun j hj => lineR_keep (fun a h _ => c1 a (by omega)) (c3 _ (by omega)) (fun i _ => by rw [m1]) (by rw [m2]) (h4 j hj)⟩
/-- one SHEET is another -/
theorem Inv_sheet {σ σ' : cS} {τ τ' : mS} {j : Nat} (h : Inv σ τ) (hj : j < 4) (hJ : ∀ a, a ≠ 40 + 2 * j → σ'.1 a = σ.1 a) (hB : σ'.2.1 = σ.2.1) (hF : ∀ o, o ≠ 39 + 2 * j → σ'.2.2.1 o = σ.2.2.1 o) (hP : σ'.2.2.2 = σ.2.2.2) (mO : τ'.1 = τ.1) (mT : τ'.2.2.1 = τ.2.2.1) (mI : ∀ b, b ≠ 15 → b ≠ 16 → b ≠ 17 → τ'.2.1 b = τ.2.1 b) (m15 : ∀ k, k ≠ j → τ'.2.1 15 k = τ.2.1 15 k) (m16 : ∀ k, k ≠ j → τ'.2.1 16 k = τ.2.1 16 k) (m17 : ∀ i, (i < 20 * j ∨ 20 * j + 20 ≤ i) → τ'.2.1 17 i = τ.2.1 17 i) (hn : sheetR σ' τ' j) : Inv σ' τ' := by
  obtain ⟨h1, h2, h3, h4⟩ := h
  refine ⟨?_, tapeR_keep (by rw [hF _ (by omega)]) (by rw [hB]) mT (mI 7 (by omega) (by omega) (by omega)) h2, fun k hk => ?_, fun k hk => lineR_keep (fun a h1 h2 => hJ a (by omega)) (hF _ (by omega)) (fun i _ => by rw [mO]) (by rw [mI 1 (by omega) (by omega) (by omega)]) (h4 k hk)⟩
  · unfold plainR at *; rw [hP]; exact h1
  · by_cases e : k = j
    · subst e; exact hn
    · exact sheetR_keep (hJ _ (by omega)) (hF _ (by omega)) (m15 k e) (m16 k e) (fun i hi => m17 _ (by omega)) (h3 k hk)
theorem sp_sheetC {Q : Int32 → cS → Prop} {x1 x2 x3 : Int32} {σ : cS} (hb : ¬ (inR x1 0 3 ∧ inR x2 0 2 ∧ x3.toInt ≤ 20) → Q (-1) σ) (hs : inR x1 0 3 → inR x2 0 2 → x3.toInt < 0 → Q (-14) σ) (ho : ∀ j k s, j < 4 → k < 3 → s ≤ 20 → x1 = nI j → x2 = nI k → x3 = nI s → Q x3 (goneC (cUF (cUF σ (39 + 2 * j) 1 x2) (39 + 2 * j) 2 x3) (39 + 2 * j + 1) 20 (fun _ => 0))) : v_X7_sheet Q x1 x2 x3 σ := by
  unfold v_X7_sheet v_X7_sheet_20
  refine sp_isSheetC (fun h1 => ⟨fun h => absurd h (by decide), fun _ => ?_⟩) (fun h1 => ⟨fun _ => hb (fun z => h1 z.1), fun h => absurd rfl h⟩)
  refine sp_isLaneC (fun h2 => ⟨fun h => absurd h (by decide), fun _ => ?_⟩) (fun h2 => ⟨fun _ => hb (fun z => h2 z.2.1), fun h => absurd rfl h⟩)
  have e20 : x3 ≤ (20 : Int32) ↔ x3.toInt ≤ 20 := by rw [Int32.le_iff_toInt_le]; rfl
  have e0 : (0 : Int32) ≤ x3 ↔ 0 ≤ x3.toInt := by rw [Int32.le_iff_toInt_le]; rfl
  rw [e20, e0]
  refine ⟨fun h3 => ⟨fun h4 => ?_, fun h4 => hs h1 h2 (by omega)⟩, fun h3 => hb (fun z => h3 z.2.2)⟩
  obtain ⟨j, hj, rfl⟩ := inR_nat (b := 3) h1 (by decide)
  obtain ⟨k, hk, rfl⟩ := inR_nat (b := 2) h2 (by decide)
  obtain ⟨s, hs2, rfl⟩ := inR_nat (x := x3) (b := 20) ⟨h4, h3⟩ (by decide)
  refine ⟨vp_in_nI (by omega) (by decide), nmB_iff.mpr (nmB_iff.mpr (nmB_iff.mpr ?_))⟩
  rw [nI_clamp (by omega)]
  have hlen : cLen (39 + 2 * j + 1) = 20 := by
    rcases (show j = 0 ∨ j = 1 ∨ j = 2 ∨ j = 3 by omega) with rfl | rfl | rfl | rfl <;> rfl
  exact sp_fill hlen (by decide) (ho j k s (by omega) (by omega) hs2 rfl rfl rfl)
theorem lp_sheetM {Q : Int32 → mS → Prop} {j : Nat} {x3 : Int32} (hj : j < 4) : ∀ (d i n : Nat) (τ : mS), i + d = 20 → d < n → (∀ τ' : mS, τ'.1 = τ.1 → τ'.2.2 = τ.2.2 → (∀ b, b ≠ 17 → τ'.2.1 b = τ.2.1 b) → (∀ k, τ'.2.1 17 k = if 20 * j + i ≤ k ∧ k < 20 * j + 20 then 0 else τ.2.1 17 k) → Q x3 τ') → w_sheet_40 Q n (nI j) x3 (nI i) τ := by
  intro d
  induction d with
  | zero =>
    intro i n τ hi hn hq
    obtain ⟨n, rfl⟩ : ∃ m, n = m + 1 := ⟨n - 1, by omega⟩
    have : i = 20 := by omega
    subst this
    unfold w_sheet_40
    refine ⟨fun _ => hq τ rfl rfl (fun _ _ => rfl) (fun k => ?_), fun h => absurd (by decide) h⟩
    rw [if_neg (by omega)]
  | succ d ih =>
    intro i n τ hi hn hq
    obtain ⟨n, rfl⟩ : ∃ m, n = m + 1 := ⟨n - 1, by omega⟩
    unfold w_sheet_40
    refine ⟨fun h => absurd h (by rw [show (20 : Int32) = nI 20 from rfl]; exact nI_ge (by omega) (by decide)), fun _ => ?_⟩
    rw [show (20 : Int32) = nI 20 from rfl, pk_mul, nI_add, nI_clamp (by omega), nI_1]
    refine ⟨vp_in_nI (by omega) (by decide), nmB_iff.mpr (nmB_iff.mpr (ih (i + 1) n _ (by omega) (by omega) (fun τ' a b c e => hq τ' a b (fun q hq => ?_) (fun k => ?_))))⟩
    · rw [c q hq, mUI_ne hq]
    · rw [e k, mUI_at]
      unfold upd
      by_cases h1 : k = 20 * j + i
      · rw [if_neg (by omega), if_pos h1, if_pos (by omega)]
      · rw [if_neg h1]
        by_cases h2 : 20 * j + (i + 1) ≤ k ∧ k < 20 * j + 20
        · rw [if_pos h2, if_pos (by omega)]
        · rw [if_neg h2, if_neg (by omega)]
theorem sp_sheetM {Q : Int32 → mS → Prop} {x1 x2 x3 : Int32} {τ : mS} (hb : ¬ (inR x1 0 3 ∧ inR x2 0 2 ∧ x3.toInt ≤ 20) → Q (-1) τ) (hs : inR x1 0 3 → inR x2 0 2 → x3.toInt < 0 → Q (-14) τ) (ho : ∀ j k s, j < 4 → k < 3 → s ≤ 20 → x1 = nI j → x2 = nI k → x3 = nI s → ∀ τ' : mS, τ'.1 = τ.1 → τ'.2.2 = τ.2.2 → (∀ b, b ≠ 15 → b ≠ 16 → b ≠ 17 → τ'.2.1 b = τ.2.1 b) → τ'.2.1 15 = upd (τ.2.1 15) j x2 → τ'.2.1 16 = upd (τ.2.1 16) j x3 → (∀ i, τ'.2.1 17 i = if 20 * j ≤ i ∧ i < 20 * j + 20 then 0 else τ.2.1 17 i) → Q x3 τ') : w_sheet Q x1 x2 x3 τ := by
  unfold w_sheet w_sheet_14
  have e20 : x3 ≤ (20 : Int32) ↔ x3.toInt ≤ 20 := by rw [Int32.le_iff_toInt_le]; rfl
  have e0 : (0 : Int32) ≤ x3 ↔ 0 ≤ x3.toInt := by rw [Int32.le_iff_toInt_le]; rfl
  rw [e20, e0]
  refine sp_isSheetM (fun h1 h2 => ⟨fun h => absurd h (by decide), fun _ => ⟨fun h3 => ⟨fun h4 => ?_, fun h4 => hs h1 h2 (by omega)⟩, fun h3 => hb (fun z => h3 z.2.2)⟩⟩) (fun h1 => ⟨fun _ => hb (fun z => h1 ⟨z.1, z.2.1⟩), fun h => absurd rfl h⟩)
  obtain ⟨j, hj, rfl⟩ := inR_nat (b := 3) h1 (by decide)
  obtain ⟨k, hk, rfl⟩ := inR_nat (b := 2) h2 (by decide)
  obtain ⟨s, hs2, rfl⟩ := inR_nat (x := x3) (b := 20) ⟨h4, h3⟩ (by decide)
  have hv := vp_in_nI (show j < 4 by omega) (by decide)
  refine ⟨hv, nmB_iff.mpr ⟨hv, nmB_iff.mpr ?_⟩⟩
  rw [nI_clamp (by omega)]
  refine lp_sheetM (by omega) 20 0 fuL _ (by omega) (by unfold fuL; omega) (fun τ' a b c e => ho j k s (by omega) (by omega) hs2 rfl rfl rfl τ' a b (fun q h15 h16 h17 => ?_) ?_ ?_ (fun i => ?_))
  · rw [c q h17, mUI_ne h16, mUI_ne h15]
  · rw [c 15 (by decide), mUI_ne (by decide), mUI_at]
  · rw [c 16 (by decide), mUI_at, mUI_ne (by decide)]
  · rw [e i, mUI_ne (by decide), mUI_ne (by decide)]
    rfl
theorem upd_at {f : Nat → Int32} {j : Nat} {x : Int32} : upd f j x j = x := by simp [upd]
theorem upd_ne {f : Nat → Int32} {j k : Nat} {x : Int32} (h : k ≠ j) : upd f j x k = f k := by simp [upd, h]
theorem inR_nI {j b : Nat} (h : j ≤ b) (hb : b < 2 ^ 31) : inR (nI j) 0 b := by
  unfold inR
  rw [nI_toInt (by omega)]
  omega
theorem st_sheet : ∀ (z0 : Int32) (z1 : Int32) (z2 : Int32) (σ : cS) (τ : mS), Inv σ τ → v_X7_sheet (fun r σ1 => w_sheet (fun r2 τ1 => r = r2 ∧ Inv σ1 τ1) z0 z1 z2 τ) z0 z1 z2 σ := by
  intro z0 z1 z2 σ τ hI
  have fit : ∀ j k s, j < 4 → k < 3 → s ≤ 20 → z0 = nI j → z1 = nI k → z2 = nI s → (inR z0 0 3 ∧ inR z1 0 2 ∧ z2.toInt ≤ 20) ∧ ¬ z2.toInt < 0 := by
    intro j k s hj hk hs e1 e2 e3
    rw [e1, e2, e3, nI_toInt (by omega)]
    exact ⟨⟨inR_nI (b := 3) (by omega) (by decide), inR_nI (b := 2) (by omega) (by decide), by omega⟩, by omega⟩
  refine sp_sheetC (fun h => ?_) (fun a b c => ?_) (fun j k s hj hk hs e1 e2 e3 => ?_)
  · exact sp_sheetM (fun _ => ⟨rfl, hI⟩) (fun a b c => absurd ⟨a, b, by omega⟩ h) (fun j k s hj hk hs e1 e2 e3 => absurd (fit j k s hj hk hs e1 e2 e3).1 h)
  · exact sp_sheetM (fun h => absurd ⟨a, b, by omega⟩ h) (fun _ _ _ => ⟨rfl, hI⟩) (fun j k s hj hk hs e1 e2 e3 => absurd c (fit j k s hj hk hs e1 e2 e3).2)
  · refine sp_sheetM (fun h => absurd (fit j k s hj hk hs e1 e2 e3).1 h) (fun a b c => absurd c (fit j k s hj hk hs e1 e2 e3).2) (fun j' k' s' hj' hk' hs' f1 f2 f3 τ' m1 m2 m3 m4 m5 m6 => ⟨rfl, ?_⟩)
    have ej : j' = j := (nI_eq (by omega) (by omega)).mp (by rw [← f1, e1])
    subst ej
    refine Inv_sheet hI hj (fun a ha => ?_) rfl (fun o ho => ?_) rfl m1 (by rw [m2]) m3 (fun q hq => by rw [m4, upd_ne hq]) (fun q hq => by rw [m5, upd_ne hq]) (fun i hi => by rw [m6, if_neg (by omega)]) ?_
    · unfold goneC; rw [cUR_ne (by omega)]; rfl
    · show (cUF (cUF σ _ 1 z1) _ 2 z2).2.2.1 o = _
      rw [cUF_ne (by omega), cUF_ne (by omega)]
    · refine ⟨?_, ?_, Or.inr ⟨k, hk, by rw [m4, upd_at, e2]⟩, ⟨s, hs, by rw [m5, upd_at, e3]⟩, fun i hi => ?_⟩
      · show (cUF (cUF σ _ 1 z1) _ 2 z2).2.2.1 _ 1 = _
        rw [cUF_at, upd_ne (by decide), cUF_at, upd_at, m4, upd_at]
      · show (cUF (cUF σ _ 1 z1) _ 2 z2).2.2.1 _ 2 = _
        rw [cUF_at, upd_at, m5, upd_at]
      · rw [m6, if_pos (by omega)]
        unfold goneC
        rw [show 40 + 2 * j' = 39 + 2 * j' + 1 by omega, cUR_at, if_pos hi]
        rfl
