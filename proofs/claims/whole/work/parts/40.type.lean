/-! PURE: type (promise 2) -/
/-- byte i of a long -/
def bt8 (w : Int64) (i : Nat) : Nat := w.toBitVec.toNat / 2 ^ (8 * i) % 256
theorem m255 {n j : Nat} (hj : j < n) (hn : 8 ≤ n) : (BitVec.ofNat n 255).getLsbD j = decide (j < 8) := by
  rw [BitVec.getLsbD_ofNat, show (255 : Nat) = 2 ^ 8 - 1 from rfl, Nat.testBit_two_pow_sub_one]
  simp [hj]
theorem sh_and (x : BitVec 64) (k : Nat) (hk : k + 8 ≤ 64) : (x.sshiftRight k &&& 255#64) = BitVec.ofNat 64 (x.toNat / 2 ^ k % 256) := by
  apply BitVec.eq_of_getLsbD_eq
  intro j hj
  rw [BitVec.getLsbD_and, BitVec.getLsbD_sshiftRight, m255 hj (by decide), BitVec.getLsbD_ofNat, show (256 : Nat) = 2 ^ 8 from rfl, Nat.testBit_mod_two_pow, Nat.testBit_div_two_pow]
  by_cases h8 : j < 8
  · have h1 : k + j < 64 := by omega
    have h2 : ¬ 64 ≤ j := by omega
    simp [hj, h8, h1, h2, BitVec.getLsbD, Nat.add_comm]
  · simp [h8]
theorem lN_bv (n : Nat) : (lN n).toBitVec = BitVec.ofNat 64 n := rfl
theorem nI_bv (n : Nat) : (nI n).toBitVec = BitVec.ofNat 32 n := rfl
theorem byM (w : Int64) {i : Nat} (hi : i < 8) : (w >>> (((8 : Int32) * nI i).toInt64 &&& 63)) &&& 255 = lN (bt8 w i) := by
  apply Int64.toBitVec_inj.mp
  rw [Int64.toBitVec_and, Int64.toBitVec_shiftRight, lN_bv]
  have hs : ((((8 : Int32) * nI i).toInt64 &&& 63).toBitVec.smod 64).toNat = 8 * i := by
    rcases (show i = 0 ∨ i = 1 ∨ i = 2 ∨ i = 3 ∨ i = 4 ∨ i = 5 ∨ i = 6 ∨ i = 7 by omega) with rfl | rfl | rfl | rfl | rfl | rfl | rfl | rfl <;> decide
  rw [BitVec.sshiftRight_eq', hs]
  exact sh_and w.toBitVec (8 * i) (by omega)
theorem byC (w : Int64) {i : Nat} (hi : i < 8) : (((w.toUInt64 >>> (((8 : Int32) * nI i).toInt64.toUInt64 &&& Int64.toUInt64 63)).toInt64).toInt32) &&& 255 = nI (bt8 w i) := by
  have hs : (((8 : Int32) * nI i).toInt64.toUInt64 &&& Int64.toUInt64 63).toNat % 64 = 8 * i := by
    rcases (show i = 0 ∨ i = 1 ∨ i = 2 ∨ i = 3 ∨ i = 4 ∨ i = 5 ∨ i = 6 ∨ i = 7 by omega) with rfl | rfl | rfl | rfl | rfl | rfl | rfl | rfl <;> decide
  generalize (((8 : Int32) * nI i).toInt64.toUInt64 &&& Int64.toUInt64 63) = s at hs
  have h1 : ((w.toUInt64 >>> s).toInt64).toBitVec.toNat = w.toBitVec.toNat / 2 ^ (8 * i) := by
    show (w.toUInt64 >>> s).toNat = _
    rw [UInt64.toNat_shiftRight, hs, Nat.shiftRight_eq_div_pow]
    rfl
  rw [pk_and _ 8 (by decide)]
  have h2 : ((w.toUInt64 >>> s).toInt64).toInt32.toBitVec.toNat = w.toBitVec.toNat / 2 ^ (8 * i) % 2 ^ 32 := by
    rw [Int64.toBitVec_toInt32, BitVec.signExtend_eq_setWidth_of_le _ (by decide), BitVec.toNat_setWidth, h1]
  rw [h2]
  unfold bt8
  congr 1
  omega
/-- the bytes are text -/
def txt8 (w : Int64) (n : Nat) : Prop := ∀ i, i < n → 32 ≤ bt8 w i ∧ bt8 w i ≤ 126
theorem bt8_lt (w : Int64) (i : Nat) : bt8 w i < 256 := Nat.mod_lt _ (by decide)
theorem lp_isText {Q : Int32 → cS → Prop} {w : Int64} {N : Nat} {σ : cS} (hN : N ≤ 8) (h1 : txt8 w N → Q 1 σ) (h0 : ¬ txt8 w N → Q 0 σ) : ∀ (d i n : Nat), i + d = N → d < n → (∀ k, k < i → 32 ≤ bt8 w k ∧ bt8 w k ≤ 126) → v_X5_isText_2 Q n w (nI N) (nI i) σ := by
  intro d
  induction d with
  | zero =>
    intro i n hi hn hz
    obtain ⟨n, rfl⟩ : ∃ m, n = m + 1 := ⟨n - 1, by omega⟩
    have : i = N := by omega
    subst this
    unfold v_X5_isText_2
    exact ⟨fun _ => ⟨z_1, h1 hz⟩, fun q => absurd (nI_le (Nat.le_refl _) (by omega)) q⟩
  | succ d ih =>
    intro i n hi hn hz
    obtain ⟨n, rfl⟩ : ∃ m, n = m + 1 := ⟨n - 1, by omega⟩
    unfold v_X5_isText_2 v_X5_byteOf
    refine ⟨fun q => absurd q (nI_ge (by omega) (by omega)), fun _ => ?_⟩
    rw [byC w (by omega)]
    have hb := bt8_lt w i
    refine sp_within (p := 32) (q := 126) (by decide) (by decide) (fun g => ⟨fun _ => nmB_iff.mpr ?_, fun q => absurd q (by decide)⟩) (fun g => ⟨fun q => absurd rfl q, fun _ => ⟨z_0, h0 (fun z => ?_)⟩⟩)
    · rw [nI_1]
      refine ih (i + 1) n (by omega) (by omega) (fun k hk => ?_)
      rcases Nat.lt_or_ge k i with q | q
      · exact hz k q
      · have : k = i := by omega
        subst this
        unfold inR at g
        rw [nI_toInt (by omega)] at g
        omega
    · have := z i (by omega)
      refine g ?_
      unfold inR
      rw [nI_toInt (by omega)]
      omega
theorem sp_isText {Q : Int32 → cS → Prop} {w : Int64} {N : Nat} {σ : cS} (hN : N ≤ 8) (h1 : txt8 w N → Q 1 σ) (h0 : ¬ txt8 w N → Q 0 σ) : v_X5_isText Q w (nI N) σ := by
  unfold v_X5_isText
  exact lp_isText hN h1 h0 N 0 fuL (by omega) (by unfold fuL; omega) (fun k hk => by omega)
theorem lp_append {Q : Int32 → cS → Prop} {w : Int64} : ∀ (r n L : Nat) (σ : cS), r ≤ 8 → L + r ≤ 90 → r < n → σ.2.2.1 1 1 = nI L → (∀ σ' : cS, σ'.1 = σ.1 → σ'.2.2.2 = σ.2.2.2 → (∀ o, o ≠ 1 → σ'.2.2.1 o = σ.2.2.1 o) → σ'.2.2.1 1 1 = nI (L + r) → (∀ i, σ'.2.1 2 i = if L ≤ i ∧ i < L + r then nI (bt8 w (L + r - 1 - i)) else σ.2.1 2 i) → Q 1 σ') → v_X5_append_18 Q n w (nI r + (-1)) σ := by
  intro r
  induction r with
  | zero =>
    intro n L σ hr hL hn hl hq
    obtain ⟨n, rfl⟩ : ∃ m, n = m + 1 := ⟨n - 1, by omega⟩
    unfold v_X5_append_18 v_X5_append_63
    refine ⟨fun _ => ⟨z_1, hq σ rfl rfl (fun _ _ => rfl) hl (fun i => ?_)⟩, fun q => absurd (by decide) q⟩
    rw [if_neg (by omega)]
  | succ r ih =>
    intro n L σ hr hL hn hl hq
    obtain ⟨n, rfl⟩ : ∃ m, n = m + 1 := ⟨n - 1, by omega⟩
    unfold v_X5_append_18 v_X5_byteOf
    rw [pk_m1, hl]
    refine ⟨fun q => absurd q (nI_pos (by omega)), fun _ => ⟨fun q => absurd q (by rw [show (90 : Int32) = nI 90 from rfl]; exact nI_ge (by omega) (by decide)), fun _ => ⟨vp_in_nI (by omega) (by decide), nmB_iff.mpr (nmB_iff.mpr (nmB_iff.mpr ?_))⟩⟩⟩
    rw [byC w (by omega), nI_clamp (by omega)]
    have e1 : (cUI σ L (nI (bt8 w r))).2.2.1 1 1 = nI L := hl
    rw [e1, show nI L + (1 : Int32) = nI (L + 1) from nI_1 L]
    refine ih n (L + 1) _ (by omega) (by omega) (by omega) (by rw [cUF_at, upd_at]) (fun σ' a b c d e => hq σ' a b (fun o ho => by rw [c o ho, cUF_ne ho]; rfl) (by rw [d]; congr 1; omega) (fun i => ?_))
    rw [e i]
    have e2 : (cUF (cUI σ L (nI (bt8 w r))) 1 1 (nI (L + 1))).2.1 2 i = upd (σ.2.1 2) L (nI (bt8 w r)) i := rfl
    rw [e2]
    by_cases h1 : i = L
    · subst h1
      rw [if_neg (by omega), upd_at, if_pos (by omega)]
      congr 2
      omega
    · rw [upd_ne h1]
      by_cases h2 : L + 1 ≤ i ∧ i < L + 1 + r
      · rw [if_pos h2, if_pos (by omega)]
        congr 2
        omega
      · rw [if_neg h2, if_neg (by omega)]
theorem lp_typeM {Q : Int32 → mS → Prop} {w : Int64} : ∀ (r n L : Nat) (τ : mS), r ≤ 8 → L + r ≤ 90 → r < n → τ.2.2.1 = nI L → (∀ τ' : mS, τ'.1 = τ.1 → (∀ b, b ≠ 7 → τ'.2.1 b = τ.2.1 b) → τ'.2.2.1 = nI (L + r) → (∀ i, τ'.2.1 7 i = if L ≤ i ∧ i < L + r then nI (bt8 w (L + r - 1 - i)) else τ.2.1 7 i) → Q (nI (L + r)) τ') → w_type_74 Q n w (nI r + (-1)) τ := by
  intro r
  induction r with
  | zero =>
    intro n L τ hr hL hn hl hq
    obtain ⟨n, rfl⟩ : ∃ m, n = m + 1 := ⟨n - 1, by omega⟩
    unfold w_type_74
    refine ⟨fun _ => ?_, fun q => absurd (by decide) q⟩
    rw [hl]
    refine hq τ rfl (fun _ _ => rfl) hl (fun i => ?_)
    rw [if_neg (by omega)]
  | succ r ih =>
    intro n L τ hr hL hn hl hq
    obtain ⟨n, rfl⟩ : ∃ m, n = m + 1 := ⟨n - 1, by omega⟩
    unfold w_type_74
    rw [pk_m1, hl]
    refine ⟨fun q => absurd q (nI_pos (by omega)), fun _ => ⟨vp_in_nI (by omega) (by decide), nmB_iff.mpr (nmB_iff.mpr (nmB_iff.mpr ?_))⟩⟩
    rw [byM w (by omega), nI_clamp (by omega), lN_i]
    have e1 : (mUI τ 7 L (nI (bt8 w r))).2.2.1 = nI L := hl
    rw [e1, show nI L + (1 : Int32) = nI (L + 1) from nI_1 L]
    refine ih n (L + 1) _ (by omega) (by omega) (by omega) rfl (fun τ' a c d e => ?_)
    have := hq τ' a (fun b hb => by rw [c b hb]; exact mUI_ne hb) (by rw [d]; congr 1; omega) (fun i => ?_)
    · rw [show L + 1 + r = L + (r + 1) by omega]; exact this
    · rw [e i]
      have e2 : (mUt (mUI τ 7 L (nI (bt8 w r))) (nI (L + 1))).2.1 7 i = upd (τ.2.1 7) L (nI (bt8 w r)) i := rfl
      rw [e2]
      by_cases h1 : i = L
      · subst h1
        rw [if_neg (by omega), upd_at, if_pos (by omega)]
        congr 2
        omega
      · rw [upd_ne h1]
        by_cases h2 : L + 1 ≤ i ∧ i < L + 1 + r
        · rw [if_pos h2, if_pos (by omega)]
          congr 2
          omega
        · rw [if_neg h2, if_neg (by omega)]
theorem lp_textM {Q : Int32 → mS → Prop} {w : Int64} {N L : Nat} {τ : mS} (hN : N ≤ 8) (hL : L ≤ 90) (hl : τ.2.2.1 = nI L) (h0 : ¬ txt8 w N → Q (-1) τ) (hf : txt8 w N → 90 < L + N → Q (-3) τ) (hk : txt8 w N → L + N ≤ 90 → w_type_74 Q fuL w (nI N + (-1)) τ) : ∀ (r n : Nat), r ≤ N → r < n → (∀ k, r ≤ k → k < N → 32 ≤ bt8 w k ∧ bt8 w k ≤ 126) → w_type_19 Q n w (nI N) (nI r + (-1)) τ := by
  intro r
  induction r with
  | zero =>
    intro n hr hn hz
    obtain ⟨n, rfl⟩ : ∃ m, n = m + 1 := ⟨n - 1, by omega⟩
    have ht : txt8 w N := fun k hk => hz k (by omega) hk
    unfold w_type_19
    refine ⟨fun _ => ?_, fun q => absurd (by decide) q⟩
    rw [hl, nI_add]
    refine ⟨fun q => nmB_iff.mpr ?_, fun q => hf ht ?_⟩
    · have h9 : L + N ≤ 90 := by
        rw [show (90 : Int32) = nI 90 from rfl, nI_le_iff (by omega) (by omega)] at q
        exact q
      have e : nI N - 1 = nI N + (-1) := by
        apply Int32.toInt_inj.mp
        simp [Int32.toInt_add, Int32.toInt_sub]
        rfl
      rw [e]
      exact hk ht h9
    · rw [show (90 : Int32) = nI 90 from rfl, nI_le_iff (by omega) (by omega)] at q
      omega
  | succ r ih =>
    intro n hr hn hz
    obtain ⟨n, rfl⟩ : ∃ m, n = m + 1 := ⟨n - 1, by omega⟩
    unfold w_type_19
    rw [pk_m1]
    refine ⟨fun q => absurd q (nI_pos (by omega)), fun _ => ?_⟩
    have hb := bt8_lt w r
    rw [byM w (by omega), show lN (bt8 w r) = (nI (bt8 w r)).toInt64 from (nI_l (by omega)).symm]
    refine sp_in (p := 32) (q := 126) (by decide) (by decide) (fun g => ⟨fun _ => nmB_iff.mpr (ih n (by omega) (by omega) (fun k h1 h2 => ?_)), fun q => absurd q (by decide)⟩) (fun g => ⟨fun q => absurd rfl q, fun _ => h0 (fun z => ?_)⟩)
    · rcases Nat.lt_or_ge r k with q | q
      · exact hz k (by omega) h2
      · have : k = r := by omega
        subst this
        unfold inR at g
        rw [nI_toInt (by omega)] at g
        omega
    · have := z r (by omega)
      refine g ?_
      unfold inR
      rw [nI_toInt (by omega)]
      omega
theorem st_type : ∀ (z0 : Int64) (z1 : Int32) (σ : cS) (τ : mS), Inv σ τ → v_X7_type (fun r σ1 => w_type (fun r2 τ1 => r = r2 ∧ Inv σ1 τ1) z0 z1 τ) z0 z1 σ := by
  intro w z1 σ τ hI
  obtain ⟨L, hL, l1, l2, l3⟩ := hI.2.1
  unfold v_X7_type v_X7_type_18 v_X7_type_44 w_type
  by_cases a1 : inR z1 1 8
  · obtain ⟨N, hN, rfl⟩ := inR_nat (x := z1) (b := 8) ⟨by have := a1.1; omega, a1.2⟩ (by decide)
    have hN1 : 1 ≤ N := by
      have := a1.1
      rw [nI_toInt (by omega)] at this
      omega
    have e : ∀ M : Nat, nI M - 1 = nI M + (-1) := fun M => by
      apply Int32.toInt_inj.mp
      simp [Int32.toInt_add, Int32.toInt_sub]
      rfl
    have model : ∀ r : Int32, ∀ σ1 : cS, (¬ txt8 w N → r = -1 ∧ Inv σ1 τ) → (txt8 w N → 90 < L + N → r = -3 ∧ Inv σ1 τ) → (txt8 w N → L + N ≤ 90 → ∀ τ' : mS, τ'.1 = τ.1 → (∀ b, b ≠ 7 → τ'.2.1 b = τ.2.1 b) → τ'.2.2.1 = nI (L + N) → (∀ i, τ'.2.1 7 i = if L ≤ i ∧ i < L + N then nI (bt8 w (L + N - 1 - i)) else τ.2.1 7 i) → r = nI (L + N) ∧ Inv σ1 τ') → w_in (fun u101 σ102 => ((¬ u101 = 0 → nmB (nI N - (1 : Int32)) (fun x4_103 => w_type_19 (fun r2 τ1 => r = r2 ∧ Inv σ1 τ1) fuL w (nI N) x4_103 σ102)) ∧ (u101 = 0 → r = (-1 : Int32) ∧ Inv σ1 σ102))) ((nI N).toInt64) ((1 : Int64)) ((8 : Int64)) τ := by
      intro r σ1 h0 hf hk
      refine iM_t 1 8 (by decide) (by decide) a1 ⟨fun _ => nmB_iff.mpr ?_, fun q => absurd q (by decide)⟩
      rw [e]
      refine lp_textM hN hL l2 h0 hf (fun ht h9 => ?_) N fuL (Nat.le_refl _) (by unfold fuL; omega) (fun k h1 h2 => by omega)
      exact lp_typeM N fuL L τ hN h9 (by unfold fuL; omega) l2 (fun τ' a b c d => hk ht h9 τ' a b c d)
    refine wi_t 1 8 (by decide) (by decide) a1 ⟨fun q => absurd q (by decide), fun _ => ?_⟩
    refine sp_isText hN (fun ht => ⟨fun _ => ?_, fun q => absurd q (by decide)⟩) (fun ht => ⟨fun q => absurd rfl q, fun _ => model _ _ (fun _ => ⟨rfl, hI⟩) (fun q => absurd q ht) (fun q => absurd q ht)⟩)
    unfold v_X5_append
    rw [l1]
    have hsub : (90 : Int32) - nI L = nI (90 - L) := pk_sub (a := 90) hL
    rw [hsub, nI_le_iff (by omega) (by omega)]
    refine ⟨fun h9 => nmB_iff.mpr ?_, fun h9 => ⟨z_0, fun _ => model _ _ (fun q => absurd ht q) (fun _ _ => ⟨rfl, hI⟩) (fun _ q => absurd q (by omega)), fun q => absurd rfl q⟩⟩
    rw [e]
    refine lp_append N fuL L σ hN (by omega) (by unfold fuL; omega) l1 (fun σ' s1 s2 s3 s4 s5 => ⟨fun q => absurd q (by decide), fun _ => ?_⟩)
    have M := model (σ'.2.2.1 1 1) σ' (fun q => absurd ht q) (fun _ q => absurd q (by omega)) (fun _ _ τ' m1 m2 m3 m4 => ⟨s4, by
        obtain ⟨i1, i2, i3, i4⟩ := hI
        refine ⟨by unfold plainR at *; rw [s2]; exact i1, ⟨L + N, by omega, s4, m3, fun i hi => ?_⟩, fun j hj => sheetR_keep (by rw [s1]) (s3 _ (by omega)) (by rw [m2 15 (by decide)]) (by rw [m2 16 (by decide)]) (fun _ _ => by rw [m2 17 (by decide)]) (i3 j hj), fun j hj => lineR_keep (fun a _ _ => by rw [s1]) (s3 _ (by omega)) (fun _ _ => by rw [m1]) (by rw [m2 1 (by decide)]) (i4 j hj)⟩
        rw [s5 i, m4 i]
        by_cases h2 : L ≤ i ∧ i < L + N
        · rw [if_pos h2, if_pos h2]
          exact ⟨rfl, _, (ht _ (by omega)).1, (ht _ (by omega)).2, rfl⟩
        · rw [if_neg h2, if_neg h2]
          exact l3 i (by omega)⟩)
    rw [e] at M
    exact M
  · refine wi_f 1 8 (by decide) (by decide) a1 ⟨fun _ => ?_, fun q => absurd rfl q⟩
    exact iM_f 1 8 (by decide) (by decide) a1 ⟨fun q => absurd rfl q, fun _ => ⟨rfl, hI⟩⟩
