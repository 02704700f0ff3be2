/-! PURE: away, item (promises 24, 25) -/
theorem bs_aux {n : Nat} : (n * 16777216 % 4294967296 : Nat) = (n % 256) * 16777216 := by
  rw [show (4294967296 : Nat) = 256 * 16777216 from rfl, Nat.mul_mod_mul_right]
theorem bs_lo {r : Int} (h0 : 0 ≤ r) (h1 : r < 128) : (r * 16777216).bmod 4294967296 / 16777216 = r := by
  rw [Int.bmod_eq_of_le (by omega) (by omega)]
  exact Int.mul_ediv_cancel _ (by decide)
theorem bs_hi {r : Int} (h0 : 128 ≤ r) (h1 : r < 256) : (r * 16777216).bmod 4294967296 / 16777216 = r - 256 := by
  have e : (r * 16777216).bmod 4294967296 = ((r - 256) * 16777216).bmod 4294967296 := by
    have : (r - 256) * 16777216 = r * 16777216 - (4294967296 : Nat) * 1 := by
      rw [Int.sub_mul]; rfl
    rw [this, Int.sub_mul_bmod_self_left]
  rw [e, Int.bmod_eq_of_le (by omega) (by omega)]
  exact Int.mul_ediv_cancel _ (by decide)
theorem bs_b {r : Int} (h0 : 128 ≤ r) (h1 : r < 256) : r.bmod 256 = r - 256 := by
  have e : r.bmod 256 = (r - 256).bmod 256 := by
    have : r - 256 = r - (256 : Nat) * 1 := rfl
    rw [this, Int.sub_mul_bmod_self_left]
  rw [e, Int.bmod_eq_of_le (by omega) (by omega)]
theorem byte_shift (x : Int32) : (x <<< ((24 : Int32) &&& 31)) >>> ((24 : Int32) &&& 31) = x.toInt8.toInt32 := by
  apply Int32.toInt_inj.mp
  have e1 : (24 : Int32) &&& 31 = 24 := by decide
  rw [e1, pk_shr _ 24 24 (by decide)]
  have h1 := pk_shl x 24 24 (by decide)
  have h2 : (x <<< (24 : Int32)).toInt = ((x <<< (24 : Int32)).toBitVec.toNat : Int).bmod (2 ^ 32) := BitVec.toInt_eq_toNat_bmod _
  have h3 : x.toInt = (x.toBitVec.toNat : Int).bmod (2 ^ 32) := BitVec.toInt_eq_toNat_bmod _
  have h4 : x.toInt8.toInt32.toInt = x.toInt.bmod (2 ^ 8) := by simp
  rw [h4, h2, h1, h3]
  generalize x.toBitVec.toNat = n
  rw [Int.shiftRight_eq_div_pow, Int.bmod_bmod_of_dvd (by decide)]
  have a1 : n * 2 ^ 24 % 2 ^ 32 = (n % 256) * 16777216 := bs_aux
  rw [a1]
  have a2 : ((n : Int)).bmod (2 ^ 8) = ((n % 256 : Nat) : Int).bmod 256 := (Int.emod_bmod (n : Int) 256).symm
  rw [a2]
  have hr : n % 256 < 256 := Nat.mod_lt _ (by decide)
  generalize n % 256 = r at hr
  show ((r * 16777216 : Nat) : Int).bmod 4294967296 / 16777216 = ((r : Nat) : Int).bmod 256
  rw [Int.natCast_mul]
  rcases Nat.lt_or_ge r 128 with q | q
  · rw [show ((16777216 : Nat) : Int) = 16777216 from rfl, bs_lo (by omega) (by omega), Int.bmod_eq_of_le (by omega) (by omega)]
  · rw [show ((16777216 : Nat) : Int) = 16777216 from rfl, bs_hi (by omega) (by omega), bs_b (by omega) (by omega)]
theorem sp_awayC {Q : Int32 → cS → Prop} {x1 : Int32} {σ : cS} (hb : ¬ inR x1 0 3 → Q (-1) σ) (ho : ∀ j, j < 4 → x1 = nI j → (σ.2.2.1 (39 + 2 * j) 1 = -1 → Q (-11) σ) ∧ (¬ σ.2.2.1 (39 + 2 * j) 1 = -1 → Q (σ.2.2.1 (39 + 2 * j) 2) (cUF σ (39 + 2 * j) 1 (-1)))) : v_X7_away Q x1 σ := by
  unfold v_X7_away
  refine sp_isSheetC (fun h1 => ⟨fun _ => ?_, fun h => absurd h (by decide)⟩) (fun h1 => ⟨fun h => absurd rfl h, fun _ => hb h1⟩)
  obtain ⟨j, hj, rfl⟩ := inR_nat (b := 3) h1 (by decide)
  refine ⟨vp_in_nI (by omega) (by decide), nmB_iff.mpr ?_⟩
  rw [nI_clamp (by omega)]
  refine ⟨fun h => nmB_iff.mpr ?_, (ho j (by omega) rfl).1⟩
  rw [cUF_at, upd_ne (by decide)]
  exact (ho j (by omega) rfl).2 h
theorem sp_awayM {Q : Int32 → mS → Prop} {x1 : Int32} {τ : mS} (hb : ¬ inR x1 0 3 → Q (-1) τ) (ho : ∀ j, j < 4 → x1 = nI j → (¬ 0 ≤ τ.2.1 15 j → Q (-11) τ) ∧ (0 ≤ τ.2.1 15 j → Q (τ.2.1 16 j) (mUI τ 15 j (-1)))) : w_away Q x1 τ := by
  unfold w_away
  refine sp_in (p := 0) (q := 3) (by decide) (by decide) (fun h1 => ⟨fun _ => ?_, fun h => absurd h (by decide)⟩) (fun h1 => ⟨fun h => absurd rfl h, fun _ => hb h1⟩)
  obtain ⟨j, hj, rfl⟩ := inR_nat (b := 3) h1 (by decide)
  have hv := vp_in_nI (show j < 4 by omega) (by decide)
  refine ⟨hv, ?_⟩
  rw [nI_clamp (by omega)]
  refine ⟨fun h => ⟨hv, nmB_iff.mpr ⟨hv, ?_⟩⟩, (ho j (by omega) rfl).1⟩
  rw [mUI_ne (by decide)]
  exact (ho j (by omega) rfl).2 h
theorem st_away : ∀ (z0 : Int32) (σ : cS) (τ : mS), Inv σ τ → v_X7_away (fun r σ1 => w_away (fun r2 τ1 => r = r2 ∧ Inv σ1 τ1) z0 τ) z0 σ := by
  intro z0 σ τ hI
  refine sp_awayC (fun h => sp_awayM (fun _ => ⟨rfl, hI⟩) (fun j hj e => absurd (by rw [e]; exact inR_nI (b := 3) (by omega) (by decide)) h)) (fun j hj e => ?_)
  have hin : inR z0 0 3 := by rw [e]; exact inR_nI (b := 3) (by omega) (by decide)
  obtain ⟨s1, s2, s3, s4, s5⟩ := hI.2.2.1 j hj
  have same : ∀ j', j' < 4 → z0 = nI j' → j' = j := fun j' hj' e' => (nI_eq (by omega) (by omega)).mp (by rw [← e', e])
  refine ⟨fun h => sp_awayM (fun h => absurd hin h) (fun j' hj' e' => ?_), fun h => sp_awayM (fun h => absurd hin h) (fun j' hj' e' => ?_)⟩
  · have := same j' hj' e'; subst this
    rw [← s1, h]
    exact ⟨fun _ => ⟨rfl, hI⟩, fun h => absurd h (by decide)⟩
  · have := same j' hj' e'; subst this
    rw [s1] at h
    obtain ⟨k, hk, ek⟩ : ∃ k : Nat, k < 3 ∧ τ.2.1 15 j' = nI k := s3.resolve_left h
    refine ⟨fun h => absurd (by rw [ek]; exact nI_pos' (by omega)) h, fun _ => ⟨s2, ?_⟩⟩
    refine Inv_sheet hI hj (fun a _ => rfl) rfl (fun o ho => cUF_ne ho) rfl rfl rfl (fun b h15 _ _ => mUI_ne h15) (fun q hq => by rw [mUI_at, upd_ne hq]) (fun q _ => by rw [mUI_ne (by decide)]) (fun i _ => by rw [mUI_ne (by decide)]) ?_
    refine ⟨by rw [cUF_at, upd_at, mUI_at, upd_at], by rw [cUF_at, upd_ne (by decide), mUI_ne (by decide)]; exact s2, Or.inl (by rw [mUI_at, upd_at]), by rw [mUI_ne (by decide)]; exact s4, fun i hi => by rw [mUI_ne (by decide)]; exact s5 i hi⟩
/-- why items can't be had -/
theorem sp_unfit {Q : Int32 → cS → Prop} {x1 x2 x3 x4 : Int32} {m : Nat} {σ : cS} (hm : x4 = nI m) (hm2 : m ≤ 20) (hsz : ∀ j, j < 4 → ∃ s : Nat, s ≤ 20 ∧ σ.2.2.1 (39 + 2 * j) 2 = nI s) (hb : ¬ (inR x1 0 3 ∧ inR x2 0 2) → Q (-1) σ) (ho : ∀ j, j < 4 → x1 = nI j → inR x2 0 2 → (σ.2.2.1 (39 + 2 * j) 1 = -1 → Q (-11) σ) ∧ (¬ σ.2.2.1 (39 + 2 * j) 1 = -1 → ¬ σ.2.2.1 (39 + 2 * j) 1 = x2 → Q (-12) σ) ∧ (¬ σ.2.2.1 (39 + 2 * j) 1 = -1 → σ.2.2.1 (39 + 2 * j) 1 = x2 → ∀ s : Nat, s ≤ 20 → σ.2.2.1 (39 + 2 * j) 2 = nI s → (¬ inR x3 0 ((s : Int) - m) → Q (-13) σ) ∧ (inR x3 0 ((s : Int) - m) → Q 0 σ))) : v_X7_unfit Q x1 x2 x3 x4 σ := by
  unfold v_X7_unfit v_X7_unfit_14 v_X7_unfit_70
  refine sp_isSheetC (fun h1 => ⟨fun h => absurd h (by decide), fun _ => ?_⟩) (fun h1 => ⟨fun _ => hb (fun z => h1 z.1), fun h => absurd rfl h⟩)
  refine sp_isLaneC (fun h2 => ⟨fun _ => ?_, fun h => absurd h (by decide)⟩) (fun h2 => ⟨fun h => absurd rfl h, fun _ => hb (fun z => h2 z.2)⟩)
  obtain ⟨j, hj, rfl⟩ := inR_nat (b := 3) h1 (by decide)
  refine ⟨vp_in_nI (by omega) (by decide), nmB_iff.mpr ?_⟩
  rw [nI_clamp (by omega)]
  obtain ⟨a, b, c⟩ := ho j (by omega) rfl h2
  refine ⟨fun h => ⟨fun h' => ?_, fun h' => b h h'⟩, a⟩
  obtain ⟨s, hs, es⟩ := hsz j (by omega)
  rw [es, hm]
  have e : (nI s - nI m).toInt = (s : Int) - m := pk_sub_toInt (by omega) (by omega)
  refine sp_within (p := 0) (q := (s : Int) - m) (by decide) e (fun h4 => ⟨fun z => absurd z (by decide), fun _ => (c h h' s hs es).2 h4⟩) (fun h4 => ⟨fun _ => (c h h' s hs es).1 h4, fun z => absurd rfl z⟩)
