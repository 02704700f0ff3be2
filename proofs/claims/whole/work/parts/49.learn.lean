/-! PURE: loops once for all; the class's polynomial of THE KNOT, THE LAW and THE KNOT -/
/-- a loop that counts from 0 up to N -/
theorem loopU {S : Type} {F : Nat → Int32 → S → Prop} {I : Nat → S → Prop} {N : Nat} (hN : N < 999) (step : ∀ n c s, c < N → I c s → (∀ s', I (c + 1) s' → F n (nI (c + 1)) s') → F (n + 1) (nI c) s) (fin : ∀ n s, I N s → F (n + 1) (nI N) s) : ∀ s, I 0 s → F fuL 0 s := by
  have key : ∀ (d c n : Nat) (s : S), c + d = N → d < n → I c s → F n (nI c) s := by
    intro d
    induction d with
    | zero =>
      intro c n s hc hn hI
      obtain ⟨n, rfl⟩ : ∃ m, n = m + 1 := ⟨n - 1, by omega⟩
      have : c = N := by omega
      subst this
      exact fin n s hI
    | succ d ih =>
      intro c n s hc hn hI
      obtain ⟨n, rfl⟩ : ∃ m, n = m + 1 := ⟨n - 1, by omega⟩
      exact step n c s (by omega) hI (fun s' h' => ih (c + 1) n s' (by omega) (by omega) h')
  intro s hs
  exact key N 0 fuL s (by omega) (by unfold fuL; omega) hs
/-- the sign of a long by shifts -/
theorem sgn_lit : (63 : Int32).toInt64 &&& 63 = 63 := by decide
theorem sgn_litu : (63 : Int32).toInt64.toUInt64 &&& Int64.toUInt64 63 = 63 := by decide
theorem sgn_a (x : Int64) : (x >>> (63 : Int64)) = if x.toInt < 0 then -1 else 0 := by
  apply Int64.toInt_inj.mp
  have e : (x >>> (63 : Int64)).toInt = x.toInt >>> 63 := by
    rw [← Int64.toInt_toBitVec, Int64.toBitVec_shiftRight]
    have : ((63 : Int64).toBitVec.smod 64) = 63#64 := by decide
    rw [this]
    simp [BitVec.sshiftRight']
  rw [e, Int.shiftRight_eq_div_pow]
  have h1 := Int64.le_toInt x
  have h2 := Int64.toInt_lt x
  split
  · show _ = -1
    omega
  · show _ = 0
    omega
theorem sgn_b (x : Int64) : (x.toUInt64 >>> (63 : UInt64)).toInt64 = if x.toInt < 0 then 1 else 0 := by
  apply Int64.toInt_inj.mp
  have e : (x.toUInt64 >>> (63 : UInt64)).toNat = x.toUInt64.toNat / 2 ^ 63 := by
    rw [UInt64.toNat_shiftRight]
    show x.toUInt64.toNat >>> 63 = _
    rw [Nat.shiftRight_eq_div_pow]
  have e2 : x.toInt = if 2 * x.toUInt64.toNat < 2 ^ 64 then (x.toUInt64.toNat : Int) else (x.toUInt64.toNat : Int) - 2 ^ 64 := by
    show x.toBitVec.toInt = _
    rw [BitVec.toInt_eq_toNat_cond]
    rfl
  have hb : x.toUInt64.toNat < 2 ^ 64 := x.toUInt64.toNat_lt
  generalize hu : x.toUInt64 >>> (63 : UInt64) = u at *
  generalize x.toUInt64.toNat = n at *
  have hn : u.toNat = 0 ∨ u.toNat = 1 := by omega
  have hu2 : u = 0 ∨ u = 1 := by
    rcases hn with q | q
    · exact Or.inl (UInt64.toNat_inj.mp q)
    · exact Or.inr (UInt64.toNat_inj.mp q)
  split at e2
  · have h0 : u.toNat = 0 := by omega
    have : u = 0 := UInt64.toNat_inj.mp h0
    rw [if_neg (by omega), this]
    rfl
  · have h0 : u.toNat = 1 := by omega
    have : u = 1 := UInt64.toNat_inj.mp h0
    rw [if_pos (by omega), this]
    rfl
theorem sp_sign {Q : Int32 → cS → Prop} {z : Int} {σ : cS} (hz : r63 z) (h : Q (iI z.sign) σ) : v_J13_signum_95d88 Q (iL z) σ := by
  unfold v_J13_signum_95d88
  rw [sgn_lit, sgn_litu, sgn_a, sgn_b, iL_neg, iL_toInt hz, iL_toInt (by unfold r63 at *; omega)]
  rcases Int.lt_trichotomy z 0 with q | q | q
  · rw [Int.sign_eq_neg_one_of_neg q] at h
    rw [if_pos q, if_neg (by omega)]
    exact h
  · subst q
    exact h
  · rw [Int.sign_eq_one_of_pos q] at h
    rw [if_neg (by omega), if_pos (by omega)]
    exact h
theorem kqr_ab {v : Nat → Int} (h : sm9 v) (c : Nat) : ab (kqr v c) 38263752 := by
  have r := rel_ab h
  have m : ∀ a b c d, ab (relv v a * relv v b - relv v c * relv v d) 38263752 := fun a b c d => ab_le (ab_sub (ab_mul (r a) (r b)) (ab_mul (r c) (r d))) (by decide)
  unfold kqr
  match c with
  | 0 => exact m _ _ _ _
  | 1 => exact m _ _ _ _
  | 2 => exact m _ _ _ _
  | _ + 3 => exact ab_0
theorem kqn_ab {v : Nat → Int} (h : sm9 v) (c : Nat) : ab (kqn v c) 38263752 := by
  have h1 : ((kqr v c).tdiv (gcdN (kqr v) 3)).natAbs ≤ (kqr v c).natAbs := by rw [Int.natAbs_tdiv]; exact Nat.div_le_self _ _
  have := kqr_ab h c
  unfold kqn ab at *
  omega
theorem kq_ab {v : Nat → Int} (h : sm9 v) (c : Nat) : ab (kq v c) 38263752 := by
  match c with
  | 0 => exact kqn_ab h 0
  | 1 => exact kqn_ab h 1
  | 2 => exact kqn_ab h 2
  | _ + 3 => exact ab_0
/-- the rows that finding the polynomial of THE KNOT changes -/
def sc5 (a : Nat) : Prop := a = 11 ∨ a = 12 ∨ a = 13 ∨ a = 15
def kn3 (σ : cS) (v : Nat → Int) : Prop := ∀ c, c < 3 → σ.1 15 c = iL (kqn v c)
theorem sp_knotted {Q : cS → Prop} {σ : cS} {v : Nat → Int} (hs : sm9 v) (hr : rel4 σ v) (h : ∀ σ', chg sc5 σ σ' → kn3 σ' v → Q σ') : v_X4_findKnotted Q σ := by
  unfold v_X4_findKnotted
  refine loopU (N := 3) (F := v_X4_findKnotted_2 Q) (I := fun c s => chg (fun x => x = 11 ∨ x = 12) σ s ∧ ∀ k, k < c → s.1 11 k = iL (relv v k) ∧ s.1 12 k = iL (relv v (k + 1))) (by decide) ?_ ?_ σ ⟨chg_rf, fun k hk => by omega⟩
  · intro n c s hc ⟨hI, hz⟩ go
    unfold v_X4_findKnotted_2
    have hv3 := vp_in_nI hc (show 3 < 2 ^ 31 by decide)
    refine ⟨fun q => absurd q (nI_ge (b := 3) hc (by decide)), fun _ => ⟨vp_in_nI (N := 4) (by omega) (by decide), hv3, nmB_iff.mpr ?_⟩⟩
    rw [nI_1, nI_clamp (show c < 2 ^ 31 by omega), nI_clamp (show c + 1 < 2 ^ 31 by omega)]
    refine ⟨vp_in_nI (N := 4) (by omega) (by decide), hv3, nmB_iff.mpr (nmB_iff.mpr ?_)⟩
    refine go _ ⟨chg_t2 (chg_t2 hI (chg_J (Or.inl rfl))) (chg_J (Or.inr rfl)), fun k hk => ?_⟩
    rw [cUJ_ne (show (11 : Nat) ≠ 12 by decide), cUJ_at, cUJ_at, cUJ_ne (show (12 : Nat) ≠ 11 by decide), cUJ_ne (show (14 : Nat) ≠ 11 by decide), hI.1 14 (by decide)]
    rcases Nat.lt_or_ge k c with q | q
    · rw [updL_ne (by omega), updL_ne (by omega)]; exact hz k q
    · have : k = c := by omega
      subst this
      rw [updL_at, updL_at]; exact ⟨hr k (by omega), hr (k + 1) (by omega)⟩
  · intro n s ⟨hI, hz⟩
    unfold v_X4_findKnotted_2
    refine ⟨fun _ => ?_, fun q => absurd (by decide) q⟩
    refine sp_crossC (a := relv v) (b := fun i => relv v (i + 1)) (fun c hc => (hz c hc).1) (fun c hc => (hz c hc).2) (fun σ' hs' hr' => ?_)
    rw [c0, c3]
    refine ⟨⟨by decide, by decide, by decide, by decide, by decide⟩, nmB_iff.mpr ?_⟩
    have hrow : rowIs ((cUR σ' 15 (va_cpy (σ'.1 13) (σ'.1 15) 0 0 3)).1 15) 3 (kqr v) := by
      intro i hi
      refine ⟨?_, ab_r (kqr_ab hs i)⟩
      rw [cUR_at, pk_cpy_in (by omega) (by omega), show 0 + (i - 0) = i by omega]
      exact hr' i hi
    refine sp_takeOff (N := 3) rfl (by decide) hrow (h _ ?_ (fun c hc => goneC_v hc))
    exact chg_w (chg_tr (chg_tr (chg_tr hI hs') (chg_R (P := fun x => x = 15) rfl)) (chg_R (P := fun x => x = 15) rfl)) (fun x hx => by unfold sc5; omega)
theorem sp_kNum {Q : Int64 → cS → Prop} {σ : cS} {v : Nat → Int} {i : Nat} (hk : kn3 σ v) (hi : i < 4) (h : Q (iL (kq v i)) σ) : v_X4_knottedNumber Q (nI i) σ := by
  unfold v_X4_knottedNumber v_X4_knottedNumber_9 v_X4_knottedNumber_19
  refine ⟨fun q => absurd q (nI_pos (by omega)), fun _ => ⟨fun q => ?_, fun q => ?_⟩⟩
  · have h2 : i ≤ 2 := (nI_leI (b := 2) (by omega) (by decide)).mp q
    refine ⟨vp_in_nI (N := 3) (by omega) (by decide), ?_⟩
    rw [nI_clamp (by omega), hk i (by omega)]
    rcases (show i = 0 ∨ i = 1 ∨ i = 2 by omega) with rfl | rfl | rfl <;> exact h
  · have : i = 3 := by
      rcases Nat.lt_or_ge i 3 with p | p
      · exact absurd (nI_le (b := 2) (by omega) (by decide)) q
      · omega
    subst this
    exact h
/-- the number below -/
def kqm (v : Nat → Int) (i : Nat) : Int := if i = 0 then 0 else kq v (i - 1)
theorem nI_m1 (i : Nat) : nI (i + 1) - (1 : Int32) = nI i := by
  have : nI (i + 1) = nI i + 1 := (nI_1 i).symm
  rw [this]
  apply Int32.toInt_inj.mp
  simp
theorem sp_kNum1 {Q : Int64 → cS → Prop} {σ : cS} {v : Nat → Int} {i : Nat} (hk : kn3 σ v) (hi : i < 4) (h : Q (iL (kqm v i)) σ) : v_X4_knottedNumber Q (nI i - (1 : Int32)) σ := by
  rcases Nat.eq_zero_or_pos i with q | q
  · subst q
    unfold v_X4_knottedNumber v_X4_knottedNumber_9 v_X4_knottedNumber_19
    exact ⟨fun _ => h, fun q => absurd (by decide) q⟩
  · obtain ⟨k, rfl⟩ : ∃ m, i = m + 1 := ⟨i - 1, by omega⟩
    rw [nI_m1]
    unfold kqm at h
    rw [if_neg (by omega)] at h
    exact sp_kNum hk (by omega) h
theorem lwa_0 (v : Nat → Int) (i j k w : Nat) : lwa v i j k (2 * w) = kq v i * fo3 v j k w := by
  unfold lwa
  rw [if_pos (by omega), show 2 * w / 2 = w by omega]
theorem lwa_1 (v : Nat → Int) (i j k w : Nat) : lwa v i j k (2 * w + 1) = -(kqm v i * fo3 v j k w) := by
  unfold lwa kqm
  rw [if_neg (by omega), show (2 * w + 1) / 2 = w by omega]
def is6C (σ : cS) (r : Nat) (e : Nat → Int) : Prop := ∀ p, p < 6 → σ.1 r p = iL (e p)
theorem sp_addToLaw {Q : cS → Prop} {o i j k : Nat} {σ : cS} {v e : Nat → Int} (hl : cLen (o + 3) = 6) (hi : i < 4) (hj : j < 4) (hk : k < 4) (hv : numV σ o v) (hq : kn3 σ v) (he : is6C σ (o + 3) e) (h : ∀ σ', chg (fun a => sc4 a ∨ a = o + 3) σ σ' → is6C σ' (o + 3) (fun c => e c + lwa v i j k c) → Q σ') : v_X4_addToLaw Q o (nI i) (nI j) (nI k) σ := by
  unfold v_X4_addToLaw
  have ho := hv.2.1
  refine sp_findForm (f := 0) (by decide) hj hk hv (fun s1 g1 f1 _ => ?_)
  have hq1 : kn3 s1 v := fun c hc => by rw [g1.1 15 (by unfold sc4; omega)]; exact hq c hc
  have he1 : is6C s1 (o + 3) e := fun p hp => by rw [g1.1 (o + 3) (by unfold sc4; omega)]; exact he p hp
  have f10 : ∀ c, c < 3 → s1.1 10 c = iL (fo3 v j k c) := fun c hc => by have := f1 c hc; rwa [show 3 * 0 + c = c by omega] at this
  refine loopU (N := 3) (F := fun n x s => v_X4_addToLaw_12 Q o n (nI i) x s) (I := fun c s => chg (fun x => x = o + 3) s1 s ∧ ∀ p, p < 6 → s.1 (o + 3) p = iL (if p < 2 * c then e p + lwa v i j k p else e p)) (by decide) ?_ ?_ s1 ⟨chg_rf, fun p hp => by rw [if_neg (by omega)]; exact he1 p hp⟩
  · intro n c s hc ⟨hI, hz⟩ go
    show v_X4_addToLaw_12 Q o (n + 1) (nI i) (nI c) s
    unfold v_X4_addToLaw_12
    have kn : ∀ {s' : cS}, chg (fun x => x = o + 3) s1 s' → kn3 s' v := fun g p hp => by rw [g.1 15 (by omega)]; exact hq1 p hp
    have fn : ∀ {s' : cS}, chg (fun x => x = o + 3) s1 s' → s'.1 10 c = iL (fo3 v j k c) := fun g => by rw [g.1 10 (by omega)]; exact f10 c hc
    refine ⟨fun q => absurd q (nI_ge (b := 3) hc (by decide)), fun _ => ?_⟩
    rw [show (2 : Int32) = nI 2 from rfl, pk_mul, nI_1, nI_clamp (show 2 * c < 2 ^ 31 by omega), nI_clamp (show c < 2 ^ 31 by omega), nI_clamp (show 2 * c + 1 < 2 ^ 31 by omega), hl]
    have w0 := vp_in_nI (show 2 * c < 6 by omega) (show 6 < 2 ^ 31 by decide)
    have w1 := vp_in_nI (show 2 * c + 1 < 6 by omega) (show 6 < 2 ^ 31 by decide)
    have w2 : vp_in (nI c) (cLen 10) := vp_in_nI (show c < 24 by omega) (by decide)
    refine ⟨w0, sp_kNum (kn hI) hi ⟨w2, w0, nmB_iff.mpr ?_⟩⟩
    rw [fn hI, hz (2 * c) (by omega), if_neg (by omega), iL_mul, iL_add]
    have g2 : chg (fun x => x = o + 3) s1 (cUJ s (o + 3) (2 * c) (iL (e (2 * c) + kq v i * fo3 v j k c))) := chg_t2 hI (chg_J rfl)
    refine ⟨w1, sp_kNum1 (kn g2) hi ⟨w2, w1, nmB_iff.mpr (nmB_iff.mpr ?_)⟩⟩
    rw [fn g2, nI_1, cUJ_at, updL_ne (by omega), hz (2 * c + 1) (by omega), if_neg (by omega), iL_mul, iL_sub]
    refine go _ ⟨chg_t2 g2 (chg_J rfl), fun p hp => ?_⟩
    rw [cUJ_at, cUJ_at]
    rcases (show p < 2 * c ∨ p = 2 * c ∨ p = 2 * c + 1 ∨ 2 * (c + 1) ≤ p by omega) with q | q | q | q
    · rw [updL_ne (by omega), updL_ne (by omega), hz p hp, if_pos q, if_pos (by omega)]
    · subst q
      rw [updL_ne (by omega), updL_at, if_pos (by omega), lwa_0]
    · subst q
      rw [updL_at, if_pos (by omega), lwa_1, Int.sub_eq_add_neg]
    · rw [updL_ne (by omega), updL_ne (by omega), hz p hp, if_neg (by omega), if_neg (by omega)]
  · intro n s ⟨hI, hz⟩
    show v_X4_addToLaw_12 Q o (n + 1) (nI i) (nI 3) s
    unfold v_X4_addToLaw_12
    refine ⟨fun _ => h s (chg_tr g1 hI) (fun p hp => ?_), fun q => absurd (by decide) q⟩
    have := hz p hp
    rwa [if_pos (by omega)] at this
theorem lwa_ab {v : Nat → Int} (h : sm9 v) {i j k : Nat} (hj : j < 4) (hk : k < 4) (c : Nat) : ab (lwa v i j k c) 6198727824 := by
  have f := fo3_ab h hj hk (c / 2)
  unfold lwa
  split
  · exact ab_mul (kq_ab h i) f
  · refine ab_neg (ab_mul (A := 38263752) ?_ f)
    split
    · exact ab_0
    · exact kq_ab h _
theorem oth_lt (w : Nat) : (oth w).1 < 4 ∧ (oth w).2.1 < 4 ∧ (oth w).2.2 < 4 := by
  unfold oth
  split <;> decide
theorem lwr_ab {v : Nat → Int} (h : sm9 v) (c : Nat) : ab (lwr v c) 18596183472 := by
  have o := oth_lt (fst0 (relv v) 4)
  unfold lwr
  generalize oth (fst0 (relv v) 4) = t at *
  obtain ⟨i, j, k⟩ := t
  exact ab_add (ab_add (lwa_ab h o.2.1 o.2.2 c) (lwa_ab h o.2.2 o.1 c)) (lwa_ab h o.1 o.2.1 c)
theorem tOth {t : Nat} (ht : t < 4) : tOTHERS (3 * t) = nI (oth t).1 ∧ tOTHERS (3 * t + 1) = nI (oth t).2.1 ∧ tOTHERS (3 * t + 2) = nI (oth t).2.2 := by
  rcases (show t = 0 ∨ t = 1 ∨ t = 2 ∨ t = 3 by omega) with rfl | rfl | rfl | rfl <;> exact ⟨rfl, rfl, rfl⟩
theorem sp_findLawC {Q : cS → Prop} {o : Nat} {σ : cS} {v : Nat → Int} (hl : cLen (o + 3) = 6) (hs : sm9 v) (hv : numV σ o v) (hr : rel4 σ v) (hq : kn3 σ v) (hn : fst0 (relv v) 4 < 4) (h : ∀ σ', chg (fun a => sc4 a ∨ a = o + 3) σ σ' → is6C σ' (o + 3) (lw v) → Q σ') : v_X4_findLaw Q o σ := by
  unfold v_X4_findLaw
  have ho := hv.2.1
  have z : ∀ c, c < 4 → (σ.1 14 c = 0 ↔ relv v c = 0) := fun c hc => by rw [hr c hc]; exact iL0 (ab_r (rel_ab hs c))
  refine sp_first (N := 4) rfl (by decide) (fun t ht hne hlo => ?_) (fun h0 => ?_)
  · have et : fst0 (relv v) 4 = t := by
      rcases fst0_facts (relv v) 4 with ⟨_, b⟩ | ⟨a, b, c⟩
      · exact absurd ((z t ht).mpr (b t ht)) hne
      · rcases Nat.lt_trichotomy (fst0 (relv v) 4) t with q | q | q
        · exact absurd ((z _ a).mp (hlo _ q)) b
        · exact q
        · exact absurd ((z t ht).mpr (c t q)) hne
    rw [if_neg (nI_pos (by omega))]
    refine nmB_iff.mpr ?_
    rw [show (3 : Int32) = nI 3 from rfl, pk_mul, nI_1, show (2 : Int32) = nI 2 from rfl, nI_add, nI_clamp (show 3 * t < 2 ^ 31 by omega), nI_clamp (show 3 * t + 1 < 2 ^ 31 by omega), nI_clamp (show 3 * t + 2 < 2 ^ 31 by omega), (tOth ht).1, (tOth ht).2.1, (tOth ht).2.2]
    refine ⟨vp_in_nI (by omega) (by decide), nmB_iff.mpr ⟨vp_in_nI (by omega) (by decide), nmB_iff.mpr ⟨vp_in_nI (by omega) (by decide), nmB_iff.mpr ?_⟩⟩⟩
    have o4 := oth_lt t
    have hlr : ∀ c, lwr v c = lwa v (oth t).1 (oth t).2.1 (oth t).2.2 c + lwa v (oth t).2.1 (oth t).2.2 (oth t).1 c + lwa v (oth t).2.2 (oth t).1 (oth t).2.1 c := fun c => by unfold lwr; rw [et]
    generalize oth t = ot at *
    obtain ⟨i, j, k⟩ := ot
    refine sp_fill hl (by decide) ?_
    have gf : chg (fun a => sc4 a ∨ a = o + 3) σ (goneC σ (o + 3) 6 (fun _ => 0)) := chg_R (Or.inr rfl)
    have ef : is6C (goneC σ (o + 3) 6 (fun _ => 0)) (o + 3) (fun _ => 0) := fun p hp => goneC_v hp
    have nv : ∀ {s : cS}, chg (fun a => sc4 a ∨ a = o + 3) σ s → numV s o v ∧ kn3 s v := fun g => ⟨numV_chg hv g (by unfold sc4; omega), fun c hc => by rw [g.1 15 (by unfold sc4; omega)]; exact hq c hc⟩
    refine sp_addToLaw hl o4.1 o4.2.1 o4.2.2 (nv gf).1 (nv gf).2 ef (fun s1 g1 e1 => ?_)
    have g01 := chg_t2 gf g1
    refine sp_addToLaw hl o4.2.1 o4.2.2 o4.1 (nv g01).1 (nv g01).2 e1 (fun s2 g2 e2 => ?_)
    have g02 := chg_t2 g01 g2
    refine sp_addToLaw hl o4.2.2 o4.1 o4.2.1 (nv g02).1 (nv g02).2 e2 (fun s3 g3 e3 => ?_)
    have g03 := chg_t2 g02 g3
    refine sp_tidyF (z := lwr v) hl (by decide) (fun p hp => ⟨?_, ab_r (lwr_ab hs p)⟩) (h _ (chg_t2 g03 (chg_R (Or.inr rfl))) (fun p hp => goneC_v hp))
    rw [e3 p hp, show lwr v p = lwa v i j k p + lwa v j k i p + lwa v k i j p from hlr p]
    show iL (0 + lwa v i j k p + lwa v j k i p + lwa v k i j p) = _
    rw [Int.zero_add]
  · rcases fst0_facts (relv v) 4 with ⟨a, _⟩ | ⟨a, b, _⟩
    · omega
    · exact absurd ((z _ a).mp (h0 _ a)) b
