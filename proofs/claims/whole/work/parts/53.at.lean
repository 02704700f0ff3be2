/-! PURE: at (promise 8) -/
theorem i32_iL (x : Int32) : x.toInt64 = iL x.toInt := iL_i x
theorem inR_ab {x : Int32} {b : Nat} (h : inR x (-(b : Int)) b) : ab x.toInt b := ab_i.mpr h
theorem let_t {Q : Int32 → cS → Prop} {x y : Int32} {σ : cS} (h : inR x (-20) 20 ∧ inR y 1 20) (k : Q 1 σ) : v_X7_isLetter Q x y σ := sp_isLetter (fun _ _ => k) (fun z => absurd h z)
theorem let_f {Q : Int32 → cS → Prop} {x y : Int32} {σ : cS} (h : ¬ (inR x (-20) 20 ∧ inR y 1 20)) (k : Q 0 σ) : v_X7_isLetter Q x y σ := sp_isLetter (fun a b => absurd ⟨a, b⟩ h) (fun _ => k)
theorem tim_t {Q : Int32 → mS → Prop} {x y : Int32} {σ : mS} (h : inR x (-20) 20 ∧ inR y 1 20) (k : Q 1 σ) : w_isTime Q x y σ := sp_isTime (fun _ _ => k) (fun z => absurd h z)
theorem tim_f {Q : Int32 → mS → Prop} {x y : Int32} {σ : mS} (h : ¬ (inR x (-20) 20 ∧ inR y 1 20)) (k : Q 0 σ) : w_isTime Q x y σ := sp_isTime (fun a b => absurd ⟨a, b⟩ h) (fun _ => k)
def vlu (v : Nat → Int) (w : Nat) (a b : Int) : Int := ((vc v 3 w * a + vc v 2 w * b) * a + vc v 1 w * b * b) * a + vc v 0 w * b * b * b
def grw (v : Nat → Int) (w : Nat) (a b : Int) : Int := (3 * vc v 3 w * a + 2 * vc v 2 w * b) * a + vc v 1 w * b * b
theorem vlu_ab {v : Nat → Int} (h : sm9 v) {w : Nat} (hw : w < 3) {a b : Int} (ha : ab a 20) (hb : ab b 20) : ab (vlu v w a b) 288000 := by
  have c : ∀ k, k < 4 → ab (vc v k w) 9 := fun k hk => vc_ab h hk hw
  exact ab_le (ab_add (ab_mul (ab_add (ab_mul (ab_add (ab_mul (c 3 (by decide)) ha) (ab_mul (c 2 (by decide)) hb)) ha) (ab_mul (ab_mul (c 1 (by decide)) hb) hb)) ha) (ab_mul (ab_mul (ab_mul (c 0 (by decide)) hb) hb) hb)) (by decide)
theorem grw_ab {v : Nat → Int} (h : sm9 v) {w : Nat} (hw : w < 3) {a b : Int} (ha : ab a 20) (hb : ab b 20) : ab (grw v w a b) 21600 := by
  have c : ∀ k, k < 4 → ab (vc v k w) 9 := fun k hk => vc_ab h hk hw
  exact ab_le (ab_add (ab_mul (ab_add (ab_mul (ab_mul (a := 3) (A := 3) (by unfold ab; decide) (c 3 (by decide))) ha) (ab_mul (ab_mul (a := 2) (A := 2) (by unfold ab; decide) (c 2 (by decide))) hb)) ha) (ab_mul (ab_mul (c 1 (by decide)) hb) hb)) (by decide)
theorem sp_valueC {Q : Int64 → cS → Prop} {o w : Nat} {σ : cS} {v : Nat → Int} {a b : Int} (hv : numV σ o v) (hw : w < 3) (h : Q (iL (vlu v w a b)) σ) : v_X0_value Q o (nI w) (iL a) (iL b) σ := by
  unfold v_X0_value
  refine sp_num (k := 3) hv hw (by decide) (sp_num (k := 2) hv hw (by decide) (sp_num (k := 1) hv hw (by decide) (sp_num (k := 0) hv hw (by decide) ?_)))
  simp only [iL_mul, iL_add]
  exact h
theorem sp_growthC {Q : Int64 → cS → Prop} {o w : Nat} {σ : cS} {v : Nat → Int} {a b : Int} (hv : numV σ o v) (hw : w < 3) (h : Q (iL (grw v w a b)) σ) : v_X0_growth Q o (nI w) (iL a) (iL b) σ := by
  unfold v_X0_growth
  refine sp_num (k := 3) hv hw (by decide) (sp_num (k := 2) hv hw (by decide) (sp_num (k := 1) hv hw (by decide) ?_))
  rw [show (3 : Int64) = iL 3 from rfl, show (2 : Int64) = iL 2 from rfl]
  simp only [iL_mul, iL_add]
  exact h
theorem sp_valueM {Q : Int64 → mS → Prop} {j w : Nat} {τ : mS} {v : Nat → Int} {a b : Int} (hj : j < 4) (hv : ofV τ j v) (hw : w < 3) (h : Q (iL (vlu v w a b)) τ) : w_valueAt Q (nI (12 * j + 4 * w)) (iL a) (iL b) τ := by
  have e : ∀ k, k < 4 → τ.1 2 (12 * j + 4 * w + k) = iL (vc v k w) := fun k hk => by
    rw [show 12 * j + 4 * w + k = 12 * j + (4 * w + k) by omega]; exact hv.1 (4 * w + k) (by omega)
  unfold w_valueAt
  rw [show (3 : Int32) = nI 3 from rfl, show (2 : Int32) = nI 2 from rfl, nI_1, nI_add, nI_add, nI_clamp (by omega), nI_clamp (by omega), nI_clamp (by omega), nI_clamp (by omega), e 3 (by decide), e 2 (by decide), e 1 (by decide), show 12 * j + 4 * w = 12 * j + 4 * w + 0 by omega, e 0 (by decide)]
  refine ⟨vp_in_nI (by omega) (by decide), vp_in_nI (by omega) (by decide), vp_in_nI (by omega) (by decide), vp_in_nI (by omega) (by decide), ?_⟩
  simp only [iL_mul, iL_add]
  exact h
theorem sp_slopeM {Q : Int64 → mS → Prop} {j w : Nat} {τ : mS} {v : Nat → Int} {a b : Int} (hj : j < 4) (hv : ofV τ j v) (hw : w < 3) (h : Q (iL (grw v w a b)) τ) : w_slopeAt Q (nI (12 * j + 4 * w)) (iL a) (iL b) τ := by
  have e : ∀ k, k < 4 → τ.1 2 (12 * j + 4 * w + k) = iL (vc v k w) := fun k hk => by
    rw [show 12 * j + 4 * w + k = 12 * j + (4 * w + k) by omega]; exact hv.1 (4 * w + k) (by omega)
  unfold w_slopeAt
  rw [show (3 : Int32) = nI 3 from rfl, show (2 : Int32) = nI 2 from rfl, nI_1, nI_add, nI_add, nI_clamp (by omega), nI_clamp (by omega), nI_clamp (by omega), e 3 (by decide), e 2 (by decide), e 1 (by decide), show (3 : Int64) = iL 3 from rfl, show (2 : Int64) = iL 2 from rfl]
  refine ⟨vp_in_nI (by omega) (by decide), vp_in_nI (by omega) (by decide), vp_in_nI (by omega) (by decide), ?_⟩
  simp only [iL_mul, iL_add]
  exact h
theorem isV_num {σ : cS} {τ : mS} {j : Nat} {v : Nat → Int} (hj : j < 4) (h : isV σ τ j v) : numV σ (19 + 5 * j) v := ⟨(cLenL hj).1, by omega, h.2.2.2.2.1⟩
theorem gcd_nat {a b : Int} : ((Int.gcd a b : Nat) : Int) = 0 ↔ a = 0 ∧ b = 0 := by
  rw [show ((Int.gcd a b : Nat) : Int) = 0 ↔ Int.gcd a b = 0 by omega]
  exact Int.gcd_eq_zero_iff
theorem gcd_ab {a b : Int} {A B : Nat} (ha : ab a A) (hb : ab b B) : ab (Int.gcd a b : Nat) (max A B) := by
  unfold ab at *
  rw [Int.natAbs_natCast]
  show Nat.gcd a.natAbs b.natAbs ≤ _
  rcases Nat.eq_zero_or_pos b.natAbs with q | q
  · rw [q, Nat.gcd_zero_right]; omega
  · have := Nat.le_of_dvd q (Nat.gcd_dvd_right a.natAbs b.natAbs); omega
def okAt (z1 z2 z3 z4 : Int32) : Prop := (inR z1 (-20) 20 ∧ inR z2 1 20) ∧ inR z3 0 1 ∧ inR z4 0 1
theorem atM_in {Q : Int64 → mS → Prop} {z0 z1 z2 z3 z4 : Int32} {τ : mS} (h : okAt z1 z2 z3 z4) (k : w_against (fun u τ' => w_at_39 Q z0 z1 z2 z3 z4 u τ') z0 τ) : w_at Q z0 z1 z2 z3 z4 τ := by
  unfold w_at
  exact tim_t h.1 ⟨fun q => absurd q (by decide), fun _ => iM_t 0 1 (by decide) (by decide) h.2.1 ⟨fun q => absurd q (by decide), fun _ => iM_t 0 1 (by decide) (by decide) h.2.2 ⟨fun _ => k, fun q => absurd q (by decide)⟩⟩⟩
theorem atM_bad {Q : Int64 → mS → Prop} {z0 z1 z2 z3 z4 : Int32} {τ : mS} (h : ¬ okAt z1 z2 z3 z4) (k : Q (-1000000000001) τ) : w_at Q z0 z1 z2 z3 z4 τ := by
  have e : w_at_30 Q z0 z1 z2 z3 z4 τ := by
    unfold w_at_30 w_at_39
    exact ⟨fun q => absurd q (by decide), fun _ => k⟩
  unfold w_at
  by_cases a1 : inR z1 (-20) 20 ∧ inR z2 1 20
  · refine tim_t a1 ⟨fun q => absurd q (by decide), fun _ => ?_⟩
    by_cases a2 : inR z3 0 1
    · exact iM_t 0 1 (by decide) (by decide) a2 ⟨fun q => absurd q (by decide), fun _ => iM_f 0 1 (by decide) (by decide) (fun a3 => h ⟨a1, a2, a3⟩) ⟨fun q => absurd rfl q, fun _ => e⟩⟩
    · exact iM_f 0 1 (by decide) (by decide) a2 ⟨fun _ => e, fun q => absurd rfl q⟩
  · exact tim_f a1 ⟨fun _ => e, fun q => absurd rfl q⟩
theorem atM_main {Q : Int64 → mS → Prop} {j w : Nat} {z4 : Int32} {z1 z2 : Int32} {τ : mS} {v : Nat → Int} (hj : j < 4) (hv : ofV τ j v) (hw : w < 2) (hA : ab z1.toInt 20) (hB : ab z2.toInt 20) (k0 : vlu v 2 z1.toInt z2.toInt = 0 → Q (-1000000000004) τ) (k1 : vlu v 2 z1.toInt z2.toInt ≠ 0 → ∀ x, x = (if z4 = 0 then vlu v w z1.toInt z2.toInt else vlu v 2 z1.toInt z2.toInt) → Q (iL (if vlu v 2 z1.toInt z2.toInt < 0 then -(x.tdiv (Int.gcd (vlu v w z1.toInt z2.toInt) (vlu v 2 z1.toInt z2.toInt) : Nat)) else x.tdiv (Int.gcd (vlu v w z1.toInt z2.toInt) (vlu v 2 z1.toInt z2.toInt) : Nat))) τ) : w_at_39 Q (nI j) z1 z2 (nI w) z4 0 τ := by
  unfold w_at_39 w_at_125 w_at_145
  refine ⟨fun _ => ?_, fun q => absurd (by decide) q⟩
  rw [show (12 : Int32) = nI 12 from rfl, show (4 : Int32) = nI 4 from rfl, show (8 : Int32) = nI (4 * 2) from rfl, pk_mul, pk_mul, nI_add, nI_add, i32_iL z1, i32_iL z2]
  generalize z1.toInt = a at *
  generalize z2.toInt = b at *
  refine sp_valueM hj hv (by omega) (sp_valueM (w := 2) hj hv (by decide) ?_)
  have bo := vlu_ab (v := v) hv.2 (show w < 3 by omega) hA hB
  have bu := vlu_ab (v := v) hv.2 (show 2 < 3 by decide) hA hB
  generalize vlu v w a b = p at *
  generalize vlu v 2 a b = u at *
  have r0 : r63 0 := by unfold r63; omega
  rw [iL0 (ab_r bu)]
  refine ⟨fun hu => ?_, k0⟩
  have hg := gcd_ab bo bu
  have hg0 : ((Int.gcd p u : Nat) : Int) ≠ 0 := fun z => hu (gcd_nat.mp z).2
  have rg : r63 ((Int.gcd p u : Nat) : Int) := ab_r (ab_le hg (by decide : max 288000 288000 ≤ 288000))
  refine sp_common (ab_r bo) (ab_r bu) ?_
  have k := k1 hu
  generalize ((Int.gcd p u : Nat) : Int) = g at *
  have rg' : r63 (-g) := by unfold r63 at *; omega
  rw [iL_0, iL_le r0 (ab_r bu), iL_neg, iL_eq rg r0, iL_eq rg' r0, iL_div (ab_r bo) rg, iL_div (ab_r bu) rg, iL_div (ab_r bo) rg', iL_div (ab_r bu) rg', Int.tdiv_neg, Int.tdiv_neg]
  refine ⟨fun h => ?_, fun h => ?_⟩
  · refine ⟨fun q => ⟨hg0, ?_⟩, fun q => ⟨hg0, ?_⟩⟩
    · have := k _ rfl
      rw [if_neg q, if_neg (show ¬ u < 0 by omega)] at this; exact this
    · have := k _ rfl
      rw [if_pos q, if_neg (show ¬ u < 0 by omega)] at this; exact this
  · refine ⟨fun q => ⟨by omega, ?_⟩, fun q => ⟨by omega, ?_⟩⟩
    · have := k _ rfl
      rw [if_neg q, if_pos (show u < 0 by omega)] at this; exact this
    · have := k _ rfl
      rw [if_pos q, if_pos (show u < 0 by omega)] at this; exact this
theorem st_at : ∀ (z0 z1 z2 z3 z4 : Int32) (σ : cS) (τ : mS), Inv σ τ → v_X7_at (fun r σ1 => w_at (fun r2 τ1 => r = r2 ∧ Inv σ1 τ1) z0 z1 z2 z3 z4 τ) z0 z1 z2 z3 z4 σ := by
  intro z0 z1 z2 z3 z4 σ τ hI
  unfold v_X7_at v_X7_at_28 v_X7_at_108 v_X7_at_124 v_X7_at_144
  by_cases a1 : inR z1 (-20) 20 ∧ inR z2 1 20
  · refine let_t a1 ⟨fun q => absurd q (by decide), fun _ => ?_⟩
    by_cases a2 : inR z3 0 1
    · refine wi_t 0 1 (by decide) (by decide) a2 ⟨fun q => absurd q (by decide), fun _ => ?_⟩
      by_cases a3 : inR z4 0 1
      · refine wi_t 0 1 (by decide) (by decide) a3 ⟨fun _ => ?_, fun q => absurd q (by decide)⟩
        have ok : okAt z1 z2 z3 z4 := ⟨a1, a2, a3⟩
        rcases lcases hI z0 with h | ⟨j, hj, rfl, h1, h2⟩ | ⟨j, v, hj, rfl, hV⟩
        · refine mis_b h ⟨fun q => absurd q (by decide), fun _ => atM_in ok (ag_b h ?_)⟩
          unfold w_at_39
          exact ⟨fun q => absurd q (by decide), fun _ => ⟨rfl, hI⟩⟩
        · refine mis_n hj h1 ⟨fun q => absurd q (by decide), fun _ => atM_in ok (ag_n hj h2 ?_)⟩
          unfold w_at_39
          exact ⟨fun q => absurd q (by decide), fun _ => ⟨rfl, hI⟩⟩
        · obtain ⟨h1, h2, hp, hm, hk⟩ := id hV
          obtain ⟨w, hw, rfl⟩ := inR_nat (b := 1) a2 (by decide)
          have hnv := isV_num hj hV
          have hov := isV_of hV
          have hA : ab z1.toInt 20 := inR_ab (b := 20) a1.1
          have hB : ab z2.toInt 20 := ab_i.mpr ⟨by have := a1.2.1; omega, a1.2.2⟩
          have bo := vlu_ab (v := v) hp.1 (show w < 3 by omega) hA hB
          have bu := vlu_ab (v := v) hp.1 (show 2 < 3 by decide) hA hB
          have r0 : r63 0 := by unfold r63; omega
          refine mis_y hj h1 ⟨fun _ => ⟨vp_in_nI hj (by decide), nmB_iff.mpr ?_⟩, fun q => absurd rfl q⟩
          rw [nI_clamp (show j < 2 ^ 31 by omega), i32_iL z1, i32_iL z2]
          refine sp_valueC hnv (show w < 3 by omega) ⟨vp_in_nI hj (by decide), nmB_iff.mpr (sp_valueC (w := 2) hnv (by decide) ?_)⟩
          refine sp_divisor (ab_r bo) (ab_r bu) ?_
          have hg := gcd_ab bo bu
          have rg : r63 ((Int.gcd (vlu v w z1.toInt z2.toInt) (vlu v 2 z1.toInt z2.toInt) : Nat) : Int) := ab_r (ab_le hg (by decide : max 288000 288000 ≤ 288000))
          rw [iL0 (ab_r bu), iL0 rg, iL_0, iL_le r0 (ab_r bu), iL_div (ab_r bo) rg, iL_div (ab_r bu) rg]
          refine ⟨fun hu => ?_, fun hu => ⟨fun hg0 => ?_, fun hg0 => absurd (gcd_nat.mp hg0).2 hu⟩⟩
          · exact atM_in ok (ag_y hj h2 (atM_main hj hov (by omega) hA hB (fun _ => ⟨rfl, hI⟩) (fun z => absurd hu z)))
          · refine ⟨fun q => ⟨hg0, nmB_iff.mpr ⟨fun hs => ?_, fun hs => ?_⟩⟩, fun q => ⟨hg0, nmB_iff.mpr ⟨fun hs => ?_, fun hs => ?_⟩⟩⟩
            · refine atM_in ok (ag_y hj h2 (atM_main hj hov (by omega) hA hB (fun z => absurd z hu) (fun _ x hx => ⟨?_, hI⟩)))
              rw [if_neg (by omega), hx, if_neg q]
            · refine atM_in ok (ag_y hj h2 (atM_main hj hov (by omega) hA hB (fun z => absurd z hu) (fun _ x hx => ⟨?_, hI⟩)))
              rw [if_pos (by omega), hx, if_neg q, iL_neg]
            · refine atM_in ok (ag_y hj h2 (atM_main hj hov (by omega) hA hB (fun z => absurd z hu) (fun _ x hx => ⟨?_, hI⟩)))
              rw [if_neg (by omega), hx, if_pos q]
            · refine atM_in ok (ag_y hj h2 (atM_main hj hov (by omega) hA hB (fun z => absurd z hu) (fun _ x hx => ⟨?_, hI⟩)))
              rw [if_pos (by omega), hx, if_pos q, iL_neg]
      · exact wi_f 0 1 (by decide) (by decide) a3 ⟨fun q => absurd rfl q, fun _ => atM_bad (fun z => a3 z.2.2) ⟨rfl, hI⟩⟩
    · exact wi_f 0 1 (by decide) (by decide) a2 ⟨fun _ => atM_bad (fun z => a2 z.2.1) ⟨rfl, hI⟩, fun q => absurd rfl q⟩
  · exact let_f a1 ⟨fun _ => atM_bad (fun z => a1 z.1) ⟨rfl, hI⟩, fun q => absurd rfl q⟩
