/-! PURE: findEquation of the class -/
theorem goneC_v {σ : cS} {r N : Nat} {f : Nat → Int64} {i : Nat} (hi : i < N) : (goneC σ r N f).1 r i = f i := by
  unfold goneC
  rw [cUR_at]
  show (if i < N then f i else σ.1 r i) = f i
  rw [if_pos hi]
theorem eqr_0 {v : Nat → Int} (h : kd v = 0) (p : Nat) : eqr v p = 0 := by unfold eqr; rw [if_pos h]
theorem eqr_1 {v : Nat → Int} (h : kd v = 1) (p : Nat) : eqr v p = pr3 (ff3 v) one3 one3 p := by unfold eqr; rw [if_neg (by omega), if_pos h]
theorem eqr_2 {v : Nat → Int} (h : kd v = 2) (p : Nat) : eqr v p = pr3 (fo3 v 1 0) (fo3 v 2 1) one3 p - pr3 (fo3 v 2 0) (fo3 v 2 0) one3 p := by unfold eqr; rw [if_neg (by omega), if_neg (by omega), if_pos h]
theorem eqr_3 {v : Nat → Int} (h : kd v = 3) (p : Nat) : eqr v p = pr3 (fo3 v 1 0) (mid3 v) (fo3 v 3 2) p + 2 * pr3 (fo3 v 2 0) (fo3 v 3 0) (fo3 v 3 1) p - pr3 (fo3 v 1 0) (fo3 v 3 1) (fo3 v 3 1) p - pr3 (mid3 v) (fo3 v 3 0) (fo3 v 3 0) p - pr3 (fo3 v 3 2) (fo3 v 2 0) (fo3 v 2 0) p := by unfold eqr; rw [if_neg (by omega), if_neg (by omega), if_neg (by omega)]
theorem iLm1 : (-1 : Int64) = iL (-1) := by decide
theorem iL2 : (2 : Int64) = iL 2 := by decide
theorem sp_findEqC {Q : cS → Prop} {o : Nat} {σ : cS} {v : Nat → Int} (hl : cLen (o + 2) = 10) (ho : 14 ≤ o) (hs : sm9 v) (h8 : forms8 σ v) (hk : σ.2.2.1 o 6 = nI (kd v)) (h : ∀ σ', chg (fun a => a = o + 2) σ σ' → (∀ i, i < 10 → σ'.1 (o + 2) i = iL (eqn v i)) → Q σ') : v_X4_findEquation Q o σ := by
  unfold v_X4_findEquation v_X4_findEquation_153
  have hr0 : o + 2 ≠ 10 := by omega
  refine sp_fill hl (by decide) ?_
  have c1 : chg (fun a => a = o + 2) σ (goneC σ (o + 2) 10 (fun _ => 0)) := chg_R rfl
  have e1 : is10 (goneC σ (o + 2) 10 (fun _ => 0)) (o + 2) (fun _ => 0) := fun p hp => goneC_v hp
  revert c1 e1
  generalize goneC σ (o + 2) 10 (fun _ => 0) = σ1
  intro c1 e1
  have fin : ∀ σ2, chg (fun a => a = o + 2) σ σ2 → is10 σ2 (o + 2) (eqr v) → v_X6_takeOffDivisor (fun σ102 => v_X6_first (fun u103 σ104 => v_X6_turn (fun σ106 => Q σ106) (o + 2) u103 σ104) (o + 2) σ102) (o + 2) σ2 := fun σ2 c2 e2 => sp_tidyF hl (by decide) (fun i hi => ⟨e2 i hi, ab_r (eqr_ab hs i)⟩) (h _ (chg_t2 c2 (chg_R rfl)) (fun i hi => goneC_v hi))
  have k1 : σ1.2.2.1 o 6 = nI (kd v) := by rw [c1.2]; exact hk
  have h81 : forms8 σ1 v := forms8_chg h8 c1 (by omega)
  have hk3 := kd_le v
  have ff : ∀ {σ2 : cS}, chg (fun a => a = o + 2) σ1 σ2 → ∀ f, f < 8 → isF σ2 f (frm v f) := fun c2 f hf => isF_chg (forms8_F h81 hf) c2 hr0
  rw [k1, iLm1, iL2, iL_1]
  refine ⟨fun q1 => ⟨fun q2 => ⟨fun q3 => fin σ1 c1 ?_, fun q3 => ?_⟩, fun q2 => ?_⟩, fun q1 => ?_⟩
  · have : kd v = 0 := by
      have a1 : kd v ≠ 1 := fun z => q1 (by rw [z]; rfl)
      have a2 : kd v ≠ 2 := fun z => q2 (by rw [z]; rfl)
      have a3 : kd v ≠ 3 := fun z => q3 (by rw [z]; rfl)
      omega
    exact is10_eq e1 (fun p => (eqr_0 this p).symm)
  · have k3 : kd v = 3 := (nI_eq (b := 3) (by omega) (by decide)).mp q3
    refine sp_addC (f := 0) (g := 6) (h := 5) hl hr0 (ff chg_rf 0 (by decide)) (ff chg_rf 6 (by decide)) (ff chg_rf 5 (by decide)) e1 (fun s1 d1 g1 => ?_)
    refine sp_addC (f := 1) (g := 2) (h := 4) hl hr0 (ff d1 1 (by decide)) (ff d1 2 (by decide)) (ff d1 4 (by decide)) g1 (fun s2 d2 g2 => ?_)
    have d12 := chg_t2 d1 d2
    refine sp_addC (f := 0) (g := 4) (h := 4) hl hr0 (ff d12 0 (by decide)) (ff d12 4 (by decide)) (ff d12 4 (by decide)) g2 (fun s3 d3 g3 => ?_)
    have d13 := chg_t2 d12 d3
    refine sp_addC (f := 6) (g := 2) (h := 2) hl hr0 (ff d13 6 (by decide)) (ff d13 2 (by decide)) (ff d13 2 (by decide)) g3 (fun s4 d4 g4 => ?_)
    have d14 := chg_t2 d13 d4
    refine sp_addC (f := 5) (g := 1) (h := 1) hl hr0 (ff d14 5 (by decide)) (ff d14 1 (by decide)) (ff d14 1 (by decide)) g4 (fun s5 d5 g5 => ?_)
    refine fin s5 (chg_t2 c1 (chg_t2 d14 d5)) (is10_eq g5 (fun p => ?_))
    rw [eqr_3 k3]
    show 0 + 1 * pr3 (fo3 v 1 0) (mid3 v) (fo3 v 3 2) p + 2 * pr3 (fo3 v 2 0) (fo3 v 3 0) (fo3 v 3 1) p + -1 * pr3 (fo3 v 1 0) (fo3 v 3 1) (fo3 v 3 1) p + -1 * pr3 (mid3 v) (fo3 v 3 0) (fo3 v 3 0) p + -1 * pr3 (fo3 v 3 2) (fo3 v 2 0) (fo3 v 2 0) p = _
    omega
  · have k2 : kd v = 2 := (nI_eq (b := 2) (by omega) (by decide)).mp q2
    refine sp_addC (f := 0) (g := 3) (h := 7) hl hr0 (ff chg_rf 0 (by decide)) (ff chg_rf 3 (by decide)) (ff chg_rf 7 (by decide)) e1 (fun s1 d1 g1 => ?_)
    refine sp_addC (f := 1) (g := 1) (h := 7) hl hr0 (ff d1 1 (by decide)) (ff d1 1 (by decide)) (ff d1 7 (by decide)) g1 (fun s2 d2 g2 => ?_)
    refine fin s2 (chg_t2 c1 (chg_t2 d1 d2)) (is10_eq g2 (fun p => ?_))
    rw [eqr_2 k2]
    show 0 + 1 * pr3 (fo3 v 1 0) (fo3 v 2 1) one3 p + -1 * pr3 (fo3 v 2 0) (fo3 v 2 0) one3 p = _
    omega
  · have k1 : kd v = 1 := (nI_eq (b := 1) (by omega) (by decide)).mp q1
    refine sp_ff hs h81 (fun f hf ef => ?_)
    refine sp_addC (g := 7) (h := 7) hl hr0 (ff chg_rf f hf) (ff chg_rf 7 (by decide)) (ff chg_rf 7 (by decide)) e1 (fun s1 d1 g1 => ?_)
    refine fin s1 (chg_t2 c1 d1) (is10_eq g1 (fun p => ?_))
    rw [eqr_1 k1, ef]
    show 0 + 1 * pr3 (ff3 v) one3 one3 p = _
    omega
