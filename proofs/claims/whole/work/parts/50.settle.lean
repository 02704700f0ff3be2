/-! PURE: the class's THE KNOT; learn, settle -/
theorem sp_findKnotC {Q : cS → Prop} {o : Nat} {σ : cS} {v : Nat → Int} (h3 : cLen (o + 3) = 6) (h4 : cLen (o + 4) = 3) (ho : 16 ≤ o) (hs : sm9 v) (hw : is6C σ (o + 3) (lw v)) (hb : ∀ c, c < 6 → ab (lw v c) 8000000) (hq : kn3 σ v) (h : ∀ σ', chg (fun a => sc5 a ∨ a = o + 4) σ σ' → (∀ c, c < 3 → σ'.1 (o + 4) c = iL (kn v c)) → Q (cUF σ' o 7 (iI (ps v)))) : v_X4_findKnot Q o σ := by
  have hb3 : ∀ c, ab (knr v c) 128000000000000 := by
    have m : ∀ a b c d, a < 6 → b < 6 → c < 6 → d < 6 → ab (lw v a * lw v b - lw v c * lw v d) 128000000000000 := fun a b c d ha hb' hc hd => ab_le (ab_sub (ab_mul (hb a ha) (hb b hb')) (ab_mul (hb c hc) (hb d hd))) (by decide)
    intro c
    unfold knr
    match c with
    | 0 => exact m _ _ _ _ (by decide) (by decide) (by decide) (by decide)
    | 1 => exact m _ _ _ _ (by decide) (by decide) (by decide) (by decide)
    | 2 => exact m _ _ _ _ (by decide) (by decide) (by decide) (by decide)
    | _ + 3 => exact ab_0
  unfold v_X4_findKnot
  refine loopU (N := 3) (F := v_X4_findKnot_2 Q o) (I := fun c s => chg (fun x => x = 11 ∨ x = 12) σ s ∧ ∀ k, k < c → s.1 11 k = iL (lw v (2 * k)) ∧ s.1 12 k = iL (lw v (2 * k + 1))) (by decide) ?_ ?_ σ ⟨chg_rf, fun k hk => by omega⟩
  · intro n c s hc ⟨hI, hz⟩ go
    unfold v_X4_findKnot_2
    have hv3 := vp_in_nI hc (show 3 < 2 ^ 31 by decide)
    have w0 := vp_in_nI (show 2 * c < 6 by omega) (show 6 < 2 ^ 31 by decide)
    have w1 := vp_in_nI (show 2 * c + 1 < 6 by omega) (show 6 < 2 ^ 31 by decide)
    rw [h3, show (2 : Int32) = nI 2 from rfl, pk_mul, nI_1, nI_clamp (show 2 * c < 2 ^ 31 by omega), nI_clamp (show c < 2 ^ 31 by omega), nI_clamp (show 2 * c + 1 < 2 ^ 31 by omega)]
    refine ⟨fun q => absurd q (nI_ge (b := 3) hc (by decide)), fun _ => ⟨w0, hv3, nmB_iff.mpr ⟨w1, hv3, nmB_iff.mpr (nmB_iff.mpr ?_)⟩⟩⟩
    rw [nI_1]
    refine go _ ⟨chg_t2 (chg_t2 hI (chg_J (Or.inl rfl))) (chg_J (Or.inr rfl)), fun k hk => ?_⟩
    rw [cUJ_ne (show (11 : Nat) ≠ 12 by decide), cUJ_at, cUJ_at, cUJ_ne (show (12 : Nat) ≠ 11 by decide), cUJ_ne (show o + 3 ≠ 11 by omega), hI.1 (o + 3) (by omega)]
    rcases Nat.lt_or_ge k c with q | q
    · rw [updL_ne (by omega), updL_ne (by omega)]; exact hz k q
    · have : k = c := by omega
      subst this
      rw [updL_at, updL_at]; exact ⟨hw _ (by omega), hw _ (by omega)⟩
  · intro n s ⟨hI, hz⟩
    unfold v_X4_findKnot_2
    refine ⟨fun _ => ?_, fun q => absurd (by decide) q⟩
    refine sp_crossC (a := fun w => lw v (2 * w)) (b := fun w => lw v (2 * w + 1)) (fun c hc => (hz c hc).1) (fun c hc => (hz c hc).2) (fun σ' hs' hr' => ?_)
    rw [c0, c3, c1, c2, h4]
    refine ⟨⟨by decide, by decide, by decide, by decide, by decide⟩, nmB_iff.mpr ?_⟩
    have hrow : rowIs ((cUR σ' (o + 4) (va_cpy (σ'.1 13) (σ'.1 (o + 4)) 0 0 3)).1 (o + 4)) 3 (knr v) := by
      intro i hi
      refine ⟨?_, ab_r (hb3 i)⟩
      rw [cUR_at, pk_cpy_in (by omega) (by omega), show 0 + (i - 0) = i by omega]
      exact hr' i hi
    refine sp_tidyL (N := 3) h4 (by decide) hrow ?_
    have g : chg (fun a => sc5 a ∨ a = o + 4) σ (goneC (cUR σ' (o + 4) (va_cpy (σ'.1 13) (σ'.1 (o + 4)) 0 0 3)) (o + 4) 3 (fun k => iL (tidyN (knr v) 3 (lst0 (knr v) 3 3) k))) := chg_w (chg_tr (chg_tr (chg_tr hI hs') (chg_R (P := fun x => x = o + 4) rfl)) (chg_R (P := fun x => x = o + 4) rfl)) (fun x hx => by unfold sc5; omega)
    have e : ∀ c, c < 3 → (goneC (cUR σ' (o + 4) (va_cpy (σ'.1 13) (σ'.1 (o + 4)) 0 0 3)) (o + 4) 3 (fun k => iL (tidyN (knr v) 3 (lst0 (knr v) 3 3) k))).1 (o + 4) c = iL (kn v c) := fun c hc => goneC_v hc
    have q15 : kn3 (goneC (cUR σ' (o + 4) (va_cpy (σ'.1 13) (σ'.1 (o + 4)) 0 0 3)) (o + 4) 3 (fun k => iL (tidyN (knr v) 3 (lst0 (knr v) 3 3) k))) v := fun c hc => by
      unfold goneC
      rw [cUR_ne (by omega), cUR_ne (by omega), hs'.1 15 (by decide), hI.1 15 (by decide)]
      exact hq c hc
    revert g e q15
    generalize goneC (cUR σ' (o + 4) (va_cpy (σ'.1 13) (σ'.1 (o + 4)) 0 0 3)) (o + 4) 3 (fun k => iL (tidyN (knr v) 3 (lst0 (knr v) 3 3) k)) = s2
    intro g e q15
    refine ⟨vp_in_nI (n := 1) (N := 3) (by decide) (by decide), vp_in_nI (n := 1) (N := 3) (by decide) (by decide), vp_in_nI (n := 0) (N := 3) (by decide) (by decide), vp_in_nI (n := 2) (N := 3) (by decide) (by decide), ?_⟩
    rw [q15 0 (by decide), q15 1 (by decide), q15 2 (by decide), show (4 : Int64) = iL 4 from rfl, iL_mul, iL_mul, iL_mul, iL_sub]
    have hd : ab (kqn v 1 * kqn v 1 - 4 * kqn v 0 * kqn v 2) 10000000000000000 := ab_le (ab_sub (ab_mul (kqn_ab hs 1) (kqn_ab hs 1)) (ab_mul (ab_mul (a := 4) (A := 4) (by unfold ab; decide) (kqn_ab hs 0)) (kqn_ab hs 2))) (by decide)
    refine sp_sign (ab_r hd) (nmB_iff.mpr ?_)
    rw [show (1 : Int32) = iI 1 from rfl, iI_add]
    exact h s2 g e
/-- rows of longs that P names and the fields of o may be other -/
def chF (P : Nat → Prop) (o : Nat) (σ σ' : cS) : Prop := (∀ a, ¬ P a → σ'.1 a = σ.1 a) ∧ σ'.2.1 = σ.2.1 ∧ (∀ b, b ≠ o → σ'.2.2.1 b = σ.2.2.1 b) ∧ σ'.2.2.2 = σ.2.2.2
theorem chF_of {P : Nat → Prop} {o : Nat} {σ σ' : cS} (h : chg P σ σ') : chF P o σ σ' := ⟨h.1, by rw [h.2], fun b _ => by rw [h.2], by rw [h.2]⟩
theorem chF_F {P : Nat → Prop} {o k : Nat} {x : Int32} {σ : cS} : chF P o σ (cUF σ o k x) := ⟨fun _ _ => rfl, rfl, fun _ hb => cUF_ne hb, rfl⟩
theorem chF_t {P : Nat → Prop} {o : Nat} {a b c : cS} (h : chF P o a b) (g : chF P o b c) : chF P o a c := ⟨fun x hx => by rw [g.1 x hx, h.1 x hx], by rw [g.2.1, h.2.1], fun x hx => by rw [g.2.2.1 x hx, h.2.2.1 x hx], by rw [g.2.2.2, h.2.2.2]⟩
theorem chF_w {P R : Nat → Prop} {o : Nat} {a b : cS} (h : chF P o a b) (hp : ∀ x, P x → R x) : chF R o a b := ⟨fun x hx => h.1 x (fun z => hx (hp x z)), h.2⟩
/-- what settling a LINE changes -/
def scL (o a : Nat) : Prop := (10 ≤ a ∧ a ≤ 15) ∨ (o + 1 ≤ a ∧ a ≤ o + 4)
theorem sp_learn {Q : cS → Prop} {o : Nat} {σ : cS} {v : Nat → Int} (hl : cLen (o + 1) = 12 ∧ cLen (o + 2) = 10 ∧ cLen (o + 3) = 6 ∧ cLen (o + 4) = 3) (ho : 16 ≤ o) (hs : sm9 v) (hv : numV σ o v) (hb : kd v = 3 → ∀ c, c < 6 → ab (lw v c) 8000000) (h : ∀ σ', chF (fun a => scL o a ∧ a ≠ o + 1) o σ σ' → σ'.2.2.1 o 4 = σ.2.2.1 o 4 → known σ' o v → Q σ') : v_X4_learn Q o σ := by
  unfold v_X4_learn v_X4_learn_57
  refine sp_degC hv hs (nmB_iff.mpr ?_)
  have hv1 : numV (cUF σ o 5 (nI (dg v))) o v := hv
  have k1 : chF (fun a => scL o a ∧ a ≠ o + 1) o σ (cUF σ o 5 (nI (dg v))) := chF_F
  have f1 : (cUF σ o 5 (nI (dg v))).2.2.1 o = upd (σ.2.2.1 o) 5 (nI (dg v)) := cUF_at
  revert hv1 k1 f1
  generalize cUF σ o 5 (nI (dg v)) = s1
  intro hv1 k1 f1
  refine sp_findForms hv1 (fun s2 g2 e8 => ?_)
  have hv2 := numV_chg hv1 g2 (by unfold sc4; omega)
  refine sp_findRelation hv2 e8 (fun s3 g3 er => ?_)
  have hv3 := numV_chg hv2 g3 (by omega)
  have e83 := forms8_chg e8 g3 (by decide)
  have f3 : s3.2.2.1 o = upd (σ.2.2.1 o) 5 (nI (dg v)) := by rw [g3.2, g2.2]; exact f1
  have k3 := chF_t k1 (chF_t (chF_w (chF_of g2) (fun x hx => ⟨Or.inl (by unfold sc4 at hx; omega), by unfold sc4 at hx; omega⟩)) (chF_w (chF_of g3) (fun x hx => ⟨Or.inl (by omega), by omega⟩)))
  rw [f3, upd_at]
  refine sp_kindC hs er (nmB_iff.mpr ?_)
  have hv4 : numV (cUF s3 o 6 (nI (kd v))) o v := hv3
  have e84 : forms8 (cUF s3 o 6 (nI (kd v))) v := e83
  have er4 : rel4 (cUF s3 o 6 (nI (kd v))) v := er
  have k4 := chF_t k3 (chF_F (P := fun a => scL o a ∧ a ≠ o + 1) (o := o) (k := 6) (x := nI (kd v)) (σ := s3))
  have f4 : (cUF s3 o 6 (nI (kd v))).2.2.1 o = upd (upd (σ.2.2.1 o) 5 (nI (dg v))) 6 (nI (kd v)) := by rw [cUF_at, f3]
  revert hv4 e84 er4 k4 f4
  generalize cUF s3 o 6 (nI (kd v)) = s4
  intro hv4 e84 er4 k4 f4
  refine sp_findEqC hl.2.1 (by omega) hs e84 (by rw [f4, upd_at]) (fun s5 g5 eq5 => ?_)
  have hv5 := numV_chg hv4 g5 (by omega)
  have er5 : rel4 s5 v := fun c hc => by rw [g5.1 14 (by omega)]; exact er4 c hc
  have f5 : s5.2.2.1 o = upd (upd (σ.2.2.1 o) 5 (nI (dg v))) 6 (nI (kd v)) := by rw [g5.2]; exact f4
  have k5 := chF_t k4 (chF_w (chF_of g5) (fun x hx => ⟨Or.inr (by omega), by omega⟩))
  have hd := dg_le v
  have hk3 := kd_le v
  rw [f5, upd_at]
  refine ⟨fun q => ?_, fun q => ?_⟩
  · refine h s5 k5 (by rw [f5, upd_ne (by decide), upd_ne (by decide)]) ⟨hv5.2.2, by rw [f5, upd_ne (by decide), upd_at], by rw [f5, upd_at], eq5, fun z => absurd (by rw [z]; rfl) q⟩
  · have h3 : kd v = 3 := (nI_eq (b := 3) (by omega) (by decide)).mp q
    have hr : fst0 (relv v) 4 < 4 := by
      rcases fst0_facts (relv v) 4 with ⟨_, b⟩ | ⟨a, _, _⟩
      · exfalso
        unfold kd at h3
        rw [if_pos (c := relv v 0 = 0 ∧ relv v 1 = 0 ∧ relv v 2 = 0 ∧ relv v 3 = 0) ⟨b 0 (by decide), b 1 (by decide), b 2 (by decide), b 3 (by decide)⟩] at h3
        split at h3 <;> omega
      · exact a
    refine sp_knotted hs er5 (fun s6 g6 e6 => ?_)
    have hv6 := numV_chg hv5 g6 (by unfold sc5; omega)
    have er6 : rel4 s6 v := fun c hc => by rw [g6.1 14 (by unfold sc5; omega)]; exact er5 c hc
    refine sp_findLawC hl.2.2.1 hs hv6 er6 e6 hr (fun s7 g7 e7 => ?_)
    have e67 : kn3 s7 v := fun c hc => by rw [g7.1 15 (by unfold sc4; omega)]; exact e6 c hc
    refine sp_findKnotC hl.2.2.1 hl.2.2.2 ho hs e7 (hb h3) e67 (fun s8 g8 e8 => ?_)
    have k8 := chF_t (chF_t (chF_t k5 (chF_w (chF_of g6) (fun x hx => ⟨Or.inl (by unfold sc5 at hx; omega), by unfold sc5 at hx; omega⟩))) (chF_w (chF_of g7) (fun x hx => ⟨by unfold sc4 at hx; unfold scL; omega, by unfold sc4 at hx; omega⟩))) (chF_w (chF_of g8) (fun x hx => ⟨by unfold sc5 at hx; unfold scL; omega, by unfold sc5 at hx; omega⟩))
    have f8 : s8.2.2.1 o = upd (upd (σ.2.2.1 o) 5 (nI (dg v))) 6 (nI (kd v)) := by rw [g8.2, g7.2, g6.2]; exact f5
    refine h _ (chF_t k8 chF_F) ?_ ⟨fun i hi => ?_, ?_, ?_, fun i hi => ?_, fun _ => ⟨fun i hi => ?_, fun i hi => ?_, ?_⟩⟩
    · rw [cUF_at, f8, upd_ne (by decide), upd_ne (by decide), upd_ne (by decide)]
    · show s8.1 (o + 1) i = _
      rw [g8.1 (o + 1) (by unfold sc5; omega), g7.1 (o + 1) (by unfold sc4; omega)]
      exact hv6.2.2 i hi
    · rw [cUF_at, f8, upd_ne (by decide), upd_ne (by decide), upd_at]
    · rw [cUF_at, f8, upd_ne (by decide), upd_at]
    · show s8.1 (o + 2) i = _
      rw [g8.1 (o + 2) (by unfold sc5; omega), g7.1 (o + 2) (by unfold sc4; omega), g6.1 (o + 2) (by unfold sc5; omega)]
      exact eq5 i hi
    · show s8.1 (o + 3) i = _
      rw [g8.1 (o + 3) (by unfold sc5; omega)]
      exact e7 i hi
    · show s8.1 (o + 4) i = _
      exact e8 i hi
    · rw [cUF_at, upd_at]
theorem sp_settle {Q : Int32 → cS → Prop} {j : Nat} {σ : cS} {v : Nat → Int} (hj : j < 4) (hs : sm9 v) (hv : ∀ i, i < 12 → σ.1 16 i = iL (v i)) (hb : kd v = 3 → ∀ c, c < 6 → ab (lw v c) 8000000) (h : ∀ σ', chF (scL (19 + 5 * j)) (19 + 5 * j) σ σ' → σ'.2.2.1 (19 + 5 * j) 4 = 1 → known σ' (19 + 5 * j) v → Q (nI (kd v)) σ') : v_X7_settle Q (nI j) σ := by
  unfold v_X7_settle
  have hl := cLenL hj
  refine ⟨vp_in_nI hj (by decide), nmB_iff.mpr ?_⟩
  rw [nI_clamp (show j < 2 ^ 31 by omega)]
  generalize ho : 19 + 5 * j = o at *
  rw [c0, show (12 : Int32).toNatClampNeg = 12 by decide, hl.1]
  refine ⟨⟨by decide, by decide, by decide, by decide, by decide⟩, nmB_iff.mpr (nmB_iff.mpr ?_)⟩
  have g1 : chF (scL o) o σ (cUF (cUR σ (o + 1) (va_cpy (σ.1 16) (σ.1 (o + 1)) 0 0 12)) o 4 (1 : Int32)) := chF_t (chF_of (chg_R (Or.inr (by omega)))) chF_F
  have f1 : (cUF (cUR σ (o + 1) (va_cpy (σ.1 16) (σ.1 (o + 1)) 0 0 12)) o 4 (1 : Int32)).2.2.1 o 4 = 1 := by rw [cUF_at, upd_at]
  have hn : numV (cUF (cUR σ (o + 1) (va_cpy (σ.1 16) (σ.1 (o + 1)) 0 0 12)) o 4 (1 : Int32)) o v := by
    refine ⟨hl.1, by omega, fun i hi => ?_⟩
    show (cUR σ (o + 1) (va_cpy (σ.1 16) (σ.1 (o + 1)) 0 0 12)).1 (o + 1) i = _
    rw [cUR_at, pk_cpy_in (by omega) (by omega), show 0 + (i - 0) = i by omega]
    exact hv i hi
  revert g1 f1 hn
  generalize cUF (cUR σ (o + 1) (va_cpy (σ.1 16) (σ.1 (o + 1)) 0 0 12)) o 4 (1 : Int32) = s1
  intro g1 f1 hn
  refine sp_learn hl (by omega) hs hn hb (fun s2 g2 f2 k2 => ?_)
  rw [k2.2.2.1]
  exact h s2 (chF_t g1 (chF_w g2 (fun x hx => hx.1))) (by rw [f2]; exact f1) k2
