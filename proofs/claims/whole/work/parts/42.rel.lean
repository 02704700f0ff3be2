/-! PURE: the class's forms all, relation, degree, KIND -/
def lf6 (f : Nat) : Nat := match f with | 0 => 1 | 1 => 2 | 2 => 3 | 3 => 2 | 4 => 3 | _ => 3
def rt6 (f : Nat) : Nat := match f with | 0 => 0 | 1 => 0 | 2 => 0 | 3 => 1 | 4 => 1 | _ => 2
theorem tL6 {f : Nat} (h : f < 6) : tLEFT f = nI (lf6 f) ∧ tRIGHT f = nI (rt6 f) ∧ lf6 f < 4 ∧ rt6 f < 4 := by
  rcases (show f = 0 ∨ f = 1 ∨ f = 2 ∨ f = 3 ∨ f = 4 ∨ f = 5 by omega) with rfl | rfl | rfl | rfl | rfl | rfl <;> exact ⟨rfl, rfl, by decide, by decide⟩
/-- all eight forms in the row 10 -/
def forms8 (σ : cS) (v : Nat → Int) : Prop := (∀ f, f < 6 → ∀ c, c < 3 → σ.1 10 (3 * f + c) = iL (fo3 v (lf6 f) (rt6 f) c)) ∧ (∀ c, c < 3 → σ.1 10 (18 + c) = iL (mid3 v c)) ∧ (∀ c, c < 3 → σ.1 10 (21 + c) = iL (one3 c))
theorem lp_forms2 {Q : cS → Prop} {o : Nat} {σ0 : cS} {v : Nat → Int} (h : ∀ σ', chg sc4 σ0 σ' → forms8 σ' v → Q σ') : ∀ (d c n : Nat) (σ : cS), c + d = 3 → d < n → chg sc4 σ0 σ → (∀ f, f < 6 → ∀ c, c < 3 → σ.1 10 (3 * f + c) = iL (fo3 v (lf6 f) (rt6 f) c)) → (∀ k, k < c → σ.1 10 (18 + k) = iL (mid3 v k) ∧ σ.1 10 (21 + k) = iL (one3 k)) → v_X4_findForms_31 Q o n (nI c) σ := by
  intro d
  induction d with
  | zero =>
    intro c n σ hc hn hs hf hz
    obtain ⟨n, rfl⟩ : ∃ m, n = m + 1 := ⟨n - 1, by omega⟩
    have : c = 3 := by omega
    subst this
    unfold v_X4_findForms_31
    exact ⟨fun _ => h σ hs ⟨hf, fun k hk => (hz k hk).1, fun k hk => (hz k hk).2⟩, fun q => absurd (by decide) q⟩
  | succ d ih =>
    intro c n σ hc hn hs hf hz
    obtain ⟨n, rfl⟩ : ∃ m, n = m + 1 := ⟨n - 1, by omega⟩
    unfold v_X4_findForms_31 v_X4_findForms_82
    refine ⟨fun q => absurd q (by rw [show (3 : Int32) = nI 3 from rfl]; exact nI_ge (by omega) (by decide)), fun _ => ?_⟩
    rw [show (6 : Int32) = nI 6 from rfl, show (9 : Int32) = nI 9 from rfl, show (18 : Int32) = nI 18 from rfl, show (21 : Int32) = nI 21 from rfl]
    simp only [nI_add]
    rw [nI_clamp (by omega), nI_clamp (by omega), nI_clamp (by omega), nI_clamp (by omega)]
    have e6 : σ.1 10 (6 + c) = iL (fo3 v 3 0 c) := hf 2 (by decide) c (by omega)
    have e9 : σ.1 10 (9 + c) = iL (fo3 v 2 1 c) := hf 3 (by decide) c (by omega)
    refine ⟨vp_in_nI (show 6 + c < 24 by omega) (by decide), vp_in_nI (show 9 + c < 24 by omega) (by decide), vp_in_nI (show 18 + c < 24 by omega) (by decide), nmB_iff.mpr ?_⟩
    rw [e6, e9, iL_add]
    have go : ∀ x : Int64, x = iL (one3 c) → vp_in (nI (21 + c)) (cLen 10) ∧ nmB (cUJ (cUJ σ 10 (18 + c) (iL (fo3 v 3 0 c + fo3 v 2 1 c))) 10 (21 + c) x) (fun σ101 => nmB (nI c + 1) (fun x2_102 => v_X4_findForms_31 Q o n x2_102 σ101)) := by
      intro x hx
      refine ⟨vp_in_nI (show 21 + c < 24 by omega) (by decide), nmB_iff.mpr (nmB_iff.mpr ?_)⟩
      rw [nI_1]
      refine ih (c + 1) n _ (by omega) (by omega) (chg_t2 (chg_t2 hs (chg_J (by unfold sc4; omega))) (chg_J (by unfold sc4; omega))) (fun f hf6 k hk => ?_) (fun k hk => ?_)
      · rw [cUJ_at, updL_ne (by omega), cUJ_at, updL_ne (by omega)]; exact hf f hf6 k hk
      · rw [cUJ_at, cUJ_at]
        rcases Nat.lt_or_ge k c with q | q
        · rw [updL_ne (by omega), updL_ne (by omega), updL_ne (by omega), updL_ne (by omega)]; exact hz k q
        · have : k = c := by omega
          subst this
          rw [updL_ne (by omega), updL_at, updL_at]
          exact ⟨rfl, hx⟩
    refine ⟨fun q => go _ ?_, fun q => go _ ?_⟩
    · have : c ≠ 2 := fun z => q (by rw [z]; rfl)
      rcases (show c = 0 ∨ c = 1 by omega) with rfl | rfl <;> rfl
    · have : c = 2 := (nI_eq (by omega) (by omega)).mp q
      subst this; rfl
theorem lp_forms1 {Q : cS → Prop} {o : Nat} {σ0 : cS} {v : Nat → Int} (h : ∀ σ', chg sc4 σ0 σ' → forms8 σ' v → Q σ') (hv : numV σ0 o v) : ∀ (d f n : Nat) (σ : cS), f + d = 6 → d < n → chg sc4 σ0 σ → (∀ g, g < f → ∀ c, c < 3 → σ.1 10 (3 * g + c) = iL (fo3 v (lf6 g) (rt6 g) c)) → v_X4_findForms_2 Q o n (nI f) σ := by
  intro d
  induction d with
  | zero =>
    intro f n σ hc hn hs hz
    obtain ⟨n, rfl⟩ : ∃ m, n = m + 1 := ⟨n - 1, by omega⟩
    have : f = 6 := by omega
    subst this
    unfold v_X4_findForms_2
    exact ⟨fun _ => lp_forms2 h 3 0 fuL σ (by omega) (by unfold fuL; omega) hs hz (fun k hk => by omega), fun q => absurd (by decide) q⟩
  | succ d ih =>
    intro f n σ hc hn hs hz
    obtain ⟨n, rfl⟩ : ∃ m, n = m + 1 := ⟨n - 1, by omega⟩
    obtain ⟨t1, t2, t3, t4⟩ := tL6 (show f < 6 by omega)
    unfold v_X4_findForms_2
    have hvf := vp_in_nI (show f < 6 by omega) (show 6 < 2 ^ 31 by decide)
    refine ⟨fun q => absurd q (by rw [show (5 : Int32) = nI 5 from rfl]; exact nI_nlt (by omega) (by decide)), fun _ => ⟨hvf, hvf, ?_⟩⟩
    rw [nI_clamp (by omega), t1, t2]
    have ho := hv.2.1
    refine sp_findForm (by omega) t3 t4 (numV_chg hv hs (by unfold sc4; omega)) (fun σ' hs' e1 e2 => nmB_iff.mpr ?_)
    rw [nI_1]
    refine ih (f + 1) n σ' (by omega) (by omega) (chg_t2 hs hs') (fun g hg c hc3 => ?_)
    rcases Nat.lt_or_ge g f with q | q
    · rw [e2 _ (by omega)]; exact hz g q c hc3
    · have : g = f := by omega
      subst this
      exact e1 c hc3
theorem sp_findForms {Q : cS → Prop} {o : Nat} {σ : cS} {v : Nat → Int} (hv : numV σ o v) (h : ∀ σ', chg sc4 σ σ' → forms8 σ' v → Q σ') : v_X4_findForms Q o σ := by
  unfold v_X4_findForms
  exact lp_forms1 h hv 6 0 fuL σ (by omega) (by unfold fuL; omega) chg_rf (fun g hg => by omega)
theorem sp_combined {Q : Int64 → cS → Prop} {o k : Nat} {σ : cS} {v : Nat → Int} {a b c : Int} (hv : numV σ o v) (hk : k < 4) (h : Q (iL (a * vc v k 0 + b * vc v k 1 + c * vc v k 2)) σ) : v_X0_combined Q o (iL a) (iL b) (iL c) (nI k) σ := by
  unfold v_X0_combined
  refine sp_num (w := 0) hv (by decide) hk (sp_num (w := 1) hv (by decide) hk (sp_num (w := 2) hv (by decide) hk ?_))
  rw [iL_mul, iL_mul, iL_mul, iL_add, iL_add]
  exact h
theorem sp_formAt {Q : Int64 → cS → Prop} {o f k : Nat} {σ : cS} {v : Nat → Int} (hv : numV σ o v) (h8 : forms8 σ v) (hf : f < 6) (hk : k < 4) (h : Q (iL (dot3 (fo3 v (lf6 f) (rt6 f)) (vc v k))) σ) : v_X4_formAt Q (nI f) o (nI k) σ := by
  unfold v_X4_formAt
  rw [show (3 : Int32) = nI 3 from rfl, show (1 : Int32) = nI 1 from rfl, show (2 : Int32) = nI 2 from rfl, pk_mul]
  simp only [nI_add]
  rw [nI_clamp (by omega), nI_clamp (by omega), nI_clamp (by omega)]
  refine ⟨vp_in_nI (show 3 * f < 24 by omega) (by decide), vp_in_nI (show 3 * f + 1 < 24 by omega) (by decide), vp_in_nI (show 3 * f + 2 < 24 by omega) (by decide), ?_⟩
  have e0 := h8.1 f hf 0 (by decide); have e1 := h8.1 f hf 1 (by decide); have e2 := h8.1 f hf 2 (by decide)
  rw [Nat.add_zero] at e0
  rw [e0, e1, e2]
  exact sp_combined hv hk h
theorem forms8_chg {P : Nat → Prop} {σ σ' : cS} {v : Nat → Int} (h : forms8 σ v) (hc : chg P σ σ') (hp : ¬ P 10) : forms8 σ' v := by
  obtain ⟨a, b, c⟩ := h
  exact ⟨fun f hf k hk => by rw [hc.1 10 hp]; exact a f hf k hk, fun k hk => by rw [hc.1 10 hp]; exact b k hk, fun k hk => by rw [hc.1 10 hp]; exact c k hk⟩
def rel4 (σ : cS) (v : Nat → Int) : Prop := ∀ c, c < 4 → σ.1 14 c = iL (relv v c)
theorem sp_findRelation {Q : cS → Prop} {o : Nat} {σ : cS} {v : Nat → Int} (hv : numV σ o v) (h8 : forms8 σ v) (h : ∀ σ', chg (fun x => x = 14) σ σ' → rel4 σ' v → Q σ') : v_X4_findRelation Q o σ := by
  unfold v_X4_findRelation
  have ho := hv.2.1
  have w4 : ∀ k : Nat, k < 4 → vp_in (nI k) (cLen 14) := fun k hk => vp_in_nI (N := 4) hk (by decide)
  have nv : ∀ {σ1 : cS}, chg (fun x => x = 14) σ σ1 → numV σ1 o v ∧ forms8 σ1 v := fun hc => ⟨numV_chg hv hc (by omega), forms8_chg h8 hc (by decide)⟩
  refine sp_formAt (f := 5) (k := 1) hv h8 (by decide) (by decide) ⟨w4 0 (by decide), nmB_iff.mpr ?_⟩
  have g1 : chg (fun x => x = 14) σ (cUJ σ 14 (0 : Int32).toNatClampNeg (iL (dot3 (fo3 v (lf6 5) (rt6 5)) (vc v 1)))) := chg_J rfl
  refine sp_formAt (f := 5) (k := 0) (nv g1).1 (nv g1).2 (by decide) (by decide) ⟨w4 1 (by decide), nmB_iff.mpr ?_⟩
  rw [iL_neg]
  have g2 := chg_t2 g1 (chg_J (i := (1 : Int32).toNatClampNeg) (x := iL (-(dot3 (fo3 v (lf6 5) (rt6 5)) (vc v 0)))) (P := fun x => x = 14) (a := 14) rfl)
  refine sp_formAt (f := 4) (k := 0) (nv g2).1 (nv g2).2 (by decide) (by decide) ⟨w4 2 (by decide), nmB_iff.mpr ?_⟩
  have g3 := chg_t2 g2 (chg_J (i := (2 : Int32).toNatClampNeg) (x := iL (dot3 (fo3 v (lf6 4) (rt6 4)) (vc v 0))) (P := fun x => x = 14) (a := 14) rfl)
  refine sp_formAt (f := 3) (k := 0) (nv g3).1 (nv g3).2 (by decide) (by decide) ⟨w4 3 (by decide), nmB_iff.mpr ?_⟩
  rw [iL_neg, c0, c1, c2, c3]
  refine h _ (chg_t2 (by rw [c0, c1, c2] at g3; exact g3) (chg_J rfl)) (fun c hc => ?_)
  rcases (show c = 0 ∨ c = 1 ∨ c = 2 ∨ c = 3 by omega) with rfl | rfl | rfl | rfl
  · rw [cUJ_at, updL_ne (by decide), cUJ_at, updL_ne (by decide), cUJ_at, updL_ne (by decide), cUJ_at, updL_at]; rfl
  · rw [cUJ_at, updL_ne (by decide), cUJ_at, updL_ne (by decide), cUJ_at, updL_at]; rfl
  · rw [cUJ_at, updL_ne (by decide), cUJ_at, updL_at]; rfl
  · rw [cUJ_at, updL_at]; rfl
