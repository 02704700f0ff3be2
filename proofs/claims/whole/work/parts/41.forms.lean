/-! PURE: the class's forms and the relation among the four vectors -/
/-- only rows of longs that P names are other -/
def chg (P : Nat → Prop) (σ σ' : cS) : Prop := (∀ a, ¬ P a → σ'.1 a = σ.1 a) ∧ σ'.2 = σ.2
theorem chg_rf {P : Nat → Prop} {σ : cS} : chg P σ σ := ⟨fun _ _ => rfl, rfl⟩
theorem chg_tr {P R : Nat → Prop} {a b c : cS} (h : chg P a b) (g : chg R b c) : chg (fun x => P x ∨ R x) a c := ⟨fun x hx => by rw [g.1 x (fun z => hx (Or.inr z)), h.1 x (fun z => hx (Or.inl z))], by rw [g.2, h.2]⟩
theorem chg_w {P R : Nat → Prop} {a b : cS} (h : chg P a b) (hp : ∀ x, P x → R x) : chg R a b := ⟨fun x hx => h.1 x (fun z => hx (hp x z)), h.2⟩
theorem chg_t2 {P : Nat → Prop} {a b c : cS} (h : chg P a b) (g : chg P b c) : chg P a c := chg_w (chg_tr h g) (fun _ z => z.elim id id)
theorem chg_J {P : Nat → Prop} {σ : cS} {a i : Nat} {x : Int64} (h : P a) : chg P σ (cUJ σ a i x) := ⟨fun b hb => cUJ_ne (fun z => hb (z ▸ h)), rfl⟩
theorem chg_R {P : Nat → Prop} {σ : cS} {a : Nat} {f : Nat → Int64} (h : P a) : chg P σ (cUR σ a f) := ⟨fun b hb => cUR_ne (fun z => hb (z ▸ h)), rfl⟩
/-- what the Study works with -/
def sc4 (a : Nat) : Prop := 10 ≤ a ∧ a ≤ 13
def row3 (σ : cS) (r : Nat) (a : Nat → Int) : Prop := ∀ c, c < 3 → σ.1 r c = iL (a c)
theorem vi3_0 : vp_in (0 : Int32) (cLen 11) := vp_in_nI (n := 0) (N := 3) (by decide) (by decide)
theorem vi3_1 : vp_in (1 : Int32) (cLen 11) := vp_in_nI (n := 1) (N := 3) (by decide) (by decide)
theorem vi3_2 : vp_in (2 : Int32) (cLen 11) := vp_in_nI (n := 2) (N := 3) (by decide) (by decide)
theorem sp_crossC {Q : cS → Prop} {σ : cS} {a b : Nat → Int} (ha : row3 σ 11 a) (hb : row3 σ 12 b) (h : ∀ σ', chg (fun x => x = 13) σ σ' → row3 σ' 13 (crx a b) → Q σ') : v_X4_cross Q σ := by
  unfold v_X4_cross
  rw [c0, c1, c2]
  have a0 := ha 0 (by decide); have a1 := ha 1 (by decide); have a2 := ha 2 (by decide)
  have b0 := hb 0 (by decide); have b1 := hb 1 (by decide); have b2 := hb 2 (by decide)
  refine ⟨vi3_1, vi3_2, vi3_2, vi3_1, vi3_0, nmB_iff.mpr ⟨vi3_2, vi3_0, vi3_0, vi3_2, vi3_1, nmB_iff.mpr ⟨vi3_0, vi3_1, vi3_1, vi3_0, vi3_2, nmB_iff.mpr ?_⟩⟩⟩
  refine h _ (chg_t2 (chg_t2 (chg_J rfl) (chg_J rfl)) (chg_J rfl)) (fun c hc => ?_)
  rcases (show c = 0 ∨ c = 1 ∨ c = 2 by omega) with rfl | rfl | rfl
  · rw [cUJ_at, updL_ne (by decide), cUJ_at, updL_ne (by decide), cUJ_at, updL_at, a1, a2, b1, b2, iL_mul, iL_mul, iL_sub]; rfl
  · rw [cUJ_at, updL_ne (by decide), cUJ_at, updL_at, cUJ_ne (by decide), cUJ_ne (by decide), a2, a0, b0, b2, iL_mul, iL_mul, iL_sub]; rfl
  · rw [cUJ_at, updL_at, cUJ_ne (by decide), cUJ_ne (by decide), cUJ_ne (by decide), cUJ_ne (by decide), a0, a1, b0, b1, iL_mul, iL_mul, iL_sub]; rfl
/-- the numbers of a Line -/
def numV (σ : cS) (o : Nat) (v : Nat → Int) : Prop := cLen (o + 1) = 12 ∧ 14 ≤ o ∧ ∀ i, i < 12 → σ.1 (o + 1) i = iL (v i)
theorem numV_chg {P : Nat → Prop} {σ σ' : cS} {o : Nat} {v : Nat → Int} (h : numV σ o v) (hc : chg P σ σ') (hp : ¬ P (o + 1)) : numV σ' o v := ⟨h.1, h.2.1, fun i hi => by rw [hc.1 _ hp]; exact h.2.2 i hi⟩
theorem sp_num {Q : Int64 → cS → Prop} {o w k : Nat} {σ : cS} {v : Nat → Int} (hv : numV σ o v) (hw : w < 3) (hk : k < 4) (h : Q (iL (vc v k w)) σ) : v_X0_number Q o (nI w) (nI k) σ := by
  refine sp_number hv.1 hw hk ?_
  rw [hv.2.2 _ (by omega)]
  exact h
theorem lp_findForm {Q : cS → Prop} {o f i j : Nat} {σ0 : cS} {v : Nat → Int} (hf : f < 8) (hi : i < 4) (hj : j < 4) (h : ∀ σ', chg sc4 σ0 σ' → (∀ c, c < 3 → σ'.1 10 (3 * f + c) = iL (fo3 v i j c)) → (∀ k, (k < 3 * f ∨ 3 * f + 3 ≤ k) → σ'.1 10 k = σ0.1 10 k) → Q σ') : ∀ (d c n : Nat) (σ : cS), c + d = 3 → d < n → numV σ o v → chg (fun x => x = 11 ∨ x = 12) σ0 σ → (∀ k, k < c → σ.1 11 k = iL (vc v i k) ∧ σ.1 12 k = iL (vc v j k)) → v_X4_findForm_3 Q o n (nI f) (nI i) (nI j) (nI c) σ := by
  intro d
  induction d with
  | zero =>
    intro c n σ hc hn hv hs hz
    obtain ⟨n, rfl⟩ : ∃ m, n = m + 1 := ⟨n - 1, by omega⟩
    have : c = 3 := by omega
    subst this
    unfold v_X4_findForm_3
    refine ⟨fun _ => ?_, fun q => absurd (by decide) q⟩
    refine sp_crossC (a := vc v i) (b := vc v j) (fun c hc => (hz c hc).1) (fun c hc => (hz c hc).2) (fun σ' hs' hr => ?_)
    rw [show (3 : Int32) = nI 3 from rfl, pk_mul, nI_clamp (show 3 * f < 2 ^ 31 by omega), c0, nI_clamp (show 3 < 2 ^ 31 by decide)]
    refine ⟨⟨by decide, nI_pos (by omega), by decide, by decide, by show 3 * f + 3 ≤ 24; omega⟩, nmB_iff.mpr (h _ ?_ (fun c hc => ?_) (fun k hk => ?_))⟩
    · exact chg_w (chg_tr (chg_tr hs hs') (chg_R (P := fun x => x = 10) rfl)) (fun x hx => by unfold sc4; omega)
    · rw [cUR_at, pk_cpy_in (by omega) (by omega), show 0 + (3 * f + c - 3 * f) = c by omega]
      exact hr c hc
    · rw [cUR_at, pk_cpy_out (by omega), hs'.1 10 (by decide), hs.1 10 (by decide)]
  | succ d ih =>
    intro c n σ hc hn hv hs hz
    obtain ⟨n, rfl⟩ : ∃ m, n = m + 1 := ⟨n - 1, by omega⟩
    unfold v_X4_findForm_3
    refine ⟨fun q => absurd q (by rw [show (3 : Int32) = nI 3 from rfl]; exact nI_ge (by omega) (by decide)), fun _ => ?_⟩
    have hvc := vp_in_nI (show c < 3 by omega) (show 3 < 2 ^ 31 by decide)
    refine sp_num hv (by omega) hi ⟨hvc, nmB_iff.mpr ?_⟩
    rw [nI_clamp (by omega)]
    have ho := hv.2.1
    refine sp_num (v := v) (numV_chg hv (chg_J (P := fun x => x = 11) rfl) (by omega)) (by omega) hj ⟨hvc, nmB_iff.mpr (nmB_iff.mpr ?_)⟩
    rw [nI_1]
    refine ih (c + 1) n _ (by omega) (by omega) (numV_chg (numV_chg hv (chg_J (P := fun x => x = 11) rfl) (by omega)) (chg_J (P := fun x => x = 12) rfl) (by omega)) (chg_t2 (chg_t2 hs (chg_J (Or.inl rfl))) (chg_J (Or.inr rfl))) (fun k hk => ?_)
    rw [cUJ_ne (show (11 : Nat) ≠ 12 by decide), cUJ_at, cUJ_at, cUJ_ne (show (12 : Nat) ≠ 11 by decide)]
    rcases Nat.lt_or_ge k c with q | q
    · rw [updL_ne (by omega), updL_ne (by omega)]; exact hz k q
    · have : k = c := by omega
      subst this
      rw [updL_at, updL_at]; exact ⟨rfl, rfl⟩
theorem sp_findForm {Q : cS → Prop} {o f i j : Nat} {σ : cS} {v : Nat → Int} (hf : f < 8) (hi : i < 4) (hj : j < 4) (hv : numV σ o v) (h : ∀ σ', chg sc4 σ σ' → (∀ c, c < 3 → σ'.1 10 (3 * f + c) = iL (fo3 v i j c)) → (∀ k, (k < 3 * f ∨ 3 * f + 3 ≤ k) → σ'.1 10 k = σ.1 10 k) → Q σ') : v_X4_findForm Q o (nI f) (nI i) (nI j) σ := by
  unfold v_X4_findForm
  exact lp_findForm hf hi hj h 3 0 fuL σ (by omega) (by unfold fuL; omega) hv chg_rf (fun k hk => by omega)
