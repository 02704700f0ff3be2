/-! PURE: anew (promise 20): both programs -/
def okAn (z1 z2 z3 z4 : Int32) : Prop := inR z1 (-5) 5 ∧ inR z2 (-5) 5 ∧ inR z3 (-5) 5 ∧ inR z4 (-5) 5 ∧ ¬ z1 * z4 = z2 * z3
theorem anC_in {Q : Int32 → cS → Prop} {z0 z1 z2 z3 z4 : Int32} {σ : cS} (h : okAn z1 z2 z3 z4) (k : v_X7_missing (fun u σ' => ((u = 0 → v_J7_fill_d0a16 (fun σ104 => v_X7_anew_93 Q fuL z0 z1 z2 z3 z4 0 σ104) 16 (0 : Int64) σ') ∧ (¬ u = 0 → Q u σ'))) z0 σ) : v_X7_anew Q z0 z1 z2 z3 z4 σ := by
  unfold v_X7_anew v_X7_anew_47
  exact wi_t (-5) 5 (by decide) (by decide) h.1 ⟨fun q => absurd q (by decide), fun _ => wi_t (-5) 5 (by decide) (by decide) h.2.1 ⟨fun q => absurd q (by decide), fun _ => wi_t (-5) 5 (by decide) (by decide) h.2.2.1 ⟨fun q => absurd q (by decide), fun _ => wi_t (-5) 5 (by decide) (by decide) h.2.2.2.1 ⟨fun q => absurd q (by decide), fun _ => ⟨fun q => absurd q (by decide), fun _ => ⟨fun _ => k, fun q => absurd q h.2.2.2.2⟩⟩⟩⟩⟩⟩
theorem anM_in {Q : Int32 → mS → Prop} {z0 z1 z2 z3 z4 : Int32} {τ : mS} (h : okAn z1 z2 z3 z4) (k : w_against (fun u τ' => w_anew_90 Q z0 z1 z2 z3 z4 u τ') z0 τ) : w_anew Q z0 z1 z2 z3 z4 τ := by
  unfold w_anew w_anew_74
  exact iM_t (-5) 5 (by decide) (by decide) h.1 ⟨fun q => absurd q (by decide), fun _ => iM_t (-5) 5 (by decide) (by decide) h.2.1 ⟨fun q => absurd q (by decide), fun _ => iM_t (-5) 5 (by decide) (by decide) h.2.2.1 ⟨fun q => absurd q (by decide), fun _ => iM_t (-5) 5 (by decide) (by decide) h.2.2.2.1 ⟨fun q => absurd q (by decide), fun _ => ⟨fun q => absurd q h.2.2.2.2, fun _ => ⟨fun _ => k, fun q => absurd q (by decide)⟩⟩⟩⟩⟩⟩
theorem anC_bad {Q : Int32 → cS → Prop} {z0 z1 z2 z3 z4 : Int32} {σ : cS} (h : ¬ okAn z1 z2 z3 z4) (k : Q (-1) σ) : v_X7_anew Q z0 z1 z2 z3 z4 σ := by
  have e : v_X7_anew_46 Q z0 z1 z2 z3 z4 σ := by
    unfold v_X7_anew_46 v_X7_anew_47 v_X7_anew_65
    exact ⟨fun _ => k, fun q => absurd rfl q⟩
  unfold v_X7_anew
  by_cases a1 : inR z1 (-5) 5
  · refine wi_t (-5) 5 (by decide) (by decide) a1 ⟨fun q => absurd q (by decide), fun _ => ?_⟩
    by_cases a2 : inR z2 (-5) 5
    · refine wi_t (-5) 5 (by decide) (by decide) a2 ⟨fun q => absurd q (by decide), fun _ => ?_⟩
      by_cases a3 : inR z3 (-5) 5
      · refine wi_t (-5) 5 (by decide) (by decide) a3 ⟨fun q => absurd q (by decide), fun _ => ?_⟩
        by_cases a4 : inR z4 (-5) 5
        · refine wi_t (-5) 5 (by decide) (by decide) a4 ⟨fun q => absurd q (by decide), fun _ => ?_⟩
          unfold v_X7_anew_47 v_X7_anew_65
          exact ⟨fun q => absurd q (by decide), fun _ => ⟨fun q => absurd ⟨a1, a2, a3, a4, q⟩ h, fun _ => k⟩⟩
        · exact wi_f (-5) 5 (by decide) (by decide) a4 ⟨fun _ => e, fun q => absurd rfl q⟩
      · exact wi_f (-5) 5 (by decide) (by decide) a3 ⟨fun _ => e, fun q => absurd rfl q⟩
    · exact wi_f (-5) 5 (by decide) (by decide) a2 ⟨fun _ => e, fun q => absurd rfl q⟩
  · exact wi_f (-5) 5 (by decide) (by decide) a1 ⟨fun _ => e, fun q => absurd rfl q⟩
theorem anM_bad {Q : Int32 → mS → Prop} {z0 z1 z2 z3 z4 : Int32} {τ : mS} (h : ¬ okAn z1 z2 z3 z4) (k : Q (-1) τ) : w_anew Q z0 z1 z2 z3 z4 τ := by
  have e : w_anew_73 Q z0 z1 z2 z3 z4 τ := by
    unfold w_anew_73 w_anew_74 w_anew_90
    exact ⟨fun q => absurd rfl q, fun _ => ⟨fun q => absurd q (by decide), fun _ => k⟩⟩
  unfold w_anew
  by_cases a1 : inR z1 (-5) 5
  · refine iM_t (-5) 5 (by decide) (by decide) a1 ⟨fun q => absurd q (by decide), fun _ => ?_⟩
    by_cases a2 : inR z2 (-5) 5
    · refine iM_t (-5) 5 (by decide) (by decide) a2 ⟨fun q => absurd q (by decide), fun _ => ?_⟩
      by_cases a3 : inR z3 (-5) 5
      · refine iM_t (-5) 5 (by decide) (by decide) a3 ⟨fun q => absurd q (by decide), fun _ => ?_⟩
        by_cases a4 : inR z4 (-5) 5
        · refine iM_t (-5) 5 (by decide) (by decide) a4 ⟨fun q => absurd q (by decide), fun _ => ?_⟩
          exact ⟨fun _ => e, fun q => absurd ⟨a1, a2, a3, a4, q⟩ h⟩
        · exact iM_f (-5) 5 (by decide) (by decide) a4 ⟨fun _ => e, fun q => absurd rfl q⟩
      · exact iM_f (-5) 5 (by decide) (by decide) a3 ⟨fun _ => e, fun q => absurd rfl q⟩
    · exact iM_f (-5) 5 (by decide) (by decide) a2 ⟨fun _ => e, fun q => absurd rfl q⟩
  · exact iM_f (-5) 5 (by decide) (by decide) a1 ⟨fun _ => e, fun q => absurd rfl q⟩
def r17 (σ : cS) (p : Nat → Int) : Prop := ∀ k, k < 4 → σ.1 17 k = iL (p k)
theorem st_m12 {Q : cS → Prop} {r3 : _} {n k : Nat} {z1 z2 x3 x4 : Int32} {σ : cS} {p : Nat → Int} (hk : k < 3) (h1 : σ.1 17 (k + 1) = iL (p (k + 1))) (h0 : σ.1 17 k = iL (p k)) (nx : v_X7_multiply_12 Q 17 r3 n z1 z2 x3 x4 (nI k) (cUJ σ 17 (k + 1) (iL (mulp p z1.toInt z2.toInt (k + 1))))) : v_X7_multiply_12 Q 17 r3 (n + 1) z1 z2 x3 x4 (nI (k + 1)) σ := by
  unfold v_X7_multiply_12
  have w : ∀ x : Nat, x < 4 → vp_in (nI x) (cLen 17) := fun x hx => vp_in_nI (N := 4) hx (by decide)
  rw [nI_m1, nI_clamp (show k + 1 < 2 ^ 31 by omega), nI_clamp (show k < 2 ^ 31 by omega), h1, h0, i32_iL z1, i32_iL z2, iL_mul, iL_mul, iL_add, pk_m1]
  refine ⟨fun q => absurd q (nI_nle (by omega) (by omega)), fun _ => ⟨w _ (by omega), w _ (by omega), w _ (by omega), nmB_iff.mpr (nmB_iff.mpr ?_)⟩⟩
  unfold mulp at nx
  rw [if_neg (by omega), show k + 1 - 1 = k by omega] at nx
  exact nx
theorem sp_m12 {Q : cS → Prop} {r3 : _} {z1 z2 x3 x4 : Int32} {σ : cS} {p : Nat → Int} (hp : r17 σ p) (nx : ∀ σ', chg (fun a => a = 17) σ σ' → r17 σ' (mulp p z1.toInt z2.toInt) → nmB (x4 + 1) (fun x4_102 => r3 z1 z2 x3 x4_102 σ')) : v_X7_multiply_12 Q 17 r3 fuL z1 z2 x3 x4 3 σ := by
  have h0 := hp 0 (by decide); have h1 := hp 1 (by decide); have h2 := hp 2 (by decide); have h3 := hp 3 (by decide)
  refine st_m12 (n := 999) (k := 2) (p := p) (by decide) h3 h2 ?_
  refine st_m12 (n := 998) (k := 1) (p := p) (by decide) (by rw [cUJ_at, updL_ne (by decide)]; exact h2) (by rw [cUJ_at, updL_ne (by decide)]; exact h1) ?_
  refine st_m12 (n := 997) (k := 0) (p := p) (by decide) (by rw [cUJ_at, updL_ne (by decide), cUJ_at, updL_ne (by decide)]; exact h1) (by rw [cUJ_at, updL_ne (by decide), cUJ_at, updL_ne (by decide)]; exact h0) ?_
  unfold v_X7_multiply_12
  have w0 : vp_in (0 : Int32) (cLen 17) := vp_in_nI (n := 0) (N := 4) (by decide) (by decide)
  have e0 : (cUJ (cUJ (cUJ σ 17 (2 + 1) (iL (mulp p z1.toInt z2.toInt (2 + 1)))) 17 (1 + 1) (iL (mulp p z1.toInt z2.toInt (1 + 1)))) 17 (0 + 1) (iL (mulp p z1.toInt z2.toInt (0 + 1)))).1 17 0 = iL (p 0) := by
    rw [cUJ_at, updL_ne (by decide), cUJ_at, updL_ne (by decide), cUJ_at, updL_ne (by decide)]; exact h0
  rw [c0, e0, i32_iL z2, iL_mul]
  refine ⟨fun _ => ⟨w0, w0, nmB_iff.mpr (nx _ (chg_t2 (chg_t2 (chg_t2 (chg_J rfl) (chg_J rfl)) (chg_J rfl)) (chg_J rfl)) (fun k hk => ?_))⟩, fun q => absurd (by decide) q⟩
  rw [cUJ_at]
  rcases (show k = 0 ∨ k = 1 ∨ k = 2 ∨ k = 3 by omega) with rfl | rfl | rfl | rfl
  · rw [updL_at]; unfold mulp; rw [if_pos rfl, Int.add_zero]
  · rw [updL_ne (by decide), cUJ_at, updL_at]
  · rw [updL_ne (by decide), cUJ_at, updL_ne (by decide), cUJ_at, updL_at]
  · rw [updL_ne (by decide), cUJ_at, updL_ne (by decide), cUJ_at, updL_ne (by decide), cUJ_at, updL_at]
theorem sp_mulC {Q : cS → Prop} {m : Nat} {z1 z2 : Int32} {σ : cS} {p : Nat → Int} (hm : m ≤ 3) (hp : r17 σ p) (go : ∀ σ', chg (fun a => a = 17) σ σ' → r17 σ' (mpw p z1.toInt z2.toInt m) → Q σ') : v_X7_multiply Q 17 z1 z2 (nI m) σ := by
  unfold v_X7_multiply
  refine loopU (N := m) (F := fun n c s => v_X7_multiply_3 Q 17 n z1 z2 (nI m) c s) (I := fun c s => chg (fun a => a = 17) σ s ∧ r17 s (mpw p z1.toInt z2.toInt c)) (by omega) ?_ ?_ σ ⟨chg_rf, hp⟩
  · intro n c s hc ⟨g, r⟩ nx
    show v_X7_multiply_3 Q 17 (n + 1) z1 z2 (nI m) (nI c) s
    unfold v_X7_multiply_3
    refine ⟨fun q => absurd q (nI_ge hc (by omega)), fun _ => sp_m12 r (fun s' g' r' => nmB_iff.mpr ?_)⟩
    rw [nI_1]
    exact nx s' ⟨chg_t2 g g', r'⟩
  · intro n s ⟨g, r⟩
    show v_X7_multiply_3 Q 17 (n + 1) z1 z2 (nI m) (nI m) s
    unfold v_X7_multiply_3
    exact ⟨fun _ => go s g r, fun q => absurd (nI_le (Nat.le_refl _) (by omega)) q⟩
theorem div4I {i : Nat} (hi : i < 12) : nI i / (4 : Int32) = nI (i / 4) ∧ nI i - nI i / (4 : Int32) * (4 : Int32) = nI (i % 4) := by
  rcases (show i = 0 ∨ i = 1 ∨ i = 2 ∨ i = 3 ∨ i = 4 ∨ i = 5 ∨ i = 6 ∨ i = 7 ∨ i = 8 ∨ i = 9 ∨ i = 10 ∨ i = 11 by omega) with rfl | rfl | rfl | rfl | rfl | rfl | rfl | rfl | rfl | rfl | rfl | rfl <;> decide
theorem sp_anC {Q : Int32 → cS → Prop} {j : Nat} {z1 z2 z3 z4 : Int32} {σ : cS} {v : Nat → Int} (hj : j < 4) (hv : numV σ (19 + 5 * j) v) (hf : σ.2.2.1 (19 + 5 * j) 5 = nI (dg v)) (h16 : ∀ i, i < 12 → σ.1 16 i = iL 0) (go : ∀ σ', chg (fun a => a = 16 ∨ a = 17) σ σ' → (∀ i, i < 12 → σ'.1 16 i = iL (anZ v z1.toInt z2.toInt z3.toInt z4.toInt (dg v) i)) → v_X1_lowerNumbers (fun u s => ((u = 0 → Q (-2) s) ∧ (¬ u = 0 → v_X7_settle (fun r s' => Q r s') (nI j) s))) 16 σ') : v_X7_anew_93 Q fuL (nI j) z1 z2 z3 z4 0 σ := by
  have hn := dg_le v
  have nv : ∀ {u : cS}, chg (fun a => a = 16 ∨ a = 17) σ u → numV u (19 + 5 * j) v := fun gu => numV_chg hv gu (by omega)
  have nf : ∀ {u : cS}, chg (fun a => a = 16 ∨ a = 17) σ u → u.2.2.1 (19 + 5 * j) 5 = nI (dg v) := fun gu => by rw [gu.2]; exact hf
  refine loopU (N := dg v + 1) (F := fun n c s => v_X7_anew_93 Q n (nI j) z1 z2 z3 z4 c s) (I := fun c s => chg (fun a => a = 16 ∨ a = 17) σ s ∧ ∀ i, i < 12 → s.1 16 i = iL (anS v z1.toInt z2.toInt z3.toInt z4.toInt (dg v) i c)) (by omega) ?_ ?_ σ ⟨chg_rf, h16⟩
  · intro n c s hc ⟨g, a⟩ nx
    show v_X7_anew_93 Q (n + 1) (nI j) z1 z2 z3 z4 (nI c) s
    unfold v_X7_anew_93
    refine ⟨vp_in_nI hj (by decide), nmB_iff.mpr ?_⟩
    rw [nI_clamp (show j < 2 ^ 31 by omega), nf g]
    refine ⟨fun q => absurd q (nI_nlt (by omega) (by omega)), fun _ => ⟨fun q => absurd q (nI_ge (b := 4) (by omega) (by decide)), fun _ => ?_⟩⟩
    refine sp_fill (N := 4) rfl (by decide) ?_
    have w0 : vp_in (0 : Int32) (cLen 17) := vp_in_nI (n := 0) (N := 4) (by decide) (by decide)
    have g1 : chg (fun a => a = 16 ∨ a = 17) σ (cUJ (goneC s 17 4 (fun _ => 0)) 17 0 (1 : Int64)) := chg_t2 g (chg_t2 (chg_R (Or.inr rfl)) (chg_J (Or.inr rfl)))
    have r1 : r17 (cUJ (goneC s 17 4 (fun _ => 0)) 17 0 (1 : Int64)) one4 := by
      intro k hk
      rw [cUJ_at]
      rcases (show k = 0 ∨ 1 ≤ k by omega) with q | q
      · subst q; rw [updL_at]; rfl
      · rw [updL_ne (by omega), goneC_v hk]
        match k, q with
        | k + 1, _ => rfl
    have k16 : (cUJ (goneC s 17 4 (fun _ => 0)) 17 0 (1 : Int64)).1 16 = s.1 16 := by
      rw [cUJ_ne (by decide)]
      unfold goneC
      rw [cUR_ne (by decide)]
    rw [c0]
    refine ⟨w0, nmB_iff.mpr ?_⟩
    revert g1 r1 k16
    generalize cUJ (goneC s 17 4 (fun _ => 0)) 17 0 (1 : Int64) = s1
    intro g1 r1 k16
    refine sp_mulC (by omega) r1 (fun s2 g2 r2 => ⟨vp_in_nI hj (by decide), nmB_iff.mpr ?_⟩)
    have G2 := chg_t2 g1 (chg_w g2 (fun x hx => Or.inr hx))
    rw [nf G2, nI_sub2 (show c ≤ dg v by omega)]
    refine sp_mulC (by omega) r2 (fun s3 g3 r3 => ?_)
    have G3 := chg_t2 G2 (chg_w g3 (fun x hx => Or.inr hx))
    have e16 : s3.1 16 = s.1 16 := by rw [g3.1 16 (by decide), g2.1 16 (by decide), k16]
    have r3' : r17 s3 (pkk z1.toInt z2.toInt z3.toInt z4.toInt (dg v) c) := r3
    refine loopU (N := 12) (F := fun m i t => v_X7_anew_165 Q (v_X7_anew_93 Q n) m (nI j) z1 z2 z3 z4 (nI c) i t) (I := fun i t => chg (fun a => a = 16) s3 t ∧ ∀ x, x < 12 → t.1 16 x = iL (if x < i then anS v z1.toInt z2.toInt z3.toInt z4.toInt (dg v) x (c + 1) else anS v z1.toInt z2.toInt z3.toInt z4.toInt (dg v) x c)) (by decide) ?_ ?_ s3 ⟨chg_rf, fun x hx => by rw [if_neg (by omega), e16]; exact a x hx⟩
    · intro m i t hi ⟨gt, at'⟩ nx2
      show v_X7_anew_165 Q (v_X7_anew_93 Q n) (m + 1) (nI j) z1 z2 z3 z4 (nI c) (nI i) t
      unfold v_X7_anew_165
      have Gt := chg_t2 G3 (chg_w gt (fun x hx => Or.inl hx))
      rw [(div4I hi).2, (div4I hi).1, nI_clamp (show i < 2 ^ 31 by omega), nI_clamp (show i % 4 < 2 ^ 31 by omega), nI_clamp (show j < 2 ^ 31 by omega), at' i hi, if_neg (by omega), nI_1 i]
      refine ⟨fun q => absurd q (nI_ge (b := 12) hi (by decide)), fun _ => ⟨vp_in_nI (N := 12) hi (by decide), vp_in_nI hj (by decide), nmB_iff.mpr ⟨by decide, ?_⟩⟩⟩
      refine sp_num (nv Gt) (show i / 4 < 3 by omega) (show c < 4 by omega) ⟨by decide, vp_in_nI (N := 4) (by omega) (by decide), vp_in_nI (N := 12) hi (by decide), nmB_iff.mpr (nmB_iff.mpr (nx2 _ ⟨chg_t2 gt (chg_J rfl), fun x hx => ?_⟩))⟩
      rw [cUJ_at, gt.1 17 (by decide), r3' (i % 4) (by omega), iL_mul, iL_add]
      rcases Nat.lt_trichotomy x i with q | q | q
      · rw [updL_ne (by omega), at' x hx, if_pos q, if_pos (by omega)]
      · subst q; rw [updL_at, if_pos (by omega)]; rfl
      · rw [updL_ne (by omega), at' x hx, if_neg (by omega), if_neg (by omega)]
    · intro m t ⟨gt, at'⟩
      show v_X7_anew_165 Q (v_X7_anew_93 Q n) (m + 1) (nI j) z1 z2 z3 z4 (nI c) (nI 12) t
      unfold v_X7_anew_165
      refine ⟨fun _ => nmB_iff.mpr ?_, fun q => absurd (by decide) q⟩
      rw [nI_1]
      refine nx t ⟨chg_t2 G3 (chg_w gt (fun x hx => Or.inl hx)), fun x hx => ?_⟩
      rw [at' x hx, if_pos hx]
  · intro n s ⟨g, a⟩
    show v_X7_anew_93 Q (n + 1) (nI j) z1 z2 z3 z4 (nI (dg v + 1)) s
    unfold v_X7_anew_93 v_X7_anew_219 v_X7_anew_239
    refine ⟨vp_in_nI hj (by decide), nmB_iff.mpr ?_⟩
    rw [nI_clamp (show j < 2 ^ 31 by omega), nf g]
    exact ⟨fun _ => go s g a, fun q => absurd (nI_lt (by omega) (by omega)) q⟩
theorem sp_timesM {Q : mS → Prop} {x y : Int} {σ : mS} {p : Nat → Int} (hp : ∀ i, i < 4 → σ.1 5 i = iL (p i)) (go : ∀ σ', mch (fun a => a = 5) σ σ' → (∀ i, i < 4 → σ'.1 5 i = iL (mulp p x y i)) → Q σ') : w_times_ Q (iL x) (iL y) σ := by
  unfold w_times_
  rw [show (3 : Int32) = nI 4 + (-1) by decide]
  refine loopD (N := 4) (F := fun n c s => w_times__3 Q n (iL x) (iL y) c s) (I := fun c s => mch (fun a => a = 5) σ s ∧ ∀ i, i < 4 → s.1 5 i = iL (if c ≤ i then mulp p x y i else p i)) ?_ ?_ 4 fuL σ (Nat.le_refl _) (by decide) ⟨mch_rf, fun i hi => by rw [if_neg (by omega)]; exact hp i hi⟩
  · intro n c s hc ⟨g, a⟩ nx
    show w_times__3 Q (n + 1) (iL x) (iL y) (nI c) s
    unfold w_times__3 w_times__43
    have w4 := vp_in_nI hc (show 4 < 2 ^ 31 by decide)
    rw [nI_clamp (show c < 2 ^ 31 by omega), a c hc, if_neg (by omega), iL_mul]
    have fin : ∀ z : Int, mulp p x y c = y * p c + z → w_times__3 Q n (iL x) (iL y) (nI c + (-1)) (mUJ s 5 c (iL (y * p c) + iL z)) := by
      intro z hz
      rw [iL_add, ← hz]
      refine nx _ ⟨mch_t g (mch_J rfl), fun i hi => ?_⟩
      rw [mUJ_at]
      rcases Nat.lt_trichotomy i c with q | q | q
      · rw [updL_ne (by omega), a i hi, if_neg (by omega), if_neg (by omega)]
      · subst q; rw [updL_at, if_pos (by omega)]
      · rw [updL_ne (by omega), a i hi, if_pos (by omega), if_pos (by omega)]
    refine ⟨fun q => absurd q (nI_pos (by omega)), fun _ => ⟨w4, fun q => ⟨w4, nmB_iff.mpr (nmB_iff.mpr (fin 0 ?_))⟩, fun q => ?_⟩⟩
    · have : c = 0 := by have := (nI_leI (b := 0) (by omega) (by decide)).mp q; omega
      subst this
      unfold mulp
      rw [if_pos rfl, Int.mul_comm]
    · obtain ⟨c', rfl⟩ : ∃ m, c = m + 1 := by
        rcases Nat.eq_zero_or_pos c with y | y
        · exact absurd (by rw [y]; decide) q
        · exact ⟨c - 1, by omega⟩
      rw [nI_m1, nI_clamp (show c' < 2 ^ 31 by omega), a c' (by omega), if_neg (by omega), iL_mul]
      refine ⟨vp_in_nI (by omega) (by decide), w4, nmB_iff.mpr (nmB_iff.mpr (fin (x * p c') ?_))⟩
      unfold mulp
      rw [if_neg (by omega), show c' + 1 - 1 = c' by omega, Int.mul_comm, Int.mul_comm (p c')]
  · intro n s ⟨g, a⟩
    show w_times__3 Q (n + 1) (iL x) (iL y) (-1) s
    unfold w_times__3
    refine ⟨fun _ => go s g (fun i hi => ?_), fun q => absurd (by decide) q⟩
    rw [a i hi, if_pos (by omega)]
/-- the product as far as it has come -/
def pki (a b c d : Int) (k i : Nat) : Nat → Int := if i ≤ k then mpw one4 a b i else mpw (mpw one4 a b k) c d (i - k)
theorem pki_st (a b c d : Int) (k i : Nat) : pki a b c d k (i + 1) = if i < k then mulp (pki a b c d k i) a b else mulp (pki a b c d k i) c d := by
  unfold pki
  by_cases h : i < k
  · rw [if_pos (show i + 1 ≤ k by omega), if_pos h, if_pos (show i ≤ k by omega)]; rfl
  · rw [if_neg (by omega), if_neg h]
    by_cases h2 : i ≤ k
    · have : i = k := by omega
      subst this
      rw [if_pos (Nat.le_refl _), show i + 1 - i = 1 by omega]; rfl
    · rw [if_neg h2, show i + 1 - k = (i - k) + 1 by omega]; rfl
theorem sp_anM {Q : Int32 → mS → Prop} {j : Nat} {z1 z2 z3 z4 : Int32} {τ : mS} {v : Nat → Int} (hj : j < 4) (hv : ofV τ j v) (go : ∀ τ1, preK τ (anZ v z1.toInt z2.toInt z3.toInt z4.toInt (dg v)) τ1 → w_keep Q (nI j) τ1) : w_anew_90 Q (nI j) z1 z2 z3 z4 0 τ := by
  have hn := dg_le v
  unfold w_anew_90
  refine ⟨fun _ => sp_degreeOf hj (fun i hi => ofV_r hv hi) ?_, fun q => absurd (by decide) q⟩
  refine loopU (N := 12) (F := fun n c s => w_anew_110 Q n (nI j) z1 z2 z3 z4 (nI (dg v)) c s) (I := fun c s => mch (fun a => a = 3) τ s ∧ ∀ i, i < c → s.1 3 i = iL 0) (by decide) ?_ ?_ τ ⟨mch_rf, fun i hi => by omega⟩
  · intro n c s hc ⟨g, a⟩ nx
    show w_anew_110 Q (n + 1) (nI j) z1 z2 z3 z4 (nI (dg v)) (nI c) s
    unfold w_anew_110
    rw [nI_clamp (show c < 2 ^ 31 by omega), nI_1]
    refine ⟨fun q => absurd q (nI_ge (b := 12) hc (by decide)), fun _ => ⟨vp_in_nI hc (by decide), nmB_iff.mpr (nmB_iff.mpr (nx _ ⟨mch_t g (mch_J rfl), fun i hi => ?_⟩))⟩⟩
    rw [mUJ_at]
    rcases Nat.lt_or_ge i c with q | q
    · rw [updL_ne (by omega)]; exact a i q
    · rw [show i = c by omega, updL_at]; rfl
  intro n s0 ⟨g0, a0⟩
  show w_anew_110 Q (n + 1) (nI j) z1 z2 z3 z4 (nI (dg v)) (nI 12) s0
  unfold w_anew_110
  refine ⟨fun _ => ?_, fun q => absurd (by decide) q⟩
  clear n
  have ov : ∀ {u : mS}, mch (fun a => a = 3 ∨ a = 5) τ u → ofV u j v := fun gu => ofV_mch hv gu (by decide)
  refine loopU (N := dg v + 1) (F := fun n c s => w_anew_134 Q n (nI j) z1 z2 z3 z4 (nI (dg v)) c s) (I := fun c s => mch (fun a => a = 3 ∨ a = 5) τ s ∧ ∀ i, i < 12 → s.1 3 i = iL (anS v z1.toInt z2.toInt z3.toInt z4.toInt (dg v) i c)) (by omega) ?_ ?_ s0 ⟨mch_w g0 (fun x hx => Or.inl hx), a0⟩
  · intro n c s hc ⟨g, a⟩ nx
    show w_anew_134 Q (n + 1) (nI j) z1 z2 z3 z4 (nI (dg v)) (nI c) s
    unfold w_anew_134
    refine ⟨fun q => absurd q (nI_nlt (by omega) (by omega)), fun _ => ?_⟩
    -- 1
    refine loopU (N := 4) (F := fun m i t => w_anew_144 Q (w_anew_134 Q n) m (nI j) z1 z2 z3 z4 (nI (dg v)) (nI c) i t) (I := fun i t => mch (fun a => a = 5) s t ∧ ∀ x, x < i → t.1 5 x = iL (one4 x)) (by decide) ?_ ?_ s ⟨mch_rf, fun x hx => by omega⟩
    · intro m i t hi ⟨gt, at'⟩ nx2
      show w_anew_144 Q (w_anew_134 Q n) (m + 1) (nI j) z1 z2 z3 z4 (nI (dg v)) (nI c) (nI i) t
      unfold w_anew_144 w_anew_166
      have w4 := vp_in_nI hi (show 4 < 2 ^ 31 by decide)
      rw [nI_clamp (show i < 2 ^ 31 by omega), nI_1, show (nI i = 0 ↔ i = 0) from nI_eq (b := 0) (by omega) (by decide)]
      have fin : ∀ y : Int64, y = iL (one4 i) → w_anew_144 Q (w_anew_134 Q n) m (nI j) z1 z2 z3 z4 (nI (dg v)) (nI c) (nI (i + 1)) (mUJ t 5 i y) := by
        intro y hy
        refine nx2 _ ⟨mch_t gt (mch_J rfl), fun x hx => ?_⟩
        rw [mUJ_at]
        rcases Nat.lt_or_ge x i with q | q
        · rw [updL_ne (by omega)]; exact at' x q
        · rw [show x = i by omega, updL_at]; exact hy
      refine ⟨fun q => absurd q (nI_ge (b := 4) hi (by decide)), fun _ => ⟨fun q => ⟨w4, nmB_iff.mpr (nmB_iff.mpr (fin _ ?_))⟩, fun q => ⟨w4, nmB_iff.mpr (nmB_iff.mpr (fin _ ?_))⟩⟩⟩
      · match i, q with
        | i + 1, _ => rfl
      · subst q; rfl
    · intro m t ⟨gt, at'⟩
      show w_anew_144 Q (w_anew_134 Q n) (m + 1) (nI j) z1 z2 z3 z4 (nI (dg v)) (nI c) (nI 4) t
      unfold w_anew_144
      refine ⟨fun _ => ?_, fun q => absurd (by decide) q⟩
      -- the powers
      refine loopU (N := dg v) (F := fun m i u => w_anew_176 Q (w_anew_134 Q n) m (nI j) z1 z2 z3 z4 (nI (dg v)) (nI c) i u) (I := fun i u => mch (fun a => a = 5) s u ∧ ∀ x, x < 4 → u.1 5 x = iL (pki z1.toInt z2.toInt z3.toInt z4.toInt c i x)) (by omega) ?_ ?_ t ⟨gt, fun x hx => by rw [at' x hx]; unfold pki; rw [if_pos (by omega)]; rfl⟩
      · intro m i u hi ⟨gu, au⟩ nx2
        show w_anew_176 Q (w_anew_134 Q n) (m + 1) (nI j) z1 z2 z3 z4 (nI (dg v)) (nI c) (nI i) u
        unfold w_anew_176 w_anew_199 w_anew_214
        rw [i32_iL z1, i32_iL z2, i32_iL z3, i32_iL z4, nI_leI (show c < 2 ^ 31 by omega) (show i < 2 ^ 31 by omega), nI_1]
        have st := pki_st z1.toInt z2.toInt z3.toInt z4.toInt c i
        refine ⟨fun q => absurd q (nI_ge hi (by omega)), fun _ => ⟨fun q => ⟨fun _ => sp_timesM au (fun u' g' a' => nmB_iff.mpr (nx2 u' ⟨mch_t gu g', fun x hx => ?_⟩)), fun q2 => absurd q q2⟩, fun q => ⟨fun q2 => absurd q2 q, fun _ => sp_timesM au (fun u' g' a' => nmB_iff.mpr (nx2 u' ⟨mch_t gu g', fun x hx => ?_⟩))⟩⟩⟩
        · rw [st, if_neg (by omega)]; exact a' x hx
        · rw [st, if_pos (by omega)]; exact a' x hx
      · intro m u ⟨gu, au⟩
        show w_anew_176 Q (w_anew_134 Q n) (m + 1) (nI j) z1 z2 z3 z4 (nI (dg v)) (nI c) (nI (dg v)) u
        unfold w_anew_176
        refine ⟨fun _ => ?_, fun q => absurd (nI_le (Nat.le_refl _) (by omega)) q⟩
        have ep : ∀ x, x < 4 → u.1 5 x = iL (pkk z1.toInt z2.toInt z3.toInt z4.toInt (dg v) c x) := by
          intro x hx
          rw [au x hx]
          unfold pki pkk
          by_cases q : dg v ≤ c
          · have : c = dg v := by omega
            rw [if_pos q, this, Nat.sub_self]; rfl
          · rw [if_neg q]
        have Gu : mch (fun a => a = 3 ∨ a = 5) τ u := mch_t g (mch_w gu (fun x hx => Or.inr hx))
        have e3 : u.1 3 = s.1 3 := gu.1 3 (by decide)
        -- the three shares
        have blk : ∀ (y w : Nat) (r : mS), w < 3 → mch (fun a => a = 3) u r → (∀ x, x < 12 → r.1 3 x = iL (if x < 4 * w then anS v z1.toInt z2.toInt z3.toInt z4.toInt (dg v) x (c + 1) else anS v z1.toInt z2.toInt z3.toInt z4.toInt (dg v) x c)) → (∀ r', mch (fun a => a = 3) u r' → (∀ x, x < 12 → r'.1 3 x = iL (if x < 4 * (w + 1) then anS v z1.toInt z2.toInt z3.toInt z4.toInt (dg v) x (c + 1) else anS v z1.toInt z2.toInt z3.toInt z4.toInt (dg v) x c)) → w_anew_226 Q (w_anew_134 Q n) y (nI j) z1 z2 z3 z4 (nI (dg v)) (nI c) (nI (4 * (w + 1))) r') → w_anew_226 Q (w_anew_134 Q n) (y + 1) (nI j) z1 z2 z3 z4 (nI (dg v)) (nI c) (nI (4 * w)) r := by
          intro y w r hw gr ar nx2
          unfold w_anew_226
          refine ⟨fun q => absurd q (nI_ge (b := 12) (by omega) (by decide)), fun _ => ?_⟩
          refine loopU (N := 4) (F := fun m i t => w_anew_236 Q (w_anew_134 Q n) (w_anew_226 Q (w_anew_134 Q n) y) m (nI j) z1 z2 z3 z4 (nI (dg v)) (nI c) (nI (4 * w)) i t) (I := fun i t => mch (fun a => a = 3) u t ∧ ∀ x, x < 12 → t.1 3 x = iL (if x < 4 * w + i then anS v z1.toInt z2.toInt z3.toInt z4.toInt (dg v) x (c + 1) else anS v z1.toInt z2.toInt z3.toInt z4.toInt (dg v) x c)) (by decide) ?_ ?_ r ⟨gr, ar⟩
          · intro m i t hi ⟨gt, at'⟩ nx3
            show w_anew_236 Q (w_anew_134 Q n) (w_anew_226 Q (w_anew_134 Q n) y) (m + 1) (nI j) z1 z2 z3 z4 (nI (dg v)) (nI c) (nI (4 * w)) (nI i) t
            unfold w_anew_236
            have ev : t.1 2 (12 * j + 4 * w + c) = iL (v (4 * w + c)) := by
              rw [gt.1 2 (by decide), show 12 * j + 4 * w + c = 12 * j + (4 * w + c) by omega]
              exact (ov Gu).1 _ (by omega)
            rw [show (12 : Int32) = nI 12 from rfl, pk_mul, nI_add, nI_add, nI_add, nI_clamp (show 4 * w + i < 2 ^ 31 by omega), nI_clamp (show 12 * j + 4 * w + c < 2 ^ 31 by omega), nI_clamp (show i < 2 ^ 31 by omega), at' (4 * w + i) (by omega), if_neg (by omega), ev, gt.1 5 (by decide), ep i hi, iL_mul, iL_add, nI_1]
            refine ⟨fun q => absurd q (nI_ge (b := 4) hi (by decide)), fun _ => ⟨vp_in_nI (by omega) (by decide), vp_in_nI (by omega) (by decide), vp_in_nI hi (by decide), vp_in_nI (by omega) (by decide), nmB_iff.mpr (nmB_iff.mpr (nx3 _ ⟨mch_t gt (mch_J rfl), fun x hx => ?_⟩))⟩⟩
            rw [mUJ_at]
            rcases Nat.lt_trichotomy x (4 * w + i) with q | q | q
            · rw [updL_ne (by omega), at' x hx, if_pos q, if_pos (by omega)]
            · subst q
              rw [updL_at, if_pos (by omega)]
              show _ = iL (anS v z1.toInt z2.toInt z3.toInt z4.toInt (dg v) (4 * w + i) c + v (4 * ((4 * w + i) / 4) + c) * pkk z1.toInt z2.toInt z3.toInt z4.toInt (dg v) c ((4 * w + i) % 4))
              rw [show (4 * w + i) / 4 = w by omega, show (4 * w + i) % 4 = i by omega]
            · rw [updL_ne (by omega), at' x hx, if_neg (by omega), if_neg (by omega)]
          · intro m t ⟨gt, at'⟩
            show w_anew_236 Q (w_anew_134 Q n) (w_anew_226 Q (w_anew_134 Q n) y) (m + 1) (nI j) z1 z2 z3 z4 (nI (dg v)) (nI c) (nI (4 * w)) (nI 4) t
            unfold w_anew_236
            refine ⟨fun _ => nmB_iff.mpr ?_, fun q => absurd (by decide) q⟩
            rw [show nI (4 * w) + 4 = nI (4 * (w + 1)) from nI_add (4 * w) 4]
            exact nx2 t gt at'
        refine blk 999 0 u (by decide) mch_rf (fun x hx => by rw [if_neg (by omega), e3]; exact a x hx) (fun r1 h1 b1 => blk 998 1 r1 (by decide) h1 b1 (fun r2 h2 b2 => blk 997 2 r2 (by decide) h2 b2 (fun r3 h3 b3 => ?_)))
        unfold w_anew_226
        refine ⟨fun _ => nmB_iff.mpr ?_, fun q => absurd (by decide) q⟩
        rw [nI_1]
        refine nx r3 ⟨mch_t Gu (mch_w h3 (fun x hx => Or.inl hx)), fun i hi => ?_⟩
        rw [b3 i hi, if_pos (by omega)]
  · intro n s ⟨g, a⟩
    show w_anew_134 Q (n + 1) (nI j) z1 z2 z3 z4 (nI (dg v)) (nI (dg v + 1)) s
    unfold w_anew_134
    exact ⟨fun _ => go s ⟨a, mch_keep g (by decide)⟩, fun q => absurd (nI_lt (by omega) (by omega)) q⟩
theorem st_anew : ∀ (z0 z1 z2 z3 z4 : Int32) (σ : cS) (τ : mS), Inv σ τ → v_X7_anew (fun r σ1 => w_anew (fun r2 τ1 => r = r2 ∧ Inv σ1 τ1) z0 z1 z2 z3 z4 τ) z0 z1 z2 z3 z4 σ := by
  intro z0 z1 z2 z3 z4 σ τ hI
  by_cases ok : okAn z1 z2 z3 z4
  · refine anC_in ok ?_
    rcases lcases hI z0 with h | ⟨j, hj, rfl, h1, h2⟩ | ⟨j, v, hj, rfl, hV⟩
    · refine mis_b h ⟨fun q => absurd q (by decide), fun _ => anM_in ok (ag_b h ?_)⟩
      unfold w_anew_90
      exact ⟨fun q => absurd q (by decide), fun _ => ⟨rfl, hI⟩⟩
    · refine mis_n hj h1 ⟨fun q => absurd q (by decide), fun _ => anM_in ok (ag_n hj h2 ?_)⟩
      unfold w_anew_90
      exact ⟨fun q => absurd q (by decide), fun _ => ⟨rfl, hI⟩⟩
    · obtain ⟨h1, h2, hp, hm, hk⟩ := id hV
      obtain ⟨k1, k2, k3, k4, k5⟩ := id ok
      have b1 := inR_ab (b := 5) k1; have b2 := inR_ab (b := 5) k2; have b3 := inR_ab (b := 5) k3; have b4 := inR_ab (b := 5) k4
      have hD : z1.toInt * z4.toInt - z2.toInt * z3.toInt ≠ 0 := fun q => k5 ((mulI (A := 5) (by decide) b1 b4 b2 b3).mpr (by omega))
      have hn := dg_le v
      refine mis_y hj h1 ⟨fun _ => ?_, fun q => absurd rfl q⟩
      refine sp_fill (N := 12) rfl (by decide) ?_
      have g0 : chg (fun a => a = 16) σ (goneC σ 16 12 (fun _ => 0)) := chg_R rfl
      have z0' : ∀ i, i < 12 → (goneC σ 16 12 (fun _ => 0)).1 16 i = iL 0 := fun i hi => goneC_v hi
      revert g0 z0'
      generalize goneC σ 16 12 (fun _ => 0) = σ0
      intro g0 z0'
      refine sp_anC hj (numV_chg (isV_num hj hV) g0 (by omega)) (by rw [g0.2]; exact hk.2.1) z0' (fun σ1 g1 row => ?_)
      have hI1 : Inv σ1 τ := Inv_keep (Inv_keep hI (chg_keep g0 (fun a ha => by omega)) mKeep_rf) (chg_keep g1 (fun a ha => by omega)) mKeep_rf
      have hx : ∀ w, w < 3 → ∀ k, k < 4 → ab (v (4 * w + k)) 9 := fun w hw k hk => ab_i.mpr (hp.1 _ (by omega))
      have ez : ∀ w, w < 3 → ∀ i, i < 4 → anZ v z1.toInt z2.toInt z3.toInt z4.toInt (dg v) (4 * w + i) = anP (fun k => v (4 * w + k)) z1.toInt z2.toInt z3.toInt z4.toInt (dg v) i := fun w hw i hi => anZ_P v _ _ _ _ hn hw hi
      have hb : ∀ i, i < 12 → ab (anZ v z1.toInt z2.toInt z3.toInt z4.toInt (dg v) i) 13500 := by
        intro i hi
        have := ez (i / 4) (by omega) (i % 4) (by omega)
        rw [show 4 * (i / 4) + i % 4 = i by omega] at this
        rw [this]
        exact anP_ab (hx _ (by omega)) b1 b2 b3 b4 hn (by omega)
      have hok : okB 13500 12000000 := by unfold okB; decide
      have hR : R33 12000000 (anZ v z1.toInt z2.toInt z3.toInt z4.toInt (dg v)) := by
        intro w w' hw hw' n1 n2 i hi
        have hd3 : dg v = 3 := by
          rcases Nat.lt_or_ge (dg v) 3 with q | q
          · exfalso
            apply n1
            show anZ v z1.toInt z2.toInt z3.toInt z4.toInt (dg v) (4 * w + 3) = 0
            rw [ez w hw 3 (by decide)]
            exact anP_hi hn q (by decide)
          · omega
        refine cl_scale hD (fun k hk => ?_) (fun k _ => anE_ab (x := fun k => v (4 * w + k)) (y := fun k => v (4 * w' + k)) (hx w hw) (hx w' hw') b1 b2 b3 b4 k) i hi
        rw [← anE_st _ _ _ _ _ _ hk]
        refine stp_congr (by decide) (by decide) (fun x hx' => ?_) (fun x hx' => ?_) k hk
        · show anZ v z1.toInt z2.toInt z3.toInt z4.toInt (dg v) (4 * w + x) = _
          rw [ez w hw x hx', hd3]
        · show anZ v z1.toInt z2.toInt z3.toInt z4.toInt (dg v) (4 * w' + x) = _
          rw [ez w' hw' x hx', hd3]
      exact glue_lower (R := fun Q => w_anew Q (nI j) z1 z2 z3 z4 τ) hok hj hI1 row hb hR (an_cop hp hD) (fun Q hQ => anM_in ok (ag_y hj h2 (sp_anM hj (isV_of hV) hQ)))
  · exact anC_bad ok (anM_bad ok ⟨rfl, hI⟩)
