/-! PURE: move (promise 21) -/
theorem iI_self (x : Int32) : iI x.toInt = x := Int32.ofInt_toInt x
theorem mulI {x y u v : Int32} {A : Nat} (hA : A ≤ 20) (hx : ab x.toInt A) (hy : ab y.toInt A) (hu : ab u.toInt A) (hv : ab v.toInt A) : x * y = u * v ↔ x.toInt * y.toInt = u.toInt * v.toInt := by
  have m : ∀ {a b : Int}, ab a A → ab b A → r31 (a * b) := fun ha hb => by
    have := ab_i.mp (ab_le (ab_mul ha hb) (Nat.mul_le_mul hA hA))
    unfold r31
    omega
  rw [← iI_eq (m hx hy) (m hu hv), ← iI_mul, ← iI_mul, iI_self, iI_self, iI_self, iI_self]
def okMv (z1 z2 z3 z4 z5 z6 : Int32) : Prop := inR z1 (-9) 9 ∧ inR z2 (-9) 9 ∧ inR z3 (-9) 9 ∧ inR z4 (-9) 9 ∧ inR z5 (-9) 9 ∧ inR z6 (-9) 9 ∧ ¬ z1 * z4 = z2 * z3
theorem moC_in {Q : Int32 → cS → Prop} {z0 z1 z2 z3 z4 z5 z6 : Int32} {σ : cS} (h : okMv z1 z2 z3 z4 z5 z6) (k : v_X7_missing (fun u σ' => ((u = 0 → v_X7_move_113 Q fuL z0 z1 z2 z3 z4 z5 z6 0 σ') ∧ (¬ u = 0 → Q u σ'))) z0 σ) : v_X7_move Q z0 z1 z2 z3 z4 z5 z6 σ := by
  unfold v_X7_move v_X7_move_75
  exact wi_t (-9) 9 (by decide) (by decide) h.1 ⟨fun q => absurd q (by decide), fun _ => wi_t (-9) 9 (by decide) (by decide) h.2.1 ⟨fun q => absurd q (by decide), fun _ => wi_t (-9) 9 (by decide) (by decide) h.2.2.1 ⟨fun q => absurd q (by decide), fun _ => wi_t (-9) 9 (by decide) (by decide) h.2.2.2.1 ⟨fun q => absurd q (by decide), fun _ => wi_t (-9) 9 (by decide) (by decide) h.2.2.2.2.1 ⟨fun q => absurd q (by decide), fun _ => wi_t (-9) 9 (by decide) (by decide) h.2.2.2.2.2.1 ⟨fun q => absurd q (by decide), fun _ => ⟨fun q => absurd q (by decide), fun _ => ⟨fun _ => k, fun q => absurd q h.2.2.2.2.2.2⟩⟩⟩⟩⟩⟩⟩⟩
theorem moM_in {Q : Int32 → mS → Prop} {z0 z1 z2 z3 z4 z5 z6 : Int32} {τ : mS} (h : okMv z1 z2 z3 z4 z5 z6) (k : w_against (fun u τ' => w_move_120 Q z0 z1 z2 z3 z4 z5 z6 u τ') z0 τ) : w_move Q z0 z1 z2 z3 z4 z5 z6 τ := by
  unfold w_move w_move_104
  exact iM_t (-9) 9 (by decide) (by decide) h.1 ⟨fun q => absurd q (by decide), fun _ => iM_t (-9) 9 (by decide) (by decide) h.2.1 ⟨fun q => absurd q (by decide), fun _ => iM_t (-9) 9 (by decide) (by decide) h.2.2.1 ⟨fun q => absurd q (by decide), fun _ => iM_t (-9) 9 (by decide) (by decide) h.2.2.2.1 ⟨fun q => absurd q (by decide), fun _ => iM_t (-9) 9 (by decide) (by decide) h.2.2.2.2.1 ⟨fun q => absurd q (by decide), fun _ => iM_t (-9) 9 (by decide) (by decide) h.2.2.2.2.2.1 ⟨fun q => absurd q (by decide), fun _ => ⟨fun q => absurd q h.2.2.2.2.2.2, fun _ => ⟨fun _ => k, fun q => absurd q (by decide)⟩⟩⟩⟩⟩⟩⟩⟩
theorem moC_bad {Q : Int32 → cS → Prop} {z0 z1 z2 z3 z4 z5 z6 : Int32} {σ : cS} (h : ¬ okMv z1 z2 z3 z4 z5 z6) (k : Q (-1) σ) : v_X7_move Q z0 z1 z2 z3 z4 z5 z6 σ := by
  have e : v_X7_move_74 Q z0 z1 z2 z3 z4 z5 z6 σ := by
    unfold v_X7_move_74 v_X7_move_75 v_X7_move_93
    exact ⟨fun _ => k, fun q => absurd rfl q⟩
  unfold v_X7_move
  by_cases a1 : inR z1 (-9) 9
  · refine wi_t (-9) 9 (by decide) (by decide) a1 ⟨fun q => absurd q (by decide), fun _ => ?_⟩
    by_cases a2 : inR z2 (-9) 9
    · refine wi_t (-9) 9 (by decide) (by decide) a2 ⟨fun q => absurd q (by decide), fun _ => ?_⟩
      by_cases a3 : inR z3 (-9) 9
      · refine wi_t (-9) 9 (by decide) (by decide) a3 ⟨fun q => absurd q (by decide), fun _ => ?_⟩
        by_cases a4 : inR z4 (-9) 9
        · refine wi_t (-9) 9 (by decide) (by decide) a4 ⟨fun q => absurd q (by decide), fun _ => ?_⟩
          by_cases a5 : inR z5 (-9) 9
          · refine wi_t (-9) 9 (by decide) (by decide) a5 ⟨fun q => absurd q (by decide), fun _ => ?_⟩
            by_cases a6 : inR z6 (-9) 9
            · refine wi_t (-9) 9 (by decide) (by decide) a6 ⟨fun q => absurd q (by decide), fun _ => ?_⟩
              unfold v_X7_move_75 v_X7_move_93
              exact ⟨fun q => absurd q (by decide), fun _ => ⟨fun q => absurd ⟨a1, a2, a3, a4, a5, a6, q⟩ h, fun _ => k⟩⟩
            · exact wi_f (-9) 9 (by decide) (by decide) a6 ⟨fun _ => e, fun q => absurd rfl q⟩
          · exact wi_f (-9) 9 (by decide) (by decide) a5 ⟨fun _ => e, fun q => absurd rfl q⟩
        · exact wi_f (-9) 9 (by decide) (by decide) a4 ⟨fun _ => e, fun q => absurd rfl q⟩
      · exact wi_f (-9) 9 (by decide) (by decide) a3 ⟨fun _ => e, fun q => absurd rfl q⟩
    · exact wi_f (-9) 9 (by decide) (by decide) a2 ⟨fun _ => e, fun q => absurd rfl q⟩
  · exact wi_f (-9) 9 (by decide) (by decide) a1 ⟨fun _ => e, fun q => absurd rfl q⟩
theorem moM_bad {Q : Int32 → mS → Prop} {z0 z1 z2 z3 z4 z5 z6 : Int32} {τ : mS} (h : ¬ okMv z1 z2 z3 z4 z5 z6) (k : Q (-1) τ) : w_move Q z0 z1 z2 z3 z4 z5 z6 τ := by
  have e : w_move_103 Q z0 z1 z2 z3 z4 z5 z6 τ := by
    unfold w_move_103 w_move_104 w_move_120
    exact ⟨fun q => absurd rfl q, fun _ => ⟨fun q => absurd q (by decide), fun _ => k⟩⟩
  unfold w_move
  by_cases a1 : inR z1 (-9) 9
  · refine iM_t (-9) 9 (by decide) (by decide) a1 ⟨fun q => absurd q (by decide), fun _ => ?_⟩
    by_cases a2 : inR z2 (-9) 9
    · refine iM_t (-9) 9 (by decide) (by decide) a2 ⟨fun q => absurd q (by decide), fun _ => ?_⟩
      by_cases a3 : inR z3 (-9) 9
      · refine iM_t (-9) 9 (by decide) (by decide) a3 ⟨fun q => absurd q (by decide), fun _ => ?_⟩
        by_cases a4 : inR z4 (-9) 9
        · refine iM_t (-9) 9 (by decide) (by decide) a4 ⟨fun q => absurd q (by decide), fun _ => ?_⟩
          by_cases a5 : inR z5 (-9) 9
          · refine iM_t (-9) 9 (by decide) (by decide) a5 ⟨fun q => absurd q (by decide), fun _ => ?_⟩
            by_cases a6 : inR z6 (-9) 9
            · refine iM_t (-9) 9 (by decide) (by decide) a6 ⟨fun q => absurd q (by decide), fun _ => ?_⟩
              exact ⟨fun _ => e, fun q => absurd ⟨a1, a2, a3, a4, a5, a6, q⟩ h⟩
            · exact iM_f (-9) 9 (by decide) (by decide) a6 ⟨fun _ => e, fun q => absurd rfl q⟩
          · exact iM_f (-9) 9 (by decide) (by decide) a5 ⟨fun _ => e, fun q => absurd rfl q⟩
        · exact iM_f (-9) 9 (by decide) (by decide) a4 ⟨fun _ => e, fun q => absurd rfl q⟩
      · exact iM_f (-9) 9 (by decide) (by decide) a3 ⟨fun _ => e, fun q => absurd rfl q⟩
    · exact iM_f (-9) 9 (by decide) (by decide) a2 ⟨fun _ => e, fun q => absurd rfl q⟩
  · exact iM_f (-9) 9 (by decide) (by decide) a1 ⟨fun _ => e, fun q => absurd rfl q⟩
/-- the shares moved -/
def mvz (v : Nat → Int) (a b c d e f : Int) : Nat → Int := fun i => if i < 4 then cmb v a b e i else if i < 8 then cmb v c d f (i - 4) else v i
theorem mvz_ab {v : Nat → Int} (hs : sm9 v) {a b c d e f : Int} (ha : ab a 9) (hb : ab b 9) (hc : ab c 9) (hd : ab d 9) (he : ab e 9) (hf : ab f 9) {i : Nat} (hi : i < 12) : ab (mvz v a b c d e f i) 243 := by
  have cb : ∀ {x y z : Int} {k : Nat}, ab x 9 → ab y 9 → ab z 9 → k < 4 → ab (cmb v x y z k) 243 := fun hx hy hz hk => ab_le (ab_add (ab_add (ab_mul hx (vc_ab hs hk (show 0 < 3 by decide))) (ab_mul hy (vc_ab hs hk (show 1 < 3 by decide)))) (ab_mul hz (vc_ab hs hk (show 2 < 3 by decide)))) (by decide)
  unfold mvz
  split
  · exact cb ha hb he (by omega)
  · split
    · exact cb hc hd hf (by omega)
    · exact ab_le (ab_i.mpr (hs i hi)) (by decide)
theorem mvz_e (v : Nat → Int) (a b c d e f t : Int) : e4 (zw (mvz v a b c d e f) 0) t = a * pe v 0 t + b * pe v 1 t + e * pe v 2 t ∧ e4 (zw (mvz v a b c d e f) 1) t = c * pe v 0 t + d * pe v 1 t + f * pe v 2 t ∧ e4 (zw (mvz v a b c d e f) 2) t = pe v 2 t := by
  refine ⟨?_, ?_, ?_⟩ <;> simp [e4, zw, mvz, cmb, vc, pe] <;> grind
theorem pe_nz {v : Nat → Int} (h : plain v) : ∃ t, pe v 2 t ≠ 0 := by
  obtain ⟨_, ⟨k, hk, hp, _⟩, _⟩ := h
  obtain ⟨T, hT⟩ := e4_big (p := fun k => v (4 * 2 + k)) hk (by show v (8 + k) ≠ 0; omega)
  exact ⟨T + 1, by rw [pe_e4]; exact hT _ (by omega)⟩
theorem mvz_cop {v : Nat → Int} (h : plain v) {a b c d e f : Int} (hD : a * d ≠ b * c) : ∀ k, isP k → (∀ w, w < 3 → dvP k (e4 (zw (mvz v a b c d e f) w))) → dvP k (e4 one4) := by
  intro k hk hd
  have d0 := hd 0 (by decide); have d1 := hd 1 (by decide); have d2 := hd 2 (by decide)
  have w2 : dvP k (pe v 2) := dv_congr d2 (fun t => (mvz_e v a b c d e f t).2.2)
  have hD0 : a * d - b * c ≠ 0 := by omega
  have cm : ∀ (x : Int) {g : Int → Int}, dvP k g → dvP k (fun t => x * g t) := fun x _ hg => dv_mul (isP_c x) hg
  have x0 : dvP k (pe v 0) := by
    refine dv_unc hD0 (dv_congr (dv_add (dv_add (cm d d0) (cm (-b) d1)) (cm (b * f - d * e) w2)) (fun t => ?_))
    rw [(mvz_e v a b c d e f t).1, (mvz_e v a b c d e f t).2.1]
    grind
  have y0 : dvP k (pe v 1) := by
    refine dv_unc hD0 (dv_congr (dv_add (dv_add (cm (-c) d0) (cm a d1)) (cm (c * e - a * f) w2)) (fun t => ?_))
    rw [(mvz_e v a b c d e f t).1, (mvz_e v a b c d e f t).2.1]
    grind
  exact dv_one (h.2.2 k hk x0 y0 w2) w2 (pe_nz h)
theorem sp_moC {Q : Int32 → cS → Prop} {j : Nat} {z1 z2 z3 z4 z5 z6 : Int32} {σ : cS} {v : Nat → Int} (hj : j < 4) (hv : numV σ (19 + 5 * j) v) (go : ∀ σ', chg (fun a => a = 16) σ σ' → (∀ i, i < 12 → σ'.1 16 i = iL (mvz v z1.toInt z2.toInt z3.toInt z4.toInt z5.toInt z6.toInt i)) → v_X1_lowerNumbers (fun u s => ((u = 0 → Q (-2) s) ∧ (¬ u = 0 → v_X7_settle (fun r s' => Q r s') (nI j) s))) 16 σ') : v_X7_move_113 Q fuL (nI j) z1 z2 z3 z4 z5 z6 0 σ := by
  refine loopU (N := 4) (F := fun n c s => v_X7_move_113 Q n (nI j) z1 z2 z3 z4 z5 z6 c s) (I := fun c s => chg (fun a => a = 16) σ s ∧ ∀ w i, w < 3 → i < c → s.1 16 (4 * w + i) = iL (mvz v z1.toInt z2.toInt z3.toInt z4.toInt z5.toInt z6.toInt (4 * w + i))) (by decide) ?_ ?_ σ ⟨chg_rf, fun w i _ hi => by omega⟩
  · intro n c s hc ⟨g, a⟩ nx
    show v_X7_move_113 Q (n + 1) (nI j) z1 z2 z3 z4 z5 z6 (nI c) s
    unfold v_X7_move_113
    have nv : ∀ {u : cS}, chg (fun a => a = 16) σ u → numV u (19 + 5 * j) v := fun gu => numV_chg hv gu (by omega)
    rw [i32_iL z1, i32_iL z2, i32_iL z3, i32_iL z4, i32_iL z5, i32_iL z6, nI_clamp (show j < 2 ^ 31 by omega), show (4 : Int32) = nI 4 from rfl, show (8 : Int32) = nI 8 from rfl, nI_add, nI_add, nI_clamp (show c < 2 ^ 31 by omega), nI_clamp (show 4 + c < 2 ^ 31 by omega), nI_clamp (show 8 + c < 2 ^ 31 by omega), nI_1]
    refine ⟨fun q => absurd q (nI_ge hc (by decide)), fun _ => ⟨vp_in_nI hj (by decide), nmB_iff.mpr ?_⟩⟩
    refine sp_combined (nv g) hc ⟨vp_in_nI (N := 12) (by omega) (by decide), nmB_iff.mpr ⟨vp_in_nI hj (by decide), nmB_iff.mpr ?_⟩⟩
    have g1 := chg_t2 g (chg_J (P := fun a => a = 16) (σ := s) (a := 16) (i := c) (x := iL (z1.toInt * vc v c 0 + z2.toInt * vc v c 1 + z5.toInt * vc v c 2)) rfl)
    refine sp_combined (nv g1) hc ⟨vp_in_nI (N := 12) (by omega) (by decide), nmB_iff.mpr ⟨vp_in_nI hj (by decide), nmB_iff.mpr ?_⟩⟩
    have g2 := chg_t2 g1 (chg_J (P := fun a => a = 16) (a := 16) (i := 4 + c) (x := iL (z3.toInt * vc v c 0 + z4.toInt * vc v c 1 + z6.toInt * vc v c 2)) rfl)
    refine sp_num (w := 2) (nv g2) (by decide) hc ⟨vp_in_nI (N := 12) (by omega) (by decide), nmB_iff.mpr (nmB_iff.mpr (nx _ ⟨chg_t2 g2 (chg_J rfl), fun w i hw hi => ?_⟩))⟩
    rw [cUJ_at, cUJ_at, cUJ_at]
    rcases Nat.lt_or_ge i c with q | q
    · rw [updL_ne (by omega), updL_ne (by omega), updL_ne (by omega)]; exact a w i hw q
    · have ei : i = c := by omega
      subst ei
      rcases (show w = 0 ∨ w = 1 ∨ w = 2 by omega) with rfl | rfl | rfl
      · rw [updL_ne (by omega), updL_ne (by omega), show 4 * 0 + i = i by omega, updL_at]
        unfold mvz; rw [if_pos hc]; rfl
      · rw [updL_ne (by omega), show 4 * 1 + i = 4 + i by omega, updL_at]
        unfold mvz; rw [if_neg (by omega), if_pos (by omega), show 4 + i - 4 = i by omega]; rfl
      · rw [show 4 * 2 + i = 8 + i by omega, updL_at]
        unfold mvz; rw [if_neg (by omega), if_neg (by omega)]; rfl
  · intro n s ⟨g, a⟩
    show v_X7_move_113 Q (n + 1) (nI j) z1 z2 z3 z4 z5 z6 (nI 4) s
    unfold v_X7_move_113 v_X7_move_221
    refine ⟨fun _ => go s g (fun i hi => ?_), fun q => absurd (by decide) q⟩
    have := a (i / 4) (i % 4) (by omega) (by omega)
    rwa [show 4 * (i / 4) + i % 4 = i by omega] at this
theorem sp_moM {Q : Int32 → mS → Prop} {j : Nat} {z1 z2 z3 z4 z5 z6 : Int32} {τ : mS} {v : Nat → Int} (hj : j < 4) (hv : ofV τ j v) (go : ∀ τ1, preK τ (mvz v z1.toInt z2.toInt z3.toInt z4.toInt z5.toInt z6.toInt) τ1 → w_keep Q (nI j) τ1) : w_move_133 Q fuL (nI j) z1 z2 z3 z4 z5 z6 0 τ := by
  refine loopU (N := 4) (F := fun n c s => w_move_133 Q n (nI j) z1 z2 z3 z4 z5 z6 c s) (I := fun c s => mch (fun a => a = 3) τ s ∧ ∀ w i, w < 3 → i < c → s.1 3 (4 * w + i) = iL (mvz v z1.toInt z2.toInt z3.toInt z4.toInt z5.toInt z6.toInt (4 * w + i))) (by decide) ?_ ?_ τ ⟨mch_rf, fun w i _ hi => by omega⟩
  · intro n c s hc ⟨g, a⟩ nx
    show w_move_133 Q (n + 1) (nI j) z1 z2 z3 z4 z5 z6 (nI c) s
    unfold w_move_133
    refine ⟨fun q => absurd q (nI_ge (b := 4) hc (by decide)), fun _ => nmB_iff.mpr ?_⟩
    have e : ∀ w, w < 3 → s.1 2 (12 * j + c + 4 * w) = iL (vc v c w) := fun w hw => by
      rw [show 12 * j + c + 4 * w = 12 * j + (4 * w + c) by omega, g.1 2 (by decide)]; exact hv.1 (4 * w + c) (by omega)
    rw [show (12 : Int32) = nI 12 from rfl, show (4 : Int32) = nI (4 * 1) from rfl, show (8 : Int32) = nI (4 * 2) from rfl, pk_mul, nI_add, nI_add, nI_add, nI_add, nI_add, nI_clamp (show c < 2 ^ 31 by omega), nI_clamp (show 4 * 1 + c < 2 ^ 31 by omega), nI_clamp (show 4 * 2 + c < 2 ^ 31 by omega), nI_clamp (show 12 * j + c < 2 ^ 31 by omega), nI_clamp (show 12 * j + c + 4 * 1 < 2 ^ 31 by omega), nI_clamp (show 12 * j + c + 4 * 2 < 2 ^ 31 by omega), nI_1]
    have w48 : ∀ x : Nat, x < 48 → vp_in (nI x) 48 := fun x hx => vp_in_nI hx (by decide)
    have w12 : ∀ x : Nat, x < 12 → vp_in (nI x) 12 := fun x hx => vp_in_nI hx (by decide)
    refine ⟨w48 _ (by omega), w48 _ (by omega), w48 _ (by omega), w12 _ (by omega), nmB_iff.mpr ⟨w48 _ (by omega), w48 _ (by omega), w48 _ (by omega), w12 _ (by omega), nmB_iff.mpr ⟨w48 _ (by omega), w12 _ (by omega), nmB_iff.mpr (nmB_iff.mpr (nx _ ⟨mch_t g (mch_t (mch_t (mch_J rfl) (mch_J rfl)) (mch_J rfl)), fun w i hw hi => ?_⟩))⟩⟩⟩
    have h0 := e 0 (by decide)
    rw [show 12 * j + c + 4 * 0 = 12 * j + c by omega] at h0
    rw [mUJ_at, mUJ_at, mUJ_at, mUJ_ne (show (2 : Nat) ≠ 3 by decide), mUJ_ne (show (2 : Nat) ≠ 3 by decide), h0, e 1 (by decide), e 2 (by decide), i32_iL z1, i32_iL z2, i32_iL z3, i32_iL z4, i32_iL z5, i32_iL z6]
    simp only [iL_mul, iL_add]
    rcases Nat.lt_or_ge i c with q | q
    · rw [updL_ne (by omega), updL_ne (by omega), updL_ne (by omega)]; exact a w i hw q
    · have ei : i = c := by omega
      subst ei
      rcases (show w = 0 ∨ w = 1 ∨ w = 2 by omega) with rfl | rfl | rfl
      · rw [updL_ne (by omega), updL_ne (by omega), show 4 * 0 + i = i by omega, updL_at]
        unfold mvz; rw [if_pos hc]; rfl
      · rw [updL_ne (by omega), updL_at]
        unfold mvz; rw [if_neg (by omega), if_pos (by omega), show 4 * 1 + i - 4 = i by omega]; rfl
      · rw [updL_at, mUJ_ne (show (2 : Nat) ≠ 3 by decide), e 2 (by decide)]
        unfold mvz; rw [if_neg (by omega), if_neg (by omega)]; rfl
  · intro n s ⟨g, a⟩
    show w_move_133 Q (n + 1) (nI j) z1 z2 z3 z4 z5 z6 (nI 4) s
    unfold w_move_133
    refine ⟨fun _ => go s ⟨fun i hi => ?_, mch_keep g (by decide)⟩, fun q => absurd (by decide) q⟩
    have := a (i / 4) (i % 4) (by omega) (by omega)
    rwa [show 4 * (i / 4) + i % 4 = i by omega] at this
theorem st_move : ∀ (z0 z1 z2 z3 z4 z5 z6 : Int32) (σ : cS) (τ : mS), Inv σ τ → v_X7_move (fun r σ1 => w_move (fun r2 τ1 => r = r2 ∧ Inv σ1 τ1) z0 z1 z2 z3 z4 z5 z6 τ) z0 z1 z2 z3 z4 z5 z6 σ := by
  intro z0 z1 z2 z3 z4 z5 z6 σ τ hI
  by_cases ok : okMv z1 z2 z3 z4 z5 z6
  · refine moC_in ok ?_
    rcases lcases hI z0 with h | ⟨j, hj, rfl, h1, h2⟩ | ⟨j, v, hj, rfl, hV⟩
    · refine mis_b h ⟨fun q => absurd q (by decide), fun _ => moM_in ok (ag_b h ?_)⟩
      unfold w_move_120
      exact ⟨fun q => absurd q (by decide), fun _ => ⟨rfl, hI⟩⟩
    · refine mis_n hj h1 ⟨fun q => absurd q (by decide), fun _ => moM_in ok (ag_n hj h2 ?_)⟩
      unfold w_move_120
      exact ⟨fun q => absurd q (by decide), fun _ => ⟨rfl, hI⟩⟩
    · obtain ⟨h1, h2, hp, hm, hk⟩ := id hV
      obtain ⟨k1, k2, k3, k4, k5, k6, k7⟩ := id ok
      have b1 := inR_ab (b := 9) k1; have b2 := inR_ab (b := 9) k2; have b3 := inR_ab (b := 9) k3; have b4 := inR_ab (b := 9) k4; have b5 := inR_ab (b := 9) k5; have b6 := inR_ab (b := 9) k6
      have hD : z1.toInt * z4.toInt ≠ z2.toInt * z3.toInt := fun q => k7 ((mulI (A := 9) (by decide) b1 b4 b2 b3).mpr q)
      refine mis_y hj h1 ⟨fun _ => ?_, fun q => absurd rfl q⟩
      refine sp_moC hj (isV_num hj hV) (fun σ1 g1 row => ?_)
      have hI1 : Inv σ1 τ := Inv_keep hI (chg_keep g1 (fun a ha => by omega)) mKeep_rf
      have hb := fun i (hi : i < 12) => mvz_ab hp.1 b1 b2 b3 b4 b5 b6 hi
      have hok : okB 243 118098 := by unfold okB; decide
      have hR : R33 118098 (mvz v z1.toInt z2.toInt z3.toInt z4.toInt z5.toInt z6.toInt) := fun w w' hw hw' _ _ i hi => cl_ab (ab_le (stp_ab (A := 243) (B := 243) (by decide) (by decide) (fun k hk => hb _ (by omega)) (fun k hk => hb _ (by omega)) hi) (by decide))
      refine glue_lower (R := fun Q => w_move Q (nI j) z1 z2 z3 z4 z5 z6 τ) hok hj hI1 row hb hR (mvz_cop hp hD) (fun Q hQ => moM_in ok (ag_y hj h2 ?_))
      unfold w_move_120
      exact ⟨fun _ => sp_moM hj (isV_of hV) hQ, fun q => absurd (by decide) q⟩
  · exact moC_bad ok (moM_bad ok ⟨rfl, hI⟩)
