/-! PURE: the reference's LAW and KNOT; law, knot (promises 14, 15) -/
theorem tbl_e (v : Nat → Int) (r w : Nat) : tbl v r (2 * w) = if 0 < r then v (4 * w + (r - 1)) else 0 := by
  unfold tbl
  rw [if_pos (by omega), show 2 * w / 2 = w by omega]
theorem tbl_o (v : Nat → Int) (r w : Nat) : tbl v r (2 * w + 1) = if r < 4 then v (4 * w + r) else 0 := by
  unfold tbl
  rw [if_neg (by omega), show (2 * w + 1) / 2 = w by omega]
theorem sp_table {Q : mS → Prop} {l : Nat} {σ : mS} {v : Nat → Int} (hl : l < 4) (hv : ofV σ l v) (h : ∀ σ', mch (fun a => a = 11) σ σ' → tbM σ' v → w_findLaw_109 Q fuL 0 0 0 σ') : w_findLaw Q (nI l) σ := by
  unfold w_findLaw
  refine loopU (N := 5) (F := fun n r s => w_findLaw_2 Q n (nI l) r s) (I := fun r s => mch (fun a => a = 11) σ s ∧ ∀ i c, i < r → c < 6 → s.1 11 (6 * i + c) = iL (tbl v i c)) (by decide) ?_ ?_ σ ⟨mch_rf, fun i c hi => by omega⟩
  · intro n r s hr ⟨g, z⟩ go
    show w_findLaw_2 Q (n + 1) (nI l) (nI r) s
    unfold w_findLaw_2
    refine ⟨fun q => absurd q (nI_ge (b := 5) hr (by decide)), fun _ => ?_⟩
    refine loopU (N := 3) (F := fun m w t => w_findLaw_9 Q (w_findLaw_2 Q n) m (nI l) (nI r) w t) (I := fun w t => mch (fun a => a = 11) σ t ∧ (∀ i c, i < r → c < 6 → t.1 11 (6 * i + c) = iL (tbl v i c)) ∧ ∀ c, c < 2 * w → t.1 11 (6 * r + c) = iL (tbl v r c)) (by decide) ?_ ?_ s ⟨g, z, fun c hc => by omega⟩
    · intro m w t hw ⟨g1, z1, z2⟩ go2
      show w_findLaw_9 Q (w_findLaw_2 Q n) (m + 1) (nI l) (nI r) (nI w) t
      unfold w_findLaw_9
      refine ⟨fun q => absurd q (nI_ge (b := 3) hw (by decide)), fun _ => nmB_iff.mpr ?_⟩
      rw [show (12 : Int32) = nI 12 from rfl, show (4 : Int32) = nI 4 from rfl, show (6 : Int32) = nI 6 from rfl, show (2 : Int32) = nI 2 from rfl, pk_mul, pk_mul, pk_mul, pk_mul, nI_add, nI_add, nI_add]
      have hof : ∀ {u : mS} {y : Nat}, mch (fun a => a = 11) σ u → y < 4 → u.1 2 (12 * l + 4 * w + y) = iL (v (4 * w + y)) := fun gu hy => by
        rw [gu.1 2 (by decide), show ∀ y, 12 * l + 4 * w + y = 12 * l + (4 * w + y) from fun y => by omega]; exact hv.1 _ (by omega)
      have nxt : ∀ z2 : Int64, z2 = iL (tbl v r (2 * w)) → w_findLaw_55 Q (w_findLaw_2 Q n) (w_findLaw_9 Q (w_findLaw_2 Q n) m) (nI l) (nI r) (nI w) (nI (12 * l + 4 * w)) (nI (6 * r + 2 * w)) z2 t := by
        intro x2 hx2
        unfold w_findLaw_55 w_findLaw_88
        rw [show (6 : Int32) = nI 6 from rfl, show (2 : Int32) = nI 2 from rfl, pk_mul, pk_mul, nI_add, nI_add, nI_1 (6 * r + 2 * w), nI_1 w, nI_clamp (show 6 * r + 2 * w < 2 ^ 31 by omega), nI_clamp (show 6 * r + 2 * w + 1 < 2 ^ 31 by omega), nI_clamp (show 12 * l + 4 * w + r < 2 ^ 31 by omega)]
        have gu : mch (fun a => a = 11) σ (mUJ t 11 (6 * r + 2 * w) x2) := mch_t g1 (mch_J rfl)
        have fin : ∀ y : Int64, y = iL (tbl v r (2 * w + 1)) → w_findLaw_9 Q (w_findLaw_2 Q n) m (nI l) (nI r) (nI (w + 1)) (mUJ (mUJ t 11 (6 * r + 2 * w) x2) 11 (6 * r + 2 * w + 1) y) := by
          intro y hy
          refine go2 _ ⟨mch_t gu (mch_J rfl), fun i c hi hc => ?_, fun c hc => ?_⟩
          · rw [mUJ_at, mUJ_at, updL_ne (by omega), updL_ne (by omega)]; exact z1 i c hi hc
          · rw [mUJ_at, mUJ_at]
            rcases (show c < 2 * w ∨ c = 2 * w ∨ c = 2 * w + 1 by omega) with q | q | q
            · rw [updL_ne (by omega), updL_ne (by omega)]; exact z2 c q
            · subst q; rw [updL_ne (by omega), updL_at]; exact hx2
            · subst q; rw [show 6 * r + (2 * w + 1) = 6 * r + 2 * w + 1 by omega, updL_at]; exact hy
        refine ⟨vp_in_nI (by omega) (by decide), nmB_iff.mpr ⟨fun q => ⟨vp_in_nI (by omega) (by decide), nmB_iff.mpr (nmB_iff.mpr (fin _ ?_))⟩, fun q => ?_⟩⟩
        · have : 4 ≤ r := (nI_leI (a := 4) (by decide) (by omega)).mp q
          rw [tbl_o, if_neg (by omega)]; rfl
        · have h4 : r < 4 := by
            rcases Nat.lt_or_ge r 4 with y | y
            · exact y
            · exact absurd (nI_le (a := 4) y (by omega)) q
          refine ⟨vp_in_nI (by omega) (by decide), vp_in_nI (by omega) (by decide), nmB_iff.mpr (nmB_iff.mpr (fin _ ?_))⟩
          rw [tbl_o, if_pos h4]
          exact hof gu h4
      refine ⟨fun q => nxt _ ?_, fun q => ?_⟩
      · have : r ≤ 0 := (nI_leI (b := 0) (by omega) (by decide)).mp q
        rw [tbl_e, if_neg (by omega)]; rfl
      · have h0 : 0 < r := by
          rcases Nat.eq_zero_or_pos r with y | y
          · exact absurd (by rw [y]; decide) q
          · exact y
        obtain ⟨r', rfl⟩ : ∃ x, r = x + 1 := ⟨r - 1, by omega⟩
        rw [show 12 * l + 4 * w + (r' + 1) = 12 * l + 4 * w + r' + 1 by omega, nI_m1, nI_clamp (show 12 * l + 4 * w + r' < 2 ^ 31 by omega)]
        refine ⟨vp_in_nI (by omega) (by decide), nxt _ ?_⟩
        rw [tbl_e, if_pos (by omega), show r' + 1 - 1 = r' by omega]
        exact hof g1 (by omega)
    · intro m t ⟨g1, z1, z2⟩
      show w_findLaw_9 Q (w_findLaw_2 Q n) (m + 1) (nI l) (nI r) (nI 3) t
      unfold w_findLaw_9
      refine ⟨fun _ => nmB_iff.mpr ?_, fun q => absurd (by decide) q⟩
      rw [nI_1]
      refine go t ⟨g1, fun i c hi hc => ?_⟩
      rcases Nat.lt_or_ge i r with y | y
      · exact z1 i c y hc
      · rw [show i = r by omega]; exact z2 c (by omega)
  · intro n s ⟨g, z⟩
    show w_findLaw_2 Q (n + 1) (nI l) (nI 5) s
    unfold w_findLaw_2
    exact ⟨fun _ => h s g z, fun q => absurd (by decide) q⟩
def is13 (σ : mS) (z : Nat → Int) : Prop := ∀ p, p < 6 → σ.1 13 p = iL (z p)
theorem sp_lawDiv {Q : mS → Prop} {σ : mS} {z : Nat → Int} {g : Int} (hz : is13 σ z) (hr : ∀ c, c < 6 → r63 (z c)) (hg : r63 g) (h0 : g ≠ 0) (h : ∀ σ', mch (fun a => a = 13) σ σ' → is13 σ' (fun c => (z c).tdiv g) → Q σ') : w_findLaw_196 Q (iL g) σ := by
  unfold w_findLaw_196
  refine loopU (N := 6) (F := fun n x s => w_findLaw_200 Q n (iL g) x s) (I := fun c s => mch (fun a => a = 13) σ s ∧ ∀ p, p < 6 → s.1 13 p = iL (if p < c then (z p).tdiv g else z p)) (by decide) ?_ ?_ σ ⟨mch_rf, fun p hp => by rw [if_neg (by omega)]; exact hz p hp⟩
  · intro n c s hc ⟨h1, h2⟩ go
    show w_findLaw_200 Q (n + 1) (iL g) (nI c) s
    unfold w_findLaw_200
    have w0 := vp_in_nI hc (show 6 < 2 ^ 31 by decide)
    rw [iL0 hg, nI_clamp (show c < 2 ^ 31 by omega)]
    refine ⟨fun q => absurd q (nI_ge (b := 6) hc (by decide)), fun _ => ⟨w0, h0, w0, nmB_iff.mpr (nmB_iff.mpr ?_)⟩⟩
    rw [nI_1, h2 c hc, if_neg (by omega), iL_div (hr c hc) hg]
    refine go _ ⟨mch_t h1 (mch_J rfl), fun p hp => ?_⟩
    rw [mUJ_at]
    rcases Nat.lt_trichotomy p c with q | q | q
    · rw [updL_ne (by omega), h2 p hp, if_pos q, if_pos (by omega)]
    · subst q; rw [updL_at, if_pos (by omega)]
    · rw [updL_ne (by omega), h2 p hp, if_neg (by omega), if_neg (by omega)]
  · intro n s ⟨h1, h2⟩
    show w_findLaw_200 Q (n + 1) (iL g) (nI 6) s
    unfold w_findLaw_200
    refine ⟨fun _ => h s h1 (fun p hp => ?_), fun q => absurd (by decide) q⟩
    have := h2 p hp
    rwa [if_pos hp] at this
/-- the rows that finding THE LAW changes -/
def scW (a : Nat) : Prop := a = 11 ∨ a = 12 ∨ a = 13
theorem par6 {c : Nat} (hc : c < 6) : ((nI c - nI c / (2 : Int32) * (2 : Int32)) = 0 ↔ c % 2 = 0) := by
  rcases (show c = 0 ∨ c = 1 ∨ c = 2 ∨ c = 3 ∨ c = 4 ∨ c = 5 by omega) with rfl | rfl | rfl | rfl | rfl | rfl <;> decide
theorem sp_findLawM {Q : mS → Prop} {l : Nat} {σ : mS} {v : Nat → Int} (hl : l < 4) (hv : ofV σ l v) (hp : plain v) (h3 : kd v = 3) (h : ∀ σ', mch scW σ σ' → is13 σ' (lw v) → Q σ') : w_findLaw Q (nI l) σ := by
  have hs : sm9 v := hp.1
  have hr : ∀ c, c < 6 → r63 (mnr v c) := fun c _ => ab_r (mnr_ab hs c)
  have hg63 := gcdN_lt (z := mnr v) (N := 6) hr
  have r0 : r63 0 := by unfold r63; omega
  refine sp_table hl hv (fun s1 g1 t1 => ?_)
  rw [show w_findLaw_109 Q fuL (0 : Int64) (0 : Int64) 0 s1 = (fun n c (s : Int64 × Int64 × mS) => w_findLaw_109 Q n s.1 s.2.1 c s.2.2) fuL 0 (0, 0, s1) from rfl]
  refine loopU (N := 6) (F := fun n c (s : Int64 × Int64 × mS) => w_findLaw_109 Q n s.1 s.2.1 c s.2.2) (I := fun c s => s.1 = iL (gcdN (mnr v) c) ∧ s.2.1 = iL (fvN (mnr v) c) ∧ mch (fun a => a = 12 ∨ a = 13) s1 s.2.2 ∧ ∀ p, p < c → s.2.2.1 13 p = iL (mnr v p)) (by decide) ?_ ?_ (0, 0, s1) ⟨rfl, rfl, mch_rf, fun p hp => by omega⟩
  · intro n c s hc ⟨h1, h2, h4, h5⟩ go
    obtain ⟨x3, x5, t⟩ := s
    have h1' : x3 = iL (gcdN (mnr v) c) := h1
    have h2' : x5 = iL (fvN (mnr v) c) := h2
    have h4' : mch (fun a => a = 12 ∨ a = 13) s1 t := h4
    have h5' : ∀ p, p < c → t.1 13 p = iL (mnr v p) := h5
    subst h1' h2'
    show w_findLaw_109 Q (n + 1) (iL (gcdN (mnr v) c)) (iL (fvN (mnr v) c)) (nI c) t
    unfold w_findLaw_109
    refine ⟨fun q => absurd q (nI_ge (b := 6) hc (by decide)), fun _ => ?_⟩
    refine sp_without hc hs (fun r y hr' hy => by rw [h4'.1 11 (by decide)]; exact t1 r y hr' hy) (fun t2 g2 => ⟨by decide, ?_⟩)
    have g12 : mch (fun a => a = 12 ∨ a = 13) s1 t2 := mch_t h4' (mch_w g2 (fun x hx => Or.inl hx))
    have w6 := vp_in_nI hc (show 6 < 2 ^ 31 by decide)
    have nx : ∀ z : Int64, iL (dt5 (mtx v c)) * z = iL (mnr v c) → w_findLaw_142 Q (w_findLaw_109 Q n) (iL (gcdN (mnr v) c)) (iL (fvN (mnr v) c)) (nI c) (nI c) (iL (dt5 (mtx v c))) z t2 := by
      intro z hz
      unfold w_findLaw_142 w_findLaw_175
      rw [nI_clamp (show c < 2 ^ 31 by omega), hz, nI_1]
      refine ⟨w6, nmB_iff.mpr ⟨w6, ?_⟩⟩
      have row : ∀ p, p < c + 1 → (mUJ t2 13 c (iL (mnr v c))).1 13 p = iL (mnr v p) := by
        intro p hp
        rw [mUJ_at]
        rcases Nat.lt_or_ge p c with q | q
        · rw [updL_ne (by omega), g2.1 13 (by decide)]; exact h5' p q
        · rw [show p = c by omega, updL_at]
      have gu : mch (fun a => a = 12 ∨ a = 13) s1 (mUJ t2 13 c (iL (mnr v c))) := mch_t g12 (mch_J (Or.inr rfl))
      rw [row c (by omega)]
      refine sp_common (nat_r63 (hg63 c (by omega))) (hr c hc) ?_
      rw [iL0 (fvN_r hr c (by omega)), row c (by omega)]
      refine ⟨fun q => nmB_iff.mpr (go (_, _, _) ⟨rfl, ?_, gu, row⟩), fun q => ⟨w6, nmB_iff.mpr (go (_, _, _) ⟨rfl, ?_, gu, row⟩)⟩⟩
      · show iL (fvN (mnr v) c) = iL (if fvN (mnr v) c = 0 then mnr v c else fvN (mnr v) c)
        rw [if_neg q]
      · show iL (mnr v c) = iL (if fvN (mnr v) c = 0 then mnr v c else fvN (mnr v) c)
        rw [if_pos q]
    rw [par6 hc]
    refine ⟨fun q => nx _ ?_, fun q => nx _ ?_⟩
    · rw [i32_m1, iL_mul]
      unfold mnr
      rw [if_neg q]
      congr 1
      omega
    · rw [iL_1, iL_mul]
      unfold mnr
      rw [if_pos q]
      congr 1
      omega
  · intro n s ⟨h1, h2, h4, h5⟩
    obtain ⟨x3, x5, t⟩ := s
    have h1' : x3 = iL (gcdN (mnr v) 6) := h1
    have h2' : x5 = iL (fvN (mnr v) 6) := h2
    have h4' : mch (fun a => a = 12 ∨ a = 13) s1 t := h4
    have h5' : ∀ p, p < 6 → t.1 13 p = iL (mnr v p) := h5
    subst h1' h2'
    show w_findLaw_109 Q (n + 1) (iL (gcdN (mnr v) 6)) (iL (fvN (mnr v) 6)) (nI 6) t
    unfold w_findLaw_109
    refine ⟨fun _ => ?_, fun q => absurd (by decide) q⟩
    obtain ⟨f1, f2, f3⟩ := fvN_fst (mnr_nz hp.2.2 h3)
    have hgp := gcdN_pos f1 f2
    have rg := nat_r63 (hg63 6 (by decide))
    have G : mch scW σ t := mch_t (mch_w g1 (fun x hx => Or.inl hx)) (mch_w h4' (fun x hx => Or.inr hx))
    rw [f3, iL_0, iL_le r0 (hr _ f1), iL_neg]
    refine ⟨fun q => ?_, fun q => ?_⟩
    · refine sp_lawDiv h5' hr rg (by omega) (fun σ' c' e' => h σ' (mch_t G (mch_w c' (fun x hx => Or.inr (Or.inr hx)))) (fun c hc => ?_))
      rw [e' c hc, lw_mnr hp.2.2 h3 hc]
      unfold td
      rw [(tidy_val f1 f2 c).2 (by omega)]
    · refine sp_lawDiv h5' hr (by unfold r63 at *; omega) (by omega) (fun σ' c' e' => h σ' (mch_t G (mch_w c' (fun x hx => Or.inr (Or.inr hx)))) (fun c hc => ?_))
      rw [e' c hc, lw_mnr hp.2.2 h3 hc]
      unfold td
      rw [(tidy_val f1 f2 c).1 (by omega)]
/-- the class's and the reference's questions ahead of law, knot, crosses -/
theorem ll_b {Q : Int32 → cS → Prop} {x : Int32} {σ : cS} (h : ¬ inR x 0 3) (k : Q (-1) σ) : v_X7_lawless Q x σ := by
  unfold v_X7_lawless
  exact mis_b h ⟨fun q => absurd q (by decide), fun _ => k⟩
theorem ll_n {Q : Int32 → cS → Prop} {j : Nat} {σ : cS} (hj : j < 4) (h : σ.2.2.1 (19 + 5 * j) 4 = 0) (k : Q (-2) σ) : v_X7_lawless Q (nI j) σ := by
  unfold v_X7_lawless
  exact mis_n hj h ⟨fun q => absurd q (by decide), fun _ => k⟩
theorem ll_y {Q : Int32 → cS → Prop} {j m : Nat} {σ : cS} (hj : j < 4) (h : ¬ σ.2.2.1 (19 + 5 * j) 4 = 0) (hm : σ.2.2.1 (19 + 5 * j) 6 = nI m) (hm3 : m ≤ 3) (k0 : m ≠ 3 → Q (-12) σ) (k : m = 3 → Q 0 σ) : v_X7_lawless Q (nI j) σ := by
  unfold v_X7_lawless v_X7_lawless_31
  refine mis_y hj h ⟨fun _ => ⟨vp_in_nI hj (by decide), nmB_iff.mpr ?_⟩, fun q => absurd rfl q⟩
  rw [nI_clamp (by omega), hm]
  refine ⟨fun q => k0 (fun z => q (by rw [z]; rfl)), fun q => k ((nI_eq (b := 3) (by omega) (by decide)).mp q)⟩
theorem ac_b {Q : Int32 → mS → Prop} {x : Int32} {τ : mS} (h : ¬ inR x 0 3) (k : Q (-1) τ) : w_againstCubic Q x τ := by
  unfold w_againstCubic w_againstCubic_29
  exact ag_b h ⟨fun q => absurd q (by decide), fun _ => k⟩
theorem ac_n {Q : Int32 → mS → Prop} {j : Nat} {τ : mS} (hj : j < 4) (h : τ.2.1 1 j = 0) (k : Q (-2) τ) : w_againstCubic Q (nI j) τ := by
  unfold w_againstCubic w_againstCubic_29
  exact ag_n hj h ⟨fun q => absurd q (by decide), fun _ => k⟩
theorem ac_y {Q : Int32 → mS → Prop} {j : Nat} {τ : mS} {v : Nat → Int} (hj : j < 4) (h : ¬ τ.2.1 1 j = 0) (hv : ofV τ j v) (hc : copr v) (k0 : kd v ≠ 3 → ∀ τ', s6 τ τ' → Q (-12) τ') (k : kd v = 3 → ∀ τ', s6 τ τ' → Q 0 τ') : w_againstCubic Q (nI j) τ := by
  unfold w_againstCubic w_againstCubic_29
  have hk3 := kd_le v
  refine ag_y hj h ⟨fun _ => sp_kindOf hj hv hc (fun τ' hs _ => ⟨fun q => k0 (fun z => q (by rw [z]; rfl)) τ' hs, fun q => k ((nI_eq (b := 3) (by omega) (by decide)).mp q) τ' hs⟩), fun q => absurd (by decide) q⟩
theorem st_law : ∀ (z0 z1 : Int32) (σ : cS) (τ : mS), Inv σ τ → v_X7_law (fun r σ1 => w_law (fun r2 τ1 => r = r2 ∧ Inv σ1 τ1) z0 z1 τ) z0 z1 σ := by
  intro z0 z1 σ τ hI
  unfold v_X7_law v_X7_law_43 w_law w_law_21
  by_cases a1 : inR z1 0 5
  · refine wi_t 0 5 (by decide) (by decide) a1 ⟨fun _ => ?_, fun q => absurd q (by decide)⟩
    rcases lcases hI z0 with h | ⟨j, hj, rfl, h1, h2⟩ | ⟨j, v, hj, rfl, hV⟩
    · exact ll_b h ⟨fun q => absurd q (by decide), fun _ => iM_t 0 5 (by decide) (by decide) a1 ⟨fun _ => ac_b h ⟨fun q => absurd q (by decide), fun _ => ⟨rfl, hI⟩⟩, fun q => absurd q (by decide)⟩⟩
    · exact ll_n hj h1 ⟨fun q => absurd q (by decide), fun _ => iM_t 0 5 (by decide) (by decide) a1 ⟨fun _ => ac_n hj h2 ⟨fun q => absurd q (by decide), fun _ => ⟨rfl, hI⟩⟩, fun q => absurd q (by decide)⟩⟩
    · obtain ⟨h1, h2, hp, hm, hk⟩ := id hV
      obtain ⟨i, hi, rfl⟩ := inR_nat (b := 5) a1 (by decide)
      have I6 : ∀ {τ'}, s6 τ τ' → Inv σ τ' := fun g => Inv_keep hI cKeep_rf (s6_keep g)
      refine ll_y hj h1 hk.2.2.1 (kd_le v) (fun e => ⟨fun q => absurd q (by decide), fun _ => ?_⟩) (fun e => ⟨fun _ => ⟨vp_in_nI hj (by decide), nmB_iff.mpr ?_⟩, fun q => absurd rfl q⟩)
      · exact iM_t 0 5 (by decide) (by decide) a1 ⟨fun _ => ac_y hj h2 (isV_of hV) hp.2.2 (fun _ τ' g => ⟨fun q => absurd q (by decide), fun _ => ⟨rfl, I6 g⟩⟩) (fun z => absurd z e), fun q => absurd q (by decide)⟩
      · rw [nI_clamp (show j < 2 ^ 31 by omega), nI_clamp (show i < 2 ^ 31 by omega), (cLenL hj).2.2.1, (hk.2.2.2.2 e).1 i (by omega)]
        refine ⟨vp_in_nI (by omega) (by decide), iM_t 0 5 (by decide) (by decide) a1 ⟨fun _ => ac_y hj h2 (isV_of hV) hp.2.2 (fun z => absurd e z) (fun _ τ' g => ⟨fun _ => ?_, fun q => absurd (by decide) q⟩), fun q => absurd q (by decide)⟩⟩
        refine sp_findLawM hj (ofV_s6 (isV_of hV) g) hp e (fun τ2 g2 e2 => ⟨vp_in_nI (by omega) (by decide), ?_, ?_⟩)
        · rw [e2 i (by omega)]
        · exact Inv_keep (I6 g) cKeep_rf (mch_keep g2 (by unfold scW; omega))
  · refine wi_f 0 5 (by decide) (by decide) a1 ⟨fun q => absurd rfl q, fun _ => ?_⟩
    exact iM_f 0 5 (by decide) (by decide) a1 ⟨fun q => absurd rfl q, fun _ => ⟨fun q => absurd q (by decide), fun _ => ⟨rfl, hI⟩⟩⟩
/-- THE LAW as two vectors -/
def lwP (v : Nat → Int) : Nat → Int := fun w => lw v (2 * w)
def lwQ (v : Nat → Int) : Nat → Int := fun w => lw v (2 * w + 1)
theorem lw_dots {v : Nat → Int} (hc : copr v) (h3 : kd v = 3) : ∃ a : Int, a ≠ 0 ∧ ∀ m, m < 4 → a * dot3 (lwP v) (vc v m) = -(gq v * kq v m) ∧ a * dot3 (lwQ v) (vc v m) = gq v * kqm v m := by
  obtain ⟨t, ht, hz⟩ := mnr_nz hc h3
  obtain ⟨a, ha, e⟩ := td_scale ht hz
  have e' : ∀ c, c < 6 → mnr v c = a * lw v c := fun c hc6 => by rw [lw_mnr hc h3 hc6]; exact e c hc6
  refine ⟨a, ha, fun m hm => ⟨?_, ?_⟩⟩
  · rw [← pm_dot v hm]
    show a * (lw v 0 * vc v m 0 + lw v 2 * vc v m 1 + lw v 4 * vc v m 2) = mnr v 0 * vc v m 0 + mnr v 2 * vc v m 1 + mnr v 4 * vc v m 2
    rw [e' 0 (by decide), e' 2 (by decide), e' 4 (by decide)]
    grind
  · rw [← qm_dot v hm]
    show a * (lw v 1 * vc v m 0 + lw v 3 * vc v m 1 + lw v 5 * vc v m 2) = mnr v 1 * vc v m 0 + mnr v 3 * vc v m 1 + mnr v 5 * vc v m 2
    rw [e' 1 (by decide), e' 3 (by decide), e' 5 (by decide)]
    grind
theorem kq_nz {v : Nat → Int} (hc : copr v) (h3 : kd v = 3) : ¬ (kq v 0 = 0 ∧ kq v 1 = 0 ∧ kq v 2 = 0) := by
  intro ⟨a, b, c⟩
  obtain ⟨g0, g1, g2⟩ := gq_kq v
  refine kqr_nz hc h3 ⟨?_, ?_, ?_⟩
  · rw [g0, a, Int.mul_zero]
  · rw [g1, b, Int.mul_zero]
  · rw [g2, c, Int.mul_zero]
theorem lw_gcd {v : Nat → Int} (hc : copr v) (h3 : kd v = 3) : gcdN (lw v) 6 = 1 := by
  obtain ⟨t, ht, hz⟩ := mnr_nz hc h3
  rw [gcdN_congr (z' := td (mnr v) 6) (fun i hi => lw_mnr hc h3 hi)]
  exact td_gcd ht hz
theorem chain0 {x y k0 k1 k2 : Int} (e0 : x * k0 = 0) (e1 : x * k1 = y * k0) (e2 : x * k2 = y * k1) (e3 : y * k2 = 0) (hk : ¬ (k0 = 0 ∧ k1 = 0 ∧ k2 = 0)) : x = 0 ∧ y = 0 := by
  by_cases hx : x = 0
  · refine ⟨hx, ?_⟩
    by_cases hy : y = 0
    · exact hy
    · exfalso
      subst hx
      have a2 := (Int.mul_eq_zero.mp e3).resolve_left hy
      have a1 : k1 = 0 := (Int.mul_eq_zero.mp (show y * k1 = 0 by rw [← e2]; simp)).resolve_left hy
      have a0 : k0 = 0 := (Int.mul_eq_zero.mp (show y * k0 = 0 by rw [← e1]; simp)).resolve_left hy
      exact hk ⟨a0, a1, a2⟩
  · exfalso
    have a0 := (Int.mul_eq_zero.mp e0).resolve_left hx
    have a1 : k1 = 0 := (Int.mul_eq_zero.mp (show x * k1 = 0 by rw [e1, a0]; simp)).resolve_left hx
    have a2 : k2 = 0 := (Int.mul_eq_zero.mp (show x * k2 = 0 by rw [e2, a1]; simp)).resolve_left hx
    exact hk ⟨a0, a1, a2⟩
theorem knr_nz {v : Nat → Int} (hc : copr v) (h3 : kd v = 3) : nz3 (knr v) := by
  intro hz
  have par := crx_par (a := lwP v) (b := lwQ v) (fun q => q hz)
  obtain ⟨a, ha, hd⟩ := lw_dots hc h3
  have hg := gq_nz (kqr_nz hc h3)
  have key : ∀ c, c < 3 → lwQ v c = 0 ∧ lwP v c = 0 := by
    intro c hc3
    have lin : ∀ m, m < 4 → lwQ v c * dot3 (lwP v) (vc v m) = lwP v c * dot3 (lwQ v) (vc v m) := by
      intro m hm
      obtain ⟨p1, p2, p3⟩ := par
      unfold dot3
      rcases (show c = 0 ∨ c = 1 ∨ c = 2 by omega) with rfl | rfl | rfl <;> grind
    have fin : ∀ m, m < 4 → lwQ v c * -(kq v m) = lwP v c * kqm v m := by
      intro m hm
      have l := lin m hm
      obtain ⟨d1, d2⟩ := hd m hm
      refine Int.eq_of_mul_eq_mul_left hg ?_
      have e1 : gq v * (lwQ v c * -(kq v m)) = lwQ v c * (a * dot3 (lwP v) (vc v m)) := by rw [d1]; grind
      have e2 : gq v * (lwP v c * kqm v m) = lwP v c * (a * dot3 (lwQ v) (vc v m)) := by rw [d2]; grind
      rw [e1, e2]
      have : lwQ v c * (a * dot3 (lwP v) (vc v m)) = a * (lwQ v c * dot3 (lwP v) (vc v m)) := by grind
      rw [this, l]
      grind
    have f0 := fin 0 (by decide); have f1 := fin 1 (by decide); have f2 := fin 2 (by decide); have f3 := fin 3 (by decide)
    rw [show kqm v 0 = 0 from rfl] at f0
    rw [show kqm v 1 = kq v 0 from rfl] at f1
    rw [show kqm v 2 = kq v 1 from rfl] at f2
    rw [show kqm v 3 = kq v 2 from rfl, show kq v 3 = 0 from rfl] at f3
    have r := chain0 (x := -(lwQ v c)) (y := lwP v c) (k0 := kq v 0) (k1 := kq v 1) (k2 := kq v 2) (by grind) (by grind) (by grind) (by grind) (kq_nz hc h3)
    exact ⟨by omega, r.2⟩
  have g := lw_gcd hc h3
  have z : ∀ p, p < 6 → lw v p = 0 := by
    intro p hp
    obtain ⟨w, hw, e⟩ : ∃ w, w < 3 ∧ (p = 2 * w ∨ p = 2 * w + 1) := ⟨p / 2, by omega, by omega⟩
    rcases e with rfl | rfl
    · exact (key w hw).2
    · exact (key w hw).1
  have e0 : gcdN (lw v) 6 = 0 := by
    have := gcdN_max (z := lw v) (d := 0) (N := 6) (fun i hi => by rw [z i hi]; exact Int.dvd_zero _)
    exact Nat.eq_zero_of_zero_dvd this
  omega
theorem knr_ab {v : Nat → Int} (hs : sm9 v) (hc : copr v) (h3 : kd v = 3) (c : Nat) : ab (knr v c) 128000000000000 := by
  have hb := fun c (h : c < 6) => lw_ab hs hc h3 h
  have m : ∀ a b c d, a < 6 → b < 6 → c < 6 → d < 6 → ab (lw v a * lw v b - lw v c * lw v d) 128000000000000 := fun a b c d ha hb' hc hd => ab_le (ab_sub (ab_mul (hb a ha) (hb b hb')) (ab_mul (hb c hc) (hb d hd))) (by decide)
  unfold knr
  match c with
  | 0 => exact m _ _ _ _ (by decide) (by decide) (by decide) (by decide)
  | 1 => exact m _ _ _ _ (by decide) (by decide) (by decide) (by decide)
  | 2 => exact m _ _ _ _ (by decide) (by decide) (by decide) (by decide)
  | _ + 3 => exact ab_0
/-- the rows that finding THE KNOT changes -/
def scK (a : Nat) : Prop := a = 6 ∨ a = 8 ∨ a = 11 ∨ a = 12 ∨ a = 13
theorem sp_findKnotM {Q : mS → Prop} {l : Nat} {σ : mS} {v : Nat → Int} (hl : l < 4) (hv : ofV σ l v) (hp : plain v) (h3 : kd v = 3) (h : ∀ σ', mch scK σ σ' → is13 σ' (lw v) → is8 σ' (kn v) → Q σ') : w_findKnot Q (nI l) σ := by
  unfold w_findKnot
  refine sp_findLawM hl hv hp h3 (fun s1 g1 e1 => ?_)
  rw [c0, c1, c2, c3, show (4 : Int32).toNatClampNeg = 4 by decide, show (5 : Int32).toNatClampNeg = 5 by decide]
  have w6 : ∀ k : Nat, k < 6 → vp_in (nI k) 6 := fun k hk => vp_in_nI hk (by decide)
  refine ⟨w6 0 (by decide), w6 2 (by decide), w6 4 (by decide), w6 1 (by decide), w6 3 (by decide), w6 5 (by decide), ?_⟩
  rw [e1 0 (by decide), e1 1 (by decide), e1 2 (by decide), e1 3 (by decide), e1 4 (by decide), e1 5 (by decide)]
  refine sp_crossM (fun s2 g2 b0 b1 b2 => ?_)
  have b6 : ∀ c, c < 3 → s2.1 6 c = iL (knr v c) := fun c hc => by
    rcases (show c = 0 ∨ c = 1 ∨ c = 2 by omega) with rfl | rfl | rfl
    · exact b0
    · exact b1
    · exact b2
  have kb := knr_ab hp.1 hp.2.2 h3
  refine loopU (N := 3) (F := fun n c s => w_findKnot_47 Q n c s) (I := fun c s => mch (fun a => a = 8) s2 s ∧ ∀ k, k < c → s.1 8 k = iL (knr v k)) (by decide) ?_ ?_ s2 ⟨mch_rf, fun k hk => by omega⟩
  · intro n c s hc ⟨h1, h2⟩ go
    show w_findKnot_47 Q (n + 1) (nI c) s
    unfold w_findKnot_47
    have w0 := vp_in_nI hc (show 3 < 2 ^ 31 by decide)
    rw [nI_clamp (show c < 2 ^ 31 by omega), nI_1]
    refine ⟨fun q => absurd q (nI_ge (b := 3) hc (by decide)), fun _ => ⟨w0, w0, nmB_iff.mpr (nmB_iff.mpr (go _ ⟨mch_t h1 (mch_J rfl), fun k hk => ?_⟩))⟩⟩
    rw [mUJ_at, h1.1 6 (by decide)]
    rcases Nat.lt_or_ge k c with q | q
    · rw [updL_ne (by omega)]; exact h2 k q
    · rw [show k = c by omega, updL_at]; exact b6 c hc
  · intro n s ⟨h1, h2⟩
    show w_findKnot_47 Q (n + 1) (nI 3) s
    unfold w_findKnot_47
    refine ⟨fun _ => ?_, fun q => absurd (by decide) q⟩
    refine sp_tidyM (z := knr v) (t := lst0 (knr v) 3 3) h2 (fun c _ => ab_r (kb c)) (knr_nz hp.2.2 h3) rfl (fun s3 g3 e3 => h s3 ?_ (fun p hp => ?_) e3)
    · exact mch_t (mch_t (mch_t (mch_w g1 (fun x hx => by unfold scW at hx; unfold scK; omega)) (mch_6 g2 (Or.inl rfl))) (mch_w h1 (fun x hx => by unfold scK; omega))) (mch_w g3 (fun x hx => by unfold scK; omega))
    · rw [g3.1 13 (by decide), h1.1 13 (by decide), g2.1 13 (by decide)]; exact e1 p hp
theorem st_knot : ∀ (z0 z1 : Int32) (σ : cS) (τ : mS), Inv σ τ → v_X7_knot (fun r σ1 => w_knot (fun r2 τ1 => r = r2 ∧ Inv σ1 τ1) z0 z1 τ) z0 z1 σ := by
  intro z0 z1 σ τ hI
  unfold v_X7_knot v_X7_knot_43 w_knot w_knot_21
  by_cases a1 : inR z1 0 2
  · refine wi_t 0 2 (by decide) (by decide) a1 ⟨fun _ => ?_, fun q => absurd q (by decide)⟩
    rcases lcases hI z0 with h | ⟨j, hj, rfl, h1, h2⟩ | ⟨j, v, hj, rfl, hV⟩
    · exact ll_b h ⟨fun q => absurd q (by decide), fun _ => iM_t 0 2 (by decide) (by decide) a1 ⟨fun _ => ac_b h ⟨fun q => absurd q (by decide), fun _ => ⟨rfl, hI⟩⟩, fun q => absurd q (by decide)⟩⟩
    · exact ll_n hj h1 ⟨fun q => absurd q (by decide), fun _ => iM_t 0 2 (by decide) (by decide) a1 ⟨fun _ => ac_n hj h2 ⟨fun q => absurd q (by decide), fun _ => ⟨rfl, hI⟩⟩, fun q => absurd q (by decide)⟩⟩
    · obtain ⟨h1, h2, hp, hm, hk⟩ := id hV
      obtain ⟨i, hi, rfl⟩ := inR_nat (b := 2) a1 (by decide)
      have I6 : ∀ {τ'}, s6 τ τ' → Inv σ τ' := fun g => Inv_keep hI cKeep_rf (s6_keep g)
      refine ll_y hj h1 hk.2.2.1 (kd_le v) (fun e => ⟨fun q => absurd q (by decide), fun _ => ?_⟩) (fun e => ⟨fun _ => ⟨vp_in_nI hj (by decide), nmB_iff.mpr ?_⟩, fun q => absurd rfl q⟩)
      · exact iM_t 0 2 (by decide) (by decide) a1 ⟨fun _ => ac_y hj h2 (isV_of hV) hp.2.2 (fun _ τ' g => ⟨fun q => absurd q (by decide), fun _ => ⟨rfl, I6 g⟩⟩) (fun z => absurd z e), fun q => absurd q (by decide)⟩
      · rw [nI_clamp (show j < 2 ^ 31 by omega), nI_clamp (show i < 2 ^ 31 by omega), (cLenL hj).2.2.2, (hk.2.2.2.2 e).2.1 i (by omega)]
        refine ⟨vp_in_nI (by omega) (by decide), iM_t 0 2 (by decide) (by decide) a1 ⟨fun _ => ac_y hj h2 (isV_of hV) hp.2.2 (fun z => absurd e z) (fun _ τ' g => ⟨fun _ => ?_, fun q => absurd (by decide) q⟩), fun q => absurd q (by decide)⟩⟩
        refine sp_findKnotM hj (ofV_s6 (isV_of hV) g) hp e (fun τ2 g2 _ e2 => ⟨vp_in_nI (by omega) (by decide), ?_, ?_⟩)
        · rw [e2 i (by omega)]
        · exact Inv_keep (I6 g) cKeep_rf (mch_keep g2 (by unfold scK; omega))
  · refine wi_f 0 2 (by decide) (by decide) a1 ⟨fun q => absurd rfl q, fun _ => ?_⟩
    exact iM_f 0 2 (by decide) (by decide) a1 ⟨fun q => absurd rfl q, fun _ => ⟨fun q => absurd q (by decide), fun _ => ⟨rfl, hI⟩⟩⟩
