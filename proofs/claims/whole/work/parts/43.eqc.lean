/-! PURE: the class's degree, KIND and the products of its EQUATION -/
theorem iL0 {z : Int} (h : r63 z) : iL z = 0 ↔ z = 0 := by rw [iL_0]; exact iL_eq h (by unfold r63; omega)
/-- a bound -/
def ab (a : Int) (A : Nat) : Prop := a.natAbs ≤ A
theorem ab_i {a : Int} {A : Nat} : ab a A ↔ -(A : Int) ≤ a ∧ a ≤ A := by unfold ab; omega
theorem ab_mul {a b : Int} {A B : Nat} (h : ab a A) (g : ab b B) : ab (a * b) (A * B) := by unfold ab at *; rw [Int.natAbs_mul]; exact Nat.mul_le_mul h g
theorem ab_add {a b : Int} {A B : Nat} (h : ab a A) (g : ab b B) : ab (a + b) (A + B) := by unfold ab at *; omega
theorem ab_sub {a b : Int} {A B : Nat} (h : ab a A) (g : ab b B) : ab (a - b) (A + B) := by unfold ab at *; omega
theorem ab_neg {a : Int} {A : Nat} (h : ab a A) : ab (-a) A := by unfold ab at *; omega
theorem ab_le {a : Int} {A B : Nat} (h : ab a A) (g : A ≤ B) : ab a B := Nat.le_trans h g
theorem ab_r {a : Int} {A : Nat} (h : ab a A) (hA : A < 9223372036854775808 := by decide) : r63 a := by unfold ab at h; unfold r63; omega
theorem ab_0 {A : Nat} : ab 0 A := by unfold ab; omega
def sm9 (v : Nat → Int) : Prop := ∀ i, i < 12 → -9 ≤ v i ∧ v i ≤ 9
theorem vc_ab {v : Nat → Int} (h : sm9 v) {k w : Nat} (hk : k < 4) (hw : w < 3) : ab (vc v k w) 9 := ab_i.mpr (h (4 * w + k) (by omega))
theorem fo3_ab {v : Nat → Int} (h : sm9 v) {i j : Nat} (hi : i < 4) (hj : j < 4) (c : Nat) : ab (fo3 v i j c) 162 := ab_i.mpr (fo3_le h hi hj c)
theorem dot_ab {f g : Nat → Int} {A B : Nat} (hf : ∀ c, c < 3 → ab (f c) A) (hg : ∀ c, c < 3 → ab (g c) B) : ab (dot3 f g) (A * B + A * B + A * B) :=
  ab_add (ab_add (ab_mul (hf 0 (by decide)) (hg 0 (by decide))) (ab_mul (hf 1 (by decide)) (hg 1 (by decide)))) (ab_mul (hf 2 (by decide)) (hg 2 (by decide)))
theorem rel_ab {v : Nat → Int} (h : sm9 v) (c : Nat) : ab (relv v c) 4374 := by
  have d : ∀ i j k, i < 4 → j < 4 → k < 4 → ab (dot3 (fo3 v i j) (vc v k)) 4374 := fun i j k hi hj hk => dot_ab (A := 162) (B := 9) (fun c _ => fo3_ab h hi hj c) (fun c hc => vc_ab h hk hc)
  match c with
  | 0 => exact d 3 2 1 (by decide) (by decide) (by decide)
  | 1 => exact ab_neg (d 3 2 0 (by decide) (by decide) (by decide))
  | 2 => exact d 3 1 0 (by decide) (by decide) (by decide)
  | 3 => exact ab_neg (d 2 1 0 (by decide) (by decide) (by decide))
  | _ + 4 => exact ab_0
theorem st_dC {Q : Int32 → cS → Prop} {o k n : Nat} {σ : cS} {v : Nat → Int} (hv : numV σ o v) (hs : sm9 v) (hk : k < 4) (hk0 : 0 < k) (h1 : nz3 (vc v k) → Q (nI k) σ) (h0 : ¬ nz3 (vc v k) → v_X4_degreeOf_2 Q o n (nI (k - 1)) σ) : v_X4_degreeOf_2 Q o (n + 1) (nI k) σ := by
  have z : ∀ w, w < 3 → (iL (vc v k w) = 0 ↔ vc v k w = 0) := fun w hw => iL0 (ab_r (vc_ab hs hk hw))
  unfold v_X4_degreeOf_2 v_X4_degreeOf_39
  refine ⟨fun q => absurd q (nI_nle hk0 (by omega)), fun _ => ?_⟩
  refine sp_num (w := 0) hv (by decide) hk ?_
  rw [z 0 (by decide)]
  refine ⟨fun q => h1 (fun e => q e.1), fun q0 => sp_num (w := 1) hv (by decide) hk ?_⟩
  rw [z 1 (by decide)]
  refine ⟨fun q => h1 (fun e => q e.2.1), fun q1 => sp_num (w := 2) hv (by decide) hk ?_⟩
  rw [z 2 (by decide)]
  refine ⟨fun q2 => nmB_iff.mpr ?_, fun q => h1 (fun e => q e.2.2)⟩
  obtain ⟨k, rfl⟩ : ∃ m, k = m + 1 := ⟨k - 1, by omega⟩
  rw [pk_m1]
  exact h0 (fun e => e ⟨q0, q1, q2⟩)
theorem sp_degC {Q : Int32 → cS → Prop} {o : Nat} {σ : cS} {v : Nat → Int} (hv : numV σ o v) (hs : sm9 v) (h : Q (nI (dg v)) σ) : v_X4_degreeOf Q o σ := by
  unfold v_X4_degreeOf
  unfold dg at h
  refine st_dC (k := 3) hv hs (by decide) (by decide) (fun p => ?_) (fun p3 => ?_)
  · rw [if_pos (show ¬ (v 3 = 0 ∧ v 7 = 0 ∧ v 11 = 0) from p)] at h; exact h
  rw [if_neg (show ¬ ¬ (v 3 = 0 ∧ v 7 = 0 ∧ v 11 = 0) from p3)] at h
  refine st_dC (k := 2) hv hs (by decide) (by decide) (fun p => ?_) (fun p2 => ?_)
  · rw [if_pos (show ¬ (v 2 = 0 ∧ v 6 = 0 ∧ v 10 = 0) from p)] at h; exact h
  rw [if_neg (show ¬ ¬ (v 2 = 0 ∧ v 6 = 0 ∧ v 10 = 0) from p2)] at h
  refine st_dC (k := 1) hv hs (by decide) (by decide) (fun p => ?_) (fun p1 => ?_)
  · rw [if_pos (show ¬ (v 1 = 0 ∧ v 5 = 0 ∧ v 9 = 0) from p)] at h; exact h
  rw [if_neg (show ¬ ¬ (v 1 = 0 ∧ v 5 = 0 ∧ v 9 = 0) from p1)] at h
  unfold v_X4_degreeOf_2
  exact ⟨fun _ => h, fun q => absurd (by decide) q⟩
theorem sp_kindC {Q : Int32 → cS → Prop} {σ : cS} {v : Nat → Int} (hs : sm9 v) (hr : rel4 σ v) (h : Q (nI (kd v)) σ) : v_X4_kindOf Q (nI (dg v)) σ := by
  have hd := dg_le v
  unfold v_X4_kindOf v_X4_kindOf_28
  unfold kd at h
  refine ⟨fun p => ?_, fun p => ?_⟩
  · rw [if_neg (fun z => p (by rw [z]; rfl))] at h
    have z : ∀ c, c < 4 → (σ.1 14 c = 0 ↔ relv v c = 0) := fun c hc => by rw [hr c hc]; exact iL0 (ab_r (rel_ab hs c))
    refine sp_first (N := 4) rfl (by decide) (fun i hi hne _ => ⟨fun _ => ?_, fun q => absurd (nI_pos' (by omega)) q⟩) (fun h0 => ⟨fun q => absurd q (by decide), fun _ => ?_⟩)
    · rw [if_neg (fun e => hne ((z i hi).mpr (by rcases (show i = 0 ∨ i = 1 ∨ i = 2 ∨ i = 3 by omega) with rfl | rfl | rfl | rfl; exact e.1; exact e.2.1; exact e.2.2.1; exact e.2.2.2)))] at h
      refine ⟨fun q => ?_, fun q => ?_⟩
      · rw [if_neg (fun z => q (by rw [z]; rfl))] at h; exact h
      · rw [if_pos ((nI_eq (b := 2) (by omega) (by decide)).mp q)] at h; exact h
    · rw [if_pos ⟨(z 0 (by decide)).mp (h0 0 (by decide)), (z 1 (by decide)).mp (h0 1 (by decide)), (z 2 (by decide)).mp (h0 2 (by decide)), (z 3 (by decide)).mp (h0 3 (by decide))⟩] at h
      exact h
  · rw [if_pos ((nI_eq (b := 0) (by omega) (by decide)).mp p)] at h; exact h
theorem sp_howMany {Q : Int32 → cS → Prop} {l a b c : Nat} {σ : cS} (hl : l < 3) (ha : a < 3) (hb : b < 3) (hc : c < 3) (h : Q (nI ((if a = l then 1 else 0) + (if b = l then 1 else 0) + (if c = l then 1 else 0))) σ) : v_X4_howMany Q (nI l) (nI a) (nI b) (nI c) σ := by
  have e : ∀ d : Nat, d < 3 → (nI d = nI l ↔ d = l) := fun d hd => nI_eq (by omega) (by omega)
  unfold v_X4_howMany v_X4_howMany_10 v_X4_howMany_20 v_X4_howMany_31
  rw [e a ha, e b hb, e c hc]
  refine ⟨fun p => ⟨fun q => ⟨fun r => ?_, fun r => ?_⟩, fun q => ⟨fun r => ?_, fun r => ?_⟩⟩, fun p => ⟨fun q => ⟨fun r => ?_, fun r => ?_⟩, fun q => ⟨fun r => ?_, fun r => ?_⟩⟩⟩
  · rw [if_neg p, if_neg q, if_neg r] at h; exact h
  · rw [if_neg p, if_neg q, if_pos r] at h; exact h
  · rw [if_neg p, if_pos q, if_neg r] at h; exact h
  · rw [if_neg p, if_pos q, if_pos r] at h; exact h
  · rw [if_pos p, if_neg q, if_neg r] at h; exact h
  · rw [if_pos p, if_neg q, if_pos r] at h; exact h
  · rw [if_pos p, if_pos q, if_neg r] at h; exact h
  · rw [if_pos p, if_pos q, if_pos r] at h; exact h
def sta (d : Nat) : Nat := match d with | 0 => 9 | 1 => 7 | 2 => 4 | _ => 0
theorem sp_place {Q : Int32 → cS → Prop} {x y : Nat} {σ : cS} (h : x + y ≤ 3) (k : Q (nI (sta (x + y) + y)) σ) : v_X0_placeInEquation Q (nI x) (nI y) σ := by
  unfold v_X0_placeInEquation
  rw [nI_add]
  rw [← nI_add] at k
  revert k
  generalize x + y = d at *
  intro k
  rw [if_neg (nI_pos (by omega))]
  refine nmB_iff.mpr ?_
  rw [if_neg (show ¬ (3 : Int32) < nI d from nI_nlt (a := 3) h (by decide))]
  refine nmB_iff.mpr ⟨vp_in_nI (by omega) (by decide), ?_⟩
  rw [nI_clamp (by omega)]
  have e : tSTART d = nI (sta d) := by rcases (show d = 0 ∨ d = 1 ∨ d = 2 ∨ d = 3 by omega) with rfl | rfl | rfl | rfl <;> rfl
  rw [e]
  exact k
theorem cnt_le {a b c : Nat} : ((if a = 0 then 1 else 0) + (if b = 0 then 1 else 0) + (if c = 0 then 1 else 0)) + ((if a = 1 then 1 else 0) + (if b = 1 then 1 else 0) + (if c = 1 then 1 else 0)) ≤ 3 := by
  have e : ∀ d : Nat, (if d = 0 then 1 else 0) + (if d = 1 then 1 else 0) ≤ 1 := by
    intro d
    rcases (show d = 0 ∨ d = 1 ∨ (d ≠ 0 ∧ d ≠ 1) by omega) with rfl | rfl | ⟨p, q⟩
    · decide
    · decide
    · rw [if_neg p, if_neg q]; decide
  have := e a; have := e b; have := e c
  omega
theorem plc_sta (i j k : Nat) : plc i j k = sta (((if i = 0 then 1 else 0) + (if j = 0 then 1 else 0) + (if k = 0 then 1 else 0)) + ((if i = 1 then 1 else 0) + (if j = 1 then 1 else 0) + (if k = 1 then 1 else 0))) + ((if i = 1 then 1 else 0) + (if j = 1 then 1 else 0) + (if k = 1 then 1 else 0)) := rfl
theorem plc_lt {i j k : Nat} (hi : i < 3) (hj : j < 3) (hk : k < 3) : plc i j k < 10 := by
  have : ∀ i, i < 3 → ∀ j, j < 3 → ∀ k, k < 3 → plc i j k < 10 := by decide
  exact this i hi j hj k hk
def isF (σ : cS) (f : Nat) (F : Nat → Int) : Prop := f < 8 ∧ ∀ c, c < 3 → σ.1 10 (3 * f + c) = iL (F c)
def is10 (σ : cS) (r : Nat) (e : Nat → Int) : Prop := ∀ p, p < 10 → σ.1 r p = iL (e p)
def tm3 (F G H : Nat → Int) (i j k p : Nat) : Int := if plc i j k = p then F i * G j * H k else 0
theorem st_add1 {Q : cS → Prop} {r r3 r12 : _} {n f g h i j k : Nat} {x : Int} {σ : cS} {F G H e : Nat → Int} (hr : cLen r = 10) (hr0 : r ≠ 10) (hF : isF σ f F) (hG : isF σ g G) (hH : isF σ h H) (he : is10 σ r e) (hi : i < 3) (hj : j < 3) (hk : k < 3)
    (go : ∀ σ', chg (fun a => a = r) σ σ' → is10 σ' r (fun p => e p + x * tm3 F G H i j k p) → v_X4_addProduct_21 Q r r3 r12 n (iL x) (nI f) (nI g) (nI h) (nI i) (nI j) (nI (k + 1)) σ') : v_X4_addProduct_21 Q r r3 r12 (n + 1) (iL x) (nI f) (nI g) (nI h) (nI i) (nI j) (nI k) σ := by
  have hp := plc_lt hi hj hk
  have hf := hF.1; have hg := hG.1; have hh := hH.1
  unfold v_X4_addProduct_21
  refine ⟨fun q => absurd q (nI_ge (b := 3) hk (by decide)), fun _ => ?_⟩
  refine sp_howMany (l := 0) (by decide) hi hj hk (sp_howMany (l := 1) (by decide) hi hj hk (sp_place cnt_le ?_))
  rw [← plc_sta, show (3 : Int32) = nI 3 from rfl, pk_mul, pk_mul, pk_mul]
  simp only [nI_add]
  rw [hr, nI_clamp (show plc i j k < 2 ^ 31 by omega), nI_clamp (show 3 * f + i < 2 ^ 31 by omega), nI_clamp (show 3 * g + j < 2 ^ 31 by omega), nI_clamp (show 3 * h + k < 2 ^ 31 by omega)]
  refine ⟨vp_in_nI hp (by decide), vp_in_nI (show _ < 24 by omega) (by decide), vp_in_nI (show _ < 24 by omega) (by decide), vp_in_nI (show _ < 24 by omega) (by decide), vp_in_nI hp (by decide), nmB_iff.mpr (nmB_iff.mpr ?_)⟩
  rw [nI_1, hF.2 i hi, hG.2 j hj, hH.2 k hk, he _ hp, iL_mul, iL_mul, iL_mul, iL_add]
  refine go _ (chg_J rfl) (fun p hp2 => ?_)
  rw [cUJ_at]
  unfold tm3
  by_cases q : plc i j k = p
  · subst q
    show _ = iL (e (plc i j k) + x * (if plc i j k = plc i j k then F i * G j * H k else 0))
    rw [updL_at, if_pos rfl]
    simp only [Int.mul_assoc]
  · show _ = iL (e p + x * (if plc i j k = p then F i * G j * H k else 0))
    rw [updL_ne (fun z => q z.symm), if_neg q, he p hp2, Int.mul_zero, Int.add_zero]
theorem isF_chg {σ σ' : cS} {r f : Nat} {F : Nat → Int} (h : isF σ f F) (hc : chg (fun a => a = r) σ σ') (hr : r ≠ 10) : isF σ' f F := ⟨h.1, fun c k => by rw [hc.1 10 (fun z => hr z.symm)]; exact h.2 c k⟩
theorem is10_eq {σ : cS} {r : Nat} {e e' : Nat → Int} (h : is10 σ r e) (q : ∀ p, e p = e' p) : is10 σ r e' := fun p hp => by rw [← q p]; exact h p hp
theorem add3x (e x a b c : Int) : e + x * a + x * b + x * c = e + x * (a + b + c) := by rw [Int.mul_add, Int.mul_add]; omega
theorem st_add2 {Q : cS → Prop} {r r3 : _} {n f g h i j : Nat} {x : Int} {σ : cS} {F G H e : Nat → Int} (hr : cLen r = 10) (hr0 : r ≠ 10) (hF : isF σ f F) (hG : isF σ g G) (hH : isF σ h H) (he : is10 σ r e) (hi : i < 3) (hj : j < 3)
    (go : ∀ σ', chg (fun a => a = r) σ σ' → is10 σ' r (fun p => e p + x * sum3 (fun k => tm3 F G H i j k p)) → v_X4_addProduct_12 Q r r3 n (iL x) (nI f) (nI g) (nI h) (nI i) (nI (j + 1)) σ') : v_X4_addProduct_12 Q r r3 (n + 1) (iL x) (nI f) (nI g) (nI h) (nI i) (nI j) σ := by
  unfold v_X4_addProduct_12
  refine ⟨fun q => absurd q (nI_ge (b := 3) hj (by decide)), fun _ => ?_⟩
  refine st_add1 (k := 0) hr hr0 hF hG hH he hi hj (by decide) (fun s1 c1 e1 => ?_)
  refine st_add1 (k := 1) hr hr0 (isF_chg hF c1 hr0) (isF_chg hG c1 hr0) (isF_chg hH c1 hr0) e1 hi hj (by decide) (fun s2 c2 e2 => ?_)
  have c12 := chg_t2 c1 c2
  refine st_add1 (k := 2) hr hr0 (isF_chg hF c12 hr0) (isF_chg hG c12 hr0) (isF_chg hH c12 hr0) e2 hi hj (by decide) (fun s3 c3 e3 => ?_)
  unfold v_X4_addProduct_21
  refine ⟨fun _ => nmB_iff.mpr ?_, fun q => absurd (by decide) q⟩
  rw [nI_1]
  exact go _ (chg_t2 c12 c3) (is10_eq e3 (fun p => add3x _ _ _ _ _))
theorem st_add3 {Q : cS → Prop} {r : _} {n f g h i : Nat} {x : Int} {σ : cS} {F G H e : Nat → Int} (hr : cLen r = 10) (hr0 : r ≠ 10) (hF : isF σ f F) (hG : isF σ g G) (hH : isF σ h H) (he : is10 σ r e) (hi : i < 3)
    (go : ∀ σ', chg (fun a => a = r) σ σ' → is10 σ' r (fun p => e p + x * sum3 (fun j => sum3 (fun k => tm3 F G H i j k p))) → v_X4_addProduct_3 Q r n (iL x) (nI f) (nI g) (nI h) (nI (i + 1)) σ') : v_X4_addProduct_3 Q r (n + 1) (iL x) (nI f) (nI g) (nI h) (nI i) σ := by
  unfold v_X4_addProduct_3
  refine ⟨fun q => absurd q (nI_ge (b := 3) hi (by decide)), fun _ => ?_⟩
  refine st_add2 (j := 0) hr hr0 hF hG hH he hi (by decide) (fun s1 c1 e1 => ?_)
  refine st_add2 (j := 1) hr hr0 (isF_chg hF c1 hr0) (isF_chg hG c1 hr0) (isF_chg hH c1 hr0) e1 hi (by decide) (fun s2 c2 e2 => ?_)
  have c12 := chg_t2 c1 c2
  refine st_add2 (j := 2) hr hr0 (isF_chg hF c12 hr0) (isF_chg hG c12 hr0) (isF_chg hH c12 hr0) e2 hi (by decide) (fun s3 c3 e3 => ?_)
  unfold v_X4_addProduct_12
  refine ⟨fun _ => nmB_iff.mpr ?_, fun q => absurd (by decide) q⟩
  rw [nI_1]
  exact go _ (chg_t2 c12 c3) (is10_eq e3 (fun p => add3x _ _ _ _ _))
theorem sp_addC {Q : cS → Prop} {r f g h : Nat} {x : Int} {σ : cS} {F G H e : Nat → Int} (hr : cLen r = 10) (hr0 : r ≠ 10) (hF : isF σ f F) (hG : isF σ g G) (hH : isF σ h H) (he : is10 σ r e)
    (go : ∀ σ', chg (fun a => a = r) σ σ' → is10 σ' r (fun p => e p + x * pr3 F G H p) → Q σ') : v_X4_addProduct Q r (iL x) (nI f) (nI g) (nI h) σ := by
  unfold v_X4_addProduct
  refine st_add3 (i := 0) hr hr0 hF hG hH he (by decide) (fun s1 c1 e1 => ?_)
  refine st_add3 (i := 1) hr hr0 (isF_chg hF c1 hr0) (isF_chg hG c1 hr0) (isF_chg hH c1 hr0) e1 (by decide) (fun s2 c2 e2 => ?_)
  have c12 := chg_t2 c1 c2
  refine st_add3 (i := 2) hr hr0 (isF_chg hF c12 hr0) (isF_chg hG c12 hr0) (isF_chg hH c12 hr0) e2 (by decide) (fun s3 c3 e3 => ?_)
  unfold v_X4_addProduct_3
  refine ⟨fun _ => ?_, fun q => absurd (by decide) q⟩
  exact go _ (chg_t2 c12 c3) (is10_eq e3 (fun p => add3x _ _ _ _ _))
