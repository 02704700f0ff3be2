/-! PURE: the reference's EQUATION -/
theorem pr3_sw (F G H : Nat → Int) {p : Nat} (hp : p < 10) : pr3 F G H p = pr3 F H G p ∧ pr3 F G H p = pr3 G F H p := by
  rcases (show p = 0 ∨ p = 1 ∨ p = 2 ∨ p = 3 ∨ p = 4 ∨ p = 5 ∨ p = 6 ∨ p = 7 ∨ p = 8 ∨ p = 9 by omega) with rfl | rfl | rfl | rfl | rfl | rfl | rfl | rfl | rfl | rfl <;> constructor <;> simp [pr3, sum3, plc] <;> grind
def bz (σ : mS) (a : Nat) (F : Nat → Int) : Prop := a + 3 ≤ 27 ∧ ∀ c, c < 3 → σ.1 9 (a + c) = iL (F c)
def eqM (σ : mS) (e : Nat → Int) : Prop := ∀ p, p < 10 → σ.1 10 p = iL (e p)
theorem bz_10 {σ σ' : mS} {a : Nat} {F : Nat → Int} (h : bz σ a F) (hc : mch (fun x => x = 10) σ σ') : bz σ' a F := ⟨h.1, fun c k => by rw [hc.1 9 (by decide)]; exact h.2 c k⟩
theorem pick01 {P : Int32 → Prop} {i l : Nat} (hi : i < 3) (hl : l < 3) (h : P (nI (if i = l then 1 else 0))) : (¬ nI i = nI l → P 0) ∧ (nI i = nI l → P 1) := by
  have e : nI i = nI l ↔ i = l := nI_eq (by omega) (by omega)
  rw [e]
  refine ⟨fun q => ?_, fun q => ?_⟩
  · rw [if_neg q] at h; exact h
  · rw [if_pos q] at h; exact h
theorem sp_placeM {Q : Int32 → mS → Prop} {x y : Nat} {σ : mS} (h : x + y ≤ 3) (k : Q (nI (sta (x + y) + y)) σ) : w_placeOf Q (nI x) (nI y) σ := by
  unfold w_placeOf w_placeOf_38
  rw [nI_add]
  have e : ∀ d, d < 4 → (nI (x + y) = nI d ↔ x + y = d) := fun d hd => nI_eq (by omega) (by omega)
  refine nmB_iff.mpr ?_
  have e3 := e 3 (by decide); have e2 := e 2 (by decide); have e1 := e 1 (by decide)
  refine ⟨fun q3 => ⟨fun q2 => ⟨fun q1 => ?_, fun q1 => ?_⟩, fun q2 => ?_⟩, fun q3 => ?_⟩
  · have d0 : x + y = 0 := by
      have a3 : x + y ≠ 3 := fun z => q3 (e3.mpr z)
      have a2 : x + y ≠ 2 := fun z => q2 (e2.mpr z)
      have a1 : x + y ≠ 1 := fun z => q1 (e1.mpr z)
      omega
    rw [d0, show y = 0 by omega] at k
    exact k
  · have d1 := e1.mp q1
    rw [d1] at k
    rw [show (7 : Int32) = nI 7 from rfl, nI_add]; exact k
  · have d2 := e2.mp q2
    rw [d2] at k
    rw [show (4 : Int32) = nI 4 from rfl, nI_add]; exact k
  · have d3 := e3.mp q3
    rw [d3] at k
    have : sta 3 + y = y := by show 0 + y = y; omega
    rw [this] at k
    exact k
/-- the third factor: a form, or the form 1 -/
def hm3 (σ : mS) (x : Int32) (H : Nat → Int) (k : Nat) : Prop := (∃ c, x = nI c ∧ bz σ c H) ∨ (x = -1 ∧ H = one3 ∧ k = 2)
theorem st_addM1 {Q : mS → Prop} {r3 r12 : _} {n a b i j k : Nat} {x3 : Int32} {x : Int} {σ : mS} {F G H e : Nat → Int} (hF : bz σ a F) (hG : bz σ b G) (hH : hm3 σ x3 H k) (he : eqM σ e) (hi : i < 3) (hj : j < 3) (hk : k < 3)
    (go : ∀ σ', mch (fun y => y = 10) σ σ' → eqM σ' (fun p => e p + x * tm3 F G H i j k p) → w_addProduct_29 Q r3 r12 n (nI a) (nI b) x3 (iL x) (nI i) (nI j) (nI (k + 1)) σ') : w_addProduct_29 Q r3 r12 (n + 1) (nI a) (nI b) x3 (iL x) (nI i) (nI j) (nI k) σ := by
  have hp := plc_lt hi hj hk
  have ha := hF.1; have hb := hG.1
  unfold w_addProduct_29
  refine ⟨fun q => absurd q (nI_ge (b := 3) hk (by decide)), fun _ => ?_⟩
  refine pick01 (P := fun z => w_addProduct_45 Q r3 r12 (w_addProduct_29 Q r3 r12 n) (nI a) (nI b) x3 (iL x) (nI i) (nI j) (nI k) z σ) (l := 0) hi (by decide) ?_
  show w_addProduct_45 Q r3 r12 (w_addProduct_29 Q r3 r12 n) (nI a) (nI b) x3 (iL x) (nI i) (nI j) (nI k) (nI (if i = 0 then 1 else 0)) σ
  unfold w_addProduct_45
  refine pick01 (P := fun z => w_addProduct_55 Q r3 r12 (w_addProduct_29 Q r3 r12 n) (nI a) (nI b) x3 (iL x) (nI i) (nI j) (nI k) (nI (if i = 0 then 1 else 0)) z σ) (l := 0) hj (by decide) ?_
  show w_addProduct_55 Q r3 r12 (w_addProduct_29 Q r3 r12 n) (nI a) (nI b) x3 (iL x) (nI i) (nI j) (nI k) (nI (if i = 0 then 1 else 0)) (nI (if j = 0 then 1 else 0)) σ
  unfold w_addProduct_55
  rw [nI_add]
  refine pick01 (P := fun z => w_addProduct_66 Q r3 r12 (w_addProduct_29 Q r3 r12 n) (nI a) (nI b) x3 (iL x) (nI i) (nI j) (nI k) (nI ((if i = 0 then 1 else 0) + (if j = 0 then 1 else 0))) z σ) (l := 0) hk (by decide) ?_
  show w_addProduct_66 Q r3 r12 (w_addProduct_29 Q r3 r12 n) (nI a) (nI b) x3 (iL x) (nI i) (nI j) (nI k) (nI ((if i = 0 then 1 else 0) + (if j = 0 then 1 else 0))) (nI (if k = 0 then 1 else 0)) σ
  unfold w_addProduct_66
  rw [nI_add]
  refine nmB_iff.mpr ?_
  refine pick01 (P := fun z => w_addProduct_80 Q r3 r12 (w_addProduct_29 Q r3 r12 n) (nI a) (nI b) x3 (iL x) (nI i) (nI j) (nI k) (nI ((if i = 0 then 1 else 0) + (if j = 0 then 1 else 0) + (if k = 0 then 1 else 0))) z σ) (l := 1) hi (by decide) ?_
  show w_addProduct_80 Q r3 r12 (w_addProduct_29 Q r3 r12 n) (nI a) (nI b) x3 (iL x) (nI i) (nI j) (nI k) (nI ((if i = 0 then 1 else 0) + (if j = 0 then 1 else 0) + (if k = 0 then 1 else 0))) (nI (if i = 1 then 1 else 0)) σ
  unfold w_addProduct_80
  refine pick01 (P := fun z => w_addProduct_91 Q r3 r12 (w_addProduct_29 Q r3 r12 n) (nI a) (nI b) x3 (iL x) (nI i) (nI j) (nI k) (nI ((if i = 0 then 1 else 0) + (if j = 0 then 1 else 0) + (if k = 0 then 1 else 0))) (nI (if i = 1 then 1 else 0)) z σ) (l := 1) hj (by decide) ?_
  show w_addProduct_91 Q r3 r12 (w_addProduct_29 Q r3 r12 n) (nI a) (nI b) x3 (iL x) (nI i) (nI j) (nI k) (nI ((if i = 0 then 1 else 0) + (if j = 0 then 1 else 0) + (if k = 0 then 1 else 0))) (nI (if i = 1 then 1 else 0)) (nI (if j = 1 then 1 else 0)) σ
  unfold w_addProduct_91
  rw [nI_add]
  refine pick01 (P := fun z => w_addProduct_103 Q r3 r12 (w_addProduct_29 Q r3 r12 n) (nI a) (nI b) x3 (iL x) (nI i) (nI j) (nI k) (nI ((if i = 0 then 1 else 0) + (if j = 0 then 1 else 0) + (if k = 0 then 1 else 0))) (nI ((if i = 1 then 1 else 0) + (if j = 1 then 1 else 0))) z σ) (l := 1) hk (by decide) ?_
  show w_addProduct_103 Q r3 r12 (w_addProduct_29 Q r3 r12 n) (nI a) (nI b) x3 (iL x) (nI i) (nI j) (nI k) (nI ((if i = 0 then 1 else 0) + (if j = 0 then 1 else 0) + (if k = 0 then 1 else 0))) (nI ((if i = 1 then 1 else 0) + (if j = 1 then 1 else 0))) (nI (if k = 1 then 1 else 0)) σ
  unfold w_addProduct_103
  rw [nI_add]
  refine nmB_iff.mpr ?_
  have fin : w_addProduct_123 Q r3 r12 (w_addProduct_29 Q r3 r12 n) (nI a) (nI b) x3 (iL x) (nI i) (nI j) (nI k) (nI ((if i = 0 then 1 else 0) + (if j = 0 then 1 else 0) + (if k = 0 then 1 else 0))) (nI ((if i = 1 then 1 else 0) + (if j = 1 then 1 else 0) + (if k = 1 then 1 else 0))) (iL (H k)) σ := by
    unfold w_addProduct_123
    refine sp_placeM cnt_le ?_
    rw [← plc_sta]
    simp only [nI_add]
    rw [nI_clamp (show plc i j k < 2 ^ 31 by omega), nI_clamp (show a + i < 2 ^ 31 by omega), nI_clamp (show b + j < 2 ^ 31 by omega)]
    refine ⟨vp_in_nI hp (by decide), vp_in_nI (by omega) (by decide), vp_in_nI (by omega) (by decide), vp_in_nI hp (by decide), nmB_iff.mpr (nmB_iff.mpr ?_)⟩
    rw [nI_1, hF.2 i hi, hG.2 j hj, he _ hp, iL_mul, iL_mul, iL_mul, iL_add]
    refine go _ (mch_J rfl) (fun p hp2 => ?_)
    rw [mUJ_at]
    unfold tm3
    by_cases q : plc i j k = p
    · subst q
      show _ = iL (e (plc i j k) + x * (if plc i j k = plc i j k then F i * G j * H k else 0))
      rw [updL_at, if_pos rfl]
      simp only [Int.mul_assoc]
    · show _ = iL (e p + x * (if plc i j k = p then F i * G j * H k else 0))
      rw [updL_ne (fun z => q z.symm), if_neg q, he p hp2, Int.mul_zero, Int.add_zero]
  rcases hH with ⟨c, rfl, hc⟩ | ⟨rfl, hh, hk2⟩
  · have hc1 := hc.1
    refine ⟨fun _ => ?_, fun q => absurd (nI_pos' (by omega)) q⟩
    rw [nI_add, nI_clamp (show c + k < 2 ^ 31 by omega), hc.2 k hk]
    exact ⟨vp_in_nI (by omega) (by decide), fin⟩
  · refine ⟨fun q => absurd q (by decide), fun _ => ?_⟩
    rw [hh, hk2] at fin
    rw [hk2]
    exact fin
theorem hm3_10 {σ σ' : mS} {x : Int32} {H : Nat → Int} {k : Nat} (h : hm3 σ x H k) (hc : mch (fun x => x = 10) σ σ') : hm3 σ' x H k := by
  rcases h with ⟨c, h1, h2⟩ | h
  · exact Or.inl ⟨c, h1, bz_10 h2 hc⟩
  · exact Or.inr h
theorem eqM_eq {σ : mS} {e e' : Nat → Int} (h : eqM σ e) (q : ∀ p, e p = e' p) : eqM σ e' := fun p hp => by rw [← q p]; exact h p hp
/-- the third factor of a whole product -/
def hp3 (σ : mS) (x : Int32) (H : Nat → Int) : Prop := (∃ c, x = nI c ∧ bz σ c H) ∨ (x = -1 ∧ H = one3)
theorem hp3_10 {σ σ' : mS} {x : Int32} {H : Nat → Int} (h : hp3 σ x H) (hc : mch (fun x => x = 10) σ σ') : hp3 σ' x H := by
  rcases h with ⟨c, h1, h2⟩ | h
  · exact Or.inl ⟨c, h1, bz_10 h2 hc⟩
  · exact Or.inr h
theorem st_addM2 {Q : mS → Prop} {r3 : _} {n a b i j : Nat} {x3 : Int32} {x : Int} {σ : mS} {F G H e : Nat → Int} (hF : bz σ a F) (hG : bz σ b G) (hH : hp3 σ x3 H) (he : eqM σ e) (hi : i < 3) (hj : j < 3)
    (go : ∀ σ', mch (fun y => y = 10) σ σ' → eqM σ' (fun p => e p + x * sum3 (fun k => tm3 F G H i j k p)) → w_addProduct_12 Q r3 n (nI a) (nI b) x3 (iL x) (nI i) (nI (j + 1)) σ') : w_addProduct_12 Q r3 (n + 1) (nI a) (nI b) x3 (iL x) (nI i) (nI j) σ := by
  unfold w_addProduct_12 w_addProduct_27
  refine ⟨fun q => absurd q (nI_ge (b := 3) hj (by decide)), fun _ => ?_⟩
  rcases hH with ⟨c, rfl, hc⟩ | ⟨rfl, rfl⟩
  · have hc1 := hc.1
    refine ⟨fun _ => ?_, fun q => absurd (nI_pos' (by omega)) q⟩
    have hm : ∀ k, hm3 σ (nI c) H k := fun k => Or.inl ⟨c, rfl, hc⟩
    refine st_addM1 (k := 0) hF hG (hm 0) he hi hj (by decide) (fun s1 c1 e1 => ?_)
    refine st_addM1 (k := 1) (bz_10 hF c1) (bz_10 hG c1) (hm3_10 (hm 1) c1) e1 hi hj (by decide) (fun s2 c2 e2 => ?_)
    have c12 := mch_t c1 c2
    refine st_addM1 (k := 2) (bz_10 hF c12) (bz_10 hG c12) (hm3_10 (hm 2) c12) e2 hi hj (by decide) (fun s3 c3 e3 => ?_)
    unfold w_addProduct_29
    refine ⟨fun _ => nmB_iff.mpr ?_, fun q => absurd (by decide) q⟩
    rw [nI_1]
    exact go _ (mch_t c12 c3) (eqM_eq e3 (fun p => add3x _ _ _ _ _))
  · refine ⟨fun q => absurd q (by decide), fun _ => ?_⟩
    refine st_addM1 (k := 2) (H := one3) hF hG (Or.inr ⟨rfl, rfl, rfl⟩) he hi hj (by decide) (fun s3 c3 e3 => ?_)
    unfold w_addProduct_29
    refine ⟨fun _ => nmB_iff.mpr ?_, fun q => absurd (by decide) q⟩
    rw [nI_1]
    refine go _ c3 (eqM_eq e3 (fun p => ?_))
    have z : ∀ k, k < 2 → tm3 F G one3 i j k p = 0 := by
      intro k hk
      unfold tm3
      split
      · rcases (show k = 0 ∨ k = 1 by omega) with rfl | rfl <;> simp [one3]
      · rfl
    show _ = e p + x * (tm3 F G one3 i j 0 p + tm3 F G one3 i j 1 p + tm3 F G one3 i j 2 p)
    rw [z 0 (by decide), z 1 (by decide)]
    simp
theorem st_addM3 {Q : mS → Prop} {n a b i : Nat} {x3 : Int32} {x : Int} {σ : mS} {F G H e : Nat → Int} (hF : bz σ a F) (hG : bz σ b G) (hH : hp3 σ x3 H) (he : eqM σ e) (hi : i < 3)
    (go : ∀ σ', mch (fun y => y = 10) σ σ' → eqM σ' (fun p => e p + x * sum3 (fun j => sum3 (fun k => tm3 F G H i j k p))) → w_addProduct_3 Q n (nI a) (nI b) x3 (iL x) (nI (i + 1)) σ') : w_addProduct_3 Q (n + 1) (nI a) (nI b) x3 (iL x) (nI i) σ := by
  unfold w_addProduct_3
  refine ⟨fun q => absurd q (nI_ge (b := 3) hi (by decide)), fun _ => ?_⟩
  refine st_addM2 (j := 0) hF hG hH he hi (by decide) (fun s1 c1 e1 => ?_)
  refine st_addM2 (j := 1) (bz_10 hF c1) (bz_10 hG c1) (hp3_10 hH c1) e1 hi (by decide) (fun s2 c2 e2 => ?_)
  have c12 := mch_t c1 c2
  refine st_addM2 (j := 2) (bz_10 hF c12) (bz_10 hG c12) (hp3_10 hH c12) e2 hi (by decide) (fun s3 c3 e3 => ?_)
  unfold w_addProduct_12
  refine ⟨fun _ => nmB_iff.mpr ?_, fun q => absurd (by decide) q⟩
  rw [nI_1]
  exact go _ (mch_t c12 c3) (eqM_eq e3 (fun p => add3x _ _ _ _ _))
theorem sp_addM {Q : mS → Prop} {a b : Nat} {x3 : Int32} {x : Int} {σ : mS} {F G H e : Nat → Int} (hF : bz σ a F) (hG : bz σ b G) (hH : hp3 σ x3 H) (he : eqM σ e)
    (go : ∀ σ', mch (fun y => y = 10) σ σ' → eqM σ' (fun p => e p + x * pr3 F G H p) → Q σ') : w_addProduct Q (nI a) (nI b) x3 (iL x) σ := by
  unfold w_addProduct
  refine st_addM3 (i := 0) hF hG hH he (by decide) (fun s1 c1 e1 => ?_)
  refine st_addM3 (i := 1) (bz_10 hF c1) (bz_10 hG c1) (hp3_10 hH c1) e1 (by decide) (fun s2 c2 e2 => ?_)
  have c12 := mch_t c1 c2
  refine st_addM3 (i := 2) (bz_10 hF c12) (bz_10 hG c12) (hp3_10 hH c12) e2 (by decide) (fun s3 c3 e3 => ?_)
  unfold w_addProduct_3
  refine ⟨fun _ => ?_, fun q => absurd (by decide) q⟩
  exact go _ (mch_t c12 c3) (eqM_eq e3 (fun p => add3x _ _ _ _ _))
theorem sp_addPair {Q : mS → Prop} {l a i j : Nat} {σ : mS} {v F : Nat → Int} (hl : l < 4) (hi : i < 4) (hj : j < 4) (hv : ofV σ l v) (hF : bz σ a F) (h : ∀ σ', mch (fun x => x = 9) σ σ' → bz σ' a (fun c => F c + fo3 v i j c) → (∀ k, (k < a ∨ a + 3 ≤ k) → σ'.1 9 k = σ.1 9 k) → Q σ') : w_addPair Q (nI l) (nI a) (nI i) (nI j) σ := by
  have ha := hF.1
  have e : ∀ w k, w < 3 → k < 4 → σ.1 2 (12 * l + 4 * w + k) = iL (vc v k w) := fun w k hw hk => by
    rw [show 12 * l + 4 * w + k = 12 * l + (4 * w + k) by omega]; exact hv.1 (4 * w + k) (by omega)
  have f0 := hF.2 0 (by decide); have f1 := hF.2 1 (by decide); have f2 := hF.2 2 (by decide)
  unfold w_addPair
  refine nmB_iff.mpr ?_
  rw [show (12 : Int32) = nI 12 from rfl, show (4 : Int32) = nI (4 * 1) from rfl, show (8 : Int32) = nI (4 * 2) from rfl, show (2 : Int32) = nI 2 from rfl, show (1 : Int32) = nI 1 from rfl, pk_mul]
  simp only [nI_add]
  rw [nI_clamp (show a < 2 ^ 31 by omega), nI_clamp (show a + 1 < 2 ^ 31 by omega), nI_clamp (show a + 2 < 2 ^ 31 by omega), nI_clamp (show 12 * l + i < 2 ^ 31 by omega), nI_clamp (show 12 * l + j < 2 ^ 31 by omega), nI_clamp (show 12 * l + 4 * 1 + i < 2 ^ 31 by omega), nI_clamp (show 12 * l + 4 * 1 + j < 2 ^ 31 by omega), nI_clamp (show 12 * l + 4 * 2 + i < 2 ^ 31 by omega), nI_clamp (show 12 * l + 4 * 2 + j < 2 ^ 31 by omega)]
  have w48 : ∀ k : Nat, k < 48 → vp_in (nI k) 48 := fun k hk => vp_in_nI hk (by decide)
  have w27 : ∀ k : Nat, k < 27 → vp_in (nI k) 27 := fun k hk => vp_in_nI hk (by decide)
  have e0i := e 0 i (by decide) hi; have e0j := e 0 j (by decide) hj
  have e1i := e 1 i (by decide) hi; have e1j := e 1 j (by decide) hj
  have e2i := e 2 i (by decide) hi; have e2j := e 2 j (by decide) hj
  rw [show 12 * l + 4 * 0 + i = 12 * l + i by omega] at e0i
  rw [show 12 * l + 4 * 0 + j = 12 * l + j by omega] at e0j
  rw [show a + 0 = a from rfl] at f0
  refine ⟨w27 _ (by omega), w48 _ (by omega), w48 _ (by omega), w48 _ (by omega), w48 _ (by omega), w27 _ (by omega), nmB_iff.mpr ?_⟩
  refine ⟨w27 _ (by omega), w48 _ (by omega), w48 _ (by omega), w48 _ (by omega), w48 _ (by omega), w27 _ (by omega), nmB_iff.mpr ?_⟩
  refine ⟨w27 _ (by omega), w48 _ (by omega), w48 _ (by omega), w48 _ (by omega), w48 _ (by omega), w27 _ (by omega), nmB_iff.mpr ?_⟩
  refine h _ (mch_t (mch_t (mch_J rfl) (mch_J rfl)) (mch_J rfl)) ⟨ha, fun c hc => ?_⟩ (fun k hk => ?_)
  · rw [mUJ_at, mUJ_at, mUJ_at]
    rcases (show c = 0 ∨ c = 1 ∨ c = 2 by omega) with rfl | rfl | rfl
    · rw [updL_ne (by omega), updL_ne (by omega), show a + 0 = a from rfl, updL_at, f0, e2j, e1i, e2i, e1j, iL_mul, iL_mul, iL_sub, iL_add]
      congr 1
      show _ = F 0 + (vc v i 1 * vc v j 2 - vc v i 2 * vc v j 1)
      rw [Int.mul_comm (vc v j 2)]
    · rw [updL_ne (by omega), updL_at, updL_ne (by omega), f1, mUJ_ne (by decide), e0j, e2i, e0i, e2j, iL_mul, iL_mul, iL_sub, iL_add]
      congr 1
      show _ = F 1 + (vc v i 2 * vc v j 0 - vc v i 0 * vc v j 2)
      rw [Int.mul_comm (vc v j 0)]
    · rw [updL_at, updL_ne (by omega), updL_ne (by omega), f2, mUJ_ne (by decide), mUJ_ne (by decide), e0i, e1j, e0j, e1i, iL_mul, iL_mul, iL_sub, iL_add]
      congr 1
      show _ = F 2 + (vc v i 0 * vc v j 1 - vc v i 1 * vc v j 0)
      rw [Int.mul_comm (vc v j 0)]
  · rw [mUJ_at, mUJ_at, mUJ_at, updL_ne (by omega), updL_ne (by omega), updL_ne (by omega)]
