/-! PURE: the reference's tidying; touch (promise 18) -/
/-- only rows of longs that P names are other -/
def mch (P : Nat → Prop) (σ σ' : mS) : Prop := (∀ a, ¬ P a → σ'.1 a = σ.1 a) ∧ σ'.2 = σ.2
theorem mch_rf {P : Nat → Prop} {σ : mS} : mch P σ σ := ⟨fun _ _ => rfl, rfl⟩
theorem mch_t {P : Nat → Prop} {a b c : mS} (h : mch P a b) (g : mch P b c) : mch P a c := ⟨fun x hx => by rw [g.1 x hx, h.1 x hx], by rw [g.2, h.2]⟩
theorem mch_w {P R : Nat → Prop} {a b : mS} (h : mch P a b) (hp : ∀ x, P x → R x) : mch R a b := ⟨fun x hx => h.1 x (fun z => hx (hp x z)), h.2⟩
theorem mch_J {P : Nat → Prop} {σ : mS} {a i : Nat} {x : Int64} (h : P a) : mch P σ (mUJ σ a i x) := ⟨fun b hb => mUJ_ne (fun z => hb (z ▸ h)), rfl⟩
theorem mch_6 {P : Nat → Prop} {σ σ' : mS} (h : s6 σ σ') (hp : P 6) : mch P σ σ' := ⟨fun a ha => h.1 a (fun z => ha (z ▸ hp)), h.2⟩
theorem mch_keep {P : Nat → Prop} {σ σ' : mS} (h : mch P σ σ') (hp : ¬ P 2) : mKeep σ σ' := ⟨h.1 2 hp, by rw [h.2], by rw [h.2]⟩
theorem ofV_mch {P : Nat → Prop} {σ σ' : mS} {j : Nat} {v : Nat → Int} (h : ofV σ j v) (hs : mch P σ σ') (hp : ¬ P 2) : ofV σ' j v := ⟨fun i hi => by rw [hs.1 2 hp]; exact h.1 i hi, h.2⟩
theorem tdiv_neg_iff {x : Int} {g : Nat} (hg : 0 < g) (hd : (g : Int) ∣ x) : x.tdiv g < 0 ↔ x < 0 := by
  obtain ⟨u, rfl⟩ := hd
  have hg' : (g : Int) ≠ 0 := by omega
  rw [Int.mul_tdiv_cancel_left u hg']
  constructor
  · intro h
    exact Int.mul_neg_of_pos_of_neg (by omega) h
  · intro h
    rcases Int.lt_or_le u 0 with q | q
    · exact q
    · have := Int.mul_nonneg (show (0 : Int) ≤ (g : Int) by omega) q
      omega
theorem tidy_val {z : Nat → Int} {N t : Nat} (ht : t < N) (hz : z t ≠ 0) (i : Nat) : (z t < 0 → tidyN z N t i = (z i).tdiv (-(gcdN z N : Int))) ∧ (¬ z t < 0 → tidyN z N t i = (z i).tdiv (gcdN z N)) := by
  have e := tdiv_neg_iff (gcdN_pos ht hz) (gcdN_dvd (z := z) ht)
  unfold tidyN
  refine ⟨fun h => ?_, fun h => ?_⟩
  · rw [if_pos (e.mpr h), Int.tdiv_neg]
  · rw [if_neg (fun q => h (e.mp q))]
theorem gcdN3 (z : Nat → Int) : gcdN z 3 = Int.gcd ((Int.gcd (z 0) (z 1) : Nat) : Int) (z 2) := by
  show Nat.gcd (Nat.gcd (Nat.gcd 0 (z 0).natAbs) (z 1).natAbs) (z 2).natAbs = Nat.gcd ((Nat.gcd (z 0).natAbs (z 1).natAbs : Nat) : Int).natAbs (z 2).natAbs
  rw [Nat.gcd_zero_left, Int.natAbs_natCast]
theorem fst3 (z : Nat → Int) : fst0 z 3 = if z 0 ≠ 0 then 0 else if z 1 ≠ 0 then 1 else if z 2 ≠ 0 then 2 else 3 := by
  show (if z (3 - (2 + 1)) = 0 then (if z (3 - (1 + 1)) = 0 then (if z (3 - (0 + 1)) = 0 then 3 else 3 - (0 + 1)) else 3 - (1 + 1)) else 3 - (2 + 1)) = _
  show (if z 0 = 0 then (if z 1 = 0 then (if z 2 = 0 then 3 else 2) else 1) else 0) = _
  by_cases h0 : z 0 = 0
  · by_cases h1 : z 1 = 0
    · by_cases h2 : z 2 = 0 <;> simp [h0, h1, h2]
    · simp [h0, h1]
  · simp [h0]
theorem lst3 (z : Nat → Int) : lst0 z 3 3 = if z 2 ≠ 0 then 2 else if z 1 ≠ 0 then 1 else if z 0 ≠ 0 then 0 else 3 := by
  show (if z 2 = 0 then (if z 1 = 0 then (if z 0 = 0 then 3 else 0) else 1) else 2) = _
  by_cases h0 : z 2 = 0
  · by_cases h1 : z 1 = 0
    · by_cases h2 : z 0 = 0 <;> simp [h0, h1, h2]
    · simp [h0, h1]
  · simp [h0]
def is8 (σ : mS) (z : Nat → Int) : Prop := ∀ c, c < 3 → σ.1 8 c = iL (z c)
theorem sp_tidyDiv {Q : mS → Prop} {σ : mS} {z : Nat → Int} {g : Int} (hz : is8 σ z) (hr : ∀ c, c < 3 → r63 (z c)) (hg : r63 g) (h0 : g ≠ 0) (h : ∀ σ', mch (fun a => a = 8) σ σ' → is8 σ' (fun c => (z c).tdiv g) → Q σ') : w_tidy_143 Q (iL g) σ := by
  unfold w_tidy_143
  refine loopU (N := 3) (F := fun n x s => w_tidy_147 Q n (iL g) x s) (I := fun c s => mch (fun a => a = 8) σ s ∧ ∀ p, p < 3 → s.1 8 p = iL (if p < c then (z p).tdiv g else z p)) (by decide) ?_ ?_ σ ⟨mch_rf, fun p hp => by rw [if_neg (by omega)]; exact hz p hp⟩
  · intro n c s hc ⟨h1, h2⟩ go
    show w_tidy_147 Q (n + 1) (iL g) (nI c) s
    unfold w_tidy_147
    have w0 := vp_in_nI hc (show 3 < 2 ^ 31 by decide)
    rw [iL0 hg, nI_clamp (show c < 2 ^ 31 by omega)]
    refine ⟨fun q => absurd q (nI_ge (b := 3) hc (by decide)), fun _ => ⟨w0, h0, w0, nmB_iff.mpr (nmB_iff.mpr ?_)⟩⟩
    rw [nI_1, h2 c hc, if_neg (by omega), iL_div (hr c hc) hg]
    refine go _ ⟨mch_t h1 (mch_J rfl), fun p hp => ?_⟩
    rw [mUJ_at]
    rcases Nat.lt_trichotomy p c with q | q | q
    · rw [updL_ne (by omega), h2 p hp, if_pos q, if_pos (by omega)]
    · subst q; rw [updL_at, if_pos (by omega)]
    · rw [updL_ne (by omega), h2 p hp, if_neg (by omega), if_neg (by omega)]
  · intro n s ⟨h1, h2⟩
    show w_tidy_147 Q (n + 1) (iL g) (nI 3) s
    unfold w_tidy_147
    refine ⟨fun _ => h s h1 (fun p hp => ?_), fun q => absurd (by decide) q⟩
    have := h2 p hp
    rwa [if_pos hp] at this
theorem sp_tidyM {Q : mS → Prop} {σ : mS} {z : Nat → Int} {x : Int32} {t : Nat} (hz : is8 σ z) (hr : ∀ c, c < 3 → r63 (z c)) (hn : nz3 z) (ht : t = if x = 0 then fst0 z 3 else lst0 z 3 3) (h : ∀ σ', mch (fun a => a = 8) σ σ' → is8 σ' (tidyN z 3 t) → Q σ') : w_tidy Q x σ := by
  have hg63 := gcdN_lt (z := z) (N := 3) hr 3 (by decide)
  have hg12 : Int.gcd (z 0) (z 1) < 2 ^ 63 := by
    have := gcdN_lt (z := z) (N := 3) hr 2 (by decide)
    have e : gcdN z 2 = Int.gcd (z 0) (z 1) := by
      show Nat.gcd (Nat.gcd 0 (z 0).natAbs) (z 1).natAbs = _
      rw [Nat.gcd_zero_left]; rfl
    rwa [e] at this
  have e0 := hz 0 (by decide); have e1 := hz 1 (by decide); have e2 := hz 2 (by decide)
  have q0 := iL0 (hr 0 (by decide)); have q1 := iL0 (hr 1 (by decide)); have q2 := iL0 (hr 2 (by decide))
  have fin : ∀ p, p < 3 → z p ≠ 0 → p = t → w_tidy_132 Q (iL (gcdN z 3)) (iL (z p)) σ := by
    intro p hp hzp ep
    subst ep
    have hgp := gcdN_pos hp hzp
    unfold w_tidy_132
    rw [iL_0, iL_le (by unfold r63; omega) (hr p hp), iL_neg]
    refine ⟨fun q => ?_, fun q => ?_⟩
    · refine sp_tidyDiv hz hr (nat_r63 hg63) (by omega) (fun σ' c' e' => h σ' c' (fun c hc => ?_))
      rw [e' c hc, (tidy_val hp hzp c).2 (by omega)]
    · have rn : r63 (-(gcdN z 3 : Int)) := by have := nat_r63 hg63; unfold r63 at *; omega
      refine sp_tidyDiv hz hr rn (by omega) (fun σ' c' e' => h σ' c' (fun c hc => ?_))
      rw [e' c hc, (tidy_val hp hzp c).1 (by omega)]
  unfold w_tidy
  rw [c0, c1, c2]
  refine ⟨vin0, vin1, ?_⟩
  rw [e0, e1]
  refine sp_common (hr 0 (by decide)) (hr 1 (by decide)) ⟨vin2, ?_⟩
  rw [e2]
  refine sp_common (nat_r63 hg12) (hr 2 (by decide)) ?_
  rw [← gcdN3, e0, e1, e2, q0]
  -- the last that isn't 0
  have lst : ∀ p, p < 3 → z p ≠ 0 → p = fst0 z 3 → w_tidy_71 Q x (iL (gcdN z 3)) (iL (z p)) σ := by
    intro p hp hzp ep
    unfold w_tidy_71 w_tidy_119
    rw [c0, c1, c2, e0, e1, e2, q1, q2]
    have two : ∀ l, l < 3 → z l ≠ 0 → l = lst0 z 3 3 → ((x = 0 → w_tidy_132 Q (iL (gcdN z 3)) (iL (z p)) σ) ∧ (¬ x = 0 → w_tidy_132 Q (iL (gcdN z 3)) (iL (z l)) σ)) := by
      intro l hl hzl el
      refine ⟨fun q => fin p hp hzp ?_, fun q => fin l hl hzl ?_⟩
      · rw [ht, if_pos q, ep]
      · rw [ht, if_neg q, el]
    have el := lst3 z
    refine ⟨vin2, fun h2 => ⟨vin1, fun h1 => ⟨vin0, ?_⟩, fun h1 => ⟨vin1, ?_⟩⟩, fun h2 => ⟨vin2, ?_⟩⟩
    · have h0 : z 0 ≠ 0 := fun q => hn ⟨q, h1, h2⟩
      rw [if_neg (fun q => q h2), if_neg (fun q => q h1), if_pos h0] at el
      exact two 0 (by decide) h0 el.symm
    · rw [if_neg (fun q => q h2), if_pos h1] at el
      exact two 1 (by decide) h1 el.symm
    · rw [if_pos h2] at el
      exact two 2 (by decide) h2 el.symm
  have ef := fst3 z
  refine ⟨vin0, fun h0 => ?_, fun h0 => ⟨vin0, ?_⟩⟩
  · rw [q1]
    refine ⟨vin1, fun h1 => ⟨vin2, ?_⟩, fun h1 => ⟨vin1, ?_⟩⟩
    · have h2 : z 2 ≠ 0 := fun q => hn ⟨h0, h1, q⟩
      rw [if_neg (fun q => q h0), if_neg (fun q => q h1), if_pos h2] at ef
      exact lst 2 (by decide) h2 ef.symm
    · rw [if_neg (fun q => q h0), if_pos h1] at ef
      exact lst 1 (by decide) h1 ef.symm
  · rw [if_pos h0] at ef
    exact lst 0 (by decide) h0 ef.symm
/-- THE TOUCH before it is tidied -/
def tcr (v : Nat → Int) (a b : Int) : Nat → Int := crx (fun w => vlu v w a b) (fun w => grw v w a b)
theorem tcr_ab {v : Nat → Int} (h : sm9 v) {a b : Int} (ha : ab a 20) (hb : ab b 20) (c : Nat) : ab (tcr v a b c) 20000000000 := by
  have m : ∀ p q r s, p < 3 → q < 3 → r < 3 → s < 3 → ab (vlu v p a b * grw v q a b - vlu v r a b * grw v s a b) 20000000000 := fun p q r s hp hq hr hs => ab_le (ab_sub (ab_mul (vlu_ab h hp ha hb) (grw_ab h hq ha hb)) (ab_mul (vlu_ab h hr ha hb) (grw_ab h hs ha hb))) (by decide)
  unfold tcr
  match c with
  | 0 => exact m _ _ _ _ (by decide) (by decide) (by decide) (by decide)
  | 1 => exact m _ _ _ _ (by decide) (by decide) (by decide) (by decide)
  | 2 => exact m _ _ _ _ (by decide) (by decide) (by decide) (by decide)
  | _ + 3 => exact ab_0
theorem sp_findTouch {Q : cS → Prop} {o : Nat} {σ : cS} {v : Nat → Int} {x y : Int32} (ho : 19 ≤ o) (hv : numV σ o v) (hs : sm9 v) (ha : ab x.toInt 20) (hb : ab y.toInt 20) (h : ∀ σ', chg (fun a => a = 11 ∨ a = 12 ∨ a = 13 ∨ a = 18) σ σ' → (∀ c, c < 3 → σ'.1 18 c = iL (td (tcr v x.toInt y.toInt) 3 c)) → Q σ') : v_X4_findTouch Q o x y 18 σ := by
  unfold v_X4_findTouch
  refine loopU (N := 3) (F := fun n c s => v_X4_findTouch_3 Q o 18 n x y c s) (I := fun c s => chg (fun x => x = 11 ∨ x = 12) σ s ∧ ∀ k, k < c → s.1 11 k = iL (vlu v k x.toInt y.toInt) ∧ s.1 12 k = iL (grw v k x.toInt y.toInt)) (by decide) ?_ ?_ σ ⟨chg_rf, fun k hk => by omega⟩
  · intro n c s hc ⟨hI, hz⟩ go
    show v_X4_findTouch_3 Q o 18 (n + 1) x y (nI c) s
    unfold v_X4_findTouch_3
    have hv3 := vp_in_nI hc (show 3 < 2 ^ 31 by decide)
    rw [nI_clamp (show c < 2 ^ 31 by omega), nI_1, i32_iL x, i32_iL y]
    refine ⟨fun q => absurd q (nI_ge (b := 3) hc (by decide)), fun _ => ?_⟩
    have hv1 := numV_chg hv hI (by omega)
    refine sp_valueC hv1 hc ⟨hv3, nmB_iff.mpr (sp_growthC (numV_chg hv1 (chg_J (P := fun x => x = 11) rfl) (by omega)) hc ⟨hv3, nmB_iff.mpr (nmB_iff.mpr ?_)⟩)⟩
    refine go _ ⟨chg_t2 (chg_t2 hI (chg_J (Or.inl rfl))) (chg_J (Or.inr rfl)), fun k hk => ?_⟩
    rw [cUJ_ne (show (11 : Nat) ≠ 12 by decide), cUJ_at, cUJ_at, cUJ_ne (show (12 : Nat) ≠ 11 by decide)]
    rcases Nat.lt_or_ge k c with q | q
    · rw [updL_ne (by omega), updL_ne (by omega)]; exact hz k q
    · have : k = c := by omega
      subst this
      rw [updL_at, updL_at]; exact ⟨rfl, rfl⟩
  · intro n s ⟨hI, hz⟩
    show v_X4_findTouch_3 Q o 18 (n + 1) x y (nI 3) s
    unfold v_X4_findTouch_3
    refine ⟨fun _ => ?_, fun q => absurd (by decide) q⟩
    refine sp_crossC (a := fun w => vlu v w x.toInt y.toInt) (b := fun w => grw v w x.toInt y.toInt) (fun c hc => (hz c hc).1) (fun c hc => (hz c hc).2) (fun σ' hs' hr' => ?_)
    rw [c0, c3]
    refine ⟨⟨by decide, by decide, by decide, by decide, by decide⟩, nmB_iff.mpr ?_⟩
    have hrow : rowIs ((cUR σ' 18 (va_cpy (σ'.1 13) (σ'.1 18) 0 0 3)).1 18) 3 (tcr v x.toInt y.toInt) := by
      intro i hi
      refine ⟨?_, ab_r (tcr_ab hs ha hb i)⟩
      rw [cUR_at, pk_cpy_in (by omega) (by omega), show 0 + (i - 0) = i by omega]
      exact hr' i hi
    refine sp_tidyF (N := 3) rfl (by decide) hrow (h _ ?_ (fun c hc => goneC_v hc))
    exact chg_w (chg_tr (chg_tr (chg_tr hI hs') (chg_R (P := fun x => x = 18) rfl)) (chg_R (P := fun x => x = 18) rfl)) (fun x hx => by omega)
def okTo (z1 z2 z3 : Int32) : Prop := (inR z1 (-20) 20 ∧ inR z2 1 20) ∧ inR z3 0 2
theorem toM_in {Q : Int64 → mS → Prop} {z0 z1 z2 z3 : Int32} {τ : mS} (h : okTo z1 z2 z3) (k : w_against (fun u τ' => w_touch_30 Q z0 z1 z2 z3 u τ') z0 τ) : w_touch Q z0 z1 z2 z3 τ := by
  unfold w_touch
  exact tim_t h.1 ⟨fun q => absurd q (by decide), fun _ => iM_t 0 2 (by decide) (by decide) h.2 ⟨fun _ => k, fun q => absurd q (by decide)⟩⟩
theorem toM_bad {Q : Int64 → mS → Prop} {z0 z1 z2 z3 : Int32} {τ : mS} (h : ¬ okTo z1 z2 z3) (k : Q (-1000000000001) τ) : w_touch Q z0 z1 z2 z3 τ := by
  have e : w_touch_21 Q z0 z1 z2 z3 τ := by
    unfold w_touch_21 w_touch_30
    exact ⟨fun q => absurd q (by decide), fun _ => k⟩
  unfold w_touch
  by_cases a1 : inR z1 (-20) 20 ∧ inR z2 1 20
  · exact tim_t a1 ⟨fun q => absurd q (by decide), fun _ => iM_f 0 2 (by decide) (by decide) (fun a3 => h ⟨a1, a3⟩) ⟨fun q => absurd rfl q, fun _ => e⟩⟩
  · exact tim_f a1 ⟨fun _ => e, fun q => absurd rfl q⟩
theorem toM_main {Q : Int64 → mS → Prop} {j w : Nat} {z1 z2 : Int32} {τ : mS} {v : Nat → Int} (hj : j < 4) (hv : ofV τ j v) (hw : w < 3) (hA : ab z1.toInt 20) (hB : ab z2.toInt 20) (k0 : ¬ nz3 (tcr v z1.toInt z2.toInt) → ∀ τ', mch (fun a => a = 6 ∨ a = 8) τ τ' → Q (-1000000000004) τ') (k1 : nz3 (tcr v z1.toInt z2.toInt) → ∀ τ', mch (fun a => a = 6 ∨ a = 8) τ τ' → Q (iL (td (tcr v z1.toInt z2.toInt) 3 w)) τ') : w_touch_30 Q (nI j) z1 z2 (nI w) 0 τ := by
  unfold w_touch_30
  refine ⟨fun _ => nmB_iff.mpr ?_, fun q => absurd (by decide) q⟩
  rw [show (12 : Int32) = nI 12 from rfl, show (4 : Int32) = nI (4 * 1) from rfl, show (8 : Int32) = nI (4 * 2) from rfl, pk_mul, nI_add, nI_add, i32_iL z1, i32_iL z2, show 12 * j = 12 * j + 4 * 0 by omega]
  refine sp_valueM (w := 0) hj hv (by decide) (sp_valueM (w := 1) hj hv (by decide) (sp_valueM (w := 2) hj hv (by decide) (sp_slopeM (w := 0) hj hv (by decide) (sp_slopeM (w := 1) hj hv (by decide) (sp_slopeM (w := 2) hj hv (by decide) ?_)))))
  refine sp_crossM (fun s1 g1 b0 b1 b2 => ?_)
  have bb := tcr_ab (v := v) hv.2 hA hB
  have b6 : ∀ c, c < 3 → s1.1 6 c = iL (tcr v z1.toInt z2.toInt c) := fun c hc => by
    rcases (show c = 0 ∨ c = 1 ∨ c = 2 by omega) with rfl | rfl | rfl
    · exact b0
    · exact b1
    · exact b2
  refine loopU (N := 3) (F := fun n c s => w_touch_128 Q n (nI w) c s) (I := fun c s => mch (fun a => a = 8) s1 s ∧ ∀ k, k < c → s.1 8 k = iL (tcr v z1.toInt z2.toInt k)) (by decide) ?_ ?_ s1 ⟨mch_rf, fun k hk => by omega⟩
  · intro n c s hc ⟨h1, h2⟩ go
    show w_touch_128 Q (n + 1) (nI w) (nI c) s
    unfold w_touch_128
    have w0 := vp_in_nI hc (show 3 < 2 ^ 31 by decide)
    rw [nI_clamp (show c < 2 ^ 31 by omega), nI_1]
    refine ⟨fun q => absurd q (nI_ge (b := 3) hc (by decide)), fun _ => ⟨w0, w0, nmB_iff.mpr (nmB_iff.mpr ?_)⟩⟩
    refine go _ ⟨mch_t h1 (mch_J rfl), fun k hk => ?_⟩
    rw [mUJ_at, h1.1 6 (by decide)]
    rcases Nat.lt_or_ge k c with q | q
    · rw [updL_ne (by omega)]; exact h2 k q
    · have : k = c := by omega
      subst this
      rw [updL_at]; exact b6 k hc
  · intro n s ⟨h1, h2⟩
    show w_touch_128 Q (n + 1) (nI w) (nI 3) s
    have m : mch (fun a => a = 6 ∨ a = 8) τ s := mch_t (mch_6 g1 (Or.inl rfl)) (mch_w h1 (fun x hx => Or.inr hx))
    unfold w_touch_128 w_touch_191
    rw [c0, c1, c2, h2 0 (by decide), h2 1 (by decide), h2 2 (by decide), iL0 (ab_r (bb 0)), iL0 (ab_r (bb 1)), iL0 (ab_r (bb 2)), nI_clamp (show w < 2 ^ 31 by omega)]
    have yes : nz3 (tcr v z1.toInt z2.toInt) → w_tidy (fun σ102 => vp_in (nI w) 3 ∧ Q (σ102.1 8 w) σ102) 0 s := fun hn => by
      refine sp_tidyM (z := tcr v z1.toInt z2.toInt) (t := fst0 (tcr v z1.toInt z2.toInt) 3) (fun c hc => h2 c hc) (fun c _ => ab_r (bb c)) hn rfl (fun s' g' e' => ⟨vp_in_nI hw (by decide), ?_⟩)
      rw [e' w hw]
      exact k1 hn s' (mch_t m (mch_w g' (fun x hx => Or.inr hx)))
    refine ⟨fun _ => ⟨vin0, fun q0 => yes (fun z => q0 z.1), fun q0 => ⟨vin1, fun q1 => yes (fun z => q1 z.2.1), fun q1 => ⟨vin2, fun q2 => yes (fun z => q2 z.2.2), fun q2 => k0 (fun z => z ⟨q0, q1, q2⟩) s m⟩⟩⟩, fun q => absurd (by decide) q⟩
theorem td_z3 {z : Nat → Int} {N i : Nat} (hi : i < N) : td z N i = 0 ↔ z i = 0 := by
  unfold td tidyN
  have := tdiv_z (z := z) hi
  split
  · constructor
    · intro h; exact this.mp (by omega)
    · intro h; rw [this.mpr h]; rfl
  · exact this
theorem st_touch : ∀ (z0 z1 z2 z3 : Int32) (σ : cS) (τ : mS), Inv σ τ → v_X7_touch (fun r σ1 => w_touch (fun r2 τ1 => r = r2 ∧ Inv σ1 τ1) z0 z1 z2 z3 τ) z0 z1 z2 z3 σ := by
  intro z0 z1 z2 z3 σ τ hI
  unfold v_X7_touch v_X7_touch_18 v_X7_touch_84
  by_cases a1 : inR z1 (-20) 20 ∧ inR z2 1 20
  · refine let_t a1 ⟨fun q => absurd q (by decide), fun _ => ?_⟩
    by_cases a2 : inR z3 0 2
    · refine wi_t 0 2 (by decide) (by decide) a2 ⟨fun _ => ?_, fun q => absurd q (by decide)⟩
      have ok : okTo z1 z2 z3 := ⟨a1, a2⟩
      rcases lcases hI z0 with h | ⟨j, hj, rfl, h1, h2⟩ | ⟨j, v, hj, rfl, hV⟩
      · refine mis_b h ⟨fun q => absurd q (by decide), fun _ => toM_in ok (ag_b h ?_)⟩
        unfold w_touch_30
        exact ⟨fun q => absurd q (by decide), fun _ => ⟨rfl, hI⟩⟩
      · refine mis_n hj h1 ⟨fun q => absurd q (by decide), fun _ => toM_in ok (ag_n hj h2 ?_)⟩
        unfold w_touch_30
        exact ⟨fun q => absurd q (by decide), fun _ => ⟨rfl, hI⟩⟩
      · obtain ⟨h1, h2, hp, hm, hk⟩ := id hV
        obtain ⟨w, hw, rfl⟩ := inR_nat (b := 2) a2 (by decide)
        have hA : ab z1.toInt 20 := inR_ab (b := 20) a1.1
        have hB : ab z2.toInt 20 := ab_i.mpr ⟨by have := a1.2.1; omega, a1.2.2⟩
        refine mis_y hj h1 ⟨fun _ => ⟨vp_in_nI hj (by decide), nmB_iff.mpr ?_⟩, fun q => absurd rfl q⟩
        rw [nI_clamp (show j < 2 ^ 31 by omega)]
        refine sp_findTouch (by omega) (isV_num hj hV) hp.1 hA hB (fun σ' g' e' => ?_)
        have bb := tcr_ab (v := v) hp.1 hA hB
        have z0 : ∀ c, c < 3 → (σ'.1 18 c = 0 ↔ tcr v z1.toInt z2.toInt c = 0) := fun c hc => by rw [e' c hc, iL0 (ab_r (a := td (tcr v z1.toInt z2.toInt) 3 c) (tidyN_ab (bb c)))]; exact td_z3 hc
        have hI' : ∀ {τ'}, mch (fun a => a = 6 ∨ a = 8) τ τ' → Inv σ' τ' := fun m => Inv_keep hI ⟨fun a ha => g'.1 a (by omega), by rw [g'.2], fun _ _ => by rw [g'.2], by rw [g'.2], fun q => by unfold plainR at *; rw [g'.2]; exact q⟩ (mch_keep m (by decide))
        refine sp_first (N := 3) rfl (by decide) (fun i hi hne _ => ⟨fun _ => ⟨vp_in_nI (N := 3) (by omega) (by decide), ?_⟩, fun q => absurd (nI_pos' (by omega)) q⟩) (fun hall => ⟨fun q => absurd q (by decide), fun _ => ?_⟩)
        · have hn : nz3 (tcr v z1.toInt z2.toInt) := fun z => hne ((z0 i hi).mpr (by rcases (show i = 0 ∨ i = 1 ∨ i = 2 by omega) with rfl | rfl | rfl; exact z.1; exact z.2.1; exact z.2.2))
          rw [nI_clamp (show w < 2 ^ 31 by omega), e' w (by omega)]
          exact toM_in ok (ag_y hj h2 (toM_main hj (isV_of hV) (by omega) hA hB (fun q => absurd hn q) (fun _ τ' m => ⟨rfl, hI' m⟩)))
        · exact toM_in ok (ag_y hj h2 (toM_main hj (isV_of hV) (by omega) hA hB (fun _ τ' m => ⟨rfl, hI' m⟩) (fun q => absurd ⟨(z0 0 (by decide)).mp (hall 0 (by decide)), (z0 1 (by decide)).mp (hall 1 (by decide)), (z0 2 (by decide)).mp (hall 2 (by decide))⟩ q)))
    · exact wi_f 0 2 (by decide) (by decide) a2 ⟨fun q => absurd rfl q, fun _ => toM_bad (fun z => a2 z.2) ⟨rfl, hI⟩⟩
  · exact let_f a1 ⟨fun _ => toM_bad (fun z => a1 z.1) ⟨rfl, hI⟩, fun q => absurd rfl q⟩
