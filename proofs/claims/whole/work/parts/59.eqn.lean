/-! PURE: the reference's EQUATION, tidied; equation (promise 10) -/
/-- the first number that isn't 0, of the first c -/
def fvN (z : Nat → Int) : Nat → Int
  | 0 => 0
  | c + 1 => if fvN z c = 0 then z c else fvN z c
theorem fvN_facts (z : Nat → Int) : ∀ c, (fvN z c = 0 ∧ ∀ k, k < c → z k = 0) ∨ (∃ t, t < c ∧ z t ≠ 0 ∧ (∀ k, k < t → z k = 0) ∧ fvN z c = z t) := by
  intro c
  induction c with
  | zero => exact Or.inl ⟨rfl, fun k hk => by omega⟩
  | succ c ih =>
    unfold fvN
    rcases ih with ⟨h1, h2⟩ | ⟨t, h1, h2, h3, h4⟩
    · rw [if_pos h1]
      by_cases q : z c = 0
      · refine Or.inl ⟨q, fun k hk => ?_⟩
        rcases Nat.lt_or_ge k c with y | y
        · exact h2 k y
        · rw [show k = c by omega]; exact q
      · exact Or.inr ⟨c, by omega, q, h2, rfl⟩
    · rw [if_neg (by rw [h4]; exact h2)]
      exact Or.inr ⟨t, by omega, h2, h3, h4⟩
theorem fvN_fst {z : Nat → Int} {N : Nat} (h : ∃ t, t < N ∧ z t ≠ 0) : fst0 z N < N ∧ z (fst0 z N) ≠ 0 ∧ fvN z N = z (fst0 z N) := by
  obtain ⟨t, ht, hz⟩ := h
  rcases fvN_facts z N with ⟨_, h2⟩ | ⟨s, h1, h2, h3, h4⟩
  · exact absurd (h2 t ht) hz
  · have := fst0_eq h1 h2 h3
    rw [this]
    exact ⟨h1, h2, h4⟩
theorem fvN_r {z : Nat → Int} {N : Nat} (h : ∀ i, i < N → r63 (z i)) : ∀ c, c ≤ N → r63 (fvN z c) := by
  intro c hc
  rcases fvN_facts z c with ⟨h1, _⟩ | ⟨t, h1, _, _, h4⟩
  · rw [h1]; unfold r63; omega
  · rw [h4]; exact h t (by omega)
theorem sp_eqDiv {Q : mS → Prop} {σ : mS} {z : Nat → Int} {g : Int} (hz : eqM σ z) (hr : ∀ c, c < 10 → r63 (z c)) (hg : r63 g) (h0 : g ≠ 0) (h : ∀ σ', mch (fun a => a = 10) σ σ' → eqM σ' (fun c => (z c).tdiv g) → Q σ') : w_findEquation_333 Q (iL g) σ := by
  unfold w_findEquation_333
  refine loopU (N := 10) (F := fun n x s => w_findEquation_337 Q n (iL g) x s) (I := fun c s => mch (fun a => a = 10) σ s ∧ ∀ p, p < 10 → s.1 10 p = iL (if p < c then (z p).tdiv g else z p)) (by decide) ?_ ?_ σ ⟨mch_rf, fun p hp => by rw [if_neg (by omega)]; exact hz p hp⟩
  · intro n c s hc ⟨h1, h2⟩ go
    show w_findEquation_337 Q (n + 1) (iL g) (nI c) s
    unfold w_findEquation_337
    have w0 := vp_in_nI hc (show 10 < 2 ^ 31 by decide)
    rw [iL0 hg, nI_clamp (show c < 2 ^ 31 by omega)]
    refine ⟨fun q => absurd q (nI_ge (b := 10) hc (by decide)), fun _ => ⟨w0, h0, w0, nmB_iff.mpr (nmB_iff.mpr ?_)⟩⟩
    rw [nI_1, h2 c hc, if_neg (by omega), iL_div (hr c hc) hg]
    refine go _ ⟨mch_t h1 (mch_J rfl), fun p hp => ?_⟩
    rw [mUJ_at]
    rcases Nat.lt_trichotomy p c with q | q | q
    · rw [updL_ne (by omega), h2 p hp, if_pos q, if_pos (by omega)]
    · subst q; rw [updL_at, if_pos (by omega)]
    · rw [updL_ne (by omega), h2 p hp, if_neg (by omega), if_neg (by omega)]
  · intro n s ⟨h1, h2⟩
    show w_findEquation_337 Q (n + 1) (iL g) (nI 10) s
    unfold w_findEquation_337
    refine ⟨fun _ => h s h1 (fun p hp => ?_), fun q => absurd (by decide) q⟩
    have := h2 p hp
    rwa [if_pos hp] at this
theorem sp_eqTidy {Q : mS → Prop} {σ : mS} {z : Nat → Int} (hz : eqM σ z) (hr : ∀ c, c < 10 → r63 (z c)) (hn : ∃ t, t < 10 ∧ z t ≠ 0) (h : ∀ σ', mch (fun a => a = 10) σ σ' → eqM σ' (td z 10) → Q σ') : w_findEquation_266 Q σ := by
  have hg63 := gcdN_lt (z := z) (N := 10) hr
  have r0 : r63 0 := by unfold r63; omega
  unfold w_findEquation_266
  rw [show w_findEquation_274 Q fuL (0 : Int64) (0 : Int64) 0 σ = (fun n c (s : Int64 × Int64) => w_findEquation_274 Q n s.1 s.2 c σ) fuL 0 (0, 0) from rfl]
  refine loopU (N := 10) (F := fun n c (s : Int64 × Int64) => w_findEquation_274 Q n s.1 s.2 c σ) (I := fun c s => s.1 = iL (gcdN z c) ∧ s.2 = iL (fvN z c)) (by decide) ?_ ?_ (0, 0) ⟨rfl, rfl⟩
  · intro n c s hc ⟨h1, h2⟩ go
    obtain ⟨x3, x5⟩ := s
    have h1' : x3 = iL (gcdN z c) := h1
    have h2' : x5 = iL (fvN z c) := h2
    subst h1' h2'
    show w_findEquation_274 Q (n + 1) (iL (gcdN z c)) (iL (fvN z c)) (nI c) σ
    unfold w_findEquation_274 w_findEquation_312
    have w0 := vp_in_nI hc (show 10 < 2 ^ 31 by decide)
    refine ⟨fun q => absurd q (nI_ge (b := 10) hc (by decide)), fun _ => ⟨w0, ?_⟩⟩
    rw [nI_clamp (show c < 2 ^ 31 by omega), hz c hc, nI_1]
    refine sp_common (nat_r63 (hg63 c (by omega))) (hr c hc) ?_
    rw [iL0 (fvN_r hr c (by omega))]
    refine ⟨fun q => nmB_iff.mpr (go (_, _) ⟨rfl, ?_⟩), fun q => ⟨w0, nmB_iff.mpr (go (_, _) ⟨rfl, ?_⟩)⟩⟩
    · show iL (fvN z c) = iL (if fvN z c = 0 then z c else fvN z c)
      rw [if_neg q]
    · show σ.1 10 c = iL (if fvN z c = 0 then z c else fvN z c)
      rw [if_pos q, hz c hc]
  · intro n s ⟨h1, h2⟩
    obtain ⟨x3, x5⟩ := s
    have h1' : x3 = iL (gcdN z 10) := h1
    have h2' : x5 = iL (fvN z 10) := h2
    subst h1' h2'
    show w_findEquation_274 Q (n + 1) (iL (gcdN z 10)) (iL (fvN z 10)) (nI 10) σ
    unfold w_findEquation_274
    refine ⟨fun _ => ?_, fun q => absurd (by decide) q⟩
    obtain ⟨f1, f2, f3⟩ := fvN_fst hn
    have hgp := gcdN_pos f1 f2
    have rg := nat_r63 (hg63 10 (by decide))
    rw [f3, iL_0, iL_le r0 (hr _ f1), iL_neg]
    refine ⟨fun q => ?_, fun q => ?_⟩
    · refine sp_eqDiv hz hr rg (by omega) (fun σ' c' e' => h σ' c' (fun c hc => ?_))
      rw [e' c hc]
      unfold td
      rw [(tidy_val f1 f2 c).2 (by omega)]
    · refine sp_eqDiv hz hr (by unfold r63 at *; omega) (by omega) (fun σ' c' e' => h σ' c' (fun c hc => ?_))
      rw [e' c hc]
      unfold td
      rw [(tidy_val f1 f2 c).1 (by omega)]
/-- the rows that finding THE EQUATION changes -/
def scE (a : Nat) : Prop := a = 6 ∨ a = 9 ∨ a = 10
theorem i32_m1 : (-1 : Int64) = iL (-1) := by decide
theorem sp_findEqM {Q : mS → Prop} {l : Nat} {σ : mS} {v : Nat → Int} (hl : l < 4) (hv : ofV σ l v) (hp : plain v) (hk : kd v ≠ 0) (h : ∀ σ', mch scE σ σ' → eqM σ' (eqn v) → Q σ') : w_findEquation Q (nI l) σ := by
  have hs : sm9 v := hp.1
  have hk3 := kd_le v
  unfold w_findEquation
  refine loopU (N := 10) (F := fun n c s => w_findEquation_2 Q n (nI l) c s) (I := fun c s => mch (fun a => a = 10) σ s ∧ ∀ p, p < c → s.1 10 p = iL 0) (by decide) ?_ ?_ σ ⟨mch_rf, fun p hp => by omega⟩
  · intro n c s hc ⟨h1, h2⟩ go
    show w_findEquation_2 Q (n + 1) (nI l) (nI c) s
    unfold w_findEquation_2
    rw [nI_clamp (show c < 2 ^ 31 by omega), nI_1]
    refine ⟨fun q => absurd q (nI_ge (b := 10) hc (by decide)), fun _ => ⟨vp_in_nI hc (by decide), nmB_iff.mpr (nmB_iff.mpr (go _ ⟨mch_t h1 (mch_J rfl), fun p hp => ?_⟩))⟩⟩
    rw [mUJ_at]
    rcases Nat.lt_or_ge p c with q | q
    · rw [updL_ne (by omega)]; exact h2 p q
    · rw [show p = c by omega, updL_at]; rfl
  intro n s1 ⟨g1, z1⟩
  show w_findEquation_2 Q (n + 1) (nI l) (nI 10) s1
  unfold w_findEquation_2
  refine ⟨fun _ => ?_, fun q => absurd (by decide) q⟩
  clear n
  refine loopU (N := 27) (F := fun n c s => w_findEquation_23 Q n (nI l) c s) (I := fun c s => mch (fun a => a = 9) s1 s ∧ ∀ p, p < c → s.1 9 p = iL 0) (by decide) ?_ ?_ s1 ⟨mch_rf, fun p hp => by omega⟩
  · intro n c s hc ⟨h1, h2⟩ go
    show w_findEquation_23 Q (n + 1) (nI l) (nI c) s
    unfold w_findEquation_23
    rw [nI_clamp (show c < 2 ^ 31 by omega), nI_1]
    refine ⟨fun q => absurd q (nI_ge (b := 27) hc (by decide)), fun _ => ⟨vp_in_nI hc (by decide), nmB_iff.mpr (nmB_iff.mpr (go _ ⟨mch_t h1 (mch_J rfl), fun p hp => ?_⟩))⟩⟩
    rw [mUJ_at]
    rcases Nat.lt_or_ge p c with q | q
    · rw [updL_ne (by omega)]; exact h2 p q
    · rw [show p = c by omega, updL_at]; rfl
  intro n s2 ⟨g2, z2⟩
  show w_findEquation_23 Q (n + 1) (nI l) (nI 27) s2
  unfold w_findEquation_23
  refine ⟨fun _ => ?_, fun q => absurd (by decide) q⟩
  have G2 : mch scE σ s2 := mch_t (mch_w g1 (fun x hx => Or.inr (Or.inr hx))) (mch_w g2 (fun x hx => Or.inr (Or.inl hx)))
  have n2 : ¬ scE 2 := by unfold scE; omega
  refine sp_kindOf hl (ofV_mch hv G2 n2) hp.2.2 (fun s3 g3 h6 => ?_)
  have G3 : mch scE σ s3 := mch_t G2 (mch_6 g3 (Or.inl rfl))
  have hv3 := ofV_mch hv G3 n2
  have e3 : eqM s3 (fun _ => 0) := fun p hp => by rw [g3.1 10 (by decide), g2.1 10 (by decide)]; exact z1 p hp
  have b3 : ∀ a, a + 3 ≤ 27 → bz s3 a (fun _ => 0) := fun a ha => ⟨ha, fun c hc => by rw [g3.1 9 (by decide)]; exact z2 _ (by omega)⟩
  have fin : ∀ (s : mS) (z : Nat → Int), mch scE σ s → eqM s z → (∃ a b : Int, a ≠ 0 ∧ b ≠ 0 ∧ ∀ p, p < 10 → a * z p = b * eqr v p) → (∀ p, p < 10 → r63 (z p)) → w_findEquation_266 Q s := by
    intro s z gs es ⟨a, b, ha, hb, hab⟩ rz
    refine sp_eqTidy es rz ?_ (fun s' g' e' => h s' (mch_t gs (mch_w g' (fun x hx => Or.inr (Or.inr hx)))) (fun p hp => ?_))
    · obtain ⟨t, ht, hz⟩ := eqr_nz hp hk
      refine ⟨t, ht, fun q => ?_⟩
      have := hab t ht
      rw [q, Int.mul_zero] at this
      rcases Int.mul_eq_zero.mp this.symm with y | y
      · exact hb y
      · exact hz y
    · rw [e' p hp]
      congr 1
      exact td_prop ha hb hab hp
  have same : ∀ (s : mS), mch scE σ s → eqM s (eqr v) → w_findEquation_266 Q s := fun s gs es => fin s (eqr v) gs es ⟨1, 1, by decide, by decide, fun p _ => rfl⟩ (fun p _ => ab_r (eqr_ab hs p))
  refine ⟨fun q1 => ⟨fun q2 => ?_, fun q2 => ?_⟩, fun q1 => ?_⟩
  · have k3 : kd v = 3 := by
      have a1 : kd v ≠ 1 := fun z => q1 (by rw [z]; rfl)
      have a2 : kd v ≠ 2 := fun z => q2 (by rw [z]; rfl)
      omega
    have up : ∀ {s s' : mS}, mch scE σ s → mch (fun x => x = 9) s s' → mch scE σ s' := fun a b => mch_t a (mch_w b (fun x hx => Or.inr (Or.inl hx)))
    have uq : ∀ {s s' : mS}, mch scE σ s → mch (fun x => x = 10) s s' → mch scE σ s' := fun a b => mch_t a (mch_w b (fun x hx => Or.inr (Or.inr hx)))
    refine sp_addPair (a := 0) (i := 1) (j := 0) hl (by decide) (by decide) hv3 (b3 0 (by decide)) (fun s4 g4 f4 o4 => ?_)
    have G4 := up G3 g4
    refine sp_addPair (a := 3) (i := 2) (j := 0) (F := fun _ => 0) hl (by decide) (by decide) (ofV_mch hv G4 n2) ⟨by decide, fun c hc => by rw [o4 _ (by omega)]; exact (b3 3 (by decide)).2 c hc⟩ (fun s5 g5 f5 o5 => ?_)
    have G5 := up G4 g5
    refine sp_addPair (a := 6) (i := 3) (j := 0) (F := fun _ => 0) hl (by decide) (by decide) (ofV_mch hv G5 n2) ⟨by decide, fun c hc => by rw [o5 _ (by omega), o4 _ (by omega)]; exact (b3 6 (by decide)).2 c hc⟩ (fun s6 g6 f6 o6 => ?_)
    have G6 := up G5 g6
    refine sp_addPair (a := 9) (i := 3) (j := 0) (F := fun _ => 0) hl (by decide) (by decide) (ofV_mch hv G6 n2) ⟨by decide, fun c hc => by rw [o6 _ (by omega), o5 _ (by omega), o4 _ (by omega)]; exact (b3 9 (by decide)).2 c hc⟩ (fun s7 g7 f7 o7 => ?_)
    have G7 := up G6 g7
    refine sp_addPair (a := 9) (i := 2) (j := 1) hl (by decide) (by decide) (ofV_mch hv G7 n2) f7 (fun s8 g8 f8 o8 => ?_)
    have G8 := up G7 g8
    refine sp_addPair (a := 12) (i := 3) (j := 1) (F := fun _ => 0) hl (by decide) (by decide) (ofV_mch hv G8 n2) ⟨by decide, fun c hc => by rw [o8 _ (by omega), o7 _ (by omega), o6 _ (by omega), o5 _ (by omega), o4 _ (by omega)]; exact (b3 12 (by decide)).2 c hc⟩ (fun s9 g9 f9 o9 => ?_)
    have G9 := up G8 g9
    refine sp_addPair (a := 15) (i := 3) (j := 2) (F := fun _ => 0) hl (by decide) (by decide) (ofV_mch hv G9 n2) ⟨by decide, fun c hc => by rw [o9 _ (by omega), o8 _ (by omega), o7 _ (by omega), o6 _ (by omega), o5 _ (by omega), o4 _ (by omega)]; exact (b3 15 (by decide)).2 c hc⟩ (fun s10 g10 f10 o10 => ?_)
    have G10 := up G9 g10
    have zz : ∀ F : Nat → Int, (fun c => 0 + F c) = F := fun F => by funext c; exact Int.zero_add _
    rw [zz] at f4 f5 f6 f7 f9 f10
    have B0 : bz s10 0 (fo3 v 1 0) := ⟨by decide, fun c hc => by rw [o10 _ (by omega), o9 _ (by omega), o8 _ (by omega), o7 _ (by omega), o6 _ (by omega), o5 _ (by omega)]; exact f4.2 c hc⟩
    have B3 : bz s10 3 (fo3 v 2 0) := ⟨by decide, fun c hc => by rw [o10 _ (by omega), o9 _ (by omega), o8 _ (by omega), o7 _ (by omega), o6 _ (by omega)]; exact f5.2 c hc⟩
    have B6 : bz s10 6 (fo3 v 3 0) := ⟨by decide, fun c hc => by rw [o10 _ (by omega), o9 _ (by omega), o8 _ (by omega), o7 _ (by omega)]; exact f6.2 c hc⟩
    have B9 : bz s10 9 (mid3 v) := ⟨by decide, fun c hc => by rw [o10 _ (by omega), o9 _ (by omega), f8.2 c hc]; show iL (0 + fo3 v 3 0 c + fo3 v 2 1 c) = _; rw [Int.zero_add]; rfl⟩
    have B12 : bz s10 12 (fo3 v 3 1) := ⟨by decide, fun c hc => by rw [o10 _ (by omega)]; exact f9.2 c hc⟩
    have B15 : bz s10 15 (fo3 v 3 2) := f10
    have E10 : eqM s10 (fun _ => 0) := fun p hp => by rw [g10.1 10 (by decide), g9.1 10 (by decide), g8.1 10 (by decide), g7.1 10 (by decide), g6.1 10 (by decide), g5.1 10 (by decide), g4.1 10 (by decide)]; exact e3 p hp
    rw [i32_m1, iL_1, iL2]
    refine sp_addM (a := 0) (b := 9) (x3 := nI 15) B0 B9 (Or.inl ⟨15, rfl, B15⟩) E10 (fun t1 d1 x1 => ?_)
    refine sp_addM (a := 3) (b := 12) (x3 := nI 6) (bz_10 B3 d1) (bz_10 B12 d1) (hp3_10 (Or.inl ⟨6, rfl, B6⟩) d1) x1 (fun t2 d2 x2 => ?_)
    have d12 := mch_t d1 d2
    refine sp_addM (a := 6) (b := 9) (x3 := nI 6) (bz_10 B6 d12) (bz_10 B9 d12) (hp3_10 (Or.inl ⟨6, rfl, B6⟩) d12) x2 (fun t3 d3 x3 => ?_)
    have d13 := mch_t d12 d3
    refine sp_addM (a := 0) (b := 12) (x3 := nI 12) (bz_10 B0 d13) (bz_10 B12 d13) (hp3_10 (Or.inl ⟨12, rfl, B12⟩) d13) x3 (fun t4 d4 x4 => ?_)
    have d14 := mch_t d13 d4
    refine sp_addM (a := 3) (b := 3) (x3 := nI 15) (bz_10 B3 d14) (bz_10 B3 d14) (hp3_10 (Or.inl ⟨15, rfl, B15⟩) d14) x4 (fun t5 d5 x5 => ?_)
    refine same t5 (uq G10 (mch_t d14 d5)) (fun p hp => ?_)
    rw [x5 p hp, eqr_3 k3]
    congr 1
    have w1 := (pr3_sw (fo3 v 2 0) (fo3 v 3 0) (fo3 v 3 1) hp).1
    have w2 := (pr3_sw (mid3 v) (fo3 v 3 0) (fo3 v 3 0) hp).2
    have w3 := (pr3_sw (fo3 v 3 2) (fo3 v 2 0) (fo3 v 2 0) hp).2
    have w4 := (pr3_sw (fo3 v 2 0) (fo3 v 3 2) (fo3 v 2 0) hp).1
    rw [w1, w2, w3, w4]
    show 0 + 1 * pr3 (fo3 v 1 0) (mid3 v) (fo3 v 3 2) p + 2 * pr3 (fo3 v 2 0) (fo3 v 3 1) (fo3 v 3 0) p + -1 * pr3 (fo3 v 3 0) (mid3 v) (fo3 v 3 0) p + -1 * pr3 (fo3 v 1 0) (fo3 v 3 1) (fo3 v 3 1) p + -1 * pr3 (fo3 v 2 0) (fo3 v 2 0) (fo3 v 3 2) p = _
    omega
  · have k2 : kd v = 2 := (nI_eq (b := 2) (by omega) (by decide)).mp q2
    have up : ∀ {s s' : mS}, mch scE σ s → mch (fun x => x = 9) s s' → mch scE σ s' := fun a b => mch_t a (mch_w b (fun x hx => Or.inr (Or.inl hx)))
    have uq : ∀ {s s' : mS}, mch scE σ s → mch (fun x => x = 10) s s' → mch scE σ s' := fun a b => mch_t a (mch_w b (fun x hx => Or.inr (Or.inr hx)))
    refine sp_addPair (a := 0) (i := 1) (j := 0) hl (by decide) (by decide) hv3 (b3 0 (by decide)) (fun s4 g4 f4 o4 => ?_)
    have G4 := up G3 g4
    refine sp_addPair (a := 3) (i := 2) (j := 0) (F := fun _ => 0) hl (by decide) (by decide) (ofV_mch hv G4 n2) ⟨by decide, fun c hc => by rw [o4 _ (by omega)]; exact (b3 3 (by decide)).2 c hc⟩ (fun s5 g5 f5 o5 => ?_)
    have G5 := up G4 g5
    refine sp_addPair (a := 6) (i := 2) (j := 1) (F := fun _ => 0) hl (by decide) (by decide) (ofV_mch hv G5 n2) ⟨by decide, fun c hc => by rw [o5 _ (by omega), o4 _ (by omega)]; exact (b3 6 (by decide)).2 c hc⟩ (fun s6 g6 f6 o6 => ?_)
    have G6 := up G5 g6
    have zz : ∀ F : Nat → Int, (fun c => 0 + F c) = F := fun F => by funext c; exact Int.zero_add _
    rw [zz] at f4 f5 f6
    have B0 : bz s6 0 (fo3 v 1 0) := ⟨by decide, fun c hc => by rw [o6 _ (by omega), o5 _ (by omega)]; exact f4.2 c hc⟩
    have B3 : bz s6 3 (fo3 v 2 0) := ⟨by decide, fun c hc => by rw [o6 _ (by omega)]; exact f5.2 c hc⟩
    have E6 : eqM s6 (fun _ => 0) := fun p hp => by rw [g6.1 10 (by decide), g5.1 10 (by decide), g4.1 10 (by decide)]; exact e3 p hp
    rw [i32_m1, iL_1]
    refine sp_addM (a := 0) (b := 6) (x3 := -1) (H := one3) B0 f6 (Or.inr ⟨rfl, rfl⟩) E6 (fun t1 d1 x1 => ?_)
    refine sp_addM (a := 3) (b := 3) (x3 := -1) (H := one3) (bz_10 B3 d1) (bz_10 B3 d1) (Or.inr ⟨rfl, rfl⟩) x1 (fun t2 d2 x2 => ?_)
    refine same t2 (uq G6 (mch_t d1 d2)) (fun p hp => ?_)
    rw [x2 p hp, eqr_2 k2]
    congr 1
    show 0 + 1 * pr3 (fo3 v 1 0) (fo3 v 2 1) one3 p + -1 * pr3 (fo3 v 2 0) (fo3 v 2 0) one3 p = _
    omega
  · have k1 : kd v = 1 := (nI_eq (b := 1) (by omega) (by decide)).mp q1
    obtain ⟨i, j, hf, hr6⟩ := h6 k1
    have eff := ff_first hf
    rw [c0, c1, c2, show (7 : Int32).toNatClampNeg = 7 by decide, show (8 : Int32).toNatClampNeg = 8 by decide, show (9 : Int32).toNatClampNeg = 9 by decide]
    have w10 : ∀ k : Nat, k < 10 → vp_in (nI k) 10 := fun k hk => vp_in_nI hk (by decide)
    refine ⟨vin0, w10 7 (by decide), nmB_iff.mpr ⟨vin1, w10 8 (by decide), nmB_iff.mpr ⟨vin2, w10 9 (by decide), nmB_iff.mpr ?_⟩⟩⟩
    have hij := hf.1
    have hjd := hf.2.1
    have hd := dg_le v
    refine fin _ (fun p => if p < 7 then 0 else fo3 v i j (p - 7)) (mch_t G3 (mch_t (mch_t (mch_J (Or.inr (Or.inr rfl))) (mch_J (Or.inr (Or.inr rfl)))) (mch_J (Or.inr (Or.inr rfl))))) (fun p hp => ?_) ⟨-1, 1, by decide, by decide, fun p hp => ?_⟩ (fun p hp => ?_)
    · rw [mUJ_at, mUJ_at, mUJ_at, mUJ_ne (show (6 : Nat) ≠ 10 by decide), mUJ_ne (show (6 : Nat) ≠ 10 by decide), mUJ_ne (show (6 : Nat) ≠ 10 by decide), hr6 0 (by decide), hr6 1 (by decide), hr6 2 (by decide)]
      show _ = iL (if p < 7 then 0 else fo3 v i j (p - 7))
      rcases (show p < 7 ∨ p = 7 ∨ p = 8 ∨ p = 9 by omega) with q | q | q | q
      · rw [updL_ne (by omega), updL_ne (by omega), updL_ne (by omega), if_pos q]; exact e3 p hp
      · subst q; rw [updL_ne (by omega), updL_ne (by omega), updL_at, if_neg (by omega)]
      · subst q; rw [updL_ne (by omega), updL_at, if_neg (by omega)]
      · subst q; rw [updL_at, if_neg (by omega)]
    · have o := pr3_one (ff3 v)
      have e := eqr_1 k1
      rw [eff] at o e
      rw [e]
      rcases (show p < 7 ∨ p = 7 ∨ p = 8 ∨ p = 9 by omega) with q | q | q | q
      · rw [if_pos q, o.1 p q]; rfl
      · subst q; rw [if_neg (by omega), o.2.1, fo3_sw v j i 0]; show -1 * fo3 v i j 0 = _; omega
      · subst q; rw [if_neg (by omega), o.2.2.1, fo3_sw v j i 1]; show -1 * fo3 v i j 1 = _; omega
      · subst q; rw [if_neg (by omega), o.2.2.2, fo3_sw v j i 2]; show -1 * fo3 v i j 2 = _; omega
    · show r63 (if p < 7 then 0 else fo3 v i j (p - 7))
      split
      · unfold r63; omega
      · exact ab_r (fo3_ab hs (by omega) (by omega) _)
theorem st_equation : ∀ (z0 z1 : Int32) (σ : cS) (τ : mS), Inv σ τ → v_X7_equation (fun r σ1 => w_equation (fun r2 τ1 => r = r2 ∧ Inv σ1 τ1) z0 z1 τ) z0 z1 σ := by
  intro z0 z1 σ τ hI
  unfold v_X7_equation v_X7_equation_44 w_equation w_equation_21 w_equation_37
  by_cases a1 : inR z1 0 9
  · refine wi_t 0 9 (by decide) (by decide) a1 ⟨fun _ => ?_, fun q => absurd q (by decide)⟩
    rcases lcases hI z0 with h | ⟨j, hj, rfl, h1, h2⟩ | ⟨j, v, hj, rfl, hV⟩
    · exact pl_b h ⟨fun q => absurd q (by decide), fun _ => iM_t 0 9 (by decide) (by decide) a1 ⟨fun _ => ag_b h ⟨fun _ => ⟨fun q => absurd q (by decide), fun _ => ⟨rfl, hI⟩⟩, fun q => absurd q (by decide)⟩, fun q => absurd q (by decide)⟩⟩
    · exact pl_n hj h1 ⟨fun q => absurd q (by decide), fun _ => iM_t 0 9 (by decide) (by decide) a1 ⟨fun _ => ag_n hj h2 ⟨fun _ => ⟨fun q => absurd q (by decide), fun _ => ⟨rfl, hI⟩⟩, fun q => absurd q (by decide)⟩, fun q => absurd q (by decide)⟩⟩
    · obtain ⟨h1, h2, hp, hm, hk⟩ := id hV
      obtain ⟨i, hi, rfl⟩ := inR_nat (b := 9) a1 (by decide)
      have hk3 := kd_le v
      refine pl_y hj h1 hk.2.2.1 hk3 (fun e => ⟨fun q => absurd q (by decide), fun _ => ?_⟩) (fun e => ⟨fun _ => ⟨vp_in_nI hj (by decide), nmB_iff.mpr ?_⟩, fun q => absurd rfl q⟩)
      · refine iM_t 0 9 (by decide) (by decide) a1 ⟨fun _ => ag_y hj h2 ⟨fun q => absurd rfl q, fun _ => ?_⟩, fun q => absurd q (by decide)⟩
        refine sp_kindOf hj (isV_of hV) hp.2.2 (fun τ' hs _ => ⟨fun q => absurd (by rw [e]; rfl) q, fun _ => ⟨fun q => absurd q (by decide), fun _ => ⟨rfl, Inv_keep hI cKeep_rf (s6_keep hs)⟩⟩⟩)
      · rw [nI_clamp (show j < 2 ^ 31 by omega), nI_clamp (show i < 2 ^ 31 by omega), (cLenL hj).2.1, hk.2.2.2.1 i (by omega)]
        refine ⟨vp_in_nI (by omega) (by decide), iM_t 0 9 (by decide) (by decide) a1 ⟨fun _ => ag_y hj h2 ⟨fun q => absurd rfl q, fun _ => ?_⟩, fun q => absurd q (by decide)⟩⟩
        refine sp_kindOf hj (isV_of hV) hp.2.2 (fun τ' hs _ => ⟨fun _ => ⟨fun _ => ?_, fun q => absurd (by decide) q⟩, fun q => absurd q (nI_ne hk3 (by decide) e)⟩)
        refine sp_findEqM hj (ofV_s6 (isV_of hV) hs) hp e (fun τ2 g2 e2 => ⟨vp_in_nI (by omega) (by decide), ?_, ?_⟩)
        · rw [e2 i (by omega)]
        · exact Inv_keep (Inv_keep hI cKeep_rf (s6_keep hs)) cKeep_rf (mch_keep g2 (by unfold scE; omega))
  · refine wi_f 0 9 (by decide) (by decide) a1 ⟨fun q => absurd rfl q, fun _ => ?_⟩
    exact iM_f 0 9 (by decide) (by decide) a1 ⟨fun q => absurd rfl q, fun _ => ⟨fun _ => ⟨fun q => absurd q (by decide), fun _ => ⟨rfl, hI⟩⟩, fun q => absurd q (by decide)⟩⟩
