/-! PURE: meets (promise 17) -/
def cmb (v : Nat → Int) (a b c : Int) (k : Nat) : Int := a * vc v k 0 + b * vc v k 1 + c * vc v k 2
theorem cmb_ab {v : Nat → Int} (h : sm9 v) {a b c : Int} (ha : ab a 20) (hb : ab b 20) (hc : ab c 20) {k : Nat} (hk : k < 4) : ab (cmb v a b c k) 540 := ab_le (ab_add (ab_add (ab_mul ha (vc_ab h hk (show 0 < 3 by decide))) (ab_mul hb (vc_ab h hk (show 1 < 3 by decide)))) (ab_mul hc (vc_ab h hk (show 2 < 3 by decide)))) (by decide)
def dsc (a b c d : Int) : Int := 18 * a * b * c * d - 4 * b * b * b * d + b * b * c * c - 4 * a * c * c * c - 27 * a * a * d * d
theorem ab_k (k : Nat) : ab (k : Int) k := by unfold ab; omega
theorem dsc_ab {a b c d : Int} (ha : ab a 540) (hb : ab b 540) (hc : ab c 540) (hd : ab d 540) : ab (dsc a b c d) 10000000000000 :=
  ab_le (ab_sub (ab_sub (ab_add (ab_sub (ab_mul (ab_mul (ab_mul (ab_mul (ab_k 18) ha) hb) hc) hd) (ab_mul (ab_mul (ab_mul (ab_mul (ab_k 4) hb) hb) hb) hd)) (ab_mul (ab_mul (ab_mul hb hb) hc) hc)) (ab_mul (ab_mul (ab_mul (ab_mul (ab_k 4) ha) hc) hc) hc)) (ab_mul (ab_mul (ab_mul (ab_mul (ab_k 27) ha) ha) hd) hd)) (by decide)
/-- how many real roots -/
def rt4 (a b c d : Int) : Int32 := if a ≠ 0 then (if 0 < dsc a b c d then 3 else if dsc a b c d < 0 then 1 else if b * b = 3 * a * c then 1 else 2) else if b ≠ 0 then (if 0 < c * c - 4 * b * d then 2 else if c * c - 4 * b * d = 0 then 1 else 0) else if c ≠ 0 then 1 else 0
theorem sp_roots {Q : Int32 → mS → Prop} {a b c d : Int} {τ : mS} (ha : ab a 540) (hb : ab b 540) (hc : ab c 540) (hd : ab d 540) (h : Q (rt4 a b c d) τ) : w_rootsOf Q (iL a) (iL b) (iL c) (iL d) τ := by
  unfold w_rootsOf w_rootsOf_174 w_rootsOf_161 w_rootsOf_115
  have r0 : r63 0 := by unfold r63; omega
  rw [show (18 : Int64) = iL 18 from rfl, show (4 : Int64) = iL 4 from rfl, show (27 : Int64) = iL 27 from rfl, show (3 : Int64) = iL 3 from rfl]
  simp only [iL_mul, iL_sub, iL_add]
  have hD := dsc_ab ha hb hc hd
  have hE : ab (c * c - 4 * b * d) 10000000000000 := ab_le (ab_sub (ab_mul hc hc) (ab_mul (ab_mul (ab_k 4) hb) hd)) (by decide)
  have hS : ab (b * b) 10000000000000 := ab_le (ab_mul hb hb) (by decide)
  have hT : ab (3 * a * c) 10000000000000 := ab_le (ab_mul (ab_mul (ab_k 3) ha) hc) (by decide)
  rw [iL0 (ab_r ha), iL0 (ab_r hb), iL0 (ab_r hc), iL_eq (ab_r hS) (ab_r hT)]
  unfold rt4 at h
  refine ⟨fun qa => ?_, fun qa => nmB_iff.mpr ?_⟩
  · rw [if_neg (fun z => z qa)] at h
    refine ⟨fun qb => ?_, fun qb => nmB_iff.mpr ?_⟩
    · rw [if_neg (fun z => z qb)] at h
      refine ⟨fun qc => ?_, fun qc => ?_⟩
      · rw [if_neg (fun z => z qc)] at h; exact h
      · rw [if_pos qc] at h; exact h
    · rw [if_pos qb] at h
      rw [iL_0, iL_le (ab_r hE) r0, iL_eq (ab_r hE) r0]
      refine ⟨fun q1 => ?_, fun q1 => ?_⟩
      · rw [if_neg (by omega)] at h
        refine ⟨fun q2 => ?_, fun q2 => ?_⟩
        · rw [if_neg q2] at h; exact h
        · rw [if_pos q2] at h; exact h
      · rw [if_pos (by omega)] at h; exact h
  · rw [if_pos qa] at h
    show ((iL (dsc a b c d) ≤ (0 : Int64) → _) ∧ _)
    rw [show (18 * a * b * c * d - 4 * b * b * b * d + b * b * c * c - 4 * a * c * c * c - 27 * a * a * d * d) = dsc a b c d from rfl, iL_0, iL_le (ab_r hD) r0, iL_le r0 (ab_r hD)]
    generalize dsc a b c d = D at *
    refine ⟨fun q1 => ⟨fun q2 => ?_, fun q2 => ?_⟩, fun q1 => ?_⟩
    · rw [if_neg (by omega), if_neg (by omega)] at h
      refine ⟨fun q3 => ?_, fun q3 => ?_⟩
      · rw [if_neg q3] at h; exact h
      · rw [if_pos q3] at h; exact h
    · rw [if_neg (by omega), if_pos (by omega)] at h; exact h
    · rw [if_pos (by omega)] at h; exact h
def row4 (σ : cS) (r : Nat) (p : Nat → Int) : Prop := ∀ k, k < 4 → σ.1 r k = iL (p k)
theorem sp_countC {Q : Int32 → cS → Prop} {σ : cS} {p : Nat → Int} (hp : row4 σ 17 p) (hb : ∀ k, k < 4 → ab (p k) 540) (h : Q (rt4 (p 3) (p 2) (p 1) (p 0)) σ) : v_X2_count Q 17 σ := by
  unfold v_X2_count v_X2_count_66
  have r0 : r63 0 := by unfold r63; omega
  have b0 := hb 0 (by decide); have b1 := hb 1 (by decide); have b2 := hb 2 (by decide); have b3 := hb 3 (by decide)
  have z : ∀ k, k < 4 → (σ.1 17 k = 0 ↔ p k = 0) := fun k hk => by rw [hp k hk]; exact iL0 (ab_r (hb k hk))
  have w : ∀ k : Nat, k < 4 → vp_in (nI k) (cLen 17) := fun k hk => vp_in_nI (N := 4) hk (by decide)
  unfold rt4 at h
  refine sp_last (N := 4) rfl (by decide) (fun i hi hne hl => ?_) (fun hall => ?_)
  · rw [c0, c1, c2, c3, hp 0 (by decide), hp 1 (by decide), hp 2 (by decide), hp 3 (by decide)]
    rw [z i hi] at hne
    have hl' : ∀ k, i < k → k < 4 → p k = 0 := fun k h1 h2 => (z k h2).mp (hl k h1 h2)
    rcases (show i = 0 ∨ i = 1 ∨ i = 2 ∨ i = 3 by omega) with rfl | rfl | rfl | rfl
    · refine ⟨fun _ => ⟨fun _ => ⟨fun _ => ?_, fun q => absurd q (by decide)⟩, fun q => absurd q (by decide)⟩, fun q => absurd q (by decide)⟩
      rw [if_neg (fun z => z (hl' 3 (by decide) (by decide))), if_neg (fun z => z (hl' 2 (by decide) (by decide))), if_neg (fun z => z (hl' 1 (by decide) (by decide)))] at h
      exact h
    · refine ⟨fun _ => ⟨fun _ => ⟨fun q => absurd rfl q, fun _ => ?_⟩, fun q => absurd q (by decide)⟩, fun q => absurd q (by decide)⟩
      rw [if_neg (fun z => z (hl' 3 (by decide) (by decide))), if_neg (fun z => z (hl' 2 (by decide) (by decide))), if_pos hne] at h
      exact h
    · refine ⟨fun _ => ⟨fun q => absurd rfl q, fun _ => ⟨w 1 (by decide), w 1 (by decide), w 2 (by decide), w 0 (by decide), ?_⟩⟩, fun q => absurd q (by decide)⟩
      rw [if_neg (fun z => z (hl' 3 (by decide) (by decide))), if_pos hne] at h
      rw [show (4 : Int64) = iL 4 from rfl]
      simp only [iL_mul, iL_sub]
      have hE : ab (p 1 * p 1 - 4 * p 2 * p 0) 10000000000000 := ab_le (ab_sub (ab_mul b1 b1) (ab_mul (ab_mul (ab_k 4) b2) b0)) (by decide)
      refine sp_sign (ab_r hE) ?_
      generalize p 1 * p 1 - 4 * p 2 * p 0 = E at *
      rcases Int.lt_trichotomy E 0 with q | q | q
      · rw [Int.sign_eq_neg_one_of_neg q]
        rw [if_neg (by omega), if_neg (by omega)] at h; exact h
      · rw [if_neg (by omega), if_pos q] at h; rw [q]; exact h
      · rw [Int.sign_eq_one_of_pos q]
        rw [if_pos q] at h; exact h
    · refine ⟨fun q => absurd rfl q, fun _ => ⟨w 3 (by decide), w 2 (by decide), w 1 (by decide), w 0 (by decide), ?_⟩⟩
      rw [if_pos hne] at h
      unfold v_X2_ofCubic v_X2_ofCubic_86 v_X2_ofCubic_107
      rw [show (18 : Int64) = iL 18 from rfl, show (4 : Int64) = iL 4 from rfl, show (27 : Int64) = iL 27 from rfl, show (3 : Int64) = iL 3 from rfl]
      simp only [iL_mul, iL_sub, iL_add]
      have hD := dsc_ab b3 b2 b1 b0
      have hS : ab (p 2 * p 2) 10000000000000 := ab_le (ab_mul b2 b2) (by decide)
      have hT : ab (3 * p 3 * p 1) 10000000000000 := ab_le (ab_mul (ab_mul (ab_k 3) b3) b1) (by decide)
      rw [iL_eq (ab_r hS) (ab_r hT), show (18 * p 3 * p 2 * p 1 * p 0 - 4 * p 2 * p 2 * p 2 * p 0 + p 2 * p 2 * p 1 * p 1 - 4 * p 3 * p 1 * p 1 * p 1 - 27 * p 3 * p 3 * p 0 * p 0) = dsc (p 3) (p 2) (p 1) (p 0) from rfl]
      generalize dsc (p 3) (p 2) (p 1) (p 0) = D at *
      refine nmB_iff.mpr ?_
      rw [iL_0, iL_le (ab_r hD) r0, iL_eq (ab_r hD) r0]
      refine ⟨fun q1 => ⟨fun q2 => ?_, fun q2 => ?_⟩, fun q1 => ⟨fun q2 => ?_, fun q2 => ?_⟩⟩
      · rw [if_neg (by omega), if_neg (by omega), if_neg q2] at h; exact h
      · rw [if_neg (by omega), if_neg (by omega), if_pos q2] at h; exact h
      · rw [if_neg (by omega), if_pos (by omega)] at h; exact h
      · rw [if_pos (by omega)] at h; exact h
  · rw [if_neg (fun y => y ((z 3 (by decide)).mp (hall 3 (by decide)))), if_neg (fun y => y ((z 2 (by decide)).mp (hall 2 (by decide)))), if_neg (fun y => y ((z 1 (by decide)).mp (hall 1 (by decide))))] at h
    exact ⟨fun _ => ⟨fun _ => ⟨fun _ => h, fun q => absurd q (by decide)⟩, fun q => absurd q (by decide)⟩, fun q => absurd q (by decide)⟩
/-- whether the first c numbers are all 0, as an int -/
def all0 (p : Nat → Int) : Nat → Int32
  | 0 => 1
  | c + 1 => if all0 p c = 0 then 0 else if p c = 0 then 1 else 0
theorem all0_iff (p : Nat → Int) : ∀ c, (all0 p c = 1 ∧ ∀ k, k < c → p k = 0) ∨ (all0 p c = 0 ∧ ∃ k, k < c ∧ p k ≠ 0) := by
  intro c
  induction c with
  | zero => exact Or.inl ⟨rfl, fun k hk => by omega⟩
  | succ c ih =>
    rcases ih with ⟨h1, h2⟩ | ⟨h1, k, h2, h3⟩
    · unfold all0
      rw [h1, if_neg (by decide)]
      by_cases q : p c = 0
      · rw [if_pos q]
        refine Or.inl ⟨rfl, fun k hk => ?_⟩
        rcases Nat.lt_or_ge k c with y | y
        · exact h2 k y
        · have : k = c := by omega
          rw [this]; exact q
      · rw [if_neg q]; exact Or.inr ⟨rfl, c, by omega, q⟩
    · unfold all0
      rw [h1, if_pos rfl]
      exact Or.inr ⟨rfl, k, by omega, h3⟩
theorem meM_main {Q : Int32 → mS → Prop} {j : Nat} {z1 z2 z3 : Int32} {τ : mS} {v : Nat → Int} (hj : j < 4) (hv : ofV τ j v) (hA : ab z1.toInt 20) (hB : ab z2.toInt 20) (hC : ab z3.toInt 20) (k0 : (∀ k, k < 4 → cmb v z1.toInt z2.toInt z3.toInt k = 0) → ∀ τ', mch (fun a => a = 4) τ τ' → Q (-4) τ') (k1 : (∃ k, k < 4 ∧ cmb v z1.toInt z2.toInt z3.toInt k ≠ 0) → ∀ τ', mch (fun a => a = 4) τ τ' → Q (rt4 (cmb v z1.toInt z2.toInt z3.toInt 3) (cmb v z1.toInt z2.toInt z3.toInt 2) (cmb v z1.toInt z2.toInt z3.toInt 1) (cmb v z1.toInt z2.toInt z3.toInt 0)) τ') : w_meets_60 Q (nI j) z1 z2 z3 0 τ := by
  unfold w_meets_60
  refine ⟨fun _ => ?_, fun q => absurd (by decide) q⟩
  have hb := fun k (hk : k < 4) => cmb_ab (v := v) hv.2 hA hB hC hk
  rw [show w_meets_76 Q fuL (nI j) z1 z2 z3 1 0 τ = (fun n c (s : Int32 × mS) => w_meets_76 Q n (nI j) z1 z2 z3 s.1 c s.2) fuL 0 (1, τ) from rfl]
  refine loopU (N := 4) (F := fun n c (s : Int32 × mS) => w_meets_76 Q n (nI j) z1 z2 z3 s.1 c s.2) (I := fun c s => s.1 = all0 (cmb v z1.toInt z2.toInt z3.toInt) c ∧ mch (fun a => a = 4) τ s.2 ∧ ∀ k, k < c → s.2.1 4 k = iL (cmb v z1.toInt z2.toInt z3.toInt k)) (by decide) ?_ ?_ (1, τ) ⟨rfl, mch_rf, fun k hk => by omega⟩
  · intro n c s hc ⟨h0, h1, h2⟩ go
    obtain ⟨x6, s⟩ := s
    show w_meets_76 Q (n + 1) (nI j) z1 z2 z3 x6 (nI c) s
    have h0' : x6 = all0 (cmb v z1.toInt z2.toInt z3.toInt) c := h0
    have h1' : mch (fun a => a = 4) τ s := h1
    have h2' : ∀ k, k < c → s.1 4 k = iL (cmb v z1.toInt z2.toInt z3.toInt k) := h2
    unfold w_meets_76 w_meets_157 w_meets_158
    have w0 := vp_in_nI hc (show 4 < 2 ^ 31 by decide)
    refine ⟨fun q => absurd q (nI_ge (b := 4) hc (by decide)), fun _ => nmB_iff.mpr ?_⟩
    have e : ∀ w, w < 3 → s.1 2 (12 * j + c + 4 * w) = iL (vc v c w) := fun w hw => by
      rw [show 12 * j + c + 4 * w = 12 * j + (4 * w + c) by omega, h1'.1 2 (by decide)]; exact hv.1 (4 * w + c) (by omega)
    rw [show (12 : Int32) = nI 12 from rfl, show (4 : Int32) = nI (4 * 1) from rfl, show (8 : Int32) = nI (4 * 2) from rfl, pk_mul, nI_add, nI_add, nI_add, nI_clamp (show c < 2 ^ 31 by omega), nI_clamp (show 12 * j + c < 2 ^ 31 by omega), nI_clamp (show 12 * j + c + 4 * 1 < 2 ^ 31 by omega), nI_clamp (show 12 * j + c + 4 * 2 < 2 ^ 31 by omega), show 12 * j + c = 12 * j + c + 4 * 0 by omega, e 0 (by decide), e 1 (by decide), e 2 (by decide), i32_iL z1, i32_iL z2, i32_iL z3]
    simp only [iL_mul, iL_add]
    refine ⟨vp_in_nI (by omega) (by decide), vp_in_nI (by omega) (by decide), vp_in_nI (by omega) (by decide), w0, nmB_iff.mpr ?_⟩
    have row : ∀ k, k < c + 1 → (mUJ s 4 c (iL (z1.toInt * vc v c 0 + z2.toInt * vc v c 1 + z3.toInt * vc v c 2))).1 4 k = iL (cmb v z1.toInt z2.toInt z3.toInt k) := by
      intro k hk
      rw [mUJ_at]
      rcases Nat.lt_or_ge k c with q | q
      · rw [updL_ne (by omega)]; exact h2' k q
      · have : k = c := by omega
        subst this
        rw [updL_at]; rfl
    have nx : ∀ y : Int32, y = all0 (cmb v z1.toInt z2.toInt z3.toInt) (c + 1) → w_meets_76 Q n (nI j) z1 z2 z3 y (nI c + 1) (mUJ s 4 c (iL (z1.toInt * vc v c 0 + z2.toInt * vc v c 1 + z3.toInt * vc v c 2))) := by
      intro y hy
      rw [nI_1]
      exact go (y, _) ⟨hy, mch_t h1' (mch_J rfl), row⟩
    rw [row c (by omega), iL0 (ab_r (hb c hc))]
    refine ⟨fun q => nmB_iff.mpr (nx 0 ?_), fun q => ⟨w0, fun q2 => nmB_iff.mpr (nx 0 ?_), fun q2 => nmB_iff.mpr (nx 1 ?_)⟩⟩
    · show (0 : Int32) = if all0 _ c = 0 then 0 else if _ then 1 else 0
      rw [← h0', if_pos q]
    · show (0 : Int32) = if all0 _ c = 0 then 0 else if _ then 1 else 0
      rw [← h0', if_neg q, if_neg q2]
    · show (1 : Int32) = if all0 _ c = 0 then 0 else if _ then 1 else 0
      rw [← h0', if_neg q, if_pos q2]
  · intro n s ⟨h0, h1, h2⟩
    obtain ⟨x6, s⟩ := s
    show w_meets_76 Q (n + 1) (nI j) z1 z2 z3 x6 (nI 4) s
    have h0' : x6 = all0 (cmb v z1.toInt z2.toInt z3.toInt) 4 := h0
    have h1' : mch (fun a => a = 4) τ s := h1
    have h2' : ∀ k, k < 4 → s.1 4 k = iL (cmb v z1.toInt z2.toInt z3.toInt k) := h2
    unfold w_meets_76 w_meets_203
    refine ⟨fun _ => ?_, fun q => absurd (by decide) q⟩
    rw [c0, c1, c2, c3, h2' 0 (by decide), h2' 1 (by decide), h2' 2 (by decide), h2' 3 (by decide)]
    rcases all0_iff (cmb v z1.toInt z2.toInt z3.toInt) 4 with ⟨a1, a2⟩ | ⟨a1, a2⟩
    · rw [a1] at h0'
      exact ⟨fun q => absurd (h0'.symm.trans q) (by decide), fun _ => k0 a2 s h1'⟩
    · rw [a1] at h0'
      refine ⟨fun _ => ⟨vp_in_nI (n := 3) (by decide) (by decide), vp_in_nI (n := 2) (by decide) (by decide), vp_in_nI (n := 1) (by decide) (by decide), vp_in_nI (n := 0) (by decide) (by decide), ?_⟩, fun q => absurd h0' q⟩
      exact sp_roots (hb 3 (by decide)) (hb 2 (by decide)) (hb 1 (by decide)) (hb 0 (by decide)) (k1 a2 s h1')
def okMe (z1 z2 z3 : Int32) : Prop := inR z1 (-20) 20 ∧ inR z2 (-20) 20 ∧ inR z3 (-20) 20 ∧ ¬ (z1 = 0 ∧ z2 = 0)
theorem meM_in {Q : Int32 → mS → Prop} {z0 z1 z2 z3 : Int32} {τ : mS} (h : okMe z1 z2 z3) (k : w_against (fun u τ' => w_meets_60 Q z0 z1 z2 z3 u τ') z0 τ) : w_meets Q z0 z1 z2 z3 τ := by
  unfold w_meets w_meets_55
  exact iM_t (-20) 20 (by decide) (by decide) h.1 ⟨fun q => absurd q (by decide), fun _ => iM_t (-20) 20 (by decide) (by decide) h.2.1 ⟨fun q => absurd q (by decide), fun _ => iM_t (-20) 20 (by decide) (by decide) h.2.2.1 ⟨fun q => absurd q (by decide), fun _ => ⟨fun _ => k, fun q1 => ⟨fun _ => k, fun q2 => absurd ⟨q1, q2⟩ h.2.2.2⟩⟩⟩⟩⟩
theorem meM_bad {Q : Int32 → mS → Prop} {z0 z1 z2 z3 : Int32} {τ : mS} (h : ¬ okMe z1 z2 z3) (k : Q (-1) τ) : w_meets Q z0 z1 z2 z3 τ := by
  have e : w_meets_51 Q z0 z1 z2 z3 τ := by
    unfold w_meets_51 w_meets_60
    exact ⟨fun q => absurd q (by decide), fun _ => k⟩
  unfold w_meets
  by_cases a1 : inR z1 (-20) 20
  · refine iM_t (-20) 20 (by decide) (by decide) a1 ⟨fun q => absurd q (by decide), fun _ => ?_⟩
    by_cases a2 : inR z2 (-20) 20
    · refine iM_t (-20) 20 (by decide) (by decide) a2 ⟨fun q => absurd q (by decide), fun _ => ?_⟩
      by_cases a3 : inR z3 (-20) 20
      · refine iM_t (-20) 20 (by decide) (by decide) a3 ⟨fun q => absurd q (by decide), fun _ => ?_⟩
        exact ⟨fun q => absurd ⟨a1, a2, a3, fun z => q z.1⟩ h, fun _ => ⟨fun q => absurd ⟨a1, a2, a3, fun z => q z.2⟩ h, fun _ => e⟩⟩
      · exact iM_f (-20) 20 (by decide) (by decide) a3 ⟨fun _ => e, fun q => absurd rfl q⟩
    · exact iM_f (-20) 20 (by decide) (by decide) a2 ⟨fun _ => e, fun q => absurd rfl q⟩
  · exact iM_f (-20) 20 (by decide) (by decide) a1 ⟨fun _ => e, fun q => absurd rfl q⟩
theorem sp_meetsC {Q : Int32 → cS → Prop} {j : Nat} {z1 z2 z3 : Int32} {σ : cS} {v : Nat → Int} (hj : j < 4) (hv : numV σ (19 + 5 * j) v) (hs : sm9 v) (hA : ab z1.toInt 20) (hB : ab z2.toInt 20) (hC : ab z3.toInt 20) (k0 : (∀ k, k < 4 → cmb v z1.toInt z2.toInt z3.toInt k = 0) → ∀ σ', chg (fun a => a = 17) σ σ' → Q (-4) σ') (k1 : (∃ k, k < 4 ∧ cmb v z1.toInt z2.toInt z3.toInt k ≠ 0) → ∀ σ', chg (fun a => a = 17) σ σ' → Q (rt4 (cmb v z1.toInt z2.toInt z3.toInt 3) (cmb v z1.toInt z2.toInt z3.toInt 2) (cmb v z1.toInt z2.toInt z3.toInt 1) (cmb v z1.toInt z2.toInt z3.toInt 0)) σ') : v_X7_meets_62 Q fuL (nI j) z1 z2 z3 0 σ := by
  have hb := fun k (hk : k < 4) => cmb_ab (v := v) hs hA hB hC hk
  refine loopU (N := 4) (F := fun n c s => v_X7_meets_62 Q n (nI j) z1 z2 z3 c s) (I := fun c s => chg (fun a => a = 17) σ s ∧ ∀ k, k < c → s.1 17 k = iL (cmb v z1.toInt z2.toInt z3.toInt k)) (by decide) ?_ ?_ σ ⟨chg_rf, fun k hk => by omega⟩
  · intro n c s hc ⟨h1, h2⟩ go
    show v_X7_meets_62 Q (n + 1) (nI j) z1 z2 z3 (nI c) s
    unfold v_X7_meets_62
    refine ⟨fun q => absurd q (nI_ge (b := 4) hc (by decide)), fun _ => ⟨vp_in_nI hj (by decide), nmB_iff.mpr ?_⟩⟩
    rw [nI_clamp (show j < 2 ^ 31 by omega), nI_clamp (show c < 2 ^ 31 by omega), i32_iL z1, i32_iL z2, i32_iL z3]
    refine sp_combined (numV_chg hv h1 (by omega)) hc ⟨vp_in_nI (N := 4) hc (by decide), nmB_iff.mpr (nmB_iff.mpr ?_)⟩
    rw [nI_1]
    refine go _ ⟨chg_t2 h1 (chg_J rfl), fun k hk => ?_⟩
    rw [cUJ_at]
    rcases Nat.lt_or_ge k c with q | q
    · rw [updL_ne (by omega)]; exact h2 k q
    · have : k = c := by omega
      subst this
      rw [updL_at]; rfl
  · intro n s ⟨h1, h2⟩
    show v_X7_meets_62 Q (n + 1) (nI j) z1 z2 z3 (nI 4) s
    unfold v_X7_meets_62 v_X7_meets_121
    refine ⟨fun _ => ?_, fun q => absurd (by decide) q⟩
    have z : ∀ k, k < 4 → (s.1 17 k = 0 ↔ cmb v z1.toInt z2.toInt z3.toInt k = 0) := fun k hk => by rw [h2 k hk]; exact iL0 (ab_r (hb k hk))
    refine sp_first (N := 4) rfl (by decide) (fun i hi hne _ => ⟨fun _ => ?_, fun q => absurd (nI_pos' (by omega)) q⟩) (fun hall => ⟨fun q => absurd q (by decide), fun _ => k0 (fun k hk => (z k hk).mp (hall k hk)) s h1⟩)
    exact sp_countC (p := cmb v z1.toInt z2.toInt z3.toInt) h2 hb (k1 ⟨i, hi, fun q => hne ((z i hi).mpr q)⟩ s h1)
theorem st_meets : ∀ (z0 z1 z2 z3 : Int32) (σ : cS) (τ : mS), Inv σ τ → v_X7_meets (fun r σ1 => w_meets (fun r2 τ1 => r = r2 ∧ Inv σ1 τ1) z0 z1 z2 z3 τ) z0 z1 z2 z3 σ := by
  intro z0 z1 z2 z3 σ τ hI
  have bad : ¬ okMe z1 z2 z3 → v_X7_meets_42 (fun r σ1 => w_meets (fun r2 τ1 => r = r2 ∧ Inv σ1 τ1) z0 z1 z2 z3 τ) σ := fun h => by
    unfold v_X7_meets_42
    exact meM_bad h ⟨rfl, hI⟩
  have main : okMe z1 z2 z3 → v_X7_meets_44 (fun r σ1 => w_meets (fun r2 τ1 => r = r2 ∧ Inv σ1 τ1) z0 z1 z2 z3 τ) z0 z1 z2 z3 σ := fun ok => by
    unfold v_X7_meets_44
    rcases lcases hI z0 with h | ⟨j, hj, rfl, h1, h2⟩ | ⟨j, v, hj, rfl, hV⟩
    · refine mis_b h ⟨fun q => absurd q (by decide), fun _ => meM_in ok (ag_b h ?_)⟩
      unfold w_meets_60
      exact ⟨fun q => absurd q (by decide), fun _ => ⟨rfl, hI⟩⟩
    · refine mis_n hj h1 ⟨fun q => absurd q (by decide), fun _ => meM_in ok (ag_n hj h2 ?_)⟩
      unfold w_meets_60
      exact ⟨fun q => absurd q (by decide), fun _ => ⟨rfl, hI⟩⟩
    · obtain ⟨h1, h2, hp, hm, hk⟩ := id hV
      have hA : ab z1.toInt 20 := inR_ab (b := 20) ok.1
      have hB : ab z2.toInt 20 := inR_ab (b := 20) ok.2.1
      have hC : ab z3.toInt 20 := inR_ab (b := 20) ok.2.2.1
      have hI' : ∀ {σ' τ'}, chg (fun a => a = 17) σ σ' → mch (fun a => a = 4) τ τ' → Inv σ' τ' := fun g' m => Inv_keep hI ⟨fun a ha => g'.1 a (by omega), by rw [g'.2], fun _ _ => by rw [g'.2], by rw [g'.2], fun q => by unfold plainR at *; rw [g'.2]; exact q⟩ (mch_keep m (by decide))
      refine mis_y hj h1 ⟨fun _ => ?_, fun q => absurd rfl q⟩
      refine sp_meetsC hj (isV_num hj hV) hp.1 hA hB hC (fun ha σ' g => ?_) (fun he σ' g => ?_)
      · exact meM_in ok (ag_y hj h2 (meM_main hj (isV_of hV) hA hB hC (fun _ τ' m => ⟨rfl, hI' g m⟩) (fun ⟨k, hk, hn⟩ => absurd (ha k hk) hn)))
      · obtain ⟨k, hk, hn⟩ := he
        exact meM_in ok (ag_y hj h2 (meM_main hj (isV_of hV) hA hB hC (fun ha => absurd (ha k hk) hn) (fun _ τ' m => ⟨rfl, hI' g m⟩)))
  unfold v_X7_meets
  by_cases a1 : inR z1 (-20) 20
  · refine wi_t (-20) 20 (by decide) (by decide) a1 ⟨fun q => absurd q (by decide), fun _ => ?_⟩
    by_cases a2 : inR z2 (-20) 20
    · refine wi_t (-20) 20 (by decide) (by decide) a2 ⟨fun q => absurd q (by decide), fun _ => ?_⟩
      by_cases a3 : inR z3 (-20) 20
      · refine wi_t (-20) 20 (by decide) (by decide) a3 ⟨fun q => absurd q (by decide), fun _ => ?_⟩
        exact ⟨fun q => main ⟨a1, a2, a3, fun z => q z.1⟩, fun q1 => ⟨fun q => main ⟨a1, a2, a3, fun z => q z.2⟩, fun q2 => bad (fun z => z.2.2.2 ⟨q1, q2⟩)⟩⟩
      · exact wi_f (-20) 20 (by decide) (by decide) a3 ⟨fun _ => bad (fun z => a3 z.2.2.1), fun q => absurd rfl q⟩
    · exact wi_f (-20) 20 (by decide) (by decide) a2 ⟨fun _ => bad (fun z => a2 z.2.1), fun q => absurd rfl q⟩
  · exact wi_f (-20) 20 (by decide) (by decide) a1 ⟨fun _ => bad (fun z => a1 z.1), fun q => absurd rfl q⟩
