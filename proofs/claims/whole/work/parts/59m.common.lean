/-! PURE: the reference's common divisor -/
theorem dA_mz (p : Nat → Int) : dA p 0 = (mz4 p : Int) - 1 := by
  unfold dA mz4
  by_cases h3 : p 3 = 0 <;> by_cases h2 : p 2 = 0 <;> by_cases h1 : p 1 = 0 <;> by_cases h0 : p 0 = 0 <;> simp [h3, h2, h1, h0]
theorem sp_dM {Q : Int32 → mS → Prop} {r a : Nat} {σ : mS} {p : Nat → Int} (ha : a + 3 < mLen r) (hL : mLen r < 500) (hp : ∀ i, i < 4 → σ.1 r (a + i) = iL (p i) ∧ r63 (p i)) (h : Q (iI ((mz4 p : Int) - 1)) σ) : w_degreeAt Q r (nI a) σ := by
  refine sp_dA (z := p) (b := 0) ha hL (fun i hi => by rw [Nat.zero_add]; exact hp i hi) ?_
  rw [dA_mz]
  exact h
def rw4 (σ : mS) (r : Nat) (p : Nat → Int) : Prop := ∀ i, i < 4 → σ.1 r i = iL (p i) ∧ r63 (p i)
theorem rw4_d {Q : Int32 → mS → Prop} {r : Nat} {σ : mS} {p : Nat → Int} (hr : mLen r = 4) (hp : rw4 σ r p) (h : Q (iI ((mz4 p : Int) - 1)) σ) : w_degreeAt Q r 0 σ := sp_dM (a := 0) (by rw [hr]; decide) (by rw [hr]; decide) (fun i hi => by rw [Nat.zero_add]; exact hp i hi) h
theorem rw4_ch {P : Nat → Prop} {σ σ' : mS} {r : Nat} {p : Nat → Int} (h : rw4 σ r p) (g : mch P σ σ') (hr : ¬ P r) : rw4 σ' r p := fun i hi => by rw [g.1 r hr]; exact h i hi
theorem sp_cleanM {Q : mS → Prop} {r : Nat} {σ : mS} {p : Nat → Int} (hr : mLen r = 4) (hp : rw4 σ r p) (go : ∀ σ', mch (fun a => a = r) σ σ' → rw4 σ' r (cl4 p) → Q σ') : w_clean Q r σ := by
  have hg63 := gcdN_lt (z := p) (N := 4) (fun i hi => (hp i hi).2)
  unfold w_clean
  rw [show w_clean_4 Q r fuL (0 : Int64) 0 σ = (fun n c (s : Int64) => w_clean_4 Q r n s c σ) fuL 0 0 from rfl]
  refine loopU (N := 4) (F := fun n c (s : Int64) => w_clean_4 Q r n s c σ) (I := fun c s => s = iL (gcdN p c)) (by decide) ?_ ?_ 0 rfl
  · intro n c s hc hs nx
    subst hs
    show w_clean_4 Q r (n + 1) (iL (gcdN p c)) (nI c) σ
    unfold w_clean_4
    rw [hr, nI_clamp (show c < 2 ^ 31 by omega), (hp c hc).1]
    refine ⟨fun q => absurd q (nI_ge (b := 4) hc (by decide)), fun _ => ⟨vp_in_nI hc (by decide), sp_common (nat_r63 (hg63 c (by omega))) (hp c hc).2 (nmB_iff.mpr ?_)⟩⟩
    rw [nI_1]
    exact nx _ rfl
  · intro n s hs
    subst hs
    show w_clean_4 Q r (n + 1) (iL (gcdN p 4)) (nI 4) σ
    unfold w_clean_4
    refine ⟨fun _ => ?_, fun q => absurd (by decide) q⟩
    have rg := nat_r63 (hg63 4 (Nat.le_refl _))
    by_cases h1 : ((gcdN p 4 : Nat) : Int) ≤ 1
    · have same : rw4 σ r (cl4 p) := fun i hi => by
        have : cl4 p i = p i := by
          unfold cl4
          rcases (show gcdN p 4 = 0 ∨ gcdN p 4 = 1 by omega) with q | q
          · rw [gcdN_zero q i hi]; exact Int.zero_tdiv _
          · rw [q]; exact Int.tdiv_one _
        rw [this]; exact hp i hi
      unfold w_clean_25 w_clean_49
      exact ⟨fun _ => go σ mch_rf same, fun _ => ⟨fun _ => go σ mch_rf same, fun q => absurd (by rw [iL_1, iL_le rg (by unfold r63; omega)]; exact h1) q⟩⟩
    · refine loopU (N := 4) (F := fun n c s => w_clean_25 Q r n (iL (gcdN p 4)) c s) (I := fun c s => mch (fun a => a = r) σ s ∧ ∀ i, i < 4 → s.1 r i = iL (if i < c then cl4 p i else p i)) (by decide) ?_ ?_ σ ⟨mch_rf, fun i hi => by rw [if_neg (by omega)]; exact (hp i hi).1⟩
      · intro n c s hc ⟨g, z⟩ nx
        show w_clean_25 Q r (n + 1) (iL (gcdN p 4)) (nI c) s
        unfold w_clean_25
        have w4 := vp_in_nI hc (show 4 < 2 ^ 31 by decide)
        rw [hr, nI_clamp (show c < 2 ^ 31 by omega), iL_1, iL_le rg (by unfold r63; omega), iL0 rg, z c hc, if_neg (by omega), iL_div (hp c hc).2 rg]
        refine ⟨fun q => absurd q (nI_ge (b := 4) hc (by decide)), fun _ => ⟨fun q => absurd q h1, fun _ => ⟨w4, by omega, w4, nmB_iff.mpr (nmB_iff.mpr ?_)⟩⟩⟩
        rw [nI_1]
        refine nx _ ⟨mch_t g (mch_J rfl), fun i hi => ?_⟩
        rw [mUJ_at]
        rcases Nat.lt_trichotomy i c with q | q | q
        · rw [updL_ne (by omega), z i hi, if_pos q, if_pos (by omega)]
        · subst q; rw [updL_at, if_pos (by omega)]; rfl
        · rw [updL_ne (by omega), z i hi, if_neg (by omega), if_neg (by omega)]
      · intro n s ⟨g, z⟩
        show w_clean_25 Q r (n + 1) (iL (gcdN p 4)) (nI 4) s
        unfold w_clean_25 w_clean_49
        refine ⟨fun _ => go s g (fun i hi => ⟨?_, tdiv_r63 (hp i hi).2⟩), fun q => absurd (by decide) q⟩
        have := z i hi
        rwa [if_pos hi] at this
def s45 (a : Nat) : Prop := a = 4 ∨ a = 5
theorem sp_change {Q : mS → Prop} {σ : mS} {a b : Nat → Int} (ha : rw4 σ 4 a) (hb : rw4 σ 5 b) (go : ∀ σ', mch s45 σ σ' → rw4 σ' 4 b → rw4 σ' 5 a → Q σ') : w_change Q σ := by
  unfold w_change
  refine loopU (N := 4) (F := fun n c s => w_change_2 Q n c s) (I := fun c s => mch s45 σ s ∧ ∀ i, i < 4 → s.1 4 i = iL (if i < c then b i else a i) ∧ s.1 5 i = iL (if i < c then a i else b i)) (by decide) ?_ ?_ σ ⟨mch_rf, fun i hi => by rw [if_neg (by omega), if_neg (by omega)]; exact ⟨(ha i hi).1, (hb i hi).1⟩⟩
  · intro n c s hc ⟨g, z⟩ nx
    show w_change_2 Q (n + 1) (nI c) s
    unfold w_change_2
    have w4 := vp_in_nI hc (show 4 < 2 ^ 31 by decide)
    obtain ⟨z1, z2⟩ := z c hc
    rw [if_neg (by omega)] at z1 z2
    rw [nI_clamp (show c < 2 ^ 31 by omega), z1, z2, nI_1]
    refine ⟨fun q => absurd q (nI_ge (b := 4) hc (by decide)), fun _ => ⟨w4, nmB_iff.mpr ⟨w4, w4, nmB_iff.mpr ⟨w4, nmB_iff.mpr (nmB_iff.mpr (nx _ ⟨mch_t g (mch_t (mch_J (Or.inl rfl)) (mch_J (Or.inr rfl))), fun i hi => ?_⟩))⟩⟩⟩⟩
    rw [mUJ_ne (show (4 : Nat) ≠ 5 by decide), mUJ_at, mUJ_at, mUJ_ne (show (5 : Nat) ≠ 4 by decide)]
    obtain ⟨y1, y2⟩ := z i hi
    rcases Nat.lt_trichotomy i c with q | q | q
    · rw [updL_ne (by omega), updL_ne (by omega), y1, y2, if_pos q, if_pos q, if_pos (by omega), if_pos (by omega)]; exact ⟨rfl, rfl⟩
    · subst q; rw [updL_at, updL_at, if_pos (by omega), if_pos (by omega)]; exact ⟨rfl, rfl⟩
    · rw [updL_ne (by omega), updL_ne (by omega), y1, y2, if_neg (by omega), if_neg (by omega), if_neg (by omega), if_neg (by omega)]; exact ⟨rfl, rfl⟩
  · intro n s ⟨g, z⟩
    show w_change_2 Q (n + 1) (nI 4) s
    unfold w_change_2
    refine ⟨fun _ => go s g (fun i hi => ⟨?_, (hb i hi).2⟩) (fun i hi => ⟨?_, (ha i hi).2⟩), fun q => absurd (by decide) q⟩
    · have := (z i hi).1
      rwa [if_pos hi] at this
    · have := (z i hi).2
      rwa [if_pos hi] at this
theorem st_lv1 {Q : mS → Prop} {n hi lo : Nat} {σ : mS} {a b : Nat → Int} (ha : rw4 σ 4 a) (hb : rw4 σ 5 b) (hbz : ∀ k, lo < k → k < 4 → b k = 0) (haz : ∀ k, hi < k → k < 4 → a k = 0) (hl : lo ≤ hi) (h3 : hi ≤ 3) (hr : ∀ k, k < 4 → r63 (stp a b hi lo k)) (nx : ∀ σ', mch s45 σ σ' → rw4 σ' 4 (stp a b hi lo) → rw4 σ' 5 b → w_leave_18 Q n (nI lo) (iI ((mz4 (stp a b hi lo) : Int) - 1)) σ') : w_leave_18 Q (n + 1) (nI lo) (nI hi) σ := by
  unfold w_leave_18
  rw [nI_clamp (show hi < 2 ^ 31 by omega), nI_clamp (show lo < 2 ^ 31 by omega), (ha hi (by omega)).1, (hb lo (by omega)).1]
  refine ⟨fun q => absurd q (nI_nlt hl (by omega)), fun _ => ⟨vp_in_nI (by omega) (by decide), nmB_iff.mpr ⟨vp_in_nI (by omega) (by decide), nmB_iff.mpr ?_⟩⟩⟩
  refine loopU (N := 4) (F := fun m c s => w_leave_41 Q (w_leave_18 Q n) m (nI lo) (nI hi) (iL (a hi)) (iL (b lo)) c s) (I := fun c s => mch (fun x => x = 4) σ s ∧ ∀ i, i < 4 → s.1 4 i = iL (if i < c then a i * b lo else a i)) (by decide) ?_ ?_ σ ⟨mch_rf, fun i hi' => by rw [if_neg (by omega)]; exact (ha i hi').1⟩
  · intro m c s hc ⟨g, z⟩ nx2
    show w_leave_41 Q (w_leave_18 Q n) (m + 1) (nI lo) (nI hi) (iL (a hi)) (iL (b lo)) (nI c) s
    unfold w_leave_41
    have w4 := vp_in_nI hc (show 4 < 2 ^ 31 by decide)
    rw [nI_clamp (show c < 2 ^ 31 by omega), z c hc, if_neg (by omega), iL_mul, nI_1]
    refine ⟨fun q => absurd q (nI_ge (b := 4) hc (by decide)), fun _ => ⟨w4, w4, nmB_iff.mpr (nmB_iff.mpr (nx2 _ ⟨mch_t g (mch_J rfl), fun i hi' => ?_⟩))⟩⟩
    rw [mUJ_at]
    rcases Nat.lt_trichotomy i c with q | q | q
    · rw [updL_ne (by omega), z i hi', if_pos q, if_pos (by omega)]
    · subst q; rw [updL_at, if_pos (by omega)]
    · rw [updL_ne (by omega), z i hi', if_neg (by omega), if_neg (by omega)]
  · intro m s ⟨g, z⟩
    show w_leave_41 Q (w_leave_18 Q n) (m + 1) (nI lo) (nI hi) (iL (a hi)) (iL (b lo)) (nI 4) s
    unfold w_leave_41
    refine ⟨fun _ => ?_, fun q => absurd (by decide) q⟩
    have hb' : ∀ {u : mS}, mch (fun x => x = 4) σ u → rw4 u 5 b := fun gu => rw4_ch hb gu (by decide)
    refine loopU (N := lo + 1) (F := fun y c u => w_leave_68 Q (w_leave_18 Q n) y (nI lo) (nI hi) (iL (a hi)) c u) (I := fun c u => mch (fun x => x = 4) σ u ∧ ∀ i, i < 4 → u.1 4 i = iL (a i * b lo - (if hi - lo ≤ i ∧ i < hi - lo + c then a hi * b (i - (hi - lo)) else 0))) (by omega) ?_ ?_ s ⟨g, fun i hi' => by rw [z i hi', if_pos hi', if_neg (by omega), Int.sub_zero]⟩
    · intro y c u hc ⟨g2, z2⟩ nx2
      show w_leave_68 Q (w_leave_18 Q n) (y + 1) (nI lo) (nI hi) (iL (a hi)) (nI c) u
      unfold w_leave_68
      rw [nI_sub2 hl, nI_add, nI_clamp (show hi - lo + c < 2 ^ 31 by omega), nI_clamp (show c < 2 ^ 31 by omega), z2 (hi - lo + c) (by omega), if_neg (by omega), ((hb' g2) c (by omega)).1, iL_mul, iL_sub, nI_1 c]
      have w4 := vp_in_nI (show hi - lo + c < 4 by omega) (show 4 < 2 ^ 31 by decide)
      refine ⟨fun q => absurd q (nI_nlt (by omega) (by omega)), fun _ => ⟨w4, vp_in_nI (by omega) (by decide), w4, nmB_iff.mpr (nmB_iff.mpr (nx2 _ ⟨mch_t g2 (mch_J rfl), fun i hi' => ?_⟩))⟩⟩
      rw [mUJ_at]
      by_cases q : i = hi - lo + c
      · subst q
        rw [updL_at, if_pos (by omega), show hi - lo + c - (hi - lo) = c by omega, Int.sub_zero]
      · rw [updL_ne q, z2 i hi']
        congr 2
        by_cases q2 : hi - lo ≤ i ∧ i < hi - lo + c
        · rw [if_pos q2, if_pos (by omega)]
        · rw [if_neg q2, if_neg (by omega)]
    · intro y u ⟨g2, z2⟩
      show w_leave_68 Q (w_leave_18 Q n) (y + 1) (nI lo) (nI hi) (iL (a hi)) (nI (lo + 1)) u
      unfold w_leave_68
      have r4 : rw4 u 4 (stp a b hi lo) := by
        intro i hi'
        refine ⟨?_, hr i hi'⟩
        rw [z2 i hi']
        congr 1
        unfold stp
        by_cases q : hi - lo ≤ i
        · rw [if_pos q]
          by_cases q2 : i < hi - lo + (lo + 1)
          · rw [if_pos ⟨q, q2⟩]
          · rw [if_neg (by omega), hbz (i - (hi - lo)) (by omega) (by omega), Int.mul_zero]
        · rw [if_neg q, if_neg (by omega)]
      refine ⟨fun _ => rw4_d rfl r4 ?_, fun q => absurd (nI_lt (by omega) (by omega)) q⟩
      exact nx u (mch_w g2 (fun x hx => Or.inl hx)) r4 (hb' g2)
theorem st_lv0 {Q : mS → Prop} {n lo : Nat} {σ : mS} {a b : Nat → Int} (ha : rw4 σ 4 a) (hb : rw4 σ 5 b) (hlo : lo < 4) (hm : mz4 a ≤ lo) (go : ∀ σ', mch s45 σ σ' → rw4 σ' 4 (cl4 a) → rw4 σ' 5 b → Q σ') : w_leave_18 Q (n + 1) (nI lo) (iI ((mz4 a : Int) - 1)) σ := by
  unfold w_leave_18
  have a4 := mz_4 a
  refine ⟨fun _ => sp_cleanM rfl ha (fun σ' g r => go σ' (mch_w g (fun x hx => Or.inl hx)) r (rw4_ch hb g (by decide))), fun q => absurd ?_ q⟩
  rw [iI_nat, iI_lt (by unfold r31; omega) (by unfold r31; omega)]
  omega
/-- the remainder: at the degree 3 one step, at the degree 2 two at most -/
theorem sp_leave {Q : mS → Prop} {σ : mS} {a b : Nat → Int} {A B : Nat} (ha : rw4 σ 4 a) (hb : rw4 σ 5 b) (hm : mz4 b ≤ mz4 a) (h3 : 3 ≤ mz4 b) (bA : ∀ i, i < 4 → ab (a i) A) (bB : ∀ i, i < 4 → ab (b i) B) (hn : mz4 a = 4 → 2 * (2 * (A * B) * B) < 9223372036854775808) (hn1 : 2 * (A * B) < 9223372036854775808) (go : ∀ σ' r, mch s45 σ σ' → rw4 σ' 4 (cl4 r) → rw4 σ' 5 b → (∀ k, isP k → ((dvP k (e4 r) ∧ dvP k (e4 b)) ↔ (dvP k (e4 a) ∧ dvP k (e4 b)))) → mz4 r < mz4 b → (mz4 b = 4 → r = stp a b 3 3) → Q σ') : w_leave Q σ := by
  have a4 := mz_4 a
  have b4 := mz_4 b
  unfold w_leave
  refine rw4_d rfl hb (rw4_d rfl ha ?_)
  have e1 : iI ((mz4 a : Int) - 1) = nI (mz4 a - 1) := by rw [iI_nat]; congr 1; omega
  have e2 : iI ((mz4 b : Int) - 1) = nI (mz4 b - 1) := by rw [iI_nat]; congr 1; omega
  rw [e1, e2]
  have zb : ∀ k, mz4 b - 1 < k → k < 4 → b k = 0 := by
    rcases mz_facts b with ⟨q, _⟩ | ⟨_, _, _, d⟩
    · omega
    · exact fun k k1 k2 => d k (by omega) k2
  have nb : b (mz4 b - 1) ≠ 0 := by
    rcases mz_facts b with ⟨q, _⟩ | ⟨_, _, c, _⟩
    · omega
    · exact c
  have za : ∀ k, mz4 a - 1 < k → k < 4 → a k = 0 := by
    rcases mz_facts a with ⟨q, _⟩ | ⟨_, _, _, d⟩
    · omega
    · exact fun k k1 k2 => d k (by omega) k2
  have s1 := fun k (hk : k < 4) => stp_ab (hi := mz4 a - 1) (lo := mz4 b - 1) (by omega) (by omega) bA bB hk
  have d1 := fun k (_ : isP k) => stp_dv (k := k) (a := a) (b := b) (hi := mz4 a - 1) (lo := mz4 b - 1) (by omega) (by omega) zb nb
  have m1 : mz4 (stp a b (mz4 a - 1) (mz4 b - 1)) ≤ mz4 a - 1 := mz_le (stp_hi (by omega) (by omega) za zb)
  have h4eq : mz4 b = 4 → stp a b (mz4 a - 1) (mz4 b - 1) = stp a b 3 3 := fun q => by rw [show mz4 a - 1 = 3 by omega, show mz4 b - 1 = 3 by omega]
  refine st_lv1 (n := 999) ha hb zb za (by omega) (by omega) (fun k hk => ab_r (A := 2 * (A * B)) (s1 k hk) hn1) (fun σ1 g1 r1 q1 => ?_)
  revert s1 d1 m1 h4eq r1
  generalize stp a b (mz4 a - 1) (mz4 b - 1) = r
  intro s1 d1 m1 h4eq r1
  by_cases hlt : mz4 r < mz4 b
  · exact st_lv0 (n := 998) r1 q1 (by omega) (by omega) (fun σ2 g2 r2 q2 => go σ2 r (mch_t g1 g2) r2 q2 d1 hlt h4eq)
  · have hr3 : mz4 r = 3 ∧ mz4 b = 3 := by omega
    have e3 : iI ((mz4 r : Int) - 1) = nI (mz4 r - 1) := by rw [iI_nat]; congr 1; omega
    rw [e3]
    have zr : ∀ k, mz4 r - 1 < k → k < 4 → r k = 0 := by
      rcases mz_facts r with ⟨q, _⟩ | ⟨_, _, _, d⟩
      · omega
      · exact fun k k1 k2 => d k (by omega) k2
    have s2 := fun k (hk : k < 4) => stp_ab (hi := mz4 r - 1) (lo := mz4 b - 1) (by omega) (by omega) s1 bB hk
    have d2 := fun k (_ : isP k) => stp_dv (k := k) (a := r) (b := b) (hi := mz4 r - 1) (lo := mz4 b - 1) (by omega) (by omega) zb nb
    have m2 : mz4 (stp r b (mz4 r - 1) (mz4 b - 1)) ≤ mz4 r - 1 := mz_le (stp_hi (by omega) (by omega) zr zb)
    refine st_lv1 (n := 998) r1 q1 zb zr (by omega) (by omega) (fun k hk => ab_r (A := 2 * (2 * (A * B) * B)) (s2 k hk) (hn (by omega))) (fun σ2 g2 r2 q2 => ?_)
    exact st_lv0 (n := 997) r2 q2 (by omega) (by omega) (fun σ3 g3 r3 q3 => go σ3 _ (mch_t g1 (mch_t g2 g3)) r3 q3 (fun k hk => (d2 k hk).trans (d1 k hk)) (by omega) (fun q => by omega))
theorem sp_in64 {Q : Int32 → mS → Prop} {x p q : Int} {a b : Int64} {σ : mS} (hx : r63 x) (ha : a.toInt = p) (hb : b.toInt = q) (h1 : (p ≤ x ∧ x ≤ q) → Q 1 σ) (h0 : ¬ (p ≤ x ∧ x ≤ q) → Q 0 σ) : w_in Q (iL x) a b σ := by
  have l1 : iL x < a ↔ x < p := by rw [Int64.lt_iff_toInt_lt, iL_toInt hx, ha]
  have l2 : b < iL x ↔ q < x := by rw [Int64.lt_iff_toInt_lt, iL_toInt hx, hb]
  unfold w_in w_in_17 w_in_18
  rw [l1, l2]
  refine ⟨fun h => ⟨z_0, h0 (fun z => by omega)⟩, fun h => ⟨fun h2 => ⟨z_0, h0 (fun z => by omega)⟩, fun h2 => ⟨z_1, h1 ⟨by omega, by omega⟩⟩⟩⟩
theorem st_dl {Q : Int32 → mS → Prop} {n k : Nat} {σ : mS} {a b : Nat → Int} {R : Int} (ha : rw4 σ 4 a) (hb : rw4 σ 5 b) (hk : 1 ≤ k) (hk3 : k ≤ 3) (h1 : b 1 ≠ 0) (hR : ab R 1000000000000000000) (hA : ab (a k) 18000000) (h0 : ¬ (∃ f, a k - R = b 1 * f ∧ (f = 0 ∨ (ab (b 0) 1000000000 ∧ ab f 1000000000))) → Q 0 σ) (go : ∀ f, a k - R = b 1 * f → (f = 0 ∨ (ab (b 0) 1000000000 ∧ ab f 1000000000)) → w_dividesLine_4 Q n (iL (f * b 0)) (nI k + (-1)) σ) : w_dividesLine_4 Q (n + 1) (iL R) (nI k) σ := by
  have hc : ab (a k - R) 2000000000000000000 := ab_le (ab_sub hA hR) (by decide)
  have rc := ab_r hc
  have rb1 := (hb 1 (by decide)).2
  have rb0 := (hb 0 (by decide)).2
  unfold w_dividesLine_4 w_dividesLine_85
  rw [nI_clamp (show k < 2 ^ 31 by omega), c1, c0, (ha k (by omega)).1, (hb 1 (by decide)).1, (hb 0 (by decide)).1, iL_sub, iL0 rb1]
  refine ⟨fun q => absurd q (nI_nlt (b := 1) hk (by omega)), fun _ => ⟨vp_in_nI (by omega) (by decide), nmB_iff.mpr ⟨vp_in_nI (n := 1) (by decide) (by decide), h1, ?_⟩⟩⟩
  have hrem := iL_rem rc rb1
  rw [hrem]
  have rt : r63 ((a k - R).tmod (b 1)) := by
    have e := Int.mul_tdiv_add_tmod (a k - R) (b 1)
    have l : ((a k - R).tmod (b 1)).natAbs ≤ (a k - R).natAbs := by
      rw [Int.natAbs_tmod]
      exact Nat.mod_le _ _
    unfold r63 ab at *
    omega
  rw [iL0 rt]
  have rf := tdiv_r63 (a := a k - R) (b := b 1) rc
  refine ⟨fun q => ⟨vp_in_nI (n := 1) (by decide) (by decide), h1, nmB_iff.mpr ?_⟩, fun q => ⟨z_0, h0 (fun ⟨f, hf, _⟩ => q (by rw [hf]; exact Int.mul_tmod_right _ _))⟩⟩
  have ef : a k - R = b 1 * (a k - R).tdiv (b 1) := by
    have e := Int.mul_tdiv_add_tmod (a k - R) (b 1)
    rw [q] at e
    omega
  rw [iL_div rc rb1]
  have uniq : ∀ f, a k - R = b 1 * f → f = (a k - R).tdiv (b 1) := fun f hf => Int.eq_of_mul_eq_mul_left h1 (by rw [← hf]; exact ef)
  revert rf ef uniq
  generalize (a k - R).tdiv (b 1) = f
  intro rf ef uniq
  rw [iL0 rf]
  have nx : (f = 0 ∨ (ab (b 0) 1000000000 ∧ ab f 1000000000)) → w_dividesLine_87 Q (w_dividesLine_4 Q n) (nI k) (iL f) σ := by
    intro hok
    unfold w_dividesLine_87 w_dividesLine_107
    rw [iL0 rf, c0, (hb 0 (by decide)).1, iL_mul]
    have g := go f ef hok
    refine ⟨fun _ => ⟨vp_in_nI (n := 0) (by decide) (by decide), nmB_iff.mpr g⟩, fun y => nmB_iff.mpr ?_⟩
    rw [y, Int.zero_mul] at g
    exact g
  have bad : ¬ (f = 0 ∨ (ab (b 0) 1000000000 ∧ ab f 1000000000)) → Q 0 σ := fun hno => h0 (fun ⟨f', hf', hok⟩ => hno (by rw [← uniq f' hf']; exact hok))
  refine ⟨fun y => nx (Or.inl y), fun y => ⟨vp_in_nI (n := 0) (by decide) (by decide), ?_⟩⟩
  refine sp_in64 (p := -1000000000) (q := 1000000000) rb0 (by decide) (by decide) (fun w1 => ⟨fun z => absurd z (by decide), fun _ => ?_⟩) (fun w1 => ⟨fun _ => ⟨z_0, bad (fun z => w1 ?_)⟩, fun z => absurd rfl z⟩)
  · refine sp_in64 (p := -1000000000) (q := 1000000000) rf (by decide) (by decide) (fun w2 => ⟨fun _ => nx (Or.inr ⟨ab_i.mpr ⟨by omega, by omega⟩, ab_i.mpr ⟨by omega, by omega⟩⟩), fun z => absurd z (by decide)⟩) (fun w2 => ⟨fun z => absurd rfl z, fun _ => ⟨z_0, bad (fun z => w2 ?_)⟩⟩)
    rcases z with z | ⟨_, z⟩
    · exact absurd z y
    · have := ab_i.mp z; omega
  · rcases z with z | ⟨z, _⟩
    · exact absurd z y
    · have := ab_i.mp z; omega
/-- whether one of the degree 1 divides -/
theorem sp_divides {Q : Int32 → mS → Prop} {σ : mS} {a b : Nat → Int} (ha : rw4 σ 4 a) (hb : rw4 σ 5 b) (hl : lin1 b) (hp : gcdN b 4 = 1) (hn : ∃ i, i < 4 ∧ a i ≠ 0) (bA : ∀ i, i < 4 → ab (a i) 18000000) (b4 : a 3 ≠ 0 → ∀ i, i < 4 → ab (a i) 13500) (y1 : dvP (e4 b) (e4 a) → Q 1 σ) (y0 : ¬ dvP (e4 b) (e4 a) → Q 0 σ) : w_dividesLine Q σ := by
  obtain ⟨l1, l2, l3⟩ := id hl
  have rest : ∀ {f : Int}, (f = 0 ∨ (ab (b 0) 1000000000 ∧ ab f 1000000000)) → ab (f * b 0) 1000000000000000000 := by
    intro f h
    rcases h with h | ⟨h1, h2⟩
    · rw [h, Int.zero_mul]; exact ab_0
    · exact ab_mul h2 h1
  have r0 := (ha 0 (by decide)).2
  unfold w_dividesLine
  rw [iL_0]
  -- the last question
  have last : ∀ (n : Nat) (R : Int), ab R 1000000000000000000 → (a 0 = R → Q 1 σ) → (a 0 ≠ R → Q 0 σ) → w_dividesLine_4 Q (n + 1) (iL R) (nI 0) σ := by
    intro n R hR k1 k0
    unfold w_dividesLine_4 w_dividesLine_130
    rw [c0, (ha 0 (by decide)).1, iL_eq r0 (ab_r hR)]
    exact ⟨fun _ => ⟨vp_in_nI (n := 0) (by decide) (by decide), fun q => ⟨z_0, k0 q⟩, fun q => ⟨z_1, k1 q⟩⟩, fun q => absurd (by decide) q⟩
  by_cases hd : dvP (e4 b) (e4 a)
  · have Y := y1 hd
    obtain ⟨q, hq⟩ := quot4 hp hd
    obtain ⟨e0, e1, e2, e3, e4', _, _⟩ := eq7_of (m := 1) (fun t => by rw [Int.one_mul]; exact hq t)
    rw [l2, l3] at e4'
    have q3 : q 3 = 0 := (Int.mul_eq_zero.mp (show b 1 * q 3 = 0 by simpa using e4'.symm)).resolve_left l1
    rw [l2] at e2
    rw [l2, l3, q3] at e3
    have e0' : a 0 = b 0 * q 0 := by simpa using e0
    have e1' : a 1 = b 0 * q 1 + b 1 * q 0 := by simpa using e1
    have e2' : a 2 = b 0 * q 2 + b 1 * q 1 := by simpa using e2
    have e3' : a 3 = b 1 * q 2 := by simpa using e3
    have bb := lin_bound hp hl hd hn bA
    have b0 : ab (b 0) 1000000000 := ab_le (bb 0 (by decide)) (by decide)
    -- how wide the share is
    have bq : ab (q 0) 1000000000 ∧ ab (q 1) 1000000000 ∧ ab (q 2) 1000000000 := by
      have mulb : ∀ {x y z : Int} {A : Nat}, x = y * z → y ≠ 0 → ab x A → ab z A := fun h hy hx => q_le hy (by rw [← h]; exact hx)
      by_cases hb0 : b 0 = 0
      · rw [hb0] at e1' e2'
        have e1'' : a 1 = b 1 * q 0 := by simpa using e1'
        have e2'' : a 2 = b 1 * q 1 := by simpa using e2'
        exact ⟨ab_le (mulb e1'' l1 (bA 1 (by decide))) (by decide), ab_le (mulb e2'' l1 (bA 2 (by decide))) (by decide), ab_le (mulb e3' l1 (bA 3 (by decide))) (by decide)⟩
      · have k0 := mulb e0' hb0 (bA 0 (by decide))
        have k2 := mulb e3' l1 (bA 3 (by decide))
        refine ⟨ab_le k0 (by decide), ?_, ab_le k2 (by decide)⟩
        by_cases h3 : a 3 = 0
        · have z2 : q 2 = 0 := (Int.mul_eq_zero.mp (show b 1 * q 2 = 0 by rw [← e3']; exact h3)).resolve_left l1
          rw [z2] at e2'
          have e2'' : a 2 = b 1 * q 1 := by simpa using e2'
          exact ab_le (mulb e2'' l1 (bA 2 (by decide))) (by decide)
        · have M := b4 h3
          have bM := lin_bound hp hl hd hn M
          have m0 := mulb e0' hb0 (M 0 (by decide))
          have : b 0 * q 1 = a 1 - b 1 * q 0 := by omega
          have k1 : ab (b 0 * q 1) (13500 + 13500 * 13500) := by rw [this]; exact ab_sub (M 1 (by decide)) (ab_mul (bM 1 (by decide)) m0)
          exact ab_le (q_le hb0 k1) (by decide)
    have can : ∀ {x : Int}, ∀ {f : Int}, b 1 * x = b 1 * f → f = x := fun h => (Int.eq_of_mul_eq_mul_left l1 h).symm
    refine st_dl (k := 3) (R := 0) ha hb (by decide) (by decide) l1 ab_0 (bA 3 (by decide)) (fun q' => absurd ⟨q 2, by omega, Or.inr ⟨b0, bq.2.2⟩⟩ q') (fun f2 hf2 ok2 => ?_)
    have f2e : f2 = q 2 := can (by rw [← e3', ← hf2]; omega)
    subst f2e
    rw [show nI 3 + (-1) = nI 2 from pk_m1 2]
    refine st_dl (k := 2) ha hb (by decide) (by decide) l1 (rest ok2) (bA 2 (by decide)) (fun q' => absurd ⟨q 1, by rw [e2', Int.mul_comm (q 2)]; omega, Or.inr ⟨b0, bq.2.1⟩⟩ q') (fun f1 hf1 ok1 => ?_)
    have f1e : f1 = q 1 := can (by rw [← hf1, e2', Int.mul_comm (q 2)]; omega)
    subst f1e
    rw [show nI 2 + (-1) = nI 1 from pk_m1 1]
    refine st_dl (k := 1) ha hb (by decide) (by decide) l1 (rest ok1) (bA 1 (by decide)) (fun q' => absurd ⟨q 0, by rw [e1', Int.mul_comm (q 1)]; omega, Or.inr ⟨b0, bq.1⟩⟩ q') (fun f0 hf0 ok0 => ?_)
    have f0e : f0 = q 0 := can (by rw [← hf0, e1', Int.mul_comm (q 1)]; omega)
    subst f0e
    rw [show nI 1 + (-1) = nI 0 from pk_m1 0]
    exact last 996 _ (rest ok0) (fun _ => Y) (fun z => absurd (by rw [e0', Int.mul_comm]) z)
  · have N := y0 hd
    refine st_dl (k := 3) (R := 0) ha hb (by decide) (by decide) l1 ab_0 (bA 3 (by decide)) (fun _ => N) (fun f2 hf2 ok2 => ?_)
    rw [show nI 3 + (-1) = nI 2 from pk_m1 2]
    refine st_dl (k := 2) ha hb (by decide) (by decide) l1 (rest ok2) (bA 2 (by decide)) (fun _ => N) (fun f1 hf1 ok1 => ?_)
    rw [show nI 2 + (-1) = nI 1 from pk_m1 1]
    refine st_dl (k := 1) ha hb (by decide) (by decide) l1 (rest ok1) (bA 1 (by decide)) (fun _ => N) (fun f0 hf0 ok0 => ?_)
    rw [show nI 1 + (-1) = nI 0 from pk_m1 0]
    refine last 996 _ (rest ok0) (fun z => absurd ?_ hd) (fun _ => N)
    refine ⟨1, fun t => f0 + t * (f1 + t * f2), by decide, ⟨[f0, f1, f2], fun t => by simp [pv]⟩, fun t => ?_⟩
    have a3 : a 3 = b 1 * f2 := by omega
    have a2 : a 2 = b 1 * f1 + f2 * b 0 := by omega
    have a1 : a 1 = b 1 * f0 + f1 * b 0 := by omega
    unfold e4
    rw [a3, a2, a1, z, l2, l3]
    clear hf2 hf1 hf0 a3 a2 a1 z ok2 ok1 ok0 rest last y1 y0 N hd
    generalize b 0 = x
    generalize b 1 = y
    grind
