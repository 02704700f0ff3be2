/-! PURE: polynomials that divide one another, by their values -/
theorem isP_congr {f g : Int → Int} (hf : isP f) (h : ∀ t, f t = g t) : isP g := by
  obtain ⟨l, hl⟩ := hf
  exact ⟨l, fun t => by rw [← h t]; exact hl t⟩
theorem isP_c (a : Int) : isP (fun _ => a) := ⟨[a], fun t => by simp [pv]⟩
theorem pv_cmul (a : Int) : ∀ l : List Int, ∃ r, ∀ t, a * pv l t = pv r t := by
  intro l
  induction l with
  | nil => exact ⟨[], fun t => by simp [pv]⟩
  | cons b l ih =>
    obtain ⟨r, hr⟩ := ih
    refine ⟨(a * b) :: r, fun t => ?_⟩
    show a * (b + t * pv l t) = a * b + t * pv r t
    rw [← hr t]
    grind
theorem pv_add : ∀ l m : List Int, ∃ r, ∀ t, pv l t + pv m t = pv r t := by
  intro l
  induction l with
  | nil => intro m; exact ⟨m, fun t => by simp [pv]⟩
  | cons a l ih =>
    intro m
    cases m with
    | nil => exact ⟨a :: l, fun t => by simp [pv]⟩
    | cons b m =>
      obtain ⟨r, hr⟩ := ih m
      refine ⟨(a + b) :: r, fun t => ?_⟩
      show a + t * pv l t + (b + t * pv m t) = a + b + t * pv r t
      rw [← hr t]
      grind
theorem isP_cm {f : Int → Int} (a : Int) (hf : isP f) : isP (fun t => a * f t) := by
  obtain ⟨l, hl⟩ := hf
  obtain ⟨r, hr⟩ := pv_cmul a l
  exact ⟨r, fun t => by show a * f t = _; rw [← hr t, hl t]⟩
theorem isP_add {f g : Int → Int} (hf : isP f) (hg : isP g) : isP (fun t => f t + g t) := by
  obtain ⟨l, hl⟩ := hf
  obtain ⟨m, hm⟩ := hg
  obtain ⟨r, hr⟩ := pv_add l m
  exact ⟨r, fun t => by show f t + g t = _; rw [← hr t, hl t, hm t]⟩
theorem isP_tm {f : Int → Int} (hf : isP f) : isP (fun t => t * f t) := by
  obtain ⟨l, hl⟩ := hf
  exact ⟨0 :: l, fun t => by show t * f t = 0 + t * pv l t; rw [hl t]; omega⟩
theorem isP_mul {f g : Int → Int} (hf : isP f) (hg : isP g) : isP (fun t => f t * g t) := by
  obtain ⟨l, hl⟩ := hf
  refine isP_congr (f := fun t => pv l t * g t) ?_ (fun t => by rw [hl t])
  clear hl
  induction l with
  | nil => exact isP_congr (isP_c 0) (fun t => by simp [pv])
  | cons a l ih =>
    refine isP_congr (isP_add (isP_cm a hg) (isP_tm ih)) (fun t => ?_)
    show a * g t + t * (pv l t * g t) = (a + t * pv l t) * g t
    grind
theorem isP_id : isP (fun t => t) := ⟨[0, 1], fun t => by simp [pv]⟩
theorem pv_all0 {l : List Int} (h : ∀ a, a ∈ l → a = 0) (t : Int) : pv l t = 0 := by
  induction l with
  | nil => rfl
  | cons b l ih =>
    show b + t * pv l t = 0
    rw [h b List.mem_cons_self, ih (fun a ha => h a (List.mem_cons_of_mem _ ha))]
    simp
/-- a polynomial stays as it is, or grows -/
theorem isP_grow {k : Int → Int} (hk : isP k) : (∀ t, k t = k 0) ∨ ∃ A T : Nat, ∀ t : Int, (T : Int) < t → t ≤ (k t).natAbs + A := by
  obtain ⟨l, hl⟩ := hk
  cases l with
  | nil => exact Or.inl (fun t => by rw [hl t, hl 0]; rfl)
  | cons a l =>
    by_cases h : ∃ a, a ∈ l ∧ a ≠ 0
    · obtain ⟨T, hT⟩ := pv_big l h
      refine Or.inr ⟨a.natAbs, T, fun t ht => ?_⟩
      have h1 := natAbs_mul_ge (t := t) (hT t ht)
      have h2 : k t = a + t * pv l t := hl t
      omega
    · have z : ∀ a, a ∈ l → a = 0 := fun a ha => Classical.byContradiction (fun q => h ⟨a, ha, q⟩)
      refine Or.inl (fun t => ?_)
      rw [hl t, hl 0]
      show a + t * pv l t = a + 0 * pv l 0
      rw [pv_all0 z, Int.mul_zero, Int.zero_mul]
theorem cst_of {k q : Int → Int} (hk : isP k) {m : Int} (hm : m ≠ 0) {T : Nat} (h : ∀ t : Int, (T : Int) < t → k t * q t = m) : ∀ t, k t = k 0 := by
  rcases isP_grow hk with c | ⟨A, U, g⟩
  · exact c
  · exfalso
    have ht : (T : Int) < (T + U + A + m.natAbs + 1 : Nat) := by omega
    have h1 := h (T + U + A + m.natAbs + 1 : Nat) ht
    have h2 := g (T + U + A + m.natAbs + 1 : Nat) (by omega)
    have h3 : q (T + U + A + m.natAbs + 1 : Nat) ≠ 0 := fun z => by rw [z, Int.mul_zero] at h1; exact hm h1.symm
    have h4 := natAbs_mul_ge (t := k (T + U + A + m.natAbs + 1 : Nat)) h3
    rw [h1] at h4
    omega
theorem big_sq {t A B C : Nat} (h1 : 2 * A ≤ t) (h2 : B + 2 * C + 1 ≤ t) (h0 : 0 < t) : C * t < (t - A) * (t - B) := by
  have a : t ≤ 2 * (t - A) := by omega
  have b : 2 * C + 1 ≤ t - B := by omega
  have c : t * (2 * C + 1) ≤ 2 * (t - A) * (t - B) := Nat.mul_le_mul a b
  have d : t * (2 * C + 1) = 2 * (C * t) + t := by
    rw [Nat.mul_add, Nat.mul_one, Nat.mul_comm t (2 * C), Nat.mul_assoc]
  have e : 2 * (t - A) * (t - B) = 2 * ((t - A) * (t - B)) := Nat.mul_assoc _ _ _
  omega
/-- what divides one of the degree 1 stays as it is, or its share does -/
theorem lin_split {k q : Int → Int} (hk : isP k) (hq : isP q) {m a b : Int} (h : ∀ t, m * (a + t * b) = k t * q t) : (∀ t, k t = k 0) ∨ (∀ t, q t = q 0) := by
  rcases isP_grow hk with c | ⟨A, T, g⟩
  · exact Or.inl c
  rcases isP_grow hq with c | ⟨B, U, f⟩
  · exact Or.inr c
  exfalso
  let C : Nat := m.natAbs * (a.natAbs + b.natAbs)
  let t : Nat := 2 * A + B + 2 * C + T + U + 1
  have h1 := g (t : Int) (by show (T : Int) < ((2 * A + B + 2 * C + T + U + 1 : Nat) : Int); omega)
  have h2 := f (t : Int) (by show (U : Int) < ((2 * A + B + 2 * C + T + U + 1 : Nat) : Int); omega)
  have h3 := congrArg Int.natAbs (h (t : Int))
  rw [Int.natAbs_mul, Int.natAbs_mul] at h3
  have ht0 : 0 < t := by show 0 < 2 * A + B + 2 * C + T + U + 1; omega
  have h4 : (t - A) * (t - B) ≤ (k t).natAbs * (q t).natAbs := Nat.mul_le_mul (by omega) (by omega)
  have h5 : (a + (t : Int) * b).natAbs ≤ (a.natAbs + b.natAbs) * t := by
    have e1 : ((t : Int) * b).natAbs = t * b.natAbs := by rw [Int.natAbs_mul, Int.natAbs_natCast]
    have e2 : a.natAbs ≤ a.natAbs * t := Nat.le_mul_of_pos_right _ ht0
    have e3 : (a.natAbs + b.natAbs) * t = a.natAbs * t + t * b.natAbs := by rw [Nat.add_mul, Nat.mul_comm b.natAbs]
    omega
  have h6 : m.natAbs * (a + (t : Int) * b).natAbs ≤ C * t := by
    have := Nat.mul_le_mul_left m.natAbs h5
    rw [← Nat.mul_assoc] at this
    exact this
  have h7 := big_sq (t := t) (A := A) (B := B) (C := C) (by show 2 * A ≤ 2 * A + B + 2 * C + T + U + 1; omega) (by show B + 2 * C + 1 ≤ 2 * A + B + 2 * C + T + U + 1; omega) ht0
  omega
theorem dv_congr {k f g : Int → Int} (h : dvP k f) (e : ∀ t, f t = g t) : dvP k g := by
  obtain ⟨m, q, hm, hq, hh⟩ := h
  exact ⟨m, q, hm, hq, fun t => by rw [← e t]; exact hh t⟩
theorem dv_add {k f g : Int → Int} (h : dvP k f) (h' : dvP k g) : dvP k (fun t => f t + g t) := by
  obtain ⟨m, q, hm, hq, hh⟩ := h
  obtain ⟨n, r, hn, hr, hg⟩ := h'
  refine ⟨m * n, fun t => n * q t + m * r t, mul3_nz hm hn, isP_add (isP_cm n hq) (isP_cm m hr), fun t => ?_⟩
  have a := hh t
  have b := hg t
  have : m * n * (f t + g t) = n * (m * f t) + m * (n * g t) := by grind
  rw [this, a, b]
  grind
theorem dv_mul {k f a : Int → Int} (ha : isP a) (h : dvP k f) : dvP k (fun t => a t * f t) := by
  obtain ⟨m, q, hm, hq, hh⟩ := h
  refine ⟨m, fun t => a t * q t, hm, isP_mul ha hq, fun t => ?_⟩
  have a' := hh t
  have : m * (a t * f t) = a t * (m * f t) := by grind
  rw [this, a']
  grind
theorem dv_unc {k f : Int → Int} {c : Int} (hc : c ≠ 0) (h : dvP k (fun t => c * f t)) : dvP k f := by
  obtain ⟨m, q, hm, hq, hh⟩ := h
  exact ⟨m * c, q, mul3_nz hm hc, hq, fun t => by rw [Int.mul_assoc]; exact hh t⟩
theorem dv_trans {k g f : Int → Int} (h : dvP k g) (h' : dvP g f) : dvP k f := by
  obtain ⟨m, q, hm, hq, hh⟩ := h
  obtain ⟨n, r, hn, hr, hg⟩ := h'
  refine ⟨m * n, fun t => q t * r t, mul3_nz hm hn, isP_mul hq hr, fun t => ?_⟩
  have a := hh t
  have b := hg t
  have : m * n * f t = m * (n * f t) := by grind
  rw [this, b]
  have : m * (g t * r t) = m * g t * r t := by grind
  rw [this, a]
  grind
theorem dv_refl (k : Int → Int) : dvP k k := ⟨1, fun _ => 1, by decide, isP_c 1, fun t => by show 1 * k t = k t * 1; omega⟩
theorem dv_zero (k : Int → Int) : dvP k (fun _ => 0) := ⟨1, fun _ => 0, by decide, isP_c 0, fun t => by simp⟩
/-- four numbers as a polynomial -/
def e4 (p : Nat → Int) (t : Int) : Int := p 0 + t * (p 1 + t * (p 2 + t * p 3))
theorem isP_e4 (p : Nat → Int) : isP (e4 p) := ⟨[p 0, p 1, p 2, p 3], fun t => by simp [pv, e4]⟩
theorem e4_inj {p q : Nat → Int} (h : ∀ t, e4 p t = e4 q t) : ∀ k, k < 4 → p k = q k := by
  have a := h 0; have b := h 1; have c := h (-1); have d := h 2
  unfold e4 at a b c d
  intro k hk
  rcases (show k = 0 ∨ k = 1 ∨ k = 2 ∨ k = 3 by omega) with rfl | rfl | rfl | rfl <;> omega
theorem e4_congr {p q : Nat → Int} (h : ∀ k, k < 4 → p k = q k) (t : Int) : e4 p t = e4 q t := by
  unfold e4
  rw [h 0 (by decide), h 1 (by decide), h 2 (by decide), h 3 (by decide)]
theorem pe_e4 (v : Nat → Int) (w : Nat) (t : Int) : pe v w t = e4 (fun k => v (4 * w + k)) t := rfl
theorem e4_cm {p q : Nat → Int} {c : Int} (h : ∀ k, k < 4 → p k = c * q k) (t : Int) : e4 p t = c * e4 q t := by
  unfold e4
  rw [h 0 (by decide), h 1 (by decide), h 2 (by decide), h 3 (by decide)]
  grind
theorem dv_sc {k : Int → Int} {p q : Nat → Int} {c : Int} (hc : c ≠ 0) (h : ∀ i, i < 4 → p i = c * q i) : dvP k (e4 p) ↔ dvP k (e4 q) := by
  constructor
  · intro d
    exact dv_unc hc (dv_congr d (fun t => e4_cm h t))
  · intro d
    exact dv_congr (dv_mul (isP_c c) d) (fun t => (e4_cm h t).symm)
/-- taking off the highest power -/
def stp (a b : Nat → Int) (hi lo : Nat) : Nat → Int := fun k => a k * b lo - (if hi - lo ≤ k then a hi * b (k - (hi - lo)) else 0)
def pwt (t : Int) : Nat → Int
  | 0 => 1
  | n + 1 => t * pwt t n
theorem isP_pwt (n : Nat) : isP (fun t => pwt t n) := by
  induction n with
  | zero => exact isP_c 1
  | succ n ih => exact isP_tm ih
theorem stp_val {a b : Nat → Int} {hi lo : Nat} (h : lo ≤ hi) (h3 : hi ≤ 3) (hb : ∀ k, lo < k → k < 4 → b k = 0) (t : Int) : e4 (stp a b hi lo) t = b lo * e4 a t + -(a hi) * pwt t (hi - lo) * e4 b t := by
  rcases (show (hi = 0 ∧ lo = 0) ∨ (hi = 1 ∧ lo = 0) ∨ (hi = 1 ∧ lo = 1) ∨ (hi = 2 ∧ lo = 0) ∨ (hi = 2 ∧ lo = 1) ∨ (hi = 2 ∧ lo = 2) ∨ (hi = 3 ∧ lo = 0) ∨ (hi = 3 ∧ lo = 1) ∨ (hi = 3 ∧ lo = 2) ∨ (hi = 3 ∧ lo = 3) by omega) with ⟨rfl, rfl⟩ | ⟨rfl, rfl⟩ | ⟨rfl, rfl⟩ | ⟨rfl, rfl⟩ | ⟨rfl, rfl⟩ | ⟨rfl, rfl⟩ | ⟨rfl, rfl⟩ | ⟨rfl, rfl⟩ | ⟨rfl, rfl⟩ | ⟨rfl, rfl⟩
  · simp [stp, e4, pwt]; grind
  · have b3 := hb 3 (by decide) (by decide)
    simp [stp, e4, pwt, b3]; grind
  · simp [stp, e4, pwt]; grind
  · have b3 := hb 3 (by decide) (by decide); have b2 := hb 2 (by decide) (by decide)
    simp [stp, e4, pwt, b3, b2]; grind
  · have b3 := hb 3 (by decide) (by decide)
    simp [stp, e4, pwt, b3]; grind
  · simp [stp, e4, pwt]; grind
  · have b3 := hb 3 (by decide) (by decide); have b2 := hb 2 (by decide) (by decide); have b1 := hb 1 (by decide) (by decide)
    simp [stp, e4, pwt, b3, b2, b1]; grind
  · have b3 := hb 3 (by decide) (by decide); have b2 := hb 2 (by decide) (by decide)
    simp [stp, e4, pwt, b3, b2]; grind
  · have b3 := hb 3 (by decide) (by decide)
    simp [stp, e4, pwt, b3]; grind
  · simp [stp, e4, pwt]; grind
theorem stp_dv {k : Int → Int} {a b : Nat → Int} {hi lo : Nat} (h : lo ≤ hi) (h3 : hi ≤ 3) (hb : ∀ k, lo < k → k < 4 → b k = 0) (h0 : b lo ≠ 0) : (dvP k (e4 (stp a b hi lo)) ∧ dvP k (e4 b)) ↔ (dvP k (e4 a) ∧ dvP k (e4 b)) := by
  have v := stp_val (a := a) h h3 hb
  constructor
  · intro ⟨d1, d2⟩
    refine ⟨dv_unc h0 (dv_congr (dv_add d1 (dv_mul (a := fun t => a hi * pwt t (hi - lo)) (isP_cm _ (isP_pwt _)) d2)) (fun t => ?_)), d2⟩
    rw [v t]
    grind
  · intro ⟨d1, d2⟩
    refine ⟨dv_congr (dv_add (dv_mul (isP_c (b lo)) d1) (dv_mul (a := fun t => -(a hi) * pwt t (hi - lo)) (isP_cm _ (isP_pwt _)) d2)) (fun t => (v t).symm), d2⟩
theorem stp_hi {a b : Nat → Int} {hi lo : Nat} (h : lo ≤ hi) (h3 : hi ≤ 3) (ha : ∀ k, hi < k → k < 4 → a k = 0) (hb : ∀ k, lo < k → k < 4 → b k = 0) : ∀ k, hi ≤ k → k < 4 → stp a b hi lo k = 0 := by
  intro k h1 h2
  unfold stp
  rw [if_pos (by omega)]
  rcases Nat.lt_or_ge hi k with q | q
  · rw [ha k q h2, hb (k - (hi - lo)) (by omega) (by omega)]; simp
  · have : k = hi := by omega
    subst this
    rw [show k - (k - lo) = lo by omega]
    omega
theorem stp_ab {a b : Nat → Int} {hi lo A B : Nat} (hh : hi < 4) (hl : lo < 4) (ha : ∀ k, k < 4 → ab (a k) A) (hb : ∀ k, k < 4 → ab (b k) B) {k : Nat} (hk : k < 4) : ab (stp a b hi lo k) (2 * (A * B)) := by
  unfold stp
  refine ab_le (ab_sub (ab_mul (ha k hk) (hb lo hl)) (B := A * B) ?_) (by omega)
  split
  · exact ab_mul (ha hi hh) (hb _ (by omega))
  · exact ab_0
theorem e4_big {p : Nat → Int} {i : Nat} (hi : i < 4) (h : p i ≠ 0) : ∃ T : Nat, ∀ t : Int, (T : Int) < t → e4 p t ≠ 0 := by
  obtain ⟨T, hT⟩ := pv_big [p 0, p 1, p 2, p 3] (by
    refine ⟨p i, ?_, h⟩
    rcases (show i = 0 ∨ i = 1 ∨ i = 2 ∨ i = 3 by omega) with rfl | rfl | rfl | rfl <;> simp)
  exact ⟨T, fun t ht q => hT t ht (by rw [← q]; simp [pv, e4])⟩
theorem prim_nz {p : Nat → Int} (h : gcdN p 4 = 1) : ∃ i, i < 4 ∧ p i ≠ 0 := by
  refine Classical.byContradiction (fun q => ?_)
  have z : ∀ i, i < 4 → p i = 0 := fun i hi => Classical.byContradiction (fun w => q ⟨i, hi, w⟩)
  have := gcdN_max (z := p) (d := 0) (N := 4) (fun i hi => by rw [z i hi]; exact Int.dvd_zero _)
  have := Nat.eq_zero_of_zero_dvd this
  omega
/-- two that divide one another are the same but for the sign -/
theorem dv_uniq {p q : Nat → Int} (hp : gcdN p 4 = 1) (hq : gcdN q 4 = 1) (h : dvP (e4 p) (e4 q)) (h' : dvP (e4 q) (e4 p)) : ∃ s : Int, (s = 1 ∨ s = -1) ∧ ∀ k, k < 4 → q k = s * p k := by
  obtain ⟨m, x, hm, hx, e⟩ := h
  obtain ⟨n, y, hn, hy, f⟩ := h'
  obtain ⟨i, hi, hpi⟩ := prim_nz hp
  obtain ⟨T, hT⟩ := e4_big hi hpi
  have hc : ∀ t, x t = x 0 := by
    refine cst_of (q := y) hx (m := m * n) (mul3_nz hm hn) (T := T) (fun t ht => ?_)
    have a := e t
    have b := f t
    refine Int.eq_of_mul_eq_mul_left (hT t ht) ?_
    have : e4 p t * (x t * y t) = (e4 p t * x t) * y t := by grind
    rw [this, ← a]
    have : m * e4 q t * y t = m * (e4 q t * y t) := by grind
    rw [this, ← b]
    grind
  have hco : ∀ k, k < 4 → m * q k = x 0 * p k := by
    refine e4_inj (p := fun k => m * q k) (q := fun k => x 0 * p k) (fun t => ?_)
    rw [e4_cm (c := m) (q := q) (fun _ _ => rfl), e4_cm (c := x 0) (q := p) (fun _ _ => rfl), e t, hc t]
    grind
  have g1 := gcdN_congr hco
  rw [gcdN_mul, gcdN_mul, hp, hq, Nat.mul_one, Nat.mul_one] at g1
  rcases (show x 0 = m ∨ x 0 = -m by omega) with s | s
  · refine ⟨1, Or.inl rfl, fun k hk => Int.eq_of_mul_eq_mul_left hm ?_⟩
    rw [hco k hk, s]; grind
  · refine ⟨-1, Or.inr rfl, fun k hk => Int.eq_of_mul_eq_mul_left hm ?_⟩
    rw [hco k hk, s]; grind
