/-! PURE: rows of numbers -/
def gcdN (z : Nat → Int) : Nat → Nat
  | 0 => 0
  | k + 1 => Nat.gcd (gcdN z k) (z k).natAbs
def maxN (z : Nat → Int) : Nat → Nat
  | 0 => 0
  | k + 1 => max (maxN z k) (z k).natAbs
def rowIs (f : Nat → Int64) (N : Nat) (z : Nat → Int) : Prop := ∀ i, i < N → f i = iL (z i) ∧ r63 (z i)
theorem gcdN_lt {z : Nat → Int} {N : Nat} (h : ∀ i, i < N → r63 (z i)) : ∀ k, k ≤ N → gcdN z k < 2 ^ 63 := by
  intro k
  induction k with
  | zero => intro _; show 0 < 2 ^ 63; decide
  | succ k ih =>
    intro hk
    have h1 := ih (by omega)
    have h2 := r63_natAbs (h k (by omega))
    show Nat.gcd (gcdN z k) (z k).natAbs < 2 ^ 63
    rcases Nat.eq_zero_or_pos (z k).natAbs with q | q
    · rw [q, Nat.gcd_zero_right]; exact h1
    · exact Nat.lt_of_le_of_lt (Nat.le_of_dvd q (Nat.gcd_dvd_right _ _)) h2
theorem nat_r63 {n : Nat} (h : n < 2 ^ 63) : r63 (n : Int) := by
  have e : (2 : Nat) ^ 63 = 9223372036854775808 := by decide
  unfold r63
  omega
theorem gcdN_dvd {z : Nat → Int} : ∀ {N i : Nat}, i < N → ((gcdN z N : Nat) : Int) ∣ z i := by
  intro N
  induction N with
  | zero => intro i h; omega
  | succ k ih =>
    intro i h
    have h1 : gcdN z (k + 1) ∣ gcdN z k := Nat.gcd_dvd_left _ _
    have h2 : gcdN z (k + 1) ∣ (z k).natAbs := Nat.gcd_dvd_right _ _
    rcases Nat.lt_or_ge i k with q | q
    · exact Int.dvd_trans (Int.ofNat_dvd.mpr h1) (ih q)
    · have : i = k := by omega
      subst this
      exact Int.ofNat_dvd_left.mpr h2
theorem gcdN_zero {z : Nat → Int} {N : Nat} (h : gcdN z N = 0) : ∀ i, i < N → z i = 0 := by
  intro i hi
  have := gcdN_dvd (z := z) hi
  rw [h] at this
  exact Int.zero_dvd.mp this
theorem gcdN_max {z : Nat → Int} {d : Nat} : ∀ {N : Nat}, (∀ i, i < N → (d : Int) ∣ z i) → d ∣ gcdN z N := by
  intro N
  induction N with
  | zero => intro _; exact Nat.dvd_zero d
  | succ k ih =>
    intro h
    exact Nat.dvd_gcd (ih (fun i hi => h i (by omega))) (Int.ofNat_dvd_left.mp (h k (by omega)))
theorem gcdN_congr {z z' : Nat → Int} : ∀ {N : Nat}, (∀ i, i < N → z i = z' i) → gcdN z N = gcdN z' N := by
  intro N
  induction N with
  | zero => intro _; rfl
  | succ k ih =>
    intro h
    show Nat.gcd _ _ = Nat.gcd _ _
    rw [ih (fun i hi => h i (by omega)), h k (by omega)]
theorem maxN_lt {z : Nat → Int} {N : Nat} (h : ∀ i, i < N → r63 (z i)) : ∀ k, k ≤ N → maxN z k < 2 ^ 63 := by
  intro k
  induction k with
  | zero => intro _; show 0 < 2 ^ 63; decide
  | succ k ih =>
    intro hk
    have h1 := ih (by omega)
    have h2 := r63_natAbs (h k (by omega))
    show max (maxN z k) (z k).natAbs < 2 ^ 63
    exact Nat.max_lt.mpr ⟨h1, h2⟩
theorem maxN_le {z : Nat → Int} {b : Nat} : ∀ {N : Nat}, maxN z N ≤ b ↔ ∀ i, i < N → -(b : Int) ≤ z i ∧ z i ≤ b := by
  intro N
  induction N with
  | zero => exact ⟨fun _ i h => by omega, fun _ => Nat.zero_le _⟩
  | succ k ih =>
    show max (maxN z k) (z k).natAbs ≤ b ↔ _
    rw [Nat.max_le, ih]
    constructor
    · intro h i hi
      rcases Nat.lt_or_ge i k with q | q
      · exact h.1 i q
      · have : i = k := by omega
        subst this
        have := h.2
        omega
    · intro h
      refine ⟨fun i hi => h i (by omega), ?_⟩
      have := h k (by omega)
      omega
theorem maxN_congr {z z' : Nat → Int} : ∀ {N : Nat}, (∀ i, i < N → z i = z' i) → maxN z N = maxN z' N := by
  intro N
  induction N with
  | zero => intro _; rfl
  | succ k ih =>
    intro h
    show max _ _ = max _ _
    rw [ih (fun i hi => h i (by omega)), h k (by omega)]
theorem cUR_cUJ {σ : cS} {r i : Nat} {f : Nat → Int64} {x : Int64} : cUJ (cUR σ r f) r i x = cUR σ r (vp_updL f i x) := by
  unfold cUJ cUR
  simp only [if_true, Prod.mk.injEq, and_true]
  funext b
  split <;> rfl
theorem cUR_self {σ : cS} {r : Nat} : cUR σ r (σ.1 r) = σ := by
  unfold cUR
  refine Prod.ext ?_ rfl
  funext b
  show (if b = r then σ.1 r else σ.1 b) = σ.1 b
  split
  · rename_i h; rw [h]
  · rfl
theorem cUR_cUR {σ : cS} {r : Nat} {f g : Nat → Int64} : cUR (cUR σ r f) r g = cUR σ r g := by
  unfold cUR
  refine Prod.ext ?_ rfl
  funext b
  show (if b = r then g else if b = r then f else σ.1 b) = (if b = r then g else σ.1 b)
  split <;> simp_all
theorem updL_step {f h : Nat → Int64} {i : Nat} : vp_updL (fun k => if k < i then h k else f k) i (h i) = fun k => if k < i + 1 then h k else f k := by
  funext k
  unfold vp_updL
  by_cases h1 : k = i
  · subst h1; simp
  · simp only [if_neg h1]
    by_cases h2 : k < i
    · rw [if_pos h2, if_pos (by omega)]
    · rw [if_neg h2, if_neg (by omega)]
theorem fun_lt0 {f h : Nat → Int64} : (fun k => if k < 0 then h k else f k) = f := by funext k; simp
/-- a part of a row that has been gone through -/
abbrev goneC (σ : cS) (r i : Nat) (h : Nat → Int64) : cS := cUR σ r (fun k => if k < i then h k else σ.1 r k)
theorem goneC_0 {σ : cS} {r : Nat} {h : Nat → Int64} : goneC σ r 0 h = σ := by unfold goneC; rw [fun_lt0]; exact cUR_self
theorem goneC_at {σ : cS} {r i : Nat} {h : Nat → Int64} : (goneC σ r i h).1 r i = σ.1 r i := by
  unfold goneC
  rw [cUR_at]
  simp
theorem goneC_s {σ : cS} {r i : Nat} {h : Nat → Int64} : cUJ (goneC σ r i h) r i (h i) = goneC σ r (i + 1) h := by
  unfold goneC
  rw [cUR_cUJ, updL_step]
theorem nI_le_iff {a b : Nat} (ha : a < 2 ^ 31) (hb : b < 2 ^ 31) : nI a ≤ nI b ↔ a ≤ b := nI_leI ha hb
theorem lp_fill {Q : cS → Prop} {r N : Nat} {x : Int64} {σ : cS} (hN : cLen r = N) (hN2 : N < 500) : ∀ (d i n : Nat), i + d = N → d < n → Q (goneC σ r N (fun _ => x)) → v_J7_fill_d0a16_6 Q r n x (nI i) (nI N) (goneC σ r i (fun _ => x)) := by
  intro d
  induction d with
  | zero =>
    intro i n hi hn hq
    obtain ⟨n, rfl⟩ : ∃ m, n = m + 1 := ⟨n - 1, by omega⟩
    have : i = N := by omega
    subst this
    unfold v_J7_fill_d0a16_6
    exact ⟨fun _ => hq, fun h => absurd (nI_le (Nat.le_refl _) (by omega)) h⟩
  | succ d ih =>
    intro i n hi hn hq
    obtain ⟨n, rfl⟩ : ∃ m, n = m + 1 := ⟨n - 1, by omega⟩
    unfold v_J7_fill_d0a16_6
    refine ⟨fun h => absurd h (nI_ge (by omega) (by omega)), fun _ => ⟨by rw [hN]; exact vp_in_nI (by omega) (by omega), nmB_iff.mpr (nmB_iff.mpr ?_)⟩⟩
    rw [nI_clamp (by omega), nI_1, goneC_s (h := fun _ => x)]
    exact ih (i + 1) n (by omega) (by omega) hq
theorem sp_fill {Q : cS → Prop} {r N : Nat} {x : Int64} {σ : cS} (hN : cLen r = N) (hN2 : N < 500) (hq : Q (goneC σ r N (fun _ => x))) : v_J7_fill_d0a16 Q r x σ := by
  unfold v_J7_fill_d0a16
  rw [hN]
  refine nmB_iff.mpr ?_
  have := lp_fill (Q := Q) (x := x) (σ := σ) hN hN2 N 0 fuL (by omega) (by unfold fuL; omega) hq
  rw [goneC_0] at this
  exact this
theorem lp_off2 {Q : cS → Prop} {r N : Nat} {σ : cS} {z : Nat → Int} {g : Nat} (hN : cLen r = N) (hN2 : N < 500) (hz : rowIs (σ.1 r) N z) (hg : g < 2 ^ 63) (hg0 : 0 < g) : ∀ (d i n : Nat), i + d = N → d < n → Q (goneC σ r N (fun k => iL ((z k).tdiv g))) → v_X6_takeOffDivisor_32 Q r n (iL g) (nI i) (goneC σ r i (fun k => iL ((z k).tdiv g))) := by
  intro d
  induction d with
  | zero =>
    intro i n hi hn hq
    obtain ⟨n, rfl⟩ : ∃ m, n = m + 1 := ⟨n - 1, by omega⟩
    have : i = N := by omega
    subst this
    unfold v_X6_takeOffDivisor_32 v_X6_takeOffDivisor_51
    rw [hN]
    exact ⟨fun _ => hq, fun h => absurd (nI_le (Nat.le_refl _) (by omega)) h⟩
  | succ d ih =>
    intro i n hi hn hq
    obtain ⟨n, rfl⟩ : ∃ m, n = m + 1 := ⟨n - 1, by omega⟩
    unfold v_X6_takeOffDivisor_32
    rw [hN]
    have hv := vp_in_nI (show i < N by omega) (show N < 2 ^ 31 by omega)
    have h0 : ¬ iL g = 0 := by rw [iL_0, iL_eq (nat_r63 hg) (by unfold r63; omega)]; omega
    refine ⟨fun h => absurd h (nI_ge (by omega) (by omega)), fun _ => ⟨hv, h0, hv, nmB_iff.mpr (nmB_iff.mpr ?_)⟩⟩
    rw [nI_clamp (by omega), nI_1, goneC_at, (hz i (by omega)).1, iL_div (hz i (by omega)).2 (nat_r63 hg), goneC_s (h := fun k => iL ((z k).tdiv g))]
    exact ih (i + 1) n (by omega) (by omega) hq
theorem goneC_same {σ : cS} {r N : Nat} {h : Nat → Int64} (e : ∀ i, i < N → h i = σ.1 r i) : goneC σ r N h = σ := by
  unfold goneC
  have : (fun k => if k < N then h k else σ.1 r k) = σ.1 r := by
    funext k
    split
    · rename_i q; exact e k q
    · rfl
  rw [this]
  exact cUR_self
theorem lp_off1 {Q : cS → Prop} {r N : Nat} {σ : cS} {z : Nat → Int} (hN : cLen r = N) (hN2 : N < 500) (hz : rowIs (σ.1 r) N z) (hq : Q (goneC σ r N (fun k => iL ((z k).tdiv (gcdN z N))))) : ∀ (d i n : Nat), i + d = N → d < n → v_X6_takeOffDivisor_4 Q r n (iL (gcdN z i)) (nI i) σ := by
  have hg := gcdN_lt (z := z) (N := N) (fun i hi => (hz i hi).2)
  intro d
  induction d with
  | zero =>
    intro i n hi hn
    obtain ⟨n, rfl⟩ : ∃ m, n = m + 1 := ⟨n - 1, by omega⟩
    have : i = N := by omega
    subst this
    unfold v_X6_takeOffDivisor_4 v_X6_takeOffDivisor_51
    rw [hN, iL_1, iL_le (nat_r63 (hg i (Nat.le_refl _))) (by unfold r63; omega)]
    refine ⟨fun _ => ⟨fun h => ?_, fun h => ?_⟩, fun h => absurd (nI_le (Nat.le_refl _) (by omega)) h⟩
    · have e : goneC σ r i (fun k => iL ((z k).tdiv (gcdN z i))) = σ := by
        refine goneC_same (fun k hk => ?_)
        rw [(hz k hk).1]
        rcases Nat.eq_zero_or_pos (gcdN z i) with q | q
        · rw [gcdN_zero q k hk]; simp
        · have : gcdN z i = 1 := by omega
          rw [this]; simp
      rw [e] at hq
      exact hq
    · have := lp_off2 (Q := Q) hN hN2 hz (hg i (Nat.le_refl _)) (by omega) i 0 fuL (by omega) (by unfold fuL; omega) hq
      rw [goneC_0] at this
      exact this
  | succ d ih =>
    intro i n hi hn
    obtain ⟨n, rfl⟩ : ∃ m, n = m + 1 := ⟨n - 1, by omega⟩
    unfold v_X6_takeOffDivisor_4
    rw [hN]
    refine ⟨fun h => absurd h (nI_ge (by omega) (by omega)), fun _ => ⟨vp_in_nI (by omega) (by omega), ?_⟩⟩
    rw [nI_clamp (by omega), (hz i (by omega)).1]
    refine sp_divisor (nat_r63 (hg i (by omega))) (hz i (by omega)).2 (nmB_iff.mpr ?_)
    rw [nI_1]
    exact ih (i + 1) n (by omega) (by omega)
theorem sp_takeOff {Q : cS → Prop} {r N : Nat} {σ : cS} {z : Nat → Int} (hN : cLen r = N) (hN2 : N < 500) (hz : rowIs (σ.1 r) N z) (hq : Q (goneC σ r N (fun k => iL ((z k).tdiv (gcdN z N))))) : v_X6_takeOffDivisor Q r σ := by
  unfold v_X6_takeOffDivisor
  exact lp_off1 hN hN2 hz hq N 0 fuL (by omega) (by unfold fuL; omega)
theorem lp_turn {Q : cS → Prop} {r N : Nat} {σ : cS} {z : Nat → Int} (hN : cLen r = N) (hN2 : N < 500) (hz : rowIs (σ.1 r) N z) : ∀ (d i n : Nat), i + d = N → d < n → Q (goneC σ r N (fun k => iL (-(z k)))) → v_X6_turn_21 Q r n (nI i) (goneC σ r i (fun k => iL (-(z k)))) := by
  intro d
  induction d with
  | zero =>
    intro i n hi hn hq
    obtain ⟨n, rfl⟩ : ∃ m, n = m + 1 := ⟨n - 1, by omega⟩
    have : i = N := by omega
    subst this
    unfold v_X6_turn_21
    rw [hN]
    exact ⟨fun _ => hq, fun h => absurd (nI_le (Nat.le_refl _) (by omega)) h⟩
  | succ d ih =>
    intro i n hi hn hq
    obtain ⟨n, rfl⟩ : ∃ m, n = m + 1 := ⟨n - 1, by omega⟩
    unfold v_X6_turn_21
    rw [hN]
    have hv := vp_in_nI (show i < N by omega) (show N < 2 ^ 31 by omega)
    refine ⟨fun h => absurd h (nI_ge (by omega) (by omega)), fun _ => ⟨hv, hv, nmB_iff.mpr (nmB_iff.mpr ?_)⟩⟩
    rw [nI_clamp (by omega), nI_1, goneC_at, (hz i (by omega)).1, iL_neg, goneC_s (h := fun k => iL (-(z k)))]
    exact ih (i + 1) n (by omega) (by omega) hq
theorem sp_turn {Q : cS → Prop} {r N : Nat} {σ : cS} {z : Nat → Int} {x : Int32} (hN : cLen r = N) (hN2 : N < 500) (hz : rowIs (σ.1 r) N z) (h1 : (∀ t, t < N → x = nI t → ¬ z t < 0) → Q σ) (h2 : ∀ t, t < N → x = nI t → z t < 0 → Q (goneC σ r N (fun k => iL (-(z k))))) : v_X6_turn Q r x σ := by
  have r0 : r63 0 := by unfold r63; omega
  unfold v_X6_turn v_X6_turn_18
  rw [hN]
  refine ⟨fun h => h1 (fun t ht e => absurd h (by rw [e]; exact nI_pos (by omega))), fun h => ⟨fun h3 => h1 (fun t ht e => absurd h3 (by rw [e]; exact nI_ge ht (by omega))), fun h3 => ?_⟩⟩
  obtain ⟨t, ht, rfl⟩ := nI_of h
  have htN : t < N := by
    rcases Nat.lt_or_ge t N with q | q
    · exact q
    · exact absurd (nI_le q ht) h3
  refine ⟨vp_in_nI htN (by omega), ?_⟩
  rw [nI_clamp ht, (hz t htN).1, iL_0, iL_lt (hz t htN).2 r0]
  refine ⟨fun h4 => ?_, fun h4 => h1 (fun t' ht' e => ?_)⟩
  · have := lp_turn (Q := Q) hN hN2 hz N 0 fuL (by omega) (by unfold fuL; omega) (h2 t htN rfl h4)
    rw [goneC_0] at this
    exact this
  · have : t = t' := (nI_eq ht (by omega)).mp e
    subst this
    exact h4
theorem lp_widest {Q : Int64 → cS → Prop} {r N : Nat} {σ : cS} {z : Nat → Int} (hN : cLen r = N) (hN2 : N < 500) (hz : rowIs (σ.1 r) N z) (hq : Q (iL (maxN z N)) σ) : ∀ (d i n : Nat), i + d = N → d < n → v_X6_widest_4 Q r n (iL (maxN z i)) (nI i) σ := by
  have hg := maxN_lt (z := z) (N := N) (fun i hi => (hz i hi).2)
  intro d
  induction d with
  | zero =>
    intro i n hi hn
    obtain ⟨n, rfl⟩ : ∃ m, n = m + 1 := ⟨n - 1, by omega⟩
    have : i = N := by omega
    subst this
    unfold v_X6_widest_4
    rw [hN]
    exact ⟨fun _ => hq, fun h => absurd (nI_le (Nat.le_refl _) (by omega)) h⟩
  | succ d ih =>
    intro i n hi hn
    obtain ⟨n, rfl⟩ : ∃ m, n = m + 1 := ⟨n - 1, by omega⟩
    unfold v_X6_widest_4
    rw [hN]
    refine ⟨fun h => absurd h (nI_ge (by omega) (by omega)), fun _ => ⟨vp_in_nI (by omega) (by omega), ?_⟩⟩
    rw [nI_clamp (by omega), (hz i (by omega)).1, iL_abs (hz i (by omega)).2]
    refine nmB_iff.mpr (nmB_iff.mpr (nmB_iff.mpr ?_))
    have e : (if lN (z i).natAbs < iL (maxN z i) then iL (maxN z i) else lN (z i).natAbs) = iL (maxN z (i + 1)) := by
      show _ = iL ((max (maxN z i) (z i).natAbs : Nat) : Int)
      rw [iL_nat]
      have hl := iL_lt (nat_r63 (r63_natAbs (hz i (by omega)).2)) (nat_r63 (hg i (by omega)))
      by_cases q : (z i).natAbs < maxN z i
      · rw [if_pos (hl.mpr (by omega)), Nat.max_eq_left (by omega)]
      · rw [if_neg (fun w => q (by have := hl.mp w; omega)), Nat.max_eq_right (by omega)]
    rw [e, nI_1]
    exact ih (i + 1) n (by omega) (by omega)
theorem sp_widest {Q : Int64 → cS → Prop} {r N : Nat} {σ : cS} {z : Nat → Int} (hN : cLen r = N) (hN2 : N < 500) (hz : rowIs (σ.1 r) N z) (hq : Q (iL (maxN z N)) σ) : v_X6_widest Q r σ := by
  unfold v_X6_widest
  exact lp_widest hN hN2 hz hq N 0 fuL (by omega) (by unfold fuL; omega)
theorem lp_first {Q : Int32 → cS → Prop} {r N : Nat} {σ : cS} (hN : cLen r = N) (hN2 : N < 500) (h1 : ∀ i, i < N → ¬ σ.1 r i = 0 → (∀ k, k < i → σ.1 r k = 0) → Q (nI i) σ) (h2 : (∀ k, k < N → σ.1 r k = 0) → Q (-1) σ) : ∀ (d i n : Nat), i + d = N → d < n → (∀ k, k < i → σ.1 r k = 0) → v_X6_first_2 Q r n (nI i) σ := by
  intro d
  induction d with
  | zero =>
    intro i n hi hn hz
    obtain ⟨n, rfl⟩ : ∃ m, n = m + 1 := ⟨n - 1, by omega⟩
    have : i = N := by omega
    subst this
    unfold v_X6_first_2
    rw [hN]
    exact ⟨fun _ => h2 hz, fun h => absurd (nI_le (Nat.le_refl _) (by omega)) h⟩
  | succ d ih =>
    intro i n hi hn hz
    obtain ⟨n, rfl⟩ : ∃ m, n = m + 1 := ⟨n - 1, by omega⟩
    unfold v_X6_first_2
    rw [hN]
    refine ⟨fun h => absurd h (nI_ge (by omega) (by omega)), fun _ => ⟨vp_in_nI (by omega) (by omega), ?_⟩⟩
    rw [nI_clamp (by omega), nI_1]
    refine ⟨fun h => nmB_iff.mpr (ih (i + 1) n (by omega) (by omega) (fun k hk => ?_)), fun h => h1 i (by omega) h hz⟩
    rcases Nat.lt_or_ge k i with q | q
    · exact hz k q
    · have : k = i := by omega
      rw [this]; exact h
theorem sp_first {Q : Int32 → cS → Prop} {r N : Nat} {σ : cS} (hN : cLen r = N) (hN2 : N < 500) (h1 : ∀ i, i < N → ¬ σ.1 r i = 0 → (∀ k, k < i → σ.1 r k = 0) → Q (nI i) σ) (h2 : (∀ k, k < N → σ.1 r k = 0) → Q (-1) σ) : v_X6_first Q r σ := by
  unfold v_X6_first
  exact lp_first hN hN2 h1 h2 N 0 fuL (by omega) (by unfold fuL; omega) (fun k hk => by omega)
theorem lp_last {Q : Int32 → cS → Prop} {r N : Nat} {σ : cS} (hN : cLen r = N) (hN2 : N < 500) (h1 : ∀ i, i < N → ¬ σ.1 r i = 0 → (∀ k, i < k → k < N → σ.1 r k = 0) → Q (nI i) σ) (h2 : (∀ k, k < N → σ.1 r k = 0) → Q (-1) σ) : ∀ (i n : Nat), i ≤ N → i < n → (∀ k, i ≤ k → k < N → σ.1 r k = 0) → v_X6_last_5 Q r n (nI i + (-1)) σ := by
  intro i
  induction i with
  | zero =>
    intro n hi hn hz
    obtain ⟨n, rfl⟩ : ∃ m, n = m + 1 := ⟨n - 1, by omega⟩
    unfold v_X6_last_5
    have e : nI 0 + (-1) = -1 := by decide
    rw [e]
    exact ⟨fun _ => h2 (fun k hk => hz k (by omega) hk), fun h => absurd (by decide) h⟩
  | succ i ih =>
    intro n hi hn hz
    obtain ⟨n, rfl⟩ : ∃ m, n = m + 1 := ⟨n - 1, by omega⟩
    unfold v_X6_last_5
    rw [pk_m1, hN]
    refine ⟨fun h => absurd h (nI_pos (by omega)), fun _ => ⟨vp_in_nI (by omega) (by omega), ?_⟩⟩
    rw [nI_clamp (by omega)]
    refine ⟨fun h => nmB_iff.mpr (ih n (by omega) (by omega) (fun k hk hk2 => ?_)), fun h => h1 i (by omega) h (fun k hk hk2 => hz k (by omega) hk2)⟩
    rcases Nat.lt_or_ge i k with q | q
    · exact hz k (by omega) hk2
    · have : k = i := by omega
      rw [this]; exact h
theorem sp_last {Q : Int32 → cS → Prop} {r N : Nat} {σ : cS} (hN : cLen r = N) (hN2 : N < 500) (h1 : ∀ i, i < N → ¬ σ.1 r i = 0 → (∀ k, i < k → k < N → σ.1 r k = 0) → Q (nI i) σ) (h2 : (∀ k, k < N → σ.1 r k = 0) → Q (-1) σ) : v_X6_last Q r σ := by
  unfold v_X6_last
  rw [hN]
  refine nmB_iff.mpr ?_
  have e : nI N - 1 = nI N + (-1) := by
    apply Int32.toInt_inj.mp
    simp [Int32.toInt_add, Int32.toInt_sub]
    rfl
  rw [e]
  exact lp_last hN hN2 h1 h2 N fuL (Nat.le_refl _) (by unfold fuL; omega) (fun k h1 h2 => by omega)
