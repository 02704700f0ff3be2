/-! PURE: the class makes shares PLAIN -/
theorem loopD {S : Type} {F : Nat → Int32 → S → Prop} {I : Nat → S → Prop} {N : Nat} (step : ∀ n c s, c < N → I (c + 1) s → (∀ s', I c s' → F n (nI c + (-1)) s') → F (n + 1) (nI c) s) (fin : ∀ n s, I 0 s → F (n + 1) (-1) s) : ∀ (c n : Nat) (s : S), c ≤ N → c < n → I c s → F n (nI c + (-1)) s := by
  intro c
  induction c with
  | zero =>
    intro n s _ hn hI
    obtain ⟨n, rfl⟩ : ∃ m, n = m + 1 := ⟨n - 1, by omega⟩
    rw [show nI 0 + (-1) = -1 by decide]
    exact fin n s hI
  | succ c ih =>
    intro n s hc hn hI
    obtain ⟨n, rfl⟩ : ∃ m, n = m + 1 := ⟨n - 1, by omega⟩
    rw [pk_m1]
    exact step n c s (by omega) hI (fun s' h' => ih n s' (by omega) (by omega) h')
theorem lin_bound {g p : Nat → Int} {M : Nat} (hg : gcdN g 4 = 1) (hl : lin1 g) (hd : dvP (e4 g) (e4 p)) (hp : ∃ i, i < 4 ∧ p i ≠ 0) (hb : ∀ i, i < 4 → ab (p i) M) : ∀ i, i < 4 → ab (g i) M := by
  obtain ⟨q, hq⟩ := quot4 hg hd
  obtain ⟨c0, c1, c2, c3, c4, c5, c6⟩ := eq7_of (m := 1) (fun t => by rw [Int.one_mul]; exact hq t)
  obtain ⟨l1, l2, l3⟩ := hl
  rw [l2, l3] at c4
  have q3 : q 3 = 0 := by
    have : g 1 * q 3 = 0 := by simpa using c4.symm
    exact (Int.mul_eq_zero.mp this).resolve_left l1
  rw [l2] at c2
  rw [l2, l3, q3] at c3
  have e0 : p 0 = g 0 * q 0 := by simpa using c0
  have e1 : p 1 = g 0 * q 1 + g 1 * q 0 := by simpa using c1
  have e2 : p 2 = g 0 * q 2 + g 1 * q 1 := by simpa using c2
  have e3 : p 3 = g 1 * q 2 := by simpa using c3
  have mul_b : ∀ {a b x : Int}, x = a * b → b ≠ 0 → ab x M → ab a M := by
    intro a b x hx hb0 hxb
    unfold ab at *
    rw [hx] at hxb
    exact Nat.le_trans (natAbs_mul_ge (t := a) hb0) hxb
  have hqn : ¬ (q 0 = 0 ∧ q 1 = 0 ∧ q 2 = 0) := by
    intro ⟨a, b, c⟩
    obtain ⟨i, hi, hpi⟩ := hp
    apply hpi
    rcases (show i = 0 ∨ i = 1 ∨ i = 2 ∨ i = 3 by omega) with rfl | rfl | rfl | rfl
    · rw [e0, a]; simp
    · rw [e1, a, b]; simp
    · rw [e2, b, c]; simp
    · rw [e3, c]; simp
  have hb0 := hb 0 (by decide); have hb1 := hb 1 (by decide); have hb2 := hb 2 (by decide); have hb3 := hb 3 (by decide)
  have g1 : ab (g 1) M := by
    by_cases h2 : q 2 = 0
    · by_cases h1 : q 1 = 0
      · have h0 : q 0 ≠ 0 := fun z => hqn ⟨z, h1, h2⟩
        exact mul_b (x := p 1) (b := q 0) (by rw [e1, h1]; simp) h0 hb1
      · exact mul_b (x := p 2) (b := q 1) (by rw [e2, h2]; simp) h1 hb2
    · exact mul_b e3 h2 hb3
  have g0 : ab (g 0) M := by
    by_cases h0 : q 0 = 0
    · by_cases h1 : q 1 = 0
      · have h2 : q 2 ≠ 0 := fun z => hqn ⟨h0, h1, z⟩
        exact mul_b (x := p 2) (b := q 2) (by rw [e2, h1]; simp) h2 hb2
      · exact mul_b (x := p 1) (b := q 1) (by rw [e1, h0]; simp) h1 hb1
    · exact mul_b e0 h0 hb0
  intro i hi
  rcases (show i = 0 ∨ i = 1 ∨ i = 2 ∨ i = 3 by omega) with rfl | rfl | rfl | rfl
  · exact g0
  · exact g1
  · rw [l2]; exact ab_0
  · rw [l3]; exact ab_0
/-- the numbers of a product up to the power 3 -/
def cv4 (g q : Nat → Int) : Nat → Int
  | 0 => g 0 * q 0
  | 1 => g 0 * q 1 + g 1 * q 0
  | 2 => g 0 * q 2 + g 1 * q 1 + g 2 * q 0
  | _ => g 0 * q 3 + g 1 * q 2 + g 2 * q 1 + g 3 * q 0
def qt4 (q : Nat → Int) (c : Nat) : Nat → Int := fun i => if i < c then q i else 0
theorem cv4_st (g q : Nat → Int) {c j : Nat} (hc : c < 4) (hj : j < 4) : cv4 g (qt4 q (c + 1)) j = cv4 g (qt4 q c) j + (if c ≤ j then q c * g (j - c) else 0) := by
  rcases (show c = 0 ∨ c = 1 ∨ c = 2 ∨ c = 3 by omega) with rfl | rfl | rfl | rfl <;> rcases (show j = 0 ∨ j = 1 ∨ j = 2 ∨ j = 3 by omega) with rfl | rfl | rfl | rfl <;> simp [cv4, qt4] <;> grind
theorem cv4_0 (g q : Nat → Int) {j : Nat} : cv4 g (qt4 q 0) j = 0 := by
  unfold cv4 qt4
  split <;> simp
/-- a polynomial, its divisor and the share: facts of their numbers -/
def dvs (p g q : Nat → Int) (lo : Nat) : Prop := lo < 4 ∧ g lo ≠ 0 ∧ (∀ k, lo < k → k < 4 → g k = 0) ∧ (∀ j, j < 4 → p j = cv4 g q j) ∧ (∀ k, 3 - lo < k → k < 4 → q k = 0)
theorem dvs_of {p g q : Nat → Int} {lo : Nat} (hlo : lo < 4) (h0 : g lo ≠ 0) (hz : ∀ k, lo < k → k < 4 → g k = 0) (h : ∀ t, e4 p t = e4 g t * e4 q t) : dvs p g q lo := by
  obtain ⟨c0, c1, c2, c3, c4, c5, c6⟩ := eq7_of (m := 1) (fun t => by rw [Int.one_mul]; exact h t)
  refine ⟨hlo, h0, hz, fun j hj => ?_, fun k k1 k2 => ?_⟩
  · rcases (show j = 0 ∨ j = 1 ∨ j = 2 ∨ j = 3 by omega) with rfl | rfl | rfl | rfl
    · simpa [cv4] using c0
    · simpa [cv4] using c1
    · simpa [cv4] using c2
    · simpa [cv4] using c3
  · have nz : ∀ {x : Int}, g lo * x = 0 → x = 0 := fun e => (Int.mul_eq_zero.mp e).resolve_left h0
    rcases (show lo = 0 ∨ lo = 1 ∨ lo = 2 ∨ lo = 3 by omega) with rfl | rfl | rfl | rfl
    · omega
    · have g2 := hz 2 (by decide) (by decide); have g3 := hz 3 (by decide) (by decide)
      rw [g2, g3] at c4
      have q3 : q 3 = 0 := nz (by simpa using c4.symm)
      rw [show k = 3 by omega]; exact q3
    · have g3 := hz 3 (by decide) (by decide)
      rw [g3] at c4 c5
      have q3 : q 3 = 0 := nz (by simpa using c5.symm)
      rw [q3] at c4
      have q2 : q 2 = 0 := nz (by simpa using c4.symm)
      rcases (show k = 2 ∨ k = 3 by omega) with rfl | rfl
      · exact q2
      · exact q3
    · have q3 : q 3 = 0 := nz (by simpa using c6.symm)
      rw [q3] at c5
      have q2 : q 2 = 0 := nz (by simpa using c5.symm)
      rw [q3, q2] at c4
      have q1 : q 1 = 0 := nz (by simpa using c4.symm)
      rcases (show k = 1 ∨ k = 2 ∨ k = 3 by omega) with rfl | rfl | rfl
      · exact q1
      · exact q2
      · exact q3
/-- the number that is divided at a step -/
theorem cv4_top {p g q : Nat → Int} {lo c : Nat} (h : dvs p g q lo) (hc : c + lo < 4) : cv4 g (qt4 q (c + 1)) (lo + c) = g lo * q c := by
  obtain ⟨hlo, h0, hz, _, _⟩ := h
  rcases (show lo = 0 ∨ lo = 1 ∨ lo = 2 ∨ lo = 3 by omega) with rfl | rfl | rfl | rfl
  · have g1 := hz 1 (by decide) (by decide); have g2 := hz 2 (by decide) (by decide); have g3 := hz 3 (by decide) (by decide)
    rcases (show c = 0 ∨ c = 1 ∨ c = 2 ∨ c = 3 by omega) with rfl | rfl | rfl | rfl <;> simp [cv4, qt4, g1, g2, g3]
  · have g2 := hz 2 (by decide) (by decide); have g3 := hz 3 (by decide) (by decide)
    rcases (show c = 0 ∨ c = 1 ∨ c = 2 by omega) with rfl | rfl | rfl <;> simp [cv4, qt4, g2, g3]
  · have g3 := hz 3 (by decide) (by decide)
    rcases (show c = 0 ∨ c = 1 by omega) with rfl | rfl <;> simp [cv4, qt4, g3]
  · rw [show c = 0 by omega]; simp [cv4, qt4]
theorem q_le {a x : Int} {A : Nat} (ha : a ≠ 0) (h : ab (a * x) A) : ab x A := by
  unfold ab at *
  rw [Int.mul_comm] at h
  exact Nat.le_trans (natAbs_mul_ge (t := x) ha) h
/-- how wide it is -/
theorem dvs_ab {p g q : Nat → Int} {lo : Nat} (h : dvs p g q lo) (hp : ∀ i, i < 4 → ab (p i) 3000) (hg : ∀ i, i < 4 → ab (g i) 18000000) (hg1 : lo = 1 → ∀ i, i < 4 → ab (g i) 3000) {c : Nat} (hc : c + lo < 4) : ab (g lo * q c) 1000000000000 := by
  obtain ⟨hlo, h0, hz, e, qz⟩ := h
  have e0 := e 0 (by decide); have e1 := e 1 (by decide); have e2 := e 2 (by decide); have e3 := e 3 (by decide)
  simp only [cv4] at e0 e1 e2 e3
  have b0 := hp 0 (by decide); have b1 := hp 1 (by decide); have b2 := hp 2 (by decide); have b3 := hp 3 (by decide)
  rcases (show lo = 0 ∨ lo = 1 ∨ lo = 2 ∨ lo = 3 by omega) with rfl | rfl | rfl | rfl
  · have g1 := hz 1 (by decide) (by decide); have g2 := hz 2 (by decide) (by decide); have g3 := hz 3 (by decide) (by decide)
    rw [g1] at e1 e2 e3
    rw [g2] at e2 e3
    rw [g3] at e3
    rcases (show c = 0 ∨ c = 1 ∨ c = 2 ∨ c = 3 by omega) with rfl | rfl | rfl | rfl
    · rw [← e0]; exact ab_le b0 (by decide)
    · have : p 1 = g 0 * q 1 := by simpa using e1
      rw [← this]; exact ab_le b1 (by decide)
    · have : p 2 = g 0 * q 2 := by simpa using e2
      rw [← this]; exact ab_le b2 (by decide)
    · have : p 3 = g 0 * q 3 := by simpa using e3
      rw [← this]; exact ab_le b3 (by decide)
  · have g2 := hz 2 (by decide) (by decide); have g3 := hz 3 (by decide) (by decide)
    have q3 := qz 3 (by decide) (by decide)
    rw [g2] at e2 e3
    rw [g3, q3] at e3
    have a2 : ab (g 1 * q 2) 3000 := by
      have : p 3 = g 1 * q 2 := by simpa using e3
      rw [← this]; exact b3
    have q2b := q_le h0 a2
    have gb := hg1 rfl 0 (by decide)
    have a1 : ab (g 1 * q 1) (3000 + 3000 * 3000) := by
      have : g 1 * q 1 = p 2 - g 0 * q 2 := by rw [e2]; simp; omega
      rw [this]; exact ab_sub b2 (ab_mul gb q2b)
    have q1b := q_le h0 a1
    have a0 : ab (g 1 * q 0) (3000 + 3000 * (3000 + 3000 * 3000)) := by
      have : g 1 * q 0 = p 1 - g 0 * q 1 := by rw [e1]; omega
      rw [this]; exact ab_sub b1 (ab_mul gb q1b)
    rcases (show c = 0 ∨ c = 1 ∨ c = 2 by omega) with rfl | rfl | rfl
    · exact ab_le a0 (by decide)
    · exact ab_le a1 (by decide)
    · exact ab_le a2 (by decide)
  · have g3 := hz 3 (by decide) (by decide)
    have q3 := qz 3 (by decide) (by decide); have q2 := qz 2 (by decide) (by decide)
    rw [g3, q3, q2] at e3
    rw [q2] at e2
    have a1 : ab (g 2 * q 1) 3000 := by
      have : p 3 = g 2 * q 1 := by simpa using e3
      rw [← this]; exact b3
    have q1b := q_le h0 a1
    have a0 : ab (g 2 * q 0) (3000 + 18000000 * 3000) := by
      have : g 2 * q 0 = p 2 - g 1 * q 1 := by rw [e2]; simp; omega
      rw [this]; exact ab_sub b2 (ab_mul (hg 1 (by decide)) q1b)
    rcases (show c = 0 ∨ c = 1 by omega) with rfl | rfl
    · exact ab_le a0 (by decide)
    · exact ab_le a1 (by decide)
  · have q3 := qz 3 (by decide) (by decide); have q2 := qz 2 (by decide) (by decide); have q1 := qz 1 (by decide) (by decide)
    rw [q3, q2, q1] at e3
    rw [show c = 0 by omega]
    have : p 3 = g 3 * q 0 := by simpa using e3
    rw [← this]; exact ab_le b3 (by decide)
theorem sp_divC {Q : cS → Prop} {σ : cS} {g l p q : Nat → Int} {w lo : Nat} (hw : w < 3) (hh : hl2 σ g l) (hmz : mz4 g = lo + 1) (hd : dvs p g q lo) (hp : ∀ j, j < 4 → σ.1 16 (4 * w + j) = iL (p j)) (hb : ∀ c, c + lo < 4 → r63 (g lo * q c)) (go : ∀ σ', chP (fun a => a = 8 ∨ a = 16) σ σ' → σ'.2.2.2 = σ.2.2.2 → (∀ j, j < 4 → σ'.1 16 (4 * w + j) = iL (q j)) → (∀ i, (i < 4 * w ∨ 4 * w + 4 ≤ i) → σ'.1 16 i = σ.1 16 i) → Q σ') : v_X1_divide Q 16 (nI (4 * w)) σ := by
  obtain ⟨hpl, rh, rl⟩ := hh
  obtain ⟨p1, p2, p3, p4, p5, p6, p7⟩ := plR hpl
  have h68 : σ.2.2.2 0 ≠ 8 ∧ σ.2.2.2 0 ≠ 16 := by unfold s67 at p6; omega
  obtain ⟨hlo, h0, hz, epq, qz⟩ := id hd
  unfold v_X1_divide v_X1_divide_23
  refine ⟨p1, sp_lastM p3 rh ?_⟩
  rw [hmz, show iI (((lo + 1 : Nat) : Int) - 1) = nI lo by rw [iI_nat]; congr 1; omega, nI_clamp (show lo < 2 ^ 31 by omega), p3, (rh lo hlo).1, iL0 (rh lo hlo).2]
  refine ⟨fun y => absurd y (nI_pos (by omega)), fun _ => ⟨p1, vp_in_nI hlo (by decide), fun _ => ?_, fun y => absurd y h0⟩⟩
  refine sp_fill (N := 4) rfl (by decide) (nmB_iff.mpr ?_)
  have g8 : chg (fun a => a = 8) σ (goneC σ 8 4 (fun _ => 0)) := chg_R rfl
  have z8 : ∀ k, k < 4 → (goneC σ 8 4 (fun _ => 0)).1 8 k = 0 := fun k hk => goneC_v hk
  revert g8 z8
  generalize goneC σ 8 4 (fun _ => 0) = s1
  intro g8 z8
  rw [show (3 : Int32) - nI lo = nI (4 - lo) + (-1) by
    rw [show (3 : Int32) = nI 3 from rfl, nI_sub2 (by omega), show 4 - lo = (3 - lo) + 1 by omega, pk_m1]]
  refine loopD (N := 4 - lo) (F := fun n c s => v_X1_divide_37 Q 16 n (nI (4 * w)) (nI lo) c s) (I := fun c s => chg (fun a => a = 8 ∨ a = 16) σ s ∧ (∀ j, j < 4 → s.1 16 (4 * w + j) = iL (cv4 g (qt4 q c) j)) ∧ (∀ i, (i < 4 * w ∨ 4 * w + 4 ≤ i) → s.1 16 i = σ.1 16 i) ∧ ∀ k, k < 4 → s.1 8 k = iL (if c ≤ k then q k else 0)) ?_ ?_ (4 - lo) fuL s1 (Nat.le_refl _) (by unfold fuL; omega) ⟨chg_w g8 (fun x hx => Or.inl hx), fun j hj => ?_, fun i hi => by rw [g8.1 16 (by decide)], fun k hk => ?_⟩
  · intro n c s hc ⟨a1, a2, a3, a4⟩ nx
    show v_X1_divide_37 Q 16 (n + 1) (nI (4 * w)) (nI lo) (nI c) s
    unfold v_X1_divide_37
    have es : s.2.2.2 = σ.2.2.2 := by rw [a1.2]
    have eg : ∀ {u : cS}, chg (fun a => a = 8 ∨ a = 16) σ u → ∀ i, i < 4 → u.1 (σ.2.2.2 0) i = iL (g i) := fun gu i hi => by rw [gu.1 _ (by omega)]; exact (rh i hi).1
    have top := cv4_top hd (show c + lo < 4 by omega)
    have e16 : s.1 16 (4 * w + lo + c) = iL (g lo * q c) := by
      rw [show 4 * w + lo + c = 4 * w + (lo + c) by omega, a2 (lo + c) (by omega), top]
    rw [nI_add, nI_add, es, p3, nI_clamp (show 4 * w + lo + c < 2 ^ 31 by omega), nI_clamp (show lo < 2 ^ 31 by omega), nI_clamp (show c < 2 ^ 31 by omega), eg a1 lo hlo, e16, iL0 (rh lo hlo).2, iL_div (hb c (by omega)) (rh lo hlo).2, Int.mul_tdiv_cancel_left _ h0]
    refine ⟨fun y => absurd y (nI_pos (by omega)), fun _ => ⟨vp_in_nI (N := 12) (by omega) (by decide), p1, vp_in_nI hlo (by decide), h0, vp_in_nI (N := 4) (by omega) (by decide), nmB_iff.mpr ?_⟩⟩
    have b1 : chg (fun a => a = 8 ∨ a = 16) σ (cUJ s 8 c (iL (q c))) := chg_t2 a1 (chg_J (Or.inl rfl))
    have b4 : ∀ k, k < 4 → (cUJ s 8 c (iL (q c))).1 8 k = iL (if c ≤ k then q k else 0) := by
      intro k hk
      rw [cUJ_at]
      rcases Nat.lt_trichotomy k c with y | y | y
      · rw [updL_ne (by omega), a4 k hk, if_neg (by omega), if_neg (by omega)]
      · subst y; rw [updL_at, if_pos (by omega)]
      · rw [updL_ne (by omega), a4 k hk, if_pos (by omega), if_pos (by omega)]
    refine loopU (N := lo + 1) (F := fun m i u => v_X1_divide_67 Q 16 (v_X1_divide_37 Q 16 n) m (nI (4 * w)) (nI lo) (nI c) i u) (I := fun i u => chg (fun a => a = 8 ∨ a = 16) σ u ∧ (∀ j, j < 4 → u.1 16 (4 * w + j) = iL (cv4 g (qt4 q (c + 1)) j - (if c ≤ j ∧ j < c + i then q c * g (j - c) else 0))) ∧ (∀ i, (i < 4 * w ∨ 4 * w + 4 ≤ i) → u.1 16 i = σ.1 16 i) ∧ ∀ k, k < 4 → u.1 8 k = iL (if c ≤ k then q k else 0)) (by omega) ?_ ?_ _ ⟨b1, fun j hj => by rw [cUJ_ne (by decide), a2 j hj, if_neg (by omega), Int.sub_zero], fun i hi => by rw [cUJ_ne (by decide)]; exact a3 i hi, b4⟩
    · intro m i u hi ⟨d1, d2, d3, d4⟩ nx2
      show v_X1_divide_67 Q 16 (v_X1_divide_37 Q 16 n) (m + 1) (nI (4 * w)) (nI lo) (nI c) (nI i) u
      unfold v_X1_divide_67
      have eu : u.2.2.2 = σ.2.2.2 := by rw [d1.2]
      have u8 : u.1 8 c = iL (q c) := by rw [d4 c (by omega), if_pos (Nat.le_refl _)]
      have u16 : u.1 16 (4 * w + c + i) = iL (cv4 g (qt4 q (c + 1)) (c + i)) := by
        rw [show 4 * w + c + i = 4 * w + (c + i) by omega, d2 (c + i) (by omega), if_neg (by omega), Int.sub_zero]
      rw [nI_add, nI_add, eu, p3, nI_clamp (show 4 * w + c + i < 2 ^ 31 by omega), nI_clamp (show c < 2 ^ 31 by omega), nI_clamp (show i < 2 ^ 31 by omega), u8, u16, eg d1 i (by omega), iL_mul, iL_sub, nI_1 i]
      refine ⟨fun y => absurd y (nI_nlt (by omega) (by omega)), fun _ => ⟨vp_in_nI (N := 12) (by omega) (by decide), vp_in_nI (N := 4) (by omega) (by decide), p1, vp_in_nI (by omega) (by decide), vp_in_nI (N := 12) (by omega) (by decide), nmB_iff.mpr (nmB_iff.mpr (nx2 _ ⟨chg_t2 d1 (chg_J (Or.inr rfl)), fun j hj => ?_, fun i' hi' => ?_, fun k hk => ?_⟩))⟩⟩
      · rw [cUJ_at]
        by_cases y : j = c + i
        · subst y
          rw [show 4 * w + (c + i) = 4 * w + c + i by omega, updL_at, if_pos (by omega), show c + i - c = i by omega]
        · rw [updL_ne (by omega), d2 j hj]
          congr 2
          by_cases y2 : c ≤ j ∧ j < c + i
          · rw [if_pos y2, if_pos (by omega)]
          · rw [if_neg y2, if_neg (by omega)]
      · rw [cUJ_at, updL_ne (by omega)]; exact d3 i' hi'
      · rw [cUJ_ne (by decide)]; exact d4 k hk
    · intro m u ⟨d1, d2, d3, d4⟩
      show v_X1_divide_67 Q 16 (v_X1_divide_37 Q 16 n) (m + 1) (nI (4 * w)) (nI lo) (nI c) (nI (lo + 1)) u
      unfold v_X1_divide_67
      refine ⟨fun _ => nmB_iff.mpr (nx u ⟨d1, fun j hj => ?_, d3, d4⟩), fun y => absurd (nI_lt (by omega) (by omega)) y⟩
      rw [d2 j hj, cv4_st g q (show c < 4 by omega) hj]
      congr 1
      by_cases y : c ≤ j
      · rw [if_pos y]
        by_cases y2 : j < c + (lo + 1)
        · rw [if_pos ⟨y, y2⟩]; omega
        · rw [if_neg (by omega), hz (j - c) (by omega) (by omega)]; simp
      · rw [if_neg y, if_neg (by omega)]; omega
  · intro n s ⟨a1, a2, a3, a4⟩
    show v_X1_divide_37 Q 16 (n + 1) (nI (4 * w)) (nI lo) (-1) s
    unfold v_X1_divide_37
    rw [c0, show (4 : Int32).toNatClampNeg = 4 by decide, nI_clamp (show 4 * w < 2 ^ 31 by omega)]
    refine ⟨fun _ => ⟨⟨by decide, nI_pos (by omega), by decide, by decide, by show 4 * w + 4 ≤ 12; omega⟩, nmB_iff.mpr (go _ ?_ ?_ (fun j hj => ?_) (fun i hi => ?_))⟩, fun y => absurd (by decide) y⟩
    · exact chP_of (chg_t2 a1 (chg_R (Or.inr rfl)))
    · show s.2.2.2 = _
      rw [a1.2]
    · rw [cUR_at, pk_cpy_in (by omega) (by omega), show 0 + (4 * w + j - 4 * w) = j by omega, a4 j hj, if_pos (by omega)]
    · rw [cUR_at, pk_cpy_out (by omega)]; exact a3 i hi
  · rw [g8.1 16 (by decide), hp j hj, epq j hj]
    congr 1
    have : ∀ i, i < 4 → qt4 q (4 - lo) i = q i := by
      intro i hi
      unfold qt4
      by_cases y : i < 4 - lo
      · rw [if_pos y]
      · rw [if_neg y, qz i (by omega) hi]
    rcases (show j = 0 ∨ j = 1 ∨ j = 2 ∨ j = 3 by omega) with rfl | rfl | rfl | rfl <;> simp only [cv4, this 0 (by decide), this 1 (by decide), this 2 (by decide), this 3 (by decide)]
  · rw [z8 k hk]
    by_cases y : 4 - lo ≤ k
    · rw [if_pos y, qz k (by omega) hk]; rfl
    · rw [if_neg y]; rfl
theorem sp_lower {Q : Int32 → cS → Prop} {σ : cS} {u : Nat → Int} (hu : rowIs (σ.1 16) 12 u) (no : (∀ k, k < 4 → u (8 + k) = 0) → Q 0 σ) (yes : ∀ t, 8 ≤ t → t < 12 → u t ≠ 0 → (∀ j, t < j → j < 12 → u j = 0) → ∀ σ', chg (fun a => a = 16) σ σ' → (∀ i, i < 12 → σ'.1 16 i = iL (tidyN u 12 t i)) → ((∀ i, i < 12 → ab (tidyN u 12 t i) 9) → Q 1 σ') ∧ (¬ (∀ i, i < 12 → ab (tidyN u 12 t i) 9) → Q 0 σ')) : v_X1_lowerNumbers Q 16 σ := by
  unfold v_X1_lowerNumbers v_X1_topOfW v_X1_topOfW_16 v_X1_lowerNumbers_36
  have z : ∀ k, k < 12 → (σ.1 16 k = 0 ↔ u k = 0) := fun k hk => by rw [(hu k hk).1]; exact iL0 (hu k hk).2
  refine sp_last (N := 12) rfl (by decide) (fun t ht hne hl => ?_) (fun h0 => ⟨fun y => absurd y (by decide), fun _ => ⟨fun y => absurd y (by decide), fun _ => ⟨z_0, no (fun k hk => (z _ (by omega)).mp (h0 _ (by omega)))⟩⟩⟩)
  have hut : u t ≠ 0 := fun y => hne ((z t ht).mpr y)
  have hl' : ∀ j, t < j → j < 12 → u j = 0 := fun j j1 j2 => (z j j2).mp (hl j j1 j2)
  refine ⟨fun y => ⟨fun _ => ?_, fun y2 => absurd (nI_pos' (by omega)) y2⟩, fun y => ⟨fun y2 => absurd y2 (by decide), fun _ => ⟨z_0, no (fun k hk => hl' (8 + k) ?_ (by omega))⟩⟩⟩
  · have h8 : 8 ≤ t := (nI_leI (a := 8) (by decide) (by omega)).mp y
    refine sp_takeOff (N := 12) rfl (by decide) hu ?_
    refine sp_tidyT (N := 12) rfl (by decide) hu ht ?_
    have e : ∀ i, i < 12 → (goneC σ 16 12 (fun k => iL (tidyN u 12 t k))).1 16 i = iL (tidyN u 12 t i) := fun i hi => goneC_v hi
    have rr : ∀ i, i < 12 → r63 (tidyN u 12 t i) := fun i hi => by
      have := tdiv_r63 (a := u i) (b := (gcdN u 12 : Nat)) (hu i hi).2
      unfold tidyN r63 at *
      split <;> omega
    have g : chg (fun a => a = 16) σ (goneC σ 16 12 (fun k => iL (tidyN u 12 t k))) := chg_R rfl
    revert e g
    generalize goneC σ 16 12 (fun k => iL (tidyN u 12 t k)) = s1
    intro e g
    refine sp_widest (N := 12) (z := tidyN u 12 t) rfl (by decide) (fun i hi => ⟨e i hi, rr i hi⟩) ?_
    have hmx := maxN_lt (z := tidyN u 12 t) (N := 12) rr 12 (Nat.le_refl _)
    have mx : ((maxN (tidyN u 12 t) 12 : Nat) : Int) ≤ 9 ↔ ∀ i, i < 12 → ab (tidyN u 12 t i) 9 := by
      rw [show ((maxN (tidyN u 12 t) 12 : Nat) : Int) ≤ 9 ↔ maxN (tidyN u 12 t) 12 ≤ 9 by omega, maxN_le]
      exact ⟨fun z i hi => ab_i.mpr (z i hi), fun z i hi => ab_i.mp (z i hi)⟩
    rw [show (9 : Int64) = iL 9 from rfl, iL_lt (by unfold r63; omega) (nat_r63 hmx)]
    have ye := yes t h8 ht hut hl' s1 g e
    refine ⟨fun y => ⟨z_0, ye.2 (fun w => ?_)⟩, fun y => ⟨z_1, ye.1 (mx.mp (by omega))⟩⟩
    have := mx.mpr w
    omega
  · rcases Nat.lt_or_ge t 8 with w | w
    · omega
    · exact absurd (nI_le (a := 8) w (by omega)) y
