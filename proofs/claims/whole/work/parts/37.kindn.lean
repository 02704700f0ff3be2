/-! PURE: the reference's KIND: the search for a form -/
def firstP (v : Nat → Int) (n i j : Nat) : Prop := i < j ∧ j ≤ n ∧ nz3 (fo3 v i j) ∧ ∀ a b, a < b → b ≤ n → (a < i ∨ (a = i ∧ b < j)) → ¬ nz3 (fo3 v a b)
theorem is_f11 {Q : Int32 → mS → Prop} {m : Nat} {x1 x2 x4 : Int32} {σ : mS} (h : w_isStraight_59 Q x1 1 σ) : w_isStraight_11 Q (m + 1) x1 x2 1 x4 σ := by
  unfold w_isStraight_11
  exact ⟨fun _ => h, fun _ => ⟨fun _ => h, fun q => absurd q (by decide)⟩⟩
theorem is_f27 {Q : Int32 → mS → Prop} {m k : Nat} {x1 x2 x4 x5 : Int32} {σ : mS} (h : w_isStraight_59 Q x1 1 σ) : w_isStraight_27 Q (w_isStraight_11 Q (m + 1)) (k + 1) x1 x2 1 x4 x5 σ := by
  unfold w_isStraight_27 w_isStraight_53
  exact ⟨fun _ => nmB_iff.mpr (is_f11 h), fun _ => ⟨fun _ => nmB_iff.mpr (is_f11 h), fun q => absurd q (by decide)⟩⟩
theorem is_in {Q : Int32 → mS → Prop} {l n i m : Nat} {σ0 : mS} {v : Nat → Int} (hl : l < 4) (hn : n ≤ 3) (hi : i < 4) (hv : ofV σ0 l v) (hq : ∀ i j, firstP v n i j → ∀ σ', s6 σ0 σ' → is6 σ' (fo3 v i j) → w_isStraight_59 Q (nI l) 1 σ') (hout : (∀ a b, a < b → b ≤ n → a ≤ i → ¬ nz3 (fo3 v a b)) → ∀ σ', s6 σ0 σ' → w_isStraight_11 Q (m + 1) (nI l) (nI n) 0 (nI (i + 1)) σ') : ∀ (d j k : Nat) (σ : mS), j + d = n + 1 → i < j → d + 1 < k → s6 σ0 σ → (∀ a b, a < b → b ≤ n → (a < i ∨ (a = i ∧ b < j)) → ¬ nz3 (fo3 v a b)) → w_isStraight_27 Q (w_isStraight_11 Q (m + 1)) k (nI l) (nI n) 0 (nI i) (nI j) σ := by
  intro d
  induction d with
  | zero =>
    intro j k σ hj hij hk hs he
    obtain ⟨k, rfl⟩ : ∃ q, k = q + 1 := ⟨k - 1, by omega⟩
    unfold w_isStraight_27 w_isStraight_53
    refine ⟨fun _ => nmB_iff.mpr ?_, fun q => absurd (nI_lt (by omega) (by omega)) q⟩
    rw [nI_1]
    exact hout (fun a b h1 h2 h3 => he a b h1 h2 (by omega)) σ hs
  | succ d ih =>
    intro j k σ hj hij hk hs he
    obtain ⟨k, rfl⟩ : ∃ q, k = q + 2 := ⟨k - 2, by omega⟩
    unfold w_isStraight_27
    refine ⟨fun q => absurd q (nI_nlt (by omega) (by omega)), fun _ => ⟨fun q => absurd rfl q, fun _ => ?_⟩⟩
    refine sp_findStraight hl hi (by omega) (ofV_s6 hv hs) (fun g σ' hs' hr => nmB_iff.mpr ?_) (fun g σ' hs' => nmB_iff.mpr ?_)
    · exact is_f27 (hq i j ⟨hij, by omega, g, he⟩ σ' (s6_tr hs hs') hr)
    · rw [nI_1]
      refine ih (j + 1) (k + 1) σ' (by omega) (by omega) (by omega) (s6_tr hs hs') (fun a b h1 h2 h3 => ?_)
      by_cases e : a = i ∧ b = j
      · rw [e.1, e.2]; exact g
      · exact he a b h1 h2 (by omega)
theorem is_out {Q : Int32 → mS → Prop} {l n : Nat} {σ0 : mS} {v : Nat → Int} (hl : l < 4) (hn : n ≤ 3) (hv : ofV σ0 l v) (hq : ∀ i j, firstP v n i j → ∀ σ', s6 σ0 σ' → is6 σ' (fo3 v i j) → w_isStraight_59 Q (nI l) 1 σ') (hex : ∃ a b, a < b ∧ b ≤ n ∧ nz3 (fo3 v a b)) : ∀ (d i m : Nat) (σ : mS), i + d = n → d + 1 < m → s6 σ0 σ → (∀ a b, a < b → b ≤ n → a < i → ¬ nz3 (fo3 v a b)) → w_isStraight_11 Q m (nI l) (nI n) 0 (nI i) σ := by
  intro d
  induction d with
  | zero =>
    intro i m σ hi hm hs he
    obtain ⟨a, b, h1, h2, h3⟩ := hex
    exact absurd h3 (he a b h1 h2 (by omega))
  | succ d ih =>
    intro i m σ hi hm hs he
    obtain ⟨m, rfl⟩ : ∃ q, m = q + 2 := ⟨m - 2, by omega⟩
    unfold w_isStraight_11
    refine ⟨fun q => absurd q (nI_ge (by omega) (by omega)), fun _ => ⟨fun q => absurd rfl q, fun _ => nmB_iff.mpr ?_⟩⟩
    rw [show nI i + (1 : Int32) = nI (i + 1) from nI_1 i]
    refine is_in (i := i) hl hn (by omega) hv hq (fun he2 σ' hs' => ?_) (n - i) (i + 1) fuL σ (by omega) (by omega) (by unfold fuL; omega) hs (fun a b h1 h2 h3 => he a b h1 h2 (by omega))
    exact ih (i + 1) (m + 1) σ' (by omega) (by omega) hs' (fun a b h1 h2 h3 => he2 a b h1 h2 (by omega))
theorem sp_isStraight {Q : Int32 → mS → Prop} {l : Nat} {σ : mS} {v : Nat → Int} (hl : l < 4) (hv : ofV σ l v) (hex : ∃ a b, a < b ∧ b ≤ dg v ∧ nz3 (fo3 v a b)) (h1 : ∀ i j, firstP v (dg v) i j → flat4 (fo3 v i j) v 4 → ∀ σ', s6 σ σ' → is6 σ' (fo3 v i j) → Q 1 σ') (h0 : ∀ i j, firstP v (dg v) i j → ¬ flat4 (fo3 v i j) v 4 → ∀ σ', s6 σ σ' → Q 0 σ') : w_isStraight Q (nI l) σ := by
  unfold w_isStraight
  have hd := dg_le v
  refine sp_degreeOf hl (fun i hi => ofV_r hv hi) ?_
  refine is_out hl hd hv (fun i j hf σ' hs hr => ?_) hex (dg v) 0 fuL σ (by omega) (by unfold fuL; omega) s6_rf (fun a b _ _ h => by omega)
  unfold w_isStraight_59
  have hb : ∀ c, c < 3 → -162 ≤ fo3 v i j c ∧ fo3 v i j c ≤ 162 := fun c _ => fo3_le hv.2 (by have := hf.1; have := hf.2.1; omega) (by have := hf.2.1; omega) c
  exact (sp_all hl (ofV_s6 hv hs) hr hb (fun g => h1 i j hf g σ' hs hr) (fun g => h0 i j hf g σ' hs) 4 0 fuL (by omega) (by unfold fuL; omega)).1 (fun i hi => by omega)
theorem crx_par {a b : Nat → Int} (h : ¬ nz3 (crx a b)) : a 0 * b 1 = a 1 * b 0 ∧ a 0 * b 2 = a 2 * b 0 ∧ a 1 * b 2 = a 2 * b 1 := by
  have h2 : crx a b 0 = 0 ∧ crx a b 1 = 0 ∧ crx a b 2 = 0 := Classical.byContradiction h
  obtain ⟨h0, h1, h2⟩ := h2
  have e0 : a 1 * b 2 - a 2 * b 1 = 0 := h0
  have e1 : a 2 * b 0 - a 0 * b 2 = 0 := h1
  have e2 : a 0 * b 1 - a 1 * b 0 = 0 := h2
  exact ⟨by omega, by omega, by omega⟩
/-- where all vectors lie on one line, a polynomial divides all three -/
theorem par_no {v : Nat → Int} (hc : copr v) (hd : 0 < dg v) : ∃ a b, a < b ∧ b ≤ dg v ∧ nz3 (fo3 v a b) := by
  refine Classical.byContradiction (fun hno => ?_)
  have hall : ∀ a b, a < b → b ≤ dg v → ¬ nz3 (fo3 v a b) := fun a b h1 h2 h3 => hno ⟨a, b, h1, h2, h3⟩
  have hd3 := dg_le v
  have hg := dg_facts v
  -- a share w whose number of the highest power isn't 0
  obtain ⟨w, hw, hne⟩ : ∃ w, w < 3 ∧ v (4 * w + dg v) ≠ 0 := by
    refine Classical.byContradiction (fun hno2 => ?_)
    have z : ∀ w, w < 3 → v (4 * w + dg v) = 0 := fun w hw => Classical.byContradiction (fun q => hno2 ⟨w, hw, q⟩)
    have z0 := z 0 (by decide); have z1 := z 1 (by decide); have z2 := z 2 (by decide)
    rcases (show dg v = 1 ∨ dg v = 2 ∨ dg v = 3 by omega) with e | e | e
    · rw [e] at z0 z1 z2; simp only [Nat.mul_zero, Nat.zero_add, Nat.mul_one, Nat.reduceMul, Nat.reduceAdd] at z0 z1 z2
      omega
    · rw [e] at z0 z1 z2; simp only [Nat.mul_zero, Nat.zero_add, Nat.mul_one, Nat.reduceMul, Nat.reduceAdd] at z0 z1 z2
      omega
    · rw [e] at z0 z1 z2; simp only [Nat.mul_zero, Nat.zero_add, Nat.mul_one, Nat.reduceMul, Nat.reduceAdd] at z0 z1 z2
      omega
  -- numbers beyond the degree are 0
  have hbey : ∀ c k, c < 3 → k < 4 → dg v < k → v (4 * c + k) = 0 := by
    intro c k hc hk hdk
    rcases (show c = 0 ∨ c = 1 ∨ c = 2 by omega) with rfl | rfl | rfl <;> rcases (show k = 2 ∨ k = 3 by omega) with rfl | rfl <;> simp only [Nat.mul_zero, Nat.zero_add, Nat.mul_one, Nat.reduceMul, Nat.reduceAdd] <;> omega
  -- v_k is a multiple of v_n
  have hpar : ∀ c k, c < 3 → k < 4 → v (4 * w + dg v) * v (4 * c + k) = v (4 * c + dg v) * v (4 * w + k) := by
    intro c k hc hk
    rcases Nat.lt_trichotomy k (dg v) with h | h | h
    · obtain ⟨p1, p2, p3⟩ := crx_par (hall k (dg v) h (Nat.le_refl _))
      have q1 : v (4 * 0 + k) * v (4 * 1 + dg v) = v (4 * 1 + k) * v (4 * 0 + dg v) := p1
      have q2 : v (4 * 0 + k) * v (4 * 2 + dg v) = v (4 * 2 + k) * v (4 * 0 + dg v) := p2
      have q3 : v (4 * 1 + k) * v (4 * 2 + dg v) = v (4 * 2 + k) * v (4 * 1 + dg v) := p3
      rcases (show c = 0 ∨ c = 1 ∨ c = 2 by omega) with rfl | rfl | rfl <;> rcases (show w = 0 ∨ w = 1 ∨ w = 2 by omega) with rfl | rfl | rfl <;> first | rfl | exact Int.mul_comm _ _ | (rw [Int.mul_comm, q1, Int.mul_comm]; done) | (rw [Int.mul_comm, q2, Int.mul_comm]; done) | (rw [Int.mul_comm, q3, Int.mul_comm]; done) | (rw [Int.mul_comm, ← q1, Int.mul_comm]; done) | (rw [Int.mul_comm, ← q2, Int.mul_comm]; done) | (rw [Int.mul_comm, ← q3, Int.mul_comm]; done)
    · rw [h, Int.mul_comm]
    · rw [hbey c k hc hk h, hbey w k hw hk h]; simp
  have hk : ∀ c, c < 3 → dvP (pe v w) (pe v c) := by
    intro c hc
    refine ⟨v (4 * w + dg v), fun _ => v (4 * c + dg v), hne, ⟨[v (4 * c + dg v)], fun t => by simp [pv]⟩, fun t => ?_⟩
    have h0 := hpar c 0 hc (by decide); have h1 := hpar c 1 hc (by decide); have h2 := hpar c 2 hc (by decide); have h3 := hpar c 3 hc (by decide)
    rw [Nat.add_zero, Nat.add_zero] at h0
    unfold pe
    generalize v (4 * w + dg v) = a at *
    generalize v (4 * c + dg v) = b at *
    grind
  have h3 : isP (pe v w) := ⟨[v (4 * w), v (4 * w + 1), v (4 * w + 2), v (4 * w + 3)], fun t => by simp [pv, pe]⟩
  have hcst := hc (pe v w) h3 (hk 0 (by decide)) (hk 1 (by decide)) (hk 2 (by decide))
  have c1 := hcst 1; have c2 := hcst (-1); have c3 := hcst 2
  unfold pe at c1 c2 c3
  rcases (show dg v = 1 ∨ dg v = 2 ∨ dg v = 3 by omega) with e | e | e <;> rw [e] at hne <;> omega
