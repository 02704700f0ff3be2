/-! PURE: the reference's common divisor, its division, what it keeps -/
theorem sp_fc129 {Q : mS → Prop} {σ : mS} (go : ∀ σ', mch (fun a => a = 4) σ σ' → rw4 σ' 4 one4 → Q σ') : w_findCommon_129 Q fuL 0 σ := by
  refine loopU (N := 4) (F := fun n c s => w_findCommon_129 Q n c s) (I := fun c s => mch (fun a => a = 4) σ s ∧ ∀ i, i < c → s.1 4 i = iL (one4 i)) (by decide) ?_ ?_ σ ⟨mch_rf, fun i hi => by omega⟩
  · intro n c s hc ⟨g, z⟩ nx
    show w_findCommon_129 Q (n + 1) (nI c) s
    unfold w_findCommon_129 w_findCommon_148
    have w4 := vp_in_nI hc (show 4 < 2 ^ 31 by decide)
    rw [nI_clamp (show c < 2 ^ 31 by omega), nI_1, show (nI c = 0 ↔ c = 0) from nI_eq (b := 0) (by omega) (by decide)]
    have fin : ∀ x : Int64, x = iL (one4 c) → w_findCommon_129 Q n (nI (c + 1)) (mUJ s 4 c x) := by
      intro x hx
      refine nx _ ⟨mch_t g (mch_J rfl), fun i hi => ?_⟩
      rw [mUJ_at]
      rcases Nat.lt_or_ge i c with q | q
      · rw [updL_ne (by omega)]; exact z i q
      · rw [show i = c by omega, updL_at]; exact hx
    refine ⟨fun q => absurd q (nI_ge (b := 4) hc (by decide)), fun _ => ⟨fun q => ⟨w4, nmB_iff.mpr (nmB_iff.mpr (fin _ ?_))⟩, fun q => ⟨w4, nmB_iff.mpr (nmB_iff.mpr (fin _ ?_))⟩⟩⟩
    · match c, q with
      | c + 1, _ => rfl
    · subst q; rfl
  · intro n s ⟨g, z⟩
    show w_findCommon_129 Q (n + 1) (nI 4) s
    unfold w_findCommon_129 w_findCommon_155
    refine ⟨fun _ => go s g (fun i hi => ⟨z i hi, ?_⟩), fun q => absurd (by decide) q⟩
    have := one4_out.1.2.2 i hi
    exact ab_r this
theorem sp_fc81 {Q : mS → Prop} {σ : mS} {b : Nat → Int} {x : Int32} (hb : rw4 σ 5 b) (go : ∀ σ', mch (fun a => a = 4) σ σ' → rw4 σ' 4 (if x = 0 then one4 else b) → Q σ') : w_findCommon_81 Q fuL x 0 σ := by
  refine loopU (N := 4) (F := fun n c s => w_findCommon_81 Q n x c s) (I := fun c s => mch (fun a => a = 4) σ s ∧ ∀ i, i < c → s.1 4 i = iL ((if x = 0 then one4 else b) i)) (by decide) ?_ ?_ σ ⟨mch_rf, fun i hi => by omega⟩
  · intro n c s hc ⟨g, z⟩ nx
    show w_findCommon_81 Q (n + 1) x (nI c) s
    unfold w_findCommon_81 w_findCommon_113
    have w4 := vp_in_nI hc (show 4 < 2 ^ 31 by decide)
    rw [nI_clamp (show c < 2 ^ 31 by omega), nI_1, show (nI c = 0 ↔ c = 0) from nI_eq (b := 0) (by omega) (by decide)]
    have fin : ∀ y : Int64, y = iL ((if x = 0 then one4 else b) c) → w_findCommon_81 Q n x (nI (c + 1)) (mUJ s 4 c y) := by
      intro y hy
      refine nx _ ⟨mch_t g (mch_J rfl), fun i hi => ?_⟩
      rw [mUJ_at]
      rcases Nat.lt_or_ge i c with q | q
      · rw [updL_ne (by omega)]; exact z i q
      · rw [show i = c by omega, updL_at]; exact hy
    refine ⟨fun q => absurd q (nI_ge (b := 4) hc (by decide)), fun _ => ⟨fun q0 => ⟨fun q => ⟨w4, nmB_iff.mpr (nmB_iff.mpr (fin _ ?_))⟩, fun q => ⟨w4, nmB_iff.mpr (nmB_iff.mpr (fin _ ?_))⟩⟩, fun q0 => ⟨w4, w4, nmB_iff.mpr (nmB_iff.mpr (fin _ ?_))⟩⟩⟩
    · rw [if_pos q0]
      match c, q with
      | c + 1, _ => rfl
    · rw [if_pos q0]; subst q; rfl
    · rw [if_neg q0, g.1 5 (by decide)]; exact (hb c hc).1
  · intro n s ⟨g, z⟩
    show w_findCommon_81 Q (n + 1) x (nI 4) s
    unfold w_findCommon_81 w_findCommon_155
    refine ⟨fun _ => go s g (fun i hi => ⟨z i hi, ?_⟩), fun q => absurd (by decide) q⟩
    by_cases y : x = 0
    · rw [if_pos y]; exact ab_r (one4_out.1.2.2 i hi)
    · rw [if_neg y]; exact (hb i hi).2
theorem mz_lin {b : Nat → Int} (h : mz4 b = 2) : lin1 b := by
  rcases mz_facts b with ⟨a, _⟩ | ⟨_, _, c, d⟩
  · omega
  · rw [h] at c d
    exact ⟨c, d 2 (by decide) (by decide), d 3 (by decide) (by decide)⟩
theorem mz_nz {a : Nat → Int} (h : 0 < mz4 a) : ∃ i, i < 4 ∧ a i ≠ 0 := by
  rcases mz_facts a with ⟨q, _⟩ | ⟨_, b, c, _⟩
  · omega
  · exact ⟨mz4 a - 1, by omega, c⟩
theorem one4_mz : mz4 one4 = 1 := by decide
theorem sp_fcEnd {Q : mS → Prop} {n : Nat} {σ : mS} {a b : Nat → Int} (ha : rw4 σ 4 a) (hb : rw4 σ 5 b) (pa : pz4 a) (pb : pz4 b) (hm : mz4 b ≤ mz4 a) (h2 : mz4 b ≤ 2) (bA : ∀ i, i < 4 → ab (a i) 18000000) (b4 : a 3 ≠ 0 → ∀ i, i < 4 → ab (a i) 13500) (go : ∀ σ' g, mch s45 σ σ' → rw4 σ' 4 g → (∀ k, isP k → ((dvP k (e4 a) ∧ dvP k (e4 b)) ↔ dvP k (e4 g))) → pz4 g → (g = a ∨ (mz4 g ≤ 2 ∧ ((∀ A, (∀ i, i < 4 → ab (a i) A) → 1 ≤ A → ∀ i, i < 4 → ab (g i) A)))) → Q σ') : w_findCommon_37 Q (n + 1) σ := by
  have m := mzI (mz_4 b) (mz_4 b)
  have le1 : iI ((mz4 b : Int) - 1) ≤ 1 := by
    rw [show (1 : Int32) = iI 1 from rfl, iI_le (by unfold r31; omega) (by unfold r31; omega)]; omega
  have b1 : ∀ A : Nat, 1 ≤ A → ∀ i, i < 4 → ab (one4 i) A := fun A hA i hi => ab_le (pz_1 one4_out.2 one4_mz i hi) hA
  have one : (∀ k, isP k → ((dvP k (e4 a) ∧ dvP k (e4 b)) ↔ dvP k (e4 one4))) → ∀ σ', mch (fun x => x = 4) σ σ' → rw4 σ' 4 one4 → Q σ' := fun hc σ' g r => go σ' one4 (mch_w g (fun x hx => Or.inl hx)) r hc one4_out.2 (Or.inr ⟨by rw [one4_mz]; decide, fun A _ hA => b1 A hA⟩)
  unfold w_findCommon_37
  refine rw4_d rfl hb ⟨fun _ => rw4_d rfl hb ?_, fun q => absurd le1 q⟩
  rw [m.2.2.1, m.2.2.2]
  refine ⟨fun q1 => ⟨fun q0 => ?_, fun q0 => ?_⟩, fun q1 => ?_⟩
  · -- nothing
    unfold w_findCommon_155
    have h0 : mz4 b = 0 := by omega
    have zb : ∀ i, i < 4 → b i = 0 := by
      rcases mz_facts b with ⟨_, d⟩ | ⟨d, _⟩
      · exact d
      · omega
    refine go σ a mch_rf ha (fun k _ => ⟨fun z => z.1, fun z => ⟨z, dv_congr (dv_zero k) (fun t => (z_e4 zb t).symm)⟩⟩) pa (Or.inl rfl)
  · -- a number
    refine sp_fc129 (one (fun k hk => ?_))
    rcases mz_facts b with ⟨d, _⟩ | ⟨_, _, c, d'⟩
    · omega
    · rw [q0] at c d'
      have z1 := d' 1 (by decide) (by decide); have z2 := d' 2 (by decide) (by decide); have z3 := d' 3 (by decide) (by decide)
      have cst : ∀ t, e4 b t = b 0 * e4 one4 t := fun t => by rw [e4_one]; unfold e4; rw [z1, z2, z3]; simp
      exact ⟨fun z => dv_unc c (dv_congr z.2 cst), fun z => ⟨one_dv (isP_e4 a) z, one_dv (isP_e4 b) z⟩⟩
  · have hlin := mz_lin q1
    have hprim : gcdN b 4 = 1 := pb.resolve_right (fun z => hlin.1 (z 1 (by decide)))
    have hn := mz_nz (a := a) (by omega)
    refine sp_divides ha hb hlin hprim hn bA b4 (fun hd => ?_) (fun hd => ?_)
    · refine sp_fc81 hb (fun σ' g r => ?_)
      rw [if_neg (by decide)] at r
      exact go σ' b (mch_w g (fun x hx => Or.inl hx)) r (fun k _ => ⟨fun z => z.2, fun z => ⟨dv_trans z hd, z⟩⟩) pb (Or.inr ⟨by omega, fun A hA _ => lin_bound hprim hlin hd hn hA⟩)
    · refine sp_fc81 hb (fun σ' g r => ?_)
      rw [if_pos rfl] at r
      refine one (fun k hk => ?_) σ' g r
      refine ⟨fun z => ?_, fun z => ⟨one_dv (isP_e4 a) z, one_dv (isP_e4 b) z⟩⟩
      obtain ⟨T, hT⟩ := e4_big (show 1 < 4 by decide) hlin.1
      rcases lin_dv hk hlin z.2 with k1 | k1
      · exact dv_one k1 z.2 ⟨T + 1, hT _ (by omega)⟩
      · exact absurd (k1 _ z.1) hd
theorem cl_prim {p : Nat → Int} (h : pz4 p) : ∀ i, i < 4 → cl4 p i = p i := by
  intro i hi
  unfold cl4
  rcases h with q | q
  · rw [q]; exact Int.tdiv_one _
  · rw [q i hi]; exact Int.zero_tdiv _
theorem mz_congr {p q : Nat → Int} (h : ∀ i, i < 4 → p i = q i) : mz4 p = mz4 q := by
  unfold mz4
  rw [h 0 (by decide), h 1 (by decide), h 2 (by decide), h 3 (by decide)]
/-- how wide, by the degree -/
def fcB (M N : Nat) (p : Nat → Int) : Prop := (mz4 p = 4 → ∀ i, i < 4 → ab (p i) M) ∧ ∀ i, i < 4 → ab (p i) N
/-- the bounds are such that nothing leaves the longs -/
def okB (M N : Nat) : Prop := M ≤ 13500 ∧ N ≤ 18000000 ∧ M ≤ N ∧ 1 ≤ M ∧ 2 * (2 * (M * N) * N) < 9223372036854775808
theorem okB_n {M N : Nat} (h : okB M N) : 2 * (N * N) < 9223372036854775808 ∧ 2 * (M * N) < 9223372036854775808 ∧ 2 * (M * M) < 9223372036854775808 ∧ 2 * (2 * (M * M) * M) < 9223372036854775808 := by
  obtain ⟨h1, h2, h3, h4, h5⟩ := h
  have a : N * N ≤ 18000000 * 18000000 := Nat.mul_le_mul h2 h2
  have b : M * N ≤ 13500 * 18000000 := Nat.mul_le_mul h1 h2
  have c : M * M ≤ 13500 * 13500 := Nat.mul_le_mul h1 h1
  have d : 2 * (M * M) * M ≤ 2 * (13500 * 13500) * 13500 := Nat.mul_le_mul (by omega) h1
  omega
theorem sp_findCommon {Q : mS → Prop} {σ : mS} {p q : Nat → Int} {M N : Nat} (hok : okB M N) (hp : rw4 σ 4 p) (hq : rw4 σ 5 q) (bp : fcB M N p) (bq : fcB M N q) (hR : p 3 ≠ 0 → q 3 ≠ 0 → ∀ i, i < 4 → ab (cl4 (stp (cl4 p) (cl4 q) 3 3) i) N) (go : ∀ σ' g, mch s45 σ σ' → rw4 σ' 4 g → (∀ k, isP k → ((dvP k (e4 p) ∧ dvP k (e4 q)) ↔ dvP k (e4 g))) → pz4 g → fcB M N g → (mz4 g = 4 → g = cl4 p ∨ g = cl4 q) → Q σ') : w_findCommon Q σ := by
  obtain ⟨k1, k2, k3, k4, k5⟩ := id hok
  obtain ⟨n1, n2, n3, n4⟩ := okB_n hok
  -- the middle, for a, b in order
  have main : ∀ (s : mS) (a b : Nat → Int), mch s45 σ s → rw4 s 4 a → rw4 s 5 b → pz4 a → pz4 b → fcB M N a → fcB M N b → mz4 b ≤ mz4 a → (a = cl4 p ∨ a = cl4 q) → (b = cl4 p ∨ b = cl4 q) → (∀ k, isP k → ((dvP k (e4 p) ∧ dvP k (e4 q)) ↔ (dvP k (e4 a) ∧ dvP k (e4 b)))) → (mz4 a = 4 → mz4 b = 4 → ∀ i, i < 4 → ab (cl4 (stp a b 3 3) i) N) → w_findCommon_37 Q fuL s := by
    intro s a b gs ra rb pa pb fa fb hm oa ob cd hR'
    have top3 : ∀ {x : Nat → Int}, x 3 ≠ 0 → mz4 x = 4 := fun h => by unfold mz4; rw [if_pos h]
    have fin : ∀ (n : Nat) (u : mS) (c d : Nat → Int), mch s45 σ u → rw4 u 4 c → rw4 u 5 d → pz4 c → pz4 d → mz4 d ≤ mz4 c → mz4 d ≤ 2 → fcB M N c → (mz4 c = 4 → c = cl4 p ∨ c = cl4 q) → (∀ k, isP k → ((dvP k (e4 p) ∧ dvP k (e4 q)) ↔ (dvP k (e4 c) ∧ dvP k (e4 d)))) → w_findCommon_37 Q (n + 1) u := by
      intro n u c d gu rc rd pc pd hcd h2 fc oc cdd
      refine sp_fcEnd rc rd pc pd hcd h2 (fun i hi => ab_le (fc.2 i hi) k2) (fun h3 i hi => ab_le (fc.1 (top3 h3) i hi) k1) (fun u' g g' r' cd' pg' og' => ?_)
      refine go u' g (mch_t gu g') r' (fun k hk => (cdd k hk).trans (cd' k hk)) pg' ?_ ?_
      · rcases og' with e | ⟨e1, e2⟩
        · rw [e]; exact fc
        · exact ⟨fun y => by omega, e2 N fc.2 (by omega)⟩
      · intro y
        rcases og' with e | ⟨e1, _⟩
        · rw [e] at y ⊢; exact oc y
        · omega
    rcases Nat.lt_or_ge 2 (mz4 b) with h3 | h3
    · -- a remainder first
      have a4 := mz_4 a
      have b4 := mz_4 b
      show w_findCommon_37 Q (999 + 1) s
      unfold w_findCommon_37
      have nle : ∀ {x : Nat → Int}, 3 ≤ mz4 x → ¬ iI ((mz4 x : Int) - 1) ≤ 1 := fun {x} hx => by
        have := mz_4 x
        rw [show (1 : Int32) = iI 1 from rfl, iI_le (by unfold r31; omega) (by unfold r31; omega)]; omega
      refine rw4_d rfl rb ⟨fun y => absurd y (nle h3), fun _ => ?_⟩
      rcases Nat.lt_or_ge 3 (mz4 b) with h4 | h4
      · -- both of the degree 3
        have eb : mz4 b = 4 := by omega
        have ea : mz4 a = 4 := by omega
        refine sp_leave (A := M) (B := M) ra rb hm (by omega) (fa.1 ea) (fb.1 eb) (fun _ => n4) n3 (fun u r g1 r1 q1 cd1 m1 e1 => ?_)
        have er := e1 eb
        have hN := hR' ea eb
        rw [← er] at hN
        refine sp_change r1 q1 (fun u2 g2 r2 q2 => ?_)
        have G2 := mch_t gs (mch_t g1 g2)
        have cd2 : ∀ k, isP k → ((dvP k (e4 p) ∧ dvP k (e4 q)) ↔ (dvP k (e4 b) ∧ dvP k (e4 (cl4 r)))) := fun k hk => by
          rw [cd k hk, ← cd1 k hk, cl_dv]; exact And.comm
        have mr : mz4 (cl4 r) = mz4 r := mz_cl r
        rcases Nat.lt_or_ge 2 (mz4 r) with h5 | h5
        · have er3 : mz4 r = 3 := by omega
          show w_findCommon_37 Q (998 + 1) u2
          unfold w_findCommon_37
          refine rw4_d rfl q2 ⟨fun y => absurd y (nle (by omega)), fun _ => ?_⟩
          refine sp_leave (A := M) (B := N) r2 q2 (by omega) (by omega) (fb.1 eb) hN (fun _ => k5) n2 (fun u3 r' g3 r3 q3 cd3 m3 _ => ?_)
          refine sp_change r3 q3 (fun u4 g4 r4 q4 => ?_)
          refine fin 997 u4 (cl4 r) (cl4 r') (mch_t G2 (mch_t g3 g4)) r4 q4 (cl_pz _) (cl_pz _) (by rw [mz_cl r']; omega) (by rw [mz_cl r']; omega) ⟨fun y => by omega, hN⟩ (fun y => by omega) (fun k hk => ?_)
          rw [cd2 k hk, ← cd3 k hk, cl_dv r']
          exact And.comm
        · exact fin 998 u2 b (cl4 r) G2 r2 q2 pb (cl_pz _) (by omega) (by omega) fb (fun _ => ob) cd2
      · have eb : mz4 b = 3 := by omega
        have lv : ∀ A : Nat, (∀ i, i < 4 → ab (a i) A) → (mz4 a = 4 → 2 * (2 * (A * N) * N) < 9223372036854775808) → 2 * (A * N) < 9223372036854775808 → w_leave (fun σ108 => w_change (fun σ110 => w_findCommon_37 Q 999 σ110) σ108) s := by
          intro A bA nA1 nA2
          refine sp_leave (A := A) (B := N) ra rb hm (by omega) bA fb.2 nA1 nA2 (fun u r g1 r1 q1 cd1 m1 _ => ?_)
          refine sp_change r1 q1 (fun u2 g2 r2 q2 => ?_)
          refine fin 998 u2 b (cl4 r) (mch_t gs (mch_t g1 g2)) r2 q2 pb (cl_pz _) (by rw [mz_cl r]; omega) (by rw [mz_cl r]; omega) fb (fun _ => ob) (fun k hk => ?_)
          rw [cd k hk, ← cd1 k hk, cl_dv]; exact And.comm
        rcases Nat.lt_or_ge 3 (mz4 a) with h6 | h6
        · exact lv M (fa.1 (by omega)) (fun _ => k5) n2
        · exact lv N fa.2 (fun y => by omega) n1
    · exact fin 999 s a b gs ra rb pa pb hm h3 fa (fun _ => oa) cd
  have fcl : ∀ {x : Nat → Int}, fcB M N x → fcB M N (cl4 x) := fun {x} h => ⟨fun y i hi => cl_ab (h.1 (by rw [← mz_cl x]; exact y) i hi), fun i hi => cl_ab (h.2 i hi)⟩
  unfold w_findCommon
  refine sp_cleanM rfl hp (fun s1 g1 r1 => sp_cleanM rfl (rw4_ch hq g1 (by decide)) (fun s2 g2 q2 => ?_))
  have r2 := rw4_ch r1 g2 (by decide)
  have G : mch s45 σ s2 := mch_t (mch_w g1 (fun x hx => Or.inl hx)) (mch_w g2 (fun x hx => Or.inr hx))
  have n3' : ∀ {x : Nat → Int}, mz4 (cl4 x) = 4 → x 3 ≠ 0 := fun {x} h z => by
    rw [mz_cl] at h
    unfold mz4 at h
    rw [if_neg (fun y => y z)] at h
    split at h
    · omega
    · split at h
      · omega
      · split at h <;> omega
  refine rw4_d rfl r2 (rw4_d rfl q2 ?_)
  have m := mzI (mz_4 (cl4 q)) (mz_4 (cl4 p))
  rw [m.1]
  refine ⟨fun y => main s2 (cl4 p) (cl4 q) G r2 q2 (cl_pz _) (cl_pz _) (fcl bp) (fcl bq) y (Or.inl rfl) (Or.inr rfl) (fun k _ => by rw [cl_dv, cl_dv]) (fun e1 e2 => hR (n3' e1) (n3' e2)), fun y => ?_⟩
  refine sp_change r2 q2 (fun s3 g3 r3 q3 => ?_)
  refine main s3 (cl4 q) (cl4 p) (mch_t G g3) r3 q3 (cl_pz _) (cl_pz _) (fcl bq) (fcl bp) (by omega) (Or.inr rfl) (Or.inl rfl) (fun k _ => by rw [cl_dv, cl_dv]; exact And.comm) (fun e1 e2 => ?_)
  have := mz_4 (cl4 q)
  omega
