/-! PURE: same (promise 19) -/
theorem sp_alike {Q : Int32 → cS → Prop} {r r' N : Nat} {σ : cS} (hr : cLen r = N) (hr' : cLen r' = N) (hN : N < 500) (h1 : (∀ i, i < N → σ.1 r i = σ.1 r' i) → Q 1 σ) (h0 : (∃ i, i < N ∧ σ.1 r i ≠ σ.1 r' i) → Q 0 σ) : v_X6_alike Q r r' σ := by
  unfold v_X6_alike
  rw [hr, hr']
  refine ⟨fun _ => ?_, fun q => absurd rfl q⟩
  rw [show v_X6_alike_11 Q r r' fuL 0 σ = (fun n c (_ : Unit) => v_X6_alike_11 Q r r' n c σ) fuL 0 () from rfl]
  refine loopU (N := N) (F := fun n c (_ : Unit) => v_X6_alike_11 Q r r' n c σ) (I := fun c _ => ∀ k, k < c → σ.1 r k = σ.1 r' k) (by omega) ?_ ?_ () (fun k hk => by omega)
  · intro n c _ hc hI go
    show v_X6_alike_11 Q r r' (n + 1) (nI c) σ
    unfold v_X6_alike_11
    rw [hr, hr', nI_clamp (show c < 2 ^ 31 by omega), nI_1]
    refine ⟨fun q => absurd q (nI_ge hc (by omega)), fun _ => ⟨vp_in_nI hc (by omega), vp_in_nI hc (by omega), fun q => nmB_iff.mpr (go () (fun k hk => ?_)), fun q => ⟨z_0, h0 ⟨c, hc, q⟩⟩⟩⟩
    rcases Nat.lt_or_ge k c with y | y
    · exact hI k y
    · rw [show k = c by omega]; exact q
  · intro n _ hI
    show v_X6_alike_11 Q r r' (n + 1) (nI N) σ
    unfold v_X6_alike_11
    rw [hr]
    exact ⟨fun _ => ⟨z_1, h1 hI⟩, fun q => absurd (nI_le (Nat.le_refl _) (by omega)) q⟩
/-- whether two rows are alike in their first c numbers, as an int -/
def alk (f g : Nat → Int64) : Nat → Int32
  | 0 => 1
  | c + 1 => if alk f g c = 0 then 0 else if f c = g c then 1 else 0
theorem alk_iff (f g : Nat → Int64) : ∀ c, (alk f g c = 1 ∧ ∀ k, k < c → f k = g k) ∨ (alk f g c = 0 ∧ ∃ k, k < c ∧ f k ≠ g k) := by
  intro c
  induction c with
  | zero => exact Or.inl ⟨rfl, fun k hk => by omega⟩
  | succ c ih =>
    rcases ih with ⟨h1, h2⟩ | ⟨h1, k, h2, h3⟩
    · unfold alk
      rw [h1, if_neg (by decide)]
      by_cases q : f c = g c
      · rw [if_pos q]
        refine Or.inl ⟨rfl, fun k hk => ?_⟩
        rcases Nat.lt_or_ge k c with y | y
        · exact h2 k y
        · rw [show k = c by omega]; exact q
      · rw [if_neg q]; exact Or.inr ⟨rfl, c, by omega, q⟩
    · unfold alk
      rw [h1, if_pos rfl]
      exact Or.inr ⟨rfl, k, by omega, h3⟩
theorem sp_sameP {Q : Int32 → mS → Prop} {j l : Nat} {τ : mS} (hj : j < 4) (hl : l < 4) (h1 : (∀ k, k < 12 → τ.1 2 (12 * j + k) = τ.1 2 (12 * l + k)) → Q 1 τ) (h0 : (∃ k, k < 12 ∧ τ.1 2 (12 * j + k) ≠ τ.1 2 (12 * l + k)) → Q 0 τ) : w_same_64 Q fuL (nI j) (nI l) 1 0 τ := by
  rw [show w_same_64 Q fuL (nI j) (nI l) 1 0 τ = (fun n c (s : Int32) => w_same_64 Q n (nI j) (nI l) s c τ) fuL 0 1 from rfl]
  refine loopU (N := 12) (F := fun n c (s : Int32) => w_same_64 Q n (nI j) (nI l) s c τ) (I := fun c s => s = alk (fun k => τ.1 2 (12 * j + k)) (fun k => τ.1 2 (12 * l + k)) c) (by decide) ?_ ?_ 1 rfl
  · intro n c s hc hs go
    show w_same_64 Q (n + 1) (nI j) (nI l) s (nI c) τ
    unfold w_same_64 w_same_108 w_same_109
    rw [show (12 : Int32) = nI 12 from rfl, pk_mul, pk_mul, nI_add, nI_add, nI_clamp (show 12 * j + c < 2 ^ 31 by omega), nI_clamp (show 12 * l + c < 2 ^ 31 by omega), nI_1]
    refine ⟨fun q => absurd q (nI_ge hc (by decide)), fun _ => ⟨fun q => nmB_iff.mpr (go 0 ?_), fun q => ⟨vp_in_nI (by omega) (by decide), vp_in_nI (by omega) (by decide), fun q2 => nmB_iff.mpr (go 0 ?_), fun q2 => nmB_iff.mpr (go 1 ?_)⟩⟩⟩
    · show (0 : Int32) = if alk _ _ c = 0 then 0 else _
      rw [← hs, if_pos q]
    · show (0 : Int32) = if alk _ _ c = 0 then 0 else if _ then 1 else 0
      rw [← hs, if_neg q, if_neg q2]
    · show (1 : Int32) = if alk _ _ c = 0 then 0 else if _ then 1 else 0
      rw [← hs, if_neg q, if_pos q2]
  · intro n s hs
    show w_same_64 Q (n + 1) (nI j) (nI l) s (nI 12) τ
    unfold w_same_64 w_same_127
    refine ⟨fun _ => ?_, fun q => absurd (by decide) q⟩
    rcases alk_iff (fun k => τ.1 2 (12 * j + k)) (fun k => τ.1 2 (12 * l + k)) 12 with ⟨a1, a2⟩ | ⟨a1, a2⟩
    · rw [a1] at hs
      exact ⟨fun q => absurd (hs.symm.trans q) (by decide), fun _ => h1 a2⟩
    · rw [a1] at hs
      exact ⟨fun _ => h0 a2, fun q => absurd hs q⟩
theorem sp_sameE {Q : Int32 → mS → Prop} {τ : mS} {e f : Nat → Int} (hf : eqM τ f) (he : ∀ p, p < 10 → τ.1 14 p = iL (e p)) (re : ∀ p, p < 10 → r63 (e p)) (rf : ∀ p, p < 10 → r63 (f p)) (h1 : (∀ p, p < 10 → e p = f p) → Q 1 τ) (h0 : (∃ p, p < 10 ∧ e p ≠ f p) → Q 0 τ) : w_same_171 Q fuL 1 0 τ := by
  rw [show w_same_171 Q fuL 1 0 τ = (fun n c (s : Int32) => w_same_171 Q n s c τ) fuL 0 1 from rfl]
  refine loopU (N := 10) (F := fun n c (s : Int32) => w_same_171 Q n s c τ) (I := fun c s => s = alk (fun k => iL (e k)) (fun k => iL (f k)) c) (by decide) ?_ ?_ 1 rfl
  · intro n c s hc hs go
    show w_same_171 Q (n + 1) s (nI c) τ
    unfold w_same_171 w_same_205 w_same_206
    have w0 := vp_in_nI hc (show 10 < 2 ^ 31 by decide)
    rw [nI_clamp (show c < 2 ^ 31 by omega), nI_1, he c hc, hf c hc]
    refine ⟨fun q => absurd q (nI_ge (b := 10) hc (by decide)), fun _ => ⟨fun q => nmB_iff.mpr (go 0 ?_), fun q => ⟨w0, w0, fun q2 => nmB_iff.mpr (go 0 ?_), fun q2 => nmB_iff.mpr (go 1 ?_)⟩⟩⟩
    · show (0 : Int32) = if alk _ _ c = 0 then 0 else _
      rw [← hs, if_pos q]
    · show (0 : Int32) = if alk _ _ c = 0 then 0 else if _ then 1 else 0
      rw [← hs, if_neg q, if_neg q2]
    · show (1 : Int32) = if alk _ _ c = 0 then 0 else if _ then 1 else 0
      rw [← hs, if_neg q, if_pos q2]
  · intro n s hs
    show w_same_171 Q (n + 1) s (nI 10) τ
    unfold w_same_171 w_same_224
    refine ⟨fun _ => ?_, fun q => absurd (by decide) q⟩
    rcases alk_iff (fun k => iL (e k)) (fun k => iL (f k)) 10 with ⟨a1, a2⟩ | ⟨a1, k, a2, a3⟩
    · rw [a1] at hs
      exact ⟨fun q => absurd (hs.symm.trans q) (by decide), fun _ => h1 (fun p hp => (iL_eq (re p hp) (rf p hp)).mp (a2 p hp))⟩
    · rw [a1] at hs
      exact ⟨fun _ => h0 ⟨k, a2, fun z => a3 (by show iL (e k) = iL (f k); rw [z])⟩, fun q => absurd hs q⟩
/-- the rows that comparing changes -/
def scS (a : Nat) : Prop := a = 6 ∨ a = 9 ∨ a = 10 ∨ a = 14
theorem sp_sameF {Q : Int32 → mS → Prop} {j l : Nat} {τ : mS} {v u : Nat → Int} (hj : j < 4) (hl : l < 4) (hv : ofV τ j v) (hu : ofV τ l u) (pv' : plain v) (pu : plain u) (kv : kd v ≠ 0) (ku : kd u ≠ 0) (h1 : (∀ p, p < 10 → eqn v p = eqn u p) → ∀ τ', mch scS τ τ' → Q 1 τ') (h0 : (∃ p, p < 10 ∧ eqn v p ≠ eqn u p) → ∀ τ', mch scS τ τ' → Q 0 τ') : w_findEquation (fun σ110 => w_same_136 Q fuL (nI l) 1 0 σ110) (nI j) τ := by
  have up : ∀ x, scE x → scS x := fun x hx => by unfold scE at hx; unfold scS; omega
  refine sp_findEqM hj hv pv' kv (fun s1 g1 e1 => ?_)
  refine loopU (N := 10) (F := fun n c s => w_same_136 Q n (nI l) 1 c s) (I := fun c s => mch (fun a => a = 14) s1 s ∧ ∀ p, p < c → s.1 14 p = iL (eqn v p)) (by decide) ?_ ?_ s1 ⟨mch_rf, fun p hp => by omega⟩
  · intro n c s hc ⟨h1, h2⟩ go
    show w_same_136 Q (n + 1) (nI l) 1 (nI c) s
    unfold w_same_136
    have w0 := vp_in_nI hc (show 10 < 2 ^ 31 by decide)
    rw [nI_clamp (show c < 2 ^ 31 by omega), nI_1]
    refine ⟨fun q => absurd q (nI_ge (b := 10) hc (by decide)), fun _ => ⟨w0, w0, nmB_iff.mpr (nmB_iff.mpr (go _ ⟨mch_t h1 (mch_J rfl), fun p hp => ?_⟩))⟩⟩
    rw [mUJ_at, h1.1 10 (by decide), e1 c hc]
    rcases Nat.lt_or_ge p c with q | q
    · rw [updL_ne (by omega)]; exact h2 p q
    · rw [show p = c by omega, updL_at]
  · intro n s ⟨h1', h2⟩
    show w_same_136 Q (n + 1) (nI l) 1 (nI 10) s
    unfold w_same_136
    refine ⟨fun _ => ?_, fun q => absurd (by decide) q⟩
    have G : mch scS τ s := mch_t (mch_w g1 up) (mch_w h1' (fun x hx => by unfold scS; omega))
    refine sp_findEqM hl (ofV_mch hu G (by unfold scS; omega)) pu ku (fun s2 g2 e2 => ?_)
    have G2 : mch scS τ s2 := mch_t G (mch_w g2 up)
    refine sp_sameE (e := eqn v) (f := eqn u) e2 (fun p hp => by rw [g2.1 14 (by unfold scE; omega)]; exact h2 p hp) (fun p _ => ab_r (eqn_ab pv'.1 p)) (fun p _ => ab_r (eqn_ab pu.1 p)) (fun q => h1 q s2 G2) (fun q => h0 q s2 G2)
theorem st_same : ∀ (z0 z1 : Int32) (σ : cS) (τ : mS), Inv σ τ → v_X7_same (fun r σ1 => w_same (fun r2 τ1 => r = r2 ∧ Inv σ1 τ1) z0 z1 τ) z0 z1 σ := by
  intro z0 z1 σ τ hI
  unfold v_X7_same v_X7_same_14 v_X7_same_46
  have bad : (¬ inR z0 0 3 ∨ ¬ inR z1 0 3) → w_same (fun r2 τ1 => (-1 : Int32) = r2 ∧ Inv σ τ1) z0 z1 τ := by
    intro h
    unfold w_same w_same_14
    by_cases a : inR z0 0 3
    · obtain ⟨j, hj, rfl⟩ := inR_nat (b := 3) a (by decide)
      refine isLineM_t (by omega) ⟨fun q => absurd q (by decide), fun _ => isLineM_f (h.resolve_left (fun z => z a)) ⟨fun q => absurd rfl q, fun _ => ⟨rfl, hI⟩⟩⟩
    · exact isLineM_f a ⟨fun _ => ⟨rfl, hI⟩, fun q => absurd rfl q⟩
  by_cases a0 : inR z0 0 3
  · obtain ⟨j, hj, rfl⟩ := inR_nat (b := 3) a0 (by decide)
    refine isLineC_t (by omega) ⟨fun q => absurd q (by decide), fun _ => ?_⟩
    by_cases a1 : inR z1 0 3
    · obtain ⟨l, hl, rfl⟩ := inR_nat (b := 3) a1 (by decide)
      refine isLineC_t (by omega) ⟨fun _ => ⟨vp_in_nI (by omega) (by decide), nmB_iff.mpr ⟨vp_in_nI (by omega) (by decide), nmB_iff.mpr ?_⟩⟩, fun q => absurd q (by decide)⟩
      rw [nI_clamp (show j < 2 ^ 31 by omega), nI_clamp (show l < 2 ^ 31 by omega)]
      -- the reference's way in
      have win : ∀ {Q : Int32 → mS → Prop}, ((τ.2.1 1 j = 0 → Q (-2) τ) ∧ (¬ τ.2.1 1 j = 0 → ((¬ τ.2.1 1 l = 0 → w_kindOf (fun u105 σ106 => w_kindOf (fun u107 σ108 => ((u105 = u107 → ((¬ u105 = 0 → w_findEquation (fun σ110 => w_same_136 Q fuL (nI l) ((1 : Int32)) ((0 : Int32)) σ110) (nI j) σ108) ∧ (u105 = 0 → w_same_64 Q fuL (nI j) (nI l) ((1 : Int32)) ((0 : Int32)) σ108))) ∧ (¬ u105 = u107 → Q (0 : Int32) σ108))) (nI l) σ106) (nI j) τ) ∧ (τ.2.1 1 l = 0 → Q (-2) τ)))) → w_same Q (nI j) (nI l) τ := by
        intro Q h
        unfold w_same w_same_34
        refine isLineM_t (by omega) ⟨fun q => absurd q (by decide), fun _ => isLineM_t (by omega) ⟨fun _ => ⟨vp_in_nI (by omega) (by decide), ?_⟩, fun q => absurd q (by decide)⟩⟩
        rw [nI_clamp (show j < 2 ^ 31 by omega), nI_clamp (show l < 2 ^ 31 by omega)]
        exact ⟨h.1, fun q => ⟨vp_in_nI (by omega) (by decide), h.2 q⟩⟩
      obtain ⟨l1, l2⟩ := hI.2.2.2 j (by omega)
      obtain ⟨m1, m2⟩ := hI.2.2.2 l (by omega)
      rw [l1, m1]
      refine ⟨fun q => win ⟨fun _ => ⟨rfl, hI⟩, fun y => absurd q y⟩, fun q => ⟨fun q2 => ?_, fun q2 => win ⟨fun y => absurd y q, fun _ => ⟨fun y => absurd q2 y, fun _ => ⟨rfl, hI⟩⟩⟩⟩⟩
      obtain ⟨j1, v, pv', hv, kv⟩ := l2.resolve_left q
      obtain ⟨u1, u, pu, hu, ku⟩ := m2.resolve_left q2
      have kv3 := kd_le v
      have ku3 := kd_le u
      have ov : ofV τ j v := ⟨hv, pv'.1⟩
      have ou : ofV τ l u := ⟨hu, pu.1⟩
      rw [kv.2.2.1, ku.2.2.1]
      unfold v_X7_same_79 v_X7_same_91 v_X7_same_103
      -- both sides' answers
      have fin : ∀ r : Int32, ((kd v = kd u ∧ ((kd v = 0 ∧ ∀ i, i < 12 → v i = u i) ∨ (kd v ≠ 0 ∧ ∀ i, i < 10 → eqn v i = eqn u i))) → r = 1) → (¬ (kd v = kd u ∧ ((kd v = 0 ∧ ∀ i, i < 12 → v i = u i) ∨ (kd v ≠ 0 ∧ ∀ i, i < 10 → eqn v i = eqn u i))) → r = 0) → w_same (fun r2 τ1 => r = r2 ∧ Inv σ τ1) (nI j) (nI l) τ := by
        intro r r1 r0
        refine win ⟨fun y => absurd y q, fun _ => ⟨fun _ => ?_, fun y => absurd y q2⟩⟩
        refine sp_kindOf (by omega) ov pv'.2.2 (fun t1 g1 _ => sp_kindOf (by omega) (ofV_s6 ou g1) pu.2.2 (fun t2 g2 _ => ?_))
        have G := s6_tr g1 g2
        have IT : Inv σ t2 := Inv_keep hI cKeep_rf (s6_keep G)
        rw [nI_eq (show kd v < 2 ^ 31 by omega) (show kd u < 2 ^ 31 by omega)]
        refine ⟨fun ke => ⟨fun y => ?_, fun y => ?_⟩, fun ke => ⟨r0 (fun z => ke z.1), IT⟩⟩
        · have k0 : kd v ≠ 0 := fun z => y (by rw [z]; rfl)
          refine sp_sameF (by omega) (by omega) (ofV_s6 ov G) (ofV_s6 ou G) pv' pu k0 (by omega) (fun al t3 g3 => ⟨r1 ⟨ke, Or.inr ⟨k0, al⟩⟩, Inv_keep IT cKeep_rf (mch_keep g3 (by unfold scS; omega))⟩) (fun ⟨p, hp, hn⟩ t3 g3 => ⟨r0 (fun z => ?_), Inv_keep IT cKeep_rf (mch_keep g3 (by unfold scS; omega))⟩)
          rcases z.2 with z2 | z2
          · exact k0 z2.1
          · exact hn (z2.2 p hp)
        · have k0 : kd v = 0 := (nI_eq (b := 0) (by omega) (by decide)).mp y
          refine sp_sameP (by omega) (by omega) (fun al => ⟨r1 ⟨ke, Or.inl ⟨k0, fun i hi => ?_⟩⟩, IT⟩) (fun ⟨k, hk, hn⟩ => ⟨r0 (fun z => ?_), IT⟩)
          · have := al i hi
            rw [(ofV_s6 ov G).1 i hi, (ofV_s6 ou G).1 i hi] at this
            exact (iL_eq (plain_r pv' hi) (plain_r pu hi)).mp this
          · rcases z.2 with z2 | z2
            · exact hn (by rw [(ofV_s6 ov G).1 k hk, (ofV_s6 ou G).1 k hk, z2.2 k hk])
            · exact z2.1 k0
      have eqs : ∀ (w : ¬ (kd v = 0 ∧ kd u = 0)), v_X6_alike (fun u101 σ102 => ((u101 = 0 → w_same (fun r2 τ1 => (0 : Int32) = r2 ∧ Inv σ102 τ1) (nI j) (nI l) τ) ∧ (¬ u101 = 0 → w_same (fun r2 τ1 => (1 : Int32) = r2 ∧ Inv σ102 τ1) (nI j) (nI l) τ))) (19 + 5 * j + 2) (19 + 5 * l + 2) σ := by
        intro w
        refine sp_alike (N := 10) (cLenL (show j < 4 by omega)).2.1 (cLenL (show l < 4 by omega)).2.1 (by decide) (fun al => ⟨fun y => absurd y (by decide), fun _ => fin 1 (fun _ => rfl) (fun z => ?_)⟩) (fun ⟨i, hi, hn⟩ => ⟨fun _ => fin 0 (fun z => ?_) (fun _ => rfl), fun y => absurd rfl y⟩)
        · exfalso
          have al' : ∀ p, p < 10 → eqn v p = eqn u p := fun p hp => by
            have := al p hp
            rw [kv.2.2.2.1 p hp, ku.2.2.2.1 p hp] at this
            exact (iL_eq (ab_r (eqn_ab pv'.1 p)) (ab_r (eqn_ab pu.1 p))).mp this
          have ke := eqn_kd pv' pu al'
          exact z ⟨ke, Or.inr ⟨fun y => w ⟨y, by omega⟩, al'⟩⟩
        · exfalso
          rcases z.2 with z2 | z2
          · exact w ⟨z2.1, by omega⟩
          · exact hn (by rw [kv.2.2.2.1 i hi, ku.2.2.2.1 i hi, z2.2 i hi])
      refine ⟨fun y => eqs (fun z => y (by rw [z.1]; rfl)), fun y => ⟨fun y2 => eqs (fun z => y2 (by rw [z.2]; rfl)), fun y2 => ?_⟩⟩
      have k0 : kd v = 0 := (nI_eq (b := 0) (by omega) (by decide)).mp y
      have k1 : kd u = 0 := (nI_eq (b := 0) (by omega) (by decide)).mp y2
      refine sp_alike (N := 12) (cLenL (show j < 4 by omega)).1 (cLenL (show l < 4 by omega)).1 (by decide) (fun al => ⟨fun y => absurd y (by decide), fun _ => fin 1 (fun _ => rfl) (fun z => ?_)⟩) (fun ⟨i, hi, hn⟩ => ⟨fun _ => fin 0 (fun z => ?_) (fun _ => rfl), fun y => absurd rfl y⟩)
      · exfalso
        refine z ⟨by omega, Or.inl ⟨k0, fun i hi => ?_⟩⟩
        have := al i hi
        rw [kv.1 i hi, ku.1 i hi] at this
        exact (iL_eq (plain_r pv' hi) (plain_r pu hi)).mp this
      · exfalso
        rcases z.2 with z2 | z2
        · exact hn (by rw [kv.1 i hi, ku.1 i hi, z2.2 i hi])
        · exact z2.1 k0
    · exact isLineC_f a1 ⟨fun q => absurd rfl q, fun _ => bad (Or.inr a1)⟩
  · exact isLineC_f a0 ⟨fun _ => bad (Or.inl a0), fun q => absurd rfl q⟩
