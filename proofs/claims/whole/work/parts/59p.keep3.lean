/-! PURE: keep, whole -/
/-- the remainders of two of the degree 3 are not wide -/
def R33 (N : Nat) (z : Nat → Int) : Prop := ∀ w w', w < 3 → w' < 3 → zw z w 3 ≠ 0 → zw z w' 3 ≠ 0 → ∀ i, i < 4 → ab (cl4 (stp (zw z w) (zw z w') 3 3) i) N
theorem cl_stp {p q : Nat → Int} (hp : ∃ i, i < 4 ∧ p i ≠ 0) (hq : ∃ i, i < 4 ∧ q i ≠ 0) : ∀ i, i < 4 → cl4 (stp (cl4 p) (cl4 q) 3 3) i = cl4 (stp p q 3 3) i := by
  obtain ⟨x, hx, hpx⟩ := hp
  obtain ⟨y, hy, hqy⟩ := hq
  have gp := gcdN_pos hx hpx
  have gq' := gcdN_pos hy hqy
  have ep : ∀ i, i < 4 → p i = (gcdN p 4 : Int) * cl4 p i := fun i hi => (Int.mul_tdiv_cancel' (gcdN_dvd (z := p) hi)).symm
  have eq : ∀ i, i < 4 → q i = (gcdN q 4 : Int) * cl4 q i := fun i hi => (Int.mul_tdiv_cancel' (gcdN_dvd (z := q) hi)).symm
  have es : ∀ i, i < 4 → stp p q 3 3 i = ((gcdN p 4 * gcdN q 4 : Nat) : Int) * stp (cl4 p) (cl4 q) 3 3 i := by
    intro i hi
    unfold stp
    rw [if_pos (by omega), if_pos (by omega), show i - (3 - 3) = i by omega, ep i hi, eq 3 (by decide), ep 3 (by decide), eq i hi, Int.natCast_mul]
    grind
  intro i hi
  have e2 := gcdN_congr es
  rw [gcdN_mul, Int.natAbs_natCast] at e2
  show (stp (cl4 p) (cl4 q) 3 3 i).tdiv (gcdN (stp (cl4 p) (cl4 q) 3 3) 4) = (stp p q 3 3 i).tdiv (gcdN (stp p q 3 3) 4)
  rw [es i hi, e2]
  rcases Nat.eq_zero_or_pos (gcdN (stp (cl4 p) (cl4 q) 3 3) 4) with z | z
  · rw [gcdN_zero z i hi]; simp
  · have hc : ((gcdN p 4 * gcdN q 4 : Nat) : Int) ≠ 0 := by
      have := Nat.mul_pos gp gq'
      omega
    have := tdiv_mul_sgn (a := ((gcdN p 4 * gcdN q 4 : Nat) : Int)) (x := stp (cl4 p) (cl4 q) 3 3 i) (g := gcdN (stp (cl4 p) (cl4 q) 3 3) 4) hc z (gcdN_dvd hi)
    rw [Int.natAbs_natCast] at this
    rw [this, Int.sign_eq_one_of_pos (by have := Nat.mul_pos gp gq'; omega), Int.one_mul]
theorem stp_congr {a a' b b' : Nat → Int} {hi lo : Nat} (hh : hi < 4) (hl : lo < 4) (ha : ∀ i, i < 4 → a i = a' i) (hb : ∀ i, i < 4 → b i = b' i) : ∀ k, k < 4 → stp a b hi lo k = stp a' b' hi lo k := by
  intro k hk
  unfold stp
  rw [ha k hk, hb lo hl, ha hi hh]
  split
  · rw [hb _ (by omega)]
  · rfl
theorem cl_congr {a b : Nat → Int} (h : ∀ i, i < 4 → a i = b i) : ∀ i, i < 4 → cl4 a i = cl4 b i := by
  intro i hi
  unfold cl4
  rw [gcdN_congr h, h i hi]
theorem sp_keep {Q : Int32 → mS → Prop} {j : Nat} {σ : mS} {z : Nat → Int} {M N : Nat} (hok : okB M N) (hj : j < 4) (hz : ∀ i, i < 12 → σ.1 3 i = iL (z i)) (hb : ∀ i, i < 12 → ab (z i) M) (hR : R33 N z) (no : (∀ k, k < 4 → z (8 + k) = 0) → Q (-2) σ) (yes : ¬ (∀ k, k < 4 → z (8 + k) = 0) → ∀ v, isPl z v → ((∀ i, i < 12 → ab (v i) 9) → ∀ τ' : mS, (∀ i, i < 12 → τ'.1 2 (12 * j + i) = iL (v i)) → (∀ i, (i < 12 * j ∨ 12 * j + 12 ≤ i) → τ'.1 2 i = σ.1 2 i) → τ'.2 = (mUI σ 1 j 1).2 → Q (nI (kd v)) τ') ∧ (¬ (∀ i, i < 12 → ab (v i) 9) → ∀ τ' : mS, τ'.1 2 = σ.1 2 → τ'.2 = σ.2 → Q (-2) τ')) : w_keep Q (nI j) σ := by
  obtain ⟨k1, k2, k3, k4, k5⟩ := id hok
  have hb5 : ∀ i, i < 12 → ab (z i) 13500 := fun i hi => ab_le (hb i hi) k1
  have rz : ∀ i, i < 12 → r63 (z i) := fun i hi => ab_r (hb5 i hi)
  have zr : ∀ {s : mS}, s.1 3 = σ.1 3 → ∀ w, w < 3 → ∀ i, i < 4 → s.1 3 (4 * w + i) = iL (zw z w i) ∧ r63 (zw z w i) := fun e w hw i hi => by rw [e]; exact ⟨hz _ (by omega), rz _ (by omega)⟩
  unfold w_keep
  refine sp_dM (a := 8) (p := zw z 2) (by decide) (by decide) (fun i hi => zr rfl 2 (by decide) i hi) ?_
  have m := mzI (mz_4 (zw z 2)) (mz_4 (zw z 2))
  rw [m.2.1]
  refine ⟨fun hW0 => ?_, fun hW0 => ?_⟩
  · have hW3 := mz_nz (a := zw z 2) (by omega)
    have hW : ¬ (∀ k, k < 4 → z (8 + k) = 0) := fun w => by
      obtain ⟨i, hi, hn⟩ := hW3
      exact hn (w i hi)
    refine loopU (N := 4) (F := fun n c s => w_keep_17 Q n (nI j) c s) (I := fun c s => mch s45 σ s ∧ ∀ i, i < c → s.1 4 i = iL (zw z 0 i) ∧ s.1 5 i = iL (zw z 1 i)) (by decide) ?_ ?_ σ ⟨mch_rf, fun i hi => by omega⟩
    · intro n c s hc ⟨g, a⟩ nx
      show w_keep_17 Q (n + 1) (nI j) (nI c) s
      unfold w_keep_17
      have e3 : s.1 3 = σ.1 3 := g.1 3 (by unfold s45; omega)
      rw [show (4 : Int32) = nI 4 from rfl, nI_add, nI_clamp (show c < 2 ^ 31 by omega), nI_clamp (show 4 + c < 2 ^ 31 by omega), nI_1]
      refine ⟨fun q => absurd q (nI_ge hc (by decide)), fun _ => ⟨vp_in_nI (by omega) (by decide), vp_in_nI hc (by decide), nmB_iff.mpr ⟨vp_in_nI (by omega) (by decide), vp_in_nI hc (by decide), nmB_iff.mpr (nmB_iff.mpr (nx _ ⟨mch_t g (mch_t (mch_J (Or.inl rfl)) (mch_J (Or.inr rfl))), fun i hi => ?_⟩))⟩⟩⟩
      rw [mUJ_ne (show (4 : Nat) ≠ 5 by decide), mUJ_at, mUJ_at, mUJ_ne (show (5 : Nat) ≠ 4 by decide), mUJ_ne (show (3 : Nat) ≠ 4 by decide), e3]
      rcases Nat.lt_or_ge i c with q | q
      · rw [updL_ne (by omega), updL_ne (by omega)]; exact a i q
      · rw [show i = c by omega, updL_at, updL_at]
        refine ⟨?_, hz (4 + c) (by omega)⟩
        show _ = iL (z (4 * 0 + c))
        rw [show 4 * 0 + c = c by omega]
        exact hz c (by omega)
    · intro n s ⟨g, a⟩
      show w_keep_17 Q (n + 1) (nI j) (nI 4) s
      unfold w_keep_17
      refine ⟨fun _ => ?_, fun q => absurd (by decide) q⟩
      have bw : ∀ w, w < 3 → ∀ i, i < 4 → ab (zw z w i) M := fun w hw i hi => hb _ (by omega)
      have fw : ∀ w, w < 3 → fcB M N (zw z w) := fun w hw => ⟨fun _ => bw w hw, fun i hi => ab_le (bw w hw i hi) k3⟩
      have rww : ∀ w, w < 3 → ∀ i, i < 4 → r63 (zw z w i) := fun w hw i hi => rz _ (by omega)
      refine sp_findCommon hok (p := zw z 0) (q := zw z 1) (fun i hi => ⟨(a i hi).1, rww 0 (by decide) i hi⟩) (fun i hi => ⟨(a i hi).2, rww 1 (by decide) i hi⟩) (fw 0 (by decide)) (fw 1 (by decide)) (fun h1 h2 i hi => ?_) (fun s1 g1 c1 r1 cd1 pz1 fb1 o1 => ?_)
      · rw [cl_stp ⟨3, by decide, h1⟩ ⟨3, by decide, h2⟩ i hi]
        exact hR 0 1 (by decide) (by decide) h1 h2 i hi
      have G1 := mch_t g c1
      refine loopU (N := 4) (F := fun n c t => w_keep_60 Q n (nI j) c t) (I := fun c t => mch (fun x => x = 5) s1 t ∧ ∀ i, i < c → t.1 5 i = iL (zw z 2 i)) (by decide) ?_ ?_ s1 ⟨mch_rf, fun i hi => by omega⟩
      · intro n c t hc ⟨gt, at'⟩ nx
        show w_keep_60 Q (n + 1) (nI j) (nI c) t
        unfold w_keep_60
        have e3 : t.1 3 = σ.1 3 := by rw [gt.1 3 (by decide), G1.1 3 (by unfold s45; omega)]
        rw [show (8 : Int32) = nI 8 from rfl, nI_add, nI_clamp (show c < 2 ^ 31 by omega), nI_clamp (show 8 + c < 2 ^ 31 by omega), nI_1, e3, hz (8 + c) (by omega)]
        refine ⟨fun q => absurd q (nI_ge (b := 4) hc (by decide)), fun _ => ⟨vp_in_nI (by omega) (by decide), vp_in_nI hc (by decide), nmB_iff.mpr (nmB_iff.mpr (nx _ ⟨mch_t gt (mch_J rfl), fun i hi => ?_⟩))⟩⟩
        rw [mUJ_at]
        rcases Nat.lt_or_ge i c with q | q
        · rw [updL_ne (by omega)]; exact at' i q
        · rw [show i = c by omega, updL_at]; rfl
      · intro n t ⟨gt, at'⟩
        show w_keep_60 Q (n + 1) (nI j) (nI 4) t
        unfold w_keep_60
        refine ⟨fun _ => ?_, fun q => absurd (by decide) q⟩
        have Gt : mch s45 σ t := mch_t G1 (mch_w gt (fun x hx => Or.inr hx))
        refine sp_findCommon hok (p := g1) (q := zw z 2) (rw4_ch r1 gt (by decide)) (fun i hi => ⟨at' i hi, rww 2 (by decide) i hi⟩) fb1 (fw 2 (by decide)) (fun h1 h2 i hi => ?_) (fun s2 G c2 r2 cd2 pz2 fb2 _ => ?_)
        · have hm4 : mz4 g1 = 4 := by unfold mz4; rw [if_pos h1]
          have key : ∀ w, w < 3 → g1 = cl4 (zw z w) → ab (cl4 (stp (cl4 g1) (cl4 (zw z 2)) 3 3) i) N := by
            intro w hw e
            have h1' : zw z w 3 ≠ 0 := fun q => h1 (by rw [e]; exact (cl_z _ (by decide)).mpr q)
            have e1 : cl4 (stp (cl4 g1) (cl4 (zw z 2)) 3 3) i = cl4 (stp (cl4 (zw z w)) (cl4 (zw z 2)) 3 3) i := cl_congr (stp_congr (by decide) (by decide) (fun x hx => by rw [cl_prim pz1 x hx, e]) (fun _ _ => rfl)) i hi
            rw [e1, cl_stp ⟨3, by decide, h1'⟩ ⟨3, by decide, h2⟩ i hi]
            exact hR w 2 hw (by decide) h1' h2 i hi
          rcases o1 hm4 with e | e
          · exact key 0 (by decide) e
          · exact key 1 (by decide) e
        have G2 := mch_t Gt c2
        have e3 : s2.1 3 = σ.1 3 := G2.1 3 (by unfold s45; omega)
        have cd : ∀ k, isP k → (CDm z 3 k ↔ dvP k (e4 G)) := by
          intro k hk
          rw [← cd2 k hk, ← cd1 k hk]
          constructor
          · intro y; exact ⟨⟨y 0 (by decide), y 1 (by decide)⟩, y 2 (by decide)⟩
          · intro ⟨⟨y0, y1⟩, y2⟩ w hw
            rcases (show w = 0 ∨ w = 1 ∨ w = 2 by omega) with rfl | rfl | rfl
            · exact y0
            · exact y1
            · exact y2
        have hprim : gcdN G 4 = 1 := by
          refine pz2.resolve_right (fun q => ?_)
          have c0' : CDm z 3 (fun _ => 0) := (cd _ (isP_c 0)).mpr (dv_congr (dv_zero _) (fun t => (z_e4 q t).symm))
          obtain ⟨m', q', hm', _, e'⟩ := c0' 2 (by decide)
          obtain ⟨i, hi, hzi⟩ := hW3
          obtain ⟨T, hT⟩ := e4_big hi hzi
          have e1 := e' (T + 1)
          rw [Int.zero_mul] at e1
          exact mul3_nz hm' (hT _ (by omega)) e1
        have dG := (cd _ (isP_e4 G)).mpr (dv_refl _)
        obtain ⟨q0, hq0⟩ := quot4 hprim (dG 0 (by decide))
        obtain ⟨q1, hq1⟩ := quot4 hprim (dG 1 (by decide))
        obtain ⟨q2, hq2⟩ := quot4 hprim (dG 2 (by decide))
        obtain ⟨lo, hlo, hmz, hG0, hGz⟩ : ∃ lo, lo < 4 ∧ mz4 G = lo + 1 ∧ G lo ≠ 0 ∧ ∀ k, lo < k → k < 4 → G k = 0 := by
          rcases mz_facts G with ⟨_, a⟩ | ⟨a, b, c, d⟩
          · obtain ⟨i, hi, hn⟩ := prim_nz hprim
            exact absurd (a i hi) hn
          · exact ⟨mz4 G - 1, by omega, by omega, c, fun k k1 k2 => d k (by omega) k2⟩
        have D0 := dvs_of hlo hG0 hGz hq0
        have D1 := dvs_of hlo hG0 hGz hq1
        have D2 := dvs_of hlo hG0 hGz hq2
        have gN : ∀ i, i < 4 → ab (G i) 18000000 := fun i hi => ab_le (fb2.2 i hi) k2
        have hg1 : lo = 1 → ∀ i, i < 4 → ab (G i) 13500 := fun q => by
          have hl : lin1 G := mz_lin (by omega)
          exact lin_bound hprim hl (dG 2 (by decide)) hW3 (fun i hi => hb5 _ (by omega))
        have b5 : ∀ w, w < 3 → ∀ i, i < 4 → ab (zw z w i) 13500 := fun w hw i hi => hb5 _ (by omega)
        have bq : ∀ {p q : Nat → Int}, dvs p G q lo → (∀ i, i < 4 → ab (p i) 13500) → ∀ c, c + lo < 4 → ab (G lo * q c) 10000000000000 := fun D hp' c hc => dvs_ab2 D hp' gN hg1 hc
        have rq : ∀ {p q : Nat → Int}, dvs p G q lo → (∀ i, i < 4 → ab (p i) 13500) → ∀ c, c < 4 → ab (q c) 10000000000000 := by
          intro p q D hp' c hc
          rcases Nat.lt_or_ge (c + lo) 4 with w | w
          · exact q_le hG0 (bq D hp' c w)
          · rw [D.2.2.2.2 c (by omega) hc]; exact ab_0
        unfold w_divideMade
        refine rw4_d rfl r2 ?_
        rw [hmz, show iI (((lo + 1 : Nat) : Int) - 1) = nI lo by rw [iI_nat]; congr 1; omega]
        have zrow : ∀ w k, w < 3 → k < 4 → s2.1 3 (4 * w + k) = iL (zw z w k) := fun w k hw hk => (zr e3 w hw k hk).1
        refine sp_divM1 (n := 999) (w := 0) (by decide) r2 D0 (fun k hk => zrow 0 k (by decide) hk) (fun c hc => ab_r (bq D0 (b5 0 (by decide)) c hc)) (fun s3 g3 a3 o3 => ?_)
        have r3 := rw4_ch r2 g3 (by decide)
        refine sp_divM1 (n := 998) (w := 1) (by decide) r3 D1 (fun k hk => by rw [o3 _ (by omega)]; exact zrow 1 k (by decide) hk) (fun c hc => ab_r (bq D1 (b5 1 (by decide)) c hc)) (fun s4 g4 a4 o4 => ?_)
        have r4 := rw4_ch r3 g4 (by decide)
        refine sp_divM1 (n := 997) (w := 2) (by decide) r4 D2 (fun k hk => by rw [o4 _ (by omega), o3 _ (by omega)]; exact zrow 2 k (by decide) hk) (fun c hc => ab_r (bq D2 (b5 2 (by decide)) c hc)) (fun s5 g5 a5 o5 => ?_)
        unfold w_divideMade_11
        refine ⟨fun _ => ?_, fun q => absurd (by decide) q⟩
        have urow : ∀ i, i < 12 → s5.1 3 i = iL (if i < 4 then q0 i else if i < 8 then q1 (i - 4) else q2 (i - 8)) ∧ r63 (if i < 4 then q0 i else if i < 8 then q1 (i - 4) else q2 (i - 8)) := by
          intro i hi
          rcases (show i < 4 ∨ (4 ≤ i ∧ i < 8) ∨ 8 ≤ i by omega) with w | w | w
          · rw [if_pos w]
            refine ⟨?_, ab_r (rq D0 (b5 0 (by decide)) i w)⟩
            rw [o5 i (by omega), o4 i (by omega)]
            have := a3 i w
            rwa [show 4 * 0 + i = i by omega] at this
          · rw [if_neg (by omega), if_pos (by omega)]
            refine ⟨?_, ab_r (rq D1 (b5 1 (by decide)) _ (by omega))⟩
            rw [o5 i (by omega)]
            have := a4 (i - 4) (by omega)
            rwa [show 4 * 1 + (i - 4) = i by omega] at this
          · rw [if_neg (by omega), if_neg (by omega)]
            refine ⟨?_, ab_r (rq D2 (b5 2 (by decide)) _ (by omega))⟩
            have := a5 (i - 8) (by omega)
            rwa [show 4 * 2 + (i - 8) = i by omega] at this
        have uq : ∀ w, w < 3 → ∀ t, e4 (zw z w) t = e4 G t * e4 (zw (fun i => if i < 4 then q0 i else if i < 8 then q1 (i - 4) else q2 (i - 8)) w) t := by
          intro w hw t
          rcases (show w = 0 ∨ w = 1 ∨ w = 2 by omega) with rfl | rfl | rfl
          · exact hq0 t
          · exact hq1 t
          · exact hq2 t
        revert urow uq
        generalize hu : (fun i => if i < 4 then q0 i else if i < 8 then q1 (i - 4) else q2 (i - 8)) = u
        intro urow uq
        have urow' : ∀ i, i < 12 → s5.1 3 i = iL (u i) ∧ r63 (u i) := fun i hi => by
          have := urow i hi
          rw [← hu]
          exact this
        have G5 : mch (fun a => a = 3 ∨ a = 4 ∨ a = 5) σ s5 := mch_t (mch_w G2 (fun x hx => by unfold s45 at hx; omega)) (mch_t (mch_w g3 (fun x hx => by omega)) (mch_t (mch_w g4 (fun x hx => by omega)) (mch_w g5 (fun x hx => by omega))))
        refine sp_keepT hj urow' ?_ (fun t' t8 t12 hut hzt' => ?_)
        · refine Classical.byContradiction (fun q => ?_)
          have z0 : ∀ k, k < 4 → zw u 2 k = 0 := fun k hk => Classical.byContradiction (fun w => q ⟨k, hk, w⟩)
          obtain ⟨i, hi, hzi⟩ := hW3
          obtain ⟨T, hT⟩ := e4_big hi hzi
          refine hT (T + 1) (by omega) ?_
          rw [uq 2 (by decide), z_e4 z0, Int.mul_zero]
        · obtain ⟨c, hc, ec, gc, pc⟩ := tidy_sc t12 hut
          have pl : isPl z (tidyN u 12 t') := by
            refine ⟨G, c, hprim, hc, fun k hk hd => (cd k hk).mp hd, fun w hw t => ?_, gc, t', t8, t12, pc, fun i i1 i2 => ?_⟩
            · rw [uq w hw t, e4_cm (p := zw u w) (q := zw (tidyN u 12 t') w) (c := c) (fun k hk => ec _ (by omega))]
              grind
            · have := ec i i2
              rw [hzt' i i1 i2] at this
              exact (Int.mul_eq_zero.mp this.symm).resolve_left hc
          obtain ⟨Y1, Y0⟩ := yes hW _ pl
          refine ⟨fun h9 τ' b1 b2 b3 b4 => ?_, fun h9 τ' g' => Y0 h9 τ' ?_ ?_⟩
          · have hpl := plain_of pl h9
            have e2 : s5.1 2 = σ.1 2 := G5.1 2 (by decide)
            refine sp_kindOf hj ⟨b2, hpl.1⟩ hpl.2.2 (fun τ2 g6 _ => Y1 h9 τ2 (fun i hi => by rw [g6.1 2 (by decide)]; exact b2 i hi) (fun i hi => by rw [g6.1 2 (by decide), b3 i hi, e2]) ?_)
            rw [g6.2, b4]
            unfold mUI
            rw [G5.2]
          · rw [g'.1 2 (by decide), G5.1 2 (by decide)]
          · rw [g'.2, G5.2]
  · refine no (fun k hk => ?_)
    rcases mz_facts (zw z 2) with ⟨_, a⟩ | ⟨a, _⟩
    · exact a k hk
    · omega
