/-! PURE: lies (promise 13) -/
def pwI (x : Int) : Nat → Int
  | 0 => 1
  | n + 1 => pwI x n * x
theorem pwI_ab {x : Int} {A : Nat} (h : ab x A) : ∀ n, ab (pwI x n) (A ^ n) := by
  intro n
  induction n with
  | zero => show ab 1 1; unfold ab; decide
  | succ n ih => exact ab_mul ih h
def liT (e : Nat → Int) (x y z : Int) (i j : Nat) : Int := e (sta (i + j) + j) * pwI x i * pwI y j * pwI z (3 - i - j)
def liI (e : Nat → Int) (x y z : Int) (i : Nat) : Nat → Int
  | 0 => 0
  | j + 1 => liI e x y z i j + liT e x y z i j
def liO (e : Nat → Int) (x y z : Int) : Nat → Int
  | 0 => 0
  | i + 1 => liO e x y z i + liI e x y z i (4 - i)
theorem sta_lt {d j : Nat} (h : d ≤ 3) (hj : j ≤ d) : sta d + j < 10 := by
  rcases (show d = 0 ∨ d = 1 ∨ d = 2 ∨ d = 3 by omega) with rfl | rfl | rfl | rfl
  · show 9 + j < 10; omega
  · show 7 + j < 10; omega
  · show 4 + j < 10; omega
  · show 0 + j < 10; omega
theorem liT_ab {e : Nat → Int} {x y z : Int} (he : ∀ p, p < 10 → ab (e p) 1000000000) (hx : ab x 20) (hy : ab y 20) (hz : ab z 20) {i j : Nat} (h : i + j ≤ 3) : ab (liT e x y z i j) 8000000000000 := by
  have a := pwI_ab hx i
  have b := pwI_ab hy j
  have c := pwI_ab hz (3 - i - j)
  have d := he _ (sta_lt h (show j ≤ i + j by omega))
  have := ab_mul (ab_mul (ab_mul d a) b) c
  refine ab_le this ?_
  rw [Nat.mul_assoc, Nat.mul_assoc, ← Nat.pow_add, ← Nat.pow_add, show i + (j + (3 - i - j)) = 3 by omega]
  decide
theorem liO_ab {e : Nat → Int} {x y z : Int} (he : ∀ p, p < 10 → ab (e p) 1000000000) (hx : ab x 20) (hy : ab y 20) (hz : ab z 20) : ab (liO e x y z 4) 80000000000000 := by
  have t : ∀ i j, i + j ≤ 3 → ab (liT e x y z i j) 8000000000000 := fun i j h => liT_ab he hx hy hz h
  have i0 : ab (liI e x y z 0 4) 32000000000000 := ab_le (ab_add (ab_add (ab_add (ab_add (ab_0 (A := 0)) (t 0 0 (by decide))) (t 0 1 (by decide))) (t 0 2 (by decide))) (t 0 3 (by decide))) (by decide)
  have i1 : ab (liI e x y z 1 3) 24000000000000 := ab_le (ab_add (ab_add (ab_add (ab_0 (A := 0)) (t 1 0 (by decide))) (t 1 1 (by decide))) (t 1 2 (by decide))) (by decide)
  have i2 : ab (liI e x y z 2 2) 16000000000000 := ab_le (ab_add (ab_add (ab_0 (A := 0)) (t 2 0 (by decide))) (t 2 1 (by decide))) (by decide)
  have i3 : ab (liI e x y z 3 1) 8000000000000 := ab_le (ab_add (ab_0 (A := 0)) (t 3 0 (by decide))) (by decide)
  exact ab_le (ab_add (ab_add (ab_add (ab_add (ab_0 (A := 0)) i0) i1) i2) i3) (by decide)
theorem sp_power {Q : Int64 → cS → Prop} {x : Int} {m : Nat} {σ : cS} (hm : m < 900) (h : Q (iL (pwI x m)) σ) : v_X0_power Q (iL x) (nI m) σ := by
  unfold v_X0_power
  rw [show v_X0_power_5 Q fuL (iL x) (nI m) (1 : Int64) 0 σ = (fun n c (s : Int64) => v_X0_power_5 Q n (iL x) (nI m) s c σ) fuL 0 1 from rfl]
  refine loopU (N := m) (F := fun n c (s : Int64) => v_X0_power_5 Q n (iL x) (nI m) s c σ) (I := fun c s => s = iL (pwI x c)) (by omega) ?_ ?_ 1 rfl
  · intro n c s hc hs go
    subst hs
    show v_X0_power_5 Q (n + 1) (iL x) (nI m) (iL (pwI x c)) (nI c) σ
    unfold v_X0_power_5
    refine ⟨fun q => absurd q (nI_ge hc (by omega)), fun _ => nmB_iff.mpr (nmB_iff.mpr ?_)⟩
    rw [iL_mul, nI_1]
    exact go _ rfl
  · intro n s hs
    subst hs
    show v_X0_power_5 Q (n + 1) (iL x) (nI m) (iL (pwI x m)) (nI m) σ
    unfold v_X0_power_5
    exact ⟨fun _ => h, fun q => absurd (nI_le (Nat.le_refl _) (by omega)) q⟩
theorem nI_sub2 {a b : Nat} (h : b ≤ a) : nI a - nI b = nI (a - b) := by
  have e : nI a = nI (a - b) + nI b := by rw [nI_add]; congr 1; omega
  rw [e]
  apply Int32.toInt_inj.mp
  simp
theorem sp_holdsC {Q : Int32 → cS → Prop} {o : Nat} {σ : cS} {e : Nat → Int} {x y z : Int} (hl : cLen (o + 2) = 10) (he : ∀ p, p < 10 → σ.1 (o + 2) p = iL (e p)) (hb : ∀ p, p < 10 → ab (e p) 1000000000) (hx : ab x 20) (hy : ab y 20) (hz : ab z 20) (h1 : liO e x y z 4 = 0 → Q 1 σ) (h0 : liO e x y z 4 ≠ 0 → Q 0 σ) : v_X0_holds_61 Q o fuL (iL x) (iL y) (iL z) 0 0 σ := by
  rw [show v_X0_holds_61 Q o fuL (iL x) (iL y) (iL z) 0 0 σ = (fun n c (s : Int64) => v_X0_holds_61 Q o n (iL x) (iL y) (iL z) s c σ) fuL 0 0 from rfl]
  refine loopU (N := 4) (F := fun n c (s : Int64) => v_X0_holds_61 Q o n (iL x) (iL y) (iL z) s c σ) (I := fun c s => s = iL (liO e x y z c)) (by decide) ?_ ?_ 0 rfl
  · intro n c s hc hs go
    subst hs
    show v_X0_holds_61 Q o (n + 1) (iL x) (iL y) (iL z) (iL (liO e x y z c)) (nI c) σ
    unfold v_X0_holds_61
    refine ⟨fun q => absurd q (nI_nlt (a := 3) (by omega) (by decide)), fun _ => ?_⟩
    refine loopU (N := 4 - c) (F := fun m k (s : Int64) => v_X0_holds_70 Q o (v_X0_holds_61 Q o n) m (iL x) (iL y) (iL z) s (nI c) k σ) (I := fun k s => s = iL (liO e x y z c + liI e x y z c k)) (by omega) ?_ ?_ (iL (liO e x y z c)) (by show _ = iL (liO e x y z c + 0); rw [Int.add_zero])
    · intro m k s hk hs go2
      subst hs
      show v_X0_holds_70 Q o (v_X0_holds_61 Q o n) (m + 1) (iL x) (iL y) (iL z) (iL (liO e x y z c + liI e x y z c k)) (nI c) (nI k) σ
      unfold v_X0_holds_70
      rw [nI_add]
      refine ⟨fun q => absurd q (nI_nlt (a := 3) (by omega) (by decide)), fun _ => ?_⟩
      refine sp_place (by omega) ⟨by rw [hl]; exact vp_in_nI (sta_lt (by omega) (by omega)) (by decide), ?_⟩
      have hs10 := sta_lt (d := c + k) (j := k) (by omega) (by omega)
      rw [nI_clamp (show sta (c + k) + k < 2 ^ 31 by omega), he _ hs10, show (3 : Int32) = nI 3 from rfl, nI_sub2 (show c ≤ 3 by omega), nI_sub2 (show k ≤ 3 - c by omega), nI_1]
      refine sp_power (by omega) (sp_power (by omega) (sp_power (by omega) (nmB_iff.mpr (nmB_iff.mpr ?_))))
      rw [iL_mul, iL_mul, iL_mul, iL_add]
      refine go2 _ ?_
      show _ = iL (liO e x y z c + (liI e x y z c k + liT e x y z c k))
      rw [← Int.add_assoc]
      rfl
    · intro m s hs
      subst hs
      show v_X0_holds_70 Q o (v_X0_holds_61 Q o n) (m + 1) (iL x) (iL y) (iL z) (iL (liO e x y z c + liI e x y z c (4 - c))) (nI c) (nI (4 - c)) σ
      unfold v_X0_holds_70
      rw [nI_add, show c + (4 - c) = 4 by omega]
      refine ⟨fun _ => nmB_iff.mpr ?_, fun q => absurd (by decide) q⟩
      rw [nI_1]
      exact go _ rfl
  · intro n s hs
    subst hs
    show v_X0_holds_61 Q o (n + 1) (iL x) (iL y) (iL z) (iL (liO e x y z 4)) (nI 4) σ
    unfold v_X0_holds_61 v_X0_holds_147
    rw [iL0 (ab_r (liO_ab hb hx hy hz))]
    exact ⟨fun _ => ⟨fun q => ⟨z_0, h0 q⟩, fun q => ⟨z_1, h1 q⟩⟩, fun q => absurd (by decide) q⟩
/-- the factors of a product, one after another -/
def liF (x y z : Int) (i j k : Nat) : Int := if k < i then x else if k < i + j then y else z
def liP (x y z : Int) (i j : Nat) : Nat → Int
  | 0 => 1
  | k + 1 => liP x y z i j k * liF x y z i j k
theorem liP_3 (x y z : Int) {i j : Nat} (h : i + j ≤ 3) : liP x y z i j 3 = pwI x i * pwI y j * pwI z (3 - i - j) := by
  rcases (show (i = 0 ∧ j = 0) ∨ (i = 0 ∧ j = 1) ∨ (i = 0 ∧ j = 2) ∨ (i = 0 ∧ j = 3) ∨ (i = 1 ∧ j = 0) ∨ (i = 1 ∧ j = 1) ∨ (i = 1 ∧ j = 2) ∨ (i = 2 ∧ j = 0) ∨ (i = 2 ∧ j = 1) ∨ (i = 3 ∧ j = 0) by omega) with ⟨rfl, rfl⟩ | ⟨rfl, rfl⟩ | ⟨rfl, rfl⟩ | ⟨rfl, rfl⟩ | ⟨rfl, rfl⟩ | ⟨rfl, rfl⟩ | ⟨rfl, rfl⟩ | ⟨rfl, rfl⟩ | ⟨rfl, rfl⟩ | ⟨rfl, rfl⟩ <;> simp [liP, liF, pwI] <;> grind
theorem sp_liesM {Q : Int32 → mS → Prop} {τ : mS} {e : Nat → Int} {z1 z2 z3 : Int32} (he : eqM τ e) (hb : ∀ p, p < 10 → ab (e p) 1000000000) (hx : ab z1.toInt 20) (hy : ab z2.toInt 20) (hz : ab z3.toInt 20) (h1 : liO e z1.toInt z2.toInt z3.toInt 4 = 0 → Q 1 τ) (h0 : liO e z1.toInt z2.toInt z3.toInt 4 ≠ 0 → Q 0 τ) : w_lies_149 Q fuL z1 z2 z3 0 0 τ := by
  have X : z1.toInt64 = iL z1.toInt := i32_iL z1
  have Y : z2.toInt64 = iL z2.toInt := i32_iL z2
  have Z : z3.toInt64 = iL z3.toInt := i32_iL z3
  generalize z1.toInt = x at *
  generalize z2.toInt = y at *
  generalize z3.toInt = z at *
  rw [show w_lies_149 Q fuL z1 z2 z3 0 0 τ = (fun n c (s : Int64) => w_lies_149 Q n z1 z2 z3 s c τ) fuL 0 0 from rfl]
  refine loopU (N := 4) (F := fun n c (s : Int64) => w_lies_149 Q n z1 z2 z3 s c τ) (I := fun c s => s = iL (liO e x y z c)) (by decide) ?_ ?_ 0 rfl
  · intro n c s hc hs go
    subst hs
    show w_lies_149 Q (n + 1) z1 z2 z3 (iL (liO e x y z c)) (nI c) τ
    unfold w_lies_149
    refine ⟨fun q => absurd q (nI_ge (b := 4) (by omega) (by decide)), fun _ => ?_⟩
    refine loopU (N := 4 - c) (F := fun m k (s : Int64) => w_lies_158 Q (w_lies_149 Q n) m z1 z2 z3 s (nI c) k τ) (I := fun k s => s = iL (liO e x y z c + liI e x y z c k)) (by omega) ?_ ?_ (iL (liO e x y z c)) (by show _ = iL (liO e x y z c + 0); rw [Int.add_zero])
    · intro m k s hk hs go2
      subst hs
      show w_lies_158 Q (w_lies_149 Q n) (m + 1) z1 z2 z3 (iL (liO e x y z c + liI e x y z c k)) (nI c) (nI k) τ
      unfold w_lies_158
      rw [nI_add]
      refine ⟨fun q => absurd q (nI_ge (b := 4) (by omega) (by decide)), fun _ => ?_⟩
      have hs10 := sta_lt (d := c + k) (j := k) (by omega) (by omega)
      refine sp_placeM (by omega) ⟨vp_in_nI hs10 (by decide), nmB_iff.mpr ?_⟩
      rw [nI_clamp (show sta (c + k) + k < 2 ^ 31 by omega), he _ hs10]
      refine loopU (N := 3) (F := fun q b (s : Int64) => w_lies_184 Q (w_lies_149 Q n) (w_lies_158 Q (w_lies_149 Q n) m) q z1 z2 z3 (iL (liO e x y z c + liI e x y z c k)) (nI c) (nI k) s b τ) (I := fun b s => s = iL (e (sta (c + k) + k) * liP x y z c k b)) (by decide) ?_ ?_ (iL (e (sta (c + k) + k))) (by show _ = iL (e (sta (c + k) + k) * 1); rw [Int.mul_one])
      · intro q b s hb3 hs go3
        subst hs
        show w_lies_184 Q (w_lies_149 Q n) (w_lies_158 Q (w_lies_149 Q n) m) (q + 1) z1 z2 z3 (iL (liO e x y z c + liI e x y z c k)) (nI c) (nI k) (iL (e (sta (c + k) + k) * liP x y z c k b)) (nI b) τ
        unfold w_lies_184 w_lies_222
        rw [X, Y, Z, nI_add, nI_leI (show c < 2 ^ 31 by omega) (show b < 2 ^ 31 by omega), nI_leI (show c + k < 2 ^ 31 by omega) (show b < 2 ^ 31 by omega), nI_1 b]
        refine ⟨fun w => absurd w (nI_ge (b := 3) hb3 (by decide)), fun _ => ⟨fun w1 => ⟨fun w2 => nmB_iff.mpr (nmB_iff.mpr (go3 _ ?_)), fun w2 => nmB_iff.mpr (nmB_iff.mpr (go3 _ ?_))⟩, fun w1 => nmB_iff.mpr (nmB_iff.mpr (go3 _ ?_))⟩⟩
        · show _ = iL (e (sta (c + k) + k) * (liP x y z c k b * liF x y z c k b))
          unfold liF
          rw [if_neg (by omega), if_neg (by omega), iL_mul, Int.mul_assoc]
        · show _ = iL (e (sta (c + k) + k) * (liP x y z c k b * liF x y z c k b))
          unfold liF
          rw [if_neg (by omega), if_pos (by omega), iL_mul, Int.mul_assoc]
        · show _ = iL (e (sta (c + k) + k) * (liP x y z c k b * liF x y z c k b))
          unfold liF
          rw [if_pos (by omega), iL_mul, Int.mul_assoc]
      · intro q s hs
        subst hs
        show w_lies_184 Q (w_lies_149 Q n) (w_lies_158 Q (w_lies_149 Q n) m) (q + 1) z1 z2 z3 (iL (liO e x y z c + liI e x y z c k)) (nI c) (nI k) (iL (e (sta (c + k) + k) * liP x y z c k 3)) (nI 3) τ
        unfold w_lies_184
        refine ⟨fun _ => nmB_iff.mpr (nmB_iff.mpr ?_), fun w => absurd (by decide) w⟩
        rw [iL_add, nI_1]
        refine go2 _ ?_
        show _ = iL (liO e x y z c + (liI e x y z c k + liT e x y z c k))
        rw [liP_3 x y z (show c + k ≤ 3 by omega), ← Int.add_assoc]
        unfold liT
        rw [Int.mul_assoc, Int.mul_assoc, Int.mul_assoc]
    · intro m s hs
      subst hs
      show w_lies_158 Q (w_lies_149 Q n) (m + 1) z1 z2 z3 (iL (liO e x y z c + liI e x y z c (4 - c))) (nI c) (nI (4 - c)) τ
      unfold w_lies_158
      rw [nI_add, show c + (4 - c) = 4 by omega]
      refine ⟨fun _ => nmB_iff.mpr ?_, fun q => absurd (by decide) q⟩
      rw [nI_1]
      exact go _ rfl
  · intro n s hs
    subst hs
    show w_lies_149 Q (n + 1) z1 z2 z3 (iL (liO e x y z 4)) (nI 4) τ
    unfold w_lies_149 w_lies_262
    rw [iL0 (ab_r (liO_ab hb hx hy hz))]
    exact ⟨fun _ => ⟨fun q => h0 q, fun q => h1 q⟩, fun q => absurd (by decide) q⟩
def okLi (z1 z2 z3 : Int32) : Prop := inR z1 (-20) 20 ∧ inR z2 (-20) 20 ∧ inR z3 1 20
theorem liM_in {Q : Int32 → mS → Prop} {z0 z1 z2 z3 : Int32} {τ : mS} (h : okLi z1 z2 z3) (k : w_against (fun u τ' => w_lies_50 Q z0 z1 z2 z3 u τ') z0 τ) : w_lies Q z0 z1 z2 z3 τ := by
  unfold w_lies
  exact iM_t (-20) 20 (by decide) (by decide) h.1 ⟨fun q => absurd q (by decide), fun _ => iM_t (-20) 20 (by decide) (by decide) h.2.1 ⟨fun q => absurd q (by decide), fun _ => iM_t 1 20 (by decide) (by decide) h.2.2 ⟨fun _ => k, fun q => absurd q (by decide)⟩⟩⟩
theorem liM_bad {Q : Int32 → mS → Prop} {z0 z1 z2 z3 : Int32} {τ : mS} (h : ¬ okLi z1 z2 z3) (k : Q (-1) τ) : w_lies Q z0 z1 z2 z3 τ := by
  have e : w_lies_41 Q z0 z1 z2 z3 τ := by
    unfold w_lies_41 w_lies_50
    exact ⟨fun q => absurd q (by decide), fun _ => k⟩
  unfold w_lies
  by_cases a1 : inR z1 (-20) 20
  · refine iM_t (-20) 20 (by decide) (by decide) a1 ⟨fun q => absurd q (by decide), fun _ => ?_⟩
    by_cases a2 : inR z2 (-20) 20
    · exact iM_t (-20) 20 (by decide) (by decide) a2 ⟨fun q => absurd q (by decide), fun _ => iM_f 1 20 (by decide) (by decide) (fun a3 => h ⟨a1, a2, a3⟩) ⟨fun q => absurd rfl q, fun _ => e⟩⟩
    · exact iM_f (-20) 20 (by decide) (by decide) a2 ⟨fun _ => e, fun q => absurd rfl q⟩
  · exact iM_f (-20) 20 (by decide) (by decide) a1 ⟨fun _ => e, fun q => absurd rfl q⟩
theorem eqn_ab {v : Nat → Int} (h : sm9 v) (p : Nat) : ab (eqn v p) 1000000000 := tidyN_ab (eqr_ab h p)
theorem ptE {x z p w : Int} (hx : ab x 20) (hz : ab z 20) (hp : ab p 9) (hw : ab w 9) : (iL p * iL z = iL x * iL w) ↔ p * z = x * w := by
  rw [iL_mul, iL_mul, iL_eq (ab_r (ab_mul hp hz)) (ab_r (ab_mul hx hw))]
theorem liM_main {Q : Int32 → mS → Prop} {j : Nat} {z1 z2 z3 : Int32} {τ : mS} {v : Nat → Int} (hj : j < 4) (hv : ofV τ j v) (hp : plain v) (hx : ab z1.toInt 20) (hy : ab z2.toInt 20) (hz : ab z3.toInt 20)
    (kp : kd v = 0 → ∀ τ', s6 τ τ' → ((¬ (vc v 0 0 * z3.toInt = z1.toInt * vc v 0 2 ∧ vc v 0 1 * z3.toInt = z2.toInt * vc v 0 2) → Q 0 τ') ∧ ((vc v 0 0 * z3.toInt = z1.toInt * vc v 0 2 ∧ vc v 0 1 * z3.toInt = z2.toInt * vc v 0 2) → Q 1 τ')))
    (kq : kd v ≠ 0 → ∀ τ', mch scE τ τ' → ((liO (eqn v) z1.toInt z2.toInt z3.toInt 4 ≠ 0 → Q 0 τ') ∧ (liO (eqn v) z1.toInt z2.toInt z3.toInt 4 = 0 → Q 1 τ'))) : w_lies_50 Q (nI j) z1 z2 z3 0 τ := by
  unfold w_lies_50 w_lies_136 w_lies_137
  have hk3 := kd_le v
  refine ⟨fun _ => ?_, fun q => absurd (by decide) q⟩
  refine sp_kindOf hj hv hp.2.2 (fun τ1 g1 _ => ⟨fun q => ?_, fun q => nmB_iff.mpr ?_⟩)
  · have hk : kd v ≠ 0 := fun z => q (by rw [z]; rfl)
    refine sp_findEqM hj (ofV_s6 hv g1) hp hk (fun τ2 g2 e2 => ?_)
    have G := mch_t (mch_6 (P := scE) g1 (Or.inl rfl)) g2
    exact sp_liesM e2 (fun p _ => eqn_ab hp.1 p) hx hy hz (kq hk τ2 G).2 (kq hk τ2 G).1
  · have hk : kd v = 0 := (nI_eq (b := 0) (by omega) (by decide)).mp q
    obtain ⟨n0, n1⟩ := kp hk τ1 g1
    have e : ∀ w, w < 3 → τ1.1 2 (12 * j + 4 * w) = iL (vc v 0 w) := fun w hw => by rw [g1.1 2 (by decide)]; exact hv.1 (4 * w) (by omega)
    rw [show (12 : Int32) = nI 12 from rfl, show (4 : Int32) = nI (4 * 1) from rfl, show (8 : Int32) = nI (4 * 2) from rfl, pk_mul, nI_add, nI_add, nI_clamp (show 12 * j < 2 ^ 31 by omega), nI_clamp (show 12 * j + 4 * 1 < 2 ^ 31 by omega), nI_clamp (show 12 * j + 4 * 2 < 2 ^ 31 by omega), e 1 (by decide), e 2 (by decide), show 12 * j = 12 * j + 4 * 0 by omega, e 0 (by decide), i32_iL z1, i32_iL z2, i32_iL z3, ptE hx hz (vc_ab hp.1 (by decide) (by decide)) (vc_ab hp.1 (by decide) (by decide)), ptE hy hz (vc_ab hp.1 (by decide) (by decide)) (vc_ab hp.1 (by decide) (by decide))]
    refine ⟨vp_in_nI (by omega) (by decide), vp_in_nI (by omega) (by decide), fun y => n0 (fun w => y w.1), fun y => ⟨vp_in_nI (by omega) (by decide), vp_in_nI (by omega) (by decide), fun y2 => n0 (fun w => y2 w.2), fun y2 => n1 ⟨y, y2⟩⟩⟩
theorem st_lies : ∀ (z0 z1 z2 z3 : Int32) (σ : cS) (τ : mS), Inv σ τ → v_X7_lies (fun r σ1 => w_lies (fun r2 τ1 => r = r2 ∧ Inv σ1 τ1) z0 z1 z2 z3 τ) z0 z1 z2 z3 σ := by
  intro z0 z1 z2 z3 σ τ hI
  unfold v_X7_lies v_X7_lies_33 v_X7_lies_74
  by_cases a1 : inR z1 (-20) 20
  · refine wi_t (-20) 20 (by decide) (by decide) a1 ⟨fun q => absurd q (by decide), fun _ => ?_⟩
    by_cases a2 : inR z2 (-20) 20
    · refine wi_t (-20) 20 (by decide) (by decide) a2 ⟨fun q => absurd q (by decide), fun _ => ?_⟩
      by_cases a3 : inR z3 1 20
      · refine wi_t 1 20 (by decide) (by decide) a3 ⟨fun _ => ?_, fun q => absurd q (by decide)⟩
        have ok : okLi z1 z2 z3 := ⟨a1, a2, a3⟩
        rcases lcases hI z0 with h | ⟨j, hj, rfl, h1, h2⟩ | ⟨j, v, hj, rfl, hV⟩
        · refine mis_b h ⟨fun q => absurd q (by decide), fun _ => liM_in ok (ag_b h ?_)⟩
          unfold w_lies_50
          exact ⟨fun q => absurd q (by decide), fun _ => ⟨rfl, hI⟩⟩
        · refine mis_n hj h1 ⟨fun q => absurd q (by decide), fun _ => liM_in ok (ag_n hj h2 ?_)⟩
          unfold w_lies_50
          exact ⟨fun q => absurd q (by decide), fun _ => ⟨rfl, hI⟩⟩
        · obtain ⟨h1, h2, hp, hm, hk⟩ := id hV
          have hx : ab z1.toInt 20 := inR_ab (b := 20) a1
          have hy : ab z2.toInt 20 := inR_ab (b := 20) a2
          have hz : ab z3.toInt 20 := ab_i.mpr ⟨by have := a3.1; omega, a3.2⟩
          have hk3 := kd_le v
          have hnv := isV_num hj hV
          have I6 : ∀ {τ'}, s6 τ τ' → Inv σ τ' := fun g => Inv_keep hI cKeep_rf (s6_keep g)
          have IE : ∀ {τ'}, mch scE τ τ' → Inv σ τ' := fun g => Inv_keep hI cKeep_rf (mch_keep g (by unfold scE; omega))
          refine mis_y hj h1 ⟨fun _ => ⟨vp_in_nI hj (by decide), nmB_iff.mpr ?_⟩, fun q => absurd rfl q⟩
          rw [nI_clamp (show j < 2 ^ 31 by omega), i32_iL z1, i32_iL z2, i32_iL z3]
          unfold v_X0_holds v_X0_holds_53 v_X0_holds_54
          rw [hk.2.2.1]
          refine ⟨fun q => ?_, fun q => ?_⟩
          · have k0 : kd v ≠ 0 := fun z => q (by rw [z]; rfl)
            refine sp_holdsC (cLenL hj).2.1 (fun p hp' => hk.2.2.2.1 p hp') (fun p _ => eqn_ab hp.1 p) hx hy hz (fun w => ⟨fun y => absurd y (by decide), fun _ => ?_⟩) (fun w => ⟨fun _ => ?_, fun y => absurd rfl y⟩)
            · exact liM_in ok (ag_y hj h2 (liM_main hj (isV_of hV) hp hx hy hz (fun y => absurd y k0) (fun _ τ' g => ⟨fun y => absurd w y, fun _ => ⟨rfl, IE g⟩⟩)))
            · exact liM_in ok (ag_y hj h2 (liM_main hj (isV_of hV) hp hx hy hz (fun y => absurd y k0) (fun _ τ' g => ⟨fun _ => ⟨rfl, IE g⟩, fun y => absurd y w⟩)))
          · have k0 : kd v = 0 := (nI_eq (b := 0) (by omega) (by decide)).mp q
            have no : ¬ (vc v 0 0 * z3.toInt = z1.toInt * vc v 0 2 ∧ vc v 0 1 * z3.toInt = z2.toInt * vc v 0 2) → w_lies (fun r2 τ1 => (0 : Int32) = r2 ∧ Inv σ τ1) (nI j) z1 z2 z3 τ := fun hn => liM_in ok (ag_y hj h2 (liM_main hj (isV_of hV) hp hx hy hz (fun _ τ' g => ⟨fun _ => ⟨rfl, I6 g⟩, fun y => absurd y hn⟩) (fun y => absurd k0 y)))
            refine sp_num (w := 0) (k := 0) hnv (by decide) (by decide) (sp_num (w := 2) (k := 0) hnv (by decide) (by decide) ?_)
            rw [ptE hx hz (vc_ab hp.1 (by decide) (by decide)) (vc_ab hp.1 (by decide) (by decide))]
            refine ⟨fun y => ⟨z_0, fun _ => no (fun w => y w.1), fun w => absurd rfl w⟩, fun y => sp_num (w := 1) (k := 0) hnv (by decide) (by decide) (sp_num (w := 2) (k := 0) hnv (by decide) (by decide) ?_)⟩
            rw [ptE hy hz (vc_ab hp.1 (by decide) (by decide)) (vc_ab hp.1 (by decide) (by decide))]
            refine ⟨fun y2 => ⟨z_0, fun _ => no (fun w => y2 w.2), fun w => absurd rfl w⟩, fun y2 => ⟨z_1, fun w => absurd w (by decide), fun _ => ?_⟩⟩
            exact liM_in ok (ag_y hj h2 (liM_main hj (isV_of hV) hp hx hy hz (fun _ τ' g => ⟨fun w => absurd ⟨y, y2⟩ w, fun _ => ⟨rfl, I6 g⟩⟩) (fun w => absurd k0 w)))
      · exact wi_f 1 20 (by decide) (by decide) a3 ⟨fun q => absurd rfl q, fun _ => liM_bad (fun z => a3 z.2.2) ⟨rfl, hI⟩⟩
    · exact wi_f (-20) 20 (by decide) (by decide) a2 ⟨fun _ => liM_bad (fun z => a2 z.2.1) ⟨rfl, hI⟩, fun q => absurd rfl q⟩
  · exact wi_f (-20) 20 (by decide) (by decide) a1 ⟨fun _ => liM_bad (fun z => a1 z.1) ⟨rfl, hI⟩, fun q => absurd rfl q⟩
