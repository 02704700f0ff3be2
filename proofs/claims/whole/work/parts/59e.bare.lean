/-! PURE: the reference's determinant by elimination -/
/-- a loop that counts from a up to N -/
theorem loopA {S : Type} {F : Nat → Int32 → S → Prop} {I : Nat → S → Prop} {a N : Nat} (ha : a ≤ N) (hN : N < 999) (step : ∀ n c s, a ≤ c → c < N → I c s → (∀ s', I (c + 1) s' → F n (nI (c + 1)) s') → F (n + 1) (nI c) s) (fin : ∀ n s, I N s → F (n + 1) (nI N) s) : ∀ s, I a s → F fuL (nI a) s := by
  have key : ∀ (d c n : Nat) (s : S), c + d = N → a ≤ c → d < n → I c s → F n (nI c) s := by
    intro d
    induction d with
    | zero =>
      intro c n s hc hac hn hI
      obtain ⟨n, rfl⟩ : ∃ m, n = m + 1 := ⟨n - 1, by omega⟩
      have : c = N := by omega
      subst this
      exact fin n s hI
    | succ d ih =>
      intro c n s hc hac hn hI
      obtain ⟨n, rfl⟩ : ∃ m, n = m + 1 := ⟨n - 1, by omega⟩
      exact step n c s hac (by omega) hI (fun s' h' => ih (c + 1) n s' (by omega) (by omega) (by omega) h')
  intro s hs
  exact key (N - a) a fuL s (by omega) (by omega) (by unfold fuL; omega) hs
/-- the row 12 (work) as a table of five by five -/
def wkM (σ : mS) (A : Nat → Nat → Int) : Prop := ∀ r c, r < 5 → c < 5 → σ.1 12 (5 * r + c) = iL (A r c)
def tbM (σ : mS) (v : Nat → Int) : Prop := ∀ r c, r < 5 → c < 6 → σ.1 11 (6 * r + c) = iL (tbl v r c)
/-- the determinant of a table out of which a column is left -/
theorem sp_wcopy {Q : Int64 → mS → Prop} {col : Nat} {σ : mS} {v : Nat → Int} (hcol : col < 6) (ht : tbM σ v) (h : ∀ σ', mch (fun a => a = 12) σ σ' → wkM σ' (mtx v col) → w_without_70 Q fuL 1 1 0 σ') : w_without Q (nI col) σ := by
  unfold w_without
  refine loopU (N := 5) (F := fun n r s => w_without_2 Q n (nI col) r s) (I := fun r s => mch (fun a => a = 12) σ s ∧ ∀ i j, i < r → j < 5 → s.1 12 (5 * i + j) = iL (mtx v col i j)) (by decide) ?_ ?_ σ ⟨mch_rf, fun i j hi => by omega⟩
  · intro n r s hr ⟨g, z⟩ go
    show w_without_2 Q (n + 1) (nI col) (nI r) s
    unfold w_without_2
    refine ⟨fun q => absurd q (nI_ge (b := 5) hr (by decide)), fun _ => ?_⟩
    rw [show w_without_12 Q (w_without_2 Q n) fuL (nI col) (nI r) 0 0 s = (fun m c (t : Int32 × mS) => w_without_12 Q (w_without_2 Q n) m (nI col) (nI r) t.1 c t.2) fuL 0 (0, s) from rfl]
    refine loopU (N := 6) (F := fun m c (t : Int32 × mS) => w_without_12 Q (w_without_2 Q n) m (nI col) (nI r) t.1 c t.2) (I := fun c t => t.1 = nI (if c ≤ col then c else c - 1) ∧ mch (fun a => a = 12) σ t.2 ∧ (∀ i j, i < r → j < 5 → t.2.1 12 (5 * i + j) = iL (mtx v col i j)) ∧ ∀ j, j < (if c ≤ col then c else c - 1) → t.2.1 12 (5 * r + j) = iL (mtx v col r j)) (by decide) ?_ ?_ (0, s) ⟨by rw [if_pos (by omega)]; rfl, g, z, fun j hj => by rw [if_pos (by omega)] at hj; omega⟩
    · intro m c t hc ⟨t1, t2, t3, t4⟩ go2
      obtain ⟨x3, s1⟩ := t
      have t1' : x3 = nI (if c ≤ col then c else c - 1) := t1
      have t2' : mch (fun a => a = 12) σ s1 := t2
      have t3' : ∀ i j, i < r → j < 5 → s1.1 12 (5 * i + j) = iL (mtx v col i j) := t3
      have t4' : ∀ j, j < (if c ≤ col then c else c - 1) → s1.1 12 (5 * r + j) = iL (mtx v col r j) := t4
      clear t1 t2 t3 t4
      show w_without_12 Q (w_without_2 Q n) (m + 1) (nI col) (nI r) x3 (nI c) s1
      unfold w_without_12 w_without_50
      rw [nI_eq (show c < 2 ^ 31 by omega) (show col < 2 ^ 31 by omega), nI_1 c]
      refine ⟨fun q => absurd q (nI_ge (b := 6) hc (by decide)), fun _ => ⟨fun q => nmB_iff.mpr (go2 (_, _) ⟨?_, t2', t3', fun j hj => t4' j ?_⟩), fun q => ?_⟩⟩
      · show x3 = _
        rw [t1']
        subst q
        rw [if_pos (Nat.le_refl _), if_neg (by omega)]
        congr 1
      · subst q
        rw [if_neg (by omega)] at hj
        rw [if_pos (Nat.le_refl _)]
        omega
      · generalize hto : (if c ≤ col then c else c - 1) = to at *
        have hto5 : to < 5 := by
          rw [← hto]
          split <;> omega
        have hmt : (if to < col then to else to + 1) = c := by
          rw [← hto]
          split
          · rename_i y
            rw [if_pos (by omega)]
          · rename_i y
            rw [if_neg (by omega)]
            omega
        subst t1'
        rw [show (6 : Int32) = nI 6 from rfl, show (5 : Int32) = nI 5 from rfl, pk_mul, pk_mul, nI_add, nI_add, nI_clamp (show 6 * r + c < 2 ^ 31 by omega), nI_clamp (show 5 * r + to < 2 ^ 31 by omega), t2'.1 11 (by decide), ht r c hr hc, nI_1]
        refine ⟨vp_in_nI (by omega) (by decide), vp_in_nI (by omega) (by decide), nmB_iff.mpr (nmB_iff.mpr (nmB_iff.mpr (go2 (_, _) ⟨?_, mch_t t2' (mch_J rfl), fun i j hi hj => ?_, fun j hj => ?_⟩)))⟩
        · show nI (to + 1) = _
          congr 1
          rw [← hto]
          split
          · rw [if_pos (by omega)]
          · rw [if_neg (by omega)]; omega
        · show (mUJ s1 12 (5 * r + to) _).1 12 (5 * i + j) = _
          rw [mUJ_at, updL_ne (by omega)]; exact t3' i j hi hj
        · show (mUJ s1 12 (5 * r + to) _).1 12 (5 * r + j) = _
          have hj2 : j < to + 1 := by
            rw [← hto]
            split at hj
            · rw [if_pos (by omega)]; omega
            · split <;> omega
          rw [mUJ_at]
          rcases Nat.lt_or_ge j to with y | y
          · rw [updL_ne (by omega)]; exact t4' j y
          · have : j = to := by omega
            subst this
            rw [updL_at]
            unfold mtx
            rw [hmt]
    · intro m t ⟨t1, t2, t3, t4⟩
      obtain ⟨x3, s1⟩ := t
      show w_without_12 Q (w_without_2 Q n) (m + 1) (nI col) (nI r) x3 (nI 6) s1
      unfold w_without_12
      refine ⟨fun _ => nmB_iff.mpr ?_, fun q => absurd (by decide) q⟩
      rw [nI_1]
      refine go s1 ⟨t2, fun i j hi hj => ?_⟩
      rcases Nat.lt_or_ge i r with y | y
      · exact t3 i j y hj
      · have : i = r := by omega
        subst this
        refine t4 j ?_
        show j < (if 6 ≤ col then 6 else 6 - 1)
        rw [if_neg (by omega)]
        omega
  · intro n s ⟨g, z⟩
    show w_without_2 Q (n + 1) (nI col) (nI 5) s
    unfold w_without_2
    exact ⟨fun _ => h s g (fun r c hr hc => z r c hr hc), fun q => absurd (by decide) q⟩
/-- a step of the elimination on a table -/
def elim (A : Nat → Nat → Int) (k : Nat) (b : Int) : Nat → Nat → Int := fun r c => if k < r ∧ k < c then (A r c * A k k - A r k * A k c).tdiv b else A r c
theorem sp_elim {Q : Int64 → mS → Prop} {r70 : _} {k : Nat} {b s : Int} {σ : mS} {A : Nat → Nat → Int} (hk : k < 4) (hA : wkM σ A) (hr : ∀ r c, k < r → r < 5 → k < c → c < 5 → r63 (A r c * A k k - A r k * A k c)) (hb : r63 b) (hb0 : b ≠ 0) (h : ∀ σ', mch (fun a => a = 12) σ σ' → wkM σ' (elim A k b) → r70 (iL (A k k)) (iL s) (nI (k + 1)) σ') : w_without_206 Q r70 (iL b) (nI k) (iL s) σ := by
  unfold w_without_206
  rw [nI_1]
  refine nmB_iff.mpr ?_
  refine loopA (a := k + 1) (N := 5) (F := fun n r t => w_without_214 Q r70 n (iL b) (iL s) (nI k) r t) (I := fun r t => mch (fun a => a = 12) σ t ∧ wkM t (fun i j => if i < r then elim A k b i j else A i j)) (by omega) (by decide) ?_ ?_ σ ⟨mch_rf, fun i j hi hj => ?_⟩
  · intro n r t hkr hr5 ⟨g, z⟩ go
    show w_without_214 Q r70 (n + 1) (iL b) (iL s) (nI k) (nI r) t
    unfold w_without_214
    refine ⟨fun q => absurd q (nI_ge (b := 5) hr5 (by decide)), fun _ => nmB_iff.mpr ?_⟩
    rw [nI_1]
    refine loopA (a := k + 1) (N := 5) (F := fun m c u => w_without_226 Q r70 (w_without_214 Q r70 n) m (iL b) (iL s) (nI k) (nI r) c u) (I := fun c u => mch (fun a => a = 12) σ u ∧ wkM u (fun i j => if i < r ∨ (i = r ∧ j < c) then elim A k b i j else A i j)) (by omega) (by decide) ?_ ?_ t ⟨g, fun i j hi hj => ?_⟩
    · intro m c u hkc hc5 ⟨g2, z2⟩ go2
      show w_without_226 Q r70 (w_without_214 Q r70 n) (m + 1) (iL b) (iL s) (nI k) (nI r) (nI c) u
      unfold w_without_226
      have erc : u.1 12 (5 * r + c) = iL (A r c) := by
        rw [z2 r c hr5 hc5]; congr 1; exact if_neg (by omega)
      have ekk : u.1 12 (5 * k + k) = iL (A k k) := by
        rw [z2 k k (by omega) (by omega)]; congr 1
        show (if k < r ∨ (k = r ∧ k < c) then elim A k b k k else A k k) = _
        rw [if_pos (by omega)]
        unfold elim
        rw [if_neg (by omega)]
      have erk : u.1 12 (5 * r + k) = iL (A r k) := by
        rw [z2 r k hr5 (by omega)]; congr 1
        show (if r < r ∨ (r = r ∧ k < c) then elim A k b r k else A r k) = _
        rw [if_pos (by omega)]
        unfold elim
        rw [if_neg (by omega)]
      have ekc : u.1 12 (5 * k + c) = iL (A k c) := by
        rw [z2 k c (by omega) hc5]; congr 1
        show (if k < r ∨ (k = r ∧ c < c) then elim A k b k c else A k c) = _
        rw [if_pos (by omega)]
        unfold elim
        rw [if_neg (by omega)]
      rw [show (5 : Int32) = nI 5 from rfl, pk_mul, pk_mul, nI_add, nI_add, nI_add, nI_add, nI_clamp (show 5 * r + c < 2 ^ 31 by omega), nI_clamp (show 5 * k + k < 2 ^ 31 by omega), nI_clamp (show 5 * r + k < 2 ^ 31 by omega), nI_clamp (show 5 * k + c < 2 ^ 31 by omega), erc, ekk, erk, ekc, iL_mul, iL_mul, iL_sub, iL_div (hr r c (by omega) hr5 (by omega) hc5) hb, iL0 hb, nI_1 c]
      have w25 : ∀ x : Nat, x < 25 → vp_in (nI x) 25 := fun x hx => vp_in_nI hx (by decide)
      refine ⟨fun q => absurd q (nI_ge hc5 (by decide)), fun _ => ⟨w25 _ (by omega), w25 _ (by omega), w25 _ (by omega), w25 _ (by omega), hb0, w25 _ (by omega), nmB_iff.mpr (nmB_iff.mpr (go2 _ ⟨mch_t g2 (mch_J rfl), fun i j hi hj => ?_⟩))⟩⟩
      rw [mUJ_at]
      show _ = iL (if i < r ∨ (i = r ∧ j < c + 1) then elim A k b i j else A i j)
      by_cases y : i = r ∧ j = c
      · rw [y.1, y.2, updL_at, if_pos (by omega)]
        unfold elim
        rw [if_pos ⟨by omega, by omega⟩]
      · rw [updL_ne (by omega), z2 i j hi hj]
        congr 1
        show (if i < r ∨ (i = r ∧ j < c) then elim A k b i j else A i j) = _
        by_cases y2 : i < r ∨ (i = r ∧ j < c)
        · rw [if_pos y2, if_pos (by omega)]
        · rw [if_neg y2, if_neg (by omega)]
    · intro m u ⟨g2, z2⟩
      show w_without_226 Q r70 (w_without_214 Q r70 n) (m + 1) (iL b) (iL s) (nI k) (nI r) (nI 5) u
      unfold w_without_226
      refine ⟨fun _ => nmB_iff.mpr ?_, fun q => absurd (by decide) q⟩
      rw [nI_1]
      refine go u ⟨g2, fun i j hi hj => ?_⟩
      rw [z2 i j hi hj]
      congr 1
      show (if i < r ∨ (i = r ∧ j < 5) then elim A k b i j else A i j) = (if i < r + 1 then elim A k b i j else A i j)
      by_cases y : i < r + 1
      · rw [if_pos (by omega), if_pos y]
      · rw [if_neg (by omega), if_neg y]
    · rw [z i j hi hj]
      congr 1
      show (if i < r then elim A k b i j else A i j) = (if i < r ∨ (i = r ∧ j < k + 1) then elim A k b i j else A i j)
      by_cases y : i < r
      · rw [if_pos y, if_pos (by omega)]
      · rw [if_neg y]
        by_cases y2 : i = r ∧ j < k + 1
        · rw [if_pos (by omega)]
          unfold elim
          rw [if_neg (by omega)]
        · rw [if_neg (by omega)]
  · intro n t ⟨g, z⟩
    show w_without_214 Q r70 (n + 1) (iL b) (iL s) (nI k) (nI 5) t
    unfold w_without_214
    refine ⟨fun _ => ?_, fun q => absurd (by decide) q⟩
    have ekk : t.1 12 (5 * k + k) = iL (A k k) := by
      rw [z k k (by omega) (by omega)]; congr 1
      show (if k < 5 then elim A k b k k else A k k) = _
      rw [if_pos (by omega)]
      unfold elim
      rw [if_neg (by omega)]
    rw [show (5 : Int32) = nI 5 from rfl, pk_mul, nI_add, nI_clamp (show 5 * k + k < 2 ^ 31 by omega), ekk, nI_1]
    refine ⟨vp_in_nI (by omega) (by decide), nmB_iff.mpr (nmB_iff.mpr (h t g (fun i j hi hj => ?_)))⟩
    rw [z i j hi hj]
    congr 1
    exact if_pos hi
  · rw [hA i j hi hj]
    congr 1
    show A i j = (if i < k + 1 then elim A k b i j else A i j)
    by_cases y : i < k + 1
    · rw [if_pos y]
      unfold elim
      rw [if_neg (by omega)]
    · rw [if_neg y]
/-- rows exchanged -/
theorem sp_wswap {Q : Int64 → mS → Prop} {r70 : _} {k p : Nat} {b s : Int} {σ : mS} {A : Nat → Nat → Int} (hk : k < 5) (hp : p < 5) (hA : wkM σ A) (h : ∀ σ', mch (fun a => a = 12) σ σ' → wkM σ' (rsw A k p) → w_without_206 Q r70 (iL b) (nI k) (iL (if p = k then s else -s)) σ') : w_without_120 Q r70 fuL (iL b) (iL s) (nI k) (nI p) 0 σ := by
  have fin : ∀ σ', mch (fun a => a = 12) σ σ' → wkM σ' (rsw A k p) → w_without_191 Q r70 (iL b) (iL s) (nI k) (nI p) σ' := by
    intro σ' g z
    unfold w_without_191
    rw [nI_eq (show p < 2 ^ 31 by omega) (show k < 2 ^ 31 by omega), iL_neg]
    have := h σ' g z
    refine ⟨fun q => ?_, fun q => ?_⟩
    · rw [if_pos q] at this; exact this
    · rw [if_neg q] at this; exact this
  by_cases e : p = k
  · subst e
    have same : rsw A p p = A := by
      funext r c
      unfold rsw
      by_cases y : r = p
      · rw [if_pos y, y]
      · rw [if_neg y, if_neg y]
    rw [same] at fin
    unfold w_without_120
    exact ⟨fun _ => fin σ mch_rf hA, fun _ => ⟨fun _ => fin σ mch_rf hA, fun q => absurd rfl q⟩⟩
  · refine loopU (N := 5) (F := fun n c t => w_without_120 Q r70 n (iL b) (iL s) (nI k) (nI p) c t) (I := fun c t => mch (fun a => a = 12) σ t ∧ wkM t (fun i j => if j < c then rsw A k p i j else A i j)) (by decide) ?_ ?_ σ ⟨mch_rf, fun i j hi hj => by rw [hA i j hi hj]; congr 1⟩
    · intro n c t hc ⟨g, z⟩ go
      show w_without_120 Q r70 (n + 1) (iL b) (iL s) (nI k) (nI p) (nI c) t
      unfold w_without_120
      have ep : t.1 12 (5 * p + c) = iL (A p c) := by
        rw [z p c hp hc]; congr 1; exact if_neg (by omega)
      have ek : t.1 12 (5 * k + c) = iL (A k c) := by
        rw [z k c hk hc]; congr 1; exact if_neg (by omega)
      rw [nI_eq (show p < 2 ^ 31 by omega) (show k < 2 ^ 31 by omega), show (5 : Int32) = nI 5 from rfl, pk_mul, pk_mul, nI_add, nI_add, nI_clamp (show 5 * p + c < 2 ^ 31 by omega), nI_clamp (show 5 * k + c < 2 ^ 31 by omega), ep, ek, nI_1 c]
      have w25 : ∀ x : Nat, x < 25 → vp_in (nI x) 25 := fun x hx => vp_in_nI hx (by decide)
      refine ⟨fun q => absurd q (nI_ge hc (by decide)), fun _ => ⟨fun q => absurd q e, fun _ => ⟨w25 _ (by omega), nmB_iff.mpr ⟨w25 _ (by omega), w25 _ (by omega), nmB_iff.mpr ⟨w25 _ (by omega), nmB_iff.mpr (nmB_iff.mpr (go _ ⟨mch_t g (mch_t (mch_J rfl) (mch_J rfl)), fun i j hi hj => ?_⟩))⟩⟩⟩⟩⟩
      rw [mUJ_at, mUJ_at]
      show _ = iL (if j < c + 1 then rsw A k p i j else A i j)
      by_cases y : i = k ∧ j = c
      · rw [y.1, y.2, updL_at, if_pos (by omega)]
        unfold rsw
        rw [if_pos rfl]
      · rw [updL_ne (by omega)]
        by_cases y2 : i = p ∧ j = c
        · rw [y2.1, y2.2, updL_at, if_pos (by omega)]
          unfold rsw
          rw [if_neg e, if_pos rfl]
        · rw [updL_ne (by omega), z i j hi hj]
          congr 1
          show (if j < c then rsw A k p i j else A i j) = _
          by_cases y3 : j < c
          · rw [if_pos y3, if_pos (by omega)]
          · rw [if_neg y3]
            by_cases y4 : j < c + 1
            · rw [if_pos y4]
              unfold rsw
              rw [if_neg (by omega), if_neg (by omega)]
            · rw [if_neg y4]
    · intro n t ⟨g, z⟩
      show w_without_120 Q r70 (n + 1) (iL b) (iL s) (nI k) (nI p) (nI 5) t
      unfold w_without_120
      refine ⟨fun _ => fin t g (fun i j hi hj => ?_), fun q => absurd (by decide) q⟩
      rw [z i j hi hj]
      congr 1
      exact if_pos hj
/-- the search for a pivot -/
theorem sp_pivK {Q : Int64 → mS → Prop} {r70 : _} {k : Nat} {b s : Int} {σ : mS} {A : Nat → Nat → Int} (hk : k < 4) (hA : wkM σ A) (hr : ∀ r, k ≤ r → r < 5 → r63 (A r k)) (h1 : ∀ p, k ≤ p → p < 5 → A p k ≠ 0 → w_without_120 Q r70 fuL (iL b) (iL s) (nI k) (nI p) 0 σ) (h0 : (∀ r, k ≤ r → r < 5 → A r k = 0) → Q 0 σ) : w_without_80 Q r70 fuL (iL b) (iL s) (nI k) (nI k) σ := by
  rw [show w_without_80 Q r70 fuL (iL b) (iL s) (nI k) (nI k) σ = (fun n p (_ : Unit) => w_without_80 Q r70 n (iL b) (iL s) (nI k) p σ) fuL (nI k) () from rfl]
  refine loopA (a := k) (N := 5) (F := fun n p (_ : Unit) => w_without_80 Q r70 n (iL b) (iL s) (nI k) p σ) (I := fun p _ => ∀ r, k ≤ r → r < p → A r k = 0) (by omega) (by decide) ?_ ?_ () (fun r h1 h2 => by omega)
  · intro n p _ hkp hp5 hz go
    show w_without_80 Q r70 (n + 1) (iL b) (iL s) (nI k) (nI p) σ
    unfold w_without_80 w_without_109
    rw [show (5 : Int32) = nI 5 from rfl, pk_mul, nI_add, nI_clamp (show 5 * p + k < 2 ^ 31 by omega), hA p k hp5 (by omega), iL0 (hr p hkp hp5), nI_1]
    refine ⟨fun q => absurd q (nI_ge hp5 (by decide)), fun _ => ⟨vp_in_nI (by omega) (by decide), fun q => ⟨fun _ => h1 p hkp hp5 q, fun y => absurd ((nI_eq (by omega) (by omega)).mp y) (by omega)⟩, fun q => nmB_iff.mpr (go () (fun r y1 y2 => ?_))⟩⟩
    rcases Nat.lt_or_ge r p with y | y
    · exact hz r y1 y
    · rw [show r = p by omega]; exact q
  · intro n _ hz
    show w_without_80 Q r70 (n + 1) (iL b) (iL s) (nI k) (nI 5) σ
    unfold w_without_80 w_without_109
    exact ⟨fun _ => ⟨fun q => absurd rfl q, fun _ => h0 hz⟩, fun q => absurd (by decide) q⟩
/-- where a stage begins -/
def stg (k : Nat) (σ : mS) (x2 x4 : Int64) (D : Int) : Prop := ∃ (A B : Nat → Nat → Int) (s : Int), wkM σ A ∧ (∀ r c, r < 5 → c < 5 → ab (B r c) 9) ∧ (∀ r c, k ≤ r → r < 5 → k ≤ c → c < 5 → A r c = bmk k B r c) ∧ pvs k B ∧ x2 = iL (prv k B) ∧ (s = 1 ∨ s = -1) ∧ x4 = iL s ∧ dt5 B = s * D
theorem prv_nz {k : Nat} {B : Nat → Nat → Int} (h : pvs k B) : prv k B ≠ 0 := by
  cases k with
  | zero => show (1 : Int) ≠ 0; decide
  | succ k => exact h k (by omega)
theorem prv_ab {B : Nat → Nat → Int} (h : ∀ r c, r < 5 → c < 5 → ab (B r c) 9) {k : Nat} (hk : k < 5) : ab (prv k B) 7085880 := by
  cases k with
  | zero => show ab 1 _; unfold ab; decide
  | succ k => exact bmk_ab h (by omega) (by omega) (by omega)
theorem sp_without {Q : Int64 → mS → Prop} {col : Nat} {σ : mS} {v : Nat → Int} (hcol : col < 6) (hs : sm9 v) (ht : tbM σ v) (h : ∀ σ', mch (fun a => a = 12) σ σ' → Q (iL (dt5 (mtx v col))) σ') : w_without Q (nI col) σ := by
  refine sp_wcopy hcol ht (fun σ1 g1 k1 => ?_)
  generalize hD : dt5 (mtx v col) = D at *
  rw [show w_without_70 Q fuL 1 1 0 σ1 = (fun n k (t : Int64 × Int64 × mS) => w_without_70 Q n t.1 t.2.1 k t.2.2) fuL 0 (1, 1, σ1) from rfl]
  refine loopU (N := 4) (F := fun n k (t : Int64 × Int64 × mS) => w_without_70 Q n t.1 t.2.1 k t.2.2) (I := fun k t => mch (fun a => a = 12) σ t.2.2 ∧ stg k t.2.2 t.1 t.2.1 D) (by decide) ?_ ?_ (1, 1, σ1) ⟨g1, mtx v col, mtx v col, 1, k1, mtx_ab hs col, fun r c _ _ _ _ => rfl, fun i hi => by omega, rfl, Or.inl rfl, rfl, by omega⟩
  · intro n k t hk ⟨g, A, B, s, hA, hB, hAB, hpv, hx2, hs1, hx4, hdt⟩ go
    obtain ⟨x2, x4, τ⟩ := t
    have hx2' : x2 = iL (prv k B) := hx2
    have hx4' : x4 = iL s := hx4
    subst hx2' hx4'
    have hA' : wkM τ A := hA
    have g' : mch (fun a => a = 12) σ τ := g
    show w_without_70 Q (n + 1) (iL (prv k B)) (iL s) (nI k) τ
    unfold w_without_70
    refine ⟨fun q => absurd q (nI_ge (b := 4) hk (by decide)), fun _ => ?_⟩
    have bb := fun r c (hr : r < 5) (hc : c < 5) => bmk_ab hB (show k < 5 by omega) hr hc
    -- beyond the stage's own part the numbers' sizes don't matter: take a table that is alike where it counts
    have hA2 : ∀ r, k ≤ r → r < 5 → A r k = bmk k B r k := fun r h1 h2 => hAB r k h1 h2 (Nat.le_refl _) (by omega)
    refine sp_pivK hk hA' (fun r h1 h2 => by rw [hA2 r h1 h2]; exact ab_r (bb r k h2 (by omega))) (fun p hkp hp5 hne => ?_) (fun hz => ?_)
    · refine sp_wswap (by omega) hp5 hA' (fun τ1 g2 hA1 => ?_)
      have hB1 : ∀ r c, r < 5 → c < 5 → ab (rsw B k p r c) 9 := by
        intro r c hr hc
        unfold rsw
        split
        · exact hB p c hp5 hc
        · split
          · exact hB k c (by omega) hc
          · exact hB r c hr hc
      have hAB1 : ∀ r c, k ≤ r → r < 5 → k ≤ c → c < 5 → rsw A k p r c = bmk k (rsw B k p) r c := by
        intro r c h1 h2 h3 h4
        rcases rsw_bmk (B := B) (c := c) hk hkp (Nat.le_refl k) (fun (y : r < k) => y) with y | y
        · rw [y]
          unfold rsw
          split
          · exact hAB p c hkp hp5 h3 h4
          · split
            · exact hAB k c (Nat.le_refl _) (by omega) h3 h4
            · exact hAB r c h1 h2 h3 h4
        · omega
      have hpv1 : pvs k (rsw B k p) := fun i hi => by rw [rsw_low hk hkp hi]; exact hpv i hi
      have hpr : prv k (rsw B k p) = prv k B := rsw_prv hk hkp
      have hkk : bmk k (rsw B k p) k k ≠ 0 := by
        rw [← hAB1 k k (Nat.le_refl _) (by omega) (Nat.le_refl _) (by omega)]
        unfold rsw
        rw [if_pos rfl]
        exact hne
      have bb1 := fun r c (hr : r < 5) (hc : c < 5) => bmk_ab hB1 (show k < 5 by omega) hr hc
      have syl := fun r c (h1 : k < r) (h2 : r < 5) (h3 : k < c) (h4 : c < 5) => sylk hk hpv1 h1 h2 h3 h4
      have num : ∀ r c, k < r → r < 5 → k < c → c < 5 → rsw A k p r c * rsw A k p k k - rsw A k p r k * rsw A k p k c = prv k B * bmk (k + 1) (rsw B k p) r c := by
        intro r c h1 h2 h3 h4
        rw [hAB1 r c (by omega) h2 (by omega) h4, hAB1 k k (Nat.le_refl _) (by omega) (Nat.le_refl _) (by omega), hAB1 r k (by omega) h2 (Nat.le_refl _) (by omega), hAB1 k c (Nat.le_refl _) (by omega) (by omega) h4, syl r c h1 h2 h3 h4, hpr]
      have hb63 : r63 (prv k B) := ab_r (prv_ab hB (by omega))
      refine sp_elim (s := if p = k then s else -s) hk hA1 (fun r c h1 h2 h3 h4 => ?_) hb63 (prv_nz hpv) (fun τ2 g3 hA3 => ?_)
      · rw [num r c h1 h2 h3 h4]
        exact ab_r (ab_mul (prv_ab hB (by omega)) (bmk_ab hB1 (show k + 1 < 5 by omega) h2 h4))
      · refine go (_, _, τ2) ⟨mch_t g' (mch_t g2 g3), elim (rsw A k p) k (prv k B), rsw B k p, (if p = k then s else -s), hA3, hB1, fun r c h1 h2 h3 h4 => ?_, fun i hi => ?_, ?_, ?_, rfl, ?_⟩
        · unfold elim
          rw [if_pos ⟨by omega, by omega⟩, num r c (by omega) h2 (by omega) h4, Int.mul_tdiv_cancel_left _ (prv_nz hpv)]
        · rcases Nat.lt_or_ge i k with y | y
          · exact hpv1 i y
          · rw [show i = k by omega]; exact hkk
        · show iL (rsw A k p k k) = iL (bmk k (rsw B k p) k k)
          rw [hAB1 k k (Nat.le_refl _) (by omega) (Nat.le_refl _) (by omega)]
        · split
          · exact hs1
          · rcases hs1 with y | y
            · exact Or.inr (by rw [y])
            · exact Or.inl (by rw [y]; rfl)
        · by_cases y : p = k
          · rw [if_pos y, ← hdt]
            have : rsw B k p = B := by
              funext r c
              unfold rsw
              rw [y]
              by_cases w : r = k
              · rw [if_pos w, w]
              · rw [if_neg w, if_neg w]
            rw [this]
          · rw [if_neg y, rsw_dt (by omega) hp5, hdt]
            rw [Int.neg_mul]
    · have z5 : dt5 B = 0 := colk hk hpv (fun r h1 h2 => by rw [← hA2 r h1 h2]; exact hz r h1 h2)
      have hD0 : D = 0 := by
        rw [z5] at hdt
        rcases hs1 with y | y
        · rw [y] at hdt; omega
        · rw [y] at hdt; omega
      have := h τ g'
      rw [hD0] at this
      exact this
  · intro n t ⟨g, A, B, s, hA, hB, hAB, hpv, hx2, hs1, hx4, hdt⟩
    obtain ⟨x2, x4, τ⟩ := t
    have hx4' : x4 = iL s := hx4
    subst hx4'
    have hA' : wkM τ A := hA
    show w_without_70 Q (n + 1) x2 (iL s) (nI 4) τ
    unfold w_without_70
    refine ⟨fun _ => ⟨vp_in_nI (n := 24) (by decide) (by decide), ?_⟩, fun q => absurd (by decide) q⟩
    rw [show (24 : Int32).toNatClampNeg = 5 * 4 + 4 by decide, hA' 4 4 (by decide) (by decide), hAB 4 4 (by decide) (by decide) (by decide) (by decide), iL_mul]
    have e : s * bmk 4 B 4 4 = D := by
      have : bmk 4 B 4 4 = dt5 B := rfl
      rw [this, hdt, ← Int.mul_assoc]
      rcases hs1 with y | y
      · rw [y]; omega
      · rw [y]; omega
    rw [e]
    exact h τ g
