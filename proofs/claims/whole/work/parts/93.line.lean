/-! PURE: a LINE is read off the tape: what both sides read -/
abbrev isB (B : Nat → Nat) (n p k : Nat) : Prop := p < n ∧ B p = k
abbrev isDg (B : Nat → Nat) (n p : Nat) : Prop := p < n ∧ 48 ≤ B p ∧ B p ≤ 57
/-- blanks left out -/
def skB (B : Nat → Nat) (n : Nat) : Nat → Nat → Nat
  | 0, p => p
  | d + 1, p => if isB B n p 32 then skB B n d (p + 1) else p
def skp (B : Nat → Nat) (n p : Nat) : Nat := skB B n 90 p
/-- the byte there -/
def bya (B : Nat → Nat) (n p : Nat) : Int32 := if p < n then nI (B p) else -1
/-- digits: their number (100: more than 99) and where they end -/
def nbr (B : Nat → Nat) (n : Nat) : Nat → Nat → Nat → Nat × Nat
  | 0, p, v => (v, p)
  | d + 1, p, v => if isDg B n p then nbr B n d (p + 1) (if 100 < 10 * v + (B p - 48) then 100 else 10 * v + (B p - 48)) else (v, p)
/-- a term's end: read or not, where it ends, its number, its power -/
def trt (B : Nat → Nat) (n v p : Nat) : Bool × Nat × Nat × Nat :=
  if isB B n (skp B n p) 116 then
    (if isB B n (skp B n (skp B n p + 1)) 50 then (true, skp B n (skp B n p + 1) + 1, v, 2)
     else if isB B n (skp B n (skp B n p + 1)) 51 then (true, skp B n (skp B n p + 1) + 1, v, 3)
     else (true, skp B n (skp B n p + 1), v, 1))
  else (true, skp B n p, v, 0)
def trm (B : Nat → Nat) (n p : Nat) : Bool × Nat × Nat × Nat :=
  if isDg B n (skp B n p) then
    (if (nbr B n 90 (skp B n p) 0).1 ≤ 99 then trt B n (nbr B n 90 (skp B n p) 0).1 (nbr B n 90 (skp B n p) 0).2 else (false, skp B n p, 0, 0))
  else if isB B n (skp B n p) 116 then trt B n 1 (skp B n p) else (false, skp B n p, 0, 0)
/-- a term is added -/
def adt (z : Nat → Int) (b : Nat) (sg : Int) (t : Bool × Nat × Nat × Nat) : Nat → Int := fun i => if i = b + t.2.2.2 then z i + sg * t.2.2.1 else z i
def sgn2 (B : Nat → Nat) (n p : Nat) : Int := if isB B n p 45 then -1 else 1
def ply (B : Nat → Nat) (n b : Nat) : Nat → Nat → (Nat → Int) → Bool × Nat × (Nat → Int)
  | 0, p, z => (true, p, z)
  | d + 1, p, z => if isB B n p 43 ∨ isB B n p 45 then
      (if (trm B n (p + 1)).1 then ply B n b d (skp B n (trm B n (p + 1)).2.1) (adt z b (sgn2 B n p) (trm B n (p + 1))) else (false, (trm B n (p + 1)).2.1, z))
    else (true, p, z)
/-- where the first term begins -/
def fbg (B : Nat → Nat) (n p : Nat) : Nat := if isB B n (skp B n p) 45 then skp B n p + 1 else skp B n p
def pol (B : Nat → Nat) (n b p : Nat) (z : Nat → Int) : Bool × Nat × (Nat → Int) :=
  if (trm B n (fbg B n p)).1 then ply B n b 90 (skp B n (trm B n (fbg B n p)).2.1) (adt z b (sgn2 B n (skp B n p)) (trm B n (fbg B n p))) else (false, (trm B n (fbg B n p)).2.1, z)
def lnr (B : Nat → Nat) (n : Nat) : Nat → Nat → Nat → (Nat → Int) → Bool × Nat × (Nat → Int)
  | 0, _, p, z => (true, p, z)
  | d + 1, k, p, z =>
    if (pol B n (4 * k) p z).1 then
      (if k = 2 then (if skp B n (pol B n (4 * k) p z).2.1 < n then (false, skp B n (pol B n (4 * k) p z).2.1, (pol B n (4 * k) p z).2.2) else lnr B n d (k + 1) (skp B n (pol B n (4 * k) p z).2.1) (pol B n (4 * k) p z).2.2)
       else (if isB B n (skp B n (pol B n (4 * k) p z).2.1) 59 then lnr B n d (k + 1) (skp B n (pol B n (4 * k) p z).2.1 + 1) (pol B n (4 * k) p z).2.2 else (false, skp B n (pol B n (4 * k) p z).2.1, (pol B n (4 * k) p z).2.2)))
    else (false, (pol B n (4 * k) p z).2.1, (pol B n (4 * k) p z).2.2)
theorem skB_pr {B : Nat → Nat} {n : Nat} : ∀ (d p : Nat), n ≤ p + d → p ≤ n → p ≤ skB B n d p ∧ skB B n d p ≤ n ∧ ¬ isB B n (skB B n d p) 32 := by
  intro d
  induction d with
  | zero =>
    intro p h hp
    show p ≤ p ∧ p ≤ n ∧ ¬ isB B n p 32
    exact ⟨Nat.le_refl _, hp, fun q => by have := q.1; omega⟩
  | succ d ih =>
    intro p h hp
    unfold skB
    by_cases c : isB B n p 32
    · rw [if_pos c]
      obtain ⟨a, b, e⟩ := ih (p + 1) (by omega) (by have := c.1; omega)
      exact ⟨by omega, b, e⟩
    · rw [if_neg c]; exact ⟨Nat.le_refl _, hp, c⟩
theorem skp_pr {B : Nat → Nat} {n p : Nat} (hn : n ≤ 90) (hp : p ≤ n) : p ≤ skp B n p ∧ skp B n p ≤ n ∧ ¬ isB B n (skp B n p) 32 := skB_pr 90 p (by omega) hp
theorem skp_no {B : Nat → Nat} {n p : Nat} (h : ¬ isB B n p 32) : skp B n p = p := by unfold skp skB; rw [if_neg h]
theorem skp_id {B : Nat → Nat} {n p : Nat} (hn : n ≤ 90) (hp : p ≤ n) : skp B n (skp B n p) = skp B n p := skp_no (skp_pr hn hp).2.2
theorem nbr_pr {B : Nat → Nat} {n : Nat} : ∀ (d p v : Nat), p ≤ n → v ≤ 100 → p ≤ (nbr B n d p v).2 ∧ (nbr B n d p v).2 ≤ n ∧ (nbr B n d p v).1 ≤ 100 ∧ ((nbr B n d p v).2 = p → (nbr B n d p v).1 = v) := by
  intro d
  induction d with
  | zero => intro p v hp hv; exact ⟨Nat.le_refl _, hp, hv, fun _ => rfl⟩
  | succ d ih =>
    intro p v hp hv
    unfold nbr
    by_cases c : isDg B n p
    · rw [if_pos c]
      obtain ⟨a, b, e, f⟩ := ih (p + 1) (if 100 < 10 * v + (B p - 48) then 100 else 10 * v + (B p - 48)) (by have := c.1; omega) (by split <;> omega)
      exact ⟨by omega, b, e, fun q => by omega⟩
    · rw [if_neg c]; exact ⟨Nat.le_refl _, hp, hv, fun _ => rfl⟩
theorem nbr_0 {B : Nat → Nat} {n p : Nat} (h : isDg B n p) : p + 1 ≤ (nbr B n 90 p 0).2 ∧ (nbr B n 90 p 0).2 ≤ n ∧ ((nbr B n 90 p 0).1 ≤ 9 ∨ p + 2 ≤ (nbr B n 90 p 0).2) := by
  have e : nbr B n 90 p 0 = nbr B n 89 (p + 1) (B p - 48) := by
    show (if isDg B n p then nbr B n 89 (p + 1) (if 100 < 10 * 0 + (B p - 48) then 100 else 10 * 0 + (B p - 48)) else (0, p)) = _
    rw [if_pos h, if_neg (by have := h.2.2; omega)]
    congr 1
    omega
  rw [e]
  have h1 := h.1; have h2 := h.2.2
  obtain ⟨a, b, _, f⟩ := nbr_pr (B := B) (n := n) 89 (p + 1) (B p - 48) (by omega) (by omega)
  refine ⟨a, b, ?_⟩
  rcases Nat.lt_or_ge (p + 1) (nbr B n 89 (p + 1) (B p - 48)).2 with q | q
  · exact Or.inr q
  · left; rw [f (by omega)]; omega
theorem trt_pr {B : Nat → Nat} {n v p : Nat} (hn : n ≤ 90) (hp : p ≤ n) : (trt B n v p).1 = true ∧ p ≤ (trt B n v p).2.1 ∧ (trt B n v p).2.1 ≤ n ∧ (trt B n v p).2.2.1 = v ∧ (trt B n v p).2.2.2 ≤ 3 ∧ (isB B n (skp B n p) 116 → p + 1 ≤ (trt B n v p).2.1) := by
  obtain ⟨a1, a2, _⟩ := skp_pr (B := B) hn hp
  unfold trt
  by_cases c : isB B n (skp B n p) 116
  · have c1 := c.1
    obtain ⟨b1, b2, _⟩ := skp_pr (B := B) (p := skp B n p + 1) hn (by omega)
    rw [if_pos c]
    by_cases c2 : isB B n (skp B n (skp B n p + 1)) 50
    · have := c2.1
      rw [if_pos c2]; refine ⟨rfl, ?_, ?_, rfl, ?_, fun _ => ?_⟩ <;> simp only <;> omega
    · rw [if_neg c2]
      by_cases c3 : isB B n (skp B n (skp B n p + 1)) 51
      · have := c3.1
        rw [if_pos c3]; refine ⟨rfl, ?_, ?_, rfl, ?_, fun _ => ?_⟩ <;> simp only <;> omega
      · rw [if_neg c3]; refine ⟨rfl, ?_, ?_, rfl, ?_, fun _ => ?_⟩ <;> simp only <;> omega
  · rw [if_neg c]; exact ⟨rfl, a1, a2, rfl, by simp only; omega, fun q => absurd q c⟩
theorem trm_pr {B : Nat → Nat} {n p : Nat} (hn : n ≤ 90) (hp : p ≤ n) : p ≤ (trm B n p).2.1 ∧ (trm B n p).2.1 ≤ n ∧ ((trm B n p).1 = true → p + 1 ≤ (trm B n p).2.1 ∧ (trm B n p).2.2.1 ≤ 99 ∧ (trm B n p).2.2.2 ≤ 3 ∧ (trm B n p).2.2.1 ≤ 33 * ((trm B n p).2.1 - p) + 33) := by
  obtain ⟨a1, a2, _⟩ := skp_pr (B := B) hn hp
  unfold trm
  by_cases c : isDg B n (skp B n p)
  · rw [if_pos c]
    obtain ⟨b1, b2, b3⟩ := nbr_0 c
    by_cases c2 : (nbr B n 90 (skp B n p) 0).1 ≤ 99
    · rw [if_pos c2]
      obtain ⟨t1, t2, t3, t4, t5, _⟩ := trt_pr (B := B) (v := (nbr B n 90 (skp B n p) 0).1) hn b2
      refine ⟨by omega, t3, fun _ => ⟨by omega, by omega, t5, by omega⟩⟩
    · rw [if_neg c2]; exact ⟨a1, a2, fun q => Bool.noConfusion q⟩
  · rw [if_neg c]
    by_cases c2 : isB B n (skp B n p) 116
    · rw [if_pos c2]
      obtain ⟨t1, t2, t3, t4, t5, t6⟩ := trt_pr (B := B) (v := 1) (p := skp B n p) hn a2
      have t7 := t6 (by rw [skp_id hn hp]; exact c2)
      exact ⟨by omega, t3, fun _ => ⟨by omega, by omega, t5, by omega⟩⟩
    · rw [if_neg c2]; exact ⟨a1, a2, fun q => Bool.noConfusion q⟩
theorem adt_ab {z : Nat → Int} {b : Nat} {sg : Int} {t : Bool × Nat × Nat × Nat} {i M : Nat} (hs : sg = 1 ∨ sg = -1) (h : ab (z i) M) : ab (adt z b sg t i) (M + t.2.2.1) := by
  unfold adt
  unfold ab at *
  split
  · rcases hs with rfl | rfl <;> omega
  · omega
theorem adt_out {z : Nat → Int} {b : Nat} {sg : Int} {t : Bool × Nat × Nat × Nat} {i : Nat} (h3 : t.2.2.2 ≤ 3) (h : i < b ∨ b + 4 ≤ i) : adt z b sg t i = z i := by
  unfold adt
  rw [if_neg (by omega)]
theorem sgn_or (B : Nat → Nat) (n p : Nat) : sgn2 B n p = 1 ∨ sgn2 B n p = -1 := by unfold sgn2; split <;> simp
theorem ply_pr {B : Nat → Nat} {n b : Nat} (hn : n ≤ 90) : ∀ (d p : Nat) (z : Nat → Int), p ≤ n → p ≤ (ply B n b d p z).2.1 ∧ (ply B n b d p z).2.1 ≤ n ∧ (∀ i, (i < b ∨ b + 4 ≤ i) → (ply B n b d p z).2.2 i = z i) ∧ ∀ i M, ab (z i) M → ab ((ply B n b d p z).2.2 i) (M + 33 * ((ply B n b d p z).2.1 - p)) := by
  intro d
  induction d with
  | zero => intro p z hp; exact ⟨Nat.le_refl _, hp, fun _ _ => rfl, fun i M h => ab_le h (by omega)⟩
  | succ d ih =>
    intro p z hp
    unfold ply
    by_cases c : isB B n p 43 ∨ isB B n p 45
    · have c1 : p < n := c.elim (fun q => q.1) (fun q => q.1)
      obtain ⟨t1, t2, t3⟩ := trm_pr (B := B) (p := p + 1) hn (by omega)
      rw [if_pos c]
      by_cases c2 : (trm B n (p + 1)).1 = true
      · obtain ⟨u1, u2, u3, u4⟩ := t3 c2
        rw [if_pos c2]
        obtain ⟨s1, s2, _⟩ := skp_pr (B := B) hn t2
        obtain ⟨r1, r2, r3, r4⟩ := ih (skp B n (trm B n (p + 1)).2.1) (adt z b (sgn2 B n p) (trm B n (p + 1))) s2
        refine ⟨by omega, r2, fun i hi => by rw [r3 i hi, adt_out u3 hi], fun i M h => ab_le (r4 i _ (adt_ab (sgn_or B n p) h)) (by omega)⟩
      · rw [if_neg c2]
        exact ⟨by simp only; omega, t2, fun _ _ => rfl, fun i M h => ab_le h (by omega)⟩
    · rw [if_neg c]; exact ⟨Nat.le_refl _, hp, fun _ _ => rfl, fun i M h => ab_le h (by omega)⟩
theorem fbg_pr {B : Nat → Nat} {n p : Nat} (hn : n ≤ 90) (hp : p ≤ n) : p ≤ fbg B n p ∧ fbg B n p ≤ n := by
  obtain ⟨a1, a2, _⟩ := skp_pr (B := B) hn hp
  unfold fbg
  by_cases c : isB B n (skp B n p) 45
  · have := c.1; rw [if_pos c]; omega
  · rw [if_neg c]; omega
theorem pol_pr {B : Nat → Nat} {n b p : Nat} {z : Nat → Int} (hn : n ≤ 90) (hp : p ≤ n) : p ≤ (pol B n b p z).2.1 ∧ (pol B n b p z).2.1 ≤ n ∧ (∀ i, (i < b ∨ b + 4 ≤ i) → (pol B n b p z).2.2 i = z i) ∧ ∀ i M, ab (z i) M → ab ((pol B n b p z).2.2 i) (M + 33 * ((pol B n b p z).2.1 - p) + 33) := by
  obtain ⟨f1, f2⟩ := fbg_pr (B := B) hn hp
  obtain ⟨t1, t2, t3⟩ := trm_pr (B := B) (p := fbg B n p) hn f2
  unfold pol
  by_cases c2 : (trm B n (fbg B n p)).1 = true
  · obtain ⟨u1, u2, u3, u4⟩ := t3 c2
    rw [if_pos c2]
    obtain ⟨s1, s2, _⟩ := skp_pr (B := B) hn t2
    obtain ⟨r1, r2, r3, r4⟩ := ply_pr (B := B) (b := b) hn 90 (skp B n (trm B n (fbg B n p)).2.1) (adt z b (sgn2 B n (skp B n p)) (trm B n (fbg B n p))) s2
    refine ⟨by omega, r2, fun i hi => by rw [r3 i hi, adt_out u3 hi], fun i M h => ab_le (r4 i _ (adt_ab (sgn_or B n _) h)) (by omega)⟩
  · rw [if_neg c2]
    exact ⟨by simp only; omega, t2, fun _ _ => rfl, fun i M h => ab_le h (by omega)⟩
theorem lnr_ab {B : Nat → Nat} {n : Nat} (hn : n ≤ 90) : ∀ (d k p : Nat) (z : Nat → Int), k + d = 3 → p ≤ n → (1 ≤ k → 1 ≤ p) → (∀ i, ab (z i) (33 * p)) → (∀ i, 4 * k ≤ i → z i = 0) → (lnr B n d k p z).1 = true → ∀ i, ab ((lnr B n d k p z).2.2 i) 2970 := by
  intro d
  induction d with
  | zero => intro k p z hk hp hk1 hz h0 hok i; exact ab_le (hz i) (by omega)
  | succ d ih =>
    intro k p z hk hp hk1 hz h0 hok
    obtain ⟨r1, r2, r3, r4⟩ := pol_pr (B := B) (b := 4 * k) (z := z) hn hp
    obtain ⟨s1, s2, _⟩ := skp_pr (B := B) hn r2
    have bnd : ∀ i, ab ((pol B n (4 * k) p z).2.2 i) (33 * ((pol B n (4 * k) p z).2.1 - p) + 33) ∨ ab ((pol B n (4 * k) p z).2.2 i) (33 * p) := by
      intro i
      rcases Nat.lt_or_ge i (4 * k) with q | q
      · right; rw [r3 i (Or.inl q)]; exact hz i
      · left; exact ab_le (r4 i 0 (by rw [h0 i q]; exact Nat.le_refl _)) (by omega)
    unfold lnr at hok ⊢
    by_cases c : (pol B n (4 * k) p z).1 = true
    · rw [if_pos c] at hok ⊢
      by_cases c2 : k = 2
      · rw [if_pos c2] at hok ⊢
        by_cases c3 : skp B n (pol B n (4 * k) p z).2.1 < n
        · rw [if_pos c3] at hok; exact Bool.noConfusion hok
        · rw [if_neg c3] at hok ⊢
          refine ih (k + 1) _ _ (by omega) s2 (fun _ => by have := hk1 (by omega); omega) (fun i => ?_) (fun i hi => by rw [r3 i (Or.inr (by omega))]; exact h0 i (by omega)) hok
          have := hk1 (by omega)
          exact (bnd i).elim (fun q => ab_le q (by omega)) (fun q => ab_le q (by omega))
      · rw [if_neg c2] at hok ⊢
        by_cases c3 : isB B n (skp B n (pol B n (4 * k) p z).2.1) 59
        · have := c3.1
          rw [if_pos c3] at hok ⊢
          exact ih (k + 1) _ _ (by omega) (by omega) (fun _ => by omega) (fun i => (bnd i).elim (fun q => ab_le q (by omega)) (fun q => ab_le q (by omega))) (fun i hi => by rw [r3 i (Or.inr (by omega))]; exact h0 i (by omega)) hok
        · rw [if_neg c3] at hok; exact Bool.noConfusion hok
    · rw [if_neg c] at hok; exact Bool.noConfusion hok
/-! PURE: a LINE is read off the tape: the class -/
def tpC (B : Nat → Nat) (n : Nat) (σ : cS) : Prop := n ≤ 90 ∧ (∀ i, i < n → 32 ≤ B i ∧ B i ≤ 126) ∧ σ.2.2.1 1 1 = nI n ∧ ∀ i, i < n → σ.2.1 2 i = nI (B i)
def rdC (σ s : cS) (p : Nat) (z : Nat → Int) : Prop := (∀ a, a ≠ 16 → s.1 a = σ.1 a) ∧ s.2.1 = σ.2.1 ∧ (∀ o, o ≠ 1 → s.2.2.1 o = σ.2.2.1 o) ∧ s.2.2.1 1 1 = σ.2.2.1 1 1 ∧ s.2.2.2 = σ.2.2.2 ∧ s.2.2.1 1 2 = nI p ∧ ∀ i, i < 12 → s.1 16 i = iL (z i)
theorem rdC_F {σ s : cS} {p q : Nat} {z : Nat → Int} {x : Int32} (h : rdC σ s p z) (hx : x = nI q) : rdC σ (cUF s 1 2 x) q z := by
  obtain ⟨a, b, c, d, e, f, g⟩ := h
  exact ⟨a, b, fun o ho => by rw [cUF_ne ho]; exact c o ho, by rw [cUF_at, upd_ne (by decide)]; exact d, e, by rw [cUF_at, upd_at]; exact hx, g⟩
theorem rdC_J {σ s : cS} {p i : Nat} {z z' : Nat → Int} {x : Int64} (h : rdC σ s p z) (hx : x = iL (z' i)) (ho : ∀ k, k ≠ i → z' k = z k) : rdC σ (cUJ s 16 i x) p z' := by
  obtain ⟨a, b, c, d, e, f, g⟩ := h
  refine ⟨fun a' ha => by rw [cUJ_ne ha]; exact a a' ha, b, c, d, e, f, fun k hk => ?_⟩
  rw [cUJ_at]
  by_cases q : k = i
  · subst q; rw [updL_at]; exact hx
  · rw [updL_ne q, g k hk, ho k q]
theorem rdC_1 {B : Nat → Nat} {n p : Nat} {σ s : cS} {z : Nat → Int} (hT : tpC B n σ) (h : rdC σ s p z) : s.2.2.1 1 1 = nI n := by rw [h.2.2.2.1, hT.2.2.1]
theorem rdC_2 {p : Nat} {σ s : cS} {z : Nat → Int} (h : rdC σ s p z) : s.2.2.1 1 2 = nI p := h.2.2.2.2.2.1
theorem rdC_b {B : Nat → Nat} {n p i : Nat} {σ s : cS} {z : Nat → Int} (hT : tpC B n σ) (h : rdC σ s p z) (hi : i < n) : s.2.1 2 i = nI (B i) := by rw [h.2.1]; exact hT.2.2.2 i hi
theorem bya_eq {B : Nat → Nat} {n p : Nat} (k : Nat) (hB : ∀ i, i < n → 32 ≤ B i ∧ B i ≤ 126) (hk : k < 128) : (bya B n p = nI k) ↔ isB B n p k := by
  unfold bya
  by_cases c : p < n
  · have := hB p c
    rw [if_pos c, nI_eq (by omega) (by omega)]
    exact ⟨fun q => ⟨c, q⟩, fun q => q.2⟩
  · rw [if_neg c]
    refine ⟨fun q => ?_, fun q => absurd q.1 c⟩
    exfalso
    have h1 : (nI k).toInt = (k : Int) := nI_toInt (by omega)
    rw [← q] at h1
    have h2 : (-1 : Int32).toInt = -1 := by decide
    omega
theorem bya_m {B : Nat → Nat} {n p : Nat} (hB : ∀ i, i < n → 32 ≤ B i ∧ B i ≤ 126) : (bya B n p = -1) ↔ ¬ p < n := by
  unfold bya
  by_cases c : p < n
  · have := hB p c
    rw [if_pos c]
    refine ⟨fun q => ?_, fun q => absurd c q⟩
    exfalso
    have h1 : (nI (B p)).toInt = (B p : Int) := nI_toInt (by omega)
    rw [q] at h1
    have h2 : (-1 : Int32).toInt = -1 := by decide
    omega
  · rw [if_neg c]; exact ⟨fun _ => c, fun _ => rfl⟩
theorem bya_dg {B : Nat → Nat} {n p : Nat} (hB : ∀ i, i < n → 32 ≤ B i ∧ B i ≤ 126) : inR (bya B n p) 48 57 ↔ isDg B n p := by
  unfold bya inR
  by_cases c : p < n
  · have := hB p c
    rw [if_pos c, nI_toInt (by omega)]
    constructor
    · intro q; exact ⟨c, by omega, by omega⟩
    · intro q; have := q.2; omega
  · rw [if_neg c]
    have h2 : (-1 : Int32).toInt = -1 := by decide
    rw [h2]
    exact ⟨fun q => by omega, fun q => absurd q.1 c⟩
theorem nx47C {Q : Int32 → cS → Prop} {B : Nat → Nat} {n p : Nat} {σ s : cS} {z : Nat → Int} (hT : tpC B n σ) (h : rdC σ s p z) (hp : p ≤ n) (go : Q (bya B n p) s) : v_X5_next_47 Q s := by
  have hn := hT.1
  unfold v_X5_next_47 v_X5_next_86 v_X5_next_87
  rw [rdC_1 hT h, rdC_2 h, nI_leI (show n < 2 ^ 31 by omega) (show p < 2 ^ 31 by omega)]
  refine ⟨fun q => absurd q (nI_pos (by omega)), fun _ => ⟨fun q => ?_, fun q => ⟨fun q2 => absurd q2 (nI_ge (b := 90) (by omega) (by decide)), fun _ => ⟨vp_in_nI (N := 90) (by omega) (by decide), ?_⟩⟩⟩⟩
  · unfold bya at go; rwa [if_neg (by omega)] at go
  · rw [nI_clamp (by omega), rdC_b hT h (by omega)]; unfold bya at go; rwa [if_pos (by omega)] at go
theorem sp_nxC {Q : Int32 → cS → Prop} {B : Nat → Nat} {n p : Nat} {σ s : cS} {z : Nat → Int} (hT : tpC B n σ) (h : rdC σ s p z) (hp : p ≤ n) (go : ∀ s', rdC σ s' (skp B n p) z → Q (bya B n (skp B n p)) s') : v_X5_next Q s := by
  have hn := hT.1
  have key : ∀ (d m p : Nat) (s : cS), n ≤ p + d → d < m → p ≤ n → rdC σ s p z → (∀ s', rdC σ s' (skB B n d p) z → Q (bya B n (skB B n d p)) s') → v_X5_next_0 Q m s := by
    intro d
    induction d with
    | zero =>
      intro m p s hd hm hp h go
      obtain ⟨m, rfl⟩ : ∃ k, m = k + 1 := ⟨m - 1, by omega⟩
      unfold v_X5_next_0
      rw [rdC_1 hT h, rdC_2 h, nI_leI (show n < 2 ^ 31 by omega) (show p < 2 ^ 31 by omega)]
      exact ⟨fun _ => nx47C hT h hp (go s h), fun q => absurd (show n ≤ p by omega) q⟩
    | succ d ih =>
      intro m p s hd hm hp h go
      obtain ⟨m, rfl⟩ : ∃ k, m = k + 1 := ⟨m - 1, by omega⟩
      have no : ¬ isB B n p 32 → v_X5_next_47 Q s := fun q => by
        have e : skB B n (d + 1) p = p := by unfold skB; rw [if_neg q]
        rw [e] at go
        exact nx47C hT h hp (go s h)
      unfold v_X5_next_0
      rw [rdC_1 hT h, rdC_2 h, nI_leI (show n < 2 ^ 31 by omega) (show p < 2 ^ 31 by omega)]
      refine ⟨fun q => no (fun y => by have := y.1; omega), fun q => ⟨fun q2 => absurd q2 (nI_ge (b := 90) (by omega) (by decide)), fun _ => ⟨vp_in_nI (N := 90) (by omega) (by decide), ?_⟩⟩⟩
      have hb := hT.2.1 p (by omega)
      rw [nI_clamp (show p < 2 ^ 31 by omega), rdC_b hT h (by omega), show (nI (B p) = 32 ↔ B p = 32) from nI_eq (b := 32) (by omega) (by decide), nI_1 p]
      refine ⟨fun q => no (fun y => q y.2), fun q => nmB_iff.mpr (ih m (p + 1) _ (by omega) (by omega) (by omega) (rdC_F h rfl) ?_)⟩
      have e : skB B n (d + 1) p = skB B n d (p + 1) := by
        show (if isB B n p 32 then skB B n d (p + 1) else p) = _
        rw [if_pos ⟨by omega, q⟩]
      rw [e] at go
      exact go
  exact key 90 fuL p s (by omega) (by decide) hp h go
theorem sp_dgC {Q : Int32 → cS → Prop} {x : Int32} {s : cS} (h1 : inR x 48 57 → Q 1 s) (h0 : ¬ inR x 48 57 → Q 0 s) : v_X5_isDigit Q x s := by
  unfold v_X5_isDigit
  exact sp_within (by decide) (by decide) (fun q => ⟨z_1, h1 q⟩) (fun q => ⟨z_0, h0 q⟩)
theorem nbr_st {v b : Nat} (hv : v ≤ 100) (h1 : 48 ≤ b) (h2 : b ≤ 57) : (if (100 : Int64) < ((iL (v : Int) * (10 : Int64)) + (nI b).toInt64) - (48 : Int64) then (100 : Int64) else ((iL (v : Int) * (10 : Int64)) + (nI b).toInt64) - (48 : Int64)) = iL ((if 100 < 10 * v + (b - 48) then 100 else 10 * v + (b - 48) : Nat) : Int) := by
  have e : ((iL (v : Int) * (10 : Int64)) + (nI b).toInt64) - (48 : Int64) = iL ((10 * v + (b - 48) : Nat) : Int) := by
    rw [i32_iL, nI_toInt (by omega), show (10 : Int64) = iL 10 from rfl, show (48 : Int64) = iL 48 from rfl, iL_mul, iL_add, iL_sub]
    congr 1
    omega
  rw [e]
  have l : ((100 : Int64) < iL ((10 * v + (b - 48) : Nat) : Int)) ↔ 100 < 10 * v + (b - 48) := by
    rw [show (100 : Int64) = iL 100 from rfl, iL_lt (r63_small 2000 (by decide) (by omega)) (r63_small 2000 (by decide) (by omega))]
    omega
  by_cases c : 100 < 10 * v + (b - 48)
  · rw [if_pos (l.mpr c), if_pos c]; rfl
  · rw [if_neg (fun q => c (l.mp q)), if_neg c]
theorem sp_nbC {Q : Int64 → cS → Prop} {B : Nat → Nat} {n : Nat} {σ : cS} {z : Nat → Int} (hT : tpC B n σ) : ∀ (d m p v : Nat) (s : cS), n ≤ p + d → d < m → p ≤ n → v ≤ 100 → rdC σ s p z → (∀ s', rdC σ s' (nbr B n d p v).2 z → Q (iL ((nbr B n d p v).1 : Int)) s') → v_X5_readNumber_2 Q m (iL (v : Int)) s := by
  have hn := hT.1
  intro d
  induction d with
  | zero =>
    intro m p v s hd hm hp hv h go
    obtain ⟨m, rfl⟩ : ∃ k, m = k + 1 := ⟨m - 1, by omega⟩
    unfold v_X5_readNumber_2 v_X5_readNumber_77
    rw [rdC_1 hT h, rdC_2 h, nI_leI (show n < 2 ^ 31 by omega) (show p < 2 ^ 31 by omega)]
    exact ⟨fun _ => go s h, fun q => absurd (show n ≤ p by omega) q⟩
  | succ d ih =>
    intro m p v s hd hm hp hv h go
    obtain ⟨m, rfl⟩ : ∃ k, m = k + 1 := ⟨m - 1, by omega⟩
    have no : ¬ isDg B n p → Q (iL (v : Int)) s := fun q => by
      have e : nbr B n (d + 1) p v = (v, p) := by unfold nbr; rw [if_neg q]
      rw [e] at go
      exact go s h
    unfold v_X5_readNumber_2 v_X5_readNumber_77
    rw [rdC_1 hT h, rdC_2 h, nI_leI (show n < 2 ^ 31 by omega) (show p < 2 ^ 31 by omega)]
    refine ⟨fun q => no (fun y => by have := y.1; omega), fun q => ⟨fun q2 => absurd q2 (nI_ge (b := 90) (by omega) (by decide)), fun _ => ⟨vp_in_nI (N := 90) (by omega) (by decide), ?_⟩⟩⟩
    have hb := hT.2.1 p (by omega)
    rw [nI_clamp (show p < 2 ^ 31 by omega), rdC_b hT h (by omega)]
    refine sp_dgC (fun y => ⟨fun q => absurd q (by decide), fun _ => ?_⟩) (fun y => ⟨fun _ => no (fun q => y ?_), fun q => absurd rfl q⟩)
    · unfold inR at y
      rw [nI_toInt (by omega)] at y
      rw [rdC_2 h, nI_clamp (show p < 2 ^ 31 by omega), rdC_b hT h (by omega), nbr_st hv (by omega) (by omega), nI_1 p]
      refine ⟨vp_in_nI (N := 90) (by omega) (by decide), nmB_iff.mpr (nmB_iff.mpr (ih m (p + 1) _ _ (by omega) (by omega) (by omega) (by split <;> omega) (rdC_F h rfl) ?_))⟩
      have e : nbr B n (d + 1) p v = nbr B n d (p + 1) (if 100 < 10 * v + (B p - 48) then 100 else 10 * v + (B p - 48)) := by
        show (if isDg B n p then nbr B n d (p + 1) (if 100 < 10 * v + (B p - 48) then 100 else 10 * v + (B p - 48)) else (v, p)) = _
        rw [if_pos ⟨by omega, by omega, by omega⟩]
      rw [e] at go
      exact go
    · unfold inR
      rw [nI_toInt (by omega)]
      have := q.2
      omega
theorem m48 {x : Int32} {k c : Int32} (h : k + 48 = c) : x - 48 = k ↔ x = c := by
  constructor
  · intro q
    have : x - 48 + 48 = k + 48 := by rw [q]
    rwa [Int32.sub_add_cancel, h] at this
  · intro q
    rw [q, ← h, Int32.add_sub_cancel]
theorem sp_84 {Q : Int32 → cS → Prop} {p b k v : Nat} {σ s : cS} {z : Nat → Int} {sg : Int} {x3 : Int32} {t : Bool × Nat × Nat × Nat} (hx : x3.toInt64 = iL sg) (hb : b + k < 12) (t1 : t.2.2.1 = v) (t2 : t.2.2.2 = k) (h : rdC σ s p z) (go : ∀ s', rdC σ s' p (adt z b sg t) → Q 1 s') : v_X5_readTerm_84 Q 16 (nI b) x3 (iL (v : Int)) (nI k) s := by
  unfold v_X5_readTerm_84 v_X5_readTerm_114
  refine nmB_iff.mpr ?_
  rw [nI_add, show cLen 16 = 12 from rfl, nI_clamp (show b + k < 2 ^ 31 by omega), hx, h.2.2.2.2.2.2 (b + k) hb, iL_mul, iL_add]
  have w := vp_in_nI hb (show 12 < 2 ^ 31 by decide)
  refine ⟨fun q => absurd q (nI_pos (by omega)), fun _ => ⟨fun q => absurd q (nI_ge hb (by decide)), fun _ => ⟨w, w, nmB_iff.mpr ⟨z_1, go _ (rdC_J h ?_ (fun i hi => ?_))⟩⟩⟩⟩
  · unfold adt; rw [if_pos (by rw [t2]), t1]
  · unfold adt; rw [if_neg (by rw [t2]; exact hi)]
theorem sp_trtC {Q : Int32 → cS → Prop} {B : Nat → Nat} {n p b v : Nat} {σ s : cS} {z : Nat → Int} {sg : Int} {x3 : Int32} (hT : tpC B n σ) (hx : x3.toInt64 = iL sg) (hb : b + 3 < 12) (h : rdC σ s p z) (hp : p ≤ n) (go : ∀ s', rdC σ s' (trt B n v p).2.1 (adt z b sg (trt B n v p)) → Q 1 s') : v_X5_readTerm_59 Q 16 (nI b) x3 (iL (v : Int)) 0 s := by
  have hn := hT.1
  unfold v_X5_readTerm_59 v_X5_readPower v_X5_readPower_20
  refine sp_nxC hT h hp (fun s1 h1 => ?_)
  obtain ⟨a1, a2, _⟩ := skp_pr (B := B) hn hp
  have k116 := bya_eq (p := skp B n p) 116 hT.2.1 (by decide)
  unfold trt at go
  refine ⟨fun q => ?_, fun q => nmB_iff.mpr ?_⟩
  · rw [if_neg (fun y => q (k116.mpr y))] at go
    exact sp_84 (k := 0) hx (by omega) rfl rfl h1 go
  · have c := k116.mp q
    rw [if_pos c] at go
    have c1 := c.1
    rw [rdC_2 h1, nI_1]
    obtain ⟨b1, b2, _⟩ := skp_pr (B := B) (p := skp B n p + 1) hn (by omega)
    refine sp_nxC hT (rdC_F h1 rfl) (by omega) (fun s2 h2 => nmB_iff.mpr ?_)
    have k50 := bya_eq (p := skp B n (skp B n p + 1)) 50 hT.2.1 (by decide)
    have k51 := bya_eq (p := skp B n (skp B n p + 1)) 51 hT.2.1 (by decide)
    rw [m48 (k := 2) (c := 50) (by decide), m48 (k := 3) (c := 51) (by decide)]
    refine ⟨fun q => nmB_iff.mpr ?_, fun q => ⟨fun q2 => nmB_iff.mpr ?_, fun q2 => ?_⟩⟩
    · rw [if_pos (k50.mp q)] at go
      rw [rdC_2 h2, nI_1, (m48 (k := 2) (c := 50) (by decide)).mpr q]
      exact sp_84 (k := 2) hx (by omega) rfl rfl (rdC_F h2 rfl) go
    · rw [if_neg (fun y => q (k50.mpr y)), if_pos (k51.mp q2)] at go
      rw [rdC_2 h2, nI_1, (m48 (k := 3) (c := 51) (by decide)).mpr q2]
      exact sp_84 (k := 3) hx (by omega) rfl rfl (rdC_F h2 rfl) go
    · rw [if_neg (fun y => q (k50.mpr y)), if_neg (fun y => q2 (k51.mpr y))] at go
      exact sp_84 (k := 1) hx (by omega) rfl rfl h2 go
theorem sp_trmC {Q : Int32 → cS → Prop} {B : Nat → Nat} {n p b : Nat} {σ s : cS} {z : Nat → Int} {sg : Int} {x3 : Int32} (hT : tpC B n σ) (hx : x3.toInt64 = iL sg) (hb : b + 3 < 12) (h : rdC σ s p z) (hp : p ≤ n) (go : (trm B n p).1 = true → ∀ s', rdC σ s' (trm B n p).2.1 (adt z b sg (trm B n p)) → Q 1 s') (no : ¬ (trm B n p).1 = true → ∀ s', rdC σ s' (trm B n p).2.1 z → Q 0 s') : v_X5_readTerm Q 16 (nI b) x3 s := by
  have hn := hT.1
  obtain ⟨a1, a2, a3⟩ := skp_pr (B := B) hn hp
  unfold v_X5_readTerm v_X5_readNumber
  refine sp_nxC hT h hp (fun s1 h1 => ?_)
  refine sp_dgC (fun y => ⟨fun q => absurd q (by decide), fun _ => nmB_iff.mpr ?_⟩) (fun y => ⟨fun _ => ?_, fun q => absurd rfl q⟩)
  · have c := (bya_dg hT.2.1).mp y
    have e : trm B n p = if (nbr B n 90 (skp B n p) 0).1 ≤ 99 then trt B n (nbr B n 90 (skp B n p) 0).1 (nbr B n 90 (skp B n p) 0).2 else (false, skp B n p, 0, 0) := by unfold trm; rw [if_pos c]
    obtain ⟨b1, b2, _⟩ := nbr_0 c
    refine sp_nbC hT 90 fuL (skp B n p) 0 s1 (by omega) (by decide) a2 (by omega) h1 (fun s2 h2 => ?_)
    have b3 := (nbr_pr (B := B) (n := n) 90 (skp B n p) 0 a2 (by omega)).2.2.1
    have l : (iL ((nbr B n 90 (skp B n p) 0).1 : Int) ≤ (99 : Int64)) ↔ (nbr B n 90 (skp B n p) 0).1 ≤ 99 := by
      rw [show (99 : Int64) = iL 99 from rfl, iL_le (r63_small 2000 (by decide) (by omega)) (r63_small 2000 (by decide) (by omega))]
      omega
    rw [l]
    refine ⟨fun q => ?_, fun q => nmB_iff.mpr ⟨z_0, ?_⟩⟩
    · rw [if_pos q] at e
      rw [e] at go
      exact sp_trtC hT hx hb h2 b2 (go (trt_pr hn b2).1)
    · rw [if_neg q] at e
      rw [e] at no
      exact no (fun w => Bool.noConfusion (show false = true from w)) _ (rdC_F h2 (rdC_2 h1))
  · have c : ¬ isDg B n (skp B n p) := fun q => y ((bya_dg hT.2.1).mpr q)
    have e : trm B n p = if isB B n (skp B n p) 116 then trt B n 1 (skp B n p) else (false, skp B n p, 0, 0) := by unfold trm; rw [if_neg c]
    refine sp_nxC hT h1 a2 (fun s2 h2 => ?_)
    rw [skp_id hn hp] at h2 ⊢
    have k116 := bya_eq (p := skp B n p) 116 hT.2.1 (by decide)
    refine ⟨fun q => ?_, fun q => ⟨z_0, ?_⟩⟩
    · rw [if_pos (k116.mp q)] at e
      rw [e] at go
      exact sp_trtC (v := 1) hT hx hb h2 a2 (go (trt_pr hn a2).1)
    · rw [if_neg (fun w => q (k116.mpr w))] at e
      rw [e] at no
      exact no (fun w => Bool.noConfusion (show false = true from w)) _ h2
theorem sp_66 {Q : Int32 → cS → Prop} {r5 : Int32 → Int32 → Int32 → cS → Prop} {B : Nat → Nat} {n p b k : Nat} {σ s : cS} {z : Nat → Int} {sg : Int} {x3 : Int32} (hT : tpC B n σ) (hx : x3.toInt64 = iL sg) (hb : b + 3 < 12) (h : rdC σ s p z) (hp : p ≤ n) (go : (trm B n p).1 = true → ∀ s', rdC σ s' (skp B n (trm B n p).2.1) (adt z b sg (trm B n p)) → ((isB B n (skp B n (trm B n p).2.1) 43 ∨ isB B n (skp B n (trm B n p).2.1) 45) → r5 (nI b) 1 (nI (k + 1)) s') ∧ (¬ (isB B n (skp B n (trm B n p).2.1) 43 ∨ isB B n (skp B n (trm B n p).2.1) 45) → r5 (nI b) 0 (nI (k + 1)) s')) (no : ¬ (trm B n p).1 = true → ∀ s', rdC σ s' (trm B n p).2.1 z → Q 0 s') : v_X5_readPolynomial_66 Q 16 r5 (nI b) (nI k) (nI b) x3 s := by
  have hn := hT.1
  obtain ⟨t1, t2, _⟩ := trm_pr (B := B) hn hp
  unfold v_X5_readPolynomial_66 v_X5_readPolynomial_92 v_X5_readPolynomial_97
  refine sp_trmC hT hx hb h hp (fun ok s1 h1 => ⟨fun _ => ?_, fun q => absurd q (by decide)⟩) (fun ok s1 h1 => ⟨fun q => absurd rfl q, fun _ => ⟨z_0, no ok s1 h1⟩⟩)
  obtain ⟨a1, a2, _⟩ := skp_pr (B := B) hn t2
  have k43 := bya_eq (p := skp B n (trm B n p).2.1) 43 hT.2.1 (by decide)
  have k45 := bya_eq (p := skp B n (trm B n p).2.1) 45 hT.2.1 (by decide)
  refine sp_nxC hT h1 t2 (fun s2 h2 => ?_)
  rw [nI_1 k]
  refine ⟨fun q => nmB_iff.mpr ((go ok s2 h2).1 (Or.inl (k43.mp q))), fun q => ?_⟩
  refine sp_nxC hT h2 a2 (fun s3 h3 => ?_)
  rw [skp_id hn t2] at h3 ⊢
  exact ⟨fun q2 => nmB_iff.mpr ((go ok s3 h3).2 (fun y => y.elim (fun w => q (k43.mpr w)) (fun w => q2 (k45.mpr w)))), fun q2 => nmB_iff.mpr ((go ok s3 h3).1 (Or.inr (k45.mp q2)))⟩
theorem sp_plyC {Q : Int32 → cS → Prop} {B : Nat → Nat} {n b : Nat} {σ : cS} (hT : tpC B n σ) (hb : b + 3 < 12) : ∀ (d m k p : Nat) (z : Nat → Int) (s : cS), n ≤ p + d → d < m → k ≤ p → 1 ≤ k → p ≤ n → ¬ isB B n p 32 → rdC σ s p z → ((ply B n b d p z).1 = true → ∀ s', rdC σ s' (ply B n b d p z).2.1 (ply B n b d p z).2.2 → Q 1 s') → (¬ (ply B n b d p z).1 = true → ∀ s', rdC σ s' (ply B n b d p z).2.1 (ply B n b d p z).2.2 → Q 0 s') → ((isB B n p 43 ∨ isB B n p 45) → v_X5_readPolynomial_5 Q 16 m (nI b) 1 (nI k) s) ∧ (¬ (isB B n p 43 ∨ isB B n p 45) → v_X5_readPolynomial_5 Q 16 m (nI b) 0 (nI k) s) := by
  have hn := hT.1
  intro d
  induction d with
  | zero =>
    intro m k p z s hd hm hk hk1 hp hb32 h go no
    obtain ⟨m, rfl⟩ : ∃ k, m = k + 1 := ⟨m - 1, by omega⟩
    refine ⟨fun q => ?_, fun q => ?_⟩
    · exfalso; rcases q with q | q <;> (have := q.1; omega)
    · unfold v_X5_readPolynomial_5 v_X5_readPolynomial_104
      exact ⟨fun _ => ⟨z_1, go rfl s h⟩, fun q => absurd rfl q⟩
  | succ d ih =>
    intro m k p z s hd hm hk hk1 hp hb32 h go no
    obtain ⟨m, rfl⟩ : ∃ k, m = k + 1 := ⟨m - 1, by omega⟩
    refine ⟨fun c => ?_, fun c => ?_⟩
    · have c1 : p < n := c.elim (fun q => q.1) (fun q => q.1)
      have e : ply B n b (d + 1) p z = if (trm B n (p + 1)).1 then ply B n b d (skp B n (trm B n (p + 1)).2.1) (adt z b (sgn2 B n p) (trm B n (p + 1))) else (false, (trm B n (p + 1)).2.1, z) := by
        show (if isB B n p 43 ∨ isB B n p 45 then _ else _) = _
        rw [if_pos c]
      obtain ⟨t1, t2, t3⟩ := trm_pr (B := B) (p := p + 1) hn (by omega)
      have k43 := bya_eq (p := p) 43 hT.2.1 (by decide)
      have k45 := bya_eq (p := p) 45 hT.2.1 (by decide)
      have go66 : ∀ (x3 : Int32) (s1 : cS), x3.toInt64 = iL (sgn2 B n p) → rdC σ s1 (p + 1) z → v_X5_readPolynomial_66 Q 16 (v_X5_readPolynomial_5 Q 16 m) (nI b) (nI k) (nI b) x3 s1 := by
        intro x3 s1 hx h1
        refine sp_66 hT hx hb h1 (by omega) (fun ok s2 h2 => ?_) (fun ok s2 h2 => ?_)
        · obtain ⟨u1, u2, u3, u4⟩ := t3 ok
          obtain ⟨a1, a2, a3⟩ := skp_pr (B := B) hn t2
          rw [if_pos ok] at e
          rw [e] at go no
          exact ih m (k + 1) _ _ s2 (by omega) (by omega) (by omega) (by omega) a2 a3 h2 go no
        · rw [if_neg ok] at e
          rw [e] at no
          exact no (fun w => Bool.noConfusion (show false = true from w)) s2 h2
      unfold v_X5_readPolynomial_5 v_X5_readPolynomial_41 v_X5_readPolynomial_51
      refine ⟨fun q => absurd q (by decide), fun _ => ⟨fun q => absurd q (nI_ge (b := 90) (by omega) (by decide)), fun _ => ?_⟩⟩
      refine sp_nxC hT h hp (fun s1 h1 => ?_)
      rw [skp_no hb32] at h1 ⊢
      rw [rdC_2 h1, nI_1 p]
      refine ⟨fun q => nmB_iff.mpr ⟨fun q2 => absurd q q2, fun _ => go66 _ _ ?_ (rdC_F h1 rfl)⟩, fun q => ⟨fun q2 => ?_, fun q2 => ⟨fun q3 => absurd q3 (nI_nle (by omega) (by omega)), fun _ => nmB_iff.mpr ⟨fun _ => go66 _ _ ?_ (rdC_F h1 rfl), fun q4 => absurd q4 q⟩⟩⟩⟩
      · unfold sgn2; rw [if_pos (k45.mp q)]; decide
      · exfalso
        exact c.elim (fun w => q2 (k43.mpr w)) (fun w => q (k45.mpr w))
      · unfold sgn2; rw [if_neg (fun w => q (k45.mpr w))]; decide
    · have e : ply B n b (d + 1) p z = (true, p, z) := by
        show (if isB B n p 43 ∨ isB B n p 45 then _ else _) = _
        rw [if_neg c]
      rw [e] at go
      unfold v_X5_readPolynomial_5 v_X5_readPolynomial_104
      exact ⟨fun _ => ⟨z_1, go rfl s h⟩, fun q => absurd rfl q⟩
theorem sp_polC {Q : Int32 → cS → Prop} {B : Nat → Nat} {n b p : Nat} {σ s : cS} {z : Nat → Int} (hT : tpC B n σ) (hb : b + 3 < 12) (h : rdC σ s p z) (hp : p ≤ n) (go : (pol B n b p z).1 = true → ∀ s', rdC σ s' (pol B n b p z).2.1 (pol B n b p z).2.2 → Q 1 s') (no : ¬ (pol B n b p z).1 = true → ∀ s', rdC σ s' (pol B n b p z).2.1 (pol B n b p z).2.2 → Q 0 s') : v_X5_readPolynomial Q 16 (nI b) s := by
  have hn := hT.1
  obtain ⟨f1, f2⟩ := fbg_pr (B := B) hn hp
  obtain ⟨t1, t2, t3⟩ := trm_pr (B := B) (p := fbg B n p) hn f2
  have k45 := bya_eq (p := skp B n p) 45 hT.2.1 (by decide)
  have go66 : ∀ (x3 : Int32) (s1 : cS), x3.toInt64 = iL (sgn2 B n (skp B n p)) → rdC σ s1 (fbg B n p) z → v_X5_readPolynomial_66 Q 16 (v_X5_readPolynomial_5 Q 16 999) (nI b) (nI 0) (nI b) x3 s1 := by
    intro x3 s1 hx h1
    refine sp_66 hT hx hb h1 f2 (fun ok s2 h2 => ?_) (fun ok s2 h2 => ?_)
    · obtain ⟨u1, u2, u3, u4⟩ := t3 ok
      obtain ⟨a1, a2, a3⟩ := skp_pr (B := B) hn t2
      unfold pol at go no
      rw [if_pos ok] at go no
      exact sp_plyC hT hb 90 999 (0 + 1) _ _ s2 (by omega) (by omega) (by omega) (by omega) a2 a3 h2 go no
    · unfold pol at no
      rw [if_neg ok] at no
      exact no (fun w => Bool.noConfusion (show false = true from w)) s2 h2
  show v_X5_readPolynomial_5 Q 16 (999 + 1) (nI b) 1 (nI 0) s
  unfold v_X5_readPolynomial_5 v_X5_readPolynomial_41 v_X5_readPolynomial_51
  refine ⟨fun q => absurd q (by decide), fun _ => ⟨fun q => absurd q (by decide), fun _ => ?_⟩⟩
  refine sp_nxC hT h hp (fun s1 h1 => ?_)
  rw [rdC_2 h1, nI_1]
  refine ⟨fun q => nmB_iff.mpr ⟨fun q2 => absurd q q2, fun _ => go66 _ _ ?_ (rdC_F h1 ?_)⟩, fun q => ?_⟩
  · unfold sgn2; rw [if_pos (k45.mp q)]; decide
  · unfold fbg; rw [if_pos (k45.mp q)]
  · have eg : sgn2 B n (skp B n p) = 1 := by unfold sgn2; rw [if_neg (fun w => q (k45.mpr w))]
    have ef : fbg B n p = skp B n p := by unfold fbg; rw [if_neg (fun w => q (k45.mpr w))]
    rw [eg, ef] at go66
    exact ⟨fun q2 => ⟨fun _ => go66 _ _ (by decide) h1, fun q4 => absurd q4 q⟩, fun q2 => ⟨fun q3 => ⟨fun _ => go66 _ _ (by decide) h1, fun q4 => absurd q4 q⟩, fun q3 => absurd (by decide) q3⟩⟩
theorem sp_lnC {Q : Int32 → cS → Prop} {B : Nat → Nat} {n : Nat} {σ : cS} (hT : tpC B n σ) : ∀ (d m k p : Nat) (z : Nat → Int) (s : cS), k + d = 3 → d < m → p ≤ n → rdC σ s p z → ((lnr B n d k p z).1 = true → ∀ s', rdC σ s' (lnr B n d k p z).2.1 (lnr B n d k p z).2.2 → Q 1 s') → (¬ (lnr B n d k p z).1 = true → ∀ s', rdC σ s' (lnr B n d k p z).2.1 (lnr B n d k p z).2.2 → Q 0 s') → v_X5_read_12 Q 16 m (nI (4 * k)) s := by
  have hn := hT.1
  intro d
  induction d with
  | zero =>
    intro m k p z s hk hm hp h go no
    obtain ⟨m, rfl⟩ : ∃ k, m = k + 1 := ⟨m - 1, by omega⟩
    obtain rfl : k = 3 := by omega
    unfold v_X5_read_12
    exact ⟨fun _ => ⟨z_1, go rfl s h⟩, fun q => absurd (by decide) q⟩
  | succ d ih =>
    intro m k p z s hk hm hp h go no
    obtain ⟨m, rfl⟩ : ∃ k, m = k + 1 := ⟨m - 1, by omega⟩
    unfold v_X5_read_12 v_X5_read_42 v_X5_read_57 v_X5_read_76
    refine ⟨fun q => absurd q (nI_ge (b := 12) (by omega) (by decide)), fun _ => ?_⟩
    rw [show nI (4 * k) + 4 = nI (4 * (k + 1)) from nI_add (4 * k) 4, show (nI (4 * (k + 1)) = 12 ↔ 4 * (k + 1) = 12) from nI_eq (b := 12) (by omega) (by decide)]
    obtain ⟨r1, r2, _⟩ := pol_pr (B := B) (b := 4 * k) (z := z) hn hp
    obtain ⟨s1, s2, _⟩ := skp_pr (B := B) hn r2
    unfold lnr at go no
    refine sp_polC hT (by omega) h hp (fun ok s3 h3 => ⟨fun _ => ?_, fun q => absurd q (by decide)⟩) (fun ok s3 h3 => ⟨fun q => absurd rfl q, fun _ => ⟨z_0, ?_⟩⟩)
    · rw [if_pos ok] at go no
      have k59 := bya_eq (p := skp B n (pol B n (4 * k) p z).2.1) 59 hT.2.1 (by decide)
      have km := bya_m (p := skp B n (pol B n (4 * k) p z).2.1) hT.2.1
      refine ⟨fun q => ?_, fun q => ?_⟩
      · rw [if_neg (by omega)] at go no
        refine sp_nxC hT h3 r2 (fun s4 h4 => ⟨fun _ => ⟨fun q2 => ⟨fun q3 => absurd rfl q3, fun _ => nmB_iff.mpr (nmB_iff.mpr ?_)⟩, fun q2 => ⟨z_0, ?_⟩⟩, fun q2 => absurd rfl q2⟩)
        · have c := k59.mp q2
          rw [if_pos c] at go no
          rw [rdC_2 h4, nI_1]
          have := c.1
          exact ih m (k + 1) _ _ _ (by omega) (by omega) (by omega) (rdC_F h4 rfl) go no
        · rw [if_neg (fun w => q2 (k59.mpr w))] at no
          exact no (fun w => Bool.noConfusion (show false = true from w)) s4 h4
      · rw [if_pos (by omega)] at go no
        refine sp_nxC hT h3 r2 (fun s4 h4 => ⟨fun q2 => absurd q2 (by decide), fun _ => ⟨fun q2 => ⟨fun _ => nmB_iff.mpr ?_, fun q3 => absurd q3 (by decide)⟩, fun q2 => ⟨z_0, ?_⟩⟩⟩)
        · rw [if_neg (km.mp q2)] at go no
          exact ih m (k + 1) _ _ _ (by omega) (by omega) s2 h4 go no
        · rw [if_pos (Decidable.byContradiction (fun w => q2 (km.mpr w)))] at no
          exact no (fun w => Bool.noConfusion (show false = true from w)) s4 h4
    · rw [if_neg ok] at no
      exact no (fun w => Bool.noConfusion (show false = true from w)) s3 h3
theorem sp_readC {Q : Int32 → cS → Prop} {B : Nat → Nat} {n : Nat} {σ : cS} (hT : tpC B n σ) (go : (lnr B n 3 0 0 (fun _ => 0)).1 = true → ∀ s', rdC σ s' (lnr B n 3 0 0 (fun _ => 0)).2.1 (lnr B n 3 0 0 (fun _ => 0)).2.2 → Q 1 s') (no : ¬ (lnr B n 3 0 0 (fun _ => 0)).1 = true → ∀ s', rdC σ s' (lnr B n 3 0 0 (fun _ => 0)).2.1 (lnr B n 3 0 0 (fun _ => 0)).2.2 → Q 0 s') : v_X5_read Q 16 σ := by
  unfold v_X5_read
  refine sp_fill (N := 12) rfl (by decide) (nmB_iff.mpr ?_)
  have g0 : chg (fun a => a = 16) σ (goneC σ 16 12 (fun _ => 0)) := chg_R rfl
  have z0' : ∀ i, i < 12 → (goneC σ 16 12 (fun _ => 0)).1 16 i = iL 0 := fun i hi => goneC_v hi
  revert g0 z0'
  generalize goneC σ 16 12 (fun _ => 0) = σ0
  intro g0 z0'
  refine sp_lnC hT 3 fuL 0 0 (fun _ => 0) _ rfl (by decide) (by omega) ⟨fun a ha => g0.1 a ha, by show σ0.2.1 = _; rw [g0.2], fun o ho => by rw [cUF_ne ho, g0.2], by rw [cUF_at, upd_ne (by decide), g0.2], by show σ0.2.2.2 = _; rw [g0.2], by rw [cUF_at, upd_at]; rfl, fun i hi => z0' i hi⟩ go no
/-! PURE: a LINE is read off the tape: the reference -/
def tpM (B : Nat → Nat) (n : Nat) (τ : mS) : Prop := n ≤ 90 ∧ (∀ i, i < n → 32 ≤ B i ∧ B i ≤ 126) ∧ τ.2.2.1 = nI n ∧ ∀ i, i < n → τ.2.1 7 i = nI (B i)
def rdM (τ s : mS) (p : Nat) (z : Nat → Int) : Prop := (∀ a, a ≠ 3 → s.1 a = τ.1 a) ∧ s.2.1 = τ.2.1 ∧ s.2.2.1 = τ.2.2.1 ∧ s.2.2.2 = nI p ∧ ∀ i, i < 12 → s.1 3 i = iL (z i)
theorem rdM_F {τ s : mS} {p q : Nat} {z : Nat → Int} {x : Int32} (h : rdM τ s p z) (hx : x = nI q) : rdM τ (mUa s x) q z := ⟨h.1, h.2.1, h.2.2.1, hx, h.2.2.2.2⟩
theorem rdM_J {τ s : mS} {p i : Nat} {z z' : Nat → Int} {x : Int64} (h : rdM τ s p z) (hx : x = iL (z' i)) (ho : ∀ k, k ≠ i → z' k = z k) : rdM τ (mUJ s 3 i x) p z' := by
  obtain ⟨a, b, c, d, g⟩ := h
  refine ⟨fun a' ha => by rw [mUJ_ne ha]; exact a a' ha, b, c, d, fun k hk => ?_⟩
  rw [mUJ_at]
  by_cases q : k = i
  · subst q; rw [updL_at]; exact hx
  · rw [updL_ne q, g k hk, ho k q]
theorem rdM_1 {B : Nat → Nat} {n p : Nat} {τ s : mS} {z : Nat → Int} (hT : tpM B n τ) (h : rdM τ s p z) : s.2.2.1 = nI n := by rw [h.2.2.1, hT.2.2.1]
theorem rdM_2 {p : Nat} {τ s : mS} {z : Nat → Int} (h : rdM τ s p z) : s.2.2.2 = nI p := h.2.2.2.1
theorem rdM_b {B : Nat → Nat} {n p i : Nat} {τ s : mS} {z : Nat → Int} (hT : tpM B n τ) (h : rdM τ s p z) (hi : i < n) : s.2.1 7 i = nI (B i) := by rw [h.2.1]; exact hT.2.2.2 i hi
theorem nx38M {Q : Int32 → mS → Prop} {B : Nat → Nat} {n p : Nat} {τ s : mS} {z : Nat → Int} (hT : tpM B n τ) (h : rdM τ s p z) (hp : p ≤ n) (go : Q (bya B n p) s) : w_next_38 Q s := by
  have hn := hT.1
  unfold w_next_38 w_next_62
  rw [rdM_1 hT h, rdM_2 h, nI_leI (show n < 2 ^ 31 by omega) (show p < 2 ^ 31 by omega)]
  refine ⟨fun q => ?_, fun q => ⟨vp_in_nI (N := 90) (by omega) (by decide), ?_⟩⟩
  · unfold bya at go; rwa [if_neg (by omega)] at go
  · rw [nI_clamp (by omega), rdM_b hT h (by omega)]; unfold bya at go; rwa [if_pos (by omega)] at go
theorem sp_nxM {Q : Int32 → mS → Prop} {B : Nat → Nat} {n p : Nat} {τ s : mS} {z : Nat → Int} (hT : tpM B n τ) (h : rdM τ s p z) (hp : p ≤ n) (go : ∀ s', rdM τ s' (skp B n p) z → Q (bya B n (skp B n p)) s') : w_next Q s := by
  have hn := hT.1
  have key : ∀ (d m p : Nat) (s : mS), n ≤ p + d → d < m → p ≤ n → rdM τ s p z → (∀ s', rdM τ s' (skB B n d p) z → Q (bya B n (skB B n d p)) s') → w_next_0 Q m s := by
    intro d
    induction d with
    | zero =>
      intro m p s hd hm hp h go
      obtain ⟨m, rfl⟩ : ∃ k, m = k + 1 := ⟨m - 1, by omega⟩
      unfold w_next_0
      rw [rdM_1 hT h, rdM_2 h, nI_leI (show n < 2 ^ 31 by omega) (show p < 2 ^ 31 by omega)]
      exact ⟨fun _ => nx38M hT h hp (go s h), fun q => absurd (show n ≤ p by omega) q⟩
    | succ d ih =>
      intro m p s hd hm hp h go
      obtain ⟨m, rfl⟩ : ∃ k, m = k + 1 := ⟨m - 1, by omega⟩
      have no : ¬ isB B n p 32 → w_next_38 Q s := fun q => by
        have e : skB B n (d + 1) p = p := by unfold skB; rw [if_neg q]
        rw [e] at go
        exact nx38M hT h hp (go s h)
      unfold w_next_0
      rw [rdM_1 hT h, rdM_2 h, nI_leI (show n < 2 ^ 31 by omega) (show p < 2 ^ 31 by omega)]
      refine ⟨fun q => no (fun y => by have := y.1; omega), fun q => ⟨vp_in_nI (N := 90) (by omega) (by decide), ?_⟩⟩
      have hb := hT.2.1 p (by omega)
      rw [nI_clamp (show p < 2 ^ 31 by omega), rdM_b hT h (by omega), show (nI (B p) = 32 ↔ B p = 32) from nI_eq (b := 32) (by omega) (by decide), nI_1 p]
      refine ⟨fun q => no (fun y => q y.2), fun q => nmB_iff.mpr (ih m (p + 1) _ (by omega) (by omega) (by omega) (rdM_F h rfl) ?_)⟩
      have e : skB B n (d + 1) p = skB B n d (p + 1) := by
        show (if isB B n p 32 then skB B n d (p + 1) else p) = _
        rw [if_pos ⟨by omega, q⟩]
      rw [e] at go
      exact go
  exact key 90 fuL p s (by omega) (by decide) hp h go
theorem sp_dgM {Q : Int32 → mS → Prop} {x : Int32} {s : mS} (h1 : inR x 48 57 → Q 1 s) (h0 : ¬ inR x 48 57 → Q 0 s) : w_in Q x.toInt64 48 57 s := by
  rw [i32_iL]
  have a := x.toInt_lt
  have b := x.le_toInt
  exact sp_in64 (by unfold r63; omega) (by decide) (by decide) h1 h0
/-- the class's number, and the reference's -/
def rlV (v V : Nat) : Prop := (V = v ∧ v ≤ 99) ∨ (v = 100 ∧ 100 ≤ V ∧ V ≤ 2000)
theorem sp_nbM {Q : Int32 → mS → Prop} {B : Nat → Nat} {n : Nat} {τ : mS} {z : Nat → Int} {x1 x2 x4 x6 : Int32} (hT : tpM B n τ) : ∀ (d m p v V : Nat) (s : mS), n ≤ p + d → d < m → p ≤ n → rlV v V → rdM τ s p z → (∀ s' V', rlV (nbr B n d p v).1 V' → rdM τ s' (nbr B n d p v).2 z → w_readTerm_105 Q x1 x2 x4 (nI V') x6 s') → w_readTerm_27 Q m x1 x2 x4 (nI V) x6 s := by
  have hn := hT.1
  intro d
  induction d with
  | zero =>
    intro m p v V s hd hm hp hv h go
    obtain ⟨m, rfl⟩ : ∃ k, m = k + 1 := ⟨m - 1, by omega⟩
    unfold w_readTerm_27
    rw [rdM_1 hT h, rdM_2 h, nI_leI (show n < 2 ^ 31 by omega) (show p < 2 ^ 31 by omega)]
    exact ⟨fun _ => go s V hv h, fun q => absurd (show n ≤ p by omega) q⟩
  | succ d ih =>
    intro m p v V s hd hm hp hv h go
    obtain ⟨m, rfl⟩ : ∃ k, m = k + 1 := ⟨m - 1, by omega⟩
    have no : ¬ isDg B n p → w_readTerm_105 Q x1 x2 x4 (nI V) x6 s := fun q => by
      have e : nbr B n (d + 1) p v = (v, p) := by unfold nbr; rw [if_neg q]
      rw [e] at go
      exact go s V hv h
    unfold w_readTerm_27 w_readTerm_90
    rw [rdM_1 hT h, rdM_2 h, nI_leI (show n < 2 ^ 31 by omega) (show p < 2 ^ 31 by omega)]
    refine ⟨fun q => no (fun y => by have := y.1; omega), fun q => ⟨vp_in_nI (N := 90) (by omega) (by decide), ?_⟩⟩
    have hb := hT.2.1 p (by omega)
    rw [nI_clamp (show p < 2 ^ 31 by omega), rdM_b hT h (by omega)]
    refine sp_dgM (fun y => ⟨fun q => absurd q (by decide), fun _ => ?_⟩) (fun y => ⟨fun _ => no (fun q => y ?_), fun q => absurd rfl q⟩)
    · unfold inR at y
      rw [nI_toInt (by omega)] at y
      have hV : V ≤ 2000 := by unfold rlV at hv; omega
      have e : nbr B n (d + 1) p v = nbr B n d (p + 1) (if 100 < 10 * v + (B p - 48) then 100 else 10 * v + (B p - 48)) := by
        show (if isDg B n p then nbr B n d (p + 1) (if 100 < 10 * v + (B p - 48) then 100 else 10 * v + (B p - 48)) else (v, p)) = _
        rw [if_pos ⟨by omega, by omega, by omega⟩]
      rw [e] at go
      rw [rdM_2 h, nI_clamp (show p < 2 ^ 31 by omega), rdM_b hT h (by omega), show (10 : Int32) = nI 10 from rfl, pk_mul, nI_add, show nI (10 * V + B p) - 48 = nI (10 * V + B p - 48) from nI_sub2 (b := 48) (by omega), nI_1 p, show (nI V ≤ 99 ↔ V ≤ 99) from nI_leI (b := 99) (by omega) (by decide)]
      refine ⟨fun q => ⟨vp_in_nI (N := 90) (by omega) (by decide), nmB_iff.mpr (ih m (p + 1) _ _ _ (by omega) (by omega) (by omega) ?_ (rdM_F h rfl) go)⟩, fun q => nmB_iff.mpr (ih m (p + 1) _ _ _ (by omega) (by omega) (by omega) ?_ (rdM_F h rfl) go)⟩
      · unfold rlV at *; split <;> omega
      · unfold rlV at *; split <;> omega
    · unfold inR
      rw [nI_toInt (by omega)]
      have := q.2
      omega
theorem sgv {x : Int32} {sg : Int} {v : Nat} (hx : x = iI sg) (hs : sg = 1 ∨ sg = -1) (hv : v ≤ 99) : (x * nI v).toInt64 = iL (sg * v) := by
  rw [hx, show nI v = iI (v : Int) from rfl, iI_mul, i32_iL, iI_toInt (by unfold r31; rcases hs with rfl | rfl <;> omega)]
theorem sp_188 {Q : Int32 → mS → Prop} {p k e v : Nat} {τ s : mS} {z : Nat → Int} {sg : Int} {x2 x5 x6 : Int32} {t : Bool × Nat × Nat × Nat} (hx : x2 = iI sg) (hs : sg = 1 ∨ sg = -1) (hb : 4 * k + e < 12) (hv : v ≤ 99) (h6 : (x6 = 0 ∧ v = 1) ∨ (¬ x6 = 0 ∧ x5 = nI v)) (t1 : t.2.2.1 = v) (t2 : t.2.2.2 = e) (h : rdM τ s p z) (go : ∀ s', rdM τ s' p (adt z (4 * k) sg t) → Q 1 s') : w_readTerm_188 Q (nI k) x2 x5 x6 (nI e) s := by
  unfold w_readTerm_188 w_readTerm_212
  rw [show (4 : Int32) = nI 4 from rfl, pk_mul, nI_add, nI_clamp (show 4 * k + e < 2 ^ 31 by omega), h.2.2.2.2 (4 * k + e) hb]
  have w := vp_in_nI hb (show 12 < 2 ^ 31 by decide)
  have fin : ∀ y : Int32, y = nI v → Q 1 (mUJ s 3 (4 * k + e) (iL (z (4 * k + e)) + (x2 * y).toInt64)) := by
    intro y hy
    rw [hy, sgv hx hs hv, iL_add]
    refine go _ (rdM_J h ?_ (fun i hi => ?_))
    · unfold adt; rw [if_pos (by rw [t2]), t1]
    · unfold adt; rw [if_neg (by rw [t2]; exact hi)]
  rcases h6 with ⟨a, b⟩ | ⟨a, b⟩
  · exact ⟨w, fun _ => ⟨w, nmB_iff.mpr ⟨z_1, fin 1 (by rw [b]; rfl)⟩⟩, fun q => absurd a q⟩
  · exact ⟨w, fun q => absurd q a, fun _ => ⟨w, nmB_iff.mpr ⟨z_1, fin x5 b⟩⟩⟩
theorem sp_trtM {Q : Int32 → mS → Prop} {B : Nat → Nat} {n p k v : Nat} {τ s : mS} {z : Nat → Int} {sg : Int} {x2 x4 x5 x6 : Int32} (hT : tpM B n τ) (hx : x2 = iI sg) (hs : sg = 1 ∨ sg = -1) (hb : k < 3) (hv : v ≤ 99) (h6 : (x6 = 0 ∧ v = 1) ∨ (¬ x6 = 0 ∧ x5 = nI v)) (h5 : x5 ≤ 99) (h : rdM τ s p z) (hp : p ≤ n) (go : (isB B n (skp B n p) 116 ∨ ¬ x6 = 0) → ∀ s', rdM τ s' (trt B n v p).2.1 (adt z (4 * k) sg (trt B n v p)) → Q 1 s') (no : ¬ isB B n (skp B n p) 116 → x6 = 0 → ∀ s', rdM τ s' (skp B n p) z → Q 0 s') : w_readTerm_105 Q (nI k) x2 x4 x5 x6 s := by
  have hn := hT.1
  unfold w_readTerm_105 w_readTerm_162
  refine ⟨fun _ => ?_, fun q => absurd h5 q⟩
  refine sp_nxM hT h hp (fun s1 h1 => ?_)
  obtain ⟨a1, a2, _⟩ := skp_pr (B := B) hn hp
  have k116 := bya_eq (p := skp B n p) 116 hT.2.1 (by decide)
  unfold trt at go
  refine ⟨fun q => ⟨fun q2 => ?_, fun q2 => ⟨z_0, no (fun y => q (k116.mpr y)) q2 s1 h1⟩⟩, fun q => nmB_iff.mpr ?_⟩
  · have go' := go (Or.inr q2)
    rw [if_neg (fun y => q (k116.mpr y))] at go'
    exact sp_188 (e := 0) hx hs (by omega) hv h6 rfl rfl h1 go'
  · have c := k116.mp q
    have go' := go (Or.inl c)
    rw [if_pos c] at go'
    have c1 := c.1
    rw [rdM_2 h1, nI_1]
    obtain ⟨b1, b2, _⟩ := skp_pr (B := B) (p := skp B n p + 1) hn (by omega)
    refine sp_nxM hT (rdM_F h1 rfl) (by omega) (fun s2 h2 => ?_)
    have k50 := bya_eq (p := skp B n (skp B n p + 1)) 50 hT.2.1 (by decide)
    have k51 := bya_eq (p := skp B n (skp B n p + 1)) 51 hT.2.1 (by decide)
    rw [rdM_2 h2, nI_1]
    refine ⟨fun q => nmB_iff.mpr (nmB_iff.mpr ?_), fun q => ⟨fun q2 => ?_, fun q2 => nmB_iff.mpr (nmB_iff.mpr ?_)⟩⟩
    · rw [if_pos (k50.mp q)] at go'
      rw [q]
      exact sp_188 (e := 2) hx hs (by omega) hv h6 rfl rfl (rdM_F h2 rfl) go'
    · rw [if_neg (fun y => q (k50.mpr y)), if_neg (fun y => q2 (k51.mpr y))] at go'
      exact sp_188 (e := 1) hx hs (by omega) hv h6 rfl rfl h2 go'
    · rw [if_neg (fun y => q (k50.mpr y)), if_pos (k51.mp q2)] at go'
      rw [q2]
      exact sp_188 (e := 3) hx hs (by omega) hv h6 rfl rfl (rdM_F h2 rfl) go'
theorem sp_trmM {Q : Int32 → mS → Prop} {B : Nat → Nat} {n p k : Nat} {τ s : mS} {z : Nat → Int} {sg : Int} {x2 : Int32} (hT : tpM B n τ) (hx : x2 = iI sg) (hs : sg = 1 ∨ sg = -1) (hb : k < 3) (h : rdM τ s p z) (hp : p ≤ n) (go : (trm B n p).1 = true → ∀ s', rdM τ s' (trm B n p).2.1 (adt z (4 * k) sg (trm B n p)) → Q 1 s') (no : ¬ (trm B n p).1 = true → ∀ s', rdM τ s' (trm B n p).2.1 z → Q 0 s') : w_readTerm Q (nI k) x2 s := by
  have hn := hT.1
  obtain ⟨a1, a2, a3⟩ := skp_pr (B := B) hn hp
  unfold w_readTerm
  refine sp_nxM hT h hp (fun s1 h1 => nmB_iff.mpr ?_)
  refine sp_dgM (fun y => ?_) (fun y => ?_)
  · have c := (bya_dg hT.2.1).mp y
    have e : trm B n p = if (nbr B n 90 (skp B n p) 0).1 ≤ 99 then trt B n (nbr B n 90 (skp B n p) 0).1 (nbr B n 90 (skp B n p) 0).2 else (false, skp B n p, 0, 0) := by unfold trm; rw [if_pos c]
    obtain ⟨b1, b2, _⟩ := nbr_0 c
    refine sp_nbM hT 90 fuL (skp B n p) 0 0 s1 (by omega) (by decide) a2 (Or.inl ⟨rfl, by omega⟩) h1 (fun s2 V hV h2 => ?_)
    have b3 := (nbr_pr (B := B) (n := n) 90 (skp B n p) 0 a2 (by omega)).2.2.1
    have hV2 : V ≤ 2000 := by unfold rlV at hV; omega
    have l : (nI V ≤ 99) ↔ V ≤ 99 := nI_leI (b := 99) (by omega) (by decide)
    by_cases q : (nbr B n 90 (skp B n p) 0).1 ≤ 99
    · rw [if_pos q] at e
      rw [e] at go
      have eV : V = (nbr B n 90 (skp B n p) 0).1 := by unfold rlV at hV; omega
      exact sp_trtM hT hx hs hb q (Or.inr ⟨by decide, by rw [eV]⟩) (l.mpr (by omega)) h2 b2 (fun _ => go (trt_pr hn b2).1) (fun _ w => absurd w (by decide))
    · rw [if_neg q] at e
      rw [e] at no
      unfold w_readTerm_105
      refine ⟨fun w => absurd (l.mp w) (by unfold rlV at hV; omega), fun _ => nmB_iff.mpr ⟨z_0, no (fun w => Bool.noConfusion (show false = true from w)) _ (rdM_F h2 (rdM_2 h1))⟩⟩
  · have c : ¬ isDg B n (skp B n p) := fun q => y ((bya_dg hT.2.1).mpr q)
    have e : trm B n p = if isB B n (skp B n p) 116 then trt B n 1 (skp B n p) else (false, skp B n p, 0, 0) := by unfold trm; rw [if_neg c]
    refine sp_nbM hT 90 fuL (skp B n p) 0 0 s1 (by omega) (by decide) a2 (Or.inl ⟨rfl, by omega⟩) h1 (fun s2 V hV h2 => ?_)
    have e0 : nbr B n 90 (skp B n p) 0 = (0, skp B n p) := by
      show (if isDg B n (skp B n p) then _ else _) = _
      rw [if_neg c]
    rw [e0] at hV h2
    have eV : V = 0 := by unfold rlV at hV; omega
    subst eV
    refine sp_trtM (v := 1) hT hx hs hb (by omega) (Or.inl ⟨rfl, rfl⟩) (by decide) h2 a2 (fun w => ?_) (fun w _ => ?_)
    · rw [skp_id hn hp] at w
      have c2 := w.elim id (fun w => absurd rfl w)
      rw [if_pos c2] at e
      rw [e] at go
      exact go (trt_pr hn a2).1
    · rw [skp_id hn hp] at w ⊢
      rw [if_neg w] at e
      rw [e] at no
      exact no (fun w => Bool.noConfusion (show false = true from w))
theorem sp_plyM {Q : Int32 → mS → Prop} {B : Nat → Nat} {n k : Nat} {τ : mS} (hT : tpM B n τ) (hb : k < 3) : ∀ (d m p : Nat) (z : Nat → Int) (s : mS), n ≤ p + d → d < m → p ≤ n → rdM τ s p z → ((ply B n (4 * k) d p z).1 = true → ∀ s', rdM τ s' (ply B n (4 * k) d p z).2.1 (ply B n (4 * k) d p z).2.2 → Q 1 s') → (¬ (ply B n (4 * k) d p z).1 = true → ∀ s', rdM τ s' (ply B n (4 * k) d p z).2.1 (ply B n (4 * k) d p z).2.2 → Q 0 s') → w_readPolynomial_51 Q m (nI k) (bya B n p) s := by
  have hn := hT.1
  intro d
  induction d with
  | zero =>
    intro m p z s hd hm hp h go no
    obtain ⟨m, rfl⟩ : ∃ k, m = k + 1 := ⟨m - 1, by omega⟩
    have k43 := bya_eq (p := p) 43 hT.2.1 (by decide)
    have k45 := bya_eq (p := p) 45 hT.2.1 (by decide)
    unfold w_readPolynomial_51
    exact ⟨fun q => absurd (k43.mp q).1 (by omega), fun _ => ⟨fun _ => ⟨z_1, go rfl s h⟩, fun q => absurd (k45.mp q).1 (by omega)⟩⟩
  | succ d ih =>
    intro m p z s hd hm hp h go no
    obtain ⟨m, rfl⟩ : ∃ k, m = k + 1 := ⟨m - 1, by omega⟩
    have k43 := bya_eq (p := p) 43 hT.2.1 (by decide)
    have k45 := bya_eq (p := p) 45 hT.2.1 (by decide)
    have yes : (isB B n p 43 ∨ isB B n p 45) → w_readPolynomial_63 Q (w_readPolynomial_51 Q m) (nI k) (bya B n p) s := by
      intro c
      have c1 : p < n := c.elim (fun q => q.1) (fun q => q.1)
      have e : ply B n (4 * k) (d + 1) p z = if (trm B n (p + 1)).1 then ply B n (4 * k) d (skp B n (trm B n (p + 1)).2.1) (adt z (4 * k) (sgn2 B n p) (trm B n (p + 1))) else (false, (trm B n (p + 1)).2.1, z) := by
        show (if isB B n p 43 ∨ isB B n p 45 then _ else _) = _
        rw [if_pos c]
      obtain ⟨t1, t2, t3⟩ := trm_pr (B := B) (p := p + 1) hn (by omega)
      have go86 : ∀ (x2 : Int32) (s1 : mS), x2 = iI (sgn2 B n p) → rdM τ s1 (p + 1) z → w_readPolynomial_86 Q (w_readPolynomial_51 Q m) (nI k) (nI k) x2 s1 := by
        intro x2 s1 hx h1
        unfold w_readPolynomial_86
        refine sp_trmM hT hx (sgn_or B n p) hb h1 (by omega) (fun ok s2 h2 => ⟨fun _ => ?_, fun q => absurd q (by decide)⟩) (fun ok s2 h2 => ⟨fun q => absurd rfl q, fun _ => ⟨z_0, ?_⟩⟩)
        · obtain ⟨u1, u2, u3, u4⟩ := t3 ok
          obtain ⟨a1, a2, a3⟩ := skp_pr (B := B) hn t2
          rw [if_pos ok] at e
          rw [e] at go no
          exact sp_nxM hT h2 t2 (fun s3 h3 => ih m _ _ s3 (by omega) (by omega) a2 h3 go no)
        · rw [if_neg ok] at e
          rw [e] at no
          exact no (fun w => Bool.noConfusion (show false = true from w)) s2 h2
      unfold w_readPolynomial_63
      rw [rdM_2 h, nI_1 p]
      refine nmB_iff.mpr ⟨fun q => go86 _ _ ?_ (rdM_F h rfl), fun q => go86 _ _ ?_ (rdM_F h rfl)⟩
      · unfold sgn2; rw [if_neg (fun w => q (k45.mpr w))]; decide
      · unfold sgn2; rw [if_pos (k45.mp q)]; decide
    unfold w_readPolynomial_51
    refine ⟨fun q => yes (Or.inl (k43.mp q)), fun q => ⟨fun q2 => ⟨z_1, ?_⟩, fun q2 => yes (Or.inr (k45.mp q2))⟩⟩
    have e : ply B n (4 * k) (d + 1) p z = (true, p, z) := by
      show (if isB B n p 43 ∨ isB B n p 45 then _ else _) = _
      rw [if_neg (fun c => c.elim (fun w => q (k43.mpr w)) (fun w => q2 (k45.mpr w)))]
    rw [e] at go
    exact go rfl s h
theorem sp_polM {Q : Int32 → mS → Prop} {B : Nat → Nat} {n k p : Nat} {τ s : mS} {z : Nat → Int} (hT : tpM B n τ) (hb : k < 3) (h : rdM τ s p z) (hp : p ≤ n) (go : (pol B n (4 * k) p z).1 = true → ∀ s', rdM τ s' (pol B n (4 * k) p z).2.1 (pol B n (4 * k) p z).2.2 → Q 1 s') (no : ¬ (pol B n (4 * k) p z).1 = true → ∀ s', rdM τ s' (pol B n (4 * k) p z).2.1 (pol B n (4 * k) p z).2.2 → Q 0 s') : w_readPolynomial Q (nI k) s := by
  have hn := hT.1
  obtain ⟨f1, f2⟩ := fbg_pr (B := B) hn hp
  obtain ⟨t1, t2, t3⟩ := trm_pr (B := B) (p := fbg B n p) hn f2
  have k45 := bya_eq (p := skp B n p) 45 hT.2.1 (by decide)
  have go38 : ∀ (x2 : Int32) (s1 : mS), x2 = iI (sgn2 B n (skp B n p)) → rdM τ s1 (fbg B n p) z → w_readPolynomial_38 Q (nI k) (nI k) x2 s1 := by
    intro x2 s1 hx h1
    unfold w_readPolynomial_38
    refine sp_trmM hT hx (sgn_or B n _) hb h1 f2 (fun ok s2 h2 => ⟨fun _ => ?_, fun q => absurd q (by decide)⟩) (fun ok s2 h2 => ⟨fun q => absurd rfl q, fun _ => ⟨z_0, ?_⟩⟩)
    · obtain ⟨u1, u2, u3, u4⟩ := t3 ok
      obtain ⟨a1, a2, a3⟩ := skp_pr (B := B) hn t2
      unfold pol at go no
      rw [if_pos ok] at go no
      exact sp_nxM hT h2 t2 (fun s3 h3 => sp_plyM hT hb 90 fuL _ _ s3 (by omega) (by decide) a2 h3 go no)
    · unfold pol at no
      rw [if_neg ok] at no
      exact no (fun w => Bool.noConfusion (show false = true from w)) s2 h2
  unfold w_readPolynomial w_readPolynomial_21
  refine sp_nxM hT h hp (fun s1 h1 => ?_)
  rw [rdM_2 h1, nI_1, show nI (skp B n p) + 0 = nI (skp B n p) from nI_add _ 0]
  refine ⟨fun q => nmB_iff.mpr ⟨fun _ => go38 _ _ ?_ (rdM_F h1 ?_), fun q2 => absurd q2 q⟩, fun q => nmB_iff.mpr ⟨fun q2 => absurd q q2, fun _ => go38 _ _ ?_ (rdM_F h1 ?_)⟩⟩
  · unfold sgn2; rw [if_neg (fun w => q (k45.mpr w))]; decide
  · unfold fbg; rw [if_neg (fun w => q (k45.mpr w))]
  · unfold sgn2; rw [if_pos (k45.mp q)]; decide
  · unfold fbg; rw [if_pos (k45.mp q)]
theorem sp_lnM {Q : Int32 → mS → Prop} {B : Nat → Nat} {n : Nat} {τ : mS} (hT : tpM B n τ) : ∀ (d m k p : Nat) (z : Nat → Int) (s : mS), k + d = 3 → d < m → p ≤ n → rdM τ s p z → ((lnr B n d k p z).1 = true → ∀ s', rdM τ s' (lnr B n d k p z).2.1 (lnr B n d k p z).2.2 → Q 1 s') → (¬ (lnr B n d k p z).1 = true → ∀ s', rdM τ s' (lnr B n d k p z).2.1 (lnr B n d k p z).2.2 → Q 0 s') → w_readLine_28 Q m (nI k) s := by
  have hn := hT.1
  intro d
  induction d with
  | zero =>
    intro m k p z s hk hm hp h go no
    obtain ⟨m, rfl⟩ : ∃ k, m = k + 1 := ⟨m - 1, by omega⟩
    obtain rfl : k = 3 := by omega
    unfold w_readLine_28
    exact ⟨fun _ => ⟨z_1, go rfl s h⟩, fun q => absurd (by decide) q⟩
  | succ d ih =>
    intro m k p z s hk hm hp h go no
    obtain ⟨m, rfl⟩ : ∃ k, m = k + 1 := ⟨m - 1, by omega⟩
    unfold w_readLine_28 w_readLine_56 w_readLine_59 w_readLine_76
    refine ⟨fun q => absurd q (nI_ge (b := 3) (by omega) (by decide)), fun _ => ?_⟩
    rw [show ((2 : Int32) ≤ nI k ↔ 2 ≤ k) from nI_leI (a := 2) (by decide) (by omega), nI_1 k]
    obtain ⟨r1, r2, _⟩ := pol_pr (B := B) (b := 4 * k) (z := z) hn hp
    obtain ⟨s1, s2, _⟩ := skp_pr (B := B) hn r2
    unfold lnr at go no
    refine sp_polM hT (by omega) h hp (fun ok s3 h3 => ⟨fun q => absurd q (by decide), fun _ => ?_⟩) (fun ok s3 h3 => ⟨fun _ => ⟨z_0, ?_⟩, fun q => absurd rfl q⟩)
    · rw [if_pos ok] at go no
      have k59 := bya_eq (p := skp B n (pol B n (4 * k) p z).2.1) 59 hT.2.1 (by decide)
      have km := bya_m (p := skp B n (pol B n (4 * k) p z).2.1) hT.2.1
      refine sp_nxM hT h3 r2 (fun s4 h4 => ?_)
      rw [rdM_2 h4, nI_1, show nI (skp B n (pol B n (4 * k) p z).2.1) + 0 = nI (skp B n (pol B n (4 * k) p z).2.1) from nI_add _ 0]
      refine ⟨fun q => ?_, fun q => ?_⟩
      · rw [if_pos (by omega)] at go no
        refine ⟨fun q2 => ⟨fun _ => nmB_iff.mpr (nmB_iff.mpr ?_), fun q3 => absurd q q3⟩, fun q2 => ⟨z_0, ?_⟩⟩
        · rw [if_neg (km.mp q2)] at go no
          exact ih m (k + 1) _ _ _ (by omega) (by omega) s2 (rdM_F h4 rfl) go no
        · rw [if_pos (Decidable.byContradiction (fun w => q2 (km.mpr w)))] at no
          exact no (fun w => Bool.noConfusion (show false = true from w)) s4 h4
      · rw [if_neg (by omega)] at go no
        refine ⟨fun q2 => ⟨fun q3 => absurd q3 q, fun _ => nmB_iff.mpr (nmB_iff.mpr ?_)⟩, fun q2 => ⟨z_0, ?_⟩⟩
        · have c := k59.mp q2
          rw [if_pos c] at go no
          have := c.1
          exact ih m (k + 1) _ _ _ (by omega) (by omega) (by omega) (rdM_F h4 rfl) go no
        · rw [if_neg (fun w => q2 (k59.mpr w))] at no
          exact no (fun w => Bool.noConfusion (show false = true from w)) s4 h4
    · rw [if_neg ok] at no
      exact no (fun w => Bool.noConfusion (show false = true from w)) s3 h3
theorem sp_readM {Q : Int32 → mS → Prop} {B : Nat → Nat} {n : Nat} {τ : mS} (hT : tpM B n τ) (go : (lnr B n 3 0 0 (fun _ => 0)).1 = true → ∀ s', rdM τ s' (lnr B n 3 0 0 (fun _ => 0)).2.1 (lnr B n 3 0 0 (fun _ => 0)).2.2 → Q 1 s') (no : ¬ (lnr B n 3 0 0 (fun _ => 0)).1 = true → ∀ s', rdM τ s' (lnr B n 3 0 0 (fun _ => 0)).2.1 (lnr B n 3 0 0 (fun _ => 0)).2.2 → Q 0 s') : w_readLine Q τ := by
  unfold w_readLine
  refine nmB_iff.mpr ?_
  refine loopU (N := 12) (F := fun m x s => w_readLine_7 Q m x s) (I := fun c s => (∀ a, a ≠ 3 → s.1 a = τ.1 a) ∧ s.2.1 = τ.2.1 ∧ s.2.2.1 = τ.2.2.1 ∧ s.2.2.2 = nI 0 ∧ ∀ i, i < c → s.1 3 i = iL 0) (by decide) ?_ ?_ (mUa τ 0) ⟨fun _ _ => rfl, rfl, rfl, rfl, fun i hi => by omega⟩
  · intro m c s hc ⟨h1, h2, h3, h4, h5⟩ nx
    show w_readLine_7 Q (m + 1) (nI c) s
    unfold w_readLine_7
    rw [nI_clamp (show c < 2 ^ 31 by omega), nI_1 c]
    refine ⟨fun q => absurd q (nI_ge (b := 12) hc (by decide)), fun _ => ⟨vp_in_nI (N := 12) hc (by decide), nmB_iff.mpr (nmB_iff.mpr (nx _ ⟨fun a ha => by rw [mUJ_ne ha]; exact h1 a ha, h2, h3, h4, fun i hi => ?_⟩))⟩⟩
    rw [mUJ_at]
    by_cases q : i = c
    · subst q; rw [updL_at]; rfl
    · rw [updL_ne q]; exact h5 i (by omega)
  · intro m s ⟨h1, h2, h3, h4, h5⟩
    show w_readLine_7 Q (m + 1) (nI 12) s
    unfold w_readLine_7
    exact ⟨fun _ => sp_lnM hT 3 fuL 0 0 (fun _ => 0) s rfl (by decide) (by omega) ⟨h1, h2, h3, h4, h5⟩ go no, fun q => absurd (by decide) q⟩
/-- the tape is empty again -/
theorem Inv_off {σ s : cS} {τ s' : mS} {p p' : Nat} {z z' : Nat → Int} (hI : Inv σ τ) (h : rdC σ s p z) (h' : rdM τ s' p' z') : Inv (cUF s 1 1 0) (mUt s' 0) := by
  obtain ⟨i1, i2, i3, i4⟩ := hI
  obtain ⟨a1, a2, a3, a4, a5, a6, a7⟩ := h
  obtain ⟨b1, b2, b3, b4, b5⟩ := h'
  have f : ∀ o, o ≠ 1 → (cUF s 1 1 0).2.2.1 o = σ.2.2.1 o := fun o ho => by rw [cUF_ne ho]; exact a3 o ho
  refine ⟨?_, ⟨0, by omega, by rw [cUF_at, upd_at]; rfl, rfl, fun i hi => by omega⟩, fun j hj => ?_, fun j hj => ?_⟩
  · unfold plainR at *
    rw [show (cUF s 1 1 0).2.2.2 = σ.2.2.2 from a5]
    exact i1
  · have := i3 j hj
    unfold sheetR at *
    rw [f _ (by omega), show (mUt s' 0).2.1 = τ.2.1 from b2, show (cUF s 1 1 0).1 = s.1 from rfl, a1 _ (by omega)]
    exact this
  · have := i4 j hj
    unfold lineR known at *
    rw [f _ (by omega), show (mUt s' 0).2.1 = τ.2.1 from b2, show (cUF s 1 1 0).1 = s.1 from rfl, show (mUt s' 0).1 = s'.1 from rfl, b1 2 (by decide), a1 _ (by omega), a1 _ (by omega), a1 _ (by omega), a1 _ (by omega)]
    exact this
theorem st_line : ∀ (z0 : Int32) (σ : cS) (τ : mS), Inv σ τ → v_X7_line (fun r σ1 => w_line (fun r2 τ1 => r = r2 ∧ Inv σ1 τ1) z0 τ) z0 σ := by
  intro z0 σ τ hI
  rcases inRd z0 0 3 with h | h
  · exact isLineC_f h ⟨fun q => absurd rfl q, fun _ => isLineM_f h ⟨fun q => absurd rfl q, fun _ => ⟨rfl, hI⟩⟩⟩
  · obtain ⟨j, hj, rfl⟩ := inR_nat (b := 3) h (by decide)
    obtain ⟨n, hn, t1, t2, tb⟩ := id hI.2.1
    have hT : tpM (fun i => (τ.2.1 7 i).toNatClampNeg) n τ := by
      refine ⟨hn, fun i hi => ?_, t2, fun i hi => ?_⟩
      · obtain ⟨_, b, b1, b2, e⟩ := tb i hi
        show 32 ≤ (τ.2.1 7 i).toNatClampNeg ∧ (τ.2.1 7 i).toNatClampNeg ≤ 126
        rw [e, nI_clamp (by omega)]; exact ⟨b1, b2⟩
      · obtain ⟨_, b, b1, b2, e⟩ := tb i hi
        show τ.2.1 7 i = nI (τ.2.1 7 i).toNatClampNeg
        rw [e, nI_clamp (by omega)]
    have hC : tpC (fun i => (τ.2.1 7 i).toNatClampNeg) n σ := ⟨hn, hT.2.1, t1, fun i hi => by rw [(tb i hi).1]; exact hT.2.2.2 i hi⟩
    revert hT hC
    generalize (fun i => (τ.2.1 7 i).toNatClampNeg) = B
    intro hT hC
    refine isLineC_t (by omega) ⟨fun _ => ?_, fun q => absurd q (by decide)⟩
    refine sp_readC hC (fun ok s h1 => nmB_iff.mpr (nmB_iff.mpr ⟨fun _ => ?_, fun q => absurd q (by decide)⟩)) (fun ok s h1 => nmB_iff.mpr (nmB_iff.mpr ⟨fun q => absurd rfl q, fun _ => ?_⟩))
    · have hb := lnr_ab (B := B) hn 3 0 0 (fun _ => 0) rfl (by omega) (fun q => by omega) (fun i => Nat.le_refl _) (fun i _ => rfl) ok
      have h0 : rdM τ (mUa (mUJ τ 3 0 (τ.1 3 0)) 0) 0 (fun i => (τ.1 3 i).toInt) := by
        refine ⟨fun a ha => by show (mUJ τ 3 0 (τ.1 3 0)).1 a = _; rw [mUJ_ne ha], rfl, rfl, rfl, fun i hi => ?_⟩
        show (mUJ τ 3 0 (τ.1 3 0)).1 3 i = _
        rw [mUJ_at]
        by_cases q : i = 0
        · subst q; rw [updL_at]; exact iL_of _
        · rw [updL_ne q]; exact iL_of _
      have hI1 := Inv_off hI h1 h0
      refine glue_make (R := fun Q => w_line Q (nI j) τ) (by omega) hI1 (fun i hi => h1.2.2.2.2.2.2 i hi) (fun i hi => ab_le (hb i) (by decide)) (fun Q hQ => ?_)
      refine isLineM_t (by omega) ⟨fun _ => ?_, fun q => absurd q (by decide)⟩
      refine sp_readM hT (fun _ s' h2 => nmB_iff.mpr ⟨fun q => absurd q (by decide), fun _ => hQ _ ⟨fun i hi => h2.2.2.2.2 i hi, ?_⟩⟩) (fun no => absurd ok no)
      refine ⟨?_, h2.2.1, rfl⟩
      show s'.1 2 = (mUJ τ 3 0 (τ.1 3 0)).1 2
      rw [mUJ_ne (by decide)]
      exact h2.1 2 (by decide)
    · refine isLineM_t (by omega) ⟨fun _ => ?_, fun q => absurd q (by decide)⟩
      refine sp_readM hT (fun y => absurd y ok) (fun _ s' h2 => nmB_iff.mpr ⟨fun _ => ⟨?_, Inv_off hI h1 h2⟩, fun q => absurd rfl q⟩)
      rw [rdC_2 h1, show (mUt s' 0).2.2.2 = s'.2.2.2 from rfl, rdM_2 h2]
