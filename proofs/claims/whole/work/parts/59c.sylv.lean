/-! PURE: minors with a border; exchanging rows -/
def bmk : Nat → (Nat → Nat → Int) → Nat → Nat → Int
  | 0, B, r, c => B r c
  | 1, B, r, c => B r c * B 0 0 - B r 0 * B 0 c
  | 2, B, r, c => dt3 (fun i j => B (if i < 2 then i else r) (if j < 2 then j else c))
  | 3, B, r, c => dt4 (fun i j => B (if i < 3 then i else r) (if j < 3 then j else c))
  | _, B, r, c => dt5 (fun i j => B (if i < 4 then i else r) (if j < 4 then j else c))
/-- the pivot before -/
def prv : Nat → (Nat → Nat → Int) → Int
  | 0, _ => 1
  | k + 1, B => bmk k B k k
theorem syl0 (B : Nat → Nat → Int) (r c : Nat) : bmk 0 B r c * bmk 0 B 0 0 - bmk 0 B r 0 * bmk 0 B 0 c = prv 0 B * bmk 1 B r c := by
  simp only [bmk, prv]
  grind
theorem syl1 (B : Nat → Nat → Int) (r c : Nat) : bmk 1 B r c * bmk 1 B 1 1 - bmk 1 B r 1 * bmk 1 B 1 c = prv 1 B * bmk 2 B r c := by
  simp only [bmk, prv, dt3, dt2, mnx]
  simp
  grind
set_option maxHeartbeats 4000000 in
theorem syl2 (B : Nat → Nat → Int) (r c : Nat) : bmk 2 B r c * bmk 2 B 2 2 - bmk 2 B r 2 * bmk 2 B 2 c = prv 2 B * bmk 3 B r c := by
  simp only [bmk, prv, dt4, dt3, dt2, mnx]
  simp
  grind
theorem dt5_sw {m m' : Nat → Nat → Int} {a b : Nat} (hab : a < b) (hb : b < 5) (ha : ∀ c, c < 5 → m' a c = m b c) (hb' : ∀ c, c < 5 → m' b c = m a c) (ho : ∀ r c, r < 5 → c < 5 → r ≠ a → r ≠ b → m' r c = m r c) : dt5 m' = -(dt5 m) := by
  have z : ∀ r c, r < 5 → c < 5 → m' r c = m (if r = a then b else if r = b then a else r) c := by
    intro r c hr hc
    by_cases h1 : r = a
    · rw [if_pos h1, h1]; exact ha c hc
    · rw [if_neg h1]
      by_cases h2 : r = b
      · rw [if_pos h2, h2]; exact hb' c hc
      · rw [if_neg h2]; exact ho r c hr hc h1 h2
  have e : dt5 m' = dt5 (fun r c => m (if r = a then b else if r = b then a else r) c) := by
    simp only [dt5, dt4, dt3, dt2, mnx]
    simp
    simp only [z 0 0 (by decide) (by decide), z 0 1 (by decide) (by decide), z 0 2 (by decide) (by decide), z 0 3 (by decide) (by decide), z 0 4 (by decide) (by decide), z 1 0 (by decide) (by decide), z 1 1 (by decide) (by decide), z 1 2 (by decide) (by decide), z 1 3 (by decide) (by decide), z 1 4 (by decide) (by decide), z 2 0 (by decide) (by decide), z 2 1 (by decide) (by decide), z 2 2 (by decide) (by decide), z 2 3 (by decide) (by decide), z 2 4 (by decide) (by decide), z 3 0 (by decide) (by decide), z 3 1 (by decide) (by decide), z 3 2 (by decide) (by decide), z 3 3 (by decide) (by decide), z 3 4 (by decide) (by decide), z 4 0 (by decide) (by decide), z 4 1 (by decide) (by decide), z 4 2 (by decide) (by decide), z 4 3 (by decide) (by decide), z 4 4 (by decide) (by decide)]
  rw [e]
  clear e z ha hb' ho
  rcases (show (a = 0 ∧ b = 1) ∨ (a = 0 ∧ b = 2) ∨ (a = 0 ∧ b = 3) ∨ (a = 0 ∧ b = 4) ∨ (a = 1 ∧ b = 2) ∨ (a = 1 ∧ b = 3) ∨ (a = 1 ∧ b = 4) ∨ (a = 2 ∧ b = 3) ∨ (a = 2 ∧ b = 4) ∨ (a = 3 ∧ b = 4) by omega) with ⟨rfl, rfl⟩ | ⟨rfl, rfl⟩ | ⟨rfl, rfl⟩ | ⟨rfl, rfl⟩ | ⟨rfl, rfl⟩ | ⟨rfl, rfl⟩ | ⟨rfl, rfl⟩ | ⟨rfl, rfl⟩ | ⟨rfl, rfl⟩ | ⟨rfl, rfl⟩ <;> simp only [dt5, dt4, dt3, dt2, mnx] <;> simp <;> grind
