/-! The next order: the class's and the model's steps are one, told over rows of small numbers. -/
def fat (a : Nat → Nat) : Nat → Option Nat
  | 0 => none
  | i + 1 => if a i ≤ a (i + 1) then some i else fat a i
def fwi (a : Nat → Nat) (at_ : Nat) : Nat → Nat
  | 0 => 0
  | j + 1 => if j + 1 ≤ at_ + 1 then j + 1 else if a at_ ≤ a (j + 1) then j + 1 else fwi a at_ j
def swp (a : Nat → Nat) (i j : Nat) : Nat → Nat := fun k => if k = j then a i else if k = i then a j else a k
def rvs (a : Nat → Nat) : Nat → Nat → Nat → (Nat → Nat)
  | 0, _, _ => a
  | f + 1, lo, hi => if hi ≤ lo then a else rvs (swp a lo hi) f (lo + 1) (hi - 1)
def nxt (c : Nat) (a : Nat → Nat) : Option (Nat → Nat) := match fat a (c - 1) with
  | none => none
  | some i => some (rvs (swp a i (fwi a i (c - 1))) 8 (i + 1) (c - 1))
/-- a row of Int32 that holds these numbers below c -/
def hld (c : Nat) (A : Nat → Int32) (a : Nat → Nat) : Prop := ∀ j, j < c → A j = nI (a j) ∧ a j < 1000
theorem hld_swp {c : Nat} {A : Nat → Int32} {a : Nat → Nat} (h : hld c A a) {i j : Nat} (hi : i < c) (hj : j < c) : hld c (upd (upd A i (A j)) j (A i)) (swp a i j) := by
  intro k hk
  unfold upd swp
  by_cases h1 : k = j
  · rw [if_pos h1, if_pos h1]
    exact h i hi
  · rw [if_neg h1, if_neg h1]
    by_cases h2 : k = i
    · rw [if_pos h2, if_pos h2]
      exact h j hj
    · rw [if_neg h2, if_neg h2]
      exact h k hk
theorem hld_le {c : Nat} {A : Nat → Int32} {a : Nat → Nat} (h : hld c A a) {i j : Nat} (hi : i < c) (hj : j < c) : (A i ≤ A j) ↔ a i ≤ a j := by
  rw [(h i hi).1, (h j hj).1]
  exact p_le (by have := (h i hi).2; omega) (by have := (h j hj).2; omega)
theorem s_swap (A : Nat → Int32) (n i j : Nat) (hi : i < 7) (hj : j < 7) : f_X9_swapTried n A (nI i) (nI j) = some (upd (upd A i (A j)) j (A i)) := by
  unfold f_X9_swapTried nmd
  rw [p_vin hi (by omega), p_vin hj (by omega), p_cl (by omega), p_cl (by omega)]
  rfl
theorem s_exch (A : Nat → Int32) (n i j : Nat) (hi : i < 7) (hj : j < 7) : f_X12_exchange n A (nI i) (nI j) = some (upd (upd A i (A j)) j (A i)) := by
  unfold f_X12_exchange nmd
  rw [p_vin hi (by omega), p_vin hj (by omega), p_cl (by omega), p_cl (by omega)]
  rfl
theorem p_m1 (k : Nat) (hk : 1 ≤ k) : nI k + (-1) = nI (k - 1) := by
  obtain ⟨j, rfl⟩ : ∃ j, k = j + 1 := ⟨k - 1, by omega⟩
  exact pk_m1 j
/-- a row that holds the numbers, unchanged from c on -/
def hl2 (c : Nat) (A0 A : Nat → Int32) (a : Nat → Nat) : Prop := hld c A a ∧ ∀ j, c ≤ j → A j = A0 j
theorem hl2_swp {c : Nat} {A0 A : Nat → Int32} {a : Nat → Nat} (h : hl2 c A0 A a) {i j : Nat} (hi : i < c) (hj : j < c) : hl2 c A0 (upd (upd A i (A j)) j (A i)) (swp a i j) := by
  refine ⟨hld_swp h.1 hi hj, fun k hk => ?_⟩
  rw [pk_un (by omega), pk_un (by omega)]
  exact h.2 k hk
theorem s_rev9 (c : Nat) (hc : c ≤ 7) (A0 : Nat → Int32) : ∀ (f n lo hi : Nat) (A : Nat → Int32) (a : Nat → Nat), hi < c → f + 1 ≤ n → lo ≤ 1000 → (lo < hi → hi - lo ≤ 2 * f) → hl2 c A0 A a → ∃ A', f_X9_goOn_93 (nI c) n A (nI lo) (nI hi) = some (1, A') ∧ hl2 c A0 A' (rvs a f lo hi) := by
  intro f
  induction f with
  | zero =>
    intro n lo hi A a hhi hn hlo hf h
    obtain ⟨m, rfl⟩ : ∃ m, n = m + 1 := ⟨n - 1, by omega⟩
    refine ⟨A, ?_, h⟩
    show f_X9_goOn_93b (nI c) _ m A (nI lo) (nI hi) = _
    unfold f_X9_goOn_93b
    by_cases hl : hi ≤ lo
    · rw [if_pos ((p_le (by omega) (by omega)).mpr hl)]
    · exact absurd (hf (by omega)) (by omega)
  | succ f ih =>
    intro n lo hi A a hhi hn hlo hf h
    obtain ⟨m, rfl⟩ : ∃ m, n = m + 1 := ⟨n - 1, by omega⟩
    have e : f_X9_goOn_93 (nI c) (m + 1) A (nI lo) (nI hi) = f_X9_goOn_93b (nI c) (f_X9_goOn_93 (nI c) m) m A (nI lo) (nI hi) := rfl
    rw [e]
    unfold f_X9_goOn_93b
    have er : rvs a (f + 1) lo hi = if hi ≤ lo then a else rvs (swp a lo hi) f (lo + 1) (hi - 1) := rfl
    rw [er]
    by_cases hl : hi ≤ lo
    · rw [if_pos ((p_le (by omega) (by omega)).mpr hl), if_pos hl]
      exact ⟨A, rfl, h⟩
    · rw [if_neg (fun g => hl ((p_le (by omega) (by omega)).mp g)), if_neg hl, s_swap A m lo hi (by omega) (by omega)]
      simp only [Option.bind_some]
      rw [p_1, p_m1 hi (by omega)]
      exact ih m (lo + 1) (hi - 1) _ _ (by omega) (by omega) (by omega) (fun _ => by omega) (hl2_swp h (by omega) (by omega))
