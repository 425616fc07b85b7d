/-! The next order: the class's and the model's steps are one, told over rows of small numbers. -/
def fat (a : Nat → Nat) : Nat → Option Nat
  | 0 => none
  | i + 1 => if a i ≤ a (i + 1) then some i else fat a i
def fwi (a : Nat → Nat) (at_ : Nat) : Nat → Nat
  | 0 => 0
  | j + 1 => if j + 1 ≤ at_ + 1 then j + 1 else if a at_ ≤ a (j + 1) then j + 1 else fwi a at_ j
def swp (a : Nat → Nat) (i j : Nat) : Nat → Nat := fun k => if k = j then a i else if k = i then a j else a k
def rvs (a : Nat → Nat) : Nat → Nat → Nat → (Nat → Nat)
  | 0, _, _ => a
  | f + 1, lo, hi => if hi ≤ lo then a else rvs (swp a lo hi) f (lo + 1) (hi - 1)
def nxt (c : Nat) (a : Nat → Nat) : Option (Nat → Nat) := match fat a (c - 1) with
  | none => none
  | some i => some (rvs (swp a i (fwi a i (c - 1))) 8 (i + 1) (c - 1))
/-- a row of Int32 that holds these numbers below c -/
def hld (c : Nat) (A : Nat → Int32) (a : Nat → Nat) : Prop := ∀ j, j < c → A j = nI (a j) ∧ a j < 1000
theorem hld_swp {c : Nat} {A : Nat → Int32} {a : Nat → Nat} (h : hld c A a) {i j : Nat} (hi : i < c) (hj : j < c) : hld c (upd (upd A i (A j)) j (A i)) (swp a i j) := by
  intro k hk
  unfold upd swp
  by_cases h1 : k = j
  · rw [if_pos h1, if_pos h1]
    exact h i hi
  · rw [if_neg h1, if_neg h1]
    by_cases h2 : k = i
    · rw [if_pos h2, if_pos h2]
      exact h j hj
    · rw [if_neg h2, if_neg h2]
      exact h k hk
theorem hld_le {c : Nat} {A : Nat → Int32} {a : Nat → Nat} (h : hld c A a) {i j : Nat} (hi : i < c) (hj : j < c) : (A i ≤ A j) ↔ a i ≤ a j := by
  rw [(h i hi).1, (h j hj).1]
  exact p_le (by have := (h i hi).2; omega) (by have := (h j hj).2; omega)
theorem s_swap (A : Nat → Int32) (n i j : Nat) (hi : i < 7) (hj : j < 7) : f_X9_swapTried n A (nI i) (nI j) = some (upd (upd A i (A j)) j (A i)) := by
  unfold f_X9_swapTried nmd
  rw [p_vin hi (by omega), p_vin hj (by omega), p_cl (by omega), p_cl (by omega)]
  rfl
theorem s_exch (A : Nat → Int32) (n i j : Nat) (hi : i < 7) (hj : j < 7) : f_X12_exchange n A (nI i) (nI j) = some (upd (upd A i (A j)) j (A i)) := by
  unfold f_X12_exchange nmd
  rw [p_vin hi (by omega), p_vin hj (by omega), p_cl (by omega), p_cl (by omega)]
  rfl
theorem p_m1 (k : Nat) (hk : 1 ≤ k) : nI k + (-1) = nI (k - 1) := by
  obtain ⟨j, rfl⟩ : ∃ j, k = j + 1 := ⟨k - 1, by omega⟩
  exact pk_m1 j
/-- a row that holds the numbers, unchanged from c on -/
def hl2 (c : Nat) (A0 A : Nat → Int32) (a : Nat → Nat) : Prop := hld c A a ∧ ∀ j, c ≤ j → A j = A0 j
theorem hl2_swp {c : Nat} {A0 A : Nat → Int32} {a : Nat → Nat} (h : hl2 c A0 A a) {i j : Nat} (hi : i < c) (hj : j < c) : hl2 c A0 (upd (upd A i (A j)) j (A i)) (swp a i j) := by
  refine ⟨hld_swp h.1 hi hj, fun k hk => ?_⟩
  rw [pk_un (by omega), pk_un (by omega)]
  exact h.2 k hk
theorem s_rev9 (c : Nat) (hc : c ≤ 7) (A0 : Nat → Int32) : ∀ (f n lo hi : Nat) (A : Nat → Int32) (a : Nat → Nat), hi < c → f + 1 ≤ n → lo ≤ 1000 → (lo < hi → hi - lo ≤ 2 * f) → hl2 c A0 A a → ∃ A', f_X9_goOn_93 (nI c) n A (nI lo) (nI hi) = some (1, A') ∧ hl2 c A0 A' (rvs a f lo hi) := by
  intro f
  induction f with
  | zero =>
    intro n lo hi A a hhi hn hlo hf h
    obtain ⟨m, rfl⟩ : ∃ m, n = m + 1 := ⟨n - 1, by omega⟩
    refine ⟨A, ?_, h⟩
    show f_X9_goOn_93b (nI c) _ m A (nI lo) (nI hi) = _
    unfold f_X9_goOn_93b
    by_cases hl : hi ≤ lo
    · rw [if_pos ((p_le (by omega) (by omega)).mpr hl)]
    · exact absurd (hf (by omega)) (by omega)
  | succ f ih =>
    intro n lo hi A a hhi hn hlo hf h
    obtain ⟨m, rfl⟩ : ∃ m, n = m + 1 := ⟨n - 1, by omega⟩
    have e : f_X9_goOn_93 (nI c) (m + 1) A (nI lo) (nI hi) = f_X9_goOn_93b (nI c) (f_X9_goOn_93 (nI c) m) m A (nI lo) (nI hi) := rfl
    rw [e]
    unfold f_X9_goOn_93b
    have er : rvs a (f + 1) lo hi = if hi ≤ lo then a else rvs (swp a lo hi) f (lo + 1) (hi - 1) := rfl
    rw [er]
    by_cases hl : hi ≤ lo
    · rw [if_pos ((p_le (by omega) (by omega)).mpr hl), if_pos hl]
      exact ⟨A, rfl, h⟩
    · rw [if_neg (fun g => hl ((p_le (by omega) (by omega)).mp g)), if_neg hl, s_swap A m lo hi (by omega) (by omega)]
      simp only [Option.bind_some]
      rw [p_1, p_m1 hi (by omega)]
      exact ih m (lo + 1) (hi - 1) _ _ (by omega) (by omega) (by omega) (fun _ => by omega) (hl2_swp h (by omega) (by omega))
theorem s_rev12 (c t : Nat) (hc : c ≤ 7) (ht : t < c) (A0 : Nat → Int32) : ∀ (f n lo hi : Nat) (A : Nat → Int32) (a : Nat → Nat), hi < c → hi + lo = t + c → f + 1 ≤ n → (lo < hi → hi - lo ≤ 2 * f) → hl2 c A0 A a → ∃ A', f_X12_nextOrder_78 (nI c) n A (nI t) (nI lo) = some (1, A') ∧ hl2 c A0 A' (rvs a f lo hi) := by
  intro f
  induction f with
  | zero =>
    intro n lo hi A a hhi hs hn hf h
    obtain ⟨m, rfl⟩ : ∃ m, n = m + 1 := ⟨n - 1, by omega⟩
    refine ⟨A, ?_, h⟩
    show f_X12_nextOrder_78b (nI c) _ m A (nI t) (nI lo) = _
    unfold f_X12_nextOrder_78b
    rw [p_add, p_sub (by omega), show t + c - lo = hi from by omega]
    by_cases hl : hi ≤ lo
    · rw [if_pos ((p_le (by omega) (by omega)).mpr hl)]
    · exact absurd (hf (by omega)) (by omega)
  | succ f ih =>
    intro n lo hi A a hhi hs hn hf h
    obtain ⟨m, rfl⟩ : ∃ m, n = m + 1 := ⟨n - 1, by omega⟩
    have e : f_X12_nextOrder_78 (nI c) (m + 1) A (nI t) (nI lo) = f_X12_nextOrder_78b (nI c) (f_X12_nextOrder_78 (nI c) m) m A (nI t) (nI lo) := rfl
    rw [e]
    unfold f_X12_nextOrder_78b
    rw [p_add, p_sub (by omega), show t + c - lo = hi from by omega]
    have er : rvs a (f + 1) lo hi = if hi ≤ lo then a else rvs (swp a lo hi) f (lo + 1) (hi - 1) := rfl
    rw [er]
    by_cases hl : hi ≤ lo
    · rw [if_pos ((p_le (by omega) (by omega)).mpr hl), if_pos hl]
      exact ⟨A, rfl, h⟩
    · rw [if_neg (fun g => hl ((p_le (by omega) (by omega)).mp g)), if_neg hl, s_exch A m lo hi (by omega) (by omega)]
      simp only [Option.bind_some]
      rw [p_1]
      exact ih m (lo + 1) (hi - 1) _ _ (by omega) (by omega) (by omega) (fun _ => by omega) (hl2_swp h (by omega) (by omega))
theorem fwi_rng (a : Nat → Nat) (t : Nat) : ∀ j, t < j → t < fwi a t j ∧ fwi a t j ≤ j := by
  intro j
  induction j with
  | zero => intro h; omega
  | succ j ih =>
    intro h
    show t < (if j + 1 ≤ t + 1 then j + 1 else if a t ≤ a (j + 1) then j + 1 else fwi a t j) ∧ (if j + 1 ≤ t + 1 then j + 1 else if a t ≤ a (j + 1) then j + 1 else fwi a t j) ≤ j + 1
    split
    · omega
    · split
      · omega
      · have := ih (by omega)
        omega
theorem s_wi9 (c t : Nat) (hc : c ≤ 7) (A0 : Nat → Int32) : ∀ (j n : Nat) (A : Nat → Int32) (a : Nat → Nat), t < j → j < c → j + 12 ≤ n → hl2 c A0 A a → ∃ A', f_X9_goOn_47 (nI c) n A (nI t) (nI j) = some (1, A') ∧ hl2 c A0 A' (rvs (swp a t (fwi a t j)) 8 (t + 1) (c - 1)) := by
  intro j
  induction j with
  | zero => intro n A a h; omega
  | succ j ih =>
    intro n A a htj hjc hn h
    obtain ⟨m, rfl⟩ : ∃ m, n = m + 1 := ⟨n - 1, by omega⟩
    have e : f_X9_goOn_47 (nI c) (m + 1) A (nI t) (nI (j + 1)) = f_X9_goOn_47b (nI c) (f_X9_goOn_47 (nI c) m) m A (nI t) (nI (j + 1)) := rfl
    rw [e]
    unfold f_X9_goOn_47b
    have h75 : ∃ A', f_X9_goOn_75 (nI c) m A (nI t) (nI (j + 1)) = some (1, A') ∧ hl2 c A0 A' (rvs (swp a t (j + 1)) 8 (t + 1) (c - 1)) := by
      unfold f_X9_goOn_75
      rw [s_swap A m t (j + 1) (by omega) (by omega)]
      simp only [Option.bind_some, nmd]
      rw [p_1, k1, p_sub (by omega)]
      exact s_rev9 c hc A0 8 m (t + 1) (c - 1) _ _ (by omega) (by omega) (by omega) (fun _ => by omega) (hl2_swp h (by omega) (by omega))
    have ef : fwi a t (j + 1) = if j + 1 ≤ t + 1 then j + 1 else if a t ≤ a (j + 1) then j + 1 else fwi a t j := rfl
    rw [p_1, ef]
    by_cases h1 : j + 1 ≤ t + 1
    · rw [if_pos ((p_le (by omega) (by omega)).mpr h1), if_pos h1]
      exact h75
    · rw [if_neg (fun g => h1 ((p_le (by omega) (by omega)).mp g)), if_neg h1, p_vin (by omega) (by omega), p_vin (by omega) (by omega), p_cl (by omega), p_cl (by omega)]
      simp only [grd_t]
      by_cases h2 : a t ≤ a (j + 1)
      · rw [if_pos ((hld_le h.1 (by omega) (by omega)).mpr h2), if_pos h2]
        exact h75
      · rw [if_neg (fun g => h2 ((hld_le h.1 (by omega) (by omega)).mp g)), if_neg h2, p_m1 (j + 1) (by omega)]
        exact ih m A a (by omega) (by omega) (by omega) h
theorem s_wi12 (c t : Nat) (hc : c ≤ 7) (A0 : Nat → Int32) : ∀ (j n : Nat) (A : Nat → Int32) (a : Nat → Nat), t < j → j < c → a t ≤ a (t + 1) → j + 12 ≤ n → hl2 c A0 A a → ∃ A', f_X12_nextOrder_47 (nI c) n A (nI t) (nI j) = some (1, A') ∧ hl2 c A0 A' (rvs (swp a t (fwi a t j)) 8 (t + 1) (c - 1)) := by
  intro j
  induction j with
  | zero => intro n A a h; omega
  | succ j ih =>
    intro n A a htj hjc hat hn h
    obtain ⟨m, rfl⟩ : ∃ m, n = m + 1 := ⟨n - 1, by omega⟩
    have e : f_X12_nextOrder_47 (nI c) (m + 1) A (nI t) (nI (j + 1)) = f_X12_nextOrder_47b (nI c) (f_X12_nextOrder_47 (nI c) m) m A (nI t) (nI (j + 1)) := rfl
    rw [e]
    unfold f_X12_nextOrder_47b
    rw [p_vin (by omega) (by omega), p_vin (by omega) (by omega), p_cl (by omega), p_cl (by omega)]
    simp only [grd_t]
    have ef : fwi a t (j + 1) = if j + 1 ≤ t + 1 then j + 1 else if a t ≤ a (j + 1) then j + 1 else fwi a t j := rfl
    by_cases h2 : a t ≤ a (j + 1)
    · have ef2 : fwi a t (j + 1) = j + 1 := by
        rw [ef]
        by_cases h3 : j + 1 ≤ t + 1
        · rw [if_pos h3]
        · rw [if_neg h3, if_pos h2]
      rw [if_pos ((hld_le h.1 (by omega) (by omega)).mpr h2), s_exch A m t (j + 1) (by omega) (by omega), ef2]
      simp only [Option.bind_some, nmd]
      rw [p_1]
      exact s_rev12 c t hc (by omega) A0 8 m (t + 1) (c - 1) _ _ (by omega) (by omega) (by omega) (fun _ => by omega) (hl2_swp h (by omega) (by omega))
    · have h1 : ¬ j + 1 ≤ t + 1 := fun g => h2 (by rw [show j + 1 = t + 1 from by omega]; exact hat)
      rw [if_neg (fun g => h2 ((hld_le h.1 (by omega) (by omega)).mp g)), p_m1 (j + 1) (by omega), ef, if_neg h1, if_neg h2]
      exact ih m A a (by omega) (by omega) hat (by omega) h
theorem fat_ok (a : Nat → Nat) : ∀ i k, fat a i = some k → k < i ∧ a k ≤ a (k + 1) := by
  intro i
  induction i with
  | zero => intro k h; cases h
  | succ i ih =>
    intro k h
    rw [show fat a (i + 1) = if a i ≤ a (i + 1) then some i else fat a i from rfl] at h
    split at h
    · have hk := Option.some.inj h
      subst hk
      exact ⟨by omega, by assumption⟩
    · have := ih k h
      exact ⟨by omega, this.2⟩
theorem m1_neg : nI 0 - 1 < 0 := by decide
theorem p_pm (i : Nat) : nI i + (-1) = nI i - 1 := by grind
theorem s_at9 (c : Nat) (hc : c ≤ 7) (A0 : Nat → Int32) : ∀ (i n : Nat) (A : Nat → Int32) (a : Nat → Nat), i < c → i + 40 ≤ n → hl2 c A0 A a → match fat a i with
    | none => f_X9_goOn_7 (nI c) n A (nI i - 1) = some (0, A)
    | some t => ∃ A', f_X9_goOn_7 (nI c) n A (nI i - 1) = some (1, A') ∧ hl2 c A0 A' (rvs (swp a t (fwi a t (c - 1))) 8 (t + 1) (c - 1)) := by
  intro i
  induction i with
  | zero =>
    intro n A a hi hn h
    obtain ⟨m, rfl⟩ : ∃ m, n = m + 1 := ⟨n - 1, by omega⟩
    show f_X9_goOn_7b (nI c) _ m A (nI 0 - 1) = _
    unfold f_X9_goOn_7b f_X9_goOn_34
    rw [if_pos m1_neg, if_neg (by decide)]
  | succ i ih =>
    intro n A a hi hn h
    obtain ⟨m, rfl⟩ : ∃ m, n = m + 1 := ⟨n - 1, by omega⟩
    have e : f_X9_goOn_7 (nI c) (m + 1) A (nI (i + 1) - 1) = f_X9_goOn_7b (nI c) (f_X9_goOn_7 (nI c) m) m A (nI i) := by
      rw [k1, p_sub (by omega)]
      rfl
    rw [e]
    unfold f_X9_goOn_7b
    rw [if_neg (nI_nn (by omega)), p_1, p_vin (by omega) (by omega), p_vin (by omega) (by omega), p_cl (by omega), p_cl (by omega)]
    simp only [grd_t]
    rw [show fat a (i + 1) = if a i ≤ a (i + 1) then some i else fat a i from rfl]
    by_cases h1 : a i ≤ a (i + 1)
    · rw [if_pos h1, if_pos ((hld_le h.1 (by omega) (by omega)).mpr h1)]
      dsimp only
      unfold f_X9_goOn_34
      rw [if_pos (Int32.not_lt.mp (nI_nn (by omega)))]
      unfold nmd
      rw [k1, p_sub (by omega)]
      exact s_wi9 c i hc A0 (c - 1) m A a (by omega) (by omega) (by omega) h
    · rw [if_neg h1, if_neg (fun g => h1 ((hld_le h.1 (by omega) (by omega)).mp g)), p_pm]
      exact ih m A a (by omega) (by omega) h
theorem s_at12 (c : Nat) (hc : c ≤ 7) (A0 : Nat → Int32) : ∀ (i n : Nat) (A : Nat → Int32) (a : Nat → Nat), i < c → i + 40 ≤ n → hl2 c A0 A a → match fat a i with
    | none => f_X12_nextOrder_7 (nI c) n A (nI i - 1) = some (0, A)
    | some t => ∃ A', f_X12_nextOrder_7 (nI c) n A (nI i - 1) = some (1, A') ∧ hl2 c A0 A' (rvs (swp a t (fwi a t (c - 1))) 8 (t + 1) (c - 1)) := by
  intro i
  induction i with
  | zero =>
    intro n A a hi hn h
    obtain ⟨m, rfl⟩ : ∃ m, n = m + 1 := ⟨n - 1, by omega⟩
    show f_X12_nextOrder_7b (nI c) _ m A (nI 0 - 1) = _
    unfold f_X12_nextOrder_7b f_X12_nextOrder_34
    rw [if_pos m1_neg, if_neg (by decide)]
  | succ i ih =>
    intro n A a hi hn h
    obtain ⟨m, rfl⟩ : ∃ m, n = m + 1 := ⟨n - 1, by omega⟩
    have e : f_X12_nextOrder_7 (nI c) (m + 1) A (nI (i + 1) - 1) = f_X12_nextOrder_7b (nI c) (f_X12_nextOrder_7 (nI c) m) m A (nI i) := by
      rw [k1, p_sub (by omega)]
      rfl
    rw [e]
    unfold f_X12_nextOrder_7b
    rw [if_neg (nI_nn (by omega)), p_1, p_vin (by omega) (by omega), p_vin (by omega) (by omega), p_cl (by omega), p_cl (by omega)]
    simp only [grd_t]
    rw [show fat a (i + 1) = if a i ≤ a (i + 1) then some i else fat a i from rfl]
    by_cases h1 : a i ≤ a (i + 1)
    · rw [if_pos h1, if_pos ((hld_le h.1 (by omega) (by omega)).mpr h1)]
      dsimp only
      unfold f_X12_nextOrder_34
      rw [if_pos (Int32.not_lt.mp (nI_nn (by omega)))]
      unfold nmd
      rw [k1, p_sub (by omega)]
      exact s_wi12 c i hc A0 (c - 1) m A a (by omega) (by omega) h1 (by omega) h
    · rw [if_neg h1, if_neg (fun g => h1 ((hld_le h.1 (by omega) (by omega)).mp g)), p_pm]
      exact ih m A a (by omega) (by omega) h
theorem s_goOn (c : Nat) (hc : c ≤ 7) (A0 A : Nat → Int32) (a : Nat → Nat) (n : Nat) (hn : 50 ≤ n) (h : hl2 c A0 A a) : match nxt c a with
    | none => f_X9_goOn n (nI c) A = some (0, A)
    | some a' => ∃ A', f_X9_goOn n (nI c) A = some (1, A') ∧ hl2 c A0 A' a' := by
  unfold f_X9_goOn nmd nxt
  by_cases h0 : c = 0
  · subst h0
    show f_X9_goOn_7 (nI 0) n A (nI 0 - 2) = _
    obtain ⟨m, rfl⟩ : ∃ m, n = m + 1 := ⟨n - 1, by omega⟩
    show f_X9_goOn_7b (nI 0) _ m A (nI 0 - 2) = _
    unfold f_X9_goOn_7b f_X9_goOn_34
    rw [if_pos (by decide), if_neg (by decide)]
  · have e : nI c - 2 = nI (c - 1) - 1 := by
      obtain ⟨d, rfl⟩ : ∃ d, c = d + 1 := ⟨c - 1, by omega⟩
      rw [show d + 1 - 1 = d from by omega, ← p_1]
      grind
    rw [e]
    have r := s_at9 c hc A0 (c - 1) n A a (by omega) (by omega) h
    cases hf : fat a (c - 1) with
    | none => rw [hf] at r; exact r
    | some t => rw [hf] at r; exact r
theorem s_nextOrder (c : Nat) (hc : c ≤ 7) (A0 A : Nat → Int32) (a : Nat → Nat) (n : Nat) (hn : 50 ≤ n) (h : hl2 c A0 A a) : match nxt c a with
    | none => f_X12_nextOrder n (nI c) A = some (0, A)
    | some a' => ∃ A', f_X12_nextOrder n (nI c) A = some (1, A') ∧ hl2 c A0 A' a' := by
  unfold f_X12_nextOrder nmd nxt
  by_cases h0 : c = 0
  · subst h0
    show f_X12_nextOrder_7 (nI 0) n A (nI 0 - 2) = _
    obtain ⟨m, rfl⟩ : ∃ m, n = m + 1 := ⟨n - 1, by omega⟩
    show f_X12_nextOrder_7b (nI 0) _ m A (nI 0 - 2) = _
    unfold f_X12_nextOrder_7b f_X12_nextOrder_34
    rw [if_pos (by decide), if_neg (by decide)]
  · have e : nI c - 2 = nI (c - 1) - 1 := by
      obtain ⟨d, rfl⟩ : ∃ d, c = d + 1 := ⟨c - 1, by omega⟩
      rw [show d + 1 - 1 = d from by omega, ← p_1]
      grind
    rw [e]
    have r := s_at12 c hc A0 (c - 1) n A a (by omega) (by omega) h
    cases hf : fat a (c - 1) with
    | none => rw [hf] at r; exact r
    | some t => rw [hf] at r; exact r
