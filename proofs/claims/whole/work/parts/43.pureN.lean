/-! BENDS READ: sums and how many, of the class and of the model. -/
def rst (h r : Nat → Int32) (a s : Nat) (q : Int32 × Int32) : Int32 × Int32 := if r (a - s) = 0 then q else if r a = 0 then q else if r (a + s) = 0 then q else (q.1 + ((h (a - s) - 2 * h a) + h (a + s)), q.2 + 1)
def rdv (h r : Nat → Int32) (a0 s o : Nat) : Nat → Int32 × Int32
  | 0 => (0, 0)
  | k + 1 => rst h r (a0 + k * o) s (rdv h r a0 s o k)
theorem s_rd9 (h r : Nat → Int32) (a0 s o : Nat) (hs : s ≤ a0) (hm : a0 + 5 * o + s < 36) (ho : o ≤ 6) : ∀ (c n k : Nat), k + c = 6 → c + 1 ≤ n → f_X1_readBend_56 h r n (rdv h r a0 s o k).1 (rdv h r a0 s o k).2 (nI s) (nI o) (nI (a0 + k * o)) (nI k) = some (rdv h r a0 s o 6) := by
  intro c
  induction c with
  | zero =>
    intro n k hk hn
    obtain ⟨m, rfl⟩ : ∃ m, n = m + 1 := ⟨n - 1, by omega⟩
    obtain rfl : k = 6 := by omega
    show f_X1_readBend_56b h r _ m _ _ (nI s) (nI o) _ (nI 6) = _
    unfold f_X1_readBend_56b
    rw [if_pos (by decide)]
  | succ c ih =>
    intro n k hk hn
    obtain ⟨m, rfl⟩ : ∃ m, n = m + 1 := ⟨n - 1, by omega⟩
    have hko : k * o ≤ 5 * o := Nat.mul_le_mul_right o (by omega)
    have g := ih m (k + 1) (by omega) (by omega)
    rw [show rdv h r a0 s o (k + 1) = rst h r (a0 + k * o) s (rdv h r a0 s o k) from rfl, show a0 + (k + 1) * o = a0 + k * o + o from by rw [Nat.add_mul]; omega] at g
    unfold rst at g
    show f_X1_readBend_56b h r (f_X1_readBend_56 h r m) m _ _ (nI s) (nI o) (nI (a0 + k * o)) (nI k) = _
    unfold f_X1_readBend_56b
    rw [k6, if_neg (by rw [p_le (by omega) (by omega)]; omega), p_sub (by omega), p_add, p_add, p_vin (by omega) (by omega), p_vin (by omega) (by omega), p_vin (by omega) (by omega), p_cl (by omega), p_cl (by omega), p_cl (by omega), p_1]
    simp only [grd_t, nmd]
    by_cases h1 : r (a0 + k * o - s) = 0
    · rw [if_pos h1] at g ⊢
      exact g
    · rw [if_neg h1] at g ⊢
      by_cases h2 : r (a0 + k * o) = 0
      · rw [if_pos h2] at g ⊢
        exact g
      · rw [if_neg h2] at g ⊢
        by_cases h3 : r (a0 + k * o + s) = 0
        · rw [if_pos h3] at g ⊢
          exact g
        · rw [if_neg h3] at g ⊢
          exact g
theorem s_rd12 (h r : Nat → Int32) (L pl a0 s o : Nat) (hL : L < 8) (hp : 1 ≤ pl ∧ pl ≤ 4) (hcase : (L < 4 ∧ a0 = pl ∧ s = 1 ∧ o = 6) ∨ (4 ≤ L ∧ a0 = 6 * pl ∧ s = 6 ∧ o = 1)) : ∀ (c n k : Nat), k + c = 6 → c + 1 ≤ n → f_X12_findRead_31 h r n (rdv h r a0 s o k).1 (rdv h r a0 s o k).2 (nI L) (nI pl) (nI s) (nI k) = some (rdv h r a0 s o 6) := by
  intro c
  induction c with
  | zero =>
    intro n k hk hn
    obtain ⟨m, rfl⟩ : ∃ m, n = m + 1 := ⟨n - 1, by omega⟩
    obtain rfl : k = 6 := by omega
    show f_X12_findRead_31b h r _ m _ _ (nI L) (nI pl) (nI s) (nI 6) = _
    unfold f_X12_findRead_31b
    rw [if_pos (by decide)]
  | succ c ih =>
    intro n k hk hn
    obtain ⟨m, rfl⟩ : ∃ m, n = m + 1 := ⟨n - 1, by omega⟩
    have g := ih m (k + 1) (by omega) (by omega)
    rw [show rdv h r a0 s o (k + 1) = rst h r (a0 + k * o) s (rdv h r a0 s o k) from rfl] at g
    unfold rst at g
    have ea : s ≤ a0 + k * o ∧ a0 + k * o + s < 36 := by
      rcases hcase with ⟨_, e1, e2, e3⟩ | ⟨_, e1, e2, e3⟩ <;> subst e1 <;> subst e2 <;> subst e3 <;> omega
    have e60 : f_X12_findRead_31 h r (m + 1) (rdv h r a0 s o k).1 (rdv h r a0 s o k).2 (nI L) (nI pl) (nI s) (nI k) = f_X12_findRead_60 h r (f_X12_findRead_31 h r m) m (rdv h r a0 s o k).1 (rdv h r a0 s o k).2 (nI L) (nI pl) (nI s) (nI k) (nI (a0 + k * o)) := by
      show f_X12_findRead_31b h r (f_X12_findRead_31 h r m) m _ _ (nI L) (nI pl) (nI s) (nI k) = _
      unfold f_X12_findRead_31b
      rw [k6, if_neg (by rw [p_le (by omega) (by omega)]; omega), k4]
      rcases hcase with ⟨hl, e1, e2, e3⟩ | ⟨hl, e1, e2, e3⟩
      · rw [if_neg (fun q => by have := (p_le (by omega) (by omega)).mp q; omega), p_mul, p_add, show 6 * k + pl = a0 + k * o from by subst e1; subst e3; omega]
      · rw [if_pos ((p_le (by omega) (by omega)).mpr hl), p_mul, p_add, show 6 * pl + k = a0 + k * o from by subst e1; subst e3; omega]
    rw [e60]
    unfold f_X12_findRead_60
    rw [p_sub (by omega), p_add, p_vin (by omega) (by omega), p_vin (by omega) (by omega), p_vin (by omega) (by omega), p_cl (by omega), p_cl (by omega), p_cl (by omega), p_1]
    simp only [grd_t]
    by_cases h1 : r (a0 + k * o - s) = 0
    · rw [if_pos h1] at g ⊢
      exact g
    · rw [if_neg h1] at g ⊢
      by_cases h2 : r (a0 + k * o) = 0
      · rw [if_pos h2] at g ⊢
        exact g
      · rw [if_neg h2] at g ⊢
        by_cases h3 : r (a0 + k * o + s) = 0
        · rw [if_pos h3] at g ⊢
          exact g
        · rw [if_neg h3] at g ⊢
          exact g
/-- BEND READ of a LINE: the sum, and at how many places -/
def rdL (h r : Nat → Int32) (L : Nat) : Int32 × Int32 := if L < 4 then rdv h r (L % 4 + 1) 1 6 6 else rdv h r (6 * (L % 4 + 1)) 6 1 6
theorem s_findRead (h r : Nat → Int32) (x y : Int32) (L n : Nat) (hL : L < 8) (hn : 10 ≤ n) : f_X12_findRead n h r x y (nI L) = some (rdL h r L) := by
  unfold f_X12_findRead rdL
  simp only [nmd]
  rw [k4, p_rem (by omega) (by omega) (by omega), p_1]
  by_cases hl : L < 4
  · rw [if_neg (fun q => by have := (p_le (by omega) (by omega)).mp q; omega), if_pos hl]
    exact s_rd12 h r L (L % 4 + 1) (L % 4 + 1) 1 6 hL (by omega) (Or.inl ⟨hl, rfl, rfl, rfl⟩) 6 n 0 (by omega) (by omega)
  · rw [if_pos ((p_le (by omega) (by omega)).mpr (by omega)), if_neg hl]
    exact s_rd12 h r L (L % 4 + 1) (6 * (L % 4 + 1)) 6 1 hL (by omega) (Or.inr ⟨by omega, rfl, rfl, rfl⟩) 6 n 0 (by omega) (by omega)
theorem s_readBend (h r : Nat → Int32) (x y : Int32) (L n : Nat) (hL : L < 8) (hn : 10 ≤ n) : f_X1_readBend n h r x y (nI L) = some (rdL h r L) := by
  unfold f_X1_readBend f_X1_readBend_10 f_X1_readBend_21 f_X1_readBend_32 rdL
  simp only [nmd]
  rw [k4, p_rem (by omega) (by omega) (by omega), p_1]
  by_cases hl : L < 4
  · rw [if_neg (fun q => by have := (p_le (by omega) (by omega)).mp q; omega), if_pos hl]
    rw [if_neg (show ¬ ((1 : Int32) = 0) from by decide), if_neg (show ¬ ((1 : Int32) = 0) from by decide), k1, p_mul, Nat.mul_one]
    have g := s_rd9 h r (L % 4 + 1) 1 6 (by omega) (by omega) (by omega) 6 n 0 (by omega) (by omega)
    rw [Nat.zero_mul, Nat.add_zero] at g
    exact g
  · rw [if_pos ((p_le (by omega) (by omega)).mpr (by omega)), if_neg hl]
    rw [if_pos trivial, if_pos trivial, k6, p_mul, Nat.mul_comm]
    have g := s_rd9 h r (6 * (L % 4 + 1)) 6 1 (by omega) (by omega) (by omega) 6 n 0 (by omega) (by omega)
    rw [Nat.zero_mul, Nat.add_zero] at g
    exact g
