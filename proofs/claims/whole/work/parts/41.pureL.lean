/-! The greatest common divisor, by the class and by the model. -/
theorem l_z {b : Nat} (hb : b < 9223372036854775808) : (lg_cmp (lN b) 0 = 0) ↔ b = 0 := by
  rw [lg_cmp_eq]
  exact pk_lEQ (a := b) (b := 0) hb (by omega)
theorem l_nz {b : Nat} (hb : b < 9223372036854775808) (h : b ≠ 0) : nzl (lN b) = true := by
  unfold nzl
  have h2 : ¬ lN b = 0 := fun e => h ((pk_lEQ (a := b) (b := 0) hb (by omega)).mp e)
  simp [h2]
theorem l_rem {a b : Nat} (ha : a < 9223372036854775808) (h0 : 0 < b) (hb : b < 9223372036854775808) : jreml (lN a) (lN b) = lN (a % b) := pk_lRem ha h0 hb
theorem half_mod {b r : Nat} (h0 : 0 < r) (h : r < b) : 2 * (b % r) < b := by
  have h1 := Nat.mod_lt b h0
  by_cases h2 : 2 * r ≤ b
  · omega
  · have h3 : b % r = b - r := by
      rw [Nat.mod_eq_sub_mod (by omega), Nat.mod_eq_of_lt (by omega)]
    omega
theorem s_cd_one (n a b t : Nat) (ha : a < 9223372036854775808) (hb : b < 9223372036854775808) (ht : t < 100) : f_X0_commonDivisor_3 (n + 1) (lN a) (lN b) (nI t) = if b = 0 then some (lN a) else f_X0_commonDivisor_3 n (lN b) (lN (a % b)) (nI (t + 1)) := by
  show f_X0_commonDivisor_3b (f_X0_commonDivisor_3 n) n (lN a) (lN b) (nI t) = _
  unfold f_X0_commonDivisor_3b
  rw [show (100 : Int32) = nI 100 from rfl, if_neg (by rw [p_le (by omega) (by omega)]; omega)]
  by_cases h : b = 0
  · rw [if_pos ((l_z hb).mpr h), if_pos h]
  · rw [if_neg (fun g => h ((l_z hb).mp g)), if_neg h, l_nz hb h]
    simp only [grd_t, nmd]
    rw [l_rem ha (by omega) hb, p_1]
theorem s_cd_loop : ∀ (k n a b t : Nat), b < 2 ^ k → a < 9223372036854775808 → b < 9223372036854775808 → t + 2 * k + 1 ≤ 100 → 2 * k + 2 ≤ n → f_X0_commonDivisor_3 n (lN a) (lN b) (nI t) = some (lN (Nat.gcd a b)) := by
  intro k
  induction k with
  | zero =>
    intro n a b t hb ha hb2 ht hn
    obtain ⟨m, rfl⟩ : ∃ m, n = m + 1 := ⟨n - 1, by omega⟩
    have h0 : b = 0 := by
      have h1 : b < 1 := hb
      omega
    subst h0
    rw [s_cd_one m a 0 t ha hb2 (by omega), if_pos rfl, Nat.gcd_zero_right]
  | succ k ih =>
    intro n a b t hb ha hb2 ht hn
    obtain ⟨m, rfl⟩ : ∃ m, n = m + 2 := ⟨n - 2, by omega⟩
    rw [s_cd_one (m + 1) a b t ha hb2 (by omega)]
    by_cases h : b = 0
    · rw [if_pos h, h, Nat.gcd_zero_right]
    · rw [if_neg h]
      have hr := Nat.mod_lt a (show 0 < b by omega)
      rw [s_cd_one m b (a % b) (t + 1) hb2 (by omega) (by omega)]
      have eg : Nat.gcd a b = Nat.gcd b (a % b) := by
        rw [Nat.gcd_comm a b, Nat.gcd_rec b a, Nat.gcd_comm]
      by_cases h2 : a % b = 0
      · rw [if_pos h2, eg, h2, Nat.gcd_zero_right]
      · rw [if_neg h2]
        have hh := half_mod (b := b) (r := a % b) (by omega) hr
        have hp : 2 ^ (k + 1) = 2 * 2 ^ k := by rw [Nat.pow_succ, Nat.mul_comm]
        have eg2 : Nat.gcd b (a % b) = Nat.gcd (a % b) (b % (a % b)) := by
          rw [Nat.gcd_comm b (a % b), Nat.gcd_rec (a % b) b, Nat.gcd_comm]
        rw [eg, eg2]
        exact ih m (a % b) (b % (a % b)) (t + 1 + 1) (by omega) (by omega) (by have := Nat.mod_lt b (show 0 < a % b by omega); omega) (by omega) (by omega)
/-- the class's divisor, of numbers below 2^48 -/
theorem s_cd (n a b : Nat) (ha : a < 281474976710656) (hb : b < 281474976710656) (hn : 100 ≤ n) : f_X0_commonDivisor n (lN a) (lN b) = some (lN (Nat.gcd a b)) := s_cd_loop 48 n a b 0 hb (by omega) (by omega) (by omega) (by omega)
