/-! Lowest terms are one for equal fractions. -/
theorem red_nat {A B C D : Nat} (hB : 0 < B) (hD : 0 < D) (h : A * D = C * B) : B / Nat.gcd A B = D / Nat.gcd C D ∧ A / Nat.gcd A B = C / Nat.gcd C D := by
  have e : Nat.gcd A B * D = Nat.gcd C D * B := by
    rw [← Nat.gcd_mul_right, h, Nat.mul_comm B D, Nat.gcd_mul_right]
  have g1 : 0 < Nat.gcd A B := Nat.gcd_pos_of_pos_right _ hB
  have g2 : 0 < Nat.gcd C D := Nat.gcd_pos_of_pos_right _ hD
  obtain ⟨b, hb⟩ := Nat.gcd_dvd_right A B
  obtain ⟨d, hd⟩ := Nat.gcd_dvd_right C D
  obtain ⟨a, ha⟩ := Nat.gcd_dvd_left A B
  obtain ⟨c, hc⟩ := Nat.gcd_dvd_left C D
  generalize hx : Nat.gcd A B = x at *
  generalize hy : Nat.gcd C D = y at *
  clear hx hy
  subst ha
  subst hc
  subst hb
  subst hd
  have e2 : d = b := by
    have h1 : (x * y) * d = (x * y) * b := by grind
    exact Nat.eq_of_mul_eq_mul_left (Nat.mul_pos g1 g2) h1
  subst e2
  have e3 : a = c := by
    have hd0 : 0 < d := Nat.pos_of_mul_pos_left hB
    have h1 : (x * y * d) * a = (x * y * d) * c := by grind
    exact Nat.eq_of_mul_eq_mul_left (Nat.mul_pos (Nat.mul_pos g1 g2) hd0) h1
  subst e3
  rw [Nat.mul_div_cancel_left _ g1, Nat.mul_div_cancel_left _ g2, Nat.mul_div_cancel_left _ g1, Nat.mul_div_cancel_left _ g2]
  exact ⟨rfl, rfl⟩
