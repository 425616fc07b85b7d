/-! SKILL: fractions as pairs of numbers. -/
def red (a b : Int) : Int × Int := (a.sign * b.sign * ((a.natAbs / Nat.gcd a.natAbs b.natAbs : Nat) : Int), ((b.natAbs / Nat.gcd a.natAbs b.natAbs : Nat) : Int))
theorem sgn_sq {b : Int} (h : b ≠ 0) : b.sign * b.sign = 1 := by
  rcases Int.lt_or_gt_of_ne h with h1 | h1
  · rw [Int.sign_eq_neg_one_of_neg h1]; rfl
  · rw [Int.sign_eq_one_of_pos h1]; rfl
theorem red_eq {a b c d : Int} (hb : b ≠ 0) (hd : d ≠ 0) (h : a * d = c * b) : red a b = red c d := by
  have hn : a.natAbs * d.natAbs = c.natAbs * b.natAbs := by rw [← Int.natAbs_mul, ← Int.natAbs_mul, h]
  obtain ⟨h1, h2⟩ := red_nat (by omega) (by omega) hn
  have hs : a.sign * d.sign = c.sign * b.sign := by rw [← Int.sign_mul, ← Int.sign_mul, h]
  have sb := sgn_sq hb
  have sd := sgn_sq hd
  have hs2 : a.sign * b.sign = c.sign * d.sign := by
    generalize a.sign = x at *
    generalize b.sign = y at *
    generalize c.sign = z at *
    generalize d.sign = w at *
    have e1 : x * y = (x * w) * (w * y) := by
      have : (x * w) * (w * y) = x * y * (w * w) := by grind
      rw [this, sd, Int.mul_one]
    rw [e1, hs]
    have : z * y * (w * y) = z * w * (y * y) := by grind
    rw [this, sb, Int.mul_one]
  unfold red
  rw [h1, h2, hs2]
theorem red_prop {a b : Int} (hb : b ≠ 0) : (red a b).1 * b = a * (red a b).2 ∧ 0 < (red a b).2 ∧ (red a b).2 ≤ b.natAbs ∧ (red a b).1.natAbs ≤ a.natAbs := by
  have g0 : 0 < Nat.gcd a.natAbs b.natAbs := Nat.gcd_pos_of_pos_right _ (by omega)
  obtain ⟨x, hx⟩ := Nat.gcd_dvd_left a.natAbs b.natAbs
  obtain ⟨y, hy⟩ := Nat.gcd_dvd_right a.natAbs b.natAbs
  have ea := Int.sign_mul_natAbs a
  have eb := Int.sign_mul_natAbs b
  have sb := sgn_sq hb
  have sa : a.sign.natAbs ≤ 1 := by
    rcases Int.lt_trichotomy a 0 with h | h | h
    · rw [Int.sign_eq_neg_one_of_neg h]; decide
    · rw [h]; decide
    · rw [Int.sign_eq_one_of_pos h]; decide
  have sb1 : b.sign.natAbs = 1 := by
    rcases Int.lt_or_gt_of_ne hb with h1 | h1
    · rw [Int.sign_eq_neg_one_of_neg h1]; rfl
    · rw [Int.sign_eq_one_of_pos h1]; rfl
  have hq1 : a.natAbs / Nat.gcd a.natAbs b.natAbs = x := by
    conv => lhs; lhs; rw [hx]
    exact Nat.mul_div_cancel_left _ g0
  have hq2 : b.natAbs / Nat.gcd a.natAbs b.natAbs = y := by
    conv => lhs; lhs; rw [hy]
    exact Nat.mul_div_cancel_left _ g0
  unfold red
  rw [hq1, hq2]
  generalize hg : Nat.gcd a.natAbs b.natAbs = g at *
  have hy0 : 0 < y := by
    rcases Nat.eq_zero_or_pos y with h | h
    · rw [h] at hy; omega
    · exact h
  refine ⟨?_, by show (0 : Int) < (y : Int); omega, ?_, ?_⟩
  · show a.sign * b.sign * (x : Int) * b = a * (y : Int)
    have xa : (a.natAbs : Int) = (g : Int) * (x : Int) := by rw [← Int.natCast_mul]; exact congrArg _ hx
    have yb : (b.natAbs : Int) = (g : Int) * (y : Int) := by rw [← Int.natCast_mul]; exact congrArg _ hy
    rw [xa] at ea
    rw [yb] at eb
    generalize a.sign = s at *
    generalize b.sign = t at *
    have e1 : s * t * (x : Int) * b = s * t * x * (t * (g * y)) := by rw [eb]
    have e2 : a * (y : Int) = s * (g * x) * y := by rw [ea]
    have e3 : s * t * (x : Int) * (t * (g * y)) = s * (g * x) * y * (t * t) := by grind
    rw [e1, e2, e3, sb, Int.mul_one]
  · show (y : Int) ≤ (b.natAbs : Int)
    have := Nat.le_mul_of_pos_left y g0
    omega
  · show (a.sign * b.sign * (x : Int)).natAbs ≤ a.natAbs
    rw [Int.natAbs_mul, Int.natAbs_mul, sb1, Int.natAbs_natCast, Nat.mul_one]
    have h1 := Nat.mul_le_mul_right x sa
    have h2 := Nat.le_mul_of_pos_left x g0
    omega
theorem dv_val {x : Int64} {g : Nat} {z : Int} (hx : Sm x) (hg : 0 < g) (hg2 : g < 281474976710656) (e : x.toInt = (g : Int) * z) : (x / lN g).toInt = z ∧ (x / -(lN g)).toInt = -z := by
  have egt : (lN g).toInt = (g : Int) := pk_lT (by omega)
  have eng : (-(lN g)).toInt = -(g : Int) := by rw [Int64.toInt_neg, egt, bml _ (by omega) (by omega)]
  have hz : -281474976710656 < z ∧ z < 281474976710656 := by
    have h1 : x.toInt.natAbs = g * z.natAbs := by rw [e, Int.natAbs_mul, Int.natAbs_natCast]
    have h2 := Nat.le_mul_of_pos_left z.natAbs hg
    unfold Sm at hx
    omega
  have hc : ((g : Int) * z).tdiv (g : Int) = z := Int.mul_tdiv_cancel_left _ (by omega)
  constructor
  · rw [Int64.toInt_div, egt, e, hc, bml _ (by omega) (by omega)]
  · rw [Int64.toInt_div, eng, Int.tdiv_neg, e, hc, bml _ (by omega) (by omega)]
/-- a fraction of the class and of the model, by its numbers -/
theorem s_becR (u l tu tl : Int64) (n : Nat) (hu : Sm u) (hl : Sm l) (h0 : l.toInt ≠ 0) (hn : 200 ≤ n) : ∃ U L, f_X0_become n tu tl u l = some (U, L) ∧ U.toInt = (red u.toInt l.toInt).1 ∧ L.toInt = (red u.toInt l.toInt).2 ∧ f_X12_lowest n u l 0 = some U ∧ (∀ part : Int32, part ≠ 0 → f_X12_lowest n u l part = some L) := by
  obtain ⟨U, L, h1, h2, h3⟩ := s_become u l tu tl n hu hl h0 hn
  refine ⟨U, L, h1, ?_, ?_, h2, h3⟩
  all_goals
    have hu2 := hu
    have hl2 := hl
    unfold Sm at hu2 hl2
    have hg0 : 0 < gl u l := Nat.gcd_pos_of_pos_right _ (by omega)
    have hg1 : gl u l ≤ l.toInt.natAbs := Nat.le_of_dvd (by omega) (Nat.gcd_dvd_right _ _)
    have hnz : nzl (lN (gl u l)) = true := l_nz (by omega) (by omega)
    have egt : (lN (gl u l)).toInt = (gl u l : Int) := pk_lT (by omega)
    have eng : (-(lN (gl u l))).toInt = -(gl u l : Int) := by rw [Int64.toInt_neg, egt, bml _ (by omega) (by omega)]
    have hnz2 : nzl (-(lN (gl u l))) = true := by
      unfold nzl
      have h2 : ¬ -(lN (gl u l)) = 0 := fun e => by
        have e2 := congrArg Int64.toInt e
        rw [eng, show (0 : Int64).toInt = 0 from by decide] at e2
        omega
      simp [h2]
    obtain ⟨x, hx⟩ := Nat.gcd_dvd_left u.toInt.natAbs l.toInt.natAbs
    obtain ⟨y, hy⟩ := Nat.gcd_dvd_right u.toInt.natAbs l.toInt.natAbs
    have ea := Int.sign_mul_natAbs u.toInt
    have eb := Int.sign_mul_natAbs l.toInt
    have hq1 : u.toInt.natAbs / Nat.gcd u.toInt.natAbs l.toInt.natAbs = x := by
      conv => lhs; lhs; rw [hx]
      exact Nat.mul_div_cancel_left _ hg0
    have hq2 : l.toInt.natAbs / Nat.gcd u.toInt.natAbs l.toInt.natAbs = y := by
      conv => lhs; lhs; rw [hy]
      exact Nat.mul_div_cancel_left _ hg0
    have ux : u.toInt = (gl u l : Int) * (u.toInt.sign * x) := by
      have xa : (u.toInt.natAbs : Int) = (gl u l : Int) * (x : Int) := by rw [← Int.natCast_mul]; exact congrArg _ hx
      rw [xa] at ea
      generalize u.toInt.sign = s at *
      grind
    have ly : l.toInt = (gl u l : Int) * (l.toInt.sign * y) := by
      have xa : (l.toInt.natAbs : Int) = (gl u l : Int) * (y : Int) := by rw [← Int.natCast_mul]; exact congrArg _ hy
      rw [xa] at eb
      generalize l.toInt.sign = s at *
      grind
    have du := dv_val hu hg0 (by omega) ux
    have dl := dv_val hl hg0 (by omega) ly
  · have e2 := s_lowest u l 0 n hu hl hn
    rw [h2] at e2
    unfold red
    rw [hq1]
    show U.toInt = u.toInt.sign * l.toInt.sign * (x : Int)
    by_cases h : 0 ≤ lg_cmp l 0
    · rw [if_pos h] at e2
      unfold f_X12_lowest_67 at e2
      rw [if_pos rfl, hnz, grd_t] at e2
      have e3 := Option.some.inj e2
      have hp := (l_pos hl h).2
      rw [e3, du.1, Int.sign_eq_one_of_pos (show 0 < l.toInt by omega), Int.mul_one]
    · rw [if_neg h] at e2
      unfold f_X12_lowest_67 at e2
      rw [if_pos rfl, hnz2, grd_t] at e2
      have e3 := Option.some.inj e2
      have hp := (l_npos hl h).2
      rw [e3, du.2, Int.sign_eq_neg_one_of_neg hp]
      generalize u.toInt.sign = s
      grind
  · have e2 := s_lowest u l 1 n hu hl hn
    rw [h3 1 (by decide)] at e2
    unfold red
    rw [hq2]
    show L.toInt = (y : Int)
    by_cases h : 0 ≤ lg_cmp l 0
    · rw [if_pos h] at e2
      unfold f_X12_lowest_67 at e2
      rw [if_neg (by decide), hnz, grd_t] at e2
      have e3 := Option.some.inj e2
      have hp := (l_pos hl h).2
      rw [e3, dl.1, Int.sign_eq_one_of_pos (show 0 < l.toInt by omega), Int.one_mul]
    · rw [if_neg h] at e2
      unfold f_X12_lowest_67 at e2
      rw [if_neg (by decide), hnz2, grd_t] at e2
      have e3 := Option.some.inj e2
      have hp := (l_npos hl h).2
      rw [e3, dl.2, Int.sign_eq_neg_one_of_neg hp]
      omega
