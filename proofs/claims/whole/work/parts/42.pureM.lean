/-! Fractions in lowest terms: the class's and the model's are one. -/
theorem bml (z : Int) (h1 : -9223372036854775808 ≤ z) (h2 : z < 9223372036854775808) : z.bmod (2 ^ 64) = z := by
  rw [Int.bmod_def]
  omega
def Sm (x : Int64) : Prop := -281474976710656 < x.toInt ∧ x.toInt < 281474976710656
theorem l_neg {x : Int64} (h : Sm x) : (-x).toInt = -x.toInt := by
  unfold Sm at h
  rw [Int64.toInt_neg, bml _ (by omega) (by omega)]
theorem l_abs {x : Int64} (h : Sm x) : jabsl x = lN x.toInt.natAbs := by
  have e := l_neg h
  unfold Sm at h
  apply Int64.toInt_inj.mp
  rw [pk_lT (by omega)]
  unfold jabsl
  have z : (0 : Int64).toInt = 0 := by decide
  split
  · rename_i h1
    rw [Int64.lt_iff_toInt_lt, z] at h1
    omega
  · rename_i h1
    rw [Int64.lt_iff_toInt_lt, z] at h1
    omega
theorem l_pos {x : Int64} (h : Sm x) (h0 : 0 ≤ lg_cmp x 0) : x = lN x.toInt.natAbs ∧ 0 ≤ x.toInt := by
  rw [lg_cmp_ge, Int64.le_iff_toInt_le, show (0 : Int64).toInt = 0 from by decide] at h0
  unfold Sm at h
  refine ⟨?_, h0⟩
  apply Int64.toInt_inj.mp
  rw [pk_lT (by omega)]
  omega
theorem l_npos {x : Int64} (h : Sm x) (h0 : ¬ 0 ≤ lg_cmp x 0) : -x = lN x.toInt.natAbs ∧ x.toInt < 0 := by
  rw [lg_cmp_ge, Int64.le_iff_toInt_le, show (0 : Int64).toInt = 0 from by decide] at h0
  have e := l_neg h
  unfold Sm at h
  refine ⟨?_, by omega⟩
  apply Int64.toInt_inj.mp
  rw [pk_lT (by omega)]
  omega
theorem s_lw_one (u l : Int64) (part : Int32) (n a b : Nat) (ha : a < 9223372036854775808) (hb : b < 9223372036854775808) : f_X12_lowest_28 (n + 1) u l part (lN a) (lN b) = if b = 0 then (if 0 ≤ lg_cmp l 0 then f_X12_lowest_67 0 u l part (lN a) else f_X12_lowest_67 0 u l part (-(lN a))) else f_X12_lowest_28 n u l part (lN b) (lN (a % b)) := by
  show f_X12_lowest_28b (f_X12_lowest_28 n) n u l part (lN a) (lN b) = _
  unfold f_X12_lowest_28b
  by_cases h : b = 0
  · rw [if_pos ((l_z hb).mpr h), if_pos h]
    rfl
  · rw [if_neg (fun g => h ((l_z hb).mp g)), if_neg h, l_nz hb h]
    simp only [grd_t, nmd]
    rw [l_rem ha (by omega) hb]
theorem s_lw (u l : Int64) (part : Int32) : ∀ (k n a b : Nat), b < 2 ^ k → a < 9223372036854775808 → b < 9223372036854775808 → 2 * k + 2 ≤ n → f_X12_lowest_28 n u l part (lN a) (lN b) = (if 0 ≤ lg_cmp l 0 then f_X12_lowest_67 0 u l part (lN (Nat.gcd a b)) else f_X12_lowest_67 0 u l part (-(lN (Nat.gcd a b)))) := by
  intro k
  induction k with
  | zero =>
    intro n a b hb ha hb2 hn
    obtain ⟨m, rfl⟩ : ∃ m, n = m + 1 := ⟨n - 1, by omega⟩
    have h0 : b = 0 := by
      have h1 : b < 1 := hb
      omega
    subst h0
    rw [s_lw_one u l part m a 0 ha hb2, if_pos rfl, Nat.gcd_zero_right]
  | succ k ih =>
    intro n a b hb ha hb2 hn
    obtain ⟨m, rfl⟩ : ∃ m, n = m + 2 := ⟨n - 2, by omega⟩
    rw [s_lw_one u l part (m + 1) a b ha hb2]
    by_cases h : b = 0
    · rw [if_pos h, h, Nat.gcd_zero_right]
    · rw [if_neg h]
      have hr := Nat.mod_lt a (show 0 < b by omega)
      rw [s_lw_one u l part m b (a % b) hb2 (by omega)]
      have eg : Nat.gcd a b = Nat.gcd b (a % b) := by
        rw [Nat.gcd_comm a b, Nat.gcd_rec b a, Nat.gcd_comm]
      by_cases h2 : a % b = 0
      · rw [if_pos h2, eg, h2, Nat.gcd_zero_right]
      · rw [if_neg h2]
        have hh := half_mod (b := b) (r := a % b) (by omega) hr
        have hp : 2 ^ (k + 1) = 2 * 2 ^ k := by rw [Nat.pow_succ, Nat.mul_comm]
        have eg2 : Nat.gcd b (a % b) = Nat.gcd (a % b) (b % (a % b)) := by
          rw [Nat.gcd_comm b (a % b), Nat.gcd_rec (a % b) b, Nat.gcd_comm]
        rw [eg, eg2]
        exact ih m (a % b) (b % (a % b)) (by omega) (by omega) (by have := Nat.mod_lt b (show 0 < a % b by omega); omega) (by omega)
/-- the common divisor of two longs -/
def gl (u l : Int64) : Nat := Nat.gcd u.toInt.natAbs l.toInt.natAbs
theorem s_lowest (u l : Int64) (part : Int32) (n : Nat) (hu : Sm u) (hl : Sm l) (hn : 200 ≤ n) : f_X12_lowest n u l part = (if 0 ≤ lg_cmp l 0 then f_X12_lowest_67 0 u l part (lN (gl u l)) else f_X12_lowest_67 0 u l part (-(lN (gl u l)))) := by
  have hu2 := hu
  have hl2 := hl
  unfold Sm at hu2 hl2
  have h12 : f_X12_lowest_12 n u l part (lN u.toInt.natAbs) = (if 0 ≤ lg_cmp l 0 then f_X12_lowest_67 0 u l part (lN (gl u l)) else f_X12_lowest_67 0 u l part (-(lN (gl u l)))) := by
    have r := s_lw u l part 48 n u.toInt.natAbs l.toInt.natAbs (by omega) (by omega) (by omega) (by omega)
    unfold f_X12_lowest_12
    by_cases h : 0 ≤ lg_cmp l 0
    · have e := (l_pos hl h).1
      rw [if_pos h]
      have r2 : f_X12_lowest_28 n u l part (lN u.toInt.natAbs) l = f_X12_lowest_28 n u l part (lN u.toInt.natAbs) (lN l.toInt.natAbs) := congrArg (f_X12_lowest_28 n u l part (lN u.toInt.natAbs)) e
      rw [r2, r]
      rfl
    · have e := (l_npos hl h).1
      rw [if_neg h]
      simp only [nmd]
      rw [e, r]
      rfl
  unfold f_X12_lowest
  by_cases h : 0 ≤ lg_cmp u 0
  · have e := (l_pos hu h).1
    rw [if_pos h]
    have r2 : f_X12_lowest_12 n u l part u = f_X12_lowest_12 n u l part (lN u.toInt.natAbs) := congrArg (f_X12_lowest_12 n u l part) e
    rw [r2, h12]
  · rw [if_neg h, (l_npos hu h).1, h12]
/-- the class's fraction and the model's answers are the same numbers -/
theorem s_become (u l tu tl : Int64) (n : Nat) (hu : Sm u) (hl : Sm l) (h0 : l.toInt ≠ 0) (hn : 200 ≤ n) : ∃ U L, f_X0_become n tu tl u l = some (U, L) ∧ f_X12_lowest n u l 0 = some U ∧ (∀ part : Int32, part ≠ 0 → f_X12_lowest n u l part = some L) := by
  have hu2 := hu
  have hl2 := hl
  unfold Sm at hu2 hl2
  have hg0 : 0 < gl u l := Nat.gcd_pos_of_pos_right _ (by omega)
  have hg1 : gl u l ≤ l.toInt.natAbs := Nat.le_of_dvd (by omega) (Nat.gcd_dvd_right _ _)
  have hc : f_X0_commonDivisor n (jabsl u) (jabsl l) = some (lN (gl u l)) := by
    rw [l_abs hu, l_abs hl]
    exact s_cd n _ _ (by omega) (by omega) (by omega)
  have hz1 : ¬ lg_cmp (lN (gl u l)) 0 = 0 := fun h => by
    have := (l_z (b := gl u l) (by omega)).mp h
    omega
  have hz2 : ¬ lg_cmp l 0 = 0 := fun h => by
    rw [lg_cmp_eq] at h
    rw [h] at h0
    exact h0 (by decide)
  have hnz : nzl (lN (gl u l)) = true := l_nz (by omega) (by omega)
  have egt : (lN (gl u l)).toInt = (gl u l : Int) := pk_lT (by omega)
  have eng : (-(lN (gl u l))).toInt = -(gl u l : Int) := by rw [Int64.toInt_neg, egt, bml _ (by omega) (by omega)]
  have hnz2 : nzl (-(lN (gl u l))) = true := by
    unfold nzl
    have h2 : ¬ -(lN (gl u l)) = 0 := fun e => by
      have e2 := congrArg Int64.toInt e
      rw [eng, show (0 : Int64).toInt = 0 from by decide] at e2
      omega
    simp [h2]
  have hr : ∀ part, f_X12_lowest n u l part = _ := fun part => s_lowest u l part n hu hl hn
  by_cases h : 0 ≤ lg_cmp l 0
  · refine ⟨1 * u / lN (gl u l), 1 * l / lN (gl u l), ?_, ?_, fun part hp => ?_⟩
    · unfold f_X0_become f_X0_become_50
      rw [hc]
      simp only [Option.bind_some]
      rw [if_neg hz1, if_neg hz2, if_pos h, hnz]
      rfl
    · rw [hr, if_pos h]
      unfold f_X12_lowest_67
      rw [if_pos rfl, hnz, grd_t, Int64.one_mul]
    · rw [hr, if_pos h]
      unfold f_X12_lowest_67
      rw [if_neg hp, hnz, grd_t, Int64.one_mul]
  · have key : ∀ x : Int64, Sm x → -1 * x / lN (gl u l) = x / -(lN (gl u l)) := by
      intro x hx
      have en := l_neg hx
      unfold Sm at hx
      apply Int64.toInt_inj.mp
      have e1 : (-1 * x : Int64) = -x := by grind
      rw [e1, Int64.toInt_div, Int64.toInt_div, en, egt, eng, Int.tdiv_neg, Int.neg_tdiv]
    refine ⟨-1 * u / lN (gl u l), -1 * l / lN (gl u l), ?_, ?_, fun part hp => ?_⟩
    · unfold f_X0_become f_X0_become_50
      rw [hc]
      simp only [Option.bind_some]
      rw [if_neg hz1, if_neg hz2, if_neg h, hnz]
      rfl
    · rw [hr, if_neg h]
      unfold f_X12_lowest_67
      rw [if_pos rfl, hnz2, grd_t, key u hu]
    · rw [hr, if_neg h]
      unfold f_X12_lowest_67
      rw [if_neg hp, hnz2, grd_t, key l hl]
