/-! PART, what a PASS bends, BENDS: the model. -/
def mdec (set : Nat → Int32) (k l : Int32) : Int32 := if k / 4 = l / 4 then (if sz (k - l) = 1 then set 1 else if sz (k - l) = 0 then set 2 else 0) else set 0
def mpart (set line : Nat → Int32) (l : Int32) : Nat → Int32
  | 0 => 100
  | k + 1 => mpart set line l k - mdec set (line k) l
def max0 (v : Int32) : Int32 := if 0 ≤ v then v else 0
theorem s_part_loop (line set : Nat → Int32) (i : Nat) (hi : i < 40) : ∀ (r n k : Nat), k + r = i → r + 1 ≤ n → f_X12_partOf_5 line set n (nI i) (mpart set line (line i) k) (nI k) = some (max0 (mpart set line (line i) i)) := by
  intro r
  induction r with
  | zero =>
    intro n k hk hn
    obtain ⟨m, rfl⟩ : ∃ m, n = m + 1 := ⟨n - 1, by omega⟩
    show f_X12_partOf_5b line set _ _ _ _ _ = _
    unfold f_X12_partOf_5b max0
    obtain rfl : k = i := by omega
    rw [if_pos (Int32.le_refl _)]
    split <;> rfl
  | succ r ih =>
    intro n k hk hn
    obtain ⟨m, rfl⟩ : ∃ m, n = m + 1 := ⟨n - 1, by omega⟩
    show f_X12_partOf_5b line set (f_X12_partOf_5 line set m) _ _ _ _ = _
    unfold f_X12_partOf_5b f_X12_partOf_34
    have h := ih m (k + 1) (by omega) (by omega)
    rw [show mpart set line (line i) (k + 1) = mpart set line (line i) k - mdec set (line k) (line i) from rfl] at h
    unfold mdec at h
    rw [if_neg (by rw [p_le (by omega) (by omega)]; omega), p_vin (by omega) (by omega), p_vin (by omega) (by omega), p_cl (by omega), p_cl (by omega)]
    simp only [grd_t, s_size, Option.bind_some, nmd, p_1]
    have e1 : (1 : Int32).toNatClampNeg = 1 := rfl
    have e2 : (2 : Int32).toNatClampNeg = 2 := rfl
    have e0 : (0 : Int32).toNatClampNeg = 0 := rfl
    simp only [e0, e1, e2]
    by_cases h1 : line k / 4 = line i / 4
    · simp only [h1, if_true, if_pos] at h ⊢
      by_cases h2 : sz (line k - line i) = 1
      · simp only [h2, if_pos] at h ⊢
        exact h
      · simp only [h2, if_false] at h ⊢
        by_cases h3 : sz (line k - line i) = 0
        · simp only [h3, if_pos] at h ⊢
          exact h
        · simp only [h3, if_false] at h ⊢
          exact h
    · simp only [h1, if_false] at h ⊢
      simp only [show ¬ ((1 : Int32) = 0) from by decide, if_false]
      exact h
theorem s_part (line set : Nat → Int32) (n i : Nat) (hi : i < 40) (hn : 50 ≤ n) : f_X12_partOf n line set (nI i) = some (max0 (mpart set line (line i) i)) := s_part_loop line set i hi i n 0 (by omega) (by omega)
/-- what the i-th PASS bends, if the PART is given -/
def bentv (tab : Nat → Int32) (str wat bak part : Int32) : Int32 := if bak = 1 then -(tab (2 * str + wat).toNatClampNeg * part / 100) else tab (2 * str + wat).toNatClampNeg * part / 100
theorem s_bent (line str wat bak tab set : Nat → Int32) (n i : Nat) (hi : i < 40) (hn : 50 ≤ n) (hs : vin (2 * str i + wat i) 20 = true) : f_X12_bentBy n line str wat bak tab set (nI i) = some (bentv tab (str i) (wat i) (bak i) (max0 (mpart set line (line i) i))) := by
  unfold f_X12_bentBy bentv
  rw [p_vin hi (by omega), p_cl (by omega), hs, s_part line set n i hi hn]
  simp only [grd_t, Option.bind_some, nmd]
  split <;> rfl
/-- a row that is 0 below 8 -/
def zer8 (b : Nat → Int32) (k : Nat) : Nat → Int32 := fun j => if j < k then 0 else b j
def mbends (line str wat bak tab set b0 : Nat → Int32) : Nat → Nat → Int32
  | 0 => b0
  | k + 1 => upd (mbends line str wat bak tab set b0 k) (line k).toNatClampNeg (mbends line str wat bak tab set b0 k (line k).toNatClampNeg + bentv tab (str k) (wat k) (bak k) (max0 (mpart set line (line k) k)))
theorem s_bends_loop (line str wat bak tab set b0 : Nat → Int32) (many : Nat) (hm : many ≤ 40) (hs : ∀ i, i < many → vin (2 * str i + wat i) 20 = true) (hl : ∀ i, i < many → vin (line i) 8 = true) : ∀ (r n k : Nat), k + r = many → r + 60 ≤ n → f_X12_findBends_23 line str wat bak tab set n (mbends line str wat bak tab set b0 k) (nI many) (nI k) = some (mbends line str wat bak tab set b0 many) := by
  intro r
  induction r with
  | zero =>
    intro n k hk hn
    obtain ⟨m, rfl⟩ : ∃ m, n = m + 1 := ⟨n - 1, by omega⟩
    show f_X12_findBends_23b line str wat bak tab set _ _ _ _ _ = _
    unfold f_X12_findBends_23b
    obtain rfl : k = many := by omega
    rw [if_pos (Int32.le_refl _)]
  | succ r ih =>
    intro n k hk hn
    obtain ⟨m, rfl⟩ : ∃ m, n = m + 1 := ⟨n - 1, by omega⟩
    show f_X12_findBends_23b line str wat bak tab set (f_X12_findBends_23 line str wat bak tab set m) _ _ _ _ = _
    unfold f_X12_findBends_23b
    have h := ih m (k + 1) (by omega) (by omega)
    rw [if_neg (by rw [p_le (by omega) (by omega)]; omega), p_vin (by omega) (by omega), p_cl (by omega), hl k (by omega), s_bent line str wat bak tab set m k (by omega) (by omega) (hs k (by omega))]
    simp only [grd_t, Option.bind_some, p_1]
    exact h
theorem s_zero_loop (line str wat bak tab set b0 : Nat → Int32) (many : Int32) : ∀ (r n k : Nat), k + r = 8 → f_X12_findBends_2 line str wat bak tab set (n + r + 1) (zer8 b0 k) many (nI k) = f_X12_findBends_23 line str wat bak tab set n (zer8 b0 8) many 0 := by
  intro r
  induction r with
  | zero =>
    intro n k hk
    obtain rfl : k = 8 := by omega
    show f_X12_findBends_2b line str wat bak tab set _ _ _ _ _ = _
    unfold f_X12_findBends_2b
    rw [if_pos (by decide)]
  | succ r ih =>
    intro n k hk
    have h := ih n (k + 1) (by omega)
    show f_X12_findBends_2b line str wat bak tab set (f_X12_findBends_2 line str wat bak tab set (n + r + 1)) _ _ _ _ = _
    unfold f_X12_findBends_2b
    rw [k8, if_neg (by rw [p_le (by omega) (by omega)]; omega), p_vin (by omega) (by omega), p_cl (by omega)]
    simp only [grd_t, p_1]
    rw [← h]
    congr 1
    funext j
    unfold upd zer8
    by_cases h1 : j = k
    · rw [if_pos h1, if_pos (by omega)]
    · rw [if_neg h1]
      by_cases h2 : j < k
      · rw [if_pos h2, if_pos (by omega)]
      · rw [if_neg h2, if_neg (by omega)]
theorem zer8_0 (b : Nat → Int32) : zer8 b 0 = b := by
  funext j
  unfold zer8
  rw [if_neg (by omega)]
theorem s_bends (line str wat bak tab set b0 : Nat → Int32) (many n : Nat) (hm : many ≤ 40) (hn : 200 ≤ n) (hs : ∀ i, i < many → vin (2 * str i + wat i) 20 = true) (hl : ∀ i, i < many → vin (line i) 8 = true) : f_X12_findBends n line str wat bak tab set b0 (nI many) = some (mbends line str wat bak tab set (zer8 b0 8) many) := by
  unfold f_X12_findBends
  have h := s_zero_loop line str wat bak tab set b0 (nI many) 8 (n - 9) 0 (by omega)
  rw [zer8_0, show n - 9 + 8 + 1 = n from by omega] at h
  rw [k0, h]
  exact s_bends_loop line str wat bak tab set (zer8 b0 8) many hm hs hl many (n - 9) 0 (by omega) (by omega)
