/-! The pure side: numbers. -/
theorem p_le {a b : Nat} (ha : a < 2147483648) (hb : b < 2147483648) : (nI a ≤ nI b) ↔ a ≤ b := nI_leI ha hb
theorem p_lt {a b : Nat} (ha : a < 2147483648) (hb : b < 2147483648) : (nI a < nI b) ↔ a < b := nI_ltI ha hb
theorem p_eq {a b : Nat} (ha : a < 2147483648) (hb : b < 2147483648) : (nI a = nI b) ↔ a = b := nI_eq ha hb
theorem p_cl {a : Nat} (ha : a < 2147483648) : (nI a).toNatClampNeg = a := nI_clamp ha
theorem p_vin {a N : Nat} (h : a < N) (hN : N < 2147483648) : vin (nI a) N = true := vin_of (vp_in_nI h hN)
theorem grd_t {α : Type} (x : Option α) : grd true x = x := rfl
theorem p_1 (a : Nat) : nI a + 1 = nI (a + 1) := nI_1 a
theorem p_add (a b : Nat) : nI a + nI b = nI (a + b) := nI_add a b
theorem p_mul (a b : Nat) : nI a * nI b = nI (a * b) := pk_mul a b
theorem p_sub {a b : Nat} (h : b ≤ a) : nI a - nI b = nI (a - b) := pk_sub h
theorem p_div {a d : Nat} (ha : a < 2147483648) (h0 : 0 < d) (hd : d < 2147483648) : nI a / nI d = nI (a / d) := pk_div ha h0 hd
theorem p_rem {a d : Nat} (ha : a < 2147483648) (h0 : 0 < d) (hd : d < 2147483648) : jrem (nI a) (nI d) = nI (a % d) := pk_rem ha h0 hd
theorem k0 : (0 : Int32) = nI 0 := rfl
theorem k1 : (1 : Int32) = nI 1 := rfl
theorem k2 : (2 : Int32) = nI 2 := rfl
theorem k3 : (3 : Int32) = nI 3 := rfl
theorem k4 : (4 : Int32) = nI 4 := rfl
theorem k5 : (5 : Int32) = nI 5 := rfl
theorem k6 : (6 : Int32) = nI 6 := rfl
theorem k7 : (7 : Int32) = nI 7 := rfl
theorem k8 : (8 : Int32) = nI 8 := rfl
theorem k9 : (9 : Int32) = nI 9 := rfl
theorem k10 : (10 : Int32) = nI 10 := rfl
theorem k12 : (12 : Int32) = nI 12 := rfl
theorem k30 : (30 : Int32) = nI 30 := rfl
theorem k36 : (36 : Int32) = nI 36 := rfl
theorem k50 : (50 : Int32) = nI 50 := rfl
/-- an Int32 in a range of small numbers -/
theorem p_of {x : Int32} {b : Nat} (h1 : 0 ≤ x) (h2 : x < nI b) (hb : b < 2147483648) : ∃ k, k < b ∧ x = nI k := by
  obtain ⟨j, hj, rfl⟩ := nI_of (x := x) (Int32.not_lt.mpr h1)
  exact ⟨j, (p_lt hj hb).mp h2, rfl⟩
/-- the model's size -/
def sz (v : Int32) : Int32 := if 0 ≤ v then v else -v
theorem s_size (n : Nat) (v : Int32) : f_X12_size n v = some (sz v) := by
  unfold f_X12_size sz
  split <;> rfl
theorem s_in (n : Nat) (x a b : Int64) : f_X12_in n x a b = some (if a.toInt ≤ x.toInt ∧ x.toInt ≤ b.toInt then 1 else 0) := by
  unfold f_X12_in
  simp only [lg_cmp_lt, lg_cmp_gt, Int64.lt_iff_toInt_lt]
  by_cases h1 : x.toInt < a.toInt
  · rw [if_pos h1, if_neg (by omega)]
  · rw [if_neg h1]
    by_cases h2 : b.toInt < x.toInt
    · rw [if_pos h2, if_neg (by omega)]
    · rw [if_neg h2, if_pos (by omega)]
/-! Heights, MISS and WORST of BENDS against a WISH, as the model makes them. -/
def hst (b : Nat → Int32) (x y : Int32) (k : Nat) (acc : Int32) : Int32 :=
  (acc + (if x ≤ nI k + 1 then 0 else b k * ((x - nI k) - 1))) + (if y ≤ nI k + 1 then 0 else b (4 + k) * ((y - nI k) - 1))
def hgt2 (b : Nat → Int32) (x y : Int32) : Int32 := hst b x y 3 (hst b x y 2 (hst b x y 1 (hst b x y 0 0)))
def hgt (b : Nat → Int32) (c : Nat) : Int32 := hgt2 b (nI (c % 6)) (nI (c / 6))
theorem s_hstep (b : Nat → Int32) (n : Nat) (x y acc : Int32) (k : Nat) (hk : k < 4) : f_X12_heightAt_16 b (n + 1) x y acc (nI k) = f_X12_heightAt_16 b n x y (hst b x y k acc) (nI (k + 1)) := by
  show f_X12_heightAt_16b b (f_X12_heightAt_16 b n) n x y acc (nI k) = _
  unfold f_X12_heightAt_16b f_X12_heightAt_50 hst
  rw [k4, if_neg (by rw [p_le (by omega) (by omega)]; omega)]
  simp only [nmd, p_1, p_add]
  rw [p_vin (by omega) (by omega), p_vin (by omega) (by omega), p_cl (by omega), p_cl (by omega)]
  split <;> split <;> rfl
theorem s_height (b : Nat → Int32) (n c : Nat) (hc : c < 36) (hn : 5 ≤ n) : f_X12_heightAt n b (nI c) = some (hgt b c) := by
  obtain ⟨m, rfl⟩ : ∃ m, n = m + 5 := ⟨n - 5, by omega⟩
  unfold f_X12_heightAt hgt hgt2
  simp only [nmd]
  rw [k6, p_rem (by omega) (by omega) (by omega), p_div (by omega) (by omega) (by omega)]
  rw [k0, s_hstep _ _ _ _ _ 0 (by omega), s_hstep _ _ _ _ _ 1 (by omega), s_hstep _ _ _ _ _ 2 (by omega), s_hstep _ _ _ _ _ 3 (by omega)]
  show f_X12_heightAt_16b b _ _ _ _ _ _ = _
  unfold f_X12_heightAt_16b
  rw [if_pos (by decide)]
def off (b w : Nat → Int32) (c : Nat) : Int32 := hgt b c - w c
theorem s_off (b w : Nat → Int32) (n c : Nat) (hc : c < 36) (hn : 5 ≤ n) : f_X12_offAt n b w (nI c) = some (off b w c) := by
  unfold f_X12_offAt off
  rw [s_height b n c hc hn]
  simp only [Option.bind_some]
  rw [p_vin hc (by omega), p_cl (by omega)]
  rfl
def abv (c : Nat) (i a0 a5 a30 : Int32) : Int32 := ((5 : Int32) * (i - a0)) - (a5 - a0) * nI (c % 6) - (a30 - a0) * nI (c / 6)
theorem s_above (n c : Nat) (hc : c < 36) (i a0 a5 a30 : Int32) : f_X12_above n (nI c) i a0 a5 a30 = some (abv c i a0 a5 a30) := by
  unfold f_X12_above abv
  rw [k6, p_rem (by omega) (by omega) (by omega), p_div (by omega) (by omega) (by omega)]
def mis (b w : Nat → Int32) (c : Nat) : Int32 := abv c (off b w c) (off b w 0) (off b w 5) (off b w 30)
theorem s_miss (b w : Nat → Int32) (n c : Nat) (hc : c < 36) (hn : 5 ≤ n) : f_X12_missAt n b w (nI c) = some (mis b w c) := by
  unfold f_X12_missAt mis
  rw [k0, k5, k30, s_off b w n c hc hn, s_off b w n 0 (by omega) hn, s_off b w n 5 (by omega) hn, s_off b w n 30 (by omega) hn]
  simp only [Option.bind_some]
  rw [s_above n c hc]
  rfl
def wor (b w : Nat → Int32) : Nat → Int32
  | 0 => 0
  | k + 1 => if sz (mis b w k) ≤ wor b w k then wor b w k else sz (mis b w k)
theorem s_worst_loop (b w : Nat → Int32) : ∀ (r n k : Nat), k + r = 36 → r + 6 ≤ n → f_X12_worstOf_4 b w n (wor b w k) (nI k) = some (wor b w 36) := by
  intro r
  induction r with
  | zero =>
    intro n k hk hn
    obtain ⟨m, rfl⟩ : ∃ m, n = m + 1 := ⟨n - 1, by omega⟩
    show f_X12_worstOf_4b b w _ _ _ _ = _
    unfold f_X12_worstOf_4b
    obtain rfl : k = 36 := by omega
    rw [if_pos (by decide)]
  | succ r ih =>
    intro n k hk hn
    obtain ⟨m, rfl⟩ : ∃ m, n = m + 1 := ⟨n - 1, by omega⟩
    show f_X12_worstOf_4b b w (f_X12_worstOf_4 b w m) _ _ _ = _
    unfold f_X12_worstOf_4b
    rw [k36, if_neg (by rw [p_le (by omega) (by omega)]; omega), s_miss b w m k (by omega) (by omega)]
    simp only [Option.bind_some]
    rw [s_size]
    simp only [Option.bind_some, p_1]
    have h := ih m (k + 1) (by omega) (by omega)
    unfold wor at h
    split
    · rename_i h1
      rw [if_pos h1] at h
      exact h
    · rename_i h1
      rw [if_neg h1] at h
      exact h
theorem s_worst (b w : Nat → Int32) (n : Nat) (hn : 50 ≤ n) : f_X12_worstOf n b w = some (wor b w 36) := s_worst_loop b w 36 n 0 (by omega) (by omega)
