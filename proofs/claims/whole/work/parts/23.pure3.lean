/-! WORST of the class: within a limit it is the model's WORST, beyond it both are. -/
theorem jabs_sz (v : Int32) : jabs v = sz v := by
  unfold jabs sz
  split
  · rfl
  · grind
theorem jmax_if (a s : Int32) : jmax a s = if s ≤ a then a else s := by
  unfold jmax
  by_cases h : a < s
  · rw [if_pos h, if_neg (Int32.not_le.mpr h)]
  · rw [if_neg h, if_pos (Int32.not_lt.mp h)]
theorem wor_mono (b w : Nat → Int32) (k : Nat) : wor b w k ≤ wor b w (k + 1) := by
  show wor b w k ≤ if sz (mis b w k) ≤ wor b w k then wor b w k else sz (mis b w k)
  split
  · exact Int32.le_refl _
  · rename_i h
    exact Int32.le_of_lt (Int32.not_le.mp h)
theorem wor_ge (b w : Nat → Int32) (k : Nat) : sz (mis b w k) ≤ wor b w (k + 1) := by
  show sz (mis b w k) ≤ if sz (mis b w k) ≤ wor b w k then wor b w k else sz (mis b w k)
  split
  · assumption
  · exact Int32.le_refl _
theorem wor_monoN (b w : Nat → Int32) (k j : Nat) : wor b w k ≤ wor b w (k + j) := by
  induction j with
  | zero => exact Int32.le_refl _
  | succ j ih => exact Int32.le_trans ih (wor_mono b w (k + j))
theorem wor_geN (b w : Nat → Int32) (c : Nat) (hc : c < 36) : sz (mis b w c) ≤ wor b w 36 := by
  have h := wor_monoN b w (c + 1) (36 - (c + 1))
  rw [show c + 1 + (36 - (c + 1)) = 36 from by omega] at h
  exact Int32.le_trans (wor_ge b w c) h
theorem wor_nonneg (b w : Nat → Int32) (k : Nat) : 0 ≤ wor b w k := by
  have h := wor_monoN b w 0 k
  rw [Nat.zero_add] at h
  exact h
theorem s_ww_in (b w hu0 ac al : Nat → Int32) (hh : ∀ c, c < 36 → hu0 c = hw36 w c) (hac : ∀ x, x < 6 → ac x = hu b 0 x) (hal : ∀ y, y < 6 → al y = hu b 4 y) (lim : Int32) (k12 : (Nat → Int32) → (Nat → Int32) → Int32 → Int32 → Int32 → Int32 → Option (Int32 × (Nat → Int32) × (Nat → Int32))) (y : Nat) (hy : y < 6) : ∀ (r n x : Nat), x + r = 6 → r + 1 ≤ n →
    f_X6_worstWithin_22 b hu0 k12 n ac al lim (wor b w (6 * y + x)) (nI (6 * y + x)) (nI y) (nI x) = k12 ac al lim (wor b w (6 * (y + 1))) (nI (6 * (y + 1))) (nI (y + 1)) ∨
    ∃ c, c < 36 ∧ ¬ sz (mis b w c) ≤ lim ∧ f_X6_worstWithin_22 b hu0 k12 n ac al lim (wor b w (6 * y + x)) (nI (6 * y + x)) (nI y) (nI x) = some (sz (mis b w c), ac, al) := by
  intro r
  induction r with
  | zero =>
    intro n x hx hn
    obtain ⟨m, rfl⟩ : ∃ m, n = m + 1 := ⟨n - 1, by omega⟩
    obtain rfl : x = 6 := by omega
    refine Or.inl ?_
    show f_X6_worstWithin_22b b hu0 k12 _ _ ac al lim _ _ _ _ = _
    unfold f_X6_worstWithin_22b
    rw [if_pos (by decide), p_1, show 6 * (y + 1) = 6 * y + 6 from by omega]
  | succ r ih =>
    intro n x hx hn
    obtain ⟨m, rfl⟩ : ∃ m, n = m + 1 := ⟨n - 1, by omega⟩
    have e : f_X6_worstWithin_22 b hu0 k12 (m + 1) ac al lim (wor b w (6 * y + x)) (nI (6 * y + x)) (nI y) (nI x) = if sz (mis b w (6 * y + x)) ≤ lim then f_X6_worstWithin_22 b hu0 k12 m ac al lim (wor b w (6 * y + (x + 1))) (nI (6 * y + (x + 1))) (nI y) (nI (x + 1)) else some (sz (mis b w (6 * y + x)), ac, al) := by
      show f_X6_worstWithin_22b b hu0 k12 (f_X6_worstWithin_22 b hu0 k12 m) m ac al lim _ _ _ _ = _
      unfold f_X6_worstWithin_22b
      rw [k6, if_neg (by rw [p_le (by omega) (by omega)]; omega), p_vin (by omega) (by omega), p_vin (by omega) (by omega), p_vin (by omega) (by omega), p_cl (by omega), p_cl (by omega), p_cl (by omega), hac x (by omega), hal y hy, hh _ (by omega)]
      have hm := mis_hu b w (6 * y + x) (by omega)
      rw [show (6 * y + x) % 6 = x from by omega, show (6 * y + x) / 6 = y from by omega] at hm
      simp only [grd_t, nmd, hm, jabs_sz, jmax_if, p_1]
      rfl
    rw [e]
    by_cases h : sz (mis b w (6 * y + x)) ≤ lim
    · rw [if_pos h]
      exact ih m (x + 1) (by omega) (by omega)
    · rw [if_neg h]
      exact Or.inr ⟨6 * y + x, by omega, h, rfl⟩
theorem s_ww_out (b w hu0 ac al : Nat → Int32) (hh : ∀ c, c < 36 → hu0 c = hw36 w c) (hac : ∀ x, x < 6 → ac x = hu b 0 x) (hal : ∀ y, y < 6 → al y = hu b 4 y) (lim : Int32) : ∀ (r n y : Nat), y + r = 6 → r + 8 ≤ n →
    f_X6_worstWithin_12 b hu0 n ac al lim (wor b w (6 * y)) (nI (6 * y)) (nI y) = some (wor b w 36, ac, al) ∨
    ∃ c, c < 36 ∧ ¬ sz (mis b w c) ≤ lim ∧ f_X6_worstWithin_12 b hu0 n ac al lim (wor b w (6 * y)) (nI (6 * y)) (nI y) = some (sz (mis b w c), ac, al) := by
  intro r
  induction r with
  | zero =>
    intro n y hy hn
    obtain ⟨m, rfl⟩ : ∃ m, n = m + 1 := ⟨n - 1, by omega⟩
    obtain rfl : y = 6 := by omega
    refine Or.inl ?_
    show f_X6_worstWithin_12b b hu0 _ _ ac al lim _ _ _ = _
    unfold f_X6_worstWithin_12b
    rw [if_pos (by decide)]
  | succ r ih =>
    intro n y hy hn
    obtain ⟨m, rfl⟩ : ∃ m, n = m + 1 := ⟨n - 1, by omega⟩
    have e : f_X6_worstWithin_12 b hu0 (m + 1) ac al lim (wor b w (6 * y)) (nI (6 * y)) (nI y) = f_X6_worstWithin_22 b hu0 (f_X6_worstWithin_12 b hu0 m) m ac al lim (wor b w (6 * y + 0)) (nI (6 * y + 0)) (nI y) (nI 0) := by
      show f_X6_worstWithin_12b b hu0 (f_X6_worstWithin_12 b hu0 m) m ac al lim _ _ _ = _
      unfold f_X6_worstWithin_12b
      rw [k6, if_neg (by rw [p_le (by omega) (by omega)]; omega)]
      rfl
    rw [e]
    rcases s_ww_in b w hu0 ac al hh hac hal lim (f_X6_worstWithin_12 b hu0 m) y (by omega) 6 m 0 (by omega) (by omega) with h | ⟨c, h1, h2, h3⟩
    · rw [h]
      exact ih m (y + 1) (by omega) (by omega)
    · exact Or.inr ⟨c, h1, h2, h3⟩
/-- WORST of the class at a limit: a number, equal to the model's or with it beyond the limit -/
def wwOk (b w : Nat → Int32) (lim r : Int32) : Prop := r = wor b w 36 ∨ (¬ r ≤ lim ∧ ¬ wor b w 36 ≤ lim)
theorem s_ww (b w hu0 ac al : Nat → Int32) (n : Nat) (hn : 40 ≤ n) (hh : ∀ c, c < 36 → hu0 c = hw36 w c) (lim : Int32) : ∃ r, f_X6_worstWithin n b ac al hu0 lim = some (r, hpa b 0 ac, hpa b 4 al) ∧ wwOk b w lim r := by
  have e : f_X6_worstWithin n b ac al hu0 lim = f_X6_worstWithin_12 b hu0 n (hpa b 0 ac) (hpa b 4 al) lim (wor b w (6 * 0)) (nI (6 * 0)) (nI 0) := by
    unfold f_X6_worstWithin
    rw [s_hang b ac al n (by omega)]
    rfl
  rw [e]
  rcases s_ww_out b w hu0 (hpa b 0 ac) (hpa b 4 al) hh (fun x hx => hpa_at b ac 0 x hx) (fun x hx => hpa_at b al 4 x hx) lim 6 n 0 (by omega) (by omega) with h | ⟨c, h1, h2, h3⟩
  · exact ⟨_, h, Or.inl rfl⟩
  · exact ⟨_, h3, Or.inr ⟨h2, fun h4 => h2 (Int32.le_trans (wor_geN b w c h1) h4)⟩⟩
