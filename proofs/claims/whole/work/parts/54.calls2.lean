/-! The calls table, set, wish, twist, bound, item. -/
theorem n10 : ¬ (1 : Int32) = 0 := by decide
theorem y00 : (0 : Int32) = 0 := rfl
theorem upd_T (f : Nat → Int32) (k j : Nat) (v : Int32) (p : Int → Prop) (h1 : p v.toInt) (h2 : p (f j).toInt) : p (upd f k v j).toInt := by
  unfold upd
  split
  · exact h1
  · exact h2
theorem c_table (n : Nat) (set num tab : Nat → Int32) (kn x1 x2 x3 : Int32) (hT : RTb set num tab) : ∃ r num' kn' tab', f_X11_table n num kn x1 x2 x3 = some (r, num', kn') ∧ f_X12_table n tab x1 x2 x3 = some (r, tab') ∧ RTb set num' tab' ∧ (kn' = 0 ∨ (kn' = kn ∧ tab' = tab)) := by
  unfold f_X11_table f_X12_table f_X5_putTable f_X5_tableOf
  rw [i_noStrength, i_strength, i_01, i_1000]
  simp only [Option.bind_some, lt_T, le_T, show (0 : Int32).toInt = 0 from by decide, show (1 : Int32).toInt = 1 from by decide, show (1000 : Int32).toInt = 1000 from by decide]
  by_cases h1 : 1 ≤ x1.toInt ∧ x1.toInt ≤ 9
  · rw [if_pos h1, if_pos h1, if_pos (show (0 : Int32) = 0 from rfl), if_neg (show ¬ (1 : Int32) = 0 from by decide)]
    by_cases h2 : 0 ≤ x2.toInt ∧ x2.toInt ≤ 1
    · rw [if_neg (show ¬ x2.toInt < 0 by omega), if_neg (show ¬ 1 < x2.toInt by omega), if_pos h2, if_neg (show ¬ (1 : Int32) = 0 from by decide)]
      by_cases h3 : 0 ≤ x3.toInt ∧ x3.toInt ≤ 1000
      · rw [if_neg (show ¬ x3.toInt < 0 by omega), if_pos h3.2, if_pos h3, if_neg (show ¬ (1 : Int32) = 0 from by decide)]
        obtain ⟨S, hS, rfl⟩ := t_in (x := x1) (b := 10) (by omega) (by omega) (by omega)
        obtain ⟨w, hw, rfl⟩ := t_in (x := x2) (b := 2) (by omega) (by omega) (by omega)
        rw [p_T (by omega)] at h1
        have e : 2 * (nI S - 1) + nI w = nI (2 * (S - 1) + w) := by rw [k1, p_sub (by omega), k2, p_mul, p_add]
        have e' : 2 * nI S + nI w = nI (2 * S + w) := by rw [k2, p_mul, p_add]
        rw [e, e', p_vin (show 2 * (S - 1) + w < 18 by omega) (by omega), p_vin (show 2 * S + w < 20 by omega) (by omega), p_cl (by omega), p_cl (by omega), hT.1 _ (by omega), show 2 * (S - 1) + w + 2 = 2 * S + w from by omega]
        simp only [grd_t, Option.bind_some, nmd]
        refine ⟨_, _, 0, _, rfl, rfl, ⟨fun j hj => ?_, fun j hj1 hj2 => upd_T tab _ j x3 (fun z => 0 ≤ z ∧ z ≤ 1000) h3 (hT.2.1 j hj1 hj2), hT.2.2⟩, Or.inl rfl⟩
        unfold upd
        by_cases q : j = 2 * (S - 1) + w
        · rw [if_pos q, if_pos (by omega)]
        · rw [if_neg q, if_neg (by omega)]
          exact hT.1 j hj
      · rw [if_neg h3, if_pos (show (0 : Int32) = 0 from rfl)]
        refine ⟨-2, num, kn, tab, ?_, rfl, hT, Or.inr ⟨rfl, rfl⟩⟩
        by_cases q : x3.toInt < 0
        · rw [if_pos q]
        · rw [if_neg q, if_neg (by omega)]
    · rw [if_neg h2, if_pos (show (0 : Int32) = 0 from rfl)]
      refine ⟨-2, num, kn, tab, ?_, rfl, hT, Or.inr ⟨rfl, rfl⟩⟩
      by_cases q : x2.toInt < 0
      · rw [if_pos q]
      · rw [if_neg q, if_pos (by omega)]
  · rw [if_neg h1, if_neg h1, if_neg (show ¬ (1 : Int32) = 0 from by decide), if_pos (show (0 : Int32) = 0 from rfl)]
    exact ⟨-2, num, kn, tab, rfl, rfl, hT, Or.inr ⟨rfl, rfl⟩⟩
/-- what set() takes -/
def mostN (k : Nat) : Int := if k = 0 then 30 else if k = 1 then 50 else if k = 2 then 100 else if k = 3 then 100000 else if k = 4 then 1000000 else 30
def leastN (k : Nat) : Int := if k = 3 then 1 else 0
def setIn (x1 x2 : Int32) : Prop := (0 ≤ x1.toInt ∧ x1.toInt < 6) ∧ leastN x1.toNatClampNeg ≤ x2.toInt ∧ x2.toInt ≤ mostN x1.toNatClampNeg
theorem c_set12 (n : Nat) (set : Nat → Int32) (x1 x2 : Int32) : (setIn x1 x2 → f_X12_set n set x1 x2 = some (set x1.toNatClampNeg, upd set x1.toNatClampNeg x2)) ∧ (¬ setIn x1 x2 → f_X12_set n set x1 x2 = some (-2, set)) := by
  unfold f_X12_set f_X12_set_24 setIn
  rw [i_in]
  simp only [Option.bind_some, show (0 : Int64).toInt = 0 from by decide, show (5 : Int64).toInt = 5 from by decide]
  by_cases h : 0 ≤ x1.toInt ∧ x1.toInt < 6
  · rw [if_pos (show 0 ≤ x1.toInt ∧ x1.toInt ≤ 5 by omega), if_neg (show ¬ (1 : Int32) = 0 from by decide)]
    obtain ⟨k, hk, rfl⟩ := t_in (x := x1) (b := 6) (by omega) (by omega) (by omega)
    rw [p_cl (by omega), p_vin hk (by omega)]
    have hm : f_X12_mostOf n (nI k) = some (Int32.ofInt (mostN k)) ∧ ((Int32.ofInt (mostN k)).toInt = mostN k) := by
      have : k = 0 ∨ k = 1 ∨ k = 2 ∨ k = 3 ∨ k = 4 ∨ k = 5 := by omega
      rcases this with rfl | rfl | rfl | rfl | rfl | rfl <;> exact ⟨rfl, by decide⟩
    rw [hm.1]
    simp only [Option.bind_some, grd_t, nmd]
    rw [i_in, i_in, Int32.toInt_toInt64, hm.2, show (0 : Int64).toInt = 0 from by decide, show (1 : Int64).toInt = 1 from by decide]
    simp only [Option.bind_some]
    by_cases h3 : k = 3
    · subst h3
      rw [if_pos (show nI 3 = (3 : Int32) from rfl)]
      unfold leastN
      rw [if_pos rfl]
      refine ⟨fun g => ?_, fun g => ?_⟩
      · rw [if_pos g.2, if_neg (show ¬ (1 : Int32) = 0 from by decide)]
      · rw [if_neg (fun q => g ⟨h, q⟩), if_pos rfl]
    · rw [if_neg (show ¬ nI k = (3 : Int32) from fun q => h3 ((p_eq (a := k) (b := 3) (by omega) (by omega)).mp q))]
      unfold leastN
      rw [if_neg h3]
      refine ⟨fun g => ?_, fun g => ?_⟩
      · rw [if_pos g.2, if_neg (show ¬ (1 : Int32) = 0 from by decide)]
      · rw [if_neg (fun q => g ⟨h, q⟩), if_pos rfl]
  · rw [if_neg (show ¬ (0 ≤ x1.toInt ∧ x1.toInt ≤ 5) by omega), if_pos rfl]
    exact ⟨fun g => absurd g.1 h, fun _ => rfl⟩
theorem set_RTb {set num tab : Nat → Int32} {x1 x2 : Int32} (hT : RTb set num tab) (h : setIn x1 x2) : RTb (upd set x1.toNatClampNeg x2) num tab := by
  obtain ⟨h0, h1, h2⟩ := h
  obtain ⟨k, hk, rfl⟩ := t_in (x := x1) (b := 6) (by omega) (by omega) (by omega)
  rw [p_cl (by omega)] at h1 h2 ⊢
  obtain ⟨t1, t2, t3, t4, t5, t6⟩ := hT
  have hk' : k = 0 ∨ k = 1 ∨ k = 2 ∨ k = 3 ∨ k = 4 ∨ k = 5 := by omega
  have key : ∀ j, j ≠ k → (upd set k x2 j) = set j := fun j hj => if_neg hj
  have key2 : upd set k x2 k = x2 := if_pos rfl
  refine ⟨t1, t2, fun j hj => ?_, ?_, ?_, ?_⟩
  · by_cases q : j = k
    · rw [q, key2]
      rcases hk' with rfl | rfl | rfl | rfl | rfl | rfl <;> simp [leastN, mostN] at h1 h2 <;> omega
    · rw [key j q]
      exact t3 j hj
  · by_cases q : 3 = k
    · subst q
      rw [key2]
      simp [leastN, mostN] at h1 h2
      omega
    · rw [key 3 q]
      exact t4
  · by_cases q : 4 = k
    · subst q
      rw [key2]
      simp [leastN, mostN] at h1 h2
      omega
    · rw [key 4 q]
      exact t5
  · by_cases q : 5 = k
    · subst q
      rw [key2]
      simp [leastN, mostN] at h1 h2
      omega
    · rw [key 5 q]
      exact t6
theorem s_put17 (w : Nat → Int32) (v : Int32) : ∀ (r n k : Nat) (hg : Nat → Int32), k + r = 36 → r + 1 ≤ n → (∀ c, c < k → hg c = hw36 w c) → ∃ hg', f_X10_put_17 n w hg v (nI k) = some (v, w, hg') ∧ ∀ c, c < 36 → hg' c = hw36 w c := by
  intro r
  induction r with
  | zero =>
    intro n k hg hk hn hh
    obtain ⟨m, rfl⟩ : ∃ m, n = m + 1 := ⟨n - 1, by omega⟩
    obtain rfl : k = 36 := by omega
    refine ⟨hg, ?_, hh⟩
    show f_X10_put_17b _ m w hg v (nI 36) = _
    unfold f_X10_put_17b
    rw [if_pos (by decide)]
  | succ r ih =>
    intro n k hg hk hn hh
    obtain ⟨m, rfl⟩ : ∃ m, n = m + 1 := ⟨n - 1, by omega⟩
    show ∃ hg', f_X10_put_17b (f_X10_put_17 m) m w hg v (nI k) = _ ∧ _
    unfold f_X10_put_17b
    rw [k36, if_neg (by rw [p_le (by omega) (by omega)]; omega), s_hungw w m k (by omega)]
    simp only [Option.bind_some]
    rw [p_vin (show k < 36 by omega) (by omega), grd_t, p_cl (by omega), p_1]
    exact ih m (k + 1) _ (by omega) (by omega) (fun c hc => by
      unfold upd
      by_cases q : c = k
      · rw [if_pos q, q]
      · rw [if_neg q]
        exact hh c (by omega))
theorem c_wish (n : Nat) (w hg : Nat → Int32) (kn x1 x2 : Int32) (hn : 900000 ≤ n) (hH : RHu w hg) : ∃ r w' hg' kn', f_X11_wish n w hg kn x1 x2 = some (r, w', hg', kn') ∧ f_X12_wish n w x1 x2 = some (r, w') ∧ RHu w' hg' ∧ (kn' = 0 ∨ (kn' = kn ∧ w' = w)) := by
  unfold f_X11_wish f_X12_wish
  rw [i_noCorner, i_corner, i_noHeight, i_height]
  simp only [Option.bind_some]
  by_cases h1 : 0 ≤ x1.toInt ∧ x1.toInt ≤ 35
  · rw [if_pos h1, if_pos h1, if_pos y00, if_neg n10]
    by_cases h2 : -100000 ≤ x2.toInt ∧ x2.toInt ≤ 100000
    · rw [if_pos h2, if_pos h2, if_pos y00, if_neg n10]
      obtain ⟨k, hk, rfl⟩ := t_in (x := x1) (b := 36) (by omega) (by omega) (by omega)
      unfold f_X10_put
      rw [p_vin hk (by omega), p_cl (by omega)]
      simp only [grd_t, nmd]
      obtain ⟨hg', e1, e2⟩ := s_put17 (upd w k x2) (w k) 36 n 0 hg (by omega) (by omega) (fun c hc => by omega)
      rw [k0, e1]
      refine ⟨_, _, hg', 0, rfl, rfl, ⟨fun c hc => ?_, e2⟩, Or.inl rfl⟩
      exact upd_T w k c x2 (fun z => -100000 ≤ z ∧ z ≤ 100000) h2 (hH.1 c hc)
    · rw [if_neg h2, if_neg h2, if_neg n10, if_pos y00]
      exact ⟨_, w, hg, kn, rfl, rfl, hH, Or.inr ⟨rfl, rfl⟩⟩
  · rw [if_neg h1, if_neg h1, if_neg n10, if_pos y00]
    exact ⟨_, w, hg, kn, rfl, rfl, hH, Or.inr ⟨rfl, rfl⟩⟩
def fieldN (c : Nat) : Prop := c % 6 < 5 ∧ c / 6 < 5
theorem s_field (n c : Nat) (hc : c < 36) : f_X11_isField n (nI c) = (if c % 6 < 5 ∧ c / 6 < 5 then some 1 else some 0) ∧ f_X12_isField n (nI c) = (if c % 6 < 5 ∧ c / 6 < 5 then some 1 else some 0) := by
  unfold f_X11_isField f_X12_isField
  rw [i_corner, p_T (by omega), if_pos (show 0 ≤ (c : Int) ∧ (c : Int) ≤ 35 by omega)]
  simp only [Option.bind_some]
  rw [if_neg (show ¬ (1 : Int32) = 0 from by decide), k6, p_rem (by omega) (by omega) (by omega), p_div (by omega) (by omega) (by omega), k5]
  have key : (if nI 5 ≤ nI (c % 6) then some (0 : Int32) else if nI 5 ≤ nI (c / 6) then some 0 else some 1) = (if c % 6 < 5 ∧ c / 6 < 5 then some 1 else some 0) := by
    by_cases h1 : c % 6 < 5
    · rw [if_neg (by rw [p_le (by omega) (by omega)]; omega)]
      by_cases h2 : c / 6 < 5
      · rw [if_neg (by rw [p_le (by omega) (by omega)]; omega), if_pos ⟨h1, h2⟩]
      · rw [if_pos (by rw [p_le (by omega) (by omega)]; omega), if_neg (fun g => h2 g.2)]
    · rw [if_pos (by rw [p_le (by omega) (by omega)]; omega), if_neg (fun g => h1 g.1)]
  exact ⟨key, key⟩
def twi (w : Nat → Int32) (c : Nat) : Int32 := ((w c - w (c + 1)) - w (c + 6)) + w (c + 7)
theorem s_twi (n c : Nat) (w : Nat → Int32) (hc : c + 7 < 36) : f_X10_twistAt n w (nI c) = some (twi w c) ∧ f_X12_twistAt n w (nI c) = some (twi w c) := by
  unfold f_X10_twistAt f_X12_twistAt twi
  rw [k1, k6, k7, p_add, p_add, p_add, p_add, show c + 6 + 1 = c + 7 from rfl, p_vin (show c < 36 by omega) (by omega), p_vin (show c + 1 < 36 by omega) (by omega), p_vin (show c + 6 < 36 by omega) (by omega), p_vin (show c + 7 < 36 by omega) (by omega), p_cl (by omega), p_cl (by omega), p_cl (by omega), p_cl (by omega)]
  exact ⟨rfl, rfl⟩
theorem c_twist (n : Nat) (w : Nat → Int32) (x : Int32) : ∃ r, f_X11_twist n w x = some r ∧ f_X12_twist n w x = some r := by
  unfold f_X11_twist f_X12_twist
  rw [i_noCorner]
  by_cases h1 : 0 ≤ x.toInt ∧ x.toInt ≤ 35
  · obtain ⟨k, hk, rfl⟩ := t_in (x := x) (b := 36) (by omega) (by omega) (by omega)
    rw [(s_field n k hk).1, (s_field n k hk).2, if_pos h1]
    simp only [Option.bind_some]
    rw [if_pos trivial]
    by_cases h2 : k % 6 < 5 ∧ k / 6 < 5
    · rw [if_pos h2, (s_twi n k w (by omega)).1, (s_twi n k w (by omega)).2]
      exact ⟨twi w k, rfl, rfl⟩
    · rw [if_neg h2]
      exact ⟨_, rfl, rfl⟩
  · unfold f_X12_isField
    rw [i_corner, if_neg h1, if_neg h1]
    exact ⟨_, rfl, rfl⟩
def bndv (w : Nat → Int32) : Nat → Int32
  | 0 => 0
  | k + 1 => if k % 6 < 5 ∧ k / 6 < 5 then jmax (bndv w k) (jabs (twi w k)) else bndv w k
theorem bndv_nn (w : Nat → Int32) : ∀ k, (0 : Int32) ≤ bndv w k := by
  intro k
  induction k with
  | zero => exact Int32.le_refl _
  | succ k ih =>
    unfold bndv
    split
    · unfold jmax
      split
      · rename_i h
        exact Int32.le_trans ih (Int32.le_of_lt h)
      · exact ih
    · exact ih
theorem s_bnd9 (w : Nat → Int32) : ∀ (r n k : Nat), k + r = 36 → r + 1 ≤ n → f_X10_greatestTwist_4 w n (bndv w k) (nI k) = some (bndv w 36) := by
  intro r
  induction r with
  | zero =>
    intro n k hk hn
    obtain ⟨m, rfl⟩ : ∃ m, n = m + 1 := ⟨n - 1, by omega⟩
    obtain rfl : k = 36 := by omega
    show f_X10_greatestTwist_4b w _ m (bndv w 36) (nI 36) = _
    unfold f_X10_greatestTwist_4b
    rw [if_pos (by decide)]
  | succ r ih =>
    intro n k hk hn
    obtain ⟨m, rfl⟩ : ∃ m, n = m + 1 := ⟨n - 1, by omega⟩
    have go := ih m (k + 1) (by omega) (by omega)
    rw [show bndv w (k + 1) = (if k % 6 < 5 ∧ k / 6 < 5 then jmax (bndv w k) (jabs (twi w k)) else bndv w k) from rfl] at go
    show f_X10_greatestTwist_4b w (f_X10_greatestTwist_4 w m) m (bndv w k) (nI k) = _
    unfold f_X10_greatestTwist_4b
    rw [k36, if_neg (by rw [p_le (by omega) (by omega)]; omega), (s_field m k (by omega)).1, p_1]
    by_cases h : k % 6 < 5 ∧ k / 6 < 5
    · rw [if_pos h] at go ⊢
      simp only [Option.bind_some]
      rw [if_neg (show ¬ (1 : Int32) = 0 from by decide), (s_twi m k w (by omega)).1]
      exact go
    · rw [if_neg h] at go ⊢
      exact go
theorem s_bnd12 (w : Nat → Int32) : ∀ (r n k : Nat), k + r = 36 → r + 1 ≤ n → f_X12_bound_4 w n (bndv w k) (nI k) = some ((5 * bndv w 36 + 3) / 4) := by
  intro r
  induction r with
  | zero =>
    intro n k hk hn
    obtain ⟨m, rfl⟩ : ∃ m, n = m + 1 := ⟨n - 1, by omega⟩
    obtain rfl : k = 36 := by omega
    show f_X12_bound_4b w _ m (bndv w 36) (nI 36) = _
    unfold f_X12_bound_4b
    rw [if_pos (by decide)]
  | succ r ih =>
    intro n k hk hn
    obtain ⟨m, rfl⟩ : ∃ m, n = m + 1 := ⟨n - 1, by omega⟩
    have go := ih m (k + 1) (by omega) (by omega)
    rw [show bndv w (k + 1) = (if k % 6 < 5 ∧ k / 6 < 5 then jmax (bndv w k) (jabs (twi w k)) else bndv w k) from rfl] at go
    show f_X12_bound_4b w (f_X12_bound_4 w m) m (bndv w k) (nI k) = _
    unfold f_X12_bound_4b f_X12_bound_29
    rw [k36, if_neg (by rw [p_le (by omega) (by omega)]; omega), (s_field m k (by omega)).2, p_1]
    by_cases h : k % 6 < 5 ∧ k / 6 < 5
    · rw [if_pos h] at go ⊢
      simp only [Option.bind_some]
      rw [if_neg (show ¬ (1 : Int32) = 0 from by decide), (s_twi m k w (by omega)).2]
      simp only [Option.bind_some, s_size]
      rw [jabs_sz, jmax_if] at go
      split
      · rename_i q
        rw [if_pos q] at go
        exact go
      · rename_i q
        rw [if_neg q] at go
        exact go
    · rw [if_neg h] at go ⊢
      simp only [Option.bind_some]
      rw [if_pos trivial, if_pos (bndv_nn w k)]
      exact go
theorem c_bound (n : Nat) (w : Nat → Int32) (hn : 900000 ≤ n) : ∃ r, f_X11_bound n w = some r ∧ f_X12_bound n w = some r := by
  refine ⟨(5 * bndv w 36 + 3) / 4, ?_, s_bnd12 w 36 n 0 (by omega) (by omega)⟩
  unfold f_X11_bound f_X10_greatestTwist
  have e := s_bnd9 w 36 n 0 (by omega) (by omega)
  rw [show bndv w 0 = (0 : Int32) from rfl, show nI 0 = (0 : Int32) from rfl] at e
  rw [e]
  simp only [Option.bind_some]
  rw [Int32.mul_comm]
def RIt (I : Nat) (il is iw ib : Nat → Int32) : Prop := I ≤ 10 ∧ ∀ i, i < I → okQ (itm il is iw ib i)
theorem itm_upd (il is iw ib : Nat → Int32) (I : Nat) (a b c d : Int32) (hI : RIt I il is iw ib) (h10 : I < 10) (hq : okQ (a, b, c, d)) : RIt (I + 1) (upd il I a) (upd is I b) (upd iw I c) (upd ib I d) := by
  refine ⟨by omega, fun i hi => ?_⟩
  unfold itm upd
  by_cases q : i = I
  · rw [if_pos q, if_pos q, if_pos q, if_pos q]
    exact hq
  · rw [if_neg q, if_neg q, if_neg q, if_neg q]
    exact hI.2 i (by omega)
theorem c_item (n I : Nat) (il is iw ib : Nat → Int32) (x1 x2 x3 x4 : Int32) (hI : RIt I il is iw ib) : ∃ r il' is' iw' ib' I', f_X11_item n 10 il is iw ib (nI I) x1 x2 x3 x4 = some (r, il', is', iw', ib', nI I') ∧ f_X12_item n il is iw ib (nI I) x1 x2 x3 x4 = some (r, il', is', iw', ib', nI I') ∧ RIt I' il' is' iw' ib' := by
  unfold f_X11_item f_X12_item f_X11_item_49 f_X11_item_59 f_X12_item_73 f_X12_item_92 f_X3_add
  rw [i_noLine, i_line, i_noStrength, i_strength]
  simp only [Option.bind_some]
  by_cases h1 : 0 ≤ x1.toInt ∧ x1.toInt ≤ 7
  · rw [if_pos h1, if_pos h1, if_pos y00, if_neg n10]
    by_cases h2 : 1 ≤ x2.toInt ∧ x2.toInt ≤ 9
    · rw [if_pos h2, if_pos h2, if_pos y00, if_neg n10]
      obtain ⟨L, hL, rfl⟩ := t_in (x := x1) (b := 8) (by omega) (by omega) (by omega)
      obtain ⟨S, hS, rfl⟩ := t_in (x := x2) (b := 10) (by omega) (by omega) (by omega)
      rw [p_T (by omega)] at h2
      have hI10 := hI.1
      by_cases h3 : I = 10
      · subst h3
        rw [if_neg (show ¬ nI 10 < (10 : Int32) from by decide), if_pos (show nI 10 = (10 : Int32) from rfl)]
        refine ⟨-4, il, is, iw, ib, 10, ?_, rfl, hI⟩
        split <;> split <;> rfl
      · have hok : ∀ a b : Nat, a ≤ 1 → b ≤ 1 → RIt (I + 1) (upd il I (nI L)) (upd is I (nI S)) (upd iw I (nI a)) (upd ib I (nI b)) := fun a b ha hb => itm_upd il is iw ib I _ _ _ _ hI (by omega) ⟨⟨L, hL, rfl⟩, ⟨S, by omega, by omega, rfl⟩, ⟨a, ha, rfl⟩, ⟨b, hb, rfl⟩⟩
        have hlt : nI I < nI 10 := (p_lt (by omega) (by omega)).mpr (by omega)
        have hne : ¬ nI I = nI 10 := by rw [p_eq (by omega) (by omega)]; omega
        rw [k10, p_vin (show I < 10 by omega) (by omega), p_cl (by omega), p_1, show nI (I + 1) - 1 = nI I from by rw [k1, p_sub (by omega)]; rfl]
        simp only [grd_t, if_pos hlt, if_neg hne, Option.bind_some]
        by_cases a0 : x3 = 0
        · rw [if_pos a0, if_pos a0]
          by_cases b0 : x4 = 0
          · rw [if_pos b0, if_pos b0, if_neg (by decide)]
            exact ⟨_, _, _, _, _, I + 1, rfl, rfl, hok 0 0 (by omega) (by omega)⟩
          · rw [if_neg b0, if_neg b0, if_neg (by decide)]
            exact ⟨_, _, _, _, _, I + 1, rfl, rfl, hok 0 1 (by omega) (by omega)⟩
        · rw [if_neg a0, if_neg a0]
          by_cases b0 : x4 = 0
          · rw [if_pos b0, if_pos b0, if_neg (by decide)]
            exact ⟨_, _, _, _, _, I + 1, rfl, rfl, hok 1 0 (by omega) (by omega)⟩
          · rw [if_neg b0, if_neg b0, if_neg (by decide)]
            exact ⟨_, _, _, _, _, I + 1, rfl, rfl, hok 1 1 (by omega) (by omega)⟩
    · rw [if_neg h2, if_neg h2, if_neg n10, if_pos y00]
      exact ⟨_, il, is, iw, ib, I, rfl, rfl, hI⟩
  · rw [if_neg h1, if_neg h1, if_neg n10, if_pos y00]
    exact ⟨_, il, is, iw, ib, I, rfl, rfl, hI⟩
