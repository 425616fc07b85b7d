/-! PART by the class: out of how many PASSES were laid on each LINE. -/
def lpart (laid set : Nat → Int32) (L : Nat) : Int32 := match L with
  | 0 => ((100 - set 0 * (((laid 4 + laid 5) + laid 6) + laid 7)) - set 1 * ((0 : Int32) + laid 1)) - set 2 * laid 0
  | 1 => ((100 - set 0 * (((laid 4 + laid 5) + laid 6) + laid 7)) - set 1 * (((0 : Int32) + laid 0) + laid 2)) - set 2 * laid 1
  | 2 => ((100 - set 0 * (((laid 4 + laid 5) + laid 6) + laid 7)) - set 1 * (((0 : Int32) + laid 1) + laid 3)) - set 2 * laid 2
  | 3 => ((100 - set 0 * (((laid 4 + laid 5) + laid 6) + laid 7)) - set 1 * ((0 : Int32) + laid 2)) - set 2 * laid 3
  | 4 => ((100 - set 0 * (((laid 0 + laid 1) + laid 2) + laid 3)) - set 1 * ((0 : Int32) + laid 5)) - set 2 * laid 4
  | 5 => ((100 - set 0 * (((laid 0 + laid 1) + laid 2) + laid 3)) - set 1 * (((0 : Int32) + laid 4) + laid 6)) - set 2 * laid 5
  | 6 => ((100 - set 0 * (((laid 0 + laid 1) + laid 2) + laid 3)) - set 1 * (((0 : Int32) + laid 5) + laid 7)) - set 2 * laid 6
  | _ => ((100 - set 0 * (((laid 0 + laid 1) + laid 2) + laid 3)) - set 1 * ((0 : Int32) + laid 6)) - set 2 * laid 7
theorem max0_j (v : Int32) : jmax v 0 = max0 v := by
  unfold jmax max0
  by_cases h : v < 0
  · rw [if_pos h, if_neg (Int32.not_le.mpr h)]
  · rw [if_neg h, if_pos (Int32.not_lt.mp h)]
theorem s_partOn_0 (laid set : Nat → Int32) (n : Nat) : f_X6_partOn n laid set (nI 0) = some (max0 (lpart laid set 0)) := by
  unfold f_X6_partOn
  rw [if_neg (by decide)]
  unfold f_X6_partOn_10 f_X6_partOn_76 f_X6_partOn_98
  have e : (4 : Int32) - (0 : Int32) = nI 4 := by decide
  have e1 : nI 4 + 1 = nI 5 := by decide
  have e2 : nI 4 + 2 = nI 6 := by decide
  have e3 : nI 4 + 3 = nI 7 := by decide
  have e7 : nI 0 + 1 = nI 1 := by decide
  have v0 : vin (nI 4) 8 = true := by decide
  have v1 : vin (nI 5) 8 = true := by decide
  have v2 : vin (nI 6) 8 = true := by decide
  have v3 : vin (nI 7) 8 = true := by decide
  have v4 : vin (nI 0) 8 = true := by decide
  have c0 : (nI 4).toNatClampNeg = 4 := by decide
  have c1 : (nI 5).toNatClampNeg = 5 := by decide
  have c2 : (nI 6).toNatClampNeg = 6 := by decide
  have c3 : (nI 7).toNatClampNeg = 7 := by decide
  have c4 : (nI 0).toNatClampNeg = 0 := by decide
  have d0 : (0 : Int32).toNatClampNeg = 0 := by decide
  have d1 : (1 : Int32).toNatClampNeg = 1 := by decide
  have d2 : (2 : Int32).toNatClampNeg = 2 := by decide
  have v7 : vin (nI 1) 8 = true := by decide
  have c7 : (nI 1).toNatClampNeg = 1 := by decide
  simp only [nmd, e, e1, e2, e3, e7, v0, v1, v2, v3, v4, c0, c1, c2, c3, c4, d0, d1, d2, grd_t, max0_j, v7, c7]
  rw [if_pos (by decide), if_neg (by decide)]
  rfl
theorem s_partOn_1 (laid set : Nat → Int32) (n : Nat) : f_X6_partOn n laid set (nI 1) = some (max0 (lpart laid set 1)) := by
  unfold f_X6_partOn
  rw [if_neg (by decide)]
  unfold f_X6_partOn_10 f_X6_partOn_76 f_X6_partOn_98
  have e : (4 : Int32) - (0 : Int32) = nI 4 := by decide
  have e1 : nI 4 + 1 = nI 5 := by decide
  have e2 : nI 4 + 2 = nI 6 := by decide
  have e3 : nI 4 + 3 = nI 7 := by decide
  have e7 : nI 1 + 1 = nI 2 := by decide
  have v0 : vin (nI 4) 8 = true := by decide
  have v1 : vin (nI 5) 8 = true := by decide
  have v2 : vin (nI 6) 8 = true := by decide
  have v3 : vin (nI 7) 8 = true := by decide
  have v4 : vin (nI 1) 8 = true := by decide
  have c0 : (nI 4).toNatClampNeg = 4 := by decide
  have c1 : (nI 5).toNatClampNeg = 5 := by decide
  have c2 : (nI 6).toNatClampNeg = 6 := by decide
  have c3 : (nI 7).toNatClampNeg = 7 := by decide
  have c4 : (nI 1).toNatClampNeg = 1 := by decide
  have d0 : (0 : Int32).toNatClampNeg = 0 := by decide
  have d1 : (1 : Int32).toNatClampNeg = 1 := by decide
  have d2 : (2 : Int32).toNatClampNeg = 2 := by decide
  have e6 : nI 1 - 1 = nI 0 := by decide
  have v6 : vin (nI 0) 8 = true := by decide
  have c6 : (nI 0).toNatClampNeg = 0 := by decide
  have v7 : vin (nI 2) 8 = true := by decide
  have c7 : (nI 2).toNatClampNeg = 2 := by decide
  simp only [nmd, e, e1, e2, e3, e7, v0, v1, v2, v3, v4, c0, c1, c2, c3, c4, d0, d1, d2, grd_t, max0_j, e6, v6, c6, v7, c7]
  rw [if_neg (by decide), if_neg (by decide)]
  rfl
theorem s_partOn_2 (laid set : Nat → Int32) (n : Nat) : f_X6_partOn n laid set (nI 2) = some (max0 (lpart laid set 2)) := by
  unfold f_X6_partOn
  rw [if_neg (by decide)]
  unfold f_X6_partOn_10 f_X6_partOn_76 f_X6_partOn_98
  have e : (4 : Int32) - (0 : Int32) = nI 4 := by decide
  have e1 : nI 4 + 1 = nI 5 := by decide
  have e2 : nI 4 + 2 = nI 6 := by decide
  have e3 : nI 4 + 3 = nI 7 := by decide
  have e7 : nI 2 + 1 = nI 3 := by decide
  have v0 : vin (nI 4) 8 = true := by decide
  have v1 : vin (nI 5) 8 = true := by decide
  have v2 : vin (nI 6) 8 = true := by decide
  have v3 : vin (nI 7) 8 = true := by decide
  have v4 : vin (nI 2) 8 = true := by decide
  have c0 : (nI 4).toNatClampNeg = 4 := by decide
  have c1 : (nI 5).toNatClampNeg = 5 := by decide
  have c2 : (nI 6).toNatClampNeg = 6 := by decide
  have c3 : (nI 7).toNatClampNeg = 7 := by decide
  have c4 : (nI 2).toNatClampNeg = 2 := by decide
  have d0 : (0 : Int32).toNatClampNeg = 0 := by decide
  have d1 : (1 : Int32).toNatClampNeg = 1 := by decide
  have d2 : (2 : Int32).toNatClampNeg = 2 := by decide
  have e6 : nI 2 - 1 = nI 1 := by decide
  have v6 : vin (nI 1) 8 = true := by decide
  have c6 : (nI 1).toNatClampNeg = 1 := by decide
  have v7 : vin (nI 3) 8 = true := by decide
  have c7 : (nI 3).toNatClampNeg = 3 := by decide
  simp only [nmd, e, e1, e2, e3, e7, v0, v1, v2, v3, v4, c0, c1, c2, c3, c4, d0, d1, d2, grd_t, max0_j, e6, v6, c6, v7, c7]
  rw [if_neg (by decide), if_neg (by decide)]
  rfl
theorem s_partOn_3 (laid set : Nat → Int32) (n : Nat) : f_X6_partOn n laid set (nI 3) = some (max0 (lpart laid set 3)) := by
  unfold f_X6_partOn
  rw [if_neg (by decide)]
  unfold f_X6_partOn_10 f_X6_partOn_76 f_X6_partOn_98
  have e : (4 : Int32) - (0 : Int32) = nI 4 := by decide
  have e1 : nI 4 + 1 = nI 5 := by decide
  have e2 : nI 4 + 2 = nI 6 := by decide
  have e3 : nI 4 + 3 = nI 7 := by decide
  have e7 : nI 3 + 1 = nI 4 := by decide
  have v0 : vin (nI 4) 8 = true := by decide
  have v1 : vin (nI 5) 8 = true := by decide
  have v2 : vin (nI 6) 8 = true := by decide
  have v3 : vin (nI 7) 8 = true := by decide
  have v4 : vin (nI 3) 8 = true := by decide
  have c0 : (nI 4).toNatClampNeg = 4 := by decide
  have c1 : (nI 5).toNatClampNeg = 5 := by decide
  have c2 : (nI 6).toNatClampNeg = 6 := by decide
  have c3 : (nI 7).toNatClampNeg = 7 := by decide
  have c4 : (nI 3).toNatClampNeg = 3 := by decide
  have d0 : (0 : Int32).toNatClampNeg = 0 := by decide
  have d1 : (1 : Int32).toNatClampNeg = 1 := by decide
  have d2 : (2 : Int32).toNatClampNeg = 2 := by decide
  have e6 : nI 3 - 1 = nI 2 := by decide
  have v6 : vin (nI 2) 8 = true := by decide
  have c6 : (nI 2).toNatClampNeg = 2 := by decide
  simp only [nmd, e, e1, e2, e3, e7, v0, v1, v2, v3, v4, c0, c1, c2, c3, c4, d0, d1, d2, grd_t, max0_j, e6, v6, c6]
  rw [if_neg (by decide), if_pos (by decide)]
  rfl
theorem s_partOn_4 (laid set : Nat → Int32) (n : Nat) : f_X6_partOn n laid set (nI 4) = some (max0 (lpart laid set 4)) := by
  unfold f_X6_partOn
  rw [if_pos (by decide)]
  unfold f_X6_partOn_10 f_X6_partOn_76 f_X6_partOn_98
  have e : (4 : Int32) - (4 : Int32) = nI 0 := by decide
  have e1 : nI 0 + 1 = nI 1 := by decide
  have e2 : nI 0 + 2 = nI 2 := by decide
  have e3 : nI 0 + 3 = nI 3 := by decide
  have e7 : nI 4 + 1 = nI 5 := by decide
  have v0 : vin (nI 0) 8 = true := by decide
  have v1 : vin (nI 1) 8 = true := by decide
  have v2 : vin (nI 2) 8 = true := by decide
  have v3 : vin (nI 3) 8 = true := by decide
  have v4 : vin (nI 4) 8 = true := by decide
  have c0 : (nI 0).toNatClampNeg = 0 := by decide
  have c1 : (nI 1).toNatClampNeg = 1 := by decide
  have c2 : (nI 2).toNatClampNeg = 2 := by decide
  have c3 : (nI 3).toNatClampNeg = 3 := by decide
  have c4 : (nI 4).toNatClampNeg = 4 := by decide
  have d0 : (0 : Int32).toNatClampNeg = 0 := by decide
  have d1 : (1 : Int32).toNatClampNeg = 1 := by decide
  have d2 : (2 : Int32).toNatClampNeg = 2 := by decide
  have v7 : vin (nI 5) 8 = true := by decide
  have c7 : (nI 5).toNatClampNeg = 5 := by decide
  simp only [nmd, e, e1, e2, e3, e7, v0, v1, v2, v3, v4, c0, c1, c2, c3, c4, d0, d1, d2, grd_t, max0_j, v7, c7]
  rw [if_pos (by decide), if_neg (by decide)]
  rfl
theorem s_partOn_5 (laid set : Nat → Int32) (n : Nat) : f_X6_partOn n laid set (nI 5) = some (max0 (lpart laid set 5)) := by
  unfold f_X6_partOn
  rw [if_pos (by decide)]
  unfold f_X6_partOn_10 f_X6_partOn_76 f_X6_partOn_98
  have e : (4 : Int32) - (4 : Int32) = nI 0 := by decide
  have e1 : nI 0 + 1 = nI 1 := by decide
  have e2 : nI 0 + 2 = nI 2 := by decide
  have e3 : nI 0 + 3 = nI 3 := by decide
  have e7 : nI 5 + 1 = nI 6 := by decide
  have v0 : vin (nI 0) 8 = true := by decide
  have v1 : vin (nI 1) 8 = true := by decide
  have v2 : vin (nI 2) 8 = true := by decide
  have v3 : vin (nI 3) 8 = true := by decide
  have v4 : vin (nI 5) 8 = true := by decide
  have c0 : (nI 0).toNatClampNeg = 0 := by decide
  have c1 : (nI 1).toNatClampNeg = 1 := by decide
  have c2 : (nI 2).toNatClampNeg = 2 := by decide
  have c3 : (nI 3).toNatClampNeg = 3 := by decide
  have c4 : (nI 5).toNatClampNeg = 5 := by decide
  have d0 : (0 : Int32).toNatClampNeg = 0 := by decide
  have d1 : (1 : Int32).toNatClampNeg = 1 := by decide
  have d2 : (2 : Int32).toNatClampNeg = 2 := by decide
  have e6 : nI 5 - 1 = nI 4 := by decide
  have v6 : vin (nI 4) 8 = true := by decide
  have c6 : (nI 4).toNatClampNeg = 4 := by decide
  have v7 : vin (nI 6) 8 = true := by decide
  have c7 : (nI 6).toNatClampNeg = 6 := by decide
  simp only [nmd, e, e1, e2, e3, e7, v0, v1, v2, v3, v4, c0, c1, c2, c3, c4, d0, d1, d2, grd_t, max0_j, e6, v6, c6, v7, c7]
  rw [if_neg (by decide), if_neg (by decide)]
  rfl
theorem s_partOn_6 (laid set : Nat → Int32) (n : Nat) : f_X6_partOn n laid set (nI 6) = some (max0 (lpart laid set 6)) := by
  unfold f_X6_partOn
  rw [if_pos (by decide)]
  unfold f_X6_partOn_10 f_X6_partOn_76 f_X6_partOn_98
  have e : (4 : Int32) - (4 : Int32) = nI 0 := by decide
  have e1 : nI 0 + 1 = nI 1 := by decide
  have e2 : nI 0 + 2 = nI 2 := by decide
  have e3 : nI 0 + 3 = nI 3 := by decide
  have e7 : nI 6 + 1 = nI 7 := by decide
  have v0 : vin (nI 0) 8 = true := by decide
  have v1 : vin (nI 1) 8 = true := by decide
  have v2 : vin (nI 2) 8 = true := by decide
  have v3 : vin (nI 3) 8 = true := by decide
  have v4 : vin (nI 6) 8 = true := by decide
  have c0 : (nI 0).toNatClampNeg = 0 := by decide
  have c1 : (nI 1).toNatClampNeg = 1 := by decide
  have c2 : (nI 2).toNatClampNeg = 2 := by decide
  have c3 : (nI 3).toNatClampNeg = 3 := by decide
  have c4 : (nI 6).toNatClampNeg = 6 := by decide
  have d0 : (0 : Int32).toNatClampNeg = 0 := by decide
  have d1 : (1 : Int32).toNatClampNeg = 1 := by decide
  have d2 : (2 : Int32).toNatClampNeg = 2 := by decide
  have e6 : nI 6 - 1 = nI 5 := by decide
  have v6 : vin (nI 5) 8 = true := by decide
  have c6 : (nI 5).toNatClampNeg = 5 := by decide
  have v7 : vin (nI 7) 8 = true := by decide
  have c7 : (nI 7).toNatClampNeg = 7 := by decide
  simp only [nmd, e, e1, e2, e3, e7, v0, v1, v2, v3, v4, c0, c1, c2, c3, c4, d0, d1, d2, grd_t, max0_j, e6, v6, c6, v7, c7]
  rw [if_neg (by decide), if_neg (by decide)]
  rfl
theorem s_partOn_7 (laid set : Nat → Int32) (n : Nat) : f_X6_partOn n laid set (nI 7) = some (max0 (lpart laid set 7)) := by
  unfold f_X6_partOn
  rw [if_pos (by decide)]
  unfold f_X6_partOn_10 f_X6_partOn_76 f_X6_partOn_98
  have e : (4 : Int32) - (4 : Int32) = nI 0 := by decide
  have e1 : nI 0 + 1 = nI 1 := by decide
  have e2 : nI 0 + 2 = nI 2 := by decide
  have e3 : nI 0 + 3 = nI 3 := by decide
  have e7 : nI 7 + 1 = nI 8 := by decide
  have v0 : vin (nI 0) 8 = true := by decide
  have v1 : vin (nI 1) 8 = true := by decide
  have v2 : vin (nI 2) 8 = true := by decide
  have v3 : vin (nI 3) 8 = true := by decide
  have v4 : vin (nI 7) 8 = true := by decide
  have c0 : (nI 0).toNatClampNeg = 0 := by decide
  have c1 : (nI 1).toNatClampNeg = 1 := by decide
  have c2 : (nI 2).toNatClampNeg = 2 := by decide
  have c3 : (nI 3).toNatClampNeg = 3 := by decide
  have c4 : (nI 7).toNatClampNeg = 7 := by decide
  have d0 : (0 : Int32).toNatClampNeg = 0 := by decide
  have d1 : (1 : Int32).toNatClampNeg = 1 := by decide
  have d2 : (2 : Int32).toNatClampNeg = 2 := by decide
  have e6 : nI 7 - 1 = nI 6 := by decide
  have v6 : vin (nI 6) 8 = true := by decide
  have c6 : (nI 6).toNatClampNeg = 6 := by decide
  simp only [nmd, e, e1, e2, e3, e7, v0, v1, v2, v3, v4, c0, c1, c2, c3, c4, d0, d1, d2, grd_t, max0_j, e6, v6, c6]
  rw [if_neg (by decide), if_pos (by decide)]
  rfl
theorem s_partOn (laid set : Nat → Int32) (n L : Nat) (hL : L < 8) : f_X6_partOn n laid set (nI L) = some (max0 (lpart laid set L)) := by
  match L with
  | 0 => exact s_partOn_0 laid set n
  | 1 => exact s_partOn_1 laid set n
  | 2 => exact s_partOn_2 laid set n
  | 3 => exact s_partOn_3 laid set n
  | 4 => exact s_partOn_4 laid set n
  | 5 => exact s_partOn_5 laid set n
  | 6 => exact s_partOn_6 laid set n
  | 7 => exact s_partOn_7 laid set n
  | L + 8 => omega
def mdecN (set : Nat → Int32) (k l : Nat) : Int32 := if k / 4 = l / 4 then (if k = l + 1 ∨ l = k + 1 then set 1 else if k = l then set 2 else 0) else set 0
theorem mdec_c1 : ∀ k, k < 8 → ∀ l, l < 8 → ((nI k / 4 = nI l / 4) ↔ k / 4 = l / 4) := by decide +kernel
theorem mdec_c2 : ∀ k, k < 8 → ∀ l, l < 8 → ((sz (nI k - nI l) = 1) ↔ (k = l + 1 ∨ l = k + 1)) := by decide +kernel
theorem mdec_c3 : ∀ k, k < 8 → ∀ l, l < 8 → ((sz (nI k - nI l) = 0) ↔ k = l) := by decide +kernel
theorem mdec_N (set : Nat → Int32) (k l : Nat) (hk : k < 8) (hl : l < 8) : mdec set (nI k) (nI l) = mdecN set k l := by
  unfold mdec mdecN
  simp only [mdec_c1 k hk l hl, mdec_c2 k hk l hl, mdec_c3 k hk l hl]
theorem lp_step_0 (laid set : Nat → Int32) (k : Nat) (hk : k < 8) : lpart (upd laid k (laid k + 1)) set 0 = lpart laid set 0 - mdecN set k 0 := by
  match k with
  | 0 => simp [lpart, upd, mdecN]; try grind
  | 1 => simp [lpart, upd, mdecN]; try grind
  | 2 => simp [lpart, upd, mdecN]; try grind
  | 3 => simp [lpart, upd, mdecN]; try grind
  | 4 => simp [lpart, upd, mdecN]; try grind
  | 5 => simp [lpart, upd, mdecN]; try grind
  | 6 => simp [lpart, upd, mdecN]; try grind
  | 7 => simp [lpart, upd, mdecN]; try grind
  | k + 8 => omega
theorem lp_step_1 (laid set : Nat → Int32) (k : Nat) (hk : k < 8) : lpart (upd laid k (laid k + 1)) set 1 = lpart laid set 1 - mdecN set k 1 := by
  match k with
  | 0 => simp [lpart, upd, mdecN]; try grind
  | 1 => simp [lpart, upd, mdecN]; try grind
  | 2 => simp [lpart, upd, mdecN]; try grind
  | 3 => simp [lpart, upd, mdecN]; try grind
  | 4 => simp [lpart, upd, mdecN]; try grind
  | 5 => simp [lpart, upd, mdecN]; try grind
  | 6 => simp [lpart, upd, mdecN]; try grind
  | 7 => simp [lpart, upd, mdecN]; try grind
  | k + 8 => omega
theorem lp_step_2 (laid set : Nat → Int32) (k : Nat) (hk : k < 8) : lpart (upd laid k (laid k + 1)) set 2 = lpart laid set 2 - mdecN set k 2 := by
  match k with
  | 0 => simp [lpart, upd, mdecN]; try grind
  | 1 => simp [lpart, upd, mdecN]; try grind
  | 2 => simp [lpart, upd, mdecN]; try grind
  | 3 => simp [lpart, upd, mdecN]; try grind
  | 4 => simp [lpart, upd, mdecN]; try grind
  | 5 => simp [lpart, upd, mdecN]; try grind
  | 6 => simp [lpart, upd, mdecN]; try grind
  | 7 => simp [lpart, upd, mdecN]; try grind
  | k + 8 => omega
theorem lp_step_3 (laid set : Nat → Int32) (k : Nat) (hk : k < 8) : lpart (upd laid k (laid k + 1)) set 3 = lpart laid set 3 - mdecN set k 3 := by
  match k with
  | 0 => simp [lpart, upd, mdecN]; try grind
  | 1 => simp [lpart, upd, mdecN]; try grind
  | 2 => simp [lpart, upd, mdecN]; try grind
  | 3 => simp [lpart, upd, mdecN]; try grind
  | 4 => simp [lpart, upd, mdecN]; try grind
  | 5 => simp [lpart, upd, mdecN]; try grind
  | 6 => simp [lpart, upd, mdecN]; try grind
  | 7 => simp [lpart, upd, mdecN]; try grind
  | k + 8 => omega
theorem lp_step_4 (laid set : Nat → Int32) (k : Nat) (hk : k < 8) : lpart (upd laid k (laid k + 1)) set 4 = lpart laid set 4 - mdecN set k 4 := by
  match k with
  | 0 => simp [lpart, upd, mdecN]; try grind
  | 1 => simp [lpart, upd, mdecN]; try grind
  | 2 => simp [lpart, upd, mdecN]; try grind
  | 3 => simp [lpart, upd, mdecN]; try grind
  | 4 => simp [lpart, upd, mdecN]; try grind
  | 5 => simp [lpart, upd, mdecN]; try grind
  | 6 => simp [lpart, upd, mdecN]; try grind
  | 7 => simp [lpart, upd, mdecN]; try grind
  | k + 8 => omega
theorem lp_step_5 (laid set : Nat → Int32) (k : Nat) (hk : k < 8) : lpart (upd laid k (laid k + 1)) set 5 = lpart laid set 5 - mdecN set k 5 := by
  match k with
  | 0 => simp [lpart, upd, mdecN]; try grind
  | 1 => simp [lpart, upd, mdecN]; try grind
  | 2 => simp [lpart, upd, mdecN]; try grind
  | 3 => simp [lpart, upd, mdecN]; try grind
  | 4 => simp [lpart, upd, mdecN]; try grind
  | 5 => simp [lpart, upd, mdecN]; try grind
  | 6 => simp [lpart, upd, mdecN]; try grind
  | 7 => simp [lpart, upd, mdecN]; try grind
  | k + 8 => omega
theorem lp_step_6 (laid set : Nat → Int32) (k : Nat) (hk : k < 8) : lpart (upd laid k (laid k + 1)) set 6 = lpart laid set 6 - mdecN set k 6 := by
  match k with
  | 0 => simp [lpart, upd, mdecN]; try grind
  | 1 => simp [lpart, upd, mdecN]; try grind
  | 2 => simp [lpart, upd, mdecN]; try grind
  | 3 => simp [lpart, upd, mdecN]; try grind
  | 4 => simp [lpart, upd, mdecN]; try grind
  | 5 => simp [lpart, upd, mdecN]; try grind
  | 6 => simp [lpart, upd, mdecN]; try grind
  | 7 => simp [lpart, upd, mdecN]; try grind
  | k + 8 => omega
theorem lp_step_7 (laid set : Nat → Int32) (k : Nat) (hk : k < 8) : lpart (upd laid k (laid k + 1)) set 7 = lpart laid set 7 - mdecN set k 7 := by
  match k with
  | 0 => simp [lpart, upd, mdecN]; try grind
  | 1 => simp [lpart, upd, mdecN]; try grind
  | 2 => simp [lpart, upd, mdecN]; try grind
  | 3 => simp [lpart, upd, mdecN]; try grind
  | 4 => simp [lpart, upd, mdecN]; try grind
  | 5 => simp [lpart, upd, mdecN]; try grind
  | 6 => simp [lpart, upd, mdecN]; try grind
  | 7 => simp [lpart, upd, mdecN]; try grind
  | k + 8 => omega
theorem lp_step (laid set : Nat → Int32) (k L : Nat) (hk : k < 8) (hL : L < 8) : lpart (upd laid k (laid k + 1)) set L = lpart laid set L - mdecN set k L := by
  match L with
  | 0 => exact lp_step_0 laid set k hk
  | 1 => exact lp_step_1 laid set k hk
  | 2 => exact lp_step_2 laid set k hk
  | 3 => exact lp_step_3 laid set k hk
  | 4 => exact lp_step_4 laid set k hk
  | 5 => exact lp_step_5 laid set k hk
  | 6 => exact lp_step_6 laid set k hk
  | 7 => exact lp_step_7 laid set k hk
  | L + 8 => omega
