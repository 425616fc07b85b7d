/-! The class: hung profiles, and WORST against a limit. -/
def hpv (b : Nat → Int32) (f : Nat) (j : Nat) : Int32 := match j with
  | 0 => 0
  | 1 => 0
  | 2 => 0 + (0 + b (f + 1 - 1))
  | 3 => 0 + (0 + b (f + 1 - 1)) + (0 + b (f + 1 - 1) + b (f + 2 - 1))
  | 4 => 0 + (0 + b (f + 1 - 1)) + (0 + b (f + 1 - 1) + b (f + 2 - 1)) + (0 + b (f + 1 - 1) + b (f + 2 - 1) + b (f + 3 - 1))
  | _ => 0 + (0 + b (f + 1 - 1)) + (0 + b (f + 1 - 1) + b (f + 2 - 1)) + (0 + b (f + 1 - 1) + b (f + 2 - 1) + b (f + 3 - 1)) + (0 + b (f + 1 - 1) + b (f + 2 - 1) + b (f + 3 - 1) + b (f + 4 - 1))
def hu (b : Nat → Int32) (f : Nat) (j : Nat) : Int32 := hpv b f j * 5 - nI j * hpv b f 5
def hpa (b : Nat → Int32) (f : Nat) (A : Nat → Int32) : Nat → Int32 := fun j => match j with
  | 0 => hu b f 0
  | 1 => hu b f 1
  | 2 => hu b f 2
  | 3 => hu b f 3
  | 4 => hu b f 4
  | 5 => hu b f 5
  | j + 6 => A (j + 6)
theorem hpa_at (b A : Nat → Int32) (f x : Nat) (hx : x < 6) : hpa b f A x = hu b f x := by
  match x with
  | 0 => rfl
  | 1 => rfl
  | 2 => rfl
  | 3 => rfl
  | 4 => rfl
  | 5 => rfl
  | x + 6 => omega
theorem s_hp1_across (b A : Nat → Int32) (n f k : Nat) (s : Int32) (hk : 1 ≤ k) (hk5 : k < 5) (hf : f ≤ 4) : f_X6_hangProfile_across_13 b (n + 1) A (nI f) s (nI k) = f_X6_hangProfile_across_13 b n (upd A (k + 1) (A k + (s + b (f + k - 1)))) (nI f) (s + b (f + k - 1)) (nI (k + 1)) := by
  show f_X6_hangProfile_across_13b b (f_X6_hangProfile_across_13 b n) n A (nI f) s (nI k) = _
  unfold f_X6_hangProfile_across_13b
  have e : nI f + nI k - 1 = nI (f + k - 1) := by rw [p_add, k1, p_sub (by omega)]
  rw [k5, if_neg (by rw [p_le (by omega) (by omega)]; omega), e, p_vin (by omega) (by omega), p_cl (by omega), p_vin (by omega) (by omega), p_cl (by omega), p_1, p_vin (by omega) (by omega), p_cl (by omega)]
  rfl
theorem s_hp2_across (b A : Nat → Int32) (n k : Nat) (e : Int32) (hk : k < 6) : f_X6_hangProfile_across_59 b (n + 1) A e (nI k) = f_X6_hangProfile_across_59 b n (upd A k (A k * 5 - nI k * e)) e (nI (k + 1)) := by
  show f_X6_hangProfile_across_59b b (f_X6_hangProfile_across_59 b n) n A e (nI k) = _
  unfold f_X6_hangProfile_across_59b
  rw [k6, if_neg (by rw [p_le (by omega) (by omega)]; omega), p_vin (by omega) (by omega), p_cl (by omega), p_1]
  rfl
theorem s_hp_across (b A : Nat → Int32) (n f : Nat) (hf : f ≤ 4) (hn : 20 ≤ n) : f_X6_hangProfile_across n b A (nI f) = some (hpa b f A) := by
  obtain ⟨m, rfl⟩ : ∃ m, n = m + 12 := ⟨n - 12, by omega⟩
  unfold f_X6_hangProfile_across
  have e1 : (1 : Int32).toNatClampNeg = 1 := rfl
  have e0 : (0 : Int32).toNatClampNeg = 0 := rfl
  rw [e0, e1]
  show f_X6_hangProfile_across_13 b (m + 11 + 1) _ (nI f) 0 (nI 1) = _
  rw [s_hp1_across b _ _ f 1 _ (by omega) (by omega) hf]
  show f_X6_hangProfile_across_13 b (m + 10 + 1) _ (nI f) _ (nI 2) = _
  rw [s_hp1_across b _ _ f 2 _ (by omega) (by omega) hf]
  show f_X6_hangProfile_across_13 b (m + 9 + 1) _ (nI f) _ (nI 3) = _
  rw [s_hp1_across b _ _ f 3 _ (by omega) (by omega) hf]
  show f_X6_hangProfile_across_13 b (m + 8 + 1) _ (nI f) _ (nI 4) = _
  rw [s_hp1_across b _ _ f 4 _ (by omega) (by omega) hf]
  show f_X6_hangProfile_across_13b b _ (m + 7) _ _ _ (nI 5) = _
  unfold f_X6_hangProfile_across_13b
  rw [if_pos (by decide)]
  have e5 : (5 : Int32).toNatClampNeg = 5 := rfl
  rw [e5]
  unfold nmd
  show f_X6_hangProfile_across_59 b (m + 6 + 1) _ _ (nI 0) = _
  rw [s_hp2_across b _ _ 0 _ (by omega)]
  show f_X6_hangProfile_across_59 b (m + 5 + 1) _ _ (nI 1) = _
  rw [s_hp2_across b _ _ 1 _ (by omega)]
  show f_X6_hangProfile_across_59 b (m + 4 + 1) _ _ (nI 2) = _
  rw [s_hp2_across b _ _ 2 _ (by omega)]
  show f_X6_hangProfile_across_59 b (m + 3 + 1) _ _ (nI 3) = _
  rw [s_hp2_across b _ _ 3 _ (by omega)]
  show f_X6_hangProfile_across_59 b (m + 2 + 1) _ _ (nI 4) = _
  rw [s_hp2_across b _ _ 4 _ (by omega)]
  show f_X6_hangProfile_across_59 b (m + 1 + 1) _ _ (nI 5) = _
  rw [s_hp2_across b _ _ 5 _ (by omega)]
  show f_X6_hangProfile_across_59b b _ m _ _ (nI 6) = _
  unfold f_X6_hangProfile_across_59b
  rw [if_pos (by decide)]
  congr 1
  funext j
  unfold hpa
  match j with
  | 0 => rfl
  | 1 => rfl
  | 2 => rfl
  | 3 => rfl
  | 4 => rfl
  | 5 => rfl
  | j + 6 => simp [upd]
theorem s_hp1_along (b A : Nat → Int32) (n f k : Nat) (s : Int32) (hk : 1 ≤ k) (hk5 : k < 5) (hf : f ≤ 4) : f_X6_hangProfile_along_13 b (n + 1) A (nI f) s (nI k) = f_X6_hangProfile_along_13 b n (upd A (k + 1) (A k + (s + b (f + k - 1)))) (nI f) (s + b (f + k - 1)) (nI (k + 1)) := by
  show f_X6_hangProfile_along_13b b (f_X6_hangProfile_along_13 b n) n A (nI f) s (nI k) = _
  unfold f_X6_hangProfile_along_13b
  have e : nI f + nI k - 1 = nI (f + k - 1) := by rw [p_add, k1, p_sub (by omega)]
  rw [k5, if_neg (by rw [p_le (by omega) (by omega)]; omega), e, p_vin (by omega) (by omega), p_cl (by omega), p_vin (by omega) (by omega), p_cl (by omega), p_1, p_vin (by omega) (by omega), p_cl (by omega)]
  rfl
theorem s_hp2_along (b A : Nat → Int32) (n k : Nat) (e : Int32) (hk : k < 6) : f_X6_hangProfile_along_59 b (n + 1) A e (nI k) = f_X6_hangProfile_along_59 b n (upd A k (A k * 5 - nI k * e)) e (nI (k + 1)) := by
  show f_X6_hangProfile_along_59b b (f_X6_hangProfile_along_59 b n) n A e (nI k) = _
  unfold f_X6_hangProfile_along_59b
  rw [k6, if_neg (by rw [p_le (by omega) (by omega)]; omega), p_vin (by omega) (by omega), p_cl (by omega), p_1]
  rfl
theorem s_hp_along (b A : Nat → Int32) (n f : Nat) (hf : f ≤ 4) (hn : 20 ≤ n) : f_X6_hangProfile_along n b A (nI f) = some (hpa b f A) := by
  obtain ⟨m, rfl⟩ : ∃ m, n = m + 12 := ⟨n - 12, by omega⟩
  unfold f_X6_hangProfile_along
  have e1 : (1 : Int32).toNatClampNeg = 1 := rfl
  have e0 : (0 : Int32).toNatClampNeg = 0 := rfl
  rw [e0, e1]
  show f_X6_hangProfile_along_13 b (m + 11 + 1) _ (nI f) 0 (nI 1) = _
  rw [s_hp1_along b _ _ f 1 _ (by omega) (by omega) hf]
  show f_X6_hangProfile_along_13 b (m + 10 + 1) _ (nI f) _ (nI 2) = _
  rw [s_hp1_along b _ _ f 2 _ (by omega) (by omega) hf]
  show f_X6_hangProfile_along_13 b (m + 9 + 1) _ (nI f) _ (nI 3) = _
  rw [s_hp1_along b _ _ f 3 _ (by omega) (by omega) hf]
  show f_X6_hangProfile_along_13 b (m + 8 + 1) _ (nI f) _ (nI 4) = _
  rw [s_hp1_along b _ _ f 4 _ (by omega) (by omega) hf]
  show f_X6_hangProfile_along_13b b _ (m + 7) _ _ _ (nI 5) = _
  unfold f_X6_hangProfile_along_13b
  rw [if_pos (by decide)]
  have e5 : (5 : Int32).toNatClampNeg = 5 := rfl
  rw [e5]
  unfold nmd
  show f_X6_hangProfile_along_59 b (m + 6 + 1) _ _ (nI 0) = _
  rw [s_hp2_along b _ _ 0 _ (by omega)]
  show f_X6_hangProfile_along_59 b (m + 5 + 1) _ _ (nI 1) = _
  rw [s_hp2_along b _ _ 1 _ (by omega)]
  show f_X6_hangProfile_along_59 b (m + 4 + 1) _ _ (nI 2) = _
  rw [s_hp2_along b _ _ 2 _ (by omega)]
  show f_X6_hangProfile_along_59 b (m + 3 + 1) _ _ (nI 3) = _
  rw [s_hp2_along b _ _ 3 _ (by omega)]
  show f_X6_hangProfile_along_59 b (m + 2 + 1) _ _ (nI 4) = _
  rw [s_hp2_along b _ _ 4 _ (by omega)]
  show f_X6_hangProfile_along_59 b (m + 1 + 1) _ _ (nI 5) = _
  rw [s_hp2_along b _ _ 5 _ (by omega)]
  show f_X6_hangProfile_along_59b b _ m _ _ (nI 6) = _
  unfold f_X6_hangProfile_along_59b
  rw [if_pos (by decide)]
  congr 1
  funext j
  unfold hpa
  match j with
  | 0 => rfl
  | 1 => rfl
  | 2 => rfl
  | 3 => rfl
  | 4 => rfl
  | 5 => rfl
  | j + 6 => simp [upd]
theorem s_hang (b ac al : Nat → Int32) (n : Nat) (hn : 20 ≤ n) : f_X6_hang n b ac al = some (hpa b 0 ac, hpa b 4 al) := by
  unfold f_X6_hang
  rw [k0, k4, s_hp_across b ac n 0 (by omega) hn, s_hp_along b al n 4 (by omega) hn]
  rfl
/-- the hung WISH of the class -/
def hw36 (w : Nat → Int32) (c : Nat) : Int32 := ((w c - w 0) * 5 - (w 5 - w 0) * nI (c % 6)) - (w 30 - w 0) * nI (c / 6)
theorem s_hungw (w : Nat → Int32) (n c : Nat) (hc : c < 36) : f_X11_hungAt n w (nI c) = some (hw36 w c) := by
  unfold f_X11_hungAt hw36
  rw [k6, p_rem (by omega) (by omega) (by omega), p_div (by omega) (by omega) (by omega), p_vin hc (by omega), p_cl (by omega)]
  rfl
theorem hcoef (b : Int32) (x k : Nat) (hx : x < 6) (hk : k < 4) : (if nI x ≤ nI k + 1 then 0 else b * ((nI x - nI k) - 1)) = b * nI (x - (k + 1)) := by
  rw [p_1]
  by_cases h : x ≤ k + 1
  · rw [if_pos ((p_le (by omega) (by omega)).mpr h), show x - (k + 1) = 0 from by omega]
    exact (Int32.mul_zero).symm
  · rw [if_neg (fun h2 => h ((p_le (by omega) (by omega)).mp h2)), p_sub (by omega), k1, p_sub (by omega), show x - k - 1 = x - (k + 1) from by omega]
def px (b : Nat → Int32) (f x : Nat) : Int32 := b f * nI (x - 1) + b (f + 1) * nI (x - 2) + b (f + 2) * nI (x - 3) + b (f + 3) * nI (x - 4)
theorem hgt2_px (b : Nat → Int32) (x y : Nat) (hx : x < 6) (hy : y < 6) : hgt2 b (nI x) (nI y) = px b 0 x + px b 4 y := by
  unfold hgt2 hst px
  rw [hcoef _ x 0 hx (by omega), hcoef _ x 1 hx (by omega), hcoef _ x 2 hx (by omega), hcoef _ x 3 hx (by omega), hcoef _ y 0 hy (by omega), hcoef _ y 1 hy (by omega), hcoef _ y 2 hy (by omega), hcoef _ y 3 hy (by omega)]
  simp only [Nat.zero_add, Nat.add_zero]
  grind
theorem hu_px (b : Nat → Int32) (f x : Nat) (hx : x < 6) : hu b f x = 5 * px b f x - px b f 5 * nI x := by
  unfold hu px
  have z0 : nI 0 = 0 := rfl
  have z1 : nI 1 = 1 := rfl
  have z2 : nI 2 = 2 := rfl
  have z3 : nI 3 = 3 := rfl
  have z4 : nI 4 = 4 := rfl
  have z5 : nI 5 = 5 := rfl
  match x with
  | 0 => simp only [hpv, z0, z1, z2, z3, z4, z5, Nat.reduceSub]; grind
  | 1 => simp only [hpv, z0, z1, z2, z3, z4, z5, Nat.reduceSub]; grind
  | 2 => simp only [hpv, z0, z1, z2, z3, z4, z5, Nat.reduceSub]; grind
  | 3 => simp only [hpv, z0, z1, z2, z3, z4, z5, Nat.reduceSub]; grind
  | 4 => simp only [hpv, z0, z1, z2, z3, z4, z5, Nat.reduceSub]; grind
  | 5 => simp only [hpv, z0, z1, z2, z3, z4, z5, Nat.reduceSub]; grind
  | x + 6 => omega
theorem px_0 (b : Nat → Int32) (f : Nat) : px b f 0 = 0 := by
  unfold px
  have z0 : nI 0 = 0 := rfl
  simp only [Nat.reduceSub, z0]
  grind
/-- MISS by the class is MISS by the model -/
theorem mis_hu (b w : Nat → Int32) (c : Nat) (hc : c < 36) : hu b 0 (c % 6) + hu b 4 (c / 6) - hw36 w c = mis b w c := by
  unfold mis abv off hgt hw36
  rw [hu_px b 0 _ (by omega), hu_px b 4 _ (by omega), hgt2_px b _ _ (by omega) (by omega)]
  rw [show nI (0 % 6) = nI 0 from rfl, show nI (0 / 6) = nI 0 from rfl, show nI (5 % 6) = nI 5 from rfl, show nI (5 / 6) = nI 0 from rfl, show nI (30 % 6) = nI 0 from rfl, show nI (30 / 6) = nI 5 from rfl]
  rw [hgt2_px b 0 0 (by omega) (by omega), hgt2_px b 5 0 (by omega) (by omega), hgt2_px b 0 5 (by omega) (by omega), px_0, px_0]
  grind
