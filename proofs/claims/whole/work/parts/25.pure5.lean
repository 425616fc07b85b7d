/-! Laying PASSES: the class and the model. -/
def okP (line str wat bak : Nat → Int32) (i : Nat) : Prop := (∃ L, L < 8 ∧ line i = nI L) ∧ (∃ S, 1 ≤ S ∧ S ≤ 9 ∧ str i = nI S) ∧ (∃ w, w ≤ 1 ∧ wat i = nI w) ∧ (∃ k, k ≤ 1 ∧ bak i = nI k)
def tabRel (num tab : Nat → Int32) : Prop := ∀ j, j < 18 → num j = tab (j + 2)
theorem okP_idx {line str wat bak : Nat → Int32} {i : Nat} (h : okP line str wat bak i) : vin (2 * str i + wat i) 20 = true := by
  obtain ⟨-, ⟨S, h1, h2, e⟩, ⟨w, h3, e2⟩, -⟩ := h
  rw [e, e2, k2, p_mul, p_add]
  exact p_vin (by omega) (by omega)
theorem okP_line {line str wat bak : Nat → Int32} {i : Nat} (h : okP line str wat bak i) : vin (line i) 8 = true := by
  obtain ⟨⟨L, h1, e⟩, -⟩ := h
  rw [e]
  exact p_vin (by omega) (by omega)
theorem s_bent6 (laid set num tab line str wat bak : Nat → Int32) (N n i : Nat) (hi : i < N) (hN : N < 2147483648) (hok : okP line str wat bak i) (ht : tabRel num tab) :
    f_X6_bentBy n laid N line str wat bak set num (nI i) = some (bentv tab (str i) (wat i) (bak i) (max0 (lpart laid set (line i).toNatClampNeg))) := by
  obtain ⟨⟨L, hL, e1⟩, ⟨S, h1, h2, e2⟩, ⟨w, h3, e3⟩, -⟩ := hok
  unfold f_X6_bentBy f_X5_tableOf bentv
  rw [p_vin hi hN, p_cl (by omega), e1, e2, e3, s_partOn laid set n L hL, p_cl (by omega)]
  have e : 2 * (nI S - 1) + nI w = nI (2 * (S - 1) + w) := by rw [k1, p_sub h1, k2, p_mul, p_add]
  have e' : 2 * nI S + nI w = nI (2 * S + w) := by rw [k2, p_mul, p_add]
  rw [e, e', p_vin (by omega) (by omega), p_cl (by omega), p_cl (by omega), ht _ (by omega), show 2 * (S - 1) + w + 2 = 2 * S + w from by omega]
  simp only [grd_t, Option.bind_some, nmd]
  split <;> rfl
theorem s_lay6 (bends laid set num tab line str wat bak : Nat → Int32) (N n i : Nat) (hi : i < N) (hN : N < 2147483648) (hok : okP line str wat bak i) (ht : tabRel num tab) :
    f_X6_lay n bends laid N line str wat bak set num (nI i) = some (upd bends (line i).toNatClampNeg (bends (line i).toNatClampNeg + bentv tab (str i) (wat i) (bak i) (max0 (lpart laid set (line i).toNatClampNeg))), upd laid (line i).toNatClampNeg (laid (line i).toNatClampNeg + 1)) := by
  unfold f_X6_lay
  rw [s_bent6 laid set num tab line str wat bak N n i hi hN hok ht]
  simp only [Option.bind_some]
  rw [p_vin hi hN, p_cl (by omega)]
  simp only [grd_t, nmd]
  rw [okP_line hok]
  rfl
def mlaid (line l0 : Nat → Int32) : Nat → Nat → Int32
  | 0 => l0
  | k + 1 => upd (mlaid line l0 k) (line k).toNatClampNeg (mlaid line l0 k (line k).toNatClampNeg + 1)
theorem lp_zero (l0 set : Nat → Int32) (L : Nat) (h0 : ∀ j, j < 8 → l0 j = 0) : lpart l0 set L = 100 := by
  have z0 := h0 0 (by omega)
  have z1 := h0 1 (by omega)
  have z2 := h0 2 (by omega)
  have z3 := h0 3 (by omega)
  have z4 := h0 4 (by omega)
  have z5 := h0 5 (by omega)
  have z6 := h0 6 (by omega)
  have z7 := h0 7 (by omega)
  unfold lpart
  split <;> simp [z0, z1, z2, z3, z4, z5, z6, z7]
theorem lp_mpart (line l0 set : Nat → Int32) (L : Nat) (hL : L < 8) (h0 : ∀ j, j < 8 → l0 j = 0) : ∀ k, (∀ i, i < k → ∃ M, M < 8 ∧ line i = nI M) → lpart (mlaid line l0 k) set L = mpart set line (nI L) k := by
  intro k
  induction k with
  | zero => intro _; exact lp_zero l0 set L h0
  | succ k ih =>
    intro hl
    obtain ⟨M, hM, e⟩ := hl k (by omega)
    show lpart (upd (mlaid line l0 k) (line k).toNatClampNeg (mlaid line l0 k (line k).toNatClampNeg + 1)) set L = mpart set line (nI L) k - mdec set (line k) (nI L)
    rw [e, p_cl (by omega), lp_step _ set M L hM hL, mdec_N set M L hM hL, ih (fun i hi => hl i (by omega))]
theorem s_becomeOf_loop (set num tab line str wat bak b0 l0 : Nat → Int32) (N many : Nat) (hm : many ≤ N) (hN : N < 1000000) (hok : ∀ i, i < many → okP line str wat bak i) (ht : tabRel num tab) (h0 : ∀ j, j < 8 → l0 j = 0) : ∀ (r n k : Nat), k + r = many → r + 1 ≤ n →
    f_X6_becomeOf_19 N line str wat bak set num n (mbends line str wat bak tab set b0 k) (mlaid line l0 k) (nI many) (nI k) = some (mbends line str wat bak tab set b0 many, mlaid line l0 many) := by
  intro r
  induction r with
  | zero =>
    intro n k hk hn
    obtain ⟨m, rfl⟩ : ∃ m, n = m + 1 := ⟨n - 1, by omega⟩
    obtain rfl : k = many := by omega
    show f_X6_becomeOf_19b N line str wat bak set num _ _ _ _ _ _ = _
    unfold f_X6_becomeOf_19b
    rw [if_pos (Int32.le_refl _)]
  | succ r ih =>
    intro n k hk hn
    obtain ⟨m, rfl⟩ : ∃ m, n = m + 1 := ⟨n - 1, by omega⟩
    show f_X6_becomeOf_19b N line str wat bak set num (f_X6_becomeOf_19 N line str wat bak set num m) m _ _ _ _ = _
    unfold f_X6_becomeOf_19b
    rw [if_neg (by rw [p_le (by omega) (by omega)]; omega), s_lay6 _ _ set num tab line str wat bak N m k (by omega) (by omega) (hok k (by omega)) ht]
    simp only [Option.bind_some, p_1]
    obtain ⟨⟨L, hL, e⟩, -⟩ := hok k (by omega)
    have hp := lp_mpart line l0 set L hL h0 k (fun i hi => (hok i (by omega)).1)
    have h := ih m (k + 1) (by omega) (by omega)
    rw [show mbends line str wat bak tab set b0 (k + 1) = upd (mbends line str wat bak tab set b0 k) (line k).toNatClampNeg (mbends line str wat bak tab set b0 k (line k).toNatClampNeg + bentv tab (str k) (wat k) (bak k) (max0 (mpart set line (line k) k))) from rfl, show mlaid line l0 (k + 1) = upd (mlaid line l0 k) (line k).toNatClampNeg (mlaid line l0 k (line k).toNatClampNeg + 1) from rfl] at h
    rw [e, p_cl (by omega)] at h ⊢
    rw [hp]
    exact h
theorem s_fill_loop (N : Nat) (hN : N < 2147483648) (v : Int32) (a : Nat → Int32) : ∀ (r n k : Nat), k + r = N → r + 1 ≤ n → f_J7_fill_53178_5 N n (fun j => if j < k then v else a j) v (nI k) (nI N) = some (fun j => if j < N then v else a j) := by
  intro r
  induction r with
  | zero =>
    intro n k hk hn
    obtain ⟨m, rfl⟩ : ∃ m, n = m + 1 := ⟨n - 1, by omega⟩
    obtain rfl : k = N := by omega
    show f_J7_fill_53178_5b k _ _ _ _ _ _ = _
    unfold f_J7_fill_53178_5b
    rw [if_pos (Int32.le_refl _)]
  | succ r ih =>
    intro n k hk hn
    obtain ⟨m, rfl⟩ : ∃ m, n = m + 1 := ⟨n - 1, by omega⟩
    show f_J7_fill_53178_5b N (f_J7_fill_53178_5 N m) m _ _ _ _ = _
    unfold f_J7_fill_53178_5b
    rw [if_neg (by rw [p_le (by omega) (by omega)]; omega), p_vin (by omega) hN, p_cl (by omega), p_1]
    simp only [grd_t]
    rw [← ih m (k + 1) (by omega) (by omega)]
    congr 1
    funext j
    unfold upd
    by_cases h1 : j = k
    · rw [if_pos h1, if_pos (by omega)]
    · rw [if_neg h1]
      show (if j < k then v else a j) = _
      by_cases h2 : j < k
      · rw [if_pos h2, if_pos (by omega)]
      · rw [if_neg h2, if_neg (by omega)]
def filz (N : Nat) (v : Int32) (a : Nat → Int32) : Nat → Int32 := fun j => if j < N then v else a j
theorem s_fill (N : Nat) (v : Int32) (a : Nat → Int32) (n : Nat) (hN : N < 1000) (hn : 1001 ≤ n) : f_J7_fill_53178 n N a v = some (filz N v a) := by
  unfold f_J7_fill_53178 nmd
  have h := s_fill_loop N (by omega) v a N n 0 (by omega) (by omega)
  have e : (fun j => if j < 0 then v else a j) = a := by funext j; rw [if_neg (by omega)]
  rw [e] at h
  exact h
theorem filz_zer8 (a : Nat → Int32) : filz 8 0 a = zer8 a 8 := rfl
/-- the shape of so many PASSES, by the class -/
theorem s_becomeOf (bends laid set num tab line str wat bak : Nat → Int32) (N many n : Nat) (hm : many ≤ N) (hN : N < 1000) (hn : 1100 ≤ n) (hok : ∀ i, i < many → okP line str wat bak i) (ht : tabRel num tab) :
    f_X6_becomeOf n bends laid N line str wat bak set num (nI many) = some (mbends line str wat bak tab set (zer8 bends 8) many, mlaid line (zer8 laid 8) many) := by
  unfold f_X6_becomeOf
  rw [s_fill 8 0 bends n (by omega) (by omega), s_fill 8 0 laid n (by omega) (by omega)]
  simp only [Option.bind_some]
  exact s_becomeOf_loop set num tab line str wat bak (zer8 bends 8) (zer8 laid 8) N many hm (by omega) hok ht (fun j hj => if_pos hj) many n 0 (by omega) (by omega)
