/-! ORDERS that are taken, by the class and by the model. -/
theorem wf_tail (f : Nat → Int32) : ∀ (r k s : Nat), 3 ≤ s → WF f r k s → ∃ e, k ≤ e ∧ e ≤ k + r ∧ (∀ i, k ≤ i → i < e → f i = 119 ∨ f i = 98) ∧ (e = k + r ∨ (e < k + r ∧ f e = 59 ∧ WF f (k + r - e - 1) (e + 1) 0)) := by
  intro r
  induction r with
  | zero => intro k s _ _; exact ⟨k, by omega, by omega, fun i h1 h2 => by omega, Or.inl rfl⟩
  | succ r ih =>
    intro k s hs h
    obtain ⟨q, h1, h2⟩ := h
    unfold st at h1
    rw [if_neg (by omega), if_neg (by omega), if_neg (by omega)] at h1
    by_cases c1 : f k = 59
    · rw [if_pos c1] at h1
      have e := (Option.some.inj h1).symm
      subst e
      refine ⟨k, by omega, by omega, fun i h1 h2 => by omega, Or.inr ⟨by omega, c1, ?_⟩⟩
      rw [show k + (r + 1) - k - 1 = r from by omega]
      exact h2
    · rw [if_neg c1] at h1
      have go : 3 ≤ q → (f k = 119 ∨ f k = 98) → ∃ e, k ≤ e ∧ e ≤ k + (r + 1) ∧ (∀ i, k ≤ i → i < e → f i = 119 ∨ f i = 98) ∧ (e = k + (r + 1) ∨ (e < k + (r + 1) ∧ f e = 59 ∧ WF f (k + (r + 1) - e - 1) (e + 1) 0)) := by
        intro hq hf
        obtain ⟨e, g1, g2, g3, g4⟩ := ih (k + 1) q hq h2
        rw [show k + 1 + r = k + (r + 1) from by omega] at g2 g4
        refine ⟨e, by omega, g2, fun i h1 h2 => ?_, g4⟩
        by_cases c : i = k
        · rw [c]; exact hf
        · exact g3 i (by omega) h2
      by_cases c2 : f k = 119 ∧ s = 3
      · rw [if_pos c2] at h1
        have e := (Option.some.inj h1).symm
        exact go (by omega) (Or.inl c2.1)
      · rw [if_neg c2] at h1
        by_cases c3 : f k = 98 ∧ s < 5
        · rw [if_pos c3] at h1
          have e := (Option.some.inj h1).symm
          exact go (by omega) (Or.inr c3.1)
        · rw [if_neg c3] at h1
          cases h1
theorem wf_seg (f : Nat → Int32) (r p : Nat) (h : WF f r p 0) : (f p = 118 ∨ f p = 104) ∧ (49 ≤ (f (p + 1)).toInt ∧ (f (p + 1)).toInt ≤ 52) ∧ (49 ≤ (f (p + 2)).toInt ∧ (f (p + 2)).toInt ≤ 57) ∧ ∃ e, p + 3 ≤ e ∧ e ≤ p + r ∧ (∀ i, p + 3 ≤ i → i < e → f i = 119 ∨ f i = 98) ∧ (e = p + r ∨ (e < p + r ∧ f e = 59 ∧ WF f (p + r - e - 1) (e + 1) 0)) := by
  cases r with
  | zero => exact absurd (show 3 ≤ 0 from h) (by omega)
  | succ r =>
    obtain ⟨q, h1, h2⟩ := h
    unfold st at h1
    rw [if_pos rfl] at h1
    by_cases c1 : f p = 118 ∨ f p = 104
    · rw [if_pos c1] at h1
      have e := (Option.some.inj h1).symm
      subst e
      cases r with
      | zero => exact absurd (show 3 ≤ 1 from h2) (by omega)
      | succ r =>
        obtain ⟨q, h3, h4⟩ := h2
        unfold st at h3
        rw [if_neg (by decide), if_pos rfl] at h3
        by_cases c2 : 49 ≤ (f (p + 1)).toInt ∧ (f (p + 1)).toInt ≤ 52
        · rw [if_pos c2] at h3
          have e := (Option.some.inj h3).symm
          subst e
          cases r with
          | zero => exact absurd (show 3 ≤ 2 from h4) (by omega)
          | succ r =>
            obtain ⟨q, h5, h6⟩ := h4
            unfold st at h5
            rw [if_neg (by decide), if_neg (by decide), if_pos rfl] at h5
            by_cases c3 : 49 ≤ (f (p + 1 + 1)).toInt ∧ (f (p + 1 + 1)).toInt ≤ 57
            · rw [if_pos c3] at h5
              have e := (Option.some.inj h5).symm
              subst e
              have t := wf_tail f r (p + 1 + 1 + 1) 3 (by omega) h6
              rw [show p + 1 + 1 + 1 + r = p + (r + 1 + 1 + 1) from by omega] at t
              exact ⟨c1, c2, c3, t⟩
            · rw [if_neg c3] at h5
              cases h5
        · rw [if_neg c2] at h3
          cases h3
    · rw [if_neg c1] at h1
      cases h1
/-- how many ; there are -/
def c59 (f : Nat → Int32) : Nat → Nat → Nat
  | 0, _ => 0
  | r + 1, k => (if f k = 59 then 1 else 0) + c59 f r (k + 1)
theorem c59_le (f : Nat → Int32) : ∀ r k, c59 f r k ≤ r := by
  intro r
  induction r with
  | zero => intro k; exact Nat.le_refl 0
  | succ r ih =>
    intro k
    have := ih (k + 1)
    show (if f k = 59 then 1 else 0) + c59 f r (k + 1) ≤ r + 1
    split <;> omega
theorem c59_skip (f : Nat → Int32) : ∀ (d r k : Nat), (∀ i, k ≤ i → i < k + d → f i ≠ 59) → c59 f (d + r) k = c59 f r (k + d) := by
  intro d
  induction d with
  | zero => intro r k _; rw [Nat.zero_add]; rfl
  | succ d ih =>
    intro r k h
    have i := ih r (k + 1) (fun i h1 h2 => h i (by omega) (by omega))
    rw [show d + 1 + r = (d + r) + 1 from by omega, show k + (d + 1) = k + 1 + d from by omega, ← i]
    show (if f k = 59 then 1 else 0) + c59 f (d + r) (k + 1) = _
    rw [if_neg (h k (by omega) (by omega)), Nat.zero_add]
theorem s_ps9 (f : Nat → Int32) (C : Nat) (hC : C ≤ 50) : ∀ (r n k v : Nat), k + r = C → r + 1 ≤ n → f_X2_passes_4 f (nI C) n (nI v) (nI k) = some (nI (v + c59 f r k)) := by
  intro r
  induction r with
  | zero =>
    intro n k v hk hn
    obtain ⟨m, rfl⟩ : ∃ m, n = m + 1 := ⟨n - 1, by omega⟩
    obtain rfl : k = C := by omega
    show f_X2_passes_4b f (nI k) _ m (nI v) (nI k) = _
    unfold f_X2_passes_4b
    rw [if_pos (Int32.le_refl _)]
    rfl
  | succ r ih =>
    intro n k v hk hn
    obtain ⟨m, rfl⟩ : ∃ m, n = m + 1 := ⟨n - 1, by omega⟩
    show f_X2_passes_4b f (nI C) (f_X2_passes_4 f (nI C) m) m (nI v) (nI k) = some (nI (v + ((if f k = 59 then 1 else 0) + c59 f r (k + 1))))
    unfold f_X2_passes_4b
    rw [if_neg (by rw [p_le (by omega) (by omega)]; omega), p_vin (show k < 50 by omega) (by omega), grd_t, p_cl (by omega), p_1, p_1]
    by_cases h : f k = 59
    · rw [if_pos h, if_pos h, ih m (k + 1) (v + 1) (by omega) (by omega), Nat.add_assoc]
    · rw [if_neg h, if_neg h, ih m (k + 1) v (by omega) (by omega), Nat.zero_add]
theorem s_ps12 (f g : Nat → Int32) (C : Nat) (hC : C ≤ 50) (hfg : ∀ i, i < C → f i = g i) : ∀ (r n k v : Nat), k + r = C → r + 1 ≤ n → f_X12_saidPasses_4 g (nI C) n (nI v) (nI k) = some (nI (v + c59 f r k)) := by
  intro r
  induction r with
  | zero =>
    intro n k v hk hn
    obtain ⟨m, rfl⟩ : ∃ m, n = m + 1 := ⟨n - 1, by omega⟩
    obtain rfl : k = C := by omega
    show f_X12_saidPasses_4b g (nI k) _ m (nI v) (nI k) = _
    unfold f_X12_saidPasses_4b
    rw [if_pos (Int32.le_refl _)]
    rfl
  | succ r ih =>
    intro n k v hk hn
    obtain ⟨m, rfl⟩ : ∃ m, n = m + 1 := ⟨n - 1, by omega⟩
    show f_X12_saidPasses_4b g (nI C) (f_X12_saidPasses_4 g (nI C) m) m (nI v) (nI k) = some (nI (v + ((if f k = 59 then 1 else 0) + c59 f r (k + 1))))
    unfold f_X12_saidPasses_4b
    rw [if_neg (by rw [p_le (by omega) (by omega)]; omega), p_vin (show k < 50 by omega) (by omega), grd_t, p_cl (by omega), p_1, ← hfg k (by omega)]
    simp only [nmd]
    by_cases h : f k = 59
    · rw [if_pos h, if_pos h, p_1, ih m (k + 1) (v + 1) (by omega) (by omega), Nat.add_assoc]
    · rw [if_neg h, if_neg h, k0, p_add, Nat.add_zero, p_1, ih m (k + 1) v (by omega) (by omega), Nat.zero_add]
/-- water and back of a PASS, by its last signs -/
def scn (f : Nat → Int32) : Nat → Nat → Int32 × Int32 → Int32 × Int32
  | 0, _, q => q
  | r + 1, k, q => scn f r (k + 1) (if f k = 119 then (1, q.2) else (q.1, 1))
theorem scn_01 (f : Nat → Int32) : ∀ (r k : Nat) (q : Int32 × Int32), (∃ a, a ≤ 1 ∧ q.1 = nI a) → (∃ a, a ≤ 1 ∧ q.2 = nI a) → (∃ a, a ≤ 1 ∧ (scn f r k q).1 = nI a) ∧ (∃ a, a ≤ 1 ∧ (scn f r k q).2 = nI a) := by
  intro r
  induction r with
  | zero => intro k q h1 h2; exact ⟨h1, h2⟩
  | succ r ih =>
    intro k q h1 h2
    show (∃ a, a ≤ 1 ∧ (scn f r (k + 1) (if f k = 119 then (1, q.2) else (q.1, 1))).1 = nI a) ∧ _
    refine ih (k + 1) _ ?_ ?_
    · split
      · exact ⟨1, by omega, rfl⟩
      · exact h1
    · split
      · exact h2
      · exact ⟨1, by omega, rfl⟩
theorem s_mp57 (f : Nat → Int32) (cnt : Int32) (l s w b : Nat → Int32) (P p e : Nat) (ln : Int32) (hP : P < 12) (he : e ≤ 50) (hp : p + 3 ≤ e) : ∀ (r n k : Nat) (q : Int32 × Int32), k + r = e → r + 1 ≤ n →
    f_X2_movePass_57 f cnt 12 12 n l s w b (nI P) (nI p) (nI e) ln q.1 q.2 (nI k) = some (upd l P ln, upd s P (f (p + 2) - 48), upd w P (scn f r k q).1, upd b P (scn f r k q).2, nI (P + 1)) := by
  intro r
  induction r with
  | zero =>
    intro n k q hk hn
    obtain ⟨m, rfl⟩ : ∃ m, n = m + 1 := ⟨n - 1, by omega⟩
    obtain rfl : k = e := by omega
    show f_X2_movePass_57b f cnt 12 12 _ m l s w b (nI P) (nI p) (nI k) ln q.1 q.2 (nI k) = _
    unfold f_X2_movePass_57b f_X3_add
    rw [if_pos (Int32.le_refl _), k2, p_add, p_vin (show p + 2 < 50 by omega) (by omega), grd_t, p_cl (by omega), k12, if_pos ((p_lt (by omega) (by omega)).mpr hP), p_vin hP (by omega), p_cl (by omega), p_1]
    rfl
  | succ r ih =>
    intro n k q hk hn
    obtain ⟨m, rfl⟩ : ∃ m, n = m + 1 := ⟨n - 1, by omega⟩
    have go := ih m (k + 1) (if f k = 119 then (1, q.2) else (q.1, 1)) (by omega) (by omega)
    show f_X2_movePass_57b f cnt 12 12 (f_X2_movePass_57 f cnt 12 12 m) m l s w b (nI P) (nI p) (nI e) ln q.1 q.2 (nI k) = some (upd l P ln, upd s P (f (p + 2) - 48), upd w P (scn f r (k + 1) (if f k = 119 then (1, q.2) else (q.1, 1))).1, upd b P (scn f r (k + 1) (if f k = 119 then (1, q.2) else (q.1, 1))).2, nI (P + 1))
    rw [← go]
    unfold f_X2_movePass_57b
    rw [if_neg (by rw [p_le (by omega) (by omega)]; omega), p_vin (show k < 50 by omega) (by omega), grd_t, p_cl (by omega), p_1]
    by_cases h : f k = 119
    · rw [if_pos h, if_pos h]
    · rw [if_neg h, if_neg h]
/-- the PASS that the signs from a place on tell -/
def psg (f : Nat → Int32) (p e : Nat) : Pq := ((f (p + 1) - 49) + (if f p = 104 then 4 else 0), f (p + 2) - 48, (scn f (e - (p + 3)) (p + 3) (0, 0)).1, (scn f (e - (p + 3)) (p + 3) (0, 0)).2)
theorem psg_ok {f : Nat → Int32} {p e : Nat} (h1 : 49 ≤ (f (p + 1)).toInt ∧ (f (p + 1)).toInt ≤ 52) (h2 : 49 ≤ (f (p + 2)).toInt ∧ (f (p + 2)).toInt ≤ 57) : okQ (psg f p e) := by
  obtain ⟨a, ha, ea⟩ := t_in (x := f (p + 1)) (b := 53) (by omega) (by omega) (by omega)
  obtain ⟨c, hc, ec⟩ := t_in (x := f (p + 2)) (b := 58) (by omega) (by omega) (by omega)
  rw [ea, p_T (by omega)] at h1
  rw [ec, p_T (by omega)] at h2
  have s01 := scn_01 f (e - (p + 3)) (p + 3) (0, 0) ⟨0, by omega, rfl⟩ ⟨0, by omega, rfl⟩
  refine ⟨?_, ⟨c - 48, by omega, by omega, ?_⟩, s01.1, s01.2⟩
  · show ∃ L, L < 8 ∧ (f (p + 1) - 49) + (if f p = 104 then 4 else 0) = nI L
    rw [ea, show (49 : Int32) = nI 49 from rfl, p_sub (by omega)]
    split
    · exact ⟨a - 49 + 4, by omega, by rw [k4, p_add]⟩
    · exact ⟨a - 49, by omega, by rw [k0, p_add, Nat.add_zero]⟩
  · show f (p + 2) - 48 = nI (c - 48)
    rw [ec, show (48 : Int32) = nI 48 from rfl, p_sub (by omega)]
theorem s_movePass (f : Nat → Int32) (l s w b : Nat → Int32) (C P p e n : Nat) (hP : P < 12) (hC : C ≤ 50) (he : e ≤ C) (hp : p + 3 ≤ e) (hn : 60 ≤ n) :
    f_X2_movePass n f (nI C) 12 12 l s w b (nI P) (nI p) (nI e) = some (upd l P (psg f p e).1, upd s P (psg f p e).2.1, upd w P (psg f p e).2.2.1, upd b P (psg f p e).2.2.2, nI (P + 1)) := by
  unfold f_X2_movePass f_X2_movePass_43
  simp only [nmd]
  rw [p_sub (by omega), k3, if_neg (by rw [p_lt (by omega) (by omega)]; omega), if_pos ((p_le (by omega) (by omega)).mpr he), p_1, p_vin (show p + 1 < 50 by omega) (by omega), p_vin (show p < 50 by omega) (by omega), grd_t, grd_t, p_cl (by omega), p_cl (by omega), p_add]
  unfold psg
  by_cases h : f p = 104
  · rw [if_pos h, if_pos h]
    exact s_mp57 f (nI C) l s w b P p e _ hP (by omega) hp (e - (p + 3)) n (p + 3) (0, 0) (by omega) (by omega)
  · rw [if_neg h, if_neg h]
    exact s_mp57 f (nI C) l s w b P p e _ hP (by omega) hp (e - (p + 3)) n (p + 3) (0, 0) (by omega) (by omega)
theorem s_skip (f : Nat → Int32) (l s w b : Nat → Int32) (cn : Int32) (C p e : Nat) (hC : C ≤ 50) (he : e ≤ C) : ∀ (d n k : Nat), k + d = e → (∀ i, k ≤ i → i < e → f i ≠ 59) → f_X2_moveInto_4 f 12 12 (n + d) (nI C) l s w b cn (nI p) (nI k) = f_X2_moveInto_4 f 12 12 n (nI C) l s w b cn (nI p) (nI e) := by
  intro d
  induction d with
  | zero =>
    intro n k hk _
    obtain rfl : k = e := by omega
    rfl
  | succ d ih =>
    intro n k hk h
    rw [← ih n (k + 1) (by omega) (fun i h1 h2 => h i (by omega) h2)]
    show f_X2_moveInto_4b f 12 12 (f_X2_moveInto_4 f 12 12 (n + d)) (n + d) (nI C) l s w b cn (nI p) (nI k) = _
    unfold f_X2_moveInto_4b
    rw [if_neg (by rw [p_lt (by omega) (by omega)]; omega), if_neg (by rw [p_eq (by omega) (by omega)]; omega), p_vin (show k < 50 by omega) (by omega), grd_t, p_cl (by omega), if_neg (h k (by omega) (by omega)), p_1]
theorem s_seg9 (f : Nat → Int32) (l s w b : Nat → Int32) (C P p e n : Nat) (hP : P < 12) (hC : C ≤ 50) (he : e ≤ C) (hp : p + 3 ≤ e) (hn : 60 ≤ n) (hd : ∀ i, p ≤ i → i < e → f i ≠ 59) (hend : e = C ∨ f e = 59) :
    f_X2_moveInto_4 f 12 12 (n + 1 + (e - p)) (nI C) l s w b (nI P) (nI p) (nI p) = f_X2_moveInto_4 f 12 12 n (nI C) (upd l P (psg f p e).1) (upd s P (psg f p e).2.1) (upd w P (psg f p e).2.2.1) (upd b P (psg f p e).2.2.2) (nI (P + 1)) (nI (e + 1)) (nI (e + 1)) := by
  rw [s_skip f l s w b (nI P) C p e hC he (e - p) (n + 1) p (by omega) hd]
  show f_X2_moveInto_4b f 12 12 (f_X2_moveInto_4 f 12 12 n) n (nI C) l s w b (nI P) (nI p) (nI e) = _
  have mv : f_X2_moveInto_31 f 12 12 (f_X2_moveInto_4 f 12 12 n) n (nI C) l s w b (nI P) (nI p) (nI e) = f_X2_moveInto_4 f 12 12 n (nI C) (upd l P (psg f p e).1) (upd s P (psg f p e).2.1) (upd w P (psg f p e).2.2.1) (upd b P (psg f p e).2.2.2) (nI (P + 1)) (nI (e + 1)) (nI (e + 1)) := by
    unfold f_X2_moveInto_31
    rw [s_movePass f l s w b C P p e n hP hC he hp hn]
    simp only [Option.bind_some, nmd, p_1]
  unfold f_X2_moveInto_4b
  rw [if_neg (by rw [p_lt (by omega) (by omega)]; omega)]
  by_cases h : e = C
  · rw [if_pos (by rw [h]), mv]
  · rw [if_neg (by rw [p_eq (by omega) (by omega)]; omega), p_vin (show e < 50 by omega) (by omega), grd_t, p_cl (by omega)]
    rcases hend with h2 | h2
    · exact absurd h2 h
    · rw [if_pos h2, mv]
theorem upd_upd (f : Nat → Int32) (k : Nat) (x y : Int32) : upd (upd f k x) k y = upd f k y := by
  funext j
  unfold upd
  split <;> rfl
theorem upd_at (f : Nat → Int32) (k : Nat) (x : Int32) : upd f k x k = x := if_pos rfl
theorem s_tk117 (f g : Nat → Int32) (k29 : Int32 → (Nat → Int32) → (Nat → Int32) → (Nat → Int32) → (Nat → Int32) → Int32 → Int32 → Option (Int32 × Int32 × (Nat → Int32) × (Nat → Int32) × (Nat → Int32) × (Nat → Int32) × Int32)) (l s w b : Nat → Int32) (C P e : Nat) (hC : C ≤ 50) (hP : P < 40) (he : e ≤ C) (hfg : ∀ i, i < C → f i = g i) (hend : e = C ∨ f e = 59) : ∀ (r n k : Nat) (q : Int32 × Int32), k + r = e → r + 1 ≤ n → (∀ i, k ≤ i → i < e → f i = 119 ∨ f i = 98) →
    f_X12_take_117 g k29 n (nI C) l s (upd w P q.1) (upd b P q.2) (nI P) (nI k) = k29 (nI C) l s (upd w P (scn f r k q).1) (upd b P (scn f r k q).2) (nI (P + 1)) (nI (e + 1)) := by
  intro r
  induction r with
  | zero =>
    intro n k q hk hn hs
    obtain ⟨m, rfl⟩ : ∃ m, n = m + 1 := ⟨n - 1, by omega⟩
    obtain rfl : k = e := by omega
    show f_X12_take_117b g k29 _ m (nI C) l s (upd w P q.1) (upd b P q.2) (nI P) (nI k) = _
    unfold f_X12_take_117b
    by_cases h : k = C
    · rw [if_pos (by rw [h]; exact Int32.le_refl _), p_1, p_1]
      rfl
    · rw [if_neg (by rw [p_le (by omega) (by omega)]; omega), p_vin (show k < 50 by omega) (by omega), grd_t, p_cl (by omega), ← hfg k (by omega), if_pos (hend.resolve_left h), p_1, p_1]
      rfl
  | succ r ih =>
    intro n k q hk hn hs
    obtain ⟨m, rfl⟩ : ∃ m, n = m + 1 := ⟨n - 1, by omega⟩
    have go := ih m (k + 1) (if f k = 119 then (1, q.2) else (q.1, 1)) (by omega) (by omega) (fun i h1 h2 => hs i (by omega) h2)
    show f_X12_take_117b g k29 (f_X12_take_117 g k29 m) m (nI C) l s (upd w P q.1) (upd b P q.2) (nI P) (nI k) = k29 (nI C) l s (upd w P (scn f r (k + 1) (if f k = 119 then (1, q.2) else (q.1, 1))).1) (upd b P (scn f r (k + 1) (if f k = 119 then (1, q.2) else (q.1, 1))).2) (nI (P + 1)) (nI (e + 1))
    rw [← go]
    unfold f_X12_take_117b f_X12_take_168
    rw [if_neg (by rw [p_le (by omega) (by omega)]; omega), p_vin (show k < 50 by omega) (by omega), p_vin (show P < 40 by omega) (by omega), p_cl (by omega), p_cl (by omega), ← hfg k (by omega), p_1]
    simp only [grd_t, upd_upd, upd_at]
    rcases hs k (by omega) (by omega) with h | h
    · rw [h, if_neg (by decide), if_pos rfl, if_neg (by decide), if_pos rfl, p_1]
    · rw [h, if_neg (by decide), if_neg (by decide), if_pos rfl, if_neg (by decide), p_1]
theorem s_seg12 (f g : Nat → Int32) (l s w b : Nat → Int32) (C P p e n : Nat) (hC : C ≤ 50) (hP : P < 40) (he : e ≤ C) (hp : p + 3 ≤ e) (hn : 60 ≤ n) (hfg : ∀ i, i < C → f i = g i) (hs : ∀ i, p + 3 ≤ i → i < e → f i = 119 ∨ f i = 98) (hend : e = C ∨ f e = 59) :
    f_X12_take_29 g (n + 1) (nI C) l s w b (nI P) (nI p) = f_X12_take_29 g n (nI C) (upd l P (psg f p e).1) (upd s P (psg f p e).2.1) (upd w P (psg f p e).2.2.1) (upd b P (psg f p e).2.2.2) (nI (P + 1)) (nI (e + 1)) := by
  show f_X12_take_29b g (f_X12_take_29 g n) n (nI C) l s w b (nI P) (nI p) = _
  unfold f_X12_take_29b f_X12_take_72
  rw [if_neg (by rw [p_le (by omega) (by omega)]; omega), k2, k3, p_add, p_add, p_1, p_vin (show p + 1 < 50 by omega) (by omega), p_vin (show p + 2 < 50 by omega) (by omega), p_vin (show p < 50 by omega) (by omega), p_vin (show P < 40 by omega) (by omega), p_cl (by omega), p_cl (by omega), p_cl (by omega), p_cl (by omega), ← hfg p (by omega), ← hfg (p + 1) (by omega), ← hfg (p + 2) (by omega)]
  simp only [grd_t]
  have t := fun ln => s_tk117 f g (f_X12_take_29 g n) (upd l P ln) (upd s P (f (p + 2) - 48)) w b C P e hC hP he hfg hend (e - (p + 3)) n (p + 3) (0, 0) (by omega) (by omega) hs
  unfold psg
  by_cases h : f p = 104
  · rw [if_pos h, if_pos h]
    exact t _
  · rw [if_neg h, if_neg h]
    exact t _
theorem ag4_upd {k : Nat} {a b c d a' b' c' d' : Nat → Int32} (h : ag4 k a b c d a' b' c' d') (x y z u : Int32) : ag4 (k + 1) (upd a k x) (upd b k y) (upd c k z) (upd d k u) (upd a' k x) (upd b' k y) (upd c' k z) (upd d' k u) := fun i hi => by
  unfold upd
  by_cases e : i = k
  · rw [if_pos e, if_pos e, if_pos e, if_pos e, if_pos e, if_pos e, if_pos e, if_pos e]
    exact ⟨rfl, rfl, rfl, rfl⟩
  · rw [if_neg e, if_neg e, if_neg e, if_neg e, if_neg e, if_neg e, if_neg e, if_neg e]
    exact h i (by omega)
/-- ORDERS taken, on both sides at once -/
theorem s_takes (f g : Nat → Int32) (C : Nat) (hC : C ≤ 50) (hfg : ∀ i, i < C → f i = g i) : ∀ (R r p P n n' : Nat) (l s w b l' s' w' b' : Nat → Int32), r ≤ R → p + r = C → WF f r p 0 → P + 1 + c59 f r p ≤ 12 → r + 70 ≤ n → r + 70 ≤ n' → ag4 P l s w b l' s' w' b' → (∀ i, i < P → okP l s w b i) →
    ∃ l1 s1 w1 b1 l2 s2 w2 b2 P', f_X2_moveInto_4 f 12 12 n (nI C) l s w b (nI P) (nI p) (nI p) = some (0, l1, s1, w1, b1, nI P') ∧ f_X12_take_29 g n' (nI C) l' s' w' b' (nI P) (nI p) = some (nI P', 0, l2, s2, w2, b2, nI P') ∧ P' ≤ 12 ∧ ag4 P' l1 s1 w1 b1 l2 s2 w2 b2 ∧ (∀ i, i < P' → okP l1 s1 w1 b1 i) := by
  intro R
  induction R with
  | zero =>
    intro r p P n n' l s w b l' s' w' b' hr hp hw
    obtain rfl : r = 0 := by omega
    exact absurd (show 3 ≤ 0 from hw) (by omega)
  | succ R ih =>
    intro r p P n n' l s w b l' s' w' b' hr hp hw h12 hn hn' hag hok
    obtain ⟨c1, c2, c3, e, h1, h2, h3, h4⟩ := wf_seg f r p hw
    have hd : ∀ i, p ≤ i → i < e → f i ≠ 59 := by
      intro i g1 g2 q
      by_cases a0 : i = p
      · rw [a0] at q
        rw [q] at c1
        rcases c1 with c | c <;> exact absurd c (by decide)
      · by_cases a1 : i = p + 1
        · rw [a1] at q
          rw [q] at c2
          exact absurd c2 (by decide)
        · by_cases a2 : i = p + 2
          · rw [a2] at q
            rw [q] at c3
            exact absurd c3 (by decide)
          · have := h3 i (by omega) g2
            rw [q] at this
            rcases this with c | c <;> exact absurd c (by decide)
    have hend : e = C ∨ f e = 59 := by
      rcases h4 with q | q
      · exact Or.inl (by omega)
      · exact Or.inr q.2.1
    have hP : P < 12 := by omega
    have s9 := s_seg9 f l s w b C P p e (n - 1 - (e - p)) hP hC (by omega) h1 (by omega) hd hend
    rw [show n - 1 - (e - p) + 1 + (e - p) = n from by omega] at s9
    have s12 := s_seg12 f g l' s' w' b' C P p e (n' - 1) hC (by omega) (by omega) h1 (by omega) hfg h3 hend
    rw [show n' - 1 + 1 = n' from by omega] at s12
    have hq := psg_ok (f := f) (p := p) (e := e) c2 c3
    have hag' := ag4_upd hag (psg f p e).1 (psg f p e).2.1 (psg f p e).2.2.1 (psg f p e).2.2.2
    have hok' := okP_upd hok hq
    rw [s9, s12]
    rcases h4 with q | ⟨q1, q2, q3⟩
    · obtain ⟨m, hm⟩ : ∃ m, n - 1 - (e - p) = m + 1 := ⟨n - 2 - (e - p), by omega⟩
      obtain ⟨m', hm'⟩ : ∃ m, n' - 1 = m + 1 := ⟨n' - 2, by omega⟩
      rw [hm, hm']
      refine ⟨_, _, _, _, _, _, _, _, P + 1, ?_, ?_, by omega, hag', hok'⟩
      · show f_X2_moveInto_4b f 12 12 (f_X2_moveInto_4 f 12 12 m) m (nI C) _ _ _ _ _ _ _ = _
        unfold f_X2_moveInto_4b
        rw [if_pos ((p_lt (by omega) (by omega)).mpr (by omega))]
      · show f_X12_take_29b g (f_X12_take_29 g m') m' (nI C) _ _ _ _ _ _ = _
        unfold f_X12_take_29b
        rw [if_pos ((p_le (by omega) (by omega)).mpr (by omega))]
    · have hc : c59 f r p = 1 + c59 f (p + r - e - 1) (e + 1) := by
        have k := c59_skip f (e - p) (r - (e - p)) p (fun i g1 g2 => hd i g1 (by omega))
        rw [show e - p + (r - (e - p)) = r from by omega, show p + (e - p) = e from by omega, show r - (e - p) = (p + r - e - 1) + 1 from by omega] at k
        rw [k]
        show (if f e = 59 then 1 else 0) + _ = _
        rw [if_pos q2]
      exact ih (p + r - e - 1) (e + 1) (P + 1) _ _ _ _ _ _ _ _ _ _ (by omega) (by omega) q3 (by omega) (by omega) (by omega) hag' hok'
