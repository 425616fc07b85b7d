/-! ORDERS: THE FAULT, by the class and by the model. -/
def st (s : Nat) (c : Int32) : Option Nat :=
  if s = 0 then (if c = 118 ∨ c = 104 then some 1 else none)
  else if s = 1 then (if 49 ≤ c.toInt ∧ c.toInt ≤ 52 then some 2 else none)
  else if s = 2 then (if 49 ≤ c.toInt ∧ c.toInt ≤ 57 then some 3 else none)
  else if c = 59 then some 0 else if c = 119 ∧ s = 3 then some 4 else if c = 98 ∧ s < 5 then some 5 else none
theorem st_le {s : Nat} {c : Int32} {q : Nat} (h : st s c = some q) : q ≤ 5 := by
  unfold st at h
  grind
def stI (d : Int32) (o : Option Nat) : Int32 := match o with
  | some q => nI q
  | none => d
theorem s_follow (n s : Nat) (hs : s ≤ 5) (c : Int32) : f_X2_follow n (nI s) c = some (stI 6 (st s c)) := by
  have l49 : (c < (49 : Int32)) ↔ ¬ 49 ≤ c.toInt := by
    rw [Int32.lt_iff_toInt_lt, show (49 : Int32).toInt = 49 from by decide]; omega
  have l52 : ((52 : Int32) < c) ↔ ¬ c.toInt ≤ 52 := by
    rw [Int32.lt_iff_toInt_lt, show (52 : Int32).toInt = 52 from by decide]; omega
  have l57 : ((57 : Int32) < c) ↔ ¬ c.toInt ≤ 57 := by
    rw [Int32.lt_iff_toInt_lt, show (57 : Int32).toInt = 57 from by decide]; omega
  have hs' : s = 0 ∨ s = 1 ∨ s = 2 ∨ s = 3 ∨ s = 4 ∨ s = 5 := by omega
  unfold f_X2_follow f_X2_followPass f_X2_followPass_21 st
  rcases hs' with rfl | rfl | rfl | rfl | rfl | rfl
  · rw [if_pos (show nI 0 = (0 : Int32) from rfl), if_pos (show (0 : Nat) = 0 from rfl)]
    by_cases h1 : c = 118
    · rw [if_pos h1, if_pos (Or.inl h1)]; rfl
    · rw [if_neg h1]
      by_cases h2 : c = 104
      · rw [if_pos h2, if_pos (Or.inr h2)]; rfl
      · rw [if_neg h2, if_neg (fun g => g.elim h1 h2)]; rfl
  · rw [if_neg (show ¬ nI 1 = (0 : Int32) from by decide), if_pos (show nI 1 = (1 : Int32) from rfl), if_neg (show ¬ (1 : Nat) = 0 from by decide), if_pos (show (1 : Nat) = 1 from rfl)]
    by_cases h1 : 49 ≤ c.toInt
    · rw [if_neg (fun g => l49.mp g h1)]
      by_cases h2 : c.toInt ≤ 52
      · rw [if_neg (fun g => l52.mp g h2), if_pos ⟨h1, h2⟩]; rfl
      · rw [if_pos (l52.mpr h2), if_neg (fun g => h2 g.2)]; rfl
    · rw [if_pos (l49.mpr h1), if_neg (fun g => h1 g.1)]; rfl
  · rw [if_neg (show ¬ nI 2 = (0 : Int32) from by decide), if_neg (show ¬ nI 2 = (1 : Int32) from by decide), if_pos (show nI 2 = (2 : Int32) from rfl), if_neg (show ¬ (2 : Nat) = 0 from by decide), if_neg (show ¬ (2 : Nat) = 1 from by decide), if_pos (show (2 : Nat) = 2 from rfl)]
    by_cases h1 : 49 ≤ c.toInt
    · rw [if_neg (fun g => l49.mp g h1)]
      by_cases h2 : c.toInt ≤ 57
      · rw [if_neg (fun g => l57.mp g h2), if_pos ⟨h1, h2⟩]; rfl
      · rw [if_pos (l57.mpr h2), if_neg (fun g => h2 g.2)]; rfl
    · rw [if_pos (l49.mpr h1), if_neg (fun g => h1 g.1)]; rfl
  · rw [if_neg (show ¬ nI 3 = (0 : Int32) from by decide), if_neg (show ¬ nI 3 = (1 : Int32) from by decide), if_neg (show ¬ nI 3 = (2 : Int32) from by decide), if_neg (show ¬ (3 : Nat) = 0 from by decide), if_neg (show ¬ (3 : Nat) = 1 from by decide), if_neg (show ¬ (3 : Nat) = 2 from by decide)]
    by_cases h1 : c = 59
    · rw [if_pos h1, if_pos h1]; rfl
    · rw [if_neg h1, if_neg h1]
      by_cases h2 : c = 119
      · subst h2
        rfl
      · by_cases h3 : c = 98
        · subst h3
          rfl
        · rw [if_neg h2, if_neg h3, if_neg (fun g : c = 119 ∧ _ => h2 g.1), if_neg (fun g : c = 98 ∧ _ => h3 g.1)]
          rfl
  · rw [if_neg (show ¬ nI 4 = (0 : Int32) from by decide), if_neg (show ¬ nI 4 = (1 : Int32) from by decide), if_neg (show ¬ nI 4 = (2 : Int32) from by decide), if_neg (show ¬ (4 : Nat) = 0 from by decide), if_neg (show ¬ (4 : Nat) = 1 from by decide), if_neg (show ¬ (4 : Nat) = 2 from by decide)]
    by_cases h1 : c = 59
    · rw [if_pos h1, if_pos h1]; rfl
    · rw [if_neg h1, if_neg h1]
      by_cases h2 : c = 119
      · subst h2
        rfl
      · by_cases h3 : c = 98
        · subst h3
          rfl
        · rw [if_neg h2, if_neg h3, if_neg (fun g : c = 119 ∧ _ => h2 g.1), if_neg (fun g : c = 98 ∧ _ => h3 g.1)]
          rfl
  · rw [if_neg (show ¬ nI 5 = (0 : Int32) from by decide), if_neg (show ¬ nI 5 = (1 : Int32) from by decide), if_neg (show ¬ nI 5 = (2 : Int32) from by decide), if_neg (show ¬ (5 : Nat) = 0 from by decide), if_neg (show ¬ (5 : Nat) = 1 from by decide), if_neg (show ¬ (5 : Nat) = 2 from by decide)]
    by_cases h1 : c = 59
    · rw [if_pos h1, if_pos h1]; rfl
    · rw [if_neg h1, if_neg h1]
      by_cases h2 : c = 119
      · subst h2
        rfl
      · by_cases h3 : c = 98
        · subst h3
          rfl
        · rw [if_neg h2, if_neg h3, if_neg (fun g : c = 119 ∧ _ => h2 g.1), if_neg (fun g : c = 98 ∧ _ => h3 g.1)]
          rfl
theorem s_stepOf (n s : Nat) (hs : s ≤ 5) (c : Int32) : f_X12_stepOf n (nI s) c = some (stI (-1) (st s c)) := by
  have hs' : s = 0 ∨ s = 1 ∨ s = 2 ∨ s = 3 ∨ s = 4 ∨ s = 5 := by omega
  unfold f_X12_stepOf f_X12_stepOf_111 st
  rw [s_in, s_in, Int32.toInt_toInt64, show (49 : Int64).toInt = 49 from by decide, show (52 : Int64).toInt = 52 from by decide, show (57 : Int64).toInt = 57 from by decide]
  simp only [Option.bind_some]
  rcases hs' with rfl | rfl | rfl | rfl | rfl | rfl
  · rw [if_pos (show nI 0 = (0 : Int32) from rfl), if_pos (show (0 : Nat) = 0 from rfl)]
    by_cases h1 : c = 118
    · rw [if_pos h1, if_pos (Or.inl h1)]; rfl
    · rw [if_neg h1]
      by_cases h2 : c = 104
      · rw [if_pos h2, if_pos (Or.inr h2)]; rfl
      · rw [if_neg h2, if_neg (fun g => g.elim h1 h2)]; rfl
  · rw [if_neg (show ¬ nI 1 = (0 : Int32) from by decide), if_pos (show nI 1 = (1 : Int32) from rfl), if_neg (show ¬ (1 : Nat) = 0 from by decide), if_pos (show (1 : Nat) = 1 from rfl)]
    by_cases h1 : 49 ≤ c.toInt ∧ c.toInt ≤ 52
    · rw [if_pos h1, if_pos h1]; rfl
    · rw [if_neg h1, if_neg h1]; rfl
  · rw [if_neg (show ¬ nI 2 = (0 : Int32) from by decide), if_neg (show ¬ nI 2 = (1 : Int32) from by decide), if_pos (show nI 2 = (2 : Int32) from rfl), if_neg (show ¬ (2 : Nat) = 0 from by decide), if_neg (show ¬ (2 : Nat) = 1 from by decide), if_pos (show (2 : Nat) = 2 from rfl)]
    by_cases h1 : 49 ≤ c.toInt ∧ c.toInt ≤ 57
    · rw [if_pos h1, if_pos h1]; rfl
    · rw [if_neg h1, if_neg h1]; rfl
  · rw [if_neg (show ¬ nI 3 = (0 : Int32) from by decide), if_neg (show ¬ nI 3 = (1 : Int32) from by decide), if_neg (show ¬ nI 3 = (2 : Int32) from by decide), if_neg (show ¬ (3 : Nat) = 0 from by decide), if_neg (show ¬ (3 : Nat) = 1 from by decide), if_neg (show ¬ (3 : Nat) = 2 from by decide)]
    by_cases h1 : c = 59
    · rw [if_pos h1, if_pos h1]; rfl
    · rw [if_neg h1, if_neg h1]
      by_cases h2 : c = 119
      · subst h2
        rfl
      · by_cases h3 : c = 98
        · subst h3
          rfl
        · rw [if_neg h2, if_neg h3, if_neg (fun g : c = 119 ∧ _ => h2 g.1), if_neg (fun g : c = 98 ∧ _ => h3 g.1)]
          rfl
  · rw [if_neg (show ¬ nI 4 = (0 : Int32) from by decide), if_neg (show ¬ nI 4 = (1 : Int32) from by decide), if_neg (show ¬ nI 4 = (2 : Int32) from by decide), if_neg (show ¬ (4 : Nat) = 0 from by decide), if_neg (show ¬ (4 : Nat) = 1 from by decide), if_neg (show ¬ (4 : Nat) = 2 from by decide)]
    by_cases h1 : c = 59
    · rw [if_pos h1, if_pos h1]; rfl
    · rw [if_neg h1, if_neg h1]
      by_cases h2 : c = 119
      · subst h2
        rfl
      · by_cases h3 : c = 98
        · subst h3
          rfl
        · rw [if_neg h2, if_neg h3, if_neg (fun g : c = 119 ∧ _ => h2 g.1), if_neg (fun g : c = 98 ∧ _ => h3 g.1)]
          rfl
  · rw [if_neg (show ¬ nI 5 = (0 : Int32) from by decide), if_neg (show ¬ nI 5 = (1 : Int32) from by decide), if_neg (show ¬ nI 5 = (2 : Int32) from by decide), if_neg (show ¬ (5 : Nat) = 0 from by decide), if_neg (show ¬ (5 : Nat) = 1 from by decide), if_neg (show ¬ (5 : Nat) = 2 from by decide)]
    by_cases h1 : c = 59
    · rw [if_pos h1, if_pos h1]; rfl
    · rw [if_neg h1, if_neg h1]
      by_cases h2 : c = 119
      · subst h2
        rfl
      · by_cases h3 : c = 98
        · subst h3
          rfl
        · rw [if_neg h2, if_neg h3, if_neg (fun g : c = 119 ∧ _ => h2 g.1), if_neg (fun g : c = 98 ∧ _ => h3 g.1)]
          rfl
def flt (f : Nat → Int32) (C : Nat) : Nat → Nat → Nat → Int32
  | 0, _, s => if s < 3 then nI C else -6
  | r + 1, k, s => match st s (f k) with
    | none => nI k
    | some q => flt f C r (k + 1) q
theorem s_fp (f : Nat → Int32) (C : Nat) (hC : C ≤ 50) : ∀ (r n k s : Nat), k + r = C → r + 1 ≤ n → s ≤ 5 → f_X2_faultPlace_4 f (nI C) n (nI s) (nI k) = some (flt f C r k s) := by
  intro r
  induction r with
  | zero =>
    intro n k s hk hn hs
    obtain ⟨m, rfl⟩ : ∃ m, n = m + 1 := ⟨n - 1, by omega⟩
    obtain rfl : k = C := by omega
    show f_X2_faultPlace_4b f (nI k) _ m (nI s) (nI k) = some (if s < 3 then nI k else -6)
    unfold f_X2_faultPlace_4b
    rw [if_pos (Int32.le_refl _), k3]
    by_cases h : s < 3
    · rw [if_pos ((p_lt (by omega) (by omega)).mpr h), if_pos h]
    · rw [if_neg (fun g => h ((p_lt (by omega) (by omega)).mp g)), if_neg h]
  | succ r ih =>
    intro n k s hk hn hs
    obtain ⟨m, rfl⟩ : ∃ m, n = m + 1 := ⟨n - 1, by omega⟩
    show f_X2_faultPlace_4b f (nI C) (f_X2_faultPlace_4 f (nI C) m) m (nI s) (nI k) = some (match st s (f k) with
    | none => nI k
    | some q => flt f C r (k + 1) q)
    unfold f_X2_faultPlace_4b
    rw [if_neg (by rw [p_le (by omega) (by omega)]; omega), p_vin (show k < 50 by omega) (by omega), grd_t, p_cl (by omega), s_follow m s hs, p_1]
    simp only [Option.bind_some]
    cases h : st s (f k) with
    | none => rw [if_pos (show stI 6 none = 6 from rfl)]
    | some q =>
      have hq := st_le h
      have e : stI 6 (some q) = nI q := rfl
      rw [e, k6, if_neg (fun g => by have := (p_eq (by omega) (by omega)).mp g; omega)]
      exact ih m (k + 1) q (by omega) (by omega) hq
theorem s_fp12 (f : Nat → Int32) (C : Nat) (hC : C ≤ 50) : ∀ (r n k s : Nat), k + r = C → r + 1 ≤ n → s ≤ 5 → f_X12_fault_4 f (nI C) n (nI s) (nI k) = some (flt f C r k s) := by
  intro r
  induction r with
  | zero =>
    intro n k s hk hn hs
    obtain ⟨m, rfl⟩ : ∃ m, n = m + 1 := ⟨n - 1, by omega⟩
    obtain rfl : k = C := by omega
    show f_X12_fault_4b f (nI k) _ m (nI s) (nI k) = some (if s < 3 then nI k else -6)
    unfold f_X12_fault_4b
    rw [if_pos (Int32.le_refl _), k2]
    by_cases h : s < 3
    · rw [if_pos ((p_le (by omega) (by omega)).mpr (by omega)), if_pos h]
    · rw [if_neg (fun g => h (by have := (p_le (by omega) (by omega)).mp g; omega)), if_neg h]
  | succ r ih =>
    intro n k s hk hn hs
    obtain ⟨m, rfl⟩ : ∃ m, n = m + 1 := ⟨n - 1, by omega⟩
    show f_X12_fault_4b f (nI C) (f_X12_fault_4 f (nI C) m) m (nI s) (nI k) = some (match st s (f k) with
    | none => nI k
    | some q => flt f C r (k + 1) q)
    unfold f_X12_fault_4b
    rw [if_neg (by rw [p_le (by omega) (by omega)]; omega), p_vin (show k < 50 by omega) (by omega), grd_t, p_cl (by omega), s_stepOf m s hs, p_1]
    simp only [Option.bind_some]
    cases h : st s (f k) with
    | none => rw [if_neg (show ¬ (0 : Int32) ≤ stI (-1) none from by decide)]
    | some q =>
      have hq := st_le h
      have e : stI (-1) (some q) = nI q := rfl
      rw [e, k0, if_pos ((p_le (by omega) (by omega)).mpr (by omega))]
      exact ih m (k + 1) q (by omega) (by omega) hq
theorem flt_congr {f g : Nat → Int32} {C : Nat} (h : ∀ i, i < C → f i = g i) : ∀ (r k s : Nat), k + r = C → flt f C r k s = flt g C r k s := by
  intro r
  induction r with
  | zero => intro k s _; rfl
  | succ r ih =>
    intro k s hk
    unfold flt
    rw [h k (by omega)]
    cases st s (g k) with
    | none => rfl
    | some q => exact ih (k + 1) q (by omega)
/-- THE FAULT on both sides -/
theorem s_faults (f g : Nat → Int32) (C n : Nat) (hC : C ≤ 50) (hn : 60 ≤ n) (h : ∀ i, i < C → f i = g i) : f_X2_faultPlace n f (nI C) = some (flt f C C 0 0) ∧ f_X12_fault n g (nI C) = some (flt f C C 0 0) := by
  refine ⟨s_fp f C hC C n 0 0 (by omega) (by omega) (by omega), ?_⟩
  rw [flt_congr h C 0 0 (by omega)]
  exact s_fp12 g C hC C n 0 0 (by omega) (by omega) (by omega)
/-- a text without a FAULT -/
def WF (f : Nat → Int32) : Nat → Nat → Nat → Prop
  | 0, _, s => 3 ≤ s
  | r + 1, k, s => ∃ q, st s (f k) = some q ∧ WF f r (k + 1) q
theorem flt_WF {f : Nat → Int32} {C : Nat} (hC : C ≤ 50) : ∀ (r k s : Nat), k + r = C → (flt f C r k s = -6 → WF f r k s) ∧ (flt f C r k s = -6 ∨ ∃ j, j ≤ 50 ∧ flt f C r k s = nI j) := by
  have ne : ∀ j : Nat, j ≤ 50 → ¬ nI j = -6 := fun j hj e => by
    have e2 := congrArg Int32.toInt e
    rw [p_T (by omega), show (-6 : Int32).toInt = -6 from by decide] at e2
    omega
  intro r
  induction r with
  | zero =>
    intro k s hk
    unfold flt WF
    by_cases h : s < 3
    · rw [if_pos h]
      exact ⟨fun e => absurd e (ne C hC), Or.inr ⟨C, hC, rfl⟩⟩
    · rw [if_neg h]
      exact ⟨fun _ => by omega, Or.inl rfl⟩
  | succ r ih =>
    intro k s hk
    unfold flt WF
    cases h : st s (f k) with
    | none => exact ⟨fun e => absurd e (ne k (by omega)), Or.inr ⟨k, by omega, rfl⟩⟩
    | some q =>
      have i := ih (k + 1) q (by omega)
      exact ⟨fun e => ⟨q, rfl, i.1 e⟩, i.2⟩
