/-! The calls, one by one: class and model answer alike. -/
def RWk (P : Nat) (wl ws ww wb ml ms mw mk : Nat → Int32) : Prop := P ≤ 12 ∧ ag4 P wl ws ww wb ml ms mw mk ∧ ∀ i, i < P → okP wl ws ww wb i
def RTb (set num tab : Nat → Int32) : Prop := tabRel num tab ∧ tabOk tab ∧ setOk set ∧ (1 ≤ (set 3).toInt ∧ (set 3).toInt ≤ 100000) ∧ (0 ≤ (set 4).toInt ∧ (set 4).toInt ≤ 1000000) ∧ (0 ≤ (set 5).toInt ∧ (set 5).toInt ≤ 30)
theorem i_in (n : Nat) (x : Int32) (a b : Int64) : f_X12_in n x.toInt64 a b = some (if a.toInt ≤ x.toInt ∧ x.toInt ≤ b.toInt then 1 else 0) := by
  rw [s_in, Int32.toInt_toInt64]
theorem lt_T {x y : Int32} : (x < y) ↔ x.toInt < y.toInt := Int32.lt_iff_toInt_lt
theorem le_T {x y : Int32} : (x ≤ y) ↔ x.toInt ≤ y.toInt := Int32.le_iff_toInt_le
theorem i_noLine (n : Nat) (x : Int32) : f_X11_isNoLine n x = some (if 0 ≤ x.toInt ∧ x.toInt ≤ 7 then 0 else 1) := by
  unfold f_X11_isNoLine
  simp only [lt_T, le_T, show (0 : Int32).toInt = 0 from by decide, show (8 : Int32).toInt = 8 from by decide]
  grind
theorem i_line (n : Nat) (x : Int32) : f_X12_isLine n x = some (if 0 ≤ x.toInt ∧ x.toInt ≤ 7 then 1 else 0) := by
  unfold f_X12_isLine
  rw [i_in]
  simp only [show (0 : Int64).toInt = 0 from by decide, show (7 : Int64).toInt = 7 from by decide, Option.bind_some]
  split <;> rfl
theorem i_noCorner (n : Nat) (x : Int32) : f_X11_isNoCorner n x = some (if 0 ≤ x.toInt ∧ x.toInt ≤ 35 then 0 else 1) := by
  unfold f_X11_isNoCorner
  simp only [lt_T, le_T, show (0 : Int32).toInt = 0 from by decide, show (36 : Int32).toInt = 36 from by decide]
  grind
theorem i_corner (n : Nat) (x : Int32) : f_X12_isCorner n x = some (if 0 ≤ x.toInt ∧ x.toInt ≤ 35 then 1 else 0) := by
  unfold f_X12_isCorner
  rw [i_in]
  simp only [show (0 : Int64).toInt = 0 from by decide, show (35 : Int64).toInt = 35 from by decide, Option.bind_some]
  split <;> rfl
theorem i_noStrength (n : Nat) (x : Int32) : f_X11_isNoStrength n x = some (if 1 ≤ x.toInt ∧ x.toInt ≤ 9 then 0 else 1) := by
  unfold f_X11_isNoStrength
  simp only [lt_T, le_T, show (1 : Int32).toInt = 1 from by decide, show (9 : Int32).toInt = 9 from by decide]
  grind
theorem i_strength (n : Nat) (x : Int32) : f_X12_in n x.toInt64 1 9 = some (if 1 ≤ x.toInt ∧ x.toInt ≤ 9 then 1 else 0) := by
  rw [i_in]
  rfl
theorem i_noHeight (n : Nat) (x : Int32) : f_X11_isNoHeight n x = some (if -100000 ≤ x.toInt ∧ x.toInt ≤ 100000 then 0 else 1) := by
  unfold f_X11_isNoHeight
  simp only [lt_T, le_T, show (-100000 : Int32).toInt = -100000 from by decide, show (100000 : Int32).toInt = 100000 from by decide]
  grind
theorem i_height (n : Nat) (x : Int32) : f_X12_in n x.toInt64 (-100000) 100000 = some (if -100000 ≤ x.toInt ∧ x.toInt ≤ 100000 then 1 else 0) := by
  rw [i_in]
  rfl
theorem i_01 (n : Nat) (x : Int32) : f_X12_in n x.toInt64 0 1 = some (if 0 ≤ x.toInt ∧ x.toInt ≤ 1 then 1 else 0) := by
  rw [i_in]
  rfl
theorem i_1000 (n : Nat) (x : Int32) : f_X12_in n x.toInt64 0 1000 = some (if 0 ≤ x.toInt ∧ x.toInt ≤ 1000 then 1 else 0) := by
  rw [i_in]
  rfl
theorem chr_ok : ∀ k, k < 127 → vp_nar .char (jchr (nI k)) = nI k := by decide +kernel
theorem c_say (n C : Nat) (sg : Nat → Int32) (x : Int32) (hC : C ≤ 50) : ∃ r sg' C', C' ≤ 50 ∧ f_X11_say n sg (nI C) x = some (r, sg', nI C') ∧ f_X12_say n sg (nI C) x = some (r, sg', nI C') := by
  unfold f_X11_say f_X12_say f_X2_add
  rw [i_in]
  simp only [lt_T, le_T, show (33 : Int32).toInt = 33 from by decide, show (126 : Int32).toInt = 126 from by decide, show (33 : Int64).toInt = 33 from by decide, show (126 : Int64).toInt = 126 from by decide, Option.bind_some]
  by_cases h1 : x.toInt < 33
  · rw [if_pos h1, if_neg (show ¬ (33 ≤ x.toInt ∧ x.toInt ≤ 126) by omega), if_pos rfl]
    exact ⟨_, sg, C, hC, rfl, rfl⟩
  · rw [if_neg h1]
    by_cases h2 : x.toInt ≤ 126
    · obtain ⟨k, hk, rfl⟩ := t_in (x := x) (b := 127) (by omega) (by omega) (by omega)
      rw [if_pos h2, if_pos (show 33 ≤ (nI k).toInt ∧ (nI k).toInt ≤ 126 by omega), if_neg (show ¬ (1 : Int32) = 0 from by decide), p_T (show C < 2147483648 by omega), show (50 : Int32).toInt = 50 from by decide]
      by_cases h3 : C = 50
      · subst h3
        refine ⟨-4, sg, 50, by omega, ?_, ?_⟩
        · rw [if_neg (by omega)]
          rfl
        · rw [if_pos (by rfl)]
      · rw [if_pos (show (C : Int) < 50 by omega), p_vin (show C < 50 by omega) (by omega), p_cl (by omega), grd_t, grd_t, chr_ok k hk, p_1, show (50 : Int32) = nI 50 from rfl, if_neg (by rw [p_eq (by omega) (by omega)]; omega)]
        exact ⟨nI (C + 1), _, C + 1, by omega, rfl, rfl⟩
    · rw [if_neg h2, if_neg (show ¬ (33 ≤ x.toInt ∧ x.toInt ≤ 126) by omega), if_pos rfl]
      exact ⟨_, sg, C, hC, rfl, rfl⟩
theorem c_fault (n C : Nat) (sg : Nat → Int32) (hC : C ≤ 50) (hn : 900000 ≤ n) : ∃ r, f_X11_fault n sg (nI C) = some r ∧ f_X12_fault n sg (nI C) = some r := by
  have h := s_faults sg sg C n hC (by omega) (fun _ _ => rfl)
  refine ⟨_, ?_, h.2⟩
  unfold f_X11_fault
  rw [h.1]
  rfl
theorem c_take (n C P : Nat) (sg wl ws ww wb ml ms mw mk : Nat → Int32) (kn kf : Int32) (hC : C ≤ 50) (hn : 900000 ≤ n) (hW : RWk P wl ws ww wb ml ms mw mk) :
    ∃ r C' wl' ws' ww' wb' P' kn' kf' ml' ms' mw' mk', f_X11_take n sg (nI C) 12 wl ws ww wb (nI P) kn kf = some (r, nI C', wl', ws', ww', wb', nI P', kn', kf') ∧ f_X12_take n sg (nI C) ml ms mw mk (nI P) = some (r, nI C', ml', ms', mw', mk', nI P') ∧ C' ≤ 50 ∧ RWk P' wl' ws' ww' wb' ml' ms' mw' mk' ∧ ((kn' = 0 ∧ kf' = 0) ∨ (P' = P ∧ (wl' = wl ∧ ws' = ws ∧ ww' = ww ∧ wb' = wb) ∧ kn' = kn ∧ kf' = kf)) := by
  have hf := s_faults sg sg C n hC (by omega) (fun _ _ => rfl)
  have same : ∀ a : Int32, ∃ r C' wl' ws' ww' wb' P' kn' kf' ml' ms' mw' mk', (some (a, nI C, wl, ws, ww, wb, nI P, kn, kf) : Option _) = some (r, nI C', wl', ws', ww', wb', nI P', kn', kf') ∧ (some (a, nI C, ml, ms, mw, mk, nI P) : Option _) = some (r, nI C', ml', ms', mw', mk', nI P') ∧ C' ≤ 50 ∧ RWk P' wl' ws' ww' wb' ml' ms' mw' mk' ∧ ((kn' = 0 ∧ kf' = 0) ∨ (P' = P ∧ (wl' = wl ∧ ws' = ws ∧ ww' = ww ∧ wb' = wb) ∧ kn' = kn ∧ kf' = kf)) := fun a =>
    ⟨a, C, wl, ws, ww, wb, P, kn, kf, ml, ms, mw, mk, rfl, rfl, hC, hW, Or.inr ⟨rfl, ⟨rfl, rfl, rfl, rfl⟩, rfl, rfl⟩⟩
  obtain ⟨hP, hag, hok⟩ := hW
  unfold f_X11_take f_X12_take f_X11_workChanged f_X2_passes f_X12_saidPasses f_X2_moveInto
  rw [hf.1, hf.2]
  simp only [Option.bind_some]
  have w := flt_WF (f := sg) (C := C) hC C 0 0 (by omega)
  by_cases h : flt sg C C 0 0 = -6
  · have hw := w.1 h
    have hc := c59_le sg C 0
    rw [h, if_pos rfl, if_pos (by decide), k1, k0, s_ps9 sg C hC C n 0 1 (by omega) (by omega), s_ps12 sg sg C hC (fun _ _ => rfl) C n 0 1 (by omega) (by omega)]
    simp only [Option.bind_some]
    rw [p_add, k12]
    by_cases h12 : P + (1 + c59 sg C 0) ≤ 12
    · rw [if_pos ((p_le (by omega) (by omega)).mpr h12), if_pos ((p_le (by omega) (by omega)).mpr h12)]
      obtain ⟨l1, s1, w1, b1, l2, s2, w2, b2, P', e1, e2, e3, e4, e5⟩ := s_takes sg sg C hC (fun _ _ => rfl) C C 0 P n n wl ws ww wb ml ms mw mk (by omega) (by omega) hw (by omega) (by omega) (by omega) hag hok
      rw [show nI 12 = (12 : Int32) from rfl, e1, e2]
      simp only [Option.bind_some]
      exact ⟨nI P', 0, l1, s1, w1, b1, P', 0, 0, l2, s2, w2, b2, rfl, rfl, by omega, ⟨e3, e4, e5⟩, Or.inl ⟨rfl, rfl⟩⟩
    · rw [if_neg (fun g => h12 ((p_le (by omega) (by omega)).mp g)), if_neg (fun g => h12 ((p_le (by omega) (by omega)).mp g))]
      exact same (-4)
  · obtain ⟨j, hj, ej⟩ := w.2.resolve_left h
    rw [if_neg h, if_neg (by rw [ej, k0, p_lt (by omega) (by omega)]; omega)]
    exact same (-5)
theorem c_strike (n P : Nat) (kn kf x : Int32) (hP : P ≤ 12) : ∃ r P' kn' kf', P' ≤ P ∧ f_X11_strike n (nI P) kn kf x = some (r, nI P', kn', kf') ∧ f_X12_strike n (nI P) x = some (r, nI P') ∧ ((kn' = 0 ∧ kf' = 0) ∨ (P' = P ∧ kn' = kn ∧ kf' = kf)) := by
  unfold f_X11_strike f_X12_strike f_X11_workChanged
  rw [i_in, Int32.toInt_toInt64]
  simp only [lt_T, le_T, show (0 : Int32).toInt = 0 from by decide, show (0 : Int64).toInt = 0 from by decide, Option.bind_some, p_T (show P < 2147483648 by omega)]
  by_cases h : 0 ≤ x.toInt ∧ x.toInt ≤ (P : Int)
  · obtain ⟨k, hk, rfl⟩ := t_in (x := x) (b := P + 1) (by omega) (by omega) (by omega)
    rw [if_neg (show ¬ (nI k).toInt < 0 by omega), if_pos h.2, if_pos h, if_neg (by decide), p_sub (by omega)]
    exact ⟨_, P - k, 0, 0, by omega, rfl, rfl, Or.inl ⟨rfl, rfl⟩⟩
  · rw [if_neg h, if_pos rfl]
    refine ⟨-2, P, kn, kf, Nat.le_refl _, ?_, rfl, Or.inr ⟨rfl, rfl, rfl⟩⟩
    by_cases h2 : x.toInt < 0
    · rw [if_pos h2]
    · rw [if_neg h2, if_neg (show ¬ x.toInt ≤ (P : Int) by omega)]
