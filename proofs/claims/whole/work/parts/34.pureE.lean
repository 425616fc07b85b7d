/-! WELDS: what an order comes to. -/
def wbd (set wp : Nat → Int32) (k num : Nat) : Int32 := wp num * max0 (100 - set 5 * nI k) / 100
def wbs (set wl wp b : Nat → Int32) (a : Nat → Nat) : Nat → Nat → Int32
  | 0 => b
  | k + 1 => upd (wbs set wl wp b a k) (wl (a k)).toNatClampNeg (wbs set wl wp b a k (wl (a k)).toNatClampNeg + wbd set wp k (a k))
/-- an order: all its numbers are below c -/
def pb (c : Nat) (a : Nat → Nat) : Prop := ∀ j, j < c → a j < c
theorem pb_swp {c : Nat} {a : Nat → Nat} (h : pb c a) {i j : Nat} (hi : i < c) (hj : j < c) : pb c (swp a i j) := by
  intro k hk
  unfold swp
  split
  · exact h i hi
  · split
    · exact h j hj
    · exact h k hk
theorem pb_rvs {c : Nat} : ∀ (f lo hi : Nat) (a : Nat → Nat), hi < c → pb c a → pb c (rvs a f lo hi) := by
  intro f
  induction f with
  | zero => intro lo hi a _ h; exact h
  | succ f ih =>
    intro lo hi a hh h
    show pb c (if hi ≤ lo then a else rvs (swp a lo hi) f (lo + 1) (hi - 1))
    split
    · exact h
    · exact ih _ _ _ (by omega) (pb_swp h (by omega) hh)
theorem pb_nxt {c : Nat} {a a' : Nat → Nat} (h : pb c a) (e : nxt c a = some a') : pb c a' := by
  unfold nxt at e
  cases hf : fat a (c - 1) with
  | none => rw [hf] at e; cases e
  | some t =>
    rw [hf] at e
    have e2 := Option.some.inj e
    rw [← e2]
    obtain ⟨h1, -⟩ := fat_ok a (c - 1) t hf
    have h2 := fwi_rng a t (c - 1) h1
    exact pb_rvs 8 _ _ _ (by omega) (pb_swp h (by omega) (by omega))
def okW (wl : Nat → Int32) (c : Nat) : Prop := ∀ i, i < c → ∃ L, L < 8 ∧ wl i = nI L
theorem s_wbo_loop (l0 s0 w0 b0 tab set w wl wp : Nat → Int32) (ps : Int32) (c : Nat) (hc : c ≤ 7) (hw : okW wl c) (A : Nat → Int32) (a : Nat → Nat) (hA : hld c A a) (ha : pb c a) (b : Nat → Int32) : ∀ (r n k : Nat), k + r = c → r + 60 ≤ n → f_X12_worstByOrder_10 l0 s0 w0 b0 ps tab set w wl wp (nI c) A n (wbs set wl wp b a k) (nI k) = some (wor (wbs set wl wp b a c) w 36, wbs set wl wp b a c) := by
  intro r
  induction r with
  | zero =>
    intro n k hk hn
    obtain ⟨m, rfl⟩ : ∃ m, n = m + 1 := ⟨n - 1, by omega⟩
    obtain rfl : k = c := by omega
    show f_X12_worstByOrder_10b l0 s0 w0 b0 ps tab set w wl wp (nI k) A _ m _ (nI k) = _
    unfold f_X12_worstByOrder_10b
    rw [if_pos (Int32.le_refl _), s_worst _ w m (by omega)]
    rfl
  | succ r ih =>
    intro n k hk hn
    obtain ⟨m, rfl⟩ : ∃ m, n = m + 1 := ⟨n - 1, by omega⟩
    have h := ih m (k + 1) (by omega) (by omega)
    obtain ⟨L, hL, eL⟩ := hw (a k) (ha k (by omega))
    have hak := ha k (by omega)
    rw [show wbs set wl wp b a (k + 1) = upd (wbs set wl wp b a k) (wl (a k)).toNatClampNeg (wbs set wl wp b a k (wl (a k)).toNatClampNeg + wp (a k) * max0 (100 - set 5 * nI k) / 100) from rfl] at h
    show f_X12_worstByOrder_10b l0 s0 w0 b0 ps tab set w wl wp (nI c) A (f_X12_worstByOrder_10 l0 s0 w0 b0 ps tab set w wl wp (nI c) A m) m _ (nI k) = _
    unfold f_X12_worstByOrder_10b
    have e5 : (5 : Int32).toNatClampNeg = 5 := by decide
    rw [if_neg (by rw [p_le (by omega) (by omega)]; omega), p_vin (by omega) (by omega), p_cl (by omega), (hA k (by omega)).1, p_vin (by omega) (by omega), p_cl (by omega), e5, eL, p_vin (by omega) (by omega), p_cl (by omega), p_1]
    rw [eL, p_cl (by omega)] at h
    simp only [grd_t, nmd]
    unfold max0 at h
    by_cases hp : 0 ≤ 100 - set 5 * nI k
    · rw [if_pos hp] at h ⊢
      exact h
    · rw [if_neg hp] at h ⊢
      exact h
/-- what the class keeps of every WELD at every place -/
def bentOk (set wp bent : Nat → Int32) (c k : Nat) : Prop := ∀ i, i < k → ∀ num, num < c → bent (num * 7 + i) = wbd set wp i num
theorem s_fb_in (set wp : Nat → Int32) (c k : Nat) (hc : c ≤ 7) (hk : k < c) (k2 : (Nat → Int32) → Int32 → Option (Nat → Int32)) : ∀ (r n j : Nat) (bent : Nat → Int32), j + r = c → r + 1 ≤ n → bentOk set wp bent c k → (∀ num, num < j → bent (num * 7 + k) = wbd set wp k num) → ∃ bent', f_X9_findBent_29 wp (nI c) set k2 n bent (nI k) (max0 (100 - set 5 * nI k)) (nI j) = k2 bent' (nI (k + 1)) ∧ bentOk set wp bent' c (k + 1) := by
  intro r
  induction r with
  | zero =>
    intro n j bent hj hn hb hl
    obtain ⟨m, rfl⟩ : ∃ m, n = m + 1 := ⟨n - 1, by omega⟩
    obtain rfl : j = c := by omega
    refine ⟨bent, ?_, ?_⟩
    · show f_X9_findBent_29b wp (nI j) set k2 _ m bent (nI k) _ (nI j) = _
      unfold f_X9_findBent_29b
      rw [if_pos (Int32.le_refl _), p_1]
    · intro i hi num hn2
      by_cases h : i = k
      · subst h
        exact hl num hn2
      · exact hb i (by omega) num hn2
  | succ r ih =>
    intro n j bent hj hn hb hl
    obtain ⟨m, rfl⟩ : ∃ m, n = m + 1 := ⟨n - 1, by omega⟩
    have e : f_X9_findBent_29 wp (nI c) set k2 (m + 1) bent (nI k) (max0 (100 - set 5 * nI k)) (nI j) = f_X9_findBent_29 wp (nI c) set k2 m (upd bent (j * 7 + k) (wbd set wp k j)) (nI k) (max0 (100 - set 5 * nI k)) (nI (j + 1)) := by
      show f_X9_findBent_29b wp (nI c) set k2 (f_X9_findBent_29 wp (nI c) set k2 m) m bent (nI k) _ (nI j) = _
      unfold f_X9_findBent_29b
      rw [if_neg (by rw [p_le (by omega) (by omega)]; omega), p_vin (by omega) (by omega), k7, p_mul, p_add, p_vin (by omega) (by omega), p_cl (by omega), p_cl (by omega), p_1]
      rfl
    rw [e]
    refine ih m (j + 1) _ (by omega) (by omega) (fun i hi num hn2 => ?_) (fun num hn2 => ?_)
    · rw [pk_un (by omega)]
      exact hb i hi num hn2
    · by_cases h : num = j
      · subst h
        exact pk_us
      · rw [pk_un (by omega)]
        exact hl num (by omega)
theorem s_fb_out (set wp : Nat → Int32) (c : Nat) (hc : c ≤ 7) : ∀ (r n k : Nat) (bent : Nat → Int32), k + r = c → r + 10 ≤ n → bentOk set wp bent c k → ∃ bent', f_X9_findBent_2 wp (nI c) set n bent (nI k) = some bent' ∧ bentOk set wp bent' c c := by
  intro r
  induction r with
  | zero =>
    intro n k bent hk hn hb
    obtain ⟨m, rfl⟩ : ∃ m, n = m + 1 := ⟨n - 1, by omega⟩
    obtain rfl : k = c := by omega
    refine ⟨bent, ?_, hb⟩
    show f_X9_findBent_2b wp (nI k) set _ m bent (nI k) = _
    unfold f_X9_findBent_2b
    rw [if_pos (Int32.le_refl _)]
  | succ r ih =>
    intro n k bent hk hn hb
    obtain ⟨m, rfl⟩ : ∃ m, n = m + 1 := ⟨n - 1, by omega⟩
    have e5 : (5 : Int32).toNatClampNeg = 5 := by decide
    have e : f_X9_findBent_2 wp (nI c) set (m + 1) bent (nI k) = f_X9_findBent_29 wp (nI c) set (f_X9_findBent_2 wp (nI c) set m) m bent (nI k) (max0 (100 - set 5 * nI k)) (nI 0) := by
      show f_X9_findBent_2b wp (nI c) set (f_X9_findBent_2 wp (nI c) set m) m bent (nI k) = _
      unfold f_X9_findBent_2b nmd
      rw [if_neg (by rw [p_le (by omega) (by omega)]; omega), e5, max0_j]
      rfl
    rw [e]
    obtain ⟨b2, e2, h2⟩ := s_fb_in set wp c k hc (by omega) (f_X9_findBent_2 wp (nI c) set m) c m 0 bent (by omega) (by omega) hb (fun num h => by omega)
    rw [e2]
    exact ih m (k + 1) b2 (by omega) (by omega) h2
theorem s_findBent (set wp bent : Nat → Int32) (c n : Nat) (hc : c ≤ 7) (hn : 30 ≤ n) : ∃ bent', f_X9_findBent n wp (nI c) bent set = some bent' ∧ bentOk set wp bent' c c := s_fb_out set wp c hc c n 0 bent (by omega) (by omega) (fun i hi => by omega)
