/-! THE BEST ORDER: costs of the class. -/
theorem wbs_eq8 (set wl wp b b' : Nat → Int32) (a : Nat → Nat) (c : Nat) (hw : okW wl c) (ha : pb c a) (h : eq8 b b') : ∀ k, k ≤ c → eq8 (wbs set wl wp b a k) (wbs set wl wp b' a k) := by
  intro k
  induction k with
  | zero => intro _; exact h
  | succ k ih =>
    intro hk
    have g := ih (by omega)
    obtain ⟨L, hL, eL⟩ := hw (a k) (ha k (by omega))
    show eq8 (upd (wbs set wl wp b a k) (wl (a k)).toNatClampNeg (wbs set wl wp b a k (wl (a k)).toNatClampNeg + wbd set wp k (a k))) (upd (wbs set wl wp b' a k) (wl (a k)).toNatClampNeg (wbs set wl wp b' a k (wl (a k)).toNatClampNeg + wbd set wp k (a k)))
    rw [eL, p_cl (by omega)]
    exact upd_eq8 g L (by rw [g L hL])
theorem wbs_congr (set wl wp b : Nat → Int32) (a a' : Nat → Nat) (c : Nat) (h : ∀ j, j < c → a j = a' j) : ∀ k, k ≤ c → wbs set wl wp b a k = wbs set wl wp b a' k := by
  intro k
  induction k with
  | zero => intro _; rfl
  | succ k ih =>
    intro hk
    show upd (wbs set wl wp b a k) (wl (a k)).toNatClampNeg (wbs set wl wp b a k (wl (a k)).toNatClampNeg + wbd set wp k (a k)) = upd (wbs set wl wp b a' k) (wl (a' k)).toNatClampNeg (wbs set wl wp b a' k (wl (a' k)).toNatClampNeg + wbd set wp k (a' k))
    rw [ih (by omega), h k (by omega)]
theorem s_wb9_loop (set wl wp bent sb sl hung B tl w : Nat → Int32) (c : Nat) (hc : c ≤ 7) (hw : okW wl c) (A : Nat → Int32) (a : Nat → Nat) (hA : hld c A a) (ha : pb c a) (hbt : bentOk set wp bent c c) (hh : ∀ d, d < 36 → hung d = hw36 w d) (ta tal : Nat → Int32) (lim : Int32) : ∀ (r n k : Nat), k + r = c → r + 60 ≤ n →
    ∃ x, f_X9_worstBehind_11 wl (nI c) A bent sb sl hung n (wbs set wl wp B a k) tl ta tal lim (nI k) = some (x, wbs set wl wp B a c, tl, hpa (wbs set wl wp B a c) 0 ta, hpa (wbs set wl wp B a c) 4 tal) ∧ wwOk (wbs set wl wp B a c) w lim x := by
  intro r
  induction r with
  | zero =>
    intro n k hk hn
    obtain ⟨m, rfl⟩ : ∃ m, n = m + 1 := ⟨n - 1, by omega⟩
    obtain rfl : k = c := by omega
    obtain ⟨x, hx, hok⟩ := s_ww (wbs set wl wp B a k) w hung ta tal m (by omega) hh lim
    refine ⟨x, ?_, hok⟩
    show f_X9_worstBehind_11b wl (nI k) A bent sb sl hung _ m _ tl ta tal lim (nI k) = _
    unfold f_X9_worstBehind_11b
    rw [if_pos (Int32.le_refl _), hx]
    rfl
  | succ r ih =>
    intro n k hk hn
    obtain ⟨m, rfl⟩ : ∃ m, n = m + 1 := ⟨n - 1, by omega⟩
    have h := ih m (k + 1) (by omega) (by omega)
    obtain ⟨L, hL, eL⟩ := hw (a k) (ha k (by omega))
    have hak := ha k (by omega)
    have hb := hbt k (by omega) (a k) hak
    rw [show wbs set wl wp B a (k + 1) = upd (wbs set wl wp B a k) (wl (a k)).toNatClampNeg (wbs set wl wp B a k (wl (a k)).toNatClampNeg + wbd set wp k (a k)) from rfl] at h
    have e : f_X9_worstBehind_11 wl (nI c) A bent sb sl hung (m + 1) (wbs set wl wp B a k) tl ta tal lim (nI k) = f_X9_worstBehind_11 wl (nI c) A bent sb sl hung m (upd (wbs set wl wp B a k) (wl (a k)).toNatClampNeg (wbs set wl wp B a k (wl (a k)).toNatClampNeg + wbd set wp k (a k))) tl ta tal lim (nI (k + 1)) := by
      show f_X9_worstBehind_11b wl (nI c) A bent sb sl hung (f_X9_worstBehind_11 wl (nI c) A bent sb sl hung m) m _ tl ta tal lim (nI k) = _
      unfold f_X9_worstBehind_11b
      simp only [nmd]
      rw [if_neg (by rw [p_le (by omega) (by omega)]; omega), p_vin (by omega) (by omega), p_cl (by omega), (hA k (by omega)).1, p_vin (by omega) (by omega), p_cl (by omega), eL, p_vin (by omega) (by omega), p_cl (by omega), k7, p_mul, p_add, p_vin (by omega) (by omega), p_cl (by omega), hb, p_1]
      rfl
    rw [e]
    exact h
/-- the cost of an order, told as a list -/
def ocs (set wl wp b w : Nat → Int32) (c : Nat) (p : List Nat) : Int32 := wor (wbs set wl wp b (fun j => p.getD j 0) c) w 36
theorem s_wb9 (set wl wp bent sb sl hung tb tl w b : Nat → Int32) (c n : Nat) (hc : c ≤ 7) (hn : 100 ≤ n) (hw : okW wl c) (A : Nat → Int32) (p : List Nat) (hA : hld c A (fun j => p.getD j 0)) (ha : pb c (fun j => p.getD j 0)) (hbt : bentOk set wp bent c c) (hh : ∀ d, d < 36 → hung d = hw36 w d) (hb : eq8 sb b) (ta tal : Nat → Int32) (lim : Int32) :
    ∃ x tb' tl' ta' tal', f_X9_worstBehind n wl (nI c) A bent tb tl ta tal sb sl hung lim = some (x, tb', tl', ta', tal') ∧ (lim < x ↔ lim < ocs set wl wp b w c p) ∧ (¬ lim < x → x = ocs set wl wp b w c p) := by
  obtain ⟨x, hx, hok⟩ := s_wb9_loop set wl wp bent sb sl hung (va_cpy sb tb 0 0 (8 : Int32).toNatClampNeg) (va_cpy sl tl 0 0 (8 : Int32).toNatClampNeg) w c hc hw A _ hA ha hbt hh ta tal lim c n 0 (by omega) (by omega)
  have hE := wbs_eq8 set wl wp _ b _ c hw ha ((cpy_eq8 sb tb).tr hb) c (by omega)
  have hcg := wor_congr hE (fun _ _ => rfl : eq36 w w) 36 (by omega)
  obtain ⟨i1, i2⟩ := ww_iff hok
  rw [hcg] at i1 i2
  have e0 : f_X9_worstBehind n wl (nI c) A bent tb tl ta tal sb sl hung lim = f_X9_worstBehind_11 wl (nI c) A bent sb sl hung n (va_cpy sb tb 0 0 (8 : Int32).toNatClampNeg) (va_cpy sl tl 0 0 (8 : Int32).toNatClampNeg) ta tal lim (nI 0) := by
    unfold f_X9_worstBehind f_X6_becomeLike
    rfl
  exact ⟨x, _, _, _, _, e0.trans hx, i1, i2⟩
/-- the cost of an order by the model -/
theorem s_wbo (line str wat bak tab set w wl wp b0 b : Nat → Int32) (P c n : Nat) (hP : P ≤ 40) (hc : c ≤ 7) (hn : 400 ≤ n) (hok : ∀ i, i < P → okP line str wat bak i) (hw : okW wl c) (A : Nat → Int32) (p : List Nat) (hA : hld c A (fun j => p.getD j 0)) (ha : pb c (fun j => p.getD j 0)) (hb : eq8 (sh tab set (lst line str wat bak P)).1 b) :
    ∃ b', f_X12_worstByOrder n line str wat bak (nI P) tab set b0 w wl wp (nI c) A = some (ocs set wl wp b w c p, b') := by
  have h := s_wbo_loop line str wat bak tab set w wl wp (nI P) c hc hw A _ hA ha (mbends line str wat bak tab set (zer8 b0 8) P) c n 0 (by omega) (by omega)
  have h8 := (mb_sh line str wat bak tab set (zer8 b0 8) (fun _ => 0) (zer8_eq8 b0) (eq8.rf _) P hok).1
  have hE := wbs_eq8 set wl wp _ b _ c hw ha (eq8.tr h8 hb) c (by omega)
  have hcg := wor_congr hE (fun _ _ => rfl : eq36 w w) 36 (by omega)
  rw [hcg] at h
  have e0 : f_X12_worstByOrder n line str wat bak (nI P) tab set b0 w wl wp (nI c) A = f_X12_worstByOrder_10 line str wat bak (nI P) tab set w wl wp (nI c) A n (mbends line str wat bak tab set (zer8 b0 8) P) (nI 0) := by
    unfold f_X12_worstByOrder
    rw [s_bends line str wat bak tab set b0 P n hP (by omega) (fun i hi => okP_idx (hok i hi)) (fun i hi => okP_line (hok i hi))]
    rfl
  exact ⟨_, e0.trans h⟩
