/-! THE BEST ORDER: both searches from their beginnings. -/
def pulOk (wp : Nat → Int32) (c : Nat) : Prop := ∀ i, i < c → Bd (wp i) 500
theorem wbd_bd {set wp : Nat → Int32} {c : Nat} (h5 : 0 ≤ (set 5).toInt ∧ (set 5).toInt ≤ 100) (hp : pulOk wp c) {k num : Nat} (hk : k < 10) (hn : num < c) : Bd (wbd set wp k num) 500 := by
  unfold wbd
  have z : (100 : Int32).toInt = 100 := by decide
  have g := nn_mul h5 (show 0 ≤ (nI k).toInt ∧ (nI k).toInt ≤ 10 from by rw [nI_toInt (by omega)]; omega) (by decide)
  have e : (100 - set 5 * nI k).toInt = 100 - (set 5 * nI k).toInt := by rw [Int32.toInt_sub, z, bm _ (by omega) (by omega)]
  have hm : Bd (max0 (100 - set 5 * nI k)) 100 := by
    unfold max0
    have z0 : (0 : Int32).toInt = 0 := by decide
    split
    · rename_i h1
      rw [Int32.le_iff_toInt_le, z0] at h1
      exact ⟨by omega, by omega⟩
    · exact ⟨by decide, by decide⟩
  have hq := ((hp num hn).mul hm (by decide)).le (show (500 : Int) * 100 ≤ 100 * 500 from by decide)
  exact hq.div100 (by decide) (by decide)
theorem wbs_bd {set wl wp b : Nat → Int32} {a : Nat → Nat} {c : Nat} (hc : c ≤ 7) (h5 : 0 ≤ (set 5).toInt ∧ (set 5).toInt ≤ 100) (hp : pulOk wp c) (hw : okW wl c) (ha : pb c a) (hb : B8 b 40000) : ∀ k, k ≤ c → B8 (wbs set wl wp b a k) (40000 + 500 * (k : Int)) := by
  intro k
  induction k with
  | zero => intro _ j hj; exact (hb j hj).le (by omega)
  | succ k ih =>
    intro hk j hj
    have g := ih (by omega)
    obtain ⟨L, hL, eL⟩ := hw (a k) (ha k (by omega))
    have hv := wbd_bd (set := set) (wp := wp) (c := c) h5 hp (k := k) (num := a k) (by omega) (ha k (by omega))
    show Bd (upd (wbs set wl wp b a k) (wl (a k)).toNatClampNeg (wbs set wl wp b a k (wl (a k)).toNatClampNeg + wbd set wp k (a k)) j) _
    rw [eL, p_cl (by omega)]
    unfold upd
    split
    · exact ((g L hL).add hv (by omega)).le (by omega)
    · exact (g j hj).le (by omega)
theorem ocs_bd {set wl wp b w : Nat → Int32} {c : Nat} (hc : c ≤ 7) (h5 : 0 ≤ (set 5).toInt ∧ (set 5).toInt ≤ 100) (hp : pulOk wp c) (hw : okW wl c) (hb : B8 b 40000) (hw36 : B36 w) (p : List Nat) (ha : pb c (fun j => p.getD j 0)) : 0 ≤ (ocs set wl wp b w c p).toInt ∧ (ocs set wl wp b w c p).toInt ≤ 100000000 := by
  have g := wbs_bd (set := set) (wl := wl) (wp := wp) (b := b) (a := fun j => p.getD j 0) hc h5 hp hw ha hb c (by omega)
  have r := wor_bd (b := wbs set wl wp b (fun j => p.getD j 0) c) (w := w) (fun j hj => (g j hj).le (by omega)) hw36 36 (by omega)
  unfold ocs
  omega
theorem rng_getD (c j : Nat) (hj : j < c) : (List.range c).getD j 0 = j := by
  rw [List.getD_eq_getElem?_getD, List.getElem?_range hj]
  rfl
theorem pb_rng (c : Nat) : pb c (fun j => (List.range c).getD j 0) := by
  intro j hj
  show (List.range c).getD j 0 < c
  rw [rng_getD c j hj]
  exact hj
theorem hl2_rng (c : Nat) (hc : c ≤ 7) (A : Nat → Int32) (h : ∀ j, j < c → A j = nI j) : hl2 c A A (fun j => (List.range c).getD j 0) := by
  refine ⟨fun j hj => ?_, fun _ _ => rfl⟩
  show A j = nI ((List.range c).getD j 0) ∧ (List.range c).getD j 0 < 1000
  rw [rng_getD c j hj]
  exact ⟨h j hj, by omega⟩
/-- the first order of all -/
def ordr (c : Nat) (cost : List Nat → Int32) : Option (List Nat) := osr c cost 5040 (List.range c) none
theorem s_init9 (set wl wp bent sb sl hung best ta tb tal tl : Nat → Int32) (bw kn : Int32) (c : Nat) (hc : c ≤ 7) : ∀ (r n k : Nat) (A : Nat → Int32), k + r = c → r + 1 ≤ n → (∀ j, j < k → A j = nI j) → ∃ m' A', n ≤ m' + r + 1 ∧ f_X9_findBest_8 wl wp (nI c) sb sl hung set n best bw kn A bent tb tl ta tal (nI k) = f_X9_findBest_39 wl wp (nI c) sb sl hung set m' best bw kn A' bent tb tl ta tal 2000000000 (nI 0) ∧ (∀ j, j < c → A' j = nI j) := by
  intro r
  induction r with
  | zero =>
    intro n k A hk hn hA
    obtain ⟨m, rfl⟩ : ∃ m, n = m + 1 := ⟨n - 1, by omega⟩
    obtain rfl : k = c := by omega
    refine ⟨m, A, by omega, ?_, hA⟩
    show f_X9_findBest_8b wl wp (nI k) sb sl hung set _ m best bw kn A bent tb tl ta tal (nI k) = _
    unfold f_X9_findBest_8b
    rw [if_pos (Int32.le_refl _)]
    rfl
  | succ r ih =>
    intro n k A hk hn hA
    obtain ⟨m, rfl⟩ : ∃ m, n = m + 1 := ⟨n - 1, by omega⟩
    have e : f_X9_findBest_8 wl wp (nI c) sb sl hung set (m + 1) best bw kn A bent tb tl ta tal (nI k) = f_X9_findBest_8 wl wp (nI c) sb sl hung set m best bw kn (upd A k (nI k)) bent tb tl ta tal (nI (k + 1)) := by
      show f_X9_findBest_8b wl wp (nI c) sb sl hung set (f_X9_findBest_8 wl wp (nI c) sb sl hung set m) m best bw kn A bent tb tl ta tal (nI k) = _
      unfold f_X9_findBest_8b
      rw [if_neg (by rw [p_le (by omega) (by omega)]; omega), p_vin (by omega) (by omega), p_cl (by omega), p_1]
      rfl
    rw [e]
    obtain ⟨m', A', h1, h2, h3⟩ := ih m (k + 1) (upd A k (nI k)) (by omega) (by omega) (fun j hj => by
      by_cases h : j = k
      · subst h
        exact pk_us
      · rw [pk_un h]
        exact hA j (by omega))
    exact ⟨m', A', by omega, h2, h3⟩
theorem s_findBest (set wl wp bent sb sl hung w b best A tb tl ta tal : Nat → Int32) (bw kn : Int32) (c n : Nat) (hc : c ≤ 7) (hn : 6000 ≤ n) (h5 : 0 ≤ (set 5).toInt ∧ (set 5).toInt ≤ 100) (hp : pulOk wp c) (hw : okW wl c) (hh : ∀ d, d < 36 → hung d = hw36 w d) (hb : eq8 sb b) (hB : B8 b 40000) (hW : B36 w) :
    ∃ best' bw' A' bent' tb' tl' ta' tal' x, f_X9_findBest n wl wp best (nI c) bw kn A bent tb tl ta tal sb sl hung set = some (best', bw', 1, A', bent', tb', tl', ta', tal') ∧ ordr c (ocs set wl wp b w c) = some x ∧ kpt c (ocs set wl wp b w c) (some x) best' bw' := by
  obtain ⟨bent', e1, hbt⟩ := s_findBent set wp bent c n hc (by omega)
  obtain ⟨m', A', h1, h2, h3⟩ := s_init9 set wl wp bent' sb sl hung best ta tb tal tl bw kn c hc c n 0 A (by omega) (by omega) (fun j hj => by omega)
  obtain ⟨best2, bw2, A2, tb2, tl2, ta2, tal2, x, e3, e4, e5⟩ := s_best9 set wl wp bent' sb sl hung w b c hc hw hbt hh hb (fun p hpp => ocs_bd hc h5 hp hw hB hW p hpp) A' kn 5040 m' 0 (List.range c) none best A' tb tl ta tal bw (by omega) (by omega) (ends c hc) (hl2_rng c hc A' h3) (pb_rng c) (fun x hx => by cases hx)
  refine ⟨best2, bw2, A2, bent', tb2, tl2, ta2, tal2, x, ?_, e4, e5⟩
  unfold f_X9_findBest
  rw [e1]
  simp only [Option.bind_some]
  exact h2.trans e3
theorem s_init12 (line str wat bak tab set w wl wp bends best : Nat → Int32) (ps v1 : Int32) (c : Nat) (hc : c ≤ 7) : ∀ (r n k : Nat) (A : Nat → Int32), k + r = c → r + 1 ≤ n → (∀ j, j < k → A j = nI j) → ∃ m' A', n ≤ m' + r + 1 ∧ f_X12_order_2 line str wat bak ps tab set w wl wp (nI c) n bends A best v1 (nI k) = f_X12_order_28 line str wat bak ps tab set w wl wp (nI c) m' bends A' best v1 2000000000 1 ∧ (∀ j, j < c → A' j = nI j) := by
  intro r
  induction r with
  | zero =>
    intro n k A hk hn hA
    obtain ⟨m, rfl⟩ : ∃ m, n = m + 1 := ⟨n - 1, by omega⟩
    obtain rfl : k = c := by omega
    refine ⟨m, A, by omega, ?_, hA⟩
    show f_X12_order_2b line str wat bak ps tab set w wl wp (nI k) _ m bends A best v1 (nI k) = _
    unfold f_X12_order_2b
    rw [if_pos (Int32.le_refl _)]
  | succ r ih =>
    intro n k A hk hn hA
    obtain ⟨m, rfl⟩ : ∃ m, n = m + 1 := ⟨n - 1, by omega⟩
    have e : f_X12_order_2 line str wat bak ps tab set w wl wp (nI c) (m + 1) bends A best v1 (nI k) = f_X12_order_2 line str wat bak ps tab set w wl wp (nI c) m bends (upd A k (nI k)) best v1 (nI (k + 1)) := by
      show f_X12_order_2b line str wat bak ps tab set w wl wp (nI c) (f_X12_order_2 line str wat bak ps tab set w wl wp (nI c) m) m bends A best v1 (nI k) = _
      unfold f_X12_order_2b
      rw [if_neg (by rw [p_le (by omega) (by omega)]; omega), p_vin (by omega) (by omega), p_cl (by omega), p_1]
      rfl
    rw [e]
    obtain ⟨m', A', h1, h2, h3⟩ := ih m (k + 1) (upd A k (nI k)) (by omega) (by omega) (fun j hj => by
      by_cases h : j = k
      · subst h
        exact pk_us
      · rw [pk_un h]
        exact hA j (by omega))
    exact ⟨m', A', by omega, h2, h3⟩
theorem s_order12 (line str wat bak tab set w wl wp b bends A best : Nat → Int32) (v1 : Int32) (P c n : Nat) (hP : P ≤ 12) (hc : c ≤ 7) (hn : 110000 ≤ n) (h5 : 0 ≤ (set 5).toInt ∧ (set 5).toInt ≤ 100) (hp : pulOk wp c) (hok : ∀ i, i < P → okP line str wat bak i) (hw : okW wl c) (hb : eq8 (sh tab set (lst line str wat bak P)).1 b) (hB : B8 b 40000) (hW : B36 w) :
    ∃ b' A' best' x, ordr c (ocs set wl wp b w c) = some x ∧ pb c (fun j => x.getD j 0) ∧ f_X12_order n line str wat bak (nI P) tab set bends w wl wp (nI c) A best v1 = some ((if v1 = -1 then ocs set wl wp b w c x else if 0 ≤ v1.toInt ∧ v1.toInt < c then nI (x.getD v1.toNatClampNeg 0) else -6), b', A', best') := by
  obtain ⟨m', A', h1, h2, h3⟩ := s_init12 line str wat bak tab set w wl wp bends best (nI P) v1 c hc c n 0 A (by omega) (by omega) (fun j hj => by omega)
  obtain ⟨m2, best2, A2, b2, x, hm2, e3, e4, e5, e6⟩ := s_best12 line str wat bak tab set w wl wp b P c hP hc hok hw hb (fun p hpp => ocs_bd hc h5 hp hw hB hW p hpp) A' v1 5040 m' (List.range c) none best A' bends (by omega) (ends c hc) (hl2_rng c hc A' h3) (pb_rng c) (fun x hx => by cases hx)
  refine ⟨b2, A2, best2, x, e4, e6, ?_⟩
  have e0 : f_X12_order n line str wat bak (nI P) tab set bends w wl wp (nI c) A best v1 = f_X12_order_28 line str wat bak (nI P) tab set w wl wp (nI c) m2 b2 A2 best2 v1 (ocs set wl wp b w c x) 0 := by
    unfold f_X12_order
    exact h2.trans e3
  rw [e0]
  obtain ⟨m, rfl⟩ : ∃ m, m2 = m + 1 := ⟨m2 - 1, by omega⟩
  show f_X12_order_28b line str wat bak (nI P) tab set w wl wp (nI c) _ m b2 A2 best2 v1 _ 0 = _
  unfold f_X12_order_28b
  rw [if_pos rfl, s_in]
  by_cases hv : v1 = -1
  · rw [if_pos hv, if_pos hv]
  · rw [if_neg hv, if_neg hv]
    simp only [Option.bind_some]
    have z0 : (0 : Int64).toInt = 0 := by decide
    have e7 : ((nI c - 1).toInt64).toInt = (c : Int) - 1 := by
      have z1 : (1 : Int32).toInt = 1 := by decide
      rw [Int32.toInt_toInt64, Int32.toInt_sub, nI_toInt (by omega), z1, bm _ (by omega) (by omega)]
    rw [z0, e7, Int32.toInt_toInt64]
    by_cases hr : 0 ≤ v1.toInt ∧ v1.toInt < c
    · rw [if_pos (show 0 ≤ v1.toInt ∧ v1.toInt ≤ (c : Int) - 1 from by omega), if_pos hr, if_neg (by decide)]
      have hvi : vin v1 7 = true := vin_of (vp_in_iff.mpr (by omega))
      have hcl : v1.toNatClampNeg < c := by
        show v1.toInt.toNat < c
        omega
      rw [hvi, grd_t, e5 _ hcl]
    · rw [if_neg (show ¬ (0 ≤ v1.toInt ∧ v1.toInt ≤ (c : Int) - 1) from by omega), if_neg hr, if_pos rfl]
