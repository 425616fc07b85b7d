/-! The calls pass to height. -/
theorem c_shapes (n P : Nat) (set num tab wl ws ww wb ml ms mw mk sb sl : Nat → Int32) (hn : 900000 ≤ n) (hW : RWk P wl ws ww wb ml ms mw mk) (hT : RTb set num tab) :
    ∃ b1 l1, f_X11_shapeOfWork n set num wl ws ww wb (nI P) sb sl = some (b1, l1) ∧ eqS (b1, l1) (sh tab set (lst wl ws ww wb P)) ∧ (∀ L, L < 8 → l1 L = nI (cntL wl L P)) := by
  obtain ⟨hP, hag, hok⟩ := hW
  have h := s_becomeOf sb sl set num tab wl ws ww wb 12 P n hP (by omega) (by omega) hok hT.1
  refine ⟨_, _, ?_, mb_sh wl ws ww wb tab set (zer8 sb 8) (zer8 sl 8) (zer8_eq8 sb) (zer8_eq8 sl) P hok, fun L hL => mlaid_cnt wl (zer8 sl 8) (zer8_eq8 sl) hL P (fun i hi => (hok i hi).1)⟩
  unfold f_X11_shapeOfWork
  rw [h]
  rfl
theorem c_bends (n P : Nat) (set num tab wl ws ww wb ml ms mw mk mb : Nat → Int32) (hn : 900000 ≤ n) (hW : RWk P wl ws ww wb ml ms mw mk) (hT : RTb set num tab) :
    ∃ b2, f_X12_findBends n ml ms mw mk tab set mb (nI P) = some b2 ∧ eq8 b2 (sh tab set (lst wl ws ww wb P)).1 := by
  obtain ⟨hP, hag, hok⟩ := hW
  have hok2 := okP_of_ag hag hok
  have h := s_bends ml ms mw mk tab set mb P n (by omega) (by omega) (fun i hi => okP_idx (hok2 i hi)) (fun i hi => okP_line (hok2 i hi))
  have e : lst wl ws ww wb P = lst ml ms mw mk P := lst_congr P hag
  rw [e]
  exact ⟨_, h, (mb_sh ml ms mw mk tab set (zer8 mb 8) (zer8 mb 8) (zer8_eq8 mb) (zer8_eq8 mb) P hok2).1⟩
theorem lst_ok {line str wat bak : Nat → Int32} : ∀ k, (∀ i, i < k → okP line str wat bak i) → (lst line str wat bak k).length = k ∧ ∀ p ∈ lst line str wat bak k, okQ p := by
  intro k
  induction k with
  | zero => intro _; exact ⟨rfl, fun p hp => absurd hp List.not_mem_nil⟩
  | succ k ih =>
    intro h
    have i := ih (fun i hi => h i (by omega))
    show (lst line str wat bak k ++ [(line k, str k, wat k, bak k)]).length = k + 1 ∧ ∀ p ∈ lst line str wat bak k ++ [(line k, str k, wat k, bak k)], okQ p
    refine ⟨by rw [List.length_append, i.1]; rfl, fun p hp => ?_⟩
    rcases List.mem_append.mp hp with h1 | h1
    · exact i.2 p h1
    · rw [List.mem_singleton.mp h1]
      exact h k (by omega)
theorem sh_B8 {P : Nat} {set num tab wl ws ww wb ml ms mw mk : Nat → Int32} (hW : RWk P wl ws ww wb ml ms mw mk) (hT : RTb set num tab) : B8 (sh tab set (lst wl ws ww wb P)).1 12000 := by
  obtain ⟨hP, hag, hok⟩ := hW
  have lk := lst_ok P hok
  have h := (sh_bd hT.2.1 hT.2.2.1 (lst wl ws ww wb P) sh0 0 (by omega) (fun j _ => (show -(1000 * ((0 : Nat) : Int)) ≤ (0 : Int32).toInt ∧ (0 : Int32).toInt ≤ 1000 * ((0 : Nat) : Int) from by decide)) (fun j _ => (show 0 ≤ (0 : Int32).toInt ∧ (0 : Int32).toInt ≤ ((0 : Nat) : Int) from by decide)) lk.2).1
  exact fun j hj => (h j hj).le (by omega)
theorem c_bend (n P : Nat) (set num tab wl ws ww wb ml ms mw mk sb sl mb : Nat → Int32) (x : Int32) (hn : 900000 ≤ n) (hW : RWk P wl ws ww wb ml ms mw mk) (hT : RTb set num tab) :
    ∃ r b1 l1 b2, f_X11_bend n set num wl ws ww wb (nI P) sb sl x = some (r, b1, l1) ∧ f_X12_bend n ml ms mw mk (nI P) tab set mb x = some (r, b2) := by
  unfold f_X11_bend f_X12_bend
  rw [i_noLine, i_line]
  simp only [Option.bind_some]
  by_cases h : 0 ≤ x.toInt ∧ x.toInt ≤ 7
  · obtain ⟨k, hk, rfl⟩ := t_in (x := x) (b := 8) (by omega) (by omega) (by omega)
    obtain ⟨b1, l1, e1, e2, -⟩ := c_shapes n P set num tab wl ws ww wb ml ms mw mk sb sl hn hW hT
    obtain ⟨b2, e3, e4⟩ := c_bends n P set num tab wl ws ww wb ml ms mw mk mb hn hW hT
    rw [if_pos h, if_pos h, if_pos rfl, if_neg (by decide), e1, e3]
    simp only [Option.bind_some]
    have q1 : b1 k = _ := e2.1 k hk
    rw [p_vin hk (by omega), p_cl (by omega), grd_t, grd_t, q1, e4 k hk]
    exact ⟨_, b1, l1, b2, rfl, rfl⟩
  · rw [if_neg h, if_neg h, if_neg (by decide), if_pos rfl]
    exact ⟨_, sb, sl, mb, rfl, rfl⟩
theorem s_h9_step (b : Nat → Int32) (n x y k : Nat) (acc : Int32) (hx : x < 6) (hy : y < 6) (hk : k < 4) : f_X6_heightAt_16 b (n + 1) (nI x) (nI y) acc (nI k) = f_X6_heightAt_16 b n (nI x) (nI y) (acc + b k * nI (x - (k + 1)) + b (4 + k) * nI (y - (k + 1))) (nI (k + 1)) := by
  have mx : ∀ z : Nat, z < 6 → jmax (nI z - nI (k + 1)) 0 = nI (z - (k + 1)) := by
    intro z hz
    have : ∀ z, z < 6 → ∀ k, k < 4 → jmax (nI z - nI (k + 1)) 0 = nI (z - (k + 1)) := by decide +kernel
    exact this z hz k hk
  show f_X6_heightAt_16b b (f_X6_heightAt_16 b n) n (nI x) (nI y) acc (nI k) = _
  unfold f_X6_heightAt_16b
  simp only [nmd]
  rw [k4, if_neg (by rw [p_le (by omega) (by omega)]; omega), p_1, p_add, p_vin (show k < 8 by omega) (by omega), p_vin (show 4 + k < 8 by omega) (by omega), p_cl (by omega), p_cl (by omega), mx x hx, mx y hy]
  rfl
theorem ac8 (a e b f c g d h : Int32) : a + e + b + f + c + g + d + h = (a + b + c + d) + (e + f + g + h) := by grind
theorem s_h9x (b : Nat → Int32) (m x y : Nat) (hx : x < 6) (hy : y < 6) : f_X6_heightAt_16 b (m + 5) (nI x) (nI y) (nI 0) (nI 0) = some (nI 0 + b 0 * nI (x - (0 + 1)) + b (4 + 0) * nI (y - (0 + 1)) + b 1 * nI (x - (1 + 1)) + b (4 + 1) * nI (y - (1 + 1)) + b 2 * nI (x - (2 + 1)) + b (4 + 2) * nI (y - (2 + 1)) + b 3 * nI (x - (3 + 1)) + b (4 + 3) * nI (y - (3 + 1))) := by
  rw [s_h9_step _ _ _ _ 0 _ hx hy (by omega), s_h9_step _ _ _ _ 1 _ hx hy (by omega), s_h9_step _ _ _ _ 2 _ hx hy (by omega), s_h9_step _ _ _ _ 3 _ hx hy (by omega)]
  show f_X6_heightAt_16b b _ _ _ _ _ _ = _
  unfold f_X6_heightAt_16b
  rw [if_pos (by decide)]
theorem s_h9p (b : Nat → Int32) (x y : Nat) : nI 0 + b 0 * nI (x - (0 + 1)) + b (4 + 0) * nI (y - (0 + 1)) + b 1 * nI (x - (1 + 1)) + b (4 + 1) * nI (y - (1 + 1)) + b 2 * nI (x - (2 + 1)) + b (4 + 2) * nI (y - (2 + 1)) + b 3 * nI (x - (3 + 1)) + b (4 + 3) * nI (y - (3 + 1)) = px b 0 x + px b 4 y := by
  unfold px
  rw [show nI 0 = (0 : Int32) from rfl, Int32.zero_add]
  simp only [Nat.zero_add, Nat.add_zero, Nat.reduceAdd]
  exact ac8 _ _ _ _ _ _ _ _
theorem s_h9k (b : Nat → Int32) (m c : Nat) (hc : c < 36) : f_X6_heightAt_16 b (m + 5) (nI (c % 6)) (nI (c / 6)) (nI 0) (nI 0) = some (hgt b c) := by
  have e : hgt b c = px b 0 (c % 6) + px b 4 (c / 6) := hgt2_px b (c % 6) (c / 6) (by omega) (by omega)
  rw [e, s_h9x b m (c % 6) (c / 6) (by omega) (by omega), s_h9p]
theorem s_h9q (b : Nat → Int32) (n c : Nat) (hc : c < 36) : f_X6_heightAt n b (nI c) = f_X6_heightAt_16 b n (nI (c % 6)) (nI (c / 6)) (nI 0) (nI 0) := by
  unfold f_X6_heightAt
  unfold nmd
  rw [k6, p_rem (by omega) (by omega) (by omega), p_div (by omega) (by omega) (by omega), k0]
theorem s_h9 (b : Nat → Int32) (n c : Nat) (hc : c < 36) (hn : 10 ≤ n) : f_X6_heightAt n b (nI c) = some (hgt b c) := by
  obtain ⟨m, rfl⟩ : ∃ m, n = m + 5 := ⟨n - 5, by omega⟩
  rw [s_h9q b _ c hc, s_h9k b m c hc]
theorem c_height (n P : Nat) (set num tab wl ws ww wb ml ms mw mk sb sl mb : Nat → Int32) (x : Int32) (hn : 900000 ≤ n) (hW : RWk P wl ws ww wb ml ms mw mk) (hT : RTb set num tab) :
    ∃ r b1 l1 b2, f_X11_height n set num wl ws ww wb (nI P) sb sl x = some (r, b1, l1) ∧ f_X12_height n ml ms mw mk (nI P) tab set mb x = some (r, b2) := by
  unfold f_X11_height f_X12_height
  rw [i_noCorner, i_corner]
  simp only [Option.bind_some]
  by_cases h : 0 ≤ x.toInt ∧ x.toInt ≤ 35
  · obtain ⟨k, hk, rfl⟩ := t_in (x := x) (b := 36) (by omega) (by omega) (by omega)
    obtain ⟨b1, l1, e1, e2, -⟩ := c_shapes n P set num tab wl ws ww wb ml ms mw mk sb sl hn hW hT
    obtain ⟨b2, e3, e4⟩ := c_bends n P set num tab wl ws ww wb ml ms mw mk mb hn hW hT
    rw [if_pos h, if_pos h, if_pos rfl, if_neg (by decide), e1, e3]
    simp only [Option.bind_some]
    rw [s_h9 b1 n k hk (by omega), s_height b2 n k hk (by omega), hgt_eq8 (e2.1.tr e4.sy) k]
    exact ⟨_, b1, l1, b2, rfl, rfl⟩
  · rw [if_neg h, if_neg h, if_neg (by decide), if_pos rfl]
    exact ⟨_, sb, sl, mb, rfl, rfl⟩
theorem s_hungAt (b ac al : Nat → Int32) (n c : Nat) (hc : c < 36) : f_X6_hungAt n (hpa b 0 ac) (hpa b 4 al) (nI c) = some (hu b 0 (c % 6) + hu b 4 (c / 6)) := by
  unfold f_X6_hungAt
  rw [k6, p_rem (by omega) (by omega) (by omega), p_div (by omega) (by omega) (by omega), p_vin (show c % 6 < 6 by omega) (by omega), p_vin (show c / 6 < 6 by omega) (by omega), p_cl (by omega), p_cl (by omega), hpa_at b ac 0 (c % 6) (by omega), hpa_at b al 4 (c / 6) (by omega)]
  rfl
def RHu (w hu : Nat → Int32) : Prop := B36 w ∧ ∀ c, c < 36 → hu c = hw36 w c
theorem c_miss (n P : Nat) (set num tab wl ws ww wb ml ms mw mk sb sl sa sal mb w hg : Nat → Int32) (x : Int32) (hn : 900000 ≤ n) (hW : RWk P wl ws ww wb ml ms mw mk) (hT : RTb set num tab) (hH : RHu w hg) :
    ∃ r b1 l1 a1 a2 b2, f_X11_miss n set num wl ws ww wb (nI P) sb sl sa sal hg x = some (r, b1, l1, a1, a2) ∧ f_X12_miss n ml ms mw mk (nI P) tab set mb w x = some (r, b2) := by
  unfold f_X11_miss f_X12_miss
  rw [i_noCorner, i_corner]
  simp only [Option.bind_some]
  by_cases h : 0 ≤ x.toInt ∧ x.toInt ≤ 35
  · obtain ⟨k, hk, rfl⟩ := t_in (x := x) (b := 36) (by omega) (by omega) (by omega)
    obtain ⟨b1, l1, e1, e2, -⟩ := c_shapes n P set num tab wl ws ww wb ml ms mw mk sb sl hn hW hT
    obtain ⟨b2, e3, e4⟩ := c_bends n P set num tab wl ws ww wb ml ms mw mk mb hn hW hT
    rw [if_pos h, if_pos h, if_pos rfl, if_neg (by decide), e1, e3]
    simp only [Option.bind_some]
    rw [s_hang b1 sa sal n (by omega)]
    simp only [Option.bind_some]
    rw [s_hungAt b1 sa sal n k hk, s_miss b2 w n k hk (by omega)]
    simp only [Option.bind_some]
    rw [p_vin hk (by omega), p_cl (by omega), grd_t, hH.2 k hk, mis_hu b1 w k hk, mis_congr (e2.1.tr e4.sy) (fun _ _ => rfl) k hk]
    exact ⟨_, b1, l1, _, _, b2, rfl, rfl⟩
  · rw [if_neg h, if_neg h, if_neg (by decide), if_pos rfl]
    exact ⟨_, sb, sl, sa, sal, mb, rfl, rfl⟩
theorem wor_hi {b w : Nat → Int32} (hb : B8 b 40000) (hw : B36 w) : 0 ≤ (wor b w 36).toInt ∧ (wor b w 36).toInt ≤ 60000000 := wor_bd (fun j hj => (hb j hj).le (by decide)) hw 36 (by omega)
/-- WORST without a limit -/
theorem s_wfull (b w hg ac al : Nat → Int32) (n : Nat) (hn : 900 ≤ n) (hh : ∀ c, c < 36 → hg c = hw36 w c) (hb : B8 b 40000) (hw : B36 w) : f_X6_worstWithin n b ac al hg 2000000000 = some (wor b w 36, hpa b 0 ac, hpa b 4 al) := by
  obtain ⟨r, e1, e2⟩ := s_ww b w hg ac al n (by omega) hh 2000000000
  have bd := wor_hi hb hw
  rcases e2 with e | ⟨-, e⟩
  · rw [e1, e]
  · exact absurd (le_T.mpr (by rw [show (2000000000 : Int32).toInt = 2000000000 from by decide]; omega)) e
theorem c_worst (n P : Nat) (set num tab wl ws ww wb ml ms mw mk sb sl sa sal mb w hg : Nat → Int32) (hn : 900000 ≤ n) (hW : RWk P wl ws ww wb ml ms mw mk) (hT : RTb set num tab) (hH : RHu w hg) :
    ∃ r b1 l1 a1 a2 b2, f_X11_worst n set num wl ws ww wb (nI P) sb sl sa sal hg = some (r, b1, l1, a1, a2) ∧ f_X12_worst n ml ms mw mk (nI P) tab set mb w = some (r, b2) := by
  unfold f_X11_worst f_X12_worst f_X12_worstBy
  obtain ⟨b1, l1, e1, e2, -⟩ := c_shapes n P set num tab wl ws ww wb ml ms mw mk sb sl hn hW hT
  obtain ⟨b2, e3, e4⟩ := c_bends n P set num tab wl ws ww wb ml ms mw mk mb hn hW hT
  have hB : B8 b1 40000 := B8_congr e2.1.sy (fun j hj => (sh_B8 hW hT j hj).le (by decide))
  rw [e1, e3]
  simp only [Option.bind_some]
  rw [s_wfull b1 w hg sa sal n (by omega) hH.2 hB hH.1, s_worst b2 w n (by omega), wor_congr (e2.1.tr e4.sy) (fun _ _ => rfl) 36 (by omega)]
  exact ⟨_, b1, l1, _, _, b2, rfl, rfl⟩
theorem c_pass (n P : Nat) (set num tab wl ws ww wb ml ms mw mk sb sl : Nat → Int32) (x1 x2 : Int32) (hn : 900000 ≤ n) (hW : RWk P wl ws ww wb ml ms mw mk) (hT : RTb set num tab) :
    ∃ r b1 l1, f_X11_pass n set num wl ws ww wb (nI P) sb sl x1 x2 = some (r, b1, l1) ∧ f_X12_pass n ml ms mw mk (nI P) tab set x1 x2 = some r := by
  obtain ⟨hP, hag, hok⟩ := hW
  unfold f_X11_pass f_X12_pass
  have e2 : (nI P - 1).toInt64.toInt = (P : Int) - 1 := by
    rw [Int32.toInt_toInt64, t_sub (A := 12) (B := 1) ((Bd.nI (by omega)).le (by omega)) (by unfold Bd; decide) (by decide), p_T (by omega)]
    rfl
  rw [i_in, e2]
  simp only [lt_T, show (0 : Int32).toInt = 0 from by decide, show (0 : Int64).toInt = 0 from by decide, Option.bind_some, p_T (show P < 2147483648 by omega)]
  by_cases h : 0 ≤ x1.toInt ∧ x1.toInt < (P : Int)
  · obtain ⟨k, hk, rfl⟩ := t_in (x := x1) (b := P) (by omega) (by omega) (by omega)
    have ag := hag k hk
    have ok := hok k hk
    have hok2 := okP_of_ag hag hok
    rw [if_neg (show ¬ (nI k).toInt < 0 by omega), if_pos h.2, if_pos (show 0 ≤ (nI k).toInt ∧ (nI k).toInt ≤ (P : Int) - 1 by omega), if_neg (show ¬ (1 : Int32) = 0 from by decide), p_vin (show k < 12 by omega) (by omega), p_vin (show k < 40 by omega) (by omega), p_cl (by omega)]
    simp only [grd_t]
    by_cases h0 : x2 = 0
    · rw [if_pos h0, if_pos h0, ag.1]
      exact ⟨_, sb, sl, rfl, rfl⟩
    rw [if_neg h0, if_neg h0]
    by_cases h1 : x2 = 1
    · rw [if_pos h1, if_pos h1, ag.2.1]
      exact ⟨_, sb, sl, rfl, rfl⟩
    rw [if_neg h1, if_neg h1]
    by_cases h2 : x2 = 2
    · rw [if_pos h2, if_pos h2, ag.2.2.1]
      exact ⟨_, sb, sl, rfl, rfl⟩
    rw [if_neg h2, if_neg h2]
    by_cases h3 : x2 = 3
    · rw [if_pos h3, if_pos h3, ag.2.2.2]
      exact ⟨_, sb, sl, rfl, rfl⟩
    rw [if_neg h3, if_neg h3]
    have bo := s_becomeOf sb sl set num tab wl ws ww wb 12 k n (by omega) (by omega) (by omega) (fun i hi => hok i (by omega)) hT.1
    obtain ⟨⟨L, hL, eL⟩, -⟩ := ok
    have lm : lpart (mlaid wl (zer8 sl 8) k) set L = mpart set ml (ml k) k := by
      rw [← ag.1, eL, lp_mpart wl (zer8 sl 8) set L hL (zer8_eq8 sl) k (fun i hi => (hok i (by omega)).1)]
      have cg : ∀ j, j ≤ k → mpart set wl (nI L) j = mpart set ml (nI L) j := by
        intro j
        induction j with
        | zero => intro _; rfl
        | succ j ih =>
          intro hj
          show mpart set wl (nI L) j - mdec set (wl j) (nI L) = mpart set ml (nI L) j - mdec set (ml j) (nI L)
          rw [ih (by omega), (hag j (by omega)).1]
      exact cg k (Nat.le_refl _)
    by_cases h4 : x2 = 4
    · rw [if_pos h4, if_pos h4, bo]
      simp only [Option.bind_some]
      rw [eL, s_partOn _ set n L hL, s_part ml set n k (by omega) (by omega), lm]
      exact ⟨_, _, _, rfl, rfl⟩
    rw [if_neg h4, if_neg h4]
    by_cases h5 : x2 = 5
    · rw [if_pos h5, if_pos h5, bo]
      simp only [Option.bind_some]
      rw [s_bent6 _ set num tab wl ws ww wb 12 n k (by omega) (by omega) (hok k hk) hT.1, s_bent ml ms mw mk tab set n k (by omega) (by omega) (okP_idx (hok2 k hk)), eL, p_cl (by omega), lm, ag.2.1, ag.2.2.1, ag.2.2.2]
      exact ⟨_, _, _, rfl, rfl⟩
    rw [if_neg h5, if_neg h5]
    by_cases h6 : x2 = 6
    · rw [if_pos h6, if_pos h6]
      unfold f_X3_time f_X12_timeOf
      rw [p_vin (show k < 12 by omega) (by omega), p_vin (show k < 40 by omega) (by omega), p_cl (by omega), ag.2.1, ag.2.2.1]
      exact ⟨_, sb, sl, rfl, rfl⟩
    rw [if_neg h6, if_neg h6]
    exact ⟨_, sb, sl, rfl, rfl⟩
  · rw [if_neg (show ¬ (0 ≤ x1.toInt ∧ x1.toInt ≤ (P : Int) - 1) by omega), if_pos rfl]
    refine ⟨-1, sb, sl, ?_, rfl⟩
    by_cases h2 : x1.toInt < 0
    · rw [if_pos h2]
    · rw [if_neg h2, if_neg (show ¬ x1.toInt < (P : Int) by omega)]
