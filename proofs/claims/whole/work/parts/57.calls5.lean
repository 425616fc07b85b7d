/-! The calls attempt, span, widest, weld, order, shared, told. -/
def RSp (lo hi mlo mhi : Nat → Int32) : Prop := ∀ j, j < 9 → lo j = mlo (j + 1) ∧ hi j = mhi (j + 1)
theorem sh_upd {lo mlo : Nat → Int32} {S : Nat} (v : Int32) (hS : 1 ≤ S) (h : ∀ j, j < 9 → lo j = mlo (j + 1)) : ∀ j, j < 9 → upd lo (S - 1) v j = upd mlo S v (j + 1) := fun j hj => by
  unfold upd
  by_cases q : j = S - 1
  · rw [if_pos q, if_pos (by omega)]
  · rw [if_neg q, if_neg (by omega)]
    exact h j hj
theorem c_attempt (n : Nat) (lo hi mlo mhi : Nat → Int32) (x1 x2 x3 : Int32) (hS : RSp lo hi mlo mhi) : ∃ a lo' hi' mlo' mhi', f_X11_attempt n lo hi x1 x2 x3 = some (a, lo', hi') ∧ f_X12_attempt n mlo mhi x1 x2 x3 = some (a, mlo', mhi') ∧ RSp lo' hi' mlo' mhi' := by
  unfold f_X11_attempt f_X12_attempt
  rw [i_noStrength, i_strength, i_1000, i_1000]
  simp only [lt_T, le_T, Option.bind_some, show (0 : Int32).toInt = 0 from by decide, show (1000 : Int32).toInt = 1000 from by decide]
  by_cases h1 : 1 ≤ x1.toInt ∧ x1.toInt ≤ 9
  · rw [if_pos h1, if_pos h1, if_pos y00, if_neg n10]
    by_cases h2 : 0 ≤ x2.toInt ∧ x2.toInt ≤ 1000
    · rw [if_neg (show ¬ x2.toInt < 0 by omega), if_neg (show ¬ 1000 < x2.toInt by omega), if_pos h2, if_neg n10]
      by_cases h3 : 0 ≤ x3.toInt ∧ x3.toInt ≤ 1000
      · rw [if_neg (show ¬ x3.toInt < 0 by omega), if_pos h3.2, if_pos h3, if_neg n10]
        obtain ⟨S, hS2, rfl⟩ := t_in (x := x1) (b := 10) (by omega) (by omega) (by omega)
        rw [p_T (by omega)] at h1
        simp only [← le_T]
        unfold f_X8_narrow f_X12_attempt_63 f_X12_attempt_89
        have hs := hS (S - 1) (by omega)
        rw [show S - 1 + 1 = S from by omega] at hs
        rw [k1, p_sub (by omega), p_vin (show S - 1 < 9 by omega) (by omega), p_vin (show S < 10 by omega) (by omega), p_cl (by omega), p_cl (by omega), hs.1, hs.2, jmax_if]
        simp only [grd_t, nmd]
        have jm : jmin (mhi S) (x2 + x3) = if mhi S ≤ x2 + x3 then mhi S else x2 + x3 := by
          unfold jmin
          by_cases q : x2 + x3 < mhi S
          · rw [if_pos q, if_neg (Int32.not_le.mpr q)]
          · rw [if_neg q, if_pos (Int32.not_lt.mp q)]
        rw [jm]
        have fin : ∀ L H : Int32, ∃ a lo' hi' mlo' mhi', ((if L ≤ H then some (nI 1, upd lo (S - 1) L, upd hi (S - 1) H) else some (0, lo, hi)).bind fun q7 => if q7.1 = 0 then some ((-5 : Int32), q7.2.1, q7.2.2) else some (nI 1, q7.2.1, q7.2.2)) = some (a, lo', hi') ∧ (if L ≤ H then some (nI 1, upd mlo S L, upd mhi S H) else some (-5, mlo, mhi)) = some (a, mlo', mhi') ∧ RSp lo' hi' mlo' mhi' := by
          intro L H
          by_cases q : L ≤ H
          · rw [if_pos q, if_pos q, Option.bind_some, if_neg (show ¬ nI 1 = 0 from by decide)]
            exact ⟨_, _, _, _, _, rfl, rfl, fun j hj => ⟨sh_upd L (by omega) (fun j hj => (hS j hj).1) j hj, sh_upd H (by omega) (fun j hj => (hS j hj).2) j hj⟩⟩
          · rw [if_neg q, if_neg q, Option.bind_some, if_pos y00]
            exact ⟨_, _, _, _, _, rfl, rfl, hS⟩
        by_cases q1 : x2 - x3 ≤ mlo S
        · rw [if_pos q1, if_pos q1]
          by_cases q2 : mhi S ≤ x2 + x3
          · rw [if_pos q2, if_pos q2]
            exact fin _ _
          · rw [if_neg q2, if_neg q2]
            exact fin _ _
        · rw [if_neg q1, if_neg q1]
          by_cases q2 : mhi S ≤ x2 + x3
          · rw [if_pos q2, if_pos q2]
            exact fin _ _
          · rw [if_neg q2, if_neg q2]
            exact fin _ _
      · rw [if_neg h3, if_pos y00]
        refine ⟨-2, lo, hi, mlo, mhi, ?_, rfl, hS⟩
        by_cases q : x3.toInt < 0
        · rw [if_pos q]
        · rw [if_neg q, if_neg (by omega)]
    · rw [if_neg h2, if_pos y00]
      refine ⟨-2, lo, hi, mlo, mhi, ?_, rfl, hS⟩
      by_cases q : x2.toInt < 0
      · rw [if_pos q]
      · rw [if_neg q, if_pos (by omega)]
  · rw [if_neg h1, if_neg h1, if_neg n10, if_pos y00]
    exact ⟨_, lo, hi, mlo, mhi, rfl, rfl, hS⟩
theorem c_span (n : Nat) (lo hi mlo mhi : Nat → Int32) (x1 x2 : Int32) (hS : RSp lo hi mlo mhi) : ∃ a, f_X11_span n lo hi x1 x2 = some a ∧ f_X12_span n mlo mhi x1 x2 = some a := by
  unfold f_X11_span f_X12_span
  rw [i_noStrength, i_strength, i_01]
  simp only [lt_T, le_T, Option.bind_some, show (0 : Int32).toInt = 0 from by decide, show (1 : Int32).toInt = 1 from by decide]
  by_cases h1 : 1 ≤ x1.toInt ∧ x1.toInt ≤ 9
  · rw [if_pos h1, if_pos h1, if_pos y00, if_neg n10]
    by_cases h2 : 0 ≤ x2.toInt ∧ x2.toInt ≤ 1
    · rw [if_neg (show ¬ x2.toInt < 0 by omega), if_pos h2.2, if_pos h2, if_neg n10]
      obtain ⟨S, hS2, rfl⟩ := t_in (x := x1) (b := 10) (by omega) (by omega) (by omega)
      rw [p_T (by omega)] at h1
      have hs := hS (S - 1) (by omega)
      rw [show S - 1 + 1 = S from by omega] at hs
      rw [k1, p_sub (by omega), p_vin (show S - 1 < 9 by omega) (by omega), p_vin (show S < 10 by omega) (by omega), p_cl (by omega), p_cl (by omega), hs.1, hs.2]
      simp only [grd_t]
      split <;> exact ⟨_, rfl, rfl⟩
    · rw [if_neg h2, if_pos y00]
      refine ⟨-2, ?_, rfl⟩
      by_cases q : x2.toInt < 0
      · rw [if_pos q]
      · rw [if_neg q, if_neg (by omega)]
  · rw [if_neg h1, if_neg h1, if_neg n10, if_pos y00]
    exact ⟨_, rfl, rfl⟩
theorem s_widest (lo hi mlo mhi : Nat → Int32) (hS : RSp lo hi mlo mhi) : ∀ (r n k v : Nat), k + r = 9 → r + 1 ≤ n → v < 9 → ∃ a, f_X8_widestStrength_4 lo hi n (nI v) (nI k) = some a ∧ f_X12_widest_4 mlo mhi n (nI (v + 1)) (nI (k + 1)) = some a := by
  intro r
  induction r with
  | zero =>
    intro n k v hk hn hv
    obtain ⟨m, rfl⟩ : ∃ m, n = m + 1 := ⟨n - 1, by omega⟩
    obtain rfl : k = 9 := by omega
    show ∃ a, f_X8_widestStrength_4b lo hi _ m (nI v) (nI 9) = _ ∧ f_X12_widest_4b mlo mhi _ m (nI (v + 1)) (nI (9 + 1)) = _
    unfold f_X8_widestStrength_4b f_X12_widest_4b
    rw [if_pos (show (9 : Int32) ≤ nI 9 from by decide), if_pos (show (10 : Int32) ≤ nI (9 + 1) from by decide), p_1]
    exact ⟨_, rfl, rfl⟩
  | succ r ih =>
    intro n k v hk hn hv
    obtain ⟨m, rfl⟩ : ∃ m, n = m + 1 := ⟨n - 1, by omega⟩
    have s1 := hS k (by omega)
    have s2 := hS v hv
    show ∃ a, f_X8_widestStrength_4b lo hi (f_X8_widestStrength_4 lo hi m) m (nI v) (nI k) = _ ∧ f_X12_widest_4b mlo mhi (f_X12_widest_4 mlo mhi m) m (nI (v + 1)) (nI (k + 1)) = _
    unfold f_X8_widestStrength_4b f_X12_widest_4b
    have l1 : ¬ (9 : Int32) ≤ nI k := by rw [k9, p_le (by omega) (by omega)]; omega
    have l2 : ¬ (10 : Int32) ≤ nI (k + 1) := by rw [k10, p_le (by omega) (by omega)]; omega
    rw [if_neg l1, if_neg l2, p_vin (show k < 9 by omega) (by omega), p_vin hv (by omega), p_vin (show k + 1 < 10 by omega) (by omega), p_vin (show v + 1 < 10 by omega) (by omega), p_cl (by omega), p_cl (by omega), p_cl (by omega), p_cl (by omega), s1.1, s1.2, s2.1, s2.2, p_1, p_1]
    simp only [grd_t]
    by_cases q : mhi (k + 1) - mlo (k + 1) ≤ mhi (v + 1) - mlo (v + 1)
    · rw [if_pos q, if_pos q]
      exact ih m (k + 1) v (by omega) (by omega) hv
    · rw [if_neg q, if_neg q]
      exact ih m (k + 1) k (by omega) (by omega) (by omega)
theorem c_widest (n : Nat) (lo hi mlo mhi : Nat → Int32) (hn : 900000 ≤ n) (hS : RSp lo hi mlo mhi) : ∃ a, f_X11_widest n lo hi = some a ∧ f_X12_widest n mlo mhi = some a := by
  obtain ⟨a, h1, h2⟩ := s_widest lo hi mlo mhi hS 8 n 1 0 (by omega) (by omega) (by omega)
  refine ⟨a, ?_, h2⟩
  unfold f_X11_widest f_X8_widestStrength
  have h1' : f_X8_widestStrength_4 lo hi n 0 1 = some a := h1
  rw [h1', Option.bind_some]
def RWe (W : Nat) (l p : Nat → Int32) : Prop := W ≤ 7 ∧ okW l W ∧ pulOk p W
theorem c_weld (n W : Nat) (l p : Nat → Int32) (kn x1 x2 : Int32) (hE : RWe W l p) : ∃ a l' p' W' kn', f_X11_weld n l p (nI W) kn x1 x2 = some (a, l', p', nI W', kn') ∧ f_X12_weld n l p (nI W) x1 x2 = some (a, l', p', nI W') ∧ RWe W' l' p' ∧ (kn' = 0 ∨ (kn' = kn ∧ W' = W ∧ l' = l ∧ p' = p)) := by
  unfold f_X11_weld f_X12_weld f_X9_add
  rw [i_noLine, i_line, i_in]
  simp only [lt_T, le_T, Option.bind_some, show (-500 : Int32).toInt = -500 from by decide, show (500 : Int32).toInt = 500 from by decide, show (-500 : Int64).toInt = -500 from by decide, show (500 : Int64).toInt = 500 from by decide, show (7 : Int32).toInt = 7 from by decide]
  have h7 := hE.1
  by_cases h1 : 0 ≤ x1.toInt ∧ x1.toInt ≤ 7
  · rw [if_pos h1, if_pos h1, if_pos y00, if_neg n10]
    by_cases h2 : -500 ≤ x2.toInt ∧ x2.toInt ≤ 500
    · rw [if_neg (show ¬ x2.toInt < -500 by omega), if_pos h2.2, if_pos h2, if_neg n10]
      obtain ⟨L, hL, rfl⟩ := t_in (x := x1) (b := 8) (by omega) (by omega) (by omega)
      rw [p_T (show W < 2147483648 by omega)]
      by_cases h3 : W = 7
      · subst h3
        rw [if_neg (by omega), if_pos (show nI 7 = (7 : Int32) from rfl)]
        exact ⟨-4, l, p, 7, kn, rfl, rfl, hE, Or.inr ⟨rfl, rfl, rfl, rfl⟩⟩
      · have hne : ¬ nI W = (7 : Int32) := fun q => h3 ((p_eq (a := W) (b := 7) (by omega) (by omega)).mp q)
        rw [if_pos (show (W : Int) < 7 by omega), if_neg hne, p_vin (show W < 7 by omega) (by omega), p_cl (by omega), p_1, show nI (W + 1) - 1 = nI W from by rw [k1, p_sub (by omega)]; rfl]
        simp only [grd_t]
        rw [Option.bind_some, if_neg n10]
        refine ⟨nI W, upd l W (nI L), upd p W x2, W + 1, 0, rfl, rfl, ⟨by omega, fun i hi => ?_, fun i hi => ?_⟩, Or.inl rfl⟩
        · unfold upd
          by_cases q : i = W
          · rw [if_pos q]
            exact ⟨L, hL, rfl⟩
          · rw [if_neg q]
            exact hE.2.1 i (by omega)
        · unfold upd
          by_cases q : i = W
          · rw [if_pos q]
            exact h2
          · rw [if_neg q]
            exact hE.2.2 i (by omega)
    · rw [if_neg h2, if_pos y00]
      refine ⟨-2, l, p, W, kn, ?_, rfl, hE, Or.inr ⟨rfl, rfl, rfl, rfl⟩⟩
      by_cases q : x2.toInt < -500
      · rw [if_pos q]
      · rw [if_neg q, if_neg (by omega)]
  · rw [if_neg h1, if_neg h1, if_neg n10, if_pos y00]
    exact ⟨_, l, p, W, kn, rfl, rfl, hE, Or.inr ⟨rfl, rfl, rfl, rfl⟩⟩
/-- what is known of THE BEST ORDER -/
def KW (kn : Int32) (P W : Nat) (set tab w wl ws ww wb el ep best : Nat → Int32) (bw : Int32) : Prop := kn = 0 ∨ ∃ x, ordr W (ocs set el ep (sh tab set (lst wl ws ww wb P)).1 w W) = some x ∧ kpt W (ocs set el ep (sh tab set (lst wl ws ww wb P)).1 w W) (some x) best bw
theorem c_order (n P W : Nat) (set num tab wl ws ww wb ml ms mw mk sb sl mb w hg el ep best A bent tb tl ta tal mo mbo : Nat → Int32) (bw kn x : Int32) (hn : 900000 ≤ n) (hW : RWk P wl ws ww wb ml ms mw mk) (hT : RTb set num tab) (hH : RHu w hg) (hE : RWe W el ep) (hK : KW kn P W set tab w wl ws ww wb el ep best bw) :
    ∃ a b1 l1 best' bw' kn' A' bent' tb' tl' ta' tal' mb' mo' mbo', f_X11_order n set num wl ws ww wb (nI P) sb sl hg el ep best (nI W) bw kn A bent tb tl ta tal x = some (a, b1, l1, best', bw', kn', A', bent', tb', tl', ta', tal') ∧ f_X12_order n ml ms mw mk (nI P) tab set mb w el ep (nI W) mo mbo x = some (a, mb', mo', mbo') ∧ KW kn' P W set tab w wl ws ww wb el ep best' bw' := by
  have hP := hW.1
  have h7 := hE.1
  have eq : lst ml ms mw mk P = lst wl ws ww wb P := (lst_congr P hW.2.1).symm
  have h5 : 0 ≤ (set 5).toInt ∧ (set 5).toInt ≤ 100 := ⟨hT.2.2.2.2.2.1, by have := hT.2.2.2.2.2.2; omega⟩
  have hB : B8 (sh tab set (lst wl ws ww wb P)).1 40000 := fun j hj => (sh_B8 hW hT j hj).le (by decide)
  obtain ⟨mb', mo', mbo', z, o1, o2, o3⟩ := s_order12 ml ms mw mk tab set w el ep (sh tab set (lst wl ws ww wb P)).1 mb mo mbo x P W n hP h7 (by omega) h5 hE.2.2 (okP_of_ag hW.2.1 hW.2.2) hE.2.1 (by rw [eq]; exact eq8.rf _) hB hH.1
  rw [o3]
  have last : ∀ (b1 l1 best' A' bent' tb' tl' ta' tal' : Nat → Int32) (bw' kn' : Int32), -1 ≤ x.toInt ∧ x.toInt < W → kpt W (ocs set el ep (sh tab set (lst wl ws ww wb P)).1 w W) (some z) best' bw' → ∃ a b2 l2 best2 bw2 kn2 A2 bent2 tb2 tl2 ta2 tal2 mb2 mo2 mbo2, f_X11_order_52 set num wl ws ww wb (nI P) hg el ep (nI W) n b1 l1 best' bw' kn' A' bent' tb' tl' ta' tal' x = some (a, b2, l2, best2, bw2, kn2, A2, bent2, tb2, tl2, ta2, tal2) ∧ (some ((if x = -1 then ocs set el ep (sh tab set (lst wl ws ww wb P)).1 w W z else if 0 ≤ x.toInt ∧ x.toInt < W then nI (z.getD x.toNatClampNeg 0) else -6), mb', mo', mbo') : Option _) = some (a, mb2, mo2, mbo2) ∧ KW kn2 P W set tab w wl ws ww wb el ep best2 bw2 := by
    intro b1 l1 best' A' bent' tb' tl' ta' tal' bw' kn' hx hk
    have hk2 := hk z rfl
    unfold f_X11_order_52
    by_cases q : x = -1
    · rw [if_pos q, if_pos q, ← hk2.1]
      exact ⟨_, _, _, _, _, _, _, _, _, _, _, _, _, _, _, rfl, rfl, Or.inr ⟨z, o1, hk⟩⟩
    · have hx0 : 0 ≤ x.toInt := by
        rcases Int.lt_or_le x.toInt 0 with h | h
        · exact absurd (Int32.toInt_inj.mp (show x.toInt = (-1 : Int32).toInt by rw [show (-1 : Int32).toInt = -1 from by decide]; omega)) q
        · exact h
      rw [if_neg q, if_neg q, if_pos ⟨hx0, hx.2⟩]
      obtain ⟨k, hk3, rfl⟩ := t_in (x := x) (b := W) hx0 hx.2 (by omega)
      rw [p_vin (show k < 7 by omega) (by omega), grd_t, p_cl (by omega), hk2.2.1 k hk3]
      exact ⟨_, _, _, _, _, _, _, _, _, _, _, _, _, _, _, rfl, rfl, Or.inr ⟨z, o1, hk⟩⟩
  unfold f_X11_order
  simp only [lt_T, show (-1 : Int32).toInt = -1 from by decide, p_T (show W < 2147483648 by omega)]
  by_cases hx : -1 ≤ x.toInt ∧ x.toInt < (W : Int)
  · rw [if_neg (show ¬ x.toInt < -1 by omega), if_pos hx.2]
    by_cases hk0 : kn = 0
    · rw [if_pos hk0]
      obtain ⟨b1, l1, e1, e2, -⟩ := c_shapes n P set num tab wl ws ww wb ml ms mw mk sb sl hn hW hT
      obtain ⟨best', bw', A', bent', tb', tl', ta', tal', y, g1, g2, g3⟩ := s_findBest set el ep bent b1 l1 hg w (sh tab set (lst wl ws ww wb P)).1 best A tb tl ta tal bw kn W n h7 (by omega) h5 hE.2.2 hE.2.1 hH.2 e2.1 hB hH.1
      rw [o1] at g2
      cases g2
      rw [e1, Option.bind_some, g1, Option.bind_some]
      exact last _ _ _ _ _ _ _ _ _ _ _ hx g3
    · rw [if_neg hk0]
      obtain ⟨y, g2, g3⟩ := hK.resolve_left hk0
      rw [o1] at g2
      cases g2
      exact last _ _ _ _ _ _ _ _ _ _ _ hx g3
  · have hans : (if x = -1 then ocs set el ep (sh tab set (lst wl ws ww wb P)).1 w W z else if 0 ≤ x.toInt ∧ x.toInt < W then nI (z.getD x.toNatClampNeg 0) else -6) = -6 := by
      have q : ¬ x = -1 := fun q => hx (by rw [q, show (-1 : Int32).toInt = -1 from by decide]; omega)
      rw [if_neg q, if_neg (by omega)]
    rw [hans]
    refine ⟨-6, sb, sl, best, bw, kn, A, bent, tb, tl, ta, tal, mb', mo', mbo', ?_, rfl, hK⟩
    by_cases q : x.toInt < -1
    · rw [if_pos q]
    · rw [if_neg q, if_neg (by omega)]
/-- what is known of SHARED -/
def KS (kf : Int32) (P : Nat) (ws ww so : Nat → Int32) (gr : Int32) : Prop := kf = 0 ∨ ∃ (N G : Nat) (b : Nat → Nat), 1 ≤ N ∧ N ≤ 3 ∧ kf = nI N ∧ SB (tmN ws ww) N P G b ∧ gr = nI G ∧ ∀ i, i < P → so i = nI (b i)
theorem adm_congr (t u a : Nat → Nat) (g : Nat) : ∀ (c k : Nat) (σ : Nat → Nat), (∀ i, k ≤ i → i < k + c → t i = u i) → adm t a g c k σ → adm u a g c k σ := by
  intro c
  induction c with
  | zero => intro k σ _ _; exact trivial
  | succ c ih =>
    intro k σ h hA
    have e := h k (by omega) (by omega)
    obtain ⟨h1, h2⟩ := hA
    rw [e] at h1 h2
    exact ⟨h1, ih _ _ (fun i h1 h2 => h i (by omega) (by omega)) h2⟩
theorem SB_congr {t u : Nat → Nat} {n P G : Nat} {b : Nat → Nat} (h : ∀ i, i < P → t i = u i) (hS : SB t n P G b) : SB u n P G b := by
  obtain ⟨h1, h2, h3, h4⟩ := hS
  refine ⟨h1, adm_congr t u b G P 0 _ (fun i _ hi => h i (by omega)) h2, fun a ha hv hA => h3 a ha hv (adm_congr u t a G P 0 _ (fun i _ hi => (h i (by omega)).symm) hA), fun g hg a ha hA => h4 g hg a ha (adm_congr u t a g P 0 _ (fun i _ hi => (h i (by omega)).symm) hA)⟩
theorem c_shared (n P : Nat) (wl ws ww wb ml ms mw mk so ti su mo mbo mbu : Nat → Int32) (gr kf cn x1 x2 : Int32) (hn : 900000 ≤ n) (hW : RWk P wl ws ww wb ml ms mw mk) (hK : KS kf P ws ww so gr) :
    ∃ a so' gr' kf' ti' su' cn' mo' mbo' mbu', f_X11_shared n ws ww (nI P) so gr kf ti su cn x1 x2 = some (a, so', gr', kf', ti', su', cn') ∧ f_X12_shared n ms mw (nI P) mo mbo mbu x1 x2 = some (a, mo', mbo', mbu') ∧ KS kf' P ws ww so' gr' := by
  have hP := hW.1
  have ht : ∀ i, i < P → tmN ms mw i = tmN ws ww i := fun i hi => by
    unfold tmN
    rw [(hW.2.1 i hi).2.1, (hW.2.1 i hi).2.2.1]
  by_cases h1 : 1 ≤ x1.toInt ∧ x1.toInt ≤ 3
  · obtain ⟨N, hN, rfl⟩ := t_in (x := x1) (b := 4) (by omega) (by omega) (by omega)
    rw [p_T (by omega)] at h1
    obtain ⟨mo', mbo', mbu', G, b, e1, e2⟩ := s_shared12 ml ms mw mk P N n hP (by omega) (by omega) (okP_of_ag hW.2.1 hW.2.2) (by omega) x2 mo mbo mbu
    have e2' := SB_congr ht e2
    rw [e1]
    have last : ∀ (so' ti' su' : Nat → Int32) (gr' kf' cn' : Int32), -1 ≤ x2.toInt ∧ x2.toInt < P → kf' = nI N → gr' = nI G → (∀ i, i < P → so' i = nI (b i)) → ∃ a so2 gr2 kf2 ti2 su2 cn2 mo2 mbo2 mbu2, f_X11_shared_55 ws ww (nI P) n so' gr' kf' ti' su' cn' x2 = some (a, so2, gr2, kf2, ti2, su2, cn2) ∧ (some (shA G b P x2, mo', mbo', mbu') : Option _) = some (a, mo2, mbo2, mbu2) ∧ KS kf2 P ws ww so2 gr2 := by
      intro so' ti' su' gr' kf' cn' hx hk hg hs
      have hks : KS kf' P ws ww so' gr' := Or.inr ⟨N, G, b, by omega, by omega, hk, e2', hg, hs⟩
      unfold f_X11_shared_55 shA
      by_cases q : x2 = -1
      · rw [if_pos q, if_pos q, ← hg]
        exact ⟨_, _, _, _, _, _, _, _, _, _, rfl, rfl, hks⟩
      · have hx0 : 0 ≤ x2.toInt := by
          rcases Int.lt_or_le x2.toInt 0 with h | h
          · exact absurd (Int32.toInt_inj.mp (show x2.toInt = (-1 : Int32).toInt by rw [show (-1 : Int32).toInt = -1 from by decide]; omega)) q
          · exact h
        rw [if_neg q, if_neg q, if_pos ⟨hx0, hx.2⟩]
        obtain ⟨k, hk3, rfl⟩ := t_in (x := x2) (b := P) hx0 hx.2 (by omega)
        rw [p_vin (show k < 12 by omega) (by omega), grd_t, p_cl (by omega), hs k hk3]
        exact ⟨_, _, _, _, _, _, _, _, _, _, rfl, rfl, hks⟩
    unfold f_X11_shared
    simp only [lt_T, le_T, show (-1 : Int32).toInt = -1 from by decide, show (1 : Int32).toInt = 1 from by decide, show (3 : Int32).toInt = 3 from by decide, p_T (show P < 2147483648 by omega), p_T (show N < 2147483648 by omega)]
    rw [if_neg (show ¬ (N : Int) < 1 by omega), if_pos h1.2]
    by_cases hx : -1 ≤ x2.toInt ∧ x2.toInt < (P : Int)
    · rw [if_neg (show ¬ x2.toInt < -1 by omega), if_pos hx.2]
      by_cases hk : kf = nI N
      · rw [if_pos hk]
        rcases hK with h0 | ⟨N', G', b', k1, k2, k3, k4, k5, k6⟩
        · rw [h0] at hk
          have := (p_eq (a := 0) (b := N) (by omega) (by omega)).mp hk
          omega
        · have en : N' = N := (p_eq (by omega) (by omega)).mp (k3.symm.trans hk)
          subst en
          obtain ⟨u1, u2⟩ := SB_uniq k4 e2'
          subst u1
          exact last so ti su gr kf cn hx hk k5 (fun i hi => by rw [k6 i hi, u2 i hi])
      · rw [if_neg hk]
        obtain ⟨so', su', ti', G', b', g1, g2, g3, g4⟩ := s_share wl ws ww wb P N n hP (by omega) (by omega) hW.2.2 (by omega) kf gr cn so su ti
        obtain ⟨u1, u2⟩ := SB_uniq g3 e2'
        subst u1
        rw [g1, Option.bind_some]
        exact last so' ti' su' _ _ _ hx rfl rfl (fun i hi => by rw [g4 i hi, u2 i hi])
    · have hans : shA G b P x2 = -6 := by
        have q : ¬ x2 = -1 := fun q => hx (by rw [q, show (-1 : Int32).toInt = -1 from by decide]; omega)
        unfold shA
        rw [if_neg q, if_neg (by omega)]
      rw [hans]
      refine ⟨-6, so, gr, kf, ti, su, cn, mo', mbo', mbu', ?_, rfl, hK⟩
      by_cases q : x2.toInt < -1
      · rw [if_pos q]
      · rw [if_neg q, if_neg (by omega)]
  · unfold f_X11_shared f_X12_shared
    rw [i_in]
    simp only [lt_T, le_T, show (1 : Int32).toInt = 1 from by decide, show (3 : Int32).toInt = 3 from by decide, show (1 : Int64).toInt = 1 from by decide, show (3 : Int64).toInt = 3 from by decide]
    rw [if_neg h1, Option.bind_some, if_pos y00]
    refine ⟨-2, so, gr, kf, ti, su, cn, mo, mbo, mbu, ?_, rfl, hK⟩
    by_cases q : x1.toInt < 1
    · rw [if_pos q]
    · rw [if_neg q, if_neg (by omega)]
theorem s_told (sm ps it we x : Int32) (set r : Nat → Int32) : ∀ (c n k : Nat), k + c = 36 → c + 1 ≤ n → f_X12_told_28 sm ps set it r we n x (nI (rct r k)) (nI k) = some (if x = 0 then sm else if x = 1 then ps else if x = 2 then it else if x = 3 then nI (rct r 36) else if x = 4 then we else -2) := by
  intro c
  induction c with
  | zero =>
    intro n k hk hn
    obtain ⟨m, rfl⟩ : ∃ m, n = m + 1 := ⟨n - 1, by omega⟩
    obtain rfl : k = 36 := by omega
    show f_X12_told_28b sm ps set it r we _ m x (nI (rct r 36)) (nI 36) = _
    unfold f_X12_told_28b
    rw [if_pos (show (36 : Int32) ≤ nI 36 from by decide)]
    grind
  | succ c ih =>
    intro n k hk hn
    obtain ⟨m, rfl⟩ : ∃ m, n = m + 1 := ⟨n - 1, by omega⟩
    have go := ih m (k + 1) (by omega) (by omega)
    have hlt : ¬ (36 : Int32) ≤ nI k := by rw [k36, p_le (by omega) (by omega)]; omega
    rw [show rct r (k + 1) = rct r k + (if r k = 0 then 0 else 1) from rfl] at go
    show f_X12_told_28b sm ps set it r we (f_X12_told_28 sm ps set it r we m) m x (nI (rct r k)) (nI k) = _
    unfold f_X12_told_28b
    rw [if_neg hlt, p_vin (show k < 36 by omega) (by omega), grd_t, p_cl (by omega), nmd_eq, nmd_eq, k0, p_add, p_1, p_1]
    by_cases q : r k = 0
    · rw [if_pos q] at go
      rw [if_pos (show r k = nI 0 from q)]
      exact go
    · rw [if_neg q] at go
      rw [if_neg (show ¬ r k = nI 0 from q)]
      exact go
theorem c_told (n C P I W : Nat) (set r : Nat → Int32) (x : Int32) (hn : 900000 ≤ n) : ∃ a, f_X11_told n (nI C) set (nI P) (nI I) (nI (rct r 36)) (nI W) x = some a ∧ f_X12_told n (nI C) (nI P) set (nI I) r (nI W) x = some a := by
  have t := s_told (nI C) (nI P) (nI I) (nI W) x set r 36 n 0 (by omega) (by omega)
  have t' : f_X12_told_28 (nI C) (nI P) set (nI I) r (nI W) n x 0 0 = _ := t
  unfold f_X11_told f_X12_told
  rw [i_in, t']
  have x10 : (x < (10 : Int32)) ↔ x.toInt < 10 := by rw [lt_T, show (10 : Int32).toInt = 10 from by decide]
  have x16 : ((16 : Int32) ≤ x) ↔ 16 ≤ x.toInt := by rw [le_T, show (16 : Int32).toInt = 16 from by decide]
  rw [show (10 : Int64).toInt = 10 from by decide, show (15 : Int64).toInt = 15 from by decide, Option.bind_some]
  by_cases h : 10 ≤ x.toInt ∧ x.toInt ≤ 15
  · rw [if_pos h, if_neg n10]
    obtain ⟨k, hk, rfl⟩ := t_in (x := x) (b := 16) (by omega) (by omega) (by omega)
    rw [p_T (by omega)] at h
    have nk : ∀ j, j < 10 → ¬ nI k = nI j := fun j hj => by rw [p_eq (by omega) (by omega)]; omega
    rw [if_neg (show ¬ nI k = (0 : Int32) from nk 0 (by omega)), if_neg (show ¬ nI k = (1 : Int32) from nk 1 (by omega)), if_neg (show ¬ nI k = (2 : Int32) from nk 2 (by omega)), if_neg (show ¬ nI k = (3 : Int32) from nk 3 (by omega)), if_neg (show ¬ nI k = (4 : Int32) from nk 4 (by omega)), if_neg (by rw [x10, p_T (by omega)]; omega), if_neg (by rw [x16, p_T (by omega)]; omega)]
    rw [k10, p_sub (by omega), p_vin (show k - 10 < 6 by omega) (by omega), p_cl (by omega)]
    exact ⟨_, rfl, rfl⟩
  · rw [if_neg h, if_pos y00]
    refine ⟨_, ?_, rfl⟩
    by_cases q0 : x = 0
    · rw [if_pos q0, if_pos q0]
    rw [if_neg q0, if_neg q0]
    by_cases q1 : x = 1
    · rw [if_pos q1, if_pos q1]
    rw [if_neg q1, if_neg q1]
    by_cases q2 : x = 2
    · rw [if_pos q2, if_pos q2]
    rw [if_neg q2, if_neg q2]
    by_cases q3 : x = 3
    · rw [if_pos q3, if_pos q3]
    rw [if_neg q3, if_neg q3]
    by_cases q4 : x = 4
    · rw [if_pos q4, if_pos q4]
    rw [if_neg q4, if_neg q4]
    by_cases q5 : x.toInt < 10
    · rw [if_pos (x10.mpr q5)]
    · rw [if_neg (fun g => q5 (x10.mp g)), if_pos (x16.mpr (by omega))]
