/-! The calls chosen, next, steps. -/
theorem RWk_tr {P : Nat} {wl ws ww wb ml ms mw mk a b c d : Nat → Int32} (hW : RWk P wl ws ww wb ml ms mw mk) (h : ag4 P ml ms mw mk a b c d) : RWk P wl ws ww wb a b c d := ⟨hW.1, hW.2.1.tr h, hW.2.2⟩
theorem selR_len (item : Nat → Pq) (v : Int32) : ∀ r i, (selR item v i r).length ≤ r := by
  intro r
  induction r with
  | zero => intro i; exact Nat.le_refl 0
  | succ r ih =>
    intro i
    have := ih (i + 1)
    unfold selR
    split <;> simp <;> omega
theorem cst_bd {P I : Nat} {set num tab wl ws ww wb ml ms mw mk w il is iw ib : Nat → Int32} (hW : RWk P wl ws ww wb ml ms mw mk) (hT : RTb set num tab) (hw : B36 w) (hI : RIt I il is iw ib) (B : Nat) : 0 ≤ (cst tab set w (lst wl ws ww wb P) (itm il is iw ib) I B).toInt := by
  have lk := lst_ok P hW.2.2
  have sl := selR_len (itm il is iw ib) (nI B) I 0
  have hP := hW.1
  have hi := hI.1
  refine (WL_bd hT.2.1 hT.2.2.1 hw _ ?_ ?_).1
  · rw [List.length_append, lk.1]
    omega
  · intro p hp
    rcases List.mem_append.mp hp with h | h
    · exact lk.2 p h
    · exact selR_ok (itm il is iw ib) (nI B) I hI.2 I 0 (by omega) p h
theorem c_chosen (n P I : Nat) (set num tab wl ws ww wb ml ms mw mk sb sl mb w hg il is iw ib tb tl ta tal : Nat → Int32) (fo fw tr x1 x2 : Int32) (hn : 900000 ≤ n) (hW : RWk P wl ws ww wb ml ms mw mk) (hT : RTb set num tab) (hH : RHu w hg) (hI : RIt I il is iw ib) :
    ∃ a b1 l1 tb' tl' ta' tal' fo' fw' ml' ms' mw' mk' tr' mb', f_X11_chosen n set num wl ws ww wb (nI P) sb sl hg il is iw ib (nI I) tb tl ta tal fo fw x1 x2 = some (a, b1, l1, tb', tl', ta', tal', fo', fw') ∧ f_X12_chosen n ml ms mw mk (nI P) tr tab set mb w il is iw ib (nI I) x1 x2 = some (a, ml', ms', mw', mk', tr', mb') ∧ RWk P wl ws ww wb ml' ms' mw' mk' := by
  have hP := hW.1
  have hi := hI.1
  have hp2 := pow_le I hi
  unfold f_X11_chosen f_X12_chosen
  rw [i_in, i_01]
  simp only [lt_T, le_T, show (0 : Int32).toInt = 0 from by decide, show (1 : Int32).toInt = 1 from by decide, show (100000000 : Int32).toInt = 100000000 from by decide, show (100000000 : Int64).toInt = 100000000 from by decide, show (0 : Int64).toInt = 0 from by decide]
  by_cases h1 : 0 ≤ x1.toInt ∧ x1.toInt ≤ 100000000
  · rw [if_neg (show ¬ x1.toInt < 0 by omega), if_neg (show ¬ 100000000 < x1.toInt by omega), if_pos h1, Option.bind_some, if_neg n10]
    by_cases h2 : 0 ≤ x2.toInt ∧ x2.toInt ≤ 1
    · rw [if_neg (show ¬ x2.toInt < 0 by omega), if_pos h2.2, if_pos h2, Option.bind_some, if_neg n10]
      obtain ⟨b1, l1, e1, e2, -⟩ := c_shapes n P set num tab wl ws ww wb ml ms mw mk sb sl hn hW hT
      have F : Fnd il is iw ib I b1 l1 set num tab hg w (lst wl ws ww wb P) := ⟨hI.1, hI.2, hT.1, hH.2, e2⟩
      obtain ⟨tb', tl', ta', tal', fw', g1, g2⟩ := s_fs_loop F (fun B _ => cst_bd hW hT hH.1 hI B) x1 (2 ^ I) n 0 tb tl ta tal fw (by omega) (by omega) (fun b hb => by cases hb)
      have eq : lst ml ms mw mk P = lst wl ws ww wb P := (lst_congr P hW.2.1).symm
      obtain ⟨ml', ms', mw', mk', tr', mb', k1, k2⟩ := s_mc_loop il is iw ib tab set w I P hi hP (lst wl ws ww wb P) hI.2 x1 x2 (2 ^ I) n 0 ml ms mw mk mb tr (by omega) (by omega) (okP_of_ag hW.2.1 hW.2.2) eq
      have g1' : f_X4_findSet n il is iw ib (nI I) tb tl ta tal fo fw b1 l1 set num hg x1 = some (tb', tl', ta', tal', encF (srch (cst tab set w (lst wl ws ww wb P) (itm il is iw ib) I) x1 (2 ^ I)), fw') := g1
      have k1' : f_X12_chosen_35 (nI P) tab set w il is iw ib (nI I) n ml ms mw mk tr mb x1 x2 (-5) 2000000000 0 = _ := k1
      rw [e1, Option.bind_some, g1', Option.bind_some, k1']
      cases hs : srch (cst tab set w (lst wl ws ww wb P) (itm il is iw ib) I) x1 (2 ^ I) with
      | none =>
        rw [if_pos (show encF none = -6 from rfl)]
        exact ⟨_, _, _, _, _, _, _, _, _, _, _, _, _, _, _, rfl, rfl, RWk_tr hW k2⟩
      | some B =>
        have hB := (srch_ok (cst tab set w (lst wl ws ww wb P) (itm il is iw ib) I) x1 (2 ^ I) B hs).1
        have hne : ¬ encF (some B) = -6 := by
          intro q
          have q2 : nI B = -6 := q
          have q3 := congrArg Int32.toInt q2
          rw [p_T (by omega), show (-6 : Int32).toInt = -6 from by decide] at q3
          omega
        have e3 := g2 B hs
        rw [if_neg hne, e3]
        by_cases q : x2 = 0
        · rw [if_pos q]
          refine ⟨_, _, _, _, _, _, _, _, _, ml', ms', mw', mk', tr', mb', rfl, ?_, RWk_tr hW k2⟩
          unfold ansM
          dsimp only
          rw [if_pos q]
          rfl
        · rw [if_neg q]
          refine ⟨_, _, _, _, _, _, _, _, _, ml', ms', mw', mk', tr', mb', rfl, ?_, RWk_tr hW k2⟩
          unfold ansM
          dsimp only
          rw [if_neg q]
    · rw [if_neg h2, Option.bind_some, if_pos y00]
      refine ⟨-2, sb, sl, tb, tl, ta, tal, fo, fw, ml, ms, mw, mk, tr, mb, ?_, rfl, hW⟩
      by_cases q : x2.toInt < 0
      · rw [if_pos q]
      · rw [if_neg q, if_neg (by omega)]
  · rw [if_neg h1, Option.bind_some, if_pos y00]
    refine ⟨-2, sb, sl, tb, tl, ta, tal, fo, fw, ml, ms, mw, mk, tr, mb, ?_, rfl, hW⟩
    by_cases q : x1.toInt < 0
    · rw [if_pos q]
    · rw [if_neg q, if_pos (by omega)]
theorem cs1_b {P I : Nat} {set num tab wl ws ww wb ml ms mw mk w il is iw ib : Nat → Int32} (hW : RWk P wl ws ww wb ml ms mw mk) (hT : RTb set num tab) (hw : B36 w) (hI : RIt I il is iw ib) : ∀ i, i < I → 0 ≤ (cs1 tab set w (lst wl ws ww wb P) (itm il is iw ib) i).toInt ∧ (cs1 tab set w (lst wl ws ww wb P) (itm il is iw ib) i).toInt ≤ 60000000 := fun i hi => by
  have lk := lst_ok P hW.2.2
  have hP := hW.1
  exact cs1_bd hT.2.1 hT.2.2.1 hw (by omega) lk.2 (hI.2 i hi)
theorem WL_b {P : Nat} {set num tab wl ws ww wb ml ms mw mk w : Nat → Int32} (hW : RWk P wl ws ww wb ml ms mw mk) (hT : RTb set num tab) (hw : B36 w) : 0 ≤ (WL tab set w (lst wl ws ww wb P)).toInt ∧ (WL tab set w (lst wl ws ww wb P)).toInt ≤ 60000000 := by
  have lk := lst_ok P hW.2.2
  have hP := hW.1
  exact WL_bd hT.2.1 hT.2.2.1 hw _ (by omega) lk.2
theorem nst_lt2 {cost : Nat → Int32} {lim : Int32} {k j : Nat} (h : nst cost lim k = some j) : j < k := (nst_lt cost lim k j h).1
theorem c_next (n P I : Nat) (set num tab wl ws ww wb ml ms mw mk sb sl sa sal mb w hg il is iw ib tb tl ta tal : Nat → Int32) (fo fw tr wt x1 : Int32) (hn : 900000 ≤ n) (hW : RWk P wl ws ww wb ml ms mw mk) (hT : RTb set num tab) (hH : RHu w hg) (hI : RIt I il is iw ib) :
    ∃ a b1 l1 a1 a2 tb' tl' ta' tal' fo' fw' ml' ms' mw' mk' tr' mb' wt', f_X11_next n set num wl ws ww wb (nI P) sb sl sa sal hg il is iw ib (nI I) tb tl ta tal fo fw x1 = some (a, b1, l1, a1, a2, tb', tl', ta', tal', fo', fw') ∧ f_X12_next n ml ms mw mk (nI P) tr tab set mb w il is iw ib (nI I) wt x1 = some (a, ml', ms', mw', mk', tr', mb', wt') ∧ RWk P wl ws ww wb ml' ms' mw' mk' := by
  have hP := hW.1
  have hi := hI.1
  unfold f_X11_next f_X12_next
  rw [i_01]
  simp only [lt_T, le_T, show (0 : Int32).toInt = 0 from by decide, show (1 : Int32).toInt = 1 from by decide]
  by_cases h2 : 0 ≤ x1.toInt ∧ x1.toInt ≤ 1
  · rw [if_neg (show ¬ x1.toInt < 0 by omega), if_pos h2.2, if_pos h2, Option.bind_some, if_neg n10]
    obtain ⟨b1, l1, e1, e2, -⟩ := c_shapes n P set num tab wl ws ww wb ml ms mw mk sb sl hn hW hT
    have hB : B8 b1 40000 := B8_congr e2.1.sy (fun j hj => (sh_B8 hW hT j hj).le (by decide))
    have F : Fnd il is iw ib I b1 l1 set num tab hg w (lst wl ws ww wb P) := ⟨hI.1, hI.2, hT.1, hH.2, e2⟩
    have cb := cs1_b hW hT hH.1 hI
    have wb' := WL_b hW hT hH.1
    have eW : wor b1 w 36 = WL tab set w (lst wl ws ww wb P) := wor_congr e2.1 (fun _ _ => rfl) 36 (by omega)
    have eq : lst ml ms mw mk P = lst wl ws ww wb P := (lst_congr P hW.2.1).symm
    obtain ⟨tb', tl', ta', tal', fw', g1, g2⟩ := s_findNext F (fun i hi => (cb i hi).1) (WL tab set w (lst wl ws ww wb P)) n (by omega) tb tl ta tal fo fw
    obtain ⟨b2, k1⟩ := s_worstBy ml ms mw mk tab set mb w P n (by omega) (by omega) (okP_of_ag hW.2.1 hW.2.2)
    rw [eq] at k1
    obtain ⟨ml', ms', mw', mk', b3, wt', k2, k3, k4⟩ := s_nextItem il is iw ib tab set w ml ms mw mk b2 I P n hi (by omega) (by omega) (lst wl ws ww wb P) hI.2 cb (WL tab set w (lst wl ws ww wb P)) wt wb' ⟨by have := hT.2.2.2.1.1; omega, hT.2.2.2.1.2⟩ (okP_of_ag hW.2.1 hW.2.2) eq
    rw [e1, Option.bind_some, s_wfull b1 w hg sa sal n (by omega) hH.2 hB hH.1, Option.bind_some, eW, g1, Option.bind_some, k1, Option.bind_some, k2, Option.bind_some]
    cases hs : nst (cs1 tab set w (lst wl ws ww wb P) (itm il is iw ib)) (WL tab set w (lst wl ws ww wb P) - set 3) I with
    | none =>
      rw [if_pos (show encF none = -6 from rfl), if_neg (show ¬ 0 ≤ (encN none).toInt from by decide)]
      exact ⟨_, _, _, _, _, _, _, _, _, _, _, _, _, _, _, _, _, _, rfl, rfl, RWk_tr hW k3⟩
    | some B =>
      have hB2 := nst_lt2 hs
      have hne : ¬ encF (some B) = -6 := by
        intro q
        have q2 : nI B = -6 := q
        have q3 := congrArg Int32.toInt q2
        rw [p_T (by omega), show (-6 : Int32).toInt = -6 from by decide] at q3
        omega
      have hnn : 0 ≤ (encN (some B)).toInt := by
        show 0 ≤ (nI B).toInt
        rw [p_T (by omega)]
        omega
      rw [if_neg hne, if_pos hnn, g2 B hs, k4 B hs]
      by_cases q : x1 = 0
      · rw [if_pos q, if_pos q]
        exact ⟨_, _, _, _, _, _, _, _, _, _, _, _, _, _, _, _, _, _, rfl, rfl, RWk_tr hW k3⟩
      · rw [if_neg q, if_neg q]
        exact ⟨_, _, _, _, _, _, _, _, _, _, _, _, _, _, _, _, _, _, rfl, rfl, RWk_tr hW k3⟩
  · rw [if_neg h2, Option.bind_some, if_pos y00]
    refine ⟨-2, sb, sl, sa, sal, tb, tl, ta, tal, fo, fw, ml, ms, mw, mk, tr, mb, wt, ?_, rfl, hW⟩
    by_cases q : x1.toInt < 0
    · rw [if_pos q]
    · rw [if_neg q, if_neg (by omega)]
theorem c_steps (n P I : Nat) (set num tab wl ws ww wb ml ms mw mk sb sl sa sal mb w hg il is iw ib tb tl ta tal : Nat → Int32) (fo fw tr wt x1 : Int32) (hn : 900000 ≤ n) (hW : RWk P wl ws ww wb ml ms mw mk) (hT : RTb set num tab) (hH : RHu w hg) (hI : RIt I il is iw ib) :
    ∃ a b1 l1 a1 a2 tb' tl' ta' tal' fo' fw' ml' ms' mw' mk' tr' mb' wt', f_X11_steps n set num wl ws ww wb (nI P) sb sl sa sal hg il is iw ib (nI I) tb tl ta tal fo fw x1 = some (a, b1, l1, a1, a2, tb', tl', ta', tal', fo', fw') ∧ f_X12_steps n ml ms mw mk (nI P) tr tab set mb w il is iw ib (nI I) wt x1 = some (a, ml', ms', mw', mk', tr', mb', wt') ∧ RWk P wl ws ww wb ml' ms' mw' mk' := by
  have hP := hW.1
  have hi := hI.1
  unfold f_X11_steps f_X12_steps
  rw [i_01]
  simp only [lt_T, le_T, show (0 : Int32).toInt = 0 from by decide, show (1 : Int32).toInt = 1 from by decide]
  by_cases h2 : 0 ≤ x1.toInt ∧ x1.toInt ≤ 1
  · rw [if_neg (show ¬ x1.toInt < 0 by omega), if_pos h2.2, if_pos h2, Option.bind_some, if_neg n10]
    obtain ⟨b1, l1, e1, e2, -⟩ := c_shapes n P set num tab wl ws ww wb ml ms mw mk sb sl hn hW hT
    have hB : B8 b1 40000 := B8_congr e2.1.sy (fun j hj => (sh_B8 hW hT j hj).le (by decide))
    have F : Fnd il is iw ib I b1 l1 set num tab hg w (lst wl ws ww wb P) := ⟨hI.1, hI.2, hT.1, hH.2, e2⟩
    have cb := cs1_b hW hT hH.1 hI
    have wb' := WL_b hW hT hH.1
    have lk := lst_ok P hW.2.2
    have h3 : 0 ≤ (set 3).toInt ∧ (set 3).toInt ≤ 100000 := ⟨by have := hT.2.2.2.1.1; omega, hT.2.2.2.1.2⟩
    have eW : wor b1 w 36 = WL tab set w (lst wl ws ww wb P) := wor_congr e2.1 (fun _ _ => rfl) 36 (by omega)
    have eq : lst ml ms mw mk P = lst wl ws ww wb P := (lst_congr P hW.2.1).symm
    obtain ⟨sb', sl', tb', tl', ta', tal', fo', fw', g1⟩ := s_steps9 wl ws ww wb (nI P) hT.2.1 hT.2.2.1 hH.1 x1 20 n 0 (lst wl ws ww wb P) b1 l1 (hpa b1 0 sa) (hpa b1 4 sal) tb tl ta tal fo fw (WL tab set w (lst wl ws ww wb P)) (by omega) (by omega) F (by omega) lk.2
    obtain ⟨b2, k1⟩ := s_worstBy ml ms mw mk tab set mb w P n (by omega) (by omega) (okP_of_ag hW.2.1 hW.2.2)
    rw [eq] at k1
    obtain ⟨ml', ms', mw', mk', b3, wt', k2, k3, k4⟩ := s_nextItem il is iw ib tab set w ml ms mw mk b2 I P n hi (by omega) (by omega) (lst wl ws ww wb P) hI.2 cb (WL tab set w (lst wl ws ww wb P)) wt wb' h3 (okP_of_ag hW.2.1 hW.2.2) eq
    have hW' := RWk_tr hW k3
    have eq' : lst ml' ms' mw' mk' P = lst wl ws ww wb P := (lst_congr P hW'.2.1).symm
    obtain ⟨m2, s2, w2, c2, t2, b4, wt2, k5, k6⟩ := s_steps12 hi hI.2 (nI P) hT.2.1 hT.2.2.1 hH.1 h3 x1 P 20 n 0 P (lst wl ws ww wb P) ml' ms' mw' mk' b3 (WL tab set w (lst wl ws ww wb P)) wt' _ (by omega) (by omega) (Nat.le_refl _) (by omega) (okP_of_ag hW'.2.1 hW'.2.2) eq' lk.1 lk.2 wb' (fun q => by omega) (fun _ => ⟨rfl, k4⟩)
    have g1' : f_X11_steps_32 set num wl ws ww wb (nI P) hg il is iw ib (nI I) n b1 l1 (hpa b1 0 sa) (hpa b1 4 sal) tb tl ta tal fo fw x1 (WL tab set w (lst wl ws ww wb P)) 0 = _ := g1
    have k5' : f_X12_steps_39 (nI P) tab set w il is iw ib (nI I) n ml' ms' mw' mk' (nI P) b3 wt' x1 (WL tab set w (lst wl ws ww wb P)) 0 _ = _ := k5
    rw [e1, Option.bind_some, s_wfull b1 w hg sa sal n (by omega) hH.2 hB hH.1, Option.bind_some, eW, g1', k1, Option.bind_some, k2, Option.bind_some, k5']
    exact ⟨_, _, _, _, _, _, _, _, _, _, _, _, _, _, _, _, _, _, rfl, rfl, RWk_tr hW' k6⟩
  · rw [if_neg h2, Option.bind_some, if_pos y00]
    refine ⟨-2, sb, sl, sa, sal, tb, tl, ta, tal, fo, fw, ml, ms, mw, mk, tr, mb, wt, ?_, rfl, hW⟩
    by_cases q : x1.toInt < 0
    · rw [if_pos q]
    · rw [if_neg q, if_neg (by omega)]
