/-! CHOSEN by the model. -/
def encM (st : Option Nat) : Int32 := match st with
  | none => -5
  | some b => nI b
def leaE (cost : Nat → Int32) (st : Option Nat) : Int32 := match st with
  | none => 2000000000
  | some b => cost b
def ansM (cost : Nat → Int32) (what : Int32) (st : Option Nat) : Int32 := match st with
  | none => -5
  | some b => if what = 0 then nI b else cost b
theorem nI_nn {b : Nat} (hb : b < 2147483648) : ¬ nI b < 0 := nI_pos hb
theorem s_mc_loop (il is iw ib tab set w : Nat → Int32) (items P : Nat) (hit : items ≤ 10) (hP : P ≤ 12) (wk : List Pq) (hq : ∀ i, i < items → okQ (itm il is iw ib i)) (most what : Int32) : ∀ (r n B : Nat) (line str wat bak b0 : Nat → Int32) (t : Int32), B + r = 2 ^ items → r + 400 ≤ n → (∀ i, i < P → okP line str wat bak i) → lst line str wat bak P = wk →
    ∃ line' str' wat' bak' t' b', f_X12_chosen_35 (nI P) tab set w il is iw ib (nI items) n line str wat bak t b0 most what (encM (srch (cst tab set w wk (itm il is iw ib) items) most B)) (leaE (cst tab set w wk (itm il is iw ib) items) (srch (cst tab set w wk (itm il is iw ib) items) most B)) (nI B) = some (ansM (cst tab set w wk (itm il is iw ib) items) what (srch (cst tab set w wk (itm il is iw ib) items) most (2 ^ items)), line', str', wat', bak', t', b') ∧ ag4 P line str wat bak line' str' wat' bak' := by
  have hp2 := pow_le items hit
  generalize hcost : cst tab set w wk (itm il is iw ib) items = cost
  intro r
  induction r with
  | zero =>
    intro n B line str wat bak b0 t hB hn hok hwk
    obtain ⟨m, rfl⟩ : ∃ m, n = m + 1 := ⟨n - 1, by omega⟩
    obtain rfl : B = 2 ^ items := by omega
    refine ⟨line, str, wat, bak, t, b0, ?_, ag4.rf _ _ _ _ _⟩
    show f_X12_chosen_35b (nI P) tab set w il is iw ib (nI items) _ m _ _ _ _ _ _ _ _ _ _ _ = _
    unfold f_X12_chosen_35b
    rw [shl_2 items hit, if_pos (Int32.le_refl _)]
    cases hs : srch cost most (2 ^ items) with
    | none =>
      rw [if_neg (show ¬ (0 : Int32) ≤ encM none from by decide)]
      rfl
    | some b =>
      have hb := (srch_ok cost most _ b hs).1
      rw [if_pos (show (0 : Int32) ≤ encM (some b) from Int32.not_lt.mp (nI_nn (by omega)))]
      unfold ansM
      dsimp only
      split <;> rfl
  | succ r ih =>
    intro n B line str wat bak b0 t hB hn hok hwk
    obtain ⟨m, rfl⟩ : ∃ m, n = m + 1 := ⟨n - 1, by omega⟩
    have hB2 : B < 1024 := by omega
    obtain ⟨l2, s2, w2, b2, t2, c2, e2, a2⟩ := s_worstWith_loop il is iw ib tab set w items hit (nI P) (nI B) hq items m 0 P line str wat bak b0 (by omega) (by omega) (by omega) hok
    rw [hwk, show WL tab set w (wk ++ selR (itm il is iw ib) (nI B) 0 items) = cost B from by rw [← hcost]; rfl] at e2
    have hok2 := okP_of_ag a2 hok
    have hwk2 : lst l2 s2 w2 b2 P = wk := by
      rw [← hwk]
      exact (lst_congr P a2).symm
    have key : ∀ st', srch cost most (B + 1) = st' → ∃ line' str' wat' bak' t' b', f_X12_chosen_35 (nI P) tab set w il is iw ib (nI items) m l2 s2 w2 b2 t2 c2 most what (encM st') (leaE cost st') (nI (B + 1)) = some (ansM cost what (srch cost most (2 ^ items)), line', str', wat', bak', t', b') ∧ ag4 P line str wat bak line' str' wat' bak' := by
      intro st' hst
      subst hst
      obtain ⟨l3, s3, w3, b3, t3, c3, e3, a3⟩ := ih m (B + 1) l2 s2 w2 b2 c2 t2 (by omega) (by omega) hok2 hwk2
      exact ⟨l3, s3, w3, b3, t3, c3, e3, a2.tr a3⟩
    have e62 : ∀ (v3 v4 : Int32), f_X12_chosen_62 (nI P) tab set w il is iw ib (nI items) (f_X12_chosen_35 (nI P) tab set w il is iw ib (nI items) m) m line str wat bak t b0 most what v3 v4 (nI B) = (if v3 < 0 then f_X12_chosen_93 (nI P) tab set w il is iw ib (nI items) (f_X12_chosen_35 (nI P) tab set w il is iw ib (nI items) m) m l2 s2 w2 b2 t2 c2 most what v3 v4 (nI B) (cost B) else Option.bind (some (nI (pop B))) (fun q14 => Option.bind (f_X12_ones m v3) (fun q15 => if q14 < q15 then f_X12_chosen_93 (nI P) tab set w il is iw ib (nI items) (f_X12_chosen_35 (nI P) tab set w il is iw ib (nI items) m) m l2 s2 w2 b2 t2 c2 most what v3 v4 (nI B) (cost B) else (if v4 ≤ cost B then f_X12_chosen_98 (nI P) tab set w il is iw ib (nI items) (f_X12_chosen_35 (nI P) tab set w il is iw ib (nI items) m) m l2 s2 w2 b2 t2 c2 most what v3 v4 (nI B) (cost B) 0 else f_X12_chosen_93 (nI P) tab set w il is iw ib (nI items) (f_X12_chosen_35 (nI P) tab set w il is iw ib (nI items) m) m l2 s2 w2 b2 t2 c2 most what v3 v4 (nI B) (cost B))))) := by
      intro v3 v4
      unfold f_X12_chosen_62 f_X12_worstWith
      rw [k0, e2]
      simp only [Option.bind_some]
      rw [s_ones m B hB2 (by omega)]
      rfl
    have e93 : ∀ (v3 v4 : Int32), f_X12_chosen_93 (nI P) tab set w il is iw ib (nI items) (f_X12_chosen_35 (nI P) tab set w il is iw ib (nI items) m) m l2 s2 w2 b2 t2 c2 most what v3 v4 (nI B) (cost B) = if most < cost B then f_X12_chosen_35 (nI P) tab set w il is iw ib (nI items) m l2 s2 w2 b2 t2 c2 most what v3 v4 (nI (B + 1)) else f_X12_chosen_35 (nI P) tab set w il is iw ib (nI items) m l2 s2 w2 b2 t2 c2 most what (nI B) (cost B) (nI (B + 1)) := by
      intro v3 v4
      unfold f_X12_chosen_93 f_X12_chosen_98
      rw [p_1]
      simp only [show ¬ ((1 : Int32) = 0) from by decide, if_false]
    have e98 : ∀ (v3 v4 : Int32), f_X12_chosen_98 (nI P) tab set w il is iw ib (nI items) (f_X12_chosen_35 (nI P) tab set w il is iw ib (nI items) m) m l2 s2 w2 b2 t2 c2 most what v3 v4 (nI B) (cost B) 0 = f_X12_chosen_35 (nI P) tab set w il is iw ib (nI items) m l2 s2 w2 b2 t2 c2 most what v3 v4 (nI (B + 1)) := by
      intro v3 v4
      unfold f_X12_chosen_98
      rw [p_1]
      simp only [if_true]
      split <;> rfl
    have es : srch cost most (B + 1) = stp cost most (srch cost most B) B := rfl
    have eb : ∀ (v3 v4 : Int32), f_X12_chosen_35 (nI P) tab set w il is iw ib (nI items) (m + 1) line str wat bak t b0 most what v3 v4 (nI B) = (if v3 < 0 then f_X12_chosen_62 (nI P) tab set w il is iw ib (nI items) (f_X12_chosen_35 (nI P) tab set w il is iw ib (nI items) m) m line str wat bak t b0 most what v3 v4 (nI B) else Option.bind (some (nI (pop B))) (fun q9 => Option.bind (f_X12_ones m v3) (fun q10 => if q10 < q9 then f_X12_chosen_35 (nI P) tab set w il is iw ib (nI items) m line str wat bak t b0 most what v3 v4 (nI (B + 1)) else f_X12_chosen_62 (nI P) tab set w il is iw ib (nI items) (f_X12_chosen_35 (nI P) tab set w il is iw ib (nI items) m) m line str wat bak t b0 most what v3 v4 (nI B)))) := by
      intro v3 v4
      show f_X12_chosen_35b (nI P) tab set w il is iw ib (nI items) (f_X12_chosen_35 (nI P) tab set w il is iw ib (nI items) m) m _ _ _ _ _ _ _ _ _ _ _ = _
      unfold f_X12_chosen_35b
      rw [shl_2 items hit, if_neg (by rw [p_le (by omega) (by omega)]; omega), s_ones m B hB2 (by omega), p_1]
    rw [eb]
    have pB := pop_le B
    cases hs : srch cost most B with
    | none =>
      rw [hs] at es
      unfold stp at es
      dsimp only at es
      rw [if_pos (show encM none < 0 from by decide), e62, if_pos (show encM none < 0 from by decide), e93]
      by_cases h : most < cost B
      · rw [if_pos h] at es ⊢
        exact key none es
      · rw [if_neg h] at es ⊢
        exact key (some B) es
    | some b =>
      have hb := srch_ok cost most B b hs
      rw [hs] at es
      unfold stp at es
      dsimp only at es
      have pb := pop_le b
      have hn0 : ¬ encM (some b) < 0 := nI_nn (by omega)
      rw [if_neg hn0, show encM (some b) = nI b from rfl, s_ones m b (by omega) (by omega)]
      simp only [Option.bind_some]
      by_cases h1 : pop b < pop B
      · rw [if_pos ((p_lt (by omega) (by omega)).mpr h1)]
        rw [if_pos h1] at es
        obtain ⟨l3, s3, w3, b3, t3, c3, e3, a3⟩ := ih m (B + 1) line str wat bak b0 t (by omega) (by omega) hok hwk
        rw [es] at e3
        exact ⟨l3, s3, w3, b3, t3, c3, e3, a3⟩
      · rw [if_neg (fun h => h1 ((p_lt (by omega) (by omega)).mp h))]
        rw [if_neg h1] at es
        rw [e62, if_neg (show ¬ nI b < 0 from hn0), s_ones m b (by omega) (by omega)]
        simp only [Option.bind_some]
        by_cases h2 : pop B < pop b
        · rw [if_pos ((p_lt (by omega) (by omega)).mpr h2), e93]
          rw [if_pos h2] at es
          by_cases h : most < cost B
          · rw [if_pos h] at es ⊢
            exact key (some b) es
          · rw [if_neg h] at es ⊢
            exact key (some B) es
        · rw [if_neg (fun h => h2 ((p_lt (by omega) (by omega)).mp h))]
          rw [if_neg h2] at es
          by_cases h : cost b ≤ cost B
          · rw [if_pos h] at es
            rw [if_pos (show leaE cost (some b) ≤ cost B from h), e98]
            exact key (some b) es
          · rw [if_neg h] at es
            rw [if_neg (show ¬ leaE cost (some b) ≤ cost B from h), e93, if_neg (fun g => hb.2 (Int32.lt_trans g (Int32.not_le.mp h)))]
            exact key (some B) es
