/-! NEXT: the class and the model. -/
def nst (cost : Nat → Int32) (lim : Int32) : Nat → Option Nat
  | 0 => none
  | k + 1 => match nst cost lim k with
    | none => if lim < cost k then none else some k
    | some j => if cost j ≤ cost k then some j else some k
def mst (cost : Nat → Int32) : Nat → Option Nat
  | 0 => none
  | k + 1 => match mst cost k with
    | none => some k
    | some j => if cost j ≤ cost k then some j else some k
theorem nst_mst (cost : Nat → Int32) (lim : Int32) : ∀ k, nst cost lim k = match mst cost k with
    | none => none
    | some j => if lim < cost j then none else some j := by
  intro k
  induction k with
  | zero => rfl
  | succ k ih =>
    show (match nst cost lim k with
      | none => if lim < cost k then none else some k
      | some j => if cost j ≤ cost k then some j else some k) = match (match mst cost k with
      | none => some k
      | some j => if cost j ≤ cost k then some j else some k) with
      | none => none
      | some j => if lim < cost j then none else some j
    rw [ih]
    cases hm : mst cost k with
    | none => rfl
    | some j =>
      dsimp only
      by_cases h1 : lim < cost j
      · rw [if_pos h1]
        dsimp only
        by_cases h2 : cost j ≤ cost k
        · rw [if_pos h2]
          dsimp only
          rw [if_pos (Int32.lt_of_lt_of_le h1 h2), if_pos h1]
        · rw [if_neg h2]
      · rw [if_neg h1]
        dsimp only
        by_cases h2 : cost j ≤ cost k
        · rw [if_pos h2]
          dsimp only
          rw [if_neg h1]
        · rw [if_neg h2]
          dsimp only
          rw [if_neg (fun g => h1 (Int32.lt_trans g (Int32.not_le.mp h2)))]
theorem mst_lt (cost : Nat → Int32) : ∀ k j, mst cost k = some j → j < k := by
  intro k
  induction k with
  | zero => intro j h; cases h
  | succ k ih =>
    intro j h
    rw [show mst cost (k + 1) = (match mst cost k with
      | none => some k
      | some j => if cost j ≤ cost k then some j else some k) from rfl] at h
    cases hm : mst cost k with
    | none => rw [hm] at h; cases h; omega
    | some i =>
      rw [hm] at h
      dsimp only at h
      have := ih i hm
      split at h <;> cases h <;> omega
theorem nst_lt (cost : Nat → Int32) (lim : Int32) (k j : Nat) (h : nst cost lim k = some j) : j < k ∧ mst cost k = some j := by
  rw [nst_mst] at h
  cases hm : mst cost k with
  | none => rw [hm] at h; cases h
  | some i =>
    rw [hm] at h
    dsimp only at h
    split at h
    · cases h
    · have hij := Option.some.inj h
      subst hij
      exact ⟨mst_lt cost k _ hm, rfl⟩
def cs1 (tab set w : Nat → Int32) (l : List Pq) (item : Nat → Pq) (i : Nat) : Int32 := WL tab set w (l ++ [item i])
theorem s_fn_loop {il is iw ib : Nat → Int32} {items : Nat} {sb sl set num tab hung w : Nat → Int32} {wk : List Pq} (F : Fnd il is iw ib items sb sl set num tab hung w wk) (hc0 : ∀ i, i < items → 0 ≤ (cs1 tab set w wk (itm il is iw ib) i).toInt) (lim0 : Int32) : ∀ (r n i : Nat) (tb tl ta tal : Nat → Int32) (fw : Int32), i + r = items → r + 110 ≤ n → (∀ b, nst (cs1 tab set w wk (itm il is iw ib)) lim0 i = some b → fw = cs1 tab set w wk (itm il is iw ib) b) →
    ∃ tb' tl' ta' tal' fw', f_X4_findNext_19 il is iw ib (nI items) sb sl set num hung n tb tl ta tal (encF (nst (cs1 tab set w wk (itm il is iw ib)) lim0 i)) fw (limE (cs1 tab set w wk (itm il is iw ib)) lim0 (nst (cs1 tab set w wk (itm il is iw ib)) lim0 i)) (nI i) = some (tb', tl', ta', tal', encF (nst (cs1 tab set w wk (itm il is iw ib)) lim0 items), fw') ∧ (∀ b, nst (cs1 tab set w wk (itm il is iw ib)) lim0 items = some b → fw' = cs1 tab set w wk (itm il is iw ib) b) := by
  obtain ⟨hi, hq, ht, hh, he⟩ := F
  generalize hcost : cs1 tab set w wk (itm il is iw ib) = cost at hc0 ⊢
  intro r
  induction r with
  | zero =>
    intro n i tb tl ta tal fw hB hn hfw
    obtain ⟨m, rfl⟩ : ∃ m, n = m + 1 := ⟨n - 1, by omega⟩
    obtain rfl : i = items := by omega
    refine ⟨tb, tl, ta, tal, fw, ?_, hfw⟩
    show f_X4_findNext_19b il is iw ib (nI i) sb sl set num hung _ m _ _ _ _ _ _ _ _ = _
    unfold f_X4_findNext_19b
    rw [if_pos (Int32.le_refl _)]
  | succ r ih =>
    intro n i tb tl ta tal fw hB hn hfw
    obtain ⟨m, rfl⟩ : ∃ m, n = m + 1 := ⟨n - 1, by omega⟩
    have hS : eqS (va_cpy sb tb 0 0 (8 : Int32).toNatClampNeg, va_cpy sl tl 0 0 (8 : Int32).toNatClampNeg) (sh tab set wk) := ⟨(cpy_eq8 sb tb).tr he.1, (cpy_eq8 sl tl).tr he.2⟩
    have hE := lay1_eqS tab set hS (itm il is iw ib i) (hq i (by omega))
    rw [← sh_snoc] at hE
    have hl := s_lay6 (va_cpy sb tb 0 0 (8 : Int32).toNatClampNeg) (va_cpy sl tl 0 0 (8 : Int32).toNatClampNeg) set num tab il is iw ib 10 m i (by omega) (by omega) (hq i (by omega)) ht
    have hl : f_X6_lay m (va_cpy sb tb 0 0 (8 : Int32).toNatClampNeg) (va_cpy sl tl 0 0 (8 : Int32).toNatClampNeg) 10 il is iw ib set num (nI i) = some (lay1 tab set (va_cpy sb tb 0 0 (8 : Int32).toNatClampNeg, va_cpy sl tl 0 0 (8 : Int32).toNatClampNeg) (itm il is iw ib i)) := hl
    generalize lay1 tab set (va_cpy sb tb 0 0 (8 : Int32).toNatClampNeg, va_cpy sl tl 0 0 (8 : Int32).toNatClampNeg) (itm il is iw ib i) = T at hl hE
    have hc := wor_congr hE.1 (fun _ _ => rfl : eq36 w w) 36 (by omega)
    have hc : wor T.1 w 36 = cost i := by rw [hc, ← hcost]; rfl
    have e : ∀ fo lim, ∃ r, wwOk T.1 w lim r ∧ f_X4_findNext_19 il is iw ib (nI items) sb sl set num hung (m + 1) tb tl ta tal fo fw lim (nI i) = if lim < r then f_X4_findNext_19 il is iw ib (nI items) sb sl set num hung m T.1 T.2 (hpa T.1 0 ta) (hpa T.1 4 tal) fo fw lim (nI (i + 1)) else f_X4_findNext_19 il is iw ib (nI items) sb sl set num hung m T.1 T.2 (hpa T.1 0 ta) (hpa T.1 4 tal) (nI i) r (r - 1) (nI (i + 1)) := by
      intro fo lim
      obtain ⟨r, hr, hok⟩ := s_ww T.1 w hung ta tal m (by omega) hh lim
      refine ⟨r, hok, ?_⟩
      show f_X4_findNext_19b il is iw ib (nI items) sb sl set num hung (f_X4_findNext_19 il is iw ib (nI items) sb sl set num hung m) m _ _ _ _ _ _ _ _ = _
      unfold f_X4_findNext_19b f_X6_becomeLike
      rw [if_neg (by rw [p_le (by omega) (by omega)]; omega)]
      simp only [Option.bind_some]
      rw [hl]
      simp only [Option.bind_some]
      rw [hr]
      simp only [Option.bind_some, nmd, p_1]
    have key : ∀ st', nst cost lim0 (i + 1) = st' → ∀ (tb' tl' ta' tal' : Nat → Int32) (fw' : Int32), (∀ b, st' = some b → fw' = cost b) → ∃ tb2 tl2 ta2 tal2 fw2, f_X4_findNext_19 il is iw ib (nI items) sb sl set num hung m tb' tl' ta' tal' (encF st') fw' (limE cost lim0 st') (nI (i + 1)) = some (tb2, tl2, ta2, tal2, encF (nst cost lim0 items), fw2) ∧ (∀ b, nst cost lim0 items = some b → fw2 = cost b) := by
      intro st' hst tb' tl' ta' tal' fw' hf'
      subst hst
      exact ih m (i + 1) tb' tl' ta' tal' fw' (by omega) (by omega) hf'
    have es : nst cost lim0 (i + 1) = (match nst cost lim0 i with
      | none => if lim0 < cost i then none else some i
      | some j => if cost j ≤ cost i then some j else some i) := rfl
    cases hs : nst cost lim0 i with
    | none =>
      rw [hs] at es hfw
      dsimp only at es
      obtain ⟨r, hok, e1⟩ := e (encF none) (limE cost lim0 none)
      rw [e1]
      obtain ⟨i1, i2⟩ := ww_iff hok
      rw [hc] at i1 i2
      by_cases h : lim0 < cost i
      · rw [if_pos h] at es
        rw [if_pos (i1.mpr h)]
        exact key none es _ _ _ _ fw (fun b hb => by cases hb)
      · rw [if_neg h] at es
        rw [if_neg (fun g => h (i1.mp g)), i2 (fun g => h (i1.mp g))]
        exact key (some i) es _ _ _ _ (cost i) (fun b hb => by cases hb; rfl)
    | some j =>
      have hj := (nst_lt cost lim0 i j hs).1
      rw [hs] at es hfw
      dsimp only at es
      have hfwb : fw = cost j := hfw j rfl
      obtain ⟨r, hok, e1⟩ := e (encF (some j)) (limE cost lim0 (some j))
      rw [e1]
      obtain ⟨i1, i2⟩ := ww_iff hok
      rw [hc] at i1 i2
      have hl2 : (limE cost lim0 (some j) < cost i) ↔ cost j ≤ cost i := lt_pred (hc0 j (by omega))
      by_cases h : cost j ≤ cost i
      · rw [if_pos h] at es
        rw [if_pos (i1.mpr (hl2.mpr h))]
        exact key (some j) es _ _ _ _ fw (fun b hb => by cases hb; exact hfwb)
      · rw [if_neg h] at es
        rw [if_neg (fun g => h (hl2.mp (i1.mp g))), i2 (fun g => h (hl2.mp (i1.mp g)))]
        exact key (some i) es _ _ _ _ (cost i) (fun b hb => by cases hb; rfl)
/-- the model -/
def encN (st : Option Nat) : Int32 := match st with
  | none => -6
  | some b => nI b
theorem s_ni_loop (il is iw ib tab set w : Nat → Int32) (items t : Nat) (hit : items ≤ 10) (ht : t < 40) (wk : List Pq) (hq : ∀ i, i < items → okQ (itm il is iw ib i)) (hcb : ∀ i, i < items → (cs1 tab set w wk (itm il is iw ib) i).toInt ≤ 60000000) (v1 : Int32) : ∀ (r n i : Nat) (line str wat bak b0 : Nat → Int32) (tr : Int32), i + r = items → r + 400 ≤ n → (∀ j, j < t → okP line str wat bak j) → lst line str wat bak t = wk →
    ∃ line' str' wat' bak' b', f_X12_nextItem_17 tab set w il is iw ib (nI items) n line str wat bak tr b0 (leaE (cs1 tab set w wk (itm il is iw ib)) (mst (cs1 tab set w wk (itm il is iw ib)) i)) v1 (nI t) (encN (mst (cs1 tab set w wk (itm il is iw ib)) i)) (nI i) = some ((match mst (cs1 tab set w wk (itm il is iw ib)) items with
        | none => -6
        | some j => if v1 - cs1 tab set w wk (itm il is iw ib) j < set 3 then -6 else nI j), line', str', wat', bak', nI t, b', leaE (cs1 tab set w wk (itm il is iw ib)) (mst (cs1 tab set w wk (itm il is iw ib)) items)) ∧ ag4 t line str wat bak line' str' wat' bak' := by
  generalize hcost : cs1 tab set w wk (itm il is iw ib) = cost at hcb ⊢
  intro r
  induction r with
  | zero =>
    intro n i line str wat bak b0 tr hi hn hok hwk
    obtain ⟨m, rfl⟩ : ∃ m, n = m + 1 := ⟨n - 1, by omega⟩
    obtain rfl : i = items := by omega
    refine ⟨line, str, wat, bak, b0, ?_, ag4.rf _ _ _ _ _⟩
    show f_X12_nextItem_17b tab set w il is iw ib (nI i) _ m _ _ _ _ _ _ _ _ _ _ _ = _
    unfold f_X12_nextItem_17b
    rw [if_pos (Int32.le_refl _)]
    have e3 : (3 : Int32).toNatClampNeg = 3 := by decide
    rw [e3]
    cases hs : mst cost i with
    | none =>
      rw [if_pos (show encN none < 0 from by decide)]
    | some b =>
      have hb := mst_lt cost i b hs
      rw [if_neg (show ¬ encN (some b) < 0 from nI_nn (by omega))]
      dsimp only
      show (if v1 - cost b < set 3 then _ else _) = _
      split <;> rfl
  | succ r ih =>
    intro n i line str wat bak b0 tr hi hn hok hwk
    obtain ⟨m, rfl⟩ : ∃ m, n = m + 1 := ⟨n - 1, by omega⟩
    obtain ⟨b2, e2⟩ := s_worstBy (upd line t (il i)) (upd str t (is i)) (upd wat t (iw i)) (upd bak t (ib i)) tab set b0 w (t + 1) m (by omega) (by omega) (okP_upd hok (hq i (by omega)))
    rw [lst_upd, hwk, show WL tab set w (wk ++ [(il i, is i, iw i, ib i)]) = cost i from by rw [← hcost]; rfl] at e2
    have a2 := ag4.upd t line str wat bak (il i) (is i) (iw i) (ib i)
    have hok2 := okP_of_ag a2 hok
    have hwk2 : lst (upd line t (il i)) (upd str t (is i)) (upd wat t (iw i)) (upd bak t (ib i)) t = wk := by
      rw [← hwk]
      exact (lst_congr t a2).symm
    have e : ∀ wt v3, f_X12_nextItem_17 tab set w il is iw ib (nI items) (m + 1) line str wat bak tr b0 wt v1 (nI t) v3 (nI i) = if wt ≤ cost i then f_X12_nextItem_17 tab set w il is iw ib (nI items) m (upd line t (il i)) (upd str t (is i)) (upd wat t (iw i)) (upd bak t (ib i)) (nI (t + 1)) b2 wt v1 (nI t) v3 (nI (i + 1)) else f_X12_nextItem_17 tab set w il is iw ib (nI items) m (upd line t (il i)) (upd str t (is i)) (upd wat t (iw i)) (upd bak t (ib i)) (nI (t + 1)) b2 (cost i) v1 (nI t) (nI i) (nI (i + 1)) := by
      intro wt v3
      show f_X12_nextItem_17b tab set w il is iw ib (nI items) (f_X12_nextItem_17 tab set w il is iw ib (nI items) m) m _ _ _ _ _ _ _ _ _ _ _ = _
      unfold f_X12_nextItem_17b
      rw [if_neg (by rw [p_le (by omega) (by omega)]; omega), s_tryItem line str wat bak il is iw ib m t i (by omega) (by omega)]
      simp only [Option.bind_some]
      rw [e2]
      simp only [Option.bind_some, p_1]
    rw [e]
    have key : ∀ st', mst cost (i + 1) = st' → ∃ line' str' wat' bak' b', f_X12_nextItem_17 tab set w il is iw ib (nI items) m (upd line t (il i)) (upd str t (is i)) (upd wat t (iw i)) (upd bak t (ib i)) (nI (t + 1)) b2 (leaE cost st') v1 (nI t) (encN st') (nI (i + 1)) = some ((match mst cost items with
        | none => -6
        | some j => if v1 - cost j < set 3 then -6 else nI j), line', str', wat', bak', nI t, b', leaE cost (mst cost items)) ∧ ag4 t line str wat bak line' str' wat' bak' := by
      intro st' hst
      subst hst
      obtain ⟨l3, s3, w3, b3, c3, e3, a3⟩ := ih m (i + 1) _ _ _ _ b2 (nI (t + 1)) (by omega) (by omega) hok2 hwk2
      exact ⟨l3, s3, w3, b3, c3, e3, a2.tr a3⟩
    have es : mst cost (i + 1) = (match mst cost i with
      | none => some i
      | some j => if cost j ≤ cost i then some j else some i) := rfl
    cases hs : mst cost i with
    | none =>
      rw [hs] at es
      dsimp only at es
      rw [if_neg (show ¬ leaE cost none ≤ cost i from by
        have h := hcb i (by omega)
        have z : (2000000000 : Int32).toInt = 2000000000 := by decide
        show ¬ (2000000000 : Int32) ≤ cost i
        rw [Int32.le_iff_toInt_le, z]
        omega)]
      exact key (some i) es
    | some j =>
      rw [hs] at es
      dsimp only at es
      by_cases h : cost j ≤ cost i
      · rw [if_pos h] at es
        rw [if_pos (show leaE cost (some j) ≤ cost i from h)]
        exact key (some j) es
      · rw [if_neg h] at es
        rw [if_neg (show ¬ leaE cost (some j) ≤ cost i from h)]
        exact key (some i) es
