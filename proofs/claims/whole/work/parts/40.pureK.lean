/-! STEPS of the model. -/
theorem sub_lt_sub {v c s : Int32} (hv : 0 ≤ v.toInt ∧ v.toInt ≤ 60000000) (hc : 0 ≤ c.toInt ∧ c.toInt ≤ 60000000) (hs : 0 ≤ s.toInt ∧ s.toInt ≤ 100000) : (v - c < s) ↔ (v - s < c) := by
  have e1 : (v - c).toInt = v.toInt - c.toInt := by rw [Int32.toInt_sub, bm _ (by omega) (by omega)]
  have e2 : (v - s).toInt = v.toInt - s.toInt := by rw [Int32.toInt_sub, bm _ (by omega) (by omega)]
  rw [Int32.lt_iff_toInt_lt, Int32.lt_iff_toInt_lt, e1, e2]
  omega
theorem s_nextItem (il is iw ib tab set w line str wat bak bends : Nat → Int32) (items t n : Nat) (hit : items ≤ 10) (ht : t < 40) (hn : 500 ≤ n) (wk : List Pq) (hq : ∀ i, i < items → okQ (itm il is iw ib i)) (hcb : ∀ i, i < items → 0 ≤ (cs1 tab set w wk (itm il is iw ib) i).toInt ∧ (cs1 tab set w wk (itm il is iw ib) i).toInt ≤ 60000000) (v wt : Int32) (hv : 0 ≤ v.toInt ∧ v.toInt ≤ 60000000) (h3 : 0 ≤ (set 3).toInt ∧ (set 3).toInt ≤ 100000) (hok : ∀ j, j < t → okP line str wat bak j) (hwk : lst line str wat bak t = wk) :
    ∃ line' str' wat' bak' b' wt', f_X12_nextItem n line str wat bak (nI t) tab set bends w il is iw ib (nI items) wt v = some (encN (nst (cs1 tab set w wk (itm il is iw ib)) (v - set 3) items), line', str', wat', bak', nI t, b', wt') ∧ ag4 t line str wat bak line' str' wat' bak' ∧ (∀ j, nst (cs1 tab set w wk (itm il is iw ib)) (v - set 3) items = some j → wt' = cs1 tab set w wk (itm il is iw ib) j) := by
  obtain ⟨l2, s2, w2, b2, c2, e, a2⟩ := s_ni_loop il is iw ib tab set w items t hit ht wk hq (fun i hi => (hcb i hi).2) v items n 0 line str wat bak bends (nI t) (by omega) (by omega) hok hwk
  have e0 : f_X12_nextItem n line str wat bak (nI t) tab set bends w il is iw ib (nI items) wt v = f_X12_nextItem_17 tab set w il is iw ib (nI items) n line str wat bak (nI t) bends (leaE (cs1 tab set w wk (itm il is iw ib)) (mst (cs1 tab set w wk (itm il is iw ib)) 0)) v (nI t) (encN (mst (cs1 tab set w wk (itm il is iw ib)) 0)) (nI 0) := rfl
  refine ⟨l2, s2, w2, b2, c2, leaE (cs1 tab set w wk (itm il is iw ib)) (mst (cs1 tab set w wk (itm il is iw ib)) items), ?_, a2, fun j hj => ?_⟩
  · rw [e0, e, nst_mst]
    cases hm : mst (cs1 tab set w wk (itm il is iw ib)) items with
    | none => rfl
    | some j =>
      have hj := mst_lt _ _ _ hm
      dsimp only
      by_cases h : v - set 3 < cs1 tab set w wk (itm il is iw ib) j
      · rw [if_pos h, if_pos ((sub_lt_sub hv (hcb j hj) h3).mpr h)]
        rfl
      · rw [if_neg h, if_neg (fun g => h ((sub_lt_sub hv (hcb j hj) h3).mp g))]
        rfl
  · rw [(nst_lt _ _ _ _ hj).2]
    rfl
theorem s_steps12 {il is iw ib tab set w : Nat → Int32} {items : Nat} (hit : items ≤ 10) (hqi : ∀ i, i < items → okQ (itm il is iw ib i)) (ps : Int32) (ht : tabOk tab) (hs : setOk set) (hw : B36 w) (h3 : 0 ≤ (set 3).toInt ∧ (set 3).toInt ≤ 100000) (v1 : Int32) (P : Nat) : ∀ (k n d t : Nat) (l : List Pq) (line str wat bak bends : Nat → Int32) (v wt nx : Int32), d + k = 20 → k + 600 ≤ n → P ≤ t → t + k ≤ 39 → (∀ j, j < t → okP line str wat bak j) → lst line str wat bak t = l → l.length = t → (∀ p ∈ l, okQ p) → 0 ≤ v.toInt ∧ v.toInt ≤ 60000000 →
    (k = 0 → nx = -6) → (0 < k → nx = encN (nst (cs1 tab set w l (itm il is iw ib)) (v - set 3) items) ∧ ∀ j, nst (cs1 tab set w l (itm il is iw ib)) (v - set 3) items = some j → wt = cs1 tab set w l (itm il is iw ib) j) →
    ∃ line' str' wat' bak' t' b' wt', f_X12_steps_39 ps tab set w il is iw ib (nI items) n line str wat bak (nI t) bends wt v1 v (nI d) nx = some ((if v1 = 0 then nI (stpA tab set w (itm il is iw ib) items k l v d).1 else (stpA tab set w (itm il is iw ib) items k l v d).2), line', str', wat', bak', t', b', wt') ∧ ag4 P line str wat bak line' str' wat' bak' := by
  intro k
  induction k with
  | zero =>
    intro n d t l line str wat bak bends v wt nx hd hn hPt htk hok hwk hlen hq hv hx0 _
    obtain ⟨m, rfl⟩ : ∃ m, n = m + 1 := ⟨n - 1, by omega⟩
    refine ⟨line, str, wat, bak, nI t, bends, wt, ?_, ag4.rf _ _ _ _ _⟩
    have e0 : f_X12_steps_39 ps tab set w il is iw ib (nI items) (m + 1) line str wat bak (nI t) bends wt v1 v (nI d) nx = f_X12_steps_39b ps tab set w il is iw ib (nI items) (f_X12_steps_39 ps tab set w il is iw ib (nI items) m) m line str wat bak (nI t) bends wt v1 v (nI d) nx := rfl
    rw [e0, hx0 rfl]
    unfold f_X12_steps_39b f_X12_steps_85
    rw [if_pos (show (-6 : Int32) < 0 from by decide)]
    unfold stpA
    split <;> rfl
  | succ k ih =>
    intro n d t l line str wat bak bends v wt nx hd hn hPt htk hok hwk hlen hq hv _ hx1
    obtain ⟨m, rfl⟩ : ∃ m, n = m + 1 := ⟨n - 1, by omega⟩
    obtain ⟨hnx, hwt⟩ := hx1 (by omega)
    have e0 : f_X12_steps_39 ps tab set w il is iw ib (nI items) (m + 1) line str wat bak (nI t) bends wt v1 v (nI d) nx = f_X12_steps_39b ps tab set w il is iw ib (nI items) (f_X12_steps_39 ps tab set w il is iw ib (nI items) m) m line str wat bak (nI t) bends wt v1 v (nI d) nx := rfl
    rw [e0]
    unfold f_X12_steps_39b
    have es : stpA tab set w (itm il is iw ib) items (k + 1) l v d = (match nst (cs1 tab set w l (itm il is iw ib)) (v - set 3) items with
      | none => (d, v)
      | some j => stpA tab set w (itm il is iw ib) items k (l ++ [itm il is iw ib j]) (cs1 tab set w l (itm il is iw ib) j) (d + 1)) := rfl
    rw [es]
    cases hx : nst (cs1 tab set w l (itm il is iw ib)) (v - set 3) items with
    | none =>
      rw [hx] at hnx
      rw [hnx, if_pos (show encN none < 0 from by decide)]
      refine ⟨line, str, wat, bak, nI t, bends, wt, ?_, ag4.rf _ _ _ _ _⟩
      unfold f_X12_steps_85
      dsimp only
      split <;> rfl
    | some j =>
      have hj := (nst_lt _ _ _ _ hx).1
      rw [hx] at hnx
      have hwj := hwt j hx
      rw [hnx, show encN (some j) = nI j from rfl, if_neg (nI_nn (show j < 2147483648 by omega)), show (20 : Int32) = nI 20 from rfl, if_neg (by rw [p_le (by omega) (by omega)]; omega), s_tryItem line str wat bak il is iw ib m t j (by omega) (by omega)]
      simp only [Option.bind_some]
      rw [p_1, hwj]
      skip
      have hcj := cs1_bd ht hs hw (l := l) (by omega) hq (hqi j hj)
      have hok2 : ∀ i, i < t + 1 → okP (upd line t (il j)) (upd str t (is j)) (upd wat t (iw j)) (upd bak t (ib j)) i := okP_upd hok (hqi j hj)
      have hwk2 : lst (upd line t (il j)) (upd str t (is j)) (upd wat t (iw j)) (upd bak t (ib j)) (t + 1) = l ++ [itm il is iw ib j] := by rw [lst_upd, hwk]; rfl
      have hq2 : ∀ p ∈ l ++ [itm il is iw ib j], okQ p := fun p hp => by
        rcases List.mem_append.mp hp with h | h
        · exact hq p h
        · rw [List.mem_singleton.mp h]
          exact hqi j hj
      have hlen2 : (l ++ [itm il is iw ib j]).length = t + 1 := by rw [List.length_append, hlen]; rfl
      have ag := (ag4.upd t line str wat bak (il j) (is j) (iw j) (ib j)).le hPt
      by_cases hk : k = 0
      · subst hk
        rw [if_pos ((p_le (by omega) (by omega)).mpr (by omega))]
        obtain ⟨l3, s3, w3, b3, t3, c3, wt3, e3, a3⟩ := ih m (d + 1) (t + 1) (l ++ [itm il is iw ib j]) _ _ _ _ bends (cs1 tab set w l (itm il is iw ib) j) (cs1 tab set w l (itm il is iw ib) j) (-6) (by omega) (by omega) (by omega) (by omega) hok2 hwk2 hlen2 hq2 hcj (fun _ => rfl) (fun h => by omega)
        exact ⟨l3, s3, w3, b3, t3, c3, wt3, e3, ag.tr a3⟩
      · rw [if_neg (fun h => by have := (p_le (by omega) (by omega)).mp h; omega)]
        obtain ⟨l4, s4, w4, b4, c4, wt4, e4, a4, h4⟩ := s_nextItem il is iw ib tab set w (upd line t (il j)) (upd str t (is j)) (upd wat t (iw j)) (upd bak t (ib j)) bends items (t + 1) m hit (by omega) (by omega) (l ++ [itm il is iw ib j]) hqi (fun i hi => cs1_bd ht hs hw (by omega) hq2 (hqi i hi)) (cs1 tab set w l (itm il is iw ib) j) (cs1 tab set w l (itm il is iw ib) j) hcj h3 hok2 hwk2
        rw [e4]
        simp only [Option.bind_some]
        obtain ⟨l3, s3, w3, b3, t3, c3, wt3, e3, a3⟩ := ih m (d + 1) (t + 1) (l ++ [itm il is iw ib j]) l4 s4 w4 b4 c4 (cs1 tab set w l (itm il is iw ib) j) wt4 _ (by omega) (by omega) (by omega) (by omega) (okP_of_ag a4 hok2) (by rw [← hwk2]; exact (lst_congr (t + 1) a4).symm) hlen2 hq2 hcj (fun h => absurd h hk) (fun _ => ⟨rfl, h4⟩)
        exact ⟨l3, s3, w3, b3, t3, c3, wt3, e3, (ag.tr (a4.le (by omega))).tr a3⟩
