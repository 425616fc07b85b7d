/-! STEPS. -/
def stpA (tab set w : Nat → Int32) (item : Nat → Pq) (items : Nat) : Nat → List Pq → Int32 → Nat → Nat × Int32
  | 0, _, v, d => (d, v)
  | k + 1, l, v, d => match nst (cs1 tab set w l item) (v - set 3) items with
    | none => (d, v)
    | some j => stpA tab set w item items k (l ++ [item j]) (cs1 tab set w l item j) (d + 1)
theorem cs1_bd {tab set w : Nat → Int32} (ht : tabOk tab) (hs : setOk set) (hw : B36 w) {l : List Pq} (hl : l.length ≤ 39) (hq : ∀ p ∈ l, okQ p) {item : Nat → Pq} {i : Nat} (hi : okQ (item i)) : 0 ≤ (cs1 tab set w l item i).toInt ∧ (cs1 tab set w l item i).toInt ≤ 60000000 := by
  refine WL_bd ht hs hw (l ++ [item i]) (by rw [List.length_append]; simpa using hl) (fun p hp => ?_)
  rcases List.mem_append.mp hp with h | h
  · exact hq p h
  · rw [List.mem_singleton.mp h]
    exact hi
theorem s_findNext {il is iw ib : Nat → Int32} {items : Nat} {sb sl set num tab hung w : Nat → Int32} {wk : List Pq} (F : Fnd il is iw ib items sb sl set num tab hung w wk) (hc0 : ∀ i, i < items → 0 ≤ (cs1 tab set w wk (itm il is iw ib) i).toInt) (v : Int32) (n : Nat) (hn : 200 ≤ n) (tb tl ta tal : Nat → Int32) (fo fw : Int32) :
    ∃ tb' tl' ta' tal' fw', f_X4_findNext n il is iw ib (nI items) tb tl ta tal fo fw sb sl set num hung v = some (tb', tl', ta', tal', encF (nst (cs1 tab set w wk (itm il is iw ib)) (v - set 3) items), fw') ∧ (∀ b, nst (cs1 tab set w wk (itm il is iw ib)) (v - set 3) items = some b → fw' = cs1 tab set w wk (itm il is iw ib) b) := by
  obtain ⟨tb2, tl2, ta2, tal2, fw2, e, h⟩ := s_fn_loop F hc0 (v - set 3) items n 0 tb tl ta tal fw (by omega) (by have := F.1; omega) (fun b hb => by cases hb)
  refine ⟨tb2, tl2, ta2, tal2, fw2, ?_, h⟩
  unfold f_X4_findNext
  have e3 : (3 : Int32).toNatClampNeg = 3 := by decide
  rw [e3]
  exact e
theorem s_steps9 {il is iw ib : Nat → Int32} {items : Nat} {set num tab hung w : Nat → Int32} (wl ws ww wb : Nat → Int32) (wc : Int32) (ht : tabOk tab) (hs : setOk set) (hw : B36 w) (v1 : Int32) : ∀ (k n d : Nat) (l : List Pq) (sb sl sac sal tb tl ta tal : Nat → Int32) (fo fw v : Int32), d + k = 20 → k + 300 ≤ n → Fnd il is iw ib items sb sl set num tab hung w l → l.length + k ≤ 39 → (∀ p ∈ l, okQ p) →
    ∃ sb' sl' tb' tl' ta' tal' fo' fw', f_X11_steps_32 set num wl ws ww wb wc hung il is iw ib (nI items) n sb sl sac sal tb tl ta tal fo fw v1 v (nI d) = some ((if v1 = 0 then nI (stpA tab set w (itm il is iw ib) items k l v d).1 else (stpA tab set w (itm il is iw ib) items k l v d).2), sb', sl', sac, sal, tb', tl', ta', tal', fo', fw') := by
  intro k
  induction k with
  | zero =>
    intro n d l sb sl sac sal tb tl ta tal fo fw v hd hn F hl hq
    obtain ⟨m, rfl⟩ : ∃ m, n = m + 1 := ⟨n - 1, by omega⟩
    obtain rfl : d = 20 := by omega
    refine ⟨sb, sl, tb, tl, ta, tal, fo, fw, ?_⟩
    show f_X11_steps_32b set num wl ws ww wb wc hung il is iw ib (nI items) _ m sb sl sac sal tb tl ta tal fo fw v1 v (nI 20) = _
    unfold f_X11_steps_32b f_X11_steps_112
    rw [if_pos (by decide)]
    unfold stpA
    split <;> rfl
  | succ k ih =>
    intro n d l sb sl sac sal tb tl ta tal fo fw v hd hn F hl hq
    obtain ⟨m, rfl⟩ : ∃ m, n = m + 1 := ⟨n - 1, by omega⟩
    have hcb : ∀ i, i < items → 0 ≤ (cs1 tab set w l (itm il is iw ib) i).toInt := fun i hi => (cs1_bd ht hs hw (by omega) hq (F.2.1 i hi)).1
    obtain ⟨tb2, tl2, ta2, tal2, fw2, e, h⟩ := s_findNext F hcb v m (by omega) tb tl ta tal fo fw
    have e0 : f_X11_steps_32 set num wl ws ww wb wc hung il is iw ib (nI items) (m + 1) sb sl sac sal tb tl ta tal fo fw v1 v (nI d) = f_X11_steps_32b set num wl ws ww wb wc hung il is iw ib (nI items) (f_X11_steps_32 set num wl ws ww wb wc hung il is iw ib (nI items) m) m sb sl sac sal tb tl ta tal fo fw v1 v (nI d) := rfl
    rw [e0]
    unfold f_X11_steps_32b
    rw [show (20 : Int32) = nI 20 from rfl, if_neg (by rw [p_le (by omega) (by omega)]; omega), e]
    simp only [Option.bind_some]
    have es : stpA tab set w (itm il is iw ib) items (k + 1) l v d = (match nst (cs1 tab set w l (itm il is iw ib)) (v - set 3) items with
      | none => (d, v)
      | some j => stpA tab set w (itm il is iw ib) items k (l ++ [itm il is iw ib j]) (cs1 tab set w l (itm il is iw ib) j) (d + 1)) := rfl
    rw [es]
    cases hx : nst (cs1 tab set w l (itm il is iw ib)) (v - set 3) items with
    | none =>
      rw [if_pos (show encF none = -6 from rfl)]
      refine ⟨sb, sl, tb2, tl2, ta2, tal2, encF none, fw2, ?_⟩
      unfold f_X11_steps_112
      dsimp only
      split <;> rfl
    | some j =>
      have hj := (nst_lt _ _ _ _ hx).1
      have hit := F.1
      have hne : ¬ encF (some j) = -6 := fun hh => by
        have h2 : ¬ nI j < 0 := nI_nn (by omega)
        rw [show encF (some j) = nI j from rfl] at hh
        rw [hh] at h2
        exact h2 (by decide)
      have hfw := h j hx
      rw [if_neg hne, show encF (some j) = nI j from rfl]
      have hlay : f_X6_lay m sb sl 10 il is iw ib set num (nI j) = some (lay1 tab set (sb, sl) (itm il is iw ib j)) := s_lay6 sb sl set num tab il is iw ib 10 m j (by omega) (by omega) (F.2.1 j hj) F.2.2.1
      rw [hlay]
      simp only [Option.bind_some]
      rw [p_1, hfw]
      have hE := lay1_eqS tab set F.2.2.2.2 (itm il is iw ib j) (F.2.1 j hj)
      rw [← sh_snoc] at hE
      exact ih m (d + 1) (l ++ [itm il is iw ib j]) _ _ sac sal tb2 tl2 ta2 tal2 _ _ _ (by omega) (by omega) ⟨F.1, F.2.1, F.2.2.1, F.2.2.2.1, hE⟩ (by rw [List.length_append]; simp; omega) (fun p hp => by
        rcases List.mem_append.mp hp with h | h
        · exact hq p h
        · rw [List.mem_singleton.mp h]
          exact F.2.1 j hj)
