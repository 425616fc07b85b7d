/-! THE BEST ORDER: the search of the class. -/
def upb (cost : List Nat → Int32) (b : Option (List Nat)) (p : List Nat) : Option (List Nat) := match b with
  | none => some p
  | some x => if cost x ≤ cost p then some x else some p
def osr (c : Nat) (cost : List Nat → Int32) : Nat → List Nat → Option (List Nat) → Option (List Nat)
  | 0, _, b => b
  | k + 1, p, b => match runP c p with
    | none => upb cost b p
    | some q => osr c cost k q (upb cost b p)
theorem getD_map (c : Nat) (a : Nat → Nat) (j : Nat) (hj : j < c) : ((List.range c).map a).getD j 0 = a j := by
  rw [List.getD_eq_getElem?_getD, List.getElem?_map, List.getElem?_range hj]
  rfl
theorem hl2_list {c : Nat} {A0 A : Nat → Int32} {a : Nat → Nat} (h : hl2 c A0 A a) : hl2 c A0 A (fun j => ((List.range c).map a).getD j 0) := by
  refine ⟨fun j hj => ?_, h.2⟩
  show A j = nI (((List.range c).map a).getD j 0) ∧ ((List.range c).map a).getD j 0 < 1000
  rw [getD_map c a j hj]
  exact h.1 j hj
theorem pb_list {c : Nat} {a : Nat → Nat} (h : pb c a) : pb c (fun j => ((List.range c).map a).getD j 0) := by
  intro j hj
  show ((List.range c).map a).getD j 0 < c
  rw [getD_map c a j hj]
  exact h j hj
def limO (cost : List Nat → Int32) (b : Option (List Nat)) : Int32 := match b with
  | none => 2000000000
  | some x => cost x - 1
/-- what is kept of the best so far -/
def kpt (c : Nat) (cost : List Nat → Int32) (b : Option (List Nat)) (best : Nat → Int32) (bw : Int32) : Prop := ∀ x, b = some x → bw = cost x ∧ (∀ j, j < c → best j = nI (x.getD j 0)) ∧ pb c (fun j => x.getD j 0)
theorem s_best9 (set wl wp bent sb sl hung w b : Nat → Int32) (c : Nat) (hc : c ≤ 7) (hw : okW wl c) (hbt : bentOk set wp bent c c) (hh : ∀ d, d < 36 → hung d = hw36 w d) (hb : eq8 sb b) (hcb : ∀ p : List Nat, pb c (fun j => p.getD j 0) → 0 ≤ (ocs set wl wp b w c p).toInt ∧ (ocs set wl wp b w c p).toInt ≤ 100000000) (A0 : Nat → Int32) (kn : Int32) : ∀ (k n t : Nat) (p : List Nat) (st : Option (List Nat)) (best A tb tl ta tal : Nat → Int32) (bw : Int32), t + k = 5040 → k + 200 ≤ n → lastAt c k p = true → hl2 c A0 A (fun j => p.getD j 0) → pb c (fun j => p.getD j 0) → kpt c (ocs set wl wp b w c) st best bw →
    ∃ best' bw' A' tb' tl' ta' tal' x, f_X9_findBest_39 wl wp (nI c) sb sl hung set n best bw kn A bent tb tl ta tal (limO (ocs set wl wp b w c) st) (nI t) = some (best', bw', 1, A', bent, tb', tl', ta', tal') ∧ osr c (ocs set wl wp b w c) k p st = some x ∧ kpt c (ocs set wl wp b w c) (some x) best' bw' := by
  generalize hcost : ocs set wl wp b w c = cost at hcb ⊢
  intro k
  induction k with
  | zero => intro n t p st best A tb tl ta tal bw _ _ hl; cases hl
  | succ k ih =>
    intro n t p st best A tb tl ta tal bw ht hn hl hA hp hk
    obtain ⟨m, rfl⟩ : ∃ m, n = m + 1 := ⟨n - 1, by omega⟩
    obtain ⟨x, tb2, tl2, ta2, tal2, e1, i1, i2⟩ := s_wb9 set wl wp bent sb sl hung tb tl w b c m hc (by omega) hw A p hA.1 hp hbt hh hb ta tal (limO cost st)
    rw [hcost] at i1 i2
    have hcp := hcb p hp
    -- the step of the orders
    have h93 : ∀ (best2 : Nat → Int32) (bw2 : Int32) (st2 : Option (List Nat)), st2 = upb cost st p → kpt c cost st2 best2 bw2 → ∃ best' bw' A' tb' tl' ta' tal' x, f_X9_findBest_93 wl wp (nI c) sb sl hung set (f_X9_findBest_39 wl wp (nI c) sb sl hung set m) m best2 bw2 kn A bent tb2 tl2 ta2 tal2 (limO cost st2) (nI t) = some (best', bw', 1, A', bent, tb', tl', ta', tal') ∧ osr c cost (k + 1) p st = some x ∧ kpt c cost (some x) best' bw' := by
      intro best2 bw2 st2 hst hk2
      have hu : ∃ y, upb cost st p = some y := by
        unfold upb
        cases st with
        | none => exact ⟨p, rfl⟩
        | some z =>
          dsimp only
          split
          · exact ⟨z, rfl⟩
          · exact ⟨p, rfl⟩
      obtain ⟨y, hy⟩ := hu
      have g := s_goOn c hc A0 A (fun j => p.getD j 0) m (by omega) hA
      unfold f_X9_findBest_93
      have eo : osr c cost (k + 1) p st = (match runP c p with
        | none => upb cost st p
        | some q => osr c cost k q (upb cost st p)) := rfl
      have el : lastAt c (k + 1) p = (match runP c p with
        | none => true
        | some q => lastAt c k q) := rfl
      rw [el] at hl
      rw [eo]
      unfold runP at hl ⊢
      cases hx : nxt c (fun j => p.getD j 0) with
      | none =>
        rw [hx] at g hl
        dsimp only at g
        rw [g]
        simp only [Option.bind_some, if_true]
        refine ⟨best2, bw2, A, tb2, tl2, ta2, tal2, y, rfl, hy, ?_⟩
        rw [hst, hy] at hk2
        exact hk2
      | some a' =>
        rw [hx] at g hl
        dsimp only at g hl
        obtain ⟨A', e2, hA'⟩ := g
        rw [e2]
        simp only [Option.bind_some, show ¬ ((1 : Int32) = 0) from by decide, if_false]
        rw [p_1, ← hst]
        exact ih m (t + 1) ((List.range c).map a') st2 best2 A' tb2 tl2 ta2 tal2 bw2 (by omega) (by omega) hl (hl2_list hA') (pb_list (pb_nxt hp hx)) hk2
    have e39 : f_X9_findBest_39 wl wp (nI c) sb sl hung set (m + 1) best bw kn A bent tb tl ta tal (limO cost st) (nI t) = if limO cost st < x then f_X9_findBest_93 wl wp (nI c) sb sl hung set (f_X9_findBest_39 wl wp (nI c) sb sl hung set m) m best bw kn A bent tb2 tl2 ta2 tal2 (limO cost st) (nI t) else f_X9_findBest_93 wl wp (nI c) sb sl hung set (f_X9_findBest_39 wl wp (nI c) sb sl hung set m) m (va_cpy A best 0 0 c) x kn A bent tb2 tl2 ta2 tal2 (x - 1) (nI t) := by
      show f_X9_findBest_39b wl wp (nI c) sb sl hung set (f_X9_findBest_39 wl wp (nI c) sb sl hung set m) m best bw kn A bent tb tl ta tal _ (nI t) = _
      unfold f_X9_findBest_39b
      have hg : (!(decide (nI c < 0)) && decide ((nI c).toNatClampNeg ≤ 7) && decide ((nI c).toNatClampNeg ≤ 7)) = true := by
        rw [p_cl (by omega)]
        simp [nI_nn (show c < 2147483648 by omega), hc]
      rw [show (5040 : Int32) = nI 5040 from rfl, if_neg (by rw [p_le (by omega) (by omega)]; omega), e1, hg]
      simp only [Option.bind_some, grd_t, nmd]
      rw [p_cl (by omega)]
    rw [e39]
    have hnew : ¬ limO cost st < x → kpt c cost (some p) (va_cpy A best 0 0 c) x := by
      intro hlx y hy
      have e := Option.some.inj hy
      subst e
      refine ⟨i2 hlx, fun j hj => ?_, hp⟩
      rw [pk_cpy_in (by omega) (by omega), Nat.zero_add, Nat.sub_zero]
      exact (hA.1 j hj).1
    cases st with
    | none =>
      have hlx : ¬ limO cost none < x := fun h => by
        have h2 := i1.mp h
        rw [Int32.lt_iff_toInt_lt] at h2
        have z : (limO cost none).toInt = 2000000000 := by show (2000000000 : Int32).toInt = 2000000000; decide
        omega
      rw [if_neg hlx]
      have hk2 := hnew hlx
      rw [i2 hlx] at hk2 ⊢
      exact h93 _ _ (some p) rfl hk2
    | some z =>
      obtain ⟨hz1, hz2, hz3⟩ := hk z rfl
      have hl2 : (limO cost (some z) < cost p) ↔ cost z ≤ cost p := lt_pred (hcb z hz3).1
      by_cases h : cost z ≤ cost p
      · rw [if_pos (i1.mpr (hl2.mpr h))]
        have hu : some z = upb cost (some z) p := by
          unfold upb
          dsimp only
          rw [if_pos h]
        exact h93 best bw (some z) hu hk
      · have hlx : ¬ limO cost (some z) < x := fun g => h (hl2.mp (i1.mp g))
        rw [if_neg hlx]
        have hu : some p = upb cost (some z) p := by
          unfold upb
          dsimp only
          rw [if_neg h]
        have hk2 := hnew hlx
        rw [i2 hlx] at hk2 ⊢
        exact h93 _ _ (some p) hu hk2
