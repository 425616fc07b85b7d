/-! THE BEST ORDER: the search of the model. -/
def leaO (cost : List Nat → Int32) (b : Option (List Nat)) : Int32 := match b with
  | none => 2000000000
  | some x => cost x
theorem s_cpo (line str wat bak tab set w wl wp : Nat → Int32) (ps : Int32) (c : Nat) (hc : c ≤ 7) (k28 : (Nat → Int32) → (Nat → Int32) → (Nat → Int32) → Int32 → Int32 → Int32 → Option (Int32 × (Nat → Int32) × (Nat → Int32) × (Nat → Int32))) (bends A : Nat → Int32) (v1 v2 : Int32) : ∀ (r n j : Nat) (best : Nat → Int32), j + r = c → r + 1 ≤ n → (∀ i, i < j → best i = A i) →
    ∃ m' best', n ≤ m' + r + 1 ∧ f_X12_order_50 line str wat bak ps tab set w wl wp (nI c) k28 n bends A best v1 v2 (nI j) = f_X12_order_79 line str wat bak ps tab set w wl wp (nI c) k28 m' bends A best' v1 v2 ∧ (∀ i, i < c → best' i = A i) := by
  intro r
  induction r with
  | zero =>
    intro n j best hj hn hb
    obtain ⟨m, rfl⟩ : ∃ m, n = m + 1 := ⟨n - 1, by omega⟩
    obtain rfl : j = c := by omega
    refine ⟨m, best, by omega, ?_, hb⟩
    show f_X12_order_50b line str wat bak ps tab set w wl wp (nI j) k28 _ m bends A best v1 v2 (nI j) = _
    unfold f_X12_order_50b
    rw [if_pos (Int32.le_refl _)]
  | succ r ih =>
    intro n j best hj hn hb
    obtain ⟨m, rfl⟩ : ∃ m, n = m + 1 := ⟨n - 1, by omega⟩
    have e : f_X12_order_50 line str wat bak ps tab set w wl wp (nI c) k28 (m + 1) bends A best v1 v2 (nI j) = f_X12_order_50 line str wat bak ps tab set w wl wp (nI c) k28 m bends A (upd best j (A j)) v1 v2 (nI (j + 1)) := by
      show f_X12_order_50b line str wat bak ps tab set w wl wp (nI c) k28 (f_X12_order_50 line str wat bak ps tab set w wl wp (nI c) k28 m) m bends A best v1 v2 (nI j) = _
      unfold f_X12_order_50b
      rw [if_neg (by rw [p_le (by omega) (by omega)]; omega), p_vin (by omega) (by omega), p_cl (by omega), p_1]
      rfl
    rw [e]
    obtain ⟨m', best', h1, h2, h3⟩ := ih m (j + 1) (upd best j (A j)) (by omega) (by omega) (fun i hi => by
      by_cases h : i = j
      · subst h
        exact pk_us
      · rw [pk_un h]
        exact hb i (by omega))
    exact ⟨m', best', by omega, h2, h3⟩
theorem s_best12 (line str wat bak tab set w wl wp b : Nat → Int32) (P c : Nat) (hP : P ≤ 12) (hc : c ≤ 7) (hok : ∀ i, i < P → okP line str wat bak i) (hw : okW wl c) (hb : eq8 (sh tab set (lst line str wat bak P)).1 b) (hcb : ∀ p : List Nat, pb c (fun j => p.getD j 0) → 0 ≤ (ocs set wl wp b w c p).toInt ∧ (ocs set wl wp b w c p).toInt ≤ 100000000) (A0 : Nat → Int32) (v1 : Int32) : ∀ (k n : Nat) (p : List Nat) (st : Option (List Nat)) (best A bends : Nat → Int32), 20 * k + 500 ≤ n → lastAt c k p = true → hl2 c A0 A (fun j => p.getD j 0) → pb c (fun j => p.getD j 0) → (∀ x, st = some x → (∀ j, j < c → best j = nI (x.getD j 0)) ∧ pb c (fun j => x.getD j 0)) →
    ∃ m' best' A' b' x, 400 ≤ m' ∧ f_X12_order_28 line str wat bak (nI P) tab set w wl wp (nI c) n bends A best v1 (leaO (ocs set wl wp b w c) st) 1 = f_X12_order_28 line str wat bak (nI P) tab set w wl wp (nI c) m' b' A' best' v1 (ocs set wl wp b w c x) 0 ∧ osr c (ocs set wl wp b w c) k p st = some x ∧ (∀ j, j < c → best' j = nI (x.getD j 0)) ∧ pb c (fun j => x.getD j 0) := by
  generalize hcost : ocs set wl wp b w c = cost at hcb ⊢
  intro k
  induction k with
  | zero => intro n p st best A bends _ hl; cases hl
  | succ k ih =>
    intro n p st best A bends hn hl hA hp hk
    obtain ⟨m, rfl⟩ : ∃ m, n = m + 1 := ⟨n - 1, by omega⟩
    obtain ⟨b2, e1⟩ := s_wbo line str wat bak tab set w wl wp bends b P c m (by omega) hc (by omega) hok hw A p hA.1 hp hb
    rw [hcost] at e1
    have hcp := hcb p hp
    have h79 : ∀ (m2 : Nat) (best2 : Nat → Int32) (st2 : Option (List Nat)), m ≤ m2 + 10 → st2 = upb cost st p → (∀ x, st2 = some x → (∀ j, j < c → best2 j = nI (x.getD j 0)) ∧ pb c (fun j => x.getD j 0)) → ∃ m' best' A' b' x, 400 ≤ m' ∧ f_X12_order_79 line str wat bak (nI P) tab set w wl wp (nI c) (f_X12_order_28 line str wat bak (nI P) tab set w wl wp (nI c) m) m2 b2 A best2 v1 (leaO cost st2) = f_X12_order_28 line str wat bak (nI P) tab set w wl wp (nI c) m' b' A' best' v1 (cost x) 0 ∧ osr c cost (k + 1) p st = some x ∧ (∀ j, j < c → best' j = nI (x.getD j 0)) ∧ pb c (fun j => x.getD j 0) := by
      intro m2 best2 st2 hm2 hst hk2
      have hu : ∃ y, upb cost st p = some y := by
        unfold upb
        cases st with
        | none => exact ⟨p, rfl⟩
        | some z =>
          dsimp only
          split
          · exact ⟨z, rfl⟩
          · exact ⟨p, rfl⟩
      obtain ⟨y, hy⟩ := hu
      have g := s_nextOrder c hc A0 A (fun j => p.getD j 0) m2 (by omega) hA
      unfold f_X12_order_79
      have eo : osr c cost (k + 1) p st = (match runP c p with
        | none => upb cost st p
        | some q => osr c cost k q (upb cost st p)) := rfl
      have el : lastAt c (k + 1) p = (match runP c p with
        | none => true
        | some q => lastAt c k q) := rfl
      rw [el] at hl
      rw [eo]
      unfold runP at hl ⊢
      cases hx : nxt c (fun j => p.getD j 0) with
      | none =>
        rw [hx] at g hl
        dsimp only at g
        rw [g]
        simp only [Option.bind_some]
        have hst3 : st2 = some y := hst.trans hy
        obtain ⟨h1, h2⟩ := hk2 y hst3
        rw [hst3]
        exact ⟨m, best2, A, b2, y, by omega, rfl, hy, h1, h2⟩
      | some a' =>
        rw [hx] at g hl
        dsimp only at g hl
        obtain ⟨A', e2, hA'⟩ := g
        rw [e2]
        simp only [Option.bind_some]
        rw [← hst]
        exact ih m ((List.range c).map a') st2 best2 A' b2 (by omega) hl (hl2_list hA') (pb_list (pb_nxt hp hx)) hk2
    have e28 : f_X12_order_28 line str wat bak (nI P) tab set w wl wp (nI c) (m + 1) bends A best v1 (leaO cost st) 1 = if leaO cost st ≤ cost p then f_X12_order_79 line str wat bak (nI P) tab set w wl wp (nI c) (f_X12_order_28 line str wat bak (nI P) tab set w wl wp (nI c) m) m b2 A best v1 (leaO cost st) else f_X12_order_50 line str wat bak (nI P) tab set w wl wp (nI c) (f_X12_order_28 line str wat bak (nI P) tab set w wl wp (nI c) m) m b2 A best v1 (cost p) (nI 0) := by
      show f_X12_order_28b line str wat bak (nI P) tab set w wl wp (nI c) (f_X12_order_28 line str wat bak (nI P) tab set w wl wp (nI c) m) m bends A best v1 _ 1 = _
      unfold f_X12_order_28b
      rw [if_neg (show ¬ ((1 : Int32) = 0) from by decide), e1]
      rfl
    rw [e28]
    have hacc : some p = upb cost st p → ∃ m' best' A' b' x, 400 ≤ m' ∧ f_X12_order_50 line str wat bak (nI P) tab set w wl wp (nI c) (f_X12_order_28 line str wat bak (nI P) tab set w wl wp (nI c) m) m b2 A best v1 (cost p) (nI 0) = f_X12_order_28 line str wat bak (nI P) tab set w wl wp (nI c) m' b' A' best' v1 (cost x) 0 ∧ osr c cost (k + 1) p st = some x ∧ (∀ j, j < c → best' j = nI (x.getD j 0)) ∧ pb c (fun j => x.getD j 0) := by
      intro hu
      obtain ⟨m2, best2, h1, h2, h3⟩ := s_cpo line str wat bak tab set w wl wp (nI P) c hc (f_X12_order_28 line str wat bak (nI P) tab set w wl wp (nI c) m) b2 A v1 (cost p) c m 0 best (by omega) (by omega) (fun i hi => by omega)
      rw [h2]
      exact h79 m2 best2 (some p) (by omega) hu (fun x hx => by
        have ex := Option.some.inj hx
        subst ex
        exact ⟨fun j hj => (h3 j hj).trans (hA.1 j hj).1, hp⟩)
    cases st with
    | none =>
      rw [if_neg (show ¬ leaO cost none ≤ cost p from fun h => by
        rw [Int32.le_iff_toInt_le] at h
        have z : (leaO cost none).toInt = 2000000000 := by show (2000000000 : Int32).toInt = 2000000000; decide
        omega)]
      exact hacc rfl
    | some z =>
      by_cases h : cost z ≤ cost p
      · rw [if_pos (show leaO cost (some z) ≤ cost p from h)]
        have hu : some z = upb cost (some z) p := by
          unfold upb
          dsimp only
          rw [if_pos h]
        exact h79 m best (some z) (by omega) hu hk
      · rw [if_neg (show ¬ leaO cost (some z) ≤ cost p from h)]
        have hu : some p = upb cost (some z) p := by
          unfold upb
          dsimp only
          rw [if_neg h]
        exact hacc hu
