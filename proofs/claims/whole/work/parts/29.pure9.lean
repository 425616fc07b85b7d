/-! CHOSEN: the search over sets, of the class and of the model. -/
def pop (b : Nat) : Nat := b % 2 + b / 2 % 2 + b / 4 % 2 + b / 8 % 2 + b / 16 % 2 + b / 32 % 2 + b / 64 % 2 + b / 128 % 2 + b / 256 % 2 + b / 512 % 2
theorem pop_le (b : Nat) : pop b ≤ 10 := by
  unfold pop
  omega
def bitc (x : Int32) : Option Int32 := f_J6_bitCount_0f7a4 0 x
theorem bitc_dec : ∀ b, b < 1024 → bitc (nI b) = some (nI (pop b)) := by decide +kernel
theorem s_bitc (n b : Nat) (hb : b < 1024) : f_J6_bitCount_0f7a4 n (nI b) = some (nI (pop b)) := bitc_dec b hb
def onst (v : Int32) (k : Nat) (a : Int32) : Int32 := a + (jshr v (nI k) &&& 1)
def onesv (v : Int32) : Int32 := onst v 9 (onst v 8 (onst v 7 (onst v 6 (onst v 5 (onst v 4 (onst v 3 (onst v 2 (onst v 1 (onst v 0 0)))))))))
theorem ones_dec : ∀ b, b < 1024 → onesv (nI b) = nI (pop b) := by decide +kernel
theorem s_ones_step (v a : Int32) (n k : Nat) (hk : k < 10) : f_X12_ones_4 (n + 1) v a (nI k) = f_X12_ones_4 n v (onst v k a) (nI (k + 1)) := by
  show f_X12_ones_4b (f_X12_ones_4 n) n v a (nI k) = _
  unfold f_X12_ones_4b onst
  rw [k10, if_neg (by rw [p_le (by omega) (by omega)]; omega), p_1]
  rfl
theorem s_ones (n b : Nat) (hb : b < 1024) (hn : 11 ≤ n) : f_X12_ones n (nI b) = some (nI (pop b)) := by
  obtain ⟨m, rfl⟩ : ∃ m, n = m + 11 := ⟨n - 11, by omega⟩
  unfold f_X12_ones
  rw [k0, s_ones_step _ _ _ 0 (by omega), s_ones_step _ _ _ 1 (by omega), s_ones_step _ _ _ 2 (by omega), s_ones_step _ _ _ 3 (by omega), s_ones_step _ _ _ 4 (by omega), s_ones_step _ _ _ 5 (by omega), s_ones_step _ _ _ 6 (by omega), s_ones_step _ _ _ 7 (by omega), s_ones_step _ _ _ 8 (by omega), s_ones_step _ _ _ 9 (by omega)]
  show f_X12_ones_4b _ m _ _ (nI 10) = _
  unfold f_X12_ones_4b
  rw [if_pos (by decide), ← ones_dec b hb]
  rfl
theorem shl_2 (i : Nat) (hi : i ≤ 10) : jshl 1 (nI i) = nI (2 ^ i) := by
  have h : ∀ i, i < 11 → jshl 1 (nI i) = nI (2 ^ i) := by decide +kernel
  exact h i (by omega)
theorem pow_le (i : Nat) (hi : i ≤ 10) : 2 ^ i ≤ 1024 := by
  have h : ∀ i, i < 11 → 2 ^ i ≤ 1024 := by decide
  exact h i (by omega)
/-- the search, by costs -/
def stp (cost : Nat → Int32) (most : Int32) (st : Option Nat) (B : Nat) : Option Nat := match st with
  | none => if most < cost B then none else some B
  | some b => if pop b < pop B then some b else if pop B < pop b then (if most < cost B then some b else some B) else (if cost b ≤ cost B then some b else some B)
def srch (cost : Nat → Int32) (most : Int32) : Nat → Option Nat
  | 0 => none
  | k + 1 => stp cost most (srch cost most k) k
theorem srch_ok (cost : Nat → Int32) (most : Int32) : ∀ k b, srch cost most k = some b → b < k ∧ ¬ most < cost b := by
  intro k
  induction k with
  | zero => intro b h; cases h
  | succ k ih =>
    intro b h
    rw [show srch cost most (k + 1) = stp cost most (srch cost most k) k from rfl] at h
    unfold stp at h
    cases hs : srch cost most k with
    | none =>
      rw [hs] at h
      dsimp only at h
      split at h
      · cases h
      · cases h
        exact ⟨by omega, by assumption⟩
    | some b0 =>
      obtain ⟨g1, g2⟩ := ih b0 hs
      rw [hs] at h
      dsimp only at h
      split at h
      · cases h; exact ⟨by omega, g2⟩
      · split at h
        · split at h
          · cases h; exact ⟨by omega, g2⟩
          · cases h; exact ⟨by omega, by assumption⟩
        · split at h
          · cases h; exact ⟨by omega, g2⟩
          · cases h
            rename_i h3
            refine ⟨by omega, fun h4 => g2 (Int32.lt_trans h4 (Int32.not_le.mp h3))⟩
def encF (st : Option Nat) : Int32 := match st with
  | none => -6
  | some b => nI b
def fewE (st : Option Nat) : Int32 := match st with
  | none => nI 11
  | some b => nI (pop b)
def limE (cost : Nat → Int32) (most : Int32) (st : Option Nat) : Int32 := match st with
  | none => most
  | some b => cost b - 1
theorem lt_pred {x y : Int32} (h : 0 ≤ x.toInt) : (x - 1 < y) ↔ x ≤ y := by
  have e : (x - 1).toInt = x.toInt - 1 := by
    have := x.toInt_lt
    have z : (1 : Int32).toInt = 1 := by decide
    rw [Int32.toInt_sub, z, bm _ (by omega) (by omega)]
  rw [Int32.lt_iff_toInt_lt, Int32.le_iff_toInt_le, e]
  omega
theorem ww_iff {b w : Nat → Int32} {lim r : Int32} (h : wwOk b w lim r) : (lim < r ↔ lim < wor b w 36) ∧ (¬ lim < r → r = wor b w 36) := by
  rcases h with h | ⟨h1, h2⟩
  · rw [h]
    exact ⟨Iff.rfl, fun _ => rfl⟩
  · exact ⟨⟨fun _ => Int32.not_le.mp h2, fun _ => Int32.not_le.mp h1⟩, fun h3 => absurd (Int32.not_le.mp h1) h3⟩
/-- what stands around a search of the class -/
def Fnd (il is iw ib : Nat → Int32) (items : Nat) (sb sl set num tab hung w : Nat → Int32) (wk : List Pq) : Prop := items ≤ 10 ∧ (∀ i, i < items → okQ (itm il is iw ib i)) ∧ tabRel num tab ∧ (∀ c, c < 36 → hung c = hw36 w c) ∧ eqS (sb, sl) (sh tab set wk)
def cst (tab set w : Nat → Int32) (wk : List Pq) (item : Nat → Pq) (items : Nat) (B : Nat) : Int32 := WL tab set w (wk ++ selR item (nI B) 0 items)
theorem s_fs60 {il is iw ib : Nat → Int32} {items : Nat} {sb sl set num tab hung w : Nat → Int32} {wk : List Pq} (F : Fnd il is iw ib items sb sl set num tab hung w wk) (k16 : (Nat → Int32) → (Nat → Int32) → (Nat → Int32) → (Nat → Int32) → Int32 → Int32 → Int32 → Int32 → Int32 → Int32 → Option ((Nat → Int32) × (Nat → Int32) × (Nat → Int32) × (Nat → Int32) × Int32 × Int32)) (n B : Nat) (hn : 100 ≤ n) (tb tl ta tal : Nat → Int32) (fo fw v2 v5 v6 v8 s0 : Int32) :
    ∃ tb' tl' ta' tal', f_X4_findSet_60 il is iw ib (nI items) sb sl set num hung k16 n tb tl ta tal fo fw v2 v5 v6 (nI B) v8 s0 = if s0 < cst tab set w wk (itm il is iw ib) items B then k16 tb' tl' ta' tal' fo fw v2 v5 v6 (nI (B + 1)) else k16 tb' tl' ta' tal' (nI B) (cst tab set w wk (itm il is iw ib) items B) v2 v8 (cst tab set w wk (itm il is iw ib) items B - 1) (nI (B + 1)) := by
  obtain ⟨hi, hq, ht, hh, he⟩ := F
  have hS : eqS (va_cpy sb tb 0 0 (8 : Int32).toNatClampNeg, va_cpy sl tl 0 0 (8 : Int32).toNatClampNeg) (sh tab set wk) := ⟨(cpy_eq8 sb tb).tr he.1, (cpy_eq8 sl tl).tr he.2⟩
  have hl := s_laySet_loop il is iw ib set num tab items hi (nI B) hq ht items n 0 (va_cpy sb tb 0 0 (8 : Int32).toNatClampNeg, va_cpy sl tl 0 0 (8 : Int32).toNatClampNeg) (by omega) (by omega)
  have hE := foldl_eqS tab set (selR (itm il is iw ib) (nI B) 0 items) _ _ hS (selR_ok (itm il is iw ib) (nI B) items hq items 0 (by omega))
  rw [← sh_app] at hE
  generalize (selR (itm il is iw ib) (nI B) 0 items).foldl (lay1 tab set) (va_cpy sb tb 0 0 (8 : Int32).toNatClampNeg, va_cpy sl tl 0 0 (8 : Int32).toNatClampNeg) = T at hl hE
  obtain ⟨r, hr, hok⟩ := s_ww T.1 w hung ta tal n (by omega) hh s0
  have hc := wor_congr hE.1 (fun _ _ => rfl : eq36 w w) 36 (by omega)
  obtain ⟨i1, i2⟩ := ww_iff hok
  rw [hc] at i1 i2
  refine ⟨T.1, T.2, hpa T.1 0 ta, hpa T.1 4 tal, ?_⟩
  unfold f_X4_findSet_60 f_X6_becomeLike f_X4_laySet
  simp only [Option.bind_some]
  rw [k0, hl]
  simp only [Option.bind_some]
  rw [hr]
  simp only [Option.bind_some, nmd, p_1]
  unfold cst WL
  by_cases h : s0 < r
  · rw [if_pos h, if_pos (i1.mp h)]
  · rw [if_neg h, if_neg (fun g => h (i1.mpr g)), i2 h]
theorem p_le_10 {b : Nat} : pop b < 2147483648 := by have := pop_le b; omega
theorem s_fs_loop {il is iw ib : Nat → Int32} {items : Nat} {sb sl set num tab hung w : Nat → Int32} {wk : List Pq} (F : Fnd il is iw ib items sb sl set num tab hung w wk) (hc0 : ∀ B, B < 1024 → 0 ≤ (cst tab set w wk (itm il is iw ib) items B).toInt) (most : Int32) : ∀ (r n B : Nat) (tb tl ta tal : Nat → Int32) (fw : Int32), B + r = 2 ^ items → r + 110 ≤ n → (∀ b, srch (cst tab set w wk (itm il is iw ib) items) most B = some b → fw = cst tab set w wk (itm il is iw ib) items b) →
    ∃ tb' tl' ta' tal' fw', f_X4_findSet_16 il is iw ib (nI items) sb sl set num hung n tb tl ta tal (encF (srch (cst tab set w wk (itm il is iw ib) items) most B)) fw most (fewE (srch (cst tab set w wk (itm il is iw ib) items) most B)) (limE (cst tab set w wk (itm il is iw ib) items) most (srch (cst tab set w wk (itm il is iw ib) items) most B)) (nI B) = some (tb', tl', ta', tal', encF (srch (cst tab set w wk (itm il is iw ib) items) most (2 ^ items)), fw') ∧ (∀ b, srch (cst tab set w wk (itm il is iw ib) items) most (2 ^ items) = some b → fw' = cst tab set w wk (itm il is iw ib) items b) := by
  have hi := F.1
  have hp2 := pow_le items hi
  generalize hcost : cst tab set w wk (itm il is iw ib) items = cost at hc0 ⊢
  intro r
  induction r with
  | zero =>
    intro n B tb tl ta tal fw hB hn hfw
    obtain ⟨m, rfl⟩ : ∃ m, n = m + 1 := ⟨n - 1, by omega⟩
    obtain rfl : B = 2 ^ items := by omega
    refine ⟨tb, tl, ta, tal, fw, ?_, hfw⟩
    show f_X4_findSet_16b il is iw ib (nI items) sb sl set num hung _ m _ _ _ _ _ _ _ _ _ _ = _
    unfold f_X4_findSet_16b
    rw [shl_2 items hi, if_pos (Int32.le_refl _)]
  | succ r ih =>
    intro n B tb tl ta tal fw hB hn hfw
    obtain ⟨m, rfl⟩ : ∃ m, n = m + 1 := ⟨n - 1, by omega⟩
    have hB2 : B < 1024 := by omega
    have e0 : ∀ fo few lim, f_X4_findSet_16 il is iw ib (nI items) sb sl set num hung (m + 1) tb tl ta tal fo fw most few lim (nI B) = if nI (pop B) ≤ few then (if few ≤ nI (pop B) then f_X4_findSet_60 il is iw ib (nI items) sb sl set num hung (f_X4_findSet_16 il is iw ib (nI items) sb sl set num hung m) m tb tl ta tal fo fw most few lim (nI B) (nI (pop B)) lim else f_X4_findSet_60 il is iw ib (nI items) sb sl set num hung (f_X4_findSet_16 il is iw ib (nI items) sb sl set num hung m) m tb tl ta tal fo fw most few lim (nI B) (nI (pop B)) most) else f_X4_findSet_16 il is iw ib (nI items) sb sl set num hung m tb tl ta tal fo fw most few lim (nI (B + 1)) := by
      intro fo few lim
      show f_X4_findSet_16b il is iw ib (nI items) sb sl set num hung (f_X4_findSet_16 il is iw ib (nI items) sb sl set num hung m) m _ _ _ _ _ _ _ _ _ _ = _
      unfold f_X4_findSet_16b
      rw [shl_2 items hi, if_neg (by rw [p_le (by omega) (by omega)]; omega), s_bitc m B hB2]
      simp only [Option.bind_some, p_1]
    rw [e0]
    have pB := pop_le B
    have key : ∀ st', srch cost most (B + 1) = st' → ∀ (tb' tl' ta' tal' : Nat → Int32) (fw' : Int32), (∀ b, st' = some b → fw' = cost b) → ∃ tb2 tl2 ta2 tal2 fw2, f_X4_findSet_16 il is iw ib (nI items) sb sl set num hung m tb' tl' ta' tal' (encF st') fw' most (fewE st') (limE cost most st') (nI (B + 1)) = some (tb2, tl2, ta2, tal2, encF (srch cost most (2 ^ items)), fw2) ∧ (∀ b, srch cost most (2 ^ items) = some b → fw2 = cost b) := by
      intro st' hst tb' tl' ta' tal' fw' hf'
      subst hst
      exact ih m (B + 1) tb' tl' ta' tal' fw' (by omega) (by omega) hf'
    have es : srch cost most (B + 1) = stp cost most (srch cost most B) B := rfl
    cases hs : srch cost most B with
    | none =>
      rw [hs] at es hfw
      unfold stp at es
      dsimp only at es
      show ∃ tb' tl' ta' tal' fw', (if nI (pop B) ≤ nI 11 then _ else _) = _ ∧ _
      rw [if_pos ((p_le (by omega) (by omega)).mpr (by omega)), if_neg (fun h => by have := (p_le (by omega) (by omega)).mp h; omega)]
      obtain ⟨t1, t2, t3, t4, e6⟩ := s_fs60 F (f_X4_findSet_16 il is iw ib (nI items) sb sl set num hung m) m B (by omega) tb tl ta tal (encF none) fw most (fewE none) (limE cost most none) (nI (pop B)) most
      rw [hcost] at e6
      rw [e6]
      by_cases h : most < cost B
      · rw [if_pos h] at es ⊢
        exact key none es t1 t2 t3 t4 fw (fun b hb => by cases hb)
      · rw [if_neg h] at es ⊢
        exact key (some B) es t1 t2 t3 t4 (cost B) (fun b hb => by cases hb; rfl)
    | some b =>
      have hb := srch_ok cost most B b hs
      rw [hs] at es hfw
      have hfwb : fw = cost b := hfw b rfl
      unfold stp at es
      dsimp only at es
      have pb := pop_le b
      show ∃ tb' tl' ta' tal' fw', (if nI (pop B) ≤ nI (pop b) then _ else _) = _ ∧ _
      by_cases h1 : pop b < pop B
      · rw [if_neg (fun h => by have := (p_le (by omega) (by omega)).mp h; omega)]
        rw [if_pos h1] at es
        exact key (some b) es tb tl ta tal fw (fun b' hb' => by cases hb'; exact hfwb)
      · rw [if_pos ((p_le (by omega) (by omega)).mpr (by omega))]
        rw [if_neg h1] at es
        by_cases h2 : pop B < pop b
        · rw [if_neg (fun h => by have := (p_le (by omega) (by omega)).mp h; omega)]
          rw [if_pos h2] at es
          obtain ⟨t1, t2, t3, t4, e6⟩ := s_fs60 F (f_X4_findSet_16 il is iw ib (nI items) sb sl set num hung m) m B (by omega) tb tl ta tal (encF (some b)) fw most (fewE (some b)) (limE cost most (some b)) (nI (pop B)) most
          rw [hcost] at e6
          rw [e6]
          by_cases h : most < cost B
          · rw [if_pos h] at es ⊢
            exact key (some b) es t1 t2 t3 t4 fw (fun b' hb' => by cases hb'; exact hfwb)
          · rw [if_neg h] at es ⊢
            exact key (some B) es t1 t2 t3 t4 (cost B) (fun b' hb' => by cases hb'; rfl)
        · rw [if_pos (show fewE (some b) ≤ nI (pop B) from (p_le (by omega) (by omega)).mpr (by omega))]
          rw [if_neg h2] at es
          obtain ⟨t1, t2, t3, t4, e6⟩ := s_fs60 F (f_X4_findSet_16 il is iw ib (nI items) sb sl set num hung m) m B (by omega) tb tl ta tal (encF (some b)) fw most (fewE (some b)) (limE cost most (some b)) (nI (pop B)) (limE cost most (some b))
          rw [hcost] at e6
          rw [e6]
          have hl : (limE cost most (some b) < cost B) ↔ cost b ≤ cost B := lt_pred (hc0 b (by omega))
          by_cases h : cost b ≤ cost B
          · rw [if_pos h] at es
            rw [if_pos (hl.mpr h)]
            exact key (some b) es t1 t2 t3 t4 fw (fun b' hb' => by cases hb'; exact hfwb)
          · rw [if_neg h] at es
            rw [if_neg (fun g => h (hl.mp g))]
            exact key (some B) es t1 t2 t3 t4 (cost B) (fun b' hb' => by cases hb'; rfl)
