/-! Bounds: nothing wraps around. -/
def Bd (x : Int32) (B : Int) : Prop := -B ≤ x.toInt ∧ x.toInt ≤ B
theorem bm (z : Int) (h1 : -2147483648 ≤ z) (h2 : z < 2147483648) : z.bmod (2 ^ 32) = z := by
  rw [Int.bmod_def]
  omega
theorem t_add {x y : Int32} {A B : Int} (hx : Bd x A) (hy : Bd y B) (h : A + B < 2147483648) : (x + y).toInt = x.toInt + y.toInt := by
  unfold Bd at hx hy
  rw [Int32.toInt_add, bm _ (by omega) (by omega)]
theorem t_sub {x y : Int32} {A B : Int} (hx : Bd x A) (hy : Bd y B) (h : A + B < 2147483648) : (x - y).toInt = x.toInt - y.toInt := by
  unfold Bd at hx hy
  rw [Int32.toInt_sub, bm _ (by omega) (by omega)]
theorem Bd.add {x y : Int32} {A B : Int} (hx : Bd x A) (hy : Bd y B) (h : A + B < 2147483648) : Bd (x + y) (A + B) := by
  have e := t_add hx hy h
  unfold Bd at hx hy ⊢
  omega
theorem Bd.sub {x y : Int32} {A B : Int} (hx : Bd x A) (hy : Bd y B) (h : A + B < 2147483648) : Bd (x - y) (A + B) := by
  have e := t_sub hx hy h
  unfold Bd at hx hy ⊢
  omega
theorem Bd.le {x : Int32} {A B : Int} (hx : Bd x A) (h : A ≤ B) : Bd x B := by
  unfold Bd at hx ⊢
  omega
theorem mul_bd {x y A B : Int} (h1 : -A ≤ x) (h2 : x ≤ A) (h3 : -B ≤ y) (h4 : y ≤ B) : -(A * B) ≤ x * y ∧ x * y ≤ A * B := by
  have hA : 0 ≤ A := by omega
  have hB : 0 ≤ B := by omega
  have e1 : x * y ≤ (x * y).natAbs := by omega
  have e2 : -(x * y).natAbs ≤ x * y := by omega
  have e3 : (x * y).natAbs = x.natAbs * y.natAbs := Int.natAbs_mul x y
  have e4 : x.natAbs ≤ A.natAbs := by omega
  have e5 : y.natAbs ≤ B.natAbs := by omega
  have e6 : x.natAbs * y.natAbs ≤ A.natAbs * B.natAbs := Nat.mul_le_mul e4 e5
  have e7 : A.natAbs * B.natAbs = (A * B).natAbs := (Int.natAbs_mul A B).symm
  have e8 : 0 ≤ A * B := Int.mul_nonneg hA hB
  omega
theorem t_mul {x y : Int32} {A B : Int} (hx : Bd x A) (hy : Bd y B) (h : A * B < 2147483648) : (x * y).toInt = x.toInt * y.toInt := by
  have e := mul_bd hx.1 hx.2 hy.1 hy.2
  rw [Int32.toInt_mul, bm _ (by omega) (by omega)]
theorem Bd.mul {x y : Int32} {A B : Int} (hx : Bd x A) (hy : Bd y B) (h : A * B < 2147483648) : Bd (x * y) (A * B) := by
  have e := t_mul hx hy h
  have e2 := mul_bd hx.1 hx.2 hy.1 hy.2
  unfold Bd
  omega
theorem Bd.neg {x : Int32} {A : Int} (hx : Bd x A) (h : A < 2147483648) : Bd (-x) A := by
  unfold Bd at hx ⊢
  rw [Int32.toInt_neg, bm _ (by omega) (by omega)]
  omega
theorem Bd.nI {k : Nat} (hk : k < 2147483648) : Bd (nI k) k := by
  unfold Bd
  rw [nI_toInt hk]
  omega
theorem Bd.div100 {x : Int32} {A : Int} (hx : Bd x (100 * A)) (hA : 0 ≤ A) (h : 100 * A < 2147483648) : Bd (x / 100) A := by
  unfold Bd at hx ⊢
  have e : (100 : Int32).toInt = 100 := by decide
  have t1 : (x.toInt.tdiv 100) ≤ A ∧ -A ≤ (x.toInt.tdiv 100) := by
    rcases Int.le_total 0 x.toInt with h0 | h0
    · rw [Int.tdiv_eq_ediv_of_nonneg h0]
      omega
    · have e2 : x.toInt.tdiv 100 = -((-x.toInt).tdiv 100) := by rw [Int.neg_tdiv, Int.neg_neg]
      rw [e2, Int.tdiv_eq_ediv_of_nonneg (by omega)]
      omega
  rw [Int32.toInt_div, e, bm _ (by omega) (by omega)]
  omega
def B8 (b : Nat → Int32) (B : Int) : Prop := ∀ j, j < 8 → Bd (b j) B
theorem nI_bd {k m : Nat} (h : k ≤ m) (hm : m < 2147483648) : Bd (nI k) m := (Bd.nI (by omega)).le (by omega)
theorem px_bd {b : Nat → Int32} {f x : Nat} (hb : B8 b 50000) (hf : f ≤ 4) (hx : x < 6) : Bd (px b f x) 800000 := by
  unfold px
  have h0 := (hb f (by omega)).mul (nI_bd (k := x - 1) (m := 4) (by omega) (by omega)) (by decide)
  have h1 := (hb (f + 1) (by omega)).mul (nI_bd (k := x - 2) (m := 4) (by omega) (by omega)) (by decide)
  have h2 := (hb (f + 2) (by omega)).mul (nI_bd (k := x - 3) (m := 4) (by omega) (by omega)) (by decide)
  have h3 := (hb (f + 3) (by omega)).mul (nI_bd (k := x - 4) (m := 4) (by omega) (by omega)) (by decide)
  exact (((h0.add h1 (by decide)).add h2 (by decide)).add h3 (by decide)).le (by decide)
theorem hgt_bd {b : Nat → Int32} (hb : B8 b 50000) {c : Nat} (hc : c < 36) : Bd (hgt b c) 1600000 := by
  unfold hgt
  rw [hgt2_px b _ _ (by omega) (by omega)]
  exact ((px_bd hb (by omega) (by omega)).add (px_bd hb (by omega) (by omega)) (by decide)).le (by decide)
def B36 (w : Nat → Int32) : Prop := ∀ c, c < 36 → Bd (w c) 100000
theorem mis_bd {b w : Nat → Int32} (hb : B8 b 50000) (hw : B36 w) {c : Nat} (hc : c < 36) : Bd (mis b w c) 60000000 := by
  have ho : ∀ d, d < 36 → Bd (off b w d) 1700000 := fun d hd => ((hgt_bd hb hd).sub (hw d hd) (by decide)).le (by decide)
  unfold mis abv
  have g1 := (nI_bd (k := 5) (m := 5) (by omega) (by omega)).mul ((ho c hc).sub (ho 0 (by omega)) (by decide)) (by decide)
  have g2 := ((ho 5 (by omega)).sub (ho 0 (by omega)) (by decide)).mul (nI_bd (k := c % 6) (m := 5) (by omega) (by omega)) (by decide)
  have g3 := ((ho 30 (by omega)).sub (ho 0 (by omega)) (by decide)).mul (nI_bd (k := c / 6) (m := 5) (by omega) (by omega)) (by decide)
  exact ((g1.sub g2 (by decide)).sub g3 (by decide)).le (by decide)
theorem sz_bd {v : Int32} {B : Int} (h : Bd v B) (hB : B < 2147483648) : 0 ≤ (sz v).toInt ∧ (sz v).toInt ≤ B := by
  unfold sz
  have z : (0 : Int32).toInt = 0 := by decide
  split
  · rename_i h1
    rw [Int32.le_iff_toInt_le, z] at h1
    exact ⟨h1, h.2⟩
  · rename_i h1
    rw [Int32.le_iff_toInt_le, z] at h1
    unfold Bd at h
    rw [Int32.toInt_neg, bm _ (by omega) (by omega)]
    omega
theorem wor_bd {b w : Nat → Int32} (hb : B8 b 50000) (hw : B36 w) : ∀ k, k ≤ 36 → 0 ≤ (wor b w k).toInt ∧ (wor b w k).toInt ≤ 60000000 := by
  intro k
  induction k with
  | zero => intro _; exact (show 0 ≤ (0 : Int32).toInt ∧ (0 : Int32).toInt ≤ 60000000 from by decide)
  | succ k ih =>
    intro hk
    show 0 ≤ (if sz (mis b w k) ≤ wor b w k then wor b w k else sz (mis b w k)).toInt ∧ (if sz (mis b w k) ≤ wor b w k then wor b w k else sz (mis b w k)).toInt ≤ 60000000
    split
    · exact ih (by omega)
    · exact sz_bd (mis_bd hb hw (by omega)) (by decide)
/-- what a list of PASSES comes to -/
def tabOk (tab : Nat → Int32) : Prop := ∀ j, 2 ≤ j → j < 20 → 0 ≤ (tab j).toInt ∧ (tab j).toInt ≤ 1000
def setOk (set : Nat → Int32) : Prop := ∀ j, j < 3 → 0 ≤ (set j).toInt ∧ (set j).toInt ≤ 100
def lOk (laid : Nat → Int32) (k : Int) : Prop := ∀ j, j < 8 → 0 ≤ (laid j).toInt ∧ (laid j).toInt ≤ k
theorem nn_add {x y : Int32} {A B : Int} (hx : 0 ≤ x.toInt ∧ x.toInt ≤ A) (hy : 0 ≤ y.toInt ∧ y.toInt ≤ B) (h : A + B < 2147483648) : 0 ≤ (x + y).toInt ∧ (x + y).toInt ≤ A + B := by
  rw [Int32.toInt_add, bm _ (by omega) (by omega)]
  omega
theorem nn_mul {x y : Int32} {A B : Int} (hx : 0 ≤ x.toInt ∧ x.toInt ≤ A) (hy : 0 ≤ y.toInt ∧ y.toInt ≤ B) (h : A * B < 2147483648) : 0 ≤ (x * y).toInt ∧ (x * y).toInt ≤ A * B := by
  have e := t_mul (x := x) (y := y) (A := A) (B := B) ⟨by omega, hx.2⟩ ⟨by omega, hy.2⟩ h
  have e2 := mul_bd (x := x.toInt) (y := y.toInt) (A := A) (B := B) (by omega) hx.2 (by omega) hy.2
  have e3 : 0 ≤ x.toInt * y.toInt := Int.mul_nonneg hx.1 hy.1
  omega
theorem lp_core {s0 s1 s2 c b a : Int32} (h0 : 0 ≤ s0.toInt ∧ s0.toInt ≤ 100) (h1 : 0 ≤ s1.toInt ∧ s1.toInt ≤ 100) (h2 : 0 ≤ s2.toInt ∧ s2.toInt ≤ 100) (hc : 0 ≤ c.toInt ∧ c.toInt ≤ 1000) (hb : 0 ≤ b.toInt ∧ b.toInt ≤ 1000) (ha : 0 ≤ a.toInt ∧ a.toInt ≤ 1000) : (((100 - s0 * c) - s1 * b) - s2 * a).toInt ≤ 100 ∧ -300000 ≤ (((100 - s0 * c) - s1 * b) - s2 * a).toInt := by
  have g0 := nn_mul h0 hc (by decide)
  have g1 := nn_mul h1 hb (by decide)
  have g2 := nn_mul h2 ha (by decide)
  have z : (100 : Int32).toInt = 100 := by decide
  rw [Int32.toInt_sub, Int32.toInt_sub, Int32.toInt_sub, z, bm (100 - _) (by omega) (by omega), bm (100 - _ - _) (by omega) (by omega), bm _ (by omega) (by omega)]
  omega
theorem lpart_bd {laid set : Nat → Int32} (hl : lOk laid 100) (hs : setOk set) (L : Nat) : (lpart laid set L).toInt ≤ 100 ∧ -300000 ≤ (lpart laid set L).toInt := by
  have s0 := hs 0 (by omega)
  have s1 := hs 1 (by omega)
  have s2 := hs 2 (by omega)
  have z : 0 ≤ (0 : Int32).toInt ∧ (0 : Int32).toInt ≤ 0 := by decide
  have l0 := hl 0 (by omega)
  have l1 := hl 1 (by omega)
  have l2 := hl 2 (by omega)
  have l3 := hl 3 (by omega)
  have l4 := hl 4 (by omega)
  have l5 := hl 5 (by omega)
  have l6 := hl 6 (by omega)
  have l7 := hl 7 (by omega)
  have up : ∀ {x : Int32} {A : Int}, 0 ≤ x.toInt ∧ x.toInt ≤ A → A ≤ 1000 → 0 ≤ x.toInt ∧ x.toInt ≤ 1000 := fun h g => ⟨h.1, Int.le_trans h.2 g⟩
  have cA := up (nn_add (nn_add (nn_add l4 l5 (by decide)) l6 (by decide)) l7 (by decide)) (by decide)
  have cB := up (nn_add (nn_add (nn_add l0 l1 (by decide)) l2 (by decide)) l3 (by decide)) (by decide)
  unfold lpart
  split
  · exact lp_core s0 s1 s2 cA (up (nn_add z l1 (by decide)) (by decide)) (up l0 (by decide))
  · exact lp_core s0 s1 s2 cA (up (nn_add (nn_add z l0 (by decide)) l2 (by decide)) (by decide)) (up l1 (by decide))
  · exact lp_core s0 s1 s2 cA (up (nn_add (nn_add z l1 (by decide)) l3 (by decide)) (by decide)) (up l2 (by decide))
  · exact lp_core s0 s1 s2 cA (up (nn_add z l2 (by decide)) (by decide)) (up l3 (by decide))
  · exact lp_core s0 s1 s2 cB (up (nn_add z l5 (by decide)) (by decide)) (up l4 (by decide))
  · exact lp_core s0 s1 s2 cB (up (nn_add (nn_add z l4 (by decide)) l6 (by decide)) (by decide)) (up l5 (by decide))
  · exact lp_core s0 s1 s2 cB (up (nn_add (nn_add z l5 (by decide)) l7 (by decide)) (by decide)) (up l6 (by decide))
  · exact lp_core s0 s1 s2 cB (up (nn_add z l6 (by decide)) (by decide)) (up l7 (by decide))
theorem bentv_bd {tab : Nat → Int32} {S w : Nat} (hS : 1 ≤ S ∧ S ≤ 9) (hw : w ≤ 1) (bak : Int32) {v : Int32} (ht : tabOk tab) (hv : v.toInt ≤ 100) : Bd (bentv tab (nI S) (nI w) bak (max0 v)) 1000 := by
  unfold bentv max0
  rw [k2, p_mul, p_add, p_cl (by omega)]
  have z : (0 : Int32).toInt = 0 := by decide
  have hm : 0 ≤ (if 0 ≤ v then v else 0).toInt ∧ (if 0 ≤ v then v else 0).toInt ≤ 100 := by
    split
    · rename_i h
      rw [Int32.le_iff_toInt_le, z] at h
      exact ⟨h, hv⟩
    · exact ⟨by decide, by decide⟩
  have g := nn_mul (ht (2 * S + w) (by omega) (by omega)) hm (by decide)
  have g2 : Bd (tab (2 * S + w) * (if 0 ≤ v then v else 0)) (100 * 1000) := ⟨by omega, by omega⟩
  have g3 := g2.div100 (by decide) (by decide)
  split
  · exact g3.neg (by decide)
  · exact g3
theorem sh_bd {tab set : Nat → Int32} (ht : tabOk tab) (hs : setOk set) : ∀ (l : List Pq) (s : Sh) (k : Nat), k + l.length ≤ 40 → B8 s.1 (1000 * k) → lOk s.2 k → (∀ p ∈ l, okQ p) → B8 (l.foldl (lay1 tab set) s).1 (1000 * (k + l.length : Nat)) ∧ lOk (l.foldl (lay1 tab set) s).2 (k + l.length : Nat) := by
  intro l
  induction l with
  | nil => intro s k _ hb hl _; exact ⟨hb, hl⟩
  | cons p l ih =>
    intro s k hk hb hl hq
    rw [List.length_cons] at hk ⊢
    obtain ⟨⟨L, hL, e1⟩, ⟨S, h1, h2, e2⟩, ⟨w, h3, e3⟩, -⟩ := hq p List.mem_cons_self
    have hlp := lpart_bd (laid := s.2) (set := set) (fun j hj => ⟨(hl j hj).1, Int.le_trans (hl j hj).2 (by omega)⟩) hs L
    have hv := bentv_bd (tab := tab) (S := S) (w := w) ⟨h1, h2⟩ h3 p.2.2.2 ht hlp.1
    have r := ih (lay1 tab set s p) (k + 1) (by omega) ?_ ?_ (fun q hq' => hq q (List.mem_cons_of_mem _ hq'))
    · rw [show k + (l.length + 1) = k + 1 + l.length from by omega]
      exact r
    · intro j hj
      unfold lay1
      rw [e1, e2, e3, p_cl (by omega)]
      show Bd (upd s.1 L _ j) _
      unfold upd
      split
      · exact ((hb L hL).add hv (by omega)).le (by omega)
      · exact (hb j hj).le (by omega)
    · intro j hj
      unfold lay1
      rw [e1, p_cl (by omega)]
      show 0 ≤ (upd s.2 L _ j).toInt ∧ (upd s.2 L _ j).toInt ≤ _
      unfold upd
      split
      · have g := nn_add (hl L hL) (show 0 ≤ (1 : Int32).toInt ∧ (1 : Int32).toInt ≤ 1 from by decide) (by omega)
        omega
      · have g := hl j hj
        omega
theorem WL_bd {tab set w : Nat → Int32} (ht : tabOk tab) (hs : setOk set) (hw : B36 w) (l : List Pq) (hl : l.length ≤ 40) (hq : ∀ p ∈ l, okQ p) : 0 ≤ (WL tab set w l).toInt ∧ (WL tab set w l).toInt ≤ 60000000 := by
  have h := (sh_bd ht hs l sh0 0 (by omega) (fun j _ => (show -(1000 * ((0 : Nat) : Int)) ≤ (0 : Int32).toInt ∧ (0 : Int32).toInt ≤ 1000 * ((0 : Nat) : Int) from by decide)) (fun j _ => (show 0 ≤ (0 : Int32).toInt ∧ (0 : Int32).toInt ≤ ((0 : Nat) : Int) from by decide)) hq).1
  exact wor_bd (fun j hj => (h j hj).le (by omega)) hw 36 (by omega)
