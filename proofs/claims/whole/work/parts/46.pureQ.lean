/-! SKILL: both sides. -/
theorem rst_bd {h r : Nat → Int32} (hb : B36 h) {a s k : Nat} (h1 : a + s < 36) {q : Int32 × Int32} (hk : k < 6) (hq : (0 ≤ q.2.toInt ∧ q.2.toInt ≤ k) ∧ Bd q.1 (400000 * k)) : (0 ≤ (rst h r a s q).2.toInt ∧ (rst h r a s q).2.toInt ≤ (k + 1 : Nat)) ∧ Bd (rst h r a s q).1 (400000 * (k + 1 : Nat)) := by
  have g1 := hb (a - s) (by omega)
  have g2 := hb a (by omega)
  have g3 := hb (a + s) (by omega)
  have same : (0 ≤ q.2.toInt ∧ q.2.toInt ≤ (k + 1 : Nat)) ∧ Bd q.1 (400000 * (k + 1 : Nat)) := ⟨⟨hq.1.1, by have := hq.1.2; omega⟩, hq.2.le (by omega)⟩
  unfold rst
  split
  · exact same
  · split
    · exact same
    · split
      · exact same
      · have e2 : Bd (2 : Int32) 2 := by unfold Bd; decide
        have m1 := e2.mul g2 (by decide)
        have m2 := (g1.sub m1 (by decide)).add g3 (by decide)
        have m3 := hq.2.add m2 (by omega)
        refine ⟨nn_add hq.1 (show 0 ≤ (1 : Int32).toInt ∧ (1 : Int32).toInt ≤ 1 from by decide) (by omega), m3.le (by omega)⟩
theorem rdv_bd {h r : Nat → Int32} (hb : B36 h) {a0 s o : Nat} (hm : a0 + 5 * o + s < 36) : ∀ k, k ≤ 6 → (0 ≤ (rdv h r a0 s o k).2.toInt ∧ (rdv h r a0 s o k).2.toInt ≤ k) ∧ Bd (rdv h r a0 s o k).1 (400000 * k) := by
  intro k
  induction k with
  | zero =>
    intro _
    show (0 ≤ (0 : Int32).toInt ∧ (0 : Int32).toInt ≤ ((0 : Nat) : Int)) ∧ Bd (0 : Int32) (400000 * ((0 : Nat) : Int))
    unfold Bd
    decide
  | succ k ih =>
    intro hk
    have hko : k * o ≤ 5 * o := Nat.mul_le_mul_right o (by omega)
    exact rst_bd hb (by omega) (by omega) (ih (by omega))
theorem rdL_bd {h r : Nat → Int32} (hb : B36 h) {L : Nat} (hL : L < 8) : (0 ≤ (rdL h r L).2.toInt ∧ (rdL h r L).2.toInt ≤ 6) ∧ Bd (rdL h r L).1 2400000 := by
  unfold rdL
  split
  · have g := rdv_bd (h := h) (r := r) hb (a0 := L % 4 + 1) (s := 1) (o := 6) (by omega) 6 (by omega)
    exact ⟨g.1, g.2.le (by decide)⟩
  · have g := rdv_bd (h := h) (r := r) hb (a0 := 6 * (L % 4 + 1)) (s := 6) (o := 1) (by omega) 6 (by omega)
    exact ⟨g.1, g.2.le (by decide)⟩
/-- what SKILL has summed before a LINE: 60 times the BENDS READ, and the BENDS -/
def skv (h r : Nat → Int32) (b : Nat → Int32) (on : Nat → Bool) : Nat → Int × Int
  | 0 => (0, 0)
  | k + 1 => if on k = true ∧ 0 < (rdL h r k).2.toInt then ((skv h r b on k).1 + (rdL h r k).1.toInt * (60 / (rdL h r k).2.toInt), (skv h r b on k).2 + (b k).toInt) else skv h r b on k
theorem d60 {p : Int} (h1 : 0 < p) (h2 : p ≤ 6) : 60 / p * p = 60 ∧ 10 ≤ 60 / p ∧ 60 / p ≤ 60 := by
  have : p = 1 ∨ p = 2 ∨ p = 3 ∨ p = 4 ∨ p = 5 ∨ p = 6 := by omega
  rcases this with rfl | rfl | rfl | rfl | rfl | rfl <;> decide
theorem skv_bd {h r b : Nat → Int32} {on : Nat → Bool} (hh : B36 h) (hb : B8 b 50000) : ∀ k : Nat, k ≤ 8 → (-(144000000 * (k : Int)) ≤ (skv h r b on k).1 ∧ (skv h r b on k).1 ≤ 144000000 * (k : Int)) ∧ (-(50000 * (k : Int)) ≤ (skv h r b on k).2 ∧ (skv h r b on k).2 ≤ 50000 * (k : Int)) := by
  intro k
  induction k with
  | zero => intro _; simp [skv]
  | succ k ih =>
    intro hk
    have i := ih (by omega)
    have g := rdL_bd (h := h) (r := r) hh (L := k) (by omega)
    have gb := hb k (by omega)
    unfold Bd at gb
    unfold skv
    split
    · rename_i hc
      have d := d60 hc.2 g.1.2
      have m := mul_bd g.2.1 g.2.2 (show -60 ≤ 60 / (rdL h r k).2.toInt by omega) d.2.2
      show (_ ≤ (skv h r b on k).1 + (rdL h r k).1.toInt * (60 / (rdL h r k).2.toInt) ∧ (skv h r b on k).1 + (rdL h r k).1.toInt * (60 / (rdL h r k).2.toInt) ≤ _) ∧ (_ ≤ (skv h r b on k).2 + (b k).toInt ∧ (skv h r b on k).2 + (b k).toInt ≤ _)
      generalize (rdL h r k).1.toInt * (60 / (rdL h r k).2.toInt) = z at *
      omega
    · omega
theorem l_add {x y : Int64} {A B : Int} (hx : -A ≤ x.toInt ∧ x.toInt ≤ A) (hy : -B ≤ y.toInt ∧ y.toInt ≤ B) (h : A + B < 281474976710656) : (x + y).toInt = x.toInt + y.toInt := by
  rw [Int64.toInt_add, bml _ (by omega) (by omega)]
theorem l_mul {x y : Int64} {A B : Int} (hx : -A ≤ x.toInt ∧ x.toInt ≤ A) (hy : -B ≤ y.toInt ∧ y.toInt ≤ B) (h : A * B < 281474976710656) : (x * y).toInt = x.toInt * y.toInt := by
  have := mul_bd hx.1 hx.2 hy.1 hy.2
  rw [Int64.toInt_mul, bml _ (by omega) (by omega)]
def skA (q : Int × Int) (part : Int32) : Int64 := if q.2 = 0 then (-2000000003 : Int64) else if part = 0 then Int64.ofInt (red q.1 (60 * q.2)).1 else Int64.ofInt (red q.1 (60 * q.2)).2
theorem l_z0 {x : Int64} : (lg_cmp x 0 = 0) ↔ x.toInt = 0 := by
  rw [lg_cmp_eq, ← Int64.toInt_inj, show (0 : Int64).toInt = 0 from by decide]
theorem i_pos {x : Int32} : (x ≤ (0 : Int32)) ↔ ¬ 0 < x.toInt := by
  rw [Int32.le_iff_toInt_le, show (0 : Int32).toInt = 0 from by decide]
  omega
/-- one more fraction -/
theorem s_inc (U L : Int64) (s p : Int32) (n : Nat) (q : Int) (hq : -1152000000 ≤ q ∧ q ≤ 1152000000) (hU : U.toInt = (red q 60).1) (hL : L.toInt = (red q 60).2) (hs : Bd s 2400000) (hp : 0 < p.toInt ∧ p.toInt ≤ 6) (hn : 200 ≤ n) : ∃ U' L', f_X0_increase n U L s.toInt64 p.toInt64 = some (U', L') ∧ U'.toInt = (red (q + s.toInt * (60 / p.toInt)) 60).1 ∧ L'.toInt = (red (q + s.toInt * (60 / p.toInt)) 60).2 := by
  have rp := red_prop (a := q) (b := 60) (by decide)
  rw [← hU, ← hL] at rp
  obtain ⟨r1, r2, r3, r4⟩ := rp
  have d := d60 hp.1 hp.2
  have tp : p.toInt64.toInt = p.toInt := Int32.toInt_toInt64 p
  have ts : s.toInt64.toInt = s.toInt := Int32.toInt_toInt64 s
  have r3' : L.toInt ≤ 60 := r3
  have bU : -1152000000 ≤ U.toInt ∧ U.toInt ≤ 1152000000 := by omega
  have bL : -60 ≤ L.toInt ∧ L.toInt ≤ 60 := by omega
  have bp : -6 ≤ p.toInt64.toInt ∧ p.toInt64.toInt ≤ 6 := by omega
  have bs : -2400000 ≤ s.toInt64.toInt ∧ s.toInt64.toInt ≤ 2400000 := by rw [ts]; exact hs
  have m1 := l_mul bU bp (by decide)
  have m2 := l_mul bs bL (by decide)
  have m3 := l_mul bL bp (by decide)
  have n1 := mul_bd bU.1 bU.2 bp.1 bp.2
  have n2 := mul_bd bs.1 bs.2 bL.1 bL.2
  have n3 := mul_bd bL.1 bL.2 bp.1 bp.2
  rw [← m1] at n1
  rw [← m2] at n2
  rw [← m3] at n3
  have m4 := l_add n1 n2 (by decide)
  have hne : (L * p.toInt64).toInt ≠ 0 := by
    rw [m3, tp]
    exact Int.mul_ne_zero (by omega) (by omega)
  obtain ⟨U', L', h1, h2, h3, -, -⟩ := s_becR (U * p.toInt64 + s.toInt64 * L) (L * p.toInt64) U L n (by unfold Sm; omega) (by unfold Sm; omega) hne hn
  have e : red (U * p.toInt64 + s.toInt64 * L).toInt (L * p.toInt64).toInt = red (q + s.toInt * (60 / p.toInt)) 60 := by
    refine red_eq hne (by decide) ?_
    rw [m4, m1, m2, m3, tp, ts]
    generalize 60 / p.toInt = z at *
    generalize U.toInt = a at *
    generalize L.toInt = c at *
    generalize p.toInt = b at *
    generalize s.toInt = w at *
    have d1 := d.1
    have e1 : (a * b + w * c) * 60 = (a * 60) * b + w * c * 60 := by grind
    have e2 : (q + w * z) * (c * b) = q * c * b + w * c * (z * b) := by grind
    rw [e1, e2, r1, d1]
  rw [e] at h2 h3
  refine ⟨U', L', ?_, h2, h3⟩
  unfold f_X0_increase
  rw [h1]
  rfl
theorem s_sk11 (set num line str wat bak h r b laid : Nat → Int32) (cnt part : Int32) (on : Nat → Bool) (hh : B36 h) (hb : B8 b 50000) (hon : ∀ k, k < 8 → (on k = true ↔ 0 < (laid k).toInt)) : ∀ (c n k : Nat), k + c = 8 → c + 301 ≤ n → ∀ (bs bp : Int32) (U L V : Int64), U.toInt = (red (skv h r b on k).1 60).1 → L.toInt = (red (skv h r b on k).1 60).2 → V.toInt = (skv h r b on k).2 →
    ∃ bs' bp' U' L', f_X11_skill_31 set num line str wat bak cnt h r n b laid bs bp U L part V (nI k) = some (skA (skv h r b on 8) part, b, laid, bs', bp', U', L') := by
  intro c
  induction c with
  | zero =>
    intro n k hk hn bs bp U L V hU hL hV
    obtain ⟨m, rfl⟩ : ∃ m, n = m + 1 := ⟨n - 1, by omega⟩
    obtain rfl : k = 8 := by omega
    show ∃ bs' bp' U' L', f_X11_skill_31b set num line str wat bak cnt h r _ m b laid bs bp U L part V (nI 8) = _
    unfold f_X11_skill_31b skA
    rw [if_pos (by decide)]
    by_cases hz : (skv h r b on 8).2 = 0
    · rw [if_pos (l_z0.mpr (hV.trans hz)), if_pos hz]
      exact ⟨bs, bp, U, L, rfl⟩
    · rw [if_neg (fun g => hz (hV.symm.trans (l_z0.mp g))), if_neg hz]
      have bd := skv_bd (r := r) (on := on) hh hb 8 (by omega)
      have rp := red_prop (a := (skv h r b on 8).1) (b := 60) (by decide)
      rw [← hU, ← hL] at rp
      obtain ⟨r1, r2, r3, r4⟩ := rp
      have r3' : L.toInt ≤ 60 := r3
      rw [← hV] at bd
      have bL : -60 ≤ L.toInt ∧ L.toInt ≤ 60 := by omega
      have m1 := l_mul bL bd.2 (by decide)
      have n1 := mul_bd bL.1 bL.2 bd.2.1 bd.2.2
      rw [← m1] at n1
      have hne : (L * V).toInt ≠ 0 := by
        rw [m1]
        exact Int.mul_ne_zero (by omega) (by omega)
      obtain ⟨U', L', h1, h2, h3, -, -⟩ := s_becR U (L * V) U L m (by unfold Sm; omega) (by unfold Sm; omega) hne (by omega)
      have e : red U.toInt (L * V).toInt = red (skv h r b on 8).1 (60 * (skv h r b on 8).2) := by
        refine red_eq hne (Int.mul_ne_zero (by decide) hz) ?_
        rw [m1, hV]
        generalize (skv h r b on 8).2 = y at *
        generalize (skv h r b on 8).1 = x at *
        have e1 : U.toInt * (60 * y) = U.toInt * 60 * y := by grind
        have e2 : x * (L.toInt * y) = x * L.toInt * y := by grind
        rw [e1, e2, r1]
      rw [e] at h2 h3
      unfold f_X0_divide f_X0_tell
      rw [h1]
      simp only [Option.bind_some]
      refine ⟨bs, bp, U', L', ?_⟩
      rw [← h2, ← h3, Int64.ofInt_toInt, Int64.ofInt_toInt]
      split <;> rfl
  | succ c ih =>
    intro n k hk hn bs bp U L V hU hL hV
    obtain ⟨m, rfl⟩ : ∃ m, n = m + 1 := ⟨n - 1, by omega⟩
    have bd := skv_bd (r := r) (on := on) hh hb k (by omega)
    have gr := rdL_bd (h := h) (r := r) hh (L := k) (by omega)
    have gb := hb k (by omega)
    show ∃ bs' bp' U' L', f_X11_skill_31b set num line str wat bak cnt h r (f_X11_skill_31 set num line str wat bak cnt h r m) m b laid bs bp U L part V (nI k) = _
    unfold f_X11_skill_31b
    rw [k8, if_neg (by rw [p_le (by omega) (by omega)]; omega), s_readBend h r bs bp k m (by omega) (by omega)]
    simp only [Option.bind_some]
    rw [p_vin (by omega) (by omega), grd_t, p_cl (by omega), p_1]
    by_cases h1 : on k = true ∧ 0 < (rdL h r k).2.toInt
    · have hsk : skv h r b on (k + 1) = ((skv h r b on k).1 + (rdL h r k).1.toInt * (60 / (rdL h r k).2.toInt), (skv h r b on k).2 + (b k).toInt) := if_pos h1
      rw [if_neg (fun g => i_pos.mp g ((hon k (by omega)).mp h1.1)), if_neg (fun g => i_pos.mp g h1.2)]
      obtain ⟨U', L', e1, e2, e3⟩ := s_inc U L (rdL h r k).1 (rdL h r k).2 m (skv h r b on k).1 (by omega) hU hL gr.2 ⟨h1.2, gr.1.2⟩ (by omega)
      rw [e1]
      simp only [Option.bind_some, grd_t, nmd]
      have tb : (b k).toInt64.toInt = (b k).toInt := Int32.toInt_toInt64 _
      have gb' : -50000 ≤ (b k).toInt64.toInt ∧ (b k).toInt64.toInt ≤ 50000 := by rw [tb]; exact gb
      have eV : (V + (b k).toInt64).toInt = (skv h r b on k).2 + (b k).toInt := by
        rw [l_add (x := V) (A := 400000) (by omega) gb' (by decide), hV, tb]
      exact ih m (k + 1) (by omega) (by omega) _ _ U' L' _ (by rw [hsk]; exact e2) (by rw [hsk]; exact e3) (by rw [hsk]; exact eV)
    · have hsk : skv h r b on (k + 1) = skv h r b on k := if_neg h1
      have go := ih m (k + 1) (by omega) (by omega) (rdL h r k).1 (rdL h r k).2 U L V (by rw [hsk]; exact hU) (by rw [hsk]; exact hL) (by rw [hsk]; exact hV)
      by_cases h2 : on k = true
      · rw [if_neg (fun g => i_pos.mp g ((hon k (by omega)).mp h2)), if_pos (i_pos.mpr (fun g => h1 ⟨h2, g⟩))]
        exact go
      · rw [if_pos (i_pos.mpr (fun g => h2 ((hon k (by omega)).mpr g)))]
        exact go
/-- how many of the first PASSES lie on a LINE -/
def cntL (line : Nat → Int32) (L : Nat) : Nat → Nat
  | 0 => 0
  | k + 1 => if line k = nI L then cntL line L k + 1 else cntL line L k
theorem cntL_le (line : Nat → Int32) (L : Nat) : ∀ k, cntL line L k ≤ k := by
  intro k
  induction k with
  | zero => exact Nat.le_refl 0
  | succ k ih =>
    unfold cntL
    split <;> omega
theorem mlaid_cnt (line l0 : Nat → Int32) (h0 : eq8 l0 (fun _ => 0)) {L : Nat} (hL : L < 8) : ∀ k, (∀ i, i < k → ∃ M, M < 8 ∧ line i = nI M) → mlaid line l0 k L = nI (cntL line L k) := by
  intro k
  induction k with
  | zero => intro _; exact h0 L hL
  | succ k ih =>
    intro hl
    obtain ⟨M, hM, e⟩ := hl k (by omega)
    have i := ih (fun i hi => hl i (by omega))
    show upd (mlaid line l0 k) (line k).toNatClampNeg (mlaid line l0 k (line k).toNatClampNeg + 1) L = nI (if line k = nI L then cntL line L k + 1 else cntL line L k)
    rw [e, p_cl (by omega)]
    unfold upd
    by_cases h : L = M
    · subst h
      rw [if_pos rfl, if_pos rfl, i, p_1]
    · rw [if_neg h, if_neg (fun g => h ((p_eq (by omega) (by omega)).mp g).symm), i]
theorem s_hp_loop (line : Nat → Int32) (passes L : Nat) (hp : passes ≤ 40) : ∀ (c n k : Nat), k + c = passes → c + 1 ≤ n → f_X12_hasPass_4 line (nI passes) n (nI L) (if 0 < cntL line L k then 1 else 0) (nI k) = some (if 0 < cntL line L passes then 1 else 0) := by
  intro c
  induction c with
  | zero =>
    intro n k hk hn
    obtain ⟨m, rfl⟩ : ∃ m, n = m + 1 := ⟨n - 1, by omega⟩
    obtain rfl : k = passes := by omega
    show f_X12_hasPass_4b line (nI k) _ m (nI L) _ (nI k) = _
    unfold f_X12_hasPass_4b
    rw [if_pos (Int32.le_refl _)]
    split <;> rfl
  | succ c ih =>
    intro n k hk hn
    obtain ⟨m, rfl⟩ : ∃ m, n = m + 1 := ⟨n - 1, by omega⟩
    have go := ih m (k + 1) (by omega) (by omega)
    show f_X12_hasPass_4b line (nI passes) (f_X12_hasPass_4 line (nI passes) m) m (nI L) _ (nI k) = _
    unfold f_X12_hasPass_4b
    rw [if_neg (by rw [p_le (by omega) (by omega)]; omega), p_vin (by omega) (by omega), grd_t, p_cl (by omega), p_1]
    rw [show cntL line L (k + 1) = (if line k = nI L then cntL line L k + 1 else cntL line L k) from rfl] at go
    by_cases h1 : 0 < cntL line L k
    · rw [if_pos h1, if_neg (by decide)]
      have e : 0 < (if line k = nI L then cntL line L k + 1 else cntL line L k) := by split <;> omega
      rw [if_pos e] at go
      exact go
    · rw [if_neg h1, if_pos rfl]
      by_cases h2 : line k = nI L
      · rw [if_pos h2]
        rw [if_pos h2, if_pos (by omega)] at go
        exact go
      · rw [if_neg h2]
        rw [if_neg h2, if_neg h1] at go
        exact go
theorem s_hasPass (line : Nat → Int32) (passes L n : Nat) (hp : passes ≤ 40) (hn : 50 ≤ n) : f_X12_hasPass n line (nI passes) (nI L) = some (if 0 < cntL line L passes then 1 else 0) := s_hp_loop line passes L hp passes n 0 (by omega) (by omega)
theorem s_sk12 (tab set line str wat bak h r b : Nat → Int32) (passes : Nat) (hp : passes ≤ 40) (part : Int32) (on : Nat → Bool) (hpt : part = 0 ∨ part = 1) (hh : B36 h) (hb : B8 b 50000) (hon : ∀ k, k < 8 → (on k = true ↔ 0 < cntL line k passes)) : ∀ (c n k : Nat), k + c = 8 → c + 301 ≤ n → ∀ (bs bp : Int32) (U V : Int64), U.toInt = (skv h r b on k).1 → V.toInt = 60 * (skv h r b on k).2 →
    ∃ bs' bp', f_X12_skill_30 line str wat bak (nI passes) tab set h r n b bs bp part U V (nI k) = some (skA (skv h r b on 8) part, b, bs', bp') := by
  intro c
  induction c with
  | zero =>
    intro n k hk hn bs bp U V hU hV
    obtain ⟨m, rfl⟩ : ∃ m, n = m + 1 := ⟨n - 1, by omega⟩
    obtain rfl : k = 8 := by omega
    show ∃ bs' bp', f_X12_skill_30b line str wat bak (nI passes) tab set h r _ m b bs bp part U V (nI 8) = _
    unfold f_X12_skill_30b skA
    rw [if_pos (by decide)]
    by_cases hz : (skv h r b on 8).2 = 0
    · rw [if_pos (l_z0.mpr (by omega)), if_pos hz]
      exact ⟨bs, bp, rfl⟩
    · rw [if_neg (fun g => hz (by have := l_z0.mp g; omega)), if_neg hz]
      have bd := skv_bd (r := r) (on := on) hh hb 8 (by omega)
      obtain ⟨U', L', -, h2, h3, h4, h5⟩ := s_becR U V U V m (by unfold Sm; omega) (by unfold Sm; omega) (by omega) (by omega)
      rw [hU, hV] at h2 h3
      refine ⟨bs, bp, ?_⟩
      rw [← h2, ← h3, Int64.ofInt_toInt, Int64.ofInt_toInt]
      rcases hpt with rfl | rfl
      · rw [h4, if_pos rfl]
        rfl
      · rw [h5 1 (by decide), if_neg (by decide)]
        rfl
  | succ c ih =>
    intro n k hk hn bs bp U V hU hV
    obtain ⟨m, rfl⟩ : ∃ m, n = m + 1 := ⟨n - 1, by omega⟩
    have bd := skv_bd (r := r) (on := on) hh hb k (by omega)
    have gr := rdL_bd (h := h) (r := r) hh (L := k) (by omega)
    have gb := hb k (by omega)
    show ∃ bs' bp', f_X12_skill_30b line str wat bak (nI passes) tab set h r (f_X12_skill_30 line str wat bak (nI passes) tab set h r m) m b bs bp part U V (nI k) = _
    unfold f_X12_skill_30b
    rw [k8, if_neg (by rw [p_le (by omega) (by omega)]; omega), s_findRead h r bs bp k m (by omega) (by omega)]
    simp only [Option.bind_some]
    rw [s_hasPass line passes k m hp (by omega)]
    simp only [Option.bind_some]
    rw [p_vin (by omega) (by omega), p_cl (by omega), p_1]
    simp only [grd_t]
    by_cases h1 : on k = true ∧ 0 < (rdL h r k).2.toInt
    · have hsk : skv h r b on (k + 1) = ((skv h r b on k).1 + (rdL h r k).1.toInt * (60 / (rdL h r k).2.toInt), (skv h r b on k).2 + (b k).toInt) := if_pos h1
      rw [if_pos ((hon k (by omega)).mp h1.1), if_neg (by decide), if_neg (fun g => i_pos.mp g h1.2)]
      have hnz : nzi (rdL h r k).2 = true := by
        unfold nzi
        have : ¬ (rdL h r k).2 = 0 := fun e => by
          have h2 := h1.2
          rw [e] at h2
          exact absurd h2 (by decide)
        simp [this]
      rw [hnz, grd_t]
      simp only [nmd]
      have d := d60 h1.2 gr.1.2
      have tq : ((60 : Int32) / (rdL h r k).2).toInt = 60 / (rdL h r k).2.toInt := by
        rw [Int32.toInt_div, show (60 : Int32).toInt = 60 from by decide, Int.tdiv_eq_ediv_of_nonneg (by decide), bm _ (by omega) (by omega)]
      have t1 : (rdL h r k).1.toInt64.toInt = (rdL h r k).1.toInt := Int32.toInt_toInt64 _
      have t2 : ((60 : Int32) / (rdL h r k).2).toInt64.toInt = 60 / (rdL h r k).2.toInt := (Int32.toInt_toInt64 _).trans tq
      have tb : (b k).toInt64.toInt = (b k).toInt := Int32.toInt_toInt64 _
      have b1 : -2400000 ≤ (rdL h r k).1.toInt64.toInt ∧ (rdL h r k).1.toInt64.toInt ≤ 2400000 := by rw [t1]; exact gr.2
      have b2 : -60 ≤ ((60 : Int32) / (rdL h r k).2).toInt64.toInt ∧ ((60 : Int32) / (rdL h r k).2).toInt64.toInt ≤ 60 := by rw [t2]; omega
      have m1 := l_mul b1 b2 (by decide)
      have n1 := mul_bd b1.1 b1.2 b2.1 b2.2
      rw [← m1] at n1
      have eU : (U + (rdL h r k).1.toInt64 * ((60 : Int32) / (rdL h r k).2).toInt64).toInt = (skv h r b on k).1 + (rdL h r k).1.toInt * (60 / (rdL h r k).2.toInt) := by
        rw [l_add (x := U) (A := 1152000000) (by omega) n1 (by decide), m1, hU, t1, t2]
      have gb' : -50000 ≤ (b k).toInt64.toInt ∧ (b k).toInt64.toInt ≤ 50000 := by rw [tb]; exact gb
      have b6 : -60 ≤ (60 : Int64).toInt ∧ (60 : Int64).toInt ≤ 60 := by decide
      have m2 := l_mul b6 gb' (by decide)
      have n2 := mul_bd b6.1 b6.2 gb'.1 gb'.2
      rw [← m2] at n2
      have eV : (V + (60 : Int64) * (b k).toInt64).toInt = 60 * ((skv h r b on k).2 + (b k).toInt) := by
        rw [l_add (x := V) (A := 24000000) (by omega) n2 (by decide), m2, hV, tb, show (60 : Int64).toInt = 60 from by decide]
        omega
      exact ih m (k + 1) (by omega) (by omega) _ _ _ _ (by rw [hsk]; exact eU) (by rw [hsk]; exact eV)
    · have hsk : skv h r b on (k + 1) = skv h r b on k := if_neg h1
      have go := ih m (k + 1) (by omega) (by omega) (rdL h r k).1 (rdL h r k).2 U V (by rw [hsk]; exact hU) (by rw [hsk]; exact hV)
      by_cases h2 : on k = true
      · rw [if_pos ((hon k (by omega)).mp h2), if_neg (by decide), if_pos (i_pos.mpr (fun g => h1 ⟨h2, g⟩))]
        exact go
      · rw [if_neg (fun g => h2 ((hon k (by omega)).mpr g)), if_pos rfl]
        exact go
/-- the shape of THE WORK on both sides -/
theorem B8_congr {a b : Nat → Int32} (h : eq8 a b) {B : Int} (g : B8 a B) : B8 b B := fun j hj => by
  rw [← h j hj]
  exact g j hj
