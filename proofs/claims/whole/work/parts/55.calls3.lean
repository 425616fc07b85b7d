/-! The calls read to weld, told. -/
def rct (r : Nat → Int32) : Nat → Nat
  | 0 => 0
  | k + 1 => rct r k + (if r k = 0 then 0 else 1)
theorem rct_upd (r : Nat → Int32) (c : Nat) (v : Int32) : ∀ k, (k ≤ c → rct (upd r c v) k = rct r k) ∧ (c < k → rct (upd r c v) k + (if r c = 0 then 0 else 1) = rct r k + (if v = 0 then 0 else 1)) := by
  intro k
  induction k with
  | zero => exact ⟨fun _ => rfl, fun h => by omega⟩
  | succ k ih =>
    refine ⟨fun h => ?_, fun h => ?_⟩
    · show rct (upd r c v) k + (if upd r c v k = 0 then 0 else 1) = rct r k + (if r k = 0 then 0 else 1)
      have e : upd r c v k = r k := if_neg (by omega)
      rw [ih.1 (by omega), e]
    · show rct (upd r c v) k + (if upd r c v k = 0 then 0 else 1) + (if r c = 0 then 0 else 1) = rct r k + (if r k = 0 then 0 else 1) + (if v = 0 then 0 else 1)
      by_cases q : k = c
      · subst q
        have e : upd r k v k = v := if_pos rfl
        rw [ih.1 (Nat.le_refl _), e]
        omega
      · have e : upd r c v k = r k := if_neg q
        have := ih.2 (by omega)
        rw [e]
        omega
theorem rct_le (r : Nat → Int32) : ∀ k, rct r k ≤ k := by
  intro k
  induction k with
  | zero => exact Nat.le_refl 0
  | succ k ih =>
    show rct r k + (if r k = 0 then 0 else 1) ≤ k + 1
    split <;> omega
def RGa (h r : Nat → Int32) : Prop := B36 h ∧ ∀ c, c < 36 → r c = 0 ∨ r c = 1
theorem RGa_isz {h r : Nat → Int32} (hG : RGa h r) {c : Nat} (hc : c < 36) : isz (r c) = true := by
  unfold isz
  rcases hG.2 c hc with e | e <;> rw [e] <;> rfl
theorem nar1 : vp_nar .boolean (1 : Int32) = 1 := rfl
theorem nar0 : vp_nar .boolean (0 : Int32) = 0 := rfl
theorem c_read (n : Nat) (h r : Nat → Int32) (x1 x2 : Int32) (hG : RGa h r) : ∃ a h' r', f_X11_read n h r (nI (rct r 36)) x1 x2 = some (a, h', r', nI (rct r' 36)) ∧ f_X12_read n h r x1 x2 = some (a, h', r') ∧ RGa h' r' := by
  unfold f_X11_read f_X12_read f_X1_put f_X12_read_40
  rw [i_noCorner, i_corner, i_noHeight, i_height]
  simp only [Option.bind_some]
  by_cases h1 : 0 ≤ x1.toInt ∧ x1.toInt ≤ 35
  · rw [if_pos h1, if_pos h1, if_pos y00, if_neg n10]
    by_cases h2 : -100000 ≤ x2.toInt ∧ x2.toInt ≤ 100000
    · rw [if_pos h2, if_pos h2, if_pos y00, if_neg n10]
      obtain ⟨k, hk, rfl⟩ := t_in (x := x1) (b := 36) (by omega) (by omega) (by omega)
      rw [p_vin hk (by omega), p_cl (by omega), nar1]
      simp only [grd_t, nmd, RGa_isz hG hk]
      have hG' : RGa (upd h k x2) (upd r k 1) := ⟨fun c hc => upd_T h k c x2 (fun z => -100000 ≤ z ∧ z ≤ 100000) h2 (hG.1 c hc), fun c hc => by
        unfold upd
        split
        · exact Or.inr rfl
        · exact hG.2 c hc⟩
      have u := (rct_upd r k 1 36).2 hk
      rw [if_neg n10] at u
      by_cases h3 : r k = 0
      · rw [if_pos h3] at u
        rw [if_pos h3, if_pos h3]
        simp only [Option.bind_some]
        rw [if_pos h3, p_1, show rct r 36 + 1 = rct (upd r k 1) 36 from by omega]
        exact ⟨1, _, _, rfl, rfl, hG'⟩
      · rw [if_neg h3] at u
        rw [if_neg h3, if_neg h3]
        simp only [Option.bind_some]
        rw [if_neg h3, show rct r 36 = rct (upd r k 1) 36 from by omega]
        exact ⟨0, _, _, rfl, rfl, hG'⟩
    · rw [if_neg h2, if_neg h2, if_neg n10, if_pos y00]
      exact ⟨_, h, r, rfl, rfl, hG⟩
  · rw [if_neg h1, if_neg h1, if_neg n10, if_pos y00]
    exact ⟨_, h, r, rfl, rfl, hG⟩
theorem c_forget (n : Nat) (h r : Nat → Int32) (x : Int32) (hG : RGa h r) : ∃ a r', f_X11_forget n r (nI (rct r 36)) x = some (a, r', nI (rct r' 36)) ∧ f_X12_forget n r x = some (a, r') ∧ RGa h r' := by
  unfold f_X11_forget f_X12_forget f_X1_drop
  rw [i_noCorner, i_corner]
  simp only [Option.bind_some]
  by_cases h1 : 0 ≤ x.toInt ∧ x.toInt ≤ 35
  · rw [if_pos h1, if_pos h1, if_pos y00, if_neg n10]
    obtain ⟨k, hk, rfl⟩ := t_in (x := x) (b := 36) (by omega) (by omega) (by omega)
    rw [p_vin hk (by omega), p_cl (by omega), nar0]
    simp only [grd_t, nmd, RGa_isz hG hk]
    have hG' : RGa h (upd r k 0) := ⟨hG.1, fun c hc => by
      unfold upd
      split
      · exact Or.inl rfl
      · exact hG.2 c hc⟩
    have u := (rct_upd r k 0 36).2 hk
    rw [if_pos y00] at u
    by_cases h3 : r k = 0
    · have e : upd r k 0 = r := by
        funext j
        unfold upd
        split
        · rename_i q
          rw [q, h3]
        · rfl
      rw [if_pos h3, if_pos h3, e]
      simp only [Option.bind_some]
      rw [if_pos h3]
      exact ⟨_, r, rfl, rfl, hG⟩
    · rw [if_neg h3] at u
      rw [if_neg h3, if_neg h3]
      simp only [Option.bind_some]
      rw [if_neg h3, k1, p_sub (by omega), show rct r 36 - 1 = rct (upd r k 0) 36 from by omega]
      exact ⟨_, _, rfl, rfl, hG'⟩
  · rw [if_neg h1, if_neg h1, if_neg n10, if_pos y00]
    exact ⟨_, r, rfl, rfl, hG⟩
theorem hw_abv (h : Nat → Int32) (c : Nat) : hw36 h c = abv c (h c) (h 0) (h 5) (h 30) := by
  unfold hw36 abv
  rw [Int32.mul_comm (h c - h 0) 5]
theorem s_flatAt (n c : Nat) (h : Nat → Int32) (hc : c < 36) : f_X12_flatAt n h (nI c) = some (hw36 h c) := by
  unfold f_X12_flatAt
  rw [p_vin hc (by omega), grd_t, s_above n c hc, p_cl (by omega), hw_abv]
  rfl
theorem s_hangs (n : Nat) (r : Nat → Int32) : f_X12_hangs n r = f_X1_canHang n r := rfl
theorem hang_01 (n : Nat) (r : Nat → Int32) : f_X1_canHang n r = some 0 ∨ f_X1_canHang n r = some 1 := by
  unfold f_X1_canHang
  split
  · exact Or.inl rfl
  · split
    · exact Or.inl rfl
    · split
      · exact Or.inl rfl
      · exact Or.inr rfl
theorem c_flat (n : Nat) (h r : Nat → Int32) (x : Int32) : ∃ a, f_X11_flat n h r x = some a ∧ f_X12_flat n h r x = some a := by
  unfold f_X11_flat f_X12_flat
  rw [i_noCorner, i_corner, s_hangs]
  simp only [Option.bind_some]
  by_cases h1 : 0 ≤ x.toInt ∧ x.toInt ≤ 35
  · rw [if_pos h1, if_pos h1, if_pos y00, if_neg n10]
    obtain ⟨k, hk, rfl⟩ := t_in (x := x) (b := 36) (by omega) (by omega) (by omega)
    rw [p_vin hk (by omega), p_cl (by omega), s_hungw h n k hk, s_flatAt n k h hk]
    simp only [grd_t]
    by_cases h3 : r k = 0
    · rw [if_pos h3]
      exact ⟨_, rfl, rfl⟩
    · rw [if_neg h3]
      rcases hang_01 n r with e | e <;> rw [e] <;> exact ⟨_, rfl, rfl⟩
  · rw [if_neg h1, if_neg h1, if_neg n10, if_pos y00]
    exact ⟨_, rfl, rfl⟩
theorem hu_abv (b : Nat → Int32) (c : Nat) (hc : c < 36) : hu b 0 (c % 6) + hu b 4 (c / 6) = abv c (hgt b c) (hgt b 0) (hgt b 5) (hgt b 30) := by
  have h := mis_hu b (fun _ => 0) c hc
  have e : hw36 (fun _ => 0) c = 0 := by
    unfold hw36
    grind
  rw [e] at h
  unfold mis off at h
  have z : ∀ x : Int32, x - 0 = x := fun x => by grind
  simp only [z] at h
  exact h
theorem nmd_eq {α β : Type} (e : α) (k : α → β) : nmd e k = k e := rfl
theorem s_isOdd (m k : Nat) (h r b ac al set : Nat → Int32) (hk : k < 36) : f_X1_isOdd m h r (hpa b 0 ac) (hpa b 4 al) set (nI k) = if r k = 0 then some 0 else if sz (hw36 h k - abv k (hgt b k) (hgt b 0) (hgt b 5) (hgt b 30)) ≤ set (4 : Int32).toNatClampNeg then some 0 else some 1 := by
  unfold f_X1_isOdd
  rw [p_vin hk (by omega), grd_t, p_cl (by omega), s_hungw h m k hk, Option.bind_some, s_hungAt b ac al m k hk, Option.bind_some, nmd_eq, jabs_sz, hu_abv b k hk]
theorem s_odd_m (m k : Nat) (h r b ml ms mw mk tab set : Nat → Int32) (mp x v : Int32) (kk : (Nat → Int32) → Int32 → Int32 → Int32 → Option (Int32 × (Nat → Int32))) (hk : k < 36) (hm : 5 ≤ m) : f_X12_odd_22b ml ms mw mk mp tab set h r kk m b x v (nI k) = if r k = 0 then kk b x v (nI (k + 1)) else if sz (hw36 h k - abv k (hgt b k) (hgt b 0) (hgt b 5) (hgt b 30)) ≤ set (4 : Int32).toNatClampNeg then kk b x v (nI (k + 1)) else if v = x then some (nI k, b) else kk b x (v + 1) (nI (k + 1)) := by
  have hlt : ¬ (36 : Int32) ≤ nI k := by rw [k36, p_le (by omega) (by omega)]; omega
  have q0 : f_X12_heightAt m b 0 = some (hgt b 0) := by rw [k0]; exact s_height b m 0 (by omega) (by omega)
  have q5 : f_X12_heightAt m b 5 = some (hgt b 5) := by rw [k5]; exact s_height b m 5 (by omega) (by omega)
  have q30 : f_X12_heightAt m b 30 = some (hgt b 30) := by rw [k30]; exact s_height b m 30 (by omega) (by omega)
  unfold f_X12_odd_22b
  rw [if_neg hlt, s_height b m k hk (by omega), Option.bind_some, q0, Option.bind_some, q5, Option.bind_some, q30, Option.bind_some, s_above m k hk, Option.bind_some, p_vin hk (by omega), grd_t, p_cl (by omega), s_flatAt m k h hk, Option.bind_some, s_size, Option.bind_some, p_1]
theorem s_odd (set num line str wat bak h r ml ms mw mk tab b1 l1 ac al b2 : Nat → Int32) (cn mp x : Int32) (hb : eq8 b1 b2) : ∀ (c n k : Nat) (v : Int32), k + c = 36 → c + 11 ≤ n →
    ∃ a, f_X11_odd_28 set num line str wat bak cn h r n b1 l1 (hpa b1 0 ac) (hpa b1 4 al) x v (nI k) = some (a, b1, l1, hpa b1 0 ac, hpa b1 4 al) ∧ f_X12_odd_22 ml ms mw mk mp tab set h r n b2 x v (nI k) = some (a, b2) := by
  intro c
  induction c with
  | zero =>
    intro n k v hk hn
    obtain ⟨m, rfl⟩ : ∃ m, n = m + 1 := ⟨n - 1, by omega⟩
    obtain rfl : k = 36 := by omega
    show ∃ a, f_X11_odd_28b set num line str wat bak cn h r _ m b1 l1 (hpa b1 0 ac) (hpa b1 4 al) x v (nI 36) = _ ∧ f_X12_odd_22b ml ms mw mk mp tab set h r _ m b2 x v (nI 36) = _
    unfold f_X11_odd_28b f_X12_odd_22b
    have h36 : (36 : Int32) ≤ nI 36 := by decide
    rw [if_pos h36, if_pos h36]
    by_cases q : x = -1
    · rw [if_pos q, if_pos q]
      exact ⟨_, rfl, rfl⟩
    · rw [if_neg q, if_neg q]
      exact ⟨_, rfl, rfl⟩
  | succ c ih =>
    intro n k v hk hn
    obtain ⟨m, rfl⟩ : ∃ m, n = m + 1 := ⟨n - 1, by omega⟩
    have go := fun v => ih m (k + 1) v (by omega) (by omega)
    have hlt : ¬ (36 : Int32) ≤ nI k := by rw [k36, p_le (by omega) (by omega)]; omega
    show ∃ a, f_X11_odd_28b set num line str wat bak cn h r (f_X11_odd_28 set num line str wat bak cn h r m) m b1 l1 (hpa b1 0 ac) (hpa b1 4 al) x v (nI k) = _ ∧ f_X12_odd_22b ml ms mw mk mp tab set h r (f_X12_odd_22 ml ms mw mk mp tab set h r m) m b2 x v (nI k) = _
    rw [s_odd_m m k h r b2 ml ms mw mk tab set mp x v _ (by omega) (by omega)]
    unfold f_X11_odd_28b
    rw [if_neg hlt, s_isOdd m k h r b1 ac al set (by omega), hgt_eq8 hb k, hgt_eq8 hb 0, hgt_eq8 hb 5, hgt_eq8 hb 30, p_1]
    generalize sz (hw36 h k - abv k (hgt b2 k) (hgt b2 0) (hgt b2 5) (hgt b2 30)) = z
    by_cases h0 : r k = 0
    · rw [if_pos h0, if_pos h0, Option.bind_some, if_pos y00]
      exact go v
    · rw [if_neg h0, if_neg h0]
      by_cases h1 : z ≤ set (4 : Int32).toNatClampNeg
      · rw [if_pos h1, if_pos h1, Option.bind_some, if_pos y00]
        exact go v
      · rw [if_neg h1, if_neg h1, Option.bind_some, if_neg n10]
        by_cases h2 : v = x
        · rw [if_pos h2, if_pos h2]
          exact ⟨_, rfl, rfl⟩
        · rw [if_neg h2, if_neg h2]
          exact go (v + 1)
theorem c_odd (n P : Nat) (set num tab wl ws ww wb ml ms mw mk sb sl sa sal mb h r : Nat → Int32) (x : Int32) (hn : 900000 ≤ n) (hW : RWk P wl ws ww wb ml ms mw mk) (hT : RTb set num tab) :
    ∃ a b1 l1 a1 a2 b2, f_X11_odd n set num wl ws ww wb (nI P) sb sl sa sal h r x = some (a, b1, l1, a1, a2) ∧ f_X12_odd n ml ms mw mk (nI P) tab set mb h r x = some (a, b2) := by
  unfold f_X11_odd f_X12_odd
  rw [s_hangs]
  rcases hang_01 n r with e | e
  · rw [e]
    exact ⟨_, _, _, _, _, _, rfl, rfl⟩
  · rw [e]
    simp only [Option.bind_some]
    rw [if_neg n10, if_neg n10]
    obtain ⟨b1, l1, e1, e2, -⟩ := c_shapes n P set num tab wl ws ww wb ml ms mw mk sb sl hn hW hT
    obtain ⟨b2, e3, e4⟩ := c_bends n P set num tab wl ws ww wb ml ms mw mk mb hn hW hT
    rw [e1, e3]
    simp only [Option.bind_some]
    rw [s_hang b1 sa sal n (by omega)]
    simp only [Option.bind_some]
    obtain ⟨a, g1, g2⟩ := s_odd set num wl ws ww wb h r ml ms mw mk tab b1 l1 sa sal b2 (nI P) (nI P) x (e2.1.tr e4.sy) 36 n 0 0 (by omega) (by omega)
    exact ⟨a, _, _, _, _, _, g1, g2⟩
theorem c_bendRead (n : Nat) (h r : Nat → Int32) (bs bp ms mm x1 x2 : Int32) (fu fl : Int64) (hn : 900000 ≤ n) (hG : RGa h r) : ∃ a bs' bp' fu' fl' ms' mm', f_X11_bendRead n h r bs bp fu fl x1 x2 = some (a, bs', bp', fu', fl') ∧ f_X12_bendRead n h r ms mm x1 x2 = some (a, ms', mm') := by
  unfold f_X11_bendRead f_X12_bendRead
  rw [i_noLine, i_line, i_01]
  simp only [Option.bind_some, lt_T, le_T, show (0 : Int32).toInt = 0 from by decide, show (1 : Int32).toInt = 1 from by decide]
  by_cases h1 : 0 ≤ x1.toInt ∧ x1.toInt ≤ 7
  · rw [if_pos h1, if_pos h1, if_pos y00, if_neg n10]
    obtain ⟨k, hk, rfl⟩ := t_in (x := x1) (b := 8) (by omega) (by omega) (by omega)
    by_cases h2 : 0 ≤ x2.toInt ∧ x2.toInt ≤ 1
    · rw [if_neg (show ¬ x2.toInt < 0 by omega), if_pos h2.2, if_pos h2, if_neg n10, s_readBend h r bs bp k n hk (by omega), s_findRead h r ms mm k n hk (by omega)]
      simp only [Option.bind_some]
      have bd := rdL_bd (h := h) (r := r) hG.1 hk
      by_cases h3 : (rdL h r k).2 = 0
      · rw [if_pos h3, if_pos h3]
        exact ⟨_, _, _, _, _, _, _, rfl, rfl⟩
      · rw [if_neg h3, if_neg h3]
        have t1 : (rdL h r k).1.toInt64.toInt = (rdL h r k).1.toInt := Int32.toInt_toInt64 _
        have t2 : (rdL h r k).2.toInt64.toInt = (rdL h r k).2.toInt := Int32.toInt_toInt64 _
        have hne : (rdL h r k).2.toInt64.toInt ≠ 0 := by
          rw [t2]
          exact fun q => h3 (Int32.toInt_inj.mp q)
        have b1 := bd.2
        unfold Bd at b1
        obtain ⟨U, L, g1, -, -, g4, g5⟩ := s_becR (rdL h r k).1.toInt64 (rdL h r k).2.toInt64 fu fl n (by unfold Sm; rw [t1]; omega) (by unfold Sm; rw [t2]; omega) hne (by omega)
        rw [g1]
        simp only [Option.bind_some]
        unfold f_X0_tell
        by_cases h4 : x2 = 0
        · rw [if_pos h4, h4, g4]
          exact ⟨_, _, _, _, _, _, _, rfl, rfl⟩
        · rw [if_neg h4, g5 x2 h4]
          exact ⟨_, _, _, _, _, _, _, rfl, rfl⟩
    · rw [if_neg h2, if_pos y00]
      refine ⟨_, bs, bp, fu, fl, ms, mm, ?_, rfl⟩
      by_cases q : x2.toInt < 0
      · rw [if_pos q]
      · rw [if_neg q, if_neg (by omega)]
  · rw [if_neg h1, if_neg h1, if_neg n10, if_pos y00]
    exact ⟨_, bs, bp, fu, fl, ms, mm, rfl, rfl⟩
theorem skv_congr (h r : Nat → Int32) {a b : Nat → Int32} (on : Nat → Bool) (e : eq8 a b) : ∀ k, k ≤ 8 → skv h r a on k = skv h r b on k := by
  intro k
  induction k with
  | zero => intro _; rfl
  | succ k ih =>
    intro hk
    unfold skv
    rw [ih (by omega), e k (by omega)]
theorem cntL_congr {a b : Nat → Int32} (L : Nat) : ∀ k, (∀ i, i < k → a i = b i) → cntL a L k = cntL b L k := by
  intro k
  induction k with
  | zero => intro _; rfl
  | succ k ih =>
    intro h
    unfold cntL
    rw [ih (fun i hi => h i (by omega)), h k (by omega)]
theorem c_skill (n P : Nat) (set num tab wl ws ww wb ml ms mw mk sb sl mb h r : Nat → Int32) (bs bp rs rm x : Int32) (fu fl : Int64) (hn : 900000 ≤ n) (hW : RWk P wl ws ww wb ml ms mw mk) (hT : RTb set num tab) (hG : RGa h r) :
    ∃ a b1 l1 bs' bp' fu' fl' b2 rs' rm', f_X11_skill n set num wl ws ww wb (nI P) sb sl h r bs bp fu fl x = some (a, b1, l1, bs', bp', fu', fl') ∧ f_X12_skill n ml ms mw mk (nI P) tab set mb h r rs rm x = some (a, b2, rs', rm') := by
  have hP := hW.1
  unfold f_X11_skill f_X12_skill
  rw [i_01]
  simp only [Option.bind_some, lt_T, le_T, show (0 : Int32).toInt = 0 from by decide, show (1 : Int32).toInt = 1 from by decide]
  by_cases h2 : 0 ≤ x.toInt ∧ x.toInt ≤ 1
  · rw [if_neg (show ¬ x.toInt < 0 by omega), if_pos h2.2, if_pos h2, if_neg n10]
    obtain ⟨b1, l1, e1, e2, e5⟩ := c_shapes n P set num tab wl ws ww wb ml ms mw mk sb sl hn hW hT
    obtain ⟨b2, e3, e4⟩ := c_bends n P set num tab wl ws ww wb ml ms mw mk mb hn hW hT
    have hB : B8 (sh tab set (lst wl ws ww wb P)).1 50000 := fun j hj => (sh_B8 hW hT j hj).le (by decide)
    have hB1 : B8 b1 50000 := B8_congr e2.1.sy hB
    have hB2 : B8 b2 50000 := B8_congr e4.sy hB
    rw [e1, e3]
    simp only [Option.bind_some]
    obtain ⟨U, L, g1, g2, g3, -, -⟩ := s_becR 0 1 fu fl n (by unfold Sm; decide) (by unfold Sm; decide) (by decide) (by omega)
    rw [g1]
    simp only [Option.bind_some]
    have hr : red (0 : Int64).toInt (1 : Int64).toInt = red 0 60 := red_eq (by decide) (by decide) (by decide)
    rw [hr] at g2 g3
    have on1 : ∀ k, k < 8 → ((fun k => decide (0 < cntL wl k P)) k = true ↔ 0 < (l1 k).toInt) := fun k hk => by
      have hc := cntL_le wl k P
      rw [e5 k hk, p_T (by omega)]
      simp
    have on2 : ∀ k, k < 8 → ((fun k => decide (0 < cntL wl k P)) k = true ↔ 0 < cntL ml k P) := fun k hk => by
      show decide (0 < cntL wl k P) = true ↔ 0 < cntL ml k P
      rw [cntL_congr k P (fun i hi => (hW.2.1 i hi).1)]
      simp
    obtain ⟨bs', bp', U', L', q1⟩ := s_sk11 set num wl ws ww wb h r b1 l1 (nI P) x (fun k => decide (0 < cntL wl k P)) hG.1 hB1 on1 8 n 0 (by omega) (by omega) bs bp U L 0 g2 g3 rfl
    have hx : x = 0 ∨ x = 1 := by
      obtain ⟨k, hk, rfl⟩ := t_in (x := x) (b := 2) (by omega) (by omega) (by omega)
      have : k = 0 ∨ k = 1 := by omega
      rcases this with rfl | rfl
      · exact Or.inl rfl
      · exact Or.inr rfl
    obtain ⟨rs', rm', q2⟩ := s_sk12 tab set ml ms mw mk h r b2 P (by omega) x (fun k => decide (0 < cntL wl k P)) hx hG.1 hB2 on2 8 n 0 (by omega) (by omega) rs rm 0 0 rfl rfl
    rw [skv_congr h r (fun k => decide (0 < cntL wl k P)) (e2.1.tr e4.sy) 8 (by omega)] at q1
    exact ⟨_, _, _, _, _, _, _, _, _, _, q1, q2⟩
  · rw [if_neg h2, if_pos y00]
    refine ⟨_, sb, sl, bs, bp, fu, fl, mb, rs, rm, ?_, rfl⟩
    by_cases q : x.toInt < 0
    · rw [if_pos q]
    · rw [if_neg q, if_neg (by omega)]
