/-! Written by wip/gen/gen5.py: the law's loop, and its start. -/
set_option maxHeartbeats 4000000 in
set_option maxRecDepth 100000 in
theorem law_loop {p : Program} {l : Launch} {e : Env} {s : State} {m : MethodId} {below : List Frame} {meth : Method} {c : Code} {D : va_G} {cI cC cZ : ClassId} {t u : Nat → Nat} {b L : Nat} {xs : Nat → Int32} (hL : L ≤ 2560) (C0 : Cx p s m #[Value.ref b] meth c RL code 4 ret D cI cC cZ) (hX : va_X b L xs s s.heap) (hbl : b < s.heap.size) (hz : StZ (fun q : Nat => s.heap.size ≤ q) s s.heap) :
    ∀ (n i : Nat) (x3 : Int32), i ≤ L → L + 1 ≤ i + n → x3 = nI i → ∀ (wx wm : va_W) (H : Heap) (locs : List Loc), Rl cI cC cZ t u wx wm → Wd D (fun q : Nat => s.heap.size ≤ q) s.heap (wx ++ wm) H locs → ∀ (ls : Array Slot), lv_has ls 4 [(3, .int x3), (2, .ref (u 0)), (1, .ref (t 0)), (0, .ref b)] → W p l e room_1 s m #[Value.ref b] below meth c H locs 77 1080 (lw_Z below #[Value.ref b] s) (F0 m 18 ls []) := by
  have hx := C0.1
  have hb := C0.2.1
  have hbA : ¬ (fun q : Nat => s.heap.size ≤ q) b := Nat.not_le.mpr hbl
  intro n
  induction n with
  | zero =>
    intro i x3 h1 h2
    exact absurd h2 (by omega)
  | succ n ih =>
    intro i x3 hi hin ex3 wx wm H locs hR hw ls hl
    refine lv_iload_n hx hb (dc d_law_0 10 rfl) rfl (lv_at hl 0 rfl) ?_
    refine lv_aload_n hx hb (dc d_law_0 11 rfl) rfl (lv_at hl 3 rfl) ?_
    refine va_slen hx hb hX hbl hbA hw.2.2 (dc d_law_0 12 rfl) ?_
    refine lv_iconst (v := (5 : Int32)) hx hb (dc d_law_0 13 rfl) (by decide) ?_
    refine lv_isub hx hb (dc d_law_0 14 rfl) ?_
    have hcmp : (nI L - 5 < x3) ↔ L < i + 5 := by
      rw [lt_T, ex3, p_T (by omega), t_sub (A := 2560) (B := 5) ((Bd.nI (by omega)).le (by omega)) (by unfold Bd; decide) (by decide), p_T (by omega), show (5 : Int32).toInt = 5 from by decide]
      omega
    refine lv_icmp_gt (tgt := 1051) hx hb (dc d_law_0 15 rfl) (by decide) (fun c1 => ?_) (fun c1 => ?_)
    · refine lv_iconst (v := (1 : Int32)) hx hb (dc d_law_11 25 rfl) (by decide) ?_
      refine va_forget (fun q hq => hw.2.2.2.2 q hq) ?_
      refine W.widen (k := 600000) (n := 7302249) (by decide) (by decide) ?_
      exact lw_ret hx hb C0.2.2.1 C0.2.2.2.2.2.1 (dc d_law_11 26 rfl)
    · have hle : i + 5 ≤ L := Nat.not_lt.mp (fun q => c1 (hcmp.mpr q))
      have hv : ∀ k : Nat, k < 5 → vp_in (x3 + nI k) L := fun k hk => by rw [ex3, p_add]; exact vp_in_nI (by omega) (by omega)
      have hv0 : vp_in x3 L := by rw [ex3]; exact vp_in_nI (by omega) (by omega)
      refine lv_aload_n hx hb (dc d_law_0 16 rfl) rfl (lv_at hl 3 rfl) ?_
      refine lv_iload_n hx hb (dc d_law_0 17 rfl) rfl (lv_at hl 0 rfl) ?_
      refine va_sld hx hb hX hbl hbA hw.2.2 hv0 (dc d_law_0 18 rfl) ?_
      refine lv_bipush (v := (31 : Int32)) hx hb (dc d_law_0 19 rfl) (by decide) ?_
      refine lv_iand hx hb (dc d_law_0 20 rfl) ?_
      have hK : ∀ (wx' wm' : va_W) (H' : Heap) (locs' : List Loc), Rl cI cC cZ t u wx' wm' → Wd D (fun q : Nat => s.heap.size ≤ q) s.heap (wx' ++ wm') H' locs' → W p l e room_1 s m #[Value.ref b] below meth c H' locs' 77 1080 (lw_Z below #[Value.ref b] s) (F0 m 1045 ls []) := by
        intro wx' wm' H' locs' hR' hw'
        refine lv_iinc (v := nI (i + 5)) (lv' := [(3, .int (nI (i + 5))), (2, .ref (u 0)), (1, .ref (t 0)), (0, .ref b)]) hx hb (dc d_law_11 23 rfl) hl (k := 0) rfl (by rw [ex3]; exact p_add i 5) (by decide) rfl (fun ls hl => ?_)
        refine lv_goto (tgt := 18) hx hb (dc d_law_11 24 rfl) (by decide) ?_
        exact ih (i + 5) (nI (i + 5)) hle (by omega) rfl wx' wm' H' locs' hR' hw' ls hl
      obtain ⟨k, hk, ek⟩ := pk_andE (xs x3.toNatClampNeg) (m := 31) 5 (by decide)
      rw [ek]
      have hk32 : k < 32 := hk
      have hk2 : k = 0 ∨ k = 1 ∨ k = 2 ∨ k = 3 ∨ k = 4 ∨ k = 5 ∨ k = 6 ∨ k = 7 ∨ k = 8 ∨ k = 9 ∨ k = 10 ∨ k = 11 ∨ k = 12 ∨ k = 13 ∨ k = 14 ∨ k = 15 ∨ k = 16 ∨ k = 17 ∨ k = 18 ∨ k = 19 ∨ k = 20 ∨ k = 21 ∨ k = 22 ∨ k = 23 ∨ k = 24 ∨ k = 25 ∨ k = 26 ∨ k = 27 ∨ k = 28 ∨ k = 29 ∨ k = 30 ∨ k = 31 := by omega
      rcases hk2 with rfl | rfl | rfl | rfl | rfl | rfl | rfl | rfl | rfl | rfl | rfl | rfl | rfl | rfl | rfl | rfl | rfl | rfl | rfl | rfl | rfl | rfl | rfl | rfl | rfl | rfl | rfl | rfl | rfl | rfl | rfl | rfl
      · refine lv_tableIn (off := 144) (tgt := 176) hx hb (dc d_law_0 21 rfl) (by decide) (by decide) (by rfl) (by decide) ?_
        exact lc_0 C0 hX hbl hbA hv hl hz hK hR hw
      · refine lv_tableIn (off := 167) (tgt := 199) hx hb (dc d_law_0 21 rfl) (by decide) (by decide) (by rfl) (by decide) ?_
        exact lc_1 C0 hX hbl hbA hv hl hz hK hR hw
      · refine lv_tableIn (off := 180) (tgt := 212) hx hb (dc d_law_0 21 rfl) (by decide) (by decide) (by rfl) (by decide) ?_
        exact lc_2 C0 hX hbl hbA hv hl hz hK hR hw
      · refine lv_tableIn (off := 193) (tgt := 225) hx hb (dc d_law_0 21 rfl) (by decide) (by decide) (by rfl) (by decide) ?_
        exact lc_3 C0 hX hbl hbA hv hl hz hK hR hw
      · refine lv_tableIn (off := 206) (tgt := 238) hx hb (dc d_law_0 21 rfl) (by decide) (by decide) (by rfl) (by decide) ?_
        exact lc_4 C0 hX hbl hbA hv hl hz hK hR hw
      · refine lv_tableIn (off := 229) (tgt := 261) hx hb (dc d_law_0 21 rfl) (by decide) (by decide) (by rfl) (by decide) ?_
        exact lc_5 C0 hX hbl hbA hv hl hz hK hR hw
      · refine lv_tableIn (off := 262) (tgt := 294) hx hb (dc d_law_0 21 rfl) (by decide) (by decide) (by rfl) (by decide) ?_
        exact lc_6 C0 hX hbl hbA hv hl hz hK hR hw
      · refine lv_tableIn (off := 305) (tgt := 337) hx hb (dc d_law_0 21 rfl) (by decide) (by decide) (by rfl) (by decide) ?_
        exact lc_7 C0 hX hbl hbA hv hl hz hK hR hw
      · refine lv_tableIn (off := 338) (tgt := 370) hx hb (dc d_law_0 21 rfl) (by decide) (by decide) (by rfl) (by decide) ?_
        exact lc_8 C0 hX hbl hbA hv hl hz hK hR hw
      · refine lv_tableIn (off := 361) (tgt := 393) hx hb (dc d_law_0 21 rfl) (by decide) (by decide) (by rfl) (by decide) ?_
        exact lc_9 C0 hX hbl hbA hv hl hz hK hR hw
      · refine lv_tableIn (off := 384) (tgt := 416) hx hb (dc d_law_0 21 rfl) (by decide) (by decide) (by rfl) (by decide) ?_
        exact lc_10 C0 hX hbl hbA hv hl hz hK hR hw
      · refine lv_tableIn (off := 417) (tgt := 449) hx hb (dc d_law_0 21 rfl) (by decide) (by decide) (by rfl) (by decide) ?_
        exact lc_11 C0 hX hbl hbA hv hl hz hK hR hw
      · refine lv_tableIn (off := 440) (tgt := 472) hx hb (dc d_law_0 21 rfl) (by decide) (by decide) (by rfl) (by decide) ?_
        exact lc_12 C0 hX hbl hbA hv hl hz hK hR hw
      · refine lv_tableIn (off := 453) (tgt := 485) hx hb (dc d_law_0 21 rfl) (by decide) (by decide) (by rfl) (by decide) ?_
        exact lc_13 C0 hX hbl hbA hv hl hz hK hR hw
      · refine lv_tableIn (off := 476) (tgt := 508) hx hb (dc d_law_0 21 rfl) (by decide) (by decide) (by rfl) (by decide) ?_
        exact lc_14 C0 hX hbl hbA hv hl hz hK hR hw
      · refine lv_tableIn (off := 489) (tgt := 521) hx hb (dc d_law_0 21 rfl) (by decide) (by decide) (by rfl) (by decide) ?_
        exact lc_15 C0 hX hbl hbA hv hl hz hK hR hw
      · refine lv_tableIn (off := 574) (tgt := 606) hx hb (dc d_law_0 21 rfl) (by decide) (by decide) (by rfl) (by decide) ?_
        exact lc_16 C0 hX hbl hbA hv hl hz hK hR hw
      · refine lv_tableIn (off := 607) (tgt := 639) hx hb (dc d_law_0 21 rfl) (by decide) (by decide) (by rfl) (by decide) ?_
        exact lc_17 C0 hX hbl hbA hv hl hz hK hR hw
      · refine lv_tableIn (off := 630) (tgt := 662) hx hb (dc d_law_0 21 rfl) (by decide) (by decide) (by rfl) (by decide) ?_
        exact lc_18 C0 hX hbl hbA hv hl hz hK hR hw
      · refine lv_tableIn (off := 653) (tgt := 685) hx hb (dc d_law_0 21 rfl) (by decide) (by decide) (by rfl) (by decide) ?_
        exact lc_19 C0 hX hbl hbA hv hl hz hK hR hw
      · refine lv_tableIn (off := 686) (tgt := 718) hx hb (dc d_law_0 21 rfl) (by decide) (by decide) (by rfl) (by decide) ?_
        exact lc_20 C0 hX hbl hbA hv hl hz hK hR hw
      · refine lv_tableIn (off := 709) (tgt := 741) hx hb (dc d_law_0 21 rfl) (by decide) (by decide) (by rfl) (by decide) ?_
        exact lc_21 C0 hX hbl hbA hv hl hz hK hR hw
      · refine lv_tableIn (off := 732) (tgt := 764) hx hb (dc d_law_0 21 rfl) (by decide) (by decide) (by rfl) (by decide) ?_
        exact lc_22 C0 hX hbl hbA hv hl hz hK hR hw
      · refine lv_tableIn (off := 755) (tgt := 787) hx hb (dc d_law_0 21 rfl) (by decide) (by decide) (by rfl) (by decide) ?_
        exact lc_23 C0 hX hbl hbA hv hl hz hK hR hw
      · refine lv_tableIn (off := 788) (tgt := 820) hx hb (dc d_law_0 21 rfl) (by decide) (by decide) (by rfl) (by decide) ?_
        exact lc_24 C0 hX hbl hbA hv hl hz hK hR hw
      · refine lv_tableIn (off := 812) (tgt := 844) hx hb (dc d_law_0 21 rfl) (by decide) (by decide) (by rfl) (by decide) ?_
        exact lc_25 C0 hX hbl hbA hv hl hz hK hR hw
      · refine lv_tableIn (off := 855) (tgt := 887) hx hb (dc d_law_0 21 rfl) (by decide) (by decide) (by rfl) (by decide) ?_
        exact lc_26 C0 hX hbl hbA hv hl hz hK hR hw
      · refine lv_tableIn (off := 888) (tgt := 920) hx hb (dc d_law_0 21 rfl) (by decide) (by decide) (by rfl) (by decide) ?_
        exact lc_27 C0 hX hbl hbA hv hl hz hK hR hw
      · refine lv_tableIn (off := 901) (tgt := 933) hx hb (dc d_law_0 21 rfl) (by decide) (by decide) (by rfl) (by decide) ?_
        exact lc_28 C0 hX hbl hbA hv hl hz hK hR hw
      · refine lv_tableIn (off := 934) (tgt := 966) hx hb (dc d_law_0 21 rfl) (by decide) (by decide) (by rfl) (by decide) ?_
        exact lc_29 C0 hX hbl hbA hv hl hz hK hR hw
      · refine lv_tableIn (off := 957) (tgt := 989) hx hb (dc d_law_0 21 rfl) (by decide) (by decide) (by rfl) (by decide) ?_
        exact lc_30 C0 hX hbl hbA hv hl hz hK hR hw
      · refine lv_tableIn (off := 990) (tgt := 1022) hx hb (dc d_law_0 21 rfl) (by decide) (by decide) (by rfl) (by decide) ?_
        exact lc_31 C0 hX hbl hbA hv hl hz hK hR hw
set_option maxHeartbeats 4000000 in
set_option maxRecDepth 100000 in
theorem whole_start {p : Program} {e : Env} {s : State} {m : MethodId} {below : List Frame} {meth : Method} {c : Code} (l : Launch) {b L : Nat} {xs : Nat → Int32} (hL : L ≤ 2560) (C0 : lw_At p s m meth c b L xs) : W p l e room_1 s m #[Value.ref b] below meth c s.heap [] 0 0 (lw_Z below #[Value.ref b] s) (entryFrame m ([Value.ref b] : List Value).toArray 4) := by
  obtain ⟨hx, hb, hr, hml, hown, hts, hX, hbl, hlocks, hgv⟩ := C0
  have hA : ∀ q : Nat, s.heap.size ≤ q → (fun q : Nat => s.heap.size ≤ q) q := fun _ h => h
  have hg : ∀ w ∈ gt, w.before #[Value.ref b] s = true := fun w hw => hts w (List.mem_filter.mp hw).1
  obtain ⟨c0, iS0, hKn0⟩ := u_known (C := RX0) (T := TX0) (N := 2) (n := 2) hg iw_X0 (hts (.instantiable RX0 2) (List.mem_of_getElem? (i := 313) (by decide +kernel)))
  obtain ⟨c1, iS1, hKn1⟩ := u_known (C := RX1) (T := TX1) (N := 5) (n := 5) hg iw_X1 (hts (.instantiable RX1 5) (List.mem_of_getElem? (i := 199) (by decide +kernel)))
  obtain ⟨c2, iS2, hKn2⟩ := u_known (C := RX2) (T := TX2) (N := 2) (n := 2) hg iw_X2 (hts (.instantiable RX2 2) (List.mem_of_getElem? (i := 61) (by decide +kernel)))
  obtain ⟨c3, iS3, hKn3⟩ := u_known (C := RX3) (T := TX3) (N := 6) (n := 6) hg iw_X3 (hts (.instantiable RX3 6) (List.mem_of_getElem? (i := 100) (by decide +kernel)))
  obtain ⟨c4, iS4, hKn4⟩ := u_known (C := RX4) (T := TX4) (N := 4) (n := 4) hg iw_X4 (hts (.instantiable RX4 4) (List.mem_of_getElem? (i := 173) (by decide +kernel)))
  obtain ⟨c5, iS5, hKn5⟩ := u_known (C := RX5) (T := TX5) (N := 2) (n := 2) hg iw_X5 (hts (.instantiable RX5 2) (List.mem_of_getElem? (i := 76) (by decide +kernel)))
  obtain ⟨c6, iS6, hKn6⟩ := u_known (C := RX6) (T := TX6) (N := 4) (n := 4) hg iw_X6 (hts (.instantiable RX6 4) (List.mem_of_getElem? (i := 136) (by decide +kernel)))
  obtain ⟨c7, iS7, hKn7⟩ := u_known (C := RX7) (T := TX7) (N := 6) (n := 6) hg iw_X7 (hts (.instantiable RX7 6) (List.mem_of_getElem? (i := 285) (by decide +kernel)))
  obtain ⟨c8, iS8, hKn8⟩ := u_known (C := RX8) (T := TX8) (N := 2) (n := 2) hg iw_X8 (hts (.instantiable RX8 2) (List.mem_of_getElem? (i := 227) (by decide +kernel)))
  obtain ⟨c9, iS9, hKn9⟩ := u_known (C := RX9) (T := TX9) (N := 9) (n := 9) hg iw_X9 (hts (.instantiable RX9 9) (List.mem_of_getElem? (i := 245) (by decide +kernel)))
  obtain ⟨c10, iS10, hKn10⟩ := u_known (C := RX10) (T := TX10) (N := 2) (n := 2) hg iw_X10 (hts (.instantiable RX10 2) (List.mem_of_getElem? (i := 158) (by decide +kernel)))
  obtain ⟨c11, iS11, hKn11⟩ := u_known (C := RX11) (T := TX11) (N := 11) (n := 11) hg iw_X11 (hts (.instantiable RX11 11) (List.mem_of_getElem? (i := 53) (by decide +kernel)))
  obtain ⟨c12, iS12, hKn12⟩ := u_known (C := RX12) (T := TX12) (N := 32) (n := 32) hg iw_X12 (hts (.instantiable RX12 32) (List.mem_of_getElem? (i := 772) (by decide +kernel)))
  obtain ⟨D, hKc⟩ : ∃ D : va_G, ∀ (k : Nat) (q : vw_C), vwCl[k]? = some q → u_Kn s q.1 q.2.1 q.2.2 (D.1 k) (D.2 k) := by
    refine ⟨(fun k => [c0, c1, c2, c3, c4, c5, c6, c7, c8, c9, c10, c11, c12].getD k c0, fun k => [iS0, iS1, iS2, iS3, iS4, iS5, iS6, iS7, iS8, iS9, iS10, iS11, iS12].getD k iS0), ?_⟩
    intro k q hq
    match k, hq with
    | 0, hq => cases hq; exact hKn0
    | 1, hq => cases hq; exact hKn1
    | 2, hq => cases hq; exact hKn2
    | 3, hq => cases hq; exact hKn3
    | 4, hq => cases hq; exact hKn4
    | 5, hq => cases hq; exact hKn5
    | 6, hq => cases hq; exact hKn6
    | 7, hq => cases hq; exact hKn7
    | 8, hq => cases hq; exact hKn8
    | 9, hq => cases hq; exact hKn9
    | 10, hq => cases hq; exact hKn10
    | 11, hq => cases hq; exact hKn11
    | 12, hq => cases hq; exact hKn12
    | k + 13, hq => simp [vwCl] at hq
  obtain ⟨cI, acI, rcI⟩ := arr_of (ty := .int) (fun C h => by cases h) (hg _ ac_int)
  obtain ⟨cC, acC, rcC⟩ := arr_of (ty := .char) (fun C h => by cases h) (hg _ ac_char)
  obtain ⟨cZ, acZ, rcZ⟩ := arr_of (ty := .boolean) (fun C h => by cases h) (hg _ ac_boolean)
  have hK : va_K D vwCl (tys3 cI cC cZ) s := by
    refine ⟨hKc, fun k q hq => ?_⟩
    match k, hq with
    | 0, hq => cases hq; exact ⟨acI, rcI⟩
    | 1, hq => cases hq; exact ⟨acC, rcC⟩
    | 2, hq => cases hq; exact ⟨acZ, rcZ⟩
    | k + 3, hq => simp [tys3] at hq
  have C1 : Cx p s m #[Value.ref b] meth c RL code 4 ret D cI cC cZ := ⟨hx, hb, hr, hml, hown, hlocks, hg, hK⟩
  have hA2 : ∀ a : Nat, a < s.heap.size → ¬ (fun q : Nat => s.heap.size ≤ q) a := fun a h => Nat.not_le.mpr h
  have hfl := flat_of_before _ hgv
  have z_atF : St1 "AT_FIRST" atF (fun q : Nat => s.heap.size ≤ q) s s.heap := by
    refine st1_of (hts _ (List.mem_of_getElem? (i := 82) (by decide +kernel))) (hts _ (List.mem_of_getElem? (i := 37) (by decide +kernel))) (hfl _ (by decide +kernel)) (hfl _ (by decide +kernel)) (fun j hj => ?_) hA2
    rcases (show j = 0 ∨ j = 1 ∨ j = 2 ∨ j = 3 ∨ j = 4 ∨ j = 5 by omega) with rfl | rfl | rfl | rfl | rfl | rfl <;> exact hfl _ (by decide +kernel)
  have z_leF : St1 "LEAST" leF (fun q : Nat => s.heap.size ≤ q) s s.heap := by
    refine st1_of (hts _ (List.mem_of_getElem? (i := 468) (by decide +kernel))) (hts _ (List.mem_of_getElem? (i := 37) (by decide +kernel))) (hfl _ (by decide +kernel)) (hfl _ (by decide +kernel)) (fun j hj => ?_) hA2
    rcases (show j = 0 ∨ j = 1 ∨ j = 2 ∨ j = 3 ∨ j = 4 ∨ j = 5 by omega) with rfl | rfl | rfl | rfl | rfl | rfl <;> exact hfl _ (by decide +kernel)
  have z_moF : St1 "MOST" moF (fun q : Nat => s.heap.size ≤ q) s s.heap := by
    refine st1_of (hts _ (List.mem_of_getElem? (i := 470) (by decide +kernel))) (hts _ (List.mem_of_getElem? (i := 37) (by decide +kernel))) (hfl _ (by decide +kernel)) (hfl _ (by decide +kernel)) (fun j hj => ?_) hA2
    rcases (show j = 0 ∨ j = 1 ∨ j = 2 ∨ j = 3 ∨ j = 4 ∨ j = 5 by omega) with rfl | rfl | rfl | rfl | rfl | rfl <;> exact hfl _ (by decide +kernel)
  have hz : StZ (fun q : Nat => s.heap.size ≤ q) s s.heap := ⟨z_atF, z_leF, z_moF⟩
  have hw : Wd D (fun q : Nat => s.heap.size ≤ q) s.heap [] s.heap [] := ⟨fun k q h => by simp at h, ⟨fun i j p q h => by simp at h, fun k q h => by simp at h⟩, va_S.rf⟩
  have hl := lv_entry ([.ref b]) (n := 4) (Nat.le_of_ble_eq_true rfl)
  rw [lg_entry_eq]
  generalize (lg_sl ([.ref b]) ++ List.replicate (4 - (lg_sl ([.ref b])).length) Slot.unset).toArray = ls at hl ⊢
  have hl : lv_has ls 4 [(0, .ref b)] := hl
  refine x_newo C1 hw hA fn_L_7 (Nat.le_of_ble_eq_true rfl) (Nat.le_of_ble_eq_true rfl) (dc d_law_0 0 rfl) (fun q0 H hw => ?_)
  dsimp only [List.cons_append, List.nil_append] at hw
  refine lv_dup hx hb (dc d_law_0 1 rfl) rfl ?_
  refine x_callI (wr := []) C1 hw hA hz mb_X11_init im_X11_init rfl ml_L_9 (n_X11_init q0) hl.1 rfl rfl [0] [] rfl rfl (by decide) (by decide) (by decide) (Nat.le_of_ble_eq_true rfl) (Nat.le_of_ble_eq_true rfl) (Nat.le_of_ble_eq_true rfl) (Nat.le_of_ble_eq_true rfl) (Nat.le_of_ble_eq_true rfl) (dc d_law_0 2 rfl) (fun w1 H1 locs1 hp hwB => ?_)
  clear hw
  obtain ⟨t, et, ew⟩ := w0_X11 (cI := cI) (cC := cC) (cZ := cZ) hp
  clear hp
  subst ew
  subst et
  rw [List.nil_append] at hwB
  refine lv_astore_n (lv' := [(1, .ref (t 0)), (0, .ref b)]) hx hb (dc d_law_0 3 rfl) rfl hl (by decide) rfl (fun ls hl => ?_)
  refine x_newo C1 hwB hA fn_L_10 (Nat.le_of_ble_eq_true rfl) (Nat.le_of_ble_eq_true rfl) (dc d_law_0 4 rfl) (fun q1 H2 hwC => ?_)
  refine lv_dup hx hb (dc d_law_0 5 rfl) rfl ?_
  refine x_callI (wr := w_X11 cI cC cZ (t 0) (t 1) (t 2) (t 3) (t 4) (t 5) (t 6) (t 7) (t 8) (t 9) (t 10) (t 11) (t 12) (t 13) (t 14) (t 15) (t 16) (t 17) (t 18) (t 19) (t 20) (t 21) (t 22) (t 23) (t 24) (t 25) (t 26) (t 27) (t 28) (t 29) (t 30) (t 31) (t 32) (t 33) (t 34) (t 35) (t 36) (t 37) (t 38) (t 39) (t 40) (t 41) (t 42) (t 43) (t 44) (t 45) (t 46) (t 47) (t 48) (t 49) (t 50) (t 51) (fun _ => 0) (nI 0) atF nmF 12 (fun _ => 0) (fun _ => 0) (fun _ => 0) (fun _ => 0) (nI 0) (fun _ => 0) (fun _ => 0) (fun _ => 0) (fun _ => 0) (fun _ => 0) (fun _ => 0) 10 (fun _ => 0) (fun _ => 0) (fun _ => 0) (fun _ => 0) (nI 0) (fun _ => 0) (fun _ => 0) (fun _ => 0) (fun _ => 0) (-6) 0 (fun _ => 0) (fun _ => 0) (nI (rct (fun _ => 0) 36)) 0 0 (fun _ => 0) (filz 9 1000 (fun _ => 0)) (fun _ => 0) (fun _ => 0) (fun _ => 0) (nI 0) 0 0 (fun _ => 0) (fun _ => 0) (fun _ => 0) (fun _ => 0) (fun _ => 0) (fun _ => 0) (fun _ => 0) 0 0 (fun _ => 0) (fun _ => 0) 0 0 1) C1 hwC hA hz mb_X12_init im_X12_init rfl ml_L_12 (n_X12_init q1) hl.1 rfl rfl [52] [0, 1, 2, 3, 4, 5, 6, 7, 8, 9, 10, 11, 12, 13, 14, 15, 16, 17, 18, 19, 20, 21, 22, 23, 24, 25, 26, 27, 28, 29, 30, 31, 32, 33, 34, 35, 36, 37, 38, 39, 40, 41, 42, 43, 44, 45, 46, 47, 48, 49, 50, 51] rfl rfl (by decide) (by decide) (by decide) (Nat.le_of_ble_eq_true rfl) (Nat.le_of_ble_eq_true rfl) (Nat.le_of_ble_eq_true rfl) (Nat.le_of_ble_eq_true rfl) (Nat.le_of_ble_eq_true rfl) (dc d_law_0 6 rfl) (fun w2 H3 locs3 hp hwD => ?_)
  clear hwB hwC
  obtain ⟨u, eu, ew⟩ := w0_X12 (cI := cI) (cC := cC) (cZ := cZ) hp
  clear hp
  subst ew
  subst eu
  refine lv_astore_n (lv' := [(2, .ref (u 0)), (1, .ref (t 0)), (0, .ref b)]) hx hb (dc d_law_0 7 rfl) rfl hl (by decide) rfl (fun ls hl => ?_)
  refine lv_iconst (v := (0 : Int32)) hx hb (dc d_law_0 8 rfl) (by decide) ?_
  refine lv_istore_n (lv' := [(3, .int 0), (2, .ref (u 0)), (1, .ref (t 0)), (0, .ref b)]) hx hb (dc d_law_0 9 rfl) rfl hl (by decide) rfl (fun ls hl => ?_)
  exact law_loop hL C1 hX hbl hz (L + 1) 0 0 (Nat.zero_le L) (by omega) rfl _ _ _ _ Rl0 hwD ls hl
