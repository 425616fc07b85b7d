/-! Written by wip/gen/all.py. -/
set_option maxHeartbeats 4000000 in
set_option maxRecDepth 100000 in
theorem k_X0_commonDivisor (n : Nat) {l : Launch} {D : va_G} {cI cC cZ : ClassId}   {x0 : Int64} {x2 : Int64} {o : Int64} (hf : f_X0_commonDivisor n x0 x2 = some o) : Ctr l yX0_commonDivisor cX0_commonDivisor 7 (some .long) 0 0 D cI cC cZ [.long x0, .long x2] [] [] (some (.long o)) := by
  refine Ctr.of (by decide) (Nat.le_of_ble_eq_true rfl) ?_
  intro p e s m args below meth c ls A Q hA hQ C hl hw
  have hx := C.1
  have hb := C.2.1
  have hl : lv_has ls 7 [(0, .long x0), (2, .long x2)] := hl
  have L3 : ∀ (n : Nat), ∀ (v0 : Int64) (v2 : Int64) (v4 : Int32) (H : Heap) (locs : List Loc) (ls : Array Slot), Wd D A s.heap [] H locs → lv_has ls 7 [(0, .long v0), (2, .long v2), (4, .int v4)] → f_X0_commonDivisor_3  n v0 v2 v4 = some o → W p l e (rmOf 0 0) s m args below meth c H locs 0 0 Q (F0 m 3 ls []) := by
    intro  n
    induction n with
    | zero => intro v0 v2 v4 H locs ls hw hl hf; exact (no_none hf).elim
    | succ n ih =>
      intro v0 v2 v4 H locs ls hw hl hf
      have hf : f_X0_commonDivisor_3b  (f_X0_commonDivisor_3  n) n v0 v2 v4 = some o := hf
      generalize f_X0_commonDivisor_3  n = k3 at hf ih
      refine lv_iload hx hb (dc d_X0_commonDivisor 2 rfl) (lv_at hl 2 rfl) ?_
      refine lv_bipush (v := (100 : Int32)) hx hb (dc d_X0_commonDivisor 3 rfl) (by decide) ?_
      refine lv_icmp_ge (tgt := 32) hx hb (dc d_X0_commonDivisor 4 rfl) (by decide) (fun c1 => ?_) (fun c1 => ?_)
      · have hf := g_t hf c1
        refine lv_lload_n hx hb (dc d_X0_commonDivisor 19 rfl) rfl (lv_at hl 0 rfl) ?_
        cases hf
        exact x_lret C hA hQ hw rfl rfl (dc d_X0_commonDivisor 20 rfl)
      · have hf := g_f hf c1
        refine lv_lload_n hx hb (dc d_X0_commonDivisor 5 rfl) rfl (lv_at hl 1 rfl) ?_
        refine lv_lconst (v := (0 : Int64)) hx hb (dc d_X0_commonDivisor 6 rfl) (by decide) ?_
        refine W.lcmp hx hb (dc d_X0_commonDivisor 7 rfl) ?_
        refine lv_if_eq (tgt := 32) hx hb (dc d_X0_commonDivisor 8 rfl) (by decide) (fun c2 => ?_) (fun c2 => ?_)
        · have hf := g_t hf c2
          refine lv_lload_n hx hb (dc d_X0_commonDivisor 19 rfl) rfl (lv_at hl 0 rfl) ?_
          cases hf
          exact x_lret C hA hQ hw rfl rfl (dc d_X0_commonDivisor 20 rfl)
        · have hf := g_f hf c2
          refine lv_lload_n hx hb (dc d_X0_commonDivisor 9 rfl) rfl (lv_at hl 0 rfl) ?_
          refine lv_lload_n hx hb (dc d_X0_commonDivisor 10 rfl) rfl (lv_at hl 1 rfl) ?_
          refine x_reml hx hb (dc d_X0_commonDivisor 11 rfl) (grd_b hf) ?_
          have hf := grd_x hf
          refine lv_topl (fun y3 ey3 => ?_)
          have hf := g_nm hf ey3
          refine lv_lstore (lv' := [(5, .long y3), (0, .long v0), (2, .long v2), (4, .int v4)]) hx hb (dc d_X0_commonDivisor 12 rfl) hl (by decide) rfl (fun ls hl => ?_)
          refine lv_lload_n hx hb (dc d_X0_commonDivisor 13 rfl) rfl (lv_at hl 2 rfl) ?_
          refine lv_lstore_n (lv' := [(0, .long v2), (5, .long y3), (2, .long v2), (4, .int v4)]) hx hb (dc d_X0_commonDivisor 14 rfl) rfl hl (by decide) rfl (fun ls hl => ?_)
          refine lv_lload hx hb (dc d_X0_commonDivisor 15 rfl) (lv_at hl 1 rfl) ?_
          refine lv_lstore_n (lv' := [(2, .long y3), (0, .long v2), (5, .long y3), (4, .int v4)]) hx hb (dc d_X0_commonDivisor 16 rfl) rfl hl (by decide) rfl (fun ls hl => ?_)
          refine lv_iinc (v := (v4 + (1 : Int32))) (lv' := [(4, .int (v4 + (1 : Int32))), (2, .long y3), (0, .long v2), (5, .long y3)]) hx hb (dc d_X0_commonDivisor 17 rfl) hl (k := 3) rfl (ii (by decide)) (by decide) rfl (fun ls hl => ?_)
          refine lv_goto (tgt := 3) hx hb (dc d_X0_commonDivisor 18 rfl) (by decide) ?_
          exact ih v2 y3 (v4 + (1 : Int32)) _ _ _ hw (lv_sub hl [2, 1, 0] rfl) hf
  refine lv_iconst (v := (0 : Int32)) hx hb (dc d_X0_commonDivisor 0 rfl) (by decide) ?_
  refine lv_istore (lv' := [(4, .int (0 : Int32)), (0, .long x0), (2, .long x2)]) hx hb (dc d_X0_commonDivisor 1 rfl) hl (by decide) rfl (fun ls hl => ?_)
  exact L3  n x0 x2 (0 : Int32) _ _ _ hw (lv_sub hl [1, 2, 0] rfl) hf
set_option maxHeartbeats 4000000 in
set_option maxRecDepth 100000 in
theorem k_X0_become (n : Nat) {l : Launch} {D : va_G} {cI cC cZ : ClassId} {tq0 : Nat} {t_upper : Int64} {t_lower : Int64} {x1 : Int64} {x3 : Int64} {o : Int64 × Int64} (hf : f_X0_become n t_upper t_lower x1 x3 = some o) : Ctr l yX0_become cX0_become 9 none 1 26 D cI cC cZ [.ref tq0, .long x1, .long x3] (w_X0 cI cC cZ tq0 t_upper t_lower) (w_X0 cI cC cZ tq0 o.1 o.2) none := by
  refine Ctr.of (by decide) (Nat.le_of_ble_eq_true rfl) ?_
  intro p e s m args below meth c ls A Q hA hQ C hl hw
  have hx := C.1
  have hb := C.2.1
  have hl : lv_has ls 9 [(0, .ref tq0), (1, .long x1), (3, .long x3)] := hl
  have L50 : ∀ (n : Nat), ∀ (t_upper : Int64) (t_lower : Int64) (v1 : Int64) (v3 : Int64) (v5 : Int64) (s0 : Int64) (H : Heap) (locs : List Loc) (ls : Array Slot), Wd D A s.heap (w_X0 cI cC cZ tq0 t_upper t_lower) H locs → lv_has ls 9 [(0, .ref tq0), (1, .long v1), (3, .long v3), (5, .long v5)] → f_X0_become_50  n t_upper t_lower v1 v3 v5 s0 = some o → W p l e (rmOf 1 26) s m args below meth c H locs 0 0 Q (F0 m 50 ls [.long s0]) := by
    intro  n t_upper t_lower v1 v3 v5 s0 H locs ls hw hl hf
    refine lv_lstore (lv' := [(7, .long s0), (0, .ref tq0), (1, .long v1), (3, .long v3), (5, .long v5)]) hx hb (dc d_X0_become 28 rfl) hl (by decide) rfl (fun ls hl => ?_)
    refine lv_aload_n hx hb (dc d_X0_become 29 rfl) rfl (lv_at hl 1 rfl) ?_
    refine lv_lload hx hb (dc d_X0_become 30 rfl) (lv_at hl 0 rfl) ?_
    refine lv_lload_n hx hb (dc d_X0_become 31 rfl) rfl (lv_at hl 2 rfl) ?_
    refine lv_lmul hx hb (dc d_X0_become 32 rfl) ?_
    refine lv_lload hx hb (dc d_X0_become 33 rfl) (lv_at hl 4 rfl) ?_
    refine x_divl hx hb (dc d_X0_become 34 rfl) (grd_b hf) ?_
    have hf := grd_x hf
    refine x_put C hw fl_X0_23 fw_X0_0 0 rfl rfl rfl (Nat.le_of_ble_eq_true rfl) (dc d_X0_become 35 rfl) (fun H locs hw => ?_)
    dsimp only [w_X0, mix, List.set_cons_succ, List.set_cons_zero] at hw
    have hw : Wd D A s.heap (w_X0 cI cC cZ tq0 ((s0 * v1) / v5) t_lower) H locs := hw
    refine lv_aload_n hx hb (dc d_X0_become 36 rfl) rfl (lv_at hl 1 rfl) ?_
    refine lv_lload hx hb (dc d_X0_become 37 rfl) (lv_at hl 0 rfl) ?_
    refine lv_lload_n hx hb (dc d_X0_become 38 rfl) rfl (lv_at hl 3 rfl) ?_
    refine lv_lmul hx hb (dc d_X0_become 39 rfl) ?_
    refine lv_lload hx hb (dc d_X0_become 40 rfl) (lv_at hl 4 rfl) ?_
    refine x_divl hx hb (dc d_X0_become 41 rfl) (grd_b hf) ?_
    have hf := grd_x hf
    refine x_put C hw fl_X0_7 fw_X0_1 0 rfl rfl rfl (Nat.le_of_ble_eq_true rfl) (dc d_X0_become 42 rfl) (fun H locs hw => ?_)
    dsimp only [w_X0, mix, List.set_cons_succ, List.set_cons_zero] at hw
    have hw : Wd D A s.heap (w_X0 cI cC cZ tq0 ((s0 * v1) / v5) ((s0 * v3) / v5)) H locs := hw
    cases hf
    exact x_vret C hA hQ hw rfl rfl (dc d_X0_become 43 rfl)
  refine lv_lload_n hx hb (dc d_X0_become 0 rfl) rfl (lv_at hl 1 rfl) ?_
  refine x_absl C hl.1 ml_X0_13 ms_J9_abs_067f4 in_java_lang_Math cd_Lib_MathLoose_abs_long (Nat.le_of_ble_eq_true rfl) (Nat.le_of_ble_eq_true rfl) (dc d_X0_become 1 rfl) ?_
  refine lv_lload_n hx hb (dc d_X0_become 2 rfl) rfl (lv_at hl 2 rfl) ?_
  refine x_absl C hl.1 ml_X0_13 ms_J9_abs_067f4 in_java_lang_Math cd_Lib_MathLoose_abs_long (Nat.le_of_ble_eq_true rfl) (Nat.le_of_ble_eq_true rfl) (dc d_X0_become 3 rfl) ?_
  obtain ⟨q1, hq1, hf⟩ := g_bd hf
  refine x_callS C hw mb_X0_commonDivisor ms_X0_commonDivisor ml_X0_19 (k_X0_commonDivisor n hq1) hl.1 rfl rfl [] rfl rfl rfl (Nat.le_of_ble_eq_true rfl) (Nat.le_of_ble_eq_true rfl) (Nat.le_of_ble_eq_true rfl) (dc d_X0_become 4 rfl) (fun H locs hw => ?_)
  refine W.eq (g2 := F0 m 11 ls [.long q1]) rfl ?_
  have hw : Wd D A s.heap (w_X0 cI cC cZ tq0 t_upper t_lower) H locs := hw
  refine lv_lstore (lv' := [(5, .long q1), (0, .ref tq0), (1, .long x1), (3, .long x3)]) hx hb (dc d_X0_become 5 rfl) hl (by decide) rfl (fun ls hl => ?_)
  refine lv_lload hx hb (dc d_X0_become 6 rfl) (lv_at hl 0 rfl) ?_
  refine lv_lconst (v := (0 : Int64)) hx hb (dc d_X0_become 7 rfl) (by decide) ?_
  refine W.lcmp hx hb (dc d_X0_become 8 rfl) ?_
  refine lv_if_eq (tgt := 26) hx hb (dc d_X0_become 9 rfl) (by decide) (fun c2 => ?_) (fun c2 => ?_)
  · have hf := g_t hf c2
    refine lv_aload_n hx hb (dc d_X0_become 14 rfl) rfl (lv_at hl 1 rfl) ?_
    refine lv_lload_n hx hb (dc d_X0_become 15 rfl) rfl (lv_at hl 2 rfl) ?_
    refine x_put C hw fl_X0_23 fw_X0_0 0 rfl rfl rfl (Nat.le_of_ble_eq_true rfl) (dc d_X0_become 16 rfl) (fun H locs hw => ?_)
    dsimp only [w_X0, mix, List.set_cons_succ, List.set_cons_zero] at hw
    have hw : Wd D A s.heap (w_X0 cI cC cZ tq0 x1 t_lower) H locs := hw
    refine lv_aload_n hx hb (dc d_X0_become 17 rfl) rfl (lv_at hl 1 rfl) ?_
    refine lv_lconst (v := (1 : Int64)) hx hb (dc d_X0_become 18 rfl) (by decide) ?_
    refine x_put C hw fl_X0_7 fw_X0_1 0 rfl rfl rfl (Nat.le_of_ble_eq_true rfl) (dc d_X0_become 19 rfl) (fun H locs hw => ?_)
    dsimp only [w_X0, mix, List.set_cons_succ, List.set_cons_zero] at hw
    have hw : Wd D A s.heap (w_X0 cI cC cZ tq0 x1 (1 : Int64)) H locs := hw
    cases hf
    exact x_vret C hA hQ hw rfl rfl (dc d_X0_become 20 rfl)
  · have hf := g_f hf c2
    refine lv_lload_n hx hb (dc d_X0_become 10 rfl) rfl (lv_at hl 3 rfl) ?_
    refine lv_lconst (v := (0 : Int64)) hx hb (dc d_X0_become 11 rfl) (by decide) ?_
    refine W.lcmp hx hb (dc d_X0_become 12 rfl) ?_
    refine lv_if_ne (tgt := 37) hx hb (dc d_X0_become 13 rfl) (by decide) (fun c3 => ?_) (fun c3 => ?_)
    · have hf := g_f hf c3
      refine lv_lload_n hx hb (dc d_X0_become 21 rfl) rfl (lv_at hl 3 rfl) ?_
      refine lv_lconst (v := (0 : Int64)) hx hb (dc d_X0_become 22 rfl) (by decide) ?_
      refine W.lcmp hx hb (dc d_X0_become 23 rfl) ?_
      refine lv_if_ge (tgt := 49) hx hb (dc d_X0_become 24 rfl) (by decide) (fun c4 => ?_) (fun c4 => ?_)
      · have hf := g_t hf c4
        refine lv_lconst (v := (1 : Int64)) hx hb (dc d_X0_become 27 rfl) (by decide) ?_
        exact L50  n t_upper t_lower x1 x3 q1 (1 : Int64) _ _ _ hw (lv_sub hl [1, 2, 3, 0] rfl) hf
      · have hf := g_f hf c4
        refine x_ldc2 (v := (-1 : Int64)) C cn_X0_26 (dc d_X0_become 25 rfl) ?_
        refine lv_goto (tgt := 50) hx hb (dc d_X0_become 26 rfl) (by decide) ?_
        exact L50  n t_upper t_lower x1 x3 q1 (-1 : Int64) _ _ _ hw (lv_sub hl [1, 2, 3, 0] rfl) hf
    · have hf := g_t hf c3
      refine lv_aload_n hx hb (dc d_X0_become 14 rfl) rfl (lv_at hl 1 rfl) ?_
      refine lv_lload_n hx hb (dc d_X0_become 15 rfl) rfl (lv_at hl 2 rfl) ?_
      refine x_put C hw fl_X0_23 fw_X0_0 0 rfl rfl rfl (Nat.le_of_ble_eq_true rfl) (dc d_X0_become 16 rfl) (fun H locs hw => ?_)
      dsimp only [w_X0, mix, List.set_cons_succ, List.set_cons_zero] at hw
      have hw : Wd D A s.heap (w_X0 cI cC cZ tq0 x1 t_lower) H locs := hw
      refine lv_aload_n hx hb (dc d_X0_become 17 rfl) rfl (lv_at hl 1 rfl) ?_
      refine lv_lconst (v := (1 : Int64)) hx hb (dc d_X0_become 18 rfl) (by decide) ?_
      refine x_put C hw fl_X0_7 fw_X0_1 0 rfl rfl rfl (Nat.le_of_ble_eq_true rfl) (dc d_X0_become 19 rfl) (fun H locs hw => ?_)
      dsimp only [w_X0, mix, List.set_cons_succ, List.set_cons_zero] at hw
      have hw : Wd D A s.heap (w_X0 cI cC cZ tq0 x1 (1 : Int64)) H locs := hw
      cases hf
      exact x_vret C hA hQ hw rfl rfl (dc d_X0_become 20 rfl)
set_option maxHeartbeats 4000000 in
set_option maxRecDepth 100000 in
theorem k_X0_increase (n : Nat) {l : Launch} {D : va_G} {cI cC cZ : ClassId} {tq0 : Nat} {t_upper : Int64} {t_lower : Int64} {x1 : Int64} {x3 : Int64} {o : Int64 × Int64} (hf : f_X0_increase n t_upper t_lower x1 x3 = some o) : Ctr l yX0_increase cX0_increase 5 none 2 54 D cI cC cZ [.ref tq0, .long x1, .long x3] (w_X0 cI cC cZ tq0 t_upper t_lower) (w_X0 cI cC cZ tq0 o.1 o.2) none := by
  refine Ctr.of (by decide) (Nat.le_of_ble_eq_true rfl) ?_
  intro p e s m args below meth c ls A Q hA hQ C hl hw
  have hx := C.1
  have hb := C.2.1
  have hl : lv_has ls 5 [(0, .ref tq0), (1, .long x1), (3, .long x3)] := hl
  refine lv_aload_n hx hb (dc d_X0_increase 0 rfl) rfl (lv_at hl 0 rfl) ?_
  refine lv_aload_n hx hb (dc d_X0_increase 1 rfl) rfl (lv_at hl 0 rfl) ?_
  refine x_get C hw fl_X0_23 0 rfl rfl (dc d_X0_increase 2 rfl) ?_
  refine lv_lload_n hx hb (dc d_X0_increase 3 rfl) rfl (lv_at hl 2 rfl) ?_
  refine lv_lmul hx hb (dc d_X0_increase 4 rfl) ?_
  refine lv_lload_n hx hb (dc d_X0_increase 5 rfl) rfl (lv_at hl 1 rfl) ?_
  refine lv_aload_n hx hb (dc d_X0_increase 6 rfl) rfl (lv_at hl 0 rfl) ?_
  refine x_get C hw fl_X0_7 0 rfl rfl (dc d_X0_increase 7 rfl) ?_
  refine lv_lmul hx hb (dc d_X0_increase 8 rfl) ?_
  refine lv_ladd hx hb (dc d_X0_increase 9 rfl) ?_
  refine lv_aload_n hx hb (dc d_X0_increase 10 rfl) rfl (lv_at hl 0 rfl) ?_
  refine x_get C hw fl_X0_7 0 rfl rfl (dc d_X0_increase 11 rfl) ?_
  refine lv_lload_n hx hb (dc d_X0_increase 12 rfl) rfl (lv_at hl 2 rfl) ?_
  refine lv_lmul hx hb (dc d_X0_increase 13 rfl) ?_
  obtain ⟨q1, hq1, hf⟩ := g_bd hf
  refine x_callVa C hw mb_X0_become mv_X0_become ml_X0_28 (k_X0_become n hq1) hl.1 rfl rfl rfl 0 0 rfl rfl (Nat.le_of_ble_eq_true rfl) (Nat.le_of_ble_eq_true rfl) (Nat.le_of_ble_eq_true rfl) (dc d_X0_increase 14 rfl) (fun H locs hw => ?_)
  refine W.eq (g2 := F0 m 23 ls []) rfl ?_
  have hw : Wd D A s.heap (w_X0 cI cC cZ tq0 q1.1 q1.2) H locs := hw
  cases hf
  exact x_vret C hA hQ hw rfl rfl (dc d_X0_increase 15 rfl)
set_option maxHeartbeats 4000000 in
set_option maxRecDepth 100000 in
theorem k_X0_divide (n : Nat) {l : Launch} {D : va_G} {cI cC cZ : ClassId} {tq0 : Nat} {t_upper : Int64} {t_lower : Int64} {x1 : Int64} {o : Int64 × Int64} (hf : f_X0_divide n t_upper t_lower x1 = some o) : Ctr l yX0_divide cX0_divide 3 none 2 54 D cI cC cZ [.ref tq0, .long x1] (w_X0 cI cC cZ tq0 t_upper t_lower) (w_X0 cI cC cZ tq0 o.1 o.2) none := by
  refine Ctr.of (by decide) (Nat.le_of_ble_eq_true rfl) ?_
  intro p e s m args below meth c ls A Q hA hQ C hl hw
  have hx := C.1
  have hb := C.2.1
  have hl : lv_has ls 3 [(0, .ref tq0), (1, .long x1)] := hl
  refine lv_aload_n hx hb (dc d_X0_divide 0 rfl) rfl (lv_at hl 0 rfl) ?_
  refine lv_aload_n hx hb (dc d_X0_divide 1 rfl) rfl (lv_at hl 0 rfl) ?_
  refine x_get C hw fl_X0_23 0 rfl rfl (dc d_X0_divide 2 rfl) ?_
  refine lv_aload_n hx hb (dc d_X0_divide 3 rfl) rfl (lv_at hl 0 rfl) ?_
  refine x_get C hw fl_X0_7 0 rfl rfl (dc d_X0_divide 4 rfl) ?_
  refine lv_lload_n hx hb (dc d_X0_divide 5 rfl) rfl (lv_at hl 1 rfl) ?_
  refine lv_lmul hx hb (dc d_X0_divide 6 rfl) ?_
  obtain ⟨q1, hq1, hf⟩ := g_bd hf
  refine x_callVa C hw mb_X0_become mv_X0_become ml_X0_28 (k_X0_become n hq1) hl.1 rfl rfl rfl 0 0 rfl rfl (Nat.le_of_ble_eq_true rfl) (Nat.le_of_ble_eq_true rfl) (Nat.le_of_ble_eq_true rfl) (dc d_X0_divide 7 rfl) (fun H locs hw => ?_)
  refine W.eq (g2 := F0 m 14 ls []) rfl ?_
  have hw : Wd D A s.heap (w_X0 cI cC cZ tq0 q1.1 q1.2) H locs := hw
  cases hf
  exact x_vret C hA hQ hw rfl rfl (dc d_X0_divide 8 rfl)
set_option maxHeartbeats 4000000 in
set_option maxRecDepth 100000 in
theorem k_X0_tell (n : Nat) {l : Launch} {D : va_G} {cI cC cZ : ClassId} {tq0 : Nat} {t_upper : Int64} {t_lower : Int64} {x1 : Int32} {o : Int64} (hf : f_X0_tell n t_upper t_lower x1 = some o) : Ctr l yX0_tell cX0_tell 2 (some .long) 0 0 D cI cC cZ [.ref tq0, .int x1] (w_X0 cI cC cZ tq0 t_upper t_lower) (w_X0 cI cC cZ tq0 t_upper t_lower) (some (.long o)) := by
  refine Ctr.of (by decide) (Nat.le_of_ble_eq_true rfl) ?_
  intro p e s m args below meth c ls A Q hA hQ C hl hw
  have hx := C.1
  have hb := C.2.1
  have hl : lv_has ls 2 [(0, .ref tq0), (1, .int x1)] := hl
  refine lv_iload_n hx hb (dc d_X0_tell 0 rfl) rfl (lv_at hl 1 rfl) ?_
  refine lv_if_ne (tgt := 11) hx hb (dc d_X0_tell 1 rfl) (by decide) (fun c1 => ?_) (fun c1 => ?_)
  · have hf := g_f hf c1
    refine lv_aload_n hx hb (dc d_X0_tell 5 rfl) rfl (lv_at hl 0 rfl) ?_
    refine x_get C hw fl_X0_7 0 rfl rfl (dc d_X0_tell 6 rfl) ?_
    cases hf
    exact x_lret C hA hQ hw rfl rfl (dc d_X0_tell 7 rfl)
  · have hf := g_t hf c1
    refine lv_aload_n hx hb (dc d_X0_tell 2 rfl) rfl (lv_at hl 0 rfl) ?_
    refine x_get C hw fl_X0_23 0 rfl rfl (dc d_X0_tell 3 rfl) ?_
    refine lv_goto (tgt := 15) hx hb (dc d_X0_tell 4 rfl) (by decide) ?_
    cases hf
    exact x_lret C hA hQ hw rfl rfl (dc d_X0_tell 7 rfl)
set_option maxHeartbeats 4000000 in
set_option maxRecDepth 100000 in
theorem k_X1_put (n : Nat) {l : Launch} {D : va_G} {cI cC cZ : ClassId} {tq0 tq1 tq2 : Nat} {t_heights : Nat → Int32} {t_isRead : Nat → Int32} {t_count : Int32} {t_bendSum : Int32} {t_bendPlaces : Int32} {x1 : Int32} {x2 : Int32} {o : Int32 × (Nat → Int32) × (Nat → Int32) × Int32} (hf : f_X1_put n t_heights t_isRead t_count x1 x2 = some o) : Ctr l yX1_put cX1_put 4 (some .boolean) 0 0 D cI cC cZ [.ref tq0, .int x1, .int x2] (w_X1 cI cC cZ tq0 tq1 tq2 t_heights t_isRead t_count t_bendSum t_bendPlaces) (w_X1 cI cC cZ tq0 tq1 tq2 o.2.1 o.2.2.1 o.2.2.2 t_bendSum t_bendPlaces) (some (.int o.1)) := by
  refine Ctr.of (by decide) (Nat.le_of_ble_eq_true rfl) ?_
  intro p e s m args below meth c ls A Q hA hQ C hl hw
  have hx := C.1
  have hb := C.2.1
  have hl : lv_has ls 4 [(0, .ref tq0), (1, .int x1), (2, .int x2)] := hl
  refine lv_aload_n hx hb (dc d_X1_put 0 rfl) rfl (lv_at hl 0 rfl) ?_
  refine x_get C hw fl_X1_15 0 rfl rfl (dc d_X1_put 1 rfl) ?_
  refine lv_iload_n hx hb (dc d_X1_put 2 rfl) rfl (lv_at hl 1 rfl) ?_
  have hi := grd_b hf
  have hf := grd_x hf
  refine x_zald C hw 2 rfl hi (dc d_X1_put 3 rfl) ?_
  refine lv_topi (fun y1 ey1 => ?_)
  have hf := g_nm hf ey1
  refine lv_istore_n (lv' := [(3, .int y1), (0, .ref tq0), (1, .int x1), (2, .int x2)]) hx hb (dc d_X1_put 4 rfl) rfl hl (by decide) rfl (fun ls hl => ?_)
  refine lv_aload_n hx hb (dc d_X1_put 5 rfl) rfl (lv_at hl 1 rfl) ?_
  refine x_get C hw fl_X1_9 0 rfl rfl (dc d_X1_put 6 rfl) ?_
  refine lv_iload_n hx hb (dc d_X1_put 7 rfl) rfl (lv_at hl 2 rfl) ?_
  refine lv_iload_n hx hb (dc d_X1_put 8 rfl) rfl (lv_at hl 3 rfl) ?_
  have hi := grd_b hf
  have hf := grd_x hf
  refine x_iast C hw 1 rfl hi (dc d_X1_put 9 rfl) (fun H locs hw => ?_)
  dsimp only [w_X1, mix, List.set_cons_succ, List.set_cons_zero] at hw
  have hw : Wd D A s.heap (w_X1 cI cC cZ tq0 tq1 tq2 (upd t_heights x1.toNatClampNeg x2) t_isRead t_count t_bendSum t_bendPlaces) H locs := hw
  refine lv_aload_n hx hb (dc d_X1_put 10 rfl) rfl (lv_at hl 1 rfl) ?_
  refine x_get C hw fl_X1_15 0 rfl rfl (dc d_X1_put 11 rfl) ?_
  refine lv_iload_n hx hb (dc d_X1_put 12 rfl) rfl (lv_at hl 2 rfl) ?_
  refine lv_iconst (v := (1 : Int32)) hx hb (dc d_X1_put 13 rfl) (by decide) ?_
  have hi := grd_b hf
  have hf := grd_x hf
  refine x_zast C hw 2 rfl hi (dc d_X1_put 14 rfl) (fun H locs hw => ?_)
  dsimp only [w_X1, mix, List.set_cons_succ, List.set_cons_zero] at hw
  have hw : Wd D A s.heap (w_X1 cI cC cZ tq0 tq1 tq2 (upd t_heights x1.toNatClampNeg x2) (upd t_isRead x1.toNatClampNeg (vp_nar .boolean (1 : Int32))) t_count t_bendSum t_bendPlaces) H locs := hw
  refine lv_iload_n hx hb (dc d_X1_put 15 rfl) rfl (lv_at hl 0 rfl) ?_
  refine lv_if_ne (tgt := 35) hx hb (dc d_X1_put 16 rfl) (by decide) (fun c2 => ?_) (fun c2 => ?_)
  · have hf := g_f hf c2
    refine lv_iload_n hx hb (dc d_X1_put 23 rfl) rfl (lv_at hl 0 rfl) ?_
    have hz := grd_b hf
    have hf := grd_x hf
    cases hf
    exact x_zret C hA hQ hw rfl rfl hz (dc d_X1_put 24 rfl)
  · have hf := g_t hf c2
    refine lv_aload_n hx hb (dc d_X1_put 17 rfl) rfl (lv_at hl 1 rfl) ?_
    refine lv_dup hx hb (dc d_X1_put 18 rfl) rfl ?_
    refine x_get C hw fl_X1_19 0 rfl rfl (dc d_X1_put 19 rfl) ?_
    refine lv_iconst (v := (1 : Int32)) hx hb (dc d_X1_put 20 rfl) (by decide) ?_
    refine lv_iadd hx hb (dc d_X1_put 21 rfl) ?_
    refine x_put C hw fl_X1_19 fw_X1_2 0 rfl rfl rfl (Nat.le_of_ble_eq_true rfl) (dc d_X1_put 22 rfl) (fun H locs hw => ?_)
    dsimp only [w_X1, mix, List.set_cons_succ, List.set_cons_zero] at hw
    have hw : Wd D A s.heap (w_X1 cI cC cZ tq0 tq1 tq2 (upd t_heights x1.toNatClampNeg x2) (upd t_isRead x1.toNatClampNeg (vp_nar .boolean (1 : Int32))) (t_count + (1 : Int32)) t_bendSum t_bendPlaces) H locs := hw
    refine lv_iload_n hx hb (dc d_X1_put 23 rfl) rfl (lv_at hl 0 rfl) ?_
    have hz := grd_b hf
    have hf := grd_x hf
    cases hf
    exact x_zret C hA hQ hw rfl rfl hz (dc d_X1_put 24 rfl)
set_option maxHeartbeats 4000000 in
set_option maxRecDepth 100000 in
theorem k_X1_drop (n : Nat) {l : Launch} {D : va_G} {cI cC cZ : ClassId} {tq0 tq1 tq2 : Nat} {t_heights : Nat → Int32} {t_isRead : Nat → Int32} {t_count : Int32} {t_bendSum : Int32} {t_bendPlaces : Int32} {x1 : Int32} {o : Int32 × (Nat → Int32) × Int32} (hf : f_X1_drop n t_isRead t_count x1 = some o) : Ctr l yX1_drop cX1_drop 3 (some .boolean) 0 0 D cI cC cZ [.ref tq0, .int x1] (w_X1 cI cC cZ tq0 tq1 tq2 t_heights t_isRead t_count t_bendSum t_bendPlaces) (w_X1 cI cC cZ tq0 tq1 tq2 t_heights o.2.1 o.2.2 t_bendSum t_bendPlaces) (some (.int o.1)) := by
  refine Ctr.of (by decide) (Nat.le_of_ble_eq_true rfl) ?_
  intro p e s m args below meth c ls A Q hA hQ C hl hw
  have hx := C.1
  have hb := C.2.1
  have hl : lv_has ls 3 [(0, .ref tq0), (1, .int x1)] := hl
  refine lv_aload_n hx hb (dc d_X1_drop 0 rfl) rfl (lv_at hl 0 rfl) ?_
  refine x_get C hw fl_X1_15 0 rfl rfl (dc d_X1_drop 1 rfl) ?_
  refine lv_iload_n hx hb (dc d_X1_drop 2 rfl) rfl (lv_at hl 1 rfl) ?_
  have hi := grd_b hf
  have hf := grd_x hf
  refine x_zald C hw 2 rfl hi (dc d_X1_drop 3 rfl) ?_
  refine lv_topi (fun y1 ey1 => ?_)
  have hf := g_nm hf ey1
  refine lv_istore_n (lv' := [(2, .int y1), (0, .ref tq0), (1, .int x1)]) hx hb (dc d_X1_drop 4 rfl) rfl hl (by decide) rfl (fun ls hl => ?_)
  refine lv_aload_n hx hb (dc d_X1_drop 5 rfl) rfl (lv_at hl 1 rfl) ?_
  refine x_get C hw fl_X1_15 0 rfl rfl (dc d_X1_drop 6 rfl) ?_
  refine lv_iload_n hx hb (dc d_X1_drop 7 rfl) rfl (lv_at hl 2 rfl) ?_
  refine lv_iconst (v := (0 : Int32)) hx hb (dc d_X1_drop 8 rfl) (by decide) ?_
  have hi := grd_b hf
  have hf := grd_x hf
  refine x_zast C hw 2 rfl hi (dc d_X1_drop 9 rfl) (fun H locs hw => ?_)
  dsimp only [w_X1, mix, List.set_cons_succ, List.set_cons_zero] at hw
  have hw : Wd D A s.heap (w_X1 cI cC cZ tq0 tq1 tq2 t_heights (upd t_isRead x1.toNatClampNeg (vp_nar .boolean (0 : Int32))) t_count t_bendSum t_bendPlaces) H locs := hw
  refine lv_iload_n hx hb (dc d_X1_drop 10 rfl) rfl (lv_at hl 0 rfl) ?_
  refine lv_if_eq (tgt := 28) hx hb (dc d_X1_drop 11 rfl) (by decide) (fun c2 => ?_) (fun c2 => ?_)
  · have hf := g_t hf c2
    refine lv_iload_n hx hb (dc d_X1_drop 18 rfl) rfl (lv_at hl 0 rfl) ?_
    have hz := grd_b hf
    have hf := grd_x hf
    cases hf
    exact x_zret C hA hQ hw rfl rfl hz (dc d_X1_drop 19 rfl)
  · have hf := g_f hf c2
    refine lv_aload_n hx hb (dc d_X1_drop 12 rfl) rfl (lv_at hl 1 rfl) ?_
    refine lv_dup hx hb (dc d_X1_drop 13 rfl) rfl ?_
    refine x_get C hw fl_X1_19 0 rfl rfl (dc d_X1_drop 14 rfl) ?_
    refine lv_iconst (v := (1 : Int32)) hx hb (dc d_X1_drop 15 rfl) (by decide) ?_
    refine lv_isub hx hb (dc d_X1_drop 16 rfl) ?_
    refine x_put C hw fl_X1_19 fw_X1_2 0 rfl rfl rfl (Nat.le_of_ble_eq_true rfl) (dc d_X1_drop 17 rfl) (fun H locs hw => ?_)
    dsimp only [w_X1, mix, List.set_cons_succ, List.set_cons_zero] at hw
    have hw : Wd D A s.heap (w_X1 cI cC cZ tq0 tq1 tq2 t_heights (upd t_isRead x1.toNatClampNeg (vp_nar .boolean (0 : Int32))) (t_count - (1 : Int32)) t_bendSum t_bendPlaces) H locs := hw
    refine lv_iload_n hx hb (dc d_X1_drop 18 rfl) rfl (lv_at hl 0 rfl) ?_
    have hz := grd_b hf
    have hf := grd_x hf
    cases hf
    exact x_zret C hA hQ hw rfl rfl hz (dc d_X1_drop 19 rfl)
set_option maxHeartbeats 4000000 in
set_option maxRecDepth 100000 in
theorem k_X1_canHang (n : Nat) {l : Launch} {D : va_G} {cI cC cZ : ClassId} {tq0 tq1 tq2 : Nat} {t_heights : Nat → Int32} {t_isRead : Nat → Int32} {t_count : Int32} {t_bendSum : Int32} {t_bendPlaces : Int32}  {o : Int32} (hf : f_X1_canHang n t_isRead = some o) : Ctr l yX1_canHang cX1_canHang 1 (some .boolean) 0 0 D cI cC cZ [.ref tq0] (w_X1 cI cC cZ tq0 tq1 tq2 t_heights t_isRead t_count t_bendSum t_bendPlaces) (w_X1 cI cC cZ tq0 tq1 tq2 t_heights t_isRead t_count t_bendSum t_bendPlaces) (some (.int o)) := by
  refine Ctr.of (by decide) (Nat.le_of_ble_eq_true rfl) ?_
  intro p e s m args below meth c ls A Q hA hQ C hl hw
  have hx := C.1
  have hb := C.2.1
  have hl : lv_has ls 1 [(0, .ref tq0)] := hl
  refine lv_aload_n hx hb (dc d_X1_canHang 0 rfl) rfl (lv_at hl 0 rfl) ?_
  refine x_get C hw fl_X1_15 0 rfl rfl (dc d_X1_canHang 1 rfl) ?_
  refine lv_iconst (v := (0 : Int32)) hx hb (dc d_X1_canHang 2 rfl) (by decide) ?_
  refine x_zald C hw 2 rfl (by decide) (dc d_X1_canHang 3 rfl) ?_
  refine lv_if_eq (tgt := 32) hx hb (dc d_X1_canHang 4 rfl) (by decide) (fun c1 => ?_) (fun c1 => ?_)
  · have hf := g_t hf c1
    refine lv_iconst (v := (0 : Int32)) hx hb (dc d_X1_canHang 17 rfl) (by decide) ?_
    cases hf
    exact x_zret C hA hQ hw rfl rfl (by decide) (dc d_X1_canHang 18 rfl)
  · have hf := g_f hf c1
    refine lv_aload_n hx hb (dc d_X1_canHang 5 rfl) rfl (lv_at hl 0 rfl) ?_
    refine x_get C hw fl_X1_15 0 rfl rfl (dc d_X1_canHang 6 rfl) ?_
    refine lv_iconst (v := (5 : Int32)) hx hb (dc d_X1_canHang 7 rfl) (by decide) ?_
    refine x_zald C hw 2 rfl (by decide) (dc d_X1_canHang 8 rfl) ?_
    refine lv_if_eq (tgt := 32) hx hb (dc d_X1_canHang 9 rfl) (by decide) (fun c2 => ?_) (fun c2 => ?_)
    · have hf := g_t hf c2
      refine lv_iconst (v := (0 : Int32)) hx hb (dc d_X1_canHang 17 rfl) (by decide) ?_
      cases hf
      exact x_zret C hA hQ hw rfl rfl (by decide) (dc d_X1_canHang 18 rfl)
    · have hf := g_f hf c2
      refine lv_aload_n hx hb (dc d_X1_canHang 10 rfl) rfl (lv_at hl 0 rfl) ?_
      refine x_get C hw fl_X1_15 0 rfl rfl (dc d_X1_canHang 11 rfl) ?_
      refine lv_bipush (v := (30 : Int32)) hx hb (dc d_X1_canHang 12 rfl) (by decide) ?_
      refine x_zald C hw 2 rfl (by decide) (dc d_X1_canHang 13 rfl) ?_
      refine lv_if_eq (tgt := 32) hx hb (dc d_X1_canHang 14 rfl) (by decide) (fun c3 => ?_) (fun c3 => ?_)
      · have hf := g_t hf c3
        refine lv_iconst (v := (0 : Int32)) hx hb (dc d_X1_canHang 17 rfl) (by decide) ?_
        cases hf
        exact x_zret C hA hQ hw rfl rfl (by decide) (dc d_X1_canHang 18 rfl)
      · have hf := g_f hf c3
        refine lv_iconst (v := (1 : Int32)) hx hb (dc d_X1_canHang 15 rfl) (by decide) ?_
        refine lv_goto (tgt := 33) hx hb (dc d_X1_canHang 16 rfl) (by decide) ?_
        cases hf
        exact x_zret C hA hQ hw rfl rfl (by decide) (dc d_X1_canHang 18 rfl)
set_option maxHeartbeats 4000000 in
set_option maxRecDepth 100000 in
theorem k_X11_hungAt (n : Nat) {l : Launch} {D : va_G} {cI cC cZ : ClassId} {aq0 : Nat} {a_ : Nat → Int32} {x1 : Int32} {o : Int32} (hf : f_X11_hungAt n a_ x1 = some o) : Ctr l yX11_hungAt cX11_hungAt 5 (some .int) 0 0 D cI cC cZ [.ref aq0, .int x1] (w_aI36 cI cC cZ aq0 a_) (w_aI36 cI cC cZ aq0 a_) (some (.int o)) := by
  refine Ctr.of (by decide) (Nat.le_of_ble_eq_true rfl) ?_
  intro p e s m args below meth c ls A Q hA hQ C hl hw
  have hx := C.1
  have hb := C.2.1
  have hl : lv_has ls 5 [(0, .ref aq0), (1, .int x1)] := hl
  refine lv_aload_n hx hb (dc d_X11_hungAt 0 rfl) rfl (lv_at hl 0 rfl) ?_
  refine lv_iconst (v := (0 : Int32)) hx hb (dc d_X11_hungAt 1 rfl) (by decide) ?_
  refine x_iald C hw 0 rfl (by decide) (dc d_X11_hungAt 2 rfl) ?_
  refine lv_topi (fun y1 ey1 => ?_)
  have hf := g_nm hf ey1
  refine lv_istore_n (lv' := [(2, .int y1), (0, .ref aq0), (1, .int x1)]) hx hb (dc d_X11_hungAt 3 rfl) rfl hl (by decide) rfl (fun ls hl => ?_)
  refine lv_aload_n hx hb (dc d_X11_hungAt 4 rfl) rfl (lv_at hl 1 rfl) ?_
  refine lv_iconst (v := (5 : Int32)) hx hb (dc d_X11_hungAt 5 rfl) (by decide) ?_
  refine x_iald C hw 0 rfl (by decide) (dc d_X11_hungAt 6 rfl) ?_
  refine lv_iload_n hx hb (dc d_X11_hungAt 7 rfl) rfl (lv_at hl 0 rfl) ?_
  refine lv_isub hx hb (dc d_X11_hungAt 8 rfl) ?_
  refine lv_iload_n hx hb (dc d_X11_hungAt 9 rfl) rfl (lv_at hl 2 rfl) ?_
  refine lv_bipush (v := (6 : Int32)) hx hb (dc d_X11_hungAt 10 rfl) (by decide) ?_
  refine x_rem hx hb (dc d_X11_hungAt 11 rfl) (by decide) ?_
  refine lv_imul hx hb (dc d_X11_hungAt 12 rfl) ?_
  refine lv_topi (fun y2 ey2 => ?_)
  have hf := g_nm hf ey2
  refine lv_istore_n (lv' := [(3, .int y2), (2, .int y1), (0, .ref aq0), (1, .int x1)]) hx hb (dc d_X11_hungAt 13 rfl) rfl hl (by decide) rfl (fun ls hl => ?_)
  refine lv_aload_n hx hb (dc d_X11_hungAt 14 rfl) rfl (lv_at hl 2 rfl) ?_
  refine lv_bipush (v := (30 : Int32)) hx hb (dc d_X11_hungAt 15 rfl) (by decide) ?_
  refine x_iald C hw 0 rfl (by decide) (dc d_X11_hungAt 16 rfl) ?_
  refine lv_iload_n hx hb (dc d_X11_hungAt 17 rfl) rfl (lv_at hl 1 rfl) ?_
  refine lv_isub hx hb (dc d_X11_hungAt 18 rfl) ?_
  refine lv_iload_n hx hb (dc d_X11_hungAt 19 rfl) rfl (lv_at hl 3 rfl) ?_
  refine lv_bipush (v := (6 : Int32)) hx hb (dc d_X11_hungAt 20 rfl) (by decide) ?_
  refine x_div hx hb (dc d_X11_hungAt 21 rfl) (by decide) ?_
  refine lv_imul hx hb (dc d_X11_hungAt 22 rfl) ?_
  refine lv_topi (fun y3 ey3 => ?_)
  have hf := g_nm hf ey3
  refine lv_istore (lv' := [(4, .int y3), (3, .int y2), (2, .int y1), (0, .ref aq0), (1, .int x1)]) hx hb (dc d_X11_hungAt 23 rfl) hl (by decide) rfl (fun ls hl => ?_)
  refine lv_aload_n hx hb (dc d_X11_hungAt 24 rfl) rfl (lv_at hl 3 rfl) ?_
  refine lv_iload_n hx hb (dc d_X11_hungAt 25 rfl) rfl (lv_at hl 4 rfl) ?_
  have hi := grd_b hf
  have hf := grd_x hf
  refine x_iald C hw 0 rfl hi (dc d_X11_hungAt 26 rfl) ?_
  refine lv_iload_n hx hb (dc d_X11_hungAt 27 rfl) rfl (lv_at hl 2 rfl) ?_
  refine lv_isub hx hb (dc d_X11_hungAt 28 rfl) ?_
  refine lv_iconst (v := (5 : Int32)) hx hb (dc d_X11_hungAt 29 rfl) (by decide) ?_
  refine lv_imul hx hb (dc d_X11_hungAt 30 rfl) ?_
  refine lv_iload_n hx hb (dc d_X11_hungAt 31 rfl) rfl (lv_at hl 1 rfl) ?_
  refine lv_isub hx hb (dc d_X11_hungAt 32 rfl) ?_
  refine lv_iload hx hb (dc d_X11_hungAt 33 rfl) (lv_at hl 0 rfl) ?_
  refine lv_isub hx hb (dc d_X11_hungAt 34 rfl) ?_
  cases hf
  exact x_iret C hA hQ hw rfl rfl (dc d_X11_hungAt 35 rfl)
set_option maxHeartbeats 4000000 in
set_option maxRecDepth 100000 in
theorem k_X6_hungAt (n : Nat) {l : Launch} {D : va_G} {cI cC cZ : ClassId} {tq0 tq1 tq2 tq3 tq4 : Nat} {t_bends : Nat → Int32} {t_laid : Nat → Int32} {t_across : Nat → Int32} {t_along : Nat → Int32} {x1 : Int32} {o : Int32} (hf : f_X6_hungAt n t_across t_along x1 = some o) : Ctr l yX6_hungAt cX6_hungAt 2 (some .int) 0 0 D cI cC cZ [.ref tq0, .int x1] (w_X6 cI cC cZ tq0 tq1 tq2 tq3 tq4 t_bends t_laid t_across t_along) (w_X6 cI cC cZ tq0 tq1 tq2 tq3 tq4 t_bends t_laid t_across t_along) (some (.int o)) := by
  refine Ctr.of (by decide) (Nat.le_of_ble_eq_true rfl) ?_
  intro p e s m args below meth c ls A Q hA hQ C hl hw
  have hx := C.1
  have hb := C.2.1
  have hl : lv_has ls 2 [(0, .ref tq0), (1, .int x1)] := hl
  refine lv_aload_n hx hb (dc d_X6_hungAt 0 rfl) rfl (lv_at hl 0 rfl) ?_
  refine x_get C hw fl_X6_18 0 rfl rfl (dc d_X6_hungAt 1 rfl) ?_
  refine lv_iload_n hx hb (dc d_X6_hungAt 2 rfl) rfl (lv_at hl 1 rfl) ?_
  refine lv_bipush (v := (6 : Int32)) hx hb (dc d_X6_hungAt 3 rfl) (by decide) ?_
  refine x_rem hx hb (dc d_X6_hungAt 4 rfl) (by decide) ?_
  have hi := grd_b hf
  have hf := grd_x hf
  refine x_iald C hw 3 rfl hi (dc d_X6_hungAt 5 rfl) ?_
  refine lv_aload_n hx hb (dc d_X6_hungAt 6 rfl) rfl (lv_at hl 0 rfl) ?_
  refine x_get C hw fl_X6_21 0 rfl rfl (dc d_X6_hungAt 7 rfl) ?_
  refine lv_iload_n hx hb (dc d_X6_hungAt 8 rfl) rfl (lv_at hl 1 rfl) ?_
  refine lv_bipush (v := (6 : Int32)) hx hb (dc d_X6_hungAt 9 rfl) (by decide) ?_
  refine x_div hx hb (dc d_X6_hungAt 10 rfl) (by decide) ?_
  have hi := grd_b hf
  have hf := grd_x hf
  refine x_iald C hw 4 rfl hi (dc d_X6_hungAt 11 rfl) ?_
  refine lv_iadd hx hb (dc d_X6_hungAt 12 rfl) ?_
  cases hf
  exact x_iret C hA hQ hw rfl rfl (dc d_X6_hungAt 13 rfl)
set_option maxHeartbeats 4000000 in
set_option maxRecDepth 100000 in
theorem k_X1_isOdd (n : Nat) {l : Launch} {D : va_G} {cI cC cZ : ClassId} {tq0 tq1 tq2 cq0 cq1 cq2 cq3 cq4 dq0 dq1 dq2 : Nat} {t_heights : Nat → Int32} {t_isRead : Nat → Int32} {t_count : Int32} {t_bendSum : Int32} {t_bendPlaces : Int32} {c_bends : Nat → Int32} {c_laid : Nat → Int32} {c_across : Nat → Int32} {c_along : Nat → Int32} {d_settings : Nat → Int32} {d_numbers : Nat → Int32} {x1 : Int32} {o : Int32} (hf : f_X1_isOdd n t_heights t_isRead c_across c_along d_settings x1 = some o) : Ctr l yX1_isOdd cX1_isOdd 5 (some .boolean) 1 24 D cI cC cZ [.ref tq0, .int x1, .ref cq0, .ref dq0] (w_X1_X6_X5 cI cC cZ tq0 tq1 tq2 cq0 cq1 cq2 cq3 cq4 dq0 dq1 dq2 t_heights t_isRead t_count t_bendSum t_bendPlaces c_bends c_laid c_across c_along d_settings d_numbers) (w_X1_X6_X5 cI cC cZ tq0 tq1 tq2 cq0 cq1 cq2 cq3 cq4 dq0 dq1 dq2 t_heights t_isRead t_count t_bendSum t_bendPlaces c_bends c_laid c_across c_along d_settings d_numbers) (some (.int o)) := by
  refine Ctr.of (by decide) (Nat.le_of_ble_eq_true rfl) ?_
  intro p e s m args below meth c ls A Q hA hQ C hl hw
  have hx := C.1
  have hb := C.2.1
  have hl : lv_has ls 5 [(0, .ref tq0), (1, .int x1), (2, .ref cq0), (3, .ref dq0)] := hl
  refine lv_aload_n hx hb (dc d_X1_isOdd 0 rfl) rfl (lv_at hl 0 rfl) ?_
  refine x_get C hw fl_X1_15 0 rfl rfl (dc d_X1_isOdd 1 rfl) ?_
  refine lv_iload_n hx hb (dc d_X1_isOdd 2 rfl) rfl (lv_at hl 1 rfl) ?_
  have hi := grd_b hf
  have hf := grd_x hf
  refine x_zald C hw 2 rfl hi (dc d_X1_isOdd 3 rfl) ?_
  refine lv_if_ne (tgt := 11) hx hb (dc d_X1_isOdd 4 rfl) (by decide) (fun c1 => ?_) (fun c1 => ?_)
  · have hf := g_f hf c1
    refine lv_aload_n hx hb (dc d_X1_isOdd 7 rfl) rfl (lv_at hl 0 rfl) ?_
    refine x_get C hw fl_X1_9 0 rfl rfl (dc d_X1_isOdd 8 rfl) ?_
    refine lv_iload_n hx hb (dc d_X1_isOdd 9 rfl) rfl (lv_at hl 1 rfl) ?_
    obtain ⟨q2, hq2, hf⟩ := g_bd hf
    refine x_callSN C hw mb_X11_hungAt ms_X11_hungAt ml_X1_23 (k_X11_hungAt n hq2) hl.1 rfl rfl [1] rfl rfl rfl (Nat.le_of_ble_eq_true rfl) (Nat.le_of_ble_eq_true rfl) (Nat.le_of_ble_eq_true rfl) (dc d_X1_isOdd 10 rfl) (fun H locs hw => ?_)
    refine W.eq (g2 := F0 m 19 ls [.int q2]) rfl ?_
    dsimp only [w_X1_X6_X5, w_aI36, mix, List.set_cons_succ, List.set_cons_zero] at hw
    have hw : Wd D A s.heap (w_X1_X6_X5 cI cC cZ tq0 tq1 tq2 cq0 cq1 cq2 cq3 cq4 dq0 dq1 dq2 t_heights t_isRead t_count t_bendSum t_bendPlaces c_bends c_laid c_across c_along d_settings d_numbers) H locs := hw
    refine lv_aload_n hx hb (dc d_X1_isOdd 11 rfl) rfl (lv_at hl 2 rfl) ?_
    refine lv_iload_n hx hb (dc d_X1_isOdd 12 rfl) rfl (lv_at hl 1 rfl) ?_
    obtain ⟨q3, hq3, hf⟩ := g_bd hf
    refine x_callV C hw mb_X6_hungAt mv_X6_hungAt ml_X1_27 (k_X6_hungAt n hq3) hl.1 rfl rfl [3, 4, 5, 6, 7] rfl rfl rfl 3 6 rfl rfl (Nat.le_of_ble_eq_true rfl) (Nat.le_of_ble_eq_true rfl) (Nat.le_of_ble_eq_true rfl) (dc d_X1_isOdd 13 rfl) (fun H locs hw => ?_)
    refine W.eq (g2 := F0 m 24 ls [.int q3, .int q2]) rfl ?_
    dsimp only [w_X1_X6_X5, w_X6, mix, List.set_cons_succ, List.set_cons_zero] at hw
    have hw : Wd D A s.heap (w_X1_X6_X5 cI cC cZ tq0 tq1 tq2 cq0 cq1 cq2 cq3 cq4 dq0 dq1 dq2 t_heights t_isRead t_count t_bendSum t_bendPlaces c_bends c_laid c_across c_along d_settings d_numbers) H locs := hw
    refine lv_isub hx hb (dc d_X1_isOdd 14 rfl) ?_
    refine lv_topi (fun y4 ey4 => ?_)
    have hf := g_nm hf ey4
    refine lv_istore (lv' := [(4, .int y4), (0, .ref tq0), (1, .int x1), (2, .ref cq0), (3, .ref dq0)]) hx hb (dc d_X1_isOdd 15 rfl) hl (by decide) rfl (fun ls hl => ?_)
    refine lv_iload hx hb (dc d_X1_isOdd 16 rfl) (lv_at hl 0 rfl) ?_
    refine x_abs C hl.1 ml_X1_32 ms_J9_abs_0f7a4 in_java_lang_Math cd_Lib_Math_abs (Nat.le_of_ble_eq_true rfl) (Nat.le_of_ble_eq_true rfl) (dc d_X1_isOdd 17 rfl) ?_
    refine lv_aload_n hx hb (dc d_X1_isOdd 18 rfl) rfl (lv_at hl 4 rfl) ?_
    refine x_get C hw fl_X1_37 8 rfl rfl (dc d_X1_isOdd 19 rfl) ?_
    refine lv_iconst (v := (4 : Int32)) hx hb (dc d_X1_isOdd 20 rfl) (by decide) ?_
    refine x_iald C hw 9 rfl (by decide) (dc d_X1_isOdd 21 rfl) ?_
    refine lv_icmp_le (tgt := 45) hx hb (dc d_X1_isOdd 22 rfl) (by decide) (fun c5 => ?_) (fun c5 => ?_)
    · have hf := g_t hf c5
      refine lv_iconst (v := (0 : Int32)) hx hb (dc d_X1_isOdd 25 rfl) (by decide) ?_
      cases hf
      exact x_zret C hA hQ hw rfl rfl (by decide) (dc d_X1_isOdd 26 rfl)
    · have hf := g_f hf c5
      refine lv_iconst (v := (1 : Int32)) hx hb (dc d_X1_isOdd 23 rfl) (by decide) ?_
      refine lv_goto (tgt := 46) hx hb (dc d_X1_isOdd 24 rfl) (by decide) ?_
      cases hf
      exact x_zret C hA hQ hw rfl rfl (by decide) (dc d_X1_isOdd 26 rfl)
  · have hf := g_t hf c1
    refine lv_iconst (v := (0 : Int32)) hx hb (dc d_X1_isOdd 5 rfl) (by decide) ?_
    cases hf
    exact x_zret C hA hQ hw rfl rfl (by decide) (dc d_X1_isOdd 6 rfl)
set_option maxHeartbeats 4000000 in
set_option maxRecDepth 100000 in
theorem k_X1_readBend (n : Nat) {l : Launch} {D : va_G} {cI cC cZ : ClassId} {tq0 tq1 tq2 : Nat} {t_heights : Nat → Int32} {t_isRead : Nat → Int32} {t_count : Int32} {t_bendSum : Int32} {t_bendPlaces : Int32} {x1 : Int32} {o : Int32 × Int32} (hf : f_X1_readBend n t_heights t_isRead t_bendSum t_bendPlaces x1 = some o) : Ctr l yX1_readBend cX1_readBend 7 none 0 0 D cI cC cZ [.ref tq0, .int x1] (w_X1 cI cC cZ tq0 tq1 tq2 t_heights t_isRead t_count t_bendSum t_bendPlaces) (w_X1 cI cC cZ tq0 tq1 tq2 t_heights t_isRead t_count o.1 o.2) none := by
  refine Ctr.of (by decide) (Nat.le_of_ble_eq_true rfl) ?_
  intro p e s m args below meth c ls A Q hA hQ C hl hw
  have hx := C.1
  have hb := C.2.1
  have hl : lv_has ls 7 [(0, .ref tq0), (1, .int x1)] := hl
  have L56 : ∀ (n : Nat), ∀ (t_bendSum : Int32) (t_bendPlaces : Int32) (v3 : Int32) (v4 : Int32) (v5 : Int32) (v6 : Int32) (H : Heap) (locs : List Loc) (ls : Array Slot), Wd D A s.heap (w_X1 cI cC cZ tq0 tq1 tq2 t_heights t_isRead t_count t_bendSum t_bendPlaces) H locs → lv_has ls 7 [(0, .ref tq0), (3, .int v3), (4, .int v4), (5, .int v5), (6, .int v6)] → f_X1_readBend_56 t_heights t_isRead  n t_bendSum t_bendPlaces v3 v4 v5 v6 = some o → W p l e (rmOf 0 0) s m args below meth c H locs 0 0 Q (F0 m 56 ls []) := by
    intro  n
    induction n with
    | zero => intro t_bendSum t_bendPlaces v3 v4 v5 v6 H locs ls hw hl hf; exact (no_none hf).elim
    | succ n ih =>
      intro t_bendSum t_bendPlaces v3 v4 v5 v6 H locs ls hw hl hf
      have hf : f_X1_readBend_56b t_heights t_isRead  (f_X1_readBend_56 t_heights t_isRead  n) n t_bendSum t_bendPlaces v3 v4 v5 v6 = some o := hf
      generalize f_X1_readBend_56 t_heights t_isRead  n = k56 at hf ih
      refine lv_iload hx hb (dc d_X1_readBend 35 rfl) (lv_at hl 4 rfl) ?_
      refine lv_bipush (v := (6 : Int32)) hx hb (dc d_X1_readBend 36 rfl) (by decide) ?_
      refine lv_icmp_ge (tgt := 158) hx hb (dc d_X1_readBend 37 rfl) (by decide) (fun c5 => ?_) (fun c5 => ?_)
      · have hf := g_t hf c5
        cases hf
        exact x_vret C hA hQ hw rfl rfl (dc d_X1_readBend 94 rfl)
      · have hf := g_f hf c5
        refine lv_aload_n hx hb (dc d_X1_readBend 38 rfl) rfl (lv_at hl 0 rfl) ?_
        refine x_get C hw fl_X1_15 0 rfl rfl (dc d_X1_readBend 39 rfl) ?_
        refine lv_iload hx hb (dc d_X1_readBend 40 rfl) (lv_at hl 3 rfl) ?_
        refine lv_iload_n hx hb (dc d_X1_readBend 41 rfl) rfl (lv_at hl 1 rfl) ?_
        refine lv_isub hx hb (dc d_X1_readBend 42 rfl) ?_
        have hi := grd_b hf
        have hf := grd_x hf
        refine x_zald C hw 2 rfl hi (dc d_X1_readBend 43 rfl) ?_
        refine lv_if_eq (tgt := 145) hx hb (dc d_X1_readBend 44 rfl) (by decide) (fun c6 => ?_) (fun c6 => ?_)
        · have hf := g_t hf c6
          refine lv_iload hx hb (dc d_X1_readBend 88 rfl) (lv_at hl 3 rfl) ?_
          refine lv_iload hx hb (dc d_X1_readBend 89 rfl) (lv_at hl 2 rfl) ?_
          refine lv_iadd hx hb (dc d_X1_readBend 90 rfl) ?_
          refine lv_topi (fun y7 ey7 => ?_)
          have hf := g_nm hf ey7
          refine lv_istore (lv' := [(5, .int y7), (0, .ref tq0), (3, .int v3), (4, .int v4), (6, .int v6)]) hx hb (dc d_X1_readBend 91 rfl) hl (by decide) rfl (fun ls hl => ?_)
          refine lv_iinc (v := (v6 + (1 : Int32))) (lv' := [(6, .int (v6 + (1 : Int32))), (5, .int y7), (0, .ref tq0), (3, .int v3), (4, .int v4)]) hx hb (dc d_X1_readBend 92 rfl) hl (k := 4) rfl (ii (by decide)) (by decide) rfl (fun ls hl => ?_)
          refine lv_goto (tgt := 56) hx hb (dc d_X1_readBend 93 rfl) (by decide) ?_
          exact ih t_bendSum t_bendPlaces v3 v4 y7 (v6 + (1 : Int32)) _ _ _ hw (lv_sub hl [2, 3, 4, 1, 0] rfl) hf
        · have hf := g_f hf c6
          refine lv_aload_n hx hb (dc d_X1_readBend 45 rfl) rfl (lv_at hl 0 rfl) ?_
          refine x_get C hw fl_X1_15 0 rfl rfl (dc d_X1_readBend 46 rfl) ?_
          refine lv_iload hx hb (dc d_X1_readBend 47 rfl) (lv_at hl 3 rfl) ?_
          have hi := grd_b hf
          have hf := grd_x hf
          refine x_zald C hw 2 rfl hi (dc d_X1_readBend 48 rfl) ?_
          refine lv_if_eq (tgt := 145) hx hb (dc d_X1_readBend 49 rfl) (by decide) (fun c8 => ?_) (fun c8 => ?_)
          · have hf := g_t hf c8
            refine lv_iload hx hb (dc d_X1_readBend 88 rfl) (lv_at hl 3 rfl) ?_
            refine lv_iload hx hb (dc d_X1_readBend 89 rfl) (lv_at hl 2 rfl) ?_
            refine lv_iadd hx hb (dc d_X1_readBend 90 rfl) ?_
            refine lv_topi (fun y9 ey9 => ?_)
            have hf := g_nm hf ey9
            refine lv_istore (lv' := [(5, .int y9), (0, .ref tq0), (3, .int v3), (4, .int v4), (6, .int v6)]) hx hb (dc d_X1_readBend 91 rfl) hl (by decide) rfl (fun ls hl => ?_)
            refine lv_iinc (v := (v6 + (1 : Int32))) (lv' := [(6, .int (v6 + (1 : Int32))), (5, .int y9), (0, .ref tq0), (3, .int v3), (4, .int v4)]) hx hb (dc d_X1_readBend 92 rfl) hl (k := 4) rfl (ii (by decide)) (by decide) rfl (fun ls hl => ?_)
            refine lv_goto (tgt := 56) hx hb (dc d_X1_readBend 93 rfl) (by decide) ?_
            exact ih t_bendSum t_bendPlaces v3 v4 y9 (v6 + (1 : Int32)) _ _ _ hw (lv_sub hl [2, 3, 4, 1, 0] rfl) hf
          · have hf := g_f hf c8
            refine lv_aload_n hx hb (dc d_X1_readBend 50 rfl) rfl (lv_at hl 0 rfl) ?_
            refine x_get C hw fl_X1_15 0 rfl rfl (dc d_X1_readBend 51 rfl) ?_
            refine lv_iload hx hb (dc d_X1_readBend 52 rfl) (lv_at hl 3 rfl) ?_
            refine lv_iload_n hx hb (dc d_X1_readBend 53 rfl) rfl (lv_at hl 1 rfl) ?_
            refine lv_iadd hx hb (dc d_X1_readBend 54 rfl) ?_
            have hi := grd_b hf
            have hf := grd_x hf
            refine x_zald C hw 2 rfl hi (dc d_X1_readBend 55 rfl) ?_
            refine lv_if_eq (tgt := 145) hx hb (dc d_X1_readBend 56 rfl) (by decide) (fun c10 => ?_) (fun c10 => ?_)
            · have hf := g_t hf c10
              refine lv_iload hx hb (dc d_X1_readBend 88 rfl) (lv_at hl 3 rfl) ?_
              refine lv_iload hx hb (dc d_X1_readBend 89 rfl) (lv_at hl 2 rfl) ?_
              refine lv_iadd hx hb (dc d_X1_readBend 90 rfl) ?_
              refine lv_topi (fun y11 ey11 => ?_)
              have hf := g_nm hf ey11
              refine lv_istore (lv' := [(5, .int y11), (0, .ref tq0), (3, .int v3), (4, .int v4), (6, .int v6)]) hx hb (dc d_X1_readBend 91 rfl) hl (by decide) rfl (fun ls hl => ?_)
              refine lv_iinc (v := (v6 + (1 : Int32))) (lv' := [(6, .int (v6 + (1 : Int32))), (5, .int y11), (0, .ref tq0), (3, .int v3), (4, .int v4)]) hx hb (dc d_X1_readBend 92 rfl) hl (k := 4) rfl (ii (by decide)) (by decide) rfl (fun ls hl => ?_)
              refine lv_goto (tgt := 56) hx hb (dc d_X1_readBend 93 rfl) (by decide) ?_
              exact ih t_bendSum t_bendPlaces v3 v4 y11 (v6 + (1 : Int32)) _ _ _ hw (lv_sub hl [2, 3, 4, 1, 0] rfl) hf
            · have hf := g_f hf c10
              refine lv_aload_n hx hb (dc d_X1_readBend 57 rfl) rfl (lv_at hl 0 rfl) ?_
              refine lv_dup hx hb (dc d_X1_readBend 58 rfl) rfl ?_
              refine x_get C hw fl_X1_42 0 rfl rfl (dc d_X1_readBend 59 rfl) ?_
              refine lv_aload_n hx hb (dc d_X1_readBend 60 rfl) rfl (lv_at hl 0 rfl) ?_
              refine x_get C hw fl_X1_9 0 rfl rfl (dc d_X1_readBend 61 rfl) ?_
              refine lv_iload hx hb (dc d_X1_readBend 62 rfl) (lv_at hl 3 rfl) ?_
              refine lv_iload_n hx hb (dc d_X1_readBend 63 rfl) rfl (lv_at hl 1 rfl) ?_
              refine lv_isub hx hb (dc d_X1_readBend 64 rfl) ?_
              have hi := grd_b hf
              have hf := grd_x hf
              refine x_iald C hw 1 rfl hi (dc d_X1_readBend 65 rfl) ?_
              refine lv_iconst (v := (2 : Int32)) hx hb (dc d_X1_readBend 66 rfl) (by decide) ?_
              refine lv_aload_n hx hb (dc d_X1_readBend 67 rfl) rfl (lv_at hl 0 rfl) ?_
              refine x_get C hw fl_X1_9 0 rfl rfl (dc d_X1_readBend 68 rfl) ?_
              refine lv_iload hx hb (dc d_X1_readBend 69 rfl) (lv_at hl 3 rfl) ?_
              have hi := grd_b hf
              have hf := grd_x hf
              refine x_iald C hw 1 rfl hi (dc d_X1_readBend 70 rfl) ?_
              refine lv_imul hx hb (dc d_X1_readBend 71 rfl) ?_
              refine lv_isub hx hb (dc d_X1_readBend 72 rfl) ?_
              refine lv_aload_n hx hb (dc d_X1_readBend 73 rfl) rfl (lv_at hl 0 rfl) ?_
              refine x_get C hw fl_X1_9 0 rfl rfl (dc d_X1_readBend 74 rfl) ?_
              refine lv_iload hx hb (dc d_X1_readBend 75 rfl) (lv_at hl 3 rfl) ?_
              refine lv_iload_n hx hb (dc d_X1_readBend 76 rfl) rfl (lv_at hl 1 rfl) ?_
              refine lv_iadd hx hb (dc d_X1_readBend 77 rfl) ?_
              have hi := grd_b hf
              have hf := grd_x hf
              refine x_iald C hw 1 rfl hi (dc d_X1_readBend 78 rfl) ?_
              refine lv_iadd hx hb (dc d_X1_readBend 79 rfl) ?_
              refine lv_iadd hx hb (dc d_X1_readBend 80 rfl) ?_
              refine x_put C hw fl_X1_42 fw_X1_3 0 rfl rfl rfl (Nat.le_of_ble_eq_true rfl) (dc d_X1_readBend 81 rfl) (fun H locs hw => ?_)
              dsimp only [w_X1, mix, List.set_cons_succ, List.set_cons_zero] at hw
              have hw : Wd D A s.heap (w_X1 cI cC cZ tq0 tq1 tq2 t_heights t_isRead t_count (t_bendSum + (((t_heights (v5 - v3).toNatClampNeg) - ((2 : Int32) * (t_heights v5.toNatClampNeg))) + (t_heights (v5 + v3).toNatClampNeg))) t_bendPlaces) H locs := hw
              refine lv_aload_n hx hb (dc d_X1_readBend 82 rfl) rfl (lv_at hl 0 rfl) ?_
              refine lv_dup hx hb (dc d_X1_readBend 83 rfl) rfl ?_
              refine x_get C hw fl_X1_45 0 rfl rfl (dc d_X1_readBend 84 rfl) ?_
              refine lv_iconst (v := (1 : Int32)) hx hb (dc d_X1_readBend 85 rfl) (by decide) ?_
              refine lv_iadd hx hb (dc d_X1_readBend 86 rfl) ?_
              refine x_put C hw fl_X1_45 fw_X1_4 0 rfl rfl rfl (Nat.le_of_ble_eq_true rfl) (dc d_X1_readBend 87 rfl) (fun H locs hw => ?_)
              dsimp only [w_X1, mix, List.set_cons_succ, List.set_cons_zero] at hw
              have hw : Wd D A s.heap (w_X1 cI cC cZ tq0 tq1 tq2 t_heights t_isRead t_count (t_bendSum + (((t_heights (v5 - v3).toNatClampNeg) - ((2 : Int32) * (t_heights v5.toNatClampNeg))) + (t_heights (v5 + v3).toNatClampNeg))) (t_bendPlaces + (1 : Int32))) H locs := hw
              refine lv_iload hx hb (dc d_X1_readBend 88 rfl) (lv_at hl 3 rfl) ?_
              refine lv_iload hx hb (dc d_X1_readBend 89 rfl) (lv_at hl 2 rfl) ?_
              refine lv_iadd hx hb (dc d_X1_readBend 90 rfl) ?_
              refine lv_topi (fun y12 ey12 => ?_)
              have hf := g_nm hf ey12
              refine lv_istore (lv' := [(5, .int y12), (0, .ref tq0), (3, .int v3), (4, .int v4), (6, .int v6)]) hx hb (dc d_X1_readBend 91 rfl) hl (by decide) rfl (fun ls hl => ?_)
              refine lv_iinc (v := (v6 + (1 : Int32))) (lv' := [(6, .int (v6 + (1 : Int32))), (5, .int y12), (0, .ref tq0), (3, .int v3), (4, .int v4)]) hx hb (dc d_X1_readBend 92 rfl) hl (k := 4) rfl (ii (by decide)) (by decide) rfl (fun ls hl => ?_)
              refine lv_goto (tgt := 56) hx hb (dc d_X1_readBend 93 rfl) (by decide) ?_
              exact ih (t_bendSum + (((t_heights (v5 - v3).toNatClampNeg) - ((2 : Int32) * (t_heights v5.toNatClampNeg))) + (t_heights (v5 + v3).toNatClampNeg))) (t_bendPlaces + (1 : Int32)) v3 v4 y12 (v6 + (1 : Int32)) _ _ _ hw (lv_sub hl [2, 3, 4, 1, 0] rfl) hf
  have L32 : ∀ (n : Nat), ∀ (t_bendSum : Int32) (t_bendPlaces : Int32) (v1 : Int32) (v3 : Int32) (s0 : Int32) (H : Heap) (locs : List Loc) (ls : Array Slot), Wd D A s.heap (w_X1 cI cC cZ tq0 tq1 tq2 t_heights t_isRead t_count t_bendSum t_bendPlaces) H locs → lv_has ls 7 [(0, .ref tq0), (1, .int v1), (3, .int v3)] → f_X1_readBend_32 t_heights t_isRead  n t_bendSum t_bendPlaces v1 v3 s0 = some o → W p l e (rmOf 0 0) s m args below meth c H locs 0 0 Q (F0 m 32 ls [.int s0]) := by
    intro  n t_bendSum t_bendPlaces v1 v3 s0 H locs ls hw hl hf
    refine lv_istore (lv' := [(4, .int s0), (0, .ref tq0), (1, .int v1), (3, .int v3)]) hx hb (dc d_X1_readBend 18 rfl) hl (by decide) rfl (fun ls hl => ?_)
    refine lv_iload_n hx hb (dc d_X1_readBend 19 rfl) rfl (lv_at hl 2 rfl) ?_
    refine lv_iconst (v := (4 : Int32)) hx hb (dc d_X1_readBend 20 rfl) (by decide) ?_
    refine x_rem hx hb (dc d_X1_readBend 21 rfl) (by decide) ?_
    refine lv_iconst (v := (1 : Int32)) hx hb (dc d_X1_readBend 22 rfl) (by decide) ?_
    refine lv_iadd hx hb (dc d_X1_readBend 23 rfl) ?_
    refine lv_iload_n hx hb (dc d_X1_readBend 24 rfl) rfl (lv_at hl 3 rfl) ?_
    refine lv_imul hx hb (dc d_X1_readBend 25 rfl) ?_
    refine lv_topi (fun y4 ey4 => ?_)
    have hf := g_nm hf ey4
    refine lv_istore (lv' := [(5, .int y4), (4, .int s0), (0, .ref tq0), (1, .int v1), (3, .int v3)]) hx hb (dc d_X1_readBend 26 rfl) hl (by decide) rfl (fun ls hl => ?_)
    refine lv_aload_n hx hb (dc d_X1_readBend 27 rfl) rfl (lv_at hl 2 rfl) ?_
    refine lv_iconst (v := (0 : Int32)) hx hb (dc d_X1_readBend 28 rfl) (by decide) ?_
    refine x_put C hw fl_X1_42 fw_X1_3 0 rfl rfl rfl (Nat.le_of_ble_eq_true rfl) (dc d_X1_readBend 29 rfl) (fun H locs hw => ?_)
    dsimp only [w_X1, mix, List.set_cons_succ, List.set_cons_zero] at hw
    have hw : Wd D A s.heap (w_X1 cI cC cZ tq0 tq1 tq2 t_heights t_isRead t_count (0 : Int32) t_bendPlaces) H locs := hw
    refine lv_aload_n hx hb (dc d_X1_readBend 30 rfl) rfl (lv_at hl 2 rfl) ?_
    refine lv_iconst (v := (0 : Int32)) hx hb (dc d_X1_readBend 31 rfl) (by decide) ?_
    refine x_put C hw fl_X1_45 fw_X1_4 0 rfl rfl rfl (Nat.le_of_ble_eq_true rfl) (dc d_X1_readBend 32 rfl) (fun H locs hw => ?_)
    dsimp only [w_X1, mix, List.set_cons_succ, List.set_cons_zero] at hw
    have hw : Wd D A s.heap (w_X1 cI cC cZ tq0 tq1 tq2 t_heights t_isRead t_count (0 : Int32) (0 : Int32)) H locs := hw
    refine lv_iconst (v := (0 : Int32)) hx hb (dc d_X1_readBend 33 rfl) (by decide) ?_
    refine lv_istore (lv' := [(6, .int (0 : Int32)), (5, .int y4), (4, .int s0), (0, .ref tq0), (1, .int v1), (3, .int v3)]) hx hb (dc d_X1_readBend 34 rfl) hl (by decide) rfl (fun ls hl => ?_)
    exact L56  n (0 : Int32) (0 : Int32) v3 s0 y4 (0 : Int32) _ _ _ hw (lv_sub hl [3, 5, 2, 1, 0] rfl) hf
  have L21 : ∀ (n : Nat), ∀ (t_bendSum : Int32) (t_bendPlaces : Int32) (v1 : Int32) (v2 : Int32) (s0 : Int32) (H : Heap) (locs : List Loc) (ls : Array Slot), Wd D A s.heap (w_X1 cI cC cZ tq0 tq1 tq2 t_heights t_isRead t_count t_bendSum t_bendPlaces) H locs → lv_has ls 7 [(0, .ref tq0), (1, .int v1), (2, .int v2)] → f_X1_readBend_21 t_heights t_isRead  n t_bendSum t_bendPlaces v1 v2 s0 = some o → W p l e (rmOf 0 0) s m args below meth c H locs 0 0 Q (F0 m 21 ls [.int s0]) := by
    intro  n t_bendSum t_bendPlaces v1 v2 s0 H locs ls hw hl hf
    refine lv_istore_n (lv' := [(3, .int s0), (0, .ref tq0), (1, .int v1), (2, .int v2)]) hx hb (dc d_X1_readBend 12 rfl) rfl hl (by decide) rfl (fun ls hl => ?_)
    refine lv_iload_n hx hb (dc d_X1_readBend 13 rfl) rfl (lv_at hl 3 rfl) ?_
    refine lv_if_eq (tgt := 31) hx hb (dc d_X1_readBend 14 rfl) (by decide) (fun c3 => ?_) (fun c3 => ?_)
    · have hf := g_t hf c3
      refine lv_iconst (v := (1 : Int32)) hx hb (dc d_X1_readBend 17 rfl) (by decide) ?_
      exact L32  n t_bendSum t_bendPlaces v1 s0 (1 : Int32) _ _ _ hw (lv_sub hl [1, 2, 0] rfl) hf
    · have hf := g_f hf c3
      refine lv_bipush (v := (6 : Int32)) hx hb (dc d_X1_readBend 15 rfl) (by decide) ?_
      refine lv_goto (tgt := 32) hx hb (dc d_X1_readBend 16 rfl) (by decide) ?_
      exact L32  n t_bendSum t_bendPlaces v1 s0 (6 : Int32) _ _ _ hw (lv_sub hl [1, 2, 0] rfl) hf
  have L10 : ∀ (n : Nat), ∀ (t_bendSum : Int32) (t_bendPlaces : Int32) (v1 : Int32) (s0 : Int32) (H : Heap) (locs : List Loc) (ls : Array Slot), Wd D A s.heap (w_X1 cI cC cZ tq0 tq1 tq2 t_heights t_isRead t_count t_bendSum t_bendPlaces) H locs → lv_has ls 7 [(0, .ref tq0), (1, .int v1)] → f_X1_readBend_10 t_heights t_isRead  n t_bendSum t_bendPlaces v1 s0 = some o → W p l e (rmOf 0 0) s m args below meth c H locs 0 0 Q (F0 m 10 ls [.int s0]) := by
    intro  n t_bendSum t_bendPlaces v1 s0 H locs ls hw hl hf
    refine lv_istore_n (lv' := [(2, .int s0), (0, .ref tq0), (1, .int v1)]) hx hb (dc d_X1_readBend 6 rfl) rfl hl (by decide) rfl (fun ls hl => ?_)
    refine lv_iload_n hx hb (dc d_X1_readBend 7 rfl) rfl (lv_at hl 0 rfl) ?_
    refine lv_if_eq (tgt := 19) hx hb (dc d_X1_readBend 8 rfl) (by decide) (fun c2 => ?_) (fun c2 => ?_)
    · have hf := g_t hf c2
      refine lv_bipush (v := (6 : Int32)) hx hb (dc d_X1_readBend 11 rfl) (by decide) ?_
      exact L21  n t_bendSum t_bendPlaces v1 s0 (6 : Int32) _ _ _ hw (lv_sub hl [1, 2, 0] rfl) hf
    · have hf := g_f hf c2
      refine lv_iconst (v := (1 : Int32)) hx hb (dc d_X1_readBend 9 rfl) (by decide) ?_
      refine lv_goto (tgt := 21) hx hb (dc d_X1_readBend 10 rfl) (by decide) ?_
      exact L21  n t_bendSum t_bendPlaces v1 s0 (1 : Int32) _ _ _ hw (lv_sub hl [1, 2, 0] rfl) hf
  refine lv_iload_n hx hb (dc d_X1_readBend 0 rfl) rfl (lv_at hl 1 rfl) ?_
  refine lv_iconst (v := (4 : Int32)) hx hb (dc d_X1_readBend 1 rfl) (by decide) ?_
  refine lv_icmp_ge (tgt := 9) hx hb (dc d_X1_readBend 2 rfl) (by decide) (fun c1 => ?_) (fun c1 => ?_)
  · have hf := g_t hf c1
    refine lv_iconst (v := (0 : Int32)) hx hb (dc d_X1_readBend 5 rfl) (by decide) ?_
    exact L10  n t_bendSum t_bendPlaces x1 (0 : Int32) _ _ _ hw (lv_sub hl [0, 1] rfl) hf
  · have hf := g_f hf c1
    refine lv_iconst (v := (1 : Int32)) hx hb (dc d_X1_readBend 3 rfl) (by decide) ?_
    refine lv_goto (tgt := 10) hx hb (dc d_X1_readBend 4 rfl) (by decide) ?_
    exact L10  n t_bendSum t_bendPlaces x1 (1 : Int32) _ _ _ hw (lv_sub hl [0, 1] rfl) hf
set_option maxHeartbeats 4000000 in
set_option maxRecDepth 100000 in
theorem k_X2_add (n : Nat) {l : Launch} {D : va_G} {cI cC cZ : ClassId} {tq0 tq1 : Nat} {t_signs : Nat → Int32} {t_count : Int32} {x1 : Int32} {o : Int32 × (Nat → Int32) × Int32} (hf : f_X2_add n t_signs t_count x1 = some o) : Ctr l yX2_add cX2_add 2 (some .boolean) 0 0 D cI cC cZ [.ref tq0, .int x1] (w_X2 cI cC cZ tq0 tq1 t_signs t_count) (w_X2 cI cC cZ tq0 tq1 o.2.1 o.2.2) (some (.int o.1)) := by
  refine Ctr.of (by decide) (Nat.le_of_ble_eq_true rfl) ?_
  intro p e s m args below meth c ls A Q hA hQ C hl hw
  have hx := C.1
  have hb := C.2.1
  have hl : lv_has ls 2 [(0, .ref tq0), (1, .int x1)] := hl
  refine lv_aload_n hx hb (dc d_X2_add 0 rfl) rfl (lv_at hl 0 rfl) ?_
  refine x_get C hw fl_X2_15 0 rfl rfl (dc d_X2_add 1 rfl) ?_
  refine lv_bipush (v := (50 : Int32)) hx hb (dc d_X2_add 2 rfl) (by decide) ?_
  refine lv_icmp_lt (tgt := 11) hx hb (dc d_X2_add 3 rfl) (by decide) (fun c1 => ?_) (fun c1 => ?_)
  · have hf := g_t hf c1
    refine lv_aload_n hx hb (dc d_X2_add 6 rfl) rfl (lv_at hl 0 rfl) ?_
    refine x_get C hw fl_X2_9 0 rfl rfl (dc d_X2_add 7 rfl) ?_
    refine lv_aload_n hx hb (dc d_X2_add 8 rfl) rfl (lv_at hl 0 rfl) ?_
    refine x_get C hw fl_X2_15 0 rfl rfl (dc d_X2_add 9 rfl) ?_
    refine lv_iload_n hx hb (dc d_X2_add 10 rfl) rfl (lv_at hl 1 rfl) ?_
    refine x_i2c hx hb (dc d_X2_add 11 rfl) ?_
    have hi := grd_b hf
    have hf := grd_x hf
    refine x_cast C hw 1 rfl hi (dc d_X2_add 12 rfl) (fun H locs hw => ?_)
    dsimp only [w_X2, mix, List.set_cons_succ, List.set_cons_zero] at hw
    have hw : Wd D A s.heap (w_X2 cI cC cZ tq0 tq1 (upd t_signs t_count.toNatClampNeg (vp_nar .char (jchr x1))) t_count) H locs := hw
    refine lv_aload_n hx hb (dc d_X2_add 13 rfl) rfl (lv_at hl 0 rfl) ?_
    refine lv_dup hx hb (dc d_X2_add 14 rfl) rfl ?_
    refine x_get C hw fl_X2_15 0 rfl rfl (dc d_X2_add 15 rfl) ?_
    refine lv_iconst (v := (1 : Int32)) hx hb (dc d_X2_add 16 rfl) (by decide) ?_
    refine lv_iadd hx hb (dc d_X2_add 17 rfl) ?_
    refine x_put C hw fl_X2_15 fw_X2_1 0 rfl rfl rfl (Nat.le_of_ble_eq_true rfl) (dc d_X2_add 18 rfl) (fun H locs hw => ?_)
    dsimp only [w_X2, mix, List.set_cons_succ, List.set_cons_zero] at hw
    have hw : Wd D A s.heap (w_X2 cI cC cZ tq0 tq1 (upd t_signs t_count.toNatClampNeg (vp_nar .char (jchr x1))) (t_count + (1 : Int32))) H locs := hw
    refine lv_iconst (v := (1 : Int32)) hx hb (dc d_X2_add 19 rfl) (by decide) ?_
    cases hf
    exact x_zret C hA hQ hw rfl rfl (by decide) (dc d_X2_add 20 rfl)
  · have hf := g_f hf c1
    refine lv_iconst (v := (0 : Int32)) hx hb (dc d_X2_add 4 rfl) (by decide) ?_
    cases hf
    exact x_zret C hA hQ hw rfl rfl (by decide) (dc d_X2_add 5 rfl)
set_option maxHeartbeats 4000000 in
set_option maxRecDepth 100000 in
theorem k_X2_followPass (n : Nat) {l : Launch} {D : va_G} {cI cC cZ : ClassId}   {x0 : Int32} {x1 : Int32} {o : Int32} (hf : f_X2_followPass n x0 x1 = some o) : Ctr l yX2_followPass cX2_followPass 2 (some .int) 0 0 D cI cC cZ [.int x0, .int x1] [] [] (some (.int o)) := by
  refine Ctr.of (by decide) (Nat.le_of_ble_eq_true rfl) ?_
  intro p e s m args below meth c ls A Q hA hQ C hl hw
  have hx := C.1
  have hb := C.2.1
  have hl : lv_has ls 2 [(0, .int x0), (1, .int x1)] := hl
  have L21 : ∀ (n : Nat), ∀ (v0 : Int32) (v1 : Int32) (H : Heap) (locs : List Loc) (ls : Array Slot), Wd D A s.heap [] H locs → lv_has ls 2 [(0, .int v0), (1, .int v1)] → f_X2_followPass_21  n v0 v1 = some o → W p l e (rmOf 0 0) s m args below meth c H locs 0 0 Q (F0 m 21 ls []) := by
    intro  n v0 v1 H locs ls hw hl hf
    refine lv_iload_n hx hb (dc d_X2_followPass 13 rfl) rfl (lv_at hl 1 rfl) ?_
    refine lv_bipush (v := (98 : Int32)) hx hb (dc d_X2_followPass 14 rfl) (by decide) ?_
    refine lv_icmp_ne (tgt := 41) hx hb (dc d_X2_followPass 15 rfl) (by decide) (fun c4 => ?_) (fun c4 => ?_)
    · have hf := g_f hf c4
      refine lv_bipush (v := (6 : Int32)) hx hb (dc d_X2_followPass 24 rfl) (by decide) ?_
      cases hf
      exact x_iret C hA hQ hw rfl rfl (dc d_X2_followPass 25 rfl)
    · have hf := g_t hf c4
      refine lv_iload_n hx hb (dc d_X2_followPass 16 rfl) rfl (lv_at hl 0 rfl) ?_
      refine lv_iconst (v := (3 : Int32)) hx hb (dc d_X2_followPass 17 rfl) (by decide) ?_
      refine lv_icmp_eq (tgt := 37) hx hb (dc d_X2_followPass 18 rfl) (by decide) (fun c5 => ?_) (fun c5 => ?_)
      · have hf := g_t hf c5
        refine lv_iconst (v := (5 : Int32)) hx hb (dc d_X2_followPass 22 rfl) (by decide) ?_
        refine lv_goto (tgt := 43) hx hb (dc d_X2_followPass 23 rfl) (by decide) ?_
        cases hf
        exact x_iret C hA hQ hw rfl rfl (dc d_X2_followPass 25 rfl)
      · have hf := g_f hf c5
        refine lv_iload_n hx hb (dc d_X2_followPass 19 rfl) rfl (lv_at hl 0 rfl) ?_
        refine lv_iconst (v := (4 : Int32)) hx hb (dc d_X2_followPass 20 rfl) (by decide) ?_
        refine lv_icmp_ne (tgt := 41) hx hb (dc d_X2_followPass 21 rfl) (by decide) (fun c6 => ?_) (fun c6 => ?_)
        · have hf := g_f hf c6
          refine lv_bipush (v := (6 : Int32)) hx hb (dc d_X2_followPass 24 rfl) (by decide) ?_
          cases hf
          exact x_iret C hA hQ hw rfl rfl (dc d_X2_followPass 25 rfl)
        · have hf := g_t hf c6
          refine lv_iconst (v := (5 : Int32)) hx hb (dc d_X2_followPass 22 rfl) (by decide) ?_
          refine lv_goto (tgt := 43) hx hb (dc d_X2_followPass 23 rfl) (by decide) ?_
          cases hf
          exact x_iret C hA hQ hw rfl rfl (dc d_X2_followPass 25 rfl)
  refine lv_iload_n hx hb (dc d_X2_followPass 0 rfl) rfl (lv_at hl 1 rfl) ?_
  refine lv_bipush (v := (59 : Int32)) hx hb (dc d_X2_followPass 1 rfl) (by decide) ?_
  refine lv_icmp_ne (tgt := 8) hx hb (dc d_X2_followPass 2 rfl) (by decide) (fun c1 => ?_) (fun c1 => ?_)
  · have hf := g_f hf c1
    refine lv_iload_n hx hb (dc d_X2_followPass 5 rfl) rfl (lv_at hl 1 rfl) ?_
    refine lv_bipush (v := (119 : Int32)) hx hb (dc d_X2_followPass 6 rfl) (by decide) ?_
    refine lv_icmp_ne (tgt := 21) hx hb (dc d_X2_followPass 7 rfl) (by decide) (fun c2 => ?_) (fun c2 => ?_)
    · have hf := g_f hf c2
      exact L21  n x0 x1 _ _ _ hw (lv_sub hl [0, 1] rfl) hf
    · have hf := g_t hf c2
      refine lv_iload_n hx hb (dc d_X2_followPass 8 rfl) rfl (lv_at hl 0 rfl) ?_
      refine lv_iconst (v := (3 : Int32)) hx hb (dc d_X2_followPass 9 rfl) (by decide) ?_
      refine lv_icmp_ne (tgt := 21) hx hb (dc d_X2_followPass 10 rfl) (by decide) (fun c3 => ?_) (fun c3 => ?_)
      · have hf := g_f hf c3
        exact L21  n x0 x1 _ _ _ hw (lv_sub hl [0, 1] rfl) hf
      · have hf := g_t hf c3
        refine lv_iconst (v := (4 : Int32)) hx hb (dc d_X2_followPass 11 rfl) (by decide) ?_
        cases hf
        exact x_iret C hA hQ hw rfl rfl (dc d_X2_followPass 12 rfl)
  · have hf := g_t hf c1
    refine lv_iconst (v := (0 : Int32)) hx hb (dc d_X2_followPass 3 rfl) (by decide) ?_
    cases hf
    exact x_iret C hA hQ hw rfl rfl (dc d_X2_followPass 4 rfl)
set_option maxHeartbeats 4000000 in
set_option maxRecDepth 100000 in
theorem k_X2_follow (n : Nat) {l : Launch} {D : va_G} {cI cC cZ : ClassId}   {x0 : Int32} {x1 : Int32} {o : Int32} (hf : f_X2_follow n x0 x1 = some o) : Ctr l yX2_follow cX2_follow 2 (some .int) 1 21 D cI cC cZ [.int x0, .int x1] [] [] (some (.int o)) := by
  refine Ctr.of (by decide) (Nat.le_of_ble_eq_true rfl) ?_
  intro p e s m args below meth c ls A Q hA hQ C hl hw
  have hx := C.1
  have hb := C.2.1
  have hl : lv_has ls 2 [(0, .int x0), (1, .int x1)] := hl
  refine lv_iload_n hx hb (dc d_X2_follow 0 rfl) rfl (lv_at hl 0 rfl) ?_
  by_cases c1 : x0 = (0 : Int32)
  · have hf := g_t hf c1
    refine lv_tableIn (off := 27) (tgt := 28) hx hb (dc d_X2_follow 1 rfl) (by rw [c1]; decide) (by rw [c1]; decide) (by rw [c1]; rfl) (by decide) ?_
    refine lv_iload_n hx hb (dc d_X2_follow 2 rfl) rfl (lv_at hl 1 rfl) ?_
    refine lv_bipush (v := (118 : Int32)) hx hb (dc d_X2_follow 3 rfl) (by decide) ?_
    refine lv_icmp_eq (tgt := 40) hx hb (dc d_X2_follow 4 rfl) (by decide) (fun c2 => ?_) (fun c2 => ?_)
    · have hf := g_t hf c2
      refine lv_iconst (v := (1 : Int32)) hx hb (dc d_X2_follow 8 rfl) (by decide) ?_
      refine lv_goto (tgt := 46) hx hb (dc d_X2_follow 9 rfl) (by decide) ?_
      cases hf
      exact x_iret C hA hQ hw rfl rfl (dc d_X2_follow 11 rfl)
    · have hf := g_f hf c2
      refine lv_iload_n hx hb (dc d_X2_follow 5 rfl) rfl (lv_at hl 1 rfl) ?_
      refine lv_bipush (v := (104 : Int32)) hx hb (dc d_X2_follow 6 rfl) (by decide) ?_
      refine lv_icmp_ne (tgt := 44) hx hb (dc d_X2_follow 7 rfl) (by decide) (fun c3 => ?_) (fun c3 => ?_)
      · have hf := g_f hf c3
        refine lv_bipush (v := (6 : Int32)) hx hb (dc d_X2_follow 10 rfl) (by decide) ?_
        cases hf
        exact x_iret C hA hQ hw rfl rfl (dc d_X2_follow 11 rfl)
      · have hf := g_t hf c3
        refine lv_iconst (v := (1 : Int32)) hx hb (dc d_X2_follow 8 rfl) (by decide) ?_
        refine lv_goto (tgt := 46) hx hb (dc d_X2_follow 9 rfl) (by decide) ?_
        cases hf
        exact x_iret C hA hQ hw rfl rfl (dc d_X2_follow 11 rfl)
  have hf := g_f hf c1
  by_cases c4 : x0 = (1 : Int32)
  · have hf := g_t hf c4
    refine lv_tableIn (off := 46) (tgt := 47) hx hb (dc d_X2_follow 1 rfl) (by rw [c4]; decide) (by rw [c4]; decide) (by rw [c4]; rfl) (by decide) ?_
    refine lv_iload_n hx hb (dc d_X2_follow 12 rfl) rfl (lv_at hl 1 rfl) ?_
    refine lv_bipush (v := (49 : Int32)) hx hb (dc d_X2_follow 13 rfl) (by decide) ?_
    refine lv_icmp_lt (tgt := 63) hx hb (dc d_X2_follow 14 rfl) (by decide) (fun c5 => ?_) (fun c5 => ?_)
    · have hf := g_t hf c5
      refine lv_bipush (v := (6 : Int32)) hx hb (dc d_X2_follow 20 rfl) (by decide) ?_
      cases hf
      exact x_iret C hA hQ hw rfl rfl (dc d_X2_follow 21 rfl)
    · have hf := g_f hf c5
      refine lv_iload_n hx hb (dc d_X2_follow 15 rfl) rfl (lv_at hl 1 rfl) ?_
      refine lv_bipush (v := (52 : Int32)) hx hb (dc d_X2_follow 16 rfl) (by decide) ?_
      refine lv_icmp_gt (tgt := 63) hx hb (dc d_X2_follow 17 rfl) (by decide) (fun c6 => ?_) (fun c6 => ?_)
      · have hf := g_t hf c6
        refine lv_bipush (v := (6 : Int32)) hx hb (dc d_X2_follow 20 rfl) (by decide) ?_
        cases hf
        exact x_iret C hA hQ hw rfl rfl (dc d_X2_follow 21 rfl)
      · have hf := g_f hf c6
        refine lv_iconst (v := (2 : Int32)) hx hb (dc d_X2_follow 18 rfl) (by decide) ?_
        refine lv_goto (tgt := 65) hx hb (dc d_X2_follow 19 rfl) (by decide) ?_
        cases hf
        exact x_iret C hA hQ hw rfl rfl (dc d_X2_follow 21 rfl)
  have hf := g_f hf c4
  by_cases c7 : x0 = (2 : Int32)
  · have hf := g_t hf c7
    refine lv_tableIn (off := 65) (tgt := 66) hx hb (dc d_X2_follow 1 rfl) (by rw [c7]; decide) (by rw [c7]; decide) (by rw [c7]; rfl) (by decide) ?_
    refine lv_iload_n hx hb (dc d_X2_follow 22 rfl) rfl (lv_at hl 1 rfl) ?_
    refine lv_bipush (v := (49 : Int32)) hx hb (dc d_X2_follow 23 rfl) (by decide) ?_
    refine lv_icmp_lt (tgt := 82) hx hb (dc d_X2_follow 24 rfl) (by decide) (fun c8 => ?_) (fun c8 => ?_)
    · have hf := g_t hf c8
      refine lv_bipush (v := (6 : Int32)) hx hb (dc d_X2_follow 30 rfl) (by decide) ?_
      cases hf
      exact x_iret C hA hQ hw rfl rfl (dc d_X2_follow 31 rfl)
    · have hf := g_f hf c8
      refine lv_iload_n hx hb (dc d_X2_follow 25 rfl) rfl (lv_at hl 1 rfl) ?_
      refine lv_bipush (v := (57 : Int32)) hx hb (dc d_X2_follow 26 rfl) (by decide) ?_
      refine lv_icmp_gt (tgt := 82) hx hb (dc d_X2_follow 27 rfl) (by decide) (fun c9 => ?_) (fun c9 => ?_)
      · have hf := g_t hf c9
        refine lv_bipush (v := (6 : Int32)) hx hb (dc d_X2_follow 30 rfl) (by decide) ?_
        cases hf
        exact x_iret C hA hQ hw rfl rfl (dc d_X2_follow 31 rfl)
      · have hf := g_f hf c9
        refine lv_iconst (v := (3 : Int32)) hx hb (dc d_X2_follow 28 rfl) (by decide) ?_
        refine lv_goto (tgt := 84) hx hb (dc d_X2_follow 29 rfl) (by decide) ?_
        cases hf
        exact x_iret C hA hQ hw rfl rfl (dc d_X2_follow 31 rfl)
  have hf := g_f hf c7
  refine lv_tableOut (tgt := 85) hx hb (dc d_X2_follow 1 rfl) (by have zc1 := sw_ne c1 (k := 0) (by decide); have zc4 := sw_ne c4 (k := 1) (by decide); have zc7 := sw_ne c7 (k := 2) (by decide); omega) (by decide) ?_
  refine lv_iload_n hx hb (dc d_X2_follow 32 rfl) rfl (lv_at hl 0 rfl) ?_
  refine lv_iload_n hx hb (dc d_X2_follow 33 rfl) rfl (lv_at hl 1 rfl) ?_
  obtain ⟨q10, hq10, hf⟩ := g_bd hf
  refine x_callS C hw mb_X2_followPass ms_X2_followPass ml_X2_23 (k_X2_followPass n hq10) hl.1 rfl rfl [] rfl rfl rfl (Nat.le_of_ble_eq_true rfl) (Nat.le_of_ble_eq_true rfl) (Nat.le_of_ble_eq_true rfl) (dc d_X2_follow 34 rfl) (fun H locs hw => ?_)
  refine W.eq (g2 := F0 m 90 ls [.int q10]) rfl ?_
  have hw : Wd D A s.heap [] H locs := hw
  cases hf
  exact x_iret C hA hQ hw rfl rfl (dc d_X2_follow 35 rfl)
set_option maxHeartbeats 4000000 in
set_option maxRecDepth 100000 in
theorem k_X2_faultPlace (n : Nat) {l : Launch} {D : va_G} {cI cC cZ : ClassId} {tq0 tq1 : Nat} {t_signs : Nat → Int32} {t_count : Int32}  {o : Int32} (hf : f_X2_faultPlace n t_signs t_count = some o) : Ctr l yX2_faultPlace cX2_faultPlace 3 (some .int) 2 42 D cI cC cZ [.ref tq0] (w_X2 cI cC cZ tq0 tq1 t_signs t_count) (w_X2 cI cC cZ tq0 tq1 t_signs t_count) (some (.int o)) := by
  refine Ctr.of (by decide) (Nat.le_of_ble_eq_true rfl) ?_
  intro p e s m args below meth c ls A Q hA hQ C hl hw
  have hx := C.1
  have hb := C.2.1
  have hl : lv_has ls 3 [(0, .ref tq0)] := hl
  have L4 : ∀ (n : Nat), ∀ (v1 : Int32) (v2 : Int32) (H : Heap) (locs : List Loc) (ls : Array Slot), Wd D A s.heap (w_X2 cI cC cZ tq0 tq1 t_signs t_count) H locs → lv_has ls 3 [(0, .ref tq0), (1, .int v1), (2, .int v2)] → f_X2_faultPlace_4 t_signs t_count  n v1 v2 = some o → W p l e (rmOf 2 42) s m args below meth c H locs 0 0 Q (F0 m 4 ls []) := by
    intro  n
    induction n with
    | zero => intro v1 v2 H locs ls hw hl hf; exact (no_none hf).elim
    | succ n ih =>
      intro v1 v2 H locs ls hw hl hf
      have hf : f_X2_faultPlace_4b t_signs t_count  (f_X2_faultPlace_4 t_signs t_count  n) n v1 v2 = some o := hf
      generalize f_X2_faultPlace_4 t_signs t_count  n = k4 at hf ih
      refine lv_iload_n hx hb (dc d_X2_faultPlace 4 rfl) rfl (lv_at hl 2 rfl) ?_
      refine lv_aload_n hx hb (dc d_X2_faultPlace 5 rfl) rfl (lv_at hl 0 rfl) ?_
      refine x_get C hw fl_X2_15 0 rfl rfl (dc d_X2_faultPlace 6 rfl) ?_
      refine lv_icmp_ge (tgt := 37) hx hb (dc d_X2_faultPlace 7 rfl) (by decide) (fun c1 => ?_) (fun c1 => ?_)
      · have hf := g_t hf c1
        refine lv_iload_n hx hb (dc d_X2_faultPlace 22 rfl) rfl (lv_at hl 1 rfl) ?_
        refine lv_iconst (v := (3 : Int32)) hx hb (dc d_X2_faultPlace 23 rfl) (by decide) ?_
        refine lv_icmp_lt (tgt := 47) hx hb (dc d_X2_faultPlace 24 rfl) (by decide) (fun c2 => ?_) (fun c2 => ?_)
        · have hf := g_t hf c2
          refine lv_aload_n hx hb (dc d_X2_faultPlace 27 rfl) rfl (lv_at hl 0 rfl) ?_
          refine x_get C hw fl_X2_15 0 rfl rfl (dc d_X2_faultPlace 28 rfl) ?_
          cases hf
          exact x_iret C hA hQ hw rfl rfl (dc d_X2_faultPlace 29 rfl)
        · have hf := g_f hf c2
          refine lv_bipush (v := (-6 : Int32)) hx hb (dc d_X2_faultPlace 25 rfl) (by decide) ?_
          refine lv_goto (tgt := 51) hx hb (dc d_X2_faultPlace 26 rfl) (by decide) ?_
          cases hf
          exact x_iret C hA hQ hw rfl rfl (dc d_X2_faultPlace 29 rfl)
      · have hf := g_f hf c1
        refine lv_iload_n hx hb (dc d_X2_faultPlace 8 rfl) rfl (lv_at hl 1 rfl) ?_
        refine lv_aload_n hx hb (dc d_X2_faultPlace 9 rfl) rfl (lv_at hl 0 rfl) ?_
        refine x_get C hw fl_X2_9 0 rfl rfl (dc d_X2_faultPlace 10 rfl) ?_
        refine lv_iload_n hx hb (dc d_X2_faultPlace 11 rfl) rfl (lv_at hl 2 rfl) ?_
        have hi := grd_b hf
        have hf := grd_x hf
        refine x_cald C hw 1 rfl hi (dc d_X2_faultPlace 12 rfl) ?_
        obtain ⟨q3, hq3, hf⟩ := g_bd hf
        refine x_callS C hw mb_X2_follow ms_X2_follow ml_X2_19 (k_X2_follow n hq3) hl.1 rfl rfl [] rfl rfl rfl (Nat.le_of_ble_eq_true rfl) (Nat.le_of_ble_eq_true rfl) (Nat.le_of_ble_eq_true rfl) (dc d_X2_faultPlace 13 rfl) (fun H locs hw => ?_)
        refine W.eq (g2 := F0 m 22 ls [.int q3]) rfl ?_
        have hw : Wd D A s.heap (w_X2 cI cC cZ tq0 tq1 t_signs t_count) H locs := hw
        refine lv_istore_n (lv' := [(1, .int q3), (0, .ref tq0), (2, .int v2)]) hx hb (dc d_X2_faultPlace 14 rfl) rfl hl (by decide) rfl (fun ls hl => ?_)
        refine lv_iload_n hx hb (dc d_X2_faultPlace 15 rfl) rfl (lv_at hl 0 rfl) ?_
        refine lv_bipush (v := (6 : Int32)) hx hb (dc d_X2_faultPlace 16 rfl) (by decide) ?_
        refine lv_icmp_ne (tgt := 31) hx hb (dc d_X2_faultPlace 17 rfl) (by decide) (fun c4 => ?_) (fun c4 => ?_)
        · have hf := g_f hf c4
          refine lv_iinc (v := (v2 + (1 : Int32))) (lv' := [(2, .int (v2 + (1 : Int32))), (1, .int q3), (0, .ref tq0)]) hx hb (dc d_X2_faultPlace 20 rfl) hl (k := 2) rfl (ii (by decide)) (by decide) rfl (fun ls hl => ?_)
          refine lv_goto (tgt := 4) hx hb (dc d_X2_faultPlace 21 rfl) (by decide) ?_
          exact ih q3 (v2 + (1 : Int32)) _ _ _ hw (lv_sub hl [2, 1, 0] rfl) hf
        · have hf := g_t hf c4
          refine lv_iload_n hx hb (dc d_X2_faultPlace 18 rfl) rfl (lv_at hl 2 rfl) ?_
          cases hf
          exact x_iret C hA hQ hw rfl rfl (dc d_X2_faultPlace 19 rfl)
  refine lv_iconst (v := (0 : Int32)) hx hb (dc d_X2_faultPlace 0 rfl) (by decide) ?_
  refine lv_istore_n (lv' := [(1, .int (0 : Int32)), (0, .ref tq0)]) hx hb (dc d_X2_faultPlace 1 rfl) rfl hl (by decide) rfl (fun ls hl => ?_)
  refine lv_iconst (v := (0 : Int32)) hx hb (dc d_X2_faultPlace 2 rfl) (by decide) ?_
  refine lv_istore_n (lv' := [(2, .int (0 : Int32)), (1, .int (0 : Int32)), (0, .ref tq0)]) hx hb (dc d_X2_faultPlace 3 rfl) rfl hl (by decide) rfl (fun ls hl => ?_)
  exact L4  n (0 : Int32) (0 : Int32) _ _ _ hw (lv_sub hl [2, 1, 0] rfl) hf
set_option maxHeartbeats 4000000 in
set_option maxRecDepth 100000 in
theorem k_X2_passes (n : Nat) {l : Launch} {D : va_G} {cI cC cZ : ClassId} {tq0 tq1 : Nat} {t_signs : Nat → Int32} {t_count : Int32}  {o : Int32} (hf : f_X2_passes n t_signs t_count = some o) : Ctr l yX2_passes cX2_passes 3 (some .int) 0 0 D cI cC cZ [.ref tq0] (w_X2 cI cC cZ tq0 tq1 t_signs t_count) (w_X2 cI cC cZ tq0 tq1 t_signs t_count) (some (.int o)) := by
  refine Ctr.of (by decide) (Nat.le_of_ble_eq_true rfl) ?_
  intro p e s m args below meth c ls A Q hA hQ C hl hw
  have hx := C.1
  have hb := C.2.1
  have hl : lv_has ls 3 [(0, .ref tq0)] := hl
  have L4 : ∀ (n : Nat), ∀ (v1 : Int32) (v2 : Int32) (H : Heap) (locs : List Loc) (ls : Array Slot), Wd D A s.heap (w_X2 cI cC cZ tq0 tq1 t_signs t_count) H locs → lv_has ls 3 [(0, .ref tq0), (1, .int v1), (2, .int v2)] → f_X2_passes_4 t_signs t_count  n v1 v2 = some o → W p l e (rmOf 0 0) s m args below meth c H locs 0 0 Q (F0 m 4 ls []) := by
    intro  n
    induction n with
    | zero => intro v1 v2 H locs ls hw hl hf; exact (no_none hf).elim
    | succ n ih =>
      intro v1 v2 H locs ls hw hl hf
      have hf : f_X2_passes_4b t_signs t_count  (f_X2_passes_4 t_signs t_count  n) n v1 v2 = some o := hf
      generalize f_X2_passes_4 t_signs t_count  n = k4 at hf ih
      refine lv_iload_n hx hb (dc d_X2_passes 4 rfl) rfl (lv_at hl 2 rfl) ?_
      refine lv_aload_n hx hb (dc d_X2_passes 5 rfl) rfl (lv_at hl 0 rfl) ?_
      refine x_get C hw fl_X2_15 0 rfl rfl (dc d_X2_passes 6 rfl) ?_
      refine lv_icmp_ge (tgt := 32) hx hb (dc d_X2_passes 7 rfl) (by decide) (fun c1 => ?_) (fun c1 => ?_)
      · have hf := g_t hf c1
        refine lv_iload_n hx hb (dc d_X2_passes 17 rfl) rfl (lv_at hl 1 rfl) ?_
        cases hf
        exact x_iret C hA hQ hw rfl rfl (dc d_X2_passes 18 rfl)
      · have hf := g_f hf c1
        refine lv_aload_n hx hb (dc d_X2_passes 8 rfl) rfl (lv_at hl 0 rfl) ?_
        refine x_get C hw fl_X2_9 0 rfl rfl (dc d_X2_passes 9 rfl) ?_
        refine lv_iload_n hx hb (dc d_X2_passes 10 rfl) rfl (lv_at hl 2 rfl) ?_
        have hi := grd_b hf
        have hf := grd_x hf
        refine x_cald C hw 1 rfl hi (dc d_X2_passes 11 rfl) ?_
        refine lv_bipush (v := (59 : Int32)) hx hb (dc d_X2_passes 12 rfl) (by decide) ?_
        refine lv_icmp_ne (tgt := 26) hx hb (dc d_X2_passes 13 rfl) (by decide) (fun c2 => ?_) (fun c2 => ?_)
        · have hf := g_f hf c2
          refine lv_iinc (v := (v2 + (1 : Int32))) (lv' := [(2, .int (v2 + (1 : Int32))), (0, .ref tq0), (1, .int v1)]) hx hb (dc d_X2_passes 15 rfl) hl (k := 2) rfl (ii (by decide)) (by decide) rfl (fun ls hl => ?_)
          refine lv_goto (tgt := 4) hx hb (dc d_X2_passes 16 rfl) (by decide) ?_
          exact ih v1 (v2 + (1 : Int32)) _ _ _ hw (lv_sub hl [1, 2, 0] rfl) hf
        · have hf := g_t hf c2
          refine lv_iinc (v := (v1 + (1 : Int32))) (lv' := [(1, .int (v1 + (1 : Int32))), (0, .ref tq0), (2, .int v2)]) hx hb (dc d_X2_passes 14 rfl) hl (k := 1) rfl (ii (by decide)) (by decide) rfl (fun ls hl => ?_)
          refine lv_iinc (v := (v2 + (1 : Int32))) (lv' := [(2, .int (v2 + (1 : Int32))), (1, .int (v1 + (1 : Int32))), (0, .ref tq0)]) hx hb (dc d_X2_passes 15 rfl) hl (k := 2) rfl (ii (by decide)) (by decide) rfl (fun ls hl => ?_)
          refine lv_goto (tgt := 4) hx hb (dc d_X2_passes 16 rfl) (by decide) ?_
          exact ih (v1 + (1 : Int32)) (v2 + (1 : Int32)) _ _ _ hw (lv_sub hl [2, 1, 0] rfl) hf
  refine lv_iconst (v := (1 : Int32)) hx hb (dc d_X2_passes 0 rfl) (by decide) ?_
  refine lv_istore_n (lv' := [(1, .int (1 : Int32)), (0, .ref tq0)]) hx hb (dc d_X2_passes 1 rfl) rfl hl (by decide) rfl (fun ls hl => ?_)
  refine lv_iconst (v := (0 : Int32)) hx hb (dc d_X2_passes 2 rfl) (by decide) ?_
  refine lv_istore_n (lv' := [(2, .int (0 : Int32)), (1, .int (1 : Int32)), (0, .ref tq0)]) hx hb (dc d_X2_passes 3 rfl) rfl hl (by decide) rfl (fun ls hl => ?_)
  exact L4  n (1 : Int32) (0 : Int32) _ _ _ hw (lv_sub hl [2, 1, 0] rfl) hf
set_option maxHeartbeats 4000000 in
set_option maxRecDepth 100000 in
theorem k_X3_add (n : Nat) {l : Launch} {D : va_G} {cI cC cZ : ClassId} {tq0 tq1 tq2 tq3 tq4 : Nat} {t_N : Nat} {t_room : Int32} {t_line : Nat → Int32} {t_strength : Nat → Int32} {t_water : Nat → Int32} {t_back : Nat → Int32} {t_count : Int32} {x1 : Int32} {x2 : Int32} {x3 : Int32} {x4 : Int32} {o : Int32 × (Nat → Int32) × (Nat → Int32) × (Nat → Int32) × (Nat → Int32) × Int32} (hf : f_X3_add n t_N t_room t_line t_strength t_water t_back t_count x1 x2 x3 x4 = some o) : Ctr l yX3_add cX3_add 5 (some .boolean) 0 0 D cI cC cZ [.ref tq0, .int x1, .int x2, .int x3, .int x4] (w_X3 cI cC cZ tq0 tq1 tq2 tq3 tq4 t_N t_room t_line t_strength t_water t_back t_count) (w_X3 cI cC cZ tq0 tq1 tq2 tq3 tq4 t_N t_room o.2.1 o.2.2.1 o.2.2.2.1 o.2.2.2.2.1 o.2.2.2.2.2) (some (.int o.1)) := by
  refine Ctr.of (by decide) (Nat.le_of_ble_eq_true rfl) ?_
  intro p e s m args below meth c ls A Q hA hQ C hl hw
  have hx := C.1
  have hb := C.2.1
  have hl : lv_has ls 5 [(0, .ref tq0), (1, .int x1), (2, .int x2), (3, .int x3), (4, .int x4)] := hl
  refine lv_aload_n hx hb (dc d_X3_add 0 rfl) rfl (lv_at hl 0 rfl) ?_
  refine x_get C hw fl_X3_26 0 rfl rfl (dc d_X3_add 1 rfl) ?_
  refine lv_aload_n hx hb (dc d_X3_add 2 rfl) rfl (lv_at hl 0 rfl) ?_
  refine x_get C hw fl_X3_7 0 rfl rfl (dc d_X3_add 3 rfl) ?_
  refine lv_icmp_lt (tgt := 13) hx hb (dc d_X3_add 4 rfl) (by decide) (fun c1 => ?_) (fun c1 => ?_)
  · have hf := g_t hf c1
    refine lv_aload_n hx hb (dc d_X3_add 7 rfl) rfl (lv_at hl 0 rfl) ?_
    refine x_get C hw fl_X3_13 0 rfl rfl (dc d_X3_add 8 rfl) ?_
    refine lv_aload_n hx hb (dc d_X3_add 9 rfl) rfl (lv_at hl 0 rfl) ?_
    refine x_get C hw fl_X3_26 0 rfl rfl (dc d_X3_add 10 rfl) ?_
    refine lv_iload_n hx hb (dc d_X3_add 11 rfl) rfl (lv_at hl 1 rfl) ?_
    have hi := grd_b hf
    have hf := grd_x hf
    refine x_iast C hw 1 rfl hi (dc d_X3_add 12 rfl) (fun H locs hw => ?_)
    dsimp only [w_X3, mix, List.set_cons_succ, List.set_cons_zero] at hw
    have hw : Wd D A s.heap (w_X3 cI cC cZ tq0 tq1 tq2 tq3 tq4 t_N t_room (upd t_line t_count.toNatClampNeg x1) t_strength t_water t_back t_count) H locs := hw
    refine lv_aload_n hx hb (dc d_X3_add 13 rfl) rfl (lv_at hl 0 rfl) ?_
    refine x_get C hw fl_X3_17 0 rfl rfl (dc d_X3_add 14 rfl) ?_
    refine lv_aload_n hx hb (dc d_X3_add 15 rfl) rfl (lv_at hl 0 rfl) ?_
    refine x_get C hw fl_X3_26 0 rfl rfl (dc d_X3_add 16 rfl) ?_
    refine lv_iload_n hx hb (dc d_X3_add 17 rfl) rfl (lv_at hl 2 rfl) ?_
    have hi := grd_b hf
    have hf := grd_x hf
    refine x_iast C hw 2 rfl hi (dc d_X3_add 18 rfl) (fun H locs hw => ?_)
    dsimp only [w_X3, mix, List.set_cons_succ, List.set_cons_zero] at hw
    have hw : Wd D A s.heap (w_X3 cI cC cZ tq0 tq1 tq2 tq3 tq4 t_N t_room (upd t_line t_count.toNatClampNeg x1) (upd t_strength t_count.toNatClampNeg x2) t_water t_back t_count) H locs := hw
    refine lv_aload_n hx hb (dc d_X3_add 19 rfl) rfl (lv_at hl 0 rfl) ?_
    refine x_get C hw fl_X3_20 0 rfl rfl (dc d_X3_add 20 rfl) ?_
    refine lv_aload_n hx hb (dc d_X3_add 21 rfl) rfl (lv_at hl 0 rfl) ?_
    refine x_get C hw fl_X3_26 0 rfl rfl (dc d_X3_add 22 rfl) ?_
    refine lv_iload_n hx hb (dc d_X3_add 23 rfl) rfl (lv_at hl 3 rfl) ?_
    have hi := grd_b hf
    have hf := grd_x hf
    refine x_iast C hw 3 rfl hi (dc d_X3_add 24 rfl) (fun H locs hw => ?_)
    dsimp only [w_X3, mix, List.set_cons_succ, List.set_cons_zero] at hw
    have hw : Wd D A s.heap (w_X3 cI cC cZ tq0 tq1 tq2 tq3 tq4 t_N t_room (upd t_line t_count.toNatClampNeg x1) (upd t_strength t_count.toNatClampNeg x2) (upd t_water t_count.toNatClampNeg x3) t_back t_count) H locs := hw
    refine lv_aload_n hx hb (dc d_X3_add 25 rfl) rfl (lv_at hl 0 rfl) ?_
    refine x_get C hw fl_X3_23 0 rfl rfl (dc d_X3_add 26 rfl) ?_
    refine lv_aload_n hx hb (dc d_X3_add 27 rfl) rfl (lv_at hl 0 rfl) ?_
    refine x_get C hw fl_X3_26 0 rfl rfl (dc d_X3_add 28 rfl) ?_
    refine lv_iload hx hb (dc d_X3_add 29 rfl) (lv_at hl 4 rfl) ?_
    have hi := grd_b hf
    have hf := grd_x hf
    refine x_iast C hw 4 rfl hi (dc d_X3_add 30 rfl) (fun H locs hw => ?_)
    dsimp only [w_X3, mix, List.set_cons_succ, List.set_cons_zero] at hw
    have hw : Wd D A s.heap (w_X3 cI cC cZ tq0 tq1 tq2 tq3 tq4 t_N t_room (upd t_line t_count.toNatClampNeg x1) (upd t_strength t_count.toNatClampNeg x2) (upd t_water t_count.toNatClampNeg x3) (upd t_back t_count.toNatClampNeg x4) t_count) H locs := hw
    refine lv_aload_n hx hb (dc d_X3_add 31 rfl) rfl (lv_at hl 0 rfl) ?_
    refine lv_dup hx hb (dc d_X3_add 32 rfl) rfl ?_
    refine x_get C hw fl_X3_26 0 rfl rfl (dc d_X3_add 33 rfl) ?_
    refine lv_iconst (v := (1 : Int32)) hx hb (dc d_X3_add 34 rfl) (by decide) ?_
    refine lv_iadd hx hb (dc d_X3_add 35 rfl) ?_
    refine x_put C hw fl_X3_26 fw_X3_5 0 rfl rfl rfl (Nat.le_of_ble_eq_true rfl) (dc d_X3_add 36 rfl) (fun H locs hw => ?_)
    dsimp only [w_X3, mix, List.set_cons_succ, List.set_cons_zero] at hw
    have hw : Wd D A s.heap (w_X3 cI cC cZ tq0 tq1 tq2 tq3 tq4 t_N t_room (upd t_line t_count.toNatClampNeg x1) (upd t_strength t_count.toNatClampNeg x2) (upd t_water t_count.toNatClampNeg x3) (upd t_back t_count.toNatClampNeg x4) (t_count + (1 : Int32))) H locs := hw
    refine lv_iconst (v := (1 : Int32)) hx hb (dc d_X3_add 37 rfl) (by decide) ?_
    cases hf
    exact x_zret C hA hQ hw rfl rfl (by decide) (dc d_X3_add 38 rfl)
  · have hf := g_f hf c1
    refine lv_iconst (v := (0 : Int32)) hx hb (dc d_X3_add 5 rfl) (by decide) ?_
    cases hf
    exact x_zret C hA hQ hw rfl rfl (by decide) (dc d_X3_add 6 rfl)
set_option maxHeartbeats 4000000 in
set_option maxRecDepth 100000 in
theorem k_X2_movePass (n : Nat) {l : Launch} {D : va_G} {cI cC cZ : ClassId} {tq0 tq1 bq0 bq1 bq2 bq3 bq4 : Nat} {t_signs : Nat → Int32} {t_count : Int32} {b_N : Nat} {b_room : Int32} {b_line : Nat → Int32} {b_strength : Nat → Int32} {b_water : Nat → Int32} {b_back : Nat → Int32} {b_count : Int32} {x2 : Int32} {x3 : Int32} {o : (Nat → Int32) × (Nat → Int32) × (Nat → Int32) × (Nat → Int32) × Int32} (hf : f_X2_movePass n t_signs t_count b_N b_room b_line b_strength b_water b_back b_count x2 x3 = some o) : Ctr l yX2_movePass cX2_movePass 8 none 1 24 D cI cC cZ [.ref tq0, .ref bq0, .int x2, .int x3] (w_X2_X3 cI cC cZ tq0 tq1 bq0 bq1 bq2 bq3 bq4 t_signs t_count b_N b_room b_line b_strength b_water b_back b_count) (w_X2_X3 cI cC cZ tq0 tq1 bq0 bq1 bq2 bq3 bq4 t_signs t_count b_N b_room o.1 o.2.1 o.2.2.1 o.2.2.2.1 o.2.2.2.2) none := by
  refine Ctr.of (by decide) (Nat.le_of_ble_eq_true rfl) ?_
  intro p e s m args below meth c ls A Q hA hQ C hl hw
  have hx := C.1
  have hb := C.2.1
  have hl : lv_has ls 8 [(0, .ref tq0), (1, .ref bq0), (2, .int x2), (3, .int x3)] := hl
  have L57 : ∀ (n : Nat), ∀ (b_line : Nat → Int32) (b_strength : Nat → Int32) (b_water : Nat → Int32) (b_back : Nat → Int32) (b_count : Int32) (v2 : Int32) (v3 : Int32) (v4 : Int32) (v5 : Int32) (v6 : Int32) (v7 : Int32) (H : Heap) (locs : List Loc) (ls : Array Slot), Wd D A s.heap (w_X2_X3 cI cC cZ tq0 tq1 bq0 bq1 bq2 bq3 bq4 t_signs t_count b_N b_room b_line b_strength b_water b_back b_count) H locs → lv_has ls 8 [(0, .ref tq0), (1, .ref bq0), (2, .int v2), (3, .int v3), (4, .int v4), (5, .int v5), (6, .int v6), (7, .int v7)] → f_X2_movePass_57 t_signs t_count b_N b_room  n b_line b_strength b_water b_back b_count v2 v3 v4 v5 v6 v7 = some o → W p l e (rmOf 1 24) s m args below meth c H locs 0 0 Q (F0 m 57 ls []) := by
    intro  n
    induction n with
    | zero => intro b_line b_strength b_water b_back b_count v2 v3 v4 v5 v6 v7 H locs ls hw hl hf; exact (no_none hf).elim
    | succ n ih =>
      intro b_line b_strength b_water b_back b_count v2 v3 v4 v5 v6 v7 H locs ls hw hl hf
      have hf : f_X2_movePass_57b t_signs t_count b_N b_room  (f_X2_movePass_57 t_signs t_count b_N b_room  n) n b_line b_strength b_water b_back b_count v2 v3 v4 v5 v6 v7 = some o := hf
      generalize f_X2_movePass_57 t_signs t_count b_N b_room  n = k57 at hf ih
      refine lv_iload hx hb (dc d_X2_movePass 37 rfl) (lv_at hl 7 rfl) ?_
      refine lv_iload_n hx hb (dc d_X2_movePass 38 rfl) rfl (lv_at hl 3 rfl) ?_
      refine lv_icmp_ge (tgt := 90) hx hb (dc d_X2_movePass 39 rfl) (by decide) (fun c6 => ?_) (fun c6 => ?_)
      · have hf := g_t hf c6
        refine lv_aload_n hx hb (dc d_X2_movePass 53 rfl) rfl (lv_at hl 1 rfl) ?_
        refine lv_iload hx hb (dc d_X2_movePass 54 rfl) (lv_at hl 4 rfl) ?_
        refine lv_aload_n hx hb (dc d_X2_movePass 55 rfl) rfl (lv_at hl 0 rfl) ?_
        refine x_get C hw fl_X2_9 0 rfl rfl (dc d_X2_movePass 56 rfl) ?_
        refine lv_iload_n hx hb (dc d_X2_movePass 57 rfl) rfl (lv_at hl 2 rfl) ?_
        refine lv_iconst (v := (2 : Int32)) hx hb (dc d_X2_movePass 58 rfl) (by decide) ?_
        refine lv_iadd hx hb (dc d_X2_movePass 59 rfl) ?_
        have hi := grd_b hf
        have hf := grd_x hf
        refine x_cald C hw 1 rfl hi (dc d_X2_movePass 60 rfl) ?_
        refine lv_bipush (v := (48 : Int32)) hx hb (dc d_X2_movePass 61 rfl) (by decide) ?_
        refine lv_isub hx hb (dc d_X2_movePass 62 rfl) ?_
        refine lv_iload hx hb (dc d_X2_movePass 63 rfl) (lv_at hl 5 rfl) ?_
        refine lv_iload hx hb (dc d_X2_movePass 64 rfl) (lv_at hl 6 rfl) ?_
        obtain ⟨q7, hq7, hf⟩ := g_bd hf
        refine x_callV C hw mb_X3_add mv_X3_add ml_X2_30 (k_X3_add n hq7) hl.1 rfl rfl [2, 3, 4, 5, 6] rfl rfl rfl 2 3 rfl rfl (Nat.le_of_ble_eq_true rfl) (Nat.le_of_ble_eq_true rfl) (Nat.le_of_ble_eq_true rfl) (dc d_X2_movePass 65 rfl) (fun H locs hw => ?_)
        refine W.eq (g2 := F0 m 111 ls [.int q7.1]) rfl ?_
        dsimp only [w_X2_X3, w_X3, mix, List.set_cons_succ, List.set_cons_zero] at hw
        have hw : Wd D A s.heap (w_X2_X3 cI cC cZ tq0 tq1 bq0 bq1 bq2 bq3 bq4 t_signs t_count b_N b_room q7.2.1 q7.2.2.1 q7.2.2.2.1 q7.2.2.2.2.1 q7.2.2.2.2.2) H locs := hw
        refine lv_pop hx hb (dc d_X2_movePass 66 rfl) rfl ?_
        cases hf
        exact x_vret C hA hQ hw rfl rfl (dc d_X2_movePass 67 rfl)
      · have hf := g_f hf c6
        refine lv_aload_n hx hb (dc d_X2_movePass 40 rfl) rfl (lv_at hl 0 rfl) ?_
        refine x_get C hw fl_X2_9 0 rfl rfl (dc d_X2_movePass 41 rfl) ?_
        refine lv_iload hx hb (dc d_X2_movePass 42 rfl) (lv_at hl 7 rfl) ?_
        have hi := grd_b hf
        have hf := grd_x hf
        refine x_cald C hw 1 rfl hi (dc d_X2_movePass 43 rfl) ?_
        refine lv_bipush (v := (119 : Int32)) hx hb (dc d_X2_movePass 44 rfl) (by decide) ?_
        refine lv_icmp_ne (tgt := 81) hx hb (dc d_X2_movePass 45 rfl) (by decide) (fun c8 => ?_) (fun c8 => ?_)
        · have hf := g_f hf c8
          refine lv_iconst (v := (1 : Int32)) hx hb (dc d_X2_movePass 49 rfl) (by decide) ?_
          refine lv_istore (lv' := [(6, .int (1 : Int32)), (0, .ref tq0), (1, .ref bq0), (2, .int v2), (3, .int v3), (4, .int v4), (5, .int v5), (7, .int v7)]) hx hb (dc d_X2_movePass 50 rfl) hl (by decide) rfl (fun ls hl => ?_)
          refine lv_iinc (v := (v7 + (1 : Int32))) (lv' := [(7, .int (v7 + (1 : Int32))), (6, .int (1 : Int32)), (0, .ref tq0), (1, .ref bq0), (2, .int v2), (3, .int v3), (4, .int v4), (5, .int v5)]) hx hb (dc d_X2_movePass 51 rfl) hl (k := 7) rfl (ii (by decide)) (by decide) rfl (fun ls hl => ?_)
          refine lv_goto (tgt := 57) hx hb (dc d_X2_movePass 52 rfl) (by decide) ?_
          exact ih b_line b_strength b_water b_back b_count v2 v3 v4 v5 (1 : Int32) (v7 + (1 : Int32)) _ _ _ hw (lv_sub hl [2, 3, 4, 5, 6, 7, 1, 0] rfl) hf
        · have hf := g_t hf c8
          refine lv_iconst (v := (1 : Int32)) hx hb (dc d_X2_movePass 46 rfl) (by decide) ?_
          refine lv_istore (lv' := [(5, .int (1 : Int32)), (0, .ref tq0), (1, .ref bq0), (2, .int v2), (3, .int v3), (4, .int v4), (6, .int v6), (7, .int v7)]) hx hb (dc d_X2_movePass 47 rfl) hl (by decide) rfl (fun ls hl => ?_)
          refine lv_goto (tgt := 84) hx hb (dc d_X2_movePass 48 rfl) (by decide) ?_
          refine lv_iinc (v := (v7 + (1 : Int32))) (lv' := [(7, .int (v7 + (1 : Int32))), (5, .int (1 : Int32)), (0, .ref tq0), (1, .ref bq0), (2, .int v2), (3, .int v3), (4, .int v4), (6, .int v6)]) hx hb (dc d_X2_movePass 51 rfl) hl (k := 7) rfl (ii (by decide)) (by decide) rfl (fun ls hl => ?_)
          refine lv_goto (tgt := 57) hx hb (dc d_X2_movePass 52 rfl) (by decide) ?_
          exact ih b_line b_strength b_water b_back b_count v2 v3 v4 (1 : Int32) v6 (v7 + (1 : Int32)) _ _ _ hw (lv_sub hl [2, 3, 4, 5, 6, 1, 7, 0] rfl) hf
  have L43 : ∀ (n : Nat), ∀ (b_line : Nat → Int32) (b_strength : Nat → Int32) (b_water : Nat → Int32) (b_back : Nat → Int32) (b_count : Int32) (v2 : Int32) (v3 : Int32) (s0 : Int32) (s1 : Int32) (H : Heap) (locs : List Loc) (ls : Array Slot), Wd D A s.heap (w_X2_X3 cI cC cZ tq0 tq1 bq0 bq1 bq2 bq3 bq4 t_signs t_count b_N b_room b_line b_strength b_water b_back b_count) H locs → lv_has ls 8 [(0, .ref tq0), (1, .ref bq0), (2, .int v2), (3, .int v3)] → f_X2_movePass_43 t_signs t_count b_N b_room  n b_line b_strength b_water b_back b_count v2 v3 s0 s1 = some o → W p l e (rmOf 1 24) s m args below meth c H locs 0 0 Q (F0 m 43 ls [.int s0, .int s1]) := by
    intro  n b_line b_strength b_water b_back b_count v2 v3 s0 s1 H locs ls hw hl hf
    refine lv_iadd hx hb (dc d_X2_movePass 27 rfl) ?_
    refine lv_topi (fun y4 ey4 => ?_)
    have hf := g_nm hf ey4
    refine lv_istore (lv' := [(4, .int y4), (0, .ref tq0), (1, .ref bq0), (2, .int v2), (3, .int v3)]) hx hb (dc d_X2_movePass 28 rfl) hl (by decide) rfl (fun ls hl => ?_)
    refine lv_iconst (v := (0 : Int32)) hx hb (dc d_X2_movePass 29 rfl) (by decide) ?_
    refine lv_istore (lv' := [(5, .int (0 : Int32)), (4, .int y4), (0, .ref tq0), (1, .ref bq0), (2, .int v2), (3, .int v3)]) hx hb (dc d_X2_movePass 30 rfl) hl (by decide) rfl (fun ls hl => ?_)
    refine lv_iconst (v := (0 : Int32)) hx hb (dc d_X2_movePass 31 rfl) (by decide) ?_
    refine lv_istore (lv' := [(6, .int (0 : Int32)), (5, .int (0 : Int32)), (4, .int y4), (0, .ref tq0), (1, .ref bq0), (2, .int v2), (3, .int v3)]) hx hb (dc d_X2_movePass 32 rfl) hl (by decide) rfl (fun ls hl => ?_)
    refine lv_iload_n hx hb (dc d_X2_movePass 33 rfl) rfl (lv_at hl 5 rfl) ?_
    refine lv_iconst (v := (3 : Int32)) hx hb (dc d_X2_movePass 34 rfl) (by decide) ?_
    refine lv_iadd hx hb (dc d_X2_movePass 35 rfl) ?_
    refine lv_topi (fun y5 ey5 => ?_)
    have hf := g_nm hf ey5
    refine lv_istore (lv' := [(7, .int y5), (6, .int (0 : Int32)), (5, .int (0 : Int32)), (4, .int y4), (0, .ref tq0), (1, .ref bq0), (2, .int v2), (3, .int v3)]) hx hb (dc d_X2_movePass 36 rfl) hl (by decide) rfl (fun ls hl => ?_)
    exact L57  n b_line b_strength b_water b_back b_count v2 v3 y4 (0 : Int32) (0 : Int32) y5 _ _ _ hw (lv_sub hl [4, 5, 6, 7, 3, 2, 1, 0] rfl) hf
  refine lv_iload_n hx hb (dc d_X2_movePass 0 rfl) rfl (lv_at hl 3 rfl) ?_
  refine lv_iload_n hx hb (dc d_X2_movePass 1 rfl) rfl (lv_at hl 2 rfl) ?_
  refine lv_isub hx hb (dc d_X2_movePass 2 rfl) ?_
  refine lv_iconst (v := (3 : Int32)) hx hb (dc d_X2_movePass 3 rfl) (by decide) ?_
  refine lv_icmp_lt (tgt := 15) hx hb (dc d_X2_movePass 4 rfl) (by decide) (fun c1 => ?_) (fun c1 => ?_)
  · have hf := g_t hf c1
    cases hf
    exact x_vret C hA hQ hw rfl rfl (dc d_X2_movePass 9 rfl)
  · have hf := g_f hf c1
    refine lv_iload_n hx hb (dc d_X2_movePass 5 rfl) rfl (lv_at hl 3 rfl) ?_
    refine lv_aload_n hx hb (dc d_X2_movePass 6 rfl) rfl (lv_at hl 0 rfl) ?_
    refine x_get C hw fl_X2_15 0 rfl rfl (dc d_X2_movePass 7 rfl) ?_
    refine lv_icmp_le (tgt := 16) hx hb (dc d_X2_movePass 8 rfl) (by decide) (fun c2 => ?_) (fun c2 => ?_)
    · have hf := g_t hf c2
      refine lv_aload_n hx hb (dc d_X2_movePass 10 rfl) rfl (lv_at hl 0 rfl) ?_
      refine x_get C hw fl_X2_9 0 rfl rfl (dc d_X2_movePass 11 rfl) ?_
      refine lv_iload_n hx hb (dc d_X2_movePass 12 rfl) rfl (lv_at hl 2 rfl) ?_
      refine lv_iconst (v := (1 : Int32)) hx hb (dc d_X2_movePass 13 rfl) (by decide) ?_
      refine lv_iadd hx hb (dc d_X2_movePass 14 rfl) ?_
      have hi := grd_b hf
      have hf := grd_x hf
      refine x_cald C hw 1 rfl hi (dc d_X2_movePass 15 rfl) ?_
      refine lv_bipush (v := (49 : Int32)) hx hb (dc d_X2_movePass 16 rfl) (by decide) ?_
      refine lv_isub hx hb (dc d_X2_movePass 17 rfl) ?_
      refine lv_aload_n hx hb (dc d_X2_movePass 18 rfl) rfl (lv_at hl 0 rfl) ?_
      refine x_get C hw fl_X2_9 0 rfl rfl (dc d_X2_movePass 19 rfl) ?_
      refine lv_iload_n hx hb (dc d_X2_movePass 20 rfl) rfl (lv_at hl 2 rfl) ?_
      have hi := grd_b hf
      have hf := grd_x hf
      refine x_cald C hw 1 rfl hi (dc d_X2_movePass 21 rfl) ?_
      refine lv_bipush (v := (104 : Int32)) hx hb (dc d_X2_movePass 22 rfl) (by decide) ?_
      refine lv_icmp_ne (tgt := 42) hx hb (dc d_X2_movePass 23 rfl) (by decide) (fun c3 => ?_) (fun c3 => ?_)
      · have hf := g_f hf c3
        refine lv_iconst (v := (0 : Int32)) hx hb (dc d_X2_movePass 26 rfl) (by decide) ?_
        exact L43  n b_line b_strength b_water b_back b_count x2 x3 (0 : Int32) ((t_signs (x2 + (1 : Int32)).toNatClampNeg) - (49 : Int32)) _ _ _ hw (lv_sub hl [0, 1, 2, 3] rfl) hf
      · have hf := g_t hf c3
        refine lv_iconst (v := (4 : Int32)) hx hb (dc d_X2_movePass 24 rfl) (by decide) ?_
        refine lv_goto (tgt := 43) hx hb (dc d_X2_movePass 25 rfl) (by decide) ?_
        exact L43  n b_line b_strength b_water b_back b_count x2 x3 (4 : Int32) ((t_signs (x2 + (1 : Int32)).toNatClampNeg) - (49 : Int32)) _ _ _ hw (lv_sub hl [0, 1, 2, 3] rfl) hf
    · have hf := g_f hf c2
      cases hf
      exact x_vret C hA hQ hw rfl rfl (dc d_X2_movePass 9 rfl)
set_option maxHeartbeats 4000000 in
set_option maxRecDepth 100000 in
theorem k_X2_moveInto (n : Nat) {l : Launch} {D : va_G} {cI cC cZ : ClassId} {tq0 tq1 bq0 bq1 bq2 bq3 bq4 : Nat} {t_signs : Nat → Int32} {t_count : Int32} {b_N : Nat} {b_room : Int32} {b_line : Nat → Int32} {b_strength : Nat → Int32} {b_water : Nat → Int32} {b_back : Nat → Int32} {b_count : Int32}  {o : Int32 × (Nat → Int32) × (Nat → Int32) × (Nat → Int32) × (Nat → Int32) × Int32} (hf : f_X2_moveInto n t_signs t_count b_N b_room b_line b_strength b_water b_back b_count = some o) : Ctr l yX2_moveInto cX2_moveInto 4 none 2 51 D cI cC cZ [.ref tq0, .ref bq0] (w_X2_X3 cI cC cZ tq0 tq1 bq0 bq1 bq2 bq3 bq4 t_signs t_count b_N b_room b_line b_strength b_water b_back b_count) (w_X2_X3 cI cC cZ tq0 tq1 bq0 bq1 bq2 bq3 bq4 t_signs o.1 b_N b_room o.2.1 o.2.2.1 o.2.2.2.1 o.2.2.2.2.1 o.2.2.2.2.2) none := by
  refine Ctr.of (by decide) (Nat.le_of_ble_eq_true rfl) ?_
  intro p e s m args below meth c ls A Q hA hQ C hl hw
  have hx := C.1
  have hb := C.2.1
  have hl : lv_has ls 4 [(0, .ref tq0), (1, .ref bq0)] := hl
  have L31 : ∀ (k4 : (Int32) → (Nat → Int32) → (Nat → Int32) → (Nat → Int32) → (Nat → Int32) → (Int32) → (Int32) → (Int32) → Option (Int32 × (Nat → Int32) × (Nat → Int32) × (Nat → Int32) × (Nat → Int32) × Int32)), (∀ (t_count : Int32) (b_line : Nat → Int32) (b_strength : Nat → Int32) (b_water : Nat → Int32) (b_back : Nat → Int32) (b_count : Int32) (v2 : Int32) (v3 : Int32) (H : Heap) (locs : List Loc) (ls : Array Slot), Wd D A s.heap (w_X2_X3 cI cC cZ tq0 tq1 bq0 bq1 bq2 bq3 bq4 t_signs t_count b_N b_room b_line b_strength b_water b_back b_count) H locs → lv_has ls 4 [(0, .ref tq0), (1, .ref bq0), (2, .int v2), (3, .int v3)] → k4 t_count b_line b_strength b_water b_back b_count v2 v3 = some o → W p l e (rmOf 2 51) s m args below meth c H locs 0 0 Q (F0 m 4 ls [])) → ∀ (n : Nat), ∀ (t_count : Int32) (b_line : Nat → Int32) (b_strength : Nat → Int32) (b_water : Nat → Int32) (b_back : Nat → Int32) (b_count : Int32) (v2 : Int32) (v3 : Int32) (H : Heap) (locs : List Loc) (ls : Array Slot), Wd D A s.heap (w_X2_X3 cI cC cZ tq0 tq1 bq0 bq1 bq2 bq3 bq4 t_signs t_count b_N b_room b_line b_strength b_water b_back b_count) H locs → lv_has ls 4 [(0, .ref tq0), (1, .ref bq0), (2, .int v2), (3, .int v3)] → f_X2_moveInto_31 t_signs b_N b_room k4 n t_count b_line b_strength b_water b_back b_count v2 v3 = some o → W p l e (rmOf 2 51) s m args below meth c H locs 0 0 Q (F0 m 31 ls []) := by
    intro k4 H4 n t_count b_line b_strength b_water b_back b_count v2 v3 H locs ls hw hl hf
    refine lv_aload_n hx hb (dc d_X2_moveInto 18 rfl) rfl (lv_at hl 0 rfl) ?_
    refine lv_aload_n hx hb (dc d_X2_moveInto 19 rfl) rfl (lv_at hl 1 rfl) ?_
    refine lv_iload_n hx hb (dc d_X2_moveInto 20 rfl) rfl (lv_at hl 2 rfl) ?_
    refine lv_iload_n hx hb (dc d_X2_moveInto 21 rfl) rfl (lv_at hl 3 rfl) ?_
    obtain ⟨q4, hq4, hf⟩ := g_bd hf
    refine x_callVa C hw mb_X2_movePass mv_X2_movePass ml_X2_26 (k_X2_movePass n hq4) hl.1 rfl rfl rfl 0 2 rfl rfl (Nat.le_of_ble_eq_true rfl) (Nat.le_of_ble_eq_true rfl) (Nat.le_of_ble_eq_true rfl) (dc d_X2_moveInto 22 rfl) (fun H locs hw => ?_)
    refine W.eq (g2 := F0 m 38 ls []) rfl ?_
    have hw : Wd D A s.heap (w_X2_X3 cI cC cZ tq0 tq1 bq0 bq1 bq2 bq3 bq4 t_signs t_count b_N b_room q4.1 q4.2.1 q4.2.2.1 q4.2.2.2.1 q4.2.2.2.2) H locs := hw
    refine lv_iload_n hx hb (dc d_X2_moveInto 23 rfl) rfl (lv_at hl 3 rfl) ?_
    refine lv_iconst (v := (1 : Int32)) hx hb (dc d_X2_moveInto 24 rfl) (by decide) ?_
    refine lv_iadd hx hb (dc d_X2_moveInto 25 rfl) ?_
    refine lv_topi (fun y5 ey5 => ?_)
    have hf := g_nm hf ey5
    refine lv_istore_n (lv' := [(2, .int y5), (0, .ref tq0), (1, .ref bq0), (3, .int v3)]) hx hb (dc d_X2_moveInto 26 rfl) rfl hl (by decide) rfl (fun ls hl => ?_)
    refine lv_iinc (v := (v3 + (1 : Int32))) (lv' := [(3, .int (v3 + (1 : Int32))), (2, .int y5), (0, .ref tq0), (1, .ref bq0)]) hx hb (dc d_X2_moveInto 27 rfl) hl (k := 3) rfl (ii (by decide)) (by decide) rfl (fun ls hl => ?_)
    refine lv_goto (tgt := 4) hx hb (dc d_X2_moveInto 28 rfl) (by decide) ?_
    exact H4 t_count q4.1 q4.2.1 q4.2.2.1 q4.2.2.2.1 q4.2.2.2.2 y5 (v3 + (1 : Int32)) _ _ _ hw (lv_sub hl [2, 3, 1, 0] rfl) hf
  have L4 : ∀ (n : Nat), ∀ (t_count : Int32) (b_line : Nat → Int32) (b_strength : Nat → Int32) (b_water : Nat → Int32) (b_back : Nat → Int32) (b_count : Int32) (v2 : Int32) (v3 : Int32) (H : Heap) (locs : List Loc) (ls : Array Slot), Wd D A s.heap (w_X2_X3 cI cC cZ tq0 tq1 bq0 bq1 bq2 bq3 bq4 t_signs t_count b_N b_room b_line b_strength b_water b_back b_count) H locs → lv_has ls 4 [(0, .ref tq0), (1, .ref bq0), (2, .int v2), (3, .int v3)] → f_X2_moveInto_4 t_signs b_N b_room  n t_count b_line b_strength b_water b_back b_count v2 v3 = some o → W p l e (rmOf 2 51) s m args below meth c H locs 0 0 Q (F0 m 4 ls []) := by
    intro  n
    induction n with
    | zero => intro t_count b_line b_strength b_water b_back b_count v2 v3 H locs ls hw hl hf; exact (no_none hf).elim
    | succ n ih =>
      intro t_count b_line b_strength b_water b_back b_count v2 v3 H locs ls hw hl hf
      have hf : f_X2_moveInto_4b t_signs b_N b_room  (f_X2_moveInto_4 t_signs b_N b_room  n) n t_count b_line b_strength b_water b_back b_count v2 v3 = some o := hf
      generalize f_X2_moveInto_4 t_signs b_N b_room  n = k4 at hf ih
      refine lv_iload_n hx hb (dc d_X2_moveInto 4 rfl) rfl (lv_at hl 3 rfl) ?_
      refine lv_aload_n hx hb (dc d_X2_moveInto 5 rfl) rfl (lv_at hl 0 rfl) ?_
      refine x_get C hw fl_X2_15 0 rfl rfl (dc d_X2_moveInto 6 rfl) ?_
      refine lv_icmp_gt (tgt := 48) hx hb (dc d_X2_moveInto 7 rfl) (by decide) (fun c1 => ?_) (fun c1 => ?_)
      · have hf := g_t hf c1
        refine lv_aload_n hx hb (dc d_X2_moveInto 29 rfl) rfl (lv_at hl 0 rfl) ?_
        refine lv_iconst (v := (0 : Int32)) hx hb (dc d_X2_moveInto 30 rfl) (by decide) ?_
        refine x_put C hw fl_X2_15 fw_X2_1 0 rfl rfl rfl (Nat.le_of_ble_eq_true rfl) (dc d_X2_moveInto 31 rfl) (fun H locs hw => ?_)
        dsimp only [w_X2_X3, mix, List.set_cons_succ, List.set_cons_zero] at hw
        have hw : Wd D A s.heap (w_X2_X3 cI cC cZ tq0 tq1 bq0 bq1 bq2 bq3 bq4 t_signs (0 : Int32) b_N b_room b_line b_strength b_water b_back b_count) H locs := hw
        cases hf
        exact x_vret C hA hQ hw rfl rfl (dc d_X2_moveInto 32 rfl)
      · have hf := g_f hf c1
        refine lv_iload_n hx hb (dc d_X2_moveInto 8 rfl) rfl (lv_at hl 3 rfl) ?_
        refine lv_aload_n hx hb (dc d_X2_moveInto 9 rfl) rfl (lv_at hl 0 rfl) ?_
        refine x_get C hw fl_X2_15 0 rfl rfl (dc d_X2_moveInto 10 rfl) ?_
        refine lv_icmp_eq (tgt := 31) hx hb (dc d_X2_moveInto 11 rfl) (by decide) (fun c2 => ?_) (fun c2 => ?_)
        · have hf := g_t hf c2
          exact L31 k4 ih n t_count b_line b_strength b_water b_back b_count v2 v3 _ _ _ hw (lv_sub hl [0, 1, 2, 3] rfl) hf
        · have hf := g_f hf c2
          refine lv_aload_n hx hb (dc d_X2_moveInto 12 rfl) rfl (lv_at hl 0 rfl) ?_
          refine x_get C hw fl_X2_9 0 rfl rfl (dc d_X2_moveInto 13 rfl) ?_
          refine lv_iload_n hx hb (dc d_X2_moveInto 14 rfl) rfl (lv_at hl 3 rfl) ?_
          have hi := grd_b hf
          have hf := grd_x hf
          refine x_cald C hw 1 rfl hi (dc d_X2_moveInto 15 rfl) ?_
          refine lv_bipush (v := (59 : Int32)) hx hb (dc d_X2_moveInto 16 rfl) (by decide) ?_
          refine lv_icmp_ne (tgt := 42) hx hb (dc d_X2_moveInto 17 rfl) (by decide) (fun c3 => ?_) (fun c3 => ?_)
          · have hf := g_f hf c3
            refine lv_iinc (v := (v3 + (1 : Int32))) (lv' := [(3, .int (v3 + (1 : Int32))), (0, .ref tq0), (1, .ref bq0), (2, .int v2)]) hx hb (dc d_X2_moveInto 27 rfl) hl (k := 3) rfl (ii (by decide)) (by decide) rfl (fun ls hl => ?_)
            refine lv_goto (tgt := 4) hx hb (dc d_X2_moveInto 28 rfl) (by decide) ?_
            exact ih t_count b_line b_strength b_water b_back b_count v2 (v3 + (1 : Int32)) _ _ _ hw (lv_sub hl [1, 2, 3, 0] rfl) hf
          · have hf := g_t hf c3
            exact L31 k4 ih n t_count b_line b_strength b_water b_back b_count v2 v3 _ _ _ hw (lv_sub hl [0, 1, 2, 3] rfl) hf
  refine lv_iconst (v := (0 : Int32)) hx hb (dc d_X2_moveInto 0 rfl) (by decide) ?_
  refine lv_istore_n (lv' := [(2, .int (0 : Int32)), (0, .ref tq0), (1, .ref bq0)]) hx hb (dc d_X2_moveInto 1 rfl) rfl hl (by decide) rfl (fun ls hl => ?_)
  refine lv_iconst (v := (0 : Int32)) hx hb (dc d_X2_moveInto 2 rfl) (by decide) ?_
  refine lv_istore_n (lv' := [(3, .int (0 : Int32)), (2, .int (0 : Int32)), (0, .ref tq0), (1, .ref bq0)]) hx hb (dc d_X2_moveInto 3 rfl) rfl hl (by decide) rfl (fun ls hl => ?_)
  exact L4  n t_count b_line b_strength b_water b_back b_count (0 : Int32) (0 : Int32) _ _ _ hw (lv_sub hl [2, 3, 1, 0] rfl) hf
set_option maxHeartbeats 4000000 in
set_option maxRecDepth 100000 in
theorem k_X3_time (n : Nat) {l : Launch} {D : va_G} {cI cC cZ : ClassId} {tq0 tq1 tq2 tq3 tq4 : Nat} {t_N : Nat} {t_room : Int32} {t_line : Nat → Int32} {t_strength : Nat → Int32} {t_water : Nat → Int32} {t_back : Nat → Int32} {t_count : Int32} {x1 : Int32} {o : Int32} (hf : f_X3_time n t_N t_strength t_water x1 = some o) : Ctr l yX3_time cX3_time 2 (some .int) 0 0 D cI cC cZ [.ref tq0, .int x1] (w_X3 cI cC cZ tq0 tq1 tq2 tq3 tq4 t_N t_room t_line t_strength t_water t_back t_count) (w_X3 cI cC cZ tq0 tq1 tq2 tq3 tq4 t_N t_room t_line t_strength t_water t_back t_count) (some (.int o)) := by
  refine Ctr.of (by decide) (Nat.le_of_ble_eq_true rfl) ?_
  intro p e s m args below meth c ls A Q hA hQ C hl hw
  have hx := C.1
  have hb := C.2.1
  have hl : lv_has ls 2 [(0, .ref tq0), (1, .int x1)] := hl
  refine lv_bipush (v := (10 : Int32)) hx hb (dc d_X3_time 0 rfl) (by decide) ?_
  refine lv_aload_n hx hb (dc d_X3_time 1 rfl) rfl (lv_at hl 0 rfl) ?_
  refine x_get C hw fl_X3_17 0 rfl rfl (dc d_X3_time 2 rfl) ?_
  refine lv_iload_n hx hb (dc d_X3_time 3 rfl) rfl (lv_at hl 1 rfl) ?_
  have hi := grd_b hf
  have hf := grd_x hf
  refine x_iald C hw 2 rfl hi (dc d_X3_time 4 rfl) ?_
  refine lv_isub hx hb (dc d_X3_time 5 rfl) ?_
  refine lv_iconst (v := (3 : Int32)) hx hb (dc d_X3_time 6 rfl) (by decide) ?_
  refine lv_aload_n hx hb (dc d_X3_time 7 rfl) rfl (lv_at hl 0 rfl) ?_
  refine x_get C hw fl_X3_20 0 rfl rfl (dc d_X3_time 8 rfl) ?_
  refine lv_iload_n hx hb (dc d_X3_time 9 rfl) rfl (lv_at hl 1 rfl) ?_
  have hi := grd_b hf
  have hf := grd_x hf
  refine x_iald C hw 3 rfl hi (dc d_X3_time 10 rfl) ?_
  refine lv_imul hx hb (dc d_X3_time 11 rfl) ?_
  refine lv_iadd hx hb (dc d_X3_time 12 rfl) ?_
  cases hf
  exact x_iret C hA hQ hw rfl rfl (dc d_X3_time 13 rfl)
set_option maxHeartbeats 4000000 in
set_option maxRecDepth 100000 in
theorem k_J6_bitCount_0f7a4 (n : Nat) {l : Launch} {D : va_G} {cI cC cZ : ClassId}   {x0 : Int32} {o : Int32} (hf : f_J6_bitCount_0f7a4 n x0 = some o) : Ctr l yJ6_bitCount_0f7a4 cJ6_bitCount_0f7a4 1 (some .int) 0 0 D cI cC cZ [.int x0] [] [] (some (.int o)) := by
  refine Ctr.of (by decide) (Nat.le_of_ble_eq_true rfl) ?_
  intro p e s m args below meth c ls A Q hA hQ C hl hw
  have hx := C.1
  have hb := C.2.1
  have hl : lv_has ls 1 [(0, .int x0)] := hl
  refine lv_iload_n hx hb (dc d_J6_bitCount_0f7a4 0 rfl) rfl (lv_at hl 0 rfl) ?_
  refine lv_iload_n hx hb (dc d_J6_bitCount_0f7a4 1 rfl) rfl (lv_at hl 0 rfl) ?_
  refine lv_iconst (v := (1 : Int32)) hx hb (dc d_J6_bitCount_0f7a4 2 rfl) (by decide) ?_
  refine x_ushr hx hb (dc d_J6_bitCount_0f7a4 3 rfl) ?_
  refine x_ldcw (v := (1431655765 : Int32)) C cn_J6_265 (dc d_J6_bitCount_0f7a4 4 rfl) ?_
  refine lv_iand hx hb (dc d_J6_bitCount_0f7a4 5 rfl) ?_
  refine lv_isub hx hb (dc d_J6_bitCount_0f7a4 6 rfl) ?_
  refine lv_topi (fun y1 ey1 => ?_)
  have hf := g_nm hf ey1
  refine lv_istore_n (lv' := [(0, .int y1)]) hx hb (dc d_J6_bitCount_0f7a4 7 rfl) rfl hl (by decide) rfl (fun ls hl => ?_)
  refine lv_iload_n hx hb (dc d_J6_bitCount_0f7a4 8 rfl) rfl (lv_at hl 0 rfl) ?_
  refine x_ldcw (v := (858993459 : Int32)) C cn_J6_266 (dc d_J6_bitCount_0f7a4 9 rfl) ?_
  refine lv_iand hx hb (dc d_J6_bitCount_0f7a4 10 rfl) ?_
  refine lv_iload_n hx hb (dc d_J6_bitCount_0f7a4 11 rfl) rfl (lv_at hl 0 rfl) ?_
  refine lv_iconst (v := (2 : Int32)) hx hb (dc d_J6_bitCount_0f7a4 12 rfl) (by decide) ?_
  refine x_ushr hx hb (dc d_J6_bitCount_0f7a4 13 rfl) ?_
  refine x_ldcw (v := (858993459 : Int32)) C cn_J6_266 (dc d_J6_bitCount_0f7a4 14 rfl) ?_
  refine lv_iand hx hb (dc d_J6_bitCount_0f7a4 15 rfl) ?_
  refine lv_iadd hx hb (dc d_J6_bitCount_0f7a4 16 rfl) ?_
  refine lv_topi (fun y2 ey2 => ?_)
  have hf := g_nm hf ey2
  refine lv_istore_n (lv' := [(0, .int y2)]) hx hb (dc d_J6_bitCount_0f7a4 17 rfl) rfl hl (by decide) rfl (fun ls hl => ?_)
  refine lv_iload_n hx hb (dc d_J6_bitCount_0f7a4 18 rfl) rfl (lv_at hl 0 rfl) ?_
  refine lv_iload_n hx hb (dc d_J6_bitCount_0f7a4 19 rfl) rfl (lv_at hl 0 rfl) ?_
  refine lv_iconst (v := (4 : Int32)) hx hb (dc d_J6_bitCount_0f7a4 20 rfl) (by decide) ?_
  refine x_ushr hx hb (dc d_J6_bitCount_0f7a4 21 rfl) ?_
  refine lv_iadd hx hb (dc d_J6_bitCount_0f7a4 22 rfl) ?_
  refine x_ldcw (v := (252645135 : Int32)) C cn_J6_267 (dc d_J6_bitCount_0f7a4 23 rfl) ?_
  refine lv_iand hx hb (dc d_J6_bitCount_0f7a4 24 rfl) ?_
  refine lv_topi (fun y3 ey3 => ?_)
  have hf := g_nm hf ey3
  refine lv_istore_n (lv' := [(0, .int y3)]) hx hb (dc d_J6_bitCount_0f7a4 25 rfl) rfl hl (by decide) rfl (fun ls hl => ?_)
  refine lv_iload_n hx hb (dc d_J6_bitCount_0f7a4 26 rfl) rfl (lv_at hl 0 rfl) ?_
  refine lv_iload_n hx hb (dc d_J6_bitCount_0f7a4 27 rfl) rfl (lv_at hl 0 rfl) ?_
  refine lv_bipush (v := (8 : Int32)) hx hb (dc d_J6_bitCount_0f7a4 28 rfl) (by decide) ?_
  refine x_ushr hx hb (dc d_J6_bitCount_0f7a4 29 rfl) ?_
  refine lv_iadd hx hb (dc d_J6_bitCount_0f7a4 30 rfl) ?_
  refine lv_topi (fun y4 ey4 => ?_)
  have hf := g_nm hf ey4
  refine lv_istore_n (lv' := [(0, .int y4)]) hx hb (dc d_J6_bitCount_0f7a4 31 rfl) rfl hl (by decide) rfl (fun ls hl => ?_)
  refine lv_iload_n hx hb (dc d_J6_bitCount_0f7a4 32 rfl) rfl (lv_at hl 0 rfl) ?_
  refine lv_iload_n hx hb (dc d_J6_bitCount_0f7a4 33 rfl) rfl (lv_at hl 0 rfl) ?_
  refine lv_bipush (v := (16 : Int32)) hx hb (dc d_J6_bitCount_0f7a4 34 rfl) (by decide) ?_
  refine x_ushr hx hb (dc d_J6_bitCount_0f7a4 35 rfl) ?_
  refine lv_iadd hx hb (dc d_J6_bitCount_0f7a4 36 rfl) ?_
  refine lv_topi (fun y5 ey5 => ?_)
  have hf := g_nm hf ey5
  refine lv_istore_n (lv' := [(0, .int y5)]) hx hb (dc d_J6_bitCount_0f7a4 37 rfl) rfl hl (by decide) rfl (fun ls hl => ?_)
  refine lv_iload_n hx hb (dc d_J6_bitCount_0f7a4 38 rfl) rfl (lv_at hl 0 rfl) ?_
  refine lv_bipush (v := (63 : Int32)) hx hb (dc d_J6_bitCount_0f7a4 39 rfl) (by decide) ?_
  refine lv_iand hx hb (dc d_J6_bitCount_0f7a4 40 rfl) ?_
  cases hf
  exact x_iret C hA hQ hw rfl rfl (dc d_J6_bitCount_0f7a4 41 rfl)
set_option maxHeartbeats 4000000 in
set_option maxRecDepth 100000 in
theorem k_X6_becomeLike (n : Nat) {l : Launch} {D : va_G} {cI cC cZ : ClassId} {tq0 tq1 tq2 tq3 tq4 bq0 bq1 bq2 bq3 bq4 : Nat} {t_bends : Nat → Int32} {t_laid : Nat → Int32} {t_across : Nat → Int32} {t_along : Nat → Int32} {b_bends : Nat → Int32} {b_laid : Nat → Int32} {b_across : Nat → Int32} {b_along : Nat → Int32}  {o : (Nat → Int32) × (Nat → Int32)} (hf : f_X6_becomeLike n t_bends t_laid b_bends b_laid = some o) : Ctr l yX6_becomeLike cX6_becomeLike 2 none 1 60 D cI cC cZ [.ref tq0, .ref bq0] (w_X6_X6 cI cC cZ tq0 tq1 tq2 tq3 tq4 bq0 bq1 bq2 bq3 bq4 t_bends t_laid t_across t_along b_bends b_laid b_across b_along) (w_X6_X6 cI cC cZ tq0 tq1 tq2 tq3 tq4 bq0 bq1 bq2 bq3 bq4 o.1 o.2 t_across t_along b_bends b_laid b_across b_along) none := by
  refine Ctr.of (by decide) (Nat.le_of_ble_eq_true rfl) ?_
  intro p e s m args below meth c ls A Q hA hQ C hl hw
  have hx := C.1
  have hb := C.2.1
  have hl : lv_has ls 2 [(0, .ref tq0), (1, .ref bq0)] := hl
  refine lv_aload_n hx hb (dc d_X6_becomeLike 0 rfl) rfl (lv_at hl 1 rfl) ?_
  refine x_get C hw fl_X6_9 5 rfl rfl (dc d_X6_becomeLike 1 rfl) ?_
  refine lv_iconst (v := (0 : Int32)) hx hb (dc d_X6_becomeLike 2 rfl) (by decide) ?_
  refine lv_aload_n hx hb (dc d_X6_becomeLike 3 rfl) rfl (lv_at hl 0 rfl) ?_
  refine x_get C hw fl_X6_9 0 rfl rfl (dc d_X6_becomeLike 4 rfl) ?_
  refine lv_iconst (v := (0 : Int32)) hx hb (dc d_X6_becomeLike 5 rfl) (by decide) ?_
  refine lv_bipush (v := (8 : Int32)) hx hb (dc d_X6_becomeLike 6 rfl) (by decide) ?_
  refine x_copy C hw hl.1 ml_X6_34 nt_copy ms_arraycopyName in_java_lang_System 6 1 rfl rfl (by decide) (Nat.le_of_ble_eq_true rfl) (Nat.le_of_ble_eq_true rfl) (dc d_X6_becomeLike 7 rfl) (fun H locs hw => ?_)
  dsimp only [w_X6_X6, mix, List.set_cons_succ, List.set_cons_zero] at hw
  have hw : Wd D A s.heap (w_X6_X6 cI cC cZ tq0 tq1 tq2 tq3 tq4 bq0 bq1 bq2 bq3 bq4 (va_cpy b_bends t_bends 0 0 (8 : Int32).toNatClampNeg) t_laid t_across t_along b_bends b_laid b_across b_along) H locs := hw
  refine lv_aload_n hx hb (dc d_X6_becomeLike 8 rfl) rfl (lv_at hl 1 rfl) ?_
  refine x_get C hw fl_X6_15 5 rfl rfl (dc d_X6_becomeLike 9 rfl) ?_
  refine lv_iconst (v := (0 : Int32)) hx hb (dc d_X6_becomeLike 10 rfl) (by decide) ?_
  refine lv_aload_n hx hb (dc d_X6_becomeLike 11 rfl) rfl (lv_at hl 0 rfl) ?_
  refine x_get C hw fl_X6_15 0 rfl rfl (dc d_X6_becomeLike 12 rfl) ?_
  refine lv_iconst (v := (0 : Int32)) hx hb (dc d_X6_becomeLike 13 rfl) (by decide) ?_
  refine lv_bipush (v := (8 : Int32)) hx hb (dc d_X6_becomeLike 14 rfl) (by decide) ?_
  refine x_copy C hw hl.1 ml_X6_34 nt_copy ms_arraycopyName in_java_lang_System 7 2 rfl rfl (by decide) (Nat.le_of_ble_eq_true rfl) (Nat.le_of_ble_eq_true rfl) (dc d_X6_becomeLike 15 rfl) (fun H locs hw => ?_)
  dsimp only [w_X6_X6, mix, List.set_cons_succ, List.set_cons_zero] at hw
  have hw : Wd D A s.heap (w_X6_X6 cI cC cZ tq0 tq1 tq2 tq3 tq4 bq0 bq1 bq2 bq3 bq4 (va_cpy b_bends t_bends 0 0 (8 : Int32).toNatClampNeg) (va_cpy b_laid t_laid 0 0 (8 : Int32).toNatClampNeg) t_across t_along b_bends b_laid b_across b_along) H locs := hw
  cases hf
  exact x_vret C hA hQ hw rfl rfl (dc d_X6_becomeLike 16 rfl)
set_option maxHeartbeats 4000000 in
set_option maxRecDepth 100000 in
theorem k_X5_tableOf (n : Nat) {l : Launch} {D : va_G} {cI cC cZ : ClassId} {tq0 tq1 tq2 : Nat} {t_settings : Nat → Int32} {t_numbers : Nat → Int32} {x1 : Int32} {x2 : Int32} {o : Int32} (hf : f_X5_tableOf n t_numbers x1 x2 = some o) : Ctr l yX5_tableOf cX5_tableOf 3 (some .int) 0 0 D cI cC cZ [.ref tq0, .int x1, .int x2] (w_X5 cI cC cZ tq0 tq1 tq2 t_settings t_numbers) (w_X5 cI cC cZ tq0 tq1 tq2 t_settings t_numbers) (some (.int o)) := by
  refine Ctr.of (by decide) (Nat.le_of_ble_eq_true rfl) ?_
  intro p e s m args below meth c ls A Q hA hQ C hl hw
  have hx := C.1
  have hb := C.2.1
  have hl : lv_has ls 3 [(0, .ref tq0), (1, .int x1), (2, .int x2)] := hl
  refine lv_aload_n hx hb (dc d_X5_tableOf 0 rfl) rfl (lv_at hl 0 rfl) ?_
  refine x_get C hw fl_X5_15 0 rfl rfl (dc d_X5_tableOf 1 rfl) ?_
  refine lv_iconst (v := (2 : Int32)) hx hb (dc d_X5_tableOf 2 rfl) (by decide) ?_
  refine lv_iload_n hx hb (dc d_X5_tableOf 3 rfl) rfl (lv_at hl 1 rfl) ?_
  refine lv_iconst (v := (1 : Int32)) hx hb (dc d_X5_tableOf 4 rfl) (by decide) ?_
  refine lv_isub hx hb (dc d_X5_tableOf 5 rfl) ?_
  refine lv_imul hx hb (dc d_X5_tableOf 6 rfl) ?_
  refine lv_iload_n hx hb (dc d_X5_tableOf 7 rfl) rfl (lv_at hl 2 rfl) ?_
  refine lv_iadd hx hb (dc d_X5_tableOf 8 rfl) ?_
  have hi := grd_b hf
  have hf := grd_x hf
  refine x_iald C hw 2 rfl hi (dc d_X5_tableOf 9 rfl) ?_
  cases hf
  exact x_iret C hA hQ hw rfl rfl (dc d_X5_tableOf 10 rfl)
