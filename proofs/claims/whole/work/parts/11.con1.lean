/-! Written by wip/gen/all.py. -/
set_option maxHeartbeats 4000000 in
set_option maxRecDepth 100000 in
theorem k_X6_partOn (n : Nat) {l : Launch} {D : va_G} {cI cC cZ : ClassId} {tq0 tq1 tq2 tq3 tq4 cq0 cq1 cq2 : Nat} {t_bends : Nat → Int32} {t_laid : Nat → Int32} {t_across : Nat → Int32} {t_along : Nat → Int32} {c_settings : Nat → Int32} {c_numbers : Nat → Int32} {x1 : Int32} {o : Int32} (hf : f_X6_partOn n t_laid c_settings x1 = some o) : Ctr l yX6_partOn cX6_partOn 8 (some .int) 1 21 D cI cC cZ [.ref tq0, .int x1, .ref cq0] (w_X6_X5 cI cC cZ tq0 tq1 tq2 tq3 tq4 cq0 cq1 cq2 t_bends t_laid t_across t_along c_settings c_numbers) (w_X6_X5 cI cC cZ tq0 tq1 tq2 tq3 tq4 cq0 cq1 cq2 t_bends t_laid t_across t_along c_settings c_numbers) (some (.int o)) := by
  refine Ctr.of (by decide) (Nat.le_of_ble_eq_true rfl) ?_
  intro p e s m args below meth c ls A Q hA hQ C hl hw
  have hx := C.1
  have hb := C.2.1
  have hl : lv_has ls 8 [(0, .ref tq0), (1, .int x1), (2, .ref cq0)] := hl
  have L98 : ∀ (n : Nat), ∀ (v1 : Int32) (v5 : Int32) (v6 : Int32) (H : Heap) (locs : List Loc) (ls : Array Slot), Wd D A s.heap (w_X6_X5 cI cC cZ tq0 tq1 tq2 tq3 tq4 cq0 cq1 cq2 t_bends t_laid t_across t_along c_settings c_numbers) H locs → lv_has ls 8 [(0, .ref tq0), (1, .int v1), (2, .ref cq0), (5, .int v5), (6, .int v6)] → f_X6_partOn_98 t_laid c_settings  n v1 v5 v6 = some o → W p l e (rmOf 1 21) s m args below meth c H locs 0 0 Q (F0 m 98 ls []) := by
    intro  n v1 v5 v6 H locs ls hw hl hf
    refine lv_bipush (v := (100 : Int32)) hx hb (dc d_X6_partOn 67 rfl) (by decide) ?_
    refine lv_aload_n hx hb (dc d_X6_partOn 68 rfl) rfl (lv_at hl 2 rfl) ?_
    refine x_get C hw fl_X6_68 5 rfl rfl (dc d_X6_partOn 69 rfl) ?_
    refine lv_iconst (v := (0 : Int32)) hx hb (dc d_X6_partOn 70 rfl) (by decide) ?_
    refine x_iald C hw 6 rfl (by decide) (dc d_X6_partOn 71 rfl) ?_
    refine lv_iload hx hb (dc d_X6_partOn 72 rfl) (lv_at hl 3 rfl) ?_
    refine lv_imul hx hb (dc d_X6_partOn 73 rfl) ?_
    refine lv_isub hx hb (dc d_X6_partOn 74 rfl) ?_
    refine lv_aload_n hx hb (dc d_X6_partOn 75 rfl) rfl (lv_at hl 2 rfl) ?_
    refine x_get C hw fl_X6_68 5 rfl rfl (dc d_X6_partOn 76 rfl) ?_
    refine lv_iconst (v := (1 : Int32)) hx hb (dc d_X6_partOn 77 rfl) (by decide) ?_
    refine x_iald C hw 6 rfl (by decide) (dc d_X6_partOn 78 rfl) ?_
    refine lv_iload hx hb (dc d_X6_partOn 79 rfl) (lv_at hl 4 rfl) ?_
    refine lv_imul hx hb (dc d_X6_partOn 80 rfl) ?_
    refine lv_isub hx hb (dc d_X6_partOn 81 rfl) ?_
    refine lv_aload_n hx hb (dc d_X6_partOn 82 rfl) rfl (lv_at hl 2 rfl) ?_
    refine x_get C hw fl_X6_68 5 rfl rfl (dc d_X6_partOn 83 rfl) ?_
    refine lv_iconst (v := (2 : Int32)) hx hb (dc d_X6_partOn 84 rfl) (by decide) ?_
    refine x_iald C hw 6 rfl (by decide) (dc d_X6_partOn 85 rfl) ?_
    refine lv_aload_n hx hb (dc d_X6_partOn 86 rfl) rfl (lv_at hl 0 rfl) ?_
    refine x_get C hw fl_X6_15 0 rfl rfl (dc d_X6_partOn 87 rfl) ?_
    refine lv_iload_n hx hb (dc d_X6_partOn 88 rfl) rfl (lv_at hl 1 rfl) ?_
    have hi := grd_b hf
    have hf := grd_x hf
    refine x_iald C hw 2 rfl hi (dc d_X6_partOn 89 rfl) ?_
    refine lv_imul hx hb (dc d_X6_partOn 90 rfl) ?_
    refine lv_isub hx hb (dc d_X6_partOn 91 rfl) ?_
    refine lv_topi (fun y8 ey8 => ?_)
    have hf := g_nm hf ey8
    refine lv_istore (lv' := [(7, .int y8), (0, .ref tq0), (1, .int v1), (2, .ref cq0), (5, .int v5), (6, .int v6)]) hx hb (dc d_X6_partOn 92 rfl) hl (by decide) rfl (fun ls hl => ?_)
    refine lv_iload hx hb (dc d_X6_partOn 93 rfl) (lv_at hl 0 rfl) ?_
    refine lv_iconst (v := (0 : Int32)) hx hb (dc d_X6_partOn 94 rfl) (by decide) ?_
    refine x_max C hl.1 ml_X6_71 ms_J9_max_7cf53 in_java_lang_Math cd_Lib_Math_max (Nat.le_of_ble_eq_true rfl) (Nat.le_of_ble_eq_true rfl) (dc d_X6_partOn 95 rfl) ?_
    cases hf
    exact x_iret C hA hQ hw rfl rfl (dc d_X6_partOn 96 rfl)
  have L76 : ∀ (n : Nat), ∀ (v1 : Int32) (v3 : Int32) (v5 : Int32) (v6 : Int32) (H : Heap) (locs : List Loc) (ls : Array Slot), Wd D A s.heap (w_X6_X5 cI cC cZ tq0 tq1 tq2 tq3 tq4 cq0 cq1 cq2 t_bends t_laid t_across t_along c_settings c_numbers) H locs → lv_has ls 8 [(0, .ref tq0), (1, .int v1), (2, .ref cq0), (3, .int v3), (5, .int v5), (6, .int v6)] → f_X6_partOn_76 t_laid c_settings  n v1 v3 v5 v6 = some o → W p l e (rmOf 1 21) s m args below meth c H locs 0 0 Q (F0 m 76 ls []) := by
    intro  n v1 v3 v5 v6 H locs ls hw hl hf
    refine lv_iload_n hx hb (dc d_X6_partOn 51 rfl) rfl (lv_at hl 1 rfl) ?_
    refine lv_iload_n hx hb (dc d_X6_partOn 52 rfl) rfl (lv_at hl 3 rfl) ?_
    refine lv_iconst (v := (4 : Int32)) hx hb (dc d_X6_partOn 53 rfl) (by decide) ?_
    refine lv_iadd hx hb (dc d_X6_partOn 54 rfl) ?_
    refine lv_iconst (v := (1 : Int32)) hx hb (dc d_X6_partOn 55 rfl) (by decide) ?_
    refine lv_isub hx hb (dc d_X6_partOn 56 rfl) ?_
    refine lv_icmp_ge (tgt := 98) hx hb (dc d_X6_partOn 57 rfl) (by decide) (fun c6 => ?_) (fun c6 => ?_)
    · have hf := g_t hf c6
      exact L98  n v1 v5 v6 _ _ _ hw (lv_sub hl [0, 1, 2, 4, 5] rfl) hf
    · have hf := g_f hf c6
      refine lv_iload hx hb (dc d_X6_partOn 58 rfl) (lv_at hl 5 rfl) ?_
      refine lv_aload_n hx hb (dc d_X6_partOn 59 rfl) rfl (lv_at hl 0 rfl) ?_
      refine x_get C hw fl_X6_15 0 rfl rfl (dc d_X6_partOn 60 rfl) ?_
      refine lv_iload_n hx hb (dc d_X6_partOn 61 rfl) rfl (lv_at hl 1 rfl) ?_
      refine lv_iconst (v := (1 : Int32)) hx hb (dc d_X6_partOn 62 rfl) (by decide) ?_
      refine lv_iadd hx hb (dc d_X6_partOn 63 rfl) ?_
      have hi := grd_b hf
      have hf := grd_x hf
      refine x_iald C hw 2 rfl hi (dc d_X6_partOn 64 rfl) ?_
      refine lv_iadd hx hb (dc d_X6_partOn 65 rfl) ?_
      refine lv_topi (fun y7 ey7 => ?_)
      have hf := g_nm hf ey7
      refine lv_istore (lv' := [(6, .int y7), (0, .ref tq0), (1, .int v1), (2, .ref cq0), (3, .int v3), (5, .int v5)]) hx hb (dc d_X6_partOn 66 rfl) hl (by decide) rfl (fun ls hl => ?_)
      exact L98  n v1 v5 y7 _ _ _ hw (lv_sub hl [1, 2, 3, 5, 0] rfl) hf
  have L10 : ∀ (n : Nat), ∀ (v1 : Int32) (s0 : Int32) (H : Heap) (locs : List Loc) (ls : Array Slot), Wd D A s.heap (w_X6_X5 cI cC cZ tq0 tq1 tq2 tq3 tq4 cq0 cq1 cq2 t_bends t_laid t_across t_along c_settings c_numbers) H locs → lv_has ls 8 [(0, .ref tq0), (1, .int v1), (2, .ref cq0)] → f_X6_partOn_10 t_laid c_settings  n v1 s0 = some o → W p l e (rmOf 1 21) s m args below meth c H locs 0 0 Q (F0 m 10 ls [.int s0]) := by
    intro  n v1 s0 H locs ls hw hl hf
    refine lv_istore_n (lv' := [(3, .int s0), (0, .ref tq0), (1, .int v1), (2, .ref cq0)]) hx hb (dc d_X6_partOn 6 rfl) rfl hl (by decide) rfl (fun ls hl => ?_)
    refine lv_iconst (v := (4 : Int32)) hx hb (dc d_X6_partOn 7 rfl) (by decide) ?_
    refine lv_iload_n hx hb (dc d_X6_partOn 8 rfl) rfl (lv_at hl 0 rfl) ?_
    refine lv_isub hx hb (dc d_X6_partOn 9 rfl) ?_
    refine lv_topi (fun y2 ey2 => ?_)
    have hf := g_nm hf ey2
    refine lv_istore (lv' := [(4, .int y2), (3, .int s0), (0, .ref tq0), (1, .int v1), (2, .ref cq0)]) hx hb (dc d_X6_partOn 10 rfl) hl (by decide) rfl (fun ls hl => ?_)
    refine lv_aload_n hx hb (dc d_X6_partOn 11 rfl) rfl (lv_at hl 2 rfl) ?_
    refine x_get C hw fl_X6_15 0 rfl rfl (dc d_X6_partOn 12 rfl) ?_
    refine lv_iload hx hb (dc d_X6_partOn 13 rfl) (lv_at hl 0 rfl) ?_
    have hi := grd_b hf
    have hf := grd_x hf
    refine x_iald C hw 2 rfl hi (dc d_X6_partOn 14 rfl) ?_
    refine lv_aload_n hx hb (dc d_X6_partOn 15 rfl) rfl (lv_at hl 2 rfl) ?_
    refine x_get C hw fl_X6_15 0 rfl rfl (dc d_X6_partOn 16 rfl) ?_
    refine lv_iload hx hb (dc d_X6_partOn 17 rfl) (lv_at hl 0 rfl) ?_
    refine lv_iconst (v := (1 : Int32)) hx hb (dc d_X6_partOn 18 rfl) (by decide) ?_
    refine lv_iadd hx hb (dc d_X6_partOn 19 rfl) ?_
    have hi := grd_b hf
    have hf := grd_x hf
    refine x_iald C hw 2 rfl hi (dc d_X6_partOn 20 rfl) ?_
    refine lv_iadd hx hb (dc d_X6_partOn 21 rfl) ?_
    refine lv_aload_n hx hb (dc d_X6_partOn 22 rfl) rfl (lv_at hl 2 rfl) ?_
    refine x_get C hw fl_X6_15 0 rfl rfl (dc d_X6_partOn 23 rfl) ?_
    refine lv_iload hx hb (dc d_X6_partOn 24 rfl) (lv_at hl 0 rfl) ?_
    refine lv_iconst (v := (2 : Int32)) hx hb (dc d_X6_partOn 25 rfl) (by decide) ?_
    refine lv_iadd hx hb (dc d_X6_partOn 26 rfl) ?_
    have hi := grd_b hf
    have hf := grd_x hf
    refine x_iald C hw 2 rfl hi (dc d_X6_partOn 27 rfl) ?_
    refine lv_iadd hx hb (dc d_X6_partOn 28 rfl) ?_
    refine lv_aload_n hx hb (dc d_X6_partOn 29 rfl) rfl (lv_at hl 2 rfl) ?_
    refine x_get C hw fl_X6_15 0 rfl rfl (dc d_X6_partOn 30 rfl) ?_
    refine lv_iload hx hb (dc d_X6_partOn 31 rfl) (lv_at hl 0 rfl) ?_
    refine lv_iconst (v := (3 : Int32)) hx hb (dc d_X6_partOn 32 rfl) (by decide) ?_
    refine lv_iadd hx hb (dc d_X6_partOn 33 rfl) ?_
    have hi := grd_b hf
    have hf := grd_x hf
    refine x_iald C hw 2 rfl hi (dc d_X6_partOn 34 rfl) ?_
    refine lv_iadd hx hb (dc d_X6_partOn 35 rfl) ?_
    refine lv_topi (fun y3 ey3 => ?_)
    have hf := g_nm hf ey3
    refine lv_istore (lv' := [(5, .int y3), (4, .int y2), (3, .int s0), (0, .ref tq0), (1, .int v1), (2, .ref cq0)]) hx hb (dc d_X6_partOn 36 rfl) hl (by decide) rfl (fun ls hl => ?_)
    refine lv_iconst (v := (0 : Int32)) hx hb (dc d_X6_partOn 37 rfl) (by decide) ?_
    refine lv_istore (lv' := [(6, .int (0 : Int32)), (5, .int y3), (4, .int y2), (3, .int s0), (0, .ref tq0), (1, .int v1), (2, .ref cq0)]) hx hb (dc d_X6_partOn 38 rfl) hl (by decide) rfl (fun ls hl => ?_)
    refine lv_iload_n hx hb (dc d_X6_partOn 39 rfl) rfl (lv_at hl 5 rfl) ?_
    refine lv_iload_n hx hb (dc d_X6_partOn 40 rfl) rfl (lv_at hl 3 rfl) ?_
    refine lv_icmp_le (tgt := 76) hx hb (dc d_X6_partOn 41 rfl) (by decide) (fun c4 => ?_) (fun c4 => ?_)
    · have hf := g_t hf c4
      exact L76  n v1 s0 y3 (0 : Int32) _ _ _ hw (lv_sub hl [4, 5, 6, 3, 1, 0] rfl) hf
    · have hf := g_f hf c4
      refine lv_iload hx hb (dc d_X6_partOn 42 rfl) (lv_at hl 0 rfl) ?_
      refine lv_aload_n hx hb (dc d_X6_partOn 43 rfl) rfl (lv_at hl 4 rfl) ?_
      refine x_get C hw fl_X6_15 0 rfl rfl (dc d_X6_partOn 44 rfl) ?_
      refine lv_iload_n hx hb (dc d_X6_partOn 45 rfl) rfl (lv_at hl 5 rfl) ?_
      refine lv_iconst (v := (1 : Int32)) hx hb (dc d_X6_partOn 46 rfl) (by decide) ?_
      refine lv_isub hx hb (dc d_X6_partOn 47 rfl) ?_
      have hi := grd_b hf
      have hf := grd_x hf
      refine x_iald C hw 2 rfl hi (dc d_X6_partOn 48 rfl) ?_
      refine lv_iadd hx hb (dc d_X6_partOn 49 rfl) ?_
      refine lv_topi (fun y5 ey5 => ?_)
      have hf := g_nm hf ey5
      refine lv_istore (lv' := [(6, .int y5), (5, .int y3), (4, .int y2), (3, .int s0), (0, .ref tq0), (1, .int v1), (2, .ref cq0)]) hx hb (dc d_X6_partOn 50 rfl) hl (by decide) rfl (fun ls hl => ?_)
      exact L76  n v1 s0 y3 y5 _ _ _ hw (lv_sub hl [4, 5, 6, 3, 1, 0] rfl) hf
  refine lv_iload_n hx hb (dc d_X6_partOn 0 rfl) rfl (lv_at hl 1 rfl) ?_
  refine lv_iconst (v := (4 : Int32)) hx hb (dc d_X6_partOn 1 rfl) (by decide) ?_
  refine lv_icmp_ge (tgt := 9) hx hb (dc d_X6_partOn 2 rfl) (by decide) (fun c1 => ?_) (fun c1 => ?_)
  · have hf := g_t hf c1
    refine lv_iconst (v := (4 : Int32)) hx hb (dc d_X6_partOn 5 rfl) (by decide) ?_
    exact L10  n x1 (4 : Int32) _ _ _ hw (lv_sub hl [0, 1, 2] rfl) hf
  · have hf := g_f hf c1
    refine lv_iconst (v := (0 : Int32)) hx hb (dc d_X6_partOn 3 rfl) (by decide) ?_
    refine lv_goto (tgt := 10) hx hb (dc d_X6_partOn 4 rfl) (by decide) ?_
    exact L10  n x1 (0 : Int32) _ _ _ hw (lv_sub hl [0, 1, 2] rfl) hf
set_option maxHeartbeats 4000000 in
set_option maxRecDepth 100000 in
theorem k_X6_bentBy (n : Nat) {l : Launch} {D : va_G} {cI cC cZ : ClassId} {tq0 tq1 tq2 tq3 tq4 bq0 bq1 bq2 bq3 bq4 dq0 dq1 dq2 : Nat} {t_bends : Nat → Int32} {t_laid : Nat → Int32} {t_across : Nat → Int32} {t_along : Nat → Int32} {b_N : Nat} {b_room : Int32} {b_line : Nat → Int32} {b_strength : Nat → Int32} {b_water : Nat → Int32} {b_back : Nat → Int32} {b_count : Int32} {d_settings : Nat → Int32} {d_numbers : Nat → Int32} {x2 : Int32} {o : Int32} (hf : f_X6_bentBy n t_laid b_N b_line b_strength b_water b_back d_settings d_numbers x2 = some o) : Ctr l yX6_bentBy cX6_bentBy 6 (some .int) 2 48 D cI cC cZ [.ref tq0, .ref bq0, .int x2, .ref dq0] (w_X6_X3_X5 cI cC cZ tq0 tq1 tq2 tq3 tq4 bq0 bq1 bq2 bq3 bq4 dq0 dq1 dq2 t_bends t_laid t_across t_along b_N b_room b_line b_strength b_water b_back b_count d_settings d_numbers) (w_X6_X3_X5 cI cC cZ tq0 tq1 tq2 tq3 tq4 bq0 bq1 bq2 bq3 bq4 dq0 dq1 dq2 t_bends t_laid t_across t_along b_N b_room b_line b_strength b_water b_back b_count d_settings d_numbers) (some (.int o)) := by
  refine Ctr.of (by decide) (Nat.le_of_ble_eq_true rfl) ?_
  intro p e s m args below meth c ls A Q hA hQ C hl hw
  have hx := C.1
  have hb := C.2.1
  have hl : lv_has ls 6 [(0, .ref tq0), (1, .ref bq0), (2, .int x2), (3, .ref dq0)] := hl
  refine lv_aload_n hx hb (dc d_X6_bentBy 0 rfl) rfl (lv_at hl 3 rfl) ?_
  refine lv_aload_n hx hb (dc d_X6_bentBy 1 rfl) rfl (lv_at hl 1 rfl) ?_
  refine x_get C hw fl_X6_49 5 rfl rfl (dc d_X6_bentBy 2 rfl) ?_
  refine lv_iload_n hx hb (dc d_X6_bentBy 3 rfl) rfl (lv_at hl 2 rfl) ?_
  have hi := grd_b hf
  have hf := grd_x hf
  refine x_iald C hw 7 rfl hi (dc d_X6_bentBy 4 rfl) ?_
  refine lv_aload_n hx hb (dc d_X6_bentBy 5 rfl) rfl (lv_at hl 1 rfl) ?_
  refine x_get C hw fl_X6_52 5 rfl rfl (dc d_X6_bentBy 6 rfl) ?_
  refine lv_iload_n hx hb (dc d_X6_bentBy 7 rfl) rfl (lv_at hl 2 rfl) ?_
  have hi := grd_b hf
  have hf := grd_x hf
  refine x_iald C hw 8 rfl hi (dc d_X6_bentBy 8 rfl) ?_
  obtain ⟨q1, hq1, hf⟩ := g_bd hf
  refine x_callV C hw mb_X5_tableOf mv_X5_tableOf ml_X6_55 (k_X5_tableOf n hq1) hl.1 rfl rfl [10, 11, 12] rfl rfl rfl 10 5 rfl rfl (Nat.le_of_ble_eq_true rfl) (Nat.le_of_ble_eq_true rfl) (Nat.le_of_ble_eq_true rfl) (dc d_X6_bentBy 9 rfl) (fun H locs hw => ?_)
  refine W.eq (g2 := F0 m 16 ls [.int q1]) rfl ?_
  dsimp only [w_X6_X3_X5, w_X5, mix, List.set_cons_succ, List.set_cons_zero] at hw
  have hw : Wd D A s.heap (w_X6_X3_X5 cI cC cZ tq0 tq1 tq2 tq3 tq4 bq0 bq1 bq2 bq3 bq4 dq0 dq1 dq2 t_bends t_laid t_across t_along b_N b_room b_line b_strength b_water b_back b_count d_settings d_numbers) H locs := hw
  refine lv_istore (lv' := [(4, .int q1), (0, .ref tq0), (1, .ref bq0), (2, .int x2), (3, .ref dq0)]) hx hb (dc d_X6_bentBy 10 rfl) hl (by decide) rfl (fun ls hl => ?_)
  refine lv_iload hx hb (dc d_X6_bentBy 11 rfl) (lv_at hl 0 rfl) ?_
  refine lv_aload_n hx hb (dc d_X6_bentBy 12 rfl) rfl (lv_at hl 1 rfl) ?_
  refine lv_aload_n hx hb (dc d_X6_bentBy 13 rfl) rfl (lv_at hl 2 rfl) ?_
  refine x_get C hw fl_X6_44 5 rfl rfl (dc d_X6_bentBy 14 rfl) ?_
  refine lv_iload_n hx hb (dc d_X6_bentBy 15 rfl) rfl (lv_at hl 3 rfl) ?_
  have hi := grd_b hf
  have hf := grd_x hf
  refine x_iald C hw 6 rfl hi (dc d_X6_bentBy 16 rfl) ?_
  refine lv_aload_n hx hb (dc d_X6_bentBy 17 rfl) rfl (lv_at hl 4 rfl) ?_
  obtain ⟨q2, hq2, hf⟩ := g_bd hf
  refine x_callV C hw mb_X6_partOn mv_X6_partOn ml_X6_61 (k_X6_partOn n hq2) hl.1 rfl rfl [0, 1, 2, 3, 4, 10, 11, 12] rfl rfl rfl 0 6 rfl rfl (Nat.le_of_ble_eq_true rfl) (Nat.le_of_ble_eq_true rfl) (Nat.le_of_ble_eq_true rfl) (dc d_X6_bentBy 18 rfl) (fun H locs hw => ?_)
  refine W.eq (g2 := F0 m 31 ls [.int q2, .int q1]) rfl ?_
  dsimp only [w_X6_X3_X5, w_X6_X5, mix, List.set_cons_succ, List.set_cons_zero] at hw
  have hw : Wd D A s.heap (w_X6_X3_X5 cI cC cZ tq0 tq1 tq2 tq3 tq4 bq0 bq1 bq2 bq3 bq4 dq0 dq1 dq2 t_bends t_laid t_across t_along b_N b_room b_line b_strength b_water b_back b_count d_settings d_numbers) H locs := hw
  refine lv_imul hx hb (dc d_X6_bentBy 19 rfl) ?_
  refine lv_bipush (v := (100 : Int32)) hx hb (dc d_X6_bentBy 20 rfl) (by decide) ?_
  refine x_div hx hb (dc d_X6_bentBy 21 rfl) (by decide) ?_
  refine lv_topi (fun y3 ey3 => ?_)
  have hf := g_nm hf ey3
  refine lv_istore (lv' := [(5, .int y3), (4, .int q1), (0, .ref tq0), (1, .ref bq0), (2, .int x2), (3, .ref dq0)]) hx hb (dc d_X6_bentBy 22 rfl) hl (by decide) rfl (fun ls hl => ?_)
  refine lv_aload_n hx hb (dc d_X6_bentBy 23 rfl) rfl (lv_at hl 3 rfl) ?_
  refine x_get C hw fl_X6_65 5 rfl rfl (dc d_X6_bentBy 24 rfl) ?_
  refine lv_iload_n hx hb (dc d_X6_bentBy 25 rfl) rfl (lv_at hl 4 rfl) ?_
  have hi := grd_b hf
  have hf := grd_x hf
  refine x_iald C hw 9 rfl hi (dc d_X6_bentBy 26 rfl) ?_
  refine lv_iconst (v := (1 : Int32)) hx hb (dc d_X6_bentBy 27 rfl) (by decide) ?_
  refine lv_icmp_ne (tgt := 53) hx hb (dc d_X6_bentBy 28 rfl) (by decide) (fun c4 => ?_) (fun c4 => ?_)
  · have hf := g_f hf c4
    refine lv_iload hx hb (dc d_X6_bentBy 32 rfl) (lv_at hl 0 rfl) ?_
    cases hf
    exact x_iret C hA hQ hw rfl rfl (dc d_X6_bentBy 33 rfl)
  · have hf := g_t hf c4
    refine lv_iload hx hb (dc d_X6_bentBy 29 rfl) (lv_at hl 0 rfl) ?_
    refine lv_ineg hx hb (dc d_X6_bentBy 30 rfl) ?_
    refine lv_goto (tgt := 55) hx hb (dc d_X6_bentBy 31 rfl) (by decide) ?_
    cases hf
    exact x_iret C hA hQ hw rfl rfl (dc d_X6_bentBy 33 rfl)
set_option maxHeartbeats 4000000 in
set_option maxRecDepth 100000 in
theorem k_X6_lay (n : Nat) {l : Launch} {D : va_G} {cI cC cZ : ClassId} {tq0 tq1 tq2 tq3 tq4 bq0 bq1 bq2 bq3 bq4 dq0 dq1 dq2 : Nat} {t_bends : Nat → Int32} {t_laid : Nat → Int32} {t_across : Nat → Int32} {t_along : Nat → Int32} {b_N : Nat} {b_room : Int32} {b_line : Nat → Int32} {b_strength : Nat → Int32} {b_water : Nat → Int32} {b_back : Nat → Int32} {b_count : Int32} {d_settings : Nat → Int32} {d_numbers : Nat → Int32} {x2 : Int32} {o : (Nat → Int32) × (Nat → Int32)} (hf : f_X6_lay n t_bends t_laid b_N b_line b_strength b_water b_back d_settings d_numbers x2 = some o) : Ctr l yX6_lay cX6_lay 6 none 3 73 D cI cC cZ [.ref tq0, .ref bq0, .int x2, .ref dq0] (w_X6_X3_X5 cI cC cZ tq0 tq1 tq2 tq3 tq4 bq0 bq1 bq2 bq3 bq4 dq0 dq1 dq2 t_bends t_laid t_across t_along b_N b_room b_line b_strength b_water b_back b_count d_settings d_numbers) (w_X6_X3_X5 cI cC cZ tq0 tq1 tq2 tq3 tq4 bq0 bq1 bq2 bq3 bq4 dq0 dq1 dq2 o.1 o.2 t_across t_along b_N b_room b_line b_strength b_water b_back b_count d_settings d_numbers) none := by
  refine Ctr.of (by decide) (Nat.le_of_ble_eq_true rfl) ?_
  intro p e s m args below meth c ls A Q hA hQ C hl hw
  have hx := C.1
  have hb := C.2.1
  have hl : lv_has ls 6 [(0, .ref tq0), (1, .ref bq0), (2, .int x2), (3, .ref dq0)] := hl
  refine lv_aload_n hx hb (dc d_X6_lay 0 rfl) rfl (lv_at hl 0 rfl) ?_
  refine lv_aload_n hx hb (dc d_X6_lay 1 rfl) rfl (lv_at hl 1 rfl) ?_
  refine lv_iload_n hx hb (dc d_X6_lay 2 rfl) rfl (lv_at hl 2 rfl) ?_
  refine lv_aload_n hx hb (dc d_X6_lay 3 rfl) rfl (lv_at hl 3 rfl) ?_
  obtain ⟨q1, hq1, hf⟩ := g_bd hf
  refine x_callVa C hw mb_X6_bentBy mv_X6_bentBy ml_X6_40 (k_X6_bentBy n hq1) hl.1 rfl rfl rfl 0 6 rfl rfl (Nat.le_of_ble_eq_true rfl) (Nat.le_of_ble_eq_true rfl) (Nat.le_of_ble_eq_true rfl) (dc d_X6_lay 4 rfl) (fun H locs hw => ?_)
  refine W.eq (g2 := F0 m 7 ls [.int q1]) rfl ?_
  have hw : Wd D A s.heap (w_X6_X3_X5 cI cC cZ tq0 tq1 tq2 tq3 tq4 bq0 bq1 bq2 bq3 bq4 dq0 dq1 dq2 t_bends t_laid t_across t_along b_N b_room b_line b_strength b_water b_back b_count d_settings d_numbers) H locs := hw
  refine lv_istore (lv' := [(4, .int q1), (0, .ref tq0), (1, .ref bq0), (2, .int x2), (3, .ref dq0)]) hx hb (dc d_X6_lay 5 rfl) hl (by decide) rfl (fun ls hl => ?_)
  refine lv_aload_n hx hb (dc d_X6_lay 6 rfl) rfl (lv_at hl 2 rfl) ?_
  refine x_get C hw fl_X6_44 5 rfl rfl (dc d_X6_lay 7 rfl) ?_
  refine lv_iload_n hx hb (dc d_X6_lay 8 rfl) rfl (lv_at hl 3 rfl) ?_
  have hi := grd_b hf
  have hf := grd_x hf
  refine x_iald C hw 6 rfl hi (dc d_X6_lay 9 rfl) ?_
  refine lv_topi (fun y2 ey2 => ?_)
  have hf := g_nm hf ey2
  refine lv_istore (lv' := [(5, .int y2), (4, .int q1), (0, .ref tq0), (1, .ref bq0), (2, .int x2), (3, .ref dq0)]) hx hb (dc d_X6_lay 10 rfl) hl (by decide) rfl (fun ls hl => ?_)
  refine lv_aload_n hx hb (dc d_X6_lay 11 rfl) rfl (lv_at hl 2 rfl) ?_
  refine x_get C hw fl_X6_9 0 rfl rfl (dc d_X6_lay 12 rfl) ?_
  refine lv_iload hx hb (dc d_X6_lay 13 rfl) (lv_at hl 0 rfl) ?_
  refine lv_dup2_11 hx hb (dc d_X6_lay 14 rfl) rfl rfl ?_
  have hi := grd_b hf
  have hf := grd_x hf
  refine x_iald C hw 1 rfl hi (dc d_X6_lay 15 rfl) ?_
  refine lv_iload hx hb (dc d_X6_lay 16 rfl) (lv_at hl 1 rfl) ?_
  refine lv_iadd hx hb (dc d_X6_lay 17 rfl) ?_
  have hi := grd_b hf
  have hf := grd_x hf
  refine x_iast C hw 1 rfl hi (dc d_X6_lay 18 rfl) (fun H locs hw => ?_)
  dsimp only [w_X6_X3_X5, mix, List.set_cons_succ, List.set_cons_zero] at hw
  have hw : Wd D A s.heap (w_X6_X3_X5 cI cC cZ tq0 tq1 tq2 tq3 tq4 bq0 bq1 bq2 bq3 bq4 dq0 dq1 dq2 (upd t_bends y2.toNatClampNeg ((t_bends y2.toNatClampNeg) + q1)) t_laid t_across t_along b_N b_room b_line b_strength b_water b_back b_count d_settings d_numbers) H locs := hw
  refine lv_aload_n hx hb (dc d_X6_lay 19 rfl) rfl (lv_at hl 2 rfl) ?_
  refine x_get C hw fl_X6_15 0 rfl rfl (dc d_X6_lay 20 rfl) ?_
  refine lv_iload hx hb (dc d_X6_lay 21 rfl) (lv_at hl 0 rfl) ?_
  refine lv_dup2_11 hx hb (dc d_X6_lay 22 rfl) rfl rfl ?_
  have hi := grd_b hf
  have hf := grd_x hf
  refine x_iald C hw 2 rfl hi (dc d_X6_lay 23 rfl) ?_
  refine lv_iconst (v := (1 : Int32)) hx hb (dc d_X6_lay 24 rfl) (by decide) ?_
  refine lv_iadd hx hb (dc d_X6_lay 25 rfl) ?_
  have hi := grd_b hf
  have hf := grd_x hf
  refine x_iast C hw 2 rfl hi (dc d_X6_lay 26 rfl) (fun H locs hw => ?_)
  dsimp only [w_X6_X3_X5, mix, List.set_cons_succ, List.set_cons_zero] at hw
  have hw : Wd D A s.heap (w_X6_X3_X5 cI cC cZ tq0 tq1 tq2 tq3 tq4 bq0 bq1 bq2 bq3 bq4 dq0 dq1 dq2 (upd t_bends y2.toNatClampNeg ((t_bends y2.toNatClampNeg) + q1)) (upd t_laid y2.toNatClampNeg ((t_laid y2.toNatClampNeg) + (1 : Int32))) t_across t_along b_N b_room b_line b_strength b_water b_back b_count d_settings d_numbers) H locs := hw
  cases hf
  exact x_vret C hA hQ hw rfl rfl (dc d_X6_lay 27 rfl)
set_option maxHeartbeats 4000000 in
set_option maxRecDepth 100000 in
theorem k_X4_laySet (n : Nat) {l : Launch} {D : va_G} {cI cC cZ : ClassId} {tq0 tq1 tq2 tq3 tq4 tq5 tq6 tq7 tq8 tq9 tq10 cq0 cq1 cq2 : Nat} {t_items_room : Int32} {t_items_line : Nat → Int32} {t_items_strength : Nat → Int32} {t_items_water : Nat → Int32} {t_items_back : Nat → Int32} {t_items_count : Int32} {t_trial_bends : Nat → Int32} {t_trial_laid : Nat → Int32} {t_trial_across : Nat → Int32} {t_trial_along : Nat → Int32} {t_found : Int32} {t_foundWorst : Int32} {c_settings : Nat → Int32} {c_numbers : Nat → Int32} {x1 : Int32} {o : (Nat → Int32) × (Nat → Int32)} (hf : f_X4_laySet n t_items_line t_items_strength t_items_water t_items_back t_items_count t_trial_bends t_trial_laid c_settings c_numbers x1 = some o) : Ctr l yX4_laySet cX4_laySet 4 none 4 98 D cI cC cZ [.ref tq0, .int x1, .ref cq0] (w_X4_X5 cI cC cZ tq0 tq1 tq2 tq3 tq4 tq5 tq6 tq7 tq8 tq9 tq10 cq0 cq1 cq2 t_items_room t_items_line t_items_strength t_items_water t_items_back t_items_count t_trial_bends t_trial_laid t_trial_across t_trial_along t_found t_foundWorst c_settings c_numbers) (w_X4_X5 cI cC cZ tq0 tq1 tq2 tq3 tq4 tq5 tq6 tq7 tq8 tq9 tq10 cq0 cq1 cq2 t_items_room t_items_line t_items_strength t_items_water t_items_back t_items_count o.1 o.2 t_trial_across t_trial_along t_found t_foundWorst c_settings c_numbers) none := by
  refine Ctr.of (by decide) (Nat.le_of_ble_eq_true rfl) ?_
  intro p e s m args below meth c ls A Q hA hQ C hl hw
  have hx := C.1
  have hb := C.2.1
  have hl : lv_has ls 4 [(0, .ref tq0), (1, .int x1), (2, .ref cq0)] := hl
  have L2 : ∀ (n : Nat), ∀ (t_trial_bends : Nat → Int32) (t_trial_laid : Nat → Int32) (v1 : Int32) (v3 : Int32) (H : Heap) (locs : List Loc) (ls : Array Slot), Wd D A s.heap (w_X4_X5 cI cC cZ tq0 tq1 tq2 tq3 tq4 tq5 tq6 tq7 tq8 tq9 tq10 cq0 cq1 cq2 t_items_room t_items_line t_items_strength t_items_water t_items_back t_items_count t_trial_bends t_trial_laid t_trial_across t_trial_along t_found t_foundWorst c_settings c_numbers) H locs → lv_has ls 4 [(0, .ref tq0), (1, .int v1), (2, .ref cq0), (3, .int v3)] → f_X4_laySet_2 t_items_line t_items_strength t_items_water t_items_back t_items_count c_settings c_numbers  n t_trial_bends t_trial_laid v1 v3 = some o → W p l e (rmOf 4 98) s m args below meth c H locs 0 0 Q (F0 m 2 ls []) := by
    intro  n
    induction n with
    | zero => intro t_trial_bends t_trial_laid v1 v3 H locs ls hw hl hf; exact (no_none hf).elim
    | succ n ih =>
      intro t_trial_bends t_trial_laid v1 v3 H locs ls hw hl hf
      have hf : f_X4_laySet_2b t_items_line t_items_strength t_items_water t_items_back t_items_count c_settings c_numbers  (f_X4_laySet_2 t_items_line t_items_strength t_items_water t_items_back t_items_count c_settings c_numbers  n) n t_trial_bends t_trial_laid v1 v3 = some o := hf
      generalize f_X4_laySet_2 t_items_line t_items_strength t_items_water t_items_back t_items_count c_settings c_numbers  n = k2 at hf ih
      refine lv_iload_n hx hb (dc d_X4_laySet 2 rfl) rfl (lv_at hl 3 rfl) ?_
      refine lv_aload_n hx hb (dc d_X4_laySet 3 rfl) rfl (lv_at hl 0 rfl) ?_
      refine x_get C hw fl_X4_14 0 rfl rfl (dc d_X4_laySet 4 rfl) ?_
      refine x_get C hw fl_X4_31 1 rfl rfl (dc d_X4_laySet 5 rfl) ?_
      refine lv_icmp_ge (tgt := 41) hx hb (dc d_X4_laySet 6 rfl) (by decide) (fun c1 => ?_) (fun c1 => ?_)
      · have hf := g_t hf c1
        cases hf
        exact x_vret C hA hQ hw rfl rfl (dc d_X4_laySet 23 rfl)
      · have hf := g_f hf c1
        refine lv_iload_n hx hb (dc d_X4_laySet 7 rfl) rfl (lv_at hl 1 rfl) ?_
        refine lv_iload_n hx hb (dc d_X4_laySet 8 rfl) rfl (lv_at hl 3 rfl) ?_
        refine x_shr hx hb (dc d_X4_laySet 9 rfl) ?_
        refine lv_iconst (v := (1 : Int32)) hx hb (dc d_X4_laySet 10 rfl) (by decide) ?_
        refine lv_iand hx hb (dc d_X4_laySet 11 rfl) ?_
        refine lv_iconst (v := (1 : Int32)) hx hb (dc d_X4_laySet 12 rfl) (by decide) ?_
        refine lv_icmp_ne (tgt := 35) hx hb (dc d_X4_laySet 13 rfl) (by decide) (fun c2 => ?_) (fun c2 => ?_)
        · have hf := g_f hf c2
          refine lv_iinc (v := (v3 + (1 : Int32))) (lv' := [(3, .int (v3 + (1 : Int32))), (0, .ref tq0), (1, .int v1), (2, .ref cq0)]) hx hb (dc d_X4_laySet 21 rfl) hl (k := 3) rfl (ii (by decide)) (by decide) rfl (fun ls hl => ?_)
          refine lv_goto (tgt := 2) hx hb (dc d_X4_laySet 22 rfl) (by decide) ?_
          exact ih t_trial_bends t_trial_laid v1 (v3 + (1 : Int32)) _ _ _ hw (lv_sub hl [1, 2, 3, 0] rfl) hf
        · have hf := g_t hf c2
          refine lv_aload_n hx hb (dc d_X4_laySet 14 rfl) rfl (lv_at hl 0 rfl) ?_
          refine x_get C hw fl_X4_23 0 rfl rfl (dc d_X4_laySet 15 rfl) ?_
          refine lv_aload_n hx hb (dc d_X4_laySet 16 rfl) rfl (lv_at hl 0 rfl) ?_
          refine x_get C hw fl_X4_14 0 rfl rfl (dc d_X4_laySet 17 rfl) ?_
          refine lv_iload_n hx hb (dc d_X4_laySet 18 rfl) rfl (lv_at hl 3 rfl) ?_
          refine lv_aload_n hx hb (dc d_X4_laySet 19 rfl) rfl (lv_at hl 2 rfl) ?_
          obtain ⟨q3, hq3, hf⟩ := g_bd hf
          refine x_callV C hw mb_X6_lay mv_X6_lay ml_X4_55 (k_X6_lay n hq3) hl.1 rfl rfl [6, 7, 8, 9, 10, 1, 2, 3, 4, 5, 11, 12, 13] rfl rfl rfl 6 6 rfl rfl (Nat.le_of_ble_eq_true rfl) (Nat.le_of_ble_eq_true rfl) (Nat.le_of_ble_eq_true rfl) (dc d_X4_laySet 20 rfl) (fun H locs hw => ?_)
          refine W.eq (g2 := F0 m 35 ls []) rfl ?_
          dsimp only [w_X4_X5, w_X6_X3_X5, mix, List.set_cons_succ, List.set_cons_zero] at hw
          have hw : Wd D A s.heap (w_X4_X5 cI cC cZ tq0 tq1 tq2 tq3 tq4 tq5 tq6 tq7 tq8 tq9 tq10 cq0 cq1 cq2 t_items_room t_items_line t_items_strength t_items_water t_items_back t_items_count q3.1 q3.2 t_trial_across t_trial_along t_found t_foundWorst c_settings c_numbers) H locs := hw
          refine lv_iinc (v := (v3 + (1 : Int32))) (lv' := [(3, .int (v3 + (1 : Int32))), (0, .ref tq0), (1, .int v1), (2, .ref cq0)]) hx hb (dc d_X4_laySet 21 rfl) hl (k := 3) rfl (ii (by decide)) (by decide) rfl (fun ls hl => ?_)
          refine lv_goto (tgt := 2) hx hb (dc d_X4_laySet 22 rfl) (by decide) ?_
          exact ih q3.1 q3.2 v1 (v3 + (1 : Int32)) _ _ _ hw (lv_sub hl [1, 2, 3, 0] rfl) hf
  refine lv_iconst (v := (0 : Int32)) hx hb (dc d_X4_laySet 0 rfl) (by decide) ?_
  refine lv_istore_n (lv' := [(3, .int (0 : Int32)), (0, .ref tq0), (1, .int x1), (2, .ref cq0)]) hx hb (dc d_X4_laySet 1 rfl) rfl hl (by decide) rfl (fun ls hl => ?_)
  exact L2  n t_trial_bends t_trial_laid x1 (0 : Int32) _ _ _ hw (lv_sub hl [1, 2, 3, 0] rfl) hf
set_option maxHeartbeats 4000000 in
set_option maxRecDepth 100000 in
theorem k_X6_hangProfile_across (n : Nat) {l : Launch} {D : va_G} {cI cC cZ : ClassId} {tq0 tq1 tq2 tq3 tq4 : Nat} {t_bends : Nat → Int32} {t_laid : Nat → Int32} {t_across : Nat → Int32} {t_along : Nat → Int32} {x2 : Int32} {o : (Nat → Int32)} (hf : f_X6_hangProfile_across n t_bends t_across x2 = some o) : Ctr l yX6_hangProfile cX6_hangProfile 6 none 0 0 D cI cC cZ [.ref tq0, .ref tq3, .int x2] (w_X6 cI cC cZ tq0 tq1 tq2 tq3 tq4 t_bends t_laid t_across t_along) (w_X6 cI cC cZ tq0 tq1 tq2 tq3 tq4 t_bends t_laid o t_along) none := by
  refine Ctr.of (by decide) (Nat.le_of_ble_eq_true rfl) ?_
  intro p e s m args below meth c ls A Q hA hQ C hl hw
  have hx := C.1
  have hb := C.2.1
  have hl : lv_has ls 6 [(0, .ref tq0), (1, .ref tq3), (2, .int x2)] := hl
  have L59 : ∀ (n : Nat), ∀ (t_across : Nat → Int32) (v4 : Int32) (v5 : Int32) (H : Heap) (locs : List Loc) (ls : Array Slot), Wd D A s.heap (w_X6 cI cC cZ tq0 tq1 tq2 tq3 tq4 t_bends t_laid t_across t_along) H locs → lv_has ls 6 [(1, .ref tq3), (4, .int v4), (5, .int v5)] → f_X6_hangProfile_across_59 t_bends  n t_across v4 v5 = some o → W p l e (rmOf 0 0) s m args below meth c H locs 0 0 Q (F0 m 59 ls []) := by
    intro  n
    induction n with
    | zero => intro t_across v4 v5 H locs ls hw hl hf; exact (no_none hf).elim
    | succ n ih =>
      intro t_across v4 v5 H locs ls hw hl hf
      have hf : f_X6_hangProfile_across_59b t_bends  (f_X6_hangProfile_across_59 t_bends  n) n t_across v4 v5 = some o := hf
      generalize f_X6_hangProfile_across_59 t_bends  n = k59 at hf ih
      refine lv_iload hx hb (dc d_X6_hangProfile 44 rfl) (lv_at hl 2 rfl) ?_
      refine lv_bipush (v := (6 : Int32)) hx hb (dc d_X6_hangProfile 45 rfl) (by decide) ?_
      refine lv_icmp_ge (tgt := 88) hx hb (dc d_X6_hangProfile 46 rfl) (by decide) (fun c4 => ?_) (fun c4 => ?_)
      · have hf := g_t hf c4
        cases hf
        exact x_vret C hA hQ hw rfl rfl (dc d_X6_hangProfile 61 rfl)
      · have hf := g_f hf c4
        refine lv_aload_n hx hb (dc d_X6_hangProfile 47 rfl) rfl (lv_at hl 0 rfl) ?_
        refine lv_iload hx hb (dc d_X6_hangProfile 48 rfl) (lv_at hl 2 rfl) ?_
        refine lv_aload_n hx hb (dc d_X6_hangProfile 49 rfl) rfl (lv_at hl 0 rfl) ?_
        refine lv_iload hx hb (dc d_X6_hangProfile 50 rfl) (lv_at hl 2 rfl) ?_
        have hi := grd_b hf
        have hf := grd_x hf
        refine x_iald C hw 3 rfl hi (dc d_X6_hangProfile 51 rfl) ?_
        refine lv_iconst (v := (5 : Int32)) hx hb (dc d_X6_hangProfile 52 rfl) (by decide) ?_
        refine lv_imul hx hb (dc d_X6_hangProfile 53 rfl) ?_
        refine lv_iload hx hb (dc d_X6_hangProfile 54 rfl) (lv_at hl 2 rfl) ?_
        refine lv_iload hx hb (dc d_X6_hangProfile 55 rfl) (lv_at hl 1 rfl) ?_
        refine lv_imul hx hb (dc d_X6_hangProfile 56 rfl) ?_
        refine lv_isub hx hb (dc d_X6_hangProfile 57 rfl) ?_
        have hi := grd_b hf
        have hf := grd_x hf
        refine x_iast C hw 3 rfl hi (dc d_X6_hangProfile 58 rfl) (fun H locs hw => ?_)
        dsimp only [w_X6, mix, List.set_cons_succ, List.set_cons_zero] at hw
        have hw : Wd D A s.heap (w_X6 cI cC cZ tq0 tq1 tq2 tq3 tq4 t_bends t_laid (upd t_across v5.toNatClampNeg (((t_across v5.toNatClampNeg) * (5 : Int32)) - (v5 * v4))) t_along) H locs := hw
        refine lv_iinc (v := (v5 + (1 : Int32))) (lv' := [(5, .int (v5 + (1 : Int32))), (1, .ref tq3), (4, .int v4)]) hx hb (dc d_X6_hangProfile 59 rfl) hl (k := 2) rfl (ii (by decide)) (by decide) rfl (fun ls hl => ?_)
        refine lv_goto (tgt := 59) hx hb (dc d_X6_hangProfile 60 rfl) (by decide) ?_
        exact ih (upd t_across v5.toNatClampNeg (((t_across v5.toNatClampNeg) * (5 : Int32)) - (v5 * v4))) v4 (v5 + (1 : Int32)) _ _ _ hw (lv_sub hl [1, 2, 0] rfl) hf
  have L13 : ∀ (n : Nat), ∀ (t_across : Nat → Int32) (v2 : Int32) (v3 : Int32) (v4 : Int32) (H : Heap) (locs : List Loc) (ls : Array Slot), Wd D A s.heap (w_X6 cI cC cZ tq0 tq1 tq2 tq3 tq4 t_bends t_laid t_across t_along) H locs → lv_has ls 6 [(0, .ref tq0), (1, .ref tq3), (2, .int v2), (3, .int v3), (4, .int v4)] → f_X6_hangProfile_across_13 t_bends  n t_across v2 v3 v4 = some o → W p l e (rmOf 0 0) s m args below meth c H locs 0 0 Q (F0 m 13 ls []) := by
    intro  n
    induction n with
    | zero => intro t_across v2 v3 v4 H locs ls hw hl hf; exact (no_none hf).elim
    | succ n ih =>
      intro t_across v2 v3 v4 H locs ls hw hl hf
      have hf : f_X6_hangProfile_across_13b t_bends  (f_X6_hangProfile_across_13 t_bends  n) n t_across v2 v3 v4 = some o := hf
      generalize f_X6_hangProfile_across_13 t_bends  n = k13 at hf ih
      refine lv_iload hx hb (dc d_X6_hangProfile 12 rfl) (lv_at hl 4 rfl) ?_
      refine lv_iconst (v := (5 : Int32)) hx hb (dc d_X6_hangProfile 13 rfl) (by decide) ?_
      refine lv_icmp_ge (tgt := 51) hx hb (dc d_X6_hangProfile 14 rfl) (by decide) (fun c1 => ?_) (fun c1 => ?_)
      · have hf := g_t hf c1
        refine lv_aload_n hx hb (dc d_X6_hangProfile 38 rfl) rfl (lv_at hl 1 rfl) ?_
        refine lv_iconst (v := (5 : Int32)) hx hb (dc d_X6_hangProfile 39 rfl) (by decide) ?_
        refine x_iald C hw 3 rfl (by decide) (dc d_X6_hangProfile 40 rfl) ?_
        refine lv_topi (fun y2 ey2 => ?_)
        have hf := g_nm hf ey2
        refine lv_istore (lv' := [(4, .int y2), (0, .ref tq0), (1, .ref tq3), (2, .int v2), (3, .int v3)]) hx hb (dc d_X6_hangProfile 41 rfl) hl (by decide) rfl (fun ls hl => ?_)
        refine lv_iconst (v := (0 : Int32)) hx hb (dc d_X6_hangProfile 42 rfl) (by decide) ?_
        refine lv_istore (lv' := [(5, .int (0 : Int32)), (4, .int y2), (0, .ref tq0), (1, .ref tq3), (2, .int v2), (3, .int v3)]) hx hb (dc d_X6_hangProfile 43 rfl) hl (by decide) rfl (fun ls hl => ?_)
        exact L59  n t_across y2 (0 : Int32) _ _ _ hw (lv_sub hl [3, 1, 0] rfl) hf
      · have hf := g_f hf c1
        refine lv_iload_n hx hb (dc d_X6_hangProfile 15 rfl) rfl (lv_at hl 3 rfl) ?_
        refine lv_aload_n hx hb (dc d_X6_hangProfile 16 rfl) rfl (lv_at hl 0 rfl) ?_
        refine x_get C hw fl_X6_9 0 rfl rfl (dc d_X6_hangProfile 17 rfl) ?_
        refine lv_iload_n hx hb (dc d_X6_hangProfile 18 rfl) rfl (lv_at hl 2 rfl) ?_
        refine lv_iload hx hb (dc d_X6_hangProfile 19 rfl) (lv_at hl 4 rfl) ?_
        refine lv_iadd hx hb (dc d_X6_hangProfile 20 rfl) ?_
        refine lv_iconst (v := (1 : Int32)) hx hb (dc d_X6_hangProfile 21 rfl) (by decide) ?_
        refine lv_isub hx hb (dc d_X6_hangProfile 22 rfl) ?_
        have hi := grd_b hf
        have hf := grd_x hf
        refine x_iald C hw 1 rfl hi (dc d_X6_hangProfile 23 rfl) ?_
        refine lv_iadd hx hb (dc d_X6_hangProfile 24 rfl) ?_
        refine lv_topi (fun y3 ey3 => ?_)
        have hf := g_nm hf ey3
        refine lv_istore_n (lv' := [(3, .int y3), (0, .ref tq0), (1, .ref tq3), (2, .int v2), (4, .int v4)]) hx hb (dc d_X6_hangProfile 25 rfl) rfl hl (by decide) rfl (fun ls hl => ?_)
        refine lv_aload_n hx hb (dc d_X6_hangProfile 26 rfl) rfl (lv_at hl 2 rfl) ?_
        refine lv_iload hx hb (dc d_X6_hangProfile 27 rfl) (lv_at hl 4 rfl) ?_
        refine lv_iconst (v := (1 : Int32)) hx hb (dc d_X6_hangProfile 28 rfl) (by decide) ?_
        refine lv_iadd hx hb (dc d_X6_hangProfile 29 rfl) ?_
        refine lv_aload_n hx hb (dc d_X6_hangProfile 30 rfl) rfl (lv_at hl 2 rfl) ?_
        refine lv_iload hx hb (dc d_X6_hangProfile 31 rfl) (lv_at hl 4 rfl) ?_
        have hi := grd_b hf
        have hf := grd_x hf
        refine x_iald C hw 3 rfl hi (dc d_X6_hangProfile 32 rfl) ?_
        refine lv_iload_n hx hb (dc d_X6_hangProfile 33 rfl) rfl (lv_at hl 0 rfl) ?_
        refine lv_iadd hx hb (dc d_X6_hangProfile 34 rfl) ?_
        have hi := grd_b hf
        have hf := grd_x hf
        refine x_iast C hw 3 rfl hi (dc d_X6_hangProfile 35 rfl) (fun H locs hw => ?_)
        dsimp only [w_X6, mix, List.set_cons_succ, List.set_cons_zero] at hw
        have hw : Wd D A s.heap (w_X6 cI cC cZ tq0 tq1 tq2 tq3 tq4 t_bends t_laid (upd t_across (v4 + (1 : Int32)).toNatClampNeg ((t_across v4.toNatClampNeg) + y3)) t_along) H locs := hw
        refine lv_iinc (v := (v4 + (1 : Int32))) (lv' := [(4, .int (v4 + (1 : Int32))), (3, .int y3), (0, .ref tq0), (1, .ref tq3), (2, .int v2)]) hx hb (dc d_X6_hangProfile 36 rfl) hl (k := 4) rfl (ii (by decide)) (by decide) rfl (fun ls hl => ?_)
        refine lv_goto (tgt := 13) hx hb (dc d_X6_hangProfile 37 rfl) (by decide) ?_
        exact ih (upd t_across (v4 + (1 : Int32)).toNatClampNeg ((t_across v4.toNatClampNeg) + y3)) v2 y3 (v4 + (1 : Int32)) _ _ _ hw (lv_sub hl [2, 3, 4, 1, 0] rfl) hf
  refine lv_iconst (v := (0 : Int32)) hx hb (dc d_X6_hangProfile 0 rfl) (by decide) ?_
  refine lv_istore_n (lv' := [(3, .int (0 : Int32)), (0, .ref tq0), (1, .ref tq3), (2, .int x2)]) hx hb (dc d_X6_hangProfile 1 rfl) rfl hl (by decide) rfl (fun ls hl => ?_)
  refine lv_aload_n hx hb (dc d_X6_hangProfile 2 rfl) rfl (lv_at hl 2 rfl) ?_
  refine lv_iconst (v := (0 : Int32)) hx hb (dc d_X6_hangProfile 3 rfl) (by decide) ?_
  refine lv_iconst (v := (0 : Int32)) hx hb (dc d_X6_hangProfile 4 rfl) (by decide) ?_
  refine x_iast C hw 3 rfl (by decide) (dc d_X6_hangProfile 5 rfl) (fun H locs hw => ?_)
  dsimp only [w_X6, mix, List.set_cons_succ, List.set_cons_zero] at hw
  have hw : Wd D A s.heap (w_X6 cI cC cZ tq0 tq1 tq2 tq3 tq4 t_bends t_laid (upd t_across (0 : Int32).toNatClampNeg (0 : Int32)) t_along) H locs := hw
  refine lv_aload_n hx hb (dc d_X6_hangProfile 6 rfl) rfl (lv_at hl 2 rfl) ?_
  refine lv_iconst (v := (1 : Int32)) hx hb (dc d_X6_hangProfile 7 rfl) (by decide) ?_
  refine lv_iconst (v := (0 : Int32)) hx hb (dc d_X6_hangProfile 8 rfl) (by decide) ?_
  refine x_iast C hw 3 rfl (by decide) (dc d_X6_hangProfile 9 rfl) (fun H locs hw => ?_)
  dsimp only [w_X6, mix, List.set_cons_succ, List.set_cons_zero] at hw
  have hw : Wd D A s.heap (w_X6 cI cC cZ tq0 tq1 tq2 tq3 tq4 t_bends t_laid (upd (upd t_across (0 : Int32).toNatClampNeg (0 : Int32)) (1 : Int32).toNatClampNeg (0 : Int32)) t_along) H locs := hw
  refine lv_iconst (v := (1 : Int32)) hx hb (dc d_X6_hangProfile 10 rfl) (by decide) ?_
  refine lv_istore (lv' := [(4, .int (1 : Int32)), (3, .int (0 : Int32)), (0, .ref tq0), (1, .ref tq3), (2, .int x2)]) hx hb (dc d_X6_hangProfile 11 rfl) hl (by decide) rfl (fun ls hl => ?_)
  exact L13  n (upd (upd t_across (0 : Int32).toNatClampNeg (0 : Int32)) (1 : Int32).toNatClampNeg (0 : Int32)) x2 (0 : Int32) (1 : Int32) _ _ _ hw (lv_sub hl [2, 3, 4, 1, 0] rfl) hf
set_option maxHeartbeats 4000000 in
set_option maxRecDepth 100000 in
theorem k_X6_hangProfile_along (n : Nat) {l : Launch} {D : va_G} {cI cC cZ : ClassId} {tq0 tq1 tq2 tq3 tq4 : Nat} {t_bends : Nat → Int32} {t_laid : Nat → Int32} {t_across : Nat → Int32} {t_along : Nat → Int32} {x2 : Int32} {o : (Nat → Int32)} (hf : f_X6_hangProfile_along n t_bends t_along x2 = some o) : Ctr l yX6_hangProfile cX6_hangProfile 6 none 0 0 D cI cC cZ [.ref tq0, .ref tq4, .int x2] (w_X6 cI cC cZ tq0 tq1 tq2 tq3 tq4 t_bends t_laid t_across t_along) (w_X6 cI cC cZ tq0 tq1 tq2 tq3 tq4 t_bends t_laid t_across o) none := by
  refine Ctr.of (by decide) (Nat.le_of_ble_eq_true rfl) ?_
  intro p e s m args below meth c ls A Q hA hQ C hl hw
  have hx := C.1
  have hb := C.2.1
  have hl : lv_has ls 6 [(0, .ref tq0), (1, .ref tq4), (2, .int x2)] := hl
  have L59 : ∀ (n : Nat), ∀ (t_along : Nat → Int32) (v4 : Int32) (v5 : Int32) (H : Heap) (locs : List Loc) (ls : Array Slot), Wd D A s.heap (w_X6 cI cC cZ tq0 tq1 tq2 tq3 tq4 t_bends t_laid t_across t_along) H locs → lv_has ls 6 [(1, .ref tq4), (4, .int v4), (5, .int v5)] → f_X6_hangProfile_along_59 t_bends  n t_along v4 v5 = some o → W p l e (rmOf 0 0) s m args below meth c H locs 0 0 Q (F0 m 59 ls []) := by
    intro  n
    induction n with
    | zero => intro t_along v4 v5 H locs ls hw hl hf; exact (no_none hf).elim
    | succ n ih =>
      intro t_along v4 v5 H locs ls hw hl hf
      have hf : f_X6_hangProfile_along_59b t_bends  (f_X6_hangProfile_along_59 t_bends  n) n t_along v4 v5 = some o := hf
      generalize f_X6_hangProfile_along_59 t_bends  n = k59 at hf ih
      refine lv_iload hx hb (dc d_X6_hangProfile 44 rfl) (lv_at hl 2 rfl) ?_
      refine lv_bipush (v := (6 : Int32)) hx hb (dc d_X6_hangProfile 45 rfl) (by decide) ?_
      refine lv_icmp_ge (tgt := 88) hx hb (dc d_X6_hangProfile 46 rfl) (by decide) (fun c4 => ?_) (fun c4 => ?_)
      · have hf := g_t hf c4
        cases hf
        exact x_vret C hA hQ hw rfl rfl (dc d_X6_hangProfile 61 rfl)
      · have hf := g_f hf c4
        refine lv_aload_n hx hb (dc d_X6_hangProfile 47 rfl) rfl (lv_at hl 0 rfl) ?_
        refine lv_iload hx hb (dc d_X6_hangProfile 48 rfl) (lv_at hl 2 rfl) ?_
        refine lv_aload_n hx hb (dc d_X6_hangProfile 49 rfl) rfl (lv_at hl 0 rfl) ?_
        refine lv_iload hx hb (dc d_X6_hangProfile 50 rfl) (lv_at hl 2 rfl) ?_
        have hi := grd_b hf
        have hf := grd_x hf
        refine x_iald C hw 4 rfl hi (dc d_X6_hangProfile 51 rfl) ?_
        refine lv_iconst (v := (5 : Int32)) hx hb (dc d_X6_hangProfile 52 rfl) (by decide) ?_
        refine lv_imul hx hb (dc d_X6_hangProfile 53 rfl) ?_
        refine lv_iload hx hb (dc d_X6_hangProfile 54 rfl) (lv_at hl 2 rfl) ?_
        refine lv_iload hx hb (dc d_X6_hangProfile 55 rfl) (lv_at hl 1 rfl) ?_
        refine lv_imul hx hb (dc d_X6_hangProfile 56 rfl) ?_
        refine lv_isub hx hb (dc d_X6_hangProfile 57 rfl) ?_
        have hi := grd_b hf
        have hf := grd_x hf
        refine x_iast C hw 4 rfl hi (dc d_X6_hangProfile 58 rfl) (fun H locs hw => ?_)
        dsimp only [w_X6, mix, List.set_cons_succ, List.set_cons_zero] at hw
        have hw : Wd D A s.heap (w_X6 cI cC cZ tq0 tq1 tq2 tq3 tq4 t_bends t_laid t_across (upd t_along v5.toNatClampNeg (((t_along v5.toNatClampNeg) * (5 : Int32)) - (v5 * v4)))) H locs := hw
        refine lv_iinc (v := (v5 + (1 : Int32))) (lv' := [(5, .int (v5 + (1 : Int32))), (1, .ref tq4), (4, .int v4)]) hx hb (dc d_X6_hangProfile 59 rfl) hl (k := 2) rfl (ii (by decide)) (by decide) rfl (fun ls hl => ?_)
        refine lv_goto (tgt := 59) hx hb (dc d_X6_hangProfile 60 rfl) (by decide) ?_
        exact ih (upd t_along v5.toNatClampNeg (((t_along v5.toNatClampNeg) * (5 : Int32)) - (v5 * v4))) v4 (v5 + (1 : Int32)) _ _ _ hw (lv_sub hl [1, 2, 0] rfl) hf
  have L13 : ∀ (n : Nat), ∀ (t_along : Nat → Int32) (v2 : Int32) (v3 : Int32) (v4 : Int32) (H : Heap) (locs : List Loc) (ls : Array Slot), Wd D A s.heap (w_X6 cI cC cZ tq0 tq1 tq2 tq3 tq4 t_bends t_laid t_across t_along) H locs → lv_has ls 6 [(0, .ref tq0), (1, .ref tq4), (2, .int v2), (3, .int v3), (4, .int v4)] → f_X6_hangProfile_along_13 t_bends  n t_along v2 v3 v4 = some o → W p l e (rmOf 0 0) s m args below meth c H locs 0 0 Q (F0 m 13 ls []) := by
    intro  n
    induction n with
    | zero => intro t_along v2 v3 v4 H locs ls hw hl hf; exact (no_none hf).elim
    | succ n ih =>
      intro t_along v2 v3 v4 H locs ls hw hl hf
      have hf : f_X6_hangProfile_along_13b t_bends  (f_X6_hangProfile_along_13 t_bends  n) n t_along v2 v3 v4 = some o := hf
      generalize f_X6_hangProfile_along_13 t_bends  n = k13 at hf ih
      refine lv_iload hx hb (dc d_X6_hangProfile 12 rfl) (lv_at hl 4 rfl) ?_
      refine lv_iconst (v := (5 : Int32)) hx hb (dc d_X6_hangProfile 13 rfl) (by decide) ?_
      refine lv_icmp_ge (tgt := 51) hx hb (dc d_X6_hangProfile 14 rfl) (by decide) (fun c1 => ?_) (fun c1 => ?_)
      · have hf := g_t hf c1
        refine lv_aload_n hx hb (dc d_X6_hangProfile 38 rfl) rfl (lv_at hl 1 rfl) ?_
        refine lv_iconst (v := (5 : Int32)) hx hb (dc d_X6_hangProfile 39 rfl) (by decide) ?_
        refine x_iald C hw 4 rfl (by decide) (dc d_X6_hangProfile 40 rfl) ?_
        refine lv_topi (fun y2 ey2 => ?_)
        have hf := g_nm hf ey2
        refine lv_istore (lv' := [(4, .int y2), (0, .ref tq0), (1, .ref tq4), (2, .int v2), (3, .int v3)]) hx hb (dc d_X6_hangProfile 41 rfl) hl (by decide) rfl (fun ls hl => ?_)
        refine lv_iconst (v := (0 : Int32)) hx hb (dc d_X6_hangProfile 42 rfl) (by decide) ?_
        refine lv_istore (lv' := [(5, .int (0 : Int32)), (4, .int y2), (0, .ref tq0), (1, .ref tq4), (2, .int v2), (3, .int v3)]) hx hb (dc d_X6_hangProfile 43 rfl) hl (by decide) rfl (fun ls hl => ?_)
        exact L59  n t_along y2 (0 : Int32) _ _ _ hw (lv_sub hl [3, 1, 0] rfl) hf
      · have hf := g_f hf c1
        refine lv_iload_n hx hb (dc d_X6_hangProfile 15 rfl) rfl (lv_at hl 3 rfl) ?_
        refine lv_aload_n hx hb (dc d_X6_hangProfile 16 rfl) rfl (lv_at hl 0 rfl) ?_
        refine x_get C hw fl_X6_9 0 rfl rfl (dc d_X6_hangProfile 17 rfl) ?_
        refine lv_iload_n hx hb (dc d_X6_hangProfile 18 rfl) rfl (lv_at hl 2 rfl) ?_
        refine lv_iload hx hb (dc d_X6_hangProfile 19 rfl) (lv_at hl 4 rfl) ?_
        refine lv_iadd hx hb (dc d_X6_hangProfile 20 rfl) ?_
        refine lv_iconst (v := (1 : Int32)) hx hb (dc d_X6_hangProfile 21 rfl) (by decide) ?_
        refine lv_isub hx hb (dc d_X6_hangProfile 22 rfl) ?_
        have hi := grd_b hf
        have hf := grd_x hf
        refine x_iald C hw 1 rfl hi (dc d_X6_hangProfile 23 rfl) ?_
        refine lv_iadd hx hb (dc d_X6_hangProfile 24 rfl) ?_
        refine lv_topi (fun y3 ey3 => ?_)
        have hf := g_nm hf ey3
        refine lv_istore_n (lv' := [(3, .int y3), (0, .ref tq0), (1, .ref tq4), (2, .int v2), (4, .int v4)]) hx hb (dc d_X6_hangProfile 25 rfl) rfl hl (by decide) rfl (fun ls hl => ?_)
        refine lv_aload_n hx hb (dc d_X6_hangProfile 26 rfl) rfl (lv_at hl 2 rfl) ?_
        refine lv_iload hx hb (dc d_X6_hangProfile 27 rfl) (lv_at hl 4 rfl) ?_
        refine lv_iconst (v := (1 : Int32)) hx hb (dc d_X6_hangProfile 28 rfl) (by decide) ?_
        refine lv_iadd hx hb (dc d_X6_hangProfile 29 rfl) ?_
        refine lv_aload_n hx hb (dc d_X6_hangProfile 30 rfl) rfl (lv_at hl 2 rfl) ?_
        refine lv_iload hx hb (dc d_X6_hangProfile 31 rfl) (lv_at hl 4 rfl) ?_
        have hi := grd_b hf
        have hf := grd_x hf
        refine x_iald C hw 4 rfl hi (dc d_X6_hangProfile 32 rfl) ?_
        refine lv_iload_n hx hb (dc d_X6_hangProfile 33 rfl) rfl (lv_at hl 0 rfl) ?_
        refine lv_iadd hx hb (dc d_X6_hangProfile 34 rfl) ?_
        have hi := grd_b hf
        have hf := grd_x hf
        refine x_iast C hw 4 rfl hi (dc d_X6_hangProfile 35 rfl) (fun H locs hw => ?_)
        dsimp only [w_X6, mix, List.set_cons_succ, List.set_cons_zero] at hw
        have hw : Wd D A s.heap (w_X6 cI cC cZ tq0 tq1 tq2 tq3 tq4 t_bends t_laid t_across (upd t_along (v4 + (1 : Int32)).toNatClampNeg ((t_along v4.toNatClampNeg) + y3))) H locs := hw
        refine lv_iinc (v := (v4 + (1 : Int32))) (lv' := [(4, .int (v4 + (1 : Int32))), (3, .int y3), (0, .ref tq0), (1, .ref tq4), (2, .int v2)]) hx hb (dc d_X6_hangProfile 36 rfl) hl (k := 4) rfl (ii (by decide)) (by decide) rfl (fun ls hl => ?_)
        refine lv_goto (tgt := 13) hx hb (dc d_X6_hangProfile 37 rfl) (by decide) ?_
        exact ih (upd t_along (v4 + (1 : Int32)).toNatClampNeg ((t_along v4.toNatClampNeg) + y3)) v2 y3 (v4 + (1 : Int32)) _ _ _ hw (lv_sub hl [2, 3, 4, 1, 0] rfl) hf
  refine lv_iconst (v := (0 : Int32)) hx hb (dc d_X6_hangProfile 0 rfl) (by decide) ?_
  refine lv_istore_n (lv' := [(3, .int (0 : Int32)), (0, .ref tq0), (1, .ref tq4), (2, .int x2)]) hx hb (dc d_X6_hangProfile 1 rfl) rfl hl (by decide) rfl (fun ls hl => ?_)
  refine lv_aload_n hx hb (dc d_X6_hangProfile 2 rfl) rfl (lv_at hl 2 rfl) ?_
  refine lv_iconst (v := (0 : Int32)) hx hb (dc d_X6_hangProfile 3 rfl) (by decide) ?_
  refine lv_iconst (v := (0 : Int32)) hx hb (dc d_X6_hangProfile 4 rfl) (by decide) ?_
  refine x_iast C hw 4 rfl (by decide) (dc d_X6_hangProfile 5 rfl) (fun H locs hw => ?_)
  dsimp only [w_X6, mix, List.set_cons_succ, List.set_cons_zero] at hw
  have hw : Wd D A s.heap (w_X6 cI cC cZ tq0 tq1 tq2 tq3 tq4 t_bends t_laid t_across (upd t_along (0 : Int32).toNatClampNeg (0 : Int32))) H locs := hw
  refine lv_aload_n hx hb (dc d_X6_hangProfile 6 rfl) rfl (lv_at hl 2 rfl) ?_
  refine lv_iconst (v := (1 : Int32)) hx hb (dc d_X6_hangProfile 7 rfl) (by decide) ?_
  refine lv_iconst (v := (0 : Int32)) hx hb (dc d_X6_hangProfile 8 rfl) (by decide) ?_
  refine x_iast C hw 4 rfl (by decide) (dc d_X6_hangProfile 9 rfl) (fun H locs hw => ?_)
  dsimp only [w_X6, mix, List.set_cons_succ, List.set_cons_zero] at hw
  have hw : Wd D A s.heap (w_X6 cI cC cZ tq0 tq1 tq2 tq3 tq4 t_bends t_laid t_across (upd (upd t_along (0 : Int32).toNatClampNeg (0 : Int32)) (1 : Int32).toNatClampNeg (0 : Int32))) H locs := hw
  refine lv_iconst (v := (1 : Int32)) hx hb (dc d_X6_hangProfile 10 rfl) (by decide) ?_
  refine lv_istore (lv' := [(4, .int (1 : Int32)), (3, .int (0 : Int32)), (0, .ref tq0), (1, .ref tq4), (2, .int x2)]) hx hb (dc d_X6_hangProfile 11 rfl) hl (by decide) rfl (fun ls hl => ?_)
  exact L13  n (upd (upd t_along (0 : Int32).toNatClampNeg (0 : Int32)) (1 : Int32).toNatClampNeg (0 : Int32)) x2 (0 : Int32) (1 : Int32) _ _ _ hw (lv_sub hl [2, 3, 4, 1, 0] rfl) hf
set_option maxHeartbeats 4000000 in
set_option maxRecDepth 100000 in
theorem k_X6_hang (n : Nat) {l : Launch} {D : va_G} {cI cC cZ : ClassId} {tq0 tq1 tq2 tq3 tq4 : Nat} {t_bends : Nat → Int32} {t_laid : Nat → Int32} {t_across : Nat → Int32} {t_along : Nat → Int32}  {o : (Nat → Int32) × (Nat → Int32)} (hf : f_X6_hang n t_bends t_across t_along = some o) : Ctr l yX6_hang cX6_hang 1 none 1 25 D cI cC cZ [.ref tq0] (w_X6 cI cC cZ tq0 tq1 tq2 tq3 tq4 t_bends t_laid t_across t_along) (w_X6 cI cC cZ tq0 tq1 tq2 tq3 tq4 t_bends t_laid o.1 o.2) none := by
  refine Ctr.of (by decide) (Nat.le_of_ble_eq_true rfl) ?_
  intro p e s m args below meth c ls A Q hA hQ C hl hw
  have hx := C.1
  have hb := C.2.1
  have hl : lv_has ls 1 [(0, .ref tq0)] := hl
  refine lv_aload_n hx hb (dc d_X6_hang 0 rfl) rfl (lv_at hl 0 rfl) ?_
  refine lv_aload_n hx hb (dc d_X6_hang 1 rfl) rfl (lv_at hl 0 rfl) ?_
  refine x_get C hw fl_X6_18 0 rfl rfl (dc d_X6_hang 2 rfl) ?_
  refine lv_iconst (v := (0 : Int32)) hx hb (dc d_X6_hang 3 rfl) (by decide) ?_
  obtain ⟨q1, hq1, hf⟩ := g_bd hf
  refine x_callVa C hw mb_X6_hangProfile mv_X6_hangProfile ml_X6_76 (k_X6_hangProfile_across n hq1) hl.1 rfl rfl rfl 0 6 rfl rfl (Nat.le_of_ble_eq_true rfl) (Nat.le_of_ble_eq_true rfl) (Nat.le_of_ble_eq_true rfl) (dc d_X6_hang 4 rfl) (fun H locs hw => ?_)
  refine W.eq (g2 := F0 m 9 ls []) rfl ?_
  have hw : Wd D A s.heap (w_X6 cI cC cZ tq0 tq1 tq2 tq3 tq4 t_bends t_laid q1 t_along) H locs := hw
  refine lv_aload_n hx hb (dc d_X6_hang 5 rfl) rfl (lv_at hl 0 rfl) ?_
  refine lv_aload_n hx hb (dc d_X6_hang 6 rfl) rfl (lv_at hl 0 rfl) ?_
  refine x_get C hw fl_X6_21 0 rfl rfl (dc d_X6_hang 7 rfl) ?_
  refine lv_iconst (v := (4 : Int32)) hx hb (dc d_X6_hang 8 rfl) (by decide) ?_
  obtain ⟨q2, hq2, hf⟩ := g_bd hf
  refine x_callVa C hw mb_X6_hangProfile mv_X6_hangProfile ml_X6_76 (k_X6_hangProfile_along n hq2) hl.1 rfl rfl rfl 0 6 rfl rfl (Nat.le_of_ble_eq_true rfl) (Nat.le_of_ble_eq_true rfl) (Nat.le_of_ble_eq_true rfl) (dc d_X6_hang 9 rfl) (fun H locs hw => ?_)
  refine W.eq (g2 := F0 m 18 ls []) rfl ?_
  have hw : Wd D A s.heap (w_X6 cI cC cZ tq0 tq1 tq2 tq3 tq4 t_bends t_laid q1 q2) H locs := hw
  cases hf
  exact x_vret C hA hQ hw rfl rfl (dc d_X6_hang 10 rfl)
set_option maxHeartbeats 4000000 in
set_option maxRecDepth 100000 in
theorem k_X6_worstWithin (n : Nat) {l : Launch} {D : va_G} {cI cC cZ : ClassId} {tq0 tq1 tq2 tq3 tq4 bq0 bq1 bq2 : Nat} {t_bends : Nat → Int32} {t_laid : Nat → Int32} {t_across : Nat → Int32} {t_along : Nat → Int32} {b_heights : Nat → Int32} {b_hung : Nat → Int32} {x2 : Int32} {o : Int32 × (Nat → Int32) × (Nat → Int32)} (hf : f_X6_worstWithin n t_bends t_across t_along b_hung x2 = some o) : Ctr l yX6_worstWithin cX6_worstWithin 8 (some .int) 2 45 D cI cC cZ [.ref tq0, .ref bq0, .int x2] (w_X6_X10 cI cC cZ tq0 tq1 tq2 tq3 tq4 bq0 bq1 bq2 t_bends t_laid t_across t_along b_heights b_hung) (w_X6_X10 cI cC cZ tq0 tq1 tq2 tq3 tq4 bq0 bq1 bq2 t_bends t_laid o.2.1 o.2.2 b_heights b_hung) (some (.int o.1)) := by
  refine Ctr.of (by decide) (Nat.le_of_ble_eq_true rfl) ?_
  intro p e s m args below meth c ls A Q hA hQ C hl hw
  have hx := C.1
  have hb := C.2.1
  have hl : lv_has ls 8 [(0, .ref tq0), (1, .ref bq0), (2, .int x2)] := hl
  have L22 : ∀ (k12 : (Nat → Int32) → (Nat → Int32) → (Int32) → (Int32) → (Int32) → (Int32) → Option (Int32 × (Nat → Int32) × (Nat → Int32))), (∀ (t_across : Nat → Int32) (t_along : Nat → Int32) (v2 : Int32) (v3 : Int32) (v4 : Int32) (v5 : Int32) (H : Heap) (locs : List Loc) (ls : Array Slot), Wd D A s.heap (w_X6_X10 cI cC cZ tq0 tq1 tq2 tq3 tq4 bq0 bq1 bq2 t_bends t_laid t_across t_along b_heights b_hung) H locs → lv_has ls 8 [(0, .ref tq0), (1, .ref bq0), (2, .int v2), (3, .int v3), (4, .int v4), (5, .int v5)] → k12 t_across t_along v2 v3 v4 v5 = some o → W p l e (rmOf 2 45) s m args below meth c H locs 0 0 Q (F0 m 12 ls [])) → ∀ (n : Nat), ∀ (t_across : Nat → Int32) (t_along : Nat → Int32) (v2 : Int32) (v3 : Int32) (v4 : Int32) (v5 : Int32) (v6 : Int32) (H : Heap) (locs : List Loc) (ls : Array Slot), Wd D A s.heap (w_X6_X10 cI cC cZ tq0 tq1 tq2 tq3 tq4 bq0 bq1 bq2 t_bends t_laid t_across t_along b_heights b_hung) H locs → lv_has ls 8 [(0, .ref tq0), (1, .ref bq0), (2, .int v2), (3, .int v3), (4, .int v4), (5, .int v5), (6, .int v6)] → f_X6_worstWithin_22 t_bends b_hung k12 n t_across t_along v2 v3 v4 v5 v6 = some o → W p l e (rmOf 2 45) s m args below meth c H locs 0 0 Q (F0 m 22 ls []) := by
    intro k12 H12 n
    induction n with
    | zero => intro t_across t_along v2 v3 v4 v5 v6 H locs ls hw hl hf; exact (no_none hf).elim
    | succ n ih =>
      intro t_across t_along v2 v3 v4 v5 v6 H locs ls hw hl hf
      have hf : f_X6_worstWithin_22b t_bends b_hung k12 (f_X6_worstWithin_22 t_bends b_hung k12 n) n t_across t_along v2 v3 v4 v5 v6 = some o := hf
      generalize f_X6_worstWithin_22 t_bends b_hung k12 n = k22 at hf ih
      refine lv_iload hx hb (dc d_X6_worstWithin 13 rfl) (lv_at hl 6 rfl) ?_
      refine lv_bipush (v := (6 : Int32)) hx hb (dc d_X6_worstWithin 14 rfl) (by decide) ?_
      refine lv_icmp_ge (tgt := 82) hx hb (dc d_X6_worstWithin 15 rfl) (by decide) (fun c3 => ?_) (fun c3 => ?_)
      · have hf := g_t hf c3
        refine lv_iinc (v := (v5 + (1 : Int32))) (lv' := [(5, .int (v5 + (1 : Int32))), (0, .ref tq0), (1, .ref bq0), (2, .int v2), (3, .int v3), (4, .int v4), (6, .int v6)]) hx hb (dc d_X6_worstWithin 44 rfl) hl (k := 5) rfl (ii (by decide)) (by decide) rfl (fun ls hl => ?_)
        refine lv_goto (tgt := 12) hx hb (dc d_X6_worstWithin 45 rfl) (by decide) ?_
        exact H12 t_across t_along v2 v3 v4 (v5 + (1 : Int32)) _ _ _ hw (lv_sub hl [1, 2, 3, 4, 5, 0] rfl) hf
      · have hf := g_f hf c3
        refine lv_aload_n hx hb (dc d_X6_worstWithin 16 rfl) rfl (lv_at hl 0 rfl) ?_
        refine x_get C hw fl_X6_18 0 rfl rfl (dc d_X6_worstWithin 17 rfl) ?_
        refine lv_iload hx hb (dc d_X6_worstWithin 18 rfl) (lv_at hl 6 rfl) ?_
        have hi := grd_b hf
        have hf := grd_x hf
        refine x_iald C hw 3 rfl hi (dc d_X6_worstWithin 19 rfl) ?_
        refine lv_aload_n hx hb (dc d_X6_worstWithin 20 rfl) rfl (lv_at hl 0 rfl) ?_
        refine x_get C hw fl_X6_21 0 rfl rfl (dc d_X6_worstWithin 21 rfl) ?_
        refine lv_iload hx hb (dc d_X6_worstWithin 22 rfl) (lv_at hl 5 rfl) ?_
        have hi := grd_b hf
        have hf := grd_x hf
        refine x_iald C hw 4 rfl hi (dc d_X6_worstWithin 23 rfl) ?_
        refine lv_iadd hx hb (dc d_X6_worstWithin 24 rfl) ?_
        refine lv_aload_n hx hb (dc d_X6_worstWithin 25 rfl) rfl (lv_at hl 1 rfl) ?_
        refine x_get C hw fl_X6_82 5 rfl rfl (dc d_X6_worstWithin 26 rfl) ?_
        refine lv_iload hx hb (dc d_X6_worstWithin 27 rfl) (lv_at hl 4 rfl) ?_
        have hi := grd_b hf
        have hf := grd_x hf
        refine x_iald C hw 7 rfl hi (dc d_X6_worstWithin 28 rfl) ?_
        refine lv_isub hx hb (dc d_X6_worstWithin 29 rfl) ?_
        refine x_abs C hl.1 ml_X6_87 ms_J9_abs_0f7a4 in_java_lang_Math cd_Lib_Math_abs (Nat.le_of_ble_eq_true rfl) (Nat.le_of_ble_eq_true rfl) (dc d_X6_worstWithin 30 rfl) ?_
        refine lv_topi (fun y4 ey4 => ?_)
        have hf := g_nm hf ey4
        refine lv_istore (lv' := [(7, .int y4), (0, .ref tq0), (1, .ref bq0), (2, .int v2), (3, .int v3), (4, .int v4), (5, .int v5), (6, .int v6)]) hx hb (dc d_X6_worstWithin 31 rfl) hl (by decide) rfl (fun ls hl => ?_)
        refine lv_iload hx hb (dc d_X6_worstWithin 32 rfl) (lv_at hl 0 rfl) ?_
        refine lv_iload_n hx hb (dc d_X6_worstWithin 33 rfl) rfl (lv_at hl 3 rfl) ?_
        refine lv_icmp_le (tgt := 66) hx hb (dc d_X6_worstWithin 34 rfl) (by decide) (fun c5 => ?_) (fun c5 => ?_)
        · have hf := g_t hf c5
          refine lv_iload_n hx hb (dc d_X6_worstWithin 37 rfl) rfl (lv_at hl 4 rfl) ?_
          refine lv_iload hx hb (dc d_X6_worstWithin 38 rfl) (lv_at hl 0 rfl) ?_
          refine x_max C hl.1 ml_X6_71 ms_J9_max_7cf53 in_java_lang_Math cd_Lib_Math_max (Nat.le_of_ble_eq_true rfl) (Nat.le_of_ble_eq_true rfl) (dc d_X6_worstWithin 39 rfl) ?_
          refine lv_topi (fun y6 ey6 => ?_)
          have hf := g_nm hf ey6
          refine lv_istore_n (lv' := [(3, .int y6), (7, .int y4), (0, .ref tq0), (1, .ref bq0), (2, .int v2), (4, .int v4), (5, .int v5), (6, .int v6)]) hx hb (dc d_X6_worstWithin 40 rfl) rfl hl (by decide) rfl (fun ls hl => ?_)
          refine lv_iinc (v := (v4 + (1 : Int32))) (lv' := [(4, .int (v4 + (1 : Int32))), (3, .int y6), (7, .int y4), (0, .ref tq0), (1, .ref bq0), (2, .int v2), (5, .int v5), (6, .int v6)]) hx hb (dc d_X6_worstWithin 41 rfl) hl (k := 5) rfl (ii (by decide)) (by decide) rfl (fun ls hl => ?_)
          refine lv_iinc (v := (v6 + (1 : Int32))) (lv' := [(6, .int (v6 + (1 : Int32))), (4, .int (v4 + (1 : Int32))), (3, .int y6), (7, .int y4), (0, .ref tq0), (1, .ref bq0), (2, .int v2), (5, .int v5)]) hx hb (dc d_X6_worstWithin 42 rfl) hl (k := 7) rfl (ii (by decide)) (by decide) rfl (fun ls hl => ?_)
          refine lv_goto (tgt := 22) hx hb (dc d_X6_worstWithin 43 rfl) (by decide) ?_
          exact ih t_across t_along v2 y6 (v4 + (1 : Int32)) v5 (v6 + (1 : Int32)) _ _ _ hw (lv_sub hl [4, 5, 6, 2, 1, 7, 0] rfl) hf
        · have hf := g_f hf c5
          refine lv_iload hx hb (dc d_X6_worstWithin 35 rfl) (lv_at hl 0 rfl) ?_
          cases hf
          exact x_iret C hA hQ hw rfl rfl (dc d_X6_worstWithin 36 rfl)
  have L12 : ∀ (n : Nat), ∀ (t_across : Nat → Int32) (t_along : Nat → Int32) (v2 : Int32) (v3 : Int32) (v4 : Int32) (v5 : Int32) (H : Heap) (locs : List Loc) (ls : Array Slot), Wd D A s.heap (w_X6_X10 cI cC cZ tq0 tq1 tq2 tq3 tq4 bq0 bq1 bq2 t_bends t_laid t_across t_along b_heights b_hung) H locs → lv_has ls 8 [(0, .ref tq0), (1, .ref bq0), (2, .int v2), (3, .int v3), (4, .int v4), (5, .int v5)] → f_X6_worstWithin_12 t_bends b_hung  n t_across t_along v2 v3 v4 v5 = some o → W p l e (rmOf 2 45) s m args below meth c H locs 0 0 Q (F0 m 12 ls []) := by
    intro  n
    induction n with
    | zero => intro t_across t_along v2 v3 v4 v5 H locs ls hw hl hf; exact (no_none hf).elim
    | succ n ih =>
      intro t_across t_along v2 v3 v4 v5 H locs ls hw hl hf
      have hf : f_X6_worstWithin_12b t_bends b_hung  (f_X6_worstWithin_12 t_bends b_hung  n) n t_across t_along v2 v3 v4 v5 = some o := hf
      generalize f_X6_worstWithin_12 t_bends b_hung  n = k12 at hf ih
      refine lv_iload hx hb (dc d_X6_worstWithin 8 rfl) (lv_at hl 5 rfl) ?_
      refine lv_bipush (v := (6 : Int32)) hx hb (dc d_X6_worstWithin 9 rfl) (by decide) ?_
      refine lv_icmp_ge (tgt := 88) hx hb (dc d_X6_worstWithin 10 rfl) (by decide) (fun c2 => ?_) (fun c2 => ?_)
      · have hf := g_t hf c2
        refine lv_iload_n hx hb (dc d_X6_worstWithin 46 rfl) rfl (lv_at hl 3 rfl) ?_
        cases hf
        exact x_iret C hA hQ hw rfl rfl (dc d_X6_worstWithin 47 rfl)
      · have hf := g_f hf c2
        refine lv_iconst (v := (0 : Int32)) hx hb (dc d_X6_worstWithin 11 rfl) (by decide) ?_
        refine lv_istore (lv' := [(6, .int (0 : Int32)), (0, .ref tq0), (1, .ref bq0), (2, .int v2), (3, .int v3), (4, .int v4), (5, .int v5)]) hx hb (dc d_X6_worstWithin 12 rfl) hl (by decide) rfl (fun ls hl => ?_)
        exact L22 k12 ih n t_across t_along v2 v3 v4 v5 (0 : Int32) _ _ _ hw (lv_sub hl [1, 2, 3, 4, 5, 6, 0] rfl) hf
  refine lv_aload_n hx hb (dc d_X6_worstWithin 0 rfl) rfl (lv_at hl 0 rfl) ?_
  obtain ⟨q1, hq1, hf⟩ := g_bd hf
  refine x_callV C hw mb_X6_hang mv_X6_hang ml_X6_79 (k_X6_hang n hq1) hl.1 rfl rfl [0, 1, 2, 3, 4] rfl rfl rfl 0 6 rfl rfl (Nat.le_of_ble_eq_true rfl) (Nat.le_of_ble_eq_true rfl) (Nat.le_of_ble_eq_true rfl) (dc d_X6_worstWithin 1 rfl) (fun H locs hw => ?_)
  refine W.eq (g2 := F0 m 4 ls []) rfl ?_
  dsimp only [w_X6_X10, w_X6, mix, List.set_cons_succ, List.set_cons_zero] at hw
  have hw : Wd D A s.heap (w_X6_X10 cI cC cZ tq0 tq1 tq2 tq3 tq4 bq0 bq1 bq2 t_bends t_laid q1.1 q1.2 b_heights b_hung) H locs := hw
  refine lv_iconst (v := (0 : Int32)) hx hb (dc d_X6_worstWithin 2 rfl) (by decide) ?_
  refine lv_istore_n (lv' := [(3, .int (0 : Int32)), (0, .ref tq0), (1, .ref bq0), (2, .int x2)]) hx hb (dc d_X6_worstWithin 3 rfl) rfl hl (by decide) rfl (fun ls hl => ?_)
  refine lv_iconst (v := (0 : Int32)) hx hb (dc d_X6_worstWithin 4 rfl) (by decide) ?_
  refine lv_istore (lv' := [(4, .int (0 : Int32)), (3, .int (0 : Int32)), (0, .ref tq0), (1, .ref bq0), (2, .int x2)]) hx hb (dc d_X6_worstWithin 5 rfl) hl (by decide) rfl (fun ls hl => ?_)
  refine lv_iconst (v := (0 : Int32)) hx hb (dc d_X6_worstWithin 6 rfl) (by decide) ?_
  refine lv_istore (lv' := [(5, .int (0 : Int32)), (4, .int (0 : Int32)), (3, .int (0 : Int32)), (0, .ref tq0), (1, .ref bq0), (2, .int x2)]) hx hb (dc d_X6_worstWithin 7 rfl) hl (by decide) rfl (fun ls hl => ?_)
  exact L12  n q1.1 q1.2 x2 (0 : Int32) (0 : Int32) (0 : Int32) _ _ _ hw (lv_sub hl [3, 4, 5, 2, 1, 0] rfl) hf
set_option maxHeartbeats 4000000 in
set_option maxRecDepth 100000 in
theorem k_X4_findSet (n : Nat) {l : Launch} {D : va_G} {cI cC cZ : ClassId} {tq0 tq1 tq2 tq3 tq4 tq5 tq6 tq7 tq8 tq9 tq10 bq0 bq1 bq2 bq3 bq4 dq0 dq1 dq2 eq0 eq1 eq2 : Nat} {t_items_room : Int32} {t_items_line : Nat → Int32} {t_items_strength : Nat → Int32} {t_items_water : Nat → Int32} {t_items_back : Nat → Int32} {t_items_count : Int32} {t_trial_bends : Nat → Int32} {t_trial_laid : Nat → Int32} {t_trial_across : Nat → Int32} {t_trial_along : Nat → Int32} {t_found : Int32} {t_foundWorst : Int32} {b_bends : Nat → Int32} {b_laid : Nat → Int32} {b_across : Nat → Int32} {b_along : Nat → Int32} {d_settings : Nat → Int32} {d_numbers : Nat → Int32} {e_heights : Nat → Int32} {e_hung : Nat → Int32} {x2 : Int32} {o : (Nat → Int32) × (Nat → Int32) × (Nat → Int32) × (Nat → Int32) × Int32 × Int32} (hf : f_X4_findSet n t_items_line t_items_strength t_items_water t_items_back t_items_count t_trial_bends t_trial_laid t_trial_across t_trial_along t_found t_foundWorst b_bends b_laid d_settings d_numbers e_hung x2 = some o) : Ctr l yX4_findSet cX4_findSet 11 none 5 121 D cI cC cZ [.ref tq0, .ref bq0, .int x2, .ref dq0, .ref eq0] (w_X4_X6_X5_X10 cI cC cZ tq0 tq1 tq2 tq3 tq4 tq5 tq6 tq7 tq8 tq9 tq10 bq0 bq1 bq2 bq3 bq4 dq0 dq1 dq2 eq0 eq1 eq2 t_items_room t_items_line t_items_strength t_items_water t_items_back t_items_count t_trial_bends t_trial_laid t_trial_across t_trial_along t_found t_foundWorst b_bends b_laid b_across b_along d_settings d_numbers e_heights e_hung) (w_X4_X6_X5_X10 cI cC cZ tq0 tq1 tq2 tq3 tq4 tq5 tq6 tq7 tq8 tq9 tq10 bq0 bq1 bq2 bq3 bq4 dq0 dq1 dq2 eq0 eq1 eq2 t_items_room t_items_line t_items_strength t_items_water t_items_back t_items_count o.1 o.2.1 o.2.2.1 o.2.2.2.1 o.2.2.2.2.1 o.2.2.2.2.2 b_bends b_laid b_across b_along d_settings d_numbers e_heights e_hung) none := by
  refine Ctr.of (by decide) (Nat.le_of_ble_eq_true rfl) ?_
  intro p e s m args below meth c ls A Q hA hQ C hl hw
  have hx := C.1
  have hb := C.2.1
  have hl : lv_has ls 11 [(0, .ref tq0), (1, .ref bq0), (2, .int x2), (3, .ref dq0), (4, .ref eq0)] := hl
  have L60 : ∀ (k16 : (Nat → Int32) → (Nat → Int32) → (Nat → Int32) → (Nat → Int32) → (Int32) → (Int32) → (Int32) → (Int32) → (Int32) → (Int32) → Option ((Nat → Int32) × (Nat → Int32) × (Nat → Int32) × (Nat → Int32) × Int32 × Int32)), (∀ (t_trial_bends : Nat → Int32) (t_trial_laid : Nat → Int32) (t_trial_across : Nat → Int32) (t_trial_along : Nat → Int32) (t_found : Int32) (t_foundWorst : Int32) (v2 : Int32) (v5 : Int32) (v6 : Int32) (v7 : Int32) (H : Heap) (locs : List Loc) (ls : Array Slot), Wd D A s.heap (w_X4_X6_X5_X10 cI cC cZ tq0 tq1 tq2 tq3 tq4 tq5 tq6 tq7 tq8 tq9 tq10 bq0 bq1 bq2 bq3 bq4 dq0 dq1 dq2 eq0 eq1 eq2 t_items_room t_items_line t_items_strength t_items_water t_items_back t_items_count t_trial_bends t_trial_laid t_trial_across t_trial_along t_found t_foundWorst b_bends b_laid b_across b_along d_settings d_numbers e_heights e_hung) H locs → lv_has ls 11 [(0, .ref tq0), (1, .ref bq0), (2, .int v2), (3, .ref dq0), (4, .ref eq0), (5, .int v5), (6, .int v6), (7, .int v7)] → k16 t_trial_bends t_trial_laid t_trial_across t_trial_along t_found t_foundWorst v2 v5 v6 v7 = some o → W p l e (rmOf 5 121) s m args below meth c H locs 0 0 Q (F0 m 16 ls [])) → ∀ (n : Nat), ∀ (t_trial_bends : Nat → Int32) (t_trial_laid : Nat → Int32) (t_trial_across : Nat → Int32) (t_trial_along : Nat → Int32) (t_found : Int32) (t_foundWorst : Int32) (v2 : Int32) (v5 : Int32) (v6 : Int32) (v7 : Int32) (v8 : Int32) (s0 : Int32) (H : Heap) (locs : List Loc) (ls : Array Slot), Wd D A s.heap (w_X4_X6_X5_X10 cI cC cZ tq0 tq1 tq2 tq3 tq4 tq5 tq6 tq7 tq8 tq9 tq10 bq0 bq1 bq2 bq3 bq4 dq0 dq1 dq2 eq0 eq1 eq2 t_items_room t_items_line t_items_strength t_items_water t_items_back t_items_count t_trial_bends t_trial_laid t_trial_across t_trial_along t_found t_foundWorst b_bends b_laid b_across b_along d_settings d_numbers e_heights e_hung) H locs → lv_has ls 11 [(0, .ref tq0), (1, .ref bq0), (2, .int v2), (3, .ref dq0), (4, .ref eq0), (5, .int v5), (6, .int v6), (7, .int v7), (8, .int v8)] → f_X4_findSet_60 t_items_line t_items_strength t_items_water t_items_back t_items_count b_bends b_laid d_settings d_numbers e_hung k16 n t_trial_bends t_trial_laid t_trial_across t_trial_along t_found t_foundWorst v2 v5 v6 v7 v8 s0 = some o → W p l e (rmOf 5 121) s m args below meth c H locs 0 0 Q (F0 m 60 ls [.int s0]) := by
    intro k16 H16 n t_trial_bends t_trial_laid t_trial_across t_trial_along t_found t_foundWorst v2 v5 v6 v7 v8 s0 H locs ls hw hl hf
    refine lv_istore (lv' := [(9, .int s0), (0, .ref tq0), (1, .ref bq0), (2, .int v2), (3, .ref dq0), (4, .ref eq0), (5, .int v5), (6, .int v6), (7, .int v7), (8, .int v8)]) hx hb (dc d_X4_findSet 29 rfl) hl (by decide) rfl (fun ls hl => ?_)
    refine lv_aload_n hx hb (dc d_X4_findSet 30 rfl) rfl (lv_at hl 1 rfl) ?_
    refine x_get C hw fl_X4_23 0 rfl rfl (dc d_X4_findSet 31 rfl) ?_
    refine lv_aload_n hx hb (dc d_X4_findSet 32 rfl) rfl (lv_at hl 2 rfl) ?_
    obtain ⟨q5, hq5, hf⟩ := g_bd hf
    refine x_callV C hw mb_X6_becomeLike mv_X6_becomeLike ml_X4_40 (k_X6_becomeLike n hq5) hl.1 rfl rfl [6, 7, 8, 9, 10, 11, 12, 13, 14, 15] rfl rfl rfl 6 6 rfl rfl (Nat.le_of_ble_eq_true rfl) (Nat.le_of_ble_eq_true rfl) (Nat.le_of_ble_eq_true rfl) (dc d_X4_findSet 33 rfl) (fun H locs hw => ?_)
    refine W.eq (g2 := F0 m 70 ls []) rfl ?_
    dsimp only [w_X4_X6_X5_X10, w_X6_X6, mix, List.set_cons_succ, List.set_cons_zero] at hw
    have hw : Wd D A s.heap (w_X4_X6_X5_X10 cI cC cZ tq0 tq1 tq2 tq3 tq4 tq5 tq6 tq7 tq8 tq9 tq10 bq0 bq1 bq2 bq3 bq4 dq0 dq1 dq2 eq0 eq1 eq2 t_items_room t_items_line t_items_strength t_items_water t_items_back t_items_count q5.1 q5.2 t_trial_across t_trial_along t_found t_foundWorst b_bends b_laid b_across b_along d_settings d_numbers e_heights e_hung) H locs := hw
    refine lv_aload_n hx hb (dc d_X4_findSet 34 rfl) rfl (lv_at hl 1 rfl) ?_
    refine lv_iload hx hb (dc d_X4_findSet 35 rfl) (lv_at hl 8 rfl) ?_
    refine lv_aload_n hx hb (dc d_X4_findSet 36 rfl) rfl (lv_at hl 4 rfl) ?_
    obtain ⟨q6, hq6, hf⟩ := g_bd hf
    refine x_callV C hw mb_X4_laySet mv_X4_laySet ml_X4_44 (k_X4_laySet n hq6) hl.1 rfl rfl [0, 1, 2, 3, 4, 5, 6, 7, 8, 9, 10, 16, 17, 18] rfl rfl rfl 0 4 rfl rfl (Nat.le_of_ble_eq_true rfl) (Nat.le_of_ble_eq_true rfl) (Nat.le_of_ble_eq_true rfl) (dc d_X4_findSet 37 rfl) (fun H locs hw => ?_)
    refine W.eq (g2 := F0 m 77 ls []) rfl ?_
    dsimp only [w_X4_X6_X5_X10, w_X4_X5, mix, List.set_cons_succ, List.set_cons_zero] at hw
    have hw : Wd D A s.heap (w_X4_X6_X5_X10 cI cC cZ tq0 tq1 tq2 tq3 tq4 tq5 tq6 tq7 tq8 tq9 tq10 bq0 bq1 bq2 bq3 bq4 dq0 dq1 dq2 eq0 eq1 eq2 t_items_room t_items_line t_items_strength t_items_water t_items_back t_items_count q6.1 q6.2 t_trial_across t_trial_along t_found t_foundWorst b_bends b_laid b_across b_along d_settings d_numbers e_heights e_hung) H locs := hw
    refine lv_aload_n hx hb (dc d_X4_findSet 38 rfl) rfl (lv_at hl 1 rfl) ?_
    refine x_get C hw fl_X4_23 0 rfl rfl (dc d_X4_findSet 39 rfl) ?_
    refine lv_aload hx hb (dc d_X4_findSet 40 rfl) (lv_at hl 5 rfl) ?_
    refine lv_iload hx hb (dc d_X4_findSet 41 rfl) (lv_at hl 0 rfl) ?_
    obtain ⟨q7, hq7, hf⟩ := g_bd hf
    refine x_callV C hw mb_X6_worstWithin mv_X6_worstWithin ml_X4_48 (k_X6_worstWithin n hq7) hl.1 rfl rfl [6, 7, 8, 9, 10, 19, 20, 21] rfl rfl rfl 6 6 rfl rfl (Nat.le_of_ble_eq_true rfl) (Nat.le_of_ble_eq_true rfl) (Nat.le_of_ble_eq_true rfl) (dc d_X4_findSet 42 rfl) (fun H locs hw => ?_)
    refine W.eq (g2 := F0 m 88 ls [.int q7.1]) rfl ?_
    dsimp only [w_X4_X6_X5_X10, w_X6_X10, mix, List.set_cons_succ, List.set_cons_zero] at hw
    have hw : Wd D A s.heap (w_X4_X6_X5_X10 cI cC cZ tq0 tq1 tq2 tq3 tq4 tq5 tq6 tq7 tq8 tq9 tq10 bq0 bq1 bq2 bq3 bq4 dq0 dq1 dq2 eq0 eq1 eq2 t_items_room t_items_line t_items_strength t_items_water t_items_back t_items_count q6.1 q6.2 q7.2.1 q7.2.2 t_found t_foundWorst b_bends b_laid b_across b_along d_settings d_numbers e_heights e_hung) H locs := hw
    refine lv_istore (lv' := [(10, .int q7.1), (9, .int s0), (0, .ref tq0), (1, .ref bq0), (2, .int v2), (3, .ref dq0), (4, .ref eq0), (5, .int v5), (6, .int v6), (7, .int v7), (8, .int v8)]) hx hb (dc d_X4_findSet 43 rfl) hl (by decide) rfl (fun ls hl => ?_)
    refine lv_iload hx hb (dc d_X4_findSet 44 rfl) (lv_at hl 0 rfl) ?_
    refine lv_iload hx hb (dc d_X4_findSet 45 rfl) (lv_at hl 1 rfl) ?_
    refine lv_icmp_gt (tgt := 119) hx hb (dc d_X4_findSet 46 rfl) (by decide) (fun c8 => ?_) (fun c8 => ?_)
    · have hf := g_t hf c8
      refine lv_iinc (v := (v7 + (1 : Int32))) (lv' := [(7, .int (v7 + (1 : Int32))), (10, .int q7.1), (9, .int s0), (0, .ref tq0), (1, .ref bq0), (2, .int v2), (3, .ref dq0), (4, .ref eq0), (5, .int v5), (6, .int v6), (8, .int v8)]) hx hb (dc d_X4_findSet 59 rfl) hl (k := 9) rfl (ii (by decide)) (by decide) rfl (fun ls hl => ?_)
      refine lv_goto (tgt := 16) hx hb (dc d_X4_findSet 60 rfl) (by decide) ?_
      exact H16 q6.1 q6.2 q7.2.1 q7.2.2 t_found t_foundWorst v2 v5 v6 (v7 + (1 : Int32)) _ _ _ hw (lv_sub hl [3, 4, 5, 6, 7, 8, 9, 0] rfl) hf
    · have hf := g_f hf c8
      refine lv_aload_n hx hb (dc d_X4_findSet 47 rfl) rfl (lv_at hl 2 rfl) ?_
      refine lv_iload hx hb (dc d_X4_findSet 48 rfl) (lv_at hl 9 rfl) ?_
      refine x_put C hw fl_X4_27 fw_X4_2 0 rfl rfl rfl (Nat.le_of_ble_eq_true rfl) (dc d_X4_findSet 49 rfl) (fun H locs hw => ?_)
      dsimp only [w_X4_X6_X5_X10, mix, List.set_cons_succ, List.set_cons_zero] at hw
      have hw : Wd D A s.heap (w_X4_X6_X5_X10 cI cC cZ tq0 tq1 tq2 tq3 tq4 tq5 tq6 tq7 tq8 tq9 tq10 bq0 bq1 bq2 bq3 bq4 dq0 dq1 dq2 eq0 eq1 eq2 t_items_room t_items_line t_items_strength t_items_water t_items_back t_items_count q6.1 q6.2 q7.2.1 q7.2.2 v7 t_foundWorst b_bends b_laid b_across b_along d_settings d_numbers e_heights e_hung) H locs := hw
      refine lv_aload_n hx hb (dc d_X4_findSet 50 rfl) rfl (lv_at hl 2 rfl) ?_
      refine lv_iload hx hb (dc d_X4_findSet 51 rfl) (lv_at hl 0 rfl) ?_
      refine x_put C hw fl_X4_52 fw_X4_3 0 rfl rfl rfl (Nat.le_of_ble_eq_true rfl) (dc d_X4_findSet 52 rfl) (fun H locs hw => ?_)
      dsimp only [w_X4_X6_X5_X10, mix, List.set_cons_succ, List.set_cons_zero] at hw
      have hw : Wd D A s.heap (w_X4_X6_X5_X10 cI cC cZ tq0 tq1 tq2 tq3 tq4 tq5 tq6 tq7 tq8 tq9 tq10 bq0 bq1 bq2 bq3 bq4 dq0 dq1 dq2 eq0 eq1 eq2 t_items_room t_items_line t_items_strength t_items_water t_items_back t_items_count q6.1 q6.2 q7.2.1 q7.2.2 v7 q7.1 b_bends b_laid b_across b_along d_settings d_numbers e_heights e_hung) H locs := hw
      refine lv_iload hx hb (dc d_X4_findSet 53 rfl) (lv_at hl 10 rfl) ?_
      refine lv_istore (lv' := [(5, .int v8), (10, .int q7.1), (9, .int s0), (0, .ref tq0), (1, .ref bq0), (2, .int v2), (3, .ref dq0), (4, .ref eq0), (6, .int v6), (7, .int v7), (8, .int v8)]) hx hb (dc d_X4_findSet 54 rfl) hl (by decide) rfl (fun ls hl => ?_)
      refine lv_iload hx hb (dc d_X4_findSet 55 rfl) (lv_at hl 1 rfl) ?_
      refine lv_iconst (v := (1 : Int32)) hx hb (dc d_X4_findSet 56 rfl) (by decide) ?_
      refine lv_isub hx hb (dc d_X4_findSet 57 rfl) ?_
      refine lv_topi (fun y9 ey9 => ?_)
      have hf := g_nm hf ey9
      refine lv_istore (lv' := [(6, .int y9), (5, .int v8), (10, .int q7.1), (9, .int s0), (0, .ref tq0), (1, .ref bq0), (2, .int v2), (3, .ref dq0), (4, .ref eq0), (7, .int v7), (8, .int v8)]) hx hb (dc d_X4_findSet 58 rfl) hl (by decide) rfl (fun ls hl => ?_)
      refine lv_iinc (v := (v7 + (1 : Int32))) (lv' := [(7, .int (v7 + (1 : Int32))), (6, .int y9), (5, .int v8), (10, .int q7.1), (9, .int s0), (0, .ref tq0), (1, .ref bq0), (2, .int v2), (3, .ref dq0), (4, .ref eq0), (8, .int v8)]) hx hb (dc d_X4_findSet 59 rfl) hl (k := 9) rfl (ii (by decide)) (by decide) rfl (fun ls hl => ?_)
      refine lv_goto (tgt := 16) hx hb (dc d_X4_findSet 60 rfl) (by decide) ?_
      exact H16 q6.1 q6.2 q7.2.1 q7.2.2 v7 q7.1 v2 v8 y9 (v7 + (1 : Int32)) _ _ _ hw (lv_sub hl [5, 6, 7, 8, 9, 2, 1, 0] rfl) hf
  have L16 : ∀ (n : Nat), ∀ (t_trial_bends : Nat → Int32) (t_trial_laid : Nat → Int32) (t_trial_across : Nat → Int32) (t_trial_along : Nat → Int32) (t_found : Int32) (t_foundWorst : Int32) (v2 : Int32) (v5 : Int32) (v6 : Int32) (v7 : Int32) (H : Heap) (locs : List Loc) (ls : Array Slot), Wd D A s.heap (w_X4_X6_X5_X10 cI cC cZ tq0 tq1 tq2 tq3 tq4 tq5 tq6 tq7 tq8 tq9 tq10 bq0 bq1 bq2 bq3 bq4 dq0 dq1 dq2 eq0 eq1 eq2 t_items_room t_items_line t_items_strength t_items_water t_items_back t_items_count t_trial_bends t_trial_laid t_trial_across t_trial_along t_found t_foundWorst b_bends b_laid b_across b_along d_settings d_numbers e_heights e_hung) H locs → lv_has ls 11 [(0, .ref tq0), (1, .ref bq0), (2, .int v2), (3, .ref dq0), (4, .ref eq0), (5, .int v5), (6, .int v6), (7, .int v7)] → f_X4_findSet_16 t_items_line t_items_strength t_items_water t_items_back t_items_count b_bends b_laid d_settings d_numbers e_hung  n t_trial_bends t_trial_laid t_trial_across t_trial_along t_found t_foundWorst v2 v5 v6 v7 = some o → W p l e (rmOf 5 121) s m args below meth c H locs 0 0 Q (F0 m 16 ls []) := by
    intro  n
    induction n with
    | zero => intro t_trial_bends t_trial_laid t_trial_across t_trial_along t_found t_foundWorst v2 v5 v6 v7 H locs ls hw hl hf; exact (no_none hf).elim
    | succ n ih =>
      intro t_trial_bends t_trial_laid t_trial_across t_trial_along t_found t_foundWorst v2 v5 v6 v7 H locs ls hw hl hf
      have hf : f_X4_findSet_16b t_items_line t_items_strength t_items_water t_items_back t_items_count b_bends b_laid d_settings d_numbers e_hung  (f_X4_findSet_16 t_items_line t_items_strength t_items_water t_items_back t_items_count b_bends b_laid d_settings d_numbers e_hung  n) n t_trial_bends t_trial_laid t_trial_across t_trial_along t_found t_foundWorst v2 v5 v6 v7 = some o := hf
      generalize f_X4_findSet_16 t_items_line t_items_strength t_items_water t_items_back t_items_count b_bends b_laid d_settings d_numbers e_hung  n = k16 at hf ih
      refine lv_iload hx hb (dc d_X4_findSet 9 rfl) (lv_at hl 7 rfl) ?_
      refine lv_iconst (v := (1 : Int32)) hx hb (dc d_X4_findSet 10 rfl) (by decide) ?_
      refine lv_aload_n hx hb (dc d_X4_findSet 11 rfl) rfl (lv_at hl 0 rfl) ?_
      refine x_get C hw fl_X4_14 0 rfl rfl (dc d_X4_findSet 12 rfl) ?_
      refine x_get C hw fl_X4_31 1 rfl rfl (dc d_X4_findSet 13 rfl) ?_
      refine x_shl hx hb (dc d_X4_findSet 14 rfl) ?_
      refine lv_icmp_ge (tgt := 125) hx hb (dc d_X4_findSet 15 rfl) (by decide) (fun c1 => ?_) (fun c1 => ?_)
      · have hf := g_t hf c1
        cases hf
        exact x_vret C hA hQ hw rfl rfl (dc d_X4_findSet 61 rfl)
      · have hf := g_f hf c1
        refine lv_iload hx hb (dc d_X4_findSet 16 rfl) (lv_at hl 7 rfl) ?_
        obtain ⟨q2, hq2, hf⟩ := g_bd hf
        refine x_callS C hw mb_J6_bitCount_0f7a4 ms_J6_bitCount_0f7a4 ml_X4_34 (k_J6_bitCount_0f7a4 n hq2) hl.1 rfl rfl [] rfl rfl rfl (Nat.le_of_ble_eq_true rfl) (Nat.le_of_ble_eq_true rfl) (Nat.le_of_ble_eq_true rfl) (dc d_X4_findSet 17 rfl) (fun H locs hw => ?_)
        refine W.eq (g2 := F0 m 35 ls [.int q2]) rfl ?_
        have hw : Wd D A s.heap (w_X4_X6_X5_X10 cI cC cZ tq0 tq1 tq2 tq3 tq4 tq5 tq6 tq7 tq8 tq9 tq10 bq0 bq1 bq2 bq3 bq4 dq0 dq1 dq2 eq0 eq1 eq2 t_items_room t_items_line t_items_strength t_items_water t_items_back t_items_count t_trial_bends t_trial_laid t_trial_across t_trial_along t_found t_foundWorst b_bends b_laid b_across b_along d_settings d_numbers e_heights e_hung) H locs := hw
        refine lv_istore (lv' := [(8, .int q2), (0, .ref tq0), (1, .ref bq0), (2, .int v2), (3, .ref dq0), (4, .ref eq0), (5, .int v5), (6, .int v6), (7, .int v7)]) hx hb (dc d_X4_findSet 18 rfl) hl (by decide) rfl (fun ls hl => ?_)
        refine lv_iload hx hb (dc d_X4_findSet 19 rfl) (lv_at hl 0 rfl) ?_
        refine lv_iload hx hb (dc d_X4_findSet 20 rfl) (lv_at hl 6 rfl) ?_
        refine lv_icmp_le (tgt := 47) hx hb (dc d_X4_findSet 21 rfl) (by decide) (fun c3 => ?_) (fun c3 => ?_)
        · have hf := g_t hf c3
          refine lv_iload hx hb (dc d_X4_findSet 23 rfl) (lv_at hl 0 rfl) ?_
          refine lv_iload hx hb (dc d_X4_findSet 24 rfl) (lv_at hl 6 rfl) ?_
          refine lv_icmp_ge (tgt := 58) hx hb (dc d_X4_findSet 25 rfl) (by decide) (fun c4 => ?_) (fun c4 => ?_)
          · have hf := g_t hf c4
            refine lv_iload hx hb (dc d_X4_findSet 28 rfl) (lv_at hl 7 rfl) ?_
            exact L60 k16 ih n t_trial_bends t_trial_laid t_trial_across t_trial_along t_found t_foundWorst v2 v5 v6 v7 q2 v6 _ _ _ hw (lv_sub hl [1, 2, 3, 4, 5, 6, 7, 8, 0] rfl) hf
          · have hf := g_f hf c4
            refine lv_iload_n hx hb (dc d_X4_findSet 26 rfl) rfl (lv_at hl 3 rfl) ?_
            refine lv_goto (tgt := 60) hx hb (dc d_X4_findSet 27 rfl) (by decide) ?_
            exact L60 k16 ih n t_trial_bends t_trial_laid t_trial_across t_trial_along t_found t_foundWorst v2 v5 v6 v7 q2 v2 _ _ _ hw (lv_sub hl [1, 2, 3, 4, 5, 6, 7, 8, 0] rfl) hf
        · have hf := g_f hf c3
          refine lv_goto (tgt := 119) hx hb (dc d_X4_findSet 22 rfl) (by decide) ?_
          refine lv_iinc (v := (v7 + (1 : Int32))) (lv' := [(7, .int (v7 + (1 : Int32))), (8, .int q2), (0, .ref tq0), (1, .ref bq0), (2, .int v2), (3, .ref dq0), (4, .ref eq0), (5, .int v5), (6, .int v6)]) hx hb (dc d_X4_findSet 59 rfl) hl (k := 8) rfl (ii (by decide)) (by decide) rfl (fun ls hl => ?_)
          refine lv_goto (tgt := 16) hx hb (dc d_X4_findSet 60 rfl) (by decide) ?_
          exact ih t_trial_bends t_trial_laid t_trial_across t_trial_along t_found t_foundWorst v2 v5 v6 (v7 + (1 : Int32)) _ _ _ hw (lv_sub hl [2, 3, 4, 5, 6, 7, 8, 0] rfl) hf
  refine lv_aload_n hx hb (dc d_X4_findSet 0 rfl) rfl (lv_at hl 0 rfl) ?_
  refine lv_bipush (v := (-6 : Int32)) hx hb (dc d_X4_findSet 1 rfl) (by decide) ?_
  refine x_put C hw fl_X4_27 fw_X4_2 0 rfl rfl rfl (Nat.le_of_ble_eq_true rfl) (dc d_X4_findSet 2 rfl) (fun H locs hw => ?_)
  dsimp only [w_X4_X6_X5_X10, mix, List.set_cons_succ, List.set_cons_zero] at hw
  have hw : Wd D A s.heap (w_X4_X6_X5_X10 cI cC cZ tq0 tq1 tq2 tq3 tq4 tq5 tq6 tq7 tq8 tq9 tq10 bq0 bq1 bq2 bq3 bq4 dq0 dq1 dq2 eq0 eq1 eq2 t_items_room t_items_line t_items_strength t_items_water t_items_back t_items_count t_trial_bends t_trial_laid t_trial_across t_trial_along (-6 : Int32) t_foundWorst b_bends b_laid b_across b_along d_settings d_numbers e_heights e_hung) H locs := hw
  refine lv_bipush (v := (11 : Int32)) hx hb (dc d_X4_findSet 3 rfl) (by decide) ?_
  refine lv_istore (lv' := [(5, .int (11 : Int32)), (0, .ref tq0), (1, .ref bq0), (2, .int x2), (3, .ref dq0), (4, .ref eq0)]) hx hb (dc d_X4_findSet 4 rfl) hl (by decide) rfl (fun ls hl => ?_)
  refine lv_iload_n hx hb (dc d_X4_findSet 5 rfl) rfl (lv_at hl 3 rfl) ?_
  refine lv_istore (lv' := [(6, .int x2), (5, .int (11 : Int32)), (0, .ref tq0), (1, .ref bq0), (2, .int x2), (3, .ref dq0), (4, .ref eq0)]) hx hb (dc d_X4_findSet 6 rfl) hl (by decide) rfl (fun ls hl => ?_)
  refine lv_iconst (v := (0 : Int32)) hx hb (dc d_X4_findSet 7 rfl) (by decide) ?_
  refine lv_istore (lv' := [(7, .int (0 : Int32)), (6, .int x2), (5, .int (11 : Int32)), (0, .ref tq0), (1, .ref bq0), (2, .int x2), (3, .ref dq0), (4, .ref eq0)]) hx hb (dc d_X4_findSet 8 rfl) hl (by decide) rfl (fun ls hl => ?_)
  exact L16  n t_trial_bends t_trial_laid t_trial_across t_trial_along (-6 : Int32) t_foundWorst x2 (11 : Int32) x2 (0 : Int32) _ _ _ hw (lv_sub hl [3, 4, 5, 6, 7, 2, 1, 0] rfl) hf
set_option maxHeartbeats 4000000 in
set_option maxRecDepth 100000 in
theorem k_X4_findNext (n : Nat) {l : Launch} {D : va_G} {cI cC cZ : ClassId} {tq0 tq1 tq2 tq3 tq4 tq5 tq6 tq7 tq8 tq9 tq10 bq0 bq1 bq2 bq3 bq4 dq0 dq1 dq2 eq0 eq1 eq2 : Nat} {t_items_room : Int32} {t_items_line : Nat → Int32} {t_items_strength : Nat → Int32} {t_items_water : Nat → Int32} {t_items_back : Nat → Int32} {t_items_count : Int32} {t_trial_bends : Nat → Int32} {t_trial_laid : Nat → Int32} {t_trial_across : Nat → Int32} {t_trial_along : Nat → Int32} {t_found : Int32} {t_foundWorst : Int32} {b_bends : Nat → Int32} {b_laid : Nat → Int32} {b_across : Nat → Int32} {b_along : Nat → Int32} {d_settings : Nat → Int32} {d_numbers : Nat → Int32} {e_heights : Nat → Int32} {e_hung : Nat → Int32} {x2 : Int32} {o : (Nat → Int32) × (Nat → Int32) × (Nat → Int32) × (Nat → Int32) × Int32 × Int32} (hf : f_X4_findNext n t_items_line t_items_strength t_items_water t_items_back t_items_count t_trial_bends t_trial_laid t_trial_across t_trial_along t_found t_foundWorst b_bends b_laid d_settings d_numbers e_hung x2 = some o) : Ctr l yX4_findNext cX4_findNext 8 none 4 98 D cI cC cZ [.ref tq0, .ref bq0, .int x2, .ref dq0, .ref eq0] (w_X4_X6_X5_X10 cI cC cZ tq0 tq1 tq2 tq3 tq4 tq5 tq6 tq7 tq8 tq9 tq10 bq0 bq1 bq2 bq3 bq4 dq0 dq1 dq2 eq0 eq1 eq2 t_items_room t_items_line t_items_strength t_items_water t_items_back t_items_count t_trial_bends t_trial_laid t_trial_across t_trial_along t_found t_foundWorst b_bends b_laid b_across b_along d_settings d_numbers e_heights e_hung) (w_X4_X6_X5_X10 cI cC cZ tq0 tq1 tq2 tq3 tq4 tq5 tq6 tq7 tq8 tq9 tq10 bq0 bq1 bq2 bq3 bq4 dq0 dq1 dq2 eq0 eq1 eq2 t_items_room t_items_line t_items_strength t_items_water t_items_back t_items_count o.1 o.2.1 o.2.2.1 o.2.2.2.1 o.2.2.2.2.1 o.2.2.2.2.2 b_bends b_laid b_across b_along d_settings d_numbers e_heights e_hung) none := by
  refine Ctr.of (by decide) (Nat.le_of_ble_eq_true rfl) ?_
  intro p e s m args below meth c ls A Q hA hQ C hl hw
  have hx := C.1
  have hb := C.2.1
  have hl : lv_has ls 8 [(0, .ref tq0), (1, .ref bq0), (2, .int x2), (3, .ref dq0), (4, .ref eq0)] := hl
  have L19 : ∀ (n : Nat), ∀ (t_trial_bends : Nat → Int32) (t_trial_laid : Nat → Int32) (t_trial_across : Nat → Int32) (t_trial_along : Nat → Int32) (t_found : Int32) (t_foundWorst : Int32) (v5 : Int32) (v6 : Int32) (H : Heap) (locs : List Loc) (ls : Array Slot), Wd D A s.heap (w_X4_X6_X5_X10 cI cC cZ tq0 tq1 tq2 tq3 tq4 tq5 tq6 tq7 tq8 tq9 tq10 bq0 bq1 bq2 bq3 bq4 dq0 dq1 dq2 eq0 eq1 eq2 t_items_room t_items_line t_items_strength t_items_water t_items_back t_items_count t_trial_bends t_trial_laid t_trial_across t_trial_along t_found t_foundWorst b_bends b_laid b_across b_along d_settings d_numbers e_heights e_hung) H locs → lv_has ls 8 [(0, .ref tq0), (1, .ref bq0), (3, .ref dq0), (4, .ref eq0), (5, .int v5), (6, .int v6)] → f_X4_findNext_19 t_items_line t_items_strength t_items_water t_items_back t_items_count b_bends b_laid d_settings d_numbers e_hung  n t_trial_bends t_trial_laid t_trial_across t_trial_along t_found t_foundWorst v5 v6 = some o → W p l e (rmOf 4 98) s m args below meth c H locs 0 0 Q (F0 m 19 ls []) := by
    intro  n
    induction n with
    | zero => intro t_trial_bends t_trial_laid t_trial_across t_trial_along t_found t_foundWorst v5 v6 H locs ls hw hl hf; exact (no_none hf).elim
    | succ n ih =>
      intro t_trial_bends t_trial_laid t_trial_across t_trial_along t_found t_foundWorst v5 v6 H locs ls hw hl hf
      have hf : f_X4_findNext_19b t_items_line t_items_strength t_items_water t_items_back t_items_count b_bends b_laid d_settings d_numbers e_hung  (f_X4_findNext_19 t_items_line t_items_strength t_items_water t_items_back t_items_count b_bends b_laid d_settings d_numbers e_hung  n) n t_trial_bends t_trial_laid t_trial_across t_trial_along t_found t_foundWorst v5 v6 = some o := hf
      generalize f_X4_findNext_19 t_items_line t_items_strength t_items_water t_items_back t_items_count b_bends b_laid d_settings d_numbers e_hung  n = k19 at hf ih
      refine lv_iload hx hb (dc d_X4_findNext 12 rfl) (lv_at hl 5 rfl) ?_
      refine lv_aload_n hx hb (dc d_X4_findNext 13 rfl) rfl (lv_at hl 0 rfl) ?_
      refine x_get C hw fl_X4_14 0 rfl rfl (dc d_X4_findNext 14 rfl) ?_
      refine x_get C hw fl_X4_31 1 rfl rfl (dc d_X4_findNext 15 rfl) ?_
      refine lv_icmp_ge (tgt := 97) hx hb (dc d_X4_findNext 16 rfl) (by decide) (fun c2 => ?_) (fun c2 => ?_)
      · have hf := g_t hf c2
        cases hf
        exact x_vret C hA hQ hw rfl rfl (dc d_X4_findNext 49 rfl)
      · have hf := g_f hf c2
        refine lv_aload_n hx hb (dc d_X4_findNext 17 rfl) rfl (lv_at hl 0 rfl) ?_
        refine x_get C hw fl_X4_23 0 rfl rfl (dc d_X4_findNext 18 rfl) ?_
        refine lv_aload_n hx hb (dc d_X4_findNext 19 rfl) rfl (lv_at hl 1 rfl) ?_
        obtain ⟨q3, hq3, hf⟩ := g_bd hf
        refine x_callV C hw mb_X6_becomeLike mv_X6_becomeLike ml_X4_40 (k_X6_becomeLike n hq3) hl.1 rfl rfl [6, 7, 8, 9, 10, 11, 12, 13, 14, 15] rfl rfl rfl 6 6 rfl rfl (Nat.le_of_ble_eq_true rfl) (Nat.le_of_ble_eq_true rfl) (Nat.le_of_ble_eq_true rfl) (dc d_X4_findNext 20 rfl) (fun H locs hw => ?_)
        refine W.eq (g2 := F0 m 39 ls []) rfl ?_
        dsimp only [w_X4_X6_X5_X10, w_X6_X6, mix, List.set_cons_succ, List.set_cons_zero] at hw
        have hw : Wd D A s.heap (w_X4_X6_X5_X10 cI cC cZ tq0 tq1 tq2 tq3 tq4 tq5 tq6 tq7 tq8 tq9 tq10 bq0 bq1 bq2 bq3 bq4 dq0 dq1 dq2 eq0 eq1 eq2 t_items_room t_items_line t_items_strength t_items_water t_items_back t_items_count q3.1 q3.2 t_trial_across t_trial_along t_found t_foundWorst b_bends b_laid b_across b_along d_settings d_numbers e_heights e_hung) H locs := hw
        refine lv_aload_n hx hb (dc d_X4_findNext 21 rfl) rfl (lv_at hl 0 rfl) ?_
        refine x_get C hw fl_X4_23 0 rfl rfl (dc d_X4_findNext 22 rfl) ?_
        refine lv_aload_n hx hb (dc d_X4_findNext 23 rfl) rfl (lv_at hl 0 rfl) ?_
        refine x_get C hw fl_X4_14 0 rfl rfl (dc d_X4_findNext 24 rfl) ?_
        refine lv_iload hx hb (dc d_X4_findNext 25 rfl) (lv_at hl 5 rfl) ?_
        refine lv_aload_n hx hb (dc d_X4_findNext 26 rfl) rfl (lv_at hl 2 rfl) ?_
        obtain ⟨q4, hq4, hf⟩ := g_bd hf
        refine x_callV C hw mb_X6_lay mv_X6_lay ml_X4_55 (k_X6_lay n hq4) hl.1 rfl rfl [6, 7, 8, 9, 10, 1, 2, 3, 4, 5, 16, 17, 18] rfl rfl rfl 6 6 rfl rfl (Nat.le_of_ble_eq_true rfl) (Nat.le_of_ble_eq_true rfl) (Nat.le_of_ble_eq_true rfl) (dc d_X4_findNext 27 rfl) (fun H locs hw => ?_)
        refine W.eq (g2 := F0 m 53 ls []) rfl ?_
        dsimp only [w_X4_X6_X5_X10, w_X6_X3_X5, mix, List.set_cons_succ, List.set_cons_zero] at hw
        have hw : Wd D A s.heap (w_X4_X6_X5_X10 cI cC cZ tq0 tq1 tq2 tq3 tq4 tq5 tq6 tq7 tq8 tq9 tq10 bq0 bq1 bq2 bq3 bq4 dq0 dq1 dq2 eq0 eq1 eq2 t_items_room t_items_line t_items_strength t_items_water t_items_back t_items_count q4.1 q4.2 t_trial_across t_trial_along t_found t_foundWorst b_bends b_laid b_across b_along d_settings d_numbers e_heights e_hung) H locs := hw
        refine lv_aload_n hx hb (dc d_X4_findNext 28 rfl) rfl (lv_at hl 0 rfl) ?_
        refine x_get C hw fl_X4_23 0 rfl rfl (dc d_X4_findNext 29 rfl) ?_
        refine lv_aload hx hb (dc d_X4_findNext 30 rfl) (lv_at hl 3 rfl) ?_
        refine lv_iload hx hb (dc d_X4_findNext 31 rfl) (lv_at hl 4 rfl) ?_
        obtain ⟨q5, hq5, hf⟩ := g_bd hf
        refine x_callV C hw mb_X6_worstWithin mv_X6_worstWithin ml_X4_48 (k_X6_worstWithin n hq5) hl.1 rfl rfl [6, 7, 8, 9, 10, 19, 20, 21] rfl rfl rfl 6 6 rfl rfl (Nat.le_of_ble_eq_true rfl) (Nat.le_of_ble_eq_true rfl) (Nat.le_of_ble_eq_true rfl) (dc d_X4_findNext 32 rfl) (fun H locs hw => ?_)
        refine W.eq (g2 := F0 m 64 ls [.int q5.1]) rfl ?_
        dsimp only [w_X4_X6_X5_X10, w_X6_X10, mix, List.set_cons_succ, List.set_cons_zero] at hw
        have hw : Wd D A s.heap (w_X4_X6_X5_X10 cI cC cZ tq0 tq1 tq2 tq3 tq4 tq5 tq6 tq7 tq8 tq9 tq10 bq0 bq1 bq2 bq3 bq4 dq0 dq1 dq2 eq0 eq1 eq2 t_items_room t_items_line t_items_strength t_items_water t_items_back t_items_count q4.1 q4.2 q5.2.1 q5.2.2 t_found t_foundWorst b_bends b_laid b_across b_along d_settings d_numbers e_heights e_hung) H locs := hw
        refine lv_istore (lv' := [(7, .int q5.1), (0, .ref tq0), (1, .ref bq0), (3, .ref dq0), (4, .ref eq0), (5, .int v5), (6, .int v6)]) hx hb (dc d_X4_findNext 33 rfl) hl (by decide) rfl (fun ls hl => ?_)
        refine lv_iload hx hb (dc d_X4_findNext 34 rfl) (lv_at hl 0 rfl) ?_
        refine lv_iload hx hb (dc d_X4_findNext 35 rfl) (lv_at hl 5 rfl) ?_
        refine lv_icmp_gt (tgt := 91) hx hb (dc d_X4_findNext 36 rfl) (by decide) (fun c6 => ?_) (fun c6 => ?_)
        · have hf := g_t hf c6
          refine lv_iinc (v := (v6 + (1 : Int32))) (lv' := [(6, .int (v6 + (1 : Int32))), (7, .int q5.1), (0, .ref tq0), (1, .ref bq0), (3, .ref dq0), (4, .ref eq0), (5, .int v5)]) hx hb (dc d_X4_findNext 47 rfl) hl (k := 6) rfl (ii (by decide)) (by decide) rfl (fun ls hl => ?_)
          refine lv_goto (tgt := 19) hx hb (dc d_X4_findNext 48 rfl) (by decide) ?_
          exact ih q4.1 q4.2 q5.2.1 q5.2.2 t_found t_foundWorst v5 (v6 + (1 : Int32)) _ _ _ hw (lv_sub hl [2, 3, 4, 5, 6, 0] rfl) hf
        · have hf := g_f hf c6
          refine lv_aload_n hx hb (dc d_X4_findNext 37 rfl) rfl (lv_at hl 1 rfl) ?_
          refine lv_iload hx hb (dc d_X4_findNext 38 rfl) (lv_at hl 6 rfl) ?_
          refine x_put C hw fl_X4_27 fw_X4_2 0 rfl rfl rfl (Nat.le_of_ble_eq_true rfl) (dc d_X4_findNext 39 rfl) (fun H locs hw => ?_)
          dsimp only [w_X4_X6_X5_X10, mix, List.set_cons_succ, List.set_cons_zero] at hw
          have hw : Wd D A s.heap (w_X4_X6_X5_X10 cI cC cZ tq0 tq1 tq2 tq3 tq4 tq5 tq6 tq7 tq8 tq9 tq10 bq0 bq1 bq2 bq3 bq4 dq0 dq1 dq2 eq0 eq1 eq2 t_items_room t_items_line t_items_strength t_items_water t_items_back t_items_count q4.1 q4.2 q5.2.1 q5.2.2 v6 t_foundWorst b_bends b_laid b_across b_along d_settings d_numbers e_heights e_hung) H locs := hw
          refine lv_aload_n hx hb (dc d_X4_findNext 40 rfl) rfl (lv_at hl 1 rfl) ?_
          refine lv_iload hx hb (dc d_X4_findNext 41 rfl) (lv_at hl 0 rfl) ?_
          refine x_put C hw fl_X4_52 fw_X4_3 0 rfl rfl rfl (Nat.le_of_ble_eq_true rfl) (dc d_X4_findNext 42 rfl) (fun H locs hw => ?_)
          dsimp only [w_X4_X6_X5_X10, mix, List.set_cons_succ, List.set_cons_zero] at hw
          have hw : Wd D A s.heap (w_X4_X6_X5_X10 cI cC cZ tq0 tq1 tq2 tq3 tq4 tq5 tq6 tq7 tq8 tq9 tq10 bq0 bq1 bq2 bq3 bq4 dq0 dq1 dq2 eq0 eq1 eq2 t_items_room t_items_line t_items_strength t_items_water t_items_back t_items_count q4.1 q4.2 q5.2.1 q5.2.2 v6 q5.1 b_bends b_laid b_across b_along d_settings d_numbers e_heights e_hung) H locs := hw
          refine lv_iload hx hb (dc d_X4_findNext 43 rfl) (lv_at hl 0 rfl) ?_
          refine lv_iconst (v := (1 : Int32)) hx hb (dc d_X4_findNext 44 rfl) (by decide) ?_
          refine lv_isub hx hb (dc d_X4_findNext 45 rfl) ?_
          refine lv_topi (fun y7 ey7 => ?_)
          have hf := g_nm hf ey7
          refine lv_istore (lv' := [(5, .int y7), (7, .int q5.1), (0, .ref tq0), (1, .ref bq0), (3, .ref dq0), (4, .ref eq0), (6, .int v6)]) hx hb (dc d_X4_findNext 46 rfl) hl (by decide) rfl (fun ls hl => ?_)
          refine lv_iinc (v := (v6 + (1 : Int32))) (lv' := [(6, .int (v6 + (1 : Int32))), (5, .int y7), (7, .int q5.1), (0, .ref tq0), (1, .ref bq0), (3, .ref dq0), (4, .ref eq0)]) hx hb (dc d_X4_findNext 47 rfl) hl (k := 6) rfl (ii (by decide)) (by decide) rfl (fun ls hl => ?_)
          refine lv_goto (tgt := 19) hx hb (dc d_X4_findNext 48 rfl) (by decide) ?_
          exact ih q4.1 q4.2 q5.2.1 q5.2.2 v6 q5.1 y7 (v6 + (1 : Int32)) _ _ _ hw (lv_sub hl [3, 4, 5, 6, 1, 0] rfl) hf
  refine lv_aload_n hx hb (dc d_X4_findNext 0 rfl) rfl (lv_at hl 0 rfl) ?_
  refine lv_bipush (v := (-6 : Int32)) hx hb (dc d_X4_findNext 1 rfl) (by decide) ?_
  refine x_put C hw fl_X4_27 fw_X4_2 0 rfl rfl rfl (Nat.le_of_ble_eq_true rfl) (dc d_X4_findNext 2 rfl) (fun H locs hw => ?_)
  dsimp only [w_X4_X6_X5_X10, mix, List.set_cons_succ, List.set_cons_zero] at hw
  have hw : Wd D A s.heap (w_X4_X6_X5_X10 cI cC cZ tq0 tq1 tq2 tq3 tq4 tq5 tq6 tq7 tq8 tq9 tq10 bq0 bq1 bq2 bq3 bq4 dq0 dq1 dq2 eq0 eq1 eq2 t_items_room t_items_line t_items_strength t_items_water t_items_back t_items_count t_trial_bends t_trial_laid t_trial_across t_trial_along (-6 : Int32) t_foundWorst b_bends b_laid b_across b_along d_settings d_numbers e_heights e_hung) H locs := hw
  refine lv_iload_n hx hb (dc d_X4_findNext 3 rfl) rfl (lv_at hl 2 rfl) ?_
  refine lv_aload_n hx hb (dc d_X4_findNext 4 rfl) rfl (lv_at hl 3 rfl) ?_
  refine x_get C hw fl_X4_59 16 rfl rfl (dc d_X4_findNext 5 rfl) ?_
  refine lv_iconst (v := (3 : Int32)) hx hb (dc d_X4_findNext 6 rfl) (by decide) ?_
  refine x_iald C hw 17 rfl (by decide) (dc d_X4_findNext 7 rfl) ?_
  refine lv_isub hx hb (dc d_X4_findNext 8 rfl) ?_
  refine lv_topi (fun y1 ey1 => ?_)
  have hf := g_nm hf ey1
  refine lv_istore (lv' := [(5, .int y1), (0, .ref tq0), (1, .ref bq0), (2, .int x2), (3, .ref dq0), (4, .ref eq0)]) hx hb (dc d_X4_findNext 9 rfl) hl (by decide) rfl (fun ls hl => ?_)
  refine lv_iconst (v := (0 : Int32)) hx hb (dc d_X4_findNext 10 rfl) (by decide) ?_
  refine lv_istore (lv' := [(6, .int (0 : Int32)), (5, .int y1), (0, .ref tq0), (1, .ref bq0), (2, .int x2), (3, .ref dq0), (4, .ref eq0)]) hx hb (dc d_X4_findNext 11 rfl) hl (by decide) rfl (fun ls hl => ?_)
  exact L19  n t_trial_bends t_trial_laid t_trial_across t_trial_along (-6 : Int32) t_foundWorst y1 (0 : Int32) _ _ _ hw (lv_sub hl [2, 3, 5, 6, 1, 0] rfl) hf
set_option maxHeartbeats 4000000 in
set_option maxRecDepth 100000 in
theorem k_X5_putTable (n : Nat) {l : Launch} {D : va_G} {cI cC cZ : ClassId} {tq0 tq1 tq2 : Nat} {t_settings : Nat → Int32} {t_numbers : Nat → Int32} {x1 : Int32} {x2 : Int32} {x3 : Int32} {o : Int32 × (Nat → Int32)} (hf : f_X5_putTable n t_numbers x1 x2 x3 = some o) : Ctr l yX5_putTable cX5_putTable 5 (some .int) 1 22 D cI cC cZ [.ref tq0, .int x1, .int x2, .int x3] (w_X5 cI cC cZ tq0 tq1 tq2 t_settings t_numbers) (w_X5 cI cC cZ tq0 tq1 tq2 t_settings o.2) (some (.int o.1)) := by
  refine Ctr.of (by decide) (Nat.le_of_ble_eq_true rfl) ?_
  intro p e s m args below meth c ls A Q hA hQ C hl hw
  have hx := C.1
  have hb := C.2.1
  have hl : lv_has ls 5 [(0, .ref tq0), (1, .int x1), (2, .int x2), (3, .int x3)] := hl
  refine lv_aload_n hx hb (dc d_X5_putTable 0 rfl) rfl (lv_at hl 0 rfl) ?_
  refine lv_iload_n hx hb (dc d_X5_putTable 1 rfl) rfl (lv_at hl 1 rfl) ?_
  refine lv_iload_n hx hb (dc d_X5_putTable 2 rfl) rfl (lv_at hl 2 rfl) ?_
  obtain ⟨q1, hq1, hf⟩ := g_bd hf
  refine x_callVa C hw mb_X5_tableOf mv_X5_tableOf ml_X5_27 (k_X5_tableOf n hq1) hl.1 rfl rfl rfl 0 5 rfl rfl (Nat.le_of_ble_eq_true rfl) (Nat.le_of_ble_eq_true rfl) (Nat.le_of_ble_eq_true rfl) (dc d_X5_putTable 3 rfl) (fun H locs hw => ?_)
  refine W.eq (g2 := F0 m 6 ls [.int q1]) rfl ?_
  have hw : Wd D A s.heap (w_X5 cI cC cZ tq0 tq1 tq2 t_settings t_numbers) H locs := hw
  refine lv_istore (lv' := [(4, .int q1), (0, .ref tq0), (1, .int x1), (2, .int x2), (3, .int x3)]) hx hb (dc d_X5_putTable 4 rfl) hl (by decide) rfl (fun ls hl => ?_)
  refine lv_aload_n hx hb (dc d_X5_putTable 5 rfl) rfl (lv_at hl 1 rfl) ?_
  refine x_get C hw fl_X5_15 0 rfl rfl (dc d_X5_putTable 6 rfl) ?_
  refine lv_iconst (v := (2 : Int32)) hx hb (dc d_X5_putTable 7 rfl) (by decide) ?_
  refine lv_iload_n hx hb (dc d_X5_putTable 8 rfl) rfl (lv_at hl 2 rfl) ?_
  refine lv_iconst (v := (1 : Int32)) hx hb (dc d_X5_putTable 9 rfl) (by decide) ?_
  refine lv_isub hx hb (dc d_X5_putTable 10 rfl) ?_
  refine lv_imul hx hb (dc d_X5_putTable 11 rfl) ?_
  refine lv_iload_n hx hb (dc d_X5_putTable 12 rfl) rfl (lv_at hl 3 rfl) ?_
  refine lv_iadd hx hb (dc d_X5_putTable 13 rfl) ?_
  refine lv_iload_n hx hb (dc d_X5_putTable 14 rfl) rfl (lv_at hl 4 rfl) ?_
  have hi := grd_b hf
  have hf := grd_x hf
  refine x_iast C hw 2 rfl hi (dc d_X5_putTable 15 rfl) (fun H locs hw => ?_)
  dsimp only [w_X5, mix, List.set_cons_succ, List.set_cons_zero] at hw
  have hw : Wd D A s.heap (w_X5 cI cC cZ tq0 tq1 tq2 t_settings (upd t_numbers (((2 : Int32) * (x1 - (1 : Int32))) + x2).toNatClampNeg x3)) H locs := hw
  refine lv_iload hx hb (dc d_X5_putTable 16 rfl) (lv_at hl 0 rfl) ?_
  cases hf
  exact x_iret C hA hQ hw rfl rfl (dc d_X5_putTable 17 rfl)
set_option maxHeartbeats 4000000 in
set_option maxRecDepth 100000 in
theorem k_X5_put (n : Nat) {l : Launch} {D : va_G} {cI cC cZ : ClassId} {tq0 tq1 tq2 : Nat} {t_settings : Nat → Int32} {t_numbers : Nat → Int32} {x1 : Int32} {x2 : Int32} {o : Int32 × (Nat → Int32)} (hf : f_X5_put n t_settings x1 x2 = some o) : Ctr l yX5_put cX5_put 4 (some .int) 0 0 D cI cC cZ [.ref tq0, .int x1, .int x2] (w_X5 cI cC cZ tq0 tq1 tq2 t_settings t_numbers) (w_X5 cI cC cZ tq0 tq1 tq2 o.2 t_numbers) (some (.int o.1)) := by
  refine Ctr.of (by decide) (Nat.le_of_ble_eq_true rfl) ?_
  intro p e s m args below meth c ls A Q hA hQ C hl hw
  have hx := C.1
  have hb := C.2.1
  have hl : lv_has ls 4 [(0, .ref tq0), (1, .int x1), (2, .int x2)] := hl
  refine lv_aload_n hx hb (dc d_X5_put 0 rfl) rfl (lv_at hl 0 rfl) ?_
  refine x_get C hw fl_X5_11 0 rfl rfl (dc d_X5_put 1 rfl) ?_
  refine lv_iload_n hx hb (dc d_X5_put 2 rfl) rfl (lv_at hl 1 rfl) ?_
  have hi := grd_b hf
  have hf := grd_x hf
  refine x_iald C hw 1 rfl hi (dc d_X5_put 3 rfl) ?_
  refine lv_topi (fun y1 ey1 => ?_)
  have hf := g_nm hf ey1
  refine lv_istore_n (lv' := [(3, .int y1), (0, .ref tq0), (1, .int x1), (2, .int x2)]) hx hb (dc d_X5_put 4 rfl) rfl hl (by decide) rfl (fun ls hl => ?_)
  refine lv_aload_n hx hb (dc d_X5_put 5 rfl) rfl (lv_at hl 1 rfl) ?_
  refine x_get C hw fl_X5_11 0 rfl rfl (dc d_X5_put 6 rfl) ?_
  refine lv_iload_n hx hb (dc d_X5_put 7 rfl) rfl (lv_at hl 2 rfl) ?_
  refine lv_iload_n hx hb (dc d_X5_put 8 rfl) rfl (lv_at hl 3 rfl) ?_
  have hi := grd_b hf
  have hf := grd_x hf
  refine x_iast C hw 1 rfl hi (dc d_X5_put 9 rfl) (fun H locs hw => ?_)
  dsimp only [w_X5, mix, List.set_cons_succ, List.set_cons_zero] at hw
  have hw : Wd D A s.heap (w_X5 cI cC cZ tq0 tq1 tq2 (upd t_settings x1.toNatClampNeg x2) t_numbers) H locs := hw
  refine lv_iload_n hx hb (dc d_X5_put 10 rfl) rfl (lv_at hl 0 rfl) ?_
  cases hf
  exact x_iret C hA hQ hw rfl rfl (dc d_X5_put 11 rfl)
set_option maxHeartbeats 4000000 in
set_option maxRecDepth 100000 in
theorem k_J7_fill_53178 (n : Nat) {l : Launch} {D : va_G} {cI cC cZ : ClassId} {aq0 : Nat} {a_N : Nat} {a_ : Nat → Int32} {x1 : Int32} {o : (Nat → Int32)} (hf : f_J7_fill_53178 n a_N a_ x1 = some o) : Ctr l yJ7_fill_53178 cJ7_fill_53178 4 none 0 0 D cI cC cZ [.ref aq0, .int x1] (w_aIN cI cC cZ aq0 a_N a_) (w_aIN cI cC cZ aq0 a_N o) none := by
  refine Ctr.of (by decide) (Nat.le_of_ble_eq_true rfl) ?_
  intro p e s m args below meth c ls A Q hA hQ C hl hw
  have hx := C.1
  have hb := C.2.1
  have hl : lv_has ls 4 [(0, .ref aq0), (1, .int x1)] := hl
  have L5 : ∀ (n : Nat), ∀ (a_ : Nat → Int32) (v1 : Int32) (v2 : Int32) (v3 : Int32) (H : Heap) (locs : List Loc) (ls : Array Slot), Wd D A s.heap (w_aIN cI cC cZ aq0 a_N a_) H locs → lv_has ls 4 [(0, .ref aq0), (1, .int v1), (2, .int v2), (3, .int v3)] → f_J7_fill_53178_5 a_N  n a_ v1 v2 v3 = some o → W p l e (rmOf 0 0) s m args below meth c H locs 0 0 Q (F0 m 5 ls []) := by
    intro  n
    induction n with
    | zero => intro a_ v1 v2 v3 H locs ls hw hl hf; exact (no_none hf).elim
    | succ n ih =>
      intro a_ v1 v2 v3 H locs ls hw hl hf
      have hf : f_J7_fill_53178_5b a_N  (f_J7_fill_53178_5 a_N  n) n a_ v1 v2 v3 = some o := hf
      generalize f_J7_fill_53178_5 a_N  n = k5 at hf ih
      refine lv_iload_n hx hb (dc d_J7_fill_53178 5 rfl) rfl (lv_at hl 2 rfl) ?_
      refine lv_iload_n hx hb (dc d_J7_fill_53178 6 rfl) rfl (lv_at hl 3 rfl) ?_
      refine lv_icmp_ge (tgt := 20) hx hb (dc d_J7_fill_53178 7 rfl) (by decide) (fun c2 => ?_) (fun c2 => ?_)
      · have hf := g_t hf c2
        cases hf
        exact x_vret C hA hQ hw rfl rfl (dc d_J7_fill_53178 14 rfl)
      · have hf := g_f hf c2
        refine lv_aload_n hx hb (dc d_J7_fill_53178 8 rfl) rfl (lv_at hl 0 rfl) ?_
        refine lv_iload_n hx hb (dc d_J7_fill_53178 9 rfl) rfl (lv_at hl 2 rfl) ?_
        refine lv_iload_n hx hb (dc d_J7_fill_53178 10 rfl) rfl (lv_at hl 1 rfl) ?_
        have hi := grd_b hf
        have hf := grd_x hf
        refine x_iast C hw 0 rfl hi (dc d_J7_fill_53178 11 rfl) (fun H locs hw => ?_)
        dsimp only [w_aIN, mix, List.set_cons_succ, List.set_cons_zero] at hw
        have hw : Wd D A s.heap (w_aIN cI cC cZ aq0 a_N (upd a_ v2.toNatClampNeg v1)) H locs := hw
        refine lv_iinc (v := (v2 + (1 : Int32))) (lv' := [(2, .int (v2 + (1 : Int32))), (0, .ref aq0), (1, .int v1), (3, .int v3)]) hx hb (dc d_J7_fill_53178 12 rfl) hl (k := 2) rfl (ii (by decide)) (by decide) rfl (fun ls hl => ?_)
        refine lv_goto (tgt := 5) hx hb (dc d_J7_fill_53178 13 rfl) (by decide) ?_
        exact ih (upd a_ v2.toNatClampNeg v1) v1 (v2 + (1 : Int32)) v3 _ _ _ hw (lv_sub hl [1, 2, 0, 3] rfl) hf
  refine lv_iconst (v := (0 : Int32)) hx hb (dc d_J7_fill_53178 0 rfl) (by decide) ?_
  refine lv_istore_n (lv' := [(2, .int (0 : Int32)), (0, .ref aq0), (1, .int x1)]) hx hb (dc d_J7_fill_53178 1 rfl) rfl hl (by decide) rfl (fun ls hl => ?_)
  refine lv_aload_n hx hb (dc d_J7_fill_53178 2 rfl) rfl (lv_at hl 1 rfl) ?_
  refine x_alen C hw 0 rfl (dc d_J7_fill_53178 3 rfl) ?_
  refine lv_topi (fun y1 ey1 => ?_)
  have hf := g_nm hf ey1
  refine lv_istore_n (lv' := [(3, .int y1), (2, .int (0 : Int32)), (0, .ref aq0), (1, .int x1)]) hx hb (dc d_J7_fill_53178 4 rfl) rfl hl (by decide) rfl (fun ls hl => ?_)
  exact L5  n a_ x1 (0 : Int32) y1 _ _ _ hw (lv_sub hl [2, 3, 1, 0] rfl) hf
set_option maxHeartbeats 4000000 in
set_option maxRecDepth 100000 in
theorem k_X6_becomeOf (n : Nat) {l : Launch} {D : va_G} {cI cC cZ : ClassId} {tq0 tq1 tq2 tq3 tq4 bq0 bq1 bq2 bq3 bq4 dq0 dq1 dq2 : Nat} {t_bends : Nat → Int32} {t_laid : Nat → Int32} {t_across : Nat → Int32} {t_along : Nat → Int32} {b_N : Nat} {b_room : Int32} {b_line : Nat → Int32} {b_strength : Nat → Int32} {b_water : Nat → Int32} {b_back : Nat → Int32} {b_count : Int32} {d_settings : Nat → Int32} {d_numbers : Nat → Int32} {x2 : Int32} {o : (Nat → Int32) × (Nat → Int32)} (hf : f_X6_becomeOf n t_bends t_laid b_N b_line b_strength b_water b_back d_settings d_numbers x2 = some o) : Ctr l yX6_becomeOf cX6_becomeOf 5 none 4 98 D cI cC cZ [.ref tq0, .ref bq0, .int x2, .ref dq0] (w_X6_X3_X5 cI cC cZ tq0 tq1 tq2 tq3 tq4 bq0 bq1 bq2 bq3 bq4 dq0 dq1 dq2 t_bends t_laid t_across t_along b_N b_room b_line b_strength b_water b_back b_count d_settings d_numbers) (w_X6_X3_X5 cI cC cZ tq0 tq1 tq2 tq3 tq4 bq0 bq1 bq2 bq3 bq4 dq0 dq1 dq2 o.1 o.2 t_across t_along b_N b_room b_line b_strength b_water b_back b_count d_settings d_numbers) none := by
  refine Ctr.of (by decide) (Nat.le_of_ble_eq_true rfl) ?_
  intro p e s m args below meth c ls A Q hA hQ C hl hw
  have hx := C.1
  have hb := C.2.1
  have hl : lv_has ls 5 [(0, .ref tq0), (1, .ref bq0), (2, .int x2), (3, .ref dq0)] := hl
  have L19 : ∀ (n : Nat), ∀ (t_bends : Nat → Int32) (t_laid : Nat → Int32) (v2 : Int32) (v4 : Int32) (H : Heap) (locs : List Loc) (ls : Array Slot), Wd D A s.heap (w_X6_X3_X5 cI cC cZ tq0 tq1 tq2 tq3 tq4 bq0 bq1 bq2 bq3 bq4 dq0 dq1 dq2 t_bends t_laid t_across t_along b_N b_room b_line b_strength b_water b_back b_count d_settings d_numbers) H locs → lv_has ls 5 [(0, .ref tq0), (1, .ref bq0), (2, .int v2), (3, .ref dq0), (4, .int v4)] → f_X6_becomeOf_19 b_N b_line b_strength b_water b_back d_settings d_numbers  n t_bends t_laid v2 v4 = some o → W p l e (rmOf 4 98) s m args below meth c H locs 0 0 Q (F0 m 19 ls []) := by
    intro  n
    induction n with
    | zero => intro t_bends t_laid v2 v4 H locs ls hw hl hf; exact (no_none hf).elim
    | succ n ih =>
      intro t_bends t_laid v2 v4 H locs ls hw hl hf
      have hf : f_X6_becomeOf_19b b_N b_line b_strength b_water b_back d_settings d_numbers  (f_X6_becomeOf_19 b_N b_line b_strength b_water b_back d_settings d_numbers  n) n t_bends t_laid v2 v4 = some o := hf
      generalize f_X6_becomeOf_19 b_N b_line b_strength b_water b_back d_settings d_numbers  n = k19 at hf ih
      refine lv_iload hx hb (dc d_X6_becomeOf 10 rfl) (lv_at hl 4 rfl) ?_
      refine lv_iload_n hx hb (dc d_X6_becomeOf 11 rfl) rfl (lv_at hl 2 rfl) ?_
      refine lv_icmp_ge (tgt := 39) hx hb (dc d_X6_becomeOf 12 rfl) (by decide) (fun c3 => ?_) (fun c3 => ?_)
      · have hf := g_t hf c3
        cases hf
        exact x_vret C hA hQ hw rfl rfl (dc d_X6_becomeOf 20 rfl)
      · have hf := g_f hf c3
        refine lv_aload_n hx hb (dc d_X6_becomeOf 13 rfl) rfl (lv_at hl 0 rfl) ?_
        refine lv_aload_n hx hb (dc d_X6_becomeOf 14 rfl) rfl (lv_at hl 1 rfl) ?_
        refine lv_iload hx hb (dc d_X6_becomeOf 15 rfl) (lv_at hl 4 rfl) ?_
        refine lv_aload_n hx hb (dc d_X6_becomeOf 16 rfl) rfl (lv_at hl 3 rfl) ?_
        obtain ⟨q4, hq4, hf⟩ := g_bd hf
        refine x_callVa C hw mb_X6_lay mv_X6_lay ml_X6_30 (k_X6_lay n hq4) hl.1 rfl rfl rfl 0 6 rfl rfl (Nat.le_of_ble_eq_true rfl) (Nat.le_of_ble_eq_true rfl) (Nat.le_of_ble_eq_true rfl) (dc d_X6_becomeOf 17 rfl) (fun H locs hw => ?_)
        refine W.eq (g2 := F0 m 33 ls []) rfl ?_
        have hw : Wd D A s.heap (w_X6_X3_X5 cI cC cZ tq0 tq1 tq2 tq3 tq4 bq0 bq1 bq2 bq3 bq4 dq0 dq1 dq2 q4.1 q4.2 t_across t_along b_N b_room b_line b_strength b_water b_back b_count d_settings d_numbers) H locs := hw
        refine lv_iinc (v := (v4 + (1 : Int32))) (lv' := [(4, .int (v4 + (1 : Int32))), (0, .ref tq0), (1, .ref bq0), (2, .int v2), (3, .ref dq0)]) hx hb (dc d_X6_becomeOf 18 rfl) hl (k := 4) rfl (ii (by decide)) (by decide) rfl (fun ls hl => ?_)
        refine lv_goto (tgt := 19) hx hb (dc d_X6_becomeOf 19 rfl) (by decide) ?_
        exact ih q4.1 q4.2 v2 (v4 + (1 : Int32)) _ _ _ hw (lv_sub hl [1, 2, 3, 4, 0] rfl) hf
  refine lv_aload_n hx hb (dc d_X6_becomeOf 0 rfl) rfl (lv_at hl 0 rfl) ?_
  refine x_get C hw fl_X6_9 0 rfl rfl (dc d_X6_becomeOf 1 rfl) ?_
  refine lv_iconst (v := (0 : Int32)) hx hb (dc d_X6_becomeOf 2 rfl) (by decide) ?_
  obtain ⟨q1, hq1, hf⟩ := g_bd hf
  refine x_callS C hw mb_J7_fill_53178 ms_J7_fill_53178 ml_X6_24 (k_J7_fill_53178 n hq1) hl.1 rfl rfl [1] rfl rfl rfl (Nat.le_of_ble_eq_true rfl) (Nat.le_of_ble_eq_true rfl) (Nat.le_of_ble_eq_true rfl) (dc d_X6_becomeOf 3 rfl) (fun H locs hw => ?_)
  refine W.eq (g2 := F0 m 8 ls []) rfl ?_
  dsimp only [w_X6_X3_X5, w_aIN, mix, List.set_cons_succ, List.set_cons_zero] at hw
  have hw : Wd D A s.heap (w_X6_X3_X5 cI cC cZ tq0 tq1 tq2 tq3 tq4 bq0 bq1 bq2 bq3 bq4 dq0 dq1 dq2 q1 t_laid t_across t_along b_N b_room b_line b_strength b_water b_back b_count d_settings d_numbers) H locs := hw
  refine lv_aload_n hx hb (dc d_X6_becomeOf 4 rfl) rfl (lv_at hl 0 rfl) ?_
  refine x_get C hw fl_X6_15 0 rfl rfl (dc d_X6_becomeOf 5 rfl) ?_
  refine lv_iconst (v := (0 : Int32)) hx hb (dc d_X6_becomeOf 6 rfl) (by decide) ?_
  obtain ⟨q2, hq2, hf⟩ := g_bd hf
  refine x_callS C hw mb_J7_fill_53178 ms_J7_fill_53178 ml_X6_24 (k_J7_fill_53178 n hq2) hl.1 rfl rfl [2] rfl rfl rfl (Nat.le_of_ble_eq_true rfl) (Nat.le_of_ble_eq_true rfl) (Nat.le_of_ble_eq_true rfl) (dc d_X6_becomeOf 7 rfl) (fun H locs hw => ?_)
  refine W.eq (g2 := F0 m 16 ls []) rfl ?_
  dsimp only [w_X6_X3_X5, w_aIN, mix, List.set_cons_succ, List.set_cons_zero] at hw
  have hw : Wd D A s.heap (w_X6_X3_X5 cI cC cZ tq0 tq1 tq2 tq3 tq4 bq0 bq1 bq2 bq3 bq4 dq0 dq1 dq2 q1 q2 t_across t_along b_N b_room b_line b_strength b_water b_back b_count d_settings d_numbers) H locs := hw
  refine lv_iconst (v := (0 : Int32)) hx hb (dc d_X6_becomeOf 8 rfl) (by decide) ?_
  refine lv_istore (lv' := [(4, .int (0 : Int32)), (0, .ref tq0), (1, .ref bq0), (2, .int x2), (3, .ref dq0)]) hx hb (dc d_X6_becomeOf 9 rfl) hl (by decide) rfl (fun ls hl => ?_)
  exact L19  n q1 q2 x2 (0 : Int32) _ _ _ hw (lv_sub hl [1, 2, 3, 4, 0] rfl) hf
set_option maxHeartbeats 4000000 in
set_option maxRecDepth 100000 in
theorem k_X6_heightAt (n : Nat) {l : Launch} {D : va_G} {cI cC cZ : ClassId} {tq0 tq1 tq2 tq3 tq4 : Nat} {t_bends : Nat → Int32} {t_laid : Nat → Int32} {t_across : Nat → Int32} {t_along : Nat → Int32} {x1 : Int32} {o : Int32} (hf : f_X6_heightAt n t_bends x1 = some o) : Ctr l yX6_heightAt cX6_heightAt 7 (some .int) 1 21 D cI cC cZ [.ref tq0, .int x1] (w_X6 cI cC cZ tq0 tq1 tq2 tq3 tq4 t_bends t_laid t_across t_along) (w_X6 cI cC cZ tq0 tq1 tq2 tq3 tq4 t_bends t_laid t_across t_along) (some (.int o)) := by
  refine Ctr.of (by decide) (Nat.le_of_ble_eq_true rfl) ?_
  intro p e s m args below meth c ls A Q hA hQ C hl hw
  have hx := C.1
  have hb := C.2.1
  have hl : lv_has ls 7 [(0, .ref tq0), (1, .int x1)] := hl
  have L16 : ∀ (n : Nat), ∀ (v2 : Int32) (v3 : Int32) (v4 : Int32) (v5 : Int32) (H : Heap) (locs : List Loc) (ls : Array Slot), Wd D A s.heap (w_X6 cI cC cZ tq0 tq1 tq2 tq3 tq4 t_bends t_laid t_across t_along) H locs → lv_has ls 7 [(0, .ref tq0), (2, .int v2), (3, .int v3), (4, .int v4), (5, .int v5)] → f_X6_heightAt_16 t_bends  n v2 v3 v4 v5 = some o → W p l e (rmOf 1 21) s m args below meth c H locs 0 0 Q (F0 m 16 ls []) := by
    intro  n
    induction n with
    | zero => intro v2 v3 v4 v5 H locs ls hw hl hf; exact (no_none hf).elim
    | succ n ih =>
      intro v2 v3 v4 v5 H locs ls hw hl hf
      have hf : f_X6_heightAt_16b t_bends  (f_X6_heightAt_16 t_bends  n) n v2 v3 v4 v5 = some o := hf
      generalize f_X6_heightAt_16 t_bends  n = k16 at hf ih
      refine lv_iload hx hb (dc d_X6_heightAt 12 rfl) (lv_at hl 4 rfl) ?_
      refine lv_iconst (v := (4 : Int32)) hx hb (dc d_X6_heightAt 13 rfl) (by decide) ?_
      refine lv_icmp_ge (tgt := 78) hx hb (dc d_X6_heightAt 14 rfl) (by decide) (fun c3 => ?_) (fun c3 => ?_)
      · have hf := g_t hf c3
        refine lv_iload hx hb (dc d_X6_heightAt 49 rfl) (lv_at hl 3 rfl) ?_
        cases hf
        exact x_iret C hA hQ hw rfl rfl (dc d_X6_heightAt 50 rfl)
      · have hf := g_f hf c3
        refine lv_iload hx hb (dc d_X6_heightAt 15 rfl) (lv_at hl 4 rfl) ?_
        refine lv_iconst (v := (1 : Int32)) hx hb (dc d_X6_heightAt 16 rfl) (by decide) ?_
        refine lv_iadd hx hb (dc d_X6_heightAt 17 rfl) ?_
        refine lv_topi (fun y4 ey4 => ?_)
        have hf := g_nm hf ey4
        refine lv_istore (lv' := [(6, .int y4), (0, .ref tq0), (2, .int v2), (3, .int v3), (4, .int v4), (5, .int v5)]) hx hb (dc d_X6_heightAt 18 rfl) hl (by decide) rfl (fun ls hl => ?_)
        refine lv_iload hx hb (dc d_X6_heightAt 19 rfl) (lv_at hl 4 rfl) ?_
        refine lv_aload_n hx hb (dc d_X6_heightAt 20 rfl) rfl (lv_at hl 1 rfl) ?_
        refine x_get C hw fl_X6_9 0 rfl rfl (dc d_X6_heightAt 21 rfl) ?_
        refine lv_iload hx hb (dc d_X6_heightAt 22 rfl) (lv_at hl 5 rfl) ?_
        have hi := grd_b hf
        have hf := grd_x hf
        refine x_iald C hw 1 rfl hi (dc d_X6_heightAt 23 rfl) ?_
        refine lv_iload_n hx hb (dc d_X6_heightAt 24 rfl) rfl (lv_at hl 2 rfl) ?_
        refine lv_iload hx hb (dc d_X6_heightAt 25 rfl) (lv_at hl 0 rfl) ?_
        refine lv_isub hx hb (dc d_X6_heightAt 26 rfl) ?_
        refine lv_iconst (v := (0 : Int32)) hx hb (dc d_X6_heightAt 27 rfl) (by decide) ?_
        refine x_max C hl.1 ml_X6_71 ms_J9_max_7cf53 in_java_lang_Math cd_Lib_Math_max (Nat.le_of_ble_eq_true rfl) (Nat.le_of_ble_eq_true rfl) (dc d_X6_heightAt 28 rfl) ?_
        refine lv_imul hx hb (dc d_X6_heightAt 29 rfl) ?_
        refine lv_iadd hx hb (dc d_X6_heightAt 30 rfl) ?_
        refine lv_topi (fun y5 ey5 => ?_)
        have hf := g_nm hf ey5
        refine lv_istore (lv' := [(4, .int y5), (6, .int y4), (0, .ref tq0), (2, .int v2), (3, .int v3), (5, .int v5)]) hx hb (dc d_X6_heightAt 31 rfl) hl (by decide) rfl (fun ls hl => ?_)
        refine lv_iload hx hb (dc d_X6_heightAt 32 rfl) (lv_at hl 0 rfl) ?_
        refine lv_aload_n hx hb (dc d_X6_heightAt 33 rfl) rfl (lv_at hl 2 rfl) ?_
        refine x_get C hw fl_X6_9 0 rfl rfl (dc d_X6_heightAt 34 rfl) ?_
        refine lv_iconst (v := (4 : Int32)) hx hb (dc d_X6_heightAt 35 rfl) (by decide) ?_
        refine lv_iload hx hb (dc d_X6_heightAt 36 rfl) (lv_at hl 5 rfl) ?_
        refine lv_iadd hx hb (dc d_X6_heightAt 37 rfl) ?_
        have hi := grd_b hf
        have hf := grd_x hf
        refine x_iald C hw 1 rfl hi (dc d_X6_heightAt 38 rfl) ?_
        refine lv_iload_n hx hb (dc d_X6_heightAt 39 rfl) rfl (lv_at hl 4 rfl) ?_
        refine lv_iload hx hb (dc d_X6_heightAt 40 rfl) (lv_at hl 1 rfl) ?_
        refine lv_isub hx hb (dc d_X6_heightAt 41 rfl) ?_
        refine lv_iconst (v := (0 : Int32)) hx hb (dc d_X6_heightAt 42 rfl) (by decide) ?_
        refine x_max C hl.1 ml_X6_71 ms_J9_max_7cf53 in_java_lang_Math cd_Lib_Math_max (Nat.le_of_ble_eq_true rfl) (Nat.le_of_ble_eq_true rfl) (dc d_X6_heightAt 43 rfl) ?_
        refine lv_imul hx hb (dc d_X6_heightAt 44 rfl) ?_
        refine lv_iadd hx hb (dc d_X6_heightAt 45 rfl) ?_
        refine lv_topi (fun y6 ey6 => ?_)
        have hf := g_nm hf ey6
        refine lv_istore (lv' := [(4, .int y6), (6, .int y4), (0, .ref tq0), (2, .int v2), (3, .int v3), (5, .int v5)]) hx hb (dc d_X6_heightAt 46 rfl) hl (by decide) rfl (fun ls hl => ?_)
        refine lv_iinc (v := (v5 + (1 : Int32))) (lv' := [(5, .int (v5 + (1 : Int32))), (4, .int y6), (6, .int y4), (0, .ref tq0), (2, .int v2), (3, .int v3)]) hx hb (dc d_X6_heightAt 47 rfl) hl (k := 5) rfl (ii (by decide)) (by decide) rfl (fun ls hl => ?_)
        refine lv_goto (tgt := 16) hx hb (dc d_X6_heightAt 48 rfl) (by decide) ?_
        exact ih v2 v3 y6 (v5 + (1 : Int32)) _ _ _ hw (lv_sub hl [3, 4, 5, 1, 0] rfl) hf
  refine lv_iload_n hx hb (dc d_X6_heightAt 0 rfl) rfl (lv_at hl 1 rfl) ?_
  refine lv_bipush (v := (6 : Int32)) hx hb (dc d_X6_heightAt 1 rfl) (by decide) ?_
  refine x_rem hx hb (dc d_X6_heightAt 2 rfl) (by decide) ?_
  refine lv_topi (fun y1 ey1 => ?_)
  have hf := g_nm hf ey1
  refine lv_istore_n (lv' := [(2, .int y1), (0, .ref tq0), (1, .int x1)]) hx hb (dc d_X6_heightAt 3 rfl) rfl hl (by decide) rfl (fun ls hl => ?_)
  refine lv_iload_n hx hb (dc d_X6_heightAt 4 rfl) rfl (lv_at hl 2 rfl) ?_
  refine lv_bipush (v := (6 : Int32)) hx hb (dc d_X6_heightAt 5 rfl) (by decide) ?_
  refine x_div hx hb (dc d_X6_heightAt 6 rfl) (by decide) ?_
  refine lv_topi (fun y2 ey2 => ?_)
  have hf := g_nm hf ey2
  refine lv_istore_n (lv' := [(3, .int y2), (2, .int y1), (0, .ref tq0), (1, .int x1)]) hx hb (dc d_X6_heightAt 7 rfl) rfl hl (by decide) rfl (fun ls hl => ?_)
  refine lv_iconst (v := (0 : Int32)) hx hb (dc d_X6_heightAt 8 rfl) (by decide) ?_
  refine lv_istore (lv' := [(4, .int (0 : Int32)), (3, .int y2), (2, .int y1), (0, .ref tq0), (1, .int x1)]) hx hb (dc d_X6_heightAt 9 rfl) hl (by decide) rfl (fun ls hl => ?_)
  refine lv_iconst (v := (0 : Int32)) hx hb (dc d_X6_heightAt 10 rfl) (by decide) ?_
  refine lv_istore (lv' := [(5, .int (0 : Int32)), (4, .int (0 : Int32)), (3, .int y2), (2, .int y1), (0, .ref tq0), (1, .int x1)]) hx hb (dc d_X6_heightAt 11 rfl) hl (by decide) rfl (fun ls hl => ?_)
  exact L16  n y1 y2 (0 : Int32) (0 : Int32) _ _ _ hw (lv_sub hl [4, 3, 2, 1, 0] rfl) hf
set_option maxHeartbeats 4000000 in
set_option maxRecDepth 100000 in
theorem k_X7_isLikeEarlier (n : Nat) {l : Launch} {D : va_G} {cI cC cZ : ClassId} {tq0 tq1 tq2 tq3 : Nat} {t_smithOf : Nat → Int32} {t_greatest : Int32} {t_knownFor : Int32} {t_times : Nat → Int32} {t_sums : Nat → Int32} {t_count : Int32} {x1 : Int32} {o : Int32} (hf : f_X7_isLikeEarlier n t_sums x1 = some o) : Ctr l yX7_isLikeEarlier cX7_isLikeEarlier 3 (some .boolean) 0 0 D cI cC cZ [.ref tq0, .int x1] (w_X7 cI cC cZ tq0 tq1 tq2 tq3 t_smithOf t_greatest t_knownFor t_times t_sums t_count) (w_X7 cI cC cZ tq0 tq1 tq2 tq3 t_smithOf t_greatest t_knownFor t_times t_sums t_count) (some (.int o)) := by
  refine Ctr.of (by decide) (Nat.le_of_ble_eq_true rfl) ?_
  intro p e s m args below meth c ls A Q hA hQ C hl hw
  have hx := C.1
  have hb := C.2.1
  have hl : lv_has ls 3 [(0, .ref tq0), (1, .int x1)] := hl
  have L2 : ∀ (n : Nat), ∀ (v1 : Int32) (v2 : Int32) (H : Heap) (locs : List Loc) (ls : Array Slot), Wd D A s.heap (w_X7 cI cC cZ tq0 tq1 tq2 tq3 t_smithOf t_greatest t_knownFor t_times t_sums t_count) H locs → lv_has ls 3 [(0, .ref tq0), (1, .int v1), (2, .int v2)] → f_X7_isLikeEarlier_2 t_sums  n v1 v2 = some o → W p l e (rmOf 0 0) s m args below meth c H locs 0 0 Q (F0 m 2 ls []) := by
    intro  n
    induction n with
    | zero => intro v1 v2 H locs ls hw hl hf; exact (no_none hf).elim
    | succ n ih =>
      intro v1 v2 H locs ls hw hl hf
      have hf : f_X7_isLikeEarlier_2b t_sums  (f_X7_isLikeEarlier_2 t_sums  n) n v1 v2 = some o := hf
      generalize f_X7_isLikeEarlier_2 t_sums  n = k2 at hf ih
      refine lv_iload_n hx hb (dc d_X7_isLikeEarlier 2 rfl) rfl (lv_at hl 2 rfl) ?_
      refine lv_iload_n hx hb (dc d_X7_isLikeEarlier 3 rfl) rfl (lv_at hl 1 rfl) ?_
      refine lv_icmp_ge (tgt := 30) hx hb (dc d_X7_isLikeEarlier 4 rfl) (by decide) (fun c1 => ?_) (fun c1 => ?_)
      · have hf := g_t hf c1
        refine lv_iconst (v := (0 : Int32)) hx hb (dc d_X7_isLikeEarlier 18 rfl) (by decide) ?_
        cases hf
        exact x_zret C hA hQ hw rfl rfl (by decide) (dc d_X7_isLikeEarlier 19 rfl)
      · have hf := g_f hf c1
        refine lv_aload_n hx hb (dc d_X7_isLikeEarlier 5 rfl) rfl (lv_at hl 0 rfl) ?_
        refine x_get C hw fl_X7_18 0 rfl rfl (dc d_X7_isLikeEarlier 6 rfl) ?_
        refine lv_iload_n hx hb (dc d_X7_isLikeEarlier 7 rfl) rfl (lv_at hl 2 rfl) ?_
        have hi := grd_b hf
        have hf := grd_x hf
        refine x_iald C hw 3 rfl hi (dc d_X7_isLikeEarlier 8 rfl) ?_
        refine lv_aload_n hx hb (dc d_X7_isLikeEarlier 9 rfl) rfl (lv_at hl 0 rfl) ?_
        refine x_get C hw fl_X7_18 0 rfl rfl (dc d_X7_isLikeEarlier 10 rfl) ?_
        refine lv_iload_n hx hb (dc d_X7_isLikeEarlier 11 rfl) rfl (lv_at hl 1 rfl) ?_
        have hi := grd_b hf
        have hf := grd_x hf
        refine x_iald C hw 3 rfl hi (dc d_X7_isLikeEarlier 12 rfl) ?_
        refine lv_icmp_ne (tgt := 24) hx hb (dc d_X7_isLikeEarlier 13 rfl) (by decide) (fun c2 => ?_) (fun c2 => ?_)
        · have hf := g_f hf c2
          refine lv_iinc (v := (v2 + (1 : Int32))) (lv' := [(2, .int (v2 + (1 : Int32))), (0, .ref tq0), (1, .int v1)]) hx hb (dc d_X7_isLikeEarlier 16 rfl) hl (k := 2) rfl (ii (by decide)) (by decide) rfl (fun ls hl => ?_)
          refine lv_goto (tgt := 2) hx hb (dc d_X7_isLikeEarlier 17 rfl) (by decide) ?_
          exact ih v1 (v2 + (1 : Int32)) _ _ _ hw (lv_sub hl [1, 2, 0] rfl) hf
        · have hf := g_t hf c2
          refine lv_iconst (v := (1 : Int32)) hx hb (dc d_X7_isLikeEarlier 14 rfl) (by decide) ?_
          cases hf
          exact x_zret C hA hQ hw rfl rfl (by decide) (dc d_X7_isLikeEarlier 15 rfl)
  refine lv_iconst (v := (0 : Int32)) hx hb (dc d_X7_isLikeEarlier 0 rfl) (by decide) ?_
  refine lv_istore_n (lv' := [(2, .int (0 : Int32)), (0, .ref tq0), (1, .int x1)]) hx hb (dc d_X7_isLikeEarlier 1 rfl) rfl hl (by decide) rfl (fun ls hl => ?_)
  exact L2  n x1 (0 : Int32) _ _ _ hw (lv_sub hl [1, 2, 0] rfl) hf
set_option maxHeartbeats 4000000 in
set_option maxRecDepth 100000 in
theorem k_X7_fits : ∀ (d n : Nat) {l : Launch} {D : va_G} {cI cC cZ : ClassId} {tq0 tq1 tq2 tq3 : Nat} {t_smithOf : Nat → Int32} {t_greatest : Int32} {t_knownFor : Int32} {t_times : Nat → Int32} {t_sums : Nat → Int32} {t_count : Int32} {x1 : Int32} {x2 : Int32} {x3 : Int32} {o : Int32 × (Nat → Int32) × (Nat → Int32)}, f_X7_fits d n t_smithOf t_times t_sums t_count x1 x2 x3 = some o → Ctr l yX7_fits cX7_fits 5 (some .boolean) d (40 * d + 60) D cI cC cZ [.ref tq0, .int x1, .int x2, .int x3] (w_X7 cI cC cZ tq0 tq1 tq2 tq3 t_smithOf t_greatest t_knownFor t_times t_sums t_count) (w_X7 cI cC cZ tq0 tq1 tq2 tq3 o.2.1 t_greatest t_knownFor t_times o.2.2 t_count) (some (.int o.1)) := by
  intro d n
  induction d with
  | zero => intro l D cI cC cZ tq0 tq1 tq2 tq3 t_smithOf t_greatest t_knownFor t_times t_sums t_count x1 x2 x3 o hf; exact (no_none hf).elim
  | succ d hself =>
  intro l D cI cC cZ tq0 tq1 tq2 tq3 t_smithOf t_greatest t_knownFor t_times t_sums t_count x1 x2 x3 o hf
  have hf : f_X7_fits_r (f_X7_fits d n) n t_smithOf t_times t_sums t_count x1 x2 x3 = some o := hf
  generalize hself0 : f_X7_fits d n = self at hf hself
  refine Ctr.of (by decide) (Nat.le_of_ble_eq_true rfl) ?_
  intro p e s m args below meth c ls A Q hA hQ C hl hw
  have hx := C.1
  have hb := C.2.1
  have hl : lv_has ls 5 [(0, .ref tq0), (1, .int x1), (2, .int x2), (3, .int x3)] := hl
  have L13 : ∀ (n : Nat), ∀ (t_smithOf : Nat → Int32) (t_sums : Nat → Int32) (v1 : Int32) (v2 : Int32) (v3 : Int32) (v4 : Int32) (H : Heap) (locs : List Loc) (ls : Array Slot), Wd D A s.heap (w_X7 cI cC cZ tq0 tq1 tq2 tq3 t_smithOf t_greatest t_knownFor t_times t_sums t_count) H locs → lv_has ls 5 [(0, .ref tq0), (1, .int v1), (2, .int v2), (3, .int v3), (4, .int v4)] → f_X7_fits_13 self t_times t_count  n t_smithOf t_sums v1 v2 v3 v4 = some o → W p l e (rmOf (d + 1) (40 * (d + 1) + 60)) s m args below meth c H locs 0 0 Q (F0 m 13 ls []) := by
    intro  n
    induction n with
    | zero => intro t_smithOf t_sums v1 v2 v3 v4 H locs ls hw hl hf; exact (no_none hf).elim
    | succ n ih =>
      intro t_smithOf t_sums v1 v2 v3 v4 H locs ls hw hl hf
      have hf : f_X7_fits_13b self t_times t_count  (f_X7_fits_13 self t_times t_count  n) n t_smithOf t_sums v1 v2 v3 v4 = some o := hf
      generalize f_X7_fits_13 self t_times t_count  n = k13 at hf ih
      refine lv_iload hx hb (dc d_X7_fits 8 rfl) (lv_at hl 4 rfl) ?_
      refine lv_iload_n hx hb (dc d_X7_fits 9 rfl) rfl (lv_at hl 2 rfl) ?_
      refine lv_icmp_ge (tgt := 109) hx hb (dc d_X7_fits 10 rfl) (by decide) (fun c2 => ?_) (fun c2 => ?_)
      · have hf := g_t hf c2
        refine lv_iconst (v := (0 : Int32)) hx hb (dc d_X7_fits 66 rfl) (by decide) ?_
        cases hf
        exact x_zret C hA hQ hw rfl rfl (by decide) (dc d_X7_fits 67 rfl)
      · have hf := g_f hf c2
        refine lv_aload_n hx hb (dc d_X7_fits 11 rfl) rfl (lv_at hl 0 rfl) ?_
        refine x_get C hw fl_X7_18 0 rfl rfl (dc d_X7_fits 12 rfl) ?_
        refine lv_iload hx hb (dc d_X7_fits 13 rfl) (lv_at hl 4 rfl) ?_
        have hi := grd_b hf
        have hf := grd_x hf
        refine x_iald C hw 3 rfl hi (dc d_X7_fits 14 rfl) ?_
        refine lv_aload_n hx hb (dc d_X7_fits 15 rfl) rfl (lv_at hl 0 rfl) ?_
        refine x_get C hw fl_X7_15 0 rfl rfl (dc d_X7_fits 16 rfl) ?_
        refine lv_iload_n hx hb (dc d_X7_fits 17 rfl) rfl (lv_at hl 1 rfl) ?_
        have hi := grd_b hf
        have hf := grd_x hf
        refine x_iald C hw 2 rfl hi (dc d_X7_fits 18 rfl) ?_
        refine lv_iadd hx hb (dc d_X7_fits 19 rfl) ?_
        refine lv_iload_n hx hb (dc d_X7_fits 20 rfl) rfl (lv_at hl 3 rfl) ?_
        refine lv_icmp_gt (tgt := 103) hx hb (dc d_X7_fits 21 rfl) (by decide) (fun c3 => ?_) (fun c3 => ?_)
        · have hf := g_t hf c3
          refine lv_iinc (v := (v4 + (1 : Int32))) (lv' := [(4, .int (v4 + (1 : Int32))), (0, .ref tq0), (1, .int v1), (2, .int v2), (3, .int v3)]) hx hb (dc d_X7_fits 64 rfl) hl (k := 4) rfl (ii (by decide)) (by decide) rfl (fun ls hl => ?_)
          refine lv_goto (tgt := 13) hx hb (dc d_X7_fits 65 rfl) (by decide) ?_
          exact ih t_smithOf t_sums v1 v2 v3 (v4 + (1 : Int32)) _ _ _ hw (lv_sub hl [1, 2, 3, 4, 0] rfl) hf
        · have hf := g_f hf c3
          refine lv_aload_n hx hb (dc d_X7_fits 22 rfl) rfl (lv_at hl 0 rfl) ?_
          refine lv_iload hx hb (dc d_X7_fits 23 rfl) (lv_at hl 4 rfl) ?_
          obtain ⟨q4, hq4, hf⟩ := g_bd hf
          refine x_callVa C hw mb_X7_isLikeEarlier mv_X7_isLikeEarlier ml_X7_57 (k_X7_isLikeEarlier n hq4) hl.1 rfl rfl rfl 0 7 rfl rfl (by omega) (by omega) (Nat.le_of_ble_eq_true rfl) (dc d_X7_fits 24 rfl) (fun H locs hw => ?_)
          refine W.eq (g2 := F0 m 43 ls [.int q4]) rfl ?_
          have hw : Wd D A s.heap (w_X7 cI cC cZ tq0 tq1 tq2 tq3 t_smithOf t_greatest t_knownFor t_times t_sums t_count) H locs := hw
          refine lv_if_eq (tgt := 49) hx hb (dc d_X7_fits 25 rfl) (by decide) (fun c5 => ?_) (fun c5 => ?_)
          · have hf := g_t hf c5
            refine lv_aload_n hx hb (dc d_X7_fits 27 rfl) rfl (lv_at hl 0 rfl) ?_
            refine x_get C hw fl_X7_18 0 rfl rfl (dc d_X7_fits 28 rfl) ?_
            refine lv_iload hx hb (dc d_X7_fits 29 rfl) (lv_at hl 4 rfl) ?_
            refine lv_dup2_11 hx hb (dc d_X7_fits 30 rfl) rfl rfl ?_
            have hi := grd_b hf
            have hf := grd_x hf
            refine x_iald C hw 3 rfl hi (dc d_X7_fits 31 rfl) ?_
            refine lv_aload_n hx hb (dc d_X7_fits 32 rfl) rfl (lv_at hl 0 rfl) ?_
            refine x_get C hw fl_X7_15 0 rfl rfl (dc d_X7_fits 33 rfl) ?_
            refine lv_iload_n hx hb (dc d_X7_fits 34 rfl) rfl (lv_at hl 1 rfl) ?_
            have hi := grd_b hf
            have hf := grd_x hf
            refine x_iald C hw 2 rfl hi (dc d_X7_fits 35 rfl) ?_
            refine lv_iadd hx hb (dc d_X7_fits 36 rfl) ?_
            have hi := grd_b hf
            have hf := grd_x hf
            refine x_iast C hw 3 rfl hi (dc d_X7_fits 37 rfl) (fun H locs hw => ?_)
            dsimp only [w_X7, mix, List.set_cons_succ, List.set_cons_zero] at hw
            have hw : Wd D A s.heap (w_X7 cI cC cZ tq0 tq1 tq2 tq3 t_smithOf t_greatest t_knownFor t_times (upd t_sums v4.toNatClampNeg ((t_sums v4.toNatClampNeg) + (t_times v1.toNatClampNeg))) t_count) H locs := hw
            refine lv_aload_n hx hb (dc d_X7_fits 38 rfl) rfl (lv_at hl 0 rfl) ?_
            refine x_get C hw fl_X7_9 0 rfl rfl (dc d_X7_fits 39 rfl) ?_
            refine lv_iload_n hx hb (dc d_X7_fits 40 rfl) rfl (lv_at hl 1 rfl) ?_
            refine lv_iload hx hb (dc d_X7_fits 41 rfl) (lv_at hl 4 rfl) ?_
            have hi := grd_b hf
            have hf := grd_x hf
            refine x_iast C hw 1 rfl hi (dc d_X7_fits 42 rfl) (fun H locs hw => ?_)
            dsimp only [w_X7, mix, List.set_cons_succ, List.set_cons_zero] at hw
            have hw : Wd D A s.heap (w_X7 cI cC cZ tq0 tq1 tq2 tq3 (upd t_smithOf v1.toNatClampNeg v4) t_greatest t_knownFor t_times (upd t_sums v4.toNatClampNeg ((t_sums v4.toNatClampNeg) + (t_times v1.toNatClampNeg))) t_count) H locs := hw
            refine lv_aload_n hx hb (dc d_X7_fits 43 rfl) rfl (lv_at hl 0 rfl) ?_
            refine lv_iload_n hx hb (dc d_X7_fits 44 rfl) rfl (lv_at hl 1 rfl) ?_
            refine lv_iconst (v := (1 : Int32)) hx hb (dc d_X7_fits 45 rfl) (by decide) ?_
            refine lv_iadd hx hb (dc d_X7_fits 46 rfl) ?_
            refine lv_iload_n hx hb (dc d_X7_fits 47 rfl) rfl (lv_at hl 2 rfl) ?_
            refine lv_iload_n hx hb (dc d_X7_fits 48 rfl) rfl (lv_at hl 3 rfl) ?_
            obtain ⟨q6, hq6, hf⟩ := g_bd hf
            refine x_callVa C hw mb_X7_fits mv_X7_fits ml_X7_50 (hself hq6) hl.1 rfl rfl rfl 0 7 rfl rfl (by omega) (by omega) (Nat.le_of_ble_eq_true rfl) (dc d_X7_fits 49 rfl) (fun H locs hw => ?_)
            refine W.eq (g2 := F0 m 82 ls [.int q6.1]) rfl ?_
            have hw : Wd D A s.heap (w_X7 cI cC cZ tq0 tq1 tq2 tq3 q6.2.1 t_greatest t_knownFor t_times q6.2.2 t_count) H locs := hw
            refine lv_if_eq (tgt := 87) hx hb (dc d_X7_fits 50 rfl) (by decide) (fun c7 => ?_) (fun c7 => ?_)
            · have hf := g_t hf c7
              refine lv_aload_n hx hb (dc d_X7_fits 53 rfl) rfl (lv_at hl 0 rfl) ?_
              refine x_get C hw fl_X7_18 0 rfl rfl (dc d_X7_fits 54 rfl) ?_
              refine lv_iload hx hb (dc d_X7_fits 55 rfl) (lv_at hl 4 rfl) ?_
              refine lv_dup2_11 hx hb (dc d_X7_fits 56 rfl) rfl rfl ?_
              have hi := grd_b hf
              have hf := grd_x hf
              refine x_iald C hw 3 rfl hi (dc d_X7_fits 57 rfl) ?_
              refine lv_aload_n hx hb (dc d_X7_fits 58 rfl) rfl (lv_at hl 0 rfl) ?_
              refine x_get C hw fl_X7_15 0 rfl rfl (dc d_X7_fits 59 rfl) ?_
              refine lv_iload_n hx hb (dc d_X7_fits 60 rfl) rfl (lv_at hl 1 rfl) ?_
              have hi := grd_b hf
              have hf := grd_x hf
              refine x_iald C hw 2 rfl hi (dc d_X7_fits 61 rfl) ?_
              refine lv_isub hx hb (dc d_X7_fits 62 rfl) ?_
              have hi := grd_b hf
              have hf := grd_x hf
              refine x_iast C hw 3 rfl hi (dc d_X7_fits 63 rfl) (fun H locs hw => ?_)
              dsimp only [w_X7, mix, List.set_cons_succ, List.set_cons_zero] at hw
              have hw : Wd D A s.heap (w_X7 cI cC cZ tq0 tq1 tq2 tq3 q6.2.1 t_greatest t_knownFor t_times (upd q6.2.2 v4.toNatClampNeg ((q6.2.2 v4.toNatClampNeg) - (t_times v1.toNatClampNeg))) t_count) H locs := hw
              refine lv_iinc (v := (v4 + (1 : Int32))) (lv' := [(4, .int (v4 + (1 : Int32))), (0, .ref tq0), (1, .int v1), (2, .int v2), (3, .int v3)]) hx hb (dc d_X7_fits 64 rfl) hl (k := 4) rfl (ii (by decide)) (by decide) rfl (fun ls hl => ?_)
              refine lv_goto (tgt := 13) hx hb (dc d_X7_fits 65 rfl) (by decide) ?_
              exact ih q6.2.1 (upd q6.2.2 v4.toNatClampNeg ((q6.2.2 v4.toNatClampNeg) - (t_times v1.toNatClampNeg))) v1 v2 v3 (v4 + (1 : Int32)) _ _ _ hw (lv_sub hl [1, 2, 3, 4, 0] rfl) hf
            · have hf := g_f hf c7
              refine lv_iconst (v := (1 : Int32)) hx hb (dc d_X7_fits 51 rfl) (by decide) ?_
              cases hf
              exact x_zret C hA hQ hw rfl rfl (by decide) (dc d_X7_fits 52 rfl)
          · have hf := g_f hf c5
            refine lv_goto (tgt := 103) hx hb (dc d_X7_fits 26 rfl) (by decide) ?_
            refine lv_iinc (v := (v4 + (1 : Int32))) (lv' := [(4, .int (v4 + (1 : Int32))), (0, .ref tq0), (1, .int v1), (2, .int v2), (3, .int v3)]) hx hb (dc d_X7_fits 64 rfl) hl (k := 4) rfl (ii (by decide)) (by decide) rfl (fun ls hl => ?_)
            refine lv_goto (tgt := 13) hx hb (dc d_X7_fits 65 rfl) (by decide) ?_
            exact ih t_smithOf t_sums v1 v2 v3 (v4 + (1 : Int32)) _ _ _ hw (lv_sub hl [1, 2, 3, 4, 0] rfl) hf
  refine lv_iload_n hx hb (dc d_X7_fits 0 rfl) rfl (lv_at hl 1 rfl) ?_
  refine lv_aload_n hx hb (dc d_X7_fits 1 rfl) rfl (lv_at hl 0 rfl) ?_
  refine x_get C hw fl_X7_36 0 rfl rfl (dc d_X7_fits 2 rfl) ?_
  refine lv_icmp_lt (tgt := 10) hx hb (dc d_X7_fits 3 rfl) (by decide) (fun c1 => ?_) (fun c1 => ?_)
  · have hf := g_t hf c1
    refine lv_iconst (v := (0 : Int32)) hx hb (dc d_X7_fits 6 rfl) (by decide) ?_
    refine lv_istore (lv' := [(4, .int (0 : Int32)), (0, .ref tq0), (1, .int x1), (2, .int x2), (3, .int x3)]) hx hb (dc d_X7_fits 7 rfl) hl (by decide) rfl (fun ls hl => ?_)
    exact L13  n t_smithOf t_sums x1 x2 x3 (0 : Int32) _ _ _ hw (lv_sub hl [1, 2, 3, 4, 0] rfl) hf
  · have hf := g_f hf c1
    refine lv_iconst (v := (1 : Int32)) hx hb (dc d_X7_fits 4 rfl) (by decide) ?_
    cases hf
    exact x_zret C hA hQ hw rfl rfl (by decide) (dc d_X7_fits 5 rfl)
