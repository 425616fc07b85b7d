/-! Written by wip/gen/all.py. -/
set_option maxHeartbeats 4000000 in
set_option maxRecDepth 100000 in
theorem k_X7_share (n : Nat) {l : Launch} {D : va_G} {cI cC cZ : ClassId} {tq0 tq1 tq2 tq3 bq0 bq1 bq2 bq3 bq4 : Nat} {t_smithOf : Nat → Int32} {t_greatest : Int32} {t_knownFor : Int32} {t_times : Nat → Int32} {t_sums : Nat → Int32} {t_count : Int32} {b_N : Nat} {b_room : Int32} {b_line : Nat → Int32} {b_strength : Nat → Int32} {b_water : Nat → Int32} {b_back : Nat → Int32} {b_count : Int32} {x2 : Int32} {o : (Nat → Int32) × Int32 × Int32 × (Nat → Int32) × (Nat → Int32) × Int32} (hf : f_X7_share n t_smithOf t_greatest t_knownFor t_times t_sums t_count b_N b_strength b_water b_count x2 = some o) : Ctr l yX7_share cX7_share 7 none 15 644 D cI cC cZ [.ref tq0, .ref bq0, .int x2] (w_X7_X3 cI cC cZ tq0 tq1 tq2 tq3 bq0 bq1 bq2 bq3 bq4 t_smithOf t_greatest t_knownFor t_times t_sums t_count b_N b_room b_line b_strength b_water b_back b_count) (w_X7_X3 cI cC cZ tq0 tq1 tq2 tq3 bq0 bq1 bq2 bq3 bq4 o.1 o.2.1 o.2.2.1 o.2.2.2.1 o.2.2.2.2.1 o.2.2.2.2.2 b_N b_room b_line b_strength b_water b_back b_count) none := by
  refine Ctr.of (by decide) (Nat.le_of_ble_eq_true rfl) ?_
  intro p e s m args below meth c ls A Q hA hQ C hl hw
  have hx := C.1
  have hb := C.2.1
  have hl : lv_has ls 7 [(0, .ref tq0), (1, .ref bq0), (2, .int x2)] := hl
  have L146 : ∀ (n : Nat), ∀ (t_smithOf : Nat → Int32) (t_greatest : Int32) (t_knownFor : Int32) (t_times : Nat → Int32) (t_sums : Nat → Int32) (t_count : Int32) (v2 : Int32) (v4 : Int32) (H : Heap) (locs : List Loc) (ls : Array Slot), Wd D A s.heap (w_X7_X3 cI cC cZ tq0 tq1 tq2 tq3 bq0 bq1 bq2 bq3 bq4 t_smithOf t_greatest t_knownFor t_times t_sums t_count b_N b_room b_line b_strength b_water b_back b_count) H locs → lv_has ls 7 [(0, .ref tq0), (2, .int v2), (4, .int v4)] → f_X7_share_146 b_N b_strength b_water b_count  n t_smithOf t_greatest t_knownFor t_times t_sums t_count v2 v4 = some o → W p l e (rmOf 15 644) s m args below meth c H locs 0 0 Q (F0 m 146 ls []) := by
    intro  n t_smithOf t_greatest t_knownFor t_times t_sums t_count v2 v4 H locs ls hw hl hf
    refine lv_aload_n hx hb (dc d_X7_share 78 rfl) rfl (lv_at hl 0 rfl) ?_
    refine x_get C hw fl_X7_41 0 rfl rfl (dc d_X7_share 79 rfl) ?_
    refine lv_iload hx hb (dc d_X7_share 80 rfl) (lv_at hl 2 rfl) ?_
    refine lv_icmp_lt (tgt := 163) hx hb (dc d_X7_share 81 rfl) (by decide) (fun c10 => ?_) (fun c10 => ?_)
    · have hf := g_t hf c10
      refine lv_aload_n hx hb (dc d_X7_share 86 rfl) rfl (lv_at hl 0 rfl) ?_
      refine lv_iload_n hx hb (dc d_X7_share 87 rfl) rfl (lv_at hl 1 rfl) ?_
      refine x_put C hw fl_X7_54 fw_X7_2 0 rfl rfl rfl (Nat.le_of_ble_eq_true rfl) (dc d_X7_share 88 rfl) (fun H locs hw => ?_)
      dsimp only [w_X7_X3, mix, List.set_cons_succ, List.set_cons_zero] at hw
      have hw : Wd D A s.heap (w_X7_X3 cI cC cZ tq0 tq1 tq2 tq3 bq0 bq1 bq2 bq3 bq4 t_smithOf t_greatest v2 t_times t_sums t_count b_N b_room b_line b_strength b_water b_back b_count) H locs := hw
      cases hf
      exact x_vret C hA hQ hw rfl rfl (dc d_X7_share 89 rfl)
    · have hf := g_f hf c10
      refine lv_aload_n hx hb (dc d_X7_share 82 rfl) rfl (lv_at hl 0 rfl) ?_
      refine x_get C hw fl_X7_9 0 rfl rfl (dc d_X7_share 83 rfl) ?_
      refine lv_iconst (v := (0 : Int32)) hx hb (dc d_X7_share 84 rfl) (by decide) ?_
      obtain ⟨q11, hq11, hf⟩ := g_bd hf
      refine x_callS C hw mb_J7_fill_53178 ms_J7_fill_53178 ml_X7_44 (k_J7_fill_53178 n hq11) hl.1 rfl rfl [1] rfl rfl rfl (Nat.le_of_ble_eq_true rfl) (Nat.le_of_ble_eq_true rfl) (Nat.le_of_ble_eq_true rfl) (dc d_X7_share 85 rfl) (fun H locs hw => ?_)
      refine W.eq (g2 := F0 m 163 ls []) rfl ?_
      dsimp only [w_X7_X3, w_aIN, mix, List.set_cons_succ, List.set_cons_zero] at hw
      have hw : Wd D A s.heap (w_X7_X3 cI cC cZ tq0 tq1 tq2 tq3 bq0 bq1 bq2 bq3 bq4 q11 t_greatest t_knownFor t_times t_sums t_count b_N b_room b_line b_strength b_water b_back b_count) H locs := hw
      refine lv_aload_n hx hb (dc d_X7_share 86 rfl) rfl (lv_at hl 0 rfl) ?_
      refine lv_iload_n hx hb (dc d_X7_share 87 rfl) rfl (lv_at hl 1 rfl) ?_
      refine x_put C hw fl_X7_54 fw_X7_2 0 rfl rfl rfl (Nat.le_of_ble_eq_true rfl) (dc d_X7_share 88 rfl) (fun H locs hw => ?_)
      dsimp only [w_X7_X3, mix, List.set_cons_succ, List.set_cons_zero] at hw
      have hw : Wd D A s.heap (w_X7_X3 cI cC cZ tq0 tq1 tq2 tq3 bq0 bq1 bq2 bq3 bq4 q11 t_greatest v2 t_times t_sums t_count b_N b_room b_line b_strength b_water b_back b_count) H locs := hw
      cases hf
      exact x_vret C hA hQ hw rfl rfl (dc d_X7_share 89 rfl)
  have L111 : ∀ (n : Nat), ∀ (t_smithOf : Nat → Int32) (t_greatest : Int32) (t_knownFor : Int32) (t_times : Nat → Int32) (t_sums : Nat → Int32) (t_count : Int32) (v2 : Int32) (v3 : Int32) (v4 : Int32) (H : Heap) (locs : List Loc) (ls : Array Slot), Wd D A s.heap (w_X7_X3 cI cC cZ tq0 tq1 tq2 tq3 bq0 bq1 bq2 bq3 bq4 t_smithOf t_greatest t_knownFor t_times t_sums t_count b_N b_room b_line b_strength b_water b_back b_count) H locs → lv_has ls 7 [(0, .ref tq0), (2, .int v2), (3, .int v3), (4, .int v4)] → f_X7_share_111 b_N b_strength b_water b_count  n t_smithOf t_greatest t_knownFor t_times t_sums t_count v2 v3 v4 = some o → W p l e (rmOf 15 644) s m args below meth c H locs 0 0 Q (F0 m 111 ls []) := by
    intro  n
    induction n with
    | zero => intro t_smithOf t_greatest t_knownFor t_times t_sums t_count v2 v3 v4 H locs ls hw hl hf; exact (no_none hf).elim
    | succ n ih =>
      intro t_smithOf t_greatest t_knownFor t_times t_sums t_count v2 v3 v4 H locs ls hw hl hf
      have hf : f_X7_share_111b b_N b_strength b_water b_count  (f_X7_share_111 b_N b_strength b_water b_count  n) n t_smithOf t_greatest t_knownFor t_times t_sums t_count v2 v3 v4 = some o := hf
      generalize f_X7_share_111 b_N b_strength b_water b_count  n = k111 at hf ih
      refine lv_aload_n hx hb (dc d_X7_share 60 rfl) rfl (lv_at hl 0 rfl) ?_
      refine x_get C hw fl_X7_41 0 rfl rfl (dc d_X7_share 61 rfl) ?_
      refine lv_iload hx hb (dc d_X7_share 62 rfl) (lv_at hl 3 rfl) ?_
      refine lv_icmp_ge (tgt := 146) hx hb (dc d_X7_share 63 rfl) (by decide) (fun c7 => ?_) (fun c7 => ?_)
      · have hf := g_t hf c7
        exact L146  n t_smithOf t_greatest t_knownFor t_times t_sums t_count v2 v4 _ _ _ hw (lv_sub hl [0, 1, 3] rfl) hf
      · have hf := g_f hf c7
        refine lv_aload_n hx hb (dc d_X7_share 64 rfl) rfl (lv_at hl 0 rfl) ?_
        refine lv_iconst (v := (0 : Int32)) hx hb (dc d_X7_share 65 rfl) (by decide) ?_
        refine lv_iload_n hx hb (dc d_X7_share 66 rfl) rfl (lv_at hl 2 rfl) ?_
        refine lv_aload_n hx hb (dc d_X7_share 67 rfl) rfl (lv_at hl 0 rfl) ?_
        refine x_get C hw fl_X7_41 0 rfl rfl (dc d_X7_share 68 rfl) ?_
        obtain ⟨q8, hq8, hf⟩ := g_bd hf
        refine x_callV C hw mb_X7_fits mv_X7_fits ml_X7_50 (k_X7_fits 14 n hq8) hl.1 rfl rfl [0, 1, 2, 3] rfl rfl rfl 0 7 rfl rfl (Nat.le_of_ble_eq_true rfl) (Nat.le_of_ble_eq_true rfl) (Nat.le_of_ble_eq_true rfl) (dc d_X7_share 69 rfl) (fun H locs hw => ?_)
        refine W.eq (g2 := F0 m 130 ls [.int q8.1]) rfl ?_
        dsimp only [w_X7_X3, w_X7, mix, List.set_cons_succ, List.set_cons_zero] at hw
        have hw : Wd D A s.heap (w_X7_X3 cI cC cZ tq0 tq1 tq2 tq3 bq0 bq1 bq2 bq3 bq4 q8.2.1 t_greatest t_knownFor t_times q8.2.2 t_count b_N b_room b_line b_strength b_water b_back b_count) H locs := hw
        refine lv_if_ne (tgt := 146) hx hb (dc d_X7_share 70 rfl) (by decide) (fun c9 => ?_) (fun c9 => ?_)
        · have hf := g_f hf c9
          exact L146  n q8.2.1 t_greatest t_knownFor t_times q8.2.2 t_count v2 v4 _ _ _ hw (lv_sub hl [0, 1, 3] rfl) hf
        · have hf := g_t hf c9
          refine lv_aload_n hx hb (dc d_X7_share 71 rfl) rfl (lv_at hl 0 rfl) ?_
          refine lv_dup hx hb (dc d_X7_share 72 rfl) rfl ?_
          refine x_get C hw fl_X7_41 0 rfl rfl (dc d_X7_share 73 rfl) ?_
          refine lv_iconst (v := (1 : Int32)) hx hb (dc d_X7_share 74 rfl) (by decide) ?_
          refine lv_iadd hx hb (dc d_X7_share 75 rfl) ?_
          refine x_put C hw fl_X7_41 fw_X7_1 0 rfl rfl rfl (Nat.le_of_ble_eq_true rfl) (dc d_X7_share 76 rfl) (fun H locs hw => ?_)
          dsimp only [w_X7_X3, mix, List.set_cons_succ, List.set_cons_zero] at hw
          have hw : Wd D A s.heap (w_X7_X3 cI cC cZ tq0 tq1 tq2 tq3 bq0 bq1 bq2 bq3 bq4 q8.2.1 (t_greatest + (1 : Int32)) t_knownFor t_times q8.2.2 t_count b_N b_room b_line b_strength b_water b_back b_count) H locs := hw
          refine lv_goto (tgt := 111) hx hb (dc d_X7_share 77 rfl) (by decide) ?_
          exact ih q8.2.1 (t_greatest + (1 : Int32)) t_knownFor t_times q8.2.2 t_count v2 v3 v4 _ _ _ hw (lv_sub hl [0, 1, 2, 3] rfl) hf
  have L32 : ∀ (n : Nat), ∀ (t_smithOf : Nat → Int32) (t_greatest : Int32) (t_knownFor : Int32) (t_times : Nat → Int32) (t_sums : Nat → Int32) (t_count : Int32) (v2 : Int32) (v3 : Int32) (v4 : Int32) (v5 : Int32) (v6 : Int32) (H : Heap) (locs : List Loc) (ls : Array Slot), Wd D A s.heap (w_X7_X3 cI cC cZ tq0 tq1 tq2 tq3 bq0 bq1 bq2 bq3 bq4 t_smithOf t_greatest t_knownFor t_times t_sums t_count b_N b_room b_line b_strength b_water b_back b_count) H locs → lv_has ls 7 [(0, .ref tq0), (1, .ref bq0), (2, .int v2), (3, .int v3), (4, .int v4), (5, .int v5), (6, .int v6)] → f_X7_share_32 b_N b_strength b_water b_count  n t_smithOf t_greatest t_knownFor t_times t_sums t_count v2 v3 v4 v5 v6 = some o → W p l e (rmOf 15 644) s m args below meth c H locs 0 0 Q (F0 m 32 ls []) := by
    intro  n
    induction n with
    | zero => intro t_smithOf t_greatest t_knownFor t_times t_sums t_count v2 v3 v4 v5 v6 H locs ls hw hl hf; exact (no_none hf).elim
    | succ n ih =>
      intro t_smithOf t_greatest t_knownFor t_times t_sums t_count v2 v3 v4 v5 v6 H locs ls hw hl hf
      have hf : f_X7_share_32b b_N b_strength b_water b_count  (f_X7_share_32 b_N b_strength b_water b_count  n) n t_smithOf t_greatest t_knownFor t_times t_sums t_count v2 v3 v4 v5 v6 = some o := hf
      generalize f_X7_share_32 b_N b_strength b_water b_count  n = k32 at hf ih
      refine lv_iload hx hb (dc d_X7_share 18 rfl) (lv_at hl 6 rfl) ?_
      refine lv_aload_n hx hb (dc d_X7_share 19 rfl) rfl (lv_at hl 0 rfl) ?_
      refine x_get C hw fl_X7_36 0 rfl rfl (dc d_X7_share 20 rfl) ?_
      refine lv_icmp_ge (tgt := 86) hx hb (dc d_X7_share 21 rfl) (by decide) (fun c2 => ?_) (fun c2 => ?_)
      · have hf := g_t hf c2
        refine lv_aload_n hx hb (dc d_X7_share 45 rfl) rfl (lv_at hl 0 rfl) ?_
        refine lv_iload hx hb (dc d_X7_share 46 rfl) (lv_at hl 5 rfl) ?_
        refine lv_iload hx hb (dc d_X7_share 47 rfl) (lv_at hl 4 rfl) ?_
        refine lv_iload_n hx hb (dc d_X7_share 48 rfl) rfl (lv_at hl 3 rfl) ?_
        refine lv_iadd hx hb (dc d_X7_share 49 rfl) ?_
        refine lv_iconst (v := (1 : Int32)) hx hb (dc d_X7_share 50 rfl) (by decide) ?_
        refine lv_isub hx hb (dc d_X7_share 51 rfl) ?_
        refine lv_iload_n hx hb (dc d_X7_share 52 rfl) rfl (lv_at hl 3 rfl) ?_
        refine x_div hx hb (dc d_X7_share 53 rfl) (grd_b hf) ?_
        have hf := grd_x hf
        refine x_max C hl.1 ml_X7_27 ms_J9_max_7cf53 in_java_lang_Math cd_Lib_Math_max (Nat.le_of_ble_eq_true rfl) (Nat.le_of_ble_eq_true rfl) (dc d_X7_share 54 rfl) ?_
        refine x_put C hw fl_X7_41 fw_X7_1 0 rfl rfl rfl (Nat.le_of_ble_eq_true rfl) (dc d_X7_share 55 rfl) (fun H locs hw => ?_)
        dsimp only [w_X7_X3, mix, List.set_cons_succ, List.set_cons_zero] at hw
        have hw : Wd D A s.heap (w_X7_X3 cI cC cZ tq0 tq1 tq2 tq3 bq0 bq1 bq2 bq3 bq4 t_smithOf (jmax v5 (((v4 + v3) - (1 : Int32)) / v3)) t_knownFor t_times t_sums t_count b_N b_room b_line b_strength b_water b_back b_count) H locs := hw
        refine lv_aload_n hx hb (dc d_X7_share 56 rfl) rfl (lv_at hl 0 rfl) ?_
        refine x_get C hw fl_X7_18 0 rfl rfl (dc d_X7_share 57 rfl) ?_
        refine lv_iconst (v := (0 : Int32)) hx hb (dc d_X7_share 58 rfl) (by decide) ?_
        obtain ⟨q3, hq3, hf⟩ := g_bd hf
        refine x_callS C hw mb_J7_fill_53178 ms_J7_fill_53178 ml_X7_44 (k_J7_fill_53178 n hq3) hl.1 rfl rfl [3] rfl rfl rfl (Nat.le_of_ble_eq_true rfl) (Nat.le_of_ble_eq_true rfl) (Nat.le_of_ble_eq_true rfl) (dc d_X7_share 59 rfl) (fun H locs hw => ?_)
        refine W.eq (g2 := F0 m 111 ls []) rfl ?_
        dsimp only [w_X7_X3, w_aIN, mix, List.set_cons_succ, List.set_cons_zero] at hw
        have hw : Wd D A s.heap (w_X7_X3 cI cC cZ tq0 tq1 tq2 tq3 bq0 bq1 bq2 bq3 bq4 t_smithOf (jmax v5 (((v4 + v3) - (1 : Int32)) / v3)) t_knownFor t_times q3 t_count b_N b_room b_line b_strength b_water b_back b_count) H locs := hw
        exact L111  n t_smithOf (jmax v5 (((v4 + v3) - (1 : Int32)) / v3)) t_knownFor t_times q3 t_count v2 v3 v4 _ _ _ hw (lv_sub hl [0, 2, 3, 4] rfl) hf
      · have hf := g_f hf c2
        refine lv_aload_n hx hb (dc d_X7_share 22 rfl) rfl (lv_at hl 0 rfl) ?_
        refine x_get C hw fl_X7_15 0 rfl rfl (dc d_X7_share 23 rfl) ?_
        refine lv_iload hx hb (dc d_X7_share 24 rfl) (lv_at hl 6 rfl) ?_
        refine lv_aload_n hx hb (dc d_X7_share 25 rfl) rfl (lv_at hl 1 rfl) ?_
        refine lv_iload hx hb (dc d_X7_share 26 rfl) (lv_at hl 6 rfl) ?_
        obtain ⟨q4, hq4, hf⟩ := g_bd hf
        refine x_callV C hw mb_X3_time mv_X3_time ml_X7_37 (k_X3_time n hq4) hl.1 rfl rfl [4, 5, 6, 7, 8] rfl rfl rfl 4 3 rfl rfl (Nat.le_of_ble_eq_true rfl) (Nat.le_of_ble_eq_true rfl) (Nat.le_of_ble_eq_true rfl) (dc d_X7_share 27 rfl) (fun H locs hw => ?_)
        refine W.eq (g2 := F0 m 53 ls [.int q4, .int v6, .ref tq2]) rfl ?_
        dsimp only [w_X7_X3, w_X3, mix, List.set_cons_succ, List.set_cons_zero] at hw
        have hw : Wd D A s.heap (w_X7_X3 cI cC cZ tq0 tq1 tq2 tq3 bq0 bq1 bq2 bq3 bq4 t_smithOf t_greatest t_knownFor t_times t_sums t_count b_N b_room b_line b_strength b_water b_back b_count) H locs := hw
        have hi := grd_b hf
        have hf := grd_x hf
        refine x_iast C hw 2 rfl hi (dc d_X7_share 28 rfl) (fun H locs hw => ?_)
        dsimp only [w_X7_X3, mix, List.set_cons_succ, List.set_cons_zero] at hw
        have hw : Wd D A s.heap (w_X7_X3 cI cC cZ tq0 tq1 tq2 tq3 bq0 bq1 bq2 bq3 bq4 t_smithOf t_greatest t_knownFor (upd t_times v6.toNatClampNeg q4) t_sums t_count b_N b_room b_line b_strength b_water b_back b_count) H locs := hw
        refine lv_iload hx hb (dc d_X7_share 29 rfl) (lv_at hl 4 rfl) ?_
        refine lv_aload_n hx hb (dc d_X7_share 30 rfl) rfl (lv_at hl 0 rfl) ?_
        refine x_get C hw fl_X7_15 0 rfl rfl (dc d_X7_share 31 rfl) ?_
        refine lv_iload hx hb (dc d_X7_share 32 rfl) (lv_at hl 6 rfl) ?_
        have hi := grd_b hf
        have hf := grd_x hf
        refine x_iald C hw 2 rfl hi (dc d_X7_share 33 rfl) ?_
        refine lv_iadd hx hb (dc d_X7_share 34 rfl) ?_
        refine lv_topi (fun y5 ey5 => ?_)
        have hf := g_nm hf ey5
        refine lv_istore (lv' := [(4, .int y5), (0, .ref tq0), (1, .ref bq0), (2, .int v2), (3, .int v3), (5, .int v5), (6, .int v6)]) hx hb (dc d_X7_share 35 rfl) hl (by decide) rfl (fun ls hl => ?_)
        refine lv_iload hx hb (dc d_X7_share 36 rfl) (lv_at hl 5 rfl) ?_
        refine lv_aload_n hx hb (dc d_X7_share 37 rfl) rfl (lv_at hl 1 rfl) ?_
        refine x_get C hw fl_X7_15 0 rfl rfl (dc d_X7_share 38 rfl) ?_
        refine lv_iload hx hb (dc d_X7_share 39 rfl) (lv_at hl 6 rfl) ?_
        have hi := grd_b hf
        have hf := grd_x hf
        refine x_iald C hw 2 rfl hi (dc d_X7_share 40 rfl) ?_
        refine x_max C hl.1 ml_X7_27 ms_J9_max_7cf53 in_java_lang_Math cd_Lib_Math_max (Nat.le_of_ble_eq_true rfl) (Nat.le_of_ble_eq_true rfl) (dc d_X7_share 41 rfl) ?_
        refine lv_topi (fun y6 ey6 => ?_)
        have hf := g_nm hf ey6
        refine lv_istore (lv' := [(5, .int y6), (4, .int y5), (0, .ref tq0), (1, .ref bq0), (2, .int v2), (3, .int v3), (6, .int v6)]) hx hb (dc d_X7_share 42 rfl) hl (by decide) rfl (fun ls hl => ?_)
        refine lv_iinc (v := (v6 + (1 : Int32))) (lv' := [(6, .int (v6 + (1 : Int32))), (5, .int y6), (4, .int y5), (0, .ref tq0), (1, .ref bq0), (2, .int v2), (3, .int v3)]) hx hb (dc d_X7_share 43 rfl) hl (k := 6) rfl (ii (by decide)) (by decide) rfl (fun ls hl => ?_)
        refine lv_goto (tgt := 32) hx hb (dc d_X7_share 44 rfl) (by decide) ?_
        exact ih t_smithOf t_greatest t_knownFor (upd t_times v6.toNatClampNeg q4) t_sums t_count v2 v3 y5 y6 (v6 + (1 : Int32)) _ _ _ hw (lv_sub hl [3, 4, 5, 6, 2, 1, 0] rfl) hf
  refine lv_iconst (v := (1 : Int32)) hx hb (dc d_X7_share 0 rfl) (by decide) ?_
  refine lv_iload_n hx hb (dc d_X7_share 1 rfl) rfl (lv_at hl 2 rfl) ?_
  refine lv_iconst (v := (3 : Int32)) hx hb (dc d_X7_share 2 rfl) (by decide) ?_
  refine x_min C hl.1 ml_X7_21 ms_J9_min_7cf53 in_java_lang_Math cd_Lib_Math_min (Nat.le_of_ble_eq_true rfl) (Nat.le_of_ble_eq_true rfl) (dc d_X7_share 3 rfl) ?_
  refine x_max C hl.1 ml_X7_27 ms_J9_max_7cf53 in_java_lang_Math cd_Lib_Math_max (Nat.le_of_ble_eq_true rfl) (Nat.le_of_ble_eq_true rfl) (dc d_X7_share 4 rfl) ?_
  refine lv_topi (fun y1 ey1 => ?_)
  have hf := g_nm hf ey1
  refine lv_istore_n (lv' := [(3, .int y1), (0, .ref tq0), (1, .ref bq0), (2, .int x2)]) hx hb (dc d_X7_share 5 rfl) rfl hl (by decide) rfl (fun ls hl => ?_)
  refine lv_aload_n hx hb (dc d_X7_share 6 rfl) rfl (lv_at hl 1 rfl) ?_
  refine lv_aload_n hx hb (dc d_X7_share 7 rfl) rfl (lv_at hl 2 rfl) ?_
  refine x_get C hw fl_X7_30 4 rfl rfl (dc d_X7_share 8 rfl) ?_
  refine lv_bipush (v := (12 : Int32)) hx hb (dc d_X7_share 9 rfl) (by decide) ?_
  refine x_min C hl.1 ml_X7_21 ms_J9_min_7cf53 in_java_lang_Math cd_Lib_Math_min (Nat.le_of_ble_eq_true rfl) (Nat.le_of_ble_eq_true rfl) (dc d_X7_share 10 rfl) ?_
  refine x_put C hw fl_X7_36 fw_X7_5 0 rfl rfl rfl (Nat.le_of_ble_eq_true rfl) (dc d_X7_share 11 rfl) (fun H locs hw => ?_)
  dsimp only [w_X7_X3, mix, List.set_cons_succ, List.set_cons_zero] at hw
  have hw : Wd D A s.heap (w_X7_X3 cI cC cZ tq0 tq1 tq2 tq3 bq0 bq1 bq2 bq3 bq4 t_smithOf t_greatest t_knownFor t_times t_sums (jmin b_count (12 : Int32)) b_N b_room b_line b_strength b_water b_back b_count) H locs := hw
  refine lv_iconst (v := (0 : Int32)) hx hb (dc d_X7_share 12 rfl) (by decide) ?_
  refine lv_istore (lv' := [(4, .int (0 : Int32)), (3, .int y1), (0, .ref tq0), (1, .ref bq0), (2, .int x2)]) hx hb (dc d_X7_share 13 rfl) hl (by decide) rfl (fun ls hl => ?_)
  refine lv_iconst (v := (0 : Int32)) hx hb (dc d_X7_share 14 rfl) (by decide) ?_
  refine lv_istore (lv' := [(5, .int (0 : Int32)), (4, .int (0 : Int32)), (3, .int y1), (0, .ref tq0), (1, .ref bq0), (2, .int x2)]) hx hb (dc d_X7_share 15 rfl) hl (by decide) rfl (fun ls hl => ?_)
  refine lv_iconst (v := (0 : Int32)) hx hb (dc d_X7_share 16 rfl) (by decide) ?_
  refine lv_istore (lv' := [(6, .int (0 : Int32)), (5, .int (0 : Int32)), (4, .int (0 : Int32)), (3, .int y1), (0, .ref tq0), (1, .ref bq0), (2, .int x2)]) hx hb (dc d_X7_share 17 rfl) hl (by decide) rfl (fun ls hl => ?_)
  exact L32  n t_smithOf t_greatest t_knownFor t_times t_sums (jmin b_count (12 : Int32)) x2 y1 (0 : Int32) (0 : Int32) (0 : Int32) _ _ _ hw (lv_sub hl [4, 5, 6, 3, 2, 1, 0] rfl) hf
set_option maxHeartbeats 4000000 in
set_option maxRecDepth 100000 in
theorem k_X8_narrow (n : Nat) {l : Launch} {D : va_G} {cI cC cZ : ClassId} {tq0 tq1 tq2 : Nat} {t_lower : Nat → Int32} {t_upper : Nat → Int32} {x1 : Int32} {x2 : Int32} {x3 : Int32} {o : Int32 × (Nat → Int32) × (Nat → Int32)} (hf : f_X8_narrow n t_lower t_upper x1 x2 x3 = some o) : Ctr l yX8_narrow cX8_narrow 6 (some .boolean) 1 21 D cI cC cZ [.ref tq0, .int x1, .int x2, .int x3] (w_X8 cI cC cZ tq0 tq1 tq2 t_lower t_upper) (w_X8 cI cC cZ tq0 tq1 tq2 o.2.1 o.2.2) (some (.int o.1)) := by
  refine Ctr.of (by decide) (Nat.le_of_ble_eq_true rfl) ?_
  intro p e s m args below meth c ls A Q hA hQ C hl hw
  have hx := C.1
  have hb := C.2.1
  have hl : lv_has ls 6 [(0, .ref tq0), (1, .int x1), (2, .int x2), (3, .int x3)] := hl
  refine lv_aload_n hx hb (dc d_X8_narrow 0 rfl) rfl (lv_at hl 0 rfl) ?_
  refine x_get C hw fl_X8_9 0 rfl rfl (dc d_X8_narrow 1 rfl) ?_
  refine lv_iload_n hx hb (dc d_X8_narrow 2 rfl) rfl (lv_at hl 1 rfl) ?_
  refine lv_iconst (v := (1 : Int32)) hx hb (dc d_X8_narrow 3 rfl) (by decide) ?_
  refine lv_isub hx hb (dc d_X8_narrow 4 rfl) ?_
  have hi := grd_b hf
  have hf := grd_x hf
  refine x_iald C hw 1 rfl hi (dc d_X8_narrow 5 rfl) ?_
  refine lv_iload_n hx hb (dc d_X8_narrow 6 rfl) rfl (lv_at hl 2 rfl) ?_
  refine x_max C hl.1 ml_X8_24 ms_J9_max_7cf53 in_java_lang_Math cd_Lib_Math_max (Nat.le_of_ble_eq_true rfl) (Nat.le_of_ble_eq_true rfl) (dc d_X8_narrow 7 rfl) ?_
  refine lv_topi (fun y1 ey1 => ?_)
  have hf := g_nm hf ey1
  refine lv_istore (lv' := [(4, .int y1), (0, .ref tq0), (1, .int x1), (2, .int x2), (3, .int x3)]) hx hb (dc d_X8_narrow 8 rfl) hl (by decide) rfl (fun ls hl => ?_)
  refine lv_aload_n hx hb (dc d_X8_narrow 9 rfl) rfl (lv_at hl 1 rfl) ?_
  refine x_get C hw fl_X8_15 0 rfl rfl (dc d_X8_narrow 10 rfl) ?_
  refine lv_iload_n hx hb (dc d_X8_narrow 11 rfl) rfl (lv_at hl 2 rfl) ?_
  refine lv_iconst (v := (1 : Int32)) hx hb (dc d_X8_narrow 12 rfl) (by decide) ?_
  refine lv_isub hx hb (dc d_X8_narrow 13 rfl) ?_
  have hi := grd_b hf
  have hf := grd_x hf
  refine x_iald C hw 2 rfl hi (dc d_X8_narrow 14 rfl) ?_
  refine lv_iload_n hx hb (dc d_X8_narrow 15 rfl) rfl (lv_at hl 4 rfl) ?_
  refine x_min C hl.1 ml_X8_30 ms_J9_min_7cf53 in_java_lang_Math cd_Lib_Math_min (Nat.le_of_ble_eq_true rfl) (Nat.le_of_ble_eq_true rfl) (dc d_X8_narrow 16 rfl) ?_
  refine lv_topi (fun y2 ey2 => ?_)
  have hf := g_nm hf ey2
  refine lv_istore (lv' := [(5, .int y2), (4, .int y1), (0, .ref tq0), (1, .int x1), (2, .int x2), (3, .int x3)]) hx hb (dc d_X8_narrow 17 rfl) hl (by decide) rfl (fun ls hl => ?_)
  refine lv_iload hx hb (dc d_X8_narrow 18 rfl) (lv_at hl 1 rfl) ?_
  refine lv_iload hx hb (dc d_X8_narrow 19 rfl) (lv_at hl 0 rfl) ?_
  refine lv_icmp_le (tgt := 37) hx hb (dc d_X8_narrow 20 rfl) (by decide) (fun c3 => ?_) (fun c3 => ?_)
  · have hf := g_t hf c3
    refine lv_aload_n hx hb (dc d_X8_narrow 23 rfl) rfl (lv_at hl 2 rfl) ?_
    refine x_get C hw fl_X8_9 0 rfl rfl (dc d_X8_narrow 24 rfl) ?_
    refine lv_iload_n hx hb (dc d_X8_narrow 25 rfl) rfl (lv_at hl 3 rfl) ?_
    refine lv_iconst (v := (1 : Int32)) hx hb (dc d_X8_narrow 26 rfl) (by decide) ?_
    refine lv_isub hx hb (dc d_X8_narrow 27 rfl) ?_
    refine lv_iload hx hb (dc d_X8_narrow 28 rfl) (lv_at hl 1 rfl) ?_
    have hi := grd_b hf
    have hf := grd_x hf
    refine x_iast C hw 1 rfl hi (dc d_X8_narrow 29 rfl) (fun H locs hw => ?_)
    dsimp only [w_X8, mix, List.set_cons_succ, List.set_cons_zero] at hw
    have hw : Wd D A s.heap (w_X8 cI cC cZ tq0 tq1 tq2 (upd t_lower (x1 - (1 : Int32)).toNatClampNeg y1) t_upper) H locs := hw
    refine lv_aload_n hx hb (dc d_X8_narrow 30 rfl) rfl (lv_at hl 2 rfl) ?_
    refine x_get C hw fl_X8_15 0 rfl rfl (dc d_X8_narrow 31 rfl) ?_
    refine lv_iload_n hx hb (dc d_X8_narrow 32 rfl) rfl (lv_at hl 3 rfl) ?_
    refine lv_iconst (v := (1 : Int32)) hx hb (dc d_X8_narrow 33 rfl) (by decide) ?_
    refine lv_isub hx hb (dc d_X8_narrow 34 rfl) ?_
    refine lv_iload hx hb (dc d_X8_narrow 35 rfl) (lv_at hl 0 rfl) ?_
    have hi := grd_b hf
    have hf := grd_x hf
    refine x_iast C hw 2 rfl hi (dc d_X8_narrow 36 rfl) (fun H locs hw => ?_)
    dsimp only [w_X8, mix, List.set_cons_succ, List.set_cons_zero] at hw
    have hw : Wd D A s.heap (w_X8 cI cC cZ tq0 tq1 tq2 (upd t_lower (x1 - (1 : Int32)).toNatClampNeg y1) (upd t_upper (x1 - (1 : Int32)).toNatClampNeg y2)) H locs := hw
    refine lv_iconst (v := (1 : Int32)) hx hb (dc d_X8_narrow 37 rfl) (by decide) ?_
    cases hf
    exact x_zret C hA hQ hw rfl rfl (by decide) (dc d_X8_narrow 38 rfl)
  · have hf := g_f hf c3
    refine lv_iconst (v := (0 : Int32)) hx hb (dc d_X8_narrow 21 rfl) (by decide) ?_
    cases hf
    exact x_zret C hA hQ hw rfl rfl (by decide) (dc d_X8_narrow 22 rfl)
set_option maxHeartbeats 4000000 in
set_option maxRecDepth 100000 in
theorem k_X8_widestStrength (n : Nat) {l : Launch} {D : va_G} {cI cC cZ : ClassId} {tq0 tq1 tq2 : Nat} {t_lower : Nat → Int32} {t_upper : Nat → Int32}  {o : Int32} (hf : f_X8_widestStrength n t_lower t_upper = some o) : Ctr l yX8_widestStrength cX8_widestStrength 3 (some .int) 0 0 D cI cC cZ [.ref tq0] (w_X8 cI cC cZ tq0 tq1 tq2 t_lower t_upper) (w_X8 cI cC cZ tq0 tq1 tq2 t_lower t_upper) (some (.int o)) := by
  refine Ctr.of (by decide) (Nat.le_of_ble_eq_true rfl) ?_
  intro p e s m args below meth c ls A Q hA hQ C hl hw
  have hx := C.1
  have hb := C.2.1
  have hl : lv_has ls 3 [(0, .ref tq0)] := hl
  have L4 : ∀ (n : Nat), ∀ (v1 : Int32) (v2 : Int32) (H : Heap) (locs : List Loc) (ls : Array Slot), Wd D A s.heap (w_X8 cI cC cZ tq0 tq1 tq2 t_lower t_upper) H locs → lv_has ls 3 [(0, .ref tq0), (1, .int v1), (2, .int v2)] → f_X8_widestStrength_4 t_lower t_upper  n v1 v2 = some o → W p l e (rmOf 0 0) s m args below meth c H locs 0 0 Q (F0 m 4 ls []) := by
    intro  n
    induction n with
    | zero => intro v1 v2 H locs ls hw hl hf; exact (no_none hf).elim
    | succ n ih =>
      intro v1 v2 H locs ls hw hl hf
      have hf : f_X8_widestStrength_4b t_lower t_upper  (f_X8_widestStrength_4 t_lower t_upper  n) n v1 v2 = some o := hf
      generalize f_X8_widestStrength_4 t_lower t_upper  n = k4 at hf ih
      refine lv_iload_n hx hb (dc d_X8_widestStrength 4 rfl) rfl (lv_at hl 2 rfl) ?_
      refine lv_bipush (v := (9 : Int32)) hx hb (dc d_X8_widestStrength 5 rfl) (by decide) ?_
      refine lv_icmp_ge (tgt := 47) hx hb (dc d_X8_widestStrength 6 rfl) (by decide) (fun c1 => ?_) (fun c1 => ?_)
      · have hf := g_t hf c1
        refine lv_iload_n hx hb (dc d_X8_widestStrength 30 rfl) rfl (lv_at hl 1 rfl) ?_
        refine lv_iconst (v := (1 : Int32)) hx hb (dc d_X8_widestStrength 31 rfl) (by decide) ?_
        refine lv_iadd hx hb (dc d_X8_widestStrength 32 rfl) ?_
        cases hf
        exact x_iret C hA hQ hw rfl rfl (dc d_X8_widestStrength 33 rfl)
      · have hf := g_f hf c1
        refine lv_aload_n hx hb (dc d_X8_widestStrength 7 rfl) rfl (lv_at hl 0 rfl) ?_
        refine x_get C hw fl_X8_15 0 rfl rfl (dc d_X8_widestStrength 8 rfl) ?_
        refine lv_iload_n hx hb (dc d_X8_widestStrength 9 rfl) rfl (lv_at hl 2 rfl) ?_
        have hi := grd_b hf
        have hf := grd_x hf
        refine x_iald C hw 2 rfl hi (dc d_X8_widestStrength 10 rfl) ?_
        refine lv_aload_n hx hb (dc d_X8_widestStrength 11 rfl) rfl (lv_at hl 0 rfl) ?_
        refine x_get C hw fl_X8_9 0 rfl rfl (dc d_X8_widestStrength 12 rfl) ?_
        refine lv_iload_n hx hb (dc d_X8_widestStrength 13 rfl) rfl (lv_at hl 2 rfl) ?_
        have hi := grd_b hf
        have hf := grd_x hf
        refine x_iald C hw 1 rfl hi (dc d_X8_widestStrength 14 rfl) ?_
        refine lv_isub hx hb (dc d_X8_widestStrength 15 rfl) ?_
        refine lv_aload_n hx hb (dc d_X8_widestStrength 16 rfl) rfl (lv_at hl 0 rfl) ?_
        refine x_get C hw fl_X8_15 0 rfl rfl (dc d_X8_widestStrength 17 rfl) ?_
        refine lv_iload_n hx hb (dc d_X8_widestStrength 18 rfl) rfl (lv_at hl 1 rfl) ?_
        have hi := grd_b hf
        have hf := grd_x hf
        refine x_iald C hw 2 rfl hi (dc d_X8_widestStrength 19 rfl) ?_
        refine lv_aload_n hx hb (dc d_X8_widestStrength 20 rfl) rfl (lv_at hl 0 rfl) ?_
        refine x_get C hw fl_X8_9 0 rfl rfl (dc d_X8_widestStrength 21 rfl) ?_
        refine lv_iload_n hx hb (dc d_X8_widestStrength 22 rfl) rfl (lv_at hl 1 rfl) ?_
        have hi := grd_b hf
        have hf := grd_x hf
        refine x_iald C hw 1 rfl hi (dc d_X8_widestStrength 23 rfl) ?_
        refine lv_isub hx hb (dc d_X8_widestStrength 24 rfl) ?_
        refine lv_icmp_le (tgt := 41) hx hb (dc d_X8_widestStrength 25 rfl) (by decide) (fun c2 => ?_) (fun c2 => ?_)
        · have hf := g_t hf c2
          refine lv_iinc (v := (v2 + (1 : Int32))) (lv' := [(2, .int (v2 + (1 : Int32))), (0, .ref tq0), (1, .int v1)]) hx hb (dc d_X8_widestStrength 28 rfl) hl (k := 2) rfl (ii (by decide)) (by decide) rfl (fun ls hl => ?_)
          refine lv_goto (tgt := 4) hx hb (dc d_X8_widestStrength 29 rfl) (by decide) ?_
          exact ih v1 (v2 + (1 : Int32)) _ _ _ hw (lv_sub hl [1, 2, 0] rfl) hf
        · have hf := g_f hf c2
          refine lv_iload_n hx hb (dc d_X8_widestStrength 26 rfl) rfl (lv_at hl 2 rfl) ?_
          refine lv_istore_n (lv' := [(1, .int v2), (0, .ref tq0), (2, .int v2)]) hx hb (dc d_X8_widestStrength 27 rfl) rfl hl (by decide) rfl (fun ls hl => ?_)
          refine lv_iinc (v := (v2 + (1 : Int32))) (lv' := [(2, .int (v2 + (1 : Int32))), (1, .int v2), (0, .ref tq0)]) hx hb (dc d_X8_widestStrength 28 rfl) hl (k := 2) rfl (ii (by decide)) (by decide) rfl (fun ls hl => ?_)
          refine lv_goto (tgt := 4) hx hb (dc d_X8_widestStrength 29 rfl) (by decide) ?_
          exact ih v2 (v2 + (1 : Int32)) _ _ _ hw (lv_sub hl [2, 1, 0] rfl) hf
  refine lv_iconst (v := (0 : Int32)) hx hb (dc d_X8_widestStrength 0 rfl) (by decide) ?_
  refine lv_istore_n (lv' := [(1, .int (0 : Int32)), (0, .ref tq0)]) hx hb (dc d_X8_widestStrength 1 rfl) rfl hl (by decide) rfl (fun ls hl => ?_)
  refine lv_iconst (v := (1 : Int32)) hx hb (dc d_X8_widestStrength 2 rfl) (by decide) ?_
  refine lv_istore_n (lv' := [(2, .int (1 : Int32)), (1, .int (0 : Int32)), (0, .ref tq0)]) hx hb (dc d_X8_widestStrength 3 rfl) rfl hl (by decide) rfl (fun ls hl => ?_)
  exact L4  n (0 : Int32) (1 : Int32) _ _ _ hw (lv_sub hl [2, 1, 0] rfl) hf
set_option maxHeartbeats 4000000 in
set_option maxRecDepth 100000 in
theorem k_X9_add (n : Nat) {l : Launch} {D : va_G} {cI cC cZ : ClassId} {tq0 tq1 tq2 tq3 tq4 tq5 tq6 tq7 tq8 tq9 tq10 : Nat} {t_line : Nat → Int32} {t_pull : Nat → Int32} {t_best : Nat → Int32} {t_count : Int32} {t_bestWorst : Int32} {t_known : Int32} {t_tried : Nat → Int32} {t_bent : Nat → Int32} {t_trial_bends : Nat → Int32} {t_trial_laid : Nat → Int32} {t_trial_across : Nat → Int32} {t_trial_along : Nat → Int32} {x1 : Int32} {x2 : Int32} {o : Int32 × (Nat → Int32) × (Nat → Int32) × Int32 × Int32} (hf : f_X9_add n t_line t_pull t_count t_known x1 x2 = some o) : Ctr l yX9_add cX9_add 3 (some .boolean) 0 0 D cI cC cZ [.ref tq0, .int x1, .int x2] (w_X9 cI cC cZ tq0 tq1 tq2 tq3 tq4 tq5 tq6 tq7 tq8 tq9 tq10 t_line t_pull t_best t_count t_bestWorst t_known t_tried t_bent t_trial_bends t_trial_laid t_trial_across t_trial_along) (w_X9 cI cC cZ tq0 tq1 tq2 tq3 tq4 tq5 tq6 tq7 tq8 tq9 tq10 o.2.1 o.2.2.1 t_best o.2.2.2.1 t_bestWorst o.2.2.2.2 t_tried t_bent t_trial_bends t_trial_laid t_trial_across t_trial_along) (some (.int o.1)) := by
  refine Ctr.of (by decide) (Nat.le_of_ble_eq_true rfl) ?_
  intro p e s m args below meth c ls A Q hA hQ C hl hw
  have hx := C.1
  have hb := C.2.1
  have hl : lv_has ls 3 [(0, .ref tq0), (1, .int x1), (2, .int x2)] := hl
  refine lv_aload_n hx hb (dc d_X9_add 0 rfl) rfl (lv_at hl 0 rfl) ?_
  refine x_get C hw fl_X9_34 0 rfl rfl (dc d_X9_add 1 rfl) ?_
  refine lv_bipush (v := (7 : Int32)) hx hb (dc d_X9_add 2 rfl) (by decide) ?_
  refine lv_icmp_lt (tgt := 11) hx hb (dc d_X9_add 3 rfl) (by decide) (fun c1 => ?_) (fun c1 => ?_)
  · have hf := g_t hf c1
    refine lv_aload_n hx hb (dc d_X9_add 6 rfl) rfl (lv_at hl 0 rfl) ?_
    refine x_get C hw fl_X9_9 0 rfl rfl (dc d_X9_add 7 rfl) ?_
    refine lv_aload_n hx hb (dc d_X9_add 8 rfl) rfl (lv_at hl 0 rfl) ?_
    refine x_get C hw fl_X9_34 0 rfl rfl (dc d_X9_add 9 rfl) ?_
    refine lv_iload_n hx hb (dc d_X9_add 10 rfl) rfl (lv_at hl 1 rfl) ?_
    have hi := grd_b hf
    have hf := grd_x hf
    refine x_iast C hw 1 rfl hi (dc d_X9_add 11 rfl) (fun H locs hw => ?_)
    dsimp only [w_X9, mix, List.set_cons_succ, List.set_cons_zero] at hw
    have hw : Wd D A s.heap (w_X9 cI cC cZ tq0 tq1 tq2 tq3 tq4 tq5 tq6 tq7 tq8 tq9 tq10 (upd t_line t_count.toNatClampNeg x1) t_pull t_best t_count t_bestWorst t_known t_tried t_bent t_trial_bends t_trial_laid t_trial_across t_trial_along) H locs := hw
    refine lv_aload_n hx hb (dc d_X9_add 12 rfl) rfl (lv_at hl 0 rfl) ?_
    refine x_get C hw fl_X9_15 0 rfl rfl (dc d_X9_add 13 rfl) ?_
    refine lv_aload_n hx hb (dc d_X9_add 14 rfl) rfl (lv_at hl 0 rfl) ?_
    refine x_get C hw fl_X9_34 0 rfl rfl (dc d_X9_add 15 rfl) ?_
    refine lv_iload_n hx hb (dc d_X9_add 16 rfl) rfl (lv_at hl 2 rfl) ?_
    have hi := grd_b hf
    have hf := grd_x hf
    refine x_iast C hw 2 rfl hi (dc d_X9_add 17 rfl) (fun H locs hw => ?_)
    dsimp only [w_X9, mix, List.set_cons_succ, List.set_cons_zero] at hw
    have hw : Wd D A s.heap (w_X9 cI cC cZ tq0 tq1 tq2 tq3 tq4 tq5 tq6 tq7 tq8 tq9 tq10 (upd t_line t_count.toNatClampNeg x1) (upd t_pull t_count.toNatClampNeg x2) t_best t_count t_bestWorst t_known t_tried t_bent t_trial_bends t_trial_laid t_trial_across t_trial_along) H locs := hw
    refine lv_aload_n hx hb (dc d_X9_add 18 rfl) rfl (lv_at hl 0 rfl) ?_
    refine lv_dup hx hb (dc d_X9_add 19 rfl) rfl ?_
    refine x_get C hw fl_X9_34 0 rfl rfl (dc d_X9_add 20 rfl) ?_
    refine lv_iconst (v := (1 : Int32)) hx hb (dc d_X9_add 21 rfl) (by decide) ?_
    refine lv_iadd hx hb (dc d_X9_add 22 rfl) ?_
    refine x_put C hw fl_X9_34 fw_X9_3 0 rfl rfl rfl (Nat.le_of_ble_eq_true rfl) (dc d_X9_add 23 rfl) (fun H locs hw => ?_)
    dsimp only [w_X9, mix, List.set_cons_succ, List.set_cons_zero] at hw
    have hw : Wd D A s.heap (w_X9 cI cC cZ tq0 tq1 tq2 tq3 tq4 tq5 tq6 tq7 tq8 tq9 tq10 (upd t_line t_count.toNatClampNeg x1) (upd t_pull t_count.toNatClampNeg x2) t_best (t_count + (1 : Int32)) t_bestWorst t_known t_tried t_bent t_trial_bends t_trial_laid t_trial_across t_trial_along) H locs := hw
    refine lv_aload_n hx hb (dc d_X9_add 24 rfl) rfl (lv_at hl 0 rfl) ?_
    refine lv_iconst (v := (0 : Int32)) hx hb (dc d_X9_add 25 rfl) (by decide) ?_
    refine x_put C hw fl_X9_38 fw_X9_5 0 rfl rfl rfl (Nat.le_of_ble_eq_true rfl) (dc d_X9_add 26 rfl) (fun H locs hw => ?_)
    dsimp only [w_X9, mix, List.set_cons_succ, List.set_cons_zero] at hw
    have hw : Wd D A s.heap (w_X9 cI cC cZ tq0 tq1 tq2 tq3 tq4 tq5 tq6 tq7 tq8 tq9 tq10 (upd t_line t_count.toNatClampNeg x1) (upd t_pull t_count.toNatClampNeg x2) t_best (t_count + (1 : Int32)) t_bestWorst (0 : Int32) t_tried t_bent t_trial_bends t_trial_laid t_trial_across t_trial_along) H locs := hw
    refine lv_iconst (v := (1 : Int32)) hx hb (dc d_X9_add 27 rfl) (by decide) ?_
    cases hf
    exact x_zret C hA hQ hw rfl rfl (by decide) (dc d_X9_add 28 rfl)
  · have hf := g_f hf c1
    refine lv_iconst (v := (0 : Int32)) hx hb (dc d_X9_add 4 rfl) (by decide) ?_
    cases hf
    exact x_zret C hA hQ hw rfl rfl (by decide) (dc d_X9_add 5 rfl)
set_option maxHeartbeats 4000000 in
set_option maxRecDepth 100000 in
theorem k_X9_findBent (n : Nat) {l : Launch} {D : va_G} {cI cC cZ : ClassId} {tq0 tq1 tq2 tq3 tq4 tq5 tq6 tq7 tq8 tq9 tq10 bq0 bq1 bq2 : Nat} {t_line : Nat → Int32} {t_pull : Nat → Int32} {t_best : Nat → Int32} {t_count : Int32} {t_bestWorst : Int32} {t_known : Int32} {t_tried : Nat → Int32} {t_bent : Nat → Int32} {t_trial_bends : Nat → Int32} {t_trial_laid : Nat → Int32} {t_trial_across : Nat → Int32} {t_trial_along : Nat → Int32} {b_settings : Nat → Int32} {b_numbers : Nat → Int32}  {o : (Nat → Int32)} (hf : f_X9_findBent n t_pull t_count t_bent b_settings = some o) : Ctr l yX9_findBent cX9_findBent 5 none 1 21 D cI cC cZ [.ref tq0, .ref bq0] (w_X9_X5 cI cC cZ tq0 tq1 tq2 tq3 tq4 tq5 tq6 tq7 tq8 tq9 tq10 bq0 bq1 bq2 t_line t_pull t_best t_count t_bestWorst t_known t_tried t_bent t_trial_bends t_trial_laid t_trial_across t_trial_along b_settings b_numbers) (w_X9_X5 cI cC cZ tq0 tq1 tq2 tq3 tq4 tq5 tq6 tq7 tq8 tq9 tq10 bq0 bq1 bq2 t_line t_pull t_best t_count t_bestWorst t_known t_tried o t_trial_bends t_trial_laid t_trial_across t_trial_along b_settings b_numbers) none := by
  refine Ctr.of (by decide) (Nat.le_of_ble_eq_true rfl) ?_
  intro p e s m args below meth c ls A Q hA hQ C hl hw
  have hx := C.1
  have hb := C.2.1
  have hl : lv_has ls 5 [(0, .ref tq0), (1, .ref bq0)] := hl
  have L29 : ∀ (k2 : (Nat → Int32) → (Int32) → Option ((Nat → Int32))), (∀ (t_bent : Nat → Int32) (v2 : Int32) (H : Heap) (locs : List Loc) (ls : Array Slot), Wd D A s.heap (w_X9_X5 cI cC cZ tq0 tq1 tq2 tq3 tq4 tq5 tq6 tq7 tq8 tq9 tq10 bq0 bq1 bq2 t_line t_pull t_best t_count t_bestWorst t_known t_tried t_bent t_trial_bends t_trial_laid t_trial_across t_trial_along b_settings b_numbers) H locs → lv_has ls 5 [(0, .ref tq0), (1, .ref bq0), (2, .int v2)] → k2 t_bent v2 = some o → W p l e (rmOf 1 21) s m args below meth c H locs 0 0 Q (F0 m 2 ls [])) → ∀ (n : Nat), ∀ (t_bent : Nat → Int32) (v2 : Int32) (v3 : Int32) (v4 : Int32) (H : Heap) (locs : List Loc) (ls : Array Slot), Wd D A s.heap (w_X9_X5 cI cC cZ tq0 tq1 tq2 tq3 tq4 tq5 tq6 tq7 tq8 tq9 tq10 bq0 bq1 bq2 t_line t_pull t_best t_count t_bestWorst t_known t_tried t_bent t_trial_bends t_trial_laid t_trial_across t_trial_along b_settings b_numbers) H locs → lv_has ls 5 [(0, .ref tq0), (1, .ref bq0), (2, .int v2), (3, .int v3), (4, .int v4)] → f_X9_findBent_29 t_pull t_count b_settings k2 n t_bent v2 v3 v4 = some o → W p l e (rmOf 1 21) s m args below meth c H locs 0 0 Q (F0 m 29 ls []) := by
    intro k2 H2 n
    induction n with
    | zero => intro t_bent v2 v3 v4 H locs ls hw hl hf; exact (no_none hf).elim
    | succ n ih =>
      intro t_bent v2 v3 v4 H locs ls hw hl hf
      have hf : f_X9_findBent_29b t_pull t_count b_settings k2 (f_X9_findBent_29 t_pull t_count b_settings k2 n) n t_bent v2 v3 v4 = some o := hf
      generalize f_X9_findBent_29 t_pull t_count b_settings k2 n = k29 at hf ih
      refine lv_iload hx hb (dc d_X9_findBent 19 rfl) (lv_at hl 4 rfl) ?_
      refine lv_aload_n hx hb (dc d_X9_findBent 20 rfl) rfl (lv_at hl 0 rfl) ?_
      refine x_get C hw fl_X9_34 0 rfl rfl (dc d_X9_findBent 21 rfl) ?_
      refine lv_icmp_ge (tgt := 68) hx hb (dc d_X9_findBent 22 rfl) (by decide) (fun c3 => ?_) (fun c3 => ?_)
      · have hf := g_t hf c3
        refine lv_iinc (v := (v2 + (1 : Int32))) (lv' := [(2, .int (v2 + (1 : Int32))), (0, .ref tq0), (1, .ref bq0), (3, .int v3), (4, .int v4)]) hx hb (dc d_X9_findBent 41 rfl) hl (k := 2) rfl (ii (by decide)) (by decide) rfl (fun ls hl => ?_)
        refine lv_goto (tgt := 2) hx hb (dc d_X9_findBent 42 rfl) (by decide) ?_
        exact H2 t_bent (v2 + (1 : Int32)) _ _ _ hw (lv_sub hl [1, 2, 0] rfl) hf
      · have hf := g_f hf c3
        refine lv_aload_n hx hb (dc d_X9_findBent 23 rfl) rfl (lv_at hl 0 rfl) ?_
        refine x_get C hw fl_X9_24 0 rfl rfl (dc d_X9_findBent 24 rfl) ?_
        refine lv_iload hx hb (dc d_X9_findBent 25 rfl) (lv_at hl 4 rfl) ?_
        refine lv_bipush (v := (7 : Int32)) hx hb (dc d_X9_findBent 26 rfl) (by decide) ?_
        refine lv_imul hx hb (dc d_X9_findBent 27 rfl) ?_
        refine lv_iload_n hx hb (dc d_X9_findBent 28 rfl) rfl (lv_at hl 2 rfl) ?_
        refine lv_iadd hx hb (dc d_X9_findBent 29 rfl) ?_
        refine lv_aload_n hx hb (dc d_X9_findBent 30 rfl) rfl (lv_at hl 0 rfl) ?_
        refine x_get C hw fl_X9_15 0 rfl rfl (dc d_X9_findBent 31 rfl) ?_
        refine lv_iload hx hb (dc d_X9_findBent 32 rfl) (lv_at hl 4 rfl) ?_
        have hi := grd_b hf
        have hf := grd_x hf
        refine x_iald C hw 2 rfl hi (dc d_X9_findBent 33 rfl) ?_
        refine lv_iload_n hx hb (dc d_X9_findBent 34 rfl) rfl (lv_at hl 3 rfl) ?_
        refine lv_imul hx hb (dc d_X9_findBent 35 rfl) ?_
        refine lv_bipush (v := (100 : Int32)) hx hb (dc d_X9_findBent 36 rfl) (by decide) ?_
        refine x_div hx hb (dc d_X9_findBent 37 rfl) (by decide) ?_
        have hi := grd_b hf
        have hf := grd_x hf
        refine x_iast C hw 5 rfl hi (dc d_X9_findBent 38 rfl) (fun H locs hw => ?_)
        dsimp only [w_X9_X5, mix, List.set_cons_succ, List.set_cons_zero] at hw
        have hw : Wd D A s.heap (w_X9_X5 cI cC cZ tq0 tq1 tq2 tq3 tq4 tq5 tq6 tq7 tq8 tq9 tq10 bq0 bq1 bq2 t_line t_pull t_best t_count t_bestWorst t_known t_tried (upd t_bent ((v4 * (7 : Int32)) + v2).toNatClampNeg (((t_pull v4.toNatClampNeg) * v3) / (100 : Int32))) t_trial_bends t_trial_laid t_trial_across t_trial_along b_settings b_numbers) H locs := hw
        refine lv_iinc (v := (v4 + (1 : Int32))) (lv' := [(4, .int (v4 + (1 : Int32))), (0, .ref tq0), (1, .ref bq0), (2, .int v2), (3, .int v3)]) hx hb (dc d_X9_findBent 39 rfl) hl (k := 4) rfl (ii (by decide)) (by decide) rfl (fun ls hl => ?_)
        refine lv_goto (tgt := 29) hx hb (dc d_X9_findBent 40 rfl) (by decide) ?_
        exact ih (upd t_bent ((v4 * (7 : Int32)) + v2).toNatClampNeg (((t_pull v4.toNatClampNeg) * v3) / (100 : Int32))) v2 v3 (v4 + (1 : Int32)) _ _ _ hw (lv_sub hl [1, 2, 3, 4, 0] rfl) hf
  have L2 : ∀ (n : Nat), ∀ (t_bent : Nat → Int32) (v2 : Int32) (H : Heap) (locs : List Loc) (ls : Array Slot), Wd D A s.heap (w_X9_X5 cI cC cZ tq0 tq1 tq2 tq3 tq4 tq5 tq6 tq7 tq8 tq9 tq10 bq0 bq1 bq2 t_line t_pull t_best t_count t_bestWorst t_known t_tried t_bent t_trial_bends t_trial_laid t_trial_across t_trial_along b_settings b_numbers) H locs → lv_has ls 5 [(0, .ref tq0), (1, .ref bq0), (2, .int v2)] → f_X9_findBent_2 t_pull t_count b_settings  n t_bent v2 = some o → W p l e (rmOf 1 21) s m args below meth c H locs 0 0 Q (F0 m 2 ls []) := by
    intro  n
    induction n with
    | zero => intro t_bent v2 H locs ls hw hl hf; exact (no_none hf).elim
    | succ n ih =>
      intro t_bent v2 H locs ls hw hl hf
      have hf : f_X9_findBent_2b t_pull t_count b_settings  (f_X9_findBent_2 t_pull t_count b_settings  n) n t_bent v2 = some o := hf
      generalize f_X9_findBent_2 t_pull t_count b_settings  n = k2 at hf ih
      refine lv_iload_n hx hb (dc d_X9_findBent 2 rfl) rfl (lv_at hl 2 rfl) ?_
      refine lv_aload_n hx hb (dc d_X9_findBent 3 rfl) rfl (lv_at hl 0 rfl) ?_
      refine x_get C hw fl_X9_34 0 rfl rfl (dc d_X9_findBent 4 rfl) ?_
      refine lv_icmp_ge (tgt := 74) hx hb (dc d_X9_findBent 5 rfl) (by decide) (fun c1 => ?_) (fun c1 => ?_)
      · have hf := g_t hf c1
        cases hf
        exact x_vret C hA hQ hw rfl rfl (dc d_X9_findBent 43 rfl)
      · have hf := g_f hf c1
        refine lv_bipush (v := (100 : Int32)) hx hb (dc d_X9_findBent 6 rfl) (by decide) ?_
        refine lv_aload_n hx hb (dc d_X9_findBent 7 rfl) rfl (lv_at hl 1 rfl) ?_
        refine x_get C hw fl_X9_64 11 rfl rfl (dc d_X9_findBent 8 rfl) ?_
        refine lv_iconst (v := (5 : Int32)) hx hb (dc d_X9_findBent 9 rfl) (by decide) ?_
        refine x_iald C hw 12 rfl (by decide) (dc d_X9_findBent 10 rfl) ?_
        refine lv_iload_n hx hb (dc d_X9_findBent 11 rfl) rfl (lv_at hl 2 rfl) ?_
        refine lv_imul hx hb (dc d_X9_findBent 12 rfl) ?_
        refine lv_isub hx hb (dc d_X9_findBent 13 rfl) ?_
        refine lv_iconst (v := (0 : Int32)) hx hb (dc d_X9_findBent 14 rfl) (by decide) ?_
        refine x_max C hl.1 ml_X9_69 ms_J9_max_7cf53 in_java_lang_Math cd_Lib_Math_max (Nat.le_of_ble_eq_true rfl) (Nat.le_of_ble_eq_true rfl) (dc d_X9_findBent 15 rfl) ?_
        refine lv_topi (fun y2 ey2 => ?_)
        have hf := g_nm hf ey2
        refine lv_istore_n (lv' := [(3, .int y2), (0, .ref tq0), (1, .ref bq0), (2, .int v2)]) hx hb (dc d_X9_findBent 16 rfl) rfl hl (by decide) rfl (fun ls hl => ?_)
        refine lv_iconst (v := (0 : Int32)) hx hb (dc d_X9_findBent 17 rfl) (by decide) ?_
        refine lv_istore (lv' := [(4, .int (0 : Int32)), (3, .int y2), (0, .ref tq0), (1, .ref bq0), (2, .int v2)]) hx hb (dc d_X9_findBent 18 rfl) hl (by decide) rfl (fun ls hl => ?_)
        exact L29 k2 ih n t_bent v2 y2 (0 : Int32) _ _ _ hw (lv_sub hl [2, 3, 4, 1, 0] rfl) hf
  refine lv_iconst (v := (0 : Int32)) hx hb (dc d_X9_findBent 0 rfl) (by decide) ?_
  refine lv_istore_n (lv' := [(2, .int (0 : Int32)), (0, .ref tq0), (1, .ref bq0)]) hx hb (dc d_X9_findBent 1 rfl) rfl hl (by decide) rfl (fun ls hl => ?_)
  exact L2  n t_bent (0 : Int32) _ _ _ hw (lv_sub hl [1, 2, 0] rfl) hf
set_option maxHeartbeats 4000000 in
set_option maxRecDepth 100000 in
theorem k_X9_worstBehind (n : Nat) {l : Launch} {D : va_G} {cI cC cZ : ClassId} {tq0 tq1 tq2 tq3 tq4 tq5 tq6 tq7 tq8 tq9 tq10 bq0 bq1 bq2 bq3 bq4 cq0 cq1 cq2 : Nat} {t_line : Nat → Int32} {t_pull : Nat → Int32} {t_best : Nat → Int32} {t_count : Int32} {t_bestWorst : Int32} {t_known : Int32} {t_tried : Nat → Int32} {t_bent : Nat → Int32} {t_trial_bends : Nat → Int32} {t_trial_laid : Nat → Int32} {t_trial_across : Nat → Int32} {t_trial_along : Nat → Int32} {b_bends : Nat → Int32} {b_laid : Nat → Int32} {b_across : Nat → Int32} {b_along : Nat → Int32} {c_heights : Nat → Int32} {c_hung : Nat → Int32} {x3 : Int32} {o : Int32 × (Nat → Int32) × (Nat → Int32) × (Nat → Int32) × (Nat → Int32)} (hf : f_X9_worstBehind n t_line t_count t_tried t_bent t_trial_bends t_trial_laid t_trial_across t_trial_along b_bends b_laid c_hung x3 = some o) : Ctr l yX9_worstBehind cX9_worstBehind 6 (some .int) 3 81 D cI cC cZ [.ref tq0, .ref bq0, .ref cq0, .int x3] (w_X9_X6_X10 cI cC cZ tq0 tq1 tq2 tq3 tq4 tq5 tq6 tq7 tq8 tq9 tq10 bq0 bq1 bq2 bq3 bq4 cq0 cq1 cq2 t_line t_pull t_best t_count t_bestWorst t_known t_tried t_bent t_trial_bends t_trial_laid t_trial_across t_trial_along b_bends b_laid b_across b_along c_heights c_hung) (w_X9_X6_X10 cI cC cZ tq0 tq1 tq2 tq3 tq4 tq5 tq6 tq7 tq8 tq9 tq10 bq0 bq1 bq2 bq3 bq4 cq0 cq1 cq2 t_line t_pull t_best t_count t_bestWorst t_known t_tried t_bent o.2.1 o.2.2.1 o.2.2.2.1 o.2.2.2.2 b_bends b_laid b_across b_along c_heights c_hung) (some (.int o.1)) := by
  refine Ctr.of (by decide) (Nat.le_of_ble_eq_true rfl) ?_
  intro p e s m args below meth c ls A Q hA hQ C hl hw
  have hx := C.1
  have hb := C.2.1
  have hl : lv_has ls 6 [(0, .ref tq0), (1, .ref bq0), (2, .ref cq0), (3, .int x3)] := hl
  have L11 : ∀ (n : Nat), ∀ (t_trial_bends : Nat → Int32) (t_trial_laid : Nat → Int32) (t_trial_across : Nat → Int32) (t_trial_along : Nat → Int32) (v3 : Int32) (v4 : Int32) (H : Heap) (locs : List Loc) (ls : Array Slot), Wd D A s.heap (w_X9_X6_X10 cI cC cZ tq0 tq1 tq2 tq3 tq4 tq5 tq6 tq7 tq8 tq9 tq10 bq0 bq1 bq2 bq3 bq4 cq0 cq1 cq2 t_line t_pull t_best t_count t_bestWorst t_known t_tried t_bent t_trial_bends t_trial_laid t_trial_across t_trial_along b_bends b_laid b_across b_along c_heights c_hung) H locs → lv_has ls 6 [(0, .ref tq0), (2, .ref cq0), (3, .int v3), (4, .int v4)] → f_X9_worstBehind_11 t_line t_count t_tried t_bent b_bends b_laid c_hung  n t_trial_bends t_trial_laid t_trial_across t_trial_along v3 v4 = some o → W p l e (rmOf 3 81) s m args below meth c H locs 0 0 Q (F0 m 11 ls []) := by
    intro  n
    induction n with
    | zero => intro t_trial_bends t_trial_laid t_trial_across t_trial_along v3 v4 H locs ls hw hl hf; exact (no_none hf).elim
    | succ n ih =>
      intro t_trial_bends t_trial_laid t_trial_across t_trial_along v3 v4 H locs ls hw hl hf
      have hf : f_X9_worstBehind_11b t_line t_count t_tried t_bent b_bends b_laid c_hung  (f_X9_worstBehind_11 t_line t_count t_tried t_bent b_bends b_laid c_hung  n) n t_trial_bends t_trial_laid t_trial_across t_trial_along v3 v4 = some o := hf
      generalize f_X9_worstBehind_11 t_line t_count t_tried t_bent b_bends b_laid c_hung  n = k11 at hf ih
      refine lv_iload hx hb (dc d_X9_worstBehind 6 rfl) (lv_at hl 3 rfl) ?_
      refine lv_aload_n hx hb (dc d_X9_worstBehind 7 rfl) rfl (lv_at hl 0 rfl) ?_
      refine x_get C hw fl_X9_34 0 rfl rfl (dc d_X9_worstBehind 8 rfl) ?_
      refine lv_icmp_ge (tgt := 66) hx hb (dc d_X9_worstBehind 9 rfl) (by decide) (fun c2 => ?_) (fun c2 => ?_)
      · have hf := g_t hf c2
        refine lv_aload_n hx hb (dc d_X9_worstBehind 36 rfl) rfl (lv_at hl 0 rfl) ?_
        refine x_get C hw fl_X9_30 0 rfl rfl (dc d_X9_worstBehind 37 rfl) ?_
        refine lv_aload_n hx hb (dc d_X9_worstBehind 38 rfl) rfl (lv_at hl 1 rfl) ?_
        refine lv_iload_n hx hb (dc d_X9_worstBehind 39 rfl) rfl (lv_at hl 2 rfl) ?_
        obtain ⟨q3, hq3, hf⟩ := g_bd hf
        refine x_callV C hw mb_X6_worstWithin mv_X6_worstWithin ml_X9_82 (k_X6_worstWithin n hq3) hl.1 rfl rfl [6, 7, 8, 9, 10, 16, 17, 18] rfl rfl rfl 6 6 rfl rfl (Nat.le_of_ble_eq_true rfl) (Nat.le_of_ble_eq_true rfl) (Nat.le_of_ble_eq_true rfl) (dc d_X9_worstBehind 40 rfl) (fun H locs hw => ?_)
        refine W.eq (g2 := F0 m 75 ls [.int q3.1]) rfl ?_
        dsimp only [w_X9_X6_X10, w_X6_X10, mix, List.set_cons_succ, List.set_cons_zero] at hw
        have hw : Wd D A s.heap (w_X9_X6_X10 cI cC cZ tq0 tq1 tq2 tq3 tq4 tq5 tq6 tq7 tq8 tq9 tq10 bq0 bq1 bq2 bq3 bq4 cq0 cq1 cq2 t_line t_pull t_best t_count t_bestWorst t_known t_tried t_bent t_trial_bends t_trial_laid q3.2.1 q3.2.2 b_bends b_laid b_across b_along c_heights c_hung) H locs := hw
        cases hf
        exact x_iret C hA hQ hw rfl rfl (dc d_X9_worstBehind 41 rfl)
      · have hf := g_f hf c2
        refine lv_aload_n hx hb (dc d_X9_worstBehind 10 rfl) rfl (lv_at hl 0 rfl) ?_
        refine x_get C hw fl_X9_21 0 rfl rfl (dc d_X9_worstBehind 11 rfl) ?_
        refine lv_iload hx hb (dc d_X9_worstBehind 12 rfl) (lv_at hl 3 rfl) ?_
        have hi := grd_b hf
        have hf := grd_x hf
        refine x_iald C hw 4 rfl hi (dc d_X9_worstBehind 13 rfl) ?_
        refine lv_topi (fun y4 ey4 => ?_)
        have hf := g_nm hf ey4
        refine lv_istore (lv' := [(5, .int y4), (0, .ref tq0), (2, .ref cq0), (3, .int v3), (4, .int v4)]) hx hb (dc d_X9_worstBehind 14 rfl) hl (by decide) rfl (fun ls hl => ?_)
        refine lv_aload_n hx hb (dc d_X9_worstBehind 15 rfl) rfl (lv_at hl 1 rfl) ?_
        refine x_get C hw fl_X9_30 0 rfl rfl (dc d_X9_worstBehind 16 rfl) ?_
        refine x_get C hw fl_X9_79 6 rfl rfl (dc d_X9_worstBehind 17 rfl) ?_
        refine lv_aload_n hx hb (dc d_X9_worstBehind 18 rfl) rfl (lv_at hl 1 rfl) ?_
        refine x_get C hw fl_X9_9 0 rfl rfl (dc d_X9_worstBehind 19 rfl) ?_
        refine lv_iload hx hb (dc d_X9_worstBehind 20 rfl) (lv_at hl 0 rfl) ?_
        have hi := grd_b hf
        have hf := grd_x hf
        refine x_iald C hw 1 rfl hi (dc d_X9_worstBehind 21 rfl) ?_
        refine lv_dup2_11 hx hb (dc d_X9_worstBehind 22 rfl) rfl rfl ?_
        have hi := grd_b hf
        have hf := grd_x hf
        refine x_iald C hw 7 rfl hi (dc d_X9_worstBehind 23 rfl) ?_
        refine lv_aload_n hx hb (dc d_X9_worstBehind 24 rfl) rfl (lv_at hl 1 rfl) ?_
        refine x_get C hw fl_X9_24 0 rfl rfl (dc d_X9_worstBehind 25 rfl) ?_
        refine lv_iload hx hb (dc d_X9_worstBehind 26 rfl) (lv_at hl 0 rfl) ?_
        refine lv_bipush (v := (7 : Int32)) hx hb (dc d_X9_worstBehind 27 rfl) (by decide) ?_
        refine lv_imul hx hb (dc d_X9_worstBehind 28 rfl) ?_
        refine lv_iload hx hb (dc d_X9_worstBehind 29 rfl) (lv_at hl 4 rfl) ?_
        refine lv_iadd hx hb (dc d_X9_worstBehind 30 rfl) ?_
        have hi := grd_b hf
        have hf := grd_x hf
        refine x_iald C hw 5 rfl hi (dc d_X9_worstBehind 31 rfl) ?_
        refine lv_iadd hx hb (dc d_X9_worstBehind 32 rfl) ?_
        have hi := grd_b hf
        have hf := grd_x hf
        refine x_iast C hw 7 rfl hi (dc d_X9_worstBehind 33 rfl) (fun H locs hw => ?_)
        dsimp only [w_X9_X6_X10, mix, List.set_cons_succ, List.set_cons_zero] at hw
        have hw : Wd D A s.heap (w_X9_X6_X10 cI cC cZ tq0 tq1 tq2 tq3 tq4 tq5 tq6 tq7 tq8 tq9 tq10 bq0 bq1 bq2 bq3 bq4 cq0 cq1 cq2 t_line t_pull t_best t_count t_bestWorst t_known t_tried t_bent (upd t_trial_bends (t_line y4.toNatClampNeg).toNatClampNeg ((t_trial_bends (t_line y4.toNatClampNeg).toNatClampNeg) + (t_bent ((y4 * (7 : Int32)) + v4).toNatClampNeg))) t_trial_laid t_trial_across t_trial_along b_bends b_laid b_across b_along c_heights c_hung) H locs := hw
        refine lv_iinc (v := (v4 + (1 : Int32))) (lv' := [(4, .int (v4 + (1 : Int32))), (5, .int y4), (0, .ref tq0), (2, .ref cq0), (3, .int v3)]) hx hb (dc d_X9_worstBehind 34 rfl) hl (k := 4) rfl (ii (by decide)) (by decide) rfl (fun ls hl => ?_)
        refine lv_goto (tgt := 11) hx hb (dc d_X9_worstBehind 35 rfl) (by decide) ?_
        exact ih (upd t_trial_bends (t_line y4.toNatClampNeg).toNatClampNeg ((t_trial_bends (t_line y4.toNatClampNeg).toNatClampNeg) + (t_bent ((y4 * (7 : Int32)) + v4).toNatClampNeg))) t_trial_laid t_trial_across t_trial_along v3 (v4 + (1 : Int32)) _ _ _ hw (lv_sub hl [2, 3, 4, 0] rfl) hf
  refine lv_aload_n hx hb (dc d_X9_worstBehind 0 rfl) rfl (lv_at hl 0 rfl) ?_
  refine x_get C hw fl_X9_30 0 rfl rfl (dc d_X9_worstBehind 1 rfl) ?_
  refine lv_aload_n hx hb (dc d_X9_worstBehind 2 rfl) rfl (lv_at hl 1 rfl) ?_
  obtain ⟨q1, hq1, hf⟩ := g_bd hf
  refine x_callV C hw mb_X6_becomeLike mv_X6_becomeLike ml_X9_75 (k_X6_becomeLike n hq1) hl.1 rfl rfl [6, 7, 8, 9, 10, 11, 12, 13, 14, 15] rfl rfl rfl 6 6 rfl rfl (Nat.le_of_ble_eq_true rfl) (Nat.le_of_ble_eq_true rfl) (Nat.le_of_ble_eq_true rfl) (dc d_X9_worstBehind 3 rfl) (fun H locs hw => ?_)
  refine W.eq (g2 := F0 m 8 ls []) rfl ?_
  dsimp only [w_X9_X6_X10, w_X6_X6, mix, List.set_cons_succ, List.set_cons_zero] at hw
  have hw : Wd D A s.heap (w_X9_X6_X10 cI cC cZ tq0 tq1 tq2 tq3 tq4 tq5 tq6 tq7 tq8 tq9 tq10 bq0 bq1 bq2 bq3 bq4 cq0 cq1 cq2 t_line t_pull t_best t_count t_bestWorst t_known t_tried t_bent q1.1 q1.2 t_trial_across t_trial_along b_bends b_laid b_across b_along c_heights c_hung) H locs := hw
  refine lv_iconst (v := (0 : Int32)) hx hb (dc d_X9_worstBehind 4 rfl) (by decide) ?_
  refine lv_istore (lv' := [(4, .int (0 : Int32)), (0, .ref tq0), (1, .ref bq0), (2, .ref cq0), (3, .int x3)]) hx hb (dc d_X9_worstBehind 5 rfl) hl (by decide) rfl (fun ls hl => ?_)
  exact L11  n q1.1 q1.2 t_trial_across t_trial_along x3 (0 : Int32) _ _ _ hw (lv_sub hl [1, 3, 4, 0] rfl) hf
set_option maxHeartbeats 4000000 in
set_option maxRecDepth 100000 in
theorem k_X9_swapTried (n : Nat) {l : Launch} {D : va_G} {cI cC cZ : ClassId} {tq0 tq1 tq2 tq3 tq4 tq5 tq6 tq7 tq8 tq9 tq10 : Nat} {t_line : Nat → Int32} {t_pull : Nat → Int32} {t_best : Nat → Int32} {t_count : Int32} {t_bestWorst : Int32} {t_known : Int32} {t_tried : Nat → Int32} {t_bent : Nat → Int32} {t_trial_bends : Nat → Int32} {t_trial_laid : Nat → Int32} {t_trial_across : Nat → Int32} {t_trial_along : Nat → Int32} {x1 : Int32} {x2 : Int32} {o : (Nat → Int32)} (hf : f_X9_swapTried n t_tried x1 x2 = some o) : Ctr l yX9_swapTried cX9_swapTried 4 none 0 0 D cI cC cZ [.ref tq0, .int x1, .int x2] (w_X9 cI cC cZ tq0 tq1 tq2 tq3 tq4 tq5 tq6 tq7 tq8 tq9 tq10 t_line t_pull t_best t_count t_bestWorst t_known t_tried t_bent t_trial_bends t_trial_laid t_trial_across t_trial_along) (w_X9 cI cC cZ tq0 tq1 tq2 tq3 tq4 tq5 tq6 tq7 tq8 tq9 tq10 t_line t_pull t_best t_count t_bestWorst t_known o t_bent t_trial_bends t_trial_laid t_trial_across t_trial_along) none := by
  refine Ctr.of (by decide) (Nat.le_of_ble_eq_true rfl) ?_
  intro p e s m args below meth c ls A Q hA hQ C hl hw
  have hx := C.1
  have hb := C.2.1
  have hl : lv_has ls 4 [(0, .ref tq0), (1, .int x1), (2, .int x2)] := hl
  refine lv_aload_n hx hb (dc d_X9_swapTried 0 rfl) rfl (lv_at hl 0 rfl) ?_
  refine x_get C hw fl_X9_21 0 rfl rfl (dc d_X9_swapTried 1 rfl) ?_
  refine lv_iload_n hx hb (dc d_X9_swapTried 2 rfl) rfl (lv_at hl 1 rfl) ?_
  have hi := grd_b hf
  have hf := grd_x hf
  refine x_iald C hw 4 rfl hi (dc d_X9_swapTried 3 rfl) ?_
  refine lv_topi (fun y1 ey1 => ?_)
  have hf := g_nm hf ey1
  refine lv_istore_n (lv' := [(3, .int y1), (0, .ref tq0), (1, .int x1), (2, .int x2)]) hx hb (dc d_X9_swapTried 4 rfl) rfl hl (by decide) rfl (fun ls hl => ?_)
  refine lv_aload_n hx hb (dc d_X9_swapTried 5 rfl) rfl (lv_at hl 1 rfl) ?_
  refine x_get C hw fl_X9_21 0 rfl rfl (dc d_X9_swapTried 6 rfl) ?_
  refine lv_iload_n hx hb (dc d_X9_swapTried 7 rfl) rfl (lv_at hl 2 rfl) ?_
  refine lv_aload_n hx hb (dc d_X9_swapTried 8 rfl) rfl (lv_at hl 1 rfl) ?_
  refine x_get C hw fl_X9_21 0 rfl rfl (dc d_X9_swapTried 9 rfl) ?_
  refine lv_iload_n hx hb (dc d_X9_swapTried 10 rfl) rfl (lv_at hl 3 rfl) ?_
  have hi := grd_b hf
  have hf := grd_x hf
  refine x_iald C hw 4 rfl hi (dc d_X9_swapTried 11 rfl) ?_
  have hi := grd_b hf
  have hf := grd_x hf
  refine x_iast C hw 4 rfl hi (dc d_X9_swapTried 12 rfl) (fun H locs hw => ?_)
  dsimp only [w_X9, mix, List.set_cons_succ, List.set_cons_zero] at hw
  have hw : Wd D A s.heap (w_X9 cI cC cZ tq0 tq1 tq2 tq3 tq4 tq5 tq6 tq7 tq8 tq9 tq10 t_line t_pull t_best t_count t_bestWorst t_known (upd t_tried x1.toNatClampNeg (t_tried x2.toNatClampNeg)) t_bent t_trial_bends t_trial_laid t_trial_across t_trial_along) H locs := hw
  refine lv_aload_n hx hb (dc d_X9_swapTried 13 rfl) rfl (lv_at hl 1 rfl) ?_
  refine x_get C hw fl_X9_21 0 rfl rfl (dc d_X9_swapTried 14 rfl) ?_
  refine lv_iload_n hx hb (dc d_X9_swapTried 15 rfl) rfl (lv_at hl 3 rfl) ?_
  refine lv_iload_n hx hb (dc d_X9_swapTried 16 rfl) rfl (lv_at hl 0 rfl) ?_
  have hi := grd_b hf
  have hf := grd_x hf
  refine x_iast C hw 4 rfl hi (dc d_X9_swapTried 17 rfl) (fun H locs hw => ?_)
  dsimp only [w_X9, mix, List.set_cons_succ, List.set_cons_zero] at hw
  have hw : Wd D A s.heap (w_X9 cI cC cZ tq0 tq1 tq2 tq3 tq4 tq5 tq6 tq7 tq8 tq9 tq10 t_line t_pull t_best t_count t_bestWorst t_known (upd (upd t_tried x1.toNatClampNeg (t_tried x2.toNatClampNeg)) x2.toNatClampNeg y1) t_bent t_trial_bends t_trial_laid t_trial_across t_trial_along) H locs := hw
  cases hf
  exact x_vret C hA hQ hw rfl rfl (dc d_X9_swapTried 18 rfl)
set_option maxHeartbeats 4000000 in
set_option maxRecDepth 100000 in
theorem k_X9_goOn (n : Nat) {l : Launch} {D : va_G} {cI cC cZ : ClassId} {tq0 tq1 tq2 tq3 tq4 tq5 tq6 tq7 tq8 tq9 tq10 : Nat} {t_line : Nat → Int32} {t_pull : Nat → Int32} {t_best : Nat → Int32} {t_count : Int32} {t_bestWorst : Int32} {t_known : Int32} {t_tried : Nat → Int32} {t_bent : Nat → Int32} {t_trial_bends : Nat → Int32} {t_trial_laid : Nat → Int32} {t_trial_across : Nat → Int32} {t_trial_along : Nat → Int32}  {o : Int32 × (Nat → Int32)} (hf : f_X9_goOn n t_count t_tried = some o) : Ctr l yX9_goOn cX9_goOn 5 (some .boolean) 1 23 D cI cC cZ [.ref tq0] (w_X9 cI cC cZ tq0 tq1 tq2 tq3 tq4 tq5 tq6 tq7 tq8 tq9 tq10 t_line t_pull t_best t_count t_bestWorst t_known t_tried t_bent t_trial_bends t_trial_laid t_trial_across t_trial_along) (w_X9 cI cC cZ tq0 tq1 tq2 tq3 tq4 tq5 tq6 tq7 tq8 tq9 tq10 t_line t_pull t_best t_count t_bestWorst t_known o.2 t_bent t_trial_bends t_trial_laid t_trial_across t_trial_along) (some (.int o.1)) := by
  refine Ctr.of (by decide) (Nat.le_of_ble_eq_true rfl) ?_
  intro p e s m args below meth c ls A Q hA hQ C hl hw
  have hx := C.1
  have hb := C.2.1
  have hl : lv_has ls 5 [(0, .ref tq0)] := hl
  have L93 : ∀ (n : Nat), ∀ (t_tried : Nat → Int32) (v3 : Int32) (v4 : Int32) (H : Heap) (locs : List Loc) (ls : Array Slot), Wd D A s.heap (w_X9 cI cC cZ tq0 tq1 tq2 tq3 tq4 tq5 tq6 tq7 tq8 tq9 tq10 t_line t_pull t_best t_count t_bestWorst t_known t_tried t_bent t_trial_bends t_trial_laid t_trial_across t_trial_along) H locs → lv_has ls 5 [(0, .ref tq0), (3, .int v3), (4, .int v4)] → f_X9_goOn_93 t_count  n t_tried v3 v4 = some o → W p l e (rmOf 1 23) s m args below meth c H locs 0 0 Q (F0 m 93 ls []) := by
    intro  n
    induction n with
    | zero => intro t_tried v3 v4 H locs ls hw hl hf; exact (no_none hf).elim
    | succ n ih =>
      intro t_tried v3 v4 H locs ls hw hl hf
      have hf : f_X9_goOn_93b t_count  (f_X9_goOn_93 t_count  n) n t_tried v3 v4 = some o := hf
      generalize f_X9_goOn_93 t_count  n = k93 at hf ih
      refine lv_iload_n hx hb (dc d_X9_goOn 58 rfl) rfl (lv_at hl 1 rfl) ?_
      refine lv_iload hx hb (dc d_X9_goOn 59 rfl) (lv_at hl 2 rfl) ?_
      refine lv_icmp_ge (tgt := 115) hx hb (dc d_X9_goOn 60 rfl) (by decide) (fun c11 => ?_) (fun c11 => ?_)
      · have hf := g_t hf c11
        refine lv_iconst (v := (1 : Int32)) hx hb (dc d_X9_goOn 68 rfl) (by decide) ?_
        cases hf
        exact x_zret C hA hQ hw rfl rfl (by decide) (dc d_X9_goOn 69 rfl)
      · have hf := g_f hf c11
        refine lv_aload_n hx hb (dc d_X9_goOn 61 rfl) rfl (lv_at hl 0 rfl) ?_
        refine lv_iload_n hx hb (dc d_X9_goOn 62 rfl) rfl (lv_at hl 1 rfl) ?_
        refine lv_iload hx hb (dc d_X9_goOn 63 rfl) (lv_at hl 2 rfl) ?_
        obtain ⟨q12, hq12, hf⟩ := g_bd hf
        refine x_callVa C hw mb_X9_swapTried mv_X9_swapTried ml_X9_86 (k_X9_swapTried n hq12) hl.1 rfl rfl rfl 0 9 rfl rfl (Nat.le_of_ble_eq_true rfl) (Nat.le_of_ble_eq_true rfl) (Nat.le_of_ble_eq_true rfl) (dc d_X9_goOn 64 rfl) (fun H locs hw => ?_)
        refine W.eq (g2 := F0 m 106 ls []) rfl ?_
        have hw : Wd D A s.heap (w_X9 cI cC cZ tq0 tq1 tq2 tq3 tq4 tq5 tq6 tq7 tq8 tq9 tq10 t_line t_pull t_best t_count t_bestWorst t_known q12 t_bent t_trial_bends t_trial_laid t_trial_across t_trial_along) H locs := hw
        refine lv_iinc (v := (v3 + (1 : Int32))) (lv' := [(3, .int (v3 + (1 : Int32))), (0, .ref tq0), (4, .int v4)]) hx hb (dc d_X9_goOn 65 rfl) hl (k := 1) rfl (ii (by decide)) (by decide) rfl (fun ls hl => ?_)
        refine lv_iinc (v := (v4 + (-1 : Int32))) (lv' := [(4, .int (v4 + (-1 : Int32))), (3, .int (v3 + (1 : Int32))), (0, .ref tq0)]) hx hb (dc d_X9_goOn 66 rfl) hl (k := 2) rfl (ii (by decide)) (by decide) rfl (fun ls hl => ?_)
        refine lv_goto (tgt := 93) hx hb (dc d_X9_goOn 67 rfl) (by decide) ?_
        exact ih q12 (v3 + (1 : Int32)) (v4 + (-1 : Int32)) _ _ _ hw (lv_sub hl [2, 1, 0] rfl) hf
  have L75 : ∀ (n : Nat), ∀ (t_tried : Nat → Int32) (v1 : Int32) (v2 : Int32) (H : Heap) (locs : List Loc) (ls : Array Slot), Wd D A s.heap (w_X9 cI cC cZ tq0 tq1 tq2 tq3 tq4 tq5 tq6 tq7 tq8 tq9 tq10 t_line t_pull t_best t_count t_bestWorst t_known t_tried t_bent t_trial_bends t_trial_laid t_trial_across t_trial_along) H locs → lv_has ls 5 [(0, .ref tq0), (1, .int v1), (2, .int v2)] → f_X9_goOn_75 t_count  n t_tried v1 v2 = some o → W p l e (rmOf 1 23) s m args below meth c H locs 0 0 Q (F0 m 75 ls []) := by
    intro  n t_tried v1 v2 H locs ls hw hl hf
    refine lv_aload_n hx hb (dc d_X9_goOn 45 rfl) rfl (lv_at hl 0 rfl) ?_
    refine lv_iload_n hx hb (dc d_X9_goOn 46 rfl) rfl (lv_at hl 1 rfl) ?_
    refine lv_iload_n hx hb (dc d_X9_goOn 47 rfl) rfl (lv_at hl 2 rfl) ?_
    obtain ⟨q8, hq8, hf⟩ := g_bd hf
    refine x_callVa C hw mb_X9_swapTried mv_X9_swapTried ml_X9_86 (k_X9_swapTried n hq8) hl.1 rfl rfl rfl 0 9 rfl rfl (Nat.le_of_ble_eq_true rfl) (Nat.le_of_ble_eq_true rfl) (Nat.le_of_ble_eq_true rfl) (dc d_X9_goOn 48 rfl) (fun H locs hw => ?_)
    refine W.eq (g2 := F0 m 81 ls []) rfl ?_
    have hw : Wd D A s.heap (w_X9 cI cC cZ tq0 tq1 tq2 tq3 tq4 tq5 tq6 tq7 tq8 tq9 tq10 t_line t_pull t_best t_count t_bestWorst t_known q8 t_bent t_trial_bends t_trial_laid t_trial_across t_trial_along) H locs := hw
    refine lv_iload_n hx hb (dc d_X9_goOn 49 rfl) rfl (lv_at hl 1 rfl) ?_
    refine lv_iconst (v := (1 : Int32)) hx hb (dc d_X9_goOn 50 rfl) (by decide) ?_
    refine lv_iadd hx hb (dc d_X9_goOn 51 rfl) ?_
    refine lv_topi (fun y9 ey9 => ?_)
    have hf := g_nm hf ey9
    refine lv_istore_n (lv' := [(3, .int y9), (0, .ref tq0), (1, .int v1), (2, .int v2)]) hx hb (dc d_X9_goOn 52 rfl) rfl hl (by decide) rfl (fun ls hl => ?_)
    refine lv_aload_n hx hb (dc d_X9_goOn 53 rfl) rfl (lv_at hl 1 rfl) ?_
    refine x_get C hw fl_X9_34 0 rfl rfl (dc d_X9_goOn 54 rfl) ?_
    refine lv_iconst (v := (1 : Int32)) hx hb (dc d_X9_goOn 55 rfl) (by decide) ?_
    refine lv_isub hx hb (dc d_X9_goOn 56 rfl) ?_
    refine lv_topi (fun y10 ey10 => ?_)
    have hf := g_nm hf ey10
    refine lv_istore (lv' := [(4, .int y10), (3, .int y9), (0, .ref tq0), (1, .int v1), (2, .int v2)]) hx hb (dc d_X9_goOn 57 rfl) hl (by decide) rfl (fun ls hl => ?_)
    exact L93  n q8 y9 y10 _ _ _ hw (lv_sub hl [2, 1, 0] rfl) hf
  have L47 : ∀ (n : Nat), ∀ (t_tried : Nat → Int32) (v1 : Int32) (v2 : Int32) (H : Heap) (locs : List Loc) (ls : Array Slot), Wd D A s.heap (w_X9 cI cC cZ tq0 tq1 tq2 tq3 tq4 tq5 tq6 tq7 tq8 tq9 tq10 t_line t_pull t_best t_count t_bestWorst t_known t_tried t_bent t_trial_bends t_trial_laid t_trial_across t_trial_along) H locs → lv_has ls 5 [(0, .ref tq0), (1, .int v1), (2, .int v2)] → f_X9_goOn_47 t_count  n t_tried v1 v2 = some o → W p l e (rmOf 1 23) s m args below meth c H locs 0 0 Q (F0 m 47 ls []) := by
    intro  n
    induction n with
    | zero => intro t_tried v1 v2 H locs ls hw hl hf; exact (no_none hf).elim
    | succ n ih =>
      intro t_tried v1 v2 H locs ls hw hl hf
      have hf : f_X9_goOn_47b t_count  (f_X9_goOn_47 t_count  n) n t_tried v1 v2 = some o := hf
      generalize f_X9_goOn_47 t_count  n = k47 at hf ih
      refine lv_iload_n hx hb (dc d_X9_goOn 29 rfl) rfl (lv_at hl 2 rfl) ?_
      refine lv_iload_n hx hb (dc d_X9_goOn 30 rfl) rfl (lv_at hl 1 rfl) ?_
      refine lv_iconst (v := (1 : Int32)) hx hb (dc d_X9_goOn 31 rfl) (by decide) ?_
      refine lv_iadd hx hb (dc d_X9_goOn 32 rfl) ?_
      refine lv_icmp_le (tgt := 75) hx hb (dc d_X9_goOn 33 rfl) (by decide) (fun c6 => ?_) (fun c6 => ?_)
      · have hf := g_t hf c6
        exact L75  n t_tried v1 v2 _ _ _ hw (lv_sub hl [0, 1, 2] rfl) hf
      · have hf := g_f hf c6
        refine lv_aload_n hx hb (dc d_X9_goOn 34 rfl) rfl (lv_at hl 0 rfl) ?_
        refine x_get C hw fl_X9_21 0 rfl rfl (dc d_X9_goOn 35 rfl) ?_
        refine lv_iload_n hx hb (dc d_X9_goOn 36 rfl) rfl (lv_at hl 2 rfl) ?_
        have hi := grd_b hf
        have hf := grd_x hf
        refine x_iald C hw 4 rfl hi (dc d_X9_goOn 37 rfl) ?_
        refine lv_aload_n hx hb (dc d_X9_goOn 38 rfl) rfl (lv_at hl 0 rfl) ?_
        refine x_get C hw fl_X9_21 0 rfl rfl (dc d_X9_goOn 39 rfl) ?_
        refine lv_iload_n hx hb (dc d_X9_goOn 40 rfl) rfl (lv_at hl 1 rfl) ?_
        have hi := grd_b hf
        have hf := grd_x hf
        refine x_iald C hw 4 rfl hi (dc d_X9_goOn 41 rfl) ?_
        refine lv_icmp_ge (tgt := 75) hx hb (dc d_X9_goOn 42 rfl) (by decide) (fun c7 => ?_) (fun c7 => ?_)
        · have hf := g_t hf c7
          exact L75  n t_tried v1 v2 _ _ _ hw (lv_sub hl [0, 1, 2] rfl) hf
        · have hf := g_f hf c7
          refine lv_iinc (v := (v2 + (-1 : Int32))) (lv' := [(2, .int (v2 + (-1 : Int32))), (0, .ref tq0), (1, .int v1)]) hx hb (dc d_X9_goOn 43 rfl) hl (k := 2) rfl (ii (by decide)) (by decide) rfl (fun ls hl => ?_)
          refine lv_goto (tgt := 47) hx hb (dc d_X9_goOn 44 rfl) (by decide) ?_
          exact ih t_tried v1 (v2 + (-1 : Int32)) _ _ _ hw (lv_sub hl [1, 2, 0] rfl) hf
  have L34 : ∀ (n : Nat), ∀ (t_tried : Nat → Int32) (v1 : Int32) (H : Heap) (locs : List Loc) (ls : Array Slot), Wd D A s.heap (w_X9 cI cC cZ tq0 tq1 tq2 tq3 tq4 tq5 tq6 tq7 tq8 tq9 tq10 t_line t_pull t_best t_count t_bestWorst t_known t_tried t_bent t_trial_bends t_trial_laid t_trial_across t_trial_along) H locs → lv_has ls 5 [(0, .ref tq0), (1, .int v1)] → f_X9_goOn_34 t_count  n t_tried v1 = some o → W p l e (rmOf 1 23) s m args below meth c H locs 0 0 Q (F0 m 34 ls []) := by
    intro  n t_tried v1 H locs ls hw hl hf
    refine lv_iload_n hx hb (dc d_X9_goOn 20 rfl) rfl (lv_at hl 1 rfl) ?_
    refine lv_if_ge (tgt := 40) hx hb (dc d_X9_goOn 21 rfl) (by decide) (fun c4 => ?_) (fun c4 => ?_)
    · have hf := g_t hf c4
      refine lv_aload_n hx hb (dc d_X9_goOn 24 rfl) rfl (lv_at hl 0 rfl) ?_
      refine x_get C hw fl_X9_34 0 rfl rfl (dc d_X9_goOn 25 rfl) ?_
      refine lv_iconst (v := (1 : Int32)) hx hb (dc d_X9_goOn 26 rfl) (by decide) ?_
      refine lv_isub hx hb (dc d_X9_goOn 27 rfl) ?_
      refine lv_topi (fun y5 ey5 => ?_)
      have hf := g_nm hf ey5
      refine lv_istore_n (lv' := [(2, .int y5), (0, .ref tq0), (1, .int v1)]) hx hb (dc d_X9_goOn 28 rfl) rfl hl (by decide) rfl (fun ls hl => ?_)
      exact L47  n t_tried v1 y5 _ _ _ hw (lv_sub hl [1, 2, 0] rfl) hf
    · have hf := g_f hf c4
      refine lv_iconst (v := (0 : Int32)) hx hb (dc d_X9_goOn 22 rfl) (by decide) ?_
      cases hf
      exact x_zret C hA hQ hw rfl rfl (by decide) (dc d_X9_goOn 23 rfl)
  have L7 : ∀ (n : Nat), ∀ (t_tried : Nat → Int32) (v1 : Int32) (H : Heap) (locs : List Loc) (ls : Array Slot), Wd D A s.heap (w_X9 cI cC cZ tq0 tq1 tq2 tq3 tq4 tq5 tq6 tq7 tq8 tq9 tq10 t_line t_pull t_best t_count t_bestWorst t_known t_tried t_bent t_trial_bends t_trial_laid t_trial_across t_trial_along) H locs → lv_has ls 5 [(0, .ref tq0), (1, .int v1)] → f_X9_goOn_7 t_count  n t_tried v1 = some o → W p l e (rmOf 1 23) s m args below meth c H locs 0 0 Q (F0 m 7 ls []) := by
    intro  n
    induction n with
    | zero => intro t_tried v1 H locs ls hw hl hf; exact (no_none hf).elim
    | succ n ih =>
      intro t_tried v1 H locs ls hw hl hf
      have hf : f_X9_goOn_7b t_count  (f_X9_goOn_7 t_count  n) n t_tried v1 = some o := hf
      generalize f_X9_goOn_7 t_count  n = k7 at hf ih
      refine lv_iload_n hx hb (dc d_X9_goOn 5 rfl) rfl (lv_at hl 1 rfl) ?_
      refine lv_if_lt (tgt := 34) hx hb (dc d_X9_goOn 6 rfl) (by decide) (fun c2 => ?_) (fun c2 => ?_)
      · have hf := g_t hf c2
        exact L34  n t_tried v1 _ _ _ hw (lv_sub hl [0, 1] rfl) hf
      · have hf := g_f hf c2
        refine lv_aload_n hx hb (dc d_X9_goOn 7 rfl) rfl (lv_at hl 0 rfl) ?_
        refine x_get C hw fl_X9_21 0 rfl rfl (dc d_X9_goOn 8 rfl) ?_
        refine lv_iload_n hx hb (dc d_X9_goOn 9 rfl) rfl (lv_at hl 1 rfl) ?_
        have hi := grd_b hf
        have hf := grd_x hf
        refine x_iald C hw 4 rfl hi (dc d_X9_goOn 10 rfl) ?_
        refine lv_aload_n hx hb (dc d_X9_goOn 11 rfl) rfl (lv_at hl 0 rfl) ?_
        refine x_get C hw fl_X9_21 0 rfl rfl (dc d_X9_goOn 12 rfl) ?_
        refine lv_iload_n hx hb (dc d_X9_goOn 13 rfl) rfl (lv_at hl 1 rfl) ?_
        refine lv_iconst (v := (1 : Int32)) hx hb (dc d_X9_goOn 14 rfl) (by decide) ?_
        refine lv_iadd hx hb (dc d_X9_goOn 15 rfl) ?_
        have hi := grd_b hf
        have hf := grd_x hf
        refine x_iald C hw 4 rfl hi (dc d_X9_goOn 16 rfl) ?_
        refine lv_icmp_le (tgt := 34) hx hb (dc d_X9_goOn 17 rfl) (by decide) (fun c3 => ?_) (fun c3 => ?_)
        · have hf := g_t hf c3
          exact L34  n t_tried v1 _ _ _ hw (lv_sub hl [0, 1] rfl) hf
        · have hf := g_f hf c3
          refine lv_iinc (v := (v1 + (-1 : Int32))) (lv' := [(1, .int (v1 + (-1 : Int32))), (0, .ref tq0)]) hx hb (dc d_X9_goOn 18 rfl) hl (k := 1) rfl (ii (by decide)) (by decide) rfl (fun ls hl => ?_)
          refine lv_goto (tgt := 7) hx hb (dc d_X9_goOn 19 rfl) (by decide) ?_
          exact ih t_tried (v1 + (-1 : Int32)) _ _ _ hw (lv_sub hl [1, 0] rfl) hf
  refine lv_aload_n hx hb (dc d_X9_goOn 0 rfl) rfl (lv_at hl 0 rfl) ?_
  refine x_get C hw fl_X9_34 0 rfl rfl (dc d_X9_goOn 1 rfl) ?_
  refine lv_iconst (v := (2 : Int32)) hx hb (dc d_X9_goOn 2 rfl) (by decide) ?_
  refine lv_isub hx hb (dc d_X9_goOn 3 rfl) ?_
  refine lv_topi (fun y1 ey1 => ?_)
  have hf := g_nm hf ey1
  refine lv_istore_n (lv' := [(1, .int y1), (0, .ref tq0)]) hx hb (dc d_X9_goOn 4 rfl) rfl hl (by decide) rfl (fun ls hl => ?_)
  exact L7  n t_tried y1 _ _ _ hw (lv_sub hl [1, 0] rfl) hf
set_option maxHeartbeats 4000000 in
set_option maxRecDepth 100000 in
theorem k_X9_findBest (n : Nat) {l : Launch} {D : va_G} {cI cC cZ : ClassId} {tq0 tq1 tq2 tq3 tq4 tq5 tq6 tq7 tq8 tq9 tq10 bq0 bq1 bq2 bq3 bq4 cq0 cq1 cq2 dq0 dq1 dq2 : Nat} {t_line : Nat → Int32} {t_pull : Nat → Int32} {t_best : Nat → Int32} {t_count : Int32} {t_bestWorst : Int32} {t_known : Int32} {t_tried : Nat → Int32} {t_bent : Nat → Int32} {t_trial_bends : Nat → Int32} {t_trial_laid : Nat → Int32} {t_trial_across : Nat → Int32} {t_trial_along : Nat → Int32} {b_bends : Nat → Int32} {b_laid : Nat → Int32} {b_across : Nat → Int32} {b_along : Nat → Int32} {c_heights : Nat → Int32} {c_hung : Nat → Int32} {d_settings : Nat → Int32} {d_numbers : Nat → Int32}  {o : (Nat → Int32) × Int32 × Int32 × (Nat → Int32) × (Nat → Int32) × (Nat → Int32) × (Nat → Int32) × (Nat → Int32) × (Nat → Int32)} (hf : f_X9_findBest n t_line t_pull t_best t_count t_bestWorst t_known t_tried t_bent t_trial_bends t_trial_laid t_trial_across t_trial_along b_bends b_laid c_hung d_settings = some o) : Ctr l yX9_findBest cX9_findBest 7 none 4 106 D cI cC cZ [.ref tq0, .ref bq0, .ref cq0, .ref dq0] (w_X9_X6_X10_X5 cI cC cZ tq0 tq1 tq2 tq3 tq4 tq5 tq6 tq7 tq8 tq9 tq10 bq0 bq1 bq2 bq3 bq4 cq0 cq1 cq2 dq0 dq1 dq2 t_line t_pull t_best t_count t_bestWorst t_known t_tried t_bent t_trial_bends t_trial_laid t_trial_across t_trial_along b_bends b_laid b_across b_along c_heights c_hung d_settings d_numbers) (w_X9_X6_X10_X5 cI cC cZ tq0 tq1 tq2 tq3 tq4 tq5 tq6 tq7 tq8 tq9 tq10 bq0 bq1 bq2 bq3 bq4 cq0 cq1 cq2 dq0 dq1 dq2 t_line t_pull o.1 t_count o.2.1 o.2.2.1 o.2.2.2.1 o.2.2.2.2.1 o.2.2.2.2.2.1 o.2.2.2.2.2.2.1 o.2.2.2.2.2.2.2.1 o.2.2.2.2.2.2.2.2 b_bends b_laid b_across b_along c_heights c_hung d_settings d_numbers) none := by
  refine Ctr.of (by decide) (Nat.le_of_ble_eq_true rfl) ?_
  intro p e s m args below meth c ls A Q hA hQ C hl hw
  have hx := C.1
  have hb := C.2.1
  have hl : lv_has ls 7 [(0, .ref tq0), (1, .ref bq0), (2, .ref cq0), (3, .ref dq0)] := hl
  have L93 : ∀ (k39 : (Nat → Int32) → (Int32) → (Int32) → (Nat → Int32) → (Nat → Int32) → (Nat → Int32) → (Nat → Int32) → (Nat → Int32) → (Nat → Int32) → (Int32) → (Int32) → Option ((Nat → Int32) × Int32 × Int32 × (Nat → Int32) × (Nat → Int32) × (Nat → Int32) × (Nat → Int32) × (Nat → Int32) × (Nat → Int32))), (∀ (t_best : Nat → Int32) (t_bestWorst : Int32) (t_known : Int32) (t_tried : Nat → Int32) (t_bent : Nat → Int32) (t_trial_bends : Nat → Int32) (t_trial_laid : Nat → Int32) (t_trial_across : Nat → Int32) (t_trial_along : Nat → Int32) (v4 : Int32) (v5 : Int32) (H : Heap) (locs : List Loc) (ls : Array Slot), Wd D A s.heap (w_X9_X6_X10_X5 cI cC cZ tq0 tq1 tq2 tq3 tq4 tq5 tq6 tq7 tq8 tq9 tq10 bq0 bq1 bq2 bq3 bq4 cq0 cq1 cq2 dq0 dq1 dq2 t_line t_pull t_best t_count t_bestWorst t_known t_tried t_bent t_trial_bends t_trial_laid t_trial_across t_trial_along b_bends b_laid b_across b_along c_heights c_hung d_settings d_numbers) H locs → lv_has ls 7 [(0, .ref tq0), (1, .ref bq0), (2, .ref cq0), (4, .int v4), (5, .int v5)] → k39 t_best t_bestWorst t_known t_tried t_bent t_trial_bends t_trial_laid t_trial_across t_trial_along v4 v5 = some o → W p l e (rmOf 4 106) s m args below meth c H locs 0 0 Q (F0 m 39 ls [])) → ∀ (n : Nat), ∀ (t_best : Nat → Int32) (t_bestWorst : Int32) (t_known : Int32) (t_tried : Nat → Int32) (t_bent : Nat → Int32) (t_trial_bends : Nat → Int32) (t_trial_laid : Nat → Int32) (t_trial_across : Nat → Int32) (t_trial_along : Nat → Int32) (v4 : Int32) (v5 : Int32) (H : Heap) (locs : List Loc) (ls : Array Slot), Wd D A s.heap (w_X9_X6_X10_X5 cI cC cZ tq0 tq1 tq2 tq3 tq4 tq5 tq6 tq7 tq8 tq9 tq10 bq0 bq1 bq2 bq3 bq4 cq0 cq1 cq2 dq0 dq1 dq2 t_line t_pull t_best t_count t_bestWorst t_known t_tried t_bent t_trial_bends t_trial_laid t_trial_across t_trial_along b_bends b_laid b_across b_along c_heights c_hung d_settings d_numbers) H locs → lv_has ls 7 [(0, .ref tq0), (1, .ref bq0), (2, .ref cq0), (4, .int v4), (5, .int v5)] → f_X9_findBest_93 t_line t_pull t_count b_bends b_laid c_hung d_settings k39 n t_best t_bestWorst t_known t_tried t_bent t_trial_bends t_trial_laid t_trial_across t_trial_along v4 v5 = some o → W p l e (rmOf 4 106) s m args below meth c H locs 0 0 Q (F0 m 93 ls []) := by
    intro k39 H39 n t_best t_bestWorst t_known t_tried t_bent t_trial_bends t_trial_laid t_trial_across t_trial_along v4 v5 H locs ls hw hl hf
    refine lv_aload_n hx hb (dc d_X9_findBest 48 rfl) rfl (lv_at hl 0 rfl) ?_
    obtain ⟨q7, hq7, hf⟩ := g_bd hf
    refine x_callV C hw mb_X9_goOn mv_X9_goOn ml_X9_60 (k_X9_goOn n hq7) hl.1 rfl rfl [0, 1, 2, 3, 4, 5, 6, 7, 8, 9, 10] rfl rfl rfl 0 9 rfl rfl (Nat.le_of_ble_eq_true rfl) (Nat.le_of_ble_eq_true rfl) (Nat.le_of_ble_eq_true rfl) (dc d_X9_findBest 49 rfl) (fun H locs hw => ?_)
    refine W.eq (g2 := F0 m 97 ls [.int q7.1]) rfl ?_
    dsimp only [w_X9_X6_X10_X5, w_X9, mix, List.set_cons_succ, List.set_cons_zero] at hw
    have hw : Wd D A s.heap (w_X9_X6_X10_X5 cI cC cZ tq0 tq1 tq2 tq3 tq4 tq5 tq6 tq7 tq8 tq9 tq10 bq0 bq1 bq2 bq3 bq4 cq0 cq1 cq2 dq0 dq1 dq2 t_line t_pull t_best t_count t_bestWorst t_known q7.2 t_bent t_trial_bends t_trial_laid t_trial_across t_trial_along b_bends b_laid b_across b_along c_heights c_hung d_settings d_numbers) H locs := hw
    refine lv_if_ne (tgt := 103) hx hb (dc d_X9_findBest 50 rfl) (by decide) (fun c8 => ?_) (fun c8 => ?_)
    · have hf := g_f hf c8
      refine lv_iinc (v := (v5 + (1 : Int32))) (lv' := [(5, .int (v5 + (1 : Int32))), (0, .ref tq0), (1, .ref bq0), (2, .ref cq0), (4, .int v4)]) hx hb (dc d_X9_findBest 52 rfl) hl (k := 4) rfl (ii (by decide)) (by decide) rfl (fun ls hl => ?_)
      refine lv_goto (tgt := 39) hx hb (dc d_X9_findBest 53 rfl) (by decide) ?_
      exact H39 t_best t_bestWorst t_known q7.2 t_bent t_trial_bends t_trial_laid t_trial_across t_trial_along v4 (v5 + (1 : Int32)) _ _ _ hw (lv_sub hl [1, 2, 3, 4, 0] rfl) hf
    · have hf := g_t hf c8
      refine lv_goto (tgt := 109) hx hb (dc d_X9_findBest 51 rfl) (by decide) ?_
      refine lv_aload_n hx hb (dc d_X9_findBest 54 rfl) rfl (lv_at hl 0 rfl) ?_
      refine lv_iconst (v := (1 : Int32)) hx hb (dc d_X9_findBest 55 rfl) (by decide) ?_
      refine x_put C hw fl_X9_38 fw_X9_5 0 rfl rfl rfl (Nat.le_of_ble_eq_true rfl) (dc d_X9_findBest 56 rfl) (fun H locs hw => ?_)
      dsimp only [w_X9_X6_X10_X5, mix, List.set_cons_succ, List.set_cons_zero] at hw
      have hw : Wd D A s.heap (w_X9_X6_X10_X5 cI cC cZ tq0 tq1 tq2 tq3 tq4 tq5 tq6 tq7 tq8 tq9 tq10 bq0 bq1 bq2 bq3 bq4 cq0 cq1 cq2 dq0 dq1 dq2 t_line t_pull t_best t_count t_bestWorst (1 : Int32) q7.2 t_bent t_trial_bends t_trial_laid t_trial_across t_trial_along b_bends b_laid b_across b_along c_heights c_hung d_settings d_numbers) H locs := hw
      cases hf
      exact x_vret C hA hQ hw rfl rfl (dc d_X9_findBest 57 rfl)
  have L39 : ∀ (n : Nat), ∀ (t_best : Nat → Int32) (t_bestWorst : Int32) (t_known : Int32) (t_tried : Nat → Int32) (t_bent : Nat → Int32) (t_trial_bends : Nat → Int32) (t_trial_laid : Nat → Int32) (t_trial_across : Nat → Int32) (t_trial_along : Nat → Int32) (v4 : Int32) (v5 : Int32) (H : Heap) (locs : List Loc) (ls : Array Slot), Wd D A s.heap (w_X9_X6_X10_X5 cI cC cZ tq0 tq1 tq2 tq3 tq4 tq5 tq6 tq7 tq8 tq9 tq10 bq0 bq1 bq2 bq3 bq4 cq0 cq1 cq2 dq0 dq1 dq2 t_line t_pull t_best t_count t_bestWorst t_known t_tried t_bent t_trial_bends t_trial_laid t_trial_across t_trial_along b_bends b_laid b_across b_along c_heights c_hung d_settings d_numbers) H locs → lv_has ls 7 [(0, .ref tq0), (1, .ref bq0), (2, .ref cq0), (4, .int v4), (5, .int v5)] → f_X9_findBest_39 t_line t_pull t_count b_bends b_laid c_hung d_settings  n t_best t_bestWorst t_known t_tried t_bent t_trial_bends t_trial_laid t_trial_across t_trial_along v4 v5 = some o → W p l e (rmOf 4 106) s m args below meth c H locs 0 0 Q (F0 m 39 ls []) := by
    intro  n
    induction n with
    | zero => intro t_best t_bestWorst t_known t_tried t_bent t_trial_bends t_trial_laid t_trial_across t_trial_along v4 v5 H locs ls hw hl hf; exact (no_none hf).elim
    | succ n ih =>
      intro t_best t_bestWorst t_known t_tried t_bent t_trial_bends t_trial_laid t_trial_across t_trial_along v4 v5 H locs ls hw hl hf
      have hf : f_X9_findBest_39b t_line t_pull t_count b_bends b_laid c_hung d_settings  (f_X9_findBest_39 t_line t_pull t_count b_bends b_laid c_hung d_settings  n) n t_best t_bestWorst t_known t_tried t_bent t_trial_bends t_trial_laid t_trial_across t_trial_along v4 v5 = some o := hf
      generalize f_X9_findBest_39 t_line t_pull t_count b_bends b_laid c_hung d_settings  n = k39 at hf ih
      refine lv_iload hx hb (dc d_X9_findBest 20 rfl) (lv_at hl 4 rfl) ?_
      refine lv_sipush (v := (5040 : Int32)) hx hb (dc d_X9_findBest 21 rfl) (by decide) ?_
      refine lv_icmp_ge (tgt := 109) hx hb (dc d_X9_findBest 22 rfl) (by decide) (fun c3 => ?_) (fun c3 => ?_)
      · have hf := g_t hf c3
        refine lv_aload_n hx hb (dc d_X9_findBest 54 rfl) rfl (lv_at hl 0 rfl) ?_
        refine lv_iconst (v := (1 : Int32)) hx hb (dc d_X9_findBest 55 rfl) (by decide) ?_
        refine x_put C hw fl_X9_38 fw_X9_5 0 rfl rfl rfl (Nat.le_of_ble_eq_true rfl) (dc d_X9_findBest 56 rfl) (fun H locs hw => ?_)
        dsimp only [w_X9_X6_X10_X5, mix, List.set_cons_succ, List.set_cons_zero] at hw
        have hw : Wd D A s.heap (w_X9_X6_X10_X5 cI cC cZ tq0 tq1 tq2 tq3 tq4 tq5 tq6 tq7 tq8 tq9 tq10 bq0 bq1 bq2 bq3 bq4 cq0 cq1 cq2 dq0 dq1 dq2 t_line t_pull t_best t_count t_bestWorst (1 : Int32) t_tried t_bent t_trial_bends t_trial_laid t_trial_across t_trial_along b_bends b_laid b_across b_along c_heights c_hung d_settings d_numbers) H locs := hw
        cases hf
        exact x_vret C hA hQ hw rfl rfl (dc d_X9_findBest 57 rfl)
      · have hf := g_f hf c3
        refine lv_aload_n hx hb (dc d_X9_findBest 23 rfl) rfl (lv_at hl 0 rfl) ?_
        refine lv_aload_n hx hb (dc d_X9_findBest 24 rfl) rfl (lv_at hl 1 rfl) ?_
        refine lv_aload_n hx hb (dc d_X9_findBest 25 rfl) rfl (lv_at hl 2 rfl) ?_
        refine lv_iload hx hb (dc d_X9_findBest 26 rfl) (lv_at hl 3 rfl) ?_
        obtain ⟨q4, hq4, hf⟩ := g_bd hf
        refine x_callV C hw mb_X9_worstBehind mv_X9_worstBehind ml_X9_47 (k_X9_worstBehind n hq4) hl.1 rfl rfl [0, 1, 2, 3, 4, 5, 6, 7, 8, 9, 10, 11, 12, 13, 14, 15, 16, 17, 18] rfl rfl rfl 0 9 rfl rfl (Nat.le_of_ble_eq_true rfl) (Nat.le_of_ble_eq_true rfl) (Nat.le_of_ble_eq_true rfl) (dc d_X9_findBest 27 rfl) (fun H locs hw => ?_)
        refine W.eq (g2 := F0 m 55 ls [.int q4.1]) rfl ?_
        dsimp only [w_X9_X6_X10_X5, w_X9_X6_X10, mix, List.set_cons_succ, List.set_cons_zero] at hw
        have hw : Wd D A s.heap (w_X9_X6_X10_X5 cI cC cZ tq0 tq1 tq2 tq3 tq4 tq5 tq6 tq7 tq8 tq9 tq10 bq0 bq1 bq2 bq3 bq4 cq0 cq1 cq2 dq0 dq1 dq2 t_line t_pull t_best t_count t_bestWorst t_known t_tried t_bent q4.2.1 q4.2.2.1 q4.2.2.2.1 q4.2.2.2.2 b_bends b_laid b_across b_along c_heights c_hung d_settings d_numbers) H locs := hw
        refine lv_istore (lv' := [(6, .int q4.1), (0, .ref tq0), (1, .ref bq0), (2, .ref cq0), (4, .int v4), (5, .int v5)]) hx hb (dc d_X9_findBest 28 rfl) hl (by decide) rfl (fun ls hl => ?_)
        refine lv_iload hx hb (dc d_X9_findBest 29 rfl) (lv_at hl 0 rfl) ?_
        refine lv_iload hx hb (dc d_X9_findBest 30 rfl) (lv_at hl 4 rfl) ?_
        refine lv_icmp_gt (tgt := 93) hx hb (dc d_X9_findBest 31 rfl) (by decide) (fun c5 => ?_) (fun c5 => ?_)
        · have hf := g_t hf c5
          exact L93 k39 ih n t_best t_bestWorst t_known t_tried t_bent q4.2.1 q4.2.2.1 q4.2.2.2.1 q4.2.2.2.2 v4 v5 _ _ _ hw (lv_sub hl [1, 2, 3, 4, 5] rfl) hf
        · have hf := g_f hf c5
          refine lv_aload_n hx hb (dc d_X9_findBest 32 rfl) rfl (lv_at hl 1 rfl) ?_
          refine x_get C hw fl_X9_21 0 rfl rfl (dc d_X9_findBest 33 rfl) ?_
          refine lv_iconst (v := (0 : Int32)) hx hb (dc d_X9_findBest 34 rfl) (by decide) ?_
          refine lv_aload_n hx hb (dc d_X9_findBest 35 rfl) rfl (lv_at hl 1 rfl) ?_
          refine x_get C hw fl_X9_18 0 rfl rfl (dc d_X9_findBest 36 rfl) ?_
          refine lv_iconst (v := (0 : Int32)) hx hb (dc d_X9_findBest 37 rfl) (by decide) ?_
          refine lv_aload_n hx hb (dc d_X9_findBest 38 rfl) rfl (lv_at hl 1 rfl) ?_
          refine x_get C hw fl_X9_34 0 rfl rfl (dc d_X9_findBest 39 rfl) ?_
          have hg := grd_b hf
          have hf := grd_x hf
          refine x_copy C hw hl.1 ml_X9_51 nt_copy ms_arraycopyName in_java_lang_System 4 3 rfl rfl hg (Nat.le_of_ble_eq_true rfl) (Nat.le_of_ble_eq_true rfl) (dc d_X9_findBest 40 rfl) (fun H locs hw => ?_)
          dsimp only [w_X9_X6_X10_X5, mix, List.set_cons_succ, List.set_cons_zero] at hw
          have hw : Wd D A s.heap (w_X9_X6_X10_X5 cI cC cZ tq0 tq1 tq2 tq3 tq4 tq5 tq6 tq7 tq8 tq9 tq10 bq0 bq1 bq2 bq3 bq4 cq0 cq1 cq2 dq0 dq1 dq2 t_line t_pull (va_cpy t_tried t_best 0 0 t_count.toNatClampNeg) t_count t_bestWorst t_known t_tried t_bent q4.2.1 q4.2.2.1 q4.2.2.2.1 q4.2.2.2.2 b_bends b_laid b_across b_along c_heights c_hung d_settings d_numbers) H locs := hw
          refine lv_aload_n hx hb (dc d_X9_findBest 41 rfl) rfl (lv_at hl 1 rfl) ?_
          refine lv_iload hx hb (dc d_X9_findBest 42 rfl) (lv_at hl 0 rfl) ?_
          refine x_put C hw fl_X9_57 fw_X9_4 0 rfl rfl rfl (Nat.le_of_ble_eq_true rfl) (dc d_X9_findBest 43 rfl) (fun H locs hw => ?_)
          dsimp only [w_X9_X6_X10_X5, mix, List.set_cons_succ, List.set_cons_zero] at hw
          have hw : Wd D A s.heap (w_X9_X6_X10_X5 cI cC cZ tq0 tq1 tq2 tq3 tq4 tq5 tq6 tq7 tq8 tq9 tq10 bq0 bq1 bq2 bq3 bq4 cq0 cq1 cq2 dq0 dq1 dq2 t_line t_pull (va_cpy t_tried t_best 0 0 t_count.toNatClampNeg) t_count q4.1 t_known t_tried t_bent q4.2.1 q4.2.2.1 q4.2.2.2.1 q4.2.2.2.2 b_bends b_laid b_across b_along c_heights c_hung d_settings d_numbers) H locs := hw
          refine lv_iload hx hb (dc d_X9_findBest 44 rfl) (lv_at hl 0 rfl) ?_
          refine lv_iconst (v := (1 : Int32)) hx hb (dc d_X9_findBest 45 rfl) (by decide) ?_
          refine lv_isub hx hb (dc d_X9_findBest 46 rfl) ?_
          refine lv_topi (fun y6 ey6 => ?_)
          have hf := g_nm hf ey6
          refine lv_istore (lv' := [(4, .int y6), (6, .int q4.1), (0, .ref tq0), (1, .ref bq0), (2, .ref cq0), (5, .int v5)]) hx hb (dc d_X9_findBest 47 rfl) hl (by decide) rfl (fun ls hl => ?_)
          exact L93 k39 ih n (va_cpy t_tried t_best 0 0 t_count.toNatClampNeg) q4.1 t_known t_tried t_bent q4.2.1 q4.2.2.1 q4.2.2.2.1 q4.2.2.2.2 y6 v5 _ _ _ hw (lv_sub hl [2, 3, 4, 0, 5] rfl) hf
  have L8 : ∀ (n : Nat), ∀ (t_best : Nat → Int32) (t_bestWorst : Int32) (t_known : Int32) (t_tried : Nat → Int32) (t_bent : Nat → Int32) (t_trial_bends : Nat → Int32) (t_trial_laid : Nat → Int32) (t_trial_across : Nat → Int32) (t_trial_along : Nat → Int32) (v4 : Int32) (H : Heap) (locs : List Loc) (ls : Array Slot), Wd D A s.heap (w_X9_X6_X10_X5 cI cC cZ tq0 tq1 tq2 tq3 tq4 tq5 tq6 tq7 tq8 tq9 tq10 bq0 bq1 bq2 bq3 bq4 cq0 cq1 cq2 dq0 dq1 dq2 t_line t_pull t_best t_count t_bestWorst t_known t_tried t_bent t_trial_bends t_trial_laid t_trial_across t_trial_along b_bends b_laid b_across b_along c_heights c_hung d_settings d_numbers) H locs → lv_has ls 7 [(0, .ref tq0), (1, .ref bq0), (2, .ref cq0), (4, .int v4)] → f_X9_findBest_8 t_line t_pull t_count b_bends b_laid c_hung d_settings  n t_best t_bestWorst t_known t_tried t_bent t_trial_bends t_trial_laid t_trial_across t_trial_along v4 = some o → W p l e (rmOf 4 106) s m args below meth c H locs 0 0 Q (F0 m 8 ls []) := by
    intro  n
    induction n with
    | zero => intro t_best t_bestWorst t_known t_tried t_bent t_trial_bends t_trial_laid t_trial_across t_trial_along v4 H locs ls hw hl hf; exact (no_none hf).elim
    | succ n ih =>
      intro t_best t_bestWorst t_known t_tried t_bent t_trial_bends t_trial_laid t_trial_across t_trial_along v4 H locs ls hw hl hf
      have hf : f_X9_findBest_8b t_line t_pull t_count b_bends b_laid c_hung d_settings  (f_X9_findBest_8 t_line t_pull t_count b_bends b_laid c_hung d_settings  n) n t_best t_bestWorst t_known t_tried t_bent t_trial_bends t_trial_laid t_trial_across t_trial_along v4 = some o := hf
      generalize f_X9_findBest_8 t_line t_pull t_count b_bends b_laid c_hung d_settings  n = k8 at hf ih
      refine lv_iload hx hb (dc d_X9_findBest 5 rfl) (lv_at hl 3 rfl) ?_
      refine lv_aload_n hx hb (dc d_X9_findBest 6 rfl) rfl (lv_at hl 0 rfl) ?_
      refine x_get C hw fl_X9_34 0 rfl rfl (dc d_X9_findBest 7 rfl) ?_
      refine lv_icmp_ge (tgt := 32) hx hb (dc d_X9_findBest 8 rfl) (by decide) (fun c2 => ?_) (fun c2 => ?_)
      · have hf := g_t hf c2
        refine x_ldc (v := (2000000000 : Int32)) C cn_X9_46 (dc d_X9_findBest 16 rfl) ?_
        refine lv_istore (lv' := [(4, .int (2000000000 : Int32)), (0, .ref tq0), (1, .ref bq0), (2, .ref cq0)]) hx hb (dc d_X9_findBest 17 rfl) hl (by decide) rfl (fun ls hl => ?_)
        refine lv_iconst (v := (0 : Int32)) hx hb (dc d_X9_findBest 18 rfl) (by decide) ?_
        refine lv_istore (lv' := [(5, .int (0 : Int32)), (4, .int (2000000000 : Int32)), (0, .ref tq0), (1, .ref bq0), (2, .ref cq0)]) hx hb (dc d_X9_findBest 19 rfl) hl (by decide) rfl (fun ls hl => ?_)
        exact L39  n t_best t_bestWorst t_known t_tried t_bent t_trial_bends t_trial_laid t_trial_across t_trial_along (2000000000 : Int32) (0 : Int32) _ _ _ hw (lv_sub hl [2, 3, 4, 1, 0] rfl) hf
      · have hf := g_f hf c2
        refine lv_aload_n hx hb (dc d_X9_findBest 9 rfl) rfl (lv_at hl 0 rfl) ?_
        refine x_get C hw fl_X9_21 0 rfl rfl (dc d_X9_findBest 10 rfl) ?_
        refine lv_iload hx hb (dc d_X9_findBest 11 rfl) (lv_at hl 3 rfl) ?_
        refine lv_iload hx hb (dc d_X9_findBest 12 rfl) (lv_at hl 3 rfl) ?_
        have hi := grd_b hf
        have hf := grd_x hf
        refine x_iast C hw 4 rfl hi (dc d_X9_findBest 13 rfl) (fun H locs hw => ?_)
        dsimp only [w_X9_X6_X10_X5, mix, List.set_cons_succ, List.set_cons_zero] at hw
        have hw : Wd D A s.heap (w_X9_X6_X10_X5 cI cC cZ tq0 tq1 tq2 tq3 tq4 tq5 tq6 tq7 tq8 tq9 tq10 bq0 bq1 bq2 bq3 bq4 cq0 cq1 cq2 dq0 dq1 dq2 t_line t_pull t_best t_count t_bestWorst t_known (upd t_tried v4.toNatClampNeg v4) t_bent t_trial_bends t_trial_laid t_trial_across t_trial_along b_bends b_laid b_across b_along c_heights c_hung d_settings d_numbers) H locs := hw
        refine lv_iinc (v := (v4 + (1 : Int32))) (lv' := [(4, .int (v4 + (1 : Int32))), (0, .ref tq0), (1, .ref bq0), (2, .ref cq0)]) hx hb (dc d_X9_findBest 14 rfl) hl (k := 3) rfl (ii (by decide)) (by decide) rfl (fun ls hl => ?_)
        refine lv_goto (tgt := 8) hx hb (dc d_X9_findBest 15 rfl) (by decide) ?_
        exact ih t_best t_bestWorst t_known (upd t_tried v4.toNatClampNeg v4) t_bent t_trial_bends t_trial_laid t_trial_across t_trial_along (v4 + (1 : Int32)) _ _ _ hw (lv_sub hl [1, 2, 3, 0] rfl) hf
  refine lv_aload_n hx hb (dc d_X9_findBest 0 rfl) rfl (lv_at hl 0 rfl) ?_
  refine lv_aload_n hx hb (dc d_X9_findBest 1 rfl) rfl (lv_at hl 3 rfl) ?_
  obtain ⟨q1, hq1, hf⟩ := g_bd hf
  refine x_callV C hw mb_X9_findBent mv_X9_findBent ml_X9_42 (k_X9_findBent n hq1) hl.1 rfl rfl [0, 1, 2, 3, 4, 5, 6, 7, 8, 9, 10, 19, 20, 21] rfl rfl rfl 0 9 rfl rfl (Nat.le_of_ble_eq_true rfl) (Nat.le_of_ble_eq_true rfl) (Nat.le_of_ble_eq_true rfl) (dc d_X9_findBest 2 rfl) (fun H locs hw => ?_)
  refine W.eq (g2 := F0 m 5 ls []) rfl ?_
  dsimp only [w_X9_X6_X10_X5, w_X9_X5, mix, List.set_cons_succ, List.set_cons_zero] at hw
  have hw : Wd D A s.heap (w_X9_X6_X10_X5 cI cC cZ tq0 tq1 tq2 tq3 tq4 tq5 tq6 tq7 tq8 tq9 tq10 bq0 bq1 bq2 bq3 bq4 cq0 cq1 cq2 dq0 dq1 dq2 t_line t_pull t_best t_count t_bestWorst t_known t_tried q1 t_trial_bends t_trial_laid t_trial_across t_trial_along b_bends b_laid b_across b_along c_heights c_hung d_settings d_numbers) H locs := hw
  refine lv_iconst (v := (0 : Int32)) hx hb (dc d_X9_findBest 3 rfl) (by decide) ?_
  refine lv_istore (lv' := [(4, .int (0 : Int32)), (0, .ref tq0), (1, .ref bq0), (2, .ref cq0), (3, .ref dq0)]) hx hb (dc d_X9_findBest 4 rfl) hl (by decide) rfl (fun ls hl => ?_)
  exact L8  n t_best t_bestWorst t_known t_tried q1 t_trial_bends t_trial_laid t_trial_across t_trial_along (0 : Int32) _ _ _ hw (lv_sub hl [1, 2, 3, 0] rfl) hf
set_option maxHeartbeats 4000000 in
set_option maxRecDepth 100000 in
theorem k_X10_put (n : Nat) {l : Launch} {D : va_G} {cI cC cZ : ClassId} {tq0 tq1 tq2 : Nat} {t_heights : Nat → Int32} {t_hung : Nat → Int32} {x1 : Int32} {x2 : Int32} {o : Int32 × (Nat → Int32) × (Nat → Int32)} (hf : f_X10_put n t_heights t_hung x1 x2 = some o) : Ctr l yX10_put cX10_put 5 (some .int) 1 24 D cI cC cZ [.ref tq0, .int x1, .int x2] (w_X10 cI cC cZ tq0 tq1 tq2 t_heights t_hung) (w_X10 cI cC cZ tq0 tq1 tq2 o.2.1 o.2.2) (some (.int o.1)) := by
  refine Ctr.of (by decide) (Nat.le_of_ble_eq_true rfl) ?_
  intro p e s m args below meth c ls A Q hA hQ C hl hw
  have hx := C.1
  have hb := C.2.1
  have hl : lv_has ls 5 [(0, .ref tq0), (1, .int x1), (2, .int x2)] := hl
  have L17 : ∀ (n : Nat), ∀ (t_heights : Nat → Int32) (t_hung : Nat → Int32) (v3 : Int32) (v4 : Int32) (H : Heap) (locs : List Loc) (ls : Array Slot), Wd D A s.heap (w_X10 cI cC cZ tq0 tq1 tq2 t_heights t_hung) H locs → lv_has ls 5 [(0, .ref tq0), (3, .int v3), (4, .int v4)] → f_X10_put_17  n t_heights t_hung v3 v4 = some o → W p l e (rmOf 1 24) s m args below meth c H locs 0 0 Q (F0 m 17 ls []) := by
    intro  n
    induction n with
    | zero => intro t_heights t_hung v3 v4 H locs ls hw hl hf; exact (no_none hf).elim
    | succ n ih =>
      intro t_heights t_hung v3 v4 H locs ls hw hl hf
      have hf : f_X10_put_17b  (f_X10_put_17  n) n t_heights t_hung v3 v4 = some o := hf
      generalize f_X10_put_17  n = k17 at hf ih
      refine lv_iload hx hb (dc d_X10_put 12 rfl) (lv_at hl 2 rfl) ?_
      refine lv_bipush (v := (36 : Int32)) hx hb (dc d_X10_put 13 rfl) (by decide) ?_
      refine lv_icmp_ge (tgt := 46) hx hb (dc d_X10_put 14 rfl) (by decide) (fun c2 => ?_) (fun c2 => ?_)
      · have hf := g_t hf c2
        refine lv_iload_n hx hb (dc d_X10_put 25 rfl) rfl (lv_at hl 1 rfl) ?_
        cases hf
        exact x_iret C hA hQ hw rfl rfl (dc d_X10_put 26 rfl)
      · have hf := g_f hf c2
        refine lv_aload_n hx hb (dc d_X10_put 15 rfl) rfl (lv_at hl 0 rfl) ?_
        refine x_get C hw fl_X10_15 0 rfl rfl (dc d_X10_put 16 rfl) ?_
        refine lv_iload hx hb (dc d_X10_put 17 rfl) (lv_at hl 2 rfl) ?_
        refine lv_aload_n hx hb (dc d_X10_put 18 rfl) rfl (lv_at hl 0 rfl) ?_
        refine x_get C hw fl_X10_9 0 rfl rfl (dc d_X10_put 19 rfl) ?_
        refine lv_iload hx hb (dc d_X10_put 20 rfl) (lv_at hl 2 rfl) ?_
        obtain ⟨q3, hq3, hf⟩ := g_bd hf
        refine x_callSN C hw mb_X11_hungAt ms_X11_hungAt ml_X10_18 (k_X11_hungAt n hq3) hl.1 rfl rfl [1] rfl rfl rfl (Nat.le_of_ble_eq_true rfl) (Nat.le_of_ble_eq_true rfl) (Nat.le_of_ble_eq_true rfl) (dc d_X10_put 21 rfl) (fun H locs hw => ?_)
        refine W.eq (g2 := F0 m 39 ls [.int q3, .int v4, .ref tq2]) rfl ?_
        dsimp only [w_X10, w_aI36, mix, List.set_cons_succ, List.set_cons_zero] at hw
        have hw : Wd D A s.heap (w_X10 cI cC cZ tq0 tq1 tq2 t_heights t_hung) H locs := hw
        have hi := grd_b hf
        have hf := grd_x hf
        refine x_iast C hw 2 rfl hi (dc d_X10_put 22 rfl) (fun H locs hw => ?_)
        dsimp only [w_X10, mix, List.set_cons_succ, List.set_cons_zero] at hw
        have hw : Wd D A s.heap (w_X10 cI cC cZ tq0 tq1 tq2 t_heights (upd t_hung v4.toNatClampNeg q3)) H locs := hw
        refine lv_iinc (v := (v4 + (1 : Int32))) (lv' := [(4, .int (v4 + (1 : Int32))), (0, .ref tq0), (3, .int v3)]) hx hb (dc d_X10_put 23 rfl) hl (k := 2) rfl (ii (by decide)) (by decide) rfl (fun ls hl => ?_)
        refine lv_goto (tgt := 17) hx hb (dc d_X10_put 24 rfl) (by decide) ?_
        exact ih t_heights (upd t_hung v4.toNatClampNeg q3) v3 (v4 + (1 : Int32)) _ _ _ hw (lv_sub hl [1, 2, 0] rfl) hf
  refine lv_aload_n hx hb (dc d_X10_put 0 rfl) rfl (lv_at hl 0 rfl) ?_
  refine x_get C hw fl_X10_9 0 rfl rfl (dc d_X10_put 1 rfl) ?_
  refine lv_iload_n hx hb (dc d_X10_put 2 rfl) rfl (lv_at hl 1 rfl) ?_
  have hi := grd_b hf
  have hf := grd_x hf
  refine x_iald C hw 1 rfl hi (dc d_X10_put 3 rfl) ?_
  refine lv_topi (fun y1 ey1 => ?_)
  have hf := g_nm hf ey1
  refine lv_istore_n (lv' := [(3, .int y1), (0, .ref tq0), (1, .int x1), (2, .int x2)]) hx hb (dc d_X10_put 4 rfl) rfl hl (by decide) rfl (fun ls hl => ?_)
  refine lv_aload_n hx hb (dc d_X10_put 5 rfl) rfl (lv_at hl 1 rfl) ?_
  refine x_get C hw fl_X10_9 0 rfl rfl (dc d_X10_put 6 rfl) ?_
  refine lv_iload_n hx hb (dc d_X10_put 7 rfl) rfl (lv_at hl 2 rfl) ?_
  refine lv_iload_n hx hb (dc d_X10_put 8 rfl) rfl (lv_at hl 3 rfl) ?_
  have hi := grd_b hf
  have hf := grd_x hf
  refine x_iast C hw 1 rfl hi (dc d_X10_put 9 rfl) (fun H locs hw => ?_)
  dsimp only [w_X10, mix, List.set_cons_succ, List.set_cons_zero] at hw
  have hw : Wd D A s.heap (w_X10 cI cC cZ tq0 tq1 tq2 (upd t_heights x1.toNatClampNeg x2) t_hung) H locs := hw
  refine lv_iconst (v := (0 : Int32)) hx hb (dc d_X10_put 10 rfl) (by decide) ?_
  refine lv_istore (lv' := [(4, .int (0 : Int32)), (3, .int y1), (0, .ref tq0), (1, .int x1), (2, .int x2)]) hx hb (dc d_X10_put 11 rfl) hl (by decide) rfl (fun ls hl => ?_)
  exact L17  n (upd t_heights x1.toNatClampNeg x2) t_hung y1 (0 : Int32) _ _ _ hw (lv_sub hl [2, 1, 0] rfl) hf
set_option maxHeartbeats 4000000 in
set_option maxRecDepth 100000 in
theorem k_X10_twistAt (n : Nat) {l : Launch} {D : va_G} {cI cC cZ : ClassId} {tq0 tq1 tq2 : Nat} {t_heights : Nat → Int32} {t_hung : Nat → Int32} {x1 : Int32} {o : Int32} (hf : f_X10_twistAt n t_heights x1 = some o) : Ctr l yX10_twistAt cX10_twistAt 2 (some .int) 0 0 D cI cC cZ [.ref tq0, .int x1] (w_X10 cI cC cZ tq0 tq1 tq2 t_heights t_hung) (w_X10 cI cC cZ tq0 tq1 tq2 t_heights t_hung) (some (.int o)) := by
  refine Ctr.of (by decide) (Nat.le_of_ble_eq_true rfl) ?_
  intro p e s m args below meth c ls A Q hA hQ C hl hw
  have hx := C.1
  have hb := C.2.1
  have hl : lv_has ls 2 [(0, .ref tq0), (1, .int x1)] := hl
  refine lv_aload_n hx hb (dc d_X10_twistAt 0 rfl) rfl (lv_at hl 0 rfl) ?_
  refine x_get C hw fl_X10_9 0 rfl rfl (dc d_X10_twistAt 1 rfl) ?_
  refine lv_iload_n hx hb (dc d_X10_twistAt 2 rfl) rfl (lv_at hl 1 rfl) ?_
  have hi := grd_b hf
  have hf := grd_x hf
  refine x_iald C hw 1 rfl hi (dc d_X10_twistAt 3 rfl) ?_
  refine lv_aload_n hx hb (dc d_X10_twistAt 4 rfl) rfl (lv_at hl 0 rfl) ?_
  refine x_get C hw fl_X10_9 0 rfl rfl (dc d_X10_twistAt 5 rfl) ?_
  refine lv_iload_n hx hb (dc d_X10_twistAt 6 rfl) rfl (lv_at hl 1 rfl) ?_
  refine lv_iconst (v := (1 : Int32)) hx hb (dc d_X10_twistAt 7 rfl) (by decide) ?_
  refine lv_iadd hx hb (dc d_X10_twistAt 8 rfl) ?_
  have hi := grd_b hf
  have hf := grd_x hf
  refine x_iald C hw 1 rfl hi (dc d_X10_twistAt 9 rfl) ?_
  refine lv_isub hx hb (dc d_X10_twistAt 10 rfl) ?_
  refine lv_aload_n hx hb (dc d_X10_twistAt 11 rfl) rfl (lv_at hl 0 rfl) ?_
  refine x_get C hw fl_X10_9 0 rfl rfl (dc d_X10_twistAt 12 rfl) ?_
  refine lv_iload_n hx hb (dc d_X10_twistAt 13 rfl) rfl (lv_at hl 1 rfl) ?_
  refine lv_bipush (v := (6 : Int32)) hx hb (dc d_X10_twistAt 14 rfl) (by decide) ?_
  refine lv_iadd hx hb (dc d_X10_twistAt 15 rfl) ?_
  have hi := grd_b hf
  have hf := grd_x hf
  refine x_iald C hw 1 rfl hi (dc d_X10_twistAt 16 rfl) ?_
  refine lv_isub hx hb (dc d_X10_twistAt 17 rfl) ?_
  refine lv_aload_n hx hb (dc d_X10_twistAt 18 rfl) rfl (lv_at hl 0 rfl) ?_
  refine x_get C hw fl_X10_9 0 rfl rfl (dc d_X10_twistAt 19 rfl) ?_
  refine lv_iload_n hx hb (dc d_X10_twistAt 20 rfl) rfl (lv_at hl 1 rfl) ?_
  refine lv_bipush (v := (6 : Int32)) hx hb (dc d_X10_twistAt 21 rfl) (by decide) ?_
  refine lv_iadd hx hb (dc d_X10_twistAt 22 rfl) ?_
  refine lv_iconst (v := (1 : Int32)) hx hb (dc d_X10_twistAt 23 rfl) (by decide) ?_
  refine lv_iadd hx hb (dc d_X10_twistAt 24 rfl) ?_
  have hi := grd_b hf
  have hf := grd_x hf
  refine x_iald C hw 1 rfl hi (dc d_X10_twistAt 25 rfl) ?_
  refine lv_iadd hx hb (dc d_X10_twistAt 26 rfl) ?_
  cases hf
  exact x_iret C hA hQ hw rfl rfl (dc d_X10_twistAt 27 rfl)
set_option maxHeartbeats 4000000 in
set_option maxRecDepth 100000 in
theorem k_X11_isField (n : Nat) {l : Launch} {D : va_G} {cI cC cZ : ClassId}   {x0 : Int32} {o : Int32} (hf : f_X11_isField n x0 = some o) : Ctr l yX11_isField cX11_isField 1 (some .boolean) 0 0 D cI cC cZ [.int x0] [] [] (some (.int o)) := by
  refine Ctr.of (by decide) (Nat.le_of_ble_eq_true rfl) ?_
  intro p e s m args below meth c ls A Q hA hQ C hl hw
  have hx := C.1
  have hb := C.2.1
  have hl : lv_has ls 1 [(0, .int x0)] := hl
  refine lv_iload_n hx hb (dc d_X11_isField 0 rfl) rfl (lv_at hl 0 rfl) ?_
  refine lv_bipush (v := (6 : Int32)) hx hb (dc d_X11_isField 1 rfl) (by decide) ?_
  refine x_rem hx hb (dc d_X11_isField 2 rfl) (by decide) ?_
  refine lv_iconst (v := (5 : Int32)) hx hb (dc d_X11_isField 3 rfl) (by decide) ?_
  refine lv_icmp_ge (tgt := 20) hx hb (dc d_X11_isField 4 rfl) (by decide) (fun c1 => ?_) (fun c1 => ?_)
  · have hf := g_t hf c1
    refine lv_iconst (v := (0 : Int32)) hx hb (dc d_X11_isField 12 rfl) (by decide) ?_
    cases hf
    exact x_zret C hA hQ hw rfl rfl (by decide) (dc d_X11_isField 13 rfl)
  · have hf := g_f hf c1
    refine lv_iload_n hx hb (dc d_X11_isField 5 rfl) rfl (lv_at hl 0 rfl) ?_
    refine lv_bipush (v := (6 : Int32)) hx hb (dc d_X11_isField 6 rfl) (by decide) ?_
    refine x_div hx hb (dc d_X11_isField 7 rfl) (by decide) ?_
    refine lv_iconst (v := (5 : Int32)) hx hb (dc d_X11_isField 8 rfl) (by decide) ?_
    refine lv_icmp_ge (tgt := 20) hx hb (dc d_X11_isField 9 rfl) (by decide) (fun c2 => ?_) (fun c2 => ?_)
    · have hf := g_t hf c2
      refine lv_iconst (v := (0 : Int32)) hx hb (dc d_X11_isField 12 rfl) (by decide) ?_
      cases hf
      exact x_zret C hA hQ hw rfl rfl (by decide) (dc d_X11_isField 13 rfl)
    · have hf := g_f hf c2
      refine lv_iconst (v := (1 : Int32)) hx hb (dc d_X11_isField 10 rfl) (by decide) ?_
      refine lv_goto (tgt := 21) hx hb (dc d_X11_isField 11 rfl) (by decide) ?_
      cases hf
      exact x_zret C hA hQ hw rfl rfl (by decide) (dc d_X11_isField 13 rfl)
set_option maxHeartbeats 4000000 in
set_option maxRecDepth 100000 in
theorem k_X10_greatestTwist (n : Nat) {l : Launch} {D : va_G} {cI cC cZ : ClassId} {tq0 tq1 tq2 : Nat} {t_heights : Nat → Int32} {t_hung : Nat → Int32}  {o : Int32} (hf : f_X10_greatestTwist n t_heights = some o) : Ctr l yX10_greatestTwist cX10_greatestTwist 3 (some .int) 1 21 D cI cC cZ [.ref tq0] (w_X10 cI cC cZ tq0 tq1 tq2 t_heights t_hung) (w_X10 cI cC cZ tq0 tq1 tq2 t_heights t_hung) (some (.int o)) := by
  refine Ctr.of (by decide) (Nat.le_of_ble_eq_true rfl) ?_
  intro p e s m args below meth c ls A Q hA hQ C hl hw
  have hx := C.1
  have hb := C.2.1
  have hl : lv_has ls 3 [(0, .ref tq0)] := hl
  have L4 : ∀ (n : Nat), ∀ (v1 : Int32) (v2 : Int32) (H : Heap) (locs : List Loc) (ls : Array Slot), Wd D A s.heap (w_X10 cI cC cZ tq0 tq1 tq2 t_heights t_hung) H locs → lv_has ls 3 [(0, .ref tq0), (1, .int v1), (2, .int v2)] → f_X10_greatestTwist_4 t_heights  n v1 v2 = some o → W p l e (rmOf 1 21) s m args below meth c H locs 0 0 Q (F0 m 4 ls []) := by
    intro  n
    induction n with
    | zero => intro v1 v2 H locs ls hw hl hf; exact (no_none hf).elim
    | succ n ih =>
      intro v1 v2 H locs ls hw hl hf
      have hf : f_X10_greatestTwist_4b t_heights  (f_X10_greatestTwist_4 t_heights  n) n v1 v2 = some o := hf
      generalize f_X10_greatestTwist_4 t_heights  n = k4 at hf ih
      refine lv_iload_n hx hb (dc d_X10_greatestTwist 4 rfl) rfl (lv_at hl 2 rfl) ?_
      refine lv_bipush (v := (36 : Int32)) hx hb (dc d_X10_greatestTwist 5 rfl) (by decide) ?_
      refine lv_icmp_ge (tgt := 36) hx hb (dc d_X10_greatestTwist 6 rfl) (by decide) (fun c1 => ?_) (fun c1 => ?_)
      · have hf := g_t hf c1
        refine lv_iload_n hx hb (dc d_X10_greatestTwist 19 rfl) rfl (lv_at hl 1 rfl) ?_
        cases hf
        exact x_iret C hA hQ hw rfl rfl (dc d_X10_greatestTwist 20 rfl)
      · have hf := g_f hf c1
        refine lv_iload_n hx hb (dc d_X10_greatestTwist 7 rfl) rfl (lv_at hl 2 rfl) ?_
        obtain ⟨q2, hq2, hf⟩ := g_bd hf
        refine x_callSN C hw mb_X11_isField ms_X11_isField ml_X10_22 (k_X11_isField n hq2) hl.1 rfl rfl [] rfl rfl rfl (Nat.le_of_ble_eq_true rfl) (Nat.le_of_ble_eq_true rfl) (Nat.le_of_ble_eq_true rfl) (dc d_X10_greatestTwist 8 rfl) (fun H locs hw => ?_)
        refine W.eq (g2 := F0 m 14 ls [.int q2]) rfl ?_
        have hw : Wd D A s.heap (w_X10 cI cC cZ tq0 tq1 tq2 t_heights t_hung) H locs := hw
        refine lv_if_eq (tgt := 30) hx hb (dc d_X10_greatestTwist 9 rfl) (by decide) (fun c3 => ?_) (fun c3 => ?_)
        · have hf := g_t hf c3
          refine lv_iinc (v := (v2 + (1 : Int32))) (lv' := [(2, .int (v2 + (1 : Int32))), (0, .ref tq0), (1, .int v1)]) hx hb (dc d_X10_greatestTwist 17 rfl) hl (k := 2) rfl (ii (by decide)) (by decide) rfl (fun ls hl => ?_)
          refine lv_goto (tgt := 4) hx hb (dc d_X10_greatestTwist 18 rfl) (by decide) ?_
          exact ih v1 (v2 + (1 : Int32)) _ _ _ hw (lv_sub hl [1, 2, 0] rfl) hf
        · have hf := g_f hf c3
          refine lv_iload_n hx hb (dc d_X10_greatestTwist 10 rfl) rfl (lv_at hl 1 rfl) ?_
          refine lv_aload_n hx hb (dc d_X10_greatestTwist 11 rfl) rfl (lv_at hl 0 rfl) ?_
          refine lv_iload_n hx hb (dc d_X10_greatestTwist 12 rfl) rfl (lv_at hl 2 rfl) ?_
          obtain ⟨q4, hq4, hf⟩ := g_bd hf
          refine x_callVa C hw mb_X10_twistAt mv_X10_twistAt ml_X10_26 (k_X10_twistAt n hq4) hl.1 rfl rfl rfl 0 10 rfl rfl (Nat.le_of_ble_eq_true rfl) (Nat.le_of_ble_eq_true rfl) (Nat.le_of_ble_eq_true rfl) (dc d_X10_greatestTwist 13 rfl) (fun H locs hw => ?_)
          refine W.eq (g2 := F0 m 23 ls [.int q4, .int v1]) rfl ?_
          have hw : Wd D A s.heap (w_X10 cI cC cZ tq0 tq1 tq2 t_heights t_hung) H locs := hw
          refine x_abs C hl.1 ml_X10_30 ms_J9_abs_0f7a4 in_java_lang_Math cd_Lib_Math_abs (Nat.le_of_ble_eq_true rfl) (Nat.le_of_ble_eq_true rfl) (dc d_X10_greatestTwist 14 rfl) ?_
          refine x_max C hl.1 ml_X10_35 ms_J9_max_7cf53 in_java_lang_Math cd_Lib_Math_max (Nat.le_of_ble_eq_true rfl) (Nat.le_of_ble_eq_true rfl) (dc d_X10_greatestTwist 15 rfl) ?_
          refine lv_topi (fun y5 ey5 => ?_)
          have hf := g_nm hf ey5
          refine lv_istore_n (lv' := [(1, .int y5), (0, .ref tq0), (2, .int v2)]) hx hb (dc d_X10_greatestTwist 16 rfl) rfl hl (by decide) rfl (fun ls hl => ?_)
          refine lv_iinc (v := (v2 + (1 : Int32))) (lv' := [(2, .int (v2 + (1 : Int32))), (1, .int y5), (0, .ref tq0)]) hx hb (dc d_X10_greatestTwist 17 rfl) hl (k := 2) rfl (ii (by decide)) (by decide) rfl (fun ls hl => ?_)
          refine lv_goto (tgt := 4) hx hb (dc d_X10_greatestTwist 18 rfl) (by decide) ?_
          exact ih y5 (v2 + (1 : Int32)) _ _ _ hw (lv_sub hl [2, 1, 0] rfl) hf
  refine lv_iconst (v := (0 : Int32)) hx hb (dc d_X10_greatestTwist 0 rfl) (by decide) ?_
  refine lv_istore_n (lv' := [(1, .int (0 : Int32)), (0, .ref tq0)]) hx hb (dc d_X10_greatestTwist 1 rfl) rfl hl (by decide) rfl (fun ls hl => ?_)
  refine lv_iconst (v := (0 : Int32)) hx hb (dc d_X10_greatestTwist 2 rfl) (by decide) ?_
  refine lv_istore_n (lv' := [(2, .int (0 : Int32)), (1, .int (0 : Int32)), (0, .ref tq0)]) hx hb (dc d_X10_greatestTwist 3 rfl) rfl hl (by decide) rfl (fun ls hl => ?_)
  exact L4  n (0 : Int32) (0 : Int32) _ _ _ hw (lv_sub hl [2, 1, 0] rfl) hf
set_option maxHeartbeats 4000000 in
set_option maxRecDepth 100000 in
theorem k_X11_say (n : Nat) {l : Launch} {D : va_G} {cI cC cZ : ClassId} {tq0 tq1 tq2 tq3 tq4 tq5 tq6 tq7 tq8 tq9 tq10 tq11 tq12 tq13 tq14 tq15 tq16 tq17 tq18 tq19 tq20 tq21 tq22 tq23 tq24 tq25 tq26 tq27 tq28 tq29 tq30 tq31 tq32 tq33 tq34 tq35 tq36 tq37 tq38 tq39 tq40 tq41 tq42 tq43 tq44 tq45 tq46 tq47 tq48 tq49 tq50 tq51 : Nat} {t_orders_signs : Nat → Int32} {t_orders_count : Int32} {t_rules_settings : Nat → Int32} {t_rules_numbers : Nat → Int32} {t_work_room : Int32} {t_work_line : Nat → Int32} {t_work_strength : Nat → Int32} {t_work_water : Nat → Int32} {t_work_back : Nat → Int32} {t_work_count : Int32} {t_shape_bends : Nat → Int32} {t_shape_laid : Nat → Int32} {t_shape_across : Nat → Int32} {t_shape_along : Nat → Int32} {t_wished_heights : Nat → Int32} {t_wished_hung : Nat → Int32} {t_planner_items_room : Int32} {t_planner_items_line : Nat → Int32} {t_planner_items_strength : Nat → Int32} {t_planner_items_water : Nat → Int32} {t_planner_items_back : Nat → Int32} {t_planner_items_count : Int32} {t_planner_trial_bends : Nat → Int32} {t_planner_trial_laid : Nat → Int32} {t_planner_trial_across : Nat → Int32} {t_planner_trial_along : Nat → Int32} {t_planner_found : Int32} {t_planner_foundWorst : Int32} {t_gauges_heights : Nat → Int32} {t_gauges_isRead : Nat → Int32} {t_gauges_count : Int32} {t_gauges_bendSum : Int32} {t_gauges_bendPlaces : Int32} {t_spans_lower : Nat → Int32} {t_spans_upper : Nat → Int32} {t_welds_line : Nat → Int32} {t_welds_pull : Nat → Int32} {t_welds_best : Nat → Int32} {t_welds_count : Int32} {t_welds_bestWorst : Int32} {t_welds_known : Int32} {t_welds_tried : Nat → Int32} {t_welds_bent : Nat → Int32} {t_welds_trial_bends : Nat → Int32} {t_welds_trial_laid : Nat → Int32} {t_welds_trial_across : Nat → Int32} {t_welds_trial_along : Nat → Int32} {t_smiths_smithOf : Nat → Int32} {t_smiths_greatest : Int32} {t_smiths_knownFor : Int32} {t_smiths_times : Nat → Int32} {t_smiths_sums : Nat → Int32} {t_smiths_count : Int32} {t_fraction_upper : Int64} {t_fraction_lower : Int64} {x1 : Int32} {o : Int32 × (Nat → Int32) × Int32} (hf : f_X11_say n t_orders_signs t_orders_count x1 = some o) : Ctr l yX11_say cX11_say 2 (some .int) 1 21 D cI cC cZ [.ref tq0, .int x1] (w_X11 cI cC cZ tq0 tq1 tq2 tq3 tq4 tq5 tq6 tq7 tq8 tq9 tq10 tq11 tq12 tq13 tq14 tq15 tq16 tq17 tq18 tq19 tq20 tq21 tq22 tq23 tq24 tq25 tq26 tq27 tq28 tq29 tq30 tq31 tq32 tq33 tq34 tq35 tq36 tq37 tq38 tq39 tq40 tq41 tq42 tq43 tq44 tq45 tq46 tq47 tq48 tq49 tq50 tq51 t_orders_signs t_orders_count t_rules_settings t_rules_numbers t_work_room t_work_line t_work_strength t_work_water t_work_back t_work_count t_shape_bends t_shape_laid t_shape_across t_shape_along t_wished_heights t_wished_hung t_planner_items_room t_planner_items_line t_planner_items_strength t_planner_items_water t_planner_items_back t_planner_items_count t_planner_trial_bends t_planner_trial_laid t_planner_trial_across t_planner_trial_along t_planner_found t_planner_foundWorst t_gauges_heights t_gauges_isRead t_gauges_count t_gauges_bendSum t_gauges_bendPlaces t_spans_lower t_spans_upper t_welds_line t_welds_pull t_welds_best t_welds_count t_welds_bestWorst t_welds_known t_welds_tried t_welds_bent t_welds_trial_bends t_welds_trial_laid t_welds_trial_across t_welds_trial_along t_smiths_smithOf t_smiths_greatest t_smiths_knownFor t_smiths_times t_smiths_sums t_smiths_count t_fraction_upper t_fraction_lower) (w_X11 cI cC cZ tq0 tq1 tq2 tq3 tq4 tq5 tq6 tq7 tq8 tq9 tq10 tq11 tq12 tq13 tq14 tq15 tq16 tq17 tq18 tq19 tq20 tq21 tq22 tq23 tq24 tq25 tq26 tq27 tq28 tq29 tq30 tq31 tq32 tq33 tq34 tq35 tq36 tq37 tq38 tq39 tq40 tq41 tq42 tq43 tq44 tq45 tq46 tq47 tq48 tq49 tq50 tq51 o.2.1 o.2.2 t_rules_settings t_rules_numbers t_work_room t_work_line t_work_strength t_work_water t_work_back t_work_count t_shape_bends t_shape_laid t_shape_across t_shape_along t_wished_heights t_wished_hung t_planner_items_room t_planner_items_line t_planner_items_strength t_planner_items_water t_planner_items_back t_planner_items_count t_planner_trial_bends t_planner_trial_laid t_planner_trial_across t_planner_trial_along t_planner_found t_planner_foundWorst t_gauges_heights t_gauges_isRead t_gauges_count t_gauges_bendSum t_gauges_bendPlaces t_spans_lower t_spans_upper t_welds_line t_welds_pull t_welds_best t_welds_count t_welds_bestWorst t_welds_known t_welds_tried t_welds_bent t_welds_trial_bends t_welds_trial_laid t_welds_trial_across t_welds_trial_along t_smiths_smithOf t_smiths_greatest t_smiths_knownFor t_smiths_times t_smiths_sums t_smiths_count t_fraction_upper t_fraction_lower) (some (.int o.1)) := by
  refine Ctr.of (by decide) (Nat.le_of_ble_eq_true rfl) ?_
  intro p e s m args below meth c ls A Q hA hQ C hl hw
  have hx := C.1
  have hb := C.2.1
  have hl : lv_has ls 2 [(0, .ref tq0), (1, .int x1)] := hl
  refine lv_iload_n hx hb (dc d_X11_say 0 rfl) rfl (lv_at hl 1 rfl) ?_
  refine lv_bipush (v := (33 : Int32)) hx hb (dc d_X11_say 1 rfl) (by decide) ?_
  refine lv_icmp_lt (tgt := 12) hx hb (dc d_X11_say 2 rfl) (by decide) (fun c1 => ?_) (fun c1 => ?_)
  · have hf := g_t hf c1
    refine lv_bipush (v := (-2 : Int32)) hx hb (dc d_X11_say 6 rfl) (by decide) ?_
    cases hf
    exact x_iret C hA hQ hw rfl rfl (dc d_X11_say 7 rfl)
  · have hf := g_f hf c1
    refine lv_iload_n hx hb (dc d_X11_say 3 rfl) rfl (lv_at hl 1 rfl) ?_
    refine lv_bipush (v := (126 : Int32)) hx hb (dc d_X11_say 4 rfl) (by decide) ?_
    refine lv_icmp_le (tgt := 15) hx hb (dc d_X11_say 5 rfl) (by decide) (fun c2 => ?_) (fun c2 => ?_)
    · have hf := g_t hf c2
      refine lv_aload_n hx hb (dc d_X11_say 8 rfl) rfl (lv_at hl 0 rfl) ?_
      refine x_get C hw fl_X11_10 0 rfl rfl (dc d_X11_say 9 rfl) ?_
      refine lv_iload_n hx hb (dc d_X11_say 10 rfl) rfl (lv_at hl 1 rfl) ?_
      obtain ⟨q3, hq3, hf⟩ := g_bd hf
      refine x_callV C hw mb_X2_add mv_X2_add ml_X11_88 (k_X2_add n hq3) hl.1 rfl rfl [1, 2] rfl rfl rfl 1 2 rfl rfl (Nat.le_of_ble_eq_true rfl) (Nat.le_of_ble_eq_true rfl) (Nat.le_of_ble_eq_true rfl) (dc d_X11_say 11 rfl) (fun H locs hw => ?_)
      refine W.eq (g2 := F0 m 23 ls [.int q3.1]) rfl ?_
      dsimp only [w_X11, w_X2, mix, List.set_cons_succ, List.set_cons_zero] at hw
      have hw : Wd D A s.heap (w_X11 cI cC cZ tq0 tq1 tq2 tq3 tq4 tq5 tq6 tq7 tq8 tq9 tq10 tq11 tq12 tq13 tq14 tq15 tq16 tq17 tq18 tq19 tq20 tq21 tq22 tq23 tq24 tq25 tq26 tq27 tq28 tq29 tq30 tq31 tq32 tq33 tq34 tq35 tq36 tq37 tq38 tq39 tq40 tq41 tq42 tq43 tq44 tq45 tq46 tq47 tq48 tq49 tq50 tq51 q3.2.1 q3.2.2 t_rules_settings t_rules_numbers t_work_room t_work_line t_work_strength t_work_water t_work_back t_work_count t_shape_bends t_shape_laid t_shape_across t_shape_along t_wished_heights t_wished_hung t_planner_items_room t_planner_items_line t_planner_items_strength t_planner_items_water t_planner_items_back t_planner_items_count t_planner_trial_bends t_planner_trial_laid t_planner_trial_across t_planner_trial_along t_planner_found t_planner_foundWorst t_gauges_heights t_gauges_isRead t_gauges_count t_gauges_bendSum t_gauges_bendPlaces t_spans_lower t_spans_upper t_welds_line t_welds_pull t_welds_best t_welds_count t_welds_bestWorst t_welds_known t_welds_tried t_welds_bent t_welds_trial_bends t_welds_trial_laid t_welds_trial_across t_welds_trial_along t_smiths_smithOf t_smiths_greatest t_smiths_knownFor t_smiths_times t_smiths_sums t_smiths_count t_fraction_upper t_fraction_lower) H locs := hw
      refine lv_if_eq (tgt := 36) hx hb (dc d_X11_say 12 rfl) (by decide) (fun c4 => ?_) (fun c4 => ?_)
      · have hf := g_t hf c4
        refine lv_bipush (v := (-4 : Int32)) hx hb (dc d_X11_say 17 rfl) (by decide) ?_
        cases hf
        exact x_iret C hA hQ hw rfl rfl (dc d_X11_say 18 rfl)
      · have hf := g_f hf c4
        refine lv_aload_n hx hb (dc d_X11_say 13 rfl) rfl (lv_at hl 0 rfl) ?_
        refine x_get C hw fl_X11_10 0 rfl rfl (dc d_X11_say 14 rfl) ?_
        refine x_get C hw fl_X11_92 1 rfl rfl (dc d_X11_say 15 rfl) ?_
        refine lv_goto (tgt := 38) hx hb (dc d_X11_say 16 rfl) (by decide) ?_
        cases hf
        exact x_iret C hA hQ hw rfl rfl (dc d_X11_say 18 rfl)
    · have hf := g_f hf c2
      refine lv_bipush (v := (-2 : Int32)) hx hb (dc d_X11_say 6 rfl) (by decide) ?_
      cases hf
      exact x_iret C hA hQ hw rfl rfl (dc d_X11_say 7 rfl)
set_option maxHeartbeats 4000000 in
set_option maxRecDepth 100000 in
theorem k_X11_wipe (n : Nat) {l : Launch} {D : va_G} {cI cC cZ : ClassId} {tq0 tq1 tq2 tq3 tq4 tq5 tq6 tq7 tq8 tq9 tq10 tq11 tq12 tq13 tq14 tq15 tq16 tq17 tq18 tq19 tq20 tq21 tq22 tq23 tq24 tq25 tq26 tq27 tq28 tq29 tq30 tq31 tq32 tq33 tq34 tq35 tq36 tq37 tq38 tq39 tq40 tq41 tq42 tq43 tq44 tq45 tq46 tq47 tq48 tq49 tq50 tq51 : Nat} {t_orders_signs : Nat → Int32} {t_orders_count : Int32} {t_rules_settings : Nat → Int32} {t_rules_numbers : Nat → Int32} {t_work_room : Int32} {t_work_line : Nat → Int32} {t_work_strength : Nat → Int32} {t_work_water : Nat → Int32} {t_work_back : Nat → Int32} {t_work_count : Int32} {t_shape_bends : Nat → Int32} {t_shape_laid : Nat → Int32} {t_shape_across : Nat → Int32} {t_shape_along : Nat → Int32} {t_wished_heights : Nat → Int32} {t_wished_hung : Nat → Int32} {t_planner_items_room : Int32} {t_planner_items_line : Nat → Int32} {t_planner_items_strength : Nat → Int32} {t_planner_items_water : Nat → Int32} {t_planner_items_back : Nat → Int32} {t_planner_items_count : Int32} {t_planner_trial_bends : Nat → Int32} {t_planner_trial_laid : Nat → Int32} {t_planner_trial_across : Nat → Int32} {t_planner_trial_along : Nat → Int32} {t_planner_found : Int32} {t_planner_foundWorst : Int32} {t_gauges_heights : Nat → Int32} {t_gauges_isRead : Nat → Int32} {t_gauges_count : Int32} {t_gauges_bendSum : Int32} {t_gauges_bendPlaces : Int32} {t_spans_lower : Nat → Int32} {t_spans_upper : Nat → Int32} {t_welds_line : Nat → Int32} {t_welds_pull : Nat → Int32} {t_welds_best : Nat → Int32} {t_welds_count : Int32} {t_welds_bestWorst : Int32} {t_welds_known : Int32} {t_welds_tried : Nat → Int32} {t_welds_bent : Nat → Int32} {t_welds_trial_bends : Nat → Int32} {t_welds_trial_laid : Nat → Int32} {t_welds_trial_across : Nat → Int32} {t_welds_trial_along : Nat → Int32} {t_smiths_smithOf : Nat → Int32} {t_smiths_greatest : Int32} {t_smiths_knownFor : Int32} {t_smiths_times : Nat → Int32} {t_smiths_sums : Nat → Int32} {t_smiths_count : Int32} {t_fraction_upper : Int64} {t_fraction_lower : Int64}  {o : Int32 × Int32} (hf : f_X11_wipe n t_orders_count = some o) : Ctr l yX11_wipe cX11_wipe 2 (some .int) 0 0 D cI cC cZ [.ref tq0] (w_X11 cI cC cZ tq0 tq1 tq2 tq3 tq4 tq5 tq6 tq7 tq8 tq9 tq10 tq11 tq12 tq13 tq14 tq15 tq16 tq17 tq18 tq19 tq20 tq21 tq22 tq23 tq24 tq25 tq26 tq27 tq28 tq29 tq30 tq31 tq32 tq33 tq34 tq35 tq36 tq37 tq38 tq39 tq40 tq41 tq42 tq43 tq44 tq45 tq46 tq47 tq48 tq49 tq50 tq51 t_orders_signs t_orders_count t_rules_settings t_rules_numbers t_work_room t_work_line t_work_strength t_work_water t_work_back t_work_count t_shape_bends t_shape_laid t_shape_across t_shape_along t_wished_heights t_wished_hung t_planner_items_room t_planner_items_line t_planner_items_strength t_planner_items_water t_planner_items_back t_planner_items_count t_planner_trial_bends t_planner_trial_laid t_planner_trial_across t_planner_trial_along t_planner_found t_planner_foundWorst t_gauges_heights t_gauges_isRead t_gauges_count t_gauges_bendSum t_gauges_bendPlaces t_spans_lower t_spans_upper t_welds_line t_welds_pull t_welds_best t_welds_count t_welds_bestWorst t_welds_known t_welds_tried t_welds_bent t_welds_trial_bends t_welds_trial_laid t_welds_trial_across t_welds_trial_along t_smiths_smithOf t_smiths_greatest t_smiths_knownFor t_smiths_times t_smiths_sums t_smiths_count t_fraction_upper t_fraction_lower) (w_X11 cI cC cZ tq0 tq1 tq2 tq3 tq4 tq5 tq6 tq7 tq8 tq9 tq10 tq11 tq12 tq13 tq14 tq15 tq16 tq17 tq18 tq19 tq20 tq21 tq22 tq23 tq24 tq25 tq26 tq27 tq28 tq29 tq30 tq31 tq32 tq33 tq34 tq35 tq36 tq37 tq38 tq39 tq40 tq41 tq42 tq43 tq44 tq45 tq46 tq47 tq48 tq49 tq50 tq51 t_orders_signs o.2 t_rules_settings t_rules_numbers t_work_room t_work_line t_work_strength t_work_water t_work_back t_work_count t_shape_bends t_shape_laid t_shape_across t_shape_along t_wished_heights t_wished_hung t_planner_items_room t_planner_items_line t_planner_items_strength t_planner_items_water t_planner_items_back t_planner_items_count t_planner_trial_bends t_planner_trial_laid t_planner_trial_across t_planner_trial_along t_planner_found t_planner_foundWorst t_gauges_heights t_gauges_isRead t_gauges_count t_gauges_bendSum t_gauges_bendPlaces t_spans_lower t_spans_upper t_welds_line t_welds_pull t_welds_best t_welds_count t_welds_bestWorst t_welds_known t_welds_tried t_welds_bent t_welds_trial_bends t_welds_trial_laid t_welds_trial_across t_welds_trial_along t_smiths_smithOf t_smiths_greatest t_smiths_knownFor t_smiths_times t_smiths_sums t_smiths_count t_fraction_upper t_fraction_lower) (some (.int o.1)) := by
  refine Ctr.of (by decide) (Nat.le_of_ble_eq_true rfl) ?_
  intro p e s m args below meth c ls A Q hA hQ C hl hw
  have hx := C.1
  have hb := C.2.1
  have hl : lv_has ls 2 [(0, .ref tq0)] := hl
  refine lv_aload_n hx hb (dc d_X11_wipe 0 rfl) rfl (lv_at hl 0 rfl) ?_
  refine x_get C hw fl_X11_10 0 rfl rfl (dc d_X11_wipe 1 rfl) ?_
  refine x_get C hw fl_X11_92 1 rfl rfl (dc d_X11_wipe 2 rfl) ?_
  refine lv_istore_n (lv' := [(1, .int t_orders_count), (0, .ref tq0)]) hx hb (dc d_X11_wipe 3 rfl) rfl hl (by decide) rfl (fun ls hl => ?_)
  refine lv_aload_n hx hb (dc d_X11_wipe 4 rfl) rfl (lv_at hl 1 rfl) ?_
  refine x_get C hw fl_X11_10 0 rfl rfl (dc d_X11_wipe 5 rfl) ?_
  refine lv_iconst (v := (0 : Int32)) hx hb (dc d_X11_wipe 6 rfl) (by decide) ?_
  refine x_put C hw fl_X11_92 fw_X2_1 1 rfl rfl rfl (Nat.le_of_ble_eq_true rfl) (dc d_X11_wipe 7 rfl) (fun H locs hw => ?_)
  dsimp only [w_X11, mix, List.set_cons_succ, List.set_cons_zero] at hw
  have hw : Wd D A s.heap (w_X11 cI cC cZ tq0 tq1 tq2 tq3 tq4 tq5 tq6 tq7 tq8 tq9 tq10 tq11 tq12 tq13 tq14 tq15 tq16 tq17 tq18 tq19 tq20 tq21 tq22 tq23 tq24 tq25 tq26 tq27 tq28 tq29 tq30 tq31 tq32 tq33 tq34 tq35 tq36 tq37 tq38 tq39 tq40 tq41 tq42 tq43 tq44 tq45 tq46 tq47 tq48 tq49 tq50 tq51 t_orders_signs (0 : Int32) t_rules_settings t_rules_numbers t_work_room t_work_line t_work_strength t_work_water t_work_back t_work_count t_shape_bends t_shape_laid t_shape_across t_shape_along t_wished_heights t_wished_hung t_planner_items_room t_planner_items_line t_planner_items_strength t_planner_items_water t_planner_items_back t_planner_items_count t_planner_trial_bends t_planner_trial_laid t_planner_trial_across t_planner_trial_along t_planner_found t_planner_foundWorst t_gauges_heights t_gauges_isRead t_gauges_count t_gauges_bendSum t_gauges_bendPlaces t_spans_lower t_spans_upper t_welds_line t_welds_pull t_welds_best t_welds_count t_welds_bestWorst t_welds_known t_welds_tried t_welds_bent t_welds_trial_bends t_welds_trial_laid t_welds_trial_across t_welds_trial_along t_smiths_smithOf t_smiths_greatest t_smiths_knownFor t_smiths_times t_smiths_sums t_smiths_count t_fraction_upper t_fraction_lower) H locs := hw
  refine lv_iload_n hx hb (dc d_X11_wipe 8 rfl) rfl (lv_at hl 0 rfl) ?_
  cases hf
  exact x_iret C hA hQ hw rfl rfl (dc d_X11_wipe 9 rfl)
set_option maxHeartbeats 4000000 in
set_option maxRecDepth 100000 in
theorem k_X11_fault (n : Nat) {l : Launch} {D : va_G} {cI cC cZ : ClassId} {tq0 tq1 tq2 tq3 tq4 tq5 tq6 tq7 tq8 tq9 tq10 tq11 tq12 tq13 tq14 tq15 tq16 tq17 tq18 tq19 tq20 tq21 tq22 tq23 tq24 tq25 tq26 tq27 tq28 tq29 tq30 tq31 tq32 tq33 tq34 tq35 tq36 tq37 tq38 tq39 tq40 tq41 tq42 tq43 tq44 tq45 tq46 tq47 tq48 tq49 tq50 tq51 : Nat} {t_orders_signs : Nat → Int32} {t_orders_count : Int32} {t_rules_settings : Nat → Int32} {t_rules_numbers : Nat → Int32} {t_work_room : Int32} {t_work_line : Nat → Int32} {t_work_strength : Nat → Int32} {t_work_water : Nat → Int32} {t_work_back : Nat → Int32} {t_work_count : Int32} {t_shape_bends : Nat → Int32} {t_shape_laid : Nat → Int32} {t_shape_across : Nat → Int32} {t_shape_along : Nat → Int32} {t_wished_heights : Nat → Int32} {t_wished_hung : Nat → Int32} {t_planner_items_room : Int32} {t_planner_items_line : Nat → Int32} {t_planner_items_strength : Nat → Int32} {t_planner_items_water : Nat → Int32} {t_planner_items_back : Nat → Int32} {t_planner_items_count : Int32} {t_planner_trial_bends : Nat → Int32} {t_planner_trial_laid : Nat → Int32} {t_planner_trial_across : Nat → Int32} {t_planner_trial_along : Nat → Int32} {t_planner_found : Int32} {t_planner_foundWorst : Int32} {t_gauges_heights : Nat → Int32} {t_gauges_isRead : Nat → Int32} {t_gauges_count : Int32} {t_gauges_bendSum : Int32} {t_gauges_bendPlaces : Int32} {t_spans_lower : Nat → Int32} {t_spans_upper : Nat → Int32} {t_welds_line : Nat → Int32} {t_welds_pull : Nat → Int32} {t_welds_best : Nat → Int32} {t_welds_count : Int32} {t_welds_bestWorst : Int32} {t_welds_known : Int32} {t_welds_tried : Nat → Int32} {t_welds_bent : Nat → Int32} {t_welds_trial_bends : Nat → Int32} {t_welds_trial_laid : Nat → Int32} {t_welds_trial_across : Nat → Int32} {t_welds_trial_along : Nat → Int32} {t_smiths_smithOf : Nat → Int32} {t_smiths_greatest : Int32} {t_smiths_knownFor : Int32} {t_smiths_times : Nat → Int32} {t_smiths_sums : Nat → Int32} {t_smiths_count : Int32} {t_fraction_upper : Int64} {t_fraction_lower : Int64}  {o : Int32} (hf : f_X11_fault n t_orders_signs t_orders_count = some o) : Ctr l yX11_fault cX11_fault 1 (some .int) 3 64 D cI cC cZ [.ref tq0] (w_X11 cI cC cZ tq0 tq1 tq2 tq3 tq4 tq5 tq6 tq7 tq8 tq9 tq10 tq11 tq12 tq13 tq14 tq15 tq16 tq17 tq18 tq19 tq20 tq21 tq22 tq23 tq24 tq25 tq26 tq27 tq28 tq29 tq30 tq31 tq32 tq33 tq34 tq35 tq36 tq37 tq38 tq39 tq40 tq41 tq42 tq43 tq44 tq45 tq46 tq47 tq48 tq49 tq50 tq51 t_orders_signs t_orders_count t_rules_settings t_rules_numbers t_work_room t_work_line t_work_strength t_work_water t_work_back t_work_count t_shape_bends t_shape_laid t_shape_across t_shape_along t_wished_heights t_wished_hung t_planner_items_room t_planner_items_line t_planner_items_strength t_planner_items_water t_planner_items_back t_planner_items_count t_planner_trial_bends t_planner_trial_laid t_planner_trial_across t_planner_trial_along t_planner_found t_planner_foundWorst t_gauges_heights t_gauges_isRead t_gauges_count t_gauges_bendSum t_gauges_bendPlaces t_spans_lower t_spans_upper t_welds_line t_welds_pull t_welds_best t_welds_count t_welds_bestWorst t_welds_known t_welds_tried t_welds_bent t_welds_trial_bends t_welds_trial_laid t_welds_trial_across t_welds_trial_along t_smiths_smithOf t_smiths_greatest t_smiths_knownFor t_smiths_times t_smiths_sums t_smiths_count t_fraction_upper t_fraction_lower) (w_X11 cI cC cZ tq0 tq1 tq2 tq3 tq4 tq5 tq6 tq7 tq8 tq9 tq10 tq11 tq12 tq13 tq14 tq15 tq16 tq17 tq18 tq19 tq20 tq21 tq22 tq23 tq24 tq25 tq26 tq27 tq28 tq29 tq30 tq31 tq32 tq33 tq34 tq35 tq36 tq37 tq38 tq39 tq40 tq41 tq42 tq43 tq44 tq45 tq46 tq47 tq48 tq49 tq50 tq51 t_orders_signs t_orders_count t_rules_settings t_rules_numbers t_work_room t_work_line t_work_strength t_work_water t_work_back t_work_count t_shape_bends t_shape_laid t_shape_across t_shape_along t_wished_heights t_wished_hung t_planner_items_room t_planner_items_line t_planner_items_strength t_planner_items_water t_planner_items_back t_planner_items_count t_planner_trial_bends t_planner_trial_laid t_planner_trial_across t_planner_trial_along t_planner_found t_planner_foundWorst t_gauges_heights t_gauges_isRead t_gauges_count t_gauges_bendSum t_gauges_bendPlaces t_spans_lower t_spans_upper t_welds_line t_welds_pull t_welds_best t_welds_count t_welds_bestWorst t_welds_known t_welds_tried t_welds_bent t_welds_trial_bends t_welds_trial_laid t_welds_trial_across t_welds_trial_along t_smiths_smithOf t_smiths_greatest t_smiths_knownFor t_smiths_times t_smiths_sums t_smiths_count t_fraction_upper t_fraction_lower) (some (.int o)) := by
  refine Ctr.of (by decide) (Nat.le_of_ble_eq_true rfl) ?_
  intro p e s m args below meth c ls A Q hA hQ C hl hw
  have hx := C.1
  have hb := C.2.1
  have hl : lv_has ls 1 [(0, .ref tq0)] := hl
  refine lv_aload_n hx hb (dc d_X11_fault 0 rfl) rfl (lv_at hl 0 rfl) ?_
  refine x_get C hw fl_X11_10 0 rfl rfl (dc d_X11_fault 1 rfl) ?_
  obtain ⟨q1, hq1, hf⟩ := g_bd hf
  refine x_callV C hw mb_X2_faultPlace mv_X2_faultPlace ml_X11_96 (k_X2_faultPlace n hq1) hl.1 rfl rfl [1, 2] rfl rfl rfl 1 2 rfl rfl (Nat.le_of_ble_eq_true rfl) (Nat.le_of_ble_eq_true rfl) (Nat.le_of_ble_eq_true rfl) (dc d_X11_fault 2 rfl) (fun H locs hw => ?_)
  refine W.eq (g2 := F0 m 7 ls [.int q1]) rfl ?_
  dsimp only [w_X11, w_X2, mix, List.set_cons_succ, List.set_cons_zero] at hw
  have hw : Wd D A s.heap (w_X11 cI cC cZ tq0 tq1 tq2 tq3 tq4 tq5 tq6 tq7 tq8 tq9 tq10 tq11 tq12 tq13 tq14 tq15 tq16 tq17 tq18 tq19 tq20 tq21 tq22 tq23 tq24 tq25 tq26 tq27 tq28 tq29 tq30 tq31 tq32 tq33 tq34 tq35 tq36 tq37 tq38 tq39 tq40 tq41 tq42 tq43 tq44 tq45 tq46 tq47 tq48 tq49 tq50 tq51 t_orders_signs t_orders_count t_rules_settings t_rules_numbers t_work_room t_work_line t_work_strength t_work_water t_work_back t_work_count t_shape_bends t_shape_laid t_shape_across t_shape_along t_wished_heights t_wished_hung t_planner_items_room t_planner_items_line t_planner_items_strength t_planner_items_water t_planner_items_back t_planner_items_count t_planner_trial_bends t_planner_trial_laid t_planner_trial_across t_planner_trial_along t_planner_found t_planner_foundWorst t_gauges_heights t_gauges_isRead t_gauges_count t_gauges_bendSum t_gauges_bendPlaces t_spans_lower t_spans_upper t_welds_line t_welds_pull t_welds_best t_welds_count t_welds_bestWorst t_welds_known t_welds_tried t_welds_bent t_welds_trial_bends t_welds_trial_laid t_welds_trial_across t_welds_trial_along t_smiths_smithOf t_smiths_greatest t_smiths_knownFor t_smiths_times t_smiths_sums t_smiths_count t_fraction_upper t_fraction_lower) H locs := hw
  cases hf
  exact x_iret C hA hQ hw rfl rfl (dc d_X11_fault 3 rfl)
set_option maxHeartbeats 4000000 in
set_option maxRecDepth 100000 in
theorem k_X11_workChanged (n : Nat) {l : Launch} {D : va_G} {cI cC cZ : ClassId} {tq0 tq1 tq2 tq3 tq4 tq5 tq6 tq7 tq8 tq9 tq10 tq11 tq12 tq13 tq14 tq15 tq16 tq17 tq18 tq19 tq20 tq21 tq22 tq23 tq24 tq25 tq26 tq27 tq28 tq29 tq30 tq31 tq32 tq33 tq34 tq35 tq36 tq37 tq38 tq39 tq40 tq41 tq42 tq43 tq44 tq45 tq46 tq47 tq48 tq49 tq50 tq51 : Nat} {t_orders_signs : Nat → Int32} {t_orders_count : Int32} {t_rules_settings : Nat → Int32} {t_rules_numbers : Nat → Int32} {t_work_room : Int32} {t_work_line : Nat → Int32} {t_work_strength : Nat → Int32} {t_work_water : Nat → Int32} {t_work_back : Nat → Int32} {t_work_count : Int32} {t_shape_bends : Nat → Int32} {t_shape_laid : Nat → Int32} {t_shape_across : Nat → Int32} {t_shape_along : Nat → Int32} {t_wished_heights : Nat → Int32} {t_wished_hung : Nat → Int32} {t_planner_items_room : Int32} {t_planner_items_line : Nat → Int32} {t_planner_items_strength : Nat → Int32} {t_planner_items_water : Nat → Int32} {t_planner_items_back : Nat → Int32} {t_planner_items_count : Int32} {t_planner_trial_bends : Nat → Int32} {t_planner_trial_laid : Nat → Int32} {t_planner_trial_across : Nat → Int32} {t_planner_trial_along : Nat → Int32} {t_planner_found : Int32} {t_planner_foundWorst : Int32} {t_gauges_heights : Nat → Int32} {t_gauges_isRead : Nat → Int32} {t_gauges_count : Int32} {t_gauges_bendSum : Int32} {t_gauges_bendPlaces : Int32} {t_spans_lower : Nat → Int32} {t_spans_upper : Nat → Int32} {t_welds_line : Nat → Int32} {t_welds_pull : Nat → Int32} {t_welds_best : Nat → Int32} {t_welds_count : Int32} {t_welds_bestWorst : Int32} {t_welds_known : Int32} {t_welds_tried : Nat → Int32} {t_welds_bent : Nat → Int32} {t_welds_trial_bends : Nat → Int32} {t_welds_trial_laid : Nat → Int32} {t_welds_trial_across : Nat → Int32} {t_welds_trial_along : Nat → Int32} {t_smiths_smithOf : Nat → Int32} {t_smiths_greatest : Int32} {t_smiths_knownFor : Int32} {t_smiths_times : Nat → Int32} {t_smiths_sums : Nat → Int32} {t_smiths_count : Int32} {t_fraction_upper : Int64} {t_fraction_lower : Int64}  {o : Int32 × Int32} (hf : f_X11_workChanged n t_welds_known t_smiths_knownFor = some o) : Ctr l yX11_workChanged cX11_workChanged 1 none 0 0 D cI cC cZ [.ref tq0] (w_X11 cI cC cZ tq0 tq1 tq2 tq3 tq4 tq5 tq6 tq7 tq8 tq9 tq10 tq11 tq12 tq13 tq14 tq15 tq16 tq17 tq18 tq19 tq20 tq21 tq22 tq23 tq24 tq25 tq26 tq27 tq28 tq29 tq30 tq31 tq32 tq33 tq34 tq35 tq36 tq37 tq38 tq39 tq40 tq41 tq42 tq43 tq44 tq45 tq46 tq47 tq48 tq49 tq50 tq51 t_orders_signs t_orders_count t_rules_settings t_rules_numbers t_work_room t_work_line t_work_strength t_work_water t_work_back t_work_count t_shape_bends t_shape_laid t_shape_across t_shape_along t_wished_heights t_wished_hung t_planner_items_room t_planner_items_line t_planner_items_strength t_planner_items_water t_planner_items_back t_planner_items_count t_planner_trial_bends t_planner_trial_laid t_planner_trial_across t_planner_trial_along t_planner_found t_planner_foundWorst t_gauges_heights t_gauges_isRead t_gauges_count t_gauges_bendSum t_gauges_bendPlaces t_spans_lower t_spans_upper t_welds_line t_welds_pull t_welds_best t_welds_count t_welds_bestWorst t_welds_known t_welds_tried t_welds_bent t_welds_trial_bends t_welds_trial_laid t_welds_trial_across t_welds_trial_along t_smiths_smithOf t_smiths_greatest t_smiths_knownFor t_smiths_times t_smiths_sums t_smiths_count t_fraction_upper t_fraction_lower) (w_X11 cI cC cZ tq0 tq1 tq2 tq3 tq4 tq5 tq6 tq7 tq8 tq9 tq10 tq11 tq12 tq13 tq14 tq15 tq16 tq17 tq18 tq19 tq20 tq21 tq22 tq23 tq24 tq25 tq26 tq27 tq28 tq29 tq30 tq31 tq32 tq33 tq34 tq35 tq36 tq37 tq38 tq39 tq40 tq41 tq42 tq43 tq44 tq45 tq46 tq47 tq48 tq49 tq50 tq51 t_orders_signs t_orders_count t_rules_settings t_rules_numbers t_work_room t_work_line t_work_strength t_work_water t_work_back t_work_count t_shape_bends t_shape_laid t_shape_across t_shape_along t_wished_heights t_wished_hung t_planner_items_room t_planner_items_line t_planner_items_strength t_planner_items_water t_planner_items_back t_planner_items_count t_planner_trial_bends t_planner_trial_laid t_planner_trial_across t_planner_trial_along t_planner_found t_planner_foundWorst t_gauges_heights t_gauges_isRead t_gauges_count t_gauges_bendSum t_gauges_bendPlaces t_spans_lower t_spans_upper t_welds_line t_welds_pull t_welds_best t_welds_count t_welds_bestWorst o.1 t_welds_tried t_welds_bent t_welds_trial_bends t_welds_trial_laid t_welds_trial_across t_welds_trial_along t_smiths_smithOf t_smiths_greatest o.2 t_smiths_times t_smiths_sums t_smiths_count t_fraction_upper t_fraction_lower) none := by
  refine Ctr.of (by decide) (Nat.le_of_ble_eq_true rfl) ?_
  intro p e s m args below meth c ls A Q hA hQ C hl hw
  have hx := C.1
  have hb := C.2.1
  have hl : lv_has ls 1 [(0, .ref tq0)] := hl
  refine lv_aload_n hx hb (dc d_X11_workChanged 0 rfl) rfl (lv_at hl 0 rfl) ?_
  refine x_get C hw fl_X11_70 0 rfl rfl (dc d_X11_workChanged 1 rfl) ?_
  refine lv_iconst (v := (0 : Int32)) hx hb (dc d_X11_workChanged 2 rfl) (by decide) ?_
  refine x_put C hw fl_X11_143 fw_X9_5 36 rfl rfl rfl (Nat.le_of_ble_eq_true rfl) (dc d_X11_workChanged 3 rfl) (fun H locs hw => ?_)
  dsimp only [w_X11, mix, List.set_cons_succ, List.set_cons_zero] at hw
  have hw : Wd D A s.heap (w_X11 cI cC cZ tq0 tq1 tq2 tq3 tq4 tq5 tq6 tq7 tq8 tq9 tq10 tq11 tq12 tq13 tq14 tq15 tq16 tq17 tq18 tq19 tq20 tq21 tq22 tq23 tq24 tq25 tq26 tq27 tq28 tq29 tq30 tq31 tq32 tq33 tq34 tq35 tq36 tq37 tq38 tq39 tq40 tq41 tq42 tq43 tq44 tq45 tq46 tq47 tq48 tq49 tq50 tq51 t_orders_signs t_orders_count t_rules_settings t_rules_numbers t_work_room t_work_line t_work_strength t_work_water t_work_back t_work_count t_shape_bends t_shape_laid t_shape_across t_shape_along t_wished_heights t_wished_hung t_planner_items_room t_planner_items_line t_planner_items_strength t_planner_items_water t_planner_items_back t_planner_items_count t_planner_trial_bends t_planner_trial_laid t_planner_trial_across t_planner_trial_along t_planner_found t_planner_foundWorst t_gauges_heights t_gauges_isRead t_gauges_count t_gauges_bendSum t_gauges_bendPlaces t_spans_lower t_spans_upper t_welds_line t_welds_pull t_welds_best t_welds_count t_welds_bestWorst (0 : Int32) t_welds_tried t_welds_bent t_welds_trial_bends t_welds_trial_laid t_welds_trial_across t_welds_trial_along t_smiths_smithOf t_smiths_greatest t_smiths_knownFor t_smiths_times t_smiths_sums t_smiths_count t_fraction_upper t_fraction_lower) H locs := hw
  refine lv_aload_n hx hb (dc d_X11_workChanged 4 rfl) rfl (lv_at hl 0 rfl) ?_
  refine x_get C hw fl_X11_77 0 rfl rfl (dc d_X11_workChanged 5 rfl) ?_
  refine lv_iconst (v := (0 : Int32)) hx hb (dc d_X11_workChanged 6 rfl) (by decide) ?_
  refine x_put C hw fl_X11_307 fw_X7_2 47 rfl rfl rfl (Nat.le_of_ble_eq_true rfl) (dc d_X11_workChanged 7 rfl) (fun H locs hw => ?_)
  dsimp only [w_X11, mix, List.set_cons_succ, List.set_cons_zero] at hw
  have hw : Wd D A s.heap (w_X11 cI cC cZ tq0 tq1 tq2 tq3 tq4 tq5 tq6 tq7 tq8 tq9 tq10 tq11 tq12 tq13 tq14 tq15 tq16 tq17 tq18 tq19 tq20 tq21 tq22 tq23 tq24 tq25 tq26 tq27 tq28 tq29 tq30 tq31 tq32 tq33 tq34 tq35 tq36 tq37 tq38 tq39 tq40 tq41 tq42 tq43 tq44 tq45 tq46 tq47 tq48 tq49 tq50 tq51 t_orders_signs t_orders_count t_rules_settings t_rules_numbers t_work_room t_work_line t_work_strength t_work_water t_work_back t_work_count t_shape_bends t_shape_laid t_shape_across t_shape_along t_wished_heights t_wished_hung t_planner_items_room t_planner_items_line t_planner_items_strength t_planner_items_water t_planner_items_back t_planner_items_count t_planner_trial_bends t_planner_trial_laid t_planner_trial_across t_planner_trial_along t_planner_found t_planner_foundWorst t_gauges_heights t_gauges_isRead t_gauges_count t_gauges_bendSum t_gauges_bendPlaces t_spans_lower t_spans_upper t_welds_line t_welds_pull t_welds_best t_welds_count t_welds_bestWorst (0 : Int32) t_welds_tried t_welds_bent t_welds_trial_bends t_welds_trial_laid t_welds_trial_across t_welds_trial_along t_smiths_smithOf t_smiths_greatest (0 : Int32) t_smiths_times t_smiths_sums t_smiths_count t_fraction_upper t_fraction_lower) H locs := hw
  cases hf
  exact x_vret C hA hQ hw rfl rfl (dc d_X11_workChanged 8 rfl)
set_option maxHeartbeats 4000000 in
set_option maxRecDepth 100000 in
theorem k_X11_take (n : Nat) {l : Launch} {D : va_G} {cI cC cZ : ClassId} {tq0 tq1 tq2 tq3 tq4 tq5 tq6 tq7 tq8 tq9 tq10 tq11 tq12 tq13 tq14 tq15 tq16 tq17 tq18 tq19 tq20 tq21 tq22 tq23 tq24 tq25 tq26 tq27 tq28 tq29 tq30 tq31 tq32 tq33 tq34 tq35 tq36 tq37 tq38 tq39 tq40 tq41 tq42 tq43 tq44 tq45 tq46 tq47 tq48 tq49 tq50 tq51 : Nat} {t_orders_signs : Nat → Int32} {t_orders_count : Int32} {t_rules_settings : Nat → Int32} {t_rules_numbers : Nat → Int32} {t_work_room : Int32} {t_work_line : Nat → Int32} {t_work_strength : Nat → Int32} {t_work_water : Nat → Int32} {t_work_back : Nat → Int32} {t_work_count : Int32} {t_shape_bends : Nat → Int32} {t_shape_laid : Nat → Int32} {t_shape_across : Nat → Int32} {t_shape_along : Nat → Int32} {t_wished_heights : Nat → Int32} {t_wished_hung : Nat → Int32} {t_planner_items_room : Int32} {t_planner_items_line : Nat → Int32} {t_planner_items_strength : Nat → Int32} {t_planner_items_water : Nat → Int32} {t_planner_items_back : Nat → Int32} {t_planner_items_count : Int32} {t_planner_trial_bends : Nat → Int32} {t_planner_trial_laid : Nat → Int32} {t_planner_trial_across : Nat → Int32} {t_planner_trial_along : Nat → Int32} {t_planner_found : Int32} {t_planner_foundWorst : Int32} {t_gauges_heights : Nat → Int32} {t_gauges_isRead : Nat → Int32} {t_gauges_count : Int32} {t_gauges_bendSum : Int32} {t_gauges_bendPlaces : Int32} {t_spans_lower : Nat → Int32} {t_spans_upper : Nat → Int32} {t_welds_line : Nat → Int32} {t_welds_pull : Nat → Int32} {t_welds_best : Nat → Int32} {t_welds_count : Int32} {t_welds_bestWorst : Int32} {t_welds_known : Int32} {t_welds_tried : Nat → Int32} {t_welds_bent : Nat → Int32} {t_welds_trial_bends : Nat → Int32} {t_welds_trial_laid : Nat → Int32} {t_welds_trial_across : Nat → Int32} {t_welds_trial_along : Nat → Int32} {t_smiths_smithOf : Nat → Int32} {t_smiths_greatest : Int32} {t_smiths_knownFor : Int32} {t_smiths_times : Nat → Int32} {t_smiths_sums : Nat → Int32} {t_smiths_count : Int32} {t_fraction_upper : Int64} {t_fraction_lower : Int64}  {o : Int32 × Int32 × (Nat → Int32) × (Nat → Int32) × (Nat → Int32) × (Nat → Int32) × Int32 × Int32 × Int32} (hf : f_X11_take n t_orders_signs t_orders_count t_work_room t_work_line t_work_strength t_work_water t_work_back t_work_count t_welds_known t_smiths_knownFor = some o) : Ctr l yX11_take cX11_take 1 (some .int) 3 74 D cI cC cZ [.ref tq0] (w_X11 cI cC cZ tq0 tq1 tq2 tq3 tq4 tq5 tq6 tq7 tq8 tq9 tq10 tq11 tq12 tq13 tq14 tq15 tq16 tq17 tq18 tq19 tq20 tq21 tq22 tq23 tq24 tq25 tq26 tq27 tq28 tq29 tq30 tq31 tq32 tq33 tq34 tq35 tq36 tq37 tq38 tq39 tq40 tq41 tq42 tq43 tq44 tq45 tq46 tq47 tq48 tq49 tq50 tq51 t_orders_signs t_orders_count t_rules_settings t_rules_numbers t_work_room t_work_line t_work_strength t_work_water t_work_back t_work_count t_shape_bends t_shape_laid t_shape_across t_shape_along t_wished_heights t_wished_hung t_planner_items_room t_planner_items_line t_planner_items_strength t_planner_items_water t_planner_items_back t_planner_items_count t_planner_trial_bends t_planner_trial_laid t_planner_trial_across t_planner_trial_along t_planner_found t_planner_foundWorst t_gauges_heights t_gauges_isRead t_gauges_count t_gauges_bendSum t_gauges_bendPlaces t_spans_lower t_spans_upper t_welds_line t_welds_pull t_welds_best t_welds_count t_welds_bestWorst t_welds_known t_welds_tried t_welds_bent t_welds_trial_bends t_welds_trial_laid t_welds_trial_across t_welds_trial_along t_smiths_smithOf t_smiths_greatest t_smiths_knownFor t_smiths_times t_smiths_sums t_smiths_count t_fraction_upper t_fraction_lower) (w_X11 cI cC cZ tq0 tq1 tq2 tq3 tq4 tq5 tq6 tq7 tq8 tq9 tq10 tq11 tq12 tq13 tq14 tq15 tq16 tq17 tq18 tq19 tq20 tq21 tq22 tq23 tq24 tq25 tq26 tq27 tq28 tq29 tq30 tq31 tq32 tq33 tq34 tq35 tq36 tq37 tq38 tq39 tq40 tq41 tq42 tq43 tq44 tq45 tq46 tq47 tq48 tq49 tq50 tq51 t_orders_signs o.2.1 t_rules_settings t_rules_numbers t_work_room o.2.2.1 o.2.2.2.1 o.2.2.2.2.1 o.2.2.2.2.2.1 o.2.2.2.2.2.2.1 t_shape_bends t_shape_laid t_shape_across t_shape_along t_wished_heights t_wished_hung t_planner_items_room t_planner_items_line t_planner_items_strength t_planner_items_water t_planner_items_back t_planner_items_count t_planner_trial_bends t_planner_trial_laid t_planner_trial_across t_planner_trial_along t_planner_found t_planner_foundWorst t_gauges_heights t_gauges_isRead t_gauges_count t_gauges_bendSum t_gauges_bendPlaces t_spans_lower t_spans_upper t_welds_line t_welds_pull t_welds_best t_welds_count t_welds_bestWorst o.2.2.2.2.2.2.2.1 t_welds_tried t_welds_bent t_welds_trial_bends t_welds_trial_laid t_welds_trial_across t_welds_trial_along t_smiths_smithOf t_smiths_greatest o.2.2.2.2.2.2.2.2 t_smiths_times t_smiths_sums t_smiths_count t_fraction_upper t_fraction_lower) (some (.int o.1)) := by
  refine Ctr.of (by decide) (Nat.le_of_ble_eq_true rfl) ?_
  intro p e s m args below meth c ls A Q hA hQ C hl hw
  have hx := C.1
  have hb := C.2.1
  have hl : lv_has ls 1 [(0, .ref tq0)] := hl
  refine lv_aload_n hx hb (dc d_X11_take 0 rfl) rfl (lv_at hl 0 rfl) ?_
  refine x_get C hw fl_X11_10 0 rfl rfl (dc d_X11_take 1 rfl) ?_
  obtain ⟨q1, hq1, hf⟩ := g_bd hf
  refine x_callV C hw mb_X2_faultPlace mv_X2_faultPlace ml_X11_96 (k_X2_faultPlace n hq1) hl.1 rfl rfl [1, 2] rfl rfl rfl 1 2 rfl rfl (Nat.le_of_ble_eq_true rfl) (Nat.le_of_ble_eq_true rfl) (Nat.le_of_ble_eq_true rfl) (dc d_X11_take 2 rfl) (fun H locs hw => ?_)
  refine W.eq (g2 := F0 m 7 ls [.int q1]) rfl ?_
  dsimp only [w_X11, w_X2, mix, List.set_cons_succ, List.set_cons_zero] at hw
  have hw : Wd D A s.heap (w_X11 cI cC cZ tq0 tq1 tq2 tq3 tq4 tq5 tq6 tq7 tq8 tq9 tq10 tq11 tq12 tq13 tq14 tq15 tq16 tq17 tq18 tq19 tq20 tq21 tq22 tq23 tq24 tq25 tq26 tq27 tq28 tq29 tq30 tq31 tq32 tq33 tq34 tq35 tq36 tq37 tq38 tq39 tq40 tq41 tq42 tq43 tq44 tq45 tq46 tq47 tq48 tq49 tq50 tq51 t_orders_signs t_orders_count t_rules_settings t_rules_numbers t_work_room t_work_line t_work_strength t_work_water t_work_back t_work_count t_shape_bends t_shape_laid t_shape_across t_shape_along t_wished_heights t_wished_hung t_planner_items_room t_planner_items_line t_planner_items_strength t_planner_items_water t_planner_items_back t_planner_items_count t_planner_trial_bends t_planner_trial_laid t_planner_trial_across t_planner_trial_along t_planner_found t_planner_foundWorst t_gauges_heights t_gauges_isRead t_gauges_count t_gauges_bendSum t_gauges_bendPlaces t_spans_lower t_spans_upper t_welds_line t_welds_pull t_welds_best t_welds_count t_welds_bestWorst t_welds_known t_welds_tried t_welds_bent t_welds_trial_bends t_welds_trial_laid t_welds_trial_across t_welds_trial_along t_smiths_smithOf t_smiths_greatest t_smiths_knownFor t_smiths_times t_smiths_sums t_smiths_count t_fraction_upper t_fraction_lower) H locs := hw
  refine lv_bipush (v := (-6 : Int32)) hx hb (dc d_X11_take 3 rfl) (by decide) ?_
  refine lv_icmp_eq (tgt := 15) hx hb (dc d_X11_take 4 rfl) (by decide) (fun c2 => ?_) (fun c2 => ?_)
  · have hf := g_t hf c2
    refine lv_aload_n hx hb (dc d_X11_take 7 rfl) rfl (lv_at hl 0 rfl) ?_
    refine x_get C hw fl_X11_28 0 rfl rfl (dc d_X11_take 8 rfl) ?_
    refine x_get C hw fl_X11_100 6 rfl rfl (dc d_X11_take 9 rfl) ?_
    refine lv_aload_n hx hb (dc d_X11_take 10 rfl) rfl (lv_at hl 0 rfl) ?_
    refine x_get C hw fl_X11_10 0 rfl rfl (dc d_X11_take 11 rfl) ?_
    obtain ⟨q3, hq3, hf⟩ := g_bd hf
    refine x_callV C hw mb_X2_passes mv_X2_passes ml_X11_101 (k_X2_passes n hq3) hl.1 rfl rfl [1, 2] rfl rfl rfl 1 2 rfl rfl (Nat.le_of_ble_eq_true rfl) (Nat.le_of_ble_eq_true rfl) (Nat.le_of_ble_eq_true rfl) (dc d_X11_take 12 rfl) (fun H locs hw => ?_)
    refine W.eq (g2 := F0 m 29 ls [.int q3, .int t_work_count]) rfl ?_
    dsimp only [w_X11, w_X2, mix, List.set_cons_succ, List.set_cons_zero] at hw
    have hw : Wd D A s.heap (w_X11 cI cC cZ tq0 tq1 tq2 tq3 tq4 tq5 tq6 tq7 tq8 tq9 tq10 tq11 tq12 tq13 tq14 tq15 tq16 tq17 tq18 tq19 tq20 tq21 tq22 tq23 tq24 tq25 tq26 tq27 tq28 tq29 tq30 tq31 tq32 tq33 tq34 tq35 tq36 tq37 tq38 tq39 tq40 tq41 tq42 tq43 tq44 tq45 tq46 tq47 tq48 tq49 tq50 tq51 t_orders_signs t_orders_count t_rules_settings t_rules_numbers t_work_room t_work_line t_work_strength t_work_water t_work_back t_work_count t_shape_bends t_shape_laid t_shape_across t_shape_along t_wished_heights t_wished_hung t_planner_items_room t_planner_items_line t_planner_items_strength t_planner_items_water t_planner_items_back t_planner_items_count t_planner_trial_bends t_planner_trial_laid t_planner_trial_across t_planner_trial_along t_planner_found t_planner_foundWorst t_gauges_heights t_gauges_isRead t_gauges_count t_gauges_bendSum t_gauges_bendPlaces t_spans_lower t_spans_upper t_welds_line t_welds_pull t_welds_best t_welds_count t_welds_bestWorst t_welds_known t_welds_tried t_welds_bent t_welds_trial_bends t_welds_trial_laid t_welds_trial_across t_welds_trial_along t_smiths_smithOf t_smiths_greatest t_smiths_knownFor t_smiths_times t_smiths_sums t_smiths_count t_fraction_upper t_fraction_lower) H locs := hw
    refine lv_iadd hx hb (dc d_X11_take 13 rfl) ?_
    refine lv_bipush (v := (12 : Int32)) hx hb (dc d_X11_take 14 rfl) (by decide) ?_
    refine lv_icmp_le (tgt := 38) hx hb (dc d_X11_take 15 rfl) (by decide) (fun c4 => ?_) (fun c4 => ?_)
    · have hf := g_t hf c4
      refine lv_aload_n hx hb (dc d_X11_take 18 rfl) rfl (lv_at hl 0 rfl) ?_
      refine x_get C hw fl_X11_10 0 rfl rfl (dc d_X11_take 19 rfl) ?_
      refine lv_aload_n hx hb (dc d_X11_take 20 rfl) rfl (lv_at hl 0 rfl) ?_
      refine x_get C hw fl_X11_28 0 rfl rfl (dc d_X11_take 21 rfl) ?_
      obtain ⟨q5, hq5, hf⟩ := g_bd hf
      refine x_callV C hw mb_X2_moveInto mv_X2_moveInto ml_X11_104 (k_X2_moveInto n hq5) hl.1 rfl rfl [1, 2, 6, 7, 8, 9, 10] rfl rfl rfl 1 2 rfl rfl (Nat.le_of_ble_eq_true rfl) (Nat.le_of_ble_eq_true rfl) (Nat.le_of_ble_eq_true rfl) (dc d_X11_take 22 rfl) (fun H locs hw => ?_)
      refine W.eq (g2 := F0 m 49 ls []) rfl ?_
      dsimp only [w_X11, w_X2_X3, mix, List.set_cons_succ, List.set_cons_zero] at hw
      have hw : Wd D A s.heap (w_X11 cI cC cZ tq0 tq1 tq2 tq3 tq4 tq5 tq6 tq7 tq8 tq9 tq10 tq11 tq12 tq13 tq14 tq15 tq16 tq17 tq18 tq19 tq20 tq21 tq22 tq23 tq24 tq25 tq26 tq27 tq28 tq29 tq30 tq31 tq32 tq33 tq34 tq35 tq36 tq37 tq38 tq39 tq40 tq41 tq42 tq43 tq44 tq45 tq46 tq47 tq48 tq49 tq50 tq51 t_orders_signs q5.1 t_rules_settings t_rules_numbers t_work_room q5.2.1 q5.2.2.1 q5.2.2.2.1 q5.2.2.2.2.1 q5.2.2.2.2.2 t_shape_bends t_shape_laid t_shape_across t_shape_along t_wished_heights t_wished_hung t_planner_items_room t_planner_items_line t_planner_items_strength t_planner_items_water t_planner_items_back t_planner_items_count t_planner_trial_bends t_planner_trial_laid t_planner_trial_across t_planner_trial_along t_planner_found t_planner_foundWorst t_gauges_heights t_gauges_isRead t_gauges_count t_gauges_bendSum t_gauges_bendPlaces t_spans_lower t_spans_upper t_welds_line t_welds_pull t_welds_best t_welds_count t_welds_bestWorst t_welds_known t_welds_tried t_welds_bent t_welds_trial_bends t_welds_trial_laid t_welds_trial_across t_welds_trial_along t_smiths_smithOf t_smiths_greatest t_smiths_knownFor t_smiths_times t_smiths_sums t_smiths_count t_fraction_upper t_fraction_lower) H locs := hw
      refine lv_aload_n hx hb (dc d_X11_take 23 rfl) rfl (lv_at hl 0 rfl) ?_
      obtain ⟨q6, hq6, hf⟩ := g_bd hf
      refine x_callVa C hw mb_X11_workChanged mv_X11_workChanged ml_X11_108 (k_X11_workChanged n hq6) hl.1 rfl rfl rfl 0 11 rfl rfl (Nat.le_of_ble_eq_true rfl) (Nat.le_of_ble_eq_true rfl) (Nat.le_of_ble_eq_true rfl) (dc d_X11_take 24 rfl) (fun H locs hw => ?_)
      refine W.eq (g2 := F0 m 53 ls []) rfl ?_
      have hw : Wd D A s.heap (w_X11 cI cC cZ tq0 tq1 tq2 tq3 tq4 tq5 tq6 tq7 tq8 tq9 tq10 tq11 tq12 tq13 tq14 tq15 tq16 tq17 tq18 tq19 tq20 tq21 tq22 tq23 tq24 tq25 tq26 tq27 tq28 tq29 tq30 tq31 tq32 tq33 tq34 tq35 tq36 tq37 tq38 tq39 tq40 tq41 tq42 tq43 tq44 tq45 tq46 tq47 tq48 tq49 tq50 tq51 t_orders_signs q5.1 t_rules_settings t_rules_numbers t_work_room q5.2.1 q5.2.2.1 q5.2.2.2.1 q5.2.2.2.2.1 q5.2.2.2.2.2 t_shape_bends t_shape_laid t_shape_across t_shape_along t_wished_heights t_wished_hung t_planner_items_room t_planner_items_line t_planner_items_strength t_planner_items_water t_planner_items_back t_planner_items_count t_planner_trial_bends t_planner_trial_laid t_planner_trial_across t_planner_trial_along t_planner_found t_planner_foundWorst t_gauges_heights t_gauges_isRead t_gauges_count t_gauges_bendSum t_gauges_bendPlaces t_spans_lower t_spans_upper t_welds_line t_welds_pull t_welds_best t_welds_count t_welds_bestWorst q6.1 t_welds_tried t_welds_bent t_welds_trial_bends t_welds_trial_laid t_welds_trial_across t_welds_trial_along t_smiths_smithOf t_smiths_greatest q6.2 t_smiths_times t_smiths_sums t_smiths_count t_fraction_upper t_fraction_lower) H locs := hw
      refine lv_aload_n hx hb (dc d_X11_take 25 rfl) rfl (lv_at hl 0 rfl) ?_
      refine x_get C hw fl_X11_28 0 rfl rfl (dc d_X11_take 26 rfl) ?_
      refine x_get C hw fl_X11_100 6 rfl rfl (dc d_X11_take 27 rfl) ?_
      cases hf
      exact x_iret C hA hQ hw rfl rfl (dc d_X11_take 28 rfl)
    · have hf := g_f hf c4
      refine lv_bipush (v := (-4 : Int32)) hx hb (dc d_X11_take 16 rfl) (by decide) ?_
      cases hf
      exact x_iret C hA hQ hw rfl rfl (dc d_X11_take 17 rfl)
  · have hf := g_f hf c2
    refine lv_bipush (v := (-5 : Int32)) hx hb (dc d_X11_take 5 rfl) (by decide) ?_
    cases hf
    exact x_iret C hA hQ hw rfl rfl (dc d_X11_take 6 rfl)
set_option maxHeartbeats 4000000 in
set_option maxRecDepth 100000 in
theorem k_X11_strike (n : Nat) {l : Launch} {D : va_G} {cI cC cZ : ClassId} {tq0 tq1 tq2 tq3 tq4 tq5 tq6 tq7 tq8 tq9 tq10 tq11 tq12 tq13 tq14 tq15 tq16 tq17 tq18 tq19 tq20 tq21 tq22 tq23 tq24 tq25 tq26 tq27 tq28 tq29 tq30 tq31 tq32 tq33 tq34 tq35 tq36 tq37 tq38 tq39 tq40 tq41 tq42 tq43 tq44 tq45 tq46 tq47 tq48 tq49 tq50 tq51 : Nat} {t_orders_signs : Nat → Int32} {t_orders_count : Int32} {t_rules_settings : Nat → Int32} {t_rules_numbers : Nat → Int32} {t_work_room : Int32} {t_work_line : Nat → Int32} {t_work_strength : Nat → Int32} {t_work_water : Nat → Int32} {t_work_back : Nat → Int32} {t_work_count : Int32} {t_shape_bends : Nat → Int32} {t_shape_laid : Nat → Int32} {t_shape_across : Nat → Int32} {t_shape_along : Nat → Int32} {t_wished_heights : Nat → Int32} {t_wished_hung : Nat → Int32} {t_planner_items_room : Int32} {t_planner_items_line : Nat → Int32} {t_planner_items_strength : Nat → Int32} {t_planner_items_water : Nat → Int32} {t_planner_items_back : Nat → Int32} {t_planner_items_count : Int32} {t_planner_trial_bends : Nat → Int32} {t_planner_trial_laid : Nat → Int32} {t_planner_trial_across : Nat → Int32} {t_planner_trial_along : Nat → Int32} {t_planner_found : Int32} {t_planner_foundWorst : Int32} {t_gauges_heights : Nat → Int32} {t_gauges_isRead : Nat → Int32} {t_gauges_count : Int32} {t_gauges_bendSum : Int32} {t_gauges_bendPlaces : Int32} {t_spans_lower : Nat → Int32} {t_spans_upper : Nat → Int32} {t_welds_line : Nat → Int32} {t_welds_pull : Nat → Int32} {t_welds_best : Nat → Int32} {t_welds_count : Int32} {t_welds_bestWorst : Int32} {t_welds_known : Int32} {t_welds_tried : Nat → Int32} {t_welds_bent : Nat → Int32} {t_welds_trial_bends : Nat → Int32} {t_welds_trial_laid : Nat → Int32} {t_welds_trial_across : Nat → Int32} {t_welds_trial_along : Nat → Int32} {t_smiths_smithOf : Nat → Int32} {t_smiths_greatest : Int32} {t_smiths_knownFor : Int32} {t_smiths_times : Nat → Int32} {t_smiths_sums : Nat → Int32} {t_smiths_count : Int32} {t_fraction_upper : Int64} {t_fraction_lower : Int64} {x1 : Int32} {o : Int32 × Int32 × Int32 × Int32} (hf : f_X11_strike n t_work_count t_welds_known t_smiths_knownFor x1 = some o) : Ctr l yX11_strike cX11_strike 2 (some .int) 1 20 D cI cC cZ [.ref tq0, .int x1] (w_X11 cI cC cZ tq0 tq1 tq2 tq3 tq4 tq5 tq6 tq7 tq8 tq9 tq10 tq11 tq12 tq13 tq14 tq15 tq16 tq17 tq18 tq19 tq20 tq21 tq22 tq23 tq24 tq25 tq26 tq27 tq28 tq29 tq30 tq31 tq32 tq33 tq34 tq35 tq36 tq37 tq38 tq39 tq40 tq41 tq42 tq43 tq44 tq45 tq46 tq47 tq48 tq49 tq50 tq51 t_orders_signs t_orders_count t_rules_settings t_rules_numbers t_work_room t_work_line t_work_strength t_work_water t_work_back t_work_count t_shape_bends t_shape_laid t_shape_across t_shape_along t_wished_heights t_wished_hung t_planner_items_room t_planner_items_line t_planner_items_strength t_planner_items_water t_planner_items_back t_planner_items_count t_planner_trial_bends t_planner_trial_laid t_planner_trial_across t_planner_trial_along t_planner_found t_planner_foundWorst t_gauges_heights t_gauges_isRead t_gauges_count t_gauges_bendSum t_gauges_bendPlaces t_spans_lower t_spans_upper t_welds_line t_welds_pull t_welds_best t_welds_count t_welds_bestWorst t_welds_known t_welds_tried t_welds_bent t_welds_trial_bends t_welds_trial_laid t_welds_trial_across t_welds_trial_along t_smiths_smithOf t_smiths_greatest t_smiths_knownFor t_smiths_times t_smiths_sums t_smiths_count t_fraction_upper t_fraction_lower) (w_X11 cI cC cZ tq0 tq1 tq2 tq3 tq4 tq5 tq6 tq7 tq8 tq9 tq10 tq11 tq12 tq13 tq14 tq15 tq16 tq17 tq18 tq19 tq20 tq21 tq22 tq23 tq24 tq25 tq26 tq27 tq28 tq29 tq30 tq31 tq32 tq33 tq34 tq35 tq36 tq37 tq38 tq39 tq40 tq41 tq42 tq43 tq44 tq45 tq46 tq47 tq48 tq49 tq50 tq51 t_orders_signs t_orders_count t_rules_settings t_rules_numbers t_work_room t_work_line t_work_strength t_work_water t_work_back o.2.1 t_shape_bends t_shape_laid t_shape_across t_shape_along t_wished_heights t_wished_hung t_planner_items_room t_planner_items_line t_planner_items_strength t_planner_items_water t_planner_items_back t_planner_items_count t_planner_trial_bends t_planner_trial_laid t_planner_trial_across t_planner_trial_along t_planner_found t_planner_foundWorst t_gauges_heights t_gauges_isRead t_gauges_count t_gauges_bendSum t_gauges_bendPlaces t_spans_lower t_spans_upper t_welds_line t_welds_pull t_welds_best t_welds_count t_welds_bestWorst o.2.2.1 t_welds_tried t_welds_bent t_welds_trial_bends t_welds_trial_laid t_welds_trial_across t_welds_trial_along t_smiths_smithOf t_smiths_greatest o.2.2.2 t_smiths_times t_smiths_sums t_smiths_count t_fraction_upper t_fraction_lower) (some (.int o.1)) := by
  refine Ctr.of (by decide) (Nat.le_of_ble_eq_true rfl) ?_
  intro p e s m args below meth c ls A Q hA hQ C hl hw
  have hx := C.1
  have hb := C.2.1
  have hl : lv_has ls 2 [(0, .ref tq0), (1, .int x1)] := hl
  refine lv_iload_n hx hb (dc d_X11_strike 0 rfl) rfl (lv_at hl 1 rfl) ?_
  refine lv_if_lt (tgt := 15) hx hb (dc d_X11_strike 1 rfl) (by decide) (fun c1 => ?_) (fun c1 => ?_)
  · have hf := g_t hf c1
    refine lv_bipush (v := (-2 : Int32)) hx hb (dc d_X11_strike 7 rfl) (by decide) ?_
    cases hf
    exact x_iret C hA hQ hw rfl rfl (dc d_X11_strike 8 rfl)
  · have hf := g_f hf c1
    refine lv_iload_n hx hb (dc d_X11_strike 2 rfl) rfl (lv_at hl 1 rfl) ?_
    refine lv_aload_n hx hb (dc d_X11_strike 3 rfl) rfl (lv_at hl 0 rfl) ?_
    refine x_get C hw fl_X11_28 0 rfl rfl (dc d_X11_strike 4 rfl) ?_
    refine x_get C hw fl_X11_100 6 rfl rfl (dc d_X11_strike 5 rfl) ?_
    refine lv_icmp_le (tgt := 18) hx hb (dc d_X11_strike 6 rfl) (by decide) (fun c2 => ?_) (fun c2 => ?_)
    · have hf := g_t hf c2
      refine lv_aload_n hx hb (dc d_X11_strike 9 rfl) rfl (lv_at hl 0 rfl) ?_
      refine x_get C hw fl_X11_28 0 rfl rfl (dc d_X11_strike 10 rfl) ?_
      refine lv_dup hx hb (dc d_X11_strike 11 rfl) rfl ?_
      refine x_get C hw fl_X11_100 6 rfl rfl (dc d_X11_strike 12 rfl) ?_
      refine lv_iload_n hx hb (dc d_X11_strike 13 rfl) rfl (lv_at hl 1 rfl) ?_
      refine lv_isub hx hb (dc d_X11_strike 14 rfl) ?_
      refine x_put C hw fl_X11_100 fw_X3_5 6 rfl rfl rfl (Nat.le_of_ble_eq_true rfl) (dc d_X11_strike 15 rfl) (fun H locs hw => ?_)
      dsimp only [w_X11, mix, List.set_cons_succ, List.set_cons_zero] at hw
      have hw : Wd D A s.heap (w_X11 cI cC cZ tq0 tq1 tq2 tq3 tq4 tq5 tq6 tq7 tq8 tq9 tq10 tq11 tq12 tq13 tq14 tq15 tq16 tq17 tq18 tq19 tq20 tq21 tq22 tq23 tq24 tq25 tq26 tq27 tq28 tq29 tq30 tq31 tq32 tq33 tq34 tq35 tq36 tq37 tq38 tq39 tq40 tq41 tq42 tq43 tq44 tq45 tq46 tq47 tq48 tq49 tq50 tq51 t_orders_signs t_orders_count t_rules_settings t_rules_numbers t_work_room t_work_line t_work_strength t_work_water t_work_back (t_work_count - x1) t_shape_bends t_shape_laid t_shape_across t_shape_along t_wished_heights t_wished_hung t_planner_items_room t_planner_items_line t_planner_items_strength t_planner_items_water t_planner_items_back t_planner_items_count t_planner_trial_bends t_planner_trial_laid t_planner_trial_across t_planner_trial_along t_planner_found t_planner_foundWorst t_gauges_heights t_gauges_isRead t_gauges_count t_gauges_bendSum t_gauges_bendPlaces t_spans_lower t_spans_upper t_welds_line t_welds_pull t_welds_best t_welds_count t_welds_bestWorst t_welds_known t_welds_tried t_welds_bent t_welds_trial_bends t_welds_trial_laid t_welds_trial_across t_welds_trial_along t_smiths_smithOf t_smiths_greatest t_smiths_knownFor t_smiths_times t_smiths_sums t_smiths_count t_fraction_upper t_fraction_lower) H locs := hw
      refine lv_aload_n hx hb (dc d_X11_strike 16 rfl) rfl (lv_at hl 0 rfl) ?_
      obtain ⟨q3, hq3, hf⟩ := g_bd hf
      refine x_callVa C hw mb_X11_workChanged mv_X11_workChanged ml_X11_108 (k_X11_workChanged n hq3) hl.1 rfl rfl rfl 0 11 rfl rfl (Nat.le_of_ble_eq_true rfl) (Nat.le_of_ble_eq_true rfl) (Nat.le_of_ble_eq_true rfl) (dc d_X11_strike 17 rfl) (fun H locs hw => ?_)
      refine W.eq (g2 := F0 m 35 ls []) rfl ?_
      have hw : Wd D A s.heap (w_X11 cI cC cZ tq0 tq1 tq2 tq3 tq4 tq5 tq6 tq7 tq8 tq9 tq10 tq11 tq12 tq13 tq14 tq15 tq16 tq17 tq18 tq19 tq20 tq21 tq22 tq23 tq24 tq25 tq26 tq27 tq28 tq29 tq30 tq31 tq32 tq33 tq34 tq35 tq36 tq37 tq38 tq39 tq40 tq41 tq42 tq43 tq44 tq45 tq46 tq47 tq48 tq49 tq50 tq51 t_orders_signs t_orders_count t_rules_settings t_rules_numbers t_work_room t_work_line t_work_strength t_work_water t_work_back (t_work_count - x1) t_shape_bends t_shape_laid t_shape_across t_shape_along t_wished_heights t_wished_hung t_planner_items_room t_planner_items_line t_planner_items_strength t_planner_items_water t_planner_items_back t_planner_items_count t_planner_trial_bends t_planner_trial_laid t_planner_trial_across t_planner_trial_along t_planner_found t_planner_foundWorst t_gauges_heights t_gauges_isRead t_gauges_count t_gauges_bendSum t_gauges_bendPlaces t_spans_lower t_spans_upper t_welds_line t_welds_pull t_welds_best t_welds_count t_welds_bestWorst q3.1 t_welds_tried t_welds_bent t_welds_trial_bends t_welds_trial_laid t_welds_trial_across t_welds_trial_along t_smiths_smithOf t_smiths_greatest q3.2 t_smiths_times t_smiths_sums t_smiths_count t_fraction_upper t_fraction_lower) H locs := hw
      refine lv_aload_n hx hb (dc d_X11_strike 18 rfl) rfl (lv_at hl 0 rfl) ?_
      refine x_get C hw fl_X11_28 0 rfl rfl (dc d_X11_strike 19 rfl) ?_
      refine x_get C hw fl_X11_100 6 rfl rfl (dc d_X11_strike 20 rfl) ?_
      cases hf
      exact x_iret C hA hQ hw rfl rfl (dc d_X11_strike 21 rfl)
    · have hf := g_f hf c2
      refine lv_bipush (v := (-2 : Int32)) hx hb (dc d_X11_strike 7 rfl) (by decide) ?_
      cases hf
      exact x_iret C hA hQ hw rfl rfl (dc d_X11_strike 8 rfl)
set_option maxHeartbeats 4000000 in
set_option maxRecDepth 100000 in
theorem k_X11_pass (n : Nat) {l : Launch} {D : va_G} {cI cC cZ : ClassId} {tq0 tq1 tq2 tq3 tq4 tq5 tq6 tq7 tq8 tq9 tq10 tq11 tq12 tq13 tq14 tq15 tq16 tq17 tq18 tq19 tq20 tq21 tq22 tq23 tq24 tq25 tq26 tq27 tq28 tq29 tq30 tq31 tq32 tq33 tq34 tq35 tq36 tq37 tq38 tq39 tq40 tq41 tq42 tq43 tq44 tq45 tq46 tq47 tq48 tq49 tq50 tq51 : Nat} {t_orders_signs : Nat → Int32} {t_orders_count : Int32} {t_rules_settings : Nat → Int32} {t_rules_numbers : Nat → Int32} {t_work_room : Int32} {t_work_line : Nat → Int32} {t_work_strength : Nat → Int32} {t_work_water : Nat → Int32} {t_work_back : Nat → Int32} {t_work_count : Int32} {t_shape_bends : Nat → Int32} {t_shape_laid : Nat → Int32} {t_shape_across : Nat → Int32} {t_shape_along : Nat → Int32} {t_wished_heights : Nat → Int32} {t_wished_hung : Nat → Int32} {t_planner_items_room : Int32} {t_planner_items_line : Nat → Int32} {t_planner_items_strength : Nat → Int32} {t_planner_items_water : Nat → Int32} {t_planner_items_back : Nat → Int32} {t_planner_items_count : Int32} {t_planner_trial_bends : Nat → Int32} {t_planner_trial_laid : Nat → Int32} {t_planner_trial_across : Nat → Int32} {t_planner_trial_along : Nat → Int32} {t_planner_found : Int32} {t_planner_foundWorst : Int32} {t_gauges_heights : Nat → Int32} {t_gauges_isRead : Nat → Int32} {t_gauges_count : Int32} {t_gauges_bendSum : Int32} {t_gauges_bendPlaces : Int32} {t_spans_lower : Nat → Int32} {t_spans_upper : Nat → Int32} {t_welds_line : Nat → Int32} {t_welds_pull : Nat → Int32} {t_welds_best : Nat → Int32} {t_welds_count : Int32} {t_welds_bestWorst : Int32} {t_welds_known : Int32} {t_welds_tried : Nat → Int32} {t_welds_bent : Nat → Int32} {t_welds_trial_bends : Nat → Int32} {t_welds_trial_laid : Nat → Int32} {t_welds_trial_across : Nat → Int32} {t_welds_trial_along : Nat → Int32} {t_smiths_smithOf : Nat → Int32} {t_smiths_greatest : Int32} {t_smiths_knownFor : Int32} {t_smiths_times : Nat → Int32} {t_smiths_sums : Nat → Int32} {t_smiths_count : Int32} {t_fraction_upper : Int64} {t_fraction_lower : Int64} {x1 : Int32} {x2 : Int32} {o : Int32 × (Nat → Int32) × (Nat → Int32)} (hf : f_X11_pass n t_rules_settings t_rules_numbers t_work_line t_work_strength t_work_water t_work_back t_work_count t_shape_bends t_shape_laid x1 x2 = some o) : Ctr l yX11_pass cX11_pass 3 (some .int) 5 122 D cI cC cZ [.ref tq0, .int x1, .int x2] (w_X11 cI cC cZ tq0 tq1 tq2 tq3 tq4 tq5 tq6 tq7 tq8 tq9 tq10 tq11 tq12 tq13 tq14 tq15 tq16 tq17 tq18 tq19 tq20 tq21 tq22 tq23 tq24 tq25 tq26 tq27 tq28 tq29 tq30 tq31 tq32 tq33 tq34 tq35 tq36 tq37 tq38 tq39 tq40 tq41 tq42 tq43 tq44 tq45 tq46 tq47 tq48 tq49 tq50 tq51 t_orders_signs t_orders_count t_rules_settings t_rules_numbers t_work_room t_work_line t_work_strength t_work_water t_work_back t_work_count t_shape_bends t_shape_laid t_shape_across t_shape_along t_wished_heights t_wished_hung t_planner_items_room t_planner_items_line t_planner_items_strength t_planner_items_water t_planner_items_back t_planner_items_count t_planner_trial_bends t_planner_trial_laid t_planner_trial_across t_planner_trial_along t_planner_found t_planner_foundWorst t_gauges_heights t_gauges_isRead t_gauges_count t_gauges_bendSum t_gauges_bendPlaces t_spans_lower t_spans_upper t_welds_line t_welds_pull t_welds_best t_welds_count t_welds_bestWorst t_welds_known t_welds_tried t_welds_bent t_welds_trial_bends t_welds_trial_laid t_welds_trial_across t_welds_trial_along t_smiths_smithOf t_smiths_greatest t_smiths_knownFor t_smiths_times t_smiths_sums t_smiths_count t_fraction_upper t_fraction_lower) (w_X11 cI cC cZ tq0 tq1 tq2 tq3 tq4 tq5 tq6 tq7 tq8 tq9 tq10 tq11 tq12 tq13 tq14 tq15 tq16 tq17 tq18 tq19 tq20 tq21 tq22 tq23 tq24 tq25 tq26 tq27 tq28 tq29 tq30 tq31 tq32 tq33 tq34 tq35 tq36 tq37 tq38 tq39 tq40 tq41 tq42 tq43 tq44 tq45 tq46 tq47 tq48 tq49 tq50 tq51 t_orders_signs t_orders_count t_rules_settings t_rules_numbers t_work_room t_work_line t_work_strength t_work_water t_work_back t_work_count o.2.1 o.2.2 t_shape_across t_shape_along t_wished_heights t_wished_hung t_planner_items_room t_planner_items_line t_planner_items_strength t_planner_items_water t_planner_items_back t_planner_items_count t_planner_trial_bends t_planner_trial_laid t_planner_trial_across t_planner_trial_along t_planner_found t_planner_foundWorst t_gauges_heights t_gauges_isRead t_gauges_count t_gauges_bendSum t_gauges_bendPlaces t_spans_lower t_spans_upper t_welds_line t_welds_pull t_welds_best t_welds_count t_welds_bestWorst t_welds_known t_welds_tried t_welds_bent t_welds_trial_bends t_welds_trial_laid t_welds_trial_across t_welds_trial_along t_smiths_smithOf t_smiths_greatest t_smiths_knownFor t_smiths_times t_smiths_sums t_smiths_count t_fraction_upper t_fraction_lower) (some (.int o.1)) := by
  refine Ctr.of (by decide) (Nat.le_of_ble_eq_true rfl) ?_
  intro p e s m args below meth c ls A Q hA hQ C hl hw
  have hx := C.1
  have hb := C.2.1
  have hl : lv_has ls 3 [(0, .ref tq0), (1, .int x1), (2, .int x2)] := hl
  refine lv_iload_n hx hb (dc d_X11_pass 0 rfl) rfl (lv_at hl 1 rfl) ?_
  refine lv_if_lt (tgt := 15) hx hb (dc d_X11_pass 1 rfl) (by decide) (fun c1 => ?_) (fun c1 => ?_)
  · have hf := g_t hf c1
    refine lv_iconst (v := (-1 : Int32)) hx hb (dc d_X11_pass 7 rfl) (by decide) ?_
    cases hf
    exact x_iret C hA hQ hw rfl rfl (dc d_X11_pass 8 rfl)
  · have hf := g_f hf c1
    refine lv_iload_n hx hb (dc d_X11_pass 2 rfl) rfl (lv_at hl 1 rfl) ?_
    refine lv_aload_n hx hb (dc d_X11_pass 3 rfl) rfl (lv_at hl 0 rfl) ?_
    refine x_get C hw fl_X11_28 0 rfl rfl (dc d_X11_pass 4 rfl) ?_
    refine x_get C hw fl_X11_100 6 rfl rfl (dc d_X11_pass 5 rfl) ?_
    refine lv_icmp_lt (tgt := 17) hx hb (dc d_X11_pass 6 rfl) (by decide) (fun c2 => ?_) (fun c2 => ?_)
    · have hf := g_t hf c2
      refine lv_iload_n hx hb (dc d_X11_pass 9 rfl) rfl (lv_at hl 2 rfl) ?_
      by_cases c3 : x2 = (0 : Int32)
      · have hf := g_t hf c3
        refine lv_tableIn (off := 42) (tgt := 60) hx hb (dc d_X11_pass 10 rfl) (by rw [c3]; decide) (by rw [c3]; decide) (by rw [c3]; rfl) (by decide) ?_
        refine lv_aload_n hx hb (dc d_X11_pass 11 rfl) rfl (lv_at hl 0 rfl) ?_
        refine x_get C hw fl_X11_28 0 rfl rfl (dc d_X11_pass 12 rfl) ?_
        refine x_get C hw fl_X11_111 6 rfl rfl (dc d_X11_pass 13 rfl) ?_
        refine lv_iload_n hx hb (dc d_X11_pass 14 rfl) rfl (lv_at hl 1 rfl) ?_
        have hi := grd_b hf
        have hf := grd_x hf
        refine x_iald C hw 7 rfl hi (dc d_X11_pass 15 rfl) ?_
        cases hf
        exact x_iret C hA hQ hw rfl rfl (dc d_X11_pass 16 rfl)
      have hf := g_f hf c3
      by_cases c4 : x2 = (1 : Int32)
      · have hf := g_t hf c4
        refine lv_tableIn (off := 52) (tgt := 70) hx hb (dc d_X11_pass 10 rfl) (by rw [c4]; decide) (by rw [c4]; decide) (by rw [c4]; rfl) (by decide) ?_
        refine lv_aload_n hx hb (dc d_X11_pass 17 rfl) rfl (lv_at hl 0 rfl) ?_
        refine x_get C hw fl_X11_28 0 rfl rfl (dc d_X11_pass 18 rfl) ?_
        refine x_get C hw fl_X11_115 6 rfl rfl (dc d_X11_pass 19 rfl) ?_
        refine lv_iload_n hx hb (dc d_X11_pass 20 rfl) rfl (lv_at hl 1 rfl) ?_
        have hi := grd_b hf
        have hf := grd_x hf
        refine x_iald C hw 8 rfl hi (dc d_X11_pass 21 rfl) ?_
        cases hf
        exact x_iret C hA hQ hw rfl rfl (dc d_X11_pass 22 rfl)
      have hf := g_f hf c4
      by_cases c5 : x2 = (2 : Int32)
      · have hf := g_t hf c5
        refine lv_tableIn (off := 62) (tgt := 80) hx hb (dc d_X11_pass 10 rfl) (by rw [c5]; decide) (by rw [c5]; decide) (by rw [c5]; rfl) (by decide) ?_
        refine lv_aload_n hx hb (dc d_X11_pass 23 rfl) rfl (lv_at hl 0 rfl) ?_
        refine x_get C hw fl_X11_28 0 rfl rfl (dc d_X11_pass 24 rfl) ?_
        refine x_get C hw fl_X11_118 6 rfl rfl (dc d_X11_pass 25 rfl) ?_
        refine lv_iload_n hx hb (dc d_X11_pass 26 rfl) rfl (lv_at hl 1 rfl) ?_
        have hi := grd_b hf
        have hf := grd_x hf
        refine x_iald C hw 9 rfl hi (dc d_X11_pass 27 rfl) ?_
        cases hf
        exact x_iret C hA hQ hw rfl rfl (dc d_X11_pass 28 rfl)
      have hf := g_f hf c5
      by_cases c6 : x2 = (3 : Int32)
      · have hf := g_t hf c6
        refine lv_tableIn (off := 72) (tgt := 90) hx hb (dc d_X11_pass 10 rfl) (by rw [c6]; decide) (by rw [c6]; decide) (by rw [c6]; rfl) (by decide) ?_
        refine lv_aload_n hx hb (dc d_X11_pass 29 rfl) rfl (lv_at hl 0 rfl) ?_
        refine x_get C hw fl_X11_28 0 rfl rfl (dc d_X11_pass 30 rfl) ?_
        refine x_get C hw fl_X11_121 6 rfl rfl (dc d_X11_pass 31 rfl) ?_
        refine lv_iload_n hx hb (dc d_X11_pass 32 rfl) rfl (lv_at hl 1 rfl) ?_
        have hi := grd_b hf
        have hf := grd_x hf
        refine x_iald C hw 10 rfl hi (dc d_X11_pass 33 rfl) ?_
        cases hf
        exact x_iret C hA hQ hw rfl rfl (dc d_X11_pass 34 rfl)
      have hf := g_f hf c6
      by_cases c7 : x2 = (4 : Int32)
      · have hf := g_t hf c7
        refine lv_tableIn (off := 82) (tgt := 100) hx hb (dc d_X11_pass 10 rfl) (by rw [c7]; decide) (by rw [c7]; decide) (by rw [c7]; rfl) (by decide) ?_
        refine lv_aload_n hx hb (dc d_X11_pass 35 rfl) rfl (lv_at hl 0 rfl) ?_
        refine x_get C hw fl_X11_35 0 rfl rfl (dc d_X11_pass 36 rfl) ?_
        refine lv_aload_n hx hb (dc d_X11_pass 37 rfl) rfl (lv_at hl 0 rfl) ?_
        refine x_get C hw fl_X11_28 0 rfl rfl (dc d_X11_pass 38 rfl) ?_
        refine lv_iload_n hx hb (dc d_X11_pass 39 rfl) rfl (lv_at hl 1 rfl) ?_
        refine lv_aload_n hx hb (dc d_X11_pass 40 rfl) rfl (lv_at hl 0 rfl) ?_
        refine x_get C hw fl_X11_19 0 rfl rfl (dc d_X11_pass 41 rfl) ?_
        obtain ⟨q8, hq8, hf⟩ := g_bd hf
        refine x_callV C hw mb_X6_becomeOf mv_X6_becomeOf ml_X11_124 (k_X6_becomeOf n hq8) hl.1 rfl rfl [11, 12, 13, 14, 15, 6, 7, 8, 9, 10, 3, 4, 5] rfl rfl rfl 11 6 rfl rfl (Nat.le_of_ble_eq_true rfl) (Nat.le_of_ble_eq_true rfl) (Nat.le_of_ble_eq_true rfl) (dc d_X11_pass 42 rfl) (fun H locs hw => ?_)
        refine W.eq (g2 := F0 m 116 ls []) rfl ?_
        dsimp only [w_X11, w_X6_X3_X5, mix, List.set_cons_succ, List.set_cons_zero] at hw
        have hw : Wd D A s.heap (w_X11 cI cC cZ tq0 tq1 tq2 tq3 tq4 tq5 tq6 tq7 tq8 tq9 tq10 tq11 tq12 tq13 tq14 tq15 tq16 tq17 tq18 tq19 tq20 tq21 tq22 tq23 tq24 tq25 tq26 tq27 tq28 tq29 tq30 tq31 tq32 tq33 tq34 tq35 tq36 tq37 tq38 tq39 tq40 tq41 tq42 tq43 tq44 tq45 tq46 tq47 tq48 tq49 tq50 tq51 t_orders_signs t_orders_count t_rules_settings t_rules_numbers t_work_room t_work_line t_work_strength t_work_water t_work_back t_work_count q8.1 q8.2 t_shape_across t_shape_along t_wished_heights t_wished_hung t_planner_items_room t_planner_items_line t_planner_items_strength t_planner_items_water t_planner_items_back t_planner_items_count t_planner_trial_bends t_planner_trial_laid t_planner_trial_across t_planner_trial_along t_planner_found t_planner_foundWorst t_gauges_heights t_gauges_isRead t_gauges_count t_gauges_bendSum t_gauges_bendPlaces t_spans_lower t_spans_upper t_welds_line t_welds_pull t_welds_best t_welds_count t_welds_bestWorst t_welds_known t_welds_tried t_welds_bent t_welds_trial_bends t_welds_trial_laid t_welds_trial_across t_welds_trial_along t_smiths_smithOf t_smiths_greatest t_smiths_knownFor t_smiths_times t_smiths_sums t_smiths_count t_fraction_upper t_fraction_lower) H locs := hw
        refine lv_aload_n hx hb (dc d_X11_pass 43 rfl) rfl (lv_at hl 0 rfl) ?_
        refine x_get C hw fl_X11_35 0 rfl rfl (dc d_X11_pass 44 rfl) ?_
        refine lv_aload_n hx hb (dc d_X11_pass 45 rfl) rfl (lv_at hl 0 rfl) ?_
        refine x_get C hw fl_X11_28 0 rfl rfl (dc d_X11_pass 46 rfl) ?_
        refine x_get C hw fl_X11_111 6 rfl rfl (dc d_X11_pass 47 rfl) ?_
        refine lv_iload_n hx hb (dc d_X11_pass 48 rfl) rfl (lv_at hl 1 rfl) ?_
        have hi := grd_b hf
        have hf := grd_x hf
        refine x_iald C hw 7 rfl hi (dc d_X11_pass 49 rfl) ?_
        refine lv_aload_n hx hb (dc d_X11_pass 50 rfl) rfl (lv_at hl 0 rfl) ?_
        refine x_get C hw fl_X11_19 0 rfl rfl (dc d_X11_pass 51 rfl) ?_
        obtain ⟨q9, hq9, hf⟩ := g_bd hf
        refine x_callV C hw mb_X6_partOn mv_X6_partOn ml_X11_128 (k_X6_partOn n hq9) hl.1 rfl rfl [11, 12, 13, 14, 15, 3, 4, 5] rfl rfl rfl 11 6 rfl rfl (Nat.le_of_ble_eq_true rfl) (Nat.le_of_ble_eq_true rfl) (Nat.le_of_ble_eq_true rfl) (dc d_X11_pass 52 rfl) (fun H locs hw => ?_)
        refine W.eq (g2 := F0 m 136 ls [.int q9]) rfl ?_
        dsimp only [w_X11, w_X6_X5, mix, List.set_cons_succ, List.set_cons_zero] at hw
        have hw : Wd D A s.heap (w_X11 cI cC cZ tq0 tq1 tq2 tq3 tq4 tq5 tq6 tq7 tq8 tq9 tq10 tq11 tq12 tq13 tq14 tq15 tq16 tq17 tq18 tq19 tq20 tq21 tq22 tq23 tq24 tq25 tq26 tq27 tq28 tq29 tq30 tq31 tq32 tq33 tq34 tq35 tq36 tq37 tq38 tq39 tq40 tq41 tq42 tq43 tq44 tq45 tq46 tq47 tq48 tq49 tq50 tq51 t_orders_signs t_orders_count t_rules_settings t_rules_numbers t_work_room t_work_line t_work_strength t_work_water t_work_back t_work_count q8.1 q8.2 t_shape_across t_shape_along t_wished_heights t_wished_hung t_planner_items_room t_planner_items_line t_planner_items_strength t_planner_items_water t_planner_items_back t_planner_items_count t_planner_trial_bends t_planner_trial_laid t_planner_trial_across t_planner_trial_along t_planner_found t_planner_foundWorst t_gauges_heights t_gauges_isRead t_gauges_count t_gauges_bendSum t_gauges_bendPlaces t_spans_lower t_spans_upper t_welds_line t_welds_pull t_welds_best t_welds_count t_welds_bestWorst t_welds_known t_welds_tried t_welds_bent t_welds_trial_bends t_welds_trial_laid t_welds_trial_across t_welds_trial_along t_smiths_smithOf t_smiths_greatest t_smiths_knownFor t_smiths_times t_smiths_sums t_smiths_count t_fraction_upper t_fraction_lower) H locs := hw
        cases hf
        exact x_iret C hA hQ hw rfl rfl (dc d_X11_pass 53 rfl)
      have hf := g_f hf c7
      by_cases c10 : x2 = (5 : Int32)
      · have hf := g_t hf c10
        refine lv_tableIn (off := 119) (tgt := 137) hx hb (dc d_X11_pass 10 rfl) (by rw [c10]; decide) (by rw [c10]; decide) (by rw [c10]; rfl) (by decide) ?_
        refine lv_aload_n hx hb (dc d_X11_pass 54 rfl) rfl (lv_at hl 0 rfl) ?_
        refine x_get C hw fl_X11_35 0 rfl rfl (dc d_X11_pass 55 rfl) ?_
        refine lv_aload_n hx hb (dc d_X11_pass 56 rfl) rfl (lv_at hl 0 rfl) ?_
        refine x_get C hw fl_X11_28 0 rfl rfl (dc d_X11_pass 57 rfl) ?_
        refine lv_iload_n hx hb (dc d_X11_pass 58 rfl) rfl (lv_at hl 1 rfl) ?_
        refine lv_aload_n hx hb (dc d_X11_pass 59 rfl) rfl (lv_at hl 0 rfl) ?_
        refine x_get C hw fl_X11_19 0 rfl rfl (dc d_X11_pass 60 rfl) ?_
        obtain ⟨q11, hq11, hf⟩ := g_bd hf
        refine x_callV C hw mb_X6_becomeOf mv_X6_becomeOf ml_X11_124 (k_X6_becomeOf n hq11) hl.1 rfl rfl [11, 12, 13, 14, 15, 6, 7, 8, 9, 10, 3, 4, 5] rfl rfl rfl 11 6 rfl rfl (Nat.le_of_ble_eq_true rfl) (Nat.le_of_ble_eq_true rfl) (Nat.le_of_ble_eq_true rfl) (dc d_X11_pass 61 rfl) (fun H locs hw => ?_)
        refine W.eq (g2 := F0 m 153 ls []) rfl ?_
        dsimp only [w_X11, w_X6_X3_X5, mix, List.set_cons_succ, List.set_cons_zero] at hw
        have hw : Wd D A s.heap (w_X11 cI cC cZ tq0 tq1 tq2 tq3 tq4 tq5 tq6 tq7 tq8 tq9 tq10 tq11 tq12 tq13 tq14 tq15 tq16 tq17 tq18 tq19 tq20 tq21 tq22 tq23 tq24 tq25 tq26 tq27 tq28 tq29 tq30 tq31 tq32 tq33 tq34 tq35 tq36 tq37 tq38 tq39 tq40 tq41 tq42 tq43 tq44 tq45 tq46 tq47 tq48 tq49 tq50 tq51 t_orders_signs t_orders_count t_rules_settings t_rules_numbers t_work_room t_work_line t_work_strength t_work_water t_work_back t_work_count q11.1 q11.2 t_shape_across t_shape_along t_wished_heights t_wished_hung t_planner_items_room t_planner_items_line t_planner_items_strength t_planner_items_water t_planner_items_back t_planner_items_count t_planner_trial_bends t_planner_trial_laid t_planner_trial_across t_planner_trial_along t_planner_found t_planner_foundWorst t_gauges_heights t_gauges_isRead t_gauges_count t_gauges_bendSum t_gauges_bendPlaces t_spans_lower t_spans_upper t_welds_line t_welds_pull t_welds_best t_welds_count t_welds_bestWorst t_welds_known t_welds_tried t_welds_bent t_welds_trial_bends t_welds_trial_laid t_welds_trial_across t_welds_trial_along t_smiths_smithOf t_smiths_greatest t_smiths_knownFor t_smiths_times t_smiths_sums t_smiths_count t_fraction_upper t_fraction_lower) H locs := hw
        refine lv_aload_n hx hb (dc d_X11_pass 62 rfl) rfl (lv_at hl 0 rfl) ?_
        refine x_get C hw fl_X11_35 0 rfl rfl (dc d_X11_pass 63 rfl) ?_
        refine lv_aload_n hx hb (dc d_X11_pass 64 rfl) rfl (lv_at hl 0 rfl) ?_
        refine x_get C hw fl_X11_28 0 rfl rfl (dc d_X11_pass 65 rfl) ?_
        refine lv_iload_n hx hb (dc d_X11_pass 66 rfl) rfl (lv_at hl 1 rfl) ?_
        refine lv_aload_n hx hb (dc d_X11_pass 67 rfl) rfl (lv_at hl 0 rfl) ?_
        refine x_get C hw fl_X11_19 0 rfl rfl (dc d_X11_pass 68 rfl) ?_
        obtain ⟨q12, hq12, hf⟩ := g_bd hf
        refine x_callV C hw mb_X6_bentBy mv_X6_bentBy ml_X11_132 (k_X6_bentBy n hq12) hl.1 rfl rfl [11, 12, 13, 14, 15, 6, 7, 8, 9, 10, 3, 4, 5] rfl rfl rfl 11 6 rfl rfl (Nat.le_of_ble_eq_true rfl) (Nat.le_of_ble_eq_true rfl) (Nat.le_of_ble_eq_true rfl) (dc d_X11_pass 69 rfl) (fun H locs hw => ?_)
        refine W.eq (g2 := F0 m 169 ls [.int q12]) rfl ?_
        dsimp only [w_X11, w_X6_X3_X5, mix, List.set_cons_succ, List.set_cons_zero] at hw
        have hw : Wd D A s.heap (w_X11 cI cC cZ tq0 tq1 tq2 tq3 tq4 tq5 tq6 tq7 tq8 tq9 tq10 tq11 tq12 tq13 tq14 tq15 tq16 tq17 tq18 tq19 tq20 tq21 tq22 tq23 tq24 tq25 tq26 tq27 tq28 tq29 tq30 tq31 tq32 tq33 tq34 tq35 tq36 tq37 tq38 tq39 tq40 tq41 tq42 tq43 tq44 tq45 tq46 tq47 tq48 tq49 tq50 tq51 t_orders_signs t_orders_count t_rules_settings t_rules_numbers t_work_room t_work_line t_work_strength t_work_water t_work_back t_work_count q11.1 q11.2 t_shape_across t_shape_along t_wished_heights t_wished_hung t_planner_items_room t_planner_items_line t_planner_items_strength t_planner_items_water t_planner_items_back t_planner_items_count t_planner_trial_bends t_planner_trial_laid t_planner_trial_across t_planner_trial_along t_planner_found t_planner_foundWorst t_gauges_heights t_gauges_isRead t_gauges_count t_gauges_bendSum t_gauges_bendPlaces t_spans_lower t_spans_upper t_welds_line t_welds_pull t_welds_best t_welds_count t_welds_bestWorst t_welds_known t_welds_tried t_welds_bent t_welds_trial_bends t_welds_trial_laid t_welds_trial_across t_welds_trial_along t_smiths_smithOf t_smiths_greatest t_smiths_knownFor t_smiths_times t_smiths_sums t_smiths_count t_fraction_upper t_fraction_lower) H locs := hw
        cases hf
        exact x_iret C hA hQ hw rfl rfl (dc d_X11_pass 70 rfl)
      have hf := g_f hf c10
      by_cases c13 : x2 = (6 : Int32)
      · have hf := g_t hf c13
        refine lv_tableIn (off := 152) (tgt := 170) hx hb (dc d_X11_pass 10 rfl) (by rw [c13]; decide) (by rw [c13]; decide) (by rw [c13]; rfl) (by decide) ?_
        refine lv_aload_n hx hb (dc d_X11_pass 71 rfl) rfl (lv_at hl 0 rfl) ?_
        refine x_get C hw fl_X11_28 0 rfl rfl (dc d_X11_pass 72 rfl) ?_
        refine lv_iload_n hx hb (dc d_X11_pass 73 rfl) rfl (lv_at hl 1 rfl) ?_
        obtain ⟨q14, hq14, hf⟩ := g_bd hf
        refine x_callV C hw mb_X3_time mv_X3_time ml_X11_136 (k_X3_time n hq14) hl.1 rfl rfl [6, 7, 8, 9, 10] rfl rfl rfl 6 3 rfl rfl (Nat.le_of_ble_eq_true rfl) (Nat.le_of_ble_eq_true rfl) (Nat.le_of_ble_eq_true rfl) (dc d_X11_pass 74 rfl) (fun H locs hw => ?_)
        refine W.eq (g2 := F0 m 178 ls [.int q14]) rfl ?_
        dsimp only [w_X11, w_X3, mix, List.set_cons_succ, List.set_cons_zero] at hw
        have hw : Wd D A s.heap (w_X11 cI cC cZ tq0 tq1 tq2 tq3 tq4 tq5 tq6 tq7 tq8 tq9 tq10 tq11 tq12 tq13 tq14 tq15 tq16 tq17 tq18 tq19 tq20 tq21 tq22 tq23 tq24 tq25 tq26 tq27 tq28 tq29 tq30 tq31 tq32 tq33 tq34 tq35 tq36 tq37 tq38 tq39 tq40 tq41 tq42 tq43 tq44 tq45 tq46 tq47 tq48 tq49 tq50 tq51 t_orders_signs t_orders_count t_rules_settings t_rules_numbers t_work_room t_work_line t_work_strength t_work_water t_work_back t_work_count t_shape_bends t_shape_laid t_shape_across t_shape_along t_wished_heights t_wished_hung t_planner_items_room t_planner_items_line t_planner_items_strength t_planner_items_water t_planner_items_back t_planner_items_count t_planner_trial_bends t_planner_trial_laid t_planner_trial_across t_planner_trial_along t_planner_found t_planner_foundWorst t_gauges_heights t_gauges_isRead t_gauges_count t_gauges_bendSum t_gauges_bendPlaces t_spans_lower t_spans_upper t_welds_line t_welds_pull t_welds_best t_welds_count t_welds_bestWorst t_welds_known t_welds_tried t_welds_bent t_welds_trial_bends t_welds_trial_laid t_welds_trial_across t_welds_trial_along t_smiths_smithOf t_smiths_greatest t_smiths_knownFor t_smiths_times t_smiths_sums t_smiths_count t_fraction_upper t_fraction_lower) H locs := hw
        cases hf
        exact x_iret C hA hQ hw rfl rfl (dc d_X11_pass 75 rfl)
      have hf := g_f hf c13
      refine lv_tableOut (tgt := 179) hx hb (dc d_X11_pass 10 rfl) (by have zc3 := sw_ne c3 (k := 0) (by decide); have zc4 := sw_ne c4 (k := 1) (by decide); have zc5 := sw_ne c5 (k := 2) (by decide); have zc6 := sw_ne c6 (k := 3) (by decide); have zc7 := sw_ne c7 (k := 4) (by decide); have zc10 := sw_ne c10 (k := 5) (by decide); have zc13 := sw_ne c13 (k := 6) (by decide); omega) (by decide) ?_
      refine lv_bipush (v := (-2 : Int32)) hx hb (dc d_X11_pass 76 rfl) (by decide) ?_
      cases hf
      exact x_iret C hA hQ hw rfl rfl (dc d_X11_pass 77 rfl)
    · have hf := g_f hf c2
      refine lv_iconst (v := (-1 : Int32)) hx hb (dc d_X11_pass 7 rfl) (by decide) ?_
      cases hf
      exact x_iret C hA hQ hw rfl rfl (dc d_X11_pass 8 rfl)
set_option maxHeartbeats 4000000 in
set_option maxRecDepth 100000 in
theorem k_X11_isNoStrength (n : Nat) {l : Launch} {D : va_G} {cI cC cZ : ClassId}   {x0 : Int32} {o : Int32} (hf : f_X11_isNoStrength n x0 = some o) : Ctr l yX11_isNoStrength cX11_isNoStrength 1 (some .boolean) 0 0 D cI cC cZ [.int x0] [] [] (some (.int o)) := by
  refine Ctr.of (by decide) (Nat.le_of_ble_eq_true rfl) ?_
  intro p e s m args below meth c ls A Q hA hQ C hl hw
  have hx := C.1
  have hb := C.2.1
  have hl : lv_has ls 1 [(0, .int x0)] := hl
  refine lv_iload_n hx hb (dc d_X11_isNoStrength 0 rfl) rfl (lv_at hl 0 rfl) ?_
  refine lv_iconst (v := (1 : Int32)) hx hb (dc d_X11_isNoStrength 1 rfl) (by decide) ?_
  refine lv_icmp_lt (tgt := 11) hx hb (dc d_X11_isNoStrength 2 rfl) (by decide) (fun c1 => ?_) (fun c1 => ?_)
  · have hf := g_t hf c1
    refine lv_iconst (v := (1 : Int32)) hx hb (dc d_X11_isNoStrength 6 rfl) (by decide) ?_
    refine lv_goto (tgt := 16) hx hb (dc d_X11_isNoStrength 7 rfl) (by decide) ?_
    cases hf
    exact x_zret C hA hQ hw rfl rfl (by decide) (dc d_X11_isNoStrength 9 rfl)
  · have hf := g_f hf c1
    refine lv_iload_n hx hb (dc d_X11_isNoStrength 3 rfl) rfl (lv_at hl 0 rfl) ?_
    refine lv_bipush (v := (9 : Int32)) hx hb (dc d_X11_isNoStrength 4 rfl) (by decide) ?_
    refine lv_icmp_le (tgt := 15) hx hb (dc d_X11_isNoStrength 5 rfl) (by decide) (fun c2 => ?_) (fun c2 => ?_)
    · have hf := g_t hf c2
      refine lv_iconst (v := (0 : Int32)) hx hb (dc d_X11_isNoStrength 8 rfl) (by decide) ?_
      cases hf
      exact x_zret C hA hQ hw rfl rfl (by decide) (dc d_X11_isNoStrength 9 rfl)
    · have hf := g_f hf c2
      refine lv_iconst (v := (1 : Int32)) hx hb (dc d_X11_isNoStrength 6 rfl) (by decide) ?_
      refine lv_goto (tgt := 16) hx hb (dc d_X11_isNoStrength 7 rfl) (by decide) ?_
      cases hf
      exact x_zret C hA hQ hw rfl rfl (by decide) (dc d_X11_isNoStrength 9 rfl)
