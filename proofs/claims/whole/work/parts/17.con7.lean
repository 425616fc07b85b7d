/-! Written by wip/gen/all.py. -/
set_option maxHeartbeats 4000000 in
set_option maxRecDepth 100000 in
theorem k_X12_nextOrder (n : Nat) {l : Launch} {D : va_G} {cI cC cZ : ClassId} {tq0 tq1 tq2 tq3 tq4 tq5 tq6 tq7 tq8 tq9 tq10 tq11 tq12 tq13 tq14 tq15 tq16 tq17 tq18 tq19 tq20 tq21 tq22 tq23 tq24 : Nat} {t_signs : Nat → Int32} {t_signMany : Int32} {t_lineOf : Nat → Int32} {t_strengthOf : Nat → Int32} {t_waterOf : Nat → Int32} {t_backOf : Nat → Int32} {t_passes : Int32} {t_tried : Int32} {t_table : Nat → Int32} {t_numbers : Nat → Int32} {t_bends : Nat → Int32} {t_wished : Nat → Int32} {t_itemLine : Nat → Int32} {t_itemStrength : Nat → Int32} {t_itemWater : Nat → Int32} {t_itemBack : Nat → Int32} {t_items : Int32} {t_worstThen : Int32} {t_reading : Nat → Int32} {t_isRead : Nat → Int32} {t_readSum : Int32} {t_readMany : Int32} {t_spanLow : Nat → Int32} {t_spanHigh : Nat → Int32} {t_weldLine : Nat → Int32} {t_weldPull : Nat → Int32} {t_welds : Int32} {t_orderOf : Nat → Int32} {t_bestOrder : Nat → Int32} {t_smithOf : Nat → Int32} {t_bestSmith : Nat → Int32} {t_busy : Nat → Int32}  {o : Int32 × (Nat → Int32)} (hf : f_X12_nextOrder n t_welds t_orderOf = some o) : Ctr l yX12_nextOrder cX12_nextOrder 4 (some .boolean) 1 23 D cI cC cZ [.ref tq0] (w_X12 cI cC cZ tq0 tq1 tq2 tq3 tq4 tq5 tq6 tq7 tq8 tq9 tq10 tq11 tq12 tq13 tq14 tq15 tq16 tq17 tq18 tq19 tq20 tq21 tq22 tq23 tq24 t_signs t_signMany t_lineOf t_strengthOf t_waterOf t_backOf t_passes t_tried t_table t_numbers t_bends t_wished t_itemLine t_itemStrength t_itemWater t_itemBack t_items t_worstThen t_reading t_isRead t_readSum t_readMany t_spanLow t_spanHigh t_weldLine t_weldPull t_welds t_orderOf t_bestOrder t_smithOf t_bestSmith t_busy) (w_X12 cI cC cZ tq0 tq1 tq2 tq3 tq4 tq5 tq6 tq7 tq8 tq9 tq10 tq11 tq12 tq13 tq14 tq15 tq16 tq17 tq18 tq19 tq20 tq21 tq22 tq23 tq24 t_signs t_signMany t_lineOf t_strengthOf t_waterOf t_backOf t_passes t_tried t_table t_numbers t_bends t_wished t_itemLine t_itemStrength t_itemWater t_itemBack t_items t_worstThen t_reading t_isRead t_readSum t_readMany t_spanLow t_spanHigh t_weldLine t_weldPull t_welds o.2 t_bestOrder t_smithOf t_bestSmith t_busy) (some (.int o.1)) := by
  refine Ctr.of (by decide) (Nat.le_of_ble_eq_true rfl) ?_
  intro p e s m args below meth c ls A Q hA hQ C hl hw
  have hx := C.1
  have hb := C.2.1
  have hl : lv_has ls 4 [(0, .ref tq0)] := hl
  have L78 : ∀ (n : Nat), ∀ (t_orderOf : Nat → Int32) (v1 : Int32) (v3 : Int32) (H : Heap) (locs : List Loc) (ls : Array Slot), Wd D A s.heap (w_X12 cI cC cZ tq0 tq1 tq2 tq3 tq4 tq5 tq6 tq7 tq8 tq9 tq10 tq11 tq12 tq13 tq14 tq15 tq16 tq17 tq18 tq19 tq20 tq21 tq22 tq23 tq24 t_signs t_signMany t_lineOf t_strengthOf t_waterOf t_backOf t_passes t_tried t_table t_numbers t_bends t_wished t_itemLine t_itemStrength t_itemWater t_itemBack t_items t_worstThen t_reading t_isRead t_readSum t_readMany t_spanLow t_spanHigh t_weldLine t_weldPull t_welds t_orderOf t_bestOrder t_smithOf t_bestSmith t_busy) H locs → lv_has ls 4 [(0, .ref tq0), (1, .int v1), (3, .int v3)] → f_X12_nextOrder_78 t_welds  n t_orderOf v1 v3 = some o → W p l e (rmOf 1 23) s m args below meth c H locs 0 0 Q (F0 m 78 ls []) := by
    intro  n
    induction n with
    | zero => intro t_orderOf v1 v3 H locs ls hw hl hf; exact (no_none hf).elim
    | succ n ih =>
      intro t_orderOf v1 v3 H locs ls hw hl hf
      have hf : f_X12_nextOrder_78b t_welds  (f_X12_nextOrder_78 t_welds  n) n t_orderOf v1 v3 = some o := hf
      generalize f_X12_nextOrder_78 t_welds  n = k78 at hf ih
      refine lv_iload_n hx hb (dc d_X12_nextOrder 48 rfl) rfl (lv_at hl 2 rfl) ?_
      refine lv_iload_n hx hb (dc d_X12_nextOrder 49 rfl) rfl (lv_at hl 1 rfl) ?_
      refine lv_aload_n hx hb (dc d_X12_nextOrder 50 rfl) rfl (lv_at hl 0 rfl) ?_
      refine x_get C hw fl_X12_243 0 rfl rfl (dc d_X12_nextOrder 51 rfl) ?_
      refine lv_iadd hx hb (dc d_X12_nextOrder 52 rfl) ?_
      refine lv_iload_n hx hb (dc d_X12_nextOrder 53 rfl) rfl (lv_at hl 2 rfl) ?_
      refine lv_isub hx hb (dc d_X12_nextOrder 54 rfl) ?_
      refine lv_icmp_ge (tgt := 109) hx hb (dc d_X12_nextOrder 55 rfl) (by decide) (fun c9 => ?_) (fun c9 => ?_)
      · have hf := g_t hf c9
        refine lv_iconst (v := (1 : Int32)) hx hb (dc d_X12_nextOrder 67 rfl) (by decide) ?_
        cases hf
        exact x_zret C hA hQ hw rfl rfl (by decide) (dc d_X12_nextOrder 68 rfl)
      · have hf := g_f hf c9
        refine lv_aload_n hx hb (dc d_X12_nextOrder 56 rfl) rfl (lv_at hl 0 rfl) ?_
        refine lv_iload_n hx hb (dc d_X12_nextOrder 57 rfl) rfl (lv_at hl 2 rfl) ?_
        refine lv_iload_n hx hb (dc d_X12_nextOrder 58 rfl) rfl (lv_at hl 1 rfl) ?_
        refine lv_aload_n hx hb (dc d_X12_nextOrder 59 rfl) rfl (lv_at hl 0 rfl) ?_
        refine x_get C hw fl_X12_243 0 rfl rfl (dc d_X12_nextOrder 60 rfl) ?_
        refine lv_iadd hx hb (dc d_X12_nextOrder 61 rfl) ?_
        refine lv_iload_n hx hb (dc d_X12_nextOrder 62 rfl) rfl (lv_at hl 2 rfl) ?_
        refine lv_isub hx hb (dc d_X12_nextOrder 63 rfl) ?_
        obtain ⟨q10, hq10, hf⟩ := g_bd hf
        refine x_callVa C hw mb_X12_exchange mv_X12_exchange ml_X12_246 (k_X12_exchange n hq10) hl.1 rfl rfl rfl 0 12 rfl rfl (Nat.le_of_ble_eq_true rfl) (Nat.le_of_ble_eq_true rfl) (Nat.le_of_ble_eq_true rfl) (dc d_X12_nextOrder 64 rfl) (fun H locs hw => ?_)
        refine W.eq (g2 := F0 m 103 ls []) rfl ?_
        have hw : Wd D A s.heap (w_X12 cI cC cZ tq0 tq1 tq2 tq3 tq4 tq5 tq6 tq7 tq8 tq9 tq10 tq11 tq12 tq13 tq14 tq15 tq16 tq17 tq18 tq19 tq20 tq21 tq22 tq23 tq24 t_signs t_signMany t_lineOf t_strengthOf t_waterOf t_backOf t_passes t_tried t_table t_numbers t_bends t_wished t_itemLine t_itemStrength t_itemWater t_itemBack t_items t_worstThen t_reading t_isRead t_readSum t_readMany t_spanLow t_spanHigh t_weldLine t_weldPull t_welds q10 t_bestOrder t_smithOf t_bestSmith t_busy) H locs := hw
        refine lv_iinc (v := (v3 + (1 : Int32))) (lv' := [(3, .int (v3 + (1 : Int32))), (0, .ref tq0), (1, .int v1)]) hx hb (dc d_X12_nextOrder 65 rfl) hl (k := 2) rfl (ii (by decide)) (by decide) rfl (fun ls hl => ?_)
        refine lv_goto (tgt := 78) hx hb (dc d_X12_nextOrder 66 rfl) (by decide) ?_
        exact ih q10 v1 (v3 + (1 : Int32)) _ _ _ hw (lv_sub hl [1, 2, 0] rfl) hf
  have L47 : ∀ (n : Nat), ∀ (t_orderOf : Nat → Int32) (v1 : Int32) (v2 : Int32) (H : Heap) (locs : List Loc) (ls : Array Slot), Wd D A s.heap (w_X12 cI cC cZ tq0 tq1 tq2 tq3 tq4 tq5 tq6 tq7 tq8 tq9 tq10 tq11 tq12 tq13 tq14 tq15 tq16 tq17 tq18 tq19 tq20 tq21 tq22 tq23 tq24 t_signs t_signMany t_lineOf t_strengthOf t_waterOf t_backOf t_passes t_tried t_table t_numbers t_bends t_wished t_itemLine t_itemStrength t_itemWater t_itemBack t_items t_worstThen t_reading t_isRead t_readSum t_readMany t_spanLow t_spanHigh t_weldLine t_weldPull t_welds t_orderOf t_bestOrder t_smithOf t_bestSmith t_busy) H locs → lv_has ls 4 [(0, .ref tq0), (1, .int v1), (2, .int v2)] → f_X12_nextOrder_47 t_welds  n t_orderOf v1 v2 = some o → W p l e (rmOf 1 23) s m args below meth c H locs 0 0 Q (F0 m 47 ls []) := by
    intro  n
    induction n with
    | zero => intro t_orderOf v1 v2 H locs ls hw hl hf; exact (no_none hf).elim
    | succ n ih =>
      intro t_orderOf v1 v2 H locs ls hw hl hf
      have hf : f_X12_nextOrder_47b t_welds  (f_X12_nextOrder_47 t_welds  n) n t_orderOf v1 v2 = some o := hf
      generalize f_X12_nextOrder_47 t_welds  n = k47 at hf ih
      refine lv_aload_n hx hb (dc d_X12_nextOrder 29 rfl) rfl (lv_at hl 0 rfl) ?_
      refine x_get C hw fl_X12_68 0 rfl rfl (dc d_X12_nextOrder 30 rfl) ?_
      refine lv_iload_n hx hb (dc d_X12_nextOrder 31 rfl) rfl (lv_at hl 2 rfl) ?_
      have hi := grd_b hf
      have hf := grd_x hf
      refine x_iald C hw 20 rfl hi (dc d_X12_nextOrder 32 rfl) ?_
      refine lv_aload_n hx hb (dc d_X12_nextOrder 33 rfl) rfl (lv_at hl 0 rfl) ?_
      refine x_get C hw fl_X12_68 0 rfl rfl (dc d_X12_nextOrder 34 rfl) ?_
      refine lv_iload_n hx hb (dc d_X12_nextOrder 35 rfl) rfl (lv_at hl 1 rfl) ?_
      have hi := grd_b hf
      have hf := grd_x hf
      refine x_iald C hw 20 rfl hi (dc d_X12_nextOrder 36 rfl) ?_
      refine lv_icmp_ge (tgt := 68) hx hb (dc d_X12_nextOrder 37 rfl) (by decide) (fun c6 => ?_) (fun c6 => ?_)
      · have hf := g_t hf c6
        refine lv_aload_n hx hb (dc d_X12_nextOrder 40 rfl) rfl (lv_at hl 0 rfl) ?_
        refine lv_iload_n hx hb (dc d_X12_nextOrder 41 rfl) rfl (lv_at hl 1 rfl) ?_
        refine lv_iload_n hx hb (dc d_X12_nextOrder 42 rfl) rfl (lv_at hl 2 rfl) ?_
        obtain ⟨q7, hq7, hf⟩ := g_bd hf
        refine x_callVa C hw mb_X12_exchange mv_X12_exchange ml_X12_246 (k_X12_exchange n hq7) hl.1 rfl rfl rfl 0 12 rfl rfl (Nat.le_of_ble_eq_true rfl) (Nat.le_of_ble_eq_true rfl) (Nat.le_of_ble_eq_true rfl) (dc d_X12_nextOrder 43 rfl) (fun H locs hw => ?_)
        refine W.eq (g2 := F0 m 74 ls []) rfl ?_
        have hw : Wd D A s.heap (w_X12 cI cC cZ tq0 tq1 tq2 tq3 tq4 tq5 tq6 tq7 tq8 tq9 tq10 tq11 tq12 tq13 tq14 tq15 tq16 tq17 tq18 tq19 tq20 tq21 tq22 tq23 tq24 t_signs t_signMany t_lineOf t_strengthOf t_waterOf t_backOf t_passes t_tried t_table t_numbers t_bends t_wished t_itemLine t_itemStrength t_itemWater t_itemBack t_items t_worstThen t_reading t_isRead t_readSum t_readMany t_spanLow t_spanHigh t_weldLine t_weldPull t_welds q7 t_bestOrder t_smithOf t_bestSmith t_busy) H locs := hw
        refine lv_iload_n hx hb (dc d_X12_nextOrder 44 rfl) rfl (lv_at hl 1 rfl) ?_
        refine lv_iconst (v := (1 : Int32)) hx hb (dc d_X12_nextOrder 45 rfl) (by decide) ?_
        refine lv_iadd hx hb (dc d_X12_nextOrder 46 rfl) ?_
        refine lv_topi (fun y8 ey8 => ?_)
        have hf := g_nm hf ey8
        refine lv_istore_n (lv' := [(3, .int y8), (0, .ref tq0), (1, .int v1), (2, .int v2)]) hx hb (dc d_X12_nextOrder 47 rfl) rfl hl (by decide) rfl (fun ls hl => ?_)
        exact L78  n q7 v1 y8 _ _ _ hw (lv_sub hl [1, 2, 0] rfl) hf
      · have hf := g_f hf c6
        refine lv_iinc (v := (v2 + (-1 : Int32))) (lv' := [(2, .int (v2 + (-1 : Int32))), (0, .ref tq0), (1, .int v1)]) hx hb (dc d_X12_nextOrder 38 rfl) hl (k := 2) rfl (ii (by decide)) (by decide) rfl (fun ls hl => ?_)
        refine lv_goto (tgt := 47) hx hb (dc d_X12_nextOrder 39 rfl) (by decide) ?_
        exact ih t_orderOf v1 (v2 + (-1 : Int32)) _ _ _ hw (lv_sub hl [1, 2, 0] rfl) hf
  have L34 : ∀ (n : Nat), ∀ (t_orderOf : Nat → Int32) (v1 : Int32) (H : Heap) (locs : List Loc) (ls : Array Slot), Wd D A s.heap (w_X12 cI cC cZ tq0 tq1 tq2 tq3 tq4 tq5 tq6 tq7 tq8 tq9 tq10 tq11 tq12 tq13 tq14 tq15 tq16 tq17 tq18 tq19 tq20 tq21 tq22 tq23 tq24 t_signs t_signMany t_lineOf t_strengthOf t_waterOf t_backOf t_passes t_tried t_table t_numbers t_bends t_wished t_itemLine t_itemStrength t_itemWater t_itemBack t_items t_worstThen t_reading t_isRead t_readSum t_readMany t_spanLow t_spanHigh t_weldLine t_weldPull t_welds t_orderOf t_bestOrder t_smithOf t_bestSmith t_busy) H locs → lv_has ls 4 [(0, .ref tq0), (1, .int v1)] → f_X12_nextOrder_34 t_welds  n t_orderOf v1 = some o → W p l e (rmOf 1 23) s m args below meth c H locs 0 0 Q (F0 m 34 ls []) := by
    intro  n t_orderOf v1 H locs ls hw hl hf
    refine lv_iload_n hx hb (dc d_X12_nextOrder 20 rfl) rfl (lv_at hl 1 rfl) ?_
    refine lv_if_ge (tgt := 40) hx hb (dc d_X12_nextOrder 21 rfl) (by decide) (fun c4 => ?_) (fun c4 => ?_)
    · have hf := g_t hf c4
      refine lv_aload_n hx hb (dc d_X12_nextOrder 24 rfl) rfl (lv_at hl 0 rfl) ?_
      refine x_get C hw fl_X12_243 0 rfl rfl (dc d_X12_nextOrder 25 rfl) ?_
      refine lv_iconst (v := (1 : Int32)) hx hb (dc d_X12_nextOrder 26 rfl) (by decide) ?_
      refine lv_isub hx hb (dc d_X12_nextOrder 27 rfl) ?_
      refine lv_topi (fun y5 ey5 => ?_)
      have hf := g_nm hf ey5
      refine lv_istore_n (lv' := [(2, .int y5), (0, .ref tq0), (1, .int v1)]) hx hb (dc d_X12_nextOrder 28 rfl) rfl hl (by decide) rfl (fun ls hl => ?_)
      exact L47  n t_orderOf v1 y5 _ _ _ hw (lv_sub hl [1, 2, 0] rfl) hf
    · have hf := g_f hf c4
      refine lv_iconst (v := (0 : Int32)) hx hb (dc d_X12_nextOrder 22 rfl) (by decide) ?_
      cases hf
      exact x_zret C hA hQ hw rfl rfl (by decide) (dc d_X12_nextOrder 23 rfl)
  have L7 : ∀ (n : Nat), ∀ (t_orderOf : Nat → Int32) (v1 : Int32) (H : Heap) (locs : List Loc) (ls : Array Slot), Wd D A s.heap (w_X12 cI cC cZ tq0 tq1 tq2 tq3 tq4 tq5 tq6 tq7 tq8 tq9 tq10 tq11 tq12 tq13 tq14 tq15 tq16 tq17 tq18 tq19 tq20 tq21 tq22 tq23 tq24 t_signs t_signMany t_lineOf t_strengthOf t_waterOf t_backOf t_passes t_tried t_table t_numbers t_bends t_wished t_itemLine t_itemStrength t_itemWater t_itemBack t_items t_worstThen t_reading t_isRead t_readSum t_readMany t_spanLow t_spanHigh t_weldLine t_weldPull t_welds t_orderOf t_bestOrder t_smithOf t_bestSmith t_busy) H locs → lv_has ls 4 [(0, .ref tq0), (1, .int v1)] → f_X12_nextOrder_7 t_welds  n t_orderOf v1 = some o → W p l e (rmOf 1 23) s m args below meth c H locs 0 0 Q (F0 m 7 ls []) := by
    intro  n
    induction n with
    | zero => intro t_orderOf v1 H locs ls hw hl hf; exact (no_none hf).elim
    | succ n ih =>
      intro t_orderOf v1 H locs ls hw hl hf
      have hf : f_X12_nextOrder_7b t_welds  (f_X12_nextOrder_7 t_welds  n) n t_orderOf v1 = some o := hf
      generalize f_X12_nextOrder_7 t_welds  n = k7 at hf ih
      refine lv_iload_n hx hb (dc d_X12_nextOrder 5 rfl) rfl (lv_at hl 1 rfl) ?_
      refine lv_if_lt (tgt := 34) hx hb (dc d_X12_nextOrder 6 rfl) (by decide) (fun c2 => ?_) (fun c2 => ?_)
      · have hf := g_t hf c2
        exact L34  n t_orderOf v1 _ _ _ hw (lv_sub hl [0, 1] rfl) hf
      · have hf := g_f hf c2
        refine lv_aload_n hx hb (dc d_X12_nextOrder 7 rfl) rfl (lv_at hl 0 rfl) ?_
        refine x_get C hw fl_X12_68 0 rfl rfl (dc d_X12_nextOrder 8 rfl) ?_
        refine lv_iload_n hx hb (dc d_X12_nextOrder 9 rfl) rfl (lv_at hl 1 rfl) ?_
        have hi := grd_b hf
        have hf := grd_x hf
        refine x_iald C hw 20 rfl hi (dc d_X12_nextOrder 10 rfl) ?_
        refine lv_aload_n hx hb (dc d_X12_nextOrder 11 rfl) rfl (lv_at hl 0 rfl) ?_
        refine x_get C hw fl_X12_68 0 rfl rfl (dc d_X12_nextOrder 12 rfl) ?_
        refine lv_iload_n hx hb (dc d_X12_nextOrder 13 rfl) rfl (lv_at hl 1 rfl) ?_
        refine lv_iconst (v := (1 : Int32)) hx hb (dc d_X12_nextOrder 14 rfl) (by decide) ?_
        refine lv_iadd hx hb (dc d_X12_nextOrder 15 rfl) ?_
        have hi := grd_b hf
        have hf := grd_x hf
        refine x_iald C hw 20 rfl hi (dc d_X12_nextOrder 16 rfl) ?_
        refine lv_icmp_le (tgt := 34) hx hb (dc d_X12_nextOrder 17 rfl) (by decide) (fun c3 => ?_) (fun c3 => ?_)
        · have hf := g_t hf c3
          exact L34  n t_orderOf v1 _ _ _ hw (lv_sub hl [0, 1] rfl) hf
        · have hf := g_f hf c3
          refine lv_iinc (v := (v1 + (-1 : Int32))) (lv' := [(1, .int (v1 + (-1 : Int32))), (0, .ref tq0)]) hx hb (dc d_X12_nextOrder 18 rfl) hl (k := 1) rfl (ii (by decide)) (by decide) rfl (fun ls hl => ?_)
          refine lv_goto (tgt := 7) hx hb (dc d_X12_nextOrder 19 rfl) (by decide) ?_
          exact ih t_orderOf (v1 + (-1 : Int32)) _ _ _ hw (lv_sub hl [1, 0] rfl) hf
  refine lv_aload_n hx hb (dc d_X12_nextOrder 0 rfl) rfl (lv_at hl 0 rfl) ?_
  refine x_get C hw fl_X12_243 0 rfl rfl (dc d_X12_nextOrder 1 rfl) ?_
  refine lv_iconst (v := (2 : Int32)) hx hb (dc d_X12_nextOrder 2 rfl) (by decide) ?_
  refine lv_isub hx hb (dc d_X12_nextOrder 3 rfl) ?_
  refine lv_topi (fun y1 ey1 => ?_)
  have hf := g_nm hf ey1
  refine lv_istore_n (lv' := [(1, .int y1), (0, .ref tq0)]) hx hb (dc d_X12_nextOrder 4 rfl) rfl hl (by decide) rfl (fun ls hl => ?_)
  exact L7  n t_orderOf y1 _ _ _ hw (lv_sub hl [1, 0] rfl) hf
set_option maxHeartbeats 4000000 in
set_option maxRecDepth 100000 in
theorem k_X12_order (n : Nat) {l : Launch} {D : va_G} {cI cC cZ : ClassId} {tq0 tq1 tq2 tq3 tq4 tq5 tq6 tq7 tq8 tq9 tq10 tq11 tq12 tq13 tq14 tq15 tq16 tq17 tq18 tq19 tq20 tq21 tq22 tq23 tq24 : Nat} {t_signs : Nat → Int32} {t_signMany : Int32} {t_lineOf : Nat → Int32} {t_strengthOf : Nat → Int32} {t_waterOf : Nat → Int32} {t_backOf : Nat → Int32} {t_passes : Int32} {t_tried : Int32} {t_table : Nat → Int32} {t_numbers : Nat → Int32} {t_bends : Nat → Int32} {t_wished : Nat → Int32} {t_itemLine : Nat → Int32} {t_itemStrength : Nat → Int32} {t_itemWater : Nat → Int32} {t_itemBack : Nat → Int32} {t_items : Int32} {t_worstThen : Int32} {t_reading : Nat → Int32} {t_isRead : Nat → Int32} {t_readSum : Int32} {t_readMany : Int32} {t_spanLow : Nat → Int32} {t_spanHigh : Nat → Int32} {t_weldLine : Nat → Int32} {t_weldPull : Nat → Int32} {t_welds : Int32} {t_orderOf : Nat → Int32} {t_bestOrder : Nat → Int32} {t_smithOf : Nat → Int32} {t_bestSmith : Nat → Int32} {t_busy : Nat → Int32} {x1 : Int32} {o : Int32 × (Nat → Int32) × (Nat → Int32) × (Nat → Int32)} (hf : f_X12_order n t_lineOf t_strengthOf t_waterOf t_backOf t_passes t_table t_numbers t_bends t_wished t_weldLine t_weldPull t_welds t_orderOf t_bestOrder x1 = some o) : Ctr l yX12_order cX12_order 6 (some .int) 5 112 D cI cC cZ [.ref tq0, .int x1] (w_X12 cI cC cZ tq0 tq1 tq2 tq3 tq4 tq5 tq6 tq7 tq8 tq9 tq10 tq11 tq12 tq13 tq14 tq15 tq16 tq17 tq18 tq19 tq20 tq21 tq22 tq23 tq24 t_signs t_signMany t_lineOf t_strengthOf t_waterOf t_backOf t_passes t_tried t_table t_numbers t_bends t_wished t_itemLine t_itemStrength t_itemWater t_itemBack t_items t_worstThen t_reading t_isRead t_readSum t_readMany t_spanLow t_spanHigh t_weldLine t_weldPull t_welds t_orderOf t_bestOrder t_smithOf t_bestSmith t_busy) (w_X12 cI cC cZ tq0 tq1 tq2 tq3 tq4 tq5 tq6 tq7 tq8 tq9 tq10 tq11 tq12 tq13 tq14 tq15 tq16 tq17 tq18 tq19 tq20 tq21 tq22 tq23 tq24 t_signs t_signMany t_lineOf t_strengthOf t_waterOf t_backOf t_passes t_tried t_table t_numbers o.2.1 t_wished t_itemLine t_itemStrength t_itemWater t_itemBack t_items t_worstThen t_reading t_isRead t_readSum t_readMany t_spanLow t_spanHigh t_weldLine t_weldPull t_welds o.2.2.1 o.2.2.2 t_smithOf t_bestSmith t_busy) (some (.int o.1)) := by
  refine Ctr.of (by decide) (Nat.le_of_ble_eq_true rfl) ?_
  intro p e s m args below meth c ls A Q hA hQ C hl hw
  have hx := C.1
  have hb := C.2.1
  have hl : lv_has ls 6 [(0, .ref tq0), (1, .int x1)] := hl
  have L79 : ∀ (k28 : (Nat → Int32) → (Nat → Int32) → (Nat → Int32) → (Int32) → (Int32) → (Int32) → Option (Int32 × (Nat → Int32) × (Nat → Int32) × (Nat → Int32))), (∀ (t_bends : Nat → Int32) (t_orderOf : Nat → Int32) (t_bestOrder : Nat → Int32) (v1 : Int32) (v2 : Int32) (v3 : Int32) (H : Heap) (locs : List Loc) (ls : Array Slot), Wd D A s.heap (w_X12 cI cC cZ tq0 tq1 tq2 tq3 tq4 tq5 tq6 tq7 tq8 tq9 tq10 tq11 tq12 tq13 tq14 tq15 tq16 tq17 tq18 tq19 tq20 tq21 tq22 tq23 tq24 t_signs t_signMany t_lineOf t_strengthOf t_waterOf t_backOf t_passes t_tried t_table t_numbers t_bends t_wished t_itemLine t_itemStrength t_itemWater t_itemBack t_items t_worstThen t_reading t_isRead t_readSum t_readMany t_spanLow t_spanHigh t_weldLine t_weldPull t_welds t_orderOf t_bestOrder t_smithOf t_bestSmith t_busy) H locs → lv_has ls 6 [(0, .ref tq0), (1, .int v1), (2, .int v2), (3, .int v3)] → k28 t_bends t_orderOf t_bestOrder v1 v2 v3 = some o → W p l e (rmOf 5 112) s m args below meth c H locs 0 0 Q (F0 m 28 ls [])) → ∀ (n : Nat), ∀ (t_bends : Nat → Int32) (t_orderOf : Nat → Int32) (t_bestOrder : Nat → Int32) (v1 : Int32) (v2 : Int32) (H : Heap) (locs : List Loc) (ls : Array Slot), Wd D A s.heap (w_X12 cI cC cZ tq0 tq1 tq2 tq3 tq4 tq5 tq6 tq7 tq8 tq9 tq10 tq11 tq12 tq13 tq14 tq15 tq16 tq17 tq18 tq19 tq20 tq21 tq22 tq23 tq24 t_signs t_signMany t_lineOf t_strengthOf t_waterOf t_backOf t_passes t_tried t_table t_numbers t_bends t_wished t_itemLine t_itemStrength t_itemWater t_itemBack t_items t_worstThen t_reading t_isRead t_readSum t_readMany t_spanLow t_spanHigh t_weldLine t_weldPull t_welds t_orderOf t_bestOrder t_smithOf t_bestSmith t_busy) H locs → lv_has ls 6 [(0, .ref tq0), (1, .int v1), (2, .int v2)] → f_X12_order_79 t_lineOf t_strengthOf t_waterOf t_backOf t_passes t_table t_numbers t_wished t_weldLine t_weldPull t_welds k28 n t_bends t_orderOf t_bestOrder v1 v2 = some o → W p l e (rmOf 5 112) s m args below meth c H locs 0 0 Q (F0 m 79 ls []) := by
    intro k28 H28 n t_bends t_orderOf t_bestOrder v1 v2 H locs ls hw hl hf
    refine lv_aload_n hx hb (dc d_X12_order 43 rfl) rfl (lv_at hl 0 rfl) ?_
    obtain ⟨q9, hq9, hf⟩ := g_bd hf
    refine x_callVa C hw mb_X12_nextOrder mv_X12_nextOrder ml_X12_253 (k_X12_nextOrder n hq9) hl.1 rfl rfl rfl 0 12 rfl rfl (Nat.le_of_ble_eq_true rfl) (Nat.le_of_ble_eq_true rfl) (Nat.le_of_ble_eq_true rfl) (dc d_X12_order 44 rfl) (fun H locs hw => ?_)
    refine W.eq (g2 := F0 m 83 ls [.int q9.1]) rfl ?_
    have hw : Wd D A s.heap (w_X12 cI cC cZ tq0 tq1 tq2 tq3 tq4 tq5 tq6 tq7 tq8 tq9 tq10 tq11 tq12 tq13 tq14 tq15 tq16 tq17 tq18 tq19 tq20 tq21 tq22 tq23 tq24 t_signs t_signMany t_lineOf t_strengthOf t_waterOf t_backOf t_passes t_tried t_table t_numbers t_bends t_wished t_itemLine t_itemStrength t_itemWater t_itemBack t_items t_worstThen t_reading t_isRead t_readSum t_readMany t_spanLow t_spanHigh t_weldLine t_weldPull t_welds q9.2 t_bestOrder t_smithOf t_bestSmith t_busy) H locs := hw
    refine lv_istore_n (lv' := [(3, .int q9.1), (0, .ref tq0), (1, .int v1), (2, .int v2)]) hx hb (dc d_X12_order 45 rfl) rfl hl (by decide) rfl (fun ls hl => ?_)
    refine lv_goto (tgt := 28) hx hb (dc d_X12_order 46 rfl) (by decide) ?_
    exact H28 t_bends q9.2 t_bestOrder v1 v2 q9.1 _ _ _ hw (lv_sub hl [1, 2, 3, 0] rfl) hf
  have L50 : ∀ (k28 : (Nat → Int32) → (Nat → Int32) → (Nat → Int32) → (Int32) → (Int32) → (Int32) → Option (Int32 × (Nat → Int32) × (Nat → Int32) × (Nat → Int32))), (∀ (t_bends : Nat → Int32) (t_orderOf : Nat → Int32) (t_bestOrder : Nat → Int32) (v1 : Int32) (v2 : Int32) (v3 : Int32) (H : Heap) (locs : List Loc) (ls : Array Slot), Wd D A s.heap (w_X12 cI cC cZ tq0 tq1 tq2 tq3 tq4 tq5 tq6 tq7 tq8 tq9 tq10 tq11 tq12 tq13 tq14 tq15 tq16 tq17 tq18 tq19 tq20 tq21 tq22 tq23 tq24 t_signs t_signMany t_lineOf t_strengthOf t_waterOf t_backOf t_passes t_tried t_table t_numbers t_bends t_wished t_itemLine t_itemStrength t_itemWater t_itemBack t_items t_worstThen t_reading t_isRead t_readSum t_readMany t_spanLow t_spanHigh t_weldLine t_weldPull t_welds t_orderOf t_bestOrder t_smithOf t_bestSmith t_busy) H locs → lv_has ls 6 [(0, .ref tq0), (1, .int v1), (2, .int v2), (3, .int v3)] → k28 t_bends t_orderOf t_bestOrder v1 v2 v3 = some o → W p l e (rmOf 5 112) s m args below meth c H locs 0 0 Q (F0 m 28 ls [])) → ∀ (n : Nat), ∀ (t_bends : Nat → Int32) (t_orderOf : Nat → Int32) (t_bestOrder : Nat → Int32) (v1 : Int32) (v2 : Int32) (v5 : Int32) (H : Heap) (locs : List Loc) (ls : Array Slot), Wd D A s.heap (w_X12 cI cC cZ tq0 tq1 tq2 tq3 tq4 tq5 tq6 tq7 tq8 tq9 tq10 tq11 tq12 tq13 tq14 tq15 tq16 tq17 tq18 tq19 tq20 tq21 tq22 tq23 tq24 t_signs t_signMany t_lineOf t_strengthOf t_waterOf t_backOf t_passes t_tried t_table t_numbers t_bends t_wished t_itemLine t_itemStrength t_itemWater t_itemBack t_items t_worstThen t_reading t_isRead t_readSum t_readMany t_spanLow t_spanHigh t_weldLine t_weldPull t_welds t_orderOf t_bestOrder t_smithOf t_bestSmith t_busy) H locs → lv_has ls 6 [(0, .ref tq0), (1, .int v1), (2, .int v2), (5, .int v5)] → f_X12_order_50 t_lineOf t_strengthOf t_waterOf t_backOf t_passes t_table t_numbers t_wished t_weldLine t_weldPull t_welds k28 n t_bends t_orderOf t_bestOrder v1 v2 v5 = some o → W p l e (rmOf 5 112) s m args below meth c H locs 0 0 Q (F0 m 50 ls []) := by
    intro k28 H28 n
    induction n with
    | zero => intro t_bends t_orderOf t_bestOrder v1 v2 v5 H locs ls hw hl hf; exact (no_none hf).elim
    | succ n ih =>
      intro t_bends t_orderOf t_bestOrder v1 v2 v5 H locs ls hw hl hf
      have hf : f_X12_order_50b t_lineOf t_strengthOf t_waterOf t_backOf t_passes t_table t_numbers t_wished t_weldLine t_weldPull t_welds k28 (f_X12_order_50 t_lineOf t_strengthOf t_waterOf t_backOf t_passes t_table t_numbers t_wished t_weldLine t_weldPull t_welds k28 n) n t_bends t_orderOf t_bestOrder v1 v2 v5 = some o := hf
      generalize f_X12_order_50 t_lineOf t_strengthOf t_waterOf t_backOf t_passes t_table t_numbers t_wished t_weldLine t_weldPull t_welds k28 n = k50 at hf ih
      refine lv_iload hx hb (dc d_X12_order 29 rfl) (lv_at hl 3 rfl) ?_
      refine lv_aload_n hx hb (dc d_X12_order 30 rfl) rfl (lv_at hl 0 rfl) ?_
      refine x_get C hw fl_X12_243 0 rfl rfl (dc d_X12_order 31 rfl) ?_
      refine lv_icmp_ge (tgt := 79) hx hb (dc d_X12_order 32 rfl) (by decide) (fun c8 => ?_) (fun c8 => ?_)
      · have hf := g_t hf c8
        exact L79 k28 H28 n t_bends t_orderOf t_bestOrder v1 v2 _ _ _ hw (lv_sub hl [0, 1, 2] rfl) hf
      · have hf := g_f hf c8
        refine lv_aload_n hx hb (dc d_X12_order 33 rfl) rfl (lv_at hl 0 rfl) ?_
        refine x_get C hw fl_X12_71 0 rfl rfl (dc d_X12_order 34 rfl) ?_
        refine lv_iload hx hb (dc d_X12_order 35 rfl) (lv_at hl 3 rfl) ?_
        refine lv_aload_n hx hb (dc d_X12_order 36 rfl) rfl (lv_at hl 0 rfl) ?_
        refine x_get C hw fl_X12_68 0 rfl rfl (dc d_X12_order 37 rfl) ?_
        refine lv_iload hx hb (dc d_X12_order 38 rfl) (lv_at hl 3 rfl) ?_
        have hi := grd_b hf
        have hf := grd_x hf
        refine x_iald C hw 20 rfl hi (dc d_X12_order 39 rfl) ?_
        have hi := grd_b hf
        have hf := grd_x hf
        refine x_iast C hw 21 rfl hi (dc d_X12_order 40 rfl) (fun H locs hw => ?_)
        dsimp only [w_X12, mix, List.set_cons_succ, List.set_cons_zero] at hw
        have hw : Wd D A s.heap (w_X12 cI cC cZ tq0 tq1 tq2 tq3 tq4 tq5 tq6 tq7 tq8 tq9 tq10 tq11 tq12 tq13 tq14 tq15 tq16 tq17 tq18 tq19 tq20 tq21 tq22 tq23 tq24 t_signs t_signMany t_lineOf t_strengthOf t_waterOf t_backOf t_passes t_tried t_table t_numbers t_bends t_wished t_itemLine t_itemStrength t_itemWater t_itemBack t_items t_worstThen t_reading t_isRead t_readSum t_readMany t_spanLow t_spanHigh t_weldLine t_weldPull t_welds t_orderOf (upd t_bestOrder v5.toNatClampNeg (t_orderOf v5.toNatClampNeg)) t_smithOf t_bestSmith t_busy) H locs := hw
        refine lv_iinc (v := (v5 + (1 : Int32))) (lv' := [(5, .int (v5 + (1 : Int32))), (0, .ref tq0), (1, .int v1), (2, .int v2)]) hx hb (dc d_X12_order 41 rfl) hl (k := 3) rfl (ii (by decide)) (by decide) rfl (fun ls hl => ?_)
        refine lv_goto (tgt := 50) hx hb (dc d_X12_order 42 rfl) (by decide) ?_
        exact ih t_bends t_orderOf (upd t_bestOrder v5.toNatClampNeg (t_orderOf v5.toNatClampNeg)) v1 v2 (v5 + (1 : Int32)) _ _ _ hw (lv_sub hl [1, 2, 3, 0] rfl) hf
  have L28 : ∀ (n : Nat), ∀ (t_bends : Nat → Int32) (t_orderOf : Nat → Int32) (t_bestOrder : Nat → Int32) (v1 : Int32) (v2 : Int32) (v3 : Int32) (H : Heap) (locs : List Loc) (ls : Array Slot), Wd D A s.heap (w_X12 cI cC cZ tq0 tq1 tq2 tq3 tq4 tq5 tq6 tq7 tq8 tq9 tq10 tq11 tq12 tq13 tq14 tq15 tq16 tq17 tq18 tq19 tq20 tq21 tq22 tq23 tq24 t_signs t_signMany t_lineOf t_strengthOf t_waterOf t_backOf t_passes t_tried t_table t_numbers t_bends t_wished t_itemLine t_itemStrength t_itemWater t_itemBack t_items t_worstThen t_reading t_isRead t_readSum t_readMany t_spanLow t_spanHigh t_weldLine t_weldPull t_welds t_orderOf t_bestOrder t_smithOf t_bestSmith t_busy) H locs → lv_has ls 6 [(0, .ref tq0), (1, .int v1), (2, .int v2), (3, .int v3)] → f_X12_order_28 t_lineOf t_strengthOf t_waterOf t_backOf t_passes t_table t_numbers t_wished t_weldLine t_weldPull t_welds  n t_bends t_orderOf t_bestOrder v1 v2 v3 = some o → W p l e (rmOf 5 112) s m args below meth c H locs 0 0 Q (F0 m 28 ls []) := by
    intro  n
    induction n with
    | zero => intro t_bends t_orderOf t_bestOrder v1 v2 v3 H locs ls hw hl hf; exact (no_none hf).elim
    | succ n ih =>
      intro t_bends t_orderOf t_bestOrder v1 v2 v3 H locs ls hw hl hf
      have hf : f_X12_order_28b t_lineOf t_strengthOf t_waterOf t_backOf t_passes t_table t_numbers t_wished t_weldLine t_weldPull t_welds  (f_X12_order_28 t_lineOf t_strengthOf t_waterOf t_backOf t_passes t_table t_numbers t_wished t_weldLine t_weldPull t_welds  n) n t_bends t_orderOf t_bestOrder v1 v2 v3 = some o := hf
      generalize f_X12_order_28 t_lineOf t_strengthOf t_waterOf t_backOf t_passes t_table t_numbers t_wished t_weldLine t_weldPull t_welds  n = k28 at hf ih
      refine lv_iload_n hx hb (dc d_X12_order 17 rfl) rfl (lv_at hl 3 rfl) ?_
      refine lv_if_eq (tgt := 87) hx hb (dc d_X12_order 18 rfl) (by decide) (fun c2 => ?_) (fun c2 => ?_)
      · have hf := g_t hf c2
        refine lv_iload_n hx hb (dc d_X12_order 47 rfl) rfl (lv_at hl 1 rfl) ?_
        refine lv_iconst (v := (-1 : Int32)) hx hb (dc d_X12_order 48 rfl) (by decide) ?_
        refine lv_icmp_ne (tgt := 96) hx hb (dc d_X12_order 49 rfl) (by decide) (fun c3 => ?_) (fun c3 => ?_)
        · have hf := g_f hf c3
          refine lv_iload_n hx hb (dc d_X12_order 52 rfl) rfl (lv_at hl 1 rfl) ?_
          refine lv_i2l (v := v1.toInt64) hx hb (dc d_X12_order 53 rfl) rfl ?_
          refine lv_lconst (v := (0 : Int64)) hx hb (dc d_X12_order 54 rfl) (by decide) ?_
          refine lv_aload_n hx hb (dc d_X12_order 55 rfl) rfl (lv_at hl 0 rfl) ?_
          refine x_get C hw fl_X12_243 0 rfl rfl (dc d_X12_order 56 rfl) ?_
          refine lv_iconst (v := (1 : Int32)) hx hb (dc d_X12_order 57 rfl) (by decide) ?_
          refine lv_isub hx hb (dc d_X12_order 58 rfl) ?_
          refine lv_i2l (v := (t_welds - (1 : Int32)).toInt64) hx hb (dc d_X12_order 59 rfl) rfl ?_
          obtain ⟨q4, hq4, hf⟩ := g_bd hf
          refine x_callS C hw mb_X12_in ms_X12_in ml_X12_85 (k_X12_in n hq4) hl.1 rfl rfl [] rfl rfl rfl (Nat.le_of_ble_eq_true rfl) (Nat.le_of_ble_eq_true rfl) (Nat.le_of_ble_eq_true rfl) (dc d_X12_order 60 rfl) (fun H locs hw => ?_)
          refine W.eq (g2 := F0 m 109 ls [.int q4]) rfl ?_
          have hw : Wd D A s.heap (w_X12 cI cC cZ tq0 tq1 tq2 tq3 tq4 tq5 tq6 tq7 tq8 tq9 tq10 tq11 tq12 tq13 tq14 tq15 tq16 tq17 tq18 tq19 tq20 tq21 tq22 tq23 tq24 t_signs t_signMany t_lineOf t_strengthOf t_waterOf t_backOf t_passes t_tried t_table t_numbers t_bends t_wished t_itemLine t_itemStrength t_itemWater t_itemBack t_items t_worstThen t_reading t_isRead t_readSum t_readMany t_spanLow t_spanHigh t_weldLine t_weldPull t_welds t_orderOf t_bestOrder t_smithOf t_bestSmith t_busy) H locs := hw
          refine lv_if_eq (tgt := 121) hx hb (dc d_X12_order 61 rfl) (by decide) (fun c5 => ?_) (fun c5 => ?_)
          · have hf := g_t hf c5
            refine lv_bipush (v := (-6 : Int32)) hx hb (dc d_X12_order 67 rfl) (by decide) ?_
            cases hf
            exact x_iret C hA hQ hw rfl rfl (dc d_X12_order 68 rfl)
          · have hf := g_f hf c5
            refine lv_aload_n hx hb (dc d_X12_order 62 rfl) rfl (lv_at hl 0 rfl) ?_
            refine x_get C hw fl_X12_71 0 rfl rfl (dc d_X12_order 63 rfl) ?_
            refine lv_iload_n hx hb (dc d_X12_order 64 rfl) rfl (lv_at hl 1 rfl) ?_
            have hi := grd_b hf
            have hf := grd_x hf
            refine x_iald C hw 21 rfl hi (dc d_X12_order 65 rfl) ?_
            refine lv_goto (tgt := 123) hx hb (dc d_X12_order 66 rfl) (by decide) ?_
            cases hf
            exact x_iret C hA hQ hw rfl rfl (dc d_X12_order 68 rfl)
        · have hf := g_t hf c3
          refine lv_iload_n hx hb (dc d_X12_order 50 rfl) rfl (lv_at hl 2 rfl) ?_
          refine lv_goto (tgt := 123) hx hb (dc d_X12_order 51 rfl) (by decide) ?_
          cases hf
          exact x_iret C hA hQ hw rfl rfl (dc d_X12_order 68 rfl)
      · have hf := g_f hf c2
        refine lv_aload_n hx hb (dc d_X12_order 19 rfl) rfl (lv_at hl 0 rfl) ?_
        obtain ⟨q6, hq6, hf⟩ := g_bd hf
        refine x_callVa C hw mb_X12_worstByOrder mv_X12_worstByOrder ml_X12_250 (k_X12_worstByOrder n hq6) hl.1 rfl rfl rfl 0 12 rfl rfl (Nat.le_of_ble_eq_true rfl) (Nat.le_of_ble_eq_true rfl) (Nat.le_of_ble_eq_true rfl) (dc d_X12_order 20 rfl) (fun H locs hw => ?_)
        refine W.eq (g2 := F0 m 36 ls [.int q6.1]) rfl ?_
        have hw : Wd D A s.heap (w_X12 cI cC cZ tq0 tq1 tq2 tq3 tq4 tq5 tq6 tq7 tq8 tq9 tq10 tq11 tq12 tq13 tq14 tq15 tq16 tq17 tq18 tq19 tq20 tq21 tq22 tq23 tq24 t_signs t_signMany t_lineOf t_strengthOf t_waterOf t_backOf t_passes t_tried t_table t_numbers q6.2 t_wished t_itemLine t_itemStrength t_itemWater t_itemBack t_items t_worstThen t_reading t_isRead t_readSum t_readMany t_spanLow t_spanHigh t_weldLine t_weldPull t_welds t_orderOf t_bestOrder t_smithOf t_bestSmith t_busy) H locs := hw
        refine lv_istore (lv' := [(4, .int q6.1), (0, .ref tq0), (1, .int v1), (2, .int v2), (3, .int v3)]) hx hb (dc d_X12_order 21 rfl) hl (by decide) rfl (fun ls hl => ?_)
        refine lv_iload hx hb (dc d_X12_order 22 rfl) (lv_at hl 0 rfl) ?_
        refine lv_iload_n hx hb (dc d_X12_order 23 rfl) rfl (lv_at hl 3 rfl) ?_
        refine lv_icmp_ge (tgt := 79) hx hb (dc d_X12_order 24 rfl) (by decide) (fun c7 => ?_) (fun c7 => ?_)
        · have hf := g_t hf c7
          exact L79 k28 ih n q6.2 t_orderOf t_bestOrder v1 v2 _ _ _ hw (lv_sub hl [1, 2, 3] rfl) hf
        · have hf := g_f hf c7
          refine lv_iload hx hb (dc d_X12_order 25 rfl) (lv_at hl 0 rfl) ?_
          refine lv_istore_n (lv' := [(2, .int q6.1), (4, .int q6.1), (0, .ref tq0), (1, .int v1), (3, .int v3)]) hx hb (dc d_X12_order 26 rfl) rfl hl (by decide) rfl (fun ls hl => ?_)
          refine lv_iconst (v := (0 : Int32)) hx hb (dc d_X12_order 27 rfl) (by decide) ?_
          refine lv_istore (lv' := [(5, .int (0 : Int32)), (2, .int q6.1), (4, .int q6.1), (0, .ref tq0), (1, .int v1), (3, .int v3)]) hx hb (dc d_X12_order 28 rfl) hl (by decide) rfl (fun ls hl => ?_)
          exact L50 k28 ih n q6.2 t_orderOf t_bestOrder v1 q6.1 (0 : Int32) _ _ _ hw (lv_sub hl [3, 4, 1, 0] rfl) hf
  have L2 : ∀ (n : Nat), ∀ (t_bends : Nat → Int32) (t_orderOf : Nat → Int32) (t_bestOrder : Nat → Int32) (v1 : Int32) (v2 : Int32) (H : Heap) (locs : List Loc) (ls : Array Slot), Wd D A s.heap (w_X12 cI cC cZ tq0 tq1 tq2 tq3 tq4 tq5 tq6 tq7 tq8 tq9 tq10 tq11 tq12 tq13 tq14 tq15 tq16 tq17 tq18 tq19 tq20 tq21 tq22 tq23 tq24 t_signs t_signMany t_lineOf t_strengthOf t_waterOf t_backOf t_passes t_tried t_table t_numbers t_bends t_wished t_itemLine t_itemStrength t_itemWater t_itemBack t_items t_worstThen t_reading t_isRead t_readSum t_readMany t_spanLow t_spanHigh t_weldLine t_weldPull t_welds t_orderOf t_bestOrder t_smithOf t_bestSmith t_busy) H locs → lv_has ls 6 [(0, .ref tq0), (1, .int v1), (2, .int v2)] → f_X12_order_2 t_lineOf t_strengthOf t_waterOf t_backOf t_passes t_table t_numbers t_wished t_weldLine t_weldPull t_welds  n t_bends t_orderOf t_bestOrder v1 v2 = some o → W p l e (rmOf 5 112) s m args below meth c H locs 0 0 Q (F0 m 2 ls []) := by
    intro  n
    induction n with
    | zero => intro t_bends t_orderOf t_bestOrder v1 v2 H locs ls hw hl hf; exact (no_none hf).elim
    | succ n ih =>
      intro t_bends t_orderOf t_bestOrder v1 v2 H locs ls hw hl hf
      have hf : f_X12_order_2b t_lineOf t_strengthOf t_waterOf t_backOf t_passes t_table t_numbers t_wished t_weldLine t_weldPull t_welds  (f_X12_order_2 t_lineOf t_strengthOf t_waterOf t_backOf t_passes t_table t_numbers t_wished t_weldLine t_weldPull t_welds  n) n t_bends t_orderOf t_bestOrder v1 v2 = some o := hf
      generalize f_X12_order_2 t_lineOf t_strengthOf t_waterOf t_backOf t_passes t_table t_numbers t_wished t_weldLine t_weldPull t_welds  n = k2 at hf ih
      refine lv_iload_n hx hb (dc d_X12_order 2 rfl) rfl (lv_at hl 2 rfl) ?_
      refine lv_aload_n hx hb (dc d_X12_order 3 rfl) rfl (lv_at hl 0 rfl) ?_
      refine x_get C hw fl_X12_243 0 rfl rfl (dc d_X12_order 4 rfl) ?_
      refine lv_icmp_ge (tgt := 23) hx hb (dc d_X12_order 5 rfl) (by decide) (fun c1 => ?_) (fun c1 => ?_)
      · have hf := g_t hf c1
        refine x_ldc (v := (2000000000 : Int32)) C cn_X12_196 (dc d_X12_order 13 rfl) ?_
        refine lv_istore_n (lv' := [(2, .int (2000000000 : Int32)), (0, .ref tq0), (1, .int v1)]) hx hb (dc d_X12_order 14 rfl) rfl hl (by decide) rfl (fun ls hl => ?_)
        refine lv_iconst (v := (1 : Int32)) hx hb (dc d_X12_order 15 rfl) (by decide) ?_
        refine lv_istore_n (lv' := [(3, .int (1 : Int32)), (2, .int (2000000000 : Int32)), (0, .ref tq0), (1, .int v1)]) hx hb (dc d_X12_order 16 rfl) rfl hl (by decide) rfl (fun ls hl => ?_)
        exact L28  n t_bends t_orderOf t_bestOrder v1 (2000000000 : Int32) (1 : Int32) _ _ _ hw (lv_sub hl [2, 3, 1, 0] rfl) hf
      · have hf := g_f hf c1
        refine lv_aload_n hx hb (dc d_X12_order 6 rfl) rfl (lv_at hl 0 rfl) ?_
        refine x_get C hw fl_X12_68 0 rfl rfl (dc d_X12_order 7 rfl) ?_
        refine lv_iload_n hx hb (dc d_X12_order 8 rfl) rfl (lv_at hl 2 rfl) ?_
        refine lv_iload_n hx hb (dc d_X12_order 9 rfl) rfl (lv_at hl 2 rfl) ?_
        have hi := grd_b hf
        have hf := grd_x hf
        refine x_iast C hw 20 rfl hi (dc d_X12_order 10 rfl) (fun H locs hw => ?_)
        dsimp only [w_X12, mix, List.set_cons_succ, List.set_cons_zero] at hw
        have hw : Wd D A s.heap (w_X12 cI cC cZ tq0 tq1 tq2 tq3 tq4 tq5 tq6 tq7 tq8 tq9 tq10 tq11 tq12 tq13 tq14 tq15 tq16 tq17 tq18 tq19 tq20 tq21 tq22 tq23 tq24 t_signs t_signMany t_lineOf t_strengthOf t_waterOf t_backOf t_passes t_tried t_table t_numbers t_bends t_wished t_itemLine t_itemStrength t_itemWater t_itemBack t_items t_worstThen t_reading t_isRead t_readSum t_readMany t_spanLow t_spanHigh t_weldLine t_weldPull t_welds (upd t_orderOf v2.toNatClampNeg v2) t_bestOrder t_smithOf t_bestSmith t_busy) H locs := hw
        refine lv_iinc (v := (v2 + (1 : Int32))) (lv' := [(2, .int (v2 + (1 : Int32))), (0, .ref tq0), (1, .int v1)]) hx hb (dc d_X12_order 11 rfl) hl (k := 2) rfl (ii (by decide)) (by decide) rfl (fun ls hl => ?_)
        refine lv_goto (tgt := 2) hx hb (dc d_X12_order 12 rfl) (by decide) ?_
        exact ih t_bends (upd t_orderOf v2.toNatClampNeg v2) t_bestOrder v1 (v2 + (1 : Int32)) _ _ _ hw (lv_sub hl [1, 2, 0] rfl) hf
  refine lv_iconst (v := (0 : Int32)) hx hb (dc d_X12_order 0 rfl) (by decide) ?_
  refine lv_istore_n (lv' := [(2, .int (0 : Int32)), (0, .ref tq0), (1, .int x1)]) hx hb (dc d_X12_order 1 rfl) rfl hl (by decide) rfl (fun ls hl => ?_)
  exact L2  n t_bends t_orderOf t_bestOrder x1 (0 : Int32) _ _ _ hw (lv_sub hl [1, 2, 0] rfl) hf
set_option maxHeartbeats 4000000 in
set_option maxRecDepth 100000 in
theorem k_X12_longest (n : Nat) {l : Launch} {D : va_G} {cI cC cZ : ClassId} {tq0 tq1 tq2 tq3 tq4 tq5 tq6 tq7 tq8 tq9 tq10 tq11 tq12 tq13 tq14 tq15 tq16 tq17 tq18 tq19 tq20 tq21 tq22 tq23 tq24 : Nat} {t_signs : Nat → Int32} {t_signMany : Int32} {t_lineOf : Nat → Int32} {t_strengthOf : Nat → Int32} {t_waterOf : Nat → Int32} {t_backOf : Nat → Int32} {t_passes : Int32} {t_tried : Int32} {t_table : Nat → Int32} {t_numbers : Nat → Int32} {t_bends : Nat → Int32} {t_wished : Nat → Int32} {t_itemLine : Nat → Int32} {t_itemStrength : Nat → Int32} {t_itemWater : Nat → Int32} {t_itemBack : Nat → Int32} {t_items : Int32} {t_worstThen : Int32} {t_reading : Nat → Int32} {t_isRead : Nat → Int32} {t_readSum : Int32} {t_readMany : Int32} {t_spanLow : Nat → Int32} {t_spanHigh : Nat → Int32} {t_weldLine : Nat → Int32} {t_weldPull : Nat → Int32} {t_welds : Int32} {t_orderOf : Nat → Int32} {t_bestOrder : Nat → Int32} {t_smithOf : Nat → Int32} {t_bestSmith : Nat → Int32} {t_busy : Nat → Int32} {x1 : Int32} {o : Int32 × (Nat → Int32)} (hf : f_X12_longest n t_strengthOf t_waterOf t_passes t_smithOf t_busy x1 = some o) : Ctr l yX12_longest cX12_longest 4 (some .int) 1 21 D cI cC cZ [.ref tq0, .int x1] (w_X12 cI cC cZ tq0 tq1 tq2 tq3 tq4 tq5 tq6 tq7 tq8 tq9 tq10 tq11 tq12 tq13 tq14 tq15 tq16 tq17 tq18 tq19 tq20 tq21 tq22 tq23 tq24 t_signs t_signMany t_lineOf t_strengthOf t_waterOf t_backOf t_passes t_tried t_table t_numbers t_bends t_wished t_itemLine t_itemStrength t_itemWater t_itemBack t_items t_worstThen t_reading t_isRead t_readSum t_readMany t_spanLow t_spanHigh t_weldLine t_weldPull t_welds t_orderOf t_bestOrder t_smithOf t_bestSmith t_busy) (w_X12 cI cC cZ tq0 tq1 tq2 tq3 tq4 tq5 tq6 tq7 tq8 tq9 tq10 tq11 tq12 tq13 tq14 tq15 tq16 tq17 tq18 tq19 tq20 tq21 tq22 tq23 tq24 t_signs t_signMany t_lineOf t_strengthOf t_waterOf t_backOf t_passes t_tried t_table t_numbers t_bends t_wished t_itemLine t_itemStrength t_itemWater t_itemBack t_items t_worstThen t_reading t_isRead t_readSum t_readMany t_spanLow t_spanHigh t_weldLine t_weldPull t_welds t_orderOf t_bestOrder t_smithOf t_bestSmith o.2) (some (.int o.1)) := by
  refine Ctr.of (by decide) (Nat.le_of_ble_eq_true rfl) ?_
  intro p e s m args below meth c ls A Q hA hQ C hl hw
  have hx := C.1
  have hb := C.2.1
  have hl : lv_has ls 4 [(0, .ref tq0), (1, .int x1)] := hl
  have L24 : ∀ (n : Nat), ∀ (t_busy : Nat → Int32) (v2 : Int32) (v3 : Int32) (H : Heap) (locs : List Loc) (ls : Array Slot), Wd D A s.heap (w_X12 cI cC cZ tq0 tq1 tq2 tq3 tq4 tq5 tq6 tq7 tq8 tq9 tq10 tq11 tq12 tq13 tq14 tq15 tq16 tq17 tq18 tq19 tq20 tq21 tq22 tq23 tq24 t_signs t_signMany t_lineOf t_strengthOf t_waterOf t_backOf t_passes t_tried t_table t_numbers t_bends t_wished t_itemLine t_itemStrength t_itemWater t_itemBack t_items t_worstThen t_reading t_isRead t_readSum t_readMany t_spanLow t_spanHigh t_weldLine t_weldPull t_welds t_orderOf t_bestOrder t_smithOf t_bestSmith t_busy) H locs → lv_has ls 4 [(0, .ref tq0), (2, .int v2), (3, .int v3)] → f_X12_longest_24 t_strengthOf t_waterOf t_passes t_smithOf  n t_busy v2 v3 = some o → W p l e (rmOf 1 21) s m args below meth c H locs 0 0 Q (F0 m 24 ls []) := by
    intro  n
    induction n with
    | zero => intro t_busy v2 v3 H locs ls hw hl hf; exact (no_none hf).elim
    | succ n ih =>
      intro t_busy v2 v3 H locs ls hw hl hf
      have hf : f_X12_longest_24b t_strengthOf t_waterOf t_passes t_smithOf  (f_X12_longest_24 t_strengthOf t_waterOf t_passes t_smithOf  n) n t_busy v2 v3 = some o := hf
      generalize f_X12_longest_24 t_strengthOf t_waterOf t_passes t_smithOf  n = k24 at hf ih
      refine lv_iload_n hx hb (dc d_X12_longest 16 rfl) rfl (lv_at hl 2 rfl) ?_
      refine lv_aload_n hx hb (dc d_X12_longest 17 rfl) rfl (lv_at hl 0 rfl) ?_
      refine x_get C hw fl_X12_113 0 rfl rfl (dc d_X12_longest 18 rfl) ?_
      refine lv_icmp_ge (tgt := 88) hx hb (dc d_X12_longest 19 rfl) (by decide) (fun c2 => ?_) (fun c2 => ?_)
      · have hf := g_t hf c2
        refine lv_iload_n hx hb (dc d_X12_longest 54 rfl) rfl (lv_at hl 1 rfl) ?_
        cases hf
        exact x_iret C hA hQ hw rfl rfl (dc d_X12_longest 55 rfl)
      · have hf := g_f hf c2
        refine lv_aload_n hx hb (dc d_X12_longest 20 rfl) rfl (lv_at hl 0 rfl) ?_
        refine x_get C hw fl_X12_80 0 rfl rfl (dc d_X12_longest 21 rfl) ?_
        refine lv_aload_n hx hb (dc d_X12_longest 22 rfl) rfl (lv_at hl 0 rfl) ?_
        refine x_get C hw fl_X12_74 0 rfl rfl (dc d_X12_longest 23 rfl) ?_
        refine lv_iload_n hx hb (dc d_X12_longest 24 rfl) rfl (lv_at hl 2 rfl) ?_
        have hi := grd_b hf
        have hf := grd_x hf
        refine x_iald C hw 22 rfl hi (dc d_X12_longest 25 rfl) ?_
        refine lv_dup2_11 hx hb (dc d_X12_longest 26 rfl) rfl rfl ?_
        have hi := grd_b hf
        have hf := grd_x hf
        refine x_iald C hw 24 rfl hi (dc d_X12_longest 27 rfl) ?_
        refine lv_aload_n hx hb (dc d_X12_longest 28 rfl) rfl (lv_at hl 0 rfl) ?_
        refine lv_iload_n hx hb (dc d_X12_longest 29 rfl) rfl (lv_at hl 2 rfl) ?_
        obtain ⟨q3, hq3, hf⟩ := g_bd hf
        refine x_callVa C hw mb_X12_timeOf mv_X12_timeOf ml_X12_129 (k_X12_timeOf n hq3) hl.1 rfl rfl rfl 0 12 rfl rfl (Nat.le_of_ble_eq_true rfl) (Nat.le_of_ble_eq_true rfl) (Nat.le_of_ble_eq_true rfl) (dc d_X12_longest 30 rfl) (fun H locs hw => ?_)
        refine W.eq (g2 := F0 m 49 ls [.int q3, .int (t_busy (t_smithOf v3.toNatClampNeg).toNatClampNeg), .int (t_smithOf v3.toNatClampNeg), .ref tq24]) rfl ?_
        have hw : Wd D A s.heap (w_X12 cI cC cZ tq0 tq1 tq2 tq3 tq4 tq5 tq6 tq7 tq8 tq9 tq10 tq11 tq12 tq13 tq14 tq15 tq16 tq17 tq18 tq19 tq20 tq21 tq22 tq23 tq24 t_signs t_signMany t_lineOf t_strengthOf t_waterOf t_backOf t_passes t_tried t_table t_numbers t_bends t_wished t_itemLine t_itemStrength t_itemWater t_itemBack t_items t_worstThen t_reading t_isRead t_readSum t_readMany t_spanLow t_spanHigh t_weldLine t_weldPull t_welds t_orderOf t_bestOrder t_smithOf t_bestSmith t_busy) H locs := hw
        refine lv_iadd hx hb (dc d_X12_longest 31 rfl) ?_
        have hi := grd_b hf
        have hf := grd_x hf
        refine x_iast C hw 24 rfl hi (dc d_X12_longest 32 rfl) (fun H locs hw => ?_)
        dsimp only [w_X12, mix, List.set_cons_succ, List.set_cons_zero] at hw
        have hw : Wd D A s.heap (w_X12 cI cC cZ tq0 tq1 tq2 tq3 tq4 tq5 tq6 tq7 tq8 tq9 tq10 tq11 tq12 tq13 tq14 tq15 tq16 tq17 tq18 tq19 tq20 tq21 tq22 tq23 tq24 t_signs t_signMany t_lineOf t_strengthOf t_waterOf t_backOf t_passes t_tried t_table t_numbers t_bends t_wished t_itemLine t_itemStrength t_itemWater t_itemBack t_items t_worstThen t_reading t_isRead t_readSum t_readMany t_spanLow t_spanHigh t_weldLine t_weldPull t_welds t_orderOf t_bestOrder t_smithOf t_bestSmith (upd t_busy (t_smithOf v3.toNatClampNeg).toNatClampNeg ((t_busy (t_smithOf v3.toNatClampNeg).toNatClampNeg) + q3))) H locs := hw
        refine lv_aload_n hx hb (dc d_X12_longest 33 rfl) rfl (lv_at hl 0 rfl) ?_
        refine x_get C hw fl_X12_80 0 rfl rfl (dc d_X12_longest 34 rfl) ?_
        refine lv_aload_n hx hb (dc d_X12_longest 35 rfl) rfl (lv_at hl 0 rfl) ?_
        refine x_get C hw fl_X12_74 0 rfl rfl (dc d_X12_longest 36 rfl) ?_
        refine lv_iload_n hx hb (dc d_X12_longest 37 rfl) rfl (lv_at hl 2 rfl) ?_
        have hi := grd_b hf
        have hf := grd_x hf
        refine x_iald C hw 22 rfl hi (dc d_X12_longest 38 rfl) ?_
        have hi := grd_b hf
        have hf := grd_x hf
        refine x_iald C hw 24 rfl hi (dc d_X12_longest 39 rfl) ?_
        refine lv_iload_n hx hb (dc d_X12_longest 40 rfl) rfl (lv_at hl 1 rfl) ?_
        refine lv_icmp_le (tgt := 80) hx hb (dc d_X12_longest 41 rfl) (by decide) (fun c4 => ?_) (fun c4 => ?_)
        · have hf := g_t hf c4
          refine lv_iload_n hx hb (dc d_X12_longest 50 rfl) rfl (lv_at hl 1 rfl) ?_
          refine lv_istore_n (lv' := [(2, .int v2), (0, .ref tq0), (3, .int v3)]) hx hb (dc d_X12_longest 51 rfl) rfl hl (by decide) rfl (fun ls hl => ?_)
          refine lv_iinc (v := (v3 + (1 : Int32))) (lv' := [(3, .int (v3 + (1 : Int32))), (2, .int v2), (0, .ref tq0)]) hx hb (dc d_X12_longest 52 rfl) hl (k := 2) rfl (ii (by decide)) (by decide) rfl (fun ls hl => ?_)
          refine lv_goto (tgt := 24) hx hb (dc d_X12_longest 53 rfl) (by decide) ?_
          exact ih (upd t_busy (t_smithOf v3.toNatClampNeg).toNatClampNeg ((t_busy (t_smithOf v3.toNatClampNeg).toNatClampNeg) + q3)) v2 (v3 + (1 : Int32)) _ _ _ hw (lv_sub hl [2, 1, 0] rfl) hf
        · have hf := g_f hf c4
          refine lv_aload_n hx hb (dc d_X12_longest 42 rfl) rfl (lv_at hl 0 rfl) ?_
          refine x_get C hw fl_X12_80 0 rfl rfl (dc d_X12_longest 43 rfl) ?_
          refine lv_aload_n hx hb (dc d_X12_longest 44 rfl) rfl (lv_at hl 0 rfl) ?_
          refine x_get C hw fl_X12_74 0 rfl rfl (dc d_X12_longest 45 rfl) ?_
          refine lv_iload_n hx hb (dc d_X12_longest 46 rfl) rfl (lv_at hl 2 rfl) ?_
          have hi := grd_b hf
          have hf := grd_x hf
          refine x_iald C hw 22 rfl hi (dc d_X12_longest 47 rfl) ?_
          have hi := grd_b hf
          have hf := grd_x hf
          refine x_iald C hw 24 rfl hi (dc d_X12_longest 48 rfl) ?_
          refine lv_goto (tgt := 81) hx hb (dc d_X12_longest 49 rfl) (by decide) ?_
          refine lv_topi (fun y5 ey5 => ?_)
          have hf := g_nm hf ey5
          refine lv_istore_n (lv' := [(2, .int y5), (0, .ref tq0), (3, .int v3)]) hx hb (dc d_X12_longest 51 rfl) rfl hl (by decide) rfl (fun ls hl => ?_)
          refine lv_iinc (v := (v3 + (1 : Int32))) (lv' := [(3, .int (v3 + (1 : Int32))), (2, .int y5), (0, .ref tq0)]) hx hb (dc d_X12_longest 52 rfl) hl (k := 2) rfl (ii (by decide)) (by decide) rfl (fun ls hl => ?_)
          refine lv_goto (tgt := 24) hx hb (dc d_X12_longest 53 rfl) (by decide) ?_
          exact ih (upd t_busy (t_smithOf v3.toNatClampNeg).toNatClampNeg ((t_busy (t_smithOf v3.toNatClampNeg).toNatClampNeg) + q3)) y5 (v3 + (1 : Int32)) _ _ _ hw (lv_sub hl [2, 1, 0] rfl) hf
  have L2 : ∀ (n : Nat), ∀ (t_busy : Nat → Int32) (v1 : Int32) (v2 : Int32) (H : Heap) (locs : List Loc) (ls : Array Slot), Wd D A s.heap (w_X12 cI cC cZ tq0 tq1 tq2 tq3 tq4 tq5 tq6 tq7 tq8 tq9 tq10 tq11 tq12 tq13 tq14 tq15 tq16 tq17 tq18 tq19 tq20 tq21 tq22 tq23 tq24 t_signs t_signMany t_lineOf t_strengthOf t_waterOf t_backOf t_passes t_tried t_table t_numbers t_bends t_wished t_itemLine t_itemStrength t_itemWater t_itemBack t_items t_worstThen t_reading t_isRead t_readSum t_readMany t_spanLow t_spanHigh t_weldLine t_weldPull t_welds t_orderOf t_bestOrder t_smithOf t_bestSmith t_busy) H locs → lv_has ls 4 [(0, .ref tq0), (1, .int v1), (2, .int v2)] → f_X12_longest_2 t_strengthOf t_waterOf t_passes t_smithOf  n t_busy v1 v2 = some o → W p l e (rmOf 1 21) s m args below meth c H locs 0 0 Q (F0 m 2 ls []) := by
    intro  n
    induction n with
    | zero => intro t_busy v1 v2 H locs ls hw hl hf; exact (no_none hf).elim
    | succ n ih =>
      intro t_busy v1 v2 H locs ls hw hl hf
      have hf : f_X12_longest_2b t_strengthOf t_waterOf t_passes t_smithOf  (f_X12_longest_2 t_strengthOf t_waterOf t_passes t_smithOf  n) n t_busy v1 v2 = some o := hf
      generalize f_X12_longest_2 t_strengthOf t_waterOf t_passes t_smithOf  n = k2 at hf ih
      refine lv_iload_n hx hb (dc d_X12_longest 2 rfl) rfl (lv_at hl 2 rfl) ?_
      refine lv_iload_n hx hb (dc d_X12_longest 3 rfl) rfl (lv_at hl 1 rfl) ?_
      refine lv_icmp_ge (tgt := 20) hx hb (dc d_X12_longest 4 rfl) (by decide) (fun c1 => ?_) (fun c1 => ?_)
      · have hf := g_t hf c1
        refine lv_iconst (v := (0 : Int32)) hx hb (dc d_X12_longest 12 rfl) (by decide) ?_
        refine lv_istore_n (lv' := [(2, .int (0 : Int32)), (0, .ref tq0), (1, .int v1)]) hx hb (dc d_X12_longest 13 rfl) rfl hl (by decide) rfl (fun ls hl => ?_)
        refine lv_iconst (v := (0 : Int32)) hx hb (dc d_X12_longest 14 rfl) (by decide) ?_
        refine lv_istore_n (lv' := [(3, .int (0 : Int32)), (2, .int (0 : Int32)), (0, .ref tq0), (1, .int v1)]) hx hb (dc d_X12_longest 15 rfl) rfl hl (by decide) rfl (fun ls hl => ?_)
        exact L24  n t_busy (0 : Int32) (0 : Int32) _ _ _ hw (lv_sub hl [2, 1, 0] rfl) hf
      · have hf := g_f hf c1
        refine lv_aload_n hx hb (dc d_X12_longest 5 rfl) rfl (lv_at hl 0 rfl) ?_
        refine x_get C hw fl_X12_80 0 rfl rfl (dc d_X12_longest 6 rfl) ?_
        refine lv_iload_n hx hb (dc d_X12_longest 7 rfl) rfl (lv_at hl 2 rfl) ?_
        refine lv_iconst (v := (0 : Int32)) hx hb (dc d_X12_longest 8 rfl) (by decide) ?_
        have hi := grd_b hf
        have hf := grd_x hf
        refine x_iast C hw 24 rfl hi (dc d_X12_longest 9 rfl) (fun H locs hw => ?_)
        dsimp only [w_X12, mix, List.set_cons_succ, List.set_cons_zero] at hw
        have hw : Wd D A s.heap (w_X12 cI cC cZ tq0 tq1 tq2 tq3 tq4 tq5 tq6 tq7 tq8 tq9 tq10 tq11 tq12 tq13 tq14 tq15 tq16 tq17 tq18 tq19 tq20 tq21 tq22 tq23 tq24 t_signs t_signMany t_lineOf t_strengthOf t_waterOf t_backOf t_passes t_tried t_table t_numbers t_bends t_wished t_itemLine t_itemStrength t_itemWater t_itemBack t_items t_worstThen t_reading t_isRead t_readSum t_readMany t_spanLow t_spanHigh t_weldLine t_weldPull t_welds t_orderOf t_bestOrder t_smithOf t_bestSmith (upd t_busy v2.toNatClampNeg (0 : Int32))) H locs := hw
        refine lv_iinc (v := (v2 + (1 : Int32))) (lv' := [(2, .int (v2 + (1 : Int32))), (0, .ref tq0), (1, .int v1)]) hx hb (dc d_X12_longest 10 rfl) hl (k := 2) rfl (ii (by decide)) (by decide) rfl (fun ls hl => ?_)
        refine lv_goto (tgt := 2) hx hb (dc d_X12_longest 11 rfl) (by decide) ?_
        exact ih (upd t_busy v2.toNatClampNeg (0 : Int32)) v1 (v2 + (1 : Int32)) _ _ _ hw (lv_sub hl [1, 2, 0] rfl) hf
  refine lv_iconst (v := (0 : Int32)) hx hb (dc d_X12_longest 0 rfl) (by decide) ?_
  refine lv_istore_n (lv' := [(2, .int (0 : Int32)), (0, .ref tq0), (1, .int x1)]) hx hb (dc d_X12_longest 1 rfl) rfl hl (by decide) rfl (fun ls hl => ?_)
  exact L2  n t_busy x1 (0 : Int32) _ _ _ hw (lv_sub hl [1, 2, 0] rfl) hf
set_option maxHeartbeats 4000000 in
set_option maxRecDepth 100000 in
theorem k_X12_nextShares (n : Nat) {l : Launch} {D : va_G} {cI cC cZ : ClassId} {tq0 tq1 tq2 tq3 tq4 tq5 tq6 tq7 tq8 tq9 tq10 tq11 tq12 tq13 tq14 tq15 tq16 tq17 tq18 tq19 tq20 tq21 tq22 tq23 tq24 : Nat} {t_signs : Nat → Int32} {t_signMany : Int32} {t_lineOf : Nat → Int32} {t_strengthOf : Nat → Int32} {t_waterOf : Nat → Int32} {t_backOf : Nat → Int32} {t_passes : Int32} {t_tried : Int32} {t_table : Nat → Int32} {t_numbers : Nat → Int32} {t_bends : Nat → Int32} {t_wished : Nat → Int32} {t_itemLine : Nat → Int32} {t_itemStrength : Nat → Int32} {t_itemWater : Nat → Int32} {t_itemBack : Nat → Int32} {t_items : Int32} {t_worstThen : Int32} {t_reading : Nat → Int32} {t_isRead : Nat → Int32} {t_readSum : Int32} {t_readMany : Int32} {t_spanLow : Nat → Int32} {t_spanHigh : Nat → Int32} {t_weldLine : Nat → Int32} {t_weldPull : Nat → Int32} {t_welds : Int32} {t_orderOf : Nat → Int32} {t_bestOrder : Nat → Int32} {t_smithOf : Nat → Int32} {t_bestSmith : Nat → Int32} {t_busy : Nat → Int32} {x1 : Int32} {o : Int32 × (Nat → Int32)} (hf : f_X12_nextShares n t_passes t_smithOf x1 = some o) : Ctr l yX12_nextShares cX12_nextShares 3 (some .boolean) 0 0 D cI cC cZ [.ref tq0, .int x1] (w_X12 cI cC cZ tq0 tq1 tq2 tq3 tq4 tq5 tq6 tq7 tq8 tq9 tq10 tq11 tq12 tq13 tq14 tq15 tq16 tq17 tq18 tq19 tq20 tq21 tq22 tq23 tq24 t_signs t_signMany t_lineOf t_strengthOf t_waterOf t_backOf t_passes t_tried t_table t_numbers t_bends t_wished t_itemLine t_itemStrength t_itemWater t_itemBack t_items t_worstThen t_reading t_isRead t_readSum t_readMany t_spanLow t_spanHigh t_weldLine t_weldPull t_welds t_orderOf t_bestOrder t_smithOf t_bestSmith t_busy) (w_X12 cI cC cZ tq0 tq1 tq2 tq3 tq4 tq5 tq6 tq7 tq8 tq9 tq10 tq11 tq12 tq13 tq14 tq15 tq16 tq17 tq18 tq19 tq20 tq21 tq22 tq23 tq24 t_signs t_signMany t_lineOf t_strengthOf t_waterOf t_backOf t_passes t_tried t_table t_numbers t_bends t_wished t_itemLine t_itemStrength t_itemWater t_itemBack t_items t_worstThen t_reading t_isRead t_readSum t_readMany t_spanLow t_spanHigh t_weldLine t_weldPull t_welds t_orderOf t_bestOrder o.2 t_bestSmith t_busy) (some (.int o.1)) := by
  refine Ctr.of (by decide) (Nat.le_of_ble_eq_true rfl) ?_
  intro p e s m args below meth c ls A Q hA hQ C hl hw
  have hx := C.1
  have hb := C.2.1
  have hl : lv_has ls 3 [(0, .ref tq0), (1, .int x1)] := hl
  have L7 : ∀ (n : Nat), ∀ (t_smithOf : Nat → Int32) (v1 : Int32) (v2 : Int32) (H : Heap) (locs : List Loc) (ls : Array Slot), Wd D A s.heap (w_X12 cI cC cZ tq0 tq1 tq2 tq3 tq4 tq5 tq6 tq7 tq8 tq9 tq10 tq11 tq12 tq13 tq14 tq15 tq16 tq17 tq18 tq19 tq20 tq21 tq22 tq23 tq24 t_signs t_signMany t_lineOf t_strengthOf t_waterOf t_backOf t_passes t_tried t_table t_numbers t_bends t_wished t_itemLine t_itemStrength t_itemWater t_itemBack t_items t_worstThen t_reading t_isRead t_readSum t_readMany t_spanLow t_spanHigh t_weldLine t_weldPull t_welds t_orderOf t_bestOrder t_smithOf t_bestSmith t_busy) H locs → lv_has ls 3 [(0, .ref tq0), (1, .int v1), (2, .int v2)] → f_X12_nextShares_7 t_passes  n t_smithOf v1 v2 = some o → W p l e (rmOf 0 0) s m args below meth c H locs 0 0 Q (F0 m 7 ls []) := by
    intro  n
    induction n with
    | zero => intro t_smithOf v1 v2 H locs ls hw hl hf; exact (no_none hf).elim
    | succ n ih =>
      intro t_smithOf v1 v2 H locs ls hw hl hf
      have hf : f_X12_nextShares_7b t_passes  (f_X12_nextShares_7 t_passes  n) n t_smithOf v1 v2 = some o := hf
      generalize f_X12_nextShares_7 t_passes  n = k7 at hf ih
      refine lv_iload_n hx hb (dc d_X12_nextShares 5 rfl) rfl (lv_at hl 2 rfl) ?_
      refine lv_if_lt (tgt := 48) hx hb (dc d_X12_nextShares 6 rfl) (by decide) (fun c2 => ?_) (fun c2 => ?_)
      · have hf := g_t hf c2
        refine lv_iconst (v := (0 : Int32)) hx hb (dc d_X12_nextShares 32 rfl) (by decide) ?_
        cases hf
        exact x_zret C hA hQ hw rfl rfl (by decide) (dc d_X12_nextShares 33 rfl)
      · have hf := g_f hf c2
        refine lv_aload_n hx hb (dc d_X12_nextShares 7 rfl) rfl (lv_at hl 0 rfl) ?_
        refine x_get C hw fl_X12_74 0 rfl rfl (dc d_X12_nextShares 8 rfl) ?_
        refine lv_iload_n hx hb (dc d_X12_nextShares 9 rfl) rfl (lv_at hl 2 rfl) ?_
        have hi := grd_b hf
        have hf := grd_x hf
        refine x_iald C hw 22 rfl hi (dc d_X12_nextShares 10 rfl) ?_
        refine lv_iload_n hx hb (dc d_X12_nextShares 11 rfl) rfl (lv_at hl 1 rfl) ?_
        refine lv_iconst (v := (1 : Int32)) hx hb (dc d_X12_nextShares 12 rfl) (by decide) ?_
        refine lv_isub hx hb (dc d_X12_nextShares 13 rfl) ?_
        refine lv_icmp_ge (tgt := 35) hx hb (dc d_X12_nextShares 14 rfl) (by decide) (fun c3 => ?_) (fun c3 => ?_)
        · have hf := g_t hf c3
          refine lv_aload_n hx hb (dc d_X12_nextShares 25 rfl) rfl (lv_at hl 0 rfl) ?_
          refine x_get C hw fl_X12_74 0 rfl rfl (dc d_X12_nextShares 26 rfl) ?_
          refine lv_iload_n hx hb (dc d_X12_nextShares 27 rfl) rfl (lv_at hl 2 rfl) ?_
          refine lv_iconst (v := (0 : Int32)) hx hb (dc d_X12_nextShares 28 rfl) (by decide) ?_
          have hi := grd_b hf
          have hf := grd_x hf
          refine x_iast C hw 22 rfl hi (dc d_X12_nextShares 29 rfl) (fun H locs hw => ?_)
          dsimp only [w_X12, mix, List.set_cons_succ, List.set_cons_zero] at hw
          have hw : Wd D A s.heap (w_X12 cI cC cZ tq0 tq1 tq2 tq3 tq4 tq5 tq6 tq7 tq8 tq9 tq10 tq11 tq12 tq13 tq14 tq15 tq16 tq17 tq18 tq19 tq20 tq21 tq22 tq23 tq24 t_signs t_signMany t_lineOf t_strengthOf t_waterOf t_backOf t_passes t_tried t_table t_numbers t_bends t_wished t_itemLine t_itemStrength t_itemWater t_itemBack t_items t_worstThen t_reading t_isRead t_readSum t_readMany t_spanLow t_spanHigh t_weldLine t_weldPull t_welds t_orderOf t_bestOrder (upd t_smithOf v2.toNatClampNeg (0 : Int32)) t_bestSmith t_busy) H locs := hw
          refine lv_iinc (v := (v2 + (-1 : Int32))) (lv' := [(2, .int (v2 + (-1 : Int32))), (0, .ref tq0), (1, .int v1)]) hx hb (dc d_X12_nextShares 30 rfl) hl (k := 2) rfl (ii (by decide)) (by decide) rfl (fun ls hl => ?_)
          refine lv_goto (tgt := 7) hx hb (dc d_X12_nextShares 31 rfl) (by decide) ?_
          exact ih (upd t_smithOf v2.toNatClampNeg (0 : Int32)) v1 (v2 + (-1 : Int32)) _ _ _ hw (lv_sub hl [1, 2, 0] rfl) hf
        · have hf := g_f hf c3
          refine lv_aload_n hx hb (dc d_X12_nextShares 15 rfl) rfl (lv_at hl 0 rfl) ?_
          refine x_get C hw fl_X12_74 0 rfl rfl (dc d_X12_nextShares 16 rfl) ?_
          refine lv_iload_n hx hb (dc d_X12_nextShares 17 rfl) rfl (lv_at hl 2 rfl) ?_
          refine lv_dup2_11 hx hb (dc d_X12_nextShares 18 rfl) rfl rfl ?_
          have hi := grd_b hf
          have hf := grd_x hf
          refine x_iald C hw 22 rfl hi (dc d_X12_nextShares 19 rfl) ?_
          refine lv_iconst (v := (1 : Int32)) hx hb (dc d_X12_nextShares 20 rfl) (by decide) ?_
          refine lv_iadd hx hb (dc d_X12_nextShares 21 rfl) ?_
          have hi := grd_b hf
          have hf := grd_x hf
          refine x_iast C hw 22 rfl hi (dc d_X12_nextShares 22 rfl) (fun H locs hw => ?_)
          dsimp only [w_X12, mix, List.set_cons_succ, List.set_cons_zero] at hw
          have hw : Wd D A s.heap (w_X12 cI cC cZ tq0 tq1 tq2 tq3 tq4 tq5 tq6 tq7 tq8 tq9 tq10 tq11 tq12 tq13 tq14 tq15 tq16 tq17 tq18 tq19 tq20 tq21 tq22 tq23 tq24 t_signs t_signMany t_lineOf t_strengthOf t_waterOf t_backOf t_passes t_tried t_table t_numbers t_bends t_wished t_itemLine t_itemStrength t_itemWater t_itemBack t_items t_worstThen t_reading t_isRead t_readSum t_readMany t_spanLow t_spanHigh t_weldLine t_weldPull t_welds t_orderOf t_bestOrder (upd t_smithOf v2.toNatClampNeg ((t_smithOf v2.toNatClampNeg) + (1 : Int32))) t_bestSmith t_busy) H locs := hw
          refine lv_iconst (v := (1 : Int32)) hx hb (dc d_X12_nextShares 23 rfl) (by decide) ?_
          cases hf
          exact x_zret C hA hQ hw rfl rfl (by decide) (dc d_X12_nextShares 24 rfl)
  refine lv_aload_n hx hb (dc d_X12_nextShares 0 rfl) rfl (lv_at hl 0 rfl) ?_
  refine x_get C hw fl_X12_113 0 rfl rfl (dc d_X12_nextShares 1 rfl) ?_
  refine lv_iconst (v := (1 : Int32)) hx hb (dc d_X12_nextShares 2 rfl) (by decide) ?_
  refine lv_isub hx hb (dc d_X12_nextShares 3 rfl) ?_
  refine lv_topi (fun y1 ey1 => ?_)
  have hf := g_nm hf ey1
  refine lv_istore_n (lv' := [(2, .int y1), (0, .ref tq0), (1, .int x1)]) hx hb (dc d_X12_nextShares 4 rfl) rfl hl (by decide) rfl (fun ls hl => ?_)
  exact L7  n t_smithOf x1 y1 _ _ _ hw (lv_sub hl [1, 2, 0] rfl) hf
set_option maxHeartbeats 4000000 in
set_option maxRecDepth 100000 in
theorem k_X12_shared (n : Nat) {l : Launch} {D : va_G} {cI cC cZ : ClassId} {tq0 tq1 tq2 tq3 tq4 tq5 tq6 tq7 tq8 tq9 tq10 tq11 tq12 tq13 tq14 tq15 tq16 tq17 tq18 tq19 tq20 tq21 tq22 tq23 tq24 : Nat} {t_signs : Nat → Int32} {t_signMany : Int32} {t_lineOf : Nat → Int32} {t_strengthOf : Nat → Int32} {t_waterOf : Nat → Int32} {t_backOf : Nat → Int32} {t_passes : Int32} {t_tried : Int32} {t_table : Nat → Int32} {t_numbers : Nat → Int32} {t_bends : Nat → Int32} {t_wished : Nat → Int32} {t_itemLine : Nat → Int32} {t_itemStrength : Nat → Int32} {t_itemWater : Nat → Int32} {t_itemBack : Nat → Int32} {t_items : Int32} {t_worstThen : Int32} {t_reading : Nat → Int32} {t_isRead : Nat → Int32} {t_readSum : Int32} {t_readMany : Int32} {t_spanLow : Nat → Int32} {t_spanHigh : Nat → Int32} {t_weldLine : Nat → Int32} {t_weldPull : Nat → Int32} {t_welds : Int32} {t_orderOf : Nat → Int32} {t_bestOrder : Nat → Int32} {t_smithOf : Nat → Int32} {t_bestSmith : Nat → Int32} {t_busy : Nat → Int32} {x1 : Int32} {x2 : Int32} {o : Int32 × (Nat → Int32) × (Nat → Int32) × (Nat → Int32)} (hf : f_X12_shared n t_strengthOf t_waterOf t_passes t_smithOf t_bestSmith t_busy x1 x2 = some o) : Ctr l yX12_shared cX12_shared 7 (some .int) 2 44 D cI cC cZ [.ref tq0, .int x1, .int x2] (w_X12 cI cC cZ tq0 tq1 tq2 tq3 tq4 tq5 tq6 tq7 tq8 tq9 tq10 tq11 tq12 tq13 tq14 tq15 tq16 tq17 tq18 tq19 tq20 tq21 tq22 tq23 tq24 t_signs t_signMany t_lineOf t_strengthOf t_waterOf t_backOf t_passes t_tried t_table t_numbers t_bends t_wished t_itemLine t_itemStrength t_itemWater t_itemBack t_items t_worstThen t_reading t_isRead t_readSum t_readMany t_spanLow t_spanHigh t_weldLine t_weldPull t_welds t_orderOf t_bestOrder t_smithOf t_bestSmith t_busy) (w_X12 cI cC cZ tq0 tq1 tq2 tq3 tq4 tq5 tq6 tq7 tq8 tq9 tq10 tq11 tq12 tq13 tq14 tq15 tq16 tq17 tq18 tq19 tq20 tq21 tq22 tq23 tq24 t_signs t_signMany t_lineOf t_strengthOf t_waterOf t_backOf t_passes t_tried t_table t_numbers t_bends t_wished t_itemLine t_itemStrength t_itemWater t_itemBack t_items t_worstThen t_reading t_isRead t_readSum t_readMany t_spanLow t_spanHigh t_weldLine t_weldPull t_welds t_orderOf t_bestOrder o.2.1 o.2.2.1 o.2.2.2) (some (.int o.1)) := by
  refine Ctr.of (by decide) (Nat.le_of_ble_eq_true rfl) ?_
  intro p e s m args below meth c ls A Q hA hQ C hl hw
  have hx := C.1
  have hb := C.2.1
  have hl : lv_has ls 7 [(0, .ref tq0), (1, .int x1), (2, .int x2)] := hl
  have L97 : ∀ (k44 : (Nat → Int32) → (Nat → Int32) → (Nat → Int32) → (Int32) → (Int32) → (Int32) → (Int32) → Option (Int32 × (Nat → Int32) × (Nat → Int32) × (Nat → Int32))), (∀ (t_smithOf : Nat → Int32) (t_bestSmith : Nat → Int32) (t_busy : Nat → Int32) (v1 : Int32) (v2 : Int32) (v3 : Int32) (v4 : Int32) (H : Heap) (locs : List Loc) (ls : Array Slot), Wd D A s.heap (w_X12 cI cC cZ tq0 tq1 tq2 tq3 tq4 tq5 tq6 tq7 tq8 tq9 tq10 tq11 tq12 tq13 tq14 tq15 tq16 tq17 tq18 tq19 tq20 tq21 tq22 tq23 tq24 t_signs t_signMany t_lineOf t_strengthOf t_waterOf t_backOf t_passes t_tried t_table t_numbers t_bends t_wished t_itemLine t_itemStrength t_itemWater t_itemBack t_items t_worstThen t_reading t_isRead t_readSum t_readMany t_spanLow t_spanHigh t_weldLine t_weldPull t_welds t_orderOf t_bestOrder t_smithOf t_bestSmith t_busy) H locs → lv_has ls 7 [(0, .ref tq0), (1, .int v1), (2, .int v2), (3, .int v3), (4, .int v4)] → k44 t_smithOf t_bestSmith t_busy v1 v2 v3 v4 = some o → W p l e (rmOf 2 44) s m args below meth c H locs 0 0 Q (F0 m 44 ls [])) → ∀ (n : Nat), ∀ (t_smithOf : Nat → Int32) (t_bestSmith : Nat → Int32) (t_busy : Nat → Int32) (v1 : Int32) (v2 : Int32) (v3 : Int32) (H : Heap) (locs : List Loc) (ls : Array Slot), Wd D A s.heap (w_X12 cI cC cZ tq0 tq1 tq2 tq3 tq4 tq5 tq6 tq7 tq8 tq9 tq10 tq11 tq12 tq13 tq14 tq15 tq16 tq17 tq18 tq19 tq20 tq21 tq22 tq23 tq24 t_signs t_signMany t_lineOf t_strengthOf t_waterOf t_backOf t_passes t_tried t_table t_numbers t_bends t_wished t_itemLine t_itemStrength t_itemWater t_itemBack t_items t_worstThen t_reading t_isRead t_readSum t_readMany t_spanLow t_spanHigh t_weldLine t_weldPull t_welds t_orderOf t_bestOrder t_smithOf t_bestSmith t_busy) H locs → lv_has ls 7 [(0, .ref tq0), (1, .int v1), (2, .int v2), (3, .int v3)] → f_X12_shared_97 t_strengthOf t_waterOf t_passes k44 n t_smithOf t_bestSmith t_busy v1 v2 v3 = some o → W p l e (rmOf 2 44) s m args below meth c H locs 0 0 Q (F0 m 97 ls []) := by
    intro k44 H44 n t_smithOf t_bestSmith t_busy v1 v2 v3 H locs ls hw hl hf
    refine lv_aload_n hx hb (dc d_X12_shared 52 rfl) rfl (lv_at hl 0 rfl) ?_
    refine lv_iload_n hx hb (dc d_X12_shared 53 rfl) rfl (lv_at hl 1 rfl) ?_
    obtain ⟨q11, hq11, hf⟩ := g_bd hf
    refine x_callVa C hw mb_X12_nextShares mv_X12_nextShares ml_X12_261 (k_X12_nextShares n hq11) hl.1 rfl rfl rfl 0 12 rfl rfl (Nat.le_of_ble_eq_true rfl) (Nat.le_of_ble_eq_true rfl) (Nat.le_of_ble_eq_true rfl) (dc d_X12_shared 54 rfl) (fun H locs hw => ?_)
    refine W.eq (g2 := F0 m 102 ls [.int q11.1]) rfl ?_
    have hw : Wd D A s.heap (w_X12 cI cC cZ tq0 tq1 tq2 tq3 tq4 tq5 tq6 tq7 tq8 tq9 tq10 tq11 tq12 tq13 tq14 tq15 tq16 tq17 tq18 tq19 tq20 tq21 tq22 tq23 tq24 t_signs t_signMany t_lineOf t_strengthOf t_waterOf t_backOf t_passes t_tried t_table t_numbers t_bends t_wished t_itemLine t_itemStrength t_itemWater t_itemBack t_items t_worstThen t_reading t_isRead t_readSum t_readMany t_spanLow t_spanHigh t_weldLine t_weldPull t_welds t_orderOf t_bestOrder q11.2 t_bestSmith t_busy) H locs := hw
    refine lv_istore (lv' := [(4, .int q11.1), (0, .ref tq0), (1, .int v1), (2, .int v2), (3, .int v3)]) hx hb (dc d_X12_shared 55 rfl) hl (by decide) rfl (fun ls hl => ?_)
    refine lv_goto (tgt := 44) hx hb (dc d_X12_shared 56 rfl) (by decide) ?_
    exact H44 q11.2 t_bestSmith t_busy v1 v2 v3 q11.1 _ _ _ hw (lv_sub hl [1, 2, 3, 4, 0] rfl) hf
  have L68 : ∀ (k44 : (Nat → Int32) → (Nat → Int32) → (Nat → Int32) → (Int32) → (Int32) → (Int32) → (Int32) → Option (Int32 × (Nat → Int32) × (Nat → Int32) × (Nat → Int32))), (∀ (t_smithOf : Nat → Int32) (t_bestSmith : Nat → Int32) (t_busy : Nat → Int32) (v1 : Int32) (v2 : Int32) (v3 : Int32) (v4 : Int32) (H : Heap) (locs : List Loc) (ls : Array Slot), Wd D A s.heap (w_X12 cI cC cZ tq0 tq1 tq2 tq3 tq4 tq5 tq6 tq7 tq8 tq9 tq10 tq11 tq12 tq13 tq14 tq15 tq16 tq17 tq18 tq19 tq20 tq21 tq22 tq23 tq24 t_signs t_signMany t_lineOf t_strengthOf t_waterOf t_backOf t_passes t_tried t_table t_numbers t_bends t_wished t_itemLine t_itemStrength t_itemWater t_itemBack t_items t_worstThen t_reading t_isRead t_readSum t_readMany t_spanLow t_spanHigh t_weldLine t_weldPull t_welds t_orderOf t_bestOrder t_smithOf t_bestSmith t_busy) H locs → lv_has ls 7 [(0, .ref tq0), (1, .int v1), (2, .int v2), (3, .int v3), (4, .int v4)] → k44 t_smithOf t_bestSmith t_busy v1 v2 v3 v4 = some o → W p l e (rmOf 2 44) s m args below meth c H locs 0 0 Q (F0 m 44 ls [])) → ∀ (n : Nat), ∀ (t_smithOf : Nat → Int32) (t_bestSmith : Nat → Int32) (t_busy : Nat → Int32) (v1 : Int32) (v2 : Int32) (v3 : Int32) (v6 : Int32) (H : Heap) (locs : List Loc) (ls : Array Slot), Wd D A s.heap (w_X12 cI cC cZ tq0 tq1 tq2 tq3 tq4 tq5 tq6 tq7 tq8 tq9 tq10 tq11 tq12 tq13 tq14 tq15 tq16 tq17 tq18 tq19 tq20 tq21 tq22 tq23 tq24 t_signs t_signMany t_lineOf t_strengthOf t_waterOf t_backOf t_passes t_tried t_table t_numbers t_bends t_wished t_itemLine t_itemStrength t_itemWater t_itemBack t_items t_worstThen t_reading t_isRead t_readSum t_readMany t_spanLow t_spanHigh t_weldLine t_weldPull t_welds t_orderOf t_bestOrder t_smithOf t_bestSmith t_busy) H locs → lv_has ls 7 [(0, .ref tq0), (1, .int v1), (2, .int v2), (3, .int v3), (6, .int v6)] → f_X12_shared_68 t_strengthOf t_waterOf t_passes k44 n t_smithOf t_bestSmith t_busy v1 v2 v3 v6 = some o → W p l e (rmOf 2 44) s m args below meth c H locs 0 0 Q (F0 m 68 ls []) := by
    intro k44 H44 n
    induction n with
    | zero => intro t_smithOf t_bestSmith t_busy v1 v2 v3 v6 H locs ls hw hl hf; exact (no_none hf).elim
    | succ n ih =>
      intro t_smithOf t_bestSmith t_busy v1 v2 v3 v6 H locs ls hw hl hf
      have hf : f_X12_shared_68b t_strengthOf t_waterOf t_passes k44 (f_X12_shared_68 t_strengthOf t_waterOf t_passes k44 n) n t_smithOf t_bestSmith t_busy v1 v2 v3 v6 = some o := hf
      generalize f_X12_shared_68 t_strengthOf t_waterOf t_passes k44 n = k68 at hf ih
      refine lv_iload hx hb (dc d_X12_shared 38 rfl) (lv_at hl 4 rfl) ?_
      refine lv_aload_n hx hb (dc d_X12_shared 39 rfl) rfl (lv_at hl 0 rfl) ?_
      refine x_get C hw fl_X12_113 0 rfl rfl (dc d_X12_shared 40 rfl) ?_
      refine lv_icmp_ge (tgt := 97) hx hb (dc d_X12_shared 41 rfl) (by decide) (fun c10 => ?_) (fun c10 => ?_)
      · have hf := g_t hf c10
        exact L97 k44 H44 n t_smithOf t_bestSmith t_busy v1 v2 v3 _ _ _ hw (lv_sub hl [0, 1, 2, 3] rfl) hf
      · have hf := g_f hf c10
        refine lv_aload_n hx hb (dc d_X12_shared 42 rfl) rfl (lv_at hl 0 rfl) ?_
        refine x_get C hw fl_X12_77 0 rfl rfl (dc d_X12_shared 43 rfl) ?_
        refine lv_iload hx hb (dc d_X12_shared 44 rfl) (lv_at hl 4 rfl) ?_
        refine lv_aload_n hx hb (dc d_X12_shared 45 rfl) rfl (lv_at hl 0 rfl) ?_
        refine x_get C hw fl_X12_74 0 rfl rfl (dc d_X12_shared 46 rfl) ?_
        refine lv_iload hx hb (dc d_X12_shared 47 rfl) (lv_at hl 4 rfl) ?_
        have hi := grd_b hf
        have hf := grd_x hf
        refine x_iald C hw 22 rfl hi (dc d_X12_shared 48 rfl) ?_
        have hi := grd_b hf
        have hf := grd_x hf
        refine x_iast C hw 23 rfl hi (dc d_X12_shared 49 rfl) (fun H locs hw => ?_)
        dsimp only [w_X12, mix, List.set_cons_succ, List.set_cons_zero] at hw
        have hw : Wd D A s.heap (w_X12 cI cC cZ tq0 tq1 tq2 tq3 tq4 tq5 tq6 tq7 tq8 tq9 tq10 tq11 tq12 tq13 tq14 tq15 tq16 tq17 tq18 tq19 tq20 tq21 tq22 tq23 tq24 t_signs t_signMany t_lineOf t_strengthOf t_waterOf t_backOf t_passes t_tried t_table t_numbers t_bends t_wished t_itemLine t_itemStrength t_itemWater t_itemBack t_items t_worstThen t_reading t_isRead t_readSum t_readMany t_spanLow t_spanHigh t_weldLine t_weldPull t_welds t_orderOf t_bestOrder t_smithOf (upd t_bestSmith v6.toNatClampNeg (t_smithOf v6.toNatClampNeg)) t_busy) H locs := hw
        refine lv_iinc (v := (v6 + (1 : Int32))) (lv' := [(6, .int (v6 + (1 : Int32))), (0, .ref tq0), (1, .int v1), (2, .int v2), (3, .int v3)]) hx hb (dc d_X12_shared 50 rfl) hl (k := 4) rfl (ii (by decide)) (by decide) rfl (fun ls hl => ?_)
        refine lv_goto (tgt := 68) hx hb (dc d_X12_shared 51 rfl) (by decide) ?_
        exact ih t_smithOf (upd t_bestSmith v6.toNatClampNeg (t_smithOf v6.toNatClampNeg)) t_busy v1 v2 v3 (v6 + (1 : Int32)) _ _ _ hw (lv_sub hl [1, 2, 3, 4, 0] rfl) hf
  have L44 : ∀ (n : Nat), ∀ (t_smithOf : Nat → Int32) (t_bestSmith : Nat → Int32) (t_busy : Nat → Int32) (v1 : Int32) (v2 : Int32) (v3 : Int32) (v4 : Int32) (H : Heap) (locs : List Loc) (ls : Array Slot), Wd D A s.heap (w_X12 cI cC cZ tq0 tq1 tq2 tq3 tq4 tq5 tq6 tq7 tq8 tq9 tq10 tq11 tq12 tq13 tq14 tq15 tq16 tq17 tq18 tq19 tq20 tq21 tq22 tq23 tq24 t_signs t_signMany t_lineOf t_strengthOf t_waterOf t_backOf t_passes t_tried t_table t_numbers t_bends t_wished t_itemLine t_itemStrength t_itemWater t_itemBack t_items t_worstThen t_reading t_isRead t_readSum t_readMany t_spanLow t_spanHigh t_weldLine t_weldPull t_welds t_orderOf t_bestOrder t_smithOf t_bestSmith t_busy) H locs → lv_has ls 7 [(0, .ref tq0), (1, .int v1), (2, .int v2), (3, .int v3), (4, .int v4)] → f_X12_shared_44 t_strengthOf t_waterOf t_passes  n t_smithOf t_bestSmith t_busy v1 v2 v3 v4 = some o → W p l e (rmOf 2 44) s m args below meth c H locs 0 0 Q (F0 m 44 ls []) := by
    intro  n
    induction n with
    | zero => intro t_smithOf t_bestSmith t_busy v1 v2 v3 v4 H locs ls hw hl hf; exact (no_none hf).elim
    | succ n ih =>
      intro t_smithOf t_bestSmith t_busy v1 v2 v3 v4 H locs ls hw hl hf
      have hf : f_X12_shared_44b t_strengthOf t_waterOf t_passes  (f_X12_shared_44 t_strengthOf t_waterOf t_passes  n) n t_smithOf t_bestSmith t_busy v1 v2 v3 v4 = some o := hf
      generalize f_X12_shared_44 t_strengthOf t_waterOf t_passes  n = k44 at hf ih
      refine lv_iload hx hb (dc d_X12_shared 25 rfl) (lv_at hl 4 rfl) ?_
      refine lv_if_eq (tgt := 107) hx hb (dc d_X12_shared 26 rfl) (by decide) (fun c4 => ?_) (fun c4 => ?_)
      · have hf := g_t hf c4
        refine lv_iload_n hx hb (dc d_X12_shared 57 rfl) rfl (lv_at hl 2 rfl) ?_
        refine lv_iconst (v := (-1 : Int32)) hx hb (dc d_X12_shared 58 rfl) (by decide) ?_
        refine lv_icmp_ne (tgt := 116) hx hb (dc d_X12_shared 59 rfl) (by decide) (fun c5 => ?_) (fun c5 => ?_)
        · have hf := g_f hf c5
          refine lv_iload_n hx hb (dc d_X12_shared 62 rfl) rfl (lv_at hl 2 rfl) ?_
          refine lv_i2l (v := v2.toInt64) hx hb (dc d_X12_shared 63 rfl) rfl ?_
          refine lv_lconst (v := (0 : Int64)) hx hb (dc d_X12_shared 64 rfl) (by decide) ?_
          refine lv_aload_n hx hb (dc d_X12_shared 65 rfl) rfl (lv_at hl 0 rfl) ?_
          refine x_get C hw fl_X12_113 0 rfl rfl (dc d_X12_shared 66 rfl) ?_
          refine lv_iconst (v := (1 : Int32)) hx hb (dc d_X12_shared 67 rfl) (by decide) ?_
          refine lv_isub hx hb (dc d_X12_shared 68 rfl) ?_
          refine lv_i2l (v := (t_passes - (1 : Int32)).toInt64) hx hb (dc d_X12_shared 69 rfl) rfl ?_
          obtain ⟨q6, hq6, hf⟩ := g_bd hf
          refine x_callS C hw mb_X12_in ms_X12_in ml_X12_85 (k_X12_in n hq6) hl.1 rfl rfl [] rfl rfl rfl (Nat.le_of_ble_eq_true rfl) (Nat.le_of_ble_eq_true rfl) (Nat.le_of_ble_eq_true rfl) (dc d_X12_shared 70 rfl) (fun H locs hw => ?_)
          refine W.eq (g2 := F0 m 129 ls [.int q6]) rfl ?_
          have hw : Wd D A s.heap (w_X12 cI cC cZ tq0 tq1 tq2 tq3 tq4 tq5 tq6 tq7 tq8 tq9 tq10 tq11 tq12 tq13 tq14 tq15 tq16 tq17 tq18 tq19 tq20 tq21 tq22 tq23 tq24 t_signs t_signMany t_lineOf t_strengthOf t_waterOf t_backOf t_passes t_tried t_table t_numbers t_bends t_wished t_itemLine t_itemStrength t_itemWater t_itemBack t_items t_worstThen t_reading t_isRead t_readSum t_readMany t_spanLow t_spanHigh t_weldLine t_weldPull t_welds t_orderOf t_bestOrder t_smithOf t_bestSmith t_busy) H locs := hw
          refine lv_if_eq (tgt := 141) hx hb (dc d_X12_shared 71 rfl) (by decide) (fun c7 => ?_) (fun c7 => ?_)
          · have hf := g_t hf c7
            refine lv_bipush (v := (-6 : Int32)) hx hb (dc d_X12_shared 77 rfl) (by decide) ?_
            cases hf
            exact x_iret C hA hQ hw rfl rfl (dc d_X12_shared 78 rfl)
          · have hf := g_f hf c7
            refine lv_aload_n hx hb (dc d_X12_shared 72 rfl) rfl (lv_at hl 0 rfl) ?_
            refine x_get C hw fl_X12_77 0 rfl rfl (dc d_X12_shared 73 rfl) ?_
            refine lv_iload_n hx hb (dc d_X12_shared 74 rfl) rfl (lv_at hl 2 rfl) ?_
            have hi := grd_b hf
            have hf := grd_x hf
            refine x_iald C hw 23 rfl hi (dc d_X12_shared 75 rfl) ?_
            refine lv_goto (tgt := 143) hx hb (dc d_X12_shared 76 rfl) (by decide) ?_
            cases hf
            exact x_iret C hA hQ hw rfl rfl (dc d_X12_shared 78 rfl)
        · have hf := g_t hf c5
          refine lv_iload_n hx hb (dc d_X12_shared 60 rfl) rfl (lv_at hl 3 rfl) ?_
          refine lv_goto (tgt := 143) hx hb (dc d_X12_shared 61 rfl) (by decide) ?_
          cases hf
          exact x_iret C hA hQ hw rfl rfl (dc d_X12_shared 78 rfl)
      · have hf := g_f hf c4
        refine lv_aload_n hx hb (dc d_X12_shared 27 rfl) rfl (lv_at hl 0 rfl) ?_
        refine lv_iload_n hx hb (dc d_X12_shared 28 rfl) rfl (lv_at hl 1 rfl) ?_
        obtain ⟨q8, hq8, hf⟩ := g_bd hf
        refine x_callVa C hw mb_X12_longest mv_X12_longest ml_X12_258 (k_X12_longest n hq8) hl.1 rfl rfl rfl 0 12 rfl rfl (Nat.le_of_ble_eq_true rfl) (Nat.le_of_ble_eq_true rfl) (Nat.le_of_ble_eq_true rfl) (dc d_X12_shared 29 rfl) (fun H locs hw => ?_)
        refine W.eq (g2 := F0 m 54 ls [.int q8.1]) rfl ?_
        have hw : Wd D A s.heap (w_X12 cI cC cZ tq0 tq1 tq2 tq3 tq4 tq5 tq6 tq7 tq8 tq9 tq10 tq11 tq12 tq13 tq14 tq15 tq16 tq17 tq18 tq19 tq20 tq21 tq22 tq23 tq24 t_signs t_signMany t_lineOf t_strengthOf t_waterOf t_backOf t_passes t_tried t_table t_numbers t_bends t_wished t_itemLine t_itemStrength t_itemWater t_itemBack t_items t_worstThen t_reading t_isRead t_readSum t_readMany t_spanLow t_spanHigh t_weldLine t_weldPull t_welds t_orderOf t_bestOrder t_smithOf t_bestSmith q8.2) H locs := hw
        refine lv_istore (lv' := [(5, .int q8.1), (0, .ref tq0), (1, .int v1), (2, .int v2), (3, .int v3), (4, .int v4)]) hx hb (dc d_X12_shared 30 rfl) hl (by decide) rfl (fun ls hl => ?_)
        refine lv_iload hx hb (dc d_X12_shared 31 rfl) (lv_at hl 0 rfl) ?_
        refine lv_iload_n hx hb (dc d_X12_shared 32 rfl) rfl (lv_at hl 4 rfl) ?_
        refine lv_icmp_ge (tgt := 97) hx hb (dc d_X12_shared 33 rfl) (by decide) (fun c9 => ?_) (fun c9 => ?_)
        · have hf := g_t hf c9
          exact L97 k44 ih n t_smithOf t_bestSmith q8.2 v1 v2 v3 _ _ _ hw (lv_sub hl [1, 2, 3, 4] rfl) hf
        · have hf := g_f hf c9
          refine lv_iload hx hb (dc d_X12_shared 34 rfl) (lv_at hl 0 rfl) ?_
          refine lv_istore_n (lv' := [(3, .int q8.1), (5, .int q8.1), (0, .ref tq0), (1, .int v1), (2, .int v2), (4, .int v4)]) hx hb (dc d_X12_shared 35 rfl) rfl hl (by decide) rfl (fun ls hl => ?_)
          refine lv_iconst (v := (0 : Int32)) hx hb (dc d_X12_shared 36 rfl) (by decide) ?_
          refine lv_istore (lv' := [(6, .int (0 : Int32)), (3, .int q8.1), (5, .int q8.1), (0, .ref tq0), (1, .int v1), (2, .int v2), (4, .int v4)]) hx hb (dc d_X12_shared 37 rfl) hl (by decide) rfl (fun ls hl => ?_)
          exact L68 k44 ih n t_smithOf t_bestSmith q8.2 v1 v2 q8.1 (0 : Int32) _ _ _ hw (lv_sub hl [3, 4, 5, 1, 0] rfl) hf
  have L17 : ∀ (n : Nat), ∀ (t_smithOf : Nat → Int32) (t_bestSmith : Nat → Int32) (t_busy : Nat → Int32) (v1 : Int32) (v2 : Int32) (v3 : Int32) (H : Heap) (locs : List Loc) (ls : Array Slot), Wd D A s.heap (w_X12 cI cC cZ tq0 tq1 tq2 tq3 tq4 tq5 tq6 tq7 tq8 tq9 tq10 tq11 tq12 tq13 tq14 tq15 tq16 tq17 tq18 tq19 tq20 tq21 tq22 tq23 tq24 t_signs t_signMany t_lineOf t_strengthOf t_waterOf t_backOf t_passes t_tried t_table t_numbers t_bends t_wished t_itemLine t_itemStrength t_itemWater t_itemBack t_items t_worstThen t_reading t_isRead t_readSum t_readMany t_spanLow t_spanHigh t_weldLine t_weldPull t_welds t_orderOf t_bestOrder t_smithOf t_bestSmith t_busy) H locs → lv_has ls 7 [(0, .ref tq0), (1, .int v1), (2, .int v2), (3, .int v3)] → f_X12_shared_17 t_strengthOf t_waterOf t_passes  n t_smithOf t_bestSmith t_busy v1 v2 v3 = some o → W p l e (rmOf 2 44) s m args below meth c H locs 0 0 Q (F0 m 17 ls []) := by
    intro  n
    induction n with
    | zero => intro t_smithOf t_bestSmith t_busy v1 v2 v3 H locs ls hw hl hf; exact (no_none hf).elim
    | succ n ih =>
      intro t_smithOf t_bestSmith t_busy v1 v2 v3 H locs ls hw hl hf
      have hf : f_X12_shared_17b t_strengthOf t_waterOf t_passes  (f_X12_shared_17 t_strengthOf t_waterOf t_passes  n) n t_smithOf t_bestSmith t_busy v1 v2 v3 = some o := hf
      generalize f_X12_shared_17 t_strengthOf t_waterOf t_passes  n = k17 at hf ih
      refine lv_iload_n hx hb (dc d_X12_shared 10 rfl) rfl (lv_at hl 3 rfl) ?_
      refine lv_aload_n hx hb (dc d_X12_shared 11 rfl) rfl (lv_at hl 0 rfl) ?_
      refine x_get C hw fl_X12_113 0 rfl rfl (dc d_X12_shared 12 rfl) ?_
      refine lv_icmp_ge (tgt := 38) hx hb (dc d_X12_shared 13 rfl) (by decide) (fun c3 => ?_) (fun c3 => ?_)
      · have hf := g_t hf c3
        refine x_ldc (v := (2000000000 : Int32)) C cn_X12_196 (dc d_X12_shared 21 rfl) ?_
        refine lv_istore_n (lv' := [(3, .int (2000000000 : Int32)), (0, .ref tq0), (1, .int v1), (2, .int v2)]) hx hb (dc d_X12_shared 22 rfl) rfl hl (by decide) rfl (fun ls hl => ?_)
        refine lv_iconst (v := (1 : Int32)) hx hb (dc d_X12_shared 23 rfl) (by decide) ?_
        refine lv_istore (lv' := [(4, .int (1 : Int32)), (3, .int (2000000000 : Int32)), (0, .ref tq0), (1, .int v1), (2, .int v2)]) hx hb (dc d_X12_shared 24 rfl) hl (by decide) rfl (fun ls hl => ?_)
        exact L44  n t_smithOf t_bestSmith t_busy v1 v2 (2000000000 : Int32) (1 : Int32) _ _ _ hw (lv_sub hl [2, 3, 4, 1, 0] rfl) hf
      · have hf := g_f hf c3
        refine lv_aload_n hx hb (dc d_X12_shared 14 rfl) rfl (lv_at hl 0 rfl) ?_
        refine x_get C hw fl_X12_74 0 rfl rfl (dc d_X12_shared 15 rfl) ?_
        refine lv_iload_n hx hb (dc d_X12_shared 16 rfl) rfl (lv_at hl 3 rfl) ?_
        refine lv_iconst (v := (0 : Int32)) hx hb (dc d_X12_shared 17 rfl) (by decide) ?_
        have hi := grd_b hf
        have hf := grd_x hf
        refine x_iast C hw 22 rfl hi (dc d_X12_shared 18 rfl) (fun H locs hw => ?_)
        dsimp only [w_X12, mix, List.set_cons_succ, List.set_cons_zero] at hw
        have hw : Wd D A s.heap (w_X12 cI cC cZ tq0 tq1 tq2 tq3 tq4 tq5 tq6 tq7 tq8 tq9 tq10 tq11 tq12 tq13 tq14 tq15 tq16 tq17 tq18 tq19 tq20 tq21 tq22 tq23 tq24 t_signs t_signMany t_lineOf t_strengthOf t_waterOf t_backOf t_passes t_tried t_table t_numbers t_bends t_wished t_itemLine t_itemStrength t_itemWater t_itemBack t_items t_worstThen t_reading t_isRead t_readSum t_readMany t_spanLow t_spanHigh t_weldLine t_weldPull t_welds t_orderOf t_bestOrder (upd t_smithOf v3.toNatClampNeg (0 : Int32)) t_bestSmith t_busy) H locs := hw
        refine lv_iinc (v := (v3 + (1 : Int32))) (lv' := [(3, .int (v3 + (1 : Int32))), (0, .ref tq0), (1, .int v1), (2, .int v2)]) hx hb (dc d_X12_shared 19 rfl) hl (k := 3) rfl (ii (by decide)) (by decide) rfl (fun ls hl => ?_)
        refine lv_goto (tgt := 17) hx hb (dc d_X12_shared 20 rfl) (by decide) ?_
        exact ih (upd t_smithOf v3.toNatClampNeg (0 : Int32)) t_bestSmith t_busy v1 v2 (v3 + (1 : Int32)) _ _ _ hw (lv_sub hl [1, 2, 3, 0] rfl) hf
  refine lv_iload_n hx hb (dc d_X12_shared 0 rfl) rfl (lv_at hl 1 rfl) ?_
  refine lv_i2l (v := x1.toInt64) hx hb (dc d_X12_shared 1 rfl) rfl ?_
  refine lv_lconst (v := (1 : Int64)) hx hb (dc d_X12_shared 2 rfl) (by decide) ?_
  refine x_ldc2 (v := (3 : Int64)) C cn_X12_256 (dc d_X12_shared 3 rfl) ?_
  obtain ⟨q1, hq1, hf⟩ := g_bd hf
  refine x_callS C hw mb_X12_in ms_X12_in ml_X12_85 (k_X12_in n hq1) hl.1 rfl rfl [] rfl rfl rfl (Nat.le_of_ble_eq_true rfl) (Nat.le_of_ble_eq_true rfl) (Nat.le_of_ble_eq_true rfl) (dc d_X12_shared 4 rfl) (fun H locs hw => ?_)
  refine W.eq (g2 := F0 m 9 ls [.int q1]) rfl ?_
  have hw : Wd D A s.heap (w_X12 cI cC cZ tq0 tq1 tq2 tq3 tq4 tq5 tq6 tq7 tq8 tq9 tq10 tq11 tq12 tq13 tq14 tq15 tq16 tq17 tq18 tq19 tq20 tq21 tq22 tq23 tq24 t_signs t_signMany t_lineOf t_strengthOf t_waterOf t_backOf t_passes t_tried t_table t_numbers t_bends t_wished t_itemLine t_itemStrength t_itemWater t_itemBack t_items t_worstThen t_reading t_isRead t_readSum t_readMany t_spanLow t_spanHigh t_weldLine t_weldPull t_welds t_orderOf t_bestOrder t_smithOf t_bestSmith t_busy) H locs := hw
  refine lv_if_ne (tgt := 15) hx hb (dc d_X12_shared 5 rfl) (by decide) (fun c2 => ?_) (fun c2 => ?_)
  · have hf := g_f hf c2
    refine lv_iconst (v := (0 : Int32)) hx hb (dc d_X12_shared 8 rfl) (by decide) ?_
    refine lv_istore_n (lv' := [(3, .int (0 : Int32)), (0, .ref tq0), (1, .int x1), (2, .int x2)]) hx hb (dc d_X12_shared 9 rfl) rfl hl (by decide) rfl (fun ls hl => ?_)
    exact L17  n t_smithOf t_bestSmith t_busy x1 x2 (0 : Int32) _ _ _ hw (lv_sub hl [1, 2, 3, 0] rfl) hf
  · have hf := g_t hf c2
    refine lv_bipush (v := (-2 : Int32)) hx hb (dc d_X12_shared 6 rfl) (by decide) ?_
    cases hf
    exact x_iret C hA hQ hw rfl rfl (dc d_X12_shared 7 rfl)
set_option maxHeartbeats 4000000 in
set_option maxRecDepth 100000 in
theorem k_X12_told (n : Nat) {l : Launch} {D : va_G} {cI cC cZ : ClassId} {tq0 tq1 tq2 tq3 tq4 tq5 tq6 tq7 tq8 tq9 tq10 tq11 tq12 tq13 tq14 tq15 tq16 tq17 tq18 tq19 tq20 tq21 tq22 tq23 tq24 : Nat} {t_signs : Nat → Int32} {t_signMany : Int32} {t_lineOf : Nat → Int32} {t_strengthOf : Nat → Int32} {t_waterOf : Nat → Int32} {t_backOf : Nat → Int32} {t_passes : Int32} {t_tried : Int32} {t_table : Nat → Int32} {t_numbers : Nat → Int32} {t_bends : Nat → Int32} {t_wished : Nat → Int32} {t_itemLine : Nat → Int32} {t_itemStrength : Nat → Int32} {t_itemWater : Nat → Int32} {t_itemBack : Nat → Int32} {t_items : Int32} {t_worstThen : Int32} {t_reading : Nat → Int32} {t_isRead : Nat → Int32} {t_readSum : Int32} {t_readMany : Int32} {t_spanLow : Nat → Int32} {t_spanHigh : Nat → Int32} {t_weldLine : Nat → Int32} {t_weldPull : Nat → Int32} {t_welds : Int32} {t_orderOf : Nat → Int32} {t_bestOrder : Nat → Int32} {t_smithOf : Nat → Int32} {t_bestSmith : Nat → Int32} {t_busy : Nat → Int32} {x1 : Int32} {o : Int32} (hf : f_X12_told n t_signMany t_passes t_numbers t_items t_isRead t_welds x1 = some o) : Ctr l yX12_told cX12_told 4 (some .int) 1 25 D cI cC cZ [.ref tq0, .int x1] (w_X12 cI cC cZ tq0 tq1 tq2 tq3 tq4 tq5 tq6 tq7 tq8 tq9 tq10 tq11 tq12 tq13 tq14 tq15 tq16 tq17 tq18 tq19 tq20 tq21 tq22 tq23 tq24 t_signs t_signMany t_lineOf t_strengthOf t_waterOf t_backOf t_passes t_tried t_table t_numbers t_bends t_wished t_itemLine t_itemStrength t_itemWater t_itemBack t_items t_worstThen t_reading t_isRead t_readSum t_readMany t_spanLow t_spanHigh t_weldLine t_weldPull t_welds t_orderOf t_bestOrder t_smithOf t_bestSmith t_busy) (w_X12 cI cC cZ tq0 tq1 tq2 tq3 tq4 tq5 tq6 tq7 tq8 tq9 tq10 tq11 tq12 tq13 tq14 tq15 tq16 tq17 tq18 tq19 tq20 tq21 tq22 tq23 tq24 t_signs t_signMany t_lineOf t_strengthOf t_waterOf t_backOf t_passes t_tried t_table t_numbers t_bends t_wished t_itemLine t_itemStrength t_itemWater t_itemBack t_items t_worstThen t_reading t_isRead t_readSum t_readMany t_spanLow t_spanHigh t_weldLine t_weldPull t_welds t_orderOf t_bestOrder t_smithOf t_bestSmith t_busy) (some (.int o)) := by
  refine Ctr.of (by decide) (Nat.le_of_ble_eq_true rfl) ?_
  intro p e s m args below meth c ls A Q hA hQ C hl hw
  have hx := C.1
  have hb := C.2.1
  have hl : lv_has ls 4 [(0, .ref tq0), (1, .int x1)] := hl
  have L28 : ∀ (n : Nat), ∀ (v1 : Int32) (v2 : Int32) (v3 : Int32) (H : Heap) (locs : List Loc) (ls : Array Slot), Wd D A s.heap (w_X12 cI cC cZ tq0 tq1 tq2 tq3 tq4 tq5 tq6 tq7 tq8 tq9 tq10 tq11 tq12 tq13 tq14 tq15 tq16 tq17 tq18 tq19 tq20 tq21 tq22 tq23 tq24 t_signs t_signMany t_lineOf t_strengthOf t_waterOf t_backOf t_passes t_tried t_table t_numbers t_bends t_wished t_itemLine t_itemStrength t_itemWater t_itemBack t_items t_worstThen t_reading t_isRead t_readSum t_readMany t_spanLow t_spanHigh t_weldLine t_weldPull t_welds t_orderOf t_bestOrder t_smithOf t_bestSmith t_busy) H locs → lv_has ls 4 [(0, .ref tq0), (1, .int v1), (2, .int v2), (3, .int v3)] → f_X12_told_28 t_signMany t_passes t_numbers t_items t_isRead t_welds  n v1 v2 v3 = some o → W p l e (rmOf 1 25) s m args below meth c H locs 0 0 Q (F0 m 28 ls []) := by
    intro  n
    induction n with
    | zero => intro v1 v2 v3 H locs ls hw hl hf; exact (no_none hf).elim
    | succ n ih =>
      intro v1 v2 v3 H locs ls hw hl hf
      have hf : f_X12_told_28b t_signMany t_passes t_numbers t_items t_isRead t_welds  (f_X12_told_28 t_signMany t_passes t_numbers t_items t_isRead t_welds  n) n v1 v2 v3 = some o := hf
      generalize f_X12_told_28 t_signMany t_passes t_numbers t_items t_isRead t_welds  n = k28 at hf ih
      refine lv_iload_n hx hb (dc d_X12_told 17 rfl) rfl (lv_at hl 3 rfl) ?_
      refine lv_bipush (v := (36 : Int32)) hx hb (dc d_X12_told 18 rfl) (by decide) ?_
      refine lv_icmp_ge (tgt := 57) hx hb (dc d_X12_told 19 rfl) (by decide) (fun c3 => ?_) (fun c3 => ?_)
      · have hf := g_t hf c3
        refine lv_iload_n hx hb (dc d_X12_told 33 rfl) rfl (lv_at hl 1 rfl) ?_
        by_cases c4 : v1 = (0 : Int32)
        · have hf := g_t hf c4
          refine lv_tableIn (off := 34) (tgt := 92) hx hb (dc d_X12_told 34 rfl) (by rw [c4]; decide) (by rw [c4]; decide) (by rw [c4]; rfl) (by decide) ?_
          refine lv_aload_n hx hb (dc d_X12_told 35 rfl) rfl (lv_at hl 0 rfl) ?_
          refine x_get C hw fl_X12_95 0 rfl rfl (dc d_X12_told 36 rfl) ?_
          cases hf
          exact x_iret C hA hQ hw rfl rfl (dc d_X12_told 37 rfl)
        have hf := g_f hf c4
        by_cases c5 : v1 = (1 : Int32)
        · have hf := g_t hf c5
          refine lv_tableIn (off := 39) (tgt := 97) hx hb (dc d_X12_told 34 rfl) (by rw [c5]; decide) (by rw [c5]; decide) (by rw [c5]; rfl) (by decide) ?_
          refine lv_aload_n hx hb (dc d_X12_told 38 rfl) rfl (lv_at hl 0 rfl) ?_
          refine x_get C hw fl_X12_113 0 rfl rfl (dc d_X12_told 39 rfl) ?_
          cases hf
          exact x_iret C hA hQ hw rfl rfl (dc d_X12_told 40 rfl)
        have hf := g_f hf c5
        by_cases c6 : v1 = (2 : Int32)
        · have hf := g_t hf c6
          refine lv_tableIn (off := 44) (tgt := 102) hx hb (dc d_X12_told 34 rfl) (by rw [c6]; decide) (by rw [c6]; decide) (by rw [c6]; rfl) (by decide) ?_
          refine lv_aload_n hx hb (dc d_X12_told 41 rfl) rfl (lv_at hl 0 rfl) ?_
          refine x_get C hw fl_X12_185 0 rfl rfl (dc d_X12_told 42 rfl) ?_
          cases hf
          exact x_iret C hA hQ hw rfl rfl (dc d_X12_told 43 rfl)
        have hf := g_f hf c6
        by_cases c7 : v1 = (3 : Int32)
        · have hf := g_t hf c7
          refine lv_tableIn (off := 49) (tgt := 107) hx hb (dc d_X12_told 34 rfl) (by rw [c7]; decide) (by rw [c7]; decide) (by rw [c7]; rfl) (by decide) ?_
          refine lv_iload_n hx hb (dc d_X12_told 44 rfl) rfl (lv_at hl 2 rfl) ?_
          cases hf
          exact x_iret C hA hQ hw rfl rfl (dc d_X12_told 45 rfl)
        have hf := g_f hf c7
        by_cases c8 : v1 = (4 : Int32)
        · have hf := g_t hf c8
          refine lv_tableIn (off := 51) (tgt := 109) hx hb (dc d_X12_told 34 rfl) (by rw [c8]; decide) (by rw [c8]; decide) (by rw [c8]; rfl) (by decide) ?_
          refine lv_aload_n hx hb (dc d_X12_told 46 rfl) rfl (lv_at hl 0 rfl) ?_
          refine x_get C hw fl_X12_243 0 rfl rfl (dc d_X12_told 47 rfl) ?_
          cases hf
          exact x_iret C hA hQ hw rfl rfl (dc d_X12_told 48 rfl)
        have hf := g_f hf c8
        refine lv_tableOut (tgt := 114) hx hb (dc d_X12_told 34 rfl) (by have zc4 := sw_ne c4 (k := 0) (by decide); have zc5 := sw_ne c5 (k := 1) (by decide); have zc6 := sw_ne c6 (k := 2) (by decide); have zc7 := sw_ne c7 (k := 3) (by decide); have zc8 := sw_ne c8 (k := 4) (by decide); omega) (by decide) ?_
        refine lv_bipush (v := (-2 : Int32)) hx hb (dc d_X12_told 49 rfl) (by decide) ?_
        cases hf
        exact x_iret C hA hQ hw rfl rfl (dc d_X12_told 50 rfl)
      · have hf := g_f hf c3
        refine lv_iload_n hx hb (dc d_X12_told 20 rfl) rfl (lv_at hl 2 rfl) ?_
        refine lv_aload_n hx hb (dc d_X12_told 21 rfl) rfl (lv_at hl 0 rfl) ?_
        refine x_get C hw fl_X12_52 0 rfl rfl (dc d_X12_told 22 rfl) ?_
        refine lv_iload_n hx hb (dc d_X12_told 23 rfl) rfl (lv_at hl 3 rfl) ?_
        have hi := grd_b hf
        have hf := grd_x hf
        refine x_zald C hw 15 rfl hi (dc d_X12_told 24 rfl) ?_
        refine lv_if_eq (tgt := 48) hx hb (dc d_X12_told 25 rfl) (by decide) (fun c9 => ?_) (fun c9 => ?_)
        · have hf := g_t hf c9
          refine lv_iconst (v := (0 : Int32)) hx hb (dc d_X12_told 28 rfl) (by decide) ?_
          refine lv_iadd hx hb (dc d_X12_told 29 rfl) ?_
          refine lv_topi (fun y10 ey10 => ?_)
          have hf := g_nm hf ey10
          refine lv_istore_n (lv' := [(2, .int y10), (0, .ref tq0), (1, .int v1), (3, .int v3)]) hx hb (dc d_X12_told 30 rfl) rfl hl (by decide) rfl (fun ls hl => ?_)
          refine lv_iinc (v := (v3 + (1 : Int32))) (lv' := [(3, .int (v3 + (1 : Int32))), (2, .int y10), (0, .ref tq0), (1, .int v1)]) hx hb (dc d_X12_told 31 rfl) hl (k := 3) rfl (ii (by decide)) (by decide) rfl (fun ls hl => ?_)
          refine lv_goto (tgt := 28) hx hb (dc d_X12_told 32 rfl) (by decide) ?_
          exact ih v1 y10 (v3 + (1 : Int32)) _ _ _ hw (lv_sub hl [2, 3, 1, 0] rfl) hf
        · have hf := g_f hf c9
          refine lv_iconst (v := (1 : Int32)) hx hb (dc d_X12_told 26 rfl) (by decide) ?_
          refine lv_goto (tgt := 49) hx hb (dc d_X12_told 27 rfl) (by decide) ?_
          refine lv_iadd hx hb (dc d_X12_told 29 rfl) ?_
          refine lv_topi (fun y11 ey11 => ?_)
          have hf := g_nm hf ey11
          refine lv_istore_n (lv' := [(2, .int y11), (0, .ref tq0), (1, .int v1), (3, .int v3)]) hx hb (dc d_X12_told 30 rfl) rfl hl (by decide) rfl (fun ls hl => ?_)
          refine lv_iinc (v := (v3 + (1 : Int32))) (lv' := [(3, .int (v3 + (1 : Int32))), (2, .int y11), (0, .ref tq0), (1, .int v1)]) hx hb (dc d_X12_told 31 rfl) hl (k := 3) rfl (ii (by decide)) (by decide) rfl (fun ls hl => ?_)
          refine lv_goto (tgt := 28) hx hb (dc d_X12_told 32 rfl) (by decide) ?_
          exact ih v1 y11 (v3 + (1 : Int32)) _ _ _ hw (lv_sub hl [2, 3, 1, 0] rfl) hf
  refine lv_iload_n hx hb (dc d_X12_told 0 rfl) rfl (lv_at hl 1 rfl) ?_
  refine lv_i2l (v := x1.toInt64) hx hb (dc d_X12_told 1 rfl) rfl ?_
  refine x_ldc2 (v := (10 : Int64)) C cn_X12_264 (dc d_X12_told 2 rfl) ?_
  refine x_ldc2 (v := (15 : Int64)) C cn_X12_266 (dc d_X12_told 3 rfl) ?_
  obtain ⟨q1, hq1, hf⟩ := g_bd hf
  refine x_callS C hw mb_X12_in ms_X12_in ml_X12_85 (k_X12_in n hq1) hl.1 rfl rfl [] rfl rfl rfl (Nat.le_of_ble_eq_true rfl) (Nat.le_of_ble_eq_true rfl) (Nat.le_of_ble_eq_true rfl) (dc d_X12_told 4 rfl) (fun H locs hw => ?_)
  refine W.eq (g2 := F0 m 11 ls [.int q1]) rfl ?_
  have hw : Wd D A s.heap (w_X12 cI cC cZ tq0 tq1 tq2 tq3 tq4 tq5 tq6 tq7 tq8 tq9 tq10 tq11 tq12 tq13 tq14 tq15 tq16 tq17 tq18 tq19 tq20 tq21 tq22 tq23 tq24 t_signs t_signMany t_lineOf t_strengthOf t_waterOf t_backOf t_passes t_tried t_table t_numbers t_bends t_wished t_itemLine t_itemStrength t_itemWater t_itemBack t_items t_worstThen t_reading t_isRead t_readSum t_readMany t_spanLow t_spanHigh t_weldLine t_weldPull t_welds t_orderOf t_bestOrder t_smithOf t_bestSmith t_busy) H locs := hw
  refine lv_if_eq (tgt := 24) hx hb (dc d_X12_told 5 rfl) (by decide) (fun c2 => ?_) (fun c2 => ?_)
  · have hf := g_t hf c2
    refine lv_iconst (v := (0 : Int32)) hx hb (dc d_X12_told 13 rfl) (by decide) ?_
    refine lv_istore_n (lv' := [(2, .int (0 : Int32)), (0, .ref tq0), (1, .int x1)]) hx hb (dc d_X12_told 14 rfl) rfl hl (by decide) rfl (fun ls hl => ?_)
    refine lv_iconst (v := (0 : Int32)) hx hb (dc d_X12_told 15 rfl) (by decide) ?_
    refine lv_istore_n (lv' := [(3, .int (0 : Int32)), (2, .int (0 : Int32)), (0, .ref tq0), (1, .int x1)]) hx hb (dc d_X12_told 16 rfl) rfl hl (by decide) rfl (fun ls hl => ?_)
    exact L28  n x1 (0 : Int32) (0 : Int32) _ _ _ hw (lv_sub hl [2, 3, 1, 0] rfl) hf
  · have hf := g_f hf c2
    refine lv_aload_n hx hb (dc d_X12_told 6 rfl) rfl (lv_at hl 0 rfl) ?_
    refine x_get C hw fl_X12_28 0 rfl rfl (dc d_X12_told 7 rfl) ?_
    refine lv_iload_n hx hb (dc d_X12_told 8 rfl) rfl (lv_at hl 1 rfl) ?_
    refine lv_bipush (v := (10 : Int32)) hx hb (dc d_X12_told 9 rfl) (by decide) ?_
    refine lv_isub hx hb (dc d_X12_told 10 rfl) ?_
    have hi := grd_b hf
    have hf := grd_x hf
    refine x_iald C hw 7 rfl hi (dc d_X12_told 11 rfl) ?_
    cases hf
    exact x_iret C hA hQ hw rfl rfl (dc d_X12_told 12 rfl)
