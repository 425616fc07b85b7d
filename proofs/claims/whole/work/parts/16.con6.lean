/-! Written by wip/gen/all.py. -/
set_option maxHeartbeats 4000000 in
set_option maxRecDepth 100000 in
theorem k_X12_forget (n : Nat) {l : Launch} {D : va_G} {cI cC cZ : ClassId} {tq0 tq1 tq2 tq3 tq4 tq5 tq6 tq7 tq8 tq9 tq10 tq11 tq12 tq13 tq14 tq15 tq16 tq17 tq18 tq19 tq20 tq21 tq22 tq23 tq24 : Nat} {t_signs : Nat → Int32} {t_signMany : Int32} {t_lineOf : Nat → Int32} {t_strengthOf : Nat → Int32} {t_waterOf : Nat → Int32} {t_backOf : Nat → Int32} {t_passes : Int32} {t_tried : Int32} {t_table : Nat → Int32} {t_numbers : Nat → Int32} {t_bends : Nat → Int32} {t_wished : Nat → Int32} {t_itemLine : Nat → Int32} {t_itemStrength : Nat → Int32} {t_itemWater : Nat → Int32} {t_itemBack : Nat → Int32} {t_items : Int32} {t_worstThen : Int32} {t_reading : Nat → Int32} {t_isRead : Nat → Int32} {t_readSum : Int32} {t_readMany : Int32} {t_spanLow : Nat → Int32} {t_spanHigh : Nat → Int32} {t_weldLine : Nat → Int32} {t_weldPull : Nat → Int32} {t_welds : Int32} {t_orderOf : Nat → Int32} {t_bestOrder : Nat → Int32} {t_smithOf : Nat → Int32} {t_bestSmith : Nat → Int32} {t_busy : Nat → Int32} {x1 : Int32} {o : Int32 × (Nat → Int32)} (hf : f_X12_forget n t_isRead x1 = some o) : Ctr l yX12_forget cX12_forget 2 (some .int) 2 45 D cI cC cZ [.ref tq0, .int x1] (w_X12 cI cC cZ tq0 tq1 tq2 tq3 tq4 tq5 tq6 tq7 tq8 tq9 tq10 tq11 tq12 tq13 tq14 tq15 tq16 tq17 tq18 tq19 tq20 tq21 tq22 tq23 tq24 t_signs t_signMany t_lineOf t_strengthOf t_waterOf t_backOf t_passes t_tried t_table t_numbers t_bends t_wished t_itemLine t_itemStrength t_itemWater t_itemBack t_items t_worstThen t_reading t_isRead t_readSum t_readMany t_spanLow t_spanHigh t_weldLine t_weldPull t_welds t_orderOf t_bestOrder t_smithOf t_bestSmith t_busy) (w_X12 cI cC cZ tq0 tq1 tq2 tq3 tq4 tq5 tq6 tq7 tq8 tq9 tq10 tq11 tq12 tq13 tq14 tq15 tq16 tq17 tq18 tq19 tq20 tq21 tq22 tq23 tq24 t_signs t_signMany t_lineOf t_strengthOf t_waterOf t_backOf t_passes t_tried t_table t_numbers t_bends t_wished t_itemLine t_itemStrength t_itemWater t_itemBack t_items t_worstThen t_reading o.2 t_readSum t_readMany t_spanLow t_spanHigh t_weldLine t_weldPull t_welds t_orderOf t_bestOrder t_smithOf t_bestSmith t_busy) (some (.int o.1)) := by
  refine Ctr.of (by decide) (Nat.le_of_ble_eq_true rfl) ?_
  intro p e s m args below meth c ls A Q hA hQ C hl hw
  have hx := C.1
  have hb := C.2.1
  have hl : lv_has ls 2 [(0, .ref tq0), (1, .int x1)] := hl
  refine lv_iload_n hx hb (dc d_X12_forget 0 rfl) rfl (lv_at hl 1 rfl) ?_
  obtain ⟨q1, hq1, hf⟩ := g_bd hf
  refine x_callS C hw mb_X12_isCorner ms_X12_isCorner ml_X12_152 (k_X12_isCorner n hq1) hl.1 rfl rfl [] rfl rfl rfl (Nat.le_of_ble_eq_true rfl) (Nat.le_of_ble_eq_true rfl) (Nat.le_of_ble_eq_true rfl) (dc d_X12_forget 1 rfl) (fun H locs hw => ?_)
  refine W.eq (g2 := F0 m 4 ls [.int q1]) rfl ?_
  have hw : Wd D A s.heap (w_X12 cI cC cZ tq0 tq1 tq2 tq3 tq4 tq5 tq6 tq7 tq8 tq9 tq10 tq11 tq12 tq13 tq14 tq15 tq16 tq17 tq18 tq19 tq20 tq21 tq22 tq23 tq24 t_signs t_signMany t_lineOf t_strengthOf t_waterOf t_backOf t_passes t_tried t_table t_numbers t_bends t_wished t_itemLine t_itemStrength t_itemWater t_itemBack t_items t_worstThen t_reading t_isRead t_readSum t_readMany t_spanLow t_spanHigh t_weldLine t_weldPull t_welds t_orderOf t_bestOrder t_smithOf t_bestSmith t_busy) H locs := hw
  refine lv_if_ne (tgt := 9) hx hb (dc d_X12_forget 2 rfl) (by decide) (fun c2 => ?_) (fun c2 => ?_)
  · have hf := g_f hf c2
    refine lv_aload_n hx hb (dc d_X12_forget 5 rfl) rfl (lv_at hl 0 rfl) ?_
    refine x_get C hw fl_X12_52 0 rfl rfl (dc d_X12_forget 6 rfl) ?_
    refine lv_iload_n hx hb (dc d_X12_forget 7 rfl) rfl (lv_at hl 1 rfl) ?_
    have hi := grd_b hf
    have hf := grd_x hf
    refine x_zald C hw 15 rfl hi (dc d_X12_forget 8 rfl) ?_
    refine lv_if_ne (tgt := 21) hx hb (dc d_X12_forget 9 rfl) (by decide) (fun c3 => ?_) (fun c3 => ?_)
    · have hf := g_f hf c3
      refine lv_aload_n hx hb (dc d_X12_forget 12 rfl) rfl (lv_at hl 0 rfl) ?_
      refine x_get C hw fl_X12_52 0 rfl rfl (dc d_X12_forget 13 rfl) ?_
      refine lv_iload_n hx hb (dc d_X12_forget 14 rfl) rfl (lv_at hl 1 rfl) ?_
      refine lv_iconst (v := (0 : Int32)) hx hb (dc d_X12_forget 15 rfl) (by decide) ?_
      have hi := grd_b hf
      have hf := grd_x hf
      refine x_zast C hw 15 rfl hi (dc d_X12_forget 16 rfl) (fun H locs hw => ?_)
      dsimp only [w_X12, mix, List.set_cons_succ, List.set_cons_zero] at hw
      have hw : Wd D A s.heap (w_X12 cI cC cZ tq0 tq1 tq2 tq3 tq4 tq5 tq6 tq7 tq8 tq9 tq10 tq11 tq12 tq13 tq14 tq15 tq16 tq17 tq18 tq19 tq20 tq21 tq22 tq23 tq24 t_signs t_signMany t_lineOf t_strengthOf t_waterOf t_backOf t_passes t_tried t_table t_numbers t_bends t_wished t_itemLine t_itemStrength t_itemWater t_itemBack t_items t_worstThen t_reading (upd t_isRead x1.toNatClampNeg (vp_nar .boolean (0 : Int32))) t_readSum t_readMany t_spanLow t_spanHigh t_weldLine t_weldPull t_welds t_orderOf t_bestOrder t_smithOf t_bestSmith t_busy) H locs := hw
      refine lv_iconst (v := (1 : Int32)) hx hb (dc d_X12_forget 17 rfl) (by decide) ?_
      cases hf
      exact x_iret C hA hQ hw rfl rfl (dc d_X12_forget 18 rfl)
    · have hf := g_t hf c3
      refine lv_bipush (v := (-5 : Int32)) hx hb (dc d_X12_forget 10 rfl) (by decide) ?_
      cases hf
      exact x_iret C hA hQ hw rfl rfl (dc d_X12_forget 11 rfl)
  · have hf := g_t hf c2
    refine lv_iconst (v := (-1 : Int32)) hx hb (dc d_X12_forget 3 rfl) (by decide) ?_
    cases hf
    exact x_iret C hA hQ hw rfl rfl (dc d_X12_forget 4 rfl)
set_option maxHeartbeats 4000000 in
set_option maxRecDepth 100000 in
theorem k_X12_hangs (n : Nat) {l : Launch} {D : va_G} {cI cC cZ : ClassId} {tq0 tq1 tq2 tq3 tq4 tq5 tq6 tq7 tq8 tq9 tq10 tq11 tq12 tq13 tq14 tq15 tq16 tq17 tq18 tq19 tq20 tq21 tq22 tq23 tq24 : Nat} {t_signs : Nat → Int32} {t_signMany : Int32} {t_lineOf : Nat → Int32} {t_strengthOf : Nat → Int32} {t_waterOf : Nat → Int32} {t_backOf : Nat → Int32} {t_passes : Int32} {t_tried : Int32} {t_table : Nat → Int32} {t_numbers : Nat → Int32} {t_bends : Nat → Int32} {t_wished : Nat → Int32} {t_itemLine : Nat → Int32} {t_itemStrength : Nat → Int32} {t_itemWater : Nat → Int32} {t_itemBack : Nat → Int32} {t_items : Int32} {t_worstThen : Int32} {t_reading : Nat → Int32} {t_isRead : Nat → Int32} {t_readSum : Int32} {t_readMany : Int32} {t_spanLow : Nat → Int32} {t_spanHigh : Nat → Int32} {t_weldLine : Nat → Int32} {t_weldPull : Nat → Int32} {t_welds : Int32} {t_orderOf : Nat → Int32} {t_bestOrder : Nat → Int32} {t_smithOf : Nat → Int32} {t_bestSmith : Nat → Int32} {t_busy : Nat → Int32}  {o : Int32} (hf : f_X12_hangs n t_isRead = some o) : Ctr l yX12_hangs cX12_hangs 1 (some .boolean) 0 0 D cI cC cZ [.ref tq0] (w_X12 cI cC cZ tq0 tq1 tq2 tq3 tq4 tq5 tq6 tq7 tq8 tq9 tq10 tq11 tq12 tq13 tq14 tq15 tq16 tq17 tq18 tq19 tq20 tq21 tq22 tq23 tq24 t_signs t_signMany t_lineOf t_strengthOf t_waterOf t_backOf t_passes t_tried t_table t_numbers t_bends t_wished t_itemLine t_itemStrength t_itemWater t_itemBack t_items t_worstThen t_reading t_isRead t_readSum t_readMany t_spanLow t_spanHigh t_weldLine t_weldPull t_welds t_orderOf t_bestOrder t_smithOf t_bestSmith t_busy) (w_X12 cI cC cZ tq0 tq1 tq2 tq3 tq4 tq5 tq6 tq7 tq8 tq9 tq10 tq11 tq12 tq13 tq14 tq15 tq16 tq17 tq18 tq19 tq20 tq21 tq22 tq23 tq24 t_signs t_signMany t_lineOf t_strengthOf t_waterOf t_backOf t_passes t_tried t_table t_numbers t_bends t_wished t_itemLine t_itemStrength t_itemWater t_itemBack t_items t_worstThen t_reading t_isRead t_readSum t_readMany t_spanLow t_spanHigh t_weldLine t_weldPull t_welds t_orderOf t_bestOrder t_smithOf t_bestSmith t_busy) (some (.int o)) := by
  refine Ctr.of (by decide) (Nat.le_of_ble_eq_true rfl) ?_
  intro p e s m args below meth c ls A Q hA hQ C hl hw
  have hx := C.1
  have hb := C.2.1
  have hl : lv_has ls 1 [(0, .ref tq0)] := hl
  refine lv_aload_n hx hb (dc d_X12_hangs 0 rfl) rfl (lv_at hl 0 rfl) ?_
  refine x_get C hw fl_X12_52 0 rfl rfl (dc d_X12_hangs 1 rfl) ?_
  refine lv_iconst (v := (0 : Int32)) hx hb (dc d_X12_hangs 2 rfl) (by decide) ?_
  refine x_zald C hw 15 rfl (by decide) (dc d_X12_hangs 3 rfl) ?_
  refine lv_if_eq (tgt := 32) hx hb (dc d_X12_hangs 4 rfl) (by decide) (fun c1 => ?_) (fun c1 => ?_)
  · have hf := g_t hf c1
    refine lv_iconst (v := (0 : Int32)) hx hb (dc d_X12_hangs 17 rfl) (by decide) ?_
    cases hf
    exact x_zret C hA hQ hw rfl rfl (by decide) (dc d_X12_hangs 18 rfl)
  · have hf := g_f hf c1
    refine lv_aload_n hx hb (dc d_X12_hangs 5 rfl) rfl (lv_at hl 0 rfl) ?_
    refine x_get C hw fl_X12_52 0 rfl rfl (dc d_X12_hangs 6 rfl) ?_
    refine lv_iconst (v := (5 : Int32)) hx hb (dc d_X12_hangs 7 rfl) (by decide) ?_
    refine x_zald C hw 15 rfl (by decide) (dc d_X12_hangs 8 rfl) ?_
    refine lv_if_eq (tgt := 32) hx hb (dc d_X12_hangs 9 rfl) (by decide) (fun c2 => ?_) (fun c2 => ?_)
    · have hf := g_t hf c2
      refine lv_iconst (v := (0 : Int32)) hx hb (dc d_X12_hangs 17 rfl) (by decide) ?_
      cases hf
      exact x_zret C hA hQ hw rfl rfl (by decide) (dc d_X12_hangs 18 rfl)
    · have hf := g_f hf c2
      refine lv_aload_n hx hb (dc d_X12_hangs 10 rfl) rfl (lv_at hl 0 rfl) ?_
      refine x_get C hw fl_X12_52 0 rfl rfl (dc d_X12_hangs 11 rfl) ?_
      refine lv_bipush (v := (30 : Int32)) hx hb (dc d_X12_hangs 12 rfl) (by decide) ?_
      refine x_zald C hw 15 rfl (by decide) (dc d_X12_hangs 13 rfl) ?_
      refine lv_if_eq (tgt := 32) hx hb (dc d_X12_hangs 14 rfl) (by decide) (fun c3 => ?_) (fun c3 => ?_)
      · have hf := g_t hf c3
        refine lv_iconst (v := (0 : Int32)) hx hb (dc d_X12_hangs 17 rfl) (by decide) ?_
        cases hf
        exact x_zret C hA hQ hw rfl rfl (by decide) (dc d_X12_hangs 18 rfl)
      · have hf := g_f hf c3
        refine lv_iconst (v := (1 : Int32)) hx hb (dc d_X12_hangs 15 rfl) (by decide) ?_
        refine lv_goto (tgt := 33) hx hb (dc d_X12_hangs 16 rfl) (by decide) ?_
        cases hf
        exact x_zret C hA hQ hw rfl rfl (by decide) (dc d_X12_hangs 18 rfl)
set_option maxHeartbeats 4000000 in
set_option maxRecDepth 100000 in
theorem k_X12_flatAt (n : Nat) {l : Launch} {D : va_G} {cI cC cZ : ClassId} {tq0 tq1 tq2 tq3 tq4 tq5 tq6 tq7 tq8 tq9 tq10 tq11 tq12 tq13 tq14 tq15 tq16 tq17 tq18 tq19 tq20 tq21 tq22 tq23 tq24 : Nat} {t_signs : Nat → Int32} {t_signMany : Int32} {t_lineOf : Nat → Int32} {t_strengthOf : Nat → Int32} {t_waterOf : Nat → Int32} {t_backOf : Nat → Int32} {t_passes : Int32} {t_tried : Int32} {t_table : Nat → Int32} {t_numbers : Nat → Int32} {t_bends : Nat → Int32} {t_wished : Nat → Int32} {t_itemLine : Nat → Int32} {t_itemStrength : Nat → Int32} {t_itemWater : Nat → Int32} {t_itemBack : Nat → Int32} {t_items : Int32} {t_worstThen : Int32} {t_reading : Nat → Int32} {t_isRead : Nat → Int32} {t_readSum : Int32} {t_readMany : Int32} {t_spanLow : Nat → Int32} {t_spanHigh : Nat → Int32} {t_weldLine : Nat → Int32} {t_weldPull : Nat → Int32} {t_welds : Int32} {t_orderOf : Nat → Int32} {t_bestOrder : Nat → Int32} {t_smithOf : Nat → Int32} {t_bestSmith : Nat → Int32} {t_busy : Nat → Int32} {x1 : Int32} {o : Int32} (hf : f_X12_flatAt n t_reading x1 = some o) : Ctr l yX12_flatAt cX12_flatAt 2 (some .int) 1 24 D cI cC cZ [.ref tq0, .int x1] (w_X12 cI cC cZ tq0 tq1 tq2 tq3 tq4 tq5 tq6 tq7 tq8 tq9 tq10 tq11 tq12 tq13 tq14 tq15 tq16 tq17 tq18 tq19 tq20 tq21 tq22 tq23 tq24 t_signs t_signMany t_lineOf t_strengthOf t_waterOf t_backOf t_passes t_tried t_table t_numbers t_bends t_wished t_itemLine t_itemStrength t_itemWater t_itemBack t_items t_worstThen t_reading t_isRead t_readSum t_readMany t_spanLow t_spanHigh t_weldLine t_weldPull t_welds t_orderOf t_bestOrder t_smithOf t_bestSmith t_busy) (w_X12 cI cC cZ tq0 tq1 tq2 tq3 tq4 tq5 tq6 tq7 tq8 tq9 tq10 tq11 tq12 tq13 tq14 tq15 tq16 tq17 tq18 tq19 tq20 tq21 tq22 tq23 tq24 t_signs t_signMany t_lineOf t_strengthOf t_waterOf t_backOf t_passes t_tried t_table t_numbers t_bends t_wished t_itemLine t_itemStrength t_itemWater t_itemBack t_items t_worstThen t_reading t_isRead t_readSum t_readMany t_spanLow t_spanHigh t_weldLine t_weldPull t_welds t_orderOf t_bestOrder t_smithOf t_bestSmith t_busy) (some (.int o)) := by
  refine Ctr.of (by decide) (Nat.le_of_ble_eq_true rfl) ?_
  intro p e s m args below meth c ls A Q hA hQ C hl hw
  have hx := C.1
  have hb := C.2.1
  have hl : lv_has ls 2 [(0, .ref tq0), (1, .int x1)] := hl
  refine lv_iload_n hx hb (dc d_X12_flatAt 0 rfl) rfl (lv_at hl 1 rfl) ?_
  refine lv_aload_n hx hb (dc d_X12_flatAt 1 rfl) rfl (lv_at hl 0 rfl) ?_
  refine x_get C hw fl_X12_49 0 rfl rfl (dc d_X12_flatAt 2 rfl) ?_
  refine lv_iload_n hx hb (dc d_X12_flatAt 3 rfl) rfl (lv_at hl 1 rfl) ?_
  have hi := grd_b hf
  have hf := grd_x hf
  refine x_iald C hw 14 rfl hi (dc d_X12_flatAt 4 rfl) ?_
  refine lv_aload_n hx hb (dc d_X12_flatAt 5 rfl) rfl (lv_at hl 0 rfl) ?_
  refine x_get C hw fl_X12_49 0 rfl rfl (dc d_X12_flatAt 6 rfl) ?_
  refine lv_iconst (v := (0 : Int32)) hx hb (dc d_X12_flatAt 7 rfl) (by decide) ?_
  refine x_iald C hw 14 rfl (by decide) (dc d_X12_flatAt 8 rfl) ?_
  refine lv_aload_n hx hb (dc d_X12_flatAt 9 rfl) rfl (lv_at hl 0 rfl) ?_
  refine x_get C hw fl_X12_49 0 rfl rfl (dc d_X12_flatAt 10 rfl) ?_
  refine lv_iconst (v := (5 : Int32)) hx hb (dc d_X12_flatAt 11 rfl) (by decide) ?_
  refine x_iald C hw 14 rfl (by decide) (dc d_X12_flatAt 12 rfl) ?_
  refine lv_aload_n hx hb (dc d_X12_flatAt 13 rfl) rfl (lv_at hl 0 rfl) ?_
  refine x_get C hw fl_X12_49 0 rfl rfl (dc d_X12_flatAt 14 rfl) ?_
  refine lv_bipush (v := (30 : Int32)) hx hb (dc d_X12_flatAt 15 rfl) (by decide) ?_
  refine x_iald C hw 14 rfl (by decide) (dc d_X12_flatAt 16 rfl) ?_
  obtain ⟨q1, hq1, hf⟩ := g_bd hf
  refine x_callS C hw mb_X12_above ms_X12_above ml_X12_166 (k_X12_above n hq1) hl.1 rfl rfl [] rfl rfl rfl (Nat.le_of_ble_eq_true rfl) (Nat.le_of_ble_eq_true rfl) (Nat.le_of_ble_eq_true rfl) (dc d_X12_flatAt 17 rfl) (fun H locs hw => ?_)
  refine W.eq (g2 := F0 m 29 ls [.int q1]) rfl ?_
  have hw : Wd D A s.heap (w_X12 cI cC cZ tq0 tq1 tq2 tq3 tq4 tq5 tq6 tq7 tq8 tq9 tq10 tq11 tq12 tq13 tq14 tq15 tq16 tq17 tq18 tq19 tq20 tq21 tq22 tq23 tq24 t_signs t_signMany t_lineOf t_strengthOf t_waterOf t_backOf t_passes t_tried t_table t_numbers t_bends t_wished t_itemLine t_itemStrength t_itemWater t_itemBack t_items t_worstThen t_reading t_isRead t_readSum t_readMany t_spanLow t_spanHigh t_weldLine t_weldPull t_welds t_orderOf t_bestOrder t_smithOf t_bestSmith t_busy) H locs := hw
  cases hf
  exact x_iret C hA hQ hw rfl rfl (dc d_X12_flatAt 18 rfl)
set_option maxHeartbeats 4000000 in
set_option maxRecDepth 100000 in
theorem k_X12_flat (n : Nat) {l : Launch} {D : va_G} {cI cC cZ : ClassId} {tq0 tq1 tq2 tq3 tq4 tq5 tq6 tq7 tq8 tq9 tq10 tq11 tq12 tq13 tq14 tq15 tq16 tq17 tq18 tq19 tq20 tq21 tq22 tq23 tq24 : Nat} {t_signs : Nat → Int32} {t_signMany : Int32} {t_lineOf : Nat → Int32} {t_strengthOf : Nat → Int32} {t_waterOf : Nat → Int32} {t_backOf : Nat → Int32} {t_passes : Int32} {t_tried : Int32} {t_table : Nat → Int32} {t_numbers : Nat → Int32} {t_bends : Nat → Int32} {t_wished : Nat → Int32} {t_itemLine : Nat → Int32} {t_itemStrength : Nat → Int32} {t_itemWater : Nat → Int32} {t_itemBack : Nat → Int32} {t_items : Int32} {t_worstThen : Int32} {t_reading : Nat → Int32} {t_isRead : Nat → Int32} {t_readSum : Int32} {t_readMany : Int32} {t_spanLow : Nat → Int32} {t_spanHigh : Nat → Int32} {t_weldLine : Nat → Int32} {t_weldPull : Nat → Int32} {t_welds : Int32} {t_orderOf : Nat → Int32} {t_bestOrder : Nat → Int32} {t_smithOf : Nat → Int32} {t_bestSmith : Nat → Int32} {t_busy : Nat → Int32} {x1 : Int32} {o : Int32} (hf : f_X12_flat n t_reading t_isRead x1 = some o) : Ctr l yX12_flat cX12_flat 2 (some .int) 2 45 D cI cC cZ [.ref tq0, .int x1] (w_X12 cI cC cZ tq0 tq1 tq2 tq3 tq4 tq5 tq6 tq7 tq8 tq9 tq10 tq11 tq12 tq13 tq14 tq15 tq16 tq17 tq18 tq19 tq20 tq21 tq22 tq23 tq24 t_signs t_signMany t_lineOf t_strengthOf t_waterOf t_backOf t_passes t_tried t_table t_numbers t_bends t_wished t_itemLine t_itemStrength t_itemWater t_itemBack t_items t_worstThen t_reading t_isRead t_readSum t_readMany t_spanLow t_spanHigh t_weldLine t_weldPull t_welds t_orderOf t_bestOrder t_smithOf t_bestSmith t_busy) (w_X12 cI cC cZ tq0 tq1 tq2 tq3 tq4 tq5 tq6 tq7 tq8 tq9 tq10 tq11 tq12 tq13 tq14 tq15 tq16 tq17 tq18 tq19 tq20 tq21 tq22 tq23 tq24 t_signs t_signMany t_lineOf t_strengthOf t_waterOf t_backOf t_passes t_tried t_table t_numbers t_bends t_wished t_itemLine t_itemStrength t_itemWater t_itemBack t_items t_worstThen t_reading t_isRead t_readSum t_readMany t_spanLow t_spanHigh t_weldLine t_weldPull t_welds t_orderOf t_bestOrder t_smithOf t_bestSmith t_busy) (some (.int o)) := by
  refine Ctr.of (by decide) (Nat.le_of_ble_eq_true rfl) ?_
  intro p e s m args below meth c ls A Q hA hQ C hl hw
  have hx := C.1
  have hb := C.2.1
  have hl : lv_has ls 2 [(0, .ref tq0), (1, .int x1)] := hl
  refine lv_iload_n hx hb (dc d_X12_flat 0 rfl) rfl (lv_at hl 1 rfl) ?_
  obtain ⟨q1, hq1, hf⟩ := g_bd hf
  refine x_callS C hw mb_X12_isCorner ms_X12_isCorner ml_X12_152 (k_X12_isCorner n hq1) hl.1 rfl rfl [] rfl rfl rfl (Nat.le_of_ble_eq_true rfl) (Nat.le_of_ble_eq_true rfl) (Nat.le_of_ble_eq_true rfl) (dc d_X12_flat 1 rfl) (fun H locs hw => ?_)
  refine W.eq (g2 := F0 m 4 ls [.int q1]) rfl ?_
  have hw : Wd D A s.heap (w_X12 cI cC cZ tq0 tq1 tq2 tq3 tq4 tq5 tq6 tq7 tq8 tq9 tq10 tq11 tq12 tq13 tq14 tq15 tq16 tq17 tq18 tq19 tq20 tq21 tq22 tq23 tq24 t_signs t_signMany t_lineOf t_strengthOf t_waterOf t_backOf t_passes t_tried t_table t_numbers t_bends t_wished t_itemLine t_itemStrength t_itemWater t_itemBack t_items t_worstThen t_reading t_isRead t_readSum t_readMany t_spanLow t_spanHigh t_weldLine t_weldPull t_welds t_orderOf t_bestOrder t_smithOf t_bestSmith t_busy) H locs := hw
  refine lv_if_eq (tgt := 16) hx hb (dc d_X12_flat 2 rfl) (by decide) (fun c2 => ?_) (fun c2 => ?_)
  · have hf := g_t hf c2
    refine x_ldc (v := (-2000000001 : Int32)) C cn_X12_147 (dc d_X12_flat 8 rfl) ?_
    cases hf
    exact x_iret C hA hQ hw rfl rfl (dc d_X12_flat 9 rfl)
  · have hf := g_f hf c2
    refine lv_aload_n hx hb (dc d_X12_flat 3 rfl) rfl (lv_at hl 0 rfl) ?_
    refine x_get C hw fl_X12_52 0 rfl rfl (dc d_X12_flat 4 rfl) ?_
    refine lv_iload_n hx hb (dc d_X12_flat 5 rfl) rfl (lv_at hl 1 rfl) ?_
    have hi := grd_b hf
    have hf := grd_x hf
    refine x_zald C hw 15 rfl hi (dc d_X12_flat 6 rfl) ?_
    refine lv_if_ne (tgt := 19) hx hb (dc d_X12_flat 7 rfl) (by decide) (fun c3 => ?_) (fun c3 => ?_)
    · have hf := g_f hf c3
      refine lv_aload_n hx hb (dc d_X12_flat 10 rfl) rfl (lv_at hl 0 rfl) ?_
      obtain ⟨q4, hq4, hf⟩ := g_bd hf
      refine x_callVa C hw mb_X12_hangs mv_X12_hangs ml_X12_209 (k_X12_hangs n hq4) hl.1 rfl rfl rfl 0 12 rfl rfl (Nat.le_of_ble_eq_true rfl) (Nat.le_of_ble_eq_true rfl) (Nat.le_of_ble_eq_true rfl) (dc d_X12_flat 11 rfl) (fun H locs hw => ?_)
      refine W.eq (g2 := F0 m 23 ls [.int q4]) rfl ?_
      have hw : Wd D A s.heap (w_X12 cI cC cZ tq0 tq1 tq2 tq3 tq4 tq5 tq6 tq7 tq8 tq9 tq10 tq11 tq12 tq13 tq14 tq15 tq16 tq17 tq18 tq19 tq20 tq21 tq22 tq23 tq24 t_signs t_signMany t_lineOf t_strengthOf t_waterOf t_backOf t_passes t_tried t_table t_numbers t_bends t_wished t_itemLine t_itemStrength t_itemWater t_itemBack t_items t_worstThen t_reading t_isRead t_readSum t_readMany t_spanLow t_spanHigh t_weldLine t_weldPull t_welds t_orderOf t_bestOrder t_smithOf t_bestSmith t_busy) H locs := hw
      refine lv_if_eq (tgt := 34) hx hb (dc d_X12_flat 12 rfl) (by decide) (fun c5 => ?_) (fun c5 => ?_)
      · have hf := g_t hf c5
        refine x_ldc (v := (-2000000003 : Int32)) C cn_X12_216 (dc d_X12_flat 17 rfl) ?_
        cases hf
        exact x_iret C hA hQ hw rfl rfl (dc d_X12_flat 18 rfl)
      · have hf := g_f hf c5
        refine lv_aload_n hx hb (dc d_X12_flat 13 rfl) rfl (lv_at hl 0 rfl) ?_
        refine lv_iload_n hx hb (dc d_X12_flat 14 rfl) rfl (lv_at hl 1 rfl) ?_
        obtain ⟨q6, hq6, hf⟩ := g_bd hf
        refine x_callVa C hw mb_X12_flatAt mv_X12_flatAt ml_X12_213 (k_X12_flatAt n hq6) hl.1 rfl rfl rfl 0 12 rfl rfl (Nat.le_of_ble_eq_true rfl) (Nat.le_of_ble_eq_true rfl) (Nat.le_of_ble_eq_true rfl) (dc d_X12_flat 15 rfl) (fun H locs hw => ?_)
        refine W.eq (g2 := F0 m 31 ls [.int q6]) rfl ?_
        have hw : Wd D A s.heap (w_X12 cI cC cZ tq0 tq1 tq2 tq3 tq4 tq5 tq6 tq7 tq8 tq9 tq10 tq11 tq12 tq13 tq14 tq15 tq16 tq17 tq18 tq19 tq20 tq21 tq22 tq23 tq24 t_signs t_signMany t_lineOf t_strengthOf t_waterOf t_backOf t_passes t_tried t_table t_numbers t_bends t_wished t_itemLine t_itemStrength t_itemWater t_itemBack t_items t_worstThen t_reading t_isRead t_readSum t_readMany t_spanLow t_spanHigh t_weldLine t_weldPull t_welds t_orderOf t_bestOrder t_smithOf t_bestSmith t_busy) H locs := hw
        refine lv_goto (tgt := 36) hx hb (dc d_X12_flat 16 rfl) (by decide) ?_
        cases hf
        exact x_iret C hA hQ hw rfl rfl (dc d_X12_flat 18 rfl)
    · have hf := g_t hf c3
      refine x_ldc (v := (-2000000001 : Int32)) C cn_X12_147 (dc d_X12_flat 8 rfl) ?_
      cases hf
      exact x_iret C hA hQ hw rfl rfl (dc d_X12_flat 9 rfl)
set_option maxHeartbeats 4000000 in
set_option maxRecDepth 100000 in
theorem k_X12_odd (n : Nat) {l : Launch} {D : va_G} {cI cC cZ : ClassId} {tq0 tq1 tq2 tq3 tq4 tq5 tq6 tq7 tq8 tq9 tq10 tq11 tq12 tq13 tq14 tq15 tq16 tq17 tq18 tq19 tq20 tq21 tq22 tq23 tq24 : Nat} {t_signs : Nat → Int32} {t_signMany : Int32} {t_lineOf : Nat → Int32} {t_strengthOf : Nat → Int32} {t_waterOf : Nat → Int32} {t_backOf : Nat → Int32} {t_passes : Int32} {t_tried : Int32} {t_table : Nat → Int32} {t_numbers : Nat → Int32} {t_bends : Nat → Int32} {t_wished : Nat → Int32} {t_itemLine : Nat → Int32} {t_itemStrength : Nat → Int32} {t_itemWater : Nat → Int32} {t_itemBack : Nat → Int32} {t_items : Int32} {t_worstThen : Int32} {t_reading : Nat → Int32} {t_isRead : Nat → Int32} {t_readSum : Int32} {t_readMany : Int32} {t_spanLow : Nat → Int32} {t_spanHigh : Nat → Int32} {t_weldLine : Nat → Int32} {t_weldPull : Nat → Int32} {t_welds : Int32} {t_orderOf : Nat → Int32} {t_bestOrder : Nat → Int32} {t_smithOf : Nat → Int32} {t_bestSmith : Nat → Int32} {t_busy : Nat → Int32} {x1 : Int32} {o : Int32 × (Nat → Int32)} (hf : f_X12_odd n t_lineOf t_strengthOf t_waterOf t_backOf t_passes t_table t_numbers t_bends t_reading t_isRead x1 = some o) : Ctr l yX12_odd cX12_odd 5 (some .int) 4 89 D cI cC cZ [.ref tq0, .int x1] (w_X12 cI cC cZ tq0 tq1 tq2 tq3 tq4 tq5 tq6 tq7 tq8 tq9 tq10 tq11 tq12 tq13 tq14 tq15 tq16 tq17 tq18 tq19 tq20 tq21 tq22 tq23 tq24 t_signs t_signMany t_lineOf t_strengthOf t_waterOf t_backOf t_passes t_tried t_table t_numbers t_bends t_wished t_itemLine t_itemStrength t_itemWater t_itemBack t_items t_worstThen t_reading t_isRead t_readSum t_readMany t_spanLow t_spanHigh t_weldLine t_weldPull t_welds t_orderOf t_bestOrder t_smithOf t_bestSmith t_busy) (w_X12 cI cC cZ tq0 tq1 tq2 tq3 tq4 tq5 tq6 tq7 tq8 tq9 tq10 tq11 tq12 tq13 tq14 tq15 tq16 tq17 tq18 tq19 tq20 tq21 tq22 tq23 tq24 t_signs t_signMany t_lineOf t_strengthOf t_waterOf t_backOf t_passes t_tried t_table t_numbers o.2 t_wished t_itemLine t_itemStrength t_itemWater t_itemBack t_items t_worstThen t_reading t_isRead t_readSum t_readMany t_spanLow t_spanHigh t_weldLine t_weldPull t_welds t_orderOf t_bestOrder t_smithOf t_bestSmith t_busy) (some (.int o.1)) := by
  refine Ctr.of (by decide) (Nat.le_of_ble_eq_true rfl) ?_
  intro p e s m args below meth c ls A Q hA hQ C hl hw
  have hx := C.1
  have hb := C.2.1
  have hl : lv_has ls 5 [(0, .ref tq0), (1, .int x1)] := hl
  have L22 : ∀ (n : Nat), ∀ (t_bends : Nat → Int32) (v1 : Int32) (v2 : Int32) (v3 : Int32) (H : Heap) (locs : List Loc) (ls : Array Slot), Wd D A s.heap (w_X12 cI cC cZ tq0 tq1 tq2 tq3 tq4 tq5 tq6 tq7 tq8 tq9 tq10 tq11 tq12 tq13 tq14 tq15 tq16 tq17 tq18 tq19 tq20 tq21 tq22 tq23 tq24 t_signs t_signMany t_lineOf t_strengthOf t_waterOf t_backOf t_passes t_tried t_table t_numbers t_bends t_wished t_itemLine t_itemStrength t_itemWater t_itemBack t_items t_worstThen t_reading t_isRead t_readSum t_readMany t_spanLow t_spanHigh t_weldLine t_weldPull t_welds t_orderOf t_bestOrder t_smithOf t_bestSmith t_busy) H locs → lv_has ls 5 [(0, .ref tq0), (1, .int v1), (2, .int v2), (3, .int v3)] → f_X12_odd_22 t_lineOf t_strengthOf t_waterOf t_backOf t_passes t_table t_numbers t_reading t_isRead  n t_bends v1 v2 v3 = some o → W p l e (rmOf 4 89) s m args below meth c H locs 0 0 Q (F0 m 22 ls []) := by
    intro  n
    induction n with
    | zero => intro t_bends v1 v2 v3 H locs ls hw hl hf; exact (no_none hf).elim
    | succ n ih =>
      intro t_bends v1 v2 v3 H locs ls hw hl hf
      have hf : f_X12_odd_22b t_lineOf t_strengthOf t_waterOf t_backOf t_passes t_table t_numbers t_reading t_isRead  (f_X12_odd_22 t_lineOf t_strengthOf t_waterOf t_backOf t_passes t_table t_numbers t_reading t_isRead  n) n t_bends v1 v2 v3 = some o := hf
      generalize f_X12_odd_22 t_lineOf t_strengthOf t_waterOf t_backOf t_passes t_table t_numbers t_reading t_isRead  n = k22 at hf ih
      refine lv_iload_n hx hb (dc d_X12_odd 13 rfl) rfl (lv_at hl 3 rfl) ?_
      refine lv_bipush (v := (36 : Int32)) hx hb (dc d_X12_odd 14 rfl) (by decide) ?_
      refine lv_icmp_ge (tgt := 100) hx hb (dc d_X12_odd 15 rfl) (by decide) (fun c4 => ?_) (fun c4 => ?_)
      · have hf := g_t hf c4
        refine lv_iload_n hx hb (dc d_X12_odd 55 rfl) rfl (lv_at hl 1 rfl) ?_
        refine lv_iconst (v := (-1 : Int32)) hx hb (dc d_X12_odd 56 rfl) (by decide) ?_
        refine lv_icmp_ne (tgt := 109) hx hb (dc d_X12_odd 57 rfl) (by decide) (fun c5 => ?_) (fun c5 => ?_)
        · have hf := g_f hf c5
          refine lv_bipush (v := (-6 : Int32)) hx hb (dc d_X12_odd 60 rfl) (by decide) ?_
          cases hf
          exact x_iret C hA hQ hw rfl rfl (dc d_X12_odd 61 rfl)
        · have hf := g_t hf c5
          refine lv_iload_n hx hb (dc d_X12_odd 58 rfl) rfl (lv_at hl 2 rfl) ?_
          refine lv_goto (tgt := 111) hx hb (dc d_X12_odd 59 rfl) (by decide) ?_
          cases hf
          exact x_iret C hA hQ hw rfl rfl (dc d_X12_odd 61 rfl)
      · have hf := g_f hf c4
        refine lv_iload_n hx hb (dc d_X12_odd 16 rfl) rfl (lv_at hl 3 rfl) ?_
        refine lv_aload_n hx hb (dc d_X12_odd 17 rfl) rfl (lv_at hl 0 rfl) ?_
        refine lv_iload_n hx hb (dc d_X12_odd 18 rfl) rfl (lv_at hl 3 rfl) ?_
        obtain ⟨q6, hq6, hf⟩ := g_bd hf
        refine x_callVa C hw mb_X12_heightAt mv_X12_heightAt ml_X12_155 (k_X12_heightAt n hq6) hl.1 rfl rfl rfl 0 12 rfl rfl (Nat.le_of_ble_eq_true rfl) (Nat.le_of_ble_eq_true rfl) (Nat.le_of_ble_eq_true rfl) (dc d_X12_odd 19 rfl) (fun H locs hw => ?_)
        refine W.eq (g2 := F0 m 34 ls [.int q6, .int v3]) rfl ?_
        have hw : Wd D A s.heap (w_X12 cI cC cZ tq0 tq1 tq2 tq3 tq4 tq5 tq6 tq7 tq8 tq9 tq10 tq11 tq12 tq13 tq14 tq15 tq16 tq17 tq18 tq19 tq20 tq21 tq22 tq23 tq24 t_signs t_signMany t_lineOf t_strengthOf t_waterOf t_backOf t_passes t_tried t_table t_numbers t_bends t_wished t_itemLine t_itemStrength t_itemWater t_itemBack t_items t_worstThen t_reading t_isRead t_readSum t_readMany t_spanLow t_spanHigh t_weldLine t_weldPull t_welds t_orderOf t_bestOrder t_smithOf t_bestSmith t_busy) H locs := hw
        refine lv_aload_n hx hb (dc d_X12_odd 20 rfl) rfl (lv_at hl 0 rfl) ?_
        refine lv_iconst (v := (0 : Int32)) hx hb (dc d_X12_odd 21 rfl) (by decide) ?_
        obtain ⟨q7, hq7, hf⟩ := g_bd hf
        refine x_callVa C hw mb_X12_heightAt mv_X12_heightAt ml_X12_155 (k_X12_heightAt n hq7) hl.1 rfl rfl rfl 0 12 rfl rfl (Nat.le_of_ble_eq_true rfl) (Nat.le_of_ble_eq_true rfl) (Nat.le_of_ble_eq_true rfl) (dc d_X12_odd 22 rfl) (fun H locs hw => ?_)
        refine W.eq (g2 := F0 m 39 ls [.int q7, .int q6, .int v3]) rfl ?_
        have hw : Wd D A s.heap (w_X12 cI cC cZ tq0 tq1 tq2 tq3 tq4 tq5 tq6 tq7 tq8 tq9 tq10 tq11 tq12 tq13 tq14 tq15 tq16 tq17 tq18 tq19 tq20 tq21 tq22 tq23 tq24 t_signs t_signMany t_lineOf t_strengthOf t_waterOf t_backOf t_passes t_tried t_table t_numbers t_bends t_wished t_itemLine t_itemStrength t_itemWater t_itemBack t_items t_worstThen t_reading t_isRead t_readSum t_readMany t_spanLow t_spanHigh t_weldLine t_weldPull t_welds t_orderOf t_bestOrder t_smithOf t_bestSmith t_busy) H locs := hw
        refine lv_aload_n hx hb (dc d_X12_odd 23 rfl) rfl (lv_at hl 0 rfl) ?_
        refine lv_iconst (v := (5 : Int32)) hx hb (dc d_X12_odd 24 rfl) (by decide) ?_
        obtain ⟨q8, hq8, hf⟩ := g_bd hf
        refine x_callVa C hw mb_X12_heightAt mv_X12_heightAt ml_X12_155 (k_X12_heightAt n hq8) hl.1 rfl rfl rfl 0 12 rfl rfl (Nat.le_of_ble_eq_true rfl) (Nat.le_of_ble_eq_true rfl) (Nat.le_of_ble_eq_true rfl) (dc d_X12_odd 25 rfl) (fun H locs hw => ?_)
        refine W.eq (g2 := F0 m 44 ls [.int q8, .int q7, .int q6, .int v3]) rfl ?_
        have hw : Wd D A s.heap (w_X12 cI cC cZ tq0 tq1 tq2 tq3 tq4 tq5 tq6 tq7 tq8 tq9 tq10 tq11 tq12 tq13 tq14 tq15 tq16 tq17 tq18 tq19 tq20 tq21 tq22 tq23 tq24 t_signs t_signMany t_lineOf t_strengthOf t_waterOf t_backOf t_passes t_tried t_table t_numbers t_bends t_wished t_itemLine t_itemStrength t_itemWater t_itemBack t_items t_worstThen t_reading t_isRead t_readSum t_readMany t_spanLow t_spanHigh t_weldLine t_weldPull t_welds t_orderOf t_bestOrder t_smithOf t_bestSmith t_busy) H locs := hw
        refine lv_aload_n hx hb (dc d_X12_odd 26 rfl) rfl (lv_at hl 0 rfl) ?_
        refine lv_bipush (v := (30 : Int32)) hx hb (dc d_X12_odd 27 rfl) (by decide) ?_
        obtain ⟨q9, hq9, hf⟩ := g_bd hf
        refine x_callVa C hw mb_X12_heightAt mv_X12_heightAt ml_X12_155 (k_X12_heightAt n hq9) hl.1 rfl rfl rfl 0 12 rfl rfl (Nat.le_of_ble_eq_true rfl) (Nat.le_of_ble_eq_true rfl) (Nat.le_of_ble_eq_true rfl) (dc d_X12_odd 28 rfl) (fun H locs hw => ?_)
        refine W.eq (g2 := F0 m 50 ls [.int q9, .int q8, .int q7, .int q6, .int v3]) rfl ?_
        have hw : Wd D A s.heap (w_X12 cI cC cZ tq0 tq1 tq2 tq3 tq4 tq5 tq6 tq7 tq8 tq9 tq10 tq11 tq12 tq13 tq14 tq15 tq16 tq17 tq18 tq19 tq20 tq21 tq22 tq23 tq24 t_signs t_signMany t_lineOf t_strengthOf t_waterOf t_backOf t_passes t_tried t_table t_numbers t_bends t_wished t_itemLine t_itemStrength t_itemWater t_itemBack t_items t_worstThen t_reading t_isRead t_readSum t_readMany t_spanLow t_spanHigh t_weldLine t_weldPull t_welds t_orderOf t_bestOrder t_smithOf t_bestSmith t_busy) H locs := hw
        obtain ⟨q10, hq10, hf⟩ := g_bd hf
        refine x_callS C hw mb_X12_above ms_X12_above ml_X12_166 (k_X12_above n hq10) hl.1 rfl rfl [] rfl rfl rfl (Nat.le_of_ble_eq_true rfl) (Nat.le_of_ble_eq_true rfl) (Nat.le_of_ble_eq_true rfl) (dc d_X12_odd 29 rfl) (fun H locs hw => ?_)
        refine W.eq (g2 := F0 m 53 ls [.int q10]) rfl ?_
        have hw : Wd D A s.heap (w_X12 cI cC cZ tq0 tq1 tq2 tq3 tq4 tq5 tq6 tq7 tq8 tq9 tq10 tq11 tq12 tq13 tq14 tq15 tq16 tq17 tq18 tq19 tq20 tq21 tq22 tq23 tq24 t_signs t_signMany t_lineOf t_strengthOf t_waterOf t_backOf t_passes t_tried t_table t_numbers t_bends t_wished t_itemLine t_itemStrength t_itemWater t_itemBack t_items t_worstThen t_reading t_isRead t_readSum t_readMany t_spanLow t_spanHigh t_weldLine t_weldPull t_welds t_orderOf t_bestOrder t_smithOf t_bestSmith t_busy) H locs := hw
        refine lv_istore (lv' := [(4, .int q10), (0, .ref tq0), (1, .int v1), (2, .int v2), (3, .int v3)]) hx hb (dc d_X12_odd 30 rfl) hl (by decide) rfl (fun ls hl => ?_)
        refine lv_aload_n hx hb (dc d_X12_odd 31 rfl) rfl (lv_at hl 1 rfl) ?_
        refine x_get C hw fl_X12_52 0 rfl rfl (dc d_X12_odd 32 rfl) ?_
        refine lv_iload_n hx hb (dc d_X12_odd 33 rfl) rfl (lv_at hl 4 rfl) ?_
        have hi := grd_b hf
        have hf := grd_x hf
        refine x_zald C hw 15 rfl hi (dc d_X12_odd 34 rfl) ?_
        refine lv_if_eq (tgt := 94) hx hb (dc d_X12_odd 35 rfl) (by decide) (fun c11 => ?_) (fun c11 => ?_)
        · have hf := g_t hf c11
          refine lv_iinc (v := (v3 + (1 : Int32))) (lv' := [(3, .int (v3 + (1 : Int32))), (4, .int q10), (0, .ref tq0), (1, .int v1), (2, .int v2)]) hx hb (dc d_X12_odd 53 rfl) hl (k := 4) rfl (ii (by decide)) (by decide) rfl (fun ls hl => ?_)
          refine lv_goto (tgt := 22) hx hb (dc d_X12_odd 54 rfl) (by decide) ?_
          exact ih t_bends v1 v2 (v3 + (1 : Int32)) _ _ _ hw (lv_sub hl [2, 3, 4, 0] rfl) hf
        · have hf := g_f hf c11
          refine lv_aload_n hx hb (dc d_X12_odd 36 rfl) rfl (lv_at hl 1 rfl) ?_
          refine lv_iload_n hx hb (dc d_X12_odd 37 rfl) rfl (lv_at hl 4 rfl) ?_
          obtain ⟨q12, hq12, hf⟩ := g_bd hf
          refine x_callVa C hw mb_X12_flatAt mv_X12_flatAt ml_X12_213 (k_X12_flatAt n hq12) hl.1 rfl rfl rfl 0 12 rfl rfl (Nat.le_of_ble_eq_true rfl) (Nat.le_of_ble_eq_true rfl) (Nat.le_of_ble_eq_true rfl) (dc d_X12_odd 38 rfl) (fun H locs hw => ?_)
          refine W.eq (g2 := F0 m 69 ls [.int q12]) rfl ?_
          have hw : Wd D A s.heap (w_X12 cI cC cZ tq0 tq1 tq2 tq3 tq4 tq5 tq6 tq7 tq8 tq9 tq10 tq11 tq12 tq13 tq14 tq15 tq16 tq17 tq18 tq19 tq20 tq21 tq22 tq23 tq24 t_signs t_signMany t_lineOf t_strengthOf t_waterOf t_backOf t_passes t_tried t_table t_numbers t_bends t_wished t_itemLine t_itemStrength t_itemWater t_itemBack t_items t_worstThen t_reading t_isRead t_readSum t_readMany t_spanLow t_spanHigh t_weldLine t_weldPull t_welds t_orderOf t_bestOrder t_smithOf t_bestSmith t_busy) H locs := hw
          refine lv_iload hx hb (dc d_X12_odd 39 rfl) (lv_at hl 0 rfl) ?_
          refine lv_isub hx hb (dc d_X12_odd 40 rfl) ?_
          obtain ⟨q13, hq13, hf⟩ := g_bd hf
          refine x_callS C hw mb_X12_size ms_X12_size ml_X12_119 (k_X12_size n hq13) hl.1 rfl rfl [] rfl rfl rfl (Nat.le_of_ble_eq_true rfl) (Nat.le_of_ble_eq_true rfl) (Nat.le_of_ble_eq_true rfl) (dc d_X12_odd 41 rfl) (fun H locs hw => ?_)
          refine W.eq (g2 := F0 m 75 ls [.int q13]) rfl ?_
          have hw : Wd D A s.heap (w_X12 cI cC cZ tq0 tq1 tq2 tq3 tq4 tq5 tq6 tq7 tq8 tq9 tq10 tq11 tq12 tq13 tq14 tq15 tq16 tq17 tq18 tq19 tq20 tq21 tq22 tq23 tq24 t_signs t_signMany t_lineOf t_strengthOf t_waterOf t_backOf t_passes t_tried t_table t_numbers t_bends t_wished t_itemLine t_itemStrength t_itemWater t_itemBack t_items t_worstThen t_reading t_isRead t_readSum t_readMany t_spanLow t_spanHigh t_weldLine t_weldPull t_welds t_orderOf t_bestOrder t_smithOf t_bestSmith t_busy) H locs := hw
          refine lv_aload_n hx hb (dc d_X12_odd 42 rfl) rfl (lv_at hl 1 rfl) ?_
          refine x_get C hw fl_X12_28 0 rfl rfl (dc d_X12_odd 43 rfl) ?_
          refine lv_iconst (v := (4 : Int32)) hx hb (dc d_X12_odd 44 rfl) (by decide) ?_
          refine x_iald C hw 7 rfl (by decide) (dc d_X12_odd 45 rfl) ?_
          refine lv_icmp_le (tgt := 94) hx hb (dc d_X12_odd 46 rfl) (by decide) (fun c14 => ?_) (fun c14 => ?_)
          · have hf := g_t hf c14
            refine lv_iinc (v := (v3 + (1 : Int32))) (lv' := [(3, .int (v3 + (1 : Int32))), (4, .int q10), (0, .ref tq0), (1, .int v1), (2, .int v2)]) hx hb (dc d_X12_odd 53 rfl) hl (k := 4) rfl (ii (by decide)) (by decide) rfl (fun ls hl => ?_)
            refine lv_goto (tgt := 22) hx hb (dc d_X12_odd 54 rfl) (by decide) ?_
            exact ih t_bends v1 v2 (v3 + (1 : Int32)) _ _ _ hw (lv_sub hl [2, 3, 4, 0] rfl) hf
          · have hf := g_f hf c14
            refine lv_iload_n hx hb (dc d_X12_odd 47 rfl) rfl (lv_at hl 3 rfl) ?_
            refine lv_iload_n hx hb (dc d_X12_odd 48 rfl) rfl (lv_at hl 2 rfl) ?_
            refine lv_icmp_ne (tgt := 91) hx hb (dc d_X12_odd 49 rfl) (by decide) (fun c15 => ?_) (fun c15 => ?_)
            · have hf := g_f hf c15
              refine lv_iinc (v := (v2 + (1 : Int32))) (lv' := [(2, .int (v2 + (1 : Int32))), (4, .int q10), (0, .ref tq0), (1, .int v1), (3, .int v3)]) hx hb (dc d_X12_odd 52 rfl) hl (k := 3) rfl (ii (by decide)) (by decide) rfl (fun ls hl => ?_)
              refine lv_iinc (v := (v3 + (1 : Int32))) (lv' := [(3, .int (v3 + (1 : Int32))), (2, .int (v2 + (1 : Int32))), (4, .int q10), (0, .ref tq0), (1, .int v1)]) hx hb (dc d_X12_odd 53 rfl) hl (k := 4) rfl (ii (by decide)) (by decide) rfl (fun ls hl => ?_)
              refine lv_goto (tgt := 22) hx hb (dc d_X12_odd 54 rfl) (by decide) ?_
              exact ih t_bends v1 (v2 + (1 : Int32)) (v3 + (1 : Int32)) _ _ _ hw (lv_sub hl [3, 4, 1, 0] rfl) hf
            · have hf := g_t hf c15
              refine lv_iload_n hx hb (dc d_X12_odd 50 rfl) rfl (lv_at hl 4 rfl) ?_
              cases hf
              exact x_iret C hA hQ hw rfl rfl (dc d_X12_odd 51 rfl)
  refine lv_aload_n hx hb (dc d_X12_odd 0 rfl) rfl (lv_at hl 0 rfl) ?_
  obtain ⟨q1, hq1, hf⟩ := g_bd hf
  refine x_callVa C hw mb_X12_hangs mv_X12_hangs ml_X12_209 (k_X12_hangs n hq1) hl.1 rfl rfl rfl 0 12 rfl rfl (Nat.le_of_ble_eq_true rfl) (Nat.le_of_ble_eq_true rfl) (Nat.le_of_ble_eq_true rfl) (dc d_X12_odd 1 rfl) (fun H locs hw => ?_)
  refine W.eq (g2 := F0 m 4 ls [.int q1]) rfl ?_
  have hw : Wd D A s.heap (w_X12 cI cC cZ tq0 tq1 tq2 tq3 tq4 tq5 tq6 tq7 tq8 tq9 tq10 tq11 tq12 tq13 tq14 tq15 tq16 tq17 tq18 tq19 tq20 tq21 tq22 tq23 tq24 t_signs t_signMany t_lineOf t_strengthOf t_waterOf t_backOf t_passes t_tried t_table t_numbers t_bends t_wished t_itemLine t_itemStrength t_itemWater t_itemBack t_items t_worstThen t_reading t_isRead t_readSum t_readMany t_spanLow t_spanHigh t_weldLine t_weldPull t_welds t_orderOf t_bestOrder t_smithOf t_bestSmith t_busy) H locs := hw
  refine lv_if_ne (tgt := 10) hx hb (dc d_X12_odd 2 rfl) (by decide) (fun c2 => ?_) (fun c2 => ?_)
  · have hf := g_f hf c2
    refine lv_aload_n hx hb (dc d_X12_odd 5 rfl) rfl (lv_at hl 0 rfl) ?_
    refine lv_aload_n hx hb (dc d_X12_odd 6 rfl) rfl (lv_at hl 0 rfl) ?_
    refine x_get C hw fl_X12_113 0 rfl rfl (dc d_X12_odd 7 rfl) ?_
    obtain ⟨q3, hq3, hf⟩ := g_bd hf
    refine x_callVa C hw mb_X12_findBends mv_X12_findBends ml_X12_148 (k_X12_findBends n hq3) hl.1 rfl rfl rfl 0 12 rfl rfl (Nat.le_of_ble_eq_true rfl) (Nat.le_of_ble_eq_true rfl) (Nat.le_of_ble_eq_true rfl) (dc d_X12_odd 8 rfl) (fun H locs hw => ?_)
    refine W.eq (g2 := F0 m 18 ls []) rfl ?_
    have hw : Wd D A s.heap (w_X12 cI cC cZ tq0 tq1 tq2 tq3 tq4 tq5 tq6 tq7 tq8 tq9 tq10 tq11 tq12 tq13 tq14 tq15 tq16 tq17 tq18 tq19 tq20 tq21 tq22 tq23 tq24 t_signs t_signMany t_lineOf t_strengthOf t_waterOf t_backOf t_passes t_tried t_table t_numbers q3 t_wished t_itemLine t_itemStrength t_itemWater t_itemBack t_items t_worstThen t_reading t_isRead t_readSum t_readMany t_spanLow t_spanHigh t_weldLine t_weldPull t_welds t_orderOf t_bestOrder t_smithOf t_bestSmith t_busy) H locs := hw
    refine lv_iconst (v := (0 : Int32)) hx hb (dc d_X12_odd 9 rfl) (by decide) ?_
    refine lv_istore_n (lv' := [(2, .int (0 : Int32)), (0, .ref tq0), (1, .int x1)]) hx hb (dc d_X12_odd 10 rfl) rfl hl (by decide) rfl (fun ls hl => ?_)
    refine lv_iconst (v := (0 : Int32)) hx hb (dc d_X12_odd 11 rfl) (by decide) ?_
    refine lv_istore_n (lv' := [(3, .int (0 : Int32)), (2, .int (0 : Int32)), (0, .ref tq0), (1, .int x1)]) hx hb (dc d_X12_odd 12 rfl) rfl hl (by decide) rfl (fun ls hl => ?_)
    exact L22  n q3 x1 (0 : Int32) (0 : Int32) _ _ _ hw (lv_sub hl [2, 3, 1, 0] rfl) hf
  · have hf := g_t hf c2
    refine lv_bipush (v := (-3 : Int32)) hx hb (dc d_X12_odd 3 rfl) (by decide) ?_
    cases hf
    exact x_iret C hA hQ hw rfl rfl (dc d_X12_odd 4 rfl)
set_option maxHeartbeats 4000000 in
set_option maxRecDepth 100000 in
theorem k_X12_findRead (n : Nat) {l : Launch} {D : va_G} {cI cC cZ : ClassId} {tq0 tq1 tq2 tq3 tq4 tq5 tq6 tq7 tq8 tq9 tq10 tq11 tq12 tq13 tq14 tq15 tq16 tq17 tq18 tq19 tq20 tq21 tq22 tq23 tq24 : Nat} {t_signs : Nat → Int32} {t_signMany : Int32} {t_lineOf : Nat → Int32} {t_strengthOf : Nat → Int32} {t_waterOf : Nat → Int32} {t_backOf : Nat → Int32} {t_passes : Int32} {t_tried : Int32} {t_table : Nat → Int32} {t_numbers : Nat → Int32} {t_bends : Nat → Int32} {t_wished : Nat → Int32} {t_itemLine : Nat → Int32} {t_itemStrength : Nat → Int32} {t_itemWater : Nat → Int32} {t_itemBack : Nat → Int32} {t_items : Int32} {t_worstThen : Int32} {t_reading : Nat → Int32} {t_isRead : Nat → Int32} {t_readSum : Int32} {t_readMany : Int32} {t_spanLow : Nat → Int32} {t_spanHigh : Nat → Int32} {t_weldLine : Nat → Int32} {t_weldPull : Nat → Int32} {t_welds : Int32} {t_orderOf : Nat → Int32} {t_bestOrder : Nat → Int32} {t_smithOf : Nat → Int32} {t_bestSmith : Nat → Int32} {t_busy : Nat → Int32} {x1 : Int32} {o : Int32 × Int32} (hf : f_X12_findRead n t_reading t_isRead t_readSum t_readMany x1 = some o) : Ctr l yX12_findRead cX12_findRead 6 none 0 0 D cI cC cZ [.ref tq0, .int x1] (w_X12 cI cC cZ tq0 tq1 tq2 tq3 tq4 tq5 tq6 tq7 tq8 tq9 tq10 tq11 tq12 tq13 tq14 tq15 tq16 tq17 tq18 tq19 tq20 tq21 tq22 tq23 tq24 t_signs t_signMany t_lineOf t_strengthOf t_waterOf t_backOf t_passes t_tried t_table t_numbers t_bends t_wished t_itemLine t_itemStrength t_itemWater t_itemBack t_items t_worstThen t_reading t_isRead t_readSum t_readMany t_spanLow t_spanHigh t_weldLine t_weldPull t_welds t_orderOf t_bestOrder t_smithOf t_bestSmith t_busy) (w_X12 cI cC cZ tq0 tq1 tq2 tq3 tq4 tq5 tq6 tq7 tq8 tq9 tq10 tq11 tq12 tq13 tq14 tq15 tq16 tq17 tq18 tq19 tq20 tq21 tq22 tq23 tq24 t_signs t_signMany t_lineOf t_strengthOf t_waterOf t_backOf t_passes t_tried t_table t_numbers t_bends t_wished t_itemLine t_itemStrength t_itemWater t_itemBack t_items t_worstThen t_reading t_isRead o.1 o.2 t_spanLow t_spanHigh t_weldLine t_weldPull t_welds t_orderOf t_bestOrder t_smithOf t_bestSmith t_busy) none := by
  refine Ctr.of (by decide) (Nat.le_of_ble_eq_true rfl) ?_
  intro p e s m args below meth c ls A Q hA hQ C hl hw
  have hx := C.1
  have hb := C.2.1
  have hl : lv_has ls 6 [(0, .ref tq0), (1, .int x1)] := hl
  have L60 : ∀ (k31 : (Int32) → (Int32) → (Int32) → (Int32) → (Int32) → (Int32) → Option (Int32 × Int32)), (∀ (t_readSum : Int32) (t_readMany : Int32) (v1 : Int32) (v2 : Int32) (v3 : Int32) (v4 : Int32) (H : Heap) (locs : List Loc) (ls : Array Slot), Wd D A s.heap (w_X12 cI cC cZ tq0 tq1 tq2 tq3 tq4 tq5 tq6 tq7 tq8 tq9 tq10 tq11 tq12 tq13 tq14 tq15 tq16 tq17 tq18 tq19 tq20 tq21 tq22 tq23 tq24 t_signs t_signMany t_lineOf t_strengthOf t_waterOf t_backOf t_passes t_tried t_table t_numbers t_bends t_wished t_itemLine t_itemStrength t_itemWater t_itemBack t_items t_worstThen t_reading t_isRead t_readSum t_readMany t_spanLow t_spanHigh t_weldLine t_weldPull t_welds t_orderOf t_bestOrder t_smithOf t_bestSmith t_busy) H locs → lv_has ls 6 [(0, .ref tq0), (1, .int v1), (2, .int v2), (3, .int v3), (4, .int v4)] → k31 t_readSum t_readMany v1 v2 v3 v4 = some o → W p l e (rmOf 0 0) s m args below meth c H locs 0 0 Q (F0 m 31 ls [])) → ∀ (n : Nat), ∀ (t_readSum : Int32) (t_readMany : Int32) (v1 : Int32) (v2 : Int32) (v3 : Int32) (v4 : Int32) (s0 : Int32) (H : Heap) (locs : List Loc) (ls : Array Slot), Wd D A s.heap (w_X12 cI cC cZ tq0 tq1 tq2 tq3 tq4 tq5 tq6 tq7 tq8 tq9 tq10 tq11 tq12 tq13 tq14 tq15 tq16 tq17 tq18 tq19 tq20 tq21 tq22 tq23 tq24 t_signs t_signMany t_lineOf t_strengthOf t_waterOf t_backOf t_passes t_tried t_table t_numbers t_bends t_wished t_itemLine t_itemStrength t_itemWater t_itemBack t_items t_worstThen t_reading t_isRead t_readSum t_readMany t_spanLow t_spanHigh t_weldLine t_weldPull t_welds t_orderOf t_bestOrder t_smithOf t_bestSmith t_busy) H locs → lv_has ls 6 [(0, .ref tq0), (1, .int v1), (2, .int v2), (3, .int v3), (4, .int v4)] → f_X12_findRead_60 t_reading t_isRead k31 n t_readSum t_readMany v1 v2 v3 v4 s0 = some o → W p l e (rmOf 0 0) s m args below meth c H locs 0 0 Q (F0 m 60 ls [.int s0]) := by
    intro k31 H31 n t_readSum t_readMany v1 v2 v3 v4 s0 H locs ls hw hl hf
    refine lv_istore (lv' := [(5, .int s0), (0, .ref tq0), (1, .int v1), (2, .int v2), (3, .int v3), (4, .int v4)]) hx hb (dc d_X12_findRead 38 rfl) hl (by decide) rfl (fun ls hl => ?_)
    refine lv_aload_n hx hb (dc d_X12_findRead 39 rfl) rfl (lv_at hl 1 rfl) ?_
    refine x_get C hw fl_X12_52 0 rfl rfl (dc d_X12_findRead 40 rfl) ?_
    refine lv_iload hx hb (dc d_X12_findRead 41 rfl) (lv_at hl 0 rfl) ?_
    refine lv_iload_n hx hb (dc d_X12_findRead 42 rfl) rfl (lv_at hl 4 rfl) ?_
    refine lv_isub hx hb (dc d_X12_findRead 43 rfl) ?_
    have hi := grd_b hf
    have hf := grd_x hf
    refine x_zald C hw 15 rfl hi (dc d_X12_findRead 44 rfl) ?_
    refine lv_if_eq (tgt := 144) hx hb (dc d_X12_findRead 45 rfl) (by decide) (fun c5 => ?_) (fun c5 => ?_)
    · have hf := g_t hf c5
      refine lv_iinc (v := (v4 + (1 : Int32))) (lv' := [(4, .int (v4 + (1 : Int32))), (5, .int s0), (0, .ref tq0), (1, .int v1), (2, .int v2), (3, .int v3)]) hx hb (dc d_X12_findRead 89 rfl) hl (k := 5) rfl (ii (by decide)) (by decide) rfl (fun ls hl => ?_)
      refine lv_goto (tgt := 31) hx hb (dc d_X12_findRead 90 rfl) (by decide) ?_
      exact H31 t_readSum t_readMany v1 v2 v3 (v4 + (1 : Int32)) _ _ _ hw (lv_sub hl [2, 3, 4, 5, 0] rfl) hf
    · have hf := g_f hf c5
      refine lv_aload_n hx hb (dc d_X12_findRead 46 rfl) rfl (lv_at hl 1 rfl) ?_
      refine x_get C hw fl_X12_52 0 rfl rfl (dc d_X12_findRead 47 rfl) ?_
      refine lv_iload hx hb (dc d_X12_findRead 48 rfl) (lv_at hl 0 rfl) ?_
      have hi := grd_b hf
      have hf := grd_x hf
      refine x_zald C hw 15 rfl hi (dc d_X12_findRead 49 rfl) ?_
      refine lv_if_eq (tgt := 144) hx hb (dc d_X12_findRead 50 rfl) (by decide) (fun c6 => ?_) (fun c6 => ?_)
      · have hf := g_t hf c6
        refine lv_iinc (v := (v4 + (1 : Int32))) (lv' := [(4, .int (v4 + (1 : Int32))), (5, .int s0), (0, .ref tq0), (1, .int v1), (2, .int v2), (3, .int v3)]) hx hb (dc d_X12_findRead 89 rfl) hl (k := 5) rfl (ii (by decide)) (by decide) rfl (fun ls hl => ?_)
        refine lv_goto (tgt := 31) hx hb (dc d_X12_findRead 90 rfl) (by decide) ?_
        exact H31 t_readSum t_readMany v1 v2 v3 (v4 + (1 : Int32)) _ _ _ hw (lv_sub hl [2, 3, 4, 5, 0] rfl) hf
      · have hf := g_f hf c6
        refine lv_aload_n hx hb (dc d_X12_findRead 51 rfl) rfl (lv_at hl 1 rfl) ?_
        refine x_get C hw fl_X12_52 0 rfl rfl (dc d_X12_findRead 52 rfl) ?_
        refine lv_iload hx hb (dc d_X12_findRead 53 rfl) (lv_at hl 0 rfl) ?_
        refine lv_iload_n hx hb (dc d_X12_findRead 54 rfl) rfl (lv_at hl 4 rfl) ?_
        refine lv_iadd hx hb (dc d_X12_findRead 55 rfl) ?_
        have hi := grd_b hf
        have hf := grd_x hf
        refine x_zald C hw 15 rfl hi (dc d_X12_findRead 56 rfl) ?_
        refine lv_if_eq (tgt := 144) hx hb (dc d_X12_findRead 57 rfl) (by decide) (fun c7 => ?_) (fun c7 => ?_)
        · have hf := g_t hf c7
          refine lv_iinc (v := (v4 + (1 : Int32))) (lv' := [(4, .int (v4 + (1 : Int32))), (5, .int s0), (0, .ref tq0), (1, .int v1), (2, .int v2), (3, .int v3)]) hx hb (dc d_X12_findRead 89 rfl) hl (k := 5) rfl (ii (by decide)) (by decide) rfl (fun ls hl => ?_)
          refine lv_goto (tgt := 31) hx hb (dc d_X12_findRead 90 rfl) (by decide) ?_
          exact H31 t_readSum t_readMany v1 v2 v3 (v4 + (1 : Int32)) _ _ _ hw (lv_sub hl [2, 3, 4, 5, 0] rfl) hf
        · have hf := g_f hf c7
          refine lv_aload_n hx hb (dc d_X12_findRead 58 rfl) rfl (lv_at hl 1 rfl) ?_
          refine lv_dup hx hb (dc d_X12_findRead 59 rfl) rfl ?_
          refine x_get C hw fl_X12_217 0 rfl rfl (dc d_X12_findRead 60 rfl) ?_
          refine lv_aload_n hx hb (dc d_X12_findRead 61 rfl) rfl (lv_at hl 1 rfl) ?_
          refine x_get C hw fl_X12_49 0 rfl rfl (dc d_X12_findRead 62 rfl) ?_
          refine lv_iload hx hb (dc d_X12_findRead 63 rfl) (lv_at hl 0 rfl) ?_
          refine lv_iload_n hx hb (dc d_X12_findRead 64 rfl) rfl (lv_at hl 4 rfl) ?_
          refine lv_isub hx hb (dc d_X12_findRead 65 rfl) ?_
          have hi := grd_b hf
          have hf := grd_x hf
          refine x_iald C hw 14 rfl hi (dc d_X12_findRead 66 rfl) ?_
          refine lv_iconst (v := (2 : Int32)) hx hb (dc d_X12_findRead 67 rfl) (by decide) ?_
          refine lv_aload_n hx hb (dc d_X12_findRead 68 rfl) rfl (lv_at hl 1 rfl) ?_
          refine x_get C hw fl_X12_49 0 rfl rfl (dc d_X12_findRead 69 rfl) ?_
          refine lv_iload hx hb (dc d_X12_findRead 70 rfl) (lv_at hl 0 rfl) ?_
          have hi := grd_b hf
          have hf := grd_x hf
          refine x_iald C hw 14 rfl hi (dc d_X12_findRead 71 rfl) ?_
          refine lv_imul hx hb (dc d_X12_findRead 72 rfl) ?_
          refine lv_isub hx hb (dc d_X12_findRead 73 rfl) ?_
          refine lv_aload_n hx hb (dc d_X12_findRead 74 rfl) rfl (lv_at hl 1 rfl) ?_
          refine x_get C hw fl_X12_49 0 rfl rfl (dc d_X12_findRead 75 rfl) ?_
          refine lv_iload hx hb (dc d_X12_findRead 76 rfl) (lv_at hl 0 rfl) ?_
          refine lv_iload_n hx hb (dc d_X12_findRead 77 rfl) rfl (lv_at hl 4 rfl) ?_
          refine lv_iadd hx hb (dc d_X12_findRead 78 rfl) ?_
          have hi := grd_b hf
          have hf := grd_x hf
          refine x_iald C hw 14 rfl hi (dc d_X12_findRead 79 rfl) ?_
          refine lv_iadd hx hb (dc d_X12_findRead 80 rfl) ?_
          refine lv_iadd hx hb (dc d_X12_findRead 81 rfl) ?_
          refine x_put C hw fl_X12_217 fw_X12_20 0 rfl rfl rfl (Nat.le_of_ble_eq_true rfl) (dc d_X12_findRead 82 rfl) (fun H locs hw => ?_)
          dsimp only [w_X12, mix, List.set_cons_succ, List.set_cons_zero] at hw
          have hw : Wd D A s.heap (w_X12 cI cC cZ tq0 tq1 tq2 tq3 tq4 tq5 tq6 tq7 tq8 tq9 tq10 tq11 tq12 tq13 tq14 tq15 tq16 tq17 tq18 tq19 tq20 tq21 tq22 tq23 tq24 t_signs t_signMany t_lineOf t_strengthOf t_waterOf t_backOf t_passes t_tried t_table t_numbers t_bends t_wished t_itemLine t_itemStrength t_itemWater t_itemBack t_items t_worstThen t_reading t_isRead (t_readSum + (((t_reading (s0 - v3).toNatClampNeg) - ((2 : Int32) * (t_reading s0.toNatClampNeg))) + (t_reading (s0 + v3).toNatClampNeg))) t_readMany t_spanLow t_spanHigh t_weldLine t_weldPull t_welds t_orderOf t_bestOrder t_smithOf t_bestSmith t_busy) H locs := hw
          refine lv_aload_n hx hb (dc d_X12_findRead 83 rfl) rfl (lv_at hl 1 rfl) ?_
          refine lv_dup hx hb (dc d_X12_findRead 84 rfl) rfl ?_
          refine x_get C hw fl_X12_220 0 rfl rfl (dc d_X12_findRead 85 rfl) ?_
          refine lv_iconst (v := (1 : Int32)) hx hb (dc d_X12_findRead 86 rfl) (by decide) ?_
          refine lv_iadd hx hb (dc d_X12_findRead 87 rfl) ?_
          refine x_put C hw fl_X12_220 fw_X12_21 0 rfl rfl rfl (Nat.le_of_ble_eq_true rfl) (dc d_X12_findRead 88 rfl) (fun H locs hw => ?_)
          dsimp only [w_X12, mix, List.set_cons_succ, List.set_cons_zero] at hw
          have hw : Wd D A s.heap (w_X12 cI cC cZ tq0 tq1 tq2 tq3 tq4 tq5 tq6 tq7 tq8 tq9 tq10 tq11 tq12 tq13 tq14 tq15 tq16 tq17 tq18 tq19 tq20 tq21 tq22 tq23 tq24 t_signs t_signMany t_lineOf t_strengthOf t_waterOf t_backOf t_passes t_tried t_table t_numbers t_bends t_wished t_itemLine t_itemStrength t_itemWater t_itemBack t_items t_worstThen t_reading t_isRead (t_readSum + (((t_reading (s0 - v3).toNatClampNeg) - ((2 : Int32) * (t_reading s0.toNatClampNeg))) + (t_reading (s0 + v3).toNatClampNeg))) (t_readMany + (1 : Int32)) t_spanLow t_spanHigh t_weldLine t_weldPull t_welds t_orderOf t_bestOrder t_smithOf t_bestSmith t_busy) H locs := hw
          refine lv_iinc (v := (v4 + (1 : Int32))) (lv' := [(4, .int (v4 + (1 : Int32))), (5, .int s0), (0, .ref tq0), (1, .int v1), (2, .int v2), (3, .int v3)]) hx hb (dc d_X12_findRead 89 rfl) hl (k := 5) rfl (ii (by decide)) (by decide) rfl (fun ls hl => ?_)
          refine lv_goto (tgt := 31) hx hb (dc d_X12_findRead 90 rfl) (by decide) ?_
          exact H31 (t_readSum + (((t_reading (s0 - v3).toNatClampNeg) - ((2 : Int32) * (t_reading s0.toNatClampNeg))) + (t_reading (s0 + v3).toNatClampNeg))) (t_readMany + (1 : Int32)) v1 v2 v3 (v4 + (1 : Int32)) _ _ _ hw (lv_sub hl [2, 3, 4, 5, 0] rfl) hf
  have L31 : ∀ (n : Nat), ∀ (t_readSum : Int32) (t_readMany : Int32) (v1 : Int32) (v2 : Int32) (v3 : Int32) (v4 : Int32) (H : Heap) (locs : List Loc) (ls : Array Slot), Wd D A s.heap (w_X12 cI cC cZ tq0 tq1 tq2 tq3 tq4 tq5 tq6 tq7 tq8 tq9 tq10 tq11 tq12 tq13 tq14 tq15 tq16 tq17 tq18 tq19 tq20 tq21 tq22 tq23 tq24 t_signs t_signMany t_lineOf t_strengthOf t_waterOf t_backOf t_passes t_tried t_table t_numbers t_bends t_wished t_itemLine t_itemStrength t_itemWater t_itemBack t_items t_worstThen t_reading t_isRead t_readSum t_readMany t_spanLow t_spanHigh t_weldLine t_weldPull t_welds t_orderOf t_bestOrder t_smithOf t_bestSmith t_busy) H locs → lv_has ls 6 [(0, .ref tq0), (1, .int v1), (2, .int v2), (3, .int v3), (4, .int v4)] → f_X12_findRead_31 t_reading t_isRead  n t_readSum t_readMany v1 v2 v3 v4 = some o → W p l e (rmOf 0 0) s m args below meth c H locs 0 0 Q (F0 m 31 ls []) := by
    intro  n
    induction n with
    | zero => intro t_readSum t_readMany v1 v2 v3 v4 H locs ls hw hl hf; exact (no_none hf).elim
    | succ n ih =>
      intro t_readSum t_readMany v1 v2 v3 v4 H locs ls hw hl hf
      have hf : f_X12_findRead_31b t_reading t_isRead  (f_X12_findRead_31 t_reading t_isRead  n) n t_readSum t_readMany v1 v2 v3 v4 = some o := hf
      generalize f_X12_findRead_31 t_reading t_isRead  n = k31 at hf ih
      refine lv_iload hx hb (dc d_X12_findRead 21 rfl) (lv_at hl 4 rfl) ?_
      refine lv_bipush (v := (6 : Int32)) hx hb (dc d_X12_findRead 22 rfl) (by decide) ?_
      refine lv_icmp_ge (tgt := 150) hx hb (dc d_X12_findRead 23 rfl) (by decide) (fun c3 => ?_) (fun c3 => ?_)
      · have hf := g_t hf c3
        cases hf
        exact x_vret C hA hQ hw rfl rfl (dc d_X12_findRead 91 rfl)
      · have hf := g_f hf c3
        refine lv_iload_n hx hb (dc d_X12_findRead 24 rfl) rfl (lv_at hl 1 rfl) ?_
        refine lv_iconst (v := (4 : Int32)) hx hb (dc d_X12_findRead 25 rfl) (by decide) ?_
        refine lv_icmp_ge (tgt := 53) hx hb (dc d_X12_findRead 26 rfl) (by decide) (fun c4 => ?_) (fun c4 => ?_)
        · have hf := g_t hf c4
          refine lv_bipush (v := (6 : Int32)) hx hb (dc d_X12_findRead 33 rfl) (by decide) ?_
          refine lv_iload_n hx hb (dc d_X12_findRead 34 rfl) rfl (lv_at hl 2 rfl) ?_
          refine lv_imul hx hb (dc d_X12_findRead 35 rfl) ?_
          refine lv_iload hx hb (dc d_X12_findRead 36 rfl) (lv_at hl 4 rfl) ?_
          refine lv_iadd hx hb (dc d_X12_findRead 37 rfl) ?_
          exact L60 k31 ih n t_readSum t_readMany v1 v2 v3 v4 (((6 : Int32) * v2) + v4) _ _ _ hw (lv_sub hl [0, 1, 2, 3, 4] rfl) hf
        · have hf := g_f hf c4
          refine lv_bipush (v := (6 : Int32)) hx hb (dc d_X12_findRead 27 rfl) (by decide) ?_
          refine lv_iload hx hb (dc d_X12_findRead 28 rfl) (lv_at hl 4 rfl) ?_
          refine lv_imul hx hb (dc d_X12_findRead 29 rfl) ?_
          refine lv_iload_n hx hb (dc d_X12_findRead 30 rfl) rfl (lv_at hl 2 rfl) ?_
          refine lv_iadd hx hb (dc d_X12_findRead 31 rfl) ?_
          refine lv_goto (tgt := 60) hx hb (dc d_X12_findRead 32 rfl) (by decide) ?_
          exact L60 k31 ih n t_readSum t_readMany v1 v2 v3 v4 (((6 : Int32) * v4) + v2) _ _ _ hw (lv_sub hl [0, 1, 2, 3, 4] rfl) hf
  refine lv_aload_n hx hb (dc d_X12_findRead 0 rfl) rfl (lv_at hl 0 rfl) ?_
  refine lv_iconst (v := (0 : Int32)) hx hb (dc d_X12_findRead 1 rfl) (by decide) ?_
  refine x_put C hw fl_X12_217 fw_X12_20 0 rfl rfl rfl (Nat.le_of_ble_eq_true rfl) (dc d_X12_findRead 2 rfl) (fun H locs hw => ?_)
  dsimp only [w_X12, mix, List.set_cons_succ, List.set_cons_zero] at hw
  have hw : Wd D A s.heap (w_X12 cI cC cZ tq0 tq1 tq2 tq3 tq4 tq5 tq6 tq7 tq8 tq9 tq10 tq11 tq12 tq13 tq14 tq15 tq16 tq17 tq18 tq19 tq20 tq21 tq22 tq23 tq24 t_signs t_signMany t_lineOf t_strengthOf t_waterOf t_backOf t_passes t_tried t_table t_numbers t_bends t_wished t_itemLine t_itemStrength t_itemWater t_itemBack t_items t_worstThen t_reading t_isRead (0 : Int32) t_readMany t_spanLow t_spanHigh t_weldLine t_weldPull t_welds t_orderOf t_bestOrder t_smithOf t_bestSmith t_busy) H locs := hw
  refine lv_aload_n hx hb (dc d_X12_findRead 3 rfl) rfl (lv_at hl 0 rfl) ?_
  refine lv_iconst (v := (0 : Int32)) hx hb (dc d_X12_findRead 4 rfl) (by decide) ?_
  refine x_put C hw fl_X12_220 fw_X12_21 0 rfl rfl rfl (Nat.le_of_ble_eq_true rfl) (dc d_X12_findRead 5 rfl) (fun H locs hw => ?_)
  dsimp only [w_X12, mix, List.set_cons_succ, List.set_cons_zero] at hw
  have hw : Wd D A s.heap (w_X12 cI cC cZ tq0 tq1 tq2 tq3 tq4 tq5 tq6 tq7 tq8 tq9 tq10 tq11 tq12 tq13 tq14 tq15 tq16 tq17 tq18 tq19 tq20 tq21 tq22 tq23 tq24 t_signs t_signMany t_lineOf t_strengthOf t_waterOf t_backOf t_passes t_tried t_table t_numbers t_bends t_wished t_itemLine t_itemStrength t_itemWater t_itemBack t_items t_worstThen t_reading t_isRead (0 : Int32) (0 : Int32) t_spanLow t_spanHigh t_weldLine t_weldPull t_welds t_orderOf t_bestOrder t_smithOf t_bestSmith t_busy) H locs := hw
  refine lv_iload_n hx hb (dc d_X12_findRead 6 rfl) rfl (lv_at hl 1 rfl) ?_
  refine lv_iconst (v := (4 : Int32)) hx hb (dc d_X12_findRead 7 rfl) (by decide) ?_
  refine x_rem hx hb (dc d_X12_findRead 8 rfl) (by decide) ?_
  refine lv_iconst (v := (1 : Int32)) hx hb (dc d_X12_findRead 9 rfl) (by decide) ?_
  refine lv_iadd hx hb (dc d_X12_findRead 10 rfl) ?_
  refine lv_topi (fun y1 ey1 => ?_)
  have hf := g_nm hf ey1
  refine lv_istore_n (lv' := [(2, .int y1), (0, .ref tq0), (1, .int x1)]) hx hb (dc d_X12_findRead 11 rfl) rfl hl (by decide) rfl (fun ls hl => ?_)
  refine lv_iload_n hx hb (dc d_X12_findRead 12 rfl) rfl (lv_at hl 2 rfl) ?_
  refine lv_iconst (v := (4 : Int32)) hx hb (dc d_X12_findRead 13 rfl) (by decide) ?_
  refine lv_icmp_ge (tgt := 25) hx hb (dc d_X12_findRead 14 rfl) (by decide) (fun c2 => ?_) (fun c2 => ?_)
  · have hf := g_t hf c2
    refine lv_bipush (v := (6 : Int32)) hx hb (dc d_X12_findRead 17 rfl) (by decide) ?_
    refine lv_istore_n (lv' := [(3, .int (6 : Int32)), (2, .int y1), (0, .ref tq0), (1, .int x1)]) hx hb (dc d_X12_findRead 18 rfl) rfl hl (by decide) rfl (fun ls hl => ?_)
    refine lv_iconst (v := (0 : Int32)) hx hb (dc d_X12_findRead 19 rfl) (by decide) ?_
    refine lv_istore (lv' := [(4, .int (0 : Int32)), (3, .int (6 : Int32)), (2, .int y1), (0, .ref tq0), (1, .int x1)]) hx hb (dc d_X12_findRead 20 rfl) hl (by decide) rfl (fun ls hl => ?_)
    exact L31  n (0 : Int32) (0 : Int32) x1 y1 (6 : Int32) (0 : Int32) _ _ _ hw (lv_sub hl [3, 4, 2, 1, 0] rfl) hf
  · have hf := g_f hf c2
    refine lv_iconst (v := (1 : Int32)) hx hb (dc d_X12_findRead 15 rfl) (by decide) ?_
    refine lv_goto (tgt := 27) hx hb (dc d_X12_findRead 16 rfl) (by decide) ?_
    refine lv_istore_n (lv' := [(3, .int (1 : Int32)), (2, .int y1), (0, .ref tq0), (1, .int x1)]) hx hb (dc d_X12_findRead 18 rfl) rfl hl (by decide) rfl (fun ls hl => ?_)
    refine lv_iconst (v := (0 : Int32)) hx hb (dc d_X12_findRead 19 rfl) (by decide) ?_
    refine lv_istore (lv' := [(4, .int (0 : Int32)), (3, .int (1 : Int32)), (2, .int y1), (0, .ref tq0), (1, .int x1)]) hx hb (dc d_X12_findRead 20 rfl) hl (by decide) rfl (fun ls hl => ?_)
    exact L31  n (0 : Int32) (0 : Int32) x1 y1 (1 : Int32) (0 : Int32) _ _ _ hw (lv_sub hl [3, 4, 2, 1, 0] rfl) hf
set_option maxHeartbeats 4000000 in
set_option maxRecDepth 100000 in
theorem k_X12_lowest (n : Nat) {l : Launch} {D : va_G} {cI cC cZ : ClassId}   {x0 : Int64} {x2 : Int64} {x4 : Int32} {o : Int64} (hf : f_X12_lowest n x0 x2 x4 = some o) : Ctr l yX12_lowest cX12_lowest 11 (some .long) 0 0 D cI cC cZ [.long x0, .long x2, .int x4] [] [] (some (.long o)) := by
  refine Ctr.of (by decide) (Nat.le_of_ble_eq_true rfl) ?_
  intro p e s m args below meth c ls A Q hA hQ C hl hw
  have hx := C.1
  have hb := C.2.1
  have hl : lv_has ls 11 [(0, .long x0), (2, .long x2), (4, .int x4)] := hl
  have L67 : ∀ (n : Nat), ∀ (v0 : Int64) (v2 : Int64) (v4 : Int32) (s0 : Int64) (H : Heap) (locs : List Loc) (ls : Array Slot), Wd D A s.heap [] H locs → lv_has ls 11 [(0, .long v0), (2, .long v2), (4, .int v4)] → f_X12_lowest_67  n v0 v2 v4 s0 = some o → W p l e (rmOf 0 0) s m args below meth c H locs 0 0 Q (F0 m 67 ls [.long s0]) := by
    intro  n v0 v2 v4 s0 H locs ls hw hl hf
    refine lv_lstore (lv' := [(9, .long s0), (0, .long v0), (2, .long v2), (4, .int v4)]) hx hb (dc d_X12_lowest 39 rfl) hl (by decide) rfl (fun ls hl => ?_)
    refine lv_iload hx hb (dc d_X12_lowest 40 rfl) (lv_at hl 3 rfl) ?_
    refine lv_if_ne (tgt := 81) hx hb (dc d_X12_lowest 41 rfl) (by decide) (fun c7 => ?_) (fun c7 => ?_)
    · have hf := g_f hf c7
      refine lv_lload_n hx hb (dc d_X12_lowest 46 rfl) rfl (lv_at hl 2 rfl) ?_
      refine lv_lload hx hb (dc d_X12_lowest 47 rfl) (lv_at hl 0 rfl) ?_
      refine x_divl hx hb (dc d_X12_lowest 48 rfl) (grd_b hf) ?_
      have hf := grd_x hf
      cases hf
      exact x_lret C hA hQ hw rfl rfl (dc d_X12_lowest 49 rfl)
    · have hf := g_t hf c7
      refine lv_lload_n hx hb (dc d_X12_lowest 42 rfl) rfl (lv_at hl 1 rfl) ?_
      refine lv_lload hx hb (dc d_X12_lowest 43 rfl) (lv_at hl 0 rfl) ?_
      refine x_divl hx hb (dc d_X12_lowest 44 rfl) (grd_b hf) ?_
      have hf := grd_x hf
      refine lv_goto (tgt := 85) hx hb (dc d_X12_lowest 45 rfl) (by decide) ?_
      cases hf
      exact x_lret C hA hQ hw rfl rfl (dc d_X12_lowest 49 rfl)
  have L28 : ∀ (n : Nat), ∀ (v0 : Int64) (v2 : Int64) (v4 : Int32) (v5 : Int64) (v7 : Int64) (H : Heap) (locs : List Loc) (ls : Array Slot), Wd D A s.heap [] H locs → lv_has ls 11 [(0, .long v0), (2, .long v2), (4, .int v4), (5, .long v5), (7, .long v7)] → f_X12_lowest_28  n v0 v2 v4 v5 v7 = some o → W p l e (rmOf 0 0) s m args below meth c H locs 0 0 Q (F0 m 28 ls []) := by
    intro  n
    induction n with
    | zero => intro v0 v2 v4 v5 v7 H locs ls hw hl hf; exact (no_none hf).elim
    | succ n ih =>
      intro v0 v2 v4 v5 v7 H locs ls hw hl hf
      have hf : f_X12_lowest_28b  (f_X12_lowest_28  n) n v0 v2 v4 v5 v7 = some o := hf
      generalize f_X12_lowest_28  n = k28 at hf ih
      refine lv_lload hx hb (dc d_X12_lowest 18 rfl) (lv_at hl 4 rfl) ?_
      refine lv_lconst (v := (0 : Int64)) hx hb (dc d_X12_lowest 19 rfl) (by decide) ?_
      refine W.lcmp hx hb (dc d_X12_lowest 20 rfl) ?_
      refine lv_if_eq (tgt := 53) hx hb (dc d_X12_lowest 21 rfl) (by decide) (fun c4 => ?_) (fun c4 => ?_)
      · have hf := g_t hf c4
        refine lv_lload_n hx hb (dc d_X12_lowest 31 rfl) rfl (lv_at hl 1 rfl) ?_
        refine lv_lconst (v := (0 : Int64)) hx hb (dc d_X12_lowest 32 rfl) (by decide) ?_
        refine W.lcmp hx hb (dc d_X12_lowest 33 rfl) ?_
        refine lv_if_ge (tgt := 65) hx hb (dc d_X12_lowest 34 rfl) (by decide) (fun c5 => ?_) (fun c5 => ?_)
        · have hf := g_t hf c5
          refine lv_lload hx hb (dc d_X12_lowest 38 rfl) (lv_at hl 3 rfl) ?_
          exact L67  n v0 v2 v4 v5 _ _ _ hw (lv_sub hl [0, 1, 2] rfl) hf
        · have hf := g_f hf c5
          refine lv_lload hx hb (dc d_X12_lowest 35 rfl) (lv_at hl 3 rfl) ?_
          refine lv_lneg hx hb (dc d_X12_lowest 36 rfl) ?_
          refine lv_goto (tgt := 67) hx hb (dc d_X12_lowest 37 rfl) (by decide) ?_
          exact L67  n v0 v2 v4 (-v5) _ _ _ hw (lv_sub hl [0, 1, 2] rfl) hf
      · have hf := g_f hf c4
        refine lv_lload hx hb (dc d_X12_lowest 22 rfl) (lv_at hl 3 rfl) ?_
        refine lv_lload hx hb (dc d_X12_lowest 23 rfl) (lv_at hl 4 rfl) ?_
        refine x_reml hx hb (dc d_X12_lowest 24 rfl) (grd_b hf) ?_
        have hf := grd_x hf
        refine lv_topl (fun y6 ey6 => ?_)
        have hf := g_nm hf ey6
        refine lv_lstore (lv' := [(9, .long y6), (0, .long v0), (2, .long v2), (4, .int v4), (5, .long v5), (7, .long v7)]) hx hb (dc d_X12_lowest 25 rfl) hl (by decide) rfl (fun ls hl => ?_)
        refine lv_lload hx hb (dc d_X12_lowest 26 rfl) (lv_at hl 5 rfl) ?_
        refine lv_lstore (lv' := [(5, .long v7), (9, .long y6), (0, .long v0), (2, .long v2), (4, .int v4), (7, .long v7)]) hx hb (dc d_X12_lowest 27 rfl) hl (by decide) rfl (fun ls hl => ?_)
        refine lv_lload hx hb (dc d_X12_lowest 28 rfl) (lv_at hl 1 rfl) ?_
        refine lv_lstore (lv' := [(7, .long y6), (5, .long v7), (9, .long y6), (0, .long v0), (2, .long v2), (4, .int v4)]) hx hb (dc d_X12_lowest 29 rfl) hl (by decide) rfl (fun ls hl => ?_)
        refine lv_goto (tgt := 28) hx hb (dc d_X12_lowest 30 rfl) (by decide) ?_
        exact ih v0 v2 v4 v7 y6 _ _ _ hw (lv_sub hl [3, 4, 5, 1, 0] rfl) hf
  have L12 : ∀ (n : Nat), ∀ (v0 : Int64) (v2 : Int64) (v4 : Int32) (s0 : Int64) (H : Heap) (locs : List Loc) (ls : Array Slot), Wd D A s.heap [] H locs → lv_has ls 11 [(0, .long v0), (2, .long v2), (4, .int v4)] → f_X12_lowest_12  n v0 v2 v4 s0 = some o → W p l e (rmOf 0 0) s m args below meth c H locs 0 0 Q (F0 m 12 ls [.long s0]) := by
    intro  n v0 v2 v4 s0 H locs ls hw hl hf
    refine lv_lstore (lv' := [(5, .long s0), (0, .long v0), (2, .long v2), (4, .int v4)]) hx hb (dc d_X12_lowest 8 rfl) hl (by decide) rfl (fun ls hl => ?_)
    refine lv_lload_n hx hb (dc d_X12_lowest 9 rfl) rfl (lv_at hl 2 rfl) ?_
    refine lv_lconst (v := (0 : Int64)) hx hb (dc d_X12_lowest 10 rfl) (by decide) ?_
    refine W.lcmp hx hb (dc d_X12_lowest 11 rfl) ?_
    refine lv_if_ge (tgt := 25) hx hb (dc d_X12_lowest 12 rfl) (by decide) (fun c2 => ?_) (fun c2 => ?_)
    · have hf := g_t hf c2
      refine lv_lload_n hx hb (dc d_X12_lowest 16 rfl) rfl (lv_at hl 2 rfl) ?_
      refine lv_lstore (lv' := [(7, .long v2), (5, .long s0), (0, .long v0), (2, .long v2), (4, .int v4)]) hx hb (dc d_X12_lowest 17 rfl) hl (by decide) rfl (fun ls hl => ?_)
      exact L28  n v0 v2 v4 s0 v2 _ _ _ hw (lv_sub hl [2, 3, 4, 1, 0] rfl) hf
    · have hf := g_f hf c2
      refine lv_lload_n hx hb (dc d_X12_lowest 13 rfl) rfl (lv_at hl 2 rfl) ?_
      refine lv_lneg hx hb (dc d_X12_lowest 14 rfl) ?_
      refine lv_goto (tgt := 26) hx hb (dc d_X12_lowest 15 rfl) (by decide) ?_
      refine lv_topl (fun y3 ey3 => ?_)
      have hf := g_nm hf ey3
      refine lv_lstore (lv' := [(7, .long y3), (5, .long s0), (0, .long v0), (2, .long v2), (4, .int v4)]) hx hb (dc d_X12_lowest 17 rfl) hl (by decide) rfl (fun ls hl => ?_)
      exact L28  n v0 v2 v4 s0 y3 _ _ _ hw (lv_sub hl [2, 3, 4, 1, 0] rfl) hf
  refine lv_lload_n hx hb (dc d_X12_lowest 0 rfl) rfl (lv_at hl 0 rfl) ?_
  refine lv_lconst (v := (0 : Int64)) hx hb (dc d_X12_lowest 1 rfl) (by decide) ?_
  refine W.lcmp hx hb (dc d_X12_lowest 2 rfl) ?_
  refine lv_if_ge (tgt := 11) hx hb (dc d_X12_lowest 3 rfl) (by decide) (fun c1 => ?_) (fun c1 => ?_)
  · have hf := g_t hf c1
    refine lv_lload_n hx hb (dc d_X12_lowest 7 rfl) rfl (lv_at hl 0 rfl) ?_
    exact L12  n x0 x2 x4 x0 _ _ _ hw (lv_sub hl [0, 1, 2] rfl) hf
  · have hf := g_f hf c1
    refine lv_lload_n hx hb (dc d_X12_lowest 4 rfl) rfl (lv_at hl 0 rfl) ?_
    refine lv_lneg hx hb (dc d_X12_lowest 5 rfl) ?_
    refine lv_goto (tgt := 12) hx hb (dc d_X12_lowest 6 rfl) (by decide) ?_
    exact L12  n x0 x2 x4 (-x0) _ _ _ hw (lv_sub hl [0, 1, 2] rfl) hf
set_option maxHeartbeats 4000000 in
set_option maxRecDepth 100000 in
theorem k_X12_bendRead (n : Nat) {l : Launch} {D : va_G} {cI cC cZ : ClassId} {tq0 tq1 tq2 tq3 tq4 tq5 tq6 tq7 tq8 tq9 tq10 tq11 tq12 tq13 tq14 tq15 tq16 tq17 tq18 tq19 tq20 tq21 tq22 tq23 tq24 : Nat} {t_signs : Nat → Int32} {t_signMany : Int32} {t_lineOf : Nat → Int32} {t_strengthOf : Nat → Int32} {t_waterOf : Nat → Int32} {t_backOf : Nat → Int32} {t_passes : Int32} {t_tried : Int32} {t_table : Nat → Int32} {t_numbers : Nat → Int32} {t_bends : Nat → Int32} {t_wished : Nat → Int32} {t_itemLine : Nat → Int32} {t_itemStrength : Nat → Int32} {t_itemWater : Nat → Int32} {t_itemBack : Nat → Int32} {t_items : Int32} {t_worstThen : Int32} {t_reading : Nat → Int32} {t_isRead : Nat → Int32} {t_readSum : Int32} {t_readMany : Int32} {t_spanLow : Nat → Int32} {t_spanHigh : Nat → Int32} {t_weldLine : Nat → Int32} {t_weldPull : Nat → Int32} {t_welds : Int32} {t_orderOf : Nat → Int32} {t_bestOrder : Nat → Int32} {t_smithOf : Nat → Int32} {t_bestSmith : Nat → Int32} {t_busy : Nat → Int32} {x1 : Int32} {x2 : Int32} {o : Int32 × Int32 × Int32} (hf : f_X12_bendRead n t_reading t_isRead t_readSum t_readMany x1 x2 = some o) : Ctr l yX12_bendRead cX12_bendRead 3 (some .int) 2 45 D cI cC cZ [.ref tq0, .int x1, .int x2] (w_X12 cI cC cZ tq0 tq1 tq2 tq3 tq4 tq5 tq6 tq7 tq8 tq9 tq10 tq11 tq12 tq13 tq14 tq15 tq16 tq17 tq18 tq19 tq20 tq21 tq22 tq23 tq24 t_signs t_signMany t_lineOf t_strengthOf t_waterOf t_backOf t_passes t_tried t_table t_numbers t_bends t_wished t_itemLine t_itemStrength t_itemWater t_itemBack t_items t_worstThen t_reading t_isRead t_readSum t_readMany t_spanLow t_spanHigh t_weldLine t_weldPull t_welds t_orderOf t_bestOrder t_smithOf t_bestSmith t_busy) (w_X12 cI cC cZ tq0 tq1 tq2 tq3 tq4 tq5 tq6 tq7 tq8 tq9 tq10 tq11 tq12 tq13 tq14 tq15 tq16 tq17 tq18 tq19 tq20 tq21 tq22 tq23 tq24 t_signs t_signMany t_lineOf t_strengthOf t_waterOf t_backOf t_passes t_tried t_table t_numbers t_bends t_wished t_itemLine t_itemStrength t_itemWater t_itemBack t_items t_worstThen t_reading t_isRead o.2.1 o.2.2 t_spanLow t_spanHigh t_weldLine t_weldPull t_welds t_orderOf t_bestOrder t_smithOf t_bestSmith t_busy) (some (.int o.1)) := by
  refine Ctr.of (by decide) (Nat.le_of_ble_eq_true rfl) ?_
  intro p e s m args below meth c ls A Q hA hQ C hl hw
  have hx := C.1
  have hb := C.2.1
  have hl : lv_has ls 3 [(0, .ref tq0), (1, .int x1), (2, .int x2)] := hl
  refine lv_iload_n hx hb (dc d_X12_bendRead 0 rfl) rfl (lv_at hl 1 rfl) ?_
  obtain ⟨q1, hq1, hf⟩ := g_bd hf
  refine x_callS C hw mb_X12_isLine ms_X12_isLine ml_X12_143 (k_X12_isLine n hq1) hl.1 rfl rfl [] rfl rfl rfl (Nat.le_of_ble_eq_true rfl) (Nat.le_of_ble_eq_true rfl) (Nat.le_of_ble_eq_true rfl) (dc d_X12_bendRead 1 rfl) (fun H locs hw => ?_)
  refine W.eq (g2 := F0 m 4 ls [.int q1]) rfl ?_
  have hw : Wd D A s.heap (w_X12 cI cC cZ tq0 tq1 tq2 tq3 tq4 tq5 tq6 tq7 tq8 tq9 tq10 tq11 tq12 tq13 tq14 tq15 tq16 tq17 tq18 tq19 tq20 tq21 tq22 tq23 tq24 t_signs t_signMany t_lineOf t_strengthOf t_waterOf t_backOf t_passes t_tried t_table t_numbers t_bends t_wished t_itemLine t_itemStrength t_itemWater t_itemBack t_items t_worstThen t_reading t_isRead t_readSum t_readMany t_spanLow t_spanHigh t_weldLine t_weldPull t_welds t_orderOf t_bestOrder t_smithOf t_bestSmith t_busy) H locs := hw
  refine lv_if_ne (tgt := 10) hx hb (dc d_X12_bendRead 2 rfl) (by decide) (fun c2 => ?_) (fun c2 => ?_)
  · have hf := g_f hf c2
    refine lv_iload_n hx hb (dc d_X12_bendRead 5 rfl) rfl (lv_at hl 2 rfl) ?_
    refine lv_i2l (v := x2.toInt64) hx hb (dc d_X12_bendRead 6 rfl) rfl ?_
    refine lv_lconst (v := (0 : Int64)) hx hb (dc d_X12_bendRead 7 rfl) (by decide) ?_
    refine lv_lconst (v := (1 : Int64)) hx hb (dc d_X12_bendRead 8 rfl) (by decide) ?_
    obtain ⟨q3, hq3, hf⟩ := g_bd hf
    refine x_callS C hw mb_X12_in ms_X12_in ml_X12_85 (k_X12_in n hq3) hl.1 rfl rfl [] rfl rfl rfl (Nat.le_of_ble_eq_true rfl) (Nat.le_of_ble_eq_true rfl) (Nat.le_of_ble_eq_true rfl) (dc d_X12_bendRead 9 rfl) (fun H locs hw => ?_)
    refine W.eq (g2 := F0 m 17 ls [.int q3]) rfl ?_
    have hw : Wd D A s.heap (w_X12 cI cC cZ tq0 tq1 tq2 tq3 tq4 tq5 tq6 tq7 tq8 tq9 tq10 tq11 tq12 tq13 tq14 tq15 tq16 tq17 tq18 tq19 tq20 tq21 tq22 tq23 tq24 t_signs t_signMany t_lineOf t_strengthOf t_waterOf t_backOf t_passes t_tried t_table t_numbers t_bends t_wished t_itemLine t_itemStrength t_itemWater t_itemBack t_items t_worstThen t_reading t_isRead t_readSum t_readMany t_spanLow t_spanHigh t_weldLine t_weldPull t_welds t_orderOf t_bestOrder t_smithOf t_bestSmith t_busy) H locs := hw
    refine lv_if_ne (tgt := 23) hx hb (dc d_X12_bendRead 10 rfl) (by decide) (fun c4 => ?_) (fun c4 => ?_)
    · have hf := g_f hf c4
      refine lv_aload_n hx hb (dc d_X12_bendRead 13 rfl) rfl (lv_at hl 0 rfl) ?_
      refine lv_iload_n hx hb (dc d_X12_bendRead 14 rfl) rfl (lv_at hl 1 rfl) ?_
      obtain ⟨q5, hq5, hf⟩ := g_bd hf
      refine x_callVa C hw mb_X12_findRead mv_X12_findRead ml_X12_223 (k_X12_findRead n hq5) hl.1 rfl rfl rfl 0 12 rfl rfl (Nat.le_of_ble_eq_true rfl) (Nat.le_of_ble_eq_true rfl) (Nat.le_of_ble_eq_true rfl) (dc d_X12_bendRead 15 rfl) (fun H locs hw => ?_)
      refine W.eq (g2 := F0 m 28 ls []) rfl ?_
      have hw : Wd D A s.heap (w_X12 cI cC cZ tq0 tq1 tq2 tq3 tq4 tq5 tq6 tq7 tq8 tq9 tq10 tq11 tq12 tq13 tq14 tq15 tq16 tq17 tq18 tq19 tq20 tq21 tq22 tq23 tq24 t_signs t_signMany t_lineOf t_strengthOf t_waterOf t_backOf t_passes t_tried t_table t_numbers t_bends t_wished t_itemLine t_itemStrength t_itemWater t_itemBack t_items t_worstThen t_reading t_isRead q5.1 q5.2 t_spanLow t_spanHigh t_weldLine t_weldPull t_welds t_orderOf t_bestOrder t_smithOf t_bestSmith t_busy) H locs := hw
      refine lv_aload_n hx hb (dc d_X12_bendRead 16 rfl) rfl (lv_at hl 0 rfl) ?_
      refine x_get C hw fl_X12_220 0 rfl rfl (dc d_X12_bendRead 17 rfl) ?_
      refine lv_if_ne (tgt := 40) hx hb (dc d_X12_bendRead 18 rfl) (by decide) (fun c6 => ?_) (fun c6 => ?_)
      · have hf := g_f hf c6
        refine lv_aload_n hx hb (dc d_X12_bendRead 21 rfl) rfl (lv_at hl 0 rfl) ?_
        refine x_get C hw fl_X12_217 0 rfl rfl (dc d_X12_bendRead 22 rfl) ?_
        refine lv_i2l (v := q5.1.toInt64) hx hb (dc d_X12_bendRead 23 rfl) rfl ?_
        refine lv_aload_n hx hb (dc d_X12_bendRead 24 rfl) rfl (lv_at hl 0 rfl) ?_
        refine x_get C hw fl_X12_220 0 rfl rfl (dc d_X12_bendRead 25 rfl) ?_
        refine lv_i2l (v := q5.2.toInt64) hx hb (dc d_X12_bendRead 26 rfl) rfl ?_
        refine lv_iload_n hx hb (dc d_X12_bendRead 27 rfl) rfl (lv_at hl 2 rfl) ?_
        obtain ⟨q7, hq7, hf⟩ := g_bd hf
        refine x_callS C hw mb_X12_lowest ms_X12_lowest ml_X12_226 (k_X12_lowest n hq7) hl.1 rfl rfl [] rfl rfl rfl (Nat.le_of_ble_eq_true rfl) (Nat.le_of_ble_eq_true rfl) (Nat.le_of_ble_eq_true rfl) (dc d_X12_bendRead 28 rfl) (fun H locs hw => ?_)
        refine W.eq (g2 := F0 m 54 ls [.long q7]) rfl ?_
        have hw : Wd D A s.heap (w_X12 cI cC cZ tq0 tq1 tq2 tq3 tq4 tq5 tq6 tq7 tq8 tq9 tq10 tq11 tq12 tq13 tq14 tq15 tq16 tq17 tq18 tq19 tq20 tq21 tq22 tq23 tq24 t_signs t_signMany t_lineOf t_strengthOf t_waterOf t_backOf t_passes t_tried t_table t_numbers t_bends t_wished t_itemLine t_itemStrength t_itemWater t_itemBack t_items t_worstThen t_reading t_isRead q5.1 q5.2 t_spanLow t_spanHigh t_weldLine t_weldPull t_welds t_orderOf t_bestOrder t_smithOf t_bestSmith t_busy) H locs := hw
        refine lv_l2i (v := q7.toInt32) hx hb (dc d_X12_bendRead 29 rfl) rfl ?_
        cases hf
        exact x_iret C hA hQ hw rfl rfl (dc d_X12_bendRead 30 rfl)
      · have hf := g_t hf c6
        refine x_ldc (v := (-2000000003 : Int32)) C cn_X12_216 (dc d_X12_bendRead 19 rfl) ?_
        refine lv_goto (tgt := 55) hx hb (dc d_X12_bendRead 20 rfl) (by decide) ?_
        cases hf
        exact x_iret C hA hQ hw rfl rfl (dc d_X12_bendRead 30 rfl)
    · have hf := g_t hf c4
      refine x_ldc (v := (-2000000002 : Int32)) C cn_X12_162 (dc d_X12_bendRead 11 rfl) ?_
      cases hf
      exact x_iret C hA hQ hw rfl rfl (dc d_X12_bendRead 12 rfl)
  · have hf := g_t hf c2
    refine x_ldc (v := (-2000000001 : Int32)) C cn_X12_147 (dc d_X12_bendRead 3 rfl) ?_
    cases hf
    exact x_iret C hA hQ hw rfl rfl (dc d_X12_bendRead 4 rfl)
set_option maxHeartbeats 4000000 in
set_option maxRecDepth 100000 in
theorem k_X12_hasPass (n : Nat) {l : Launch} {D : va_G} {cI cC cZ : ClassId} {tq0 tq1 tq2 tq3 tq4 tq5 tq6 tq7 tq8 tq9 tq10 tq11 tq12 tq13 tq14 tq15 tq16 tq17 tq18 tq19 tq20 tq21 tq22 tq23 tq24 : Nat} {t_signs : Nat → Int32} {t_signMany : Int32} {t_lineOf : Nat → Int32} {t_strengthOf : Nat → Int32} {t_waterOf : Nat → Int32} {t_backOf : Nat → Int32} {t_passes : Int32} {t_tried : Int32} {t_table : Nat → Int32} {t_numbers : Nat → Int32} {t_bends : Nat → Int32} {t_wished : Nat → Int32} {t_itemLine : Nat → Int32} {t_itemStrength : Nat → Int32} {t_itemWater : Nat → Int32} {t_itemBack : Nat → Int32} {t_items : Int32} {t_worstThen : Int32} {t_reading : Nat → Int32} {t_isRead : Nat → Int32} {t_readSum : Int32} {t_readMany : Int32} {t_spanLow : Nat → Int32} {t_spanHigh : Nat → Int32} {t_weldLine : Nat → Int32} {t_weldPull : Nat → Int32} {t_welds : Int32} {t_orderOf : Nat → Int32} {t_bestOrder : Nat → Int32} {t_smithOf : Nat → Int32} {t_bestSmith : Nat → Int32} {t_busy : Nat → Int32} {x1 : Int32} {o : Int32} (hf : f_X12_hasPass n t_lineOf t_passes x1 = some o) : Ctr l yX12_hasPass cX12_hasPass 4 (some .boolean) 0 0 D cI cC cZ [.ref tq0, .int x1] (w_X12 cI cC cZ tq0 tq1 tq2 tq3 tq4 tq5 tq6 tq7 tq8 tq9 tq10 tq11 tq12 tq13 tq14 tq15 tq16 tq17 tq18 tq19 tq20 tq21 tq22 tq23 tq24 t_signs t_signMany t_lineOf t_strengthOf t_waterOf t_backOf t_passes t_tried t_table t_numbers t_bends t_wished t_itemLine t_itemStrength t_itemWater t_itemBack t_items t_worstThen t_reading t_isRead t_readSum t_readMany t_spanLow t_spanHigh t_weldLine t_weldPull t_welds t_orderOf t_bestOrder t_smithOf t_bestSmith t_busy) (w_X12 cI cC cZ tq0 tq1 tq2 tq3 tq4 tq5 tq6 tq7 tq8 tq9 tq10 tq11 tq12 tq13 tq14 tq15 tq16 tq17 tq18 tq19 tq20 tq21 tq22 tq23 tq24 t_signs t_signMany t_lineOf t_strengthOf t_waterOf t_backOf t_passes t_tried t_table t_numbers t_bends t_wished t_itemLine t_itemStrength t_itemWater t_itemBack t_items t_worstThen t_reading t_isRead t_readSum t_readMany t_spanLow t_spanHigh t_weldLine t_weldPull t_welds t_orderOf t_bestOrder t_smithOf t_bestSmith t_busy) (some (.int o)) := by
  refine Ctr.of (by decide) (Nat.le_of_ble_eq_true rfl) ?_
  intro p e s m args below meth c ls A Q hA hQ C hl hw
  have hx := C.1
  have hb := C.2.1
  have hl : lv_has ls 4 [(0, .ref tq0), (1, .int x1)] := hl
  have L4 : ∀ (n : Nat), ∀ (v1 : Int32) (v2 : Int32) (v3 : Int32) (H : Heap) (locs : List Loc) (ls : Array Slot), Wd D A s.heap (w_X12 cI cC cZ tq0 tq1 tq2 tq3 tq4 tq5 tq6 tq7 tq8 tq9 tq10 tq11 tq12 tq13 tq14 tq15 tq16 tq17 tq18 tq19 tq20 tq21 tq22 tq23 tq24 t_signs t_signMany t_lineOf t_strengthOf t_waterOf t_backOf t_passes t_tried t_table t_numbers t_bends t_wished t_itemLine t_itemStrength t_itemWater t_itemBack t_items t_worstThen t_reading t_isRead t_readSum t_readMany t_spanLow t_spanHigh t_weldLine t_weldPull t_welds t_orderOf t_bestOrder t_smithOf t_bestSmith t_busy) H locs → lv_has ls 4 [(0, .ref tq0), (1, .int v1), (2, .int v2), (3, .int v3)] → f_X12_hasPass_4 t_lineOf t_passes  n v1 v2 v3 = some o → W p l e (rmOf 0 0) s m args below meth c H locs 0 0 Q (F0 m 4 ls []) := by
    intro  n
    induction n with
    | zero => intro v1 v2 v3 H locs ls hw hl hf; exact (no_none hf).elim
    | succ n ih =>
      intro v1 v2 v3 H locs ls hw hl hf
      have hf : f_X12_hasPass_4b t_lineOf t_passes  (f_X12_hasPass_4 t_lineOf t_passes  n) n v1 v2 v3 = some o := hf
      generalize f_X12_hasPass_4 t_lineOf t_passes  n = k4 at hf ih
      refine lv_iload_n hx hb (dc d_X12_hasPass 4 rfl) rfl (lv_at hl 3 rfl) ?_
      refine lv_aload_n hx hb (dc d_X12_hasPass 5 rfl) rfl (lv_at hl 0 rfl) ?_
      refine x_get C hw fl_X12_113 0 rfl rfl (dc d_X12_hasPass 6 rfl) ?_
      refine lv_icmp_ge (tgt := 38) hx hb (dc d_X12_hasPass 7 rfl) (by decide) (fun c1 => ?_) (fun c1 => ?_)
      · have hf := g_t hf c1
        refine lv_iload_n hx hb (dc d_X12_hasPass 22 rfl) rfl (lv_at hl 2 rfl) ?_
        have hz := grd_b hf
        have hf := grd_x hf
        cases hf
        exact x_zret C hA hQ hw rfl rfl hz (dc d_X12_hasPass 23 rfl)
      · have hf := g_f hf c1
        refine lv_iload_n hx hb (dc d_X12_hasPass 8 rfl) rfl (lv_at hl 2 rfl) ?_
        refine lv_if_ne (tgt := 26) hx hb (dc d_X12_hasPass 9 rfl) (by decide) (fun c2 => ?_) (fun c2 => ?_)
        · have hf := g_f hf c2
          refine lv_iconst (v := (1 : Int32)) hx hb (dc d_X12_hasPass 16 rfl) (by decide) ?_
          refine lv_goto (tgt := 31) hx hb (dc d_X12_hasPass 17 rfl) (by decide) ?_
          refine lv_istore_n (lv' := [(2, .int (1 : Int32)), (0, .ref tq0), (1, .int v1), (3, .int v3)]) hx hb (dc d_X12_hasPass 19 rfl) rfl hl (by decide) rfl (fun ls hl => ?_)
          refine lv_iinc (v := (v3 + (1 : Int32))) (lv' := [(3, .int (v3 + (1 : Int32))), (2, .int (1 : Int32)), (0, .ref tq0), (1, .int v1)]) hx hb (dc d_X12_hasPass 20 rfl) hl (k := 3) rfl (ii (by decide)) (by decide) rfl (fun ls hl => ?_)
          refine lv_goto (tgt := 4) hx hb (dc d_X12_hasPass 21 rfl) (by decide) ?_
          exact ih v1 (1 : Int32) (v3 + (1 : Int32)) _ _ _ hw (lv_sub hl [2, 3, 1, 0] rfl) hf
        · have hf := g_t hf c2
          refine lv_aload_n hx hb (dc d_X12_hasPass 10 rfl) rfl (lv_at hl 0 rfl) ?_
          refine x_get C hw fl_X12_13 0 rfl rfl (dc d_X12_hasPass 11 rfl) ?_
          refine lv_iload_n hx hb (dc d_X12_hasPass 12 rfl) rfl (lv_at hl 3 rfl) ?_
          have hi := grd_b hf
          have hf := grd_x hf
          refine x_iald C hw 2 rfl hi (dc d_X12_hasPass 13 rfl) ?_
          refine lv_iload_n hx hb (dc d_X12_hasPass 14 rfl) rfl (lv_at hl 1 rfl) ?_
          refine lv_icmp_ne (tgt := 30) hx hb (dc d_X12_hasPass 15 rfl) (by decide) (fun c3 => ?_) (fun c3 => ?_)
          · have hf := g_f hf c3
            refine lv_iconst (v := (0 : Int32)) hx hb (dc d_X12_hasPass 18 rfl) (by decide) ?_
            refine lv_istore_n (lv' := [(2, .int (0 : Int32)), (0, .ref tq0), (1, .int v1), (3, .int v3)]) hx hb (dc d_X12_hasPass 19 rfl) rfl hl (by decide) rfl (fun ls hl => ?_)
            refine lv_iinc (v := (v3 + (1 : Int32))) (lv' := [(3, .int (v3 + (1 : Int32))), (2, .int (0 : Int32)), (0, .ref tq0), (1, .int v1)]) hx hb (dc d_X12_hasPass 20 rfl) hl (k := 3) rfl (ii (by decide)) (by decide) rfl (fun ls hl => ?_)
            refine lv_goto (tgt := 4) hx hb (dc d_X12_hasPass 21 rfl) (by decide) ?_
            exact ih v1 (0 : Int32) (v3 + (1 : Int32)) _ _ _ hw (lv_sub hl [2, 3, 1, 0] rfl) hf
          · have hf := g_t hf c3
            refine lv_iconst (v := (1 : Int32)) hx hb (dc d_X12_hasPass 16 rfl) (by decide) ?_
            refine lv_goto (tgt := 31) hx hb (dc d_X12_hasPass 17 rfl) (by decide) ?_
            refine lv_istore_n (lv' := [(2, .int (1 : Int32)), (0, .ref tq0), (1, .int v1), (3, .int v3)]) hx hb (dc d_X12_hasPass 19 rfl) rfl hl (by decide) rfl (fun ls hl => ?_)
            refine lv_iinc (v := (v3 + (1 : Int32))) (lv' := [(3, .int (v3 + (1 : Int32))), (2, .int (1 : Int32)), (0, .ref tq0), (1, .int v1)]) hx hb (dc d_X12_hasPass 20 rfl) hl (k := 3) rfl (ii (by decide)) (by decide) rfl (fun ls hl => ?_)
            refine lv_goto (tgt := 4) hx hb (dc d_X12_hasPass 21 rfl) (by decide) ?_
            exact ih v1 (1 : Int32) (v3 + (1 : Int32)) _ _ _ hw (lv_sub hl [2, 3, 1, 0] rfl) hf
  refine lv_iconst (v := (0 : Int32)) hx hb (dc d_X12_hasPass 0 rfl) (by decide) ?_
  refine lv_istore_n (lv' := [(2, .int (0 : Int32)), (0, .ref tq0), (1, .int x1)]) hx hb (dc d_X12_hasPass 1 rfl) rfl hl (by decide) rfl (fun ls hl => ?_)
  refine lv_iconst (v := (0 : Int32)) hx hb (dc d_X12_hasPass 2 rfl) (by decide) ?_
  refine lv_istore_n (lv' := [(3, .int (0 : Int32)), (2, .int (0 : Int32)), (0, .ref tq0), (1, .int x1)]) hx hb (dc d_X12_hasPass 3 rfl) rfl hl (by decide) rfl (fun ls hl => ?_)
  exact L4  n x1 (0 : Int32) (0 : Int32) _ _ _ hw (lv_sub hl [2, 3, 1, 0] rfl) hf
set_option maxHeartbeats 4000000 in
set_option maxRecDepth 100000 in
theorem k_X12_skill (n : Nat) {l : Launch} {D : va_G} {cI cC cZ : ClassId} {tq0 tq1 tq2 tq3 tq4 tq5 tq6 tq7 tq8 tq9 tq10 tq11 tq12 tq13 tq14 tq15 tq16 tq17 tq18 tq19 tq20 tq21 tq22 tq23 tq24 : Nat} {t_signs : Nat → Int32} {t_signMany : Int32} {t_lineOf : Nat → Int32} {t_strengthOf : Nat → Int32} {t_waterOf : Nat → Int32} {t_backOf : Nat → Int32} {t_passes : Int32} {t_tried : Int32} {t_table : Nat → Int32} {t_numbers : Nat → Int32} {t_bends : Nat → Int32} {t_wished : Nat → Int32} {t_itemLine : Nat → Int32} {t_itemStrength : Nat → Int32} {t_itemWater : Nat → Int32} {t_itemBack : Nat → Int32} {t_items : Int32} {t_worstThen : Int32} {t_reading : Nat → Int32} {t_isRead : Nat → Int32} {t_readSum : Int32} {t_readMany : Int32} {t_spanLow : Nat → Int32} {t_spanHigh : Nat → Int32} {t_weldLine : Nat → Int32} {t_weldPull : Nat → Int32} {t_welds : Int32} {t_orderOf : Nat → Int32} {t_bestOrder : Nat → Int32} {t_smithOf : Nat → Int32} {t_bestSmith : Nat → Int32} {t_busy : Nat → Int32} {x1 : Int32} {o : Int64 × (Nat → Int32) × Int32 × Int32} (hf : f_X12_skill n t_lineOf t_strengthOf t_waterOf t_backOf t_passes t_table t_numbers t_bends t_reading t_isRead t_readSum t_readMany x1 = some o) : Ctr l yX12_skill cX12_skill 7 (some .long) 4 89 D cI cC cZ [.ref tq0, .int x1] (w_X12 cI cC cZ tq0 tq1 tq2 tq3 tq4 tq5 tq6 tq7 tq8 tq9 tq10 tq11 tq12 tq13 tq14 tq15 tq16 tq17 tq18 tq19 tq20 tq21 tq22 tq23 tq24 t_signs t_signMany t_lineOf t_strengthOf t_waterOf t_backOf t_passes t_tried t_table t_numbers t_bends t_wished t_itemLine t_itemStrength t_itemWater t_itemBack t_items t_worstThen t_reading t_isRead t_readSum t_readMany t_spanLow t_spanHigh t_weldLine t_weldPull t_welds t_orderOf t_bestOrder t_smithOf t_bestSmith t_busy) (w_X12 cI cC cZ tq0 tq1 tq2 tq3 tq4 tq5 tq6 tq7 tq8 tq9 tq10 tq11 tq12 tq13 tq14 tq15 tq16 tq17 tq18 tq19 tq20 tq21 tq22 tq23 tq24 t_signs t_signMany t_lineOf t_strengthOf t_waterOf t_backOf t_passes t_tried t_table t_numbers o.2.1 t_wished t_itemLine t_itemStrength t_itemWater t_itemBack t_items t_worstThen t_reading t_isRead o.2.2.1 o.2.2.2 t_spanLow t_spanHigh t_weldLine t_weldPull t_welds t_orderOf t_bestOrder t_smithOf t_bestSmith t_busy) (some (.long o.1)) := by
  refine Ctr.of (by decide) (Nat.le_of_ble_eq_true rfl) ?_
  intro p e s m args below meth c ls A Q hA hQ C hl hw
  have hx := C.1
  have hb := C.2.1
  have hl : lv_has ls 7 [(0, .ref tq0), (1, .int x1)] := hl
  have L30 : ∀ (n : Nat), ∀ (t_bends : Nat → Int32) (t_readSum : Int32) (t_readMany : Int32) (v1 : Int32) (v2 : Int64) (v4 : Int64) (v6 : Int32) (H : Heap) (locs : List Loc) (ls : Array Slot), Wd D A s.heap (w_X12 cI cC cZ tq0 tq1 tq2 tq3 tq4 tq5 tq6 tq7 tq8 tq9 tq10 tq11 tq12 tq13 tq14 tq15 tq16 tq17 tq18 tq19 tq20 tq21 tq22 tq23 tq24 t_signs t_signMany t_lineOf t_strengthOf t_waterOf t_backOf t_passes t_tried t_table t_numbers t_bends t_wished t_itemLine t_itemStrength t_itemWater t_itemBack t_items t_worstThen t_reading t_isRead t_readSum t_readMany t_spanLow t_spanHigh t_weldLine t_weldPull t_welds t_orderOf t_bestOrder t_smithOf t_bestSmith t_busy) H locs → lv_has ls 7 [(0, .ref tq0), (1, .int v1), (2, .long v2), (4, .long v4), (6, .int v6)] → f_X12_skill_30 t_lineOf t_strengthOf t_waterOf t_backOf t_passes t_table t_numbers t_reading t_isRead  n t_bends t_readSum t_readMany v1 v2 v4 v6 = some o → W p l e (rmOf 4 89) s m args below meth c H locs 0 0 Q (F0 m 30 ls []) := by
    intro  n
    induction n with
    | zero => intro t_bends t_readSum t_readMany v1 v2 v4 v6 H locs ls hw hl hf; exact (no_none hf).elim
    | succ n ih =>
      intro t_bends t_readSum t_readMany v1 v2 v4 v6 H locs ls hw hl hf
      have hf : f_X12_skill_30b t_lineOf t_strengthOf t_waterOf t_backOf t_passes t_table t_numbers t_reading t_isRead  (f_X12_skill_30 t_lineOf t_strengthOf t_waterOf t_backOf t_passes t_table t_numbers t_reading t_isRead  n) n t_bends t_readSum t_readMany v1 v2 v4 v6 = some o := hf
      generalize f_X12_skill_30 t_lineOf t_strengthOf t_waterOf t_backOf t_passes t_table t_numbers t_reading t_isRead  n = k30 at hf ih
      refine lv_iload hx hb (dc d_X12_skill 18 rfl) (lv_at hl 4 rfl) ?_
      refine lv_bipush (v := (8 : Int32)) hx hb (dc d_X12_skill 19 rfl) (by decide) ?_
      refine lv_icmp_ge (tgt := 99) hx hb (dc d_X12_skill 20 rfl) (by decide) (fun c4 => ?_) (fun c4 => ?_)
      · have hf := g_t hf c4
        refine lv_lload hx hb (dc d_X12_skill 55 rfl) (lv_at hl 3 rfl) ?_
        refine lv_lconst (v := (0 : Int64)) hx hb (dc d_X12_skill 56 rfl) (by decide) ?_
        refine W.lcmp hx hb (dc d_X12_skill 57 rfl) ?_
        refine lv_if_ne (tgt := 112) hx hb (dc d_X12_skill 58 rfl) (by decide) (fun c5 => ?_) (fun c5 => ?_)
        · have hf := g_f hf c5
          refine lv_lload_n hx hb (dc d_X12_skill 61 rfl) rfl (lv_at hl 2 rfl) ?_
          refine lv_lload hx hb (dc d_X12_skill 62 rfl) (lv_at hl 3 rfl) ?_
          refine lv_iload_n hx hb (dc d_X12_skill 63 rfl) rfl (lv_at hl 1 rfl) ?_
          obtain ⟨q6, hq6, hf⟩ := g_bd hf
          refine x_callS C hw mb_X12_lowest ms_X12_lowest ml_X12_226 (k_X12_lowest n hq6) hl.1 rfl rfl [] rfl rfl rfl (Nat.le_of_ble_eq_true rfl) (Nat.le_of_ble_eq_true rfl) (Nat.le_of_ble_eq_true rfl) (dc d_X12_skill 64 rfl) (fun H locs hw => ?_)
          refine W.eq (g2 := F0 m 119 ls [.long q6]) rfl ?_
          have hw : Wd D A s.heap (w_X12 cI cC cZ tq0 tq1 tq2 tq3 tq4 tq5 tq6 tq7 tq8 tq9 tq10 tq11 tq12 tq13 tq14 tq15 tq16 tq17 tq18 tq19 tq20 tq21 tq22 tq23 tq24 t_signs t_signMany t_lineOf t_strengthOf t_waterOf t_backOf t_passes t_tried t_table t_numbers t_bends t_wished t_itemLine t_itemStrength t_itemWater t_itemBack t_items t_worstThen t_reading t_isRead t_readSum t_readMany t_spanLow t_spanHigh t_weldLine t_weldPull t_welds t_orderOf t_bestOrder t_smithOf t_bestSmith t_busy) H locs := hw
          cases hf
          exact x_lret C hA hQ hw rfl rfl (dc d_X12_skill 65 rfl)
        · have hf := g_t hf c5
          refine x_ldc2 (v := (-2000000003 : Int64)) C cn_X12_237 (dc d_X12_skill 59 rfl) ?_
          refine lv_goto (tgt := 119) hx hb (dc d_X12_skill 60 rfl) (by decide) ?_
          cases hf
          exact x_lret C hA hQ hw rfl rfl (dc d_X12_skill 65 rfl)
      · have hf := g_f hf c4
        refine lv_aload_n hx hb (dc d_X12_skill 21 rfl) rfl (lv_at hl 0 rfl) ?_
        refine lv_iload hx hb (dc d_X12_skill 22 rfl) (lv_at hl 4 rfl) ?_
        obtain ⟨q7, hq7, hf⟩ := g_bd hf
        refine x_callVa C hw mb_X12_findRead mv_X12_findRead ml_X12_223 (k_X12_findRead n hq7) hl.1 rfl rfl rfl 0 12 rfl rfl (Nat.le_of_ble_eq_true rfl) (Nat.le_of_ble_eq_true rfl) (Nat.le_of_ble_eq_true rfl) (dc d_X12_skill 23 rfl) (fun H locs hw => ?_)
        refine W.eq (g2 := F0 m 43 ls []) rfl ?_
        have hw : Wd D A s.heap (w_X12 cI cC cZ tq0 tq1 tq2 tq3 tq4 tq5 tq6 tq7 tq8 tq9 tq10 tq11 tq12 tq13 tq14 tq15 tq16 tq17 tq18 tq19 tq20 tq21 tq22 tq23 tq24 t_signs t_signMany t_lineOf t_strengthOf t_waterOf t_backOf t_passes t_tried t_table t_numbers t_bends t_wished t_itemLine t_itemStrength t_itemWater t_itemBack t_items t_worstThen t_reading t_isRead q7.1 q7.2 t_spanLow t_spanHigh t_weldLine t_weldPull t_welds t_orderOf t_bestOrder t_smithOf t_bestSmith t_busy) H locs := hw
        refine lv_aload_n hx hb (dc d_X12_skill 24 rfl) rfl (lv_at hl 0 rfl) ?_
        refine lv_iload hx hb (dc d_X12_skill 25 rfl) (lv_at hl 4 rfl) ?_
        obtain ⟨q8, hq8, hf⟩ := g_bd hf
        refine x_callVa C hw mb_X12_hasPass mv_X12_hasPass ml_X12_232 (k_X12_hasPass n hq8) hl.1 rfl rfl rfl 0 12 rfl rfl (Nat.le_of_ble_eq_true rfl) (Nat.le_of_ble_eq_true rfl) (Nat.le_of_ble_eq_true rfl) (dc d_X12_skill 26 rfl) (fun H locs hw => ?_)
        refine W.eq (g2 := F0 m 49 ls [.int q8]) rfl ?_
        have hw : Wd D A s.heap (w_X12 cI cC cZ tq0 tq1 tq2 tq3 tq4 tq5 tq6 tq7 tq8 tq9 tq10 tq11 tq12 tq13 tq14 tq15 tq16 tq17 tq18 tq19 tq20 tq21 tq22 tq23 tq24 t_signs t_signMany t_lineOf t_strengthOf t_waterOf t_backOf t_passes t_tried t_table t_numbers t_bends t_wished t_itemLine t_itemStrength t_itemWater t_itemBack t_items t_worstThen t_reading t_isRead q7.1 q7.2 t_spanLow t_spanHigh t_weldLine t_weldPull t_welds t_orderOf t_bestOrder t_smithOf t_bestSmith t_busy) H locs := hw
        refine lv_if_eq (tgt := 93) hx hb (dc d_X12_skill 27 rfl) (by decide) (fun c9 => ?_) (fun c9 => ?_)
        · have hf := g_t hf c9
          refine lv_iinc (v := (v6 + (1 : Int32))) (lv' := [(6, .int (v6 + (1 : Int32))), (0, .ref tq0), (1, .int v1), (2, .long v2), (4, .long v4)]) hx hb (dc d_X12_skill 53 rfl) hl (k := 4) rfl (ii (by decide)) (by decide) rfl (fun ls hl => ?_)
          refine lv_goto (tgt := 30) hx hb (dc d_X12_skill 54 rfl) (by decide) ?_
          exact ih t_bends q7.1 q7.2 v1 v2 v4 (v6 + (1 : Int32)) _ _ _ hw (lv_sub hl [1, 2, 3, 4, 0] rfl) hf
        · have hf := g_f hf c9
          refine lv_aload_n hx hb (dc d_X12_skill 28 rfl) rfl (lv_at hl 0 rfl) ?_
          refine x_get C hw fl_X12_220 0 rfl rfl (dc d_X12_skill 29 rfl) ?_
          refine lv_if_le (tgt := 93) hx hb (dc d_X12_skill 30 rfl) (by decide) (fun c10 => ?_) (fun c10 => ?_)
          · have hf := g_t hf c10
            refine lv_iinc (v := (v6 + (1 : Int32))) (lv' := [(6, .int (v6 + (1 : Int32))), (0, .ref tq0), (1, .int v1), (2, .long v2), (4, .long v4)]) hx hb (dc d_X12_skill 53 rfl) hl (k := 4) rfl (ii (by decide)) (by decide) rfl (fun ls hl => ?_)
            refine lv_goto (tgt := 30) hx hb (dc d_X12_skill 54 rfl) (by decide) ?_
            exact ih t_bends q7.1 q7.2 v1 v2 v4 (v6 + (1 : Int32)) _ _ _ hw (lv_sub hl [1, 2, 3, 4, 0] rfl) hf
          · have hf := g_f hf c10
            refine lv_lload_n hx hb (dc d_X12_skill 31 rfl) rfl (lv_at hl 2 rfl) ?_
            refine lv_aload_n hx hb (dc d_X12_skill 32 rfl) rfl (lv_at hl 0 rfl) ?_
            refine x_get C hw fl_X12_217 0 rfl rfl (dc d_X12_skill 33 rfl) ?_
            refine lv_i2l (v := q7.1.toInt64) hx hb (dc d_X12_skill 34 rfl) rfl ?_
            refine lv_bipush (v := (60 : Int32)) hx hb (dc d_X12_skill 35 rfl) (by decide) ?_
            refine lv_aload_n hx hb (dc d_X12_skill 36 rfl) rfl (lv_at hl 0 rfl) ?_
            refine x_get C hw fl_X12_220 0 rfl rfl (dc d_X12_skill 37 rfl) ?_
            refine x_div hx hb (dc d_X12_skill 38 rfl) (grd_b hf) ?_
            have hf := grd_x hf
            refine lv_i2l (v := ((60 : Int32) / q7.2).toInt64) hx hb (dc d_X12_skill 39 rfl) rfl ?_
            refine lv_lmul hx hb (dc d_X12_skill 40 rfl) ?_
            refine lv_ladd hx hb (dc d_X12_skill 41 rfl) ?_
            refine lv_topl (fun y11 ey11 => ?_)
            have hf := g_nm hf ey11
            refine lv_lstore_n (lv' := [(2, .long y11), (0, .ref tq0), (1, .int v1), (4, .long v4), (6, .int v6)]) hx hb (dc d_X12_skill 42 rfl) rfl hl (by decide) rfl (fun ls hl => ?_)
            refine lv_lload hx hb (dc d_X12_skill 43 rfl) (lv_at hl 3 rfl) ?_
            refine x_ldc2 (v := (60 : Int64)) C cn_X12_235 (dc d_X12_skill 44 rfl) ?_
            refine lv_aload_n hx hb (dc d_X12_skill 45 rfl) rfl (lv_at hl 1 rfl) ?_
            refine x_get C hw fl_X12_31 0 rfl rfl (dc d_X12_skill 46 rfl) ?_
            refine lv_iload hx hb (dc d_X12_skill 47 rfl) (lv_at hl 4 rfl) ?_
            have hi := grd_b hf
            have hf := grd_x hf
            refine x_iald C hw 8 rfl hi (dc d_X12_skill 48 rfl) ?_
            refine lv_i2l (v := (t_bends v6.toNatClampNeg).toInt64) hx hb (dc d_X12_skill 49 rfl) rfl ?_
            refine lv_lmul hx hb (dc d_X12_skill 50 rfl) ?_
            refine lv_ladd hx hb (dc d_X12_skill 51 rfl) ?_
            refine lv_topl (fun y12 ey12 => ?_)
            have hf := g_nm hf ey12
            refine lv_lstore (lv' := [(4, .long y12), (2, .long y11), (0, .ref tq0), (1, .int v1), (6, .int v6)]) hx hb (dc d_X12_skill 52 rfl) hl (by decide) rfl (fun ls hl => ?_)
            refine lv_iinc (v := (v6 + (1 : Int32))) (lv' := [(6, .int (v6 + (1 : Int32))), (4, .long y12), (2, .long y11), (0, .ref tq0), (1, .int v1)]) hx hb (dc d_X12_skill 53 rfl) hl (k := 4) rfl (ii (by decide)) (by decide) rfl (fun ls hl => ?_)
            refine lv_goto (tgt := 30) hx hb (dc d_X12_skill 54 rfl) (by decide) ?_
            exact ih t_bends q7.1 q7.2 v1 y11 y12 (v6 + (1 : Int32)) _ _ _ hw (lv_sub hl [3, 4, 2, 1, 0] rfl) hf
  refine lv_iload_n hx hb (dc d_X12_skill 0 rfl) rfl (lv_at hl 1 rfl) ?_
  refine lv_i2l (v := x1.toInt64) hx hb (dc d_X12_skill 1 rfl) rfl ?_
  refine lv_lconst (v := (0 : Int64)) hx hb (dc d_X12_skill 2 rfl) (by decide) ?_
  refine lv_lconst (v := (1 : Int64)) hx hb (dc d_X12_skill 3 rfl) (by decide) ?_
  obtain ⟨q1, hq1, hf⟩ := g_bd hf
  refine x_callS C hw mb_X12_in ms_X12_in ml_X12_85 (k_X12_in n hq1) hl.1 rfl rfl [] rfl rfl rfl (Nat.le_of_ble_eq_true rfl) (Nat.le_of_ble_eq_true rfl) (Nat.le_of_ble_eq_true rfl) (dc d_X12_skill 4 rfl) (fun H locs hw => ?_)
  refine W.eq (g2 := F0 m 7 ls [.int q1]) rfl ?_
  have hw : Wd D A s.heap (w_X12 cI cC cZ tq0 tq1 tq2 tq3 tq4 tq5 tq6 tq7 tq8 tq9 tq10 tq11 tq12 tq13 tq14 tq15 tq16 tq17 tq18 tq19 tq20 tq21 tq22 tq23 tq24 t_signs t_signMany t_lineOf t_strengthOf t_waterOf t_backOf t_passes t_tried t_table t_numbers t_bends t_wished t_itemLine t_itemStrength t_itemWater t_itemBack t_items t_worstThen t_reading t_isRead t_readSum t_readMany t_spanLow t_spanHigh t_weldLine t_weldPull t_welds t_orderOf t_bestOrder t_smithOf t_bestSmith t_busy) H locs := hw
  refine lv_if_ne (tgt := 14) hx hb (dc d_X12_skill 5 rfl) (by decide) (fun c2 => ?_) (fun c2 => ?_)
  · have hf := g_f hf c2
    refine lv_aload_n hx hb (dc d_X12_skill 8 rfl) rfl (lv_at hl 0 rfl) ?_
    refine lv_aload_n hx hb (dc d_X12_skill 9 rfl) rfl (lv_at hl 0 rfl) ?_
    refine x_get C hw fl_X12_113 0 rfl rfl (dc d_X12_skill 10 rfl) ?_
    obtain ⟨q3, hq3, hf⟩ := g_bd hf
    refine x_callVa C hw mb_X12_findBends mv_X12_findBends ml_X12_148 (k_X12_findBends n hq3) hl.1 rfl rfl rfl 0 12 rfl rfl (Nat.le_of_ble_eq_true rfl) (Nat.le_of_ble_eq_true rfl) (Nat.le_of_ble_eq_true rfl) (dc d_X12_skill 11 rfl) (fun H locs hw => ?_)
    refine W.eq (g2 := F0 m 22 ls []) rfl ?_
    have hw : Wd D A s.heap (w_X12 cI cC cZ tq0 tq1 tq2 tq3 tq4 tq5 tq6 tq7 tq8 tq9 tq10 tq11 tq12 tq13 tq14 tq15 tq16 tq17 tq18 tq19 tq20 tq21 tq22 tq23 tq24 t_signs t_signMany t_lineOf t_strengthOf t_waterOf t_backOf t_passes t_tried t_table t_numbers q3 t_wished t_itemLine t_itemStrength t_itemWater t_itemBack t_items t_worstThen t_reading t_isRead t_readSum t_readMany t_spanLow t_spanHigh t_weldLine t_weldPull t_welds t_orderOf t_bestOrder t_smithOf t_bestSmith t_busy) H locs := hw
    refine lv_lconst (v := (0 : Int64)) hx hb (dc d_X12_skill 12 rfl) (by decide) ?_
    refine lv_lstore_n (lv' := [(2, .long (0 : Int64)), (0, .ref tq0), (1, .int x1)]) hx hb (dc d_X12_skill 13 rfl) rfl hl (by decide) rfl (fun ls hl => ?_)
    refine lv_lconst (v := (0 : Int64)) hx hb (dc d_X12_skill 14 rfl) (by decide) ?_
    refine lv_lstore (lv' := [(4, .long (0 : Int64)), (2, .long (0 : Int64)), (0, .ref tq0), (1, .int x1)]) hx hb (dc d_X12_skill 15 rfl) hl (by decide) rfl (fun ls hl => ?_)
    refine lv_iconst (v := (0 : Int32)) hx hb (dc d_X12_skill 16 rfl) (by decide) ?_
    refine lv_istore (lv' := [(6, .int (0 : Int32)), (4, .long (0 : Int64)), (2, .long (0 : Int64)), (0, .ref tq0), (1, .int x1)]) hx hb (dc d_X12_skill 17 rfl) hl (by decide) rfl (fun ls hl => ?_)
    exact L30  n q3 t_readSum t_readMany x1 (0 : Int64) (0 : Int64) (0 : Int32) _ _ _ hw (lv_sub hl [3, 4, 2, 1, 0] rfl) hf
  · have hf := g_t hf c2
    refine x_ldc2 (v := (-2000000002 : Int64)) C cn_X12_230 (dc d_X12_skill 6 rfl) ?_
    cases hf
    exact x_lret C hA hQ hw rfl rfl (dc d_X12_skill 7 rfl)
set_option maxHeartbeats 4000000 in
set_option maxRecDepth 100000 in
theorem k_X12_attempt (n : Nat) {l : Launch} {D : va_G} {cI cC cZ : ClassId} {tq0 tq1 tq2 tq3 tq4 tq5 tq6 tq7 tq8 tq9 tq10 tq11 tq12 tq13 tq14 tq15 tq16 tq17 tq18 tq19 tq20 tq21 tq22 tq23 tq24 : Nat} {t_signs : Nat → Int32} {t_signMany : Int32} {t_lineOf : Nat → Int32} {t_strengthOf : Nat → Int32} {t_waterOf : Nat → Int32} {t_backOf : Nat → Int32} {t_passes : Int32} {t_tried : Int32} {t_table : Nat → Int32} {t_numbers : Nat → Int32} {t_bends : Nat → Int32} {t_wished : Nat → Int32} {t_itemLine : Nat → Int32} {t_itemStrength : Nat → Int32} {t_itemWater : Nat → Int32} {t_itemBack : Nat → Int32} {t_items : Int32} {t_worstThen : Int32} {t_reading : Nat → Int32} {t_isRead : Nat → Int32} {t_readSum : Int32} {t_readMany : Int32} {t_spanLow : Nat → Int32} {t_spanHigh : Nat → Int32} {t_weldLine : Nat → Int32} {t_weldPull : Nat → Int32} {t_welds : Int32} {t_orderOf : Nat → Int32} {t_bestOrder : Nat → Int32} {t_smithOf : Nat → Int32} {t_bestSmith : Nat → Int32} {t_busy : Nat → Int32} {x1 : Int32} {x2 : Int32} {x3 : Int32} {o : Int32 × (Nat → Int32) × (Nat → Int32)} (hf : f_X12_attempt n t_spanLow t_spanHigh x1 x2 x3 = some o) : Ctr l yX12_attempt cX12_attempt 6 (some .int) 1 25 D cI cC cZ [.ref tq0, .int x1, .int x2, .int x3] (w_X12 cI cC cZ tq0 tq1 tq2 tq3 tq4 tq5 tq6 tq7 tq8 tq9 tq10 tq11 tq12 tq13 tq14 tq15 tq16 tq17 tq18 tq19 tq20 tq21 tq22 tq23 tq24 t_signs t_signMany t_lineOf t_strengthOf t_waterOf t_backOf t_passes t_tried t_table t_numbers t_bends t_wished t_itemLine t_itemStrength t_itemWater t_itemBack t_items t_worstThen t_reading t_isRead t_readSum t_readMany t_spanLow t_spanHigh t_weldLine t_weldPull t_welds t_orderOf t_bestOrder t_smithOf t_bestSmith t_busy) (w_X12 cI cC cZ tq0 tq1 tq2 tq3 tq4 tq5 tq6 tq7 tq8 tq9 tq10 tq11 tq12 tq13 tq14 tq15 tq16 tq17 tq18 tq19 tq20 tq21 tq22 tq23 tq24 t_signs t_signMany t_lineOf t_strengthOf t_waterOf t_backOf t_passes t_tried t_table t_numbers t_bends t_wished t_itemLine t_itemStrength t_itemWater t_itemBack t_items t_worstThen t_reading t_isRead t_readSum t_readMany o.2.1 o.2.2 t_weldLine t_weldPull t_welds t_orderOf t_bestOrder t_smithOf t_bestSmith t_busy) (some (.int o.1)) := by
  refine Ctr.of (by decide) (Nat.le_of_ble_eq_true rfl) ?_
  intro p e s m args below meth c ls A Q hA hQ C hl hw
  have hx := C.1
  have hb := C.2.1
  have hl : lv_has ls 6 [(0, .ref tq0), (1, .int x1), (2, .int x2), (3, .int x3)] := hl
  have L89 : ∀ (n : Nat), ∀ (t_spanLow : Nat → Int32) (t_spanHigh : Nat → Int32) (v1 : Int32) (v4 : Int32) (s0 : Int32) (H : Heap) (locs : List Loc) (ls : Array Slot), Wd D A s.heap (w_X12 cI cC cZ tq0 tq1 tq2 tq3 tq4 tq5 tq6 tq7 tq8 tq9 tq10 tq11 tq12 tq13 tq14 tq15 tq16 tq17 tq18 tq19 tq20 tq21 tq22 tq23 tq24 t_signs t_signMany t_lineOf t_strengthOf t_waterOf t_backOf t_passes t_tried t_table t_numbers t_bends t_wished t_itemLine t_itemStrength t_itemWater t_itemBack t_items t_worstThen t_reading t_isRead t_readSum t_readMany t_spanLow t_spanHigh t_weldLine t_weldPull t_welds t_orderOf t_bestOrder t_smithOf t_bestSmith t_busy) H locs → lv_has ls 6 [(0, .ref tq0), (1, .int v1), (4, .int v4)] → f_X12_attempt_89  n t_spanLow t_spanHigh v1 v4 s0 = some o → W p l e (rmOf 1 25) s m args below meth c H locs 0 0 Q (F0 m 89 ls [.int s0]) := by
    intro  n t_spanLow t_spanHigh v1 v4 s0 H locs ls hw hl hf
    refine lv_istore (lv' := [(5, .int s0), (0, .ref tq0), (1, .int v1), (4, .int v4)]) hx hb (dc d_X12_attempt 53 rfl) hl (by decide) rfl (fun ls hl => ?_)
    refine lv_iload hx hb (dc d_X12_attempt 54 rfl) (lv_at hl 3 rfl) ?_
    refine lv_iload hx hb (dc d_X12_attempt 55 rfl) (lv_at hl 0 rfl) ?_
    refine lv_icmp_le (tgt := 101) hx hb (dc d_X12_attempt 56 rfl) (by decide) (fun c9 => ?_) (fun c9 => ?_)
    · have hf := g_t hf c9
      refine lv_aload_n hx hb (dc d_X12_attempt 59 rfl) rfl (lv_at hl 1 rfl) ?_
      refine x_get C hw fl_X12_56 0 rfl rfl (dc d_X12_attempt 60 rfl) ?_
      refine lv_iload_n hx hb (dc d_X12_attempt 61 rfl) rfl (lv_at hl 2 rfl) ?_
      refine lv_iload hx hb (dc d_X12_attempt 62 rfl) (lv_at hl 3 rfl) ?_
      have hi := grd_b hf
      have hf := grd_x hf
      refine x_iast C hw 16 rfl hi (dc d_X12_attempt 63 rfl) (fun H locs hw => ?_)
      dsimp only [w_X12, mix, List.set_cons_succ, List.set_cons_zero] at hw
      have hw : Wd D A s.heap (w_X12 cI cC cZ tq0 tq1 tq2 tq3 tq4 tq5 tq6 tq7 tq8 tq9 tq10 tq11 tq12 tq13 tq14 tq15 tq16 tq17 tq18 tq19 tq20 tq21 tq22 tq23 tq24 t_signs t_signMany t_lineOf t_strengthOf t_waterOf t_backOf t_passes t_tried t_table t_numbers t_bends t_wished t_itemLine t_itemStrength t_itemWater t_itemBack t_items t_worstThen t_reading t_isRead t_readSum t_readMany (upd t_spanLow v1.toNatClampNeg v4) t_spanHigh t_weldLine t_weldPull t_welds t_orderOf t_bestOrder t_smithOf t_bestSmith t_busy) H locs := hw
      refine lv_aload_n hx hb (dc d_X12_attempt 64 rfl) rfl (lv_at hl 1 rfl) ?_
      refine x_get C hw fl_X12_59 0 rfl rfl (dc d_X12_attempt 65 rfl) ?_
      refine lv_iload_n hx hb (dc d_X12_attempt 66 rfl) rfl (lv_at hl 2 rfl) ?_
      refine lv_iload hx hb (dc d_X12_attempt 67 rfl) (lv_at hl 0 rfl) ?_
      have hi := grd_b hf
      have hf := grd_x hf
      refine x_iast C hw 17 rfl hi (dc d_X12_attempt 68 rfl) (fun H locs hw => ?_)
      dsimp only [w_X12, mix, List.set_cons_succ, List.set_cons_zero] at hw
      have hw : Wd D A s.heap (w_X12 cI cC cZ tq0 tq1 tq2 tq3 tq4 tq5 tq6 tq7 tq8 tq9 tq10 tq11 tq12 tq13 tq14 tq15 tq16 tq17 tq18 tq19 tq20 tq21 tq22 tq23 tq24 t_signs t_signMany t_lineOf t_strengthOf t_waterOf t_backOf t_passes t_tried t_table t_numbers t_bends t_wished t_itemLine t_itemStrength t_itemWater t_itemBack t_items t_worstThen t_reading t_isRead t_readSum t_readMany (upd t_spanLow v1.toNatClampNeg v4) (upd t_spanHigh v1.toNatClampNeg s0) t_weldLine t_weldPull t_welds t_orderOf t_bestOrder t_smithOf t_bestSmith t_busy) H locs := hw
      refine lv_iconst (v := (1 : Int32)) hx hb (dc d_X12_attempt 69 rfl) (by decide) ?_
      cases hf
      exact x_iret C hA hQ hw rfl rfl (dc d_X12_attempt 70 rfl)
    · have hf := g_f hf c9
      refine lv_bipush (v := (-5 : Int32)) hx hb (dc d_X12_attempt 57 rfl) (by decide) ?_
      cases hf
      exact x_iret C hA hQ hw rfl rfl (dc d_X12_attempt 58 rfl)
  have L63 : ∀ (n : Nat), ∀ (t_spanLow : Nat → Int32) (t_spanHigh : Nat → Int32) (v1 : Int32) (v2 : Int32) (v3 : Int32) (s0 : Int32) (H : Heap) (locs : List Loc) (ls : Array Slot), Wd D A s.heap (w_X12 cI cC cZ tq0 tq1 tq2 tq3 tq4 tq5 tq6 tq7 tq8 tq9 tq10 tq11 tq12 tq13 tq14 tq15 tq16 tq17 tq18 tq19 tq20 tq21 tq22 tq23 tq24 t_signs t_signMany t_lineOf t_strengthOf t_waterOf t_backOf t_passes t_tried t_table t_numbers t_bends t_wished t_itemLine t_itemStrength t_itemWater t_itemBack t_items t_worstThen t_reading t_isRead t_readSum t_readMany t_spanLow t_spanHigh t_weldLine t_weldPull t_welds t_orderOf t_bestOrder t_smithOf t_bestSmith t_busy) H locs → lv_has ls 6 [(0, .ref tq0), (1, .int v1), (2, .int v2), (3, .int v3)] → f_X12_attempt_63  n t_spanLow t_spanHigh v1 v2 v3 s0 = some o → W p l e (rmOf 1 25) s m args below meth c H locs 0 0 Q (F0 m 63 ls [.int s0]) := by
    intro  n t_spanLow t_spanHigh v1 v2 v3 s0 H locs ls hw hl hf
    refine lv_istore (lv' := [(4, .int s0), (0, .ref tq0), (1, .int v1), (2, .int v2), (3, .int v3)]) hx hb (dc d_X12_attempt 36 rfl) hl (by decide) rfl (fun ls hl => ?_)
    refine lv_iload_n hx hb (dc d_X12_attempt 37 rfl) rfl (lv_at hl 3 rfl) ?_
    refine lv_iload_n hx hb (dc d_X12_attempt 38 rfl) rfl (lv_at hl 4 rfl) ?_
    refine lv_iadd hx hb (dc d_X12_attempt 39 rfl) ?_
    refine lv_aload_n hx hb (dc d_X12_attempt 40 rfl) rfl (lv_at hl 1 rfl) ?_
    refine x_get C hw fl_X12_59 0 rfl rfl (dc d_X12_attempt 41 rfl) ?_
    refine lv_iload_n hx hb (dc d_X12_attempt 42 rfl) rfl (lv_at hl 2 rfl) ?_
    have hi := grd_b hf
    have hf := grd_x hf
    refine x_iald C hw 17 rfl hi (dc d_X12_attempt 43 rfl) ?_
    refine lv_icmp_ge (tgt := 83) hx hb (dc d_X12_attempt 44 rfl) (by decide) (fun c8 => ?_) (fun c8 => ?_)
    · have hf := g_t hf c8
      refine lv_aload_n hx hb (dc d_X12_attempt 49 rfl) rfl (lv_at hl 1 rfl) ?_
      refine x_get C hw fl_X12_59 0 rfl rfl (dc d_X12_attempt 50 rfl) ?_
      refine lv_iload_n hx hb (dc d_X12_attempt 51 rfl) rfl (lv_at hl 2 rfl) ?_
      have hi := grd_b hf
      have hf := grd_x hf
      refine x_iald C hw 17 rfl hi (dc d_X12_attempt 52 rfl) ?_
      exact L89  n t_spanLow t_spanHigh v1 s0 (t_spanHigh v1.toNatClampNeg) _ _ _ hw (lv_sub hl [1, 2, 0] rfl) hf
    · have hf := g_f hf c8
      refine lv_iload_n hx hb (dc d_X12_attempt 45 rfl) rfl (lv_at hl 3 rfl) ?_
      refine lv_iload_n hx hb (dc d_X12_attempt 46 rfl) rfl (lv_at hl 4 rfl) ?_
      refine lv_iadd hx hb (dc d_X12_attempt 47 rfl) ?_
      refine lv_goto (tgt := 89) hx hb (dc d_X12_attempt 48 rfl) (by decide) ?_
      exact L89  n t_spanLow t_spanHigh v1 s0 (v2 + v3) _ _ _ hw (lv_sub hl [1, 2, 0] rfl) hf
  refine lv_iload_n hx hb (dc d_X12_attempt 0 rfl) rfl (lv_at hl 1 rfl) ?_
  refine lv_i2l (v := x1.toInt64) hx hb (dc d_X12_attempt 1 rfl) rfl ?_
  refine lv_lconst (v := (1 : Int64)) hx hb (dc d_X12_attempt 2 rfl) (by decide) ?_
  refine x_ldc2 (v := (9 : Int64)) C cn_X12_132 (dc d_X12_attempt 3 rfl) ?_
  obtain ⟨q1, hq1, hf⟩ := g_bd hf
  refine x_callS C hw mb_X12_in ms_X12_in ml_X12_85 (k_X12_in n hq1) hl.1 rfl rfl [] rfl rfl rfl (Nat.le_of_ble_eq_true rfl) (Nat.le_of_ble_eq_true rfl) (Nat.le_of_ble_eq_true rfl) (dc d_X12_attempt 4 rfl) (fun H locs hw => ?_)
  refine W.eq (g2 := F0 m 9 ls [.int q1]) rfl ?_
  have hw : Wd D A s.heap (w_X12 cI cC cZ tq0 tq1 tq2 tq3 tq4 tq5 tq6 tq7 tq8 tq9 tq10 tq11 tq12 tq13 tq14 tq15 tq16 tq17 tq18 tq19 tq20 tq21 tq22 tq23 tq24 t_signs t_signMany t_lineOf t_strengthOf t_waterOf t_backOf t_passes t_tried t_table t_numbers t_bends t_wished t_itemLine t_itemStrength t_itemWater t_itemBack t_items t_worstThen t_reading t_isRead t_readSum t_readMany t_spanLow t_spanHigh t_weldLine t_weldPull t_welds t_orderOf t_bestOrder t_smithOf t_bestSmith t_busy) H locs := hw
  refine lv_if_eq (tgt := 36) hx hb (dc d_X12_attempt 5 rfl) (by decide) (fun c2 => ?_) (fun c2 => ?_)
  · have hf := g_t hf c2
    refine lv_bipush (v := (-2 : Int32)) hx hb (dc d_X12_attempt 18 rfl) (by decide) ?_
    cases hf
    exact x_iret C hA hQ hw rfl rfl (dc d_X12_attempt 19 rfl)
  · have hf := g_f hf c2
    refine lv_iload_n hx hb (dc d_X12_attempt 6 rfl) rfl (lv_at hl 2 rfl) ?_
    refine lv_i2l (v := x2.toInt64) hx hb (dc d_X12_attempt 7 rfl) rfl ?_
    refine lv_lconst (v := (0 : Int64)) hx hb (dc d_X12_attempt 8 rfl) (by decide) ?_
    refine x_ldc2 (v := (1000 : Int64)) C cn_X12_134 (dc d_X12_attempt 9 rfl) ?_
    obtain ⟨q3, hq3, hf⟩ := g_bd hf
    refine x_callS C hw mb_X12_in ms_X12_in ml_X12_85 (k_X12_in n hq3) hl.1 rfl rfl [] rfl rfl rfl (Nat.le_of_ble_eq_true rfl) (Nat.le_of_ble_eq_true rfl) (Nat.le_of_ble_eq_true rfl) (dc d_X12_attempt 10 rfl) (fun H locs hw => ?_)
    refine W.eq (g2 := F0 m 21 ls [.int q3]) rfl ?_
    have hw : Wd D A s.heap (w_X12 cI cC cZ tq0 tq1 tq2 tq3 tq4 tq5 tq6 tq7 tq8 tq9 tq10 tq11 tq12 tq13 tq14 tq15 tq16 tq17 tq18 tq19 tq20 tq21 tq22 tq23 tq24 t_signs t_signMany t_lineOf t_strengthOf t_waterOf t_backOf t_passes t_tried t_table t_numbers t_bends t_wished t_itemLine t_itemStrength t_itemWater t_itemBack t_items t_worstThen t_reading t_isRead t_readSum t_readMany t_spanLow t_spanHigh t_weldLine t_weldPull t_welds t_orderOf t_bestOrder t_smithOf t_bestSmith t_busy) H locs := hw
    refine lv_if_eq (tgt := 36) hx hb (dc d_X12_attempt 11 rfl) (by decide) (fun c4 => ?_) (fun c4 => ?_)
    · have hf := g_t hf c4
      refine lv_bipush (v := (-2 : Int32)) hx hb (dc d_X12_attempt 18 rfl) (by decide) ?_
      cases hf
      exact x_iret C hA hQ hw rfl rfl (dc d_X12_attempt 19 rfl)
    · have hf := g_f hf c4
      refine lv_iload_n hx hb (dc d_X12_attempt 12 rfl) rfl (lv_at hl 3 rfl) ?_
      refine lv_i2l (v := x3.toInt64) hx hb (dc d_X12_attempt 13 rfl) rfl ?_
      refine lv_lconst (v := (0 : Int64)) hx hb (dc d_X12_attempt 14 rfl) (by decide) ?_
      refine x_ldc2 (v := (1000 : Int64)) C cn_X12_134 (dc d_X12_attempt 15 rfl) ?_
      obtain ⟨q5, hq5, hf⟩ := g_bd hf
      refine x_callS C hw mb_X12_in ms_X12_in ml_X12_85 (k_X12_in n hq5) hl.1 rfl rfl [] rfl rfl rfl (Nat.le_of_ble_eq_true rfl) (Nat.le_of_ble_eq_true rfl) (Nat.le_of_ble_eq_true rfl) (dc d_X12_attempt 16 rfl) (fun H locs hw => ?_)
      refine W.eq (g2 := F0 m 33 ls [.int q5]) rfl ?_
      have hw : Wd D A s.heap (w_X12 cI cC cZ tq0 tq1 tq2 tq3 tq4 tq5 tq6 tq7 tq8 tq9 tq10 tq11 tq12 tq13 tq14 tq15 tq16 tq17 tq18 tq19 tq20 tq21 tq22 tq23 tq24 t_signs t_signMany t_lineOf t_strengthOf t_waterOf t_backOf t_passes t_tried t_table t_numbers t_bends t_wished t_itemLine t_itemStrength t_itemWater t_itemBack t_items t_worstThen t_reading t_isRead t_readSum t_readMany t_spanLow t_spanHigh t_weldLine t_weldPull t_welds t_orderOf t_bestOrder t_smithOf t_bestSmith t_busy) H locs := hw
      refine lv_if_ne (tgt := 39) hx hb (dc d_X12_attempt 17 rfl) (by decide) (fun c6 => ?_) (fun c6 => ?_)
      · have hf := g_f hf c6
        refine lv_iload_n hx hb (dc d_X12_attempt 20 rfl) rfl (lv_at hl 2 rfl) ?_
        refine lv_iload_n hx hb (dc d_X12_attempt 21 rfl) rfl (lv_at hl 3 rfl) ?_
        refine lv_isub hx hb (dc d_X12_attempt 22 rfl) ?_
        refine lv_aload_n hx hb (dc d_X12_attempt 23 rfl) rfl (lv_at hl 0 rfl) ?_
        refine x_get C hw fl_X12_56 0 rfl rfl (dc d_X12_attempt 24 rfl) ?_
        refine lv_iload_n hx hb (dc d_X12_attempt 25 rfl) rfl (lv_at hl 1 rfl) ?_
        have hi := grd_b hf
        have hf := grd_x hf
        refine x_iald C hw 16 rfl hi (dc d_X12_attempt 26 rfl) ?_
        refine lv_icmp_le (tgt := 57) hx hb (dc d_X12_attempt 27 rfl) (by decide) (fun c7 => ?_) (fun c7 => ?_)
        · have hf := g_t hf c7
          refine lv_aload_n hx hb (dc d_X12_attempt 32 rfl) rfl (lv_at hl 0 rfl) ?_
          refine x_get C hw fl_X12_56 0 rfl rfl (dc d_X12_attempt 33 rfl) ?_
          refine lv_iload_n hx hb (dc d_X12_attempt 34 rfl) rfl (lv_at hl 1 rfl) ?_
          have hi := grd_b hf
          have hf := grd_x hf
          refine x_iald C hw 16 rfl hi (dc d_X12_attempt 35 rfl) ?_
          exact L63  n t_spanLow t_spanHigh x1 x2 x3 (t_spanLow x1.toNatClampNeg) _ _ _ hw (lv_sub hl [0, 1, 2, 3] rfl) hf
        · have hf := g_f hf c7
          refine lv_iload_n hx hb (dc d_X12_attempt 28 rfl) rfl (lv_at hl 2 rfl) ?_
          refine lv_iload_n hx hb (dc d_X12_attempt 29 rfl) rfl (lv_at hl 3 rfl) ?_
          refine lv_isub hx hb (dc d_X12_attempt 30 rfl) ?_
          refine lv_goto (tgt := 63) hx hb (dc d_X12_attempt 31 rfl) (by decide) ?_
          exact L63  n t_spanLow t_spanHigh x1 x2 x3 (x2 - x3) _ _ _ hw (lv_sub hl [0, 1, 2, 3] rfl) hf
      · have hf := g_t hf c6
        refine lv_bipush (v := (-2 : Int32)) hx hb (dc d_X12_attempt 18 rfl) (by decide) ?_
        cases hf
        exact x_iret C hA hQ hw rfl rfl (dc d_X12_attempt 19 rfl)
set_option maxHeartbeats 4000000 in
set_option maxRecDepth 100000 in
theorem k_X12_span (n : Nat) {l : Launch} {D : va_G} {cI cC cZ : ClassId} {tq0 tq1 tq2 tq3 tq4 tq5 tq6 tq7 tq8 tq9 tq10 tq11 tq12 tq13 tq14 tq15 tq16 tq17 tq18 tq19 tq20 tq21 tq22 tq23 tq24 : Nat} {t_signs : Nat → Int32} {t_signMany : Int32} {t_lineOf : Nat → Int32} {t_strengthOf : Nat → Int32} {t_waterOf : Nat → Int32} {t_backOf : Nat → Int32} {t_passes : Int32} {t_tried : Int32} {t_table : Nat → Int32} {t_numbers : Nat → Int32} {t_bends : Nat → Int32} {t_wished : Nat → Int32} {t_itemLine : Nat → Int32} {t_itemStrength : Nat → Int32} {t_itemWater : Nat → Int32} {t_itemBack : Nat → Int32} {t_items : Int32} {t_worstThen : Int32} {t_reading : Nat → Int32} {t_isRead : Nat → Int32} {t_readSum : Int32} {t_readMany : Int32} {t_spanLow : Nat → Int32} {t_spanHigh : Nat → Int32} {t_weldLine : Nat → Int32} {t_weldPull : Nat → Int32} {t_welds : Int32} {t_orderOf : Nat → Int32} {t_bestOrder : Nat → Int32} {t_smithOf : Nat → Int32} {t_bestSmith : Nat → Int32} {t_busy : Nat → Int32} {x1 : Int32} {x2 : Int32} {o : Int32} (hf : f_X12_span n t_spanLow t_spanHigh x1 x2 = some o) : Ctr l yX12_span cX12_span 3 (some .int) 1 25 D cI cC cZ [.ref tq0, .int x1, .int x2] (w_X12 cI cC cZ tq0 tq1 tq2 tq3 tq4 tq5 tq6 tq7 tq8 tq9 tq10 tq11 tq12 tq13 tq14 tq15 tq16 tq17 tq18 tq19 tq20 tq21 tq22 tq23 tq24 t_signs t_signMany t_lineOf t_strengthOf t_waterOf t_backOf t_passes t_tried t_table t_numbers t_bends t_wished t_itemLine t_itemStrength t_itemWater t_itemBack t_items t_worstThen t_reading t_isRead t_readSum t_readMany t_spanLow t_spanHigh t_weldLine t_weldPull t_welds t_orderOf t_bestOrder t_smithOf t_bestSmith t_busy) (w_X12 cI cC cZ tq0 tq1 tq2 tq3 tq4 tq5 tq6 tq7 tq8 tq9 tq10 tq11 tq12 tq13 tq14 tq15 tq16 tq17 tq18 tq19 tq20 tq21 tq22 tq23 tq24 t_signs t_signMany t_lineOf t_strengthOf t_waterOf t_backOf t_passes t_tried t_table t_numbers t_bends t_wished t_itemLine t_itemStrength t_itemWater t_itemBack t_items t_worstThen t_reading t_isRead t_readSum t_readMany t_spanLow t_spanHigh t_weldLine t_weldPull t_welds t_orderOf t_bestOrder t_smithOf t_bestSmith t_busy) (some (.int o)) := by
  refine Ctr.of (by decide) (Nat.le_of_ble_eq_true rfl) ?_
  intro p e s m args below meth c ls A Q hA hQ C hl hw
  have hx := C.1
  have hb := C.2.1
  have hl : lv_has ls 3 [(0, .ref tq0), (1, .int x1), (2, .int x2)] := hl
  refine lv_iload_n hx hb (dc d_X12_span 0 rfl) rfl (lv_at hl 1 rfl) ?_
  refine lv_i2l (v := x1.toInt64) hx hb (dc d_X12_span 1 rfl) rfl ?_
  refine lv_lconst (v := (1 : Int64)) hx hb (dc d_X12_span 2 rfl) (by decide) ?_
  refine x_ldc2 (v := (9 : Int64)) C cn_X12_132 (dc d_X12_span 3 rfl) ?_
  obtain ⟨q1, hq1, hf⟩ := g_bd hf
  refine x_callS C hw mb_X12_in ms_X12_in ml_X12_85 (k_X12_in n hq1) hl.1 rfl rfl [] rfl rfl rfl (Nat.le_of_ble_eq_true rfl) (Nat.le_of_ble_eq_true rfl) (Nat.le_of_ble_eq_true rfl) (dc d_X12_span 4 rfl) (fun H locs hw => ?_)
  refine W.eq (g2 := F0 m 9 ls [.int q1]) rfl ?_
  have hw : Wd D A s.heap (w_X12 cI cC cZ tq0 tq1 tq2 tq3 tq4 tq5 tq6 tq7 tq8 tq9 tq10 tq11 tq12 tq13 tq14 tq15 tq16 tq17 tq18 tq19 tq20 tq21 tq22 tq23 tq24 t_signs t_signMany t_lineOf t_strengthOf t_waterOf t_backOf t_passes t_tried t_table t_numbers t_bends t_wished t_itemLine t_itemStrength t_itemWater t_itemBack t_items t_worstThen t_reading t_isRead t_readSum t_readMany t_spanLow t_spanHigh t_weldLine t_weldPull t_welds t_orderOf t_bestOrder t_smithOf t_bestSmith t_busy) H locs := hw
  refine lv_if_eq (tgt := 22) hx hb (dc d_X12_span 5 rfl) (by decide) (fun c2 => ?_) (fun c2 => ?_)
  · have hf := g_t hf c2
    refine lv_bipush (v := (-2 : Int32)) hx hb (dc d_X12_span 12 rfl) (by decide) ?_
    cases hf
    exact x_iret C hA hQ hw rfl rfl (dc d_X12_span 13 rfl)
  · have hf := g_f hf c2
    refine lv_iload_n hx hb (dc d_X12_span 6 rfl) rfl (lv_at hl 2 rfl) ?_
    refine lv_i2l (v := x2.toInt64) hx hb (dc d_X12_span 7 rfl) rfl ?_
    refine lv_lconst (v := (0 : Int64)) hx hb (dc d_X12_span 8 rfl) (by decide) ?_
    refine lv_lconst (v := (1 : Int64)) hx hb (dc d_X12_span 9 rfl) (by decide) ?_
    obtain ⟨q3, hq3, hf⟩ := g_bd hf
    refine x_callS C hw mb_X12_in ms_X12_in ml_X12_85 (k_X12_in n hq3) hl.1 rfl rfl [] rfl rfl rfl (Nat.le_of_ble_eq_true rfl) (Nat.le_of_ble_eq_true rfl) (Nat.le_of_ble_eq_true rfl) (dc d_X12_span 10 rfl) (fun H locs hw => ?_)
    refine W.eq (g2 := F0 m 19 ls [.int q3]) rfl ?_
    have hw : Wd D A s.heap (w_X12 cI cC cZ tq0 tq1 tq2 tq3 tq4 tq5 tq6 tq7 tq8 tq9 tq10 tq11 tq12 tq13 tq14 tq15 tq16 tq17 tq18 tq19 tq20 tq21 tq22 tq23 tq24 t_signs t_signMany t_lineOf t_strengthOf t_waterOf t_backOf t_passes t_tried t_table t_numbers t_bends t_wished t_itemLine t_itemStrength t_itemWater t_itemBack t_items t_worstThen t_reading t_isRead t_readSum t_readMany t_spanLow t_spanHigh t_weldLine t_weldPull t_welds t_orderOf t_bestOrder t_smithOf t_bestSmith t_busy) H locs := hw
    refine lv_if_ne (tgt := 25) hx hb (dc d_X12_span 11 rfl) (by decide) (fun c4 => ?_) (fun c4 => ?_)
    · have hf := g_f hf c4
      refine lv_iload_n hx hb (dc d_X12_span 14 rfl) rfl (lv_at hl 2 rfl) ?_
      refine lv_if_ne (tgt := 38) hx hb (dc d_X12_span 15 rfl) (by decide) (fun c5 => ?_) (fun c5 => ?_)
      · have hf := g_f hf c5
        refine lv_aload_n hx hb (dc d_X12_span 21 rfl) rfl (lv_at hl 0 rfl) ?_
        refine x_get C hw fl_X12_59 0 rfl rfl (dc d_X12_span 22 rfl) ?_
        refine lv_iload_n hx hb (dc d_X12_span 23 rfl) rfl (lv_at hl 1 rfl) ?_
        have hi := grd_b hf
        have hf := grd_x hf
        refine x_iald C hw 17 rfl hi (dc d_X12_span 24 rfl) ?_
        cases hf
        exact x_iret C hA hQ hw rfl rfl (dc d_X12_span 25 rfl)
      · have hf := g_t hf c5
        refine lv_aload_n hx hb (dc d_X12_span 16 rfl) rfl (lv_at hl 0 rfl) ?_
        refine x_get C hw fl_X12_56 0 rfl rfl (dc d_X12_span 17 rfl) ?_
        refine lv_iload_n hx hb (dc d_X12_span 18 rfl) rfl (lv_at hl 1 rfl) ?_
        have hi := grd_b hf
        have hf := grd_x hf
        refine x_iald C hw 16 rfl hi (dc d_X12_span 19 rfl) ?_
        refine lv_goto (tgt := 44) hx hb (dc d_X12_span 20 rfl) (by decide) ?_
        cases hf
        exact x_iret C hA hQ hw rfl rfl (dc d_X12_span 25 rfl)
    · have hf := g_t hf c4
      refine lv_bipush (v := (-2 : Int32)) hx hb (dc d_X12_span 12 rfl) (by decide) ?_
      cases hf
      exact x_iret C hA hQ hw rfl rfl (dc d_X12_span 13 rfl)
set_option maxHeartbeats 4000000 in
set_option maxRecDepth 100000 in
theorem k_X12_widest (n : Nat) {l : Launch} {D : va_G} {cI cC cZ : ClassId} {tq0 tq1 tq2 tq3 tq4 tq5 tq6 tq7 tq8 tq9 tq10 tq11 tq12 tq13 tq14 tq15 tq16 tq17 tq18 tq19 tq20 tq21 tq22 tq23 tq24 : Nat} {t_signs : Nat → Int32} {t_signMany : Int32} {t_lineOf : Nat → Int32} {t_strengthOf : Nat → Int32} {t_waterOf : Nat → Int32} {t_backOf : Nat → Int32} {t_passes : Int32} {t_tried : Int32} {t_table : Nat → Int32} {t_numbers : Nat → Int32} {t_bends : Nat → Int32} {t_wished : Nat → Int32} {t_itemLine : Nat → Int32} {t_itemStrength : Nat → Int32} {t_itemWater : Nat → Int32} {t_itemBack : Nat → Int32} {t_items : Int32} {t_worstThen : Int32} {t_reading : Nat → Int32} {t_isRead : Nat → Int32} {t_readSum : Int32} {t_readMany : Int32} {t_spanLow : Nat → Int32} {t_spanHigh : Nat → Int32} {t_weldLine : Nat → Int32} {t_weldPull : Nat → Int32} {t_welds : Int32} {t_orderOf : Nat → Int32} {t_bestOrder : Nat → Int32} {t_smithOf : Nat → Int32} {t_bestSmith : Nat → Int32} {t_busy : Nat → Int32}  {o : Int32} (hf : f_X12_widest n t_spanLow t_spanHigh = some o) : Ctr l yX12_widest cX12_widest 3 (some .int) 0 0 D cI cC cZ [.ref tq0] (w_X12 cI cC cZ tq0 tq1 tq2 tq3 tq4 tq5 tq6 tq7 tq8 tq9 tq10 tq11 tq12 tq13 tq14 tq15 tq16 tq17 tq18 tq19 tq20 tq21 tq22 tq23 tq24 t_signs t_signMany t_lineOf t_strengthOf t_waterOf t_backOf t_passes t_tried t_table t_numbers t_bends t_wished t_itemLine t_itemStrength t_itemWater t_itemBack t_items t_worstThen t_reading t_isRead t_readSum t_readMany t_spanLow t_spanHigh t_weldLine t_weldPull t_welds t_orderOf t_bestOrder t_smithOf t_bestSmith t_busy) (w_X12 cI cC cZ tq0 tq1 tq2 tq3 tq4 tq5 tq6 tq7 tq8 tq9 tq10 tq11 tq12 tq13 tq14 tq15 tq16 tq17 tq18 tq19 tq20 tq21 tq22 tq23 tq24 t_signs t_signMany t_lineOf t_strengthOf t_waterOf t_backOf t_passes t_tried t_table t_numbers t_bends t_wished t_itemLine t_itemStrength t_itemWater t_itemBack t_items t_worstThen t_reading t_isRead t_readSum t_readMany t_spanLow t_spanHigh t_weldLine t_weldPull t_welds t_orderOf t_bestOrder t_smithOf t_bestSmith t_busy) (some (.int o)) := by
  refine Ctr.of (by decide) (Nat.le_of_ble_eq_true rfl) ?_
  intro p e s m args below meth c ls A Q hA hQ C hl hw
  have hx := C.1
  have hb := C.2.1
  have hl : lv_has ls 3 [(0, .ref tq0)] := hl
  have L4 : ∀ (n : Nat), ∀ (v1 : Int32) (v2 : Int32) (H : Heap) (locs : List Loc) (ls : Array Slot), Wd D A s.heap (w_X12 cI cC cZ tq0 tq1 tq2 tq3 tq4 tq5 tq6 tq7 tq8 tq9 tq10 tq11 tq12 tq13 tq14 tq15 tq16 tq17 tq18 tq19 tq20 tq21 tq22 tq23 tq24 t_signs t_signMany t_lineOf t_strengthOf t_waterOf t_backOf t_passes t_tried t_table t_numbers t_bends t_wished t_itemLine t_itemStrength t_itemWater t_itemBack t_items t_worstThen t_reading t_isRead t_readSum t_readMany t_spanLow t_spanHigh t_weldLine t_weldPull t_welds t_orderOf t_bestOrder t_smithOf t_bestSmith t_busy) H locs → lv_has ls 3 [(0, .ref tq0), (1, .int v1), (2, .int v2)] → f_X12_widest_4 t_spanLow t_spanHigh  n v1 v2 = some o → W p l e (rmOf 0 0) s m args below meth c H locs 0 0 Q (F0 m 4 ls []) := by
    intro  n
    induction n with
    | zero => intro v1 v2 H locs ls hw hl hf; exact (no_none hf).elim
    | succ n ih =>
      intro v1 v2 H locs ls hw hl hf
      have hf : f_X12_widest_4b t_spanLow t_spanHigh  (f_X12_widest_4 t_spanLow t_spanHigh  n) n v1 v2 = some o := hf
      generalize f_X12_widest_4 t_spanLow t_spanHigh  n = k4 at hf ih
      refine lv_iload_n hx hb (dc d_X12_widest 4 rfl) rfl (lv_at hl 2 rfl) ?_
      refine lv_bipush (v := (10 : Int32)) hx hb (dc d_X12_widest 5 rfl) (by decide) ?_
      refine lv_icmp_ge (tgt := 51) hx hb (dc d_X12_widest 6 rfl) (by decide) (fun c1 => ?_) (fun c1 => ?_)
      · have hf := g_t hf c1
        refine lv_iload_n hx hb (dc d_X12_widest 32 rfl) rfl (lv_at hl 1 rfl) ?_
        cases hf
        exact x_iret C hA hQ hw rfl rfl (dc d_X12_widest 33 rfl)
      · have hf := g_f hf c1
        refine lv_aload_n hx hb (dc d_X12_widest 7 rfl) rfl (lv_at hl 0 rfl) ?_
        refine x_get C hw fl_X12_59 0 rfl rfl (dc d_X12_widest 8 rfl) ?_
        refine lv_iload_n hx hb (dc d_X12_widest 9 rfl) rfl (lv_at hl 2 rfl) ?_
        have hi := grd_b hf
        have hf := grd_x hf
        refine x_iald C hw 17 rfl hi (dc d_X12_widest 10 rfl) ?_
        refine lv_aload_n hx hb (dc d_X12_widest 11 rfl) rfl (lv_at hl 0 rfl) ?_
        refine x_get C hw fl_X12_56 0 rfl rfl (dc d_X12_widest 12 rfl) ?_
        refine lv_iload_n hx hb (dc d_X12_widest 13 rfl) rfl (lv_at hl 2 rfl) ?_
        have hi := grd_b hf
        have hf := grd_x hf
        refine x_iald C hw 16 rfl hi (dc d_X12_widest 14 rfl) ?_
        refine lv_isub hx hb (dc d_X12_widest 15 rfl) ?_
        refine lv_aload_n hx hb (dc d_X12_widest 16 rfl) rfl (lv_at hl 0 rfl) ?_
        refine x_get C hw fl_X12_59 0 rfl rfl (dc d_X12_widest 17 rfl) ?_
        refine lv_iload_n hx hb (dc d_X12_widest 18 rfl) rfl (lv_at hl 1 rfl) ?_
        have hi := grd_b hf
        have hf := grd_x hf
        refine x_iald C hw 17 rfl hi (dc d_X12_widest 19 rfl) ?_
        refine lv_aload_n hx hb (dc d_X12_widest 20 rfl) rfl (lv_at hl 0 rfl) ?_
        refine x_get C hw fl_X12_56 0 rfl rfl (dc d_X12_widest 21 rfl) ?_
        refine lv_iload_n hx hb (dc d_X12_widest 22 rfl) rfl (lv_at hl 1 rfl) ?_
        have hi := grd_b hf
        have hf := grd_x hf
        refine x_iald C hw 16 rfl hi (dc d_X12_widest 23 rfl) ?_
        refine lv_isub hx hb (dc d_X12_widest 24 rfl) ?_
        refine lv_icmp_le (tgt := 43) hx hb (dc d_X12_widest 25 rfl) (by decide) (fun c2 => ?_) (fun c2 => ?_)
        · have hf := g_t hf c2
          refine lv_iload_n hx hb (dc d_X12_widest 28 rfl) rfl (lv_at hl 1 rfl) ?_
          refine lv_istore_n (lv' := [(1, .int v1), (0, .ref tq0), (2, .int v2)]) hx hb (dc d_X12_widest 29 rfl) rfl hl (by decide) rfl (fun ls hl => ?_)
          refine lv_iinc (v := (v2 + (1 : Int32))) (lv' := [(2, .int (v2 + (1 : Int32))), (1, .int v1), (0, .ref tq0)]) hx hb (dc d_X12_widest 30 rfl) hl (k := 2) rfl (ii (by decide)) (by decide) rfl (fun ls hl => ?_)
          refine lv_goto (tgt := 4) hx hb (dc d_X12_widest 31 rfl) (by decide) ?_
          exact ih v1 (v2 + (1 : Int32)) _ _ _ hw (lv_sub hl [2, 1, 0] rfl) hf
        · have hf := g_f hf c2
          refine lv_iload_n hx hb (dc d_X12_widest 26 rfl) rfl (lv_at hl 2 rfl) ?_
          refine lv_goto (tgt := 44) hx hb (dc d_X12_widest 27 rfl) (by decide) ?_
          refine lv_istore_n (lv' := [(1, .int v2), (0, .ref tq0), (2, .int v2)]) hx hb (dc d_X12_widest 29 rfl) rfl hl (by decide) rfl (fun ls hl => ?_)
          refine lv_iinc (v := (v2 + (1 : Int32))) (lv' := [(2, .int (v2 + (1 : Int32))), (1, .int v2), (0, .ref tq0)]) hx hb (dc d_X12_widest 30 rfl) hl (k := 2) rfl (ii (by decide)) (by decide) rfl (fun ls hl => ?_)
          refine lv_goto (tgt := 4) hx hb (dc d_X12_widest 31 rfl) (by decide) ?_
          exact ih v2 (v2 + (1 : Int32)) _ _ _ hw (lv_sub hl [2, 1, 0] rfl) hf
  refine lv_iconst (v := (1 : Int32)) hx hb (dc d_X12_widest 0 rfl) (by decide) ?_
  refine lv_istore_n (lv' := [(1, .int (1 : Int32)), (0, .ref tq0)]) hx hb (dc d_X12_widest 1 rfl) rfl hl (by decide) rfl (fun ls hl => ?_)
  refine lv_iconst (v := (2 : Int32)) hx hb (dc d_X12_widest 2 rfl) (by decide) ?_
  refine lv_istore_n (lv' := [(2, .int (2 : Int32)), (1, .int (1 : Int32)), (0, .ref tq0)]) hx hb (dc d_X12_widest 3 rfl) rfl hl (by decide) rfl (fun ls hl => ?_)
  exact L4  n (1 : Int32) (2 : Int32) _ _ _ hw (lv_sub hl [2, 1, 0] rfl) hf
set_option maxHeartbeats 4000000 in
set_option maxRecDepth 100000 in
theorem k_X12_weld (n : Nat) {l : Launch} {D : va_G} {cI cC cZ : ClassId} {tq0 tq1 tq2 tq3 tq4 tq5 tq6 tq7 tq8 tq9 tq10 tq11 tq12 tq13 tq14 tq15 tq16 tq17 tq18 tq19 tq20 tq21 tq22 tq23 tq24 : Nat} {t_signs : Nat → Int32} {t_signMany : Int32} {t_lineOf : Nat → Int32} {t_strengthOf : Nat → Int32} {t_waterOf : Nat → Int32} {t_backOf : Nat → Int32} {t_passes : Int32} {t_tried : Int32} {t_table : Nat → Int32} {t_numbers : Nat → Int32} {t_bends : Nat → Int32} {t_wished : Nat → Int32} {t_itemLine : Nat → Int32} {t_itemStrength : Nat → Int32} {t_itemWater : Nat → Int32} {t_itemBack : Nat → Int32} {t_items : Int32} {t_worstThen : Int32} {t_reading : Nat → Int32} {t_isRead : Nat → Int32} {t_readSum : Int32} {t_readMany : Int32} {t_spanLow : Nat → Int32} {t_spanHigh : Nat → Int32} {t_weldLine : Nat → Int32} {t_weldPull : Nat → Int32} {t_welds : Int32} {t_orderOf : Nat → Int32} {t_bestOrder : Nat → Int32} {t_smithOf : Nat → Int32} {t_bestSmith : Nat → Int32} {t_busy : Nat → Int32} {x1 : Int32} {x2 : Int32} {o : Int32 × (Nat → Int32) × (Nat → Int32) × Int32} (hf : f_X12_weld n t_weldLine t_weldPull t_welds x1 x2 = some o) : Ctr l yX12_weld cX12_weld 3 (some .int) 2 45 D cI cC cZ [.ref tq0, .int x1, .int x2] (w_X12 cI cC cZ tq0 tq1 tq2 tq3 tq4 tq5 tq6 tq7 tq8 tq9 tq10 tq11 tq12 tq13 tq14 tq15 tq16 tq17 tq18 tq19 tq20 tq21 tq22 tq23 tq24 t_signs t_signMany t_lineOf t_strengthOf t_waterOf t_backOf t_passes t_tried t_table t_numbers t_bends t_wished t_itemLine t_itemStrength t_itemWater t_itemBack t_items t_worstThen t_reading t_isRead t_readSum t_readMany t_spanLow t_spanHigh t_weldLine t_weldPull t_welds t_orderOf t_bestOrder t_smithOf t_bestSmith t_busy) (w_X12 cI cC cZ tq0 tq1 tq2 tq3 tq4 tq5 tq6 tq7 tq8 tq9 tq10 tq11 tq12 tq13 tq14 tq15 tq16 tq17 tq18 tq19 tq20 tq21 tq22 tq23 tq24 t_signs t_signMany t_lineOf t_strengthOf t_waterOf t_backOf t_passes t_tried t_table t_numbers t_bends t_wished t_itemLine t_itemStrength t_itemWater t_itemBack t_items t_worstThen t_reading t_isRead t_readSum t_readMany t_spanLow t_spanHigh o.2.1 o.2.2.1 o.2.2.2 t_orderOf t_bestOrder t_smithOf t_bestSmith t_busy) (some (.int o.1)) := by
  refine Ctr.of (by decide) (Nat.le_of_ble_eq_true rfl) ?_
  intro p e s m args below meth c ls A Q hA hQ C hl hw
  have hx := C.1
  have hb := C.2.1
  have hl : lv_has ls 3 [(0, .ref tq0), (1, .int x1), (2, .int x2)] := hl
  refine lv_iload_n hx hb (dc d_X12_weld 0 rfl) rfl (lv_at hl 1 rfl) ?_
  obtain ⟨q1, hq1, hf⟩ := g_bd hf
  refine x_callS C hw mb_X12_isLine ms_X12_isLine ml_X12_143 (k_X12_isLine n hq1) hl.1 rfl rfl [] rfl rfl rfl (Nat.le_of_ble_eq_true rfl) (Nat.le_of_ble_eq_true rfl) (Nat.le_of_ble_eq_true rfl) (dc d_X12_weld 1 rfl) (fun H locs hw => ?_)
  refine W.eq (g2 := F0 m 4 ls [.int q1]) rfl ?_
  have hw : Wd D A s.heap (w_X12 cI cC cZ tq0 tq1 tq2 tq3 tq4 tq5 tq6 tq7 tq8 tq9 tq10 tq11 tq12 tq13 tq14 tq15 tq16 tq17 tq18 tq19 tq20 tq21 tq22 tq23 tq24 t_signs t_signMany t_lineOf t_strengthOf t_waterOf t_backOf t_passes t_tried t_table t_numbers t_bends t_wished t_itemLine t_itemStrength t_itemWater t_itemBack t_items t_worstThen t_reading t_isRead t_readSum t_readMany t_spanLow t_spanHigh t_weldLine t_weldPull t_welds t_orderOf t_bestOrder t_smithOf t_bestSmith t_busy) H locs := hw
  refine lv_if_ne (tgt := 9) hx hb (dc d_X12_weld 2 rfl) (by decide) (fun c2 => ?_) (fun c2 => ?_)
  · have hf := g_f hf c2
    refine lv_iload_n hx hb (dc d_X12_weld 5 rfl) rfl (lv_at hl 2 rfl) ?_
    refine lv_i2l (v := x2.toInt64) hx hb (dc d_X12_weld 6 rfl) rfl ?_
    refine x_ldc2 (v := (-500 : Int64)) C cn_X12_239 (dc d_X12_weld 7 rfl) ?_
    refine x_ldc2 (v := (500 : Int64)) C cn_X12_241 (dc d_X12_weld 8 rfl) ?_
    obtain ⟨q3, hq3, hf⟩ := g_bd hf
    refine x_callS C hw mb_X12_in ms_X12_in ml_X12_85 (k_X12_in n hq3) hl.1 rfl rfl [] rfl rfl rfl (Nat.le_of_ble_eq_true rfl) (Nat.le_of_ble_eq_true rfl) (Nat.le_of_ble_eq_true rfl) (dc d_X12_weld 9 rfl) (fun H locs hw => ?_)
    refine W.eq (g2 := F0 m 20 ls [.int q3]) rfl ?_
    have hw : Wd D A s.heap (w_X12 cI cC cZ tq0 tq1 tq2 tq3 tq4 tq5 tq6 tq7 tq8 tq9 tq10 tq11 tq12 tq13 tq14 tq15 tq16 tq17 tq18 tq19 tq20 tq21 tq22 tq23 tq24 t_signs t_signMany t_lineOf t_strengthOf t_waterOf t_backOf t_passes t_tried t_table t_numbers t_bends t_wished t_itemLine t_itemStrength t_itemWater t_itemBack t_items t_worstThen t_reading t_isRead t_readSum t_readMany t_spanLow t_spanHigh t_weldLine t_weldPull t_welds t_orderOf t_bestOrder t_smithOf t_bestSmith t_busy) H locs := hw
    refine lv_if_ne (tgt := 26) hx hb (dc d_X12_weld 10 rfl) (by decide) (fun c4 => ?_) (fun c4 => ?_)
    · have hf := g_f hf c4
      refine lv_aload_n hx hb (dc d_X12_weld 13 rfl) rfl (lv_at hl 0 rfl) ?_
      refine x_get C hw fl_X12_243 0 rfl rfl (dc d_X12_weld 14 rfl) ?_
      refine lv_bipush (v := (7 : Int32)) hx hb (dc d_X12_weld 15 rfl) (by decide) ?_
      refine lv_icmp_ne (tgt := 38) hx hb (dc d_X12_weld 16 rfl) (by decide) (fun c5 => ?_) (fun c5 => ?_)
      · have hf := g_f hf c5
        refine lv_aload_n hx hb (dc d_X12_weld 19 rfl) rfl (lv_at hl 0 rfl) ?_
        refine x_get C hw fl_X12_62 0 rfl rfl (dc d_X12_weld 20 rfl) ?_
        refine lv_aload_n hx hb (dc d_X12_weld 21 rfl) rfl (lv_at hl 0 rfl) ?_
        refine x_get C hw fl_X12_243 0 rfl rfl (dc d_X12_weld 22 rfl) ?_
        refine lv_iload_n hx hb (dc d_X12_weld 23 rfl) rfl (lv_at hl 1 rfl) ?_
        have hi := grd_b hf
        have hf := grd_x hf
        refine x_iast C hw 18 rfl hi (dc d_X12_weld 24 rfl) (fun H locs hw => ?_)
        dsimp only [w_X12, mix, List.set_cons_succ, List.set_cons_zero] at hw
        have hw : Wd D A s.heap (w_X12 cI cC cZ tq0 tq1 tq2 tq3 tq4 tq5 tq6 tq7 tq8 tq9 tq10 tq11 tq12 tq13 tq14 tq15 tq16 tq17 tq18 tq19 tq20 tq21 tq22 tq23 tq24 t_signs t_signMany t_lineOf t_strengthOf t_waterOf t_backOf t_passes t_tried t_table t_numbers t_bends t_wished t_itemLine t_itemStrength t_itemWater t_itemBack t_items t_worstThen t_reading t_isRead t_readSum t_readMany t_spanLow t_spanHigh (upd t_weldLine t_welds.toNatClampNeg x1) t_weldPull t_welds t_orderOf t_bestOrder t_smithOf t_bestSmith t_busy) H locs := hw
        refine lv_aload_n hx hb (dc d_X12_weld 25 rfl) rfl (lv_at hl 0 rfl) ?_
        refine x_get C hw fl_X12_65 0 rfl rfl (dc d_X12_weld 26 rfl) ?_
        refine lv_aload_n hx hb (dc d_X12_weld 27 rfl) rfl (lv_at hl 0 rfl) ?_
        refine x_get C hw fl_X12_243 0 rfl rfl (dc d_X12_weld 28 rfl) ?_
        refine lv_iload_n hx hb (dc d_X12_weld 29 rfl) rfl (lv_at hl 2 rfl) ?_
        have hi := grd_b hf
        have hf := grd_x hf
        refine x_iast C hw 19 rfl hi (dc d_X12_weld 30 rfl) (fun H locs hw => ?_)
        dsimp only [w_X12, mix, List.set_cons_succ, List.set_cons_zero] at hw
        have hw : Wd D A s.heap (w_X12 cI cC cZ tq0 tq1 tq2 tq3 tq4 tq5 tq6 tq7 tq8 tq9 tq10 tq11 tq12 tq13 tq14 tq15 tq16 tq17 tq18 tq19 tq20 tq21 tq22 tq23 tq24 t_signs t_signMany t_lineOf t_strengthOf t_waterOf t_backOf t_passes t_tried t_table t_numbers t_bends t_wished t_itemLine t_itemStrength t_itemWater t_itemBack t_items t_worstThen t_reading t_isRead t_readSum t_readMany t_spanLow t_spanHigh (upd t_weldLine t_welds.toNatClampNeg x1) (upd t_weldPull t_welds.toNatClampNeg x2) t_welds t_orderOf t_bestOrder t_smithOf t_bestSmith t_busy) H locs := hw
        refine lv_aload_n hx hb (dc d_X12_weld 31 rfl) rfl (lv_at hl 0 rfl) ?_
        refine lv_dup hx hb (dc d_X12_weld 32 rfl) rfl ?_
        refine x_get C hw fl_X12_243 0 rfl rfl (dc d_X12_weld 33 rfl) ?_
        refine lv_iconst (v := (1 : Int32)) hx hb (dc d_X12_weld 34 rfl) (by decide) ?_
        refine lv_iadd hx hb (dc d_X12_weld 35 rfl) ?_
        refine x_put C hw fl_X12_243 fw_X12_26 0 rfl rfl rfl (Nat.le_of_ble_eq_true rfl) (dc d_X12_weld 36 rfl) (fun H locs hw => ?_)
        dsimp only [w_X12, mix, List.set_cons_succ, List.set_cons_zero] at hw
        have hw : Wd D A s.heap (w_X12 cI cC cZ tq0 tq1 tq2 tq3 tq4 tq5 tq6 tq7 tq8 tq9 tq10 tq11 tq12 tq13 tq14 tq15 tq16 tq17 tq18 tq19 tq20 tq21 tq22 tq23 tq24 t_signs t_signMany t_lineOf t_strengthOf t_waterOf t_backOf t_passes t_tried t_table t_numbers t_bends t_wished t_itemLine t_itemStrength t_itemWater t_itemBack t_items t_worstThen t_reading t_isRead t_readSum t_readMany t_spanLow t_spanHigh (upd t_weldLine t_welds.toNatClampNeg x1) (upd t_weldPull t_welds.toNatClampNeg x2) (t_welds + (1 : Int32)) t_orderOf t_bestOrder t_smithOf t_bestSmith t_busy) H locs := hw
        refine lv_aload_n hx hb (dc d_X12_weld 37 rfl) rfl (lv_at hl 0 rfl) ?_
        refine x_get C hw fl_X12_243 0 rfl rfl (dc d_X12_weld 38 rfl) ?_
        refine lv_iconst (v := (1 : Int32)) hx hb (dc d_X12_weld 39 rfl) (by decide) ?_
        refine lv_isub hx hb (dc d_X12_weld 40 rfl) ?_
        cases hf
        exact x_iret C hA hQ hw rfl rfl (dc d_X12_weld 41 rfl)
      · have hf := g_t hf c5
        refine lv_bipush (v := (-4 : Int32)) hx hb (dc d_X12_weld 17 rfl) (by decide) ?_
        cases hf
        exact x_iret C hA hQ hw rfl rfl (dc d_X12_weld 18 rfl)
    · have hf := g_t hf c4
      refine lv_bipush (v := (-2 : Int32)) hx hb (dc d_X12_weld 11 rfl) (by decide) ?_
      cases hf
      exact x_iret C hA hQ hw rfl rfl (dc d_X12_weld 12 rfl)
  · have hf := g_t hf c2
    refine lv_iconst (v := (-1 : Int32)) hx hb (dc d_X12_weld 3 rfl) (by decide) ?_
    cases hf
    exact x_iret C hA hQ hw rfl rfl (dc d_X12_weld 4 rfl)
set_option maxHeartbeats 4000000 in
set_option maxRecDepth 100000 in
theorem k_X12_worstByOrder (n : Nat) {l : Launch} {D : va_G} {cI cC cZ : ClassId} {tq0 tq1 tq2 tq3 tq4 tq5 tq6 tq7 tq8 tq9 tq10 tq11 tq12 tq13 tq14 tq15 tq16 tq17 tq18 tq19 tq20 tq21 tq22 tq23 tq24 : Nat} {t_signs : Nat → Int32} {t_signMany : Int32} {t_lineOf : Nat → Int32} {t_strengthOf : Nat → Int32} {t_waterOf : Nat → Int32} {t_backOf : Nat → Int32} {t_passes : Int32} {t_tried : Int32} {t_table : Nat → Int32} {t_numbers : Nat → Int32} {t_bends : Nat → Int32} {t_wished : Nat → Int32} {t_itemLine : Nat → Int32} {t_itemStrength : Nat → Int32} {t_itemWater : Nat → Int32} {t_itemBack : Nat → Int32} {t_items : Int32} {t_worstThen : Int32} {t_reading : Nat → Int32} {t_isRead : Nat → Int32} {t_readSum : Int32} {t_readMany : Int32} {t_spanLow : Nat → Int32} {t_spanHigh : Nat → Int32} {t_weldLine : Nat → Int32} {t_weldPull : Nat → Int32} {t_welds : Int32} {t_orderOf : Nat → Int32} {t_bestOrder : Nat → Int32} {t_smithOf : Nat → Int32} {t_bestSmith : Nat → Int32} {t_busy : Nat → Int32}  {o : Int32 × (Nat → Int32)} (hf : f_X12_worstByOrder n t_lineOf t_strengthOf t_waterOf t_backOf t_passes t_table t_numbers t_bends t_wished t_weldLine t_weldPull t_welds t_orderOf = some o) : Ctr l yX12_worstByOrder cX12_worstByOrder 3 (some .int) 4 90 D cI cC cZ [.ref tq0] (w_X12 cI cC cZ tq0 tq1 tq2 tq3 tq4 tq5 tq6 tq7 tq8 tq9 tq10 tq11 tq12 tq13 tq14 tq15 tq16 tq17 tq18 tq19 tq20 tq21 tq22 tq23 tq24 t_signs t_signMany t_lineOf t_strengthOf t_waterOf t_backOf t_passes t_tried t_table t_numbers t_bends t_wished t_itemLine t_itemStrength t_itemWater t_itemBack t_items t_worstThen t_reading t_isRead t_readSum t_readMany t_spanLow t_spanHigh t_weldLine t_weldPull t_welds t_orderOf t_bestOrder t_smithOf t_bestSmith t_busy) (w_X12 cI cC cZ tq0 tq1 tq2 tq3 tq4 tq5 tq6 tq7 tq8 tq9 tq10 tq11 tq12 tq13 tq14 tq15 tq16 tq17 tq18 tq19 tq20 tq21 tq22 tq23 tq24 t_signs t_signMany t_lineOf t_strengthOf t_waterOf t_backOf t_passes t_tried t_table t_numbers o.2 t_wished t_itemLine t_itemStrength t_itemWater t_itemBack t_items t_worstThen t_reading t_isRead t_readSum t_readMany t_spanLow t_spanHigh t_weldLine t_weldPull t_welds t_orderOf t_bestOrder t_smithOf t_bestSmith t_busy) (some (.int o.1)) := by
  refine Ctr.of (by decide) (Nat.le_of_ble_eq_true rfl) ?_
  intro p e s m args below meth c ls A Q hA hQ C hl hw
  have hx := C.1
  have hb := C.2.1
  have hl : lv_has ls 3 [(0, .ref tq0)] := hl
  have L10 : ∀ (n : Nat), ∀ (t_bends : Nat → Int32) (v1 : Int32) (H : Heap) (locs : List Loc) (ls : Array Slot), Wd D A s.heap (w_X12 cI cC cZ tq0 tq1 tq2 tq3 tq4 tq5 tq6 tq7 tq8 tq9 tq10 tq11 tq12 tq13 tq14 tq15 tq16 tq17 tq18 tq19 tq20 tq21 tq22 tq23 tq24 t_signs t_signMany t_lineOf t_strengthOf t_waterOf t_backOf t_passes t_tried t_table t_numbers t_bends t_wished t_itemLine t_itemStrength t_itemWater t_itemBack t_items t_worstThen t_reading t_isRead t_readSum t_readMany t_spanLow t_spanHigh t_weldLine t_weldPull t_welds t_orderOf t_bestOrder t_smithOf t_bestSmith t_busy) H locs → lv_has ls 3 [(0, .ref tq0), (1, .int v1)] → f_X12_worstByOrder_10 t_lineOf t_strengthOf t_waterOf t_backOf t_passes t_table t_numbers t_wished t_weldLine t_weldPull t_welds t_orderOf  n t_bends v1 = some o → W p l e (rmOf 4 90) s m args below meth c H locs 0 0 Q (F0 m 10 ls []) := by
    intro  n
    induction n with
    | zero => intro t_bends v1 H locs ls hw hl hf; exact (no_none hf).elim
    | succ n ih =>
      intro t_bends v1 H locs ls hw hl hf
      have hf : f_X12_worstByOrder_10b t_lineOf t_strengthOf t_waterOf t_backOf t_passes t_table t_numbers t_wished t_weldLine t_weldPull t_welds t_orderOf  (f_X12_worstByOrder_10 t_lineOf t_strengthOf t_waterOf t_backOf t_passes t_table t_numbers t_wished t_weldLine t_weldPull t_welds t_orderOf  n) n t_bends v1 = some o := hf
      generalize f_X12_worstByOrder_10 t_lineOf t_strengthOf t_waterOf t_backOf t_passes t_table t_numbers t_wished t_weldLine t_weldPull t_welds t_orderOf  n = k10 at hf ih
      refine lv_iload_n hx hb (dc d_X12_worstByOrder 6 rfl) rfl (lv_at hl 1 rfl) ?_
      refine lv_aload_n hx hb (dc d_X12_worstByOrder 7 rfl) rfl (lv_at hl 0 rfl) ?_
      refine x_get C hw fl_X12_243 0 rfl rfl (dc d_X12_worstByOrder 8 rfl) ?_
      refine lv_icmp_ge (tgt := 79) hx hb (dc d_X12_worstByOrder 9 rfl) (by decide) (fun c2 => ?_) (fun c2 => ?_)
      · have hf := g_t hf c2
        refine lv_aload_n hx hb (dc d_X12_worstByOrder 49 rfl) rfl (lv_at hl 0 rfl) ?_
        obtain ⟨q3, hq3, hf⟩ := g_bd hf
        refine x_callVa C hw mb_X12_worstOf mv_X12_worstOf ml_X12_173 (k_X12_worstOf n hq3) hl.1 rfl rfl rfl 0 12 rfl rfl (Nat.le_of_ble_eq_true rfl) (Nat.le_of_ble_eq_true rfl) (Nat.le_of_ble_eq_true rfl) (dc d_X12_worstByOrder 50 rfl) (fun H locs hw => ?_)
        refine W.eq (g2 := F0 m 83 ls [.int q3]) rfl ?_
        have hw : Wd D A s.heap (w_X12 cI cC cZ tq0 tq1 tq2 tq3 tq4 tq5 tq6 tq7 tq8 tq9 tq10 tq11 tq12 tq13 tq14 tq15 tq16 tq17 tq18 tq19 tq20 tq21 tq22 tq23 tq24 t_signs t_signMany t_lineOf t_strengthOf t_waterOf t_backOf t_passes t_tried t_table t_numbers t_bends t_wished t_itemLine t_itemStrength t_itemWater t_itemBack t_items t_worstThen t_reading t_isRead t_readSum t_readMany t_spanLow t_spanHigh t_weldLine t_weldPull t_welds t_orderOf t_bestOrder t_smithOf t_bestSmith t_busy) H locs := hw
        cases hf
        exact x_iret C hA hQ hw rfl rfl (dc d_X12_worstByOrder 51 rfl)
      · have hf := g_f hf c2
        refine lv_bipush (v := (100 : Int32)) hx hb (dc d_X12_worstByOrder 10 rfl) (by decide) ?_
        refine lv_aload_n hx hb (dc d_X12_worstByOrder 11 rfl) rfl (lv_at hl 0 rfl) ?_
        refine x_get C hw fl_X12_28 0 rfl rfl (dc d_X12_worstByOrder 12 rfl) ?_
        refine lv_iconst (v := (5 : Int32)) hx hb (dc d_X12_worstByOrder 13 rfl) (by decide) ?_
        refine x_iald C hw 7 rfl (by decide) (dc d_X12_worstByOrder 14 rfl) ?_
        refine lv_iload_n hx hb (dc d_X12_worstByOrder 15 rfl) rfl (lv_at hl 1 rfl) ?_
        refine lv_imul hx hb (dc d_X12_worstByOrder 16 rfl) ?_
        refine lv_isub hx hb (dc d_X12_worstByOrder 17 rfl) ?_
        refine lv_topi (fun y4 ey4 => ?_)
        have hf := g_nm hf ey4
        refine lv_istore_n (lv' := [(2, .int y4), (0, .ref tq0), (1, .int v1)]) hx hb (dc d_X12_worstByOrder 18 rfl) rfl hl (by decide) rfl (fun ls hl => ?_)
        refine lv_aload_n hx hb (dc d_X12_worstByOrder 19 rfl) rfl (lv_at hl 1 rfl) ?_
        refine x_get C hw fl_X12_31 0 rfl rfl (dc d_X12_worstByOrder 20 rfl) ?_
        refine lv_aload_n hx hb (dc d_X12_worstByOrder 21 rfl) rfl (lv_at hl 1 rfl) ?_
        refine x_get C hw fl_X12_62 0 rfl rfl (dc d_X12_worstByOrder 22 rfl) ?_
        refine lv_aload_n hx hb (dc d_X12_worstByOrder 23 rfl) rfl (lv_at hl 1 rfl) ?_
        refine x_get C hw fl_X12_68 0 rfl rfl (dc d_X12_worstByOrder 24 rfl) ?_
        refine lv_iload_n hx hb (dc d_X12_worstByOrder 25 rfl) rfl (lv_at hl 2 rfl) ?_
        have hi := grd_b hf
        have hf := grd_x hf
        refine x_iald C hw 20 rfl hi (dc d_X12_worstByOrder 26 rfl) ?_
        have hi := grd_b hf
        have hf := grd_x hf
        refine x_iald C hw 18 rfl hi (dc d_X12_worstByOrder 27 rfl) ?_
        refine lv_dup2_11 hx hb (dc d_X12_worstByOrder 28 rfl) rfl rfl ?_
        have hi := grd_b hf
        have hf := grd_x hf
        refine x_iald C hw 8 rfl hi (dc d_X12_worstByOrder 29 rfl) ?_
        refine lv_aload_n hx hb (dc d_X12_worstByOrder 30 rfl) rfl (lv_at hl 1 rfl) ?_
        refine x_get C hw fl_X12_65 0 rfl rfl (dc d_X12_worstByOrder 31 rfl) ?_
        refine lv_aload_n hx hb (dc d_X12_worstByOrder 32 rfl) rfl (lv_at hl 1 rfl) ?_
        refine x_get C hw fl_X12_68 0 rfl rfl (dc d_X12_worstByOrder 33 rfl) ?_
        refine lv_iload_n hx hb (dc d_X12_worstByOrder 34 rfl) rfl (lv_at hl 2 rfl) ?_
        have hi := grd_b hf
        have hf := grd_x hf
        refine x_iald C hw 20 rfl hi (dc d_X12_worstByOrder 35 rfl) ?_
        have hi := grd_b hf
        have hf := grd_x hf
        refine x_iald C hw 19 rfl hi (dc d_X12_worstByOrder 36 rfl) ?_
        refine lv_iload_n hx hb (dc d_X12_worstByOrder 37 rfl) rfl (lv_at hl 0 rfl) ?_
        refine lv_if_ge (tgt := 66) hx hb (dc d_X12_worstByOrder 38 rfl) (by decide) (fun c5 => ?_) (fun c5 => ?_)
        · have hf := g_t hf c5
          refine lv_iload_n hx hb (dc d_X12_worstByOrder 41 rfl) rfl (lv_at hl 0 rfl) ?_
          refine lv_imul hx hb (dc d_X12_worstByOrder 42 rfl) ?_
          refine lv_bipush (v := (100 : Int32)) hx hb (dc d_X12_worstByOrder 43 rfl) (by decide) ?_
          refine x_div hx hb (dc d_X12_worstByOrder 44 rfl) (by decide) ?_
          refine lv_iadd hx hb (dc d_X12_worstByOrder 45 rfl) ?_
          have hi := grd_b hf
          have hf := grd_x hf
          refine x_iast C hw 8 rfl hi (dc d_X12_worstByOrder 46 rfl) (fun H locs hw => ?_)
          dsimp only [w_X12, mix, List.set_cons_succ, List.set_cons_zero] at hw
          have hw : Wd D A s.heap (w_X12 cI cC cZ tq0 tq1 tq2 tq3 tq4 tq5 tq6 tq7 tq8 tq9 tq10 tq11 tq12 tq13 tq14 tq15 tq16 tq17 tq18 tq19 tq20 tq21 tq22 tq23 tq24 t_signs t_signMany t_lineOf t_strengthOf t_waterOf t_backOf t_passes t_tried t_table t_numbers (upd t_bends (t_weldLine (t_orderOf v1.toNatClampNeg).toNatClampNeg).toNatClampNeg ((t_bends (t_weldLine (t_orderOf v1.toNatClampNeg).toNatClampNeg).toNatClampNeg) + (((t_weldPull (t_orderOf v1.toNatClampNeg).toNatClampNeg) * y4) / (100 : Int32)))) t_wished t_itemLine t_itemStrength t_itemWater t_itemBack t_items t_worstThen t_reading t_isRead t_readSum t_readMany t_spanLow t_spanHigh t_weldLine t_weldPull t_welds t_orderOf t_bestOrder t_smithOf t_bestSmith t_busy) H locs := hw
          refine lv_iinc (v := (v1 + (1 : Int32))) (lv' := [(1, .int (v1 + (1 : Int32))), (2, .int y4), (0, .ref tq0)]) hx hb (dc d_X12_worstByOrder 47 rfl) hl (k := 2) rfl (ii (by decide)) (by decide) rfl (fun ls hl => ?_)
          refine lv_goto (tgt := 10) hx hb (dc d_X12_worstByOrder 48 rfl) (by decide) ?_
          exact ih (upd t_bends (t_weldLine (t_orderOf v1.toNatClampNeg).toNatClampNeg).toNatClampNeg ((t_bends (t_weldLine (t_orderOf v1.toNatClampNeg).toNatClampNeg).toNatClampNeg) + (((t_weldPull (t_orderOf v1.toNatClampNeg).toNatClampNeg) * y4) / (100 : Int32)))) (v1 + (1 : Int32)) _ _ _ hw (lv_sub hl [2, 0] rfl) hf
        · have hf := g_f hf c5
          refine lv_iconst (v := (0 : Int32)) hx hb (dc d_X12_worstByOrder 39 rfl) (by decide) ?_
          refine lv_goto (tgt := 67) hx hb (dc d_X12_worstByOrder 40 rfl) (by decide) ?_
          refine lv_imul hx hb (dc d_X12_worstByOrder 42 rfl) ?_
          refine lv_bipush (v := (100 : Int32)) hx hb (dc d_X12_worstByOrder 43 rfl) (by decide) ?_
          refine x_div hx hb (dc d_X12_worstByOrder 44 rfl) (by decide) ?_
          refine lv_iadd hx hb (dc d_X12_worstByOrder 45 rfl) ?_
          have hi := grd_b hf
          have hf := grd_x hf
          refine x_iast C hw 8 rfl hi (dc d_X12_worstByOrder 46 rfl) (fun H locs hw => ?_)
          dsimp only [w_X12, mix, List.set_cons_succ, List.set_cons_zero] at hw
          have hw : Wd D A s.heap (w_X12 cI cC cZ tq0 tq1 tq2 tq3 tq4 tq5 tq6 tq7 tq8 tq9 tq10 tq11 tq12 tq13 tq14 tq15 tq16 tq17 tq18 tq19 tq20 tq21 tq22 tq23 tq24 t_signs t_signMany t_lineOf t_strengthOf t_waterOf t_backOf t_passes t_tried t_table t_numbers (upd t_bends (t_weldLine (t_orderOf v1.toNatClampNeg).toNatClampNeg).toNatClampNeg ((t_bends (t_weldLine (t_orderOf v1.toNatClampNeg).toNatClampNeg).toNatClampNeg) + (((t_weldPull (t_orderOf v1.toNatClampNeg).toNatClampNeg) * (0 : Int32)) / (100 : Int32)))) t_wished t_itemLine t_itemStrength t_itemWater t_itemBack t_items t_worstThen t_reading t_isRead t_readSum t_readMany t_spanLow t_spanHigh t_weldLine t_weldPull t_welds t_orderOf t_bestOrder t_smithOf t_bestSmith t_busy) H locs := hw
          refine lv_iinc (v := (v1 + (1 : Int32))) (lv' := [(1, .int (v1 + (1 : Int32))), (2, .int y4), (0, .ref tq0)]) hx hb (dc d_X12_worstByOrder 47 rfl) hl (k := 2) rfl (ii (by decide)) (by decide) rfl (fun ls hl => ?_)
          refine lv_goto (tgt := 10) hx hb (dc d_X12_worstByOrder 48 rfl) (by decide) ?_
          exact ih (upd t_bends (t_weldLine (t_orderOf v1.toNatClampNeg).toNatClampNeg).toNatClampNeg ((t_bends (t_weldLine (t_orderOf v1.toNatClampNeg).toNatClampNeg).toNatClampNeg) + (((t_weldPull (t_orderOf v1.toNatClampNeg).toNatClampNeg) * (0 : Int32)) / (100 : Int32)))) (v1 + (1 : Int32)) _ _ _ hw (lv_sub hl [2, 0] rfl) hf
  refine lv_aload_n hx hb (dc d_X12_worstByOrder 0 rfl) rfl (lv_at hl 0 rfl) ?_
  refine lv_aload_n hx hb (dc d_X12_worstByOrder 1 rfl) rfl (lv_at hl 0 rfl) ?_
  refine x_get C hw fl_X12_113 0 rfl rfl (dc d_X12_worstByOrder 2 rfl) ?_
  obtain ⟨q1, hq1, hf⟩ := g_bd hf
  refine x_callVa C hw mb_X12_findBends mv_X12_findBends ml_X12_148 (k_X12_findBends n hq1) hl.1 rfl rfl rfl 0 12 rfl rfl (Nat.le_of_ble_eq_true rfl) (Nat.le_of_ble_eq_true rfl) (Nat.le_of_ble_eq_true rfl) (dc d_X12_worstByOrder 3 rfl) (fun H locs hw => ?_)
  refine W.eq (g2 := F0 m 8 ls []) rfl ?_
  have hw : Wd D A s.heap (w_X12 cI cC cZ tq0 tq1 tq2 tq3 tq4 tq5 tq6 tq7 tq8 tq9 tq10 tq11 tq12 tq13 tq14 tq15 tq16 tq17 tq18 tq19 tq20 tq21 tq22 tq23 tq24 t_signs t_signMany t_lineOf t_strengthOf t_waterOf t_backOf t_passes t_tried t_table t_numbers q1 t_wished t_itemLine t_itemStrength t_itemWater t_itemBack t_items t_worstThen t_reading t_isRead t_readSum t_readMany t_spanLow t_spanHigh t_weldLine t_weldPull t_welds t_orderOf t_bestOrder t_smithOf t_bestSmith t_busy) H locs := hw
  refine lv_iconst (v := (0 : Int32)) hx hb (dc d_X12_worstByOrder 4 rfl) (by decide) ?_
  refine lv_istore_n (lv' := [(1, .int (0 : Int32)), (0, .ref tq0)]) hx hb (dc d_X12_worstByOrder 5 rfl) rfl hl (by decide) rfl (fun ls hl => ?_)
  exact L10  n q1 (0 : Int32) _ _ _ hw (lv_sub hl [1, 0] rfl) hf
set_option maxHeartbeats 4000000 in
set_option maxRecDepth 100000 in
theorem k_X12_exchange (n : Nat) {l : Launch} {D : va_G} {cI cC cZ : ClassId} {tq0 tq1 tq2 tq3 tq4 tq5 tq6 tq7 tq8 tq9 tq10 tq11 tq12 tq13 tq14 tq15 tq16 tq17 tq18 tq19 tq20 tq21 tq22 tq23 tq24 : Nat} {t_signs : Nat → Int32} {t_signMany : Int32} {t_lineOf : Nat → Int32} {t_strengthOf : Nat → Int32} {t_waterOf : Nat → Int32} {t_backOf : Nat → Int32} {t_passes : Int32} {t_tried : Int32} {t_table : Nat → Int32} {t_numbers : Nat → Int32} {t_bends : Nat → Int32} {t_wished : Nat → Int32} {t_itemLine : Nat → Int32} {t_itemStrength : Nat → Int32} {t_itemWater : Nat → Int32} {t_itemBack : Nat → Int32} {t_items : Int32} {t_worstThen : Int32} {t_reading : Nat → Int32} {t_isRead : Nat → Int32} {t_readSum : Int32} {t_readMany : Int32} {t_spanLow : Nat → Int32} {t_spanHigh : Nat → Int32} {t_weldLine : Nat → Int32} {t_weldPull : Nat → Int32} {t_welds : Int32} {t_orderOf : Nat → Int32} {t_bestOrder : Nat → Int32} {t_smithOf : Nat → Int32} {t_bestSmith : Nat → Int32} {t_busy : Nat → Int32} {x1 : Int32} {x2 : Int32} {o : (Nat → Int32)} (hf : f_X12_exchange n t_orderOf x1 x2 = some o) : Ctr l yX12_exchange cX12_exchange 4 none 0 0 D cI cC cZ [.ref tq0, .int x1, .int x2] (w_X12 cI cC cZ tq0 tq1 tq2 tq3 tq4 tq5 tq6 tq7 tq8 tq9 tq10 tq11 tq12 tq13 tq14 tq15 tq16 tq17 tq18 tq19 tq20 tq21 tq22 tq23 tq24 t_signs t_signMany t_lineOf t_strengthOf t_waterOf t_backOf t_passes t_tried t_table t_numbers t_bends t_wished t_itemLine t_itemStrength t_itemWater t_itemBack t_items t_worstThen t_reading t_isRead t_readSum t_readMany t_spanLow t_spanHigh t_weldLine t_weldPull t_welds t_orderOf t_bestOrder t_smithOf t_bestSmith t_busy) (w_X12 cI cC cZ tq0 tq1 tq2 tq3 tq4 tq5 tq6 tq7 tq8 tq9 tq10 tq11 tq12 tq13 tq14 tq15 tq16 tq17 tq18 tq19 tq20 tq21 tq22 tq23 tq24 t_signs t_signMany t_lineOf t_strengthOf t_waterOf t_backOf t_passes t_tried t_table t_numbers t_bends t_wished t_itemLine t_itemStrength t_itemWater t_itemBack t_items t_worstThen t_reading t_isRead t_readSum t_readMany t_spanLow t_spanHigh t_weldLine t_weldPull t_welds o t_bestOrder t_smithOf t_bestSmith t_busy) none := by
  refine Ctr.of (by decide) (Nat.le_of_ble_eq_true rfl) ?_
  intro p e s m args below meth c ls A Q hA hQ C hl hw
  have hx := C.1
  have hb := C.2.1
  have hl : lv_has ls 4 [(0, .ref tq0), (1, .int x1), (2, .int x2)] := hl
  refine lv_aload_n hx hb (dc d_X12_exchange 0 rfl) rfl (lv_at hl 0 rfl) ?_
  refine x_get C hw fl_X12_68 0 rfl rfl (dc d_X12_exchange 1 rfl) ?_
  refine lv_iload_n hx hb (dc d_X12_exchange 2 rfl) rfl (lv_at hl 1 rfl) ?_
  have hi := grd_b hf
  have hf := grd_x hf
  refine x_iald C hw 20 rfl hi (dc d_X12_exchange 3 rfl) ?_
  refine lv_topi (fun y1 ey1 => ?_)
  have hf := g_nm hf ey1
  refine lv_istore_n (lv' := [(3, .int y1), (0, .ref tq0), (1, .int x1), (2, .int x2)]) hx hb (dc d_X12_exchange 4 rfl) rfl hl (by decide) rfl (fun ls hl => ?_)
  refine lv_aload_n hx hb (dc d_X12_exchange 5 rfl) rfl (lv_at hl 1 rfl) ?_
  refine x_get C hw fl_X12_68 0 rfl rfl (dc d_X12_exchange 6 rfl) ?_
  refine lv_iload_n hx hb (dc d_X12_exchange 7 rfl) rfl (lv_at hl 2 rfl) ?_
  refine lv_aload_n hx hb (dc d_X12_exchange 8 rfl) rfl (lv_at hl 1 rfl) ?_
  refine x_get C hw fl_X12_68 0 rfl rfl (dc d_X12_exchange 9 rfl) ?_
  refine lv_iload_n hx hb (dc d_X12_exchange 10 rfl) rfl (lv_at hl 3 rfl) ?_
  have hi := grd_b hf
  have hf := grd_x hf
  refine x_iald C hw 20 rfl hi (dc d_X12_exchange 11 rfl) ?_
  have hi := grd_b hf
  have hf := grd_x hf
  refine x_iast C hw 20 rfl hi (dc d_X12_exchange 12 rfl) (fun H locs hw => ?_)
  dsimp only [w_X12, mix, List.set_cons_succ, List.set_cons_zero] at hw
  have hw : Wd D A s.heap (w_X12 cI cC cZ tq0 tq1 tq2 tq3 tq4 tq5 tq6 tq7 tq8 tq9 tq10 tq11 tq12 tq13 tq14 tq15 tq16 tq17 tq18 tq19 tq20 tq21 tq22 tq23 tq24 t_signs t_signMany t_lineOf t_strengthOf t_waterOf t_backOf t_passes t_tried t_table t_numbers t_bends t_wished t_itemLine t_itemStrength t_itemWater t_itemBack t_items t_worstThen t_reading t_isRead t_readSum t_readMany t_spanLow t_spanHigh t_weldLine t_weldPull t_welds (upd t_orderOf x1.toNatClampNeg (t_orderOf x2.toNatClampNeg)) t_bestOrder t_smithOf t_bestSmith t_busy) H locs := hw
  refine lv_aload_n hx hb (dc d_X12_exchange 13 rfl) rfl (lv_at hl 1 rfl) ?_
  refine x_get C hw fl_X12_68 0 rfl rfl (dc d_X12_exchange 14 rfl) ?_
  refine lv_iload_n hx hb (dc d_X12_exchange 15 rfl) rfl (lv_at hl 3 rfl) ?_
  refine lv_iload_n hx hb (dc d_X12_exchange 16 rfl) rfl (lv_at hl 0 rfl) ?_
  have hi := grd_b hf
  have hf := grd_x hf
  refine x_iast C hw 20 rfl hi (dc d_X12_exchange 17 rfl) (fun H locs hw => ?_)
  dsimp only [w_X12, mix, List.set_cons_succ, List.set_cons_zero] at hw
  have hw : Wd D A s.heap (w_X12 cI cC cZ tq0 tq1 tq2 tq3 tq4 tq5 tq6 tq7 tq8 tq9 tq10 tq11 tq12 tq13 tq14 tq15 tq16 tq17 tq18 tq19 tq20 tq21 tq22 tq23 tq24 t_signs t_signMany t_lineOf t_strengthOf t_waterOf t_backOf t_passes t_tried t_table t_numbers t_bends t_wished t_itemLine t_itemStrength t_itemWater t_itemBack t_items t_worstThen t_reading t_isRead t_readSum t_readMany t_spanLow t_spanHigh t_weldLine t_weldPull t_welds (upd (upd t_orderOf x1.toNatClampNeg (t_orderOf x2.toNatClampNeg)) x2.toNatClampNeg y1) t_bestOrder t_smithOf t_bestSmith t_busy) H locs := hw
  cases hf
  exact x_vret C hA hQ hw rfl rfl (dc d_X12_exchange 18 rfl)
