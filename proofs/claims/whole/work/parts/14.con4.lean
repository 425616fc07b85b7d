/-! Written by wip/gen/all.py. -/
set_option maxHeartbeats 4000000 in
set_option maxRecDepth 100000 in
theorem k_X11_shared (n : Nat) {l : Launch} {D : va_G} {cI cC cZ : ClassId} {tq0 tq1 tq2 tq3 tq4 tq5 tq6 tq7 tq8 tq9 tq10 tq11 tq12 tq13 tq14 tq15 tq16 tq17 tq18 tq19 tq20 tq21 tq22 tq23 tq24 tq25 tq26 tq27 tq28 tq29 tq30 tq31 tq32 tq33 tq34 tq35 tq36 tq37 tq38 tq39 tq40 tq41 tq42 tq43 tq44 tq45 tq46 tq47 tq48 tq49 tq50 tq51 : Nat} {t_orders_signs : Nat → Int32} {t_orders_count : Int32} {t_rules_settings : Nat → Int32} {t_rules_numbers : Nat → Int32} {t_work_room : Int32} {t_work_line : Nat → Int32} {t_work_strength : Nat → Int32} {t_work_water : Nat → Int32} {t_work_back : Nat → Int32} {t_work_count : Int32} {t_shape_bends : Nat → Int32} {t_shape_laid : Nat → Int32} {t_shape_across : Nat → Int32} {t_shape_along : Nat → Int32} {t_wished_heights : Nat → Int32} {t_wished_hung : Nat → Int32} {t_planner_items_room : Int32} {t_planner_items_line : Nat → Int32} {t_planner_items_strength : Nat → Int32} {t_planner_items_water : Nat → Int32} {t_planner_items_back : Nat → Int32} {t_planner_items_count : Int32} {t_planner_trial_bends : Nat → Int32} {t_planner_trial_laid : Nat → Int32} {t_planner_trial_across : Nat → Int32} {t_planner_trial_along : Nat → Int32} {t_planner_found : Int32} {t_planner_foundWorst : Int32} {t_gauges_heights : Nat → Int32} {t_gauges_isRead : Nat → Int32} {t_gauges_count : Int32} {t_gauges_bendSum : Int32} {t_gauges_bendPlaces : Int32} {t_spans_lower : Nat → Int32} {t_spans_upper : Nat → Int32} {t_welds_line : Nat → Int32} {t_welds_pull : Nat → Int32} {t_welds_best : Nat → Int32} {t_welds_count : Int32} {t_welds_bestWorst : Int32} {t_welds_known : Int32} {t_welds_tried : Nat → Int32} {t_welds_bent : Nat → Int32} {t_welds_trial_bends : Nat → Int32} {t_welds_trial_laid : Nat → Int32} {t_welds_trial_across : Nat → Int32} {t_welds_trial_along : Nat → Int32} {t_smiths_smithOf : Nat → Int32} {t_smiths_greatest : Int32} {t_smiths_knownFor : Int32} {t_smiths_times : Nat → Int32} {t_smiths_sums : Nat → Int32} {t_smiths_count : Int32} {t_fraction_upper : Int64} {t_fraction_lower : Int64} {x1 : Int32} {x2 : Int32} {o : Int32 × (Nat → Int32) × Int32 × Int32 × (Nat → Int32) × (Nat → Int32) × Int32} (hf : f_X11_shared n t_work_strength t_work_water t_work_count t_smiths_smithOf t_smiths_greatest t_smiths_knownFor t_smiths_times t_smiths_sums t_smiths_count x1 x2 = some o) : Ctr l yX11_shared cX11_shared 3 (some .int) 16 670 D cI cC cZ [.ref tq0, .int x1, .int x2] (w_X11 cI cC cZ tq0 tq1 tq2 tq3 tq4 tq5 tq6 tq7 tq8 tq9 tq10 tq11 tq12 tq13 tq14 tq15 tq16 tq17 tq18 tq19 tq20 tq21 tq22 tq23 tq24 tq25 tq26 tq27 tq28 tq29 tq30 tq31 tq32 tq33 tq34 tq35 tq36 tq37 tq38 tq39 tq40 tq41 tq42 tq43 tq44 tq45 tq46 tq47 tq48 tq49 tq50 tq51 t_orders_signs t_orders_count t_rules_settings t_rules_numbers t_work_room t_work_line t_work_strength t_work_water t_work_back t_work_count t_shape_bends t_shape_laid t_shape_across t_shape_along t_wished_heights t_wished_hung t_planner_items_room t_planner_items_line t_planner_items_strength t_planner_items_water t_planner_items_back t_planner_items_count t_planner_trial_bends t_planner_trial_laid t_planner_trial_across t_planner_trial_along t_planner_found t_planner_foundWorst t_gauges_heights t_gauges_isRead t_gauges_count t_gauges_bendSum t_gauges_bendPlaces t_spans_lower t_spans_upper t_welds_line t_welds_pull t_welds_best t_welds_count t_welds_bestWorst t_welds_known t_welds_tried t_welds_bent t_welds_trial_bends t_welds_trial_laid t_welds_trial_across t_welds_trial_along t_smiths_smithOf t_smiths_greatest t_smiths_knownFor t_smiths_times t_smiths_sums t_smiths_count t_fraction_upper t_fraction_lower) (w_X11 cI cC cZ tq0 tq1 tq2 tq3 tq4 tq5 tq6 tq7 tq8 tq9 tq10 tq11 tq12 tq13 tq14 tq15 tq16 tq17 tq18 tq19 tq20 tq21 tq22 tq23 tq24 tq25 tq26 tq27 tq28 tq29 tq30 tq31 tq32 tq33 tq34 tq35 tq36 tq37 tq38 tq39 tq40 tq41 tq42 tq43 tq44 tq45 tq46 tq47 tq48 tq49 tq50 tq51 t_orders_signs t_orders_count t_rules_settings t_rules_numbers t_work_room t_work_line t_work_strength t_work_water t_work_back t_work_count t_shape_bends t_shape_laid t_shape_across t_shape_along t_wished_heights t_wished_hung t_planner_items_room t_planner_items_line t_planner_items_strength t_planner_items_water t_planner_items_back t_planner_items_count t_planner_trial_bends t_planner_trial_laid t_planner_trial_across t_planner_trial_along t_planner_found t_planner_foundWorst t_gauges_heights t_gauges_isRead t_gauges_count t_gauges_bendSum t_gauges_bendPlaces t_spans_lower t_spans_upper t_welds_line t_welds_pull t_welds_best t_welds_count t_welds_bestWorst t_welds_known t_welds_tried t_welds_bent t_welds_trial_bends t_welds_trial_laid t_welds_trial_across t_welds_trial_along o.2.1 o.2.2.1 o.2.2.2.1 o.2.2.2.2.1 o.2.2.2.2.2.1 o.2.2.2.2.2.2 t_fraction_upper t_fraction_lower) (some (.int o.1)) := by
  refine Ctr.of (by decide) (Nat.le_of_ble_eq_true rfl) ?_
  intro p e s m args below meth c ls A Q hA hQ C hl hw
  have hx := C.1
  have hb := C.2.1
  have hl : lv_has ls 3 [(0, .ref tq0), (1, .int x1), (2, .int x2)] := hl
  have L55 : ∀ (n : Nat), ∀ (t_smiths_smithOf : Nat → Int32) (t_smiths_greatest : Int32) (t_smiths_knownFor : Int32) (t_smiths_times : Nat → Int32) (t_smiths_sums : Nat → Int32) (t_smiths_count : Int32) (v2 : Int32) (H : Heap) (locs : List Loc) (ls : Array Slot), Wd D A s.heap (w_X11 cI cC cZ tq0 tq1 tq2 tq3 tq4 tq5 tq6 tq7 tq8 tq9 tq10 tq11 tq12 tq13 tq14 tq15 tq16 tq17 tq18 tq19 tq20 tq21 tq22 tq23 tq24 tq25 tq26 tq27 tq28 tq29 tq30 tq31 tq32 tq33 tq34 tq35 tq36 tq37 tq38 tq39 tq40 tq41 tq42 tq43 tq44 tq45 tq46 tq47 tq48 tq49 tq50 tq51 t_orders_signs t_orders_count t_rules_settings t_rules_numbers t_work_room t_work_line t_work_strength t_work_water t_work_back t_work_count t_shape_bends t_shape_laid t_shape_across t_shape_along t_wished_heights t_wished_hung t_planner_items_room t_planner_items_line t_planner_items_strength t_planner_items_water t_planner_items_back t_planner_items_count t_planner_trial_bends t_planner_trial_laid t_planner_trial_across t_planner_trial_along t_planner_found t_planner_foundWorst t_gauges_heights t_gauges_isRead t_gauges_count t_gauges_bendSum t_gauges_bendPlaces t_spans_lower t_spans_upper t_welds_line t_welds_pull t_welds_best t_welds_count t_welds_bestWorst t_welds_known t_welds_tried t_welds_bent t_welds_trial_bends t_welds_trial_laid t_welds_trial_across t_welds_trial_along t_smiths_smithOf t_smiths_greatest t_smiths_knownFor t_smiths_times t_smiths_sums t_smiths_count t_fraction_upper t_fraction_lower) H locs → lv_has ls 3 [(0, .ref tq0), (2, .int v2)] → f_X11_shared_55 t_work_strength t_work_water t_work_count  n t_smiths_smithOf t_smiths_greatest t_smiths_knownFor t_smiths_times t_smiths_sums t_smiths_count v2 = some o → W p l e (rmOf 16 670) s m args below meth c H locs 0 0 Q (F0 m 55 ls []) := by
    intro  n t_smiths_smithOf t_smiths_greatest t_smiths_knownFor t_smiths_times t_smiths_sums t_smiths_count v2 H locs ls hw hl hf
    refine lv_iload_n hx hb (dc d_X11_shared 29 rfl) rfl (lv_at hl 1 rfl) ?_
    refine lv_iconst (v := (-1 : Int32)) hx hb (dc d_X11_shared 30 rfl) (by decide) ?_
    refine lv_icmp_ne (tgt := 70) hx hb (dc d_X11_shared 31 rfl) (by decide) (fun c7 => ?_) (fun c7 => ?_)
    · have hf := g_f hf c7
      refine lv_aload_n hx hb (dc d_X11_shared 36 rfl) rfl (lv_at hl 0 rfl) ?_
      refine x_get C hw fl_X11_77 0 rfl rfl (dc d_X11_shared 37 rfl) ?_
      refine x_get C hw fl_X11_317 47 rfl rfl (dc d_X11_shared 38 rfl) ?_
      refine lv_iload_n hx hb (dc d_X11_shared 39 rfl) rfl (lv_at hl 1 rfl) ?_
      have hi := grd_b hf
      have hf := grd_x hf
      refine x_iald C hw 48 rfl hi (dc d_X11_shared 40 rfl) ?_
      cases hf
      exact x_iret C hA hQ hw rfl rfl (dc d_X11_shared 41 rfl)
    · have hf := g_t hf c7
      refine lv_aload_n hx hb (dc d_X11_shared 32 rfl) rfl (lv_at hl 0 rfl) ?_
      refine x_get C hw fl_X11_77 0 rfl rfl (dc d_X11_shared 33 rfl) ?_
      refine x_get C hw fl_X11_314 47 rfl rfl (dc d_X11_shared 34 rfl) ?_
      refine lv_goto (tgt := 79) hx hb (dc d_X11_shared 35 rfl) (by decide) ?_
      cases hf
      exact x_iret C hA hQ hw rfl rfl (dc d_X11_shared 41 rfl)
  refine lv_iload_n hx hb (dc d_X11_shared 0 rfl) rfl (lv_at hl 1 rfl) ?_
  refine lv_iconst (v := (1 : Int32)) hx hb (dc d_X11_shared 1 rfl) (by decide) ?_
  refine lv_icmp_lt (tgt := 10) hx hb (dc d_X11_shared 2 rfl) (by decide) (fun c1 => ?_) (fun c1 => ?_)
  · have hf := g_t hf c1
    refine lv_bipush (v := (-2 : Int32)) hx hb (dc d_X11_shared 6 rfl) (by decide) ?_
    cases hf
    exact x_iret C hA hQ hw rfl rfl (dc d_X11_shared 7 rfl)
  · have hf := g_f hf c1
    refine lv_iload_n hx hb (dc d_X11_shared 3 rfl) rfl (lv_at hl 1 rfl) ?_
    refine lv_iconst (v := (3 : Int32)) hx hb (dc d_X11_shared 4 rfl) (by decide) ?_
    refine lv_icmp_le (tgt := 13) hx hb (dc d_X11_shared 5 rfl) (by decide) (fun c2 => ?_) (fun c2 => ?_)
    · have hf := g_t hf c2
      refine lv_iload_n hx hb (dc d_X11_shared 8 rfl) rfl (lv_at hl 2 rfl) ?_
      refine lv_iconst (v := (-1 : Int32)) hx hb (dc d_X11_shared 9 rfl) (by decide) ?_
      refine lv_icmp_lt (tgt := 29) hx hb (dc d_X11_shared 10 rfl) (by decide) (fun c3 => ?_) (fun c3 => ?_)
      · have hf := g_t hf c3
        refine lv_bipush (v := (-6 : Int32)) hx hb (dc d_X11_shared 16 rfl) (by decide) ?_
        cases hf
        exact x_iret C hA hQ hw rfl rfl (dc d_X11_shared 17 rfl)
      · have hf := g_f hf c3
        refine lv_iload_n hx hb (dc d_X11_shared 11 rfl) rfl (lv_at hl 2 rfl) ?_
        refine lv_aload_n hx hb (dc d_X11_shared 12 rfl) rfl (lv_at hl 0 rfl) ?_
        refine x_get C hw fl_X11_28 0 rfl rfl (dc d_X11_shared 13 rfl) ?_
        refine x_get C hw fl_X11_100 6 rfl rfl (dc d_X11_shared 14 rfl) ?_
        refine lv_icmp_lt (tgt := 32) hx hb (dc d_X11_shared 15 rfl) (by decide) (fun c4 => ?_) (fun c4 => ?_)
        · have hf := g_t hf c4
          refine lv_aload_n hx hb (dc d_X11_shared 18 rfl) rfl (lv_at hl 0 rfl) ?_
          refine x_get C hw fl_X11_77 0 rfl rfl (dc d_X11_shared 19 rfl) ?_
          refine x_get C hw fl_X11_307 47 rfl rfl (dc d_X11_shared 20 rfl) ?_
          refine lv_iload_n hx hb (dc d_X11_shared 21 rfl) rfl (lv_at hl 1 rfl) ?_
          refine lv_icmp_eq (tgt := 55) hx hb (dc d_X11_shared 22 rfl) (by decide) (fun c5 => ?_) (fun c5 => ?_)
          · have hf := g_t hf c5
            exact L55  n t_smiths_smithOf t_smiths_greatest t_smiths_knownFor t_smiths_times t_smiths_sums t_smiths_count x2 _ _ _ hw (lv_sub hl [0, 2] rfl) hf
          · have hf := g_f hf c5
            refine lv_aload_n hx hb (dc d_X11_shared 23 rfl) rfl (lv_at hl 0 rfl) ?_
            refine x_get C hw fl_X11_77 0 rfl rfl (dc d_X11_shared 24 rfl) ?_
            refine lv_aload_n hx hb (dc d_X11_shared 25 rfl) rfl (lv_at hl 0 rfl) ?_
            refine x_get C hw fl_X11_28 0 rfl rfl (dc d_X11_shared 26 rfl) ?_
            refine lv_iload_n hx hb (dc d_X11_shared 27 rfl) rfl (lv_at hl 1 rfl) ?_
            obtain ⟨q6, hq6, hf⟩ := g_bd hf
            refine x_callV C hw mb_X7_share mv_X7_share ml_X11_310 (k_X7_share n hq6) hl.1 rfl rfl [47, 48, 49, 50, 6, 7, 8, 9, 10] rfl rfl rfl 47 7 rfl rfl (Nat.le_of_ble_eq_true rfl) (Nat.le_of_ble_eq_true rfl) (Nat.le_of_ble_eq_true rfl) (dc d_X11_shared 28 rfl) (fun H locs hw => ?_)
            refine W.eq (g2 := F0 m 55 ls []) rfl ?_
            dsimp only [w_X11, w_X7_X3, mix, List.set_cons_succ, List.set_cons_zero] at hw
            have hw : Wd D A s.heap (w_X11 cI cC cZ tq0 tq1 tq2 tq3 tq4 tq5 tq6 tq7 tq8 tq9 tq10 tq11 tq12 tq13 tq14 tq15 tq16 tq17 tq18 tq19 tq20 tq21 tq22 tq23 tq24 tq25 tq26 tq27 tq28 tq29 tq30 tq31 tq32 tq33 tq34 tq35 tq36 tq37 tq38 tq39 tq40 tq41 tq42 tq43 tq44 tq45 tq46 tq47 tq48 tq49 tq50 tq51 t_orders_signs t_orders_count t_rules_settings t_rules_numbers t_work_room t_work_line t_work_strength t_work_water t_work_back t_work_count t_shape_bends t_shape_laid t_shape_across t_shape_along t_wished_heights t_wished_hung t_planner_items_room t_planner_items_line t_planner_items_strength t_planner_items_water t_planner_items_back t_planner_items_count t_planner_trial_bends t_planner_trial_laid t_planner_trial_across t_planner_trial_along t_planner_found t_planner_foundWorst t_gauges_heights t_gauges_isRead t_gauges_count t_gauges_bendSum t_gauges_bendPlaces t_spans_lower t_spans_upper t_welds_line t_welds_pull t_welds_best t_welds_count t_welds_bestWorst t_welds_known t_welds_tried t_welds_bent t_welds_trial_bends t_welds_trial_laid t_welds_trial_across t_welds_trial_along q6.1 q6.2.1 q6.2.2.1 q6.2.2.2.1 q6.2.2.2.2.1 q6.2.2.2.2.2 t_fraction_upper t_fraction_lower) H locs := hw
            exact L55  n q6.1 q6.2.1 q6.2.2.1 q6.2.2.2.1 q6.2.2.2.2.1 q6.2.2.2.2.2 x2 _ _ _ hw (lv_sub hl [0, 2] rfl) hf
        · have hf := g_f hf c4
          refine lv_bipush (v := (-6 : Int32)) hx hb (dc d_X11_shared 16 rfl) (by decide) ?_
          cases hf
          exact x_iret C hA hQ hw rfl rfl (dc d_X11_shared 17 rfl)
    · have hf := g_f hf c2
      refine lv_bipush (v := (-2 : Int32)) hx hb (dc d_X11_shared 6 rfl) (by decide) ?_
      cases hf
      exact x_iret C hA hQ hw rfl rfl (dc d_X11_shared 7 rfl)
set_option maxHeartbeats 4000000 in
set_option maxRecDepth 100000 in
theorem k_X11_told (n : Nat) {l : Launch} {D : va_G} {cI cC cZ : ClassId} {tq0 tq1 tq2 tq3 tq4 tq5 tq6 tq7 tq8 tq9 tq10 tq11 tq12 tq13 tq14 tq15 tq16 tq17 tq18 tq19 tq20 tq21 tq22 tq23 tq24 tq25 tq26 tq27 tq28 tq29 tq30 tq31 tq32 tq33 tq34 tq35 tq36 tq37 tq38 tq39 tq40 tq41 tq42 tq43 tq44 tq45 tq46 tq47 tq48 tq49 tq50 tq51 : Nat} {t_orders_signs : Nat → Int32} {t_orders_count : Int32} {t_rules_settings : Nat → Int32} {t_rules_numbers : Nat → Int32} {t_work_room : Int32} {t_work_line : Nat → Int32} {t_work_strength : Nat → Int32} {t_work_water : Nat → Int32} {t_work_back : Nat → Int32} {t_work_count : Int32} {t_shape_bends : Nat → Int32} {t_shape_laid : Nat → Int32} {t_shape_across : Nat → Int32} {t_shape_along : Nat → Int32} {t_wished_heights : Nat → Int32} {t_wished_hung : Nat → Int32} {t_planner_items_room : Int32} {t_planner_items_line : Nat → Int32} {t_planner_items_strength : Nat → Int32} {t_planner_items_water : Nat → Int32} {t_planner_items_back : Nat → Int32} {t_planner_items_count : Int32} {t_planner_trial_bends : Nat → Int32} {t_planner_trial_laid : Nat → Int32} {t_planner_trial_across : Nat → Int32} {t_planner_trial_along : Nat → Int32} {t_planner_found : Int32} {t_planner_foundWorst : Int32} {t_gauges_heights : Nat → Int32} {t_gauges_isRead : Nat → Int32} {t_gauges_count : Int32} {t_gauges_bendSum : Int32} {t_gauges_bendPlaces : Int32} {t_spans_lower : Nat → Int32} {t_spans_upper : Nat → Int32} {t_welds_line : Nat → Int32} {t_welds_pull : Nat → Int32} {t_welds_best : Nat → Int32} {t_welds_count : Int32} {t_welds_bestWorst : Int32} {t_welds_known : Int32} {t_welds_tried : Nat → Int32} {t_welds_bent : Nat → Int32} {t_welds_trial_bends : Nat → Int32} {t_welds_trial_laid : Nat → Int32} {t_welds_trial_across : Nat → Int32} {t_welds_trial_along : Nat → Int32} {t_smiths_smithOf : Nat → Int32} {t_smiths_greatest : Int32} {t_smiths_knownFor : Int32} {t_smiths_times : Nat → Int32} {t_smiths_sums : Nat → Int32} {t_smiths_count : Int32} {t_fraction_upper : Int64} {t_fraction_lower : Int64} {x1 : Int32} {o : Int32} (hf : f_X11_told n t_orders_count t_rules_settings t_work_count t_planner_items_count t_gauges_count t_welds_count x1 = some o) : Ctr l yX11_told cX11_told 2 (some .int) 0 0 D cI cC cZ [.ref tq0, .int x1] (w_X11 cI cC cZ tq0 tq1 tq2 tq3 tq4 tq5 tq6 tq7 tq8 tq9 tq10 tq11 tq12 tq13 tq14 tq15 tq16 tq17 tq18 tq19 tq20 tq21 tq22 tq23 tq24 tq25 tq26 tq27 tq28 tq29 tq30 tq31 tq32 tq33 tq34 tq35 tq36 tq37 tq38 tq39 tq40 tq41 tq42 tq43 tq44 tq45 tq46 tq47 tq48 tq49 tq50 tq51 t_orders_signs t_orders_count t_rules_settings t_rules_numbers t_work_room t_work_line t_work_strength t_work_water t_work_back t_work_count t_shape_bends t_shape_laid t_shape_across t_shape_along t_wished_heights t_wished_hung t_planner_items_room t_planner_items_line t_planner_items_strength t_planner_items_water t_planner_items_back t_planner_items_count t_planner_trial_bends t_planner_trial_laid t_planner_trial_across t_planner_trial_along t_planner_found t_planner_foundWorst t_gauges_heights t_gauges_isRead t_gauges_count t_gauges_bendSum t_gauges_bendPlaces t_spans_lower t_spans_upper t_welds_line t_welds_pull t_welds_best t_welds_count t_welds_bestWorst t_welds_known t_welds_tried t_welds_bent t_welds_trial_bends t_welds_trial_laid t_welds_trial_across t_welds_trial_along t_smiths_smithOf t_smiths_greatest t_smiths_knownFor t_smiths_times t_smiths_sums t_smiths_count t_fraction_upper t_fraction_lower) (w_X11 cI cC cZ tq0 tq1 tq2 tq3 tq4 tq5 tq6 tq7 tq8 tq9 tq10 tq11 tq12 tq13 tq14 tq15 tq16 tq17 tq18 tq19 tq20 tq21 tq22 tq23 tq24 tq25 tq26 tq27 tq28 tq29 tq30 tq31 tq32 tq33 tq34 tq35 tq36 tq37 tq38 tq39 tq40 tq41 tq42 tq43 tq44 tq45 tq46 tq47 tq48 tq49 tq50 tq51 t_orders_signs t_orders_count t_rules_settings t_rules_numbers t_work_room t_work_line t_work_strength t_work_water t_work_back t_work_count t_shape_bends t_shape_laid t_shape_across t_shape_along t_wished_heights t_wished_hung t_planner_items_room t_planner_items_line t_planner_items_strength t_planner_items_water t_planner_items_back t_planner_items_count t_planner_trial_bends t_planner_trial_laid t_planner_trial_across t_planner_trial_along t_planner_found t_planner_foundWorst t_gauges_heights t_gauges_isRead t_gauges_count t_gauges_bendSum t_gauges_bendPlaces t_spans_lower t_spans_upper t_welds_line t_welds_pull t_welds_best t_welds_count t_welds_bestWorst t_welds_known t_welds_tried t_welds_bent t_welds_trial_bends t_welds_trial_laid t_welds_trial_across t_welds_trial_along t_smiths_smithOf t_smiths_greatest t_smiths_knownFor t_smiths_times t_smiths_sums t_smiths_count t_fraction_upper t_fraction_lower) (some (.int o)) := by
  refine Ctr.of (by decide) (Nat.le_of_ble_eq_true rfl) ?_
  intro p e s m args below meth c ls A Q hA hQ C hl hw
  have hx := C.1
  have hb := C.2.1
  have hl : lv_has ls 2 [(0, .ref tq0), (1, .int x1)] := hl
  refine lv_iload_n hx hb (dc d_X11_told 0 rfl) rfl (lv_at hl 1 rfl) ?_
  by_cases c1 : x1 = (0 : Int32)
  · have hf := g_t hf c1
    refine lv_tableIn (off := 35) (tgt := 36) hx hb (dc d_X11_told 1 rfl) (by rw [c1]; decide) (by rw [c1]; decide) (by rw [c1]; rfl) (by decide) ?_
    refine lv_aload_n hx hb (dc d_X11_told 2 rfl) rfl (lv_at hl 0 rfl) ?_
    refine x_get C hw fl_X11_10 0 rfl rfl (dc d_X11_told 3 rfl) ?_
    refine x_get C hw fl_X11_92 1 rfl rfl (dc d_X11_told 4 rfl) ?_
    cases hf
    exact x_iret C hA hQ hw rfl rfl (dc d_X11_told 5 rfl)
  have hf := g_f hf c1
  by_cases c2 : x1 = (1 : Int32)
  · have hf := g_t hf c2
    refine lv_tableIn (off := 43) (tgt := 44) hx hb (dc d_X11_told 1 rfl) (by rw [c2]; decide) (by rw [c2]; decide) (by rw [c2]; rfl) (by decide) ?_
    refine lv_aload_n hx hb (dc d_X11_told 6 rfl) rfl (lv_at hl 0 rfl) ?_
    refine x_get C hw fl_X11_28 0 rfl rfl (dc d_X11_told 7 rfl) ?_
    refine x_get C hw fl_X11_100 6 rfl rfl (dc d_X11_told 8 rfl) ?_
    cases hf
    exact x_iret C hA hQ hw rfl rfl (dc d_X11_told 9 rfl)
  have hf := g_f hf c2
  by_cases c3 : x1 = (2 : Int32)
  · have hf := g_t hf c3
    refine lv_tableIn (off := 51) (tgt := 52) hx hb (dc d_X11_told 1 rfl) (by rw [c3]; decide) (by rw [c3]; decide) (by rw [c3]; rfl) (by decide) ?_
    refine lv_aload_n hx hb (dc d_X11_told 10 rfl) rfl (lv_at hl 0 rfl) ?_
    refine x_get C hw fl_X11_49 0 rfl rfl (dc d_X11_told 11 rfl) ?_
    refine x_get C hw fl_X11_203 19 rfl rfl (dc d_X11_told 12 rfl) ?_
    refine x_get C hw fl_X11_100 20 rfl rfl (dc d_X11_told 13 rfl) ?_
    cases hf
    exact x_iret C hA hQ hw rfl rfl (dc d_X11_told 14 rfl)
  have hf := g_f hf c3
  by_cases c4 : x1 = (3 : Int32)
  · have hf := g_t hf c4
    refine lv_tableIn (off := 62) (tgt := 63) hx hb (dc d_X11_told 1 rfl) (by rw [c4]; decide) (by rw [c4]; decide) (by rw [c4]; rfl) (by decide) ?_
    refine lv_aload_n hx hb (dc d_X11_told 15 rfl) rfl (lv_at hl 0 rfl) ?_
    refine x_get C hw fl_X11_56 0 rfl rfl (dc d_X11_told 16 rfl) ?_
    refine x_get C hw fl_X11_320 30 rfl rfl (dc d_X11_told 17 rfl) ?_
    cases hf
    exact x_iret C hA hQ hw rfl rfl (dc d_X11_told 18 rfl)
  have hf := g_f hf c4
  by_cases c5 : x1 = (4 : Int32)
  · have hf := g_t hf c5
    refine lv_tableIn (off := 70) (tgt := 71) hx hb (dc d_X11_told 1 rfl) (by rw [c5]; decide) (by rw [c5]; decide) (by rw [c5]; rfl) (by decide) ?_
    refine lv_aload_n hx hb (dc d_X11_told 19 rfl) rfl (lv_at hl 0 rfl) ?_
    refine x_get C hw fl_X11_70 0 rfl rfl (dc d_X11_told 20 rfl) ?_
    refine x_get C hw fl_X11_294 36 rfl rfl (dc d_X11_told 21 rfl) ?_
    cases hf
    exact x_iret C hA hQ hw rfl rfl (dc d_X11_told 22 rfl)
  have hf := g_f hf c5
  refine lv_tableOut (tgt := 79) hx hb (dc d_X11_told 1 rfl) (by have zc1 := sw_ne c1 (k := 0) (by decide); have zc2 := sw_ne c2 (k := 1) (by decide); have zc3 := sw_ne c3 (k := 2) (by decide); have zc4 := sw_ne c4 (k := 3) (by decide); have zc5 := sw_ne c5 (k := 4) (by decide); omega) (by decide) ?_
  refine lv_iload_n hx hb (dc d_X11_told 23 rfl) rfl (lv_at hl 1 rfl) ?_
  refine lv_bipush (v := (10 : Int32)) hx hb (dc d_X11_told 24 rfl) (by decide) ?_
  refine lv_icmp_lt (tgt := 106) hx hb (dc d_X11_told 25 rfl) (by decide) (fun c6 => ?_) (fun c6 => ?_)
  · have hf := g_t hf c6
    refine lv_bipush (v := (-2 : Int32)) hx hb (dc d_X11_told 37 rfl) (by decide) ?_
    cases hf
    exact x_iret C hA hQ hw rfl rfl (dc d_X11_told 38 rfl)
  · have hf := g_f hf c6
    refine lv_iload_n hx hb (dc d_X11_told 26 rfl) rfl (lv_at hl 1 rfl) ?_
    refine lv_bipush (v := (16 : Int32)) hx hb (dc d_X11_told 27 rfl) (by decide) ?_
    refine lv_icmp_ge (tgt := 106) hx hb (dc d_X11_told 28 rfl) (by decide) (fun c7 => ?_) (fun c7 => ?_)
    · have hf := g_t hf c7
      refine lv_bipush (v := (-2 : Int32)) hx hb (dc d_X11_told 37 rfl) (by decide) ?_
      cases hf
      exact x_iret C hA hQ hw rfl rfl (dc d_X11_told 38 rfl)
    · have hf := g_f hf c7
      refine lv_aload_n hx hb (dc d_X11_told 29 rfl) rfl (lv_at hl 0 rfl) ?_
      refine x_get C hw fl_X11_19 0 rfl rfl (dc d_X11_told 30 rfl) ?_
      refine x_get C hw fl_X11_321 3 rfl rfl (dc d_X11_told 31 rfl) ?_
      refine lv_iload_n hx hb (dc d_X11_told 32 rfl) rfl (lv_at hl 1 rfl) ?_
      refine lv_bipush (v := (10 : Int32)) hx hb (dc d_X11_told 33 rfl) (by decide) ?_
      refine lv_isub hx hb (dc d_X11_told 34 rfl) ?_
      have hi := grd_b hf
      have hf := grd_x hf
      refine x_iald C hw 4 rfl hi (dc d_X11_told 35 rfl) ?_
      refine lv_goto (tgt := 108) hx hb (dc d_X11_told 36 rfl) (by decide) ?_
      cases hf
      exact x_iret C hA hQ hw rfl rfl (dc d_X11_told 38 rfl)
set_option maxHeartbeats 4000000 in
set_option maxRecDepth 100000 in
theorem k_X12_in (n : Nat) {l : Launch} {D : va_G} {cI cC cZ : ClassId}   {x0 : Int64} {x2 : Int64} {x4 : Int64} {o : Int32} (hf : f_X12_in n x0 x2 x4 = some o) : Ctr l yX12_in cX12_in 6 (some .boolean) 0 0 D cI cC cZ [.long x0, .long x2, .long x4] [] [] (some (.int o)) := by
  refine Ctr.of (by decide) (Nat.le_of_ble_eq_true rfl) ?_
  intro p e s m args below meth c ls A Q hA hQ C hl hw
  have hx := C.1
  have hb := C.2.1
  have hl : lv_has ls 6 [(0, .long x0), (2, .long x2), (4, .long x4)] := hl
  refine lv_lload_n hx hb (dc d_X12_in 0 rfl) rfl (lv_at hl 0 rfl) ?_
  refine lv_lload_n hx hb (dc d_X12_in 1 rfl) rfl (lv_at hl 1 rfl) ?_
  refine W.lcmp hx hb (dc d_X12_in 2 rfl) ?_
  refine lv_if_lt (tgt := 17) hx hb (dc d_X12_in 3 rfl) (by decide) (fun c1 => ?_) (fun c1 => ?_)
  · have hf := g_t hf c1
    refine lv_iconst (v := (0 : Int32)) hx hb (dc d_X12_in 10 rfl) (by decide) ?_
    cases hf
    exact x_zret C hA hQ hw rfl rfl (by decide) (dc d_X12_in 11 rfl)
  · have hf := g_f hf c1
    refine lv_lload_n hx hb (dc d_X12_in 4 rfl) rfl (lv_at hl 0 rfl) ?_
    refine lv_lload hx hb (dc d_X12_in 5 rfl) (lv_at hl 2 rfl) ?_
    refine W.lcmp hx hb (dc d_X12_in 6 rfl) ?_
    refine lv_if_gt (tgt := 17) hx hb (dc d_X12_in 7 rfl) (by decide) (fun c2 => ?_) (fun c2 => ?_)
    · have hf := g_t hf c2
      refine lv_iconst (v := (0 : Int32)) hx hb (dc d_X12_in 10 rfl) (by decide) ?_
      cases hf
      exact x_zret C hA hQ hw rfl rfl (by decide) (dc d_X12_in 11 rfl)
    · have hf := g_f hf c2
      refine lv_iconst (v := (1 : Int32)) hx hb (dc d_X12_in 8 rfl) (by decide) ?_
      refine lv_goto (tgt := 18) hx hb (dc d_X12_in 9 rfl) (by decide) ?_
      cases hf
      exact x_zret C hA hQ hw rfl rfl (by decide) (dc d_X12_in 11 rfl)
set_option maxHeartbeats 4000000 in
set_option maxRecDepth 100000 in
theorem k_X12_size (n : Nat) {l : Launch} {D : va_G} {cI cC cZ : ClassId}   {x0 : Int32} {o : Int32} (hf : f_X12_size n x0 = some o) : Ctr l yX12_size cX12_size 1 (some .int) 0 0 D cI cC cZ [.int x0] [] [] (some (.int o)) := by
  refine Ctr.of (by decide) (Nat.le_of_ble_eq_true rfl) ?_
  intro p e s m args below meth c ls A Q hA hQ C hl hw
  have hx := C.1
  have hb := C.2.1
  have hl : lv_has ls 1 [(0, .int x0)] := hl
  refine lv_iload_n hx hb (dc d_X12_size 0 rfl) rfl (lv_at hl 0 rfl) ?_
  refine lv_if_ge (tgt := 9) hx hb (dc d_X12_size 1 rfl) (by decide) (fun c1 => ?_) (fun c1 => ?_)
  · have hf := g_t hf c1
    refine lv_iload_n hx hb (dc d_X12_size 5 rfl) rfl (lv_at hl 0 rfl) ?_
    cases hf
    exact x_iret C hA hQ hw rfl rfl (dc d_X12_size 6 rfl)
  · have hf := g_f hf c1
    refine lv_iload_n hx hb (dc d_X12_size 2 rfl) rfl (lv_at hl 0 rfl) ?_
    refine lv_ineg hx hb (dc d_X12_size 3 rfl) ?_
    refine lv_goto (tgt := 10) hx hb (dc d_X12_size 4 rfl) (by decide) ?_
    cases hf
    exact x_iret C hA hQ hw rfl rfl (dc d_X12_size 6 rfl)
set_option maxHeartbeats 4000000 in
set_option maxRecDepth 100000 in
theorem k_X12_isLine (n : Nat) {l : Launch} {D : va_G} {cI cC cZ : ClassId}   {x0 : Int32} {o : Int32} (hf : f_X12_isLine n x0 = some o) : Ctr l yX12_isLine cX12_isLine 1 (some .boolean) 1 25 D cI cC cZ [.int x0] [] [] (some (.int o)) := by
  refine Ctr.of (by decide) (Nat.le_of_ble_eq_true rfl) ?_
  intro p e s m args below meth c ls A Q hA hQ C hl hw
  have hx := C.1
  have hb := C.2.1
  have hl : lv_has ls 1 [(0, .int x0)] := hl
  refine lv_iload_n hx hb (dc d_X12_isLine 0 rfl) rfl (lv_at hl 0 rfl) ?_
  refine lv_i2l (v := x0.toInt64) hx hb (dc d_X12_isLine 1 rfl) rfl ?_
  refine lv_lconst (v := (0 : Int64)) hx hb (dc d_X12_isLine 2 rfl) (by decide) ?_
  refine x_ldc2 (v := (7 : Int64)) C cn_X12_83 (dc d_X12_isLine 3 rfl) ?_
  obtain ⟨q1, hq1, hf⟩ := g_bd hf
  refine x_callS C hw mb_X12_in ms_X12_in ml_X12_85 (k_X12_in n hq1) hl.1 rfl rfl [] rfl rfl rfl (Nat.le_of_ble_eq_true rfl) (Nat.le_of_ble_eq_true rfl) (Nat.le_of_ble_eq_true rfl) (dc d_X12_isLine 4 rfl) (fun H locs hw => ?_)
  refine W.eq (g2 := F0 m 9 ls [.int q1]) rfl ?_
  have hw : Wd D A s.heap [] H locs := hw
  have hz := grd_b hf
  have hf := grd_x hf
  cases hf
  exact x_zret C hA hQ hw rfl rfl hz (dc d_X12_isLine 5 rfl)
set_option maxHeartbeats 4000000 in
set_option maxRecDepth 100000 in
theorem k_X12_isCorner (n : Nat) {l : Launch} {D : va_G} {cI cC cZ : ClassId}   {x0 : Int32} {o : Int32} (hf : f_X12_isCorner n x0 = some o) : Ctr l yX12_isCorner cX12_isCorner 1 (some .boolean) 1 25 D cI cC cZ [.int x0] [] [] (some (.int o)) := by
  refine Ctr.of (by decide) (Nat.le_of_ble_eq_true rfl) ?_
  intro p e s m args below meth c ls A Q hA hQ C hl hw
  have hx := C.1
  have hb := C.2.1
  have hl : lv_has ls 1 [(0, .int x0)] := hl
  refine lv_iload_n hx hb (dc d_X12_isCorner 0 rfl) rfl (lv_at hl 0 rfl) ?_
  refine lv_i2l (v := x0.toInt64) hx hb (dc d_X12_isCorner 1 rfl) rfl ?_
  refine lv_lconst (v := (0 : Int64)) hx hb (dc d_X12_isCorner 2 rfl) (by decide) ?_
  refine x_ldc2 (v := (35 : Int64)) C cn_X12_89 (dc d_X12_isCorner 3 rfl) ?_
  obtain ⟨q1, hq1, hf⟩ := g_bd hf
  refine x_callS C hw mb_X12_in ms_X12_in ml_X12_85 (k_X12_in n hq1) hl.1 rfl rfl [] rfl rfl rfl (Nat.le_of_ble_eq_true rfl) (Nat.le_of_ble_eq_true rfl) (Nat.le_of_ble_eq_true rfl) (dc d_X12_isCorner 4 rfl) (fun H locs hw => ?_)
  refine W.eq (g2 := F0 m 9 ls [.int q1]) rfl ?_
  have hw : Wd D A s.heap [] H locs := hw
  have hz := grd_b hf
  have hf := grd_x hf
  cases hf
  exact x_zret C hA hQ hw rfl rfl hz (dc d_X12_isCorner 5 rfl)
set_option maxHeartbeats 4000000 in
set_option maxRecDepth 100000 in
theorem k_X12_say (n : Nat) {l : Launch} {D : va_G} {cI cC cZ : ClassId} {tq0 tq1 tq2 tq3 tq4 tq5 tq6 tq7 tq8 tq9 tq10 tq11 tq12 tq13 tq14 tq15 tq16 tq17 tq18 tq19 tq20 tq21 tq22 tq23 tq24 : Nat} {t_signs : Nat → Int32} {t_signMany : Int32} {t_lineOf : Nat → Int32} {t_strengthOf : Nat → Int32} {t_waterOf : Nat → Int32} {t_backOf : Nat → Int32} {t_passes : Int32} {t_tried : Int32} {t_table : Nat → Int32} {t_numbers : Nat → Int32} {t_bends : Nat → Int32} {t_wished : Nat → Int32} {t_itemLine : Nat → Int32} {t_itemStrength : Nat → Int32} {t_itemWater : Nat → Int32} {t_itemBack : Nat → Int32} {t_items : Int32} {t_worstThen : Int32} {t_reading : Nat → Int32} {t_isRead : Nat → Int32} {t_readSum : Int32} {t_readMany : Int32} {t_spanLow : Nat → Int32} {t_spanHigh : Nat → Int32} {t_weldLine : Nat → Int32} {t_weldPull : Nat → Int32} {t_welds : Int32} {t_orderOf : Nat → Int32} {t_bestOrder : Nat → Int32} {t_smithOf : Nat → Int32} {t_bestSmith : Nat → Int32} {t_busy : Nat → Int32} {x1 : Int32} {o : Int32 × (Nat → Int32) × Int32} (hf : f_X12_say n t_signs t_signMany x1 = some o) : Ctr l yX12_say cX12_say 2 (some .int) 1 25 D cI cC cZ [.ref tq0, .int x1] (w_X12 cI cC cZ tq0 tq1 tq2 tq3 tq4 tq5 tq6 tq7 tq8 tq9 tq10 tq11 tq12 tq13 tq14 tq15 tq16 tq17 tq18 tq19 tq20 tq21 tq22 tq23 tq24 t_signs t_signMany t_lineOf t_strengthOf t_waterOf t_backOf t_passes t_tried t_table t_numbers t_bends t_wished t_itemLine t_itemStrength t_itemWater t_itemBack t_items t_worstThen t_reading t_isRead t_readSum t_readMany t_spanLow t_spanHigh t_weldLine t_weldPull t_welds t_orderOf t_bestOrder t_smithOf t_bestSmith t_busy) (w_X12 cI cC cZ tq0 tq1 tq2 tq3 tq4 tq5 tq6 tq7 tq8 tq9 tq10 tq11 tq12 tq13 tq14 tq15 tq16 tq17 tq18 tq19 tq20 tq21 tq22 tq23 tq24 o.2.1 o.2.2 t_lineOf t_strengthOf t_waterOf t_backOf t_passes t_tried t_table t_numbers t_bends t_wished t_itemLine t_itemStrength t_itemWater t_itemBack t_items t_worstThen t_reading t_isRead t_readSum t_readMany t_spanLow t_spanHigh t_weldLine t_weldPull t_welds t_orderOf t_bestOrder t_smithOf t_bestSmith t_busy) (some (.int o.1)) := by
  refine Ctr.of (by decide) (Nat.le_of_ble_eq_true rfl) ?_
  intro p e s m args below meth c ls A Q hA hQ C hl hw
  have hx := C.1
  have hb := C.2.1
  have hl : lv_has ls 2 [(0, .ref tq0), (1, .int x1)] := hl
  refine lv_iload_n hx hb (dc d_X12_say 0 rfl) rfl (lv_at hl 1 rfl) ?_
  refine lv_i2l (v := x1.toInt64) hx hb (dc d_X12_say 1 rfl) rfl ?_
  refine x_ldc2 (v := (33 : Int64)) C cn_X12_91 (dc d_X12_say 2 rfl) ?_
  refine x_ldc2 (v := (126 : Int64)) C cn_X12_93 (dc d_X12_say 3 rfl) ?_
  obtain ⟨q1, hq1, hf⟩ := g_bd hf
  refine x_callS C hw mb_X12_in ms_X12_in ml_X12_85 (k_X12_in n hq1) hl.1 rfl rfl [] rfl rfl rfl (Nat.le_of_ble_eq_true rfl) (Nat.le_of_ble_eq_true rfl) (Nat.le_of_ble_eq_true rfl) (dc d_X12_say 4 rfl) (fun H locs hw => ?_)
  refine W.eq (g2 := F0 m 11 ls [.int q1]) rfl ?_
  have hw : Wd D A s.heap (w_X12 cI cC cZ tq0 tq1 tq2 tq3 tq4 tq5 tq6 tq7 tq8 tq9 tq10 tq11 tq12 tq13 tq14 tq15 tq16 tq17 tq18 tq19 tq20 tq21 tq22 tq23 tq24 t_signs t_signMany t_lineOf t_strengthOf t_waterOf t_backOf t_passes t_tried t_table t_numbers t_bends t_wished t_itemLine t_itemStrength t_itemWater t_itemBack t_items t_worstThen t_reading t_isRead t_readSum t_readMany t_spanLow t_spanHigh t_weldLine t_weldPull t_welds t_orderOf t_bestOrder t_smithOf t_bestSmith t_busy) H locs := hw
  refine lv_if_ne (tgt := 17) hx hb (dc d_X12_say 5 rfl) (by decide) (fun c2 => ?_) (fun c2 => ?_)
  · have hf := g_f hf c2
    refine lv_aload_n hx hb (dc d_X12_say 8 rfl) rfl (lv_at hl 0 rfl) ?_
    refine x_get C hw fl_X12_95 0 rfl rfl (dc d_X12_say 9 rfl) ?_
    refine lv_bipush (v := (50 : Int32)) hx hb (dc d_X12_say 10 rfl) (by decide) ?_
    refine lv_icmp_ne (tgt := 29) hx hb (dc d_X12_say 11 rfl) (by decide) (fun c3 => ?_) (fun c3 => ?_)
    · have hf := g_f hf c3
      refine lv_aload_n hx hb (dc d_X12_say 14 rfl) rfl (lv_at hl 0 rfl) ?_
      refine x_get C hw fl_X12_7 0 rfl rfl (dc d_X12_say 15 rfl) ?_
      refine lv_aload_n hx hb (dc d_X12_say 16 rfl) rfl (lv_at hl 0 rfl) ?_
      refine x_get C hw fl_X12_95 0 rfl rfl (dc d_X12_say 17 rfl) ?_
      refine lv_iload_n hx hb (dc d_X12_say 18 rfl) rfl (lv_at hl 1 rfl) ?_
      have hi := grd_b hf
      have hf := grd_x hf
      refine x_iast C hw 1 rfl hi (dc d_X12_say 19 rfl) (fun H locs hw => ?_)
      dsimp only [w_X12, mix, List.set_cons_succ, List.set_cons_zero] at hw
      have hw : Wd D A s.heap (w_X12 cI cC cZ tq0 tq1 tq2 tq3 tq4 tq5 tq6 tq7 tq8 tq9 tq10 tq11 tq12 tq13 tq14 tq15 tq16 tq17 tq18 tq19 tq20 tq21 tq22 tq23 tq24 (upd t_signs t_signMany.toNatClampNeg x1) t_signMany t_lineOf t_strengthOf t_waterOf t_backOf t_passes t_tried t_table t_numbers t_bends t_wished t_itemLine t_itemStrength t_itemWater t_itemBack t_items t_worstThen t_reading t_isRead t_readSum t_readMany t_spanLow t_spanHigh t_weldLine t_weldPull t_welds t_orderOf t_bestOrder t_smithOf t_bestSmith t_busy) H locs := hw
      refine lv_aload_n hx hb (dc d_X12_say 20 rfl) rfl (lv_at hl 0 rfl) ?_
      refine lv_dup hx hb (dc d_X12_say 21 rfl) rfl ?_
      refine x_get C hw fl_X12_95 0 rfl rfl (dc d_X12_say 22 rfl) ?_
      refine lv_iconst (v := (1 : Int32)) hx hb (dc d_X12_say 23 rfl) (by decide) ?_
      refine lv_iadd hx hb (dc d_X12_say 24 rfl) ?_
      refine x_put C hw fl_X12_95 fw_X12_1 0 rfl rfl rfl (Nat.le_of_ble_eq_true rfl) (dc d_X12_say 25 rfl) (fun H locs hw => ?_)
      dsimp only [w_X12, mix, List.set_cons_succ, List.set_cons_zero] at hw
      have hw : Wd D A s.heap (w_X12 cI cC cZ tq0 tq1 tq2 tq3 tq4 tq5 tq6 tq7 tq8 tq9 tq10 tq11 tq12 tq13 tq14 tq15 tq16 tq17 tq18 tq19 tq20 tq21 tq22 tq23 tq24 (upd t_signs t_signMany.toNatClampNeg x1) (t_signMany + (1 : Int32)) t_lineOf t_strengthOf t_waterOf t_backOf t_passes t_tried t_table t_numbers t_bends t_wished t_itemLine t_itemStrength t_itemWater t_itemBack t_items t_worstThen t_reading t_isRead t_readSum t_readMany t_spanLow t_spanHigh t_weldLine t_weldPull t_welds t_orderOf t_bestOrder t_smithOf t_bestSmith t_busy) H locs := hw
      refine lv_aload_n hx hb (dc d_X12_say 26 rfl) rfl (lv_at hl 0 rfl) ?_
      refine x_get C hw fl_X12_95 0 rfl rfl (dc d_X12_say 27 rfl) ?_
      cases hf
      exact x_iret C hA hQ hw rfl rfl (dc d_X12_say 28 rfl)
    · have hf := g_t hf c3
      refine lv_bipush (v := (-4 : Int32)) hx hb (dc d_X12_say 12 rfl) (by decide) ?_
      cases hf
      exact x_iret C hA hQ hw rfl rfl (dc d_X12_say 13 rfl)
  · have hf := g_t hf c2
    refine lv_bipush (v := (-2 : Int32)) hx hb (dc d_X12_say 6 rfl) (by decide) ?_
    cases hf
    exact x_iret C hA hQ hw rfl rfl (dc d_X12_say 7 rfl)
set_option maxHeartbeats 4000000 in
set_option maxRecDepth 100000 in
theorem k_X12_wipe (n : Nat) {l : Launch} {D : va_G} {cI cC cZ : ClassId} {tq0 tq1 tq2 tq3 tq4 tq5 tq6 tq7 tq8 tq9 tq10 tq11 tq12 tq13 tq14 tq15 tq16 tq17 tq18 tq19 tq20 tq21 tq22 tq23 tq24 : Nat} {t_signs : Nat → Int32} {t_signMany : Int32} {t_lineOf : Nat → Int32} {t_strengthOf : Nat → Int32} {t_waterOf : Nat → Int32} {t_backOf : Nat → Int32} {t_passes : Int32} {t_tried : Int32} {t_table : Nat → Int32} {t_numbers : Nat → Int32} {t_bends : Nat → Int32} {t_wished : Nat → Int32} {t_itemLine : Nat → Int32} {t_itemStrength : Nat → Int32} {t_itemWater : Nat → Int32} {t_itemBack : Nat → Int32} {t_items : Int32} {t_worstThen : Int32} {t_reading : Nat → Int32} {t_isRead : Nat → Int32} {t_readSum : Int32} {t_readMany : Int32} {t_spanLow : Nat → Int32} {t_spanHigh : Nat → Int32} {t_weldLine : Nat → Int32} {t_weldPull : Nat → Int32} {t_welds : Int32} {t_orderOf : Nat → Int32} {t_bestOrder : Nat → Int32} {t_smithOf : Nat → Int32} {t_bestSmith : Nat → Int32} {t_busy : Nat → Int32}  {o : Int32 × Int32} (hf : f_X12_wipe n t_signMany = some o) : Ctr l yX12_wipe cX12_wipe 2 (some .int) 0 0 D cI cC cZ [.ref tq0] (w_X12 cI cC cZ tq0 tq1 tq2 tq3 tq4 tq5 tq6 tq7 tq8 tq9 tq10 tq11 tq12 tq13 tq14 tq15 tq16 tq17 tq18 tq19 tq20 tq21 tq22 tq23 tq24 t_signs t_signMany t_lineOf t_strengthOf t_waterOf t_backOf t_passes t_tried t_table t_numbers t_bends t_wished t_itemLine t_itemStrength t_itemWater t_itemBack t_items t_worstThen t_reading t_isRead t_readSum t_readMany t_spanLow t_spanHigh t_weldLine t_weldPull t_welds t_orderOf t_bestOrder t_smithOf t_bestSmith t_busy) (w_X12 cI cC cZ tq0 tq1 tq2 tq3 tq4 tq5 tq6 tq7 tq8 tq9 tq10 tq11 tq12 tq13 tq14 tq15 tq16 tq17 tq18 tq19 tq20 tq21 tq22 tq23 tq24 t_signs o.2 t_lineOf t_strengthOf t_waterOf t_backOf t_passes t_tried t_table t_numbers t_bends t_wished t_itemLine t_itemStrength t_itemWater t_itemBack t_items t_worstThen t_reading t_isRead t_readSum t_readMany t_spanLow t_spanHigh t_weldLine t_weldPull t_welds t_orderOf t_bestOrder t_smithOf t_bestSmith t_busy) (some (.int o.1)) := by
  refine Ctr.of (by decide) (Nat.le_of_ble_eq_true rfl) ?_
  intro p e s m args below meth c ls A Q hA hQ C hl hw
  have hx := C.1
  have hb := C.2.1
  have hl : lv_has ls 2 [(0, .ref tq0)] := hl
  refine lv_aload_n hx hb (dc d_X12_wipe 0 rfl) rfl (lv_at hl 0 rfl) ?_
  refine x_get C hw fl_X12_95 0 rfl rfl (dc d_X12_wipe 1 rfl) ?_
  refine lv_istore_n (lv' := [(1, .int t_signMany), (0, .ref tq0)]) hx hb (dc d_X12_wipe 2 rfl) rfl hl (by decide) rfl (fun ls hl => ?_)
  refine lv_aload_n hx hb (dc d_X12_wipe 3 rfl) rfl (lv_at hl 1 rfl) ?_
  refine lv_iconst (v := (0 : Int32)) hx hb (dc d_X12_wipe 4 rfl) (by decide) ?_
  refine x_put C hw fl_X12_95 fw_X12_1 0 rfl rfl rfl (Nat.le_of_ble_eq_true rfl) (dc d_X12_wipe 5 rfl) (fun H locs hw => ?_)
  dsimp only [w_X12, mix, List.set_cons_succ, List.set_cons_zero] at hw
  have hw : Wd D A s.heap (w_X12 cI cC cZ tq0 tq1 tq2 tq3 tq4 tq5 tq6 tq7 tq8 tq9 tq10 tq11 tq12 tq13 tq14 tq15 tq16 tq17 tq18 tq19 tq20 tq21 tq22 tq23 tq24 t_signs (0 : Int32) t_lineOf t_strengthOf t_waterOf t_backOf t_passes t_tried t_table t_numbers t_bends t_wished t_itemLine t_itemStrength t_itemWater t_itemBack t_items t_worstThen t_reading t_isRead t_readSum t_readMany t_spanLow t_spanHigh t_weldLine t_weldPull t_welds t_orderOf t_bestOrder t_smithOf t_bestSmith t_busy) H locs := hw
  refine lv_iload_n hx hb (dc d_X12_wipe 6 rfl) rfl (lv_at hl 0 rfl) ?_
  cases hf
  exact x_iret C hA hQ hw rfl rfl (dc d_X12_wipe 7 rfl)
set_option maxHeartbeats 4000000 in
set_option maxRecDepth 100000 in
theorem k_X12_stepOf (n : Nat) {l : Launch} {D : va_G} {cI cC cZ : ClassId}   {x0 : Int32} {x1 : Int32} {o : Int32} (hf : f_X12_stepOf n x0 x1 = some o) : Ctr l yX12_stepOf cX12_stepOf 2 (some .int) 1 25 D cI cC cZ [.int x0, .int x1] [] [] (some (.int o)) := by
  refine Ctr.of (by decide) (Nat.le_of_ble_eq_true rfl) ?_
  intro p e s m args below meth c ls A Q hA hQ C hl hw
  have hx := C.1
  have hb := C.2.1
  have hl : lv_has ls 2 [(0, .int x0), (1, .int x1)] := hl
  have L111 : ∀ (n : Nat), ∀ (v0 : Int32) (v1 : Int32) (H : Heap) (locs : List Loc) (ls : Array Slot), Wd D A s.heap [] H locs → lv_has ls 2 [(0, .int v0), (1, .int v1)] → f_X12_stepOf_111  n v0 v1 = some o → W p l e (rmOf 1 25) s m args below meth c H locs 0 0 Q (F0 m 111 ls []) := by
    intro  n v0 v1 H locs ls hw hl hf
    refine lv_iload_n hx hb (dc d_X12_stepOf 45 rfl) rfl (lv_at hl 1 rfl) ?_
    refine lv_bipush (v := (98 : Int32)) hx hb (dc d_X12_stepOf 46 rfl) (by decide) ?_
    refine lv_icmp_ne (tgt := 126) hx hb (dc d_X12_stepOf 47 rfl) (by decide) (fun c13 => ?_) (fun c13 => ?_)
    · have hf := g_f hf c13
      refine lv_iconst (v := (-1 : Int32)) hx hb (dc d_X12_stepOf 53 rfl) (by decide) ?_
      cases hf
      exact x_iret C hA hQ hw rfl rfl (dc d_X12_stepOf 54 rfl)
    · have hf := g_t hf c13
      refine lv_iload_n hx hb (dc d_X12_stepOf 48 rfl) rfl (lv_at hl 0 rfl) ?_
      refine lv_iconst (v := (5 : Int32)) hx hb (dc d_X12_stepOf 49 rfl) (by decide) ?_
      refine lv_icmp_ge (tgt := 126) hx hb (dc d_X12_stepOf 50 rfl) (by decide) (fun c14 => ?_) (fun c14 => ?_)
      · have hf := g_t hf c14
        refine lv_iconst (v := (-1 : Int32)) hx hb (dc d_X12_stepOf 53 rfl) (by decide) ?_
        cases hf
        exact x_iret C hA hQ hw rfl rfl (dc d_X12_stepOf 54 rfl)
      · have hf := g_f hf c14
        refine lv_iconst (v := (5 : Int32)) hx hb (dc d_X12_stepOf 51 rfl) (by decide) ?_
        refine lv_goto (tgt := 127) hx hb (dc d_X12_stepOf 52 rfl) (by decide) ?_
        cases hf
        exact x_iret C hA hQ hw rfl rfl (dc d_X12_stepOf 54 rfl)
  refine lv_iload_n hx hb (dc d_X12_stepOf 0 rfl) rfl (lv_at hl 0 rfl) ?_
  by_cases c1 : x0 = (0 : Int32)
  · have hf := g_t hf c1
    refine lv_tableIn (off := 27) (tgt := 28) hx hb (dc d_X12_stepOf 1 rfl) (by rw [c1]; decide) (by rw [c1]; decide) (by rw [c1]; rfl) (by decide) ?_
    refine lv_iload_n hx hb (dc d_X12_stepOf 2 rfl) rfl (lv_at hl 1 rfl) ?_
    refine lv_bipush (v := (118 : Int32)) hx hb (dc d_X12_stepOf 3 rfl) (by decide) ?_
    refine lv_icmp_eq (tgt := 40) hx hb (dc d_X12_stepOf 4 rfl) (by decide) (fun c2 => ?_) (fun c2 => ?_)
    · have hf := g_t hf c2
      refine lv_iconst (v := (1 : Int32)) hx hb (dc d_X12_stepOf 8 rfl) (by decide) ?_
      refine lv_goto (tgt := 45) hx hb (dc d_X12_stepOf 9 rfl) (by decide) ?_
      cases hf
      exact x_iret C hA hQ hw rfl rfl (dc d_X12_stepOf 11 rfl)
    · have hf := g_f hf c2
      refine lv_iload_n hx hb (dc d_X12_stepOf 5 rfl) rfl (lv_at hl 1 rfl) ?_
      refine lv_bipush (v := (104 : Int32)) hx hb (dc d_X12_stepOf 6 rfl) (by decide) ?_
      refine lv_icmp_ne (tgt := 44) hx hb (dc d_X12_stepOf 7 rfl) (by decide) (fun c3 => ?_) (fun c3 => ?_)
      · have hf := g_f hf c3
        refine lv_iconst (v := (-1 : Int32)) hx hb (dc d_X12_stepOf 10 rfl) (by decide) ?_
        cases hf
        exact x_iret C hA hQ hw rfl rfl (dc d_X12_stepOf 11 rfl)
      · have hf := g_t hf c3
        refine lv_iconst (v := (1 : Int32)) hx hb (dc d_X12_stepOf 8 rfl) (by decide) ?_
        refine lv_goto (tgt := 45) hx hb (dc d_X12_stepOf 9 rfl) (by decide) ?_
        cases hf
        exact x_iret C hA hQ hw rfl rfl (dc d_X12_stepOf 11 rfl)
  have hf := g_f hf c1
  by_cases c4 : x0 = (1 : Int32)
  · have hf := g_t hf c4
    refine lv_tableIn (off := 45) (tgt := 46) hx hb (dc d_X12_stepOf 1 rfl) (by rw [c4]; decide) (by rw [c4]; decide) (by rw [c4]; rfl) (by decide) ?_
    refine lv_iload_n hx hb (dc d_X12_stepOf 12 rfl) rfl (lv_at hl 1 rfl) ?_
    refine lv_i2l (v := x1.toInt64) hx hb (dc d_X12_stepOf 13 rfl) rfl ?_
    refine x_ldc2 (v := (49 : Int64)) C cn_X12_99 (dc d_X12_stepOf 14 rfl) ?_
    refine x_ldc2 (v := (52 : Int64)) C cn_X12_101 (dc d_X12_stepOf 15 rfl) ?_
    obtain ⟨q5, hq5, hf⟩ := g_bd hf
    refine x_callS C hw mb_X12_in ms_X12_in ml_X12_85 (k_X12_in n hq5) hl.1 rfl rfl [] rfl rfl rfl (Nat.le_of_ble_eq_true rfl) (Nat.le_of_ble_eq_true rfl) (Nat.le_of_ble_eq_true rfl) (dc d_X12_stepOf 16 rfl) (fun H locs hw => ?_)
    refine W.eq (g2 := F0 m 57 ls [.int q5]) rfl ?_
    have hw : Wd D A s.heap [] H locs := hw
    refine lv_if_eq (tgt := 64) hx hb (dc d_X12_stepOf 17 rfl) (by decide) (fun c6 => ?_) (fun c6 => ?_)
    · have hf := g_t hf c6
      refine lv_iconst (v := (-1 : Int32)) hx hb (dc d_X12_stepOf 20 rfl) (by decide) ?_
      cases hf
      exact x_iret C hA hQ hw rfl rfl (dc d_X12_stepOf 21 rfl)
    · have hf := g_f hf c6
      refine lv_iconst (v := (2 : Int32)) hx hb (dc d_X12_stepOf 18 rfl) (by decide) ?_
      refine lv_goto (tgt := 65) hx hb (dc d_X12_stepOf 19 rfl) (by decide) ?_
      cases hf
      exact x_iret C hA hQ hw rfl rfl (dc d_X12_stepOf 21 rfl)
  have hf := g_f hf c4
  by_cases c7 : x0 = (2 : Int32)
  · have hf := g_t hf c7
    refine lv_tableIn (off := 65) (tgt := 66) hx hb (dc d_X12_stepOf 1 rfl) (by rw [c7]; decide) (by rw [c7]; decide) (by rw [c7]; rfl) (by decide) ?_
    refine lv_iload_n hx hb (dc d_X12_stepOf 22 rfl) rfl (lv_at hl 1 rfl) ?_
    refine lv_i2l (v := x1.toInt64) hx hb (dc d_X12_stepOf 23 rfl) rfl ?_
    refine x_ldc2 (v := (49 : Int64)) C cn_X12_99 (dc d_X12_stepOf 24 rfl) ?_
    refine x_ldc2 (v := (57 : Int64)) C cn_X12_103 (dc d_X12_stepOf 25 rfl) ?_
    obtain ⟨q8, hq8, hf⟩ := g_bd hf
    refine x_callS C hw mb_X12_in ms_X12_in ml_X12_85 (k_X12_in n hq8) hl.1 rfl rfl [] rfl rfl rfl (Nat.le_of_ble_eq_true rfl) (Nat.le_of_ble_eq_true rfl) (Nat.le_of_ble_eq_true rfl) (dc d_X12_stepOf 26 rfl) (fun H locs hw => ?_)
    refine W.eq (g2 := F0 m 77 ls [.int q8]) rfl ?_
    have hw : Wd D A s.heap [] H locs := hw
    refine lv_if_eq (tgt := 84) hx hb (dc d_X12_stepOf 27 rfl) (by decide) (fun c9 => ?_) (fun c9 => ?_)
    · have hf := g_t hf c9
      refine lv_iconst (v := (-1 : Int32)) hx hb (dc d_X12_stepOf 30 rfl) (by decide) ?_
      cases hf
      exact x_iret C hA hQ hw rfl rfl (dc d_X12_stepOf 31 rfl)
    · have hf := g_f hf c9
      refine lv_iconst (v := (3 : Int32)) hx hb (dc d_X12_stepOf 28 rfl) (by decide) ?_
      refine lv_goto (tgt := 85) hx hb (dc d_X12_stepOf 29 rfl) (by decide) ?_
      cases hf
      exact x_iret C hA hQ hw rfl rfl (dc d_X12_stepOf 31 rfl)
  have hf := g_f hf c7
  refine lv_tableOut (tgt := 86) hx hb (dc d_X12_stepOf 1 rfl) (by have zc1 := sw_ne c1 (k := 0) (by decide); have zc4 := sw_ne c4 (k := 1) (by decide); have zc7 := sw_ne c7 (k := 2) (by decide); omega) (by decide) ?_
  refine lv_iload_n hx hb (dc d_X12_stepOf 32 rfl) rfl (lv_at hl 1 rfl) ?_
  refine lv_bipush (v := (59 : Int32)) hx hb (dc d_X12_stepOf 33 rfl) (by decide) ?_
  refine lv_icmp_ne (tgt := 96) hx hb (dc d_X12_stepOf 34 rfl) (by decide) (fun c10 => ?_) (fun c10 => ?_)
  · have hf := g_f hf c10
    refine lv_iload_n hx hb (dc d_X12_stepOf 37 rfl) rfl (lv_at hl 1 rfl) ?_
    refine lv_bipush (v := (119 : Int32)) hx hb (dc d_X12_stepOf 38 rfl) (by decide) ?_
    refine lv_icmp_ne (tgt := 111) hx hb (dc d_X12_stepOf 39 rfl) (by decide) (fun c11 => ?_) (fun c11 => ?_)
    · have hf := g_f hf c11
      exact L111  n x0 x1 _ _ _ hw (lv_sub hl [0, 1] rfl) hf
    · have hf := g_t hf c11
      refine lv_iload_n hx hb (dc d_X12_stepOf 40 rfl) rfl (lv_at hl 0 rfl) ?_
      refine lv_iconst (v := (3 : Int32)) hx hb (dc d_X12_stepOf 41 rfl) (by decide) ?_
      refine lv_icmp_ne (tgt := 111) hx hb (dc d_X12_stepOf 42 rfl) (by decide) (fun c12 => ?_) (fun c12 => ?_)
      · have hf := g_f hf c12
        exact L111  n x0 x1 _ _ _ hw (lv_sub hl [0, 1] rfl) hf
      · have hf := g_t hf c12
        refine lv_iconst (v := (4 : Int32)) hx hb (dc d_X12_stepOf 43 rfl) (by decide) ?_
        refine lv_goto (tgt := 127) hx hb (dc d_X12_stepOf 44 rfl) (by decide) ?_
        cases hf
        exact x_iret C hA hQ hw rfl rfl (dc d_X12_stepOf 54 rfl)
  · have hf := g_t hf c10
    refine lv_iconst (v := (0 : Int32)) hx hb (dc d_X12_stepOf 35 rfl) (by decide) ?_
    refine lv_goto (tgt := 127) hx hb (dc d_X12_stepOf 36 rfl) (by decide) ?_
    cases hf
    exact x_iret C hA hQ hw rfl rfl (dc d_X12_stepOf 54 rfl)
set_option maxHeartbeats 4000000 in
set_option maxRecDepth 100000 in
theorem k_X12_fault (n : Nat) {l : Launch} {D : va_G} {cI cC cZ : ClassId} {tq0 tq1 tq2 tq3 tq4 tq5 tq6 tq7 tq8 tq9 tq10 tq11 tq12 tq13 tq14 tq15 tq16 tq17 tq18 tq19 tq20 tq21 tq22 tq23 tq24 : Nat} {t_signs : Nat → Int32} {t_signMany : Int32} {t_lineOf : Nat → Int32} {t_strengthOf : Nat → Int32} {t_waterOf : Nat → Int32} {t_backOf : Nat → Int32} {t_passes : Int32} {t_tried : Int32} {t_table : Nat → Int32} {t_numbers : Nat → Int32} {t_bends : Nat → Int32} {t_wished : Nat → Int32} {t_itemLine : Nat → Int32} {t_itemStrength : Nat → Int32} {t_itemWater : Nat → Int32} {t_itemBack : Nat → Int32} {t_items : Int32} {t_worstThen : Int32} {t_reading : Nat → Int32} {t_isRead : Nat → Int32} {t_readSum : Int32} {t_readMany : Int32} {t_spanLow : Nat → Int32} {t_spanHigh : Nat → Int32} {t_weldLine : Nat → Int32} {t_weldPull : Nat → Int32} {t_welds : Int32} {t_orderOf : Nat → Int32} {t_bestOrder : Nat → Int32} {t_smithOf : Nat → Int32} {t_bestSmith : Nat → Int32} {t_busy : Nat → Int32}  {o : Int32} (hf : f_X12_fault n t_signs t_signMany = some o) : Ctr l yX12_fault cX12_fault 3 (some .int) 2 46 D cI cC cZ [.ref tq0] (w_X12 cI cC cZ tq0 tq1 tq2 tq3 tq4 tq5 tq6 tq7 tq8 tq9 tq10 tq11 tq12 tq13 tq14 tq15 tq16 tq17 tq18 tq19 tq20 tq21 tq22 tq23 tq24 t_signs t_signMany t_lineOf t_strengthOf t_waterOf t_backOf t_passes t_tried t_table t_numbers t_bends t_wished t_itemLine t_itemStrength t_itemWater t_itemBack t_items t_worstThen t_reading t_isRead t_readSum t_readMany t_spanLow t_spanHigh t_weldLine t_weldPull t_welds t_orderOf t_bestOrder t_smithOf t_bestSmith t_busy) (w_X12 cI cC cZ tq0 tq1 tq2 tq3 tq4 tq5 tq6 tq7 tq8 tq9 tq10 tq11 tq12 tq13 tq14 tq15 tq16 tq17 tq18 tq19 tq20 tq21 tq22 tq23 tq24 t_signs t_signMany t_lineOf t_strengthOf t_waterOf t_backOf t_passes t_tried t_table t_numbers t_bends t_wished t_itemLine t_itemStrength t_itemWater t_itemBack t_items t_worstThen t_reading t_isRead t_readSum t_readMany t_spanLow t_spanHigh t_weldLine t_weldPull t_welds t_orderOf t_bestOrder t_smithOf t_bestSmith t_busy) (some (.int o)) := by
  refine Ctr.of (by decide) (Nat.le_of_ble_eq_true rfl) ?_
  intro p e s m args below meth c ls A Q hA hQ C hl hw
  have hx := C.1
  have hb := C.2.1
  have hl : lv_has ls 3 [(0, .ref tq0)] := hl
  have L4 : ∀ (n : Nat), ∀ (v1 : Int32) (v2 : Int32) (H : Heap) (locs : List Loc) (ls : Array Slot), Wd D A s.heap (w_X12 cI cC cZ tq0 tq1 tq2 tq3 tq4 tq5 tq6 tq7 tq8 tq9 tq10 tq11 tq12 tq13 tq14 tq15 tq16 tq17 tq18 tq19 tq20 tq21 tq22 tq23 tq24 t_signs t_signMany t_lineOf t_strengthOf t_waterOf t_backOf t_passes t_tried t_table t_numbers t_bends t_wished t_itemLine t_itemStrength t_itemWater t_itemBack t_items t_worstThen t_reading t_isRead t_readSum t_readMany t_spanLow t_spanHigh t_weldLine t_weldPull t_welds t_orderOf t_bestOrder t_smithOf t_bestSmith t_busy) H locs → lv_has ls 3 [(0, .ref tq0), (1, .int v1), (2, .int v2)] → f_X12_fault_4 t_signs t_signMany  n v1 v2 = some o → W p l e (rmOf 2 46) s m args below meth c H locs 0 0 Q (F0 m 4 ls []) := by
    intro  n
    induction n with
    | zero => intro v1 v2 H locs ls hw hl hf; exact (no_none hf).elim
    | succ n ih =>
      intro v1 v2 H locs ls hw hl hf
      have hf : f_X12_fault_4b t_signs t_signMany  (f_X12_fault_4 t_signs t_signMany  n) n v1 v2 = some o := hf
      generalize f_X12_fault_4 t_signs t_signMany  n = k4 at hf ih
      refine lv_iload_n hx hb (dc d_X12_fault 4 rfl) rfl (lv_at hl 2 rfl) ?_
      refine lv_aload_n hx hb (dc d_X12_fault 5 rfl) rfl (lv_at hl 0 rfl) ?_
      refine x_get C hw fl_X12_95 0 rfl rfl (dc d_X12_fault 6 rfl) ?_
      refine lv_icmp_ge (tgt := 35) hx hb (dc d_X12_fault 7 rfl) (by decide) (fun c1 => ?_) (fun c1 => ?_)
      · have hf := g_t hf c1
        refine lv_iload_n hx hb (dc d_X12_fault 21 rfl) rfl (lv_at hl 1 rfl) ?_
        refine lv_iconst (v := (2 : Int32)) hx hb (dc d_X12_fault 22 rfl) (by decide) ?_
        refine lv_icmp_le (tgt := 45) hx hb (dc d_X12_fault 23 rfl) (by decide) (fun c2 => ?_) (fun c2 => ?_)
        · have hf := g_t hf c2
          refine lv_aload_n hx hb (dc d_X12_fault 26 rfl) rfl (lv_at hl 0 rfl) ?_
          refine x_get C hw fl_X12_95 0 rfl rfl (dc d_X12_fault 27 rfl) ?_
          cases hf
          exact x_iret C hA hQ hw rfl rfl (dc d_X12_fault 28 rfl)
        · have hf := g_f hf c2
          refine lv_bipush (v := (-6 : Int32)) hx hb (dc d_X12_fault 24 rfl) (by decide) ?_
          refine lv_goto (tgt := 49) hx hb (dc d_X12_fault 25 rfl) (by decide) ?_
          cases hf
          exact x_iret C hA hQ hw rfl rfl (dc d_X12_fault 28 rfl)
      · have hf := g_f hf c1
        refine lv_iload_n hx hb (dc d_X12_fault 8 rfl) rfl (lv_at hl 1 rfl) ?_
        refine lv_aload_n hx hb (dc d_X12_fault 9 rfl) rfl (lv_at hl 0 rfl) ?_
        refine x_get C hw fl_X12_7 0 rfl rfl (dc d_X12_fault 10 rfl) ?_
        refine lv_iload_n hx hb (dc d_X12_fault 11 rfl) rfl (lv_at hl 2 rfl) ?_
        have hi := grd_b hf
        have hf := grd_x hf
        refine x_iald C hw 1 rfl hi (dc d_X12_fault 12 rfl) ?_
        obtain ⟨q3, hq3, hf⟩ := g_bd hf
        refine x_callS C hw mb_X12_stepOf ms_X12_stepOf ml_X12_105 (k_X12_stepOf n hq3) hl.1 rfl rfl [] rfl rfl rfl (Nat.le_of_ble_eq_true rfl) (Nat.le_of_ble_eq_true rfl) (Nat.le_of_ble_eq_true rfl) (dc d_X12_fault 13 rfl) (fun H locs hw => ?_)
        refine W.eq (g2 := F0 m 22 ls [.int q3]) rfl ?_
        have hw : Wd D A s.heap (w_X12 cI cC cZ tq0 tq1 tq2 tq3 tq4 tq5 tq6 tq7 tq8 tq9 tq10 tq11 tq12 tq13 tq14 tq15 tq16 tq17 tq18 tq19 tq20 tq21 tq22 tq23 tq24 t_signs t_signMany t_lineOf t_strengthOf t_waterOf t_backOf t_passes t_tried t_table t_numbers t_bends t_wished t_itemLine t_itemStrength t_itemWater t_itemBack t_items t_worstThen t_reading t_isRead t_readSum t_readMany t_spanLow t_spanHigh t_weldLine t_weldPull t_welds t_orderOf t_bestOrder t_smithOf t_bestSmith t_busy) H locs := hw
        refine lv_istore_n (lv' := [(1, .int q3), (0, .ref tq0), (2, .int v2)]) hx hb (dc d_X12_fault 14 rfl) rfl hl (by decide) rfl (fun ls hl => ?_)
        refine lv_iload_n hx hb (dc d_X12_fault 15 rfl) rfl (lv_at hl 0 rfl) ?_
        refine lv_if_ge (tgt := 29) hx hb (dc d_X12_fault 16 rfl) (by decide) (fun c4 => ?_) (fun c4 => ?_)
        · have hf := g_t hf c4
          refine lv_iinc (v := (v2 + (1 : Int32))) (lv' := [(2, .int (v2 + (1 : Int32))), (1, .int q3), (0, .ref tq0)]) hx hb (dc d_X12_fault 19 rfl) hl (k := 2) rfl (ii (by decide)) (by decide) rfl (fun ls hl => ?_)
          refine lv_goto (tgt := 4) hx hb (dc d_X12_fault 20 rfl) (by decide) ?_
          exact ih q3 (v2 + (1 : Int32)) _ _ _ hw (lv_sub hl [2, 1, 0] rfl) hf
        · have hf := g_f hf c4
          refine lv_iload_n hx hb (dc d_X12_fault 17 rfl) rfl (lv_at hl 2 rfl) ?_
          cases hf
          exact x_iret C hA hQ hw rfl rfl (dc d_X12_fault 18 rfl)
  refine lv_iconst (v := (0 : Int32)) hx hb (dc d_X12_fault 0 rfl) (by decide) ?_
  refine lv_istore_n (lv' := [(1, .int (0 : Int32)), (0, .ref tq0)]) hx hb (dc d_X12_fault 1 rfl) rfl hl (by decide) rfl (fun ls hl => ?_)
  refine lv_iconst (v := (0 : Int32)) hx hb (dc d_X12_fault 2 rfl) (by decide) ?_
  refine lv_istore_n (lv' := [(2, .int (0 : Int32)), (1, .int (0 : Int32)), (0, .ref tq0)]) hx hb (dc d_X12_fault 3 rfl) rfl hl (by decide) rfl (fun ls hl => ?_)
  exact L4  n (0 : Int32) (0 : Int32) _ _ _ hw (lv_sub hl [2, 1, 0] rfl) hf
set_option maxHeartbeats 4000000 in
set_option maxRecDepth 100000 in
theorem k_X12_saidPasses (n : Nat) {l : Launch} {D : va_G} {cI cC cZ : ClassId} {tq0 tq1 tq2 tq3 tq4 tq5 tq6 tq7 tq8 tq9 tq10 tq11 tq12 tq13 tq14 tq15 tq16 tq17 tq18 tq19 tq20 tq21 tq22 tq23 tq24 : Nat} {t_signs : Nat → Int32} {t_signMany : Int32} {t_lineOf : Nat → Int32} {t_strengthOf : Nat → Int32} {t_waterOf : Nat → Int32} {t_backOf : Nat → Int32} {t_passes : Int32} {t_tried : Int32} {t_table : Nat → Int32} {t_numbers : Nat → Int32} {t_bends : Nat → Int32} {t_wished : Nat → Int32} {t_itemLine : Nat → Int32} {t_itemStrength : Nat → Int32} {t_itemWater : Nat → Int32} {t_itemBack : Nat → Int32} {t_items : Int32} {t_worstThen : Int32} {t_reading : Nat → Int32} {t_isRead : Nat → Int32} {t_readSum : Int32} {t_readMany : Int32} {t_spanLow : Nat → Int32} {t_spanHigh : Nat → Int32} {t_weldLine : Nat → Int32} {t_weldPull : Nat → Int32} {t_welds : Int32} {t_orderOf : Nat → Int32} {t_bestOrder : Nat → Int32} {t_smithOf : Nat → Int32} {t_bestSmith : Nat → Int32} {t_busy : Nat → Int32}  {o : Int32} (hf : f_X12_saidPasses n t_signs t_signMany = some o) : Ctr l yX12_saidPasses cX12_saidPasses 3 (some .int) 0 0 D cI cC cZ [.ref tq0] (w_X12 cI cC cZ tq0 tq1 tq2 tq3 tq4 tq5 tq6 tq7 tq8 tq9 tq10 tq11 tq12 tq13 tq14 tq15 tq16 tq17 tq18 tq19 tq20 tq21 tq22 tq23 tq24 t_signs t_signMany t_lineOf t_strengthOf t_waterOf t_backOf t_passes t_tried t_table t_numbers t_bends t_wished t_itemLine t_itemStrength t_itemWater t_itemBack t_items t_worstThen t_reading t_isRead t_readSum t_readMany t_spanLow t_spanHigh t_weldLine t_weldPull t_welds t_orderOf t_bestOrder t_smithOf t_bestSmith t_busy) (w_X12 cI cC cZ tq0 tq1 tq2 tq3 tq4 tq5 tq6 tq7 tq8 tq9 tq10 tq11 tq12 tq13 tq14 tq15 tq16 tq17 tq18 tq19 tq20 tq21 tq22 tq23 tq24 t_signs t_signMany t_lineOf t_strengthOf t_waterOf t_backOf t_passes t_tried t_table t_numbers t_bends t_wished t_itemLine t_itemStrength t_itemWater t_itemBack t_items t_worstThen t_reading t_isRead t_readSum t_readMany t_spanLow t_spanHigh t_weldLine t_weldPull t_welds t_orderOf t_bestOrder t_smithOf t_bestSmith t_busy) (some (.int o)) := by
  refine Ctr.of (by decide) (Nat.le_of_ble_eq_true rfl) ?_
  intro p e s m args below meth c ls A Q hA hQ C hl hw
  have hx := C.1
  have hb := C.2.1
  have hl : lv_has ls 3 [(0, .ref tq0)] := hl
  have L4 : ∀ (n : Nat), ∀ (v1 : Int32) (v2 : Int32) (H : Heap) (locs : List Loc) (ls : Array Slot), Wd D A s.heap (w_X12 cI cC cZ tq0 tq1 tq2 tq3 tq4 tq5 tq6 tq7 tq8 tq9 tq10 tq11 tq12 tq13 tq14 tq15 tq16 tq17 tq18 tq19 tq20 tq21 tq22 tq23 tq24 t_signs t_signMany t_lineOf t_strengthOf t_waterOf t_backOf t_passes t_tried t_table t_numbers t_bends t_wished t_itemLine t_itemStrength t_itemWater t_itemBack t_items t_worstThen t_reading t_isRead t_readSum t_readMany t_spanLow t_spanHigh t_weldLine t_weldPull t_welds t_orderOf t_bestOrder t_smithOf t_bestSmith t_busy) H locs → lv_has ls 3 [(0, .ref tq0), (1, .int v1), (2, .int v2)] → f_X12_saidPasses_4 t_signs t_signMany  n v1 v2 = some o → W p l e (rmOf 0 0) s m args below meth c H locs 0 0 Q (F0 m 4 ls []) := by
    intro  n
    induction n with
    | zero => intro v1 v2 H locs ls hw hl hf; exact (no_none hf).elim
    | succ n ih =>
      intro v1 v2 H locs ls hw hl hf
      have hf : f_X12_saidPasses_4b t_signs t_signMany  (f_X12_saidPasses_4 t_signs t_signMany  n) n v1 v2 = some o := hf
      generalize f_X12_saidPasses_4 t_signs t_signMany  n = k4 at hf ih
      refine lv_iload_n hx hb (dc d_X12_saidPasses 4 rfl) rfl (lv_at hl 2 rfl) ?_
      refine lv_aload_n hx hb (dc d_X12_saidPasses 5 rfl) rfl (lv_at hl 0 rfl) ?_
      refine x_get C hw fl_X12_95 0 rfl rfl (dc d_X12_saidPasses 6 rfl) ?_
      refine lv_icmp_ge (tgt := 37) hx hb (dc d_X12_saidPasses 7 rfl) (by decide) (fun c1 => ?_) (fun c1 => ?_)
      · have hf := g_t hf c1
        refine lv_iload_n hx hb (dc d_X12_saidPasses 22 rfl) rfl (lv_at hl 1 rfl) ?_
        cases hf
        exact x_iret C hA hQ hw rfl rfl (dc d_X12_saidPasses 23 rfl)
      · have hf := g_f hf c1
        refine lv_iload_n hx hb (dc d_X12_saidPasses 8 rfl) rfl (lv_at hl 1 rfl) ?_
        refine lv_aload_n hx hb (dc d_X12_saidPasses 9 rfl) rfl (lv_at hl 0 rfl) ?_
        refine x_get C hw fl_X12_7 0 rfl rfl (dc d_X12_saidPasses 10 rfl) ?_
        refine lv_iload_n hx hb (dc d_X12_saidPasses 11 rfl) rfl (lv_at hl 2 rfl) ?_
        have hi := grd_b hf
        have hf := grd_x hf
        refine x_iald C hw 1 rfl hi (dc d_X12_saidPasses 12 rfl) ?_
        refine lv_bipush (v := (59 : Int32)) hx hb (dc d_X12_saidPasses 13 rfl) (by decide) ?_
        refine lv_icmp_ne (tgt := 28) hx hb (dc d_X12_saidPasses 14 rfl) (by decide) (fun c2 => ?_) (fun c2 => ?_)
        · have hf := g_f hf c2
          refine lv_iconst (v := (0 : Int32)) hx hb (dc d_X12_saidPasses 17 rfl) (by decide) ?_
          refine lv_iadd hx hb (dc d_X12_saidPasses 18 rfl) ?_
          refine lv_topi (fun y3 ey3 => ?_)
          have hf := g_nm hf ey3
          refine lv_istore_n (lv' := [(1, .int y3), (0, .ref tq0), (2, .int v2)]) hx hb (dc d_X12_saidPasses 19 rfl) rfl hl (by decide) rfl (fun ls hl => ?_)
          refine lv_iinc (v := (v2 + (1 : Int32))) (lv' := [(2, .int (v2 + (1 : Int32))), (1, .int y3), (0, .ref tq0)]) hx hb (dc d_X12_saidPasses 20 rfl) hl (k := 2) rfl (ii (by decide)) (by decide) rfl (fun ls hl => ?_)
          refine lv_goto (tgt := 4) hx hb (dc d_X12_saidPasses 21 rfl) (by decide) ?_
          exact ih y3 (v2 + (1 : Int32)) _ _ _ hw (lv_sub hl [2, 1, 0] rfl) hf
        · have hf := g_t hf c2
          refine lv_iconst (v := (1 : Int32)) hx hb (dc d_X12_saidPasses 15 rfl) (by decide) ?_
          refine lv_goto (tgt := 29) hx hb (dc d_X12_saidPasses 16 rfl) (by decide) ?_
          refine lv_iadd hx hb (dc d_X12_saidPasses 18 rfl) ?_
          refine lv_topi (fun y4 ey4 => ?_)
          have hf := g_nm hf ey4
          refine lv_istore_n (lv' := [(1, .int y4), (0, .ref tq0), (2, .int v2)]) hx hb (dc d_X12_saidPasses 19 rfl) rfl hl (by decide) rfl (fun ls hl => ?_)
          refine lv_iinc (v := (v2 + (1 : Int32))) (lv' := [(2, .int (v2 + (1 : Int32))), (1, .int y4), (0, .ref tq0)]) hx hb (dc d_X12_saidPasses 20 rfl) hl (k := 2) rfl (ii (by decide)) (by decide) rfl (fun ls hl => ?_)
          refine lv_goto (tgt := 4) hx hb (dc d_X12_saidPasses 21 rfl) (by decide) ?_
          exact ih y4 (v2 + (1 : Int32)) _ _ _ hw (lv_sub hl [2, 1, 0] rfl) hf
  refine lv_iconst (v := (1 : Int32)) hx hb (dc d_X12_saidPasses 0 rfl) (by decide) ?_
  refine lv_istore_n (lv' := [(1, .int (1 : Int32)), (0, .ref tq0)]) hx hb (dc d_X12_saidPasses 1 rfl) rfl hl (by decide) rfl (fun ls hl => ?_)
  refine lv_iconst (v := (0 : Int32)) hx hb (dc d_X12_saidPasses 2 rfl) (by decide) ?_
  refine lv_istore_n (lv' := [(2, .int (0 : Int32)), (1, .int (1 : Int32)), (0, .ref tq0)]) hx hb (dc d_X12_saidPasses 3 rfl) rfl hl (by decide) rfl (fun ls hl => ?_)
  exact L4  n (1 : Int32) (0 : Int32) _ _ _ hw (lv_sub hl [2, 1, 0] rfl) hf
set_option maxHeartbeats 4000000 in
set_option maxRecDepth 100000 in
theorem k_X12_take (n : Nat) {l : Launch} {D : va_G} {cI cC cZ : ClassId} {tq0 tq1 tq2 tq3 tq4 tq5 tq6 tq7 tq8 tq9 tq10 tq11 tq12 tq13 tq14 tq15 tq16 tq17 tq18 tq19 tq20 tq21 tq22 tq23 tq24 : Nat} {t_signs : Nat → Int32} {t_signMany : Int32} {t_lineOf : Nat → Int32} {t_strengthOf : Nat → Int32} {t_waterOf : Nat → Int32} {t_backOf : Nat → Int32} {t_passes : Int32} {t_tried : Int32} {t_table : Nat → Int32} {t_numbers : Nat → Int32} {t_bends : Nat → Int32} {t_wished : Nat → Int32} {t_itemLine : Nat → Int32} {t_itemStrength : Nat → Int32} {t_itemWater : Nat → Int32} {t_itemBack : Nat → Int32} {t_items : Int32} {t_worstThen : Int32} {t_reading : Nat → Int32} {t_isRead : Nat → Int32} {t_readSum : Int32} {t_readMany : Int32} {t_spanLow : Nat → Int32} {t_spanHigh : Nat → Int32} {t_weldLine : Nat → Int32} {t_weldPull : Nat → Int32} {t_welds : Int32} {t_orderOf : Nat → Int32} {t_bestOrder : Nat → Int32} {t_smithOf : Nat → Int32} {t_bestSmith : Nat → Int32} {t_busy : Nat → Int32}  {o : Int32 × Int32 × (Nat → Int32) × (Nat → Int32) × (Nat → Int32) × (Nat → Int32) × Int32} (hf : f_X12_take n t_signs t_signMany t_lineOf t_strengthOf t_waterOf t_backOf t_passes = some o) : Ctr l yX12_take cX12_take 2 (some .int) 3 68 D cI cC cZ [.ref tq0] (w_X12 cI cC cZ tq0 tq1 tq2 tq3 tq4 tq5 tq6 tq7 tq8 tq9 tq10 tq11 tq12 tq13 tq14 tq15 tq16 tq17 tq18 tq19 tq20 tq21 tq22 tq23 tq24 t_signs t_signMany t_lineOf t_strengthOf t_waterOf t_backOf t_passes t_tried t_table t_numbers t_bends t_wished t_itemLine t_itemStrength t_itemWater t_itemBack t_items t_worstThen t_reading t_isRead t_readSum t_readMany t_spanLow t_spanHigh t_weldLine t_weldPull t_welds t_orderOf t_bestOrder t_smithOf t_bestSmith t_busy) (w_X12 cI cC cZ tq0 tq1 tq2 tq3 tq4 tq5 tq6 tq7 tq8 tq9 tq10 tq11 tq12 tq13 tq14 tq15 tq16 tq17 tq18 tq19 tq20 tq21 tq22 tq23 tq24 t_signs o.2.1 o.2.2.1 o.2.2.2.1 o.2.2.2.2.1 o.2.2.2.2.2.1 o.2.2.2.2.2.2 t_tried t_table t_numbers t_bends t_wished t_itemLine t_itemStrength t_itemWater t_itemBack t_items t_worstThen t_reading t_isRead t_readSum t_readMany t_spanLow t_spanHigh t_weldLine t_weldPull t_welds t_orderOf t_bestOrder t_smithOf t_bestSmith t_busy) (some (.int o.1)) := by
  refine Ctr.of (by decide) (Nat.le_of_ble_eq_true rfl) ?_
  intro p e s m args below meth c ls A Q hA hQ C hl hw
  have hx := C.1
  have hb := C.2.1
  have hl : lv_has ls 2 [(0, .ref tq0)] := hl
  have L168 : ∀ (k29 : (Int32) → (Nat → Int32) → (Nat → Int32) → (Nat → Int32) → (Nat → Int32) → (Int32) → (Int32) → Option (Int32 × Int32 × (Nat → Int32) × (Nat → Int32) × (Nat → Int32) × (Nat → Int32) × Int32)), (∀ (t_signMany : Int32) (t_lineOf : Nat → Int32) (t_strengthOf : Nat → Int32) (t_waterOf : Nat → Int32) (t_backOf : Nat → Int32) (t_passes : Int32) (v1 : Int32) (H : Heap) (locs : List Loc) (ls : Array Slot), Wd D A s.heap (w_X12 cI cC cZ tq0 tq1 tq2 tq3 tq4 tq5 tq6 tq7 tq8 tq9 tq10 tq11 tq12 tq13 tq14 tq15 tq16 tq17 tq18 tq19 tq20 tq21 tq22 tq23 tq24 t_signs t_signMany t_lineOf t_strengthOf t_waterOf t_backOf t_passes t_tried t_table t_numbers t_bends t_wished t_itemLine t_itemStrength t_itemWater t_itemBack t_items t_worstThen t_reading t_isRead t_readSum t_readMany t_spanLow t_spanHigh t_weldLine t_weldPull t_welds t_orderOf t_bestOrder t_smithOf t_bestSmith t_busy) H locs → lv_has ls 2 [(0, .ref tq0), (1, .int v1)] → k29 t_signMany t_lineOf t_strengthOf t_waterOf t_backOf t_passes v1 = some o → W p l e (rmOf 3 68) s m args below meth c H locs 0 0 Q (F0 m 29 ls [])) → ∀ (k117 : (Int32) → (Nat → Int32) → (Nat → Int32) → (Nat → Int32) → (Nat → Int32) → (Int32) → (Int32) → Option (Int32 × Int32 × (Nat → Int32) × (Nat → Int32) × (Nat → Int32) × (Nat → Int32) × Int32)), (∀ (t_signMany : Int32) (t_lineOf : Nat → Int32) (t_strengthOf : Nat → Int32) (t_waterOf : Nat → Int32) (t_backOf : Nat → Int32) (t_passes : Int32) (v1 : Int32) (H : Heap) (locs : List Loc) (ls : Array Slot), Wd D A s.heap (w_X12 cI cC cZ tq0 tq1 tq2 tq3 tq4 tq5 tq6 tq7 tq8 tq9 tq10 tq11 tq12 tq13 tq14 tq15 tq16 tq17 tq18 tq19 tq20 tq21 tq22 tq23 tq24 t_signs t_signMany t_lineOf t_strengthOf t_waterOf t_backOf t_passes t_tried t_table t_numbers t_bends t_wished t_itemLine t_itemStrength t_itemWater t_itemBack t_items t_worstThen t_reading t_isRead t_readSum t_readMany t_spanLow t_spanHigh t_weldLine t_weldPull t_welds t_orderOf t_bestOrder t_smithOf t_bestSmith t_busy) H locs → lv_has ls 2 [(0, .ref tq0), (1, .int v1)] → k117 t_signMany t_lineOf t_strengthOf t_waterOf t_backOf t_passes v1 = some o → W p l e (rmOf 3 68) s m args below meth c H locs 0 0 Q (F0 m 117 ls [])) → ∀ (n : Nat), ∀ (t_signMany : Int32) (t_lineOf : Nat → Int32) (t_strengthOf : Nat → Int32) (t_waterOf : Nat → Int32) (t_backOf : Nat → Int32) (t_passes : Int32) (v1 : Int32) (s0 : Int32) (s1 : Int32) (H : Heap) (locs : List Loc) (ls : Array Slot), Wd D A s.heap (w_X12 cI cC cZ tq0 tq1 tq2 tq3 tq4 tq5 tq6 tq7 tq8 tq9 tq10 tq11 tq12 tq13 tq14 tq15 tq16 tq17 tq18 tq19 tq20 tq21 tq22 tq23 tq24 t_signs t_signMany t_lineOf t_strengthOf t_waterOf t_backOf t_passes t_tried t_table t_numbers t_bends t_wished t_itemLine t_itemStrength t_itemWater t_itemBack t_items t_worstThen t_reading t_isRead t_readSum t_readMany t_spanLow t_spanHigh t_weldLine t_weldPull t_welds t_orderOf t_bestOrder t_smithOf t_bestSmith t_busy) H locs → lv_has ls 2 [(0, .ref tq0), (1, .int v1)] → f_X12_take_168 t_signs k29 k117 n t_signMany t_lineOf t_strengthOf t_waterOf t_backOf t_passes v1 s0 s1 = some o → W p l e (rmOf 3 68) s m args below meth c H locs 0 0 Q (F0 m 168 ls [.int s0, .int s1, .ref tq4]) := by
    intro k29 H29 k117 H117 n t_signMany t_lineOf t_strengthOf t_waterOf t_backOf t_passes v1 s0 s1 H locs ls hw hl hf
    have hi := grd_b hf
    have hf := grd_x hf
    refine x_iast C hw 4 rfl hi (dc d_X12_take 96 rfl) (fun H locs hw => ?_)
    dsimp only [w_X12, mix, List.set_cons_succ, List.set_cons_zero] at hw
    have hw : Wd D A s.heap (w_X12 cI cC cZ tq0 tq1 tq2 tq3 tq4 tq5 tq6 tq7 tq8 tq9 tq10 tq11 tq12 tq13 tq14 tq15 tq16 tq17 tq18 tq19 tq20 tq21 tq22 tq23 tq24 t_signs t_signMany t_lineOf t_strengthOf (upd t_waterOf s1.toNatClampNeg s0) t_backOf t_passes t_tried t_table t_numbers t_bends t_wished t_itemLine t_itemStrength t_itemWater t_itemBack t_items t_worstThen t_reading t_isRead t_readSum t_readMany t_spanLow t_spanHigh t_weldLine t_weldPull t_welds t_orderOf t_bestOrder t_smithOf t_bestSmith t_busy) H locs := hw
    refine lv_aload_n hx hb (dc d_X12_take 97 rfl) rfl (lv_at hl 0 rfl) ?_
    refine x_get C hw fl_X12_22 0 rfl rfl (dc d_X12_take 98 rfl) ?_
    refine lv_aload_n hx hb (dc d_X12_take 99 rfl) rfl (lv_at hl 0 rfl) ?_
    refine x_get C hw fl_X12_113 0 rfl rfl (dc d_X12_take 100 rfl) ?_
    refine lv_aload_n hx hb (dc d_X12_take 101 rfl) rfl (lv_at hl 0 rfl) ?_
    refine x_get C hw fl_X12_7 0 rfl rfl (dc d_X12_take 102 rfl) ?_
    refine lv_iload_n hx hb (dc d_X12_take 103 rfl) rfl (lv_at hl 1 rfl) ?_
    have hi := grd_b hf
    have hf := grd_x hf
    refine x_iald C hw 1 rfl hi (dc d_X12_take 104 rfl) ?_
    refine lv_bipush (v := (98 : Int32)) hx hb (dc d_X12_take 105 rfl) (by decide) ?_
    refine lv_icmp_ne (tgt := 192) hx hb (dc d_X12_take 106 rfl) (by decide) (fun c10 => ?_) (fun c10 => ?_)
    · have hf := g_f hf c10
      refine lv_aload_n hx hb (dc d_X12_take 109 rfl) rfl (lv_at hl 0 rfl) ?_
      refine x_get C hw fl_X12_22 0 rfl rfl (dc d_X12_take 110 rfl) ?_
      refine lv_aload_n hx hb (dc d_X12_take 111 rfl) rfl (lv_at hl 0 rfl) ?_
      refine x_get C hw fl_X12_113 0 rfl rfl (dc d_X12_take 112 rfl) ?_
      have hi := grd_b hf
      have hf := grd_x hf
      refine x_iald C hw 5 rfl hi (dc d_X12_take 113 rfl) ?_
      have hi := grd_b hf
      have hf := grd_x hf
      refine x_iast C hw 5 rfl hi (dc d_X12_take 114 rfl) (fun H locs hw => ?_)
      dsimp only [w_X12, mix, List.set_cons_succ, List.set_cons_zero] at hw
      have hw : Wd D A s.heap (w_X12 cI cC cZ tq0 tq1 tq2 tq3 tq4 tq5 tq6 tq7 tq8 tq9 tq10 tq11 tq12 tq13 tq14 tq15 tq16 tq17 tq18 tq19 tq20 tq21 tq22 tq23 tq24 t_signs t_signMany t_lineOf t_strengthOf (upd t_waterOf s1.toNatClampNeg s0) (upd t_backOf t_passes.toNatClampNeg (t_backOf t_passes.toNatClampNeg)) t_passes t_tried t_table t_numbers t_bends t_wished t_itemLine t_itemStrength t_itemWater t_itemBack t_items t_worstThen t_reading t_isRead t_readSum t_readMany t_spanLow t_spanHigh t_weldLine t_weldPull t_welds t_orderOf t_bestOrder t_smithOf t_bestSmith t_busy) H locs := hw
      refine lv_iinc (v := (v1 + (1 : Int32))) (lv' := [(1, .int (v1 + (1 : Int32))), (0, .ref tq0)]) hx hb (dc d_X12_take 115 rfl) hl (k := 1) rfl (ii (by decide)) (by decide) rfl (fun ls hl => ?_)
      refine lv_goto (tgt := 117) hx hb (dc d_X12_take 116 rfl) (by decide) ?_
      exact H117 t_signMany t_lineOf t_strengthOf (upd t_waterOf s1.toNatClampNeg s0) (upd t_backOf t_passes.toNatClampNeg (t_backOf t_passes.toNatClampNeg)) t_passes (v1 + (1 : Int32)) _ _ _ hw (lv_sub hl [1, 0] rfl) hf
    · have hf := g_t hf c10
      refine lv_iconst (v := (1 : Int32)) hx hb (dc d_X12_take 107 rfl) (by decide) ?_
      refine lv_goto (tgt := 201) hx hb (dc d_X12_take 108 rfl) (by decide) ?_
      have hi := grd_b hf
      have hf := grd_x hf
      refine x_iast C hw 5 rfl hi (dc d_X12_take 114 rfl) (fun H locs hw => ?_)
      dsimp only [w_X12, mix, List.set_cons_succ, List.set_cons_zero] at hw
      have hw : Wd D A s.heap (w_X12 cI cC cZ tq0 tq1 tq2 tq3 tq4 tq5 tq6 tq7 tq8 tq9 tq10 tq11 tq12 tq13 tq14 tq15 tq16 tq17 tq18 tq19 tq20 tq21 tq22 tq23 tq24 t_signs t_signMany t_lineOf t_strengthOf (upd t_waterOf s1.toNatClampNeg s0) (upd t_backOf t_passes.toNatClampNeg (1 : Int32)) t_passes t_tried t_table t_numbers t_bends t_wished t_itemLine t_itemStrength t_itemWater t_itemBack t_items t_worstThen t_reading t_isRead t_readSum t_readMany t_spanLow t_spanHigh t_weldLine t_weldPull t_welds t_orderOf t_bestOrder t_smithOf t_bestSmith t_busy) H locs := hw
      refine lv_iinc (v := (v1 + (1 : Int32))) (lv' := [(1, .int (v1 + (1 : Int32))), (0, .ref tq0)]) hx hb (dc d_X12_take 115 rfl) hl (k := 1) rfl (ii (by decide)) (by decide) rfl (fun ls hl => ?_)
      refine lv_goto (tgt := 117) hx hb (dc d_X12_take 116 rfl) (by decide) ?_
      exact H117 t_signMany t_lineOf t_strengthOf (upd t_waterOf s1.toNatClampNeg s0) (upd t_backOf t_passes.toNatClampNeg (1 : Int32)) t_passes (v1 + (1 : Int32)) _ _ _ hw (lv_sub hl [1, 0] rfl) hf
  have L117 : ∀ (k29 : (Int32) → (Nat → Int32) → (Nat → Int32) → (Nat → Int32) → (Nat → Int32) → (Int32) → (Int32) → Option (Int32 × Int32 × (Nat → Int32) × (Nat → Int32) × (Nat → Int32) × (Nat → Int32) × Int32)), (∀ (t_signMany : Int32) (t_lineOf : Nat → Int32) (t_strengthOf : Nat → Int32) (t_waterOf : Nat → Int32) (t_backOf : Nat → Int32) (t_passes : Int32) (v1 : Int32) (H : Heap) (locs : List Loc) (ls : Array Slot), Wd D A s.heap (w_X12 cI cC cZ tq0 tq1 tq2 tq3 tq4 tq5 tq6 tq7 tq8 tq9 tq10 tq11 tq12 tq13 tq14 tq15 tq16 tq17 tq18 tq19 tq20 tq21 tq22 tq23 tq24 t_signs t_signMany t_lineOf t_strengthOf t_waterOf t_backOf t_passes t_tried t_table t_numbers t_bends t_wished t_itemLine t_itemStrength t_itemWater t_itemBack t_items t_worstThen t_reading t_isRead t_readSum t_readMany t_spanLow t_spanHigh t_weldLine t_weldPull t_welds t_orderOf t_bestOrder t_smithOf t_bestSmith t_busy) H locs → lv_has ls 2 [(0, .ref tq0), (1, .int v1)] → k29 t_signMany t_lineOf t_strengthOf t_waterOf t_backOf t_passes v1 = some o → W p l e (rmOf 3 68) s m args below meth c H locs 0 0 Q (F0 m 29 ls [])) → ∀ (n : Nat), ∀ (t_signMany : Int32) (t_lineOf : Nat → Int32) (t_strengthOf : Nat → Int32) (t_waterOf : Nat → Int32) (t_backOf : Nat → Int32) (t_passes : Int32) (v1 : Int32) (H : Heap) (locs : List Loc) (ls : Array Slot), Wd D A s.heap (w_X12 cI cC cZ tq0 tq1 tq2 tq3 tq4 tq5 tq6 tq7 tq8 tq9 tq10 tq11 tq12 tq13 tq14 tq15 tq16 tq17 tq18 tq19 tq20 tq21 tq22 tq23 tq24 t_signs t_signMany t_lineOf t_strengthOf t_waterOf t_backOf t_passes t_tried t_table t_numbers t_bends t_wished t_itemLine t_itemStrength t_itemWater t_itemBack t_items t_worstThen t_reading t_isRead t_readSum t_readMany t_spanLow t_spanHigh t_weldLine t_weldPull t_welds t_orderOf t_bestOrder t_smithOf t_bestSmith t_busy) H locs → lv_has ls 2 [(0, .ref tq0), (1, .int v1)] → f_X12_take_117 t_signs k29 n t_signMany t_lineOf t_strengthOf t_waterOf t_backOf t_passes v1 = some o → W p l e (rmOf 3 68) s m args below meth c H locs 0 0 Q (F0 m 117 ls []) := by
    intro k29 H29 n
    induction n with
    | zero => intro t_signMany t_lineOf t_strengthOf t_waterOf t_backOf t_passes v1 H locs ls hw hl hf; exact (no_none hf).elim
    | succ n ih =>
      intro t_signMany t_lineOf t_strengthOf t_waterOf t_backOf t_passes v1 H locs ls hw hl hf
      have hf : f_X12_take_117b t_signs k29 (f_X12_take_117 t_signs k29 n) n t_signMany t_lineOf t_strengthOf t_waterOf t_backOf t_passes v1 = some o := hf
      generalize f_X12_take_117 t_signs k29 n = k117 at hf ih
      refine lv_iload_n hx hb (dc d_X12_take 69 rfl) rfl (lv_at hl 1 rfl) ?_
      refine lv_aload_n hx hb (dc d_X12_take 70 rfl) rfl (lv_at hl 0 rfl) ?_
      refine x_get C hw fl_X12_95 0 rfl rfl (dc d_X12_take 71 rfl) ?_
      refine lv_icmp_ge (tgt := 208) hx hb (dc d_X12_take 72 rfl) (by decide) (fun c7 => ?_) (fun c7 => ?_)
      · have hf := g_t hf c7
        refine lv_iinc (v := (v1 + (1 : Int32))) (lv' := [(1, .int (v1 + (1 : Int32))), (0, .ref tq0)]) hx hb (dc d_X12_take 117 rfl) hl (k := 1) rfl (ii (by decide)) (by decide) rfl (fun ls hl => ?_)
        refine lv_aload_n hx hb (dc d_X12_take 118 rfl) rfl (lv_at hl 1 rfl) ?_
        refine lv_dup hx hb (dc d_X12_take 119 rfl) rfl ?_
        refine x_get C hw fl_X12_113 0 rfl rfl (dc d_X12_take 120 rfl) ?_
        refine lv_iconst (v := (1 : Int32)) hx hb (dc d_X12_take 121 rfl) (by decide) ?_
        refine lv_iadd hx hb (dc d_X12_take 122 rfl) ?_
        refine x_put C hw fl_X12_113 fw_X12_6 0 rfl rfl rfl (Nat.le_of_ble_eq_true rfl) (dc d_X12_take 123 rfl) (fun H locs hw => ?_)
        dsimp only [w_X12, mix, List.set_cons_succ, List.set_cons_zero] at hw
        have hw : Wd D A s.heap (w_X12 cI cC cZ tq0 tq1 tq2 tq3 tq4 tq5 tq6 tq7 tq8 tq9 tq10 tq11 tq12 tq13 tq14 tq15 tq16 tq17 tq18 tq19 tq20 tq21 tq22 tq23 tq24 t_signs t_signMany t_lineOf t_strengthOf t_waterOf t_backOf (t_passes + (1 : Int32)) t_tried t_table t_numbers t_bends t_wished t_itemLine t_itemStrength t_itemWater t_itemBack t_items t_worstThen t_reading t_isRead t_readSum t_readMany t_spanLow t_spanHigh t_weldLine t_weldPull t_welds t_orderOf t_bestOrder t_smithOf t_bestSmith t_busy) H locs := hw
        refine lv_goto (tgt := 29) hx hb (dc d_X12_take 124 rfl) (by decide) ?_
        exact H29 t_signMany t_lineOf t_strengthOf t_waterOf t_backOf (t_passes + (1 : Int32)) (v1 + (1 : Int32)) _ _ _ hw (lv_sub hl [1, 0] rfl) hf
      · have hf := g_f hf c7
        refine lv_aload_n hx hb (dc d_X12_take 73 rfl) rfl (lv_at hl 0 rfl) ?_
        refine x_get C hw fl_X12_7 0 rfl rfl (dc d_X12_take 74 rfl) ?_
        refine lv_iload_n hx hb (dc d_X12_take 75 rfl) rfl (lv_at hl 1 rfl) ?_
        have hi := grd_b hf
        have hf := grd_x hf
        refine x_iald C hw 1 rfl hi (dc d_X12_take 76 rfl) ?_
        refine lv_bipush (v := (59 : Int32)) hx hb (dc d_X12_take 77 rfl) (by decide) ?_
        refine lv_icmp_eq (tgt := 208) hx hb (dc d_X12_take 78 rfl) (by decide) (fun c8 => ?_) (fun c8 => ?_)
        · have hf := g_t hf c8
          refine lv_iinc (v := (v1 + (1 : Int32))) (lv' := [(1, .int (v1 + (1 : Int32))), (0, .ref tq0)]) hx hb (dc d_X12_take 117 rfl) hl (k := 1) rfl (ii (by decide)) (by decide) rfl (fun ls hl => ?_)
          refine lv_aload_n hx hb (dc d_X12_take 118 rfl) rfl (lv_at hl 1 rfl) ?_
          refine lv_dup hx hb (dc d_X12_take 119 rfl) rfl ?_
          refine x_get C hw fl_X12_113 0 rfl rfl (dc d_X12_take 120 rfl) ?_
          refine lv_iconst (v := (1 : Int32)) hx hb (dc d_X12_take 121 rfl) (by decide) ?_
          refine lv_iadd hx hb (dc d_X12_take 122 rfl) ?_
          refine x_put C hw fl_X12_113 fw_X12_6 0 rfl rfl rfl (Nat.le_of_ble_eq_true rfl) (dc d_X12_take 123 rfl) (fun H locs hw => ?_)
          dsimp only [w_X12, mix, List.set_cons_succ, List.set_cons_zero] at hw
          have hw : Wd D A s.heap (w_X12 cI cC cZ tq0 tq1 tq2 tq3 tq4 tq5 tq6 tq7 tq8 tq9 tq10 tq11 tq12 tq13 tq14 tq15 tq16 tq17 tq18 tq19 tq20 tq21 tq22 tq23 tq24 t_signs t_signMany t_lineOf t_strengthOf t_waterOf t_backOf (t_passes + (1 : Int32)) t_tried t_table t_numbers t_bends t_wished t_itemLine t_itemStrength t_itemWater t_itemBack t_items t_worstThen t_reading t_isRead t_readSum t_readMany t_spanLow t_spanHigh t_weldLine t_weldPull t_welds t_orderOf t_bestOrder t_smithOf t_bestSmith t_busy) H locs := hw
          refine lv_goto (tgt := 29) hx hb (dc d_X12_take 124 rfl) (by decide) ?_
          exact H29 t_signMany t_lineOf t_strengthOf t_waterOf t_backOf (t_passes + (1 : Int32)) (v1 + (1 : Int32)) _ _ _ hw (lv_sub hl [1, 0] rfl) hf
        · have hf := g_f hf c8
          refine lv_aload_n hx hb (dc d_X12_take 79 rfl) rfl (lv_at hl 0 rfl) ?_
          refine x_get C hw fl_X12_19 0 rfl rfl (dc d_X12_take 80 rfl) ?_
          refine lv_aload_n hx hb (dc d_X12_take 81 rfl) rfl (lv_at hl 0 rfl) ?_
          refine x_get C hw fl_X12_113 0 rfl rfl (dc d_X12_take 82 rfl) ?_
          refine lv_aload_n hx hb (dc d_X12_take 83 rfl) rfl (lv_at hl 0 rfl) ?_
          refine x_get C hw fl_X12_7 0 rfl rfl (dc d_X12_take 84 rfl) ?_
          refine lv_iload_n hx hb (dc d_X12_take 85 rfl) rfl (lv_at hl 1 rfl) ?_
          have hi := grd_b hf
          have hf := grd_x hf
          refine x_iald C hw 1 rfl hi (dc d_X12_take 86 rfl) ?_
          refine lv_bipush (v := (119 : Int32)) hx hb (dc d_X12_take 87 rfl) (by decide) ?_
          refine lv_icmp_ne (tgt := 159) hx hb (dc d_X12_take 88 rfl) (by decide) (fun c9 => ?_) (fun c9 => ?_)
          · have hf := g_f hf c9
            refine lv_aload_n hx hb (dc d_X12_take 91 rfl) rfl (lv_at hl 0 rfl) ?_
            refine x_get C hw fl_X12_19 0 rfl rfl (dc d_X12_take 92 rfl) ?_
            refine lv_aload_n hx hb (dc d_X12_take 93 rfl) rfl (lv_at hl 0 rfl) ?_
            refine x_get C hw fl_X12_113 0 rfl rfl (dc d_X12_take 94 rfl) ?_
            have hi := grd_b hf
            have hf := grd_x hf
            refine x_iald C hw 4 rfl hi (dc d_X12_take 95 rfl) ?_
            exact L168 k29 H29 k117 ih n t_signMany t_lineOf t_strengthOf t_waterOf t_backOf t_passes v1 (t_waterOf t_passes.toNatClampNeg) t_passes _ _ _ hw (lv_sub hl [0, 1] rfl) hf
          · have hf := g_t hf c9
            refine lv_iconst (v := (1 : Int32)) hx hb (dc d_X12_take 89 rfl) (by decide) ?_
            refine lv_goto (tgt := 168) hx hb (dc d_X12_take 90 rfl) (by decide) ?_
            exact L168 k29 H29 k117 ih n t_signMany t_lineOf t_strengthOf t_waterOf t_backOf t_passes v1 (1 : Int32) t_passes _ _ _ hw (lv_sub hl [0, 1] rfl) hf
  have L72 : ∀ (k29 : (Int32) → (Nat → Int32) → (Nat → Int32) → (Nat → Int32) → (Nat → Int32) → (Int32) → (Int32) → Option (Int32 × Int32 × (Nat → Int32) × (Nat → Int32) × (Nat → Int32) × (Nat → Int32) × Int32)), (∀ (t_signMany : Int32) (t_lineOf : Nat → Int32) (t_strengthOf : Nat → Int32) (t_waterOf : Nat → Int32) (t_backOf : Nat → Int32) (t_passes : Int32) (v1 : Int32) (H : Heap) (locs : List Loc) (ls : Array Slot), Wd D A s.heap (w_X12 cI cC cZ tq0 tq1 tq2 tq3 tq4 tq5 tq6 tq7 tq8 tq9 tq10 tq11 tq12 tq13 tq14 tq15 tq16 tq17 tq18 tq19 tq20 tq21 tq22 tq23 tq24 t_signs t_signMany t_lineOf t_strengthOf t_waterOf t_backOf t_passes t_tried t_table t_numbers t_bends t_wished t_itemLine t_itemStrength t_itemWater t_itemBack t_items t_worstThen t_reading t_isRead t_readSum t_readMany t_spanLow t_spanHigh t_weldLine t_weldPull t_welds t_orderOf t_bestOrder t_smithOf t_bestSmith t_busy) H locs → lv_has ls 2 [(0, .ref tq0), (1, .int v1)] → k29 t_signMany t_lineOf t_strengthOf t_waterOf t_backOf t_passes v1 = some o → W p l e (rmOf 3 68) s m args below meth c H locs 0 0 Q (F0 m 29 ls [])) → ∀ (n : Nat), ∀ (t_signMany : Int32) (t_lineOf : Nat → Int32) (t_strengthOf : Nat → Int32) (t_waterOf : Nat → Int32) (t_backOf : Nat → Int32) (t_passes : Int32) (v1 : Int32) (s0 : Int32) (s1 : Int32) (s2 : Int32) (H : Heap) (locs : List Loc) (ls : Array Slot), Wd D A s.heap (w_X12 cI cC cZ tq0 tq1 tq2 tq3 tq4 tq5 tq6 tq7 tq8 tq9 tq10 tq11 tq12 tq13 tq14 tq15 tq16 tq17 tq18 tq19 tq20 tq21 tq22 tq23 tq24 t_signs t_signMany t_lineOf t_strengthOf t_waterOf t_backOf t_passes t_tried t_table t_numbers t_bends t_wished t_itemLine t_itemStrength t_itemWater t_itemBack t_items t_worstThen t_reading t_isRead t_readSum t_readMany t_spanLow t_spanHigh t_weldLine t_weldPull t_welds t_orderOf t_bestOrder t_smithOf t_bestSmith t_busy) H locs → lv_has ls 2 [(0, .ref tq0), (1, .int v1)] → f_X12_take_72 t_signs k29 n t_signMany t_lineOf t_strengthOf t_waterOf t_backOf t_passes v1 s0 s1 s2 = some o → W p l e (rmOf 3 68) s m args below meth c H locs 0 0 Q (F0 m 72 ls [.int s0, .int s1, .int s2, .ref tq2]) := by
    intro k29 H29 n t_signMany t_lineOf t_strengthOf t_waterOf t_backOf t_passes v1 s0 s1 s2 H locs ls hw hl hf
    refine lv_iadd hx hb (dc d_X12_take 41 rfl) ?_
    have hi := grd_b hf
    have hf := grd_x hf
    refine x_iast C hw 2 rfl hi (dc d_X12_take 42 rfl) (fun H locs hw => ?_)
    dsimp only [w_X12, mix, List.set_cons_succ, List.set_cons_zero] at hw
    have hw : Wd D A s.heap (w_X12 cI cC cZ tq0 tq1 tq2 tq3 tq4 tq5 tq6 tq7 tq8 tq9 tq10 tq11 tq12 tq13 tq14 tq15 tq16 tq17 tq18 tq19 tq20 tq21 tq22 tq23 tq24 t_signs t_signMany (upd t_lineOf s2.toNatClampNeg (s1 + s0)) t_strengthOf t_waterOf t_backOf t_passes t_tried t_table t_numbers t_bends t_wished t_itemLine t_itemStrength t_itemWater t_itemBack t_items t_worstThen t_reading t_isRead t_readSum t_readMany t_spanLow t_spanHigh t_weldLine t_weldPull t_welds t_orderOf t_bestOrder t_smithOf t_bestSmith t_busy) H locs := hw
    refine lv_aload_n hx hb (dc d_X12_take 43 rfl) rfl (lv_at hl 0 rfl) ?_
    refine x_get C hw fl_X12_16 0 rfl rfl (dc d_X12_take 44 rfl) ?_
    refine lv_aload_n hx hb (dc d_X12_take 45 rfl) rfl (lv_at hl 0 rfl) ?_
    refine x_get C hw fl_X12_113 0 rfl rfl (dc d_X12_take 46 rfl) ?_
    refine lv_aload_n hx hb (dc d_X12_take 47 rfl) rfl (lv_at hl 0 rfl) ?_
    refine x_get C hw fl_X12_7 0 rfl rfl (dc d_X12_take 48 rfl) ?_
    refine lv_iload_n hx hb (dc d_X12_take 49 rfl) rfl (lv_at hl 1 rfl) ?_
    refine lv_iconst (v := (2 : Int32)) hx hb (dc d_X12_take 50 rfl) (by decide) ?_
    refine lv_iadd hx hb (dc d_X12_take 51 rfl) ?_
    have hi := grd_b hf
    have hf := grd_x hf
    refine x_iald C hw 1 rfl hi (dc d_X12_take 52 rfl) ?_
    refine lv_bipush (v := (48 : Int32)) hx hb (dc d_X12_take 53 rfl) (by decide) ?_
    refine lv_isub hx hb (dc d_X12_take 54 rfl) ?_
    have hi := grd_b hf
    have hf := grd_x hf
    refine x_iast C hw 3 rfl hi (dc d_X12_take 55 rfl) (fun H locs hw => ?_)
    dsimp only [w_X12, mix, List.set_cons_succ, List.set_cons_zero] at hw
    have hw : Wd D A s.heap (w_X12 cI cC cZ tq0 tq1 tq2 tq3 tq4 tq5 tq6 tq7 tq8 tq9 tq10 tq11 tq12 tq13 tq14 tq15 tq16 tq17 tq18 tq19 tq20 tq21 tq22 tq23 tq24 t_signs t_signMany (upd t_lineOf s2.toNatClampNeg (s1 + s0)) (upd t_strengthOf t_passes.toNatClampNeg ((t_signs (v1 + (2 : Int32)).toNatClampNeg) - (48 : Int32))) t_waterOf t_backOf t_passes t_tried t_table t_numbers t_bends t_wished t_itemLine t_itemStrength t_itemWater t_itemBack t_items t_worstThen t_reading t_isRead t_readSum t_readMany t_spanLow t_spanHigh t_weldLine t_weldPull t_welds t_orderOf t_bestOrder t_smithOf t_bestSmith t_busy) H locs := hw
    refine lv_aload_n hx hb (dc d_X12_take 56 rfl) rfl (lv_at hl 0 rfl) ?_
    refine x_get C hw fl_X12_19 0 rfl rfl (dc d_X12_take 57 rfl) ?_
    refine lv_aload_n hx hb (dc d_X12_take 58 rfl) rfl (lv_at hl 0 rfl) ?_
    refine x_get C hw fl_X12_113 0 rfl rfl (dc d_X12_take 59 rfl) ?_
    refine lv_iconst (v := (0 : Int32)) hx hb (dc d_X12_take 60 rfl) (by decide) ?_
    have hi := grd_b hf
    have hf := grd_x hf
    refine x_iast C hw 4 rfl hi (dc d_X12_take 61 rfl) (fun H locs hw => ?_)
    dsimp only [w_X12, mix, List.set_cons_succ, List.set_cons_zero] at hw
    have hw : Wd D A s.heap (w_X12 cI cC cZ tq0 tq1 tq2 tq3 tq4 tq5 tq6 tq7 tq8 tq9 tq10 tq11 tq12 tq13 tq14 tq15 tq16 tq17 tq18 tq19 tq20 tq21 tq22 tq23 tq24 t_signs t_signMany (upd t_lineOf s2.toNatClampNeg (s1 + s0)) (upd t_strengthOf t_passes.toNatClampNeg ((t_signs (v1 + (2 : Int32)).toNatClampNeg) - (48 : Int32))) (upd t_waterOf t_passes.toNatClampNeg (0 : Int32)) t_backOf t_passes t_tried t_table t_numbers t_bends t_wished t_itemLine t_itemStrength t_itemWater t_itemBack t_items t_worstThen t_reading t_isRead t_readSum t_readMany t_spanLow t_spanHigh t_weldLine t_weldPull t_welds t_orderOf t_bestOrder t_smithOf t_bestSmith t_busy) H locs := hw
    refine lv_aload_n hx hb (dc d_X12_take 62 rfl) rfl (lv_at hl 0 rfl) ?_
    refine x_get C hw fl_X12_22 0 rfl rfl (dc d_X12_take 63 rfl) ?_
    refine lv_aload_n hx hb (dc d_X12_take 64 rfl) rfl (lv_at hl 0 rfl) ?_
    refine x_get C hw fl_X12_113 0 rfl rfl (dc d_X12_take 65 rfl) ?_
    refine lv_iconst (v := (0 : Int32)) hx hb (dc d_X12_take 66 rfl) (by decide) ?_
    have hi := grd_b hf
    have hf := grd_x hf
    refine x_iast C hw 5 rfl hi (dc d_X12_take 67 rfl) (fun H locs hw => ?_)
    dsimp only [w_X12, mix, List.set_cons_succ, List.set_cons_zero] at hw
    have hw : Wd D A s.heap (w_X12 cI cC cZ tq0 tq1 tq2 tq3 tq4 tq5 tq6 tq7 tq8 tq9 tq10 tq11 tq12 tq13 tq14 tq15 tq16 tq17 tq18 tq19 tq20 tq21 tq22 tq23 tq24 t_signs t_signMany (upd t_lineOf s2.toNatClampNeg (s1 + s0)) (upd t_strengthOf t_passes.toNatClampNeg ((t_signs (v1 + (2 : Int32)).toNatClampNeg) - (48 : Int32))) (upd t_waterOf t_passes.toNatClampNeg (0 : Int32)) (upd t_backOf t_passes.toNatClampNeg (0 : Int32)) t_passes t_tried t_table t_numbers t_bends t_wished t_itemLine t_itemStrength t_itemWater t_itemBack t_items t_worstThen t_reading t_isRead t_readSum t_readMany t_spanLow t_spanHigh t_weldLine t_weldPull t_welds t_orderOf t_bestOrder t_smithOf t_bestSmith t_busy) H locs := hw
    refine lv_iinc (v := (v1 + (3 : Int32))) (lv' := [(1, .int (v1 + (3 : Int32))), (0, .ref tq0)]) hx hb (dc d_X12_take 68 rfl) hl (k := 1) rfl (ii (by decide)) (by decide) rfl (fun ls hl => ?_)
    exact L117 k29 H29 n t_signMany (upd t_lineOf s2.toNatClampNeg (s1 + s0)) (upd t_strengthOf t_passes.toNatClampNeg ((t_signs (v1 + (2 : Int32)).toNatClampNeg) - (48 : Int32))) (upd t_waterOf t_passes.toNatClampNeg (0 : Int32)) (upd t_backOf t_passes.toNatClampNeg (0 : Int32)) t_passes (v1 + (3 : Int32)) _ _ _ hw (lv_sub hl [1, 0] rfl) hf
  have L29 : ∀ (n : Nat), ∀ (t_signMany : Int32) (t_lineOf : Nat → Int32) (t_strengthOf : Nat → Int32) (t_waterOf : Nat → Int32) (t_backOf : Nat → Int32) (t_passes : Int32) (v1 : Int32) (H : Heap) (locs : List Loc) (ls : Array Slot), Wd D A s.heap (w_X12 cI cC cZ tq0 tq1 tq2 tq3 tq4 tq5 tq6 tq7 tq8 tq9 tq10 tq11 tq12 tq13 tq14 tq15 tq16 tq17 tq18 tq19 tq20 tq21 tq22 tq23 tq24 t_signs t_signMany t_lineOf t_strengthOf t_waterOf t_backOf t_passes t_tried t_table t_numbers t_bends t_wished t_itemLine t_itemStrength t_itemWater t_itemBack t_items t_worstThen t_reading t_isRead t_readSum t_readMany t_spanLow t_spanHigh t_weldLine t_weldPull t_welds t_orderOf t_bestOrder t_smithOf t_bestSmith t_busy) H locs → lv_has ls 2 [(0, .ref tq0), (1, .int v1)] → f_X12_take_29 t_signs  n t_signMany t_lineOf t_strengthOf t_waterOf t_backOf t_passes v1 = some o → W p l e (rmOf 3 68) s m args below meth c H locs 0 0 Q (F0 m 29 ls []) := by
    intro  n
    induction n with
    | zero => intro t_signMany t_lineOf t_strengthOf t_waterOf t_backOf t_passes v1 H locs ls hw hl hf; exact (no_none hf).elim
    | succ n ih =>
      intro t_signMany t_lineOf t_strengthOf t_waterOf t_backOf t_passes v1 H locs ls hw hl hf
      have hf : f_X12_take_29b t_signs  (f_X12_take_29 t_signs  n) n t_signMany t_lineOf t_strengthOf t_waterOf t_backOf t_passes v1 = some o := hf
      generalize f_X12_take_29 t_signs  n = k29 at hf ih
      refine lv_iload_n hx hb (dc d_X12_take 16 rfl) rfl (lv_at hl 1 rfl) ?_
      refine lv_aload_n hx hb (dc d_X12_take 17 rfl) rfl (lv_at hl 0 rfl) ?_
      refine x_get C hw fl_X12_95 0 rfl rfl (dc d_X12_take 18 rfl) ?_
      refine lv_icmp_ge (tgt := 224) hx hb (dc d_X12_take 19 rfl) (by decide) (fun c5 => ?_) (fun c5 => ?_)
      · have hf := g_t hf c5
        refine lv_aload_n hx hb (dc d_X12_take 125 rfl) rfl (lv_at hl 0 rfl) ?_
        refine lv_iconst (v := (0 : Int32)) hx hb (dc d_X12_take 126 rfl) (by decide) ?_
        refine x_put C hw fl_X12_95 fw_X12_1 0 rfl rfl rfl (Nat.le_of_ble_eq_true rfl) (dc d_X12_take 127 rfl) (fun H locs hw => ?_)
        dsimp only [w_X12, mix, List.set_cons_succ, List.set_cons_zero] at hw
        have hw : Wd D A s.heap (w_X12 cI cC cZ tq0 tq1 tq2 tq3 tq4 tq5 tq6 tq7 tq8 tq9 tq10 tq11 tq12 tq13 tq14 tq15 tq16 tq17 tq18 tq19 tq20 tq21 tq22 tq23 tq24 t_signs (0 : Int32) t_lineOf t_strengthOf t_waterOf t_backOf t_passes t_tried t_table t_numbers t_bends t_wished t_itemLine t_itemStrength t_itemWater t_itemBack t_items t_worstThen t_reading t_isRead t_readSum t_readMany t_spanLow t_spanHigh t_weldLine t_weldPull t_welds t_orderOf t_bestOrder t_smithOf t_bestSmith t_busy) H locs := hw
        refine lv_aload_n hx hb (dc d_X12_take 128 rfl) rfl (lv_at hl 0 rfl) ?_
        refine x_get C hw fl_X12_113 0 rfl rfl (dc d_X12_take 129 rfl) ?_
        cases hf
        exact x_iret C hA hQ hw rfl rfl (dc d_X12_take 130 rfl)
      · have hf := g_f hf c5
        refine lv_aload_n hx hb (dc d_X12_take 20 rfl) rfl (lv_at hl 0 rfl) ?_
        refine x_get C hw fl_X12_13 0 rfl rfl (dc d_X12_take 21 rfl) ?_
        refine lv_aload_n hx hb (dc d_X12_take 22 rfl) rfl (lv_at hl 0 rfl) ?_
        refine x_get C hw fl_X12_113 0 rfl rfl (dc d_X12_take 23 rfl) ?_
        refine lv_aload_n hx hb (dc d_X12_take 24 rfl) rfl (lv_at hl 0 rfl) ?_
        refine x_get C hw fl_X12_7 0 rfl rfl (dc d_X12_take 25 rfl) ?_
        refine lv_iload_n hx hb (dc d_X12_take 26 rfl) rfl (lv_at hl 1 rfl) ?_
        refine lv_iconst (v := (1 : Int32)) hx hb (dc d_X12_take 27 rfl) (by decide) ?_
        refine lv_iadd hx hb (dc d_X12_take 28 rfl) ?_
        have hi := grd_b hf
        have hf := grd_x hf
        refine x_iald C hw 1 rfl hi (dc d_X12_take 29 rfl) ?_
        refine lv_bipush (v := (49 : Int32)) hx hb (dc d_X12_take 30 rfl) (by decide) ?_
        refine lv_isub hx hb (dc d_X12_take 31 rfl) ?_
        refine lv_aload_n hx hb (dc d_X12_take 32 rfl) rfl (lv_at hl 0 rfl) ?_
        refine x_get C hw fl_X12_7 0 rfl rfl (dc d_X12_take 33 rfl) ?_
        refine lv_iload_n hx hb (dc d_X12_take 34 rfl) rfl (lv_at hl 1 rfl) ?_
        have hi := grd_b hf
        have hf := grd_x hf
        refine x_iald C hw 1 rfl hi (dc d_X12_take 35 rfl) ?_
        refine lv_bipush (v := (104 : Int32)) hx hb (dc d_X12_take 36 rfl) (by decide) ?_
        refine lv_icmp_ne (tgt := 71) hx hb (dc d_X12_take 37 rfl) (by decide) (fun c6 => ?_) (fun c6 => ?_)
        · have hf := g_f hf c6
          refine lv_iconst (v := (0 : Int32)) hx hb (dc d_X12_take 40 rfl) (by decide) ?_
          exact L72 k29 ih n t_signMany t_lineOf t_strengthOf t_waterOf t_backOf t_passes v1 (0 : Int32) ((t_signs (v1 + (1 : Int32)).toNatClampNeg) - (49 : Int32)) t_passes _ _ _ hw (lv_sub hl [0, 1] rfl) hf
        · have hf := g_t hf c6
          refine lv_iconst (v := (4 : Int32)) hx hb (dc d_X12_take 38 rfl) (by decide) ?_
          refine lv_goto (tgt := 72) hx hb (dc d_X12_take 39 rfl) (by decide) ?_
          exact L72 k29 ih n t_signMany t_lineOf t_strengthOf t_waterOf t_backOf t_passes v1 (4 : Int32) ((t_signs (v1 + (1 : Int32)).toNatClampNeg) - (49 : Int32)) t_passes _ _ _ hw (lv_sub hl [0, 1] rfl) hf
  refine lv_aload_n hx hb (dc d_X12_take 0 rfl) rfl (lv_at hl 0 rfl) ?_
  obtain ⟨q1, hq1, hf⟩ := g_bd hf
  refine x_callVa C hw mb_X12_fault mv_X12_fault ml_X12_109 (k_X12_fault n hq1) hl.1 rfl rfl rfl 0 12 rfl rfl (Nat.le_of_ble_eq_true rfl) (Nat.le_of_ble_eq_true rfl) (Nat.le_of_ble_eq_true rfl) (dc d_X12_take 1 rfl) (fun H locs hw => ?_)
  refine W.eq (g2 := F0 m 4 ls [.int q1]) rfl ?_
  have hw : Wd D A s.heap (w_X12 cI cC cZ tq0 tq1 tq2 tq3 tq4 tq5 tq6 tq7 tq8 tq9 tq10 tq11 tq12 tq13 tq14 tq15 tq16 tq17 tq18 tq19 tq20 tq21 tq22 tq23 tq24 t_signs t_signMany t_lineOf t_strengthOf t_waterOf t_backOf t_passes t_tried t_table t_numbers t_bends t_wished t_itemLine t_itemStrength t_itemWater t_itemBack t_items t_worstThen t_reading t_isRead t_readSum t_readMany t_spanLow t_spanHigh t_weldLine t_weldPull t_welds t_orderOf t_bestOrder t_smithOf t_bestSmith t_busy) H locs := hw
  refine lv_if_lt (tgt := 10) hx hb (dc d_X12_take 2 rfl) (by decide) (fun c2 => ?_) (fun c2 => ?_)
  · have hf := g_t hf c2
    refine lv_aload_n hx hb (dc d_X12_take 5 rfl) rfl (lv_at hl 0 rfl) ?_
    refine x_get C hw fl_X12_113 0 rfl rfl (dc d_X12_take 6 rfl) ?_
    refine lv_aload_n hx hb (dc d_X12_take 7 rfl) rfl (lv_at hl 0 rfl) ?_
    obtain ⟨q3, hq3, hf⟩ := g_bd hf
    refine x_callVa C hw mb_X12_saidPasses mv_X12_saidPasses ml_X12_116 (k_X12_saidPasses n hq3) hl.1 rfl rfl rfl 0 12 rfl rfl (Nat.le_of_ble_eq_true rfl) (Nat.le_of_ble_eq_true rfl) (Nat.le_of_ble_eq_true rfl) (dc d_X12_take 8 rfl) (fun H locs hw => ?_)
    refine W.eq (g2 := F0 m 18 ls [.int q3, .int t_passes]) rfl ?_
    have hw : Wd D A s.heap (w_X12 cI cC cZ tq0 tq1 tq2 tq3 tq4 tq5 tq6 tq7 tq8 tq9 tq10 tq11 tq12 tq13 tq14 tq15 tq16 tq17 tq18 tq19 tq20 tq21 tq22 tq23 tq24 t_signs t_signMany t_lineOf t_strengthOf t_waterOf t_backOf t_passes t_tried t_table t_numbers t_bends t_wished t_itemLine t_itemStrength t_itemWater t_itemBack t_items t_worstThen t_reading t_isRead t_readSum t_readMany t_spanLow t_spanHigh t_weldLine t_weldPull t_welds t_orderOf t_bestOrder t_smithOf t_bestSmith t_busy) H locs := hw
    refine lv_iadd hx hb (dc d_X12_take 9 rfl) ?_
    refine lv_bipush (v := (12 : Int32)) hx hb (dc d_X12_take 10 rfl) (by decide) ?_
    refine lv_icmp_le (tgt := 27) hx hb (dc d_X12_take 11 rfl) (by decide) (fun c4 => ?_) (fun c4 => ?_)
    · have hf := g_t hf c4
      refine lv_iconst (v := (0 : Int32)) hx hb (dc d_X12_take 14 rfl) (by decide) ?_
      refine lv_istore_n (lv' := [(1, .int (0 : Int32)), (0, .ref tq0)]) hx hb (dc d_X12_take 15 rfl) rfl hl (by decide) rfl (fun ls hl => ?_)
      exact L29  n t_signMany t_lineOf t_strengthOf t_waterOf t_backOf t_passes (0 : Int32) _ _ _ hw (lv_sub hl [1, 0] rfl) hf
    · have hf := g_f hf c4
      refine lv_bipush (v := (-4 : Int32)) hx hb (dc d_X12_take 12 rfl) (by decide) ?_
      cases hf
      exact x_iret C hA hQ hw rfl rfl (dc d_X12_take 13 rfl)
  · have hf := g_f hf c2
    refine lv_bipush (v := (-5 : Int32)) hx hb (dc d_X12_take 3 rfl) (by decide) ?_
    cases hf
    exact x_iret C hA hQ hw rfl rfl (dc d_X12_take 4 rfl)
set_option maxHeartbeats 4000000 in
set_option maxRecDepth 100000 in
theorem k_X12_strike (n : Nat) {l : Launch} {D : va_G} {cI cC cZ : ClassId} {tq0 tq1 tq2 tq3 tq4 tq5 tq6 tq7 tq8 tq9 tq10 tq11 tq12 tq13 tq14 tq15 tq16 tq17 tq18 tq19 tq20 tq21 tq22 tq23 tq24 : Nat} {t_signs : Nat → Int32} {t_signMany : Int32} {t_lineOf : Nat → Int32} {t_strengthOf : Nat → Int32} {t_waterOf : Nat → Int32} {t_backOf : Nat → Int32} {t_passes : Int32} {t_tried : Int32} {t_table : Nat → Int32} {t_numbers : Nat → Int32} {t_bends : Nat → Int32} {t_wished : Nat → Int32} {t_itemLine : Nat → Int32} {t_itemStrength : Nat → Int32} {t_itemWater : Nat → Int32} {t_itemBack : Nat → Int32} {t_items : Int32} {t_worstThen : Int32} {t_reading : Nat → Int32} {t_isRead : Nat → Int32} {t_readSum : Int32} {t_readMany : Int32} {t_spanLow : Nat → Int32} {t_spanHigh : Nat → Int32} {t_weldLine : Nat → Int32} {t_weldPull : Nat → Int32} {t_welds : Int32} {t_orderOf : Nat → Int32} {t_bestOrder : Nat → Int32} {t_smithOf : Nat → Int32} {t_bestSmith : Nat → Int32} {t_busy : Nat → Int32} {x1 : Int32} {o : Int32 × Int32} (hf : f_X12_strike n t_passes x1 = some o) : Ctr l yX12_strike cX12_strike 2 (some .int) 1 25 D cI cC cZ [.ref tq0, .int x1] (w_X12 cI cC cZ tq0 tq1 tq2 tq3 tq4 tq5 tq6 tq7 tq8 tq9 tq10 tq11 tq12 tq13 tq14 tq15 tq16 tq17 tq18 tq19 tq20 tq21 tq22 tq23 tq24 t_signs t_signMany t_lineOf t_strengthOf t_waterOf t_backOf t_passes t_tried t_table t_numbers t_bends t_wished t_itemLine t_itemStrength t_itemWater t_itemBack t_items t_worstThen t_reading t_isRead t_readSum t_readMany t_spanLow t_spanHigh t_weldLine t_weldPull t_welds t_orderOf t_bestOrder t_smithOf t_bestSmith t_busy) (w_X12 cI cC cZ tq0 tq1 tq2 tq3 tq4 tq5 tq6 tq7 tq8 tq9 tq10 tq11 tq12 tq13 tq14 tq15 tq16 tq17 tq18 tq19 tq20 tq21 tq22 tq23 tq24 t_signs t_signMany t_lineOf t_strengthOf t_waterOf t_backOf o.2 t_tried t_table t_numbers t_bends t_wished t_itemLine t_itemStrength t_itemWater t_itemBack t_items t_worstThen t_reading t_isRead t_readSum t_readMany t_spanLow t_spanHigh t_weldLine t_weldPull t_welds t_orderOf t_bestOrder t_smithOf t_bestSmith t_busy) (some (.int o.1)) := by
  refine Ctr.of (by decide) (Nat.le_of_ble_eq_true rfl) ?_
  intro p e s m args below meth c ls A Q hA hQ C hl hw
  have hx := C.1
  have hb := C.2.1
  have hl : lv_has ls 2 [(0, .ref tq0), (1, .int x1)] := hl
  refine lv_iload_n hx hb (dc d_X12_strike 0 rfl) rfl (lv_at hl 1 rfl) ?_
  refine lv_i2l (v := x1.toInt64) hx hb (dc d_X12_strike 1 rfl) rfl ?_
  refine lv_lconst (v := (0 : Int64)) hx hb (dc d_X12_strike 2 rfl) (by decide) ?_
  refine lv_aload_n hx hb (dc d_X12_strike 3 rfl) rfl (lv_at hl 0 rfl) ?_
  refine x_get C hw fl_X12_113 0 rfl rfl (dc d_X12_strike 4 rfl) ?_
  refine lv_i2l (v := t_passes.toInt64) hx hb (dc d_X12_strike 5 rfl) rfl ?_
  obtain ⟨q1, hq1, hf⟩ := g_bd hf
  refine x_callS C hw mb_X12_in ms_X12_in ml_X12_85 (k_X12_in n hq1) hl.1 rfl rfl [] rfl rfl rfl (Nat.le_of_ble_eq_true rfl) (Nat.le_of_ble_eq_true rfl) (Nat.le_of_ble_eq_true rfl) (dc d_X12_strike 6 rfl) (fun H locs hw => ?_)
  refine W.eq (g2 := F0 m 11 ls [.int q1]) rfl ?_
  have hw : Wd D A s.heap (w_X12 cI cC cZ tq0 tq1 tq2 tq3 tq4 tq5 tq6 tq7 tq8 tq9 tq10 tq11 tq12 tq13 tq14 tq15 tq16 tq17 tq18 tq19 tq20 tq21 tq22 tq23 tq24 t_signs t_signMany t_lineOf t_strengthOf t_waterOf t_backOf t_passes t_tried t_table t_numbers t_bends t_wished t_itemLine t_itemStrength t_itemWater t_itemBack t_items t_worstThen t_reading t_isRead t_readSum t_readMany t_spanLow t_spanHigh t_weldLine t_weldPull t_welds t_orderOf t_bestOrder t_smithOf t_bestSmith t_busy) H locs := hw
  refine lv_if_ne (tgt := 17) hx hb (dc d_X12_strike 7 rfl) (by decide) (fun c2 => ?_) (fun c2 => ?_)
  · have hf := g_f hf c2
    refine lv_aload_n hx hb (dc d_X12_strike 10 rfl) rfl (lv_at hl 0 rfl) ?_
    refine lv_dup hx hb (dc d_X12_strike 11 rfl) rfl ?_
    refine x_get C hw fl_X12_113 0 rfl rfl (dc d_X12_strike 12 rfl) ?_
    refine lv_iload_n hx hb (dc d_X12_strike 13 rfl) rfl (lv_at hl 1 rfl) ?_
    refine lv_isub hx hb (dc d_X12_strike 14 rfl) ?_
    refine x_put C hw fl_X12_113 fw_X12_6 0 rfl rfl rfl (Nat.le_of_ble_eq_true rfl) (dc d_X12_strike 15 rfl) (fun H locs hw => ?_)
    dsimp only [w_X12, mix, List.set_cons_succ, List.set_cons_zero] at hw
    have hw : Wd D A s.heap (w_X12 cI cC cZ tq0 tq1 tq2 tq3 tq4 tq5 tq6 tq7 tq8 tq9 tq10 tq11 tq12 tq13 tq14 tq15 tq16 tq17 tq18 tq19 tq20 tq21 tq22 tq23 tq24 t_signs t_signMany t_lineOf t_strengthOf t_waterOf t_backOf (t_passes - x1) t_tried t_table t_numbers t_bends t_wished t_itemLine t_itemStrength t_itemWater t_itemBack t_items t_worstThen t_reading t_isRead t_readSum t_readMany t_spanLow t_spanHigh t_weldLine t_weldPull t_welds t_orderOf t_bestOrder t_smithOf t_bestSmith t_busy) H locs := hw
    refine lv_aload_n hx hb (dc d_X12_strike 16 rfl) rfl (lv_at hl 0 rfl) ?_
    refine x_get C hw fl_X12_113 0 rfl rfl (dc d_X12_strike 17 rfl) ?_
    cases hf
    exact x_iret C hA hQ hw rfl rfl (dc d_X12_strike 18 rfl)
  · have hf := g_t hf c2
    refine lv_bipush (v := (-2 : Int32)) hx hb (dc d_X12_strike 8 rfl) (by decide) ?_
    cases hf
    exact x_iret C hA hQ hw rfl rfl (dc d_X12_strike 9 rfl)
set_option maxHeartbeats 4000000 in
set_option maxRecDepth 100000 in
theorem k_X12_partOf (n : Nat) {l : Launch} {D : va_G} {cI cC cZ : ClassId} {tq0 tq1 tq2 tq3 tq4 tq5 tq6 tq7 tq8 tq9 tq10 tq11 tq12 tq13 tq14 tq15 tq16 tq17 tq18 tq19 tq20 tq21 tq22 tq23 tq24 : Nat} {t_signs : Nat → Int32} {t_signMany : Int32} {t_lineOf : Nat → Int32} {t_strengthOf : Nat → Int32} {t_waterOf : Nat → Int32} {t_backOf : Nat → Int32} {t_passes : Int32} {t_tried : Int32} {t_table : Nat → Int32} {t_numbers : Nat → Int32} {t_bends : Nat → Int32} {t_wished : Nat → Int32} {t_itemLine : Nat → Int32} {t_itemStrength : Nat → Int32} {t_itemWater : Nat → Int32} {t_itemBack : Nat → Int32} {t_items : Int32} {t_worstThen : Int32} {t_reading : Nat → Int32} {t_isRead : Nat → Int32} {t_readSum : Int32} {t_readMany : Int32} {t_spanLow : Nat → Int32} {t_spanHigh : Nat → Int32} {t_weldLine : Nat → Int32} {t_weldPull : Nat → Int32} {t_welds : Int32} {t_orderOf : Nat → Int32} {t_bestOrder : Nat → Int32} {t_smithOf : Nat → Int32} {t_bestSmith : Nat → Int32} {t_busy : Nat → Int32} {x1 : Int32} {o : Int32} (hf : f_X12_partOf n t_lineOf t_numbers x1 = some o) : Ctr l yX12_partOf cX12_partOf 6 (some .int) 1 20 D cI cC cZ [.ref tq0, .int x1] (w_X12 cI cC cZ tq0 tq1 tq2 tq3 tq4 tq5 tq6 tq7 tq8 tq9 tq10 tq11 tq12 tq13 tq14 tq15 tq16 tq17 tq18 tq19 tq20 tq21 tq22 tq23 tq24 t_signs t_signMany t_lineOf t_strengthOf t_waterOf t_backOf t_passes t_tried t_table t_numbers t_bends t_wished t_itemLine t_itemStrength t_itemWater t_itemBack t_items t_worstThen t_reading t_isRead t_readSum t_readMany t_spanLow t_spanHigh t_weldLine t_weldPull t_welds t_orderOf t_bestOrder t_smithOf t_bestSmith t_busy) (w_X12 cI cC cZ tq0 tq1 tq2 tq3 tq4 tq5 tq6 tq7 tq8 tq9 tq10 tq11 tq12 tq13 tq14 tq15 tq16 tq17 tq18 tq19 tq20 tq21 tq22 tq23 tq24 t_signs t_signMany t_lineOf t_strengthOf t_waterOf t_backOf t_passes t_tried t_table t_numbers t_bends t_wished t_itemLine t_itemStrength t_itemWater t_itemBack t_items t_worstThen t_reading t_isRead t_readSum t_readMany t_spanLow t_spanHigh t_weldLine t_weldPull t_welds t_orderOf t_bestOrder t_smithOf t_bestSmith t_busy) (some (.int o)) := by
  refine Ctr.of (by decide) (Nat.le_of_ble_eq_true rfl) ?_
  intro p e s m args below meth c ls A Q hA hQ C hl hw
  have hx := C.1
  have hb := C.2.1
  have hl : lv_has ls 6 [(0, .ref tq0), (1, .int x1)] := hl
  have L34 : ∀ (k5 : (Int32) → (Int32) → (Int32) → Option (Int32)), (∀ (v1 : Int32) (v2 : Int32) (v3 : Int32) (H : Heap) (locs : List Loc) (ls : Array Slot), Wd D A s.heap (w_X12 cI cC cZ tq0 tq1 tq2 tq3 tq4 tq5 tq6 tq7 tq8 tq9 tq10 tq11 tq12 tq13 tq14 tq15 tq16 tq17 tq18 tq19 tq20 tq21 tq22 tq23 tq24 t_signs t_signMany t_lineOf t_strengthOf t_waterOf t_backOf t_passes t_tried t_table t_numbers t_bends t_wished t_itemLine t_itemStrength t_itemWater t_itemBack t_items t_worstThen t_reading t_isRead t_readSum t_readMany t_spanLow t_spanHigh t_weldLine t_weldPull t_welds t_orderOf t_bestOrder t_smithOf t_bestSmith t_busy) H locs → lv_has ls 6 [(0, .ref tq0), (1, .int v1), (2, .int v2), (3, .int v3)] → k5 v1 v2 v3 = some o → W p l e (rmOf 1 20) s m args below meth c H locs 0 0 Q (F0 m 5 ls [])) → ∀ (n : Nat), ∀ (v1 : Int32) (v2 : Int32) (v3 : Int32) (s0 : Int32) (H : Heap) (locs : List Loc) (ls : Array Slot), Wd D A s.heap (w_X12 cI cC cZ tq0 tq1 tq2 tq3 tq4 tq5 tq6 tq7 tq8 tq9 tq10 tq11 tq12 tq13 tq14 tq15 tq16 tq17 tq18 tq19 tq20 tq21 tq22 tq23 tq24 t_signs t_signMany t_lineOf t_strengthOf t_waterOf t_backOf t_passes t_tried t_table t_numbers t_bends t_wished t_itemLine t_itemStrength t_itemWater t_itemBack t_items t_worstThen t_reading t_isRead t_readSum t_readMany t_spanLow t_spanHigh t_weldLine t_weldPull t_welds t_orderOf t_bestOrder t_smithOf t_bestSmith t_busy) H locs → lv_has ls 6 [(0, .ref tq0), (1, .int v1), (2, .int v2), (3, .int v3)] → f_X12_partOf_34 t_lineOf t_numbers k5 n v1 v2 v3 s0 = some o → W p l e (rmOf 1 20) s m args below meth c H locs 0 0 Q (F0 m 34 ls [.int s0]) := by
    intro k5 H5 n v1 v2 v3 s0 H locs ls hw hl hf
    refine lv_istore (lv' := [(4, .int s0), (0, .ref tq0), (1, .int v1), (2, .int v2), (3, .int v3)]) hx hb (dc d_X12_partOf 23 rfl) hl (by decide) rfl (fun ls hl => ?_)
    refine lv_aload_n hx hb (dc d_X12_partOf 24 rfl) rfl (lv_at hl 1 rfl) ?_
    refine x_get C hw fl_X12_13 0 rfl rfl (dc d_X12_partOf 25 rfl) ?_
    refine lv_iload_n hx hb (dc d_X12_partOf 26 rfl) rfl (lv_at hl 4 rfl) ?_
    have hi := grd_b hf
    have hf := grd_x hf
    refine x_iald C hw 2 rfl hi (dc d_X12_partOf 27 rfl) ?_
    refine lv_aload_n hx hb (dc d_X12_partOf 28 rfl) rfl (lv_at hl 1 rfl) ?_
    refine x_get C hw fl_X12_13 0 rfl rfl (dc d_X12_partOf 29 rfl) ?_
    refine lv_iload_n hx hb (dc d_X12_partOf 30 rfl) rfl (lv_at hl 2 rfl) ?_
    have hi := grd_b hf
    have hf := grd_x hf
    refine x_iald C hw 2 rfl hi (dc d_X12_partOf 31 rfl) ?_
    refine lv_isub hx hb (dc d_X12_partOf 32 rfl) ?_
    obtain ⟨q4, hq4, hf⟩ := g_bd hf
    refine x_callS C hw mb_X12_size ms_X12_size ml_X12_119 (k_X12_size n hq4) hl.1 rfl rfl [] rfl rfl rfl (Nat.le_of_ble_eq_true rfl) (Nat.le_of_ble_eq_true rfl) (Nat.le_of_ble_eq_true rfl) (dc d_X12_partOf 33 rfl) (fun H locs hw => ?_)
    refine W.eq (g2 := F0 m 52 ls [.int q4]) rfl ?_
    have hw : Wd D A s.heap (w_X12 cI cC cZ tq0 tq1 tq2 tq3 tq4 tq5 tq6 tq7 tq8 tq9 tq10 tq11 tq12 tq13 tq14 tq15 tq16 tq17 tq18 tq19 tq20 tq21 tq22 tq23 tq24 t_signs t_signMany t_lineOf t_strengthOf t_waterOf t_backOf t_passes t_tried t_table t_numbers t_bends t_wished t_itemLine t_itemStrength t_itemWater t_itemBack t_items t_worstThen t_reading t_isRead t_readSum t_readMany t_spanLow t_spanHigh t_weldLine t_weldPull t_welds t_orderOf t_bestOrder t_smithOf t_bestSmith t_busy) H locs := hw
    refine lv_istore (lv' := [(5, .int q4), (4, .int s0), (0, .ref tq0), (1, .int v1), (2, .int v2), (3, .int v3)]) hx hb (dc d_X12_partOf 34 rfl) hl (by decide) rfl (fun ls hl => ?_)
    refine lv_iload_n hx hb (dc d_X12_partOf 35 rfl) rfl (lv_at hl 4 rfl) ?_
    refine lv_iload hx hb (dc d_X12_partOf 36 rfl) (lv_at hl 1 rfl) ?_
    refine lv_if_eq (tgt := 69) hx hb (dc d_X12_partOf 37 rfl) (by decide) (fun c5 => ?_) (fun c5 => ?_)
    · have hf := g_t hf c5
      refine lv_iload hx hb (dc d_X12_partOf 43 rfl) (lv_at hl 0 rfl) ?_
      refine lv_iconst (v := (1 : Int32)) hx hb (dc d_X12_partOf 44 rfl) (by decide) ?_
      refine lv_icmp_ne (tgt := 84) hx hb (dc d_X12_partOf 45 rfl) (by decide) (fun c6 => ?_) (fun c6 => ?_)
      · have hf := g_f hf c6
        refine lv_iload hx hb (dc d_X12_partOf 51 rfl) (lv_at hl 0 rfl) ?_
        refine lv_if_ne (tgt := 98) hx hb (dc d_X12_partOf 52 rfl) (by decide) (fun c7 => ?_) (fun c7 => ?_)
        · have hf := g_f hf c7
          refine lv_iconst (v := (0 : Int32)) hx hb (dc d_X12_partOf 58 rfl) (by decide) ?_
          refine lv_isub hx hb (dc d_X12_partOf 59 rfl) ?_
          refine lv_topi (fun y8 ey8 => ?_)
          have hf := g_nm hf ey8
          refine lv_istore_n (lv' := [(2, .int y8), (5, .int q4), (4, .int s0), (0, .ref tq0), (1, .int v1), (3, .int v3)]) hx hb (dc d_X12_partOf 60 rfl) rfl hl (by decide) rfl (fun ls hl => ?_)
          refine lv_iinc (v := (v3 + (1 : Int32))) (lv' := [(3, .int (v3 + (1 : Int32))), (2, .int y8), (5, .int q4), (4, .int s0), (0, .ref tq0), (1, .int v1)]) hx hb (dc d_X12_partOf 61 rfl) hl (k := 5) rfl (ii (by decide)) (by decide) rfl (fun ls hl => ?_)
          refine lv_goto (tgt := 5) hx hb (dc d_X12_partOf 62 rfl) (by decide) ?_
          exact H5 v1 y8 (v3 + (1 : Int32)) _ _ _ hw (lv_sub hl [4, 5, 1, 0] rfl) hf
        · have hf := g_t hf c7
          refine lv_aload_n hx hb (dc d_X12_partOf 53 rfl) rfl (lv_at hl 2 rfl) ?_
          refine x_get C hw fl_X12_28 0 rfl rfl (dc d_X12_partOf 54 rfl) ?_
          refine lv_iconst (v := (2 : Int32)) hx hb (dc d_X12_partOf 55 rfl) (by decide) ?_
          refine x_iald C hw 7 rfl (by decide) (dc d_X12_partOf 56 rfl) ?_
          refine lv_goto (tgt := 99) hx hb (dc d_X12_partOf 57 rfl) (by decide) ?_
          refine lv_isub hx hb (dc d_X12_partOf 59 rfl) ?_
          refine lv_topi (fun y9 ey9 => ?_)
          have hf := g_nm hf ey9
          refine lv_istore_n (lv' := [(2, .int y9), (5, .int q4), (4, .int s0), (0, .ref tq0), (1, .int v1), (3, .int v3)]) hx hb (dc d_X12_partOf 60 rfl) rfl hl (by decide) rfl (fun ls hl => ?_)
          refine lv_iinc (v := (v3 + (1 : Int32))) (lv' := [(3, .int (v3 + (1 : Int32))), (2, .int y9), (5, .int q4), (4, .int s0), (0, .ref tq0), (1, .int v1)]) hx hb (dc d_X12_partOf 61 rfl) hl (k := 5) rfl (ii (by decide)) (by decide) rfl (fun ls hl => ?_)
          refine lv_goto (tgt := 5) hx hb (dc d_X12_partOf 62 rfl) (by decide) ?_
          exact H5 v1 y9 (v3 + (1 : Int32)) _ _ _ hw (lv_sub hl [4, 5, 1, 0] rfl) hf
      · have hf := g_t hf c6
        refine lv_aload_n hx hb (dc d_X12_partOf 46 rfl) rfl (lv_at hl 2 rfl) ?_
        refine x_get C hw fl_X12_28 0 rfl rfl (dc d_X12_partOf 47 rfl) ?_
        refine lv_iconst (v := (1 : Int32)) hx hb (dc d_X12_partOf 48 rfl) (by decide) ?_
        refine x_iald C hw 7 rfl (by decide) (dc d_X12_partOf 49 rfl) ?_
        refine lv_goto (tgt := 99) hx hb (dc d_X12_partOf 50 rfl) (by decide) ?_
        refine lv_isub hx hb (dc d_X12_partOf 59 rfl) ?_
        refine lv_topi (fun y10 ey10 => ?_)
        have hf := g_nm hf ey10
        refine lv_istore_n (lv' := [(2, .int y10), (5, .int q4), (4, .int s0), (0, .ref tq0), (1, .int v1), (3, .int v3)]) hx hb (dc d_X12_partOf 60 rfl) rfl hl (by decide) rfl (fun ls hl => ?_)
        refine lv_iinc (v := (v3 + (1 : Int32))) (lv' := [(3, .int (v3 + (1 : Int32))), (2, .int y10), (5, .int q4), (4, .int s0), (0, .ref tq0), (1, .int v1)]) hx hb (dc d_X12_partOf 61 rfl) hl (k := 5) rfl (ii (by decide)) (by decide) rfl (fun ls hl => ?_)
        refine lv_goto (tgt := 5) hx hb (dc d_X12_partOf 62 rfl) (by decide) ?_
        exact H5 v1 y10 (v3 + (1 : Int32)) _ _ _ hw (lv_sub hl [4, 5, 1, 0] rfl) hf
    · have hf := g_f hf c5
      refine lv_aload_n hx hb (dc d_X12_partOf 38 rfl) rfl (lv_at hl 2 rfl) ?_
      refine x_get C hw fl_X12_28 0 rfl rfl (dc d_X12_partOf 39 rfl) ?_
      refine lv_iconst (v := (0 : Int32)) hx hb (dc d_X12_partOf 40 rfl) (by decide) ?_
      refine x_iald C hw 7 rfl (by decide) (dc d_X12_partOf 41 rfl) ?_
      refine lv_goto (tgt := 99) hx hb (dc d_X12_partOf 42 rfl) (by decide) ?_
      refine lv_isub hx hb (dc d_X12_partOf 59 rfl) ?_
      refine lv_topi (fun y11 ey11 => ?_)
      have hf := g_nm hf ey11
      refine lv_istore_n (lv' := [(2, .int y11), (5, .int q4), (4, .int s0), (0, .ref tq0), (1, .int v1), (3, .int v3)]) hx hb (dc d_X12_partOf 60 rfl) rfl hl (by decide) rfl (fun ls hl => ?_)
      refine lv_iinc (v := (v3 + (1 : Int32))) (lv' := [(3, .int (v3 + (1 : Int32))), (2, .int y11), (5, .int q4), (4, .int s0), (0, .ref tq0), (1, .int v1)]) hx hb (dc d_X12_partOf 61 rfl) hl (k := 5) rfl (ii (by decide)) (by decide) rfl (fun ls hl => ?_)
      refine lv_goto (tgt := 5) hx hb (dc d_X12_partOf 62 rfl) (by decide) ?_
      exact H5 v1 y11 (v3 + (1 : Int32)) _ _ _ hw (lv_sub hl [4, 5, 1, 0] rfl) hf
  have L5 : ∀ (n : Nat), ∀ (v1 : Int32) (v2 : Int32) (v3 : Int32) (H : Heap) (locs : List Loc) (ls : Array Slot), Wd D A s.heap (w_X12 cI cC cZ tq0 tq1 tq2 tq3 tq4 tq5 tq6 tq7 tq8 tq9 tq10 tq11 tq12 tq13 tq14 tq15 tq16 tq17 tq18 tq19 tq20 tq21 tq22 tq23 tq24 t_signs t_signMany t_lineOf t_strengthOf t_waterOf t_backOf t_passes t_tried t_table t_numbers t_bends t_wished t_itemLine t_itemStrength t_itemWater t_itemBack t_items t_worstThen t_reading t_isRead t_readSum t_readMany t_spanLow t_spanHigh t_weldLine t_weldPull t_welds t_orderOf t_bestOrder t_smithOf t_bestSmith t_busy) H locs → lv_has ls 6 [(0, .ref tq0), (1, .int v1), (2, .int v2), (3, .int v3)] → f_X12_partOf_5 t_lineOf t_numbers  n v1 v2 v3 = some o → W p l e (rmOf 1 20) s m args below meth c H locs 0 0 Q (F0 m 5 ls []) := by
    intro  n
    induction n with
    | zero => intro v1 v2 v3 H locs ls hw hl hf; exact (no_none hf).elim
    | succ n ih =>
      intro v1 v2 v3 H locs ls hw hl hf
      have hf : f_X12_partOf_5b t_lineOf t_numbers  (f_X12_partOf_5 t_lineOf t_numbers  n) n v1 v2 v3 = some o := hf
      generalize f_X12_partOf_5 t_lineOf t_numbers  n = k5 at hf ih
      refine lv_iload_n hx hb (dc d_X12_partOf 4 rfl) rfl (lv_at hl 3 rfl) ?_
      refine lv_iload_n hx hb (dc d_X12_partOf 5 rfl) rfl (lv_at hl 1 rfl) ?_
      refine lv_icmp_ge (tgt := 107) hx hb (dc d_X12_partOf 6 rfl) (by decide) (fun c1 => ?_) (fun c1 => ?_)
      · have hf := g_t hf c1
        refine lv_iload_n hx hb (dc d_X12_partOf 63 rfl) rfl (lv_at hl 2 rfl) ?_
        refine lv_if_ge (tgt := 115) hx hb (dc d_X12_partOf 64 rfl) (by decide) (fun c2 => ?_) (fun c2 => ?_)
        · have hf := g_t hf c2
          refine lv_iload_n hx hb (dc d_X12_partOf 67 rfl) rfl (lv_at hl 2 rfl) ?_
          cases hf
          exact x_iret C hA hQ hw rfl rfl (dc d_X12_partOf 68 rfl)
        · have hf := g_f hf c2
          refine lv_iconst (v := (0 : Int32)) hx hb (dc d_X12_partOf 65 rfl) (by decide) ?_
          refine lv_goto (tgt := 116) hx hb (dc d_X12_partOf 66 rfl) (by decide) ?_
          cases hf
          exact x_iret C hA hQ hw rfl rfl (dc d_X12_partOf 68 rfl)
      · have hf := g_f hf c1
        refine lv_aload_n hx hb (dc d_X12_partOf 7 rfl) rfl (lv_at hl 0 rfl) ?_
        refine x_get C hw fl_X12_13 0 rfl rfl (dc d_X12_partOf 8 rfl) ?_
        refine lv_iload_n hx hb (dc d_X12_partOf 9 rfl) rfl (lv_at hl 3 rfl) ?_
        have hi := grd_b hf
        have hf := grd_x hf
        refine x_iald C hw 2 rfl hi (dc d_X12_partOf 10 rfl) ?_
        refine lv_iconst (v := (4 : Int32)) hx hb (dc d_X12_partOf 11 rfl) (by decide) ?_
        refine x_div hx hb (dc d_X12_partOf 12 rfl) (by decide) ?_
        refine lv_aload_n hx hb (dc d_X12_partOf 13 rfl) rfl (lv_at hl 0 rfl) ?_
        refine x_get C hw fl_X12_13 0 rfl rfl (dc d_X12_partOf 14 rfl) ?_
        refine lv_iload_n hx hb (dc d_X12_partOf 15 rfl) rfl (lv_at hl 1 rfl) ?_
        have hi := grd_b hf
        have hf := grd_x hf
        refine x_iald C hw 2 rfl hi (dc d_X12_partOf 16 rfl) ?_
        refine lv_iconst (v := (4 : Int32)) hx hb (dc d_X12_partOf 17 rfl) (by decide) ?_
        refine x_div hx hb (dc d_X12_partOf 18 rfl) (by decide) ?_
        refine lv_icmp_eq (tgt := 33) hx hb (dc d_X12_partOf 19 rfl) (by decide) (fun c3 => ?_) (fun c3 => ?_)
        · have hf := g_t hf c3
          refine lv_iconst (v := (0 : Int32)) hx hb (dc d_X12_partOf 22 rfl) (by decide) ?_
          exact L34 k5 ih n v1 v2 v3 (0 : Int32) _ _ _ hw (lv_sub hl [0, 1, 2, 3] rfl) hf
        · have hf := g_f hf c3
          refine lv_iconst (v := (1 : Int32)) hx hb (dc d_X12_partOf 20 rfl) (by decide) ?_
          refine lv_goto (tgt := 34) hx hb (dc d_X12_partOf 21 rfl) (by decide) ?_
          exact L34 k5 ih n v1 v2 v3 (1 : Int32) _ _ _ hw (lv_sub hl [0, 1, 2, 3] rfl) hf
  refine lv_bipush (v := (100 : Int32)) hx hb (dc d_X12_partOf 0 rfl) (by decide) ?_
  refine lv_istore_n (lv' := [(2, .int (100 : Int32)), (0, .ref tq0), (1, .int x1)]) hx hb (dc d_X12_partOf 1 rfl) rfl hl (by decide) rfl (fun ls hl => ?_)
  refine lv_iconst (v := (0 : Int32)) hx hb (dc d_X12_partOf 2 rfl) (by decide) ?_
  refine lv_istore_n (lv' := [(3, .int (0 : Int32)), (2, .int (100 : Int32)), (0, .ref tq0), (1, .int x1)]) hx hb (dc d_X12_partOf 3 rfl) rfl hl (by decide) rfl (fun ls hl => ?_)
  exact L5  n x1 (100 : Int32) (0 : Int32) _ _ _ hw (lv_sub hl [2, 3, 1, 0] rfl) hf
set_option maxHeartbeats 4000000 in
set_option maxRecDepth 100000 in
theorem k_X12_bentBy (n : Nat) {l : Launch} {D : va_G} {cI cC cZ : ClassId} {tq0 tq1 tq2 tq3 tq4 tq5 tq6 tq7 tq8 tq9 tq10 tq11 tq12 tq13 tq14 tq15 tq16 tq17 tq18 tq19 tq20 tq21 tq22 tq23 tq24 : Nat} {t_signs : Nat → Int32} {t_signMany : Int32} {t_lineOf : Nat → Int32} {t_strengthOf : Nat → Int32} {t_waterOf : Nat → Int32} {t_backOf : Nat → Int32} {t_passes : Int32} {t_tried : Int32} {t_table : Nat → Int32} {t_numbers : Nat → Int32} {t_bends : Nat → Int32} {t_wished : Nat → Int32} {t_itemLine : Nat → Int32} {t_itemStrength : Nat → Int32} {t_itemWater : Nat → Int32} {t_itemBack : Nat → Int32} {t_items : Int32} {t_worstThen : Int32} {t_reading : Nat → Int32} {t_isRead : Nat → Int32} {t_readSum : Int32} {t_readMany : Int32} {t_spanLow : Nat → Int32} {t_spanHigh : Nat → Int32} {t_weldLine : Nat → Int32} {t_weldPull : Nat → Int32} {t_welds : Int32} {t_orderOf : Nat → Int32} {t_bestOrder : Nat → Int32} {t_smithOf : Nat → Int32} {t_bestSmith : Nat → Int32} {t_busy : Nat → Int32} {x1 : Int32} {o : Int32} (hf : f_X12_bentBy n t_lineOf t_strengthOf t_waterOf t_backOf t_table t_numbers x1 = some o) : Ctr l yX12_bentBy cX12_bentBy 3 (some .int) 2 45 D cI cC cZ [.ref tq0, .int x1] (w_X12 cI cC cZ tq0 tq1 tq2 tq3 tq4 tq5 tq6 tq7 tq8 tq9 tq10 tq11 tq12 tq13 tq14 tq15 tq16 tq17 tq18 tq19 tq20 tq21 tq22 tq23 tq24 t_signs t_signMany t_lineOf t_strengthOf t_waterOf t_backOf t_passes t_tried t_table t_numbers t_bends t_wished t_itemLine t_itemStrength t_itemWater t_itemBack t_items t_worstThen t_reading t_isRead t_readSum t_readMany t_spanLow t_spanHigh t_weldLine t_weldPull t_welds t_orderOf t_bestOrder t_smithOf t_bestSmith t_busy) (w_X12 cI cC cZ tq0 tq1 tq2 tq3 tq4 tq5 tq6 tq7 tq8 tq9 tq10 tq11 tq12 tq13 tq14 tq15 tq16 tq17 tq18 tq19 tq20 tq21 tq22 tq23 tq24 t_signs t_signMany t_lineOf t_strengthOf t_waterOf t_backOf t_passes t_tried t_table t_numbers t_bends t_wished t_itemLine t_itemStrength t_itemWater t_itemBack t_items t_worstThen t_reading t_isRead t_readSum t_readMany t_spanLow t_spanHigh t_weldLine t_weldPull t_welds t_orderOf t_bestOrder t_smithOf t_bestSmith t_busy) (some (.int o)) := by
  refine Ctr.of (by decide) (Nat.le_of_ble_eq_true rfl) ?_
  intro p e s m args below meth c ls A Q hA hQ C hl hw
  have hx := C.1
  have hb := C.2.1
  have hl : lv_has ls 3 [(0, .ref tq0), (1, .int x1)] := hl
  refine lv_aload_n hx hb (dc d_X12_bentBy 0 rfl) rfl (lv_at hl 0 rfl) ?_
  refine x_get C hw fl_X12_25 0 rfl rfl (dc d_X12_bentBy 1 rfl) ?_
  refine lv_iconst (v := (2 : Int32)) hx hb (dc d_X12_bentBy 2 rfl) (by decide) ?_
  refine lv_aload_n hx hb (dc d_X12_bentBy 3 rfl) rfl (lv_at hl 0 rfl) ?_
  refine x_get C hw fl_X12_16 0 rfl rfl (dc d_X12_bentBy 4 rfl) ?_
  refine lv_iload_n hx hb (dc d_X12_bentBy 5 rfl) rfl (lv_at hl 1 rfl) ?_
  have hi := grd_b hf
  have hf := grd_x hf
  refine x_iald C hw 3 rfl hi (dc d_X12_bentBy 6 rfl) ?_
  refine lv_imul hx hb (dc d_X12_bentBy 7 rfl) ?_
  refine lv_aload_n hx hb (dc d_X12_bentBy 8 rfl) rfl (lv_at hl 0 rfl) ?_
  refine x_get C hw fl_X12_19 0 rfl rfl (dc d_X12_bentBy 9 rfl) ?_
  refine lv_iload_n hx hb (dc d_X12_bentBy 10 rfl) rfl (lv_at hl 1 rfl) ?_
  have hi := grd_b hf
  have hf := grd_x hf
  refine x_iald C hw 4 rfl hi (dc d_X12_bentBy 11 rfl) ?_
  refine lv_iadd hx hb (dc d_X12_bentBy 12 rfl) ?_
  have hi := grd_b hf
  have hf := grd_x hf
  refine x_iald C hw 6 rfl hi (dc d_X12_bentBy 13 rfl) ?_
  refine lv_aload_n hx hb (dc d_X12_bentBy 14 rfl) rfl (lv_at hl 0 rfl) ?_
  refine lv_iload_n hx hb (dc d_X12_bentBy 15 rfl) rfl (lv_at hl 1 rfl) ?_
  obtain ⟨q1, hq1, hf⟩ := g_bd hf
  refine x_callVa C hw mb_X12_partOf mv_X12_partOf ml_X12_123 (k_X12_partOf n hq1) hl.1 rfl rfl rfl 0 12 rfl rfl (Nat.le_of_ble_eq_true rfl) (Nat.le_of_ble_eq_true rfl) (Nat.le_of_ble_eq_true rfl) (dc d_X12_bentBy 16 rfl) (fun H locs hw => ?_)
  refine W.eq (g2 := F0 m 25 ls [.int q1, .int (t_table (((2 : Int32) * (t_strengthOf x1.toNatClampNeg)) + (t_waterOf x1.toNatClampNeg)).toNatClampNeg)]) rfl ?_
  have hw : Wd D A s.heap (w_X12 cI cC cZ tq0 tq1 tq2 tq3 tq4 tq5 tq6 tq7 tq8 tq9 tq10 tq11 tq12 tq13 tq14 tq15 tq16 tq17 tq18 tq19 tq20 tq21 tq22 tq23 tq24 t_signs t_signMany t_lineOf t_strengthOf t_waterOf t_backOf t_passes t_tried t_table t_numbers t_bends t_wished t_itemLine t_itemStrength t_itemWater t_itemBack t_items t_worstThen t_reading t_isRead t_readSum t_readMany t_spanLow t_spanHigh t_weldLine t_weldPull t_welds t_orderOf t_bestOrder t_smithOf t_bestSmith t_busy) H locs := hw
  refine lv_imul hx hb (dc d_X12_bentBy 17 rfl) ?_
  refine lv_bipush (v := (100 : Int32)) hx hb (dc d_X12_bentBy 18 rfl) (by decide) ?_
  refine x_div hx hb (dc d_X12_bentBy 19 rfl) (by decide) ?_
  refine lv_topi (fun y2 ey2 => ?_)
  have hf := g_nm hf ey2
  refine lv_istore_n (lv' := [(2, .int y2), (0, .ref tq0), (1, .int x1)]) hx hb (dc d_X12_bentBy 20 rfl) rfl hl (by decide) rfl (fun ls hl => ?_)
  refine lv_aload_n hx hb (dc d_X12_bentBy 21 rfl) rfl (lv_at hl 1 rfl) ?_
  refine x_get C hw fl_X12_22 0 rfl rfl (dc d_X12_bentBy 22 rfl) ?_
  refine lv_iload_n hx hb (dc d_X12_bentBy 23 rfl) rfl (lv_at hl 2 rfl) ?_
  have hi := grd_b hf
  have hf := grd_x hf
  refine x_iald C hw 5 rfl hi (dc d_X12_bentBy 24 rfl) ?_
  refine lv_iconst (v := (1 : Int32)) hx hb (dc d_X12_bentBy 25 rfl) (by decide) ?_
  refine lv_icmp_ne (tgt := 45) hx hb (dc d_X12_bentBy 26 rfl) (by decide) (fun c3 => ?_) (fun c3 => ?_)
  · have hf := g_f hf c3
    refine lv_iload_n hx hb (dc d_X12_bentBy 30 rfl) rfl (lv_at hl 0 rfl) ?_
    cases hf
    exact x_iret C hA hQ hw rfl rfl (dc d_X12_bentBy 31 rfl)
  · have hf := g_t hf c3
    refine lv_iload_n hx hb (dc d_X12_bentBy 27 rfl) rfl (lv_at hl 0 rfl) ?_
    refine lv_ineg hx hb (dc d_X12_bentBy 28 rfl) ?_
    refine lv_goto (tgt := 46) hx hb (dc d_X12_bentBy 29 rfl) (by decide) ?_
    cases hf
    exact x_iret C hA hQ hw rfl rfl (dc d_X12_bentBy 31 rfl)
set_option maxHeartbeats 4000000 in
set_option maxRecDepth 100000 in
theorem k_X12_timeOf (n : Nat) {l : Launch} {D : va_G} {cI cC cZ : ClassId} {tq0 tq1 tq2 tq3 tq4 tq5 tq6 tq7 tq8 tq9 tq10 tq11 tq12 tq13 tq14 tq15 tq16 tq17 tq18 tq19 tq20 tq21 tq22 tq23 tq24 : Nat} {t_signs : Nat → Int32} {t_signMany : Int32} {t_lineOf : Nat → Int32} {t_strengthOf : Nat → Int32} {t_waterOf : Nat → Int32} {t_backOf : Nat → Int32} {t_passes : Int32} {t_tried : Int32} {t_table : Nat → Int32} {t_numbers : Nat → Int32} {t_bends : Nat → Int32} {t_wished : Nat → Int32} {t_itemLine : Nat → Int32} {t_itemStrength : Nat → Int32} {t_itemWater : Nat → Int32} {t_itemBack : Nat → Int32} {t_items : Int32} {t_worstThen : Int32} {t_reading : Nat → Int32} {t_isRead : Nat → Int32} {t_readSum : Int32} {t_readMany : Int32} {t_spanLow : Nat → Int32} {t_spanHigh : Nat → Int32} {t_weldLine : Nat → Int32} {t_weldPull : Nat → Int32} {t_welds : Int32} {t_orderOf : Nat → Int32} {t_bestOrder : Nat → Int32} {t_smithOf : Nat → Int32} {t_bestSmith : Nat → Int32} {t_busy : Nat → Int32} {x1 : Int32} {o : Int32} (hf : f_X12_timeOf n t_strengthOf t_waterOf x1 = some o) : Ctr l yX12_timeOf cX12_timeOf 2 (some .int) 0 0 D cI cC cZ [.ref tq0, .int x1] (w_X12 cI cC cZ tq0 tq1 tq2 tq3 tq4 tq5 tq6 tq7 tq8 tq9 tq10 tq11 tq12 tq13 tq14 tq15 tq16 tq17 tq18 tq19 tq20 tq21 tq22 tq23 tq24 t_signs t_signMany t_lineOf t_strengthOf t_waterOf t_backOf t_passes t_tried t_table t_numbers t_bends t_wished t_itemLine t_itemStrength t_itemWater t_itemBack t_items t_worstThen t_reading t_isRead t_readSum t_readMany t_spanLow t_spanHigh t_weldLine t_weldPull t_welds t_orderOf t_bestOrder t_smithOf t_bestSmith t_busy) (w_X12 cI cC cZ tq0 tq1 tq2 tq3 tq4 tq5 tq6 tq7 tq8 tq9 tq10 tq11 tq12 tq13 tq14 tq15 tq16 tq17 tq18 tq19 tq20 tq21 tq22 tq23 tq24 t_signs t_signMany t_lineOf t_strengthOf t_waterOf t_backOf t_passes t_tried t_table t_numbers t_bends t_wished t_itemLine t_itemStrength t_itemWater t_itemBack t_items t_worstThen t_reading t_isRead t_readSum t_readMany t_spanLow t_spanHigh t_weldLine t_weldPull t_welds t_orderOf t_bestOrder t_smithOf t_bestSmith t_busy) (some (.int o)) := by
  refine Ctr.of (by decide) (Nat.le_of_ble_eq_true rfl) ?_
  intro p e s m args below meth c ls A Q hA hQ C hl hw
  have hx := C.1
  have hb := C.2.1
  have hl : lv_has ls 2 [(0, .ref tq0), (1, .int x1)] := hl
  refine lv_bipush (v := (10 : Int32)) hx hb (dc d_X12_timeOf 0 rfl) (by decide) ?_
  refine lv_aload_n hx hb (dc d_X12_timeOf 1 rfl) rfl (lv_at hl 0 rfl) ?_
  refine x_get C hw fl_X12_16 0 rfl rfl (dc d_X12_timeOf 2 rfl) ?_
  refine lv_iload_n hx hb (dc d_X12_timeOf 3 rfl) rfl (lv_at hl 1 rfl) ?_
  have hi := grd_b hf
  have hf := grd_x hf
  refine x_iald C hw 3 rfl hi (dc d_X12_timeOf 4 rfl) ?_
  refine lv_isub hx hb (dc d_X12_timeOf 5 rfl) ?_
  refine lv_iconst (v := (3 : Int32)) hx hb (dc d_X12_timeOf 6 rfl) (by decide) ?_
  refine lv_aload_n hx hb (dc d_X12_timeOf 7 rfl) rfl (lv_at hl 0 rfl) ?_
  refine x_get C hw fl_X12_19 0 rfl rfl (dc d_X12_timeOf 8 rfl) ?_
  refine lv_iload_n hx hb (dc d_X12_timeOf 9 rfl) rfl (lv_at hl 1 rfl) ?_
  have hi := grd_b hf
  have hf := grd_x hf
  refine x_iald C hw 4 rfl hi (dc d_X12_timeOf 10 rfl) ?_
  refine lv_imul hx hb (dc d_X12_timeOf 11 rfl) ?_
  refine lv_iadd hx hb (dc d_X12_timeOf 12 rfl) ?_
  cases hf
  exact x_iret C hA hQ hw rfl rfl (dc d_X12_timeOf 13 rfl)
set_option maxHeartbeats 4000000 in
set_option maxRecDepth 100000 in
theorem k_X12_pass (n : Nat) {l : Launch} {D : va_G} {cI cC cZ : ClassId} {tq0 tq1 tq2 tq3 tq4 tq5 tq6 tq7 tq8 tq9 tq10 tq11 tq12 tq13 tq14 tq15 tq16 tq17 tq18 tq19 tq20 tq21 tq22 tq23 tq24 : Nat} {t_signs : Nat → Int32} {t_signMany : Int32} {t_lineOf : Nat → Int32} {t_strengthOf : Nat → Int32} {t_waterOf : Nat → Int32} {t_backOf : Nat → Int32} {t_passes : Int32} {t_tried : Int32} {t_table : Nat → Int32} {t_numbers : Nat → Int32} {t_bends : Nat → Int32} {t_wished : Nat → Int32} {t_itemLine : Nat → Int32} {t_itemStrength : Nat → Int32} {t_itemWater : Nat → Int32} {t_itemBack : Nat → Int32} {t_items : Int32} {t_worstThen : Int32} {t_reading : Nat → Int32} {t_isRead : Nat → Int32} {t_readSum : Int32} {t_readMany : Int32} {t_spanLow : Nat → Int32} {t_spanHigh : Nat → Int32} {t_weldLine : Nat → Int32} {t_weldPull : Nat → Int32} {t_welds : Int32} {t_orderOf : Nat → Int32} {t_bestOrder : Nat → Int32} {t_smithOf : Nat → Int32} {t_bestSmith : Nat → Int32} {t_busy : Nat → Int32} {x1 : Int32} {x2 : Int32} {o : Int32} (hf : f_X12_pass n t_lineOf t_strengthOf t_waterOf t_backOf t_passes t_table t_numbers x1 x2 = some o) : Ctr l yX12_pass cX12_pass 3 (some .int) 3 67 D cI cC cZ [.ref tq0, .int x1, .int x2] (w_X12 cI cC cZ tq0 tq1 tq2 tq3 tq4 tq5 tq6 tq7 tq8 tq9 tq10 tq11 tq12 tq13 tq14 tq15 tq16 tq17 tq18 tq19 tq20 tq21 tq22 tq23 tq24 t_signs t_signMany t_lineOf t_strengthOf t_waterOf t_backOf t_passes t_tried t_table t_numbers t_bends t_wished t_itemLine t_itemStrength t_itemWater t_itemBack t_items t_worstThen t_reading t_isRead t_readSum t_readMany t_spanLow t_spanHigh t_weldLine t_weldPull t_welds t_orderOf t_bestOrder t_smithOf t_bestSmith t_busy) (w_X12 cI cC cZ tq0 tq1 tq2 tq3 tq4 tq5 tq6 tq7 tq8 tq9 tq10 tq11 tq12 tq13 tq14 tq15 tq16 tq17 tq18 tq19 tq20 tq21 tq22 tq23 tq24 t_signs t_signMany t_lineOf t_strengthOf t_waterOf t_backOf t_passes t_tried t_table t_numbers t_bends t_wished t_itemLine t_itemStrength t_itemWater t_itemBack t_items t_worstThen t_reading t_isRead t_readSum t_readMany t_spanLow t_spanHigh t_weldLine t_weldPull t_welds t_orderOf t_bestOrder t_smithOf t_bestSmith t_busy) (some (.int o)) := by
  refine Ctr.of (by decide) (Nat.le_of_ble_eq_true rfl) ?_
  intro p e s m args below meth c ls A Q hA hQ C hl hw
  have hx := C.1
  have hb := C.2.1
  have hl : lv_has ls 3 [(0, .ref tq0), (1, .int x1), (2, .int x2)] := hl
  refine lv_iload_n hx hb (dc d_X12_pass 0 rfl) rfl (lv_at hl 1 rfl) ?_
  refine lv_i2l (v := x1.toInt64) hx hb (dc d_X12_pass 1 rfl) rfl ?_
  refine lv_lconst (v := (0 : Int64)) hx hb (dc d_X12_pass 2 rfl) (by decide) ?_
  refine lv_aload_n hx hb (dc d_X12_pass 3 rfl) rfl (lv_at hl 0 rfl) ?_
  refine x_get C hw fl_X12_113 0 rfl rfl (dc d_X12_pass 4 rfl) ?_
  refine lv_iconst (v := (1 : Int32)) hx hb (dc d_X12_pass 5 rfl) (by decide) ?_
  refine lv_isub hx hb (dc d_X12_pass 6 rfl) ?_
  refine lv_i2l (v := (t_passes - (1 : Int32)).toInt64) hx hb (dc d_X12_pass 7 rfl) rfl ?_
  obtain ⟨q1, hq1, hf⟩ := g_bd hf
  refine x_callS C hw mb_X12_in ms_X12_in ml_X12_85 (k_X12_in n hq1) hl.1 rfl rfl [] rfl rfl rfl (Nat.le_of_ble_eq_true rfl) (Nat.le_of_ble_eq_true rfl) (Nat.le_of_ble_eq_true rfl) (dc d_X12_pass 8 rfl) (fun H locs hw => ?_)
  refine W.eq (g2 := F0 m 13 ls [.int q1]) rfl ?_
  have hw : Wd D A s.heap (w_X12 cI cC cZ tq0 tq1 tq2 tq3 tq4 tq5 tq6 tq7 tq8 tq9 tq10 tq11 tq12 tq13 tq14 tq15 tq16 tq17 tq18 tq19 tq20 tq21 tq22 tq23 tq24 t_signs t_signMany t_lineOf t_strengthOf t_waterOf t_backOf t_passes t_tried t_table t_numbers t_bends t_wished t_itemLine t_itemStrength t_itemWater t_itemBack t_items t_worstThen t_reading t_isRead t_readSum t_readMany t_spanLow t_spanHigh t_weldLine t_weldPull t_welds t_orderOf t_bestOrder t_smithOf t_bestSmith t_busy) H locs := hw
  refine lv_if_ne (tgt := 18) hx hb (dc d_X12_pass 9 rfl) (by decide) (fun c2 => ?_) (fun c2 => ?_)
  · have hf := g_f hf c2
    refine lv_iload_n hx hb (dc d_X12_pass 12 rfl) rfl (lv_at hl 2 rfl) ?_
    by_cases c3 : x2 = (0 : Int32)
    · have hf := g_t hf c3
      refine lv_tableIn (off := 41) (tgt := 60) hx hb (dc d_X12_pass 13 rfl) (by rw [c3]; decide) (by rw [c3]; decide) (by rw [c3]; rfl) (by decide) ?_
      refine lv_aload_n hx hb (dc d_X12_pass 14 rfl) rfl (lv_at hl 0 rfl) ?_
      refine x_get C hw fl_X12_13 0 rfl rfl (dc d_X12_pass 15 rfl) ?_
      refine lv_iload_n hx hb (dc d_X12_pass 16 rfl) rfl (lv_at hl 1 rfl) ?_
      have hi := grd_b hf
      have hf := grd_x hf
      refine x_iald C hw 2 rfl hi (dc d_X12_pass 17 rfl) ?_
      cases hf
      exact x_iret C hA hQ hw rfl rfl (dc d_X12_pass 18 rfl)
    have hf := g_f hf c3
    by_cases c4 : x2 = (1 : Int32)
    · have hf := g_t hf c4
      refine lv_tableIn (off := 48) (tgt := 67) hx hb (dc d_X12_pass 13 rfl) (by rw [c4]; decide) (by rw [c4]; decide) (by rw [c4]; rfl) (by decide) ?_
      refine lv_aload_n hx hb (dc d_X12_pass 19 rfl) rfl (lv_at hl 0 rfl) ?_
      refine x_get C hw fl_X12_16 0 rfl rfl (dc d_X12_pass 20 rfl) ?_
      refine lv_iload_n hx hb (dc d_X12_pass 21 rfl) rfl (lv_at hl 1 rfl) ?_
      have hi := grd_b hf
      have hf := grd_x hf
      refine x_iald C hw 3 rfl hi (dc d_X12_pass 22 rfl) ?_
      cases hf
      exact x_iret C hA hQ hw rfl rfl (dc d_X12_pass 23 rfl)
    have hf := g_f hf c4
    by_cases c5 : x2 = (2 : Int32)
    · have hf := g_t hf c5
      refine lv_tableIn (off := 55) (tgt := 74) hx hb (dc d_X12_pass 13 rfl) (by rw [c5]; decide) (by rw [c5]; decide) (by rw [c5]; rfl) (by decide) ?_
      refine lv_aload_n hx hb (dc d_X12_pass 24 rfl) rfl (lv_at hl 0 rfl) ?_
      refine x_get C hw fl_X12_19 0 rfl rfl (dc d_X12_pass 25 rfl) ?_
      refine lv_iload_n hx hb (dc d_X12_pass 26 rfl) rfl (lv_at hl 1 rfl) ?_
      have hi := grd_b hf
      have hf := grd_x hf
      refine x_iald C hw 4 rfl hi (dc d_X12_pass 27 rfl) ?_
      cases hf
      exact x_iret C hA hQ hw rfl rfl (dc d_X12_pass 28 rfl)
    have hf := g_f hf c5
    by_cases c6 : x2 = (3 : Int32)
    · have hf := g_t hf c6
      refine lv_tableIn (off := 62) (tgt := 81) hx hb (dc d_X12_pass 13 rfl) (by rw [c6]; decide) (by rw [c6]; decide) (by rw [c6]; rfl) (by decide) ?_
      refine lv_aload_n hx hb (dc d_X12_pass 29 rfl) rfl (lv_at hl 0 rfl) ?_
      refine x_get C hw fl_X12_22 0 rfl rfl (dc d_X12_pass 30 rfl) ?_
      refine lv_iload_n hx hb (dc d_X12_pass 31 rfl) rfl (lv_at hl 1 rfl) ?_
      have hi := grd_b hf
      have hf := grd_x hf
      refine x_iald C hw 5 rfl hi (dc d_X12_pass 32 rfl) ?_
      cases hf
      exact x_iret C hA hQ hw rfl rfl (dc d_X12_pass 33 rfl)
    have hf := g_f hf c6
    by_cases c7 : x2 = (4 : Int32)
    · have hf := g_t hf c7
      refine lv_tableIn (off := 69) (tgt := 88) hx hb (dc d_X12_pass 13 rfl) (by rw [c7]; decide) (by rw [c7]; decide) (by rw [c7]; rfl) (by decide) ?_
      refine lv_aload_n hx hb (dc d_X12_pass 34 rfl) rfl (lv_at hl 0 rfl) ?_
      refine lv_iload_n hx hb (dc d_X12_pass 35 rfl) rfl (lv_at hl 1 rfl) ?_
      obtain ⟨q8, hq8, hf⟩ := g_bd hf
      refine x_callVa C hw mb_X12_partOf mv_X12_partOf ml_X12_123 (k_X12_partOf n hq8) hl.1 rfl rfl rfl 0 12 rfl rfl (Nat.le_of_ble_eq_true rfl) (Nat.le_of_ble_eq_true rfl) (Nat.le_of_ble_eq_true rfl) (dc d_X12_pass 36 rfl) (fun H locs hw => ?_)
      refine W.eq (g2 := F0 m 93 ls [.int q8]) rfl ?_
      have hw : Wd D A s.heap (w_X12 cI cC cZ tq0 tq1 tq2 tq3 tq4 tq5 tq6 tq7 tq8 tq9 tq10 tq11 tq12 tq13 tq14 tq15 tq16 tq17 tq18 tq19 tq20 tq21 tq22 tq23 tq24 t_signs t_signMany t_lineOf t_strengthOf t_waterOf t_backOf t_passes t_tried t_table t_numbers t_bends t_wished t_itemLine t_itemStrength t_itemWater t_itemBack t_items t_worstThen t_reading t_isRead t_readSum t_readMany t_spanLow t_spanHigh t_weldLine t_weldPull t_welds t_orderOf t_bestOrder t_smithOf t_bestSmith t_busy) H locs := hw
      cases hf
      exact x_iret C hA hQ hw rfl rfl (dc d_X12_pass 37 rfl)
    have hf := g_f hf c7
    by_cases c9 : x2 = (5 : Int32)
    · have hf := g_t hf c9
      refine lv_tableIn (off := 75) (tgt := 94) hx hb (dc d_X12_pass 13 rfl) (by rw [c9]; decide) (by rw [c9]; decide) (by rw [c9]; rfl) (by decide) ?_
      refine lv_aload_n hx hb (dc d_X12_pass 38 rfl) rfl (lv_at hl 0 rfl) ?_
      refine lv_iload_n hx hb (dc d_X12_pass 39 rfl) rfl (lv_at hl 1 rfl) ?_
      obtain ⟨q10, hq10, hf⟩ := g_bd hf
      refine x_callVa C hw mb_X12_bentBy mv_X12_bentBy ml_X12_126 (k_X12_bentBy n hq10) hl.1 rfl rfl rfl 0 12 rfl rfl (Nat.le_of_ble_eq_true rfl) (Nat.le_of_ble_eq_true rfl) (Nat.le_of_ble_eq_true rfl) (dc d_X12_pass 40 rfl) (fun H locs hw => ?_)
      refine W.eq (g2 := F0 m 99 ls [.int q10]) rfl ?_
      have hw : Wd D A s.heap (w_X12 cI cC cZ tq0 tq1 tq2 tq3 tq4 tq5 tq6 tq7 tq8 tq9 tq10 tq11 tq12 tq13 tq14 tq15 tq16 tq17 tq18 tq19 tq20 tq21 tq22 tq23 tq24 t_signs t_signMany t_lineOf t_strengthOf t_waterOf t_backOf t_passes t_tried t_table t_numbers t_bends t_wished t_itemLine t_itemStrength t_itemWater t_itemBack t_items t_worstThen t_reading t_isRead t_readSum t_readMany t_spanLow t_spanHigh t_weldLine t_weldPull t_welds t_orderOf t_bestOrder t_smithOf t_bestSmith t_busy) H locs := hw
      cases hf
      exact x_iret C hA hQ hw rfl rfl (dc d_X12_pass 41 rfl)
    have hf := g_f hf c9
    by_cases c11 : x2 = (6 : Int32)
    · have hf := g_t hf c11
      refine lv_tableIn (off := 81) (tgt := 100) hx hb (dc d_X12_pass 13 rfl) (by rw [c11]; decide) (by rw [c11]; decide) (by rw [c11]; rfl) (by decide) ?_
      refine lv_aload_n hx hb (dc d_X12_pass 42 rfl) rfl (lv_at hl 0 rfl) ?_
      refine lv_iload_n hx hb (dc d_X12_pass 43 rfl) rfl (lv_at hl 1 rfl) ?_
      obtain ⟨q12, hq12, hf⟩ := g_bd hf
      refine x_callVa C hw mb_X12_timeOf mv_X12_timeOf ml_X12_129 (k_X12_timeOf n hq12) hl.1 rfl rfl rfl 0 12 rfl rfl (Nat.le_of_ble_eq_true rfl) (Nat.le_of_ble_eq_true rfl) (Nat.le_of_ble_eq_true rfl) (dc d_X12_pass 44 rfl) (fun H locs hw => ?_)
      refine W.eq (g2 := F0 m 105 ls [.int q12]) rfl ?_
      have hw : Wd D A s.heap (w_X12 cI cC cZ tq0 tq1 tq2 tq3 tq4 tq5 tq6 tq7 tq8 tq9 tq10 tq11 tq12 tq13 tq14 tq15 tq16 tq17 tq18 tq19 tq20 tq21 tq22 tq23 tq24 t_signs t_signMany t_lineOf t_strengthOf t_waterOf t_backOf t_passes t_tried t_table t_numbers t_bends t_wished t_itemLine t_itemStrength t_itemWater t_itemBack t_items t_worstThen t_reading t_isRead t_readSum t_readMany t_spanLow t_spanHigh t_weldLine t_weldPull t_welds t_orderOf t_bestOrder t_smithOf t_bestSmith t_busy) H locs := hw
      cases hf
      exact x_iret C hA hQ hw rfl rfl (dc d_X12_pass 45 rfl)
    have hf := g_f hf c11
    refine lv_tableOut (tgt := 106) hx hb (dc d_X12_pass 13 rfl) (by have zc3 := sw_ne c3 (k := 0) (by decide); have zc4 := sw_ne c4 (k := 1) (by decide); have zc5 := sw_ne c5 (k := 2) (by decide); have zc6 := sw_ne c6 (k := 3) (by decide); have zc7 := sw_ne c7 (k := 4) (by decide); have zc9 := sw_ne c9 (k := 5) (by decide); have zc11 := sw_ne c11 (k := 6) (by decide); omega) (by decide) ?_
    refine lv_bipush (v := (-2 : Int32)) hx hb (dc d_X12_pass 46 rfl) (by decide) ?_
    cases hf
    exact x_iret C hA hQ hw rfl rfl (dc d_X12_pass 47 rfl)
  · have hf := g_t hf c2
    refine lv_iconst (v := (-1 : Int32)) hx hb (dc d_X12_pass 10 rfl) (by decide) ?_
    cases hf
    exact x_iret C hA hQ hw rfl rfl (dc d_X12_pass 11 rfl)
set_option maxHeartbeats 4000000 in
set_option maxRecDepth 100000 in
theorem k_X12_table (n : Nat) {l : Launch} {D : va_G} {cI cC cZ : ClassId} {tq0 tq1 tq2 tq3 tq4 tq5 tq6 tq7 tq8 tq9 tq10 tq11 tq12 tq13 tq14 tq15 tq16 tq17 tq18 tq19 tq20 tq21 tq22 tq23 tq24 : Nat} {t_signs : Nat → Int32} {t_signMany : Int32} {t_lineOf : Nat → Int32} {t_strengthOf : Nat → Int32} {t_waterOf : Nat → Int32} {t_backOf : Nat → Int32} {t_passes : Int32} {t_tried : Int32} {t_table : Nat → Int32} {t_numbers : Nat → Int32} {t_bends : Nat → Int32} {t_wished : Nat → Int32} {t_itemLine : Nat → Int32} {t_itemStrength : Nat → Int32} {t_itemWater : Nat → Int32} {t_itemBack : Nat → Int32} {t_items : Int32} {t_worstThen : Int32} {t_reading : Nat → Int32} {t_isRead : Nat → Int32} {t_readSum : Int32} {t_readMany : Int32} {t_spanLow : Nat → Int32} {t_spanHigh : Nat → Int32} {t_weldLine : Nat → Int32} {t_weldPull : Nat → Int32} {t_welds : Int32} {t_orderOf : Nat → Int32} {t_bestOrder : Nat → Int32} {t_smithOf : Nat → Int32} {t_bestSmith : Nat → Int32} {t_busy : Nat → Int32} {x1 : Int32} {x2 : Int32} {x3 : Int32} {o : Int32 × (Nat → Int32)} (hf : f_X12_table n t_table x1 x2 x3 = some o) : Ctr l yX12_table cX12_table 5 (some .int) 1 25 D cI cC cZ [.ref tq0, .int x1, .int x2, .int x3] (w_X12 cI cC cZ tq0 tq1 tq2 tq3 tq4 tq5 tq6 tq7 tq8 tq9 tq10 tq11 tq12 tq13 tq14 tq15 tq16 tq17 tq18 tq19 tq20 tq21 tq22 tq23 tq24 t_signs t_signMany t_lineOf t_strengthOf t_waterOf t_backOf t_passes t_tried t_table t_numbers t_bends t_wished t_itemLine t_itemStrength t_itemWater t_itemBack t_items t_worstThen t_reading t_isRead t_readSum t_readMany t_spanLow t_spanHigh t_weldLine t_weldPull t_welds t_orderOf t_bestOrder t_smithOf t_bestSmith t_busy) (w_X12 cI cC cZ tq0 tq1 tq2 tq3 tq4 tq5 tq6 tq7 tq8 tq9 tq10 tq11 tq12 tq13 tq14 tq15 tq16 tq17 tq18 tq19 tq20 tq21 tq22 tq23 tq24 t_signs t_signMany t_lineOf t_strengthOf t_waterOf t_backOf t_passes t_tried o.2 t_numbers t_bends t_wished t_itemLine t_itemStrength t_itemWater t_itemBack t_items t_worstThen t_reading t_isRead t_readSum t_readMany t_spanLow t_spanHigh t_weldLine t_weldPull t_welds t_orderOf t_bestOrder t_smithOf t_bestSmith t_busy) (some (.int o.1)) := by
  refine Ctr.of (by decide) (Nat.le_of_ble_eq_true rfl) ?_
  intro p e s m args below meth c ls A Q hA hQ C hl hw
  have hx := C.1
  have hb := C.2.1
  have hl : lv_has ls 5 [(0, .ref tq0), (1, .int x1), (2, .int x2), (3, .int x3)] := hl
  refine lv_iload_n hx hb (dc d_X12_table 0 rfl) rfl (lv_at hl 1 rfl) ?_
  refine lv_i2l (v := x1.toInt64) hx hb (dc d_X12_table 1 rfl) rfl ?_
  refine lv_lconst (v := (1 : Int64)) hx hb (dc d_X12_table 2 rfl) (by decide) ?_
  refine x_ldc2 (v := (9 : Int64)) C cn_X12_132 (dc d_X12_table 3 rfl) ?_
  obtain ⟨q1, hq1, hf⟩ := g_bd hf
  refine x_callS C hw mb_X12_in ms_X12_in ml_X12_85 (k_X12_in n hq1) hl.1 rfl rfl [] rfl rfl rfl (Nat.le_of_ble_eq_true rfl) (Nat.le_of_ble_eq_true rfl) (Nat.le_of_ble_eq_true rfl) (dc d_X12_table 4 rfl) (fun H locs hw => ?_)
  refine W.eq (g2 := F0 m 9 ls [.int q1]) rfl ?_
  have hw : Wd D A s.heap (w_X12 cI cC cZ tq0 tq1 tq2 tq3 tq4 tq5 tq6 tq7 tq8 tq9 tq10 tq11 tq12 tq13 tq14 tq15 tq16 tq17 tq18 tq19 tq20 tq21 tq22 tq23 tq24 t_signs t_signMany t_lineOf t_strengthOf t_waterOf t_backOf t_passes t_tried t_table t_numbers t_bends t_wished t_itemLine t_itemStrength t_itemWater t_itemBack t_items t_worstThen t_reading t_isRead t_readSum t_readMany t_spanLow t_spanHigh t_weldLine t_weldPull t_welds t_orderOf t_bestOrder t_smithOf t_bestSmith t_busy) H locs := hw
  refine lv_if_eq (tgt := 34) hx hb (dc d_X12_table 5 rfl) (by decide) (fun c2 => ?_) (fun c2 => ?_)
  · have hf := g_t hf c2
    refine lv_bipush (v := (-2 : Int32)) hx hb (dc d_X12_table 18 rfl) (by decide) ?_
    cases hf
    exact x_iret C hA hQ hw rfl rfl (dc d_X12_table 19 rfl)
  · have hf := g_f hf c2
    refine lv_iload_n hx hb (dc d_X12_table 6 rfl) rfl (lv_at hl 2 rfl) ?_
    refine lv_i2l (v := x2.toInt64) hx hb (dc d_X12_table 7 rfl) rfl ?_
    refine lv_lconst (v := (0 : Int64)) hx hb (dc d_X12_table 8 rfl) (by decide) ?_
    refine lv_lconst (v := (1 : Int64)) hx hb (dc d_X12_table 9 rfl) (by decide) ?_
    obtain ⟨q3, hq3, hf⟩ := g_bd hf
    refine x_callS C hw mb_X12_in ms_X12_in ml_X12_85 (k_X12_in n hq3) hl.1 rfl rfl [] rfl rfl rfl (Nat.le_of_ble_eq_true rfl) (Nat.le_of_ble_eq_true rfl) (Nat.le_of_ble_eq_true rfl) (dc d_X12_table 10 rfl) (fun H locs hw => ?_)
    refine W.eq (g2 := F0 m 19 ls [.int q3]) rfl ?_
    have hw : Wd D A s.heap (w_X12 cI cC cZ tq0 tq1 tq2 tq3 tq4 tq5 tq6 tq7 tq8 tq9 tq10 tq11 tq12 tq13 tq14 tq15 tq16 tq17 tq18 tq19 tq20 tq21 tq22 tq23 tq24 t_signs t_signMany t_lineOf t_strengthOf t_waterOf t_backOf t_passes t_tried t_table t_numbers t_bends t_wished t_itemLine t_itemStrength t_itemWater t_itemBack t_items t_worstThen t_reading t_isRead t_readSum t_readMany t_spanLow t_spanHigh t_weldLine t_weldPull t_welds t_orderOf t_bestOrder t_smithOf t_bestSmith t_busy) H locs := hw
    refine lv_if_eq (tgt := 34) hx hb (dc d_X12_table 11 rfl) (by decide) (fun c4 => ?_) (fun c4 => ?_)
    · have hf := g_t hf c4
      refine lv_bipush (v := (-2 : Int32)) hx hb (dc d_X12_table 18 rfl) (by decide) ?_
      cases hf
      exact x_iret C hA hQ hw rfl rfl (dc d_X12_table 19 rfl)
    · have hf := g_f hf c4
      refine lv_iload_n hx hb (dc d_X12_table 12 rfl) rfl (lv_at hl 3 rfl) ?_
      refine lv_i2l (v := x3.toInt64) hx hb (dc d_X12_table 13 rfl) rfl ?_
      refine lv_lconst (v := (0 : Int64)) hx hb (dc d_X12_table 14 rfl) (by decide) ?_
      refine x_ldc2 (v := (1000 : Int64)) C cn_X12_134 (dc d_X12_table 15 rfl) ?_
      obtain ⟨q5, hq5, hf⟩ := g_bd hf
      refine x_callS C hw mb_X12_in ms_X12_in ml_X12_85 (k_X12_in n hq5) hl.1 rfl rfl [] rfl rfl rfl (Nat.le_of_ble_eq_true rfl) (Nat.le_of_ble_eq_true rfl) (Nat.le_of_ble_eq_true rfl) (dc d_X12_table 16 rfl) (fun H locs hw => ?_)
      refine W.eq (g2 := F0 m 31 ls [.int q5]) rfl ?_
      have hw : Wd D A s.heap (w_X12 cI cC cZ tq0 tq1 tq2 tq3 tq4 tq5 tq6 tq7 tq8 tq9 tq10 tq11 tq12 tq13 tq14 tq15 tq16 tq17 tq18 tq19 tq20 tq21 tq22 tq23 tq24 t_signs t_signMany t_lineOf t_strengthOf t_waterOf t_backOf t_passes t_tried t_table t_numbers t_bends t_wished t_itemLine t_itemStrength t_itemWater t_itemBack t_items t_worstThen t_reading t_isRead t_readSum t_readMany t_spanLow t_spanHigh t_weldLine t_weldPull t_welds t_orderOf t_bestOrder t_smithOf t_bestSmith t_busy) H locs := hw
      refine lv_if_ne (tgt := 37) hx hb (dc d_X12_table 17 rfl) (by decide) (fun c6 => ?_) (fun c6 => ?_)
      · have hf := g_f hf c6
        refine lv_aload_n hx hb (dc d_X12_table 20 rfl) rfl (lv_at hl 0 rfl) ?_
        refine x_get C hw fl_X12_25 0 rfl rfl (dc d_X12_table 21 rfl) ?_
        refine lv_iconst (v := (2 : Int32)) hx hb (dc d_X12_table 22 rfl) (by decide) ?_
        refine lv_iload_n hx hb (dc d_X12_table 23 rfl) rfl (lv_at hl 1 rfl) ?_
        refine lv_imul hx hb (dc d_X12_table 24 rfl) ?_
        refine lv_iload_n hx hb (dc d_X12_table 25 rfl) rfl (lv_at hl 2 rfl) ?_
        refine lv_iadd hx hb (dc d_X12_table 26 rfl) ?_
        have hi := grd_b hf
        have hf := grd_x hf
        refine x_iald C hw 6 rfl hi (dc d_X12_table 27 rfl) ?_
        refine lv_topi (fun y7 ey7 => ?_)
        have hf := g_nm hf ey7
        refine lv_istore (lv' := [(4, .int y7), (0, .ref tq0), (1, .int x1), (2, .int x2), (3, .int x3)]) hx hb (dc d_X12_table 28 rfl) hl (by decide) rfl (fun ls hl => ?_)
        refine lv_aload_n hx hb (dc d_X12_table 29 rfl) rfl (lv_at hl 1 rfl) ?_
        refine x_get C hw fl_X12_25 0 rfl rfl (dc d_X12_table 30 rfl) ?_
        refine lv_iconst (v := (2 : Int32)) hx hb (dc d_X12_table 31 rfl) (by decide) ?_
        refine lv_iload_n hx hb (dc d_X12_table 32 rfl) rfl (lv_at hl 2 rfl) ?_
        refine lv_imul hx hb (dc d_X12_table 33 rfl) ?_
        refine lv_iload_n hx hb (dc d_X12_table 34 rfl) rfl (lv_at hl 3 rfl) ?_
        refine lv_iadd hx hb (dc d_X12_table 35 rfl) ?_
        refine lv_iload_n hx hb (dc d_X12_table 36 rfl) rfl (lv_at hl 4 rfl) ?_
        have hi := grd_b hf
        have hf := grd_x hf
        refine x_iast C hw 6 rfl hi (dc d_X12_table 37 rfl) (fun H locs hw => ?_)
        dsimp only [w_X12, mix, List.set_cons_succ, List.set_cons_zero] at hw
        have hw : Wd D A s.heap (w_X12 cI cC cZ tq0 tq1 tq2 tq3 tq4 tq5 tq6 tq7 tq8 tq9 tq10 tq11 tq12 tq13 tq14 tq15 tq16 tq17 tq18 tq19 tq20 tq21 tq22 tq23 tq24 t_signs t_signMany t_lineOf t_strengthOf t_waterOf t_backOf t_passes t_tried (upd t_table (((2 : Int32) * x1) + x2).toNatClampNeg x3) t_numbers t_bends t_wished t_itemLine t_itemStrength t_itemWater t_itemBack t_items t_worstThen t_reading t_isRead t_readSum t_readMany t_spanLow t_spanHigh t_weldLine t_weldPull t_welds t_orderOf t_bestOrder t_smithOf t_bestSmith t_busy) H locs := hw
        refine lv_iload hx hb (dc d_X12_table 38 rfl) (lv_at hl 0 rfl) ?_
        cases hf
        exact x_iret C hA hQ hw rfl rfl (dc d_X12_table 39 rfl)
      · have hf := g_t hf c6
        refine lv_bipush (v := (-2 : Int32)) hx hb (dc d_X12_table 18 rfl) (by decide) ?_
        cases hf
        exact x_iret C hA hQ hw rfl rfl (dc d_X12_table 19 rfl)
set_option maxHeartbeats 4000000 in
set_option maxRecDepth 100000 in
theorem k_X12_mostOf (n : Nat) {l : Launch} {D : va_G} {cI cC cZ : ClassId}   {x0 : Int32} {o : Int32} (hf : f_X12_mostOf n x0 = some o) : Ctr l yX12_mostOf cX12_mostOf 1 (some .int) 0 0 D cI cC cZ [.int x0] [] [] (some (.int o)) := by
  refine Ctr.of (by decide) (Nat.le_of_ble_eq_true rfl) ?_
  intro p e s m args below meth c ls A Q hA hQ C hl hw
  have hx := C.1
  have hb := C.2.1
  have hl : lv_has ls 1 [(0, .int x0)] := hl
  refine lv_iload_n hx hb (dc d_X12_mostOf 0 rfl) rfl (lv_at hl 0 rfl) ?_
  by_cases c1 : x0 = (0 : Int32)
  · have hf := g_t hf c1
    refine lv_tableIn (off := 39) (tgt := 40) hx hb (dc d_X12_mostOf 1 rfl) (by rw [c1]; decide) (by rw [c1]; decide) (by rw [c1]; rfl) (by decide) ?_
    refine lv_bipush (v := (30 : Int32)) hx hb (dc d_X12_mostOf 2 rfl) (by decide) ?_
    cases hf
    exact x_iret C hA hQ hw rfl rfl (dc d_X12_mostOf 3 rfl)
  have hf := g_f hf c1
  by_cases c2 : x0 = (1 : Int32)
  · have hf := g_t hf c2
    refine lv_tableIn (off := 42) (tgt := 43) hx hb (dc d_X12_mostOf 1 rfl) (by rw [c2]; decide) (by rw [c2]; decide) (by rw [c2]; rfl) (by decide) ?_
    refine lv_bipush (v := (50 : Int32)) hx hb (dc d_X12_mostOf 4 rfl) (by decide) ?_
    cases hf
    exact x_iret C hA hQ hw rfl rfl (dc d_X12_mostOf 5 rfl)
  have hf := g_f hf c2
  by_cases c3 : x0 = (2 : Int32)
  · have hf := g_t hf c3
    refine lv_tableIn (off := 45) (tgt := 46) hx hb (dc d_X12_mostOf 1 rfl) (by rw [c3]; decide) (by rw [c3]; decide) (by rw [c3]; rfl) (by decide) ?_
    refine lv_bipush (v := (100 : Int32)) hx hb (dc d_X12_mostOf 6 rfl) (by decide) ?_
    cases hf
    exact x_iret C hA hQ hw rfl rfl (dc d_X12_mostOf 7 rfl)
  have hf := g_f hf c3
  by_cases c4 : x0 = (3 : Int32)
  · have hf := g_t hf c4
    refine lv_tableIn (off := 48) (tgt := 49) hx hb (dc d_X12_mostOf 1 rfl) (by rw [c4]; decide) (by rw [c4]; decide) (by rw [c4]; rfl) (by decide) ?_
    refine x_ldc (v := (100000 : Int32)) C cn_X12_136 (dc d_X12_mostOf 8 rfl) ?_
    cases hf
    exact x_iret C hA hQ hw rfl rfl (dc d_X12_mostOf 9 rfl)
  have hf := g_f hf c4
  by_cases c5 : x0 = (4 : Int32)
  · have hf := g_t hf c5
    refine lv_tableIn (off := 51) (tgt := 52) hx hb (dc d_X12_mostOf 1 rfl) (by rw [c5]; decide) (by rw [c5]; decide) (by rw [c5]; rfl) (by decide) ?_
    refine x_ldc (v := (1000000 : Int32)) C cn_X12_137 (dc d_X12_mostOf 10 rfl) ?_
    cases hf
    exact x_iret C hA hQ hw rfl rfl (dc d_X12_mostOf 11 rfl)
  have hf := g_f hf c5
  by_cases c6 : x0 = (5 : Int32)
  · have hf := g_t hf c6
    refine lv_tableIn (off := 39) (tgt := 40) hx hb (dc d_X12_mostOf 1 rfl) (by rw [c6]; decide) (by rw [c6]; decide) (by rw [c6]; rfl) (by decide) ?_
    refine lv_bipush (v := (30 : Int32)) hx hb (dc d_X12_mostOf 2 rfl) (by decide) ?_
    cases hf
    exact x_iret C hA hQ hw rfl rfl (dc d_X12_mostOf 3 rfl)
  have hf := g_f hf c6
  refine lv_tableOut (tgt := 52) hx hb (dc d_X12_mostOf 1 rfl) (by have zc1 := sw_ne c1 (k := 0) (by decide); have zc2 := sw_ne c2 (k := 1) (by decide); have zc3 := sw_ne c3 (k := 2) (by decide); have zc4 := sw_ne c4 (k := 3) (by decide); have zc5 := sw_ne c5 (k := 4) (by decide); have zc6 := sw_ne c6 (k := 5) (by decide); omega) (by decide) ?_
  refine x_ldc (v := (1000000 : Int32)) C cn_X12_137 (dc d_X12_mostOf 10 rfl) ?_
  cases hf
  exact x_iret C hA hQ hw rfl rfl (dc d_X12_mostOf 11 rfl)
set_option maxHeartbeats 4000000 in
set_option maxRecDepth 100000 in
theorem k_X12_set (n : Nat) {l : Launch} {D : va_G} {cI cC cZ : ClassId} {tq0 tq1 tq2 tq3 tq4 tq5 tq6 tq7 tq8 tq9 tq10 tq11 tq12 tq13 tq14 tq15 tq16 tq17 tq18 tq19 tq20 tq21 tq22 tq23 tq24 : Nat} {t_signs : Nat → Int32} {t_signMany : Int32} {t_lineOf : Nat → Int32} {t_strengthOf : Nat → Int32} {t_waterOf : Nat → Int32} {t_backOf : Nat → Int32} {t_passes : Int32} {t_tried : Int32} {t_table : Nat → Int32} {t_numbers : Nat → Int32} {t_bends : Nat → Int32} {t_wished : Nat → Int32} {t_itemLine : Nat → Int32} {t_itemStrength : Nat → Int32} {t_itemWater : Nat → Int32} {t_itemBack : Nat → Int32} {t_items : Int32} {t_worstThen : Int32} {t_reading : Nat → Int32} {t_isRead : Nat → Int32} {t_readSum : Int32} {t_readMany : Int32} {t_spanLow : Nat → Int32} {t_spanHigh : Nat → Int32} {t_weldLine : Nat → Int32} {t_weldPull : Nat → Int32} {t_welds : Int32} {t_orderOf : Nat → Int32} {t_bestOrder : Nat → Int32} {t_smithOf : Nat → Int32} {t_bestSmith : Nat → Int32} {t_busy : Nat → Int32} {x1 : Int32} {x2 : Int32} {o : Int32 × (Nat → Int32)} (hf : f_X12_set n t_numbers x1 x2 = some o) : Ctr l yX12_set cX12_set 4 (some .int) 1 25 D cI cC cZ [.ref tq0, .int x1, .int x2] (w_X12 cI cC cZ tq0 tq1 tq2 tq3 tq4 tq5 tq6 tq7 tq8 tq9 tq10 tq11 tq12 tq13 tq14 tq15 tq16 tq17 tq18 tq19 tq20 tq21 tq22 tq23 tq24 t_signs t_signMany t_lineOf t_strengthOf t_waterOf t_backOf t_passes t_tried t_table t_numbers t_bends t_wished t_itemLine t_itemStrength t_itemWater t_itemBack t_items t_worstThen t_reading t_isRead t_readSum t_readMany t_spanLow t_spanHigh t_weldLine t_weldPull t_welds t_orderOf t_bestOrder t_smithOf t_bestSmith t_busy) (w_X12 cI cC cZ tq0 tq1 tq2 tq3 tq4 tq5 tq6 tq7 tq8 tq9 tq10 tq11 tq12 tq13 tq14 tq15 tq16 tq17 tq18 tq19 tq20 tq21 tq22 tq23 tq24 t_signs t_signMany t_lineOf t_strengthOf t_waterOf t_backOf t_passes t_tried t_table o.2 t_bends t_wished t_itemLine t_itemStrength t_itemWater t_itemBack t_items t_worstThen t_reading t_isRead t_readSum t_readMany t_spanLow t_spanHigh t_weldLine t_weldPull t_welds t_orderOf t_bestOrder t_smithOf t_bestSmith t_busy) (some (.int o.1)) := by
  refine Ctr.of (by decide) (Nat.le_of_ble_eq_true rfl) ?_
  intro p e s m args below meth c ls A Q hA hQ C hl hw
  have hx := C.1
  have hb := C.2.1
  have hl : lv_has ls 4 [(0, .ref tq0), (1, .int x1), (2, .int x2)] := hl
  have L24 : ∀ (n : Nat), ∀ (t_numbers : Nat → Int32) (v1 : Int32) (v2 : Int32) (s0 : Int64) (s1 : Int64) (H : Heap) (locs : List Loc) (ls : Array Slot), Wd D A s.heap (w_X12 cI cC cZ tq0 tq1 tq2 tq3 tq4 tq5 tq6 tq7 tq8 tq9 tq10 tq11 tq12 tq13 tq14 tq15 tq16 tq17 tq18 tq19 tq20 tq21 tq22 tq23 tq24 t_signs t_signMany t_lineOf t_strengthOf t_waterOf t_backOf t_passes t_tried t_table t_numbers t_bends t_wished t_itemLine t_itemStrength t_itemWater t_itemBack t_items t_worstThen t_reading t_isRead t_readSum t_readMany t_spanLow t_spanHigh t_weldLine t_weldPull t_welds t_orderOf t_bestOrder t_smithOf t_bestSmith t_busy) H locs → lv_has ls 4 [(0, .ref tq0), (1, .int v1), (2, .int v2)] → f_X12_set_24  n t_numbers v1 v2 s0 s1 = some o → W p l e (rmOf 1 25) s m args below meth c H locs 0 0 Q (F0 m 24 ls [.long s0, .long s1]) := by
    intro  n t_numbers v1 v2 s0 s1 H locs ls hw hl hf
    refine lv_iload_n hx hb (dc d_X12_set 14 rfl) rfl (lv_at hl 1 rfl) ?_
    obtain ⟨q4, hq4, hf⟩ := g_bd hf
    refine x_callS C hw mb_X12_mostOf ms_X12_mostOf ml_X12_140 (k_X12_mostOf n hq4) hl.1 rfl rfl [] rfl rfl rfl (Nat.le_of_ble_eq_true rfl) (Nat.le_of_ble_eq_true rfl) (Nat.le_of_ble_eq_true rfl) (dc d_X12_set 15 rfl) (fun H locs hw => ?_)
    refine W.eq (g2 := F0 m 28 ls [.int q4, .long s0, .long s1]) rfl ?_
    have hw : Wd D A s.heap (w_X12 cI cC cZ tq0 tq1 tq2 tq3 tq4 tq5 tq6 tq7 tq8 tq9 tq10 tq11 tq12 tq13 tq14 tq15 tq16 tq17 tq18 tq19 tq20 tq21 tq22 tq23 tq24 t_signs t_signMany t_lineOf t_strengthOf t_waterOf t_backOf t_passes t_tried t_table t_numbers t_bends t_wished t_itemLine t_itemStrength t_itemWater t_itemBack t_items t_worstThen t_reading t_isRead t_readSum t_readMany t_spanLow t_spanHigh t_weldLine t_weldPull t_welds t_orderOf t_bestOrder t_smithOf t_bestSmith t_busy) H locs := hw
    refine lv_i2l (v := q4.toInt64) hx hb (dc d_X12_set 16 rfl) rfl ?_
    obtain ⟨q5, hq5, hf⟩ := g_bd hf
    refine x_callS C hw mb_X12_in ms_X12_in ml_X12_85 (k_X12_in n hq5) hl.1 rfl rfl [] rfl rfl rfl (Nat.le_of_ble_eq_true rfl) (Nat.le_of_ble_eq_true rfl) (Nat.le_of_ble_eq_true rfl) (dc d_X12_set 17 rfl) (fun H locs hw => ?_)
    refine W.eq (g2 := F0 m 32 ls [.int q5]) rfl ?_
    have hw : Wd D A s.heap (w_X12 cI cC cZ tq0 tq1 tq2 tq3 tq4 tq5 tq6 tq7 tq8 tq9 tq10 tq11 tq12 tq13 tq14 tq15 tq16 tq17 tq18 tq19 tq20 tq21 tq22 tq23 tq24 t_signs t_signMany t_lineOf t_strengthOf t_waterOf t_backOf t_passes t_tried t_table t_numbers t_bends t_wished t_itemLine t_itemStrength t_itemWater t_itemBack t_items t_worstThen t_reading t_isRead t_readSum t_readMany t_spanLow t_spanHigh t_weldLine t_weldPull t_welds t_orderOf t_bestOrder t_smithOf t_bestSmith t_busy) H locs := hw
    refine lv_if_ne (tgt := 38) hx hb (dc d_X12_set 18 rfl) (by decide) (fun c6 => ?_) (fun c6 => ?_)
    · have hf := g_f hf c6
      refine lv_aload_n hx hb (dc d_X12_set 21 rfl) rfl (lv_at hl 0 rfl) ?_
      refine x_get C hw fl_X12_28 0 rfl rfl (dc d_X12_set 22 rfl) ?_
      refine lv_iload_n hx hb (dc d_X12_set 23 rfl) rfl (lv_at hl 1 rfl) ?_
      have hi := grd_b hf
      have hf := grd_x hf
      refine x_iald C hw 7 rfl hi (dc d_X12_set 24 rfl) ?_
      refine lv_topi (fun y7 ey7 => ?_)
      have hf := g_nm hf ey7
      refine lv_istore_n (lv' := [(3, .int y7), (0, .ref tq0), (1, .int v1), (2, .int v2)]) hx hb (dc d_X12_set 25 rfl) rfl hl (by decide) rfl (fun ls hl => ?_)
      refine lv_aload_n hx hb (dc d_X12_set 26 rfl) rfl (lv_at hl 1 rfl) ?_
      refine x_get C hw fl_X12_28 0 rfl rfl (dc d_X12_set 27 rfl) ?_
      refine lv_iload_n hx hb (dc d_X12_set 28 rfl) rfl (lv_at hl 2 rfl) ?_
      refine lv_iload_n hx hb (dc d_X12_set 29 rfl) rfl (lv_at hl 3 rfl) ?_
      have hi := grd_b hf
      have hf := grd_x hf
      refine x_iast C hw 7 rfl hi (dc d_X12_set 30 rfl) (fun H locs hw => ?_)
      dsimp only [w_X12, mix, List.set_cons_succ, List.set_cons_zero] at hw
      have hw : Wd D A s.heap (w_X12 cI cC cZ tq0 tq1 tq2 tq3 tq4 tq5 tq6 tq7 tq8 tq9 tq10 tq11 tq12 tq13 tq14 tq15 tq16 tq17 tq18 tq19 tq20 tq21 tq22 tq23 tq24 t_signs t_signMany t_lineOf t_strengthOf t_waterOf t_backOf t_passes t_tried t_table (upd t_numbers v1.toNatClampNeg v2) t_bends t_wished t_itemLine t_itemStrength t_itemWater t_itemBack t_items t_worstThen t_reading t_isRead t_readSum t_readMany t_spanLow t_spanHigh t_weldLine t_weldPull t_welds t_orderOf t_bestOrder t_smithOf t_bestSmith t_busy) H locs := hw
      refine lv_iload_n hx hb (dc d_X12_set 31 rfl) rfl (lv_at hl 0 rfl) ?_
      cases hf
      exact x_iret C hA hQ hw rfl rfl (dc d_X12_set 32 rfl)
    · have hf := g_t hf c6
      refine lv_bipush (v := (-2 : Int32)) hx hb (dc d_X12_set 19 rfl) (by decide) ?_
      cases hf
      exact x_iret C hA hQ hw rfl rfl (dc d_X12_set 20 rfl)
  refine lv_iload_n hx hb (dc d_X12_set 0 rfl) rfl (lv_at hl 1 rfl) ?_
  refine lv_i2l (v := x1.toInt64) hx hb (dc d_X12_set 1 rfl) rfl ?_
  refine lv_lconst (v := (0 : Int64)) hx hb (dc d_X12_set 2 rfl) (by decide) ?_
  refine x_ldc2 (v := (5 : Int64)) C cn_X12_138 (dc d_X12_set 3 rfl) ?_
  obtain ⟨q1, hq1, hf⟩ := g_bd hf
  refine x_callS C hw mb_X12_in ms_X12_in ml_X12_85 (k_X12_in n hq1) hl.1 rfl rfl [] rfl rfl rfl (Nat.le_of_ble_eq_true rfl) (Nat.le_of_ble_eq_true rfl) (Nat.le_of_ble_eq_true rfl) (dc d_X12_set 4 rfl) (fun H locs hw => ?_)
  refine W.eq (g2 := F0 m 9 ls [.int q1]) rfl ?_
  have hw : Wd D A s.heap (w_X12 cI cC cZ tq0 tq1 tq2 tq3 tq4 tq5 tq6 tq7 tq8 tq9 tq10 tq11 tq12 tq13 tq14 tq15 tq16 tq17 tq18 tq19 tq20 tq21 tq22 tq23 tq24 t_signs t_signMany t_lineOf t_strengthOf t_waterOf t_backOf t_passes t_tried t_table t_numbers t_bends t_wished t_itemLine t_itemStrength t_itemWater t_itemBack t_items t_worstThen t_reading t_isRead t_readSum t_readMany t_spanLow t_spanHigh t_weldLine t_weldPull t_welds t_orderOf t_bestOrder t_smithOf t_bestSmith t_busy) H locs := hw
  refine lv_if_eq (tgt := 35) hx hb (dc d_X12_set 5 rfl) (by decide) (fun c2 => ?_) (fun c2 => ?_)
  · have hf := g_t hf c2
    refine lv_bipush (v := (-2 : Int32)) hx hb (dc d_X12_set 19 rfl) (by decide) ?_
    cases hf
    exact x_iret C hA hQ hw rfl rfl (dc d_X12_set 20 rfl)
  · have hf := g_f hf c2
    refine lv_iload_n hx hb (dc d_X12_set 6 rfl) rfl (lv_at hl 2 rfl) ?_
    refine lv_i2l (v := x2.toInt64) hx hb (dc d_X12_set 7 rfl) rfl ?_
    refine lv_iload_n hx hb (dc d_X12_set 8 rfl) rfl (lv_at hl 1 rfl) ?_
    refine lv_iconst (v := (3 : Int32)) hx hb (dc d_X12_set 9 rfl) (by decide) ?_
    refine lv_icmp_ne (tgt := 23) hx hb (dc d_X12_set 10 rfl) (by decide) (fun c3 => ?_) (fun c3 => ?_)
    · have hf := g_f hf c3
      refine lv_lconst (v := (0 : Int64)) hx hb (dc d_X12_set 13 rfl) (by decide) ?_
      exact L24  n t_numbers x1 x2 (0 : Int64) x2.toInt64 _ _ _ hw (lv_sub hl [0, 1, 2] rfl) hf
    · have hf := g_t hf c3
      refine lv_lconst (v := (1 : Int64)) hx hb (dc d_X12_set 11 rfl) (by decide) ?_
      refine lv_goto (tgt := 24) hx hb (dc d_X12_set 12 rfl) (by decide) ?_
      exact L24  n t_numbers x1 x2 (1 : Int64) x2.toInt64 _ _ _ hw (lv_sub hl [0, 1, 2] rfl) hf
set_option maxHeartbeats 4000000 in
set_option maxRecDepth 100000 in
theorem k_X12_findBends (n : Nat) {l : Launch} {D : va_G} {cI cC cZ : ClassId} {tq0 tq1 tq2 tq3 tq4 tq5 tq6 tq7 tq8 tq9 tq10 tq11 tq12 tq13 tq14 tq15 tq16 tq17 tq18 tq19 tq20 tq21 tq22 tq23 tq24 : Nat} {t_signs : Nat → Int32} {t_signMany : Int32} {t_lineOf : Nat → Int32} {t_strengthOf : Nat → Int32} {t_waterOf : Nat → Int32} {t_backOf : Nat → Int32} {t_passes : Int32} {t_tried : Int32} {t_table : Nat → Int32} {t_numbers : Nat → Int32} {t_bends : Nat → Int32} {t_wished : Nat → Int32} {t_itemLine : Nat → Int32} {t_itemStrength : Nat → Int32} {t_itemWater : Nat → Int32} {t_itemBack : Nat → Int32} {t_items : Int32} {t_worstThen : Int32} {t_reading : Nat → Int32} {t_isRead : Nat → Int32} {t_readSum : Int32} {t_readMany : Int32} {t_spanLow : Nat → Int32} {t_spanHigh : Nat → Int32} {t_weldLine : Nat → Int32} {t_weldPull : Nat → Int32} {t_welds : Int32} {t_orderOf : Nat → Int32} {t_bestOrder : Nat → Int32} {t_smithOf : Nat → Int32} {t_bestSmith : Nat → Int32} {t_busy : Nat → Int32} {x1 : Int32} {o : (Nat → Int32)} (hf : f_X12_findBends n t_lineOf t_strengthOf t_waterOf t_backOf t_table t_numbers t_bends x1 = some o) : Ctr l yX12_findBends cX12_findBends 3 none 3 67 D cI cC cZ [.ref tq0, .int x1] (w_X12 cI cC cZ tq0 tq1 tq2 tq3 tq4 tq5 tq6 tq7 tq8 tq9 tq10 tq11 tq12 tq13 tq14 tq15 tq16 tq17 tq18 tq19 tq20 tq21 tq22 tq23 tq24 t_signs t_signMany t_lineOf t_strengthOf t_waterOf t_backOf t_passes t_tried t_table t_numbers t_bends t_wished t_itemLine t_itemStrength t_itemWater t_itemBack t_items t_worstThen t_reading t_isRead t_readSum t_readMany t_spanLow t_spanHigh t_weldLine t_weldPull t_welds t_orderOf t_bestOrder t_smithOf t_bestSmith t_busy) (w_X12 cI cC cZ tq0 tq1 tq2 tq3 tq4 tq5 tq6 tq7 tq8 tq9 tq10 tq11 tq12 tq13 tq14 tq15 tq16 tq17 tq18 tq19 tq20 tq21 tq22 tq23 tq24 t_signs t_signMany t_lineOf t_strengthOf t_waterOf t_backOf t_passes t_tried t_table t_numbers o t_wished t_itemLine t_itemStrength t_itemWater t_itemBack t_items t_worstThen t_reading t_isRead t_readSum t_readMany t_spanLow t_spanHigh t_weldLine t_weldPull t_welds t_orderOf t_bestOrder t_smithOf t_bestSmith t_busy) none := by
  refine Ctr.of (by decide) (Nat.le_of_ble_eq_true rfl) ?_
  intro p e s m args below meth c ls A Q hA hQ C hl hw
  have hx := C.1
  have hb := C.2.1
  have hl : lv_has ls 3 [(0, .ref tq0), (1, .int x1)] := hl
  have L23 : ∀ (n : Nat), ∀ (t_bends : Nat → Int32) (v1 : Int32) (v2 : Int32) (H : Heap) (locs : List Loc) (ls : Array Slot), Wd D A s.heap (w_X12 cI cC cZ tq0 tq1 tq2 tq3 tq4 tq5 tq6 tq7 tq8 tq9 tq10 tq11 tq12 tq13 tq14 tq15 tq16 tq17 tq18 tq19 tq20 tq21 tq22 tq23 tq24 t_signs t_signMany t_lineOf t_strengthOf t_waterOf t_backOf t_passes t_tried t_table t_numbers t_bends t_wished t_itemLine t_itemStrength t_itemWater t_itemBack t_items t_worstThen t_reading t_isRead t_readSum t_readMany t_spanLow t_spanHigh t_weldLine t_weldPull t_welds t_orderOf t_bestOrder t_smithOf t_bestSmith t_busy) H locs → lv_has ls 3 [(0, .ref tq0), (1, .int v1), (2, .int v2)] → f_X12_findBends_23 t_lineOf t_strengthOf t_waterOf t_backOf t_table t_numbers  n t_bends v1 v2 = some o → W p l e (rmOf 3 67) s m args below meth c H locs 0 0 Q (F0 m 23 ls []) := by
    intro  n
    induction n with
    | zero => intro t_bends v1 v2 H locs ls hw hl hf; exact (no_none hf).elim
    | succ n ih =>
      intro t_bends v1 v2 H locs ls hw hl hf
      have hf : f_X12_findBends_23b t_lineOf t_strengthOf t_waterOf t_backOf t_table t_numbers  (f_X12_findBends_23 t_lineOf t_strengthOf t_waterOf t_backOf t_table t_numbers  n) n t_bends v1 v2 = some o := hf
      generalize f_X12_findBends_23 t_lineOf t_strengthOf t_waterOf t_backOf t_table t_numbers  n = k23 at hf ih
      refine lv_iload_n hx hb (dc d_X12_findBends 14 rfl) rfl (lv_at hl 2 rfl) ?_
      refine lv_iload_n hx hb (dc d_X12_findBends 15 rfl) rfl (lv_at hl 1 rfl) ?_
      refine lv_icmp_ge (tgt := 53) hx hb (dc d_X12_findBends 16 rfl) (by decide) (fun c2 => ?_) (fun c2 => ?_)
      · have hf := g_t hf c2
        cases hf
        exact x_vret C hA hQ hw rfl rfl (dc d_X12_findBends 32 rfl)
      · have hf := g_f hf c2
        refine lv_aload_n hx hb (dc d_X12_findBends 17 rfl) rfl (lv_at hl 0 rfl) ?_
        refine x_get C hw fl_X12_31 0 rfl rfl (dc d_X12_findBends 18 rfl) ?_
        refine lv_aload_n hx hb (dc d_X12_findBends 19 rfl) rfl (lv_at hl 0 rfl) ?_
        refine x_get C hw fl_X12_13 0 rfl rfl (dc d_X12_findBends 20 rfl) ?_
        refine lv_iload_n hx hb (dc d_X12_findBends 21 rfl) rfl (lv_at hl 2 rfl) ?_
        have hi := grd_b hf
        have hf := grd_x hf
        refine x_iald C hw 2 rfl hi (dc d_X12_findBends 22 rfl) ?_
        refine lv_dup2_11 hx hb (dc d_X12_findBends 23 rfl) rfl rfl ?_
        have hi := grd_b hf
        have hf := grd_x hf
        refine x_iald C hw 8 rfl hi (dc d_X12_findBends 24 rfl) ?_
        refine lv_aload_n hx hb (dc d_X12_findBends 25 rfl) rfl (lv_at hl 0 rfl) ?_
        refine lv_iload_n hx hb (dc d_X12_findBends 26 rfl) rfl (lv_at hl 2 rfl) ?_
        obtain ⟨q3, hq3, hf⟩ := g_bd hf
        refine x_callVa C hw mb_X12_bentBy mv_X12_bentBy ml_X12_126 (k_X12_bentBy n hq3) hl.1 rfl rfl rfl 0 12 rfl rfl (Nat.le_of_ble_eq_true rfl) (Nat.le_of_ble_eq_true rfl) (Nat.le_of_ble_eq_true rfl) (dc d_X12_findBends 27 rfl) (fun H locs hw => ?_)
        refine W.eq (g2 := F0 m 45 ls [.int q3, .int (t_bends (t_lineOf v2.toNatClampNeg).toNatClampNeg), .int (t_lineOf v2.toNatClampNeg), .ref tq8]) rfl ?_
        have hw : Wd D A s.heap (w_X12 cI cC cZ tq0 tq1 tq2 tq3 tq4 tq5 tq6 tq7 tq8 tq9 tq10 tq11 tq12 tq13 tq14 tq15 tq16 tq17 tq18 tq19 tq20 tq21 tq22 tq23 tq24 t_signs t_signMany t_lineOf t_strengthOf t_waterOf t_backOf t_passes t_tried t_table t_numbers t_bends t_wished t_itemLine t_itemStrength t_itemWater t_itemBack t_items t_worstThen t_reading t_isRead t_readSum t_readMany t_spanLow t_spanHigh t_weldLine t_weldPull t_welds t_orderOf t_bestOrder t_smithOf t_bestSmith t_busy) H locs := hw
        refine lv_iadd hx hb (dc d_X12_findBends 28 rfl) ?_
        have hi := grd_b hf
        have hf := grd_x hf
        refine x_iast C hw 8 rfl hi (dc d_X12_findBends 29 rfl) (fun H locs hw => ?_)
        dsimp only [w_X12, mix, List.set_cons_succ, List.set_cons_zero] at hw
        have hw : Wd D A s.heap (w_X12 cI cC cZ tq0 tq1 tq2 tq3 tq4 tq5 tq6 tq7 tq8 tq9 tq10 tq11 tq12 tq13 tq14 tq15 tq16 tq17 tq18 tq19 tq20 tq21 tq22 tq23 tq24 t_signs t_signMany t_lineOf t_strengthOf t_waterOf t_backOf t_passes t_tried t_table t_numbers (upd t_bends (t_lineOf v2.toNatClampNeg).toNatClampNeg ((t_bends (t_lineOf v2.toNatClampNeg).toNatClampNeg) + q3)) t_wished t_itemLine t_itemStrength t_itemWater t_itemBack t_items t_worstThen t_reading t_isRead t_readSum t_readMany t_spanLow t_spanHigh t_weldLine t_weldPull t_welds t_orderOf t_bestOrder t_smithOf t_bestSmith t_busy) H locs := hw
        refine lv_iinc (v := (v2 + (1 : Int32))) (lv' := [(2, .int (v2 + (1 : Int32))), (0, .ref tq0), (1, .int v1)]) hx hb (dc d_X12_findBends 30 rfl) hl (k := 2) rfl (ii (by decide)) (by decide) rfl (fun ls hl => ?_)
        refine lv_goto (tgt := 23) hx hb (dc d_X12_findBends 31 rfl) (by decide) ?_
        exact ih (upd t_bends (t_lineOf v2.toNatClampNeg).toNatClampNeg ((t_bends (t_lineOf v2.toNatClampNeg).toNatClampNeg) + q3)) v1 (v2 + (1 : Int32)) _ _ _ hw (lv_sub hl [1, 2, 0] rfl) hf
  have L2 : ∀ (n : Nat), ∀ (t_bends : Nat → Int32) (v1 : Int32) (v2 : Int32) (H : Heap) (locs : List Loc) (ls : Array Slot), Wd D A s.heap (w_X12 cI cC cZ tq0 tq1 tq2 tq3 tq4 tq5 tq6 tq7 tq8 tq9 tq10 tq11 tq12 tq13 tq14 tq15 tq16 tq17 tq18 tq19 tq20 tq21 tq22 tq23 tq24 t_signs t_signMany t_lineOf t_strengthOf t_waterOf t_backOf t_passes t_tried t_table t_numbers t_bends t_wished t_itemLine t_itemStrength t_itemWater t_itemBack t_items t_worstThen t_reading t_isRead t_readSum t_readMany t_spanLow t_spanHigh t_weldLine t_weldPull t_welds t_orderOf t_bestOrder t_smithOf t_bestSmith t_busy) H locs → lv_has ls 3 [(0, .ref tq0), (1, .int v1), (2, .int v2)] → f_X12_findBends_2 t_lineOf t_strengthOf t_waterOf t_backOf t_table t_numbers  n t_bends v1 v2 = some o → W p l e (rmOf 3 67) s m args below meth c H locs 0 0 Q (F0 m 2 ls []) := by
    intro  n
    induction n with
    | zero => intro t_bends v1 v2 H locs ls hw hl hf; exact (no_none hf).elim
    | succ n ih =>
      intro t_bends v1 v2 H locs ls hw hl hf
      have hf : f_X12_findBends_2b t_lineOf t_strengthOf t_waterOf t_backOf t_table t_numbers  (f_X12_findBends_2 t_lineOf t_strengthOf t_waterOf t_backOf t_table t_numbers  n) n t_bends v1 v2 = some o := hf
      generalize f_X12_findBends_2 t_lineOf t_strengthOf t_waterOf t_backOf t_table t_numbers  n = k2 at hf ih
      refine lv_iload_n hx hb (dc d_X12_findBends 2 rfl) rfl (lv_at hl 2 rfl) ?_
      refine lv_bipush (v := (8 : Int32)) hx hb (dc d_X12_findBends 3 rfl) (by decide) ?_
      refine lv_icmp_ge (tgt := 21) hx hb (dc d_X12_findBends 4 rfl) (by decide) (fun c1 => ?_) (fun c1 => ?_)
      · have hf := g_t hf c1
        refine lv_iconst (v := (0 : Int32)) hx hb (dc d_X12_findBends 12 rfl) (by decide) ?_
        refine lv_istore_n (lv' := [(2, .int (0 : Int32)), (0, .ref tq0), (1, .int v1)]) hx hb (dc d_X12_findBends 13 rfl) rfl hl (by decide) rfl (fun ls hl => ?_)
        exact L23  n t_bends v1 (0 : Int32) _ _ _ hw (lv_sub hl [1, 2, 0] rfl) hf
      · have hf := g_f hf c1
        refine lv_aload_n hx hb (dc d_X12_findBends 5 rfl) rfl (lv_at hl 0 rfl) ?_
        refine x_get C hw fl_X12_31 0 rfl rfl (dc d_X12_findBends 6 rfl) ?_
        refine lv_iload_n hx hb (dc d_X12_findBends 7 rfl) rfl (lv_at hl 2 rfl) ?_
        refine lv_iconst (v := (0 : Int32)) hx hb (dc d_X12_findBends 8 rfl) (by decide) ?_
        have hi := grd_b hf
        have hf := grd_x hf
        refine x_iast C hw 8 rfl hi (dc d_X12_findBends 9 rfl) (fun H locs hw => ?_)
        dsimp only [w_X12, mix, List.set_cons_succ, List.set_cons_zero] at hw
        have hw : Wd D A s.heap (w_X12 cI cC cZ tq0 tq1 tq2 tq3 tq4 tq5 tq6 tq7 tq8 tq9 tq10 tq11 tq12 tq13 tq14 tq15 tq16 tq17 tq18 tq19 tq20 tq21 tq22 tq23 tq24 t_signs t_signMany t_lineOf t_strengthOf t_waterOf t_backOf t_passes t_tried t_table t_numbers (upd t_bends v2.toNatClampNeg (0 : Int32)) t_wished t_itemLine t_itemStrength t_itemWater t_itemBack t_items t_worstThen t_reading t_isRead t_readSum t_readMany t_spanLow t_spanHigh t_weldLine t_weldPull t_welds t_orderOf t_bestOrder t_smithOf t_bestSmith t_busy) H locs := hw
        refine lv_iinc (v := (v2 + (1 : Int32))) (lv' := [(2, .int (v2 + (1 : Int32))), (0, .ref tq0), (1, .int v1)]) hx hb (dc d_X12_findBends 10 rfl) hl (k := 2) rfl (ii (by decide)) (by decide) rfl (fun ls hl => ?_)
        refine lv_goto (tgt := 2) hx hb (dc d_X12_findBends 11 rfl) (by decide) ?_
        exact ih (upd t_bends v2.toNatClampNeg (0 : Int32)) v1 (v2 + (1 : Int32)) _ _ _ hw (lv_sub hl [1, 2, 0] rfl) hf
  refine lv_iconst (v := (0 : Int32)) hx hb (dc d_X12_findBends 0 rfl) (by decide) ?_
  refine lv_istore_n (lv' := [(2, .int (0 : Int32)), (0, .ref tq0), (1, .int x1)]) hx hb (dc d_X12_findBends 1 rfl) rfl hl (by decide) rfl (fun ls hl => ?_)
  exact L2  n t_bends x1 (0 : Int32) _ _ _ hw (lv_sub hl [1, 2, 0] rfl) hf
