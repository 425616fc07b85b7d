/-! Written by wip/gen/all.py. -/
set_option maxHeartbeats 4000000 in
set_option maxRecDepth 100000 in
theorem k_X12_heightAt (n : Nat) {l : Launch} {D : va_G} {cI cC cZ : ClassId} {tq0 tq1 tq2 tq3 tq4 tq5 tq6 tq7 tq8 tq9 tq10 tq11 tq12 tq13 tq14 tq15 tq16 tq17 tq18 tq19 tq20 tq21 tq22 tq23 tq24 : Nat} {t_signs : Nat → Int32} {t_signMany : Int32} {t_lineOf : Nat → Int32} {t_strengthOf : Nat → Int32} {t_waterOf : Nat → Int32} {t_backOf : Nat → Int32} {t_passes : Int32} {t_tried : Int32} {t_table : Nat → Int32} {t_numbers : Nat → Int32} {t_bends : Nat → Int32} {t_wished : Nat → Int32} {t_itemLine : Nat → Int32} {t_itemStrength : Nat → Int32} {t_itemWater : Nat → Int32} {t_itemBack : Nat → Int32} {t_items : Int32} {t_worstThen : Int32} {t_reading : Nat → Int32} {t_isRead : Nat → Int32} {t_readSum : Int32} {t_readMany : Int32} {t_spanLow : Nat → Int32} {t_spanHigh : Nat → Int32} {t_weldLine : Nat → Int32} {t_weldPull : Nat → Int32} {t_welds : Int32} {t_orderOf : Nat → Int32} {t_bestOrder : Nat → Int32} {t_smithOf : Nat → Int32} {t_bestSmith : Nat → Int32} {t_busy : Nat → Int32} {x1 : Int32} {o : Int32} (hf : f_X12_heightAt n t_bends x1 = some o) : Ctr l yX12_heightAt cX12_heightAt 6 (some .int) 0 0 D cI cC cZ [.ref tq0, .int x1] (w_X12 cI cC cZ tq0 tq1 tq2 tq3 tq4 tq5 tq6 tq7 tq8 tq9 tq10 tq11 tq12 tq13 tq14 tq15 tq16 tq17 tq18 tq19 tq20 tq21 tq22 tq23 tq24 t_signs t_signMany t_lineOf t_strengthOf t_waterOf t_backOf t_passes t_tried t_table t_numbers t_bends t_wished t_itemLine t_itemStrength t_itemWater t_itemBack t_items t_worstThen t_reading t_isRead t_readSum t_readMany t_spanLow t_spanHigh t_weldLine t_weldPull t_welds t_orderOf t_bestOrder t_smithOf t_bestSmith t_busy) (w_X12 cI cC cZ tq0 tq1 tq2 tq3 tq4 tq5 tq6 tq7 tq8 tq9 tq10 tq11 tq12 tq13 tq14 tq15 tq16 tq17 tq18 tq19 tq20 tq21 tq22 tq23 tq24 t_signs t_signMany t_lineOf t_strengthOf t_waterOf t_backOf t_passes t_tried t_table t_numbers t_bends t_wished t_itemLine t_itemStrength t_itemWater t_itemBack t_items t_worstThen t_reading t_isRead t_readSum t_readMany t_spanLow t_spanHigh t_weldLine t_weldPull t_welds t_orderOf t_bestOrder t_smithOf t_bestSmith t_busy) (some (.int o)) := by
  refine Ctr.of (by decide) (Nat.le_of_ble_eq_true rfl) ?_
  intro p e s m args below meth c ls A Q hA hQ C hl hw
  have hx := C.1
  have hb := C.2.1
  have hl : lv_has ls 6 [(0, .ref tq0), (1, .int x1)] := hl
  have L50 : ∀ (k16 : (Int32) → (Int32) → (Int32) → (Int32) → Option (Int32)), (∀ (v2 : Int32) (v3 : Int32) (v4 : Int32) (v5 : Int32) (H : Heap) (locs : List Loc) (ls : Array Slot), Wd D A s.heap (w_X12 cI cC cZ tq0 tq1 tq2 tq3 tq4 tq5 tq6 tq7 tq8 tq9 tq10 tq11 tq12 tq13 tq14 tq15 tq16 tq17 tq18 tq19 tq20 tq21 tq22 tq23 tq24 t_signs t_signMany t_lineOf t_strengthOf t_waterOf t_backOf t_passes t_tried t_table t_numbers t_bends t_wished t_itemLine t_itemStrength t_itemWater t_itemBack t_items t_worstThen t_reading t_isRead t_readSum t_readMany t_spanLow t_spanHigh t_weldLine t_weldPull t_welds t_orderOf t_bestOrder t_smithOf t_bestSmith t_busy) H locs → lv_has ls 6 [(0, .ref tq0), (2, .int v2), (3, .int v3), (4, .int v4), (5, .int v5)] → k16 v2 v3 v4 v5 = some o → W p l e (rmOf 0 0) s m args below meth c H locs 0 0 Q (F0 m 16 ls [])) → ∀ (n : Nat), ∀ (v2 : Int32) (v3 : Int32) (v5 : Int32) (s0 : Int32) (s1 : Int32) (H : Heap) (locs : List Loc) (ls : Array Slot), Wd D A s.heap (w_X12 cI cC cZ tq0 tq1 tq2 tq3 tq4 tq5 tq6 tq7 tq8 tq9 tq10 tq11 tq12 tq13 tq14 tq15 tq16 tq17 tq18 tq19 tq20 tq21 tq22 tq23 tq24 t_signs t_signMany t_lineOf t_strengthOf t_waterOf t_backOf t_passes t_tried t_table t_numbers t_bends t_wished t_itemLine t_itemStrength t_itemWater t_itemBack t_items t_worstThen t_reading t_isRead t_readSum t_readMany t_spanLow t_spanHigh t_weldLine t_weldPull t_welds t_orderOf t_bestOrder t_smithOf t_bestSmith t_busy) H locs → lv_has ls 6 [(0, .ref tq0), (2, .int v2), (3, .int v3), (5, .int v5)] → f_X12_heightAt_50 t_bends k16 n v2 v3 v5 s0 s1 = some o → W p l e (rmOf 0 0) s m args below meth c H locs 0 0 Q (F0 m 50 ls [.int s0, .int s1]) := by
    intro k16 H16 n v2 v3 v5 s0 s1 H locs ls hw hl hf
    refine lv_iadd hx hb (dc d_X12_heightAt 33 rfl) ?_
    refine lv_topi (fun y5 ey5 => ?_)
    have hf := g_nm hf ey5
    refine lv_istore (lv' := [(4, .int y5), (0, .ref tq0), (2, .int v2), (3, .int v3), (5, .int v5)]) hx hb (dc d_X12_heightAt 34 rfl) hl (by decide) rfl (fun ls hl => ?_)
    refine lv_iload hx hb (dc d_X12_heightAt 35 rfl) (lv_at hl 0 rfl) ?_
    refine lv_iload_n hx hb (dc d_X12_heightAt 36 rfl) rfl (lv_at hl 3 rfl) ?_
    refine lv_iload hx hb (dc d_X12_heightAt 37 rfl) (lv_at hl 4 rfl) ?_
    refine lv_iconst (v := (1 : Int32)) hx hb (dc d_X12_heightAt 38 rfl) (by decide) ?_
    refine lv_iadd hx hb (dc d_X12_heightAt 39 rfl) ?_
    refine lv_icmp_le (tgt := 82) hx hb (dc d_X12_heightAt 40 rfl) (by decide) (fun c6 => ?_) (fun c6 => ?_)
    · have hf := g_t hf c6
      refine lv_iconst (v := (0 : Int32)) hx hb (dc d_X12_heightAt 54 rfl) (by decide) ?_
      refine lv_iadd hx hb (dc d_X12_heightAt 55 rfl) ?_
      refine lv_topi (fun y7 ey7 => ?_)
      have hf := g_nm hf ey7
      refine lv_istore (lv' := [(4, .int y7), (0, .ref tq0), (2, .int v2), (3, .int v3), (5, .int v5)]) hx hb (dc d_X12_heightAt 56 rfl) hl (by decide) rfl (fun ls hl => ?_)
      refine lv_iinc (v := (v5 + (1 : Int32))) (lv' := [(5, .int (v5 + (1 : Int32))), (4, .int y7), (0, .ref tq0), (2, .int v2), (3, .int v3)]) hx hb (dc d_X12_heightAt 57 rfl) hl (k := 4) rfl (ii (by decide)) (by decide) rfl (fun ls hl => ?_)
      refine lv_goto (tgt := 16) hx hb (dc d_X12_heightAt 58 rfl) (by decide) ?_
      exact H16 v2 v3 y7 (v5 + (1 : Int32)) _ _ _ hw (lv_sub hl [2, 3, 4, 1, 0] rfl) hf
    · have hf := g_f hf c6
      refine lv_aload_n hx hb (dc d_X12_heightAt 41 rfl) rfl (lv_at hl 1 rfl) ?_
      refine x_get C hw fl_X12_31 0 rfl rfl (dc d_X12_heightAt 42 rfl) ?_
      refine lv_iconst (v := (4 : Int32)) hx hb (dc d_X12_heightAt 43 rfl) (by decide) ?_
      refine lv_iload hx hb (dc d_X12_heightAt 44 rfl) (lv_at hl 4 rfl) ?_
      refine lv_iadd hx hb (dc d_X12_heightAt 45 rfl) ?_
      have hi := grd_b hf
      have hf := grd_x hf
      refine x_iald C hw 8 rfl hi (dc d_X12_heightAt 46 rfl) ?_
      refine lv_iload_n hx hb (dc d_X12_heightAt 47 rfl) rfl (lv_at hl 3 rfl) ?_
      refine lv_iload hx hb (dc d_X12_heightAt 48 rfl) (lv_at hl 4 rfl) ?_
      refine lv_isub hx hb (dc d_X12_heightAt 49 rfl) ?_
      refine lv_iconst (v := (1 : Int32)) hx hb (dc d_X12_heightAt 50 rfl) (by decide) ?_
      refine lv_isub hx hb (dc d_X12_heightAt 51 rfl) ?_
      refine lv_imul hx hb (dc d_X12_heightAt 52 rfl) ?_
      refine lv_goto (tgt := 83) hx hb (dc d_X12_heightAt 53 rfl) (by decide) ?_
      refine lv_iadd hx hb (dc d_X12_heightAt 55 rfl) ?_
      refine lv_topi (fun y8 ey8 => ?_)
      have hf := g_nm hf ey8
      refine lv_istore (lv' := [(4, .int y8), (0, .ref tq0), (2, .int v2), (3, .int v3), (5, .int v5)]) hx hb (dc d_X12_heightAt 56 rfl) hl (by decide) rfl (fun ls hl => ?_)
      refine lv_iinc (v := (v5 + (1 : Int32))) (lv' := [(5, .int (v5 + (1 : Int32))), (4, .int y8), (0, .ref tq0), (2, .int v2), (3, .int v3)]) hx hb (dc d_X12_heightAt 57 rfl) hl (k := 4) rfl (ii (by decide)) (by decide) rfl (fun ls hl => ?_)
      refine lv_goto (tgt := 16) hx hb (dc d_X12_heightAt 58 rfl) (by decide) ?_
      exact H16 v2 v3 y8 (v5 + (1 : Int32)) _ _ _ hw (lv_sub hl [2, 3, 4, 1, 0] rfl) hf
  have L16 : ∀ (n : Nat), ∀ (v2 : Int32) (v3 : Int32) (v4 : Int32) (v5 : Int32) (H : Heap) (locs : List Loc) (ls : Array Slot), Wd D A s.heap (w_X12 cI cC cZ tq0 tq1 tq2 tq3 tq4 tq5 tq6 tq7 tq8 tq9 tq10 tq11 tq12 tq13 tq14 tq15 tq16 tq17 tq18 tq19 tq20 tq21 tq22 tq23 tq24 t_signs t_signMany t_lineOf t_strengthOf t_waterOf t_backOf t_passes t_tried t_table t_numbers t_bends t_wished t_itemLine t_itemStrength t_itemWater t_itemBack t_items t_worstThen t_reading t_isRead t_readSum t_readMany t_spanLow t_spanHigh t_weldLine t_weldPull t_welds t_orderOf t_bestOrder t_smithOf t_bestSmith t_busy) H locs → lv_has ls 6 [(0, .ref tq0), (2, .int v2), (3, .int v3), (4, .int v4), (5, .int v5)] → f_X12_heightAt_16 t_bends  n v2 v3 v4 v5 = some o → W p l e (rmOf 0 0) s m args below meth c H locs 0 0 Q (F0 m 16 ls []) := by
    intro  n
    induction n with
    | zero => intro v2 v3 v4 v5 H locs ls hw hl hf; exact (no_none hf).elim
    | succ n ih =>
      intro v2 v3 v4 v5 H locs ls hw hl hf
      have hf : f_X12_heightAt_16b t_bends  (f_X12_heightAt_16 t_bends  n) n v2 v3 v4 v5 = some o := hf
      generalize f_X12_heightAt_16 t_bends  n = k16 at hf ih
      refine lv_iload hx hb (dc d_X12_heightAt 12 rfl) (lv_at hl 4 rfl) ?_
      refine lv_iconst (v := (4 : Int32)) hx hb (dc d_X12_heightAt 13 rfl) (by decide) ?_
      refine lv_icmp_ge (tgt := 92) hx hb (dc d_X12_heightAt 14 rfl) (by decide) (fun c3 => ?_) (fun c3 => ?_)
      · have hf := g_t hf c3
        refine lv_iload hx hb (dc d_X12_heightAt 59 rfl) (lv_at hl 3 rfl) ?_
        cases hf
        exact x_iret C hA hQ hw rfl rfl (dc d_X12_heightAt 60 rfl)
      · have hf := g_f hf c3
        refine lv_iload hx hb (dc d_X12_heightAt 15 rfl) (lv_at hl 3 rfl) ?_
        refine lv_iload_n hx hb (dc d_X12_heightAt 16 rfl) rfl (lv_at hl 1 rfl) ?_
        refine lv_iload hx hb (dc d_X12_heightAt 17 rfl) (lv_at hl 4 rfl) ?_
        refine lv_iconst (v := (1 : Int32)) hx hb (dc d_X12_heightAt 18 rfl) (by decide) ?_
        refine lv_iadd hx hb (dc d_X12_heightAt 19 rfl) ?_
        refine lv_icmp_le (tgt := 49) hx hb (dc d_X12_heightAt 20 rfl) (by decide) (fun c4 => ?_) (fun c4 => ?_)
        · have hf := g_t hf c4
          refine lv_iconst (v := (0 : Int32)) hx hb (dc d_X12_heightAt 32 rfl) (by decide) ?_
          exact L50 k16 ih n v2 v3 v5 (0 : Int32) v4 _ _ _ hw (lv_sub hl [0, 1, 2, 4] rfl) hf
        · have hf := g_f hf c4
          refine lv_aload_n hx hb (dc d_X12_heightAt 21 rfl) rfl (lv_at hl 0 rfl) ?_
          refine x_get C hw fl_X12_31 0 rfl rfl (dc d_X12_heightAt 22 rfl) ?_
          refine lv_iload hx hb (dc d_X12_heightAt 23 rfl) (lv_at hl 4 rfl) ?_
          have hi := grd_b hf
          have hf := grd_x hf
          refine x_iald C hw 8 rfl hi (dc d_X12_heightAt 24 rfl) ?_
          refine lv_iload_n hx hb (dc d_X12_heightAt 25 rfl) rfl (lv_at hl 1 rfl) ?_
          refine lv_iload hx hb (dc d_X12_heightAt 26 rfl) (lv_at hl 4 rfl) ?_
          refine lv_isub hx hb (dc d_X12_heightAt 27 rfl) ?_
          refine lv_iconst (v := (1 : Int32)) hx hb (dc d_X12_heightAt 28 rfl) (by decide) ?_
          refine lv_isub hx hb (dc d_X12_heightAt 29 rfl) ?_
          refine lv_imul hx hb (dc d_X12_heightAt 30 rfl) ?_
          refine lv_goto (tgt := 50) hx hb (dc d_X12_heightAt 31 rfl) (by decide) ?_
          exact L50 k16 ih n v2 v3 v5 ((t_bends v5.toNatClampNeg) * ((v2 - v5) - (1 : Int32))) v4 _ _ _ hw (lv_sub hl [0, 1, 2, 4] rfl) hf
  refine lv_iload_n hx hb (dc d_X12_heightAt 0 rfl) rfl (lv_at hl 1 rfl) ?_
  refine lv_bipush (v := (6 : Int32)) hx hb (dc d_X12_heightAt 1 rfl) (by decide) ?_
  refine x_rem hx hb (dc d_X12_heightAt 2 rfl) (by decide) ?_
  refine lv_topi (fun y1 ey1 => ?_)
  have hf := g_nm hf ey1
  refine lv_istore_n (lv' := [(2, .int y1), (0, .ref tq0), (1, .int x1)]) hx hb (dc d_X12_heightAt 3 rfl) rfl hl (by decide) rfl (fun ls hl => ?_)
  refine lv_iload_n hx hb (dc d_X12_heightAt 4 rfl) rfl (lv_at hl 2 rfl) ?_
  refine lv_bipush (v := (6 : Int32)) hx hb (dc d_X12_heightAt 5 rfl) (by decide) ?_
  refine x_div hx hb (dc d_X12_heightAt 6 rfl) (by decide) ?_
  refine lv_topi (fun y2 ey2 => ?_)
  have hf := g_nm hf ey2
  refine lv_istore_n (lv' := [(3, .int y2), (2, .int y1), (0, .ref tq0), (1, .int x1)]) hx hb (dc d_X12_heightAt 7 rfl) rfl hl (by decide) rfl (fun ls hl => ?_)
  refine lv_iconst (v := (0 : Int32)) hx hb (dc d_X12_heightAt 8 rfl) (by decide) ?_
  refine lv_istore (lv' := [(4, .int (0 : Int32)), (3, .int y2), (2, .int y1), (0, .ref tq0), (1, .int x1)]) hx hb (dc d_X12_heightAt 9 rfl) hl (by decide) rfl (fun ls hl => ?_)
  refine lv_iconst (v := (0 : Int32)) hx hb (dc d_X12_heightAt 10 rfl) (by decide) ?_
  refine lv_istore (lv' := [(5, .int (0 : Int32)), (4, .int (0 : Int32)), (3, .int y2), (2, .int y1), (0, .ref tq0), (1, .int x1)]) hx hb (dc d_X12_heightAt 11 rfl) hl (by decide) rfl (fun ls hl => ?_)
  exact L16  n y1 y2 (0 : Int32) (0 : Int32) _ _ _ hw (lv_sub hl [4, 3, 2, 1, 0] rfl) hf
set_option maxHeartbeats 4000000 in
set_option maxRecDepth 100000 in
theorem k_X12_bend (n : Nat) {l : Launch} {D : va_G} {cI cC cZ : ClassId} {tq0 tq1 tq2 tq3 tq4 tq5 tq6 tq7 tq8 tq9 tq10 tq11 tq12 tq13 tq14 tq15 tq16 tq17 tq18 tq19 tq20 tq21 tq22 tq23 tq24 : Nat} {t_signs : Nat → Int32} {t_signMany : Int32} {t_lineOf : Nat → Int32} {t_strengthOf : Nat → Int32} {t_waterOf : Nat → Int32} {t_backOf : Nat → Int32} {t_passes : Int32} {t_tried : Int32} {t_table : Nat → Int32} {t_numbers : Nat → Int32} {t_bends : Nat → Int32} {t_wished : Nat → Int32} {t_itemLine : Nat → Int32} {t_itemStrength : Nat → Int32} {t_itemWater : Nat → Int32} {t_itemBack : Nat → Int32} {t_items : Int32} {t_worstThen : Int32} {t_reading : Nat → Int32} {t_isRead : Nat → Int32} {t_readSum : Int32} {t_readMany : Int32} {t_spanLow : Nat → Int32} {t_spanHigh : Nat → Int32} {t_weldLine : Nat → Int32} {t_weldPull : Nat → Int32} {t_welds : Int32} {t_orderOf : Nat → Int32} {t_bestOrder : Nat → Int32} {t_smithOf : Nat → Int32} {t_bestSmith : Nat → Int32} {t_busy : Nat → Int32} {x1 : Int32} {o : Int32 × (Nat → Int32)} (hf : f_X12_bend n t_lineOf t_strengthOf t_waterOf t_backOf t_passes t_table t_numbers t_bends x1 = some o) : Ctr l yX12_bend cX12_bend 2 (some .int) 4 89 D cI cC cZ [.ref tq0, .int x1] (w_X12 cI cC cZ tq0 tq1 tq2 tq3 tq4 tq5 tq6 tq7 tq8 tq9 tq10 tq11 tq12 tq13 tq14 tq15 tq16 tq17 tq18 tq19 tq20 tq21 tq22 tq23 tq24 t_signs t_signMany t_lineOf t_strengthOf t_waterOf t_backOf t_passes t_tried t_table t_numbers t_bends t_wished t_itemLine t_itemStrength t_itemWater t_itemBack t_items t_worstThen t_reading t_isRead t_readSum t_readMany t_spanLow t_spanHigh t_weldLine t_weldPull t_welds t_orderOf t_bestOrder t_smithOf t_bestSmith t_busy) (w_X12 cI cC cZ tq0 tq1 tq2 tq3 tq4 tq5 tq6 tq7 tq8 tq9 tq10 tq11 tq12 tq13 tq14 tq15 tq16 tq17 tq18 tq19 tq20 tq21 tq22 tq23 tq24 t_signs t_signMany t_lineOf t_strengthOf t_waterOf t_backOf t_passes t_tried t_table t_numbers o.2 t_wished t_itemLine t_itemStrength t_itemWater t_itemBack t_items t_worstThen t_reading t_isRead t_readSum t_readMany t_spanLow t_spanHigh t_weldLine t_weldPull t_welds t_orderOf t_bestOrder t_smithOf t_bestSmith t_busy) (some (.int o.1)) := by
  refine Ctr.of (by decide) (Nat.le_of_ble_eq_true rfl) ?_
  intro p e s m args below meth c ls A Q hA hQ C hl hw
  have hx := C.1
  have hb := C.2.1
  have hl : lv_has ls 2 [(0, .ref tq0), (1, .int x1)] := hl
  refine lv_iload_n hx hb (dc d_X12_bend 0 rfl) rfl (lv_at hl 1 rfl) ?_
  obtain ⟨q1, hq1, hf⟩ := g_bd hf
  refine x_callS C hw mb_X12_isLine ms_X12_isLine ml_X12_143 (k_X12_isLine n hq1) hl.1 rfl rfl [] rfl rfl rfl (Nat.le_of_ble_eq_true rfl) (Nat.le_of_ble_eq_true rfl) (Nat.le_of_ble_eq_true rfl) (dc d_X12_bend 1 rfl) (fun H locs hw => ?_)
  refine W.eq (g2 := F0 m 4 ls [.int q1]) rfl ?_
  have hw : Wd D A s.heap (w_X12 cI cC cZ tq0 tq1 tq2 tq3 tq4 tq5 tq6 tq7 tq8 tq9 tq10 tq11 tq12 tq13 tq14 tq15 tq16 tq17 tq18 tq19 tq20 tq21 tq22 tq23 tq24 t_signs t_signMany t_lineOf t_strengthOf t_waterOf t_backOf t_passes t_tried t_table t_numbers t_bends t_wished t_itemLine t_itemStrength t_itemWater t_itemBack t_items t_worstThen t_reading t_isRead t_readSum t_readMany t_spanLow t_spanHigh t_weldLine t_weldPull t_welds t_orderOf t_bestOrder t_smithOf t_bestSmith t_busy) H locs := hw
  refine lv_if_ne (tgt := 10) hx hb (dc d_X12_bend 2 rfl) (by decide) (fun c2 => ?_) (fun c2 => ?_)
  · have hf := g_f hf c2
    refine lv_aload_n hx hb (dc d_X12_bend 5 rfl) rfl (lv_at hl 0 rfl) ?_
    refine lv_aload_n hx hb (dc d_X12_bend 6 rfl) rfl (lv_at hl 0 rfl) ?_
    refine x_get C hw fl_X12_113 0 rfl rfl (dc d_X12_bend 7 rfl) ?_
    obtain ⟨q3, hq3, hf⟩ := g_bd hf
    refine x_callVa C hw mb_X12_findBends mv_X12_findBends ml_X12_148 (k_X12_findBends n hq3) hl.1 rfl rfl rfl 0 12 rfl rfl (Nat.le_of_ble_eq_true rfl) (Nat.le_of_ble_eq_true rfl) (Nat.le_of_ble_eq_true rfl) (dc d_X12_bend 8 rfl) (fun H locs hw => ?_)
    refine W.eq (g2 := F0 m 18 ls []) rfl ?_
    have hw : Wd D A s.heap (w_X12 cI cC cZ tq0 tq1 tq2 tq3 tq4 tq5 tq6 tq7 tq8 tq9 tq10 tq11 tq12 tq13 tq14 tq15 tq16 tq17 tq18 tq19 tq20 tq21 tq22 tq23 tq24 t_signs t_signMany t_lineOf t_strengthOf t_waterOf t_backOf t_passes t_tried t_table t_numbers q3 t_wished t_itemLine t_itemStrength t_itemWater t_itemBack t_items t_worstThen t_reading t_isRead t_readSum t_readMany t_spanLow t_spanHigh t_weldLine t_weldPull t_welds t_orderOf t_bestOrder t_smithOf t_bestSmith t_busy) H locs := hw
    refine lv_aload_n hx hb (dc d_X12_bend 9 rfl) rfl (lv_at hl 0 rfl) ?_
    refine x_get C hw fl_X12_31 0 rfl rfl (dc d_X12_bend 10 rfl) ?_
    refine lv_iload_n hx hb (dc d_X12_bend 11 rfl) rfl (lv_at hl 1 rfl) ?_
    have hi := grd_b hf
    have hf := grd_x hf
    refine x_iald C hw 8 rfl hi (dc d_X12_bend 12 rfl) ?_
    cases hf
    exact x_iret C hA hQ hw rfl rfl (dc d_X12_bend 13 rfl)
  · have hf := g_t hf c2
    refine x_ldc (v := (-2000000001 : Int32)) C cn_X12_147 (dc d_X12_bend 3 rfl) ?_
    cases hf
    exact x_iret C hA hQ hw rfl rfl (dc d_X12_bend 4 rfl)
set_option maxHeartbeats 4000000 in
set_option maxRecDepth 100000 in
theorem k_X12_height (n : Nat) {l : Launch} {D : va_G} {cI cC cZ : ClassId} {tq0 tq1 tq2 tq3 tq4 tq5 tq6 tq7 tq8 tq9 tq10 tq11 tq12 tq13 tq14 tq15 tq16 tq17 tq18 tq19 tq20 tq21 tq22 tq23 tq24 : Nat} {t_signs : Nat → Int32} {t_signMany : Int32} {t_lineOf : Nat → Int32} {t_strengthOf : Nat → Int32} {t_waterOf : Nat → Int32} {t_backOf : Nat → Int32} {t_passes : Int32} {t_tried : Int32} {t_table : Nat → Int32} {t_numbers : Nat → Int32} {t_bends : Nat → Int32} {t_wished : Nat → Int32} {t_itemLine : Nat → Int32} {t_itemStrength : Nat → Int32} {t_itemWater : Nat → Int32} {t_itemBack : Nat → Int32} {t_items : Int32} {t_worstThen : Int32} {t_reading : Nat → Int32} {t_isRead : Nat → Int32} {t_readSum : Int32} {t_readMany : Int32} {t_spanLow : Nat → Int32} {t_spanHigh : Nat → Int32} {t_weldLine : Nat → Int32} {t_weldPull : Nat → Int32} {t_welds : Int32} {t_orderOf : Nat → Int32} {t_bestOrder : Nat → Int32} {t_smithOf : Nat → Int32} {t_bestSmith : Nat → Int32} {t_busy : Nat → Int32} {x1 : Int32} {o : Int32 × (Nat → Int32)} (hf : f_X12_height n t_lineOf t_strengthOf t_waterOf t_backOf t_passes t_table t_numbers t_bends x1 = some o) : Ctr l yX12_height cX12_height 2 (some .int) 4 89 D cI cC cZ [.ref tq0, .int x1] (w_X12 cI cC cZ tq0 tq1 tq2 tq3 tq4 tq5 tq6 tq7 tq8 tq9 tq10 tq11 tq12 tq13 tq14 tq15 tq16 tq17 tq18 tq19 tq20 tq21 tq22 tq23 tq24 t_signs t_signMany t_lineOf t_strengthOf t_waterOf t_backOf t_passes t_tried t_table t_numbers t_bends t_wished t_itemLine t_itemStrength t_itemWater t_itemBack t_items t_worstThen t_reading t_isRead t_readSum t_readMany t_spanLow t_spanHigh t_weldLine t_weldPull t_welds t_orderOf t_bestOrder t_smithOf t_bestSmith t_busy) (w_X12 cI cC cZ tq0 tq1 tq2 tq3 tq4 tq5 tq6 tq7 tq8 tq9 tq10 tq11 tq12 tq13 tq14 tq15 tq16 tq17 tq18 tq19 tq20 tq21 tq22 tq23 tq24 t_signs t_signMany t_lineOf t_strengthOf t_waterOf t_backOf t_passes t_tried t_table t_numbers o.2 t_wished t_itemLine t_itemStrength t_itemWater t_itemBack t_items t_worstThen t_reading t_isRead t_readSum t_readMany t_spanLow t_spanHigh t_weldLine t_weldPull t_welds t_orderOf t_bestOrder t_smithOf t_bestSmith t_busy) (some (.int o.1)) := by
  refine Ctr.of (by decide) (Nat.le_of_ble_eq_true rfl) ?_
  intro p e s m args below meth c ls A Q hA hQ C hl hw
  have hx := C.1
  have hb := C.2.1
  have hl : lv_has ls 2 [(0, .ref tq0), (1, .int x1)] := hl
  refine lv_iload_n hx hb (dc d_X12_height 0 rfl) rfl (lv_at hl 1 rfl) ?_
  obtain ⟨q1, hq1, hf⟩ := g_bd hf
  refine x_callS C hw mb_X12_isCorner ms_X12_isCorner ml_X12_152 (k_X12_isCorner n hq1) hl.1 rfl rfl [] rfl rfl rfl (Nat.le_of_ble_eq_true rfl) (Nat.le_of_ble_eq_true rfl) (Nat.le_of_ble_eq_true rfl) (dc d_X12_height 1 rfl) (fun H locs hw => ?_)
  refine W.eq (g2 := F0 m 4 ls [.int q1]) rfl ?_
  have hw : Wd D A s.heap (w_X12 cI cC cZ tq0 tq1 tq2 tq3 tq4 tq5 tq6 tq7 tq8 tq9 tq10 tq11 tq12 tq13 tq14 tq15 tq16 tq17 tq18 tq19 tq20 tq21 tq22 tq23 tq24 t_signs t_signMany t_lineOf t_strengthOf t_waterOf t_backOf t_passes t_tried t_table t_numbers t_bends t_wished t_itemLine t_itemStrength t_itemWater t_itemBack t_items t_worstThen t_reading t_isRead t_readSum t_readMany t_spanLow t_spanHigh t_weldLine t_weldPull t_welds t_orderOf t_bestOrder t_smithOf t_bestSmith t_busy) H locs := hw
  refine lv_if_ne (tgt := 10) hx hb (dc d_X12_height 2 rfl) (by decide) (fun c2 => ?_) (fun c2 => ?_)
  · have hf := g_f hf c2
    refine lv_aload_n hx hb (dc d_X12_height 5 rfl) rfl (lv_at hl 0 rfl) ?_
    refine lv_aload_n hx hb (dc d_X12_height 6 rfl) rfl (lv_at hl 0 rfl) ?_
    refine x_get C hw fl_X12_113 0 rfl rfl (dc d_X12_height 7 rfl) ?_
    obtain ⟨q3, hq3, hf⟩ := g_bd hf
    refine x_callVa C hw mb_X12_findBends mv_X12_findBends ml_X12_148 (k_X12_findBends n hq3) hl.1 rfl rfl rfl 0 12 rfl rfl (Nat.le_of_ble_eq_true rfl) (Nat.le_of_ble_eq_true rfl) (Nat.le_of_ble_eq_true rfl) (dc d_X12_height 8 rfl) (fun H locs hw => ?_)
    refine W.eq (g2 := F0 m 18 ls []) rfl ?_
    have hw : Wd D A s.heap (w_X12 cI cC cZ tq0 tq1 tq2 tq3 tq4 tq5 tq6 tq7 tq8 tq9 tq10 tq11 tq12 tq13 tq14 tq15 tq16 tq17 tq18 tq19 tq20 tq21 tq22 tq23 tq24 t_signs t_signMany t_lineOf t_strengthOf t_waterOf t_backOf t_passes t_tried t_table t_numbers q3 t_wished t_itemLine t_itemStrength t_itemWater t_itemBack t_items t_worstThen t_reading t_isRead t_readSum t_readMany t_spanLow t_spanHigh t_weldLine t_weldPull t_welds t_orderOf t_bestOrder t_smithOf t_bestSmith t_busy) H locs := hw
    refine lv_aload_n hx hb (dc d_X12_height 9 rfl) rfl (lv_at hl 0 rfl) ?_
    refine lv_iload_n hx hb (dc d_X12_height 10 rfl) rfl (lv_at hl 1 rfl) ?_
    obtain ⟨q4, hq4, hf⟩ := g_bd hf
    refine x_callVa C hw mb_X12_heightAt mv_X12_heightAt ml_X12_155 (k_X12_heightAt n hq4) hl.1 rfl rfl rfl 0 12 rfl rfl (Nat.le_of_ble_eq_true rfl) (Nat.le_of_ble_eq_true rfl) (Nat.le_of_ble_eq_true rfl) (dc d_X12_height 11 rfl) (fun H locs hw => ?_)
    refine W.eq (g2 := F0 m 23 ls [.int q4]) rfl ?_
    have hw : Wd D A s.heap (w_X12 cI cC cZ tq0 tq1 tq2 tq3 tq4 tq5 tq6 tq7 tq8 tq9 tq10 tq11 tq12 tq13 tq14 tq15 tq16 tq17 tq18 tq19 tq20 tq21 tq22 tq23 tq24 t_signs t_signMany t_lineOf t_strengthOf t_waterOf t_backOf t_passes t_tried t_table t_numbers q3 t_wished t_itemLine t_itemStrength t_itemWater t_itemBack t_items t_worstThen t_reading t_isRead t_readSum t_readMany t_spanLow t_spanHigh t_weldLine t_weldPull t_welds t_orderOf t_bestOrder t_smithOf t_bestSmith t_busy) H locs := hw
    cases hf
    exact x_iret C hA hQ hw rfl rfl (dc d_X12_height 12 rfl)
  · have hf := g_t hf c2
    refine x_ldc (v := (-2000000001 : Int32)) C cn_X12_147 (dc d_X12_height 3 rfl) ?_
    cases hf
    exact x_iret C hA hQ hw rfl rfl (dc d_X12_height 4 rfl)
set_option maxHeartbeats 4000000 in
set_option maxRecDepth 100000 in
theorem k_X12_wish (n : Nat) {l : Launch} {D : va_G} {cI cC cZ : ClassId} {tq0 tq1 tq2 tq3 tq4 tq5 tq6 tq7 tq8 tq9 tq10 tq11 tq12 tq13 tq14 tq15 tq16 tq17 tq18 tq19 tq20 tq21 tq22 tq23 tq24 : Nat} {t_signs : Nat → Int32} {t_signMany : Int32} {t_lineOf : Nat → Int32} {t_strengthOf : Nat → Int32} {t_waterOf : Nat → Int32} {t_backOf : Nat → Int32} {t_passes : Int32} {t_tried : Int32} {t_table : Nat → Int32} {t_numbers : Nat → Int32} {t_bends : Nat → Int32} {t_wished : Nat → Int32} {t_itemLine : Nat → Int32} {t_itemStrength : Nat → Int32} {t_itemWater : Nat → Int32} {t_itemBack : Nat → Int32} {t_items : Int32} {t_worstThen : Int32} {t_reading : Nat → Int32} {t_isRead : Nat → Int32} {t_readSum : Int32} {t_readMany : Int32} {t_spanLow : Nat → Int32} {t_spanHigh : Nat → Int32} {t_weldLine : Nat → Int32} {t_weldPull : Nat → Int32} {t_welds : Int32} {t_orderOf : Nat → Int32} {t_bestOrder : Nat → Int32} {t_smithOf : Nat → Int32} {t_bestSmith : Nat → Int32} {t_busy : Nat → Int32} {x1 : Int32} {x2 : Int32} {o : Int32 × (Nat → Int32)} (hf : f_X12_wish n t_wished x1 x2 = some o) : Ctr l yX12_wish cX12_wish 4 (some .int) 2 45 D cI cC cZ [.ref tq0, .int x1, .int x2] (w_X12 cI cC cZ tq0 tq1 tq2 tq3 tq4 tq5 tq6 tq7 tq8 tq9 tq10 tq11 tq12 tq13 tq14 tq15 tq16 tq17 tq18 tq19 tq20 tq21 tq22 tq23 tq24 t_signs t_signMany t_lineOf t_strengthOf t_waterOf t_backOf t_passes t_tried t_table t_numbers t_bends t_wished t_itemLine t_itemStrength t_itemWater t_itemBack t_items t_worstThen t_reading t_isRead t_readSum t_readMany t_spanLow t_spanHigh t_weldLine t_weldPull t_welds t_orderOf t_bestOrder t_smithOf t_bestSmith t_busy) (w_X12 cI cC cZ tq0 tq1 tq2 tq3 tq4 tq5 tq6 tq7 tq8 tq9 tq10 tq11 tq12 tq13 tq14 tq15 tq16 tq17 tq18 tq19 tq20 tq21 tq22 tq23 tq24 t_signs t_signMany t_lineOf t_strengthOf t_waterOf t_backOf t_passes t_tried t_table t_numbers t_bends o.2 t_itemLine t_itemStrength t_itemWater t_itemBack t_items t_worstThen t_reading t_isRead t_readSum t_readMany t_spanLow t_spanHigh t_weldLine t_weldPull t_welds t_orderOf t_bestOrder t_smithOf t_bestSmith t_busy) (some (.int o.1)) := by
  refine Ctr.of (by decide) (Nat.le_of_ble_eq_true rfl) ?_
  intro p e s m args below meth c ls A Q hA hQ C hl hw
  have hx := C.1
  have hb := C.2.1
  have hl : lv_has ls 4 [(0, .ref tq0), (1, .int x1), (2, .int x2)] := hl
  refine lv_iload_n hx hb (dc d_X12_wish 0 rfl) rfl (lv_at hl 1 rfl) ?_
  obtain ⟨q1, hq1, hf⟩ := g_bd hf
  refine x_callS C hw mb_X12_isCorner ms_X12_isCorner ml_X12_152 (k_X12_isCorner n hq1) hl.1 rfl rfl [] rfl rfl rfl (Nat.le_of_ble_eq_true rfl) (Nat.le_of_ble_eq_true rfl) (Nat.le_of_ble_eq_true rfl) (dc d_X12_wish 1 rfl) (fun H locs hw => ?_)
  refine W.eq (g2 := F0 m 4 ls [.int q1]) rfl ?_
  have hw : Wd D A s.heap (w_X12 cI cC cZ tq0 tq1 tq2 tq3 tq4 tq5 tq6 tq7 tq8 tq9 tq10 tq11 tq12 tq13 tq14 tq15 tq16 tq17 tq18 tq19 tq20 tq21 tq22 tq23 tq24 t_signs t_signMany t_lineOf t_strengthOf t_waterOf t_backOf t_passes t_tried t_table t_numbers t_bends t_wished t_itemLine t_itemStrength t_itemWater t_itemBack t_items t_worstThen t_reading t_isRead t_readSum t_readMany t_spanLow t_spanHigh t_weldLine t_weldPull t_welds t_orderOf t_bestOrder t_smithOf t_bestSmith t_busy) H locs := hw
  refine lv_if_ne (tgt := 10) hx hb (dc d_X12_wish 2 rfl) (by decide) (fun c2 => ?_) (fun c2 => ?_)
  · have hf := g_f hf c2
    refine lv_iload_n hx hb (dc d_X12_wish 5 rfl) rfl (lv_at hl 2 rfl) ?_
    refine lv_i2l (v := x2.toInt64) hx hb (dc d_X12_wish 6 rfl) rfl ?_
    refine x_ldc2 (v := (-100000 : Int64)) C cn_X12_158 (dc d_X12_wish 7 rfl) ?_
    refine x_ldc2 (v := (100000 : Int64)) C cn_X12_160 (dc d_X12_wish 8 rfl) ?_
    obtain ⟨q3, hq3, hf⟩ := g_bd hf
    refine x_callS C hw mb_X12_in ms_X12_in ml_X12_85 (k_X12_in n hq3) hl.1 rfl rfl [] rfl rfl rfl (Nat.le_of_ble_eq_true rfl) (Nat.le_of_ble_eq_true rfl) (Nat.le_of_ble_eq_true rfl) (dc d_X12_wish 9 rfl) (fun H locs hw => ?_)
    refine W.eq (g2 := F0 m 21 ls [.int q3]) rfl ?_
    have hw : Wd D A s.heap (w_X12 cI cC cZ tq0 tq1 tq2 tq3 tq4 tq5 tq6 tq7 tq8 tq9 tq10 tq11 tq12 tq13 tq14 tq15 tq16 tq17 tq18 tq19 tq20 tq21 tq22 tq23 tq24 t_signs t_signMany t_lineOf t_strengthOf t_waterOf t_backOf t_passes t_tried t_table t_numbers t_bends t_wished t_itemLine t_itemStrength t_itemWater t_itemBack t_items t_worstThen t_reading t_isRead t_readSum t_readMany t_spanLow t_spanHigh t_weldLine t_weldPull t_welds t_orderOf t_bestOrder t_smithOf t_bestSmith t_busy) H locs := hw
    refine lv_if_ne (tgt := 27) hx hb (dc d_X12_wish 10 rfl) (by decide) (fun c4 => ?_) (fun c4 => ?_)
    · have hf := g_f hf c4
      refine lv_aload_n hx hb (dc d_X12_wish 13 rfl) rfl (lv_at hl 0 rfl) ?_
      refine x_get C hw fl_X12_34 0 rfl rfl (dc d_X12_wish 14 rfl) ?_
      refine lv_iload_n hx hb (dc d_X12_wish 15 rfl) rfl (lv_at hl 1 rfl) ?_
      have hi := grd_b hf
      have hf := grd_x hf
      refine x_iald C hw 9 rfl hi (dc d_X12_wish 16 rfl) ?_
      refine lv_topi (fun y5 ey5 => ?_)
      have hf := g_nm hf ey5
      refine lv_istore_n (lv' := [(3, .int y5), (0, .ref tq0), (1, .int x1), (2, .int x2)]) hx hb (dc d_X12_wish 17 rfl) rfl hl (by decide) rfl (fun ls hl => ?_)
      refine lv_aload_n hx hb (dc d_X12_wish 18 rfl) rfl (lv_at hl 1 rfl) ?_
      refine x_get C hw fl_X12_34 0 rfl rfl (dc d_X12_wish 19 rfl) ?_
      refine lv_iload_n hx hb (dc d_X12_wish 20 rfl) rfl (lv_at hl 2 rfl) ?_
      refine lv_iload_n hx hb (dc d_X12_wish 21 rfl) rfl (lv_at hl 3 rfl) ?_
      have hi := grd_b hf
      have hf := grd_x hf
      refine x_iast C hw 9 rfl hi (dc d_X12_wish 22 rfl) (fun H locs hw => ?_)
      dsimp only [w_X12, mix, List.set_cons_succ, List.set_cons_zero] at hw
      have hw : Wd D A s.heap (w_X12 cI cC cZ tq0 tq1 tq2 tq3 tq4 tq5 tq6 tq7 tq8 tq9 tq10 tq11 tq12 tq13 tq14 tq15 tq16 tq17 tq18 tq19 tq20 tq21 tq22 tq23 tq24 t_signs t_signMany t_lineOf t_strengthOf t_waterOf t_backOf t_passes t_tried t_table t_numbers t_bends (upd t_wished x1.toNatClampNeg x2) t_itemLine t_itemStrength t_itemWater t_itemBack t_items t_worstThen t_reading t_isRead t_readSum t_readMany t_spanLow t_spanHigh t_weldLine t_weldPull t_welds t_orderOf t_bestOrder t_smithOf t_bestSmith t_busy) H locs := hw
      refine lv_iload_n hx hb (dc d_X12_wish 23 rfl) rfl (lv_at hl 0 rfl) ?_
      cases hf
      exact x_iret C hA hQ hw rfl rfl (dc d_X12_wish 24 rfl)
    · have hf := g_t hf c4
      refine x_ldc (v := (-2000000002 : Int32)) C cn_X12_162 (dc d_X12_wish 11 rfl) ?_
      cases hf
      exact x_iret C hA hQ hw rfl rfl (dc d_X12_wish 12 rfl)
  · have hf := g_t hf c2
    refine x_ldc (v := (-2000000001 : Int32)) C cn_X12_147 (dc d_X12_wish 3 rfl) ?_
    cases hf
    exact x_iret C hA hQ hw rfl rfl (dc d_X12_wish 4 rfl)
set_option maxHeartbeats 4000000 in
set_option maxRecDepth 100000 in
theorem k_X12_above (n : Nat) {l : Launch} {D : va_G} {cI cC cZ : ClassId}   {x0 : Int32} {x1 : Int32} {x2 : Int32} {x3 : Int32} {x4 : Int32} {o : Int32} (hf : f_X12_above n x0 x1 x2 x3 x4 = some o) : Ctr l yX12_above cX12_above 5 (some .int) 0 0 D cI cC cZ [.int x0, .int x1, .int x2, .int x3, .int x4] [] [] (some (.int o)) := by
  refine Ctr.of (by decide) (Nat.le_of_ble_eq_true rfl) ?_
  intro p e s m args below meth c ls A Q hA hQ C hl hw
  have hx := C.1
  have hb := C.2.1
  have hl : lv_has ls 5 [(0, .int x0), (1, .int x1), (2, .int x2), (3, .int x3), (4, .int x4)] := hl
  refine lv_iconst (v := (5 : Int32)) hx hb (dc d_X12_above 0 rfl) (by decide) ?_
  refine lv_iload_n hx hb (dc d_X12_above 1 rfl) rfl (lv_at hl 1 rfl) ?_
  refine lv_iload_n hx hb (dc d_X12_above 2 rfl) rfl (lv_at hl 2 rfl) ?_
  refine lv_isub hx hb (dc d_X12_above 3 rfl) ?_
  refine lv_imul hx hb (dc d_X12_above 4 rfl) ?_
  refine lv_iload_n hx hb (dc d_X12_above 5 rfl) rfl (lv_at hl 3 rfl) ?_
  refine lv_iload_n hx hb (dc d_X12_above 6 rfl) rfl (lv_at hl 2 rfl) ?_
  refine lv_isub hx hb (dc d_X12_above 7 rfl) ?_
  refine lv_iload_n hx hb (dc d_X12_above 8 rfl) rfl (lv_at hl 0 rfl) ?_
  refine lv_bipush (v := (6 : Int32)) hx hb (dc d_X12_above 9 rfl) (by decide) ?_
  refine x_rem hx hb (dc d_X12_above 10 rfl) (by decide) ?_
  refine lv_imul hx hb (dc d_X12_above 11 rfl) ?_
  refine lv_isub hx hb (dc d_X12_above 12 rfl) ?_
  refine lv_iload hx hb (dc d_X12_above 13 rfl) (lv_at hl 4 rfl) ?_
  refine lv_iload_n hx hb (dc d_X12_above 14 rfl) rfl (lv_at hl 2 rfl) ?_
  refine lv_isub hx hb (dc d_X12_above 15 rfl) ?_
  refine lv_iload_n hx hb (dc d_X12_above 16 rfl) rfl (lv_at hl 0 rfl) ?_
  refine lv_bipush (v := (6 : Int32)) hx hb (dc d_X12_above 17 rfl) (by decide) ?_
  refine x_div hx hb (dc d_X12_above 18 rfl) (by decide) ?_
  refine lv_imul hx hb (dc d_X12_above 19 rfl) ?_
  refine lv_isub hx hb (dc d_X12_above 20 rfl) ?_
  cases hf
  exact x_iret C hA hQ hw rfl rfl (dc d_X12_above 21 rfl)
set_option maxHeartbeats 4000000 in
set_option maxRecDepth 100000 in
theorem k_X12_offAt (n : Nat) {l : Launch} {D : va_G} {cI cC cZ : ClassId} {tq0 tq1 tq2 tq3 tq4 tq5 tq6 tq7 tq8 tq9 tq10 tq11 tq12 tq13 tq14 tq15 tq16 tq17 tq18 tq19 tq20 tq21 tq22 tq23 tq24 : Nat} {t_signs : Nat → Int32} {t_signMany : Int32} {t_lineOf : Nat → Int32} {t_strengthOf : Nat → Int32} {t_waterOf : Nat → Int32} {t_backOf : Nat → Int32} {t_passes : Int32} {t_tried : Int32} {t_table : Nat → Int32} {t_numbers : Nat → Int32} {t_bends : Nat → Int32} {t_wished : Nat → Int32} {t_itemLine : Nat → Int32} {t_itemStrength : Nat → Int32} {t_itemWater : Nat → Int32} {t_itemBack : Nat → Int32} {t_items : Int32} {t_worstThen : Int32} {t_reading : Nat → Int32} {t_isRead : Nat → Int32} {t_readSum : Int32} {t_readMany : Int32} {t_spanLow : Nat → Int32} {t_spanHigh : Nat → Int32} {t_weldLine : Nat → Int32} {t_weldPull : Nat → Int32} {t_welds : Int32} {t_orderOf : Nat → Int32} {t_bestOrder : Nat → Int32} {t_smithOf : Nat → Int32} {t_bestSmith : Nat → Int32} {t_busy : Nat → Int32} {x1 : Int32} {o : Int32} (hf : f_X12_offAt n t_bends t_wished x1 = some o) : Ctr l yX12_offAt cX12_offAt 2 (some .int) 1 25 D cI cC cZ [.ref tq0, .int x1] (w_X12 cI cC cZ tq0 tq1 tq2 tq3 tq4 tq5 tq6 tq7 tq8 tq9 tq10 tq11 tq12 tq13 tq14 tq15 tq16 tq17 tq18 tq19 tq20 tq21 tq22 tq23 tq24 t_signs t_signMany t_lineOf t_strengthOf t_waterOf t_backOf t_passes t_tried t_table t_numbers t_bends t_wished t_itemLine t_itemStrength t_itemWater t_itemBack t_items t_worstThen t_reading t_isRead t_readSum t_readMany t_spanLow t_spanHigh t_weldLine t_weldPull t_welds t_orderOf t_bestOrder t_smithOf t_bestSmith t_busy) (w_X12 cI cC cZ tq0 tq1 tq2 tq3 tq4 tq5 tq6 tq7 tq8 tq9 tq10 tq11 tq12 tq13 tq14 tq15 tq16 tq17 tq18 tq19 tq20 tq21 tq22 tq23 tq24 t_signs t_signMany t_lineOf t_strengthOf t_waterOf t_backOf t_passes t_tried t_table t_numbers t_bends t_wished t_itemLine t_itemStrength t_itemWater t_itemBack t_items t_worstThen t_reading t_isRead t_readSum t_readMany t_spanLow t_spanHigh t_weldLine t_weldPull t_welds t_orderOf t_bestOrder t_smithOf t_bestSmith t_busy) (some (.int o)) := by
  refine Ctr.of (by decide) (Nat.le_of_ble_eq_true rfl) ?_
  intro p e s m args below meth c ls A Q hA hQ C hl hw
  have hx := C.1
  have hb := C.2.1
  have hl : lv_has ls 2 [(0, .ref tq0), (1, .int x1)] := hl
  refine lv_aload_n hx hb (dc d_X12_offAt 0 rfl) rfl (lv_at hl 0 rfl) ?_
  refine lv_iload_n hx hb (dc d_X12_offAt 1 rfl) rfl (lv_at hl 1 rfl) ?_
  obtain ⟨q1, hq1, hf⟩ := g_bd hf
  refine x_callVa C hw mb_X12_heightAt mv_X12_heightAt ml_X12_155 (k_X12_heightAt n hq1) hl.1 rfl rfl rfl 0 12 rfl rfl (Nat.le_of_ble_eq_true rfl) (Nat.le_of_ble_eq_true rfl) (Nat.le_of_ble_eq_true rfl) (dc d_X12_offAt 2 rfl) (fun H locs hw => ?_)
  refine W.eq (g2 := F0 m 5 ls [.int q1]) rfl ?_
  have hw : Wd D A s.heap (w_X12 cI cC cZ tq0 tq1 tq2 tq3 tq4 tq5 tq6 tq7 tq8 tq9 tq10 tq11 tq12 tq13 tq14 tq15 tq16 tq17 tq18 tq19 tq20 tq21 tq22 tq23 tq24 t_signs t_signMany t_lineOf t_strengthOf t_waterOf t_backOf t_passes t_tried t_table t_numbers t_bends t_wished t_itemLine t_itemStrength t_itemWater t_itemBack t_items t_worstThen t_reading t_isRead t_readSum t_readMany t_spanLow t_spanHigh t_weldLine t_weldPull t_welds t_orderOf t_bestOrder t_smithOf t_bestSmith t_busy) H locs := hw
  refine lv_aload_n hx hb (dc d_X12_offAt 3 rfl) rfl (lv_at hl 0 rfl) ?_
  refine x_get C hw fl_X12_34 0 rfl rfl (dc d_X12_offAt 4 rfl) ?_
  refine lv_iload_n hx hb (dc d_X12_offAt 5 rfl) rfl (lv_at hl 1 rfl) ?_
  have hi := grd_b hf
  have hf := grd_x hf
  refine x_iald C hw 9 rfl hi (dc d_X12_offAt 6 rfl) ?_
  refine lv_isub hx hb (dc d_X12_offAt 7 rfl) ?_
  cases hf
  exact x_iret C hA hQ hw rfl rfl (dc d_X12_offAt 8 rfl)
set_option maxHeartbeats 4000000 in
set_option maxRecDepth 100000 in
theorem k_X12_missAt (n : Nat) {l : Launch} {D : va_G} {cI cC cZ : ClassId} {tq0 tq1 tq2 tq3 tq4 tq5 tq6 tq7 tq8 tq9 tq10 tq11 tq12 tq13 tq14 tq15 tq16 tq17 tq18 tq19 tq20 tq21 tq22 tq23 tq24 : Nat} {t_signs : Nat → Int32} {t_signMany : Int32} {t_lineOf : Nat → Int32} {t_strengthOf : Nat → Int32} {t_waterOf : Nat → Int32} {t_backOf : Nat → Int32} {t_passes : Int32} {t_tried : Int32} {t_table : Nat → Int32} {t_numbers : Nat → Int32} {t_bends : Nat → Int32} {t_wished : Nat → Int32} {t_itemLine : Nat → Int32} {t_itemStrength : Nat → Int32} {t_itemWater : Nat → Int32} {t_itemBack : Nat → Int32} {t_items : Int32} {t_worstThen : Int32} {t_reading : Nat → Int32} {t_isRead : Nat → Int32} {t_readSum : Int32} {t_readMany : Int32} {t_spanLow : Nat → Int32} {t_spanHigh : Nat → Int32} {t_weldLine : Nat → Int32} {t_weldPull : Nat → Int32} {t_welds : Int32} {t_orderOf : Nat → Int32} {t_bestOrder : Nat → Int32} {t_smithOf : Nat → Int32} {t_bestSmith : Nat → Int32} {t_busy : Nat → Int32} {x1 : Int32} {o : Int32} (hf : f_X12_missAt n t_bends t_wished x1 = some o) : Ctr l yX12_missAt cX12_missAt 2 (some .int) 2 46 D cI cC cZ [.ref tq0, .int x1] (w_X12 cI cC cZ tq0 tq1 tq2 tq3 tq4 tq5 tq6 tq7 tq8 tq9 tq10 tq11 tq12 tq13 tq14 tq15 tq16 tq17 tq18 tq19 tq20 tq21 tq22 tq23 tq24 t_signs t_signMany t_lineOf t_strengthOf t_waterOf t_backOf t_passes t_tried t_table t_numbers t_bends t_wished t_itemLine t_itemStrength t_itemWater t_itemBack t_items t_worstThen t_reading t_isRead t_readSum t_readMany t_spanLow t_spanHigh t_weldLine t_weldPull t_welds t_orderOf t_bestOrder t_smithOf t_bestSmith t_busy) (w_X12 cI cC cZ tq0 tq1 tq2 tq3 tq4 tq5 tq6 tq7 tq8 tq9 tq10 tq11 tq12 tq13 tq14 tq15 tq16 tq17 tq18 tq19 tq20 tq21 tq22 tq23 tq24 t_signs t_signMany t_lineOf t_strengthOf t_waterOf t_backOf t_passes t_tried t_table t_numbers t_bends t_wished t_itemLine t_itemStrength t_itemWater t_itemBack t_items t_worstThen t_reading t_isRead t_readSum t_readMany t_spanLow t_spanHigh t_weldLine t_weldPull t_welds t_orderOf t_bestOrder t_smithOf t_bestSmith t_busy) (some (.int o)) := by
  refine Ctr.of (by decide) (Nat.le_of_ble_eq_true rfl) ?_
  intro p e s m args below meth c ls A Q hA hQ C hl hw
  have hx := C.1
  have hb := C.2.1
  have hl : lv_has ls 2 [(0, .ref tq0), (1, .int x1)] := hl
  refine lv_iload_n hx hb (dc d_X12_missAt 0 rfl) rfl (lv_at hl 1 rfl) ?_
  refine lv_aload_n hx hb (dc d_X12_missAt 1 rfl) rfl (lv_at hl 0 rfl) ?_
  refine lv_iload_n hx hb (dc d_X12_missAt 2 rfl) rfl (lv_at hl 1 rfl) ?_
  obtain ⟨q1, hq1, hf⟩ := g_bd hf
  refine x_callVa C hw mb_X12_offAt mv_X12_offAt ml_X12_163 (k_X12_offAt n hq1) hl.1 rfl rfl rfl 0 12 rfl rfl (Nat.le_of_ble_eq_true rfl) (Nat.le_of_ble_eq_true rfl) (Nat.le_of_ble_eq_true rfl) (dc d_X12_missAt 3 rfl) (fun H locs hw => ?_)
  refine W.eq (g2 := F0 m 6 ls [.int q1, .int x1]) rfl ?_
  have hw : Wd D A s.heap (w_X12 cI cC cZ tq0 tq1 tq2 tq3 tq4 tq5 tq6 tq7 tq8 tq9 tq10 tq11 tq12 tq13 tq14 tq15 tq16 tq17 tq18 tq19 tq20 tq21 tq22 tq23 tq24 t_signs t_signMany t_lineOf t_strengthOf t_waterOf t_backOf t_passes t_tried t_table t_numbers t_bends t_wished t_itemLine t_itemStrength t_itemWater t_itemBack t_items t_worstThen t_reading t_isRead t_readSum t_readMany t_spanLow t_spanHigh t_weldLine t_weldPull t_welds t_orderOf t_bestOrder t_smithOf t_bestSmith t_busy) H locs := hw
  refine lv_aload_n hx hb (dc d_X12_missAt 4 rfl) rfl (lv_at hl 0 rfl) ?_
  refine lv_iconst (v := (0 : Int32)) hx hb (dc d_X12_missAt 5 rfl) (by decide) ?_
  obtain ⟨q2, hq2, hf⟩ := g_bd hf
  refine x_callVa C hw mb_X12_offAt mv_X12_offAt ml_X12_163 (k_X12_offAt n hq2) hl.1 rfl rfl rfl 0 12 rfl rfl (Nat.le_of_ble_eq_true rfl) (Nat.le_of_ble_eq_true rfl) (Nat.le_of_ble_eq_true rfl) (dc d_X12_missAt 6 rfl) (fun H locs hw => ?_)
  refine W.eq (g2 := F0 m 11 ls [.int q2, .int q1, .int x1]) rfl ?_
  have hw : Wd D A s.heap (w_X12 cI cC cZ tq0 tq1 tq2 tq3 tq4 tq5 tq6 tq7 tq8 tq9 tq10 tq11 tq12 tq13 tq14 tq15 tq16 tq17 tq18 tq19 tq20 tq21 tq22 tq23 tq24 t_signs t_signMany t_lineOf t_strengthOf t_waterOf t_backOf t_passes t_tried t_table t_numbers t_bends t_wished t_itemLine t_itemStrength t_itemWater t_itemBack t_items t_worstThen t_reading t_isRead t_readSum t_readMany t_spanLow t_spanHigh t_weldLine t_weldPull t_welds t_orderOf t_bestOrder t_smithOf t_bestSmith t_busy) H locs := hw
  refine lv_aload_n hx hb (dc d_X12_missAt 7 rfl) rfl (lv_at hl 0 rfl) ?_
  refine lv_iconst (v := (5 : Int32)) hx hb (dc d_X12_missAt 8 rfl) (by decide) ?_
  obtain ⟨q3, hq3, hf⟩ := g_bd hf
  refine x_callVa C hw mb_X12_offAt mv_X12_offAt ml_X12_163 (k_X12_offAt n hq3) hl.1 rfl rfl rfl 0 12 rfl rfl (Nat.le_of_ble_eq_true rfl) (Nat.le_of_ble_eq_true rfl) (Nat.le_of_ble_eq_true rfl) (dc d_X12_missAt 9 rfl) (fun H locs hw => ?_)
  refine W.eq (g2 := F0 m 16 ls [.int q3, .int q2, .int q1, .int x1]) rfl ?_
  have hw : Wd D A s.heap (w_X12 cI cC cZ tq0 tq1 tq2 tq3 tq4 tq5 tq6 tq7 tq8 tq9 tq10 tq11 tq12 tq13 tq14 tq15 tq16 tq17 tq18 tq19 tq20 tq21 tq22 tq23 tq24 t_signs t_signMany t_lineOf t_strengthOf t_waterOf t_backOf t_passes t_tried t_table t_numbers t_bends t_wished t_itemLine t_itemStrength t_itemWater t_itemBack t_items t_worstThen t_reading t_isRead t_readSum t_readMany t_spanLow t_spanHigh t_weldLine t_weldPull t_welds t_orderOf t_bestOrder t_smithOf t_bestSmith t_busy) H locs := hw
  refine lv_aload_n hx hb (dc d_X12_missAt 10 rfl) rfl (lv_at hl 0 rfl) ?_
  refine lv_bipush (v := (30 : Int32)) hx hb (dc d_X12_missAt 11 rfl) (by decide) ?_
  obtain ⟨q4, hq4, hf⟩ := g_bd hf
  refine x_callVa C hw mb_X12_offAt mv_X12_offAt ml_X12_163 (k_X12_offAt n hq4) hl.1 rfl rfl rfl 0 12 rfl rfl (Nat.le_of_ble_eq_true rfl) (Nat.le_of_ble_eq_true rfl) (Nat.le_of_ble_eq_true rfl) (dc d_X12_missAt 12 rfl) (fun H locs hw => ?_)
  refine W.eq (g2 := F0 m 22 ls [.int q4, .int q3, .int q2, .int q1, .int x1]) rfl ?_
  have hw : Wd D A s.heap (w_X12 cI cC cZ tq0 tq1 tq2 tq3 tq4 tq5 tq6 tq7 tq8 tq9 tq10 tq11 tq12 tq13 tq14 tq15 tq16 tq17 tq18 tq19 tq20 tq21 tq22 tq23 tq24 t_signs t_signMany t_lineOf t_strengthOf t_waterOf t_backOf t_passes t_tried t_table t_numbers t_bends t_wished t_itemLine t_itemStrength t_itemWater t_itemBack t_items t_worstThen t_reading t_isRead t_readSum t_readMany t_spanLow t_spanHigh t_weldLine t_weldPull t_welds t_orderOf t_bestOrder t_smithOf t_bestSmith t_busy) H locs := hw
  obtain ⟨q5, hq5, hf⟩ := g_bd hf
  refine x_callS C hw mb_X12_above ms_X12_above ml_X12_166 (k_X12_above n hq5) hl.1 rfl rfl [] rfl rfl rfl (Nat.le_of_ble_eq_true rfl) (Nat.le_of_ble_eq_true rfl) (Nat.le_of_ble_eq_true rfl) (dc d_X12_missAt 13 rfl) (fun H locs hw => ?_)
  refine W.eq (g2 := F0 m 25 ls [.int q5]) rfl ?_
  have hw : Wd D A s.heap (w_X12 cI cC cZ tq0 tq1 tq2 tq3 tq4 tq5 tq6 tq7 tq8 tq9 tq10 tq11 tq12 tq13 tq14 tq15 tq16 tq17 tq18 tq19 tq20 tq21 tq22 tq23 tq24 t_signs t_signMany t_lineOf t_strengthOf t_waterOf t_backOf t_passes t_tried t_table t_numbers t_bends t_wished t_itemLine t_itemStrength t_itemWater t_itemBack t_items t_worstThen t_reading t_isRead t_readSum t_readMany t_spanLow t_spanHigh t_weldLine t_weldPull t_welds t_orderOf t_bestOrder t_smithOf t_bestSmith t_busy) H locs := hw
  cases hf
  exact x_iret C hA hQ hw rfl rfl (dc d_X12_missAt 14 rfl)
set_option maxHeartbeats 4000000 in
set_option maxRecDepth 100000 in
theorem k_X12_miss (n : Nat) {l : Launch} {D : va_G} {cI cC cZ : ClassId} {tq0 tq1 tq2 tq3 tq4 tq5 tq6 tq7 tq8 tq9 tq10 tq11 tq12 tq13 tq14 tq15 tq16 tq17 tq18 tq19 tq20 tq21 tq22 tq23 tq24 : Nat} {t_signs : Nat → Int32} {t_signMany : Int32} {t_lineOf : Nat → Int32} {t_strengthOf : Nat → Int32} {t_waterOf : Nat → Int32} {t_backOf : Nat → Int32} {t_passes : Int32} {t_tried : Int32} {t_table : Nat → Int32} {t_numbers : Nat → Int32} {t_bends : Nat → Int32} {t_wished : Nat → Int32} {t_itemLine : Nat → Int32} {t_itemStrength : Nat → Int32} {t_itemWater : Nat → Int32} {t_itemBack : Nat → Int32} {t_items : Int32} {t_worstThen : Int32} {t_reading : Nat → Int32} {t_isRead : Nat → Int32} {t_readSum : Int32} {t_readMany : Int32} {t_spanLow : Nat → Int32} {t_spanHigh : Nat → Int32} {t_weldLine : Nat → Int32} {t_weldPull : Nat → Int32} {t_welds : Int32} {t_orderOf : Nat → Int32} {t_bestOrder : Nat → Int32} {t_smithOf : Nat → Int32} {t_bestSmith : Nat → Int32} {t_busy : Nat → Int32} {x1 : Int32} {o : Int32 × (Nat → Int32)} (hf : f_X12_miss n t_lineOf t_strengthOf t_waterOf t_backOf t_passes t_table t_numbers t_bends t_wished x1 = some o) : Ctr l yX12_miss cX12_miss 2 (some .int) 4 89 D cI cC cZ [.ref tq0, .int x1] (w_X12 cI cC cZ tq0 tq1 tq2 tq3 tq4 tq5 tq6 tq7 tq8 tq9 tq10 tq11 tq12 tq13 tq14 tq15 tq16 tq17 tq18 tq19 tq20 tq21 tq22 tq23 tq24 t_signs t_signMany t_lineOf t_strengthOf t_waterOf t_backOf t_passes t_tried t_table t_numbers t_bends t_wished t_itemLine t_itemStrength t_itemWater t_itemBack t_items t_worstThen t_reading t_isRead t_readSum t_readMany t_spanLow t_spanHigh t_weldLine t_weldPull t_welds t_orderOf t_bestOrder t_smithOf t_bestSmith t_busy) (w_X12 cI cC cZ tq0 tq1 tq2 tq3 tq4 tq5 tq6 tq7 tq8 tq9 tq10 tq11 tq12 tq13 tq14 tq15 tq16 tq17 tq18 tq19 tq20 tq21 tq22 tq23 tq24 t_signs t_signMany t_lineOf t_strengthOf t_waterOf t_backOf t_passes t_tried t_table t_numbers o.2 t_wished t_itemLine t_itemStrength t_itemWater t_itemBack t_items t_worstThen t_reading t_isRead t_readSum t_readMany t_spanLow t_spanHigh t_weldLine t_weldPull t_welds t_orderOf t_bestOrder t_smithOf t_bestSmith t_busy) (some (.int o.1)) := by
  refine Ctr.of (by decide) (Nat.le_of_ble_eq_true rfl) ?_
  intro p e s m args below meth c ls A Q hA hQ C hl hw
  have hx := C.1
  have hb := C.2.1
  have hl : lv_has ls 2 [(0, .ref tq0), (1, .int x1)] := hl
  refine lv_iload_n hx hb (dc d_X12_miss 0 rfl) rfl (lv_at hl 1 rfl) ?_
  obtain ⟨q1, hq1, hf⟩ := g_bd hf
  refine x_callS C hw mb_X12_isCorner ms_X12_isCorner ml_X12_152 (k_X12_isCorner n hq1) hl.1 rfl rfl [] rfl rfl rfl (Nat.le_of_ble_eq_true rfl) (Nat.le_of_ble_eq_true rfl) (Nat.le_of_ble_eq_true rfl) (dc d_X12_miss 1 rfl) (fun H locs hw => ?_)
  refine W.eq (g2 := F0 m 4 ls [.int q1]) rfl ?_
  have hw : Wd D A s.heap (w_X12 cI cC cZ tq0 tq1 tq2 tq3 tq4 tq5 tq6 tq7 tq8 tq9 tq10 tq11 tq12 tq13 tq14 tq15 tq16 tq17 tq18 tq19 tq20 tq21 tq22 tq23 tq24 t_signs t_signMany t_lineOf t_strengthOf t_waterOf t_backOf t_passes t_tried t_table t_numbers t_bends t_wished t_itemLine t_itemStrength t_itemWater t_itemBack t_items t_worstThen t_reading t_isRead t_readSum t_readMany t_spanLow t_spanHigh t_weldLine t_weldPull t_welds t_orderOf t_bestOrder t_smithOf t_bestSmith t_busy) H locs := hw
  refine lv_if_ne (tgt := 10) hx hb (dc d_X12_miss 2 rfl) (by decide) (fun c2 => ?_) (fun c2 => ?_)
  · have hf := g_f hf c2
    refine lv_aload_n hx hb (dc d_X12_miss 5 rfl) rfl (lv_at hl 0 rfl) ?_
    refine lv_aload_n hx hb (dc d_X12_miss 6 rfl) rfl (lv_at hl 0 rfl) ?_
    refine x_get C hw fl_X12_113 0 rfl rfl (dc d_X12_miss 7 rfl) ?_
    obtain ⟨q3, hq3, hf⟩ := g_bd hf
    refine x_callVa C hw mb_X12_findBends mv_X12_findBends ml_X12_148 (k_X12_findBends n hq3) hl.1 rfl rfl rfl 0 12 rfl rfl (Nat.le_of_ble_eq_true rfl) (Nat.le_of_ble_eq_true rfl) (Nat.le_of_ble_eq_true rfl) (dc d_X12_miss 8 rfl) (fun H locs hw => ?_)
    refine W.eq (g2 := F0 m 18 ls []) rfl ?_
    have hw : Wd D A s.heap (w_X12 cI cC cZ tq0 tq1 tq2 tq3 tq4 tq5 tq6 tq7 tq8 tq9 tq10 tq11 tq12 tq13 tq14 tq15 tq16 tq17 tq18 tq19 tq20 tq21 tq22 tq23 tq24 t_signs t_signMany t_lineOf t_strengthOf t_waterOf t_backOf t_passes t_tried t_table t_numbers q3 t_wished t_itemLine t_itemStrength t_itemWater t_itemBack t_items t_worstThen t_reading t_isRead t_readSum t_readMany t_spanLow t_spanHigh t_weldLine t_weldPull t_welds t_orderOf t_bestOrder t_smithOf t_bestSmith t_busy) H locs := hw
    refine lv_aload_n hx hb (dc d_X12_miss 9 rfl) rfl (lv_at hl 0 rfl) ?_
    refine lv_iload_n hx hb (dc d_X12_miss 10 rfl) rfl (lv_at hl 1 rfl) ?_
    obtain ⟨q4, hq4, hf⟩ := g_bd hf
    refine x_callVa C hw mb_X12_missAt mv_X12_missAt ml_X12_170 (k_X12_missAt n hq4) hl.1 rfl rfl rfl 0 12 rfl rfl (Nat.le_of_ble_eq_true rfl) (Nat.le_of_ble_eq_true rfl) (Nat.le_of_ble_eq_true rfl) (dc d_X12_miss 11 rfl) (fun H locs hw => ?_)
    refine W.eq (g2 := F0 m 23 ls [.int q4]) rfl ?_
    have hw : Wd D A s.heap (w_X12 cI cC cZ tq0 tq1 tq2 tq3 tq4 tq5 tq6 tq7 tq8 tq9 tq10 tq11 tq12 tq13 tq14 tq15 tq16 tq17 tq18 tq19 tq20 tq21 tq22 tq23 tq24 t_signs t_signMany t_lineOf t_strengthOf t_waterOf t_backOf t_passes t_tried t_table t_numbers q3 t_wished t_itemLine t_itemStrength t_itemWater t_itemBack t_items t_worstThen t_reading t_isRead t_readSum t_readMany t_spanLow t_spanHigh t_weldLine t_weldPull t_welds t_orderOf t_bestOrder t_smithOf t_bestSmith t_busy) H locs := hw
    cases hf
    exact x_iret C hA hQ hw rfl rfl (dc d_X12_miss 12 rfl)
  · have hf := g_t hf c2
    refine x_ldc (v := (-2000000001 : Int32)) C cn_X12_147 (dc d_X12_miss 3 rfl) ?_
    cases hf
    exact x_iret C hA hQ hw rfl rfl (dc d_X12_miss 4 rfl)
set_option maxHeartbeats 4000000 in
set_option maxRecDepth 100000 in
theorem k_X12_worstOf (n : Nat) {l : Launch} {D : va_G} {cI cC cZ : ClassId} {tq0 tq1 tq2 tq3 tq4 tq5 tq6 tq7 tq8 tq9 tq10 tq11 tq12 tq13 tq14 tq15 tq16 tq17 tq18 tq19 tq20 tq21 tq22 tq23 tq24 : Nat} {t_signs : Nat → Int32} {t_signMany : Int32} {t_lineOf : Nat → Int32} {t_strengthOf : Nat → Int32} {t_waterOf : Nat → Int32} {t_backOf : Nat → Int32} {t_passes : Int32} {t_tried : Int32} {t_table : Nat → Int32} {t_numbers : Nat → Int32} {t_bends : Nat → Int32} {t_wished : Nat → Int32} {t_itemLine : Nat → Int32} {t_itemStrength : Nat → Int32} {t_itemWater : Nat → Int32} {t_itemBack : Nat → Int32} {t_items : Int32} {t_worstThen : Int32} {t_reading : Nat → Int32} {t_isRead : Nat → Int32} {t_readSum : Int32} {t_readMany : Int32} {t_spanLow : Nat → Int32} {t_spanHigh : Nat → Int32} {t_weldLine : Nat → Int32} {t_weldPull : Nat → Int32} {t_welds : Int32} {t_orderOf : Nat → Int32} {t_bestOrder : Nat → Int32} {t_smithOf : Nat → Int32} {t_bestSmith : Nat → Int32} {t_busy : Nat → Int32}  {o : Int32} (hf : f_X12_worstOf n t_bends t_wished = some o) : Ctr l yX12_worstOf cX12_worstOf 4 (some .int) 3 67 D cI cC cZ [.ref tq0] (w_X12 cI cC cZ tq0 tq1 tq2 tq3 tq4 tq5 tq6 tq7 tq8 tq9 tq10 tq11 tq12 tq13 tq14 tq15 tq16 tq17 tq18 tq19 tq20 tq21 tq22 tq23 tq24 t_signs t_signMany t_lineOf t_strengthOf t_waterOf t_backOf t_passes t_tried t_table t_numbers t_bends t_wished t_itemLine t_itemStrength t_itemWater t_itemBack t_items t_worstThen t_reading t_isRead t_readSum t_readMany t_spanLow t_spanHigh t_weldLine t_weldPull t_welds t_orderOf t_bestOrder t_smithOf t_bestSmith t_busy) (w_X12 cI cC cZ tq0 tq1 tq2 tq3 tq4 tq5 tq6 tq7 tq8 tq9 tq10 tq11 tq12 tq13 tq14 tq15 tq16 tq17 tq18 tq19 tq20 tq21 tq22 tq23 tq24 t_signs t_signMany t_lineOf t_strengthOf t_waterOf t_backOf t_passes t_tried t_table t_numbers t_bends t_wished t_itemLine t_itemStrength t_itemWater t_itemBack t_items t_worstThen t_reading t_isRead t_readSum t_readMany t_spanLow t_spanHigh t_weldLine t_weldPull t_welds t_orderOf t_bestOrder t_smithOf t_bestSmith t_busy) (some (.int o)) := by
  refine Ctr.of (by decide) (Nat.le_of_ble_eq_true rfl) ?_
  intro p e s m args below meth c ls A Q hA hQ C hl hw
  have hx := C.1
  have hb := C.2.1
  have hl : lv_has ls 4 [(0, .ref tq0)] := hl
  have L4 : ∀ (n : Nat), ∀ (v1 : Int32) (v2 : Int32) (H : Heap) (locs : List Loc) (ls : Array Slot), Wd D A s.heap (w_X12 cI cC cZ tq0 tq1 tq2 tq3 tq4 tq5 tq6 tq7 tq8 tq9 tq10 tq11 tq12 tq13 tq14 tq15 tq16 tq17 tq18 tq19 tq20 tq21 tq22 tq23 tq24 t_signs t_signMany t_lineOf t_strengthOf t_waterOf t_backOf t_passes t_tried t_table t_numbers t_bends t_wished t_itemLine t_itemStrength t_itemWater t_itemBack t_items t_worstThen t_reading t_isRead t_readSum t_readMany t_spanLow t_spanHigh t_weldLine t_weldPull t_welds t_orderOf t_bestOrder t_smithOf t_bestSmith t_busy) H locs → lv_has ls 4 [(0, .ref tq0), (1, .int v1), (2, .int v2)] → f_X12_worstOf_4 t_bends t_wished  n v1 v2 = some o → W p l e (rmOf 3 67) s m args below meth c H locs 0 0 Q (F0 m 4 ls []) := by
    intro  n
    induction n with
    | zero => intro v1 v2 H locs ls hw hl hf; exact (no_none hf).elim
    | succ n ih =>
      intro v1 v2 H locs ls hw hl hf
      have hf : f_X12_worstOf_4b t_bends t_wished  (f_X12_worstOf_4 t_bends t_wished  n) n v1 v2 = some o := hf
      generalize f_X12_worstOf_4 t_bends t_wished  n = k4 at hf ih
      refine lv_iload_n hx hb (dc d_X12_worstOf 4 rfl) rfl (lv_at hl 2 rfl) ?_
      refine lv_bipush (v := (36 : Int32)) hx hb (dc d_X12_worstOf 5 rfl) (by decide) ?_
      refine lv_icmp_ge (tgt := 36) hx hb (dc d_X12_worstOf 6 rfl) (by decide) (fun c1 => ?_) (fun c1 => ?_)
      · have hf := g_t hf c1
        refine lv_iload_n hx hb (dc d_X12_worstOf 21 rfl) rfl (lv_at hl 1 rfl) ?_
        cases hf
        exact x_iret C hA hQ hw rfl rfl (dc d_X12_worstOf 22 rfl)
      · have hf := g_f hf c1
        refine lv_aload_n hx hb (dc d_X12_worstOf 7 rfl) rfl (lv_at hl 0 rfl) ?_
        refine lv_iload_n hx hb (dc d_X12_worstOf 8 rfl) rfl (lv_at hl 2 rfl) ?_
        obtain ⟨q2, hq2, hf⟩ := g_bd hf
        refine x_callVa C hw mb_X12_missAt mv_X12_missAt ml_X12_170 (k_X12_missAt n hq2) hl.1 rfl rfl rfl 0 12 rfl rfl (Nat.le_of_ble_eq_true rfl) (Nat.le_of_ble_eq_true rfl) (Nat.le_of_ble_eq_true rfl) (dc d_X12_worstOf 9 rfl) (fun H locs hw => ?_)
        refine W.eq (g2 := F0 m 15 ls [.int q2]) rfl ?_
        have hw : Wd D A s.heap (w_X12 cI cC cZ tq0 tq1 tq2 tq3 tq4 tq5 tq6 tq7 tq8 tq9 tq10 tq11 tq12 tq13 tq14 tq15 tq16 tq17 tq18 tq19 tq20 tq21 tq22 tq23 tq24 t_signs t_signMany t_lineOf t_strengthOf t_waterOf t_backOf t_passes t_tried t_table t_numbers t_bends t_wished t_itemLine t_itemStrength t_itemWater t_itemBack t_items t_worstThen t_reading t_isRead t_readSum t_readMany t_spanLow t_spanHigh t_weldLine t_weldPull t_welds t_orderOf t_bestOrder t_smithOf t_bestSmith t_busy) H locs := hw
        obtain ⟨q3, hq3, hf⟩ := g_bd hf
        refine x_callS C hw mb_X12_size ms_X12_size ml_X12_119 (k_X12_size n hq3) hl.1 rfl rfl [] rfl rfl rfl (Nat.le_of_ble_eq_true rfl) (Nat.le_of_ble_eq_true rfl) (Nat.le_of_ble_eq_true rfl) (dc d_X12_worstOf 10 rfl) (fun H locs hw => ?_)
        refine W.eq (g2 := F0 m 18 ls [.int q3]) rfl ?_
        have hw : Wd D A s.heap (w_X12 cI cC cZ tq0 tq1 tq2 tq3 tq4 tq5 tq6 tq7 tq8 tq9 tq10 tq11 tq12 tq13 tq14 tq15 tq16 tq17 tq18 tq19 tq20 tq21 tq22 tq23 tq24 t_signs t_signMany t_lineOf t_strengthOf t_waterOf t_backOf t_passes t_tried t_table t_numbers t_bends t_wished t_itemLine t_itemStrength t_itemWater t_itemBack t_items t_worstThen t_reading t_isRead t_readSum t_readMany t_spanLow t_spanHigh t_weldLine t_weldPull t_welds t_orderOf t_bestOrder t_smithOf t_bestSmith t_busy) H locs := hw
        refine lv_istore_n (lv' := [(3, .int q3), (0, .ref tq0), (1, .int v1), (2, .int v2)]) hx hb (dc d_X12_worstOf 11 rfl) rfl hl (by decide) rfl (fun ls hl => ?_)
        refine lv_iload_n hx hb (dc d_X12_worstOf 12 rfl) rfl (lv_at hl 0 rfl) ?_
        refine lv_iload_n hx hb (dc d_X12_worstOf 13 rfl) rfl (lv_at hl 2 rfl) ?_
        refine lv_icmp_le (tgt := 28) hx hb (dc d_X12_worstOf 14 rfl) (by decide) (fun c4 => ?_) (fun c4 => ?_)
        · have hf := g_t hf c4
          refine lv_iload_n hx hb (dc d_X12_worstOf 17 rfl) rfl (lv_at hl 2 rfl) ?_
          refine lv_istore_n (lv' := [(1, .int v1), (3, .int q3), (0, .ref tq0), (2, .int v2)]) hx hb (dc d_X12_worstOf 18 rfl) rfl hl (by decide) rfl (fun ls hl => ?_)
          refine lv_iinc (v := (v2 + (1 : Int32))) (lv' := [(2, .int (v2 + (1 : Int32))), (1, .int v1), (3, .int q3), (0, .ref tq0)]) hx hb (dc d_X12_worstOf 19 rfl) hl (k := 3) rfl (ii (by decide)) (by decide) rfl (fun ls hl => ?_)
          refine lv_goto (tgt := 4) hx hb (dc d_X12_worstOf 20 rfl) (by decide) ?_
          exact ih v1 (v2 + (1 : Int32)) _ _ _ hw (lv_sub hl [3, 1, 0] rfl) hf
        · have hf := g_f hf c4
          refine lv_iload_n hx hb (dc d_X12_worstOf 15 rfl) rfl (lv_at hl 0 rfl) ?_
          refine lv_goto (tgt := 29) hx hb (dc d_X12_worstOf 16 rfl) (by decide) ?_
          refine lv_istore_n (lv' := [(1, .int q3), (3, .int q3), (0, .ref tq0), (2, .int v2)]) hx hb (dc d_X12_worstOf 18 rfl) rfl hl (by decide) rfl (fun ls hl => ?_)
          refine lv_iinc (v := (v2 + (1 : Int32))) (lv' := [(2, .int (v2 + (1 : Int32))), (1, .int q3), (3, .int q3), (0, .ref tq0)]) hx hb (dc d_X12_worstOf 19 rfl) hl (k := 3) rfl (ii (by decide)) (by decide) rfl (fun ls hl => ?_)
          refine lv_goto (tgt := 4) hx hb (dc d_X12_worstOf 20 rfl) (by decide) ?_
          exact ih q3 (v2 + (1 : Int32)) _ _ _ hw (lv_sub hl [3, 1, 0] rfl) hf
  refine lv_iconst (v := (0 : Int32)) hx hb (dc d_X12_worstOf 0 rfl) (by decide) ?_
  refine lv_istore_n (lv' := [(1, .int (0 : Int32)), (0, .ref tq0)]) hx hb (dc d_X12_worstOf 1 rfl) rfl hl (by decide) rfl (fun ls hl => ?_)
  refine lv_iconst (v := (0 : Int32)) hx hb (dc d_X12_worstOf 2 rfl) (by decide) ?_
  refine lv_istore_n (lv' := [(2, .int (0 : Int32)), (1, .int (0 : Int32)), (0, .ref tq0)]) hx hb (dc d_X12_worstOf 3 rfl) rfl hl (by decide) rfl (fun ls hl => ?_)
  exact L4  n (0 : Int32) (0 : Int32) _ _ _ hw (lv_sub hl [2, 1, 0] rfl) hf
set_option maxHeartbeats 4000000 in
set_option maxRecDepth 100000 in
theorem k_X12_worstBy (n : Nat) {l : Launch} {D : va_G} {cI cC cZ : ClassId} {tq0 tq1 tq2 tq3 tq4 tq5 tq6 tq7 tq8 tq9 tq10 tq11 tq12 tq13 tq14 tq15 tq16 tq17 tq18 tq19 tq20 tq21 tq22 tq23 tq24 : Nat} {t_signs : Nat → Int32} {t_signMany : Int32} {t_lineOf : Nat → Int32} {t_strengthOf : Nat → Int32} {t_waterOf : Nat → Int32} {t_backOf : Nat → Int32} {t_passes : Int32} {t_tried : Int32} {t_table : Nat → Int32} {t_numbers : Nat → Int32} {t_bends : Nat → Int32} {t_wished : Nat → Int32} {t_itemLine : Nat → Int32} {t_itemStrength : Nat → Int32} {t_itemWater : Nat → Int32} {t_itemBack : Nat → Int32} {t_items : Int32} {t_worstThen : Int32} {t_reading : Nat → Int32} {t_isRead : Nat → Int32} {t_readSum : Int32} {t_readMany : Int32} {t_spanLow : Nat → Int32} {t_spanHigh : Nat → Int32} {t_weldLine : Nat → Int32} {t_weldPull : Nat → Int32} {t_welds : Int32} {t_orderOf : Nat → Int32} {t_bestOrder : Nat → Int32} {t_smithOf : Nat → Int32} {t_bestSmith : Nat → Int32} {t_busy : Nat → Int32} {x1 : Int32} {o : Int32 × (Nat → Int32)} (hf : f_X12_worstBy n t_lineOf t_strengthOf t_waterOf t_backOf t_table t_numbers t_bends t_wished x1 = some o) : Ctr l yX12_worstBy cX12_worstBy 2 (some .int) 4 90 D cI cC cZ [.ref tq0, .int x1] (w_X12 cI cC cZ tq0 tq1 tq2 tq3 tq4 tq5 tq6 tq7 tq8 tq9 tq10 tq11 tq12 tq13 tq14 tq15 tq16 tq17 tq18 tq19 tq20 tq21 tq22 tq23 tq24 t_signs t_signMany t_lineOf t_strengthOf t_waterOf t_backOf t_passes t_tried t_table t_numbers t_bends t_wished t_itemLine t_itemStrength t_itemWater t_itemBack t_items t_worstThen t_reading t_isRead t_readSum t_readMany t_spanLow t_spanHigh t_weldLine t_weldPull t_welds t_orderOf t_bestOrder t_smithOf t_bestSmith t_busy) (w_X12 cI cC cZ tq0 tq1 tq2 tq3 tq4 tq5 tq6 tq7 tq8 tq9 tq10 tq11 tq12 tq13 tq14 tq15 tq16 tq17 tq18 tq19 tq20 tq21 tq22 tq23 tq24 t_signs t_signMany t_lineOf t_strengthOf t_waterOf t_backOf t_passes t_tried t_table t_numbers o.2 t_wished t_itemLine t_itemStrength t_itemWater t_itemBack t_items t_worstThen t_reading t_isRead t_readSum t_readMany t_spanLow t_spanHigh t_weldLine t_weldPull t_welds t_orderOf t_bestOrder t_smithOf t_bestSmith t_busy) (some (.int o.1)) := by
  refine Ctr.of (by decide) (Nat.le_of_ble_eq_true rfl) ?_
  intro p e s m args below meth c ls A Q hA hQ C hl hw
  have hx := C.1
  have hb := C.2.1
  have hl : lv_has ls 2 [(0, .ref tq0), (1, .int x1)] := hl
  refine lv_aload_n hx hb (dc d_X12_worstBy 0 rfl) rfl (lv_at hl 0 rfl) ?_
  refine lv_iload_n hx hb (dc d_X12_worstBy 1 rfl) rfl (lv_at hl 1 rfl) ?_
  obtain ⟨q1, hq1, hf⟩ := g_bd hf
  refine x_callVa C hw mb_X12_findBends mv_X12_findBends ml_X12_148 (k_X12_findBends n hq1) hl.1 rfl rfl rfl 0 12 rfl rfl (Nat.le_of_ble_eq_true rfl) (Nat.le_of_ble_eq_true rfl) (Nat.le_of_ble_eq_true rfl) (dc d_X12_worstBy 2 rfl) (fun H locs hw => ?_)
  refine W.eq (g2 := F0 m 5 ls []) rfl ?_
  have hw : Wd D A s.heap (w_X12 cI cC cZ tq0 tq1 tq2 tq3 tq4 tq5 tq6 tq7 tq8 tq9 tq10 tq11 tq12 tq13 tq14 tq15 tq16 tq17 tq18 tq19 tq20 tq21 tq22 tq23 tq24 t_signs t_signMany t_lineOf t_strengthOf t_waterOf t_backOf t_passes t_tried t_table t_numbers q1 t_wished t_itemLine t_itemStrength t_itemWater t_itemBack t_items t_worstThen t_reading t_isRead t_readSum t_readMany t_spanLow t_spanHigh t_weldLine t_weldPull t_welds t_orderOf t_bestOrder t_smithOf t_bestSmith t_busy) H locs := hw
  refine lv_aload_n hx hb (dc d_X12_worstBy 3 rfl) rfl (lv_at hl 0 rfl) ?_
  obtain ⟨q2, hq2, hf⟩ := g_bd hf
  refine x_callVa C hw mb_X12_worstOf mv_X12_worstOf ml_X12_173 (k_X12_worstOf n hq2) hl.1 rfl rfl rfl 0 12 rfl rfl (Nat.le_of_ble_eq_true rfl) (Nat.le_of_ble_eq_true rfl) (Nat.le_of_ble_eq_true rfl) (dc d_X12_worstBy 4 rfl) (fun H locs hw => ?_)
  refine W.eq (g2 := F0 m 9 ls [.int q2]) rfl ?_
  have hw : Wd D A s.heap (w_X12 cI cC cZ tq0 tq1 tq2 tq3 tq4 tq5 tq6 tq7 tq8 tq9 tq10 tq11 tq12 tq13 tq14 tq15 tq16 tq17 tq18 tq19 tq20 tq21 tq22 tq23 tq24 t_signs t_signMany t_lineOf t_strengthOf t_waterOf t_backOf t_passes t_tried t_table t_numbers q1 t_wished t_itemLine t_itemStrength t_itemWater t_itemBack t_items t_worstThen t_reading t_isRead t_readSum t_readMany t_spanLow t_spanHigh t_weldLine t_weldPull t_welds t_orderOf t_bestOrder t_smithOf t_bestSmith t_busy) H locs := hw
  cases hf
  exact x_iret C hA hQ hw rfl rfl (dc d_X12_worstBy 5 rfl)
set_option maxHeartbeats 4000000 in
set_option maxRecDepth 100000 in
theorem k_X12_worst (n : Nat) {l : Launch} {D : va_G} {cI cC cZ : ClassId} {tq0 tq1 tq2 tq3 tq4 tq5 tq6 tq7 tq8 tq9 tq10 tq11 tq12 tq13 tq14 tq15 tq16 tq17 tq18 tq19 tq20 tq21 tq22 tq23 tq24 : Nat} {t_signs : Nat → Int32} {t_signMany : Int32} {t_lineOf : Nat → Int32} {t_strengthOf : Nat → Int32} {t_waterOf : Nat → Int32} {t_backOf : Nat → Int32} {t_passes : Int32} {t_tried : Int32} {t_table : Nat → Int32} {t_numbers : Nat → Int32} {t_bends : Nat → Int32} {t_wished : Nat → Int32} {t_itemLine : Nat → Int32} {t_itemStrength : Nat → Int32} {t_itemWater : Nat → Int32} {t_itemBack : Nat → Int32} {t_items : Int32} {t_worstThen : Int32} {t_reading : Nat → Int32} {t_isRead : Nat → Int32} {t_readSum : Int32} {t_readMany : Int32} {t_spanLow : Nat → Int32} {t_spanHigh : Nat → Int32} {t_weldLine : Nat → Int32} {t_weldPull : Nat → Int32} {t_welds : Int32} {t_orderOf : Nat → Int32} {t_bestOrder : Nat → Int32} {t_smithOf : Nat → Int32} {t_bestSmith : Nat → Int32} {t_busy : Nat → Int32}  {o : Int32 × (Nat → Int32)} (hf : f_X12_worst n t_lineOf t_strengthOf t_waterOf t_backOf t_passes t_table t_numbers t_bends t_wished = some o) : Ctr l yX12_worst cX12_worst 1 (some .int) 5 111 D cI cC cZ [.ref tq0] (w_X12 cI cC cZ tq0 tq1 tq2 tq3 tq4 tq5 tq6 tq7 tq8 tq9 tq10 tq11 tq12 tq13 tq14 tq15 tq16 tq17 tq18 tq19 tq20 tq21 tq22 tq23 tq24 t_signs t_signMany t_lineOf t_strengthOf t_waterOf t_backOf t_passes t_tried t_table t_numbers t_bends t_wished t_itemLine t_itemStrength t_itemWater t_itemBack t_items t_worstThen t_reading t_isRead t_readSum t_readMany t_spanLow t_spanHigh t_weldLine t_weldPull t_welds t_orderOf t_bestOrder t_smithOf t_bestSmith t_busy) (w_X12 cI cC cZ tq0 tq1 tq2 tq3 tq4 tq5 tq6 tq7 tq8 tq9 tq10 tq11 tq12 tq13 tq14 tq15 tq16 tq17 tq18 tq19 tq20 tq21 tq22 tq23 tq24 t_signs t_signMany t_lineOf t_strengthOf t_waterOf t_backOf t_passes t_tried t_table t_numbers o.2 t_wished t_itemLine t_itemStrength t_itemWater t_itemBack t_items t_worstThen t_reading t_isRead t_readSum t_readMany t_spanLow t_spanHigh t_weldLine t_weldPull t_welds t_orderOf t_bestOrder t_smithOf t_bestSmith t_busy) (some (.int o.1)) := by
  refine Ctr.of (by decide) (Nat.le_of_ble_eq_true rfl) ?_
  intro p e s m args below meth c ls A Q hA hQ C hl hw
  have hx := C.1
  have hb := C.2.1
  have hl : lv_has ls 1 [(0, .ref tq0)] := hl
  refine lv_aload_n hx hb (dc d_X12_worst 0 rfl) rfl (lv_at hl 0 rfl) ?_
  refine lv_aload_n hx hb (dc d_X12_worst 1 rfl) rfl (lv_at hl 0 rfl) ?_
  refine x_get C hw fl_X12_113 0 rfl rfl (dc d_X12_worst 2 rfl) ?_
  obtain ⟨q1, hq1, hf⟩ := g_bd hf
  refine x_callVa C hw mb_X12_worstBy mv_X12_worstBy ml_X12_176 (k_X12_worstBy n hq1) hl.1 rfl rfl rfl 0 12 rfl rfl (Nat.le_of_ble_eq_true rfl) (Nat.le_of_ble_eq_true rfl) (Nat.le_of_ble_eq_true rfl) (dc d_X12_worst 3 rfl) (fun H locs hw => ?_)
  refine W.eq (g2 := F0 m 8 ls [.int q1.1]) rfl ?_
  have hw : Wd D A s.heap (w_X12 cI cC cZ tq0 tq1 tq2 tq3 tq4 tq5 tq6 tq7 tq8 tq9 tq10 tq11 tq12 tq13 tq14 tq15 tq16 tq17 tq18 tq19 tq20 tq21 tq22 tq23 tq24 t_signs t_signMany t_lineOf t_strengthOf t_waterOf t_backOf t_passes t_tried t_table t_numbers q1.2 t_wished t_itemLine t_itemStrength t_itemWater t_itemBack t_items t_worstThen t_reading t_isRead t_readSum t_readMany t_spanLow t_spanHigh t_weldLine t_weldPull t_welds t_orderOf t_bestOrder t_smithOf t_bestSmith t_busy) H locs := hw
  cases hf
  exact x_iret C hA hQ hw rfl rfl (dc d_X12_worst 4 rfl)
set_option maxHeartbeats 4000000 in
set_option maxRecDepth 100000 in
theorem k_X12_twistAt (n : Nat) {l : Launch} {D : va_G} {cI cC cZ : ClassId} {tq0 tq1 tq2 tq3 tq4 tq5 tq6 tq7 tq8 tq9 tq10 tq11 tq12 tq13 tq14 tq15 tq16 tq17 tq18 tq19 tq20 tq21 tq22 tq23 tq24 : Nat} {t_signs : Nat → Int32} {t_signMany : Int32} {t_lineOf : Nat → Int32} {t_strengthOf : Nat → Int32} {t_waterOf : Nat → Int32} {t_backOf : Nat → Int32} {t_passes : Int32} {t_tried : Int32} {t_table : Nat → Int32} {t_numbers : Nat → Int32} {t_bends : Nat → Int32} {t_wished : Nat → Int32} {t_itemLine : Nat → Int32} {t_itemStrength : Nat → Int32} {t_itemWater : Nat → Int32} {t_itemBack : Nat → Int32} {t_items : Int32} {t_worstThen : Int32} {t_reading : Nat → Int32} {t_isRead : Nat → Int32} {t_readSum : Int32} {t_readMany : Int32} {t_spanLow : Nat → Int32} {t_spanHigh : Nat → Int32} {t_weldLine : Nat → Int32} {t_weldPull : Nat → Int32} {t_welds : Int32} {t_orderOf : Nat → Int32} {t_bestOrder : Nat → Int32} {t_smithOf : Nat → Int32} {t_bestSmith : Nat → Int32} {t_busy : Nat → Int32} {x1 : Int32} {o : Int32} (hf : f_X12_twistAt n t_wished x1 = some o) : Ctr l yX12_twistAt cX12_twistAt 2 (some .int) 0 0 D cI cC cZ [.ref tq0, .int x1] (w_X12 cI cC cZ tq0 tq1 tq2 tq3 tq4 tq5 tq6 tq7 tq8 tq9 tq10 tq11 tq12 tq13 tq14 tq15 tq16 tq17 tq18 tq19 tq20 tq21 tq22 tq23 tq24 t_signs t_signMany t_lineOf t_strengthOf t_waterOf t_backOf t_passes t_tried t_table t_numbers t_bends t_wished t_itemLine t_itemStrength t_itemWater t_itemBack t_items t_worstThen t_reading t_isRead t_readSum t_readMany t_spanLow t_spanHigh t_weldLine t_weldPull t_welds t_orderOf t_bestOrder t_smithOf t_bestSmith t_busy) (w_X12 cI cC cZ tq0 tq1 tq2 tq3 tq4 tq5 tq6 tq7 tq8 tq9 tq10 tq11 tq12 tq13 tq14 tq15 tq16 tq17 tq18 tq19 tq20 tq21 tq22 tq23 tq24 t_signs t_signMany t_lineOf t_strengthOf t_waterOf t_backOf t_passes t_tried t_table t_numbers t_bends t_wished t_itemLine t_itemStrength t_itemWater t_itemBack t_items t_worstThen t_reading t_isRead t_readSum t_readMany t_spanLow t_spanHigh t_weldLine t_weldPull t_welds t_orderOf t_bestOrder t_smithOf t_bestSmith t_busy) (some (.int o)) := by
  refine Ctr.of (by decide) (Nat.le_of_ble_eq_true rfl) ?_
  intro p e s m args below meth c ls A Q hA hQ C hl hw
  have hx := C.1
  have hb := C.2.1
  have hl : lv_has ls 2 [(0, .ref tq0), (1, .int x1)] := hl
  refine lv_aload_n hx hb (dc d_X12_twistAt 0 rfl) rfl (lv_at hl 0 rfl) ?_
  refine x_get C hw fl_X12_34 0 rfl rfl (dc d_X12_twistAt 1 rfl) ?_
  refine lv_iload_n hx hb (dc d_X12_twistAt 2 rfl) rfl (lv_at hl 1 rfl) ?_
  have hi := grd_b hf
  have hf := grd_x hf
  refine x_iald C hw 9 rfl hi (dc d_X12_twistAt 3 rfl) ?_
  refine lv_aload_n hx hb (dc d_X12_twistAt 4 rfl) rfl (lv_at hl 0 rfl) ?_
  refine x_get C hw fl_X12_34 0 rfl rfl (dc d_X12_twistAt 5 rfl) ?_
  refine lv_iload_n hx hb (dc d_X12_twistAt 6 rfl) rfl (lv_at hl 1 rfl) ?_
  refine lv_iconst (v := (1 : Int32)) hx hb (dc d_X12_twistAt 7 rfl) (by decide) ?_
  refine lv_iadd hx hb (dc d_X12_twistAt 8 rfl) ?_
  have hi := grd_b hf
  have hf := grd_x hf
  refine x_iald C hw 9 rfl hi (dc d_X12_twistAt 9 rfl) ?_
  refine lv_isub hx hb (dc d_X12_twistAt 10 rfl) ?_
  refine lv_aload_n hx hb (dc d_X12_twistAt 11 rfl) rfl (lv_at hl 0 rfl) ?_
  refine x_get C hw fl_X12_34 0 rfl rfl (dc d_X12_twistAt 12 rfl) ?_
  refine lv_iload_n hx hb (dc d_X12_twistAt 13 rfl) rfl (lv_at hl 1 rfl) ?_
  refine lv_bipush (v := (6 : Int32)) hx hb (dc d_X12_twistAt 14 rfl) (by decide) ?_
  refine lv_iadd hx hb (dc d_X12_twistAt 15 rfl) ?_
  have hi := grd_b hf
  have hf := grd_x hf
  refine x_iald C hw 9 rfl hi (dc d_X12_twistAt 16 rfl) ?_
  refine lv_isub hx hb (dc d_X12_twistAt 17 rfl) ?_
  refine lv_aload_n hx hb (dc d_X12_twistAt 18 rfl) rfl (lv_at hl 0 rfl) ?_
  refine x_get C hw fl_X12_34 0 rfl rfl (dc d_X12_twistAt 19 rfl) ?_
  refine lv_iload_n hx hb (dc d_X12_twistAt 20 rfl) rfl (lv_at hl 1 rfl) ?_
  refine lv_bipush (v := (7 : Int32)) hx hb (dc d_X12_twistAt 21 rfl) (by decide) ?_
  refine lv_iadd hx hb (dc d_X12_twistAt 22 rfl) ?_
  have hi := grd_b hf
  have hf := grd_x hf
  refine x_iald C hw 9 rfl hi (dc d_X12_twistAt 23 rfl) ?_
  refine lv_iadd hx hb (dc d_X12_twistAt 24 rfl) ?_
  cases hf
  exact x_iret C hA hQ hw rfl rfl (dc d_X12_twistAt 25 rfl)
set_option maxHeartbeats 4000000 in
set_option maxRecDepth 100000 in
theorem k_X12_isField (n : Nat) {l : Launch} {D : va_G} {cI cC cZ : ClassId}   {x0 : Int32} {o : Int32} (hf : f_X12_isField n x0 = some o) : Ctr l yX12_isField cX12_isField 1 (some .boolean) 2 45 D cI cC cZ [.int x0] [] [] (some (.int o)) := by
  refine Ctr.of (by decide) (Nat.le_of_ble_eq_true rfl) ?_
  intro p e s m args below meth c ls A Q hA hQ C hl hw
  have hx := C.1
  have hb := C.2.1
  have hl : lv_has ls 1 [(0, .int x0)] := hl
  refine lv_iload_n hx hb (dc d_X12_isField 0 rfl) rfl (lv_at hl 0 rfl) ?_
  obtain ⟨q1, hq1, hf⟩ := g_bd hf
  refine x_callS C hw mb_X12_isCorner ms_X12_isCorner ml_X12_152 (k_X12_isCorner n hq1) hl.1 rfl rfl [] rfl rfl rfl (Nat.le_of_ble_eq_true rfl) (Nat.le_of_ble_eq_true rfl) (Nat.le_of_ble_eq_true rfl) (dc d_X12_isField 1 rfl) (fun H locs hw => ?_)
  refine W.eq (g2 := F0 m 4 ls [.int q1]) rfl ?_
  have hw : Wd D A s.heap [] H locs := hw
  refine lv_if_eq (tgt := 27) hx hb (dc d_X12_isField 2 rfl) (by decide) (fun c2 => ?_) (fun c2 => ?_)
  · have hf := g_t hf c2
    refine lv_iconst (v := (0 : Int32)) hx hb (dc d_X12_isField 15 rfl) (by decide) ?_
    cases hf
    exact x_zret C hA hQ hw rfl rfl (by decide) (dc d_X12_isField 16 rfl)
  · have hf := g_f hf c2
    refine lv_iload_n hx hb (dc d_X12_isField 3 rfl) rfl (lv_at hl 0 rfl) ?_
    refine lv_bipush (v := (6 : Int32)) hx hb (dc d_X12_isField 4 rfl) (by decide) ?_
    refine x_rem hx hb (dc d_X12_isField 5 rfl) (by decide) ?_
    refine lv_iconst (v := (5 : Int32)) hx hb (dc d_X12_isField 6 rfl) (by decide) ?_
    refine lv_icmp_ge (tgt := 27) hx hb (dc d_X12_isField 7 rfl) (by decide) (fun c3 => ?_) (fun c3 => ?_)
    · have hf := g_t hf c3
      refine lv_iconst (v := (0 : Int32)) hx hb (dc d_X12_isField 15 rfl) (by decide) ?_
      cases hf
      exact x_zret C hA hQ hw rfl rfl (by decide) (dc d_X12_isField 16 rfl)
    · have hf := g_f hf c3
      refine lv_iload_n hx hb (dc d_X12_isField 8 rfl) rfl (lv_at hl 0 rfl) ?_
      refine lv_bipush (v := (6 : Int32)) hx hb (dc d_X12_isField 9 rfl) (by decide) ?_
      refine x_div hx hb (dc d_X12_isField 10 rfl) (by decide) ?_
      refine lv_iconst (v := (5 : Int32)) hx hb (dc d_X12_isField 11 rfl) (by decide) ?_
      refine lv_icmp_ge (tgt := 27) hx hb (dc d_X12_isField 12 rfl) (by decide) (fun c4 => ?_) (fun c4 => ?_)
      · have hf := g_t hf c4
        refine lv_iconst (v := (0 : Int32)) hx hb (dc d_X12_isField 15 rfl) (by decide) ?_
        cases hf
        exact x_zret C hA hQ hw rfl rfl (by decide) (dc d_X12_isField 16 rfl)
      · have hf := g_f hf c4
        refine lv_iconst (v := (1 : Int32)) hx hb (dc d_X12_isField 13 rfl) (by decide) ?_
        refine lv_goto (tgt := 28) hx hb (dc d_X12_isField 14 rfl) (by decide) ?_
        cases hf
        exact x_zret C hA hQ hw rfl rfl (by decide) (dc d_X12_isField 16 rfl)
set_option maxHeartbeats 4000000 in
set_option maxRecDepth 100000 in
theorem k_X12_twist (n : Nat) {l : Launch} {D : va_G} {cI cC cZ : ClassId} {tq0 tq1 tq2 tq3 tq4 tq5 tq6 tq7 tq8 tq9 tq10 tq11 tq12 tq13 tq14 tq15 tq16 tq17 tq18 tq19 tq20 tq21 tq22 tq23 tq24 : Nat} {t_signs : Nat → Int32} {t_signMany : Int32} {t_lineOf : Nat → Int32} {t_strengthOf : Nat → Int32} {t_waterOf : Nat → Int32} {t_backOf : Nat → Int32} {t_passes : Int32} {t_tried : Int32} {t_table : Nat → Int32} {t_numbers : Nat → Int32} {t_bends : Nat → Int32} {t_wished : Nat → Int32} {t_itemLine : Nat → Int32} {t_itemStrength : Nat → Int32} {t_itemWater : Nat → Int32} {t_itemBack : Nat → Int32} {t_items : Int32} {t_worstThen : Int32} {t_reading : Nat → Int32} {t_isRead : Nat → Int32} {t_readSum : Int32} {t_readMany : Int32} {t_spanLow : Nat → Int32} {t_spanHigh : Nat → Int32} {t_weldLine : Nat → Int32} {t_weldPull : Nat → Int32} {t_welds : Int32} {t_orderOf : Nat → Int32} {t_bestOrder : Nat → Int32} {t_smithOf : Nat → Int32} {t_bestSmith : Nat → Int32} {t_busy : Nat → Int32} {x1 : Int32} {o : Int32} (hf : f_X12_twist n t_wished x1 = some o) : Ctr l yX12_twist cX12_twist 2 (some .int) 3 65 D cI cC cZ [.ref tq0, .int x1] (w_X12 cI cC cZ tq0 tq1 tq2 tq3 tq4 tq5 tq6 tq7 tq8 tq9 tq10 tq11 tq12 tq13 tq14 tq15 tq16 tq17 tq18 tq19 tq20 tq21 tq22 tq23 tq24 t_signs t_signMany t_lineOf t_strengthOf t_waterOf t_backOf t_passes t_tried t_table t_numbers t_bends t_wished t_itemLine t_itemStrength t_itemWater t_itemBack t_items t_worstThen t_reading t_isRead t_readSum t_readMany t_spanLow t_spanHigh t_weldLine t_weldPull t_welds t_orderOf t_bestOrder t_smithOf t_bestSmith t_busy) (w_X12 cI cC cZ tq0 tq1 tq2 tq3 tq4 tq5 tq6 tq7 tq8 tq9 tq10 tq11 tq12 tq13 tq14 tq15 tq16 tq17 tq18 tq19 tq20 tq21 tq22 tq23 tq24 t_signs t_signMany t_lineOf t_strengthOf t_waterOf t_backOf t_passes t_tried t_table t_numbers t_bends t_wished t_itemLine t_itemStrength t_itemWater t_itemBack t_items t_worstThen t_reading t_isRead t_readSum t_readMany t_spanLow t_spanHigh t_weldLine t_weldPull t_welds t_orderOf t_bestOrder t_smithOf t_bestSmith t_busy) (some (.int o)) := by
  refine Ctr.of (by decide) (Nat.le_of_ble_eq_true rfl) ?_
  intro p e s m args below meth c ls A Q hA hQ C hl hw
  have hx := C.1
  have hb := C.2.1
  have hl : lv_has ls 2 [(0, .ref tq0), (1, .int x1)] := hl
  refine lv_iload_n hx hb (dc d_X12_twist 0 rfl) rfl (lv_at hl 1 rfl) ?_
  obtain ⟨q1, hq1, hf⟩ := g_bd hf
  refine x_callS C hw mb_X12_isField ms_X12_isField ml_X12_179 (k_X12_isField n hq1) hl.1 rfl rfl [] rfl rfl rfl (Nat.le_of_ble_eq_true rfl) (Nat.le_of_ble_eq_true rfl) (Nat.le_of_ble_eq_true rfl) (dc d_X12_twist 1 rfl) (fun H locs hw => ?_)
  refine W.eq (g2 := F0 m 4 ls [.int q1]) rfl ?_
  have hw : Wd D A s.heap (w_X12 cI cC cZ tq0 tq1 tq2 tq3 tq4 tq5 tq6 tq7 tq8 tq9 tq10 tq11 tq12 tq13 tq14 tq15 tq16 tq17 tq18 tq19 tq20 tq21 tq22 tq23 tq24 t_signs t_signMany t_lineOf t_strengthOf t_waterOf t_backOf t_passes t_tried t_table t_numbers t_bends t_wished t_itemLine t_itemStrength t_itemWater t_itemBack t_items t_worstThen t_reading t_isRead t_readSum t_readMany t_spanLow t_spanHigh t_weldLine t_weldPull t_welds t_orderOf t_bestOrder t_smithOf t_bestSmith t_busy) H locs := hw
  refine lv_if_eq (tgt := 15) hx hb (dc d_X12_twist 2 rfl) (by decide) (fun c2 => ?_) (fun c2 => ?_)
  · have hf := g_t hf c2
    refine x_ldc (v := (-2000000001 : Int32)) C cn_X12_147 (dc d_X12_twist 7 rfl) ?_
    cases hf
    exact x_iret C hA hQ hw rfl rfl (dc d_X12_twist 8 rfl)
  · have hf := g_f hf c2
    refine lv_aload_n hx hb (dc d_X12_twist 3 rfl) rfl (lv_at hl 0 rfl) ?_
    refine lv_iload_n hx hb (dc d_X12_twist 4 rfl) rfl (lv_at hl 1 rfl) ?_
    obtain ⟨q3, hq3, hf⟩ := g_bd hf
    refine x_callVa C hw mb_X12_twistAt mv_X12_twistAt ml_X12_182 (k_X12_twistAt n hq3) hl.1 rfl rfl rfl 0 12 rfl rfl (Nat.le_of_ble_eq_true rfl) (Nat.le_of_ble_eq_true rfl) (Nat.le_of_ble_eq_true rfl) (dc d_X12_twist 5 rfl) (fun H locs hw => ?_)
    refine W.eq (g2 := F0 m 12 ls [.int q3]) rfl ?_
    have hw : Wd D A s.heap (w_X12 cI cC cZ tq0 tq1 tq2 tq3 tq4 tq5 tq6 tq7 tq8 tq9 tq10 tq11 tq12 tq13 tq14 tq15 tq16 tq17 tq18 tq19 tq20 tq21 tq22 tq23 tq24 t_signs t_signMany t_lineOf t_strengthOf t_waterOf t_backOf t_passes t_tried t_table t_numbers t_bends t_wished t_itemLine t_itemStrength t_itemWater t_itemBack t_items t_worstThen t_reading t_isRead t_readSum t_readMany t_spanLow t_spanHigh t_weldLine t_weldPull t_welds t_orderOf t_bestOrder t_smithOf t_bestSmith t_busy) H locs := hw
    refine lv_goto (tgt := 17) hx hb (dc d_X12_twist 6 rfl) (by decide) ?_
    cases hf
    exact x_iret C hA hQ hw rfl rfl (dc d_X12_twist 8 rfl)
set_option maxHeartbeats 4000000 in
set_option maxRecDepth 100000 in
theorem k_X12_bound (n : Nat) {l : Launch} {D : va_G} {cI cC cZ : ClassId} {tq0 tq1 tq2 tq3 tq4 tq5 tq6 tq7 tq8 tq9 tq10 tq11 tq12 tq13 tq14 tq15 tq16 tq17 tq18 tq19 tq20 tq21 tq22 tq23 tq24 : Nat} {t_signs : Nat → Int32} {t_signMany : Int32} {t_lineOf : Nat → Int32} {t_strengthOf : Nat → Int32} {t_waterOf : Nat → Int32} {t_backOf : Nat → Int32} {t_passes : Int32} {t_tried : Int32} {t_table : Nat → Int32} {t_numbers : Nat → Int32} {t_bends : Nat → Int32} {t_wished : Nat → Int32} {t_itemLine : Nat → Int32} {t_itemStrength : Nat → Int32} {t_itemWater : Nat → Int32} {t_itemBack : Nat → Int32} {t_items : Int32} {t_worstThen : Int32} {t_reading : Nat → Int32} {t_isRead : Nat → Int32} {t_readSum : Int32} {t_readMany : Int32} {t_spanLow : Nat → Int32} {t_spanHigh : Nat → Int32} {t_weldLine : Nat → Int32} {t_weldPull : Nat → Int32} {t_welds : Int32} {t_orderOf : Nat → Int32} {t_bestOrder : Nat → Int32} {t_smithOf : Nat → Int32} {t_bestSmith : Nat → Int32} {t_busy : Nat → Int32}  {o : Int32} (hf : f_X12_bound n t_wished = some o) : Ctr l yX12_bound cX12_bound 4 (some .int) 3 65 D cI cC cZ [.ref tq0] (w_X12 cI cC cZ tq0 tq1 tq2 tq3 tq4 tq5 tq6 tq7 tq8 tq9 tq10 tq11 tq12 tq13 tq14 tq15 tq16 tq17 tq18 tq19 tq20 tq21 tq22 tq23 tq24 t_signs t_signMany t_lineOf t_strengthOf t_waterOf t_backOf t_passes t_tried t_table t_numbers t_bends t_wished t_itemLine t_itemStrength t_itemWater t_itemBack t_items t_worstThen t_reading t_isRead t_readSum t_readMany t_spanLow t_spanHigh t_weldLine t_weldPull t_welds t_orderOf t_bestOrder t_smithOf t_bestSmith t_busy) (w_X12 cI cC cZ tq0 tq1 tq2 tq3 tq4 tq5 tq6 tq7 tq8 tq9 tq10 tq11 tq12 tq13 tq14 tq15 tq16 tq17 tq18 tq19 tq20 tq21 tq22 tq23 tq24 t_signs t_signMany t_lineOf t_strengthOf t_waterOf t_backOf t_passes t_tried t_table t_numbers t_bends t_wished t_itemLine t_itemStrength t_itemWater t_itemBack t_items t_worstThen t_reading t_isRead t_readSum t_readMany t_spanLow t_spanHigh t_weldLine t_weldPull t_welds t_orderOf t_bestOrder t_smithOf t_bestSmith t_busy) (some (.int o)) := by
  refine Ctr.of (by decide) (Nat.le_of_ble_eq_true rfl) ?_
  intro p e s m args below meth c ls A Q hA hQ C hl hw
  have hx := C.1
  have hb := C.2.1
  have hl : lv_has ls 4 [(0, .ref tq0)] := hl
  have L29 : ∀ (k4 : (Int32) → (Int32) → Option (Int32)), (∀ (v1 : Int32) (v2 : Int32) (H : Heap) (locs : List Loc) (ls : Array Slot), Wd D A s.heap (w_X12 cI cC cZ tq0 tq1 tq2 tq3 tq4 tq5 tq6 tq7 tq8 tq9 tq10 tq11 tq12 tq13 tq14 tq15 tq16 tq17 tq18 tq19 tq20 tq21 tq22 tq23 tq24 t_signs t_signMany t_lineOf t_strengthOf t_waterOf t_backOf t_passes t_tried t_table t_numbers t_bends t_wished t_itemLine t_itemStrength t_itemWater t_itemBack t_items t_worstThen t_reading t_isRead t_readSum t_readMany t_spanLow t_spanHigh t_weldLine t_weldPull t_welds t_orderOf t_bestOrder t_smithOf t_bestSmith t_busy) H locs → lv_has ls 4 [(0, .ref tq0), (1, .int v1), (2, .int v2)] → k4 v1 v2 = some o → W p l e (rmOf 3 65) s m args below meth c H locs 0 0 Q (F0 m 4 ls [])) → ∀ (n : Nat), ∀ (v1 : Int32) (v2 : Int32) (s0 : Int32) (H : Heap) (locs : List Loc) (ls : Array Slot), Wd D A s.heap (w_X12 cI cC cZ tq0 tq1 tq2 tq3 tq4 tq5 tq6 tq7 tq8 tq9 tq10 tq11 tq12 tq13 tq14 tq15 tq16 tq17 tq18 tq19 tq20 tq21 tq22 tq23 tq24 t_signs t_signMany t_lineOf t_strengthOf t_waterOf t_backOf t_passes t_tried t_table t_numbers t_bends t_wished t_itemLine t_itemStrength t_itemWater t_itemBack t_items t_worstThen t_reading t_isRead t_readSum t_readMany t_spanLow t_spanHigh t_weldLine t_weldPull t_welds t_orderOf t_bestOrder t_smithOf t_bestSmith t_busy) H locs → lv_has ls 4 [(0, .ref tq0), (1, .int v1), (2, .int v2)] → f_X12_bound_29 t_wished k4 n v1 v2 s0 = some o → W p l e (rmOf 3 65) s m args below meth c H locs 0 0 Q (F0 m 29 ls [.int s0]) := by
    intro k4 H4 n v1 v2 s0 H locs ls hw hl hf
    refine lv_istore_n (lv' := [(3, .int s0), (0, .ref tq0), (1, .int v1), (2, .int v2)]) hx hb (dc d_X12_bound 16 rfl) rfl hl (by decide) rfl (fun ls hl => ?_)
    refine lv_iload_n hx hb (dc d_X12_bound 17 rfl) rfl (lv_at hl 0 rfl) ?_
    refine lv_iload_n hx hb (dc d_X12_bound 18 rfl) rfl (lv_at hl 2 rfl) ?_
    refine lv_icmp_le (tgt := 39) hx hb (dc d_X12_bound 19 rfl) (by decide) (fun c6 => ?_) (fun c6 => ?_)
    · have hf := g_t hf c6
      refine lv_iload_n hx hb (dc d_X12_bound 22 rfl) rfl (lv_at hl 2 rfl) ?_
      refine lv_istore_n (lv' := [(1, .int v1), (3, .int s0), (0, .ref tq0), (2, .int v2)]) hx hb (dc d_X12_bound 23 rfl) rfl hl (by decide) rfl (fun ls hl => ?_)
      refine lv_iinc (v := (v2 + (1 : Int32))) (lv' := [(2, .int (v2 + (1 : Int32))), (1, .int v1), (3, .int s0), (0, .ref tq0)]) hx hb (dc d_X12_bound 24 rfl) hl (k := 3) rfl (ii (by decide)) (by decide) rfl (fun ls hl => ?_)
      refine lv_goto (tgt := 4) hx hb (dc d_X12_bound 25 rfl) (by decide) ?_
      exact H4 v1 (v2 + (1 : Int32)) _ _ _ hw (lv_sub hl [3, 1, 0] rfl) hf
    · have hf := g_f hf c6
      refine lv_iload_n hx hb (dc d_X12_bound 20 rfl) rfl (lv_at hl 0 rfl) ?_
      refine lv_goto (tgt := 40) hx hb (dc d_X12_bound 21 rfl) (by decide) ?_
      refine lv_istore_n (lv' := [(1, .int s0), (3, .int s0), (0, .ref tq0), (2, .int v2)]) hx hb (dc d_X12_bound 23 rfl) rfl hl (by decide) rfl (fun ls hl => ?_)
      refine lv_iinc (v := (v2 + (1 : Int32))) (lv' := [(2, .int (v2 + (1 : Int32))), (1, .int s0), (3, .int s0), (0, .ref tq0)]) hx hb (dc d_X12_bound 24 rfl) hl (k := 3) rfl (ii (by decide)) (by decide) rfl (fun ls hl => ?_)
      refine lv_goto (tgt := 4) hx hb (dc d_X12_bound 25 rfl) (by decide) ?_
      exact H4 s0 (v2 + (1 : Int32)) _ _ _ hw (lv_sub hl [3, 1, 0] rfl) hf
  have L4 : ∀ (n : Nat), ∀ (v1 : Int32) (v2 : Int32) (H : Heap) (locs : List Loc) (ls : Array Slot), Wd D A s.heap (w_X12 cI cC cZ tq0 tq1 tq2 tq3 tq4 tq5 tq6 tq7 tq8 tq9 tq10 tq11 tq12 tq13 tq14 tq15 tq16 tq17 tq18 tq19 tq20 tq21 tq22 tq23 tq24 t_signs t_signMany t_lineOf t_strengthOf t_waterOf t_backOf t_passes t_tried t_table t_numbers t_bends t_wished t_itemLine t_itemStrength t_itemWater t_itemBack t_items t_worstThen t_reading t_isRead t_readSum t_readMany t_spanLow t_spanHigh t_weldLine t_weldPull t_welds t_orderOf t_bestOrder t_smithOf t_bestSmith t_busy) H locs → lv_has ls 4 [(0, .ref tq0), (1, .int v1), (2, .int v2)] → f_X12_bound_4 t_wished  n v1 v2 = some o → W p l e (rmOf 3 65) s m args below meth c H locs 0 0 Q (F0 m 4 ls []) := by
    intro  n
    induction n with
    | zero => intro v1 v2 H locs ls hw hl hf; exact (no_none hf).elim
    | succ n ih =>
      intro v1 v2 H locs ls hw hl hf
      have hf : f_X12_bound_4b t_wished  (f_X12_bound_4 t_wished  n) n v1 v2 = some o := hf
      generalize f_X12_bound_4 t_wished  n = k4 at hf ih
      refine lv_iload_n hx hb (dc d_X12_bound 4 rfl) rfl (lv_at hl 2 rfl) ?_
      refine lv_bipush (v := (36 : Int32)) hx hb (dc d_X12_bound 5 rfl) (by decide) ?_
      refine lv_icmp_ge (tgt := 47) hx hb (dc d_X12_bound 6 rfl) (by decide) (fun c1 => ?_) (fun c1 => ?_)
      · have hf := g_t hf c1
        refine lv_iconst (v := (5 : Int32)) hx hb (dc d_X12_bound 26 rfl) (by decide) ?_
        refine lv_iload_n hx hb (dc d_X12_bound 27 rfl) rfl (lv_at hl 1 rfl) ?_
        refine lv_imul hx hb (dc d_X12_bound 28 rfl) ?_
        refine lv_iconst (v := (3 : Int32)) hx hb (dc d_X12_bound 29 rfl) (by decide) ?_
        refine lv_iadd hx hb (dc d_X12_bound 30 rfl) ?_
        refine lv_iconst (v := (4 : Int32)) hx hb (dc d_X12_bound 31 rfl) (by decide) ?_
        refine x_div hx hb (dc d_X12_bound 32 rfl) (by decide) ?_
        cases hf
        exact x_iret C hA hQ hw rfl rfl (dc d_X12_bound 33 rfl)
      · have hf := g_f hf c1
        refine lv_iload_n hx hb (dc d_X12_bound 7 rfl) rfl (lv_at hl 2 rfl) ?_
        obtain ⟨q2, hq2, hf⟩ := g_bd hf
        refine x_callS C hw mb_X12_isField ms_X12_isField ml_X12_179 (k_X12_isField n hq2) hl.1 rfl rfl [] rfl rfl rfl (Nat.le_of_ble_eq_true rfl) (Nat.le_of_ble_eq_true rfl) (Nat.le_of_ble_eq_true rfl) (dc d_X12_bound 8 rfl) (fun H locs hw => ?_)
        refine W.eq (g2 := F0 m 14 ls [.int q2]) rfl ?_
        have hw : Wd D A s.heap (w_X12 cI cC cZ tq0 tq1 tq2 tq3 tq4 tq5 tq6 tq7 tq8 tq9 tq10 tq11 tq12 tq13 tq14 tq15 tq16 tq17 tq18 tq19 tq20 tq21 tq22 tq23 tq24 t_signs t_signMany t_lineOf t_strengthOf t_waterOf t_backOf t_passes t_tried t_table t_numbers t_bends t_wished t_itemLine t_itemStrength t_itemWater t_itemBack t_items t_worstThen t_reading t_isRead t_readSum t_readMany t_spanLow t_spanHigh t_weldLine t_weldPull t_welds t_orderOf t_bestOrder t_smithOf t_bestSmith t_busy) H locs := hw
        refine lv_if_eq (tgt := 28) hx hb (dc d_X12_bound 9 rfl) (by decide) (fun c3 => ?_) (fun c3 => ?_)
        · have hf := g_t hf c3
          refine lv_iconst (v := (0 : Int32)) hx hb (dc d_X12_bound 15 rfl) (by decide) ?_
          exact L29 k4 ih n v1 v2 (0 : Int32) _ _ _ hw (lv_sub hl [0, 1, 2] rfl) hf
        · have hf := g_f hf c3
          refine lv_aload_n hx hb (dc d_X12_bound 10 rfl) rfl (lv_at hl 0 rfl) ?_
          refine lv_iload_n hx hb (dc d_X12_bound 11 rfl) rfl (lv_at hl 2 rfl) ?_
          obtain ⟨q4, hq4, hf⟩ := g_bd hf
          refine x_callVa C hw mb_X12_twistAt mv_X12_twistAt ml_X12_182 (k_X12_twistAt n hq4) hl.1 rfl rfl rfl 0 12 rfl rfl (Nat.le_of_ble_eq_true rfl) (Nat.le_of_ble_eq_true rfl) (Nat.le_of_ble_eq_true rfl) (dc d_X12_bound 12 rfl) (fun H locs hw => ?_)
          refine W.eq (g2 := F0 m 22 ls [.int q4]) rfl ?_
          have hw : Wd D A s.heap (w_X12 cI cC cZ tq0 tq1 tq2 tq3 tq4 tq5 tq6 tq7 tq8 tq9 tq10 tq11 tq12 tq13 tq14 tq15 tq16 tq17 tq18 tq19 tq20 tq21 tq22 tq23 tq24 t_signs t_signMany t_lineOf t_strengthOf t_waterOf t_backOf t_passes t_tried t_table t_numbers t_bends t_wished t_itemLine t_itemStrength t_itemWater t_itemBack t_items t_worstThen t_reading t_isRead t_readSum t_readMany t_spanLow t_spanHigh t_weldLine t_weldPull t_welds t_orderOf t_bestOrder t_smithOf t_bestSmith t_busy) H locs := hw
          obtain ⟨q5, hq5, hf⟩ := g_bd hf
          refine x_callS C hw mb_X12_size ms_X12_size ml_X12_119 (k_X12_size n hq5) hl.1 rfl rfl [] rfl rfl rfl (Nat.le_of_ble_eq_true rfl) (Nat.le_of_ble_eq_true rfl) (Nat.le_of_ble_eq_true rfl) (dc d_X12_bound 13 rfl) (fun H locs hw => ?_)
          refine W.eq (g2 := F0 m 25 ls [.int q5]) rfl ?_
          have hw : Wd D A s.heap (w_X12 cI cC cZ tq0 tq1 tq2 tq3 tq4 tq5 tq6 tq7 tq8 tq9 tq10 tq11 tq12 tq13 tq14 tq15 tq16 tq17 tq18 tq19 tq20 tq21 tq22 tq23 tq24 t_signs t_signMany t_lineOf t_strengthOf t_waterOf t_backOf t_passes t_tried t_table t_numbers t_bends t_wished t_itemLine t_itemStrength t_itemWater t_itemBack t_items t_worstThen t_reading t_isRead t_readSum t_readMany t_spanLow t_spanHigh t_weldLine t_weldPull t_welds t_orderOf t_bestOrder t_smithOf t_bestSmith t_busy) H locs := hw
          refine lv_goto (tgt := 29) hx hb (dc d_X12_bound 14 rfl) (by decide) ?_
          exact L29 k4 ih n v1 v2 q5 _ _ _ hw (lv_sub hl [0, 1, 2] rfl) hf
  refine lv_iconst (v := (0 : Int32)) hx hb (dc d_X12_bound 0 rfl) (by decide) ?_
  refine lv_istore_n (lv' := [(1, .int (0 : Int32)), (0, .ref tq0)]) hx hb (dc d_X12_bound 1 rfl) rfl hl (by decide) rfl (fun ls hl => ?_)
  refine lv_iconst (v := (0 : Int32)) hx hb (dc d_X12_bound 2 rfl) (by decide) ?_
  refine lv_istore_n (lv' := [(2, .int (0 : Int32)), (1, .int (0 : Int32)), (0, .ref tq0)]) hx hb (dc d_X12_bound 3 rfl) rfl hl (by decide) rfl (fun ls hl => ?_)
  exact L4  n (0 : Int32) (0 : Int32) _ _ _ hw (lv_sub hl [2, 1, 0] rfl) hf
set_option maxHeartbeats 4000000 in
set_option maxRecDepth 100000 in
theorem k_X12_item (n : Nat) {l : Launch} {D : va_G} {cI cC cZ : ClassId} {tq0 tq1 tq2 tq3 tq4 tq5 tq6 tq7 tq8 tq9 tq10 tq11 tq12 tq13 tq14 tq15 tq16 tq17 tq18 tq19 tq20 tq21 tq22 tq23 tq24 : Nat} {t_signs : Nat → Int32} {t_signMany : Int32} {t_lineOf : Nat → Int32} {t_strengthOf : Nat → Int32} {t_waterOf : Nat → Int32} {t_backOf : Nat → Int32} {t_passes : Int32} {t_tried : Int32} {t_table : Nat → Int32} {t_numbers : Nat → Int32} {t_bends : Nat → Int32} {t_wished : Nat → Int32} {t_itemLine : Nat → Int32} {t_itemStrength : Nat → Int32} {t_itemWater : Nat → Int32} {t_itemBack : Nat → Int32} {t_items : Int32} {t_worstThen : Int32} {t_reading : Nat → Int32} {t_isRead : Nat → Int32} {t_readSum : Int32} {t_readMany : Int32} {t_spanLow : Nat → Int32} {t_spanHigh : Nat → Int32} {t_weldLine : Nat → Int32} {t_weldPull : Nat → Int32} {t_welds : Int32} {t_orderOf : Nat → Int32} {t_bestOrder : Nat → Int32} {t_smithOf : Nat → Int32} {t_bestSmith : Nat → Int32} {t_busy : Nat → Int32} {x1 : Int32} {x2 : Int32} {x3 : Int32} {x4 : Int32} {o : Int32 × (Nat → Int32) × (Nat → Int32) × (Nat → Int32) × (Nat → Int32) × Int32} (hf : f_X12_item n t_itemLine t_itemStrength t_itemWater t_itemBack t_items x1 x2 x3 x4 = some o) : Ctr l yX12_item cX12_item 5 (some .int) 2 45 D cI cC cZ [.ref tq0, .int x1, .int x2, .int x3, .int x4] (w_X12 cI cC cZ tq0 tq1 tq2 tq3 tq4 tq5 tq6 tq7 tq8 tq9 tq10 tq11 tq12 tq13 tq14 tq15 tq16 tq17 tq18 tq19 tq20 tq21 tq22 tq23 tq24 t_signs t_signMany t_lineOf t_strengthOf t_waterOf t_backOf t_passes t_tried t_table t_numbers t_bends t_wished t_itemLine t_itemStrength t_itemWater t_itemBack t_items t_worstThen t_reading t_isRead t_readSum t_readMany t_spanLow t_spanHigh t_weldLine t_weldPull t_welds t_orderOf t_bestOrder t_smithOf t_bestSmith t_busy) (w_X12 cI cC cZ tq0 tq1 tq2 tq3 tq4 tq5 tq6 tq7 tq8 tq9 tq10 tq11 tq12 tq13 tq14 tq15 tq16 tq17 tq18 tq19 tq20 tq21 tq22 tq23 tq24 t_signs t_signMany t_lineOf t_strengthOf t_waterOf t_backOf t_passes t_tried t_table t_numbers t_bends t_wished o.2.1 o.2.2.1 o.2.2.2.1 o.2.2.2.2.1 o.2.2.2.2.2 t_worstThen t_reading t_isRead t_readSum t_readMany t_spanLow t_spanHigh t_weldLine t_weldPull t_welds t_orderOf t_bestOrder t_smithOf t_bestSmith t_busy) (some (.int o.1)) := by
  refine Ctr.of (by decide) (Nat.le_of_ble_eq_true rfl) ?_
  intro p e s m args below meth c ls A Q hA hQ C hl hw
  have hx := C.1
  have hb := C.2.1
  have hl : lv_has ls 5 [(0, .ref tq0), (1, .int x1), (2, .int x2), (3, .int x3), (4, .int x4)] := hl
  have L92 : ∀ (n : Nat), ∀ (t_itemLine : Nat → Int32) (t_itemStrength : Nat → Int32) (t_itemWater : Nat → Int32) (t_itemBack : Nat → Int32) (t_items : Int32) (s0 : Int32) (s1 : Int32) (H : Heap) (locs : List Loc) (ls : Array Slot), Wd D A s.heap (w_X12 cI cC cZ tq0 tq1 tq2 tq3 tq4 tq5 tq6 tq7 tq8 tq9 tq10 tq11 tq12 tq13 tq14 tq15 tq16 tq17 tq18 tq19 tq20 tq21 tq22 tq23 tq24 t_signs t_signMany t_lineOf t_strengthOf t_waterOf t_backOf t_passes t_tried t_table t_numbers t_bends t_wished t_itemLine t_itemStrength t_itemWater t_itemBack t_items t_worstThen t_reading t_isRead t_readSum t_readMany t_spanLow t_spanHigh t_weldLine t_weldPull t_welds t_orderOf t_bestOrder t_smithOf t_bestSmith t_busy) H locs → lv_has ls 5 [(0, .ref tq0)] → f_X12_item_92  n t_itemLine t_itemStrength t_itemWater t_itemBack t_items s0 s1 = some o → W p l e (rmOf 2 45) s m args below meth c H locs 0 0 Q (F0 m 92 ls [.int s0, .int s1, .ref tq13]) := by
    intro  n t_itemLine t_itemStrength t_itemWater t_itemBack t_items s0 s1 H locs ls hw hl hf
    have hi := grd_b hf
    have hf := grd_x hf
    refine x_iast C hw 13 rfl hi (dc d_X12_item 50 rfl) (fun H locs hw => ?_)
    dsimp only [w_X12, mix, List.set_cons_succ, List.set_cons_zero] at hw
    have hw : Wd D A s.heap (w_X12 cI cC cZ tq0 tq1 tq2 tq3 tq4 tq5 tq6 tq7 tq8 tq9 tq10 tq11 tq12 tq13 tq14 tq15 tq16 tq17 tq18 tq19 tq20 tq21 tq22 tq23 tq24 t_signs t_signMany t_lineOf t_strengthOf t_waterOf t_backOf t_passes t_tried t_table t_numbers t_bends t_wished t_itemLine t_itemStrength t_itemWater (upd t_itemBack s1.toNatClampNeg s0) t_items t_worstThen t_reading t_isRead t_readSum t_readMany t_spanLow t_spanHigh t_weldLine t_weldPull t_welds t_orderOf t_bestOrder t_smithOf t_bestSmith t_busy) H locs := hw
    refine lv_aload_n hx hb (dc d_X12_item 51 rfl) rfl (lv_at hl 0 rfl) ?_
    refine lv_dup hx hb (dc d_X12_item 52 rfl) rfl ?_
    refine x_get C hw fl_X12_185 0 rfl rfl (dc d_X12_item 53 rfl) ?_
    refine lv_iconst (v := (1 : Int32)) hx hb (dc d_X12_item 54 rfl) (by decide) ?_
    refine lv_iadd hx hb (dc d_X12_item 55 rfl) ?_
    refine x_put C hw fl_X12_185 fw_X12_16 0 rfl rfl rfl (Nat.le_of_ble_eq_true rfl) (dc d_X12_item 56 rfl) (fun H locs hw => ?_)
    dsimp only [w_X12, mix, List.set_cons_succ, List.set_cons_zero] at hw
    have hw : Wd D A s.heap (w_X12 cI cC cZ tq0 tq1 tq2 tq3 tq4 tq5 tq6 tq7 tq8 tq9 tq10 tq11 tq12 tq13 tq14 tq15 tq16 tq17 tq18 tq19 tq20 tq21 tq22 tq23 tq24 t_signs t_signMany t_lineOf t_strengthOf t_waterOf t_backOf t_passes t_tried t_table t_numbers t_bends t_wished t_itemLine t_itemStrength t_itemWater (upd t_itemBack s1.toNatClampNeg s0) (t_items + (1 : Int32)) t_worstThen t_reading t_isRead t_readSum t_readMany t_spanLow t_spanHigh t_weldLine t_weldPull t_welds t_orderOf t_bestOrder t_smithOf t_bestSmith t_busy) H locs := hw
    refine lv_aload_n hx hb (dc d_X12_item 57 rfl) rfl (lv_at hl 0 rfl) ?_
    refine x_get C hw fl_X12_185 0 rfl rfl (dc d_X12_item 58 rfl) ?_
    refine lv_iconst (v := (1 : Int32)) hx hb (dc d_X12_item 59 rfl) (by decide) ?_
    refine lv_isub hx hb (dc d_X12_item 60 rfl) ?_
    cases hf
    exact x_iret C hA hQ hw rfl rfl (dc d_X12_item 61 rfl)
  have L73 : ∀ (n : Nat), ∀ (t_itemLine : Nat → Int32) (t_itemStrength : Nat → Int32) (t_itemWater : Nat → Int32) (t_itemBack : Nat → Int32) (t_items : Int32) (v4 : Int32) (s0 : Int32) (s1 : Int32) (H : Heap) (locs : List Loc) (ls : Array Slot), Wd D A s.heap (w_X12 cI cC cZ tq0 tq1 tq2 tq3 tq4 tq5 tq6 tq7 tq8 tq9 tq10 tq11 tq12 tq13 tq14 tq15 tq16 tq17 tq18 tq19 tq20 tq21 tq22 tq23 tq24 t_signs t_signMany t_lineOf t_strengthOf t_waterOf t_backOf t_passes t_tried t_table t_numbers t_bends t_wished t_itemLine t_itemStrength t_itemWater t_itemBack t_items t_worstThen t_reading t_isRead t_readSum t_readMany t_spanLow t_spanHigh t_weldLine t_weldPull t_welds t_orderOf t_bestOrder t_smithOf t_bestSmith t_busy) H locs → lv_has ls 5 [(0, .ref tq0), (4, .int v4)] → f_X12_item_73  n t_itemLine t_itemStrength t_itemWater t_itemBack t_items v4 s0 s1 = some o → W p l e (rmOf 2 45) s m args below meth c H locs 0 0 Q (F0 m 73 ls [.int s0, .int s1, .ref tq12]) := by
    intro  n t_itemLine t_itemStrength t_itemWater t_itemBack t_items v4 s0 s1 H locs ls hw hl hf
    have hi := grd_b hf
    have hf := grd_x hf
    refine x_iast C hw 12 rfl hi (dc d_X12_item 40 rfl) (fun H locs hw => ?_)
    dsimp only [w_X12, mix, List.set_cons_succ, List.set_cons_zero] at hw
    have hw : Wd D A s.heap (w_X12 cI cC cZ tq0 tq1 tq2 tq3 tq4 tq5 tq6 tq7 tq8 tq9 tq10 tq11 tq12 tq13 tq14 tq15 tq16 tq17 tq18 tq19 tq20 tq21 tq22 tq23 tq24 t_signs t_signMany t_lineOf t_strengthOf t_waterOf t_backOf t_passes t_tried t_table t_numbers t_bends t_wished t_itemLine t_itemStrength (upd t_itemWater s1.toNatClampNeg s0) t_itemBack t_items t_worstThen t_reading t_isRead t_readSum t_readMany t_spanLow t_spanHigh t_weldLine t_weldPull t_welds t_orderOf t_bestOrder t_smithOf t_bestSmith t_busy) H locs := hw
    refine lv_aload_n hx hb (dc d_X12_item 41 rfl) rfl (lv_at hl 0 rfl) ?_
    refine x_get C hw fl_X12_46 0 rfl rfl (dc d_X12_item 42 rfl) ?_
    refine lv_aload_n hx hb (dc d_X12_item 43 rfl) rfl (lv_at hl 0 rfl) ?_
    refine x_get C hw fl_X12_185 0 rfl rfl (dc d_X12_item 44 rfl) ?_
    refine lv_iload hx hb (dc d_X12_item 45 rfl) (lv_at hl 1 rfl) ?_
    refine lv_if_eq (tgt := 91) hx hb (dc d_X12_item 46 rfl) (by decide) (fun c7 => ?_) (fun c7 => ?_)
    · have hf := g_t hf c7
      refine lv_iconst (v := (0 : Int32)) hx hb (dc d_X12_item 49 rfl) (by decide) ?_
      exact L92  n t_itemLine t_itemStrength (upd t_itemWater s1.toNatClampNeg s0) t_itemBack t_items (0 : Int32) t_items _ _ _ hw (lv_sub hl [0] rfl) hf
    · have hf := g_f hf c7
      refine lv_iconst (v := (1 : Int32)) hx hb (dc d_X12_item 47 rfl) (by decide) ?_
      refine lv_goto (tgt := 92) hx hb (dc d_X12_item 48 rfl) (by decide) ?_
      exact L92  n t_itemLine t_itemStrength (upd t_itemWater s1.toNatClampNeg s0) t_itemBack t_items (1 : Int32) t_items _ _ _ hw (lv_sub hl [0] rfl) hf
  refine lv_iload_n hx hb (dc d_X12_item 0 rfl) rfl (lv_at hl 1 rfl) ?_
  obtain ⟨q1, hq1, hf⟩ := g_bd hf
  refine x_callS C hw mb_X12_isLine ms_X12_isLine ml_X12_143 (k_X12_isLine n hq1) hl.1 rfl rfl [] rfl rfl rfl (Nat.le_of_ble_eq_true rfl) (Nat.le_of_ble_eq_true rfl) (Nat.le_of_ble_eq_true rfl) (dc d_X12_item 1 rfl) (fun H locs hw => ?_)
  refine W.eq (g2 := F0 m 4 ls [.int q1]) rfl ?_
  have hw : Wd D A s.heap (w_X12 cI cC cZ tq0 tq1 tq2 tq3 tq4 tq5 tq6 tq7 tq8 tq9 tq10 tq11 tq12 tq13 tq14 tq15 tq16 tq17 tq18 tq19 tq20 tq21 tq22 tq23 tq24 t_signs t_signMany t_lineOf t_strengthOf t_waterOf t_backOf t_passes t_tried t_table t_numbers t_bends t_wished t_itemLine t_itemStrength t_itemWater t_itemBack t_items t_worstThen t_reading t_isRead t_readSum t_readMany t_spanLow t_spanHigh t_weldLine t_weldPull t_welds t_orderOf t_bestOrder t_smithOf t_bestSmith t_busy) H locs := hw
  refine lv_if_ne (tgt := 9) hx hb (dc d_X12_item 2 rfl) (by decide) (fun c2 => ?_) (fun c2 => ?_)
  · have hf := g_f hf c2
    refine lv_iload_n hx hb (dc d_X12_item 5 rfl) rfl (lv_at hl 2 rfl) ?_
    refine lv_i2l (v := x2.toInt64) hx hb (dc d_X12_item 6 rfl) rfl ?_
    refine lv_lconst (v := (1 : Int64)) hx hb (dc d_X12_item 7 rfl) (by decide) ?_
    refine x_ldc2 (v := (9 : Int64)) C cn_X12_132 (dc d_X12_item 8 rfl) ?_
    obtain ⟨q3, hq3, hf⟩ := g_bd hf
    refine x_callS C hw mb_X12_in ms_X12_in ml_X12_85 (k_X12_in n hq3) hl.1 rfl rfl [] rfl rfl rfl (Nat.le_of_ble_eq_true rfl) (Nat.le_of_ble_eq_true rfl) (Nat.le_of_ble_eq_true rfl) (dc d_X12_item 9 rfl) (fun H locs hw => ?_)
    refine W.eq (g2 := F0 m 18 ls [.int q3]) rfl ?_
    have hw : Wd D A s.heap (w_X12 cI cC cZ tq0 tq1 tq2 tq3 tq4 tq5 tq6 tq7 tq8 tq9 tq10 tq11 tq12 tq13 tq14 tq15 tq16 tq17 tq18 tq19 tq20 tq21 tq22 tq23 tq24 t_signs t_signMany t_lineOf t_strengthOf t_waterOf t_backOf t_passes t_tried t_table t_numbers t_bends t_wished t_itemLine t_itemStrength t_itemWater t_itemBack t_items t_worstThen t_reading t_isRead t_readSum t_readMany t_spanLow t_spanHigh t_weldLine t_weldPull t_welds t_orderOf t_bestOrder t_smithOf t_bestSmith t_busy) H locs := hw
    refine lv_if_ne (tgt := 24) hx hb (dc d_X12_item 10 rfl) (by decide) (fun c4 => ?_) (fun c4 => ?_)
    · have hf := g_f hf c4
      refine lv_aload_n hx hb (dc d_X12_item 13 rfl) rfl (lv_at hl 0 rfl) ?_
      refine x_get C hw fl_X12_185 0 rfl rfl (dc d_X12_item 14 rfl) ?_
      refine lv_bipush (v := (10 : Int32)) hx hb (dc d_X12_item 15 rfl) (by decide) ?_
      refine lv_icmp_ne (tgt := 36) hx hb (dc d_X12_item 16 rfl) (by decide) (fun c5 => ?_) (fun c5 => ?_)
      · have hf := g_f hf c5
        refine lv_aload_n hx hb (dc d_X12_item 19 rfl) rfl (lv_at hl 0 rfl) ?_
        refine x_get C hw fl_X12_37 0 rfl rfl (dc d_X12_item 20 rfl) ?_
        refine lv_aload_n hx hb (dc d_X12_item 21 rfl) rfl (lv_at hl 0 rfl) ?_
        refine x_get C hw fl_X12_185 0 rfl rfl (dc d_X12_item 22 rfl) ?_
        refine lv_iload_n hx hb (dc d_X12_item 23 rfl) rfl (lv_at hl 1 rfl) ?_
        have hi := grd_b hf
        have hf := grd_x hf
        refine x_iast C hw 10 rfl hi (dc d_X12_item 24 rfl) (fun H locs hw => ?_)
        dsimp only [w_X12, mix, List.set_cons_succ, List.set_cons_zero] at hw
        have hw : Wd D A s.heap (w_X12 cI cC cZ tq0 tq1 tq2 tq3 tq4 tq5 tq6 tq7 tq8 tq9 tq10 tq11 tq12 tq13 tq14 tq15 tq16 tq17 tq18 tq19 tq20 tq21 tq22 tq23 tq24 t_signs t_signMany t_lineOf t_strengthOf t_waterOf t_backOf t_passes t_tried t_table t_numbers t_bends t_wished (upd t_itemLine t_items.toNatClampNeg x1) t_itemStrength t_itemWater t_itemBack t_items t_worstThen t_reading t_isRead t_readSum t_readMany t_spanLow t_spanHigh t_weldLine t_weldPull t_welds t_orderOf t_bestOrder t_smithOf t_bestSmith t_busy) H locs := hw
        refine lv_aload_n hx hb (dc d_X12_item 25 rfl) rfl (lv_at hl 0 rfl) ?_
        refine x_get C hw fl_X12_40 0 rfl rfl (dc d_X12_item 26 rfl) ?_
        refine lv_aload_n hx hb (dc d_X12_item 27 rfl) rfl (lv_at hl 0 rfl) ?_
        refine x_get C hw fl_X12_185 0 rfl rfl (dc d_X12_item 28 rfl) ?_
        refine lv_iload_n hx hb (dc d_X12_item 29 rfl) rfl (lv_at hl 2 rfl) ?_
        have hi := grd_b hf
        have hf := grd_x hf
        refine x_iast C hw 11 rfl hi (dc d_X12_item 30 rfl) (fun H locs hw => ?_)
        dsimp only [w_X12, mix, List.set_cons_succ, List.set_cons_zero] at hw
        have hw : Wd D A s.heap (w_X12 cI cC cZ tq0 tq1 tq2 tq3 tq4 tq5 tq6 tq7 tq8 tq9 tq10 tq11 tq12 tq13 tq14 tq15 tq16 tq17 tq18 tq19 tq20 tq21 tq22 tq23 tq24 t_signs t_signMany t_lineOf t_strengthOf t_waterOf t_backOf t_passes t_tried t_table t_numbers t_bends t_wished (upd t_itemLine t_items.toNatClampNeg x1) (upd t_itemStrength t_items.toNatClampNeg x2) t_itemWater t_itemBack t_items t_worstThen t_reading t_isRead t_readSum t_readMany t_spanLow t_spanHigh t_weldLine t_weldPull t_welds t_orderOf t_bestOrder t_smithOf t_bestSmith t_busy) H locs := hw
        refine lv_aload_n hx hb (dc d_X12_item 31 rfl) rfl (lv_at hl 0 rfl) ?_
        refine x_get C hw fl_X12_43 0 rfl rfl (dc d_X12_item 32 rfl) ?_
        refine lv_aload_n hx hb (dc d_X12_item 33 rfl) rfl (lv_at hl 0 rfl) ?_
        refine x_get C hw fl_X12_185 0 rfl rfl (dc d_X12_item 34 rfl) ?_
        refine lv_iload_n hx hb (dc d_X12_item 35 rfl) rfl (lv_at hl 3 rfl) ?_
        refine lv_if_eq (tgt := 72) hx hb (dc d_X12_item 36 rfl) (by decide) (fun c6 => ?_) (fun c6 => ?_)
        · have hf := g_t hf c6
          refine lv_iconst (v := (0 : Int32)) hx hb (dc d_X12_item 39 rfl) (by decide) ?_
          exact L73  n (upd t_itemLine t_items.toNatClampNeg x1) (upd t_itemStrength t_items.toNatClampNeg x2) t_itemWater t_itemBack t_items x4 (0 : Int32) t_items _ _ _ hw (lv_sub hl [0, 4] rfl) hf
        · have hf := g_f hf c6
          refine lv_iconst (v := (1 : Int32)) hx hb (dc d_X12_item 37 rfl) (by decide) ?_
          refine lv_goto (tgt := 73) hx hb (dc d_X12_item 38 rfl) (by decide) ?_
          exact L73  n (upd t_itemLine t_items.toNatClampNeg x1) (upd t_itemStrength t_items.toNatClampNeg x2) t_itemWater t_itemBack t_items x4 (1 : Int32) t_items _ _ _ hw (lv_sub hl [0, 4] rfl) hf
      · have hf := g_t hf c5
        refine lv_bipush (v := (-4 : Int32)) hx hb (dc d_X12_item 17 rfl) (by decide) ?_
        cases hf
        exact x_iret C hA hQ hw rfl rfl (dc d_X12_item 18 rfl)
    · have hf := g_t hf c4
      refine lv_bipush (v := (-2 : Int32)) hx hb (dc d_X12_item 11 rfl) (by decide) ?_
      cases hf
      exact x_iret C hA hQ hw rfl rfl (dc d_X12_item 12 rfl)
  · have hf := g_t hf c2
    refine lv_iconst (v := (-1 : Int32)) hx hb (dc d_X12_item 3 rfl) (by decide) ?_
    cases hf
    exact x_iret C hA hQ hw rfl rfl (dc d_X12_item 4 rfl)
set_option maxHeartbeats 4000000 in
set_option maxRecDepth 100000 in
theorem k_X12_tryItem (n : Nat) {l : Launch} {D : va_G} {cI cC cZ : ClassId} {tq0 tq1 tq2 tq3 tq4 tq5 tq6 tq7 tq8 tq9 tq10 tq11 tq12 tq13 tq14 tq15 tq16 tq17 tq18 tq19 tq20 tq21 tq22 tq23 tq24 : Nat} {t_signs : Nat → Int32} {t_signMany : Int32} {t_lineOf : Nat → Int32} {t_strengthOf : Nat → Int32} {t_waterOf : Nat → Int32} {t_backOf : Nat → Int32} {t_passes : Int32} {t_tried : Int32} {t_table : Nat → Int32} {t_numbers : Nat → Int32} {t_bends : Nat → Int32} {t_wished : Nat → Int32} {t_itemLine : Nat → Int32} {t_itemStrength : Nat → Int32} {t_itemWater : Nat → Int32} {t_itemBack : Nat → Int32} {t_items : Int32} {t_worstThen : Int32} {t_reading : Nat → Int32} {t_isRead : Nat → Int32} {t_readSum : Int32} {t_readMany : Int32} {t_spanLow : Nat → Int32} {t_spanHigh : Nat → Int32} {t_weldLine : Nat → Int32} {t_weldPull : Nat → Int32} {t_welds : Int32} {t_orderOf : Nat → Int32} {t_bestOrder : Nat → Int32} {t_smithOf : Nat → Int32} {t_bestSmith : Nat → Int32} {t_busy : Nat → Int32} {x1 : Int32} {o : (Nat → Int32) × (Nat → Int32) × (Nat → Int32) × (Nat → Int32) × Int32} (hf : f_X12_tryItem n t_lineOf t_strengthOf t_waterOf t_backOf t_tried t_itemLine t_itemStrength t_itemWater t_itemBack x1 = some o) : Ctr l yX12_tryItem cX12_tryItem 2 none 0 0 D cI cC cZ [.ref tq0, .int x1] (w_X12 cI cC cZ tq0 tq1 tq2 tq3 tq4 tq5 tq6 tq7 tq8 tq9 tq10 tq11 tq12 tq13 tq14 tq15 tq16 tq17 tq18 tq19 tq20 tq21 tq22 tq23 tq24 t_signs t_signMany t_lineOf t_strengthOf t_waterOf t_backOf t_passes t_tried t_table t_numbers t_bends t_wished t_itemLine t_itemStrength t_itemWater t_itemBack t_items t_worstThen t_reading t_isRead t_readSum t_readMany t_spanLow t_spanHigh t_weldLine t_weldPull t_welds t_orderOf t_bestOrder t_smithOf t_bestSmith t_busy) (w_X12 cI cC cZ tq0 tq1 tq2 tq3 tq4 tq5 tq6 tq7 tq8 tq9 tq10 tq11 tq12 tq13 tq14 tq15 tq16 tq17 tq18 tq19 tq20 tq21 tq22 tq23 tq24 t_signs t_signMany o.1 o.2.1 o.2.2.1 o.2.2.2.1 t_passes o.2.2.2.2 t_table t_numbers t_bends t_wished t_itemLine t_itemStrength t_itemWater t_itemBack t_items t_worstThen t_reading t_isRead t_readSum t_readMany t_spanLow t_spanHigh t_weldLine t_weldPull t_welds t_orderOf t_bestOrder t_smithOf t_bestSmith t_busy) none := by
  refine Ctr.of (by decide) (Nat.le_of_ble_eq_true rfl) ?_
  intro p e s m args below meth c ls A Q hA hQ C hl hw
  have hx := C.1
  have hb := C.2.1
  have hl : lv_has ls 2 [(0, .ref tq0), (1, .int x1)] := hl
  refine lv_aload_n hx hb (dc d_X12_tryItem 0 rfl) rfl (lv_at hl 0 rfl) ?_
  refine x_get C hw fl_X12_13 0 rfl rfl (dc d_X12_tryItem 1 rfl) ?_
  refine lv_aload_n hx hb (dc d_X12_tryItem 2 rfl) rfl (lv_at hl 0 rfl) ?_
  refine x_get C hw fl_X12_188 0 rfl rfl (dc d_X12_tryItem 3 rfl) ?_
  refine lv_aload_n hx hb (dc d_X12_tryItem 4 rfl) rfl (lv_at hl 0 rfl) ?_
  refine x_get C hw fl_X12_37 0 rfl rfl (dc d_X12_tryItem 5 rfl) ?_
  refine lv_iload_n hx hb (dc d_X12_tryItem 6 rfl) rfl (lv_at hl 1 rfl) ?_
  have hi := grd_b hf
  have hf := grd_x hf
  refine x_iald C hw 10 rfl hi (dc d_X12_tryItem 7 rfl) ?_
  have hi := grd_b hf
  have hf := grd_x hf
  refine x_iast C hw 2 rfl hi (dc d_X12_tryItem 8 rfl) (fun H locs hw => ?_)
  dsimp only [w_X12, mix, List.set_cons_succ, List.set_cons_zero] at hw
  have hw : Wd D A s.heap (w_X12 cI cC cZ tq0 tq1 tq2 tq3 tq4 tq5 tq6 tq7 tq8 tq9 tq10 tq11 tq12 tq13 tq14 tq15 tq16 tq17 tq18 tq19 tq20 tq21 tq22 tq23 tq24 t_signs t_signMany (upd t_lineOf t_tried.toNatClampNeg (t_itemLine x1.toNatClampNeg)) t_strengthOf t_waterOf t_backOf t_passes t_tried t_table t_numbers t_bends t_wished t_itemLine t_itemStrength t_itemWater t_itemBack t_items t_worstThen t_reading t_isRead t_readSum t_readMany t_spanLow t_spanHigh t_weldLine t_weldPull t_welds t_orderOf t_bestOrder t_smithOf t_bestSmith t_busy) H locs := hw
  refine lv_aload_n hx hb (dc d_X12_tryItem 9 rfl) rfl (lv_at hl 0 rfl) ?_
  refine x_get C hw fl_X12_16 0 rfl rfl (dc d_X12_tryItem 10 rfl) ?_
  refine lv_aload_n hx hb (dc d_X12_tryItem 11 rfl) rfl (lv_at hl 0 rfl) ?_
  refine x_get C hw fl_X12_188 0 rfl rfl (dc d_X12_tryItem 12 rfl) ?_
  refine lv_aload_n hx hb (dc d_X12_tryItem 13 rfl) rfl (lv_at hl 0 rfl) ?_
  refine x_get C hw fl_X12_40 0 rfl rfl (dc d_X12_tryItem 14 rfl) ?_
  refine lv_iload_n hx hb (dc d_X12_tryItem 15 rfl) rfl (lv_at hl 1 rfl) ?_
  have hi := grd_b hf
  have hf := grd_x hf
  refine x_iald C hw 11 rfl hi (dc d_X12_tryItem 16 rfl) ?_
  have hi := grd_b hf
  have hf := grd_x hf
  refine x_iast C hw 3 rfl hi (dc d_X12_tryItem 17 rfl) (fun H locs hw => ?_)
  dsimp only [w_X12, mix, List.set_cons_succ, List.set_cons_zero] at hw
  have hw : Wd D A s.heap (w_X12 cI cC cZ tq0 tq1 tq2 tq3 tq4 tq5 tq6 tq7 tq8 tq9 tq10 tq11 tq12 tq13 tq14 tq15 tq16 tq17 tq18 tq19 tq20 tq21 tq22 tq23 tq24 t_signs t_signMany (upd t_lineOf t_tried.toNatClampNeg (t_itemLine x1.toNatClampNeg)) (upd t_strengthOf t_tried.toNatClampNeg (t_itemStrength x1.toNatClampNeg)) t_waterOf t_backOf t_passes t_tried t_table t_numbers t_bends t_wished t_itemLine t_itemStrength t_itemWater t_itemBack t_items t_worstThen t_reading t_isRead t_readSum t_readMany t_spanLow t_spanHigh t_weldLine t_weldPull t_welds t_orderOf t_bestOrder t_smithOf t_bestSmith t_busy) H locs := hw
  refine lv_aload_n hx hb (dc d_X12_tryItem 18 rfl) rfl (lv_at hl 0 rfl) ?_
  refine x_get C hw fl_X12_19 0 rfl rfl (dc d_X12_tryItem 19 rfl) ?_
  refine lv_aload_n hx hb (dc d_X12_tryItem 20 rfl) rfl (lv_at hl 0 rfl) ?_
  refine x_get C hw fl_X12_188 0 rfl rfl (dc d_X12_tryItem 21 rfl) ?_
  refine lv_aload_n hx hb (dc d_X12_tryItem 22 rfl) rfl (lv_at hl 0 rfl) ?_
  refine x_get C hw fl_X12_43 0 rfl rfl (dc d_X12_tryItem 23 rfl) ?_
  refine lv_iload_n hx hb (dc d_X12_tryItem 24 rfl) rfl (lv_at hl 1 rfl) ?_
  have hi := grd_b hf
  have hf := grd_x hf
  refine x_iald C hw 12 rfl hi (dc d_X12_tryItem 25 rfl) ?_
  have hi := grd_b hf
  have hf := grd_x hf
  refine x_iast C hw 4 rfl hi (dc d_X12_tryItem 26 rfl) (fun H locs hw => ?_)
  dsimp only [w_X12, mix, List.set_cons_succ, List.set_cons_zero] at hw
  have hw : Wd D A s.heap (w_X12 cI cC cZ tq0 tq1 tq2 tq3 tq4 tq5 tq6 tq7 tq8 tq9 tq10 tq11 tq12 tq13 tq14 tq15 tq16 tq17 tq18 tq19 tq20 tq21 tq22 tq23 tq24 t_signs t_signMany (upd t_lineOf t_tried.toNatClampNeg (t_itemLine x1.toNatClampNeg)) (upd t_strengthOf t_tried.toNatClampNeg (t_itemStrength x1.toNatClampNeg)) (upd t_waterOf t_tried.toNatClampNeg (t_itemWater x1.toNatClampNeg)) t_backOf t_passes t_tried t_table t_numbers t_bends t_wished t_itemLine t_itemStrength t_itemWater t_itemBack t_items t_worstThen t_reading t_isRead t_readSum t_readMany t_spanLow t_spanHigh t_weldLine t_weldPull t_welds t_orderOf t_bestOrder t_smithOf t_bestSmith t_busy) H locs := hw
  refine lv_aload_n hx hb (dc d_X12_tryItem 27 rfl) rfl (lv_at hl 0 rfl) ?_
  refine x_get C hw fl_X12_22 0 rfl rfl (dc d_X12_tryItem 28 rfl) ?_
  refine lv_aload_n hx hb (dc d_X12_tryItem 29 rfl) rfl (lv_at hl 0 rfl) ?_
  refine x_get C hw fl_X12_188 0 rfl rfl (dc d_X12_tryItem 30 rfl) ?_
  refine lv_aload_n hx hb (dc d_X12_tryItem 31 rfl) rfl (lv_at hl 0 rfl) ?_
  refine x_get C hw fl_X12_46 0 rfl rfl (dc d_X12_tryItem 32 rfl) ?_
  refine lv_iload_n hx hb (dc d_X12_tryItem 33 rfl) rfl (lv_at hl 1 rfl) ?_
  have hi := grd_b hf
  have hf := grd_x hf
  refine x_iald C hw 13 rfl hi (dc d_X12_tryItem 34 rfl) ?_
  have hi := grd_b hf
  have hf := grd_x hf
  refine x_iast C hw 5 rfl hi (dc d_X12_tryItem 35 rfl) (fun H locs hw => ?_)
  dsimp only [w_X12, mix, List.set_cons_succ, List.set_cons_zero] at hw
  have hw : Wd D A s.heap (w_X12 cI cC cZ tq0 tq1 tq2 tq3 tq4 tq5 tq6 tq7 tq8 tq9 tq10 tq11 tq12 tq13 tq14 tq15 tq16 tq17 tq18 tq19 tq20 tq21 tq22 tq23 tq24 t_signs t_signMany (upd t_lineOf t_tried.toNatClampNeg (t_itemLine x1.toNatClampNeg)) (upd t_strengthOf t_tried.toNatClampNeg (t_itemStrength x1.toNatClampNeg)) (upd t_waterOf t_tried.toNatClampNeg (t_itemWater x1.toNatClampNeg)) (upd t_backOf t_tried.toNatClampNeg (t_itemBack x1.toNatClampNeg)) t_passes t_tried t_table t_numbers t_bends t_wished t_itemLine t_itemStrength t_itemWater t_itemBack t_items t_worstThen t_reading t_isRead t_readSum t_readMany t_spanLow t_spanHigh t_weldLine t_weldPull t_welds t_orderOf t_bestOrder t_smithOf t_bestSmith t_busy) H locs := hw
  refine lv_aload_n hx hb (dc d_X12_tryItem 36 rfl) rfl (lv_at hl 0 rfl) ?_
  refine lv_dup hx hb (dc d_X12_tryItem 37 rfl) rfl ?_
  refine x_get C hw fl_X12_188 0 rfl rfl (dc d_X12_tryItem 38 rfl) ?_
  refine lv_iconst (v := (1 : Int32)) hx hb (dc d_X12_tryItem 39 rfl) (by decide) ?_
  refine lv_iadd hx hb (dc d_X12_tryItem 40 rfl) ?_
  refine x_put C hw fl_X12_188 fw_X12_7 0 rfl rfl rfl (Nat.le_of_ble_eq_true rfl) (dc d_X12_tryItem 41 rfl) (fun H locs hw => ?_)
  dsimp only [w_X12, mix, List.set_cons_succ, List.set_cons_zero] at hw
  have hw : Wd D A s.heap (w_X12 cI cC cZ tq0 tq1 tq2 tq3 tq4 tq5 tq6 tq7 tq8 tq9 tq10 tq11 tq12 tq13 tq14 tq15 tq16 tq17 tq18 tq19 tq20 tq21 tq22 tq23 tq24 t_signs t_signMany (upd t_lineOf t_tried.toNatClampNeg (t_itemLine x1.toNatClampNeg)) (upd t_strengthOf t_tried.toNatClampNeg (t_itemStrength x1.toNatClampNeg)) (upd t_waterOf t_tried.toNatClampNeg (t_itemWater x1.toNatClampNeg)) (upd t_backOf t_tried.toNatClampNeg (t_itemBack x1.toNatClampNeg)) t_passes (t_tried + (1 : Int32)) t_table t_numbers t_bends t_wished t_itemLine t_itemStrength t_itemWater t_itemBack t_items t_worstThen t_reading t_isRead t_readSum t_readMany t_spanLow t_spanHigh t_weldLine t_weldPull t_welds t_orderOf t_bestOrder t_smithOf t_bestSmith t_busy) H locs := hw
  cases hf
  exact x_vret C hA hQ hw rfl rfl (dc d_X12_tryItem 42 rfl)
set_option maxHeartbeats 4000000 in
set_option maxRecDepth 100000 in
theorem k_X12_worstWith (n : Nat) {l : Launch} {D : va_G} {cI cC cZ : ClassId} {tq0 tq1 tq2 tq3 tq4 tq5 tq6 tq7 tq8 tq9 tq10 tq11 tq12 tq13 tq14 tq15 tq16 tq17 tq18 tq19 tq20 tq21 tq22 tq23 tq24 : Nat} {t_signs : Nat → Int32} {t_signMany : Int32} {t_lineOf : Nat → Int32} {t_strengthOf : Nat → Int32} {t_waterOf : Nat → Int32} {t_backOf : Nat → Int32} {t_passes : Int32} {t_tried : Int32} {t_table : Nat → Int32} {t_numbers : Nat → Int32} {t_bends : Nat → Int32} {t_wished : Nat → Int32} {t_itemLine : Nat → Int32} {t_itemStrength : Nat → Int32} {t_itemWater : Nat → Int32} {t_itemBack : Nat → Int32} {t_items : Int32} {t_worstThen : Int32} {t_reading : Nat → Int32} {t_isRead : Nat → Int32} {t_readSum : Int32} {t_readMany : Int32} {t_spanLow : Nat → Int32} {t_spanHigh : Nat → Int32} {t_weldLine : Nat → Int32} {t_weldPull : Nat → Int32} {t_welds : Int32} {t_orderOf : Nat → Int32} {t_bestOrder : Nat → Int32} {t_smithOf : Nat → Int32} {t_bestSmith : Nat → Int32} {t_busy : Nat → Int32} {x1 : Int32} {o : Int32 × (Nat → Int32) × (Nat → Int32) × (Nat → Int32) × (Nat → Int32) × Int32 × (Nat → Int32)} (hf : f_X12_worstWith n t_lineOf t_strengthOf t_waterOf t_backOf t_passes t_tried t_table t_numbers t_bends t_wished t_itemLine t_itemStrength t_itemWater t_itemBack t_items x1 = some o) : Ctr l yX12_worstWith cX12_worstWith 3 (some .int) 5 111 D cI cC cZ [.ref tq0, .int x1] (w_X12 cI cC cZ tq0 tq1 tq2 tq3 tq4 tq5 tq6 tq7 tq8 tq9 tq10 tq11 tq12 tq13 tq14 tq15 tq16 tq17 tq18 tq19 tq20 tq21 tq22 tq23 tq24 t_signs t_signMany t_lineOf t_strengthOf t_waterOf t_backOf t_passes t_tried t_table t_numbers t_bends t_wished t_itemLine t_itemStrength t_itemWater t_itemBack t_items t_worstThen t_reading t_isRead t_readSum t_readMany t_spanLow t_spanHigh t_weldLine t_weldPull t_welds t_orderOf t_bestOrder t_smithOf t_bestSmith t_busy) (w_X12 cI cC cZ tq0 tq1 tq2 tq3 tq4 tq5 tq6 tq7 tq8 tq9 tq10 tq11 tq12 tq13 tq14 tq15 tq16 tq17 tq18 tq19 tq20 tq21 tq22 tq23 tq24 t_signs t_signMany o.2.1 o.2.2.1 o.2.2.2.1 o.2.2.2.2.1 t_passes o.2.2.2.2.2.1 t_table t_numbers o.2.2.2.2.2.2 t_wished t_itemLine t_itemStrength t_itemWater t_itemBack t_items t_worstThen t_reading t_isRead t_readSum t_readMany t_spanLow t_spanHigh t_weldLine t_weldPull t_welds t_orderOf t_bestOrder t_smithOf t_bestSmith t_busy) (some (.int o.1)) := by
  refine Ctr.of (by decide) (Nat.le_of_ble_eq_true rfl) ?_
  intro p e s m args below meth c ls A Q hA hQ C hl hw
  have hx := C.1
  have hb := C.2.1
  have hl : lv_has ls 3 [(0, .ref tq0), (1, .int x1)] := hl
  have L10 : ∀ (n : Nat), ∀ (t_lineOf : Nat → Int32) (t_strengthOf : Nat → Int32) (t_waterOf : Nat → Int32) (t_backOf : Nat → Int32) (t_tried : Int32) (t_bends : Nat → Int32) (v1 : Int32) (v2 : Int32) (H : Heap) (locs : List Loc) (ls : Array Slot), Wd D A s.heap (w_X12 cI cC cZ tq0 tq1 tq2 tq3 tq4 tq5 tq6 tq7 tq8 tq9 tq10 tq11 tq12 tq13 tq14 tq15 tq16 tq17 tq18 tq19 tq20 tq21 tq22 tq23 tq24 t_signs t_signMany t_lineOf t_strengthOf t_waterOf t_backOf t_passes t_tried t_table t_numbers t_bends t_wished t_itemLine t_itemStrength t_itemWater t_itemBack t_items t_worstThen t_reading t_isRead t_readSum t_readMany t_spanLow t_spanHigh t_weldLine t_weldPull t_welds t_orderOf t_bestOrder t_smithOf t_bestSmith t_busy) H locs → lv_has ls 3 [(0, .ref tq0), (1, .int v1), (2, .int v2)] → f_X12_worstWith_10 t_passes t_table t_numbers t_wished t_itemLine t_itemStrength t_itemWater t_itemBack t_items  n t_lineOf t_strengthOf t_waterOf t_backOf t_tried t_bends v1 v2 = some o → W p l e (rmOf 5 111) s m args below meth c H locs 0 0 Q (F0 m 10 ls []) := by
    intro  n
    induction n with
    | zero => intro t_lineOf t_strengthOf t_waterOf t_backOf t_tried t_bends v1 v2 H locs ls hw hl hf; exact (no_none hf).elim
    | succ n ih =>
      intro t_lineOf t_strengthOf t_waterOf t_backOf t_tried t_bends v1 v2 H locs ls hw hl hf
      have hf : f_X12_worstWith_10b t_passes t_table t_numbers t_wished t_itemLine t_itemStrength t_itemWater t_itemBack t_items  (f_X12_worstWith_10 t_passes t_table t_numbers t_wished t_itemLine t_itemStrength t_itemWater t_itemBack t_items  n) n t_lineOf t_strengthOf t_waterOf t_backOf t_tried t_bends v1 v2 = some o := hf
      generalize f_X12_worstWith_10 t_passes t_table t_numbers t_wished t_itemLine t_itemStrength t_itemWater t_itemBack t_items  n = k10 at hf ih
      refine lv_iload_n hx hb (dc d_X12_worstWith 6 rfl) rfl (lv_at hl 2 rfl) ?_
      refine lv_aload_n hx hb (dc d_X12_worstWith 7 rfl) rfl (lv_at hl 0 rfl) ?_
      refine x_get C hw fl_X12_185 0 rfl rfl (dc d_X12_worstWith 8 rfl) ?_
      refine lv_icmp_ge (tgt := 38) hx hb (dc d_X12_worstWith 9 rfl) (by decide) (fun c1 => ?_) (fun c1 => ?_)
      · have hf := g_t hf c1
        refine lv_aload_n hx hb (dc d_X12_worstWith 22 rfl) rfl (lv_at hl 0 rfl) ?_
        refine lv_aload_n hx hb (dc d_X12_worstWith 23 rfl) rfl (lv_at hl 0 rfl) ?_
        refine x_get C hw fl_X12_188 0 rfl rfl (dc d_X12_worstWith 24 rfl) ?_
        obtain ⟨q2, hq2, hf⟩ := g_bd hf
        refine x_callVa C hw mb_X12_worstBy mv_X12_worstBy ml_X12_176 (k_X12_worstBy n hq2) hl.1 rfl rfl rfl 0 12 rfl rfl (Nat.le_of_ble_eq_true rfl) (Nat.le_of_ble_eq_true rfl) (Nat.le_of_ble_eq_true rfl) (dc d_X12_worstWith 25 rfl) (fun H locs hw => ?_)
        refine W.eq (g2 := F0 m 46 ls [.int q2.1]) rfl ?_
        have hw : Wd D A s.heap (w_X12 cI cC cZ tq0 tq1 tq2 tq3 tq4 tq5 tq6 tq7 tq8 tq9 tq10 tq11 tq12 tq13 tq14 tq15 tq16 tq17 tq18 tq19 tq20 tq21 tq22 tq23 tq24 t_signs t_signMany t_lineOf t_strengthOf t_waterOf t_backOf t_passes t_tried t_table t_numbers q2.2 t_wished t_itemLine t_itemStrength t_itemWater t_itemBack t_items t_worstThen t_reading t_isRead t_readSum t_readMany t_spanLow t_spanHigh t_weldLine t_weldPull t_welds t_orderOf t_bestOrder t_smithOf t_bestSmith t_busy) H locs := hw
        cases hf
        exact x_iret C hA hQ hw rfl rfl (dc d_X12_worstWith 26 rfl)
      · have hf := g_f hf c1
        refine lv_iload_n hx hb (dc d_X12_worstWith 10 rfl) rfl (lv_at hl 1 rfl) ?_
        refine lv_iload_n hx hb (dc d_X12_worstWith 11 rfl) rfl (lv_at hl 2 rfl) ?_
        refine x_shr hx hb (dc d_X12_worstWith 12 rfl) ?_
        refine lv_iconst (v := (1 : Int32)) hx hb (dc d_X12_worstWith 13 rfl) (by decide) ?_
        refine lv_iand hx hb (dc d_X12_worstWith 14 rfl) ?_
        refine lv_iconst (v := (1 : Int32)) hx hb (dc d_X12_worstWith 15 rfl) (by decide) ?_
        refine lv_icmp_ne (tgt := 32) hx hb (dc d_X12_worstWith 16 rfl) (by decide) (fun c3 => ?_) (fun c3 => ?_)
        · have hf := g_f hf c3
          refine lv_iinc (v := (v2 + (1 : Int32))) (lv' := [(2, .int (v2 + (1 : Int32))), (0, .ref tq0), (1, .int v1)]) hx hb (dc d_X12_worstWith 20 rfl) hl (k := 2) rfl (ii (by decide)) (by decide) rfl (fun ls hl => ?_)
          refine lv_goto (tgt := 10) hx hb (dc d_X12_worstWith 21 rfl) (by decide) ?_
          exact ih t_lineOf t_strengthOf t_waterOf t_backOf t_tried t_bends v1 (v2 + (1 : Int32)) _ _ _ hw (lv_sub hl [1, 2, 0] rfl) hf
        · have hf := g_t hf c3
          refine lv_aload_n hx hb (dc d_X12_worstWith 17 rfl) rfl (lv_at hl 0 rfl) ?_
          refine lv_iload_n hx hb (dc d_X12_worstWith 18 rfl) rfl (lv_at hl 2 rfl) ?_
          obtain ⟨q4, hq4, hf⟩ := g_bd hf
          refine x_callVa C hw mb_X12_tryItem mv_X12_tryItem ml_X12_191 (k_X12_tryItem n hq4) hl.1 rfl rfl rfl 0 12 rfl rfl (Nat.le_of_ble_eq_true rfl) (Nat.le_of_ble_eq_true rfl) (Nat.le_of_ble_eq_true rfl) (dc d_X12_worstWith 19 rfl) (fun H locs hw => ?_)
          refine W.eq (g2 := F0 m 32 ls []) rfl ?_
          have hw : Wd D A s.heap (w_X12 cI cC cZ tq0 tq1 tq2 tq3 tq4 tq5 tq6 tq7 tq8 tq9 tq10 tq11 tq12 tq13 tq14 tq15 tq16 tq17 tq18 tq19 tq20 tq21 tq22 tq23 tq24 t_signs t_signMany q4.1 q4.2.1 q4.2.2.1 q4.2.2.2.1 t_passes q4.2.2.2.2 t_table t_numbers t_bends t_wished t_itemLine t_itemStrength t_itemWater t_itemBack t_items t_worstThen t_reading t_isRead t_readSum t_readMany t_spanLow t_spanHigh t_weldLine t_weldPull t_welds t_orderOf t_bestOrder t_smithOf t_bestSmith t_busy) H locs := hw
          refine lv_iinc (v := (v2 + (1 : Int32))) (lv' := [(2, .int (v2 + (1 : Int32))), (0, .ref tq0), (1, .int v1)]) hx hb (dc d_X12_worstWith 20 rfl) hl (k := 2) rfl (ii (by decide)) (by decide) rfl (fun ls hl => ?_)
          refine lv_goto (tgt := 10) hx hb (dc d_X12_worstWith 21 rfl) (by decide) ?_
          exact ih q4.1 q4.2.1 q4.2.2.1 q4.2.2.2.1 q4.2.2.2.2 t_bends v1 (v2 + (1 : Int32)) _ _ _ hw (lv_sub hl [1, 2, 0] rfl) hf
  refine lv_aload_n hx hb (dc d_X12_worstWith 0 rfl) rfl (lv_at hl 0 rfl) ?_
  refine lv_aload_n hx hb (dc d_X12_worstWith 1 rfl) rfl (lv_at hl 0 rfl) ?_
  refine x_get C hw fl_X12_113 0 rfl rfl (dc d_X12_worstWith 2 rfl) ?_
  refine x_put C hw fl_X12_188 fw_X12_7 0 rfl rfl rfl (Nat.le_of_ble_eq_true rfl) (dc d_X12_worstWith 3 rfl) (fun H locs hw => ?_)
  dsimp only [w_X12, mix, List.set_cons_succ, List.set_cons_zero] at hw
  have hw : Wd D A s.heap (w_X12 cI cC cZ tq0 tq1 tq2 tq3 tq4 tq5 tq6 tq7 tq8 tq9 tq10 tq11 tq12 tq13 tq14 tq15 tq16 tq17 tq18 tq19 tq20 tq21 tq22 tq23 tq24 t_signs t_signMany t_lineOf t_strengthOf t_waterOf t_backOf t_passes t_passes t_table t_numbers t_bends t_wished t_itemLine t_itemStrength t_itemWater t_itemBack t_items t_worstThen t_reading t_isRead t_readSum t_readMany t_spanLow t_spanHigh t_weldLine t_weldPull t_welds t_orderOf t_bestOrder t_smithOf t_bestSmith t_busy) H locs := hw
  refine lv_iconst (v := (0 : Int32)) hx hb (dc d_X12_worstWith 4 rfl) (by decide) ?_
  refine lv_istore_n (lv' := [(2, .int (0 : Int32)), (0, .ref tq0), (1, .int x1)]) hx hb (dc d_X12_worstWith 5 rfl) rfl hl (by decide) rfl (fun ls hl => ?_)
  exact L10  n t_lineOf t_strengthOf t_waterOf t_backOf t_passes t_bends x1 (0 : Int32) _ _ _ hw (lv_sub hl [1, 2, 0] rfl) hf
set_option maxHeartbeats 4000000 in
set_option maxRecDepth 100000 in
theorem k_X12_ones (n : Nat) {l : Launch} {D : va_G} {cI cC cZ : ClassId}   {x0 : Int32} {o : Int32} (hf : f_X12_ones n x0 = some o) : Ctr l yX12_ones cX12_ones 3 (some .int) 0 0 D cI cC cZ [.int x0] [] [] (some (.int o)) := by
  refine Ctr.of (by decide) (Nat.le_of_ble_eq_true rfl) ?_
  intro p e s m args below meth c ls A Q hA hQ C hl hw
  have hx := C.1
  have hb := C.2.1
  have hl : lv_has ls 3 [(0, .int x0)] := hl
  have L4 : ∀ (n : Nat), ∀ (v0 : Int32) (v1 : Int32) (v2 : Int32) (H : Heap) (locs : List Loc) (ls : Array Slot), Wd D A s.heap [] H locs → lv_has ls 3 [(0, .int v0), (1, .int v1), (2, .int v2)] → f_X12_ones_4  n v0 v1 v2 = some o → W p l e (rmOf 0 0) s m args below meth c H locs 0 0 Q (F0 m 4 ls []) := by
    intro  n
    induction n with
    | zero => intro v0 v1 v2 H locs ls hw hl hf; exact (no_none hf).elim
    | succ n ih =>
      intro v0 v1 v2 H locs ls hw hl hf
      have hf : f_X12_ones_4b  (f_X12_ones_4  n) n v0 v1 v2 = some o := hf
      generalize f_X12_ones_4  n = k4 at hf ih
      refine lv_iload_n hx hb (dc d_X12_ones 4 rfl) rfl (lv_at hl 2 rfl) ?_
      refine lv_bipush (v := (10 : Int32)) hx hb (dc d_X12_ones 5 rfl) (by decide) ?_
      refine lv_icmp_ge (tgt := 24) hx hb (dc d_X12_ones 6 rfl) (by decide) (fun c1 => ?_) (fun c1 => ?_)
      · have hf := g_t hf c1
        refine lv_iload_n hx hb (dc d_X12_ones 17 rfl) rfl (lv_at hl 1 rfl) ?_
        cases hf
        exact x_iret C hA hQ hw rfl rfl (dc d_X12_ones 18 rfl)
      · have hf := g_f hf c1
        refine lv_iload_n hx hb (dc d_X12_ones 7 rfl) rfl (lv_at hl 1 rfl) ?_
        refine lv_iload_n hx hb (dc d_X12_ones 8 rfl) rfl (lv_at hl 0 rfl) ?_
        refine lv_iload_n hx hb (dc d_X12_ones 9 rfl) rfl (lv_at hl 2 rfl) ?_
        refine x_shr hx hb (dc d_X12_ones 10 rfl) ?_
        refine lv_iconst (v := (1 : Int32)) hx hb (dc d_X12_ones 11 rfl) (by decide) ?_
        refine lv_iand hx hb (dc d_X12_ones 12 rfl) ?_
        refine lv_iadd hx hb (dc d_X12_ones 13 rfl) ?_
        refine lv_topi (fun y2 ey2 => ?_)
        have hf := g_nm hf ey2
        refine lv_istore_n (lv' := [(1, .int y2), (0, .int v0), (2, .int v2)]) hx hb (dc d_X12_ones 14 rfl) rfl hl (by decide) rfl (fun ls hl => ?_)
        refine lv_iinc (v := (v2 + (1 : Int32))) (lv' := [(2, .int (v2 + (1 : Int32))), (1, .int y2), (0, .int v0)]) hx hb (dc d_X12_ones 15 rfl) hl (k := 2) rfl (ii (by decide)) (by decide) rfl (fun ls hl => ?_)
        refine lv_goto (tgt := 4) hx hb (dc d_X12_ones 16 rfl) (by decide) ?_
        exact ih v0 y2 (v2 + (1 : Int32)) _ _ _ hw (lv_sub hl [2, 1, 0] rfl) hf
  refine lv_iconst (v := (0 : Int32)) hx hb (dc d_X12_ones 0 rfl) (by decide) ?_
  refine lv_istore_n (lv' := [(1, .int (0 : Int32)), (0, .int x0)]) hx hb (dc d_X12_ones 1 rfl) rfl hl (by decide) rfl (fun ls hl => ?_)
  refine lv_iconst (v := (0 : Int32)) hx hb (dc d_X12_ones 2 rfl) (by decide) ?_
  refine lv_istore_n (lv' := [(2, .int (0 : Int32)), (1, .int (0 : Int32)), (0, .int x0)]) hx hb (dc d_X12_ones 3 rfl) rfl hl (by decide) rfl (fun ls hl => ?_)
  exact L4  n x0 (0 : Int32) (0 : Int32) _ _ _ hw (lv_sub hl [2, 1, 0] rfl) hf
set_option maxHeartbeats 4000000 in
set_option maxRecDepth 100000 in
theorem k_X12_chosen (n : Nat) {l : Launch} {D : va_G} {cI cC cZ : ClassId} {tq0 tq1 tq2 tq3 tq4 tq5 tq6 tq7 tq8 tq9 tq10 tq11 tq12 tq13 tq14 tq15 tq16 tq17 tq18 tq19 tq20 tq21 tq22 tq23 tq24 : Nat} {t_signs : Nat → Int32} {t_signMany : Int32} {t_lineOf : Nat → Int32} {t_strengthOf : Nat → Int32} {t_waterOf : Nat → Int32} {t_backOf : Nat → Int32} {t_passes : Int32} {t_tried : Int32} {t_table : Nat → Int32} {t_numbers : Nat → Int32} {t_bends : Nat → Int32} {t_wished : Nat → Int32} {t_itemLine : Nat → Int32} {t_itemStrength : Nat → Int32} {t_itemWater : Nat → Int32} {t_itemBack : Nat → Int32} {t_items : Int32} {t_worstThen : Int32} {t_reading : Nat → Int32} {t_isRead : Nat → Int32} {t_readSum : Int32} {t_readMany : Int32} {t_spanLow : Nat → Int32} {t_spanHigh : Nat → Int32} {t_weldLine : Nat → Int32} {t_weldPull : Nat → Int32} {t_welds : Int32} {t_orderOf : Nat → Int32} {t_bestOrder : Nat → Int32} {t_smithOf : Nat → Int32} {t_bestSmith : Nat → Int32} {t_busy : Nat → Int32} {x1 : Int32} {x2 : Int32} {o : Int32 × (Nat → Int32) × (Nat → Int32) × (Nat → Int32) × (Nat → Int32) × Int32 × (Nat → Int32)} (hf : f_X12_chosen n t_lineOf t_strengthOf t_waterOf t_backOf t_passes t_tried t_table t_numbers t_bends t_wished t_itemLine t_itemStrength t_itemWater t_itemBack t_items x1 x2 = some o) : Ctr l yX12_chosen cX12_chosen 8 (some .int) 6 133 D cI cC cZ [.ref tq0, .int x1, .int x2] (w_X12 cI cC cZ tq0 tq1 tq2 tq3 tq4 tq5 tq6 tq7 tq8 tq9 tq10 tq11 tq12 tq13 tq14 tq15 tq16 tq17 tq18 tq19 tq20 tq21 tq22 tq23 tq24 t_signs t_signMany t_lineOf t_strengthOf t_waterOf t_backOf t_passes t_tried t_table t_numbers t_bends t_wished t_itemLine t_itemStrength t_itemWater t_itemBack t_items t_worstThen t_reading t_isRead t_readSum t_readMany t_spanLow t_spanHigh t_weldLine t_weldPull t_welds t_orderOf t_bestOrder t_smithOf t_bestSmith t_busy) (w_X12 cI cC cZ tq0 tq1 tq2 tq3 tq4 tq5 tq6 tq7 tq8 tq9 tq10 tq11 tq12 tq13 tq14 tq15 tq16 tq17 tq18 tq19 tq20 tq21 tq22 tq23 tq24 t_signs t_signMany o.2.1 o.2.2.1 o.2.2.2.1 o.2.2.2.2.1 t_passes o.2.2.2.2.2.1 t_table t_numbers o.2.2.2.2.2.2 t_wished t_itemLine t_itemStrength t_itemWater t_itemBack t_items t_worstThen t_reading t_isRead t_readSum t_readMany t_spanLow t_spanHigh t_weldLine t_weldPull t_welds t_orderOf t_bestOrder t_smithOf t_bestSmith t_busy) (some (.int o.1)) := by
  refine Ctr.of (by decide) (Nat.le_of_ble_eq_true rfl) ?_
  intro p e s m args below meth c ls A Q hA hQ C hl hw
  have hx := C.1
  have hb := C.2.1
  have hl : lv_has ls 8 [(0, .ref tq0), (1, .int x1), (2, .int x2)] := hl
  have L98 : ∀ (k35 : (Nat → Int32) → (Nat → Int32) → (Nat → Int32) → (Nat → Int32) → (Int32) → (Nat → Int32) → (Int32) → (Int32) → (Int32) → (Int32) → (Int32) → Option (Int32 × (Nat → Int32) × (Nat → Int32) × (Nat → Int32) × (Nat → Int32) × Int32 × (Nat → Int32))), (∀ (t_lineOf : Nat → Int32) (t_strengthOf : Nat → Int32) (t_waterOf : Nat → Int32) (t_backOf : Nat → Int32) (t_tried : Int32) (t_bends : Nat → Int32) (v1 : Int32) (v2 : Int32) (v3 : Int32) (v4 : Int32) (v5 : Int32) (H : Heap) (locs : List Loc) (ls : Array Slot), Wd D A s.heap (w_X12 cI cC cZ tq0 tq1 tq2 tq3 tq4 tq5 tq6 tq7 tq8 tq9 tq10 tq11 tq12 tq13 tq14 tq15 tq16 tq17 tq18 tq19 tq20 tq21 tq22 tq23 tq24 t_signs t_signMany t_lineOf t_strengthOf t_waterOf t_backOf t_passes t_tried t_table t_numbers t_bends t_wished t_itemLine t_itemStrength t_itemWater t_itemBack t_items t_worstThen t_reading t_isRead t_readSum t_readMany t_spanLow t_spanHigh t_weldLine t_weldPull t_welds t_orderOf t_bestOrder t_smithOf t_bestSmith t_busy) H locs → lv_has ls 8 [(0, .ref tq0), (1, .int v1), (2, .int v2), (3, .int v3), (4, .int v4), (5, .int v5)] → k35 t_lineOf t_strengthOf t_waterOf t_backOf t_tried t_bends v1 v2 v3 v4 v5 = some o → W p l e (rmOf 6 133) s m args below meth c H locs 0 0 Q (F0 m 35 ls [])) → ∀ (n : Nat), ∀ (t_lineOf : Nat → Int32) (t_strengthOf : Nat → Int32) (t_waterOf : Nat → Int32) (t_backOf : Nat → Int32) (t_tried : Int32) (t_bends : Nat → Int32) (v1 : Int32) (v2 : Int32) (v3 : Int32) (v4 : Int32) (v5 : Int32) (v6 : Int32) (s0 : Int32) (H : Heap) (locs : List Loc) (ls : Array Slot), Wd D A s.heap (w_X12 cI cC cZ tq0 tq1 tq2 tq3 tq4 tq5 tq6 tq7 tq8 tq9 tq10 tq11 tq12 tq13 tq14 tq15 tq16 tq17 tq18 tq19 tq20 tq21 tq22 tq23 tq24 t_signs t_signMany t_lineOf t_strengthOf t_waterOf t_backOf t_passes t_tried t_table t_numbers t_bends t_wished t_itemLine t_itemStrength t_itemWater t_itemBack t_items t_worstThen t_reading t_isRead t_readSum t_readMany t_spanLow t_spanHigh t_weldLine t_weldPull t_welds t_orderOf t_bestOrder t_smithOf t_bestSmith t_busy) H locs → lv_has ls 8 [(0, .ref tq0), (1, .int v1), (2, .int v2), (3, .int v3), (4, .int v4), (5, .int v5), (6, .int v6)] → f_X12_chosen_98 t_passes t_table t_numbers t_wished t_itemLine t_itemStrength t_itemWater t_itemBack t_items k35 n t_lineOf t_strengthOf t_waterOf t_backOf t_tried t_bends v1 v2 v3 v4 v5 v6 s0 = some o → W p l e (rmOf 6 133) s m args below meth c H locs 0 0 Q (F0 m 98 ls [.int s0]) := by
    intro k35 H35 n t_lineOf t_strengthOf t_waterOf t_backOf t_tried t_bends v1 v2 v3 v4 v5 v6 s0 H locs ls hw hl hf
    refine lv_istore (lv' := [(7, .int s0), (0, .ref tq0), (1, .int v1), (2, .int v2), (3, .int v3), (4, .int v4), (5, .int v5), (6, .int v6)]) hx hb (dc d_X12_chosen 50 rfl) hl (by decide) rfl (fun ls hl => ?_)
    refine lv_iload hx hb (dc d_X12_chosen 51 rfl) (lv_at hl 7 rfl) ?_
    refine lv_iload_n hx hb (dc d_X12_chosen 52 rfl) rfl (lv_at hl 2 rfl) ?_
    refine lv_icmp_gt (tgt := 118) hx hb (dc d_X12_chosen 53 rfl) (by decide) (fun c18 => ?_) (fun c18 => ?_)
    · have hf := g_t hf c18
      refine lv_iinc (v := (v5 + (1 : Int32))) (lv' := [(5, .int (v5 + (1 : Int32))), (7, .int s0), (0, .ref tq0), (1, .int v1), (2, .int v2), (3, .int v3), (4, .int v4), (6, .int v6)]) hx hb (dc d_X12_chosen 60 rfl) hl (k := 6) rfl (ii (by decide)) (by decide) rfl (fun ls hl => ?_)
      refine lv_goto (tgt := 35) hx hb (dc d_X12_chosen 61 rfl) (by decide) ?_
      exact H35 t_lineOf t_strengthOf t_waterOf t_backOf t_tried t_bends v1 v2 v3 v4 (v5 + (1 : Int32)) _ _ _ hw (lv_sub hl [2, 3, 4, 5, 6, 0] rfl) hf
    · have hf := g_f hf c18
      refine lv_iload hx hb (dc d_X12_chosen 54 rfl) (lv_at hl 0 rfl) ?_
      refine lv_if_eq (tgt := 118) hx hb (dc d_X12_chosen 55 rfl) (by decide) (fun c19 => ?_) (fun c19 => ?_)
      · have hf := g_t hf c19
        refine lv_iinc (v := (v5 + (1 : Int32))) (lv' := [(5, .int (v5 + (1 : Int32))), (7, .int s0), (0, .ref tq0), (1, .int v1), (2, .int v2), (3, .int v3), (4, .int v4), (6, .int v6)]) hx hb (dc d_X12_chosen 60 rfl) hl (k := 6) rfl (ii (by decide)) (by decide) rfl (fun ls hl => ?_)
        refine lv_goto (tgt := 35) hx hb (dc d_X12_chosen 61 rfl) (by decide) ?_
        exact H35 t_lineOf t_strengthOf t_waterOf t_backOf t_tried t_bends v1 v2 v3 v4 (v5 + (1 : Int32)) _ _ _ hw (lv_sub hl [2, 3, 4, 5, 6, 0] rfl) hf
      · have hf := g_f hf c19
        refine lv_iload hx hb (dc d_X12_chosen 56 rfl) (lv_at hl 6 rfl) ?_
        refine lv_istore_n (lv' := [(3, .int v5), (7, .int s0), (0, .ref tq0), (1, .int v1), (2, .int v2), (4, .int v4), (5, .int v5), (6, .int v6)]) hx hb (dc d_X12_chosen 57 rfl) rfl hl (by decide) rfl (fun ls hl => ?_)
        refine lv_iload hx hb (dc d_X12_chosen 58 rfl) (lv_at hl 7 rfl) ?_
        refine lv_istore (lv' := [(4, .int v6), (3, .int v5), (7, .int s0), (0, .ref tq0), (1, .int v1), (2, .int v2), (5, .int v5), (6, .int v6)]) hx hb (dc d_X12_chosen 59 rfl) hl (by decide) rfl (fun ls hl => ?_)
        refine lv_iinc (v := (v5 + (1 : Int32))) (lv' := [(5, .int (v5 + (1 : Int32))), (4, .int v6), (3, .int v5), (7, .int s0), (0, .ref tq0), (1, .int v1), (2, .int v2), (6, .int v6)]) hx hb (dc d_X12_chosen 60 rfl) hl (k := 6) rfl (ii (by decide)) (by decide) rfl (fun ls hl => ?_)
        refine lv_goto (tgt := 35) hx hb (dc d_X12_chosen 61 rfl) (by decide) ?_
        exact H35 t_lineOf t_strengthOf t_waterOf t_backOf t_tried t_bends v1 v2 v5 v6 (v5 + (1 : Int32)) _ _ _ hw (lv_sub hl [4, 5, 6, 2, 1, 0] rfl) hf
  have L93 : ∀ (k35 : (Nat → Int32) → (Nat → Int32) → (Nat → Int32) → (Nat → Int32) → (Int32) → (Nat → Int32) → (Int32) → (Int32) → (Int32) → (Int32) → (Int32) → Option (Int32 × (Nat → Int32) × (Nat → Int32) × (Nat → Int32) × (Nat → Int32) × Int32 × (Nat → Int32))), (∀ (t_lineOf : Nat → Int32) (t_strengthOf : Nat → Int32) (t_waterOf : Nat → Int32) (t_backOf : Nat → Int32) (t_tried : Int32) (t_bends : Nat → Int32) (v1 : Int32) (v2 : Int32) (v3 : Int32) (v4 : Int32) (v5 : Int32) (H : Heap) (locs : List Loc) (ls : Array Slot), Wd D A s.heap (w_X12 cI cC cZ tq0 tq1 tq2 tq3 tq4 tq5 tq6 tq7 tq8 tq9 tq10 tq11 tq12 tq13 tq14 tq15 tq16 tq17 tq18 tq19 tq20 tq21 tq22 tq23 tq24 t_signs t_signMany t_lineOf t_strengthOf t_waterOf t_backOf t_passes t_tried t_table t_numbers t_bends t_wished t_itemLine t_itemStrength t_itemWater t_itemBack t_items t_worstThen t_reading t_isRead t_readSum t_readMany t_spanLow t_spanHigh t_weldLine t_weldPull t_welds t_orderOf t_bestOrder t_smithOf t_bestSmith t_busy) H locs → lv_has ls 8 [(0, .ref tq0), (1, .int v1), (2, .int v2), (3, .int v3), (4, .int v4), (5, .int v5)] → k35 t_lineOf t_strengthOf t_waterOf t_backOf t_tried t_bends v1 v2 v3 v4 v5 = some o → W p l e (rmOf 6 133) s m args below meth c H locs 0 0 Q (F0 m 35 ls [])) → ∀ (n : Nat), ∀ (t_lineOf : Nat → Int32) (t_strengthOf : Nat → Int32) (t_waterOf : Nat → Int32) (t_backOf : Nat → Int32) (t_tried : Int32) (t_bends : Nat → Int32) (v1 : Int32) (v2 : Int32) (v3 : Int32) (v4 : Int32) (v5 : Int32) (v6 : Int32) (H : Heap) (locs : List Loc) (ls : Array Slot), Wd D A s.heap (w_X12 cI cC cZ tq0 tq1 tq2 tq3 tq4 tq5 tq6 tq7 tq8 tq9 tq10 tq11 tq12 tq13 tq14 tq15 tq16 tq17 tq18 tq19 tq20 tq21 tq22 tq23 tq24 t_signs t_signMany t_lineOf t_strengthOf t_waterOf t_backOf t_passes t_tried t_table t_numbers t_bends t_wished t_itemLine t_itemStrength t_itemWater t_itemBack t_items t_worstThen t_reading t_isRead t_readSum t_readMany t_spanLow t_spanHigh t_weldLine t_weldPull t_welds t_orderOf t_bestOrder t_smithOf t_bestSmith t_busy) H locs → lv_has ls 8 [(0, .ref tq0), (1, .int v1), (2, .int v2), (3, .int v3), (4, .int v4), (5, .int v5), (6, .int v6)] → f_X12_chosen_93 t_passes t_table t_numbers t_wished t_itemLine t_itemStrength t_itemWater t_itemBack t_items k35 n t_lineOf t_strengthOf t_waterOf t_backOf t_tried t_bends v1 v2 v3 v4 v5 v6 = some o → W p l e (rmOf 6 133) s m args below meth c H locs 0 0 Q (F0 m 93 ls []) := by
    intro k35 H35 n t_lineOf t_strengthOf t_waterOf t_backOf t_tried t_bends v1 v2 v3 v4 v5 v6 H locs ls hw hl hf
    refine lv_iconst (v := (1 : Int32)) hx hb (dc d_X12_chosen 47 rfl) (by decide) ?_
    refine lv_goto (tgt := 98) hx hb (dc d_X12_chosen 48 rfl) (by decide) ?_
    exact L98 k35 H35 n t_lineOf t_strengthOf t_waterOf t_backOf t_tried t_bends v1 v2 v3 v4 v5 v6 (1 : Int32) _ _ _ hw (lv_sub hl [0, 1, 2, 3, 4, 5, 6] rfl) hf
  have L62 : ∀ (k35 : (Nat → Int32) → (Nat → Int32) → (Nat → Int32) → (Nat → Int32) → (Int32) → (Nat → Int32) → (Int32) → (Int32) → (Int32) → (Int32) → (Int32) → Option (Int32 × (Nat → Int32) × (Nat → Int32) × (Nat → Int32) × (Nat → Int32) × Int32 × (Nat → Int32))), (∀ (t_lineOf : Nat → Int32) (t_strengthOf : Nat → Int32) (t_waterOf : Nat → Int32) (t_backOf : Nat → Int32) (t_tried : Int32) (t_bends : Nat → Int32) (v1 : Int32) (v2 : Int32) (v3 : Int32) (v4 : Int32) (v5 : Int32) (H : Heap) (locs : List Loc) (ls : Array Slot), Wd D A s.heap (w_X12 cI cC cZ tq0 tq1 tq2 tq3 tq4 tq5 tq6 tq7 tq8 tq9 tq10 tq11 tq12 tq13 tq14 tq15 tq16 tq17 tq18 tq19 tq20 tq21 tq22 tq23 tq24 t_signs t_signMany t_lineOf t_strengthOf t_waterOf t_backOf t_passes t_tried t_table t_numbers t_bends t_wished t_itemLine t_itemStrength t_itemWater t_itemBack t_items t_worstThen t_reading t_isRead t_readSum t_readMany t_spanLow t_spanHigh t_weldLine t_weldPull t_welds t_orderOf t_bestOrder t_smithOf t_bestSmith t_busy) H locs → lv_has ls 8 [(0, .ref tq0), (1, .int v1), (2, .int v2), (3, .int v3), (4, .int v4), (5, .int v5)] → k35 t_lineOf t_strengthOf t_waterOf t_backOf t_tried t_bends v1 v2 v3 v4 v5 = some o → W p l e (rmOf 6 133) s m args below meth c H locs 0 0 Q (F0 m 35 ls [])) → ∀ (n : Nat), ∀ (t_lineOf : Nat → Int32) (t_strengthOf : Nat → Int32) (t_waterOf : Nat → Int32) (t_backOf : Nat → Int32) (t_tried : Int32) (t_bends : Nat → Int32) (v1 : Int32) (v2 : Int32) (v3 : Int32) (v4 : Int32) (v5 : Int32) (H : Heap) (locs : List Loc) (ls : Array Slot), Wd D A s.heap (w_X12 cI cC cZ tq0 tq1 tq2 tq3 tq4 tq5 tq6 tq7 tq8 tq9 tq10 tq11 tq12 tq13 tq14 tq15 tq16 tq17 tq18 tq19 tq20 tq21 tq22 tq23 tq24 t_signs t_signMany t_lineOf t_strengthOf t_waterOf t_backOf t_passes t_tried t_table t_numbers t_bends t_wished t_itemLine t_itemStrength t_itemWater t_itemBack t_items t_worstThen t_reading t_isRead t_readSum t_readMany t_spanLow t_spanHigh t_weldLine t_weldPull t_welds t_orderOf t_bestOrder t_smithOf t_bestSmith t_busy) H locs → lv_has ls 8 [(0, .ref tq0), (1, .int v1), (2, .int v2), (3, .int v3), (4, .int v4), (5, .int v5)] → f_X12_chosen_62 t_passes t_table t_numbers t_wished t_itemLine t_itemStrength t_itemWater t_itemBack t_items k35 n t_lineOf t_strengthOf t_waterOf t_backOf t_tried t_bends v1 v2 v3 v4 v5 = some o → W p l e (rmOf 6 133) s m args below meth c H locs 0 0 Q (F0 m 62 ls []) := by
    intro k35 H35 n t_lineOf t_strengthOf t_waterOf t_backOf t_tried t_bends v1 v2 v3 v4 v5 H locs ls hw hl hf
    refine lv_aload_n hx hb (dc d_X12_chosen 33 rfl) rfl (lv_at hl 0 rfl) ?_
    refine lv_iload hx hb (dc d_X12_chosen 34 rfl) (lv_at hl 5 rfl) ?_
    obtain ⟨q12, hq12, hf⟩ := g_bd hf
    refine x_callVa C hw mb_X12_worstWith mv_X12_worstWith ml_X12_200 (k_X12_worstWith n hq12) hl.1 rfl rfl rfl 0 12 rfl rfl (Nat.le_of_ble_eq_true rfl) (Nat.le_of_ble_eq_true rfl) (Nat.le_of_ble_eq_true rfl) (dc d_X12_chosen 35 rfl) (fun H locs hw => ?_)
    refine W.eq (g2 := F0 m 68 ls [.int q12.1]) rfl ?_
    have hw : Wd D A s.heap (w_X12 cI cC cZ tq0 tq1 tq2 tq3 tq4 tq5 tq6 tq7 tq8 tq9 tq10 tq11 tq12 tq13 tq14 tq15 tq16 tq17 tq18 tq19 tq20 tq21 tq22 tq23 tq24 t_signs t_signMany q12.2.1 q12.2.2.1 q12.2.2.2.1 q12.2.2.2.2.1 t_passes q12.2.2.2.2.2.1 t_table t_numbers q12.2.2.2.2.2.2 t_wished t_itemLine t_itemStrength t_itemWater t_itemBack t_items t_worstThen t_reading t_isRead t_readSum t_readMany t_spanLow t_spanHigh t_weldLine t_weldPull t_welds t_orderOf t_bestOrder t_smithOf t_bestSmith t_busy) H locs := hw
    refine lv_istore (lv' := [(6, .int q12.1), (0, .ref tq0), (1, .int v1), (2, .int v2), (3, .int v3), (4, .int v4), (5, .int v5)]) hx hb (dc d_X12_chosen 36 rfl) hl (by decide) rfl (fun ls hl => ?_)
    refine lv_iload_n hx hb (dc d_X12_chosen 37 rfl) rfl (lv_at hl 4 rfl) ?_
    refine lv_if_lt (tgt := 93) hx hb (dc d_X12_chosen 38 rfl) (by decide) (fun c13 => ?_) (fun c13 => ?_)
    · have hf := g_t hf c13
      exact L93 k35 H35 n q12.2.1 q12.2.2.1 q12.2.2.2.1 q12.2.2.2.2.1 q12.2.2.2.2.2.1 q12.2.2.2.2.2.2 v1 v2 v3 v4 v5 q12.1 _ _ _ hw (lv_sub hl [1, 2, 3, 4, 5, 6, 0] rfl) hf
    · have hf := g_f hf c13
      refine lv_iload hx hb (dc d_X12_chosen 39 rfl) (lv_at hl 6 rfl) ?_
      obtain ⟨q14, hq14, hf⟩ := g_bd hf
      refine x_callS C hw mb_X12_ones ms_X12_ones ml_X12_197 (k_X12_ones n hq14) hl.1 rfl rfl [] rfl rfl rfl (Nat.le_of_ble_eq_true rfl) (Nat.le_of_ble_eq_true rfl) (Nat.le_of_ble_eq_true rfl) (dc d_X12_chosen 40 rfl) (fun H locs hw => ?_)
      refine W.eq (g2 := F0 m 79 ls [.int q14]) rfl ?_
      have hw : Wd D A s.heap (w_X12 cI cC cZ tq0 tq1 tq2 tq3 tq4 tq5 tq6 tq7 tq8 tq9 tq10 tq11 tq12 tq13 tq14 tq15 tq16 tq17 tq18 tq19 tq20 tq21 tq22 tq23 tq24 t_signs t_signMany q12.2.1 q12.2.2.1 q12.2.2.2.1 q12.2.2.2.2.1 t_passes q12.2.2.2.2.2.1 t_table t_numbers q12.2.2.2.2.2.2 t_wished t_itemLine t_itemStrength t_itemWater t_itemBack t_items t_worstThen t_reading t_isRead t_readSum t_readMany t_spanLow t_spanHigh t_weldLine t_weldPull t_welds t_orderOf t_bestOrder t_smithOf t_bestSmith t_busy) H locs := hw
      refine lv_iload_n hx hb (dc d_X12_chosen 41 rfl) rfl (lv_at hl 4 rfl) ?_
      obtain ⟨q15, hq15, hf⟩ := g_bd hf
      refine x_callS C hw mb_X12_ones ms_X12_ones ml_X12_197 (k_X12_ones n hq15) hl.1 rfl rfl [] rfl rfl rfl (Nat.le_of_ble_eq_true rfl) (Nat.le_of_ble_eq_true rfl) (Nat.le_of_ble_eq_true rfl) (dc d_X12_chosen 42 rfl) (fun H locs hw => ?_)
      refine W.eq (g2 := F0 m 83 ls [.int q15, .int q14]) rfl ?_
      have hw : Wd D A s.heap (w_X12 cI cC cZ tq0 tq1 tq2 tq3 tq4 tq5 tq6 tq7 tq8 tq9 tq10 tq11 tq12 tq13 tq14 tq15 tq16 tq17 tq18 tq19 tq20 tq21 tq22 tq23 tq24 t_signs t_signMany q12.2.1 q12.2.2.1 q12.2.2.2.1 q12.2.2.2.2.1 t_passes q12.2.2.2.2.2.1 t_table t_numbers q12.2.2.2.2.2.2 t_wished t_itemLine t_itemStrength t_itemWater t_itemBack t_items t_worstThen t_reading t_isRead t_readSum t_readMany t_spanLow t_spanHigh t_weldLine t_weldPull t_welds t_orderOf t_bestOrder t_smithOf t_bestSmith t_busy) H locs := hw
      refine lv_icmp_lt (tgt := 93) hx hb (dc d_X12_chosen 43 rfl) (by decide) (fun c16 => ?_) (fun c16 => ?_)
      · have hf := g_t hf c16
        exact L93 k35 H35 n q12.2.1 q12.2.2.1 q12.2.2.2.1 q12.2.2.2.2.1 q12.2.2.2.2.2.1 q12.2.2.2.2.2.2 v1 v2 v3 v4 v5 q12.1 _ _ _ hw (lv_sub hl [1, 2, 3, 4, 5, 6, 0] rfl) hf
      · have hf := g_f hf c16
        refine lv_iload hx hb (dc d_X12_chosen 44 rfl) (lv_at hl 0 rfl) ?_
        refine lv_iload hx hb (dc d_X12_chosen 45 rfl) (lv_at hl 5 rfl) ?_
        refine lv_icmp_ge (tgt := 97) hx hb (dc d_X12_chosen 46 rfl) (by decide) (fun c17 => ?_) (fun c17 => ?_)
        · have hf := g_t hf c17
          refine lv_iconst (v := (0 : Int32)) hx hb (dc d_X12_chosen 49 rfl) (by decide) ?_
          exact L98 k35 H35 n q12.2.1 q12.2.2.1 q12.2.2.2.1 q12.2.2.2.2.1 q12.2.2.2.2.2.1 q12.2.2.2.2.2.2 v1 v2 v3 v4 v5 q12.1 (0 : Int32) _ _ _ hw (lv_sub hl [1, 2, 3, 4, 5, 6, 0] rfl) hf
        · have hf := g_f hf c17
          exact L93 k35 H35 n q12.2.1 q12.2.2.1 q12.2.2.2.1 q12.2.2.2.2.1 q12.2.2.2.2.2.1 q12.2.2.2.2.2.2 v1 v2 v3 v4 v5 q12.1 _ _ _ hw (lv_sub hl [1, 2, 3, 4, 5, 6, 0] rfl) hf
  have L35 : ∀ (n : Nat), ∀ (t_lineOf : Nat → Int32) (t_strengthOf : Nat → Int32) (t_waterOf : Nat → Int32) (t_backOf : Nat → Int32) (t_tried : Int32) (t_bends : Nat → Int32) (v1 : Int32) (v2 : Int32) (v3 : Int32) (v4 : Int32) (v5 : Int32) (H : Heap) (locs : List Loc) (ls : Array Slot), Wd D A s.heap (w_X12 cI cC cZ tq0 tq1 tq2 tq3 tq4 tq5 tq6 tq7 tq8 tq9 tq10 tq11 tq12 tq13 tq14 tq15 tq16 tq17 tq18 tq19 tq20 tq21 tq22 tq23 tq24 t_signs t_signMany t_lineOf t_strengthOf t_waterOf t_backOf t_passes t_tried t_table t_numbers t_bends t_wished t_itemLine t_itemStrength t_itemWater t_itemBack t_items t_worstThen t_reading t_isRead t_readSum t_readMany t_spanLow t_spanHigh t_weldLine t_weldPull t_welds t_orderOf t_bestOrder t_smithOf t_bestSmith t_busy) H locs → lv_has ls 8 [(0, .ref tq0), (1, .int v1), (2, .int v2), (3, .int v3), (4, .int v4), (5, .int v5)] → f_X12_chosen_35 t_passes t_table t_numbers t_wished t_itemLine t_itemStrength t_itemWater t_itemBack t_items  n t_lineOf t_strengthOf t_waterOf t_backOf t_tried t_bends v1 v2 v3 v4 v5 = some o → W p l e (rmOf 6 133) s m args below meth c H locs 0 0 Q (F0 m 35 ls []) := by
    intro  n
    induction n with
    | zero => intro t_lineOf t_strengthOf t_waterOf t_backOf t_tried t_bends v1 v2 v3 v4 v5 H locs ls hw hl hf; exact (no_none hf).elim
    | succ n ih =>
      intro t_lineOf t_strengthOf t_waterOf t_backOf t_tried t_bends v1 v2 v3 v4 v5 H locs ls hw hl hf
      have hf : f_X12_chosen_35b t_passes t_table t_numbers t_wished t_itemLine t_itemStrength t_itemWater t_itemBack t_items  (f_X12_chosen_35 t_passes t_table t_numbers t_wished t_itemLine t_itemStrength t_itemWater t_itemBack t_items  n) n t_lineOf t_strengthOf t_waterOf t_backOf t_tried t_bends v1 v2 v3 v4 v5 = some o := hf
      generalize f_X12_chosen_35 t_passes t_table t_numbers t_wished t_itemLine t_itemStrength t_itemWater t_itemBack t_items  n = k35 at hf ih
      refine lv_iload hx hb (dc d_X12_chosen 20 rfl) (lv_at hl 5 rfl) ?_
      refine lv_iconst (v := (1 : Int32)) hx hb (dc d_X12_chosen 21 rfl) (by decide) ?_
      refine lv_aload_n hx hb (dc d_X12_chosen 22 rfl) rfl (lv_at hl 0 rfl) ?_
      refine x_get C hw fl_X12_185 0 rfl rfl (dc d_X12_chosen 23 rfl) ?_
      refine x_shl hx hb (dc d_X12_chosen 24 rfl) ?_
      refine lv_icmp_ge (tgt := 124) hx hb (dc d_X12_chosen 25 rfl) (by decide) (fun c5 => ?_) (fun c5 => ?_)
      · have hf := g_t hf c5
        refine lv_iload_n hx hb (dc d_X12_chosen 62 rfl) rfl (lv_at hl 3 rfl) ?_
        refine lv_if_ge (tgt := 133) hx hb (dc d_X12_chosen 63 rfl) (by decide) (fun c6 => ?_) (fun c6 => ?_)
        · have hf := g_t hf c6
          refine lv_iload_n hx hb (dc d_X12_chosen 66 rfl) rfl (lv_at hl 2 rfl) ?_
          refine lv_if_ne (tgt := 141) hx hb (dc d_X12_chosen 67 rfl) (by decide) (fun c7 => ?_) (fun c7 => ?_)
          · have hf := g_f hf c7
            refine lv_iload hx hb (dc d_X12_chosen 70 rfl) (lv_at hl 4 rfl) ?_
            cases hf
            exact x_iret C hA hQ hw rfl rfl (dc d_X12_chosen 71 rfl)
          · have hf := g_t hf c7
            refine lv_iload_n hx hb (dc d_X12_chosen 68 rfl) rfl (lv_at hl 3 rfl) ?_
            refine lv_goto (tgt := 143) hx hb (dc d_X12_chosen 69 rfl) (by decide) ?_
            cases hf
            exact x_iret C hA hQ hw rfl rfl (dc d_X12_chosen 71 rfl)
        · have hf := g_f hf c6
          refine lv_bipush (v := (-5 : Int32)) hx hb (dc d_X12_chosen 64 rfl) (by decide) ?_
          refine lv_goto (tgt := 143) hx hb (dc d_X12_chosen 65 rfl) (by decide) ?_
          cases hf
          exact x_iret C hA hQ hw rfl rfl (dc d_X12_chosen 71 rfl)
      · have hf := g_f hf c5
        refine lv_iload_n hx hb (dc d_X12_chosen 26 rfl) rfl (lv_at hl 3 rfl) ?_
        refine lv_if_lt (tgt := 62) hx hb (dc d_X12_chosen 27 rfl) (by decide) (fun c8 => ?_) (fun c8 => ?_)
        · have hf := g_t hf c8
          exact L62 k35 ih n t_lineOf t_strengthOf t_waterOf t_backOf t_tried t_bends v1 v2 v3 v4 v5 _ _ _ hw (lv_sub hl [0, 1, 2, 3, 4, 5] rfl) hf
        · have hf := g_f hf c8
          refine lv_iload hx hb (dc d_X12_chosen 28 rfl) (lv_at hl 5 rfl) ?_
          obtain ⟨q9, hq9, hf⟩ := g_bd hf
          refine x_callS C hw mb_X12_ones ms_X12_ones ml_X12_197 (k_X12_ones n hq9) hl.1 rfl rfl [] rfl rfl rfl (Nat.le_of_ble_eq_true rfl) (Nat.le_of_ble_eq_true rfl) (Nat.le_of_ble_eq_true rfl) (dc d_X12_chosen 29 rfl) (fun H locs hw => ?_)
          refine W.eq (g2 := F0 m 55 ls [.int q9]) rfl ?_
          have hw : Wd D A s.heap (w_X12 cI cC cZ tq0 tq1 tq2 tq3 tq4 tq5 tq6 tq7 tq8 tq9 tq10 tq11 tq12 tq13 tq14 tq15 tq16 tq17 tq18 tq19 tq20 tq21 tq22 tq23 tq24 t_signs t_signMany t_lineOf t_strengthOf t_waterOf t_backOf t_passes t_tried t_table t_numbers t_bends t_wished t_itemLine t_itemStrength t_itemWater t_itemBack t_items t_worstThen t_reading t_isRead t_readSum t_readMany t_spanLow t_spanHigh t_weldLine t_weldPull t_welds t_orderOf t_bestOrder t_smithOf t_bestSmith t_busy) H locs := hw
          refine lv_iload_n hx hb (dc d_X12_chosen 30 rfl) rfl (lv_at hl 3 rfl) ?_
          obtain ⟨q10, hq10, hf⟩ := g_bd hf
          refine x_callS C hw mb_X12_ones ms_X12_ones ml_X12_197 (k_X12_ones n hq10) hl.1 rfl rfl [] rfl rfl rfl (Nat.le_of_ble_eq_true rfl) (Nat.le_of_ble_eq_true rfl) (Nat.le_of_ble_eq_true rfl) (dc d_X12_chosen 31 rfl) (fun H locs hw => ?_)
          refine W.eq (g2 := F0 m 59 ls [.int q10, .int q9]) rfl ?_
          have hw : Wd D A s.heap (w_X12 cI cC cZ tq0 tq1 tq2 tq3 tq4 tq5 tq6 tq7 tq8 tq9 tq10 tq11 tq12 tq13 tq14 tq15 tq16 tq17 tq18 tq19 tq20 tq21 tq22 tq23 tq24 t_signs t_signMany t_lineOf t_strengthOf t_waterOf t_backOf t_passes t_tried t_table t_numbers t_bends t_wished t_itemLine t_itemStrength t_itemWater t_itemBack t_items t_worstThen t_reading t_isRead t_readSum t_readMany t_spanLow t_spanHigh t_weldLine t_weldPull t_welds t_orderOf t_bestOrder t_smithOf t_bestSmith t_busy) H locs := hw
          refine lv_icmp_gt (tgt := 118) hx hb (dc d_X12_chosen 32 rfl) (by decide) (fun c11 => ?_) (fun c11 => ?_)
          · have hf := g_t hf c11
            refine lv_iinc (v := (v5 + (1 : Int32))) (lv' := [(5, .int (v5 + (1 : Int32))), (0, .ref tq0), (1, .int v1), (2, .int v2), (3, .int v3), (4, .int v4)]) hx hb (dc d_X12_chosen 60 rfl) hl (k := 5) rfl (ii (by decide)) (by decide) rfl (fun ls hl => ?_)
            refine lv_goto (tgt := 35) hx hb (dc d_X12_chosen 61 rfl) (by decide) ?_
            exact ih t_lineOf t_strengthOf t_waterOf t_backOf t_tried t_bends v1 v2 v3 v4 (v5 + (1 : Int32)) _ _ _ hw (lv_sub hl [1, 2, 3, 4, 5, 0] rfl) hf
          · have hf := g_f hf c11
            exact L62 k35 ih n t_lineOf t_strengthOf t_waterOf t_backOf t_tried t_bends v1 v2 v3 v4 v5 _ _ _ hw (lv_sub hl [0, 1, 2, 3, 4, 5] rfl) hf
  refine lv_iload_n hx hb (dc d_X12_chosen 0 rfl) rfl (lv_at hl 1 rfl) ?_
  refine lv_i2l (v := x1.toInt64) hx hb (dc d_X12_chosen 1 rfl) rfl ?_
  refine lv_lconst (v := (0 : Int64)) hx hb (dc d_X12_chosen 2 rfl) (by decide) ?_
  refine x_ldc2 (v := (100000000 : Int64)) C cn_X12_194 (dc d_X12_chosen 3 rfl) ?_
  obtain ⟨q1, hq1, hf⟩ := g_bd hf
  refine x_callS C hw mb_X12_in ms_X12_in ml_X12_85 (k_X12_in n hq1) hl.1 rfl rfl [] rfl rfl rfl (Nat.le_of_ble_eq_true rfl) (Nat.le_of_ble_eq_true rfl) (Nat.le_of_ble_eq_true rfl) (dc d_X12_chosen 4 rfl) (fun H locs hw => ?_)
  refine W.eq (g2 := F0 m 9 ls [.int q1]) rfl ?_
  have hw : Wd D A s.heap (w_X12 cI cC cZ tq0 tq1 tq2 tq3 tq4 tq5 tq6 tq7 tq8 tq9 tq10 tq11 tq12 tq13 tq14 tq15 tq16 tq17 tq18 tq19 tq20 tq21 tq22 tq23 tq24 t_signs t_signMany t_lineOf t_strengthOf t_waterOf t_backOf t_passes t_tried t_table t_numbers t_bends t_wished t_itemLine t_itemStrength t_itemWater t_itemBack t_items t_worstThen t_reading t_isRead t_readSum t_readMany t_spanLow t_spanHigh t_weldLine t_weldPull t_welds t_orderOf t_bestOrder t_smithOf t_bestSmith t_busy) H locs := hw
  refine lv_if_eq (tgt := 22) hx hb (dc d_X12_chosen 5 rfl) (by decide) (fun c2 => ?_) (fun c2 => ?_)
  · have hf := g_t hf c2
    refine lv_bipush (v := (-2 : Int32)) hx hb (dc d_X12_chosen 12 rfl) (by decide) ?_
    cases hf
    exact x_iret C hA hQ hw rfl rfl (dc d_X12_chosen 13 rfl)
  · have hf := g_f hf c2
    refine lv_iload_n hx hb (dc d_X12_chosen 6 rfl) rfl (lv_at hl 2 rfl) ?_
    refine lv_i2l (v := x2.toInt64) hx hb (dc d_X12_chosen 7 rfl) rfl ?_
    refine lv_lconst (v := (0 : Int64)) hx hb (dc d_X12_chosen 8 rfl) (by decide) ?_
    refine lv_lconst (v := (1 : Int64)) hx hb (dc d_X12_chosen 9 rfl) (by decide) ?_
    obtain ⟨q3, hq3, hf⟩ := g_bd hf
    refine x_callS C hw mb_X12_in ms_X12_in ml_X12_85 (k_X12_in n hq3) hl.1 rfl rfl [] rfl rfl rfl (Nat.le_of_ble_eq_true rfl) (Nat.le_of_ble_eq_true rfl) (Nat.le_of_ble_eq_true rfl) (dc d_X12_chosen 10 rfl) (fun H locs hw => ?_)
    refine W.eq (g2 := F0 m 19 ls [.int q3]) rfl ?_
    have hw : Wd D A s.heap (w_X12 cI cC cZ tq0 tq1 tq2 tq3 tq4 tq5 tq6 tq7 tq8 tq9 tq10 tq11 tq12 tq13 tq14 tq15 tq16 tq17 tq18 tq19 tq20 tq21 tq22 tq23 tq24 t_signs t_signMany t_lineOf t_strengthOf t_waterOf t_backOf t_passes t_tried t_table t_numbers t_bends t_wished t_itemLine t_itemStrength t_itemWater t_itemBack t_items t_worstThen t_reading t_isRead t_readSum t_readMany t_spanLow t_spanHigh t_weldLine t_weldPull t_welds t_orderOf t_bestOrder t_smithOf t_bestSmith t_busy) H locs := hw
    refine lv_if_ne (tgt := 25) hx hb (dc d_X12_chosen 11 rfl) (by decide) (fun c4 => ?_) (fun c4 => ?_)
    · have hf := g_f hf c4
      refine lv_bipush (v := (-5 : Int32)) hx hb (dc d_X12_chosen 14 rfl) (by decide) ?_
      refine lv_istore_n (lv' := [(3, .int (-5 : Int32)), (0, .ref tq0), (1, .int x1), (2, .int x2)]) hx hb (dc d_X12_chosen 15 rfl) rfl hl (by decide) rfl (fun ls hl => ?_)
      refine x_ldc (v := (2000000000 : Int32)) C cn_X12_196 (dc d_X12_chosen 16 rfl) ?_
      refine lv_istore (lv' := [(4, .int (2000000000 : Int32)), (3, .int (-5 : Int32)), (0, .ref tq0), (1, .int x1), (2, .int x2)]) hx hb (dc d_X12_chosen 17 rfl) hl (by decide) rfl (fun ls hl => ?_)
      refine lv_iconst (v := (0 : Int32)) hx hb (dc d_X12_chosen 18 rfl) (by decide) ?_
      refine lv_istore (lv' := [(5, .int (0 : Int32)), (4, .int (2000000000 : Int32)), (3, .int (-5 : Int32)), (0, .ref tq0), (1, .int x1), (2, .int x2)]) hx hb (dc d_X12_chosen 19 rfl) hl (by decide) rfl (fun ls hl => ?_)
      exact L35  n t_lineOf t_strengthOf t_waterOf t_backOf t_tried t_bends x1 x2 (-5 : Int32) (2000000000 : Int32) (0 : Int32) _ _ _ hw (lv_sub hl [3, 4, 5, 2, 1, 0] rfl) hf
    · have hf := g_t hf c4
      refine lv_bipush (v := (-2 : Int32)) hx hb (dc d_X12_chosen 12 rfl) (by decide) ?_
      cases hf
      exact x_iret C hA hQ hw rfl rfl (dc d_X12_chosen 13 rfl)
set_option maxHeartbeats 4000000 in
set_option maxRecDepth 100000 in
theorem k_X12_nextItem (n : Nat) {l : Launch} {D : va_G} {cI cC cZ : ClassId} {tq0 tq1 tq2 tq3 tq4 tq5 tq6 tq7 tq8 tq9 tq10 tq11 tq12 tq13 tq14 tq15 tq16 tq17 tq18 tq19 tq20 tq21 tq22 tq23 tq24 : Nat} {t_signs : Nat → Int32} {t_signMany : Int32} {t_lineOf : Nat → Int32} {t_strengthOf : Nat → Int32} {t_waterOf : Nat → Int32} {t_backOf : Nat → Int32} {t_passes : Int32} {t_tried : Int32} {t_table : Nat → Int32} {t_numbers : Nat → Int32} {t_bends : Nat → Int32} {t_wished : Nat → Int32} {t_itemLine : Nat → Int32} {t_itemStrength : Nat → Int32} {t_itemWater : Nat → Int32} {t_itemBack : Nat → Int32} {t_items : Int32} {t_worstThen : Int32} {t_reading : Nat → Int32} {t_isRead : Nat → Int32} {t_readSum : Int32} {t_readMany : Int32} {t_spanLow : Nat → Int32} {t_spanHigh : Nat → Int32} {t_weldLine : Nat → Int32} {t_weldPull : Nat → Int32} {t_welds : Int32} {t_orderOf : Nat → Int32} {t_bestOrder : Nat → Int32} {t_smithOf : Nat → Int32} {t_bestSmith : Nat → Int32} {t_busy : Nat → Int32} {x1 : Int32} {o : Int32 × (Nat → Int32) × (Nat → Int32) × (Nat → Int32) × (Nat → Int32) × Int32 × (Nat → Int32) × Int32} (hf : f_X12_nextItem n t_lineOf t_strengthOf t_waterOf t_backOf t_tried t_table t_numbers t_bends t_wished t_itemLine t_itemStrength t_itemWater t_itemBack t_items t_worstThen x1 = some o) : Ctr l yX12_nextItem cX12_nextItem 6 (some .int) 5 111 D cI cC cZ [.ref tq0, .int x1] (w_X12 cI cC cZ tq0 tq1 tq2 tq3 tq4 tq5 tq6 tq7 tq8 tq9 tq10 tq11 tq12 tq13 tq14 tq15 tq16 tq17 tq18 tq19 tq20 tq21 tq22 tq23 tq24 t_signs t_signMany t_lineOf t_strengthOf t_waterOf t_backOf t_passes t_tried t_table t_numbers t_bends t_wished t_itemLine t_itemStrength t_itemWater t_itemBack t_items t_worstThen t_reading t_isRead t_readSum t_readMany t_spanLow t_spanHigh t_weldLine t_weldPull t_welds t_orderOf t_bestOrder t_smithOf t_bestSmith t_busy) (w_X12 cI cC cZ tq0 tq1 tq2 tq3 tq4 tq5 tq6 tq7 tq8 tq9 tq10 tq11 tq12 tq13 tq14 tq15 tq16 tq17 tq18 tq19 tq20 tq21 tq22 tq23 tq24 t_signs t_signMany o.2.1 o.2.2.1 o.2.2.2.1 o.2.2.2.2.1 t_passes o.2.2.2.2.2.1 t_table t_numbers o.2.2.2.2.2.2.1 t_wished t_itemLine t_itemStrength t_itemWater t_itemBack t_items o.2.2.2.2.2.2.2 t_reading t_isRead t_readSum t_readMany t_spanLow t_spanHigh t_weldLine t_weldPull t_welds t_orderOf t_bestOrder t_smithOf t_bestSmith t_busy) (some (.int o.1)) := by
  refine Ctr.of (by decide) (Nat.le_of_ble_eq_true rfl) ?_
  intro p e s m args below meth c ls A Q hA hQ C hl hw
  have hx := C.1
  have hb := C.2.1
  have hl : lv_has ls 6 [(0, .ref tq0), (1, .int x1)] := hl
  have L17 : ∀ (n : Nat), ∀ (t_lineOf : Nat → Int32) (t_strengthOf : Nat → Int32) (t_waterOf : Nat → Int32) (t_backOf : Nat → Int32) (t_tried : Int32) (t_bends : Nat → Int32) (t_worstThen : Int32) (v1 : Int32) (v2 : Int32) (v3 : Int32) (v4 : Int32) (H : Heap) (locs : List Loc) (ls : Array Slot), Wd D A s.heap (w_X12 cI cC cZ tq0 tq1 tq2 tq3 tq4 tq5 tq6 tq7 tq8 tq9 tq10 tq11 tq12 tq13 tq14 tq15 tq16 tq17 tq18 tq19 tq20 tq21 tq22 tq23 tq24 t_signs t_signMany t_lineOf t_strengthOf t_waterOf t_backOf t_passes t_tried t_table t_numbers t_bends t_wished t_itemLine t_itemStrength t_itemWater t_itemBack t_items t_worstThen t_reading t_isRead t_readSum t_readMany t_spanLow t_spanHigh t_weldLine t_weldPull t_welds t_orderOf t_bestOrder t_smithOf t_bestSmith t_busy) H locs → lv_has ls 6 [(0, .ref tq0), (1, .int v1), (2, .int v2), (3, .int v3), (4, .int v4)] → f_X12_nextItem_17 t_table t_numbers t_wished t_itemLine t_itemStrength t_itemWater t_itemBack t_items  n t_lineOf t_strengthOf t_waterOf t_backOf t_tried t_bends t_worstThen v1 v2 v3 v4 = some o → W p l e (rmOf 5 111) s m args below meth c H locs 0 0 Q (F0 m 17 ls []) := by
    intro  n
    induction n with
    | zero => intro t_lineOf t_strengthOf t_waterOf t_backOf t_tried t_bends t_worstThen v1 v2 v3 v4 H locs ls hw hl hf; exact (no_none hf).elim
    | succ n ih =>
      intro t_lineOf t_strengthOf t_waterOf t_backOf t_tried t_bends t_worstThen v1 v2 v3 v4 H locs ls hw hl hf
      have hf : f_X12_nextItem_17b t_table t_numbers t_wished t_itemLine t_itemStrength t_itemWater t_itemBack t_items  (f_X12_nextItem_17 t_table t_numbers t_wished t_itemLine t_itemStrength t_itemWater t_itemBack t_items  n) n t_lineOf t_strengthOf t_waterOf t_backOf t_tried t_bends t_worstThen v1 v2 v3 v4 = some o := hf
      generalize f_X12_nextItem_17 t_table t_numbers t_wished t_itemLine t_itemStrength t_itemWater t_itemBack t_items  n = k17 at hf ih
      refine lv_iload hx hb (dc d_X12_nextItem 10 rfl) (lv_at hl 4 rfl) ?_
      refine lv_aload_n hx hb (dc d_X12_nextItem 11 rfl) rfl (lv_at hl 0 rfl) ?_
      refine x_get C hw fl_X12_185 0 rfl rfl (dc d_X12_nextItem 12 rfl) ?_
      refine lv_icmp_ge (tgt := 71) hx hb (dc d_X12_nextItem 13 rfl) (by decide) (fun c1 => ?_) (fun c1 => ?_)
      · have hf := g_t hf c1
        refine lv_aload_n hx hb (dc d_X12_nextItem 36 rfl) rfl (lv_at hl 0 rfl) ?_
        refine lv_iload_n hx hb (dc d_X12_nextItem 37 rfl) rfl (lv_at hl 2 rfl) ?_
        refine x_put C hw fl_X12_188 fw_X12_7 0 rfl rfl rfl (Nat.le_of_ble_eq_true rfl) (dc d_X12_nextItem 38 rfl) (fun H locs hw => ?_)
        dsimp only [w_X12, mix, List.set_cons_succ, List.set_cons_zero] at hw
        have hw : Wd D A s.heap (w_X12 cI cC cZ tq0 tq1 tq2 tq3 tq4 tq5 tq6 tq7 tq8 tq9 tq10 tq11 tq12 tq13 tq14 tq15 tq16 tq17 tq18 tq19 tq20 tq21 tq22 tq23 tq24 t_signs t_signMany t_lineOf t_strengthOf t_waterOf t_backOf t_passes v2 t_table t_numbers t_bends t_wished t_itemLine t_itemStrength t_itemWater t_itemBack t_items t_worstThen t_reading t_isRead t_readSum t_readMany t_spanLow t_spanHigh t_weldLine t_weldPull t_welds t_orderOf t_bestOrder t_smithOf t_bestSmith t_busy) H locs := hw
        refine lv_iload_n hx hb (dc d_X12_nextItem 39 rfl) rfl (lv_at hl 3 rfl) ?_
        refine lv_if_lt (tgt := 99) hx hb (dc d_X12_nextItem 40 rfl) (by decide) (fun c2 => ?_) (fun c2 => ?_)
        · have hf := g_t hf c2
          refine lv_bipush (v := (-6 : Int32)) hx hb (dc d_X12_nextItem 52 rfl) (by decide) ?_
          cases hf
          exact x_iret C hA hQ hw rfl rfl (dc d_X12_nextItem 53 rfl)
        · have hf := g_f hf c2
          refine lv_iload_n hx hb (dc d_X12_nextItem 41 rfl) rfl (lv_at hl 1 rfl) ?_
          refine lv_aload_n hx hb (dc d_X12_nextItem 42 rfl) rfl (lv_at hl 0 rfl) ?_
          refine x_get C hw fl_X12_203 0 rfl rfl (dc d_X12_nextItem 43 rfl) ?_
          refine lv_isub hx hb (dc d_X12_nextItem 44 rfl) ?_
          refine lv_aload_n hx hb (dc d_X12_nextItem 45 rfl) rfl (lv_at hl 0 rfl) ?_
          refine x_get C hw fl_X12_28 0 rfl rfl (dc d_X12_nextItem 46 rfl) ?_
          refine lv_iconst (v := (3 : Int32)) hx hb (dc d_X12_nextItem 47 rfl) (by decide) ?_
          refine x_iald C hw 7 rfl (by decide) (dc d_X12_nextItem 48 rfl) ?_
          refine lv_icmp_lt (tgt := 99) hx hb (dc d_X12_nextItem 49 rfl) (by decide) (fun c3 => ?_) (fun c3 => ?_)
          · have hf := g_t hf c3
            refine lv_bipush (v := (-6 : Int32)) hx hb (dc d_X12_nextItem 52 rfl) (by decide) ?_
            cases hf
            exact x_iret C hA hQ hw rfl rfl (dc d_X12_nextItem 53 rfl)
          · have hf := g_f hf c3
            refine lv_iload_n hx hb (dc d_X12_nextItem 50 rfl) rfl (lv_at hl 3 rfl) ?_
            refine lv_goto (tgt := 101) hx hb (dc d_X12_nextItem 51 rfl) (by decide) ?_
            cases hf
            exact x_iret C hA hQ hw rfl rfl (dc d_X12_nextItem 53 rfl)
      · have hf := g_f hf c1
        refine lv_aload_n hx hb (dc d_X12_nextItem 14 rfl) rfl (lv_at hl 0 rfl) ?_
        refine lv_iload_n hx hb (dc d_X12_nextItem 15 rfl) rfl (lv_at hl 2 rfl) ?_
        refine x_put C hw fl_X12_188 fw_X12_7 0 rfl rfl rfl (Nat.le_of_ble_eq_true rfl) (dc d_X12_nextItem 16 rfl) (fun H locs hw => ?_)
        dsimp only [w_X12, mix, List.set_cons_succ, List.set_cons_zero] at hw
        have hw : Wd D A s.heap (w_X12 cI cC cZ tq0 tq1 tq2 tq3 tq4 tq5 tq6 tq7 tq8 tq9 tq10 tq11 tq12 tq13 tq14 tq15 tq16 tq17 tq18 tq19 tq20 tq21 tq22 tq23 tq24 t_signs t_signMany t_lineOf t_strengthOf t_waterOf t_backOf t_passes v2 t_table t_numbers t_bends t_wished t_itemLine t_itemStrength t_itemWater t_itemBack t_items t_worstThen t_reading t_isRead t_readSum t_readMany t_spanLow t_spanHigh t_weldLine t_weldPull t_welds t_orderOf t_bestOrder t_smithOf t_bestSmith t_busy) H locs := hw
        refine lv_aload_n hx hb (dc d_X12_nextItem 17 rfl) rfl (lv_at hl 0 rfl) ?_
        refine lv_iload hx hb (dc d_X12_nextItem 18 rfl) (lv_at hl 4 rfl) ?_
        obtain ⟨q4, hq4, hf⟩ := g_bd hf
        refine x_callVa C hw mb_X12_tryItem mv_X12_tryItem ml_X12_191 (k_X12_tryItem n hq4) hl.1 rfl rfl rfl 0 12 rfl rfl (Nat.le_of_ble_eq_true rfl) (Nat.le_of_ble_eq_true rfl) (Nat.le_of_ble_eq_true rfl) (dc d_X12_nextItem 19 rfl) (fun H locs hw => ?_)
        refine W.eq (g2 := F0 m 37 ls []) rfl ?_
        have hw : Wd D A s.heap (w_X12 cI cC cZ tq0 tq1 tq2 tq3 tq4 tq5 tq6 tq7 tq8 tq9 tq10 tq11 tq12 tq13 tq14 tq15 tq16 tq17 tq18 tq19 tq20 tq21 tq22 tq23 tq24 t_signs t_signMany q4.1 q4.2.1 q4.2.2.1 q4.2.2.2.1 t_passes q4.2.2.2.2 t_table t_numbers t_bends t_wished t_itemLine t_itemStrength t_itemWater t_itemBack t_items t_worstThen t_reading t_isRead t_readSum t_readMany t_spanLow t_spanHigh t_weldLine t_weldPull t_welds t_orderOf t_bestOrder t_smithOf t_bestSmith t_busy) H locs := hw
        refine lv_aload_n hx hb (dc d_X12_nextItem 20 rfl) rfl (lv_at hl 0 rfl) ?_
        refine lv_aload_n hx hb (dc d_X12_nextItem 21 rfl) rfl (lv_at hl 0 rfl) ?_
        refine x_get C hw fl_X12_188 0 rfl rfl (dc d_X12_nextItem 22 rfl) ?_
        obtain ⟨q5, hq5, hf⟩ := g_bd hf
        refine x_callVa C hw mb_X12_worstBy mv_X12_worstBy ml_X12_176 (k_X12_worstBy n hq5) hl.1 rfl rfl rfl 0 12 rfl rfl (Nat.le_of_ble_eq_true rfl) (Nat.le_of_ble_eq_true rfl) (Nat.le_of_ble_eq_true rfl) (dc d_X12_nextItem 23 rfl) (fun H locs hw => ?_)
        refine W.eq (g2 := F0 m 45 ls [.int q5.1]) rfl ?_
        have hw : Wd D A s.heap (w_X12 cI cC cZ tq0 tq1 tq2 tq3 tq4 tq5 tq6 tq7 tq8 tq9 tq10 tq11 tq12 tq13 tq14 tq15 tq16 tq17 tq18 tq19 tq20 tq21 tq22 tq23 tq24 t_signs t_signMany q4.1 q4.2.1 q4.2.2.1 q4.2.2.2.1 t_passes q4.2.2.2.2 t_table t_numbers q5.2 t_wished t_itemLine t_itemStrength t_itemWater t_itemBack t_items t_worstThen t_reading t_isRead t_readSum t_readMany t_spanLow t_spanHigh t_weldLine t_weldPull t_welds t_orderOf t_bestOrder t_smithOf t_bestSmith t_busy) H locs := hw
        refine lv_istore (lv' := [(5, .int q5.1), (0, .ref tq0), (1, .int v1), (2, .int v2), (3, .int v3), (4, .int v4)]) hx hb (dc d_X12_nextItem 24 rfl) hl (by decide) rfl (fun ls hl => ?_)
        refine lv_iload hx hb (dc d_X12_nextItem 25 rfl) (lv_at hl 0 rfl) ?_
        refine lv_aload_n hx hb (dc d_X12_nextItem 26 rfl) rfl (lv_at hl 1 rfl) ?_
        refine x_get C hw fl_X12_203 0 rfl rfl (dc d_X12_nextItem 27 rfl) ?_
        refine lv_icmp_ge (tgt := 65) hx hb (dc d_X12_nextItem 28 rfl) (by decide) (fun c6 => ?_) (fun c6 => ?_)
        · have hf := g_t hf c6
          refine lv_iinc (v := (v4 + (1 : Int32))) (lv' := [(4, .int (v4 + (1 : Int32))), (5, .int q5.1), (0, .ref tq0), (1, .int v1), (2, .int v2), (3, .int v3)]) hx hb (dc d_X12_nextItem 34 rfl) hl (k := 5) rfl (ii (by decide)) (by decide) rfl (fun ls hl => ?_)
          refine lv_goto (tgt := 17) hx hb (dc d_X12_nextItem 35 rfl) (by decide) ?_
          exact ih q4.1 q4.2.1 q4.2.2.1 q4.2.2.2.1 q4.2.2.2.2 q5.2 t_worstThen v1 v2 v3 (v4 + (1 : Int32)) _ _ _ hw (lv_sub hl [2, 3, 4, 5, 0] rfl) hf
        · have hf := g_f hf c6
          refine lv_aload_n hx hb (dc d_X12_nextItem 29 rfl) rfl (lv_at hl 1 rfl) ?_
          refine lv_iload hx hb (dc d_X12_nextItem 30 rfl) (lv_at hl 0 rfl) ?_
          refine x_put C hw fl_X12_203 fw_X12_17 0 rfl rfl rfl (Nat.le_of_ble_eq_true rfl) (dc d_X12_nextItem 31 rfl) (fun H locs hw => ?_)
          dsimp only [w_X12, mix, List.set_cons_succ, List.set_cons_zero] at hw
          have hw : Wd D A s.heap (w_X12 cI cC cZ tq0 tq1 tq2 tq3 tq4 tq5 tq6 tq7 tq8 tq9 tq10 tq11 tq12 tq13 tq14 tq15 tq16 tq17 tq18 tq19 tq20 tq21 tq22 tq23 tq24 t_signs t_signMany q4.1 q4.2.1 q4.2.2.1 q4.2.2.2.1 t_passes q4.2.2.2.2 t_table t_numbers q5.2 t_wished t_itemLine t_itemStrength t_itemWater t_itemBack t_items q5.1 t_reading t_isRead t_readSum t_readMany t_spanLow t_spanHigh t_weldLine t_weldPull t_welds t_orderOf t_bestOrder t_smithOf t_bestSmith t_busy) H locs := hw
          refine lv_iload hx hb (dc d_X12_nextItem 32 rfl) (lv_at hl 5 rfl) ?_
          refine lv_istore_n (lv' := [(3, .int v4), (5, .int q5.1), (0, .ref tq0), (1, .int v1), (2, .int v2), (4, .int v4)]) hx hb (dc d_X12_nextItem 33 rfl) rfl hl (by decide) rfl (fun ls hl => ?_)
          refine lv_iinc (v := (v4 + (1 : Int32))) (lv' := [(4, .int (v4 + (1 : Int32))), (3, .int v4), (5, .int q5.1), (0, .ref tq0), (1, .int v1), (2, .int v2)]) hx hb (dc d_X12_nextItem 34 rfl) hl (k := 5) rfl (ii (by decide)) (by decide) rfl (fun ls hl => ?_)
          refine lv_goto (tgt := 17) hx hb (dc d_X12_nextItem 35 rfl) (by decide) ?_
          exact ih q4.1 q4.2.1 q4.2.2.1 q4.2.2.2.1 q4.2.2.2.2 q5.2 q5.1 v1 v2 v4 (v4 + (1 : Int32)) _ _ _ hw (lv_sub hl [3, 4, 5, 1, 0] rfl) hf
  refine lv_aload_n hx hb (dc d_X12_nextItem 0 rfl) rfl (lv_at hl 0 rfl) ?_
  refine x_get C hw fl_X12_188 0 rfl rfl (dc d_X12_nextItem 1 rfl) ?_
  refine lv_istore_n (lv' := [(2, .int t_tried), (0, .ref tq0), (1, .int x1)]) hx hb (dc d_X12_nextItem 2 rfl) rfl hl (by decide) rfl (fun ls hl => ?_)
  refine lv_bipush (v := (-6 : Int32)) hx hb (dc d_X12_nextItem 3 rfl) (by decide) ?_
  refine lv_istore_n (lv' := [(3, .int (-6 : Int32)), (2, .int t_tried), (0, .ref tq0), (1, .int x1)]) hx hb (dc d_X12_nextItem 4 rfl) rfl hl (by decide) rfl (fun ls hl => ?_)
  refine lv_aload_n hx hb (dc d_X12_nextItem 5 rfl) rfl (lv_at hl 2 rfl) ?_
  refine x_ldc (v := (2000000000 : Int32)) C cn_X12_196 (dc d_X12_nextItem 6 rfl) ?_
  refine x_put C hw fl_X12_203 fw_X12_17 0 rfl rfl rfl (Nat.le_of_ble_eq_true rfl) (dc d_X12_nextItem 7 rfl) (fun H locs hw => ?_)
  dsimp only [w_X12, mix, List.set_cons_succ, List.set_cons_zero] at hw
  have hw : Wd D A s.heap (w_X12 cI cC cZ tq0 tq1 tq2 tq3 tq4 tq5 tq6 tq7 tq8 tq9 tq10 tq11 tq12 tq13 tq14 tq15 tq16 tq17 tq18 tq19 tq20 tq21 tq22 tq23 tq24 t_signs t_signMany t_lineOf t_strengthOf t_waterOf t_backOf t_passes t_tried t_table t_numbers t_bends t_wished t_itemLine t_itemStrength t_itemWater t_itemBack t_items (2000000000 : Int32) t_reading t_isRead t_readSum t_readMany t_spanLow t_spanHigh t_weldLine t_weldPull t_welds t_orderOf t_bestOrder t_smithOf t_bestSmith t_busy) H locs := hw
  refine lv_iconst (v := (0 : Int32)) hx hb (dc d_X12_nextItem 8 rfl) (by decide) ?_
  refine lv_istore (lv' := [(4, .int (0 : Int32)), (3, .int (-6 : Int32)), (2, .int t_tried), (0, .ref tq0), (1, .int x1)]) hx hb (dc d_X12_nextItem 9 rfl) hl (by decide) rfl (fun ls hl => ?_)
  exact L17  n t_lineOf t_strengthOf t_waterOf t_backOf t_tried t_bends (2000000000 : Int32) x1 t_tried (-6 : Int32) (0 : Int32) _ _ _ hw (lv_sub hl [3, 4, 2, 1, 0] rfl) hf
set_option maxHeartbeats 4000000 in
set_option maxRecDepth 100000 in
theorem k_X12_next (n : Nat) {l : Launch} {D : va_G} {cI cC cZ : ClassId} {tq0 tq1 tq2 tq3 tq4 tq5 tq6 tq7 tq8 tq9 tq10 tq11 tq12 tq13 tq14 tq15 tq16 tq17 tq18 tq19 tq20 tq21 tq22 tq23 tq24 : Nat} {t_signs : Nat → Int32} {t_signMany : Int32} {t_lineOf : Nat → Int32} {t_strengthOf : Nat → Int32} {t_waterOf : Nat → Int32} {t_backOf : Nat → Int32} {t_passes : Int32} {t_tried : Int32} {t_table : Nat → Int32} {t_numbers : Nat → Int32} {t_bends : Nat → Int32} {t_wished : Nat → Int32} {t_itemLine : Nat → Int32} {t_itemStrength : Nat → Int32} {t_itemWater : Nat → Int32} {t_itemBack : Nat → Int32} {t_items : Int32} {t_worstThen : Int32} {t_reading : Nat → Int32} {t_isRead : Nat → Int32} {t_readSum : Int32} {t_readMany : Int32} {t_spanLow : Nat → Int32} {t_spanHigh : Nat → Int32} {t_weldLine : Nat → Int32} {t_weldPull : Nat → Int32} {t_welds : Int32} {t_orderOf : Nat → Int32} {t_bestOrder : Nat → Int32} {t_smithOf : Nat → Int32} {t_bestSmith : Nat → Int32} {t_busy : Nat → Int32} {x1 : Int32} {o : Int32 × (Nat → Int32) × (Nat → Int32) × (Nat → Int32) × (Nat → Int32) × Int32 × (Nat → Int32) × Int32} (hf : f_X12_next n t_lineOf t_strengthOf t_waterOf t_backOf t_passes t_tried t_table t_numbers t_bends t_wished t_itemLine t_itemStrength t_itemWater t_itemBack t_items t_worstThen x1 = some o) : Ctr l yX12_next cX12_next 3 (some .int) 6 136 D cI cC cZ [.ref tq0, .int x1] (w_X12 cI cC cZ tq0 tq1 tq2 tq3 tq4 tq5 tq6 tq7 tq8 tq9 tq10 tq11 tq12 tq13 tq14 tq15 tq16 tq17 tq18 tq19 tq20 tq21 tq22 tq23 tq24 t_signs t_signMany t_lineOf t_strengthOf t_waterOf t_backOf t_passes t_tried t_table t_numbers t_bends t_wished t_itemLine t_itemStrength t_itemWater t_itemBack t_items t_worstThen t_reading t_isRead t_readSum t_readMany t_spanLow t_spanHigh t_weldLine t_weldPull t_welds t_orderOf t_bestOrder t_smithOf t_bestSmith t_busy) (w_X12 cI cC cZ tq0 tq1 tq2 tq3 tq4 tq5 tq6 tq7 tq8 tq9 tq10 tq11 tq12 tq13 tq14 tq15 tq16 tq17 tq18 tq19 tq20 tq21 tq22 tq23 tq24 t_signs t_signMany o.2.1 o.2.2.1 o.2.2.2.1 o.2.2.2.2.1 t_passes o.2.2.2.2.2.1 t_table t_numbers o.2.2.2.2.2.2.1 t_wished t_itemLine t_itemStrength t_itemWater t_itemBack t_items o.2.2.2.2.2.2.2 t_reading t_isRead t_readSum t_readMany t_spanLow t_spanHigh t_weldLine t_weldPull t_welds t_orderOf t_bestOrder t_smithOf t_bestSmith t_busy) (some (.int o.1)) := by
  refine Ctr.of (by decide) (Nat.le_of_ble_eq_true rfl) ?_
  intro p e s m args below meth c ls A Q hA hQ C hl hw
  have hx := C.1
  have hb := C.2.1
  have hl : lv_has ls 3 [(0, .ref tq0), (1, .int x1)] := hl
  refine lv_iload_n hx hb (dc d_X12_next 0 rfl) rfl (lv_at hl 1 rfl) ?_
  refine lv_i2l (v := x1.toInt64) hx hb (dc d_X12_next 1 rfl) rfl ?_
  refine lv_lconst (v := (0 : Int64)) hx hb (dc d_X12_next 2 rfl) (by decide) ?_
  refine lv_lconst (v := (1 : Int64)) hx hb (dc d_X12_next 3 rfl) (by decide) ?_
  obtain ⟨q1, hq1, hf⟩ := g_bd hf
  refine x_callS C hw mb_X12_in ms_X12_in ml_X12_85 (k_X12_in n hq1) hl.1 rfl rfl [] rfl rfl rfl (Nat.le_of_ble_eq_true rfl) (Nat.le_of_ble_eq_true rfl) (Nat.le_of_ble_eq_true rfl) (dc d_X12_next 4 rfl) (fun H locs hw => ?_)
  refine W.eq (g2 := F0 m 7 ls [.int q1]) rfl ?_
  have hw : Wd D A s.heap (w_X12 cI cC cZ tq0 tq1 tq2 tq3 tq4 tq5 tq6 tq7 tq8 tq9 tq10 tq11 tq12 tq13 tq14 tq15 tq16 tq17 tq18 tq19 tq20 tq21 tq22 tq23 tq24 t_signs t_signMany t_lineOf t_strengthOf t_waterOf t_backOf t_passes t_tried t_table t_numbers t_bends t_wished t_itemLine t_itemStrength t_itemWater t_itemBack t_items t_worstThen t_reading t_isRead t_readSum t_readMany t_spanLow t_spanHigh t_weldLine t_weldPull t_welds t_orderOf t_bestOrder t_smithOf t_bestSmith t_busy) H locs := hw
  refine lv_if_ne (tgt := 13) hx hb (dc d_X12_next 5 rfl) (by decide) (fun c2 => ?_) (fun c2 => ?_)
  · have hf := g_f hf c2
    refine lv_aload_n hx hb (dc d_X12_next 8 rfl) rfl (lv_at hl 0 rfl) ?_
    refine lv_aload_n hx hb (dc d_X12_next 9 rfl) rfl (lv_at hl 0 rfl) ?_
    refine x_get C hw fl_X12_113 0 rfl rfl (dc d_X12_next 10 rfl) ?_
    refine x_put C hw fl_X12_188 fw_X12_7 0 rfl rfl rfl (Nat.le_of_ble_eq_true rfl) (dc d_X12_next 11 rfl) (fun H locs hw => ?_)
    dsimp only [w_X12, mix, List.set_cons_succ, List.set_cons_zero] at hw
    have hw : Wd D A s.heap (w_X12 cI cC cZ tq0 tq1 tq2 tq3 tq4 tq5 tq6 tq7 tq8 tq9 tq10 tq11 tq12 tq13 tq14 tq15 tq16 tq17 tq18 tq19 tq20 tq21 tq22 tq23 tq24 t_signs t_signMany t_lineOf t_strengthOf t_waterOf t_backOf t_passes t_passes t_table t_numbers t_bends t_wished t_itemLine t_itemStrength t_itemWater t_itemBack t_items t_worstThen t_reading t_isRead t_readSum t_readMany t_spanLow t_spanHigh t_weldLine t_weldPull t_welds t_orderOf t_bestOrder t_smithOf t_bestSmith t_busy) H locs := hw
    refine lv_aload_n hx hb (dc d_X12_next 12 rfl) rfl (lv_at hl 0 rfl) ?_
    refine lv_aload_n hx hb (dc d_X12_next 13 rfl) rfl (lv_at hl 0 rfl) ?_
    refine lv_aload_n hx hb (dc d_X12_next 14 rfl) rfl (lv_at hl 0 rfl) ?_
    refine x_get C hw fl_X12_113 0 rfl rfl (dc d_X12_next 15 rfl) ?_
    obtain ⟨q3, hq3, hf⟩ := g_bd hf
    refine x_callVa C hw mb_X12_worstBy mv_X12_worstBy ml_X12_176 (k_X12_worstBy n hq3) hl.1 rfl rfl rfl 0 12 rfl rfl (Nat.le_of_ble_eq_true rfl) (Nat.le_of_ble_eq_true rfl) (Nat.le_of_ble_eq_true rfl) (dc d_X12_next 16 rfl) (fun H locs hw => ?_)
    refine W.eq (g2 := F0 m 30 ls [.int q3.1, .ref tq0]) rfl ?_
    have hw : Wd D A s.heap (w_X12 cI cC cZ tq0 tq1 tq2 tq3 tq4 tq5 tq6 tq7 tq8 tq9 tq10 tq11 tq12 tq13 tq14 tq15 tq16 tq17 tq18 tq19 tq20 tq21 tq22 tq23 tq24 t_signs t_signMany t_lineOf t_strengthOf t_waterOf t_backOf t_passes t_passes t_table t_numbers q3.2 t_wished t_itemLine t_itemStrength t_itemWater t_itemBack t_items t_worstThen t_reading t_isRead t_readSum t_readMany t_spanLow t_spanHigh t_weldLine t_weldPull t_welds t_orderOf t_bestOrder t_smithOf t_bestSmith t_busy) H locs := hw
    obtain ⟨q4, hq4, hf⟩ := g_bd hf
    refine x_callVa C hw mb_X12_nextItem mv_X12_nextItem ml_X12_206 (k_X12_nextItem n hq4) hl.1 rfl rfl rfl 0 12 rfl rfl (Nat.le_of_ble_eq_true rfl) (Nat.le_of_ble_eq_true rfl) (Nat.le_of_ble_eq_true rfl) (dc d_X12_next 17 rfl) (fun H locs hw => ?_)
    refine W.eq (g2 := F0 m 33 ls [.int q4.1]) rfl ?_
    have hw : Wd D A s.heap (w_X12 cI cC cZ tq0 tq1 tq2 tq3 tq4 tq5 tq6 tq7 tq8 tq9 tq10 tq11 tq12 tq13 tq14 tq15 tq16 tq17 tq18 tq19 tq20 tq21 tq22 tq23 tq24 t_signs t_signMany q4.2.1 q4.2.2.1 q4.2.2.2.1 q4.2.2.2.2.1 t_passes q4.2.2.2.2.2.1 t_table t_numbers q4.2.2.2.2.2.2.1 t_wished t_itemLine t_itemStrength t_itemWater t_itemBack t_items q4.2.2.2.2.2.2.2 t_reading t_isRead t_readSum t_readMany t_spanLow t_spanHigh t_weldLine t_weldPull t_welds t_orderOf t_bestOrder t_smithOf t_bestSmith t_busy) H locs := hw
    refine lv_istore_n (lv' := [(2, .int q4.1), (0, .ref tq0), (1, .int x1)]) hx hb (dc d_X12_next 18 rfl) rfl hl (by decide) rfl (fun ls hl => ?_)
    refine lv_iload_n hx hb (dc d_X12_next 19 rfl) rfl (lv_at hl 0 rfl) ?_
    refine lv_if_ge (tgt := 43) hx hb (dc d_X12_next 20 rfl) (by decide) (fun c5 => ?_) (fun c5 => ?_)
    · have hf := g_t hf c5
      refine lv_iload_n hx hb (dc d_X12_next 23 rfl) rfl (lv_at hl 2 rfl) ?_
      refine lv_if_ne (tgt := 51) hx hb (dc d_X12_next 24 rfl) (by decide) (fun c6 => ?_) (fun c6 => ?_)
      · have hf := g_f hf c6
        refine lv_aload_n hx hb (dc d_X12_next 27 rfl) rfl (lv_at hl 1 rfl) ?_
        refine x_get C hw fl_X12_203 0 rfl rfl (dc d_X12_next 28 rfl) ?_
        cases hf
        exact x_iret C hA hQ hw rfl rfl (dc d_X12_next 29 rfl)
      · have hf := g_t hf c6
        refine lv_iload_n hx hb (dc d_X12_next 25 rfl) rfl (lv_at hl 0 rfl) ?_
        refine lv_goto (tgt := 55) hx hb (dc d_X12_next 26 rfl) (by decide) ?_
        cases hf
        exact x_iret C hA hQ hw rfl rfl (dc d_X12_next 29 rfl)
    · have hf := g_f hf c5
      refine lv_bipush (v := (-6 : Int32)) hx hb (dc d_X12_next 21 rfl) (by decide) ?_
      refine lv_goto (tgt := 55) hx hb (dc d_X12_next 22 rfl) (by decide) ?_
      cases hf
      exact x_iret C hA hQ hw rfl rfl (dc d_X12_next 29 rfl)
  · have hf := g_t hf c2
    refine lv_bipush (v := (-2 : Int32)) hx hb (dc d_X12_next 6 rfl) (by decide) ?_
    cases hf
    exact x_iret C hA hQ hw rfl rfl (dc d_X12_next 7 rfl)
set_option maxHeartbeats 4000000 in
set_option maxRecDepth 100000 in
theorem k_X12_steps (n : Nat) {l : Launch} {D : va_G} {cI cC cZ : ClassId} {tq0 tq1 tq2 tq3 tq4 tq5 tq6 tq7 tq8 tq9 tq10 tq11 tq12 tq13 tq14 tq15 tq16 tq17 tq18 tq19 tq20 tq21 tq22 tq23 tq24 : Nat} {t_signs : Nat → Int32} {t_signMany : Int32} {t_lineOf : Nat → Int32} {t_strengthOf : Nat → Int32} {t_waterOf : Nat → Int32} {t_backOf : Nat → Int32} {t_passes : Int32} {t_tried : Int32} {t_table : Nat → Int32} {t_numbers : Nat → Int32} {t_bends : Nat → Int32} {t_wished : Nat → Int32} {t_itemLine : Nat → Int32} {t_itemStrength : Nat → Int32} {t_itemWater : Nat → Int32} {t_itemBack : Nat → Int32} {t_items : Int32} {t_worstThen : Int32} {t_reading : Nat → Int32} {t_isRead : Nat → Int32} {t_readSum : Int32} {t_readMany : Int32} {t_spanLow : Nat → Int32} {t_spanHigh : Nat → Int32} {t_weldLine : Nat → Int32} {t_weldPull : Nat → Int32} {t_welds : Int32} {t_orderOf : Nat → Int32} {t_bestOrder : Nat → Int32} {t_smithOf : Nat → Int32} {t_bestSmith : Nat → Int32} {t_busy : Nat → Int32} {x1 : Int32} {o : Int32 × (Nat → Int32) × (Nat → Int32) × (Nat → Int32) × (Nat → Int32) × Int32 × (Nat → Int32) × Int32} (hf : f_X12_steps n t_lineOf t_strengthOf t_waterOf t_backOf t_passes t_tried t_table t_numbers t_bends t_wished t_itemLine t_itemStrength t_itemWater t_itemBack t_items t_worstThen x1 = some o) : Ctr l yX12_steps cX12_steps 5 (some .int) 6 136 D cI cC cZ [.ref tq0, .int x1] (w_X12 cI cC cZ tq0 tq1 tq2 tq3 tq4 tq5 tq6 tq7 tq8 tq9 tq10 tq11 tq12 tq13 tq14 tq15 tq16 tq17 tq18 tq19 tq20 tq21 tq22 tq23 tq24 t_signs t_signMany t_lineOf t_strengthOf t_waterOf t_backOf t_passes t_tried t_table t_numbers t_bends t_wished t_itemLine t_itemStrength t_itemWater t_itemBack t_items t_worstThen t_reading t_isRead t_readSum t_readMany t_spanLow t_spanHigh t_weldLine t_weldPull t_welds t_orderOf t_bestOrder t_smithOf t_bestSmith t_busy) (w_X12 cI cC cZ tq0 tq1 tq2 tq3 tq4 tq5 tq6 tq7 tq8 tq9 tq10 tq11 tq12 tq13 tq14 tq15 tq16 tq17 tq18 tq19 tq20 tq21 tq22 tq23 tq24 t_signs t_signMany o.2.1 o.2.2.1 o.2.2.2.1 o.2.2.2.2.1 t_passes o.2.2.2.2.2.1 t_table t_numbers o.2.2.2.2.2.2.1 t_wished t_itemLine t_itemStrength t_itemWater t_itemBack t_items o.2.2.2.2.2.2.2 t_reading t_isRead t_readSum t_readMany t_spanLow t_spanHigh t_weldLine t_weldPull t_welds t_orderOf t_bestOrder t_smithOf t_bestSmith t_busy) (some (.int o.1)) := by
  refine Ctr.of (by decide) (Nat.le_of_ble_eq_true rfl) ?_
  intro p e s m args below meth c ls A Q hA hQ C hl hw
  have hx := C.1
  have hb := C.2.1
  have hl : lv_has ls 5 [(0, .ref tq0), (1, .int x1)] := hl
  have L85 : ∀ (n : Nat), ∀ (t_lineOf : Nat → Int32) (t_strengthOf : Nat → Int32) (t_waterOf : Nat → Int32) (t_backOf : Nat → Int32) (t_tried : Int32) (t_bends : Nat → Int32) (t_worstThen : Int32) (v1 : Int32) (v2 : Int32) (v3 : Int32) (H : Heap) (locs : List Loc) (ls : Array Slot), Wd D A s.heap (w_X12 cI cC cZ tq0 tq1 tq2 tq3 tq4 tq5 tq6 tq7 tq8 tq9 tq10 tq11 tq12 tq13 tq14 tq15 tq16 tq17 tq18 tq19 tq20 tq21 tq22 tq23 tq24 t_signs t_signMany t_lineOf t_strengthOf t_waterOf t_backOf t_passes t_tried t_table t_numbers t_bends t_wished t_itemLine t_itemStrength t_itemWater t_itemBack t_items t_worstThen t_reading t_isRead t_readSum t_readMany t_spanLow t_spanHigh t_weldLine t_weldPull t_welds t_orderOf t_bestOrder t_smithOf t_bestSmith t_busy) H locs → lv_has ls 5 [(1, .int v1), (2, .int v2), (3, .int v3)] → f_X12_steps_85 t_passes t_table t_numbers t_wished t_itemLine t_itemStrength t_itemWater t_itemBack t_items  n t_lineOf t_strengthOf t_waterOf t_backOf t_tried t_bends t_worstThen v1 v2 v3 = some o → W p l e (rmOf 6 136) s m args below meth c H locs 0 0 Q (F0 m 85 ls []) := by
    intro  n t_lineOf t_strengthOf t_waterOf t_backOf t_tried t_bends t_worstThen v1 v2 v3 H locs ls hw hl hf
    refine lv_iload_n hx hb (dc d_X12_steps 45 rfl) rfl (lv_at hl 0 rfl) ?_
    refine lv_if_ne (tgt := 93) hx hb (dc d_X12_steps 46 rfl) (by decide) (fun c10 => ?_) (fun c10 => ?_)
    · have hf := g_f hf c10
      refine lv_iload_n hx hb (dc d_X12_steps 49 rfl) rfl (lv_at hl 1 rfl) ?_
      cases hf
      exact x_iret C hA hQ hw rfl rfl (dc d_X12_steps 50 rfl)
    · have hf := g_t hf c10
      refine lv_iload_n hx hb (dc d_X12_steps 47 rfl) rfl (lv_at hl 2 rfl) ?_
      refine lv_goto (tgt := 94) hx hb (dc d_X12_steps 48 rfl) (by decide) ?_
      cases hf
      exact x_iret C hA hQ hw rfl rfl (dc d_X12_steps 50 rfl)
  have L39 : ∀ (n : Nat), ∀ (t_lineOf : Nat → Int32) (t_strengthOf : Nat → Int32) (t_waterOf : Nat → Int32) (t_backOf : Nat → Int32) (t_tried : Int32) (t_bends : Nat → Int32) (t_worstThen : Int32) (v1 : Int32) (v2 : Int32) (v3 : Int32) (v4 : Int32) (H : Heap) (locs : List Loc) (ls : Array Slot), Wd D A s.heap (w_X12 cI cC cZ tq0 tq1 tq2 tq3 tq4 tq5 tq6 tq7 tq8 tq9 tq10 tq11 tq12 tq13 tq14 tq15 tq16 tq17 tq18 tq19 tq20 tq21 tq22 tq23 tq24 t_signs t_signMany t_lineOf t_strengthOf t_waterOf t_backOf t_passes t_tried t_table t_numbers t_bends t_wished t_itemLine t_itemStrength t_itemWater t_itemBack t_items t_worstThen t_reading t_isRead t_readSum t_readMany t_spanLow t_spanHigh t_weldLine t_weldPull t_welds t_orderOf t_bestOrder t_smithOf t_bestSmith t_busy) H locs → lv_has ls 5 [(0, .ref tq0), (1, .int v1), (2, .int v2), (3, .int v3), (4, .int v4)] → f_X12_steps_39 t_passes t_table t_numbers t_wished t_itemLine t_itemStrength t_itemWater t_itemBack t_items  n t_lineOf t_strengthOf t_waterOf t_backOf t_tried t_bends t_worstThen v1 v2 v3 v4 = some o → W p l e (rmOf 6 136) s m args below meth c H locs 0 0 Q (F0 m 39 ls []) := by
    intro  n
    induction n with
    | zero => intro t_lineOf t_strengthOf t_waterOf t_backOf t_tried t_bends t_worstThen v1 v2 v3 v4 H locs ls hw hl hf; exact (no_none hf).elim
    | succ n ih =>
      intro t_lineOf t_strengthOf t_waterOf t_backOf t_tried t_bends t_worstThen v1 v2 v3 v4 H locs ls hw hl hf
      have hf : f_X12_steps_39b t_passes t_table t_numbers t_wished t_itemLine t_itemStrength t_itemWater t_itemBack t_items  (f_X12_steps_39 t_passes t_table t_numbers t_wished t_itemLine t_itemStrength t_itemWater t_itemBack t_items  n) n t_lineOf t_strengthOf t_waterOf t_backOf t_tried t_bends t_worstThen v1 v2 v3 v4 = some o := hf
      generalize f_X12_steps_39 t_passes t_table t_numbers t_wished t_itemLine t_itemStrength t_itemWater t_itemBack t_items  n = k39 at hf ih
      refine lv_iload hx hb (dc d_X12_steps 23 rfl) (lv_at hl 4 rfl) ?_
      refine lv_if_lt (tgt := 85) hx hb (dc d_X12_steps 24 rfl) (by decide) (fun c5 => ?_) (fun c5 => ?_)
      · have hf := g_t hf c5
        exact L85  n t_lineOf t_strengthOf t_waterOf t_backOf t_tried t_bends t_worstThen v1 v2 v3 _ _ _ hw (lv_sub hl [1, 2, 3] rfl) hf
      · have hf := g_f hf c5
        refine lv_iload_n hx hb (dc d_X12_steps 25 rfl) rfl (lv_at hl 3 rfl) ?_
        refine lv_bipush (v := (20 : Int32)) hx hb (dc d_X12_steps 26 rfl) (by decide) ?_
        refine lv_icmp_ge (tgt := 85) hx hb (dc d_X12_steps 27 rfl) (by decide) (fun c6 => ?_) (fun c6 => ?_)
        · have hf := g_t hf c6
          exact L85  n t_lineOf t_strengthOf t_waterOf t_backOf t_tried t_bends t_worstThen v1 v2 v3 _ _ _ hw (lv_sub hl [1, 2, 3] rfl) hf
        · have hf := g_f hf c6
          refine lv_aload_n hx hb (dc d_X12_steps 28 rfl) rfl (lv_at hl 0 rfl) ?_
          refine x_get C hw fl_X12_203 0 rfl rfl (dc d_X12_steps 29 rfl) ?_
          refine lv_istore_n (lv' := [(2, .int t_worstThen), (0, .ref tq0), (1, .int v1), (3, .int v3), (4, .int v4)]) hx hb (dc d_X12_steps 30 rfl) rfl hl (by decide) rfl (fun ls hl => ?_)
          refine lv_aload_n hx hb (dc d_X12_steps 31 rfl) rfl (lv_at hl 1 rfl) ?_
          refine lv_iload hx hb (dc d_X12_steps 32 rfl) (lv_at hl 4 rfl) ?_
          obtain ⟨q7, hq7, hf⟩ := g_bd hf
          refine x_callVa C hw mb_X12_tryItem mv_X12_tryItem ml_X12_191 (k_X12_tryItem n hq7) hl.1 rfl rfl rfl 0 12 rfl rfl (Nat.le_of_ble_eq_true rfl) (Nat.le_of_ble_eq_true rfl) (Nat.le_of_ble_eq_true rfl) (dc d_X12_steps 33 rfl) (fun H locs hw => ?_)
          refine W.eq (g2 := F0 m 61 ls []) rfl ?_
          have hw : Wd D A s.heap (w_X12 cI cC cZ tq0 tq1 tq2 tq3 tq4 tq5 tq6 tq7 tq8 tq9 tq10 tq11 tq12 tq13 tq14 tq15 tq16 tq17 tq18 tq19 tq20 tq21 tq22 tq23 tq24 t_signs t_signMany q7.1 q7.2.1 q7.2.2.1 q7.2.2.2.1 t_passes q7.2.2.2.2 t_table t_numbers t_bends t_wished t_itemLine t_itemStrength t_itemWater t_itemBack t_items t_worstThen t_reading t_isRead t_readSum t_readMany t_spanLow t_spanHigh t_weldLine t_weldPull t_welds t_orderOf t_bestOrder t_smithOf t_bestSmith t_busy) H locs := hw
          refine lv_iinc (v := (v3 + (1 : Int32))) (lv' := [(3, .int (v3 + (1 : Int32))), (2, .int t_worstThen), (0, .ref tq0), (1, .int v1), (4, .int v4)]) hx hb (dc d_X12_steps 34 rfl) hl (k := 3) rfl (ii (by decide)) (by decide) rfl (fun ls hl => ?_)
          refine lv_iload_n hx hb (dc d_X12_steps 35 rfl) rfl (lv_at hl 0 rfl) ?_
          refine lv_bipush (v := (20 : Int32)) hx hb (dc d_X12_steps 36 rfl) (by decide) ?_
          refine lv_icmp_ge (tgt := 78) hx hb (dc d_X12_steps 37 rfl) (by decide) (fun c8 => ?_) (fun c8 => ?_)
          · have hf := g_t hf c8
            refine lv_bipush (v := (-6 : Int32)) hx hb (dc d_X12_steps 42 rfl) (by decide) ?_
            refine lv_istore (lv' := [(4, .int (-6 : Int32)), (3, .int (v3 + (1 : Int32))), (2, .int t_worstThen), (0, .ref tq0), (1, .int v1)]) hx hb (dc d_X12_steps 43 rfl) hl (by decide) rfl (fun ls hl => ?_)
            refine lv_goto (tgt := 39) hx hb (dc d_X12_steps 44 rfl) (by decide) ?_
            exact ih q7.1 q7.2.1 q7.2.2.1 q7.2.2.2.1 q7.2.2.2.2 t_bends t_worstThen v1 t_worstThen (v3 + (1 : Int32)) (-6 : Int32) _ _ _ hw (lv_sub hl [3, 4, 2, 1, 0] rfl) hf
          · have hf := g_f hf c8
            refine lv_aload_n hx hb (dc d_X12_steps 38 rfl) rfl (lv_at hl 2 rfl) ?_
            refine lv_iload_n hx hb (dc d_X12_steps 39 rfl) rfl (lv_at hl 1 rfl) ?_
            obtain ⟨q9, hq9, hf⟩ := g_bd hf
            refine x_callVa C hw mb_X12_nextItem mv_X12_nextItem ml_X12_206 (k_X12_nextItem n hq9) hl.1 rfl rfl rfl 0 12 rfl rfl (Nat.le_of_ble_eq_true rfl) (Nat.le_of_ble_eq_true rfl) (Nat.le_of_ble_eq_true rfl) (dc d_X12_steps 40 rfl) (fun H locs hw => ?_)
            refine W.eq (g2 := F0 m 75 ls [.int q9.1]) rfl ?_
            have hw : Wd D A s.heap (w_X12 cI cC cZ tq0 tq1 tq2 tq3 tq4 tq5 tq6 tq7 tq8 tq9 tq10 tq11 tq12 tq13 tq14 tq15 tq16 tq17 tq18 tq19 tq20 tq21 tq22 tq23 tq24 t_signs t_signMany q9.2.1 q9.2.2.1 q9.2.2.2.1 q9.2.2.2.2.1 t_passes q9.2.2.2.2.2.1 t_table t_numbers q9.2.2.2.2.2.2.1 t_wished t_itemLine t_itemStrength t_itemWater t_itemBack t_items q9.2.2.2.2.2.2.2 t_reading t_isRead t_readSum t_readMany t_spanLow t_spanHigh t_weldLine t_weldPull t_welds t_orderOf t_bestOrder t_smithOf t_bestSmith t_busy) H locs := hw
            refine lv_goto (tgt := 80) hx hb (dc d_X12_steps 41 rfl) (by decide) ?_
            refine lv_istore (lv' := [(4, .int q9.1), (3, .int (v3 + (1 : Int32))), (2, .int t_worstThen), (0, .ref tq0), (1, .int v1)]) hx hb (dc d_X12_steps 43 rfl) hl (by decide) rfl (fun ls hl => ?_)
            refine lv_goto (tgt := 39) hx hb (dc d_X12_steps 44 rfl) (by decide) ?_
            exact ih q9.2.1 q9.2.2.1 q9.2.2.2.1 q9.2.2.2.2.1 q9.2.2.2.2.2.1 q9.2.2.2.2.2.2.1 q9.2.2.2.2.2.2.2 v1 t_worstThen (v3 + (1 : Int32)) q9.1 _ _ _ hw (lv_sub hl [3, 4, 2, 1, 0] rfl) hf
  refine lv_iload_n hx hb (dc d_X12_steps 0 rfl) rfl (lv_at hl 1 rfl) ?_
  refine lv_i2l (v := x1.toInt64) hx hb (dc d_X12_steps 1 rfl) rfl ?_
  refine lv_lconst (v := (0 : Int64)) hx hb (dc d_X12_steps 2 rfl) (by decide) ?_
  refine lv_lconst (v := (1 : Int64)) hx hb (dc d_X12_steps 3 rfl) (by decide) ?_
  obtain ⟨q1, hq1, hf⟩ := g_bd hf
  refine x_callS C hw mb_X12_in ms_X12_in ml_X12_85 (k_X12_in n hq1) hl.1 rfl rfl [] rfl rfl rfl (Nat.le_of_ble_eq_true rfl) (Nat.le_of_ble_eq_true rfl) (Nat.le_of_ble_eq_true rfl) (dc d_X12_steps 4 rfl) (fun H locs hw => ?_)
  refine W.eq (g2 := F0 m 7 ls [.int q1]) rfl ?_
  have hw : Wd D A s.heap (w_X12 cI cC cZ tq0 tq1 tq2 tq3 tq4 tq5 tq6 tq7 tq8 tq9 tq10 tq11 tq12 tq13 tq14 tq15 tq16 tq17 tq18 tq19 tq20 tq21 tq22 tq23 tq24 t_signs t_signMany t_lineOf t_strengthOf t_waterOf t_backOf t_passes t_tried t_table t_numbers t_bends t_wished t_itemLine t_itemStrength t_itemWater t_itemBack t_items t_worstThen t_reading t_isRead t_readSum t_readMany t_spanLow t_spanHigh t_weldLine t_weldPull t_welds t_orderOf t_bestOrder t_smithOf t_bestSmith t_busy) H locs := hw
  refine lv_if_ne (tgt := 13) hx hb (dc d_X12_steps 5 rfl) (by decide) (fun c2 => ?_) (fun c2 => ?_)
  · have hf := g_f hf c2
    refine lv_aload_n hx hb (dc d_X12_steps 8 rfl) rfl (lv_at hl 0 rfl) ?_
    refine lv_aload_n hx hb (dc d_X12_steps 9 rfl) rfl (lv_at hl 0 rfl) ?_
    refine x_get C hw fl_X12_113 0 rfl rfl (dc d_X12_steps 10 rfl) ?_
    refine x_put C hw fl_X12_188 fw_X12_7 0 rfl rfl rfl (Nat.le_of_ble_eq_true rfl) (dc d_X12_steps 11 rfl) (fun H locs hw => ?_)
    dsimp only [w_X12, mix, List.set_cons_succ, List.set_cons_zero] at hw
    have hw : Wd D A s.heap (w_X12 cI cC cZ tq0 tq1 tq2 tq3 tq4 tq5 tq6 tq7 tq8 tq9 tq10 tq11 tq12 tq13 tq14 tq15 tq16 tq17 tq18 tq19 tq20 tq21 tq22 tq23 tq24 t_signs t_signMany t_lineOf t_strengthOf t_waterOf t_backOf t_passes t_passes t_table t_numbers t_bends t_wished t_itemLine t_itemStrength t_itemWater t_itemBack t_items t_worstThen t_reading t_isRead t_readSum t_readMany t_spanLow t_spanHigh t_weldLine t_weldPull t_welds t_orderOf t_bestOrder t_smithOf t_bestSmith t_busy) H locs := hw
    refine lv_aload_n hx hb (dc d_X12_steps 12 rfl) rfl (lv_at hl 0 rfl) ?_
    refine lv_aload_n hx hb (dc d_X12_steps 13 rfl) rfl (lv_at hl 0 rfl) ?_
    refine x_get C hw fl_X12_113 0 rfl rfl (dc d_X12_steps 14 rfl) ?_
    obtain ⟨q3, hq3, hf⟩ := g_bd hf
    refine x_callVa C hw mb_X12_worstBy mv_X12_worstBy ml_X12_176 (k_X12_worstBy n hq3) hl.1 rfl rfl rfl 0 12 rfl rfl (Nat.le_of_ble_eq_true rfl) (Nat.le_of_ble_eq_true rfl) (Nat.le_of_ble_eq_true rfl) (dc d_X12_steps 15 rfl) (fun H locs hw => ?_)
    refine W.eq (g2 := F0 m 29 ls [.int q3.1]) rfl ?_
    have hw : Wd D A s.heap (w_X12 cI cC cZ tq0 tq1 tq2 tq3 tq4 tq5 tq6 tq7 tq8 tq9 tq10 tq11 tq12 tq13 tq14 tq15 tq16 tq17 tq18 tq19 tq20 tq21 tq22 tq23 tq24 t_signs t_signMany t_lineOf t_strengthOf t_waterOf t_backOf t_passes t_passes t_table t_numbers q3.2 t_wished t_itemLine t_itemStrength t_itemWater t_itemBack t_items t_worstThen t_reading t_isRead t_readSum t_readMany t_spanLow t_spanHigh t_weldLine t_weldPull t_welds t_orderOf t_bestOrder t_smithOf t_bestSmith t_busy) H locs := hw
    refine lv_istore_n (lv' := [(2, .int q3.1), (0, .ref tq0), (1, .int x1)]) hx hb (dc d_X12_steps 16 rfl) rfl hl (by decide) rfl (fun ls hl => ?_)
    refine lv_iconst (v := (0 : Int32)) hx hb (dc d_X12_steps 17 rfl) (by decide) ?_
    refine lv_istore_n (lv' := [(3, .int (0 : Int32)), (2, .int q3.1), (0, .ref tq0), (1, .int x1)]) hx hb (dc d_X12_steps 18 rfl) rfl hl (by decide) rfl (fun ls hl => ?_)
    refine lv_aload_n hx hb (dc d_X12_steps 19 rfl) rfl (lv_at hl 2 rfl) ?_
    refine lv_iload_n hx hb (dc d_X12_steps 20 rfl) rfl (lv_at hl 1 rfl) ?_
    obtain ⟨q4, hq4, hf⟩ := g_bd hf
    refine x_callVa C hw mb_X12_nextItem mv_X12_nextItem ml_X12_206 (k_X12_nextItem n hq4) hl.1 rfl rfl rfl 0 12 rfl rfl (Nat.le_of_ble_eq_true rfl) (Nat.le_of_ble_eq_true rfl) (Nat.le_of_ble_eq_true rfl) (dc d_X12_steps 21 rfl) (fun H locs hw => ?_)
    refine W.eq (g2 := F0 m 37 ls [.int q4.1]) rfl ?_
    have hw : Wd D A s.heap (w_X12 cI cC cZ tq0 tq1 tq2 tq3 tq4 tq5 tq6 tq7 tq8 tq9 tq10 tq11 tq12 tq13 tq14 tq15 tq16 tq17 tq18 tq19 tq20 tq21 tq22 tq23 tq24 t_signs t_signMany q4.2.1 q4.2.2.1 q4.2.2.2.1 q4.2.2.2.2.1 t_passes q4.2.2.2.2.2.1 t_table t_numbers q4.2.2.2.2.2.2.1 t_wished t_itemLine t_itemStrength t_itemWater t_itemBack t_items q4.2.2.2.2.2.2.2 t_reading t_isRead t_readSum t_readMany t_spanLow t_spanHigh t_weldLine t_weldPull t_welds t_orderOf t_bestOrder t_smithOf t_bestSmith t_busy) H locs := hw
    refine lv_istore (lv' := [(4, .int q4.1), (3, .int (0 : Int32)), (2, .int q3.1), (0, .ref tq0), (1, .int x1)]) hx hb (dc d_X12_steps 22 rfl) hl (by decide) rfl (fun ls hl => ?_)
    exact L39  n q4.2.1 q4.2.2.1 q4.2.2.2.1 q4.2.2.2.2.1 q4.2.2.2.2.2.1 q4.2.2.2.2.2.2.1 q4.2.2.2.2.2.2.2 x1 q3.1 (0 : Int32) q4.1 _ _ _ hw (lv_sub hl [3, 4, 2, 1, 0] rfl) hf
  · have hf := g_t hf c2
    refine lv_bipush (v := (-2 : Int32)) hx hb (dc d_X12_steps 6 rfl) (by decide) ?_
    cases hf
    exact x_iret C hA hQ hw rfl rfl (dc d_X12_steps 7 rfl)
set_option maxHeartbeats 4000000 in
set_option maxRecDepth 100000 in
theorem k_X12_read (n : Nat) {l : Launch} {D : va_G} {cI cC cZ : ClassId} {tq0 tq1 tq2 tq3 tq4 tq5 tq6 tq7 tq8 tq9 tq10 tq11 tq12 tq13 tq14 tq15 tq16 tq17 tq18 tq19 tq20 tq21 tq22 tq23 tq24 : Nat} {t_signs : Nat → Int32} {t_signMany : Int32} {t_lineOf : Nat → Int32} {t_strengthOf : Nat → Int32} {t_waterOf : Nat → Int32} {t_backOf : Nat → Int32} {t_passes : Int32} {t_tried : Int32} {t_table : Nat → Int32} {t_numbers : Nat → Int32} {t_bends : Nat → Int32} {t_wished : Nat → Int32} {t_itemLine : Nat → Int32} {t_itemStrength : Nat → Int32} {t_itemWater : Nat → Int32} {t_itemBack : Nat → Int32} {t_items : Int32} {t_worstThen : Int32} {t_reading : Nat → Int32} {t_isRead : Nat → Int32} {t_readSum : Int32} {t_readMany : Int32} {t_spanLow : Nat → Int32} {t_spanHigh : Nat → Int32} {t_weldLine : Nat → Int32} {t_weldPull : Nat → Int32} {t_welds : Int32} {t_orderOf : Nat → Int32} {t_bestOrder : Nat → Int32} {t_smithOf : Nat → Int32} {t_bestSmith : Nat → Int32} {t_busy : Nat → Int32} {x1 : Int32} {x2 : Int32} {o : Int32 × (Nat → Int32) × (Nat → Int32)} (hf : f_X12_read n t_reading t_isRead x1 x2 = some o) : Ctr l yX12_read cX12_read 4 (some .int) 2 45 D cI cC cZ [.ref tq0, .int x1, .int x2] (w_X12 cI cC cZ tq0 tq1 tq2 tq3 tq4 tq5 tq6 tq7 tq8 tq9 tq10 tq11 tq12 tq13 tq14 tq15 tq16 tq17 tq18 tq19 tq20 tq21 tq22 tq23 tq24 t_signs t_signMany t_lineOf t_strengthOf t_waterOf t_backOf t_passes t_tried t_table t_numbers t_bends t_wished t_itemLine t_itemStrength t_itemWater t_itemBack t_items t_worstThen t_reading t_isRead t_readSum t_readMany t_spanLow t_spanHigh t_weldLine t_weldPull t_welds t_orderOf t_bestOrder t_smithOf t_bestSmith t_busy) (w_X12 cI cC cZ tq0 tq1 tq2 tq3 tq4 tq5 tq6 tq7 tq8 tq9 tq10 tq11 tq12 tq13 tq14 tq15 tq16 tq17 tq18 tq19 tq20 tq21 tq22 tq23 tq24 t_signs t_signMany t_lineOf t_strengthOf t_waterOf t_backOf t_passes t_tried t_table t_numbers t_bends t_wished t_itemLine t_itemStrength t_itemWater t_itemBack t_items t_worstThen o.2.1 o.2.2 t_readSum t_readMany t_spanLow t_spanHigh t_weldLine t_weldPull t_welds t_orderOf t_bestOrder t_smithOf t_bestSmith t_busy) (some (.int o.1)) := by
  refine Ctr.of (by decide) (Nat.le_of_ble_eq_true rfl) ?_
  intro p e s m args below meth c ls A Q hA hQ C hl hw
  have hx := C.1
  have hb := C.2.1
  have hl : lv_has ls 4 [(0, .ref tq0), (1, .int x1), (2, .int x2)] := hl
  have L40 : ∀ (n : Nat), ∀ (t_reading : Nat → Int32) (t_isRead : Nat → Int32) (v1 : Int32) (v2 : Int32) (s0 : Int32) (H : Heap) (locs : List Loc) (ls : Array Slot), Wd D A s.heap (w_X12 cI cC cZ tq0 tq1 tq2 tq3 tq4 tq5 tq6 tq7 tq8 tq9 tq10 tq11 tq12 tq13 tq14 tq15 tq16 tq17 tq18 tq19 tq20 tq21 tq22 tq23 tq24 t_signs t_signMany t_lineOf t_strengthOf t_waterOf t_backOf t_passes t_tried t_table t_numbers t_bends t_wished t_itemLine t_itemStrength t_itemWater t_itemBack t_items t_worstThen t_reading t_isRead t_readSum t_readMany t_spanLow t_spanHigh t_weldLine t_weldPull t_welds t_orderOf t_bestOrder t_smithOf t_bestSmith t_busy) H locs → lv_has ls 4 [(0, .ref tq0), (1, .int v1), (2, .int v2)] → f_X12_read_40  n t_reading t_isRead v1 v2 s0 = some o → W p l e (rmOf 2 45) s m args below meth c H locs 0 0 Q (F0 m 40 ls [.int s0]) := by
    intro  n t_reading t_isRead v1 v2 s0 H locs ls hw hl hf
    refine lv_istore_n (lv' := [(3, .int s0), (0, .ref tq0), (1, .int v1), (2, .int v2)]) hx hb (dc d_X12_read 21 rfl) rfl hl (by decide) rfl (fun ls hl => ?_)
    refine lv_aload_n hx hb (dc d_X12_read 22 rfl) rfl (lv_at hl 1 rfl) ?_
    refine x_get C hw fl_X12_49 0 rfl rfl (dc d_X12_read 23 rfl) ?_
    refine lv_iload_n hx hb (dc d_X12_read 24 rfl) rfl (lv_at hl 2 rfl) ?_
    refine lv_iload_n hx hb (dc d_X12_read 25 rfl) rfl (lv_at hl 3 rfl) ?_
    have hi := grd_b hf
    have hf := grd_x hf
    refine x_iast C hw 14 rfl hi (dc d_X12_read 26 rfl) (fun H locs hw => ?_)
    dsimp only [w_X12, mix, List.set_cons_succ, List.set_cons_zero] at hw
    have hw : Wd D A s.heap (w_X12 cI cC cZ tq0 tq1 tq2 tq3 tq4 tq5 tq6 tq7 tq8 tq9 tq10 tq11 tq12 tq13 tq14 tq15 tq16 tq17 tq18 tq19 tq20 tq21 tq22 tq23 tq24 t_signs t_signMany t_lineOf t_strengthOf t_waterOf t_backOf t_passes t_tried t_table t_numbers t_bends t_wished t_itemLine t_itemStrength t_itemWater t_itemBack t_items t_worstThen (upd t_reading v1.toNatClampNeg v2) t_isRead t_readSum t_readMany t_spanLow t_spanHigh t_weldLine t_weldPull t_welds t_orderOf t_bestOrder t_smithOf t_bestSmith t_busy) H locs := hw
    refine lv_aload_n hx hb (dc d_X12_read 27 rfl) rfl (lv_at hl 1 rfl) ?_
    refine x_get C hw fl_X12_52 0 rfl rfl (dc d_X12_read 28 rfl) ?_
    refine lv_iload_n hx hb (dc d_X12_read 29 rfl) rfl (lv_at hl 2 rfl) ?_
    refine lv_iconst (v := (1 : Int32)) hx hb (dc d_X12_read 30 rfl) (by decide) ?_
    have hi := grd_b hf
    have hf := grd_x hf
    refine x_zast C hw 15 rfl hi (dc d_X12_read 31 rfl) (fun H locs hw => ?_)
    dsimp only [w_X12, mix, List.set_cons_succ, List.set_cons_zero] at hw
    have hw : Wd D A s.heap (w_X12 cI cC cZ tq0 tq1 tq2 tq3 tq4 tq5 tq6 tq7 tq8 tq9 tq10 tq11 tq12 tq13 tq14 tq15 tq16 tq17 tq18 tq19 tq20 tq21 tq22 tq23 tq24 t_signs t_signMany t_lineOf t_strengthOf t_waterOf t_backOf t_passes t_tried t_table t_numbers t_bends t_wished t_itemLine t_itemStrength t_itemWater t_itemBack t_items t_worstThen (upd t_reading v1.toNatClampNeg v2) (upd t_isRead v1.toNatClampNeg (vp_nar .boolean (1 : Int32))) t_readSum t_readMany t_spanLow t_spanHigh t_weldLine t_weldPull t_welds t_orderOf t_bestOrder t_smithOf t_bestSmith t_busy) H locs := hw
    refine lv_iload_n hx hb (dc d_X12_read 32 rfl) rfl (lv_at hl 0 rfl) ?_
    cases hf
    exact x_iret C hA hQ hw rfl rfl (dc d_X12_read 33 rfl)
  refine lv_iload_n hx hb (dc d_X12_read 0 rfl) rfl (lv_at hl 1 rfl) ?_
  obtain ⟨q1, hq1, hf⟩ := g_bd hf
  refine x_callS C hw mb_X12_isCorner ms_X12_isCorner ml_X12_152 (k_X12_isCorner n hq1) hl.1 rfl rfl [] rfl rfl rfl (Nat.le_of_ble_eq_true rfl) (Nat.le_of_ble_eq_true rfl) (Nat.le_of_ble_eq_true rfl) (dc d_X12_read 1 rfl) (fun H locs hw => ?_)
  refine W.eq (g2 := F0 m 4 ls [.int q1]) rfl ?_
  have hw : Wd D A s.heap (w_X12 cI cC cZ tq0 tq1 tq2 tq3 tq4 tq5 tq6 tq7 tq8 tq9 tq10 tq11 tq12 tq13 tq14 tq15 tq16 tq17 tq18 tq19 tq20 tq21 tq22 tq23 tq24 t_signs t_signMany t_lineOf t_strengthOf t_waterOf t_backOf t_passes t_tried t_table t_numbers t_bends t_wished t_itemLine t_itemStrength t_itemWater t_itemBack t_items t_worstThen t_reading t_isRead t_readSum t_readMany t_spanLow t_spanHigh t_weldLine t_weldPull t_welds t_orderOf t_bestOrder t_smithOf t_bestSmith t_busy) H locs := hw
  refine lv_if_ne (tgt := 9) hx hb (dc d_X12_read 2 rfl) (by decide) (fun c2 => ?_) (fun c2 => ?_)
  · have hf := g_f hf c2
    refine lv_iload_n hx hb (dc d_X12_read 5 rfl) rfl (lv_at hl 2 rfl) ?_
    refine lv_i2l (v := x2.toInt64) hx hb (dc d_X12_read 6 rfl) rfl ?_
    refine x_ldc2 (v := (-100000 : Int64)) C cn_X12_158 (dc d_X12_read 7 rfl) ?_
    refine x_ldc2 (v := (100000 : Int64)) C cn_X12_160 (dc d_X12_read 8 rfl) ?_
    obtain ⟨q3, hq3, hf⟩ := g_bd hf
    refine x_callS C hw mb_X12_in ms_X12_in ml_X12_85 (k_X12_in n hq3) hl.1 rfl rfl [] rfl rfl rfl (Nat.le_of_ble_eq_true rfl) (Nat.le_of_ble_eq_true rfl) (Nat.le_of_ble_eq_true rfl) (dc d_X12_read 9 rfl) (fun H locs hw => ?_)
    refine W.eq (g2 := F0 m 20 ls [.int q3]) rfl ?_
    have hw : Wd D A s.heap (w_X12 cI cC cZ tq0 tq1 tq2 tq3 tq4 tq5 tq6 tq7 tq8 tq9 tq10 tq11 tq12 tq13 tq14 tq15 tq16 tq17 tq18 tq19 tq20 tq21 tq22 tq23 tq24 t_signs t_signMany t_lineOf t_strengthOf t_waterOf t_backOf t_passes t_tried t_table t_numbers t_bends t_wished t_itemLine t_itemStrength t_itemWater t_itemBack t_items t_worstThen t_reading t_isRead t_readSum t_readMany t_spanLow t_spanHigh t_weldLine t_weldPull t_welds t_orderOf t_bestOrder t_smithOf t_bestSmith t_busy) H locs := hw
    refine lv_if_ne (tgt := 26) hx hb (dc d_X12_read 10 rfl) (by decide) (fun c4 => ?_) (fun c4 => ?_)
    · have hf := g_f hf c4
      refine lv_aload_n hx hb (dc d_X12_read 13 rfl) rfl (lv_at hl 0 rfl) ?_
      refine x_get C hw fl_X12_52 0 rfl rfl (dc d_X12_read 14 rfl) ?_
      refine lv_iload_n hx hb (dc d_X12_read 15 rfl) rfl (lv_at hl 1 rfl) ?_
      have hi := grd_b hf
      have hf := grd_x hf
      refine x_zald C hw 15 rfl hi (dc d_X12_read 16 rfl) ?_
      refine lv_if_eq (tgt := 39) hx hb (dc d_X12_read 17 rfl) (by decide) (fun c5 => ?_) (fun c5 => ?_)
      · have hf := g_t hf c5
        refine lv_iconst (v := (1 : Int32)) hx hb (dc d_X12_read 20 rfl) (by decide) ?_
        exact L40  n t_reading t_isRead x1 x2 (1 : Int32) _ _ _ hw (lv_sub hl [0, 1, 2] rfl) hf
      · have hf := g_f hf c5
        refine lv_iconst (v := (0 : Int32)) hx hb (dc d_X12_read 18 rfl) (by decide) ?_
        refine lv_goto (tgt := 40) hx hb (dc d_X12_read 19 rfl) (by decide) ?_
        exact L40  n t_reading t_isRead x1 x2 (0 : Int32) _ _ _ hw (lv_sub hl [0, 1, 2] rfl) hf
    · have hf := g_t hf c4
      refine lv_bipush (v := (-2 : Int32)) hx hb (dc d_X12_read 11 rfl) (by decide) ?_
      cases hf
      exact x_iret C hA hQ hw rfl rfl (dc d_X12_read 12 rfl)
  · have hf := g_t hf c2
    refine lv_iconst (v := (-1 : Int32)) hx hb (dc d_X12_read 3 rfl) (by decide) ?_
    cases hf
    exact x_iret C hA hQ hw rfl rfl (dc d_X12_read 4 rfl)
