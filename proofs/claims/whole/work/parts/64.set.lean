/-! Written by wip/gen/gen3.py: Rules.allows and FlameBend.set (static arrays). -/
def PZ (D : va_G) (cI cC cZ : ClassId) (w : va_W) : State → Prop := fun U => va_P D vwCl w U.heap ∧ va_K D vwCl (tys3 cI cC cZ) U ∧ va_D (fun _ => True) w ∧ StZ (inW w) U U.heap
/-- a contract over a fixed world, with the static arrays -/
def CtrZ (l : Launch) (y : MethodName) (cc : ByteArray) (maxL : Nat) (ret : Option FieldType) (F L : Nat) (D : va_G) (cI cC cZ : ClassId) (av : List Value) (w w' : va_W) (r : Option Value) : Prop :=
  Met l y (wsOf y cc maxL ret) (rmOf F L) (va_Pc av (PZ D cI cC cZ w)) (CtQ D w w' r) 0 0 (inW w)
theorem CtrZ.of {l : Launch} {y : MethodName} {cc : ByteArray} {maxL : Nat} {ret : Option FieldType} {F L : Nat} {D : va_G} {cI cC cZ : ClassId} {av : List Value} {w w' : va_W} {r : Option Value} (hy : plainName y.cls = true) (hn : (lg_sl av).length ≤ maxL)
    (body : ∀ (p : Program) (e : Env) (s : State) (m : MethodId) (args : Array Value) (below : List Frame) (meth : Method) (c : Code) (ls : Array Slot) (A : Nat → Prop) (Q : State → Prop), A = inW w → Q = MQ below (CtQ D w w' r) args s 0 0 (inW w) → Cx p s m args meth c y.cls cc maxL ret D cI cC cZ → lv_has ls maxL (lv_args 0 av) → Wd D A s.heap w s.heap [] → StZ A s s.heap →
      W p l e (rmOf F L) s m args below meth c s.heap [] 0 0 Q (F0 m 0 ls [])) : CtrZ l y cc maxL ret F L D cI cC cZ av w w' r := by
  refine Met.ofW (cc := cc) (maxL := maxL) (ret := ret) hy rfl ?_
  intro p e s m args below meth c s₁ B hml hv
  obtain ⟨rfl, hP, hK, hD, hz⟩ := hv
  have hts := atoms_spec (ws := wsOf y cc maxL ret) B.pre
  have hl := lv_entry av (n := maxL) hn
  rw [lg_entry_eq]
  exact body p e s m _ below meth c _ _ _ rfl rfl ⟨B.exec, B.bytes, B.returns, hml, findClass_of_methodNamed B.named, B.notSynchronized, fun w hw => hts w (List.mem_cons_of_mem _ hw), hK⟩ hl ⟨hP, hD.inw, va_S.rf⟩ hz
theorem PZ.blind {D : va_G} {w : va_W} {av : List Value} {cI cC cZ : ClassId} : FrameBlind (va_Pc av (PZ D cI cC cZ w)) := by
  intro a U g mk h
  obtain ⟨h1, h2, h3, h4, h5⟩ := h
  exact ⟨h1, h2, va_K.moved (u := U) (U := U.calling g mk a) (Vm.Alike.refl U.vm) h3, h4, h5.go (U := U.calling g mk a) (Vm.Alike.refl U.vm) (fun _ _ _ => rfl) (fun _ h => h)⟩
theorem x_preZ {p : Program} {s : State} {m : MethodId} {args : Array Value} {meth : Method} {c : Code} {H : Heap} {locs : List Loc} {own : String} {cc : ByteArray} {maxL : Nat} {ret : Option FieldType} {D : va_G} {cI cC cZ : ClassId} {A : Nat → Prop} {ws w : va_W} {As : List Value} (C : Cx p s m args meth c own cc maxL ret D cI cC cZ) (hw : Wd D A s.heap ws H locs) (hz : StZ A s s.heap) (isC : List Nat) (hsel : isC.map (fun i => ws[i]?) = w.map some) (hnd : va_nd isC = true) : PreS s H (va_Pc As (PZ D cI cC cZ w)) As := by
  have hin : ∀ q, inW w q → A q := by
    intro q hq
    obtain ⟨j, e, h3⟩ := hq
    have h1 : (isC.map (fun i => ws[i]?))[j]? = some (some (q, e)) := by rw [hsel, List.getElem?_map, h3]; rfl
    rw [List.getElem?_map] at h1
    cases hi : isC[j]? with
    | none => rw [hi] at h1; cases h1
    | some i => rw [hi] at h1; exact hw.2.1.2 i (q, e) (Option.some.inj h1)
  exact ⟨PZ.blind, fun U hU hW => ⟨rfl, by rw [hU]; exact sel_P hw.1 isC hsel, va_K.moved hW.alike C.2.2.2.2.2.2.2, (hw.2.1.sub (ws' := w) isC hnd hsel).weaken (fun _ _ _ _ => trivial), hz.go hW.alike (fun a h1 h2 => by rw [hU]; exact hw.2.2.2.1 a h1 h2) hin⟩⟩
theorem leN : ∀ k, k < 6 → (leF k).toInt = leastN k := by decide +kernel
theorem moN : ∀ k, k < 6 → (moF k).toInt = mostN k := by decide +kernel
theorem mb_X5_allows : MB yX5_allows cX5_allows 3 (some .boolean) 2 := ⟨in_gt 466 (by decide +kernel) (by decide +kernel), in_gt 37 (by decide +kernel) (by decide +kernel), by decide +kernel⟩
theorem mb_X5_put : MB yX5_put cX5_put 4 (some .int) 2 := ⟨in_gt 474 (by decide +kernel) (by decide +kernel), in_gt 37 (by decide +kernel) (by decide +kernel), by decide +kernel⟩
theorem ml_X11_151 : Cond.methodLink RX11 151 yX5_allows ∈ gt := in_gt 463 (by decide +kernel) (by decide +kernel)
theorem ml_X11_155 : Cond.methodLink RX11 155 yX5_put ∈ gt := in_gt 471 (by decide +kernel) (by decide +kernel)
theorem mv_X5_allows : MV yX5_allows := ⟨in_gt 464 (by decide +kernel) (by decide +kernel), in_gt 465 (by decide +kernel) (by decide +kernel)⟩
theorem mv_X5_put : MV yX5_put := ⟨in_gt 472 (by decide +kernel) (by decide +kernel), in_gt 473 (by decide +kernel) (by decide +kernel)⟩
theorem sl_X5_31 : Cond.fieldLink RX5 31 "FlameBend$Rules" "LEAST" "[I" ∈ gt := in_gt 467 (by decide +kernel) (by decide +kernel)
theorem sl_X5_34 : Cond.fieldLink RX5 34 "FlameBend$Rules" "MOST" "[I" ∈ gt := in_gt 469 (by decide +kernel) (by decide +kernel)
abbrev l_X5_allows : List (Nat × Instr × Nat) := [(0, .iload_n 1, 1), (1, .ifCond .lt 31, 3), (4, .iload_n 1, 1), (5, .bipush 6, 2), (7, .if_icmp .ge 25, 3), (10, .iload_n 2, 1), (11, .getstatic 31, 3), (14, .iload_n 1, 1), (15, .iaload, 1), (16, .if_icmp .lt 16, 3), (19, .iload_n 2, 1), (20, .getstatic 34, 3), (23, .iload_n 1, 1), (24, .iaload, 1), (25, .if_icmp .gt 7, 3), (28, .iconst 1, 1), (29, .goto 4, 3), (32, .iconst 0, 1), (33, .ireturn, 1)]
theorem d_X5_allows : dcOk cX5_allows l_X5_allows = true := by decide +kernel
set_option maxHeartbeats 4000000 in
set_option maxRecDepth 100000 in
theorem k_X5_allows_t {l : Launch} {D : va_G} {cI cC cZ : ClassId} {q0 q1 q2 : Nat} {st nm : Nat → Int32} {x1 x2 : Int32} (h : setIn x1 x2) : CtrZ l yX5_allows cX5_allows 3 (some .boolean) 0 0 D cI cC cZ [.ref q0, .int x1, .int x2] (w_X5 cI cC cZ q0 q1 q2 st nm) (w_X5 cI cC cZ q0 q1 q2 st nm) (some (.int 1)) := by
  refine CtrZ.of (by decide) (Nat.le_of_ble_eq_true rfl) ?_
  intro p e s m args below meth c ls A Q hA hQ C hl hw hz
  have hx := C.1
  have hb := C.2.1
  have hl : lv_has ls 3 [(0, .ref q0), (1, .int x1), (2, .int x2)] := hl
  refine lv_iload_n hx hb (dc d_X5_allows 0 rfl) rfl (lv_at hl 1 rfl) ?_
  refine lv_if_lt (tgt := 32) hx hb (dc d_X5_allows 1 rfl) (by decide) (fun c1 => absurd c1 (fun q => by have := lt_T.mp q; rw [show (0 : Int32).toInt = 0 from by decide] at this; have := h.1.1; omega)) (fun c1 => ?_)
  refine lv_iload_n hx hb (dc d_X5_allows 2 rfl) rfl (lv_at hl 1 rfl) ?_
  refine lv_bipush (v := (6 : Int32)) hx hb (dc d_X5_allows 3 rfl) (by decide) ?_
  refine lv_icmp_ge (tgt := 32) hx hb (dc d_X5_allows 4 rfl) (by decide) (fun c1 => absurd c1 (fun q => by have := le_T.mp q; rw [show (6 : Int32).toInt = 6 from by decide] at this; have := h.1.2; omega)) (fun c7 => ?_)
  obtain ⟨k, hk, rfl⟩ := t_in (x := x1) (b := 6) h.1.1 h.1.2 (by omega)
  have h1 := h.2.1
  have h2 := h.2.2
  rw [p_cl (by omega), ← leN k hk] at h1
  rw [p_cl (by omega), ← moN k hk] at h2
  refine lv_iload_n hx hb (dc d_X5_allows 5 rfl) rfl (lv_at hl 2 rfl) ?_
  refine x_stat C hw hz.2.1 sl_X5_31 (dc d_X5_allows 6 rfl) (fun t2 ht2 => ?_)
  refine lv_iload_n hx hb (dc d_X5_allows 7 rfl) rfl (lv_at hl 1 rfl) ?_
  refine x_tald C hw ht2 (p_vin hk (by omega)) (dc d_X5_allows 8 rfl) ?_
  rw [p_cl (by omega)]
  refine lv_icmp_lt (tgt := 32) hx hb (dc d_X5_allows 9 rfl) (by decide) (fun c1 => absurd c1 (fun q => by have := lt_T.mp q; omega)) (fun c16 => ?_)
  refine lv_iload_n hx hb (dc d_X5_allows 10 rfl) rfl (lv_at hl 2 rfl) ?_
  refine x_stat C hw hz.2.2 sl_X5_34 (dc d_X5_allows 11 rfl) (fun t3 ht3 => ?_)
  refine lv_iload_n hx hb (dc d_X5_allows 12 rfl) rfl (lv_at hl 1 rfl) ?_
  refine x_tald C hw ht3 (p_vin hk (by omega)) (dc d_X5_allows 13 rfl) ?_
  rw [p_cl (by omega)]
  refine lv_icmp_gt (tgt := 32) hx hb (dc d_X5_allows 14 rfl) (by decide) (fun c1 => absurd c1 (fun q => by have := lt_T.mp q; omega)) (fun c25 => ?_)
  refine lv_iconst (v := (1 : Int32)) hx hb (dc d_X5_allows 15 rfl) (by decide) ?_
  refine lv_goto (tgt := 33) hx hb (dc d_X5_allows 16 rfl) (by decide) ?_
  exact x_zret C hA hQ hw rfl rfl (by decide) (dc d_X5_allows 18 rfl)
set_option maxHeartbeats 4000000 in
set_option maxRecDepth 100000 in
theorem k_X5_allows_f {l : Launch} {D : va_G} {cI cC cZ : ClassId} {q0 q1 q2 : Nat} {st nm : Nat → Int32} {x1 x2 : Int32} (h : ¬ setIn x1 x2) : CtrZ l yX5_allows cX5_allows 3 (some .boolean) 0 0 D cI cC cZ [.ref q0, .int x1, .int x2] (w_X5 cI cC cZ q0 q1 q2 st nm) (w_X5 cI cC cZ q0 q1 q2 st nm) (some (.int 0)) := by
  refine CtrZ.of (by decide) (Nat.le_of_ble_eq_true rfl) ?_
  intro p e s m args below meth c ls A Q hA hQ C hl hw hz
  have hx := C.1
  have hb := C.2.1
  have hl : lv_has ls 3 [(0, .ref q0), (1, .int x1), (2, .int x2)] := hl
  refine lv_iload_n hx hb (dc d_X5_allows 0 rfl) rfl (lv_at hl 1 rfl) ?_
  refine lv_if_lt (tgt := 32) hx hb (dc d_X5_allows 1 rfl) (by decide) (fun c1 => ?_) (fun c1 => ?_)
  · refine lv_iconst (v := (0 : Int32)) hx hb (dc d_X5_allows 17 rfl) (by decide) ?_
    exact x_zret C hA hQ hw rfl rfl (by decide) (dc d_X5_allows 18 rfl)
  refine lv_iload_n hx hb (dc d_X5_allows 2 rfl) rfl (lv_at hl 1 rfl) ?_
  refine lv_bipush (v := (6 : Int32)) hx hb (dc d_X5_allows 3 rfl) (by decide) ?_
  refine lv_icmp_ge (tgt := 32) hx hb (dc d_X5_allows 4 rfl) (by decide) (fun c1 => ?_) (fun c7 => ?_)
  · refine lv_iconst (v := (0 : Int32)) hx hb (dc d_X5_allows 17 rfl) (by decide) ?_
    exact x_zret C hA hQ hw rfl rfl (by decide) (dc d_X5_allows 18 rfl)
  have g1 : 0 ≤ x1.toInt := by have := mt lt_T.mpr c1; rw [show (0 : Int32).toInt = 0 from by decide] at this; omega
  have g2 : x1.toInt < 6 := by have := mt le_T.mpr c7; rw [show (6 : Int32).toInt = 6 from by decide] at this; omega
  obtain ⟨k, hk, rfl⟩ := t_in (x := x1) (b := 6) g1 g2 (by omega)
  refine lv_iload_n hx hb (dc d_X5_allows 5 rfl) rfl (lv_at hl 2 rfl) ?_
  refine x_stat C hw hz.2.1 sl_X5_31 (dc d_X5_allows 6 rfl) (fun t2 ht2 => ?_)
  refine lv_iload_n hx hb (dc d_X5_allows 7 rfl) rfl (lv_at hl 1 rfl) ?_
  refine x_tald C hw ht2 (p_vin hk (by omega)) (dc d_X5_allows 8 rfl) ?_
  rw [p_cl (by omega)]
  refine lv_icmp_lt (tgt := 32) hx hb (dc d_X5_allows 9 rfl) (by decide) (fun c1 => ?_) (fun c16 => ?_)
  · refine lv_iconst (v := (0 : Int32)) hx hb (dc d_X5_allows 17 rfl) (by decide) ?_
    exact x_zret C hA hQ hw rfl rfl (by decide) (dc d_X5_allows 18 rfl)
  refine lv_iload_n hx hb (dc d_X5_allows 10 rfl) rfl (lv_at hl 2 rfl) ?_
  refine x_stat C hw hz.2.2 sl_X5_34 (dc d_X5_allows 11 rfl) (fun t3 ht3 => ?_)
  refine lv_iload_n hx hb (dc d_X5_allows 12 rfl) rfl (lv_at hl 1 rfl) ?_
  refine x_tald C hw ht3 (p_vin hk (by omega)) (dc d_X5_allows 13 rfl) ?_
  rw [p_cl (by omega)]
  refine lv_icmp_gt (tgt := 32) hx hb (dc d_X5_allows 14 rfl) (by decide) (fun c1 => ?_) (fun c25 => ?_)
  · refine lv_iconst (v := (0 : Int32)) hx hb (dc d_X5_allows 17 rfl) (by decide) ?_
    exact x_zret C hA hQ hw rfl rfl (by decide) (dc d_X5_allows 18 rfl)
  refine absurd ⟨⟨g1, g2⟩, ?_, ?_⟩ h
  · rw [p_cl (by omega), ← leN k hk]; have := mt lt_T.mpr c16; omega
  · rw [p_cl (by omega), ← moN k hk]; have := mt lt_T.mpr c25; omega
abbrev l_X11_set : List (Nat × Instr × Nat) := [(0, .aload_n 0, 1), (1, .getfield 19, 3), (4, .iload_n 1, 1), (5, .iload_n 2, 1), (6, .invokevirtual 151, 3), (9, .ifCond .ne 6, 3), (12, .bipush (-2), 2), (14, .ireturn, 1), (15, .aload_n 0, 1), (16, .getfield 70, 3), (19, .iconst 0, 1), (20, .putfield 143, 3), (23, .aload_n 0, 1), (24, .getfield 19, 3), (27, .iload_n 1, 1), (28, .iload_n 2, 1), (29, .invokevirtual 155, 3), (32, .ireturn, 1)]
theorem d_X11_set : dcOk cX11_set l_X11_set = true := by decide +kernel
set_option maxHeartbeats 4000000 in
set_option maxRecDepth 100000 in
theorem k_X11_set_t {l : Launch} {D : va_G} {cI cC cZ : ClassId} {tq0 tq1 tq2 tq3 tq4 tq5 tq6 tq7 tq8 tq9 tq10 tq11 tq12 tq13 tq14 tq15 tq16 tq17 tq18 tq19 tq20 tq21 tq22 tq23 tq24 tq25 tq26 tq27 tq28 tq29 tq30 tq31 tq32 tq33 tq34 tq35 tq36 tq37 tq38 tq39 tq40 tq41 tq42 tq43 tq44 tq45 tq46 tq47 tq48 tq49 tq50 tq51 : Nat} {t_orders_signs : Nat → Int32} {t_orders_count : Int32} {t_rules_settings : Nat → Int32} {t_rules_numbers : Nat → Int32} {t_work_room : Int32} {t_work_line : Nat → Int32} {t_work_strength : Nat → Int32} {t_work_water : Nat → Int32} {t_work_back : Nat → Int32} {t_work_count : Int32} {t_shape_bends : Nat → Int32} {t_shape_laid : Nat → Int32} {t_shape_across : Nat → Int32} {t_shape_along : Nat → Int32} {t_wished_heights : Nat → Int32} {t_wished_hung : Nat → Int32} {t_planner_items_room : Int32} {t_planner_items_line : Nat → Int32} {t_planner_items_strength : Nat → Int32} {t_planner_items_water : Nat → Int32} {t_planner_items_back : Nat → Int32} {t_planner_items_count : Int32} {t_planner_trial_bends : Nat → Int32} {t_planner_trial_laid : Nat → Int32} {t_planner_trial_across : Nat → Int32} {t_planner_trial_along : Nat → Int32} {t_planner_found : Int32} {t_planner_foundWorst : Int32} {t_gauges_heights : Nat → Int32} {t_gauges_isRead : Nat → Int32} {t_gauges_count : Int32} {t_gauges_bendSum : Int32} {t_gauges_bendPlaces : Int32} {t_spans_lower : Nat → Int32} {t_spans_upper : Nat → Int32} {t_welds_line : Nat → Int32} {t_welds_pull : Nat → Int32} {t_welds_best : Nat → Int32} {t_welds_count : Int32} {t_welds_bestWorst : Int32} {t_welds_known : Int32} {t_welds_tried : Nat → Int32} {t_welds_bent : Nat → Int32} {t_welds_trial_bends : Nat → Int32} {t_welds_trial_laid : Nat → Int32} {t_welds_trial_across : Nat → Int32} {t_welds_trial_along : Nat → Int32} {t_smiths_smithOf : Nat → Int32} {t_smiths_greatest : Int32} {t_smiths_knownFor : Int32} {t_smiths_times : Nat → Int32} {t_smiths_sums : Nat → Int32} {t_smiths_count : Int32} {t_fraction_upper : Int64} {t_fraction_lower : Int64} {x1 x2 : Int32} (h : setIn x1 x2) : CtrZ l yX11_set cX11_set 3 (some .int) 3 100 D cI cC cZ [.ref tq0, .int x1, .int x2] (w_X11 cI cC cZ tq0 tq1 tq2 tq3 tq4 tq5 tq6 tq7 tq8 tq9 tq10 tq11 tq12 tq13 tq14 tq15 tq16 tq17 tq18 tq19 tq20 tq21 tq22 tq23 tq24 tq25 tq26 tq27 tq28 tq29 tq30 tq31 tq32 tq33 tq34 tq35 tq36 tq37 tq38 tq39 tq40 tq41 tq42 tq43 tq44 tq45 tq46 tq47 tq48 tq49 tq50 tq51 t_orders_signs t_orders_count t_rules_settings t_rules_numbers t_work_room t_work_line t_work_strength t_work_water t_work_back t_work_count t_shape_bends t_shape_laid t_shape_across t_shape_along t_wished_heights t_wished_hung t_planner_items_room t_planner_items_line t_planner_items_strength t_planner_items_water t_planner_items_back t_planner_items_count t_planner_trial_bends t_planner_trial_laid t_planner_trial_across t_planner_trial_along t_planner_found t_planner_foundWorst t_gauges_heights t_gauges_isRead t_gauges_count t_gauges_bendSum t_gauges_bendPlaces t_spans_lower t_spans_upper t_welds_line t_welds_pull t_welds_best t_welds_count t_welds_bestWorst t_welds_known t_welds_tried t_welds_bent t_welds_trial_bends t_welds_trial_laid t_welds_trial_across t_welds_trial_along t_smiths_smithOf t_smiths_greatest t_smiths_knownFor t_smiths_times t_smiths_sums t_smiths_count t_fraction_upper t_fraction_lower) (w_X11 cI cC cZ tq0 tq1 tq2 tq3 tq4 tq5 tq6 tq7 tq8 tq9 tq10 tq11 tq12 tq13 tq14 tq15 tq16 tq17 tq18 tq19 tq20 tq21 tq22 tq23 tq24 tq25 tq26 tq27 tq28 tq29 tq30 tq31 tq32 tq33 tq34 tq35 tq36 tq37 tq38 tq39 tq40 tq41 tq42 tq43 tq44 tq45 tq46 tq47 tq48 tq49 tq50 tq51 t_orders_signs t_orders_count (upd t_rules_settings x1.toNatClampNeg x2) t_rules_numbers t_work_room t_work_line t_work_strength t_work_water t_work_back t_work_count t_shape_bends t_shape_laid t_shape_across t_shape_along t_wished_heights t_wished_hung t_planner_items_room t_planner_items_line t_planner_items_strength t_planner_items_water t_planner_items_back t_planner_items_count t_planner_trial_bends t_planner_trial_laid t_planner_trial_across t_planner_trial_along t_planner_found t_planner_foundWorst t_gauges_heights t_gauges_isRead t_gauges_count t_gauges_bendSum t_gauges_bendPlaces t_spans_lower t_spans_upper t_welds_line t_welds_pull t_welds_best t_welds_count t_welds_bestWorst 0 t_welds_tried t_welds_bent t_welds_trial_bends t_welds_trial_laid t_welds_trial_across t_welds_trial_along t_smiths_smithOf t_smiths_greatest t_smiths_knownFor t_smiths_times t_smiths_sums t_smiths_count t_fraction_upper t_fraction_lower) (some (.int (t_rules_settings x1.toNatClampNeg))) := by
  refine CtrZ.of (by decide) (Nat.le_of_ble_eq_true rfl) ?_
  intro p e s m args below meth c ls A Q hA hQ C hl hw hz
  have hx := C.1
  have hb := C.2.1
  have hl : lv_has ls 3 [(0, .ref tq0), (1, .int x1), (2, .int x2)] := hl
  refine lv_aload_n hx hb (dc d_X11_set 0 rfl) rfl (lv_at hl 0 rfl) ?_
  refine x_get C hw fl_X11_19 0 rfl rfl (dc d_X11_set 1 rfl) ?_
  refine lv_iload_n hx hb (dc d_X11_set 2 rfl) rfl (lv_at hl 1 rfl) ?_
  refine lv_iload_n hx hb (dc d_X11_set 3 rfl) rfl (lv_at hl 2 rfl) ?_
  refine x_callVG (As := [.int x1, .int x2]) (rest := []) C hw mb_X5_allows mv_X5_allows ml_X11_151 (q0 := 3) rfl rfl (k_X5_allows_t h) (x_preZ C hw hz [3, 4, 5] rfl (by decide)) hl.1 rfl rfl [3, 4, 5] rfl rfl (Nat.le_of_ble_eq_true rfl) (Nat.le_of_ble_eq_true rfl) (Nat.le_of_ble_eq_true rfl) (Nat.le_of_ble_eq_true rfl) (Nat.le_of_ble_eq_true rfl) (dc d_X11_set 4 rfl) (fun H locs hw => ?_)
  dsimp only [w_X11, w_X5, mix, List.set_cons_succ, List.set_cons_zero] at hw
  have hw : Wd D A s.heap (w_X11 cI cC cZ tq0 tq1 tq2 tq3 tq4 tq5 tq6 tq7 tq8 tq9 tq10 tq11 tq12 tq13 tq14 tq15 tq16 tq17 tq18 tq19 tq20 tq21 tq22 tq23 tq24 tq25 tq26 tq27 tq28 tq29 tq30 tq31 tq32 tq33 tq34 tq35 tq36 tq37 tq38 tq39 tq40 tq41 tq42 tq43 tq44 tq45 tq46 tq47 tq48 tq49 tq50 tq51 t_orders_signs t_orders_count t_rules_settings t_rules_numbers t_work_room t_work_line t_work_strength t_work_water t_work_back t_work_count t_shape_bends t_shape_laid t_shape_across t_shape_along t_wished_heights t_wished_hung t_planner_items_room t_planner_items_line t_planner_items_strength t_planner_items_water t_planner_items_back t_planner_items_count t_planner_trial_bends t_planner_trial_laid t_planner_trial_across t_planner_trial_along t_planner_found t_planner_foundWorst t_gauges_heights t_gauges_isRead t_gauges_count t_gauges_bendSum t_gauges_bendPlaces t_spans_lower t_spans_upper t_welds_line t_welds_pull t_welds_best t_welds_count t_welds_bestWorst t_welds_known t_welds_tried t_welds_bent t_welds_trial_bends t_welds_trial_laid t_welds_trial_across t_welds_trial_along t_smiths_smithOf t_smiths_greatest t_smiths_knownFor t_smiths_times t_smiths_sums t_smiths_count t_fraction_upper t_fraction_lower) H locs := hw
  refine lv_if_ne (tgt := 15) hx hb (dc d_X11_set 5 rfl) (by decide) (fun c1 => ?_) (fun c1 => absurd c1 (by decide))
  refine lv_aload_n hx hb (dc d_X11_set 8 rfl) rfl (lv_at hl 0 rfl) ?_
  refine x_get C hw fl_X11_70 0 rfl rfl (dc d_X11_set 9 rfl) ?_
  refine lv_iconst (v := (0 : Int32)) hx hb (dc d_X11_set 10 rfl) (by decide) ?_
  refine x_put C hw fl_X11_143 fw_X9_5 36 rfl rfl rfl (Nat.le_of_ble_eq_true rfl) (dc d_X11_set 11 rfl) (fun H locs hw => ?_)
  dsimp only [w_X11, List.set_cons_succ, List.set_cons_zero] at hw
  have hw : Wd D A s.heap (w_X11 cI cC cZ tq0 tq1 tq2 tq3 tq4 tq5 tq6 tq7 tq8 tq9 tq10 tq11 tq12 tq13 tq14 tq15 tq16 tq17 tq18 tq19 tq20 tq21 tq22 tq23 tq24 tq25 tq26 tq27 tq28 tq29 tq30 tq31 tq32 tq33 tq34 tq35 tq36 tq37 tq38 tq39 tq40 tq41 tq42 tq43 tq44 tq45 tq46 tq47 tq48 tq49 tq50 tq51 t_orders_signs t_orders_count t_rules_settings t_rules_numbers t_work_room t_work_line t_work_strength t_work_water t_work_back t_work_count t_shape_bends t_shape_laid t_shape_across t_shape_along t_wished_heights t_wished_hung t_planner_items_room t_planner_items_line t_planner_items_strength t_planner_items_water t_planner_items_back t_planner_items_count t_planner_trial_bends t_planner_trial_laid t_planner_trial_across t_planner_trial_along t_planner_found t_planner_foundWorst t_gauges_heights t_gauges_isRead t_gauges_count t_gauges_bendSum t_gauges_bendPlaces t_spans_lower t_spans_upper t_welds_line t_welds_pull t_welds_best t_welds_count t_welds_bestWorst 0 t_welds_tried t_welds_bent t_welds_trial_bends t_welds_trial_laid t_welds_trial_across t_welds_trial_along t_smiths_smithOf t_smiths_greatest t_smiths_knownFor t_smiths_times t_smiths_sums t_smiths_count t_fraction_upper t_fraction_lower) H locs := hw
  refine lv_aload_n hx hb (dc d_X11_set 12 rfl) rfl (lv_at hl 0 rfl) ?_
  refine x_get C hw fl_X11_19 0 rfl rfl (dc d_X11_set 13 rfl) ?_
  refine lv_iload_n hx hb (dc d_X11_set 14 rfl) rfl (lv_at hl 1 rfl) ?_
  refine lv_iload_n hx hb (dc d_X11_set 15 rfl) rfl (lv_at hl 2 rfl) ?_
  have hput : f_X5_put 10 t_rules_settings x1 x2 = some (t_rules_settings x1.toNatClampNeg, upd t_rules_settings x1.toNatClampNeg x2) := by
    obtain ⟨k, hk, rfl⟩ := t_in (x := x1) (b := 6) h.1.1 h.1.2 (by omega)
    unfold f_X5_put
    rw [p_vin hk (by omega)]
    rfl
  refine x_callV C hw mb_X5_put mv_X5_put ml_X11_155 (k_X5_put 10 hput) hl.1 rfl rfl [3, 4, 5] rfl rfl rfl 3 5 rfl rfl (Nat.le_of_ble_eq_true rfl) (Nat.le_of_ble_eq_true rfl) (Nat.le_of_ble_eq_true rfl) (dc d_X11_set 16 rfl) (fun H locs hw => ?_)
  dsimp only [w_X11, w_X5, mix, List.set_cons_succ, List.set_cons_zero] at hw
  have hw : Wd D A s.heap (w_X11 cI cC cZ tq0 tq1 tq2 tq3 tq4 tq5 tq6 tq7 tq8 tq9 tq10 tq11 tq12 tq13 tq14 tq15 tq16 tq17 tq18 tq19 tq20 tq21 tq22 tq23 tq24 tq25 tq26 tq27 tq28 tq29 tq30 tq31 tq32 tq33 tq34 tq35 tq36 tq37 tq38 tq39 tq40 tq41 tq42 tq43 tq44 tq45 tq46 tq47 tq48 tq49 tq50 tq51 t_orders_signs t_orders_count (upd t_rules_settings x1.toNatClampNeg x2) t_rules_numbers t_work_room t_work_line t_work_strength t_work_water t_work_back t_work_count t_shape_bends t_shape_laid t_shape_across t_shape_along t_wished_heights t_wished_hung t_planner_items_room t_planner_items_line t_planner_items_strength t_planner_items_water t_planner_items_back t_planner_items_count t_planner_trial_bends t_planner_trial_laid t_planner_trial_across t_planner_trial_along t_planner_found t_planner_foundWorst t_gauges_heights t_gauges_isRead t_gauges_count t_gauges_bendSum t_gauges_bendPlaces t_spans_lower t_spans_upper t_welds_line t_welds_pull t_welds_best t_welds_count t_welds_bestWorst 0 t_welds_tried t_welds_bent t_welds_trial_bends t_welds_trial_laid t_welds_trial_across t_welds_trial_along t_smiths_smithOf t_smiths_greatest t_smiths_knownFor t_smiths_times t_smiths_sums t_smiths_count t_fraction_upper t_fraction_lower) H locs := hw
  exact x_iret C hA hQ hw rfl rfl (dc d_X11_set 17 rfl)
set_option maxHeartbeats 4000000 in
set_option maxRecDepth 100000 in
theorem k_X11_set_f {l : Launch} {D : va_G} {cI cC cZ : ClassId} {tq0 tq1 tq2 tq3 tq4 tq5 tq6 tq7 tq8 tq9 tq10 tq11 tq12 tq13 tq14 tq15 tq16 tq17 tq18 tq19 tq20 tq21 tq22 tq23 tq24 tq25 tq26 tq27 tq28 tq29 tq30 tq31 tq32 tq33 tq34 tq35 tq36 tq37 tq38 tq39 tq40 tq41 tq42 tq43 tq44 tq45 tq46 tq47 tq48 tq49 tq50 tq51 : Nat} {t_orders_signs : Nat → Int32} {t_orders_count : Int32} {t_rules_settings : Nat → Int32} {t_rules_numbers : Nat → Int32} {t_work_room : Int32} {t_work_line : Nat → Int32} {t_work_strength : Nat → Int32} {t_work_water : Nat → Int32} {t_work_back : Nat → Int32} {t_work_count : Int32} {t_shape_bends : Nat → Int32} {t_shape_laid : Nat → Int32} {t_shape_across : Nat → Int32} {t_shape_along : Nat → Int32} {t_wished_heights : Nat → Int32} {t_wished_hung : Nat → Int32} {t_planner_items_room : Int32} {t_planner_items_line : Nat → Int32} {t_planner_items_strength : Nat → Int32} {t_planner_items_water : Nat → Int32} {t_planner_items_back : Nat → Int32} {t_planner_items_count : Int32} {t_planner_trial_bends : Nat → Int32} {t_planner_trial_laid : Nat → Int32} {t_planner_trial_across : Nat → Int32} {t_planner_trial_along : Nat → Int32} {t_planner_found : Int32} {t_planner_foundWorst : Int32} {t_gauges_heights : Nat → Int32} {t_gauges_isRead : Nat → Int32} {t_gauges_count : Int32} {t_gauges_bendSum : Int32} {t_gauges_bendPlaces : Int32} {t_spans_lower : Nat → Int32} {t_spans_upper : Nat → Int32} {t_welds_line : Nat → Int32} {t_welds_pull : Nat → Int32} {t_welds_best : Nat → Int32} {t_welds_count : Int32} {t_welds_bestWorst : Int32} {t_welds_known : Int32} {t_welds_tried : Nat → Int32} {t_welds_bent : Nat → Int32} {t_welds_trial_bends : Nat → Int32} {t_welds_trial_laid : Nat → Int32} {t_welds_trial_across : Nat → Int32} {t_welds_trial_along : Nat → Int32} {t_smiths_smithOf : Nat → Int32} {t_smiths_greatest : Int32} {t_smiths_knownFor : Int32} {t_smiths_times : Nat → Int32} {t_smiths_sums : Nat → Int32} {t_smiths_count : Int32} {t_fraction_upper : Int64} {t_fraction_lower : Int64} {x1 x2 : Int32} (h : ¬ setIn x1 x2) : CtrZ l yX11_set cX11_set 3 (some .int) 3 100 D cI cC cZ [.ref tq0, .int x1, .int x2] (w_X11 cI cC cZ tq0 tq1 tq2 tq3 tq4 tq5 tq6 tq7 tq8 tq9 tq10 tq11 tq12 tq13 tq14 tq15 tq16 tq17 tq18 tq19 tq20 tq21 tq22 tq23 tq24 tq25 tq26 tq27 tq28 tq29 tq30 tq31 tq32 tq33 tq34 tq35 tq36 tq37 tq38 tq39 tq40 tq41 tq42 tq43 tq44 tq45 tq46 tq47 tq48 tq49 tq50 tq51 t_orders_signs t_orders_count t_rules_settings t_rules_numbers t_work_room t_work_line t_work_strength t_work_water t_work_back t_work_count t_shape_bends t_shape_laid t_shape_across t_shape_along t_wished_heights t_wished_hung t_planner_items_room t_planner_items_line t_planner_items_strength t_planner_items_water t_planner_items_back t_planner_items_count t_planner_trial_bends t_planner_trial_laid t_planner_trial_across t_planner_trial_along t_planner_found t_planner_foundWorst t_gauges_heights t_gauges_isRead t_gauges_count t_gauges_bendSum t_gauges_bendPlaces t_spans_lower t_spans_upper t_welds_line t_welds_pull t_welds_best t_welds_count t_welds_bestWorst t_welds_known t_welds_tried t_welds_bent t_welds_trial_bends t_welds_trial_laid t_welds_trial_across t_welds_trial_along t_smiths_smithOf t_smiths_greatest t_smiths_knownFor t_smiths_times t_smiths_sums t_smiths_count t_fraction_upper t_fraction_lower) (w_X11 cI cC cZ tq0 tq1 tq2 tq3 tq4 tq5 tq6 tq7 tq8 tq9 tq10 tq11 tq12 tq13 tq14 tq15 tq16 tq17 tq18 tq19 tq20 tq21 tq22 tq23 tq24 tq25 tq26 tq27 tq28 tq29 tq30 tq31 tq32 tq33 tq34 tq35 tq36 tq37 tq38 tq39 tq40 tq41 tq42 tq43 tq44 tq45 tq46 tq47 tq48 tq49 tq50 tq51 t_orders_signs t_orders_count t_rules_settings t_rules_numbers t_work_room t_work_line t_work_strength t_work_water t_work_back t_work_count t_shape_bends t_shape_laid t_shape_across t_shape_along t_wished_heights t_wished_hung t_planner_items_room t_planner_items_line t_planner_items_strength t_planner_items_water t_planner_items_back t_planner_items_count t_planner_trial_bends t_planner_trial_laid t_planner_trial_across t_planner_trial_along t_planner_found t_planner_foundWorst t_gauges_heights t_gauges_isRead t_gauges_count t_gauges_bendSum t_gauges_bendPlaces t_spans_lower t_spans_upper t_welds_line t_welds_pull t_welds_best t_welds_count t_welds_bestWorst t_welds_known t_welds_tried t_welds_bent t_welds_trial_bends t_welds_trial_laid t_welds_trial_across t_welds_trial_along t_smiths_smithOf t_smiths_greatest t_smiths_knownFor t_smiths_times t_smiths_sums t_smiths_count t_fraction_upper t_fraction_lower) (some (.int (-2))) := by
  refine CtrZ.of (by decide) (Nat.le_of_ble_eq_true rfl) ?_
  intro p e s m args below meth c ls A Q hA hQ C hl hw hz
  have hx := C.1
  have hb := C.2.1
  have hl : lv_has ls 3 [(0, .ref tq0), (1, .int x1), (2, .int x2)] := hl
  refine lv_aload_n hx hb (dc d_X11_set 0 rfl) rfl (lv_at hl 0 rfl) ?_
  refine x_get C hw fl_X11_19 0 rfl rfl (dc d_X11_set 1 rfl) ?_
  refine lv_iload_n hx hb (dc d_X11_set 2 rfl) rfl (lv_at hl 1 rfl) ?_
  refine lv_iload_n hx hb (dc d_X11_set 3 rfl) rfl (lv_at hl 2 rfl) ?_
  refine x_callVG (As := [.int x1, .int x2]) (rest := []) C hw mb_X5_allows mv_X5_allows ml_X11_151 (q0 := 3) rfl rfl (k_X5_allows_f h) (x_preZ C hw hz [3, 4, 5] rfl (by decide)) hl.1 rfl rfl [3, 4, 5] rfl rfl (Nat.le_of_ble_eq_true rfl) (Nat.le_of_ble_eq_true rfl) (Nat.le_of_ble_eq_true rfl) (Nat.le_of_ble_eq_true rfl) (Nat.le_of_ble_eq_true rfl) (dc d_X11_set 4 rfl) (fun H locs hw => ?_)
  dsimp only [w_X11, w_X5, mix, List.set_cons_succ, List.set_cons_zero] at hw
  have hw : Wd D A s.heap (w_X11 cI cC cZ tq0 tq1 tq2 tq3 tq4 tq5 tq6 tq7 tq8 tq9 tq10 tq11 tq12 tq13 tq14 tq15 tq16 tq17 tq18 tq19 tq20 tq21 tq22 tq23 tq24 tq25 tq26 tq27 tq28 tq29 tq30 tq31 tq32 tq33 tq34 tq35 tq36 tq37 tq38 tq39 tq40 tq41 tq42 tq43 tq44 tq45 tq46 tq47 tq48 tq49 tq50 tq51 t_orders_signs t_orders_count t_rules_settings t_rules_numbers t_work_room t_work_line t_work_strength t_work_water t_work_back t_work_count t_shape_bends t_shape_laid t_shape_across t_shape_along t_wished_heights t_wished_hung t_planner_items_room t_planner_items_line t_planner_items_strength t_planner_items_water t_planner_items_back t_planner_items_count t_planner_trial_bends t_planner_trial_laid t_planner_trial_across t_planner_trial_along t_planner_found t_planner_foundWorst t_gauges_heights t_gauges_isRead t_gauges_count t_gauges_bendSum t_gauges_bendPlaces t_spans_lower t_spans_upper t_welds_line t_welds_pull t_welds_best t_welds_count t_welds_bestWorst t_welds_known t_welds_tried t_welds_bent t_welds_trial_bends t_welds_trial_laid t_welds_trial_across t_welds_trial_along t_smiths_smithOf t_smiths_greatest t_smiths_knownFor t_smiths_times t_smiths_sums t_smiths_count t_fraction_upper t_fraction_lower) H locs := hw
  refine lv_if_ne (tgt := 15) hx hb (dc d_X11_set 5 rfl) (by decide) (fun c1 => absurd rfl c1) (fun c1 => ?_)
  refine lv_bipush (v := (-2 : Int32)) hx hb (dc d_X11_set 6 rfl) (by decide) ?_
  exact x_iret C hA hQ hw rfl rfl (dc d_X11_set 7 rfl)
