/-! Written by wip/gen/gen4.py: the law, case by case. -/
set_option maxHeartbeats 4000000 in
set_option maxRecDepth 100000 in
theorem lc_24 {p : Program} {l : Launch} {e : Env} {s : State} {m : MethodId} {args : Array Value} {below : List Frame} {meth : Method} {c : Code} {H : Heap} {locs : List Loc} {Q : State → Prop} {D : va_G} {cI cC cZ : ClassId} {A : Nat → Prop} {ls : Array Slot} {t u : Nat → Nat} {wx wm : va_W} {b L : Nat} {xs : Nat → Int32} {x3 : Int32} (C0 : Cx p s m args meth c RL code 4 ret D cI cC cZ) (hX : va_X b L xs s s.heap) (hbl : b < s.heap.size) (hbA : ¬ A b) (hin : ∀ k : Nat, k < 5 → vp_in (x3 + nI k) L) (hl : lv_has ls 4 [(3, .int x3), (2, .ref (u 0)), (1, .ref (t 0)), (0, .ref b)]) (hz : StZ A s s.heap) (hK : ∀ (wx' wm' : va_W) (H' : Heap) (locs' : List Loc), Rl cI cC cZ t u wx' wm' → Wd D A s.heap (wx' ++ wm') H' locs' → W p l e room_1 s m args below meth c H' locs' 77 1080 Q (F0 m 1045 ls [])) (hR : Rl cI cC cZ t u wx wm) (hw : Wd D A s.heap (wx ++ wm) H locs) : W p l e room_1 s m args below meth c H locs 77 1080 Q (F0 m 820 ls []) := by
  refine Rl_elim hR ?_
  intro C P I E sg set num wl ws ww wb sb sl sa sal w hg il is iw ib tb tl ta tal h r lo hi el ep best od bent vb vl va val so ti su ml ms mw mk tab mb mlo mhi mo mbo mso mbs mbu fo fw bs bp bw kn gr kf cn tr wt rs rm fu fl ewx ewm hC hW hT hH hI hG hS hE hKW hKS
  subst ewx
  subst ewm
  have hx := C0.1
  have hb := C0.2.1
  have hi1 : vp_in (x3 + (1 : Int32)) L := hin 1 (by omega)
  have hi2 : vp_in (x3 + (2 : Int32)) L := hin 2 (by omega)
  have hi3 : vp_in (x3 + (3 : Int32)) L := hin 3 (by omega)
  have hi4 : vp_in (x3 + (4 : Int32)) L := hin 4 (by omega)
  obtain ⟨v1, ev1⟩ : ∃ z, z = xs (x3 + (1 : Int32)).toNatClampNeg := ⟨_, rfl⟩
  obtain ⟨v2, ev2⟩ : ∃ z, z = xs (x3 + (2 : Int32)).toNatClampNeg := ⟨_, rfl⟩
  obtain ⟨v3, ev3⟩ : ∃ z, z = xs (x3 + (3 : Int32)).toNatClampNeg := ⟨_, rfl⟩
  obtain ⟨v4, ev4⟩ : ∃ z, z = xs (x3 + (4 : Int32)).toNatClampNeg := ⟨_, rfl⟩
  obtain ⟨r1, sb', sl', bs', bp', fu', fl', mb', rs', rm', e1, e2⟩ := c_skill 1000000 P set num tab wl ws ww wb ml ms mw mk sb sl mb h r bs bp rs rm v1 fu fl (by omega) hW hT hG
  refine lv_aload_n hx hb (dc d_law_8 26 rfl) rfl (lv_at hl 2 rfl) ?_
  refine lv_aload_n hx hb (dc d_law_8 27 rfl) rfl (lv_at hl 3 rfl) ?_
  refine lv_iload_n hx hb (dc d_law_8 28 rfl) rfl (lv_at hl 0 rfl) ?_
  refine lv_iconst (v := (1 : Int32)) hx hb (dc d_law_8 29 rfl) (by decide) ?_
  refine lv_iadd hx hb (dc d_law_8 30 rfl) ?_
  refine va_sld hx hb hX hbl hbA hw.2.2 hi1 (dc d_law_8 31 rfl) ?_
  rw [← ev1]
  refine x_callL (As := [.int v1]) (rest := []) C0 hw mb_X11_skill mv_X11_skill ml_L_114 hq_X11 rfl (k_X11_skill 1000000 e1) hl.1 rfl rfl adr_X11 (Nat.le_of_ble_eq_true rfl) (Nat.le_of_ble_eq_true rfl) (Nat.le_of_ble_eq_true rfl) (Nat.le_of_ble_eq_true rfl) (Nat.le_of_ble_eq_true rfl) (dc d_law_8 32 rfl) (fun H locs hw => ?_)
  refine lv_aload_n hx hb (dc d_law_8 33 rfl) rfl (lv_at hl 1 rfl) ?_
  refine lv_aload_n hx hb (dc d_law_8 34 rfl) rfl (lv_at hl 3 rfl) ?_
  refine lv_iload_n hx hb (dc d_law_8 35 rfl) rfl (lv_at hl 0 rfl) ?_
  refine lv_iconst (v := (1 : Int32)) hx hb (dc d_law_8 36 rfl) (by decide) ?_
  refine lv_iadd hx hb (dc d_law_8 37 rfl) ?_
  refine va_sld hx hb hX hbl hbA hw.2.2 hi1 (dc d_law_8 38 rfl) ?_
  rw [← ev1]
  refine x_callR (As := [.int v1]) (rest := [.long r1]) C0 hw mb_X12_skill mv_X12_skill ml_L_118 hq_X12 rfl (k_X12_skill 1000000 e2) hl.1 rfl rfl adr_X12 (Nat.le_of_ble_eq_true rfl) (Nat.le_of_ble_eq_true rfl) (Nat.le_of_ble_eq_true rfl) (Nat.le_of_ble_eq_true rfl) (Nat.le_of_ble_eq_true rfl) (dc d_law_8 39 rfl) (fun H locs hw => ?_)
  refine W.lcmp hx hb (dc d_law_8 40 rfl) ?_
  refine lv_if_eq (tgt := 1045) hx hb (dc d_law_8 41 rfl) (by decide) (fun c1 => ?_) (fun c1 => absurd (by rw [lg_cmp_eq]) c1)
  exact hK _ _ _ _ ⟨C, P, I, E, sg, set, num, wl, ws, ww, wb, sb', sl', sa, sal, w, hg, il, is, iw, ib, tb, tl, ta, tal, h, r, lo, hi, el, ep, best, od, bent, vb, vl, va, val, so, ti, su, ml, ms, mw, mk, tab, mb', mlo, mhi, mo, mbo, mso, mbs, mbu, fo, fw, bs', bp', bw, kn, gr, kf, cn, tr, wt, rs', rm', fu', fl', rfl, rfl, hC, hW, hT, hH, hI, hG, hS, hE, hKW, hKS⟩ hw
set_option maxHeartbeats 4000000 in
set_option maxRecDepth 100000 in
theorem lc_25 {p : Program} {l : Launch} {e : Env} {s : State} {m : MethodId} {args : Array Value} {below : List Frame} {meth : Method} {c : Code} {H : Heap} {locs : List Loc} {Q : State → Prop} {D : va_G} {cI cC cZ : ClassId} {A : Nat → Prop} {ls : Array Slot} {t u : Nat → Nat} {wx wm : va_W} {b L : Nat} {xs : Nat → Int32} {x3 : Int32} (C0 : Cx p s m args meth c RL code 4 ret D cI cC cZ) (hX : va_X b L xs s s.heap) (hbl : b < s.heap.size) (hbA : ¬ A b) (hin : ∀ k : Nat, k < 5 → vp_in (x3 + nI k) L) (hl : lv_has ls 4 [(3, .int x3), (2, .ref (u 0)), (1, .ref (t 0)), (0, .ref b)]) (hz : StZ A s s.heap) (hK : ∀ (wx' wm' : va_W) (H' : Heap) (locs' : List Loc), Rl cI cC cZ t u wx' wm' → Wd D A s.heap (wx' ++ wm') H' locs' → W p l e room_1 s m args below meth c H' locs' 77 1080 Q (F0 m 1045 ls [])) (hR : Rl cI cC cZ t u wx wm) (hw : Wd D A s.heap (wx ++ wm) H locs) : W p l e room_1 s m args below meth c H locs 77 1080 Q (F0 m 844 ls []) := by
  refine Rl_elim hR ?_
  intro C P I E sg set num wl ws ww wb sb sl sa sal w hg il is iw ib tb tl ta tal h r lo hi el ep best od bent vb vl va val so ti su ml ms mw mk tab mb mlo mhi mo mbo mso mbs mbu fo fw bs bp bw kn gr kf cn tr wt rs rm fu fl ewx ewm hC hW hT hH hI hG hS hE hKW hKS
  subst ewx
  subst ewm
  have hx := C0.1
  have hb := C0.2.1
  have hi1 : vp_in (x3 + (1 : Int32)) L := hin 1 (by omega)
  have hi2 : vp_in (x3 + (2 : Int32)) L := hin 2 (by omega)
  have hi3 : vp_in (x3 + (3 : Int32)) L := hin 3 (by omega)
  have hi4 : vp_in (x3 + (4 : Int32)) L := hin 4 (by omega)
  obtain ⟨v1, ev1⟩ : ∃ z, z = xs (x3 + (1 : Int32)).toNatClampNeg := ⟨_, rfl⟩
  obtain ⟨v2, ev2⟩ : ∃ z, z = xs (x3 + (2 : Int32)).toNatClampNeg := ⟨_, rfl⟩
  obtain ⟨v3, ev3⟩ : ∃ z, z = xs (x3 + (3 : Int32)).toNatClampNeg := ⟨_, rfl⟩
  obtain ⟨v4, ev4⟩ : ∃ z, z = xs (x3 + (4 : Int32)).toNatClampNeg := ⟨_, rfl⟩
  obtain ⟨r1, lo', hi', mlo', mhi', e1, e2, hS'⟩ := c_attempt 1000000 lo hi mlo mhi v1 v2 v3 hS
  refine lv_aload_n hx hb (dc d_law_8 44 rfl) rfl (lv_at hl 2 rfl) ?_
  refine lv_aload_n hx hb (dc d_law_8 45 rfl) rfl (lv_at hl 3 rfl) ?_
  refine lv_iload_n hx hb (dc d_law_8 46 rfl) rfl (lv_at hl 0 rfl) ?_
  refine lv_iconst (v := (1 : Int32)) hx hb (dc d_law_8 47 rfl) (by decide) ?_
  refine lv_iadd hx hb (dc d_law_8 48 rfl) ?_
  refine va_sld hx hb hX hbl hbA hw.2.2 hi1 (dc d_law_8 49 rfl) ?_
  rw [← ev1]
  refine lv_aload_n hx hb (dc d_law_8 50 rfl) rfl (lv_at hl 3 rfl) ?_
  refine lv_iload_n hx hb (dc d_law_8 51 rfl) rfl (lv_at hl 0 rfl) ?_
  refine lv_iconst (v := (2 : Int32)) hx hb (dc d_law_8 52 rfl) (by decide) ?_
  refine lv_iadd hx hb (dc d_law_8 53 rfl) ?_
  refine va_sld hx hb hX hbl hbA hw.2.2 hi2 (dc d_law_8 54 rfl) ?_
  rw [← ev2]
  refine lv_aload_n hx hb (dc d_law_8 55 rfl) rfl (lv_at hl 3 rfl) ?_
  refine lv_iload_n hx hb (dc d_law_8 56 rfl) rfl (lv_at hl 0 rfl) ?_
  refine lv_iconst (v := (3 : Int32)) hx hb (dc d_law_8 57 rfl) (by decide) ?_
  refine lv_iadd hx hb (dc d_law_8 58 rfl) ?_
  refine va_sld hx hb hX hbl hbA hw.2.2 hi3 (dc d_law_8 59 rfl) ?_
  rw [← ev3]
  refine x_callL (As := [.int v1, .int v2, .int v3]) (rest := []) C0 hw mb_X11_attempt mv_X11_attempt ml_L_119 hq_X11 rfl (k_X11_attempt 1000000 e1) hl.1 rfl rfl adr_X11 (Nat.le_of_ble_eq_true rfl) (Nat.le_of_ble_eq_true rfl) (Nat.le_of_ble_eq_true rfl) (Nat.le_of_ble_eq_true rfl) (Nat.le_of_ble_eq_true rfl) (dc d_law_9 0 rfl) (fun H locs hw => ?_)
  refine lv_aload_n hx hb (dc d_law_9 1 rfl) rfl (lv_at hl 1 rfl) ?_
  refine lv_aload_n hx hb (dc d_law_9 2 rfl) rfl (lv_at hl 3 rfl) ?_
  refine lv_iload_n hx hb (dc d_law_9 3 rfl) rfl (lv_at hl 0 rfl) ?_
  refine lv_iconst (v := (1 : Int32)) hx hb (dc d_law_9 4 rfl) (by decide) ?_
  refine lv_iadd hx hb (dc d_law_9 5 rfl) ?_
  refine va_sld hx hb hX hbl hbA hw.2.2 hi1 (dc d_law_9 6 rfl) ?_
  rw [← ev1]
  refine lv_aload_n hx hb (dc d_law_9 7 rfl) rfl (lv_at hl 3 rfl) ?_
  refine lv_iload_n hx hb (dc d_law_9 8 rfl) rfl (lv_at hl 0 rfl) ?_
  refine lv_iconst (v := (2 : Int32)) hx hb (dc d_law_9 9 rfl) (by decide) ?_
  refine lv_iadd hx hb (dc d_law_9 10 rfl) ?_
  refine va_sld hx hb hX hbl hbA hw.2.2 hi2 (dc d_law_9 11 rfl) ?_
  rw [← ev2]
  refine lv_aload_n hx hb (dc d_law_9 12 rfl) rfl (lv_at hl 3 rfl) ?_
  refine lv_iload_n hx hb (dc d_law_9 13 rfl) rfl (lv_at hl 0 rfl) ?_
  refine lv_iconst (v := (3 : Int32)) hx hb (dc d_law_9 14 rfl) (by decide) ?_
  refine lv_iadd hx hb (dc d_law_9 15 rfl) ?_
  refine va_sld hx hb hX hbl hbA hw.2.2 hi3 (dc d_law_9 16 rfl) ?_
  rw [← ev3]
  refine x_callR (As := [.int v1, .int v2, .int v3]) (rest := [.int r1]) C0 hw mb_X12_attempt mv_X12_attempt ml_L_122 hq_X12 rfl (k_X12_attempt 1000000 e2) hl.1 rfl rfl adr_X12 (Nat.le_of_ble_eq_true rfl) (Nat.le_of_ble_eq_true rfl) (Nat.le_of_ble_eq_true rfl) (Nat.le_of_ble_eq_true rfl) (Nat.le_of_ble_eq_true rfl) (dc d_law_9 17 rfl) (fun H locs hw => ?_)
  refine lv_icmp_eq (tgt := 1045) hx hb (dc d_law_9 18 rfl) (by decide) (fun c1 => ?_) (fun c1 => absurd rfl c1)
  exact hK _ _ _ _ ⟨C, P, I, E, sg, set, num, wl, ws, ww, wb, sb, sl, sa, sal, w, hg, il, is, iw, ib, tb, tl, ta, tal, h, r, lo', hi', el, ep, best, od, bent, vb, vl, va, val, so, ti, su, ml, ms, mw, mk, tab, mb, mlo', mhi', mo, mbo, mso, mbs, mbu, fo, fw, bs, bp, bw, kn, gr, kf, cn, tr, wt, rs, rm, fu, fl, rfl, rfl, hC, hW, hT, hH, hI, hG, hS', hE, hKW, hKS⟩ hw
set_option maxHeartbeats 4000000 in
set_option maxRecDepth 100000 in
theorem lc_26 {p : Program} {l : Launch} {e : Env} {s : State} {m : MethodId} {args : Array Value} {below : List Frame} {meth : Method} {c : Code} {H : Heap} {locs : List Loc} {Q : State → Prop} {D : va_G} {cI cC cZ : ClassId} {A : Nat → Prop} {ls : Array Slot} {t u : Nat → Nat} {wx wm : va_W} {b L : Nat} {xs : Nat → Int32} {x3 : Int32} (C0 : Cx p s m args meth c RL code 4 ret D cI cC cZ) (hX : va_X b L xs s s.heap) (hbl : b < s.heap.size) (hbA : ¬ A b) (hin : ∀ k : Nat, k < 5 → vp_in (x3 + nI k) L) (hl : lv_has ls 4 [(3, .int x3), (2, .ref (u 0)), (1, .ref (t 0)), (0, .ref b)]) (hz : StZ A s s.heap) (hK : ∀ (wx' wm' : va_W) (H' : Heap) (locs' : List Loc), Rl cI cC cZ t u wx' wm' → Wd D A s.heap (wx' ++ wm') H' locs' → W p l e room_1 s m args below meth c H' locs' 77 1080 Q (F0 m 1045 ls [])) (hR : Rl cI cC cZ t u wx wm) (hw : Wd D A s.heap (wx ++ wm) H locs) : W p l e room_1 s m args below meth c H locs 77 1080 Q (F0 m 887 ls []) := by
  refine Rl_elim hR ?_
  intro C P I E sg set num wl ws ww wb sb sl sa sal w hg il is iw ib tb tl ta tal h r lo hi el ep best od bent vb vl va val so ti su ml ms mw mk tab mb mlo mhi mo mbo mso mbs mbu fo fw bs bp bw kn gr kf cn tr wt rs rm fu fl ewx ewm hC hW hT hH hI hG hS hE hKW hKS
  subst ewx
  subst ewm
  have hx := C0.1
  have hb := C0.2.1
  have hi1 : vp_in (x3 + (1 : Int32)) L := hin 1 (by omega)
  have hi2 : vp_in (x3 + (2 : Int32)) L := hin 2 (by omega)
  have hi3 : vp_in (x3 + (3 : Int32)) L := hin 3 (by omega)
  have hi4 : vp_in (x3 + (4 : Int32)) L := hin 4 (by omega)
  obtain ⟨v1, ev1⟩ : ∃ z, z = xs (x3 + (1 : Int32)).toNatClampNeg := ⟨_, rfl⟩
  obtain ⟨v2, ev2⟩ : ∃ z, z = xs (x3 + (2 : Int32)).toNatClampNeg := ⟨_, rfl⟩
  obtain ⟨v3, ev3⟩ : ∃ z, z = xs (x3 + (3 : Int32)).toNatClampNeg := ⟨_, rfl⟩
  obtain ⟨v4, ev4⟩ : ∃ z, z = xs (x3 + (4 : Int32)).toNatClampNeg := ⟨_, rfl⟩
  obtain ⟨r1, e1, e2⟩ := c_span 1000000 lo hi mlo mhi v1 v2 hS
  refine lv_aload_n hx hb (dc d_law_9 21 rfl) rfl (lv_at hl 2 rfl) ?_
  refine lv_aload_n hx hb (dc d_law_9 22 rfl) rfl (lv_at hl 3 rfl) ?_
  refine lv_iload_n hx hb (dc d_law_9 23 rfl) rfl (lv_at hl 0 rfl) ?_
  refine lv_iconst (v := (1 : Int32)) hx hb (dc d_law_9 24 rfl) (by decide) ?_
  refine lv_iadd hx hb (dc d_law_9 25 rfl) ?_
  refine va_sld hx hb hX hbl hbA hw.2.2 hi1 (dc d_law_9 26 rfl) ?_
  rw [← ev1]
  refine lv_aload_n hx hb (dc d_law_9 27 rfl) rfl (lv_at hl 3 rfl) ?_
  refine lv_iload_n hx hb (dc d_law_9 28 rfl) rfl (lv_at hl 0 rfl) ?_
  refine lv_iconst (v := (2 : Int32)) hx hb (dc d_law_9 29 rfl) (by decide) ?_
  refine lv_iadd hx hb (dc d_law_9 30 rfl) ?_
  refine va_sld hx hb hX hbl hbA hw.2.2 hi2 (dc d_law_9 31 rfl) ?_
  rw [← ev2]
  refine x_callL (As := [.int v1, .int v2]) (rest := []) C0 hw mb_X11_span mv_X11_span ml_L_123 hq_X11 rfl (k_X11_span 1000000 e1) hl.1 rfl rfl adr_X11 (Nat.le_of_ble_eq_true rfl) (Nat.le_of_ble_eq_true rfl) (Nat.le_of_ble_eq_true rfl) (Nat.le_of_ble_eq_true rfl) (Nat.le_of_ble_eq_true rfl) (dc d_law_9 32 rfl) (fun H locs hw => ?_)
  refine lv_aload_n hx hb (dc d_law_9 33 rfl) rfl (lv_at hl 1 rfl) ?_
  refine lv_aload_n hx hb (dc d_law_9 34 rfl) rfl (lv_at hl 3 rfl) ?_
  refine lv_iload_n hx hb (dc d_law_9 35 rfl) rfl (lv_at hl 0 rfl) ?_
  refine lv_iconst (v := (1 : Int32)) hx hb (dc d_law_9 36 rfl) (by decide) ?_
  refine lv_iadd hx hb (dc d_law_9 37 rfl) ?_
  refine va_sld hx hb hX hbl hbA hw.2.2 hi1 (dc d_law_9 38 rfl) ?_
  rw [← ev1]
  refine lv_aload_n hx hb (dc d_law_9 39 rfl) rfl (lv_at hl 3 rfl) ?_
  refine lv_iload_n hx hb (dc d_law_9 40 rfl) rfl (lv_at hl 0 rfl) ?_
  refine lv_iconst (v := (2 : Int32)) hx hb (dc d_law_9 41 rfl) (by decide) ?_
  refine lv_iadd hx hb (dc d_law_9 42 rfl) ?_
  refine va_sld hx hb hX hbl hbA hw.2.2 hi2 (dc d_law_9 43 rfl) ?_
  rw [← ev2]
  refine x_callR (As := [.int v1, .int v2]) (rest := [.int r1]) C0 hw mb_X12_span mv_X12_span ml_L_126 hq_X12 rfl (k_X12_span 1000000 e2) hl.1 rfl rfl adr_X12 (Nat.le_of_ble_eq_true rfl) (Nat.le_of_ble_eq_true rfl) (Nat.le_of_ble_eq_true rfl) (Nat.le_of_ble_eq_true rfl) (Nat.le_of_ble_eq_true rfl) (dc d_law_9 44 rfl) (fun H locs hw => ?_)
  refine lv_icmp_eq (tgt := 1045) hx hb (dc d_law_9 45 rfl) (by decide) (fun c1 => ?_) (fun c1 => absurd rfl c1)
  exact hK _ _ _ _ ⟨C, P, I, E, sg, set, num, wl, ws, ww, wb, sb, sl, sa, sal, w, hg, il, is, iw, ib, tb, tl, ta, tal, h, r, lo, hi, el, ep, best, od, bent, vb, vl, va, val, so, ti, su, ml, ms, mw, mk, tab, mb, mlo, mhi, mo, mbo, mso, mbs, mbu, fo, fw, bs, bp, bw, kn, gr, kf, cn, tr, wt, rs, rm, fu, fl, rfl, rfl, hC, hW, hT, hH, hI, hG, hS, hE, hKW, hKS⟩ hw
set_option maxHeartbeats 4000000 in
set_option maxRecDepth 100000 in
theorem lc_27 {p : Program} {l : Launch} {e : Env} {s : State} {m : MethodId} {args : Array Value} {below : List Frame} {meth : Method} {c : Code} {H : Heap} {locs : List Loc} {Q : State → Prop} {D : va_G} {cI cC cZ : ClassId} {A : Nat → Prop} {ls : Array Slot} {t u : Nat → Nat} {wx wm : va_W} {b L : Nat} {xs : Nat → Int32} {x3 : Int32} (C0 : Cx p s m args meth c RL code 4 ret D cI cC cZ) (hX : va_X b L xs s s.heap) (hbl : b < s.heap.size) (hbA : ¬ A b) (hin : ∀ k : Nat, k < 5 → vp_in (x3 + nI k) L) (hl : lv_has ls 4 [(3, .int x3), (2, .ref (u 0)), (1, .ref (t 0)), (0, .ref b)]) (hz : StZ A s s.heap) (hK : ∀ (wx' wm' : va_W) (H' : Heap) (locs' : List Loc), Rl cI cC cZ t u wx' wm' → Wd D A s.heap (wx' ++ wm') H' locs' → W p l e room_1 s m args below meth c H' locs' 77 1080 Q (F0 m 1045 ls [])) (hR : Rl cI cC cZ t u wx wm) (hw : Wd D A s.heap (wx ++ wm) H locs) : W p l e room_1 s m args below meth c H locs 77 1080 Q (F0 m 920 ls []) := by
  refine Rl_elim hR ?_
  intro C P I E sg set num wl ws ww wb sb sl sa sal w hg il is iw ib tb tl ta tal h r lo hi el ep best od bent vb vl va val so ti su ml ms mw mk tab mb mlo mhi mo mbo mso mbs mbu fo fw bs bp bw kn gr kf cn tr wt rs rm fu fl ewx ewm hC hW hT hH hI hG hS hE hKW hKS
  subst ewx
  subst ewm
  have hx := C0.1
  have hb := C0.2.1
  have hi1 : vp_in (x3 + (1 : Int32)) L := hin 1 (by omega)
  have hi2 : vp_in (x3 + (2 : Int32)) L := hin 2 (by omega)
  have hi3 : vp_in (x3 + (3 : Int32)) L := hin 3 (by omega)
  have hi4 : vp_in (x3 + (4 : Int32)) L := hin 4 (by omega)
  obtain ⟨v1, ev1⟩ : ∃ z, z = xs (x3 + (1 : Int32)).toNatClampNeg := ⟨_, rfl⟩
  obtain ⟨v2, ev2⟩ : ∃ z, z = xs (x3 + (2 : Int32)).toNatClampNeg := ⟨_, rfl⟩
  obtain ⟨v3, ev3⟩ : ∃ z, z = xs (x3 + (3 : Int32)).toNatClampNeg := ⟨_, rfl⟩
  obtain ⟨v4, ev4⟩ : ∃ z, z = xs (x3 + (4 : Int32)).toNatClampNeg := ⟨_, rfl⟩
  obtain ⟨r1, e1, e2⟩ := c_widest 1000000 lo hi mlo mhi (by omega) hS
  refine lv_aload_n hx hb (dc d_law_9 48 rfl) rfl (lv_at hl 2 rfl) ?_
  refine x_callL (As := []) (rest := []) C0 hw mb_X11_widest mv_X11_widest ml_L_127 hq_X11 rfl (k_X11_widest 1000000 e1) hl.1 rfl rfl adr_X11 (Nat.le_of_ble_eq_true rfl) (Nat.le_of_ble_eq_true rfl) (Nat.le_of_ble_eq_true rfl) (Nat.le_of_ble_eq_true rfl) (Nat.le_of_ble_eq_true rfl) (dc d_law_9 49 rfl) (fun H locs hw => ?_)
  refine lv_aload_n hx hb (dc d_law_9 50 rfl) rfl (lv_at hl 1 rfl) ?_
  refine x_callR (As := []) (rest := [.int r1]) C0 hw mb_X12_widest mv_X12_widest ml_L_130 hq_X12 rfl (k_X12_widest 1000000 e2) hl.1 rfl rfl adr_X12 (Nat.le_of_ble_eq_true rfl) (Nat.le_of_ble_eq_true rfl) (Nat.le_of_ble_eq_true rfl) (Nat.le_of_ble_eq_true rfl) (Nat.le_of_ble_eq_true rfl) (dc d_law_9 51 rfl) (fun H locs hw => ?_)
  refine lv_icmp_eq (tgt := 1045) hx hb (dc d_law_9 52 rfl) (by decide) (fun c1 => ?_) (fun c1 => absurd rfl c1)
  exact hK _ _ _ _ ⟨C, P, I, E, sg, set, num, wl, ws, ww, wb, sb, sl, sa, sal, w, hg, il, is, iw, ib, tb, tl, ta, tal, h, r, lo, hi, el, ep, best, od, bent, vb, vl, va, val, so, ti, su, ml, ms, mw, mk, tab, mb, mlo, mhi, mo, mbo, mso, mbs, mbu, fo, fw, bs, bp, bw, kn, gr, kf, cn, tr, wt, rs, rm, fu, fl, rfl, rfl, hC, hW, hT, hH, hI, hG, hS, hE, hKW, hKS⟩ hw
set_option maxHeartbeats 4000000 in
set_option maxRecDepth 100000 in
theorem lc_28 {p : Program} {l : Launch} {e : Env} {s : State} {m : MethodId} {args : Array Value} {below : List Frame} {meth : Method} {c : Code} {H : Heap} {locs : List Loc} {Q : State → Prop} {D : va_G} {cI cC cZ : ClassId} {A : Nat → Prop} {ls : Array Slot} {t u : Nat → Nat} {wx wm : va_W} {b L : Nat} {xs : Nat → Int32} {x3 : Int32} (C0 : Cx p s m args meth c RL code 4 ret D cI cC cZ) (hX : va_X b L xs s s.heap) (hbl : b < s.heap.size) (hbA : ¬ A b) (hin : ∀ k : Nat, k < 5 → vp_in (x3 + nI k) L) (hl : lv_has ls 4 [(3, .int x3), (2, .ref (u 0)), (1, .ref (t 0)), (0, .ref b)]) (hz : StZ A s s.heap) (hK : ∀ (wx' wm' : va_W) (H' : Heap) (locs' : List Loc), Rl cI cC cZ t u wx' wm' → Wd D A s.heap (wx' ++ wm') H' locs' → W p l e room_1 s m args below meth c H' locs' 77 1080 Q (F0 m 1045 ls [])) (hR : Rl cI cC cZ t u wx wm) (hw : Wd D A s.heap (wx ++ wm) H locs) : W p l e room_1 s m args below meth c H locs 77 1080 Q (F0 m 933 ls []) := by
  refine Rl_elim hR ?_
  intro C P I E sg set num wl ws ww wb sb sl sa sal w hg il is iw ib tb tl ta tal h r lo hi el ep best od bent vb vl va val so ti su ml ms mw mk tab mb mlo mhi mo mbo mso mbs mbu fo fw bs bp bw kn gr kf cn tr wt rs rm fu fl ewx ewm hC hW hT hH hI hG hS hE hKW hKS
  subst ewx
  subst ewm
  have hx := C0.1
  have hb := C0.2.1
  have hi1 : vp_in (x3 + (1 : Int32)) L := hin 1 (by omega)
  have hi2 : vp_in (x3 + (2 : Int32)) L := hin 2 (by omega)
  have hi3 : vp_in (x3 + (3 : Int32)) L := hin 3 (by omega)
  have hi4 : vp_in (x3 + (4 : Int32)) L := hin 4 (by omega)
  obtain ⟨v1, ev1⟩ : ∃ z, z = xs (x3 + (1 : Int32)).toNatClampNeg := ⟨_, rfl⟩
  obtain ⟨v2, ev2⟩ : ∃ z, z = xs (x3 + (2 : Int32)).toNatClampNeg := ⟨_, rfl⟩
  obtain ⟨v3, ev3⟩ : ∃ z, z = xs (x3 + (3 : Int32)).toNatClampNeg := ⟨_, rfl⟩
  obtain ⟨v4, ev4⟩ : ∃ z, z = xs (x3 + (4 : Int32)).toNatClampNeg := ⟨_, rfl⟩
  obtain ⟨r1, el', ep', E', kn', e1, e2, hE', hk⟩ := c_weld 1000000 E el ep kn v1 v2 hE
  refine lv_aload_n hx hb (dc d_law_9 55 rfl) rfl (lv_at hl 2 rfl) ?_
  refine lv_aload_n hx hb (dc d_law_9 56 rfl) rfl (lv_at hl 3 rfl) ?_
  refine lv_iload_n hx hb (dc d_law_9 57 rfl) rfl (lv_at hl 0 rfl) ?_
  refine lv_iconst (v := (1 : Int32)) hx hb (dc d_law_9 58 rfl) (by decide) ?_
  refine lv_iadd hx hb (dc d_law_9 59 rfl) ?_
  refine va_sld hx hb hX hbl hbA hw.2.2 hi1 (dc d_law_10 0 rfl) ?_
  rw [← ev1]
  refine lv_aload_n hx hb (dc d_law_10 1 rfl) rfl (lv_at hl 3 rfl) ?_
  refine lv_iload_n hx hb (dc d_law_10 2 rfl) rfl (lv_at hl 0 rfl) ?_
  refine lv_iconst (v := (2 : Int32)) hx hb (dc d_law_10 3 rfl) (by decide) ?_
  refine lv_iadd hx hb (dc d_law_10 4 rfl) ?_
  refine va_sld hx hb hX hbl hbA hw.2.2 hi2 (dc d_law_10 5 rfl) ?_
  rw [← ev2]
  refine x_callL (As := [.int v1, .int v2]) (rest := []) C0 hw mb_X11_weld mv_X11_weld ml_L_131 hq_X11 rfl (k_X11_weld 1000000 e1) hl.1 rfl rfl adr_X11 (Nat.le_of_ble_eq_true rfl) (Nat.le_of_ble_eq_true rfl) (Nat.le_of_ble_eq_true rfl) (Nat.le_of_ble_eq_true rfl) (Nat.le_of_ble_eq_true rfl) (dc d_law_10 6 rfl) (fun H locs hw => ?_)
  refine lv_aload_n hx hb (dc d_law_10 7 rfl) rfl (lv_at hl 1 rfl) ?_
  refine lv_aload_n hx hb (dc d_law_10 8 rfl) rfl (lv_at hl 3 rfl) ?_
  refine lv_iload_n hx hb (dc d_law_10 9 rfl) rfl (lv_at hl 0 rfl) ?_
  refine lv_iconst (v := (1 : Int32)) hx hb (dc d_law_10 10 rfl) (by decide) ?_
  refine lv_iadd hx hb (dc d_law_10 11 rfl) ?_
  refine va_sld hx hb hX hbl hbA hw.2.2 hi1 (dc d_law_10 12 rfl) ?_
  rw [← ev1]
  refine lv_aload_n hx hb (dc d_law_10 13 rfl) rfl (lv_at hl 3 rfl) ?_
  refine lv_iload_n hx hb (dc d_law_10 14 rfl) rfl (lv_at hl 0 rfl) ?_
  refine lv_iconst (v := (2 : Int32)) hx hb (dc d_law_10 15 rfl) (by decide) ?_
  refine lv_iadd hx hb (dc d_law_10 16 rfl) ?_
  refine va_sld hx hb hX hbl hbA hw.2.2 hi2 (dc d_law_10 17 rfl) ?_
  rw [← ev2]
  refine x_callR (As := [.int v1, .int v2]) (rest := [.int r1]) C0 hw mb_X12_weld mv_X12_weld ml_L_134 hq_X12 rfl (k_X12_weld 1000000 e2) hl.1 rfl rfl adr_X12 (Nat.le_of_ble_eq_true rfl) (Nat.le_of_ble_eq_true rfl) (Nat.le_of_ble_eq_true rfl) (Nat.le_of_ble_eq_true rfl) (Nat.le_of_ble_eq_true rfl) (dc d_law_10 18 rfl) (fun H locs hw => ?_)
  refine lv_icmp_eq (tgt := 1045) hx hb (dc d_law_10 19 rfl) (by decide) (fun c1 => ?_) (fun c1 => absurd rfl c1)
  exact hK _ _ _ _ ⟨C, P, I, E', sg, set, num, wl, ws, ww, wb, sb, sl, sa, sal, w, hg, il, is, iw, ib, tb, tl, ta, tal, h, r, lo, hi, el', ep', best, od, bent, vb, vl, va, val, so, ti, su, ml, ms, mw, mk, tab, mb, mlo, mhi, mo, mbo, mso, mbs, mbu, fo, fw, bs, bp, bw, kn', gr, kf, cn, tr, wt, rs, rm, fu, fl, rfl, rfl, hC, hW, hT, hH, hI, hG, hS, hE', (KW_weld hk hKW), hKS⟩ hw
set_option maxHeartbeats 4000000 in
set_option maxRecDepth 100000 in
theorem lc_29 {p : Program} {l : Launch} {e : Env} {s : State} {m : MethodId} {args : Array Value} {below : List Frame} {meth : Method} {c : Code} {H : Heap} {locs : List Loc} {Q : State → Prop} {D : va_G} {cI cC cZ : ClassId} {A : Nat → Prop} {ls : Array Slot} {t u : Nat → Nat} {wx wm : va_W} {b L : Nat} {xs : Nat → Int32} {x3 : Int32} (C0 : Cx p s m args meth c RL code 4 ret D cI cC cZ) (hX : va_X b L xs s s.heap) (hbl : b < s.heap.size) (hbA : ¬ A b) (hin : ∀ k : Nat, k < 5 → vp_in (x3 + nI k) L) (hl : lv_has ls 4 [(3, .int x3), (2, .ref (u 0)), (1, .ref (t 0)), (0, .ref b)]) (hz : StZ A s s.heap) (hK : ∀ (wx' wm' : va_W) (H' : Heap) (locs' : List Loc), Rl cI cC cZ t u wx' wm' → Wd D A s.heap (wx' ++ wm') H' locs' → W p l e room_1 s m args below meth c H' locs' 77 1080 Q (F0 m 1045 ls [])) (hR : Rl cI cC cZ t u wx wm) (hw : Wd D A s.heap (wx ++ wm) H locs) : W p l e room_1 s m args below meth c H locs 77 1080 Q (F0 m 966 ls []) := by
  refine Rl_elim hR ?_
  intro C P I E sg set num wl ws ww wb sb sl sa sal w hg il is iw ib tb tl ta tal h r lo hi el ep best od bent vb vl va val so ti su ml ms mw mk tab mb mlo mhi mo mbo mso mbs mbu fo fw bs bp bw kn gr kf cn tr wt rs rm fu fl ewx ewm hC hW hT hH hI hG hS hE hKW hKS
  subst ewx
  subst ewm
  have hx := C0.1
  have hb := C0.2.1
  have hi1 : vp_in (x3 + (1 : Int32)) L := hin 1 (by omega)
  have hi2 : vp_in (x3 + (2 : Int32)) L := hin 2 (by omega)
  have hi3 : vp_in (x3 + (3 : Int32)) L := hin 3 (by omega)
  have hi4 : vp_in (x3 + (4 : Int32)) L := hin 4 (by omega)
  obtain ⟨v1, ev1⟩ : ∃ z, z = xs (x3 + (1 : Int32)).toNatClampNeg := ⟨_, rfl⟩
  obtain ⟨v2, ev2⟩ : ∃ z, z = xs (x3 + (2 : Int32)).toNatClampNeg := ⟨_, rfl⟩
  obtain ⟨v3, ev3⟩ : ∃ z, z = xs (x3 + (3 : Int32)).toNatClampNeg := ⟨_, rfl⟩
  obtain ⟨v4, ev4⟩ : ∃ z, z = xs (x3 + (4 : Int32)).toNatClampNeg := ⟨_, rfl⟩
  obtain ⟨r1, sb', sl', best', bw', kn', od', bent', vb', vl', va', val', mb', mo', mbo', e1, e2, hKW'⟩ := c_order 1000000 P E set num tab wl ws ww wb ml ms mw mk sb sl mb w hg el ep best od bent vb vl va val mo mbo bw kn v1 (by omega) hW hT hH hE hKW
  refine lv_aload_n hx hb (dc d_law_10 22 rfl) rfl (lv_at hl 2 rfl) ?_
  refine lv_aload_n hx hb (dc d_law_10 23 rfl) rfl (lv_at hl 3 rfl) ?_
  refine lv_iload_n hx hb (dc d_law_10 24 rfl) rfl (lv_at hl 0 rfl) ?_
  refine lv_iconst (v := (1 : Int32)) hx hb (dc d_law_10 25 rfl) (by decide) ?_
  refine lv_iadd hx hb (dc d_law_10 26 rfl) ?_
  refine va_sld hx hb hX hbl hbA hw.2.2 hi1 (dc d_law_10 27 rfl) ?_
  rw [← ev1]
  refine x_callL (As := [.int v1]) (rest := []) C0 hw mb_X11_order mv_X11_order ml_L_135 hq_X11 rfl (k_X11_order 1000000 e1) hl.1 rfl rfl adr_X11 (Nat.le_of_ble_eq_true rfl) (Nat.le_of_ble_eq_true rfl) (Nat.le_of_ble_eq_true rfl) (Nat.le_of_ble_eq_true rfl) (Nat.le_of_ble_eq_true rfl) (dc d_law_10 28 rfl) (fun H locs hw => ?_)
  refine lv_aload_n hx hb (dc d_law_10 29 rfl) rfl (lv_at hl 1 rfl) ?_
  refine lv_aload_n hx hb (dc d_law_10 30 rfl) rfl (lv_at hl 3 rfl) ?_
  refine lv_iload_n hx hb (dc d_law_10 31 rfl) rfl (lv_at hl 0 rfl) ?_
  refine lv_iconst (v := (1 : Int32)) hx hb (dc d_law_10 32 rfl) (by decide) ?_
  refine lv_iadd hx hb (dc d_law_10 33 rfl) ?_
  refine va_sld hx hb hX hbl hbA hw.2.2 hi1 (dc d_law_10 34 rfl) ?_
  rw [← ev1]
  refine x_callR (As := [.int v1]) (rest := [.int r1]) C0 hw mb_X12_order mv_X12_order ml_L_138 hq_X12 rfl (k_X12_order 1000000 e2) hl.1 rfl rfl adr_X12 (Nat.le_of_ble_eq_true rfl) (Nat.le_of_ble_eq_true rfl) (Nat.le_of_ble_eq_true rfl) (Nat.le_of_ble_eq_true rfl) (Nat.le_of_ble_eq_true rfl) (dc d_law_10 35 rfl) (fun H locs hw => ?_)
  refine lv_icmp_eq (tgt := 1045) hx hb (dc d_law_10 36 rfl) (by decide) (fun c1 => ?_) (fun c1 => absurd rfl c1)
  exact hK _ _ _ _ ⟨C, P, I, E, sg, set, num, wl, ws, ww, wb, sb', sl', sa, sal, w, hg, il, is, iw, ib, tb, tl, ta, tal, h, r, lo, hi, el, ep, best', od', bent', vb', vl', va', val', so, ti, su, ml, ms, mw, mk, tab, mb', mlo, mhi, mo', mbo', mso, mbs, mbu, fo, fw, bs, bp, bw', kn', gr, kf, cn, tr, wt, rs, rm, fu, fl, rfl, rfl, hC, hW, hT, hH, hI, hG, hS, hE, hKW', hKS⟩ hw
set_option maxHeartbeats 4000000 in
set_option maxRecDepth 100000 in
theorem lc_30 {p : Program} {l : Launch} {e : Env} {s : State} {m : MethodId} {args : Array Value} {below : List Frame} {meth : Method} {c : Code} {H : Heap} {locs : List Loc} {Q : State → Prop} {D : va_G} {cI cC cZ : ClassId} {A : Nat → Prop} {ls : Array Slot} {t u : Nat → Nat} {wx wm : va_W} {b L : Nat} {xs : Nat → Int32} {x3 : Int32} (C0 : Cx p s m args meth c RL code 4 ret D cI cC cZ) (hX : va_X b L xs s s.heap) (hbl : b < s.heap.size) (hbA : ¬ A b) (hin : ∀ k : Nat, k < 5 → vp_in (x3 + nI k) L) (hl : lv_has ls 4 [(3, .int x3), (2, .ref (u 0)), (1, .ref (t 0)), (0, .ref b)]) (hz : StZ A s s.heap) (hK : ∀ (wx' wm' : va_W) (H' : Heap) (locs' : List Loc), Rl cI cC cZ t u wx' wm' → Wd D A s.heap (wx' ++ wm') H' locs' → W p l e room_1 s m args below meth c H' locs' 77 1080 Q (F0 m 1045 ls [])) (hR : Rl cI cC cZ t u wx wm) (hw : Wd D A s.heap (wx ++ wm) H locs) : W p l e room_1 s m args below meth c H locs 77 1080 Q (F0 m 989 ls []) := by
  refine Rl_elim hR ?_
  intro C P I E sg set num wl ws ww wb sb sl sa sal w hg il is iw ib tb tl ta tal h r lo hi el ep best od bent vb vl va val so ti su ml ms mw mk tab mb mlo mhi mo mbo mso mbs mbu fo fw bs bp bw kn gr kf cn tr wt rs rm fu fl ewx ewm hC hW hT hH hI hG hS hE hKW hKS
  subst ewx
  subst ewm
  have hx := C0.1
  have hb := C0.2.1
  have hi1 : vp_in (x3 + (1 : Int32)) L := hin 1 (by omega)
  have hi2 : vp_in (x3 + (2 : Int32)) L := hin 2 (by omega)
  have hi3 : vp_in (x3 + (3 : Int32)) L := hin 3 (by omega)
  have hi4 : vp_in (x3 + (4 : Int32)) L := hin 4 (by omega)
  obtain ⟨v1, ev1⟩ : ∃ z, z = xs (x3 + (1 : Int32)).toNatClampNeg := ⟨_, rfl⟩
  obtain ⟨v2, ev2⟩ : ∃ z, z = xs (x3 + (2 : Int32)).toNatClampNeg := ⟨_, rfl⟩
  obtain ⟨v3, ev3⟩ : ∃ z, z = xs (x3 + (3 : Int32)).toNatClampNeg := ⟨_, rfl⟩
  obtain ⟨v4, ev4⟩ : ∃ z, z = xs (x3 + (4 : Int32)).toNatClampNeg := ⟨_, rfl⟩
  obtain ⟨r1, so', gr', kf', ti', su', cn', mso', mbs', mbu', e1, e2, hKS'⟩ := c_shared 1000000 P wl ws ww wb ml ms mw mk so ti su mso mbs mbu gr kf cn v1 v2 (by omega) hW hKS
  refine lv_aload_n hx hb (dc d_law_10 39 rfl) rfl (lv_at hl 2 rfl) ?_
  refine lv_aload_n hx hb (dc d_law_10 40 rfl) rfl (lv_at hl 3 rfl) ?_
  refine lv_iload_n hx hb (dc d_law_10 41 rfl) rfl (lv_at hl 0 rfl) ?_
  refine lv_iconst (v := (1 : Int32)) hx hb (dc d_law_10 42 rfl) (by decide) ?_
  refine lv_iadd hx hb (dc d_law_10 43 rfl) ?_
  refine va_sld hx hb hX hbl hbA hw.2.2 hi1 (dc d_law_10 44 rfl) ?_
  rw [← ev1]
  refine lv_aload_n hx hb (dc d_law_10 45 rfl) rfl (lv_at hl 3 rfl) ?_
  refine lv_iload_n hx hb (dc d_law_10 46 rfl) rfl (lv_at hl 0 rfl) ?_
  refine lv_iconst (v := (2 : Int32)) hx hb (dc d_law_10 47 rfl) (by decide) ?_
  refine lv_iadd hx hb (dc d_law_10 48 rfl) ?_
  refine va_sld hx hb hX hbl hbA hw.2.2 hi2 (dc d_law_10 49 rfl) ?_
  rw [← ev2]
  refine x_callL (As := [.int v1, .int v2]) (rest := []) C0 hw mb_X11_shared mv_X11_shared ml_L_139 hq_X11 rfl (k_X11_shared 1000000 e1) hl.1 rfl rfl adr_X11 (Nat.le_of_ble_eq_true rfl) (Nat.le_of_ble_eq_true rfl) (Nat.le_of_ble_eq_true rfl) (Nat.le_of_ble_eq_true rfl) (Nat.le_of_ble_eq_true rfl) (dc d_law_10 50 rfl) (fun H locs hw => ?_)
  refine lv_aload_n hx hb (dc d_law_10 51 rfl) rfl (lv_at hl 1 rfl) ?_
  refine lv_aload_n hx hb (dc d_law_10 52 rfl) rfl (lv_at hl 3 rfl) ?_
  refine lv_iload_n hx hb (dc d_law_10 53 rfl) rfl (lv_at hl 0 rfl) ?_
  refine lv_iconst (v := (1 : Int32)) hx hb (dc d_law_10 54 rfl) (by decide) ?_
  refine lv_iadd hx hb (dc d_law_10 55 rfl) ?_
  refine va_sld hx hb hX hbl hbA hw.2.2 hi1 (dc d_law_10 56 rfl) ?_
  rw [← ev1]
  refine lv_aload_n hx hb (dc d_law_10 57 rfl) rfl (lv_at hl 3 rfl) ?_
  refine lv_iload_n hx hb (dc d_law_10 58 rfl) rfl (lv_at hl 0 rfl) ?_
  refine lv_iconst (v := (2 : Int32)) hx hb (dc d_law_10 59 rfl) (by decide) ?_
  refine lv_iadd hx hb (dc d_law_11 0 rfl) ?_
  refine va_sld hx hb hX hbl hbA hw.2.2 hi2 (dc d_law_11 1 rfl) ?_
  rw [← ev2]
  refine x_callR (As := [.int v1, .int v2]) (rest := [.int r1]) C0 hw mb_X12_shared mv_X12_shared ml_L_142 hq_X12 rfl (k_X12_shared 1000000 e2) hl.1 rfl rfl adr_X12 (Nat.le_of_ble_eq_true rfl) (Nat.le_of_ble_eq_true rfl) (Nat.le_of_ble_eq_true rfl) (Nat.le_of_ble_eq_true rfl) (Nat.le_of_ble_eq_true rfl) (dc d_law_11 2 rfl) (fun H locs hw => ?_)
  refine lv_icmp_eq (tgt := 1045) hx hb (dc d_law_11 3 rfl) (by decide) (fun c1 => ?_) (fun c1 => absurd rfl c1)
  exact hK _ _ _ _ ⟨C, P, I, E, sg, set, num, wl, ws, ww, wb, sb, sl, sa, sal, w, hg, il, is, iw, ib, tb, tl, ta, tal, h, r, lo, hi, el, ep, best, od, bent, vb, vl, va, val, so', ti', su', ml, ms, mw, mk, tab, mb, mlo, mhi, mo, mbo, mso', mbs', mbu', fo, fw, bs, bp, bw, kn, gr', kf', cn', tr, wt, rs, rm, fu, fl, rfl, rfl, hC, hW, hT, hH, hI, hG, hS, hE, hKW, hKS'⟩ hw
set_option maxHeartbeats 4000000 in
set_option maxRecDepth 100000 in
theorem lc_31 {p : Program} {l : Launch} {e : Env} {s : State} {m : MethodId} {args : Array Value} {below : List Frame} {meth : Method} {c : Code} {H : Heap} {locs : List Loc} {Q : State → Prop} {D : va_G} {cI cC cZ : ClassId} {A : Nat → Prop} {ls : Array Slot} {t u : Nat → Nat} {wx wm : va_W} {b L : Nat} {xs : Nat → Int32} {x3 : Int32} (C0 : Cx p s m args meth c RL code 4 ret D cI cC cZ) (hX : va_X b L xs s s.heap) (hbl : b < s.heap.size) (hbA : ¬ A b) (hin : ∀ k : Nat, k < 5 → vp_in (x3 + nI k) L) (hl : lv_has ls 4 [(3, .int x3), (2, .ref (u 0)), (1, .ref (t 0)), (0, .ref b)]) (hz : StZ A s s.heap) (hK : ∀ (wx' wm' : va_W) (H' : Heap) (locs' : List Loc), Rl cI cC cZ t u wx' wm' → Wd D A s.heap (wx' ++ wm') H' locs' → W p l e room_1 s m args below meth c H' locs' 77 1080 Q (F0 m 1045 ls [])) (hR : Rl cI cC cZ t u wx wm) (hw : Wd D A s.heap (wx ++ wm) H locs) : W p l e room_1 s m args below meth c H locs 77 1080 Q (F0 m 1022 ls []) := by
  refine Rl_elim hR ?_
  intro C P I E sg set num wl ws ww wb sb sl sa sal w hg il is iw ib tb tl ta tal h r lo hi el ep best od bent vb vl va val so ti su ml ms mw mk tab mb mlo mhi mo mbo mso mbs mbu fo fw bs bp bw kn gr kf cn tr wt rs rm fu fl ewx ewm hC hW hT hH hI hG hS hE hKW hKS
  subst ewx
  subst ewm
  have hx := C0.1
  have hb := C0.2.1
  have hi1 : vp_in (x3 + (1 : Int32)) L := hin 1 (by omega)
  have hi2 : vp_in (x3 + (2 : Int32)) L := hin 2 (by omega)
  have hi3 : vp_in (x3 + (3 : Int32)) L := hin 3 (by omega)
  have hi4 : vp_in (x3 + (4 : Int32)) L := hin 4 (by omega)
  obtain ⟨v1, ev1⟩ : ∃ z, z = xs (x3 + (1 : Int32)).toNatClampNeg := ⟨_, rfl⟩
  obtain ⟨v2, ev2⟩ : ∃ z, z = xs (x3 + (2 : Int32)).toNatClampNeg := ⟨_, rfl⟩
  obtain ⟨v3, ev3⟩ : ∃ z, z = xs (x3 + (3 : Int32)).toNatClampNeg := ⟨_, rfl⟩
  obtain ⟨v4, ev4⟩ : ∃ z, z = xs (x3 + (4 : Int32)).toNatClampNeg := ⟨_, rfl⟩
  obtain ⟨r1, e1, e2⟩ := c_told 1000000 C P I E set r v1 (by omega)
  refine lv_aload_n hx hb (dc d_law_11 6 rfl) rfl (lv_at hl 2 rfl) ?_
  refine lv_aload_n hx hb (dc d_law_11 7 rfl) rfl (lv_at hl 3 rfl) ?_
  refine lv_iload_n hx hb (dc d_law_11 8 rfl) rfl (lv_at hl 0 rfl) ?_
  refine lv_iconst (v := (1 : Int32)) hx hb (dc d_law_11 9 rfl) (by decide) ?_
  refine lv_iadd hx hb (dc d_law_11 10 rfl) ?_
  refine va_sld hx hb hX hbl hbA hw.2.2 hi1 (dc d_law_11 11 rfl) ?_
  rw [← ev1]
  refine x_callL (As := [.int v1]) (rest := []) C0 hw mb_X11_told mv_X11_told ml_L_143 hq_X11 rfl (k_X11_told 1000000 e1) hl.1 rfl rfl adr_X11 (Nat.le_of_ble_eq_true rfl) (Nat.le_of_ble_eq_true rfl) (Nat.le_of_ble_eq_true rfl) (Nat.le_of_ble_eq_true rfl) (Nat.le_of_ble_eq_true rfl) (dc d_law_11 12 rfl) (fun H locs hw => ?_)
  refine lv_aload_n hx hb (dc d_law_11 13 rfl) rfl (lv_at hl 1 rfl) ?_
  refine lv_aload_n hx hb (dc d_law_11 14 rfl) rfl (lv_at hl 3 rfl) ?_
  refine lv_iload_n hx hb (dc d_law_11 15 rfl) rfl (lv_at hl 0 rfl) ?_
  refine lv_iconst (v := (1 : Int32)) hx hb (dc d_law_11 16 rfl) (by decide) ?_
  refine lv_iadd hx hb (dc d_law_11 17 rfl) ?_
  refine va_sld hx hb hX hbl hbA hw.2.2 hi1 (dc d_law_11 18 rfl) ?_
  rw [← ev1]
  refine x_callR (As := [.int v1]) (rest := [.int r1]) C0 hw mb_X12_told mv_X12_told ml_L_146 hq_X12 rfl (k_X12_told 1000000 e2) hl.1 rfl rfl adr_X12 (Nat.le_of_ble_eq_true rfl) (Nat.le_of_ble_eq_true rfl) (Nat.le_of_ble_eq_true rfl) (Nat.le_of_ble_eq_true rfl) (Nat.le_of_ble_eq_true rfl) (dc d_law_11 19 rfl) (fun H locs hw => ?_)
  refine lv_icmp_eq (tgt := 1045) hx hb (dc d_law_11 20 rfl) (by decide) (fun c1 => ?_) (fun c1 => absurd rfl c1)
  exact hK _ _ _ _ ⟨C, P, I, E, sg, set, num, wl, ws, ww, wb, sb, sl, sa, sal, w, hg, il, is, iw, ib, tb, tl, ta, tal, h, r, lo, hi, el, ep, best, od, bent, vb, vl, va, val, so, ti, su, ml, ms, mw, mk, tab, mb, mlo, mhi, mo, mbo, mso, mbs, mbu, fo, fw, bs, bp, bw, kn, gr, kf, cn, tr, wt, rs, rm, fu, fl, rfl, rfl, hC, hW, hT, hH, hI, hG, hS, hE, hKW, hKS⟩ hw
