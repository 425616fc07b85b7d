/-! Written by wip/gen/gen4.py: the law, case by case. -/
set_option maxHeartbeats 4000000 in
set_option maxRecDepth 100000 in
theorem lc_8 {p : Program} {l : Launch} {e : Env} {s : State} {m : MethodId} {args : Array Value} {below : List Frame} {meth : Method} {c : Code} {H : Heap} {locs : List Loc} {Q : State → Prop} {D : va_G} {cI cC cZ : ClassId} {A : Nat → Prop} {ls : Array Slot} {t u : Nat → Nat} {wx wm : va_W} {b L : Nat} {xs : Nat → Int32} {x3 : Int32} (C0 : Cx p s m args meth c RL code 4 ret D cI cC cZ) (hX : va_X b L xs s s.heap) (hbl : b < s.heap.size) (hbA : ¬ A b) (hin : ∀ k : Nat, k < 5 → vp_in (x3 + nI k) L) (hl : lv_has ls 4 [(3, .int x3), (2, .ref (u 0)), (1, .ref (t 0)), (0, .ref b)]) (hz : StZ A s s.heap) (hK : ∀ (wx' wm' : va_W) (H' : Heap) (locs' : List Loc), Rl cI cC cZ t u wx' wm' → Wd D A s.heap (wx' ++ wm') H' locs' → W p l e room_1 s m args below meth c H' locs' 77 1080 Q (F0 m 1045 ls [])) (hR : Rl cI cC cZ t u wx wm) (hw : Wd D A s.heap (wx ++ wm) H locs) : W p l e room_1 s m args below meth c H locs 77 1080 Q (F0 m 370 ls []) := by
  refine Rl_elim hR ?_
  intro C P I E sg set num wl ws ww wb sb sl sa sal w hg il is iw ib tb tl ta tal h r lo hi el ep best od bent vb vl va val so ti su ml ms mw mk tab mb mlo mhi mo mbo mso mbs mbu fo fw bs bp bw kn gr kf cn tr wt rs rm fu fl ewx ewm hC hW hT hH hI hG hS hE hKW hKS
  subst ewx
  subst ewm
  have hx := C0.1
  have hb := C0.2.1
  have hi1 : vp_in (x3 + (1 : Int32)) L := hin 1 (by omega)
  have hi2 : vp_in (x3 + (2 : Int32)) L := hin 2 (by omega)
  have hi3 : vp_in (x3 + (3 : Int32)) L := hin 3 (by omega)
  have hi4 : vp_in (x3 + (4 : Int32)) L := hin 4 (by omega)
  obtain ⟨v1, ev1⟩ : ∃ z, z = xs (x3 + (1 : Int32)).toNatClampNeg := ⟨_, rfl⟩
  obtain ⟨v2, ev2⟩ : ∃ z, z = xs (x3 + (2 : Int32)).toNatClampNeg := ⟨_, rfl⟩
  obtain ⟨v3, ev3⟩ : ∃ z, z = xs (x3 + (3 : Int32)).toNatClampNeg := ⟨_, rfl⟩
  obtain ⟨v4, ev4⟩ : ∃ z, z = xs (x3 + (4 : Int32)).toNatClampNeg := ⟨_, rfl⟩
  obtain ⟨r1, sb', sl', mb', e1, e2⟩ := c_bend 1000000 P set num tab wl ws ww wb ml ms mw mk sb sl mb v1 (by omega) hW hT
  refine lv_aload_n hx hb (dc d_law_2 48 rfl) rfl (lv_at hl 2 rfl) ?_
  refine lv_aload_n hx hb (dc d_law_2 49 rfl) rfl (lv_at hl 3 rfl) ?_
  refine lv_iload_n hx hb (dc d_law_2 50 rfl) rfl (lv_at hl 0 rfl) ?_
  refine lv_iconst (v := (1 : Int32)) hx hb (dc d_law_2 51 rfl) (by decide) ?_
  refine lv_iadd hx hb (dc d_law_2 52 rfl) ?_
  refine va_sld hx hb hX hbl hbA hw.2.2 hi1 (dc d_law_2 53 rfl) ?_
  rw [← ev1]
  refine x_callL (As := [.int v1]) (rest := []) C0 hw mb_X11_bend mv_X11_bend ml_L_49 hq_X11 rfl (k_X11_bend 1000000 e1) hl.1 rfl rfl adr_X11 (Nat.le_of_ble_eq_true rfl) (Nat.le_of_ble_eq_true rfl) (Nat.le_of_ble_eq_true rfl) (Nat.le_of_ble_eq_true rfl) (Nat.le_of_ble_eq_true rfl) (dc d_law_2 54 rfl) (fun H locs hw => ?_)
  refine lv_aload_n hx hb (dc d_law_2 55 rfl) rfl (lv_at hl 1 rfl) ?_
  refine lv_aload_n hx hb (dc d_law_2 56 rfl) rfl (lv_at hl 3 rfl) ?_
  refine lv_iload_n hx hb (dc d_law_2 57 rfl) rfl (lv_at hl 0 rfl) ?_
  refine lv_iconst (v := (1 : Int32)) hx hb (dc d_law_2 58 rfl) (by decide) ?_
  refine lv_iadd hx hb (dc d_law_2 59 rfl) ?_
  refine va_sld hx hb hX hbl hbA hw.2.2 hi1 (dc d_law_3 0 rfl) ?_
  rw [← ev1]
  refine x_callR (As := [.int v1]) (rest := [.int r1]) C0 hw mb_X12_bend mv_X12_bend ml_L_52 hq_X12 rfl (k_X12_bend 1000000 e2) hl.1 rfl rfl adr_X12 (Nat.le_of_ble_eq_true rfl) (Nat.le_of_ble_eq_true rfl) (Nat.le_of_ble_eq_true rfl) (Nat.le_of_ble_eq_true rfl) (Nat.le_of_ble_eq_true rfl) (dc d_law_3 1 rfl) (fun H locs hw => ?_)
  refine lv_icmp_eq (tgt := 1045) hx hb (dc d_law_3 2 rfl) (by decide) (fun c1 => ?_) (fun c1 => absurd rfl c1)
  exact hK _ _ _ _ ⟨C, P, I, E, sg, set, num, wl, ws, ww, wb, sb', sl', sa, sal, w, hg, il, is, iw, ib, tb, tl, ta, tal, h, r, lo, hi, el, ep, best, od, bent, vb, vl, va, val, so, ti, su, ml, ms, mw, mk, tab, mb', mlo, mhi, mo, mbo, mso, mbs, mbu, fo, fw, bs, bp, bw, kn, gr, kf, cn, tr, wt, rs, rm, fu, fl, rfl, rfl, hC, hW, hT, hH, hI, hG, hS, hE, hKW, hKS⟩ hw
set_option maxHeartbeats 4000000 in
set_option maxRecDepth 100000 in
theorem lc_9 {p : Program} {l : Launch} {e : Env} {s : State} {m : MethodId} {args : Array Value} {below : List Frame} {meth : Method} {c : Code} {H : Heap} {locs : List Loc} {Q : State → Prop} {D : va_G} {cI cC cZ : ClassId} {A : Nat → Prop} {ls : Array Slot} {t u : Nat → Nat} {wx wm : va_W} {b L : Nat} {xs : Nat → Int32} {x3 : Int32} (C0 : Cx p s m args meth c RL code 4 ret D cI cC cZ) (hX : va_X b L xs s s.heap) (hbl : b < s.heap.size) (hbA : ¬ A b) (hin : ∀ k : Nat, k < 5 → vp_in (x3 + nI k) L) (hl : lv_has ls 4 [(3, .int x3), (2, .ref (u 0)), (1, .ref (t 0)), (0, .ref b)]) (hz : StZ A s s.heap) (hK : ∀ (wx' wm' : va_W) (H' : Heap) (locs' : List Loc), Rl cI cC cZ t u wx' wm' → Wd D A s.heap (wx' ++ wm') H' locs' → W p l e room_1 s m args below meth c H' locs' 77 1080 Q (F0 m 1045 ls [])) (hR : Rl cI cC cZ t u wx wm) (hw : Wd D A s.heap (wx ++ wm) H locs) : W p l e room_1 s m args below meth c H locs 77 1080 Q (F0 m 393 ls []) := by
  refine Rl_elim hR ?_
  intro C P I E sg set num wl ws ww wb sb sl sa sal w hg il is iw ib tb tl ta tal h r lo hi el ep best od bent vb vl va val so ti su ml ms mw mk tab mb mlo mhi mo mbo mso mbs mbu fo fw bs bp bw kn gr kf cn tr wt rs rm fu fl ewx ewm hC hW hT hH hI hG hS hE hKW hKS
  subst ewx
  subst ewm
  have hx := C0.1
  have hb := C0.2.1
  have hi1 : vp_in (x3 + (1 : Int32)) L := hin 1 (by omega)
  have hi2 : vp_in (x3 + (2 : Int32)) L := hin 2 (by omega)
  have hi3 : vp_in (x3 + (3 : Int32)) L := hin 3 (by omega)
  have hi4 : vp_in (x3 + (4 : Int32)) L := hin 4 (by omega)
  obtain ⟨v1, ev1⟩ : ∃ z, z = xs (x3 + (1 : Int32)).toNatClampNeg := ⟨_, rfl⟩
  obtain ⟨v2, ev2⟩ : ∃ z, z = xs (x3 + (2 : Int32)).toNatClampNeg := ⟨_, rfl⟩
  obtain ⟨v3, ev3⟩ : ∃ z, z = xs (x3 + (3 : Int32)).toNatClampNeg := ⟨_, rfl⟩
  obtain ⟨v4, ev4⟩ : ∃ z, z = xs (x3 + (4 : Int32)).toNatClampNeg := ⟨_, rfl⟩
  obtain ⟨r1, sb', sl', mb', e1, e2⟩ := c_height 1000000 P set num tab wl ws ww wb ml ms mw mk sb sl mb v1 (by omega) hW hT
  refine lv_aload_n hx hb (dc d_law_3 5 rfl) rfl (lv_at hl 2 rfl) ?_
  refine lv_aload_n hx hb (dc d_law_3 6 rfl) rfl (lv_at hl 3 rfl) ?_
  refine lv_iload_n hx hb (dc d_law_3 7 rfl) rfl (lv_at hl 0 rfl) ?_
  refine lv_iconst (v := (1 : Int32)) hx hb (dc d_law_3 8 rfl) (by decide) ?_
  refine lv_iadd hx hb (dc d_law_3 9 rfl) ?_
  refine va_sld hx hb hX hbl hbA hw.2.2 hi1 (dc d_law_3 10 rfl) ?_
  rw [← ev1]
  refine x_callL (As := [.int v1]) (rest := []) C0 hw mb_X11_height mv_X11_height ml_L_53 hq_X11 rfl (k_X11_height 1000000 e1) hl.1 rfl rfl adr_X11 (Nat.le_of_ble_eq_true rfl) (Nat.le_of_ble_eq_true rfl) (Nat.le_of_ble_eq_true rfl) (Nat.le_of_ble_eq_true rfl) (Nat.le_of_ble_eq_true rfl) (dc d_law_3 11 rfl) (fun H locs hw => ?_)
  refine lv_aload_n hx hb (dc d_law_3 12 rfl) rfl (lv_at hl 1 rfl) ?_
  refine lv_aload_n hx hb (dc d_law_3 13 rfl) rfl (lv_at hl 3 rfl) ?_
  refine lv_iload_n hx hb (dc d_law_3 14 rfl) rfl (lv_at hl 0 rfl) ?_
  refine lv_iconst (v := (1 : Int32)) hx hb (dc d_law_3 15 rfl) (by decide) ?_
  refine lv_iadd hx hb (dc d_law_3 16 rfl) ?_
  refine va_sld hx hb hX hbl hbA hw.2.2 hi1 (dc d_law_3 17 rfl) ?_
  rw [← ev1]
  refine x_callR (As := [.int v1]) (rest := [.int r1]) C0 hw mb_X12_height mv_X12_height ml_L_56 hq_X12 rfl (k_X12_height 1000000 e2) hl.1 rfl rfl adr_X12 (Nat.le_of_ble_eq_true rfl) (Nat.le_of_ble_eq_true rfl) (Nat.le_of_ble_eq_true rfl) (Nat.le_of_ble_eq_true rfl) (Nat.le_of_ble_eq_true rfl) (dc d_law_3 18 rfl) (fun H locs hw => ?_)
  refine lv_icmp_eq (tgt := 1045) hx hb (dc d_law_3 19 rfl) (by decide) (fun c1 => ?_) (fun c1 => absurd rfl c1)
  exact hK _ _ _ _ ⟨C, P, I, E, sg, set, num, wl, ws, ww, wb, sb', sl', sa, sal, w, hg, il, is, iw, ib, tb, tl, ta, tal, h, r, lo, hi, el, ep, best, od, bent, vb, vl, va, val, so, ti, su, ml, ms, mw, mk, tab, mb', mlo, mhi, mo, mbo, mso, mbs, mbu, fo, fw, bs, bp, bw, kn, gr, kf, cn, tr, wt, rs, rm, fu, fl, rfl, rfl, hC, hW, hT, hH, hI, hG, hS, hE, hKW, hKS⟩ hw
set_option maxHeartbeats 4000000 in
set_option maxRecDepth 100000 in
theorem lc_10 {p : Program} {l : Launch} {e : Env} {s : State} {m : MethodId} {args : Array Value} {below : List Frame} {meth : Method} {c : Code} {H : Heap} {locs : List Loc} {Q : State → Prop} {D : va_G} {cI cC cZ : ClassId} {A : Nat → Prop} {ls : Array Slot} {t u : Nat → Nat} {wx wm : va_W} {b L : Nat} {xs : Nat → Int32} {x3 : Int32} (C0 : Cx p s m args meth c RL code 4 ret D cI cC cZ) (hX : va_X b L xs s s.heap) (hbl : b < s.heap.size) (hbA : ¬ A b) (hin : ∀ k : Nat, k < 5 → vp_in (x3 + nI k) L) (hl : lv_has ls 4 [(3, .int x3), (2, .ref (u 0)), (1, .ref (t 0)), (0, .ref b)]) (hz : StZ A s s.heap) (hK : ∀ (wx' wm' : va_W) (H' : Heap) (locs' : List Loc), Rl cI cC cZ t u wx' wm' → Wd D A s.heap (wx' ++ wm') H' locs' → W p l e room_1 s m args below meth c H' locs' 77 1080 Q (F0 m 1045 ls [])) (hR : Rl cI cC cZ t u wx wm) (hw : Wd D A s.heap (wx ++ wm) H locs) : W p l e room_1 s m args below meth c H locs 77 1080 Q (F0 m 416 ls []) := by
  refine Rl_elim hR ?_
  intro C P I E sg set num wl ws ww wb sb sl sa sal w hg il is iw ib tb tl ta tal h r lo hi el ep best od bent vb vl va val so ti su ml ms mw mk tab mb mlo mhi mo mbo mso mbs mbu fo fw bs bp bw kn gr kf cn tr wt rs rm fu fl ewx ewm hC hW hT hH hI hG hS hE hKW hKS
  subst ewx
  subst ewm
  have hx := C0.1
  have hb := C0.2.1
  have hi1 : vp_in (x3 + (1 : Int32)) L := hin 1 (by omega)
  have hi2 : vp_in (x3 + (2 : Int32)) L := hin 2 (by omega)
  have hi3 : vp_in (x3 + (3 : Int32)) L := hin 3 (by omega)
  have hi4 : vp_in (x3 + (4 : Int32)) L := hin 4 (by omega)
  obtain ⟨v1, ev1⟩ : ∃ z, z = xs (x3 + (1 : Int32)).toNatClampNeg := ⟨_, rfl⟩
  obtain ⟨v2, ev2⟩ : ∃ z, z = xs (x3 + (2 : Int32)).toNatClampNeg := ⟨_, rfl⟩
  obtain ⟨v3, ev3⟩ : ∃ z, z = xs (x3 + (3 : Int32)).toNatClampNeg := ⟨_, rfl⟩
  obtain ⟨v4, ev4⟩ : ∃ z, z = xs (x3 + (4 : Int32)).toNatClampNeg := ⟨_, rfl⟩
  obtain ⟨r1, w', hg', kn', e1, e2, hH', hk⟩ := c_wish 1000000 w hg kn v1 v2 (by omega) hH
  refine lv_aload_n hx hb (dc d_law_3 22 rfl) rfl (lv_at hl 2 rfl) ?_
  refine lv_aload_n hx hb (dc d_law_3 23 rfl) rfl (lv_at hl 3 rfl) ?_
  refine lv_iload_n hx hb (dc d_law_3 24 rfl) rfl (lv_at hl 0 rfl) ?_
  refine lv_iconst (v := (1 : Int32)) hx hb (dc d_law_3 25 rfl) (by decide) ?_
  refine lv_iadd hx hb (dc d_law_3 26 rfl) ?_
  refine va_sld hx hb hX hbl hbA hw.2.2 hi1 (dc d_law_3 27 rfl) ?_
  rw [← ev1]
  refine lv_aload_n hx hb (dc d_law_3 28 rfl) rfl (lv_at hl 3 rfl) ?_
  refine lv_iload_n hx hb (dc d_law_3 29 rfl) rfl (lv_at hl 0 rfl) ?_
  refine lv_iconst (v := (2 : Int32)) hx hb (dc d_law_3 30 rfl) (by decide) ?_
  refine lv_iadd hx hb (dc d_law_3 31 rfl) ?_
  refine va_sld hx hb hX hbl hbA hw.2.2 hi2 (dc d_law_3 32 rfl) ?_
  rw [← ev2]
  refine x_callL (As := [.int v1, .int v2]) (rest := []) C0 hw mb_X11_wish mv_X11_wish ml_L_57 hq_X11 rfl (k_X11_wish 1000000 e1) hl.1 rfl rfl adr_X11 (Nat.le_of_ble_eq_true rfl) (Nat.le_of_ble_eq_true rfl) (Nat.le_of_ble_eq_true rfl) (Nat.le_of_ble_eq_true rfl) (Nat.le_of_ble_eq_true rfl) (dc d_law_3 33 rfl) (fun H locs hw => ?_)
  refine lv_aload_n hx hb (dc d_law_3 34 rfl) rfl (lv_at hl 1 rfl) ?_
  refine lv_aload_n hx hb (dc d_law_3 35 rfl) rfl (lv_at hl 3 rfl) ?_
  refine lv_iload_n hx hb (dc d_law_3 36 rfl) rfl (lv_at hl 0 rfl) ?_
  refine lv_iconst (v := (1 : Int32)) hx hb (dc d_law_3 37 rfl) (by decide) ?_
  refine lv_iadd hx hb (dc d_law_3 38 rfl) ?_
  refine va_sld hx hb hX hbl hbA hw.2.2 hi1 (dc d_law_3 39 rfl) ?_
  rw [← ev1]
  refine lv_aload_n hx hb (dc d_law_3 40 rfl) rfl (lv_at hl 3 rfl) ?_
  refine lv_iload_n hx hb (dc d_law_3 41 rfl) rfl (lv_at hl 0 rfl) ?_
  refine lv_iconst (v := (2 : Int32)) hx hb (dc d_law_3 42 rfl) (by decide) ?_
  refine lv_iadd hx hb (dc d_law_3 43 rfl) ?_
  refine va_sld hx hb hX hbl hbA hw.2.2 hi2 (dc d_law_3 44 rfl) ?_
  rw [← ev2]
  refine x_callR (As := [.int v1, .int v2]) (rest := [.int r1]) C0 hw mb_X12_wish mv_X12_wish ml_L_60 hq_X12 rfl (k_X12_wish 1000000 e2) hl.1 rfl rfl adr_X12 (Nat.le_of_ble_eq_true rfl) (Nat.le_of_ble_eq_true rfl) (Nat.le_of_ble_eq_true rfl) (Nat.le_of_ble_eq_true rfl) (Nat.le_of_ble_eq_true rfl) (dc d_law_3 45 rfl) (fun H locs hw => ?_)
  refine lv_icmp_eq (tgt := 1045) hx hb (dc d_law_3 46 rfl) (by decide) (fun c1 => ?_) (fun c1 => absurd rfl c1)
  exact hK _ _ _ _ ⟨C, P, I, E, sg, set, num, wl, ws, ww, wb, sb, sl, sa, sal, w', hg', il, is, iw, ib, tb, tl, ta, tal, h, r, lo, hi, el, ep, best, od, bent, vb, vl, va, val, so, ti, su, ml, ms, mw, mk, tab, mb, mlo, mhi, mo, mbo, mso, mbs, mbu, fo, fw, bs, bp, bw, kn', gr, kf, cn, tr, wt, rs, rm, fu, fl, rfl, rfl, hC, hW, hT, hH', hI, hG, hS, hE, (KW_wish hk hKW), hKS⟩ hw
set_option maxHeartbeats 4000000 in
set_option maxRecDepth 100000 in
theorem lc_11 {p : Program} {l : Launch} {e : Env} {s : State} {m : MethodId} {args : Array Value} {below : List Frame} {meth : Method} {c : Code} {H : Heap} {locs : List Loc} {Q : State → Prop} {D : va_G} {cI cC cZ : ClassId} {A : Nat → Prop} {ls : Array Slot} {t u : Nat → Nat} {wx wm : va_W} {b L : Nat} {xs : Nat → Int32} {x3 : Int32} (C0 : Cx p s m args meth c RL code 4 ret D cI cC cZ) (hX : va_X b L xs s s.heap) (hbl : b < s.heap.size) (hbA : ¬ A b) (hin : ∀ k : Nat, k < 5 → vp_in (x3 + nI k) L) (hl : lv_has ls 4 [(3, .int x3), (2, .ref (u 0)), (1, .ref (t 0)), (0, .ref b)]) (hz : StZ A s s.heap) (hK : ∀ (wx' wm' : va_W) (H' : Heap) (locs' : List Loc), Rl cI cC cZ t u wx' wm' → Wd D A s.heap (wx' ++ wm') H' locs' → W p l e room_1 s m args below meth c H' locs' 77 1080 Q (F0 m 1045 ls [])) (hR : Rl cI cC cZ t u wx wm) (hw : Wd D A s.heap (wx ++ wm) H locs) : W p l e room_1 s m args below meth c H locs 77 1080 Q (F0 m 449 ls []) := by
  refine Rl_elim hR ?_
  intro C P I E sg set num wl ws ww wb sb sl sa sal w hg il is iw ib tb tl ta tal h r lo hi el ep best od bent vb vl va val so ti su ml ms mw mk tab mb mlo mhi mo mbo mso mbs mbu fo fw bs bp bw kn gr kf cn tr wt rs rm fu fl ewx ewm hC hW hT hH hI hG hS hE hKW hKS
  subst ewx
  subst ewm
  have hx := C0.1
  have hb := C0.2.1
  have hi1 : vp_in (x3 + (1 : Int32)) L := hin 1 (by omega)
  have hi2 : vp_in (x3 + (2 : Int32)) L := hin 2 (by omega)
  have hi3 : vp_in (x3 + (3 : Int32)) L := hin 3 (by omega)
  have hi4 : vp_in (x3 + (4 : Int32)) L := hin 4 (by omega)
  obtain ⟨v1, ev1⟩ : ∃ z, z = xs (x3 + (1 : Int32)).toNatClampNeg := ⟨_, rfl⟩
  obtain ⟨v2, ev2⟩ : ∃ z, z = xs (x3 + (2 : Int32)).toNatClampNeg := ⟨_, rfl⟩
  obtain ⟨v3, ev3⟩ : ∃ z, z = xs (x3 + (3 : Int32)).toNatClampNeg := ⟨_, rfl⟩
  obtain ⟨v4, ev4⟩ : ∃ z, z = xs (x3 + (4 : Int32)).toNatClampNeg := ⟨_, rfl⟩
  obtain ⟨r1, sb', sl', sa', sal', mb', e1, e2⟩ := c_miss 1000000 P set num tab wl ws ww wb ml ms mw mk sb sl sa sal mb w hg v1 (by omega) hW hT hH
  refine lv_aload_n hx hb (dc d_law_3 49 rfl) rfl (lv_at hl 2 rfl) ?_
  refine lv_aload_n hx hb (dc d_law_3 50 rfl) rfl (lv_at hl 3 rfl) ?_
  refine lv_iload_n hx hb (dc d_law_3 51 rfl) rfl (lv_at hl 0 rfl) ?_
  refine lv_iconst (v := (1 : Int32)) hx hb (dc d_law_3 52 rfl) (by decide) ?_
  refine lv_iadd hx hb (dc d_law_3 53 rfl) ?_
  refine va_sld hx hb hX hbl hbA hw.2.2 hi1 (dc d_law_3 54 rfl) ?_
  rw [← ev1]
  refine x_callL (As := [.int v1]) (rest := []) C0 hw mb_X11_miss mv_X11_miss ml_L_61 hq_X11 rfl (k_X11_miss 1000000 e1) hl.1 rfl rfl adr_X11 (Nat.le_of_ble_eq_true rfl) (Nat.le_of_ble_eq_true rfl) (Nat.le_of_ble_eq_true rfl) (Nat.le_of_ble_eq_true rfl) (Nat.le_of_ble_eq_true rfl) (dc d_law_3 55 rfl) (fun H locs hw => ?_)
  refine lv_aload_n hx hb (dc d_law_3 56 rfl) rfl (lv_at hl 1 rfl) ?_
  refine lv_aload_n hx hb (dc d_law_3 57 rfl) rfl (lv_at hl 3 rfl) ?_
  refine lv_iload_n hx hb (dc d_law_3 58 rfl) rfl (lv_at hl 0 rfl) ?_
  refine lv_iconst (v := (1 : Int32)) hx hb (dc d_law_3 59 rfl) (by decide) ?_
  refine lv_iadd hx hb (dc d_law_4 0 rfl) ?_
  refine va_sld hx hb hX hbl hbA hw.2.2 hi1 (dc d_law_4 1 rfl) ?_
  rw [← ev1]
  refine x_callR (As := [.int v1]) (rest := [.int r1]) C0 hw mb_X12_miss mv_X12_miss ml_L_64 hq_X12 rfl (k_X12_miss 1000000 e2) hl.1 rfl rfl adr_X12 (Nat.le_of_ble_eq_true rfl) (Nat.le_of_ble_eq_true rfl) (Nat.le_of_ble_eq_true rfl) (Nat.le_of_ble_eq_true rfl) (Nat.le_of_ble_eq_true rfl) (dc d_law_4 2 rfl) (fun H locs hw => ?_)
  refine lv_icmp_eq (tgt := 1045) hx hb (dc d_law_4 3 rfl) (by decide) (fun c1 => ?_) (fun c1 => absurd rfl c1)
  exact hK _ _ _ _ ⟨C, P, I, E, sg, set, num, wl, ws, ww, wb, sb', sl', sa', sal', w, hg, il, is, iw, ib, tb, tl, ta, tal, h, r, lo, hi, el, ep, best, od, bent, vb, vl, va, val, so, ti, su, ml, ms, mw, mk, tab, mb', mlo, mhi, mo, mbo, mso, mbs, mbu, fo, fw, bs, bp, bw, kn, gr, kf, cn, tr, wt, rs, rm, fu, fl, rfl, rfl, hC, hW, hT, hH, hI, hG, hS, hE, hKW, hKS⟩ hw
set_option maxHeartbeats 4000000 in
set_option maxRecDepth 100000 in
theorem lc_12 {p : Program} {l : Launch} {e : Env} {s : State} {m : MethodId} {args : Array Value} {below : List Frame} {meth : Method} {c : Code} {H : Heap} {locs : List Loc} {Q : State → Prop} {D : va_G} {cI cC cZ : ClassId} {A : Nat → Prop} {ls : Array Slot} {t u : Nat → Nat} {wx wm : va_W} {b L : Nat} {xs : Nat → Int32} {x3 : Int32} (C0 : Cx p s m args meth c RL code 4 ret D cI cC cZ) (hX : va_X b L xs s s.heap) (hbl : b < s.heap.size) (hbA : ¬ A b) (hin : ∀ k : Nat, k < 5 → vp_in (x3 + nI k) L) (hl : lv_has ls 4 [(3, .int x3), (2, .ref (u 0)), (1, .ref (t 0)), (0, .ref b)]) (hz : StZ A s s.heap) (hK : ∀ (wx' wm' : va_W) (H' : Heap) (locs' : List Loc), Rl cI cC cZ t u wx' wm' → Wd D A s.heap (wx' ++ wm') H' locs' → W p l e room_1 s m args below meth c H' locs' 77 1080 Q (F0 m 1045 ls [])) (hR : Rl cI cC cZ t u wx wm) (hw : Wd D A s.heap (wx ++ wm) H locs) : W p l e room_1 s m args below meth c H locs 77 1080 Q (F0 m 472 ls []) := by
  refine Rl_elim hR ?_
  intro C P I E sg set num wl ws ww wb sb sl sa sal w hg il is iw ib tb tl ta tal h r lo hi el ep best od bent vb vl va val so ti su ml ms mw mk tab mb mlo mhi mo mbo mso mbs mbu fo fw bs bp bw kn gr kf cn tr wt rs rm fu fl ewx ewm hC hW hT hH hI hG hS hE hKW hKS
  subst ewx
  subst ewm
  have hx := C0.1
  have hb := C0.2.1
  have hi1 : vp_in (x3 + (1 : Int32)) L := hin 1 (by omega)
  have hi2 : vp_in (x3 + (2 : Int32)) L := hin 2 (by omega)
  have hi3 : vp_in (x3 + (3 : Int32)) L := hin 3 (by omega)
  have hi4 : vp_in (x3 + (4 : Int32)) L := hin 4 (by omega)
  obtain ⟨v1, ev1⟩ : ∃ z, z = xs (x3 + (1 : Int32)).toNatClampNeg := ⟨_, rfl⟩
  obtain ⟨v2, ev2⟩ : ∃ z, z = xs (x3 + (2 : Int32)).toNatClampNeg := ⟨_, rfl⟩
  obtain ⟨v3, ev3⟩ : ∃ z, z = xs (x3 + (3 : Int32)).toNatClampNeg := ⟨_, rfl⟩
  obtain ⟨v4, ev4⟩ : ∃ z, z = xs (x3 + (4 : Int32)).toNatClampNeg := ⟨_, rfl⟩
  obtain ⟨r1, sb', sl', sa', sal', mb', e1, e2⟩ := c_worst 1000000 P set num tab wl ws ww wb ml ms mw mk sb sl sa sal mb w hg (by omega) hW hT hH
  refine lv_aload_n hx hb (dc d_law_4 6 rfl) rfl (lv_at hl 2 rfl) ?_
  refine x_callL (As := []) (rest := []) C0 hw mb_X11_worst mv_X11_worst ml_L_65 hq_X11 rfl (k_X11_worst 1000000 e1) hl.1 rfl rfl adr_X11 (Nat.le_of_ble_eq_true rfl) (Nat.le_of_ble_eq_true rfl) (Nat.le_of_ble_eq_true rfl) (Nat.le_of_ble_eq_true rfl) (Nat.le_of_ble_eq_true rfl) (dc d_law_4 7 rfl) (fun H locs hw => ?_)
  refine lv_aload_n hx hb (dc d_law_4 8 rfl) rfl (lv_at hl 1 rfl) ?_
  refine x_callR (As := []) (rest := [.int r1]) C0 hw mb_X12_worst mv_X12_worst ml_L_68 hq_X12 rfl (k_X12_worst 1000000 e2) hl.1 rfl rfl adr_X12 (Nat.le_of_ble_eq_true rfl) (Nat.le_of_ble_eq_true rfl) (Nat.le_of_ble_eq_true rfl) (Nat.le_of_ble_eq_true rfl) (Nat.le_of_ble_eq_true rfl) (dc d_law_4 9 rfl) (fun H locs hw => ?_)
  refine lv_icmp_eq (tgt := 1045) hx hb (dc d_law_4 10 rfl) (by decide) (fun c1 => ?_) (fun c1 => absurd rfl c1)
  exact hK _ _ _ _ ⟨C, P, I, E, sg, set, num, wl, ws, ww, wb, sb', sl', sa', sal', w, hg, il, is, iw, ib, tb, tl, ta, tal, h, r, lo, hi, el, ep, best, od, bent, vb, vl, va, val, so, ti, su, ml, ms, mw, mk, tab, mb', mlo, mhi, mo, mbo, mso, mbs, mbu, fo, fw, bs, bp, bw, kn, gr, kf, cn, tr, wt, rs, rm, fu, fl, rfl, rfl, hC, hW, hT, hH, hI, hG, hS, hE, hKW, hKS⟩ hw
set_option maxHeartbeats 4000000 in
set_option maxRecDepth 100000 in
theorem lc_13 {p : Program} {l : Launch} {e : Env} {s : State} {m : MethodId} {args : Array Value} {below : List Frame} {meth : Method} {c : Code} {H : Heap} {locs : List Loc} {Q : State → Prop} {D : va_G} {cI cC cZ : ClassId} {A : Nat → Prop} {ls : Array Slot} {t u : Nat → Nat} {wx wm : va_W} {b L : Nat} {xs : Nat → Int32} {x3 : Int32} (C0 : Cx p s m args meth c RL code 4 ret D cI cC cZ) (hX : va_X b L xs s s.heap) (hbl : b < s.heap.size) (hbA : ¬ A b) (hin : ∀ k : Nat, k < 5 → vp_in (x3 + nI k) L) (hl : lv_has ls 4 [(3, .int x3), (2, .ref (u 0)), (1, .ref (t 0)), (0, .ref b)]) (hz : StZ A s s.heap) (hK : ∀ (wx' wm' : va_W) (H' : Heap) (locs' : List Loc), Rl cI cC cZ t u wx' wm' → Wd D A s.heap (wx' ++ wm') H' locs' → W p l e room_1 s m args below meth c H' locs' 77 1080 Q (F0 m 1045 ls [])) (hR : Rl cI cC cZ t u wx wm) (hw : Wd D A s.heap (wx ++ wm) H locs) : W p l e room_1 s m args below meth c H locs 77 1080 Q (F0 m 485 ls []) := by
  refine Rl_elim hR ?_
  intro C P I E sg set num wl ws ww wb sb sl sa sal w hg il is iw ib tb tl ta tal h r lo hi el ep best od bent vb vl va val so ti su ml ms mw mk tab mb mlo mhi mo mbo mso mbs mbu fo fw bs bp bw kn gr kf cn tr wt rs rm fu fl ewx ewm hC hW hT hH hI hG hS hE hKW hKS
  subst ewx
  subst ewm
  have hx := C0.1
  have hb := C0.2.1
  have hi1 : vp_in (x3 + (1 : Int32)) L := hin 1 (by omega)
  have hi2 : vp_in (x3 + (2 : Int32)) L := hin 2 (by omega)
  have hi3 : vp_in (x3 + (3 : Int32)) L := hin 3 (by omega)
  have hi4 : vp_in (x3 + (4 : Int32)) L := hin 4 (by omega)
  obtain ⟨v1, ev1⟩ : ∃ z, z = xs (x3 + (1 : Int32)).toNatClampNeg := ⟨_, rfl⟩
  obtain ⟨v2, ev2⟩ : ∃ z, z = xs (x3 + (2 : Int32)).toNatClampNeg := ⟨_, rfl⟩
  obtain ⟨v3, ev3⟩ : ∃ z, z = xs (x3 + (3 : Int32)).toNatClampNeg := ⟨_, rfl⟩
  obtain ⟨v4, ev4⟩ : ∃ z, z = xs (x3 + (4 : Int32)).toNatClampNeg := ⟨_, rfl⟩
  obtain ⟨r1, e1, e2⟩ := c_twist 1000000 w v1
  refine lv_aload_n hx hb (dc d_law_4 13 rfl) rfl (lv_at hl 2 rfl) ?_
  refine lv_aload_n hx hb (dc d_law_4 14 rfl) rfl (lv_at hl 3 rfl) ?_
  refine lv_iload_n hx hb (dc d_law_4 15 rfl) rfl (lv_at hl 0 rfl) ?_
  refine lv_iconst (v := (1 : Int32)) hx hb (dc d_law_4 16 rfl) (by decide) ?_
  refine lv_iadd hx hb (dc d_law_4 17 rfl) ?_
  refine va_sld hx hb hX hbl hbA hw.2.2 hi1 (dc d_law_4 18 rfl) ?_
  rw [← ev1]
  refine x_callL (As := [.int v1]) (rest := []) C0 hw mb_X11_twist mv_X11_twist ml_L_69 hq_X11 rfl (k_X11_twist 1000000 e1) hl.1 rfl rfl adr_X11 (Nat.le_of_ble_eq_true rfl) (Nat.le_of_ble_eq_true rfl) (Nat.le_of_ble_eq_true rfl) (Nat.le_of_ble_eq_true rfl) (Nat.le_of_ble_eq_true rfl) (dc d_law_4 19 rfl) (fun H locs hw => ?_)
  refine lv_aload_n hx hb (dc d_law_4 20 rfl) rfl (lv_at hl 1 rfl) ?_
  refine lv_aload_n hx hb (dc d_law_4 21 rfl) rfl (lv_at hl 3 rfl) ?_
  refine lv_iload_n hx hb (dc d_law_4 22 rfl) rfl (lv_at hl 0 rfl) ?_
  refine lv_iconst (v := (1 : Int32)) hx hb (dc d_law_4 23 rfl) (by decide) ?_
  refine lv_iadd hx hb (dc d_law_4 24 rfl) ?_
  refine va_sld hx hb hX hbl hbA hw.2.2 hi1 (dc d_law_4 25 rfl) ?_
  rw [← ev1]
  refine x_callR (As := [.int v1]) (rest := [.int r1]) C0 hw mb_X12_twist mv_X12_twist ml_L_72 hq_X12 rfl (k_X12_twist 1000000 e2) hl.1 rfl rfl adr_X12 (Nat.le_of_ble_eq_true rfl) (Nat.le_of_ble_eq_true rfl) (Nat.le_of_ble_eq_true rfl) (Nat.le_of_ble_eq_true rfl) (Nat.le_of_ble_eq_true rfl) (dc d_law_4 26 rfl) (fun H locs hw => ?_)
  refine lv_icmp_eq (tgt := 1045) hx hb (dc d_law_4 27 rfl) (by decide) (fun c1 => ?_) (fun c1 => absurd rfl c1)
  exact hK _ _ _ _ ⟨C, P, I, E, sg, set, num, wl, ws, ww, wb, sb, sl, sa, sal, w, hg, il, is, iw, ib, tb, tl, ta, tal, h, r, lo, hi, el, ep, best, od, bent, vb, vl, va, val, so, ti, su, ml, ms, mw, mk, tab, mb, mlo, mhi, mo, mbo, mso, mbs, mbu, fo, fw, bs, bp, bw, kn, gr, kf, cn, tr, wt, rs, rm, fu, fl, rfl, rfl, hC, hW, hT, hH, hI, hG, hS, hE, hKW, hKS⟩ hw
set_option maxHeartbeats 4000000 in
set_option maxRecDepth 100000 in
theorem lc_14 {p : Program} {l : Launch} {e : Env} {s : State} {m : MethodId} {args : Array Value} {below : List Frame} {meth : Method} {c : Code} {H : Heap} {locs : List Loc} {Q : State → Prop} {D : va_G} {cI cC cZ : ClassId} {A : Nat → Prop} {ls : Array Slot} {t u : Nat → Nat} {wx wm : va_W} {b L : Nat} {xs : Nat → Int32} {x3 : Int32} (C0 : Cx p s m args meth c RL code 4 ret D cI cC cZ) (hX : va_X b L xs s s.heap) (hbl : b < s.heap.size) (hbA : ¬ A b) (hin : ∀ k : Nat, k < 5 → vp_in (x3 + nI k) L) (hl : lv_has ls 4 [(3, .int x3), (2, .ref (u 0)), (1, .ref (t 0)), (0, .ref b)]) (hz : StZ A s s.heap) (hK : ∀ (wx' wm' : va_W) (H' : Heap) (locs' : List Loc), Rl cI cC cZ t u wx' wm' → Wd D A s.heap (wx' ++ wm') H' locs' → W p l e room_1 s m args below meth c H' locs' 77 1080 Q (F0 m 1045 ls [])) (hR : Rl cI cC cZ t u wx wm) (hw : Wd D A s.heap (wx ++ wm) H locs) : W p l e room_1 s m args below meth c H locs 77 1080 Q (F0 m 508 ls []) := by
  refine Rl_elim hR ?_
  intro C P I E sg set num wl ws ww wb sb sl sa sal w hg il is iw ib tb tl ta tal h r lo hi el ep best od bent vb vl va val so ti su ml ms mw mk tab mb mlo mhi mo mbo mso mbs mbu fo fw bs bp bw kn gr kf cn tr wt rs rm fu fl ewx ewm hC hW hT hH hI hG hS hE hKW hKS
  subst ewx
  subst ewm
  have hx := C0.1
  have hb := C0.2.1
  have hi1 : vp_in (x3 + (1 : Int32)) L := hin 1 (by omega)
  have hi2 : vp_in (x3 + (2 : Int32)) L := hin 2 (by omega)
  have hi3 : vp_in (x3 + (3 : Int32)) L := hin 3 (by omega)
  have hi4 : vp_in (x3 + (4 : Int32)) L := hin 4 (by omega)
  obtain ⟨v1, ev1⟩ : ∃ z, z = xs (x3 + (1 : Int32)).toNatClampNeg := ⟨_, rfl⟩
  obtain ⟨v2, ev2⟩ : ∃ z, z = xs (x3 + (2 : Int32)).toNatClampNeg := ⟨_, rfl⟩
  obtain ⟨v3, ev3⟩ : ∃ z, z = xs (x3 + (3 : Int32)).toNatClampNeg := ⟨_, rfl⟩
  obtain ⟨v4, ev4⟩ : ∃ z, z = xs (x3 + (4 : Int32)).toNatClampNeg := ⟨_, rfl⟩
  obtain ⟨r1, e1, e2⟩ := c_bound 1000000 w (by omega)
  refine lv_aload_n hx hb (dc d_law_4 30 rfl) rfl (lv_at hl 2 rfl) ?_
  refine x_callL (As := []) (rest := []) C0 hw mb_X11_bound mv_X11_bound ml_L_73 hq_X11 rfl (k_X11_bound 1000000 e1) hl.1 rfl rfl adr_X11 (Nat.le_of_ble_eq_true rfl) (Nat.le_of_ble_eq_true rfl) (Nat.le_of_ble_eq_true rfl) (Nat.le_of_ble_eq_true rfl) (Nat.le_of_ble_eq_true rfl) (dc d_law_4 31 rfl) (fun H locs hw => ?_)
  refine lv_aload_n hx hb (dc d_law_4 32 rfl) rfl (lv_at hl 1 rfl) ?_
  refine x_callR (As := []) (rest := [.int r1]) C0 hw mb_X12_bound mv_X12_bound ml_L_76 hq_X12 rfl (k_X12_bound 1000000 e2) hl.1 rfl rfl adr_X12 (Nat.le_of_ble_eq_true rfl) (Nat.le_of_ble_eq_true rfl) (Nat.le_of_ble_eq_true rfl) (Nat.le_of_ble_eq_true rfl) (Nat.le_of_ble_eq_true rfl) (dc d_law_4 33 rfl) (fun H locs hw => ?_)
  refine lv_icmp_eq (tgt := 1045) hx hb (dc d_law_4 34 rfl) (by decide) (fun c1 => ?_) (fun c1 => absurd rfl c1)
  exact hK _ _ _ _ ⟨C, P, I, E, sg, set, num, wl, ws, ww, wb, sb, sl, sa, sal, w, hg, il, is, iw, ib, tb, tl, ta, tal, h, r, lo, hi, el, ep, best, od, bent, vb, vl, va, val, so, ti, su, ml, ms, mw, mk, tab, mb, mlo, mhi, mo, mbo, mso, mbs, mbu, fo, fw, bs, bp, bw, kn, gr, kf, cn, tr, wt, rs, rm, fu, fl, rfl, rfl, hC, hW, hT, hH, hI, hG, hS, hE, hKW, hKS⟩ hw
set_option maxHeartbeats 4000000 in
set_option maxRecDepth 100000 in
theorem lc_15 {p : Program} {l : Launch} {e : Env} {s : State} {m : MethodId} {args : Array Value} {below : List Frame} {meth : Method} {c : Code} {H : Heap} {locs : List Loc} {Q : State → Prop} {D : va_G} {cI cC cZ : ClassId} {A : Nat → Prop} {ls : Array Slot} {t u : Nat → Nat} {wx wm : va_W} {b L : Nat} {xs : Nat → Int32} {x3 : Int32} (C0 : Cx p s m args meth c RL code 4 ret D cI cC cZ) (hX : va_X b L xs s s.heap) (hbl : b < s.heap.size) (hbA : ¬ A b) (hin : ∀ k : Nat, k < 5 → vp_in (x3 + nI k) L) (hl : lv_has ls 4 [(3, .int x3), (2, .ref (u 0)), (1, .ref (t 0)), (0, .ref b)]) (hz : StZ A s s.heap) (hK : ∀ (wx' wm' : va_W) (H' : Heap) (locs' : List Loc), Rl cI cC cZ t u wx' wm' → Wd D A s.heap (wx' ++ wm') H' locs' → W p l e room_1 s m args below meth c H' locs' 77 1080 Q (F0 m 1045 ls [])) (hR : Rl cI cC cZ t u wx wm) (hw : Wd D A s.heap (wx ++ wm) H locs) : W p l e room_1 s m args below meth c H locs 77 1080 Q (F0 m 521 ls []) := by
  refine Rl_elim hR ?_
  intro C P I E sg set num wl ws ww wb sb sl sa sal w hg il is iw ib tb tl ta tal h r lo hi el ep best od bent vb vl va val so ti su ml ms mw mk tab mb mlo mhi mo mbo mso mbs mbu fo fw bs bp bw kn gr kf cn tr wt rs rm fu fl ewx ewm hC hW hT hH hI hG hS hE hKW hKS
  subst ewx
  subst ewm
  have hx := C0.1
  have hb := C0.2.1
  have hi1 : vp_in (x3 + (1 : Int32)) L := hin 1 (by omega)
  have hi2 : vp_in (x3 + (2 : Int32)) L := hin 2 (by omega)
  have hi3 : vp_in (x3 + (3 : Int32)) L := hin 3 (by omega)
  have hi4 : vp_in (x3 + (4 : Int32)) L := hin 4 (by omega)
  obtain ⟨v1, ev1⟩ : ∃ z, z = xs (x3 + (1 : Int32)).toNatClampNeg := ⟨_, rfl⟩
  obtain ⟨v2, ev2⟩ : ∃ z, z = xs (x3 + (2 : Int32)).toNatClampNeg := ⟨_, rfl⟩
  obtain ⟨v3, ev3⟩ : ∃ z, z = xs (x3 + (3 : Int32)).toNatClampNeg := ⟨_, rfl⟩
  obtain ⟨v4, ev4⟩ : ∃ z, z = xs (x3 + (4 : Int32)).toNatClampNeg := ⟨_, rfl⟩
  by_cases b3 : v3 = 0
  · by_cases b4 : v4 = 0
    · skip
      obtain ⟨r1, il', is', iw', ib', I', e1, e2, hI'⟩ := c_item 1000000 I il is iw ib v1 v2 0 0 hI
      refine lv_aload_n hx hb (dc d_law_4 37 rfl) rfl (lv_at hl 2 rfl) ?_
      refine lv_aload_n hx hb (dc d_law_4 38 rfl) rfl (lv_at hl 3 rfl) ?_
      refine lv_iload_n hx hb (dc d_law_4 39 rfl) rfl (lv_at hl 0 rfl) ?_
      refine lv_iconst (v := (1 : Int32)) hx hb (dc d_law_4 40 rfl) (by decide) ?_
      refine lv_iadd hx hb (dc d_law_4 41 rfl) ?_
      refine va_sld hx hb hX hbl hbA hw.2.2 hi1 (dc d_law_4 42 rfl) ?_
      rw [← ev1]
      refine lv_aload_n hx hb (dc d_law_4 43 rfl) rfl (lv_at hl 3 rfl) ?_
      refine lv_iload_n hx hb (dc d_law_4 44 rfl) rfl (lv_at hl 0 rfl) ?_
      refine lv_iconst (v := (2 : Int32)) hx hb (dc d_law_4 45 rfl) (by decide) ?_
      refine lv_iadd hx hb (dc d_law_4 46 rfl) ?_
      refine va_sld hx hb hX hbl hbA hw.2.2 hi2 (dc d_law_4 47 rfl) ?_
      rw [← ev2]
      refine lv_aload_n hx hb (dc d_law_4 48 rfl) rfl (lv_at hl 3 rfl) ?_
      refine lv_iload_n hx hb (dc d_law_4 49 rfl) rfl (lv_at hl 0 rfl) ?_
      refine lv_iconst (v := (3 : Int32)) hx hb (dc d_law_4 50 rfl) (by decide) ?_
      refine lv_iadd hx hb (dc d_law_4 51 rfl) ?_
      refine va_sld hx hb hX hbl hbA hw.2.2 hi3 (dc d_law_4 52 rfl) ?_
      rw [← ev3]
      refine lv_if_eq (tgt := 544) hx hb (dc d_law_4 53 rfl) (by decide) (fun c1 => ?_) (fun c1 => absurd b3 c1)
      refine lv_iconst (v := (0 : Int32)) hx hb (dc d_law_4 56 rfl) (by decide) ?_
      refine lv_aload_n hx hb (dc d_law_4 57 rfl) rfl (lv_at hl 3 rfl) ?_
      refine lv_iload_n hx hb (dc d_law_4 58 rfl) rfl (lv_at hl 0 rfl) ?_
      refine lv_iconst (v := (4 : Int32)) hx hb (dc d_law_4 59 rfl) (by decide) ?_
      refine lv_iadd hx hb (dc d_law_5 0 rfl) ?_
      refine va_sld hx hb hX hbl hbA hw.2.2 hi4 (dc d_law_5 1 rfl) ?_
      rw [← ev4]
      refine lv_if_eq (tgt := 557) hx hb (dc d_law_5 2 rfl) (by decide) (fun c1 => ?_) (fun c1 => absurd b4 c1)
      refine lv_iconst (v := (0 : Int32)) hx hb (dc d_law_5 5 rfl) (by decide) ?_
      refine x_callL (As := [.int v1, .int v2, .int (0 : Int32), .int (0 : Int32)]) (rest := []) C0 hw mb_X11_item mv_X11_item ml_L_77 hq_X11 rfl (k_X11_item 1000000 e1) hl.1 rfl rfl adr_X11 (Nat.le_of_ble_eq_true rfl) (Nat.le_of_ble_eq_true rfl) (Nat.le_of_ble_eq_true rfl) (Nat.le_of_ble_eq_true rfl) (Nat.le_of_ble_eq_true rfl) (dc d_law_5 6 rfl) (fun H locs hw => ?_)
      refine lv_aload_n hx hb (dc d_law_5 7 rfl) rfl (lv_at hl 1 rfl) ?_
      refine lv_aload_n hx hb (dc d_law_5 8 rfl) rfl (lv_at hl 3 rfl) ?_
      refine lv_iload_n hx hb (dc d_law_5 9 rfl) rfl (lv_at hl 0 rfl) ?_
      refine lv_iconst (v := (1 : Int32)) hx hb (dc d_law_5 10 rfl) (by decide) ?_
      refine lv_iadd hx hb (dc d_law_5 11 rfl) ?_
      refine va_sld hx hb hX hbl hbA hw.2.2 hi1 (dc d_law_5 12 rfl) ?_
      rw [← ev1]
      refine lv_aload_n hx hb (dc d_law_5 13 rfl) rfl (lv_at hl 3 rfl) ?_
      refine lv_iload_n hx hb (dc d_law_5 14 rfl) rfl (lv_at hl 0 rfl) ?_
      refine lv_iconst (v := (2 : Int32)) hx hb (dc d_law_5 15 rfl) (by decide) ?_
      refine lv_iadd hx hb (dc d_law_5 16 rfl) ?_
      refine va_sld hx hb hX hbl hbA hw.2.2 hi2 (dc d_law_5 17 rfl) ?_
      rw [← ev2]
      refine lv_aload_n hx hb (dc d_law_5 18 rfl) rfl (lv_at hl 3 rfl) ?_
      refine lv_iload_n hx hb (dc d_law_5 19 rfl) rfl (lv_at hl 0 rfl) ?_
      refine lv_iconst (v := (3 : Int32)) hx hb (dc d_law_5 20 rfl) (by decide) ?_
      refine lv_iadd hx hb (dc d_law_5 21 rfl) ?_
      refine va_sld hx hb hX hbl hbA hw.2.2 hi3 (dc d_law_5 22 rfl) ?_
      rw [← ev3]
      refine lv_if_eq (tgt := 584) hx hb (dc d_law_5 23 rfl) (by decide) (fun c1 => ?_) (fun c1 => absurd b3 c1)
      refine lv_iconst (v := (0 : Int32)) hx hb (dc d_law_5 26 rfl) (by decide) ?_
      refine lv_aload_n hx hb (dc d_law_5 27 rfl) rfl (lv_at hl 3 rfl) ?_
      refine lv_iload_n hx hb (dc d_law_5 28 rfl) rfl (lv_at hl 0 rfl) ?_
      refine lv_iconst (v := (4 : Int32)) hx hb (dc d_law_5 29 rfl) (by decide) ?_
      refine lv_iadd hx hb (dc d_law_5 30 rfl) ?_
      refine va_sld hx hb hX hbl hbA hw.2.2 hi4 (dc d_law_5 31 rfl) ?_
      rw [← ev4]
      refine lv_if_eq (tgt := 597) hx hb (dc d_law_5 32 rfl) (by decide) (fun c1 => ?_) (fun c1 => absurd b4 c1)
      refine lv_iconst (v := (0 : Int32)) hx hb (dc d_law_5 35 rfl) (by decide) ?_
      refine x_callR (As := [.int v1, .int v2, .int (0 : Int32), .int (0 : Int32)]) (rest := [.int r1]) C0 hw mb_X12_item mv_X12_item ml_L_81 hq_X12 rfl (k_X12_item 1000000 e2) hl.1 rfl rfl adr_X12 (Nat.le_of_ble_eq_true rfl) (Nat.le_of_ble_eq_true rfl) (Nat.le_of_ble_eq_true rfl) (Nat.le_of_ble_eq_true rfl) (Nat.le_of_ble_eq_true rfl) (dc d_law_5 36 rfl) (fun H locs hw => ?_)
      refine lv_icmp_eq (tgt := 1045) hx hb (dc d_law_5 37 rfl) (by decide) (fun c1 => ?_) (fun c1 => absurd rfl c1)
      exact hK _ _ _ _ ⟨C, P, I', E, sg, set, num, wl, ws, ww, wb, sb, sl, sa, sal, w, hg, il', is', iw', ib', tb, tl, ta, tal, h, r, lo, hi, el, ep, best, od, bent, vb, vl, va, val, so, ti, su, ml, ms, mw, mk, tab, mb, mlo, mhi, mo, mbo, mso, mbs, mbu, fo, fw, bs, bp, bw, kn, gr, kf, cn, tr, wt, rs, rm, fu, fl, rfl, rfl, hC, hW, hT, hH, hI', hG, hS, hE, hKW, hKS⟩ hw
    · skip
      obtain ⟨r1, il', is', iw', ib', I', e1, e2, hI'⟩ := c_item 1000000 I il is iw ib v1 v2 0 1 hI
      refine lv_aload_n hx hb (dc d_law_4 37 rfl) rfl (lv_at hl 2 rfl) ?_
      refine lv_aload_n hx hb (dc d_law_4 38 rfl) rfl (lv_at hl 3 rfl) ?_
      refine lv_iload_n hx hb (dc d_law_4 39 rfl) rfl (lv_at hl 0 rfl) ?_
      refine lv_iconst (v := (1 : Int32)) hx hb (dc d_law_4 40 rfl) (by decide) ?_
      refine lv_iadd hx hb (dc d_law_4 41 rfl) ?_
      refine va_sld hx hb hX hbl hbA hw.2.2 hi1 (dc d_law_4 42 rfl) ?_
      rw [← ev1]
      refine lv_aload_n hx hb (dc d_law_4 43 rfl) rfl (lv_at hl 3 rfl) ?_
      refine lv_iload_n hx hb (dc d_law_4 44 rfl) rfl (lv_at hl 0 rfl) ?_
      refine lv_iconst (v := (2 : Int32)) hx hb (dc d_law_4 45 rfl) (by decide) ?_
      refine lv_iadd hx hb (dc d_law_4 46 rfl) ?_
      refine va_sld hx hb hX hbl hbA hw.2.2 hi2 (dc d_law_4 47 rfl) ?_
      rw [← ev2]
      refine lv_aload_n hx hb (dc d_law_4 48 rfl) rfl (lv_at hl 3 rfl) ?_
      refine lv_iload_n hx hb (dc d_law_4 49 rfl) rfl (lv_at hl 0 rfl) ?_
      refine lv_iconst (v := (3 : Int32)) hx hb (dc d_law_4 50 rfl) (by decide) ?_
      refine lv_iadd hx hb (dc d_law_4 51 rfl) ?_
      refine va_sld hx hb hX hbl hbA hw.2.2 hi3 (dc d_law_4 52 rfl) ?_
      rw [← ev3]
      refine lv_if_eq (tgt := 544) hx hb (dc d_law_4 53 rfl) (by decide) (fun c1 => ?_) (fun c1 => absurd b3 c1)
      refine lv_iconst (v := (0 : Int32)) hx hb (dc d_law_4 56 rfl) (by decide) ?_
      refine lv_aload_n hx hb (dc d_law_4 57 rfl) rfl (lv_at hl 3 rfl) ?_
      refine lv_iload_n hx hb (dc d_law_4 58 rfl) rfl (lv_at hl 0 rfl) ?_
      refine lv_iconst (v := (4 : Int32)) hx hb (dc d_law_4 59 rfl) (by decide) ?_
      refine lv_iadd hx hb (dc d_law_5 0 rfl) ?_
      refine va_sld hx hb hX hbl hbA hw.2.2 hi4 (dc d_law_5 1 rfl) ?_
      rw [← ev4]
      refine lv_if_eq (tgt := 557) hx hb (dc d_law_5 2 rfl) (by decide) (fun c1 => absurd c1 b4) (fun c1 => ?_)
      refine lv_iconst (v := (1 : Int32)) hx hb (dc d_law_5 3 rfl) (by decide) ?_
      refine lv_goto (tgt := 558) hx hb (dc d_law_5 4 rfl) (by decide) ?_
      refine x_callL (As := [.int v1, .int v2, .int (0 : Int32), .int (1 : Int32)]) (rest := []) C0 hw mb_X11_item mv_X11_item ml_L_77 hq_X11 rfl (k_X11_item 1000000 e1) hl.1 rfl rfl adr_X11 (Nat.le_of_ble_eq_true rfl) (Nat.le_of_ble_eq_true rfl) (Nat.le_of_ble_eq_true rfl) (Nat.le_of_ble_eq_true rfl) (Nat.le_of_ble_eq_true rfl) (dc d_law_5 6 rfl) (fun H locs hw => ?_)
      refine lv_aload_n hx hb (dc d_law_5 7 rfl) rfl (lv_at hl 1 rfl) ?_
      refine lv_aload_n hx hb (dc d_law_5 8 rfl) rfl (lv_at hl 3 rfl) ?_
      refine lv_iload_n hx hb (dc d_law_5 9 rfl) rfl (lv_at hl 0 rfl) ?_
      refine lv_iconst (v := (1 : Int32)) hx hb (dc d_law_5 10 rfl) (by decide) ?_
      refine lv_iadd hx hb (dc d_law_5 11 rfl) ?_
      refine va_sld hx hb hX hbl hbA hw.2.2 hi1 (dc d_law_5 12 rfl) ?_
      rw [← ev1]
      refine lv_aload_n hx hb (dc d_law_5 13 rfl) rfl (lv_at hl 3 rfl) ?_
      refine lv_iload_n hx hb (dc d_law_5 14 rfl) rfl (lv_at hl 0 rfl) ?_
      refine lv_iconst (v := (2 : Int32)) hx hb (dc d_law_5 15 rfl) (by decide) ?_
      refine lv_iadd hx hb (dc d_law_5 16 rfl) ?_
      refine va_sld hx hb hX hbl hbA hw.2.2 hi2 (dc d_law_5 17 rfl) ?_
      rw [← ev2]
      refine lv_aload_n hx hb (dc d_law_5 18 rfl) rfl (lv_at hl 3 rfl) ?_
      refine lv_iload_n hx hb (dc d_law_5 19 rfl) rfl (lv_at hl 0 rfl) ?_
      refine lv_iconst (v := (3 : Int32)) hx hb (dc d_law_5 20 rfl) (by decide) ?_
      refine lv_iadd hx hb (dc d_law_5 21 rfl) ?_
      refine va_sld hx hb hX hbl hbA hw.2.2 hi3 (dc d_law_5 22 rfl) ?_
      rw [← ev3]
      refine lv_if_eq (tgt := 584) hx hb (dc d_law_5 23 rfl) (by decide) (fun c1 => ?_) (fun c1 => absurd b3 c1)
      refine lv_iconst (v := (0 : Int32)) hx hb (dc d_law_5 26 rfl) (by decide) ?_
      refine lv_aload_n hx hb (dc d_law_5 27 rfl) rfl (lv_at hl 3 rfl) ?_
      refine lv_iload_n hx hb (dc d_law_5 28 rfl) rfl (lv_at hl 0 rfl) ?_
      refine lv_iconst (v := (4 : Int32)) hx hb (dc d_law_5 29 rfl) (by decide) ?_
      refine lv_iadd hx hb (dc d_law_5 30 rfl) ?_
      refine va_sld hx hb hX hbl hbA hw.2.2 hi4 (dc d_law_5 31 rfl) ?_
      rw [← ev4]
      refine lv_if_eq (tgt := 597) hx hb (dc d_law_5 32 rfl) (by decide) (fun c1 => absurd c1 b4) (fun c1 => ?_)
      refine lv_iconst (v := (1 : Int32)) hx hb (dc d_law_5 33 rfl) (by decide) ?_
      refine lv_goto (tgt := 598) hx hb (dc d_law_5 34 rfl) (by decide) ?_
      refine x_callR (As := [.int v1, .int v2, .int (0 : Int32), .int (1 : Int32)]) (rest := [.int r1]) C0 hw mb_X12_item mv_X12_item ml_L_81 hq_X12 rfl (k_X12_item 1000000 e2) hl.1 rfl rfl adr_X12 (Nat.le_of_ble_eq_true rfl) (Nat.le_of_ble_eq_true rfl) (Nat.le_of_ble_eq_true rfl) (Nat.le_of_ble_eq_true rfl) (Nat.le_of_ble_eq_true rfl) (dc d_law_5 36 rfl) (fun H locs hw => ?_)
      refine lv_icmp_eq (tgt := 1045) hx hb (dc d_law_5 37 rfl) (by decide) (fun c1 => ?_) (fun c1 => absurd rfl c1)
      exact hK _ _ _ _ ⟨C, P, I', E, sg, set, num, wl, ws, ww, wb, sb, sl, sa, sal, w, hg, il', is', iw', ib', tb, tl, ta, tal, h, r, lo, hi, el, ep, best, od, bent, vb, vl, va, val, so, ti, su, ml, ms, mw, mk, tab, mb, mlo, mhi, mo, mbo, mso, mbs, mbu, fo, fw, bs, bp, bw, kn, gr, kf, cn, tr, wt, rs, rm, fu, fl, rfl, rfl, hC, hW, hT, hH, hI', hG, hS, hE, hKW, hKS⟩ hw
  · by_cases b4 : v4 = 0
    · skip
      obtain ⟨r1, il', is', iw', ib', I', e1, e2, hI'⟩ := c_item 1000000 I il is iw ib v1 v2 1 0 hI
      refine lv_aload_n hx hb (dc d_law_4 37 rfl) rfl (lv_at hl 2 rfl) ?_
      refine lv_aload_n hx hb (dc d_law_4 38 rfl) rfl (lv_at hl 3 rfl) ?_
      refine lv_iload_n hx hb (dc d_law_4 39 rfl) rfl (lv_at hl 0 rfl) ?_
      refine lv_iconst (v := (1 : Int32)) hx hb (dc d_law_4 40 rfl) (by decide) ?_
      refine lv_iadd hx hb (dc d_law_4 41 rfl) ?_
      refine va_sld hx hb hX hbl hbA hw.2.2 hi1 (dc d_law_4 42 rfl) ?_
      rw [← ev1]
      refine lv_aload_n hx hb (dc d_law_4 43 rfl) rfl (lv_at hl 3 rfl) ?_
      refine lv_iload_n hx hb (dc d_law_4 44 rfl) rfl (lv_at hl 0 rfl) ?_
      refine lv_iconst (v := (2 : Int32)) hx hb (dc d_law_4 45 rfl) (by decide) ?_
      refine lv_iadd hx hb (dc d_law_4 46 rfl) ?_
      refine va_sld hx hb hX hbl hbA hw.2.2 hi2 (dc d_law_4 47 rfl) ?_
      rw [← ev2]
      refine lv_aload_n hx hb (dc d_law_4 48 rfl) rfl (lv_at hl 3 rfl) ?_
      refine lv_iload_n hx hb (dc d_law_4 49 rfl) rfl (lv_at hl 0 rfl) ?_
      refine lv_iconst (v := (3 : Int32)) hx hb (dc d_law_4 50 rfl) (by decide) ?_
      refine lv_iadd hx hb (dc d_law_4 51 rfl) ?_
      refine va_sld hx hb hX hbl hbA hw.2.2 hi3 (dc d_law_4 52 rfl) ?_
      rw [← ev3]
      refine lv_if_eq (tgt := 544) hx hb (dc d_law_4 53 rfl) (by decide) (fun c1 => absurd c1 b3) (fun c1 => ?_)
      refine lv_iconst (v := (1 : Int32)) hx hb (dc d_law_4 54 rfl) (by decide) ?_
      refine lv_goto (tgt := 545) hx hb (dc d_law_4 55 rfl) (by decide) ?_
      refine lv_aload_n hx hb (dc d_law_4 57 rfl) rfl (lv_at hl 3 rfl) ?_
      refine lv_iload_n hx hb (dc d_law_4 58 rfl) rfl (lv_at hl 0 rfl) ?_
      refine lv_iconst (v := (4 : Int32)) hx hb (dc d_law_4 59 rfl) (by decide) ?_
      refine lv_iadd hx hb (dc d_law_5 0 rfl) ?_
      refine va_sld hx hb hX hbl hbA hw.2.2 hi4 (dc d_law_5 1 rfl) ?_
      rw [← ev4]
      refine lv_if_eq (tgt := 557) hx hb (dc d_law_5 2 rfl) (by decide) (fun c1 => ?_) (fun c1 => absurd b4 c1)
      refine lv_iconst (v := (0 : Int32)) hx hb (dc d_law_5 5 rfl) (by decide) ?_
      refine x_callL (As := [.int v1, .int v2, .int (1 : Int32), .int (0 : Int32)]) (rest := []) C0 hw mb_X11_item mv_X11_item ml_L_77 hq_X11 rfl (k_X11_item 1000000 e1) hl.1 rfl rfl adr_X11 (Nat.le_of_ble_eq_true rfl) (Nat.le_of_ble_eq_true rfl) (Nat.le_of_ble_eq_true rfl) (Nat.le_of_ble_eq_true rfl) (Nat.le_of_ble_eq_true rfl) (dc d_law_5 6 rfl) (fun H locs hw => ?_)
      refine lv_aload_n hx hb (dc d_law_5 7 rfl) rfl (lv_at hl 1 rfl) ?_
      refine lv_aload_n hx hb (dc d_law_5 8 rfl) rfl (lv_at hl 3 rfl) ?_
      refine lv_iload_n hx hb (dc d_law_5 9 rfl) rfl (lv_at hl 0 rfl) ?_
      refine lv_iconst (v := (1 : Int32)) hx hb (dc d_law_5 10 rfl) (by decide) ?_
      refine lv_iadd hx hb (dc d_law_5 11 rfl) ?_
      refine va_sld hx hb hX hbl hbA hw.2.2 hi1 (dc d_law_5 12 rfl) ?_
      rw [← ev1]
      refine lv_aload_n hx hb (dc d_law_5 13 rfl) rfl (lv_at hl 3 rfl) ?_
      refine lv_iload_n hx hb (dc d_law_5 14 rfl) rfl (lv_at hl 0 rfl) ?_
      refine lv_iconst (v := (2 : Int32)) hx hb (dc d_law_5 15 rfl) (by decide) ?_
      refine lv_iadd hx hb (dc d_law_5 16 rfl) ?_
      refine va_sld hx hb hX hbl hbA hw.2.2 hi2 (dc d_law_5 17 rfl) ?_
      rw [← ev2]
      refine lv_aload_n hx hb (dc d_law_5 18 rfl) rfl (lv_at hl 3 rfl) ?_
      refine lv_iload_n hx hb (dc d_law_5 19 rfl) rfl (lv_at hl 0 rfl) ?_
      refine lv_iconst (v := (3 : Int32)) hx hb (dc d_law_5 20 rfl) (by decide) ?_
      refine lv_iadd hx hb (dc d_law_5 21 rfl) ?_
      refine va_sld hx hb hX hbl hbA hw.2.2 hi3 (dc d_law_5 22 rfl) ?_
      rw [← ev3]
      refine lv_if_eq (tgt := 584) hx hb (dc d_law_5 23 rfl) (by decide) (fun c1 => absurd c1 b3) (fun c1 => ?_)
      refine lv_iconst (v := (1 : Int32)) hx hb (dc d_law_5 24 rfl) (by decide) ?_
      refine lv_goto (tgt := 585) hx hb (dc d_law_5 25 rfl) (by decide) ?_
      refine lv_aload_n hx hb (dc d_law_5 27 rfl) rfl (lv_at hl 3 rfl) ?_
      refine lv_iload_n hx hb (dc d_law_5 28 rfl) rfl (lv_at hl 0 rfl) ?_
      refine lv_iconst (v := (4 : Int32)) hx hb (dc d_law_5 29 rfl) (by decide) ?_
      refine lv_iadd hx hb (dc d_law_5 30 rfl) ?_
      refine va_sld hx hb hX hbl hbA hw.2.2 hi4 (dc d_law_5 31 rfl) ?_
      rw [← ev4]
      refine lv_if_eq (tgt := 597) hx hb (dc d_law_5 32 rfl) (by decide) (fun c1 => ?_) (fun c1 => absurd b4 c1)
      refine lv_iconst (v := (0 : Int32)) hx hb (dc d_law_5 35 rfl) (by decide) ?_
      refine x_callR (As := [.int v1, .int v2, .int (1 : Int32), .int (0 : Int32)]) (rest := [.int r1]) C0 hw mb_X12_item mv_X12_item ml_L_81 hq_X12 rfl (k_X12_item 1000000 e2) hl.1 rfl rfl adr_X12 (Nat.le_of_ble_eq_true rfl) (Nat.le_of_ble_eq_true rfl) (Nat.le_of_ble_eq_true rfl) (Nat.le_of_ble_eq_true rfl) (Nat.le_of_ble_eq_true rfl) (dc d_law_5 36 rfl) (fun H locs hw => ?_)
      refine lv_icmp_eq (tgt := 1045) hx hb (dc d_law_5 37 rfl) (by decide) (fun c1 => ?_) (fun c1 => absurd rfl c1)
      exact hK _ _ _ _ ⟨C, P, I', E, sg, set, num, wl, ws, ww, wb, sb, sl, sa, sal, w, hg, il', is', iw', ib', tb, tl, ta, tal, h, r, lo, hi, el, ep, best, od, bent, vb, vl, va, val, so, ti, su, ml, ms, mw, mk, tab, mb, mlo, mhi, mo, mbo, mso, mbs, mbu, fo, fw, bs, bp, bw, kn, gr, kf, cn, tr, wt, rs, rm, fu, fl, rfl, rfl, hC, hW, hT, hH, hI', hG, hS, hE, hKW, hKS⟩ hw
    · skip
      obtain ⟨r1, il', is', iw', ib', I', e1, e2, hI'⟩ := c_item 1000000 I il is iw ib v1 v2 1 1 hI
      refine lv_aload_n hx hb (dc d_law_4 37 rfl) rfl (lv_at hl 2 rfl) ?_
      refine lv_aload_n hx hb (dc d_law_4 38 rfl) rfl (lv_at hl 3 rfl) ?_
      refine lv_iload_n hx hb (dc d_law_4 39 rfl) rfl (lv_at hl 0 rfl) ?_
      refine lv_iconst (v := (1 : Int32)) hx hb (dc d_law_4 40 rfl) (by decide) ?_
      refine lv_iadd hx hb (dc d_law_4 41 rfl) ?_
      refine va_sld hx hb hX hbl hbA hw.2.2 hi1 (dc d_law_4 42 rfl) ?_
      rw [← ev1]
      refine lv_aload_n hx hb (dc d_law_4 43 rfl) rfl (lv_at hl 3 rfl) ?_
      refine lv_iload_n hx hb (dc d_law_4 44 rfl) rfl (lv_at hl 0 rfl) ?_
      refine lv_iconst (v := (2 : Int32)) hx hb (dc d_law_4 45 rfl) (by decide) ?_
      refine lv_iadd hx hb (dc d_law_4 46 rfl) ?_
      refine va_sld hx hb hX hbl hbA hw.2.2 hi2 (dc d_law_4 47 rfl) ?_
      rw [← ev2]
      refine lv_aload_n hx hb (dc d_law_4 48 rfl) rfl (lv_at hl 3 rfl) ?_
      refine lv_iload_n hx hb (dc d_law_4 49 rfl) rfl (lv_at hl 0 rfl) ?_
      refine lv_iconst (v := (3 : Int32)) hx hb (dc d_law_4 50 rfl) (by decide) ?_
      refine lv_iadd hx hb (dc d_law_4 51 rfl) ?_
      refine va_sld hx hb hX hbl hbA hw.2.2 hi3 (dc d_law_4 52 rfl) ?_
      rw [← ev3]
      refine lv_if_eq (tgt := 544) hx hb (dc d_law_4 53 rfl) (by decide) (fun c1 => absurd c1 b3) (fun c1 => ?_)
      refine lv_iconst (v := (1 : Int32)) hx hb (dc d_law_4 54 rfl) (by decide) ?_
      refine lv_goto (tgt := 545) hx hb (dc d_law_4 55 rfl) (by decide) ?_
      refine lv_aload_n hx hb (dc d_law_4 57 rfl) rfl (lv_at hl 3 rfl) ?_
      refine lv_iload_n hx hb (dc d_law_4 58 rfl) rfl (lv_at hl 0 rfl) ?_
      refine lv_iconst (v := (4 : Int32)) hx hb (dc d_law_4 59 rfl) (by decide) ?_
      refine lv_iadd hx hb (dc d_law_5 0 rfl) ?_
      refine va_sld hx hb hX hbl hbA hw.2.2 hi4 (dc d_law_5 1 rfl) ?_
      rw [← ev4]
      refine lv_if_eq (tgt := 557) hx hb (dc d_law_5 2 rfl) (by decide) (fun c1 => absurd c1 b4) (fun c1 => ?_)
      refine lv_iconst (v := (1 : Int32)) hx hb (dc d_law_5 3 rfl) (by decide) ?_
      refine lv_goto (tgt := 558) hx hb (dc d_law_5 4 rfl) (by decide) ?_
      refine x_callL (As := [.int v1, .int v2, .int (1 : Int32), .int (1 : Int32)]) (rest := []) C0 hw mb_X11_item mv_X11_item ml_L_77 hq_X11 rfl (k_X11_item 1000000 e1) hl.1 rfl rfl adr_X11 (Nat.le_of_ble_eq_true rfl) (Nat.le_of_ble_eq_true rfl) (Nat.le_of_ble_eq_true rfl) (Nat.le_of_ble_eq_true rfl) (Nat.le_of_ble_eq_true rfl) (dc d_law_5 6 rfl) (fun H locs hw => ?_)
      refine lv_aload_n hx hb (dc d_law_5 7 rfl) rfl (lv_at hl 1 rfl) ?_
      refine lv_aload_n hx hb (dc d_law_5 8 rfl) rfl (lv_at hl 3 rfl) ?_
      refine lv_iload_n hx hb (dc d_law_5 9 rfl) rfl (lv_at hl 0 rfl) ?_
      refine lv_iconst (v := (1 : Int32)) hx hb (dc d_law_5 10 rfl) (by decide) ?_
      refine lv_iadd hx hb (dc d_law_5 11 rfl) ?_
      refine va_sld hx hb hX hbl hbA hw.2.2 hi1 (dc d_law_5 12 rfl) ?_
      rw [← ev1]
      refine lv_aload_n hx hb (dc d_law_5 13 rfl) rfl (lv_at hl 3 rfl) ?_
      refine lv_iload_n hx hb (dc d_law_5 14 rfl) rfl (lv_at hl 0 rfl) ?_
      refine lv_iconst (v := (2 : Int32)) hx hb (dc d_law_5 15 rfl) (by decide) ?_
      refine lv_iadd hx hb (dc d_law_5 16 rfl) ?_
      refine va_sld hx hb hX hbl hbA hw.2.2 hi2 (dc d_law_5 17 rfl) ?_
      rw [← ev2]
      refine lv_aload_n hx hb (dc d_law_5 18 rfl) rfl (lv_at hl 3 rfl) ?_
      refine lv_iload_n hx hb (dc d_law_5 19 rfl) rfl (lv_at hl 0 rfl) ?_
      refine lv_iconst (v := (3 : Int32)) hx hb (dc d_law_5 20 rfl) (by decide) ?_
      refine lv_iadd hx hb (dc d_law_5 21 rfl) ?_
      refine va_sld hx hb hX hbl hbA hw.2.2 hi3 (dc d_law_5 22 rfl) ?_
      rw [← ev3]
      refine lv_if_eq (tgt := 584) hx hb (dc d_law_5 23 rfl) (by decide) (fun c1 => absurd c1 b3) (fun c1 => ?_)
      refine lv_iconst (v := (1 : Int32)) hx hb (dc d_law_5 24 rfl) (by decide) ?_
      refine lv_goto (tgt := 585) hx hb (dc d_law_5 25 rfl) (by decide) ?_
      refine lv_aload_n hx hb (dc d_law_5 27 rfl) rfl (lv_at hl 3 rfl) ?_
      refine lv_iload_n hx hb (dc d_law_5 28 rfl) rfl (lv_at hl 0 rfl) ?_
      refine lv_iconst (v := (4 : Int32)) hx hb (dc d_law_5 29 rfl) (by decide) ?_
      refine lv_iadd hx hb (dc d_law_5 30 rfl) ?_
      refine va_sld hx hb hX hbl hbA hw.2.2 hi4 (dc d_law_5 31 rfl) ?_
      rw [← ev4]
      refine lv_if_eq (tgt := 597) hx hb (dc d_law_5 32 rfl) (by decide) (fun c1 => absurd c1 b4) (fun c1 => ?_)
      refine lv_iconst (v := (1 : Int32)) hx hb (dc d_law_5 33 rfl) (by decide) ?_
      refine lv_goto (tgt := 598) hx hb (dc d_law_5 34 rfl) (by decide) ?_
      refine x_callR (As := [.int v1, .int v2, .int (1 : Int32), .int (1 : Int32)]) (rest := [.int r1]) C0 hw mb_X12_item mv_X12_item ml_L_81 hq_X12 rfl (k_X12_item 1000000 e2) hl.1 rfl rfl adr_X12 (Nat.le_of_ble_eq_true rfl) (Nat.le_of_ble_eq_true rfl) (Nat.le_of_ble_eq_true rfl) (Nat.le_of_ble_eq_true rfl) (Nat.le_of_ble_eq_true rfl) (dc d_law_5 36 rfl) (fun H locs hw => ?_)
      refine lv_icmp_eq (tgt := 1045) hx hb (dc d_law_5 37 rfl) (by decide) (fun c1 => ?_) (fun c1 => absurd rfl c1)
      exact hK _ _ _ _ ⟨C, P, I', E, sg, set, num, wl, ws, ww, wb, sb, sl, sa, sal, w, hg, il', is', iw', ib', tb, tl, ta, tal, h, r, lo, hi, el, ep, best, od, bent, vb, vl, va, val, so, ti, su, ml, ms, mw, mk, tab, mb, mlo, mhi, mo, mbo, mso, mbs, mbu, fo, fw, bs, bp, bw, kn, gr, kf, cn, tr, wt, rs, rm, fu, fl, rfl, rfl, hC, hW, hT, hH, hI', hG, hS, hE, hKW, hKS⟩ hw
