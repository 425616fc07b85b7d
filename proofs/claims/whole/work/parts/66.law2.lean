/-! Written by wip/gen/gen4.py: the law, case by case. -/
set_option maxHeartbeats 4000000 in
set_option maxRecDepth 100000 in
theorem lc_16 {p : Program} {l : Launch} {e : Env} {s : State} {m : MethodId} {args : Array Value} {below : List Frame} {meth : Method} {c : Code} {H : Heap} {locs : List Loc} {Q : State → Prop} {D : va_G} {cI cC cZ : ClassId} {A : Nat → Prop} {ls : Array Slot} {t u : Nat → Nat} {wx wm : va_W} {b L : Nat} {xs : Nat → Int32} {x3 : Int32} (C0 : Cx p s m args meth c RL code 4 ret D cI cC cZ) (hX : va_X b L xs s s.heap) (hbl : b < s.heap.size) (hbA : ¬ A b) (hin : ∀ k : Nat, k < 5 → vp_in (x3 + nI k) L) (hl : lv_has ls 4 [(3, .int x3), (2, .ref (u 0)), (1, .ref (t 0)), (0, .ref b)]) (hz : StZ A s s.heap) (hK : ∀ (wx' wm' : va_W) (H' : Heap) (locs' : List Loc), Rl cI cC cZ t u wx' wm' → Wd D A s.heap (wx' ++ wm') H' locs' → W p l e room_1 s m args below meth c H' locs' 77 1080 Q (F0 m 1045 ls [])) (hR : Rl cI cC cZ t u wx wm) (hw : Wd D A s.heap (wx ++ wm) H locs) : W p l e room_1 s m args below meth c H locs 77 1080 Q (F0 m 606 ls []) := by
  refine Rl_elim hR ?_
  intro C P I E sg set num wl ws ww wb sb sl sa sal w hg il is iw ib tb tl ta tal h r lo hi el ep best od bent vb vl va val so ti su ml ms mw mk tab mb mlo mhi mo mbo mso mbs mbu fo fw bs bp bw kn gr kf cn tr wt rs rm fu fl ewx ewm hC hW hT hH hI hG hS hE hKW hKS
  subst ewx
  subst ewm
  have hx := C0.1
  have hb := C0.2.1
  have hi1 : vp_in (x3 + (1 : Int32)) L := hin 1 (by omega)
  have hi2 : vp_in (x3 + (2 : Int32)) L := hin 2 (by omega)
  have hi3 : vp_in (x3 + (3 : Int32)) L := hin 3 (by omega)
  have hi4 : vp_in (x3 + (4 : Int32)) L := hin 4 (by omega)
  obtain ⟨v1, ev1⟩ : ∃ z, z = xs (x3 + (1 : Int32)).toNatClampNeg := ⟨_, rfl⟩
  obtain ⟨v2, ev2⟩ : ∃ z, z = xs (x3 + (2 : Int32)).toNatClampNeg := ⟨_, rfl⟩
  obtain ⟨v3, ev3⟩ : ∃ z, z = xs (x3 + (3 : Int32)).toNatClampNeg := ⟨_, rfl⟩
  obtain ⟨v4, ev4⟩ : ∃ z, z = xs (x3 + (4 : Int32)).toNatClampNeg := ⟨_, rfl⟩
  obtain ⟨r1, sb', sl', tb', tl', ta', tal', fo', fw', ml', ms', mw', mk', tr', mb', e1, e2, hW'⟩ := c_chosen 1000000 P I set num tab wl ws ww wb ml ms mw mk sb sl mb w hg il is iw ib tb tl ta tal fo fw tr v1 v2 (by omega) hW hT hH hI
  refine lv_aload_n hx hb (dc d_law_5 40 rfl) rfl (lv_at hl 2 rfl) ?_
  refine lv_aload_n hx hb (dc d_law_5 41 rfl) rfl (lv_at hl 3 rfl) ?_
  refine lv_iload_n hx hb (dc d_law_5 42 rfl) rfl (lv_at hl 0 rfl) ?_
  refine lv_iconst (v := (1 : Int32)) hx hb (dc d_law_5 43 rfl) (by decide) ?_
  refine lv_iadd hx hb (dc d_law_5 44 rfl) ?_
  refine va_sld hx hb hX hbl hbA hw.2.2 hi1 (dc d_law_5 45 rfl) ?_
  rw [← ev1]
  refine lv_aload_n hx hb (dc d_law_5 46 rfl) rfl (lv_at hl 3 rfl) ?_
  refine lv_iload_n hx hb (dc d_law_5 47 rfl) rfl (lv_at hl 0 rfl) ?_
  refine lv_iconst (v := (2 : Int32)) hx hb (dc d_law_5 48 rfl) (by decide) ?_
  refine lv_iadd hx hb (dc d_law_5 49 rfl) ?_
  refine va_sld hx hb hX hbl hbA hw.2.2 hi2 (dc d_law_5 50 rfl) ?_
  rw [← ev2]
  refine x_callL (As := [.int v1, .int v2]) (rest := []) C0 hw mb_X11_chosen mv_X11_chosen ml_L_82 hq_X11 rfl (k_X11_chosen 1000000 e1) hl.1 rfl rfl adr_X11 (Nat.le_of_ble_eq_true rfl) (Nat.le_of_ble_eq_true rfl) (Nat.le_of_ble_eq_true rfl) (Nat.le_of_ble_eq_true rfl) (Nat.le_of_ble_eq_true rfl) (dc d_law_5 51 rfl) (fun H locs hw => ?_)
  refine lv_aload_n hx hb (dc d_law_5 52 rfl) rfl (lv_at hl 1 rfl) ?_
  refine lv_aload_n hx hb (dc d_law_5 53 rfl) rfl (lv_at hl 3 rfl) ?_
  refine lv_iload_n hx hb (dc d_law_5 54 rfl) rfl (lv_at hl 0 rfl) ?_
  refine lv_iconst (v := (1 : Int32)) hx hb (dc d_law_5 55 rfl) (by decide) ?_
  refine lv_iadd hx hb (dc d_law_5 56 rfl) ?_
  refine va_sld hx hb hX hbl hbA hw.2.2 hi1 (dc d_law_5 57 rfl) ?_
  rw [← ev1]
  refine lv_aload_n hx hb (dc d_law_5 58 rfl) rfl (lv_at hl 3 rfl) ?_
  refine lv_iload_n hx hb (dc d_law_5 59 rfl) rfl (lv_at hl 0 rfl) ?_
  refine lv_iconst (v := (2 : Int32)) hx hb (dc d_law_6 0 rfl) (by decide) ?_
  refine lv_iadd hx hb (dc d_law_6 1 rfl) ?_
  refine va_sld hx hb hX hbl hbA hw.2.2 hi2 (dc d_law_6 2 rfl) ?_
  rw [← ev2]
  refine x_callR (As := [.int v1, .int v2]) (rest := [.int r1]) C0 hw mb_X12_chosen mv_X12_chosen ml_L_85 hq_X12 rfl (k_X12_chosen 1000000 e2) hl.1 rfl rfl adr_X12 (Nat.le_of_ble_eq_true rfl) (Nat.le_of_ble_eq_true rfl) (Nat.le_of_ble_eq_true rfl) (Nat.le_of_ble_eq_true rfl) (Nat.le_of_ble_eq_true rfl) (dc d_law_6 3 rfl) (fun H locs hw => ?_)
  refine lv_icmp_eq (tgt := 1045) hx hb (dc d_law_6 4 rfl) (by decide) (fun c1 => ?_) (fun c1 => absurd rfl c1)
  exact hK _ _ _ _ ⟨C, P, I, E, sg, set, num, wl, ws, ww, wb, sb', sl', sa, sal, w, hg, il, is, iw, ib, tb', tl', ta', tal', h, r, lo, hi, el, ep, best, od, bent, vb, vl, va, val, so, ti, su, ml', ms', mw', mk', tab, mb', mlo, mhi, mo, mbo, mso, mbs, mbu, fo', fw', bs, bp, bw, kn, gr, kf, cn, tr', wt, rs, rm, fu, fl, rfl, rfl, hC, hW', hT, hH, hI, hG, hS, hE, hKW, hKS⟩ hw
set_option maxHeartbeats 4000000 in
set_option maxRecDepth 100000 in
theorem lc_17 {p : Program} {l : Launch} {e : Env} {s : State} {m : MethodId} {args : Array Value} {below : List Frame} {meth : Method} {c : Code} {H : Heap} {locs : List Loc} {Q : State → Prop} {D : va_G} {cI cC cZ : ClassId} {A : Nat → Prop} {ls : Array Slot} {t u : Nat → Nat} {wx wm : va_W} {b L : Nat} {xs : Nat → Int32} {x3 : Int32} (C0 : Cx p s m args meth c RL code 4 ret D cI cC cZ) (hX : va_X b L xs s s.heap) (hbl : b < s.heap.size) (hbA : ¬ A b) (hin : ∀ k : Nat, k < 5 → vp_in (x3 + nI k) L) (hl : lv_has ls 4 [(3, .int x3), (2, .ref (u 0)), (1, .ref (t 0)), (0, .ref b)]) (hz : StZ A s s.heap) (hK : ∀ (wx' wm' : va_W) (H' : Heap) (locs' : List Loc), Rl cI cC cZ t u wx' wm' → Wd D A s.heap (wx' ++ wm') H' locs' → W p l e room_1 s m args below meth c H' locs' 77 1080 Q (F0 m 1045 ls [])) (hR : Rl cI cC cZ t u wx wm) (hw : Wd D A s.heap (wx ++ wm) H locs) : W p l e room_1 s m args below meth c H locs 77 1080 Q (F0 m 639 ls []) := by
  refine Rl_elim hR ?_
  intro C P I E sg set num wl ws ww wb sb sl sa sal w hg il is iw ib tb tl ta tal h r lo hi el ep best od bent vb vl va val so ti su ml ms mw mk tab mb mlo mhi mo mbo mso mbs mbu fo fw bs bp bw kn gr kf cn tr wt rs rm fu fl ewx ewm hC hW hT hH hI hG hS hE hKW hKS
  subst ewx
  subst ewm
  have hx := C0.1
  have hb := C0.2.1
  have hi1 : vp_in (x3 + (1 : Int32)) L := hin 1 (by omega)
  have hi2 : vp_in (x3 + (2 : Int32)) L := hin 2 (by omega)
  have hi3 : vp_in (x3 + (3 : Int32)) L := hin 3 (by omega)
  have hi4 : vp_in (x3 + (4 : Int32)) L := hin 4 (by omega)
  obtain ⟨v1, ev1⟩ : ∃ z, z = xs (x3 + (1 : Int32)).toNatClampNeg := ⟨_, rfl⟩
  obtain ⟨v2, ev2⟩ : ∃ z, z = xs (x3 + (2 : Int32)).toNatClampNeg := ⟨_, rfl⟩
  obtain ⟨v3, ev3⟩ : ∃ z, z = xs (x3 + (3 : Int32)).toNatClampNeg := ⟨_, rfl⟩
  obtain ⟨v4, ev4⟩ : ∃ z, z = xs (x3 + (4 : Int32)).toNatClampNeg := ⟨_, rfl⟩
  obtain ⟨r1, sb', sl', sa', sal', tb', tl', ta', tal', fo', fw', ml', ms', mw', mk', tr', mb', wt', e1, e2, hW'⟩ := c_next 1000000 P I set num tab wl ws ww wb ml ms mw mk sb sl sa sal mb w hg il is iw ib tb tl ta tal fo fw tr wt v1 (by omega) hW hT hH hI
  refine lv_aload_n hx hb (dc d_law_6 7 rfl) rfl (lv_at hl 2 rfl) ?_
  refine lv_aload_n hx hb (dc d_law_6 8 rfl) rfl (lv_at hl 3 rfl) ?_
  refine lv_iload_n hx hb (dc d_law_6 9 rfl) rfl (lv_at hl 0 rfl) ?_
  refine lv_iconst (v := (1 : Int32)) hx hb (dc d_law_6 10 rfl) (by decide) ?_
  refine lv_iadd hx hb (dc d_law_6 11 rfl) ?_
  refine va_sld hx hb hX hbl hbA hw.2.2 hi1 (dc d_law_6 12 rfl) ?_
  rw [← ev1]
  refine x_callL (As := [.int v1]) (rest := []) C0 hw mb_X11_next mv_X11_next ml_L_86 hq_X11 rfl (k_X11_next 1000000 e1) hl.1 rfl rfl adr_X11 (Nat.le_of_ble_eq_true rfl) (Nat.le_of_ble_eq_true rfl) (Nat.le_of_ble_eq_true rfl) (Nat.le_of_ble_eq_true rfl) (Nat.le_of_ble_eq_true rfl) (dc d_law_6 13 rfl) (fun H locs hw => ?_)
  refine lv_aload_n hx hb (dc d_law_6 14 rfl) rfl (lv_at hl 1 rfl) ?_
  refine lv_aload_n hx hb (dc d_law_6 15 rfl) rfl (lv_at hl 3 rfl) ?_
  refine lv_iload_n hx hb (dc d_law_6 16 rfl) rfl (lv_at hl 0 rfl) ?_
  refine lv_iconst (v := (1 : Int32)) hx hb (dc d_law_6 17 rfl) (by decide) ?_
  refine lv_iadd hx hb (dc d_law_6 18 rfl) ?_
  refine va_sld hx hb hX hbl hbA hw.2.2 hi1 (dc d_law_6 19 rfl) ?_
  rw [← ev1]
  refine x_callR (As := [.int v1]) (rest := [.int r1]) C0 hw mb_X12_next mv_X12_next ml_L_89 hq_X12 rfl (k_X12_next 1000000 e2) hl.1 rfl rfl adr_X12 (Nat.le_of_ble_eq_true rfl) (Nat.le_of_ble_eq_true rfl) (Nat.le_of_ble_eq_true rfl) (Nat.le_of_ble_eq_true rfl) (Nat.le_of_ble_eq_true rfl) (dc d_law_6 20 rfl) (fun H locs hw => ?_)
  refine lv_icmp_eq (tgt := 1045) hx hb (dc d_law_6 21 rfl) (by decide) (fun c1 => ?_) (fun c1 => absurd rfl c1)
  exact hK _ _ _ _ ⟨C, P, I, E, sg, set, num, wl, ws, ww, wb, sb', sl', sa', sal', w, hg, il, is, iw, ib, tb', tl', ta', tal', h, r, lo, hi, el, ep, best, od, bent, vb, vl, va, val, so, ti, su, ml', ms', mw', mk', tab, mb', mlo, mhi, mo, mbo, mso, mbs, mbu, fo', fw', bs, bp, bw, kn, gr, kf, cn, tr', wt', rs, rm, fu, fl, rfl, rfl, hC, hW', hT, hH, hI, hG, hS, hE, hKW, hKS⟩ hw
set_option maxHeartbeats 4000000 in
set_option maxRecDepth 100000 in
theorem lc_18 {p : Program} {l : Launch} {e : Env} {s : State} {m : MethodId} {args : Array Value} {below : List Frame} {meth : Method} {c : Code} {H : Heap} {locs : List Loc} {Q : State → Prop} {D : va_G} {cI cC cZ : ClassId} {A : Nat → Prop} {ls : Array Slot} {t u : Nat → Nat} {wx wm : va_W} {b L : Nat} {xs : Nat → Int32} {x3 : Int32} (C0 : Cx p s m args meth c RL code 4 ret D cI cC cZ) (hX : va_X b L xs s s.heap) (hbl : b < s.heap.size) (hbA : ¬ A b) (hin : ∀ k : Nat, k < 5 → vp_in (x3 + nI k) L) (hl : lv_has ls 4 [(3, .int x3), (2, .ref (u 0)), (1, .ref (t 0)), (0, .ref b)]) (hz : StZ A s s.heap) (hK : ∀ (wx' wm' : va_W) (H' : Heap) (locs' : List Loc), Rl cI cC cZ t u wx' wm' → Wd D A s.heap (wx' ++ wm') H' locs' → W p l e room_1 s m args below meth c H' locs' 77 1080 Q (F0 m 1045 ls [])) (hR : Rl cI cC cZ t u wx wm) (hw : Wd D A s.heap (wx ++ wm) H locs) : W p l e room_1 s m args below meth c H locs 77 1080 Q (F0 m 662 ls []) := by
  refine Rl_elim hR ?_
  intro C P I E sg set num wl ws ww wb sb sl sa sal w hg il is iw ib tb tl ta tal h r lo hi el ep best od bent vb vl va val so ti su ml ms mw mk tab mb mlo mhi mo mbo mso mbs mbu fo fw bs bp bw kn gr kf cn tr wt rs rm fu fl ewx ewm hC hW hT hH hI hG hS hE hKW hKS
  subst ewx
  subst ewm
  have hx := C0.1
  have hb := C0.2.1
  have hi1 : vp_in (x3 + (1 : Int32)) L := hin 1 (by omega)
  have hi2 : vp_in (x3 + (2 : Int32)) L := hin 2 (by omega)
  have hi3 : vp_in (x3 + (3 : Int32)) L := hin 3 (by omega)
  have hi4 : vp_in (x3 + (4 : Int32)) L := hin 4 (by omega)
  obtain ⟨v1, ev1⟩ : ∃ z, z = xs (x3 + (1 : Int32)).toNatClampNeg := ⟨_, rfl⟩
  obtain ⟨v2, ev2⟩ : ∃ z, z = xs (x3 + (2 : Int32)).toNatClampNeg := ⟨_, rfl⟩
  obtain ⟨v3, ev3⟩ : ∃ z, z = xs (x3 + (3 : Int32)).toNatClampNeg := ⟨_, rfl⟩
  obtain ⟨v4, ev4⟩ : ∃ z, z = xs (x3 + (4 : Int32)).toNatClampNeg := ⟨_, rfl⟩
  obtain ⟨r1, sb', sl', sa', sal', tb', tl', ta', tal', fo', fw', ml', ms', mw', mk', tr', mb', wt', e1, e2, hW'⟩ := c_steps 1000000 P I set num tab wl ws ww wb ml ms mw mk sb sl sa sal mb w hg il is iw ib tb tl ta tal fo fw tr wt v1 (by omega) hW hT hH hI
  refine lv_aload_n hx hb (dc d_law_6 24 rfl) rfl (lv_at hl 2 rfl) ?_
  refine lv_aload_n hx hb (dc d_law_6 25 rfl) rfl (lv_at hl 3 rfl) ?_
  refine lv_iload_n hx hb (dc d_law_6 26 rfl) rfl (lv_at hl 0 rfl) ?_
  refine lv_iconst (v := (1 : Int32)) hx hb (dc d_law_6 27 rfl) (by decide) ?_
  refine lv_iadd hx hb (dc d_law_6 28 rfl) ?_
  refine va_sld hx hb hX hbl hbA hw.2.2 hi1 (dc d_law_6 29 rfl) ?_
  rw [← ev1]
  refine x_callL (As := [.int v1]) (rest := []) C0 hw mb_X11_steps mv_X11_steps ml_L_90 hq_X11 rfl (k_X11_steps 1000000 e1) hl.1 rfl rfl adr_X11 (Nat.le_of_ble_eq_true rfl) (Nat.le_of_ble_eq_true rfl) (Nat.le_of_ble_eq_true rfl) (Nat.le_of_ble_eq_true rfl) (Nat.le_of_ble_eq_true rfl) (dc d_law_6 30 rfl) (fun H locs hw => ?_)
  refine lv_aload_n hx hb (dc d_law_6 31 rfl) rfl (lv_at hl 1 rfl) ?_
  refine lv_aload_n hx hb (dc d_law_6 32 rfl) rfl (lv_at hl 3 rfl) ?_
  refine lv_iload_n hx hb (dc d_law_6 33 rfl) rfl (lv_at hl 0 rfl) ?_
  refine lv_iconst (v := (1 : Int32)) hx hb (dc d_law_6 34 rfl) (by decide) ?_
  refine lv_iadd hx hb (dc d_law_6 35 rfl) ?_
  refine va_sld hx hb hX hbl hbA hw.2.2 hi1 (dc d_law_6 36 rfl) ?_
  rw [← ev1]
  refine x_callR (As := [.int v1]) (rest := [.int r1]) C0 hw mb_X12_steps mv_X12_steps ml_L_93 hq_X12 rfl (k_X12_steps 1000000 e2) hl.1 rfl rfl adr_X12 (Nat.le_of_ble_eq_true rfl) (Nat.le_of_ble_eq_true rfl) (Nat.le_of_ble_eq_true rfl) (Nat.le_of_ble_eq_true rfl) (Nat.le_of_ble_eq_true rfl) (dc d_law_6 37 rfl) (fun H locs hw => ?_)
  refine lv_icmp_eq (tgt := 1045) hx hb (dc d_law_6 38 rfl) (by decide) (fun c1 => ?_) (fun c1 => absurd rfl c1)
  exact hK _ _ _ _ ⟨C, P, I, E, sg, set, num, wl, ws, ww, wb, sb', sl', sa', sal', w, hg, il, is, iw, ib, tb', tl', ta', tal', h, r, lo, hi, el, ep, best, od, bent, vb, vl, va, val, so, ti, su, ml', ms', mw', mk', tab, mb', mlo, mhi, mo, mbo, mso, mbs, mbu, fo', fw', bs, bp, bw, kn, gr, kf, cn, tr', wt', rs, rm, fu, fl, rfl, rfl, hC, hW', hT, hH, hI, hG, hS, hE, hKW, hKS⟩ hw
set_option maxHeartbeats 4000000 in
set_option maxRecDepth 100000 in
theorem lc_19 {p : Program} {l : Launch} {e : Env} {s : State} {m : MethodId} {args : Array Value} {below : List Frame} {meth : Method} {c : Code} {H : Heap} {locs : List Loc} {Q : State → Prop} {D : va_G} {cI cC cZ : ClassId} {A : Nat → Prop} {ls : Array Slot} {t u : Nat → Nat} {wx wm : va_W} {b L : Nat} {xs : Nat → Int32} {x3 : Int32} (C0 : Cx p s m args meth c RL code 4 ret D cI cC cZ) (hX : va_X b L xs s s.heap) (hbl : b < s.heap.size) (hbA : ¬ A b) (hin : ∀ k : Nat, k < 5 → vp_in (x3 + nI k) L) (hl : lv_has ls 4 [(3, .int x3), (2, .ref (u 0)), (1, .ref (t 0)), (0, .ref b)]) (hz : StZ A s s.heap) (hK : ∀ (wx' wm' : va_W) (H' : Heap) (locs' : List Loc), Rl cI cC cZ t u wx' wm' → Wd D A s.heap (wx' ++ wm') H' locs' → W p l e room_1 s m args below meth c H' locs' 77 1080 Q (F0 m 1045 ls [])) (hR : Rl cI cC cZ t u wx wm) (hw : Wd D A s.heap (wx ++ wm) H locs) : W p l e room_1 s m args below meth c H locs 77 1080 Q (F0 m 685 ls []) := by
  refine Rl_elim hR ?_
  intro C P I E sg set num wl ws ww wb sb sl sa sal w hg il is iw ib tb tl ta tal h r lo hi el ep best od bent vb vl va val so ti su ml ms mw mk tab mb mlo mhi mo mbo mso mbs mbu fo fw bs bp bw kn gr kf cn tr wt rs rm fu fl ewx ewm hC hW hT hH hI hG hS hE hKW hKS
  subst ewx
  subst ewm
  have hx := C0.1
  have hb := C0.2.1
  have hi1 : vp_in (x3 + (1 : Int32)) L := hin 1 (by omega)
  have hi2 : vp_in (x3 + (2 : Int32)) L := hin 2 (by omega)
  have hi3 : vp_in (x3 + (3 : Int32)) L := hin 3 (by omega)
  have hi4 : vp_in (x3 + (4 : Int32)) L := hin 4 (by omega)
  obtain ⟨v1, ev1⟩ : ∃ z, z = xs (x3 + (1 : Int32)).toNatClampNeg := ⟨_, rfl⟩
  obtain ⟨v2, ev2⟩ : ∃ z, z = xs (x3 + (2 : Int32)).toNatClampNeg := ⟨_, rfl⟩
  obtain ⟨v3, ev3⟩ : ∃ z, z = xs (x3 + (3 : Int32)).toNatClampNeg := ⟨_, rfl⟩
  obtain ⟨v4, ev4⟩ : ∃ z, z = xs (x3 + (4 : Int32)).toNatClampNeg := ⟨_, rfl⟩
  obtain ⟨r1, h', r', e1, e2, hG'⟩ := c_read 1000000 h r v1 v2 hG
  refine lv_aload_n hx hb (dc d_law_6 41 rfl) rfl (lv_at hl 2 rfl) ?_
  refine lv_aload_n hx hb (dc d_law_6 42 rfl) rfl (lv_at hl 3 rfl) ?_
  refine lv_iload_n hx hb (dc d_law_6 43 rfl) rfl (lv_at hl 0 rfl) ?_
  refine lv_iconst (v := (1 : Int32)) hx hb (dc d_law_6 44 rfl) (by decide) ?_
  refine lv_iadd hx hb (dc d_law_6 45 rfl) ?_
  refine va_sld hx hb hX hbl hbA hw.2.2 hi1 (dc d_law_6 46 rfl) ?_
  rw [← ev1]
  refine lv_aload_n hx hb (dc d_law_6 47 rfl) rfl (lv_at hl 3 rfl) ?_
  refine lv_iload_n hx hb (dc d_law_6 48 rfl) rfl (lv_at hl 0 rfl) ?_
  refine lv_iconst (v := (2 : Int32)) hx hb (dc d_law_6 49 rfl) (by decide) ?_
  refine lv_iadd hx hb (dc d_law_6 50 rfl) ?_
  refine va_sld hx hb hX hbl hbA hw.2.2 hi2 (dc d_law_6 51 rfl) ?_
  rw [← ev2]
  refine x_callL (As := [.int v1, .int v2]) (rest := []) C0 hw mb_X11_read mv_X11_read ml_L_94 hq_X11 rfl (k_X11_read 1000000 e1) hl.1 rfl rfl adr_X11 (Nat.le_of_ble_eq_true rfl) (Nat.le_of_ble_eq_true rfl) (Nat.le_of_ble_eq_true rfl) (Nat.le_of_ble_eq_true rfl) (Nat.le_of_ble_eq_true rfl) (dc d_law_6 52 rfl) (fun H locs hw => ?_)
  refine lv_aload_n hx hb (dc d_law_6 53 rfl) rfl (lv_at hl 1 rfl) ?_
  refine lv_aload_n hx hb (dc d_law_6 54 rfl) rfl (lv_at hl 3 rfl) ?_
  refine lv_iload_n hx hb (dc d_law_6 55 rfl) rfl (lv_at hl 0 rfl) ?_
  refine lv_iconst (v := (1 : Int32)) hx hb (dc d_law_6 56 rfl) (by decide) ?_
  refine lv_iadd hx hb (dc d_law_6 57 rfl) ?_
  refine va_sld hx hb hX hbl hbA hw.2.2 hi1 (dc d_law_6 58 rfl) ?_
  rw [← ev1]
  refine lv_aload_n hx hb (dc d_law_6 59 rfl) rfl (lv_at hl 3 rfl) ?_
  refine lv_iload_n hx hb (dc d_law_7 0 rfl) rfl (lv_at hl 0 rfl) ?_
  refine lv_iconst (v := (2 : Int32)) hx hb (dc d_law_7 1 rfl) (by decide) ?_
  refine lv_iadd hx hb (dc d_law_7 2 rfl) ?_
  refine va_sld hx hb hX hbl hbA hw.2.2 hi2 (dc d_law_7 3 rfl) ?_
  rw [← ev2]
  refine x_callR (As := [.int v1, .int v2]) (rest := [.int r1]) C0 hw mb_X12_read mv_X12_read ml_L_97 hq_X12 rfl (k_X12_read 1000000 e2) hl.1 rfl rfl adr_X12 (Nat.le_of_ble_eq_true rfl) (Nat.le_of_ble_eq_true rfl) (Nat.le_of_ble_eq_true rfl) (Nat.le_of_ble_eq_true rfl) (Nat.le_of_ble_eq_true rfl) (dc d_law_7 4 rfl) (fun H locs hw => ?_)
  refine lv_icmp_eq (tgt := 1045) hx hb (dc d_law_7 5 rfl) (by decide) (fun c1 => ?_) (fun c1 => absurd rfl c1)
  exact hK _ _ _ _ ⟨C, P, I, E, sg, set, num, wl, ws, ww, wb, sb, sl, sa, sal, w, hg, il, is, iw, ib, tb, tl, ta, tal, h', r', lo, hi, el, ep, best, od, bent, vb, vl, va, val, so, ti, su, ml, ms, mw, mk, tab, mb, mlo, mhi, mo, mbo, mso, mbs, mbu, fo, fw, bs, bp, bw, kn, gr, kf, cn, tr, wt, rs, rm, fu, fl, rfl, rfl, hC, hW, hT, hH, hI, hG', hS, hE, hKW, hKS⟩ hw
set_option maxHeartbeats 4000000 in
set_option maxRecDepth 100000 in
theorem lc_20 {p : Program} {l : Launch} {e : Env} {s : State} {m : MethodId} {args : Array Value} {below : List Frame} {meth : Method} {c : Code} {H : Heap} {locs : List Loc} {Q : State → Prop} {D : va_G} {cI cC cZ : ClassId} {A : Nat → Prop} {ls : Array Slot} {t u : Nat → Nat} {wx wm : va_W} {b L : Nat} {xs : Nat → Int32} {x3 : Int32} (C0 : Cx p s m args meth c RL code 4 ret D cI cC cZ) (hX : va_X b L xs s s.heap) (hbl : b < s.heap.size) (hbA : ¬ A b) (hin : ∀ k : Nat, k < 5 → vp_in (x3 + nI k) L) (hl : lv_has ls 4 [(3, .int x3), (2, .ref (u 0)), (1, .ref (t 0)), (0, .ref b)]) (hz : StZ A s s.heap) (hK : ∀ (wx' wm' : va_W) (H' : Heap) (locs' : List Loc), Rl cI cC cZ t u wx' wm' → Wd D A s.heap (wx' ++ wm') H' locs' → W p l e room_1 s m args below meth c H' locs' 77 1080 Q (F0 m 1045 ls [])) (hR : Rl cI cC cZ t u wx wm) (hw : Wd D A s.heap (wx ++ wm) H locs) : W p l e room_1 s m args below meth c H locs 77 1080 Q (F0 m 718 ls []) := by
  refine Rl_elim hR ?_
  intro C P I E sg set num wl ws ww wb sb sl sa sal w hg il is iw ib tb tl ta tal h r lo hi el ep best od bent vb vl va val so ti su ml ms mw mk tab mb mlo mhi mo mbo mso mbs mbu fo fw bs bp bw kn gr kf cn tr wt rs rm fu fl ewx ewm hC hW hT hH hI hG hS hE hKW hKS
  subst ewx
  subst ewm
  have hx := C0.1
  have hb := C0.2.1
  have hi1 : vp_in (x3 + (1 : Int32)) L := hin 1 (by omega)
  have hi2 : vp_in (x3 + (2 : Int32)) L := hin 2 (by omega)
  have hi3 : vp_in (x3 + (3 : Int32)) L := hin 3 (by omega)
  have hi4 : vp_in (x3 + (4 : Int32)) L := hin 4 (by omega)
  obtain ⟨v1, ev1⟩ : ∃ z, z = xs (x3 + (1 : Int32)).toNatClampNeg := ⟨_, rfl⟩
  obtain ⟨v2, ev2⟩ : ∃ z, z = xs (x3 + (2 : Int32)).toNatClampNeg := ⟨_, rfl⟩
  obtain ⟨v3, ev3⟩ : ∃ z, z = xs (x3 + (3 : Int32)).toNatClampNeg := ⟨_, rfl⟩
  obtain ⟨v4, ev4⟩ : ∃ z, z = xs (x3 + (4 : Int32)).toNatClampNeg := ⟨_, rfl⟩
  obtain ⟨r1, r', e1, e2, hG'⟩ := c_forget 1000000 h r v1 hG
  refine lv_aload_n hx hb (dc d_law_7 8 rfl) rfl (lv_at hl 2 rfl) ?_
  refine lv_aload_n hx hb (dc d_law_7 9 rfl) rfl (lv_at hl 3 rfl) ?_
  refine lv_iload_n hx hb (dc d_law_7 10 rfl) rfl (lv_at hl 0 rfl) ?_
  refine lv_iconst (v := (1 : Int32)) hx hb (dc d_law_7 11 rfl) (by decide) ?_
  refine lv_iadd hx hb (dc d_law_7 12 rfl) ?_
  refine va_sld hx hb hX hbl hbA hw.2.2 hi1 (dc d_law_7 13 rfl) ?_
  rw [← ev1]
  refine x_callL (As := [.int v1]) (rest := []) C0 hw mb_X11_forget mv_X11_forget ml_L_98 hq_X11 rfl (k_X11_forget 1000000 e1) hl.1 rfl rfl adr_X11 (Nat.le_of_ble_eq_true rfl) (Nat.le_of_ble_eq_true rfl) (Nat.le_of_ble_eq_true rfl) (Nat.le_of_ble_eq_true rfl) (Nat.le_of_ble_eq_true rfl) (dc d_law_7 14 rfl) (fun H locs hw => ?_)
  refine lv_aload_n hx hb (dc d_law_7 15 rfl) rfl (lv_at hl 1 rfl) ?_
  refine lv_aload_n hx hb (dc d_law_7 16 rfl) rfl (lv_at hl 3 rfl) ?_
  refine lv_iload_n hx hb (dc d_law_7 17 rfl) rfl (lv_at hl 0 rfl) ?_
  refine lv_iconst (v := (1 : Int32)) hx hb (dc d_law_7 18 rfl) (by decide) ?_
  refine lv_iadd hx hb (dc d_law_7 19 rfl) ?_
  refine va_sld hx hb hX hbl hbA hw.2.2 hi1 (dc d_law_7 20 rfl) ?_
  rw [← ev1]
  refine x_callR (As := [.int v1]) (rest := [.int r1]) C0 hw mb_X12_forget mv_X12_forget ml_L_101 hq_X12 rfl (k_X12_forget 1000000 e2) hl.1 rfl rfl adr_X12 (Nat.le_of_ble_eq_true rfl) (Nat.le_of_ble_eq_true rfl) (Nat.le_of_ble_eq_true rfl) (Nat.le_of_ble_eq_true rfl) (Nat.le_of_ble_eq_true rfl) (dc d_law_7 21 rfl) (fun H locs hw => ?_)
  refine lv_icmp_eq (tgt := 1045) hx hb (dc d_law_7 22 rfl) (by decide) (fun c1 => ?_) (fun c1 => absurd rfl c1)
  exact hK _ _ _ _ ⟨C, P, I, E, sg, set, num, wl, ws, ww, wb, sb, sl, sa, sal, w, hg, il, is, iw, ib, tb, tl, ta, tal, h, r', lo, hi, el, ep, best, od, bent, vb, vl, va, val, so, ti, su, ml, ms, mw, mk, tab, mb, mlo, mhi, mo, mbo, mso, mbs, mbu, fo, fw, bs, bp, bw, kn, gr, kf, cn, tr, wt, rs, rm, fu, fl, rfl, rfl, hC, hW, hT, hH, hI, hG', hS, hE, hKW, hKS⟩ hw
set_option maxHeartbeats 4000000 in
set_option maxRecDepth 100000 in
theorem lc_21 {p : Program} {l : Launch} {e : Env} {s : State} {m : MethodId} {args : Array Value} {below : List Frame} {meth : Method} {c : Code} {H : Heap} {locs : List Loc} {Q : State → Prop} {D : va_G} {cI cC cZ : ClassId} {A : Nat → Prop} {ls : Array Slot} {t u : Nat → Nat} {wx wm : va_W} {b L : Nat} {xs : Nat → Int32} {x3 : Int32} (C0 : Cx p s m args meth c RL code 4 ret D cI cC cZ) (hX : va_X b L xs s s.heap) (hbl : b < s.heap.size) (hbA : ¬ A b) (hin : ∀ k : Nat, k < 5 → vp_in (x3 + nI k) L) (hl : lv_has ls 4 [(3, .int x3), (2, .ref (u 0)), (1, .ref (t 0)), (0, .ref b)]) (hz : StZ A s s.heap) (hK : ∀ (wx' wm' : va_W) (H' : Heap) (locs' : List Loc), Rl cI cC cZ t u wx' wm' → Wd D A s.heap (wx' ++ wm') H' locs' → W p l e room_1 s m args below meth c H' locs' 77 1080 Q (F0 m 1045 ls [])) (hR : Rl cI cC cZ t u wx wm) (hw : Wd D A s.heap (wx ++ wm) H locs) : W p l e room_1 s m args below meth c H locs 77 1080 Q (F0 m 741 ls []) := by
  refine Rl_elim hR ?_
  intro C P I E sg set num wl ws ww wb sb sl sa sal w hg il is iw ib tb tl ta tal h r lo hi el ep best od bent vb vl va val so ti su ml ms mw mk tab mb mlo mhi mo mbo mso mbs mbu fo fw bs bp bw kn gr kf cn tr wt rs rm fu fl ewx ewm hC hW hT hH hI hG hS hE hKW hKS
  subst ewx
  subst ewm
  have hx := C0.1
  have hb := C0.2.1
  have hi1 : vp_in (x3 + (1 : Int32)) L := hin 1 (by omega)
  have hi2 : vp_in (x3 + (2 : Int32)) L := hin 2 (by omega)
  have hi3 : vp_in (x3 + (3 : Int32)) L := hin 3 (by omega)
  have hi4 : vp_in (x3 + (4 : Int32)) L := hin 4 (by omega)
  obtain ⟨v1, ev1⟩ : ∃ z, z = xs (x3 + (1 : Int32)).toNatClampNeg := ⟨_, rfl⟩
  obtain ⟨v2, ev2⟩ : ∃ z, z = xs (x3 + (2 : Int32)).toNatClampNeg := ⟨_, rfl⟩
  obtain ⟨v3, ev3⟩ : ∃ z, z = xs (x3 + (3 : Int32)).toNatClampNeg := ⟨_, rfl⟩
  obtain ⟨v4, ev4⟩ : ∃ z, z = xs (x3 + (4 : Int32)).toNatClampNeg := ⟨_, rfl⟩
  obtain ⟨r1, e1, e2⟩ := c_flat 1000000 h r v1
  refine lv_aload_n hx hb (dc d_law_7 25 rfl) rfl (lv_at hl 2 rfl) ?_
  refine lv_aload_n hx hb (dc d_law_7 26 rfl) rfl (lv_at hl 3 rfl) ?_
  refine lv_iload_n hx hb (dc d_law_7 27 rfl) rfl (lv_at hl 0 rfl) ?_
  refine lv_iconst (v := (1 : Int32)) hx hb (dc d_law_7 28 rfl) (by decide) ?_
  refine lv_iadd hx hb (dc d_law_7 29 rfl) ?_
  refine va_sld hx hb hX hbl hbA hw.2.2 hi1 (dc d_law_7 30 rfl) ?_
  rw [← ev1]
  refine x_callL (As := [.int v1]) (rest := []) C0 hw mb_X11_flat mv_X11_flat ml_L_102 hq_X11 rfl (k_X11_flat 1000000 e1) hl.1 rfl rfl adr_X11 (Nat.le_of_ble_eq_true rfl) (Nat.le_of_ble_eq_true rfl) (Nat.le_of_ble_eq_true rfl) (Nat.le_of_ble_eq_true rfl) (Nat.le_of_ble_eq_true rfl) (dc d_law_7 31 rfl) (fun H locs hw => ?_)
  refine lv_aload_n hx hb (dc d_law_7 32 rfl) rfl (lv_at hl 1 rfl) ?_
  refine lv_aload_n hx hb (dc d_law_7 33 rfl) rfl (lv_at hl 3 rfl) ?_
  refine lv_iload_n hx hb (dc d_law_7 34 rfl) rfl (lv_at hl 0 rfl) ?_
  refine lv_iconst (v := (1 : Int32)) hx hb (dc d_law_7 35 rfl) (by decide) ?_
  refine lv_iadd hx hb (dc d_law_7 36 rfl) ?_
  refine va_sld hx hb hX hbl hbA hw.2.2 hi1 (dc d_law_7 37 rfl) ?_
  rw [← ev1]
  refine x_callR (As := [.int v1]) (rest := [.int r1]) C0 hw mb_X12_flat mv_X12_flat ml_L_105 hq_X12 rfl (k_X12_flat 1000000 e2) hl.1 rfl rfl adr_X12 (Nat.le_of_ble_eq_true rfl) (Nat.le_of_ble_eq_true rfl) (Nat.le_of_ble_eq_true rfl) (Nat.le_of_ble_eq_true rfl) (Nat.le_of_ble_eq_true rfl) (dc d_law_7 38 rfl) (fun H locs hw => ?_)
  refine lv_icmp_eq (tgt := 1045) hx hb (dc d_law_7 39 rfl) (by decide) (fun c1 => ?_) (fun c1 => absurd rfl c1)
  exact hK _ _ _ _ ⟨C, P, I, E, sg, set, num, wl, ws, ww, wb, sb, sl, sa, sal, w, hg, il, is, iw, ib, tb, tl, ta, tal, h, r, lo, hi, el, ep, best, od, bent, vb, vl, va, val, so, ti, su, ml, ms, mw, mk, tab, mb, mlo, mhi, mo, mbo, mso, mbs, mbu, fo, fw, bs, bp, bw, kn, gr, kf, cn, tr, wt, rs, rm, fu, fl, rfl, rfl, hC, hW, hT, hH, hI, hG, hS, hE, hKW, hKS⟩ hw
set_option maxHeartbeats 4000000 in
set_option maxRecDepth 100000 in
theorem lc_22 {p : Program} {l : Launch} {e : Env} {s : State} {m : MethodId} {args : Array Value} {below : List Frame} {meth : Method} {c : Code} {H : Heap} {locs : List Loc} {Q : State → Prop} {D : va_G} {cI cC cZ : ClassId} {A : Nat → Prop} {ls : Array Slot} {t u : Nat → Nat} {wx wm : va_W} {b L : Nat} {xs : Nat → Int32} {x3 : Int32} (C0 : Cx p s m args meth c RL code 4 ret D cI cC cZ) (hX : va_X b L xs s s.heap) (hbl : b < s.heap.size) (hbA : ¬ A b) (hin : ∀ k : Nat, k < 5 → vp_in (x3 + nI k) L) (hl : lv_has ls 4 [(3, .int x3), (2, .ref (u 0)), (1, .ref (t 0)), (0, .ref b)]) (hz : StZ A s s.heap) (hK : ∀ (wx' wm' : va_W) (H' : Heap) (locs' : List Loc), Rl cI cC cZ t u wx' wm' → Wd D A s.heap (wx' ++ wm') H' locs' → W p l e room_1 s m args below meth c H' locs' 77 1080 Q (F0 m 1045 ls [])) (hR : Rl cI cC cZ t u wx wm) (hw : Wd D A s.heap (wx ++ wm) H locs) : W p l e room_1 s m args below meth c H locs 77 1080 Q (F0 m 764 ls []) := by
  refine Rl_elim hR ?_
  intro C P I E sg set num wl ws ww wb sb sl sa sal w hg il is iw ib tb tl ta tal h r lo hi el ep best od bent vb vl va val so ti su ml ms mw mk tab mb mlo mhi mo mbo mso mbs mbu fo fw bs bp bw kn gr kf cn tr wt rs rm fu fl ewx ewm hC hW hT hH hI hG hS hE hKW hKS
  subst ewx
  subst ewm
  have hx := C0.1
  have hb := C0.2.1
  have hi1 : vp_in (x3 + (1 : Int32)) L := hin 1 (by omega)
  have hi2 : vp_in (x3 + (2 : Int32)) L := hin 2 (by omega)
  have hi3 : vp_in (x3 + (3 : Int32)) L := hin 3 (by omega)
  have hi4 : vp_in (x3 + (4 : Int32)) L := hin 4 (by omega)
  obtain ⟨v1, ev1⟩ : ∃ z, z = xs (x3 + (1 : Int32)).toNatClampNeg := ⟨_, rfl⟩
  obtain ⟨v2, ev2⟩ : ∃ z, z = xs (x3 + (2 : Int32)).toNatClampNeg := ⟨_, rfl⟩
  obtain ⟨v3, ev3⟩ : ∃ z, z = xs (x3 + (3 : Int32)).toNatClampNeg := ⟨_, rfl⟩
  obtain ⟨v4, ev4⟩ : ∃ z, z = xs (x3 + (4 : Int32)).toNatClampNeg := ⟨_, rfl⟩
  obtain ⟨r1, sb', sl', sa', sal', mb', e1, e2⟩ := c_odd 1000000 P set num tab wl ws ww wb ml ms mw mk sb sl sa sal mb h r v1 (by omega) hW hT
  refine lv_aload_n hx hb (dc d_law_7 42 rfl) rfl (lv_at hl 2 rfl) ?_
  refine lv_aload_n hx hb (dc d_law_7 43 rfl) rfl (lv_at hl 3 rfl) ?_
  refine lv_iload_n hx hb (dc d_law_7 44 rfl) rfl (lv_at hl 0 rfl) ?_
  refine lv_iconst (v := (1 : Int32)) hx hb (dc d_law_7 45 rfl) (by decide) ?_
  refine lv_iadd hx hb (dc d_law_7 46 rfl) ?_
  refine va_sld hx hb hX hbl hbA hw.2.2 hi1 (dc d_law_7 47 rfl) ?_
  rw [← ev1]
  refine x_callL (As := [.int v1]) (rest := []) C0 hw mb_X11_odd mv_X11_odd ml_L_106 hq_X11 rfl (k_X11_odd 1000000 e1) hl.1 rfl rfl adr_X11 (Nat.le_of_ble_eq_true rfl) (Nat.le_of_ble_eq_true rfl) (Nat.le_of_ble_eq_true rfl) (Nat.le_of_ble_eq_true rfl) (Nat.le_of_ble_eq_true rfl) (dc d_law_7 48 rfl) (fun H locs hw => ?_)
  refine lv_aload_n hx hb (dc d_law_7 49 rfl) rfl (lv_at hl 1 rfl) ?_
  refine lv_aload_n hx hb (dc d_law_7 50 rfl) rfl (lv_at hl 3 rfl) ?_
  refine lv_iload_n hx hb (dc d_law_7 51 rfl) rfl (lv_at hl 0 rfl) ?_
  refine lv_iconst (v := (1 : Int32)) hx hb (dc d_law_7 52 rfl) (by decide) ?_
  refine lv_iadd hx hb (dc d_law_7 53 rfl) ?_
  refine va_sld hx hb hX hbl hbA hw.2.2 hi1 (dc d_law_7 54 rfl) ?_
  rw [← ev1]
  refine x_callR (As := [.int v1]) (rest := [.int r1]) C0 hw mb_X12_odd mv_X12_odd ml_L_109 hq_X12 rfl (k_X12_odd 1000000 e2) hl.1 rfl rfl adr_X12 (Nat.le_of_ble_eq_true rfl) (Nat.le_of_ble_eq_true rfl) (Nat.le_of_ble_eq_true rfl) (Nat.le_of_ble_eq_true rfl) (Nat.le_of_ble_eq_true rfl) (dc d_law_7 55 rfl) (fun H locs hw => ?_)
  refine lv_icmp_eq (tgt := 1045) hx hb (dc d_law_7 56 rfl) (by decide) (fun c1 => ?_) (fun c1 => absurd rfl c1)
  exact hK _ _ _ _ ⟨C, P, I, E, sg, set, num, wl, ws, ww, wb, sb', sl', sa', sal', w, hg, il, is, iw, ib, tb, tl, ta, tal, h, r, lo, hi, el, ep, best, od, bent, vb, vl, va, val, so, ti, su, ml, ms, mw, mk, tab, mb', mlo, mhi, mo, mbo, mso, mbs, mbu, fo, fw, bs, bp, bw, kn, gr, kf, cn, tr, wt, rs, rm, fu, fl, rfl, rfl, hC, hW, hT, hH, hI, hG, hS, hE, hKW, hKS⟩ hw
set_option maxHeartbeats 4000000 in
set_option maxRecDepth 100000 in
theorem lc_23 {p : Program} {l : Launch} {e : Env} {s : State} {m : MethodId} {args : Array Value} {below : List Frame} {meth : Method} {c : Code} {H : Heap} {locs : List Loc} {Q : State → Prop} {D : va_G} {cI cC cZ : ClassId} {A : Nat → Prop} {ls : Array Slot} {t u : Nat → Nat} {wx wm : va_W} {b L : Nat} {xs : Nat → Int32} {x3 : Int32} (C0 : Cx p s m args meth c RL code 4 ret D cI cC cZ) (hX : va_X b L xs s s.heap) (hbl : b < s.heap.size) (hbA : ¬ A b) (hin : ∀ k : Nat, k < 5 → vp_in (x3 + nI k) L) (hl : lv_has ls 4 [(3, .int x3), (2, .ref (u 0)), (1, .ref (t 0)), (0, .ref b)]) (hz : StZ A s s.heap) (hK : ∀ (wx' wm' : va_W) (H' : Heap) (locs' : List Loc), Rl cI cC cZ t u wx' wm' → Wd D A s.heap (wx' ++ wm') H' locs' → W p l e room_1 s m args below meth c H' locs' 77 1080 Q (F0 m 1045 ls [])) (hR : Rl cI cC cZ t u wx wm) (hw : Wd D A s.heap (wx ++ wm) H locs) : W p l e room_1 s m args below meth c H locs 77 1080 Q (F0 m 787 ls []) := by
  refine Rl_elim hR ?_
  intro C P I E sg set num wl ws ww wb sb sl sa sal w hg il is iw ib tb tl ta tal h r lo hi el ep best od bent vb vl va val so ti su ml ms mw mk tab mb mlo mhi mo mbo mso mbs mbu fo fw bs bp bw kn gr kf cn tr wt rs rm fu fl ewx ewm hC hW hT hH hI hG hS hE hKW hKS
  subst ewx
  subst ewm
  have hx := C0.1
  have hb := C0.2.1
  have hi1 : vp_in (x3 + (1 : Int32)) L := hin 1 (by omega)
  have hi2 : vp_in (x3 + (2 : Int32)) L := hin 2 (by omega)
  have hi3 : vp_in (x3 + (3 : Int32)) L := hin 3 (by omega)
  have hi4 : vp_in (x3 + (4 : Int32)) L := hin 4 (by omega)
  obtain ⟨v1, ev1⟩ : ∃ z, z = xs (x3 + (1 : Int32)).toNatClampNeg := ⟨_, rfl⟩
  obtain ⟨v2, ev2⟩ : ∃ z, z = xs (x3 + (2 : Int32)).toNatClampNeg := ⟨_, rfl⟩
  obtain ⟨v3, ev3⟩ : ∃ z, z = xs (x3 + (3 : Int32)).toNatClampNeg := ⟨_, rfl⟩
  obtain ⟨v4, ev4⟩ : ∃ z, z = xs (x3 + (4 : Int32)).toNatClampNeg := ⟨_, rfl⟩
  obtain ⟨r1, bs', bp', fu', fl', rs', rm', e1, e2⟩ := c_bendRead 1000000 h r bs bp rs rm v1 v2 fu fl (by omega) hG
  refine lv_aload_n hx hb (dc d_law_7 59 rfl) rfl (lv_at hl 2 rfl) ?_
  refine lv_aload_n hx hb (dc d_law_8 0 rfl) rfl (lv_at hl 3 rfl) ?_
  refine lv_iload_n hx hb (dc d_law_8 1 rfl) rfl (lv_at hl 0 rfl) ?_
  refine lv_iconst (v := (1 : Int32)) hx hb (dc d_law_8 2 rfl) (by decide) ?_
  refine lv_iadd hx hb (dc d_law_8 3 rfl) ?_
  refine va_sld hx hb hX hbl hbA hw.2.2 hi1 (dc d_law_8 4 rfl) ?_
  rw [← ev1]
  refine lv_aload_n hx hb (dc d_law_8 5 rfl) rfl (lv_at hl 3 rfl) ?_
  refine lv_iload_n hx hb (dc d_law_8 6 rfl) rfl (lv_at hl 0 rfl) ?_
  refine lv_iconst (v := (2 : Int32)) hx hb (dc d_law_8 7 rfl) (by decide) ?_
  refine lv_iadd hx hb (dc d_law_8 8 rfl) ?_
  refine va_sld hx hb hX hbl hbA hw.2.2 hi2 (dc d_law_8 9 rfl) ?_
  rw [← ev2]
  refine x_callL (As := [.int v1, .int v2]) (rest := []) C0 hw mb_X11_bendRead mv_X11_bendRead ml_L_110 hq_X11 rfl (k_X11_bendRead 1000000 e1) hl.1 rfl rfl adr_X11 (Nat.le_of_ble_eq_true rfl) (Nat.le_of_ble_eq_true rfl) (Nat.le_of_ble_eq_true rfl) (Nat.le_of_ble_eq_true rfl) (Nat.le_of_ble_eq_true rfl) (dc d_law_8 10 rfl) (fun H locs hw => ?_)
  refine lv_aload_n hx hb (dc d_law_8 11 rfl) rfl (lv_at hl 1 rfl) ?_
  refine lv_aload_n hx hb (dc d_law_8 12 rfl) rfl (lv_at hl 3 rfl) ?_
  refine lv_iload_n hx hb (dc d_law_8 13 rfl) rfl (lv_at hl 0 rfl) ?_
  refine lv_iconst (v := (1 : Int32)) hx hb (dc d_law_8 14 rfl) (by decide) ?_
  refine lv_iadd hx hb (dc d_law_8 15 rfl) ?_
  refine va_sld hx hb hX hbl hbA hw.2.2 hi1 (dc d_law_8 16 rfl) ?_
  rw [← ev1]
  refine lv_aload_n hx hb (dc d_law_8 17 rfl) rfl (lv_at hl 3 rfl) ?_
  refine lv_iload_n hx hb (dc d_law_8 18 rfl) rfl (lv_at hl 0 rfl) ?_
  refine lv_iconst (v := (2 : Int32)) hx hb (dc d_law_8 19 rfl) (by decide) ?_
  refine lv_iadd hx hb (dc d_law_8 20 rfl) ?_
  refine va_sld hx hb hX hbl hbA hw.2.2 hi2 (dc d_law_8 21 rfl) ?_
  rw [← ev2]
  refine x_callR (As := [.int v1, .int v2]) (rest := [.int r1]) C0 hw mb_X12_bendRead mv_X12_bendRead ml_L_113 hq_X12 rfl (k_X12_bendRead 1000000 e2) hl.1 rfl rfl adr_X12 (Nat.le_of_ble_eq_true rfl) (Nat.le_of_ble_eq_true rfl) (Nat.le_of_ble_eq_true rfl) (Nat.le_of_ble_eq_true rfl) (Nat.le_of_ble_eq_true rfl) (dc d_law_8 22 rfl) (fun H locs hw => ?_)
  refine lv_icmp_eq (tgt := 1045) hx hb (dc d_law_8 23 rfl) (by decide) (fun c1 => ?_) (fun c1 => absurd rfl c1)
  exact hK _ _ _ _ ⟨C, P, I, E, sg, set, num, wl, ws, ww, wb, sb, sl, sa, sal, w, hg, il, is, iw, ib, tb, tl, ta, tal, h, r, lo, hi, el, ep, best, od, bent, vb, vl, va, val, so, ti, su, ml, ms, mw, mk, tab, mb, mlo, mhi, mo, mbo, mso, mbs, mbu, fo, fw, bs', bp', bw, kn, gr, kf, cn, tr, wt, rs', rm', fu', fl', rfl, rfl, hC, hW, hT, hH, hI, hG, hS, hE, hKW, hKS⟩ hw
