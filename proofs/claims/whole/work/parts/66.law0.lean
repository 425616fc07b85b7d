/-! Written by wip/gen/gen4.py: the law, case by case. -/
set_option maxHeartbeats 4000000 in
set_option maxRecDepth 100000 in
theorem lc_0 {p : Program} {l : Launch} {e : Env} {s : State} {m : MethodId} {args : Array Value} {below : List Frame} {meth : Method} {c : Code} {H : Heap} {locs : List Loc} {Q : State → Prop} {D : va_G} {cI cC cZ : ClassId} {A : Nat → Prop} {ls : Array Slot} {t u : Nat → Nat} {wx wm : va_W} {b L : Nat} {xs : Nat → Int32} {x3 : Int32} (C0 : Cx p s m args meth c RL code 4 ret D cI cC cZ) (hX : va_X b L xs s s.heap) (hbl : b < s.heap.size) (hbA : ¬ A b) (hin : ∀ k : Nat, k < 5 → vp_in (x3 + nI k) L) (hl : lv_has ls 4 [(3, .int x3), (2, .ref (u 0)), (1, .ref (t 0)), (0, .ref b)]) (hz : StZ A s s.heap) (hK : ∀ (wx' wm' : va_W) (H' : Heap) (locs' : List Loc), Rl cI cC cZ t u wx' wm' → Wd D A s.heap (wx' ++ wm') H' locs' → W p l e room_1 s m args below meth c H' locs' 77 1080 Q (F0 m 1045 ls [])) (hR : Rl cI cC cZ t u wx wm) (hw : Wd D A s.heap (wx ++ wm) H locs) : W p l e room_1 s m args below meth c H locs 77 1080 Q (F0 m 176 ls []) := by
  refine Rl_elim hR ?_
  intro C P I E sg set num wl ws ww wb sb sl sa sal w hg il is iw ib tb tl ta tal h r lo hi el ep best od bent vb vl va val so ti su ml ms mw mk tab mb mlo mhi mo mbo mso mbs mbu fo fw bs bp bw kn gr kf cn tr wt rs rm fu fl ewx ewm hC hW hT hH hI hG hS hE hKW hKS
  subst ewx
  subst ewm
  have hx := C0.1
  have hb := C0.2.1
  have hi1 : vp_in (x3 + (1 : Int32)) L := hin 1 (by omega)
  have hi2 : vp_in (x3 + (2 : Int32)) L := hin 2 (by omega)
  have hi3 : vp_in (x3 + (3 : Int32)) L := hin 3 (by omega)
  have hi4 : vp_in (x3 + (4 : Int32)) L := hin 4 (by omega)
  obtain ⟨v1, ev1⟩ : ∃ z, z = xs (x3 + (1 : Int32)).toNatClampNeg := ⟨_, rfl⟩
  obtain ⟨v2, ev2⟩ : ∃ z, z = xs (x3 + (2 : Int32)).toNatClampNeg := ⟨_, rfl⟩
  obtain ⟨v3, ev3⟩ : ∃ z, z = xs (x3 + (3 : Int32)).toNatClampNeg := ⟨_, rfl⟩
  obtain ⟨v4, ev4⟩ : ∃ z, z = xs (x3 + (4 : Int32)).toNatClampNeg := ⟨_, rfl⟩
  obtain ⟨r1, sg', C', hC', e1, e2⟩ := c_say 1000000 C sg v1 hC
  refine lv_aload_n hx hb (dc d_law_0 22 rfl) rfl (lv_at hl 2 rfl) ?_
  refine lv_aload_n hx hb (dc d_law_0 23 rfl) rfl (lv_at hl 3 rfl) ?_
  refine lv_iload_n hx hb (dc d_law_0 24 rfl) rfl (lv_at hl 0 rfl) ?_
  refine lv_iconst (v := (1 : Int32)) hx hb (dc d_law_0 25 rfl) (by decide) ?_
  refine lv_iadd hx hb (dc d_law_0 26 rfl) ?_
  refine va_sld hx hb hX hbl hbA hw.2.2 hi1 (dc d_law_0 27 rfl) ?_
  rw [← ev1]
  refine x_callL (As := [.int v1]) (rest := []) C0 hw mb_X11_say mv_X11_say ml_L_13 hq_X11 rfl (k_X11_say 1000000 e1) hl.1 rfl rfl adr_X11 (Nat.le_of_ble_eq_true rfl) (Nat.le_of_ble_eq_true rfl) (Nat.le_of_ble_eq_true rfl) (Nat.le_of_ble_eq_true rfl) (Nat.le_of_ble_eq_true rfl) (dc d_law_0 28 rfl) (fun H locs hw => ?_)
  refine lv_aload_n hx hb (dc d_law_0 29 rfl) rfl (lv_at hl 1 rfl) ?_
  refine lv_aload_n hx hb (dc d_law_0 30 rfl) rfl (lv_at hl 3 rfl) ?_
  refine lv_iload_n hx hb (dc d_law_0 31 rfl) rfl (lv_at hl 0 rfl) ?_
  refine lv_iconst (v := (1 : Int32)) hx hb (dc d_law_0 32 rfl) (by decide) ?_
  refine lv_iadd hx hb (dc d_law_0 33 rfl) ?_
  refine va_sld hx hb hX hbl hbA hw.2.2 hi1 (dc d_law_0 34 rfl) ?_
  rw [← ev1]
  refine x_callR (As := [.int v1]) (rest := [.int r1]) C0 hw mb_X12_say mv_X12_say ml_L_17 hq_X12 rfl (k_X12_say 1000000 e2) hl.1 rfl rfl adr_X12 (Nat.le_of_ble_eq_true rfl) (Nat.le_of_ble_eq_true rfl) (Nat.le_of_ble_eq_true rfl) (Nat.le_of_ble_eq_true rfl) (Nat.le_of_ble_eq_true rfl) (dc d_law_0 35 rfl) (fun H locs hw => ?_)
  refine lv_icmp_eq (tgt := 1045) hx hb (dc d_law_0 36 rfl) (by decide) (fun c1 => ?_) (fun c1 => absurd rfl c1)
  exact hK _ _ _ _ ⟨C', P, I, E, sg', set, num, wl, ws, ww, wb, sb, sl, sa, sal, w, hg, il, is, iw, ib, tb, tl, ta, tal, h, r, lo, hi, el, ep, best, od, bent, vb, vl, va, val, so, ti, su, ml, ms, mw, mk, tab, mb, mlo, mhi, mo, mbo, mso, mbs, mbu, fo, fw, bs, bp, bw, kn, gr, kf, cn, tr, wt, rs, rm, fu, fl, rfl, rfl, hC', hW, hT, hH, hI, hG, hS, hE, hKW, hKS⟩ hw
set_option maxHeartbeats 4000000 in
set_option maxRecDepth 100000 in
theorem lc_1 {p : Program} {l : Launch} {e : Env} {s : State} {m : MethodId} {args : Array Value} {below : List Frame} {meth : Method} {c : Code} {H : Heap} {locs : List Loc} {Q : State → Prop} {D : va_G} {cI cC cZ : ClassId} {A : Nat → Prop} {ls : Array Slot} {t u : Nat → Nat} {wx wm : va_W} {b L : Nat} {xs : Nat → Int32} {x3 : Int32} (C0 : Cx p s m args meth c RL code 4 ret D cI cC cZ) (hX : va_X b L xs s s.heap) (hbl : b < s.heap.size) (hbA : ¬ A b) (hin : ∀ k : Nat, k < 5 → vp_in (x3 + nI k) L) (hl : lv_has ls 4 [(3, .int x3), (2, .ref (u 0)), (1, .ref (t 0)), (0, .ref b)]) (hz : StZ A s s.heap) (hK : ∀ (wx' wm' : va_W) (H' : Heap) (locs' : List Loc), Rl cI cC cZ t u wx' wm' → Wd D A s.heap (wx' ++ wm') H' locs' → W p l e room_1 s m args below meth c H' locs' 77 1080 Q (F0 m 1045 ls [])) (hR : Rl cI cC cZ t u wx wm) (hw : Wd D A s.heap (wx ++ wm) H locs) : W p l e room_1 s m args below meth c H locs 77 1080 Q (F0 m 199 ls []) := by
  refine Rl_elim hR ?_
  intro C P I E sg set num wl ws ww wb sb sl sa sal w hg il is iw ib tb tl ta tal h r lo hi el ep best od bent vb vl va val so ti su ml ms mw mk tab mb mlo mhi mo mbo mso mbs mbu fo fw bs bp bw kn gr kf cn tr wt rs rm fu fl ewx ewm hC hW hT hH hI hG hS hE hKW hKS
  subst ewx
  subst ewm
  have hx := C0.1
  have hb := C0.2.1
  have hi1 : vp_in (x3 + (1 : Int32)) L := hin 1 (by omega)
  have hi2 : vp_in (x3 + (2 : Int32)) L := hin 2 (by omega)
  have hi3 : vp_in (x3 + (3 : Int32)) L := hin 3 (by omega)
  have hi4 : vp_in (x3 + (4 : Int32)) L := hin 4 (by omega)
  obtain ⟨v1, ev1⟩ : ∃ z, z = xs (x3 + (1 : Int32)).toNatClampNeg := ⟨_, rfl⟩
  obtain ⟨v2, ev2⟩ : ∃ z, z = xs (x3 + (2 : Int32)).toNatClampNeg := ⟨_, rfl⟩
  obtain ⟨v3, ev3⟩ : ∃ z, z = xs (x3 + (3 : Int32)).toNatClampNeg := ⟨_, rfl⟩
  obtain ⟨v4, ev4⟩ : ∃ z, z = xs (x3 + (4 : Int32)).toNatClampNeg := ⟨_, rfl⟩
  have e1 : f_X11_wipe 1000000 (nI C) = some (nI C, nI 0) := rfl
  have e2 : f_X12_wipe 1000000 (nI C) = some (nI C, nI 0) := rfl
  refine lv_aload_n hx hb (dc d_law_0 39 rfl) rfl (lv_at hl 2 rfl) ?_
  refine x_callL (As := []) (rest := []) C0 hw mb_X11_wipe mv_X11_wipe ml_L_18 hq_X11 rfl (k_X11_wipe 1000000 e1) hl.1 rfl rfl adr_X11 (Nat.le_of_ble_eq_true rfl) (Nat.le_of_ble_eq_true rfl) (Nat.le_of_ble_eq_true rfl) (Nat.le_of_ble_eq_true rfl) (Nat.le_of_ble_eq_true rfl) (dc d_law_0 40 rfl) (fun H locs hw => ?_)
  refine lv_aload_n hx hb (dc d_law_0 41 rfl) rfl (lv_at hl 1 rfl) ?_
  refine x_callR (As := []) (rest := [.int (nI C)]) C0 hw mb_X12_wipe mv_X12_wipe ml_L_22 hq_X12 rfl (k_X12_wipe 1000000 e2) hl.1 rfl rfl adr_X12 (Nat.le_of_ble_eq_true rfl) (Nat.le_of_ble_eq_true rfl) (Nat.le_of_ble_eq_true rfl) (Nat.le_of_ble_eq_true rfl) (Nat.le_of_ble_eq_true rfl) (dc d_law_0 42 rfl) (fun H locs hw => ?_)
  refine lv_icmp_eq (tgt := 1045) hx hb (dc d_law_0 43 rfl) (by decide) (fun c1 => ?_) (fun c1 => absurd rfl c1)
  exact hK _ _ _ _ ⟨0, P, I, E, sg, set, num, wl, ws, ww, wb, sb, sl, sa, sal, w, hg, il, is, iw, ib, tb, tl, ta, tal, h, r, lo, hi, el, ep, best, od, bent, vb, vl, va, val, so, ti, su, ml, ms, mw, mk, tab, mb, mlo, mhi, mo, mbo, mso, mbs, mbu, fo, fw, bs, bp, bw, kn, gr, kf, cn, tr, wt, rs, rm, fu, fl, rfl, rfl, (by omega), hW, hT, hH, hI, hG, hS, hE, hKW, hKS⟩ hw
set_option maxHeartbeats 4000000 in
set_option maxRecDepth 100000 in
theorem lc_2 {p : Program} {l : Launch} {e : Env} {s : State} {m : MethodId} {args : Array Value} {below : List Frame} {meth : Method} {c : Code} {H : Heap} {locs : List Loc} {Q : State → Prop} {D : va_G} {cI cC cZ : ClassId} {A : Nat → Prop} {ls : Array Slot} {t u : Nat → Nat} {wx wm : va_W} {b L : Nat} {xs : Nat → Int32} {x3 : Int32} (C0 : Cx p s m args meth c RL code 4 ret D cI cC cZ) (hX : va_X b L xs s s.heap) (hbl : b < s.heap.size) (hbA : ¬ A b) (hin : ∀ k : Nat, k < 5 → vp_in (x3 + nI k) L) (hl : lv_has ls 4 [(3, .int x3), (2, .ref (u 0)), (1, .ref (t 0)), (0, .ref b)]) (hz : StZ A s s.heap) (hK : ∀ (wx' wm' : va_W) (H' : Heap) (locs' : List Loc), Rl cI cC cZ t u wx' wm' → Wd D A s.heap (wx' ++ wm') H' locs' → W p l e room_1 s m args below meth c H' locs' 77 1080 Q (F0 m 1045 ls [])) (hR : Rl cI cC cZ t u wx wm) (hw : Wd D A s.heap (wx ++ wm) H locs) : W p l e room_1 s m args below meth c H locs 77 1080 Q (F0 m 212 ls []) := by
  refine Rl_elim hR ?_
  intro C P I E sg set num wl ws ww wb sb sl sa sal w hg il is iw ib tb tl ta tal h r lo hi el ep best od bent vb vl va val so ti su ml ms mw mk tab mb mlo mhi mo mbo mso mbs mbu fo fw bs bp bw kn gr kf cn tr wt rs rm fu fl ewx ewm hC hW hT hH hI hG hS hE hKW hKS
  subst ewx
  subst ewm
  have hx := C0.1
  have hb := C0.2.1
  have hi1 : vp_in (x3 + (1 : Int32)) L := hin 1 (by omega)
  have hi2 : vp_in (x3 + (2 : Int32)) L := hin 2 (by omega)
  have hi3 : vp_in (x3 + (3 : Int32)) L := hin 3 (by omega)
  have hi4 : vp_in (x3 + (4 : Int32)) L := hin 4 (by omega)
  obtain ⟨v1, ev1⟩ : ∃ z, z = xs (x3 + (1 : Int32)).toNatClampNeg := ⟨_, rfl⟩
  obtain ⟨v2, ev2⟩ : ∃ z, z = xs (x3 + (2 : Int32)).toNatClampNeg := ⟨_, rfl⟩
  obtain ⟨v3, ev3⟩ : ∃ z, z = xs (x3 + (3 : Int32)).toNatClampNeg := ⟨_, rfl⟩
  obtain ⟨v4, ev4⟩ : ∃ z, z = xs (x3 + (4 : Int32)).toNatClampNeg := ⟨_, rfl⟩
  obtain ⟨r1, e1, e2⟩ := c_fault 1000000 C sg hC (by omega)
  refine lv_aload_n hx hb (dc d_law_0 46 rfl) rfl (lv_at hl 2 rfl) ?_
  refine x_callL (As := []) (rest := []) C0 hw mb_X11_fault mv_X11_fault ml_L_23 hq_X11 rfl (k_X11_fault 1000000 e1) hl.1 rfl rfl adr_X11 (Nat.le_of_ble_eq_true rfl) (Nat.le_of_ble_eq_true rfl) (Nat.le_of_ble_eq_true rfl) (Nat.le_of_ble_eq_true rfl) (Nat.le_of_ble_eq_true rfl) (dc d_law_0 47 rfl) (fun H locs hw => ?_)
  refine lv_aload_n hx hb (dc d_law_0 48 rfl) rfl (lv_at hl 1 rfl) ?_
  refine x_callR (As := []) (rest := [.int r1]) C0 hw mb_X12_fault mv_X12_fault ml_L_26 hq_X12 rfl (k_X12_fault 1000000 e2) hl.1 rfl rfl adr_X12 (Nat.le_of_ble_eq_true rfl) (Nat.le_of_ble_eq_true rfl) (Nat.le_of_ble_eq_true rfl) (Nat.le_of_ble_eq_true rfl) (Nat.le_of_ble_eq_true rfl) (dc d_law_0 49 rfl) (fun H locs hw => ?_)
  refine lv_icmp_eq (tgt := 1045) hx hb (dc d_law_0 50 rfl) (by decide) (fun c1 => ?_) (fun c1 => absurd rfl c1)
  exact hK _ _ _ _ ⟨C, P, I, E, sg, set, num, wl, ws, ww, wb, sb, sl, sa, sal, w, hg, il, is, iw, ib, tb, tl, ta, tal, h, r, lo, hi, el, ep, best, od, bent, vb, vl, va, val, so, ti, su, ml, ms, mw, mk, tab, mb, mlo, mhi, mo, mbo, mso, mbs, mbu, fo, fw, bs, bp, bw, kn, gr, kf, cn, tr, wt, rs, rm, fu, fl, rfl, rfl, hC, hW, hT, hH, hI, hG, hS, hE, hKW, hKS⟩ hw
set_option maxHeartbeats 4000000 in
set_option maxRecDepth 100000 in
theorem lc_3 {p : Program} {l : Launch} {e : Env} {s : State} {m : MethodId} {args : Array Value} {below : List Frame} {meth : Method} {c : Code} {H : Heap} {locs : List Loc} {Q : State → Prop} {D : va_G} {cI cC cZ : ClassId} {A : Nat → Prop} {ls : Array Slot} {t u : Nat → Nat} {wx wm : va_W} {b L : Nat} {xs : Nat → Int32} {x3 : Int32} (C0 : Cx p s m args meth c RL code 4 ret D cI cC cZ) (hX : va_X b L xs s s.heap) (hbl : b < s.heap.size) (hbA : ¬ A b) (hin : ∀ k : Nat, k < 5 → vp_in (x3 + nI k) L) (hl : lv_has ls 4 [(3, .int x3), (2, .ref (u 0)), (1, .ref (t 0)), (0, .ref b)]) (hz : StZ A s s.heap) (hK : ∀ (wx' wm' : va_W) (H' : Heap) (locs' : List Loc), Rl cI cC cZ t u wx' wm' → Wd D A s.heap (wx' ++ wm') H' locs' → W p l e room_1 s m args below meth c H' locs' 77 1080 Q (F0 m 1045 ls [])) (hR : Rl cI cC cZ t u wx wm) (hw : Wd D A s.heap (wx ++ wm) H locs) : W p l e room_1 s m args below meth c H locs 77 1080 Q (F0 m 225 ls []) := by
  refine Rl_elim hR ?_
  intro C P I E sg set num wl ws ww wb sb sl sa sal w hg il is iw ib tb tl ta tal h r lo hi el ep best od bent vb vl va val so ti su ml ms mw mk tab mb mlo mhi mo mbo mso mbs mbu fo fw bs bp bw kn gr kf cn tr wt rs rm fu fl ewx ewm hC hW hT hH hI hG hS hE hKW hKS
  subst ewx
  subst ewm
  have hx := C0.1
  have hb := C0.2.1
  have hi1 : vp_in (x3 + (1 : Int32)) L := hin 1 (by omega)
  have hi2 : vp_in (x3 + (2 : Int32)) L := hin 2 (by omega)
  have hi3 : vp_in (x3 + (3 : Int32)) L := hin 3 (by omega)
  have hi4 : vp_in (x3 + (4 : Int32)) L := hin 4 (by omega)
  obtain ⟨v1, ev1⟩ : ∃ z, z = xs (x3 + (1 : Int32)).toNatClampNeg := ⟨_, rfl⟩
  obtain ⟨v2, ev2⟩ : ∃ z, z = xs (x3 + (2 : Int32)).toNatClampNeg := ⟨_, rfl⟩
  obtain ⟨v3, ev3⟩ : ∃ z, z = xs (x3 + (3 : Int32)).toNatClampNeg := ⟨_, rfl⟩
  obtain ⟨v4, ev4⟩ : ∃ z, z = xs (x3 + (4 : Int32)).toNatClampNeg := ⟨_, rfl⟩
  obtain ⟨r1, C', wl', ws', ww', wb', P', kn', kf', ml', ms', mw', mk', e1, e2, hC', hW', hk⟩ := c_take 1000000 C P sg wl ws ww wb ml ms mw mk kn kf hC (by omega) hW
  refine lv_aload_n hx hb (dc d_law_0 53 rfl) rfl (lv_at hl 2 rfl) ?_
  refine x_callL (As := []) (rest := []) C0 hw mb_X11_take mv_X11_take ml_L_27 hq_X11 rfl (k_X11_take 1000000 e1) hl.1 rfl rfl adr_X11 (Nat.le_of_ble_eq_true rfl) (Nat.le_of_ble_eq_true rfl) (Nat.le_of_ble_eq_true rfl) (Nat.le_of_ble_eq_true rfl) (Nat.le_of_ble_eq_true rfl) (dc d_law_0 54 rfl) (fun H locs hw => ?_)
  refine lv_aload_n hx hb (dc d_law_0 55 rfl) rfl (lv_at hl 1 rfl) ?_
  refine x_callR (As := []) (rest := [.int r1]) C0 hw mb_X12_take mv_X12_take ml_L_30 hq_X12 rfl (k_X12_take 1000000 e2) hl.1 rfl rfl adr_X12 (Nat.le_of_ble_eq_true rfl) (Nat.le_of_ble_eq_true rfl) (Nat.le_of_ble_eq_true rfl) (Nat.le_of_ble_eq_true rfl) (Nat.le_of_ble_eq_true rfl) (dc d_law_0 56 rfl) (fun H locs hw => ?_)
  refine lv_icmp_eq (tgt := 1045) hx hb (dc d_law_0 57 rfl) (by decide) (fun c1 => ?_) (fun c1 => absurd rfl c1)
  exact hK _ _ _ _ ⟨C', P', I, E, sg, set, num, wl', ws', ww', wb', sb, sl, sa, sal, w, hg, il, is, iw, ib, tb, tl, ta, tal, h, r, lo, hi, el, ep, best, od, bent, vb, vl, va, val, so, ti, su, ml', ms', mw', mk', tab, mb, mlo, mhi, mo, mbo, mso, mbs, mbu, fo, fw, bs, bp, bw, kn', gr, kf', cn, tr, wt, rs, rm, fu, fl, rfl, rfl, hC', hW', hT, hH, hI, hG, hS, hE, (KW_take hk hKW), (KS_take hk hKS)⟩ hw
set_option maxHeartbeats 4000000 in
set_option maxRecDepth 100000 in
theorem lc_4 {p : Program} {l : Launch} {e : Env} {s : State} {m : MethodId} {args : Array Value} {below : List Frame} {meth : Method} {c : Code} {H : Heap} {locs : List Loc} {Q : State → Prop} {D : va_G} {cI cC cZ : ClassId} {A : Nat → Prop} {ls : Array Slot} {t u : Nat → Nat} {wx wm : va_W} {b L : Nat} {xs : Nat → Int32} {x3 : Int32} (C0 : Cx p s m args meth c RL code 4 ret D cI cC cZ) (hX : va_X b L xs s s.heap) (hbl : b < s.heap.size) (hbA : ¬ A b) (hin : ∀ k : Nat, k < 5 → vp_in (x3 + nI k) L) (hl : lv_has ls 4 [(3, .int x3), (2, .ref (u 0)), (1, .ref (t 0)), (0, .ref b)]) (hz : StZ A s s.heap) (hK : ∀ (wx' wm' : va_W) (H' : Heap) (locs' : List Loc), Rl cI cC cZ t u wx' wm' → Wd D A s.heap (wx' ++ wm') H' locs' → W p l e room_1 s m args below meth c H' locs' 77 1080 Q (F0 m 1045 ls [])) (hR : Rl cI cC cZ t u wx wm) (hw : Wd D A s.heap (wx ++ wm) H locs) : W p l e room_1 s m args below meth c H locs 77 1080 Q (F0 m 238 ls []) := by
  refine Rl_elim hR ?_
  intro C P I E sg set num wl ws ww wb sb sl sa sal w hg il is iw ib tb tl ta tal h r lo hi el ep best od bent vb vl va val so ti su ml ms mw mk tab mb mlo mhi mo mbo mso mbs mbu fo fw bs bp bw kn gr kf cn tr wt rs rm fu fl ewx ewm hC hW hT hH hI hG hS hE hKW hKS
  subst ewx
  subst ewm
  have hx := C0.1
  have hb := C0.2.1
  have hi1 : vp_in (x3 + (1 : Int32)) L := hin 1 (by omega)
  have hi2 : vp_in (x3 + (2 : Int32)) L := hin 2 (by omega)
  have hi3 : vp_in (x3 + (3 : Int32)) L := hin 3 (by omega)
  have hi4 : vp_in (x3 + (4 : Int32)) L := hin 4 (by omega)
  obtain ⟨v1, ev1⟩ : ∃ z, z = xs (x3 + (1 : Int32)).toNatClampNeg := ⟨_, rfl⟩
  obtain ⟨v2, ev2⟩ : ∃ z, z = xs (x3 + (2 : Int32)).toNatClampNeg := ⟨_, rfl⟩
  obtain ⟨v3, ev3⟩ : ∃ z, z = xs (x3 + (3 : Int32)).toNatClampNeg := ⟨_, rfl⟩
  obtain ⟨v4, ev4⟩ : ∃ z, z = xs (x3 + (4 : Int32)).toNatClampNeg := ⟨_, rfl⟩
  obtain ⟨r1, P', kn', kf', hP', e1, e2, hk⟩ := c_strike 1000000 P kn kf v1 hW.1
  refine lv_aload_n hx hb (dc d_law_1 0 rfl) rfl (lv_at hl 2 rfl) ?_
  refine lv_aload_n hx hb (dc d_law_1 1 rfl) rfl (lv_at hl 3 rfl) ?_
  refine lv_iload_n hx hb (dc d_law_1 2 rfl) rfl (lv_at hl 0 rfl) ?_
  refine lv_iconst (v := (1 : Int32)) hx hb (dc d_law_1 3 rfl) (by decide) ?_
  refine lv_iadd hx hb (dc d_law_1 4 rfl) ?_
  refine va_sld hx hb hX hbl hbA hw.2.2 hi1 (dc d_law_1 5 rfl) ?_
  rw [← ev1]
  refine x_callL (As := [.int v1]) (rest := []) C0 hw mb_X11_strike mv_X11_strike ml_L_31 hq_X11 rfl (k_X11_strike 1000000 e1) hl.1 rfl rfl adr_X11 (Nat.le_of_ble_eq_true rfl) (Nat.le_of_ble_eq_true rfl) (Nat.le_of_ble_eq_true rfl) (Nat.le_of_ble_eq_true rfl) (Nat.le_of_ble_eq_true rfl) (dc d_law_1 6 rfl) (fun H locs hw => ?_)
  refine lv_aload_n hx hb (dc d_law_1 7 rfl) rfl (lv_at hl 1 rfl) ?_
  refine lv_aload_n hx hb (dc d_law_1 8 rfl) rfl (lv_at hl 3 rfl) ?_
  refine lv_iload_n hx hb (dc d_law_1 9 rfl) rfl (lv_at hl 0 rfl) ?_
  refine lv_iconst (v := (1 : Int32)) hx hb (dc d_law_1 10 rfl) (by decide) ?_
  refine lv_iadd hx hb (dc d_law_1 11 rfl) ?_
  refine va_sld hx hb hX hbl hbA hw.2.2 hi1 (dc d_law_1 12 rfl) ?_
  rw [← ev1]
  refine x_callR (As := [.int v1]) (rest := [.int r1]) C0 hw mb_X12_strike mv_X12_strike ml_L_34 hq_X12 rfl (k_X12_strike 1000000 e2) hl.1 rfl rfl adr_X12 (Nat.le_of_ble_eq_true rfl) (Nat.le_of_ble_eq_true rfl) (Nat.le_of_ble_eq_true rfl) (Nat.le_of_ble_eq_true rfl) (Nat.le_of_ble_eq_true rfl) (dc d_law_1 13 rfl) (fun H locs hw => ?_)
  refine lv_icmp_eq (tgt := 1045) hx hb (dc d_law_1 14 rfl) (by decide) (fun c1 => ?_) (fun c1 => absurd rfl c1)
  exact hK _ _ _ _ ⟨C, P', I, E, sg, set, num, wl, ws, ww, wb, sb, sl, sa, sal, w, hg, il, is, iw, ib, tb, tl, ta, tal, h, r, lo, hi, el, ep, best, od, bent, vb, vl, va, val, so, ti, su, ml, ms, mw, mk, tab, mb, mlo, mhi, mo, mbo, mso, mbs, mbu, fo, fw, bs, bp, bw, kn', gr, kf', cn, tr, wt, rs, rm, fu, fl, rfl, rfl, hC, (RWk_le hP' hW), hT, hH, hI, hG, hS, hE, (KW_strike hk hKW), (KS_strike hk hKS)⟩ hw
set_option maxHeartbeats 4000000 in
set_option maxRecDepth 100000 in
theorem lc_5 {p : Program} {l : Launch} {e : Env} {s : State} {m : MethodId} {args : Array Value} {below : List Frame} {meth : Method} {c : Code} {H : Heap} {locs : List Loc} {Q : State → Prop} {D : va_G} {cI cC cZ : ClassId} {A : Nat → Prop} {ls : Array Slot} {t u : Nat → Nat} {wx wm : va_W} {b L : Nat} {xs : Nat → Int32} {x3 : Int32} (C0 : Cx p s m args meth c RL code 4 ret D cI cC cZ) (hX : va_X b L xs s s.heap) (hbl : b < s.heap.size) (hbA : ¬ A b) (hin : ∀ k : Nat, k < 5 → vp_in (x3 + nI k) L) (hl : lv_has ls 4 [(3, .int x3), (2, .ref (u 0)), (1, .ref (t 0)), (0, .ref b)]) (hz : StZ A s s.heap) (hK : ∀ (wx' wm' : va_W) (H' : Heap) (locs' : List Loc), Rl cI cC cZ t u wx' wm' → Wd D A s.heap (wx' ++ wm') H' locs' → W p l e room_1 s m args below meth c H' locs' 77 1080 Q (F0 m 1045 ls [])) (hR : Rl cI cC cZ t u wx wm) (hw : Wd D A s.heap (wx ++ wm) H locs) : W p l e room_1 s m args below meth c H locs 77 1080 Q (F0 m 261 ls []) := by
  refine Rl_elim hR ?_
  intro C P I E sg set num wl ws ww wb sb sl sa sal w hg il is iw ib tb tl ta tal h r lo hi el ep best od bent vb vl va val so ti su ml ms mw mk tab mb mlo mhi mo mbo mso mbs mbu fo fw bs bp bw kn gr kf cn tr wt rs rm fu fl ewx ewm hC hW hT hH hI hG hS hE hKW hKS
  subst ewx
  subst ewm
  have hx := C0.1
  have hb := C0.2.1
  have hi1 : vp_in (x3 + (1 : Int32)) L := hin 1 (by omega)
  have hi2 : vp_in (x3 + (2 : Int32)) L := hin 2 (by omega)
  have hi3 : vp_in (x3 + (3 : Int32)) L := hin 3 (by omega)
  have hi4 : vp_in (x3 + (4 : Int32)) L := hin 4 (by omega)
  obtain ⟨v1, ev1⟩ : ∃ z, z = xs (x3 + (1 : Int32)).toNatClampNeg := ⟨_, rfl⟩
  obtain ⟨v2, ev2⟩ : ∃ z, z = xs (x3 + (2 : Int32)).toNatClampNeg := ⟨_, rfl⟩
  obtain ⟨v3, ev3⟩ : ∃ z, z = xs (x3 + (3 : Int32)).toNatClampNeg := ⟨_, rfl⟩
  obtain ⟨v4, ev4⟩ : ∃ z, z = xs (x3 + (4 : Int32)).toNatClampNeg := ⟨_, rfl⟩
  obtain ⟨r1, sb', sl', e1, e2⟩ := c_pass 1000000 P set num tab wl ws ww wb ml ms mw mk sb sl v1 v2 (by omega) hW hT
  refine lv_aload_n hx hb (dc d_law_1 17 rfl) rfl (lv_at hl 2 rfl) ?_
  refine lv_aload_n hx hb (dc d_law_1 18 rfl) rfl (lv_at hl 3 rfl) ?_
  refine lv_iload_n hx hb (dc d_law_1 19 rfl) rfl (lv_at hl 0 rfl) ?_
  refine lv_iconst (v := (1 : Int32)) hx hb (dc d_law_1 20 rfl) (by decide) ?_
  refine lv_iadd hx hb (dc d_law_1 21 rfl) ?_
  refine va_sld hx hb hX hbl hbA hw.2.2 hi1 (dc d_law_1 22 rfl) ?_
  rw [← ev1]
  refine lv_aload_n hx hb (dc d_law_1 23 rfl) rfl (lv_at hl 3 rfl) ?_
  refine lv_iload_n hx hb (dc d_law_1 24 rfl) rfl (lv_at hl 0 rfl) ?_
  refine lv_iconst (v := (2 : Int32)) hx hb (dc d_law_1 25 rfl) (by decide) ?_
  refine lv_iadd hx hb (dc d_law_1 26 rfl) ?_
  refine va_sld hx hb hX hbl hbA hw.2.2 hi2 (dc d_law_1 27 rfl) ?_
  rw [← ev2]
  refine x_callL (As := [.int v1, .int v2]) (rest := []) C0 hw mb_X11_pass mv_X11_pass ml_L_35 hq_X11 rfl (k_X11_pass 1000000 e1) hl.1 rfl rfl adr_X11 (Nat.le_of_ble_eq_true rfl) (Nat.le_of_ble_eq_true rfl) (Nat.le_of_ble_eq_true rfl) (Nat.le_of_ble_eq_true rfl) (Nat.le_of_ble_eq_true rfl) (dc d_law_1 28 rfl) (fun H locs hw => ?_)
  refine lv_aload_n hx hb (dc d_law_1 29 rfl) rfl (lv_at hl 1 rfl) ?_
  refine lv_aload_n hx hb (dc d_law_1 30 rfl) rfl (lv_at hl 3 rfl) ?_
  refine lv_iload_n hx hb (dc d_law_1 31 rfl) rfl (lv_at hl 0 rfl) ?_
  refine lv_iconst (v := (1 : Int32)) hx hb (dc d_law_1 32 rfl) (by decide) ?_
  refine lv_iadd hx hb (dc d_law_1 33 rfl) ?_
  refine va_sld hx hb hX hbl hbA hw.2.2 hi1 (dc d_law_1 34 rfl) ?_
  rw [← ev1]
  refine lv_aload_n hx hb (dc d_law_1 35 rfl) rfl (lv_at hl 3 rfl) ?_
  refine lv_iload_n hx hb (dc d_law_1 36 rfl) rfl (lv_at hl 0 rfl) ?_
  refine lv_iconst (v := (2 : Int32)) hx hb (dc d_law_1 37 rfl) (by decide) ?_
  refine lv_iadd hx hb (dc d_law_1 38 rfl) ?_
  refine va_sld hx hb hX hbl hbA hw.2.2 hi2 (dc d_law_1 39 rfl) ?_
  rw [← ev2]
  refine x_callR (As := [.int v1, .int v2]) (rest := [.int r1]) C0 hw mb_X12_pass mv_X12_pass ml_L_39 hq_X12 rfl (k_X12_pass 1000000 e2) hl.1 rfl rfl adr_X12 (Nat.le_of_ble_eq_true rfl) (Nat.le_of_ble_eq_true rfl) (Nat.le_of_ble_eq_true rfl) (Nat.le_of_ble_eq_true rfl) (Nat.le_of_ble_eq_true rfl) (dc d_law_1 40 rfl) (fun H locs hw => ?_)
  refine lv_icmp_eq (tgt := 1045) hx hb (dc d_law_1 41 rfl) (by decide) (fun c1 => ?_) (fun c1 => absurd rfl c1)
  exact hK _ _ _ _ ⟨C, P, I, E, sg, set, num, wl, ws, ww, wb, sb', sl', sa, sal, w, hg, il, is, iw, ib, tb, tl, ta, tal, h, r, lo, hi, el, ep, best, od, bent, vb, vl, va, val, so, ti, su, ml, ms, mw, mk, tab, mb, mlo, mhi, mo, mbo, mso, mbs, mbu, fo, fw, bs, bp, bw, kn, gr, kf, cn, tr, wt, rs, rm, fu, fl, rfl, rfl, hC, hW, hT, hH, hI, hG, hS, hE, hKW, hKS⟩ hw
set_option maxHeartbeats 4000000 in
set_option maxRecDepth 100000 in
theorem lc_6 {p : Program} {l : Launch} {e : Env} {s : State} {m : MethodId} {args : Array Value} {below : List Frame} {meth : Method} {c : Code} {H : Heap} {locs : List Loc} {Q : State → Prop} {D : va_G} {cI cC cZ : ClassId} {A : Nat → Prop} {ls : Array Slot} {t u : Nat → Nat} {wx wm : va_W} {b L : Nat} {xs : Nat → Int32} {x3 : Int32} (C0 : Cx p s m args meth c RL code 4 ret D cI cC cZ) (hX : va_X b L xs s s.heap) (hbl : b < s.heap.size) (hbA : ¬ A b) (hin : ∀ k : Nat, k < 5 → vp_in (x3 + nI k) L) (hl : lv_has ls 4 [(3, .int x3), (2, .ref (u 0)), (1, .ref (t 0)), (0, .ref b)]) (hz : StZ A s s.heap) (hK : ∀ (wx' wm' : va_W) (H' : Heap) (locs' : List Loc), Rl cI cC cZ t u wx' wm' → Wd D A s.heap (wx' ++ wm') H' locs' → W p l e room_1 s m args below meth c H' locs' 77 1080 Q (F0 m 1045 ls [])) (hR : Rl cI cC cZ t u wx wm) (hw : Wd D A s.heap (wx ++ wm) H locs) : W p l e room_1 s m args below meth c H locs 77 1080 Q (F0 m 294 ls []) := by
  refine Rl_elim hR ?_
  intro C P I E sg set num wl ws ww wb sb sl sa sal w hg il is iw ib tb tl ta tal h r lo hi el ep best od bent vb vl va val so ti su ml ms mw mk tab mb mlo mhi mo mbo mso mbs mbu fo fw bs bp bw kn gr kf cn tr wt rs rm fu fl ewx ewm hC hW hT hH hI hG hS hE hKW hKS
  subst ewx
  subst ewm
  have hx := C0.1
  have hb := C0.2.1
  have hi1 : vp_in (x3 + (1 : Int32)) L := hin 1 (by omega)
  have hi2 : vp_in (x3 + (2 : Int32)) L := hin 2 (by omega)
  have hi3 : vp_in (x3 + (3 : Int32)) L := hin 3 (by omega)
  have hi4 : vp_in (x3 + (4 : Int32)) L := hin 4 (by omega)
  obtain ⟨v1, ev1⟩ : ∃ z, z = xs (x3 + (1 : Int32)).toNatClampNeg := ⟨_, rfl⟩
  obtain ⟨v2, ev2⟩ : ∃ z, z = xs (x3 + (2 : Int32)).toNatClampNeg := ⟨_, rfl⟩
  obtain ⟨v3, ev3⟩ : ∃ z, z = xs (x3 + (3 : Int32)).toNatClampNeg := ⟨_, rfl⟩
  obtain ⟨v4, ev4⟩ : ∃ z, z = xs (x3 + (4 : Int32)).toNatClampNeg := ⟨_, rfl⟩
  obtain ⟨r1, num', kn', tab', e1, e2, hT', hk⟩ := c_table 1000000 set num tab kn v1 v2 v3 hT
  refine lv_aload_n hx hb (dc d_law_1 44 rfl) rfl (lv_at hl 2 rfl) ?_
  refine lv_aload_n hx hb (dc d_law_1 45 rfl) rfl (lv_at hl 3 rfl) ?_
  refine lv_iload_n hx hb (dc d_law_1 46 rfl) rfl (lv_at hl 0 rfl) ?_
  refine lv_iconst (v := (1 : Int32)) hx hb (dc d_law_1 47 rfl) (by decide) ?_
  refine lv_iadd hx hb (dc d_law_1 48 rfl) ?_
  refine va_sld hx hb hX hbl hbA hw.2.2 hi1 (dc d_law_1 49 rfl) ?_
  rw [← ev1]
  refine lv_aload_n hx hb (dc d_law_1 50 rfl) rfl (lv_at hl 3 rfl) ?_
  refine lv_iload_n hx hb (dc d_law_1 51 rfl) rfl (lv_at hl 0 rfl) ?_
  refine lv_iconst (v := (2 : Int32)) hx hb (dc d_law_1 52 rfl) (by decide) ?_
  refine lv_iadd hx hb (dc d_law_1 53 rfl) ?_
  refine va_sld hx hb hX hbl hbA hw.2.2 hi2 (dc d_law_1 54 rfl) ?_
  rw [← ev2]
  refine lv_aload_n hx hb (dc d_law_1 55 rfl) rfl (lv_at hl 3 rfl) ?_
  refine lv_iload_n hx hb (dc d_law_1 56 rfl) rfl (lv_at hl 0 rfl) ?_
  refine lv_iconst (v := (3 : Int32)) hx hb (dc d_law_1 57 rfl) (by decide) ?_
  refine lv_iadd hx hb (dc d_law_1 58 rfl) ?_
  refine va_sld hx hb hX hbl hbA hw.2.2 hi3 (dc d_law_1 59 rfl) ?_
  rw [← ev3]
  refine x_callL (As := [.int v1, .int v2, .int v3]) (rest := []) C0 hw mb_X11_table mv_X11_table ml_L_40 hq_X11 rfl (k_X11_table 1000000 e1) hl.1 rfl rfl adr_X11 (Nat.le_of_ble_eq_true rfl) (Nat.le_of_ble_eq_true rfl) (Nat.le_of_ble_eq_true rfl) (Nat.le_of_ble_eq_true rfl) (Nat.le_of_ble_eq_true rfl) (dc d_law_2 0 rfl) (fun H locs hw => ?_)
  refine lv_aload_n hx hb (dc d_law_2 1 rfl) rfl (lv_at hl 1 rfl) ?_
  refine lv_aload_n hx hb (dc d_law_2 2 rfl) rfl (lv_at hl 3 rfl) ?_
  refine lv_iload_n hx hb (dc d_law_2 3 rfl) rfl (lv_at hl 0 rfl) ?_
  refine lv_iconst (v := (1 : Int32)) hx hb (dc d_law_2 4 rfl) (by decide) ?_
  refine lv_iadd hx hb (dc d_law_2 5 rfl) ?_
  refine va_sld hx hb hX hbl hbA hw.2.2 hi1 (dc d_law_2 6 rfl) ?_
  rw [← ev1]
  refine lv_aload_n hx hb (dc d_law_2 7 rfl) rfl (lv_at hl 3 rfl) ?_
  refine lv_iload_n hx hb (dc d_law_2 8 rfl) rfl (lv_at hl 0 rfl) ?_
  refine lv_iconst (v := (2 : Int32)) hx hb (dc d_law_2 9 rfl) (by decide) ?_
  refine lv_iadd hx hb (dc d_law_2 10 rfl) ?_
  refine va_sld hx hb hX hbl hbA hw.2.2 hi2 (dc d_law_2 11 rfl) ?_
  rw [← ev2]
  refine lv_aload_n hx hb (dc d_law_2 12 rfl) rfl (lv_at hl 3 rfl) ?_
  refine lv_iload_n hx hb (dc d_law_2 13 rfl) rfl (lv_at hl 0 rfl) ?_
  refine lv_iconst (v := (3 : Int32)) hx hb (dc d_law_2 14 rfl) (by decide) ?_
  refine lv_iadd hx hb (dc d_law_2 15 rfl) ?_
  refine va_sld hx hb hX hbl hbA hw.2.2 hi3 (dc d_law_2 16 rfl) ?_
  rw [← ev3]
  refine x_callR (As := [.int v1, .int v2, .int v3]) (rest := [.int r1]) C0 hw mb_X12_table mv_X12_table ml_L_44 hq_X12 rfl (k_X12_table 1000000 e2) hl.1 rfl rfl adr_X12 (Nat.le_of_ble_eq_true rfl) (Nat.le_of_ble_eq_true rfl) (Nat.le_of_ble_eq_true rfl) (Nat.le_of_ble_eq_true rfl) (Nat.le_of_ble_eq_true rfl) (dc d_law_2 17 rfl) (fun H locs hw => ?_)
  refine lv_icmp_eq (tgt := 1045) hx hb (dc d_law_2 18 rfl) (by decide) (fun c1 => ?_) (fun c1 => absurd rfl c1)
  exact hK _ _ _ _ ⟨C, P, I, E, sg, set, num', wl, ws, ww, wb, sb, sl, sa, sal, w, hg, il, is, iw, ib, tb, tl, ta, tal, h, r, lo, hi, el, ep, best, od, bent, vb, vl, va, val, so, ti, su, ml, ms, mw, mk, tab', mb, mlo, mhi, mo, mbo, mso, mbs, mbu, fo, fw, bs, bp, bw, kn', gr, kf, cn, tr, wt, rs, rm, fu, fl, rfl, rfl, hC, hW, hT', hH, hI, hG, hS, hE, (KW_tab hk hKW), hKS⟩ hw
set_option maxHeartbeats 4000000 in
set_option maxRecDepth 100000 in
theorem lc_7 {p : Program} {l : Launch} {e : Env} {s : State} {m : MethodId} {args : Array Value} {below : List Frame} {meth : Method} {c : Code} {H : Heap} {locs : List Loc} {Q : State → Prop} {D : va_G} {cI cC cZ : ClassId} {A : Nat → Prop} {ls : Array Slot} {t u : Nat → Nat} {wx wm : va_W} {b L : Nat} {xs : Nat → Int32} {x3 : Int32} (C0 : Cx p s m args meth c RL code 4 ret D cI cC cZ) (hX : va_X b L xs s s.heap) (hbl : b < s.heap.size) (hbA : ¬ A b) (hin : ∀ k : Nat, k < 5 → vp_in (x3 + nI k) L) (hl : lv_has ls 4 [(3, .int x3), (2, .ref (u 0)), (1, .ref (t 0)), (0, .ref b)]) (hz : StZ A s s.heap) (hK : ∀ (wx' wm' : va_W) (H' : Heap) (locs' : List Loc), Rl cI cC cZ t u wx' wm' → Wd D A s.heap (wx' ++ wm') H' locs' → W p l e room_1 s m args below meth c H' locs' 77 1080 Q (F0 m 1045 ls [])) (hR : Rl cI cC cZ t u wx wm) (hw : Wd D A s.heap (wx ++ wm) H locs) : W p l e room_1 s m args below meth c H locs 77 1080 Q (F0 m 337 ls []) := by
  refine Rl_elim hR ?_
  intro C P I E sg set num wl ws ww wb sb sl sa sal w hg il is iw ib tb tl ta tal h r lo hi el ep best od bent vb vl va val so ti su ml ms mw mk tab mb mlo mhi mo mbo mso mbs mbu fo fw bs bp bw kn gr kf cn tr wt rs rm fu fl ewx ewm hC hW hT hH hI hG hS hE hKW hKS
  subst ewx
  subst ewm
  have hx := C0.1
  have hb := C0.2.1
  have hi1 : vp_in (x3 + (1 : Int32)) L := hin 1 (by omega)
  have hi2 : vp_in (x3 + (2 : Int32)) L := hin 2 (by omega)
  have hi3 : vp_in (x3 + (3 : Int32)) L := hin 3 (by omega)
  have hi4 : vp_in (x3 + (4 : Int32)) L := hin 4 (by omega)
  obtain ⟨v1, ev1⟩ : ∃ z, z = xs (x3 + (1 : Int32)).toNatClampNeg := ⟨_, rfl⟩
  obtain ⟨v2, ev2⟩ : ∃ z, z = xs (x3 + (2 : Int32)).toNatClampNeg := ⟨_, rfl⟩
  obtain ⟨v3, ev3⟩ : ∃ z, z = xs (x3 + (3 : Int32)).toNatClampNeg := ⟨_, rfl⟩
  obtain ⟨v4, ev4⟩ : ∃ z, z = xs (x3 + (4 : Int32)).toNatClampNeg := ⟨_, rfl⟩
  by_cases hset : setIn v1 v2
  · have e2 := (c_set12 1000000 set v1 v2).1 hset
    refine lv_aload_n hx hb (dc d_law_2 21 rfl) rfl (lv_at hl 2 rfl) ?_
    refine lv_aload_n hx hb (dc d_law_2 22 rfl) rfl (lv_at hl 3 rfl) ?_
    refine lv_iload_n hx hb (dc d_law_2 23 rfl) rfl (lv_at hl 0 rfl) ?_
    refine lv_iconst (v := (1 : Int32)) hx hb (dc d_law_2 24 rfl) (by decide) ?_
    refine lv_iadd hx hb (dc d_law_2 25 rfl) ?_
    refine va_sld hx hb hX hbl hbA hw.2.2 hi1 (dc d_law_2 26 rfl) ?_
    rw [← ev1]
    refine lv_aload_n hx hb (dc d_law_2 27 rfl) rfl (lv_at hl 3 rfl) ?_
    refine lv_iload_n hx hb (dc d_law_2 28 rfl) rfl (lv_at hl 0 rfl) ?_
    refine lv_iconst (v := (2 : Int32)) hx hb (dc d_law_2 29 rfl) (by decide) ?_
    refine lv_iadd hx hb (dc d_law_2 30 rfl) ?_
    refine va_sld hx hb hX hbl hbA hw.2.2 hi2 (dc d_law_2 31 rfl) ?_
    rw [← ev2]
    refine x_callLZ (As := [.int v1, .int v2]) (rest := []) C0 hw hz mb_X11_set mv_X11_set ml_L_45 hq_X11 rfl (k_X11_set_t hset) hl.1 rfl rfl adr_X11 (Nat.le_of_ble_eq_true rfl) (Nat.le_of_ble_eq_true rfl) (Nat.le_of_ble_eq_true rfl) (Nat.le_of_ble_eq_true rfl) (Nat.le_of_ble_eq_true rfl) (dc d_law_2 32 rfl) (fun H locs hw => ?_)
    refine lv_aload_n hx hb (dc d_law_2 33 rfl) rfl (lv_at hl 1 rfl) ?_
    refine lv_aload_n hx hb (dc d_law_2 34 rfl) rfl (lv_at hl 3 rfl) ?_
    refine lv_iload_n hx hb (dc d_law_2 35 rfl) rfl (lv_at hl 0 rfl) ?_
    refine lv_iconst (v := (1 : Int32)) hx hb (dc d_law_2 36 rfl) (by decide) ?_
    refine lv_iadd hx hb (dc d_law_2 37 rfl) ?_
    refine va_sld hx hb hX hbl hbA hw.2.2 hi1 (dc d_law_2 38 rfl) ?_
    rw [← ev1]
    refine lv_aload_n hx hb (dc d_law_2 39 rfl) rfl (lv_at hl 3 rfl) ?_
    refine lv_iload_n hx hb (dc d_law_2 40 rfl) rfl (lv_at hl 0 rfl) ?_
    refine lv_iconst (v := (2 : Int32)) hx hb (dc d_law_2 41 rfl) (by decide) ?_
    refine lv_iadd hx hb (dc d_law_2 42 rfl) ?_
    refine va_sld hx hb hX hbl hbA hw.2.2 hi2 (dc d_law_2 43 rfl) ?_
    rw [← ev2]
    refine x_callR (As := [.int v1, .int v2]) (rest := [.int (set v1.toNatClampNeg)]) C0 hw mb_X12_set mv_X12_set ml_L_48 hq_X12 rfl (k_X12_set 1000000 e2) hl.1 rfl rfl adr_X12 (Nat.le_of_ble_eq_true rfl) (Nat.le_of_ble_eq_true rfl) (Nat.le_of_ble_eq_true rfl) (Nat.le_of_ble_eq_true rfl) (Nat.le_of_ble_eq_true rfl) (dc d_law_2 44 rfl) (fun H locs hw => ?_)
    refine lv_icmp_eq (tgt := 1045) hx hb (dc d_law_2 45 rfl) (by decide) (fun c1 => ?_) (fun c1 => absurd rfl c1)
    exact hK _ _ _ _ ⟨C, P, I, E, sg, upd set v1.toNatClampNeg v2, num, wl, ws, ww, wb, sb, sl, sa, sal, w, hg, il, is, iw, ib, tb, tl, ta, tal, h, r, lo, hi, el, ep, best, od, bent, vb, vl, va, val, so, ti, su, ml, ms, mw, mk, tab, mb, mlo, mhi, mo, mbo, mso, mbs, mbu, fo, fw, bs, bp, bw, 0, gr, kf, cn, tr, wt, rs, rm, fu, fl, rfl, rfl, hC, hW, set_RTb hT hset, hH, hI, hG, hS, hE, Or.inl rfl, hKS⟩ hw
  · have e2 := (c_set12 1000000 set v1 v2).2 hset
    refine lv_aload_n hx hb (dc d_law_2 21 rfl) rfl (lv_at hl 2 rfl) ?_
    refine lv_aload_n hx hb (dc d_law_2 22 rfl) rfl (lv_at hl 3 rfl) ?_
    refine lv_iload_n hx hb (dc d_law_2 23 rfl) rfl (lv_at hl 0 rfl) ?_
    refine lv_iconst (v := (1 : Int32)) hx hb (dc d_law_2 24 rfl) (by decide) ?_
    refine lv_iadd hx hb (dc d_law_2 25 rfl) ?_
    refine va_sld hx hb hX hbl hbA hw.2.2 hi1 (dc d_law_2 26 rfl) ?_
    rw [← ev1]
    refine lv_aload_n hx hb (dc d_law_2 27 rfl) rfl (lv_at hl 3 rfl) ?_
    refine lv_iload_n hx hb (dc d_law_2 28 rfl) rfl (lv_at hl 0 rfl) ?_
    refine lv_iconst (v := (2 : Int32)) hx hb (dc d_law_2 29 rfl) (by decide) ?_
    refine lv_iadd hx hb (dc d_law_2 30 rfl) ?_
    refine va_sld hx hb hX hbl hbA hw.2.2 hi2 (dc d_law_2 31 rfl) ?_
    rw [← ev2]
    refine x_callLZ (As := [.int v1, .int v2]) (rest := []) C0 hw hz mb_X11_set mv_X11_set ml_L_45 hq_X11 rfl (k_X11_set_f hset) hl.1 rfl rfl adr_X11 (Nat.le_of_ble_eq_true rfl) (Nat.le_of_ble_eq_true rfl) (Nat.le_of_ble_eq_true rfl) (Nat.le_of_ble_eq_true rfl) (Nat.le_of_ble_eq_true rfl) (dc d_law_2 32 rfl) (fun H locs hw => ?_)
    refine lv_aload_n hx hb (dc d_law_2 33 rfl) rfl (lv_at hl 1 rfl) ?_
    refine lv_aload_n hx hb (dc d_law_2 34 rfl) rfl (lv_at hl 3 rfl) ?_
    refine lv_iload_n hx hb (dc d_law_2 35 rfl) rfl (lv_at hl 0 rfl) ?_
    refine lv_iconst (v := (1 : Int32)) hx hb (dc d_law_2 36 rfl) (by decide) ?_
    refine lv_iadd hx hb (dc d_law_2 37 rfl) ?_
    refine va_sld hx hb hX hbl hbA hw.2.2 hi1 (dc d_law_2 38 rfl) ?_
    rw [← ev1]
    refine lv_aload_n hx hb (dc d_law_2 39 rfl) rfl (lv_at hl 3 rfl) ?_
    refine lv_iload_n hx hb (dc d_law_2 40 rfl) rfl (lv_at hl 0 rfl) ?_
    refine lv_iconst (v := (2 : Int32)) hx hb (dc d_law_2 41 rfl) (by decide) ?_
    refine lv_iadd hx hb (dc d_law_2 42 rfl) ?_
    refine va_sld hx hb hX hbl hbA hw.2.2 hi2 (dc d_law_2 43 rfl) ?_
    rw [← ev2]
    refine x_callR (As := [.int v1, .int v2]) (rest := [.int (-2)]) C0 hw mb_X12_set mv_X12_set ml_L_48 hq_X12 rfl (k_X12_set 1000000 e2) hl.1 rfl rfl adr_X12 (Nat.le_of_ble_eq_true rfl) (Nat.le_of_ble_eq_true rfl) (Nat.le_of_ble_eq_true rfl) (Nat.le_of_ble_eq_true rfl) (Nat.le_of_ble_eq_true rfl) (dc d_law_2 44 rfl) (fun H locs hw => ?_)
    refine lv_icmp_eq (tgt := 1045) hx hb (dc d_law_2 45 rfl) (by decide) (fun c1 => ?_) (fun c1 => absurd rfl c1)
    exact hK _ _ _ _ ⟨C, P, I, E, sg, set, num, wl, ws, ww, wb, sb, sl, sa, sal, w, hg, il, is, iw, ib, tb, tl, ta, tal, h, r, lo, hi, el, ep, best, od, bent, vb, vl, va, val, so, ti, su, ml, ms, mw, mk, tab, mb, mlo, mhi, mo, mbo, mso, mbs, mbu, fo, fw, bs, bp, bw, kn, gr, kf, cn, tr, wt, rs, rm, fu, fl, rfl, rfl, hC, hW, hT, hH, hI, hG, hS, hE, hKW, hKS⟩ hw
