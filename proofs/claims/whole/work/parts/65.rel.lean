/-! Written by wip/gen/gen4.py: the relation, and calls of the law. -/
theorem KW_take {kn kn' kf kf' : Int32} {P P' E : Nat} {set tab w wl ws ww wb wl' ws' ww' wb' el ep best : Nat → Int32} {bw : Int32} (h : (kn' = 0 ∧ kf' = 0) ∨ (P' = P ∧ (wl' = wl ∧ ws' = ws ∧ ww' = ww ∧ wb' = wb) ∧ kn' = kn ∧ kf' = kf)) (hK : KW kn P E set tab w wl ws ww wb el ep best bw) : KW kn' P' E set tab w wl' ws' ww' wb' el ep best bw := by
  rcases h with h | ⟨rfl, ⟨rfl, rfl, rfl, rfl⟩, rfl, rfl⟩
  · exact Or.inl h.1
  · exact hK
theorem KS_take {kn kn' kf kf' : Int32} {P P' : Nat} {wl ws ww wb wl' ws' ww' wb' so : Nat → Int32} {gr : Int32} (h : (kn' = 0 ∧ kf' = 0) ∨ (P' = P ∧ (wl' = wl ∧ ws' = ws ∧ ww' = ww ∧ wb' = wb) ∧ kn' = kn ∧ kf' = kf)) (hK : KS kf P ws ww so gr) : KS kf' P' ws' ww' so gr := by
  rcases h with h | ⟨rfl, ⟨rfl, rfl, rfl, rfl⟩, rfl, rfl⟩
  · exact Or.inl h.2
  · exact hK
theorem RWk_le {P P' : Nat} {wl ws ww wb ml ms mw mk : Nat → Int32} (h : P' ≤ P) (hW : RWk P wl ws ww wb ml ms mw mk) : RWk P' wl ws ww wb ml ms mw mk := ⟨Nat.le_trans h hW.1, hW.2.1.le h, fun i hi => hW.2.2 i (Nat.lt_of_lt_of_le hi h)⟩
theorem KW_strike {kn kn' kf kf' : Int32} {P P' E : Nat} {set tab w wl ws ww wb el ep best : Nat → Int32} {bw : Int32} (h : (kn' = 0 ∧ kf' = 0) ∨ (P' = P ∧ kn' = kn ∧ kf' = kf)) (hK : KW kn P E set tab w wl ws ww wb el ep best bw) : KW kn' P' E set tab w wl ws ww wb el ep best bw := by
  rcases h with h | ⟨rfl, rfl, rfl⟩
  · exact Or.inl h.1
  · exact hK
theorem KS_strike {kn kn' kf kf' : Int32} {P P' : Nat} {ws ww so : Nat → Int32} {gr : Int32} (h : (kn' = 0 ∧ kf' = 0) ∨ (P' = P ∧ kn' = kn ∧ kf' = kf)) (hK : KS kf P ws ww so gr) : KS kf' P' ws ww so gr := by
  rcases h with h | ⟨rfl, rfl, rfl⟩
  · exact Or.inl h.2
  · exact hK
theorem KW_tab {kn kn' : Int32} {P E : Nat} {set tab tab' w wl ws ww wb el ep best : Nat → Int32} {bw : Int32} (h : kn' = 0 ∨ (kn' = kn ∧ tab' = tab)) (hK : KW kn P E set tab w wl ws ww wb el ep best bw) : KW kn' P E set tab' w wl ws ww wb el ep best bw := by
  rcases h with h | ⟨rfl, rfl⟩
  · exact Or.inl h
  · exact hK
theorem KW_wish {kn kn' : Int32} {P E : Nat} {set tab w w' wl ws ww wb el ep best : Nat → Int32} {bw : Int32} (h : kn' = 0 ∨ (kn' = kn ∧ w' = w)) (hK : KW kn P E set tab w wl ws ww wb el ep best bw) : KW kn' P E set tab w' wl ws ww wb el ep best bw := by
  rcases h with h | ⟨rfl, rfl⟩
  · exact Or.inl h
  · exact hK
theorem KW_weld {kn kn' : Int32} {P E E' : Nat} {set tab w wl ws ww wb el ep el' ep' best : Nat → Int32} {bw : Int32} (h : kn' = 0 ∨ (kn' = kn ∧ E' = E ∧ el' = el ∧ ep' = ep)) (hK : KW kn P E set tab w wl ws ww wb el ep best bw) : KW kn' P E' set tab w wl ws ww wb el' ep' best bw := by
  rcases h with h | ⟨rfl, rfl, rfl, rfl⟩
  · exact Or.inl h
  · exact hK
/-- two worlds side by side: what comes of one of them -/
theorem Wd_repl {D : va_G} {A : Nat → Prop} {ws ws' : va_W} {H1 : Heap} (hD : va_D A ws) (hadr : ws'.map Prod.fst = ws.map Prod.fst) (hP : va_P D vwCl ws' H1) : va_P D vwCl ws' H1 ∧ va_D A ws' := by
  have same : ∀ (k : Nat) (q : Nat × va_E), ws'[k]? = some q → ∃ q', ws[k]? = some q' ∧ q'.1 = q.1 := by
    intro k q hq
    have h1 : (ws'.map Prod.fst)[k]? = some q.1 := by rw [List.getElem?_map, hq]; rfl
    rw [hadr, List.getElem?_map] at h1
    cases hi : ws[k]? with
    | none => rw [hi] at h1; cases h1
    | some i => rw [hi] at h1; exact ⟨i, rfl, Option.some.inj h1⟩
  refine ⟨hP, fun i j x y hx hy hxy => ?_, fun k q hq => ?_⟩
  · obtain ⟨x', h1, h2⟩ := same i x hx
    obtain ⟨y', h3, h4⟩ := same j y hy
    exact hD.1 i j x' y' h1 h3 (by rw [h2, h4, hxy])
  · obtain ⟨q', h1, h2⟩ := same k q hq
    rw [← h2]
    exact hD.2 k q' h1
theorem P_app {D : va_G} {w v : va_W} {H : Heap} : va_P D vwCl (w ++ v) H ↔ va_P D vwCl w H ∧ va_P D vwCl v H := by
  refine ⟨fun h => ⟨fun k q hq => h k q ?_, fun k q hq => h (w.length + k) q ?_⟩, fun h k q hq => ?_⟩
  · rw [List.getElem?_append_left (List.getElem?_eq_some_iff.mp hq).1]
    exact hq
  · rw [List.getElem?_append_right (Nat.le_add_right _ _), Nat.add_sub_cancel_left]
    exact hq
  · by_cases hk : k < w.length
    · rw [List.getElem?_append_left hk] at hq
      exact h.1 k q hq
    · rw [List.getElem?_append_right (Nat.not_lt.mp hk)] at hq
      exact h.2 _ q hq
theorem D_app {A : Nat → Prop} {w v : va_W} (h : va_D A (w ++ v)) : va_D A w ∧ va_D A v ∧ (∀ q, inW w q → ¬ inW v q) := by
  have l : ∀ (k : Nat) (q : Nat × va_E), w[k]? = some q → (w ++ v)[k]? = some q := fun k q hq => by
    rw [List.getElem?_append_left (List.getElem?_eq_some_iff.mp hq).1]
    exact hq
  have r : ∀ (k : Nat) (q : Nat × va_E), v[k]? = some q → (w ++ v)[w.length + k]? = some q := fun k q hq => by
    rw [List.getElem?_append_right (Nat.le_add_right _ _), Nat.add_sub_cancel_left]
    exact hq
  refine ⟨⟨fun i j x y hx hy hxy => h.1 i j x y (l i x hx) (l j y hy) hxy, fun k q hq => h.2 k q (l k q hq)⟩, ⟨fun i j x y hx hy hxy => ?_, fun k q hq => h.2 _ q (r k q hq)⟩, fun q hq hv => ?_⟩
  · have := h.1 _ _ x y (r i x hx) (r j y hy) hxy
    omega
  · obtain ⟨i, e, h1⟩ := hq
    obtain ⟨j, e', h2⟩ := hv
    have hi := (List.getElem?_eq_some_iff.mp h1).1
    have := h.1 _ _ _ _ (l i _ h1) (r j _ h2) rfl
    omega
theorem P_kept {D : va_G} {v : va_W} {H H1 : Heap} (h : va_P D vwCl v H) (hk : ∀ q : Nat, q < H.size → inW v q → H1[q]? = H[q]?) : va_P D vwCl v H1 := fun k q hq => (h k q hq).kept (hk q.1 (h k q hq).lt ⟨k, q.2, hq⟩)
section XL
variable {p : Program} {l : Launch} {e : Env} {R : Room} {s : State} {m : MethodId} {args : Array Value} {below : List Frame} {meth : Method} {c : Code} {H : Heap} {locs : List Loc} {cells slots : Nat} {Q : State → Prop}
variable {own : String} {cc : ByteArray} {maxL : Nat} {ret : Option FieldType} {D : va_G} {cI cC cZ : ClassId} {A : Nat → Prop} {H0 : Heap} {w v : va_W} {pc : Nat} {ls : Array Slot} {rest st : List Value}
theorem x_behindL {w' : va_W} {r : Option Value} {a1 : Array Value} (hw : Wd D A H0 (w ++ v) H locs) (hadr : w'.map Prod.fst = w.map Prod.fst)
    (hr : va_Run p l e R s m args below meth c H locs cells slots 0 0 (F0 m pc ls st) rest (CtQ D w w' r a1) (inW w))
    (kk : ∀ (H1 : Heap) (locs1 : List Loc), Wd D A H0 (w' ++ v) H1 locs1 → W p l e R s m args below meth c H1 locs1 cells slots Q (F0 m (pc + 3) ls (r.toList ++ rest))) : W p l e R s m args below meth c H locs cells slots Q (F0 m pc ls st) := by
  intro T hT X
  obtain ⟨vv, st₀, t, T', L, h0, X', hL, e1, e2, ⟨hv, hP1, hz, hk⟩, stp⟩ := hr T hT X
  cases hv
  rw [h0] at hz hk
  obtain ⟨hP, hD, hS⟩ := hw
  obtain ⟨d1, d2, d3⟩ := D_app hD
  have hin : ∀ q, inW w q → A q := fun q hq => by
    obtain ⟨j, e, h3⟩ := hq
    exact d1.2 j (q, e) h3
  have hv2 : va_P D vwCl v t.heap := P_kept (P_app.mp hP).2 (fun q h1 h2 => hk q h1 (fun h3 => d3 q h3 h2))
  obtain ⟨hP2, hD2⟩ := Wd_repl (ws' := w' ++ v) hD (by rw [List.map_append, List.map_append, hadr]) (P_app.mpr ⟨hP1, hv2⟩)
  have hS2 : va_S A H0 t.heap (locs ++ L) := ⟨Nat.le_trans hS.1 hz, fun q h1 h2 => by rw [hk q (Nat.lt_of_lt_of_le h1 hS.1) (fun z => h2 (hin q z))]; exact hS.2.1 q h1 h2, fun q hq => by
      rcases List.mem_append.mp hq with h | h
      · exact hS.2.2 q h
      · exact hin _ (hL q h)⟩
  obtain ⟨t2, a2, b2⟩ := kk t.heap (locs ++ L) ⟨hP2, hD2, hS2⟩ T' e1 X'
  exact ⟨t2, stp t2 a2, b2⟩
theorem x_behindR {v' : va_W} {r : Option Value} {a1 : Array Value} (hw : Wd D A H0 (w ++ v) H locs) (hadr : v'.map Prod.fst = v.map Prod.fst)
    (hr : va_Run p l e R s m args below meth c H locs cells slots 0 0 (F0 m pc ls st) rest (CtQ D v v' r a1) (inW v))
    (kk : ∀ (H1 : Heap) (locs1 : List Loc), Wd D A H0 (w ++ v') H1 locs1 → W p l e R s m args below meth c H1 locs1 cells slots Q (F0 m (pc + 3) ls (r.toList ++ rest))) : W p l e R s m args below meth c H locs cells slots Q (F0 m pc ls st) := by
  intro T hT X
  obtain ⟨vv, st₀, t, T', L, h0, X', hL, e1, e2, ⟨hv, hP1, hz, hk⟩, stp⟩ := hr T hT X
  cases hv
  rw [h0] at hz hk
  obtain ⟨hP, hD, hS⟩ := hw
  obtain ⟨d1, d2, d3⟩ := D_app hD
  have hin : ∀ q, inW v q → A q := fun q hq => by
    obtain ⟨j, e, h3⟩ := hq
    exact d2.2 j (q, e) h3
  have hv2 : va_P D vwCl w t.heap := P_kept (P_app.mp hP).1 (fun q h1 h2 => hk q h1 (fun h3 => d3 q h2 h3))
  obtain ⟨hP2, hD2⟩ := Wd_repl (ws' := w ++ v') hD (by rw [List.map_append, List.map_append, hadr]) (P_app.mpr ⟨hv2, hP1⟩)
  have hS2 : va_S A H0 t.heap (locs ++ L) := ⟨Nat.le_trans hS.1 hz, fun q h1 h2 => by rw [hk q (Nat.lt_of_lt_of_le h1 hS.1) (fun z => h2 (hin q z))]; exact hS.2.1 q h1 h2, fun q hq => by
      rcases List.mem_append.mp hq with h | h
      · exact hS.2.2 q h
      · exact hin _ (hL q h)⟩
  obtain ⟨t2, a2, b2⟩ := kk t.heap (locs ++ L) ⟨hP2, hD2, hS2⟩ T' e1 X'
  exact ⟨t2, stp t2 a2, b2⟩
theorem x_rc (C : Cx p s m args meth c own cc maxL ret D cI cC cZ) {y : MethodName} {b ci : Nat} {fs : List Value} (hP : va_P D vwCl w H) (hq : w[0]? = some (b, .inr (ci, fs))) (hcl : (vwCl[ci]?).map (fun z => z.1) = some y.cls) : ∃ cellB : Cell, H[b]? = some cellB ∧ cellB.vm.isStatics = false ∧ s.vm.findClass y.cls = some cellB.cls := by
  cases hv : vwCl[ci]? with
  | none => rw [hv] at hcl; cases hcl
  | some z =>
    rw [hv] at hcl
    have hz : z.1 = y.cls := Option.some.inj hcl
    rw [← hz]
    exact va_recv C.2.2.2.2.2.2.2 hP (ci := ci) (q0 := 0) hv hq
theorem x_preL {As : List Value} (C : Cx p s m args meth c own cc maxL ret D cI cC cZ) (hP : va_P D vwCl w H) (hD : va_D A w) : PreS s H (va_Pc As (fun U => va_P D vwCl w U.heap ∧ va_K D vwCl (tys3 cI cC cZ) U ∧ va_D (fun _ => True) w)) As :=
  ⟨Ctr.blind, fun U hU hW => ⟨rfl, by rw [hU]; exact hP, va_K.moved hW.alike C.2.2.2.2.2.2.2, hD.weaken (fun _ _ _ _ => trivial)⟩⟩
/-- the law calls the class -/
theorem x_callL (C : Cx p s m args meth c own cc maxL ret D cI cC cZ) (hw : Wd D A H0 (w ++ v) H locs) {y : MethodName} {bytes : ByteArray} {mL n index : Nat} {rt : Option FieldType} {F L : Nat} (M : MB y bytes mL rt n) (V : MV y) (K : Cond.methodLink own index y ∈ gt) {b ci : Nat} {fs As : List Value} {w' : va_W} {r : Option Value} (hq : w[0]? = some (b, .inr (ci, fs))) (hcl : (vwCl[ci]?).map (fun z => z.1) = some y.cls)
    (hc : Ctr l y bytes mL rt F L D cI cC cZ (.ref b :: As) w w' r) (hls : ls.size = maxL) (hst : st = As.reverse ++ .ref b :: rest) (hn : As.length = n) (hadr : w'.map Prod.fst = w.map Prod.fst)
    (hF : F + 1 ≤ R.frames) (hLo : 8 + (mL + 11) + L ≤ R.locals) (hce : cells ≤ R.cells) (hsl : slots ≤ R.slots) (hro : (rest.map fun v => v.category).sum ≤ 8) (hdg : decode cc pc = .ok (.invokevirtual index, 3))
    (kk : ∀ (H1 : Heap) (locs1 : List Loc), Wd D A H0 (w' ++ v) H1 locs1 → W p l e R s m args below meth c H1 locs1 cells slots Q (F0 m (pc + 3) ls (r.toList ++ rest))) : W p l e R s m args below meth c H locs cells slots Q (F0 m pc ls st) := by
  have hts := C.2.2.2.2.2.2.1
  have hB : CallB R s args own index y bytes mL rt (wsOf y bytes mL rt) (rmOf F L) 0 0 n := x_cb C M K hF hLo
  have hPx := (P_app.mp hw.1).1
  have hp := x_preL (As := .ref b :: As) C hPx (D_app hw.2.1).1
  exact x_behindL hw hadr (va_runV (As := As) (rest := rest) (g := F0 m pc ls st) ⟨C.1, C.2.1, C.2.2.2.1, C.2.2.2.2.1, hts⟩ hc ⟨hB, hts _ V.1, hts _ V.2⟩ ⟨hp.1, x_rc C hPx hq hcl, hp.2⟩ rfl hn hls hst (lv_room hro) hdg ⟨hce, hsl⟩) kk
/-- the law calls the class, by a contract with the static arrays -/
theorem x_callLZ (C : Cx p s m args meth c own cc maxL ret D cI cC cZ) (hw : Wd D A s.heap (w ++ v) H locs) (hz : StZ A s s.heap) {y : MethodName} {bytes : ByteArray} {mL n index : Nat} {rt : Option FieldType} {F L : Nat} (M : MB y bytes mL rt n) (V : MV y) (K : Cond.methodLink own index y ∈ gt) {b ci : Nat} {fs As : List Value} {w' : va_W} {r : Option Value} (hq : w[0]? = some (b, .inr (ci, fs))) (hcl : (vwCl[ci]?).map (fun z => z.1) = some y.cls)
    (hc : CtrZ l y bytes mL rt F L D cI cC cZ (.ref b :: As) w w' r) (hls : ls.size = maxL) (hst : st = As.reverse ++ .ref b :: rest) (hn : As.length = n) (hadr : w'.map Prod.fst = w.map Prod.fst)
    (hF : F + 1 ≤ R.frames) (hLo : 8 + (mL + 11) + L ≤ R.locals) (hce : cells ≤ R.cells) (hsl : slots ≤ R.slots) (hro : (rest.map fun v => v.category).sum ≤ 8) (hdg : decode cc pc = .ok (.invokevirtual index, 3))
    (kk : ∀ (H1 : Heap) (locs1 : List Loc), Wd D A s.heap (w' ++ v) H1 locs1 → W p l e R s m args below meth c H1 locs1 cells slots Q (F0 m (pc + 3) ls (r.toList ++ rest))) : W p l e R s m args below meth c H locs cells slots Q (F0 m pc ls st) := by
  have hts := C.2.2.2.2.2.2.1
  have hB : CallB R s args own index y bytes mL rt (wsOf y bytes mL rt) (rmOf F L) 0 0 n := x_cb C M K hF hLo
  have hPx := (P_app.mp hw.1).1
  have hDx := (D_app hw.2.1).1
  have hp : PreS s H (va_Pc (.ref b :: As) (PZ D cI cC cZ w)) (.ref b :: As) := ⟨PZ.blind, fun U hU hW => ⟨rfl, by rw [hU]; exact hPx, va_K.moved hW.alike C.2.2.2.2.2.2.2, hDx.weaken (fun _ _ _ _ => trivial), hz.go hW.alike (fun a h1 h2 => by rw [hU]; exact hw.2.2.2.1 a h1 h2) (fun q hq => by
    obtain ⟨j, e, h3⟩ := hq
    exact hDx.2 j (q, e) h3)⟩⟩
  exact x_behindL hw hadr (va_runV (As := As) (rest := rest) (g := F0 m pc ls st) ⟨C.1, C.2.1, C.2.2.2.1, C.2.2.2.2.1, hts⟩ hc ⟨hB, hts _ V.1, hts _ V.2⟩ ⟨hp.1, x_rc C hPx hq hcl, hp.2⟩ rfl hn hls hst (lv_room hro) hdg ⟨hce, hsl⟩) kk
/-- the law calls the model -/
theorem x_callR (C : Cx p s m args meth c own cc maxL ret D cI cC cZ) (hw : Wd D A H0 (w ++ v) H locs) {y : MethodName} {bytes : ByteArray} {mL n index : Nat} {rt : Option FieldType} {F L : Nat} (M : MB y bytes mL rt n) (V : MV y) (K : Cond.methodLink own index y ∈ gt) {b ci : Nat} {fs As : List Value} {v' : va_W} {r : Option Value} (hq : v[0]? = some (b, .inr (ci, fs))) (hcl : (vwCl[ci]?).map (fun z => z.1) = some y.cls)
    (hc : Ctr l y bytes mL rt F L D cI cC cZ (.ref b :: As) v v' r) (hls : ls.size = maxL) (hst : st = As.reverse ++ .ref b :: rest) (hn : As.length = n) (hadr : v'.map Prod.fst = v.map Prod.fst)
    (hF : F + 1 ≤ R.frames) (hLo : 8 + (mL + 11) + L ≤ R.locals) (hce : cells ≤ R.cells) (hsl : slots ≤ R.slots) (hro : (rest.map fun v => v.category).sum ≤ 8) (hdg : decode cc pc = .ok (.invokevirtual index, 3))
    (kk : ∀ (H1 : Heap) (locs1 : List Loc), Wd D A H0 (w ++ v') H1 locs1 → W p l e R s m args below meth c H1 locs1 cells slots Q (F0 m (pc + 3) ls (r.toList ++ rest))) : W p l e R s m args below meth c H locs cells slots Q (F0 m pc ls st) := by
  have hts := C.2.2.2.2.2.2.1
  have hB : CallB R s args own index y bytes mL rt (wsOf y bytes mL rt) (rmOf F L) 0 0 n := x_cb C M K hF hLo
  have hPx := (P_app.mp hw.1).2
  have hp := x_preL (As := .ref b :: As) C hPx (D_app hw.2.1).2.1
  exact x_behindR hw hadr (va_runV (As := As) (rest := rest) (g := F0 m pc ls st) ⟨C.1, C.2.1, C.2.2.2.1, C.2.2.2.2.1, hts⟩ hc ⟨hB, hts _ V.1, hts _ V.2⟩ ⟨hp.1, x_rc C hPx hq hcl, hp.2⟩ rfl hn hls hst (lv_room hro) hdg ⟨hce, hsl⟩) kk
end XL
/-- the relation between the class's cells and the model's -/
def Rl (cI cC cZ : ClassId) (t u : Nat → Nat) (wx wm : va_W) : Prop := ∃ (C P I E : Nat) (sg set num wl ws ww wb sb sl sa sal w hg il is iw ib tb tl ta tal h r lo hi el ep best od bent vb vl va val so ti su ml ms mw mk tab mb mlo mhi mo mbo mso mbs mbu : Nat → Int32) (fo fw bs bp bw kn gr kf cn tr wt rs rm : Int32) (fu fl : Int64),
  wx = w_X11 cI cC cZ (t 0) (t 1) (t 2) (t 3) (t 4) (t 5) (t 6) (t 7) (t 8) (t 9) (t 10) (t 11) (t 12) (t 13) (t 14) (t 15) (t 16) (t 17) (t 18) (t 19) (t 20) (t 21) (t 22) (t 23) (t 24) (t 25) (t 26) (t 27) (t 28) (t 29) (t 30) (t 31) (t 32) (t 33) (t 34) (t 35) (t 36) (t 37) (t 38) (t 39) (t 40) (t 41) (t 42) (t 43) (t 44) (t 45) (t 46) (t 47) (t 48) (t 49) (t 50) (t 51) sg (nI C) set num 12 wl ws ww wb (nI P) sb sl sa sal w hg 10 il is iw ib (nI I) tb tl ta tal fo fw h r (nI (rct r 36)) bs bp lo hi el ep best (nI E) bw kn od bent vb vl va val so gr kf ti su cn fu fl ∧
  wm = w_X12 cI cC cZ (u 0) (u 1) (u 2) (u 3) (u 4) (u 5) (u 6) (u 7) (u 8) (u 9) (u 10) (u 11) (u 12) (u 13) (u 14) (u 15) (u 16) (u 17) (u 18) (u 19) (u 20) (u 21) (u 22) (u 23) (u 24) sg (nI C) ml ms mw mk (nI P) tr tab set mb w il is iw ib (nI I) wt h r rs rm mlo mhi el ep (nI E) mo mbo mso mbs mbu ∧
  C ≤ 50 ∧ RWk P wl ws ww wb ml ms mw mk ∧ RTb set num tab ∧ RHu w hg ∧ RIt I il is iw ib ∧ RGa h r ∧ RSp lo hi mlo mhi ∧ RWe E el ep ∧ KW kn P E set tab w wl ws ww wb el ep best bw ∧ KS kf P ws ww so gr
theorem mb_X11_attempt : MB yX11_attempt cX11_attempt 4 (some .int) 3 := ⟨in_gt 689 (by decide +kernel) (by decide +kernel), in_gt 35 (by decide +kernel) (by decide +kernel), by decide +kernel⟩
theorem mb_X11_bend : MB yX11_bend cX11_bend 2 (some .int) 1 := ⟨in_gt 478 (by decide +kernel) (by decide +kernel), in_gt 35 (by decide +kernel) (by decide +kernel), by decide +kernel⟩
theorem mb_X11_bendRead : MB yX11_bendRead cX11_bendRead 3 (some .int) 2 := ⟨in_gt 651 (by decide +kernel) (by decide +kernel), in_gt 35 (by decide +kernel) (by decide +kernel), by decide +kernel⟩
theorem mb_X11_bound : MB yX11_bound cX11_bound 1 (some .int) 0 := ⟨in_gt 558 (by decide +kernel) (by decide +kernel), in_gt 35 (by decide +kernel) (by decide +kernel), by decide +kernel⟩
theorem mb_X11_chosen : MB yX11_chosen cX11_chosen 3 (some .int) 2 := ⟨in_gt 575 (by decide +kernel) (by decide +kernel), in_gt 35 (by decide +kernel) (by decide +kernel), by decide +kernel⟩
theorem mb_X11_fault : MB yX11_fault cX11_fault 1 (some .int) 0 := ⟨in_gt 374 (by decide +kernel) (by decide +kernel), in_gt 35 (by decide +kernel) (by decide +kernel), by decide +kernel⟩
theorem mb_X11_flat : MB yX11_flat cX11_flat 2 (some .int) 1 := ⟨in_gt 630 (by decide +kernel) (by decide +kernel), in_gt 35 (by decide +kernel) (by decide +kernel), by decide +kernel⟩
theorem mb_X11_forget : MB yX11_forget cX11_forget 2 (some .int) 1 := ⟨in_gt 622 (by decide +kernel) (by decide +kernel), in_gt 35 (by decide +kernel) (by decide +kernel), by decide +kernel⟩
theorem mb_X11_height : MB yX11_height cX11_height 2 (some .int) 1 := ⟨in_gt 490 (by decide +kernel) (by decide +kernel), in_gt 35 (by decide +kernel) (by decide +kernel), by decide +kernel⟩
theorem mb_X11_item : MB yX11_item cX11_item 6 (some .int) 4 := ⟨in_gt 570 (by decide +kernel) (by decide +kernel), in_gt 35 (by decide +kernel) (by decide +kernel), by decide +kernel⟩
theorem mb_X11_miss : MB yX11_miss cX11_miss 2 (some .int) 1 := ⟨in_gt 518 (by decide +kernel) (by decide +kernel), in_gt 35 (by decide +kernel) (by decide +kernel), by decide +kernel⟩
theorem mb_X11_next : MB yX11_next cX11_next 2 (some .int) 1 := ⟨in_gt 601 (by decide +kernel) (by decide +kernel), in_gt 35 (by decide +kernel) (by decide +kernel), by decide +kernel⟩
theorem mb_X11_odd : MB yX11_odd cX11_odd 4 (some .int) 1 := ⟨in_gt 640 (by decide +kernel) (by decide +kernel), in_gt 35 (by decide +kernel) (by decide +kernel), by decide +kernel⟩
theorem mb_X11_order : MB yX11_order cX11_order 2 (some .int) 1 := ⟨in_gt 721 (by decide +kernel) (by decide +kernel), in_gt 35 (by decide +kernel) (by decide +kernel), by decide +kernel⟩
theorem mb_X11_pass : MB yX11_pass cX11_pass 3 (some .int) 2 := ⟨in_gt 416 (by decide +kernel) (by decide +kernel), in_gt 35 (by decide +kernel) (by decide +kernel), by decide +kernel⟩
theorem mb_X11_read : MB yX11_read cX11_read 3 (some .int) 2 := ⟨in_gt 614 (by decide +kernel) (by decide +kernel), in_gt 35 (by decide +kernel) (by decide +kernel), by decide +kernel⟩
theorem mb_X11_say : MB yX11_say cX11_say 2 (some .int) 1 := ⟨in_gt 362 (by decide +kernel) (by decide +kernel), in_gt 35 (by decide +kernel) (by decide +kernel), by decide +kernel⟩
theorem mb_X11_set : MB yX11_set cX11_set 3 (some .int) 2 := ⟨in_gt 462 (by decide +kernel) (by decide +kernel), in_gt 35 (by decide +kernel) (by decide +kernel), by decide +kernel⟩
theorem mb_X11_shared : MB yX11_shared cX11_shared 3 (some .int) 2 := ⟨in_gt 750 (by decide +kernel) (by decide +kernel), in_gt 35 (by decide +kernel) (by decide +kernel), by decide +kernel⟩
theorem mb_X11_skill : MB yX11_skill cX11_skill 5 (some .long) 1 := ⟨in_gt 674 (by decide +kernel) (by decide +kernel), in_gt 35 (by decide +kernel) (by decide +kernel), by decide +kernel⟩
theorem mb_X11_span : MB yX11_span cX11_span 3 (some .int) 2 := ⟨in_gt 701 (by decide +kernel) (by decide +kernel), in_gt 35 (by decide +kernel) (by decide +kernel), by decide +kernel⟩
theorem mb_X11_steps : MB yX11_steps cX11_steps 4 (some .int) 1 := ⟨in_gt 609 (by decide +kernel) (by decide +kernel), in_gt 35 (by decide +kernel) (by decide +kernel), by decide +kernel⟩
theorem mb_X11_strike : MB yX11_strike cX11_strike 2 (some .int) 1 := ⟨in_gt 412 (by decide +kernel) (by decide +kernel), in_gt 35 (by decide +kernel) (by decide +kernel), by decide +kernel⟩
theorem mb_X11_table : MB yX11_table cX11_table 4 (some .int) 3 := ⟨in_gt 450 (by decide +kernel) (by decide +kernel), in_gt 35 (by decide +kernel) (by decide +kernel), by decide +kernel⟩
theorem mb_X11_take : MB yX11_take cX11_take 1 (some .int) 0 := ⟨in_gt 388 (by decide +kernel) (by decide +kernel), in_gt 35 (by decide +kernel) (by decide +kernel), by decide +kernel⟩
theorem mb_X11_told : MB yX11_told cX11_told 2 (some .int) 1 := ⟨in_gt 770 (by decide +kernel) (by decide +kernel), in_gt 35 (by decide +kernel) (by decide +kernel), by decide +kernel⟩
theorem mb_X11_twist : MB yX11_twist cX11_twist 2 (some .int) 1 := ⟨in_gt 547 (by decide +kernel) (by decide +kernel), in_gt 35 (by decide +kernel) (by decide +kernel), by decide +kernel⟩
theorem mb_X11_weld : MB yX11_weld cX11_weld 4 (some .int) 2 := ⟨in_gt 713 (by decide +kernel) (by decide +kernel), in_gt 35 (by decide +kernel) (by decide +kernel), by decide +kernel⟩
theorem mb_X11_widest : MB yX11_widest cX11_widest 1 (some .int) 0 := ⟨in_gt 705 (by decide +kernel) (by decide +kernel), in_gt 35 (by decide +kernel) (by decide +kernel), by decide +kernel⟩
theorem mb_X11_wipe : MB yX11_wipe cX11_wipe 2 (some .int) 0 := ⟨in_gt 370 (by decide +kernel) (by decide +kernel), in_gt 35 (by decide +kernel) (by decide +kernel), by decide +kernel⟩
theorem mb_X11_wish : MB yX11_wish cX11_wish 3 (some .int) 2 := ⟨in_gt 501 (by decide +kernel) (by decide +kernel), in_gt 35 (by decide +kernel) (by decide +kernel), by decide +kernel⟩
theorem mb_X11_worst : MB yX11_worst cX11_worst 1 (some .int) 0 := ⟨in_gt 534 (by decide +kernel) (by decide +kernel), in_gt 35 (by decide +kernel) (by decide +kernel), by decide +kernel⟩
theorem mb_X12_attempt : MB yX12_attempt cX12_attempt 6 (some .int) 3 := ⟨in_gt 1102 (by decide +kernel) (by decide +kernel), in_gt 49 (by decide +kernel) (by decide +kernel), by decide +kernel⟩
theorem mb_X12_bend : MB yX12_bend cX12_bend 2 (some .int) 1 := ⟨in_gt 948 (by decide +kernel) (by decide +kernel), in_gt 49 (by decide +kernel) (by decide +kernel), by decide +kernel⟩
theorem mb_X12_bendRead : MB yX12_bendRead cX12_bendRead 3 (some .int) 2 := ⟨in_gt 1080 (by decide +kernel) (by decide +kernel), in_gt 49 (by decide +kernel) (by decide +kernel), by decide +kernel⟩
theorem mb_X12_bound : MB yX12_bound cX12_bound 4 (some .int) 0 := ⟨in_gt 1018 (by decide +kernel) (by decide +kernel), in_gt 49 (by decide +kernel) (by decide +kernel), by decide +kernel⟩
theorem mb_X12_chosen : MB yX12_chosen cX12_chosen 8 (some .int) 2 := ⟨in_gt 1026 (by decide +kernel) (by decide +kernel), in_gt 49 (by decide +kernel) (by decide +kernel), by decide +kernel⟩
theorem mb_X12_flat : MB yX12_flat cX12_flat 2 (some .int) 1 := ⟨in_gt 1063 (by decide +kernel) (by decide +kernel), in_gt 49 (by decide +kernel) (by decide +kernel), by decide +kernel⟩
theorem mb_X12_forget : MB yX12_forget cX12_forget 2 (some .int) 1 := ⟨in_gt 1059 (by decide +kernel) (by decide +kernel), in_gt 49 (by decide +kernel) (by decide +kernel), by decide +kernel⟩
theorem mb_X12_height : MB yX12_height cX12_height 2 (some .int) 1 := ⟨in_gt 961 (by decide +kernel) (by decide +kernel), in_gt 49 (by decide +kernel) (by decide +kernel), by decide +kernel⟩
theorem mb_X12_item : MB yX12_item cX12_item 5 (some .int) 4 := ⟨in_gt 1022 (by decide +kernel) (by decide +kernel), in_gt 49 (by decide +kernel) (by decide +kernel), by decide +kernel⟩
theorem mb_X12_miss : MB yX12_miss cX12_miss 2 (some .int) 1 := ⟨in_gt 980 (by decide +kernel) (by decide +kernel), in_gt 49 (by decide +kernel) (by decide +kernel), by decide +kernel⟩
theorem mb_X12_next : MB yX12_next cX12_next 3 (some .int) 1 := ⟨in_gt 1043 (by decide +kernel) (by decide +kernel), in_gt 49 (by decide +kernel) (by decide +kernel), by decide +kernel⟩
theorem mb_X12_odd : MB yX12_odd cX12_odd 5 (some .int) 1 := ⟨in_gt 1076 (by decide +kernel) (by decide +kernel), in_gt 49 (by decide +kernel) (by decide +kernel), by decide +kernel⟩
theorem mb_X12_order : MB yX12_order cX12_order 6 (some .int) 1 := ⟨in_gt 1120 (by decide +kernel) (by decide +kernel), in_gt 49 (by decide +kernel) (by decide +kernel), by decide +kernel⟩
theorem mb_X12_pass : MB yX12_pass cX12_pass 3 (some .int) 2 := ⟨in_gt 913 (by decide +kernel) (by decide +kernel), in_gt 49 (by decide +kernel) (by decide +kernel), by decide +kernel⟩
theorem mb_X12_read : MB yX12_read cX12_read 4 (some .int) 2 := ⟨in_gt 1055 (by decide +kernel) (by decide +kernel), in_gt 49 (by decide +kernel) (by decide +kernel), by decide +kernel⟩
theorem mb_X12_say : MB yX12_say cX12_say 2 (some .int) 1 := ⟨in_gt 877 (by decide +kernel) (by decide +kernel), in_gt 49 (by decide +kernel) (by decide +kernel), by decide +kernel⟩
theorem mb_X12_set : MB yX12_set cX12_set 4 (some .int) 2 := ⟨in_gt 938 (by decide +kernel) (by decide +kernel), in_gt 49 (by decide +kernel) (by decide +kernel), by decide +kernel⟩
theorem mb_X12_shared : MB yX12_shared cX12_shared 7 (some .int) 2 := ⟨in_gt 1136 (by decide +kernel) (by decide +kernel), in_gt 49 (by decide +kernel) (by decide +kernel), by decide +kernel⟩
theorem mb_X12_skill : MB yX12_skill cX12_skill 7 (some .long) 1 := ⟨in_gt 1091 (by decide +kernel) (by decide +kernel), in_gt 49 (by decide +kernel) (by decide +kernel), by decide +kernel⟩
theorem mb_X12_span : MB yX12_span cX12_span 3 (some .int) 2 := ⟨in_gt 1106 (by decide +kernel) (by decide +kernel), in_gt 49 (by decide +kernel) (by decide +kernel), by decide +kernel⟩
theorem mb_X12_steps : MB yX12_steps cX12_steps 5 (some .int) 1 := ⟨in_gt 1051 (by decide +kernel) (by decide +kernel), in_gt 49 (by decide +kernel) (by decide +kernel), by decide +kernel⟩
theorem mb_X12_strike : MB yX12_strike cX12_strike 2 (some .int) 1 := ⟨in_gt 909 (by decide +kernel) (by decide +kernel), in_gt 49 (by decide +kernel) (by decide +kernel), by decide +kernel⟩
theorem mb_X12_table : MB yX12_table cX12_table 5 (some .int) 3 := ⟨in_gt 932 (by decide +kernel) (by decide +kernel), in_gt 49 (by decide +kernel) (by decide +kernel), by decide +kernel⟩
theorem mb_X12_take : MB yX12_take cX12_take 2 (some .int) 0 := ⟨in_gt 900 (by decide +kernel) (by decide +kernel), in_gt 49 (by decide +kernel) (by decide +kernel), by decide +kernel⟩
theorem mb_X12_told : MB yX12_told cX12_told 4 (some .int) 1 := ⟨in_gt 1149 (by decide +kernel) (by decide +kernel), in_gt 49 (by decide +kernel) (by decide +kernel), by decide +kernel⟩
theorem mb_X12_twist : MB yX12_twist cX12_twist 2 (some .int) 1 := ⟨in_gt 1007 (by decide +kernel) (by decide +kernel), in_gt 49 (by decide +kernel) (by decide +kernel), by decide +kernel⟩
theorem mb_X12_weld : MB yX12_weld cX12_weld 3 (some .int) 2 := ⟨in_gt 1114 (by decide +kernel) (by decide +kernel), in_gt 49 (by decide +kernel) (by decide +kernel), by decide +kernel⟩
theorem mb_X12_widest : MB yX12_widest cX12_widest 3 (some .int) 0 := ⟨in_gt 1110 (by decide +kernel) (by decide +kernel), in_gt 49 (by decide +kernel) (by decide +kernel), by decide +kernel⟩
theorem mb_X12_wipe : MB yX12_wipe cX12_wipe 2 (some .int) 0 := ⟨in_gt 886 (by decide +kernel) (by decide +kernel), in_gt 49 (by decide +kernel) (by decide +kernel), by decide +kernel⟩
theorem mb_X12_wish : MB yX12_wish cX12_wish 4 (some .int) 2 := ⟨in_gt 973 (by decide +kernel) (by decide +kernel), in_gt 49 (by decide +kernel) (by decide +kernel), by decide +kernel⟩
theorem mb_X12_worst : MB yX12_worst cX12_worst 1 (some .int) 0 := ⟨in_gt 995 (by decide +kernel) (by decide +kernel), in_gt 49 (by decide +kernel) (by decide +kernel), by decide +kernel⟩
theorem ml_L_101 : Cond.methodLink RL 101 yX12_forget ∈ gt := in_gt 1056 (by decide +kernel) (by decide +kernel)
theorem ml_L_102 : Cond.methodLink RL 102 yX11_flat ∈ gt := in_gt 627 (by decide +kernel) (by decide +kernel)
theorem ml_L_105 : Cond.methodLink RL 105 yX12_flat ∈ gt := in_gt 1060 (by decide +kernel) (by decide +kernel)
theorem ml_L_106 : Cond.methodLink RL 106 yX11_odd ∈ gt := in_gt 637 (by decide +kernel) (by decide +kernel)
theorem ml_L_109 : Cond.methodLink RL 109 yX12_odd ∈ gt := in_gt 1073 (by decide +kernel) (by decide +kernel)
theorem ml_L_110 : Cond.methodLink RL 110 yX11_bendRead ∈ gt := in_gt 648 (by decide +kernel) (by decide +kernel)
theorem ml_L_113 : Cond.methodLink RL 113 yX12_bendRead ∈ gt := in_gt 1077 (by decide +kernel) (by decide +kernel)
theorem ml_L_114 : Cond.methodLink RL 114 yX11_skill ∈ gt := in_gt 671 (by decide +kernel) (by decide +kernel)
theorem ml_L_118 : Cond.methodLink RL 118 yX12_skill ∈ gt := in_gt 1088 (by decide +kernel) (by decide +kernel)
theorem ml_L_119 : Cond.methodLink RL 119 yX11_attempt ∈ gt := in_gt 686 (by decide +kernel) (by decide +kernel)
theorem ml_L_122 : Cond.methodLink RL 122 yX12_attempt ∈ gt := in_gt 1099 (by decide +kernel) (by decide +kernel)
theorem ml_L_123 : Cond.methodLink RL 123 yX11_span ∈ gt := in_gt 698 (by decide +kernel) (by decide +kernel)
theorem ml_L_126 : Cond.methodLink RL 126 yX12_span ∈ gt := in_gt 1103 (by decide +kernel) (by decide +kernel)
theorem ml_L_127 : Cond.methodLink RL 127 yX11_widest ∈ gt := in_gt 702 (by decide +kernel) (by decide +kernel)
theorem ml_L_13 : Cond.methodLink RL 13 yX11_say ∈ gt := in_gt 359 (by decide +kernel) (by decide +kernel)
theorem ml_L_130 : Cond.methodLink RL 130 yX12_widest ∈ gt := in_gt 1107 (by decide +kernel) (by decide +kernel)
theorem ml_L_131 : Cond.methodLink RL 131 yX11_weld ∈ gt := in_gt 710 (by decide +kernel) (by decide +kernel)
theorem ml_L_134 : Cond.methodLink RL 134 yX12_weld ∈ gt := in_gt 1111 (by decide +kernel) (by decide +kernel)
theorem ml_L_135 : Cond.methodLink RL 135 yX11_order ∈ gt := in_gt 718 (by decide +kernel) (by decide +kernel)
theorem ml_L_138 : Cond.methodLink RL 138 yX12_order ∈ gt := in_gt 1117 (by decide +kernel) (by decide +kernel)
theorem ml_L_139 : Cond.methodLink RL 139 yX11_shared ∈ gt := in_gt 747 (by decide +kernel) (by decide +kernel)
theorem ml_L_142 : Cond.methodLink RL 142 yX12_shared ∈ gt := in_gt 1133 (by decide +kernel) (by decide +kernel)
theorem ml_L_143 : Cond.methodLink RL 143 yX11_told ∈ gt := in_gt 767 (by decide +kernel) (by decide +kernel)
theorem ml_L_146 : Cond.methodLink RL 146 yX12_told ∈ gt := in_gt 1146 (by decide +kernel) (by decide +kernel)
theorem ml_L_17 : Cond.methodLink RL 17 yX12_say ∈ gt := in_gt 874 (by decide +kernel) (by decide +kernel)
theorem ml_L_18 : Cond.methodLink RL 18 yX11_wipe ∈ gt := in_gt 367 (by decide +kernel) (by decide +kernel)
theorem ml_L_22 : Cond.methodLink RL 22 yX12_wipe ∈ gt := in_gt 883 (by decide +kernel) (by decide +kernel)
theorem ml_L_23 : Cond.methodLink RL 23 yX11_fault ∈ gt := in_gt 371 (by decide +kernel) (by decide +kernel)
theorem ml_L_26 : Cond.methodLink RL 26 yX12_fault ∈ gt := in_gt 887 (by decide +kernel) (by decide +kernel)
theorem ml_L_27 : Cond.methodLink RL 27 yX11_take ∈ gt := in_gt 385 (by decide +kernel) (by decide +kernel)
theorem ml_L_30 : Cond.methodLink RL 30 yX12_take ∈ gt := in_gt 897 (by decide +kernel) (by decide +kernel)
theorem ml_L_31 : Cond.methodLink RL 31 yX11_strike ∈ gt := in_gt 409 (by decide +kernel) (by decide +kernel)
theorem ml_L_34 : Cond.methodLink RL 34 yX12_strike ∈ gt := in_gt 906 (by decide +kernel) (by decide +kernel)
theorem ml_L_35 : Cond.methodLink RL 35 yX11_pass ∈ gt := in_gt 413 (by decide +kernel) (by decide +kernel)
theorem ml_L_39 : Cond.methodLink RL 39 yX12_pass ∈ gt := in_gt 910 (by decide +kernel) (by decide +kernel)
theorem ml_L_40 : Cond.methodLink RL 40 yX11_table ∈ gt := in_gt 447 (by decide +kernel) (by decide +kernel)
theorem ml_L_44 : Cond.methodLink RL 44 yX12_table ∈ gt := in_gt 929 (by decide +kernel) (by decide +kernel)
theorem ml_L_45 : Cond.methodLink RL 45 yX11_set ∈ gt := in_gt 459 (by decide +kernel) (by decide +kernel)
theorem ml_L_48 : Cond.methodLink RL 48 yX12_set ∈ gt := in_gt 935 (by decide +kernel) (by decide +kernel)
theorem ml_L_49 : Cond.methodLink RL 49 yX11_bend ∈ gt := in_gt 475 (by decide +kernel) (by decide +kernel)
theorem ml_L_52 : Cond.methodLink RL 52 yX12_bend ∈ gt := in_gt 945 (by decide +kernel) (by decide +kernel)
theorem ml_L_53 : Cond.methodLink RL 53 yX11_height ∈ gt := in_gt 487 (by decide +kernel) (by decide +kernel)
theorem ml_L_56 : Cond.methodLink RL 56 yX12_height ∈ gt := in_gt 958 (by decide +kernel) (by decide +kernel)
theorem ml_L_57 : Cond.methodLink RL 57 yX11_wish ∈ gt := in_gt 498 (by decide +kernel) (by decide +kernel)
theorem ml_L_60 : Cond.methodLink RL 60 yX12_wish ∈ gt := in_gt 970 (by decide +kernel) (by decide +kernel)
theorem ml_L_61 : Cond.methodLink RL 61 yX11_miss ∈ gt := in_gt 515 (by decide +kernel) (by decide +kernel)
theorem ml_L_64 : Cond.methodLink RL 64 yX12_miss ∈ gt := in_gt 977 (by decide +kernel) (by decide +kernel)
theorem ml_L_65 : Cond.methodLink RL 65 yX11_worst ∈ gt := in_gt 531 (by decide +kernel) (by decide +kernel)
theorem ml_L_68 : Cond.methodLink RL 68 yX12_worst ∈ gt := in_gt 992 (by decide +kernel) (by decide +kernel)
theorem ml_L_69 : Cond.methodLink RL 69 yX11_twist ∈ gt := in_gt 544 (by decide +kernel) (by decide +kernel)
theorem ml_L_72 : Cond.methodLink RL 72 yX12_twist ∈ gt := in_gt 1004 (by decide +kernel) (by decide +kernel)
theorem ml_L_73 : Cond.methodLink RL 73 yX11_bound ∈ gt := in_gt 555 (by decide +kernel) (by decide +kernel)
theorem ml_L_76 : Cond.methodLink RL 76 yX12_bound ∈ gt := in_gt 1015 (by decide +kernel) (by decide +kernel)
theorem ml_L_77 : Cond.methodLink RL 77 yX11_item ∈ gt := in_gt 567 (by decide +kernel) (by decide +kernel)
theorem ml_L_81 : Cond.methodLink RL 81 yX12_item ∈ gt := in_gt 1019 (by decide +kernel) (by decide +kernel)
theorem ml_L_82 : Cond.methodLink RL 82 yX11_chosen ∈ gt := in_gt 572 (by decide +kernel) (by decide +kernel)
theorem ml_L_85 : Cond.methodLink RL 85 yX12_chosen ∈ gt := in_gt 1023 (by decide +kernel) (by decide +kernel)
theorem ml_L_86 : Cond.methodLink RL 86 yX11_next ∈ gt := in_gt 598 (by decide +kernel) (by decide +kernel)
theorem ml_L_89 : Cond.methodLink RL 89 yX12_next ∈ gt := in_gt 1040 (by decide +kernel) (by decide +kernel)
theorem ml_L_90 : Cond.methodLink RL 90 yX11_steps ∈ gt := in_gt 606 (by decide +kernel) (by decide +kernel)
theorem ml_L_93 : Cond.methodLink RL 93 yX12_steps ∈ gt := in_gt 1048 (by decide +kernel) (by decide +kernel)
theorem ml_L_94 : Cond.methodLink RL 94 yX11_read ∈ gt := in_gt 611 (by decide +kernel) (by decide +kernel)
theorem ml_L_97 : Cond.methodLink RL 97 yX12_read ∈ gt := in_gt 1052 (by decide +kernel) (by decide +kernel)
theorem ml_L_98 : Cond.methodLink RL 98 yX11_forget ∈ gt := in_gt 619 (by decide +kernel) (by decide +kernel)
theorem mv_X11_attempt : MV yX11_attempt := ⟨in_gt 687 (by decide +kernel) (by decide +kernel), in_gt 688 (by decide +kernel) (by decide +kernel)⟩
theorem mv_X11_bend : MV yX11_bend := ⟨in_gt 476 (by decide +kernel) (by decide +kernel), in_gt 477 (by decide +kernel) (by decide +kernel)⟩
theorem mv_X11_bendRead : MV yX11_bendRead := ⟨in_gt 649 (by decide +kernel) (by decide +kernel), in_gt 650 (by decide +kernel) (by decide +kernel)⟩
theorem mv_X11_bound : MV yX11_bound := ⟨in_gt 556 (by decide +kernel) (by decide +kernel), in_gt 557 (by decide +kernel) (by decide +kernel)⟩
theorem mv_X11_chosen : MV yX11_chosen := ⟨in_gt 573 (by decide +kernel) (by decide +kernel), in_gt 574 (by decide +kernel) (by decide +kernel)⟩
theorem mv_X11_fault : MV yX11_fault := ⟨in_gt 372 (by decide +kernel) (by decide +kernel), in_gt 373 (by decide +kernel) (by decide +kernel)⟩
theorem mv_X11_flat : MV yX11_flat := ⟨in_gt 628 (by decide +kernel) (by decide +kernel), in_gt 629 (by decide +kernel) (by decide +kernel)⟩
theorem mv_X11_forget : MV yX11_forget := ⟨in_gt 620 (by decide +kernel) (by decide +kernel), in_gt 621 (by decide +kernel) (by decide +kernel)⟩
theorem mv_X11_height : MV yX11_height := ⟨in_gt 488 (by decide +kernel) (by decide +kernel), in_gt 489 (by decide +kernel) (by decide +kernel)⟩
theorem mv_X11_item : MV yX11_item := ⟨in_gt 568 (by decide +kernel) (by decide +kernel), in_gt 569 (by decide +kernel) (by decide +kernel)⟩
theorem mv_X11_miss : MV yX11_miss := ⟨in_gt 516 (by decide +kernel) (by decide +kernel), in_gt 517 (by decide +kernel) (by decide +kernel)⟩
theorem mv_X11_next : MV yX11_next := ⟨in_gt 599 (by decide +kernel) (by decide +kernel), in_gt 600 (by decide +kernel) (by decide +kernel)⟩
theorem mv_X11_odd : MV yX11_odd := ⟨in_gt 638 (by decide +kernel) (by decide +kernel), in_gt 639 (by decide +kernel) (by decide +kernel)⟩
theorem mv_X11_order : MV yX11_order := ⟨in_gt 719 (by decide +kernel) (by decide +kernel), in_gt 720 (by decide +kernel) (by decide +kernel)⟩
theorem mv_X11_pass : MV yX11_pass := ⟨in_gt 414 (by decide +kernel) (by decide +kernel), in_gt 415 (by decide +kernel) (by decide +kernel)⟩
theorem mv_X11_read : MV yX11_read := ⟨in_gt 612 (by decide +kernel) (by decide +kernel), in_gt 613 (by decide +kernel) (by decide +kernel)⟩
theorem mv_X11_say : MV yX11_say := ⟨in_gt 360 (by decide +kernel) (by decide +kernel), in_gt 361 (by decide +kernel) (by decide +kernel)⟩
theorem mv_X11_set : MV yX11_set := ⟨in_gt 460 (by decide +kernel) (by decide +kernel), in_gt 461 (by decide +kernel) (by decide +kernel)⟩
theorem mv_X11_shared : MV yX11_shared := ⟨in_gt 748 (by decide +kernel) (by decide +kernel), in_gt 749 (by decide +kernel) (by decide +kernel)⟩
theorem mv_X11_skill : MV yX11_skill := ⟨in_gt 672 (by decide +kernel) (by decide +kernel), in_gt 673 (by decide +kernel) (by decide +kernel)⟩
theorem mv_X11_span : MV yX11_span := ⟨in_gt 699 (by decide +kernel) (by decide +kernel), in_gt 700 (by decide +kernel) (by decide +kernel)⟩
theorem mv_X11_steps : MV yX11_steps := ⟨in_gt 607 (by decide +kernel) (by decide +kernel), in_gt 608 (by decide +kernel) (by decide +kernel)⟩
theorem mv_X11_strike : MV yX11_strike := ⟨in_gt 410 (by decide +kernel) (by decide +kernel), in_gt 411 (by decide +kernel) (by decide +kernel)⟩
theorem mv_X11_table : MV yX11_table := ⟨in_gt 448 (by decide +kernel) (by decide +kernel), in_gt 449 (by decide +kernel) (by decide +kernel)⟩
theorem mv_X11_take : MV yX11_take := ⟨in_gt 386 (by decide +kernel) (by decide +kernel), in_gt 387 (by decide +kernel) (by decide +kernel)⟩
theorem mv_X11_told : MV yX11_told := ⟨in_gt 768 (by decide +kernel) (by decide +kernel), in_gt 769 (by decide +kernel) (by decide +kernel)⟩
theorem mv_X11_twist : MV yX11_twist := ⟨in_gt 545 (by decide +kernel) (by decide +kernel), in_gt 546 (by decide +kernel) (by decide +kernel)⟩
theorem mv_X11_weld : MV yX11_weld := ⟨in_gt 711 (by decide +kernel) (by decide +kernel), in_gt 712 (by decide +kernel) (by decide +kernel)⟩
theorem mv_X11_widest : MV yX11_widest := ⟨in_gt 703 (by decide +kernel) (by decide +kernel), in_gt 704 (by decide +kernel) (by decide +kernel)⟩
theorem mv_X11_wipe : MV yX11_wipe := ⟨in_gt 368 (by decide +kernel) (by decide +kernel), in_gt 369 (by decide +kernel) (by decide +kernel)⟩
theorem mv_X11_wish : MV yX11_wish := ⟨in_gt 499 (by decide +kernel) (by decide +kernel), in_gt 500 (by decide +kernel) (by decide +kernel)⟩
theorem mv_X11_worst : MV yX11_worst := ⟨in_gt 532 (by decide +kernel) (by decide +kernel), in_gt 533 (by decide +kernel) (by decide +kernel)⟩
theorem mv_X12_attempt : MV yX12_attempt := ⟨in_gt 1100 (by decide +kernel) (by decide +kernel), in_gt 1101 (by decide +kernel) (by decide +kernel)⟩
theorem mv_X12_bend : MV yX12_bend := ⟨in_gt 946 (by decide +kernel) (by decide +kernel), in_gt 947 (by decide +kernel) (by decide +kernel)⟩
theorem mv_X12_bendRead : MV yX12_bendRead := ⟨in_gt 1078 (by decide +kernel) (by decide +kernel), in_gt 1079 (by decide +kernel) (by decide +kernel)⟩
theorem mv_X12_bound : MV yX12_bound := ⟨in_gt 1016 (by decide +kernel) (by decide +kernel), in_gt 1017 (by decide +kernel) (by decide +kernel)⟩
theorem mv_X12_chosen : MV yX12_chosen := ⟨in_gt 1024 (by decide +kernel) (by decide +kernel), in_gt 1025 (by decide +kernel) (by decide +kernel)⟩
theorem mv_X12_flat : MV yX12_flat := ⟨in_gt 1061 (by decide +kernel) (by decide +kernel), in_gt 1062 (by decide +kernel) (by decide +kernel)⟩
theorem mv_X12_forget : MV yX12_forget := ⟨in_gt 1057 (by decide +kernel) (by decide +kernel), in_gt 1058 (by decide +kernel) (by decide +kernel)⟩
theorem mv_X12_height : MV yX12_height := ⟨in_gt 959 (by decide +kernel) (by decide +kernel), in_gt 960 (by decide +kernel) (by decide +kernel)⟩
theorem mv_X12_item : MV yX12_item := ⟨in_gt 1020 (by decide +kernel) (by decide +kernel), in_gt 1021 (by decide +kernel) (by decide +kernel)⟩
theorem mv_X12_miss : MV yX12_miss := ⟨in_gt 978 (by decide +kernel) (by decide +kernel), in_gt 979 (by decide +kernel) (by decide +kernel)⟩
theorem mv_X12_next : MV yX12_next := ⟨in_gt 1041 (by decide +kernel) (by decide +kernel), in_gt 1042 (by decide +kernel) (by decide +kernel)⟩
theorem mv_X12_odd : MV yX12_odd := ⟨in_gt 1074 (by decide +kernel) (by decide +kernel), in_gt 1075 (by decide +kernel) (by decide +kernel)⟩
theorem mv_X12_order : MV yX12_order := ⟨in_gt 1118 (by decide +kernel) (by decide +kernel), in_gt 1119 (by decide +kernel) (by decide +kernel)⟩
theorem mv_X12_pass : MV yX12_pass := ⟨in_gt 911 (by decide +kernel) (by decide +kernel), in_gt 912 (by decide +kernel) (by decide +kernel)⟩
theorem mv_X12_read : MV yX12_read := ⟨in_gt 1053 (by decide +kernel) (by decide +kernel), in_gt 1054 (by decide +kernel) (by decide +kernel)⟩
theorem mv_X12_say : MV yX12_say := ⟨in_gt 875 (by decide +kernel) (by decide +kernel), in_gt 876 (by decide +kernel) (by decide +kernel)⟩
theorem mv_X12_set : MV yX12_set := ⟨in_gt 936 (by decide +kernel) (by decide +kernel), in_gt 937 (by decide +kernel) (by decide +kernel)⟩
theorem mv_X12_shared : MV yX12_shared := ⟨in_gt 1134 (by decide +kernel) (by decide +kernel), in_gt 1135 (by decide +kernel) (by decide +kernel)⟩
theorem mv_X12_skill : MV yX12_skill := ⟨in_gt 1089 (by decide +kernel) (by decide +kernel), in_gt 1090 (by decide +kernel) (by decide +kernel)⟩
theorem mv_X12_span : MV yX12_span := ⟨in_gt 1104 (by decide +kernel) (by decide +kernel), in_gt 1105 (by decide +kernel) (by decide +kernel)⟩
theorem mv_X12_steps : MV yX12_steps := ⟨in_gt 1049 (by decide +kernel) (by decide +kernel), in_gt 1050 (by decide +kernel) (by decide +kernel)⟩
theorem mv_X12_strike : MV yX12_strike := ⟨in_gt 907 (by decide +kernel) (by decide +kernel), in_gt 908 (by decide +kernel) (by decide +kernel)⟩
theorem mv_X12_table : MV yX12_table := ⟨in_gt 930 (by decide +kernel) (by decide +kernel), in_gt 931 (by decide +kernel) (by decide +kernel)⟩
theorem mv_X12_take : MV yX12_take := ⟨in_gt 898 (by decide +kernel) (by decide +kernel), in_gt 899 (by decide +kernel) (by decide +kernel)⟩
theorem mv_X12_told : MV yX12_told := ⟨in_gt 1147 (by decide +kernel) (by decide +kernel), in_gt 1148 (by decide +kernel) (by decide +kernel)⟩
theorem mv_X12_twist : MV yX12_twist := ⟨in_gt 1005 (by decide +kernel) (by decide +kernel), in_gt 1006 (by decide +kernel) (by decide +kernel)⟩
theorem mv_X12_weld : MV yX12_weld := ⟨in_gt 1112 (by decide +kernel) (by decide +kernel), in_gt 1113 (by decide +kernel) (by decide +kernel)⟩
theorem mv_X12_widest : MV yX12_widest := ⟨in_gt 1108 (by decide +kernel) (by decide +kernel), in_gt 1109 (by decide +kernel) (by decide +kernel)⟩
theorem mv_X12_wipe : MV yX12_wipe := ⟨in_gt 884 (by decide +kernel) (by decide +kernel), in_gt 885 (by decide +kernel) (by decide +kernel)⟩
theorem mv_X12_wish : MV yX12_wish := ⟨in_gt 971 (by decide +kernel) (by decide +kernel), in_gt 972 (by decide +kernel) (by decide +kernel)⟩
theorem mv_X12_worst : MV yX12_worst := ⟨in_gt 993 (by decide +kernel) (by decide +kernel), in_gt 994 (by decide +kernel) (by decide +kernel)⟩
abbrev l_law_0 : List (Nat × Instr × Nat) := [(0, .new 7, 3), (3, .dup, 1), (4, .invokespecial 9, 3), (7, .astore_n 1, 1), (8, .new 10, 3), (11, .dup, 1), (12, .invokespecial 12, 3), (15, .astore_n 2, 1), (16, .iconst 0, 1), (17, .istore_n 3, 1), (18, .iload_n 3, 1), (19, .aload_n 0, 1), (20, .arraylength, 1), (21, .iconst 5, 1), (22, .isub, 1), (23, .if_icmp .gt 1028, 3), (26, .aload_n 0, 1), (27, .iload_n 3, 1), (28, .iaload, 1), (29, .bipush 31, 2), (31, .iand, 1), (32, .tableswitch 1013 0 31 #[144, 167, 180, 193, 206, 229, 262, 305, 338, 361, 384, 417, 440, 453, 476, 489, 574, 607, 630, 653, 686, 709, 732, 755, 788, 812, 855, 888, 901, 934, 957, 990], 144), (176, .aload_n 1, 1), (177, .aload_n 0, 1), (178, .iload_n 3, 1), (179, .iconst 1, 1), (180, .iadd, 1), (181, .iaload, 1), (182, .invokevirtual 13, 3), (185, .aload_n 2, 1), (186, .aload_n 0, 1), (187, .iload_n 3, 1), (188, .iconst 1, 1), (189, .iadd, 1), (190, .iaload, 1), (191, .invokevirtual 17, 3), (194, .if_icmp .eq 851, 3), (197, .iconst 0, 1), (198, .ireturn, 1), (199, .aload_n 1, 1), (200, .invokevirtual 18, 3), (203, .aload_n 2, 1), (204, .invokevirtual 22, 3), (207, .if_icmp .eq 838, 3), (210, .iconst 0, 1), (211, .ireturn, 1), (212, .aload_n 1, 1), (213, .invokevirtual 23, 3), (216, .aload_n 2, 1), (217, .invokevirtual 26, 3), (220, .if_icmp .eq 825, 3), (223, .iconst 0, 1), (224, .ireturn, 1), (225, .aload_n 1, 1), (226, .invokevirtual 27, 3), (229, .aload_n 2, 1), (230, .invokevirtual 30, 3), (233, .if_icmp .eq 812, 3), (236, .iconst 0, 1), (237, .ireturn, 1)]
theorem d_law_0 : dcOk code l_law_0 = true := by decide +kernel
abbrev l_law_1 : List (Nat × Instr × Nat) := [(238, .aload_n 1, 1), (239, .aload_n 0, 1), (240, .iload_n 3, 1), (241, .iconst 1, 1), (242, .iadd, 1), (243, .iaload, 1), (244, .invokevirtual 31, 3), (247, .aload_n 2, 1), (248, .aload_n 0, 1), (249, .iload_n 3, 1), (250, .iconst 1, 1), (251, .iadd, 1), (252, .iaload, 1), (253, .invokevirtual 34, 3), (256, .if_icmp .eq 789, 3), (259, .iconst 0, 1), (260, .ireturn, 1), (261, .aload_n 1, 1), (262, .aload_n 0, 1), (263, .iload_n 3, 1), (264, .iconst 1, 1), (265, .iadd, 1), (266, .iaload, 1), (267, .aload_n 0, 1), (268, .iload_n 3, 1), (269, .iconst 2, 1), (270, .iadd, 1), (271, .iaload, 1), (272, .invokevirtual 35, 3), (275, .aload_n 2, 1), (276, .aload_n 0, 1), (277, .iload_n 3, 1), (278, .iconst 1, 1), (279, .iadd, 1), (280, .iaload, 1), (281, .aload_n 0, 1), (282, .iload_n 3, 1), (283, .iconst 2, 1), (284, .iadd, 1), (285, .iaload, 1), (286, .invokevirtual 39, 3), (289, .if_icmp .eq 756, 3), (292, .iconst 0, 1), (293, .ireturn, 1), (294, .aload_n 1, 1), (295, .aload_n 0, 1), (296, .iload_n 3, 1), (297, .iconst 1, 1), (298, .iadd, 1), (299, .iaload, 1), (300, .aload_n 0, 1), (301, .iload_n 3, 1), (302, .iconst 2, 1), (303, .iadd, 1), (304, .iaload, 1), (305, .aload_n 0, 1), (306, .iload_n 3, 1), (307, .iconst 3, 1), (308, .iadd, 1), (309, .iaload, 1)]
theorem d_law_1 : dcOk code l_law_1 = true := by decide +kernel
abbrev l_law_2 : List (Nat × Instr × Nat) := [(310, .invokevirtual 40, 3), (313, .aload_n 2, 1), (314, .aload_n 0, 1), (315, .iload_n 3, 1), (316, .iconst 1, 1), (317, .iadd, 1), (318, .iaload, 1), (319, .aload_n 0, 1), (320, .iload_n 3, 1), (321, .iconst 2, 1), (322, .iadd, 1), (323, .iaload, 1), (324, .aload_n 0, 1), (325, .iload_n 3, 1), (326, .iconst 3, 1), (327, .iadd, 1), (328, .iaload, 1), (329, .invokevirtual 44, 3), (332, .if_icmp .eq 713, 3), (335, .iconst 0, 1), (336, .ireturn, 1), (337, .aload_n 1, 1), (338, .aload_n 0, 1), (339, .iload_n 3, 1), (340, .iconst 1, 1), (341, .iadd, 1), (342, .iaload, 1), (343, .aload_n 0, 1), (344, .iload_n 3, 1), (345, .iconst 2, 1), (346, .iadd, 1), (347, .iaload, 1), (348, .invokevirtual 45, 3), (351, .aload_n 2, 1), (352, .aload_n 0, 1), (353, .iload_n 3, 1), (354, .iconst 1, 1), (355, .iadd, 1), (356, .iaload, 1), (357, .aload_n 0, 1), (358, .iload_n 3, 1), (359, .iconst 2, 1), (360, .iadd, 1), (361, .iaload, 1), (362, .invokevirtual 48, 3), (365, .if_icmp .eq 680, 3), (368, .iconst 0, 1), (369, .ireturn, 1), (370, .aload_n 1, 1), (371, .aload_n 0, 1), (372, .iload_n 3, 1), (373, .iconst 1, 1), (374, .iadd, 1), (375, .iaload, 1), (376, .invokevirtual 49, 3), (379, .aload_n 2, 1), (380, .aload_n 0, 1), (381, .iload_n 3, 1), (382, .iconst 1, 1), (383, .iadd, 1)]
theorem d_law_2 : dcOk code l_law_2 = true := by decide +kernel
abbrev l_law_3 : List (Nat × Instr × Nat) := [(384, .iaload, 1), (385, .invokevirtual 52, 3), (388, .if_icmp .eq 657, 3), (391, .iconst 0, 1), (392, .ireturn, 1), (393, .aload_n 1, 1), (394, .aload_n 0, 1), (395, .iload_n 3, 1), (396, .iconst 1, 1), (397, .iadd, 1), (398, .iaload, 1), (399, .invokevirtual 53, 3), (402, .aload_n 2, 1), (403, .aload_n 0, 1), (404, .iload_n 3, 1), (405, .iconst 1, 1), (406, .iadd, 1), (407, .iaload, 1), (408, .invokevirtual 56, 3), (411, .if_icmp .eq 634, 3), (414, .iconst 0, 1), (415, .ireturn, 1), (416, .aload_n 1, 1), (417, .aload_n 0, 1), (418, .iload_n 3, 1), (419, .iconst 1, 1), (420, .iadd, 1), (421, .iaload, 1), (422, .aload_n 0, 1), (423, .iload_n 3, 1), (424, .iconst 2, 1), (425, .iadd, 1), (426, .iaload, 1), (427, .invokevirtual 57, 3), (430, .aload_n 2, 1), (431, .aload_n 0, 1), (432, .iload_n 3, 1), (433, .iconst 1, 1), (434, .iadd, 1), (435, .iaload, 1), (436, .aload_n 0, 1), (437, .iload_n 3, 1), (438, .iconst 2, 1), (439, .iadd, 1), (440, .iaload, 1), (441, .invokevirtual 60, 3), (444, .if_icmp .eq 601, 3), (447, .iconst 0, 1), (448, .ireturn, 1), (449, .aload_n 1, 1), (450, .aload_n 0, 1), (451, .iload_n 3, 1), (452, .iconst 1, 1), (453, .iadd, 1), (454, .iaload, 1), (455, .invokevirtual 61, 3), (458, .aload_n 2, 1), (459, .aload_n 0, 1), (460, .iload_n 3, 1), (461, .iconst 1, 1)]
theorem d_law_3 : dcOk code l_law_3 = true := by decide +kernel
abbrev l_law_4 : List (Nat × Instr × Nat) := [(462, .iadd, 1), (463, .iaload, 1), (464, .invokevirtual 64, 3), (467, .if_icmp .eq 578, 3), (470, .iconst 0, 1), (471, .ireturn, 1), (472, .aload_n 1, 1), (473, .invokevirtual 65, 3), (476, .aload_n 2, 1), (477, .invokevirtual 68, 3), (480, .if_icmp .eq 565, 3), (483, .iconst 0, 1), (484, .ireturn, 1), (485, .aload_n 1, 1), (486, .aload_n 0, 1), (487, .iload_n 3, 1), (488, .iconst 1, 1), (489, .iadd, 1), (490, .iaload, 1), (491, .invokevirtual 69, 3), (494, .aload_n 2, 1), (495, .aload_n 0, 1), (496, .iload_n 3, 1), (497, .iconst 1, 1), (498, .iadd, 1), (499, .iaload, 1), (500, .invokevirtual 72, 3), (503, .if_icmp .eq 542, 3), (506, .iconst 0, 1), (507, .ireturn, 1), (508, .aload_n 1, 1), (509, .invokevirtual 73, 3), (512, .aload_n 2, 1), (513, .invokevirtual 76, 3), (516, .if_icmp .eq 529, 3), (519, .iconst 0, 1), (520, .ireturn, 1), (521, .aload_n 1, 1), (522, .aload_n 0, 1), (523, .iload_n 3, 1), (524, .iconst 1, 1), (525, .iadd, 1), (526, .iaload, 1), (527, .aload_n 0, 1), (528, .iload_n 3, 1), (529, .iconst 2, 1), (530, .iadd, 1), (531, .iaload, 1), (532, .aload_n 0, 1), (533, .iload_n 3, 1), (534, .iconst 3, 1), (535, .iadd, 1), (536, .iaload, 1), (537, .ifCond .eq 7, 3), (540, .iconst 1, 1), (541, .goto 4, 3), (544, .iconst 0, 1), (545, .aload_n 0, 1), (546, .iload_n 3, 1), (547, .iconst 4, 1)]
theorem d_law_4 : dcOk code l_law_4 = true := by decide +kernel
abbrev l_law_5 : List (Nat × Instr × Nat) := [(548, .iadd, 1), (549, .iaload, 1), (550, .ifCond .eq 7, 3), (553, .iconst 1, 1), (554, .goto 4, 3), (557, .iconst 0, 1), (558, .invokevirtual 77, 3), (561, .aload_n 2, 1), (562, .aload_n 0, 1), (563, .iload_n 3, 1), (564, .iconst 1, 1), (565, .iadd, 1), (566, .iaload, 1), (567, .aload_n 0, 1), (568, .iload_n 3, 1), (569, .iconst 2, 1), (570, .iadd, 1), (571, .iaload, 1), (572, .aload_n 0, 1), (573, .iload_n 3, 1), (574, .iconst 3, 1), (575, .iadd, 1), (576, .iaload, 1), (577, .ifCond .eq 7, 3), (580, .iconst 1, 1), (581, .goto 4, 3), (584, .iconst 0, 1), (585, .aload_n 0, 1), (586, .iload_n 3, 1), (587, .iconst 4, 1), (588, .iadd, 1), (589, .iaload, 1), (590, .ifCond .eq 7, 3), (593, .iconst 1, 1), (594, .goto 4, 3), (597, .iconst 0, 1), (598, .invokevirtual 81, 3), (601, .if_icmp .eq 444, 3), (604, .iconst 0, 1), (605, .ireturn, 1), (606, .aload_n 1, 1), (607, .aload_n 0, 1), (608, .iload_n 3, 1), (609, .iconst 1, 1), (610, .iadd, 1), (611, .iaload, 1), (612, .aload_n 0, 1), (613, .iload_n 3, 1), (614, .iconst 2, 1), (615, .iadd, 1), (616, .iaload, 1), (617, .invokevirtual 82, 3), (620, .aload_n 2, 1), (621, .aload_n 0, 1), (622, .iload_n 3, 1), (623, .iconst 1, 1), (624, .iadd, 1), (625, .iaload, 1), (626, .aload_n 0, 1), (627, .iload_n 3, 1)]
theorem d_law_5 : dcOk code l_law_5 = true := by decide +kernel
abbrev l_law_6 : List (Nat × Instr × Nat) := [(628, .iconst 2, 1), (629, .iadd, 1), (630, .iaload, 1), (631, .invokevirtual 85, 3), (634, .if_icmp .eq 411, 3), (637, .iconst 0, 1), (638, .ireturn, 1), (639, .aload_n 1, 1), (640, .aload_n 0, 1), (641, .iload_n 3, 1), (642, .iconst 1, 1), (643, .iadd, 1), (644, .iaload, 1), (645, .invokevirtual 86, 3), (648, .aload_n 2, 1), (649, .aload_n 0, 1), (650, .iload_n 3, 1), (651, .iconst 1, 1), (652, .iadd, 1), (653, .iaload, 1), (654, .invokevirtual 89, 3), (657, .if_icmp .eq 388, 3), (660, .iconst 0, 1), (661, .ireturn, 1), (662, .aload_n 1, 1), (663, .aload_n 0, 1), (664, .iload_n 3, 1), (665, .iconst 1, 1), (666, .iadd, 1), (667, .iaload, 1), (668, .invokevirtual 90, 3), (671, .aload_n 2, 1), (672, .aload_n 0, 1), (673, .iload_n 3, 1), (674, .iconst 1, 1), (675, .iadd, 1), (676, .iaload, 1), (677, .invokevirtual 93, 3), (680, .if_icmp .eq 365, 3), (683, .iconst 0, 1), (684, .ireturn, 1), (685, .aload_n 1, 1), (686, .aload_n 0, 1), (687, .iload_n 3, 1), (688, .iconst 1, 1), (689, .iadd, 1), (690, .iaload, 1), (691, .aload_n 0, 1), (692, .iload_n 3, 1), (693, .iconst 2, 1), (694, .iadd, 1), (695, .iaload, 1), (696, .invokevirtual 94, 3), (699, .aload_n 2, 1), (700, .aload_n 0, 1), (701, .iload_n 3, 1), (702, .iconst 1, 1), (703, .iadd, 1), (704, .iaload, 1), (705, .aload_n 0, 1)]
theorem d_law_6 : dcOk code l_law_6 = true := by decide +kernel
abbrev l_law_7 : List (Nat × Instr × Nat) := [(706, .iload_n 3, 1), (707, .iconst 2, 1), (708, .iadd, 1), (709, .iaload, 1), (710, .invokevirtual 97, 3), (713, .if_icmp .eq 332, 3), (716, .iconst 0, 1), (717, .ireturn, 1), (718, .aload_n 1, 1), (719, .aload_n 0, 1), (720, .iload_n 3, 1), (721, .iconst 1, 1), (722, .iadd, 1), (723, .iaload, 1), (724, .invokevirtual 98, 3), (727, .aload_n 2, 1), (728, .aload_n 0, 1), (729, .iload_n 3, 1), (730, .iconst 1, 1), (731, .iadd, 1), (732, .iaload, 1), (733, .invokevirtual 101, 3), (736, .if_icmp .eq 309, 3), (739, .iconst 0, 1), (740, .ireturn, 1), (741, .aload_n 1, 1), (742, .aload_n 0, 1), (743, .iload_n 3, 1), (744, .iconst 1, 1), (745, .iadd, 1), (746, .iaload, 1), (747, .invokevirtual 102, 3), (750, .aload_n 2, 1), (751, .aload_n 0, 1), (752, .iload_n 3, 1), (753, .iconst 1, 1), (754, .iadd, 1), (755, .iaload, 1), (756, .invokevirtual 105, 3), (759, .if_icmp .eq 286, 3), (762, .iconst 0, 1), (763, .ireturn, 1), (764, .aload_n 1, 1), (765, .aload_n 0, 1), (766, .iload_n 3, 1), (767, .iconst 1, 1), (768, .iadd, 1), (769, .iaload, 1), (770, .invokevirtual 106, 3), (773, .aload_n 2, 1), (774, .aload_n 0, 1), (775, .iload_n 3, 1), (776, .iconst 1, 1), (777, .iadd, 1), (778, .iaload, 1), (779, .invokevirtual 109, 3), (782, .if_icmp .eq 263, 3), (785, .iconst 0, 1), (786, .ireturn, 1), (787, .aload_n 1, 1)]
theorem d_law_7 : dcOk code l_law_7 = true := by decide +kernel
abbrev l_law_8 : List (Nat × Instr × Nat) := [(788, .aload_n 0, 1), (789, .iload_n 3, 1), (790, .iconst 1, 1), (791, .iadd, 1), (792, .iaload, 1), (793, .aload_n 0, 1), (794, .iload_n 3, 1), (795, .iconst 2, 1), (796, .iadd, 1), (797, .iaload, 1), (798, .invokevirtual 110, 3), (801, .aload_n 2, 1), (802, .aload_n 0, 1), (803, .iload_n 3, 1), (804, .iconst 1, 1), (805, .iadd, 1), (806, .iaload, 1), (807, .aload_n 0, 1), (808, .iload_n 3, 1), (809, .iconst 2, 1), (810, .iadd, 1), (811, .iaload, 1), (812, .invokevirtual 113, 3), (815, .if_icmp .eq 230, 3), (818, .iconst 0, 1), (819, .ireturn, 1), (820, .aload_n 1, 1), (821, .aload_n 0, 1), (822, .iload_n 3, 1), (823, .iconst 1, 1), (824, .iadd, 1), (825, .iaload, 1), (826, .invokevirtual 114, 3), (829, .aload_n 2, 1), (830, .aload_n 0, 1), (831, .iload_n 3, 1), (832, .iconst 1, 1), (833, .iadd, 1), (834, .iaload, 1), (835, .invokevirtual 118, 3), (838, .lcmp, 1), (839, .ifCond .eq 206, 3), (842, .iconst 0, 1), (843, .ireturn, 1), (844, .aload_n 1, 1), (845, .aload_n 0, 1), (846, .iload_n 3, 1), (847, .iconst 1, 1), (848, .iadd, 1), (849, .iaload, 1), (850, .aload_n 0, 1), (851, .iload_n 3, 1), (852, .iconst 2, 1), (853, .iadd, 1), (854, .iaload, 1), (855, .aload_n 0, 1), (856, .iload_n 3, 1), (857, .iconst 3, 1), (858, .iadd, 1), (859, .iaload, 1)]
theorem d_law_8 : dcOk code l_law_8 = true := by decide +kernel
abbrev l_law_9 : List (Nat × Instr × Nat) := [(860, .invokevirtual 119, 3), (863, .aload_n 2, 1), (864, .aload_n 0, 1), (865, .iload_n 3, 1), (866, .iconst 1, 1), (867, .iadd, 1), (868, .iaload, 1), (869, .aload_n 0, 1), (870, .iload_n 3, 1), (871, .iconst 2, 1), (872, .iadd, 1), (873, .iaload, 1), (874, .aload_n 0, 1), (875, .iload_n 3, 1), (876, .iconst 3, 1), (877, .iadd, 1), (878, .iaload, 1), (879, .invokevirtual 122, 3), (882, .if_icmp .eq 163, 3), (885, .iconst 0, 1), (886, .ireturn, 1), (887, .aload_n 1, 1), (888, .aload_n 0, 1), (889, .iload_n 3, 1), (890, .iconst 1, 1), (891, .iadd, 1), (892, .iaload, 1), (893, .aload_n 0, 1), (894, .iload_n 3, 1), (895, .iconst 2, 1), (896, .iadd, 1), (897, .iaload, 1), (898, .invokevirtual 123, 3), (901, .aload_n 2, 1), (902, .aload_n 0, 1), (903, .iload_n 3, 1), (904, .iconst 1, 1), (905, .iadd, 1), (906, .iaload, 1), (907, .aload_n 0, 1), (908, .iload_n 3, 1), (909, .iconst 2, 1), (910, .iadd, 1), (911, .iaload, 1), (912, .invokevirtual 126, 3), (915, .if_icmp .eq 130, 3), (918, .iconst 0, 1), (919, .ireturn, 1), (920, .aload_n 1, 1), (921, .invokevirtual 127, 3), (924, .aload_n 2, 1), (925, .invokevirtual 130, 3), (928, .if_icmp .eq 117, 3), (931, .iconst 0, 1), (932, .ireturn, 1), (933, .aload_n 1, 1), (934, .aload_n 0, 1), (935, .iload_n 3, 1), (936, .iconst 1, 1), (937, .iadd, 1)]
theorem d_law_9 : dcOk code l_law_9 = true := by decide +kernel
abbrev l_law_10 : List (Nat × Instr × Nat) := [(938, .iaload, 1), (939, .aload_n 0, 1), (940, .iload_n 3, 1), (941, .iconst 2, 1), (942, .iadd, 1), (943, .iaload, 1), (944, .invokevirtual 131, 3), (947, .aload_n 2, 1), (948, .aload_n 0, 1), (949, .iload_n 3, 1), (950, .iconst 1, 1), (951, .iadd, 1), (952, .iaload, 1), (953, .aload_n 0, 1), (954, .iload_n 3, 1), (955, .iconst 2, 1), (956, .iadd, 1), (957, .iaload, 1), (958, .invokevirtual 134, 3), (961, .if_icmp .eq 84, 3), (964, .iconst 0, 1), (965, .ireturn, 1), (966, .aload_n 1, 1), (967, .aload_n 0, 1), (968, .iload_n 3, 1), (969, .iconst 1, 1), (970, .iadd, 1), (971, .iaload, 1), (972, .invokevirtual 135, 3), (975, .aload_n 2, 1), (976, .aload_n 0, 1), (977, .iload_n 3, 1), (978, .iconst 1, 1), (979, .iadd, 1), (980, .iaload, 1), (981, .invokevirtual 138, 3), (984, .if_icmp .eq 61, 3), (987, .iconst 0, 1), (988, .ireturn, 1), (989, .aload_n 1, 1), (990, .aload_n 0, 1), (991, .iload_n 3, 1), (992, .iconst 1, 1), (993, .iadd, 1), (994, .iaload, 1), (995, .aload_n 0, 1), (996, .iload_n 3, 1), (997, .iconst 2, 1), (998, .iadd, 1), (999, .iaload, 1), (1000, .invokevirtual 139, 3), (1003, .aload_n 2, 1), (1004, .aload_n 0, 1), (1005, .iload_n 3, 1), (1006, .iconst 1, 1), (1007, .iadd, 1), (1008, .iaload, 1), (1009, .aload_n 0, 1), (1010, .iload_n 3, 1), (1011, .iconst 2, 1)]
theorem d_law_10 : dcOk code l_law_10 = true := by decide +kernel
abbrev l_law_11 : List (Nat × Instr × Nat) := [(1012, .iadd, 1), (1013, .iaload, 1), (1014, .invokevirtual 142, 3), (1017, .if_icmp .eq 28, 3), (1020, .iconst 0, 1), (1021, .ireturn, 1), (1022, .aload_n 1, 1), (1023, .aload_n 0, 1), (1024, .iload_n 3, 1), (1025, .iconst 1, 1), (1026, .iadd, 1), (1027, .iaload, 1), (1028, .invokevirtual 143, 3), (1031, .aload_n 2, 1), (1032, .aload_n 0, 1), (1033, .iload_n 3, 1), (1034, .iconst 1, 1), (1035, .iadd, 1), (1036, .iaload, 1), (1037, .invokevirtual 146, 3), (1040, .if_icmp .eq 5, 3), (1043, .iconst 0, 1), (1044, .ireturn, 1), (1045, .iinc 3 5, 3), (1048, .goto (-1030), 3), (1051, .iconst 1, 1), (1052, .ireturn, 1)]
theorem d_law_11 : dcOk code l_law_11 = true := by decide +kernel
