/-! The kit's rows over 'Wd' and 'Cx'. -/
/-- a field's link out of a class: pool number, class number, slot -/
def FL (own : String) (index ci k : Nat) : Prop := ∃ (C : String) (T : u_T) (N : Nat), vwCl[ci]? = some (C, T, N) ∧ k < N ∧ Cond.fieldLink own index (T k).1 (T k).2.1 (T k).2.2.1 ∈ gt ∧ (∀ w ∈ u_ws C T N, w ∈ gt)
/-- a field that may be written: its type -/
def FW (ci k : Nat) (ty : FieldType) : Prop := ∃ (C : String) (T : u_T) (N : Nat) (ty0 : Nat → FieldType), vwCl[ci]? = some (C, T, N) ∧ k < N ∧ (∀ k, k < N → parseFieldDescriptor (T k).2.2.1 = some (ty0 k)) ∧ (∀ a, a < N → ∀ b, b < N → a ≠ b → (T a).2.1 ≠ (T b).2.1) ∧ (T k).2.2.2 = false ∧ parseFieldDescriptor (T k).2.2.1 = some ty
section XR
variable {p : Program} {l : Launch} {e : Env} {R : Room} {s : State} {m : MethodId} {args : Array Value} {below : List Frame} {meth : Method} {c : Code} {H : Heap} {locs : List Loc} {cells slots : Nat} {Q : State → Prop}
variable {own : String} {cc : ByteArray} {maxL : Nat} {ret : Option FieldType} {D : va_G} {cI cC cZ : ClassId} {A : Nat → Prop} {H0 : Heap} {ws : va_W} {pc : Nat} {ls : Array Slot} {rest : List Value} {a : Nat}
theorem x_get (C : Cx p s m args meth c own cc maxL ret D cI cC cZ) (hw : Wd D A H0 ws H locs) {index ci k : Nat} (F : FL own index ci k) (q0 : Nat) {fs : List Value} (he : ws[q0]? = some (a, .inr (ci, fs))) {v : Value} (hv : fs[k]? = some v) (hdg : decode cc pc = .ok (.getfield index, 3))
    (kk : W p l e R s m args below meth c H locs cells slots Q (F0 m (pc + 3) ls (v :: rest))) : W p l e R s m args below meth c H locs cells slots Q (F0 m pc ls (.ref a :: rest)) := by
  obtain ⟨C1, T, N, hc, hk, hl, hin⟩ := F
  obtain ⟨hx, hb, -, -, hown, -, hts, hK⟩ := C
  exact va_get hx hb hts hin hown hK hw.1 q0 he hc k hk (hts _ hl) (fun _ h => h) hv hdg kk
theorem x_put (C : Cx p s m args meth c own cc maxL ret D cI cC cZ) (hw : Wd D A H0 ws H locs) {index ci k : Nat} {ty : FieldType} (F : FL own index ci k) (G : FW ci k ty) (q0 : Nat) {fs : List Value} (he : ws[q0]? = some (a, .inr (ci, fs))) {v : Value} (hn : narrow ty v = v) (hfit : fits ty v = true) (hl : k < fs.length) (hdg : decode cc pc = .ok (.putfield index, 3))
    (kk : ∀ (H1 : Heap) (locs1 : List Loc), Wd D A H0 (ws.set q0 (a, .inr (ci, fs.set k v))) H1 locs1 → W p l e R s m args below meth c H1 locs1 cells slots Q (F0 m (pc + 3) ls rest)) : W p l e R s m args below meth c H locs cells slots Q (F0 m pc ls (v :: .ref a :: rest)) := by
  obtain ⟨C1, T, N, hc, hk, hlk, hin⟩ := F
  obtain ⟨C2, T2, N2, ty0, hc2, hk2, hty, hnm, hfin, hd⟩ := G
  rw [hc] at hc2
  cases hc2
  obtain ⟨hx, hb, -, -, hown, -, hts, hK⟩ := C
  exact va_put hx hb hts hin ty0 hty hnm hown hK hw.1 hw.2.1 hw.2.2 q0 he hc k hk (hts _ hlk) (fun _ h => h) hfin hd hn hfit hl hdg (fun H1 locs1 h1 h2 h3 => kk H1 locs1 ⟨h1, h2, h3⟩)
theorem x_iald (C : Cx p s m args meth c own cc maxL ret D cI cC cZ) (hw : Wd D A H0 ws H locs) (q0 : Nat) {n : Nat} {f : Nat → Int32} (ha : ws[q0]? = some (a, .inl (cI, n, .inl f))) {i : Int32} (hin : vin i n = true) (hdg : decode cc pc = .ok (.iaload, 1))
    (kk : W p l e R s m args below meth c H locs cells slots Q (F0 m (pc + 1) ls (.int (f i.toNatClampNeg) :: rest))) : W p l e R s m args below meth c H locs cells slots Q (F0 m pc ls (.int i :: .ref a :: rest)) :=
  va_iald C.1 C.2.1 C.2.2.2.2.2.2.2 hw.1 q0 0 ha rfl (vin_in hin) hdg kk
theorem x_cald (C : Cx p s m args meth c own cc maxL ret D cI cC cZ) (hw : Wd D A H0 ws H locs) (q0 : Nat) {n : Nat} {f : Nat → Int32} (ha : ws[q0]? = some (a, .inl (cC, n, .inl f))) {i : Int32} (hin : vin i n = true) (hdg : decode cc pc = .ok (.caload, 1))
    (kk : W p l e R s m args below meth c H locs cells slots Q (F0 m (pc + 1) ls (.int (f i.toNatClampNeg) :: rest))) : W p l e R s m args below meth c H locs cells slots Q (F0 m pc ls (.int i :: .ref a :: rest)) :=
  va_cald C.1 C.2.1 C.2.2.2.2.2.2.2 hw.1 q0 1 ha rfl (vin_in hin) hdg kk
theorem x_zald (C : Cx p s m args meth c own cc maxL ret D cI cC cZ) (hw : Wd D A H0 ws H locs) (q0 : Nat) {n : Nat} {f : Nat → Int32} (ha : ws[q0]? = some (a, .inl (cZ, n, .inl f))) {i : Int32} (hin : vin i n = true) (hdg : decode cc pc = .ok (.baload, 1))
    (kk : W p l e R s m args below meth c H locs cells slots Q (F0 m (pc + 1) ls (.int (f i.toNatClampNeg) :: rest))) : W p l e R s m args below meth c H locs cells slots Q (F0 m pc ls (.int i :: .ref a :: rest)) :=
  va_zald C.1 C.2.1 C.2.2.2.2.2.2.2 hw.1 q0 2 ha rfl (vin_in hin) hdg kk
theorem x_iast (C : Cx p s m args meth c own cc maxL ret D cI cC cZ) (hw : Wd D A H0 ws H locs) (q0 : Nat) {n : Nat} {f : Nat → Int32} (ha : ws[q0]? = some (a, .inl (cI, n, .inl f))) {i x : Int32} (hin : vin i n = true) (hdg : decode cc pc = .ok (.iastore, 1))
    (kk : ∀ (H1 : Heap) (locs1 : List Loc), Wd D A H0 (ws.set q0 (a, .inl (cI, n, .inl (upd f i.toNatClampNeg x)))) H1 locs1 → W p l e R s m args below meth c H1 locs1 cells slots Q (F0 m (pc + 1) ls rest)) : W p l e R s m args below meth c H locs cells slots Q (F0 m pc ls (.int x :: .int i :: .ref a :: rest)) :=
  va_iast C.1 C.2.1 C.2.2.2.2.2.2.2 hw.1 hw.2.1 hw.2.2 q0 0 ha rfl (vin_in hin) hdg (fun H1 locs1 h1 h2 h3 => kk H1 locs1 ⟨h1, h2, h3⟩)
theorem x_zast (C : Cx p s m args meth c own cc maxL ret D cI cC cZ) (hw : Wd D A H0 ws H locs) (q0 : Nat) {n : Nat} {f : Nat → Int32} (ha : ws[q0]? = some (a, .inl (cZ, n, .inl f))) {i x : Int32} (hin : vin i n = true) (hdg : decode cc pc = .ok (.bastore, 1))
    (kk : ∀ (H1 : Heap) (locs1 : List Loc), Wd D A H0 (ws.set q0 (a, .inl (cZ, n, .inl (upd f i.toNatClampNeg (vp_nar .boolean x))))) H1 locs1 → W p l e R s m args below meth c H1 locs1 cells slots Q (F0 m (pc + 1) ls rest)) : W p l e R s m args below meth c H locs cells slots Q (F0 m pc ls (.int x :: .int i :: .ref a :: rest)) :=
  va_zast C.1 C.2.1 C.2.2.2.2.2.2.2 hw.1 hw.2.1 hw.2.2 q0 2 ha rfl (vin_in hin) hdg (fun H1 locs1 h1 h2 h3 => kk H1 locs1 ⟨h1, h2, h3⟩)
theorem x_cast (C : Cx p s m args meth c own cc maxL ret D cI cC cZ) (hw : Wd D A H0 ws H locs) (q0 : Nat) {n : Nat} {f : Nat → Int32} (ha : ws[q0]? = some (a, .inl (cC, n, .inl f))) {i x : Int32} (hin : vin i n = true) (hdg : decode cc pc = .ok (.castore, 1))
    (kk : ∀ (H1 : Heap) (locs1 : List Loc), Wd D A H0 (ws.set q0 (a, .inl (cC, n, .inl (upd f i.toNatClampNeg (vp_nar .char x))))) H1 locs1 → W p l e R s m args below meth c H1 locs1 cells slots Q (F0 m (pc + 1) ls rest)) : W p l e R s m args below meth c H locs cells slots Q (F0 m pc ls (.int x :: .int i :: .ref a :: rest)) :=
  va_cast C.1 C.2.1 C.2.2.2.2.2.2.2 hw.1 hw.2.1 hw.2.2 q0 1 ha rfl (vin_in hin) hdg (fun H1 locs1 h1 h2 h3 => kk H1 locs1 ⟨h1, h2, h3⟩)
theorem x_alen (C : Cx p s m args meth c own cc maxL ret D cI cC cZ) (hw : Wd D A H0 ws H locs) (q0 : Nat) {n : Nat} {f : Nat → Int32} (ha : ws[q0]? = some (a, .inl (cI, n, .inl f))) (hdg : decode cc pc = .ok (.arraylength, 1))
    (kk : W p l e R s m args below meth c H locs cells slots Q (F0 m (pc + 1) ls (.int (Int32.ofNat n) :: rest))) : W p l e R s m args below meth c H locs cells slots Q (F0 m pc ls (.ref a :: rest)) :=
  va_alen C.1 C.2.1 C.2.2.2.2.2.2.2 hw.1 q0 0 ha rfl rfl hdg kk
theorem x_ldc (C : Cx p s m args meth c own cc maxL ret D cI cC cZ) {index : Nat} {v : Int32} (hm : Cond.constant own index v ∈ gt) (hdg : decode cc pc = .ok (.ldc index, 2))
    (kk : W p l e R s m args below meth c H locs cells slots Q (F0 m (pc + 2) ls (.int v :: rest))) : W p l e R s m args below meth c H locs cells slots Q (F0 m pc ls rest) :=
  lv_ldc C.1 C.2.1 C.2.2.2.2.1 (C.2.2.2.2.2.2.1 _ hm) hdg kk
theorem x_ldc2 (C : Cx p s m args meth c own cc maxL ret D cI cC cZ) {index : Nat} {v : Int64} (hm : Cond.constantLong own index v ∈ gt) (hdg : decode cc pc = .ok (.ldc2_w index, 3))
    (kk : W p l e R s m args below meth c H locs cells slots Q (F0 m (pc + 3) ls (.long v :: rest))) : W p l e R s m args below meth c H locs cells slots Q (F0 m pc ls rest) :=
  lv_ldc2 C.1 C.2.1 C.2.2.2.2.1 (C.2.2.2.2.2.2.1 _ hm) hdg kk
end XR
/-- what the tables say of a method that is called -/
def MB (y : MethodName) (cc : ByteArray) (maxL : Nat) (ret : Option FieldType) (n : Nat) : Prop := Cond.code y cc maxL ret ∈ gt ∧ Cond.initialized y.cls ∈ gt ∧ (y.cls ≠ "java/lang/invoke/MethodHandle" ∧ y.cls ≠ "java/lang/invoke/VarHandle" ∧ (parseMethodDescriptor y.desc).map (fun d => d.parameters.length) = some n)
def MV (y : MethodName) : Prop := Cond.instanceMethod y ∈ gt ∧ Cond.selects y.cls y y ∈ gt
theorem Ctr.blind {D : va_G} {w : va_W} {av : List Value} {cI cC cZ : ClassId} : FrameBlind (va_Pc av (fun U => va_P D vwCl w U.heap ∧ va_K D vwCl (tys3 cI cC cZ) U ∧ va_D (fun _ => True) w)) := by
  intro a U g mk h
  obtain ⟨h1, h2, h3, h4⟩ := h
  exact ⟨h1, h2, va_K.moved (u := U) (U := U.calling g mk a) (Vm.Alike.refl U.vm) h3, h4⟩
theorem sel_P {D : va_G} {ws w : va_W} {H : Heap} (hP : va_P D vwCl ws H) (isC : List Nat) (hsel : isC.map (fun i => ws[i]?) = w.map some) : va_P D vwCl w H := by
  intro j q hq
  have h1 : (isC.map (fun i => ws[i]?))[j]? = some (some q) := by rw [hsel, List.getElem?_map, hq]; rfl
  rw [List.getElem?_map] at h1
  cases hi : isC[j]? with
  | none => rw [hi] at h1; cases h1
  | some i => rw [hi] at h1; exact hP i q (Option.some.inj h1)
section XC
variable {p : Program} {l : Launch} {e : Env} {F0' L0 : Nat} {s : State} {m : MethodId} {args : Array Value} {below : List Frame} {meth : Method} {c : Code} {H : Heap} {locs : List Loc} {Q : State → Prop}
variable {own : String} {cc : ByteArray} {maxL : Nat} {ret : Option FieldType} {D : va_G} {cI cC cZ : ClassId} {A : Nat → Prop} {H0 : Heap} {ws : va_W} {pc : Nat} {ls : Array Slot} {rest st : List Value} {a : Nat}
theorem x_behind {R : Room} {y : MethodName} {w w' : va_W} {r : Option Value} {a1 : Array Value} (hw : Wd D A H0 ws H locs) (isC : List Nat) (hsel : isC.map (fun i => ws[i]?) = w.map some) (hadr : w'.map Prod.fst = w.map Prod.fst)
    (hr : va_Run p l e R s m args below meth c H locs 0 0 0 0 (F0 m pc ls st) rest (CtQ D w w' r a1) (inW w))
    (kk : ∀ (H1 : Heap) (locs1 : List Loc), Wd D A H0 (mix ws isC w') H1 locs1 → W p l e R s m args below meth c H1 locs1 0 0 Q (F0 m (pc + 3) ls (r.toList ++ rest))) : W p l e R s m args below meth c H locs 0 0 Q (F0 m pc ls st) := by
  intro T hT X
  obtain ⟨v, st₀, t, T', L, h0, X', hL, e1, e2, ⟨hv, hP1, hz, hk⟩, stp⟩ := hr T hT X
  cases hv
  rw [h0] at hz hk
  obtain ⟨hP, hD, hS⟩ := hw
  have hin : ∀ q, inW w q → A q := by
    intro q hq
    obtain ⟨j, e, h3⟩ := hq
    have h1 : (isC.map (fun i => ws[i]?))[j]? = some (some (q, e)) := by rw [hsel, List.getElem?_map, h3]; rfl
    rw [List.getElem?_map] at h1
    cases hi : isC[j]? with
    | none => rw [hi] at h1; cases h1
    | some i => rw [hi] at h1; exact hD.2 i (q, e) (Option.some.inj h1)
  obtain ⟨hP2, hD2⟩ := mix_ok (H1 := t.heap) hP hD isC hsel hadr hk hP1
  have hS2 : va_S A H0 t.heap (locs ++ L) := ⟨Nat.le_trans hS.1 hz, fun q h1 h2 => by rw [hk q (Nat.lt_of_lt_of_le h1 hS.1) (fun z => h2 (hin q z))]; exact hS.2.1 q h1 h2, fun q hq => by
      rcases List.mem_append.mp hq with h | h
      · exact hS.2.2 q h
      · exact hin _ (hL q h)⟩
  obtain ⟨t2, a2, b2⟩ := kk t.heap (locs ++ L) ⟨hP2, hD2, hS2⟩ T' e1 X'
  exact ⟨t2, stp t2 a2, b2⟩
theorem x_callB (C : Cx p s m args meth c own cc maxL ret D cI cC cZ) {y : MethodName} {bytes : ByteArray} {mL n index : Nat} {rt : Option FieldType} {F L : Nat} (M : MB y bytes mL rt n) (K : Cond.methodLink own index y ∈ gt) (hF : F + 1 ≤ F0') (hLo : 8 + (mL + 11) + L ≤ L0) :
    CallB (rmOf F0' L0) s args own index y bytes mL rt (wsOf y bytes mL rt) (rmOf F L) 0 0 n := by
  obtain ⟨h1, h2, h3, h4, h5⟩ := M
  have hts := C.2.2.2.2.2.2.1
  refine ⟨rfl, rfl, hF, hLo, fun w hw a' U hW => ?_, List.mem_cons_self, hts _ h1, hts _ h2, ⟨h3, h4⟩, fun sig h => ?_, hts _ K⟩
  · rcases List.mem_cons.mp hw with rfl | hw
    · exact gt_warm h1 (hts _ h1) a' U hW
    · exact gt_warm hw (hts _ hw) a' U hW
  · rw [h] at h5
    exact (Option.some.inj h5).symm
theorem x_pre {w : va_W} {As : List Value} (C : Cx p s m args meth c own cc maxL ret D cI cC cZ) (hw : Wd D A H0 ws H locs) (isC : List Nat) (hsel : isC.map (fun i => ws[i]?) = w.map some) (hnd : va_nd isC = true) : PreS s H (va_Pc As (fun U => va_P D vwCl w U.heap ∧ va_K D vwCl (tys3 cI cC cZ) U ∧ va_D (fun _ => True) w)) As :=
  ⟨Ctr.blind, fun U hU hW => ⟨rfl, by rw [hU]; exact sel_P hw.1 isC hsel, va_K.moved hW.alike C.2.2.2.2.2.2.2, (hw.2.1.sub (ws' := w) isC hnd hsel).weaken (fun _ _ _ _ => trivial)⟩⟩
theorem x_callV (C : Cx p s m args meth c own cc maxL ret D cI cC cZ) (hw : Wd D A H0 ws H locs) {y : MethodName} {bytes : ByteArray} {mL n index : Nat} {rt : Option FieldType} {F L : Nat} (M : MB y bytes mL rt n) (V : MV y) (K : Cond.methodLink own index y ∈ gt) {b : Nat} {As : List Value} {w w' : va_W} {r : Option Value}
    (hc : Ctr l y bytes mL rt F L D cI cC cZ (.ref b :: As) w w' r) (hls : ls.size = maxL) (hst : st = As.reverse ++ .ref b :: rest) (hn : As.length = n) (isC : List Nat) (hsel : isC.map (fun i => ws[i]?) = w.map some) (hnd : va_nd isC = true) (hadr : w'.map Prod.fst = w.map Prod.fst) (q0 ci : Nat) {fs : List Value} (hq : ws[q0]? = some (b, .inr (ci, fs))) (hcl : (vwCl[ci]?).map (fun q => q.1) = some y.cls)
    (hF : F + 1 ≤ F0') (hLo : 8 + (mL + 11) + L ≤ L0) (hro : (rest.map fun v => v.category).sum ≤ 8) (hdg : decode cc pc = .ok (.invokevirtual index, 3))
    (kk : ∀ (H1 : Heap) (locs1 : List Loc), Wd D A H0 (mix ws isC w') H1 locs1 → W p l e (rmOf F0' L0) s m args below meth c H1 locs1 0 0 Q (F0 m (pc + 3) ls (r.toList ++ rest))) : W p l e (rmOf F0' L0) s m args below meth c H locs 0 0 Q (F0 m pc ls st) := by
  have hB := x_callB (F0' := F0') (L0 := L0) C M K hF hLo
  have hp := x_pre (As := .ref b :: As) C hw isC hsel hnd
  have hts := C.2.2.2.2.2.2.1
  have hrc : ∃ cellB : Cell, H[b]? = some cellB ∧ cellB.vm.isStatics = false ∧ s.vm.findClass y.cls = some cellB.cls := by
    cases hv : vwCl[ci]? with
    | none => rw [hv] at hcl; cases hcl
    | some z =>
      rw [hv] at hcl
      have hz : z.1 = y.cls := Option.some.inj hcl
      rw [← hz]
      exact va_recv C.2.2.2.2.2.2.2 hw.1 (ci := ci) (q0 := q0) hv hq
  exact x_behind (y := y) hw isC hsel hadr (va_runV (As := As) (rest := rest) (g := F0 m pc ls st) ⟨C.1, C.2.1, C.2.2.2.1, C.2.2.2.2.1, hts⟩ hc ⟨hB, hts _ V.1, hts _ V.2⟩ ⟨hp.1, hrc, hp.2⟩ rfl hn hls hst (lv_room hro) hdg ⟨Nat.le_refl _, Nat.le_refl _⟩) kk
theorem x_behind_a {R : Room} {w' : va_W} {r : Option Value} {a1 : Array Value} (hw : Wd D A H0 ws H locs) (hadr : w'.map Prod.fst = ws.map Prod.fst)
    (hr : va_Run p l e R s m args below meth c H locs 0 0 0 0 (F0 m pc ls st) rest (CtQ D ws w' r a1) (inW ws))
    (kk : ∀ (H1 : Heap) (locs1 : List Loc), Wd D A H0 w' H1 locs1 → W p l e R s m args below meth c H1 locs1 0 0 Q (F0 m (pc + 3) ls (r.toList ++ rest))) : W p l e R s m args below meth c H locs 0 0 Q (F0 m pc ls st) := by
  intro T hT X
  obtain ⟨v, st₀, t, T', L, h0, X', hL, e1, e2, ⟨hv, hP1, hz, hk⟩, stp⟩ := hr T hT X
  cases hv
  rw [h0] at hz hk
  obtain ⟨hP, hD, hS⟩ := hw
  have hin : ∀ q, inW ws q → A q := fun q hq => by
    obtain ⟨j, e, h3⟩ := hq
    exact hD.2 j (q, e) h3
  have adr : ∀ (j : Nat) (q : Nat × va_E), w'[j]? = some q → ∃ q', ws[j]? = some q' ∧ q'.1 = q.1 := by
    intro j q hq
    have h1 : (w'.map Prod.fst)[j]? = some q.1 := by rw [List.getElem?_map, hq]; rfl
    rw [hadr, List.getElem?_map] at h1
    cases hi : ws[j]? with
    | none => rw [hi] at h1; cases h1
    | some i => rw [hi] at h1; exact ⟨i, rfl, Option.some.inj h1⟩
  have hD2 : va_D A w' := ⟨fun i j x y hx hy hxy => by
    obtain ⟨x', h1, h2⟩ := adr i x hx
    obtain ⟨y', h3, h4⟩ := adr j y hy
    exact hD.1 i j x' y' h1 h3 (by rw [h2, h4, hxy]), fun k q hq => by
    obtain ⟨q', h1, h2⟩ := adr k q hq
    rw [← h2]
    exact hD.2 k q' h1⟩
  have hS2 : va_S A H0 t.heap (locs ++ L) := ⟨Nat.le_trans hS.1 hz, fun q h1 h2 => by rw [hk q (Nat.lt_of_lt_of_le h1 hS.1) (fun z => h2 (hin q z))]; exact hS.2.1 q h1 h2, fun q hq => by
      rcases List.mem_append.mp hq with h | h
      · exact hS.2.2 q h
      · exact hin _ (hL q h)⟩
  obtain ⟨t2, a2, b2⟩ := kk t.heap (locs ++ L) ⟨hP1, hD2, hS2⟩ T' e1 X'
  exact ⟨t2, stp t2 a2, b2⟩
theorem x_callVa (C : Cx p s m args meth c own cc maxL ret D cI cC cZ) (hw : Wd D A H0 ws H locs) {y : MethodName} {bytes : ByteArray} {mL n index : Nat} {rt : Option FieldType} {F L : Nat} (M : MB y bytes mL rt n) (V : MV y) (K : Cond.methodLink own index y ∈ gt) {b : Nat} {As : List Value} {w' : va_W} {r : Option Value}
    (hc : Ctr l y bytes mL rt F L D cI cC cZ (.ref b :: As) ws w' r) (hls : ls.size = maxL) (hst : st = As.reverse ++ .ref b :: rest) (hn : As.length = n) (hadr : w'.map Prod.fst = ws.map Prod.fst) (q0 ci : Nat) {fs : List Value} (hq : ws[q0]? = some (b, .inr (ci, fs))) (hcl : (vwCl[ci]?).map (fun q => q.1) = some y.cls)
    (hF : F + 1 ≤ F0') (hLo : 8 + (mL + 11) + L ≤ L0) (hro : (rest.map fun v => v.category).sum ≤ 8) (hdg : decode cc pc = .ok (.invokevirtual index, 3))
    (kk : ∀ (H1 : Heap) (locs1 : List Loc), Wd D A H0 w' H1 locs1 → W p l e (rmOf F0' L0) s m args below meth c H1 locs1 0 0 Q (F0 m (pc + 3) ls (r.toList ++ rest))) : W p l e (rmOf F0' L0) s m args below meth c H locs 0 0 Q (F0 m pc ls st) := by
  have hB := x_callB (F0' := F0') (L0 := L0) C M K hF hLo
  have hts := C.2.2.2.2.2.2.1
  have hp : PreS s H (va_Pc (.ref b :: As) (fun U => va_P D vwCl ws U.heap ∧ va_K D vwCl (tys3 cI cC cZ) U ∧ va_D (fun _ => True) ws)) (.ref b :: As) :=
    ⟨Ctr.blind, fun U hU hW => ⟨rfl, by rw [hU]; exact hw.1, va_K.moved hW.alike C.2.2.2.2.2.2.2, hw.2.1.weaken (fun _ _ _ _ => trivial)⟩⟩
  have hrc : ∃ cellB : Cell, H[b]? = some cellB ∧ cellB.vm.isStatics = false ∧ s.vm.findClass y.cls = some cellB.cls := by
    cases hv : vwCl[ci]? with
    | none => rw [hv] at hcl; cases hcl
    | some z =>
      rw [hv] at hcl
      have hz : z.1 = y.cls := Option.some.inj hcl
      rw [← hz]
      exact va_recv C.2.2.2.2.2.2.2 hw.1 (ci := ci) (q0 := q0) hv hq
  exact x_behind_a hw hadr (va_runV (As := As) (rest := rest) (g := F0 m pc ls st) ⟨C.1, C.2.1, C.2.2.2.1, C.2.2.2.2.1, hts⟩ hc ⟨hB, hts _ V.1, hts _ V.2⟩ ⟨hp.1, hrc, hp.2⟩ rfl hn hls hst (lv_room hro) hdg ⟨Nat.le_refl _, Nat.le_refl _⟩) kk
theorem x_callS (C : Cx p s m args meth c own cc maxL ret D cI cC cZ) (hw : Wd D A H0 ws H locs) {y : MethodName} {bytes : ByteArray} {mL n index : Nat} {rt : Option FieldType} {F L : Nat} (M : MB y bytes mL rt n) (V : Cond.static y ∈ gt) (K : Cond.methodLink own index y ∈ gt) {As : List Value} {w w' : va_W} {r : Option Value}
    (hc : Ctr l y bytes mL rt F L D cI cC cZ As w w' r) (hls : ls.size = maxL) (hst : st = As.reverse ++ rest) (hn : As.length = n) (isC : List Nat) (hsel : isC.map (fun i => ws[i]?) = w.map some) (hnd : va_nd isC = true) (hadr : w'.map Prod.fst = w.map Prod.fst)
    (hF : F + 1 ≤ F0') (hLo : 8 + (mL + 11) + L ≤ L0) (hro : (rest.map fun v => v.category).sum ≤ 8) (hdg : decode cc pc = .ok (.invokestatic index, 3))
    (kk : ∀ (H1 : Heap) (locs1 : List Loc), Wd D A H0 (mix ws isC w') H1 locs1 → W p l e (rmOf F0' L0) s m args below meth c H1 locs1 0 0 Q (F0 m (pc + 3) ls (r.toList ++ rest))) : W p l e (rmOf F0' L0) s m args below meth c H locs 0 0 Q (F0 m pc ls st) := by
  have hB := x_callB (F0' := F0') (L0 := L0) C M K hF hLo
  have hp := x_pre (As := As) C hw isC hsel hnd
  have hts := C.2.2.2.2.2.2.1
  exact x_behind (y := y) hw isC hsel hadr (va_runS (As := As) (rest := rest) (g := F0 m pc ls st) ⟨C.1, C.2.1, C.2.2.2.1, C.2.2.2.2.1, hts⟩ hc ⟨hB, hts _ V⟩ hp rfl hn hls hst (lv_room hro) hdg ⟨Nat.le_refl _, Nat.le_refl _⟩) kk
theorem x_callSN (C : Cx p s m args meth c own cc maxL ret D cI cC cZ) (hw : Wd D A H0 ws H locs) {y : MethodName} {host : String} {bytes : ByteArray} {mL n index : Nat} {rt : Option FieldType} {F L : Nat} (M : MB y bytes mL rt n) (V : Cond.static y ∈ gt) (K : Cond.methodLinkNest own index y host ∈ gt) {As : List Value} {w w' : va_W} {r : Option Value}
    (hc : Ctr l y bytes mL rt F L D cI cC cZ As w w' r) (hls : ls.size = maxL) (hst : st = As.reverse ++ rest) (hn : As.length = n) (isC : List Nat) (hsel : isC.map (fun i => ws[i]?) = w.map some) (hnd : va_nd isC = true) (hadr : w'.map Prod.fst = w.map Prod.fst)
    (hF : F + 1 ≤ F0') (hLo : 8 + (mL + 11) + L ≤ L0) (hro : (rest.map fun v => v.category).sum ≤ 8) (hdg : decode cc pc = .ok (.invokestatic index, 3))
    (kk : ∀ (H1 : Heap) (locs1 : List Loc), Wd D A H0 (mix ws isC w') H1 locs1 → W p l e (rmOf F0' L0) s m args below meth c H1 locs1 0 0 Q (F0 m (pc + 3) ls (r.toList ++ rest))) : W p l e (rmOf F0' L0) s m args below meth c H locs 0 0 Q (F0 m pc ls st) := by
  have hp := x_pre (As := As) C hw isC hsel hnd
  have hts := C.2.2.2.2.2.2.1
  obtain ⟨h1, h2, h3, h4, h5⟩ := M
  have cw : va_CN (rmOf F0' L0) s args own index y host bytes mL rt (wsOf y bytes mL rt) (rmOf F L) 0 0 n := by
    refine ⟨⟨rfl, rfl, hF, hLo, fun w hw a' U hW => ?_, List.mem_cons_self⟩, hts _ h1, hts _ h2, ⟨h3, h4⟩, fun sig h => ?_, hts _ K⟩
    · rcases List.mem_cons.mp hw with rfl | hw
      · exact gt_warm h1 (hts _ h1) a' U hW
      · exact gt_warm hw (hts _ hw) a' U hW
    · rw [h] at h5
      exact (Option.some.inj h5).symm
  exact x_behind (y := y) hw isC hsel hadr (va_runSN (As := As) (rest := rest) (g := F0 m pc ls st) ⟨C.1, C.2.1, C.2.2.2.1, C.2.2.2.2.1, hts⟩ hc ⟨cw, hts _ V, trivial⟩ hp rfl hn hls hst (lv_room hro) hdg ⟨Nat.le_refl _, Nat.le_refl _⟩) kk
end XC
