/-! Contracts of methods that make cells; static arrays; calls in any room. -/
def atF (j : Nat) : Int32 := match j with
  | 0 => 5
  | 1 => 10
  | 2 => 30
  | 3 => 1
  | 4 => 0
  | _ => 10
def leF (j : Nat) : Int32 := match j with
  | 3 => 1
  | _ => 0
def moF (j : Nat) : Int32 := match j with
  | 0 => 30
  | 1 => 50
  | 2 => 100
  | 3 => 100000
  | 4 => 1000000
  | _ => 30
def St1 (nm : String) (f : Nat → Int32) (A : Nat → Prop) (U : State) (H : Heap) : Prop := ∃ t : Nat, va_Z "FlameBend$Rules" nm "[I" (.ref t) A U H ∧ va_T .int t 6 (fun j => .int (f j)) A U H
theorem St1.go {nm : String} {f : Nat → Int32} {A B : Nat → Prop} {u U : State} {H H1 : Heap} (h : St1 nm f A u H) (hvm : u.vm.Alike U.vm) (hq : ∀ a : Nat, a < H.size → ¬ A a → H1[a]? = H[a]?) (hAB : ∀ q, B q → A q) : St1 nm f B U H1 := by
  obtain ⟨t, h1, h2⟩ := h
  exact ⟨t, ((h1.kept hq).moved hvm).narrow hAB, ((h2.kept hq).moved hvm).narrow hAB⟩
def StZ (A : Nat → Prop) (U : State) (H : Heap) : Prop := St1 "AT_FIRST" atF A U H ∧ St1 "LEAST" leF A U H ∧ St1 "MOST" moF A U H
theorem StZ.go {A B : Nat → Prop} {u U : State} {H H1 : Heap} (h : StZ A u H) (hvm : u.vm.Alike U.vm) (hq : ∀ a : Nat, a < H.size → ¬ A a → H1[a]? = H[a]?) (hAB : ∀ q, B q → A q) : StZ B U H1 := ⟨h.1.go hvm hq hAB, h.2.1.go hvm hq hAB, h.2.2.go hvm hq hAB⟩
abbrev rmN (F L mc ms : Nat) : Room := { frames := F, cells := mc, slots := ms, locals := L }
def NQ (D : va_G) (w : va_W) (sz : Nat) (post : va_W → Prop) : Array Value → State → Outcome → State → Prop := fun _ st oc t => oc = .returned none ∧ ∃ w', post w' ∧ va_P D vwCl w' t.heap ∧ va_D (va_A w sz) w' ∧ st.heap.size ≤ t.heap.size ∧ ∀ q : Nat, q < st.heap.size → ¬ va_A w sz q → t.heap[q]? = st.heap[q]?
def NP (D : va_G) (cI cC cZ : ClassId) (w : va_W) (sz : Nat) : State → Prop := fun U => U.heap.size = sz ∧ va_P D vwCl w U.heap ∧ va_K D vwCl (tys3 cI cC cZ) U ∧ va_D (fun _ => True) w ∧ StZ (va_A w sz) U U.heap
/-- a constructor's contract: w before; behind it a world of which 'post' holds -/
def Nct (l : Launch) (y : MethodName) (cc : ByteArray) (maxL : Nat) (F L mc ms : Nat) (D : va_G) (cI cC cZ : ClassId) (av : List Value) (w : va_W) (post : va_W → Prop) : Prop :=
  ∀ sz : Nat, Met l y (wsOf y cc maxL none) (rmN F L mc ms) (va_Pc av (NP D cI cC cZ w sz)) (NQ D w sz post) mc ms (va_A w sz)
theorem Nct.of {l : Launch} {y : MethodName} {cc : ByteArray} {maxL : Nat} {F L mc ms : Nat} {D : va_G} {cI cC cZ : ClassId} {av : List Value} {w : va_W} {post : va_W → Prop} (hy : plainName y.cls = true) (hn : (lg_sl av).length ≤ maxL)
    (body : ∀ (p : Program) (e : Env) (s : State) (m : MethodId) (args : Array Value) (below : List Frame) (meth : Method) (c : Code) (ls : Array Slot) (A : Nat → Prop) (Q : State → Prop), A = va_A w s.heap.size → (∀ q : Nat, s.heap.size ≤ q → A q) → Q = MQ below (NQ D w s.heap.size post) args s mc ms A → Cx p s m args meth c y.cls cc maxL none D cI cC cZ → meth.name = y.name → lv_has ls maxL (lv_args 0 av) → Wd D A s.heap w s.heap [] → StZ A s s.heap →
      W p l e (rmN F L mc ms) s m args below meth c s.heap [] 0 0 Q (F0 m 0 ls [])) : Nct l y cc maxL F L mc ms D cI cC cZ av w post := by
  intro sz
  refine Met.ofW (cc := cc) (maxL := maxL) (ret := none) hy rfl ?_
  intro p e s m args below meth c s₁ B hml hv
  obtain ⟨rfl, rfl, hP, hK, hD, hz⟩ := hv
  have hts := atoms_spec (ws := wsOf y cc maxL none) B.pre
  have hl := lv_entry av (n := maxL) hn
  rw [lg_entry_eq]
  exact body p e s m _ below meth c _ _ _ rfl (fun q h => Or.inr h) rfl ⟨B.exec, B.bytes, B.returns, hml, findClass_of_methodNamed B.named, B.notSynchronized, fun w hw => hts w (List.mem_cons_of_mem _ hw), hK⟩ (name_of_methodNamed B.named B.method).1 hl ⟨hP, hD.self, va_S.rf⟩ hz
/-- what the tables say of a class whose objects are made -/
def FN (own : String) (index ci : Nat) (N : Nat) (fs : List Value) : Prop := ∃ (C : String) (T : u_T) (ty : Nat → FieldType), vwCl[ci]? = some (C, T, N) ∧ Cond.classLink own index C ∈ gt ∧ Cond.instantiable C N ∈ gt ∧ Cond.initialized C ∈ gt ∧ (∀ w ∈ u_ws C T N, w ∈ gt) ∧ (∀ k, k < N → parseFieldDescriptor (T k).2.2.1 = some (ty k)) ∧ (∀ j, j < N → defaultValue (ty j) = vp_V fs j)
/-- a final field that its constructor writes -/
def FWF (own : String) (ci k : Nat) (ty : FieldType) : Prop := ∃ (C : String) (T : u_T) (N : Nat) (ty0 : Nat → FieldType), vwCl[ci]? = some (C, T, N) ∧ k < N ∧ (∀ k, k < N → parseFieldDescriptor (T k).2.2.1 = some (ty0 k)) ∧ (∀ a, a < N → ∀ b, b < N → a ≠ b → (T a).2.1 ≠ (T b).2.1) ∧ (T k).2.2.2 = true ∧ (T k).1 = own ∧ parseFieldDescriptor (T k).2.2.1 = some ty
section XN
variable {p : Program} {l : Launch} {e : Env} {R : Room} {s : State} {m : MethodId} {args : Array Value} {below : List Frame} {meth : Method} {c : Code} {H : Heap} {locs : List Loc} {cells slots : Nat} {Q : State → Prop}
variable {own : String} {cc : ByteArray} {maxL : Nat} {ret : Option FieldType} {D : va_G} {cI cC cZ : ClassId} {A : Nat → Prop} {H0 : Heap} {ws : va_W} {pc : Nat} {ls : Array Slot} {rest st : List Value} {a : Nat}
theorem x_vretN {w : va_W} {post : va_W → Prop} (C : Cx p s m args meth c own cc maxL none D cI cC cZ) (hA : A = va_A w s.heap.size) {mc ms : Nat} (hQ : Q = MQ below (NQ D w s.heap.size post) args s mc ms A) (h1 : cells ≤ mc) (h2 : slots ≤ ms) (hw : Wd D A s.heap ws H locs) (hp : post ws) (hdg : decode cc pc = .ok (.return_, 1)) : W p l e R s m args below meth c H locs cells slots Q (F0 m pc ls []) := by
  refine W.widen h1 h2 ?_
  subst hQ
  exact W.vret C.1 C.2.1 C.2.2.1 (fun t ht _ => ⟨rfl, ws, hp, by rw [ht]; exact hw.1, by rw [← hA]; exact hw.2.1, by rw [ht]; exact hw.2.2.1, fun q g1 g2 => by rw [ht]; exact hw.2.2.2.1 q g1 (by rw [hA]; exact g2)⟩) hw.2.2.2.2 hdg C.2.2.2.2.2.1
theorem cA_eq {cA cB : ClassId} {ty : FieldType} {tys : List (ClassId × FieldType)} {k : Nat} (h1 : va_K D vwCl tys s) (hk : tys[k]? = some (cB, ty)) (h2 : va_RA s cA ty) (hp : ∀ C, ty ≠ .object C) : cA = cB := by
  have h3 := (h1.2 k _ hk).2
  cases ty with
  | object C => exact absurd rfl (hp C)
  | _ => exact Option.some.inj (h2.symm.trans h3)
theorem x_newI (C : Cx p s m args meth c own cc maxL ret D cI cC cZ) (hw : Wd D A H0 ws H locs) (hA : ∀ q : Nat, H0.size ≤ q → A q) (harr : Cond.arrayClass .int ∈ gt) {n : Int32} {N : Nat} (hn : ¬ n < 0) (hN : n.toNatClampNeg = N) (hbytes : N * componentBytes .int ≤ 536870912) (hcells : cells + 1 ≤ R.cells) (hslots : slots + N ≤ R.slots) (hdg : decode cc pc = .ok (.newarray .int, 2))
    (kk : ∀ (q : Nat) (H1 : Heap), Wd D A H0 (ws ++ [(q, .inl (cI, N, .inl (fun _ => 0)))]) H1 locs → W p l e R s m args below meth c H1 locs (cells + 1) (slots + N) Q (F0 m (pc + 2) ls (.ref q :: rest))) : W p l e R s m args below meth c H locs cells slots Q (F0 m pc ls (.int n :: rest)) := by
  have hK := C.2.2.2.2.2.2.2
  refine va_newa (atype := .int) (ty := .int) C.1 C.2.1 (C.2.2.2.2.2.2.1 _ harr) rfl hK hw.1 hw.2.1 hw.2.2 hA (a0 := (N, .inl (fun _ => 0))) (fun cA => rfl) hn hN hbytes hcells hslots hdg (fun q cA H1 hK1 h1 h2 h3 => ?_)
  have e := cA_eq (k := 0) hK rfl (hK1.2 3 _ rfl).2 (fun C h => by cases h)
  subst e
  exact kk q H1 ⟨h1, h2, h3⟩
theorem x_newC (C : Cx p s m args meth c own cc maxL ret D cI cC cZ) (hw : Wd D A H0 ws H locs) (hA : ∀ q : Nat, H0.size ≤ q → A q) (harr : Cond.arrayClass .char ∈ gt) {n : Int32} {N : Nat} (hn : ¬ n < 0) (hN : n.toNatClampNeg = N) (hbytes : N * componentBytes .char ≤ 536870912) (hcells : cells + 1 ≤ R.cells) (hslots : slots + N ≤ R.slots) (hdg : decode cc pc = .ok (.newarray .char, 2))
    (kk : ∀ (q : Nat) (H1 : Heap), Wd D A H0 (ws ++ [(q, .inl (cC, N, .inl (fun _ => 0)))]) H1 locs → W p l e R s m args below meth c H1 locs (cells + 1) (slots + N) Q (F0 m (pc + 2) ls (.ref q :: rest))) : W p l e R s m args below meth c H locs cells slots Q (F0 m pc ls (.int n :: rest)) := by
  have hK := C.2.2.2.2.2.2.2
  refine va_newa (atype := .char) (ty := .char) C.1 C.2.1 (C.2.2.2.2.2.2.1 _ harr) rfl hK hw.1 hw.2.1 hw.2.2 hA (a0 := (N, .inl (fun _ => 0))) (fun cA => rfl) hn hN hbytes hcells hslots hdg (fun q cA H1 hK1 h1 h2 h3 => ?_)
  have e := cA_eq (k := 1) hK rfl (hK1.2 3 _ rfl).2 (fun C h => by cases h)
  subst e
  exact kk q H1 ⟨h1, h2, h3⟩
theorem x_newZ (C : Cx p s m args meth c own cc maxL ret D cI cC cZ) (hw : Wd D A H0 ws H locs) (hA : ∀ q : Nat, H0.size ≤ q → A q) (harr : Cond.arrayClass .boolean ∈ gt) {n : Int32} {N : Nat} (hn : ¬ n < 0) (hN : n.toNatClampNeg = N) (hbytes : N * componentBytes .boolean ≤ 536870912) (hcells : cells + 1 ≤ R.cells) (hslots : slots + N ≤ R.slots) (hdg : decode cc pc = .ok (.newarray .boolean, 2))
    (kk : ∀ (q : Nat) (H1 : Heap), Wd D A H0 (ws ++ [(q, .inl (cZ, N, .inl (fun _ => 0)))]) H1 locs → W p l e R s m args below meth c H1 locs (cells + 1) (slots + N) Q (F0 m (pc + 2) ls (.ref q :: rest))) : W p l e R s m args below meth c H locs cells slots Q (F0 m pc ls (.int n :: rest)) := by
  have hK := C.2.2.2.2.2.2.2
  refine va_newa (atype := .boolean) (ty := .boolean) C.1 C.2.1 (C.2.2.2.2.2.2.1 _ harr) rfl hK hw.1 hw.2.1 hw.2.2 hA (a0 := (N, .inl (fun _ => 0))) (fun cA => rfl) hn hN hbytes hcells hslots hdg (fun q cA H1 hK1 h1 h2 h3 => ?_)
  have e := cA_eq (k := 2) hK rfl (hK1.2 3 _ rfl).2 (fun C h => by cases h)
  subst e
  exact kk q H1 ⟨h1, h2, h3⟩
theorem x_newo (C : Cx p s m args meth c own cc maxL ret D cI cC cZ) (hw : Wd D A H0 ws H locs) (hA : ∀ q : Nat, H0.size ≤ q → A q) {index ci N : Nat} {fs : List Value} (G : FN own index ci N fs) (hcells : cells + 1 ≤ R.cells) (hslots : slots + N ≤ R.slots) (hdg : decode cc pc = .ok (.new index, 3))
    (kk : ∀ (q : Nat) (H1 : Heap), Wd D A H0 (ws ++ [(q, .inr (ci, fs))]) H1 locs → W p l e R s m args below meth c H1 locs (cells + 1) (slots + N) Q (F0 m (pc + 3) ls (.ref q :: rest))) : W p l e R s m args below meth c H locs cells slots Q (F0 m pc ls rest) := by
  obtain ⟨C1, T, ty, h1, h2, h3, h4, h5, h6, h7⟩ := G
  have hts := C.2.2.2.2.2.2.1
  exact va_new (ci := ci) (fs := fs) C.1 C.2.1 hts h5 ty h6 C.2.2.2.2.1 (hts _ h2) (hts _ h3) (hts _ h4) C.2.2.2.2.2.2.2 hw.1 hw.2.1 hw.2.2 hA h1 h7 hcells hslots hdg (fun q H1 g1 g2 g3 => kk q H1 ⟨g1, g2, g3⟩)
theorem x_putF (C : Cx p s m args meth c own cc maxL ret D cI cC cZ) (hnm : meth.name = "<init>") (hw : Wd D A H0 ws H locs) {index ci k : Nat} {ty : FieldType} (F : FL own index ci k) (G : FWF own ci k ty) (q0 : Nat) {fs : List Value} (he : ws[q0]? = some (a, .inr (ci, fs))) {v : Value} (hn : narrow ty v = v) (hfit : fits ty v = true) (hl : k < fs.length) (hdg : decode cc pc = .ok (.putfield index, 3))
    (kk : ∀ (H1 : Heap) (locs1 : List Loc), Wd D A H0 (ws.set q0 (a, .inr (ci, fs.set k v))) H1 locs1 → W p l e R s m args below meth c H1 locs1 cells slots Q (F0 m (pc + 3) ls rest)) : W p l e R s m args below meth c H locs cells slots Q (F0 m pc ls (v :: .ref a :: rest)) := by
  obtain ⟨C1, T, N, hc, hk, hlk, hin⟩ := F
  obtain ⟨C2, T2, N2, ty0, hc2, hk2, hty, hnm2, hfin, hdecl, hd⟩ := G
  rw [hc] at hc2
  cases hc2
  obtain ⟨hx, hb, -, -, hown, -, hts, hK⟩ := C
  exact va_putF hx hb hts hin ty0 hty hnm2 hown hK hw.1 hw.2.1 hw.2.2 q0 he hc k hk (hts _ hlk) (fun _ h => h) hfin hnm hdecl hd hn hfit hl hdg (fun H1 locs1 h1 h2 h3 => kk H1 locs1 ⟨h1, h2, h3⟩)
theorem x_obj (C : Cx p s m args meth c own cc maxL ret D cI cC cZ) (hls : ls.size = maxL) {idx : Nat} (K : Cond.methodLink own idx Lib.objectInit ∈ gt) (I : Cond.instanceMethod Lib.objectInit ∈ gt) (J : Cond.code Lib.objectInit ⟨#[0xb1]⟩ 1 none ∈ gt) (hframes : 1 ≤ R.frames) (hlocals : (rest.map fun v => v.category).sum + 12 ≤ R.locals) (hdg : decode cc pc = .ok (.invokespecial idx, 3))
    (kk : W p l e R s m args below meth c H locs cells slots Q (F0 m (pc + 3) ls rest)) : W p l e R s m args below meth c H locs cells slots Q (F0 m pc ls (.ref a :: rest)) := by
  have hts := C.2.2.2.2.2.2.1
  exact W.objInit C.1 C.2.1 C.2.2.2.2.1 (hts _ K) (hts _ I) (hts _ J) rfl (hls.trans C.2.2.2.1.symm) rfl hdg hframes (by show 2 * 0 + _ + 12 ≤ _; omega) kk
theorem x_behindN {wc wr : va_W} {post : va_W → Prop} {a1 : Array Value} {mc ms : Nat} (hw : Wd D A H0 ws H locs) (hA : ∀ q : Nat, H0.size ≤ q → A q) (isC isR : List Nat) (hC : isC.map (fun i => ws[i]?) = wc.map some) (hR : isR.map (fun i => ws[i]?) = wr.map some) (hnd : va_nd isR = true) (hdis : ∀ i ∈ isR, i ∉ isC)
    (hr : va_Run p l e R s m args below meth c H locs cells slots mc ms (F0 m pc ls st) rest (NQ D wc H.size post a1) (va_A wc H.size))
    (kk : ∀ (w1 : va_W) (H1 : Heap) (locs1 : List Loc), post w1 → Wd D A H0 (wr ++ w1) H1 locs1 → W p l e R s m args below meth c H1 locs1 (cells + mc) (slots + ms) Q (F0 m (pc + 3) ls rest)) : W p l e R s m args below meth c H locs cells slots Q (F0 m pc ls st) := by
  intro T hT X
  obtain ⟨v, st₀, t, T', L, h0, X', hL, e1, e2, ⟨hv, w1, hp, hP1, hD1, hz, hk⟩, stp⟩ := hr T hT X
  cases hv
  rw [h0] at hz hk
  have hF := va_free (wc := wc) hw.2.1 hw.2.2 hA isC hC
  obtain ⟨hP2, hD2⟩ := va_join (w1 := w1) hw.1 hw.2.1 isC isR hC hR hnd hdis hk hF hP1 hD1
  have hS := hw.2.2
  have hS2 : va_S A H0 t.heap (locs ++ L) := ⟨Nat.le_trans hS.1 hz, fun q h1 h2 => by rw [hk q (Nat.lt_of_lt_of_le h1 hS.1) (fun z => h2 (hF q z))]; exact hS.2.1 q h1 h2, fun q hq => by
      rcases List.mem_append.mp hq with h | h
      · exact hS.2.2 q h
      · exact hF _ (hL q h)⟩
  obtain ⟨t2, a2, b2⟩ := kk w1 t.heap (locs ++ L) hp ⟨hP2, hD2, hS2⟩ T' e1 X'
  exact ⟨t2, stp t2 a2, b2⟩
theorem x_cb (C : Cx p s m args meth c own cc maxL ret D cI cC cZ) {y : MethodName} {bytes : ByteArray} {mL n : Nat} {rt : Option FieldType} {F L mc ms : Nat} (M : MB y bytes mL rt n) {index : Nat} (K : Cond.methodLink own index y ∈ gt) (hF : F + 1 ≤ R.frames) (hLo : 8 + (mL + 11) + L ≤ R.locals) :
    CallB R s args own index y bytes mL rt (wsOf y bytes mL rt) (rmN F L mc ms) mc ms n := by
  obtain ⟨h1, h2, h3, h4, h5⟩ := M
  have hts := C.2.2.2.2.2.2.1
  refine ⟨rfl, rfl, hF, hLo, fun w hw a' U hW => ?_, List.mem_cons_self, hts _ h1, hts _ h2, ⟨h3, h4⟩, fun sig h => ?_, hts _ K⟩
  · rcases List.mem_cons.mp hw with rfl | hw
    · exact gt_warm h1 (hts _ h1) a' U hW
    · exact gt_warm hw (hts _ hw) a' U hW
  · rw [h] at h5
    exact (Option.some.inj h5).symm
theorem x_cbN (C : Cx p s m args meth c own cc maxL ret D cI cC cZ) {y : MethodName} {host : String} {bytes : ByteArray} {mL n : Nat} {rt : Option FieldType} {F L mc ms : Nat} (M : MB y bytes mL rt n) {index : Nat} (K : Cond.methodLinkNest own index y host ∈ gt) (hF : F + 1 ≤ R.frames) (hLo : 8 + (mL + 11) + L ≤ R.locals) :
    va_CN R s args own index y host bytes mL rt (wsOf y bytes mL rt) (rmN F L mc ms) mc ms n := by
  obtain ⟨h1, h2, h3, h4, h5⟩ := M
  have hts := C.2.2.2.2.2.2.1
  refine ⟨⟨rfl, rfl, hF, hLo, fun w hw a' U hW => ?_, List.mem_cons_self⟩, hts _ h1, hts _ h2, ⟨h3, h4⟩, fun sig h => ?_, hts _ K⟩
  · rcases List.mem_cons.mp hw with rfl | hw
    · exact gt_warm h1 (hts _ h1) a' U hW
    · exact gt_warm hw (hts _ hw) a' U hW
  · rw [h] at h5
    exact (Option.some.inj h5).symm
theorem x_preN {wc : va_W} {As : List Value} (C : Cx p s m args meth c own cc maxL ret D cI cC cZ) (hw : Wd D A s.heap ws H locs) (hA : ∀ q : Nat, s.heap.size ≤ q → A q) (hz : StZ A s s.heap) (isC : List Nat) (hC : isC.map (fun i => ws[i]?) = wc.map some) (hnd : va_nd isC = true) : PreS s H (va_Pc As (NP D cI cC cZ wc H.size)) As := by
  refine ⟨fun a U g mk h => ?_, fun U hU hW => ⟨rfl, by rw [hU], by rw [hU]; exact sel_P hw.1 isC hC, va_K.moved hW.alike C.2.2.2.2.2.2.2, (hw.2.1.sub (ws' := wc) isC hnd hC).weaken (fun _ _ _ _ => trivial), hz.go hW.alike (fun a h1 h2 => by rw [hU]; exact hw.2.2.2.1 a h1 h2) (va_free (wc := wc) hw.2.1 hw.2.2 hA isC hC)⟩⟩
  obtain ⟨h1, h2, h3, h4, h5, h6⟩ := h
  exact ⟨h1, h2, h3, va_K.moved (u := U) (U := U.calling g mk a) (Vm.Alike.refl U.vm) h4, h5, h6.go (U := U.calling g mk a) (Vm.Alike.refl U.vm) (fun _ _ _ => rfl) (fun _ h => h)⟩
theorem x_callI (C : Cx p s m args meth c own cc maxL ret D cI cC cZ) (hw : Wd D A s.heap ws H locs) (hA : ∀ q : Nat, s.heap.size ≤ q → A q) (hz : StZ A s s.heap) {y : MethodName} {bytes : ByteArray} {mL n index : Nat} {F L mc ms : Nat} (M : MB y bytes mL none n) (I : Cond.instanceMethod y ∈ gt) (hy : y.name = "<init>") (K : Cond.methodLink own index y ∈ gt) {b : Nat} {As : List Value} {wc wr : va_W} {post : va_W → Prop}
    (hc : Nct l y bytes mL F L mc ms D cI cC cZ (.ref b :: As) wc post) (hls : ls.size = maxL) (hst : st = As.reverse ++ .ref b :: rest) (hn : As.length = n) (isC isR : List Nat) (hC : isC.map (fun i => ws[i]?) = wc.map some) (hR : isR.map (fun i => ws[i]?) = wr.map some) (hndC : va_nd isC = true) (hnd : va_nd isR = true) (hdis : ∀ i ∈ isR, i ∉ isC)
    (hF : F + 1 ≤ R.frames) (hLo : 8 + (mL + 11) + L ≤ R.locals) (hce : cells + mc ≤ R.cells) (hsl : slots + ms ≤ R.slots) (hro : (rest.map fun v => v.category).sum ≤ 8) (hdg : decode cc pc = .ok (.invokespecial index, 3))
    (kk : ∀ (w1 : va_W) (H1 : Heap) (locs1 : List Loc), post w1 → Wd D A s.heap (wr ++ w1) H1 locs1 → W p l e R s m args below meth c H1 locs1 (cells + mc) (slots + ms) Q (F0 m (pc + 3) ls rest)) : W p l e R s m args below meth c H locs cells slots Q (F0 m pc ls st) := by
  have hts := C.2.2.2.2.2.2.1
  exact x_behindN hw hA isC isR hC hR hnd hdis (va_runI (As := As) (rest := rest) (g := F0 m pc ls st) ⟨C.1, C.2.1, C.2.2.2.1, C.2.2.2.2.1, hts⟩ (hc H.size) ⟨x_cb C M K hF hLo, hy, hts _ I⟩ (x_preN C hw hA hz isC hC hndC) rfl hn hls hst (lv_room hro) hdg ⟨hce, hsl⟩) kk
theorem x_callIN (C : Cx p s m args meth c own cc maxL ret D cI cC cZ) (hw : Wd D A s.heap ws H locs) (hA : ∀ q : Nat, s.heap.size ≤ q → A q) (hz : StZ A s s.heap) {y : MethodName} {host : String} {bytes : ByteArray} {mL n index : Nat} {F L mc ms : Nat} (M : MB y bytes mL none n) (I : Cond.instanceMethod y ∈ gt) (hy : y.name = "<init>") (K : Cond.methodLinkNest own index y host ∈ gt) {b : Nat} {As : List Value} {wc wr : va_W} {post : va_W → Prop}
    (hc : Nct l y bytes mL F L mc ms D cI cC cZ (.ref b :: As) wc post) (hls : ls.size = maxL) (hst : st = As.reverse ++ .ref b :: rest) (hn : As.length = n) (isC isR : List Nat) (hC : isC.map (fun i => ws[i]?) = wc.map some) (hR : isR.map (fun i => ws[i]?) = wr.map some) (hndC : va_nd isC = true) (hnd : va_nd isR = true) (hdis : ∀ i ∈ isR, i ∉ isC)
    (hF : F + 1 ≤ R.frames) (hLo : 8 + (mL + 11) + L ≤ R.locals) (hce : cells + mc ≤ R.cells) (hsl : slots + ms ≤ R.slots) (hro : (rest.map fun v => v.category).sum ≤ 8) (hdg : decode cc pc = .ok (.invokespecial index, 3))
    (kk : ∀ (w1 : va_W) (H1 : Heap) (locs1 : List Loc), post w1 → Wd D A s.heap (wr ++ w1) H1 locs1 → W p l e R s m args below meth c H1 locs1 (cells + mc) (slots + ms) Q (F0 m (pc + 3) ls rest)) : W p l e R s m args below meth c H locs cells slots Q (F0 m pc ls st) := by
  have hts := C.2.2.2.2.2.2.1
  exact x_behindN hw hA isC isR hC hR hnd hdis (va_runIN (As := As) (rest := rest) (g := F0 m pc ls st) ⟨C.1, C.2.1, C.2.2.2.1, C.2.2.2.2.1, hts⟩ (hc H.size) ⟨x_cbN C M K hF hLo, hy, hts _ I⟩ (x_preN C hw hA hz isC hC hndC) rfl hn hls hst (lv_room hro) hdg ⟨hce, hsl⟩) kk
/-- behind a call over a fixed world, in any room -/
theorem x_behindG {w w' : va_W} {r : Option Value} {a1 : Array Value} (hw : Wd D A H0 ws H locs) (isC : List Nat) (hsel : isC.map (fun i => ws[i]?) = w.map some) (hadr : w'.map Prod.fst = w.map Prod.fst)
    (hr : va_Run p l e R s m args below meth c H locs cells slots 0 0 (F0 m pc ls st) rest (CtQ D w w' r a1) (inW w))
    (kk : ∀ (H1 : Heap) (locs1 : List Loc), Wd D A H0 (mix ws isC w') H1 locs1 → W p l e R s m args below meth c H1 locs1 cells slots Q (F0 m (pc + 3) ls (r.toList ++ rest))) : W p l e R s m args below meth c H locs cells slots Q (F0 m pc ls st) := by
  intro T hT X
  obtain ⟨v, st₀, t, T', L, h0, X', hL, e1, e2, ⟨hv, hP1, hz, hk⟩, stp⟩ := hr T hT X
  cases hv
  rw [h0] at hz hk
  obtain ⟨hP, hD, hS⟩ := hw
  have hin : ∀ q, inW w q → A q := by
    intro q hq
    obtain ⟨j, e, h3⟩ := hq
    have h1 : (isC.map (fun i => ws[i]?))[j]? = some (some (q, e)) := by rw [hsel, List.getElem?_map, h3]; rfl
    rw [List.getElem?_map] at h1
    cases hi : isC[j]? with
    | none => rw [hi] at h1; cases h1
    | some i => rw [hi] at h1; exact hD.2 i (q, e) (Option.some.inj h1)
  obtain ⟨hP2, hD2⟩ := mix_ok (H1 := t.heap) hP hD isC hsel hadr hk hP1
  have hS2 : va_S A H0 t.heap (locs ++ L) := ⟨Nat.le_trans hS.1 hz, fun q h1 h2 => by rw [hk q (Nat.lt_of_lt_of_le h1 hS.1) (fun z => h2 (hin q z))]; exact hS.2.1 q h1 h2, fun q hq => by
      rcases List.mem_append.mp hq with h | h
      · exact hS.2.2 q h
      · exact hin _ (hL q h)⟩
  obtain ⟨t2, a2, b2⟩ := kk t.heap (locs ++ L) ⟨hP2, hD2, hS2⟩ T' e1 X'
  exact ⟨t2, stp t2 a2, b2⟩
theorem x_callSG (C : Cx p s m args meth c own cc maxL ret D cI cC cZ) (hw : Wd D A H0 ws H locs) {y : MethodName} {bytes : ByteArray} {mL n index : Nat} {rt : Option FieldType} {F L : Nat} (M : MB y bytes mL rt n) (V : Cond.static y ∈ gt) (K : Cond.methodLink own index y ∈ gt) {As : List Value} {w w' : va_W} {r : Option Value}
    (hc : Ctr l y bytes mL rt F L D cI cC cZ As w w' r) (hls : ls.size = maxL) (hst : st = As.reverse ++ rest) (hn : As.length = n) (isC : List Nat) (hsel : isC.map (fun i => ws[i]?) = w.map some) (hnd : va_nd isC = true) (hadr : w'.map Prod.fst = w.map Prod.fst)
    (hF : F + 1 ≤ R.frames) (hLo : 8 + (mL + 11) + L ≤ R.locals) (hce : cells ≤ R.cells) (hsl : slots ≤ R.slots) (hro : (rest.map fun v => v.category).sum ≤ 8) (hdg : decode cc pc = .ok (.invokestatic index, 3))
    (kk : ∀ (H1 : Heap) (locs1 : List Loc), Wd D A H0 (mix ws isC w') H1 locs1 → W p l e R s m args below meth c H1 locs1 cells slots Q (F0 m (pc + 3) ls (r.toList ++ rest))) : W p l e R s m args below meth c H locs cells slots Q (F0 m pc ls st) := by
  have hts := C.2.2.2.2.2.2.1
  have hB : CallB R s args own index y bytes mL rt (wsOf y bytes mL rt) (rmOf F L) 0 0 n := x_cb C M K hF hLo
  exact x_behindG hw isC hsel hadr (va_runS (As := As) (rest := rest) (g := F0 m pc ls st) ⟨C.1, C.2.1, C.2.2.2.1, C.2.2.2.2.1, hts⟩ hc ⟨hB, hts _ V⟩ (x_pre (As := As) C hw isC hsel hnd) rfl hn hls hst (lv_room hro) hdg ⟨hce, hsl⟩) kk
/-- a call of an instance method by any contract over a fixed world -/
theorem x_callVG (C : Cx p s m args meth c own cc maxL ret D cI cC cZ) (hw : Wd D A H0 ws H locs) {y : MethodName} {bytes : ByteArray} {mL n index : Nat} {rt : Option FieldType} {F L : Nat} (M : MB y bytes mL rt n) (V : MV y) (K : Cond.methodLink own index y ∈ gt) {b ci q0 : Nat} {fs : List Value} {As : List Value} {w w' : va_W} {r : Option Value} {Pc : Array Value → State → Prop} (hq : ws[q0]? = some (b, .inr (ci, fs))) (hcl : (vwCl[ci]?).map (fun z => z.1) = some y.cls)
    (hc : Met l y (wsOf y bytes mL rt) (rmOf F L) Pc (CtQ D w w' r) 0 0 (inW w)) (hp : PreS s H Pc (.ref b :: As)) (hls : ls.size = maxL) (hst : st = As.reverse ++ .ref b :: rest) (hn : As.length = n) (isC : List Nat) (hsel : isC.map (fun i => ws[i]?) = w.map some) (hadr : w'.map Prod.fst = w.map Prod.fst)
    (hF : F + 1 ≤ R.frames) (hLo : 8 + (mL + 11) + L ≤ R.locals) (hce : cells ≤ R.cells) (hsl : slots ≤ R.slots) (hro : (rest.map fun v => v.category).sum ≤ 8) (hdg : decode cc pc = .ok (.invokevirtual index, 3))
    (kk : ∀ (H1 : Heap) (locs1 : List Loc), Wd D A H0 (mix ws isC w') H1 locs1 → W p l e R s m args below meth c H1 locs1 cells slots Q (F0 m (pc + 3) ls (r.toList ++ rest))) : W p l e R s m args below meth c H locs cells slots Q (F0 m pc ls st) := by
  have hts := C.2.2.2.2.2.2.1
  have hB : CallB R s args own index y bytes mL rt (wsOf y bytes mL rt) (rmOf F L) 0 0 n := x_cb C M K hF hLo
  have hrc : ∃ cellB : Cell, H[b]? = some cellB ∧ cellB.vm.isStatics = false ∧ s.vm.findClass y.cls = some cellB.cls := by
    cases hv : vwCl[ci]? with
    | none => rw [hv] at hcl; cases hcl
    | some z =>
      rw [hv] at hcl
      have hz : z.1 = y.cls := Option.some.inj hcl
      rw [← hz]
      exact va_recv C.2.2.2.2.2.2.2 hw.1 (ci := ci) (q0 := q0) hv hq
  exact x_behindG hw isC hsel hadr (va_runV (As := As) (rest := rest) (g := F0 m pc ls st) ⟨C.1, C.2.1, C.2.2.2.1, C.2.2.2.2.1, hts⟩ hc ⟨hB, hts _ V.1, hts _ V.2⟩ ⟨hp.1, hrc, hp.2⟩ rfl hn hls hst (lv_room hro) hdg ⟨hce, hsl⟩) kk
/-- a static array's address, an element of it -/
theorem x_stat {nm : String} {f : Nat → Int32} (C : Cx p s m args meth c own cc maxL ret D cI cC cZ) (hw : Wd D A s.heap ws H locs) (hz : St1 nm f A s s.heap) {index : Nat} (K : Cond.fieldLink own index "FlameBend$Rules" nm "[I" ∈ gt) (hdg : decode cc pc = .ok (.getstatic index, 3))
    (kk : ∀ t : Nat, va_T .int t 6 (fun j => .int (f j)) A s s.heap → W p l e R s m args below meth c H locs cells slots Q (F0 m (pc + 3) ls (.ref t :: rest))) : W p l e R s m args below meth c H locs cells slots Q (F0 m pc ls rest) := by
  obtain ⟨t, h1, h2⟩ := hz
  exact va_gets C.1 C.2.1 h1 hw.2.2 C.2.2.2.2.1 (C.2.2.2.2.2.2.1 _ K) (fun _ h => h) hdg (kk t h2)
theorem x_tald {f : Nat → Int32} {t : Nat} (C : Cx p s m args meth c own cc maxL ret D cI cC cZ) (hw : Wd D A s.heap ws H locs) (hT : va_T .int t 6 (fun j => .int (f j)) A s s.heap) {i : Int32} (hin : vin i 6 = true) (hdg : decode cc pc = .ok (.iaload, 1))
    (kk : W p l e R s m args below meth c H locs cells slots Q (F0 m (pc + 1) ls (.int (f i.toNatClampNeg) :: rest))) : W p l e R s m args below meth c H locs cells slots Q (F0 m pc ls (.int i :: .ref t :: rest)) :=
  va_ti C.1 C.2.1 hT hw.2.2 (vin_in hin) rfl hdg kk
end XN
section XT
variable {p : Program} {l : Launch} {e : Env} {R : Room} {s : State} {m : MethodId} {args : Array Value} {below : List Frame} {meth : Method} {c : Code} {H : Heap} {locs : List Loc} {cells slots : Nat} {Q : State → Prop}
variable {own : String} {cc : ByteArray} {maxL : Nat} {ret : Option FieldType} {D : va_G} {cI cC cZ : ClassId} {A : Nat → Prop} {ws : va_W} {pc : Nat} {ls : Array Slot} {rest : List Value} {a : Nat}
/-- System.arraycopy of a static array of six ints into a row of six -/
theorem x_copyT {f g : Nat → Int32} {t : Nat} (C : Cx p s m args meth c own cc maxL ret D cI cC cZ) (hw : Wd D A s.heap ws H locs) (hls : ls.size = maxL) {index : Nat} (hm : Cond.methodLink own index arraycopyName ∈ gt) (h0 : Cond.native arraycopyName ∈ gt) (h1 : Cond.static arraycopyName ∈ gt) (h2 : Cond.initialized "java/lang/System" ∈ gt)
    (hT : va_T .int t 6 (fun j => .int (f j)) A s s.heap) (q1 : Nat) (ha1 : ws[q1]? = some (a, .inl (cI, 6, .inl g))) (hF : 1 ≤ R.frames) (hL : (rest.map fun v => v.category).sum + (nativeFrameWords "java/lang/System" "arraycopy" 5 + 11) ≤ R.locals) (hdg : decode cc pc = .ok (.invokestatic index, 3))
    (kk : ∀ (H1 : Heap) (locs1 : List Loc), Wd D A s.heap (ws.set q1 (a, .inl (cI, 6, .inl (va_cpy f g 0 0 6)))) H1 locs1 → W p l e R s m args below meth c H1 locs1 cells slots Q (F0 m (pc + 3) ls rest)) : W p l e R s m args below meth c H locs cells slots Q (F0 m pc ls (.int 6 :: .int 0 :: .ref a :: .int 0 :: .ref t :: rest)) := by
  obtain ⟨cell, t1, t2, t3, t4, t5, t6, t7⟩ := hT
  obtain ⟨hx, hb, -, hml, hown, -, hts, hK⟩ := C
  obtain ⟨hP, hD, hS⟩ := hw
  intro T hT X
  have hc0 : H[t]? = some cell := by rw [hS.2.1 t (Array.getElem?_eq_some_iff.mp t1).1 t7]; exact t1
  have hc1 : H[a]? = some (vp_cell cI (6, .inl g)) := hP q1 _ ha1
  obtain ⟨u1, k0, u2, cm0, u3⟩ := t2
  obtain ⟨-, k1, v1, cm1, v2⟩ := (hK.2 0 _ rfl).1 6 (fun j => .int (g j))
  obtain ⟨vm', X', step⟩ := X.arraycopy hx hown (hts _ hm) (hts _ h0) (hts _ h1) (hts _ h2) (src := t) (dst := a) (cs := cell) (cd := vp_cell cI (6, .inl g)) (srcPos := 0) (destPos := 0) (n := 6) (by rw [hT]; exact hc0) (by rw [hT]; exact hc1)
    u1 (fun _ h => by cases h) t3 (fun h => by cases h) u2 v1 u3 v2 (by simp [refKind]) (by decide) (by decide) (by decide)
    (by rw [show (0 : Int32).toInt = 0 from by decide, show (6 : Int32).toInt = 6 from by decide]; omega)
    (by rw [show (0 : Int32).toInt = 0 from by decide, show (6 : Int32).toInt = 6 from by decide]; show ¬ _ > ((arrV cI 6 (fun j => .int (g j))).slots.size : Int); rw [arrV_size]; omega)
    (fun vm₁ _ i hi => by
      have hi6 : i < 6 := hi
      have e : cell.slots.getD ((0 : Int32).toNatClampNeg + i) .null = .int (f i) := by
        rw [show (0 : Int32).toNatClampNeg = 0 from rfl, Nat.zero_add, Array.getD_eq_getD_getElem?, t6 i hi6]
        rfl
      rw [e]
      exact ⟨rfl, trivial⟩)
    (g := F0 m pc ls (.int 6 :: .int 0 :: .ref a :: .int 0 :: .ref t :: rest)) rfl (hls.trans hml.symm) (rest := rest) rfl (by rw [hb]; exact hdg) hF (by show 2 * 0 + _ + _ ≤ _; omega)
  have e1 : copied cell (vp_cell cI (6, .inl g)) 0 0 6 = vp_cell cI (6, .inl (va_cpy f g 0 0 6)) := va_copiedX (fun z => .int z) cell cI f g t6 (by decide)
  rw [e1] at X' step
  have hl : a < H.size := (Array.getElem?_eq_some_iff.mp hc1).1
  have oq : ∀ q : Nat, q ≠ a → (H.setIfInBounds a (vp_cell cI (6, .inl (va_cpy f g 0 0 6))))[q]? = H[q]? := fun q hq => by simp [Array.getElem?_setIfInBounds, Ne.symm hq]
  have hheap : ((T.setVm vm').setCell a (vp_cell cI (6, .inl (va_cpy f g 0 0 6)))).heap = H.setIfInBounds a (vp_cell cI (6, .inl (va_cpy f g 0 0 6))) := by rw [← hT]; rfl
  obtain ⟨t2, a1, b1⟩ := kk _ _ ⟨hP.set hD ha1 (show (H.setIfInBounds a _)[a]? = some _ by simp [Array.getElem?_setIfInBounds, hl]) oq, hD.set ha1, ⟨by simp; exact hS.1, fun q g1 g2 => by
      rw [oq q (fun e => g2 (by rw [e]; exact hD.2 q1 _ ha1))]
      exact hS.2.1 q g1 g2, fun q hq => by
      rcases List.mem_append.mp hq with h | h
      · exact hS.2.2 q h
      · obtain ⟨z, -, hz⟩ := List.mem_map.mp h
        rw [← hz]
        exact hD.2 q1 _ ha1⟩⟩ _ hheap X'
  exact ⟨t2, step t2 a1, b1⟩
end XT
