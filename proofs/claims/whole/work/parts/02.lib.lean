/-! Own rows: contracts over fixed worlds (no new cells), the pure side's guards, and the kit's rows in a short form. -/
def vin (i : Int32) (n : Nat) : Bool := !(decide (i < 0) || decide (n ≤ i.toNatClampNeg))
theorem vin_in {i : Int32} {n : Nat} (h : vin i n = true) : vp_in i n := by
  unfold vin at h
  unfold vp_in
  simpa using h
theorem vin_of {i : Int32} {n : Nat} (h : vp_in i n) : vin i n = true := by
  unfold vin
  unfold vp_in at h
  simpa using h
def grd {α : Type} (b : Bool) (x : Option α) : Option α := match b with
  | true => x
  | false => none
theorem grd_b {α : Type} {b : Bool} {x : Option α} {o : α} (h : grd b x = some o) : b = true := by
  cases b
  · cases h
  · rfl
theorem grd_x {α : Type} {b : Bool} {x : Option α} {o : α} (h : grd b x = some o) : x = some o := by
  cases b
  · cases h
  · exact h
def nzi (x : Int32) : Bool := !(decide (x = 0))
theorem nzi_ne {x : Int32} (h : nzi x = true) : ¬ x = 0 := by
  unfold nzi at h
  simpa using h
def nzl (x : Int64) : Bool := !(decide (x = 0))
theorem nzl_ne {x : Int64} (h : nzl x = true) : ¬ x = 0 := by
  unfold nzl at h
  simpa using h
def nmd {α β : Type} (e : α) (k : α → β) : β := k e
theorem g_nm {α β : Type} {e x : α} {k : α → Option β} {o : β} (h : nmd e k = some o) (hx : x = e) : k x = some o := by
  subst hx
  exact h
theorem g_t {α : Type} {c : Prop} {i : Decidable c} {a b : Option α} {o : α} (h : (@ite (Option α) c i a b) = some o) (hc : c) : a = some o := by
  rw [if_pos hc] at h
  exact h
theorem g_f {α : Type} {c : Prop} {i : Decidable c} {a b : Option α} {o : α} (h : (@ite (Option α) c i a b) = some o) (hc : ¬ c) : b = some o := by
  rw [if_neg hc] at h
  exact h
theorem g_bd {α β : Type} {x : Option α} {k : α → Option β} {o : β} (h : Option.bind x k = some o) : ∃ y, x = some y ∧ k y = some o := by
  cases x with
  | none => cases h
  | some y => exact ⟨y, rfl, h⟩
/-- decoded rows of a method, by one check -/
def dcOk (cc : ByteArray) : List (Nat × Instr × Nat) → Bool
  | [] => true
  | q :: r => decide (decode cc q.1 = .ok (q.2.1, q.2.2)) && dcOk cc r
theorem dc_mem {cc : ByteArray} {L : List (Nat × Instr × Nat)} (h : dcOk cc L = true) : ∀ q ∈ L, decode cc q.1 = .ok (q.2.1, q.2.2) := by
  induction L with
  | nil => intro q hq; cases hq
  | cons a r ih =>
    simp only [dcOk, Bool.and_eq_true, decide_eq_true_eq] at h
    intro q hq
    rcases List.mem_cons.mp hq with rfl | hq
    · exact h.1
    · exact ih h.2 q hq
theorem dc {cc : ByteArray} {L : List (Nat × Instr × Nat)} (h : dcOk cc L = true) (k : Nat) {pc n : Nat} {i : Instr} (e : L[k]? = some (pc, i, n)) : decode cc pc = .ok (i, n) := dc_mem h (pc, i, n) (List.mem_of_getElem? e)
/-- the addresses of a world -/
def inW (w : va_W) : Nat → Prop := fun q => ∃ (k : Nat) (e : va_E), w[k]? = some (q, e)
theorem va_D.inw {A : Nat → Prop} {w : va_W} (h : va_D A w) : va_D (inW w) w := ⟨h.1, fun k q hk => ⟨k, q.2, hk⟩⟩
def mix (ws : va_W) : List Nat → va_W → va_W
  | i :: is, e :: es => mix (ws.set i e) is es
  | _, _ => ws
theorem mix_get : ∀ (is : List Nat) (w : va_W) (ws : va_W) (k : Nat) (q : Nat × va_E), is.length = w.length → (mix ws is w)[k]? = some q → (∃ j : Nat, is[j]? = some k ∧ w[j]? = some q) ∨ (k ∉ is ∧ ws[k]? = some q) := by
  intro is
  induction is with
  | nil =>
    intro w ws k q hl h
    cases w with
    | nil => exact Or.inr ⟨List.not_mem_nil, h⟩
    | cons a b => simp at hl
  | cons i is ih =>
    intro w ws k q hl h
    cases w with
    | nil => simp at hl
    | cons e es =>
      have hl' : is.length = es.length := by simpa using hl
      rcases ih es (ws.set i e) k q hl' h with ⟨j, h1, h2⟩ | ⟨h1, h2⟩
      · exact Or.inl ⟨j + 1, by simpa using h1, by simpa using h2⟩
      · rw [List.getElem?_set] at h2
        by_cases hk : i = k
        · rw [if_pos hk] at h2
          by_cases hlt : i < ws.length
          · rw [if_pos hlt] at h2
            exact Or.inl ⟨0, by simp [hk], by simpa using h2⟩
          · rw [if_neg hlt] at h2
            cases h2
        · rw [if_neg hk] at h2
          exact Or.inr ⟨fun hm => (List.mem_cons.mp hm).elim (fun h3 => hk h3.symm) h1, h2⟩
theorem mix_ok {D : va_G} {cl : List vw_C} {A : Nat → Prop} {ws w w' : va_W} {H H1 : Heap} (hP : va_P D cl ws H) (hD : va_D A ws) (isC : List Nat) (hsel : isC.map (fun i => ws[i]?) = w.map some) (hadr : w'.map Prod.fst = w.map Prod.fst)
    (hk : ∀ q : Nat, q < H.size → ¬ inW w q → H1[q]? = H[q]?) (hP1 : va_P D cl w' H1) : va_P D cl (mix ws isC w') H1 ∧ va_D A (mix ws isC w') := by
  have hl1 : isC.length = w.length := by have := congrArg List.length hsel; simpa using this
  have hl2 : w'.length = w.length := by have := congrArg List.length hadr; simpa using this
  have sel : ∀ (j : Nat) (q : Nat × va_E), w[j]? = some q → ∃ i, isC[j]? = some i ∧ ws[i]? = some q := by
    intro j q hq
    have h1 : (isC.map (fun i => ws[i]?))[j]? = some (some q) := by rw [hsel, List.getElem?_map, hq]; rfl
    rw [List.getElem?_map] at h1
    cases hi : isC[j]? with
    | none => rw [hi] at h1; cases h1
    | some i => rw [hi] at h1; exact ⟨i, rfl, Option.some.inj h1⟩
  have adr : ∀ (j : Nat) (q : Nat × va_E), w'[j]? = some q → ∃ q', w[j]? = some q' ∧ q'.1 = q.1 := by
    intro j q hq
    have h1 : (w'.map Prod.fst)[j]? = some q.1 := by rw [List.getElem?_map, hq]; rfl
    rw [hadr, List.getElem?_map] at h1
    cases hi : w[j]? with
    | none => rw [hi] at h1; cases h1
    | some i => rw [hi] at h1; exact ⟨i, rfl, Option.some.inj h1⟩
  have same : ∀ (k : Nat) (q : Nat × va_E), (mix ws isC w')[k]? = some q → ∃ q', ws[k]? = some q' ∧ q'.1 = q.1 := by
    intro k q hq
    rcases mix_get isC w' ws k q (hl1.trans hl2.symm) hq with ⟨j, h1, h2⟩ | ⟨-, h2⟩
    · obtain ⟨q', h3, h4⟩ := adr j q h2
      obtain ⟨i, h5, h6⟩ := sel j q' h3
      rw [h1] at h5
      cases h5
      exact ⟨q', h6, h4⟩
    · exact ⟨q, h2, rfl⟩
  refine ⟨fun k q hq => ?_, ⟨fun i j x y hx hy hxy => ?_, fun k q hq => ?_⟩⟩
  · rcases mix_get isC w' ws k q (hl1.trans hl2.symm) hq with ⟨j, h1, h2⟩ | ⟨h1, h2⟩
    · exact hP1 j q h2
    · refine (hP k q h2).kept (hk q.1 (hP k q h2).lt (fun hw => ?_))
      obtain ⟨j, e, h3⟩ := hw
      obtain ⟨i, h5, h6⟩ := sel j _ h3
      have := hD.1 k i q (q.1, e) h2 h6 rfl
      subst this
      exact h1 (List.mem_of_getElem? h5)
  · obtain ⟨x', h1, h2⟩ := same i x hx
    obtain ⟨y', h3, h4⟩ := same j y hy
    exact hD.1 i j x' y' h1 h3 (by rw [h2, h4, hxy])
  · obtain ⟨q', h1, h2⟩ := same k q hq
    rw [← h2]
    exact hD.2 k q' h1
/-- the world of a walk -/
def Wd (D : va_G) (A : Nat → Prop) (H0 : Heap) (ws : va_W) (H : Heap) (locs : List Loc) : Prop := va_P D vwCl ws H ∧ va_D A ws ∧ va_S A H0 H locs
/-- the words that a call carries on -/
def okWord : Cond → Bool
  | .methodLinkNest _ _ _ _ => true
  | w => goodWord w
def gt : List Cond := lw_tbl.filter okWord
theorem gt_warm {args : Array Value} {s : State} {w : Cond} (hw : w ∈ gt) (h : w.before args s = true) (a' : Array Value) (U : State) (hW : s.WarmedH U.vm) : w.before a' U = true := by
  have h1 : okWord w = true := (List.mem_filter.mp hw).2
  cases w with
  | methodLinkNest a i x q => exact va_Nw.use rfl (va_Nw.warmM hW (va_Nw.of rfl h))
  | _ => exact word_at hW (good_of_word h1) h
theorem in_gt {w : Cond} (k : Nat) (h : lw_tbl[k]? = some w) (h2 : okWord w = true) : w ∈ gt := List.mem_filter.mpr ⟨List.mem_of_getElem? h, h2⟩
abbrev tys3 (cI cC cZ : ClassId) : List (ClassId × FieldType) := [(cI, .int), (cC, .char), (cZ, .boolean)]
abbrev wsOf (y : MethodName) (cc : ByteArray) (maxL : Nat) (ret : Option FieldType) : List Cond := .code y cc maxL ret :: gt
abbrev rmOf (F L : Nat) : Room := { frames := F, cells := 0, slots := 0, locals := L }
def CtQ (D : va_G) (w w' : va_W) (r : Option Value) : Array Value → State → Outcome → State → Prop := fun _ st oc t => oc = .returned r ∧ va_P D vwCl w' t.heap ∧ st.heap.size ≤ t.heap.size ∧ ∀ q : Nat, q < st.heap.size → ¬ inW w q → t.heap[q]? = st.heap[q]?
/-- a method's contract over a fixed world: w before, w' behind, answer r -/
def Ctr (l : Launch) (y : MethodName) (cc : ByteArray) (maxL : Nat) (ret : Option FieldType) (F L : Nat) (D : va_G) (cI cC cZ : ClassId) (av : List Value) (w w' : va_W) (r : Option Value) : Prop :=
  Met l y (wsOf y cc maxL ret) (rmOf F L) (va_Pc av (fun U => va_P D vwCl w U.heap ∧ va_K D vwCl (tys3 cI cC cZ) U ∧ va_D (fun _ => True) w)) (CtQ D w w' r) 0 0 (inW w)
/-- what a walk stands on -/
def Cx (p : Program) (s : State) (m : MethodId) (args : Array Value) (meth : Method) (c : Code) (own : String) (cc : ByteArray) (maxL : Nat) (ret : Option FieldType) (D : va_G) (cI cC cZ : ClassId) : Prop :=
  p.tables.exec = Jvm.exec ∧ c.code = cc ∧ meth.sig.returnType = ret ∧ c.maxLocals = maxL ∧ s.vm.findClass own = some m.cls ∧ meth.locks = false ∧ (∀ w ∈ gt, w.before args s = true) ∧ va_K D vwCl (tys3 cI cC cZ) s
theorem Ctr.of {l : Launch} {y : MethodName} {cc : ByteArray} {maxL : Nat} {ret : Option FieldType} {F L : Nat} {D : va_G} {cI cC cZ : ClassId} {av : List Value} {w w' : va_W} {r : Option Value} (hy : plainName y.cls = true) (hn : (lg_sl av).length ≤ maxL)
    (body : ∀ (p : Program) (e : Env) (s : State) (m : MethodId) (args : Array Value) (below : List Frame) (meth : Method) (c : Code) (ls : Array Slot) (A : Nat → Prop) (Q : State → Prop), A = inW w → Q = MQ below (CtQ D w w' r) args s 0 0 (inW w) → Cx p s m args meth c y.cls cc maxL ret D cI cC cZ → lv_has ls maxL (lv_args 0 av) → Wd D A s.heap w s.heap [] →
      W p l e (rmOf F L) s m args below meth c s.heap [] 0 0 Q (F0 m 0 ls [])) : Ctr l y cc maxL ret F L D cI cC cZ av w w' r := by
  refine Met.ofW (cc := cc) (maxL := maxL) (ret := ret) hy rfl ?_
  intro p e s m args below meth c s₁ B hml hv
  obtain ⟨rfl, hP, hK, hD⟩ := hv
  have hts := atoms_spec (ws := wsOf y cc maxL ret) B.pre
  have hl := lv_entry av (n := maxL) hn
  rw [lg_entry_eq]
  exact body p e s m _ below meth c _ _ _ rfl rfl ⟨B.exec, B.bytes, B.returns, hml, findClass_of_methodNamed B.named, B.notSynchronized, fun w hw => hts w (List.mem_cons_of_mem _ hw), hK⟩ hl ⟨hP, hD.inw, va_S.rf⟩
theorem no_none {α : Type} {o : α} (h : (none : Option α) = some o) : False := by cases h
theorem ii {x w : Int32} {n : Int} (h : Int32.ofInt n = w) : x + Int32.ofInt n = x + w := by rw [h]
theorem sw_ne {y v : Int32} {k : Int} (h : ¬ y = v) (hv : v.toInt = k) : y.toInt ≠ k := fun e => h (Int32.toInt_inj.mp (e.trans hv.symm))
