/-! Numbers as the machine makes them, under names; returns; the JDK's numbers. -/
def jmax (x y : Int32) : Int32 := if x < y then y else x
def jmin (x y : Int32) : Int32 := if y < x then y else x
def jabs (x : Int32) : Int32 := if 0 ≤ x then x else 0 - x
def jabsl (x : Int64) : Int64 := if 0 < x then x else -x
def jrem (x y : Int32) : Int32 := x - x / y * y
def jreml (x y : Int64) : Int64 := x - x / y * y
def jshl (x y : Int32) : Int32 := x <<< (y &&& 31)
def jshr (x y : Int32) : Int32 := x >>> (y &&& 31)
def jushr (x y : Int32) : Int32 := (x.toUInt32 >>> (y.toUInt32 &&& Int32.toUInt32 31)).toInt32
def jchr (x : Int32) : Int32 := (x.toUInt32 % 65536).toInt32
def isz (x : Int32) : Bool := decide (x = 0 ∨ x = 1)
theorem isz_nar {x : Int32} (h : isz x = true) : narrow .boolean (.int x) = .int x := by
  unfold isz at h
  rcases of_decide_eq_true h with rfl | rfl <;> rfl
section XM
variable {p : Program} {l : Launch} {e : Env} {R : Room} {s : State} {m : MethodId} {args : Array Value} {below : List Frame} {meth : Method} {c : Code} {H : Heap} {locs : List Loc} {Q : State → Prop}
variable {own : String} {cc : ByteArray} {maxL : Nat} {ret : Option FieldType} {D : va_G} {cI cC cZ : ClassId} {A : Nat → Prop} {H0 : Heap} {ws : va_W} {pc : Nat} {ls : Array Slot} {rest : List Value} {a : Nat} {cells slots : Nat}
theorem x_ldcw (C : Cx p s m args meth c own cc maxL ret D cI cC cZ) {index : Nat} {v : Int32} (hm : Cond.constant own index v ∈ gt) (hdg : decode cc pc = .ok (.ldc_w index, 3))
    (kk : W p l e R s m args below meth c H locs cells slots Q (F0 m (pc + 3) ls (.int v :: rest))) : W p l e R s m args below meth c H locs cells slots Q (F0 m pc ls rest) :=
  lv_ldcw C.1 C.2.1 C.2.2.2.2.1 (C.2.2.2.2.2.2.1 _ hm) hdg kk
theorem x_max (C : Cx p s m args meth c own cc maxL ret D cI cC cZ) (hls : ls.size = maxL) {index : Nat} (hm : Cond.methodLink own index Lib.Math.max.name ∈ gt) (h1 : Cond.static Lib.Math.max.name ∈ gt) (h2 : Cond.initialized "java/lang/Math" ∈ gt) (h3 : Cond.code Lib.Math.max.name Lib.Math.max.code 2 (some .int) ∈ gt)
    (hF : 1 ≤ R.frames) (hL : (rest.map fun v => v.category).sum + 13 ≤ R.locals) {x y : Int32} (hdg : decode cc pc = .ok (.invokestatic index, 3))
    (kk : W p l e R s m args below meth c H locs 0 0 Q (F0 m (pc + 3) ls (.int (jmax x y) :: rest))) : W p l e R s m args below meth c H locs 0 0 Q (F0 m pc ls (.int y :: .int x :: rest)) :=
  va_mmax C.1 C.2.1 (C.2.2.2.1.trans hls.symm) C.2.2.2.2.1 (C.2.2.2.2.2.2.1 _ hm) (C.2.2.2.2.2.2.1 _ h1) (C.2.2.2.2.2.2.1 _ h2) (C.2.2.2.2.2.2.1 _ h3) hF hL (Nat.zero_le _) (Nat.zero_le _) hdg kk
theorem x_min (C : Cx p s m args meth c own cc maxL ret D cI cC cZ) (hls : ls.size = maxL) {index : Nat} (hm : Cond.methodLink own index Lib.Math.min.name ∈ gt) (h1 : Cond.static Lib.Math.min.name ∈ gt) (h2 : Cond.initialized "java/lang/Math" ∈ gt) (h3 : Cond.code Lib.Math.min.name Lib.Math.min.code 2 (some .int) ∈ gt)
    (hF : 1 ≤ R.frames) (hL : (rest.map fun v => v.category).sum + 13 ≤ R.locals) {x y : Int32} (hdg : decode cc pc = .ok (.invokestatic index, 3))
    (kk : W p l e R s m args below meth c H locs 0 0 Q (F0 m (pc + 3) ls (.int (jmin x y) :: rest))) : W p l e R s m args below meth c H locs 0 0 Q (F0 m pc ls (.int y :: .int x :: rest)) :=
  va_mmin C.1 C.2.1 (C.2.2.2.1.trans hls.symm) C.2.2.2.2.1 (C.2.2.2.2.2.2.1 _ hm) (C.2.2.2.2.2.2.1 _ h1) (C.2.2.2.2.2.2.1 _ h2) (C.2.2.2.2.2.2.1 _ h3) hF hL (Nat.zero_le _) (Nat.zero_le _) hdg kk
theorem x_abs (C : Cx p s m args meth c own cc maxL ret D cI cC cZ) (hls : ls.size = maxL) {index : Nat} (hm : Cond.methodLink own index Lib.Math.abs.name ∈ gt) (h1 : Cond.static Lib.Math.abs.name ∈ gt) (h2 : Cond.initialized "java/lang/Math" ∈ gt) (h3 : Cond.code Lib.Math.abs.name Lib.Math.abs.code 1 (some .int) ∈ gt)
    (hF : 1 ≤ R.frames) (hL : (rest.map fun v => v.category).sum + 13 ≤ R.locals) {x : Int32} (hdg : decode cc pc = .ok (.invokestatic index, 3))
    (kk : W p l e R s m args below meth c H locs 0 0 Q (F0 m (pc + 3) ls (.int (jabs x) :: rest))) : W p l e R s m args below meth c H locs 0 0 Q (F0 m pc ls (.int x :: rest)) :=
  va_mabs C.1 C.2.1 (C.2.2.2.1.trans hls.symm) C.2.2.2.2.1 (C.2.2.2.2.2.2.1 _ hm) (C.2.2.2.2.2.2.1 _ h1) (C.2.2.2.2.2.2.1 _ h2) (C.2.2.2.2.2.2.1 _ h3) hF hL (Nat.zero_le _) (Nat.zero_le _) hdg kk
theorem x_absl (C : Cx p s m args meth c own cc maxL ret D cI cC cZ) (hls : ls.size = maxL) {index : Nat} (hm : Cond.methodLink own index Lib.MathLoose.abs_long.x ∈ gt) (h1 : Cond.static Lib.MathLoose.abs_long.x ∈ gt) (h2 : Cond.initialized "java/lang/Math" ∈ gt) (h3 : Cond.code Lib.MathLoose.abs_long.x Lib.MathLoose.abs_long.code 2 (some .long) ∈ gt)
    (hF : 1 ≤ R.frames) (hL : (rest.map fun v => v.category).sum + 13 ≤ R.locals) {x : Int64} (hdg : decode cc pc = .ok (.invokestatic index, 3))
    (kk : W p l e R s m args below meth c H locs 0 0 Q (F0 m (pc + 3) ls (.long (jabsl x) :: rest))) : W p l e R s m args below meth c H locs 0 0 Q (F0 m pc ls (.long x :: rest)) :=
  va_mabs_long C.1 C.2.1 (C.2.2.2.1.trans hls.symm) C.2.2.2.2.1 (C.2.2.2.2.2.2.1 _ hm) (C.2.2.2.2.2.2.1 _ h1) (C.2.2.2.2.2.2.1 _ h2) (C.2.2.2.2.2.2.1 _ h3) hF hL (Nat.zero_le _) (Nat.zero_le _) hdg kk
theorem x_rem (hx : p.tables.exec = Jvm.exec) (hb : c.code = cc) {x y : Int32} (hdg : decode cc pc = .ok (.irem, 1)) (hne : nzi y = true)
    (k : W p l e R s m args below meth c H locs cells slots Q (F0 m (pc + 1) ls (.int (jrem x y) :: rest))) : W p l e R s m args below meth c H locs cells slots Q (F0 m pc ls (.int y :: .int x :: rest)) := lv_irem hx hb hdg (nzi_ne hne) k
theorem x_div (hx : p.tables.exec = Jvm.exec) (hb : c.code = cc) {x y : Int32} (hdg : decode cc pc = .ok (.idiv, 1)) (hne : nzi y = true)
    (k : W p l e R s m args below meth c H locs cells slots Q (F0 m (pc + 1) ls (.int (x / y) :: rest))) : W p l e R s m args below meth c H locs cells slots Q (F0 m pc ls (.int y :: .int x :: rest)) := lv_idiv hx hb hdg (nzi_ne hne) k
theorem x_reml (hx : p.tables.exec = Jvm.exec) (hb : c.code = cc) {x y : Int64} (hdg : decode cc pc = .ok (.lrem, 1)) (hne : nzl y = true)
    (k : W p l e R s m args below meth c H locs cells slots Q (F0 m (pc + 1) ls (.long (jreml x y) :: rest))) : W p l e R s m args below meth c H locs cells slots Q (F0 m pc ls (.long y :: .long x :: rest)) := lv_lrem hx hb hdg (nzl_ne hne) k
theorem x_divl (hx : p.tables.exec = Jvm.exec) (hb : c.code = cc) {x y : Int64} (hdg : decode cc pc = .ok (.ldiv, 1)) (hne : nzl y = true)
    (k : W p l e R s m args below meth c H locs cells slots Q (F0 m (pc + 1) ls (.long (x / y) :: rest))) : W p l e R s m args below meth c H locs cells slots Q (F0 m pc ls (.long y :: .long x :: rest)) := lv_ldiv hx hb hdg (nzl_ne hne) k
theorem x_shl (hx : p.tables.exec = Jvm.exec) (hb : c.code = cc) {x y : Int32} (hdg : decode cc pc = .ok (.ishl, 1))
    (k : W p l e R s m args below meth c H locs cells slots Q (F0 m (pc + 1) ls (.int (jshl x y) :: rest))) : W p l e R s m args below meth c H locs cells slots Q (F0 m pc ls (.int y :: .int x :: rest)) := lv_ishl hx hb hdg k
theorem x_shr (hx : p.tables.exec = Jvm.exec) (hb : c.code = cc) {x y : Int32} (hdg : decode cc pc = .ok (.ishr, 1))
    (k : W p l e R s m args below meth c H locs cells slots Q (F0 m (pc + 1) ls (.int (jshr x y) :: rest))) : W p l e R s m args below meth c H locs cells slots Q (F0 m pc ls (.int y :: .int x :: rest)) := lv_ishr hx hb hdg k
theorem x_ushr (hx : p.tables.exec = Jvm.exec) (hb : c.code = cc) {x y : Int32} (hdg : decode cc pc = .ok (.iushr, 1))
    (k : W p l e R s m args below meth c H locs cells slots Q (F0 m (pc + 1) ls (.int (jushr x y) :: rest))) : W p l e R s m args below meth c H locs cells slots Q (F0 m pc ls (.int y :: .int x :: rest)) := lv_iushr hx hb hdg rfl k
theorem x_i2c (hx : p.tables.exec = Jvm.exec) (hb : c.code = cc) {x : Int32} (hdg : decode cc pc = .ok (.i2c, 1))
    (k : W p l e R s m args below meth c H locs cells slots Q (F0 m (pc + 1) ls (.int (jchr x) :: rest))) : W p l e R s m args below meth c H locs cells slots Q (F0 m pc ls (.int x :: rest)) := lv_i2c hx hb hdg rfl k
/-- System.arraycopy of two rows of ints, whole from 0 on -/
theorem x_copy (C : Cx p s m args meth c own cc maxL ret D cI cC cZ) (hw : Wd D A H0 ws H locs) (hls : ls.size = maxL) {index : Nat} (hm : Cond.methodLink own index arraycopyName ∈ gt) (h0 : Cond.native arraycopyName ∈ gt) (h1 : Cond.static arraycopyName ∈ gt) (h2 : Cond.initialized "java/lang/System" ∈ gt)
    (q0 q1 : Nat) {a0 n0 n1 : Nat} {f g : Nat → Int32} (ha0 : ws[q0]? = some (a0, .inl (cI, n0, .inl f))) (ha1 : ws[q1]? = some (a, .inl (cI, n1, .inl g))) {n : Int32} (hn : (!(decide (n < 0)) && decide (n.toNatClampNeg ≤ n0) && decide (n.toNatClampNeg ≤ n1)) = true)
    (hF : 1 ≤ R.frames) (hL : (rest.map fun v => v.category).sum + (nativeFrameWords "java/lang/System" "arraycopy" 5 + 11) ≤ R.locals) (hdg : decode cc pc = .ok (.invokestatic index, 3))
    (kk : ∀ (H1 : Heap) (locs1 : List Loc), Wd D A H0 (ws.set q1 (a, .inl (cI, n1, .inl (va_cpy f g 0 0 n.toNatClampNeg)))) H1 locs1 → W p l e R s m args below meth c H1 locs1 cells slots Q (F0 m (pc + 3) ls rest)) : W p l e R s m args below meth c H locs cells slots Q (F0 m pc ls (.int n :: .int 0 :: .ref a :: .int 0 :: .ref a0 :: rest)) := by
  simp only [Bool.and_eq_true, decide_eq_true_eq, Bool.not_eq_true', decide_eq_false_iff_not] at hn
  exact va_copyi C.1 C.2.1 (C.2.2.2.1.trans hls.symm) C.2.2.2.2.1 (C.2.2.2.2.2.2.1 _ hm) (C.2.2.2.2.2.2.1 _ h0) (C.2.2.2.2.2.2.1 _ h1) (C.2.2.2.2.2.2.1 _ h2) C.2.2.2.2.2.2.2 hw.1 hw.2.1 hw.2.2 q0 q1 0 0 ha0 ha1 rfl rfl rfl (by decide) (by decide) hn.1.1 (by simpa using hn.1.2) (by simpa using hn.2) (fun _ _ => rfl) hF hL hdg (fun H1 locs1 h1 h2 h3 => kk H1 locs1 ⟨h1, h2, h3⟩)
end XM
section XE
variable {p : Program} {l : Launch} {e : Env} {R : Room} {s : State} {m : MethodId} {args : Array Value} {below : List Frame} {meth : Method} {c : Code} {H : Heap} {locs : List Loc}
variable {own : String} {cc : ByteArray} {maxL : Nat} {D : va_G} {cI cC cZ : ClassId} {ws w w' : va_W} {pc : Nat} {ls : Array Slot} {r : Option Value} {A : Nat → Prop} {Q : State → Prop}
theorem x_end (hw : Wd D (inW w) s.heap ws H locs) (he : ws = w') : ∀ t : State, t.heap = H → s.WarmedH t.vm → CtQ D w w' r args s (.returned r) t := by
  intro t ht _
  subst he
  exact ⟨rfl, by rw [ht]; exact hw.1, by rw [ht]; exact hw.2.2.1, fun q h1 h2 => by rw [ht]; exact hw.2.2.2.1 q h1 h2⟩
theorem x_iret {v : Int32} (C : Cx p s m args meth c own cc maxL (some .int) D cI cC cZ) (hA : A = inW w) (hQ : Q = MQ below (CtQ D w w' r) args s 0 0 (inW w)) (hw : Wd D A s.heap ws H locs) (he : ws = w') (hv : some (.int v) = r) (hdg : decode cc pc = .ok (.ireturn, 1)) : W p l e R s m args below meth c H locs 0 0 Q (F0 m pc ls [.int v]) := by
  subst hv
  subst hA
  subst hQ
  exact W.iret C.1 C.2.1 C.2.2.1 (x_end hw he) hw.2.2.2.2 hdg C.2.2.2.2.2.1
theorem x_zret {v : Int32} (C : Cx p s m args meth c own cc maxL (some .boolean) D cI cC cZ) (hA : A = inW w) (hQ : Q = MQ below (CtQ D w w' r) args s 0 0 (inW w)) (hw : Wd D A s.heap ws H locs) (he : ws = w') (hv : some (.int v) = r) (hz : isz v = true) (hdg : decode cc pc = .ok (.ireturn, 1)) : W p l e R s m args below meth c H locs 0 0 Q (F0 m pc ls [.int v]) := by
  subst hv
  subst hA
  subst hQ
  exact W.zret C.1 C.2.1 C.2.2.1 (isz_nar hz) (x_end hw he) hw.2.2.2.2 hdg C.2.2.2.2.2.1
theorem x_lret {v : Int64} (C : Cx p s m args meth c own cc maxL (some .long) D cI cC cZ) (hA : A = inW w) (hQ : Q = MQ below (CtQ D w w' r) args s 0 0 (inW w)) (hw : Wd D A s.heap ws H locs) (he : ws = w') (hv : some (.long v) = r) (hdg : decode cc pc = .ok (.lreturn, 1)) : W p l e R s m args below meth c H locs 0 0 Q (F0 m pc ls [.long v]) := by
  subst hv
  subst hA
  subst hQ
  exact W.lret C.1 C.2.1 C.2.2.1 (x_end hw he) hw.2.2.2.2 hdg C.2.2.2.2.2.1
theorem x_vret (C : Cx p s m args meth c own cc maxL none D cI cC cZ) (hA : A = inW w) (hQ : Q = MQ below (CtQ D w w' r) args s 0 0 (inW w)) (hw : Wd D A s.heap ws H locs) (he : ws = w') (hv : none = r) (hdg : decode cc pc = .ok (.return_, 1)) : W p l e R s m args below meth c H locs 0 0 Q (F0 m pc ls []) := by
  subst hv
  subst hA
  subst hQ
  exact W.vret C.1 C.2.1 C.2.2.1 (x_end hw he) hw.2.2.2.2 hdg C.2.2.2.2.2.1
end XE
