/-! Shapes of lists of PASSES. -/
abbrev Pq : Type := Int32 × Int32 × Int32 × Int32
abbrev Sh : Type := (Nat → Int32) × (Nat → Int32)
def okQ (p : Pq) : Prop := (∃ L, L < 8 ∧ p.1 = nI L) ∧ (∃ S, 1 ≤ S ∧ S ≤ 9 ∧ p.2.1 = nI S) ∧ (∃ w, w ≤ 1 ∧ p.2.2.1 = nI w) ∧ (∃ k, k ≤ 1 ∧ p.2.2.2 = nI k)
def lay1 (tab set : Nat → Int32) (s : Sh) (p : Pq) : Sh :=
  (upd s.1 p.1.toNatClampNeg (s.1 p.1.toNatClampNeg + bentv tab p.2.1 p.2.2.1 p.2.2.2 (max0 (lpart s.2 set p.1.toNatClampNeg))), upd s.2 p.1.toNatClampNeg (s.2 p.1.toNatClampNeg + 1))
def sh0 : Sh := (fun _ => 0, fun _ => 0)
def sh (tab set : Nat → Int32) (l : List Pq) : Sh := l.foldl (lay1 tab set) sh0
theorem sh_snoc (tab set : Nat → Int32) (l : List Pq) (p : Pq) : sh tab set (l ++ [p]) = lay1 tab set (sh tab set l) p := by
  unfold sh
  rw [List.foldl_append]
  rfl
def eq8 (a b : Nat → Int32) : Prop := ∀ j, j < 8 → a j = b j
theorem eq8.rf (a : Nat → Int32) : eq8 a a := fun _ _ => rfl
theorem eq8.tr {a b c : Nat → Int32} (h : eq8 a b) (g : eq8 b c) : eq8 a c := fun j hj => (h j hj).trans (g j hj)
theorem eq8.sy {a b : Nat → Int32} (h : eq8 a b) : eq8 b a := fun j hj => (h j hj).symm
theorem lpart_eq8 {a b : Nat → Int32} (h : eq8 a b) (set : Nat → Int32) (L : Nat) : lpart a set L = lpart b set L := by
  unfold lpart
  rw [h 0 (by omega), h 1 (by omega), h 2 (by omega), h 3 (by omega), h 4 (by omega), h 5 (by omega), h 6 (by omega), h 7 (by omega)]
def eqS (s t : Sh) : Prop := eq8 s.1 t.1 ∧ eq8 s.2 t.2
theorem upd_eq8 {a b : Nat → Int32} (h : eq8 a b) (k : Nat) {x y : Int32} (e : x = y) : eq8 (upd a k x) (upd b k y) := by
  intro j hj
  unfold upd
  split
  · exact e
  · exact h j hj
theorem lay1_eqS (tab set : Nat → Int32) {s t : Sh} (h : eqS s t) (p : Pq) (hp : okQ p) : eqS (lay1 tab set s p) (lay1 tab set t p) := by
  obtain ⟨⟨L, hL, e⟩, -⟩ := hp
  unfold lay1
  rw [e, p_cl (by omega), lpart_eq8 h.2 set L]
  exact ⟨upd_eq8 h.1 L (by rw [h.1 L hL]), upd_eq8 h.2 L (by rw [h.2 L hL])⟩
theorem hgt_eq8 {a b : Nat → Int32} (h : eq8 a b) (c : Nat) : hgt a c = hgt b c := by
  unfold hgt hgt2 hst
  simp only [Nat.reduceAdd, Nat.add_zero]
  rw [h 0 (by omega), h 1 (by omega), h 2 (by omega), h 3 (by omega), h 4 (by omega), h 5 (by omega), h 6 (by omega), h 7 (by omega)]
def eq36 (a b : Nat → Int32) : Prop := ∀ j, j < 36 → a j = b j
theorem mis_congr {a b w v : Nat → Int32} (h : eq8 a b) (g : eq36 w v) (c : Nat) (hc : c < 36) : mis a w c = mis b v c := by
  unfold mis off
  rw [hgt_eq8 h c, hgt_eq8 h 0, hgt_eq8 h 5, hgt_eq8 h 30, g c hc, g 0 (by omega), g 5 (by omega), g 30 (by omega)]
theorem wor_congr {a b w v : Nat → Int32} (h : eq8 a b) (g : eq36 w v) : ∀ k, k ≤ 36 → wor a w k = wor b v k := by
  intro k
  induction k with
  | zero => intro _; rfl
  | succ k ih =>
    intro hk
    show (if sz (mis a w k) ≤ wor a w k then wor a w k else sz (mis a w k)) = (if sz (mis b v k) ≤ wor b v k then wor b v k else sz (mis b v k))
    rw [ih (by omega), mis_congr h g k (by omega)]
/-- WORST of a list of PASSES against a WISH -/
def WL (tab set w : Nat → Int32) (l : List Pq) : Int32 := wor (sh tab set l).1 w 36
/-- the first so many of four rows -/
def lst (line str wat bak : Nat → Int32) : Nat → List Pq
  | 0 => []
  | k + 1 => lst line str wat bak k ++ [(line k, str k, wat k, bak k)]
theorem lst_congr {line str wat bak line' str' wat' bak' : Nat → Int32} : ∀ k, (∀ i, i < k → line i = line' i ∧ str i = str' i ∧ wat i = wat' i ∧ bak i = bak' i) → lst line str wat bak k = lst line' str' wat' bak' k := by
  intro k
  induction k with
  | zero => intro _; rfl
  | succ k ih =>
    intro h
    obtain ⟨h1, h2, h3, h4⟩ := h k (by omega)
    show lst line str wat bak k ++ _ = lst line' str' wat' bak' k ++ _
    rw [ih (fun i hi => h i (by omega)), h1, h2, h3, h4]
theorem zer8_eq8 (b : Nat → Int32) : eq8 (zer8 b 8) (fun _ => 0) := fun j hj => if_pos hj
/-- the model's and the class's rows, as the shape of a list -/
theorem mb_sh (line str wat bak tab set b0 l0 : Nat → Int32) (hb : eq8 b0 (fun _ => 0)) (hl : eq8 l0 (fun _ => 0)) : ∀ k, (∀ i, i < k → okP line str wat bak i) → eqS (mbends line str wat bak tab set b0 k, mlaid line l0 k) (sh tab set (lst line str wat bak k)) := by
  intro k
  induction k with
  | zero => intro _; exact ⟨hb, hl⟩
  | succ k ih =>
    intro hok
    have h := ih (fun i hi => hok i (by omega))
    have hk := hok k (by omega)
    have hq : okQ (line k, str k, wat k, bak k) := hk
    have h2 := lay1_eqS tab set h _ hq
    obtain ⟨⟨L, hL, e⟩, -⟩ := hk
    rw [show lst line str wat bak (k + 1) = lst line str wat bak k ++ [(line k, str k, wat k, bak k)] from rfl, sh_snoc]
    refine ⟨fun j hj => ?_, fun j hj => ?_⟩
    · rw [← h2.1 j hj]
      unfold lay1
      show mbends line str wat bak tab set b0 (k + 1) j = _
      rw [show mbends line str wat bak tab set b0 (k + 1) = upd (mbends line str wat bak tab set b0 k) (line k).toNatClampNeg (mbends line str wat bak tab set b0 k (line k).toNatClampNeg + bentv tab (str k) (wat k) (bak k) (max0 (mpart set line (line k) k))) from rfl]
      show upd _ (line k).toNatClampNeg (_ + bentv tab (str k) (wat k) (bak k) (max0 (mpart set line (line k) k))) j = upd _ (line k).toNatClampNeg (_ + bentv tab (str k) (wat k) (bak k) (max0 (lpart (mlaid line l0 k) set (line k).toNatClampNeg))) j
      rw [e, p_cl (by omega), lp_mpart line l0 set L hL hl k (fun i hi => (hok i (by omega)).1)]
    · rw [← h2.2 j hj]
      rfl
