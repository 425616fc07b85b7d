/-! ITEMS behind THE WORK: the model and the class. -/
def ag4 (k : Nat) (line str wat bak line' str' wat' bak' : Nat → Int32) : Prop := ∀ i, i < k → line i = line' i ∧ str i = str' i ∧ wat i = wat' i ∧ bak i = bak' i
theorem ag4.rf (k : Nat) (line str wat bak : Nat → Int32) : ag4 k line str wat bak line str wat bak := fun _ _ => ⟨rfl, rfl, rfl, rfl⟩
theorem ag4.tr {k : Nat} {a b c d a' b' c' d' a2 b2 c2 d2 : Nat → Int32} (h : ag4 k a b c d a' b' c' d') (g : ag4 k a' b' c' d' a2 b2 c2 d2) : ag4 k a b c d a2 b2 c2 d2 := fun i hi => ⟨(h i hi).1.trans (g i hi).1, (h i hi).2.1.trans (g i hi).2.1, (h i hi).2.2.1.trans (g i hi).2.2.1, (h i hi).2.2.2.trans (g i hi).2.2.2⟩
theorem ag4.le {k j : Nat} {a b c d a' b' c' d' : Nat → Int32} (h : ag4 k a b c d a' b' c' d') (hj : j ≤ k) : ag4 j a b c d a' b' c' d' := fun i hi => h i (by omega)
theorem ag4.upd (k : Nat) (a b c d : Nat → Int32) (x y z u : Int32) : ag4 k a b c d (upd a k x) (upd b k y) (upd c k z) (upd d k u) := fun i hi => by
  have e : ¬ i = k := by omega
  exact ⟨(pk_un e).symm, (pk_un e).symm, (pk_un e).symm, (pk_un e).symm⟩
theorem okP_of_ag {k : Nat} {a b c d a' b' c' d' : Nat → Int32} (h : ag4 k a b c d a' b' c' d') (hok : ∀ i, i < k → okP a b c d i) : ∀ i, i < k → okP a' b' c' d' i := fun i hi => by
  obtain ⟨h1, h2, h3, h4⟩ := h i hi
  have g := hok i hi
  unfold okP at g ⊢
  rw [h1, h2, h3, h4] at g
  exact g
theorem s_worstBy (line str wat bak tab set b0 w : Nat → Int32) (many n : Nat) (hm : many ≤ 40) (hn : 300 ≤ n) (hok : ∀ i, i < many → okP line str wat bak i) : ∃ b', f_X12_worstBy n line str wat bak tab set b0 w (nI many) = some (WL tab set w (lst line str wat bak many), b') := by
  refine ⟨mbends line str wat bak tab set (zer8 b0 8) many, ?_⟩
  unfold f_X12_worstBy
  rw [s_bends line str wat bak tab set b0 many n hm (by omega) (fun i hi => okP_idx (hok i hi)) (fun i hi => okP_line (hok i hi))]
  simp only [Option.bind_some]
  rw [s_worst _ w n (by omega)]
  simp only [Option.bind_some]
  rw [wor_congr (mb_sh line str wat bak tab set (zer8 b0 8) (fun _ => 0) (zer8_eq8 b0) (eq8.rf _) many hok).1 (fun _ _ => rfl) 36 (by omega)]
  rfl
def itm (il is iw ib : Nat → Int32) (i : Nat) : Pq := (il i, is i, iw i, ib i)
theorem s_tryItem (line str wat bak il is iw ib : Nat → Int32) (n k i : Nat) (hk : k < 40) (hi : i < 10) : f_X12_tryItem n line str wat bak (nI k) il is iw ib (nI i) = some (upd line k (il i), upd str k (is i), upd wat k (iw i), upd bak k (ib i), nI (k + 1)) := by
  unfold f_X12_tryItem
  rw [p_vin hi (by omega), p_vin hk (by omega), p_cl (by omega), p_cl (by omega), p_1]
  rfl
theorem lst_upd (line str wat bak : Nat → Int32) (k : Nat) (x y z u : Int32) : lst (upd line k x) (upd str k y) (upd wat k z) (upd bak k u) (k + 1) = lst line str wat bak k ++ [(x, y, z, u)] := by
  show lst _ _ _ _ k ++ [(upd line k x k, upd str k y k, upd wat k z k, upd bak k u k)] = _
  rw [pk_us, pk_us, pk_us, pk_us]
  rw [lst_congr k (fun i hi => ⟨pk_un (by omega), pk_un (by omega), pk_un (by omega), pk_un (by omega)⟩)]
theorem okP_upd {line str wat bak : Nat → Int32} {k : Nat} {x y z u : Int32} (hok : ∀ i, i < k → okP line str wat bak i) (hq : okQ (x, y, z, u)) : ∀ i, i < k + 1 → okP (upd line k x) (upd str k y) (upd wat k z) (upd bak k u) i := by
  intro i hi
  by_cases h : i = k
  · subst h
    unfold okP
    rw [pk_us, pk_us, pk_us, pk_us]
    exact hq
  · have g := hok i (by omega)
    unfold okP at g ⊢
    rw [pk_un h, pk_un h, pk_un h, pk_un h]
    exact g
/-- the ITEMS of a set, from the i-th on -/
def selR (item : Nat → Pq) (v : Int32) : Nat → Nat → List Pq
  | _, 0 => []
  | i, r + 1 => (if (jshr v (nI i) &&& 1) = 1 then [item i] else []) ++ selR item v (i + 1) r
theorem s_worstWith_loop (il is iw ib tab set w : Nat → Int32) (items : Nat) (hit : items ≤ 10) (ps v : Int32) (hq : ∀ i, i < items → okQ (itm il is iw ib i)) : ∀ (r n i t : Nat) (line str wat bak b0 : Nat → Int32), i + r = items → t + r ≤ 40 → r + 301 ≤ n → (∀ j, j < t → okP line str wat bak j) →
    ∃ line' str' wat' bak' t' b', f_X12_worstWith_10 ps tab set w il is iw ib (nI items) n line str wat bak (nI t) b0 v (nI i) = some (WL tab set w (lst line str wat bak t ++ selR (itm il is iw ib) v i r), line', str', wat', bak', t', b') ∧ ag4 t line str wat bak line' str' wat' bak' := by
  intro r
  induction r with
  | zero =>
    intro n i t line str wat bak b0 hi ht hn hok
    obtain ⟨m, rfl⟩ : ∃ m, n = m + 1 := ⟨n - 1, by omega⟩
    obtain rfl : i = items := by omega
    obtain ⟨b', e⟩ := s_worstBy line str wat bak tab set b0 w t m (by omega) (by omega) hok
    refine ⟨line, str, wat, bak, nI t, b', ?_, ag4.rf _ _ _ _ _⟩
    show f_X12_worstWith_10b ps tab set w il is iw ib (nI i) _ m line str wat bak (nI t) b0 v (nI i) = _
    unfold f_X12_worstWith_10b
    rw [if_pos (Int32.le_refl _), e]
    simp only [Option.bind_some]
    unfold selR
    rw [List.append_nil]
  | succ r ih =>
    intro n i t line str wat bak b0 hi ht hn hok
    obtain ⟨m, rfl⟩ : ∃ m, n = m + 1 := ⟨n - 1, by omega⟩
    have e : f_X12_worstWith_10 ps tab set w il is iw ib (nI items) (m + 1) line str wat bak (nI t) b0 v (nI i) = if (jshr v (nI i) &&& 1) = 1 then f_X12_worstWith_10 ps tab set w il is iw ib (nI items) m (upd line t (il i)) (upd str t (is i)) (upd wat t (iw i)) (upd bak t (ib i)) (nI (t + 1)) b0 v (nI (i + 1)) else f_X12_worstWith_10 ps tab set w il is iw ib (nI items) m line str wat bak (nI t) b0 v (nI (i + 1)) := by
      show f_X12_worstWith_10b ps tab set w il is iw ib (nI items) (f_X12_worstWith_10 ps tab set w il is iw ib (nI items) m) m line str wat bak (nI t) b0 v (nI i) = _
      unfold f_X12_worstWith_10b
      rw [if_neg (by rw [p_le (by omega) (by omega)]; omega), s_tryItem line str wat bak il is iw ib m t i (by omega) (by omega)]
      simp only [Option.bind_some, p_1]
    rw [e]
    have es : selR (itm il is iw ib) v i (r + 1) = (if (jshr v (nI i) &&& 1) = 1 then [itm il is iw ib i] else []) ++ selR (itm il is iw ib) v (i + 1) r := rfl
    by_cases h : (jshr v (nI i) &&& 1) = 1
    · rw [if_pos h] at es ⊢
      obtain ⟨l2, s2, w2, b2, t2, c2, e2, a2⟩ := ih m (i + 1) (t + 1) (upd line t (il i)) (upd str t (is i)) (upd wat t (iw i)) (upd bak t (ib i)) b0 (by omega) (by omega) (by omega) (okP_upd hok (hq i (by omega)))
      refine ⟨l2, s2, w2, b2, t2, c2, ?_, ag4.tr (ag4.upd t line str wat bak _ _ _ _) (a2.le (by omega))⟩
      rw [e2, es, lst_upd, List.append_assoc]
      rfl
    · rw [if_neg h] at es ⊢
      obtain ⟨l2, s2, w2, b2, t2, c2, e2, a2⟩ := ih m (i + 1) t line str wat bak b0 (by omega) (by omega) (by omega) hok
      refine ⟨l2, s2, w2, b2, t2, c2, ?_, a2⟩
      rw [e2, es, List.nil_append]
theorem s_laySet_loop (il is iw ib set num tab : Nat → Int32) (items : Nat) (hit : items ≤ 10) (v : Int32) (hq : ∀ i, i < items → okQ (itm il is iw ib i)) (ht : tabRel num tab) : ∀ (r n i : Nat) (s : Sh), i + r = items → r + 1 ≤ n →
    f_X4_laySet_2 il is iw ib (nI items) set num n s.1 s.2 v (nI i) = some ((selR (itm il is iw ib) v i r).foldl (lay1 tab set) s) := by
  intro r
  induction r with
  | zero =>
    intro n i s hi hn
    obtain ⟨m, rfl⟩ : ∃ m, n = m + 1 := ⟨n - 1, by omega⟩
    obtain rfl : i = items := by omega
    show f_X4_laySet_2b il is iw ib (nI i) set num _ m s.1 s.2 v (nI i) = _
    unfold f_X4_laySet_2b
    rw [if_pos (Int32.le_refl _)]
    rfl
  | succ r ih =>
    intro n i s hi hn
    obtain ⟨m, rfl⟩ : ∃ m, n = m + 1 := ⟨n - 1, by omega⟩
    show f_X4_laySet_2b il is iw ib (nI items) set num (f_X4_laySet_2 il is iw ib (nI items) set num m) m s.1 s.2 v (nI i) = _
    unfold f_X4_laySet_2b
    have es : selR (itm il is iw ib) v i (r + 1) = (if (jshr v (nI i) &&& 1) = 1 then [itm il is iw ib i] else []) ++ selR (itm il is iw ib) v (i + 1) r := rfl
    rw [if_neg (by rw [p_le (by omega) (by omega)]; omega), s_lay6 s.1 s.2 set num tab il is iw ib 10 m i (by omega) (by omega) (hq i (by omega)) ht, es]
    simp only [Option.bind_some, p_1]
    by_cases h : (jshr v (nI i) &&& 1) = 1
    · rw [if_pos h, if_pos h, List.foldl_append]
      exact ih m (i + 1) (lay1 tab set s (itm il is iw ib i)) (by omega) (by omega)
    · rw [if_neg h, if_neg h, List.nil_append]
      exact ih m (i + 1) s (by omega) (by omega)
theorem foldl_eqS (tab set : Nat → Int32) : ∀ (l : List Pq) (s t : Sh), eqS s t → (∀ p ∈ l, okQ p) → eqS (l.foldl (lay1 tab set) s) (l.foldl (lay1 tab set) t) := by
  intro l
  induction l with
  | nil => intro s t h _; exact h
  | cons p l ih =>
    intro s t h hp
    exact ih _ _ (lay1_eqS tab set h p (hp p List.mem_cons_self)) (fun q hq => hp q (List.mem_cons_of_mem _ hq))
theorem selR_ok (item : Nat → Pq) (v : Int32) (items : Nat) (hq : ∀ i, i < items → okQ (item i)) : ∀ (r i : Nat), i + r = items → ∀ p ∈ selR item v i r, okQ p := by
  intro r
  induction r with
  | zero => intro i _ p hp; cases hp
  | succ r ih =>
    intro i hi p hp
    rcases List.mem_append.mp hp with h | h
    · split at h
      · rw [List.mem_singleton.mp h]; exact hq i (by omega)
      · cases h
    · exact ih (i + 1) (by omega) p h
theorem sh_app (tab set : Nat → Int32) (l k : List Pq) : sh tab set (l ++ k) = k.foldl (lay1 tab set) (sh tab set l) := by
  unfold sh
  rw [List.foldl_append]
theorem cpy_eq8 (f g : Nat → Int32) : eq8 (va_cpy f g 0 0 (8 : Int32).toNatClampNeg) f := by
  intro j hj
  have e : (8 : Int32).toNatClampNeg = 8 := by decide
  rw [e, pk_cpy_in (by omega) (by omega)]
  simp
