/-! SHARED: sharings as rows of numbers. -/
def up (σ : Nat → Nat) (s x : Nat) : Nat → Nat := fun j => if j = s then x else σ j
def fz (t : Nat → Nat) (n g : Nat) : Nat → Nat → (Nat → Nat) → Prop
  | 0, _, _ => True
  | c + 1, k, σ => ∃ s, s < n ∧ σ s + t k ≤ g ∧ fz t n g c (k + 1) (up σ s (σ s + t k))
def swq (e s : Nat) (σ : Nat → Nat) : Nat → Nat := fun j => if j = e then σ s else if j = s then σ e else σ j
def sw1 (e s j : Nat) : Nat := if j = e then s else if j = s then e else j
theorem swq_at (e s j : Nat) (σ : Nat → Nat) : swq e s σ (sw1 e s j) = σ j := by
  unfold swq sw1
  grind
theorem swq_up (e s j x : Nat) (σ : Nat → Nat) : up (swq e s σ) (sw1 e s j) x = swq e s (up σ j x) := by
  funext i
  unfold swq sw1 up
  grind
theorem fz_swq (t : Nat → Nat) (n g e s : Nat) (he : e < n) (hs : s < n) : ∀ (c k : Nat) (σ : Nat → Nat), fz t n g c k σ → fz t n g c k (swq e s σ) := by
  intro c
  induction c with
  | zero => intro k σ _; exact trivial
  | succ c ih =>
    intro k σ h
    obtain ⟨j, hj, h1, h2⟩ := h
    refine ⟨sw1 e s j, ?_, ?_, ?_⟩
    · unfold sw1
      grind
    · rw [swq_at]
      exact h1
    · rw [swq_at, swq_up]
      exact ih _ _ h2
/-- what doesn't do with a SMITH doesn't with one of the same sum -/
theorem fz_same (t : Nat → Nat) (n g e s c k x : Nat) (σ : Nat → Nat) (he : e < n) (hs : s < n) (h : σ e = σ s) (hf : fz t n g c k (up σ s x)) : fz t n g c k (up σ e x) := by
  have h1 := fz_swq t n g e s he hs c k _ hf
  have e1 : swq e s (up σ s x) = up σ e x := by
    funext i
    unfold swq up
    grind
  rw [e1] at h1
  exact h1
def adm (t a : Nat → Nat) (g : Nat) : Nat → Nat → (Nat → Nat) → Prop
  | 0, _, _ => True
  | c + 1, k, σ => σ (a k) + t k ≤ g ∧ adm t a g c (k + 1) (up σ (a k) (σ (a k) + t k))
def lgv (t a : Nat → Nat) : Nat → Nat → (Nat → Nat) → Nat → Nat
  | 0, _, _, m => m
  | c + 1, k, σ, m => lgv t a c (k + 1) (up σ (a k) (σ (a k) + t k)) (max m (σ (a k) + t k))
theorem lgv_le (t a : Nat → Nat) (g : Nat) : ∀ (c k : Nat) (σ : Nat → Nat) (m : Nat), lgv t a c k σ m ≤ g ↔ m ≤ g ∧ adm t a g c k σ := by
  intro c
  induction c with
  | zero => intro k σ m; exact ⟨fun h => ⟨h, trivial⟩, fun h => h.1⟩
  | succ c ih =>
    intro k σ m
    show lgv t a c (k + 1) (up σ (a k) (σ (a k) + t k)) (max m (σ (a k) + t k)) ≤ g ↔ m ≤ g ∧ (σ (a k) + t k ≤ g ∧ adm t a g c (k + 1) (up σ (a k) (σ (a k) + t k)))
    rw [ih, Nat.max_le, and_assoc]
theorem adm_fz (t a : Nat → Nat) (n g : Nat) : ∀ (c k : Nat) (σ : Nat → Nat), (∀ i, k ≤ i → i < k + c → a i < n) → adm t a g c k σ → fz t n g c k σ := by
  intro c
  induction c with
  | zero => intro k σ _ _; exact trivial
  | succ c ih =>
    intro k σ ha h
    exact ⟨a k, ha k (by omega) (by omega), h.1, ih _ _ (fun i h1 h2 => ha i (by omega) (by omega)) h.2⟩
def tv (a : Nat → Nat) (n : Nat) : Nat → Nat → Nat
  | 0, _ => 0
  | c + 1, k => a k * n ^ c + tv a n c (k + 1)
theorem tv_lt (a : Nat → Nat) (n : Nat) : ∀ (c k : Nat), (∀ i, k ≤ i → i < k + c → a i < n) → tv a n c k < n ^ c := by
  intro c
  induction c with
  | zero => intro k _; exact Nat.one_pos
  | succ c ih =>
    intro k ha
    have h1 := ih (k + 1) (fun i h1 h2 => ha i (by omega) (by omega))
    have h2 := ha k (by omega) (by omega)
    have h3 : (a k + 1) * n ^ c ≤ n * n ^ c := Nat.mul_le_mul_right _ h2
    rw [Nat.add_mul, Nat.one_mul] at h3
    show a k * n ^ c + tv a n c (k + 1) < n ^ (c + 1)
    rw [Nat.pow_succ, Nat.mul_comm (n ^ c) n]
    omega
def lexf (t b : Nat → Nat) (n g : Nat) : Nat → Nat → (Nat → Nat) → Prop
  | 0, _, _ => True
  | c + 1, k, σ => b k < n ∧ σ (b k) + t k ≤ g ∧ (∀ s, s < b k → ¬ (σ s + t k ≤ g ∧ fz t n g c (k + 1) (up σ s (σ s + t k)))) ∧ lexf t b n g c (k + 1) (up σ (b k) (σ (b k) + t k))
theorem lexf_adm (t b : Nat → Nat) (n g : Nat) : ∀ (c k : Nat) (σ : Nat → Nat), lexf t b n g c k σ → adm t b g c k σ ∧ ∀ i, k ≤ i → i < k + c → b i < n := by
  intro c
  induction c with
  | zero => intro k σ _; exact ⟨trivial, fun i h1 h2 => by omega⟩
  | succ c ih =>
    intro k σ h
    obtain ⟨h1, h2, h3, h4⟩ := h
    have g1 := ih _ _ h4
    refine ⟨⟨h2, g1.1⟩, fun i h5 h6 => ?_⟩
    by_cases e : i = k
    · rw [e]; exact h1
    · exact g1.2 i (by omega) (by omega)
theorem lexf_first (t b a : Nat → Nat) (n g : Nat) : ∀ (c k : Nat) (σ : Nat → Nat), lexf t b n g c k σ → (∀ i, k ≤ i → i < k + c → a i < n) → tv a n c k < tv b n c k → ¬ adm t a g c k σ := by
  intro c
  induction c with
  | zero => intro k σ _ _ h; exact absurd h (Nat.lt_irrefl _)
  | succ c ih =>
    intro k σ h ha hv hA
    have hb := (lexf_adm t b n g (c + 1) k σ h).2
    obtain ⟨h1, h2, h3, h4⟩ := h
    have l1 := tv_lt a n c (k + 1) (fun i h1 h2 => ha i (by omega) (by omega))
    have l2 := tv_lt b n c (k + 1) (fun i h1 h2 => hb i (by omega) (by omega))
    have hv2 : a k * n ^ c + tv a n c (k + 1) < b k * n ^ c + tv b n c (k + 1) := hv
    rcases Nat.lt_trichotomy (a k) (b k) with q | q | q
    · exact h3 (a k) q ⟨hA.1, adm_fz t a n g c _ _ (fun i h1 h2 => ha i (by omega) (by omega)) hA.2⟩
    · rw [q] at hv2
      refine ih (k + 1) _ h4 (fun i h1 h2 => ha i (by omega) (by omega)) (by omega) ?_
      rw [← q]
      exact hA.2
    · have h5 : (b k + 1) * n ^ c ≤ a k * n ^ c := Nat.mul_le_mul_right _ q
      rw [Nat.add_mul, Nat.one_mul] at h5
      omega
/-- equal numbers, equal sharings -/
theorem tv_inj (a b : Nat → Nat) (n : Nat) : ∀ (c k : Nat), (∀ i, k ≤ i → i < k + c → a i < n) → (∀ i, k ≤ i → i < k + c → b i < n) → tv a n c k = tv b n c k → ∀ i, k ≤ i → i < k + c → a i = b i := by
  intro c
  induction c with
  | zero => intro k _ _ _ i h1 h2; omega
  | succ c ih =>
    intro k ha hb hv i h1 h2
    have l1 := tv_lt a n c (k + 1) (fun i h1 h2 => ha i (by omega) (by omega))
    have l2 := tv_lt b n c (k + 1) (fun i h1 h2 => hb i (by omega) (by omega))
    have hv2 : a k * n ^ c + tv a n c (k + 1) = b k * n ^ c + tv b n c (k + 1) := hv
    have q : a k = b k := by
      rcases Nat.lt_trichotomy (a k) (b k) with q | q | q
      · have h5 : (a k + 1) * n ^ c ≤ b k * n ^ c := Nat.mul_le_mul_right _ q
        rw [Nat.add_mul, Nat.one_mul] at h5
        omega
      · exact q
      · have h5 : (b k + 1) * n ^ c ≤ a k * n ^ c := Nat.mul_le_mul_right _ q
        rw [Nat.add_mul, Nat.one_mul] at h5
        omega
    by_cases e : i = k
    · rw [e]; exact q
    · rw [q] at hv2
      exact ih (k + 1) (fun i h1 h2 => ha i (by omega) (by omega)) (fun i h1 h2 => hb i (by omega) (by omega)) (by omega) i (by omega) (by omega)
theorem lgv_congr (t a b : Nat → Nat) : ∀ (c k : Nat) (σ : Nat → Nat) (m : Nat), (∀ i, k ≤ i → i < k + c → a i = b i) → lgv t a c k σ m = lgv t b c k σ m := by
  intro c
  induction c with
  | zero => intro k σ m _; rfl
  | succ c ih =>
    intro k σ m h
    show lgv t a c (k + 1) (up σ (a k) (σ (a k) + t k)) (max m (σ (a k) + t k)) = lgv t b c (k + 1) (up σ (b k) (σ (b k) + t k)) (max m (σ (b k) + t k))
    rw [h k (by omega) (by omega)]
    exact ih _ _ _ (fun i h1 h2 => h i (by omega) (by omega))
/-- bounds: the longest, and all TIMES by the SMITHS -/
def smT (σ : Nat → Nat) : Nat → Nat
  | 0 => 0
  | s + 1 => smT σ s + σ s
def ttl (t : Nat → Nat) : Nat → Nat → Nat
  | 0, _ => 0
  | c + 1, k => t k + ttl t c (k + 1)
theorem smT_up (σ : Nat → Nat) (s x : Nat) : ∀ n, smT (up σ s (σ s + x)) n = if s < n then smT σ n + x else smT σ n := by
  intro n
  induction n with
  | zero => rfl
  | succ n ih =>
    show smT (up σ s (σ s + x)) n + up σ s (σ s + x) n = _
    rw [ih]
    unfold up
    by_cases h : s < n
    · rw [if_pos h, if_neg (by omega), if_pos (by omega)]
      show _ = smT σ n + σ n + x
      omega
    · rw [if_neg h]
      by_cases e : n = s
      · rw [if_pos e, if_pos (by omega)]
        show _ = smT σ n + σ n + x
        rw [e]
        omega
      · rw [if_neg e, if_neg (by omega)]
        rfl
theorem smT_le (σ : Nat → Nat) (g : Nat) : ∀ n, (∀ s, s < n → σ s ≤ g) → smT σ n ≤ n * g := by
  intro n
  induction n with
  | zero => intro _; rw [Nat.zero_mul]; exact Nat.le_refl 0
  | succ n ih =>
    intro h
    have h1 := ih (fun s hs => h s (by omega))
    have h2 := h n (by omega)
    show smT σ n + σ n ≤ _
    rw [Nat.add_mul, Nat.one_mul]
    omega
theorem fz_total (t : Nat → Nat) (n g : Nat) : ∀ (c k : Nat) (σ : Nat → Nat), (∀ s, s < n → σ s ≤ g) → fz t n g c k σ → smT σ n + ttl t c k ≤ n * g ∧ ∀ i, k ≤ i → i < k + c → t i ≤ g := by
  intro c
  induction c with
  | zero => intro k σ hs _; exact ⟨by have := smT_le σ g n hs; show smT σ n + 0 ≤ _; omega, fun i h1 h2 => by omega⟩
  | succ c ih =>
    intro k σ hs h
    obtain ⟨s, h1, h2, h3⟩ := h
    have r := ih (k + 1) (up σ s (σ s + t k)) (fun j hj => by
      unfold up
      split
      · exact h2
      · exact hs j hj) h3
    rw [smT_up, if_pos h1] at r
    refine ⟨?_, fun i h4 h5 => ?_⟩
    · show smT σ n + (t k + ttl t c (k + 1)) ≤ _
      omega
    · by_cases e : i = k
      · rw [e]; omega
      · exact r.2 i (by omega) (by omega)
/-- one SMITH can do all -/
theorem adm_zero (t : Nat → Nat) : ∀ (c k g : Nat) (σ : Nat → Nat), σ 0 + ttl t c k ≤ g → adm t (fun _ => 0) g c k σ := by
  intro c
  induction c with
  | zero => intro k g σ _; exact trivial
  | succ c ih =>
    intro k g σ h
    have h2 : σ 0 + (t k + ttl t c (k + 1)) ≤ g := h
    refine ⟨by show σ 0 + t k ≤ g; omega, ih (k + 1) g _ ?_⟩
    show up σ 0 (σ 0 + t k) 0 + _ ≤ g
    unfold up
    rw [if_pos rfl]
    omega
theorem tv_zero (n : Nat) : ∀ c k, tv (fun _ => 0) n c k = 0 := by
  intro c
  induction c with
  | zero => intro k; rfl
  | succ c ih =>
    intro k
    show 0 * n ^ c + tv (fun _ => 0) n c (k + 1) = 0
    rw [ih]
    omega
