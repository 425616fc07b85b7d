/-! SHARED by the model. -/
theorem s_lng (line str wat bak so : Nat → Int32) (a : Nat → Nat) (P N : Nat) (hP : P ≤ 12) (hN : N ≤ 3) (hok : ∀ i, i < P → okP line str wat bak i) (hso : ∀ i, i < P → so i = nI (a i) ∧ a i < N) : ∀ (c n k m : Nat) (σ : Nat → Nat) (busy : Nat → Int32), k + c = P → c + 2 ≤ n → (∀ j, j < N → busy j = nI (σ j)) → (∀ j, j < N → σ j ≤ 12 * k) → m ≤ 12 * k →
    ∃ bu', f_X12_longest_24 str wat (nI P) so n busy (nI m) (nI k) = some (nI (lgv (tmN str wat) a c k σ m), bu') ∧ lgv (tmN str wat) a c k σ m ≤ 144 := by
  intro c
  induction c with
  | zero =>
    intro n k m σ busy hk hn hb hσ hm
    obtain ⟨q, rfl⟩ : ∃ q, n = q + 1 := ⟨n - 1, by omega⟩
    obtain rfl : k = P := by omega
    refine ⟨busy, ?_, by show m ≤ 144; omega⟩
    show f_X12_longest_24b str wat (nI k) so _ q busy (nI m) (nI k) = _
    unfold f_X12_longest_24b
    rw [if_pos (Int32.le_refl _)]
    rfl
  | succ c ih =>
    intro n k m σ busy hk hn hb hσ hm
    obtain ⟨q, rfl⟩ : ∃ q, n = q + 1 := ⟨n - 1, by omega⟩
    obtain ⟨e1, ha⟩ := hso k (by omega)
    have ht := tm_ok (hok k (by omega))
    have hs := hσ (a k) ha
    have eu : upd busy (a k) (nI (σ (a k) + tmN str wat k)) (a k) = nI (σ (a k) + tmN str wat k) := if_pos rfl
    have hb' : ∀ j, j < N → upd busy (a k) (nI (σ (a k) + tmN str wat k)) j = nI (up σ (a k) (σ (a k) + tmN str wat k) j) := fun j hj => by
      unfold upd up
      split
      · rfl
      · exact hb j hj
    have hσ' : ∀ j, j < N → up σ (a k) (σ (a k) + tmN str wat k) j ≤ 12 * (k + 1) := fun j hj => by
      have := hσ j hj
      unfold up
      split <;> omega
    have key : f_X12_longest_24 str wat (nI P) so (q + 1) busy (nI m) (nI k) = f_X12_longest_24 str wat (nI P) so q (upd busy (a k) (nI (σ (a k) + tmN str wat k))) (nI (max m (σ (a k) + tmN str wat k))) (nI (k + 1)) := by
      show f_X12_longest_24b str wat (nI P) so (f_X12_longest_24 str wat (nI P) so q) q busy (nI m) (nI k) = _
      unfold f_X12_longest_24b f_X12_timeOf
      rw [if_neg (by rw [p_le (by omega) (by omega)]; omega), p_vin (show k < 12 by omega) (by omega), p_vin (show k < 40 by omega) (by omega), p_cl (by omega), e1, p_vin (show a k < 3 by omega) (by omega), p_cl (by omega), ht.1]
      simp only [grd_t, Option.bind_some, nmd, p_1]
      rw [hb (a k) ha, p_add, eu]
      by_cases h : σ (a k) + tmN str wat k ≤ m
      · rw [if_pos ((p_le (by omega) (by omega)).mpr h), Nat.max_eq_left h]
      · rw [if_neg (fun g => h ((p_le (by omega) (by omega)).mp g)), Nat.max_eq_right (by omega)]
    rw [key]
    exact ih q (k + 1) _ _ _ (by omega) (by omega) hb' hσ' (by omega)
theorem s_lng0 (line str wat bak so : Nat → Int32) (a : Nat → Nat) (P N : Nat) (hP : P ≤ 12) (hN : N ≤ 3) (hok : ∀ i, i < P → okP line str wat bak i) (hso : ∀ i, i < P → so i = nI (a i) ∧ a i < N) : ∀ (c n k : Nat) (busy : Nat → Int32), k + c = N → c + 20 ≤ n → (∀ j, j < k → busy j = 0) →
    ∃ bu', f_X12_longest_2 str wat (nI P) so n busy (nI N) (nI k) = some (nI (lgv (tmN str wat) a P 0 (fun _ => 0) 0), bu') ∧ lgv (tmN str wat) a P 0 (fun _ => 0) 0 ≤ 144 := by
  intro c
  induction c with
  | zero =>
    intro n k busy hk hn hb
    obtain ⟨q, rfl⟩ : ∃ q, n = q + 1 := ⟨n - 1, by omega⟩
    obtain rfl : k = N := by omega
    show ∃ bu', f_X12_longest_2b str wat (nI P) so _ q busy (nI k) (nI k) = _ ∧ _
    unfold f_X12_longest_2b
    rw [if_pos (Int32.le_refl _)]
    exact s_lng line str wat bak so a P k hP hN hok hso P q 0 0 (fun _ => 0) busy (by omega) (by omega) (fun j hj => hb j hj) (fun j _ => by omega) (by omega)
  | succ c ih =>
    intro n k busy hk hn hb
    obtain ⟨q, rfl⟩ : ∃ q, n = q + 1 := ⟨n - 1, by omega⟩
    show ∃ bu', f_X12_longest_2b str wat (nI P) so (f_X12_longest_2 str wat (nI P) so q) q busy (nI N) (nI k) = _ ∧ _
    unfold f_X12_longest_2b
    rw [if_neg (by rw [p_le (by omega) (by omega)]; omega), p_vin (show k < 3 by omega) (by omega), p_cl (by omega), grd_t, p_1]
    exact ih q (k + 1) _ (by omega) (by omega) (fun j hj => by
      unfold upd
      split
      · rfl
      · exact hb j (by omega))
/-- a sharing as a number, from its first PASSES on -/
def vl (a : Nat → Nat) (n : Nat) : Nat → Nat
  | 0 => 0
  | k + 1 => vl a n k * n + a k
theorem vl_tv (a : Nat → Nat) (n : Nat) : ∀ c k, vl a n k * n ^ c + tv a n c k = vl a n (k + c) := by
  intro c
  induction c with
  | zero => intro k; show vl a n k * 1 + 0 = vl a n k; omega
  | succ c ih =>
    intro k
    have h := ih (k + 1)
    rw [show k + (c + 1) = k + 1 + c from by omega, ← h]
    show vl a n k * n ^ (c + 1) + (a k * n ^ c + tv a n c (k + 1)) = (vl a n k * n + a k) * n ^ c + tv a n c (k + 1)
    rw [Nat.pow_succ, Nat.add_mul, Nat.mul_assoc, Nat.mul_comm (n ^ c) n]
    omega
theorem vl_congr (a b : Nat → Nat) (n : Nat) : ∀ k, (∀ i, i < k → a i = b i) → vl a n k = vl b n k := by
  intro k
  induction k with
  | zero => intro _; rfl
  | succ k ih =>
    intro h
    show vl a n k * n + a k = vl b n k * n + b k
    rw [ih (fun i hi => h i (by omega)), h k (by omega)]
theorem vl_lt (a : Nat → Nat) (n : Nat) : ∀ k, (∀ i, i < k → a i < n) → vl a n k < n ^ k := by
  intro k h
  have h1 := vl_tv a n k 0
  rw [Nat.zero_add] at h1
  have h2 := tv_lt a n k 0 (fun i _ h3 => h i (by omega))
  have z : vl a n 0 = 0 := rfl
  rw [z, Nat.zero_mul] at h1
  omega
theorem s_nsh (P N : Nat) (hP : P ≤ 12) (hN : N ≤ 3) (hN1 : 1 ≤ N) : ∀ (k n : Nat) (so : Nat → Int32) (a : Nat → Nat), k ≤ P → k + 2 ≤ n → (∀ i, i < P → so i = nI (a i) ∧ a i < N) →
    (∃ (so' : Nat → Int32) (a' : Nat → Nat), f_X12_nextShares_7 (nI P) n so (nI N) (nI k - 1) = some (1, so') ∧ (∀ i, i < P → so' i = nI (a' i) ∧ a' i < N) ∧ (∀ i, k ≤ i → a' i = a i) ∧ vl a' N k = vl a N k + 1) ∨
    (∃ so' : Nat → Int32, f_X12_nextShares_7 (nI P) n so (nI N) (nI k - 1) = some (0, so') ∧ vl a N k + 1 = N ^ k) := by
  intro k
  induction k with
  | zero =>
    intro n so a hk hn hso
    obtain ⟨q, rfl⟩ : ∃ q, n = q + 1 := ⟨n - 1, by omega⟩
    right
    refine ⟨so, ?_, rfl⟩
    show f_X12_nextShares_7b (nI P) _ q so (nI N) (nI 0 - 1) = _
    unfold f_X12_nextShares_7b
    rw [if_pos (by decide)]
  | succ k ih =>
    intro n so a hk hn hso
    obtain ⟨q, rfl⟩ : ∃ q, n = q + 1 := ⟨n - 1, by omega⟩
    obtain ⟨e1, ha⟩ := hso k (by omega)
    have ek : nI (k + 1) - 1 = nI k := by
      rw [k1, p_sub (by omega)]
      rfl
    have em : nI k + (-1) = nI k - 1 := by grind
    have key : f_X12_nextShares_7 (nI P) (q + 1) so (nI N) (nI (k + 1) - 1) = if N - 1 ≤ a k then f_X12_nextShares_7 (nI P) q (upd so k 0) (nI N) (nI k - 1) else some (1, upd so k (nI (a k + 1))) := by
      rw [ek]
      show f_X12_nextShares_7b (nI P) (f_X12_nextShares_7 (nI P) q) q so (nI N) (nI k) = _
      unfold f_X12_nextShares_7b
      rw [if_neg (by rw [k0, p_lt (by omega) (by omega)]; omega), p_vin (show k < 12 by omega) (by omega), p_cl (by omega), e1]
      simp only [grd_t]
      rw [em, k1, p_sub hN1, p_add]
      by_cases h : N - 1 ≤ a k
      · rw [if_pos ((p_le (by omega) (by omega)).mpr h), if_pos h]
      · rw [if_neg (fun g => h ((p_le (by omega) (by omega)).mp g)), if_neg h]
    rw [key]
    by_cases h : N - 1 ≤ a k
    · rw [if_pos h]
      have hs2 : ∀ i, i < P → upd so k 0 i = nI (up a k 0 i) ∧ up a k 0 i < N := fun i hi => by
        unfold upd up
        split
        · exact ⟨rfl, hN1⟩
        · exact hso i hi
      have ev : vl (up a k 0) N k = vl a N k := vl_congr _ _ N k (fun i hi => if_neg (by omega))
      rcases ih q (upd so k 0) (up a k 0) (by omega) (by omega) hs2 with ⟨so', a', h1, h2, h3, h4⟩ | ⟨so', h1, h2⟩
      · left
        refine ⟨so', a', h1, h2, fun i hi => ?_, ?_⟩
        · rw [h3 i (by omega)]
          exact if_neg (by omega)
        · show vl a' N k * N + a' k = vl a N k * N + a k + 1
          have e0 : a' k = 0 := by
            rw [h3 k (by omega)]
            exact if_pos rfl
          rw [h4, ev, e0, Nat.add_mul]
          omega
      · right
        refine ⟨so', h1, ?_⟩
        rw [ev] at h2
        show vl a N k * N + a k + 1 = N ^ (k + 1)
        rw [Nat.pow_succ, ← h2, Nat.add_mul]
        omega
    · rw [if_neg h]
      left
      refine ⟨_, up a k (a k + 1), rfl, fun i hi => ?_, fun i hi => if_neg (by omega), ?_⟩
      · unfold upd up
        split
        · exact ⟨rfl, by omega⟩
        · exact hso i hi
      · have ev : vl (up a k (a k + 1)) N k = vl a N k := vl_congr _ _ N k (fun i hi => if_neg (by omega))
        have e0 : up a k (a k + 1) k = a k + 1 := if_pos rfl
        show vl (up a k (a k + 1)) N k * N + up a k (a k + 1) k = vl a N k * N + a k + 1
        rw [ev, e0]
        omega
/-- SHARED is one -/
theorem SB_uniq {t : Nat → Nat} {n P G G' : Nat} {b b' : Nat → Nat} (h : SB t n P G b) (h' : SB t n P G' b') : G = G' ∧ ∀ i, i < P → b i = b' i := by
  obtain ⟨h1, h2, h3, h4⟩ := h
  obtain ⟨g1, g2, g3, g4⟩ := h'
  have e : G = G' := by
    rcases Nat.lt_trichotomy G G' with q | q | q
    · exact absurd h2 (g4 G q b h1)
    · exact q
    · exact absurd g2 (h4 G' q b' g1)
  subst e
  refine ⟨rfl, fun i hi => ?_⟩
  have ev : tv b n P 0 = tv b' n P 0 := by
    rcases Nat.lt_trichotomy (tv b n P 0) (tv b' n P 0) with q | q | q
    · exact absurd h2 (g3 b h1 q)
    · exact q
    · exact absurd g2 (h3 b' g1 q)
  exact tv_inj b b' n P 0 (fun i _ h2 => h1 i (by omega)) (fun i _ h2 => g1 i (by omega)) ev i (by omega) (by omega)
/-- the answer of SHARED -/
def shA (G : Nat) (b : Nat → Nat) (P : Nat) (x : Int32) : Int32 := if x = -1 then nI G else if 0 ≤ x.toInt ∧ x.toInt < P then nI (b x.toNatClampNeg) else -6
theorem s_cpy12 (str wat so : Nat → Int32) (P : Nat) (hP : P ≤ 12) (k44 : (Nat → Int32) → (Nat → Int32) → (Nat → Int32) → Int32 → Int32 → Int32 → Int32 → Option (Int32 × (Nat → Int32) × (Nat → Int32) × (Nat → Int32))) (v1 v2 v3 : Int32) (busy : Nat → Int32) : ∀ (c n k : Nat) (bs : Nat → Int32), k + c = P → c + 1 ≤ n → (∀ i, i < k → bs i = so i) →
    ∃ (n' : Nat) (bs' : Nat → Int32), n' + c + 1 = n ∧ f_X12_shared_68 str wat (nI P) k44 n so bs busy v1 v2 v3 (nI k) = f_X12_shared_97 str wat (nI P) k44 n' so bs' busy v1 v2 v3 ∧ ∀ i, i < P → bs' i = so i := by
  intro c
  induction c with
  | zero =>
    intro n k bs hk hn hb
    obtain ⟨q, rfl⟩ : ∃ q, n = q + 1 := ⟨n - 1, by omega⟩
    obtain rfl : k = P := by omega
    refine ⟨q, bs, rfl, ?_, hb⟩
    show f_X12_shared_68b str wat (nI k) k44 _ q so bs busy v1 v2 v3 (nI k) = _
    unfold f_X12_shared_68b
    rw [if_pos (Int32.le_refl _)]
  | succ c ih =>
    intro n k bs hk hn hb
    obtain ⟨q, rfl⟩ : ∃ q, n = q + 1 := ⟨n - 1, by omega⟩
    obtain ⟨n', bs', h1, h2, h3⟩ := ih q (k + 1) (upd bs k (so k)) (by omega) (by omega) (fun i hi => by
      unfold upd
      by_cases e : i = k
      · rw [if_pos e, e]
      · rw [if_neg e]
        exact hb i (by omega))
    refine ⟨n', bs', by omega, ?_, h3⟩
    rw [← h2]
    show f_X12_shared_68b str wat (nI P) k44 (f_X12_shared_68 str wat (nI P) k44 q) q so bs busy v1 v2 v3 (nI k) = _
    unfold f_X12_shared_68b
    rw [if_neg (by rw [p_le (by omega) (by omega)]; omega), p_vin (show k < 12 by omega) (by omega), p_cl (by omega), p_1]
    rfl
def IV (t : Nat → Nat) (N P r : Nat) (least : Int32) (bs : Nat → Int32) : Prop := (r = 0 ∧ least = 2000000000) ∨ (∃ (L : Nat) (b : Nat → Nat), least = nI L ∧ L ≤ 144 ∧ (∀ i, i < P → bs i = nI (b i) ∧ b i < N) ∧ lgv t b P 0 (fun _ => 0) 0 = L ∧ (∀ a : Nat → Nat, (∀ i, i < P → a i < N) → tv a N P 0 < r → L ≤ lgv t a P 0 (fun _ => 0) 0) ∧ (∀ a : Nat → Nat, (∀ i, i < P → a i < N) → tv a N P 0 < tv b N P 0 → L < lgv t a P 0 (fun _ => 0) 0))
theorem s_sh_one (line str wat bak : Nat → Int32) (P N : Nat) (hP : P ≤ 12) (hN : N ≤ 3) (hok : ∀ i, i < P → okP line str wat bak i) (x2 : Int32) (q : Nat) (a : Nat → Nat) (so bs busy : Nat → Int32) (least : Int32) (hq : 60 ≤ q) (hso : ∀ i, i < P → so i = nI (a i) ∧ a i < N) (hI : IV (tmN str wat) N P (tv a N P 0) least bs) :
    ∃ (n' : Nat) (bs' bu' : Nat → Int32) (least' : Int32), 30 ≤ n' ∧ f_X12_shared_44 str wat (nI P) (q + 1) so bs busy (nI N) x2 least 1 = f_X12_shared_97 str wat (nI P) (f_X12_shared_44 str wat (nI P) q) n' so bs' bu' (nI N) x2 least' ∧ IV (tmN str wat) N P (tv a N P 0 + 1) least' bs' := by
  have same : ∀ a' : Nat → Nat, (∀ i, i < P → a' i < N) → tv a' N P 0 = tv a N P 0 → lgv (tmN str wat) a' P 0 (fun _ => 0) 0 = lgv (tmN str wat) a P 0 (fun _ => 0) 0 := fun a' ha' e =>
    lgv_congr _ a' a P 0 _ 0 (tv_inj a' a N P 0 (fun i _ h2 => ha' i (by omega)) (fun i _ h2 => (hso i (by omega)).2) e)
  obtain ⟨bu', e1, e2⟩ := s_lng0 line str wat bak so a P N hP hN hok hso N q 0 busy (by omega) (by omega) (fun j hj => by omega)
  have e0 : f_X12_shared_44 str wat (nI P) (q + 1) so bs busy (nI N) x2 least 1 = if least ≤ nI (lgv (tmN str wat) a P 0 (fun _ => 0) 0) then f_X12_shared_97 str wat (nI P) (f_X12_shared_44 str wat (nI P) q) q so bs bu' (nI N) x2 least else f_X12_shared_68 str wat (nI P) (f_X12_shared_44 str wat (nI P) q) q so bs bu' (nI N) x2 (nI (lgv (tmN str wat) a P 0 (fun _ => 0) 0)) 0 := by
    show f_X12_shared_44b str wat (nI P) (f_X12_shared_44 str wat (nI P) q) q so bs busy (nI N) x2 least 1 = _
    unfold f_X12_shared_44b f_X12_longest
    rw [if_neg (by decide), k0, e1]
    rfl
  rw [e0]
  generalize hg : lgv (tmN str wat) a P 0 (fun _ => 0) 0 = g at *
  by_cases hc : least ≤ nI g
  · rw [if_pos hc]
    refine ⟨q, bs, bu', least, by omega, rfl, ?_⟩
    rcases hI with ⟨h1, h2⟩ | ⟨L, b, h1, h2, h3, h4, h5, h6⟩
    · rw [h2] at hc
      have := (p_le (a := 2000000000) (b := g) (by omega) (by omega)).mp hc
      omega
    · rw [h1] at hc
      have hc' := (p_le (by omega) (by omega)).mp hc
      refine Or.inr ⟨L, b, h1, h2, h3, h4, fun a' ha' hv => ?_, h6⟩
      by_cases e : tv a' N P 0 = tv a N P 0
      · rw [same a' ha' e]
        exact hc'
      · exact h5 a' ha' (by omega)
  · rw [if_neg hc]
    obtain ⟨n', bs', g1, g2, g3⟩ := s_cpy12 str wat so P hP (f_X12_shared_44 str wat (nI P) q) (nI N) x2 (nI g) bu' P q 0 bs (by omega) (by omega) (fun i hi => by omega)
    refine ⟨n', bs', bu', nI g, by omega, g2, Or.inr ⟨g, a, rfl, e2, fun i hi => ⟨(g3 i hi).trans (hso i hi).1, (hso i hi).2⟩, hg, fun a' ha' hv => ?_, fun a' ha' hv => ?_⟩⟩
    · by_cases e : tv a' N P 0 = tv a N P 0
      · rw [same a' ha' e]
        exact Nat.le_refl _
      · rcases hI with ⟨h1, h2⟩ | ⟨L, b, h1, h2, h3, h4, h5, h6⟩
        · omega
        · have k5 := h5 a' ha' (by omega)
          rw [h1] at hc
          have hc' : ¬ L ≤ g := fun q => hc ((p_le (by omega) (by omega)).mpr q)
          omega
    · rcases hI with ⟨h1, h2⟩ | ⟨L, b, h1, h2, h3, h4, h5, h6⟩
      · omega
      · have k5 := h5 a' ha' hv
        rw [h1] at hc
        have hc' : ¬ L ≤ g := fun q => hc ((p_le (by omega) (by omega)).mpr q)
        omega
theorem p_T {a : Nat} (ha : a < 2147483648) : (nI a).toInt = (a : Int) := by
  have h := Bd.nI ha
  have h2 := p_cl ha
  unfold Bd at h
  have h3 : 0 ≤ nI a := (p_le (a := 0) (by omega) ha).mpr (by omega)
  rw [Int32.le_iff_toInt_le, show (0 : Int32).toInt = 0 from by decide] at h3
  have h4 : (nI a).toNatClampNeg = (nI a).toInt.toNat := rfl
  omega
theorem t_in {x : Int32} {b : Nat} (h1 : 0 ≤ x.toInt) (h2 : x.toInt < b) (hb : b < 2147483648) : ∃ k, k < b ∧ x = nI k := by
  refine p_of ?_ ?_ hb
  · rw [Int32.le_iff_toInt_le]
    exact h1
  · rw [Int32.lt_iff_toInt_lt, p_T hb]
    exact h2
theorem s_sh44_end (str wat : Nat → Int32) (P N G n : Nat) (hP : P ≤ 12) (x2 : Int32) (so bs busy : Nat → Int32) (b : Nat → Nat) (hb : ∀ i, i < P → bs i = nI (b i)) (hn : 1 ≤ n) : f_X12_shared_44 str wat (nI P) n so bs busy (nI N) x2 (nI G) 0 = some (shA G b P x2, so, bs, busy) := by
  obtain ⟨q, rfl⟩ : ∃ q, n = q + 1 := ⟨n - 1, by omega⟩
  show f_X12_shared_44b str wat (nI P) _ q so bs busy (nI N) x2 (nI G) 0 = _
  unfold f_X12_shared_44b shA
  rw [if_pos rfl]
  by_cases h : x2 = -1
  · rw [if_pos h, if_pos h]
  · rw [if_neg h, if_neg h, s_in]
    have e1 : x2.toInt64.toInt = x2.toInt := Int32.toInt_toInt64 _
    have e2 : (nI P - 1).toInt64.toInt = (P : Int) - 1 := by
      rw [Int32.toInt_toInt64, t_sub (A := 12) (B := 1) ((Bd.nI (by omega)).le (by omega)) (by unfold Bd; decide) (by decide), p_T (by omega)]
      rfl
    rw [e1, e2, show (0 : Int64).toInt = 0 from by decide]
    simp only [Option.bind_some]
    by_cases h2 : 0 ≤ x2.toInt ∧ x2.toInt < (P : Int)
    · rw [if_pos (show 0 ≤ x2.toInt ∧ x2.toInt ≤ (P : Int) - 1 by omega), if_neg (by decide), if_pos h2]
      obtain ⟨k, hk, rfl⟩ := t_in h2.1 h2.2 (by omega)
      rw [p_vin (show k < 12 by omega) (by omega), grd_t, p_cl (by omega), hb k hk]
    · rw [if_neg (show ¬ (0 ≤ x2.toInt ∧ x2.toInt ≤ (P : Int) - 1) by omega), if_pos rfl, if_neg h2]
theorem s_sh44 (line str wat bak : Nat → Int32) (P N : Nat) (hP : P ≤ 12) (hN : N ≤ 3) (hN1 : 1 ≤ N) (hok : ∀ i, i < P → okP line str wat bak i) (x2 : Int32) : ∀ (c n : Nat) (a : Nat → Nat) (so bs busy : Nat → Int32) (least : Int32), tv a N P 0 + c + 1 = N ^ P → c + 100 ≤ n → (∀ i, i < P → so i = nI (a i) ∧ a i < N) → IV (tmN str wat) N P (tv a N P 0) least bs →
    ∃ so' bs' bu' G b, f_X12_shared_44 str wat (nI P) n so bs busy (nI N) x2 least 1 = some (shA G b P x2, so', bs', bu') ∧ SB (tmN str wat) N P G b := by
  have ev : ∀ a : Nat → Nat, vl a N P = tv a N P 0 := fun a => by
    have h := vl_tv a N P 0
    rw [Nat.zero_add] at h
    have z : vl a N 0 = 0 := rfl
    rw [z, Nat.zero_mul] at h
    omega
  intro c
  induction c with
  | zero =>
    intro n a so bs busy least hr hn hso hI
    obtain ⟨q, rfl⟩ : ∃ q, n = q + 1 := ⟨n - 1, by omega⟩
    obtain ⟨n', bs', bu', least', h1, h2, h3⟩ := s_sh_one line str wat bak P N hP hN hok x2 q a so bs busy least (by omega) hso hI
    rw [h2]
    unfold f_X12_shared_97 f_X12_nextShares
    simp only [nmd]
    rcases s_nsh P N hP hN hN1 P n' so a (by omega) (by omega) hso with ⟨so', a', g1, g2, g3, g4⟩ | ⟨so', g1, g2⟩
    · have l := tv_lt a' N P 0 (fun i _ h => (g2 i (by omega)).2)
      rw [ev, ev] at g4
      omega
    · rw [g1]
      simp only [Option.bind_some]
      rcases h3 with ⟨k1, k2⟩ | ⟨L, b, k1, k2, k3, k4, k5, k6⟩
      · omega
      · subst k1
        refine ⟨so', bs', bu', L, b, s_sh44_end str wat P N L q hP x2 so' bs' bu' b (fun i hi => (k3 i hi).1) (by omega), fun i hi => (k3 i hi).2, ?_, fun a' ha' hv hA => ?_, fun g hg a' ha' hA => ?_⟩
        · exact ((lgv_le (tmN str wat) b L P 0 _ 0).mp (by omega)).2
        · have := (lgv_le (tmN str wat) a' L P 0 (fun _ => 0) 0).mpr ⟨by omega, hA⟩
          have := k6 a' ha' hv
          omega
        · have := (lgv_le (tmN str wat) a' g P 0 (fun _ => 0) 0).mpr ⟨by omega, hA⟩
          have l := tv_lt a' N P 0 (fun i _ h => ha' i (by omega))
          have := k5 a' ha' (by omega)
          omega
  | succ c ih =>
    intro n a so bs busy least hr hn hso hI
    obtain ⟨q, rfl⟩ : ∃ q, n = q + 1 := ⟨n - 1, by omega⟩
    obtain ⟨n', bs', bu', least', h1, h2, h3⟩ := s_sh_one line str wat bak P N hP hN hok x2 q a so bs busy least (by omega) hso hI
    rw [h2]
    unfold f_X12_shared_97 f_X12_nextShares
    simp only [nmd]
    rcases s_nsh P N hP hN hN1 P n' so a (by omega) (by omega) hso with ⟨so', a', g1, g2, g3, g4⟩ | ⟨so', g1, g2⟩
    · rw [g1]
      simp only [Option.bind_some]
      rw [ev, ev] at g4
      exact ih q a' so' bs' bu' least' (by omega) (by omega) g2 (by rw [g4]; exact h3)
    · rw [ev] at g2
      omega
theorem pow_bd (N P : Nat) (hN : N ≤ 3) (hP : P ≤ 12) : N ^ P ≤ 531441 := by
  have h1 : N ^ P ≤ 3 ^ P := Nat.pow_le_pow_left hN P
  have h2 : 3 ^ P ≤ 3 ^ 12 := Nat.pow_le_pow_right (by omega) hP
  have h3 : 3 ^ 12 = 531441 := by decide
  omega
theorem s_sh17 (line str wat bak : Nat → Int32) (P N : Nat) (hP : P ≤ 12) (hN : N ≤ 3) (hN1 : 1 ≤ N) (hok : ∀ i, i < P → okP line str wat bak i) (x2 : Int32) (bs busy : Nat → Int32) : ∀ (c n k : Nat) (so : Nat → Int32), k + c = P → c + 600000 ≤ n → (∀ i, i < k → so i = 0) →
    ∃ so' bs' bu' G b, f_X12_shared_17 str wat (nI P) n so bs busy (nI N) x2 (nI k) = some (shA G b P x2, so', bs', bu') ∧ SB (tmN str wat) N P G b := by
  intro c
  induction c with
  | zero =>
    intro n k so hk hn hs
    obtain ⟨q, rfl⟩ : ∃ q, n = q + 1 := ⟨n - 1, by omega⟩
    obtain rfl : k = P := by omega
    show ∃ so' bs' bu' G b, f_X12_shared_17b str wat (nI k) _ q so bs busy (nI N) x2 (nI k) = _ ∧ _
    unfold f_X12_shared_17b
    rw [if_pos (Int32.le_refl _)]
    have hp := pow_bd N k hN hP
    have hp1 : 0 < N ^ k := Nat.pow_pos hN1
    exact s_sh44 line str wat bak k N hP hN hN1 hok x2 (N ^ k - 1) q (fun _ => 0) so bs busy 2000000000 (by rw [tv_zero]; omega) (by omega) (fun i hi => ⟨hs i hi, hN1⟩) (Or.inl ⟨tv_zero N k 0, rfl⟩)
  | succ c ih =>
    intro n k so hk hn hs
    obtain ⟨q, rfl⟩ : ∃ q, n = q + 1 := ⟨n - 1, by omega⟩
    show ∃ so' bs' bu' G b, f_X12_shared_17b str wat (nI P) (f_X12_shared_17 str wat (nI P) q) q so bs busy (nI N) x2 (nI k) = _ ∧ _
    unfold f_X12_shared_17b
    rw [if_neg (by rw [p_le (by omega) (by omega)]; omega), p_vin (show k < 12 by omega) (by omega), p_cl (by omega), grd_t, p_1]
    exact ih q (k + 1) _ (by omega) (by omega) (fun i hi => by
      unfold upd
      split
      · rfl
      · exact hs i (by omega))
/-- SHARED of the model -/
theorem s_shared12 (line str wat bak : Nat → Int32) (P N n : Nat) (hP : P ≤ 12) (hN : N ≤ 3) (hN1 : 1 ≤ N) (hok : ∀ i, i < P → okP line str wat bak i) (hn : 700000 ≤ n) (x2 : Int32) (so bs busy : Nat → Int32) :
    ∃ so' bs' bu' G b, f_X12_shared n str wat (nI P) so bs busy (nI N) x2 = some (shA G b P x2, so', bs', bu') ∧ SB (tmN str wat) N P G b := by
  unfold f_X12_shared
  rw [s_in, Int32.toInt_toInt64, p_T (by omega), show (1 : Int64).toInt = 1 from by decide, show (3 : Int64).toInt = 3 from by decide, if_pos (by omega)]
  simp only [Option.bind_some]
  rw [if_neg (by decide)]
  exact s_sh17 line str wat bak P N hP hN hN1 hok x2 bs busy P n 0 so (by omega) (by omega) (fun i hi => by omega)
