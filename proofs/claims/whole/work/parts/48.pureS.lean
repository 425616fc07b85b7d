/-! SHARED by the class. -/
theorem s_like_loop (sums : Nat → Int32) (σ : Nat → Nat) (hσ : ∀ j, j < 3 → sums j = nI (σ j)) (hb : ∀ j, j < 3 → σ j ≤ 1000) (s : Nat) (hs : s < 3) : ∀ (r n e : Nat), e + r = s → r + 1 ≤ n → (∀ j, j < e → σ j ≠ σ s) →
    (f_X7_isLikeEarlier_2 sums n (nI s) (nI e) = some 0 ∧ (∀ j, j < s → σ j ≠ σ s)) ∨ (f_X7_isLikeEarlier_2 sums n (nI s) (nI e) = some 1 ∧ ∃ j, j < s ∧ σ j = σ s) := by
  intro r
  induction r with
  | zero =>
    intro n e he hn hne
    obtain ⟨m, rfl⟩ : ∃ m, n = m + 1 := ⟨n - 1, by omega⟩
    obtain rfl : e = s := by omega
    left
    refine ⟨?_, hne⟩
    show f_X7_isLikeEarlier_2b sums _ m (nI e) (nI e) = _
    unfold f_X7_isLikeEarlier_2b
    rw [if_pos (Int32.le_refl _)]
  | succ r ih =>
    intro n e he hn hne
    obtain ⟨m, rfl⟩ : ∃ m, n = m + 1 := ⟨n - 1, by omega⟩
    have e1 : f_X7_isLikeEarlier_2 sums (m + 1) (nI s) (nI e) = if σ e = σ s then some 1 else f_X7_isLikeEarlier_2 sums m (nI s) (nI (e + 1)) := by
      show f_X7_isLikeEarlier_2b sums (f_X7_isLikeEarlier_2 sums m) m (nI s) (nI e) = _
      unfold f_X7_isLikeEarlier_2b
      rw [if_neg (by rw [p_le (by omega) (by omega)]; omega), p_vin (by omega) (by omega), p_vin hs (by omega), grd_t, grd_t, p_cl (by omega), p_cl (by omega), p_1, hσ e (by omega), hσ s hs]
      have h1 := hb e (by omega)
      have h2 := hb s hs
      by_cases h : σ e = σ s
      · rw [if_pos h, if_pos (by rw [h])]
      · rw [if_neg h, if_neg (fun g => h ((p_eq (by omega) (by omega)).mp g))]
    rw [e1]
    by_cases h : σ e = σ s
    · right
      rw [if_pos h]
      exact ⟨rfl, e, by omega, h⟩
    · rw [if_neg h]
      exact ih m (e + 1) (by omega) (by omega) (fun j hj => by
        by_cases q : j = e
        · rw [q]; exact h
        · exact hne j (by omega))
theorem s_like (sums : Nat → Int32) (σ : Nat → Nat) (hσ : ∀ j, j < 3 → sums j = nI (σ j)) (hb : ∀ j, j < 3 → σ j ≤ 1000) (s n : Nat) (hs : s < 3) (hn : 5 ≤ n) :
    (f_X7_isLikeEarlier n sums (nI s) = some 0 ∧ (∀ j, j < s → σ j ≠ σ s)) ∨ (f_X7_isLikeEarlier n sums (nI s) = some 1 ∧ ∃ j, j < s ∧ σ j = σ s) :=
  s_like_loop sums σ hσ hb s hs s n 0 (by omega) (by omega) (fun j hj => by omega)
/-- what the search of a sharing comes to -/
def FR (t : Nat → Nat) (N g c k P : Nat) (σ : Nat → Nat) (so : Nat → Int32) (x : Option (Int32 × (Nat → Int32) × (Nat → Int32))) : Prop :=
  (∃ (so' su' : Nat → Int32) (b : Nat → Nat), x = some (1, so', su') ∧ (∀ i, i < k → so' i = so i) ∧ (∀ i, k ≤ i → i < P → so' i = nI (b i)) ∧ lexf t b N g c k σ) ∨
  (∃ so' su' : Nat → Int32, x = some (0, so', su') ∧ (∀ i, i < k → so' i = so i) ∧ (∀ j, j < 3 → su' j = nI (σ j)) ∧ ¬ fz t N g c k σ)
theorem lexf_congr (t a b : Nat → Nat) (n g : Nat) : ∀ (c k : Nat) (σ : Nat → Nat), (∀ i, k ≤ i → i < k + c → a i = b i) → lexf t a n g c k σ → lexf t b n g c k σ := by
  intro c
  induction c with
  | zero => intro k σ _ _; exact trivial
  | succ c ih =>
    intro k σ h hl
    obtain ⟨h1, h2, h3, h4⟩ := hl
    have e := h k (by omega) (by omega)
    rw [e] at h1 h2 h3 h4
    exact ⟨h1, h2, h3, ih _ _ (fun i h1 h2 => h i (by omega) (by omega)) h4⟩
theorem s_fits (t : Nat → Nat) (times : Nat → Int32) (P N g : Nat) (hP : P ≤ 12) (hN : N ≤ 3) (hg : g ≤ 1000) (ht : ∀ i, i < P → times i = nI (t i)) (htb : ∀ i, i < P → t i ≤ 12) : ∀ (c k d n : Nat) (σ : Nat → Nat) (so sums : Nat → Int32), k + c = P → c + 1 ≤ d → 10 ≤ n → (∀ j, j < 3 → sums j = nI (σ j)) → (∀ j, j < 3 → σ j ≤ 12 * k) →
    FR t N g c k P σ so (f_X7_fits d n so times sums (nI P) (nI k) (nI N) (nI g)) := by
  intro c
  induction c with
  | zero =>
    intro k d n σ so sums hk hd hn hσ hb
    obtain ⟨d, rfl⟩ : ∃ q, d = q + 1 := ⟨d - 1, by omega⟩
    obtain rfl : k = P := by omega
    left
    refine ⟨so, sums, fun _ => 0, ?_, fun i _ => rfl, fun i h1 h2 => by omega, trivial⟩
    show f_X7_fits_r (f_X7_fits d n) n so times sums (nI k) (nI k) (nI N) (nI g) = _
    unfold f_X7_fits_r
    rw [if_neg (Int32.lt_irrefl)]
  | succ c ih =>
    intro k d n σ so sums hk hd hn hσ hb
    obtain ⟨d, rfl⟩ : ∃ q, d = q + 1 := ⟨d - 1, by omega⟩
    have tk := htb k (by omega)
    have loop : ∀ (r m s : Nat) (so1 su1 : Nat → Int32), s + r = N → r + 6 ≤ m → (∀ i, i < k → so1 i = so i) → (∀ j, j < 3 → su1 j = nI (σ j)) → (∀ q, q < s → ¬ (σ q + t k ≤ g ∧ fz t N g c (k + 1) (up σ q (σ q + t k)))) →
        FR t N g (c + 1) k P σ so (f_X7_fits_13 (f_X7_fits d n) times (nI P) m so1 su1 (nI k) (nI N) (nI g) (nI s)) := by
      intro r
      induction r with
      | zero =>
        intro m s so1 su1 hs hm h1 h2 h3
        obtain ⟨m, rfl⟩ : ∃ q, m = q + 1 := ⟨m - 1, by omega⟩
        obtain rfl : s = N := by omega
        right
        refine ⟨so1, su1, ?_, h1, h2, fun hf => ?_⟩
        · show f_X7_fits_13b (f_X7_fits d n) times (nI P) _ m so1 su1 (nI k) (nI s) (nI g) (nI s) = _
          unfold f_X7_fits_13b
          rw [if_pos (Int32.le_refl _)]
        · obtain ⟨q, g1, g2, g3⟩ := hf
          exact h3 q g1 ⟨g2, g3⟩
      | succ r ihr =>
        intro m s so1 su1 hs hm h1 h2 h3
        obtain ⟨m, rfl⟩ : ∃ q, m = q + 1 := ⟨m - 1, by omega⟩
        have bs := hb s (by omega)
        have next : ∀ (so2 su2 : Nat → Int32), (∀ i, i < k → so2 i = so i) → (∀ j, j < 3 → su2 j = nI (σ j)) → ¬ (σ s + t k ≤ g ∧ fz t N g c (k + 1) (up σ s (σ s + t k))) → FR t N g (c + 1) k P σ so (f_X7_fits_13 (f_X7_fits d n) times (nI P) m so2 su2 (nI k) (nI N) (nI g) (nI (s + 1))) := by
          intro so2 su2 g1 g2 g3
          refine ihr m (s + 1) so2 su2 (by omega) (by omega) g1 g2 (fun q hq => ?_)
          by_cases e : q = s
          · rw [e]; exact g3
          · exact h3 q (by omega)
        show FR t N g (c + 1) k P σ so (f_X7_fits_13b (f_X7_fits d n) times (nI P) (f_X7_fits_13 (f_X7_fits d n) times (nI P) m) m so1 su1 (nI k) (nI N) (nI g) (nI s))
        unfold f_X7_fits_13b
        rw [if_neg (by rw [p_le (by omega) (by omega)]; omega), p_vin (show s < 3 by omega) (by omega), p_vin (show k < 12 by omega) (by omega), p_cl (by omega), p_cl (by omega), p_1, p_1, h2 s (by omega), ht k (by omega), p_add]
        simp only [grd_t]
        by_cases hc : σ s + t k ≤ g
        · rw [if_neg (by rw [p_lt (by omega) (by omega)]; omega)]
          rcases s_like su1 σ h2 (fun j hj => by have := hb j hj; omega) s m (by omega) (by omega) with ⟨e1, e2⟩ | ⟨e1, e, e2, e3⟩
          · rw [e1]
            simp only [Option.bind_some]
            rw [if_pos trivial]
            have hu : ∀ j, j < 3 → (upd su1 s (nI (σ s + t k))) j = nI (up σ s (σ s + t k) j) := by
              intro j hj
              unfold upd up
              split
              · rfl
              · exact h2 j hj
            have hub : ∀ j, j < 3 → up σ s (σ s + t k) j ≤ 12 * (k + 1) := by
              intro j hj
              have := hb j hj
              unfold up
              split <;> omega
            rcases ih (k + 1) d n (up σ s (σ s + t k)) (upd so1 k (nI s)) (upd su1 s (nI (σ s + t k))) (by omega) (by omega) hn hu hub with ⟨so', su', b, e4, e5, e6, e7⟩ | ⟨so', su', e4, e5, e6, e7⟩
            · rw [e4]
              simp only [Option.bind_some]
              rw [if_neg (by decide)]
              left
              refine ⟨so', su', fun i => if i = k then s else b i, rfl, fun i hi => ?_, fun i hi1 hi2 => ?_, ?_⟩
              · rw [e5 i (by omega)]
                unfold upd
                rw [if_neg (by omega)]
                exact h1 i hi
              · show so' i = nI (if i = k then s else b i)
                by_cases q : i = k
                · rw [if_pos q, q, e5 k (by omega)]
                  unfold upd
                  rw [if_pos rfl]
                · rw [if_neg q]
                  exact e6 i (by omega) hi2
              · have ek : (if k = k then s else b k) = s := if_pos rfl
                show (if k = k then s else b k) < N ∧ σ (if k = k then s else b k) + t k ≤ g ∧ (∀ q, q < (if k = k then s else b k) → ¬ (σ q + t k ≤ g ∧ fz t N g c (k + 1) (up σ q (σ q + t k)))) ∧ lexf t (fun i => if i = k then s else b i) N g c (k + 1) (up σ (if k = k then s else b k) (σ (if k = k then s else b k) + t k))
                rw [ek]
                refine ⟨by omega, hc, h3, lexf_congr t b _ N g c (k + 1) _ (fun i h1 h2 => ?_) e7⟩
                rw [if_neg (by omega)]
            · rw [e4]
              simp only [Option.bind_some]
              rw [if_pos trivial, e6 s (by omega)]
              have eu : up σ s (σ s + t k) s = σ s + t k := if_pos rfl
              rw [eu, p_sub (by omega), Nat.add_sub_cancel]
              refine next so' _ (fun i hi => ?_) (fun j hj => ?_) (fun q => e7 q.2)
              · rw [e5 i (by omega)]
                unfold upd
                rw [if_neg (by omega)]
                exact h1 i hi
              · unfold upd
                split
                · rename_i q
                  rw [q]
                · rename_i q
                  rw [e6 j hj]
                  unfold up
                  rw [if_neg q]
          · rw [e1]
            simp only [Option.bind_some]
            rw [if_neg (by decide)]
            refine next so1 su1 h1 h2 (fun q => h3 e e2 ?_)
            rw [e3]
            exact ⟨q.1, fz_same t N g e s c (k + 1) _ σ (by omega) (by omega) e3 q.2⟩
        · rw [if_pos (by rw [p_lt (by omega) (by omega)]; omega)]
          exact next so1 su1 h1 h2 (fun q => hc q.1)
    show FR t N g (c + 1) k P σ so (f_X7_fits_r (f_X7_fits d n) n so times sums (nI P) (nI k) (nI N) (nI g))
    unfold f_X7_fits_r
    rw [if_pos (by rw [p_lt (by omega) (by omega)]; omega)]
    exact loop N n 0 so sums (by omega) (by omega) (fun i _ => rfl) hσ (fun q hq => by omega)
/-- what SHARED is: the least greatest sum, and the first sharing that has it -/
def SB (t : Nat → Nat) (n P G : Nat) (b : Nat → Nat) : Prop := (∀ i, i < P → b i < n) ∧ adm t b G P 0 (fun _ => 0) ∧ (∀ a : Nat → Nat, (∀ i, i < P → a i < n) → tv a n P 0 < tv b n P 0 → ¬ adm t a G P 0 (fun _ => 0)) ∧ (∀ g, g < G → ∀ a : Nat → Nat, (∀ i, i < P → a i < n) → ¬ adm t a g P 0 (fun _ => 0))
def tmN (str wat : Nat → Int32) (i : Nat) : Nat := ((10 : Int32) - str i + 3 * wat i).toNatClampNeg
theorem tm_ok {line str wat bak : Nat → Int32} {i : Nat} (h : okP line str wat bak i) : (10 : Int32) - str i + 3 * wat i = nI (tmN str wat i) ∧ tmN str wat i ≤ 12 ∧ 1 ≤ tmN str wat i := by
  obtain ⟨-, ⟨S, h1, h2, e1⟩, ⟨w, h3, e2⟩, -⟩ := h
  unfold tmN
  rw [e1, e2, k10, k3, p_sub (by omega), p_mul, p_add, p_cl (by omega)]
  refine ⟨rfl, by omega, by omega⟩
theorem ttl_smT (t : Nat → Nat) : ∀ c k, smT t k + ttl t c k = smT t (k + c) := by
  intro c
  induction c with
  | zero => intro k; rfl
  | succ c ih =>
    intro k
    have h := ih (k + 1)
    rw [show k + (c + 1) = k + 1 + c from by omega, ← h]
    show smT t k + (t k + ttl t c (k + 1)) = smT t k + t k + ttl t c (k + 1)
    omega
def mxT (t : Nat → Nat) : Nat → Nat
  | 0 => 0
  | k + 1 => max (mxT t k) (t k)
theorem mxT_le (t : Nat → Nat) (g : Nat) : ∀ k, (∀ i, i < k → t i ≤ g) → mxT t k ≤ g := by
  intro k
  induction k with
  | zero => intro _; exact Nat.zero_le _
  | succ k ih => intro h; exact Nat.max_le.mpr ⟨ih (fun i hi => h i (by omega)), h k (by omega)⟩
theorem mxT_sm (t : Nat → Nat) : ∀ k, mxT t k ≤ smT t k := by
  intro k
  induction k with
  | zero => exact Nat.le_refl 0
  | succ k ih =>
    refine Nat.max_le.mpr ⟨?_, ?_⟩
    · show mxT t k ≤ smT t k + t k
      omega
    · show t k ≤ smT t k + t k
      omega
theorem smT_bd (t : Nat → Nat) (B : Nat) : ∀ k, (∀ i, i < k → t i ≤ B) → smT t k ≤ B * k := by
  intro k
  induction k with
  | zero => intro _; exact Nat.zero_le _
  | succ k ih =>
    intro h
    have h1 := ih (fun i hi => h i (by omega))
    have h2 := h k (by omega)
    show smT t k + t k ≤ B * (k + 1)
    rw [Nat.mul_add, Nat.mul_one]
    omega
theorem jmax_nI {a b : Nat} (ha : a < 2147483648) (hb : b < 2147483648) : jmax (nI a) (nI b) = nI (max a b) := by
  unfold jmax
  by_cases h : a < b
  · rw [if_pos ((p_lt ha hb).mpr h), Nat.max_eq_right (by omega)]
  · rw [if_neg (fun g => h ((p_lt ha hb).mp g)), Nat.max_eq_left (by omega)]
theorem s_share_111 (t : Nat → Nat) (times str wat : Nat → Int32) (bc : Int32) (P N : Nat) (hP : P ≤ 12) (hN : N ≤ 3) (hN1 : 1 ≤ N) (ht : ∀ i, i < P → times i = nI (t i)) (htb : ∀ i, i < P → t i ≤ 12) (kf : Int32) : ∀ (r n G : Nat) (so sums : Nat → Int32), G + r = smT t P → r + 1102 ≤ n → (∀ j, j < 3 → sums j = 0) → (∀ g, g < G → ¬ fz t N g P 0 (fun _ => 0)) →
    ∃ so' su' G' b, f_X7_share_111 12 str wat bc n so (nI G) kf times sums (nI P) (nI N) (nI N) (nI (smT t P)) = some (so', nI G', nI N, times, su', nI P) ∧ G' ≤ 144 ∧ SB t N P G' b ∧ ∀ i, i < P → so' i = nI (b i) := by
  have hT := smT_bd t 12 P htb
  have no : ∀ g, ¬ fz t N g P 0 (fun _ => 0) → ∀ a : Nat → Nat, (∀ i, i < P → a i < N) → ¬ adm t a g P 0 (fun _ => 0) := fun g hf a ha hA => hf (adm_fz t a N g P 0 _ (fun i _ h2 => ha i (by omega)) hA)
  have zero : ∀ (n : Nat) (so sums : Nat → Int32), 1101 ≤ n → (∀ g, g < smT t P → ¬ fz t N g P 0 (fun _ => 0)) → ∃ so' su' G' b, f_X7_share_146 12 str wat bc n so (nI (smT t P)) kf times sums (nI P) (nI N) (nI (smT t P)) = some (so', nI G', nI N, times, su', nI P) ∧ G' ≤ 144 ∧ SB t N P G' b ∧ ∀ i, i < P → so' i = nI (b i) := by
    intro n so sums hn hno
    refine ⟨filz 12 0 so, sums, smT t P, fun _ => 0, ?_, by omega, ⟨fun i _ => by show 0 < N; omega, adm_zero t P 0 _ _ ?_, fun a ha h => ?_, fun g hg => no g (hno g hg)⟩, fun i hi => if_pos (by omega)⟩
    · unfold f_X7_share_146
      rw [if_neg Int32.lt_irrefl, s_fill 12 0 so n (by omega) (by omega)]
      rfl
    · have := ttl_smT t P 0
      rw [Nat.zero_add] at this
      show 0 + ttl t P 0 ≤ smT t P
      have z : smT t 0 = 0 := rfl
      omega
    · rw [tv_zero] at h
      omega
  intro r
  induction r with
  | zero =>
    intro n G so sums hG hn hs hno
    obtain ⟨m, rfl⟩ : ∃ m, n = m + 1 := ⟨n - 1, by omega⟩
    obtain rfl : G = smT t P := by omega
    show ∃ so' su' G' b, f_X7_share_111b 12 str wat bc _ m so (nI (smT t P)) kf times sums (nI P) (nI N) (nI N) (nI (smT t P)) = _ ∧ _
    unfold f_X7_share_111b
    rw [if_pos (Int32.le_refl _)]
    exact zero m so sums (by omega) hno
  | succ r ih =>
    intro n G so sums hG hn hs hno
    obtain ⟨m, rfl⟩ : ∃ m, n = m + 1 := ⟨n - 1, by omega⟩
    show ∃ so' su' G' b, f_X7_share_111b 12 str wat bc (f_X7_share_111 12 str wat bc m) m so (nI G) kf times sums (nI P) (nI N) (nI N) (nI (smT t P)) = _ ∧ _
    unfold f_X7_share_111b
    rw [if_neg (by rw [p_le (by omega) (by omega)]; omega), k0]
    rcases s_fits t times P N G hP hN (by omega) ht htb P 0 14 m (fun _ => 0) so sums (by omega) (by omega) (by omega) (fun j hj => hs j hj) (fun j _ => by omega) with ⟨so', su', b, e1, e2, e3, e4⟩ | ⟨so', su', e1, e2, e3, e4⟩
    · rw [e1]
      simp only [Option.bind_some]
      rw [if_neg (by decide)]
      unfold f_X7_share_146
      rw [if_pos (by rw [p_lt (by omega) (by omega)]; omega)]
      have la := lexf_adm t b N G P 0 _ e4
      refine ⟨so', su', G, b, rfl, by omega, ⟨fun i hi => la.2 i (by omega) (by omega), la.1, fun a ha h => lexf_first t b a N G P 0 _ e4 (fun i _ h2 => ha i (by omega)) h, fun g hg => no g (hno g hg)⟩, fun i hi => e3 i (by omega) hi⟩
    · rw [e1]
      simp only [Option.bind_some]
      rw [if_pos (show (0 : Int32) = nI 0 from rfl), p_1]
      refine ih m (G + 1) so' su' (by omega) (by omega) (fun j hj => e3 j hj) (fun g hg => ?_)
      by_cases q : g = G
      · rw [q]; exact e4
      · exact hno g (by omega)
theorem s_share_32 (line str wat bak : Nat → Int32) (P N : Nat) (hP : P ≤ 12) (hN : N ≤ 3) (hN1 : 1 ≤ N) (hok : ∀ i, i < P → okP line str wat bak i) (kf gr : Int32) (so sums : Nat → Int32) : ∀ (r n k : Nat) (times : Nat → Int32), k + r = P → r + 1500 ≤ n → (∀ i, i < k → times i = nI (tmN str wat i)) →
    ∃ so' su' ti' G' b, f_X7_share_32 12 str wat (nI P) n so gr kf times sums (nI P) (nI N) (nI N) (nI (smT (tmN str wat) k)) (nI (mxT (tmN str wat) k)) (nI k) = some (so', nI G', nI N, ti', su', nI P) ∧ G' ≤ 144 ∧ SB (tmN str wat) N P G' b ∧ ∀ i, i < P → so' i = nI (b i) := by
  have htb : ∀ i, i < P → tmN str wat i ≤ 12 := fun i hi => (tm_ok (hok i hi)).2.1
  intro r
  induction r with
  | zero =>
    intro n k times hk hn ht
    obtain ⟨m, rfl⟩ : ∃ m, n = m + 1 := ⟨n - 1, by omega⟩
    obtain rfl : k = P := by omega
    show ∃ so' su' ti' G' b, f_X7_share_32b 12 str wat (nI k) _ m so gr kf times sums (nI k) (nI N) (nI N) (nI (smT (tmN str wat) k)) (nI (mxT (tmN str wat) k)) (nI k) = _ ∧ _
    unfold f_X7_share_32b
    have hT := smT_bd (tmN str wat) 12 k htb
    have hM := mxT_sm (tmN str wat) k
    have hz : nzi (nI N) = true := by
      unfold nzi
      have : ¬ nI N = 0 := fun e => by have := (p_eq (a := N) (b := 0) (by omega) (by omega)).mp e; omega
      simp [this]
    rw [if_pos (Int32.le_refl _), hz, grd_t, s_fill 3 0 sums m (by omega) (by omega)]
    simp only [Option.bind_some]
    rw [p_add, k1, p_sub (by omega), p_div (by omega) (by omega) (by omega), jmax_nI (by omega) (by have := Nat.div_le_self (smT (tmN str wat) k + N - 1) N; omega)]
    have hdiv : (smT (tmN str wat) k + N - 1) / N ≤ smT (tmN str wat) k := by
      rcases Nat.eq_zero_or_pos (smT (tmN str wat) k) with h | h
      · rw [h, Nat.zero_add, Nat.div_eq_of_lt (by omega)]
        exact Nat.le_refl 0
      · apply Nat.div_le_of_le_mul
        have : N ≤ N * smT (tmN str wat) k := Nat.le_mul_of_pos_right N h
        have h3 : smT (tmN str wat) k ≤ N * smT (tmN str wat) k := Nat.le_mul_of_pos_left _ hN1
        have h4 : (N - 1) * 1 ≤ (N - 1) * smT (tmN str wat) k := Nat.mul_le_mul_left _ h
        have h5 : (N - 1) * smT (tmN str wat) k = N * smT (tmN str wat) k - smT (tmN str wat) k := by rw [Nat.sub_mul, Nat.one_mul]
        omega
    have hmax : max (mxT (tmN str wat) k) ((smT (tmN str wat) k + N - 1) / N) ≤ smT (tmN str wat) k := Nat.max_le.mpr ⟨hM, hdiv⟩
    obtain ⟨so', su', G', b, e⟩ := s_share_111 (tmN str wat) times str wat (nI k) k N hP hN hN1 ht htb kf (smT (tmN str wat) k - max (mxT (tmN str wat) k) ((smT (tmN str wat) k + N - 1) / N)) m (max (mxT (tmN str wat) k) ((smT (tmN str wat) k + N - 1) / N)) so (filz 3 0 sums) (by omega) (by omega) (fun j hj => if_pos hj) (fun g hg hf => by
      have ft := fz_total (tmN str wat) N g k 0 (fun _ => 0) (fun s _ => Nat.zero_le _) hf
      have t1 := ttl_smT (tmN str wat) k 0
      rw [Nat.zero_add] at t1
      have z : smT (tmN str wat) 0 = 0 := rfl
      have l1 : mxT (tmN str wat) k ≤ g := mxT_le _ g k (fun i hi => ft.2 i (by omega) (by omega))
      have l2 : (smT (tmN str wat) k + N - 1) / N ≤ g := by
        have h5 : smT (tmN str wat) k ≤ N * g := by omega
        have h6 : (smT (tmN str wat) k + N - 1) / N < g + 1 := by
          rw [Nat.div_lt_iff_lt_mul (by omega), Nat.add_mul, Nat.one_mul, Nat.mul_comm g N]
          omega
        omega
      have := Nat.max_le.mpr ⟨l1, l2⟩
      omega)
    exact ⟨so', su', times, G', b, e⟩
  | succ r ih =>
    intro n k times hk hn ht
    obtain ⟨m, rfl⟩ : ∃ m, n = m + 1 := ⟨n - 1, by omega⟩
    have hT := smT_bd (tmN str wat) 12 k (fun i hi => htb i (by omega))
    have hM := mxT_sm (tmN str wat) k
    have hk12 := tm_ok (hok k (by omega))
    show ∃ so' su' ti' G' b, f_X7_share_32b 12 str wat (nI P) (f_X7_share_32 12 str wat (nI P) m) m so gr kf times sums (nI P) (nI N) (nI N) (nI (smT (tmN str wat) k)) (nI (mxT (tmN str wat) k)) (nI k) = _ ∧ _
    unfold f_X7_share_32b f_X3_time
    rw [if_neg (by rw [p_le (by omega) (by omega)]; omega), p_vin (show k < 12 by omega) (by omega), p_cl (by omega), hk12.1]
    simp only [grd_t, Option.bind_some, nmd, p_1]
    have eu : upd times k (nI (tmN str wat k)) k = nI (tmN str wat k) := if_pos rfl
    rw [eu, p_add, jmax_nI (by omega) (by omega)]
    exact ih m (k + 1) _ (by omega) (by omega) (fun i hi => by
      unfold upd
      by_cases q : i = k
      · rw [if_pos q, q]
      · rw [if_neg q]
        exact ht i (by omega))
/-- SHARED of the class -/
theorem s_share (line str wat bak : Nat → Int32) (P N n : Nat) (hP : P ≤ 12) (hN : N ≤ 3) (hN1 : 1 ≤ N) (hok : ∀ i, i < P → okP line str wat bak i) (hn : 2000 ≤ n) (kf gr cn : Int32) (so sums times : Nat → Int32) :
    ∃ so' su' ti' G' b, f_X7_share n so gr kf times sums cn 12 str wat (nI P) (nI N) = some (so', nI G', nI N, ti', su', nI P) ∧ G' ≤ 144 ∧ SB (tmN str wat) N P G' b ∧ ∀ i, i < P → so' i = nI (b i) := by
  unfold f_X7_share
  have e1 : jmax (1 : Int32) (jmin (nI N) (3 : Int32)) = nI N := by
    unfold jmin
    rw [k3, if_neg (by rw [p_lt (by omega) (by omega)]; omega), k1, jmax_nI (by omega) (by omega), Nat.max_eq_right hN1]
  have e2 : jmin (nI P) (12 : Int32) = nI P := by
    unfold jmin
    rw [k12, if_neg (by rw [p_lt (by omega) (by omega)]; omega)]
  rw [e1, e2]
  simp only [nmd]
  exact s_share_32 line str wat bak P N hP hN hN1 hok kf gr so sums P n 0 times (by omega) (by omega) (fun i hi => by omega)
