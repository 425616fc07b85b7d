/-! All orders of up to 7 come to an end within 5040. -/
def runP (c : Nat) (p : List Nat) : Option (List Nat) := match nxt c (fun j => p.getD j 0) with
  | none => none
  | some a => some ((List.range c).map a)
def lastAt (c : Nat) : Nat → List Nat → Bool
  | 0, _ => false
  | k + 1, p => match runP c p with
    | none => true
    | some q => lastAt c k q
/-- a small number is made plain before it goes on -/
def frc {α : Type} (n : Nat) (k : Nat → α) : α := if n = 0 then k 0 else if n = 1 then k 1 else if n = 2 then k 2 else if n = 3 then k 3 else if n = 4 then k 4 else if n = 5 then k 5 else if n = 6 then k 6 else k n
theorem frc_eq {α : Type} (n : Nat) (k : Nat → α) : frc n k = k n := by
  unfold frc
  repeat' split
  all_goals first | rfl | (rename_i h; rw [h])
def bld (a : Nat → Nat) : Nat → List Nat → List Nat
  | 0, l => l
  | j + 1, l => frc (a j) (fun v => bld a j (v :: l))
theorem bld_eq (a : Nat → Nat) : ∀ (c : Nat) (l : List Nat), bld a c l = (List.range c).map a ++ l := by
  intro c
  induction c with
  | zero => intro l; rfl
  | succ c ih =>
    intro l
    show frc (a c) (fun v => bld a c (v :: l)) = _
    rw [frc_eq, ih, List.range_succ, List.map_append, List.append_assoc]
    rfl
def goF (a : Nat → Nat) (c : Nat) (i w : Nat) (k : List Nat → Bool) : Bool := match bld (rvs (swp a i w) 8 (i + 1) (c - 1)) c [] with
  | [] => k []
  | x :: l => k (x :: l)
def lastF (c : Nat) : Nat → List Nat → Bool
  | 0, _ => false
  | k + 1, p => match fat (fun j => p.getD j 0) (c - 1) with
    | none => true
    | some i => frc i (fun i => frc (fwi (fun j => p.getD j 0) i (c - 1)) (fun w => goF (fun j => p.getD j 0) c i w (lastF c k)))
theorem goF_eq (a : Nat → Nat) (c i w : Nat) (k : List Nat → Bool) : goF a c i w k = k ((List.range c).map (rvs (swp a i w) 8 (i + 1) (c - 1))) := by
  unfold goF
  rw [bld_eq, List.append_nil]
  split
  · rename_i h; rw [h]
  · rename_i h; rw [h]
theorem lastF_eq (c : Nat) : ∀ k p, lastF c k p = lastAt c k p := by
  intro k
  induction k with
  | zero => intro p; rfl
  | succ k ih =>
    intro p
    show (match fat (fun j => p.getD j 0) (c - 1) with
      | none => true
      | some i => frc i (fun i => frc (fwi (fun j => p.getD j 0) i (c - 1)) (fun w => goF (fun j => p.getD j 0) c i w (lastF c k)))) = (match runP c p with
      | none => true
      | some q => lastAt c k q)
    unfold runP nxt
    cases fat (fun j => p.getD j 0) (c - 1) with
    | none => rfl
    | some i =>
      dsimp only
      rw [frc_eq, frc_eq, goF_eq, ih]
theorem ends_0 : lastF 0 5040 (List.range 0) = true := by decide +kernel
theorem ends_1 : lastF 1 5040 (List.range 1) = true := by decide +kernel
theorem ends_2 : lastF 2 5040 (List.range 2) = true := by decide +kernel
theorem ends_3 : lastF 3 5040 (List.range 3) = true := by decide +kernel
theorem ends_4 : lastF 4 5040 (List.range 4) = true := by decide +kernel
theorem ends_5 : lastF 5 5040 (List.range 5) = true := by decide +kernel
theorem ends_6 : lastF 6 5040 (List.range 6) = true := by decide +kernel
theorem ends_7 : lastF 7 5040 (List.range 7) = true := by decide +kernel
theorem ends (c : Nat) (hc : c ≤ 7) : lastAt c 5040 (List.range c) = true := by
  rw [← lastF_eq]
  match c with
  | 0 => exact ends_0
  | 1 => exact ends_1
  | 2 => exact ends_2
  | 3 => exact ends_3
  | 4 => exact ends_4
  | 5 => exact ends_5
  | 6 => exact ends_6
  | 7 => exact ends_7
  | c + 8 => omega
