/-! Written by wip/gen/gen2.py: constructors. -/
/-- the TABLE at first, as the class and as the model have it -/
def nmF (j : Nat) : Int32 := nI (10 * (j / 2 + 1) + 5 * (j % 2))
def tbF (j : Nat) : Int32 := if j < 2 then 0 else nI (10 * (j / 2) + 5 * (j % 2))
def shF (j : Nat) : Int32 := if j = 0 then 0 else 1000
theorem arr_congr {c : ClassId} {N : Nat} {f g : Nat → Int32} (h : ∀ j, j < N → f j = g j) : vp_cell c (N, .inl f) = vp_cell c (N, .inl g) := by
  show arrV c N (fun j => .int (f j)) = arrV c N (fun j => .int (g j))
  unfold arrV
  congr 1
  apply Array.ext
  · simp
  · intro i h1 h2
    simp at h1
    simp [h i h1]
theorem Wd_arr {D : va_G} {A : Nat → Prop} {H0 : Heap} {ws : va_W} {H : Heap} {locs : List Loc} (hw : Wd D A H0 ws H locs) (q0 : Nat) {a : Nat} {c : ClassId} {N : Nat} {f : Nat → Int32} (he : ws[q0]? = some (a, .inl (c, N, .inl f))) {g : Nat → Int32} (h : ∀ j, j < N → f j = g j) : Wd D A H0 (ws.set q0 (a, .inl (c, N, .inl g))) H locs := by
  obtain ⟨hP, hD, hS⟩ := hw
  refine ⟨fun k q hq => ?_, hD.set he, hS⟩
  rw [List.getElem?_set] at hq
  by_cases e : q0 = k
  · rw [if_pos e] at hq
    split at hq
    · cases hq
      have h1 : H[a]? = some (vp_cell c (N, .inl f)) := hP q0 _ he
      show H[a]? = some (vp_cell c (N, .inl g))
      rw [h1, arr_congr h]
    · cases hq
  · rw [if_neg e] at hq
    exact hP k q hq
theorem ac_boolean : Cond.arrayClass .boolean ∈ gt := in_gt 225 (by decide +kernel) (by decide +kernel)
theorem ac_char : Cond.arrayClass .char ∈ gt := in_gt 74 (by decide +kernel) (by decide +kernel)
theorem ac_int : Cond.arrayClass .int ∈ gt := in_gt 98 (by decide +kernel) (by decide +kernel)
theorem co_obj : Cond.code Lib.objectInit ⟨#[0xb1]⟩ 1 none ∈ gt := in_gt 59 (by decide +kernel) (by decide +kernel)
theorem ff_X10_0 : FWF RX10 10 0 (.array .int) := ⟨_, _, _, tyX10, rfl, by decide, tyX10_ok, nmX10, rfl, rfl, by decide +kernel⟩
theorem ff_X10_1 : FWF RX10 10 1 (.array .int) := ⟨_, _, _, tyX10, rfl, by decide, tyX10_ok, nmX10, rfl, rfl, by decide +kernel⟩
theorem ff_X11_0 : FWF RX11 11 0 (.object "FlameBend$Orders") := ⟨_, _, _, tyX11, rfl, by decide, tyX11_ok, nmX11, rfl, rfl, by decide +kernel⟩
theorem ff_X11_1 : FWF RX11 11 1 (.object "FlameBend$Rules") := ⟨_, _, _, tyX11, rfl, by decide, tyX11_ok, nmX11, rfl, rfl, by decide +kernel⟩
theorem ff_X11_10 : FWF RX11 11 10 (.object "FlameBend$Fraction") := ⟨_, _, _, tyX11, rfl, by decide, tyX11_ok, nmX11, rfl, rfl, by decide +kernel⟩
theorem ff_X11_2 : FWF RX11 11 2 (.object "FlameBend$Passes") := ⟨_, _, _, tyX11, rfl, by decide, tyX11_ok, nmX11, rfl, rfl, by decide +kernel⟩
theorem ff_X11_3 : FWF RX11 11 3 (.object "FlameBend$Shape") := ⟨_, _, _, tyX11, rfl, by decide, tyX11_ok, nmX11, rfl, rfl, by decide +kernel⟩
theorem ff_X11_4 : FWF RX11 11 4 (.object "FlameBend$Wish") := ⟨_, _, _, tyX11, rfl, by decide, tyX11_ok, nmX11, rfl, rfl, by decide +kernel⟩
theorem ff_X11_5 : FWF RX11 11 5 (.object "FlameBend$Planner") := ⟨_, _, _, tyX11, rfl, by decide, tyX11_ok, nmX11, rfl, rfl, by decide +kernel⟩
theorem ff_X11_6 : FWF RX11 11 6 (.object "FlameBend$Gauges") := ⟨_, _, _, tyX11, rfl, by decide, tyX11_ok, nmX11, rfl, rfl, by decide +kernel⟩
theorem ff_X11_7 : FWF RX11 11 7 (.object "FlameBend$Spans") := ⟨_, _, _, tyX11, rfl, by decide, tyX11_ok, nmX11, rfl, rfl, by decide +kernel⟩
theorem ff_X11_8 : FWF RX11 11 8 (.object "FlameBend$Welds") := ⟨_, _, _, tyX11, rfl, by decide, tyX11_ok, nmX11, rfl, rfl, by decide +kernel⟩
theorem ff_X11_9 : FWF RX11 11 9 (.object "FlameBend$Smiths") := ⟨_, _, _, tyX11, rfl, by decide, tyX11_ok, nmX11, rfl, rfl, by decide +kernel⟩
theorem ff_X12_0 : FWF RX12 12 0 (.array .int) := ⟨_, _, _, tyX12, rfl, by decide, tyX12_ok, nmX12, rfl, rfl, by decide +kernel⟩
theorem ff_X12_10 : FWF RX12 12 10 (.array .int) := ⟨_, _, _, tyX12, rfl, by decide, tyX12_ok, nmX12, rfl, rfl, by decide +kernel⟩
theorem ff_X12_11 : FWF RX12 12 11 (.array .int) := ⟨_, _, _, tyX12, rfl, by decide, tyX12_ok, nmX12, rfl, rfl, by decide +kernel⟩
theorem ff_X12_12 : FWF RX12 12 12 (.array .int) := ⟨_, _, _, tyX12, rfl, by decide, tyX12_ok, nmX12, rfl, rfl, by decide +kernel⟩
theorem ff_X12_13 : FWF RX12 12 13 (.array .int) := ⟨_, _, _, tyX12, rfl, by decide, tyX12_ok, nmX12, rfl, rfl, by decide +kernel⟩
theorem ff_X12_14 : FWF RX12 12 14 (.array .int) := ⟨_, _, _, tyX12, rfl, by decide, tyX12_ok, nmX12, rfl, rfl, by decide +kernel⟩
theorem ff_X12_15 : FWF RX12 12 15 (.array .int) := ⟨_, _, _, tyX12, rfl, by decide, tyX12_ok, nmX12, rfl, rfl, by decide +kernel⟩
theorem ff_X12_18 : FWF RX12 12 18 (.array .int) := ⟨_, _, _, tyX12, rfl, by decide, tyX12_ok, nmX12, rfl, rfl, by decide +kernel⟩
theorem ff_X12_19 : FWF RX12 12 19 (.array .boolean) := ⟨_, _, _, tyX12, rfl, by decide, tyX12_ok, nmX12, rfl, rfl, by decide +kernel⟩
theorem ff_X12_2 : FWF RX12 12 2 (.array .int) := ⟨_, _, _, tyX12, rfl, by decide, tyX12_ok, nmX12, rfl, rfl, by decide +kernel⟩
theorem ff_X12_22 : FWF RX12 12 22 (.array .int) := ⟨_, _, _, tyX12, rfl, by decide, tyX12_ok, nmX12, rfl, rfl, by decide +kernel⟩
theorem ff_X12_23 : FWF RX12 12 23 (.array .int) := ⟨_, _, _, tyX12, rfl, by decide, tyX12_ok, nmX12, rfl, rfl, by decide +kernel⟩
theorem ff_X12_24 : FWF RX12 12 24 (.array .int) := ⟨_, _, _, tyX12, rfl, by decide, tyX12_ok, nmX12, rfl, rfl, by decide +kernel⟩
theorem ff_X12_25 : FWF RX12 12 25 (.array .int) := ⟨_, _, _, tyX12, rfl, by decide, tyX12_ok, nmX12, rfl, rfl, by decide +kernel⟩
theorem ff_X12_27 : FWF RX12 12 27 (.array .int) := ⟨_, _, _, tyX12, rfl, by decide, tyX12_ok, nmX12, rfl, rfl, by decide +kernel⟩
theorem ff_X12_28 : FWF RX12 12 28 (.array .int) := ⟨_, _, _, tyX12, rfl, by decide, tyX12_ok, nmX12, rfl, rfl, by decide +kernel⟩
theorem ff_X12_29 : FWF RX12 12 29 (.array .int) := ⟨_, _, _, tyX12, rfl, by decide, tyX12_ok, nmX12, rfl, rfl, by decide +kernel⟩
theorem ff_X12_3 : FWF RX12 12 3 (.array .int) := ⟨_, _, _, tyX12, rfl, by decide, tyX12_ok, nmX12, rfl, rfl, by decide +kernel⟩
theorem ff_X12_30 : FWF RX12 12 30 (.array .int) := ⟨_, _, _, tyX12, rfl, by decide, tyX12_ok, nmX12, rfl, rfl, by decide +kernel⟩
theorem ff_X12_31 : FWF RX12 12 31 (.array .int) := ⟨_, _, _, tyX12, rfl, by decide, tyX12_ok, nmX12, rfl, rfl, by decide +kernel⟩
theorem ff_X12_4 : FWF RX12 12 4 (.array .int) := ⟨_, _, _, tyX12, rfl, by decide, tyX12_ok, nmX12, rfl, rfl, by decide +kernel⟩
theorem ff_X12_5 : FWF RX12 12 5 (.array .int) := ⟨_, _, _, tyX12, rfl, by decide, tyX12_ok, nmX12, rfl, rfl, by decide +kernel⟩
theorem ff_X12_8 : FWF RX12 12 8 (.array .int) := ⟨_, _, _, tyX12, rfl, by decide, tyX12_ok, nmX12, rfl, rfl, by decide +kernel⟩
theorem ff_X12_9 : FWF RX12 12 9 (.array .int) := ⟨_, _, _, tyX12, rfl, by decide, tyX12_ok, nmX12, rfl, rfl, by decide +kernel⟩
theorem ff_X1_0 : FWF RX1 1 0 (.array .int) := ⟨_, _, _, tyX1, rfl, by decide, tyX1_ok, nmX1, rfl, rfl, by decide +kernel⟩
theorem ff_X1_1 : FWF RX1 1 1 (.array .boolean) := ⟨_, _, _, tyX1, rfl, by decide, tyX1_ok, nmX1, rfl, rfl, by decide +kernel⟩
theorem ff_X2_0 : FWF RX2 2 0 (.array .char) := ⟨_, _, _, tyX2, rfl, by decide, tyX2_ok, nmX2, rfl, rfl, by decide +kernel⟩
theorem ff_X3_0 : FWF RX3 3 0 (.int) := ⟨_, _, _, tyX3, rfl, by decide, tyX3_ok, nmX3, rfl, rfl, by decide +kernel⟩
theorem ff_X3_1 : FWF RX3 3 1 (.array .int) := ⟨_, _, _, tyX3, rfl, by decide, tyX3_ok, nmX3, rfl, rfl, by decide +kernel⟩
theorem ff_X3_2 : FWF RX3 3 2 (.array .int) := ⟨_, _, _, tyX3, rfl, by decide, tyX3_ok, nmX3, rfl, rfl, by decide +kernel⟩
theorem ff_X3_3 : FWF RX3 3 3 (.array .int) := ⟨_, _, _, tyX3, rfl, by decide, tyX3_ok, nmX3, rfl, rfl, by decide +kernel⟩
theorem ff_X3_4 : FWF RX3 3 4 (.array .int) := ⟨_, _, _, tyX3, rfl, by decide, tyX3_ok, nmX3, rfl, rfl, by decide +kernel⟩
theorem ff_X4_0 : FWF RX4 4 0 (.object "FlameBend$Passes") := ⟨_, _, _, tyX4, rfl, by decide, tyX4_ok, nmX4, rfl, rfl, by decide +kernel⟩
theorem ff_X4_1 : FWF RX4 4 1 (.object "FlameBend$Shape") := ⟨_, _, _, tyX4, rfl, by decide, tyX4_ok, nmX4, rfl, rfl, by decide +kernel⟩
theorem ff_X5_0 : FWF RX5 5 0 (.array .int) := ⟨_, _, _, tyX5, rfl, by decide, tyX5_ok, nmX5, rfl, rfl, by decide +kernel⟩
theorem ff_X5_1 : FWF RX5 5 1 (.array .int) := ⟨_, _, _, tyX5, rfl, by decide, tyX5_ok, nmX5, rfl, rfl, by decide +kernel⟩
theorem ff_X6_0 : FWF RX6 6 0 (.array .int) := ⟨_, _, _, tyX6, rfl, by decide, tyX6_ok, nmX6, rfl, rfl, by decide +kernel⟩
theorem ff_X6_1 : FWF RX6 6 1 (.array .int) := ⟨_, _, _, tyX6, rfl, by decide, tyX6_ok, nmX6, rfl, rfl, by decide +kernel⟩
theorem ff_X6_2 : FWF RX6 6 2 (.array .int) := ⟨_, _, _, tyX6, rfl, by decide, tyX6_ok, nmX6, rfl, rfl, by decide +kernel⟩
theorem ff_X6_3 : FWF RX6 6 3 (.array .int) := ⟨_, _, _, tyX6, rfl, by decide, tyX6_ok, nmX6, rfl, rfl, by decide +kernel⟩
theorem ff_X7_0 : FWF RX7 7 0 (.array .int) := ⟨_, _, _, tyX7, rfl, by decide, tyX7_ok, nmX7, rfl, rfl, by decide +kernel⟩
theorem ff_X7_3 : FWF RX7 7 3 (.array .int) := ⟨_, _, _, tyX7, rfl, by decide, tyX7_ok, nmX7, rfl, rfl, by decide +kernel⟩
theorem ff_X7_4 : FWF RX7 7 4 (.array .int) := ⟨_, _, _, tyX7, rfl, by decide, tyX7_ok, nmX7, rfl, rfl, by decide +kernel⟩
theorem ff_X8_0 : FWF RX8 8 0 (.array .int) := ⟨_, _, _, tyX8, rfl, by decide, tyX8_ok, nmX8, rfl, rfl, by decide +kernel⟩
theorem ff_X8_1 : FWF RX8 8 1 (.array .int) := ⟨_, _, _, tyX8, rfl, by decide, tyX8_ok, nmX8, rfl, rfl, by decide +kernel⟩
theorem ff_X9_0 : FWF RX9 9 0 (.array .int) := ⟨_, _, _, tyX9, rfl, by decide, tyX9_ok, nmX9, rfl, rfl, by decide +kernel⟩
theorem ff_X9_1 : FWF RX9 9 1 (.array .int) := ⟨_, _, _, tyX9, rfl, by decide, tyX9_ok, nmX9, rfl, rfl, by decide +kernel⟩
theorem ff_X9_2 : FWF RX9 9 2 (.array .int) := ⟨_, _, _, tyX9, rfl, by decide, tyX9_ok, nmX9, rfl, rfl, by decide +kernel⟩
theorem ff_X9_6 : FWF RX9 9 6 (.array .int) := ⟨_, _, _, tyX9, rfl, by decide, tyX9_ok, nmX9, rfl, rfl, by decide +kernel⟩
theorem ff_X9_7 : FWF RX9 9 7 (.array .int) := ⟨_, _, _, tyX9, rfl, by decide, tyX9_ok, nmX9, rfl, rfl, by decide +kernel⟩
theorem ff_X9_8 : FWF RX9 9 8 (.object "FlameBend$Shape") := ⟨_, _, _, tyX9, rfl, by decide, tyX9_ok, nmX9, rfl, rfl, by decide +kernel⟩
theorem fn_X11_16 : FN RX11 16 5 2 [.null, .null] := ⟨RX5, TX5, tyX5, rfl, in_gt 75 (by decide +kernel) (by decide +kernel), in_gt 76 (by decide +kernel) (by decide +kernel), in_gt 37 (by decide +kernel) (by decide +kernel), iw_X5, tyX5_ok, (fun j hj => by rcases (show j = 0 ∨ j = 1 by omega) with rfl | rfl <;> rfl)⟩
theorem fn_X11_23 : FN RX11 23 3 6 [.int 0, .null, .null, .null, .null, .int 0] := ⟨RX3, TX3, tyX3, rfl, in_gt 99 (by decide +kernel) (by decide +kernel), in_gt 100 (by decide +kernel) (by decide +kernel), in_gt 39 (by decide +kernel) (by decide +kernel), iw_X3, tyX3_ok, (fun j hj => by rcases (show j = 0 ∨ j = 1 ∨ j = 2 ∨ j = 3 ∨ j = 4 ∨ j = 5 by omega) with rfl | rfl | rfl | rfl | rfl | rfl <;> rfl)⟩
theorem fn_X11_32 : FN RX11 32 6 4 [.null, .null, .null, .null] := ⟨RX6, TX6, tyX6, rfl, in_gt 135 (by decide +kernel) (by decide +kernel), in_gt 136 (by decide +kernel) (by decide +kernel), in_gt 40 (by decide +kernel) (by decide +kernel), iw_X6, tyX6_ok, (fun j hj => by rcases (show j = 0 ∨ j = 1 ∨ j = 2 ∨ j = 3 by omega) with rfl | rfl | rfl | rfl <;> rfl)⟩
theorem fn_X11_39 : FN RX11 39 10 2 [.null, .null] := ⟨RX10, TX10, tyX10, rfl, in_gt 157 (by decide +kernel) (by decide +kernel), in_gt 158 (by decide +kernel) (by decide +kernel), in_gt 41 (by decide +kernel) (by decide +kernel), iw_X10, tyX10_ok, (fun j hj => by rcases (show j = 0 ∨ j = 1 by omega) with rfl | rfl <;> rfl)⟩
theorem fn_X11_46 : FN RX11 46 4 4 [.null, .null, .int 0, .int 0] := ⟨RX4, TX4, tyX4, rfl, in_gt 172 (by decide +kernel) (by decide +kernel), in_gt 173 (by decide +kernel) (by decide +kernel), in_gt 42 (by decide +kernel) (by decide +kernel), iw_X4, tyX4_ok, (fun j hj => by rcases (show j = 0 ∨ j = 1 ∨ j = 2 ∨ j = 3 by omega) with rfl | rfl | rfl | rfl <;> rfl)⟩
theorem fn_X11_53 : FN RX11 53 1 5 [.null, .null, .int 0, .int 0, .int 0] := ⟨RX1, TX1, tyX1, rfl, in_gt 198 (by decide +kernel) (by decide +kernel), in_gt 199 (by decide +kernel) (by decide +kernel), in_gt 43 (by decide +kernel) (by decide +kernel), iw_X1, tyX1_ok, (fun j hj => by rcases (show j = 0 ∨ j = 1 ∨ j = 2 ∨ j = 3 ∨ j = 4 by omega) with rfl | rfl | rfl | rfl | rfl <;> rfl)⟩
theorem fn_X11_60 : FN RX11 60 8 2 [.null, .null] := ⟨RX8, TX8, tyX8, rfl, in_gt 226 (by decide +kernel) (by decide +kernel), in_gt 227 (by decide +kernel) (by decide +kernel), in_gt 44 (by decide +kernel) (by decide +kernel), iw_X8, tyX8_ok, (fun j hj => by rcases (show j = 0 ∨ j = 1 by omega) with rfl | rfl <;> rfl)⟩
theorem fn_X11_67 : FN RX11 67 9 9 [.null, .null, .null, .int 0, .int 0, .int 0, .null, .null, .null] := ⟨RX9, TX9, tyX9, rfl, in_gt 244 (by decide +kernel) (by decide +kernel), in_gt 245 (by decide +kernel) (by decide +kernel), in_gt 46 (by decide +kernel) (by decide +kernel), iw_X9, tyX9_ok, (fun j hj => by rcases (show j = 0 ∨ j = 1 ∨ j = 2 ∨ j = 3 ∨ j = 4 ∨ j = 5 ∨ j = 6 ∨ j = 7 ∨ j = 8 by omega) with rfl | rfl | rfl | rfl | rfl | rfl | rfl | rfl | rfl <;> rfl)⟩
theorem fn_X11_7 : FN RX11 7 2 2 [.null, .int 0] := ⟨RX2, TX2, tyX2, rfl, in_gt 60 (by decide +kernel) (by decide +kernel), in_gt 61 (by decide +kernel) (by decide +kernel), in_gt 36 (by decide +kernel) (by decide +kernel), iw_X2, tyX2_ok, (fun j hj => by rcases (show j = 0 ∨ j = 1 by omega) with rfl | rfl <;> rfl)⟩
theorem fn_X11_74 : FN RX11 74 7 6 [.null, .int 0, .int 0, .null, .null, .int 0] := ⟨RX7, TX7, tyX7, rfl, in_gt 284 (by decide +kernel) (by decide +kernel), in_gt 285 (by decide +kernel) (by decide +kernel), in_gt 47 (by decide +kernel) (by decide +kernel), iw_X7, tyX7_ok, (fun j hj => by rcases (show j = 0 ∨ j = 1 ∨ j = 2 ∨ j = 3 ∨ j = 4 ∨ j = 5 by omega) with rfl | rfl | rfl | rfl | rfl | rfl <;> rfl)⟩
theorem fn_X11_81 : FN RX11 81 0 2 [.long 0, .long 0] := ⟨RX0, TX0, tyX0, rfl, in_gt 312 (by decide +kernel) (by decide +kernel), in_gt 313 (by decide +kernel) (by decide +kernel), in_gt 48 (by decide +kernel) (by decide +kernel), iw_X0, tyX0_ok, (fun j hj => by rcases (show j = 0 ∨ j = 1 by omega) with rfl | rfl <;> rfl)⟩
theorem fn_X4_20 : FN RX4 20 6 4 [.null, .null, .null, .null] := ⟨RX6, TX6, tyX6, rfl, in_gt 180 (by decide +kernel) (by decide +kernel), in_gt 136 (by decide +kernel) (by decide +kernel), in_gt 40 (by decide +kernel) (by decide +kernel), iw_X6, tyX6_ok, (fun j hj => by rcases (show j = 0 ∨ j = 1 ∨ j = 2 ∨ j = 3 by omega) with rfl | rfl | rfl | rfl <;> rfl)⟩
theorem fn_X4_9 : FN RX4 9 3 6 [.int 0, .null, .null, .null, .null, .int 0] := ⟨RX3, TX3, tyX3, rfl, in_gt 178 (by decide +kernel) (by decide +kernel), in_gt 100 (by decide +kernel) (by decide +kernel), in_gt 39 (by decide +kernel) (by decide +kernel), iw_X3, tyX3_ok, (fun j hj => by rcases (show j = 0 ∨ j = 1 ∨ j = 2 ∨ j = 3 ∨ j = 4 ∨ j = 5 by omega) with rfl | rfl | rfl | rfl | rfl | rfl <;> rfl)⟩
theorem fn_X9_27 : FN RX9 27 6 4 [.null, .null, .null, .null] := ⟨RX6, TX6, tyX6, rfl, in_gt 250 (by decide +kernel) (by decide +kernel), in_gt 136 (by decide +kernel) (by decide +kernel), in_gt 40 (by decide +kernel) (by decide +kernel), iw_X6, tyX6_ok, (fun j hj => by rcases (show j = 0 ∨ j = 1 ∨ j = 2 ∨ j = 3 by omega) with rfl | rfl | rfl | rfl <;> rfl)⟩
theorem im_X0_init : Cond.instanceMethod yX0_init ∈ gt := in_gt 315 (by decide +kernel) (by decide +kernel)
theorem im_X10_init : Cond.instanceMethod yX10_init ∈ gt := in_gt 160 (by decide +kernel) (by decide +kernel)
theorem im_X1_init : Cond.instanceMethod yX1_init ∈ gt := in_gt 201 (by decide +kernel) (by decide +kernel)
theorem im_X2_init : Cond.instanceMethod yX2_init ∈ gt := in_gt 63 (by decide +kernel) (by decide +kernel)
theorem im_X3_init : Cond.instanceMethod yX3_init ∈ gt := in_gt 102 (by decide +kernel) (by decide +kernel)
theorem im_X4_init : Cond.instanceMethod yX4_init ∈ gt := in_gt 175 (by decide +kernel) (by decide +kernel)
theorem im_X5_init : Cond.instanceMethod yX5_init ∈ gt := in_gt 78 (by decide +kernel) (by decide +kernel)
theorem im_X6_init : Cond.instanceMethod yX6_init ∈ gt := in_gt 138 (by decide +kernel) (by decide +kernel)
theorem im_X7_init : Cond.instanceMethod yX7_init ∈ gt := in_gt 287 (by decide +kernel) (by decide +kernel)
theorem im_X8_init : Cond.instanceMethod yX8_init ∈ gt := in_gt 229 (by decide +kernel) (by decide +kernel)
theorem im_X9_init : Cond.instanceMethod yX9_init ∈ gt := in_gt 247 (by decide +kernel) (by decide +kernel)
theorem io_obj : Cond.instanceMethod Lib.objectInit ∈ gt := in_gt 58 (by decide +kernel) (by decide +kernel)
theorem mb_X0_init : MB yX0_init cX0_init 1 none 0 := ⟨in_gt 316 (by decide +kernel) (by decide +kernel), in_gt 48 (by decide +kernel) (by decide +kernel), by decide +kernel⟩
theorem mb_X10_init : MB yX10_init cX10_init 1 none 0 := ⟨in_gt 161 (by decide +kernel) (by decide +kernel), in_gt 41 (by decide +kernel) (by decide +kernel), by decide +kernel⟩
theorem mb_X1_init : MB yX1_init cX1_init 1 none 0 := ⟨in_gt 202 (by decide +kernel) (by decide +kernel), in_gt 43 (by decide +kernel) (by decide +kernel), by decide +kernel⟩
theorem mb_X2_init : MB yX2_init cX2_init 1 none 0 := ⟨in_gt 64 (by decide +kernel) (by decide +kernel), in_gt 36 (by decide +kernel) (by decide +kernel), by decide +kernel⟩
theorem mb_X3_init : MB yX3_init cX3_init 2 none 1 := ⟨in_gt 103 (by decide +kernel) (by decide +kernel), in_gt 39 (by decide +kernel) (by decide +kernel), by decide +kernel⟩
theorem mb_X4_init : MB yX4_init cX4_init 1 none 0 := ⟨in_gt 176 (by decide +kernel) (by decide +kernel), in_gt 42 (by decide +kernel) (by decide +kernel), by decide +kernel⟩
theorem mb_X5_init : MB yX5_init cX5_init 2 none 0 := ⟨in_gt 79 (by decide +kernel) (by decide +kernel), in_gt 37 (by decide +kernel) (by decide +kernel), by decide +kernel⟩
theorem mb_X6_init : MB yX6_init cX6_init 1 none 0 := ⟨in_gt 139 (by decide +kernel) (by decide +kernel), in_gt 40 (by decide +kernel) (by decide +kernel), by decide +kernel⟩
theorem mb_X7_init : MB yX7_init cX7_init 1 none 0 := ⟨in_gt 288 (by decide +kernel) (by decide +kernel), in_gt 47 (by decide +kernel) (by decide +kernel), by decide +kernel⟩
theorem mb_X8_init : MB yX8_init cX8_init 1 none 0 := ⟨in_gt 230 (by decide +kernel) (by decide +kernel), in_gt 44 (by decide +kernel) (by decide +kernel), by decide +kernel⟩
theorem mb_X9_init : MB yX9_init cX9_init 1 none 0 := ⟨in_gt 248 (by decide +kernel) (by decide +kernel), in_gt 46 (by decide +kernel) (by decide +kernel), by decide +kernel⟩
theorem ml_X0_1 : Cond.methodLink RX0 1 Lib.objectInit ∈ gt := in_gt 317 (by decide +kernel) (by decide +kernel)
theorem ml_X10_3 : Cond.methodLink RX10 3 Lib.objectInit ∈ gt := in_gt 162 (by decide +kernel) (by decide +kernel)
theorem ml_X11_1 : Cond.methodLink RX11 1 Lib.objectInit ∈ gt := in_gt 57 (by decide +kernel) (by decide +kernel)
theorem ml_X11_18 : Cond.methodLink RX11 18 yX5_init ∈ gt := in_gt 77 (by decide +kernel) (by decide +kernel)
theorem ml_X11_25 : Cond.methodLink RX11 25 yX3_init ∈ gt := in_gt 101 (by decide +kernel) (by decide +kernel)
theorem ml_X11_34 : Cond.methodLinkNest RX11 34 yX6_init "FlameBend" ∈ gt := in_gt 137 (by decide +kernel) (by decide +kernel)
theorem ml_X11_41 : Cond.methodLinkNest RX11 41 yX10_init "FlameBend" ∈ gt := in_gt 159 (by decide +kernel) (by decide +kernel)
theorem ml_X11_48 : Cond.methodLinkNest RX11 48 yX4_init "FlameBend" ∈ gt := in_gt 174 (by decide +kernel) (by decide +kernel)
theorem ml_X11_55 : Cond.methodLinkNest RX11 55 yX1_init "FlameBend" ∈ gt := in_gt 200 (by decide +kernel) (by decide +kernel)
theorem ml_X11_62 : Cond.methodLink RX11 62 yX8_init ∈ gt := in_gt 228 (by decide +kernel) (by decide +kernel)
theorem ml_X11_69 : Cond.methodLinkNest RX11 69 yX9_init "FlameBend" ∈ gt := in_gt 246 (by decide +kernel) (by decide +kernel)
theorem ml_X11_76 : Cond.methodLinkNest RX11 76 yX7_init "FlameBend" ∈ gt := in_gt 286 (by decide +kernel) (by decide +kernel)
theorem ml_X11_83 : Cond.methodLinkNest RX11 83 yX0_init "FlameBend" ∈ gt := in_gt 314 (by decide +kernel) (by decide +kernel)
theorem ml_X11_9 : Cond.methodLinkNest RX11 9 yX2_init "FlameBend" ∈ gt := in_gt 62 (by decide +kernel) (by decide +kernel)
theorem ml_X12_1 : Cond.methodLink RX12 1 Lib.objectInit ∈ gt := in_gt 776 (by decide +kernel) (by decide +kernel)
theorem ml_X1_3 : Cond.methodLink RX1 3 Lib.objectInit ∈ gt := in_gt 203 (by decide +kernel) (by decide +kernel)
theorem ml_X2_3 : Cond.methodLink RX2 3 Lib.objectInit ∈ gt := in_gt 65 (by decide +kernel) (by decide +kernel)
theorem ml_X3_1 : Cond.methodLink RX3 1 Lib.objectInit ∈ gt := in_gt 104 (by decide +kernel) (by decide +kernel)
theorem ml_X4_11 : Cond.methodLink RX4 11 yX3_init ∈ gt := in_gt 179 (by decide +kernel) (by decide +kernel)
theorem ml_X4_22 : Cond.methodLinkNest RX4 22 yX6_init "FlameBend" ∈ gt := in_gt 181 (by decide +kernel) (by decide +kernel)
theorem ml_X4_3 : Cond.methodLink RX4 3 Lib.objectInit ∈ gt := in_gt 177 (by decide +kernel) (by decide +kernel)
theorem ml_X5_21 : Cond.methodLink RX5 21 arraycopyName ∈ gt := in_gt 83 (by decide +kernel) (by decide +kernel)
theorem ml_X5_3 : Cond.methodLink RX5 3 Lib.objectInit ∈ gt := in_gt 80 (by decide +kernel) (by decide +kernel)
theorem ml_X6_3 : Cond.methodLink RX6 3 Lib.objectInit ∈ gt := in_gt 140 (by decide +kernel) (by decide +kernel)
theorem ml_X7_3 : Cond.methodLink RX7 3 Lib.objectInit ∈ gt := in_gt 289 (by decide +kernel) (by decide +kernel)
theorem ml_X8_18 : Cond.methodLink RX8 18 yJ7_fill_53178 ∈ gt := in_gt 232 (by decide +kernel) (by decide +kernel)
theorem ml_X8_3 : Cond.methodLink RX8 3 Lib.objectInit ∈ gt := in_gt 231 (by decide +kernel) (by decide +kernel)
theorem ml_X9_29 : Cond.methodLinkNest RX9 29 yX6_init "FlameBend" ∈ gt := in_gt 251 (by decide +kernel) (by decide +kernel)
theorem ml_X9_3 : Cond.methodLink RX9 3 Lib.objectInit ∈ gt := in_gt 249 (by decide +kernel) (by decide +kernel)
theorem nt_arraycopyName : Cond.native arraycopyName ∈ gt := in_gt 85 (by decide +kernel) (by decide +kernel)
theorem sl_X5_18 : Cond.fieldLink RX5 18 "FlameBend$Rules" "AT_FIRST" "[I" ∈ gt := in_gt 81 (by decide +kernel) (by decide +kernel)
abbrev l_X0_init : List (Nat × Instr × Nat) := [(0, .aload_n 0, 1), (1, .invokespecial 1, 3), (4, .aload_n 0, 1), (5, .lconst 1, 1), (6, .putfield 7, 3), (9, .return_, 1)]
theorem d_X0_init : dcOk cX0_init l_X0_init = true := by decide +kernel
set_option maxHeartbeats 4000000 in
set_option maxRecDepth 100000 in
theorem n_X0_init {l : Launch} {D : va_G} {cI cC cZ : ClassId} (q0 : Nat) : Nct l yX0_init cX0_init 1 1 20 0 0 D cI cC cZ [.ref q0] [(q0, .inr (0, [.long 0, .long 0]))] (fun w => w = [(q0, .inr (0, [.long 0, .long (1 : Int64)]))]) := by
  refine Nct.of (by decide) (Nat.le_of_ble_eq_true rfl) ?_
  intro p e s m args below meth c ls A Q hAe hA hQ C hnm hl hw hz
  have hx := C.1
  have hb := C.2.1
  have hl : lv_has ls 1 [(0, .ref q0)] := hl
  refine lv_aload_n hx hb (dc d_X0_init 0 rfl) rfl (lv_at hl 0 rfl) ?_
  refine x_obj C hl.1 ml_X0_1 io_obj co_obj (Nat.le_of_ble_eq_true rfl) (Nat.le_of_ble_eq_true rfl) (dc d_X0_init 1 rfl) ?_
  refine lv_aload_n hx hb (dc d_X0_init 2 rfl) rfl (lv_at hl 0 rfl) ?_
  refine lv_lconst (v := (1 : Int64)) hx hb (dc d_X0_init 3 rfl) (by decide) ?_
  refine x_put C hw fl_X0_7 fw_X0_1 0 rfl (v := .long (1 : Int64)) rfl rfl (Nat.le_of_ble_eq_true rfl) (dc d_X0_init 4 rfl) (fun H locs hw => ?_)
  dsimp only [List.set_cons_succ, List.set_cons_zero] at hw
  have hw : Wd D A s.heap [(q0, .inr (0, [.long 0, .long (1 : Int64)]))] H _ := hw
  exact x_vretN C hAe hQ (Nat.le_of_ble_eq_true rfl) (Nat.le_of_ble_eq_true rfl) hw rfl (dc d_X0_init 5 rfl)
abbrev l_X1_init : List (Nat × Instr × Nat) := [(0, .aload_n 0, 1), (1, .invokespecial 3, 3), (4, .aload_n 0, 1), (5, .bipush 36, 2), (7, .newarray .int, 2), (9, .putfield 9, 3), (12, .aload_n 0, 1), (13, .bipush 36, 2), (15, .newarray .boolean, 2), (17, .putfield 15, 3), (20, .return_, 1)]
theorem d_X1_init : dcOk cX1_init l_X1_init = true := by decide +kernel
set_option maxHeartbeats 4000000 in
set_option maxRecDepth 100000 in
theorem n_X1_init {l : Launch} {D : va_G} {cI cC cZ : ClassId} (q0 : Nat) : Nct l yX1_init cX1_init 1 1 20 2 72 D cI cC cZ [.ref q0] [(q0, .inr (1, [.null, .null, .int 0, .int 0, .int 0]))] (fun w => ∃ q101 q102 : Nat, w = [(q0, .inr (1, [.ref q101, .ref q102, .int 0, .int 0, .int 0])), (q101, .inl (cI, 36, .inl (fun _ => 0))), (q102, .inl (cZ, 36, .inl (fun _ => 0)))]) := by
  refine Nct.of (by decide) (Nat.le_of_ble_eq_true rfl) ?_
  intro p e s m args below meth c ls A Q hAe hA hQ C hnm hl hw hz
  have hx := C.1
  have hb := C.2.1
  have hl : lv_has ls 1 [(0, .ref q0)] := hl
  refine lv_aload_n hx hb (dc d_X1_init 0 rfl) rfl (lv_at hl 0 rfl) ?_
  refine x_obj C hl.1 ml_X1_3 io_obj co_obj (Nat.le_of_ble_eq_true rfl) (Nat.le_of_ble_eq_true rfl) (dc d_X1_init 1 rfl) ?_
  refine lv_aload_n hx hb (dc d_X1_init 2 rfl) rfl (lv_at hl 0 rfl) ?_
  refine lv_bipush (v := (36 : Int32)) hx hb (dc d_X1_init 3 rfl) (by decide) ?_
  refine x_newI C hw hA ac_int (n := (36 : Int32)) (N := 36) (by decide) (by decide) (by decide) (Nat.le_of_ble_eq_true rfl) (Nat.le_of_ble_eq_true rfl) (dc d_X1_init 4 rfl) (fun q101 H hw => ?_)
  dsimp only [List.cons_append, List.nil_append] at hw
  have hw : Wd D A s.heap [(q0, .inr (1, [.null, .null, .int 0, .int 0, .int 0])), (q101, .inl (cI, 36, .inl (fun _ => 0)))] H _ := hw
  refine x_putF C hnm hw fl_X1_9 ff_X1_0 0 rfl (v := .ref q101) rfl rfl (Nat.le_of_ble_eq_true rfl) (dc d_X1_init 5 rfl) (fun H locs hw => ?_)
  dsimp only [List.set_cons_succ, List.set_cons_zero] at hw
  have hw : Wd D A s.heap [(q0, .inr (1, [.ref q101, .null, .int 0, .int 0, .int 0])), (q101, .inl (cI, 36, .inl (fun _ => 0)))] H _ := hw
  refine lv_aload_n hx hb (dc d_X1_init 6 rfl) rfl (lv_at hl 0 rfl) ?_
  refine lv_bipush (v := (36 : Int32)) hx hb (dc d_X1_init 7 rfl) (by decide) ?_
  refine x_newZ C hw hA ac_boolean (n := (36 : Int32)) (N := 36) (by decide) (by decide) (by decide) (Nat.le_of_ble_eq_true rfl) (Nat.le_of_ble_eq_true rfl) (dc d_X1_init 8 rfl) (fun q102 H hw => ?_)
  dsimp only [List.cons_append, List.nil_append] at hw
  have hw : Wd D A s.heap [(q0, .inr (1, [.ref q101, .null, .int 0, .int 0, .int 0])), (q101, .inl (cI, 36, .inl (fun _ => 0))), (q102, .inl (cZ, 36, .inl (fun _ => 0)))] H _ := hw
  refine x_putF C hnm hw fl_X1_15 ff_X1_1 0 rfl (v := .ref q102) rfl rfl (Nat.le_of_ble_eq_true rfl) (dc d_X1_init 9 rfl) (fun H locs hw => ?_)
  dsimp only [List.set_cons_succ, List.set_cons_zero] at hw
  have hw : Wd D A s.heap [(q0, .inr (1, [.ref q101, .ref q102, .int 0, .int 0, .int 0])), (q101, .inl (cI, 36, .inl (fun _ => 0))), (q102, .inl (cZ, 36, .inl (fun _ => 0)))] H _ := hw
  exact x_vretN C hAe hQ (Nat.le_of_ble_eq_true rfl) (Nat.le_of_ble_eq_true rfl) hw ⟨q101, q102, rfl⟩ (dc d_X1_init 10 rfl)
abbrev l_X2_init : List (Nat × Instr × Nat) := [(0, .aload_n 0, 1), (1, .invokespecial 3, 3), (4, .aload_n 0, 1), (5, .bipush 50, 2), (7, .newarray .char, 2), (9, .putfield 9, 3), (12, .return_, 1)]
theorem d_X2_init : dcOk cX2_init l_X2_init = true := by decide +kernel
set_option maxHeartbeats 4000000 in
set_option maxRecDepth 100000 in
theorem n_X2_init {l : Launch} {D : va_G} {cI cC cZ : ClassId} (q0 : Nat) : Nct l yX2_init cX2_init 1 1 20 1 50 D cI cC cZ [.ref q0] [(q0, .inr (2, [.null, .int 0]))] (fun w => ∃ q101 : Nat, w = [(q0, .inr (2, [.ref q101, .int 0])), (q101, .inl (cC, 50, .inl (fun _ => 0)))]) := by
  refine Nct.of (by decide) (Nat.le_of_ble_eq_true rfl) ?_
  intro p e s m args below meth c ls A Q hAe hA hQ C hnm hl hw hz
  have hx := C.1
  have hb := C.2.1
  have hl : lv_has ls 1 [(0, .ref q0)] := hl
  refine lv_aload_n hx hb (dc d_X2_init 0 rfl) rfl (lv_at hl 0 rfl) ?_
  refine x_obj C hl.1 ml_X2_3 io_obj co_obj (Nat.le_of_ble_eq_true rfl) (Nat.le_of_ble_eq_true rfl) (dc d_X2_init 1 rfl) ?_
  refine lv_aload_n hx hb (dc d_X2_init 2 rfl) rfl (lv_at hl 0 rfl) ?_
  refine lv_bipush (v := (50 : Int32)) hx hb (dc d_X2_init 3 rfl) (by decide) ?_
  refine x_newC C hw hA ac_char (n := (50 : Int32)) (N := 50) (by decide) (by decide) (by decide) (Nat.le_of_ble_eq_true rfl) (Nat.le_of_ble_eq_true rfl) (dc d_X2_init 4 rfl) (fun q101 H hw => ?_)
  dsimp only [List.cons_append, List.nil_append] at hw
  have hw : Wd D A s.heap [(q0, .inr (2, [.null, .int 0])), (q101, .inl (cC, 50, .inl (fun _ => 0)))] H _ := hw
  refine x_putF C hnm hw fl_X2_9 ff_X2_0 0 rfl (v := .ref q101) rfl rfl (Nat.le_of_ble_eq_true rfl) (dc d_X2_init 5 rfl) (fun H locs hw => ?_)
  dsimp only [List.set_cons_succ, List.set_cons_zero] at hw
  have hw : Wd D A s.heap [(q0, .inr (2, [.ref q101, .int 0])), (q101, .inl (cC, 50, .inl (fun _ => 0)))] H _ := hw
  exact x_vretN C hAe hQ (Nat.le_of_ble_eq_true rfl) (Nat.le_of_ble_eq_true rfl) hw ⟨q101, rfl⟩ (dc d_X2_init 6 rfl)
abbrev l_X3_init : List (Nat × Instr × Nat) := [(0, .aload_n 0, 1), (1, .invokespecial 1, 3), (4, .aload_n 0, 1), (5, .iload_n 1, 1), (6, .ifCond .ge 7, 3), (9, .iconst 0, 1), (10, .goto 4, 3), (13, .iload_n 1, 1), (14, .putfield 7, 3), (17, .aload_n 0, 1), (18, .aload_n 0, 1), (19, .getfield 7, 3), (22, .newarray .int, 2), (24, .putfield 13, 3), (27, .aload_n 0, 1), (28, .aload_n 0, 1), (29, .getfield 7, 3), (32, .newarray .int, 2), (34, .putfield 17, 3), (37, .aload_n 0, 1), (38, .aload_n 0, 1), (39, .getfield 7, 3), (42, .newarray .int, 2), (44, .putfield 20, 3), (47, .aload_n 0, 1), (48, .aload_n 0, 1), (49, .getfield 7, 3), (52, .newarray .int, 2), (54, .putfield 23, 3), (57, .return_, 1)]
theorem d_X3_init : dcOk cX3_init l_X3_init = true := by decide +kernel
set_option maxHeartbeats 4000000 in
set_option maxRecDepth 100000 in
theorem n_X3_init_12 {l : Launch} {D : va_G} {cI cC cZ : ClassId} (q0 : Nat) : Nct l yX3_init cX3_init 2 1 20 4 48 D cI cC cZ [.ref q0, .int (12 : Int32)] [(q0, .inr (3, [.int 0, .null, .null, .null, .null, .int 0]))] (fun w => ∃ q102 q103 q104 q105 : Nat, w = [(q0, .inr (3, [.int (12 : Int32), .ref q102, .ref q103, .ref q104, .ref q105, .int 0])), (q102, .inl (cI, 12, .inl (fun _ => 0))), (q103, .inl (cI, 12, .inl (fun _ => 0))), (q104, .inl (cI, 12, .inl (fun _ => 0))), (q105, .inl (cI, 12, .inl (fun _ => 0)))]) := by
  refine Nct.of (by decide) (Nat.le_of_ble_eq_true rfl) ?_
  intro p e s m args below meth c ls A Q hAe hA hQ C hnm hl hw hz
  have hx := C.1
  have hb := C.2.1
  have hl : lv_has ls 2 [(0, .ref q0), (1, .int (12 : Int32))] := hl
  refine lv_aload_n hx hb (dc d_X3_init 0 rfl) rfl (lv_at hl 0 rfl) ?_
  refine x_obj C hl.1 ml_X3_1 io_obj co_obj (Nat.le_of_ble_eq_true rfl) (Nat.le_of_ble_eq_true rfl) (dc d_X3_init 1 rfl) ?_
  refine lv_aload_n hx hb (dc d_X3_init 2 rfl) rfl (lv_at hl 0 rfl) ?_
  refine lv_iload_n hx hb (dc d_X3_init 3 rfl) rfl (lv_at hl 1 rfl) ?_
  refine lv_if_ge (tgt := 13) hx hb (dc d_X3_init 4 rfl) (by decide) (fun c1 => ?_) (fun c1 => absurd (by decide) c1)
  refine lv_iload_n hx hb (dc d_X3_init 7 rfl) rfl (lv_at hl 1 rfl) ?_
  refine x_putF C hnm hw fl_X3_7 ff_X3_0 0 rfl (v := .int (12 : Int32)) rfl rfl (Nat.le_of_ble_eq_true rfl) (dc d_X3_init 8 rfl) (fun H locs hw => ?_)
  dsimp only [List.set_cons_succ, List.set_cons_zero] at hw
  have hw : Wd D A s.heap [(q0, .inr (3, [.int (12 : Int32), .null, .null, .null, .null, .int 0]))] H _ := hw
  refine lv_aload_n hx hb (dc d_X3_init 9 rfl) rfl (lv_at hl 0 rfl) ?_
  refine lv_aload_n hx hb (dc d_X3_init 10 rfl) rfl (lv_at hl 0 rfl) ?_
  refine x_get C hw fl_X3_7 0 rfl rfl (dc d_X3_init 11 rfl) ?_
  refine x_newI C hw hA ac_int (n := (12 : Int32)) (N := 12) (by decide) (by decide) (by decide) (Nat.le_of_ble_eq_true rfl) (Nat.le_of_ble_eq_true rfl) (dc d_X3_init 12 rfl) (fun q102 H hw => ?_)
  dsimp only [List.cons_append, List.nil_append] at hw
  have hw : Wd D A s.heap [(q0, .inr (3, [.int (12 : Int32), .null, .null, .null, .null, .int 0])), (q102, .inl (cI, 12, .inl (fun _ => 0)))] H _ := hw
  refine x_putF C hnm hw fl_X3_13 ff_X3_1 0 rfl (v := .ref q102) rfl rfl (Nat.le_of_ble_eq_true rfl) (dc d_X3_init 13 rfl) (fun H locs hw => ?_)
  dsimp only [List.set_cons_succ, List.set_cons_zero] at hw
  have hw : Wd D A s.heap [(q0, .inr (3, [.int (12 : Int32), .ref q102, .null, .null, .null, .int 0])), (q102, .inl (cI, 12, .inl (fun _ => 0)))] H _ := hw
  refine lv_aload_n hx hb (dc d_X3_init 14 rfl) rfl (lv_at hl 0 rfl) ?_
  refine lv_aload_n hx hb (dc d_X3_init 15 rfl) rfl (lv_at hl 0 rfl) ?_
  refine x_get C hw fl_X3_7 0 rfl rfl (dc d_X3_init 16 rfl) ?_
  refine x_newI C hw hA ac_int (n := (12 : Int32)) (N := 12) (by decide) (by decide) (by decide) (Nat.le_of_ble_eq_true rfl) (Nat.le_of_ble_eq_true rfl) (dc d_X3_init 17 rfl) (fun q103 H hw => ?_)
  dsimp only [List.cons_append, List.nil_append] at hw
  have hw : Wd D A s.heap [(q0, .inr (3, [.int (12 : Int32), .ref q102, .null, .null, .null, .int 0])), (q102, .inl (cI, 12, .inl (fun _ => 0))), (q103, .inl (cI, 12, .inl (fun _ => 0)))] H _ := hw
  refine x_putF C hnm hw fl_X3_17 ff_X3_2 0 rfl (v := .ref q103) rfl rfl (Nat.le_of_ble_eq_true rfl) (dc d_X3_init 18 rfl) (fun H locs hw => ?_)
  dsimp only [List.set_cons_succ, List.set_cons_zero] at hw
  have hw : Wd D A s.heap [(q0, .inr (3, [.int (12 : Int32), .ref q102, .ref q103, .null, .null, .int 0])), (q102, .inl (cI, 12, .inl (fun _ => 0))), (q103, .inl (cI, 12, .inl (fun _ => 0)))] H _ := hw
  refine lv_aload_n hx hb (dc d_X3_init 19 rfl) rfl (lv_at hl 0 rfl) ?_
  refine lv_aload_n hx hb (dc d_X3_init 20 rfl) rfl (lv_at hl 0 rfl) ?_
  refine x_get C hw fl_X3_7 0 rfl rfl (dc d_X3_init 21 rfl) ?_
  refine x_newI C hw hA ac_int (n := (12 : Int32)) (N := 12) (by decide) (by decide) (by decide) (Nat.le_of_ble_eq_true rfl) (Nat.le_of_ble_eq_true rfl) (dc d_X3_init 22 rfl) (fun q104 H hw => ?_)
  dsimp only [List.cons_append, List.nil_append] at hw
  have hw : Wd D A s.heap [(q0, .inr (3, [.int (12 : Int32), .ref q102, .ref q103, .null, .null, .int 0])), (q102, .inl (cI, 12, .inl (fun _ => 0))), (q103, .inl (cI, 12, .inl (fun _ => 0))), (q104, .inl (cI, 12, .inl (fun _ => 0)))] H _ := hw
  refine x_putF C hnm hw fl_X3_20 ff_X3_3 0 rfl (v := .ref q104) rfl rfl (Nat.le_of_ble_eq_true rfl) (dc d_X3_init 23 rfl) (fun H locs hw => ?_)
  dsimp only [List.set_cons_succ, List.set_cons_zero] at hw
  have hw : Wd D A s.heap [(q0, .inr (3, [.int (12 : Int32), .ref q102, .ref q103, .ref q104, .null, .int 0])), (q102, .inl (cI, 12, .inl (fun _ => 0))), (q103, .inl (cI, 12, .inl (fun _ => 0))), (q104, .inl (cI, 12, .inl (fun _ => 0)))] H _ := hw
  refine lv_aload_n hx hb (dc d_X3_init 24 rfl) rfl (lv_at hl 0 rfl) ?_
  refine lv_aload_n hx hb (dc d_X3_init 25 rfl) rfl (lv_at hl 0 rfl) ?_
  refine x_get C hw fl_X3_7 0 rfl rfl (dc d_X3_init 26 rfl) ?_
  refine x_newI C hw hA ac_int (n := (12 : Int32)) (N := 12) (by decide) (by decide) (by decide) (Nat.le_of_ble_eq_true rfl) (Nat.le_of_ble_eq_true rfl) (dc d_X3_init 27 rfl) (fun q105 H hw => ?_)
  dsimp only [List.cons_append, List.nil_append] at hw
  have hw : Wd D A s.heap [(q0, .inr (3, [.int (12 : Int32), .ref q102, .ref q103, .ref q104, .null, .int 0])), (q102, .inl (cI, 12, .inl (fun _ => 0))), (q103, .inl (cI, 12, .inl (fun _ => 0))), (q104, .inl (cI, 12, .inl (fun _ => 0))), (q105, .inl (cI, 12, .inl (fun _ => 0)))] H _ := hw
  refine x_putF C hnm hw fl_X3_23 ff_X3_4 0 rfl (v := .ref q105) rfl rfl (Nat.le_of_ble_eq_true rfl) (dc d_X3_init 28 rfl) (fun H locs hw => ?_)
  dsimp only [List.set_cons_succ, List.set_cons_zero] at hw
  have hw : Wd D A s.heap [(q0, .inr (3, [.int (12 : Int32), .ref q102, .ref q103, .ref q104, .ref q105, .int 0])), (q102, .inl (cI, 12, .inl (fun _ => 0))), (q103, .inl (cI, 12, .inl (fun _ => 0))), (q104, .inl (cI, 12, .inl (fun _ => 0))), (q105, .inl (cI, 12, .inl (fun _ => 0)))] H _ := hw
  exact x_vretN C hAe hQ (Nat.le_of_ble_eq_true rfl) (Nat.le_of_ble_eq_true rfl) hw ⟨q102, q103, q104, q105, rfl⟩ (dc d_X3_init 29 rfl)
set_option maxHeartbeats 4000000 in
set_option maxRecDepth 100000 in
theorem n_X3_init_10 {l : Launch} {D : va_G} {cI cC cZ : ClassId} (q0 : Nat) : Nct l yX3_init cX3_init 2 1 20 4 40 D cI cC cZ [.ref q0, .int (10 : Int32)] [(q0, .inr (3, [.int 0, .null, .null, .null, .null, .int 0]))] (fun w => ∃ q102 q103 q104 q105 : Nat, w = [(q0, .inr (3, [.int (10 : Int32), .ref q102, .ref q103, .ref q104, .ref q105, .int 0])), (q102, .inl (cI, 10, .inl (fun _ => 0))), (q103, .inl (cI, 10, .inl (fun _ => 0))), (q104, .inl (cI, 10, .inl (fun _ => 0))), (q105, .inl (cI, 10, .inl (fun _ => 0)))]) := by
  refine Nct.of (by decide) (Nat.le_of_ble_eq_true rfl) ?_
  intro p e s m args below meth c ls A Q hAe hA hQ C hnm hl hw hz
  have hx := C.1
  have hb := C.2.1
  have hl : lv_has ls 2 [(0, .ref q0), (1, .int (10 : Int32))] := hl
  refine lv_aload_n hx hb (dc d_X3_init 0 rfl) rfl (lv_at hl 0 rfl) ?_
  refine x_obj C hl.1 ml_X3_1 io_obj co_obj (Nat.le_of_ble_eq_true rfl) (Nat.le_of_ble_eq_true rfl) (dc d_X3_init 1 rfl) ?_
  refine lv_aload_n hx hb (dc d_X3_init 2 rfl) rfl (lv_at hl 0 rfl) ?_
  refine lv_iload_n hx hb (dc d_X3_init 3 rfl) rfl (lv_at hl 1 rfl) ?_
  refine lv_if_ge (tgt := 13) hx hb (dc d_X3_init 4 rfl) (by decide) (fun c1 => ?_) (fun c1 => absurd (by decide) c1)
  refine lv_iload_n hx hb (dc d_X3_init 7 rfl) rfl (lv_at hl 1 rfl) ?_
  refine x_putF C hnm hw fl_X3_7 ff_X3_0 0 rfl (v := .int (10 : Int32)) rfl rfl (Nat.le_of_ble_eq_true rfl) (dc d_X3_init 8 rfl) (fun H locs hw => ?_)
  dsimp only [List.set_cons_succ, List.set_cons_zero] at hw
  have hw : Wd D A s.heap [(q0, .inr (3, [.int (10 : Int32), .null, .null, .null, .null, .int 0]))] H _ := hw
  refine lv_aload_n hx hb (dc d_X3_init 9 rfl) rfl (lv_at hl 0 rfl) ?_
  refine lv_aload_n hx hb (dc d_X3_init 10 rfl) rfl (lv_at hl 0 rfl) ?_
  refine x_get C hw fl_X3_7 0 rfl rfl (dc d_X3_init 11 rfl) ?_
  refine x_newI C hw hA ac_int (n := (10 : Int32)) (N := 10) (by decide) (by decide) (by decide) (Nat.le_of_ble_eq_true rfl) (Nat.le_of_ble_eq_true rfl) (dc d_X3_init 12 rfl) (fun q102 H hw => ?_)
  dsimp only [List.cons_append, List.nil_append] at hw
  have hw : Wd D A s.heap [(q0, .inr (3, [.int (10 : Int32), .null, .null, .null, .null, .int 0])), (q102, .inl (cI, 10, .inl (fun _ => 0)))] H _ := hw
  refine x_putF C hnm hw fl_X3_13 ff_X3_1 0 rfl (v := .ref q102) rfl rfl (Nat.le_of_ble_eq_true rfl) (dc d_X3_init 13 rfl) (fun H locs hw => ?_)
  dsimp only [List.set_cons_succ, List.set_cons_zero] at hw
  have hw : Wd D A s.heap [(q0, .inr (3, [.int (10 : Int32), .ref q102, .null, .null, .null, .int 0])), (q102, .inl (cI, 10, .inl (fun _ => 0)))] H _ := hw
  refine lv_aload_n hx hb (dc d_X3_init 14 rfl) rfl (lv_at hl 0 rfl) ?_
  refine lv_aload_n hx hb (dc d_X3_init 15 rfl) rfl (lv_at hl 0 rfl) ?_
  refine x_get C hw fl_X3_7 0 rfl rfl (dc d_X3_init 16 rfl) ?_
  refine x_newI C hw hA ac_int (n := (10 : Int32)) (N := 10) (by decide) (by decide) (by decide) (Nat.le_of_ble_eq_true rfl) (Nat.le_of_ble_eq_true rfl) (dc d_X3_init 17 rfl) (fun q103 H hw => ?_)
  dsimp only [List.cons_append, List.nil_append] at hw
  have hw : Wd D A s.heap [(q0, .inr (3, [.int (10 : Int32), .ref q102, .null, .null, .null, .int 0])), (q102, .inl (cI, 10, .inl (fun _ => 0))), (q103, .inl (cI, 10, .inl (fun _ => 0)))] H _ := hw
  refine x_putF C hnm hw fl_X3_17 ff_X3_2 0 rfl (v := .ref q103) rfl rfl (Nat.le_of_ble_eq_true rfl) (dc d_X3_init 18 rfl) (fun H locs hw => ?_)
  dsimp only [List.set_cons_succ, List.set_cons_zero] at hw
  have hw : Wd D A s.heap [(q0, .inr (3, [.int (10 : Int32), .ref q102, .ref q103, .null, .null, .int 0])), (q102, .inl (cI, 10, .inl (fun _ => 0))), (q103, .inl (cI, 10, .inl (fun _ => 0)))] H _ := hw
  refine lv_aload_n hx hb (dc d_X3_init 19 rfl) rfl (lv_at hl 0 rfl) ?_
  refine lv_aload_n hx hb (dc d_X3_init 20 rfl) rfl (lv_at hl 0 rfl) ?_
  refine x_get C hw fl_X3_7 0 rfl rfl (dc d_X3_init 21 rfl) ?_
  refine x_newI C hw hA ac_int (n := (10 : Int32)) (N := 10) (by decide) (by decide) (by decide) (Nat.le_of_ble_eq_true rfl) (Nat.le_of_ble_eq_true rfl) (dc d_X3_init 22 rfl) (fun q104 H hw => ?_)
  dsimp only [List.cons_append, List.nil_append] at hw
  have hw : Wd D A s.heap [(q0, .inr (3, [.int (10 : Int32), .ref q102, .ref q103, .null, .null, .int 0])), (q102, .inl (cI, 10, .inl (fun _ => 0))), (q103, .inl (cI, 10, .inl (fun _ => 0))), (q104, .inl (cI, 10, .inl (fun _ => 0)))] H _ := hw
  refine x_putF C hnm hw fl_X3_20 ff_X3_3 0 rfl (v := .ref q104) rfl rfl (Nat.le_of_ble_eq_true rfl) (dc d_X3_init 23 rfl) (fun H locs hw => ?_)
  dsimp only [List.set_cons_succ, List.set_cons_zero] at hw
  have hw : Wd D A s.heap [(q0, .inr (3, [.int (10 : Int32), .ref q102, .ref q103, .ref q104, .null, .int 0])), (q102, .inl (cI, 10, .inl (fun _ => 0))), (q103, .inl (cI, 10, .inl (fun _ => 0))), (q104, .inl (cI, 10, .inl (fun _ => 0)))] H _ := hw
  refine lv_aload_n hx hb (dc d_X3_init 24 rfl) rfl (lv_at hl 0 rfl) ?_
  refine lv_aload_n hx hb (dc d_X3_init 25 rfl) rfl (lv_at hl 0 rfl) ?_
  refine x_get C hw fl_X3_7 0 rfl rfl (dc d_X3_init 26 rfl) ?_
  refine x_newI C hw hA ac_int (n := (10 : Int32)) (N := 10) (by decide) (by decide) (by decide) (Nat.le_of_ble_eq_true rfl) (Nat.le_of_ble_eq_true rfl) (dc d_X3_init 27 rfl) (fun q105 H hw => ?_)
  dsimp only [List.cons_append, List.nil_append] at hw
  have hw : Wd D A s.heap [(q0, .inr (3, [.int (10 : Int32), .ref q102, .ref q103, .ref q104, .null, .int 0])), (q102, .inl (cI, 10, .inl (fun _ => 0))), (q103, .inl (cI, 10, .inl (fun _ => 0))), (q104, .inl (cI, 10, .inl (fun _ => 0))), (q105, .inl (cI, 10, .inl (fun _ => 0)))] H _ := hw
  refine x_putF C hnm hw fl_X3_23 ff_X3_4 0 rfl (v := .ref q105) rfl rfl (Nat.le_of_ble_eq_true rfl) (dc d_X3_init 28 rfl) (fun H locs hw => ?_)
  dsimp only [List.set_cons_succ, List.set_cons_zero] at hw
  have hw : Wd D A s.heap [(q0, .inr (3, [.int (10 : Int32), .ref q102, .ref q103, .ref q104, .ref q105, .int 0])), (q102, .inl (cI, 10, .inl (fun _ => 0))), (q103, .inl (cI, 10, .inl (fun _ => 0))), (q104, .inl (cI, 10, .inl (fun _ => 0))), (q105, .inl (cI, 10, .inl (fun _ => 0)))] H _ := hw
  exact x_vretN C hAe hQ (Nat.le_of_ble_eq_true rfl) (Nat.le_of_ble_eq_true rfl) hw ⟨q102, q103, q104, q105, rfl⟩ (dc d_X3_init 29 rfl)
abbrev l_X6_init : List (Nat × Instr × Nat) := [(0, .aload_n 0, 1), (1, .invokespecial 3, 3), (4, .aload_n 0, 1), (5, .bipush 8, 2), (7, .newarray .int, 2), (9, .putfield 9, 3), (12, .aload_n 0, 1), (13, .bipush 8, 2), (15, .newarray .int, 2), (17, .putfield 15, 3), (20, .aload_n 0, 1), (21, .bipush 6, 2), (23, .newarray .int, 2), (25, .putfield 18, 3), (28, .aload_n 0, 1), (29, .bipush 6, 2), (31, .newarray .int, 2), (33, .putfield 21, 3), (36, .return_, 1)]
theorem d_X6_init : dcOk cX6_init l_X6_init = true := by decide +kernel
set_option maxHeartbeats 4000000 in
set_option maxRecDepth 100000 in
theorem n_X6_init {l : Launch} {D : va_G} {cI cC cZ : ClassId} (q0 : Nat) : Nct l yX6_init cX6_init 1 1 20 4 28 D cI cC cZ [.ref q0] [(q0, .inr (6, [.null, .null, .null, .null]))] (fun w => ∃ q101 q102 q103 q104 : Nat, w = [(q0, .inr (6, [.ref q101, .ref q102, .ref q103, .ref q104])), (q101, .inl (cI, 8, .inl (fun _ => 0))), (q102, .inl (cI, 8, .inl (fun _ => 0))), (q103, .inl (cI, 6, .inl (fun _ => 0))), (q104, .inl (cI, 6, .inl (fun _ => 0)))]) := by
  refine Nct.of (by decide) (Nat.le_of_ble_eq_true rfl) ?_
  intro p e s m args below meth c ls A Q hAe hA hQ C hnm hl hw hz
  have hx := C.1
  have hb := C.2.1
  have hl : lv_has ls 1 [(0, .ref q0)] := hl
  refine lv_aload_n hx hb (dc d_X6_init 0 rfl) rfl (lv_at hl 0 rfl) ?_
  refine x_obj C hl.1 ml_X6_3 io_obj co_obj (Nat.le_of_ble_eq_true rfl) (Nat.le_of_ble_eq_true rfl) (dc d_X6_init 1 rfl) ?_
  refine lv_aload_n hx hb (dc d_X6_init 2 rfl) rfl (lv_at hl 0 rfl) ?_
  refine lv_bipush (v := (8 : Int32)) hx hb (dc d_X6_init 3 rfl) (by decide) ?_
  refine x_newI C hw hA ac_int (n := (8 : Int32)) (N := 8) (by decide) (by decide) (by decide) (Nat.le_of_ble_eq_true rfl) (Nat.le_of_ble_eq_true rfl) (dc d_X6_init 4 rfl) (fun q101 H hw => ?_)
  dsimp only [List.cons_append, List.nil_append] at hw
  have hw : Wd D A s.heap [(q0, .inr (6, [.null, .null, .null, .null])), (q101, .inl (cI, 8, .inl (fun _ => 0)))] H _ := hw
  refine x_putF C hnm hw fl_X6_9 ff_X6_0 0 rfl (v := .ref q101) rfl rfl (Nat.le_of_ble_eq_true rfl) (dc d_X6_init 5 rfl) (fun H locs hw => ?_)
  dsimp only [List.set_cons_succ, List.set_cons_zero] at hw
  have hw : Wd D A s.heap [(q0, .inr (6, [.ref q101, .null, .null, .null])), (q101, .inl (cI, 8, .inl (fun _ => 0)))] H _ := hw
  refine lv_aload_n hx hb (dc d_X6_init 6 rfl) rfl (lv_at hl 0 rfl) ?_
  refine lv_bipush (v := (8 : Int32)) hx hb (dc d_X6_init 7 rfl) (by decide) ?_
  refine x_newI C hw hA ac_int (n := (8 : Int32)) (N := 8) (by decide) (by decide) (by decide) (Nat.le_of_ble_eq_true rfl) (Nat.le_of_ble_eq_true rfl) (dc d_X6_init 8 rfl) (fun q102 H hw => ?_)
  dsimp only [List.cons_append, List.nil_append] at hw
  have hw : Wd D A s.heap [(q0, .inr (6, [.ref q101, .null, .null, .null])), (q101, .inl (cI, 8, .inl (fun _ => 0))), (q102, .inl (cI, 8, .inl (fun _ => 0)))] H _ := hw
  refine x_putF C hnm hw fl_X6_15 ff_X6_1 0 rfl (v := .ref q102) rfl rfl (Nat.le_of_ble_eq_true rfl) (dc d_X6_init 9 rfl) (fun H locs hw => ?_)
  dsimp only [List.set_cons_succ, List.set_cons_zero] at hw
  have hw : Wd D A s.heap [(q0, .inr (6, [.ref q101, .ref q102, .null, .null])), (q101, .inl (cI, 8, .inl (fun _ => 0))), (q102, .inl (cI, 8, .inl (fun _ => 0)))] H _ := hw
  refine lv_aload_n hx hb (dc d_X6_init 10 rfl) rfl (lv_at hl 0 rfl) ?_
  refine lv_bipush (v := (6 : Int32)) hx hb (dc d_X6_init 11 rfl) (by decide) ?_
  refine x_newI C hw hA ac_int (n := (6 : Int32)) (N := 6) (by decide) (by decide) (by decide) (Nat.le_of_ble_eq_true rfl) (Nat.le_of_ble_eq_true rfl) (dc d_X6_init 12 rfl) (fun q103 H hw => ?_)
  dsimp only [List.cons_append, List.nil_append] at hw
  have hw : Wd D A s.heap [(q0, .inr (6, [.ref q101, .ref q102, .null, .null])), (q101, .inl (cI, 8, .inl (fun _ => 0))), (q102, .inl (cI, 8, .inl (fun _ => 0))), (q103, .inl (cI, 6, .inl (fun _ => 0)))] H _ := hw
  refine x_putF C hnm hw fl_X6_18 ff_X6_2 0 rfl (v := .ref q103) rfl rfl (Nat.le_of_ble_eq_true rfl) (dc d_X6_init 13 rfl) (fun H locs hw => ?_)
  dsimp only [List.set_cons_succ, List.set_cons_zero] at hw
  have hw : Wd D A s.heap [(q0, .inr (6, [.ref q101, .ref q102, .ref q103, .null])), (q101, .inl (cI, 8, .inl (fun _ => 0))), (q102, .inl (cI, 8, .inl (fun _ => 0))), (q103, .inl (cI, 6, .inl (fun _ => 0)))] H _ := hw
  refine lv_aload_n hx hb (dc d_X6_init 14 rfl) rfl (lv_at hl 0 rfl) ?_
  refine lv_bipush (v := (6 : Int32)) hx hb (dc d_X6_init 15 rfl) (by decide) ?_
  refine x_newI C hw hA ac_int (n := (6 : Int32)) (N := 6) (by decide) (by decide) (by decide) (Nat.le_of_ble_eq_true rfl) (Nat.le_of_ble_eq_true rfl) (dc d_X6_init 16 rfl) (fun q104 H hw => ?_)
  dsimp only [List.cons_append, List.nil_append] at hw
  have hw : Wd D A s.heap [(q0, .inr (6, [.ref q101, .ref q102, .ref q103, .null])), (q101, .inl (cI, 8, .inl (fun _ => 0))), (q102, .inl (cI, 8, .inl (fun _ => 0))), (q103, .inl (cI, 6, .inl (fun _ => 0))), (q104, .inl (cI, 6, .inl (fun _ => 0)))] H _ := hw
  refine x_putF C hnm hw fl_X6_21 ff_X6_3 0 rfl (v := .ref q104) rfl rfl (Nat.le_of_ble_eq_true rfl) (dc d_X6_init 17 rfl) (fun H locs hw => ?_)
  dsimp only [List.set_cons_succ, List.set_cons_zero] at hw
  have hw : Wd D A s.heap [(q0, .inr (6, [.ref q101, .ref q102, .ref q103, .ref q104])), (q101, .inl (cI, 8, .inl (fun _ => 0))), (q102, .inl (cI, 8, .inl (fun _ => 0))), (q103, .inl (cI, 6, .inl (fun _ => 0))), (q104, .inl (cI, 6, .inl (fun _ => 0)))] H _ := hw
  exact x_vretN C hAe hQ (Nat.le_of_ble_eq_true rfl) (Nat.le_of_ble_eq_true rfl) hw ⟨q101, q102, q103, q104, rfl⟩ (dc d_X6_init 18 rfl)
abbrev l_X4_init : List (Nat × Instr × Nat) := [(0, .aload_n 0, 1), (1, .invokespecial 3, 3), (4, .aload_n 0, 1), (5, .new 9, 3), (8, .dup, 1), (9, .bipush 10, 2), (11, .invokespecial 11, 3), (14, .putfield 14, 3), (17, .aload_n 0, 1), (18, .new 20, 3), (21, .dup, 1), (22, .invokespecial 22, 3), (25, .putfield 23, 3), (28, .aload_n 0, 1), (29, .bipush (-6), 2), (31, .putfield 27, 3), (34, .return_, 1)]
theorem d_X4_init : dcOk cX4_init l_X4_init = true := by decide +kernel
set_option maxHeartbeats 4000000 in
set_option maxRecDepth 100000 in
theorem n_X4_init {l : Launch} {D : va_G} {cI cC cZ : ClassId} (q0 : Nat) : Nct l yX4_init cX4_init 1 2 41 10 78 D cI cC cZ [.ref q0] [(q0, .inr (4, [.null, .null, .int 0, .int 0]))] (fun w => ∃ q101 q102 q103 q104 q105 q106 q107 q108 q109 q110 : Nat, w = [(q0, .inr (4, [.ref q101, .ref q106, .int (-6 : Int32), .int 0])), (q101, .inr (3, [.int (10 : Int32), .ref q102, .ref q103, .ref q104, .ref q105, .int 0])), (q102, .inl (cI, 10, .inl (fun _ => 0))), (q103, .inl (cI, 10, .inl (fun _ => 0))), (q104, .inl (cI, 10, .inl (fun _ => 0))), (q105, .inl (cI, 10, .inl (fun _ => 0))), (q106, .inr (6, [.ref q107, .ref q108, .ref q109, .ref q110])), (q107, .inl (cI, 8, .inl (fun _ => 0))), (q108, .inl (cI, 8, .inl (fun _ => 0))), (q109, .inl (cI, 6, .inl (fun _ => 0))), (q110, .inl (cI, 6, .inl (fun _ => 0)))]) := by
  refine Nct.of (by decide) (Nat.le_of_ble_eq_true rfl) ?_
  intro p e s m args below meth c ls A Q hAe hA hQ C hnm hl hw hz
  have hx := C.1
  have hb := C.2.1
  have hl : lv_has ls 1 [(0, .ref q0)] := hl
  refine lv_aload_n hx hb (dc d_X4_init 0 rfl) rfl (lv_at hl 0 rfl) ?_
  refine x_obj C hl.1 ml_X4_3 io_obj co_obj (Nat.le_of_ble_eq_true rfl) (Nat.le_of_ble_eq_true rfl) (dc d_X4_init 1 rfl) ?_
  refine lv_aload_n hx hb (dc d_X4_init 2 rfl) rfl (lv_at hl 0 rfl) ?_
  refine x_newo C hw hA fn_X4_9 (Nat.le_of_ble_eq_true rfl) (Nat.le_of_ble_eq_true rfl) (dc d_X4_init 3 rfl) (fun q101 H hw => ?_)
  dsimp only [List.cons_append, List.nil_append] at hw
  have hw : Wd D A s.heap [(q0, .inr (4, [.null, .null, .int 0, .int 0])), (q101, .inr (3, [.int 0, .null, .null, .null, .null, .int 0]))] H _ := hw
  refine lv_dup hx hb (dc d_X4_init 4 rfl) rfl ?_
  refine lv_bipush (v := (10 : Int32)) hx hb (dc d_X4_init 5 rfl) (by decide) ?_
  refine x_callI (wr := [(q0, .inr (4, [.null, .null, .int 0, .int 0]))]) C hw hA hz mb_X3_init im_X3_init rfl ml_X4_11 (n_X3_init_10 q101) hl.1 rfl rfl [1] [0] rfl rfl (by decide) (by decide) (by decide) (Nat.le_of_ble_eq_true rfl) (Nat.le_of_ble_eq_true rfl) (Nat.le_of_ble_eq_true rfl) (Nat.le_of_ble_eq_true rfl) (Nat.le_of_ble_eq_true rfl) (dc d_X4_init 6 rfl) (fun w1 H locs hp hw => ?_)
  obtain ⟨q102, q103, q104, q105, rfl⟩ := hp
  dsimp only [List.cons_append, List.nil_append] at hw
  have hw : Wd D A s.heap [(q0, .inr (4, [.null, .null, .int 0, .int 0])), (q101, .inr (3, [.int (10 : Int32), .ref q102, .ref q103, .ref q104, .ref q105, .int 0])), (q102, .inl (cI, 10, .inl (fun _ => 0))), (q103, .inl (cI, 10, .inl (fun _ => 0))), (q104, .inl (cI, 10, .inl (fun _ => 0))), (q105, .inl (cI, 10, .inl (fun _ => 0)))] H _ := hw
  refine x_putF C hnm hw fl_X4_14 ff_X4_0 0 rfl (v := .ref q101) rfl rfl (Nat.le_of_ble_eq_true rfl) (dc d_X4_init 7 rfl) (fun H locs hw => ?_)
  dsimp only [List.set_cons_succ, List.set_cons_zero] at hw
  have hw : Wd D A s.heap [(q0, .inr (4, [.ref q101, .null, .int 0, .int 0])), (q101, .inr (3, [.int (10 : Int32), .ref q102, .ref q103, .ref q104, .ref q105, .int 0])), (q102, .inl (cI, 10, .inl (fun _ => 0))), (q103, .inl (cI, 10, .inl (fun _ => 0))), (q104, .inl (cI, 10, .inl (fun _ => 0))), (q105, .inl (cI, 10, .inl (fun _ => 0)))] H _ := hw
  refine lv_aload_n hx hb (dc d_X4_init 8 rfl) rfl (lv_at hl 0 rfl) ?_
  refine x_newo C hw hA fn_X4_20 (Nat.le_of_ble_eq_true rfl) (Nat.le_of_ble_eq_true rfl) (dc d_X4_init 9 rfl) (fun q106 H hw => ?_)
  dsimp only [List.cons_append, List.nil_append] at hw
  have hw : Wd D A s.heap [(q0, .inr (4, [.ref q101, .null, .int 0, .int 0])), (q101, .inr (3, [.int (10 : Int32), .ref q102, .ref q103, .ref q104, .ref q105, .int 0])), (q102, .inl (cI, 10, .inl (fun _ => 0))), (q103, .inl (cI, 10, .inl (fun _ => 0))), (q104, .inl (cI, 10, .inl (fun _ => 0))), (q105, .inl (cI, 10, .inl (fun _ => 0))), (q106, .inr (6, [.null, .null, .null, .null]))] H _ := hw
  refine lv_dup hx hb (dc d_X4_init 10 rfl) rfl ?_
  refine x_callIN (wr := [(q0, .inr (4, [.ref q101, .null, .int 0, .int 0])), (q101, .inr (3, [.int (10 : Int32), .ref q102, .ref q103, .ref q104, .ref q105, .int 0])), (q102, .inl (cI, 10, .inl (fun _ => 0))), (q103, .inl (cI, 10, .inl (fun _ => 0))), (q104, .inl (cI, 10, .inl (fun _ => 0))), (q105, .inl (cI, 10, .inl (fun _ => 0)))]) C hw hA hz mb_X6_init im_X6_init rfl ml_X4_22 (n_X6_init q106) hl.1 rfl rfl [6] [0, 1, 2, 3, 4, 5] rfl rfl (by decide) (by decide) (by decide) (Nat.le_of_ble_eq_true rfl) (Nat.le_of_ble_eq_true rfl) (Nat.le_of_ble_eq_true rfl) (Nat.le_of_ble_eq_true rfl) (Nat.le_of_ble_eq_true rfl) (dc d_X4_init 11 rfl) (fun w1 H locs hp hw => ?_)
  obtain ⟨q107, q108, q109, q110, rfl⟩ := hp
  dsimp only [List.cons_append, List.nil_append] at hw
  have hw : Wd D A s.heap [(q0, .inr (4, [.ref q101, .null, .int 0, .int 0])), (q101, .inr (3, [.int (10 : Int32), .ref q102, .ref q103, .ref q104, .ref q105, .int 0])), (q102, .inl (cI, 10, .inl (fun _ => 0))), (q103, .inl (cI, 10, .inl (fun _ => 0))), (q104, .inl (cI, 10, .inl (fun _ => 0))), (q105, .inl (cI, 10, .inl (fun _ => 0))), (q106, .inr (6, [.ref q107, .ref q108, .ref q109, .ref q110])), (q107, .inl (cI, 8, .inl (fun _ => 0))), (q108, .inl (cI, 8, .inl (fun _ => 0))), (q109, .inl (cI, 6, .inl (fun _ => 0))), (q110, .inl (cI, 6, .inl (fun _ => 0)))] H _ := hw
  refine x_putF C hnm hw fl_X4_23 ff_X4_1 0 rfl (v := .ref q106) rfl rfl (Nat.le_of_ble_eq_true rfl) (dc d_X4_init 12 rfl) (fun H locs hw => ?_)
  dsimp only [List.set_cons_succ, List.set_cons_zero] at hw
  have hw : Wd D A s.heap [(q0, .inr (4, [.ref q101, .ref q106, .int 0, .int 0])), (q101, .inr (3, [.int (10 : Int32), .ref q102, .ref q103, .ref q104, .ref q105, .int 0])), (q102, .inl (cI, 10, .inl (fun _ => 0))), (q103, .inl (cI, 10, .inl (fun _ => 0))), (q104, .inl (cI, 10, .inl (fun _ => 0))), (q105, .inl (cI, 10, .inl (fun _ => 0))), (q106, .inr (6, [.ref q107, .ref q108, .ref q109, .ref q110])), (q107, .inl (cI, 8, .inl (fun _ => 0))), (q108, .inl (cI, 8, .inl (fun _ => 0))), (q109, .inl (cI, 6, .inl (fun _ => 0))), (q110, .inl (cI, 6, .inl (fun _ => 0)))] H _ := hw
  refine lv_aload_n hx hb (dc d_X4_init 13 rfl) rfl (lv_at hl 0 rfl) ?_
  refine lv_bipush (v := (-6 : Int32)) hx hb (dc d_X4_init 14 rfl) (by decide) ?_
  refine x_put C hw fl_X4_27 fw_X4_2 0 rfl (v := .int (-6 : Int32)) rfl rfl (Nat.le_of_ble_eq_true rfl) (dc d_X4_init 15 rfl) (fun H locs hw => ?_)
  dsimp only [List.set_cons_succ, List.set_cons_zero] at hw
  have hw : Wd D A s.heap [(q0, .inr (4, [.ref q101, .ref q106, .int (-6 : Int32), .int 0])), (q101, .inr (3, [.int (10 : Int32), .ref q102, .ref q103, .ref q104, .ref q105, .int 0])), (q102, .inl (cI, 10, .inl (fun _ => 0))), (q103, .inl (cI, 10, .inl (fun _ => 0))), (q104, .inl (cI, 10, .inl (fun _ => 0))), (q105, .inl (cI, 10, .inl (fun _ => 0))), (q106, .inr (6, [.ref q107, .ref q108, .ref q109, .ref q110])), (q107, .inl (cI, 8, .inl (fun _ => 0))), (q108, .inl (cI, 8, .inl (fun _ => 0))), (q109, .inl (cI, 6, .inl (fun _ => 0))), (q110, .inl (cI, 6, .inl (fun _ => 0)))] H _ := hw
  exact x_vretN C hAe hQ (Nat.le_of_ble_eq_true rfl) (Nat.le_of_ble_eq_true rfl) hw ⟨q101, q102, q103, q104, q105, q106, q107, q108, q109, q110, rfl⟩ (dc d_X4_init 16 rfl)
abbrev l_X7_init : List (Nat × Instr × Nat) := [(0, .aload_n 0, 1), (1, .invokespecial 3, 3), (4, .aload_n 0, 1), (5, .bipush 12, 2), (7, .newarray .int, 2), (9, .putfield 9, 3), (12, .aload_n 0, 1), (13, .bipush 12, 2), (15, .newarray .int, 2), (17, .putfield 15, 3), (20, .aload_n 0, 1), (21, .iconst 3, 1), (22, .newarray .int, 2), (24, .putfield 18, 3), (27, .return_, 1)]
theorem d_X7_init : dcOk cX7_init l_X7_init = true := by decide +kernel
set_option maxHeartbeats 4000000 in
set_option maxRecDepth 100000 in
theorem n_X7_init {l : Launch} {D : va_G} {cI cC cZ : ClassId} (q0 : Nat) : Nct l yX7_init cX7_init 1 1 20 3 27 D cI cC cZ [.ref q0] [(q0, .inr (7, [.null, .int 0, .int 0, .null, .null, .int 0]))] (fun w => ∃ q101 q102 q103 : Nat, w = [(q0, .inr (7, [.ref q101, .int 0, .int 0, .ref q102, .ref q103, .int 0])), (q101, .inl (cI, 12, .inl (fun _ => 0))), (q102, .inl (cI, 12, .inl (fun _ => 0))), (q103, .inl (cI, 3, .inl (fun _ => 0)))]) := by
  refine Nct.of (by decide) (Nat.le_of_ble_eq_true rfl) ?_
  intro p e s m args below meth c ls A Q hAe hA hQ C hnm hl hw hz
  have hx := C.1
  have hb := C.2.1
  have hl : lv_has ls 1 [(0, .ref q0)] := hl
  refine lv_aload_n hx hb (dc d_X7_init 0 rfl) rfl (lv_at hl 0 rfl) ?_
  refine x_obj C hl.1 ml_X7_3 io_obj co_obj (Nat.le_of_ble_eq_true rfl) (Nat.le_of_ble_eq_true rfl) (dc d_X7_init 1 rfl) ?_
  refine lv_aload_n hx hb (dc d_X7_init 2 rfl) rfl (lv_at hl 0 rfl) ?_
  refine lv_bipush (v := (12 : Int32)) hx hb (dc d_X7_init 3 rfl) (by decide) ?_
  refine x_newI C hw hA ac_int (n := (12 : Int32)) (N := 12) (by decide) (by decide) (by decide) (Nat.le_of_ble_eq_true rfl) (Nat.le_of_ble_eq_true rfl) (dc d_X7_init 4 rfl) (fun q101 H hw => ?_)
  dsimp only [List.cons_append, List.nil_append] at hw
  have hw : Wd D A s.heap [(q0, .inr (7, [.null, .int 0, .int 0, .null, .null, .int 0])), (q101, .inl (cI, 12, .inl (fun _ => 0)))] H _ := hw
  refine x_putF C hnm hw fl_X7_9 ff_X7_0 0 rfl (v := .ref q101) rfl rfl (Nat.le_of_ble_eq_true rfl) (dc d_X7_init 5 rfl) (fun H locs hw => ?_)
  dsimp only [List.set_cons_succ, List.set_cons_zero] at hw
  have hw : Wd D A s.heap [(q0, .inr (7, [.ref q101, .int 0, .int 0, .null, .null, .int 0])), (q101, .inl (cI, 12, .inl (fun _ => 0)))] H _ := hw
  refine lv_aload_n hx hb (dc d_X7_init 6 rfl) rfl (lv_at hl 0 rfl) ?_
  refine lv_bipush (v := (12 : Int32)) hx hb (dc d_X7_init 7 rfl) (by decide) ?_
  refine x_newI C hw hA ac_int (n := (12 : Int32)) (N := 12) (by decide) (by decide) (by decide) (Nat.le_of_ble_eq_true rfl) (Nat.le_of_ble_eq_true rfl) (dc d_X7_init 8 rfl) (fun q102 H hw => ?_)
  dsimp only [List.cons_append, List.nil_append] at hw
  have hw : Wd D A s.heap [(q0, .inr (7, [.ref q101, .int 0, .int 0, .null, .null, .int 0])), (q101, .inl (cI, 12, .inl (fun _ => 0))), (q102, .inl (cI, 12, .inl (fun _ => 0)))] H _ := hw
  refine x_putF C hnm hw fl_X7_15 ff_X7_3 0 rfl (v := .ref q102) rfl rfl (Nat.le_of_ble_eq_true rfl) (dc d_X7_init 9 rfl) (fun H locs hw => ?_)
  dsimp only [List.set_cons_succ, List.set_cons_zero] at hw
  have hw : Wd D A s.heap [(q0, .inr (7, [.ref q101, .int 0, .int 0, .ref q102, .null, .int 0])), (q101, .inl (cI, 12, .inl (fun _ => 0))), (q102, .inl (cI, 12, .inl (fun _ => 0)))] H _ := hw
  refine lv_aload_n hx hb (dc d_X7_init 10 rfl) rfl (lv_at hl 0 rfl) ?_
  refine lv_iconst (v := (3 : Int32)) hx hb (dc d_X7_init 11 rfl) (by decide) ?_
  refine x_newI C hw hA ac_int (n := (3 : Int32)) (N := 3) (by decide) (by decide) (by decide) (Nat.le_of_ble_eq_true rfl) (Nat.le_of_ble_eq_true rfl) (dc d_X7_init 12 rfl) (fun q103 H hw => ?_)
  dsimp only [List.cons_append, List.nil_append] at hw
  have hw : Wd D A s.heap [(q0, .inr (7, [.ref q101, .int 0, .int 0, .ref q102, .null, .int 0])), (q101, .inl (cI, 12, .inl (fun _ => 0))), (q102, .inl (cI, 12, .inl (fun _ => 0))), (q103, .inl (cI, 3, .inl (fun _ => 0)))] H _ := hw
  refine x_putF C hnm hw fl_X7_18 ff_X7_4 0 rfl (v := .ref q103) rfl rfl (Nat.le_of_ble_eq_true rfl) (dc d_X7_init 13 rfl) (fun H locs hw => ?_)
  dsimp only [List.set_cons_succ, List.set_cons_zero] at hw
  have hw : Wd D A s.heap [(q0, .inr (7, [.ref q101, .int 0, .int 0, .ref q102, .ref q103, .int 0])), (q101, .inl (cI, 12, .inl (fun _ => 0))), (q102, .inl (cI, 12, .inl (fun _ => 0))), (q103, .inl (cI, 3, .inl (fun _ => 0)))] H _ := hw
  exact x_vretN C hAe hQ (Nat.le_of_ble_eq_true rfl) (Nat.le_of_ble_eq_true rfl) hw ⟨q101, q102, q103, rfl⟩ (dc d_X7_init 14 rfl)
abbrev l_X8_init : List (Nat × Instr × Nat) := [(0, .aload_n 0, 1), (1, .invokespecial 3, 3), (4, .aload_n 0, 1), (5, .bipush 9, 2), (7, .newarray .int, 2), (9, .putfield 9, 3), (12, .aload_n 0, 1), (13, .bipush 9, 2), (15, .newarray .int, 2), (17, .putfield 15, 3), (20, .aload_n 0, 1), (21, .getfield 15, 3), (24, .sipush 1000, 3), (27, .invokestatic 18, 3), (30, .return_, 1)]
theorem d_X8_init : dcOk cX8_init l_X8_init = true := by decide +kernel
set_option maxHeartbeats 4000000 in
set_option maxRecDepth 100000 in
theorem n_X8_init {l : Launch} {D : va_G} {cI cC cZ : ClassId} (q0 : Nat) : Nct l yX8_init cX8_init 1 1 23 2 18 D cI cC cZ [.ref q0] [(q0, .inr (8, [.null, .null]))] (fun w => ∃ q101 q102 : Nat, w = [(q0, .inr (8, [.ref q101, .ref q102])), (q101, .inl (cI, 9, .inl (fun _ => 0))), (q102, .inl (cI, 9, .inl (filz 9 (1000 : Int32) (fun _ => 0))))]) := by
  refine Nct.of (by decide) (Nat.le_of_ble_eq_true rfl) ?_
  intro p e s m args below meth c ls A Q hAe hA hQ C hnm hl hw hz
  have hx := C.1
  have hb := C.2.1
  have hl : lv_has ls 1 [(0, .ref q0)] := hl
  refine lv_aload_n hx hb (dc d_X8_init 0 rfl) rfl (lv_at hl 0 rfl) ?_
  refine x_obj C hl.1 ml_X8_3 io_obj co_obj (Nat.le_of_ble_eq_true rfl) (Nat.le_of_ble_eq_true rfl) (dc d_X8_init 1 rfl) ?_
  refine lv_aload_n hx hb (dc d_X8_init 2 rfl) rfl (lv_at hl 0 rfl) ?_
  refine lv_bipush (v := (9 : Int32)) hx hb (dc d_X8_init 3 rfl) (by decide) ?_
  refine x_newI C hw hA ac_int (n := (9 : Int32)) (N := 9) (by decide) (by decide) (by decide) (Nat.le_of_ble_eq_true rfl) (Nat.le_of_ble_eq_true rfl) (dc d_X8_init 4 rfl) (fun q101 H hw => ?_)
  dsimp only [List.cons_append, List.nil_append] at hw
  have hw : Wd D A s.heap [(q0, .inr (8, [.null, .null])), (q101, .inl (cI, 9, .inl (fun _ => 0)))] H _ := hw
  refine x_putF C hnm hw fl_X8_9 ff_X8_0 0 rfl (v := .ref q101) rfl rfl (Nat.le_of_ble_eq_true rfl) (dc d_X8_init 5 rfl) (fun H locs hw => ?_)
  dsimp only [List.set_cons_succ, List.set_cons_zero] at hw
  have hw : Wd D A s.heap [(q0, .inr (8, [.ref q101, .null])), (q101, .inl (cI, 9, .inl (fun _ => 0)))] H _ := hw
  refine lv_aload_n hx hb (dc d_X8_init 6 rfl) rfl (lv_at hl 0 rfl) ?_
  refine lv_bipush (v := (9 : Int32)) hx hb (dc d_X8_init 7 rfl) (by decide) ?_
  refine x_newI C hw hA ac_int (n := (9 : Int32)) (N := 9) (by decide) (by decide) (by decide) (Nat.le_of_ble_eq_true rfl) (Nat.le_of_ble_eq_true rfl) (dc d_X8_init 8 rfl) (fun q102 H hw => ?_)
  dsimp only [List.cons_append, List.nil_append] at hw
  have hw : Wd D A s.heap [(q0, .inr (8, [.ref q101, .null])), (q101, .inl (cI, 9, .inl (fun _ => 0))), (q102, .inl (cI, 9, .inl (fun _ => 0)))] H _ := hw
  refine x_putF C hnm hw fl_X8_15 ff_X8_1 0 rfl (v := .ref q102) rfl rfl (Nat.le_of_ble_eq_true rfl) (dc d_X8_init 9 rfl) (fun H locs hw => ?_)
  dsimp only [List.set_cons_succ, List.set_cons_zero] at hw
  have hw : Wd D A s.heap [(q0, .inr (8, [.ref q101, .ref q102])), (q101, .inl (cI, 9, .inl (fun _ => 0))), (q102, .inl (cI, 9, .inl (fun _ => 0)))] H _ := hw
  refine lv_aload_n hx hb (dc d_X8_init 10 rfl) rfl (lv_at hl 0 rfl) ?_
  refine x_get C hw fl_X8_15 0 rfl rfl (dc d_X8_init 11 rfl) ?_
  refine lv_sipush (v := (1000 : Int32)) hx hb (dc d_X8_init 12 rfl) (by decide) ?_
  refine x_callSG C hw mb_J7_fill_53178 ms_J7_fill_53178 ml_X8_18 (k_J7_fill_53178 2000 (s_fill 9 (1000 : Int32) (fun _ => 0) 2000 (by omega) (by omega))) hl.1 rfl rfl [2] rfl (by decide) rfl (Nat.le_of_ble_eq_true rfl) (Nat.le_of_ble_eq_true rfl) (Nat.le_of_ble_eq_true rfl) (Nat.le_of_ble_eq_true rfl) (Nat.le_of_ble_eq_true rfl) (dc d_X8_init 13 rfl) (fun H locs hw => ?_)
  dsimp only [mix, List.set_cons_succ, List.set_cons_zero] at hw
  have hw : Wd D A s.heap [(q0, .inr (8, [.ref q101, .ref q102])), (q101, .inl (cI, 9, .inl (fun _ => 0))), (q102, .inl (cI, 9, .inl (filz 9 (1000 : Int32) (fun _ => 0))))] H _ := hw
  exact x_vretN C hAe hQ (Nat.le_of_ble_eq_true rfl) (Nat.le_of_ble_eq_true rfl) hw ⟨q101, q102, rfl⟩ (dc d_X8_init 14 rfl)
abbrev l_X9_init : List (Nat × Instr × Nat) := [(0, .aload_n 0, 1), (1, .invokespecial 3, 3), (4, .aload_n 0, 1), (5, .bipush 7, 2), (7, .newarray .int, 2), (9, .putfield 9, 3), (12, .aload_n 0, 1), (13, .bipush 7, 2), (15, .newarray .int, 2), (17, .putfield 15, 3), (20, .aload_n 0, 1), (21, .bipush 7, 2), (23, .newarray .int, 2), (25, .putfield 18, 3), (28, .aload_n 0, 1), (29, .bipush 7, 2), (31, .newarray .int, 2), (33, .putfield 21, 3), (36, .aload_n 0, 1), (37, .bipush 49, 2), (39, .newarray .int, 2), (41, .putfield 24, 3), (44, .aload_n 0, 1), (45, .new 27, 3), (48, .dup, 1), (49, .invokespecial 29, 3), (52, .putfield 30, 3), (55, .return_, 1)]
theorem d_X9_init : dcOk cX9_init l_X9_init = true := by decide +kernel
set_option maxHeartbeats 4000000 in
set_option maxRecDepth 100000 in
theorem n_X9_init {l : Launch} {D : va_G} {cI cC cZ : ClassId} (q0 : Nat) : Nct l yX9_init cX9_init 1 2 40 10 109 D cI cC cZ [.ref q0] [(q0, .inr (9, [.null, .null, .null, .int 0, .int 0, .int 0, .null, .null, .null]))] (fun w => ∃ q101 q102 q103 q104 q105 q106 q107 q108 q109 q110 : Nat, w = [(q0, .inr (9, [.ref q101, .ref q102, .ref q103, .int 0, .int 0, .int 0, .ref q104, .ref q105, .ref q106])), (q101, .inl (cI, 7, .inl (fun _ => 0))), (q102, .inl (cI, 7, .inl (fun _ => 0))), (q103, .inl (cI, 7, .inl (fun _ => 0))), (q104, .inl (cI, 7, .inl (fun _ => 0))), (q105, .inl (cI, 49, .inl (fun _ => 0))), (q106, .inr (6, [.ref q107, .ref q108, .ref q109, .ref q110])), (q107, .inl (cI, 8, .inl (fun _ => 0))), (q108, .inl (cI, 8, .inl (fun _ => 0))), (q109, .inl (cI, 6, .inl (fun _ => 0))), (q110, .inl (cI, 6, .inl (fun _ => 0)))]) := by
  refine Nct.of (by decide) (Nat.le_of_ble_eq_true rfl) ?_
  intro p e s m args below meth c ls A Q hAe hA hQ C hnm hl hw hz
  have hx := C.1
  have hb := C.2.1
  have hl : lv_has ls 1 [(0, .ref q0)] := hl
  refine lv_aload_n hx hb (dc d_X9_init 0 rfl) rfl (lv_at hl 0 rfl) ?_
  refine x_obj C hl.1 ml_X9_3 io_obj co_obj (Nat.le_of_ble_eq_true rfl) (Nat.le_of_ble_eq_true rfl) (dc d_X9_init 1 rfl) ?_
  refine lv_aload_n hx hb (dc d_X9_init 2 rfl) rfl (lv_at hl 0 rfl) ?_
  refine lv_bipush (v := (7 : Int32)) hx hb (dc d_X9_init 3 rfl) (by decide) ?_
  refine x_newI C hw hA ac_int (n := (7 : Int32)) (N := 7) (by decide) (by decide) (by decide) (Nat.le_of_ble_eq_true rfl) (Nat.le_of_ble_eq_true rfl) (dc d_X9_init 4 rfl) (fun q101 H hw => ?_)
  dsimp only [List.cons_append, List.nil_append] at hw
  have hw : Wd D A s.heap [(q0, .inr (9, [.null, .null, .null, .int 0, .int 0, .int 0, .null, .null, .null])), (q101, .inl (cI, 7, .inl (fun _ => 0)))] H _ := hw
  refine x_putF C hnm hw fl_X9_9 ff_X9_0 0 rfl (v := .ref q101) rfl rfl (Nat.le_of_ble_eq_true rfl) (dc d_X9_init 5 rfl) (fun H locs hw => ?_)
  dsimp only [List.set_cons_succ, List.set_cons_zero] at hw
  have hw : Wd D A s.heap [(q0, .inr (9, [.ref q101, .null, .null, .int 0, .int 0, .int 0, .null, .null, .null])), (q101, .inl (cI, 7, .inl (fun _ => 0)))] H _ := hw
  refine lv_aload_n hx hb (dc d_X9_init 6 rfl) rfl (lv_at hl 0 rfl) ?_
  refine lv_bipush (v := (7 : Int32)) hx hb (dc d_X9_init 7 rfl) (by decide) ?_
  refine x_newI C hw hA ac_int (n := (7 : Int32)) (N := 7) (by decide) (by decide) (by decide) (Nat.le_of_ble_eq_true rfl) (Nat.le_of_ble_eq_true rfl) (dc d_X9_init 8 rfl) (fun q102 H hw => ?_)
  dsimp only [List.cons_append, List.nil_append] at hw
  have hw : Wd D A s.heap [(q0, .inr (9, [.ref q101, .null, .null, .int 0, .int 0, .int 0, .null, .null, .null])), (q101, .inl (cI, 7, .inl (fun _ => 0))), (q102, .inl (cI, 7, .inl (fun _ => 0)))] H _ := hw
  refine x_putF C hnm hw fl_X9_15 ff_X9_1 0 rfl (v := .ref q102) rfl rfl (Nat.le_of_ble_eq_true rfl) (dc d_X9_init 9 rfl) (fun H locs hw => ?_)
  dsimp only [List.set_cons_succ, List.set_cons_zero] at hw
  have hw : Wd D A s.heap [(q0, .inr (9, [.ref q101, .ref q102, .null, .int 0, .int 0, .int 0, .null, .null, .null])), (q101, .inl (cI, 7, .inl (fun _ => 0))), (q102, .inl (cI, 7, .inl (fun _ => 0)))] H _ := hw
  refine lv_aload_n hx hb (dc d_X9_init 10 rfl) rfl (lv_at hl 0 rfl) ?_
  refine lv_bipush (v := (7 : Int32)) hx hb (dc d_X9_init 11 rfl) (by decide) ?_
  refine x_newI C hw hA ac_int (n := (7 : Int32)) (N := 7) (by decide) (by decide) (by decide) (Nat.le_of_ble_eq_true rfl) (Nat.le_of_ble_eq_true rfl) (dc d_X9_init 12 rfl) (fun q103 H hw => ?_)
  dsimp only [List.cons_append, List.nil_append] at hw
  have hw : Wd D A s.heap [(q0, .inr (9, [.ref q101, .ref q102, .null, .int 0, .int 0, .int 0, .null, .null, .null])), (q101, .inl (cI, 7, .inl (fun _ => 0))), (q102, .inl (cI, 7, .inl (fun _ => 0))), (q103, .inl (cI, 7, .inl (fun _ => 0)))] H _ := hw
  refine x_putF C hnm hw fl_X9_18 ff_X9_2 0 rfl (v := .ref q103) rfl rfl (Nat.le_of_ble_eq_true rfl) (dc d_X9_init 13 rfl) (fun H locs hw => ?_)
  dsimp only [List.set_cons_succ, List.set_cons_zero] at hw
  have hw : Wd D A s.heap [(q0, .inr (9, [.ref q101, .ref q102, .ref q103, .int 0, .int 0, .int 0, .null, .null, .null])), (q101, .inl (cI, 7, .inl (fun _ => 0))), (q102, .inl (cI, 7, .inl (fun _ => 0))), (q103, .inl (cI, 7, .inl (fun _ => 0)))] H _ := hw
  refine lv_aload_n hx hb (dc d_X9_init 14 rfl) rfl (lv_at hl 0 rfl) ?_
  refine lv_bipush (v := (7 : Int32)) hx hb (dc d_X9_init 15 rfl) (by decide) ?_
  refine x_newI C hw hA ac_int (n := (7 : Int32)) (N := 7) (by decide) (by decide) (by decide) (Nat.le_of_ble_eq_true rfl) (Nat.le_of_ble_eq_true rfl) (dc d_X9_init 16 rfl) (fun q104 H hw => ?_)
  dsimp only [List.cons_append, List.nil_append] at hw
  have hw : Wd D A s.heap [(q0, .inr (9, [.ref q101, .ref q102, .ref q103, .int 0, .int 0, .int 0, .null, .null, .null])), (q101, .inl (cI, 7, .inl (fun _ => 0))), (q102, .inl (cI, 7, .inl (fun _ => 0))), (q103, .inl (cI, 7, .inl (fun _ => 0))), (q104, .inl (cI, 7, .inl (fun _ => 0)))] H _ := hw
  refine x_putF C hnm hw fl_X9_21 ff_X9_6 0 rfl (v := .ref q104) rfl rfl (Nat.le_of_ble_eq_true rfl) (dc d_X9_init 17 rfl) (fun H locs hw => ?_)
  dsimp only [List.set_cons_succ, List.set_cons_zero] at hw
  have hw : Wd D A s.heap [(q0, .inr (9, [.ref q101, .ref q102, .ref q103, .int 0, .int 0, .int 0, .ref q104, .null, .null])), (q101, .inl (cI, 7, .inl (fun _ => 0))), (q102, .inl (cI, 7, .inl (fun _ => 0))), (q103, .inl (cI, 7, .inl (fun _ => 0))), (q104, .inl (cI, 7, .inl (fun _ => 0)))] H _ := hw
  refine lv_aload_n hx hb (dc d_X9_init 18 rfl) rfl (lv_at hl 0 rfl) ?_
  refine lv_bipush (v := (49 : Int32)) hx hb (dc d_X9_init 19 rfl) (by decide) ?_
  refine x_newI C hw hA ac_int (n := (49 : Int32)) (N := 49) (by decide) (by decide) (by decide) (Nat.le_of_ble_eq_true rfl) (Nat.le_of_ble_eq_true rfl) (dc d_X9_init 20 rfl) (fun q105 H hw => ?_)
  dsimp only [List.cons_append, List.nil_append] at hw
  have hw : Wd D A s.heap [(q0, .inr (9, [.ref q101, .ref q102, .ref q103, .int 0, .int 0, .int 0, .ref q104, .null, .null])), (q101, .inl (cI, 7, .inl (fun _ => 0))), (q102, .inl (cI, 7, .inl (fun _ => 0))), (q103, .inl (cI, 7, .inl (fun _ => 0))), (q104, .inl (cI, 7, .inl (fun _ => 0))), (q105, .inl (cI, 49, .inl (fun _ => 0)))] H _ := hw
  refine x_putF C hnm hw fl_X9_24 ff_X9_7 0 rfl (v := .ref q105) rfl rfl (Nat.le_of_ble_eq_true rfl) (dc d_X9_init 21 rfl) (fun H locs hw => ?_)
  dsimp only [List.set_cons_succ, List.set_cons_zero] at hw
  have hw : Wd D A s.heap [(q0, .inr (9, [.ref q101, .ref q102, .ref q103, .int 0, .int 0, .int 0, .ref q104, .ref q105, .null])), (q101, .inl (cI, 7, .inl (fun _ => 0))), (q102, .inl (cI, 7, .inl (fun _ => 0))), (q103, .inl (cI, 7, .inl (fun _ => 0))), (q104, .inl (cI, 7, .inl (fun _ => 0))), (q105, .inl (cI, 49, .inl (fun _ => 0)))] H _ := hw
  refine lv_aload_n hx hb (dc d_X9_init 22 rfl) rfl (lv_at hl 0 rfl) ?_
  refine x_newo C hw hA fn_X9_27 (Nat.le_of_ble_eq_true rfl) (Nat.le_of_ble_eq_true rfl) (dc d_X9_init 23 rfl) (fun q106 H hw => ?_)
  dsimp only [List.cons_append, List.nil_append] at hw
  have hw : Wd D A s.heap [(q0, .inr (9, [.ref q101, .ref q102, .ref q103, .int 0, .int 0, .int 0, .ref q104, .ref q105, .null])), (q101, .inl (cI, 7, .inl (fun _ => 0))), (q102, .inl (cI, 7, .inl (fun _ => 0))), (q103, .inl (cI, 7, .inl (fun _ => 0))), (q104, .inl (cI, 7, .inl (fun _ => 0))), (q105, .inl (cI, 49, .inl (fun _ => 0))), (q106, .inr (6, [.null, .null, .null, .null]))] H _ := hw
  refine lv_dup hx hb (dc d_X9_init 24 rfl) rfl ?_
  refine x_callIN (wr := [(q0, .inr (9, [.ref q101, .ref q102, .ref q103, .int 0, .int 0, .int 0, .ref q104, .ref q105, .null])), (q101, .inl (cI, 7, .inl (fun _ => 0))), (q102, .inl (cI, 7, .inl (fun _ => 0))), (q103, .inl (cI, 7, .inl (fun _ => 0))), (q104, .inl (cI, 7, .inl (fun _ => 0))), (q105, .inl (cI, 49, .inl (fun _ => 0)))]) C hw hA hz mb_X6_init im_X6_init rfl ml_X9_29 (n_X6_init q106) hl.1 rfl rfl [6] [0, 1, 2, 3, 4, 5] rfl rfl (by decide) (by decide) (by decide) (Nat.le_of_ble_eq_true rfl) (Nat.le_of_ble_eq_true rfl) (Nat.le_of_ble_eq_true rfl) (Nat.le_of_ble_eq_true rfl) (Nat.le_of_ble_eq_true rfl) (dc d_X9_init 25 rfl) (fun w1 H locs hp hw => ?_)
  obtain ⟨q107, q108, q109, q110, rfl⟩ := hp
  dsimp only [List.cons_append, List.nil_append] at hw
  have hw : Wd D A s.heap [(q0, .inr (9, [.ref q101, .ref q102, .ref q103, .int 0, .int 0, .int 0, .ref q104, .ref q105, .null])), (q101, .inl (cI, 7, .inl (fun _ => 0))), (q102, .inl (cI, 7, .inl (fun _ => 0))), (q103, .inl (cI, 7, .inl (fun _ => 0))), (q104, .inl (cI, 7, .inl (fun _ => 0))), (q105, .inl (cI, 49, .inl (fun _ => 0))), (q106, .inr (6, [.ref q107, .ref q108, .ref q109, .ref q110])), (q107, .inl (cI, 8, .inl (fun _ => 0))), (q108, .inl (cI, 8, .inl (fun _ => 0))), (q109, .inl (cI, 6, .inl (fun _ => 0))), (q110, .inl (cI, 6, .inl (fun _ => 0)))] H _ := hw
  refine x_putF C hnm hw fl_X9_30 ff_X9_8 0 rfl (v := .ref q106) rfl rfl (Nat.le_of_ble_eq_true rfl) (dc d_X9_init 26 rfl) (fun H locs hw => ?_)
  dsimp only [List.set_cons_succ, List.set_cons_zero] at hw
  have hw : Wd D A s.heap [(q0, .inr (9, [.ref q101, .ref q102, .ref q103, .int 0, .int 0, .int 0, .ref q104, .ref q105, .ref q106])), (q101, .inl (cI, 7, .inl (fun _ => 0))), (q102, .inl (cI, 7, .inl (fun _ => 0))), (q103, .inl (cI, 7, .inl (fun _ => 0))), (q104, .inl (cI, 7, .inl (fun _ => 0))), (q105, .inl (cI, 49, .inl (fun _ => 0))), (q106, .inr (6, [.ref q107, .ref q108, .ref q109, .ref q110])), (q107, .inl (cI, 8, .inl (fun _ => 0))), (q108, .inl (cI, 8, .inl (fun _ => 0))), (q109, .inl (cI, 6, .inl (fun _ => 0))), (q110, .inl (cI, 6, .inl (fun _ => 0)))] H _ := hw
  exact x_vretN C hAe hQ (Nat.le_of_ble_eq_true rfl) (Nat.le_of_ble_eq_true rfl) hw ⟨q101, q102, q103, q104, q105, q106, q107, q108, q109, q110, rfl⟩ (dc d_X9_init 27 rfl)
abbrev l_X10_init : List (Nat × Instr × Nat) := [(0, .aload_n 0, 1), (1, .invokespecial 3, 3), (4, .aload_n 0, 1), (5, .bipush 36, 2), (7, .newarray .int, 2), (9, .putfield 9, 3), (12, .aload_n 0, 1), (13, .bipush 36, 2), (15, .newarray .int, 2), (17, .putfield 15, 3), (20, .return_, 1)]
theorem d_X10_init : dcOk cX10_init l_X10_init = true := by decide +kernel
set_option maxHeartbeats 4000000 in
set_option maxRecDepth 100000 in
theorem n_X10_init {l : Launch} {D : va_G} {cI cC cZ : ClassId} (q0 : Nat) : Nct l yX10_init cX10_init 1 1 20 2 72 D cI cC cZ [.ref q0] [(q0, .inr (10, [.null, .null]))] (fun w => ∃ q101 q102 : Nat, w = [(q0, .inr (10, [.ref q101, .ref q102])), (q101, .inl (cI, 36, .inl (fun _ => 0))), (q102, .inl (cI, 36, .inl (fun _ => 0)))]) := by
  refine Nct.of (by decide) (Nat.le_of_ble_eq_true rfl) ?_
  intro p e s m args below meth c ls A Q hAe hA hQ C hnm hl hw hz
  have hx := C.1
  have hb := C.2.1
  have hl : lv_has ls 1 [(0, .ref q0)] := hl
  refine lv_aload_n hx hb (dc d_X10_init 0 rfl) rfl (lv_at hl 0 rfl) ?_
  refine x_obj C hl.1 ml_X10_3 io_obj co_obj (Nat.le_of_ble_eq_true rfl) (Nat.le_of_ble_eq_true rfl) (dc d_X10_init 1 rfl) ?_
  refine lv_aload_n hx hb (dc d_X10_init 2 rfl) rfl (lv_at hl 0 rfl) ?_
  refine lv_bipush (v := (36 : Int32)) hx hb (dc d_X10_init 3 rfl) (by decide) ?_
  refine x_newI C hw hA ac_int (n := (36 : Int32)) (N := 36) (by decide) (by decide) (by decide) (Nat.le_of_ble_eq_true rfl) (Nat.le_of_ble_eq_true rfl) (dc d_X10_init 4 rfl) (fun q101 H hw => ?_)
  dsimp only [List.cons_append, List.nil_append] at hw
  have hw : Wd D A s.heap [(q0, .inr (10, [.null, .null])), (q101, .inl (cI, 36, .inl (fun _ => 0)))] H _ := hw
  refine x_putF C hnm hw fl_X10_9 ff_X10_0 0 rfl (v := .ref q101) rfl rfl (Nat.le_of_ble_eq_true rfl) (dc d_X10_init 5 rfl) (fun H locs hw => ?_)
  dsimp only [List.set_cons_succ, List.set_cons_zero] at hw
  have hw : Wd D A s.heap [(q0, .inr (10, [.ref q101, .null])), (q101, .inl (cI, 36, .inl (fun _ => 0)))] H _ := hw
  refine lv_aload_n hx hb (dc d_X10_init 6 rfl) rfl (lv_at hl 0 rfl) ?_
  refine lv_bipush (v := (36 : Int32)) hx hb (dc d_X10_init 7 rfl) (by decide) ?_
  refine x_newI C hw hA ac_int (n := (36 : Int32)) (N := 36) (by decide) (by decide) (by decide) (Nat.le_of_ble_eq_true rfl) (Nat.le_of_ble_eq_true rfl) (dc d_X10_init 8 rfl) (fun q102 H hw => ?_)
  dsimp only [List.cons_append, List.nil_append] at hw
  have hw : Wd D A s.heap [(q0, .inr (10, [.ref q101, .null])), (q101, .inl (cI, 36, .inl (fun _ => 0))), (q102, .inl (cI, 36, .inl (fun _ => 0)))] H _ := hw
  refine x_putF C hnm hw fl_X10_15 ff_X10_1 0 rfl (v := .ref q102) rfl rfl (Nat.le_of_ble_eq_true rfl) (dc d_X10_init 9 rfl) (fun H locs hw => ?_)
  dsimp only [List.set_cons_succ, List.set_cons_zero] at hw
  have hw : Wd D A s.heap [(q0, .inr (10, [.ref q101, .ref q102])), (q101, .inl (cI, 36, .inl (fun _ => 0))), (q102, .inl (cI, 36, .inl (fun _ => 0)))] H _ := hw
  exact x_vretN C hAe hQ (Nat.le_of_ble_eq_true rfl) (Nat.le_of_ble_eq_true rfl) hw ⟨q101, q102, rfl⟩ (dc d_X10_init 10 rfl)
abbrev l_X5_init : List (Nat × Instr × Nat) := [(0, .aload_n 0, 1), (1, .invokespecial 3, 3), (4, .aload_n 0, 1), (5, .bipush 6, 2), (7, .newarray .int, 2), (9, .putfield 11, 3), (12, .aload_n 0, 1), (13, .bipush 18, 2), (15, .newarray .int, 2), (17, .putfield 15, 3), (20, .getstatic 18, 3), (23, .iconst 0, 1), (24, .aload_n 0, 1), (25, .getfield 11, 3), (28, .iconst 0, 1), (29, .bipush 6, 2), (31, .invokestatic 21, 3), (34, .iconst 1, 1), (35, .istore_n 1, 1), (36, .iload_n 1, 1), (37, .bipush 9, 2), (39, .if_icmp .gt 39, 3), (42, .aload_n 0, 1), (43, .getfield 15, 3), (46, .iconst 2, 1), (47, .iload_n 1, 1), (48, .imul, 1), (49, .iconst 2, 1), (50, .isub, 1), (51, .bipush 10, 2), (53, .iload_n 1, 1), (54, .imul, 1), (55, .iastore, 1), (56, .aload_n 0, 1), (57, .getfield 15, 3), (60, .iconst 2, 1), (61, .iload_n 1, 1), (62, .imul, 1), (63, .iconst 1, 1), (64, .isub, 1), (65, .bipush 10, 2), (67, .iload_n 1, 1), (68, .imul, 1), (69, .iconst 5, 1), (70, .iadd, 1), (71, .iastore, 1), (72, .iinc 1 1, 3), (75, .goto (-39), 3), (78, .return_, 1)]
theorem d_X5_init : dcOk cX5_init l_X5_init = true := by decide +kernel
set_option maxHeartbeats 4000000 in
set_option maxRecDepth 100000 in
theorem n_X5_init {l : Launch} {D : va_G} {cI cC cZ : ClassId} (q0 : Nat) : Nct l yX5_init cX5_init 2 1 40 2 24 D cI cC cZ [.ref q0] [(q0, .inr (5, [.null, .null]))] (fun w => ∃ q101 q102 : Nat, w = [(q0, .inr (5, [.ref q101, .ref q102])), (q101, .inl (cI, 6, .inl atF)), (q102, .inl (cI, 18, .inl nmF))]) := by
  refine Nct.of (by decide) (Nat.le_of_ble_eq_true rfl) ?_
  intro p e s m args below meth c ls A Q hAe hA hQ C hnm hl hw hz
  have hx := C.1
  have hb := C.2.1
  have hl : lv_has ls 2 [(0, .ref q0)] := hl
  refine lv_aload_n hx hb (dc d_X5_init 0 rfl) rfl (lv_at hl 0 rfl) ?_
  refine x_obj C hl.1 ml_X5_3 io_obj co_obj (Nat.le_of_ble_eq_true rfl) (Nat.le_of_ble_eq_true rfl) (dc d_X5_init 1 rfl) ?_
  refine lv_aload_n hx hb (dc d_X5_init 2 rfl) rfl (lv_at hl 0 rfl) ?_
  refine lv_bipush (v := (6 : Int32)) hx hb (dc d_X5_init 3 rfl) (by decide) ?_
  refine x_newI C hw hA ac_int (n := (6 : Int32)) (N := 6) (by decide) (by decide) (by decide) (Nat.le_of_ble_eq_true rfl) (Nat.le_of_ble_eq_true rfl) (dc d_X5_init 4 rfl) (fun q101 H hw => ?_)
  dsimp only [List.cons_append, List.nil_append] at hw
  have hw : Wd D A s.heap [(q0, .inr (5, [.null, .null])), (q101, .inl (cI, 6, .inl (fun _ => 0)))] H _ := hw
  refine x_putF C hnm hw fl_X5_11 ff_X5_0 0 rfl (v := .ref q101) rfl rfl (Nat.le_of_ble_eq_true rfl) (dc d_X5_init 5 rfl) (fun H locs hw => ?_)
  dsimp only [List.set_cons_succ, List.set_cons_zero] at hw
  have hw : Wd D A s.heap [(q0, .inr (5, [.ref q101, .null])), (q101, .inl (cI, 6, .inl (fun _ => 0)))] H _ := hw
  refine lv_aload_n hx hb (dc d_X5_init 6 rfl) rfl (lv_at hl 0 rfl) ?_
  refine lv_bipush (v := (18 : Int32)) hx hb (dc d_X5_init 7 rfl) (by decide) ?_
  refine x_newI C hw hA ac_int (n := (18 : Int32)) (N := 18) (by decide) (by decide) (by decide) (Nat.le_of_ble_eq_true rfl) (Nat.le_of_ble_eq_true rfl) (dc d_X5_init 8 rfl) (fun q102 H hw => ?_)
  dsimp only [List.cons_append, List.nil_append] at hw
  have hw : Wd D A s.heap [(q0, .inr (5, [.ref q101, .null])), (q101, .inl (cI, 6, .inl (fun _ => 0))), (q102, .inl (cI, 18, .inl (fun _ => 0)))] H _ := hw
  refine x_putF C hnm hw fl_X5_15 ff_X5_1 0 rfl (v := .ref q102) rfl rfl (Nat.le_of_ble_eq_true rfl) (dc d_X5_init 9 rfl) (fun H locs hw => ?_)
  dsimp only [List.set_cons_succ, List.set_cons_zero] at hw
  have hw : Wd D A s.heap [(q0, .inr (5, [.ref q101, .ref q102])), (q101, .inl (cI, 6, .inl (fun _ => 0))), (q102, .inl (cI, 18, .inl (fun _ => 0)))] H _ := hw
  refine x_stat C hw hz.1 sl_X5_18 (dc d_X5_init 10 rfl) (fun t3 ht3 => ?_)
  refine lv_iconst (v := (0 : Int32)) hx hb (dc d_X5_init 11 rfl) (by decide) ?_
  refine lv_aload_n hx hb (dc d_X5_init 12 rfl) rfl (lv_at hl 0 rfl) ?_
  refine x_get C hw fl_X5_11 0 rfl rfl (dc d_X5_init 13 rfl) ?_
  refine lv_iconst (v := (0 : Int32)) hx hb (dc d_X5_init 14 rfl) (by decide) ?_
  refine lv_bipush (v := (6 : Int32)) hx hb (dc d_X5_init 15 rfl) (by decide) ?_
  refine x_copyT C hw hl.1 ml_X5_21 nt_arraycopyName ms_arraycopyName in_java_lang_System ht3 1 rfl (Nat.le_of_ble_eq_true rfl) (Nat.le_of_ble_eq_true rfl) (dc d_X5_init 16 rfl) (fun H locs hw => ?_)
  dsimp only [List.set_cons_succ, List.set_cons_zero] at hw
  have hw : Wd D A s.heap [(q0, .inr (5, [.ref q101, .ref q102])), (q101, .inl (cI, 6, .inl (va_cpy atF (fun _ => 0) 0 0 6))), (q102, .inl (cI, 18, .inl (fun _ => 0)))] H _ := hw
  refine lv_iconst (v := (1 : Int32)) hx hb (dc d_X5_init 17 rfl) (by decide) ?_
  refine lv_istore_n (lv' := [(1, .int (1 : Int32)), (0, .ref q0)]) hx hb (dc d_X5_init 18 rfl) rfl hl (by decide) rfl (fun ls hl => ?_)
  refine lv_iload_n hx hb (dc d_X5_init 19 rfl) rfl (lv_at hl 0 rfl) ?_
  refine lv_bipush (v := (9 : Int32)) hx hb (dc d_X5_init 20 rfl) (by decide) ?_
  refine lv_icmp_gt (tgt := 78) hx hb (dc d_X5_init 21 rfl) (by decide) (fun c4 => absurd c4 (by decide)) (fun c4 => ?_)
  refine lv_aload_n hx hb (dc d_X5_init 22 rfl) rfl (lv_at hl 1 rfl) ?_
  refine x_get C hw fl_X5_15 0 rfl rfl (dc d_X5_init 23 rfl) ?_
  refine lv_iconst (v := (2 : Int32)) hx hb (dc d_X5_init 24 rfl) (by decide) ?_
  refine lv_iload_n hx hb (dc d_X5_init 25 rfl) rfl (lv_at hl 0 rfl) ?_
  refine lv_imul hx hb (dc d_X5_init 26 rfl) ?_
  refine W.eq (g2 := F0 m 49 ls [.int (2 : Int32), .ref q102]) rfl ?_
  refine lv_iconst (v := (2 : Int32)) hx hb (dc d_X5_init 27 rfl) (by decide) ?_
  refine lv_isub hx hb (dc d_X5_init 28 rfl) ?_
  refine W.eq (g2 := F0 m 51 ls [.int (0 : Int32), .ref q102]) rfl ?_
  refine lv_bipush (v := (10 : Int32)) hx hb (dc d_X5_init 29 rfl) (by decide) ?_
  refine lv_iload_n hx hb (dc d_X5_init 30 rfl) rfl (lv_at hl 0 rfl) ?_
  refine lv_imul hx hb (dc d_X5_init 31 rfl) ?_
  refine W.eq (g2 := F0 m 55 ls [.int (10 : Int32), .int (0 : Int32), .ref q102]) rfl ?_
  refine x_iast C hw 2 rfl (by decide) (dc d_X5_init 32 rfl) (fun H locs hw => ?_)
  dsimp only [List.set_cons_succ, List.set_cons_zero] at hw
  have hw : Wd D A s.heap [(q0, .inr (5, [.ref q101, .ref q102])), (q101, .inl (cI, 6, .inl (va_cpy atF (fun _ => 0) 0 0 6))), (q102, .inl (cI, 18, .inl (upd (fun _ => 0) (0 : Int32).toNatClampNeg (10 : Int32))))] H _ := hw
  refine lv_aload_n hx hb (dc d_X5_init 33 rfl) rfl (lv_at hl 1 rfl) ?_
  refine x_get C hw fl_X5_15 0 rfl rfl (dc d_X5_init 34 rfl) ?_
  refine lv_iconst (v := (2 : Int32)) hx hb (dc d_X5_init 35 rfl) (by decide) ?_
  refine lv_iload_n hx hb (dc d_X5_init 36 rfl) rfl (lv_at hl 0 rfl) ?_
  refine lv_imul hx hb (dc d_X5_init 37 rfl) ?_
  refine W.eq (g2 := F0 m 63 ls [.int (2 : Int32), .ref q102]) rfl ?_
  refine lv_iconst (v := (1 : Int32)) hx hb (dc d_X5_init 38 rfl) (by decide) ?_
  refine lv_isub hx hb (dc d_X5_init 39 rfl) ?_
  refine W.eq (g2 := F0 m 65 ls [.int (1 : Int32), .ref q102]) rfl ?_
  refine lv_bipush (v := (10 : Int32)) hx hb (dc d_X5_init 40 rfl) (by decide) ?_
  refine lv_iload_n hx hb (dc d_X5_init 41 rfl) rfl (lv_at hl 0 rfl) ?_
  refine lv_imul hx hb (dc d_X5_init 42 rfl) ?_
  refine W.eq (g2 := F0 m 69 ls [.int (10 : Int32), .int (1 : Int32), .ref q102]) rfl ?_
  refine lv_iconst (v := (5 : Int32)) hx hb (dc d_X5_init 43 rfl) (by decide) ?_
  refine lv_iadd hx hb (dc d_X5_init 44 rfl) ?_
  refine W.eq (g2 := F0 m 71 ls [.int (15 : Int32), .int (1 : Int32), .ref q102]) rfl ?_
  refine x_iast C hw 2 rfl (by decide) (dc d_X5_init 45 rfl) (fun H locs hw => ?_)
  dsimp only [List.set_cons_succ, List.set_cons_zero] at hw
  have hw : Wd D A s.heap [(q0, .inr (5, [.ref q101, .ref q102])), (q101, .inl (cI, 6, .inl (va_cpy atF (fun _ => 0) 0 0 6))), (q102, .inl (cI, 18, .inl (upd (upd (fun _ => 0) (0 : Int32).toNatClampNeg (10 : Int32)) (1 : Int32).toNatClampNeg (15 : Int32))))] H _ := hw
  obtain ⟨g5, eg5⟩ : ∃ z : Nat → Int32, z = (upd (upd (fun _ => 0) (0 : Int32).toNatClampNeg (10 : Int32)) (1 : Int32).toNatClampNeg (15 : Int32)) := ⟨_, rfl⟩
  rw [← eg5] at hw
  refine lv_iinc (v := (2 : Int32)) (lv' := [(1, .int (2 : Int32)), (0, .ref q0)]) hx hb (dc d_X5_init 46 rfl) hl (k := 0) rfl (by decide) (by decide) rfl (fun ls hl => ?_)
  refine lv_goto (tgt := 36) hx hb (dc d_X5_init 47 rfl) (by decide) ?_
  refine lv_iload_n hx hb (dc d_X5_init 19 rfl) rfl (lv_at hl 0 rfl) ?_
  refine lv_bipush (v := (9 : Int32)) hx hb (dc d_X5_init 20 rfl) (by decide) ?_
  refine lv_icmp_gt (tgt := 78) hx hb (dc d_X5_init 21 rfl) (by decide) (fun c6 => absurd c6 (by decide)) (fun c6 => ?_)
  refine lv_aload_n hx hb (dc d_X5_init 22 rfl) rfl (lv_at hl 1 rfl) ?_
  refine x_get C hw fl_X5_15 0 rfl rfl (dc d_X5_init 23 rfl) ?_
  refine lv_iconst (v := (2 : Int32)) hx hb (dc d_X5_init 24 rfl) (by decide) ?_
  refine lv_iload_n hx hb (dc d_X5_init 25 rfl) rfl (lv_at hl 0 rfl) ?_
  refine lv_imul hx hb (dc d_X5_init 26 rfl) ?_
  refine W.eq (g2 := F0 m 49 ls [.int (4 : Int32), .ref q102]) rfl ?_
  refine lv_iconst (v := (2 : Int32)) hx hb (dc d_X5_init 27 rfl) (by decide) ?_
  refine lv_isub hx hb (dc d_X5_init 28 rfl) ?_
  refine W.eq (g2 := F0 m 51 ls [.int (2 : Int32), .ref q102]) rfl ?_
  refine lv_bipush (v := (10 : Int32)) hx hb (dc d_X5_init 29 rfl) (by decide) ?_
  refine lv_iload_n hx hb (dc d_X5_init 30 rfl) rfl (lv_at hl 0 rfl) ?_
  refine lv_imul hx hb (dc d_X5_init 31 rfl) ?_
  refine W.eq (g2 := F0 m 55 ls [.int (20 : Int32), .int (2 : Int32), .ref q102]) rfl ?_
  refine x_iast C hw 2 rfl (by decide) (dc d_X5_init 32 rfl) (fun H locs hw => ?_)
  dsimp only [List.set_cons_succ, List.set_cons_zero] at hw
  have hw : Wd D A s.heap [(q0, .inr (5, [.ref q101, .ref q102])), (q101, .inl (cI, 6, .inl (va_cpy atF (fun _ => 0) 0 0 6))), (q102, .inl (cI, 18, .inl (upd g5 (2 : Int32).toNatClampNeg (20 : Int32))))] H _ := hw
  refine lv_aload_n hx hb (dc d_X5_init 33 rfl) rfl (lv_at hl 1 rfl) ?_
  refine x_get C hw fl_X5_15 0 rfl rfl (dc d_X5_init 34 rfl) ?_
  refine lv_iconst (v := (2 : Int32)) hx hb (dc d_X5_init 35 rfl) (by decide) ?_
  refine lv_iload_n hx hb (dc d_X5_init 36 rfl) rfl (lv_at hl 0 rfl) ?_
  refine lv_imul hx hb (dc d_X5_init 37 rfl) ?_
  refine W.eq (g2 := F0 m 63 ls [.int (4 : Int32), .ref q102]) rfl ?_
  refine lv_iconst (v := (1 : Int32)) hx hb (dc d_X5_init 38 rfl) (by decide) ?_
  refine lv_isub hx hb (dc d_X5_init 39 rfl) ?_
  refine W.eq (g2 := F0 m 65 ls [.int (3 : Int32), .ref q102]) rfl ?_
  refine lv_bipush (v := (10 : Int32)) hx hb (dc d_X5_init 40 rfl) (by decide) ?_
  refine lv_iload_n hx hb (dc d_X5_init 41 rfl) rfl (lv_at hl 0 rfl) ?_
  refine lv_imul hx hb (dc d_X5_init 42 rfl) ?_
  refine W.eq (g2 := F0 m 69 ls [.int (20 : Int32), .int (3 : Int32), .ref q102]) rfl ?_
  refine lv_iconst (v := (5 : Int32)) hx hb (dc d_X5_init 43 rfl) (by decide) ?_
  refine lv_iadd hx hb (dc d_X5_init 44 rfl) ?_
  refine W.eq (g2 := F0 m 71 ls [.int (25 : Int32), .int (3 : Int32), .ref q102]) rfl ?_
  refine x_iast C hw 2 rfl (by decide) (dc d_X5_init 45 rfl) (fun H locs hw => ?_)
  dsimp only [List.set_cons_succ, List.set_cons_zero] at hw
  have hw : Wd D A s.heap [(q0, .inr (5, [.ref q101, .ref q102])), (q101, .inl (cI, 6, .inl (va_cpy atF (fun _ => 0) 0 0 6))), (q102, .inl (cI, 18, .inl (upd (upd g5 (2 : Int32).toNatClampNeg (20 : Int32)) (3 : Int32).toNatClampNeg (25 : Int32))))] H _ := hw
  obtain ⟨g7, eg7⟩ : ∃ z : Nat → Int32, z = (upd (upd g5 (2 : Int32).toNatClampNeg (20 : Int32)) (3 : Int32).toNatClampNeg (25 : Int32)) := ⟨_, rfl⟩
  rw [← eg7] at hw
  refine lv_iinc (v := (3 : Int32)) (lv' := [(1, .int (3 : Int32)), (0, .ref q0)]) hx hb (dc d_X5_init 46 rfl) hl (k := 0) rfl (by decide) (by decide) rfl (fun ls hl => ?_)
  refine lv_goto (tgt := 36) hx hb (dc d_X5_init 47 rfl) (by decide) ?_
  refine lv_iload_n hx hb (dc d_X5_init 19 rfl) rfl (lv_at hl 0 rfl) ?_
  refine lv_bipush (v := (9 : Int32)) hx hb (dc d_X5_init 20 rfl) (by decide) ?_
  refine lv_icmp_gt (tgt := 78) hx hb (dc d_X5_init 21 rfl) (by decide) (fun c8 => absurd c8 (by decide)) (fun c8 => ?_)
  refine lv_aload_n hx hb (dc d_X5_init 22 rfl) rfl (lv_at hl 1 rfl) ?_
  refine x_get C hw fl_X5_15 0 rfl rfl (dc d_X5_init 23 rfl) ?_
  refine lv_iconst (v := (2 : Int32)) hx hb (dc d_X5_init 24 rfl) (by decide) ?_
  refine lv_iload_n hx hb (dc d_X5_init 25 rfl) rfl (lv_at hl 0 rfl) ?_
  refine lv_imul hx hb (dc d_X5_init 26 rfl) ?_
  refine W.eq (g2 := F0 m 49 ls [.int (6 : Int32), .ref q102]) rfl ?_
  refine lv_iconst (v := (2 : Int32)) hx hb (dc d_X5_init 27 rfl) (by decide) ?_
  refine lv_isub hx hb (dc d_X5_init 28 rfl) ?_
  refine W.eq (g2 := F0 m 51 ls [.int (4 : Int32), .ref q102]) rfl ?_
  refine lv_bipush (v := (10 : Int32)) hx hb (dc d_X5_init 29 rfl) (by decide) ?_
  refine lv_iload_n hx hb (dc d_X5_init 30 rfl) rfl (lv_at hl 0 rfl) ?_
  refine lv_imul hx hb (dc d_X5_init 31 rfl) ?_
  refine W.eq (g2 := F0 m 55 ls [.int (30 : Int32), .int (4 : Int32), .ref q102]) rfl ?_
  refine x_iast C hw 2 rfl (by decide) (dc d_X5_init 32 rfl) (fun H locs hw => ?_)
  dsimp only [List.set_cons_succ, List.set_cons_zero] at hw
  have hw : Wd D A s.heap [(q0, .inr (5, [.ref q101, .ref q102])), (q101, .inl (cI, 6, .inl (va_cpy atF (fun _ => 0) 0 0 6))), (q102, .inl (cI, 18, .inl (upd g7 (4 : Int32).toNatClampNeg (30 : Int32))))] H _ := hw
  refine lv_aload_n hx hb (dc d_X5_init 33 rfl) rfl (lv_at hl 1 rfl) ?_
  refine x_get C hw fl_X5_15 0 rfl rfl (dc d_X5_init 34 rfl) ?_
  refine lv_iconst (v := (2 : Int32)) hx hb (dc d_X5_init 35 rfl) (by decide) ?_
  refine lv_iload_n hx hb (dc d_X5_init 36 rfl) rfl (lv_at hl 0 rfl) ?_
  refine lv_imul hx hb (dc d_X5_init 37 rfl) ?_
  refine W.eq (g2 := F0 m 63 ls [.int (6 : Int32), .ref q102]) rfl ?_
  refine lv_iconst (v := (1 : Int32)) hx hb (dc d_X5_init 38 rfl) (by decide) ?_
  refine lv_isub hx hb (dc d_X5_init 39 rfl) ?_
  refine W.eq (g2 := F0 m 65 ls [.int (5 : Int32), .ref q102]) rfl ?_
  refine lv_bipush (v := (10 : Int32)) hx hb (dc d_X5_init 40 rfl) (by decide) ?_
  refine lv_iload_n hx hb (dc d_X5_init 41 rfl) rfl (lv_at hl 0 rfl) ?_
  refine lv_imul hx hb (dc d_X5_init 42 rfl) ?_
  refine W.eq (g2 := F0 m 69 ls [.int (30 : Int32), .int (5 : Int32), .ref q102]) rfl ?_
  refine lv_iconst (v := (5 : Int32)) hx hb (dc d_X5_init 43 rfl) (by decide) ?_
  refine lv_iadd hx hb (dc d_X5_init 44 rfl) ?_
  refine W.eq (g2 := F0 m 71 ls [.int (35 : Int32), .int (5 : Int32), .ref q102]) rfl ?_
  refine x_iast C hw 2 rfl (by decide) (dc d_X5_init 45 rfl) (fun H locs hw => ?_)
  dsimp only [List.set_cons_succ, List.set_cons_zero] at hw
  have hw : Wd D A s.heap [(q0, .inr (5, [.ref q101, .ref q102])), (q101, .inl (cI, 6, .inl (va_cpy atF (fun _ => 0) 0 0 6))), (q102, .inl (cI, 18, .inl (upd (upd g7 (4 : Int32).toNatClampNeg (30 : Int32)) (5 : Int32).toNatClampNeg (35 : Int32))))] H _ := hw
  obtain ⟨g9, eg9⟩ : ∃ z : Nat → Int32, z = (upd (upd g7 (4 : Int32).toNatClampNeg (30 : Int32)) (5 : Int32).toNatClampNeg (35 : Int32)) := ⟨_, rfl⟩
  rw [← eg9] at hw
  refine lv_iinc (v := (4 : Int32)) (lv' := [(1, .int (4 : Int32)), (0, .ref q0)]) hx hb (dc d_X5_init 46 rfl) hl (k := 0) rfl (by decide) (by decide) rfl (fun ls hl => ?_)
  refine lv_goto (tgt := 36) hx hb (dc d_X5_init 47 rfl) (by decide) ?_
  refine lv_iload_n hx hb (dc d_X5_init 19 rfl) rfl (lv_at hl 0 rfl) ?_
  refine lv_bipush (v := (9 : Int32)) hx hb (dc d_X5_init 20 rfl) (by decide) ?_
  refine lv_icmp_gt (tgt := 78) hx hb (dc d_X5_init 21 rfl) (by decide) (fun c10 => absurd c10 (by decide)) (fun c10 => ?_)
  refine lv_aload_n hx hb (dc d_X5_init 22 rfl) rfl (lv_at hl 1 rfl) ?_
  refine x_get C hw fl_X5_15 0 rfl rfl (dc d_X5_init 23 rfl) ?_
  refine lv_iconst (v := (2 : Int32)) hx hb (dc d_X5_init 24 rfl) (by decide) ?_
  refine lv_iload_n hx hb (dc d_X5_init 25 rfl) rfl (lv_at hl 0 rfl) ?_
  refine lv_imul hx hb (dc d_X5_init 26 rfl) ?_
  refine W.eq (g2 := F0 m 49 ls [.int (8 : Int32), .ref q102]) rfl ?_
  refine lv_iconst (v := (2 : Int32)) hx hb (dc d_X5_init 27 rfl) (by decide) ?_
  refine lv_isub hx hb (dc d_X5_init 28 rfl) ?_
  refine W.eq (g2 := F0 m 51 ls [.int (6 : Int32), .ref q102]) rfl ?_
  refine lv_bipush (v := (10 : Int32)) hx hb (dc d_X5_init 29 rfl) (by decide) ?_
  refine lv_iload_n hx hb (dc d_X5_init 30 rfl) rfl (lv_at hl 0 rfl) ?_
  refine lv_imul hx hb (dc d_X5_init 31 rfl) ?_
  refine W.eq (g2 := F0 m 55 ls [.int (40 : Int32), .int (6 : Int32), .ref q102]) rfl ?_
  refine x_iast C hw 2 rfl (by decide) (dc d_X5_init 32 rfl) (fun H locs hw => ?_)
  dsimp only [List.set_cons_succ, List.set_cons_zero] at hw
  have hw : Wd D A s.heap [(q0, .inr (5, [.ref q101, .ref q102])), (q101, .inl (cI, 6, .inl (va_cpy atF (fun _ => 0) 0 0 6))), (q102, .inl (cI, 18, .inl (upd g9 (6 : Int32).toNatClampNeg (40 : Int32))))] H _ := hw
  refine lv_aload_n hx hb (dc d_X5_init 33 rfl) rfl (lv_at hl 1 rfl) ?_
  refine x_get C hw fl_X5_15 0 rfl rfl (dc d_X5_init 34 rfl) ?_
  refine lv_iconst (v := (2 : Int32)) hx hb (dc d_X5_init 35 rfl) (by decide) ?_
  refine lv_iload_n hx hb (dc d_X5_init 36 rfl) rfl (lv_at hl 0 rfl) ?_
  refine lv_imul hx hb (dc d_X5_init 37 rfl) ?_
  refine W.eq (g2 := F0 m 63 ls [.int (8 : Int32), .ref q102]) rfl ?_
  refine lv_iconst (v := (1 : Int32)) hx hb (dc d_X5_init 38 rfl) (by decide) ?_
  refine lv_isub hx hb (dc d_X5_init 39 rfl) ?_
  refine W.eq (g2 := F0 m 65 ls [.int (7 : Int32), .ref q102]) rfl ?_
  refine lv_bipush (v := (10 : Int32)) hx hb (dc d_X5_init 40 rfl) (by decide) ?_
  refine lv_iload_n hx hb (dc d_X5_init 41 rfl) rfl (lv_at hl 0 rfl) ?_
  refine lv_imul hx hb (dc d_X5_init 42 rfl) ?_
  refine W.eq (g2 := F0 m 69 ls [.int (40 : Int32), .int (7 : Int32), .ref q102]) rfl ?_
  refine lv_iconst (v := (5 : Int32)) hx hb (dc d_X5_init 43 rfl) (by decide) ?_
  refine lv_iadd hx hb (dc d_X5_init 44 rfl) ?_
  refine W.eq (g2 := F0 m 71 ls [.int (45 : Int32), .int (7 : Int32), .ref q102]) rfl ?_
  refine x_iast C hw 2 rfl (by decide) (dc d_X5_init 45 rfl) (fun H locs hw => ?_)
  dsimp only [List.set_cons_succ, List.set_cons_zero] at hw
  have hw : Wd D A s.heap [(q0, .inr (5, [.ref q101, .ref q102])), (q101, .inl (cI, 6, .inl (va_cpy atF (fun _ => 0) 0 0 6))), (q102, .inl (cI, 18, .inl (upd (upd g9 (6 : Int32).toNatClampNeg (40 : Int32)) (7 : Int32).toNatClampNeg (45 : Int32))))] H _ := hw
  obtain ⟨g11, eg11⟩ : ∃ z : Nat → Int32, z = (upd (upd g9 (6 : Int32).toNatClampNeg (40 : Int32)) (7 : Int32).toNatClampNeg (45 : Int32)) := ⟨_, rfl⟩
  rw [← eg11] at hw
  refine lv_iinc (v := (5 : Int32)) (lv' := [(1, .int (5 : Int32)), (0, .ref q0)]) hx hb (dc d_X5_init 46 rfl) hl (k := 0) rfl (by decide) (by decide) rfl (fun ls hl => ?_)
  refine lv_goto (tgt := 36) hx hb (dc d_X5_init 47 rfl) (by decide) ?_
  refine lv_iload_n hx hb (dc d_X5_init 19 rfl) rfl (lv_at hl 0 rfl) ?_
  refine lv_bipush (v := (9 : Int32)) hx hb (dc d_X5_init 20 rfl) (by decide) ?_
  refine lv_icmp_gt (tgt := 78) hx hb (dc d_X5_init 21 rfl) (by decide) (fun c12 => absurd c12 (by decide)) (fun c12 => ?_)
  refine lv_aload_n hx hb (dc d_X5_init 22 rfl) rfl (lv_at hl 1 rfl) ?_
  refine x_get C hw fl_X5_15 0 rfl rfl (dc d_X5_init 23 rfl) ?_
  refine lv_iconst (v := (2 : Int32)) hx hb (dc d_X5_init 24 rfl) (by decide) ?_
  refine lv_iload_n hx hb (dc d_X5_init 25 rfl) rfl (lv_at hl 0 rfl) ?_
  refine lv_imul hx hb (dc d_X5_init 26 rfl) ?_
  refine W.eq (g2 := F0 m 49 ls [.int (10 : Int32), .ref q102]) rfl ?_
  refine lv_iconst (v := (2 : Int32)) hx hb (dc d_X5_init 27 rfl) (by decide) ?_
  refine lv_isub hx hb (dc d_X5_init 28 rfl) ?_
  refine W.eq (g2 := F0 m 51 ls [.int (8 : Int32), .ref q102]) rfl ?_
  refine lv_bipush (v := (10 : Int32)) hx hb (dc d_X5_init 29 rfl) (by decide) ?_
  refine lv_iload_n hx hb (dc d_X5_init 30 rfl) rfl (lv_at hl 0 rfl) ?_
  refine lv_imul hx hb (dc d_X5_init 31 rfl) ?_
  refine W.eq (g2 := F0 m 55 ls [.int (50 : Int32), .int (8 : Int32), .ref q102]) rfl ?_
  refine x_iast C hw 2 rfl (by decide) (dc d_X5_init 32 rfl) (fun H locs hw => ?_)
  dsimp only [List.set_cons_succ, List.set_cons_zero] at hw
  have hw : Wd D A s.heap [(q0, .inr (5, [.ref q101, .ref q102])), (q101, .inl (cI, 6, .inl (va_cpy atF (fun _ => 0) 0 0 6))), (q102, .inl (cI, 18, .inl (upd g11 (8 : Int32).toNatClampNeg (50 : Int32))))] H _ := hw
  refine lv_aload_n hx hb (dc d_X5_init 33 rfl) rfl (lv_at hl 1 rfl) ?_
  refine x_get C hw fl_X5_15 0 rfl rfl (dc d_X5_init 34 rfl) ?_
  refine lv_iconst (v := (2 : Int32)) hx hb (dc d_X5_init 35 rfl) (by decide) ?_
  refine lv_iload_n hx hb (dc d_X5_init 36 rfl) rfl (lv_at hl 0 rfl) ?_
  refine lv_imul hx hb (dc d_X5_init 37 rfl) ?_
  refine W.eq (g2 := F0 m 63 ls [.int (10 : Int32), .ref q102]) rfl ?_
  refine lv_iconst (v := (1 : Int32)) hx hb (dc d_X5_init 38 rfl) (by decide) ?_
  refine lv_isub hx hb (dc d_X5_init 39 rfl) ?_
  refine W.eq (g2 := F0 m 65 ls [.int (9 : Int32), .ref q102]) rfl ?_
  refine lv_bipush (v := (10 : Int32)) hx hb (dc d_X5_init 40 rfl) (by decide) ?_
  refine lv_iload_n hx hb (dc d_X5_init 41 rfl) rfl (lv_at hl 0 rfl) ?_
  refine lv_imul hx hb (dc d_X5_init 42 rfl) ?_
  refine W.eq (g2 := F0 m 69 ls [.int (50 : Int32), .int (9 : Int32), .ref q102]) rfl ?_
  refine lv_iconst (v := (5 : Int32)) hx hb (dc d_X5_init 43 rfl) (by decide) ?_
  refine lv_iadd hx hb (dc d_X5_init 44 rfl) ?_
  refine W.eq (g2 := F0 m 71 ls [.int (55 : Int32), .int (9 : Int32), .ref q102]) rfl ?_
  refine x_iast C hw 2 rfl (by decide) (dc d_X5_init 45 rfl) (fun H locs hw => ?_)
  dsimp only [List.set_cons_succ, List.set_cons_zero] at hw
  have hw : Wd D A s.heap [(q0, .inr (5, [.ref q101, .ref q102])), (q101, .inl (cI, 6, .inl (va_cpy atF (fun _ => 0) 0 0 6))), (q102, .inl (cI, 18, .inl (upd (upd g11 (8 : Int32).toNatClampNeg (50 : Int32)) (9 : Int32).toNatClampNeg (55 : Int32))))] H _ := hw
  obtain ⟨g13, eg13⟩ : ∃ z : Nat → Int32, z = (upd (upd g11 (8 : Int32).toNatClampNeg (50 : Int32)) (9 : Int32).toNatClampNeg (55 : Int32)) := ⟨_, rfl⟩
  rw [← eg13] at hw
  refine lv_iinc (v := (6 : Int32)) (lv' := [(1, .int (6 : Int32)), (0, .ref q0)]) hx hb (dc d_X5_init 46 rfl) hl (k := 0) rfl (by decide) (by decide) rfl (fun ls hl => ?_)
  refine lv_goto (tgt := 36) hx hb (dc d_X5_init 47 rfl) (by decide) ?_
  refine lv_iload_n hx hb (dc d_X5_init 19 rfl) rfl (lv_at hl 0 rfl) ?_
  refine lv_bipush (v := (9 : Int32)) hx hb (dc d_X5_init 20 rfl) (by decide) ?_
  refine lv_icmp_gt (tgt := 78) hx hb (dc d_X5_init 21 rfl) (by decide) (fun c14 => absurd c14 (by decide)) (fun c14 => ?_)
  refine lv_aload_n hx hb (dc d_X5_init 22 rfl) rfl (lv_at hl 1 rfl) ?_
  refine x_get C hw fl_X5_15 0 rfl rfl (dc d_X5_init 23 rfl) ?_
  refine lv_iconst (v := (2 : Int32)) hx hb (dc d_X5_init 24 rfl) (by decide) ?_
  refine lv_iload_n hx hb (dc d_X5_init 25 rfl) rfl (lv_at hl 0 rfl) ?_
  refine lv_imul hx hb (dc d_X5_init 26 rfl) ?_
  refine W.eq (g2 := F0 m 49 ls [.int (12 : Int32), .ref q102]) rfl ?_
  refine lv_iconst (v := (2 : Int32)) hx hb (dc d_X5_init 27 rfl) (by decide) ?_
  refine lv_isub hx hb (dc d_X5_init 28 rfl) ?_
  refine W.eq (g2 := F0 m 51 ls [.int (10 : Int32), .ref q102]) rfl ?_
  refine lv_bipush (v := (10 : Int32)) hx hb (dc d_X5_init 29 rfl) (by decide) ?_
  refine lv_iload_n hx hb (dc d_X5_init 30 rfl) rfl (lv_at hl 0 rfl) ?_
  refine lv_imul hx hb (dc d_X5_init 31 rfl) ?_
  refine W.eq (g2 := F0 m 55 ls [.int (60 : Int32), .int (10 : Int32), .ref q102]) rfl ?_
  refine x_iast C hw 2 rfl (by decide) (dc d_X5_init 32 rfl) (fun H locs hw => ?_)
  dsimp only [List.set_cons_succ, List.set_cons_zero] at hw
  have hw : Wd D A s.heap [(q0, .inr (5, [.ref q101, .ref q102])), (q101, .inl (cI, 6, .inl (va_cpy atF (fun _ => 0) 0 0 6))), (q102, .inl (cI, 18, .inl (upd g13 (10 : Int32).toNatClampNeg (60 : Int32))))] H _ := hw
  refine lv_aload_n hx hb (dc d_X5_init 33 rfl) rfl (lv_at hl 1 rfl) ?_
  refine x_get C hw fl_X5_15 0 rfl rfl (dc d_X5_init 34 rfl) ?_
  refine lv_iconst (v := (2 : Int32)) hx hb (dc d_X5_init 35 rfl) (by decide) ?_
  refine lv_iload_n hx hb (dc d_X5_init 36 rfl) rfl (lv_at hl 0 rfl) ?_
  refine lv_imul hx hb (dc d_X5_init 37 rfl) ?_
  refine W.eq (g2 := F0 m 63 ls [.int (12 : Int32), .ref q102]) rfl ?_
  refine lv_iconst (v := (1 : Int32)) hx hb (dc d_X5_init 38 rfl) (by decide) ?_
  refine lv_isub hx hb (dc d_X5_init 39 rfl) ?_
  refine W.eq (g2 := F0 m 65 ls [.int (11 : Int32), .ref q102]) rfl ?_
  refine lv_bipush (v := (10 : Int32)) hx hb (dc d_X5_init 40 rfl) (by decide) ?_
  refine lv_iload_n hx hb (dc d_X5_init 41 rfl) rfl (lv_at hl 0 rfl) ?_
  refine lv_imul hx hb (dc d_X5_init 42 rfl) ?_
  refine W.eq (g2 := F0 m 69 ls [.int (60 : Int32), .int (11 : Int32), .ref q102]) rfl ?_
  refine lv_iconst (v := (5 : Int32)) hx hb (dc d_X5_init 43 rfl) (by decide) ?_
  refine lv_iadd hx hb (dc d_X5_init 44 rfl) ?_
  refine W.eq (g2 := F0 m 71 ls [.int (65 : Int32), .int (11 : Int32), .ref q102]) rfl ?_
  refine x_iast C hw 2 rfl (by decide) (dc d_X5_init 45 rfl) (fun H locs hw => ?_)
  dsimp only [List.set_cons_succ, List.set_cons_zero] at hw
  have hw : Wd D A s.heap [(q0, .inr (5, [.ref q101, .ref q102])), (q101, .inl (cI, 6, .inl (va_cpy atF (fun _ => 0) 0 0 6))), (q102, .inl (cI, 18, .inl (upd (upd g13 (10 : Int32).toNatClampNeg (60 : Int32)) (11 : Int32).toNatClampNeg (65 : Int32))))] H _ := hw
  obtain ⟨g15, eg15⟩ : ∃ z : Nat → Int32, z = (upd (upd g13 (10 : Int32).toNatClampNeg (60 : Int32)) (11 : Int32).toNatClampNeg (65 : Int32)) := ⟨_, rfl⟩
  rw [← eg15] at hw
  refine lv_iinc (v := (7 : Int32)) (lv' := [(1, .int (7 : Int32)), (0, .ref q0)]) hx hb (dc d_X5_init 46 rfl) hl (k := 0) rfl (by decide) (by decide) rfl (fun ls hl => ?_)
  refine lv_goto (tgt := 36) hx hb (dc d_X5_init 47 rfl) (by decide) ?_
  refine lv_iload_n hx hb (dc d_X5_init 19 rfl) rfl (lv_at hl 0 rfl) ?_
  refine lv_bipush (v := (9 : Int32)) hx hb (dc d_X5_init 20 rfl) (by decide) ?_
  refine lv_icmp_gt (tgt := 78) hx hb (dc d_X5_init 21 rfl) (by decide) (fun c16 => absurd c16 (by decide)) (fun c16 => ?_)
  refine lv_aload_n hx hb (dc d_X5_init 22 rfl) rfl (lv_at hl 1 rfl) ?_
  refine x_get C hw fl_X5_15 0 rfl rfl (dc d_X5_init 23 rfl) ?_
  refine lv_iconst (v := (2 : Int32)) hx hb (dc d_X5_init 24 rfl) (by decide) ?_
  refine lv_iload_n hx hb (dc d_X5_init 25 rfl) rfl (lv_at hl 0 rfl) ?_
  refine lv_imul hx hb (dc d_X5_init 26 rfl) ?_
  refine W.eq (g2 := F0 m 49 ls [.int (14 : Int32), .ref q102]) rfl ?_
  refine lv_iconst (v := (2 : Int32)) hx hb (dc d_X5_init 27 rfl) (by decide) ?_
  refine lv_isub hx hb (dc d_X5_init 28 rfl) ?_
  refine W.eq (g2 := F0 m 51 ls [.int (12 : Int32), .ref q102]) rfl ?_
  refine lv_bipush (v := (10 : Int32)) hx hb (dc d_X5_init 29 rfl) (by decide) ?_
  refine lv_iload_n hx hb (dc d_X5_init 30 rfl) rfl (lv_at hl 0 rfl) ?_
  refine lv_imul hx hb (dc d_X5_init 31 rfl) ?_
  refine W.eq (g2 := F0 m 55 ls [.int (70 : Int32), .int (12 : Int32), .ref q102]) rfl ?_
  refine x_iast C hw 2 rfl (by decide) (dc d_X5_init 32 rfl) (fun H locs hw => ?_)
  dsimp only [List.set_cons_succ, List.set_cons_zero] at hw
  have hw : Wd D A s.heap [(q0, .inr (5, [.ref q101, .ref q102])), (q101, .inl (cI, 6, .inl (va_cpy atF (fun _ => 0) 0 0 6))), (q102, .inl (cI, 18, .inl (upd g15 (12 : Int32).toNatClampNeg (70 : Int32))))] H _ := hw
  refine lv_aload_n hx hb (dc d_X5_init 33 rfl) rfl (lv_at hl 1 rfl) ?_
  refine x_get C hw fl_X5_15 0 rfl rfl (dc d_X5_init 34 rfl) ?_
  refine lv_iconst (v := (2 : Int32)) hx hb (dc d_X5_init 35 rfl) (by decide) ?_
  refine lv_iload_n hx hb (dc d_X5_init 36 rfl) rfl (lv_at hl 0 rfl) ?_
  refine lv_imul hx hb (dc d_X5_init 37 rfl) ?_
  refine W.eq (g2 := F0 m 63 ls [.int (14 : Int32), .ref q102]) rfl ?_
  refine lv_iconst (v := (1 : Int32)) hx hb (dc d_X5_init 38 rfl) (by decide) ?_
  refine lv_isub hx hb (dc d_X5_init 39 rfl) ?_
  refine W.eq (g2 := F0 m 65 ls [.int (13 : Int32), .ref q102]) rfl ?_
  refine lv_bipush (v := (10 : Int32)) hx hb (dc d_X5_init 40 rfl) (by decide) ?_
  refine lv_iload_n hx hb (dc d_X5_init 41 rfl) rfl (lv_at hl 0 rfl) ?_
  refine lv_imul hx hb (dc d_X5_init 42 rfl) ?_
  refine W.eq (g2 := F0 m 69 ls [.int (70 : Int32), .int (13 : Int32), .ref q102]) rfl ?_
  refine lv_iconst (v := (5 : Int32)) hx hb (dc d_X5_init 43 rfl) (by decide) ?_
  refine lv_iadd hx hb (dc d_X5_init 44 rfl) ?_
  refine W.eq (g2 := F0 m 71 ls [.int (75 : Int32), .int (13 : Int32), .ref q102]) rfl ?_
  refine x_iast C hw 2 rfl (by decide) (dc d_X5_init 45 rfl) (fun H locs hw => ?_)
  dsimp only [List.set_cons_succ, List.set_cons_zero] at hw
  have hw : Wd D A s.heap [(q0, .inr (5, [.ref q101, .ref q102])), (q101, .inl (cI, 6, .inl (va_cpy atF (fun _ => 0) 0 0 6))), (q102, .inl (cI, 18, .inl (upd (upd g15 (12 : Int32).toNatClampNeg (70 : Int32)) (13 : Int32).toNatClampNeg (75 : Int32))))] H _ := hw
  obtain ⟨g17, eg17⟩ : ∃ z : Nat → Int32, z = (upd (upd g15 (12 : Int32).toNatClampNeg (70 : Int32)) (13 : Int32).toNatClampNeg (75 : Int32)) := ⟨_, rfl⟩
  rw [← eg17] at hw
  refine lv_iinc (v := (8 : Int32)) (lv' := [(1, .int (8 : Int32)), (0, .ref q0)]) hx hb (dc d_X5_init 46 rfl) hl (k := 0) rfl (by decide) (by decide) rfl (fun ls hl => ?_)
  refine lv_goto (tgt := 36) hx hb (dc d_X5_init 47 rfl) (by decide) ?_
  refine lv_iload_n hx hb (dc d_X5_init 19 rfl) rfl (lv_at hl 0 rfl) ?_
  refine lv_bipush (v := (9 : Int32)) hx hb (dc d_X5_init 20 rfl) (by decide) ?_
  refine lv_icmp_gt (tgt := 78) hx hb (dc d_X5_init 21 rfl) (by decide) (fun c18 => absurd c18 (by decide)) (fun c18 => ?_)
  refine lv_aload_n hx hb (dc d_X5_init 22 rfl) rfl (lv_at hl 1 rfl) ?_
  refine x_get C hw fl_X5_15 0 rfl rfl (dc d_X5_init 23 rfl) ?_
  refine lv_iconst (v := (2 : Int32)) hx hb (dc d_X5_init 24 rfl) (by decide) ?_
  refine lv_iload_n hx hb (dc d_X5_init 25 rfl) rfl (lv_at hl 0 rfl) ?_
  refine lv_imul hx hb (dc d_X5_init 26 rfl) ?_
  refine W.eq (g2 := F0 m 49 ls [.int (16 : Int32), .ref q102]) rfl ?_
  refine lv_iconst (v := (2 : Int32)) hx hb (dc d_X5_init 27 rfl) (by decide) ?_
  refine lv_isub hx hb (dc d_X5_init 28 rfl) ?_
  refine W.eq (g2 := F0 m 51 ls [.int (14 : Int32), .ref q102]) rfl ?_
  refine lv_bipush (v := (10 : Int32)) hx hb (dc d_X5_init 29 rfl) (by decide) ?_
  refine lv_iload_n hx hb (dc d_X5_init 30 rfl) rfl (lv_at hl 0 rfl) ?_
  refine lv_imul hx hb (dc d_X5_init 31 rfl) ?_
  refine W.eq (g2 := F0 m 55 ls [.int (80 : Int32), .int (14 : Int32), .ref q102]) rfl ?_
  refine x_iast C hw 2 rfl (by decide) (dc d_X5_init 32 rfl) (fun H locs hw => ?_)
  dsimp only [List.set_cons_succ, List.set_cons_zero] at hw
  have hw : Wd D A s.heap [(q0, .inr (5, [.ref q101, .ref q102])), (q101, .inl (cI, 6, .inl (va_cpy atF (fun _ => 0) 0 0 6))), (q102, .inl (cI, 18, .inl (upd g17 (14 : Int32).toNatClampNeg (80 : Int32))))] H _ := hw
  refine lv_aload_n hx hb (dc d_X5_init 33 rfl) rfl (lv_at hl 1 rfl) ?_
  refine x_get C hw fl_X5_15 0 rfl rfl (dc d_X5_init 34 rfl) ?_
  refine lv_iconst (v := (2 : Int32)) hx hb (dc d_X5_init 35 rfl) (by decide) ?_
  refine lv_iload_n hx hb (dc d_X5_init 36 rfl) rfl (lv_at hl 0 rfl) ?_
  refine lv_imul hx hb (dc d_X5_init 37 rfl) ?_
  refine W.eq (g2 := F0 m 63 ls [.int (16 : Int32), .ref q102]) rfl ?_
  refine lv_iconst (v := (1 : Int32)) hx hb (dc d_X5_init 38 rfl) (by decide) ?_
  refine lv_isub hx hb (dc d_X5_init 39 rfl) ?_
  refine W.eq (g2 := F0 m 65 ls [.int (15 : Int32), .ref q102]) rfl ?_
  refine lv_bipush (v := (10 : Int32)) hx hb (dc d_X5_init 40 rfl) (by decide) ?_
  refine lv_iload_n hx hb (dc d_X5_init 41 rfl) rfl (lv_at hl 0 rfl) ?_
  refine lv_imul hx hb (dc d_X5_init 42 rfl) ?_
  refine W.eq (g2 := F0 m 69 ls [.int (80 : Int32), .int (15 : Int32), .ref q102]) rfl ?_
  refine lv_iconst (v := (5 : Int32)) hx hb (dc d_X5_init 43 rfl) (by decide) ?_
  refine lv_iadd hx hb (dc d_X5_init 44 rfl) ?_
  refine W.eq (g2 := F0 m 71 ls [.int (85 : Int32), .int (15 : Int32), .ref q102]) rfl ?_
  refine x_iast C hw 2 rfl (by decide) (dc d_X5_init 45 rfl) (fun H locs hw => ?_)
  dsimp only [List.set_cons_succ, List.set_cons_zero] at hw
  have hw : Wd D A s.heap [(q0, .inr (5, [.ref q101, .ref q102])), (q101, .inl (cI, 6, .inl (va_cpy atF (fun _ => 0) 0 0 6))), (q102, .inl (cI, 18, .inl (upd (upd g17 (14 : Int32).toNatClampNeg (80 : Int32)) (15 : Int32).toNatClampNeg (85 : Int32))))] H _ := hw
  obtain ⟨g19, eg19⟩ : ∃ z : Nat → Int32, z = (upd (upd g17 (14 : Int32).toNatClampNeg (80 : Int32)) (15 : Int32).toNatClampNeg (85 : Int32)) := ⟨_, rfl⟩
  rw [← eg19] at hw
  refine lv_iinc (v := (9 : Int32)) (lv' := [(1, .int (9 : Int32)), (0, .ref q0)]) hx hb (dc d_X5_init 46 rfl) hl (k := 0) rfl (by decide) (by decide) rfl (fun ls hl => ?_)
  refine lv_goto (tgt := 36) hx hb (dc d_X5_init 47 rfl) (by decide) ?_
  refine lv_iload_n hx hb (dc d_X5_init 19 rfl) rfl (lv_at hl 0 rfl) ?_
  refine lv_bipush (v := (9 : Int32)) hx hb (dc d_X5_init 20 rfl) (by decide) ?_
  refine lv_icmp_gt (tgt := 78) hx hb (dc d_X5_init 21 rfl) (by decide) (fun c20 => absurd c20 (by decide)) (fun c20 => ?_)
  refine lv_aload_n hx hb (dc d_X5_init 22 rfl) rfl (lv_at hl 1 rfl) ?_
  refine x_get C hw fl_X5_15 0 rfl rfl (dc d_X5_init 23 rfl) ?_
  refine lv_iconst (v := (2 : Int32)) hx hb (dc d_X5_init 24 rfl) (by decide) ?_
  refine lv_iload_n hx hb (dc d_X5_init 25 rfl) rfl (lv_at hl 0 rfl) ?_
  refine lv_imul hx hb (dc d_X5_init 26 rfl) ?_
  refine W.eq (g2 := F0 m 49 ls [.int (18 : Int32), .ref q102]) rfl ?_
  refine lv_iconst (v := (2 : Int32)) hx hb (dc d_X5_init 27 rfl) (by decide) ?_
  refine lv_isub hx hb (dc d_X5_init 28 rfl) ?_
  refine W.eq (g2 := F0 m 51 ls [.int (16 : Int32), .ref q102]) rfl ?_
  refine lv_bipush (v := (10 : Int32)) hx hb (dc d_X5_init 29 rfl) (by decide) ?_
  refine lv_iload_n hx hb (dc d_X5_init 30 rfl) rfl (lv_at hl 0 rfl) ?_
  refine lv_imul hx hb (dc d_X5_init 31 rfl) ?_
  refine W.eq (g2 := F0 m 55 ls [.int (90 : Int32), .int (16 : Int32), .ref q102]) rfl ?_
  refine x_iast C hw 2 rfl (by decide) (dc d_X5_init 32 rfl) (fun H locs hw => ?_)
  dsimp only [List.set_cons_succ, List.set_cons_zero] at hw
  have hw : Wd D A s.heap [(q0, .inr (5, [.ref q101, .ref q102])), (q101, .inl (cI, 6, .inl (va_cpy atF (fun _ => 0) 0 0 6))), (q102, .inl (cI, 18, .inl (upd g19 (16 : Int32).toNatClampNeg (90 : Int32))))] H _ := hw
  refine lv_aload_n hx hb (dc d_X5_init 33 rfl) rfl (lv_at hl 1 rfl) ?_
  refine x_get C hw fl_X5_15 0 rfl rfl (dc d_X5_init 34 rfl) ?_
  refine lv_iconst (v := (2 : Int32)) hx hb (dc d_X5_init 35 rfl) (by decide) ?_
  refine lv_iload_n hx hb (dc d_X5_init 36 rfl) rfl (lv_at hl 0 rfl) ?_
  refine lv_imul hx hb (dc d_X5_init 37 rfl) ?_
  refine W.eq (g2 := F0 m 63 ls [.int (18 : Int32), .ref q102]) rfl ?_
  refine lv_iconst (v := (1 : Int32)) hx hb (dc d_X5_init 38 rfl) (by decide) ?_
  refine lv_isub hx hb (dc d_X5_init 39 rfl) ?_
  refine W.eq (g2 := F0 m 65 ls [.int (17 : Int32), .ref q102]) rfl ?_
  refine lv_bipush (v := (10 : Int32)) hx hb (dc d_X5_init 40 rfl) (by decide) ?_
  refine lv_iload_n hx hb (dc d_X5_init 41 rfl) rfl (lv_at hl 0 rfl) ?_
  refine lv_imul hx hb (dc d_X5_init 42 rfl) ?_
  refine W.eq (g2 := F0 m 69 ls [.int (90 : Int32), .int (17 : Int32), .ref q102]) rfl ?_
  refine lv_iconst (v := (5 : Int32)) hx hb (dc d_X5_init 43 rfl) (by decide) ?_
  refine lv_iadd hx hb (dc d_X5_init 44 rfl) ?_
  refine W.eq (g2 := F0 m 71 ls [.int (95 : Int32), .int (17 : Int32), .ref q102]) rfl ?_
  refine x_iast C hw 2 rfl (by decide) (dc d_X5_init 45 rfl) (fun H locs hw => ?_)
  dsimp only [List.set_cons_succ, List.set_cons_zero] at hw
  have hw : Wd D A s.heap [(q0, .inr (5, [.ref q101, .ref q102])), (q101, .inl (cI, 6, .inl (va_cpy atF (fun _ => 0) 0 0 6))), (q102, .inl (cI, 18, .inl (upd (upd g19 (16 : Int32).toNatClampNeg (90 : Int32)) (17 : Int32).toNatClampNeg (95 : Int32))))] H _ := hw
  obtain ⟨g21, eg21⟩ : ∃ z : Nat → Int32, z = (upd (upd g19 (16 : Int32).toNatClampNeg (90 : Int32)) (17 : Int32).toNatClampNeg (95 : Int32)) := ⟨_, rfl⟩
  rw [← eg21] at hw
  refine lv_iinc (v := (10 : Int32)) (lv' := [(1, .int (10 : Int32)), (0, .ref q0)]) hx hb (dc d_X5_init 46 rfl) hl (k := 0) rfl (by decide) (by decide) rfl (fun ls hl => ?_)
  refine lv_goto (tgt := 36) hx hb (dc d_X5_init 47 rfl) (by decide) ?_
  refine lv_iload_n hx hb (dc d_X5_init 19 rfl) rfl (lv_at hl 0 rfl) ?_
  refine lv_bipush (v := (9 : Int32)) hx hb (dc d_X5_init 20 rfl) (by decide) ?_
  refine lv_icmp_gt (tgt := 78) hx hb (dc d_X5_init 21 rfl) (by decide) (fun c22 => ?_) (fun c22 => absurd (by decide) c22)
  have hw := Wd_arr hw 1 rfl (g := atF) (by decide +kernel)
  dsimp only [List.set_cons_succ, List.set_cons_zero] at hw
  have hw : Wd D A s.heap [(q0, .inr (5, [.ref q101, .ref q102])), (q101, .inl (cI, 6, .inl atF)), (q102, .inl (cI, 18, .inl g21))] H _ := hw
  have hw := Wd_arr hw 2 rfl (g := nmF) (by subst eg5 eg7 eg9 eg11 eg13 eg15 eg17 eg19 eg21; decide +kernel)
  dsimp only [List.set_cons_succ, List.set_cons_zero] at hw
  have hw : Wd D A s.heap [(q0, .inr (5, [.ref q101, .ref q102])), (q101, .inl (cI, 6, .inl atF)), (q102, .inl (cI, 18, .inl nmF))] H _ := hw
  exact x_vretN C hAe hQ (Nat.le_of_ble_eq_true rfl) (Nat.le_of_ble_eq_true rfl) hw ⟨q101, q102, rfl⟩ (dc d_X5_init 48 rfl)
