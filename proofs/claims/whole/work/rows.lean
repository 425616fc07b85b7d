section
-- ===== PART A: goes FIRST, ahead of the names: the tables' words, and 'selects' of the private methods out of them =====
/-- a private method of a class that the tables say can be made, by its rows of tables_1 -/
def lw_okq (q : MethodName × Nat) : Prop := (q.1.cls ≠ "java/lang/invoke/MethodHandle" ∧ q.1.cls ≠ "java/lang/invoke/VarHandle") ∧ Cond.instantiable q.1.cls q.2 ∈ tables_1 ∧ Cond.privateMethod q.1 ∈ tables_1 ∧ Cond.instanceMethod q.1 ∈ tables_1
theorem lw_p0 : lw_okq (⟨"FlameBend$Orders", "movePass", "(LFlameBend$Passes;II)V"⟩, 2) := ⟨⟨by decide +kernel, by decide +kernel⟩, List.mem_of_getElem? (i := 27) (by decide +kernel), List.mem_of_getElem? (i := 364) (by decide +kernel), List.mem_of_getElem? (i := 365) (by decide +kernel)⟩
theorem lw_p1 : lw_okq (⟨"FlameBend", "workChanged", "()V"⟩, 11) := ⟨⟨by decide +kernel, by decide +kernel⟩, List.mem_of_getElem? (i := 19) (by decide +kernel), List.mem_of_getElem? (i := 372) (by decide +kernel), List.mem_of_getElem? (i := 373) (by decide +kernel)⟩
theorem lw_p2 : lw_okq (⟨"FlameBend", "shapeOfWork", "()V"⟩, 11) := ⟨⟨by decide +kernel, by decide +kernel⟩, List.mem_of_getElem? (i := 19) (by decide +kernel), List.mem_of_getElem? (i := 450) (by decide +kernel), List.mem_of_getElem? (i := 451) (by decide +kernel)⟩
theorem lw_p3 : lw_okq (⟨"FlameBend$Shape", "hangProfile", "([II)V"⟩, 4) := ⟨⟨by decide +kernel, by decide +kernel⟩, List.mem_of_getElem? (i := 102) (by decide +kernel), List.mem_of_getElem? (i := 490) (by decide +kernel), List.mem_of_getElem? (i := 491) (by decide +kernel)⟩
theorem lw_p4 : lw_okq (⟨"FlameBend$Planner", "laySet", "(ILFlameBend$Rules;)V"⟩, 4) := ⟨⟨by decide +kernel, by decide +kernel⟩, List.mem_of_getElem? (i := 139) (by decide +kernel), List.mem_of_getElem? (i := 559) (by decide +kernel), List.mem_of_getElem? (i := 560) (by decide +kernel)⟩
theorem lw_p5 : lw_okq (⟨"FlameBend$Welds", "findBent", "(LFlameBend$Rules;)V"⟩, 9) := ⟨⟨by decide +kernel, by decide +kernel⟩, List.mem_of_getElem? (i := 211) (by decide +kernel), List.mem_of_getElem? (i := 693) (by decide +kernel), List.mem_of_getElem? (i := 694) (by decide +kernel)⟩
theorem lw_p6 : lw_okq (⟨"FlameBend$Welds", "worstBehind", "(LFlameBend$Shape;LFlameBend$Wish;I)I"⟩, 9) := ⟨⟨by decide +kernel, by decide +kernel⟩, List.mem_of_getElem? (i := 211) (by decide +kernel), List.mem_of_getElem? (i := 699) (by decide +kernel), List.mem_of_getElem? (i := 700) (by decide +kernel)⟩
theorem lw_p7 : lw_okq (⟨"FlameBend$Welds", "goOn", "()Z"⟩, 9) := ⟨⟨by decide +kernel, by decide +kernel⟩, List.mem_of_getElem? (i := 211) (by decide +kernel), List.mem_of_getElem? (i := 706) (by decide +kernel), List.mem_of_getElem? (i := 707) (by decide +kernel)⟩
theorem lw_p8 : lw_okq (⟨"FlameBend$Welds", "swapTried", "(II)V"⟩, 9) := ⟨⟨by decide +kernel, by decide +kernel⟩, List.mem_of_getElem? (i := 211) (by decide +kernel), List.mem_of_getElem? (i := 710) (by decide +kernel), List.mem_of_getElem? (i := 711) (by decide +kernel)⟩
theorem lw_p9 : lw_okq (⟨"FlameBend$Smiths", "fits", "(III)Z"⟩, 6) := ⟨⟨by decide +kernel, by decide +kernel⟩, List.mem_of_getElem? (i := 251) (by decide +kernel), List.mem_of_getElem? (i := 726) (by decide +kernel), List.mem_of_getElem? (i := 727) (by decide +kernel)⟩
theorem lw_p10 : lw_okq (⟨"FlameBend$Smiths", "isLikeEarlier", "(I)Z"⟩, 6) := ⟨⟨by decide +kernel, by decide +kernel⟩, List.mem_of_getElem? (i := 251) (by decide +kernel), List.mem_of_getElem? (i := 730) (by decide +kernel), List.mem_of_getElem? (i := 731) (by decide +kernel)⟩
theorem lw_p11 : lw_okq (⟨"FlameBendModel", "saidPasses", "()I"⟩, 32) := ⟨⟨by decide +kernel, by decide +kernel⟩, List.mem_of_getElem? (i := 738) (by decide +kernel), List.mem_of_getElem? (i := 869) (by decide +kernel), List.mem_of_getElem? (i := 870) (by decide +kernel)⟩
theorem lw_p12 : lw_okq (⟨"FlameBendModel", "partOf", "(I)I"⟩, 32) := ⟨⟨by decide +kernel, by decide +kernel⟩, List.mem_of_getElem? (i := 738) (by decide +kernel), List.mem_of_getElem? (i := 881) (by decide +kernel), List.mem_of_getElem? (i := 882) (by decide +kernel)⟩
theorem lw_p13 : lw_okq (⟨"FlameBendModel", "bentBy", "(I)I"⟩, 32) := ⟨⟨by decide +kernel, by decide +kernel⟩, List.mem_of_getElem? (i := 738) (by decide +kernel), List.mem_of_getElem? (i := 888) (by decide +kernel), List.mem_of_getElem? (i := 889) (by decide +kernel)⟩
theorem lw_p14 : lw_okq (⟨"FlameBendModel", "timeOf", "(I)I"⟩, 32) := ⟨⟨by decide +kernel, by decide +kernel⟩, List.mem_of_getElem? (i := 738) (by decide +kernel), List.mem_of_getElem? (i := 892) (by decide +kernel), List.mem_of_getElem? (i := 893) (by decide +kernel)⟩
theorem lw_p15 : lw_okq (⟨"FlameBendModel", "findBends", "(I)V"⟩, 32) := ⟨⟨by decide +kernel, by decide +kernel⟩, List.mem_of_getElem? (i := 738) (by decide +kernel), List.mem_of_getElem? (i := 921) (by decide +kernel), List.mem_of_getElem? (i := 922) (by decide +kernel)⟩
def lw_privs_1 : List (MethodName × Nat) := [(⟨"FlameBend$Orders", "movePass", "(LFlameBend$Passes;II)V"⟩, 2), (⟨"FlameBend", "workChanged", "()V"⟩, 11), (⟨"FlameBend", "shapeOfWork", "()V"⟩, 11), (⟨"FlameBend$Shape", "hangProfile", "([II)V"⟩, 4), (⟨"FlameBend$Planner", "laySet", "(ILFlameBend$Rules;)V"⟩, 4), (⟨"FlameBend$Welds", "findBent", "(LFlameBend$Rules;)V"⟩, 9), (⟨"FlameBend$Welds", "worstBehind", "(LFlameBend$Shape;LFlameBend$Wish;I)I"⟩, 9), (⟨"FlameBend$Welds", "goOn", "()Z"⟩, 9), (⟨"FlameBend$Welds", "swapTried", "(II)V"⟩, 9), (⟨"FlameBend$Smiths", "fits", "(III)Z"⟩, 6), (⟨"FlameBend$Smiths", "isLikeEarlier", "(I)Z"⟩, 6), (⟨"FlameBendModel", "saidPasses", "()I"⟩, 32), (⟨"FlameBendModel", "partOf", "(I)I"⟩, 32), (⟨"FlameBendModel", "bentBy", "(I)I"⟩, 32), (⟨"FlameBendModel", "timeOf", "(I)I"⟩, 32), (⟨"FlameBendModel", "findBends", "(I)V"⟩, 32)]
theorem lw_r1 : ∀ q ∈ lw_privs_1, lw_okq q := List.forall_mem_cons.mpr ⟨lw_p0, List.forall_mem_cons.mpr ⟨lw_p1, List.forall_mem_cons.mpr ⟨lw_p2, List.forall_mem_cons.mpr ⟨lw_p3, List.forall_mem_cons.mpr ⟨lw_p4, List.forall_mem_cons.mpr ⟨lw_p5, List.forall_mem_cons.mpr ⟨lw_p6, List.forall_mem_cons.mpr ⟨lw_p7, List.forall_mem_cons.mpr ⟨lw_p8, List.forall_mem_cons.mpr ⟨lw_p9, List.forall_mem_cons.mpr ⟨lw_p10, List.forall_mem_cons.mpr ⟨lw_p11, List.forall_mem_cons.mpr ⟨lw_p12, List.forall_mem_cons.mpr ⟨lw_p13, List.forall_mem_cons.mpr ⟨lw_p14, List.forall_mem_cons.mpr ⟨lw_p15, fun _ h => absurd h List.not_mem_nil⟩⟩⟩⟩⟩⟩⟩⟩⟩⟩⟩⟩⟩⟩⟩⟩
theorem lw_p16 : lw_okq (⟨"FlameBendModel", "heightAt", "(I)I"⟩, 32) := ⟨⟨by decide +kernel, by decide +kernel⟩, List.mem_of_getElem? (i := 738) (by decide +kernel), List.mem_of_getElem? (i := 933) (by decide +kernel), List.mem_of_getElem? (i := 934) (by decide +kernel)⟩
theorem lw_p17 : lw_okq (⟨"FlameBendModel", "missAt", "(I)I"⟩, 32) := ⟨⟨by decide +kernel, by decide +kernel⟩, List.mem_of_getElem? (i := 738) (by decide +kernel), List.mem_of_getElem? (i := 948) (by decide +kernel), List.mem_of_getElem? (i := 949) (by decide +kernel)⟩
theorem lw_p18 : lw_okq (⟨"FlameBendModel", "offAt", "(I)I"⟩, 32) := ⟨⟨by decide +kernel, by decide +kernel⟩, List.mem_of_getElem? (i := 738) (by decide +kernel), List.mem_of_getElem? (i := 952) (by decide +kernel), List.mem_of_getElem? (i := 953) (by decide +kernel)⟩
theorem lw_p19 : lw_okq (⟨"FlameBendModel", "worstBy", "(I)I"⟩, 32) := ⟨⟨by decide +kernel, by decide +kernel⟩, List.mem_of_getElem? (i := 738) (by decide +kernel), List.mem_of_getElem? (i := 963) (by decide +kernel), List.mem_of_getElem? (i := 964) (by decide +kernel)⟩
theorem lw_p20 : lw_okq (⟨"FlameBendModel", "worstOf", "()I"⟩, 32) := ⟨⟨by decide +kernel, by decide +kernel⟩, List.mem_of_getElem? (i := 738) (by decide +kernel), List.mem_of_getElem? (i := 967) (by decide +kernel), List.mem_of_getElem? (i := 968) (by decide +kernel)⟩
theorem lw_p21 : lw_okq (⟨"FlameBendModel", "twistAt", "(I)I"⟩, 32) := ⟨⟨by decide +kernel, by decide +kernel⟩, List.mem_of_getElem? (i := 738) (by decide +kernel), List.mem_of_getElem? (i := 978) (by decide +kernel), List.mem_of_getElem? (i := 979) (by decide +kernel)⟩
theorem lw_p22 : lw_okq (⟨"FlameBendModel", "worstWith", "(I)I"⟩, 32) := ⟨⟨by decide +kernel, by decide +kernel⟩, List.mem_of_getElem? (i := 738) (by decide +kernel), List.mem_of_getElem? (i := 999) (by decide +kernel), List.mem_of_getElem? (i := 1000) (by decide +kernel)⟩
theorem lw_p23 : lw_okq (⟨"FlameBendModel", "tryItem", "(I)V"⟩, 32) := ⟨⟨by decide +kernel, by decide +kernel⟩, List.mem_of_getElem? (i := 738) (by decide +kernel), List.mem_of_getElem? (i := 1003) (by decide +kernel), List.mem_of_getElem? (i := 1004) (by decide +kernel)⟩
theorem lw_p24 : lw_okq (⟨"FlameBendModel", "nextItem", "(I)I"⟩, 32) := ⟨⟨by decide +kernel, by decide +kernel⟩, List.mem_of_getElem? (i := 738) (by decide +kernel), List.mem_of_getElem? (i := 1011) (by decide +kernel), List.mem_of_getElem? (i := 1012) (by decide +kernel)⟩
theorem lw_p25 : lw_okq (⟨"FlameBendModel", "hangs", "()Z"⟩, 32) := ⟨⟨by decide +kernel, by decide +kernel⟩, List.mem_of_getElem? (i := 738) (by decide +kernel), List.mem_of_getElem? (i := 1031) (by decide +kernel), List.mem_of_getElem? (i := 1032) (by decide +kernel)⟩
theorem lw_p26 : lw_okq (⟨"FlameBendModel", "flatAt", "(I)I"⟩, 32) := ⟨⟨by decide +kernel, by decide +kernel⟩, List.mem_of_getElem? (i := 738) (by decide +kernel), List.mem_of_getElem? (i := 1035) (by decide +kernel), List.mem_of_getElem? (i := 1036) (by decide +kernel)⟩
theorem lw_p27 : lw_okq (⟨"FlameBendModel", "findRead", "(I)V"⟩, 32) := ⟨⟨by decide +kernel, by decide +kernel⟩, List.mem_of_getElem? (i := 738) (by decide +kernel), List.mem_of_getElem? (i := 1048) (by decide +kernel), List.mem_of_getElem? (i := 1049) (by decide +kernel)⟩
theorem lw_p28 : lw_okq (⟨"FlameBendModel", "hasPass", "(I)Z"⟩, 32) := ⟨⟨by decide +kernel, by decide +kernel⟩, List.mem_of_getElem? (i := 738) (by decide +kernel), List.mem_of_getElem? (i := 1060) (by decide +kernel), List.mem_of_getElem? (i := 1061) (by decide +kernel)⟩
theorem lw_p29 : lw_okq (⟨"FlameBendModel", "worstByOrder", "()I"⟩, 32) := ⟨⟨by decide +kernel, by decide +kernel⟩, List.mem_of_getElem? (i := 738) (by decide +kernel), List.mem_of_getElem? (i := 1088) (by decide +kernel), List.mem_of_getElem? (i := 1089) (by decide +kernel)⟩
theorem lw_p30 : lw_okq (⟨"FlameBendModel", "nextOrder", "()Z"⟩, 32) := ⟨⟨by decide +kernel, by decide +kernel⟩, List.mem_of_getElem? (i := 738) (by decide +kernel), List.mem_of_getElem? (i := 1092) (by decide +kernel), List.mem_of_getElem? (i := 1093) (by decide +kernel)⟩
theorem lw_p31 : lw_okq (⟨"FlameBendModel", "exchange", "(II)V"⟩, 32) := ⟨⟨by decide +kernel, by decide +kernel⟩, List.mem_of_getElem? (i := 738) (by decide +kernel), List.mem_of_getElem? (i := 1096) (by decide +kernel), List.mem_of_getElem? (i := 1097) (by decide +kernel)⟩
def lw_privs_2 : List (MethodName × Nat) := [(⟨"FlameBendModel", "heightAt", "(I)I"⟩, 32), (⟨"FlameBendModel", "missAt", "(I)I"⟩, 32), (⟨"FlameBendModel", "offAt", "(I)I"⟩, 32), (⟨"FlameBendModel", "worstBy", "(I)I"⟩, 32), (⟨"FlameBendModel", "worstOf", "()I"⟩, 32), (⟨"FlameBendModel", "twistAt", "(I)I"⟩, 32), (⟨"FlameBendModel", "worstWith", "(I)I"⟩, 32), (⟨"FlameBendModel", "tryItem", "(I)V"⟩, 32), (⟨"FlameBendModel", "nextItem", "(I)I"⟩, 32), (⟨"FlameBendModel", "hangs", "()Z"⟩, 32), (⟨"FlameBendModel", "flatAt", "(I)I"⟩, 32), (⟨"FlameBendModel", "findRead", "(I)V"⟩, 32), (⟨"FlameBendModel", "hasPass", "(I)Z"⟩, 32), (⟨"FlameBendModel", "worstByOrder", "()I"⟩, 32), (⟨"FlameBendModel", "nextOrder", "()Z"⟩, 32), (⟨"FlameBendModel", "exchange", "(II)V"⟩, 32)]
theorem lw_r2 : ∀ q ∈ lw_privs_2, lw_okq q := List.forall_mem_cons.mpr ⟨lw_p16, List.forall_mem_cons.mpr ⟨lw_p17, List.forall_mem_cons.mpr ⟨lw_p18, List.forall_mem_cons.mpr ⟨lw_p19, List.forall_mem_cons.mpr ⟨lw_p20, List.forall_mem_cons.mpr ⟨lw_p21, List.forall_mem_cons.mpr ⟨lw_p22, List.forall_mem_cons.mpr ⟨lw_p23, List.forall_mem_cons.mpr ⟨lw_p24, List.forall_mem_cons.mpr ⟨lw_p25, List.forall_mem_cons.mpr ⟨lw_p26, List.forall_mem_cons.mpr ⟨lw_p27, List.forall_mem_cons.mpr ⟨lw_p28, List.forall_mem_cons.mpr ⟨lw_p29, List.forall_mem_cons.mpr ⟨lw_p30, List.forall_mem_cons.mpr ⟨lw_p31, fun _ h => absurd h List.not_mem_nil⟩⟩⟩⟩⟩⟩⟩⟩⟩⟩⟩⟩⟩⟩⟩⟩
theorem lw_p32 : lw_okq (⟨"FlameBendModel", "longest", "(I)I"⟩, 32) := ⟨⟨by decide +kernel, by decide +kernel⟩, List.mem_of_getElem? (i := 738) (by decide +kernel), List.mem_of_getElem? (i := 1105) (by decide +kernel), List.mem_of_getElem? (i := 1106) (by decide +kernel)⟩
theorem lw_p33 : lw_okq (⟨"FlameBendModel", "nextShares", "(I)Z"⟩, 32) := ⟨⟨by decide +kernel, by decide +kernel⟩, List.mem_of_getElem? (i := 738) (by decide +kernel), List.mem_of_getElem? (i := 1109) (by decide +kernel), List.mem_of_getElem? (i := 1110) (by decide +kernel)⟩
def lw_privs_3 : List (MethodName × Nat) := [(⟨"FlameBendModel", "longest", "(I)I"⟩, 32), (⟨"FlameBendModel", "nextShares", "(I)Z"⟩, 32)]
theorem lw_r3 : ∀ q ∈ lw_privs_3, lw_okq q := List.forall_mem_cons.mpr ⟨lw_p32, List.forall_mem_cons.mpr ⟨lw_p33, fun _ h => absurd h List.not_mem_nil⟩⟩
def lw_privs : List (MethodName × Nat) := lw_privs_1 ++ (lw_privs_2 ++ (lw_privs_3))
def lw_tbl : List Cond := k2_sels lw_privs ++ tables_1
theorem lw_privs_ok : ∀ q ∈ lw_privs, lw_okq q := by
  show ∀ q ∈ lw_privs_1 ++ (lw_privs_2 ++ (lw_privs_3)), lw_okq q
  exact List.forall_mem_append.mpr ⟨lw_r1, List.forall_mem_append.mpr ⟨lw_r2, lw_r3⟩⟩
end
section

/-! ===== BEGIN printed: names, fields, word lists, decode rows ===== -/
def RX0 : String := "FlameBend$Fraction"
def TX0 : u_T := fun k => match k with
  | 0 => ("FlameBend$Fraction", "upper", "J", false)
  | _ => ("FlameBend$Fraction", "lower", "J", false)
def tyX0 : Nat → FieldType := fun k => match k with
  | 0 => .long
  | _ => .long
abbrev wsX00 : List Cond := u_ws RX0 TX0 2
theorem nmX0 : ∀ a, a < 2 → ∀ b, b < 2 → a ≠ b → (TX0 a).2.1 ≠ (TX0 b).2.1 := by decide +kernel
theorem tyX0_ok : ∀ k, k < 2 → parseFieldDescriptor (TX0 k).2.2.1 = some (tyX0 k) := by decide +kernel
abbrev cX0_init : ByteArray := prog_2_method_1_code
def yX0_init : MethodName := ⟨RX0, "<init>", "()V"⟩
abbrev cX0_become : ByteArray := prog_2_method_2_code
def yX0_become : MethodName := ⟨RX0, "become", "(JJ)V"⟩
abbrev cX0_increase : ByteArray := prog_2_method_3_code
def yX0_increase : MethodName := ⟨RX0, "increase", "(JJ)V"⟩
abbrev cX0_divide : ByteArray := prog_2_method_4_code
def yX0_divide : MethodName := ⟨RX0, "divide", "(J)V"⟩
abbrev cX0_tell : ByteArray := prog_2_method_5_code
def yX0_tell : MethodName := ⟨RX0, "tell", "(I)J"⟩
abbrev cX0_commonDivisor : ByteArray := prog_2_method_6_code
def yX0_commonDivisor : MethodName := ⟨RX0, "commonDivisor", "(JJ)J"⟩
def RX1 : String := "FlameBend$Gauges"
def TX1 : u_T := fun k => match k with
  | 0 => ("FlameBend$Gauges", "heights", "[I", true)
  | 1 => ("FlameBend$Gauges", "isRead", "[Z", true)
  | 2 => ("FlameBend$Gauges", "count", "I", false)
  | 3 => ("FlameBend$Gauges", "bendSum", "I", false)
  | _ => ("FlameBend$Gauges", "bendPlaces", "I", false)
def tyX1 : Nat → FieldType := fun k => match k with
  | 0 => .array .int
  | 1 => .array .boolean
  | 2 => .int
  | 3 => .int
  | _ => .int
abbrev wsX10 : List Cond := u_ws RX1 TX1 5
theorem nmX1 : ∀ a, a < 5 → ∀ b, b < 5 → a ≠ b → (TX1 a).2.1 ≠ (TX1 b).2.1 := by decide +kernel
theorem tyX1_ok : ∀ k, k < 5 → parseFieldDescriptor (TX1 k).2.2.1 = some (tyX1 k) := by decide +kernel
abbrev cX1_init : ByteArray := prog_3_method_1_code
def yX1_init : MethodName := ⟨RX1, "<init>", "()V"⟩
abbrev cX1_put : ByteArray := prog_3_method_2_code
def yX1_put : MethodName := ⟨RX1, "put", "(II)Z"⟩
abbrev cX1_drop : ByteArray := prog_3_method_3_code
def yX1_drop : MethodName := ⟨RX1, "drop", "(I)Z"⟩
abbrev cX1_canHang : ByteArray := prog_3_method_4_code
def yX1_canHang : MethodName := ⟨RX1, "canHang", "()Z"⟩
abbrev cX1_isOdd : ByteArray := prog_3_method_5_code
def yX1_isOdd : MethodName := ⟨RX1, "isOdd", "(ILFlameBend$Shape;LFlameBend$Rules;)Z"⟩
abbrev cX1_readBend : ByteArray := prog_3_method_6_code
def yX1_readBend : MethodName := ⟨RX1, "readBend", "(I)V"⟩
def RX2 : String := "FlameBend$Orders"
def TX2 : u_T := fun k => match k with
  | 0 => ("FlameBend$Orders", "signs", "[C", true)
  | _ => ("FlameBend$Orders", "count", "I", false)
def tyX2 : Nat → FieldType := fun k => match k with
  | 0 => .array .char
  | _ => .int
abbrev wsX20 : List Cond := u_ws RX2 TX2 2
theorem nmX2 : ∀ a, a < 2 → ∀ b, b < 2 → a ≠ b → (TX2 a).2.1 ≠ (TX2 b).2.1 := by decide +kernel
theorem tyX2_ok : ∀ k, k < 2 → parseFieldDescriptor (TX2 k).2.2.1 = some (tyX2 k) := by decide +kernel
abbrev cX2_init : ByteArray := prog_4_method_1_code
def yX2_init : MethodName := ⟨RX2, "<init>", "()V"⟩
abbrev cX2_add : ByteArray := prog_4_method_2_code
def yX2_add : MethodName := ⟨RX2, "add", "(I)Z"⟩
abbrev cX2_faultPlace : ByteArray := prog_4_method_3_code
def yX2_faultPlace : MethodName := ⟨RX2, "faultPlace", "()I"⟩
abbrev cX2_follow : ByteArray := prog_4_method_4_code
def yX2_follow : MethodName := ⟨RX2, "follow", "(IC)I"⟩
abbrev cX2_followPass : ByteArray := prog_4_method_5_code
def yX2_followPass : MethodName := ⟨RX2, "followPass", "(IC)I"⟩
abbrev cX2_passes : ByteArray := prog_4_method_6_code
def yX2_passes : MethodName := ⟨RX2, "passes", "()I"⟩
abbrev cX2_moveInto : ByteArray := prog_4_method_7_code
def yX2_moveInto : MethodName := ⟨RX2, "moveInto", "(LFlameBend$Passes;)V"⟩
abbrev cX2_movePass : ByteArray := prog_4_method_8_code
def yX2_movePass : MethodName := ⟨RX2, "movePass", "(LFlameBend$Passes;II)V"⟩
def RX3 : String := "FlameBend$Passes"
def TX3 : u_T := fun k => match k with
  | 0 => ("FlameBend$Passes", "room", "I", true)
  | 1 => ("FlameBend$Passes", "line", "[I", true)
  | 2 => ("FlameBend$Passes", "strength", "[I", true)
  | 3 => ("FlameBend$Passes", "water", "[I", true)
  | 4 => ("FlameBend$Passes", "back", "[I", true)
  | _ => ("FlameBend$Passes", "count", "I", false)
def tyX3 : Nat → FieldType := fun k => match k with
  | 0 => .int
  | 1 => .array .int
  | 2 => .array .int
  | 3 => .array .int
  | 4 => .array .int
  | _ => .int
abbrev wsX30 : List Cond := u_ws RX3 TX3 6
theorem nmX3 : ∀ a, a < 6 → ∀ b, b < 6 → a ≠ b → (TX3 a).2.1 ≠ (TX3 b).2.1 := by decide +kernel
theorem tyX3_ok : ∀ k, k < 6 → parseFieldDescriptor (TX3 k).2.2.1 = some (tyX3 k) := by decide +kernel
abbrev cX3_init : ByteArray := prog_5_method_1_code
def yX3_init : MethodName := ⟨RX3, "<init>", "(I)V"⟩
abbrev cX3_add : ByteArray := prog_5_method_2_code
def yX3_add : MethodName := ⟨RX3, "add", "(IIII)Z"⟩
abbrev cX3_time : ByteArray := prog_5_method_3_code
def yX3_time : MethodName := ⟨RX3, "time", "(I)I"⟩
def RX4 : String := "FlameBend$Planner"
def TX4 : u_T := fun k => match k with
  | 0 => ("FlameBend$Planner", "items", "LFlameBend$Passes;", true)
  | 1 => ("FlameBend$Planner", "trial", "LFlameBend$Shape;", true)
  | 2 => ("FlameBend$Planner", "found", "I", false)
  | _ => ("FlameBend$Planner", "foundWorst", "I", false)
def tyX4 : Nat → FieldType := fun k => match k with
  | 0 => .object "FlameBend$Passes"
  | 1 => .object "FlameBend$Shape"
  | 2 => .int
  | _ => .int
abbrev wsX40 : List Cond := u_ws RX4 TX4 4
theorem nmX4 : ∀ a, a < 4 → ∀ b, b < 4 → a ≠ b → (TX4 a).2.1 ≠ (TX4 b).2.1 := by decide +kernel
theorem tyX4_ok : ∀ k, k < 4 → parseFieldDescriptor (TX4 k).2.2.1 = some (tyX4 k) := by decide +kernel
abbrev cX4_init : ByteArray := prog_6_method_1_code
def yX4_init : MethodName := ⟨RX4, "<init>", "()V"⟩
abbrev cX4_findSet : ByteArray := prog_6_method_2_code
def yX4_findSet : MethodName := ⟨RX4, "findSet", "(LFlameBend$Shape;ILFlameBend$Rules;LFlameBend$Wish;)V"⟩
abbrev cX4_laySet : ByteArray := prog_6_method_3_code
def yX4_laySet : MethodName := ⟨RX4, "laySet", "(ILFlameBend$Rules;)V"⟩
abbrev cX4_findNext : ByteArray := prog_6_method_4_code
def yX4_findNext : MethodName := ⟨RX4, "findNext", "(LFlameBend$Shape;ILFlameBend$Rules;LFlameBend$Wish;)V"⟩
def RX5 : String := "FlameBend$Rules"
def TX5 : u_T := fun k => match k with
  | 0 => ("FlameBend$Rules", "settings", "[I", true)
  | _ => ("FlameBend$Rules", "numbers", "[I", true)
def tyX5 : Nat → FieldType := fun k => match k with
  | 0 => .array .int
  | _ => .array .int
abbrev wsX50 : List Cond := u_ws RX5 TX5 2
theorem nmX5 : ∀ a, a < 2 → ∀ b, b < 2 → a ≠ b → (TX5 a).2.1 ≠ (TX5 b).2.1 := by decide +kernel
theorem tyX5_ok : ∀ k, k < 2 → parseFieldDescriptor (TX5 k).2.2.1 = some (tyX5 k) := by decide +kernel
abbrev cX5_init : ByteArray := prog_7_method_1_code
def yX5_init : MethodName := ⟨RX5, "<init>", "()V"⟩
abbrev cX5_tableOf : ByteArray := prog_7_method_2_code
def yX5_tableOf : MethodName := ⟨RX5, "tableOf", "(II)I"⟩
abbrev cX5_putTable : ByteArray := prog_7_method_3_code
def yX5_putTable : MethodName := ⟨RX5, "putTable", "(III)I"⟩
abbrev cX5_allows : ByteArray := prog_7_method_4_code
def yX5_allows : MethodName := ⟨RX5, "allows", "(II)Z"⟩
abbrev cX5_put : ByteArray := prog_7_method_5_code
def yX5_put : MethodName := ⟨RX5, "put", "(II)I"⟩
def RX6 : String := "FlameBend$Shape"
def TX6 : u_T := fun k => match k with
  | 0 => ("FlameBend$Shape", "bends", "[I", true)
  | 1 => ("FlameBend$Shape", "laid", "[I", true)
  | 2 => ("FlameBend$Shape", "across", "[I", true)
  | _ => ("FlameBend$Shape", "along", "[I", true)
def tyX6 : Nat → FieldType := fun k => match k with
  | 0 => .array .int
  | 1 => .array .int
  | 2 => .array .int
  | _ => .array .int
abbrev wsX60 : List Cond := u_ws RX6 TX6 4
theorem nmX6 : ∀ a, a < 4 → ∀ b, b < 4 → a ≠ b → (TX6 a).2.1 ≠ (TX6 b).2.1 := by decide +kernel
theorem tyX6_ok : ∀ k, k < 4 → parseFieldDescriptor (TX6 k).2.2.1 = some (tyX6 k) := by decide +kernel
abbrev cX6_init : ByteArray := prog_8_method_1_code
def yX6_init : MethodName := ⟨RX6, "<init>", "()V"⟩
abbrev cX6_becomeOf : ByteArray := prog_8_method_2_code
def yX6_becomeOf : MethodName := ⟨RX6, "becomeOf", "(LFlameBend$Passes;ILFlameBend$Rules;)V"⟩
abbrev cX6_becomeLike : ByteArray := prog_8_method_3_code
def yX6_becomeLike : MethodName := ⟨RX6, "becomeLike", "(LFlameBend$Shape;)V"⟩
abbrev cX6_lay : ByteArray := prog_8_method_4_code
def yX6_lay : MethodName := ⟨RX6, "lay", "(LFlameBend$Passes;ILFlameBend$Rules;)V"⟩
abbrev cX6_bentBy : ByteArray := prog_8_method_5_code
def yX6_bentBy : MethodName := ⟨RX6, "bentBy", "(LFlameBend$Passes;ILFlameBend$Rules;)I"⟩
abbrev cX6_partOn : ByteArray := prog_8_method_6_code
def yX6_partOn : MethodName := ⟨RX6, "partOn", "(ILFlameBend$Rules;)I"⟩
abbrev cX6_heightAt : ByteArray := prog_8_method_7_code
def yX6_heightAt : MethodName := ⟨RX6, "heightAt", "(I)I"⟩
abbrev cX6_hang : ByteArray := prog_8_method_8_code
def yX6_hang : MethodName := ⟨RX6, "hang", "()V"⟩
abbrev cX6_hangProfile : ByteArray := prog_8_method_9_code
def yX6_hangProfile : MethodName := ⟨RX6, "hangProfile", "([II)V"⟩
abbrev cX6_hungAt : ByteArray := prog_8_method_10_code
def yX6_hungAt : MethodName := ⟨RX6, "hungAt", "(I)I"⟩
abbrev cX6_worstWithin : ByteArray := prog_8_method_11_code
def yX6_worstWithin : MethodName := ⟨RX6, "worstWithin", "(LFlameBend$Wish;I)I"⟩
def RX7 : String := "FlameBend$Smiths"
def TX7 : u_T := fun k => match k with
  | 0 => ("FlameBend$Smiths", "smithOf", "[I", true)
  | 1 => ("FlameBend$Smiths", "greatest", "I", false)
  | 2 => ("FlameBend$Smiths", "knownFor", "I", false)
  | 3 => ("FlameBend$Smiths", "times", "[I", true)
  | 4 => ("FlameBend$Smiths", "sums", "[I", true)
  | _ => ("FlameBend$Smiths", "count", "I", false)
def tyX7 : Nat → FieldType := fun k => match k with
  | 0 => .array .int
  | 1 => .int
  | 2 => .int
  | 3 => .array .int
  | 4 => .array .int
  | _ => .int
abbrev wsX70 : List Cond := u_ws RX7 TX7 6
theorem nmX7 : ∀ a, a < 6 → ∀ b, b < 6 → a ≠ b → (TX7 a).2.1 ≠ (TX7 b).2.1 := by decide +kernel
theorem tyX7_ok : ∀ k, k < 6 → parseFieldDescriptor (TX7 k).2.2.1 = some (tyX7 k) := by decide +kernel
abbrev cX7_init : ByteArray := prog_9_method_1_code
def yX7_init : MethodName := ⟨RX7, "<init>", "()V"⟩
abbrev cX7_share : ByteArray := prog_9_method_2_code
def yX7_share : MethodName := ⟨RX7, "share", "(LFlameBend$Passes;I)V"⟩
abbrev cX7_fits : ByteArray := prog_9_method_3_code
def yX7_fits : MethodName := ⟨RX7, "fits", "(III)Z"⟩
abbrev cX7_isLikeEarlier : ByteArray := prog_9_method_4_code
def yX7_isLikeEarlier : MethodName := ⟨RX7, "isLikeEarlier", "(I)Z"⟩
def RX8 : String := "FlameBend$Spans"
def TX8 : u_T := fun k => match k with
  | 0 => ("FlameBend$Spans", "lower", "[I", true)
  | _ => ("FlameBend$Spans", "upper", "[I", true)
def tyX8 : Nat → FieldType := fun k => match k with
  | 0 => .array .int
  | _ => .array .int
abbrev wsX80 : List Cond := u_ws RX8 TX8 2
theorem nmX8 : ∀ a, a < 2 → ∀ b, b < 2 → a ≠ b → (TX8 a).2.1 ≠ (TX8 b).2.1 := by decide +kernel
theorem tyX8_ok : ∀ k, k < 2 → parseFieldDescriptor (TX8 k).2.2.1 = some (tyX8 k) := by decide +kernel
abbrev cX8_init : ByteArray := prog_10_method_1_code
def yX8_init : MethodName := ⟨RX8, "<init>", "()V"⟩
abbrev cX8_narrow : ByteArray := prog_10_method_2_code
def yX8_narrow : MethodName := ⟨RX8, "narrow", "(III)Z"⟩
abbrev cX8_widestStrength : ByteArray := prog_10_method_3_code
def yX8_widestStrength : MethodName := ⟨RX8, "widestStrength", "()I"⟩
def RX9 : String := "FlameBend$Welds"
def TX9 : u_T := fun k => match k with
  | 0 => ("FlameBend$Welds", "line", "[I", true)
  | 1 => ("FlameBend$Welds", "pull", "[I", true)
  | 2 => ("FlameBend$Welds", "best", "[I", true)
  | 3 => ("FlameBend$Welds", "count", "I", false)
  | 4 => ("FlameBend$Welds", "bestWorst", "I", false)
  | 5 => ("FlameBend$Welds", "known", "Z", false)
  | 6 => ("FlameBend$Welds", "tried", "[I", true)
  | 7 => ("FlameBend$Welds", "bent", "[I", true)
  | _ => ("FlameBend$Welds", "trial", "LFlameBend$Shape;", true)
def tyX9 : Nat → FieldType := fun k => match k with
  | 0 => .array .int
  | 1 => .array .int
  | 2 => .array .int
  | 3 => .int
  | 4 => .int
  | 5 => .boolean
  | 6 => .array .int
  | 7 => .array .int
  | _ => .object "FlameBend$Shape"
abbrev wsX90 : List Cond := u_ws RX9 TX9 9
theorem nmX9 : ∀ a, a < 9 → ∀ b, b < 9 → a ≠ b → (TX9 a).2.1 ≠ (TX9 b).2.1 := by decide +kernel
theorem tyX9_ok : ∀ k, k < 9 → parseFieldDescriptor (TX9 k).2.2.1 = some (tyX9 k) := by decide +kernel
abbrev cX9_init : ByteArray := prog_11_method_1_code
def yX9_init : MethodName := ⟨RX9, "<init>", "()V"⟩
abbrev cX9_add : ByteArray := prog_11_method_2_code
def yX9_add : MethodName := ⟨RX9, "add", "(II)Z"⟩
abbrev cX9_findBest : ByteArray := prog_11_method_3_code
def yX9_findBest : MethodName := ⟨RX9, "findBest", "(LFlameBend$Shape;LFlameBend$Wish;LFlameBend$Rules;)V"⟩
abbrev cX9_findBent : ByteArray := prog_11_method_4_code
def yX9_findBent : MethodName := ⟨RX9, "findBent", "(LFlameBend$Rules;)V"⟩
abbrev cX9_worstBehind : ByteArray := prog_11_method_5_code
def yX9_worstBehind : MethodName := ⟨RX9, "worstBehind", "(LFlameBend$Shape;LFlameBend$Wish;I)I"⟩
abbrev cX9_goOn : ByteArray := prog_11_method_6_code
def yX9_goOn : MethodName := ⟨RX9, "goOn", "()Z"⟩
abbrev cX9_swapTried : ByteArray := prog_11_method_7_code
def yX9_swapTried : MethodName := ⟨RX9, "swapTried", "(II)V"⟩
def RX10 : String := "FlameBend$Wish"
def TX10 : u_T := fun k => match k with
  | 0 => ("FlameBend$Wish", "heights", "[I", true)
  | _ => ("FlameBend$Wish", "hung", "[I", true)
def tyX10 : Nat → FieldType := fun k => match k with
  | 0 => .array .int
  | _ => .array .int
abbrev wsX100 : List Cond := u_ws RX10 TX10 2
theorem nmX10 : ∀ a, a < 2 → ∀ b, b < 2 → a ≠ b → (TX10 a).2.1 ≠ (TX10 b).2.1 := by decide +kernel
theorem tyX10_ok : ∀ k, k < 2 → parseFieldDescriptor (TX10 k).2.2.1 = some (tyX10 k) := by decide +kernel
abbrev cX10_init : ByteArray := prog_12_method_1_code
def yX10_init : MethodName := ⟨RX10, "<init>", "()V"⟩
abbrev cX10_put : ByteArray := prog_12_method_2_code
def yX10_put : MethodName := ⟨RX10, "put", "(II)I"⟩
abbrev cX10_twistAt : ByteArray := prog_12_method_3_code
def yX10_twistAt : MethodName := ⟨RX10, "twistAt", "(I)I"⟩
abbrev cX10_greatestTwist : ByteArray := prog_12_method_4_code
def yX10_greatestTwist : MethodName := ⟨RX10, "greatestTwist", "()I"⟩
def RX11 : String := "FlameBend"
def TX11 : u_T := fun k => match k with
  | 0 => ("FlameBend", "orders", "LFlameBend$Orders;", true)
  | 1 => ("FlameBend", "rules", "LFlameBend$Rules;", true)
  | 2 => ("FlameBend", "work", "LFlameBend$Passes;", true)
  | 3 => ("FlameBend", "shape", "LFlameBend$Shape;", true)
  | 4 => ("FlameBend", "wished", "LFlameBend$Wish;", true)
  | 5 => ("FlameBend", "planner", "LFlameBend$Planner;", true)
  | 6 => ("FlameBend", "gauges", "LFlameBend$Gauges;", true)
  | 7 => ("FlameBend", "spans", "LFlameBend$Spans;", true)
  | 8 => ("FlameBend", "welds", "LFlameBend$Welds;", true)
  | 9 => ("FlameBend", "smiths", "LFlameBend$Smiths;", true)
  | _ => ("FlameBend", "fraction", "LFlameBend$Fraction;", true)
def tyX11 : Nat → FieldType := fun k => match k with
  | 0 => .object "FlameBend$Orders"
  | 1 => .object "FlameBend$Rules"
  | 2 => .object "FlameBend$Passes"
  | 3 => .object "FlameBend$Shape"
  | 4 => .object "FlameBend$Wish"
  | 5 => .object "FlameBend$Planner"
  | 6 => .object "FlameBend$Gauges"
  | 7 => .object "FlameBend$Spans"
  | 8 => .object "FlameBend$Welds"
  | 9 => .object "FlameBend$Smiths"
  | _ => .object "FlameBend$Fraction"
abbrev wsX110 : List Cond := u_ws RX11 TX11 11
theorem nmX11 : ∀ a, a < 11 → ∀ b, b < 11 → a ≠ b → (TX11 a).2.1 ≠ (TX11 b).2.1 := by decide +kernel
theorem tyX11_ok : ∀ k, k < 11 → parseFieldDescriptor (TX11 k).2.2.1 = some (tyX11 k) := by decide +kernel
abbrev cX11_init : ByteArray := prog_1_method_1_code
def yX11_init : MethodName := ⟨RX11, "<init>", "()V"⟩
abbrev cX11_say : ByteArray := prog_1_method_2_code
def yX11_say : MethodName := ⟨RX11, "say", "(I)I"⟩
abbrev cX11_wipe : ByteArray := prog_1_method_3_code
def yX11_wipe : MethodName := ⟨RX11, "wipe", "()I"⟩
abbrev cX11_fault : ByteArray := prog_1_method_4_code
def yX11_fault : MethodName := ⟨RX11, "fault", "()I"⟩
abbrev cX11_take : ByteArray := prog_1_method_5_code
def yX11_take : MethodName := ⟨RX11, "take", "()I"⟩
abbrev cX11_strike : ByteArray := prog_1_method_6_code
def yX11_strike : MethodName := ⟨RX11, "strike", "(I)I"⟩
abbrev cX11_pass : ByteArray := prog_1_method_7_code
def yX11_pass : MethodName := ⟨RX11, "pass", "(II)I"⟩
abbrev cX11_table : ByteArray := prog_1_method_8_code
def yX11_table : MethodName := ⟨RX11, "table", "(III)I"⟩
abbrev cX11_set : ByteArray := prog_1_method_9_code
def yX11_set : MethodName := ⟨RX11, "set", "(II)I"⟩
abbrev cX11_bend : ByteArray := prog_1_method_10_code
def yX11_bend : MethodName := ⟨RX11, "bend", "(I)I"⟩
abbrev cX11_height : ByteArray := prog_1_method_11_code
def yX11_height : MethodName := ⟨RX11, "height", "(I)I"⟩
abbrev cX11_wish : ByteArray := prog_1_method_12_code
def yX11_wish : MethodName := ⟨RX11, "wish", "(II)I"⟩
abbrev cX11_miss : ByteArray := prog_1_method_13_code
def yX11_miss : MethodName := ⟨RX11, "miss", "(I)I"⟩
abbrev cX11_worst : ByteArray := prog_1_method_14_code
def yX11_worst : MethodName := ⟨RX11, "worst", "()I"⟩
abbrev cX11_twist : ByteArray := prog_1_method_15_code
def yX11_twist : MethodName := ⟨RX11, "twist", "(I)I"⟩
abbrev cX11_bound : ByteArray := prog_1_method_16_code
def yX11_bound : MethodName := ⟨RX11, "bound", "()I"⟩
abbrev cX11_item : ByteArray := prog_1_method_17_code
def yX11_item : MethodName := ⟨RX11, "item", "(IIZZ)I"⟩
abbrev cX11_chosen : ByteArray := prog_1_method_18_code
def yX11_chosen : MethodName := ⟨RX11, "chosen", "(II)I"⟩
abbrev cX11_next : ByteArray := prog_1_method_19_code
def yX11_next : MethodName := ⟨RX11, "next", "(I)I"⟩
abbrev cX11_steps : ByteArray := prog_1_method_20_code
def yX11_steps : MethodName := ⟨RX11, "steps", "(I)I"⟩
abbrev cX11_read : ByteArray := prog_1_method_21_code
def yX11_read : MethodName := ⟨RX11, "read", "(II)I"⟩
abbrev cX11_forget : ByteArray := prog_1_method_22_code
def yX11_forget : MethodName := ⟨RX11, "forget", "(I)I"⟩
abbrev cX11_flat : ByteArray := prog_1_method_23_code
def yX11_flat : MethodName := ⟨RX11, "flat", "(I)I"⟩
abbrev cX11_odd : ByteArray := prog_1_method_24_code
def yX11_odd : MethodName := ⟨RX11, "odd", "(I)I"⟩
abbrev cX11_bendRead : ByteArray := prog_1_method_25_code
def yX11_bendRead : MethodName := ⟨RX11, "bendRead", "(II)I"⟩
abbrev cX11_skill : ByteArray := prog_1_method_26_code
def yX11_skill : MethodName := ⟨RX11, "skill", "(I)J"⟩
abbrev cX11_attempt : ByteArray := prog_1_method_27_code
def yX11_attempt : MethodName := ⟨RX11, "attempt", "(III)I"⟩
abbrev cX11_span : ByteArray := prog_1_method_28_code
def yX11_span : MethodName := ⟨RX11, "span", "(II)I"⟩
abbrev cX11_widest : ByteArray := prog_1_method_29_code
def yX11_widest : MethodName := ⟨RX11, "widest", "()I"⟩
abbrev cX11_weld : ByteArray := prog_1_method_30_code
def yX11_weld : MethodName := ⟨RX11, "weld", "(II)I"⟩
abbrev cX11_order : ByteArray := prog_1_method_31_code
def yX11_order : MethodName := ⟨RX11, "order", "(I)I"⟩
abbrev cX11_shared : ByteArray := prog_1_method_32_code
def yX11_shared : MethodName := ⟨RX11, "shared", "(II)I"⟩
abbrev cX11_told : ByteArray := prog_1_method_33_code
def yX11_told : MethodName := ⟨RX11, "told", "(I)I"⟩
abbrev cX11_workChanged : ByteArray := prog_1_method_34_code
def yX11_workChanged : MethodName := ⟨RX11, "workChanged", "()V"⟩
abbrev cX11_shapeOfWork : ByteArray := prog_1_method_35_code
def yX11_shapeOfWork : MethodName := ⟨RX11, "shapeOfWork", "()V"⟩
abbrev cX11_isNoLine : ByteArray := prog_1_method_36_code
def yX11_isNoLine : MethodName := ⟨RX11, "isNoLine", "(I)Z"⟩
abbrev cX11_isNoCorner : ByteArray := prog_1_method_37_code
def yX11_isNoCorner : MethodName := ⟨RX11, "isNoCorner", "(I)Z"⟩
abbrev cX11_isNoStrength : ByteArray := prog_1_method_38_code
def yX11_isNoStrength : MethodName := ⟨RX11, "isNoStrength", "(I)Z"⟩
abbrev cX11_isNoHeight : ByteArray := prog_1_method_39_code
def yX11_isNoHeight : MethodName := ⟨RX11, "isNoHeight", "(I)Z"⟩
abbrev cX11_isField : ByteArray := prog_1_method_40_code
def yX11_isField : MethodName := ⟨RX11, "isField", "(I)Z"⟩
abbrev cX11_hungAt : ByteArray := prog_1_method_41_code
def yX11_hungAt : MethodName := ⟨RX11, "hungAt", "([II)I"⟩
def RX12 : String := "FlameBendModel"
def TX12 : u_T := fun k => match k with
  | 0 => ("FlameBendModel", "signs", "[I", true)
  | 1 => ("FlameBendModel", "signMany", "I", false)
  | 2 => ("FlameBendModel", "lineOf", "[I", true)
  | 3 => ("FlameBendModel", "strengthOf", "[I", true)
  | 4 => ("FlameBendModel", "waterOf", "[I", true)
  | 5 => ("FlameBendModel", "backOf", "[I", true)
  | 6 => ("FlameBendModel", "passes", "I", false)
  | 7 => ("FlameBendModel", "tried", "I", false)
  | 8 => ("FlameBendModel", "table", "[I", true)
  | 9 => ("FlameBendModel", "numbers", "[I", true)
  | 10 => ("FlameBendModel", "bends", "[I", true)
  | 11 => ("FlameBendModel", "wished", "[I", true)
  | 12 => ("FlameBendModel", "itemLine", "[I", true)
  | 13 => ("FlameBendModel", "itemStrength", "[I", true)
  | 14 => ("FlameBendModel", "itemWater", "[I", true)
  | 15 => ("FlameBendModel", "itemBack", "[I", true)
  | 16 => ("FlameBendModel", "items", "I", false)
  | 17 => ("FlameBendModel", "worstThen", "I", false)
  | 18 => ("FlameBendModel", "reading", "[I", true)
  | 19 => ("FlameBendModel", "isRead", "[Z", true)
  | 20 => ("FlameBendModel", "readSum", "I", false)
  | 21 => ("FlameBendModel", "readMany", "I", false)
  | 22 => ("FlameBendModel", "spanLow", "[I", true)
  | 23 => ("FlameBendModel", "spanHigh", "[I", true)
  | 24 => ("FlameBendModel", "weldLine", "[I", true)
  | 25 => ("FlameBendModel", "weldPull", "[I", true)
  | 26 => ("FlameBendModel", "welds", "I", false)
  | 27 => ("FlameBendModel", "orderOf", "[I", true)
  | 28 => ("FlameBendModel", "bestOrder", "[I", true)
  | 29 => ("FlameBendModel", "smithOf", "[I", true)
  | 30 => ("FlameBendModel", "bestSmith", "[I", true)
  | _ => ("FlameBendModel", "busy", "[I", true)
def tyX12 : Nat → FieldType := fun k => match k with
  | 0 => .array .int
  | 1 => .int
  | 2 => .array .int
  | 3 => .array .int
  | 4 => .array .int
  | 5 => .array .int
  | 6 => .int
  | 7 => .int
  | 8 => .array .int
  | 9 => .array .int
  | 10 => .array .int
  | 11 => .array .int
  | 12 => .array .int
  | 13 => .array .int
  | 14 => .array .int
  | 15 => .array .int
  | 16 => .int
  | 17 => .int
  | 18 => .array .int
  | 19 => .array .boolean
  | 20 => .int
  | 21 => .int
  | 22 => .array .int
  | 23 => .array .int
  | 24 => .array .int
  | 25 => .array .int
  | 26 => .int
  | 27 => .array .int
  | 28 => .array .int
  | 29 => .array .int
  | 30 => .array .int
  | _ => .array .int
abbrev wsX120 : List Cond := u_ws RX12 TX12 32
theorem nmX12 : ∀ a, a < 32 → ∀ b, b < 32 → a ≠ b → (TX12 a).2.1 ≠ (TX12 b).2.1 := by decide +kernel
theorem tyX12_ok : ∀ k, k < 32 → parseFieldDescriptor (TX12 k).2.2.1 = some (tyX12 k) := by decide +kernel
abbrev cX12_init : ByteArray := prog_14_method_1_code
def yX12_init : MethodName := ⟨RX12, "<init>", "()V"⟩
abbrev cX12_in : ByteArray := prog_14_method_3_code
def yX12_in : MethodName := ⟨RX12, "in", "(JJJ)Z"⟩
abbrev cX12_size : ByteArray := prog_14_method_4_code
def yX12_size : MethodName := ⟨RX12, "size", "(I)I"⟩
abbrev cX12_isLine : ByteArray := prog_14_method_5_code
def yX12_isLine : MethodName := ⟨RX12, "isLine", "(I)Z"⟩
abbrev cX12_isCorner : ByteArray := prog_14_method_6_code
def yX12_isCorner : MethodName := ⟨RX12, "isCorner", "(I)Z"⟩
abbrev cX12_say : ByteArray := prog_14_method_7_code
def yX12_say : MethodName := ⟨RX12, "say", "(I)I"⟩
abbrev cX12_wipe : ByteArray := prog_14_method_8_code
def yX12_wipe : MethodName := ⟨RX12, "wipe", "()I"⟩
abbrev cX12_stepOf : ByteArray := prog_14_method_9_code
def yX12_stepOf : MethodName := ⟨RX12, "stepOf", "(II)I"⟩
abbrev cX12_fault : ByteArray := prog_14_method_10_code
def yX12_fault : MethodName := ⟨RX12, "fault", "()I"⟩
abbrev cX12_saidPasses : ByteArray := prog_14_method_11_code
def yX12_saidPasses : MethodName := ⟨RX12, "saidPasses", "()I"⟩
abbrev cX12_take : ByteArray := prog_14_method_12_code
def yX12_take : MethodName := ⟨RX12, "take", "()I"⟩
abbrev cX12_strike : ByteArray := prog_14_method_13_code
def yX12_strike : MethodName := ⟨RX12, "strike", "(I)I"⟩
abbrev cX12_partOf : ByteArray := prog_14_method_14_code
def yX12_partOf : MethodName := ⟨RX12, "partOf", "(I)I"⟩
abbrev cX12_bentBy : ByteArray := prog_14_method_15_code
def yX12_bentBy : MethodName := ⟨RX12, "bentBy", "(I)I"⟩
abbrev cX12_timeOf : ByteArray := prog_14_method_16_code
def yX12_timeOf : MethodName := ⟨RX12, "timeOf", "(I)I"⟩
abbrev cX12_pass : ByteArray := prog_14_method_17_code
def yX12_pass : MethodName := ⟨RX12, "pass", "(II)I"⟩
abbrev cX12_table : ByteArray := prog_14_method_18_code
def yX12_table : MethodName := ⟨RX12, "table", "(III)I"⟩
abbrev cX12_mostOf : ByteArray := prog_14_method_19_code
def yX12_mostOf : MethodName := ⟨RX12, "mostOf", "(I)I"⟩
abbrev cX12_set : ByteArray := prog_14_method_20_code
def yX12_set : MethodName := ⟨RX12, "set", "(II)I"⟩
abbrev cX12_findBends : ByteArray := prog_14_method_21_code
def yX12_findBends : MethodName := ⟨RX12, "findBends", "(I)V"⟩
abbrev cX12_heightAt : ByteArray := prog_14_method_22_code
def yX12_heightAt : MethodName := ⟨RX12, "heightAt", "(I)I"⟩
abbrev cX12_bend : ByteArray := prog_14_method_23_code
def yX12_bend : MethodName := ⟨RX12, "bend", "(I)I"⟩
abbrev cX12_height : ByteArray := prog_14_method_24_code
def yX12_height : MethodName := ⟨RX12, "height", "(I)I"⟩
abbrev cX12_wish : ByteArray := prog_14_method_25_code
def yX12_wish : MethodName := ⟨RX12, "wish", "(II)I"⟩
abbrev cX12_above : ByteArray := prog_14_method_26_code
def yX12_above : MethodName := ⟨RX12, "above", "(IIIII)I"⟩
abbrev cX12_offAt : ByteArray := prog_14_method_27_code
def yX12_offAt : MethodName := ⟨RX12, "offAt", "(I)I"⟩
abbrev cX12_missAt : ByteArray := prog_14_method_28_code
def yX12_missAt : MethodName := ⟨RX12, "missAt", "(I)I"⟩
abbrev cX12_miss : ByteArray := prog_14_method_29_code
def yX12_miss : MethodName := ⟨RX12, "miss", "(I)I"⟩
abbrev cX12_worstOf : ByteArray := prog_14_method_30_code
def yX12_worstOf : MethodName := ⟨RX12, "worstOf", "()I"⟩
abbrev cX12_worstBy : ByteArray := prog_14_method_31_code
def yX12_worstBy : MethodName := ⟨RX12, "worstBy", "(I)I"⟩
abbrev cX12_worst : ByteArray := prog_14_method_32_code
def yX12_worst : MethodName := ⟨RX12, "worst", "()I"⟩
abbrev cX12_twistAt : ByteArray := prog_14_method_33_code
def yX12_twistAt : MethodName := ⟨RX12, "twistAt", "(I)I"⟩
abbrev cX12_isField : ByteArray := prog_14_method_34_code
def yX12_isField : MethodName := ⟨RX12, "isField", "(I)Z"⟩
abbrev cX12_twist : ByteArray := prog_14_method_35_code
def yX12_twist : MethodName := ⟨RX12, "twist", "(I)I"⟩
abbrev cX12_bound : ByteArray := prog_14_method_36_code
def yX12_bound : MethodName := ⟨RX12, "bound", "()I"⟩
abbrev cX12_item : ByteArray := prog_14_method_37_code
def yX12_item : MethodName := ⟨RX12, "item", "(IIZZ)I"⟩
abbrev cX12_tryItem : ByteArray := prog_14_method_38_code
def yX12_tryItem : MethodName := ⟨RX12, "tryItem", "(I)V"⟩
abbrev cX12_worstWith : ByteArray := prog_14_method_39_code
def yX12_worstWith : MethodName := ⟨RX12, "worstWith", "(I)I"⟩
abbrev cX12_ones : ByteArray := prog_14_method_40_code
def yX12_ones : MethodName := ⟨RX12, "ones", "(I)I"⟩
abbrev cX12_chosen : ByteArray := prog_14_method_41_code
def yX12_chosen : MethodName := ⟨RX12, "chosen", "(II)I"⟩
abbrev cX12_nextItem : ByteArray := prog_14_method_42_code
def yX12_nextItem : MethodName := ⟨RX12, "nextItem", "(I)I"⟩
abbrev cX12_next : ByteArray := prog_14_method_43_code
def yX12_next : MethodName := ⟨RX12, "next", "(I)I"⟩
abbrev cX12_steps : ByteArray := prog_14_method_44_code
def yX12_steps : MethodName := ⟨RX12, "steps", "(I)I"⟩
abbrev cX12_read : ByteArray := prog_14_method_45_code
def yX12_read : MethodName := ⟨RX12, "read", "(II)I"⟩
abbrev cX12_forget : ByteArray := prog_14_method_46_code
def yX12_forget : MethodName := ⟨RX12, "forget", "(I)I"⟩
abbrev cX12_hangs : ByteArray := prog_14_method_47_code
def yX12_hangs : MethodName := ⟨RX12, "hangs", "()Z"⟩
abbrev cX12_flatAt : ByteArray := prog_14_method_48_code
def yX12_flatAt : MethodName := ⟨RX12, "flatAt", "(I)I"⟩
abbrev cX12_flat : ByteArray := prog_14_method_49_code
def yX12_flat : MethodName := ⟨RX12, "flat", "(I)I"⟩
abbrev cX12_odd : ByteArray := prog_14_method_50_code
def yX12_odd : MethodName := ⟨RX12, "odd", "(I)I"⟩
abbrev cX12_findRead : ByteArray := prog_14_method_51_code
def yX12_findRead : MethodName := ⟨RX12, "findRead", "(I)V"⟩
abbrev cX12_lowest : ByteArray := prog_14_method_52_code
def yX12_lowest : MethodName := ⟨RX12, "lowest", "(JJI)J"⟩
abbrev cX12_bendRead : ByteArray := prog_14_method_53_code
def yX12_bendRead : MethodName := ⟨RX12, "bendRead", "(II)I"⟩
abbrev cX12_hasPass : ByteArray := prog_14_method_54_code
def yX12_hasPass : MethodName := ⟨RX12, "hasPass", "(I)Z"⟩
abbrev cX12_skill : ByteArray := prog_14_method_55_code
def yX12_skill : MethodName := ⟨RX12, "skill", "(I)J"⟩
abbrev cX12_attempt : ByteArray := prog_14_method_56_code
def yX12_attempt : MethodName := ⟨RX12, "attempt", "(III)I"⟩
abbrev cX12_span : ByteArray := prog_14_method_57_code
def yX12_span : MethodName := ⟨RX12, "span", "(II)I"⟩
abbrev cX12_widest : ByteArray := prog_14_method_58_code
def yX12_widest : MethodName := ⟨RX12, "widest", "()I"⟩
abbrev cX12_weld : ByteArray := prog_14_method_59_code
def yX12_weld : MethodName := ⟨RX12, "weld", "(II)I"⟩
abbrev cX12_worstByOrder : ByteArray := prog_14_method_60_code
def yX12_worstByOrder : MethodName := ⟨RX12, "worstByOrder", "()I"⟩
abbrev cX12_nextOrder : ByteArray := prog_14_method_61_code
def yX12_nextOrder : MethodName := ⟨RX12, "nextOrder", "()Z"⟩
abbrev cX12_exchange : ByteArray := prog_14_method_62_code
def yX12_exchange : MethodName := ⟨RX12, "exchange", "(II)V"⟩
abbrev cX12_order : ByteArray := prog_14_method_63_code
def yX12_order : MethodName := ⟨RX12, "order", "(I)I"⟩
abbrev cX12_longest : ByteArray := prog_14_method_64_code
def yX12_longest : MethodName := ⟨RX12, "longest", "(I)I"⟩
abbrev cX12_nextShares : ByteArray := prog_14_method_65_code
def yX12_nextShares : MethodName := ⟨RX12, "nextShares", "(I)Z"⟩
abbrev cX12_shared : ByteArray := prog_14_method_66_code
def yX12_shared : MethodName := ⟨RX12, "shared", "(II)I"⟩
abbrev cX12_told : ByteArray := prog_14_method_67_code
def yX12_told : MethodName := ⟨RX12, "told", "(I)I"⟩
def RJ6 : String := "java/lang/Integer"
def TJ6 : u_T := fun k => match k with
  | _ => ("", "", "", false)
def tyJ6 : Nat → FieldType := fun k => match k with
  | _ => .int
abbrev wsJ60 : List Cond := u_ws RJ6 TJ6 0
theorem nmJ6 : ∀ a, a < 0 → ∀ b, b < 0 → a ≠ b → (TJ6 a).2.1 ≠ (TJ6 b).2.1 := by decide +kernel
theorem tyJ6_ok : ∀ k, k < 0 → parseFieldDescriptor (TJ6 k).2.2.1 = some (tyJ6 k) := by decide +kernel
abbrev cJ6_bitCount_0f7a4 : ByteArray := prog_15_method_49_code
def yJ6_bitCount_0f7a4 : MethodName := ⟨RJ6, "bitCount", "(I)I"⟩
def RJ9 : String := "java/lang/Math"
def TJ9 : u_T := fun k => match k with
  | _ => ("", "", "", false)
def tyJ9 : Nat → FieldType := fun k => match k with
  | _ => .int
abbrev wsJ90 : List Cond := u_ws RJ9 TJ9 0
theorem nmJ9 : ∀ a, a < 0 → ∀ b, b < 0 → a ≠ b → (TJ9 a).2.1 ≠ (TJ9 b).2.1 := by decide +kernel
theorem tyJ9_ok : ∀ k, k < 0 → parseFieldDescriptor (TJ9 k).2.2.1 = some (tyJ9 k) := by decide +kernel
abbrev cJ9_abs_0f7a4 : ByteArray := prog_16_method_59_code
def yJ9_abs_0f7a4 : MethodName := ⟨RJ9, "abs", "(I)I"⟩
abbrev cJ9_abs_067f4 : ByteArray := prog_16_method_61_code
def yJ9_abs_067f4 : MethodName := ⟨RJ9, "abs", "(J)J"⟩
abbrev cJ9_max_7cf53 : ByteArray := prog_16_method_65_code
def yJ9_max_7cf53 : MethodName := ⟨RJ9, "max", "(II)I"⟩
abbrev cJ9_min_7cf53 : ByteArray := prog_16_method_69_code
def yJ9_min_7cf53 : MethodName := ⟨RJ9, "min", "(II)I"⟩
def RJ10 : String := "java/lang/System"
def TJ10 : u_T := fun k => match k with
  | _ => ("", "", "", false)
def tyJ10 : Nat → FieldType := fun k => match k with
  | _ => .int
abbrev wsJ100 : List Cond := u_ws RJ10 TJ10 0
theorem nmJ10 : ∀ a, a < 0 → ∀ b, b < 0 → a ≠ b → (TJ10 a).2.1 ≠ (TJ10 b).2.1 := by decide +kernel
theorem tyJ10_ok : ∀ k, k < 0 → parseFieldDescriptor (TJ10 k).2.2.1 = some (tyJ10 k) := by decide +kernel
def RJ7 : String := "java/util/Arrays"
def TJ7 : u_T := fun k => match k with
  | _ => ("", "", "", false)
def tyJ7 : Nat → FieldType := fun k => match k with
  | _ => .int
abbrev wsJ70 : List Cond := u_ws RJ7 TJ7 0
theorem nmJ7 : ∀ a, a < 0 → ∀ b, b < 0 → a ≠ b → (TJ7 a).2.1 ≠ (TJ7 b).2.1 := by decide +kernel
theorem tyJ7_ok : ∀ k, k < 0 → parseFieldDescriptor (TJ7 k).2.2.1 = some (tyJ7 k) := by decide +kernel
abbrev cJ7_fill_53178 : ByteArray := prog_18_method_103_code
def yJ7_fill_53178 : MethodName := ⟨RJ7, "fill", "([II)V"⟩
def RL : String := "FlameBendLaw"
abbrev cL_law : ByteArray := code
def yL_law : MethodName := ⟨RL, "law", "([I)Z"⟩
abbrev vwCl : List vw_C := [(RX0, TX0, 2), (RX1, TX1, 5), (RX2, TX2, 2), (RX3, TX3, 6), (RX4, TX4, 4), (RX5, TX5, 2), (RX6, TX6, 4), (RX7, TX7, 6), (RX8, TX8, 2), (RX9, TX9, 9), (RX10, TX10, 2), (RX11, TX11, 11), (RX12, TX12, 32)]
end
section
/-! Own rows: contracts over fixed worlds (no new cells), the pure side's guards, and the kit's rows in a short form. -/
def vin (i : Int32) (n : Nat) : Bool := !(decide (i < 0) || decide (n ≤ i.toNatClampNeg))
theorem vin_in {i : Int32} {n : Nat} (h : vin i n = true) : vp_in i n := by
  unfold vin at h
  unfold vp_in
  simpa using h
theorem vin_of {i : Int32} {n : Nat} (h : vp_in i n) : vin i n = true := by
  unfold vin
  unfold vp_in at h
  simpa using h
def grd {α : Type} (b : Bool) (x : Option α) : Option α := match b with
  | true => x
  | false => none
theorem grd_b {α : Type} {b : Bool} {x : Option α} {o : α} (h : grd b x = some o) : b = true := by
  cases b
  · cases h
  · rfl
theorem grd_x {α : Type} {b : Bool} {x : Option α} {o : α} (h : grd b x = some o) : x = some o := by
  cases b
  · cases h
  · exact h
def nzi (x : Int32) : Bool := !(decide (x = 0))
theorem nzi_ne {x : Int32} (h : nzi x = true) : ¬ x = 0 := by
  unfold nzi at h
  simpa using h
def nzl (x : Int64) : Bool := !(decide (x = 0))
theorem nzl_ne {x : Int64} (h : nzl x = true) : ¬ x = 0 := by
  unfold nzl at h
  simpa using h
def nmd {α β : Type} (e : α) (k : α → β) : β := k e
theorem g_nm {α β : Type} {e x : α} {k : α → Option β} {o : β} (h : nmd e k = some o) (hx : x = e) : k x = some o := by
  subst hx
  exact h
theorem g_t {α : Type} {c : Prop} {i : Decidable c} {a b : Option α} {o : α} (h : (@ite (Option α) c i a b) = some o) (hc : c) : a = some o := by
  rw [if_pos hc] at h
  exact h
theorem g_f {α : Type} {c : Prop} {i : Decidable c} {a b : Option α} {o : α} (h : (@ite (Option α) c i a b) = some o) (hc : ¬ c) : b = some o := by
  rw [if_neg hc] at h
  exact h
theorem g_bd {α β : Type} {x : Option α} {k : α → Option β} {o : β} (h : Option.bind x k = some o) : ∃ y, x = some y ∧ k y = some o := by
  cases x with
  | none => cases h
  | some y => exact ⟨y, rfl, h⟩
/-- decoded rows of a method, by one check -/
def dcOk (cc : ByteArray) : List (Nat × Instr × Nat) → Bool
  | [] => true
  | q :: r => decide (decode cc q.1 = .ok (q.2.1, q.2.2)) && dcOk cc r
theorem dc_mem {cc : ByteArray} {L : List (Nat × Instr × Nat)} (h : dcOk cc L = true) : ∀ q ∈ L, decode cc q.1 = .ok (q.2.1, q.2.2) := by
  induction L with
  | nil => intro q hq; cases hq
  | cons a r ih =>
    simp only [dcOk, Bool.and_eq_true, decide_eq_true_eq] at h
    intro q hq
    rcases List.mem_cons.mp hq with rfl | hq
    · exact h.1
    · exact ih h.2 q hq
theorem dc {cc : ByteArray} {L : List (Nat × Instr × Nat)} (h : dcOk cc L = true) (k : Nat) {pc n : Nat} {i : Instr} (e : L[k]? = some (pc, i, n)) : decode cc pc = .ok (i, n) := dc_mem h (pc, i, n) (List.mem_of_getElem? e)
/-- the addresses of a world -/
def inW (w : va_W) : Nat → Prop := fun q => ∃ (k : Nat) (e : va_E), w[k]? = some (q, e)
theorem va_D.inw {A : Nat → Prop} {w : va_W} (h : va_D A w) : va_D (inW w) w := ⟨h.1, fun k q hk => ⟨k, q.2, hk⟩⟩
def mix (ws : va_W) : List Nat → va_W → va_W
  | i :: is, e :: es => mix (ws.set i e) is es
  | _, _ => ws
theorem mix_get : ∀ (is : List Nat) (w : va_W) (ws : va_W) (k : Nat) (q : Nat × va_E), is.length = w.length → (mix ws is w)[k]? = some q → (∃ j : Nat, is[j]? = some k ∧ w[j]? = some q) ∨ (k ∉ is ∧ ws[k]? = some q) := by
  intro is
  induction is with
  | nil =>
    intro w ws k q hl h
    cases w with
    | nil => exact Or.inr ⟨List.not_mem_nil, h⟩
    | cons a b => simp at hl
  | cons i is ih =>
    intro w ws k q hl h
    cases w with
    | nil => simp at hl
    | cons e es =>
      have hl' : is.length = es.length := by simpa using hl
      rcases ih es (ws.set i e) k q hl' h with ⟨j, h1, h2⟩ | ⟨h1, h2⟩
      · exact Or.inl ⟨j + 1, by simpa using h1, by simpa using h2⟩
      · rw [List.getElem?_set] at h2
        by_cases hk : i = k
        · rw [if_pos hk] at h2
          by_cases hlt : i < ws.length
          · rw [if_pos hlt] at h2
            exact Or.inl ⟨0, by simp [hk], by simpa using h2⟩
          · rw [if_neg hlt] at h2
            cases h2
        · rw [if_neg hk] at h2
          exact Or.inr ⟨fun hm => (List.mem_cons.mp hm).elim (fun h3 => hk h3.symm) h1, h2⟩
theorem mix_ok {D : va_G} {cl : List vw_C} {A : Nat → Prop} {ws w w' : va_W} {H H1 : Heap} (hP : va_P D cl ws H) (hD : va_D A ws) (isC : List Nat) (hsel : isC.map (fun i => ws[i]?) = w.map some) (hadr : w'.map Prod.fst = w.map Prod.fst)
    (hk : ∀ q : Nat, q < H.size → ¬ inW w q → H1[q]? = H[q]?) (hP1 : va_P D cl w' H1) : va_P D cl (mix ws isC w') H1 ∧ va_D A (mix ws isC w') := by
  have hl1 : isC.length = w.length := by have := congrArg List.length hsel; simpa using this
  have hl2 : w'.length = w.length := by have := congrArg List.length hadr; simpa using this
  have sel : ∀ (j : Nat) (q : Nat × va_E), w[j]? = some q → ∃ i, isC[j]? = some i ∧ ws[i]? = some q := by
    intro j q hq
    have h1 : (isC.map (fun i => ws[i]?))[j]? = some (some q) := by rw [hsel, List.getElem?_map, hq]; rfl
    rw [List.getElem?_map] at h1
    cases hi : isC[j]? with
    | none => rw [hi] at h1; cases h1
    | some i => rw [hi] at h1; exact ⟨i, rfl, Option.some.inj h1⟩
  have adr : ∀ (j : Nat) (q : Nat × va_E), w'[j]? = some q → ∃ q', w[j]? = some q' ∧ q'.1 = q.1 := by
    intro j q hq
    have h1 : (w'.map Prod.fst)[j]? = some q.1 := by rw [List.getElem?_map, hq]; rfl
    rw [hadr, List.getElem?_map] at h1
    cases hi : w[j]? with
    | none => rw [hi] at h1; cases h1
    | some i => rw [hi] at h1; exact ⟨i, rfl, Option.some.inj h1⟩
  have same : ∀ (k : Nat) (q : Nat × va_E), (mix ws isC w')[k]? = some q → ∃ q', ws[k]? = some q' ∧ q'.1 = q.1 := by
    intro k q hq
    rcases mix_get isC w' ws k q (hl1.trans hl2.symm) hq with ⟨j, h1, h2⟩ | ⟨-, h2⟩
    · obtain ⟨q', h3, h4⟩ := adr j q h2
      obtain ⟨i, h5, h6⟩ := sel j q' h3
      rw [h1] at h5
      cases h5
      exact ⟨q', h6, h4⟩
    · exact ⟨q, h2, rfl⟩
  refine ⟨fun k q hq => ?_, ⟨fun i j x y hx hy hxy => ?_, fun k q hq => ?_⟩⟩
  · rcases mix_get isC w' ws k q (hl1.trans hl2.symm) hq with ⟨j, h1, h2⟩ | ⟨h1, h2⟩
    · exact hP1 j q h2
    · refine (hP k q h2).kept (hk q.1 (hP k q h2).lt (fun hw => ?_))
      obtain ⟨j, e, h3⟩ := hw
      obtain ⟨i, h5, h6⟩ := sel j _ h3
      have := hD.1 k i q (q.1, e) h2 h6 rfl
      subst this
      exact h1 (List.mem_of_getElem? h5)
  · obtain ⟨x', h1, h2⟩ := same i x hx
    obtain ⟨y', h3, h4⟩ := same j y hy
    exact hD.1 i j x' y' h1 h3 (by rw [h2, h4, hxy])
  · obtain ⟨q', h1, h2⟩ := same k q hq
    rw [← h2]
    exact hD.2 k q' h1
/-- the world of a walk -/
def Wd (D : va_G) (A : Nat → Prop) (H0 : Heap) (ws : va_W) (H : Heap) (locs : List Loc) : Prop := va_P D vwCl ws H ∧ va_D A ws ∧ va_S A H0 H locs
/-- the words that a call carries on -/
def okWord : Cond → Bool
  | .methodLinkNest _ _ _ _ => true
  | w => goodWord w
def gt : List Cond := lw_tbl.filter okWord
theorem gt_warm {args : Array Value} {s : State} {w : Cond} (hw : w ∈ gt) (h : w.before args s = true) (a' : Array Value) (U : State) (hW : s.WarmedH U.vm) : w.before a' U = true := by
  have h1 : okWord w = true := (List.mem_filter.mp hw).2
  cases w with
  | methodLinkNest a i x q => exact va_Nw.use rfl (va_Nw.warmM hW (va_Nw.of rfl h))
  | _ => exact word_at hW (good_of_word h1) h
theorem in_gt {w : Cond} (k : Nat) (h : lw_tbl[k]? = some w) (h2 : okWord w = true) : w ∈ gt := List.mem_filter.mpr ⟨List.mem_of_getElem? h, h2⟩
abbrev tys3 (cI cC cZ : ClassId) : List (ClassId × FieldType) := [(cI, .int), (cC, .char), (cZ, .boolean)]
abbrev wsOf (y : MethodName) (cc : ByteArray) (maxL : Nat) (ret : Option FieldType) : List Cond := .code y cc maxL ret :: gt
abbrev rmOf (F L : Nat) : Room := { frames := F, cells := 0, slots := 0, locals := L }
def CtQ (D : va_G) (w w' : va_W) (r : Option Value) : Array Value → State → Outcome → State → Prop := fun _ st oc t => oc = .returned r ∧ va_P D vwCl w' t.heap ∧ st.heap.size ≤ t.heap.size ∧ ∀ q : Nat, q < st.heap.size → ¬ inW w q → t.heap[q]? = st.heap[q]?
/-- a method's contract over a fixed world: w before, w' behind, answer r -/
def Ctr (l : Launch) (y : MethodName) (cc : ByteArray) (maxL : Nat) (ret : Option FieldType) (F L : Nat) (D : va_G) (cI cC cZ : ClassId) (av : List Value) (w w' : va_W) (r : Option Value) : Prop :=
  Met l y (wsOf y cc maxL ret) (rmOf F L) (va_Pc av (fun U => va_P D vwCl w U.heap ∧ va_K D vwCl (tys3 cI cC cZ) U ∧ va_D (fun _ => True) w)) (CtQ D w w' r) 0 0 (inW w)
/-- what a walk stands on -/
def Cx (p : Program) (s : State) (m : MethodId) (args : Array Value) (meth : Method) (c : Code) (own : String) (cc : ByteArray) (maxL : Nat) (ret : Option FieldType) (D : va_G) (cI cC cZ : ClassId) : Prop :=
  p.tables.exec = Jvm.exec ∧ c.code = cc ∧ meth.sig.returnType = ret ∧ c.maxLocals = maxL ∧ s.vm.findClass own = some m.cls ∧ meth.locks = false ∧ (∀ w ∈ gt, w.before args s = true) ∧ va_K D vwCl (tys3 cI cC cZ) s
theorem Ctr.of {l : Launch} {y : MethodName} {cc : ByteArray} {maxL : Nat} {ret : Option FieldType} {F L : Nat} {D : va_G} {cI cC cZ : ClassId} {av : List Value} {w w' : va_W} {r : Option Value} (hy : plainName y.cls = true) (hn : (lg_sl av).length ≤ maxL)
    (body : ∀ (p : Program) (e : Env) (s : State) (m : MethodId) (args : Array Value) (below : List Frame) (meth : Method) (c : Code) (ls : Array Slot) (A : Nat → Prop) (Q : State → Prop), A = inW w → Q = MQ below (CtQ D w w' r) args s 0 0 (inW w) → Cx p s m args meth c y.cls cc maxL ret D cI cC cZ → lv_has ls maxL (lv_args 0 av) → Wd D A s.heap w s.heap [] →
      W p l e (rmOf F L) s m args below meth c s.heap [] 0 0 Q (F0 m 0 ls [])) : Ctr l y cc maxL ret F L D cI cC cZ av w w' r := by
  refine Met.ofW (cc := cc) (maxL := maxL) (ret := ret) hy rfl ?_
  intro p e s m args below meth c s₁ B hml hv
  obtain ⟨rfl, hP, hK, hD⟩ := hv
  have hts := atoms_spec (ws := wsOf y cc maxL ret) B.pre
  have hl := lv_entry av (n := maxL) hn
  rw [lg_entry_eq]
  exact body p e s m _ below meth c _ _ _ rfl rfl ⟨B.exec, B.bytes, B.returns, hml, findClass_of_methodNamed B.named, B.notSynchronized, fun w hw => hts w (List.mem_cons_of_mem _ hw), hK⟩ hl ⟨hP, hD.inw, va_S.rf⟩
theorem no_none {α : Type} {o : α} (h : (none : Option α) = some o) : False := by cases h
theorem ii {x w : Int32} {n : Int} (h : Int32.ofInt n = w) : x + Int32.ofInt n = x + w := by rw [h]
theorem sw_ne {y v : Int32} {k : Int} (h : ¬ y = v) (hv : v.toInt = k) : y.toInt ≠ k := fun e => h (Int32.toInt_inj.mp (e.trans hv.symm))
end
section
/-! The kit's rows over 'Wd' and 'Cx'. -/
/-- a field's link out of a class: pool number, class number, slot -/
def FL (own : String) (index ci k : Nat) : Prop := ∃ (C : String) (T : u_T) (N : Nat), vwCl[ci]? = some (C, T, N) ∧ k < N ∧ Cond.fieldLink own index (T k).1 (T k).2.1 (T k).2.2.1 ∈ gt ∧ (∀ w ∈ u_ws C T N, w ∈ gt)
/-- a field that may be written: its type -/
def FW (ci k : Nat) (ty : FieldType) : Prop := ∃ (C : String) (T : u_T) (N : Nat) (ty0 : Nat → FieldType), vwCl[ci]? = some (C, T, N) ∧ k < N ∧ (∀ k, k < N → parseFieldDescriptor (T k).2.2.1 = some (ty0 k)) ∧ (∀ a, a < N → ∀ b, b < N → a ≠ b → (T a).2.1 ≠ (T b).2.1) ∧ (T k).2.2.2 = false ∧ parseFieldDescriptor (T k).2.2.1 = some ty
section XR
variable {p : Program} {l : Launch} {e : Env} {R : Room} {s : State} {m : MethodId} {args : Array Value} {below : List Frame} {meth : Method} {c : Code} {H : Heap} {locs : List Loc} {cells slots : Nat} {Q : State → Prop}
variable {own : String} {cc : ByteArray} {maxL : Nat} {ret : Option FieldType} {D : va_G} {cI cC cZ : ClassId} {A : Nat → Prop} {H0 : Heap} {ws : va_W} {pc : Nat} {ls : Array Slot} {rest : List Value} {a : Nat}
theorem x_get (C : Cx p s m args meth c own cc maxL ret D cI cC cZ) (hw : Wd D A H0 ws H locs) {index ci k : Nat} (F : FL own index ci k) (q0 : Nat) {fs : List Value} (he : ws[q0]? = some (a, .inr (ci, fs))) {v : Value} (hv : fs[k]? = some v) (hdg : decode cc pc = .ok (.getfield index, 3))
    (kk : W p l e R s m args below meth c H locs cells slots Q (F0 m (pc + 3) ls (v :: rest))) : W p l e R s m args below meth c H locs cells slots Q (F0 m pc ls (.ref a :: rest)) := by
  obtain ⟨C1, T, N, hc, hk, hl, hin⟩ := F
  obtain ⟨hx, hb, -, -, hown, -, hts, hK⟩ := C
  exact va_get hx hb hts hin hown hK hw.1 q0 he hc k hk (hts _ hl) (fun _ h => h) hv hdg kk
theorem x_put (C : Cx p s m args meth c own cc maxL ret D cI cC cZ) (hw : Wd D A H0 ws H locs) {index ci k : Nat} {ty : FieldType} (F : FL own index ci k) (G : FW ci k ty) (q0 : Nat) {fs : List Value} (he : ws[q0]? = some (a, .inr (ci, fs))) {v : Value} (hn : narrow ty v = v) (hfit : fits ty v = true) (hl : k < fs.length) (hdg : decode cc pc = .ok (.putfield index, 3))
    (kk : ∀ (H1 : Heap) (locs1 : List Loc), Wd D A H0 (ws.set q0 (a, .inr (ci, fs.set k v))) H1 locs1 → W p l e R s m args below meth c H1 locs1 cells slots Q (F0 m (pc + 3) ls rest)) : W p l e R s m args below meth c H locs cells slots Q (F0 m pc ls (v :: .ref a :: rest)) := by
  obtain ⟨C1, T, N, hc, hk, hlk, hin⟩ := F
  obtain ⟨C2, T2, N2, ty0, hc2, hk2, hty, hnm, hfin, hd⟩ := G
  rw [hc] at hc2
  cases hc2
  obtain ⟨hx, hb, -, -, hown, -, hts, hK⟩ := C
  exact va_put hx hb hts hin ty0 hty hnm hown hK hw.1 hw.2.1 hw.2.2 q0 he hc k hk (hts _ hlk) (fun _ h => h) hfin hd hn hfit hl hdg (fun H1 locs1 h1 h2 h3 => kk H1 locs1 ⟨h1, h2, h3⟩)
theorem x_iald (C : Cx p s m args meth c own cc maxL ret D cI cC cZ) (hw : Wd D A H0 ws H locs) (q0 : Nat) {n : Nat} {f : Nat → Int32} (ha : ws[q0]? = some (a, .inl (cI, n, .inl f))) {i : Int32} (hin : vin i n = true) (hdg : decode cc pc = .ok (.iaload, 1))
    (kk : W p l e R s m args below meth c H locs cells slots Q (F0 m (pc + 1) ls (.int (f i.toNatClampNeg) :: rest))) : W p l e R s m args below meth c H locs cells slots Q (F0 m pc ls (.int i :: .ref a :: rest)) :=
  va_iald C.1 C.2.1 C.2.2.2.2.2.2.2 hw.1 q0 0 ha rfl (vin_in hin) hdg kk
theorem x_cald (C : Cx p s m args meth c own cc maxL ret D cI cC cZ) (hw : Wd D A H0 ws H locs) (q0 : Nat) {n : Nat} {f : Nat → Int32} (ha : ws[q0]? = some (a, .inl (cC, n, .inl f))) {i : Int32} (hin : vin i n = true) (hdg : decode cc pc = .ok (.caload, 1))
    (kk : W p l e R s m args below meth c H locs cells slots Q (F0 m (pc + 1) ls (.int (f i.toNatClampNeg) :: rest))) : W p l e R s m args below meth c H locs cells slots Q (F0 m pc ls (.int i :: .ref a :: rest)) :=
  va_cald C.1 C.2.1 C.2.2.2.2.2.2.2 hw.1 q0 1 ha rfl (vin_in hin) hdg kk
theorem x_zald (C : Cx p s m args meth c own cc maxL ret D cI cC cZ) (hw : Wd D A H0 ws H locs) (q0 : Nat) {n : Nat} {f : Nat → Int32} (ha : ws[q0]? = some (a, .inl (cZ, n, .inl f))) {i : Int32} (hin : vin i n = true) (hdg : decode cc pc = .ok (.baload, 1))
    (kk : W p l e R s m args below meth c H locs cells slots Q (F0 m (pc + 1) ls (.int (f i.toNatClampNeg) :: rest))) : W p l e R s m args below meth c H locs cells slots Q (F0 m pc ls (.int i :: .ref a :: rest)) :=
  va_zald C.1 C.2.1 C.2.2.2.2.2.2.2 hw.1 q0 2 ha rfl (vin_in hin) hdg kk
theorem x_iast (C : Cx p s m args meth c own cc maxL ret D cI cC cZ) (hw : Wd D A H0 ws H locs) (q0 : Nat) {n : Nat} {f : Nat → Int32} (ha : ws[q0]? = some (a, .inl (cI, n, .inl f))) {i x : Int32} (hin : vin i n = true) (hdg : decode cc pc = .ok (.iastore, 1))
    (kk : ∀ (H1 : Heap) (locs1 : List Loc), Wd D A H0 (ws.set q0 (a, .inl (cI, n, .inl (upd f i.toNatClampNeg x)))) H1 locs1 → W p l e R s m args below meth c H1 locs1 cells slots Q (F0 m (pc + 1) ls rest)) : W p l e R s m args below meth c H locs cells slots Q (F0 m pc ls (.int x :: .int i :: .ref a :: rest)) :=
  va_iast C.1 C.2.1 C.2.2.2.2.2.2.2 hw.1 hw.2.1 hw.2.2 q0 0 ha rfl (vin_in hin) hdg (fun H1 locs1 h1 h2 h3 => kk H1 locs1 ⟨h1, h2, h3⟩)
theorem x_zast (C : Cx p s m args meth c own cc maxL ret D cI cC cZ) (hw : Wd D A H0 ws H locs) (q0 : Nat) {n : Nat} {f : Nat → Int32} (ha : ws[q0]? = some (a, .inl (cZ, n, .inl f))) {i x : Int32} (hin : vin i n = true) (hdg : decode cc pc = .ok (.bastore, 1))
    (kk : ∀ (H1 : Heap) (locs1 : List Loc), Wd D A H0 (ws.set q0 (a, .inl (cZ, n, .inl (upd f i.toNatClampNeg (vp_nar .boolean x))))) H1 locs1 → W p l e R s m args below meth c H1 locs1 cells slots Q (F0 m (pc + 1) ls rest)) : W p l e R s m args below meth c H locs cells slots Q (F0 m pc ls (.int x :: .int i :: .ref a :: rest)) :=
  va_zast C.1 C.2.1 C.2.2.2.2.2.2.2 hw.1 hw.2.1 hw.2.2 q0 2 ha rfl (vin_in hin) hdg (fun H1 locs1 h1 h2 h3 => kk H1 locs1 ⟨h1, h2, h3⟩)
theorem x_cast (C : Cx p s m args meth c own cc maxL ret D cI cC cZ) (hw : Wd D A H0 ws H locs) (q0 : Nat) {n : Nat} {f : Nat → Int32} (ha : ws[q0]? = some (a, .inl (cC, n, .inl f))) {i x : Int32} (hin : vin i n = true) (hdg : decode cc pc = .ok (.castore, 1))
    (kk : ∀ (H1 : Heap) (locs1 : List Loc), Wd D A H0 (ws.set q0 (a, .inl (cC, n, .inl (upd f i.toNatClampNeg (vp_nar .char x))))) H1 locs1 → W p l e R s m args below meth c H1 locs1 cells slots Q (F0 m (pc + 1) ls rest)) : W p l e R s m args below meth c H locs cells slots Q (F0 m pc ls (.int x :: .int i :: .ref a :: rest)) :=
  va_cast C.1 C.2.1 C.2.2.2.2.2.2.2 hw.1 hw.2.1 hw.2.2 q0 1 ha rfl (vin_in hin) hdg (fun H1 locs1 h1 h2 h3 => kk H1 locs1 ⟨h1, h2, h3⟩)
theorem x_alen (C : Cx p s m args meth c own cc maxL ret D cI cC cZ) (hw : Wd D A H0 ws H locs) (q0 : Nat) {n : Nat} {f : Nat → Int32} (ha : ws[q0]? = some (a, .inl (cI, n, .inl f))) (hdg : decode cc pc = .ok (.arraylength, 1))
    (kk : W p l e R s m args below meth c H locs cells slots Q (F0 m (pc + 1) ls (.int (Int32.ofNat n) :: rest))) : W p l e R s m args below meth c H locs cells slots Q (F0 m pc ls (.ref a :: rest)) :=
  va_alen C.1 C.2.1 C.2.2.2.2.2.2.2 hw.1 q0 0 ha rfl rfl hdg kk
theorem x_ldc (C : Cx p s m args meth c own cc maxL ret D cI cC cZ) {index : Nat} {v : Int32} (hm : Cond.constant own index v ∈ gt) (hdg : decode cc pc = .ok (.ldc index, 2))
    (kk : W p l e R s m args below meth c H locs cells slots Q (F0 m (pc + 2) ls (.int v :: rest))) : W p l e R s m args below meth c H locs cells slots Q (F0 m pc ls rest) :=
  lv_ldc C.1 C.2.1 C.2.2.2.2.1 (C.2.2.2.2.2.2.1 _ hm) hdg kk
theorem x_ldc2 (C : Cx p s m args meth c own cc maxL ret D cI cC cZ) {index : Nat} {v : Int64} (hm : Cond.constantLong own index v ∈ gt) (hdg : decode cc pc = .ok (.ldc2_w index, 3))
    (kk : W p l e R s m args below meth c H locs cells slots Q (F0 m (pc + 3) ls (.long v :: rest))) : W p l e R s m args below meth c H locs cells slots Q (F0 m pc ls rest) :=
  lv_ldc2 C.1 C.2.1 C.2.2.2.2.1 (C.2.2.2.2.2.2.1 _ hm) hdg kk
end XR
/-- what the tables say of a method that is called -/
def MB (y : MethodName) (cc : ByteArray) (maxL : Nat) (ret : Option FieldType) (n : Nat) : Prop := Cond.code y cc maxL ret ∈ gt ∧ Cond.initialized y.cls ∈ gt ∧ (y.cls ≠ "java/lang/invoke/MethodHandle" ∧ y.cls ≠ "java/lang/invoke/VarHandle" ∧ (parseMethodDescriptor y.desc).map (fun d => d.parameters.length) = some n)
def MV (y : MethodName) : Prop := Cond.instanceMethod y ∈ gt ∧ Cond.selects y.cls y y ∈ gt
theorem Ctr.blind {D : va_G} {w : va_W} {av : List Value} {cI cC cZ : ClassId} : FrameBlind (va_Pc av (fun U => va_P D vwCl w U.heap ∧ va_K D vwCl (tys3 cI cC cZ) U ∧ va_D (fun _ => True) w)) := by
  intro a U g mk h
  obtain ⟨h1, h2, h3, h4⟩ := h
  exact ⟨h1, h2, va_K.moved (u := U) (U := U.calling g mk a) (Vm.Alike.refl U.vm) h3, h4⟩
theorem sel_P {D : va_G} {ws w : va_W} {H : Heap} (hP : va_P D vwCl ws H) (isC : List Nat) (hsel : isC.map (fun i => ws[i]?) = w.map some) : va_P D vwCl w H := by
  intro j q hq
  have h1 : (isC.map (fun i => ws[i]?))[j]? = some (some q) := by rw [hsel, List.getElem?_map, hq]; rfl
  rw [List.getElem?_map] at h1
  cases hi : isC[j]? with
  | none => rw [hi] at h1; cases h1
  | some i => rw [hi] at h1; exact hP i q (Option.some.inj h1)
section XC
variable {p : Program} {l : Launch} {e : Env} {F0' L0 : Nat} {s : State} {m : MethodId} {args : Array Value} {below : List Frame} {meth : Method} {c : Code} {H : Heap} {locs : List Loc} {Q : State → Prop}
variable {own : String} {cc : ByteArray} {maxL : Nat} {ret : Option FieldType} {D : va_G} {cI cC cZ : ClassId} {A : Nat → Prop} {H0 : Heap} {ws : va_W} {pc : Nat} {ls : Array Slot} {rest st : List Value} {a : Nat}
theorem x_behind {R : Room} {y : MethodName} {w w' : va_W} {r : Option Value} {a1 : Array Value} (hw : Wd D A H0 ws H locs) (isC : List Nat) (hsel : isC.map (fun i => ws[i]?) = w.map some) (hadr : w'.map Prod.fst = w.map Prod.fst)
    (hr : va_Run p l e R s m args below meth c H locs 0 0 0 0 (F0 m pc ls st) rest (CtQ D w w' r a1) (inW w))
    (kk : ∀ (H1 : Heap) (locs1 : List Loc), Wd D A H0 (mix ws isC w') H1 locs1 → W p l e R s m args below meth c H1 locs1 0 0 Q (F0 m (pc + 3) ls (r.toList ++ rest))) : W p l e R s m args below meth c H locs 0 0 Q (F0 m pc ls st) := by
  intro T hT X
  obtain ⟨v, st₀, t, T', L, h0, X', hL, e1, e2, ⟨hv, hP1, hz, hk⟩, stp⟩ := hr T hT X
  cases hv
  rw [h0] at hz hk
  obtain ⟨hP, hD, hS⟩ := hw
  have hin : ∀ q, inW w q → A q := by
    intro q hq
    obtain ⟨j, e, h3⟩ := hq
    have h1 : (isC.map (fun i => ws[i]?))[j]? = some (some (q, e)) := by rw [hsel, List.getElem?_map, h3]; rfl
    rw [List.getElem?_map] at h1
    cases hi : isC[j]? with
    | none => rw [hi] at h1; cases h1
    | some i => rw [hi] at h1; exact hD.2 i (q, e) (Option.some.inj h1)
  obtain ⟨hP2, hD2⟩ := mix_ok (H1 := t.heap) hP hD isC hsel hadr hk hP1
  have hS2 : va_S A H0 t.heap (locs ++ L) := ⟨Nat.le_trans hS.1 hz, fun q h1 h2 => by rw [hk q (Nat.lt_of_lt_of_le h1 hS.1) (fun z => h2 (hin q z))]; exact hS.2.1 q h1 h2, fun q hq => by
      rcases List.mem_append.mp hq with h | h
      · exact hS.2.2 q h
      · exact hin _ (hL q h)⟩
  obtain ⟨t2, a2, b2⟩ := kk t.heap (locs ++ L) ⟨hP2, hD2, hS2⟩ T' e1 X'
  exact ⟨t2, stp t2 a2, b2⟩
theorem x_callB (C : Cx p s m args meth c own cc maxL ret D cI cC cZ) {y : MethodName} {bytes : ByteArray} {mL n index : Nat} {rt : Option FieldType} {F L : Nat} (M : MB y bytes mL rt n) (K : Cond.methodLink own index y ∈ gt) (hF : F + 1 ≤ F0') (hLo : 8 + (mL + 11) + L ≤ L0) :
    CallB (rmOf F0' L0) s args own index y bytes mL rt (wsOf y bytes mL rt) (rmOf F L) 0 0 n := by
  obtain ⟨h1, h2, h3, h4, h5⟩ := M
  have hts := C.2.2.2.2.2.2.1
  refine ⟨rfl, rfl, hF, hLo, fun w hw a' U hW => ?_, List.mem_cons_self, hts _ h1, hts _ h2, ⟨h3, h4⟩, fun sig h => ?_, hts _ K⟩
  · rcases List.mem_cons.mp hw with rfl | hw
    · exact gt_warm h1 (hts _ h1) a' U hW
    · exact gt_warm hw (hts _ hw) a' U hW
  · rw [h] at h5
    exact (Option.some.inj h5).symm
theorem x_pre {w : va_W} {As : List Value} (C : Cx p s m args meth c own cc maxL ret D cI cC cZ) (hw : Wd D A H0 ws H locs) (isC : List Nat) (hsel : isC.map (fun i => ws[i]?) = w.map some) (hnd : va_nd isC = true) : PreS s H (va_Pc As (fun U => va_P D vwCl w U.heap ∧ va_K D vwCl (tys3 cI cC cZ) U ∧ va_D (fun _ => True) w)) As :=
  ⟨Ctr.blind, fun U hU hW => ⟨rfl, by rw [hU]; exact sel_P hw.1 isC hsel, va_K.moved hW.alike C.2.2.2.2.2.2.2, (hw.2.1.sub (ws' := w) isC hnd hsel).weaken (fun _ _ _ _ => trivial)⟩⟩
theorem x_callV (C : Cx p s m args meth c own cc maxL ret D cI cC cZ) (hw : Wd D A H0 ws H locs) {y : MethodName} {bytes : ByteArray} {mL n index : Nat} {rt : Option FieldType} {F L : Nat} (M : MB y bytes mL rt n) (V : MV y) (K : Cond.methodLink own index y ∈ gt) {b : Nat} {As : List Value} {w w' : va_W} {r : Option Value}
    (hc : Ctr l y bytes mL rt F L D cI cC cZ (.ref b :: As) w w' r) (hls : ls.size = maxL) (hst : st = As.reverse ++ .ref b :: rest) (hn : As.length = n) (isC : List Nat) (hsel : isC.map (fun i => ws[i]?) = w.map some) (hnd : va_nd isC = true) (hadr : w'.map Prod.fst = w.map Prod.fst) (q0 ci : Nat) {fs : List Value} (hq : ws[q0]? = some (b, .inr (ci, fs))) (hcl : (vwCl[ci]?).map (fun q => q.1) = some y.cls)
    (hF : F + 1 ≤ F0') (hLo : 8 + (mL + 11) + L ≤ L0) (hro : (rest.map fun v => v.category).sum ≤ 8) (hdg : decode cc pc = .ok (.invokevirtual index, 3))
    (kk : ∀ (H1 : Heap) (locs1 : List Loc), Wd D A H0 (mix ws isC w') H1 locs1 → W p l e (rmOf F0' L0) s m args below meth c H1 locs1 0 0 Q (F0 m (pc + 3) ls (r.toList ++ rest))) : W p l e (rmOf F0' L0) s m args below meth c H locs 0 0 Q (F0 m pc ls st) := by
  have hB := x_callB (F0' := F0') (L0 := L0) C M K hF hLo
  have hp := x_pre (As := .ref b :: As) C hw isC hsel hnd
  have hts := C.2.2.2.2.2.2.1
  have hrc : ∃ cellB : Cell, H[b]? = some cellB ∧ cellB.vm.isStatics = false ∧ s.vm.findClass y.cls = some cellB.cls := by
    cases hv : vwCl[ci]? with
    | none => rw [hv] at hcl; cases hcl
    | some z =>
      rw [hv] at hcl
      have hz : z.1 = y.cls := Option.some.inj hcl
      rw [← hz]
      exact va_recv C.2.2.2.2.2.2.2 hw.1 (ci := ci) (q0 := q0) hv hq
  exact x_behind (y := y) hw isC hsel hadr (va_runV (As := As) (rest := rest) (g := F0 m pc ls st) ⟨C.1, C.2.1, C.2.2.2.1, C.2.2.2.2.1, hts⟩ hc ⟨hB, hts _ V.1, hts _ V.2⟩ ⟨hp.1, hrc, hp.2⟩ rfl hn hls hst (lv_room hro) hdg ⟨Nat.le_refl _, Nat.le_refl _⟩) kk
theorem x_callS (C : Cx p s m args meth c own cc maxL ret D cI cC cZ) (hw : Wd D A H0 ws H locs) {y : MethodName} {bytes : ByteArray} {mL n index : Nat} {rt : Option FieldType} {F L : Nat} (M : MB y bytes mL rt n) (V : Cond.static y ∈ gt) (K : Cond.methodLink own index y ∈ gt) {As : List Value} {w w' : va_W} {r : Option Value}
    (hc : Ctr l y bytes mL rt F L D cI cC cZ As w w' r) (hls : ls.size = maxL) (hst : st = As.reverse ++ rest) (hn : As.length = n) (isC : List Nat) (hsel : isC.map (fun i => ws[i]?) = w.map some) (hnd : va_nd isC = true) (hadr : w'.map Prod.fst = w.map Prod.fst)
    (hF : F + 1 ≤ F0') (hLo : 8 + (mL + 11) + L ≤ L0) (hro : (rest.map fun v => v.category).sum ≤ 8) (hdg : decode cc pc = .ok (.invokestatic index, 3))
    (kk : ∀ (H1 : Heap) (locs1 : List Loc), Wd D A H0 (mix ws isC w') H1 locs1 → W p l e (rmOf F0' L0) s m args below meth c H1 locs1 0 0 Q (F0 m (pc + 3) ls (r.toList ++ rest))) : W p l e (rmOf F0' L0) s m args below meth c H locs 0 0 Q (F0 m pc ls st) := by
  have hB := x_callB (F0' := F0') (L0 := L0) C M K hF hLo
  have hp := x_pre (As := As) C hw isC hsel hnd
  have hts := C.2.2.2.2.2.2.1
  exact x_behind (y := y) hw isC hsel hadr (va_runS (As := As) (rest := rest) (g := F0 m pc ls st) ⟨C.1, C.2.1, C.2.2.2.1, C.2.2.2.2.1, hts⟩ hc ⟨hB, hts _ V⟩ hp rfl hn hls hst (lv_room hro) hdg ⟨Nat.le_refl _, Nat.le_refl _⟩) kk
theorem x_callSN (C : Cx p s m args meth c own cc maxL ret D cI cC cZ) (hw : Wd D A H0 ws H locs) {y : MethodName} {host : String} {bytes : ByteArray} {mL n index : Nat} {rt : Option FieldType} {F L : Nat} (M : MB y bytes mL rt n) (V : Cond.static y ∈ gt) (K : Cond.methodLinkNest own index y host ∈ gt) {As : List Value} {w w' : va_W} {r : Option Value}
    (hc : Ctr l y bytes mL rt F L D cI cC cZ As w w' r) (hls : ls.size = maxL) (hst : st = As.reverse ++ rest) (hn : As.length = n) (isC : List Nat) (hsel : isC.map (fun i => ws[i]?) = w.map some) (hnd : va_nd isC = true) (hadr : w'.map Prod.fst = w.map Prod.fst)
    (hF : F + 1 ≤ F0') (hLo : 8 + (mL + 11) + L ≤ L0) (hro : (rest.map fun v => v.category).sum ≤ 8) (hdg : decode cc pc = .ok (.invokestatic index, 3))
    (kk : ∀ (H1 : Heap) (locs1 : List Loc), Wd D A H0 (mix ws isC w') H1 locs1 → W p l e (rmOf F0' L0) s m args below meth c H1 locs1 0 0 Q (F0 m (pc + 3) ls (r.toList ++ rest))) : W p l e (rmOf F0' L0) s m args below meth c H locs 0 0 Q (F0 m pc ls st) := by
  have hp := x_pre (As := As) C hw isC hsel hnd
  have hts := C.2.2.2.2.2.2.1
  obtain ⟨h1, h2, h3, h4, h5⟩ := M
  have cw : va_CN (rmOf F0' L0) s args own index y host bytes mL rt (wsOf y bytes mL rt) (rmOf F L) 0 0 n := by
    refine ⟨⟨rfl, rfl, hF, hLo, fun w hw a' U hW => ?_, List.mem_cons_self⟩, hts _ h1, hts _ h2, ⟨h3, h4⟩, fun sig h => ?_, hts _ K⟩
    · rcases List.mem_cons.mp hw with rfl | hw
      · exact gt_warm h1 (hts _ h1) a' U hW
      · exact gt_warm hw (hts _ hw) a' U hW
    · rw [h] at h5
      exact (Option.some.inj h5).symm
  exact x_behind (y := y) hw isC hsel hadr (va_runSN (As := As) (rest := rest) (g := F0 m pc ls st) ⟨C.1, C.2.1, C.2.2.2.1, C.2.2.2.2.1, hts⟩ hc ⟨cw, hts _ V, trivial⟩ hp rfl hn hls hst (lv_room hro) hdg ⟨Nat.le_refl _, Nat.le_refl _⟩) kk
end XC
end
section
/-! Numbers as the machine makes them, under names; returns; the JDK's numbers. -/
def jmax (x y : Int32) : Int32 := if x < y then y else x
def jmin (x y : Int32) : Int32 := if y < x then y else x
def jabs (x : Int32) : Int32 := if 0 ≤ x then x else 0 - x
def jabsl (x : Int64) : Int64 := if 0 < x then x else -x
def jrem (x y : Int32) : Int32 := x - x / y * y
def jreml (x y : Int64) : Int64 := x - x / y * y
def jshl (x y : Int32) : Int32 := x <<< (y &&& 31)
def jshr (x y : Int32) : Int32 := x >>> (y &&& 31)
def jushr (x y : Int32) : Int32 := (x.toUInt32 >>> (y.toUInt32 &&& Int32.toUInt32 31)).toInt32
def jchr (x : Int32) : Int32 := (x.toUInt32 % 65536).toInt32
def isz (x : Int32) : Bool := decide (x = 0 ∨ x = 1)
theorem isz_nar {x : Int32} (h : isz x = true) : narrow .boolean (.int x) = .int x := by
  unfold isz at h
  rcases of_decide_eq_true h with rfl | rfl <;> rfl
section XM
variable {p : Program} {l : Launch} {e : Env} {R : Room} {s : State} {m : MethodId} {args : Array Value} {below : List Frame} {meth : Method} {c : Code} {H : Heap} {locs : List Loc} {Q : State → Prop}
variable {own : String} {cc : ByteArray} {maxL : Nat} {ret : Option FieldType} {D : va_G} {cI cC cZ : ClassId} {A : Nat → Prop} {H0 : Heap} {ws : va_W} {pc : Nat} {ls : Array Slot} {rest : List Value} {a : Nat} {cells slots : Nat}
theorem x_ldcw (C : Cx p s m args meth c own cc maxL ret D cI cC cZ) {index : Nat} {v : Int32} (hm : Cond.constant own index v ∈ gt) (hdg : decode cc pc = .ok (.ldc_w index, 3))
    (kk : W p l e R s m args below meth c H locs cells slots Q (F0 m (pc + 3) ls (.int v :: rest))) : W p l e R s m args below meth c H locs cells slots Q (F0 m pc ls rest) :=
  lv_ldcw C.1 C.2.1 C.2.2.2.2.1 (C.2.2.2.2.2.2.1 _ hm) hdg kk
theorem x_max (C : Cx p s m args meth c own cc maxL ret D cI cC cZ) (hls : ls.size = maxL) {index : Nat} (hm : Cond.methodLink own index Lib.Math.max.name ∈ gt) (h1 : Cond.static Lib.Math.max.name ∈ gt) (h2 : Cond.initialized "java/lang/Math" ∈ gt) (h3 : Cond.code Lib.Math.max.name Lib.Math.max.code 2 (some .int) ∈ gt)
    (hF : 1 ≤ R.frames) (hL : (rest.map fun v => v.category).sum + 13 ≤ R.locals) {x y : Int32} (hdg : decode cc pc = .ok (.invokestatic index, 3))
    (kk : W p l e R s m args below meth c H locs 0 0 Q (F0 m (pc + 3) ls (.int (jmax x y) :: rest))) : W p l e R s m args below meth c H locs 0 0 Q (F0 m pc ls (.int y :: .int x :: rest)) :=
  va_mmax C.1 C.2.1 (C.2.2.2.1.trans hls.symm) C.2.2.2.2.1 (C.2.2.2.2.2.2.1 _ hm) (C.2.2.2.2.2.2.1 _ h1) (C.2.2.2.2.2.2.1 _ h2) (C.2.2.2.2.2.2.1 _ h3) hF hL (Nat.zero_le _) (Nat.zero_le _) hdg kk
theorem x_min (C : Cx p s m args meth c own cc maxL ret D cI cC cZ) (hls : ls.size = maxL) {index : Nat} (hm : Cond.methodLink own index Lib.Math.min.name ∈ gt) (h1 : Cond.static Lib.Math.min.name ∈ gt) (h2 : Cond.initialized "java/lang/Math" ∈ gt) (h3 : Cond.code Lib.Math.min.name Lib.Math.min.code 2 (some .int) ∈ gt)
    (hF : 1 ≤ R.frames) (hL : (rest.map fun v => v.category).sum + 13 ≤ R.locals) {x y : Int32} (hdg : decode cc pc = .ok (.invokestatic index, 3))
    (kk : W p l e R s m args below meth c H locs 0 0 Q (F0 m (pc + 3) ls (.int (jmin x y) :: rest))) : W p l e R s m args below meth c H locs 0 0 Q (F0 m pc ls (.int y :: .int x :: rest)) :=
  va_mmin C.1 C.2.1 (C.2.2.2.1.trans hls.symm) C.2.2.2.2.1 (C.2.2.2.2.2.2.1 _ hm) (C.2.2.2.2.2.2.1 _ h1) (C.2.2.2.2.2.2.1 _ h2) (C.2.2.2.2.2.2.1 _ h3) hF hL (Nat.zero_le _) (Nat.zero_le _) hdg kk
theorem x_abs (C : Cx p s m args meth c own cc maxL ret D cI cC cZ) (hls : ls.size = maxL) {index : Nat} (hm : Cond.methodLink own index Lib.Math.abs.name ∈ gt) (h1 : Cond.static Lib.Math.abs.name ∈ gt) (h2 : Cond.initialized "java/lang/Math" ∈ gt) (h3 : Cond.code Lib.Math.abs.name Lib.Math.abs.code 1 (some .int) ∈ gt)
    (hF : 1 ≤ R.frames) (hL : (rest.map fun v => v.category).sum + 13 ≤ R.locals) {x : Int32} (hdg : decode cc pc = .ok (.invokestatic index, 3))
    (kk : W p l e R s m args below meth c H locs 0 0 Q (F0 m (pc + 3) ls (.int (jabs x) :: rest))) : W p l e R s m args below meth c H locs 0 0 Q (F0 m pc ls (.int x :: rest)) :=
  va_mabs C.1 C.2.1 (C.2.2.2.1.trans hls.symm) C.2.2.2.2.1 (C.2.2.2.2.2.2.1 _ hm) (C.2.2.2.2.2.2.1 _ h1) (C.2.2.2.2.2.2.1 _ h2) (C.2.2.2.2.2.2.1 _ h3) hF hL (Nat.zero_le _) (Nat.zero_le _) hdg kk
theorem x_absl (C : Cx p s m args meth c own cc maxL ret D cI cC cZ) (hls : ls.size = maxL) {index : Nat} (hm : Cond.methodLink own index Lib.MathLoose.abs_long.x ∈ gt) (h1 : Cond.static Lib.MathLoose.abs_long.x ∈ gt) (h2 : Cond.initialized "java/lang/Math" ∈ gt) (h3 : Cond.code Lib.MathLoose.abs_long.x Lib.MathLoose.abs_long.code 2 (some .long) ∈ gt)
    (hF : 1 ≤ R.frames) (hL : (rest.map fun v => v.category).sum + 13 ≤ R.locals) {x : Int64} (hdg : decode cc pc = .ok (.invokestatic index, 3))
    (kk : W p l e R s m args below meth c H locs 0 0 Q (F0 m (pc + 3) ls (.long (jabsl x) :: rest))) : W p l e R s m args below meth c H locs 0 0 Q (F0 m pc ls (.long x :: rest)) :=
  va_mabs_long C.1 C.2.1 (C.2.2.2.1.trans hls.symm) C.2.2.2.2.1 (C.2.2.2.2.2.2.1 _ hm) (C.2.2.2.2.2.2.1 _ h1) (C.2.2.2.2.2.2.1 _ h2) (C.2.2.2.2.2.2.1 _ h3) hF hL (Nat.zero_le _) (Nat.zero_le _) hdg kk
theorem x_rem (hx : p.tables.exec = Jvm.exec) (hb : c.code = cc) {x y : Int32} (hdg : decode cc pc = .ok (.irem, 1)) (hne : nzi y = true)
    (k : W p l e R s m args below meth c H locs cells slots Q (F0 m (pc + 1) ls (.int (jrem x y) :: rest))) : W p l e R s m args below meth c H locs cells slots Q (F0 m pc ls (.int y :: .int x :: rest)) := lv_irem hx hb hdg (nzi_ne hne) k
theorem x_div (hx : p.tables.exec = Jvm.exec) (hb : c.code = cc) {x y : Int32} (hdg : decode cc pc = .ok (.idiv, 1)) (hne : nzi y = true)
    (k : W p l e R s m args below meth c H locs cells slots Q (F0 m (pc + 1) ls (.int (x / y) :: rest))) : W p l e R s m args below meth c H locs cells slots Q (F0 m pc ls (.int y :: .int x :: rest)) := lv_idiv hx hb hdg (nzi_ne hne) k
theorem x_reml (hx : p.tables.exec = Jvm.exec) (hb : c.code = cc) {x y : Int64} (hdg : decode cc pc = .ok (.lrem, 1)) (hne : nzl y = true)
    (k : W p l e R s m args below meth c H locs cells slots Q (F0 m (pc + 1) ls (.long (jreml x y) :: rest))) : W p l e R s m args below meth c H locs cells slots Q (F0 m pc ls (.long y :: .long x :: rest)) := lv_lrem hx hb hdg (nzl_ne hne) k
theorem x_divl (hx : p.tables.exec = Jvm.exec) (hb : c.code = cc) {x y : Int64} (hdg : decode cc pc = .ok (.ldiv, 1)) (hne : nzl y = true)
    (k : W p l e R s m args below meth c H locs cells slots Q (F0 m (pc + 1) ls (.long (x / y) :: rest))) : W p l e R s m args below meth c H locs cells slots Q (F0 m pc ls (.long y :: .long x :: rest)) := lv_ldiv hx hb hdg (nzl_ne hne) k
theorem x_shl (hx : p.tables.exec = Jvm.exec) (hb : c.code = cc) {x y : Int32} (hdg : decode cc pc = .ok (.ishl, 1))
    (k : W p l e R s m args below meth c H locs cells slots Q (F0 m (pc + 1) ls (.int (jshl x y) :: rest))) : W p l e R s m args below meth c H locs cells slots Q (F0 m pc ls (.int y :: .int x :: rest)) := lv_ishl hx hb hdg k
theorem x_shr (hx : p.tables.exec = Jvm.exec) (hb : c.code = cc) {x y : Int32} (hdg : decode cc pc = .ok (.ishr, 1))
    (k : W p l e R s m args below meth c H locs cells slots Q (F0 m (pc + 1) ls (.int (jshr x y) :: rest))) : W p l e R s m args below meth c H locs cells slots Q (F0 m pc ls (.int y :: .int x :: rest)) := lv_ishr hx hb hdg k
theorem x_ushr (hx : p.tables.exec = Jvm.exec) (hb : c.code = cc) {x y : Int32} (hdg : decode cc pc = .ok (.iushr, 1))
    (k : W p l e R s m args below meth c H locs cells slots Q (F0 m (pc + 1) ls (.int (jushr x y) :: rest))) : W p l e R s m args below meth c H locs cells slots Q (F0 m pc ls (.int y :: .int x :: rest)) := lv_iushr hx hb hdg rfl k
theorem x_i2c (hx : p.tables.exec = Jvm.exec) (hb : c.code = cc) {x : Int32} (hdg : decode cc pc = .ok (.i2c, 1))
    (k : W p l e R s m args below meth c H locs cells slots Q (F0 m (pc + 1) ls (.int (jchr x) :: rest))) : W p l e R s m args below meth c H locs cells slots Q (F0 m pc ls (.int x :: rest)) := lv_i2c hx hb hdg rfl k
/-- System.arraycopy of two rows of ints, whole from 0 on -/
theorem x_copy (C : Cx p s m args meth c own cc maxL ret D cI cC cZ) (hw : Wd D A H0 ws H locs) (hls : ls.size = maxL) {index : Nat} (hm : Cond.methodLink own index arraycopyName ∈ gt) (h0 : Cond.native arraycopyName ∈ gt) (h1 : Cond.static arraycopyName ∈ gt) (h2 : Cond.initialized "java/lang/System" ∈ gt)
    (q0 q1 : Nat) {a0 n0 n1 : Nat} {f g : Nat → Int32} (ha0 : ws[q0]? = some (a0, .inl (cI, n0, .inl f))) (ha1 : ws[q1]? = some (a, .inl (cI, n1, .inl g))) {n : Int32} (hn : (!(decide (n < 0)) && decide (n.toNatClampNeg ≤ n0) && decide (n.toNatClampNeg ≤ n1)) = true)
    (hF : 1 ≤ R.frames) (hL : (rest.map fun v => v.category).sum + (nativeFrameWords "java/lang/System" "arraycopy" 5 + 11) ≤ R.locals) (hdg : decode cc pc = .ok (.invokestatic index, 3))
    (kk : ∀ (H1 : Heap) (locs1 : List Loc), Wd D A H0 (ws.set q1 (a, .inl (cI, n1, .inl (va_cpy f g 0 0 n.toNatClampNeg)))) H1 locs1 → W p l e R s m args below meth c H1 locs1 cells slots Q (F0 m (pc + 3) ls rest)) : W p l e R s m args below meth c H locs cells slots Q (F0 m pc ls (.int n :: .int 0 :: .ref a :: .int 0 :: .ref a0 :: rest)) := by
  simp only [Bool.and_eq_true, decide_eq_true_eq, Bool.not_eq_true', decide_eq_false_iff_not] at hn
  exact va_copyi C.1 C.2.1 (C.2.2.2.1.trans hls.symm) C.2.2.2.2.1 (C.2.2.2.2.2.2.1 _ hm) (C.2.2.2.2.2.2.1 _ h0) (C.2.2.2.2.2.2.1 _ h1) (C.2.2.2.2.2.2.1 _ h2) C.2.2.2.2.2.2.2 hw.1 hw.2.1 hw.2.2 q0 q1 0 0 ha0 ha1 rfl rfl rfl (by decide) (by decide) hn.1.1 (by simpa using hn.1.2) (by simpa using hn.2) (fun _ _ => rfl) hF hL hdg (fun H1 locs1 h1 h2 h3 => kk H1 locs1 ⟨h1, h2, h3⟩)
end XM
section XE
variable {p : Program} {l : Launch} {e : Env} {R : Room} {s : State} {m : MethodId} {args : Array Value} {below : List Frame} {meth : Method} {c : Code} {H : Heap} {locs : List Loc}
variable {own : String} {cc : ByteArray} {maxL : Nat} {D : va_G} {cI cC cZ : ClassId} {ws w w' : va_W} {pc : Nat} {ls : Array Slot} {r : Option Value} {A : Nat → Prop} {Q : State → Prop}
theorem x_end (hw : Wd D (inW w) s.heap ws H locs) (he : ws = w') : ∀ t : State, t.heap = H → s.WarmedH t.vm → CtQ D w w' r args s (.returned r) t := by
  intro t ht _
  subst he
  exact ⟨rfl, by rw [ht]; exact hw.1, by rw [ht]; exact hw.2.2.1, fun q h1 h2 => by rw [ht]; exact hw.2.2.2.1 q h1 h2⟩
theorem x_iret {v : Int32} (C : Cx p s m args meth c own cc maxL (some .int) D cI cC cZ) (hA : A = inW w) (hQ : Q = MQ below (CtQ D w w' r) args s 0 0 (inW w)) (hw : Wd D A s.heap ws H locs) (he : ws = w') (hv : some (.int v) = r) (hdg : decode cc pc = .ok (.ireturn, 1)) : W p l e R s m args below meth c H locs 0 0 Q (F0 m pc ls [.int v]) := by
  subst hv
  subst hA
  subst hQ
  exact W.iret C.1 C.2.1 C.2.2.1 (x_end hw he) hw.2.2.2.2 hdg C.2.2.2.2.2.1
theorem x_zret {v : Int32} (C : Cx p s m args meth c own cc maxL (some .boolean) D cI cC cZ) (hA : A = inW w) (hQ : Q = MQ below (CtQ D w w' r) args s 0 0 (inW w)) (hw : Wd D A s.heap ws H locs) (he : ws = w') (hv : some (.int v) = r) (hz : isz v = true) (hdg : decode cc pc = .ok (.ireturn, 1)) : W p l e R s m args below meth c H locs 0 0 Q (F0 m pc ls [.int v]) := by
  subst hv
  subst hA
  subst hQ
  exact W.zret C.1 C.2.1 C.2.2.1 (isz_nar hz) (x_end hw he) hw.2.2.2.2 hdg C.2.2.2.2.2.1
theorem x_lret {v : Int64} (C : Cx p s m args meth c own cc maxL (some .long) D cI cC cZ) (hA : A = inW w) (hQ : Q = MQ below (CtQ D w w' r) args s 0 0 (inW w)) (hw : Wd D A s.heap ws H locs) (he : ws = w') (hv : some (.long v) = r) (hdg : decode cc pc = .ok (.lreturn, 1)) : W p l e R s m args below meth c H locs 0 0 Q (F0 m pc ls [.long v]) := by
  subst hv
  subst hA
  subst hQ
  exact W.lret C.1 C.2.1 C.2.2.1 (x_end hw he) hw.2.2.2.2 hdg C.2.2.2.2.2.1
theorem x_vret (C : Cx p s m args meth c own cc maxL none D cI cC cZ) (hA : A = inW w) (hQ : Q = MQ below (CtQ D w w' r) args s 0 0 (inW w)) (hw : Wd D A s.heap ws H locs) (he : ws = w') (hv : none = r) (hdg : decode cc pc = .ok (.return_, 1)) : W p l e R s m args below meth c H locs 0 0 Q (F0 m pc ls []) := by
  subst hv
  subst hA
  subst hQ
  exact W.vret C.1 C.2.1 C.2.2.1 (x_end hw he) hw.2.2.2.2 hdg C.2.2.2.2.2.1
end XE
end
section
/-! Written by wip/gen/gen.py. -/
theorem iw_X12 : ∀ w ∈ u_ws RX12 TX12 32, w ∈ gt := by decide +kernel
theorem cn_X12_101 : Cond.constantLong RX12 101 (52) ∈ gt := in_gt 895 (by decide +kernel) (by decide +kernel)
theorem cn_X12_103 : Cond.constantLong RX12 103 (57) ∈ gt := in_gt 896 (by decide +kernel) (by decide +kernel)
theorem cn_X12_91 : Cond.constantLong RX12 91 (33) ∈ gt := in_gt 878 (by decide +kernel) (by decide +kernel)
theorem cn_X12_93 : Cond.constantLong RX12 93 (126) ∈ gt := in_gt 879 (by decide +kernel) (by decide +kernel)
theorem cn_X12_99 : Cond.constantLong RX12 99 (49) ∈ gt := in_gt 894 (by decide +kernel) (by decide +kernel)
theorem fl_X12_7 : FL RX12 7 12 0 := ⟨_, _, _, rfl, by decide, in_gt 777 (by decide +kernel) (by decide +kernel), iw_X12⟩
theorem fl_X12_95 : FL RX12 95 12 1 := ⟨_, _, _, rfl, by decide, in_gt 778 (by decide +kernel) (by decide +kernel), iw_X12⟩
theorem fw_X12_1 : FW 12 1 .int := ⟨_, _, _, tyX12, rfl, by decide, tyX12_ok, nmX12, rfl, by decide +kernel⟩
theorem mb_X12_in : MB yX12_in cX12_in 6 (some .boolean) 3 := ⟨in_gt 882 (by decide +kernel) (by decide +kernel), in_gt 49 (by decide +kernel) (by decide +kernel), by decide +kernel⟩
theorem mb_X12_stepOf : MB yX12_stepOf cX12_stepOf 2 (some .int) 2 := ⟨in_gt 893 (by decide +kernel) (by decide +kernel), in_gt 49 (by decide +kernel) (by decide +kernel), by decide +kernel⟩
theorem ml_X12_105 : Cond.methodLink RX12 105 yX12_stepOf ∈ gt := in_gt 891 (by decide +kernel) (by decide +kernel)
theorem ml_X12_85 : Cond.methodLink RX12 85 yX12_in ∈ gt := in_gt 880 (by decide +kernel) (by decide +kernel)
theorem ms_X12_in : Cond.static yX12_in ∈ gt := in_gt 881 (by decide +kernel) (by decide +kernel)
theorem ms_X12_stepOf : Cond.static yX12_stepOf ∈ gt := in_gt 892 (by decide +kernel) (by decide +kernel)
abbrev w_X12 (cI cC cZ : ClassId) (tq0 tq1 tq2 tq3 tq4 tq5 tq6 tq7 tq8 tq9 tq10 tq11 tq12 tq13 tq14 tq15 tq16 tq17 tq18 tq19 tq20 tq21 tq22 tq23 tq24 : Nat) (t_signs : Nat → Int32) (t_signMany : Int32) (t_lineOf : Nat → Int32) (t_strengthOf : Nat → Int32) (t_waterOf : Nat → Int32) (t_backOf : Nat → Int32) (t_passes : Int32) (t_tried : Int32) (t_table : Nat → Int32) (t_numbers : Nat → Int32) (t_bends : Nat → Int32) (t_wished : Nat → Int32) (t_itemLine : Nat → Int32) (t_itemStrength : Nat → Int32) (t_itemWater : Nat → Int32) (t_itemBack : Nat → Int32) (t_items : Int32) (t_worstThen : Int32) (t_reading : Nat → Int32) (t_isRead : Nat → Int32) (t_readSum : Int32) (t_readMany : Int32) (t_spanLow : Nat → Int32) (t_spanHigh : Nat → Int32) (t_weldLine : Nat → Int32) (t_weldPull : Nat → Int32) (t_welds : Int32) (t_orderOf : Nat → Int32) (t_bestOrder : Nat → Int32) (t_smithOf : Nat → Int32) (t_bestSmith : Nat → Int32) (t_busy : Nat → Int32) : va_W := [(tq0, .inr (12, [.ref tq1, .int t_signMany, .ref tq2, .ref tq3, .ref tq4, .ref tq5, .int t_passes, .int t_tried, .ref tq6, .ref tq7, .ref tq8, .ref tq9, .ref tq10, .ref tq11, .ref tq12, .ref tq13, .int t_items, .int t_worstThen, .ref tq14, .ref tq15, .int t_readSum, .int t_readMany, .ref tq16, .ref tq17, .ref tq18, .ref tq19, .int t_welds, .ref tq20, .ref tq21, .ref tq22, .ref tq23, .ref tq24])), (tq1, .inl (cI, 50, .inl t_signs)), (tq2, .inl (cI, 40, .inl t_lineOf)), (tq3, .inl (cI, 40, .inl t_strengthOf)), (tq4, .inl (cI, 40, .inl t_waterOf)), (tq5, .inl (cI, 40, .inl t_backOf)), (tq6, .inl (cI, 20, .inl t_table)), (tq7, .inl (cI, 6, .inl t_numbers)), (tq8, .inl (cI, 8, .inl t_bends)), (tq9, .inl (cI, 36, .inl t_wished)), (tq10, .inl (cI, 10, .inl t_itemLine)), (tq11, .inl (cI, 10, .inl t_itemStrength)), (tq12, .inl (cI, 10, .inl t_itemWater)), (tq13, .inl (cI, 10, .inl t_itemBack)), (tq14, .inl (cI, 36, .inl t_reading)), (tq15, .inl (cZ, 36, .inl t_isRead)), (tq16, .inl (cI, 10, .inl t_spanLow)), (tq17, .inl (cI, 10, .inl t_spanHigh)), (tq18, .inl (cI, 7, .inl t_weldLine)), (tq19, .inl (cI, 7, .inl t_weldPull)), (tq20, .inl (cI, 7, .inl t_orderOf)), (tq21, .inl (cI, 7, .inl t_bestOrder)), (tq22, .inl (cI, 12, .inl t_smithOf)), (tq23, .inl (cI, 12, .inl t_bestSmith)), (tq24, .inl (cI, 3, .inl t_busy))]
abbrev l_X12_in : List (Nat × Instr × Nat) := [(0, .lload_n 0, 1), (1, .lload_n 2, 1), (2, .lcmp, 1), (3, .ifCond .lt 14, 3), (6, .lload_n 0, 1), (7, .lload 4, 2), (9, .lcmp, 1), (10, .ifCond .gt 7, 3), (13, .iconst 1, 1), (14, .goto 4, 3), (17, .iconst 0, 1), (18, .ireturn, 1)]
theorem d_X12_in : dcOk cX12_in l_X12_in = true := by decide +kernel
def f_X12_in (n : Nat)  (x0 : Int64) (x2 : Int64) (x4 : Int64) : Option (Int32) := if (lg_cmp x0 x2) < (0 : Int32) then (some (0 : Int32)) else (if (0 : Int32) < (lg_cmp x0 x4) then (some (0 : Int32)) else (some (1 : Int32)))
set_option maxHeartbeats 4000000 in
set_option maxRecDepth 100000 in
theorem k_X12_in (n : Nat) {l : Launch} {D : va_G} {cI cC cZ : ClassId}   {x0 : Int64} {x2 : Int64} {x4 : Int64} {o : Int32} (hf : f_X12_in n x0 x2 x4 = some o) : Ctr l yX12_in cX12_in 6 (some .boolean) 0 0 D cI cC cZ [.long x0, .long x2, .long x4] [] [] (some (.int o)) := by
  refine Ctr.of (by decide) (Nat.le_of_ble_eq_true rfl) ?_
  intro p e s m args below meth c ls A Q hA hQ C hl hw
  have hx := C.1
  have hb := C.2.1
  have hl : lv_has ls 6 [(0, .long x0), (2, .long x2), (4, .long x4)] := hl
  refine lv_lload_n hx hb (dc d_X12_in 0 rfl) rfl (lv_at hl 0 rfl) ?_
  refine lv_lload_n hx hb (dc d_X12_in 1 rfl) rfl (lv_at hl 1 rfl) ?_
  refine W.lcmp hx hb (dc d_X12_in 2 rfl) ?_
  refine lv_if_lt (tgt := 17) hx hb (dc d_X12_in 3 rfl) (by decide) (fun c1 => ?_) (fun c1 => ?_)
  · have hf := g_t hf c1
    refine lv_iconst (v := (0 : Int32)) hx hb (dc d_X12_in 10 rfl) (by decide) ?_
    cases hf
    exact x_zret C hA hQ hw rfl rfl (by decide) (dc d_X12_in 11 rfl)
  · have hf := g_f hf c1
    refine lv_lload_n hx hb (dc d_X12_in 4 rfl) rfl (lv_at hl 0 rfl) ?_
    refine lv_lload hx hb (dc d_X12_in 5 rfl) (lv_at hl 2 rfl) ?_
    refine W.lcmp hx hb (dc d_X12_in 6 rfl) ?_
    refine lv_if_gt (tgt := 17) hx hb (dc d_X12_in 7 rfl) (by decide) (fun c2 => ?_) (fun c2 => ?_)
    · have hf := g_t hf c2
      refine lv_iconst (v := (0 : Int32)) hx hb (dc d_X12_in 10 rfl) (by decide) ?_
      cases hf
      exact x_zret C hA hQ hw rfl rfl (by decide) (dc d_X12_in 11 rfl)
    · have hf := g_f hf c2
      refine lv_iconst (v := (1 : Int32)) hx hb (dc d_X12_in 8 rfl) (by decide) ?_
      refine lv_goto (tgt := 18) hx hb (dc d_X12_in 9 rfl) (by decide) ?_
      cases hf
      exact x_zret C hA hQ hw rfl rfl (by decide) (dc d_X12_in 11 rfl)
abbrev l_X12_say : List (Nat × Instr × Nat) := [(0, .iload_n 1, 1), (1, .i2l, 1), (2, .ldc2_w 91, 3), (5, .ldc2_w 93, 3), (8, .invokestatic 85, 3), (11, .ifCond .ne 6, 3), (14, .bipush (-2), 2), (16, .ireturn, 1), (17, .aload_n 0, 1), (18, .getfield 95, 3), (21, .bipush 50, 2), (23, .if_icmp .ne 6, 3), (26, .bipush (-4), 2), (28, .ireturn, 1), (29, .aload_n 0, 1), (30, .getfield 7, 3), (33, .aload_n 0, 1), (34, .getfield 95, 3), (37, .iload_n 1, 1), (38, .iastore, 1), (39, .aload_n 0, 1), (40, .dup, 1), (41, .getfield 95, 3), (44, .iconst 1, 1), (45, .iadd, 1), (46, .putfield 95, 3), (49, .aload_n 0, 1), (50, .getfield 95, 3), (53, .ireturn, 1)]
theorem d_X12_say : dcOk cX12_say l_X12_say = true := by decide +kernel
def f_X12_say (n : Nat) (t_signs : Nat → Int32) (t_signMany : Int32) (x1 : Int32) : Option (Int32 × (Nat → Int32) × Int32) := Option.bind (f_X12_in n x1.toInt64 (33 : Int64) (126 : Int64)) (fun q1 => if q1 = (0 : Int32) then (some ((-2 : Int32), t_signs, t_signMany)) else (if t_signMany = (50 : Int32) then (some ((-4 : Int32), t_signs, t_signMany)) else (grd (vin t_signMany 50) (some ((t_signMany + (1 : Int32)), (upd t_signs t_signMany.toNatClampNeg x1), (t_signMany + (1 : Int32)))))))
set_option maxHeartbeats 4000000 in
set_option maxRecDepth 100000 in
theorem k_X12_say (n : Nat) {l : Launch} {D : va_G} {cI cC cZ : ClassId} {tq0 tq1 tq2 tq3 tq4 tq5 tq6 tq7 tq8 tq9 tq10 tq11 tq12 tq13 tq14 tq15 tq16 tq17 tq18 tq19 tq20 tq21 tq22 tq23 tq24 : Nat} {t_signs : Nat → Int32} {t_signMany : Int32} {t_lineOf : Nat → Int32} {t_strengthOf : Nat → Int32} {t_waterOf : Nat → Int32} {t_backOf : Nat → Int32} {t_passes : Int32} {t_tried : Int32} {t_table : Nat → Int32} {t_numbers : Nat → Int32} {t_bends : Nat → Int32} {t_wished : Nat → Int32} {t_itemLine : Nat → Int32} {t_itemStrength : Nat → Int32} {t_itemWater : Nat → Int32} {t_itemBack : Nat → Int32} {t_items : Int32} {t_worstThen : Int32} {t_reading : Nat → Int32} {t_isRead : Nat → Int32} {t_readSum : Int32} {t_readMany : Int32} {t_spanLow : Nat → Int32} {t_spanHigh : Nat → Int32} {t_weldLine : Nat → Int32} {t_weldPull : Nat → Int32} {t_welds : Int32} {t_orderOf : Nat → Int32} {t_bestOrder : Nat → Int32} {t_smithOf : Nat → Int32} {t_bestSmith : Nat → Int32} {t_busy : Nat → Int32} {x1 : Int32} {o : Int32 × (Nat → Int32) × Int32} (hf : f_X12_say n t_signs t_signMany x1 = some o) : Ctr l yX12_say cX12_say 2 (some .int) 1 25 D cI cC cZ [.ref tq0, .int x1] (w_X12 cI cC cZ tq0 tq1 tq2 tq3 tq4 tq5 tq6 tq7 tq8 tq9 tq10 tq11 tq12 tq13 tq14 tq15 tq16 tq17 tq18 tq19 tq20 tq21 tq22 tq23 tq24 t_signs t_signMany t_lineOf t_strengthOf t_waterOf t_backOf t_passes t_tried t_table t_numbers t_bends t_wished t_itemLine t_itemStrength t_itemWater t_itemBack t_items t_worstThen t_reading t_isRead t_readSum t_readMany t_spanLow t_spanHigh t_weldLine t_weldPull t_welds t_orderOf t_bestOrder t_smithOf t_bestSmith t_busy) (w_X12 cI cC cZ tq0 tq1 tq2 tq3 tq4 tq5 tq6 tq7 tq8 tq9 tq10 tq11 tq12 tq13 tq14 tq15 tq16 tq17 tq18 tq19 tq20 tq21 tq22 tq23 tq24 o.2.1 o.2.2 t_lineOf t_strengthOf t_waterOf t_backOf t_passes t_tried t_table t_numbers t_bends t_wished t_itemLine t_itemStrength t_itemWater t_itemBack t_items t_worstThen t_reading t_isRead t_readSum t_readMany t_spanLow t_spanHigh t_weldLine t_weldPull t_welds t_orderOf t_bestOrder t_smithOf t_bestSmith t_busy) (some (.int o.1)) := by
  refine Ctr.of (by decide) (Nat.le_of_ble_eq_true rfl) ?_
  intro p e s m args below meth c ls A Q hA hQ C hl hw
  have hx := C.1
  have hb := C.2.1
  have hl : lv_has ls 2 [(0, .ref tq0), (1, .int x1)] := hl
  refine lv_iload_n hx hb (dc d_X12_say 0 rfl) rfl (lv_at hl 1 rfl) ?_
  refine lv_i2l (v := x1.toInt64) hx hb (dc d_X12_say 1 rfl) rfl ?_
  refine x_ldc2 (v := (33 : Int64)) C cn_X12_91 (dc d_X12_say 2 rfl) ?_
  refine x_ldc2 (v := (126 : Int64)) C cn_X12_93 (dc d_X12_say 3 rfl) ?_
  obtain ⟨q1, hq1, hf⟩ := g_bd hf
  refine x_callS C hw mb_X12_in ms_X12_in ml_X12_85 (k_X12_in n hq1) hl.1 rfl rfl [] rfl rfl rfl (Nat.le_of_ble_eq_true rfl) (Nat.le_of_ble_eq_true rfl) (Nat.le_of_ble_eq_true rfl) (dc d_X12_say 4 rfl) (fun H locs hw => ?_)
  refine W.eq (g2 := F0 m 11 ls [.int q1]) rfl ?_
  have hw : Wd D A s.heap (w_X12 cI cC cZ tq0 tq1 tq2 tq3 tq4 tq5 tq6 tq7 tq8 tq9 tq10 tq11 tq12 tq13 tq14 tq15 tq16 tq17 tq18 tq19 tq20 tq21 tq22 tq23 tq24 t_signs t_signMany t_lineOf t_strengthOf t_waterOf t_backOf t_passes t_tried t_table t_numbers t_bends t_wished t_itemLine t_itemStrength t_itemWater t_itemBack t_items t_worstThen t_reading t_isRead t_readSum t_readMany t_spanLow t_spanHigh t_weldLine t_weldPull t_welds t_orderOf t_bestOrder t_smithOf t_bestSmith t_busy) H locs := hw
  refine lv_if_ne (tgt := 17) hx hb (dc d_X12_say 5 rfl) (by decide) (fun c2 => ?_) (fun c2 => ?_)
  · have hf := g_f hf c2
    refine lv_aload_n hx hb (dc d_X12_say 8 rfl) rfl (lv_at hl 0 rfl) ?_
    refine x_get C hw fl_X12_95 0 rfl rfl (dc d_X12_say 9 rfl) ?_
    refine lv_bipush (v := (50 : Int32)) hx hb (dc d_X12_say 10 rfl) (by decide) ?_
    refine lv_icmp_ne (tgt := 29) hx hb (dc d_X12_say 11 rfl) (by decide) (fun c3 => ?_) (fun c3 => ?_)
    · have hf := g_f hf c3
      refine lv_aload_n hx hb (dc d_X12_say 14 rfl) rfl (lv_at hl 0 rfl) ?_
      refine x_get C hw fl_X12_7 0 rfl rfl (dc d_X12_say 15 rfl) ?_
      refine lv_aload_n hx hb (dc d_X12_say 16 rfl) rfl (lv_at hl 0 rfl) ?_
      refine x_get C hw fl_X12_95 0 rfl rfl (dc d_X12_say 17 rfl) ?_
      refine lv_iload_n hx hb (dc d_X12_say 18 rfl) rfl (lv_at hl 1 rfl) ?_
      have hi := grd_b hf
      have hf := grd_x hf
      refine x_iast C hw 1 rfl hi (dc d_X12_say 19 rfl) (fun H locs hw => ?_)
      have hw : Wd D A s.heap (w_X12 cI cC cZ tq0 tq1 tq2 tq3 tq4 tq5 tq6 tq7 tq8 tq9 tq10 tq11 tq12 tq13 tq14 tq15 tq16 tq17 tq18 tq19 tq20 tq21 tq22 tq23 tq24 (upd t_signs t_signMany.toNatClampNeg x1) t_signMany t_lineOf t_strengthOf t_waterOf t_backOf t_passes t_tried t_table t_numbers t_bends t_wished t_itemLine t_itemStrength t_itemWater t_itemBack t_items t_worstThen t_reading t_isRead t_readSum t_readMany t_spanLow t_spanHigh t_weldLine t_weldPull t_welds t_orderOf t_bestOrder t_smithOf t_bestSmith t_busy) H locs := hw
      refine lv_aload_n hx hb (dc d_X12_say 20 rfl) rfl (lv_at hl 0 rfl) ?_
      refine lv_dup hx hb (dc d_X12_say 21 rfl) rfl ?_
      refine x_get C hw fl_X12_95 0 rfl rfl (dc d_X12_say 22 rfl) ?_
      refine lv_iconst (v := (1 : Int32)) hx hb (dc d_X12_say 23 rfl) (by decide) ?_
      refine lv_iadd hx hb (dc d_X12_say 24 rfl) ?_
      refine x_put C hw fl_X12_95 fw_X12_1 0 rfl rfl rfl (Nat.le_of_ble_eq_true rfl) (dc d_X12_say 25 rfl) (fun H locs hw => ?_)
      have hw : Wd D A s.heap (w_X12 cI cC cZ tq0 tq1 tq2 tq3 tq4 tq5 tq6 tq7 tq8 tq9 tq10 tq11 tq12 tq13 tq14 tq15 tq16 tq17 tq18 tq19 tq20 tq21 tq22 tq23 tq24 (upd t_signs t_signMany.toNatClampNeg x1) (t_signMany + (1 : Int32)) t_lineOf t_strengthOf t_waterOf t_backOf t_passes t_tried t_table t_numbers t_bends t_wished t_itemLine t_itemStrength t_itemWater t_itemBack t_items t_worstThen t_reading t_isRead t_readSum t_readMany t_spanLow t_spanHigh t_weldLine t_weldPull t_welds t_orderOf t_bestOrder t_smithOf t_bestSmith t_busy) H locs := hw
      refine lv_aload_n hx hb (dc d_X12_say 26 rfl) rfl (lv_at hl 0 rfl) ?_
      refine x_get C hw fl_X12_95 0 rfl rfl (dc d_X12_say 27 rfl) ?_
      cases hf
      exact x_iret C hA hQ hw rfl rfl (dc d_X12_say 28 rfl)
    · have hf := g_t hf c3
      refine lv_bipush (v := (-4 : Int32)) hx hb (dc d_X12_say 12 rfl) (by decide) ?_
      cases hf
      exact x_iret C hA hQ hw rfl rfl (dc d_X12_say 13 rfl)
  · have hf := g_t hf c2
    refine lv_bipush (v := (-2 : Int32)) hx hb (dc d_X12_say 6 rfl) (by decide) ?_
    cases hf
    exact x_iret C hA hQ hw rfl rfl (dc d_X12_say 7 rfl)
abbrev l_X12_wipe : List (Nat × Instr × Nat) := [(0, .aload_n 0, 1), (1, .getfield 95, 3), (4, .istore_n 1, 1), (5, .aload_n 0, 1), (6, .iconst 0, 1), (7, .putfield 95, 3), (10, .iload_n 1, 1), (11, .ireturn, 1)]
theorem d_X12_wipe : dcOk cX12_wipe l_X12_wipe = true := by decide +kernel
def f_X12_wipe (n : Nat) (t_signMany : Int32)  : Option (Int32 × Int32) := some (t_signMany, (0 : Int32))
set_option maxHeartbeats 4000000 in
set_option maxRecDepth 100000 in
theorem k_X12_wipe (n : Nat) {l : Launch} {D : va_G} {cI cC cZ : ClassId} {tq0 tq1 tq2 tq3 tq4 tq5 tq6 tq7 tq8 tq9 tq10 tq11 tq12 tq13 tq14 tq15 tq16 tq17 tq18 tq19 tq20 tq21 tq22 tq23 tq24 : Nat} {t_signs : Nat → Int32} {t_signMany : Int32} {t_lineOf : Nat → Int32} {t_strengthOf : Nat → Int32} {t_waterOf : Nat → Int32} {t_backOf : Nat → Int32} {t_passes : Int32} {t_tried : Int32} {t_table : Nat → Int32} {t_numbers : Nat → Int32} {t_bends : Nat → Int32} {t_wished : Nat → Int32} {t_itemLine : Nat → Int32} {t_itemStrength : Nat → Int32} {t_itemWater : Nat → Int32} {t_itemBack : Nat → Int32} {t_items : Int32} {t_worstThen : Int32} {t_reading : Nat → Int32} {t_isRead : Nat → Int32} {t_readSum : Int32} {t_readMany : Int32} {t_spanLow : Nat → Int32} {t_spanHigh : Nat → Int32} {t_weldLine : Nat → Int32} {t_weldPull : Nat → Int32} {t_welds : Int32} {t_orderOf : Nat → Int32} {t_bestOrder : Nat → Int32} {t_smithOf : Nat → Int32} {t_bestSmith : Nat → Int32} {t_busy : Nat → Int32}  {o : Int32 × Int32} (hf : f_X12_wipe n t_signMany = some o) : Ctr l yX12_wipe cX12_wipe 2 (some .int) 0 0 D cI cC cZ [.ref tq0] (w_X12 cI cC cZ tq0 tq1 tq2 tq3 tq4 tq5 tq6 tq7 tq8 tq9 tq10 tq11 tq12 tq13 tq14 tq15 tq16 tq17 tq18 tq19 tq20 tq21 tq22 tq23 tq24 t_signs t_signMany t_lineOf t_strengthOf t_waterOf t_backOf t_passes t_tried t_table t_numbers t_bends t_wished t_itemLine t_itemStrength t_itemWater t_itemBack t_items t_worstThen t_reading t_isRead t_readSum t_readMany t_spanLow t_spanHigh t_weldLine t_weldPull t_welds t_orderOf t_bestOrder t_smithOf t_bestSmith t_busy) (w_X12 cI cC cZ tq0 tq1 tq2 tq3 tq4 tq5 tq6 tq7 tq8 tq9 tq10 tq11 tq12 tq13 tq14 tq15 tq16 tq17 tq18 tq19 tq20 tq21 tq22 tq23 tq24 t_signs o.2 t_lineOf t_strengthOf t_waterOf t_backOf t_passes t_tried t_table t_numbers t_bends t_wished t_itemLine t_itemStrength t_itemWater t_itemBack t_items t_worstThen t_reading t_isRead t_readSum t_readMany t_spanLow t_spanHigh t_weldLine t_weldPull t_welds t_orderOf t_bestOrder t_smithOf t_bestSmith t_busy) (some (.int o.1)) := by
  refine Ctr.of (by decide) (Nat.le_of_ble_eq_true rfl) ?_
  intro p e s m args below meth c ls A Q hA hQ C hl hw
  have hx := C.1
  have hb := C.2.1
  have hl : lv_has ls 2 [(0, .ref tq0)] := hl
  refine lv_aload_n hx hb (dc d_X12_wipe 0 rfl) rfl (lv_at hl 0 rfl) ?_
  refine x_get C hw fl_X12_95 0 rfl rfl (dc d_X12_wipe 1 rfl) ?_
  refine lv_istore_n (lv' := [(1, .int t_signMany), (0, .ref tq0)]) hx hb (dc d_X12_wipe 2 rfl) rfl hl (by decide) rfl (fun ls hl => ?_)
  refine lv_aload_n hx hb (dc d_X12_wipe 3 rfl) rfl (lv_at hl 1 rfl) ?_
  refine lv_iconst (v := (0 : Int32)) hx hb (dc d_X12_wipe 4 rfl) (by decide) ?_
  refine x_put C hw fl_X12_95 fw_X12_1 0 rfl rfl rfl (Nat.le_of_ble_eq_true rfl) (dc d_X12_wipe 5 rfl) (fun H locs hw => ?_)
  have hw : Wd D A s.heap (w_X12 cI cC cZ tq0 tq1 tq2 tq3 tq4 tq5 tq6 tq7 tq8 tq9 tq10 tq11 tq12 tq13 tq14 tq15 tq16 tq17 tq18 tq19 tq20 tq21 tq22 tq23 tq24 t_signs (0 : Int32) t_lineOf t_strengthOf t_waterOf t_backOf t_passes t_tried t_table t_numbers t_bends t_wished t_itemLine t_itemStrength t_itemWater t_itemBack t_items t_worstThen t_reading t_isRead t_readSum t_readMany t_spanLow t_spanHigh t_weldLine t_weldPull t_welds t_orderOf t_bestOrder t_smithOf t_bestSmith t_busy) H locs := hw
  refine lv_iload_n hx hb (dc d_X12_wipe 6 rfl) rfl (lv_at hl 0 rfl) ?_
  cases hf
  exact x_iret C hA hQ hw rfl rfl (dc d_X12_wipe 7 rfl)
abbrev l_X12_stepOf : List (Nat × Instr × Nat) := [(0, .iload_n 0, 1), (1, .tableswitch 85 0 2 #[27, 45, 65], 27), (28, .iload_n 1, 1), (29, .bipush 118, 2), (31, .if_icmp .eq 9, 3), (34, .iload_n 1, 1), (35, .bipush 104, 2), (37, .if_icmp .ne 7, 3), (40, .iconst 1, 1), (41, .goto 4, 3), (44, .iconst (-1), 1), (45, .ireturn, 1), (46, .iload_n 1, 1), (47, .i2l, 1), (48, .ldc2_w 99, 3), (51, .ldc2_w 101, 3), (54, .invokestatic 85, 3), (57, .ifCond .eq 7, 3), (60, .iconst 2, 1), (61, .goto 4, 3), (64, .iconst (-1), 1), (65, .ireturn, 1), (66, .iload_n 1, 1), (67, .i2l, 1), (68, .ldc2_w 99, 3), (71, .ldc2_w 103, 3), (74, .invokestatic 85, 3), (77, .ifCond .eq 7, 3), (80, .iconst 3, 1), (81, .goto 4, 3), (84, .iconst (-1), 1), (85, .ireturn, 1), (86, .iload_n 1, 1), (87, .bipush 59, 2), (89, .if_icmp .ne 7, 3), (92, .iconst 0, 1), (93, .goto 34, 3), (96, .iload_n 1, 1), (97, .bipush 119, 2), (99, .if_icmp .ne 12, 3), (102, .iload_n 0, 1), (103, .iconst 3, 1), (104, .if_icmp .ne 7, 3), (107, .iconst 4, 1), (108, .goto 19, 3), (111, .iload_n 1, 1), (112, .bipush 98, 2), (114, .if_icmp .ne 12, 3), (117, .iload_n 0, 1), (118, .iconst 5, 1), (119, .if_icmp .ge 7, 3), (122, .iconst 5, 1), (123, .goto 4, 3), (126, .iconst (-1), 1), (127, .ireturn, 1)]
theorem d_X12_stepOf : dcOk cX12_stepOf l_X12_stepOf = true := by decide +kernel
def f_X12_stepOf_111  (n : Nat) (v0 : Int32) (v1 : Int32) : Option (Int32) := if v1 = (98 : Int32) then (if (5 : Int32) ≤ v0 then (some (-1 : Int32)) else (some (5 : Int32))) else (some (-1 : Int32))
def f_X12_stepOf (n : Nat)  (x0 : Int32) (x1 : Int32) : Option (Int32) := if x0 = (0 : Int32) then (if x1 = (118 : Int32) then (some (1 : Int32)) else (if x1 = (104 : Int32) then (some (1 : Int32)) else (some (-1 : Int32)))) else (if x0 = (1 : Int32) then (Option.bind (f_X12_in n x1.toInt64 (49 : Int64) (52 : Int64)) (fun q5 => if q5 = (0 : Int32) then (some (-1 : Int32)) else (some (2 : Int32)))) else (if x0 = (2 : Int32) then (Option.bind (f_X12_in n x1.toInt64 (49 : Int64) (57 : Int64)) (fun q8 => if q8 = (0 : Int32) then (some (-1 : Int32)) else (some (3 : Int32)))) else (if x1 = (59 : Int32) then (some (0 : Int32)) else (if x1 = (119 : Int32) then (if x0 = (3 : Int32) then (some (4 : Int32)) else (f_X12_stepOf_111   n x0 x1)) else (f_X12_stepOf_111   n x0 x1)))))
set_option maxHeartbeats 4000000 in
set_option maxRecDepth 100000 in
theorem k_X12_stepOf (n : Nat) {l : Launch} {D : va_G} {cI cC cZ : ClassId}   {x0 : Int32} {x1 : Int32} {o : Int32} (hf : f_X12_stepOf n x0 x1 = some o) : Ctr l yX12_stepOf cX12_stepOf 2 (some .int) 1 25 D cI cC cZ [.int x0, .int x1] [] [] (some (.int o)) := by
  refine Ctr.of (by decide) (Nat.le_of_ble_eq_true rfl) ?_
  intro p e s m args below meth c ls A Q hA hQ C hl hw
  have hx := C.1
  have hb := C.2.1
  have hl : lv_has ls 2 [(0, .int x0), (1, .int x1)] := hl
  have L111 : ∀ (n : Nat), ∀ (v0 : Int32) (v1 : Int32) (H : Heap) (locs : List Loc) (ls : Array Slot), Wd D A s.heap [] H locs → lv_has ls 2 [(0, .int v0), (1, .int v1)] → f_X12_stepOf_111  n v0 v1 = some o → W p l e (rmOf 1 25) s m args below meth c H locs 0 0 Q (F0 m 111 ls []) := by
    intro  n v0 v1 H locs ls hw hl hf
    refine lv_iload_n hx hb (dc d_X12_stepOf 45 rfl) rfl (lv_at hl 1 rfl) ?_
    refine lv_bipush (v := (98 : Int32)) hx hb (dc d_X12_stepOf 46 rfl) (by decide) ?_
    refine lv_icmp_ne (tgt := 126) hx hb (dc d_X12_stepOf 47 rfl) (by decide) (fun c13 => ?_) (fun c13 => ?_)
    · have hf := g_f hf c13
      refine lv_iconst (v := (-1 : Int32)) hx hb (dc d_X12_stepOf 53 rfl) (by decide) ?_
      cases hf
      exact x_iret C hA hQ hw rfl rfl (dc d_X12_stepOf 54 rfl)
    · have hf := g_t hf c13
      refine lv_iload_n hx hb (dc d_X12_stepOf 48 rfl) rfl (lv_at hl 0 rfl) ?_
      refine lv_iconst (v := (5 : Int32)) hx hb (dc d_X12_stepOf 49 rfl) (by decide) ?_
      refine lv_icmp_ge (tgt := 126) hx hb (dc d_X12_stepOf 50 rfl) (by decide) (fun c14 => ?_) (fun c14 => ?_)
      · have hf := g_t hf c14
        refine lv_iconst (v := (-1 : Int32)) hx hb (dc d_X12_stepOf 53 rfl) (by decide) ?_
        cases hf
        exact x_iret C hA hQ hw rfl rfl (dc d_X12_stepOf 54 rfl)
      · have hf := g_f hf c14
        refine lv_iconst (v := (5 : Int32)) hx hb (dc d_X12_stepOf 51 rfl) (by decide) ?_
        refine lv_goto (tgt := 127) hx hb (dc d_X12_stepOf 52 rfl) (by decide) ?_
        cases hf
        exact x_iret C hA hQ hw rfl rfl (dc d_X12_stepOf 54 rfl)
  refine lv_iload_n hx hb (dc d_X12_stepOf 0 rfl) rfl (lv_at hl 0 rfl) ?_
  by_cases c1 : x0 = (0 : Int32)
  · have hf := g_t hf c1
    refine lv_tableIn (off := 27) (tgt := 28) hx hb (dc d_X12_stepOf 1 rfl) (by rw [c1]; decide) (by rw [c1]; decide) (by rw [c1]; rfl) (by decide) ?_
    refine lv_iload_n hx hb (dc d_X12_stepOf 2 rfl) rfl (lv_at hl 1 rfl) ?_
    refine lv_bipush (v := (118 : Int32)) hx hb (dc d_X12_stepOf 3 rfl) (by decide) ?_
    refine lv_icmp_eq (tgt := 40) hx hb (dc d_X12_stepOf 4 rfl) (by decide) (fun c2 => ?_) (fun c2 => ?_)
    · have hf := g_t hf c2
      refine lv_iconst (v := (1 : Int32)) hx hb (dc d_X12_stepOf 8 rfl) (by decide) ?_
      refine lv_goto (tgt := 45) hx hb (dc d_X12_stepOf 9 rfl) (by decide) ?_
      cases hf
      exact x_iret C hA hQ hw rfl rfl (dc d_X12_stepOf 11 rfl)
    · have hf := g_f hf c2
      refine lv_iload_n hx hb (dc d_X12_stepOf 5 rfl) rfl (lv_at hl 1 rfl) ?_
      refine lv_bipush (v := (104 : Int32)) hx hb (dc d_X12_stepOf 6 rfl) (by decide) ?_
      refine lv_icmp_ne (tgt := 44) hx hb (dc d_X12_stepOf 7 rfl) (by decide) (fun c3 => ?_) (fun c3 => ?_)
      · have hf := g_f hf c3
        refine lv_iconst (v := (-1 : Int32)) hx hb (dc d_X12_stepOf 10 rfl) (by decide) ?_
        cases hf
        exact x_iret C hA hQ hw rfl rfl (dc d_X12_stepOf 11 rfl)
      · have hf := g_t hf c3
        refine lv_iconst (v := (1 : Int32)) hx hb (dc d_X12_stepOf 8 rfl) (by decide) ?_
        refine lv_goto (tgt := 45) hx hb (dc d_X12_stepOf 9 rfl) (by decide) ?_
        cases hf
        exact x_iret C hA hQ hw rfl rfl (dc d_X12_stepOf 11 rfl)
  have hf := g_f hf c1
  by_cases c4 : x0 = (1 : Int32)
  · have hf := g_t hf c4
    refine lv_tableIn (off := 45) (tgt := 46) hx hb (dc d_X12_stepOf 1 rfl) (by rw [c4]; decide) (by rw [c4]; decide) (by rw [c4]; rfl) (by decide) ?_
    refine lv_iload_n hx hb (dc d_X12_stepOf 12 rfl) rfl (lv_at hl 1 rfl) ?_
    refine lv_i2l (v := x1.toInt64) hx hb (dc d_X12_stepOf 13 rfl) rfl ?_
    refine x_ldc2 (v := (49 : Int64)) C cn_X12_99 (dc d_X12_stepOf 14 rfl) ?_
    refine x_ldc2 (v := (52 : Int64)) C cn_X12_101 (dc d_X12_stepOf 15 rfl) ?_
    obtain ⟨q5, hq5, hf⟩ := g_bd hf
    refine x_callS C hw mb_X12_in ms_X12_in ml_X12_85 (k_X12_in n hq5) hl.1 rfl rfl [] rfl rfl rfl (Nat.le_of_ble_eq_true rfl) (Nat.le_of_ble_eq_true rfl) (Nat.le_of_ble_eq_true rfl) (dc d_X12_stepOf 16 rfl) (fun H locs hw => ?_)
    refine W.eq (g2 := F0 m 57 ls [.int q5]) rfl ?_
    have hw : Wd D A s.heap [] H locs := hw
    refine lv_if_eq (tgt := 64) hx hb (dc d_X12_stepOf 17 rfl) (by decide) (fun c6 => ?_) (fun c6 => ?_)
    · have hf := g_t hf c6
      refine lv_iconst (v := (-1 : Int32)) hx hb (dc d_X12_stepOf 20 rfl) (by decide) ?_
      cases hf
      exact x_iret C hA hQ hw rfl rfl (dc d_X12_stepOf 21 rfl)
    · have hf := g_f hf c6
      refine lv_iconst (v := (2 : Int32)) hx hb (dc d_X12_stepOf 18 rfl) (by decide) ?_
      refine lv_goto (tgt := 65) hx hb (dc d_X12_stepOf 19 rfl) (by decide) ?_
      cases hf
      exact x_iret C hA hQ hw rfl rfl (dc d_X12_stepOf 21 rfl)
  have hf := g_f hf c4
  by_cases c7 : x0 = (2 : Int32)
  · have hf := g_t hf c7
    refine lv_tableIn (off := 65) (tgt := 66) hx hb (dc d_X12_stepOf 1 rfl) (by rw [c7]; decide) (by rw [c7]; decide) (by rw [c7]; rfl) (by decide) ?_
    refine lv_iload_n hx hb (dc d_X12_stepOf 22 rfl) rfl (lv_at hl 1 rfl) ?_
    refine lv_i2l (v := x1.toInt64) hx hb (dc d_X12_stepOf 23 rfl) rfl ?_
    refine x_ldc2 (v := (49 : Int64)) C cn_X12_99 (dc d_X12_stepOf 24 rfl) ?_
    refine x_ldc2 (v := (57 : Int64)) C cn_X12_103 (dc d_X12_stepOf 25 rfl) ?_
    obtain ⟨q8, hq8, hf⟩ := g_bd hf
    refine x_callS C hw mb_X12_in ms_X12_in ml_X12_85 (k_X12_in n hq8) hl.1 rfl rfl [] rfl rfl rfl (Nat.le_of_ble_eq_true rfl) (Nat.le_of_ble_eq_true rfl) (Nat.le_of_ble_eq_true rfl) (dc d_X12_stepOf 26 rfl) (fun H locs hw => ?_)
    refine W.eq (g2 := F0 m 77 ls [.int q8]) rfl ?_
    have hw : Wd D A s.heap [] H locs := hw
    refine lv_if_eq (tgt := 84) hx hb (dc d_X12_stepOf 27 rfl) (by decide) (fun c9 => ?_) (fun c9 => ?_)
    · have hf := g_t hf c9
      refine lv_iconst (v := (-1 : Int32)) hx hb (dc d_X12_stepOf 30 rfl) (by decide) ?_
      cases hf
      exact x_iret C hA hQ hw rfl rfl (dc d_X12_stepOf 31 rfl)
    · have hf := g_f hf c9
      refine lv_iconst (v := (3 : Int32)) hx hb (dc d_X12_stepOf 28 rfl) (by decide) ?_
      refine lv_goto (tgt := 85) hx hb (dc d_X12_stepOf 29 rfl) (by decide) ?_
      cases hf
      exact x_iret C hA hQ hw rfl rfl (dc d_X12_stepOf 31 rfl)
  have hf := g_f hf c7
  refine lv_tableOut (tgt := 86) hx hb (dc d_X12_stepOf 1 rfl) (by have zc1 := sw_ne c1 (k := 0) (by decide); have zc4 := sw_ne c4 (k := 1) (by decide); have zc7 := sw_ne c7 (k := 2) (by decide); omega) (by decide) ?_
  refine lv_iload_n hx hb (dc d_X12_stepOf 32 rfl) rfl (lv_at hl 1 rfl) ?_
  refine lv_bipush (v := (59 : Int32)) hx hb (dc d_X12_stepOf 33 rfl) (by decide) ?_
  refine lv_icmp_ne (tgt := 96) hx hb (dc d_X12_stepOf 34 rfl) (by decide) (fun c10 => ?_) (fun c10 => ?_)
  · have hf := g_f hf c10
    refine lv_iload_n hx hb (dc d_X12_stepOf 37 rfl) rfl (lv_at hl 1 rfl) ?_
    refine lv_bipush (v := (119 : Int32)) hx hb (dc d_X12_stepOf 38 rfl) (by decide) ?_
    refine lv_icmp_ne (tgt := 111) hx hb (dc d_X12_stepOf 39 rfl) (by decide) (fun c11 => ?_) (fun c11 => ?_)
    · have hf := g_f hf c11
      exact L111  n x0 x1 _ _ _ hw (lv_sub hl [0, 1] rfl) hf
    · have hf := g_t hf c11
      refine lv_iload_n hx hb (dc d_X12_stepOf 40 rfl) rfl (lv_at hl 0 rfl) ?_
      refine lv_iconst (v := (3 : Int32)) hx hb (dc d_X12_stepOf 41 rfl) (by decide) ?_
      refine lv_icmp_ne (tgt := 111) hx hb (dc d_X12_stepOf 42 rfl) (by decide) (fun c12 => ?_) (fun c12 => ?_)
      · have hf := g_f hf c12
        exact L111  n x0 x1 _ _ _ hw (lv_sub hl [0, 1] rfl) hf
      · have hf := g_t hf c12
        refine lv_iconst (v := (4 : Int32)) hx hb (dc d_X12_stepOf 43 rfl) (by decide) ?_
        refine lv_goto (tgt := 127) hx hb (dc d_X12_stepOf 44 rfl) (by decide) ?_
        cases hf
        exact x_iret C hA hQ hw rfl rfl (dc d_X12_stepOf 54 rfl)
  · have hf := g_t hf c10
    refine lv_iconst (v := (0 : Int32)) hx hb (dc d_X12_stepOf 35 rfl) (by decide) ?_
    refine lv_goto (tgt := 127) hx hb (dc d_X12_stepOf 36 rfl) (by decide) ?_
    cases hf
    exact x_iret C hA hQ hw rfl rfl (dc d_X12_stepOf 54 rfl)
abbrev l_X12_fault : List (Nat × Instr × Nat) := [(0, .iconst 0, 1), (1, .istore_n 1, 1), (2, .iconst 0, 1), (3, .istore_n 2, 1), (4, .iload_n 2, 1), (5, .aload_n 0, 1), (6, .getfield 95, 3), (9, .if_icmp .ge 26, 3), (12, .iload_n 1, 1), (13, .aload_n 0, 1), (14, .getfield 7, 3), (17, .iload_n 2, 1), (18, .iaload, 1), (19, .invokestatic 105, 3), (22, .istore_n 1, 1), (23, .iload_n 1, 1), (24, .ifCond .ge 5, 3), (27, .iload_n 2, 1), (28, .ireturn, 1), (29, .iinc 2 1, 3), (32, .goto (-28), 3), (35, .iload_n 1, 1), (36, .iconst 2, 1), (37, .if_icmp .le 8, 3), (40, .bipush (-6), 2), (42, .goto 7, 3), (45, .aload_n 0, 1), (46, .getfield 95, 3), (49, .ireturn, 1)]
theorem d_X12_fault : dcOk cX12_fault l_X12_fault = true := by decide +kernel
def f_X12_fault_4b (t_signs : Nat → Int32) (t_signMany : Int32)  (k4 : (Int32) → (Int32) → Option (Int32)) (n : Nat) (v1 : Int32) (v2 : Int32) : Option (Int32) := if t_signMany ≤ v2 then (if v1 ≤ (2 : Int32) then (some t_signMany) else (some (-6 : Int32))) else (grd (vin v2 50) (Option.bind (f_X12_stepOf n v1 (t_signs v2.toNatClampNeg)) (fun q3 => if (0 : Int32) ≤ q3 then (k4 q3 (v2 + (1 : Int32))) else (some v2))))
def f_X12_fault_4 (t_signs : Nat → Int32) (t_signMany : Int32)  : Nat → (Int32) → (Int32) → Option (Int32)
  | 0 => fun _ _ => none
  | n + 1 => f_X12_fault_4b t_signs t_signMany  (f_X12_fault_4 t_signs t_signMany  n) n
def f_X12_fault (n : Nat) (t_signs : Nat → Int32) (t_signMany : Int32)  : Option (Int32) := f_X12_fault_4 t_signs t_signMany  n (0 : Int32) (0 : Int32)
set_option maxHeartbeats 4000000 in
set_option maxRecDepth 100000 in
theorem k_X12_fault (n : Nat) {l : Launch} {D : va_G} {cI cC cZ : ClassId} {tq0 tq1 tq2 tq3 tq4 tq5 tq6 tq7 tq8 tq9 tq10 tq11 tq12 tq13 tq14 tq15 tq16 tq17 tq18 tq19 tq20 tq21 tq22 tq23 tq24 : Nat} {t_signs : Nat → Int32} {t_signMany : Int32} {t_lineOf : Nat → Int32} {t_strengthOf : Nat → Int32} {t_waterOf : Nat → Int32} {t_backOf : Nat → Int32} {t_passes : Int32} {t_tried : Int32} {t_table : Nat → Int32} {t_numbers : Nat → Int32} {t_bends : Nat → Int32} {t_wished : Nat → Int32} {t_itemLine : Nat → Int32} {t_itemStrength : Nat → Int32} {t_itemWater : Nat → Int32} {t_itemBack : Nat → Int32} {t_items : Int32} {t_worstThen : Int32} {t_reading : Nat → Int32} {t_isRead : Nat → Int32} {t_readSum : Int32} {t_readMany : Int32} {t_spanLow : Nat → Int32} {t_spanHigh : Nat → Int32} {t_weldLine : Nat → Int32} {t_weldPull : Nat → Int32} {t_welds : Int32} {t_orderOf : Nat → Int32} {t_bestOrder : Nat → Int32} {t_smithOf : Nat → Int32} {t_bestSmith : Nat → Int32} {t_busy : Nat → Int32}  {o : Int32} (hf : f_X12_fault n t_signs t_signMany = some o) : Ctr l yX12_fault cX12_fault 3 (some .int) 2 46 D cI cC cZ [.ref tq0] (w_X12 cI cC cZ tq0 tq1 tq2 tq3 tq4 tq5 tq6 tq7 tq8 tq9 tq10 tq11 tq12 tq13 tq14 tq15 tq16 tq17 tq18 tq19 tq20 tq21 tq22 tq23 tq24 t_signs t_signMany t_lineOf t_strengthOf t_waterOf t_backOf t_passes t_tried t_table t_numbers t_bends t_wished t_itemLine t_itemStrength t_itemWater t_itemBack t_items t_worstThen t_reading t_isRead t_readSum t_readMany t_spanLow t_spanHigh t_weldLine t_weldPull t_welds t_orderOf t_bestOrder t_smithOf t_bestSmith t_busy) (w_X12 cI cC cZ tq0 tq1 tq2 tq3 tq4 tq5 tq6 tq7 tq8 tq9 tq10 tq11 tq12 tq13 tq14 tq15 tq16 tq17 tq18 tq19 tq20 tq21 tq22 tq23 tq24 t_signs t_signMany t_lineOf t_strengthOf t_waterOf t_backOf t_passes t_tried t_table t_numbers t_bends t_wished t_itemLine t_itemStrength t_itemWater t_itemBack t_items t_worstThen t_reading t_isRead t_readSum t_readMany t_spanLow t_spanHigh t_weldLine t_weldPull t_welds t_orderOf t_bestOrder t_smithOf t_bestSmith t_busy) (some (.int o)) := by
  refine Ctr.of (by decide) (Nat.le_of_ble_eq_true rfl) ?_
  intro p e s m args below meth c ls A Q hA hQ C hl hw
  have hx := C.1
  have hb := C.2.1
  have hl : lv_has ls 3 [(0, .ref tq0)] := hl
  have L4 : ∀ (n : Nat), ∀ (v1 : Int32) (v2 : Int32) (H : Heap) (locs : List Loc) (ls : Array Slot), Wd D A s.heap (w_X12 cI cC cZ tq0 tq1 tq2 tq3 tq4 tq5 tq6 tq7 tq8 tq9 tq10 tq11 tq12 tq13 tq14 tq15 tq16 tq17 tq18 tq19 tq20 tq21 tq22 tq23 tq24 t_signs t_signMany t_lineOf t_strengthOf t_waterOf t_backOf t_passes t_tried t_table t_numbers t_bends t_wished t_itemLine t_itemStrength t_itemWater t_itemBack t_items t_worstThen t_reading t_isRead t_readSum t_readMany t_spanLow t_spanHigh t_weldLine t_weldPull t_welds t_orderOf t_bestOrder t_smithOf t_bestSmith t_busy) H locs → lv_has ls 3 [(0, .ref tq0), (1, .int v1), (2, .int v2)] → f_X12_fault_4 t_signs t_signMany  n v1 v2 = some o → W p l e (rmOf 2 46) s m args below meth c H locs 0 0 Q (F0 m 4 ls []) := by
    intro  n
    induction n with
    | zero => intro v1 v2 H locs ls hw hl hf; exact (no_none hf).elim
    | succ n ih =>
      intro v1 v2 H locs ls hw hl hf
      have hf : f_X12_fault_4b t_signs t_signMany  (f_X12_fault_4 t_signs t_signMany  n) n v1 v2 = some o := hf
      generalize f_X12_fault_4 t_signs t_signMany  n = k4 at hf ih
      refine lv_iload_n hx hb (dc d_X12_fault 4 rfl) rfl (lv_at hl 2 rfl) ?_
      refine lv_aload_n hx hb (dc d_X12_fault 5 rfl) rfl (lv_at hl 0 rfl) ?_
      refine x_get C hw fl_X12_95 0 rfl rfl (dc d_X12_fault 6 rfl) ?_
      refine lv_icmp_ge (tgt := 35) hx hb (dc d_X12_fault 7 rfl) (by decide) (fun c1 => ?_) (fun c1 => ?_)
      · have hf := g_t hf c1
        refine lv_iload_n hx hb (dc d_X12_fault 21 rfl) rfl (lv_at hl 1 rfl) ?_
        refine lv_iconst (v := (2 : Int32)) hx hb (dc d_X12_fault 22 rfl) (by decide) ?_
        refine lv_icmp_le (tgt := 45) hx hb (dc d_X12_fault 23 rfl) (by decide) (fun c2 => ?_) (fun c2 => ?_)
        · have hf := g_t hf c2
          refine lv_aload_n hx hb (dc d_X12_fault 26 rfl) rfl (lv_at hl 0 rfl) ?_
          refine x_get C hw fl_X12_95 0 rfl rfl (dc d_X12_fault 27 rfl) ?_
          cases hf
          exact x_iret C hA hQ hw rfl rfl (dc d_X12_fault 28 rfl)
        · have hf := g_f hf c2
          refine lv_bipush (v := (-6 : Int32)) hx hb (dc d_X12_fault 24 rfl) (by decide) ?_
          refine lv_goto (tgt := 49) hx hb (dc d_X12_fault 25 rfl) (by decide) ?_
          cases hf
          exact x_iret C hA hQ hw rfl rfl (dc d_X12_fault 28 rfl)
      · have hf := g_f hf c1
        refine lv_iload_n hx hb (dc d_X12_fault 8 rfl) rfl (lv_at hl 1 rfl) ?_
        refine lv_aload_n hx hb (dc d_X12_fault 9 rfl) rfl (lv_at hl 0 rfl) ?_
        refine x_get C hw fl_X12_7 0 rfl rfl (dc d_X12_fault 10 rfl) ?_
        refine lv_iload_n hx hb (dc d_X12_fault 11 rfl) rfl (lv_at hl 2 rfl) ?_
        have hi := grd_b hf
        have hf := grd_x hf
        refine x_iald C hw 1 rfl hi (dc d_X12_fault 12 rfl) ?_
        obtain ⟨q3, hq3, hf⟩ := g_bd hf
        refine x_callS C hw mb_X12_stepOf ms_X12_stepOf ml_X12_105 (k_X12_stepOf n hq3) hl.1 rfl rfl [] rfl rfl rfl (Nat.le_of_ble_eq_true rfl) (Nat.le_of_ble_eq_true rfl) (Nat.le_of_ble_eq_true rfl) (dc d_X12_fault 13 rfl) (fun H locs hw => ?_)
        refine W.eq (g2 := F0 m 22 ls [.int q3]) rfl ?_
        have hw : Wd D A s.heap (w_X12 cI cC cZ tq0 tq1 tq2 tq3 tq4 tq5 tq6 tq7 tq8 tq9 tq10 tq11 tq12 tq13 tq14 tq15 tq16 tq17 tq18 tq19 tq20 tq21 tq22 tq23 tq24 t_signs t_signMany t_lineOf t_strengthOf t_waterOf t_backOf t_passes t_tried t_table t_numbers t_bends t_wished t_itemLine t_itemStrength t_itemWater t_itemBack t_items t_worstThen t_reading t_isRead t_readSum t_readMany t_spanLow t_spanHigh t_weldLine t_weldPull t_welds t_orderOf t_bestOrder t_smithOf t_bestSmith t_busy) H locs := hw
        refine lv_istore_n (lv' := [(1, .int q3), (0, .ref tq0), (2, .int v2)]) hx hb (dc d_X12_fault 14 rfl) rfl hl (by decide) rfl (fun ls hl => ?_)
        refine lv_iload_n hx hb (dc d_X12_fault 15 rfl) rfl (lv_at hl 0 rfl) ?_
        refine lv_if_ge (tgt := 29) hx hb (dc d_X12_fault 16 rfl) (by decide) (fun c4 => ?_) (fun c4 => ?_)
        · have hf := g_t hf c4
          refine lv_iinc (v := (v2 + (1 : Int32))) (lv' := [(2, .int (v2 + (1 : Int32))), (1, .int q3), (0, .ref tq0)]) hx hb (dc d_X12_fault 19 rfl) hl (k := 2) rfl (ii (by decide)) (by decide) rfl (fun ls hl => ?_)
          refine lv_goto (tgt := 4) hx hb (dc d_X12_fault 20 rfl) (by decide) ?_
          exact ih q3 (v2 + (1 : Int32)) _ _ _ hw (lv_sub hl [2, 1, 0] rfl) hf
        · have hf := g_f hf c4
          refine lv_iload_n hx hb (dc d_X12_fault 17 rfl) rfl (lv_at hl 2 rfl) ?_
          cases hf
          exact x_iret C hA hQ hw rfl rfl (dc d_X12_fault 18 rfl)
  refine lv_iconst (v := (0 : Int32)) hx hb (dc d_X12_fault 0 rfl) (by decide) ?_
  refine lv_istore_n (lv' := [(1, .int (0 : Int32)), (0, .ref tq0)]) hx hb (dc d_X12_fault 1 rfl) rfl hl (by decide) rfl (fun ls hl => ?_)
  refine lv_iconst (v := (0 : Int32)) hx hb (dc d_X12_fault 2 rfl) (by decide) ?_
  refine lv_istore_n (lv' := [(2, .int (0 : Int32)), (1, .int (0 : Int32)), (0, .ref tq0)]) hx hb (dc d_X12_fault 3 rfl) rfl hl (by decide) rfl (fun ls hl => ?_)
  exact L4  n (0 : Int32) (0 : Int32) _ _ _ hw (lv_sub hl [2, 1, 0] rfl) hf
end
