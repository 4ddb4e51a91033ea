theorem zz_wide : True := by
  have h := @Jvm.Stand.multianewarray2F
  trivial
-- ===== PART A: goes FIRST, ahead of the names: the tables' words, and 'selects' of the private methods out of them =====
/-- a private method of a class that the tables say can be made, by its rows of tables_1 -/
def lw_okq (q : MethodName × Nat) : Prop := (q.1.cls ≠ "java/lang/invoke/MethodHandle" ∧ q.1.cls ≠ "java/lang/invoke/VarHandle") ∧ Cond.instantiable q.1.cls q.2 ∈ tables_1 ∧ Cond.privateMethod q.1 ∈ tables_1 ∧ Cond.instanceMethod q.1 ∈ tables_1
theorem lw_p0 : lw_okq (⟨"BedsThatFit$Script", "readNumbers", "(I)I"⟩, 4) := ⟨⟨by decide +kernel, by decide +kernel⟩, List.mem_of_getElem? (i := 28) (by decide +kernel), List.mem_of_getElem? (i := 354) (by decide +kernel), List.mem_of_getElem? (i := 355) (by decide +kernel)⟩
theorem lw_p1 : lw_okq (⟨"BedsThatFit$Script", "isFigure", "(I)Z"⟩, 4) := ⟨⟨by decide +kernel, by decide +kernel⟩, List.mem_of_getElem? (i := 28) (by decide +kernel), List.mem_of_getElem? (i := 358) (by decide +kernel), List.mem_of_getElem? (i := 359) (by decide +kernel)⟩
theorem lw_p2 : lw_okq (⟨"BedsThatFit$Script", "letterAt", "(I)I"⟩, 4) := ⟨⟨by decide +kernel, by decide +kernel⟩, List.mem_of_getElem? (i := 28) (by decide +kernel), List.mem_of_getElem? (i := 362) (by decide +kernel), List.mem_of_getElem? (i := 363) (by decide +kernel)⟩
theorem lw_p3 : lw_okq (⟨"BedsThatFit$Inn", "enact", "(I)Z"⟩, 5) := ⟨⟨by decide +kernel, by decide +kernel⟩, List.mem_of_getElem? (i := 175) (by decide +kernel), List.mem_of_getElem? (i := 402) (by decide +kernel), List.mem_of_getElem? (i := 403) (by decide +kernel)⟩
theorem lw_p4 : lw_okq (⟨"BedsThatFit$Inn", "addRival", "(I)Z"⟩, 5) := ⟨⟨by decide +kernel, by decide +kernel⟩, List.mem_of_getElem? (i := 175) (by decide +kernel), List.mem_of_getElem? (i := 406) (by decide +kernel), List.mem_of_getElem? (i := 407) (by decide +kernel)⟩
theorem lw_p5 : lw_okq (⟨"BedsThatFit$Beds", "drawn", "(II)I"⟩, 7) := ⟨⟨by decide +kernel, by decide +kernel⟩, List.mem_of_getElem? (i := 181) (by decide +kernel), List.mem_of_getElem? (i := 473) (by decide +kernel), List.mem_of_getElem? (i := 474) (by decide +kernel)⟩
theorem lw_p6 : lw_okq (⟨"BedsThatFit$Nights", "fillBeds", "(LBedsThatFit$Inn;I)V"⟩, 8) := ⟨⟨by decide +kernel, by decide +kernel⟩, List.mem_of_getElem? (i := 50) (by decide +kernel), List.mem_of_getElem? (i := 518) (by decide +kernel), List.mem_of_getElem? (i := 519) (by decide +kernel)⟩
theorem lw_p7 : lw_okq (⟨"BedsThatFit$Nights", "callFirst", "(LBedsThatFit$Party;I)I"⟩, 8) := ⟨⟨by decide +kernel, by decide +kernel⟩, List.mem_of_getElem? (i := 50) (by decide +kernel), List.mem_of_getElem? (i := 526) (by decide +kernel), List.mem_of_getElem? (i := 527) (by decide +kernel)⟩
theorem lw_p8 : lw_okq (⟨"BedsThatFit$Nights", "bestOf", "(LBedsThatFit$Inn;IIII)I"⟩, 8) := ⟨⟨by decide +kernel, by decide +kernel⟩, List.mem_of_getElem? (i := 50) (by decide +kernel), List.mem_of_getElem? (i := 536) (by decide +kernel), List.mem_of_getElem? (i := 537) (by decide +kernel)⟩
theorem lw_p9 : lw_okq (⟨"BedsThatFit", "noteChange", "(III)V"⟩, 9) := ⟨⟨by decide +kernel, by decide +kernel⟩, List.mem_of_getElem? (i := 20) (by decide +kernel), List.mem_of_getElem? (i := 586) (by decide +kernel), List.mem_of_getElem? (i := 587) (by decide +kernel)⟩
theorem lw_p10 : lw_okq (⟨"BedsThatFit$Changes", "dropOldest", "()V"⟩, 4) := ⟨⟨by decide +kernel, by decide +kernel⟩, List.mem_of_getElem? (i := 88) (by decide +kernel), List.mem_of_getElem? (i := 594) (by decide +kernel), List.mem_of_getElem? (i := 595) (by decide +kernel)⟩
theorem lw_p11 : lw_okq (⟨"BedsThatFit", "sumBelow", "(I)I"⟩, 9) := ⟨⟨by decide +kernel, by decide +kernel⟩, List.mem_of_getElem? (i := 20) (by decide +kernel), List.mem_of_getElem? (i := 649) (by decide +kernel), List.mem_of_getElem? (i := 650) (by decide +kernel)⟩
theorem lw_p12 : lw_okq (⟨"BedsThatFit", "noteHarmsNow", "()I"⟩, 9) := ⟨⟨by decide +kernel, by decide +kernel⟩, List.mem_of_getElem? (i := 20) (by decide +kernel), List.mem_of_getElem? (i := 665) (by decide +kernel), List.mem_of_getElem? (i := 666) (by decide +kernel)⟩
theorem lw_p13 : lw_okq (⟨"BedsThatFit", "wouldSwap", "(II)Z"⟩, 9) := ⟨⟨by decide +kernel, by decide +kernel⟩, List.mem_of_getElem? (i := 20) (by decide +kernel), List.mem_of_getElem? (i := 671) (by decide +kernel), List.mem_of_getElem? (i := 672) (by decide +kernel)⟩
theorem lw_p14 : lw_okq (⟨"BedsThatFit$Remains", "addOne", "(II)V"⟩, 5) := ⟨⟨by decide +kernel, by decide +kernel⟩, List.mem_of_getElem? (i := 130) (by decide +kernel), List.mem_of_getElem? (i := 746) (by decide +kernel), List.mem_of_getElem? (i := 747) (by decide +kernel)⟩
theorem lw_p15 : lw_okq (⟨"BedsThatFitModel", "readItem", "()Z"⟩, 44) := ⟨⟨by decide +kernel, by decide +kernel⟩, List.mem_of_getElem? (i := 789) (by decide +kernel), List.mem_of_getElem? (i := 945) (by decide +kernel), List.mem_of_getElem? (i := 946) (by decide +kernel)⟩
def lw_privs_1 : List (MethodName × Nat) := [(⟨"BedsThatFit$Script", "readNumbers", "(I)I"⟩, 4), (⟨"BedsThatFit$Script", "isFigure", "(I)Z"⟩, 4), (⟨"BedsThatFit$Script", "letterAt", "(I)I"⟩, 4), (⟨"BedsThatFit$Inn", "enact", "(I)Z"⟩, 5), (⟨"BedsThatFit$Inn", "addRival", "(I)Z"⟩, 5), (⟨"BedsThatFit$Beds", "drawn", "(II)I"⟩, 7), (⟨"BedsThatFit$Nights", "fillBeds", "(LBedsThatFit$Inn;I)V"⟩, 8), (⟨"BedsThatFit$Nights", "callFirst", "(LBedsThatFit$Party;I)I"⟩, 8), (⟨"BedsThatFit$Nights", "bestOf", "(LBedsThatFit$Inn;IIII)I"⟩, 8), (⟨"BedsThatFit", "noteChange", "(III)V"⟩, 9), (⟨"BedsThatFit$Changes", "dropOldest", "()V"⟩, 4), (⟨"BedsThatFit", "sumBelow", "(I)I"⟩, 9), (⟨"BedsThatFit", "noteHarmsNow", "()I"⟩, 9), (⟨"BedsThatFit", "wouldSwap", "(II)Z"⟩, 9), (⟨"BedsThatFit$Remains", "addOne", "(II)V"⟩, 5), (⟨"BedsThatFitModel", "readItem", "()Z"⟩, 44)]
theorem lw_r1 : ∀ q ∈ lw_privs_1, lw_okq q := List.forall_mem_cons.mpr ⟨lw_p0, List.forall_mem_cons.mpr ⟨lw_p1, List.forall_mem_cons.mpr ⟨lw_p2, List.forall_mem_cons.mpr ⟨lw_p3, List.forall_mem_cons.mpr ⟨lw_p4, List.forall_mem_cons.mpr ⟨lw_p5, List.forall_mem_cons.mpr ⟨lw_p6, List.forall_mem_cons.mpr ⟨lw_p7, List.forall_mem_cons.mpr ⟨lw_p8, List.forall_mem_cons.mpr ⟨lw_p9, List.forall_mem_cons.mpr ⟨lw_p10, List.forall_mem_cons.mpr ⟨lw_p11, List.forall_mem_cons.mpr ⟨lw_p12, List.forall_mem_cons.mpr ⟨lw_p13, List.forall_mem_cons.mpr ⟨lw_p14, List.forall_mem_cons.mpr ⟨lw_p15, fun _ h => absurd h List.not_mem_nil⟩⟩⟩⟩⟩⟩⟩⟩⟩⟩⟩⟩⟩⟩⟩⟩
theorem lw_p16 : lw_okq (⟨"BedsThatFitModel", "readNumbers", "(I)Z"⟩, 44) := ⟨⟨by decide +kernel, by decide +kernel⟩, List.mem_of_getElem? (i := 789) (by decide +kernel), List.mem_of_getElem? (i := 949) (by decide +kernel), List.mem_of_getElem? (i := 950) (by decide +kernel)⟩
theorem lw_p17 : lw_okq (⟨"BedsThatFitModel", "readNumber", "(I)Z"⟩, 44) := ⟨⟨by decide +kernel, by decide +kernel⟩, List.mem_of_getElem? (i := 789) (by decide +kernel), List.mem_of_getElem? (i := 953) (by decide +kernel), List.mem_of_getElem? (i := 954) (by decide +kernel)⟩
theorem lw_p18 : lw_okq (⟨"BedsThatFitModel", "isBed", "(I)Z"⟩, 44) := ⟨⟨by decide +kernel, by decide +kernel⟩, List.mem_of_getElem? (i := 789) (by decide +kernel), List.mem_of_getElem? (i := 974) (by decide +kernel), List.mem_of_getElem? (i := 975) (by decide +kernel)⟩
theorem lw_p19 : lw_okq (⟨"BedsThatFitModel", "lengthOn", "(II)I"⟩, 44) := ⟨⟨by decide +kernel, by decide +kernel⟩, List.mem_of_getElem? (i := 789) (by decide +kernel), List.mem_of_getElem? (i := 981) (by decide +kernel), List.mem_of_getElem? (i := 982) (by decide +kernel)⟩
theorem lw_p20 : lw_okq (⟨"BedsThatFitModel", "isGuest", "(I)Z"⟩, 44) := ⟨⟨by decide +kernel, by decide +kernel⟩, List.mem_of_getElem? (i := 789) (by decide +kernel), List.mem_of_getElem? (i := 994) (by decide +kernel), List.mem_of_getElem? (i := 995) (by decide +kernel)⟩
theorem lw_p21 : lw_okq (⟨"BedsThatFitModel", "harmOf", "(III)I"⟩, 44) := ⟨⟨by decide +kernel, by decide +kernel⟩, List.mem_of_getElem? (i := 789) (by decide +kernel), List.mem_of_getElem? (i := 998) (by decide +kernel), List.mem_of_getElem? (i := 999) (by decide +kernel)⟩
theorem lw_p22 : lw_okq (⟨"BedsThatFitModel", "inchesOn", "(II)I"⟩, 44) := ⟨⟨by decide +kernel, by decide +kernel⟩, List.mem_of_getElem? (i := 789) (by decide +kernel), List.mem_of_getElem? (i := 1002) (by decide +kernel), List.mem_of_getElem? (i := 1003) (by decide +kernel)⟩
theorem lw_p23 : lw_okq (⟨"BedsThatFitModel", "harmBy", "(II)I"⟩, 44) := ⟨⟨by decide +kernel, by decide +kernel⟩, List.mem_of_getElem? (i := 789) (by decide +kernel), List.mem_of_getElem? (i := 1006) (by decide +kernel), List.mem_of_getElem? (i := 1007) (by decide +kernel)⟩
theorem lw_p24 : lw_okq (⟨"BedsThatFitModel", "placeOf", "(I)I"⟩, 44) := ⟨⟨by decide +kernel, by decide +kernel⟩, List.mem_of_getElem? (i := 789) (by decide +kernel), List.mem_of_getElem? (i := 1014) (by decide +kernel), List.mem_of_getElem? (i := 1015) (by decide +kernel)⟩
theorem lw_p25 : lw_okq (⟨"BedsThatFitModel", "stay", "(I)I"⟩, 44) := ⟨⟨by decide +kernel, by decide +kernel⟩, List.mem_of_getElem? (i := 789) (by decide +kernel), List.mem_of_getElem? (i := 1022) (by decide +kernel), List.mem_of_getElem? (i := 1023) (by decide +kernel)⟩
theorem lw_p26 : lw_okq (⟨"BedsThatFitModel", "give", "(II)V"⟩, 44) := ⟨⟨by decide +kernel, by decide +kernel⟩, List.mem_of_getElem? (i := 789) (by decide +kernel), List.mem_of_getElem? (i := 1026) (by decide +kernel), List.mem_of_getElem? (i := 1027) (by decide +kernel)⟩
theorem lw_p27 : lw_okq (⟨"BedsThatFitModel", "isWaiting", "(II)Z"⟩, 44) := ⟨⟨by decide +kernel, by decide +kernel⟩, List.mem_of_getElem? (i := 789) (by decide +kernel), List.mem_of_getElem? (i := 1030) (by decide +kernel), List.mem_of_getElem? (i := 1031) (by decide +kernel)⟩
theorem lw_p28 : lw_okq (⟨"BedsThatFitModel", "lieDown", "(IIII)V"⟩, 44) := ⟨⟨by decide +kernel, by decide +kernel⟩, List.mem_of_getElem? (i := 789) (by decide +kernel), List.mem_of_getElem? (i := 1037) (by decide +kernel), List.mem_of_getElem? (i := 1038) (by decide +kernel)⟩
theorem lw_p29 : lw_okq (⟨"BedsThatFitModel", "unharmed", "()I"⟩, 44) := ⟨⟨by decide +kernel, by decide +kernel⟩, List.mem_of_getElem? (i := 789) (by decide +kernel), List.mem_of_getElem? (i := 1050) (by decide +kernel), List.mem_of_getElem? (i := 1051) (by decide +kernel)⟩
theorem lw_p30 : lw_okq (⟨"BedsThatFitModel", "note", "()V"⟩, 44) := ⟨⟨by decide +kernel, by decide +kernel⟩, List.mem_of_getElem? (i := 789) (by decide +kernel), List.mem_of_getElem? (i := 1058) (by decide +kernel), List.mem_of_getElem? (i := 1059) (by decide +kernel)⟩
theorem lw_p31 : lw_okq (⟨"BedsThatFitModel", "nextRow", "()Z"⟩, 44) := ⟨⟨by decide +kernel, by decide +kernel⟩, List.mem_of_getElem? (i := 789) (by decide +kernel), List.mem_of_getElem? (i := 1080) (by decide +kernel), List.mem_of_getElem? (i := 1081) (by decide +kernel)⟩
def lw_privs_2 : List (MethodName × Nat) := [(⟨"BedsThatFitModel", "readNumbers", "(I)Z"⟩, 44), (⟨"BedsThatFitModel", "readNumber", "(I)Z"⟩, 44), (⟨"BedsThatFitModel", "isBed", "(I)Z"⟩, 44), (⟨"BedsThatFitModel", "lengthOn", "(II)I"⟩, 44), (⟨"BedsThatFitModel", "isGuest", "(I)Z"⟩, 44), (⟨"BedsThatFitModel", "harmOf", "(III)I"⟩, 44), (⟨"BedsThatFitModel", "inchesOn", "(II)I"⟩, 44), (⟨"BedsThatFitModel", "harmBy", "(II)I"⟩, 44), (⟨"BedsThatFitModel", "placeOf", "(I)I"⟩, 44), (⟨"BedsThatFitModel", "stay", "(I)I"⟩, 44), (⟨"BedsThatFitModel", "give", "(II)V"⟩, 44), (⟨"BedsThatFitModel", "isWaiting", "(II)Z"⟩, 44), (⟨"BedsThatFitModel", "lieDown", "(IIII)V"⟩, 44), (⟨"BedsThatFitModel", "unharmed", "()I"⟩, 44), (⟨"BedsThatFitModel", "note", "()V"⟩, 44), (⟨"BedsThatFitModel", "nextRow", "()Z"⟩, 44)]
theorem lw_r2 : ∀ q ∈ lw_privs_2, lw_okq q := List.forall_mem_cons.mpr ⟨lw_p16, List.forall_mem_cons.mpr ⟨lw_p17, List.forall_mem_cons.mpr ⟨lw_p18, List.forall_mem_cons.mpr ⟨lw_p19, List.forall_mem_cons.mpr ⟨lw_p20, List.forall_mem_cons.mpr ⟨lw_p21, List.forall_mem_cons.mpr ⟨lw_p22, List.forall_mem_cons.mpr ⟨lw_p23, List.forall_mem_cons.mpr ⟨lw_p24, List.forall_mem_cons.mpr ⟨lw_p25, List.forall_mem_cons.mpr ⟨lw_p26, List.forall_mem_cons.mpr ⟨lw_p27, List.forall_mem_cons.mpr ⟨lw_p28, List.forall_mem_cons.mpr ⟨lw_p29, List.forall_mem_cons.mpr ⟨lw_p30, List.forall_mem_cons.mpr ⟨lw_p31, fun _ h => absurd h List.not_mem_nil⟩⟩⟩⟩⟩⟩⟩⟩⟩⟩⟩⟩⟩⟩⟩⟩
theorem lw_p32 : lw_okq (⟨"BedsThatFitModel", "exchange", "(II)V"⟩, 44) := ⟨⟨by decide +kernel, by decide +kernel⟩, List.mem_of_getElem? (i := 789) (by decide +kernel), List.mem_of_getElem? (i := 1084) (by decide +kernel), List.mem_of_getElem? (i := 1085) (by decide +kernel)⟩
theorem lw_p33 : lw_okq (⟨"BedsThatFitModel", "sleptBy", "(I)I"⟩, 44) := ⟨⟨by decide +kernel, by decide +kernel⟩, List.mem_of_getElem? (i := 789) (by decide +kernel), List.mem_of_getElem? (i := 1132) (by decide +kernel), List.mem_of_getElem? (i := 1133) (by decide +kernel)⟩
theorem lw_p34 : lw_okq (⟨"BedsThatFitModel", "waysWith", "(II)I"⟩, 44) := ⟨⟨by decide +kernel, by decide +kernel⟩, List.mem_of_getElem? (i := 789) (by decide +kernel), List.mem_of_getElem? (i := 1140) (by decide +kernel), List.mem_of_getElem? (i := 1141) (by decide +kernel)⟩
def lw_privs_3 : List (MethodName × Nat) := [(⟨"BedsThatFitModel", "exchange", "(II)V"⟩, 44), (⟨"BedsThatFitModel", "sleptBy", "(I)I"⟩, 44), (⟨"BedsThatFitModel", "waysWith", "(II)I"⟩, 44)]
theorem lw_r3 : ∀ q ∈ lw_privs_3, lw_okq q := List.forall_mem_cons.mpr ⟨lw_p32, List.forall_mem_cons.mpr ⟨lw_p33, List.forall_mem_cons.mpr ⟨lw_p34, fun _ h => absurd h List.not_mem_nil⟩⟩⟩
def lw_privs : List (MethodName × Nat) := lw_privs_1 ++ (lw_privs_2 ++ (lw_privs_3))
def lw_tbl : List Cond := k2_sels lw_privs ++ tables_1
theorem lw_privs_ok : ∀ q ∈ lw_privs, lw_okq q := by
  show ∀ q ∈ lw_privs_1 ++ (lw_privs_2 ++ (lw_privs_3)), lw_okq q
  exact List.forall_mem_append.mpr ⟨lw_r1, List.forall_mem_append.mpr ⟨lw_r2, lw_r3⟩⟩
def RX0 : String := "BedsThatFit$Beds"
def TX0 : u_T := fun k => match k with
  | 0 => ("BedsThatFit$Beds", "lengths", "[I", true)
  | 1 => ("BedsThatFit$Beds", "longer", "[I", true)
  | 2 => ("BedsThatFit$Beds", "size", "I", false)
  | 3 => ("BedsThatFit$Beds", "feasts", "I", false)
  | 4 => ("BedsThatFit$Beds", "open", "I", false)
  | 5 => ("BedsThatFit$Beds", "turning", "Z", false)
  | _ => ("BedsThatFit$Beds", "year", "I", false)
def tyX0 : Nat → FieldType := fun k => match k with
  | 0 => .array .int
  | 1 => .array .int
  | 2 => .int
  | 3 => .int
  | 4 => .int
  | 5 => .boolean
  | _ => .int
theorem nmX0 : ∀ a, a < 7 → ∀ b, b < 7 → a ≠ b → (TX0 a).2.1 ≠ (TX0 b).2.1 := by decide +kernel
theorem tyX0_ok : ∀ k, k < 7 → parseFieldDescriptor (TX0 k).2.2.1 = some (tyX0 k) := by decide +kernel
abbrev cX0_init : ByteArray := prog_2_method_1_code
def yX0_init : MethodName := ⟨RX0, "<init>", "()V"⟩
abbrev cX0_clear : ByteArray := prog_2_method_2_code
def yX0_clear : MethodName := ⟨RX0, "clear", "()V"⟩
abbrev cX0_has : ByteArray := prog_2_method_3_code
def yX0_has : MethodName := ⟨RX0, "has", "(I)Z"⟩
abbrev cX0_add : ByteArray := prog_2_method_4_code
def yX0_add : MethodName := ⟨RX0, "add", "(I)Z"⟩
abbrev cX0_addFeast : ByteArray := prog_2_method_5_code
def yX0_addFeast : MethodName := ⟨RX0, "addFeast", "(II)Z"⟩
abbrev cX0_lengthOn : ByteArray := prog_2_method_6_code
def yX0_lengthOn : MethodName := ⟨RX0, "lengthOn", "(II)I"⟩
abbrev cX0_drawn : ByteArray := prog_2_method_7_code
def yX0_drawn : MethodName := ⟨RX0, "drawn", "(II)I"⟩
def RX1 : String := "BedsThatFit$Changes"
def TX1 : u_T := fun k => match k with
  | 0 => ("BedsThatFit$Changes", "whats", "[I", true)
  | 1 => ("BedsThatFit$Changes", "guests", "[I", true)
  | 2 => ("BedsThatFit$Changes", "olds", "[I", true)
  | _ => ("BedsThatFit$Changes", "size", "I", false)
def tyX1 : Nat → FieldType := fun k => match k with
  | 0 => .array .int
  | 1 => .array .int
  | 2 => .array .int
  | _ => .int
theorem nmX1 : ∀ a, a < 4 → ∀ b, b < 4 → a ≠ b → (TX1 a).2.1 ≠ (TX1 b).2.1 := by decide +kernel
theorem tyX1_ok : ∀ k, k < 4 → parseFieldDescriptor (TX1 k).2.2.1 = some (tyX1 k) := by decide +kernel
abbrev cX1_init : ByteArray := prog_3_method_1_code
def yX1_init : MethodName := ⟨RX1, "<init>", "()V"⟩
abbrev cX1_push : ByteArray := prog_3_method_2_code
def yX1_push : MethodName := ⟨RX1, "push", "(III)V"⟩
abbrev cX1_dropOldest : ByteArray := prog_3_method_3_code
def yX1_dropOldest : MethodName := ⟨RX1, "dropOldest", "()V"⟩
abbrev cX1_takeBack : ByteArray := prog_3_method_4_code
def yX1_takeBack : MethodName := ⟨RX1, "takeBack", "(LBedsThatFit$Party;)V"⟩
def RX2 : String := "BedsThatFit$Inn"
def TX2 : u_T := fun k => match k with
  | 0 => ("BedsThatFit$Inn", "beds", "LBedsThatFit$Beds;", true)
  | 1 => ("BedsThatFit$Inn", "party", "LBedsThatFit$Party;", true)
  | 2 => ("BedsThatFit$Inn", "rivalLengths", "[I", true)
  | 3 => ("BedsThatFit$Inn", "rivals", "I", false)
  | _ => ("BedsThatFit$Inn", "law", "I", false)
def tyX2 : Nat → FieldType := fun k => match k with
  | 0 => .object "BedsThatFit$Beds"
  | 1 => .object "BedsThatFit$Party"
  | 2 => .array .int
  | 3 => .int
  | _ => .int
theorem nmX2 : ∀ a, a < 5 → ∀ b, b < 5 → a ≠ b → (TX2 a).2.1 ≠ (TX2 b).2.1 := by decide +kernel
theorem tyX2_ok : ∀ k, k < 5 → parseFieldDescriptor (TX2 k).2.2.1 = some (tyX2 k) := by decide +kernel
abbrev cX2_init : ByteArray := prog_4_method_1_code
def yX2_init : MethodName := ⟨RX2, "<init>", "()V"⟩
abbrev cX2_clear : ByteArray := prog_4_method_2_code
def yX2_clear : MethodName := ⟨RX2, "clear", "()V"⟩
abbrev cX2_canOpen : ByteArray := prog_4_method_3_code
def yX2_canOpen : MethodName := ⟨RX2, "canOpen", "()Z"⟩
abbrev cX2_tell : ByteArray := prog_4_method_4_code
def yX2_tell : MethodName := ⟨RX2, "tell", "(IIIII)Z"⟩
abbrev cX2_enact : ByteArray := prog_4_method_5_code
def yX2_enact : MethodName := ⟨RX2, "enact", "(I)Z"⟩
abbrev cX2_addRival : ByteArray := prog_4_method_6_code
def yX2_addRival : MethodName := ⟨RX2, "addRival", "(I)Z"⟩
abbrev cX2_namable : ByteArray := prog_4_method_7_code
def yX2_namable : MethodName := ⟨RX2, "namable", "(I)I"⟩
abbrev cX2_leastAtRival : ByteArray := prog_4_method_8_code
def yX2_leastAtRival : MethodName := ⟨RX2, "leastAtRival", "(I)I"⟩
def RX3 : String := "BedsThatFit$Nights"
def TX3 : u_T := fun k => match k with
  | 0 => ("BedsThatFit$Nights", "night", "[I", true)
  | 1 => ("BedsThatFit$Nights", "place", "[I", true)
  | 2 => ("BedsThatFit$Nights", "harms", "[I", true)
  | 3 => ("BedsThatFit$Nights", "namer", "[I", true)
  | 4 => ("BedsThatFit$Nights", "calls", "[I", true)
  | 5 => ("BedsThatFit$Nights", "lain", "I", false)
  | 6 => ("BedsThatFit$Nights", "sum", "I", false)
  | _ => ("BedsThatFit$Nights", "deepest", "I", false)
def tyX3 : Nat → FieldType := fun k => match k with
  | 0 => .array .int
  | 1 => .array .int
  | 2 => .array .int
  | 3 => .array .int
  | 4 => .array .int
  | 5 => .int
  | 6 => .int
  | _ => .int
theorem nmX3 : ∀ a, a < 8 → ∀ b, b < 8 → a ≠ b → (TX3 a).2.1 ≠ (TX3 b).2.1 := by decide +kernel
theorem tyX3_ok : ∀ k, k < 8 → parseFieldDescriptor (TX3 k).2.2.1 = some (tyX3 k) := by decide +kernel
abbrev cX3_init : ByteArray := prog_5_method_1_code
def yX3_init : MethodName := ⟨RX3, "<init>", "()V"⟩
abbrev cX3_pass : ByteArray := prog_5_method_2_code
def yX3_pass : MethodName := ⟨RX3, "pass", "(LBedsThatFit$Inn;I)V"⟩
abbrev cX3_fillBeds : ByteArray := prog_5_method_3_code
def yX3_fillBeds : MethodName := ⟨RX3, "fillBeds", "(LBedsThatFit$Inn;I)V"⟩
abbrev cX3_callFirst : ByteArray := prog_5_method_4_code
def yX3_callFirst : MethodName := ⟨RX3, "callFirst", "(LBedsThatFit$Party;I)I"⟩
abbrev cX3_bestOf : ByteArray := prog_5_method_5_code
def yX3_bestOf : MethodName := ⟨RX3, "bestOf", "(LBedsThatFit$Inn;IIII)I"⟩
abbrev cX3_hasLain : ByteArray := prog_5_method_6_code
def yX3_hasLain : MethodName := ⟨RX3, "hasLain", "(I)Z"⟩
abbrev cX3_total : ByteArray := prog_5_method_7_code
def yX3_total : MethodName := ⟨RX3, "total", "(LBedsThatFit$Party;)I"⟩
abbrev cX3_unharmed : ByteArray := prog_5_method_8_code
def yX3_unharmed : MethodName := ⟨RX3, "unharmed", "(LBedsThatFit$Party;)I"⟩
abbrev cX3_greatest : ByteArray := prog_5_method_9_code
def yX3_greatest : MethodName := ⟨RX3, "greatest", "(LBedsThatFit$Party;)I"⟩
abbrev cX3_allLainBy : ByteArray := prog_5_method_10_code
def yX3_allLainBy : MethodName := ⟨RX3, "allLainBy", "(LBedsThatFit$Party;I)Z"⟩
def RX4 : String := "BedsThatFit$Orders"
def TX4 : u_T := fun k => match k with
  | 0 => ("BedsThatFit$Orders", "row", "[I", true)
  | 1 => ("BedsThatFit$Orders", "asIs", "[I", true)
  | 2 => ("BedsThatFit$Orders", "least", "I", false)
  | _ => ("BedsThatFit$Orders", "known", "Z", false)
def tyX4 : Nat → FieldType := fun k => match k with
  | 0 => .array .int
  | 1 => .array .int
  | 2 => .int
  | _ => .boolean
theorem nmX4 : ∀ a, a < 4 → ∀ b, b < 4 → a ≠ b → (TX4 a).2.1 ≠ (TX4 b).2.1 := by decide +kernel
theorem tyX4_ok : ∀ k, k < 4 → parseFieldDescriptor (TX4 k).2.2.1 = some (tyX4 k) := by decide +kernel
abbrev cX4_init : ByteArray := prog_6_method_1_code
def yX4_init : MethodName := ⟨RX4, "<init>", "()V"⟩
abbrev cX4_search : ByteArray := prog_6_method_2_code
def yX4_search : MethodName := ⟨RX4, "search", "(LBedsThatFit$Inn;LBedsThatFit$Nights;)V"⟩
abbrev cX4_toNextRow : ByteArray := prog_6_method_3_code
def yX4_toNextRow : MethodName := ⟨RX4, "toNextRow", "(LBedsThatFit$Party;I)Z"⟩
abbrev cX4_letFall : ByteArray := prog_6_method_4_code
def yX4_letFall : MethodName := ⟨RX4, "letFall", "(LBedsThatFit$Party;I)V"⟩
abbrev cX4_turnRound : ByteArray := prog_6_method_5_code
def yX4_turnRound : MethodName := ⟨RX4, "turnRound", "(LBedsThatFit$Party;I)V"⟩
abbrev cX4_swap : ByteArray := prog_6_method_6_code
def yX4_swap : MethodName := ⟨RX4, "swap", "(LBedsThatFit$Party;II)V"⟩
def RX5 : String := "BedsThatFit$Party"
def TX5 : u_T := fun k => match k with
  | 0 => ("BedsThatFit$Party", "inches", "[I", true)
  | 1 => ("BedsThatFit$Party", "comes", "[I", true)
  | 2 => ("BedsThatFit$Party", "kinds", "[I", true)
  | 3 => ("BedsThatFit$Party", "friends", "[I", true)
  | 4 => ("BedsThatFit$Party", "worn", "[I", true)
  | 5 => ("BedsThatFit$Party", "row", "[I", true)
  | _ => ("BedsThatFit$Party", "size", "I", false)
def tyX5 : Nat → FieldType := fun k => match k with
  | 0 => .array .int
  | 1 => .array .int
  | 2 => .array .int
  | 3 => .array .int
  | 4 => .array .int
  | 5 => .array .int
  | _ => .int
theorem nmX5 : ∀ a, a < 7 → ∀ b, b < 7 → a ≠ b → (TX5 a).2.1 ≠ (TX5 b).2.1 := by decide +kernel
theorem tyX5_ok : ∀ k, k < 7 → parseFieldDescriptor (TX5 k).2.2.1 = some (tyX5 k) := by decide +kernel
abbrev cX5_init : ByteArray := prog_7_method_1_code
def yX5_init : MethodName := ⟨RX5, "<init>", "()V"⟩
abbrev cX5_has : ByteArray := prog_7_method_2_code
def yX5_has : MethodName := ⟨RX5, "has", "(I)Z"⟩
abbrev cX5_everyone : ByteArray := prog_7_method_3_code
def yX5_everyone : MethodName := ⟨RX5, "everyone", "()I"⟩
abbrev cX5_add : ByteArray := prog_7_method_4_code
def yX5_add : MethodName := ⟨RX5, "add", "(III)Z"⟩
abbrev cX5_befriend : ByteArray := prog_7_method_5_code
def yX5_befriend : MethodName := ⟨RX5, "befriend", "(II)Z"⟩
abbrev cX5_hereBy : ByteArray := prog_7_method_6_code
def yX5_hereBy : MethodName := ⟨RX5, "hereBy", "(I)I"⟩
abbrev cX5_harmAt : ByteArray := prog_7_method_7_code
def yX5_harmAt : MethodName := ⟨RX5, "harmAt", "(III)I"⟩
abbrev cX5_harmBy : ByteArray := prog_7_method_8_code
def yX5_harmBy : MethodName := ⟨RX5, "harmBy", "(II)I"⟩
abbrev cX5_placeOf : ByteArray := prog_7_method_9_code
def yX5_placeOf : MethodName := ⟨RX5, "placeOf", "(I)I"⟩
abbrev cX5_shift : ByteArray := prog_7_method_10_code
def yX5_shift : MethodName := ⟨RX5, "shift", "(II)V"⟩
abbrev cX5_swapPlaces : ByteArray := prog_7_method_11_code
def yX5_swapPlaces : MethodName := ⟨RX5, "swapPlaces", "(II)V"⟩
def RX6 : String := "BedsThatFit$Remains"
def TX6 : u_T := fun k => match k with
  | 0 => ("BedsThatFit$Remains", "beds", "[I", true)
  | 1 => ("BedsThatFit$Remains", "nights", "[I", true)
  | 2 => ("BedsThatFit$Remains", "harms", "[I", true)
  | 3 => ("BedsThatFit$Remains", "waysBySet", "[I", true)
  | _ => ("BedsThatFit$Remains", "size", "I", false)
def tyX6 : Nat → FieldType := fun k => match k with
  | 0 => .array .int
  | 1 => .array .int
  | 2 => .array .int
  | 3 => .array .int
  | _ => .int
theorem nmX6 : ∀ a, a < 5 → ∀ b, b < 5 → a ≠ b → (TX6 a).2.1 ≠ (TX6 b).2.1 := by decide +kernel
theorem tyX6_ok : ∀ k, k < 5 → parseFieldDescriptor (TX6 k).2.2.1 = some (tyX6 k) := by decide +kernel
abbrev cX6_init : ByteArray := prog_8_method_1_code
def yX6_init : MethodName := ⟨RX6, "<init>", "()V"⟩
abbrev cX6_has : ByteArray := prog_8_method_2_code
def yX6_has : MethodName := ⟨RX6, "has", "(I)Z"⟩
abbrev cX6_add : ByteArray := prog_8_method_3_code
def yX6_add : MethodName := ⟨RX6, "add", "(III)Z"⟩
abbrev cX6_sleepersOf : ByteArray := prog_8_method_4_code
def yX6_sleepersOf : MethodName := ⟨RX6, "sleepersOf", "(LBedsThatFit$Inn;I)I"⟩
abbrev cX6_ways : ByteArray := prog_8_method_5_code
def yX6_ways : MethodName := ⟨RX6, "ways", "(LBedsThatFit$Inn;II)I"⟩
abbrev cX6_addOne : ByteArray := prog_8_method_6_code
def yX6_addOne : MethodName := ⟨RX6, "addOne", "(II)V"⟩
abbrev cX6_onlySleeperOf : ByteArray := prog_8_method_7_code
def yX6_onlySleeperOf : MethodName := ⟨RX6, "onlySleeperOf", "(LBedsThatFit$Inn;I)I"⟩
def RX7 : String := "BedsThatFit$Script"
def TX7 : u_T := fun k => match k with
  | 0 => ("BedsThatFit$Script", "letters", "[C", true)
  | 1 => ("BedsThatFit$Script", "numbers", "[I", true)
  | 2 => ("BedsThatFit$Script", "size", "I", false)
  | _ => ("BedsThatFit$Script", "told", "I", false)
def tyX7 : Nat → FieldType := fun k => match k with
  | 0 => .array .char
  | 1 => .array .int
  | 2 => .int
  | _ => .int
theorem nmX7 : ∀ a, a < 4 → ∀ b, b < 4 → a ≠ b → (TX7 a).2.1 ≠ (TX7 b).2.1 := by decide +kernel
theorem tyX7_ok : ∀ k, k < 4 → parseFieldDescriptor (TX7 k).2.2.1 = some (tyX7 k) := by decide +kernel
abbrev cX7_init : ByteArray := prog_9_method_1_code
def yX7_init : MethodName := ⟨RX7, "<init>", "()V"⟩
abbrev cX7_put : ByteArray := prog_9_method_2_code
def yX7_put : MethodName := ⟨RX7, "put", "(C)Z"⟩
abbrev cX7_readInto : ByteArray := prog_9_method_3_code
def yX7_readInto : MethodName := ⟨RX7, "readInto", "(LBedsThatFit$Inn;)I"⟩
abbrev cX7_readNumbers : ByteArray := prog_9_method_4_code
def yX7_readNumbers : MethodName := ⟨RX7, "readNumbers", "(I)I"⟩
abbrev cX7_isFigure : ByteArray := prog_9_method_5_code
def yX7_isFigure : MethodName := ⟨RX7, "isFigure", "(I)Z"⟩
abbrev cX7_letterAt : ByteArray := prog_9_method_6_code
def yX7_letterAt : MethodName := ⟨RX7, "letterAt", "(I)I"⟩
def RX8 : String := "BedsThatFit$Shelf"
def TX8 : u_T := fun k => match k with
  | 0 => ("BedsThatFit$Shelf", "rows", "[[I", true)
  | 1 => ("BedsThatFit$Shelf", "worn", "[[I", true)
  | 2 => ("BedsThatFit$Shelf", "comes", "[[I", true)
  | _ => ("BedsThatFit$Shelf", "size", "I", false)
def tyX8 : Nat → FieldType := fun k => match k with
  | 0 => .array (.array .int)
  | 1 => .array (.array .int)
  | 2 => .array (.array .int)
  | _ => .int
theorem nmX8 : ∀ a, a < 4 → ∀ b, b < 4 → a ≠ b → (TX8 a).2.1 ≠ (TX8 b).2.1 := by decide +kernel
theorem tyX8_ok : ∀ k, k < 4 → parseFieldDescriptor (TX8 k).2.2.1 = some (tyX8 k) := by decide +kernel
abbrev cX8_init : ByteArray := prog_10_method_1_code
def yX8_init : MethodName := ⟨RX8, "<init>", "()V"⟩
abbrev cX8_put : ByteArray := prog_10_method_2_code
def yX8_put : MethodName := ⟨RX8, "put", "(LBedsThatFit$Party;)Z"⟩
abbrev cX8_takeInto : ByteArray := prog_10_method_3_code
def yX8_takeInto : MethodName := ⟨RX8, "takeInto", "(LBedsThatFit$Party;)V"⟩
def RX9 : String := "BedsThatFit"
def TX9 : u_T := fun k => match k with
  | 0 => ("BedsThatFit", "script", "LBedsThatFit$Script;", true)
  | 1 => ("BedsThatFit", "nights", "LBedsThatFit$Nights;", true)
  | 2 => ("BedsThatFit", "changes", "LBedsThatFit$Changes;", true)
  | 3 => ("BedsThatFit", "shelf", "LBedsThatFit$Shelf;", true)
  | 4 => ("BedsThatFit", "remains", "LBedsThatFit$Remains;", true)
  | 5 => ("BedsThatFit", "orders", "LBedsThatFit$Orders;", true)
  | 6 => ("BedsThatFit", "harmsNow", "[I", true)
  | 7 => ("BedsThatFit", "inn", "LBedsThatFit$Inn;", false)
  | _ => ("BedsThatFit", "draft", "LBedsThatFit$Inn;", false)
def tyX9 : Nat → FieldType := fun k => match k with
  | 0 => .object "BedsThatFit$Script"
  | 1 => .object "BedsThatFit$Nights"
  | 2 => .object "BedsThatFit$Changes"
  | 3 => .object "BedsThatFit$Shelf"
  | 4 => .object "BedsThatFit$Remains"
  | 5 => .object "BedsThatFit$Orders"
  | 6 => .array .int
  | 7 => .object "BedsThatFit$Inn"
  | _ => .object "BedsThatFit$Inn"
theorem nmX9 : ∀ a, a < 9 → ∀ b, b < 9 → a ≠ b → (TX9 a).2.1 ≠ (TX9 b).2.1 := by decide +kernel
theorem tyX9_ok : ∀ k, k < 9 → parseFieldDescriptor (TX9 k).2.2.1 = some (tyX9 k) := by decide +kernel
abbrev cX9_init : ByteArray := prog_1_method_1_code
def yX9_init : MethodName := ⟨RX9, "<init>", "()V"⟩
abbrev cX9_write : ByteArray := prog_1_method_2_code
def yX9_write : MethodName := ⟨RX9, "write", "(I)I"⟩
abbrev cX9_wipe : ByteArray := prog_1_method_3_code
def yX9_wipe : MethodName := ⟨RX9, "wipe", "()I"⟩
abbrev cX9_fault : ByteArray := prog_1_method_4_code
def yX9_fault : MethodName := ⟨RX9, "fault", "()I"⟩
abbrev cX9_lay : ByteArray := prog_1_method_5_code
def yX9_lay : MethodName := ⟨RX9, "lay", "()I"⟩
abbrev cX9_bed : ByteArray := prog_1_method_6_code
def yX9_bed : MethodName := ⟨RX9, "bed", "(II)I"⟩
abbrev cX9_guest : ByteArray := prog_1_method_7_code
def yX9_guest : MethodName := ⟨RX9, "guest", "(II)I"⟩
abbrev cX9_harm : ByteArray := prog_1_method_8_code
def yX9_harm : MethodName := ⟨RX9, "harm", "(III)I"⟩
abbrev cX9_lies : ByteArray := prog_1_method_9_code
def yX9_lies : MethodName := ⟨RX9, "lies", "(II)I"⟩
abbrev cX9_who : ByteArray := prog_1_method_10_code
def yX9_who : MethodName := ⟨RX9, "who", "(II)I"⟩
abbrev cX9_all : ByteArray := prog_1_method_11_code
def yX9_all : MethodName := ⟨RX9, "all", "(I)I"⟩
abbrev cX9_move : ByteArray := prog_1_method_12_code
def yX9_move : MethodName := ⟨RX9, "move", "(II)I"⟩
abbrev cX9_wear : ByteArray := prog_1_method_13_code
def yX9_wear : MethodName := ⟨RX9, "wear", "(II)I"⟩
abbrev cX9_come : ByteArray := prog_1_method_14_code
def yX9_come : MethodName := ⟨RX9, "come", "(II)I"⟩
abbrev cX9_undo : ByteArray := prog_1_method_15_code
def yX9_undo : MethodName := ⟨RX9, "undo", "()I"⟩
abbrev cX9_order : ByteArray := prog_1_method_16_code
def yX9_order : MethodName := ⟨RX9, "order", "(I)I"⟩
abbrev cX9_cushion : ByteArray := prog_1_method_17_code
def yX9_cushion : MethodName := ⟨RX9, "cushion", "(I)I"⟩
abbrev cX9_length : ByteArray := prog_1_method_18_code
def yX9_length : MethodName := ⟨RX9, "length", "(II)I"⟩
abbrev cX9_law : ByteArray := prog_1_method_19_code
def yX9_law : MethodName := ⟨RX9, "law", "()I"⟩
abbrev cX9_pairs : ByteArray := prog_1_method_20_code
def yX9_pairs : MethodName := ⟨RX9, "pairs", "(I)I"⟩
abbrev cX9_later : ByteArray := prog_1_method_21_code
def yX9_later : MethodName := ⟨RX9, "later", "(II)I"⟩
abbrev cX9_rival : ByteArray := prog_1_method_22_code
def yX9_rival : MethodName := ⟨RX9, "rival", "()I"⟩
abbrev cX9_fewest : ByteArray := prog_1_method_23_code
def yX9_fewest : MethodName := ⟨RX9, "fewest", "(I)I"⟩
abbrev cX9_turned : ByteArray := prog_1_method_24_code
def yX9_turned : MethodName := ⟨RX9, "turned", "()I"⟩
abbrev cX9_left : ByteArray := prog_1_method_25_code
def yX9_left : MethodName := ⟨RX9, "left", "(III)I"⟩
abbrev cX9_sweep : ByteArray := prog_1_method_26_code
def yX9_sweep : MethodName := ⟨RX9, "sweep", "()I"⟩
abbrev cX9_slept : ByteArray := prog_1_method_27_code
def yX9_slept : MethodName := ⟨RX9, "slept", "(I)I"⟩
abbrev cX9_sure : ByteArray := prog_1_method_28_code
def yX9_sure : MethodName := ⟨RX9, "sure", "(I)I"⟩
abbrev cX9_found : ByteArray := prog_1_method_29_code
def yX9_found : MethodName := ⟨RX9, "found", "(II)I"⟩
abbrev cX9_year : ByteArray := prog_1_method_30_code
def yX9_year : MethodName := ⟨RX9, "year", "(II)I"⟩
abbrev cX9_keep : ByteArray := prog_1_method_31_code
def yX9_keep : MethodName := ⟨RX9, "keep", "()I"⟩
abbrev cX9_back : ByteArray := prog_1_method_32_code
def yX9_back : MethodName := ⟨RX9, "back", "()I"⟩
abbrev cX9_count : ByteArray := prog_1_method_33_code
def yX9_count : MethodName := ⟨RX9, "count", "(I)I"⟩
abbrev cX9_isWithin : ByteArray := prog_1_method_34_code
def yX9_isWithin : MethodName := ⟨RX9, "isWithin", "(III)Z"⟩
abbrev cX9_isNight : ByteArray := prog_1_method_35_code
def yX9_isNight : MethodName := ⟨RX9, "isNight", "(I)Z"⟩
abbrev cX9_isLength : ByteArray := prog_1_method_36_code
def yX9_isLength : MethodName := ⟨RX9, "isLength", "(I)Z"⟩
abbrev cX9_isIn : ByteArray := prog_1_method_37_code
def yX9_isIn : MethodName := ⟨RX9, "isIn", "(II)Z"⟩
abbrev cX9_noteChange : ByteArray := prog_1_method_38_code
def yX9_noteChange : MethodName := ⟨RX9, "noteChange", "(III)V"⟩
abbrev cX9_sumBelow : ByteArray := prog_1_method_39_code
def yX9_sumBelow : MethodName := ⟨RX9, "sumBelow", "(I)I"⟩
abbrev cX9_noteHarmsNow : ByteArray := prog_1_method_40_code
def yX9_noteHarmsNow : MethodName := ⟨RX9, "noteHarmsNow", "()I"⟩
abbrev cX9_wouldSwap : ByteArray := prog_1_method_41_code
def yX9_wouldSwap : MethodName := ⟨RX9, "wouldSwap", "(II)Z"⟩
def RX10 : String := "BedsThatFitModel"
def TX10 : u_T := fun k => match k with
  | 0 => ("BedsThatFitModel", "lengths", "[I", true)
  | 1 => ("BedsThatFitModel", "beds", "I", false)
  | 2 => ("BedsThatFitModel", "feasts", "[I", true)
  | 3 => ("BedsThatFitModel", "feastMany", "I", false)
  | 4 => ("BedsThatFitModel", "inches", "[I", true)
  | 5 => ("BedsThatFitModel", "kinds", "[I", true)
  | 6 => ("BedsThatFitModel", "friends", "[I", true)
  | 7 => ("BedsThatFitModel", "guests", "I", false)
  | 8 => ("BedsThatFitModel", "rivals", "[I", true)
  | 9 => ("BedsThatFitModel", "rivalMany", "I", false)
  | 10 => ("BedsThatFitModel", "law", "I", false)
  | 11 => ("BedsThatFitModel", "st", "[I", true)
  | 12 => ("BedsThatFitModel", "text", "[I", true)
  | 13 => ("BedsThatFitModel", "many", "I", false)
  | 14 => ("BedsThatFitModel", "place", "I", false)
  | 15 => ("BedsThatFitModel", "numbers", "I", false)
  | 16 => ("BedsThatFitModel", "number", "[I", true)
  | 17 => ("BedsThatFitModel", "readBeds", "[I", true)
  | 18 => ("BedsThatFitModel", "readBedMany", "I", false)
  | 19 => ("BedsThatFitModel", "readFeasts", "[I", true)
  | 20 => ("BedsThatFitModel", "readFeastMany", "I", false)
  | 21 => ("BedsThatFitModel", "readGuests", "[I", true)
  | 22 => ("BedsThatFitModel", "readFriends", "[I", true)
  | 23 => ("BedsThatFitModel", "readGuestMany", "I", false)
  | 24 => ("BedsThatFitModel", "readRivals", "[I", true)
  | 25 => ("BedsThatFitModel", "readRivalMany", "I", false)
  | 26 => ("BedsThatFitModel", "readLaw", "I", false)
  | 27 => ("BedsThatFitModel", "isTurned", "Z", false)
  | 28 => ("BedsThatFitModel", "yearNow", "I", false)
  | 29 => ("BedsThatFitModel", "nights", "[I", true)
  | 30 => ("BedsThatFitModel", "where", "[I", true)
  | 31 => ("BedsThatFitModel", "harms", "[I", true)
  | 32 => ("BedsThatFitModel", "namers", "[I", true)
  | 33 => ("BedsThatFitModel", "calls", "[I", true)
  | 34 => ("BedsThatFitModel", "ahead", "[I", true)
  | 35 => ("BedsThatFitModel", "undoMany", "I", false)
  | 36 => ("BedsThatFitModel", "had", "[I", true)
  | 37 => ("BedsThatFitModel", "bestRow", "[I", true)
  | 38 => ("BedsThatFitModel", "lefts", "[I", true)
  | 39 => ("BedsThatFitModel", "leftMany", "I", false)
  | 40 => ("BedsThatFitModel", "ways", "[I", true)
  | 41 => ("BedsThatFitModel", "then", "[I", true)
  | 42 => ("BedsThatFitModel", "kept", "[I", true)
  | _ => ("BedsThatFitModel", "keptMany", "I", false)
def tyX10 : Nat → FieldType := fun k => match k with
  | 0 => .array .int
  | 1 => .int
  | 2 => .array .int
  | 3 => .int
  | 4 => .array .int
  | 5 => .array .int
  | 6 => .array .int
  | 7 => .int
  | 8 => .array .int
  | 9 => .int
  | 10 => .int
  | 11 => .array .int
  | 12 => .array .int
  | 13 => .int
  | 14 => .int
  | 15 => .int
  | 16 => .array .int
  | 17 => .array .int
  | 18 => .int
  | 19 => .array .int
  | 20 => .int
  | 21 => .array .int
  | 22 => .array .int
  | 23 => .int
  | 24 => .array .int
  | 25 => .int
  | 26 => .int
  | 27 => .boolean
  | 28 => .int
  | 29 => .array .int
  | 30 => .array .int
  | 31 => .array .int
  | 32 => .array .int
  | 33 => .array .int
  | 34 => .array .int
  | 35 => .int
  | 36 => .array .int
  | 37 => .array .int
  | 38 => .array .int
  | 39 => .int
  | 40 => .array .int
  | 41 => .array .int
  | 42 => .array .int
  | _ => .int
theorem nmX10 : ∀ a, a < 44 → ∀ b, b < 44 → a ≠ b → (TX10 a).2.1 ≠ (TX10 b).2.1 := by decide +kernel
theorem tyX10_ok : ∀ k, k < 44 → parseFieldDescriptor (TX10 k).2.2.1 = some (tyX10 k) := by decide +kernel
abbrev cX10_init : ByteArray := prog_12_method_1_code
def yX10_init : MethodName := ⟨RX10, "<init>", "()V"⟩
abbrev cX10_in : ByteArray := prog_12_method_2_code
def yX10_in : MethodName := ⟨RX10, "in", "(JJJ)Z"⟩
abbrev cX10_has : ByteArray := prog_12_method_3_code
def yX10_has : MethodName := ⟨RX10, "has", "(II)Z"⟩
abbrev cX10_isBed : ByteArray := prog_12_method_4_code
def yX10_isBed : MethodName := ⟨RX10, "isBed", "(I)Z"⟩
abbrev cX10_isGuest : ByteArray := prog_12_method_5_code
def yX10_isGuest : MethodName := ⟨RX10, "isGuest", "(I)Z"⟩
abbrev cX10_isNight : ByteArray := prog_12_method_6_code
def yX10_isNight : MethodName := ⟨RX10, "isNight", "(I)Z"⟩
abbrev cX10_write : ByteArray := prog_12_method_7_code
def yX10_write : MethodName := ⟨RX10, "write", "(I)I"⟩
abbrev cX10_wipe : ByteArray := prog_12_method_8_code
def yX10_wipe : MethodName := ⟨RX10, "wipe", "()I"⟩
abbrev cX10_readNumber : ByteArray := prog_12_method_9_code
def yX10_readNumber : MethodName := ⟨RX10, "readNumber", "(I)Z"⟩
abbrev cX10_readNumbers : ByteArray := prog_12_method_10_code
def yX10_readNumbers : MethodName := ⟨RX10, "readNumbers", "(I)Z"⟩
abbrev cX10_readItem : ByteArray := prog_12_method_11_code
def yX10_readItem : MethodName := ⟨RX10, "readItem", "()Z"⟩
abbrev cX10_fault : ByteArray := prog_12_method_12_code
def yX10_fault : MethodName := ⟨RX10, "fault", "()I"⟩
abbrev cX10_lay : ByteArray := prog_12_method_13_code
def yX10_lay : MethodName := ⟨RX10, "lay", "()I"⟩
abbrev cX10_lengthOn : ByteArray := prog_12_method_14_code
def yX10_lengthOn : MethodName := ⟨RX10, "lengthOn", "(II)I"⟩
abbrev cX10_bed : ByteArray := prog_12_method_15_code
def yX10_bed : MethodName := ⟨RX10, "bed", "(II)I"⟩
abbrev cX10_inchesOn : ByteArray := prog_12_method_16_code
def yX10_inchesOn : MethodName := ⟨RX10, "inchesOn", "(II)I"⟩
abbrev cX10_harmBy : ByteArray := prog_12_method_17_code
def yX10_harmBy : MethodName := ⟨RX10, "harmBy", "(II)I"⟩
abbrev cX10_harmOf : ByteArray := prog_12_method_18_code
def yX10_harmOf : MethodName := ⟨RX10, "harmOf", "(III)I"⟩
abbrev cX10_harm : ByteArray := prog_12_method_19_code
def yX10_harm : MethodName := ⟨RX10, "harm", "(III)I"⟩
abbrev cX10_placeOf : ByteArray := prog_12_method_20_code
def yX10_placeOf : MethodName := ⟨RX10, "placeOf", "(I)I"⟩
abbrev cX10_guest : ByteArray := prog_12_method_21_code
def yX10_guest : MethodName := ⟨RX10, "guest", "(II)I"⟩
abbrev cX10_isWaiting : ByteArray := prog_12_method_22_code
def yX10_isWaiting : MethodName := ⟨RX10, "isWaiting", "(II)Z"⟩
abbrev cX10_lieDown : ByteArray := prog_12_method_23_code
def yX10_lieDown : MethodName := ⟨RX10, "lieDown", "(IIII)V"⟩
abbrev cX10_give : ByteArray := prog_12_method_24_code
def yX10_give : MethodName := ⟨RX10, "give", "(II)V"⟩
abbrev cX10_stay : ByteArray := prog_12_method_25_code
def yX10_stay : MethodName := ⟨RX10, "stay", "(I)I"⟩
abbrev cX10_lies : ByteArray := prog_12_method_26_code
def yX10_lies : MethodName := ⟨RX10, "lies", "(II)I"⟩
abbrev cX10_who : ByteArray := prog_12_method_27_code
def yX10_who : MethodName := ⟨RX10, "who", "(II)I"⟩
abbrev cX10_unharmed : ByteArray := prog_12_method_28_code
def yX10_unharmed : MethodName := ⟨RX10, "unharmed", "()I"⟩
abbrev cX10_all : ByteArray := prog_12_method_29_code
def yX10_all : MethodName := ⟨RX10, "all", "(I)I"⟩
abbrev cX10_note : ByteArray := prog_12_method_30_code
def yX10_note : MethodName := ⟨RX10, "note", "()V"⟩
abbrev cX10_move : ByteArray := prog_12_method_31_code
def yX10_move : MethodName := ⟨RX10, "move", "(II)I"⟩
abbrev cX10_wear : ByteArray := prog_12_method_32_code
def yX10_wear : MethodName := ⟨RX10, "wear", "(II)I"⟩
abbrev cX10_come : ByteArray := prog_12_method_33_code
def yX10_come : MethodName := ⟨RX10, "come", "(II)I"⟩
abbrev cX10_undo : ByteArray := prog_12_method_34_code
def yX10_undo : MethodName := ⟨RX10, "undo", "()I"⟩
abbrev cX10_nextRow : ByteArray := prog_12_method_35_code
def yX10_nextRow : MethodName := ⟨RX10, "nextRow", "()Z"⟩
abbrev cX10_exchange : ByteArray := prog_12_method_36_code
def yX10_exchange : MethodName := ⟨RX10, "exchange", "(II)V"⟩
abbrev cX10_order : ByteArray := prog_12_method_37_code
def yX10_order : MethodName := ⟨RX10, "order", "(I)I"⟩
abbrev cX10_cushion : ByteArray := prog_12_method_38_code
def yX10_cushion : MethodName := ⟨RX10, "cushion", "(I)I"⟩
abbrev cX10_length : ByteArray := prog_12_method_39_code
def yX10_length : MethodName := ⟨RX10, "length", "(II)I"⟩
abbrev cX10_law : ByteArray := prog_12_method_40_code
def yX10_law : MethodName := ⟨RX10, "law", "()I"⟩
abbrev cX10_pairs : ByteArray := prog_12_method_41_code
def yX10_pairs : MethodName := ⟨RX10, "pairs", "(I)I"⟩
abbrev cX10_later : ByteArray := prog_12_method_42_code
def yX10_later : MethodName := ⟨RX10, "later", "(II)I"⟩
abbrev cX10_rival : ByteArray := prog_12_method_43_code
def yX10_rival : MethodName := ⟨RX10, "rival", "()I"⟩
abbrev cX10_fewest : ByteArray := prog_12_method_44_code
def yX10_fewest : MethodName := ⟨RX10, "fewest", "(I)I"⟩
abbrev cX10_turned : ByteArray := prog_12_method_45_code
def yX10_turned : MethodName := ⟨RX10, "turned", "()I"⟩
abbrev cX10_left : ByteArray := prog_12_method_46_code
def yX10_left : MethodName := ⟨RX10, "left", "(III)I"⟩
abbrev cX10_sweep : ByteArray := prog_12_method_47_code
def yX10_sweep : MethodName := ⟨RX10, "sweep", "()I"⟩
abbrev cX10_sleptBy : ByteArray := prog_12_method_48_code
def yX10_sleptBy : MethodName := ⟨RX10, "sleptBy", "(I)I"⟩
abbrev cX10_slept : ByteArray := prog_12_method_49_code
def yX10_slept : MethodName := ⟨RX10, "slept", "(I)I"⟩
abbrev cX10_waysWith : ByteArray := prog_12_method_50_code
def yX10_waysWith : MethodName := ⟨RX10, "waysWith", "(II)I"⟩
abbrev cX10_sure : ByteArray := prog_12_method_51_code
def yX10_sure : MethodName := ⟨RX10, "sure", "(I)I"⟩
abbrev cX10_found : ByteArray := prog_12_method_52_code
def yX10_found : MethodName := ⟨RX10, "found", "(II)I"⟩
abbrev cX10_year : ByteArray := prog_12_method_53_code
def yX10_year : MethodName := ⟨RX10, "year", "(II)I"⟩
abbrev cX10_keep : ByteArray := prog_12_method_54_code
def yX10_keep : MethodName := ⟨RX10, "keep", "()I"⟩
abbrev cX10_back : ByteArray := prog_12_method_55_code
def yX10_back : MethodName := ⟨RX10, "back", "()I"⟩
abbrev cX10_count : ByteArray := prog_12_method_56_code
def yX10_count : MethodName := ⟨RX10, "count", "(I)I"⟩
def RJ6 : String := "java/lang/Integer"
def TJ6 : u_T := fun k => match k with
  | _ => ("", "", "", false)
def tyJ6 : Nat → FieldType := fun k => match k with
  | _ => .int
abbrev cJ6_bitCount_0f7a4 : ByteArray := prog_13_method_49_code
def yJ6_bitCount_0f7a4 : MethodName := ⟨RJ6, "bitCount", "(I)I"⟩
def RJ9 : String := "java/lang/Math"
def TJ9 : u_T := fun k => match k with
  | _ => ("", "", "", false)
def tyJ9 : Nat → FieldType := fun k => match k with
  | _ => .int
abbrev cJ9_abs_0f7a4 : ByteArray := prog_14_method_59_code
def yJ9_abs_0f7a4 : MethodName := ⟨RJ9, "abs", "(I)I"⟩
abbrev cJ9_max_7cf53 : ByteArray := prog_14_method_65_code
def yJ9_max_7cf53 : MethodName := ⟨RJ9, "max", "(II)I"⟩
abbrev cJ9_min_7cf53 : ByteArray := prog_14_method_69_code
def yJ9_min_7cf53 : MethodName := ⟨RJ9, "min", "(II)I"⟩
def RJ0 : String := "java/lang/String"
def TJ0 : u_T := fun k => match k with
  | _ => ("", "", "", false)
def tyJ0 : Nat → FieldType := fun k => match k with
  | _ => .int
abbrev cJ0_length_8abf5 : ByteArray := prog_15_method_54_code
def yJ0_length_8abf5 : MethodName := ⟨RJ0, "length", "()I"⟩
abbrev cJ0_charAt_5068e : ByteArray := prog_15_method_56_code
def yJ0_charAt_5068e : MethodName := ⟨RJ0, "charAt", "(I)C"⟩
abbrev cJ0_coder_7d493 : ByteArray := prog_15_method_152_code
def yJ0_coder_7d493 : MethodName := ⟨RJ0, "coder", "()B"⟩
abbrev cJ0_isLatin1_aae02 : ByteArray := prog_15_method_154_code
def yJ0_isLatin1_aae02 : MethodName := ⟨RJ0, "isLatin1", "()Z"⟩
abbrev cJ0_checkIndex_df160 : ByteArray := prog_15_method_155_code
def yJ0_checkIndex_df160 : MethodName := ⟨RJ0, "checkIndex", "(II)V"⟩
def RJ1 : String := "java/lang/StringLatin1"
def TJ1 : u_T := fun k => match k with
  | _ => ("", "", "", false)
def tyJ1 : Nat → FieldType := fun k => match k with
  | _ => .int
abbrev cJ1_charAt_3b067 : ByteArray := prog_16_method_2_code
def yJ1_charAt_3b067 : MethodName := ⟨RJ1, "charAt", "([BI)C"⟩
def RJ2 : String := "java/lang/StringUTF16"
def TJ2 : u_T := fun k => match k with
  | _ => ("", "", "", false)
def tyJ2 : Nat → FieldType := fun k => match k with
  | _ => .int
abbrev cJ2_getChar_3b067 : ByteArray := prog_17_method_5_code
def yJ2_getChar_3b067 : MethodName := ⟨RJ2, "getChar", "([BI)C"⟩
abbrev cJ2_length_9d52b : ByteArray := prog_17_method_6_code
def yJ2_length_9d52b : MethodName := ⟨RJ2, "length", "([B)I"⟩
abbrev cJ2_charAt_3b067 : ByteArray := prog_17_method_83_code
def yJ2_charAt_3b067 : MethodName := ⟨RJ2, "charAt", "([BI)C"⟩
abbrev cJ2_checkIndex_2214a : ByteArray := prog_17_method_91_code
def yJ2_checkIndex_2214a : MethodName := ⟨RJ2, "checkIndex", "(I[B)V"⟩
def RJ10 : String := "java/lang/System"
def TJ10 : u_T := fun k => match k with
  | _ => ("", "", "", false)
def tyJ10 : Nat → FieldType := fun k => match k with
  | _ => .int
def RJ3 : String := "jdk/internal/util/Preconditions"
def TJ3 : u_T := fun k => match k with
  | _ => ("", "", "", false)
def tyJ3 : Nat → FieldType := fun k => match k with
  | _ => .int
abbrev cJ3_checkIndex_8e157 : ByteArray := prog_19_method_11_code
def yJ3_checkIndex_8e157 : MethodName := ⟨RJ3, "checkIndex", "(IILjava/util/function/BiFunction;)I"⟩
def RL : String := "BedsThatFitLaw"
abbrev cL_law : ByteArray := code
def yL_law : MethodName := ⟨RL, "law", "([I)Z"⟩
abbrev vwCl : List vw_C := [(RX0, TX0, 7), (RX1, TX1, 4), (RX2, TX2, 5), (RX3, TX3, 8), (RX4, TX4, 4), (RX5, TX5, 7), (RX6, TX6, 5), (RX7, TX7, 4), (RX8, TX8, 4), (RX9, TX9, 9), (RX10, TX10, 44)]
def tyOf : Nat → Nat → FieldType := fun ci => match ci with
  | 0 => tyX0
  | 1 => tyX1
  | 2 => tyX2
  | 3 => tyX3
  | 4 => tyX4
  | 5 => tyX5
  | 6 => tyX6
  | 7 => tyX7
  | 8 => tyX8
  | 9 => tyX9
  | _ => tyX10
