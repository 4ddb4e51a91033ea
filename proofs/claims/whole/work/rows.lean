section
theorem zz_wide : True := by
  have h := @Jvm.Stand.multianewarray2F
  trivial
-- ===== PART A: goes FIRST, ahead of the names: the tables' words, and 'selects' of the private methods out of them =====
/-- a private method of a class that the tables say can be made, by its rows of tables_1 -/
def lw_okq (q : MethodName × Nat) : Prop := (q.1.cls ≠ "java/lang/invoke/MethodHandle" ∧ q.1.cls ≠ "java/lang/invoke/VarHandle") ∧ Cond.instantiable q.1.cls q.2 ∈ tables_1 ∧ Cond.privateMethod q.1 ∈ tables_1 ∧ Cond.instanceMethod q.1 ∈ tables_1
theorem lw_p0 : lw_okq (⟨"BedsThatFit$Script", "readNumbers", "(I)I"⟩, 4) := ⟨⟨by decide +kernel, by decide +kernel⟩, List.mem_of_getElem? (i := 28) (by decide +kernel), List.mem_of_getElem? (i := 354) (by decide +kernel), List.mem_of_getElem? (i := 355) (by decide +kernel)⟩
theorem lw_p1 : lw_okq (⟨"BedsThatFit$Script", "isFigure", "(I)Z"⟩, 4) := ⟨⟨by decide +kernel, by decide +kernel⟩, List.mem_of_getElem? (i := 28) (by decide +kernel), List.mem_of_getElem? (i := 358) (by decide +kernel), List.mem_of_getElem? (i := 359) (by decide +kernel)⟩
theorem lw_p2 : lw_okq (⟨"BedsThatFit$Script", "letterAt", "(I)I"⟩, 4) := ⟨⟨by decide +kernel, by decide +kernel⟩, List.mem_of_getElem? (i := 28) (by decide +kernel), List.mem_of_getElem? (i := 362) (by decide +kernel), List.mem_of_getElem? (i := 363) (by decide +kernel)⟩
theorem lw_p3 : lw_okq (⟨"BedsThatFit$Inn", "enact", "(I)Z"⟩, 5) := ⟨⟨by decide +kernel, by decide +kernel⟩, List.mem_of_getElem? (i := 175) (by decide +kernel), List.mem_of_getElem? (i := 402) (by decide +kernel), List.mem_of_getElem? (i := 403) (by decide +kernel)⟩
theorem lw_p4 : lw_okq (⟨"BedsThatFit$Inn", "addRival", "(I)Z"⟩, 5) := ⟨⟨by decide +kernel, by decide +kernel⟩, List.mem_of_getElem? (i := 175) (by decide +kernel), List.mem_of_getElem? (i := 406) (by decide +kernel), List.mem_of_getElem? (i := 407) (by decide +kernel)⟩
theorem lw_p5 : lw_okq (⟨"BedsThatFit$Beds", "drawn", "(II)I"⟩, 7) := ⟨⟨by decide +kernel, by decide +kernel⟩, List.mem_of_getElem? (i := 181) (by decide +kernel), List.mem_of_getElem? (i := 473) (by decide +kernel), List.mem_of_getElem? (i := 474) (by decide +kernel)⟩
theorem lw_p6 : lw_okq (⟨"BedsThatFit$Nights", "fillBeds", "(LBedsThatFit$Inn;I)V"⟩, 8) := ⟨⟨by decide +kernel, by decide +kernel⟩, List.mem_of_getElem? (i := 50) (by decide +kernel), List.mem_of_getElem? (i := 518) (by decide +kernel), List.mem_of_getElem? (i := 519) (by decide +kernel)⟩
theorem lw_p7 : lw_okq (⟨"BedsThatFit$Nights", "callFirst", "(LBedsThatFit$Party;I)I"⟩, 8) := ⟨⟨by decide +kernel, by decide +kernel⟩, List.mem_of_getElem? (i := 50) (by decide +kernel), List.mem_of_getElem? (i := 526) (by decide +kernel), List.mem_of_getElem? (i := 527) (by decide +kernel)⟩
theorem lw_p8 : lw_okq (⟨"BedsThatFit$Nights", "bestOf", "(LBedsThatFit$Inn;IIII)I"⟩, 8) := ⟨⟨by decide +kernel, by decide +kernel⟩, List.mem_of_getElem? (i := 50) (by decide +kernel), List.mem_of_getElem? (i := 536) (by decide +kernel), List.mem_of_getElem? (i := 537) (by decide +kernel)⟩
theorem lw_p9 : lw_okq (⟨"BedsThatFit", "noteChange", "(III)V"⟩, 9) := ⟨⟨by decide +kernel, by decide +kernel⟩, List.mem_of_getElem? (i := 20) (by decide +kernel), List.mem_of_getElem? (i := 586) (by decide +kernel), List.mem_of_getElem? (i := 587) (by decide +kernel)⟩
theorem lw_p10 : lw_okq (⟨"BedsThatFit$Changes", "dropOldest", "()V"⟩, 4) := ⟨⟨by decide +kernel, by decide +kernel⟩, List.mem_of_getElem? (i := 88) (by decide +kernel), List.mem_of_getElem? (i := 594) (by decide +kernel), List.mem_of_getElem? (i := 595) (by decide +kernel)⟩
theorem lw_p11 : lw_okq (⟨"BedsThatFit", "sumBelow", "(I)I"⟩, 9) := ⟨⟨by decide +kernel, by decide +kernel⟩, List.mem_of_getElem? (i := 20) (by decide +kernel), List.mem_of_getElem? (i := 649) (by decide +kernel), List.mem_of_getElem? (i := 650) (by decide +kernel)⟩
theorem lw_p12 : lw_okq (⟨"BedsThatFit", "noteHarmsNow", "()I"⟩, 9) := ⟨⟨by decide +kernel, by decide +kernel⟩, List.mem_of_getElem? (i := 20) (by decide +kernel), List.mem_of_getElem? (i := 665) (by decide +kernel), List.mem_of_getElem? (i := 666) (by decide +kernel)⟩
theorem lw_p13 : lw_okq (⟨"BedsThatFit", "wouldSwap", "(II)Z"⟩, 9) := ⟨⟨by decide +kernel, by decide +kernel⟩, List.mem_of_getElem? (i := 20) (by decide +kernel), List.mem_of_getElem? (i := 671) (by decide +kernel), List.mem_of_getElem? (i := 672) (by decide +kernel)⟩
theorem lw_p14 : lw_okq (⟨"BedsThatFit$Remains", "addOne", "(II)V"⟩, 5) := ⟨⟨by decide +kernel, by decide +kernel⟩, List.mem_of_getElem? (i := 130) (by decide +kernel), List.mem_of_getElem? (i := 746) (by decide +kernel), List.mem_of_getElem? (i := 747) (by decide +kernel)⟩
theorem lw_p15 : lw_okq (⟨"BedsThatFitModel", "readItem", "()Z"⟩, 44) := ⟨⟨by decide +kernel, by decide +kernel⟩, List.mem_of_getElem? (i := 789) (by decide +kernel), List.mem_of_getElem? (i := 945) (by decide +kernel), List.mem_of_getElem? (i := 946) (by decide +kernel)⟩
def lw_privs_1 : List (MethodName × Nat) := [(⟨"BedsThatFit$Script", "readNumbers", "(I)I"⟩, 4), (⟨"BedsThatFit$Script", "isFigure", "(I)Z"⟩, 4), (⟨"BedsThatFit$Script", "letterAt", "(I)I"⟩, 4), (⟨"BedsThatFit$Inn", "enact", "(I)Z"⟩, 5), (⟨"BedsThatFit$Inn", "addRival", "(I)Z"⟩, 5), (⟨"BedsThatFit$Beds", "drawn", "(II)I"⟩, 7), (⟨"BedsThatFit$Nights", "fillBeds", "(LBedsThatFit$Inn;I)V"⟩, 8), (⟨"BedsThatFit$Nights", "callFirst", "(LBedsThatFit$Party;I)I"⟩, 8), (⟨"BedsThatFit$Nights", "bestOf", "(LBedsThatFit$Inn;IIII)I"⟩, 8), (⟨"BedsThatFit", "noteChange", "(III)V"⟩, 9), (⟨"BedsThatFit$Changes", "dropOldest", "()V"⟩, 4), (⟨"BedsThatFit", "sumBelow", "(I)I"⟩, 9), (⟨"BedsThatFit", "noteHarmsNow", "()I"⟩, 9), (⟨"BedsThatFit", "wouldSwap", "(II)Z"⟩, 9), (⟨"BedsThatFit$Remains", "addOne", "(II)V"⟩, 5), (⟨"BedsThatFitModel", "readItem", "()Z"⟩, 44)]
theorem lw_r1 : ∀ q ∈ lw_privs_1, lw_okq q := List.forall_mem_cons.mpr ⟨lw_p0, List.forall_mem_cons.mpr ⟨lw_p1, List.forall_mem_cons.mpr ⟨lw_p2, List.forall_mem_cons.mpr ⟨lw_p3, List.forall_mem_cons.mpr ⟨lw_p4, List.forall_mem_cons.mpr ⟨lw_p5, List.forall_mem_cons.mpr ⟨lw_p6, List.forall_mem_cons.mpr ⟨lw_p7, List.forall_mem_cons.mpr ⟨lw_p8, List.forall_mem_cons.mpr ⟨lw_p9, List.forall_mem_cons.mpr ⟨lw_p10, List.forall_mem_cons.mpr ⟨lw_p11, List.forall_mem_cons.mpr ⟨lw_p12, List.forall_mem_cons.mpr ⟨lw_p13, List.forall_mem_cons.mpr ⟨lw_p14, List.forall_mem_cons.mpr ⟨lw_p15, fun _ h => absurd h List.not_mem_nil⟩⟩⟩⟩⟩⟩⟩⟩⟩⟩⟩⟩⟩⟩⟩⟩
theorem lw_p16 : lw_okq (⟨"BedsThatFitModel", "readNumbers", "(I)Z"⟩, 44) := ⟨⟨by decide +kernel, by decide +kernel⟩, List.mem_of_getElem? (i := 789) (by decide +kernel), List.mem_of_getElem? (i := 949) (by decide +kernel), List.mem_of_getElem? (i := 950) (by decide +kernel)⟩
theorem lw_p17 : lw_okq (⟨"BedsThatFitModel", "readNumber", "(I)Z"⟩, 44) := ⟨⟨by decide +kernel, by decide +kernel⟩, List.mem_of_getElem? (i := 789) (by decide +kernel), List.mem_of_getElem? (i := 953) (by decide +kernel), List.mem_of_getElem? (i := 954) (by decide +kernel)⟩
theorem lw_p18 : lw_okq (⟨"BedsThatFitModel", "isBed", "(I)Z"⟩, 44) := ⟨⟨by decide +kernel, by decide +kernel⟩, List.mem_of_getElem? (i := 789) (by decide +kernel), List.mem_of_getElem? (i := 974) (by decide +kernel), List.mem_of_getElem? (i := 975) (by decide +kernel)⟩
theorem lw_p19 : lw_okq (⟨"BedsThatFitModel", "lengthOn", "(II)I"⟩, 44) := ⟨⟨by decide +kernel, by decide +kernel⟩, List.mem_of_getElem? (i := 789) (by decide +kernel), List.mem_of_getElem? (i := 981) (by decide +kernel), List.mem_of_getElem? (i := 982) (by decide +kernel)⟩
theorem lw_p20 : lw_okq (⟨"BedsThatFitModel", "isGuest", "(I)Z"⟩, 44) := ⟨⟨by decide +kernel, by decide +kernel⟩, List.mem_of_getElem? (i := 789) (by decide +kernel), List.mem_of_getElem? (i := 994) (by decide +kernel), List.mem_of_getElem? (i := 995) (by decide +kernel)⟩
theorem lw_p21 : lw_okq (⟨"BedsThatFitModel", "harmOf", "(III)I"⟩, 44) := ⟨⟨by decide +kernel, by decide +kernel⟩, List.mem_of_getElem? (i := 789) (by decide +kernel), List.mem_of_getElem? (i := 998) (by decide +kernel), List.mem_of_getElem? (i := 999) (by decide +kernel)⟩
theorem lw_p22 : lw_okq (⟨"BedsThatFitModel", "inchesOn", "(II)I"⟩, 44) := ⟨⟨by decide +kernel, by decide +kernel⟩, List.mem_of_getElem? (i := 789) (by decide +kernel), List.mem_of_getElem? (i := 1002) (by decide +kernel), List.mem_of_getElem? (i := 1003) (by decide +kernel)⟩
theorem lw_p23 : lw_okq (⟨"BedsThatFitModel", "harmBy", "(II)I"⟩, 44) := ⟨⟨by decide +kernel, by decide +kernel⟩, List.mem_of_getElem? (i := 789) (by decide +kernel), List.mem_of_getElem? (i := 1006) (by decide +kernel), List.mem_of_getElem? (i := 1007) (by decide +kernel)⟩
theorem lw_p24 : lw_okq (⟨"BedsThatFitModel", "placeOf", "(I)I"⟩, 44) := ⟨⟨by decide +kernel, by decide +kernel⟩, List.mem_of_getElem? (i := 789) (by decide +kernel), List.mem_of_getElem? (i := 1014) (by decide +kernel), List.mem_of_getElem? (i := 1015) (by decide +kernel)⟩
theorem lw_p25 : lw_okq (⟨"BedsThatFitModel", "stay", "(I)I"⟩, 44) := ⟨⟨by decide +kernel, by decide +kernel⟩, List.mem_of_getElem? (i := 789) (by decide +kernel), List.mem_of_getElem? (i := 1022) (by decide +kernel), List.mem_of_getElem? (i := 1023) (by decide +kernel)⟩
theorem lw_p26 : lw_okq (⟨"BedsThatFitModel", "give", "(II)V"⟩, 44) := ⟨⟨by decide +kernel, by decide +kernel⟩, List.mem_of_getElem? (i := 789) (by decide +kernel), List.mem_of_getElem? (i := 1026) (by decide +kernel), List.mem_of_getElem? (i := 1027) (by decide +kernel)⟩
theorem lw_p27 : lw_okq (⟨"BedsThatFitModel", "isWaiting", "(II)Z"⟩, 44) := ⟨⟨by decide +kernel, by decide +kernel⟩, List.mem_of_getElem? (i := 789) (by decide +kernel), List.mem_of_getElem? (i := 1030) (by decide +kernel), List.mem_of_getElem? (i := 1031) (by decide +kernel)⟩
theorem lw_p28 : lw_okq (⟨"BedsThatFitModel", "lieDown", "(IIII)V"⟩, 44) := ⟨⟨by decide +kernel, by decide +kernel⟩, List.mem_of_getElem? (i := 789) (by decide +kernel), List.mem_of_getElem? (i := 1037) (by decide +kernel), List.mem_of_getElem? (i := 1038) (by decide +kernel)⟩
theorem lw_p29 : lw_okq (⟨"BedsThatFitModel", "unharmed", "()I"⟩, 44) := ⟨⟨by decide +kernel, by decide +kernel⟩, List.mem_of_getElem? (i := 789) (by decide +kernel), List.mem_of_getElem? (i := 1050) (by decide +kernel), List.mem_of_getElem? (i := 1051) (by decide +kernel)⟩
theorem lw_p30 : lw_okq (⟨"BedsThatFitModel", "note", "()V"⟩, 44) := ⟨⟨by decide +kernel, by decide +kernel⟩, List.mem_of_getElem? (i := 789) (by decide +kernel), List.mem_of_getElem? (i := 1058) (by decide +kernel), List.mem_of_getElem? (i := 1059) (by decide +kernel)⟩
theorem lw_p31 : lw_okq (⟨"BedsThatFitModel", "nextRow", "()Z"⟩, 44) := ⟨⟨by decide +kernel, by decide +kernel⟩, List.mem_of_getElem? (i := 789) (by decide +kernel), List.mem_of_getElem? (i := 1080) (by decide +kernel), List.mem_of_getElem? (i := 1081) (by decide +kernel)⟩
def lw_privs_2 : List (MethodName × Nat) := [(⟨"BedsThatFitModel", "readNumbers", "(I)Z"⟩, 44), (⟨"BedsThatFitModel", "readNumber", "(I)Z"⟩, 44), (⟨"BedsThatFitModel", "isBed", "(I)Z"⟩, 44), (⟨"BedsThatFitModel", "lengthOn", "(II)I"⟩, 44), (⟨"BedsThatFitModel", "isGuest", "(I)Z"⟩, 44), (⟨"BedsThatFitModel", "harmOf", "(III)I"⟩, 44), (⟨"BedsThatFitModel", "inchesOn", "(II)I"⟩, 44), (⟨"BedsThatFitModel", "harmBy", "(II)I"⟩, 44), (⟨"BedsThatFitModel", "placeOf", "(I)I"⟩, 44), (⟨"BedsThatFitModel", "stay", "(I)I"⟩, 44), (⟨"BedsThatFitModel", "give", "(II)V"⟩, 44), (⟨"BedsThatFitModel", "isWaiting", "(II)Z"⟩, 44), (⟨"BedsThatFitModel", "lieDown", "(IIII)V"⟩, 44), (⟨"BedsThatFitModel", "unharmed", "()I"⟩, 44), (⟨"BedsThatFitModel", "note", "()V"⟩, 44), (⟨"BedsThatFitModel", "nextRow", "()Z"⟩, 44)]
theorem lw_r2 : ∀ q ∈ lw_privs_2, lw_okq q := List.forall_mem_cons.mpr ⟨lw_p16, List.forall_mem_cons.mpr ⟨lw_p17, List.forall_mem_cons.mpr ⟨lw_p18, List.forall_mem_cons.mpr ⟨lw_p19, List.forall_mem_cons.mpr ⟨lw_p20, List.forall_mem_cons.mpr ⟨lw_p21, List.forall_mem_cons.mpr ⟨lw_p22, List.forall_mem_cons.mpr ⟨lw_p23, List.forall_mem_cons.mpr ⟨lw_p24, List.forall_mem_cons.mpr ⟨lw_p25, List.forall_mem_cons.mpr ⟨lw_p26, List.forall_mem_cons.mpr ⟨lw_p27, List.forall_mem_cons.mpr ⟨lw_p28, List.forall_mem_cons.mpr ⟨lw_p29, List.forall_mem_cons.mpr ⟨lw_p30, List.forall_mem_cons.mpr ⟨lw_p31, fun _ h => absurd h List.not_mem_nil⟩⟩⟩⟩⟩⟩⟩⟩⟩⟩⟩⟩⟩⟩⟩⟩
theorem lw_p32 : lw_okq (⟨"BedsThatFitModel", "exchange", "(II)V"⟩, 44) := ⟨⟨by decide +kernel, by decide +kernel⟩, List.mem_of_getElem? (i := 789) (by decide +kernel), List.mem_of_getElem? (i := 1084) (by decide +kernel), List.mem_of_getElem? (i := 1085) (by decide +kernel)⟩
theorem lw_p33 : lw_okq (⟨"BedsThatFitModel", "sleptBy", "(I)I"⟩, 44) := ⟨⟨by decide +kernel, by decide +kernel⟩, List.mem_of_getElem? (i := 789) (by decide +kernel), List.mem_of_getElem? (i := 1132) (by decide +kernel), List.mem_of_getElem? (i := 1133) (by decide +kernel)⟩
theorem lw_p34 : lw_okq (⟨"BedsThatFitModel", "waysWith", "(II)I"⟩, 44) := ⟨⟨by decide +kernel, by decide +kernel⟩, List.mem_of_getElem? (i := 789) (by decide +kernel), List.mem_of_getElem? (i := 1140) (by decide +kernel), List.mem_of_getElem? (i := 1141) (by decide +kernel)⟩
def lw_privs_3 : List (MethodName × Nat) := [(⟨"BedsThatFitModel", "exchange", "(II)V"⟩, 44), (⟨"BedsThatFitModel", "sleptBy", "(I)I"⟩, 44), (⟨"BedsThatFitModel", "waysWith", "(II)I"⟩, 44)]
theorem lw_r3 : ∀ q ∈ lw_privs_3, lw_okq q := List.forall_mem_cons.mpr ⟨lw_p32, List.forall_mem_cons.mpr ⟨lw_p33, List.forall_mem_cons.mpr ⟨lw_p34, fun _ h => absurd h List.not_mem_nil⟩⟩⟩
def lw_privs : List (MethodName × Nat) := lw_privs_1 ++ (lw_privs_2 ++ (lw_privs_3))
def lw_tbl : List Cond := k2_sels lw_privs ++ tables_1
theorem lw_privs_ok : ∀ q ∈ lw_privs, lw_okq q := by
  show ∀ q ∈ lw_privs_1 ++ (lw_privs_2 ++ (lw_privs_3)), lw_okq q
  exact List.forall_mem_append.mpr ⟨lw_r1, List.forall_mem_append.mpr ⟨lw_r2, lw_r3⟩⟩
def RX0 : String := "BedsThatFit$Beds"
def TX0 : u_T := fun k => match k with
  | 0 => ("BedsThatFit$Beds", "lengths", "[I", true)
  | 1 => ("BedsThatFit$Beds", "longer", "[I", true)
  | 2 => ("BedsThatFit$Beds", "size", "I", false)
  | 3 => ("BedsThatFit$Beds", "feasts", "I", false)
  | 4 => ("BedsThatFit$Beds", "open", "I", false)
  | 5 => ("BedsThatFit$Beds", "turning", "Z", false)
  | _ => ("BedsThatFit$Beds", "year", "I", false)
def tyX0 : Nat → FieldType := fun k => match k with
  | 0 => .array .int
  | 1 => .array .int
  | 2 => .int
  | 3 => .int
  | 4 => .int
  | 5 => .boolean
  | _ => .int
theorem nmX0 : ∀ a, a < 7 → ∀ b, b < 7 → a ≠ b → (TX0 a).2.1 ≠ (TX0 b).2.1 := by decide +kernel
theorem tyX0_ok : ∀ k, k < 7 → parseFieldDescriptor (TX0 k).2.2.1 = some (tyX0 k) := by decide +kernel
abbrev cX0_init : ByteArray := prog_2_method_1_code
def yX0_init : MethodName := ⟨RX0, "<init>", "()V"⟩
abbrev cX0_clear : ByteArray := prog_2_method_2_code
def yX0_clear : MethodName := ⟨RX0, "clear", "()V"⟩
abbrev cX0_has : ByteArray := prog_2_method_3_code
def yX0_has : MethodName := ⟨RX0, "has", "(I)Z"⟩
abbrev cX0_add : ByteArray := prog_2_method_4_code
def yX0_add : MethodName := ⟨RX0, "add", "(I)Z"⟩
abbrev cX0_addFeast : ByteArray := prog_2_method_5_code
def yX0_addFeast : MethodName := ⟨RX0, "addFeast", "(II)Z"⟩
abbrev cX0_lengthOn : ByteArray := prog_2_method_6_code
def yX0_lengthOn : MethodName := ⟨RX0, "lengthOn", "(II)I"⟩
abbrev cX0_drawn : ByteArray := prog_2_method_7_code
def yX0_drawn : MethodName := ⟨RX0, "drawn", "(II)I"⟩
def RX1 : String := "BedsThatFit$Changes"
def TX1 : u_T := fun k => match k with
  | 0 => ("BedsThatFit$Changes", "whats", "[I", true)
  | 1 => ("BedsThatFit$Changes", "guests", "[I", true)
  | 2 => ("BedsThatFit$Changes", "olds", "[I", true)
  | _ => ("BedsThatFit$Changes", "size", "I", false)
def tyX1 : Nat → FieldType := fun k => match k with
  | 0 => .array .int
  | 1 => .array .int
  | 2 => .array .int
  | _ => .int
theorem nmX1 : ∀ a, a < 4 → ∀ b, b < 4 → a ≠ b → (TX1 a).2.1 ≠ (TX1 b).2.1 := by decide +kernel
theorem tyX1_ok : ∀ k, k < 4 → parseFieldDescriptor (TX1 k).2.2.1 = some (tyX1 k) := by decide +kernel
abbrev cX1_init : ByteArray := prog_3_method_1_code
def yX1_init : MethodName := ⟨RX1, "<init>", "()V"⟩
abbrev cX1_push : ByteArray := prog_3_method_2_code
def yX1_push : MethodName := ⟨RX1, "push", "(III)V"⟩
abbrev cX1_dropOldest : ByteArray := prog_3_method_3_code
def yX1_dropOldest : MethodName := ⟨RX1, "dropOldest", "()V"⟩
abbrev cX1_takeBack : ByteArray := prog_3_method_4_code
def yX1_takeBack : MethodName := ⟨RX1, "takeBack", "(LBedsThatFit$Party;)V"⟩
def RX2 : String := "BedsThatFit$Inn"
def TX2 : u_T := fun k => match k with
  | 0 => ("BedsThatFit$Inn", "beds", "LBedsThatFit$Beds;", true)
  | 1 => ("BedsThatFit$Inn", "party", "LBedsThatFit$Party;", true)
  | 2 => ("BedsThatFit$Inn", "rivalLengths", "[I", true)
  | 3 => ("BedsThatFit$Inn", "rivals", "I", false)
  | _ => ("BedsThatFit$Inn", "law", "I", false)
def tyX2 : Nat → FieldType := fun k => match k with
  | 0 => .object "BedsThatFit$Beds"
  | 1 => .object "BedsThatFit$Party"
  | 2 => .array .int
  | 3 => .int
  | _ => .int
theorem nmX2 : ∀ a, a < 5 → ∀ b, b < 5 → a ≠ b → (TX2 a).2.1 ≠ (TX2 b).2.1 := by decide +kernel
theorem tyX2_ok : ∀ k, k < 5 → parseFieldDescriptor (TX2 k).2.2.1 = some (tyX2 k) := by decide +kernel
abbrev cX2_init : ByteArray := prog_4_method_1_code
def yX2_init : MethodName := ⟨RX2, "<init>", "()V"⟩
abbrev cX2_clear : ByteArray := prog_4_method_2_code
def yX2_clear : MethodName := ⟨RX2, "clear", "()V"⟩
abbrev cX2_canOpen : ByteArray := prog_4_method_3_code
def yX2_canOpen : MethodName := ⟨RX2, "canOpen", "()Z"⟩
abbrev cX2_tell : ByteArray := prog_4_method_4_code
def yX2_tell : MethodName := ⟨RX2, "tell", "(IIIII)Z"⟩
abbrev cX2_enact : ByteArray := prog_4_method_5_code
def yX2_enact : MethodName := ⟨RX2, "enact", "(I)Z"⟩
abbrev cX2_addRival : ByteArray := prog_4_method_6_code
def yX2_addRival : MethodName := ⟨RX2, "addRival", "(I)Z"⟩
abbrev cX2_namable : ByteArray := prog_4_method_7_code
def yX2_namable : MethodName := ⟨RX2, "namable", "(I)I"⟩
abbrev cX2_leastAtRival : ByteArray := prog_4_method_8_code
def yX2_leastAtRival : MethodName := ⟨RX2, "leastAtRival", "(I)I"⟩
def RX3 : String := "BedsThatFit$Nights"
def TX3 : u_T := fun k => match k with
  | 0 => ("BedsThatFit$Nights", "night", "[I", true)
  | 1 => ("BedsThatFit$Nights", "place", "[I", true)
  | 2 => ("BedsThatFit$Nights", "harms", "[I", true)
  | 3 => ("BedsThatFit$Nights", "namer", "[I", true)
  | 4 => ("BedsThatFit$Nights", "calls", "[I", true)
  | 5 => ("BedsThatFit$Nights", "lain", "I", false)
  | 6 => ("BedsThatFit$Nights", "sum", "I", false)
  | _ => ("BedsThatFit$Nights", "deepest", "I", false)
def tyX3 : Nat → FieldType := fun k => match k with
  | 0 => .array .int
  | 1 => .array .int
  | 2 => .array .int
  | 3 => .array .int
  | 4 => .array .int
  | 5 => .int
  | 6 => .int
  | _ => .int
theorem nmX3 : ∀ a, a < 8 → ∀ b, b < 8 → a ≠ b → (TX3 a).2.1 ≠ (TX3 b).2.1 := by decide +kernel
theorem tyX3_ok : ∀ k, k < 8 → parseFieldDescriptor (TX3 k).2.2.1 = some (tyX3 k) := by decide +kernel
abbrev cX3_init : ByteArray := prog_5_method_1_code
def yX3_init : MethodName := ⟨RX3, "<init>", "()V"⟩
abbrev cX3_pass : ByteArray := prog_5_method_2_code
def yX3_pass : MethodName := ⟨RX3, "pass", "(LBedsThatFit$Inn;I)V"⟩
abbrev cX3_fillBeds : ByteArray := prog_5_method_3_code
def yX3_fillBeds : MethodName := ⟨RX3, "fillBeds", "(LBedsThatFit$Inn;I)V"⟩
abbrev cX3_callFirst : ByteArray := prog_5_method_4_code
def yX3_callFirst : MethodName := ⟨RX3, "callFirst", "(LBedsThatFit$Party;I)I"⟩
abbrev cX3_bestOf : ByteArray := prog_5_method_5_code
def yX3_bestOf : MethodName := ⟨RX3, "bestOf", "(LBedsThatFit$Inn;IIII)I"⟩
abbrev cX3_hasLain : ByteArray := prog_5_method_6_code
def yX3_hasLain : MethodName := ⟨RX3, "hasLain", "(I)Z"⟩
abbrev cX3_total : ByteArray := prog_5_method_7_code
def yX3_total : MethodName := ⟨RX3, "total", "(LBedsThatFit$Party;)I"⟩
abbrev cX3_unharmed : ByteArray := prog_5_method_8_code
def yX3_unharmed : MethodName := ⟨RX3, "unharmed", "(LBedsThatFit$Party;)I"⟩
abbrev cX3_greatest : ByteArray := prog_5_method_9_code
def yX3_greatest : MethodName := ⟨RX3, "greatest", "(LBedsThatFit$Party;)I"⟩
abbrev cX3_allLainBy : ByteArray := prog_5_method_10_code
def yX3_allLainBy : MethodName := ⟨RX3, "allLainBy", "(LBedsThatFit$Party;I)Z"⟩
def RX4 : String := "BedsThatFit$Orders"
def TX4 : u_T := fun k => match k with
  | 0 => ("BedsThatFit$Orders", "row", "[I", true)
  | 1 => ("BedsThatFit$Orders", "asIs", "[I", true)
  | 2 => ("BedsThatFit$Orders", "least", "I", false)
  | _ => ("BedsThatFit$Orders", "known", "Z", false)
def tyX4 : Nat → FieldType := fun k => match k with
  | 0 => .array .int
  | 1 => .array .int
  | 2 => .int
  | _ => .boolean
theorem nmX4 : ∀ a, a < 4 → ∀ b, b < 4 → a ≠ b → (TX4 a).2.1 ≠ (TX4 b).2.1 := by decide +kernel
theorem tyX4_ok : ∀ k, k < 4 → parseFieldDescriptor (TX4 k).2.2.1 = some (tyX4 k) := by decide +kernel
abbrev cX4_init : ByteArray := prog_6_method_1_code
def yX4_init : MethodName := ⟨RX4, "<init>", "()V"⟩
abbrev cX4_search : ByteArray := prog_6_method_2_code
def yX4_search : MethodName := ⟨RX4, "search", "(LBedsThatFit$Inn;LBedsThatFit$Nights;)V"⟩
abbrev cX4_toNextRow : ByteArray := prog_6_method_3_code
def yX4_toNextRow : MethodName := ⟨RX4, "toNextRow", "(LBedsThatFit$Party;I)Z"⟩
abbrev cX4_letFall : ByteArray := prog_6_method_4_code
def yX4_letFall : MethodName := ⟨RX4, "letFall", "(LBedsThatFit$Party;I)V"⟩
abbrev cX4_turnRound : ByteArray := prog_6_method_5_code
def yX4_turnRound : MethodName := ⟨RX4, "turnRound", "(LBedsThatFit$Party;I)V"⟩
abbrev cX4_swap : ByteArray := prog_6_method_6_code
def yX4_swap : MethodName := ⟨RX4, "swap", "(LBedsThatFit$Party;II)V"⟩
def RX5 : String := "BedsThatFit$Party"
def TX5 : u_T := fun k => match k with
  | 0 => ("BedsThatFit$Party", "inches", "[I", true)
  | 1 => ("BedsThatFit$Party", "comes", "[I", true)
  | 2 => ("BedsThatFit$Party", "kinds", "[I", true)
  | 3 => ("BedsThatFit$Party", "friends", "[I", true)
  | 4 => ("BedsThatFit$Party", "worn", "[I", true)
  | 5 => ("BedsThatFit$Party", "row", "[I", true)
  | _ => ("BedsThatFit$Party", "size", "I", false)
def tyX5 : Nat → FieldType := fun k => match k with
  | 0 => .array .int
  | 1 => .array .int
  | 2 => .array .int
  | 3 => .array .int
  | 4 => .array .int
  | 5 => .array .int
  | _ => .int
theorem nmX5 : ∀ a, a < 7 → ∀ b, b < 7 → a ≠ b → (TX5 a).2.1 ≠ (TX5 b).2.1 := by decide +kernel
theorem tyX5_ok : ∀ k, k < 7 → parseFieldDescriptor (TX5 k).2.2.1 = some (tyX5 k) := by decide +kernel
abbrev cX5_init : ByteArray := prog_7_method_1_code
def yX5_init : MethodName := ⟨RX5, "<init>", "()V"⟩
abbrev cX5_has : ByteArray := prog_7_method_2_code
def yX5_has : MethodName := ⟨RX5, "has", "(I)Z"⟩
abbrev cX5_everyone : ByteArray := prog_7_method_3_code
def yX5_everyone : MethodName := ⟨RX5, "everyone", "()I"⟩
abbrev cX5_add : ByteArray := prog_7_method_4_code
def yX5_add : MethodName := ⟨RX5, "add", "(III)Z"⟩
abbrev cX5_befriend : ByteArray := prog_7_method_5_code
def yX5_befriend : MethodName := ⟨RX5, "befriend", "(II)Z"⟩
abbrev cX5_hereBy : ByteArray := prog_7_method_6_code
def yX5_hereBy : MethodName := ⟨RX5, "hereBy", "(I)I"⟩
abbrev cX5_harmAt : ByteArray := prog_7_method_7_code
def yX5_harmAt : MethodName := ⟨RX5, "harmAt", "(III)I"⟩
abbrev cX5_harmBy : ByteArray := prog_7_method_8_code
def yX5_harmBy : MethodName := ⟨RX5, "harmBy", "(II)I"⟩
abbrev cX5_placeOf : ByteArray := prog_7_method_9_code
def yX5_placeOf : MethodName := ⟨RX5, "placeOf", "(I)I"⟩
abbrev cX5_shift : ByteArray := prog_7_method_10_code
def yX5_shift : MethodName := ⟨RX5, "shift", "(II)V"⟩
abbrev cX5_swapPlaces : ByteArray := prog_7_method_11_code
def yX5_swapPlaces : MethodName := ⟨RX5, "swapPlaces", "(II)V"⟩
def RX6 : String := "BedsThatFit$Remains"
def TX6 : u_T := fun k => match k with
  | 0 => ("BedsThatFit$Remains", "beds", "[I", true)
  | 1 => ("BedsThatFit$Remains", "nights", "[I", true)
  | 2 => ("BedsThatFit$Remains", "harms", "[I", true)
  | 3 => ("BedsThatFit$Remains", "waysBySet", "[I", true)
  | _ => ("BedsThatFit$Remains", "size", "I", false)
def tyX6 : Nat → FieldType := fun k => match k with
  | 0 => .array .int
  | 1 => .array .int
  | 2 => .array .int
  | 3 => .array .int
  | _ => .int
theorem nmX6 : ∀ a, a < 5 → ∀ b, b < 5 → a ≠ b → (TX6 a).2.1 ≠ (TX6 b).2.1 := by decide +kernel
theorem tyX6_ok : ∀ k, k < 5 → parseFieldDescriptor (TX6 k).2.2.1 = some (tyX6 k) := by decide +kernel
abbrev cX6_init : ByteArray := prog_8_method_1_code
def yX6_init : MethodName := ⟨RX6, "<init>", "()V"⟩
abbrev cX6_has : ByteArray := prog_8_method_2_code
def yX6_has : MethodName := ⟨RX6, "has", "(I)Z"⟩
abbrev cX6_add : ByteArray := prog_8_method_3_code
def yX6_add : MethodName := ⟨RX6, "add", "(III)Z"⟩
abbrev cX6_sleepersOf : ByteArray := prog_8_method_4_code
def yX6_sleepersOf : MethodName := ⟨RX6, "sleepersOf", "(LBedsThatFit$Inn;I)I"⟩
abbrev cX6_ways : ByteArray := prog_8_method_5_code
def yX6_ways : MethodName := ⟨RX6, "ways", "(LBedsThatFit$Inn;II)I"⟩
abbrev cX6_addOne : ByteArray := prog_8_method_6_code
def yX6_addOne : MethodName := ⟨RX6, "addOne", "(II)V"⟩
abbrev cX6_onlySleeperOf : ByteArray := prog_8_method_7_code
def yX6_onlySleeperOf : MethodName := ⟨RX6, "onlySleeperOf", "(LBedsThatFit$Inn;I)I"⟩
def RX7 : String := "BedsThatFit$Script"
def TX7 : u_T := fun k => match k with
  | 0 => ("BedsThatFit$Script", "letters", "[C", true)
  | 1 => ("BedsThatFit$Script", "numbers", "[I", true)
  | 2 => ("BedsThatFit$Script", "size", "I", false)
  | _ => ("BedsThatFit$Script", "told", "I", false)
def tyX7 : Nat → FieldType := fun k => match k with
  | 0 => .array .char
  | 1 => .array .int
  | 2 => .int
  | _ => .int
theorem nmX7 : ∀ a, a < 4 → ∀ b, b < 4 → a ≠ b → (TX7 a).2.1 ≠ (TX7 b).2.1 := by decide +kernel
theorem tyX7_ok : ∀ k, k < 4 → parseFieldDescriptor (TX7 k).2.2.1 = some (tyX7 k) := by decide +kernel
abbrev cX7_init : ByteArray := prog_9_method_1_code
def yX7_init : MethodName := ⟨RX7, "<init>", "()V"⟩
abbrev cX7_put : ByteArray := prog_9_method_2_code
def yX7_put : MethodName := ⟨RX7, "put", "(C)Z"⟩
abbrev cX7_readInto : ByteArray := prog_9_method_3_code
def yX7_readInto : MethodName := ⟨RX7, "readInto", "(LBedsThatFit$Inn;)I"⟩
abbrev cX7_readNumbers : ByteArray := prog_9_method_4_code
def yX7_readNumbers : MethodName := ⟨RX7, "readNumbers", "(I)I"⟩
abbrev cX7_isFigure : ByteArray := prog_9_method_5_code
def yX7_isFigure : MethodName := ⟨RX7, "isFigure", "(I)Z"⟩
abbrev cX7_letterAt : ByteArray := prog_9_method_6_code
def yX7_letterAt : MethodName := ⟨RX7, "letterAt", "(I)I"⟩
def RX8 : String := "BedsThatFit$Shelf"
def TX8 : u_T := fun k => match k with
  | 0 => ("BedsThatFit$Shelf", "rows", "[[I", true)
  | 1 => ("BedsThatFit$Shelf", "worn", "[[I", true)
  | 2 => ("BedsThatFit$Shelf", "comes", "[[I", true)
  | _ => ("BedsThatFit$Shelf", "size", "I", false)
def tyX8 : Nat → FieldType := fun k => match k with
  | 0 => .array (.array .int)
  | 1 => .array (.array .int)
  | 2 => .array (.array .int)
  | _ => .int
theorem nmX8 : ∀ a, a < 4 → ∀ b, b < 4 → a ≠ b → (TX8 a).2.1 ≠ (TX8 b).2.1 := by decide +kernel
theorem tyX8_ok : ∀ k, k < 4 → parseFieldDescriptor (TX8 k).2.2.1 = some (tyX8 k) := by decide +kernel
abbrev cX8_init : ByteArray := prog_10_method_1_code
def yX8_init : MethodName := ⟨RX8, "<init>", "()V"⟩
abbrev cX8_put : ByteArray := prog_10_method_2_code
def yX8_put : MethodName := ⟨RX8, "put", "(LBedsThatFit$Party;)Z"⟩
abbrev cX8_takeInto : ByteArray := prog_10_method_3_code
def yX8_takeInto : MethodName := ⟨RX8, "takeInto", "(LBedsThatFit$Party;)V"⟩
def RX9 : String := "BedsThatFit"
def TX9 : u_T := fun k => match k with
  | 0 => ("BedsThatFit", "script", "LBedsThatFit$Script;", true)
  | 1 => ("BedsThatFit", "nights", "LBedsThatFit$Nights;", true)
  | 2 => ("BedsThatFit", "changes", "LBedsThatFit$Changes;", true)
  | 3 => ("BedsThatFit", "shelf", "LBedsThatFit$Shelf;", true)
  | 4 => ("BedsThatFit", "remains", "LBedsThatFit$Remains;", true)
  | 5 => ("BedsThatFit", "orders", "LBedsThatFit$Orders;", true)
  | 6 => ("BedsThatFit", "harmsNow", "[I", true)
  | 7 => ("BedsThatFit", "inn", "LBedsThatFit$Inn;", false)
  | _ => ("BedsThatFit", "draft", "LBedsThatFit$Inn;", false)
def tyX9 : Nat → FieldType := fun k => match k with
  | 0 => .object "BedsThatFit$Script"
  | 1 => .object "BedsThatFit$Nights"
  | 2 => .object "BedsThatFit$Changes"
  | 3 => .object "BedsThatFit$Shelf"
  | 4 => .object "BedsThatFit$Remains"
  | 5 => .object "BedsThatFit$Orders"
  | 6 => .array .int
  | 7 => .object "BedsThatFit$Inn"
  | _ => .object "BedsThatFit$Inn"
theorem nmX9 : ∀ a, a < 9 → ∀ b, b < 9 → a ≠ b → (TX9 a).2.1 ≠ (TX9 b).2.1 := by decide +kernel
theorem tyX9_ok : ∀ k, k < 9 → parseFieldDescriptor (TX9 k).2.2.1 = some (tyX9 k) := by decide +kernel
abbrev cX9_init : ByteArray := prog_1_method_1_code
def yX9_init : MethodName := ⟨RX9, "<init>", "()V"⟩
abbrev cX9_write : ByteArray := prog_1_method_2_code
def yX9_write : MethodName := ⟨RX9, "write", "(I)I"⟩
abbrev cX9_wipe : ByteArray := prog_1_method_3_code
def yX9_wipe : MethodName := ⟨RX9, "wipe", "()I"⟩
abbrev cX9_fault : ByteArray := prog_1_method_4_code
def yX9_fault : MethodName := ⟨RX9, "fault", "()I"⟩
abbrev cX9_lay : ByteArray := prog_1_method_5_code
def yX9_lay : MethodName := ⟨RX9, "lay", "()I"⟩
abbrev cX9_bed : ByteArray := prog_1_method_6_code
def yX9_bed : MethodName := ⟨RX9, "bed", "(II)I"⟩
abbrev cX9_guest : ByteArray := prog_1_method_7_code
def yX9_guest : MethodName := ⟨RX9, "guest", "(II)I"⟩
abbrev cX9_harm : ByteArray := prog_1_method_8_code
def yX9_harm : MethodName := ⟨RX9, "harm", "(III)I"⟩
abbrev cX9_lies : ByteArray := prog_1_method_9_code
def yX9_lies : MethodName := ⟨RX9, "lies", "(II)I"⟩
abbrev cX9_who : ByteArray := prog_1_method_10_code
def yX9_who : MethodName := ⟨RX9, "who", "(II)I"⟩
abbrev cX9_all : ByteArray := prog_1_method_11_code
def yX9_all : MethodName := ⟨RX9, "all", "(I)I"⟩
abbrev cX9_move : ByteArray := prog_1_method_12_code
def yX9_move : MethodName := ⟨RX9, "move", "(II)I"⟩
abbrev cX9_wear : ByteArray := prog_1_method_13_code
def yX9_wear : MethodName := ⟨RX9, "wear", "(II)I"⟩
abbrev cX9_come : ByteArray := prog_1_method_14_code
def yX9_come : MethodName := ⟨RX9, "come", "(II)I"⟩
abbrev cX9_undo : ByteArray := prog_1_method_15_code
def yX9_undo : MethodName := ⟨RX9, "undo", "()I"⟩
abbrev cX9_order : ByteArray := prog_1_method_16_code
def yX9_order : MethodName := ⟨RX9, "order", "(I)I"⟩
abbrev cX9_cushion : ByteArray := prog_1_method_17_code
def yX9_cushion : MethodName := ⟨RX9, "cushion", "(I)I"⟩
abbrev cX9_length : ByteArray := prog_1_method_18_code
def yX9_length : MethodName := ⟨RX9, "length", "(II)I"⟩
abbrev cX9_law : ByteArray := prog_1_method_19_code
def yX9_law : MethodName := ⟨RX9, "law", "()I"⟩
abbrev cX9_pairs : ByteArray := prog_1_method_20_code
def yX9_pairs : MethodName := ⟨RX9, "pairs", "(I)I"⟩
abbrev cX9_later : ByteArray := prog_1_method_21_code
def yX9_later : MethodName := ⟨RX9, "later", "(II)I"⟩
abbrev cX9_rival : ByteArray := prog_1_method_22_code
def yX9_rival : MethodName := ⟨RX9, "rival", "()I"⟩
abbrev cX9_fewest : ByteArray := prog_1_method_23_code
def yX9_fewest : MethodName := ⟨RX9, "fewest", "(I)I"⟩
abbrev cX9_turned : ByteArray := prog_1_method_24_code
def yX9_turned : MethodName := ⟨RX9, "turned", "()I"⟩
abbrev cX9_left : ByteArray := prog_1_method_25_code
def yX9_left : MethodName := ⟨RX9, "left", "(III)I"⟩
abbrev cX9_sweep : ByteArray := prog_1_method_26_code
def yX9_sweep : MethodName := ⟨RX9, "sweep", "()I"⟩
abbrev cX9_slept : ByteArray := prog_1_method_27_code
def yX9_slept : MethodName := ⟨RX9, "slept", "(I)I"⟩
abbrev cX9_sure : ByteArray := prog_1_method_28_code
def yX9_sure : MethodName := ⟨RX9, "sure", "(I)I"⟩
abbrev cX9_found : ByteArray := prog_1_method_29_code
def yX9_found : MethodName := ⟨RX9, "found", "(II)I"⟩
abbrev cX9_year : ByteArray := prog_1_method_30_code
def yX9_year : MethodName := ⟨RX9, "year", "(II)I"⟩
abbrev cX9_keep : ByteArray := prog_1_method_31_code
def yX9_keep : MethodName := ⟨RX9, "keep", "()I"⟩
abbrev cX9_back : ByteArray := prog_1_method_32_code
def yX9_back : MethodName := ⟨RX9, "back", "()I"⟩
abbrev cX9_count : ByteArray := prog_1_method_33_code
def yX9_count : MethodName := ⟨RX9, "count", "(I)I"⟩
abbrev cX9_isWithin : ByteArray := prog_1_method_34_code
def yX9_isWithin : MethodName := ⟨RX9, "isWithin", "(III)Z"⟩
abbrev cX9_isNight : ByteArray := prog_1_method_35_code
def yX9_isNight : MethodName := ⟨RX9, "isNight", "(I)Z"⟩
abbrev cX9_isLength : ByteArray := prog_1_method_36_code
def yX9_isLength : MethodName := ⟨RX9, "isLength", "(I)Z"⟩
abbrev cX9_isIn : ByteArray := prog_1_method_37_code
def yX9_isIn : MethodName := ⟨RX9, "isIn", "(II)Z"⟩
abbrev cX9_noteChange : ByteArray := prog_1_method_38_code
def yX9_noteChange : MethodName := ⟨RX9, "noteChange", "(III)V"⟩
abbrev cX9_sumBelow : ByteArray := prog_1_method_39_code
def yX9_sumBelow : MethodName := ⟨RX9, "sumBelow", "(I)I"⟩
abbrev cX9_noteHarmsNow : ByteArray := prog_1_method_40_code
def yX9_noteHarmsNow : MethodName := ⟨RX9, "noteHarmsNow", "()I"⟩
abbrev cX9_wouldSwap : ByteArray := prog_1_method_41_code
def yX9_wouldSwap : MethodName := ⟨RX9, "wouldSwap", "(II)Z"⟩
def RX10 : String := "BedsThatFitModel"
def TX10 : u_T := fun k => match k with
  | 0 => ("BedsThatFitModel", "lengths", "[I", true)
  | 1 => ("BedsThatFitModel", "beds", "I", false)
  | 2 => ("BedsThatFitModel", "feasts", "[I", true)
  | 3 => ("BedsThatFitModel", "feastMany", "I", false)
  | 4 => ("BedsThatFitModel", "inches", "[I", true)
  | 5 => ("BedsThatFitModel", "kinds", "[I", true)
  | 6 => ("BedsThatFitModel", "friends", "[I", true)
  | 7 => ("BedsThatFitModel", "guests", "I", false)
  | 8 => ("BedsThatFitModel", "rivals", "[I", true)
  | 9 => ("BedsThatFitModel", "rivalMany", "I", false)
  | 10 => ("BedsThatFitModel", "law", "I", false)
  | 11 => ("BedsThatFitModel", "st", "[I", true)
  | 12 => ("BedsThatFitModel", "text", "[I", true)
  | 13 => ("BedsThatFitModel", "many", "I", false)
  | 14 => ("BedsThatFitModel", "place", "I", false)
  | 15 => ("BedsThatFitModel", "numbers", "I", false)
  | 16 => ("BedsThatFitModel", "number", "[I", true)
  | 17 => ("BedsThatFitModel", "readBeds", "[I", true)
  | 18 => ("BedsThatFitModel", "readBedMany", "I", false)
  | 19 => ("BedsThatFitModel", "readFeasts", "[I", true)
  | 20 => ("BedsThatFitModel", "readFeastMany", "I", false)
  | 21 => ("BedsThatFitModel", "readGuests", "[I", true)
  | 22 => ("BedsThatFitModel", "readFriends", "[I", true)
  | 23 => ("BedsThatFitModel", "readGuestMany", "I", false)
  | 24 => ("BedsThatFitModel", "readRivals", "[I", true)
  | 25 => ("BedsThatFitModel", "readRivalMany", "I", false)
  | 26 => ("BedsThatFitModel", "readLaw", "I", false)
  | 27 => ("BedsThatFitModel", "isTurned", "Z", false)
  | 28 => ("BedsThatFitModel", "yearNow", "I", false)
  | 29 => ("BedsThatFitModel", "nights", "[I", true)
  | 30 => ("BedsThatFitModel", "where", "[I", true)
  | 31 => ("BedsThatFitModel", "harms", "[I", true)
  | 32 => ("BedsThatFitModel", "namers", "[I", true)
  | 33 => ("BedsThatFitModel", "calls", "[I", true)
  | 34 => ("BedsThatFitModel", "ahead", "[I", true)
  | 35 => ("BedsThatFitModel", "undoMany", "I", false)
  | 36 => ("BedsThatFitModel", "had", "[I", true)
  | 37 => ("BedsThatFitModel", "bestRow", "[I", true)
  | 38 => ("BedsThatFitModel", "lefts", "[I", true)
  | 39 => ("BedsThatFitModel", "leftMany", "I", false)
  | 40 => ("BedsThatFitModel", "ways", "[I", true)
  | 41 => ("BedsThatFitModel", "then", "[I", true)
  | 42 => ("BedsThatFitModel", "kept", "[I", true)
  | _ => ("BedsThatFitModel", "keptMany", "I", false)
def tyX10 : Nat → FieldType := fun k => match k with
  | 0 => .array .int
  | 1 => .int
  | 2 => .array .int
  | 3 => .int
  | 4 => .array .int
  | 5 => .array .int
  | 6 => .array .int
  | 7 => .int
  | 8 => .array .int
  | 9 => .int
  | 10 => .int
  | 11 => .array .int
  | 12 => .array .int
  | 13 => .int
  | 14 => .int
  | 15 => .int
  | 16 => .array .int
  | 17 => .array .int
  | 18 => .int
  | 19 => .array .int
  | 20 => .int
  | 21 => .array .int
  | 22 => .array .int
  | 23 => .int
  | 24 => .array .int
  | 25 => .int
  | 26 => .int
  | 27 => .boolean
  | 28 => .int
  | 29 => .array .int
  | 30 => .array .int
  | 31 => .array .int
  | 32 => .array .int
  | 33 => .array .int
  | 34 => .array .int
  | 35 => .int
  | 36 => .array .int
  | 37 => .array .int
  | 38 => .array .int
  | 39 => .int
  | 40 => .array .int
  | 41 => .array .int
  | 42 => .array .int
  | _ => .int
theorem nmX10 : ∀ a, a < 44 → ∀ b, b < 44 → a ≠ b → (TX10 a).2.1 ≠ (TX10 b).2.1 := by decide +kernel
theorem tyX10_ok : ∀ k, k < 44 → parseFieldDescriptor (TX10 k).2.2.1 = some (tyX10 k) := by decide +kernel
abbrev cX10_init : ByteArray := prog_12_method_1_code
def yX10_init : MethodName := ⟨RX10, "<init>", "()V"⟩
abbrev cX10_in : ByteArray := prog_12_method_2_code
def yX10_in : MethodName := ⟨RX10, "in", "(JJJ)Z"⟩
abbrev cX10_has : ByteArray := prog_12_method_3_code
def yX10_has : MethodName := ⟨RX10, "has", "(II)Z"⟩
abbrev cX10_isBed : ByteArray := prog_12_method_4_code
def yX10_isBed : MethodName := ⟨RX10, "isBed", "(I)Z"⟩
abbrev cX10_isGuest : ByteArray := prog_12_method_5_code
def yX10_isGuest : MethodName := ⟨RX10, "isGuest", "(I)Z"⟩
abbrev cX10_isNight : ByteArray := prog_12_method_6_code
def yX10_isNight : MethodName := ⟨RX10, "isNight", "(I)Z"⟩
abbrev cX10_write : ByteArray := prog_12_method_7_code
def yX10_write : MethodName := ⟨RX10, "write", "(I)I"⟩
abbrev cX10_wipe : ByteArray := prog_12_method_8_code
def yX10_wipe : MethodName := ⟨RX10, "wipe", "()I"⟩
abbrev cX10_readNumber : ByteArray := prog_12_method_9_code
def yX10_readNumber : MethodName := ⟨RX10, "readNumber", "(I)Z"⟩
abbrev cX10_readNumbers : ByteArray := prog_12_method_10_code
def yX10_readNumbers : MethodName := ⟨RX10, "readNumbers", "(I)Z"⟩
abbrev cX10_readItem : ByteArray := prog_12_method_11_code
def yX10_readItem : MethodName := ⟨RX10, "readItem", "()Z"⟩
abbrev cX10_fault : ByteArray := prog_12_method_12_code
def yX10_fault : MethodName := ⟨RX10, "fault", "()I"⟩
abbrev cX10_lay : ByteArray := prog_12_method_13_code
def yX10_lay : MethodName := ⟨RX10, "lay", "()I"⟩
abbrev cX10_lengthOn : ByteArray := prog_12_method_14_code
def yX10_lengthOn : MethodName := ⟨RX10, "lengthOn", "(II)I"⟩
abbrev cX10_bed : ByteArray := prog_12_method_15_code
def yX10_bed : MethodName := ⟨RX10, "bed", "(II)I"⟩
abbrev cX10_inchesOn : ByteArray := prog_12_method_16_code
def yX10_inchesOn : MethodName := ⟨RX10, "inchesOn", "(II)I"⟩
abbrev cX10_harmBy : ByteArray := prog_12_method_17_code
def yX10_harmBy : MethodName := ⟨RX10, "harmBy", "(II)I"⟩
abbrev cX10_harmOf : ByteArray := prog_12_method_18_code
def yX10_harmOf : MethodName := ⟨RX10, "harmOf", "(III)I"⟩
abbrev cX10_harm : ByteArray := prog_12_method_19_code
def yX10_harm : MethodName := ⟨RX10, "harm", "(III)I"⟩
abbrev cX10_placeOf : ByteArray := prog_12_method_20_code
def yX10_placeOf : MethodName := ⟨RX10, "placeOf", "(I)I"⟩
abbrev cX10_guest : ByteArray := prog_12_method_21_code
def yX10_guest : MethodName := ⟨RX10, "guest", "(II)I"⟩
abbrev cX10_isWaiting : ByteArray := prog_12_method_22_code
def yX10_isWaiting : MethodName := ⟨RX10, "isWaiting", "(II)Z"⟩
abbrev cX10_lieDown : ByteArray := prog_12_method_23_code
def yX10_lieDown : MethodName := ⟨RX10, "lieDown", "(IIII)V"⟩
abbrev cX10_give : ByteArray := prog_12_method_24_code
def yX10_give : MethodName := ⟨RX10, "give", "(II)V"⟩
abbrev cX10_stay : ByteArray := prog_12_method_25_code
def yX10_stay : MethodName := ⟨RX10, "stay", "(I)I"⟩
abbrev cX10_lies : ByteArray := prog_12_method_26_code
def yX10_lies : MethodName := ⟨RX10, "lies", "(II)I"⟩
abbrev cX10_who : ByteArray := prog_12_method_27_code
def yX10_who : MethodName := ⟨RX10, "who", "(II)I"⟩
abbrev cX10_unharmed : ByteArray := prog_12_method_28_code
def yX10_unharmed : MethodName := ⟨RX10, "unharmed", "()I"⟩
abbrev cX10_all : ByteArray := prog_12_method_29_code
def yX10_all : MethodName := ⟨RX10, "all", "(I)I"⟩
abbrev cX10_note : ByteArray := prog_12_method_30_code
def yX10_note : MethodName := ⟨RX10, "note", "()V"⟩
abbrev cX10_move : ByteArray := prog_12_method_31_code
def yX10_move : MethodName := ⟨RX10, "move", "(II)I"⟩
abbrev cX10_wear : ByteArray := prog_12_method_32_code
def yX10_wear : MethodName := ⟨RX10, "wear", "(II)I"⟩
abbrev cX10_come : ByteArray := prog_12_method_33_code
def yX10_come : MethodName := ⟨RX10, "come", "(II)I"⟩
abbrev cX10_undo : ByteArray := prog_12_method_34_code
def yX10_undo : MethodName := ⟨RX10, "undo", "()I"⟩
abbrev cX10_nextRow : ByteArray := prog_12_method_35_code
def yX10_nextRow : MethodName := ⟨RX10, "nextRow", "()Z"⟩
abbrev cX10_exchange : ByteArray := prog_12_method_36_code
def yX10_exchange : MethodName := ⟨RX10, "exchange", "(II)V"⟩
abbrev cX10_order : ByteArray := prog_12_method_37_code
def yX10_order : MethodName := ⟨RX10, "order", "(I)I"⟩
abbrev cX10_cushion : ByteArray := prog_12_method_38_code
def yX10_cushion : MethodName := ⟨RX10, "cushion", "(I)I"⟩
abbrev cX10_length : ByteArray := prog_12_method_39_code
def yX10_length : MethodName := ⟨RX10, "length", "(II)I"⟩
abbrev cX10_law : ByteArray := prog_12_method_40_code
def yX10_law : MethodName := ⟨RX10, "law", "()I"⟩
abbrev cX10_pairs : ByteArray := prog_12_method_41_code
def yX10_pairs : MethodName := ⟨RX10, "pairs", "(I)I"⟩
abbrev cX10_later : ByteArray := prog_12_method_42_code
def yX10_later : MethodName := ⟨RX10, "later", "(II)I"⟩
abbrev cX10_rival : ByteArray := prog_12_method_43_code
def yX10_rival : MethodName := ⟨RX10, "rival", "()I"⟩
abbrev cX10_fewest : ByteArray := prog_12_method_44_code
def yX10_fewest : MethodName := ⟨RX10, "fewest", "(I)I"⟩
abbrev cX10_turned : ByteArray := prog_12_method_45_code
def yX10_turned : MethodName := ⟨RX10, "turned", "()I"⟩
abbrev cX10_left : ByteArray := prog_12_method_46_code
def yX10_left : MethodName := ⟨RX10, "left", "(III)I"⟩
abbrev cX10_sweep : ByteArray := prog_12_method_47_code
def yX10_sweep : MethodName := ⟨RX10, "sweep", "()I"⟩
abbrev cX10_sleptBy : ByteArray := prog_12_method_48_code
def yX10_sleptBy : MethodName := ⟨RX10, "sleptBy", "(I)I"⟩
abbrev cX10_slept : ByteArray := prog_12_method_49_code
def yX10_slept : MethodName := ⟨RX10, "slept", "(I)I"⟩
abbrev cX10_waysWith : ByteArray := prog_12_method_50_code
def yX10_waysWith : MethodName := ⟨RX10, "waysWith", "(II)I"⟩
abbrev cX10_sure : ByteArray := prog_12_method_51_code
def yX10_sure : MethodName := ⟨RX10, "sure", "(I)I"⟩
abbrev cX10_found : ByteArray := prog_12_method_52_code
def yX10_found : MethodName := ⟨RX10, "found", "(II)I"⟩
abbrev cX10_year : ByteArray := prog_12_method_53_code
def yX10_year : MethodName := ⟨RX10, "year", "(II)I"⟩
abbrev cX10_keep : ByteArray := prog_12_method_54_code
def yX10_keep : MethodName := ⟨RX10, "keep", "()I"⟩
abbrev cX10_back : ByteArray := prog_12_method_55_code
def yX10_back : MethodName := ⟨RX10, "back", "()I"⟩
abbrev cX10_count : ByteArray := prog_12_method_56_code
def yX10_count : MethodName := ⟨RX10, "count", "(I)I"⟩
def RJ6 : String := "java/lang/Integer"
def TJ6 : u_T := fun k => match k with
  | _ => ("", "", "", false)
def tyJ6 : Nat → FieldType := fun k => match k with
  | _ => .int
abbrev cJ6_bitCount_0f7a4 : ByteArray := prog_13_method_49_code
def yJ6_bitCount_0f7a4 : MethodName := ⟨RJ6, "bitCount", "(I)I"⟩
def RJ9 : String := "java/lang/Math"
def TJ9 : u_T := fun k => match k with
  | _ => ("", "", "", false)
def tyJ9 : Nat → FieldType := fun k => match k with
  | _ => .int
abbrev cJ9_abs_0f7a4 : ByteArray := prog_14_method_59_code
def yJ9_abs_0f7a4 : MethodName := ⟨RJ9, "abs", "(I)I"⟩
abbrev cJ9_max_7cf53 : ByteArray := prog_14_method_65_code
def yJ9_max_7cf53 : MethodName := ⟨RJ9, "max", "(II)I"⟩
abbrev cJ9_min_7cf53 : ByteArray := prog_14_method_69_code
def yJ9_min_7cf53 : MethodName := ⟨RJ9, "min", "(II)I"⟩
def RJ0 : String := "java/lang/String"
def TJ0 : u_T := fun k => match k with
  | _ => ("", "", "", false)
def tyJ0 : Nat → FieldType := fun k => match k with
  | _ => .int
abbrev cJ0_length_8abf5 : ByteArray := prog_15_method_54_code
def yJ0_length_8abf5 : MethodName := ⟨RJ0, "length", "()I"⟩
abbrev cJ0_charAt_5068e : ByteArray := prog_15_method_56_code
def yJ0_charAt_5068e : MethodName := ⟨RJ0, "charAt", "(I)C"⟩
abbrev cJ0_coder_7d493 : ByteArray := prog_15_method_152_code
def yJ0_coder_7d493 : MethodName := ⟨RJ0, "coder", "()B"⟩
abbrev cJ0_isLatin1_aae02 : ByteArray := prog_15_method_154_code
def yJ0_isLatin1_aae02 : MethodName := ⟨RJ0, "isLatin1", "()Z"⟩
abbrev cJ0_checkIndex_df160 : ByteArray := prog_15_method_155_code
def yJ0_checkIndex_df160 : MethodName := ⟨RJ0, "checkIndex", "(II)V"⟩
def RJ1 : String := "java/lang/StringLatin1"
def TJ1 : u_T := fun k => match k with
  | _ => ("", "", "", false)
def tyJ1 : Nat → FieldType := fun k => match k with
  | _ => .int
abbrev cJ1_charAt_3b067 : ByteArray := prog_16_method_2_code
def yJ1_charAt_3b067 : MethodName := ⟨RJ1, "charAt", "([BI)C"⟩
def RJ2 : String := "java/lang/StringUTF16"
def TJ2 : u_T := fun k => match k with
  | _ => ("", "", "", false)
def tyJ2 : Nat → FieldType := fun k => match k with
  | _ => .int
abbrev cJ2_getChar_3b067 : ByteArray := prog_17_method_5_code
def yJ2_getChar_3b067 : MethodName := ⟨RJ2, "getChar", "([BI)C"⟩
abbrev cJ2_length_9d52b : ByteArray := prog_17_method_6_code
def yJ2_length_9d52b : MethodName := ⟨RJ2, "length", "([B)I"⟩
abbrev cJ2_charAt_3b067 : ByteArray := prog_17_method_83_code
def yJ2_charAt_3b067 : MethodName := ⟨RJ2, "charAt", "([BI)C"⟩
abbrev cJ2_checkIndex_2214a : ByteArray := prog_17_method_91_code
def yJ2_checkIndex_2214a : MethodName := ⟨RJ2, "checkIndex", "(I[B)V"⟩
def RJ10 : String := "java/lang/System"
def TJ10 : u_T := fun k => match k with
  | _ => ("", "", "", false)
def tyJ10 : Nat → FieldType := fun k => match k with
  | _ => .int
def RJ3 : String := "jdk/internal/util/Preconditions"
def TJ3 : u_T := fun k => match k with
  | _ => ("", "", "", false)
def tyJ3 : Nat → FieldType := fun k => match k with
  | _ => .int
abbrev cJ3_checkIndex_8e157 : ByteArray := prog_19_method_11_code
def yJ3_checkIndex_8e157 : MethodName := ⟨RJ3, "checkIndex", "(IILjava/util/function/BiFunction;)I"⟩
def RL : String := "BedsThatFitLaw"
abbrev cL_law : ByteArray := code
def yL_law : MethodName := ⟨RL, "law", "([I)Z"⟩
abbrev vwCl : List vw_C := [(RX0, TX0, 7), (RX1, TX1, 4), (RX2, TX2, 5), (RX3, TX3, 8), (RX4, TX4, 4), (RX5, TX5, 7), (RX6, TX6, 5), (RX7, TX7, 4), (RX8, TX8, 4), (RX9, TX9, 9), (RX10, TX10, 44)]
def tyOf : Nat → Nat → FieldType := fun ci => match ci with
  | 0 => tyX0
  | 1 => tyX1
  | 2 => tyX2
  | 3 => tyX3
  | 4 => tyX4
  | 5 => tyX5
  | 6 => tyX6
  | 7 => tyX7
  | 8 => tyX8
  | 9 => tyX9
  | _ => tyX10
end
section
theorem dX0_init_0 : decode cX0_init 0 = .ok (.aload_n 0, 1) := by decide +kernel
theorem dX0_init_1 : decode cX0_init 1 = .ok (.invokespecial 3, 3) := by decide +kernel
theorem dX0_init_4 : decode cX0_init 4 = .ok (.aload_n 0, 1) := by decide +kernel
theorem dX0_init_5 : decode cX0_init 5 = .ok (.iconst 4, 1) := by decide +kernel
theorem dX0_init_6 : decode cX0_init 6 = .ok (.newarray .int, 2) := by decide +kernel
theorem dX0_init_8 : decode cX0_init 8 = .ok (.putfield 9, 3) := by decide +kernel
theorem dX0_init_11 : decode cX0_init 11 = .ok (.aload_n 0, 1) := by decide +kernel
theorem dX0_init_12 : decode cX0_init 12 = .ok (.bipush 30, 2) := by decide +kernel
theorem dX0_init_14 : decode cX0_init 14 = .ok (.newarray .int, 2) := by decide +kernel
theorem dX0_init_16 : decode cX0_init 16 = .ok (.putfield 15, 3) := by decide +kernel
theorem dX0_init_19 : decode cX0_init 19 = .ok (.aload_n 0, 1) := by decide +kernel
theorem dX0_init_20 : decode cX0_init 20 = .ok (.iconst (-1), 1) := by decide +kernel
theorem dX0_init_21 : decode cX0_init 21 = .ok (.putfield 18, 3) := by decide +kernel
theorem dX0_init_24 : decode cX0_init 24 = .ok (.return_, 1) := by decide +kernel
theorem dX0_clear_0 : decode cX0_clear 0 = .ok (.aload_n 0, 1) := by decide +kernel
theorem dX0_clear_1 : decode cX0_clear 1 = .ok (.iconst 0, 1) := by decide +kernel
theorem dX0_clear_2 : decode cX0_clear 2 = .ok (.putfield 22, 3) := by decide +kernel
theorem dX0_clear_5 : decode cX0_clear 5 = .ok (.aload_n 0, 1) := by decide +kernel
theorem dX0_clear_6 : decode cX0_clear 6 = .ok (.iconst 0, 1) := by decide +kernel
theorem dX0_clear_7 : decode cX0_clear 7 = .ok (.putfield 25, 3) := by decide +kernel
theorem dX0_clear_10 : decode cX0_clear 10 = .ok (.aload_n 0, 1) := by decide +kernel
theorem dX0_clear_11 : decode cX0_clear 11 = .ok (.iconst 0, 1) := by decide +kernel
theorem dX0_clear_12 : decode cX0_clear 12 = .ok (.putfield 28, 3) := by decide +kernel
theorem dX0_clear_15 : decode cX0_clear 15 = .ok (.iconst 0, 1) := by decide +kernel
theorem dX0_clear_16 : decode cX0_clear 16 = .ok (.istore_n 1, 1) := by decide +kernel
theorem dX0_clear_17 : decode cX0_clear 17 = .ok (.iload_n 1, 1) := by decide +kernel
theorem dX0_clear_18 : decode cX0_clear 18 = .ok (.bipush 30, 2) := by decide +kernel
theorem dX0_clear_20 : decode cX0_clear 20 = .ok (.if_icmp .ge 16, 3) := by decide +kernel
theorem dX0_clear_23 : decode cX0_clear 23 = .ok (.aload_n 0, 1) := by decide +kernel
theorem dX0_clear_24 : decode cX0_clear 24 = .ok (.getfield 15, 3) := by decide +kernel
theorem dX0_clear_27 : decode cX0_clear 27 = .ok (.iload_n 1, 1) := by decide +kernel
theorem dX0_clear_28 : decode cX0_clear 28 = .ok (.iconst 0, 1) := by decide +kernel
theorem dX0_clear_29 : decode cX0_clear 29 = .ok (.iastore, 1) := by decide +kernel
theorem dX0_clear_30 : decode cX0_clear 30 = .ok (.iinc 1 1, 3) := by decide +kernel
theorem dX0_clear_33 : decode cX0_clear 33 = .ok (.goto (-16), 3) := by decide +kernel
theorem dX0_clear_36 : decode cX0_clear 36 = .ok (.return_, 1) := by decide +kernel
theorem dX0_has_0 : decode cX0_has 0 = .ok (.iload_n 1, 1) := by decide +kernel
theorem dX0_has_1 : decode cX0_has 1 = .ok (.ifCond .lt 15, 3) := by decide +kernel
theorem dX0_has_4 : decode cX0_has 4 = .ok (.iload_n 1, 1) := by decide +kernel
theorem dX0_has_5 : decode cX0_has 5 = .ok (.aload_n 0, 1) := by decide +kernel
theorem dX0_has_6 : decode cX0_has 6 = .ok (.getfield 22, 3) := by decide +kernel
theorem dX0_has_9 : decode cX0_has 9 = .ok (.if_icmp .ge 7, 3) := by decide +kernel
theorem dX0_has_12 : decode cX0_has 12 = .ok (.iconst 1, 1) := by decide +kernel
theorem dX0_has_13 : decode cX0_has 13 = .ok (.goto 4, 3) := by decide +kernel
theorem dX0_has_16 : decode cX0_has 16 = .ok (.iconst 0, 1) := by decide +kernel
theorem dX0_has_17 : decode cX0_has 17 = .ok (.ireturn, 1) := by decide +kernel
theorem dX0_add_0 : decode cX0_add 0 = .ok (.aload_n 0, 1) := by decide +kernel
theorem dX0_add_1 : decode cX0_add 1 = .ok (.getfield 22, 3) := by decide +kernel
theorem dX0_add_4 : decode cX0_add 4 = .ok (.iconst 4, 1) := by decide +kernel
theorem dX0_add_5 : decode cX0_add 5 = .ok (.if_icmp .lt 5, 3) := by decide +kernel
theorem dX0_add_8 : decode cX0_add 8 = .ok (.iconst 0, 1) := by decide +kernel
theorem dX0_add_9 : decode cX0_add 9 = .ok (.ireturn, 1) := by decide +kernel
theorem dX0_add_10 : decode cX0_add 10 = .ok (.aload_n 0, 1) := by decide +kernel
theorem dX0_add_11 : decode cX0_add 11 = .ok (.getfield 9, 3) := by decide +kernel
theorem dX0_add_14 : decode cX0_add 14 = .ok (.aload_n 0, 1) := by decide +kernel
theorem dX0_add_15 : decode cX0_add 15 = .ok (.getfield 22, 3) := by decide +kernel
theorem dX0_add_18 : decode cX0_add 18 = .ok (.iload_n 1, 1) := by decide +kernel
theorem dX0_add_19 : decode cX0_add 19 = .ok (.iastore, 1) := by decide +kernel
theorem dX0_add_20 : decode cX0_add 20 = .ok (.aload_n 0, 1) := by decide +kernel
theorem dX0_add_21 : decode cX0_add 21 = .ok (.dup, 1) := by decide +kernel
theorem dX0_add_22 : decode cX0_add 22 = .ok (.getfield 22, 3) := by decide +kernel
theorem dX0_add_25 : decode cX0_add 25 = .ok (.iconst 1, 1) := by decide +kernel
theorem dX0_add_26 : decode cX0_add 26 = .ok (.iadd, 1) := by decide +kernel
theorem dX0_add_27 : decode cX0_add 27 = .ok (.putfield 22, 3) := by decide +kernel
theorem dX0_add_30 : decode cX0_add 30 = .ok (.aload_n 0, 1) := by decide +kernel
theorem dX0_add_31 : decode cX0_add 31 = .ok (.aload_n 0, 1) := by decide +kernel
theorem dX0_add_32 : decode cX0_add 32 = .ok (.getfield 22, 3) := by decide +kernel
theorem dX0_add_35 : decode cX0_add 35 = .ok (.putfield 25, 3) := by decide +kernel
theorem dX0_add_38 : decode cX0_add 38 = .ok (.iconst 1, 1) := by decide +kernel
theorem dX0_add_39 : decode cX0_add 39 = .ok (.ireturn, 1) := by decide +kernel
theorem dX0_addFeast_0 : decode cX0_addFeast 0 = .ok (.aload_n 0, 1) := by decide +kernel
theorem dX0_addFeast_1 : decode cX0_addFeast 1 = .ok (.getfield 28, 3) := by decide +kernel
theorem dX0_addFeast_4 : decode cX0_addFeast 4 = .ok (.iconst 4, 1) := by decide +kernel
theorem dX0_addFeast_5 : decode cX0_addFeast 5 = .ok (.if_icmp .ge 10, 3) := by decide +kernel
theorem dX0_addFeast_8 : decode cX0_addFeast 8 = .ok (.iload_n 1, 1) := by decide +kernel
theorem dX0_addFeast_9 : decode cX0_addFeast 9 = .ok (.invokestatic 31, 3) := by decide +kernel
theorem dX0_addFeast_12 : decode cX0_addFeast 12 = .ok (.ifCond .ne 5, 3) := by decide +kernel
theorem dX0_addFeast_15 : decode cX0_addFeast 15 = .ok (.iconst 0, 1) := by decide +kernel
theorem dX0_addFeast_16 : decode cX0_addFeast 16 = .ok (.ireturn, 1) := by decide +kernel
theorem dX0_addFeast_17 : decode cX0_addFeast 17 = .ok (.aload_n 0, 1) := by decide +kernel
theorem dX0_addFeast_18 : decode cX0_addFeast 18 = .ok (.getfield 15, 3) := by decide +kernel
theorem dX0_addFeast_21 : decode cX0_addFeast 21 = .ok (.iload_n 1, 1) := by decide +kernel
theorem dX0_addFeast_22 : decode cX0_addFeast 22 = .ok (.dup2, 1) := by decide +kernel
theorem dX0_addFeast_23 : decode cX0_addFeast 23 = .ok (.iaload, 1) := by decide +kernel
theorem dX0_addFeast_24 : decode cX0_addFeast 24 = .ok (.iload_n 2, 1) := by decide +kernel
theorem dX0_addFeast_25 : decode cX0_addFeast 25 = .ok (.iadd, 1) := by decide +kernel
theorem dX0_addFeast_26 : decode cX0_addFeast 26 = .ok (.iastore, 1) := by decide +kernel
theorem dX0_addFeast_27 : decode cX0_addFeast 27 = .ok (.aload_n 0, 1) := by decide +kernel
theorem dX0_addFeast_28 : decode cX0_addFeast 28 = .ok (.dup, 1) := by decide +kernel
theorem dX0_addFeast_29 : decode cX0_addFeast 29 = .ok (.getfield 28, 3) := by decide +kernel
theorem dX0_addFeast_32 : decode cX0_addFeast 32 = .ok (.iconst 1, 1) := by decide +kernel
theorem dX0_addFeast_33 : decode cX0_addFeast 33 = .ok (.iadd, 1) := by decide +kernel
theorem dX0_addFeast_34 : decode cX0_addFeast 34 = .ok (.putfield 28, 3) := by decide +kernel
theorem dX0_addFeast_37 : decode cX0_addFeast 37 = .ok (.iconst 1, 1) := by decide +kernel
theorem dX0_addFeast_38 : decode cX0_addFeast 38 = .ok (.ireturn, 1) := by decide +kernel
theorem dX0_lengthOn_0 : decode cX0_lengthOn 0 = .ok (.aload_n 0, 1) := by decide +kernel
theorem dX0_lengthOn_1 : decode cX0_lengthOn 1 = .ok (.getfield 35, 3) := by decide +kernel
theorem dX0_lengthOn_4 : decode cX0_lengthOn 4 = .ok (.ifCond .eq 16, 3) := by decide +kernel
theorem dX0_lengthOn_7 : decode cX0_lengthOn 7 = .ok (.iload_n 2, 1) := by decide +kernel
theorem dX0_lengthOn_8 : decode cX0_lengthOn 8 = .ok (.iconst 2, 1) := by decide +kernel
theorem dX0_lengthOn_9 : decode cX0_lengthOn 9 = .ok (.irem, 1) := by decide +kernel
theorem dX0_lengthOn_10 : decode cX0_lengthOn 10 = .ok (.iconst 1, 1) := by decide +kernel
theorem dX0_lengthOn_11 : decode cX0_lengthOn 11 = .ok (.if_icmp .ne 9, 3) := by decide +kernel
theorem dX0_lengthOn_14 : decode cX0_lengthOn 14 = .ok (.iload_n 1, 1) := by decide +kernel
theorem dX0_lengthOn_15 : decode cX0_lengthOn 15 = .ok (.iconst 1, 1) := by decide +kernel
theorem dX0_lengthOn_16 : decode cX0_lengthOn 16 = .ok (.iadd, 1) := by decide +kernel
theorem dX0_lengthOn_17 : decode cX0_lengthOn 17 = .ok (.goto 4, 3) := by decide +kernel
theorem dX0_lengthOn_20 : decode cX0_lengthOn 20 = .ok (.iload_n 1, 1) := by decide +kernel
theorem dX0_lengthOn_21 : decode cX0_lengthOn 21 = .ok (.istore_n 3, 1) := by decide +kernel
theorem dX0_lengthOn_22 : decode cX0_lengthOn 22 = .ok (.iload_n 3, 1) := by decide +kernel
theorem dX0_lengthOn_23 : decode cX0_lengthOn 23 = .ok (.aload_n 0, 1) := by decide +kernel
theorem dX0_lengthOn_24 : decode cX0_lengthOn 24 = .ok (.getfield 22, 3) := by decide +kernel
theorem dX0_lengthOn_27 : decode cX0_lengthOn 27 = .ok (.if_icmp .ne 5, 3) := by decide +kernel
theorem dX0_lengthOn_30 : decode cX0_lengthOn 30 = .ok (.iconst 0, 1) := by decide +kernel
theorem dX0_lengthOn_31 : decode cX0_lengthOn 31 = .ok (.istore_n 3, 1) := by decide +kernel
theorem dX0_lengthOn_32 : decode cX0_lengthOn 32 = .ok (.aload_n 0, 1) := by decide +kernel
theorem dX0_lengthOn_33 : decode cX0_lengthOn 33 = .ok (.iload_n 3, 1) := by decide +kernel
theorem dX0_lengthOn_34 : decode cX0_lengthOn 34 = .ok (.invokevirtual 39, 3) := by decide +kernel
theorem dX0_lengthOn_37 : decode cX0_lengthOn 37 = .ok (.ifCond .eq 12, 3) := by decide +kernel
theorem dX0_lengthOn_40 : decode cX0_lengthOn 40 = .ok (.aload_n 0, 1) := by decide +kernel
theorem dX0_lengthOn_41 : decode cX0_lengthOn 41 = .ok (.getfield 9, 3) := by decide +kernel
theorem dX0_lengthOn_44 : decode cX0_lengthOn 44 = .ok (.iload_n 3, 1) := by decide +kernel
theorem dX0_lengthOn_45 : decode cX0_lengthOn 45 = .ok (.iaload, 1) := by decide +kernel
theorem dX0_lengthOn_46 : decode cX0_lengthOn 46 = .ok (.goto 4, 3) := by decide +kernel
theorem dX0_lengthOn_49 : decode cX0_lengthOn 49 = .ok (.iconst 0, 1) := by decide +kernel
theorem dX0_lengthOn_50 : decode cX0_lengthOn 50 = .ok (.istore 4, 2) := by decide +kernel
theorem dX0_lengthOn_52 : decode cX0_lengthOn 52 = .ok (.iload 4, 2) := by decide +kernel
theorem dX0_lengthOn_54 : decode cX0_lengthOn 54 = .ok (.iload_n 2, 1) := by decide +kernel
theorem dX0_lengthOn_55 : decode cX0_lengthOn 55 = .ok (.invokestatic 31, 3) := by decide +kernel
theorem dX0_lengthOn_58 : decode cX0_lengthOn 58 = .ok (.ifCond .eq 12, 3) := by decide +kernel
theorem dX0_lengthOn_61 : decode cX0_lengthOn 61 = .ok (.aload_n 0, 1) := by decide +kernel
theorem dX0_lengthOn_62 : decode cX0_lengthOn 62 = .ok (.getfield 15, 3) := by decide +kernel
theorem dX0_lengthOn_65 : decode cX0_lengthOn 65 = .ok (.iload_n 2, 1) := by decide +kernel
theorem dX0_lengthOn_66 : decode cX0_lengthOn 66 = .ok (.iaload, 1) := by decide +kernel
theorem dX0_lengthOn_67 : decode cX0_lengthOn 67 = .ok (.goto 4, 3) := by decide +kernel
theorem dX0_lengthOn_70 : decode cX0_lengthOn 70 = .ok (.iconst 0, 1) := by decide +kernel
theorem dX0_lengthOn_71 : decode cX0_lengthOn 71 = .ok (.iadd, 1) := by decide +kernel
theorem dX0_lengthOn_72 : decode cX0_lengthOn 72 = .ok (.istore 4, 2) := by decide +kernel
theorem dX0_lengthOn_74 : decode cX0_lengthOn 74 = .ok (.aload_n 0, 1) := by decide +kernel
theorem dX0_lengthOn_75 : decode cX0_lengthOn 75 = .ok (.getfield 18, 3) := by decide +kernel
theorem dX0_lengthOn_78 : decode cX0_lengthOn 78 = .ok (.iconst (-1), 1) := by decide +kernel
theorem dX0_lengthOn_79 : decode cX0_lengthOn 79 = .ok (.if_icmp .ne 8, 3) := by decide +kernel
theorem dX0_lengthOn_82 : decode cX0_lengthOn 82 = .ok (.iload 4, 2) := by decide +kernel
theorem dX0_lengthOn_84 : decode cX0_lengthOn 84 = .ok (.goto 12, 3) := by decide +kernel
theorem dX0_lengthOn_87 : decode cX0_lengthOn 87 = .ok (.iload 4, 2) := by decide +kernel
theorem dX0_lengthOn_89 : decode cX0_lengthOn 89 = .ok (.aload_n 0, 1) := by decide +kernel
theorem dX0_lengthOn_90 : decode cX0_lengthOn 90 = .ok (.iload_n 1, 1) := by decide +kernel
theorem dX0_lengthOn_91 : decode cX0_lengthOn 91 = .ok (.iload_n 2, 1) := by decide +kernel
theorem dX0_lengthOn_92 : decode cX0_lengthOn 92 = .ok (.invokevirtual 42, 3) := by decide +kernel
theorem dX0_lengthOn_95 : decode cX0_lengthOn 95 = .ok (.iadd, 1) := by decide +kernel
theorem dX0_lengthOn_96 : decode cX0_lengthOn 96 = .ok (.ireturn, 1) := by decide +kernel
theorem dX0_drawn_0 : decode cX0_drawn 0 = .ok (.ldc2_w 46, 3) := by decide +kernel
theorem dX0_drawn_3 : decode cX0_drawn 3 = .ok (.aload_n 0, 1) := by decide +kernel
theorem dX0_drawn_4 : decode cX0_drawn 4 = .ok (.getfield 18, 3) := by decide +kernel
theorem dX0_drawn_7 : decode cX0_drawn 7 = .ok (.i2l, 1) := by decide +kernel
theorem dX0_drawn_8 : decode cX0_drawn 8 = .ok (.lmul, 1) := by decide +kernel
theorem dX0_drawn_9 : decode cX0_drawn 9 = .ok (.ldc2_w 48, 3) := by decide +kernel
theorem dX0_drawn_12 : decode cX0_drawn 12 = .ok (.iload_n 2, 1) := by decide +kernel
theorem dX0_drawn_13 : decode cX0_drawn 13 = .ok (.i2l, 1) := by decide +kernel
theorem dX0_drawn_14 : decode cX0_drawn 14 = .ok (.lmul, 1) := by decide +kernel
theorem dX0_drawn_15 : decode cX0_drawn 15 = .ok (.ladd, 1) := by decide +kernel
theorem dX0_drawn_16 : decode cX0_drawn 16 = .ok (.ldc2_w 50, 3) := by decide +kernel
theorem dX0_drawn_19 : decode cX0_drawn 19 = .ok (.iload_n 1, 1) := by decide +kernel
theorem dX0_drawn_20 : decode cX0_drawn 20 = .ok (.i2l, 1) := by decide +kernel
theorem dX0_drawn_21 : decode cX0_drawn 21 = .ok (.lmul, 1) := by decide +kernel
theorem dX0_drawn_22 : decode cX0_drawn 22 = .ok (.ladd, 1) := by decide +kernel
theorem dX0_drawn_23 : decode cX0_drawn 23 = .ok (.lconst 1, 1) := by decide +kernel
theorem dX0_drawn_24 : decode cX0_drawn 24 = .ok (.ladd, 1) := by decide +kernel
theorem dX0_drawn_25 : decode cX0_drawn 25 = .ok (.lstore_n 3, 1) := by decide +kernel
theorem dX0_drawn_26 : decode cX0_drawn 26 = .ok (.lload_n 3, 1) := by decide +kernel
theorem dX0_drawn_27 : decode cX0_drawn 27 = .ok (.lload_n 3, 1) := by decide +kernel
theorem dX0_drawn_28 : decode cX0_drawn 28 = .ok (.lmul, 1) := by decide +kernel
theorem dX0_drawn_29 : decode cX0_drawn 29 = .ok (.ldc2_w 52, 3) := by decide +kernel
theorem dX0_drawn_32 : decode cX0_drawn 32 = .ok (.lrem, 1) := by decide +kernel
theorem dX0_drawn_33 : decode cX0_drawn 33 = .ok (.ldc2_w 54, 3) := by decide +kernel
theorem dX0_drawn_36 : decode cX0_drawn 36 = .ok (.lrem, 1) := by decide +kernel
theorem dX0_drawn_37 : decode cX0_drawn 37 = .ok (.l2i, 1) := by decide +kernel
theorem dX0_drawn_38 : decode cX0_drawn 38 = .ok (.iconst 3, 1) := by decide +kernel
theorem dX0_drawn_39 : decode cX0_drawn 39 = .ok (.isub, 1) := by decide +kernel
theorem dX0_drawn_40 : decode cX0_drawn 40 = .ok (.ireturn, 1) := by decide +kernel
theorem dX1_init_0 : decode cX1_init 0 = .ok (.aload_n 0, 1) := by decide +kernel
theorem dX1_init_1 : decode cX1_init 1 = .ok (.invokespecial 3, 3) := by decide +kernel
theorem dX1_init_4 : decode cX1_init 4 = .ok (.aload_n 0, 1) := by decide +kernel
theorem dX1_init_5 : decode cX1_init 5 = .ok (.bipush 8, 2) := by decide +kernel
theorem dX1_init_7 : decode cX1_init 7 = .ok (.newarray .int, 2) := by decide +kernel
theorem dX1_init_9 : decode cX1_init 9 = .ok (.putfield 9, 3) := by decide +kernel
theorem dX1_init_12 : decode cX1_init 12 = .ok (.aload_n 0, 1) := by decide +kernel
theorem dX1_init_13 : decode cX1_init 13 = .ok (.bipush 8, 2) := by decide +kernel
theorem dX1_init_15 : decode cX1_init 15 = .ok (.newarray .int, 2) := by decide +kernel
theorem dX1_init_17 : decode cX1_init 17 = .ok (.putfield 15, 3) := by decide +kernel
theorem dX1_init_20 : decode cX1_init 20 = .ok (.aload_n 0, 1) := by decide +kernel
theorem dX1_init_21 : decode cX1_init 21 = .ok (.bipush 8, 2) := by decide +kernel
theorem dX1_init_23 : decode cX1_init 23 = .ok (.newarray .int, 2) := by decide +kernel
theorem dX1_init_25 : decode cX1_init 25 = .ok (.putfield 18, 3) := by decide +kernel
theorem dX1_init_28 : decode cX1_init 28 = .ok (.return_, 1) := by decide +kernel
theorem dX1_push_0 : decode cX1_push 0 = .ok (.aload_n 0, 1) := by decide +kernel
theorem dX1_push_1 : decode cX1_push 1 = .ok (.getfield 21, 3) := by decide +kernel
theorem dX1_push_4 : decode cX1_push 4 = .ok (.bipush 8, 2) := by decide +kernel
theorem dX1_push_6 : decode cX1_push 6 = .ok (.if_icmp .lt 7, 3) := by decide +kernel
theorem dX1_push_9 : decode cX1_push 9 = .ok (.aload_n 0, 1) := by decide +kernel
theorem dX1_push_10 : decode cX1_push 10 = .ok (.invokevirtual 25, 3) := by decide +kernel
theorem dX1_push_13 : decode cX1_push 13 = .ok (.aload_n 0, 1) := by decide +kernel
theorem dX1_push_14 : decode cX1_push 14 = .ok (.getfield 9, 3) := by decide +kernel
theorem dX1_push_17 : decode cX1_push 17 = .ok (.aload_n 0, 1) := by decide +kernel
theorem dX1_push_18 : decode cX1_push 18 = .ok (.getfield 21, 3) := by decide +kernel
theorem dX1_push_21 : decode cX1_push 21 = .ok (.iload_n 1, 1) := by decide +kernel
theorem dX1_push_22 : decode cX1_push 22 = .ok (.iastore, 1) := by decide +kernel
theorem dX1_push_23 : decode cX1_push 23 = .ok (.aload_n 0, 1) := by decide +kernel
theorem dX1_push_24 : decode cX1_push 24 = .ok (.getfield 15, 3) := by decide +kernel
theorem dX1_push_27 : decode cX1_push 27 = .ok (.aload_n 0, 1) := by decide +kernel
theorem dX1_push_28 : decode cX1_push 28 = .ok (.getfield 21, 3) := by decide +kernel
theorem dX1_push_31 : decode cX1_push 31 = .ok (.iload_n 2, 1) := by decide +kernel
theorem dX1_push_32 : decode cX1_push 32 = .ok (.iastore, 1) := by decide +kernel
theorem dX1_push_33 : decode cX1_push 33 = .ok (.aload_n 0, 1) := by decide +kernel
theorem dX1_push_34 : decode cX1_push 34 = .ok (.getfield 18, 3) := by decide +kernel
theorem dX1_push_37 : decode cX1_push 37 = .ok (.aload_n 0, 1) := by decide +kernel
theorem dX1_push_38 : decode cX1_push 38 = .ok (.getfield 21, 3) := by decide +kernel
theorem dX1_push_41 : decode cX1_push 41 = .ok (.iload_n 3, 1) := by decide +kernel
theorem dX1_push_42 : decode cX1_push 42 = .ok (.iastore, 1) := by decide +kernel
theorem dX1_push_43 : decode cX1_push 43 = .ok (.aload_n 0, 1) := by decide +kernel
theorem dX1_push_44 : decode cX1_push 44 = .ok (.dup, 1) := by decide +kernel
theorem dX1_push_45 : decode cX1_push 45 = .ok (.getfield 21, 3) := by decide +kernel
theorem dX1_push_48 : decode cX1_push 48 = .ok (.iconst 1, 1) := by decide +kernel
theorem dX1_push_49 : decode cX1_push 49 = .ok (.iadd, 1) := by decide +kernel
theorem dX1_push_50 : decode cX1_push 50 = .ok (.putfield 21, 3) := by decide +kernel
theorem dX1_push_53 : decode cX1_push 53 = .ok (.return_, 1) := by decide +kernel
theorem dX1_dropOldest_0 : decode cX1_dropOldest 0 = .ok (.iconst 1, 1) := by decide +kernel
theorem dX1_dropOldest_1 : decode cX1_dropOldest 1 = .ok (.istore_n 1, 1) := by decide +kernel
theorem dX1_dropOldest_2 : decode cX1_dropOldest 2 = .ok (.iload_n 1, 1) := by decide +kernel
theorem dX1_dropOldest_3 : decode cX1_dropOldest 3 = .ok (.bipush 8, 2) := by decide +kernel
theorem dX1_dropOldest_5 : decode cX1_dropOldest 5 = .ok (.if_icmp .ge 51, 3) := by decide +kernel
theorem dX1_dropOldest_8 : decode cX1_dropOldest 8 = .ok (.aload_n 0, 1) := by decide +kernel
theorem dX1_dropOldest_9 : decode cX1_dropOldest 9 = .ok (.getfield 9, 3) := by decide +kernel
theorem dX1_dropOldest_12 : decode cX1_dropOldest 12 = .ok (.iload_n 1, 1) := by decide +kernel
theorem dX1_dropOldest_13 : decode cX1_dropOldest 13 = .ok (.iconst 1, 1) := by decide +kernel
theorem dX1_dropOldest_14 : decode cX1_dropOldest 14 = .ok (.isub, 1) := by decide +kernel
theorem dX1_dropOldest_15 : decode cX1_dropOldest 15 = .ok (.aload_n 0, 1) := by decide +kernel
theorem dX1_dropOldest_16 : decode cX1_dropOldest 16 = .ok (.getfield 9, 3) := by decide +kernel
theorem dX1_dropOldest_19 : decode cX1_dropOldest 19 = .ok (.iload_n 1, 1) := by decide +kernel
theorem dX1_dropOldest_20 : decode cX1_dropOldest 20 = .ok (.iaload, 1) := by decide +kernel
theorem dX1_dropOldest_21 : decode cX1_dropOldest 21 = .ok (.iastore, 1) := by decide +kernel
theorem dX1_dropOldest_22 : decode cX1_dropOldest 22 = .ok (.aload_n 0, 1) := by decide +kernel
theorem dX1_dropOldest_23 : decode cX1_dropOldest 23 = .ok (.getfield 15, 3) := by decide +kernel
theorem dX1_dropOldest_26 : decode cX1_dropOldest 26 = .ok (.iload_n 1, 1) := by decide +kernel
theorem dX1_dropOldest_27 : decode cX1_dropOldest 27 = .ok (.iconst 1, 1) := by decide +kernel
theorem dX1_dropOldest_28 : decode cX1_dropOldest 28 = .ok (.isub, 1) := by decide +kernel
theorem dX1_dropOldest_29 : decode cX1_dropOldest 29 = .ok (.aload_n 0, 1) := by decide +kernel
theorem dX1_dropOldest_30 : decode cX1_dropOldest 30 = .ok (.getfield 15, 3) := by decide +kernel
theorem dX1_dropOldest_33 : decode cX1_dropOldest 33 = .ok (.iload_n 1, 1) := by decide +kernel
theorem dX1_dropOldest_34 : decode cX1_dropOldest 34 = .ok (.iaload, 1) := by decide +kernel
theorem dX1_dropOldest_35 : decode cX1_dropOldest 35 = .ok (.iastore, 1) := by decide +kernel
theorem dX1_dropOldest_36 : decode cX1_dropOldest 36 = .ok (.aload_n 0, 1) := by decide +kernel
theorem dX1_dropOldest_37 : decode cX1_dropOldest 37 = .ok (.getfield 18, 3) := by decide +kernel
theorem dX1_dropOldest_40 : decode cX1_dropOldest 40 = .ok (.iload_n 1, 1) := by decide +kernel
theorem dX1_dropOldest_41 : decode cX1_dropOldest 41 = .ok (.iconst 1, 1) := by decide +kernel
theorem dX1_dropOldest_42 : decode cX1_dropOldest 42 = .ok (.isub, 1) := by decide +kernel
theorem dX1_dropOldest_43 : decode cX1_dropOldest 43 = .ok (.aload_n 0, 1) := by decide +kernel
theorem dX1_dropOldest_44 : decode cX1_dropOldest 44 = .ok (.getfield 18, 3) := by decide +kernel
theorem dX1_dropOldest_47 : decode cX1_dropOldest 47 = .ok (.iload_n 1, 1) := by decide +kernel
theorem dX1_dropOldest_48 : decode cX1_dropOldest 48 = .ok (.iaload, 1) := by decide +kernel
theorem dX1_dropOldest_49 : decode cX1_dropOldest 49 = .ok (.iastore, 1) := by decide +kernel
theorem dX1_dropOldest_50 : decode cX1_dropOldest 50 = .ok (.iinc 1 1, 3) := by decide +kernel
theorem dX1_dropOldest_53 : decode cX1_dropOldest 53 = .ok (.goto (-51), 3) := by decide +kernel
theorem dX1_dropOldest_56 : decode cX1_dropOldest 56 = .ok (.aload_n 0, 1) := by decide +kernel
theorem dX1_dropOldest_57 : decode cX1_dropOldest 57 = .ok (.bipush 7, 2) := by decide +kernel
theorem dX1_dropOldest_59 : decode cX1_dropOldest 59 = .ok (.putfield 21, 3) := by decide +kernel
theorem dX1_dropOldest_62 : decode cX1_dropOldest 62 = .ok (.return_, 1) := by decide +kernel
theorem dX1_takeBack_0 : decode cX1_takeBack 0 = .ok (.aload_n 0, 1) := by decide +kernel
theorem dX1_takeBack_1 : decode cX1_takeBack 1 = .ok (.getfield 21, 3) := by decide +kernel
theorem dX1_takeBack_4 : decode cX1_takeBack 4 = .ok (.ifCond .gt 4, 3) := by decide +kernel
theorem dX1_takeBack_7 : decode cX1_takeBack 7 = .ok (.return_, 1) := by decide +kernel
theorem dX1_takeBack_8 : decode cX1_takeBack 8 = .ok (.aload_n 0, 1) := by decide +kernel
theorem dX1_takeBack_9 : decode cX1_takeBack 9 = .ok (.dup, 1) := by decide +kernel
theorem dX1_takeBack_10 : decode cX1_takeBack 10 = .ok (.getfield 21, 3) := by decide +kernel
theorem dX1_takeBack_13 : decode cX1_takeBack 13 = .ok (.iconst 1, 1) := by decide +kernel
theorem dX1_takeBack_14 : decode cX1_takeBack 14 = .ok (.isub, 1) := by decide +kernel
theorem dX1_takeBack_15 : decode cX1_takeBack 15 = .ok (.putfield 21, 3) := by decide +kernel
theorem dX1_takeBack_18 : decode cX1_takeBack 18 = .ok (.aload_n 0, 1) := by decide +kernel
theorem dX1_takeBack_19 : decode cX1_takeBack 19 = .ok (.getfield 15, 3) := by decide +kernel
theorem dX1_takeBack_22 : decode cX1_takeBack 22 = .ok (.aload_n 0, 1) := by decide +kernel
theorem dX1_takeBack_23 : decode cX1_takeBack 23 = .ok (.getfield 21, 3) := by decide +kernel
theorem dX1_takeBack_26 : decode cX1_takeBack 26 = .ok (.iaload, 1) := by decide +kernel
theorem dX1_takeBack_27 : decode cX1_takeBack 27 = .ok (.istore_n 2, 1) := by decide +kernel
theorem dX1_takeBack_28 : decode cX1_takeBack 28 = .ok (.aload_n 1, 1) := by decide +kernel
theorem dX1_takeBack_29 : decode cX1_takeBack 29 = .ok (.iload_n 2, 1) := by decide +kernel
theorem dX1_takeBack_30 : decode cX1_takeBack 30 = .ok (.invokevirtual 28, 3) := by decide +kernel
theorem dX1_takeBack_33 : decode cX1_takeBack 33 = .ok (.ifCond .ne 4, 3) := by decide +kernel
theorem dX1_takeBack_36 : decode cX1_takeBack 36 = .ok (.return_, 1) := by decide +kernel
theorem dX1_takeBack_37 : decode cX1_takeBack 37 = .ok (.aload_n 0, 1) := by decide +kernel
theorem dX1_takeBack_38 : decode cX1_takeBack 38 = .ok (.getfield 9, 3) := by decide +kernel
theorem dX1_takeBack_41 : decode cX1_takeBack 41 = .ok (.aload_n 0, 1) := by decide +kernel
theorem dX1_takeBack_42 : decode cX1_takeBack 42 = .ok (.getfield 21, 3) := by decide +kernel
theorem dX1_takeBack_45 : decode cX1_takeBack 45 = .ok (.iaload, 1) := by decide +kernel
theorem dX1_takeBack_46 : decode cX1_takeBack 46 = .ok (.lookupswitch 65 #[(0, 26), (1, 47)], 26) := by decide +kernel
theorem dX1_takeBack_72 : decode cX1_takeBack 72 = .ok (.aload_n 1, 1) := by decide +kernel
theorem dX1_takeBack_73 : decode cX1_takeBack 73 = .ok (.aload_n 1, 1) := by decide +kernel
theorem dX1_takeBack_74 : decode cX1_takeBack 74 = .ok (.iload_n 2, 1) := by decide +kernel
theorem dX1_takeBack_75 : decode cX1_takeBack 75 = .ok (.invokevirtual 34, 3) := by decide +kernel
theorem dX1_takeBack_78 : decode cX1_takeBack 78 = .ok (.aload_n 0, 1) := by decide +kernel
theorem dX1_takeBack_79 : decode cX1_takeBack 79 = .ok (.getfield 18, 3) := by decide +kernel
theorem dX1_takeBack_82 : decode cX1_takeBack 82 = .ok (.aload_n 0, 1) := by decide +kernel
theorem dX1_takeBack_83 : decode cX1_takeBack 83 = .ok (.getfield 21, 3) := by decide +kernel
theorem dX1_takeBack_86 : decode cX1_takeBack 86 = .ok (.iaload, 1) := by decide +kernel
theorem dX1_takeBack_87 : decode cX1_takeBack 87 = .ok (.invokevirtual 38, 3) := by decide +kernel
theorem dX1_takeBack_90 : decode cX1_takeBack 90 = .ok (.goto 36, 3) := by decide +kernel
theorem dX1_takeBack_93 : decode cX1_takeBack 93 = .ok (.aload_n 1, 1) := by decide +kernel
theorem dX1_takeBack_94 : decode cX1_takeBack 94 = .ok (.getfield 42, 3) := by decide +kernel
theorem dX1_takeBack_97 : decode cX1_takeBack 97 = .ok (.iload_n 2, 1) := by decide +kernel
theorem dX1_takeBack_98 : decode cX1_takeBack 98 = .ok (.aload_n 0, 1) := by decide +kernel
theorem dX1_takeBack_99 : decode cX1_takeBack 99 = .ok (.getfield 18, 3) := by decide +kernel
theorem dX1_takeBack_102 : decode cX1_takeBack 102 = .ok (.aload_n 0, 1) := by decide +kernel
theorem dX1_takeBack_103 : decode cX1_takeBack 103 = .ok (.getfield 21, 3) := by decide +kernel
theorem dX1_takeBack_106 : decode cX1_takeBack 106 = .ok (.iaload, 1) := by decide +kernel
theorem dX1_takeBack_107 : decode cX1_takeBack 107 = .ok (.iastore, 1) := by decide +kernel
theorem dX1_takeBack_108 : decode cX1_takeBack 108 = .ok (.goto 18, 3) := by decide +kernel
theorem dX1_takeBack_111 : decode cX1_takeBack 111 = .ok (.aload_n 1, 1) := by decide +kernel
theorem dX1_takeBack_112 : decode cX1_takeBack 112 = .ok (.getfield 45, 3) := by decide +kernel
theorem dX1_takeBack_115 : decode cX1_takeBack 115 = .ok (.iload_n 2, 1) := by decide +kernel
theorem dX1_takeBack_116 : decode cX1_takeBack 116 = .ok (.aload_n 0, 1) := by decide +kernel
theorem dX1_takeBack_117 : decode cX1_takeBack 117 = .ok (.getfield 18, 3) := by decide +kernel
theorem dX1_takeBack_120 : decode cX1_takeBack 120 = .ok (.aload_n 0, 1) := by decide +kernel
theorem dX1_takeBack_121 : decode cX1_takeBack 121 = .ok (.getfield 21, 3) := by decide +kernel
theorem dX1_takeBack_124 : decode cX1_takeBack 124 = .ok (.iaload, 1) := by decide +kernel
theorem dX1_takeBack_125 : decode cX1_takeBack 125 = .ok (.iastore, 1) := by decide +kernel
theorem dX1_takeBack_126 : decode cX1_takeBack 126 = .ok (.return_, 1) := by decide +kernel
theorem dX2_init_0 : decode cX2_init 0 = .ok (.aload_n 0, 1) := by decide +kernel
theorem dX2_init_1 : decode cX2_init 1 = .ok (.invokespecial 3, 3) := by decide +kernel
theorem dX2_init_4 : decode cX2_init 4 = .ok (.aload_n 0, 1) := by decide +kernel
theorem dX2_init_5 : decode cX2_init 5 = .ok (.new 9, 3) := by decide +kernel
theorem dX2_init_8 : decode cX2_init 8 = .ok (.dup, 1) := by decide +kernel
theorem dX2_init_9 : decode cX2_init 9 = .ok (.invokespecial 11, 3) := by decide +kernel
theorem dX2_init_12 : decode cX2_init 12 = .ok (.putfield 12, 3) := by decide +kernel
theorem dX2_init_15 : decode cX2_init 15 = .ok (.aload_n 0, 1) := by decide +kernel
theorem dX2_init_16 : decode cX2_init 16 = .ok (.new 18, 3) := by decide +kernel
theorem dX2_init_19 : decode cX2_init 19 = .ok (.dup, 1) := by decide +kernel
theorem dX2_init_20 : decode cX2_init 20 = .ok (.invokespecial 20, 3) := by decide +kernel
theorem dX2_init_23 : decode cX2_init 23 = .ok (.putfield 21, 3) := by decide +kernel
theorem dX2_init_26 : decode cX2_init 26 = .ok (.aload_n 0, 1) := by decide +kernel
theorem dX2_init_27 : decode cX2_init 27 = .ok (.iconst 4, 1) := by decide +kernel
theorem dX2_init_28 : decode cX2_init 28 = .ok (.newarray .int, 2) := by decide +kernel
theorem dX2_init_30 : decode cX2_init 30 = .ok (.putfield 25, 3) := by decide +kernel
theorem dX2_init_33 : decode cX2_init 33 = .ok (.return_, 1) := by decide +kernel
theorem dX2_clear_0 : decode cX2_clear 0 = .ok (.aload_n 0, 1) := by decide +kernel
theorem dX2_clear_1 : decode cX2_clear 1 = .ok (.getfield 12, 3) := by decide +kernel
theorem dX2_clear_4 : decode cX2_clear 4 = .ok (.invokevirtual 29, 3) := by decide +kernel
theorem dX2_clear_7 : decode cX2_clear 7 = .ok (.aload_n 0, 1) := by decide +kernel
theorem dX2_clear_8 : decode cX2_clear 8 = .ok (.getfield 21, 3) := by decide +kernel
theorem dX2_clear_11 : decode cX2_clear 11 = .ok (.iconst 0, 1) := by decide +kernel
theorem dX2_clear_12 : decode cX2_clear 12 = .ok (.putfield 32, 3) := by decide +kernel
theorem dX2_clear_15 : decode cX2_clear 15 = .ok (.aload_n 0, 1) := by decide +kernel
theorem dX2_clear_16 : decode cX2_clear 16 = .ok (.iconst 0, 1) := by decide +kernel
theorem dX2_clear_17 : decode cX2_clear 17 = .ok (.putfield 36, 3) := by decide +kernel
theorem dX2_clear_20 : decode cX2_clear 20 = .ok (.aload_n 0, 1) := by decide +kernel
theorem dX2_clear_21 : decode cX2_clear 21 = .ok (.iconst 1, 1) := by decide +kernel
theorem dX2_clear_22 : decode cX2_clear 22 = .ok (.putfield 39, 3) := by decide +kernel
theorem dX2_clear_25 : decode cX2_clear 25 = .ok (.return_, 1) := by decide +kernel
theorem dX2_canOpen_0 : decode cX2_canOpen 0 = .ok (.aload_n 0, 1) := by decide +kernel
theorem dX2_canOpen_1 : decode cX2_canOpen 1 = .ok (.getfield 12, 3) := by decide +kernel
theorem dX2_canOpen_4 : decode cX2_canOpen 4 = .ok (.getfield 42, 3) := by decide +kernel
theorem dX2_canOpen_7 : decode cX2_canOpen 7 = .ok (.ifCond .le 17, 3) := by decide +kernel
theorem dX2_canOpen_10 : decode cX2_canOpen 10 = .ok (.aload_n 0, 1) := by decide +kernel
theorem dX2_canOpen_11 : decode cX2_canOpen 11 = .ok (.getfield 21, 3) := by decide +kernel
theorem dX2_canOpen_14 : decode cX2_canOpen 14 = .ok (.getfield 32, 3) := by decide +kernel
theorem dX2_canOpen_17 : decode cX2_canOpen 17 = .ok (.ifCond .le 7, 3) := by decide +kernel
theorem dX2_canOpen_20 : decode cX2_canOpen 20 = .ok (.iconst 1, 1) := by decide +kernel
theorem dX2_canOpen_21 : decode cX2_canOpen 21 = .ok (.goto 4, 3) := by decide +kernel
theorem dX2_canOpen_24 : decode cX2_canOpen 24 = .ok (.iconst 0, 1) := by decide +kernel
theorem dX2_canOpen_25 : decode cX2_canOpen 25 = .ok (.ireturn, 1) := by decide +kernel
theorem dX2_tell_0 : decode cX2_tell 0 = .ok (.iload_n 1, 1) := by decide +kernel
theorem dX2_tell_1 : decode cX2_tell 1 = .ok (.tableswitch 277 98 114 #[83, 277, 277, 277, 112, 154, 208, 277, 277, 232, 277, 277, 277, 277, 277, 277, 251], 83) := by decide +kernel
theorem dX2_tell_84 : decode cX2_tell 84 = .ok (.iload_n 2, 1) := by decide +kernel
theorem dX2_tell_85 : decode cX2_tell 85 = .ok (.iconst 1, 1) := by decide +kernel
theorem dX2_tell_86 : decode cX2_tell 86 = .ok (.if_icmp .ne 25, 3) := by decide +kernel
theorem dX2_tell_89 : decode cX2_tell 89 = .ok (.iload_n 3, 1) := by decide +kernel
theorem dX2_tell_90 : decode cX2_tell 90 = .ok (.invokestatic 43, 3) := by decide +kernel
theorem dX2_tell_93 : decode cX2_tell 93 = .ok (.ifCond .eq 18, 3) := by decide +kernel
theorem dX2_tell_96 : decode cX2_tell 96 = .ok (.aload_n 0, 1) := by decide +kernel
theorem dX2_tell_97 : decode cX2_tell 97 = .ok (.getfield 12, 3) := by decide +kernel
theorem dX2_tell_100 : decode cX2_tell 100 = .ok (.iload_n 3, 1) := by decide +kernel
theorem dX2_tell_101 : decode cX2_tell 101 = .ok (.invokevirtual 47, 3) := by decide +kernel
theorem dX2_tell_104 : decode cX2_tell 104 = .ok (.ifCond .eq 7, 3) := by decide +kernel
theorem dX2_tell_107 : decode cX2_tell 107 = .ok (.iconst 1, 1) := by decide +kernel
theorem dX2_tell_108 : decode cX2_tell 108 = .ok (.goto 4, 3) := by decide +kernel
theorem dX2_tell_111 : decode cX2_tell 111 = .ok (.iconst 0, 1) := by decide +kernel
theorem dX2_tell_112 : decode cX2_tell 112 = .ok (.ireturn, 1) := by decide +kernel
theorem dX2_tell_113 : decode cX2_tell 113 = .ok (.iload_n 2, 1) := by decide +kernel
theorem dX2_tell_114 : decode cX2_tell 114 = .ok (.iconst 2, 1) := by decide +kernel
theorem dX2_tell_115 : decode cX2_tell 115 = .ok (.if_icmp .ne 38, 3) := by decide +kernel
theorem dX2_tell_118 : decode cX2_tell 118 = .ok (.iload_n 3, 1) := by decide +kernel
theorem dX2_tell_119 : decode cX2_tell 119 = .ok (.invokestatic 50, 3) := by decide +kernel
theorem dX2_tell_122 : decode cX2_tell 122 = .ok (.ifCond .eq 31, 3) := by decide +kernel
theorem dX2_tell_125 : decode cX2_tell 125 = .ok (.iload 4, 2) := by decide +kernel
theorem dX2_tell_127 : decode cX2_tell 127 = .ok (.iconst 0, 1) := by decide +kernel
theorem dX2_tell_128 : decode cX2_tell 128 = .ok (.bipush 9, 2) := by decide +kernel
theorem dX2_tell_130 : decode cX2_tell 130 = .ok (.invokestatic 53, 3) := by decide +kernel
theorem dX2_tell_133 : decode cX2_tell 133 = .ok (.ifCond .eq 20, 3) := by decide +kernel
theorem dX2_tell_136 : decode cX2_tell 136 = .ok (.aload_n 0, 1) := by decide +kernel
theorem dX2_tell_137 : decode cX2_tell 137 = .ok (.getfield 12, 3) := by decide +kernel
theorem dX2_tell_140 : decode cX2_tell 140 = .ok (.iload_n 3, 1) := by decide +kernel
theorem dX2_tell_141 : decode cX2_tell 141 = .ok (.iload 4, 2) := by decide +kernel
theorem dX2_tell_143 : decode cX2_tell 143 = .ok (.invokevirtual 57, 3) := by decide +kernel
theorem dX2_tell_146 : decode cX2_tell 146 = .ok (.ifCond .eq 7, 3) := by decide +kernel
theorem dX2_tell_149 : decode cX2_tell 149 = .ok (.iconst 1, 1) := by decide +kernel
theorem dX2_tell_150 : decode cX2_tell 150 = .ok (.goto 4, 3) := by decide +kernel
theorem dX2_tell_153 : decode cX2_tell 153 = .ok (.iconst 0, 1) := by decide +kernel
theorem dX2_tell_154 : decode cX2_tell 154 = .ok (.ireturn, 1) := by decide +kernel
theorem dX2_tell_155 : decode cX2_tell 155 = .ok (.iload_n 2, 1) := by decide +kernel
theorem dX2_tell_156 : decode cX2_tell 156 = .ok (.iconst 3, 1) := by decide +kernel
theorem dX2_tell_157 : decode cX2_tell 157 = .ok (.if_icmp .ne 50, 3) := by decide +kernel
theorem dX2_tell_160 : decode cX2_tell 160 = .ok (.iload_n 3, 1) := by decide +kernel
theorem dX2_tell_161 : decode cX2_tell 161 = .ok (.invokestatic 43, 3) := by decide +kernel
theorem dX2_tell_164 : decode cX2_tell 164 = .ok (.ifCond .eq 43, 3) := by decide +kernel
theorem dX2_tell_167 : decode cX2_tell 167 = .ok (.iload 4, 2) := by decide +kernel
theorem dX2_tell_169 : decode cX2_tell 169 = .ok (.iconst 0, 1) := by decide +kernel
theorem dX2_tell_170 : decode cX2_tell 170 = .ok (.bipush 9, 2) := by decide +kernel
theorem dX2_tell_172 : decode cX2_tell 172 = .ok (.invokestatic 53, 3) := by decide +kernel
theorem dX2_tell_175 : decode cX2_tell 175 = .ok (.ifCond .eq 32, 3) := by decide +kernel
theorem dX2_tell_178 : decode cX2_tell 178 = .ok (.iload 5, 2) := by decide +kernel
theorem dX2_tell_180 : decode cX2_tell 180 = .ok (.iconst 0, 1) := by decide +kernel
theorem dX2_tell_181 : decode cX2_tell 181 = .ok (.iconst 4, 1) := by decide +kernel
theorem dX2_tell_182 : decode cX2_tell 182 = .ok (.invokestatic 53, 3) := by decide +kernel
theorem dX2_tell_185 : decode cX2_tell 185 = .ok (.ifCond .eq 22, 3) := by decide +kernel
theorem dX2_tell_188 : decode cX2_tell 188 = .ok (.aload_n 0, 1) := by decide +kernel
theorem dX2_tell_189 : decode cX2_tell 189 = .ok (.getfield 21, 3) := by decide +kernel
theorem dX2_tell_192 : decode cX2_tell 192 = .ok (.iload_n 3, 1) := by decide +kernel
theorem dX2_tell_193 : decode cX2_tell 193 = .ok (.iload 4, 2) := by decide +kernel
theorem dX2_tell_195 : decode cX2_tell 195 = .ok (.iload 5, 2) := by decide +kernel
theorem dX2_tell_197 : decode cX2_tell 197 = .ok (.invokevirtual 61, 3) := by decide +kernel
theorem dX2_tell_200 : decode cX2_tell 200 = .ok (.ifCond .eq 7, 3) := by decide +kernel
theorem dX2_tell_203 : decode cX2_tell 203 = .ok (.iconst 1, 1) := by decide +kernel
theorem dX2_tell_204 : decode cX2_tell 204 = .ok (.goto 4, 3) := by decide +kernel
theorem dX2_tell_207 : decode cX2_tell 207 = .ok (.iconst 0, 1) := by decide +kernel
theorem dX2_tell_208 : decode cX2_tell 208 = .ok (.ireturn, 1) := by decide +kernel
theorem dX2_tell_209 : decode cX2_tell 209 = .ok (.iload_n 2, 1) := by decide +kernel
theorem dX2_tell_210 : decode cX2_tell 210 = .ok (.iconst 2, 1) := by decide +kernel
theorem dX2_tell_211 : decode cX2_tell 211 = .ok (.if_icmp .ne 20, 3) := by decide +kernel
theorem dX2_tell_214 : decode cX2_tell 214 = .ok (.aload_n 0, 1) := by decide +kernel
theorem dX2_tell_215 : decode cX2_tell 215 = .ok (.getfield 21, 3) := by decide +kernel
theorem dX2_tell_218 : decode cX2_tell 218 = .ok (.iload_n 3, 1) := by decide +kernel
theorem dX2_tell_219 : decode cX2_tell 219 = .ok (.iload 4, 2) := by decide +kernel
theorem dX2_tell_221 : decode cX2_tell 221 = .ok (.invokevirtual 63, 3) := by decide +kernel
theorem dX2_tell_224 : decode cX2_tell 224 = .ok (.ifCond .eq 7, 3) := by decide +kernel
theorem dX2_tell_227 : decode cX2_tell 227 = .ok (.iconst 1, 1) := by decide +kernel
theorem dX2_tell_228 : decode cX2_tell 228 = .ok (.goto 4, 3) := by decide +kernel
theorem dX2_tell_231 : decode cX2_tell 231 = .ok (.iconst 0, 1) := by decide +kernel
theorem dX2_tell_232 : decode cX2_tell 232 = .ok (.ireturn, 1) := by decide +kernel
theorem dX2_tell_233 : decode cX2_tell 233 = .ok (.iload_n 2, 1) := by decide +kernel
theorem dX2_tell_234 : decode cX2_tell 234 = .ok (.iconst 1, 1) := by decide +kernel
theorem dX2_tell_235 : decode cX2_tell 235 = .ok (.if_icmp .ne 15, 3) := by decide +kernel
theorem dX2_tell_238 : decode cX2_tell 238 = .ok (.aload_n 0, 1) := by decide +kernel
theorem dX2_tell_239 : decode cX2_tell 239 = .ok (.iload_n 3, 1) := by decide +kernel
theorem dX2_tell_240 : decode cX2_tell 240 = .ok (.invokevirtual 66, 3) := by decide +kernel
theorem dX2_tell_243 : decode cX2_tell 243 = .ok (.ifCond .eq 7, 3) := by decide +kernel
theorem dX2_tell_246 : decode cX2_tell 246 = .ok (.iconst 1, 1) := by decide +kernel
theorem dX2_tell_247 : decode cX2_tell 247 = .ok (.goto 4, 3) := by decide +kernel
theorem dX2_tell_250 : decode cX2_tell 250 = .ok (.iconst 0, 1) := by decide +kernel
theorem dX2_tell_251 : decode cX2_tell 251 = .ok (.ireturn, 1) := by decide +kernel
theorem dX2_tell_252 : decode cX2_tell 252 = .ok (.iload_n 2, 1) := by decide +kernel
theorem dX2_tell_253 : decode cX2_tell 253 = .ok (.iconst 1, 1) := by decide +kernel
theorem dX2_tell_254 : decode cX2_tell 254 = .ok (.if_icmp .ne 22, 3) := by decide +kernel
theorem dX2_tell_257 : decode cX2_tell 257 = .ok (.iload_n 3, 1) := by decide +kernel
theorem dX2_tell_258 : decode cX2_tell 258 = .ok (.invokestatic 43, 3) := by decide +kernel
theorem dX2_tell_261 : decode cX2_tell 261 = .ok (.ifCond .eq 15, 3) := by decide +kernel
theorem dX2_tell_264 : decode cX2_tell 264 = .ok (.aload_n 0, 1) := by decide +kernel
theorem dX2_tell_265 : decode cX2_tell 265 = .ok (.iload_n 3, 1) := by decide +kernel
theorem dX2_tell_266 : decode cX2_tell 266 = .ok (.invokevirtual 69, 3) := by decide +kernel
theorem dX2_tell_269 : decode cX2_tell 269 = .ok (.ifCond .eq 7, 3) := by decide +kernel
theorem dX2_tell_272 : decode cX2_tell 272 = .ok (.iconst 1, 1) := by decide +kernel
theorem dX2_tell_273 : decode cX2_tell 273 = .ok (.goto 4, 3) := by decide +kernel
theorem dX2_tell_276 : decode cX2_tell 276 = .ok (.iconst 0, 1) := by decide +kernel
theorem dX2_tell_277 : decode cX2_tell 277 = .ok (.ireturn, 1) := by decide +kernel
theorem dX2_tell_278 : decode cX2_tell 278 = .ok (.iconst 0, 1) := by decide +kernel
theorem dX2_tell_279 : decode cX2_tell 279 = .ok (.ireturn, 1) := by decide +kernel
theorem dX2_enact_0 : decode cX2_enact 0 = .ok (.iload_n 1, 1) := by decide +kernel
theorem dX2_enact_1 : decode cX2_enact 1 = .ok (.iconst 0, 1) := by decide +kernel
theorem dX2_enact_2 : decode cX2_enact 2 = .ok (.iconst 2, 1) := by decide +kernel
theorem dX2_enact_3 : decode cX2_enact 3 = .ok (.invokestatic 53, 3) := by decide +kernel
theorem dX2_enact_6 : decode cX2_enact 6 = .ok (.ifCond .ne 5, 3) := by decide +kernel
theorem dX2_enact_9 : decode cX2_enact 9 = .ok (.iconst 0, 1) := by decide +kernel
theorem dX2_enact_10 : decode cX2_enact 10 = .ok (.ireturn, 1) := by decide +kernel
theorem dX2_enact_11 : decode cX2_enact 11 = .ok (.aload_n 0, 1) := by decide +kernel
theorem dX2_enact_12 : decode cX2_enact 12 = .ok (.iload_n 1, 1) := by decide +kernel
theorem dX2_enact_13 : decode cX2_enact 13 = .ok (.putfield 39, 3) := by decide +kernel
theorem dX2_enact_16 : decode cX2_enact 16 = .ok (.iconst 1, 1) := by decide +kernel
theorem dX2_enact_17 : decode cX2_enact 17 = .ok (.ireturn, 1) := by decide +kernel
theorem dX2_addRival_0 : decode cX2_addRival 0 = .ok (.aload_n 0, 1) := by decide +kernel
theorem dX2_addRival_1 : decode cX2_addRival 1 = .ok (.getfield 36, 3) := by decide +kernel
theorem dX2_addRival_4 : decode cX2_addRival 4 = .ok (.iconst 4, 1) := by decide +kernel
theorem dX2_addRival_5 : decode cX2_addRival 5 = .ok (.if_icmp .lt 5, 3) := by decide +kernel
theorem dX2_addRival_8 : decode cX2_addRival 8 = .ok (.iconst 0, 1) := by decide +kernel
theorem dX2_addRival_9 : decode cX2_addRival 9 = .ok (.ireturn, 1) := by decide +kernel
theorem dX2_addRival_10 : decode cX2_addRival 10 = .ok (.aload_n 0, 1) := by decide +kernel
theorem dX2_addRival_11 : decode cX2_addRival 11 = .ok (.getfield 25, 3) := by decide +kernel
theorem dX2_addRival_14 : decode cX2_addRival 14 = .ok (.aload_n 0, 1) := by decide +kernel
theorem dX2_addRival_15 : decode cX2_addRival 15 = .ok (.getfield 36, 3) := by decide +kernel
theorem dX2_addRival_18 : decode cX2_addRival 18 = .ok (.iload_n 1, 1) := by decide +kernel
theorem dX2_addRival_19 : decode cX2_addRival 19 = .ok (.iastore, 1) := by decide +kernel
theorem dX2_addRival_20 : decode cX2_addRival 20 = .ok (.aload_n 0, 1) := by decide +kernel
theorem dX2_addRival_21 : decode cX2_addRival 21 = .ok (.dup, 1) := by decide +kernel
theorem dX2_addRival_22 : decode cX2_addRival 22 = .ok (.getfield 36, 3) := by decide +kernel
theorem dX2_addRival_25 : decode cX2_addRival 25 = .ok (.iconst 1, 1) := by decide +kernel
theorem dX2_addRival_26 : decode cX2_addRival 26 = .ok (.iadd, 1) := by decide +kernel
theorem dX2_addRival_27 : decode cX2_addRival 27 = .ok (.putfield 36, 3) := by decide +kernel
theorem dX2_addRival_30 : decode cX2_addRival 30 = .ok (.iconst 1, 1) := by decide +kernel
theorem dX2_addRival_31 : decode cX2_addRival 31 = .ok (.ireturn, 1) := by decide +kernel
theorem dX2_namable_0 : decode cX2_namable 0 = .ok (.aload_n 0, 1) := by decide +kernel
theorem dX2_namable_1 : decode cX2_namable 1 = .ok (.getfield 39, 3) := by decide +kernel
theorem dX2_namable_4 : decode cX2_namable 4 = .ok (.iconst 2, 1) := by decide +kernel
theorem dX2_namable_5 : decode cX2_namable 5 = .ok (.if_icmp .ne 9, 3) := by decide +kernel
theorem dX2_namable_8 : decode cX2_namable 8 = .ok (.iconst 1, 1) := by decide +kernel
theorem dX2_namable_9 : decode cX2_namable 9 = .ok (.iload_n 1, 1) := by decide +kernel
theorem dX2_namable_10 : decode cX2_namable 10 = .ok (.ishl, 1) := by decide +kernel
theorem dX2_namable_11 : decode cX2_namable 11 = .ok (.iconst (-1), 1) := by decide +kernel
theorem dX2_namable_12 : decode cX2_namable 12 = .ok (.ixor, 1) := by decide +kernel
theorem dX2_namable_13 : decode cX2_namable 13 = .ok (.ireturn, 1) := by decide +kernel
theorem dX2_namable_14 : decode cX2_namable 14 = .ok (.aload_n 0, 1) := by decide +kernel
theorem dX2_namable_15 : decode cX2_namable 15 = .ok (.getfield 39, 3) := by decide +kernel
theorem dX2_namable_18 : decode cX2_namable 18 = .ok (.iconst 1, 1) := by decide +kernel
theorem dX2_namable_19 : decode cX2_namable 19 = .ok (.if_icmp .ne 26, 3) := by decide +kernel
theorem dX2_namable_22 : decode cX2_namable 22 = .ok (.aload_n 0, 1) := by decide +kernel
theorem dX2_namable_23 : decode cX2_namable 23 = .ok (.getfield 21, 3) := by decide +kernel
theorem dX2_namable_26 : decode cX2_namable 26 = .ok (.iload_n 1, 1) := by decide +kernel
theorem dX2_namable_27 : decode cX2_namable 27 = .ok (.invokevirtual 72, 3) := by decide +kernel
theorem dX2_namable_30 : decode cX2_namable 30 = .ok (.ifCond .eq 15, 3) := by decide +kernel
theorem dX2_namable_33 : decode cX2_namable 33 = .ok (.aload_n 0, 1) := by decide +kernel
theorem dX2_namable_34 : decode cX2_namable 34 = .ok (.getfield 21, 3) := by decide +kernel
theorem dX2_namable_37 : decode cX2_namable 37 = .ok (.getfield 75, 3) := by decide +kernel
theorem dX2_namable_40 : decode cX2_namable 40 = .ok (.iload_n 1, 1) := by decide +kernel
theorem dX2_namable_41 : decode cX2_namable 41 = .ok (.iaload, 1) := by decide +kernel
theorem dX2_namable_42 : decode cX2_namable 42 = .ok (.goto 4, 3) := by decide +kernel
theorem dX2_namable_45 : decode cX2_namable 45 = .ok (.iconst 0, 1) := by decide +kernel
theorem dX2_namable_46 : decode cX2_namable 46 = .ok (.ireturn, 1) := by decide +kernel
theorem dX2_leastAtRival_0 : decode cX2_leastAtRival 0 = .ok (.ldc 78, 2) := by decide +kernel
theorem dX2_leastAtRival_2 : decode cX2_leastAtRival 2 = .ok (.istore_n 2, 1) := by decide +kernel
theorem dX2_leastAtRival_3 : decode cX2_leastAtRival 3 = .ok (.aload_n 0, 1) := by decide +kernel
theorem dX2_leastAtRival_4 : decode cX2_leastAtRival 4 = .ok (.getfield 21, 3) := by decide +kernel
theorem dX2_leastAtRival_7 : decode cX2_leastAtRival 7 = .ok (.iload_n 1, 1) := by decide +kernel
theorem dX2_leastAtRival_8 : decode cX2_leastAtRival 8 = .ok (.invokevirtual 72, 3) := by decide +kernel
theorem dX2_leastAtRival_11 : decode cX2_leastAtRival 11 = .ok (.ifCond .eq 15, 3) := by decide +kernel
theorem dX2_leastAtRival_14 : decode cX2_leastAtRival 14 = .ok (.aload_n 0, 1) := by decide +kernel
theorem dX2_leastAtRival_15 : decode cX2_leastAtRival 15 = .ok (.getfield 21, 3) := by decide +kernel
theorem dX2_leastAtRival_18 : decode cX2_leastAtRival 18 = .ok (.getfield 79, 3) := by decide +kernel
theorem dX2_leastAtRival_21 : decode cX2_leastAtRival 21 = .ok (.iload_n 1, 1) := by decide +kernel
theorem dX2_leastAtRival_22 : decode cX2_leastAtRival 22 = .ok (.iaload, 1) := by decide +kernel
theorem dX2_leastAtRival_23 : decode cX2_leastAtRival 23 = .ok (.goto 4, 3) := by decide +kernel
theorem dX2_leastAtRival_26 : decode cX2_leastAtRival 26 = .ok (.iconst 0, 1) := by decide +kernel
theorem dX2_leastAtRival_27 : decode cX2_leastAtRival 27 = .ok (.istore_n 3, 1) := by decide +kernel
theorem dX2_leastAtRival_28 : decode cX2_leastAtRival 28 = .ok (.iconst 0, 1) := by decide +kernel
theorem dX2_leastAtRival_29 : decode cX2_leastAtRival 29 = .ok (.istore 4, 2) := by decide +kernel
theorem dX2_leastAtRival_31 : decode cX2_leastAtRival 31 = .ok (.iload 4, 2) := by decide +kernel
theorem dX2_leastAtRival_33 : decode cX2_leastAtRival 33 = .ok (.aload_n 0, 1) := by decide +kernel
theorem dX2_leastAtRival_34 : decode cX2_leastAtRival 34 = .ok (.getfield 36, 3) := by decide +kernel
theorem dX2_leastAtRival_37 : decode cX2_leastAtRival 37 = .ok (.if_icmp .ge 30, 3) := by decide +kernel
theorem dX2_leastAtRival_40 : decode cX2_leastAtRival 40 = .ok (.iload_n 2, 1) := by decide +kernel
theorem dX2_leastAtRival_41 : decode cX2_leastAtRival 41 = .ok (.aload_n 0, 1) := by decide +kernel
theorem dX2_leastAtRival_42 : decode cX2_leastAtRival 42 = .ok (.getfield 21, 3) := by decide +kernel
theorem dX2_leastAtRival_45 : decode cX2_leastAtRival 45 = .ok (.iload_n 1, 1) := by decide +kernel
theorem dX2_leastAtRival_46 : decode cX2_leastAtRival 46 = .ok (.iload_n 3, 1) := by decide +kernel
theorem dX2_leastAtRival_47 : decode cX2_leastAtRival 47 = .ok (.aload_n 0, 1) := by decide +kernel
theorem dX2_leastAtRival_48 : decode cX2_leastAtRival 48 = .ok (.getfield 25, 3) := by decide +kernel
theorem dX2_leastAtRival_51 : decode cX2_leastAtRival 51 = .ok (.iload 4, 2) := by decide +kernel
theorem dX2_leastAtRival_53 : decode cX2_leastAtRival 53 = .ok (.iaload, 1) := by decide +kernel
theorem dX2_leastAtRival_54 : decode cX2_leastAtRival 54 = .ok (.invokevirtual 82, 3) := by decide +kernel
theorem dX2_leastAtRival_57 : decode cX2_leastAtRival 57 = .ok (.invokestatic 86, 3) := by decide +kernel
theorem dX2_leastAtRival_60 : decode cX2_leastAtRival 60 = .ok (.istore_n 2, 1) := by decide +kernel
theorem dX2_leastAtRival_61 : decode cX2_leastAtRival 61 = .ok (.iinc 4 1, 3) := by decide +kernel
theorem dX2_leastAtRival_64 : decode cX2_leastAtRival 64 = .ok (.goto (-33), 3) := by decide +kernel
theorem dX2_leastAtRival_67 : decode cX2_leastAtRival 67 = .ok (.iload_n 2, 1) := by decide +kernel
theorem dX2_leastAtRival_68 : decode cX2_leastAtRival 68 = .ok (.ireturn, 1) := by decide +kernel
theorem dX3_init_0 : decode cX3_init 0 = .ok (.aload_n 0, 1) := by decide +kernel
theorem dX3_init_1 : decode cX3_init 1 = .ok (.invokespecial 3, 3) := by decide +kernel
theorem dX3_init_4 : decode cX3_init 4 = .ok (.aload_n 0, 1) := by decide +kernel
theorem dX3_init_5 : decode cX3_init 5 = .ok (.bipush 7, 2) := by decide +kernel
theorem dX3_init_7 : decode cX3_init 7 = .ok (.newarray .int, 2) := by decide +kernel
theorem dX3_init_9 : decode cX3_init 9 = .ok (.putfield 9, 3) := by decide +kernel
theorem dX3_init_12 : decode cX3_init 12 = .ok (.aload_n 0, 1) := by decide +kernel
theorem dX3_init_13 : decode cX3_init 13 = .ok (.bipush 7, 2) := by decide +kernel
theorem dX3_init_15 : decode cX3_init 15 = .ok (.newarray .int, 2) := by decide +kernel
theorem dX3_init_17 : decode cX3_init 17 = .ok (.putfield 15, 3) := by decide +kernel
theorem dX3_init_20 : decode cX3_init 20 = .ok (.aload_n 0, 1) := by decide +kernel
theorem dX3_init_21 : decode cX3_init 21 = .ok (.bipush 7, 2) := by decide +kernel
theorem dX3_init_23 : decode cX3_init 23 = .ok (.newarray .int, 2) := by decide +kernel
theorem dX3_init_25 : decode cX3_init 25 = .ok (.putfield 18, 3) := by decide +kernel
theorem dX3_init_28 : decode cX3_init 28 = .ok (.aload_n 0, 1) := by decide +kernel
theorem dX3_init_29 : decode cX3_init 29 = .ok (.bipush 7, 2) := by decide +kernel
theorem dX3_init_31 : decode cX3_init 31 = .ok (.newarray .int, 2) := by decide +kernel
theorem dX3_init_33 : decode cX3_init 33 = .ok (.putfield 21, 3) := by decide +kernel
theorem dX3_init_36 : decode cX3_init 36 = .ok (.aload_n 0, 1) := by decide +kernel
theorem dX3_init_37 : decode cX3_init 37 = .ok (.bipush 7, 2) := by decide +kernel
theorem dX3_init_39 : decode cX3_init 39 = .ok (.newarray .int, 2) := by decide +kernel
theorem dX3_init_41 : decode cX3_init 41 = .ok (.putfield 24, 3) := by decide +kernel
theorem dX3_init_44 : decode cX3_init 44 = .ok (.return_, 1) := by decide +kernel
theorem dX3_pass_0 : decode cX3_pass 0 = .ok (.aload_n 0, 1) := by decide +kernel
theorem dX3_pass_1 : decode cX3_pass 1 = .ok (.iconst 0, 1) := by decide +kernel
theorem dX3_pass_2 : decode cX3_pass 2 = .ok (.putfield 27, 3) := by decide +kernel
theorem dX3_pass_5 : decode cX3_pass 5 = .ok (.aload_n 0, 1) := by decide +kernel
theorem dX3_pass_6 : decode cX3_pass 6 = .ok (.iconst 0, 1) := by decide +kernel
theorem dX3_pass_7 : decode cX3_pass 7 = .ok (.putfield 31, 3) := by decide +kernel
theorem dX3_pass_10 : decode cX3_pass 10 = .ok (.aload_n 0, 1) := by decide +kernel
theorem dX3_pass_11 : decode cX3_pass 11 = .ok (.iconst 0, 1) := by decide +kernel
theorem dX3_pass_12 : decode cX3_pass 12 = .ok (.putfield 34, 3) := by decide +kernel
theorem dX3_pass_15 : decode cX3_pass 15 = .ok (.iconst 0, 1) := by decide +kernel
theorem dX3_pass_16 : decode cX3_pass 16 = .ok (.istore_n 3, 1) := by decide +kernel
theorem dX3_pass_17 : decode cX3_pass 17 = .ok (.iload_n 3, 1) := by decide +kernel
theorem dX3_pass_18 : decode cX3_pass 18 = .ok (.bipush 7, 2) := by decide +kernel
theorem dX3_pass_20 : decode cX3_pass 20 = .ok (.if_icmp .ge 16, 3) := by decide +kernel
theorem dX3_pass_23 : decode cX3_pass 23 = .ok (.aload_n 0, 1) := by decide +kernel
theorem dX3_pass_24 : decode cX3_pass 24 = .ok (.getfield 24, 3) := by decide +kernel
theorem dX3_pass_27 : decode cX3_pass 27 = .ok (.iload_n 3, 1) := by decide +kernel
theorem dX3_pass_28 : decode cX3_pass 28 = .ok (.iconst 0, 1) := by decide +kernel
theorem dX3_pass_29 : decode cX3_pass 29 = .ok (.iastore, 1) := by decide +kernel
theorem dX3_pass_30 : decode cX3_pass 30 = .ok (.iinc 3 1, 3) := by decide +kernel
theorem dX3_pass_33 : decode cX3_pass 33 = .ok (.goto (-16), 3) := by decide +kernel
theorem dX3_pass_36 : decode cX3_pass 36 = .ok (.aload_n 1, 1) := by decide +kernel
theorem dX3_pass_37 : decode cX3_pass 37 = .ok (.getfield 37, 3) := by decide +kernel
theorem dX3_pass_40 : decode cX3_pass 40 = .ok (.invokevirtual 43, 3) := by decide +kernel
theorem dX3_pass_43 : decode cX3_pass 43 = .ok (.istore_n 3, 1) := by decide +kernel
theorem dX3_pass_44 : decode cX3_pass 44 = .ok (.iconst 0, 1) := by decide +kernel
theorem dX3_pass_45 : decode cX3_pass 45 = .ok (.istore 4, 2) := by decide +kernel
theorem dX3_pass_47 : decode cX3_pass 47 = .ok (.iload 4, 2) := by decide +kernel
theorem dX3_pass_49 : decode cX3_pass 49 = .ok (.bipush 30, 2) := by decide +kernel
theorem dX3_pass_51 : decode cX3_pass 51 = .ok (.if_icmp .ge 32, 3) := by decide +kernel
theorem dX3_pass_54 : decode cX3_pass 54 = .ok (.aload_n 0, 1) := by decide +kernel
theorem dX3_pass_55 : decode cX3_pass 55 = .ok (.getfield 27, 3) := by decide +kernel
theorem dX3_pass_58 : decode cX3_pass 58 = .ok (.iload_n 3, 1) := by decide +kernel
theorem dX3_pass_59 : decode cX3_pass 59 = .ok (.if_icmp .eq 24, 3) := by decide +kernel
theorem dX3_pass_62 : decode cX3_pass 62 = .ok (.aload_n 0, 1) := by decide +kernel
theorem dX3_pass_63 : decode cX3_pass 63 = .ok (.getfield 31, 3) := by decide +kernel
theorem dX3_pass_66 : decode cX3_pass 66 = .ok (.iload_n 2, 1) := by decide +kernel
theorem dX3_pass_67 : decode cX3_pass 67 = .ok (.if_icmp .ge 16, 3) := by decide +kernel
theorem dX3_pass_70 : decode cX3_pass 70 = .ok (.aload_n 0, 1) := by decide +kernel
theorem dX3_pass_71 : decode cX3_pass 71 = .ok (.aload_n 1, 1) := by decide +kernel
theorem dX3_pass_72 : decode cX3_pass 72 = .ok (.iload 4, 2) := by decide +kernel
theorem dX3_pass_74 : decode cX3_pass 74 = .ok (.invokevirtual 49, 3) := by decide +kernel
theorem dX3_pass_77 : decode cX3_pass 77 = .ok (.iinc 4 1, 3) := by decide +kernel
theorem dX3_pass_80 : decode cX3_pass 80 = .ok (.goto (-33), 3) := by decide +kernel
theorem dX3_pass_83 : decode cX3_pass 83 = .ok (.return_, 1) := by decide +kernel
theorem dX3_fillBeds_0 : decode cX3_fillBeds 0 = .ok (.aload_n 1, 1) := by decide +kernel
theorem dX3_fillBeds_1 : decode cX3_fillBeds 1 = .ok (.getfield 37, 3) := by decide +kernel
theorem dX3_fillBeds_4 : decode cX3_fillBeds 4 = .ok (.iload_n 2, 1) := by decide +kernel
theorem dX3_fillBeds_5 : decode cX3_fillBeds 5 = .ok (.invokevirtual 53, 3) := by decide +kernel
theorem dX3_fillBeds_8 : decode cX3_fillBeds 8 = .ok (.aload_n 0, 1) := by decide +kernel
theorem dX3_fillBeds_9 : decode cX3_fillBeds 9 = .ok (.getfield 27, 3) := by decide +kernel
theorem dX3_fillBeds_12 : decode cX3_fillBeds 12 = .ok (.iconst (-1), 1) := by decide +kernel
theorem dX3_fillBeds_13 : decode cX3_fillBeds 13 = .ok (.ixor, 1) := by decide +kernel
theorem dX3_fillBeds_14 : decode cX3_fillBeds 14 = .ok (.iand, 1) := by decide +kernel
theorem dX3_fillBeds_15 : decode cX3_fillBeds 15 = .ok (.istore_n 3, 1) := by decide +kernel
theorem dX3_fillBeds_16 : decode cX3_fillBeds 16 = .ok (.iconst 0, 1) := by decide +kernel
theorem dX3_fillBeds_17 : decode cX3_fillBeds 17 = .ok (.istore 4, 2) := by decide +kernel
theorem dX3_fillBeds_19 : decode cX3_fillBeds 19 = .ok (.iload 4, 2) := by decide +kernel
theorem dX3_fillBeds_21 : decode cX3_fillBeds 21 = .ok (.aload_n 1, 1) := by decide +kernel
theorem dX3_fillBeds_22 : decode cX3_fillBeds 22 = .ok (.getfield 57, 3) := by decide +kernel
theorem dX3_fillBeds_25 : decode cX3_fillBeds 25 = .ok (.getfield 61, 3) := by decide +kernel
theorem dX3_fillBeds_28 : decode cX3_fillBeds 28 = .ok (.if_icmp .ge 157, 3) := by decide +kernel
theorem dX3_fillBeds_31 : decode cX3_fillBeds 31 = .ok (.iload_n 3, 1) := by decide +kernel
theorem dX3_fillBeds_32 : decode cX3_fillBeds 32 = .ok (.ifCond .eq 153, 3) := by decide +kernel
theorem dX3_fillBeds_35 : decode cX3_fillBeds 35 = .ok (.aload_n 0, 1) := by decide +kernel
theorem dX3_fillBeds_36 : decode cX3_fillBeds 36 = .ok (.aload_n 1, 1) := by decide +kernel
theorem dX3_fillBeds_37 : decode cX3_fillBeds 37 = .ok (.getfield 37, 3) := by decide +kernel
theorem dX3_fillBeds_40 : decode cX3_fillBeds 40 = .ok (.iload_n 3, 1) := by decide +kernel
theorem dX3_fillBeds_41 : decode cX3_fillBeds 41 = .ok (.invokevirtual 66, 3) := by decide +kernel
theorem dX3_fillBeds_44 : decode cX3_fillBeds 44 = .ok (.istore 5, 2) := by decide +kernel
theorem dX3_fillBeds_46 : decode cX3_fillBeds 46 = .ok (.aload_n 1, 1) := by decide +kernel
theorem dX3_fillBeds_47 : decode cX3_fillBeds 47 = .ok (.getfield 57, 3) := by decide +kernel
theorem dX3_fillBeds_50 : decode cX3_fillBeds 50 = .ok (.iload 4, 2) := by decide +kernel
theorem dX3_fillBeds_52 : decode cX3_fillBeds 52 = .ok (.iload_n 2, 1) := by decide +kernel
theorem dX3_fillBeds_53 : decode cX3_fillBeds 53 = .ok (.invokevirtual 70, 3) := by decide +kernel
theorem dX3_fillBeds_56 : decode cX3_fillBeds 56 = .ok (.istore 6, 2) := by decide +kernel
theorem dX3_fillBeds_58 : decode cX3_fillBeds 58 = .ok (.aload_n 0, 1) := by decide +kernel
theorem dX3_fillBeds_59 : decode cX3_fillBeds 59 = .ok (.aload_n 1, 1) := by decide +kernel
theorem dX3_fillBeds_60 : decode cX3_fillBeds 60 = .ok (.iload 5, 2) := by decide +kernel
theorem dX3_fillBeds_62 : decode cX3_fillBeds 62 = .ok (.iload_n 3, 1) := by decide +kernel
theorem dX3_fillBeds_63 : decode cX3_fillBeds 63 = .ok (.iload_n 2, 1) := by decide +kernel
theorem dX3_fillBeds_64 : decode cX3_fillBeds 64 = .ok (.iload 6, 2) := by decide +kernel
theorem dX3_fillBeds_66 : decode cX3_fillBeds 66 = .ok (.invokevirtual 74, 3) := by decide +kernel
theorem dX3_fillBeds_69 : decode cX3_fillBeds 69 = .ok (.istore 7, 2) := by decide +kernel
theorem dX3_fillBeds_71 : decode cX3_fillBeds 71 = .ok (.aload_n 1, 1) := by decide +kernel
theorem dX3_fillBeds_72 : decode cX3_fillBeds 72 = .ok (.getfield 37, 3) := by decide +kernel
theorem dX3_fillBeds_75 : decode cX3_fillBeds 75 = .ok (.iload 7, 2) := by decide +kernel
theorem dX3_fillBeds_77 : decode cX3_fillBeds 77 = .ok (.invokevirtual 78, 3) := by decide +kernel
theorem dX3_fillBeds_80 : decode cX3_fillBeds 80 = .ok (.ifCond .ne 4, 3) := by decide +kernel
theorem dX3_fillBeds_83 : decode cX3_fillBeds 83 = .ok (.return_, 1) := by decide +kernel
theorem dX3_fillBeds_84 : decode cX3_fillBeds 84 = .ok (.aload_n 0, 1) := by decide +kernel
theorem dX3_fillBeds_85 : decode cX3_fillBeds 85 = .ok (.getfield 9, 3) := by decide +kernel
theorem dX3_fillBeds_88 : decode cX3_fillBeds 88 = .ok (.iload 7, 2) := by decide +kernel
theorem dX3_fillBeds_90 : decode cX3_fillBeds 90 = .ok (.iload_n 2, 1) := by decide +kernel
theorem dX3_fillBeds_91 : decode cX3_fillBeds 91 = .ok (.iastore, 1) := by decide +kernel
theorem dX3_fillBeds_92 : decode cX3_fillBeds 92 = .ok (.aload_n 0, 1) := by decide +kernel
theorem dX3_fillBeds_93 : decode cX3_fillBeds 93 = .ok (.getfield 15, 3) := by decide +kernel
theorem dX3_fillBeds_96 : decode cX3_fillBeds 96 = .ok (.iload 7, 2) := by decide +kernel
theorem dX3_fillBeds_98 : decode cX3_fillBeds 98 = .ok (.iload 4, 2) := by decide +kernel
theorem dX3_fillBeds_100 : decode cX3_fillBeds 100 = .ok (.iastore, 1) := by decide +kernel
theorem dX3_fillBeds_101 : decode cX3_fillBeds 101 = .ok (.aload_n 0, 1) := by decide +kernel
theorem dX3_fillBeds_102 : decode cX3_fillBeds 102 = .ok (.getfield 18, 3) := by decide +kernel
theorem dX3_fillBeds_105 : decode cX3_fillBeds 105 = .ok (.iload 7, 2) := by decide +kernel
theorem dX3_fillBeds_107 : decode cX3_fillBeds 107 = .ok (.aload_n 1, 1) := by decide +kernel
theorem dX3_fillBeds_108 : decode cX3_fillBeds 108 = .ok (.getfield 37, 3) := by decide +kernel
theorem dX3_fillBeds_111 : decode cX3_fillBeds 111 = .ok (.iload 7, 2) := by decide +kernel
theorem dX3_fillBeds_113 : decode cX3_fillBeds 113 = .ok (.iload_n 2, 1) := by decide +kernel
theorem dX3_fillBeds_114 : decode cX3_fillBeds 114 = .ok (.iload 6, 2) := by decide +kernel
theorem dX3_fillBeds_116 : decode cX3_fillBeds 116 = .ok (.invokevirtual 82, 3) := by decide +kernel
theorem dX3_fillBeds_119 : decode cX3_fillBeds 119 = .ok (.iastore, 1) := by decide +kernel
theorem dX3_fillBeds_120 : decode cX3_fillBeds 120 = .ok (.aload_n 0, 1) := by decide +kernel
theorem dX3_fillBeds_121 : decode cX3_fillBeds 121 = .ok (.getfield 21, 3) := by decide +kernel
theorem dX3_fillBeds_124 : decode cX3_fillBeds 124 = .ok (.iload 7, 2) := by decide +kernel
theorem dX3_fillBeds_126 : decode cX3_fillBeds 126 = .ok (.iload 7, 2) := by decide +kernel
theorem dX3_fillBeds_128 : decode cX3_fillBeds 128 = .ok (.iload 5, 2) := by decide +kernel
theorem dX3_fillBeds_130 : decode cX3_fillBeds 130 = .ok (.if_icmp .ne 8, 3) := by decide +kernel
theorem dX3_fillBeds_133 : decode cX3_fillBeds 133 = .ok (.bipush (-4), 2) := by decide +kernel
theorem dX3_fillBeds_135 : decode cX3_fillBeds 135 = .ok (.goto 5, 3) := by decide +kernel
theorem dX3_fillBeds_138 : decode cX3_fillBeds 138 = .ok (.iload 5, 2) := by decide +kernel
theorem dX3_fillBeds_140 : decode cX3_fillBeds 140 = .ok (.iastore, 1) := by decide +kernel
theorem dX3_fillBeds_141 : decode cX3_fillBeds 141 = .ok (.aload_n 0, 1) := by decide +kernel
theorem dX3_fillBeds_142 : decode cX3_fillBeds 142 = .ok (.dup, 1) := by decide +kernel
theorem dX3_fillBeds_143 : decode cX3_fillBeds 143 = .ok (.getfield 31, 3) := by decide +kernel
theorem dX3_fillBeds_146 : decode cX3_fillBeds 146 = .ok (.aload_n 0, 1) := by decide +kernel
theorem dX3_fillBeds_147 : decode cX3_fillBeds 147 = .ok (.getfield 18, 3) := by decide +kernel
theorem dX3_fillBeds_150 : decode cX3_fillBeds 150 = .ok (.iload 7, 2) := by decide +kernel
theorem dX3_fillBeds_152 : decode cX3_fillBeds 152 = .ok (.iaload, 1) := by decide +kernel
theorem dX3_fillBeds_153 : decode cX3_fillBeds 153 = .ok (.iadd, 1) := by decide +kernel
theorem dX3_fillBeds_154 : decode cX3_fillBeds 154 = .ok (.putfield 31, 3) := by decide +kernel
theorem dX3_fillBeds_157 : decode cX3_fillBeds 157 = .ok (.aload_n 0, 1) := by decide +kernel
theorem dX3_fillBeds_158 : decode cX3_fillBeds 158 = .ok (.dup, 1) := by decide +kernel
theorem dX3_fillBeds_159 : decode cX3_fillBeds 159 = .ok (.getfield 27, 3) := by decide +kernel
theorem dX3_fillBeds_162 : decode cX3_fillBeds 162 = .ok (.iconst 1, 1) := by decide +kernel
theorem dX3_fillBeds_163 : decode cX3_fillBeds 163 = .ok (.iload 7, 2) := by decide +kernel
theorem dX3_fillBeds_165 : decode cX3_fillBeds 165 = .ok (.ishl, 1) := by decide +kernel
theorem dX3_fillBeds_166 : decode cX3_fillBeds 166 = .ok (.ior, 1) := by decide +kernel
theorem dX3_fillBeds_167 : decode cX3_fillBeds 167 = .ok (.putfield 27, 3) := by decide +kernel
theorem dX3_fillBeds_170 : decode cX3_fillBeds 170 = .ok (.iload_n 3, 1) := by decide +kernel
theorem dX3_fillBeds_171 : decode cX3_fillBeds 171 = .ok (.iconst 1, 1) := by decide +kernel
theorem dX3_fillBeds_172 : decode cX3_fillBeds 172 = .ok (.iload 7, 2) := by decide +kernel
theorem dX3_fillBeds_174 : decode cX3_fillBeds 174 = .ok (.ishl, 1) := by decide +kernel
theorem dX3_fillBeds_175 : decode cX3_fillBeds 175 = .ok (.iconst (-1), 1) := by decide +kernel
theorem dX3_fillBeds_176 : decode cX3_fillBeds 176 = .ok (.ixor, 1) := by decide +kernel
theorem dX3_fillBeds_177 : decode cX3_fillBeds 177 = .ok (.iand, 1) := by decide +kernel
theorem dX3_fillBeds_178 : decode cX3_fillBeds 178 = .ok (.istore_n 3, 1) := by decide +kernel
theorem dX3_fillBeds_179 : decode cX3_fillBeds 179 = .ok (.iinc 4 1, 3) := by decide +kernel
theorem dX3_fillBeds_182 : decode cX3_fillBeds 182 = .ok (.goto (-163), 3) := by decide +kernel
theorem dX3_fillBeds_185 : decode cX3_fillBeds 185 = .ok (.return_, 1) := by decide +kernel
theorem dX3_callFirst_0 : decode cX3_callFirst 0 = .ok (.iconst 0, 1) := by decide +kernel
theorem dX3_callFirst_1 : decode cX3_callFirst 1 = .ok (.istore_n 3, 1) := by decide +kernel
theorem dX3_callFirst_2 : decode cX3_callFirst 2 = .ok (.iload_n 3, 1) := by decide +kernel
theorem dX3_callFirst_3 : decode cX3_callFirst 3 = .ok (.aload_n 1, 1) := by decide +kernel
theorem dX3_callFirst_4 : decode cX3_callFirst 4 = .ok (.getfield 86, 3) := by decide +kernel
theorem dX3_callFirst_7 : decode cX3_callFirst 7 = .ok (.if_icmp .ge 61, 3) := by decide +kernel
theorem dX3_callFirst_10 : decode cX3_callFirst 10 = .ok (.aload_n 1, 1) := by decide +kernel
theorem dX3_callFirst_11 : decode cX3_callFirst 11 = .ok (.getfield 89, 3) := by decide +kernel
theorem dX3_callFirst_14 : decode cX3_callFirst 14 = .ok (.iload_n 3, 1) := by decide +kernel
theorem dX3_callFirst_15 : decode cX3_callFirst 15 = .ok (.iaload, 1) := by decide +kernel
theorem dX3_callFirst_16 : decode cX3_callFirst 16 = .ok (.istore 4, 2) := by decide +kernel
theorem dX3_callFirst_18 : decode cX3_callFirst 18 = .ok (.aload_n 1, 1) := by decide +kernel
theorem dX3_callFirst_19 : decode cX3_callFirst 19 = .ok (.iload 4, 2) := by decide +kernel
theorem dX3_callFirst_21 : decode cX3_callFirst 21 = .ok (.invokevirtual 78, 3) := by decide +kernel
theorem dX3_callFirst_24 : decode cX3_callFirst 24 = .ok (.ifCond .eq 38, 3) := by decide +kernel
theorem dX3_callFirst_27 : decode cX3_callFirst 27 = .ok (.iload_n 2, 1) := by decide +kernel
theorem dX3_callFirst_28 : decode cX3_callFirst 28 = .ok (.iload 4, 2) := by decide +kernel
theorem dX3_callFirst_30 : decode cX3_callFirst 30 = .ok (.invokestatic 92, 3) := by decide +kernel
theorem dX3_callFirst_33 : decode cX3_callFirst 33 = .ok (.ifCond .eq 29, 3) := by decide +kernel
theorem dX3_callFirst_36 : decode cX3_callFirst 36 = .ok (.aload_n 0, 1) := by decide +kernel
theorem dX3_callFirst_37 : decode cX3_callFirst 37 = .ok (.aload_n 0, 1) := by decide +kernel
theorem dX3_callFirst_38 : decode cX3_callFirst 38 = .ok (.getfield 34, 3) := by decide +kernel
theorem dX3_callFirst_41 : decode cX3_callFirst 41 = .ok (.iload_n 3, 1) := by decide +kernel
theorem dX3_callFirst_42 : decode cX3_callFirst 42 = .ok (.invokestatic 96, 3) := by decide +kernel
theorem dX3_callFirst_45 : decode cX3_callFirst 45 = .ok (.putfield 34, 3) := by decide +kernel
theorem dX3_callFirst_48 : decode cX3_callFirst 48 = .ok (.aload_n 0, 1) := by decide +kernel
theorem dX3_callFirst_49 : decode cX3_callFirst 49 = .ok (.getfield 24, 3) := by decide +kernel
theorem dX3_callFirst_52 : decode cX3_callFirst 52 = .ok (.iload 4, 2) := by decide +kernel
theorem dX3_callFirst_54 : decode cX3_callFirst 54 = .ok (.dup2, 1) := by decide +kernel
theorem dX3_callFirst_55 : decode cX3_callFirst 55 = .ok (.iaload, 1) := by decide +kernel
theorem dX3_callFirst_56 : decode cX3_callFirst 56 = .ok (.iconst 1, 1) := by decide +kernel
theorem dX3_callFirst_57 : decode cX3_callFirst 57 = .ok (.iadd, 1) := by decide +kernel
theorem dX3_callFirst_58 : decode cX3_callFirst 58 = .ok (.iastore, 1) := by decide +kernel
theorem dX3_callFirst_59 : decode cX3_callFirst 59 = .ok (.iload 4, 2) := by decide +kernel
theorem dX3_callFirst_61 : decode cX3_callFirst 61 = .ok (.ireturn, 1) := by decide +kernel
theorem dX3_callFirst_62 : decode cX3_callFirst 62 = .ok (.iinc 3 1, 3) := by decide +kernel
theorem dX3_callFirst_65 : decode cX3_callFirst 65 = .ok (.goto (-63), 3) := by decide +kernel
theorem dX3_callFirst_68 : decode cX3_callFirst 68 = .ok (.bipush (-4), 2) := by decide +kernel
theorem dX3_callFirst_70 : decode cX3_callFirst 70 = .ok (.ireturn, 1) := by decide +kernel
theorem dX3_bestOf_0 : decode cX3_bestOf 0 = .ok (.aload_n 1, 1) := by decide +kernel
theorem dX3_bestOf_1 : decode cX3_bestOf 1 = .ok (.iload_n 2, 1) := by decide +kernel
theorem dX3_bestOf_2 : decode cX3_bestOf 2 = .ok (.invokevirtual 101, 3) := by decide +kernel
theorem dX3_bestOf_5 : decode cX3_bestOf 5 = .ok (.iload_n 3, 1) := by decide +kernel
theorem dX3_bestOf_6 : decode cX3_bestOf 6 = .ok (.iand, 1) := by decide +kernel
theorem dX3_bestOf_7 : decode cX3_bestOf 7 = .ok (.istore 6, 2) := by decide +kernel
theorem dX3_bestOf_9 : decode cX3_bestOf 9 = .ok (.iload_n 2, 1) := by decide +kernel
theorem dX3_bestOf_10 : decode cX3_bestOf 10 = .ok (.istore 7, 2) := by decide +kernel
theorem dX3_bestOf_12 : decode cX3_bestOf 12 = .ok (.aload_n 1, 1) := by decide +kernel
theorem dX3_bestOf_13 : decode cX3_bestOf 13 = .ok (.getfield 37, 3) := by decide +kernel
theorem dX3_bestOf_16 : decode cX3_bestOf 16 = .ok (.iload_n 2, 1) := by decide +kernel
theorem dX3_bestOf_17 : decode cX3_bestOf 17 = .ok (.iload 4, 2) := by decide +kernel
theorem dX3_bestOf_19 : decode cX3_bestOf 19 = .ok (.iload 5, 2) := by decide +kernel
theorem dX3_bestOf_21 : decode cX3_bestOf 21 = .ok (.invokevirtual 82, 3) := by decide +kernel
theorem dX3_bestOf_24 : decode cX3_bestOf 24 = .ok (.istore 8, 2) := by decide +kernel
theorem dX3_bestOf_26 : decode cX3_bestOf 26 = .ok (.iconst 0, 1) := by decide +kernel
theorem dX3_bestOf_27 : decode cX3_bestOf 27 = .ok (.istore 9, 2) := by decide +kernel
theorem dX3_bestOf_29 : decode cX3_bestOf 29 = .ok (.iload 9, 2) := by decide +kernel
theorem dX3_bestOf_31 : decode cX3_bestOf 31 = .ok (.aload_n 1, 1) := by decide +kernel
theorem dX3_bestOf_32 : decode cX3_bestOf 32 = .ok (.getfield 37, 3) := by decide +kernel
theorem dX3_bestOf_35 : decode cX3_bestOf 35 = .ok (.getfield 86, 3) := by decide +kernel
theorem dX3_bestOf_38 : decode cX3_bestOf 38 = .ok (.if_icmp .ge 49, 3) := by decide +kernel
theorem dX3_bestOf_41 : decode cX3_bestOf 41 = .ok (.iload 6, 2) := by decide +kernel
theorem dX3_bestOf_43 : decode cX3_bestOf 43 = .ok (.iload 9, 2) := by decide +kernel
theorem dX3_bestOf_45 : decode cX3_bestOf 45 = .ok (.invokestatic 92, 3) := by decide +kernel
theorem dX3_bestOf_48 : decode cX3_bestOf 48 = .ok (.ifCond .eq 33, 3) := by decide +kernel
theorem dX3_bestOf_51 : decode cX3_bestOf 51 = .ok (.aload_n 1, 1) := by decide +kernel
theorem dX3_bestOf_52 : decode cX3_bestOf 52 = .ok (.getfield 37, 3) := by decide +kernel
theorem dX3_bestOf_55 : decode cX3_bestOf 55 = .ok (.iload 9, 2) := by decide +kernel
theorem dX3_bestOf_57 : decode cX3_bestOf 57 = .ok (.iload 4, 2) := by decide +kernel
theorem dX3_bestOf_59 : decode cX3_bestOf 59 = .ok (.iload 5, 2) := by decide +kernel
theorem dX3_bestOf_61 : decode cX3_bestOf 61 = .ok (.invokevirtual 82, 3) := by decide +kernel
theorem dX3_bestOf_64 : decode cX3_bestOf 64 = .ok (.istore 10, 2) := by decide +kernel
theorem dX3_bestOf_66 : decode cX3_bestOf 66 = .ok (.iload 10, 2) := by decide +kernel
theorem dX3_bestOf_68 : decode cX3_bestOf 68 = .ok (.iload 8, 2) := by decide +kernel
theorem dX3_bestOf_70 : decode cX3_bestOf 70 = .ok (.if_icmp .ge 11, 3) := by decide +kernel
theorem dX3_bestOf_73 : decode cX3_bestOf 73 = .ok (.iload 10, 2) := by decide +kernel
theorem dX3_bestOf_75 : decode cX3_bestOf 75 = .ok (.istore 8, 2) := by decide +kernel
theorem dX3_bestOf_77 : decode cX3_bestOf 77 = .ok (.iload 9, 2) := by decide +kernel
theorem dX3_bestOf_79 : decode cX3_bestOf 79 = .ok (.istore 7, 2) := by decide +kernel
theorem dX3_bestOf_81 : decode cX3_bestOf 81 = .ok (.iinc 9 1, 3) := by decide +kernel
theorem dX3_bestOf_84 : decode cX3_bestOf 84 = .ok (.goto (-55), 3) := by decide +kernel
theorem dX3_bestOf_87 : decode cX3_bestOf 87 = .ok (.iload 7, 2) := by decide +kernel
theorem dX3_bestOf_89 : decode cX3_bestOf 89 = .ok (.ireturn, 1) := by decide +kernel
theorem dX3_hasLain_0 : decode cX3_hasLain 0 = .ok (.aload_n 0, 1) := by decide +kernel
theorem dX3_hasLain_1 : decode cX3_hasLain 1 = .ok (.getfield 27, 3) := by decide +kernel
theorem dX3_hasLain_4 : decode cX3_hasLain 4 = .ok (.iload_n 1, 1) := by decide +kernel
theorem dX3_hasLain_5 : decode cX3_hasLain 5 = .ok (.invokestatic 92, 3) := by decide +kernel
theorem dX3_hasLain_8 : decode cX3_hasLain 8 = .ok (.ireturn, 1) := by decide +kernel
theorem dX3_total_0 : decode cX3_total 0 = .ok (.aload_n 0, 1) := by decide +kernel
theorem dX3_total_1 : decode cX3_total 1 = .ok (.getfield 31, 3) := by decide +kernel
theorem dX3_total_4 : decode cX3_total 4 = .ok (.bipush 50, 2) := by decide +kernel
theorem dX3_total_6 : decode cX3_total 6 = .ok (.aload_n 1, 1) := by decide +kernel
theorem dX3_total_7 : decode cX3_total 7 = .ok (.getfield 86, 3) := by decide +kernel
theorem dX3_total_10 : decode cX3_total 10 = .ok (.aload_n 0, 1) := by decide +kernel
theorem dX3_total_11 : decode cX3_total 11 = .ok (.getfield 27, 3) := by decide +kernel
theorem dX3_total_14 : decode cX3_total 14 = .ok (.invokestatic 104, 3) := by decide +kernel
theorem dX3_total_17 : decode cX3_total 17 = .ok (.isub, 1) := by decide +kernel
theorem dX3_total_18 : decode cX3_total 18 = .ok (.imul, 1) := by decide +kernel
theorem dX3_total_19 : decode cX3_total 19 = .ok (.iadd, 1) := by decide +kernel
theorem dX3_total_20 : decode cX3_total 20 = .ok (.ireturn, 1) := by decide +kernel
theorem dX3_unharmed_0 : decode cX3_unharmed 0 = .ok (.iconst 0, 1) := by decide +kernel
theorem dX3_unharmed_1 : decode cX3_unharmed 1 = .ok (.istore_n 2, 1) := by decide +kernel
theorem dX3_unharmed_2 : decode cX3_unharmed 2 = .ok (.iconst 0, 1) := by decide +kernel
theorem dX3_unharmed_3 : decode cX3_unharmed 3 = .ok (.istore_n 3, 1) := by decide +kernel
theorem dX3_unharmed_4 : decode cX3_unharmed 4 = .ok (.iload_n 3, 1) := by decide +kernel
theorem dX3_unharmed_5 : decode cX3_unharmed 5 = .ok (.aload_n 1, 1) := by decide +kernel
theorem dX3_unharmed_6 : decode cX3_unharmed 6 = .ok (.getfield 86, 3) := by decide +kernel
theorem dX3_unharmed_9 : decode cX3_unharmed 9 = .ok (.if_icmp .ge 29, 3) := by decide +kernel
theorem dX3_unharmed_12 : decode cX3_unharmed 12 = .ok (.aload_n 0, 1) := by decide +kernel
theorem dX3_unharmed_13 : decode cX3_unharmed 13 = .ok (.iload_n 3, 1) := by decide +kernel
theorem dX3_unharmed_14 : decode cX3_unharmed 14 = .ok (.invokevirtual 109, 3) := by decide +kernel
theorem dX3_unharmed_17 : decode cX3_unharmed 17 = .ok (.ifCond .eq 15, 3) := by decide +kernel
theorem dX3_unharmed_20 : decode cX3_unharmed 20 = .ok (.aload_n 0, 1) := by decide +kernel
theorem dX3_unharmed_21 : decode cX3_unharmed 21 = .ok (.getfield 18, 3) := by decide +kernel
theorem dX3_unharmed_24 : decode cX3_unharmed 24 = .ok (.iload_n 3, 1) := by decide +kernel
theorem dX3_unharmed_25 : decode cX3_unharmed 25 = .ok (.iaload, 1) := by decide +kernel
theorem dX3_unharmed_26 : decode cX3_unharmed 26 = .ok (.ifCond .ne 6, 3) := by decide +kernel
theorem dX3_unharmed_29 : decode cX3_unharmed 29 = .ok (.iinc 2 1, 3) := by decide +kernel
theorem dX3_unharmed_32 : decode cX3_unharmed 32 = .ok (.iinc 3 1, 3) := by decide +kernel
theorem dX3_unharmed_35 : decode cX3_unharmed 35 = .ok (.goto (-31), 3) := by decide +kernel
theorem dX3_unharmed_38 : decode cX3_unharmed 38 = .ok (.iload_n 2, 1) := by decide +kernel
theorem dX3_unharmed_39 : decode cX3_unharmed 39 = .ok (.ireturn, 1) := by decide +kernel
theorem dX3_greatest_0 : decode cX3_greatest 0 = .ok (.iconst 0, 1) := by decide +kernel
theorem dX3_greatest_1 : decode cX3_greatest 1 = .ok (.istore_n 2, 1) := by decide +kernel
theorem dX3_greatest_2 : decode cX3_greatest 2 = .ok (.iconst 0, 1) := by decide +kernel
theorem dX3_greatest_3 : decode cX3_greatest 3 = .ok (.istore_n 3, 1) := by decide +kernel
theorem dX3_greatest_4 : decode cX3_greatest 4 = .ok (.iload_n 3, 1) := by decide +kernel
theorem dX3_greatest_5 : decode cX3_greatest 5 = .ok (.aload_n 1, 1) := by decide +kernel
theorem dX3_greatest_6 : decode cX3_greatest 6 = .ok (.getfield 86, 3) := by decide +kernel
theorem dX3_greatest_9 : decode cX3_greatest 9 = .ok (.if_icmp .ge 28, 3) := by decide +kernel
theorem dX3_greatest_12 : decode cX3_greatest 12 = .ok (.aload_n 0, 1) := by decide +kernel
theorem dX3_greatest_13 : decode cX3_greatest 13 = .ok (.iload_n 3, 1) := by decide +kernel
theorem dX3_greatest_14 : decode cX3_greatest 14 = .ok (.invokevirtual 109, 3) := by decide +kernel
theorem dX3_greatest_17 : decode cX3_greatest 17 = .ok (.ifCond .eq 14, 3) := by decide +kernel
theorem dX3_greatest_20 : decode cX3_greatest 20 = .ok (.iload_n 2, 1) := by decide +kernel
theorem dX3_greatest_21 : decode cX3_greatest 21 = .ok (.aload_n 0, 1) := by decide +kernel
theorem dX3_greatest_22 : decode cX3_greatest 22 = .ok (.getfield 18, 3) := by decide +kernel
theorem dX3_greatest_25 : decode cX3_greatest 25 = .ok (.iload_n 3, 1) := by decide +kernel
theorem dX3_greatest_26 : decode cX3_greatest 26 = .ok (.iaload, 1) := by decide +kernel
theorem dX3_greatest_27 : decode cX3_greatest 27 = .ok (.invokestatic 96, 3) := by decide +kernel
theorem dX3_greatest_30 : decode cX3_greatest 30 = .ok (.istore_n 2, 1) := by decide +kernel
theorem dX3_greatest_31 : decode cX3_greatest 31 = .ok (.iinc 3 1, 3) := by decide +kernel
theorem dX3_greatest_34 : decode cX3_greatest 34 = .ok (.goto (-30), 3) := by decide +kernel
theorem dX3_greatest_37 : decode cX3_greatest 37 = .ok (.iload_n 2, 1) := by decide +kernel
theorem dX3_greatest_38 : decode cX3_greatest 38 = .ok (.ireturn, 1) := by decide +kernel
theorem dX3_allLainBy_0 : decode cX3_allLainBy 0 = .ok (.iconst 0, 1) := by decide +kernel
theorem dX3_allLainBy_1 : decode cX3_allLainBy 1 = .ok (.istore_n 3, 1) := by decide +kernel
theorem dX3_allLainBy_2 : decode cX3_allLainBy 2 = .ok (.iload_n 3, 1) := by decide +kernel
theorem dX3_allLainBy_3 : decode cX3_allLainBy 3 = .ok (.aload_n 1, 1) := by decide +kernel
theorem dX3_allLainBy_4 : decode cX3_allLainBy 4 = .ok (.getfield 86, 3) := by decide +kernel
theorem dX3_allLainBy_7 : decode cX3_allLainBy 7 = .ok (.if_icmp .ge 29, 3) := by decide +kernel
theorem dX3_allLainBy_10 : decode cX3_allLainBy 10 = .ok (.aload_n 0, 1) := by decide +kernel
theorem dX3_allLainBy_11 : decode cX3_allLainBy 11 = .ok (.iload_n 3, 1) := by decide +kernel
theorem dX3_allLainBy_12 : decode cX3_allLainBy 12 = .ok (.invokevirtual 109, 3) := by decide +kernel
theorem dX3_allLainBy_15 : decode cX3_allLainBy 15 = .ok (.ifCond .eq 13, 3) := by decide +kernel
theorem dX3_allLainBy_18 : decode cX3_allLainBy 18 = .ok (.aload_n 0, 1) := by decide +kernel
theorem dX3_allLainBy_19 : decode cX3_allLainBy 19 = .ok (.getfield 9, 3) := by decide +kernel
theorem dX3_allLainBy_22 : decode cX3_allLainBy 22 = .ok (.iload_n 3, 1) := by decide +kernel
theorem dX3_allLainBy_23 : decode cX3_allLainBy 23 = .ok (.iaload, 1) := by decide +kernel
theorem dX3_allLainBy_24 : decode cX3_allLainBy 24 = .ok (.iload_n 2, 1) := by decide +kernel
theorem dX3_allLainBy_25 : decode cX3_allLainBy 25 = .ok (.if_icmp .le 5, 3) := by decide +kernel
theorem dX3_allLainBy_28 : decode cX3_allLainBy 28 = .ok (.iconst 0, 1) := by decide +kernel
theorem dX3_allLainBy_29 : decode cX3_allLainBy 29 = .ok (.ireturn, 1) := by decide +kernel
theorem dX3_allLainBy_30 : decode cX3_allLainBy 30 = .ok (.iinc 3 1, 3) := by decide +kernel
theorem dX3_allLainBy_33 : decode cX3_allLainBy 33 = .ok (.goto (-31), 3) := by decide +kernel
theorem dX3_allLainBy_36 : decode cX3_allLainBy 36 = .ok (.iconst 1, 1) := by decide +kernel
theorem dX3_allLainBy_37 : decode cX3_allLainBy 37 = .ok (.ireturn, 1) := by decide +kernel
theorem dX4_init_0 : decode cX4_init 0 = .ok (.aload_n 0, 1) := by decide +kernel
theorem dX4_init_1 : decode cX4_init 1 = .ok (.invokespecial 3, 3) := by decide +kernel
theorem dX4_init_4 : decode cX4_init 4 = .ok (.aload_n 0, 1) := by decide +kernel
theorem dX4_init_5 : decode cX4_init 5 = .ok (.bipush 7, 2) := by decide +kernel
theorem dX4_init_7 : decode cX4_init 7 = .ok (.newarray .int, 2) := by decide +kernel
theorem dX4_init_9 : decode cX4_init 9 = .ok (.putfield 9, 3) := by decide +kernel
theorem dX4_init_12 : decode cX4_init 12 = .ok (.aload_n 0, 1) := by decide +kernel
theorem dX4_init_13 : decode cX4_init 13 = .ok (.bipush 7, 2) := by decide +kernel
theorem dX4_init_15 : decode cX4_init 15 = .ok (.newarray .int, 2) := by decide +kernel
theorem dX4_init_17 : decode cX4_init 17 = .ok (.putfield 15, 3) := by decide +kernel
theorem dX4_init_20 : decode cX4_init 20 = .ok (.return_, 1) := by decide +kernel
theorem dX4_search_0 : decode cX4_search 0 = .ok (.aload_n 1, 1) := by decide +kernel
theorem dX4_search_1 : decode cX4_search 1 = .ok (.getfield 18, 3) := by decide +kernel
theorem dX4_search_4 : decode cX4_search 4 = .ok (.astore_n 3, 1) := by decide +kernel
theorem dX4_search_5 : decode cX4_search 5 = .ok (.aload_n 3, 1) := by decide +kernel
theorem dX4_search_6 : decode cX4_search 6 = .ok (.getfield 24, 3) := by decide +kernel
theorem dX4_search_9 : decode cX4_search 9 = .ok (.iconst 0, 1) := by decide +kernel
theorem dX4_search_10 : decode cX4_search 10 = .ok (.aload_n 0, 1) := by decide +kernel
theorem dX4_search_11 : decode cX4_search 11 = .ok (.getfield 15, 3) := by decide +kernel
theorem dX4_search_14 : decode cX4_search 14 = .ok (.iconst 0, 1) := by decide +kernel
theorem dX4_search_15 : decode cX4_search 15 = .ok (.bipush 7, 2) := by decide +kernel
theorem dX4_search_17 : decode cX4_search 17 = .ok (.invokestatic 27, 3) := by decide +kernel
theorem dX4_search_20 : decode cX4_search 20 = .ok (.iconst 0, 1) := by decide +kernel
theorem dX4_search_21 : decode cX4_search 21 = .ok (.istore 4, 2) := by decide +kernel
theorem dX4_search_23 : decode cX4_search 23 = .ok (.iload 4, 2) := by decide +kernel
theorem dX4_search_25 : decode cX4_search 25 = .ok (.aload_n 3, 1) := by decide +kernel
theorem dX4_search_26 : decode cX4_search 26 = .ok (.getfield 33, 3) := by decide +kernel
theorem dX4_search_29 : decode cX4_search 29 = .ok (.if_icmp .ge 18, 3) := by decide +kernel
theorem dX4_search_32 : decode cX4_search 32 = .ok (.aload_n 3, 1) := by decide +kernel
theorem dX4_search_33 : decode cX4_search 33 = .ok (.getfield 24, 3) := by decide +kernel
theorem dX4_search_36 : decode cX4_search 36 = .ok (.iload 4, 2) := by decide +kernel
theorem dX4_search_38 : decode cX4_search 38 = .ok (.iload 4, 2) := by decide +kernel
theorem dX4_search_40 : decode cX4_search 40 = .ok (.iastore, 1) := by decide +kernel
theorem dX4_search_41 : decode cX4_search 41 = .ok (.iinc 4 1, 3) := by decide +kernel
theorem dX4_search_44 : decode cX4_search 44 = .ok (.goto (-21), 3) := by decide +kernel
theorem dX4_search_47 : decode cX4_search 47 = .ok (.aload_n 0, 1) := by decide +kernel
theorem dX4_search_48 : decode cX4_search 48 = .ok (.ldc 37, 2) := by decide +kernel
theorem dX4_search_50 : decode cX4_search 50 = .ok (.putfield 38, 3) := by decide +kernel
theorem dX4_search_53 : decode cX4_search 53 = .ok (.iconst 1, 1) := by decide +kernel
theorem dX4_search_54 : decode cX4_search 54 = .ok (.istore 4, 2) := by decide +kernel
theorem dX4_search_56 : decode cX4_search 56 = .ok (.iconst 0, 1) := by decide +kernel
theorem dX4_search_57 : decode cX4_search 57 = .ok (.istore 5, 2) := by decide +kernel
theorem dX4_search_59 : decode cX4_search 59 = .ok (.iload 5, 2) := by decide +kernel
theorem dX4_search_61 : decode cX4_search 61 = .ok (.sipush 5040, 3) := by decide +kernel
theorem dX4_search_64 : decode cX4_search 64 = .ok (.if_icmp .ge 70, 3) := by decide +kernel
theorem dX4_search_67 : decode cX4_search 67 = .ok (.iload 4, 2) := by decide +kernel
theorem dX4_search_69 : decode cX4_search 69 = .ok (.ifCond .eq 65, 3) := by decide +kernel
theorem dX4_search_72 : decode cX4_search 72 = .ok (.aload_n 2, 1) := by decide +kernel
theorem dX4_search_73 : decode cX4_search 73 = .ok (.aload_n 1, 1) := by decide +kernel
theorem dX4_search_74 : decode cX4_search 74 = .ok (.aload_n 0, 1) := by decide +kernel
theorem dX4_search_75 : decode cX4_search 75 = .ok (.getfield 38, 3) := by decide +kernel
theorem dX4_search_78 : decode cX4_search 78 = .ok (.invokevirtual 41, 3) := by decide +kernel
theorem dX4_search_81 : decode cX4_search 81 = .ok (.aload_n 2, 1) := by decide +kernel
theorem dX4_search_82 : decode cX4_search 82 = .ok (.aload_n 3, 1) := by decide +kernel
theorem dX4_search_83 : decode cX4_search 83 = .ok (.invokevirtual 47, 3) := by decide +kernel
theorem dX4_search_86 : decode cX4_search 86 = .ok (.istore 6, 2) := by decide +kernel
theorem dX4_search_88 : decode cX4_search 88 = .ok (.iload 6, 2) := by decide +kernel
theorem dX4_search_90 : decode cX4_search 90 = .ok (.aload_n 0, 1) := by decide +kernel
theorem dX4_search_91 : decode cX4_search 91 = .ok (.getfield 38, 3) := by decide +kernel
theorem dX4_search_94 : decode cX4_search 94 = .ok (.if_icmp .ge 24, 3) := by decide +kernel
theorem dX4_search_97 : decode cX4_search 97 = .ok (.aload_n 0, 1) := by decide +kernel
theorem dX4_search_98 : decode cX4_search 98 = .ok (.iload 6, 2) := by decide +kernel
theorem dX4_search_100 : decode cX4_search 100 = .ok (.putfield 38, 3) := by decide +kernel
theorem dX4_search_103 : decode cX4_search 103 = .ok (.aload_n 3, 1) := by decide +kernel
theorem dX4_search_104 : decode cX4_search 104 = .ok (.getfield 24, 3) := by decide +kernel
theorem dX4_search_107 : decode cX4_search 107 = .ok (.iconst 0, 1) := by decide +kernel
theorem dX4_search_108 : decode cX4_search 108 = .ok (.aload_n 0, 1) := by decide +kernel
theorem dX4_search_109 : decode cX4_search 109 = .ok (.getfield 9, 3) := by decide +kernel
theorem dX4_search_112 : decode cX4_search 112 = .ok (.iconst 0, 1) := by decide +kernel
theorem dX4_search_113 : decode cX4_search 113 = .ok (.bipush 7, 2) := by decide +kernel
theorem dX4_search_115 : decode cX4_search 115 = .ok (.invokestatic 27, 3) := by decide +kernel
theorem dX4_search_118 : decode cX4_search 118 = .ok (.aload_n 3, 1) := by decide +kernel
theorem dX4_search_119 : decode cX4_search 119 = .ok (.aload_n 2, 1) := by decide +kernel
theorem dX4_search_120 : decode cX4_search 120 = .ok (.getfield 51, 3) := by decide +kernel
theorem dX4_search_123 : decode cX4_search 123 = .ok (.invokestatic 54, 3) := by decide +kernel
theorem dX4_search_126 : decode cX4_search 126 = .ok (.istore 4, 2) := by decide +kernel
theorem dX4_search_128 : decode cX4_search 128 = .ok (.iinc 5 1, 3) := by decide +kernel
theorem dX4_search_131 : decode cX4_search 131 = .ok (.goto (-72), 3) := by decide +kernel
theorem dX4_search_134 : decode cX4_search 134 = .ok (.aload_n 0, 1) := by decide +kernel
theorem dX4_search_135 : decode cX4_search 135 = .ok (.getfield 15, 3) := by decide +kernel
theorem dX4_search_138 : decode cX4_search 138 = .ok (.iconst 0, 1) := by decide +kernel
theorem dX4_search_139 : decode cX4_search 139 = .ok (.aload_n 3, 1) := by decide +kernel
theorem dX4_search_140 : decode cX4_search 140 = .ok (.getfield 24, 3) := by decide +kernel
theorem dX4_search_143 : decode cX4_search 143 = .ok (.iconst 0, 1) := by decide +kernel
theorem dX4_search_144 : decode cX4_search 144 = .ok (.bipush 7, 2) := by decide +kernel
theorem dX4_search_146 : decode cX4_search 146 = .ok (.invokestatic 27, 3) := by decide +kernel
theorem dX4_search_149 : decode cX4_search 149 = .ok (.aload_n 0, 1) := by decide +kernel
theorem dX4_search_150 : decode cX4_search 150 = .ok (.iconst 1, 1) := by decide +kernel
theorem dX4_search_151 : decode cX4_search 151 = .ok (.putfield 58, 3) := by decide +kernel
theorem dX4_search_154 : decode cX4_search 154 = .ok (.return_, 1) := by decide +kernel
theorem dX4_toNextRow_0 : decode cX4_toNextRow 0 = .ok (.aload_n 0, 1) := by decide +kernel
theorem dX4_toNextRow_1 : decode cX4_toNextRow 1 = .ok (.iload_n 1, 1) := by decide +kernel
theorem dX4_toNextRow_2 : decode cX4_toNextRow 2 = .ok (.iconst 1, 1) := by decide +kernel
theorem dX4_toNextRow_3 : decode cX4_toNextRow 3 = .ok (.iadd, 1) := by decide +kernel
theorem dX4_toNextRow_4 : decode cX4_toNextRow 4 = .ok (.invokestatic 62, 3) := by decide +kernel
theorem dX4_toNextRow_7 : decode cX4_toNextRow 7 = .ok (.aload_n 0, 1) := by decide +kernel
theorem dX4_toNextRow_8 : decode cX4_toNextRow 8 = .ok (.getfield 33, 3) := by decide +kernel
theorem dX4_toNextRow_11 : decode cX4_toNextRow 11 = .ok (.iconst 2, 1) := by decide +kernel
theorem dX4_toNextRow_12 : decode cX4_toNextRow 12 = .ok (.isub, 1) := by decide +kernel
theorem dX4_toNextRow_13 : decode cX4_toNextRow 13 = .ok (.istore_n 2, 1) := by decide +kernel
theorem dX4_toNextRow_14 : decode cX4_toNextRow 14 = .ok (.iload_n 2, 1) := by decide +kernel
theorem dX4_toNextRow_15 : decode cX4_toNextRow 15 = .ok (.ifCond .lt 26, 3) := by decide +kernel
theorem dX4_toNextRow_18 : decode cX4_toNextRow 18 = .ok (.aload_n 0, 1) := by decide +kernel
theorem dX4_toNextRow_19 : decode cX4_toNextRow 19 = .ok (.getfield 24, 3) := by decide +kernel
theorem dX4_toNextRow_22 : decode cX4_toNextRow 22 = .ok (.iload_n 2, 1) := by decide +kernel
theorem dX4_toNextRow_23 : decode cX4_toNextRow 23 = .ok (.iaload, 1) := by decide +kernel
theorem dX4_toNextRow_24 : decode cX4_toNextRow 24 = .ok (.aload_n 0, 1) := by decide +kernel
theorem dX4_toNextRow_25 : decode cX4_toNextRow 25 = .ok (.getfield 24, 3) := by decide +kernel
theorem dX4_toNextRow_28 : decode cX4_toNextRow 28 = .ok (.iload_n 2, 1) := by decide +kernel
theorem dX4_toNextRow_29 : decode cX4_toNextRow 29 = .ok (.iconst 1, 1) := by decide +kernel
theorem dX4_toNextRow_30 : decode cX4_toNextRow 30 = .ok (.iadd, 1) := by decide +kernel
theorem dX4_toNextRow_31 : decode cX4_toNextRow 31 = .ok (.iaload, 1) := by decide +kernel
theorem dX4_toNextRow_32 : decode cX4_toNextRow 32 = .ok (.if_icmp .le 9, 3) := by decide +kernel
theorem dX4_toNextRow_35 : decode cX4_toNextRow 35 = .ok (.iinc 2 (-1), 3) := by decide +kernel
theorem dX4_toNextRow_38 : decode cX4_toNextRow 38 = .ok (.goto (-24), 3) := by decide +kernel
theorem dX4_toNextRow_41 : decode cX4_toNextRow 41 = .ok (.iload_n 2, 1) := by decide +kernel
theorem dX4_toNextRow_42 : decode cX4_toNextRow 42 = .ok (.ifCond .ge 5, 3) := by decide +kernel
theorem dX4_toNextRow_45 : decode cX4_toNextRow 45 = .ok (.iconst 0, 1) := by decide +kernel
theorem dX4_toNextRow_46 : decode cX4_toNextRow 46 = .ok (.ireturn, 1) := by decide +kernel
theorem dX4_toNextRow_47 : decode cX4_toNextRow 47 = .ok (.aload_n 0, 1) := by decide +kernel
theorem dX4_toNextRow_48 : decode cX4_toNextRow 48 = .ok (.getfield 33, 3) := by decide +kernel
theorem dX4_toNextRow_51 : decode cX4_toNextRow 51 = .ok (.iconst 1, 1) := by decide +kernel
theorem dX4_toNextRow_52 : decode cX4_toNextRow 52 = .ok (.isub, 1) := by decide +kernel
theorem dX4_toNextRow_53 : decode cX4_toNextRow 53 = .ok (.istore_n 3, 1) := by decide +kernel
theorem dX4_toNextRow_54 : decode cX4_toNextRow 54 = .ok (.iload_n 3, 1) := by decide +kernel
theorem dX4_toNextRow_55 : decode cX4_toNextRow 55 = .ok (.iload_n 2, 1) := by decide +kernel
theorem dX4_toNextRow_56 : decode cX4_toNextRow 56 = .ok (.if_icmp .le 24, 3) := by decide +kernel
theorem dX4_toNextRow_59 : decode cX4_toNextRow 59 = .ok (.aload_n 0, 1) := by decide +kernel
theorem dX4_toNextRow_60 : decode cX4_toNextRow 60 = .ok (.getfield 24, 3) := by decide +kernel
theorem dX4_toNextRow_63 : decode cX4_toNextRow 63 = .ok (.iload_n 3, 1) := by decide +kernel
theorem dX4_toNextRow_64 : decode cX4_toNextRow 64 = .ok (.iaload, 1) := by decide +kernel
theorem dX4_toNextRow_65 : decode cX4_toNextRow 65 = .ok (.aload_n 0, 1) := by decide +kernel
theorem dX4_toNextRow_66 : decode cX4_toNextRow 66 = .ok (.getfield 24, 3) := by decide +kernel
theorem dX4_toNextRow_69 : decode cX4_toNextRow 69 = .ok (.iload_n 2, 1) := by decide +kernel
theorem dX4_toNextRow_70 : decode cX4_toNextRow 70 = .ok (.iaload, 1) := by decide +kernel
theorem dX4_toNextRow_71 : decode cX4_toNextRow 71 = .ok (.if_icmp .ge 9, 3) := by decide +kernel
theorem dX4_toNextRow_74 : decode cX4_toNextRow 74 = .ok (.iinc 3 (-1), 3) := by decide +kernel
theorem dX4_toNextRow_77 : decode cX4_toNextRow 77 = .ok (.goto (-23), 3) := by decide +kernel
theorem dX4_toNextRow_80 : decode cX4_toNextRow 80 = .ok (.aload_n 0, 1) := by decide +kernel
theorem dX4_toNextRow_81 : decode cX4_toNextRow 81 = .ok (.iload_n 2, 1) := by decide +kernel
theorem dX4_toNextRow_82 : decode cX4_toNextRow 82 = .ok (.iload_n 3, 1) := by decide +kernel
theorem dX4_toNextRow_83 : decode cX4_toNextRow 83 = .ok (.invokestatic 66, 3) := by decide +kernel
theorem dX4_toNextRow_86 : decode cX4_toNextRow 86 = .ok (.aload_n 0, 1) := by decide +kernel
theorem dX4_toNextRow_87 : decode cX4_toNextRow 87 = .ok (.iload_n 2, 1) := by decide +kernel
theorem dX4_toNextRow_88 : decode cX4_toNextRow 88 = .ok (.iconst 1, 1) := by decide +kernel
theorem dX4_toNextRow_89 : decode cX4_toNextRow 89 = .ok (.iadd, 1) := by decide +kernel
theorem dX4_toNextRow_90 : decode cX4_toNextRow 90 = .ok (.invokestatic 70, 3) := by decide +kernel
theorem dX4_toNextRow_93 : decode cX4_toNextRow 93 = .ok (.iconst 1, 1) := by decide +kernel
theorem dX4_toNextRow_94 : decode cX4_toNextRow 94 = .ok (.ireturn, 1) := by decide +kernel
theorem dX4_letFall_0 : decode cX4_letFall 0 = .ok (.iconst 0, 1) := by decide +kernel
theorem dX4_letFall_1 : decode cX4_letFall 1 = .ok (.iload_n 1, 1) := by decide +kernel
theorem dX4_letFall_2 : decode cX4_letFall 2 = .ok (.invokestatic 73, 3) := by decide +kernel
theorem dX4_letFall_5 : decode cX4_letFall 5 = .ok (.istore_n 2, 1) := by decide +kernel
theorem dX4_letFall_6 : decode cX4_letFall 6 = .ok (.iload_n 2, 1) := by decide +kernel
theorem dX4_letFall_7 : decode cX4_letFall 7 = .ok (.aload_n 0, 1) := by decide +kernel
theorem dX4_letFall_8 : decode cX4_letFall 8 = .ok (.getfield 33, 3) := by decide +kernel
theorem dX4_letFall_11 : decode cX4_letFall 11 = .ok (.if_icmp .ge 48, 3) := by decide +kernel
theorem dX4_letFall_14 : decode cX4_letFall 14 = .ok (.iload_n 2, 1) := by decide +kernel
theorem dX4_letFall_15 : decode cX4_letFall 15 = .ok (.iconst 1, 1) := by decide +kernel
theorem dX4_letFall_16 : decode cX4_letFall 16 = .ok (.iadd, 1) := by decide +kernel
theorem dX4_letFall_17 : decode cX4_letFall 17 = .ok (.istore_n 3, 1) := by decide +kernel
theorem dX4_letFall_18 : decode cX4_letFall 18 = .ok (.iload_n 3, 1) := by decide +kernel
theorem dX4_letFall_19 : decode cX4_letFall 19 = .ok (.aload_n 0, 1) := by decide +kernel
theorem dX4_letFall_20 : decode cX4_letFall 20 = .ok (.getfield 33, 3) := by decide +kernel
theorem dX4_letFall_23 : decode cX4_letFall 23 = .ok (.if_icmp .ge 30, 3) := by decide +kernel
theorem dX4_letFall_26 : decode cX4_letFall 26 = .ok (.aload_n 0, 1) := by decide +kernel
theorem dX4_letFall_27 : decode cX4_letFall 27 = .ok (.getfield 24, 3) := by decide +kernel
theorem dX4_letFall_30 : decode cX4_letFall 30 = .ok (.iload_n 3, 1) := by decide +kernel
theorem dX4_letFall_31 : decode cX4_letFall 31 = .ok (.iaload, 1) := by decide +kernel
theorem dX4_letFall_32 : decode cX4_letFall 32 = .ok (.aload_n 0, 1) := by decide +kernel
theorem dX4_letFall_33 : decode cX4_letFall 33 = .ok (.getfield 24, 3) := by decide +kernel
theorem dX4_letFall_36 : decode cX4_letFall 36 = .ok (.iload_n 2, 1) := by decide +kernel
theorem dX4_letFall_37 : decode cX4_letFall 37 = .ok (.iaload, 1) := by decide +kernel
theorem dX4_letFall_38 : decode cX4_letFall 38 = .ok (.if_icmp .le 9, 3) := by decide +kernel
theorem dX4_letFall_41 : decode cX4_letFall 41 = .ok (.aload_n 0, 1) := by decide +kernel
theorem dX4_letFall_42 : decode cX4_letFall 42 = .ok (.iload_n 2, 1) := by decide +kernel
theorem dX4_letFall_43 : decode cX4_letFall 43 = .ok (.iload_n 3, 1) := by decide +kernel
theorem dX4_letFall_44 : decode cX4_letFall 44 = .ok (.invokestatic 66, 3) := by decide +kernel
theorem dX4_letFall_47 : decode cX4_letFall 47 = .ok (.iinc 3 1, 3) := by decide +kernel
theorem dX4_letFall_50 : decode cX4_letFall 50 = .ok (.goto (-32), 3) := by decide +kernel
theorem dX4_letFall_53 : decode cX4_letFall 53 = .ok (.iinc 2 1, 3) := by decide +kernel
theorem dX4_letFall_56 : decode cX4_letFall 56 = .ok (.goto (-50), 3) := by decide +kernel
theorem dX4_letFall_59 : decode cX4_letFall 59 = .ok (.return_, 1) := by decide +kernel
theorem dX4_turnRound_0 : decode cX4_turnRound 0 = .ok (.iload_n 1, 1) := by decide +kernel
theorem dX4_turnRound_1 : decode cX4_turnRound 1 = .ok (.istore_n 2, 1) := by decide +kernel
theorem dX4_turnRound_2 : decode cX4_turnRound 2 = .ok (.aload_n 0, 1) := by decide +kernel
theorem dX4_turnRound_3 : decode cX4_turnRound 3 = .ok (.getfield 33, 3) := by decide +kernel
theorem dX4_turnRound_6 : decode cX4_turnRound 6 = .ok (.iconst 1, 1) := by decide +kernel
theorem dX4_turnRound_7 : decode cX4_turnRound 7 = .ok (.isub, 1) := by decide +kernel
theorem dX4_turnRound_8 : decode cX4_turnRound 8 = .ok (.istore_n 3, 1) := by decide +kernel
theorem dX4_turnRound_9 : decode cX4_turnRound 9 = .ok (.iload_n 2, 1) := by decide +kernel
theorem dX4_turnRound_10 : decode cX4_turnRound 10 = .ok (.iload_n 3, 1) := by decide +kernel
theorem dX4_turnRound_11 : decode cX4_turnRound 11 = .ok (.if_icmp .ge 18, 3) := by decide +kernel
theorem dX4_turnRound_14 : decode cX4_turnRound 14 = .ok (.aload_n 0, 1) := by decide +kernel
theorem dX4_turnRound_15 : decode cX4_turnRound 15 = .ok (.iload_n 2, 1) := by decide +kernel
theorem dX4_turnRound_16 : decode cX4_turnRound 16 = .ok (.iload_n 3, 1) := by decide +kernel
theorem dX4_turnRound_17 : decode cX4_turnRound 17 = .ok (.invokestatic 66, 3) := by decide +kernel
theorem dX4_turnRound_20 : decode cX4_turnRound 20 = .ok (.iinc 2 1, 3) := by decide +kernel
theorem dX4_turnRound_23 : decode cX4_turnRound 23 = .ok (.iinc 3 (-1), 3) := by decide +kernel
theorem dX4_turnRound_26 : decode cX4_turnRound 26 = .ok (.goto (-17), 3) := by decide +kernel
theorem dX4_turnRound_29 : decode cX4_turnRound 29 = .ok (.return_, 1) := by decide +kernel
theorem dX4_swap_0 : decode cX4_swap 0 = .ok (.aload_n 0, 1) := by decide +kernel
theorem dX4_swap_1 : decode cX4_swap 1 = .ok (.iload_n 1, 1) := by decide +kernel
theorem dX4_swap_2 : decode cX4_swap 2 = .ok (.invokevirtual 79, 3) := by decide +kernel
theorem dX4_swap_5 : decode cX4_swap 5 = .ok (.ifCond .eq 37, 3) := by decide +kernel
theorem dX4_swap_8 : decode cX4_swap 8 = .ok (.aload_n 0, 1) := by decide +kernel
theorem dX4_swap_9 : decode cX4_swap 9 = .ok (.iload_n 2, 1) := by decide +kernel
theorem dX4_swap_10 : decode cX4_swap 10 = .ok (.invokevirtual 79, 3) := by decide +kernel
theorem dX4_swap_13 : decode cX4_swap 13 = .ok (.ifCond .eq 29, 3) := by decide +kernel
theorem dX4_swap_16 : decode cX4_swap 16 = .ok (.aload_n 0, 1) := by decide +kernel
theorem dX4_swap_17 : decode cX4_swap 17 = .ok (.getfield 24, 3) := by decide +kernel
theorem dX4_swap_20 : decode cX4_swap 20 = .ok (.iload_n 1, 1) := by decide +kernel
theorem dX4_swap_21 : decode cX4_swap 21 = .ok (.iaload, 1) := by decide +kernel
theorem dX4_swap_22 : decode cX4_swap 22 = .ok (.istore_n 3, 1) := by decide +kernel
theorem dX4_swap_23 : decode cX4_swap 23 = .ok (.aload_n 0, 1) := by decide +kernel
theorem dX4_swap_24 : decode cX4_swap 24 = .ok (.getfield 24, 3) := by decide +kernel
theorem dX4_swap_27 : decode cX4_swap 27 = .ok (.iload_n 1, 1) := by decide +kernel
theorem dX4_swap_28 : decode cX4_swap 28 = .ok (.aload_n 0, 1) := by decide +kernel
theorem dX4_swap_29 : decode cX4_swap 29 = .ok (.getfield 24, 3) := by decide +kernel
theorem dX4_swap_32 : decode cX4_swap 32 = .ok (.iload_n 2, 1) := by decide +kernel
theorem dX4_swap_33 : decode cX4_swap 33 = .ok (.iaload, 1) := by decide +kernel
theorem dX4_swap_34 : decode cX4_swap 34 = .ok (.iastore, 1) := by decide +kernel
theorem dX4_swap_35 : decode cX4_swap 35 = .ok (.aload_n 0, 1) := by decide +kernel
theorem dX4_swap_36 : decode cX4_swap 36 = .ok (.getfield 24, 3) := by decide +kernel
theorem dX4_swap_39 : decode cX4_swap 39 = .ok (.iload_n 2, 1) := by decide +kernel
theorem dX4_swap_40 : decode cX4_swap 40 = .ok (.iload_n 3, 1) := by decide +kernel
theorem dX4_swap_41 : decode cX4_swap 41 = .ok (.iastore, 1) := by decide +kernel
theorem dX4_swap_42 : decode cX4_swap 42 = .ok (.return_, 1) := by decide +kernel
theorem dX5_init_0 : decode cX5_init 0 = .ok (.aload_n 0, 1) := by decide +kernel
theorem dX5_init_1 : decode cX5_init 1 = .ok (.invokespecial 3, 3) := by decide +kernel
theorem dX5_init_4 : decode cX5_init 4 = .ok (.aload_n 0, 1) := by decide +kernel
theorem dX5_init_5 : decode cX5_init 5 = .ok (.bipush 7, 2) := by decide +kernel
theorem dX5_init_7 : decode cX5_init 7 = .ok (.newarray .int, 2) := by decide +kernel
theorem dX5_init_9 : decode cX5_init 9 = .ok (.putfield 9, 3) := by decide +kernel
theorem dX5_init_12 : decode cX5_init 12 = .ok (.aload_n 0, 1) := by decide +kernel
theorem dX5_init_13 : decode cX5_init 13 = .ok (.bipush 7, 2) := by decide +kernel
theorem dX5_init_15 : decode cX5_init 15 = .ok (.newarray .int, 2) := by decide +kernel
theorem dX5_init_17 : decode cX5_init 17 = .ok (.putfield 15, 3) := by decide +kernel
theorem dX5_init_20 : decode cX5_init 20 = .ok (.aload_n 0, 1) := by decide +kernel
theorem dX5_init_21 : decode cX5_init 21 = .ok (.bipush 7, 2) := by decide +kernel
theorem dX5_init_23 : decode cX5_init 23 = .ok (.newarray .int, 2) := by decide +kernel
theorem dX5_init_25 : decode cX5_init 25 = .ok (.putfield 18, 3) := by decide +kernel
theorem dX5_init_28 : decode cX5_init 28 = .ok (.aload_n 0, 1) := by decide +kernel
theorem dX5_init_29 : decode cX5_init 29 = .ok (.bipush 7, 2) := by decide +kernel
theorem dX5_init_31 : decode cX5_init 31 = .ok (.newarray .int, 2) := by decide +kernel
theorem dX5_init_33 : decode cX5_init 33 = .ok (.putfield 21, 3) := by decide +kernel
theorem dX5_init_36 : decode cX5_init 36 = .ok (.aload_n 0, 1) := by decide +kernel
theorem dX5_init_37 : decode cX5_init 37 = .ok (.bipush 7, 2) := by decide +kernel
theorem dX5_init_39 : decode cX5_init 39 = .ok (.newarray .int, 2) := by decide +kernel
theorem dX5_init_41 : decode cX5_init 41 = .ok (.putfield 24, 3) := by decide +kernel
theorem dX5_init_44 : decode cX5_init 44 = .ok (.aload_n 0, 1) := by decide +kernel
theorem dX5_init_45 : decode cX5_init 45 = .ok (.bipush 7, 2) := by decide +kernel
theorem dX5_init_47 : decode cX5_init 47 = .ok (.newarray .int, 2) := by decide +kernel
theorem dX5_init_49 : decode cX5_init 49 = .ok (.putfield 27, 3) := by decide +kernel
theorem dX5_init_52 : decode cX5_init 52 = .ok (.return_, 1) := by decide +kernel
theorem dX5_has_0 : decode cX5_has 0 = .ok (.iload_n 1, 1) := by decide +kernel
theorem dX5_has_1 : decode cX5_has 1 = .ok (.ifCond .lt 15, 3) := by decide +kernel
theorem dX5_has_4 : decode cX5_has 4 = .ok (.iload_n 1, 1) := by decide +kernel
theorem dX5_has_5 : decode cX5_has 5 = .ok (.aload_n 0, 1) := by decide +kernel
theorem dX5_has_6 : decode cX5_has 6 = .ok (.getfield 30, 3) := by decide +kernel
theorem dX5_has_9 : decode cX5_has 9 = .ok (.if_icmp .ge 7, 3) := by decide +kernel
theorem dX5_has_12 : decode cX5_has 12 = .ok (.iconst 1, 1) := by decide +kernel
theorem dX5_has_13 : decode cX5_has 13 = .ok (.goto 4, 3) := by decide +kernel
theorem dX5_has_16 : decode cX5_has 16 = .ok (.iconst 0, 1) := by decide +kernel
theorem dX5_has_17 : decode cX5_has 17 = .ok (.ireturn, 1) := by decide +kernel
theorem dX5_everyone_0 : decode cX5_everyone 0 = .ok (.iconst 1, 1) := by decide +kernel
theorem dX5_everyone_1 : decode cX5_everyone 1 = .ok (.aload_n 0, 1) := by decide +kernel
theorem dX5_everyone_2 : decode cX5_everyone 2 = .ok (.getfield 30, 3) := by decide +kernel
theorem dX5_everyone_5 : decode cX5_everyone 5 = .ok (.ishl, 1) := by decide +kernel
theorem dX5_everyone_6 : decode cX5_everyone 6 = .ok (.iconst 1, 1) := by decide +kernel
theorem dX5_everyone_7 : decode cX5_everyone 7 = .ok (.isub, 1) := by decide +kernel
theorem dX5_everyone_8 : decode cX5_everyone 8 = .ok (.ireturn, 1) := by decide +kernel
theorem dX5_add_0 : decode cX5_add 0 = .ok (.aload_n 0, 1) := by decide +kernel
theorem dX5_add_1 : decode cX5_add 1 = .ok (.getfield 30, 3) := by decide +kernel
theorem dX5_add_4 : decode cX5_add 4 = .ok (.bipush 7, 2) := by decide +kernel
theorem dX5_add_6 : decode cX5_add 6 = .ok (.if_icmp .lt 5, 3) := by decide +kernel
theorem dX5_add_9 : decode cX5_add 9 = .ok (.iconst 0, 1) := by decide +kernel
theorem dX5_add_10 : decode cX5_add 10 = .ok (.ireturn, 1) := by decide +kernel
theorem dX5_add_11 : decode cX5_add 11 = .ok (.aload_n 0, 1) := by decide +kernel
theorem dX5_add_12 : decode cX5_add 12 = .ok (.getfield 9, 3) := by decide +kernel
theorem dX5_add_15 : decode cX5_add 15 = .ok (.aload_n 0, 1) := by decide +kernel
theorem dX5_add_16 : decode cX5_add 16 = .ok (.getfield 30, 3) := by decide +kernel
theorem dX5_add_19 : decode cX5_add 19 = .ok (.iload_n 1, 1) := by decide +kernel
theorem dX5_add_20 : decode cX5_add 20 = .ok (.iastore, 1) := by decide +kernel
theorem dX5_add_21 : decode cX5_add 21 = .ok (.aload_n 0, 1) := by decide +kernel
theorem dX5_add_22 : decode cX5_add 22 = .ok (.getfield 15, 3) := by decide +kernel
theorem dX5_add_25 : decode cX5_add 25 = .ok (.aload_n 0, 1) := by decide +kernel
theorem dX5_add_26 : decode cX5_add 26 = .ok (.getfield 30, 3) := by decide +kernel
theorem dX5_add_29 : decode cX5_add 29 = .ok (.iload_n 2, 1) := by decide +kernel
theorem dX5_add_30 : decode cX5_add 30 = .ok (.iastore, 1) := by decide +kernel
theorem dX5_add_31 : decode cX5_add 31 = .ok (.aload_n 0, 1) := by decide +kernel
theorem dX5_add_32 : decode cX5_add 32 = .ok (.getfield 18, 3) := by decide +kernel
theorem dX5_add_35 : decode cX5_add 35 = .ok (.aload_n 0, 1) := by decide +kernel
theorem dX5_add_36 : decode cX5_add 36 = .ok (.getfield 30, 3) := by decide +kernel
theorem dX5_add_39 : decode cX5_add 39 = .ok (.iload_n 3, 1) := by decide +kernel
theorem dX5_add_40 : decode cX5_add 40 = .ok (.iastore, 1) := by decide +kernel
theorem dX5_add_41 : decode cX5_add 41 = .ok (.aload_n 0, 1) := by decide +kernel
theorem dX5_add_42 : decode cX5_add 42 = .ok (.getfield 21, 3) := by decide +kernel
theorem dX5_add_45 : decode cX5_add 45 = .ok (.aload_n 0, 1) := by decide +kernel
theorem dX5_add_46 : decode cX5_add 46 = .ok (.getfield 30, 3) := by decide +kernel
theorem dX5_add_49 : decode cX5_add 49 = .ok (.iconst 0, 1) := by decide +kernel
theorem dX5_add_50 : decode cX5_add 50 = .ok (.iastore, 1) := by decide +kernel
theorem dX5_add_51 : decode cX5_add 51 = .ok (.aload_n 0, 1) := by decide +kernel
theorem dX5_add_52 : decode cX5_add 52 = .ok (.getfield 24, 3) := by decide +kernel
theorem dX5_add_55 : decode cX5_add 55 = .ok (.aload_n 0, 1) := by decide +kernel
theorem dX5_add_56 : decode cX5_add 56 = .ok (.getfield 30, 3) := by decide +kernel
theorem dX5_add_59 : decode cX5_add 59 = .ok (.iconst 0, 1) := by decide +kernel
theorem dX5_add_60 : decode cX5_add 60 = .ok (.iastore, 1) := by decide +kernel
theorem dX5_add_61 : decode cX5_add 61 = .ok (.aload_n 0, 1) := by decide +kernel
theorem dX5_add_62 : decode cX5_add 62 = .ok (.getfield 27, 3) := by decide +kernel
theorem dX5_add_65 : decode cX5_add 65 = .ok (.aload_n 0, 1) := by decide +kernel
theorem dX5_add_66 : decode cX5_add 66 = .ok (.getfield 30, 3) := by decide +kernel
theorem dX5_add_69 : decode cX5_add 69 = .ok (.aload_n 0, 1) := by decide +kernel
theorem dX5_add_70 : decode cX5_add 70 = .ok (.getfield 30, 3) := by decide +kernel
theorem dX5_add_73 : decode cX5_add 73 = .ok (.iastore, 1) := by decide +kernel
theorem dX5_add_74 : decode cX5_add 74 = .ok (.aload_n 0, 1) := by decide +kernel
theorem dX5_add_75 : decode cX5_add 75 = .ok (.dup, 1) := by decide +kernel
theorem dX5_add_76 : decode cX5_add 76 = .ok (.getfield 30, 3) := by decide +kernel
theorem dX5_add_79 : decode cX5_add 79 = .ok (.iconst 1, 1) := by decide +kernel
theorem dX5_add_80 : decode cX5_add 80 = .ok (.iadd, 1) := by decide +kernel
theorem dX5_add_81 : decode cX5_add 81 = .ok (.putfield 30, 3) := by decide +kernel
theorem dX5_add_84 : decode cX5_add 84 = .ok (.iconst 1, 1) := by decide +kernel
theorem dX5_add_85 : decode cX5_add 85 = .ok (.ireturn, 1) := by decide +kernel
theorem dX5_befriend_0 : decode cX5_befriend 0 = .ok (.aload_n 0, 1) := by decide +kernel
theorem dX5_befriend_1 : decode cX5_befriend 1 = .ok (.iload_n 1, 1) := by decide +kernel
theorem dX5_befriend_2 : decode cX5_befriend 2 = .ok (.invokevirtual 34, 3) := by decide +kernel
theorem dX5_befriend_5 : decode cX5_befriend 5 = .ok (.ifCond .eq 16, 3) := by decide +kernel
theorem dX5_befriend_8 : decode cX5_befriend 8 = .ok (.aload_n 0, 1) := by decide +kernel
theorem dX5_befriend_9 : decode cX5_befriend 9 = .ok (.iload_n 2, 1) := by decide +kernel
theorem dX5_befriend_10 : decode cX5_befriend 10 = .ok (.invokevirtual 34, 3) := by decide +kernel
theorem dX5_befriend_13 : decode cX5_befriend 13 = .ok (.ifCond .eq 8, 3) := by decide +kernel
theorem dX5_befriend_16 : decode cX5_befriend 16 = .ok (.iload_n 1, 1) := by decide +kernel
theorem dX5_befriend_17 : decode cX5_befriend 17 = .ok (.iload_n 2, 1) := by decide +kernel
theorem dX5_befriend_18 : decode cX5_befriend 18 = .ok (.if_icmp .ne 5, 3) := by decide +kernel
theorem dX5_befriend_21 : decode cX5_befriend 21 = .ok (.iconst 0, 1) := by decide +kernel
theorem dX5_befriend_22 : decode cX5_befriend 22 = .ok (.ireturn, 1) := by decide +kernel
theorem dX5_befriend_23 : decode cX5_befriend 23 = .ok (.aload_n 0, 1) := by decide +kernel
theorem dX5_befriend_24 : decode cX5_befriend 24 = .ok (.getfield 21, 3) := by decide +kernel
theorem dX5_befriend_27 : decode cX5_befriend 27 = .ok (.iload_n 1, 1) := by decide +kernel
theorem dX5_befriend_28 : decode cX5_befriend 28 = .ok (.dup2, 1) := by decide +kernel
theorem dX5_befriend_29 : decode cX5_befriend 29 = .ok (.iaload, 1) := by decide +kernel
theorem dX5_befriend_30 : decode cX5_befriend 30 = .ok (.iconst 1, 1) := by decide +kernel
theorem dX5_befriend_31 : decode cX5_befriend 31 = .ok (.iload_n 2, 1) := by decide +kernel
theorem dX5_befriend_32 : decode cX5_befriend 32 = .ok (.ishl, 1) := by decide +kernel
theorem dX5_befriend_33 : decode cX5_befriend 33 = .ok (.ior, 1) := by decide +kernel
theorem dX5_befriend_34 : decode cX5_befriend 34 = .ok (.iastore, 1) := by decide +kernel
theorem dX5_befriend_35 : decode cX5_befriend 35 = .ok (.iconst 1, 1) := by decide +kernel
theorem dX5_befriend_36 : decode cX5_befriend 36 = .ok (.ireturn, 1) := by decide +kernel
theorem dX5_hereBy_0 : decode cX5_hereBy 0 = .ok (.iconst 0, 1) := by decide +kernel
theorem dX5_hereBy_1 : decode cX5_hereBy 1 = .ok (.istore_n 2, 1) := by decide +kernel
theorem dX5_hereBy_2 : decode cX5_hereBy 2 = .ok (.iconst 0, 1) := by decide +kernel
theorem dX5_hereBy_3 : decode cX5_hereBy 3 = .ok (.istore_n 3, 1) := by decide +kernel
theorem dX5_hereBy_4 : decode cX5_hereBy 4 = .ok (.iload_n 3, 1) := by decide +kernel
theorem dX5_hereBy_5 : decode cX5_hereBy 5 = .ok (.aload_n 0, 1) := by decide +kernel
theorem dX5_hereBy_6 : decode cX5_hereBy 6 = .ok (.getfield 30, 3) := by decide +kernel
theorem dX5_hereBy_9 : decode cX5_hereBy 9 = .ok (.if_icmp .ge 25, 3) := by decide +kernel
theorem dX5_hereBy_12 : decode cX5_hereBy 12 = .ok (.aload_n 0, 1) := by decide +kernel
theorem dX5_hereBy_13 : decode cX5_hereBy 13 = .ok (.getfield 15, 3) := by decide +kernel
theorem dX5_hereBy_16 : decode cX5_hereBy 16 = .ok (.iload_n 3, 1) := by decide +kernel
theorem dX5_hereBy_17 : decode cX5_hereBy 17 = .ok (.iaload, 1) := by decide +kernel
theorem dX5_hereBy_18 : decode cX5_hereBy 18 = .ok (.iload_n 1, 1) := by decide +kernel
theorem dX5_hereBy_19 : decode cX5_hereBy 19 = .ok (.if_icmp .gt 9, 3) := by decide +kernel
theorem dX5_hereBy_22 : decode cX5_hereBy 22 = .ok (.iload_n 2, 1) := by decide +kernel
theorem dX5_hereBy_23 : decode cX5_hereBy 23 = .ok (.iconst 1, 1) := by decide +kernel
theorem dX5_hereBy_24 : decode cX5_hereBy 24 = .ok (.iload_n 3, 1) := by decide +kernel
theorem dX5_hereBy_25 : decode cX5_hereBy 25 = .ok (.ishl, 1) := by decide +kernel
theorem dX5_hereBy_26 : decode cX5_hereBy 26 = .ok (.ior, 1) := by decide +kernel
theorem dX5_hereBy_27 : decode cX5_hereBy 27 = .ok (.istore_n 2, 1) := by decide +kernel
theorem dX5_hereBy_28 : decode cX5_hereBy 28 = .ok (.iinc 3 1, 3) := by decide +kernel
theorem dX5_hereBy_31 : decode cX5_hereBy 31 = .ok (.goto (-27), 3) := by decide +kernel
theorem dX5_hereBy_34 : decode cX5_hereBy 34 = .ok (.iload_n 2, 1) := by decide +kernel
theorem dX5_hereBy_35 : decode cX5_hereBy 35 = .ok (.ireturn, 1) := by decide +kernel
theorem dX5_harmAt_0 : decode cX5_harmAt 0 = .ok (.aload_n 0, 1) := by decide +kernel
theorem dX5_harmAt_1 : decode cX5_harmAt 1 = .ok (.iload_n 1, 1) := by decide +kernel
theorem dX5_harmAt_2 : decode cX5_harmAt 2 = .ok (.invokevirtual 34, 3) := by decide +kernel
theorem dX5_harmAt_5 : decode cX5_harmAt 5 = .ok (.ifCond .ne 5, 3) := by decide +kernel
theorem dX5_harmAt_8 : decode cX5_harmAt 8 = .ok (.iconst 0, 1) := by decide +kernel
theorem dX5_harmAt_9 : decode cX5_harmAt 9 = .ok (.ireturn, 1) := by decide +kernel
theorem dX5_harmAt_10 : decode cX5_harmAt 10 = .ok (.aload_n 0, 1) := by decide +kernel
theorem dX5_harmAt_11 : decode cX5_harmAt 11 = .ok (.getfield 18, 3) := by decide +kernel
theorem dX5_harmAt_14 : decode cX5_harmAt 14 = .ok (.iload_n 1, 1) := by decide +kernel
theorem dX5_harmAt_15 : decode cX5_harmAt 15 = .ok (.iaload, 1) := by decide +kernel
theorem dX5_harmAt_16 : decode cX5_harmAt 16 = .ok (.iconst 4, 1) := by decide +kernel
theorem dX5_harmAt_17 : decode cX5_harmAt 17 = .ok (.if_icmp .ne 18, 3) := by decide +kernel
theorem dX5_harmAt_20 : decode cX5_harmAt 20 = .ok (.iconst 0, 1) := by decide +kernel
theorem dX5_harmAt_21 : decode cX5_harmAt 21 = .ok (.iload_n 2, 1) := by decide +kernel
theorem dX5_harmAt_22 : decode cX5_harmAt 22 = .ok (.aload_n 0, 1) := by decide +kernel
theorem dX5_harmAt_23 : decode cX5_harmAt 23 = .ok (.getfield 15, 3) := by decide +kernel
theorem dX5_harmAt_26 : decode cX5_harmAt 26 = .ok (.iload_n 1, 1) := by decide +kernel
theorem dX5_harmAt_27 : decode cX5_harmAt 27 = .ok (.iaload, 1) := by decide +kernel
theorem dX5_harmAt_28 : decode cX5_harmAt 28 = .ok (.isub, 1) := by decide +kernel
theorem dX5_harmAt_29 : decode cX5_harmAt 29 = .ok (.invokestatic 38, 3) := by decide +kernel
theorem dX5_harmAt_32 : decode cX5_harmAt 32 = .ok (.goto 4, 3) := by decide +kernel
theorem dX5_harmAt_35 : decode cX5_harmAt 35 = .ok (.iconst 0, 1) := by decide +kernel
theorem dX5_harmAt_36 : decode cX5_harmAt 36 = .ok (.istore 4, 2) := by decide +kernel
theorem dX5_harmAt_38 : decode cX5_harmAt 38 = .ok (.aload_n 0, 1) := by decide +kernel
theorem dX5_harmAt_39 : decode cX5_harmAt 39 = .ok (.getfield 18, 3) := by decide +kernel
theorem dX5_harmAt_42 : decode cX5_harmAt 42 = .ok (.iload_n 1, 1) := by decide +kernel
theorem dX5_harmAt_43 : decode cX5_harmAt 43 = .ok (.iaload, 1) := by decide +kernel
theorem dX5_harmAt_44 : decode cX5_harmAt 44 = .ok (.aload_n 0, 1) := by decide +kernel
theorem dX5_harmAt_45 : decode cX5_harmAt 45 = .ok (.getfield 9, 3) := by decide +kernel
theorem dX5_harmAt_48 : decode cX5_harmAt 48 = .ok (.iload_n 1, 1) := by decide +kernel
theorem dX5_harmAt_49 : decode cX5_harmAt 49 = .ok (.iaload, 1) := by decide +kernel
theorem dX5_harmAt_50 : decode cX5_harmAt 50 = .ok (.aload_n 0, 1) := by decide +kernel
theorem dX5_harmAt_51 : decode cX5_harmAt 51 = .ok (.getfield 24, 3) := by decide +kernel
theorem dX5_harmAt_54 : decode cX5_harmAt 54 = .ok (.iload_n 1, 1) := by decide +kernel
theorem dX5_harmAt_55 : decode cX5_harmAt 55 = .ok (.iaload, 1) := by decide +kernel
theorem dX5_harmAt_56 : decode cX5_harmAt 56 = .ok (.iadd, 1) := by decide +kernel
theorem dX5_harmAt_57 : decode cX5_harmAt 57 = .ok (.iload 4, 2) := by decide +kernel
theorem dX5_harmAt_59 : decode cX5_harmAt 59 = .ok (.iadd, 1) := by decide +kernel
theorem dX5_harmAt_60 : decode cX5_harmAt 60 = .ok (.iload_n 3, 1) := by decide +kernel
theorem dX5_harmAt_61 : decode cX5_harmAt 61 = .ok (.isub, 1) := by decide +kernel
theorem dX5_harmAt_62 : decode cX5_harmAt 62 = .ok (.invokestatic 44, 3) := by decide +kernel
theorem dX5_harmAt_65 : decode cX5_harmAt 65 = .ok (.ireturn, 1) := by decide +kernel
theorem dX5_harmBy_0 : decode cX5_harmBy 0 = .ok (.iload_n 1, 1) := by decide +kernel
theorem dX5_harmBy_1 : decode cX5_harmBy 1 = .ok (.ifCond .ge 8, 3) := by decide +kernel
theorem dX5_harmBy_4 : decode cX5_harmBy 4 = .ok (.iload_n 1, 1) := by decide +kernel
theorem dX5_harmBy_5 : decode cX5_harmBy 5 = .ok (.ineg, 1) := by decide +kernel
theorem dX5_harmBy_6 : decode cX5_harmBy 6 = .ok (.goto 4, 3) := by decide +kernel
theorem dX5_harmBy_9 : decode cX5_harmBy 9 = .ok (.iload_n 1, 1) := by decide +kernel
theorem dX5_harmBy_10 : decode cX5_harmBy 10 = .ok (.istore_n 2, 1) := by decide +kernel
theorem dX5_harmBy_11 : decode cX5_harmBy 11 = .ok (.iload_n 0, 1) := by decide +kernel
theorem dX5_harmBy_12 : decode cX5_harmBy 12 = .ok (.iconst 1, 1) := by decide +kernel
theorem dX5_harmBy_13 : decode cX5_harmBy 13 = .ok (.if_icmp .ne 22, 3) := by decide +kernel
theorem dX5_harmBy_16 : decode cX5_harmBy 16 = .ok (.iload_n 1, 1) := by decide +kernel
theorem dX5_harmBy_17 : decode cX5_harmBy 17 = .ok (.ifCond .le 18, 3) := by decide +kernel
theorem dX5_harmBy_20 : decode cX5_harmBy 20 = .ok (.iload_n 2, 1) := by decide +kernel
theorem dX5_harmBy_21 : decode cX5_harmBy 21 = .ok (.bipush 6, 2) := by decide +kernel
theorem dX5_harmBy_23 : decode cX5_harmBy 23 = .ok (.if_icmp .le 10, 3) := by decide +kernel
theorem dX5_harmBy_26 : decode cX5_harmBy 26 = .ok (.iload_n 2, 1) := by decide +kernel
theorem dX5_harmBy_27 : decode cX5_harmBy 27 = .ok (.bipush 6, 2) := by decide +kernel
theorem dX5_harmBy_29 : decode cX5_harmBy 29 = .ok (.isub, 1) := by decide +kernel
theorem dX5_harmBy_30 : decode cX5_harmBy 30 = .ok (.goto 4, 3) := by decide +kernel
theorem dX5_harmBy_33 : decode cX5_harmBy 33 = .ok (.iconst 0, 1) := by decide +kernel
theorem dX5_harmBy_34 : decode cX5_harmBy 34 = .ok (.ireturn, 1) := by decide +kernel
theorem dX5_harmBy_35 : decode cX5_harmBy 35 = .ok (.iload_n 0, 1) := by decide +kernel
theorem dX5_harmBy_36 : decode cX5_harmBy 36 = .ok (.iconst 2, 1) := by decide +kernel
theorem dX5_harmBy_37 : decode cX5_harmBy 37 = .ok (.if_icmp .ne 11, 3) := by decide +kernel
theorem dX5_harmBy_40 : decode cX5_harmBy 40 = .ok (.iload_n 1, 1) := by decide +kernel
theorem dX5_harmBy_41 : decode cX5_harmBy 41 = .ok (.ifCond .ge 7, 3) := by decide +kernel
theorem dX5_harmBy_44 : decode cX5_harmBy 44 = .ok (.iconst 2, 1) := by decide +kernel
theorem dX5_harmBy_45 : decode cX5_harmBy 45 = .ok (.iload_n 2, 1) := by decide +kernel
theorem dX5_harmBy_46 : decode cX5_harmBy 46 = .ok (.imul, 1) := by decide +kernel
theorem dX5_harmBy_47 : decode cX5_harmBy 47 = .ok (.ireturn, 1) := by decide +kernel
theorem dX5_harmBy_48 : decode cX5_harmBy 48 = .ok (.iload_n 0, 1) := by decide +kernel
theorem dX5_harmBy_49 : decode cX5_harmBy 49 = .ok (.iconst 3, 1) := by decide +kernel
theorem dX5_harmBy_50 : decode cX5_harmBy 50 = .ok (.if_icmp .ne 16, 3) := by decide +kernel
theorem dX5_harmBy_53 : decode cX5_harmBy 53 = .ok (.iload_n 2, 1) := by decide +kernel
theorem dX5_harmBy_54 : decode cX5_harmBy 54 = .ok (.iconst 2, 1) := by decide +kernel
theorem dX5_harmBy_55 : decode cX5_harmBy 55 = .ok (.if_icmp .le 9, 3) := by decide +kernel
theorem dX5_harmBy_58 : decode cX5_harmBy 58 = .ok (.iload_n 2, 1) := by decide +kernel
theorem dX5_harmBy_59 : decode cX5_harmBy 59 = .ok (.iconst 2, 1) := by decide +kernel
theorem dX5_harmBy_60 : decode cX5_harmBy 60 = .ok (.isub, 1) := by decide +kernel
theorem dX5_harmBy_61 : decode cX5_harmBy 61 = .ok (.goto 4, 3) := by decide +kernel
theorem dX5_harmBy_64 : decode cX5_harmBy 64 = .ok (.iconst 0, 1) := by decide +kernel
theorem dX5_harmBy_65 : decode cX5_harmBy 65 = .ok (.ireturn, 1) := by decide +kernel
theorem dX5_harmBy_66 : decode cX5_harmBy 66 = .ok (.iload_n 2, 1) := by decide +kernel
theorem dX5_harmBy_67 : decode cX5_harmBy 67 = .ok (.ireturn, 1) := by decide +kernel
theorem dX5_placeOf_0 : decode cX5_placeOf 0 = .ok (.iconst 0, 1) := by decide +kernel
theorem dX5_placeOf_1 : decode cX5_placeOf 1 = .ok (.istore_n 2, 1) := by decide +kernel
theorem dX5_placeOf_2 : decode cX5_placeOf 2 = .ok (.iload_n 2, 1) := by decide +kernel
theorem dX5_placeOf_3 : decode cX5_placeOf 3 = .ok (.aload_n 0, 1) := by decide +kernel
theorem dX5_placeOf_4 : decode cX5_placeOf 4 = .ok (.getfield 30, 3) := by decide +kernel
theorem dX5_placeOf_7 : decode cX5_placeOf 7 = .ok (.if_icmp .ge 21, 3) := by decide +kernel
theorem dX5_placeOf_10 : decode cX5_placeOf 10 = .ok (.aload_n 0, 1) := by decide +kernel
theorem dX5_placeOf_11 : decode cX5_placeOf 11 = .ok (.getfield 27, 3) := by decide +kernel
theorem dX5_placeOf_14 : decode cX5_placeOf 14 = .ok (.iload_n 2, 1) := by decide +kernel
theorem dX5_placeOf_15 : decode cX5_placeOf 15 = .ok (.iaload, 1) := by decide +kernel
theorem dX5_placeOf_16 : decode cX5_placeOf 16 = .ok (.iload_n 1, 1) := by decide +kernel
theorem dX5_placeOf_17 : decode cX5_placeOf 17 = .ok (.if_icmp .ne 5, 3) := by decide +kernel
theorem dX5_placeOf_20 : decode cX5_placeOf 20 = .ok (.iload_n 2, 1) := by decide +kernel
theorem dX5_placeOf_21 : decode cX5_placeOf 21 = .ok (.ireturn, 1) := by decide +kernel
theorem dX5_placeOf_22 : decode cX5_placeOf 22 = .ok (.iinc 2 1, 3) := by decide +kernel
theorem dX5_placeOf_25 : decode cX5_placeOf 25 = .ok (.goto (-23), 3) := by decide +kernel
theorem dX5_placeOf_28 : decode cX5_placeOf 28 = .ok (.iconst 0, 1) := by decide +kernel
theorem dX5_placeOf_29 : decode cX5_placeOf 29 = .ok (.ireturn, 1) := by decide +kernel
theorem dX5_shift_0 : decode cX5_shift 0 = .ok (.aload_n 0, 1) := by decide +kernel
theorem dX5_shift_1 : decode cX5_shift 1 = .ok (.iload_n 1, 1) := by decide +kernel
theorem dX5_shift_2 : decode cX5_shift 2 = .ok (.invokevirtual 34, 3) := by decide +kernel
theorem dX5_shift_5 : decode cX5_shift 5 = .ok (.ifCond .eq 11, 3) := by decide +kernel
theorem dX5_shift_8 : decode cX5_shift 8 = .ok (.aload_n 0, 1) := by decide +kernel
theorem dX5_shift_9 : decode cX5_shift 9 = .ok (.iload_n 2, 1) := by decide +kernel
theorem dX5_shift_10 : decode cX5_shift 10 = .ok (.invokevirtual 34, 3) := by decide +kernel
theorem dX5_shift_13 : decode cX5_shift 13 = .ok (.ifCond .ne 4, 3) := by decide +kernel
theorem dX5_shift_16 : decode cX5_shift 16 = .ok (.return_, 1) := by decide +kernel
theorem dX5_shift_17 : decode cX5_shift 17 = .ok (.aload_n 0, 1) := by decide +kernel
theorem dX5_shift_18 : decode cX5_shift 18 = .ok (.getfield 27, 3) := by decide +kernel
theorem dX5_shift_21 : decode cX5_shift 21 = .ok (.iload_n 1, 1) := by decide +kernel
theorem dX5_shift_22 : decode cX5_shift 22 = .ok (.iaload, 1) := by decide +kernel
theorem dX5_shift_23 : decode cX5_shift 23 = .ok (.istore_n 3, 1) := by decide +kernel
theorem dX5_shift_24 : decode cX5_shift 24 = .ok (.iload_n 1, 1) := by decide +kernel
theorem dX5_shift_25 : decode cX5_shift 25 = .ok (.istore 4, 2) := by decide +kernel
theorem dX5_shift_27 : decode cX5_shift 27 = .ok (.iload 4, 2) := by decide +kernel
theorem dX5_shift_29 : decode cX5_shift 29 = .ok (.iload_n 2, 1) := by decide +kernel
theorem dX5_shift_30 : decode cX5_shift 30 = .ok (.if_icmp .ge 25, 3) := by decide +kernel
theorem dX5_shift_33 : decode cX5_shift 33 = .ok (.aload_n 0, 1) := by decide +kernel
theorem dX5_shift_34 : decode cX5_shift 34 = .ok (.getfield 27, 3) := by decide +kernel
theorem dX5_shift_37 : decode cX5_shift 37 = .ok (.iload 4, 2) := by decide +kernel
theorem dX5_shift_39 : decode cX5_shift 39 = .ok (.aload_n 0, 1) := by decide +kernel
theorem dX5_shift_40 : decode cX5_shift 40 = .ok (.getfield 27, 3) := by decide +kernel
theorem dX5_shift_43 : decode cX5_shift 43 = .ok (.iload 4, 2) := by decide +kernel
theorem dX5_shift_45 : decode cX5_shift 45 = .ok (.iconst 1, 1) := by decide +kernel
theorem dX5_shift_46 : decode cX5_shift 46 = .ok (.iadd, 1) := by decide +kernel
theorem dX5_shift_47 : decode cX5_shift 47 = .ok (.iaload, 1) := by decide +kernel
theorem dX5_shift_48 : decode cX5_shift 48 = .ok (.iastore, 1) := by decide +kernel
theorem dX5_shift_49 : decode cX5_shift 49 = .ok (.iinc 4 1, 3) := by decide +kernel
theorem dX5_shift_52 : decode cX5_shift 52 = .ok (.goto (-25), 3) := by decide +kernel
theorem dX5_shift_55 : decode cX5_shift 55 = .ok (.iload_n 1, 1) := by decide +kernel
theorem dX5_shift_56 : decode cX5_shift 56 = .ok (.istore 4, 2) := by decide +kernel
theorem dX5_shift_58 : decode cX5_shift 58 = .ok (.iload 4, 2) := by decide +kernel
theorem dX5_shift_60 : decode cX5_shift 60 = .ok (.iload_n 2, 1) := by decide +kernel
theorem dX5_shift_61 : decode cX5_shift 61 = .ok (.if_icmp .le 25, 3) := by decide +kernel
theorem dX5_shift_64 : decode cX5_shift 64 = .ok (.aload_n 0, 1) := by decide +kernel
theorem dX5_shift_65 : decode cX5_shift 65 = .ok (.getfield 27, 3) := by decide +kernel
theorem dX5_shift_68 : decode cX5_shift 68 = .ok (.iload 4, 2) := by decide +kernel
theorem dX5_shift_70 : decode cX5_shift 70 = .ok (.aload_n 0, 1) := by decide +kernel
theorem dX5_shift_71 : decode cX5_shift 71 = .ok (.getfield 27, 3) := by decide +kernel
theorem dX5_shift_74 : decode cX5_shift 74 = .ok (.iload 4, 2) := by decide +kernel
theorem dX5_shift_76 : decode cX5_shift 76 = .ok (.iconst 1, 1) := by decide +kernel
theorem dX5_shift_77 : decode cX5_shift 77 = .ok (.isub, 1) := by decide +kernel
theorem dX5_shift_78 : decode cX5_shift 78 = .ok (.iaload, 1) := by decide +kernel
theorem dX5_shift_79 : decode cX5_shift 79 = .ok (.iastore, 1) := by decide +kernel
theorem dX5_shift_80 : decode cX5_shift 80 = .ok (.iinc 4 (-1), 3) := by decide +kernel
theorem dX5_shift_83 : decode cX5_shift 83 = .ok (.goto (-25), 3) := by decide +kernel
theorem dX5_shift_86 : decode cX5_shift 86 = .ok (.aload_n 0, 1) := by decide +kernel
theorem dX5_shift_87 : decode cX5_shift 87 = .ok (.getfield 27, 3) := by decide +kernel
theorem dX5_shift_90 : decode cX5_shift 90 = .ok (.iload_n 2, 1) := by decide +kernel
theorem dX5_shift_91 : decode cX5_shift 91 = .ok (.iload_n 3, 1) := by decide +kernel
theorem dX5_shift_92 : decode cX5_shift 92 = .ok (.iastore, 1) := by decide +kernel
theorem dX5_shift_93 : decode cX5_shift 93 = .ok (.return_, 1) := by decide +kernel
theorem dX5_swapPlaces_0 : decode cX5_swapPlaces 0 = .ok (.aload_n 0, 1) := by decide +kernel
theorem dX5_swapPlaces_1 : decode cX5_swapPlaces 1 = .ok (.iload_n 1, 1) := by decide +kernel
theorem dX5_swapPlaces_2 : decode cX5_swapPlaces 2 = .ok (.invokevirtual 47, 3) := by decide +kernel
theorem dX5_swapPlaces_5 : decode cX5_swapPlaces 5 = .ok (.istore_n 3, 1) := by decide +kernel
theorem dX5_swapPlaces_6 : decode cX5_swapPlaces 6 = .ok (.aload_n 0, 1) := by decide +kernel
theorem dX5_swapPlaces_7 : decode cX5_swapPlaces 7 = .ok (.iload_n 2, 1) := by decide +kernel
theorem dX5_swapPlaces_8 : decode cX5_swapPlaces 8 = .ok (.invokevirtual 47, 3) := by decide +kernel
theorem dX5_swapPlaces_11 : decode cX5_swapPlaces 11 = .ok (.istore 4, 2) := by decide +kernel
theorem dX5_swapPlaces_13 : decode cX5_swapPlaces 13 = .ok (.aload_n 0, 1) := by decide +kernel
theorem dX5_swapPlaces_14 : decode cX5_swapPlaces 14 = .ok (.getfield 27, 3) := by decide +kernel
theorem dX5_swapPlaces_17 : decode cX5_swapPlaces 17 = .ok (.iload_n 3, 1) := by decide +kernel
theorem dX5_swapPlaces_18 : decode cX5_swapPlaces 18 = .ok (.iload_n 2, 1) := by decide +kernel
theorem dX5_swapPlaces_19 : decode cX5_swapPlaces 19 = .ok (.iastore, 1) := by decide +kernel
theorem dX5_swapPlaces_20 : decode cX5_swapPlaces 20 = .ok (.aload_n 0, 1) := by decide +kernel
theorem dX5_swapPlaces_21 : decode cX5_swapPlaces 21 = .ok (.getfield 27, 3) := by decide +kernel
theorem dX5_swapPlaces_24 : decode cX5_swapPlaces 24 = .ok (.iload 4, 2) := by decide +kernel
theorem dX5_swapPlaces_26 : decode cX5_swapPlaces 26 = .ok (.iload_n 1, 1) := by decide +kernel
theorem dX5_swapPlaces_27 : decode cX5_swapPlaces 27 = .ok (.iastore, 1) := by decide +kernel
theorem dX5_swapPlaces_28 : decode cX5_swapPlaces 28 = .ok (.return_, 1) := by decide +kernel
theorem dX6_init_0 : decode cX6_init 0 = .ok (.aload_n 0, 1) := by decide +kernel
theorem dX6_init_1 : decode cX6_init 1 = .ok (.invokespecial 3, 3) := by decide +kernel
theorem dX6_init_4 : decode cX6_init 4 = .ok (.aload_n 0, 1) := by decide +kernel
theorem dX6_init_5 : decode cX6_init 5 = .ok (.bipush 6, 2) := by decide +kernel
theorem dX6_init_7 : decode cX6_init 7 = .ok (.newarray .int, 2) := by decide +kernel
theorem dX6_init_9 : decode cX6_init 9 = .ok (.putfield 9, 3) := by decide +kernel
theorem dX6_init_12 : decode cX6_init 12 = .ok (.aload_n 0, 1) := by decide +kernel
theorem dX6_init_13 : decode cX6_init 13 = .ok (.bipush 6, 2) := by decide +kernel
theorem dX6_init_15 : decode cX6_init 15 = .ok (.newarray .int, 2) := by decide +kernel
theorem dX6_init_17 : decode cX6_init 17 = .ok (.putfield 15, 3) := by decide +kernel
theorem dX6_init_20 : decode cX6_init 20 = .ok (.aload_n 0, 1) := by decide +kernel
theorem dX6_init_21 : decode cX6_init 21 = .ok (.bipush 6, 2) := by decide +kernel
theorem dX6_init_23 : decode cX6_init 23 = .ok (.newarray .int, 2) := by decide +kernel
theorem dX6_init_25 : decode cX6_init 25 = .ok (.putfield 18, 3) := by decide +kernel
theorem dX6_init_28 : decode cX6_init 28 = .ok (.aload_n 0, 1) := by decide +kernel
theorem dX6_init_29 : decode cX6_init 29 = .ok (.sipush 128, 3) := by decide +kernel
theorem dX6_init_32 : decode cX6_init 32 = .ok (.newarray .int, 2) := by decide +kernel
theorem dX6_init_34 : decode cX6_init 34 = .ok (.putfield 21, 3) := by decide +kernel
theorem dX6_init_37 : decode cX6_init 37 = .ok (.return_, 1) := by decide +kernel
theorem dX6_has_0 : decode cX6_has 0 = .ok (.iload_n 1, 1) := by decide +kernel
theorem dX6_has_1 : decode cX6_has 1 = .ok (.ifCond .lt 15, 3) := by decide +kernel
theorem dX6_has_4 : decode cX6_has 4 = .ok (.iload_n 1, 1) := by decide +kernel
theorem dX6_has_5 : decode cX6_has 5 = .ok (.aload_n 0, 1) := by decide +kernel
theorem dX6_has_6 : decode cX6_has 6 = .ok (.getfield 24, 3) := by decide +kernel
theorem dX6_has_9 : decode cX6_has 9 = .ok (.if_icmp .ge 7, 3) := by decide +kernel
theorem dX6_has_12 : decode cX6_has 12 = .ok (.iconst 1, 1) := by decide +kernel
theorem dX6_has_13 : decode cX6_has 13 = .ok (.goto 4, 3) := by decide +kernel
theorem dX6_has_16 : decode cX6_has 16 = .ok (.iconst 0, 1) := by decide +kernel
theorem dX6_has_17 : decode cX6_has 17 = .ok (.ireturn, 1) := by decide +kernel
theorem dX6_add_0 : decode cX6_add 0 = .ok (.aload_n 0, 1) := by decide +kernel
theorem dX6_add_1 : decode cX6_add 1 = .ok (.getfield 24, 3) := by decide +kernel
theorem dX6_add_4 : decode cX6_add 4 = .ok (.bipush 6, 2) := by decide +kernel
theorem dX6_add_6 : decode cX6_add 6 = .ok (.if_icmp .lt 5, 3) := by decide +kernel
theorem dX6_add_9 : decode cX6_add 9 = .ok (.iconst 0, 1) := by decide +kernel
theorem dX6_add_10 : decode cX6_add 10 = .ok (.ireturn, 1) := by decide +kernel
theorem dX6_add_11 : decode cX6_add 11 = .ok (.aload_n 0, 1) := by decide +kernel
theorem dX6_add_12 : decode cX6_add 12 = .ok (.getfield 9, 3) := by decide +kernel
theorem dX6_add_15 : decode cX6_add 15 = .ok (.aload_n 0, 1) := by decide +kernel
theorem dX6_add_16 : decode cX6_add 16 = .ok (.getfield 24, 3) := by decide +kernel
theorem dX6_add_19 : decode cX6_add 19 = .ok (.iload_n 1, 1) := by decide +kernel
theorem dX6_add_20 : decode cX6_add 20 = .ok (.iastore, 1) := by decide +kernel
theorem dX6_add_21 : decode cX6_add 21 = .ok (.aload_n 0, 1) := by decide +kernel
theorem dX6_add_22 : decode cX6_add 22 = .ok (.getfield 15, 3) := by decide +kernel
theorem dX6_add_25 : decode cX6_add 25 = .ok (.aload_n 0, 1) := by decide +kernel
end
section
theorem dX6_add_26 : decode cX6_add 26 = .ok (.getfield 24, 3) := by decide +kernel
theorem dX6_add_29 : decode cX6_add 29 = .ok (.iload_n 2, 1) := by decide +kernel
theorem dX6_add_30 : decode cX6_add 30 = .ok (.iastore, 1) := by decide +kernel
theorem dX6_add_31 : decode cX6_add 31 = .ok (.aload_n 0, 1) := by decide +kernel
theorem dX6_add_32 : decode cX6_add 32 = .ok (.getfield 18, 3) := by decide +kernel
theorem dX6_add_35 : decode cX6_add 35 = .ok (.aload_n 0, 1) := by decide +kernel
theorem dX6_add_36 : decode cX6_add 36 = .ok (.getfield 24, 3) := by decide +kernel
theorem dX6_add_39 : decode cX6_add 39 = .ok (.iload_n 3, 1) := by decide +kernel
theorem dX6_add_40 : decode cX6_add 40 = .ok (.iastore, 1) := by decide +kernel
theorem dX6_add_41 : decode cX6_add 41 = .ok (.aload_n 0, 1) := by decide +kernel
theorem dX6_add_42 : decode cX6_add 42 = .ok (.dup, 1) := by decide +kernel
theorem dX6_add_43 : decode cX6_add 43 = .ok (.getfield 24, 3) := by decide +kernel
theorem dX6_add_46 : decode cX6_add 46 = .ok (.iconst 1, 1) := by decide +kernel
theorem dX6_add_47 : decode cX6_add 47 = .ok (.iadd, 1) := by decide +kernel
theorem dX6_add_48 : decode cX6_add 48 = .ok (.putfield 24, 3) := by decide +kernel
theorem dX6_add_51 : decode cX6_add 51 = .ok (.iconst 1, 1) := by decide +kernel
theorem dX6_add_52 : decode cX6_add 52 = .ok (.ireturn, 1) := by decide +kernel
theorem dX6_sleepersOf_0 : decode cX6_sleepersOf 0 = .ok (.aload_n 1, 1) := by decide +kernel
theorem dX6_sleepersOf_1 : decode cX6_sleepersOf 1 = .ok (.getfield 28, 3) := by decide +kernel
theorem dX6_sleepersOf_4 : decode cX6_sleepersOf 4 = .ok (.aload_n 0, 1) := by decide +kernel
theorem dX6_sleepersOf_5 : decode cX6_sleepersOf 5 = .ok (.getfield 9, 3) := by decide +kernel
theorem dX6_sleepersOf_8 : decode cX6_sleepersOf 8 = .ok (.iload_n 2, 1) := by decide +kernel
theorem dX6_sleepersOf_9 : decode cX6_sleepersOf 9 = .ok (.iaload, 1) := by decide +kernel
theorem dX6_sleepersOf_10 : decode cX6_sleepersOf 10 = .ok (.aload_n 0, 1) := by decide +kernel
theorem dX6_sleepersOf_11 : decode cX6_sleepersOf 11 = .ok (.getfield 15, 3) := by decide +kernel
theorem dX6_sleepersOf_14 : decode cX6_sleepersOf 14 = .ok (.iload_n 2, 1) := by decide +kernel
theorem dX6_sleepersOf_15 : decode cX6_sleepersOf 15 = .ok (.iaload, 1) := by decide +kernel
theorem dX6_sleepersOf_16 : decode cX6_sleepersOf 16 = .ok (.invokevirtual 33, 3) := by decide +kernel
theorem dX6_sleepersOf_19 : decode cX6_sleepersOf 19 = .ok (.istore_n 3, 1) := by decide +kernel
theorem dX6_sleepersOf_20 : decode cX6_sleepersOf 20 = .ok (.aload_n 1, 1) := by decide +kernel
theorem dX6_sleepersOf_21 : decode cX6_sleepersOf 21 = .ok (.getfield 39, 3) := by decide +kernel
theorem dX6_sleepersOf_24 : decode cX6_sleepersOf 24 = .ok (.aload_n 0, 1) := by decide +kernel
theorem dX6_sleepersOf_25 : decode cX6_sleepersOf 25 = .ok (.getfield 15, 3) := by decide +kernel
theorem dX6_sleepersOf_28 : decode cX6_sleepersOf 28 = .ok (.iload_n 2, 1) := by decide +kernel
theorem dX6_sleepersOf_29 : decode cX6_sleepersOf 29 = .ok (.iaload, 1) := by decide +kernel
theorem dX6_sleepersOf_30 : decode cX6_sleepersOf 30 = .ok (.invokevirtual 43, 3) := by decide +kernel
theorem dX6_sleepersOf_33 : decode cX6_sleepersOf 33 = .ok (.istore 4, 2) := by decide +kernel
theorem dX6_sleepersOf_35 : decode cX6_sleepersOf 35 = .ok (.iconst 0, 1) := by decide +kernel
theorem dX6_sleepersOf_36 : decode cX6_sleepersOf 36 = .ok (.istore 5, 2) := by decide +kernel
theorem dX6_sleepersOf_38 : decode cX6_sleepersOf 38 = .ok (.iconst 0, 1) := by decide +kernel
theorem dX6_sleepersOf_39 : decode cX6_sleepersOf 39 = .ok (.istore 6, 2) := by decide +kernel
theorem dX6_sleepersOf_41 : decode cX6_sleepersOf 41 = .ok (.iload 6, 2) := by decide +kernel
theorem dX6_sleepersOf_43 : decode cX6_sleepersOf 43 = .ok (.aload_n 1, 1) := by decide +kernel
theorem dX6_sleepersOf_44 : decode cX6_sleepersOf 44 = .ok (.getfield 39, 3) := by decide +kernel
theorem dX6_sleepersOf_47 : decode cX6_sleepersOf 47 = .ok (.getfield 49, 3) := by decide +kernel
theorem dX6_sleepersOf_50 : decode cX6_sleepersOf 50 = .ok (.if_icmp .ge 53, 3) := by decide +kernel
theorem dX6_sleepersOf_53 : decode cX6_sleepersOf 53 = .ok (.iload 4, 2) := by decide +kernel
theorem dX6_sleepersOf_55 : decode cX6_sleepersOf 55 = .ok (.iload 6, 2) := by decide +kernel
theorem dX6_sleepersOf_57 : decode cX6_sleepersOf 57 = .ok (.invokestatic 50, 3) := by decide +kernel
theorem dX6_sleepersOf_60 : decode cX6_sleepersOf 60 = .ok (.ifCond .eq 37, 3) := by decide +kernel
theorem dX6_sleepersOf_63 : decode cX6_sleepersOf 63 = .ok (.aload_n 1, 1) := by decide +kernel
theorem dX6_sleepersOf_64 : decode cX6_sleepersOf 64 = .ok (.getfield 39, 3) := by decide +kernel
theorem dX6_sleepersOf_67 : decode cX6_sleepersOf 67 = .ok (.iload 6, 2) := by decide +kernel
theorem dX6_sleepersOf_69 : decode cX6_sleepersOf 69 = .ok (.aload_n 0, 1) := by decide +kernel
theorem dX6_sleepersOf_70 : decode cX6_sleepersOf 70 = .ok (.getfield 15, 3) := by decide +kernel
theorem dX6_sleepersOf_73 : decode cX6_sleepersOf 73 = .ok (.iload_n 2, 1) := by decide +kernel
theorem dX6_sleepersOf_74 : decode cX6_sleepersOf 74 = .ok (.iaload, 1) := by decide +kernel
theorem dX6_sleepersOf_75 : decode cX6_sleepersOf 75 = .ok (.iload_n 3, 1) := by decide +kernel
theorem dX6_sleepersOf_76 : decode cX6_sleepersOf 76 = .ok (.invokevirtual 54, 3) := by decide +kernel
theorem dX6_sleepersOf_79 : decode cX6_sleepersOf 79 = .ok (.aload_n 0, 1) := by decide +kernel
theorem dX6_sleepersOf_80 : decode cX6_sleepersOf 80 = .ok (.getfield 18, 3) := by decide +kernel
theorem dX6_sleepersOf_83 : decode cX6_sleepersOf 83 = .ok (.iload_n 2, 1) := by decide +kernel
theorem dX6_sleepersOf_84 : decode cX6_sleepersOf 84 = .ok (.iaload, 1) := by decide +kernel
theorem dX6_sleepersOf_85 : decode cX6_sleepersOf 85 = .ok (.if_icmp .ne 12, 3) := by decide +kernel
theorem dX6_sleepersOf_88 : decode cX6_sleepersOf 88 = .ok (.iload 5, 2) := by decide +kernel
theorem dX6_sleepersOf_90 : decode cX6_sleepersOf 90 = .ok (.iconst 1, 1) := by decide +kernel
theorem dX6_sleepersOf_91 : decode cX6_sleepersOf 91 = .ok (.iload 6, 2) := by decide +kernel
theorem dX6_sleepersOf_93 : decode cX6_sleepersOf 93 = .ok (.ishl, 1) := by decide +kernel
theorem dX6_sleepersOf_94 : decode cX6_sleepersOf 94 = .ok (.ior, 1) := by decide +kernel
theorem dX6_sleepersOf_95 : decode cX6_sleepersOf 95 = .ok (.istore 5, 2) := by decide +kernel
theorem dX6_sleepersOf_97 : decode cX6_sleepersOf 97 = .ok (.iinc 6 1, 3) := by decide +kernel
theorem dX6_sleepersOf_100 : decode cX6_sleepersOf 100 = .ok (.goto (-59), 3) := by decide +kernel
theorem dX6_sleepersOf_103 : decode cX6_sleepersOf 103 = .ok (.iload 5, 2) := by decide +kernel
theorem dX6_sleepersOf_105 : decode cX6_sleepersOf 105 = .ok (.ireturn, 1) := by decide +kernel
theorem dX6_ways_0 : decode cX6_ways 0 = .ok (.iconst 0, 1) := by decide +kernel
theorem dX6_ways_1 : decode cX6_ways 1 = .ok (.istore 4, 2) := by decide +kernel
theorem dX6_ways_3 : decode cX6_ways 3 = .ok (.iload 4, 2) := by decide +kernel
theorem dX6_ways_5 : decode cX6_ways 5 = .ok (.sipush 128, 3) := by decide +kernel
theorem dX6_ways_8 : decode cX6_ways 8 = .ok (.if_icmp .ge 17, 3) := by decide +kernel
theorem dX6_ways_11 : decode cX6_ways 11 = .ok (.aload_n 0, 1) := by decide +kernel
theorem dX6_ways_12 : decode cX6_ways 12 = .ok (.getfield 21, 3) := by decide +kernel
theorem dX6_ways_15 : decode cX6_ways 15 = .ok (.iload 4, 2) := by decide +kernel
theorem dX6_ways_17 : decode cX6_ways 17 = .ok (.iconst 0, 1) := by decide +kernel
theorem dX6_ways_18 : decode cX6_ways 18 = .ok (.iastore, 1) := by decide +kernel
theorem dX6_ways_19 : decode cX6_ways 19 = .ok (.iinc 4 1, 3) := by decide +kernel
theorem dX6_ways_22 : decode cX6_ways 22 = .ok (.goto (-19), 3) := by decide +kernel
theorem dX6_ways_25 : decode cX6_ways 25 = .ok (.aload_n 0, 1) := by decide +kernel
theorem dX6_ways_26 : decode cX6_ways 26 = .ok (.getfield 21, 3) := by decide +kernel
theorem dX6_ways_29 : decode cX6_ways 29 = .ok (.iconst 0, 1) := by decide +kernel
theorem dX6_ways_30 : decode cX6_ways 30 = .ok (.iconst 1, 1) := by decide +kernel
theorem dX6_ways_31 : decode cX6_ways 31 = .ok (.iastore, 1) := by decide +kernel
theorem dX6_ways_32 : decode cX6_ways 32 = .ok (.iconst 0, 1) := by decide +kernel
theorem dX6_ways_33 : decode cX6_ways 33 = .ok (.istore 4, 2) := by decide +kernel
theorem dX6_ways_35 : decode cX6_ways 35 = .ok (.iload 4, 2) := by decide +kernel
theorem dX6_ways_37 : decode cX6_ways 37 = .ok (.aload_n 0, 1) := by decide +kernel
theorem dX6_ways_38 : decode cX6_ways 38 = .ok (.getfield 24, 3) := by decide +kernel
theorem dX6_ways_41 : decode cX6_ways 41 = .ok (.if_icmp .ge 39, 3) := by decide +kernel
theorem dX6_ways_44 : decode cX6_ways 44 = .ok (.aload_n 0, 1) := by decide +kernel
theorem dX6_ways_45 : decode cX6_ways 45 = .ok (.aload_n 1, 1) := by decide +kernel
theorem dX6_ways_46 : decode cX6_ways 46 = .ok (.iload 4, 2) := by decide +kernel
theorem dX6_ways_48 : decode cX6_ways 48 = .ok (.invokevirtual 58, 3) := by decide +kernel
theorem dX6_ways_51 : decode cX6_ways 51 = .ok (.istore 5, 2) := by decide +kernel
theorem dX6_ways_53 : decode cX6_ways 53 = .ok (.aload_n 0, 1) := by decide +kernel
theorem dX6_ways_54 : decode cX6_ways 54 = .ok (.iload 4, 2) := by decide +kernel
theorem dX6_ways_56 : decode cX6_ways 56 = .ok (.iload 4, 2) := by decide +kernel
theorem dX6_ways_58 : decode cX6_ways 58 = .ok (.iload_n 2, 1) := by decide +kernel
theorem dX6_ways_59 : decode cX6_ways 59 = .ok (.if_icmp .ne 10, 3) := by decide +kernel
theorem dX6_ways_62 : decode cX6_ways 62 = .ok (.iload 5, 2) := by decide +kernel
theorem dX6_ways_64 : decode cX6_ways 64 = .ok (.iload_n 3, 1) := by decide +kernel
theorem dX6_ways_65 : decode cX6_ways 65 = .ok (.iand, 1) := by decide +kernel
theorem dX6_ways_66 : decode cX6_ways 66 = .ok (.goto 5, 3) := by decide +kernel
theorem dX6_ways_69 : decode cX6_ways 69 = .ok (.iload 5, 2) := by decide +kernel
theorem dX6_ways_71 : decode cX6_ways 71 = .ok (.invokevirtual 62, 3) := by decide +kernel
theorem dX6_ways_74 : decode cX6_ways 74 = .ok (.iinc 4 1, 3) := by decide +kernel
theorem dX6_ways_77 : decode cX6_ways 77 = .ok (.goto (-42), 3) := by decide +kernel
theorem dX6_ways_80 : decode cX6_ways 80 = .ok (.iconst 0, 1) := by decide +kernel
theorem dX6_ways_81 : decode cX6_ways 81 = .ok (.istore 4, 2) := by decide +kernel
theorem dX6_ways_83 : decode cX6_ways 83 = .ok (.iconst 0, 1) := by decide +kernel
theorem dX6_ways_84 : decode cX6_ways 84 = .ok (.istore 5, 2) := by decide +kernel
theorem dX6_ways_86 : decode cX6_ways 86 = .ok (.iload 5, 2) := by decide +kernel
theorem dX6_ways_88 : decode cX6_ways 88 = .ok (.sipush 128, 3) := by decide +kernel
theorem dX6_ways_91 : decode cX6_ways 91 = .ok (.if_icmp .ge 33, 3) := by decide +kernel
theorem dX6_ways_94 : decode cX6_ways 94 = .ok (.iload 5, 2) := by decide +kernel
theorem dX6_ways_96 : decode cX6_ways 96 = .ok (.invokestatic 66, 3) := by decide +kernel
theorem dX6_ways_99 : decode cX6_ways 99 = .ok (.aload_n 0, 1) := by decide +kernel
theorem dX6_ways_100 : decode cX6_ways 100 = .ok (.getfield 24, 3) := by decide +kernel
theorem dX6_ways_103 : decode cX6_ways 103 = .ok (.if_icmp .ne 15, 3) := by decide +kernel
theorem dX6_ways_106 : decode cX6_ways 106 = .ok (.iload 4, 2) := by decide +kernel
theorem dX6_ways_108 : decode cX6_ways 108 = .ok (.aload_n 0, 1) := by decide +kernel
theorem dX6_ways_109 : decode cX6_ways 109 = .ok (.getfield 21, 3) := by decide +kernel
theorem dX6_ways_112 : decode cX6_ways 112 = .ok (.iload 5, 2) := by decide +kernel
theorem dX6_ways_114 : decode cX6_ways 114 = .ok (.iaload, 1) := by decide +kernel
theorem dX6_ways_115 : decode cX6_ways 115 = .ok (.iadd, 1) := by decide +kernel
theorem dX6_ways_116 : decode cX6_ways 116 = .ok (.istore 4, 2) := by decide +kernel
theorem dX6_ways_118 : decode cX6_ways 118 = .ok (.iinc 5 1, 3) := by decide +kernel
theorem dX6_ways_121 : decode cX6_ways 121 = .ok (.goto (-35), 3) := by decide +kernel
theorem dX6_ways_124 : decode cX6_ways 124 = .ok (.iload 4, 2) := by decide +kernel
theorem dX6_ways_126 : decode cX6_ways 126 = .ok (.ireturn, 1) := by decide +kernel
theorem dX6_addOne_0 : decode cX6_addOne 0 = .ok (.iconst 0, 1) := by decide +kernel
theorem dX6_addOne_1 : decode cX6_addOne 1 = .ok (.istore_n 3, 1) := by decide +kernel
theorem dX6_addOne_2 : decode cX6_addOne 2 = .ok (.iload_n 3, 1) := by decide +kernel
theorem dX6_addOne_3 : decode cX6_addOne 3 = .ok (.sipush 128, 3) := by decide +kernel
theorem dX6_addOne_6 : decode cX6_addOne 6 = .ok (.if_icmp .ge 75, 3) := by decide +kernel
theorem dX6_addOne_9 : decode cX6_addOne 9 = .ok (.iload_n 3, 1) := by decide +kernel
theorem dX6_addOne_10 : decode cX6_addOne 10 = .ok (.invokestatic 66, 3) := by decide +kernel
theorem dX6_addOne_13 : decode cX6_addOne 13 = .ok (.iload_n 1, 1) := by decide +kernel
theorem dX6_addOne_14 : decode cX6_addOne 14 = .ok (.if_icmp .ne 61, 3) := by decide +kernel
theorem dX6_addOne_17 : decode cX6_addOne 17 = .ok (.aload_n 0, 1) := by decide +kernel
theorem dX6_addOne_18 : decode cX6_addOne 18 = .ok (.getfield 21, 3) := by decide +kernel
theorem dX6_addOne_21 : decode cX6_addOne 21 = .ok (.iload_n 3, 1) := by decide +kernel
theorem dX6_addOne_22 : decode cX6_addOne 22 = .ok (.iaload, 1) := by decide +kernel
theorem dX6_addOne_23 : decode cX6_addOne 23 = .ok (.ifCond .le 52, 3) := by decide +kernel
theorem dX6_addOne_26 : decode cX6_addOne 26 = .ok (.iconst 0, 1) := by decide +kernel
theorem dX6_addOne_27 : decode cX6_addOne 27 = .ok (.istore 4, 2) := by decide +kernel
theorem dX6_addOne_29 : decode cX6_addOne 29 = .ok (.iload 4, 2) := by decide +kernel
theorem dX6_addOne_31 : decode cX6_addOne 31 = .ok (.bipush 7, 2) := by decide +kernel
theorem dX6_addOne_33 : decode cX6_addOne 33 = .ok (.if_icmp .ge 42, 3) := by decide +kernel
theorem dX6_addOne_36 : decode cX6_addOne 36 = .ok (.iload_n 2, 1) := by decide +kernel
theorem dX6_addOne_37 : decode cX6_addOne 37 = .ok (.iload_n 3, 1) := by decide +kernel
theorem dX6_addOne_38 : decode cX6_addOne 38 = .ok (.iconst (-1), 1) := by decide +kernel
theorem dX6_addOne_39 : decode cX6_addOne 39 = .ok (.ixor, 1) := by decide +kernel
theorem dX6_addOne_40 : decode cX6_addOne 40 = .ok (.iand, 1) := by decide +kernel
theorem dX6_addOne_41 : decode cX6_addOne 41 = .ok (.iload 4, 2) := by decide +kernel
theorem dX6_addOne_43 : decode cX6_addOne 43 = .ok (.invokestatic 50, 3) := by decide +kernel
theorem dX6_addOne_46 : decode cX6_addOne 46 = .ok (.ifCond .eq 23, 3) := by decide +kernel
theorem dX6_addOne_49 : decode cX6_addOne 49 = .ok (.aload_n 0, 1) := by decide +kernel
theorem dX6_addOne_50 : decode cX6_addOne 50 = .ok (.getfield 21, 3) := by decide +kernel
theorem dX6_addOne_53 : decode cX6_addOne 53 = .ok (.iload_n 3, 1) := by decide +kernel
theorem dX6_addOne_54 : decode cX6_addOne 54 = .ok (.iconst 1, 1) := by decide +kernel
theorem dX6_addOne_55 : decode cX6_addOne 55 = .ok (.iload 4, 2) := by decide +kernel
theorem dX6_addOne_57 : decode cX6_addOne 57 = .ok (.ishl, 1) := by decide +kernel
theorem dX6_addOne_58 : decode cX6_addOne 58 = .ok (.ior, 1) := by decide +kernel
theorem dX6_addOne_59 : decode cX6_addOne 59 = .ok (.dup2, 1) := by decide +kernel
theorem dX6_addOne_60 : decode cX6_addOne 60 = .ok (.iaload, 1) := by decide +kernel
theorem dX6_addOne_61 : decode cX6_addOne 61 = .ok (.aload_n 0, 1) := by decide +kernel
theorem dX6_addOne_62 : decode cX6_addOne 62 = .ok (.getfield 21, 3) := by decide +kernel
theorem dX6_addOne_65 : decode cX6_addOne 65 = .ok (.iload_n 3, 1) := by decide +kernel
theorem dX6_addOne_66 : decode cX6_addOne 66 = .ok (.iaload, 1) := by decide +kernel
theorem dX6_addOne_67 : decode cX6_addOne 67 = .ok (.iadd, 1) := by decide +kernel
theorem dX6_addOne_68 : decode cX6_addOne 68 = .ok (.iastore, 1) := by decide +kernel
theorem dX6_addOne_69 : decode cX6_addOne 69 = .ok (.iinc 4 1, 3) := by decide +kernel
theorem dX6_addOne_72 : decode cX6_addOne 72 = .ok (.goto (-43), 3) := by decide +kernel
theorem dX6_addOne_75 : decode cX6_addOne 75 = .ok (.iinc 3 1, 3) := by decide +kernel
theorem dX6_addOne_78 : decode cX6_addOne 78 = .ok (.goto (-76), 3) := by decide +kernel
theorem dX6_addOne_81 : decode cX6_addOne 81 = .ok (.return_, 1) := by decide +kernel
theorem dX6_onlySleeperOf_0 : decode cX6_onlySleeperOf 0 = .ok (.aload_n 0, 1) := by decide +kernel
theorem dX6_onlySleeperOf_1 : decode cX6_onlySleeperOf 1 = .ok (.aload_n 1, 1) := by decide +kernel
theorem dX6_onlySleeperOf_2 : decode cX6_onlySleeperOf 2 = .ok (.bipush (-4), 2) := by decide +kernel
theorem dX6_onlySleeperOf_4 : decode cX6_onlySleeperOf 4 = .ok (.iconst 0, 1) := by decide +kernel
theorem dX6_onlySleeperOf_5 : decode cX6_onlySleeperOf 5 = .ok (.invokevirtual 71, 3) := by decide +kernel
theorem dX6_onlySleeperOf_8 : decode cX6_onlySleeperOf 8 = .ok (.istore_n 3, 1) := by decide +kernel
theorem dX6_onlySleeperOf_9 : decode cX6_onlySleeperOf 9 = .ok (.iconst 0, 1) := by decide +kernel
theorem dX6_onlySleeperOf_10 : decode cX6_onlySleeperOf 10 = .ok (.istore 4, 2) := by decide +kernel
theorem dX6_onlySleeperOf_12 : decode cX6_onlySleeperOf 12 = .ok (.iload 4, 2) := by decide +kernel
theorem dX6_onlySleeperOf_14 : decode cX6_onlySleeperOf 14 = .ok (.aload_n 1, 1) := by decide +kernel
theorem dX6_onlySleeperOf_15 : decode cX6_onlySleeperOf 15 = .ok (.getfield 39, 3) := by decide +kernel
theorem dX6_onlySleeperOf_18 : decode cX6_onlySleeperOf 18 = .ok (.getfield 49, 3) := by decide +kernel
theorem dX6_onlySleeperOf_21 : decode cX6_onlySleeperOf 21 = .ok (.if_icmp .ge 30, 3) := by decide +kernel
theorem dX6_onlySleeperOf_24 : decode cX6_onlySleeperOf 24 = .ok (.iload_n 3, 1) := by decide +kernel
theorem dX6_onlySleeperOf_25 : decode cX6_onlySleeperOf 25 = .ok (.ifCond .le 26, 3) := by decide +kernel
theorem dX6_onlySleeperOf_28 : decode cX6_onlySleeperOf 28 = .ok (.aload_n 0, 1) := by decide +kernel
theorem dX6_onlySleeperOf_29 : decode cX6_onlySleeperOf 29 = .ok (.aload_n 1, 1) := by decide +kernel
theorem dX6_onlySleeperOf_30 : decode cX6_onlySleeperOf 30 = .ok (.iload_n 2, 1) := by decide +kernel
theorem dX6_onlySleeperOf_31 : decode cX6_onlySleeperOf 31 = .ok (.iconst 1, 1) := by decide +kernel
theorem dX6_onlySleeperOf_32 : decode cX6_onlySleeperOf 32 = .ok (.iload 4, 2) := by decide +kernel
theorem dX6_onlySleeperOf_34 : decode cX6_onlySleeperOf 34 = .ok (.ishl, 1) := by decide +kernel
theorem dX6_onlySleeperOf_35 : decode cX6_onlySleeperOf 35 = .ok (.invokevirtual 71, 3) := by decide +kernel
theorem dX6_onlySleeperOf_38 : decode cX6_onlySleeperOf 38 = .ok (.iload_n 3, 1) := by decide +kernel
theorem dX6_onlySleeperOf_39 : decode cX6_onlySleeperOf 39 = .ok (.if_icmp .ne 6, 3) := by decide +kernel
theorem dX6_onlySleeperOf_42 : decode cX6_onlySleeperOf 42 = .ok (.iload 4, 2) := by decide +kernel
theorem dX6_onlySleeperOf_44 : decode cX6_onlySleeperOf 44 = .ok (.ireturn, 1) := by decide +kernel
theorem dX6_onlySleeperOf_45 : decode cX6_onlySleeperOf 45 = .ok (.iinc 4 1, 3) := by decide +kernel
theorem dX6_onlySleeperOf_48 : decode cX6_onlySleeperOf 48 = .ok (.goto (-36), 3) := by decide +kernel
theorem dX6_onlySleeperOf_51 : decode cX6_onlySleeperOf 51 = .ok (.bipush (-4), 2) := by decide +kernel
theorem dX6_onlySleeperOf_53 : decode cX6_onlySleeperOf 53 = .ok (.ireturn, 1) := by decide +kernel
theorem dX7_init_0 : decode cX7_init 0 = .ok (.aload_n 0, 1) := by decide +kernel
theorem dX7_init_1 : decode cX7_init 1 = .ok (.invokespecial 3, 3) := by decide +kernel
theorem dX7_init_4 : decode cX7_init 4 = .ok (.aload_n 0, 1) := by decide +kernel
theorem dX7_init_5 : decode cX7_init 5 = .ok (.sipush 200, 3) := by decide +kernel
theorem dX7_init_8 : decode cX7_init 8 = .ok (.newarray .char, 2) := by decide +kernel
theorem dX7_init_10 : decode cX7_init 10 = .ok (.putfield 9, 3) := by decide +kernel
theorem dX7_init_13 : decode cX7_init 13 = .ok (.aload_n 0, 1) := by decide +kernel
theorem dX7_init_14 : decode cX7_init 14 = .ok (.iconst 3, 1) := by decide +kernel
theorem dX7_init_15 : decode cX7_init 15 = .ok (.newarray .int, 2) := by decide +kernel
theorem dX7_init_17 : decode cX7_init 17 = .ok (.putfield 15, 3) := by decide +kernel
theorem dX7_init_20 : decode cX7_init 20 = .ok (.return_, 1) := by decide +kernel
theorem dX7_put_0 : decode cX7_put 0 = .ok (.aload_n 0, 1) := by decide +kernel
theorem dX7_put_1 : decode cX7_put 1 = .ok (.getfield 19, 3) := by decide +kernel
theorem dX7_put_4 : decode cX7_put 4 = .ok (.sipush 200, 3) := by decide +kernel
theorem dX7_put_7 : decode cX7_put 7 = .ok (.if_icmp .lt 5, 3) := by decide +kernel
theorem dX7_put_10 : decode cX7_put 10 = .ok (.iconst 0, 1) := by decide +kernel
theorem dX7_put_11 : decode cX7_put 11 = .ok (.ireturn, 1) := by decide +kernel
theorem dX7_put_12 : decode cX7_put 12 = .ok (.aload_n 0, 1) := by decide +kernel
theorem dX7_put_13 : decode cX7_put 13 = .ok (.getfield 9, 3) := by decide +kernel
theorem dX7_put_16 : decode cX7_put 16 = .ok (.aload_n 0, 1) := by decide +kernel
theorem dX7_put_17 : decode cX7_put 17 = .ok (.getfield 19, 3) := by decide +kernel
theorem dX7_put_20 : decode cX7_put 20 = .ok (.iload_n 1, 1) := by decide +kernel
theorem dX7_put_21 : decode cX7_put 21 = .ok (.castore, 1) := by decide +kernel
theorem dX7_put_22 : decode cX7_put 22 = .ok (.aload_n 0, 1) := by decide +kernel
theorem dX7_put_23 : decode cX7_put 23 = .ok (.dup, 1) := by decide +kernel
theorem dX7_put_24 : decode cX7_put 24 = .ok (.getfield 19, 3) := by decide +kernel
theorem dX7_put_27 : decode cX7_put 27 = .ok (.iconst 1, 1) := by decide +kernel
theorem dX7_put_28 : decode cX7_put 28 = .ok (.iadd, 1) := by decide +kernel
theorem dX7_put_29 : decode cX7_put 29 = .ok (.putfield 19, 3) := by decide +kernel
theorem dX7_put_32 : decode cX7_put 32 = .ok (.iconst 1, 1) := by decide +kernel
theorem dX7_put_33 : decode cX7_put 33 = .ok (.ireturn, 1) := by decide +kernel
theorem dX7_readInto_0 : decode cX7_readInto 0 = .ok (.aload_n 1, 1) := by decide +kernel
theorem dX7_readInto_1 : decode cX7_readInto 1 = .ok (.invokevirtual 23, 3) := by decide +kernel
theorem dX7_readInto_4 : decode cX7_readInto 4 = .ok (.iconst 0, 1) := by decide +kernel
theorem dX7_readInto_5 : decode cX7_readInto 5 = .ok (.istore_n 2, 1) := by decide +kernel
theorem dX7_readInto_6 : decode cX7_readInto 6 = .ok (.iconst 0, 1) := by decide +kernel
theorem dX7_readInto_7 : decode cX7_readInto 7 = .ok (.istore_n 3, 1) := by decide +kernel
theorem dX7_readInto_8 : decode cX7_readInto 8 = .ok (.iload_n 3, 1) := by decide +kernel
theorem dX7_readInto_9 : decode cX7_readInto 9 = .ok (.sipush 200, 3) := by decide +kernel
theorem dX7_readInto_12 : decode cX7_readInto 12 = .ok (.if_icmp .ge 71, 3) := by decide +kernel
theorem dX7_readInto_15 : decode cX7_readInto 15 = .ok (.iload_n 2, 1) := by decide +kernel
theorem dX7_readInto_16 : decode cX7_readInto 16 = .ok (.aload_n 0, 1) := by decide +kernel
theorem dX7_readInto_17 : decode cX7_readInto 17 = .ok (.getfield 19, 3) := by decide +kernel
theorem dX7_readInto_20 : decode cX7_readInto 20 = .ok (.if_icmp .ge 63, 3) := by decide +kernel
theorem dX7_readInto_23 : decode cX7_readInto 23 = .ok (.aload_n 0, 1) := by decide +kernel
theorem dX7_readInto_24 : decode cX7_readInto 24 = .ok (.iload_n 2, 1) := by decide +kernel
theorem dX7_readInto_25 : decode cX7_readInto 25 = .ok (.iconst 1, 1) := by decide +kernel
theorem dX7_readInto_26 : decode cX7_readInto 26 = .ok (.iadd, 1) := by decide +kernel
theorem dX7_readInto_27 : decode cX7_readInto 27 = .ok (.invokevirtual 28, 3) := by decide +kernel
theorem dX7_readInto_30 : decode cX7_readInto 30 = .ok (.istore 4, 2) := by decide +kernel
theorem dX7_readInto_32 : decode cX7_readInto 32 = .ok (.iload 4, 2) := by decide +kernel
theorem dX7_readInto_34 : decode cX7_readInto 34 = .ok (.iconst (-1), 1) := by decide +kernel
theorem dX7_readInto_35 : decode cX7_readInto 35 = .ok (.if_icmp .eq 37, 3) := by decide +kernel
theorem dX7_readInto_38 : decode cX7_readInto 38 = .ok (.aload_n 1, 1) := by decide +kernel
theorem dX7_readInto_39 : decode cX7_readInto 39 = .ok (.aload_n 0, 1) := by decide +kernel
theorem dX7_readInto_40 : decode cX7_readInto 40 = .ok (.iload_n 2, 1) := by decide +kernel
theorem dX7_readInto_41 : decode cX7_readInto 41 = .ok (.invokevirtual 32, 3) := by decide +kernel
theorem dX7_readInto_44 : decode cX7_readInto 44 = .ok (.aload_n 0, 1) := by decide +kernel
theorem dX7_readInto_45 : decode cX7_readInto 45 = .ok (.getfield 35, 3) := by decide +kernel
theorem dX7_readInto_48 : decode cX7_readInto 48 = .ok (.aload_n 0, 1) := by decide +kernel
theorem dX7_readInto_49 : decode cX7_readInto 49 = .ok (.getfield 15, 3) := by decide +kernel
theorem dX7_readInto_52 : decode cX7_readInto 52 = .ok (.iconst 0, 1) := by decide +kernel
theorem dX7_readInto_53 : decode cX7_readInto 53 = .ok (.iaload, 1) := by decide +kernel
theorem dX7_readInto_54 : decode cX7_readInto 54 = .ok (.aload_n 0, 1) := by decide +kernel
theorem dX7_readInto_55 : decode cX7_readInto 55 = .ok (.getfield 15, 3) := by decide +kernel
theorem dX7_readInto_58 : decode cX7_readInto 58 = .ok (.iconst 1, 1) := by decide +kernel
theorem dX7_readInto_59 : decode cX7_readInto 59 = .ok (.iaload, 1) := by decide +kernel
theorem dX7_readInto_60 : decode cX7_readInto 60 = .ok (.aload_n 0, 1) := by decide +kernel
theorem dX7_readInto_61 : decode cX7_readInto 61 = .ok (.getfield 15, 3) := by decide +kernel
theorem dX7_readInto_64 : decode cX7_readInto 64 = .ok (.iconst 2, 1) := by decide +kernel
theorem dX7_readInto_65 : decode cX7_readInto 65 = .ok (.iaload, 1) := by decide +kernel
theorem dX7_readInto_66 : decode cX7_readInto 66 = .ok (.invokevirtual 38, 3) := by decide +kernel
theorem dX7_readInto_69 : decode cX7_readInto 69 = .ok (.ifCond .ne 5, 3) := by decide +kernel
theorem dX7_readInto_72 : decode cX7_readInto 72 = .ok (.iload_n 2, 1) := by decide +kernel
theorem dX7_readInto_73 : decode cX7_readInto 73 = .ok (.ireturn, 1) := by decide +kernel
theorem dX7_readInto_74 : decode cX7_readInto 74 = .ok (.iload 4, 2) := by decide +kernel
theorem dX7_readInto_76 : decode cX7_readInto 76 = .ok (.istore_n 2, 1) := by decide +kernel
theorem dX7_readInto_77 : decode cX7_readInto 77 = .ok (.iinc 3 1, 3) := by decide +kernel
theorem dX7_readInto_80 : decode cX7_readInto 80 = .ok (.goto (-72), 3) := by decide +kernel
theorem dX7_readInto_83 : decode cX7_readInto 83 = .ok (.bipush (-4), 2) := by decide +kernel
theorem dX7_readInto_85 : decode cX7_readInto 85 = .ok (.ireturn, 1) := by decide +kernel
theorem dX7_readNumbers_0 : decode cX7_readNumbers 0 = .ok (.iload_n 1, 1) := by decide +kernel
theorem dX7_readNumbers_1 : decode cX7_readNumbers 1 = .ok (.istore_n 2, 1) := by decide +kernel
theorem dX7_readNumbers_2 : decode cX7_readNumbers 2 = .ok (.iconst 0, 1) := by decide +kernel
theorem dX7_readNumbers_3 : decode cX7_readNumbers 3 = .ok (.istore_n 3, 1) := by decide +kernel
theorem dX7_readNumbers_4 : decode cX7_readNumbers 4 = .ok (.iload_n 3, 1) := by decide +kernel
theorem dX7_readNumbers_5 : decode cX7_readNumbers 5 = .ok (.iconst 3, 1) := by decide +kernel
theorem dX7_readNumbers_6 : decode cX7_readNumbers 6 = .ok (.if_icmp .ge 107, 3) := by decide +kernel
theorem dX7_readNumbers_9 : decode cX7_readNumbers 9 = .ok (.aload_n 0, 1) := by decide +kernel
theorem dX7_readNumbers_10 : decode cX7_readNumbers 10 = .ok (.iload_n 2, 1) := by decide +kernel
theorem dX7_readNumbers_11 : decode cX7_readNumbers 11 = .ok (.invokevirtual 42, 3) := by decide +kernel
theorem dX7_readNumbers_14 : decode cX7_readNumbers 14 = .ok (.ifCond .ne 5, 3) := by decide +kernel
theorem dX7_readNumbers_17 : decode cX7_readNumbers 17 = .ok (.iconst (-1), 1) := by decide +kernel
theorem dX7_readNumbers_18 : decode cX7_readNumbers 18 = .ok (.ireturn, 1) := by decide +kernel
theorem dX7_readNumbers_19 : decode cX7_readNumbers 19 = .ok (.aload_n 0, 1) := by decide +kernel
theorem dX7_readNumbers_20 : decode cX7_readNumbers 20 = .ok (.getfield 15, 3) := by decide +kernel
theorem dX7_readNumbers_23 : decode cX7_readNumbers 23 = .ok (.iload_n 3, 1) := by decide +kernel
theorem dX7_readNumbers_24 : decode cX7_readNumbers 24 = .ok (.aload_n 0, 1) := by decide +kernel
theorem dX7_readNumbers_25 : decode cX7_readNumbers 25 = .ok (.iload_n 2, 1) := by decide +kernel
theorem dX7_readNumbers_26 : decode cX7_readNumbers 26 = .ok (.invokevirtual 32, 3) := by decide +kernel
theorem dX7_readNumbers_29 : decode cX7_readNumbers 29 = .ok (.bipush 48, 2) := by decide +kernel
theorem dX7_readNumbers_31 : decode cX7_readNumbers 31 = .ok (.isub, 1) := by decide +kernel
theorem dX7_readNumbers_32 : decode cX7_readNumbers 32 = .ok (.iastore, 1) := by decide +kernel
theorem dX7_readNumbers_33 : decode cX7_readNumbers 33 = .ok (.iinc 2 1, 3) := by decide +kernel
theorem dX7_readNumbers_36 : decode cX7_readNumbers 36 = .ok (.aload_n 0, 1) := by decide +kernel
theorem dX7_readNumbers_37 : decode cX7_readNumbers 37 = .ok (.iload_n 2, 1) := by decide +kernel
theorem dX7_readNumbers_38 : decode cX7_readNumbers 38 = .ok (.invokevirtual 42, 3) := by decide +kernel
theorem dX7_readNumbers_41 : decode cX7_readNumbers 41 = .ok (.ifCond .eq 30, 3) := by decide +kernel
theorem dX7_readNumbers_44 : decode cX7_readNumbers 44 = .ok (.aload_n 0, 1) := by decide +kernel
theorem dX7_readNumbers_45 : decode cX7_readNumbers 45 = .ok (.getfield 15, 3) := by decide +kernel
theorem dX7_readNumbers_48 : decode cX7_readNumbers 48 = .ok (.iload_n 3, 1) := by decide +kernel
theorem dX7_readNumbers_49 : decode cX7_readNumbers 49 = .ok (.bipush 10, 2) := by decide +kernel
theorem dX7_readNumbers_51 : decode cX7_readNumbers 51 = .ok (.aload_n 0, 1) := by decide +kernel
theorem dX7_readNumbers_52 : decode cX7_readNumbers 52 = .ok (.getfield 15, 3) := by decide +kernel
theorem dX7_readNumbers_55 : decode cX7_readNumbers 55 = .ok (.iload_n 3, 1) := by decide +kernel
theorem dX7_readNumbers_56 : decode cX7_readNumbers 56 = .ok (.iaload, 1) := by decide +kernel
theorem dX7_readNumbers_57 : decode cX7_readNumbers 57 = .ok (.imul, 1) := by decide +kernel
theorem dX7_readNumbers_58 : decode cX7_readNumbers 58 = .ok (.aload_n 0, 1) := by decide +kernel
theorem dX7_readNumbers_59 : decode cX7_readNumbers 59 = .ok (.iload_n 2, 1) := by decide +kernel
theorem dX7_readNumbers_60 : decode cX7_readNumbers 60 = .ok (.invokevirtual 32, 3) := by decide +kernel
theorem dX7_readNumbers_63 : decode cX7_readNumbers 63 = .ok (.iadd, 1) := by decide +kernel
theorem dX7_readNumbers_64 : decode cX7_readNumbers 64 = .ok (.bipush 48, 2) := by decide +kernel
theorem dX7_readNumbers_66 : decode cX7_readNumbers 66 = .ok (.isub, 1) := by decide +kernel
theorem dX7_readNumbers_67 : decode cX7_readNumbers 67 = .ok (.iastore, 1) := by decide +kernel
theorem dX7_readNumbers_68 : decode cX7_readNumbers 68 = .ok (.iinc 2 1, 3) := by decide +kernel
theorem dX7_readNumbers_71 : decode cX7_readNumbers 71 = .ok (.aload_n 0, 1) := by decide +kernel
theorem dX7_readNumbers_72 : decode cX7_readNumbers 72 = .ok (.iload_n 3, 1) := by decide +kernel
theorem dX7_readNumbers_73 : decode cX7_readNumbers 73 = .ok (.iconst 1, 1) := by decide +kernel
theorem dX7_readNumbers_74 : decode cX7_readNumbers 74 = .ok (.iadd, 1) := by decide +kernel
theorem dX7_readNumbers_75 : decode cX7_readNumbers 75 = .ok (.putfield 35, 3) := by decide +kernel
theorem dX7_readNumbers_78 : decode cX7_readNumbers 78 = .ok (.aload_n 0, 1) := by decide +kernel
theorem dX7_readNumbers_79 : decode cX7_readNumbers 79 = .ok (.iload_n 2, 1) := by decide +kernel
theorem dX7_readNumbers_80 : decode cX7_readNumbers 80 = .ok (.invokevirtual 32, 3) := by decide +kernel
theorem dX7_readNumbers_83 : decode cX7_readNumbers 83 = .ok (.bipush 59, 2) := by decide +kernel
theorem dX7_readNumbers_85 : decode cX7_readNumbers 85 = .ok (.if_icmp .ne 7, 3) := by decide +kernel
theorem dX7_readNumbers_88 : decode cX7_readNumbers 88 = .ok (.iload_n 2, 1) := by decide +kernel
theorem dX7_readNumbers_89 : decode cX7_readNumbers 89 = .ok (.iconst 1, 1) := by decide +kernel
theorem dX7_readNumbers_90 : decode cX7_readNumbers 90 = .ok (.iadd, 1) := by decide +kernel
theorem dX7_readNumbers_91 : decode cX7_readNumbers 91 = .ok (.ireturn, 1) := by decide +kernel
theorem dX7_readNumbers_92 : decode cX7_readNumbers 92 = .ok (.aload_n 0, 1) := by decide +kernel
theorem dX7_readNumbers_93 : decode cX7_readNumbers 93 = .ok (.iload_n 2, 1) := by decide +kernel
theorem dX7_readNumbers_94 : decode cX7_readNumbers 94 = .ok (.invokevirtual 32, 3) := by decide +kernel
theorem dX7_readNumbers_97 : decode cX7_readNumbers 97 = .ok (.bipush 44, 2) := by decide +kernel
theorem dX7_readNumbers_99 : decode cX7_readNumbers 99 = .ok (.if_icmp .eq 5, 3) := by decide +kernel
theorem dX7_readNumbers_102 : decode cX7_readNumbers 102 = .ok (.iconst (-1), 1) := by decide +kernel
theorem dX7_readNumbers_103 : decode cX7_readNumbers 103 = .ok (.ireturn, 1) := by decide +kernel
theorem dX7_readNumbers_104 : decode cX7_readNumbers 104 = .ok (.iinc 2 1, 3) := by decide +kernel
theorem dX7_readNumbers_107 : decode cX7_readNumbers 107 = .ok (.iinc 3 1, 3) := by decide +kernel
theorem dX7_readNumbers_110 : decode cX7_readNumbers 110 = .ok (.goto (-106), 3) := by decide +kernel
theorem dX7_readNumbers_113 : decode cX7_readNumbers 113 = .ok (.iconst (-1), 1) := by decide +kernel
theorem dX7_readNumbers_114 : decode cX7_readNumbers 114 = .ok (.ireturn, 1) := by decide +kernel
theorem dX7_isFigure_0 : decode cX7_isFigure 0 = .ok (.aload_n 0, 1) := by decide +kernel
theorem dX7_isFigure_1 : decode cX7_isFigure 1 = .ok (.iload_n 1, 1) := by decide +kernel
theorem dX7_isFigure_2 : decode cX7_isFigure 2 = .ok (.invokevirtual 32, 3) := by decide +kernel
theorem dX7_isFigure_5 : decode cX7_isFigure 5 = .ok (.bipush 48, 2) := by decide +kernel
theorem dX7_isFigure_7 : decode cX7_isFigure 7 = .ok (.bipush 57, 2) := by decide +kernel
theorem dX7_isFigure_9 : decode cX7_isFigure 9 = .ok (.invokestatic 46, 3) := by decide +kernel
theorem dX7_isFigure_12 : decode cX7_isFigure 12 = .ok (.ireturn, 1) := by decide +kernel
theorem dX7_letterAt_0 : decode cX7_letterAt 0 = .ok (.iload_n 1, 1) := by decide +kernel
theorem dX7_letterAt_1 : decode cX7_letterAt 1 = .ok (.ifCond .lt 29, 3) := by decide +kernel
theorem dX7_letterAt_4 : decode cX7_letterAt 4 = .ok (.iload_n 1, 1) := by decide +kernel
theorem dX7_letterAt_5 : decode cX7_letterAt 5 = .ok (.aload_n 0, 1) := by decide +kernel
theorem dX7_letterAt_6 : decode cX7_letterAt 6 = .ok (.getfield 19, 3) := by decide +kernel
theorem dX7_letterAt_9 : decode cX7_letterAt 9 = .ok (.if_icmp .ge 21, 3) := by decide +kernel
theorem dX7_letterAt_12 : decode cX7_letterAt 12 = .ok (.iload_n 1, 1) := by decide +kernel
theorem dX7_letterAt_13 : decode cX7_letterAt 13 = .ok (.aload_n 0, 1) := by decide +kernel
theorem dX7_letterAt_14 : decode cX7_letterAt 14 = .ok (.getfield 9, 3) := by decide +kernel
theorem dX7_letterAt_17 : decode cX7_letterAt 17 = .ok (.arraylength, 1) := by decide +kernel
theorem dX7_letterAt_18 : decode cX7_letterAt 18 = .ok (.if_icmp .ge 12, 3) := by decide +kernel
theorem dX7_letterAt_21 : decode cX7_letterAt 21 = .ok (.aload_n 0, 1) := by decide +kernel
theorem dX7_letterAt_22 : decode cX7_letterAt 22 = .ok (.getfield 9, 3) := by decide +kernel
theorem dX7_letterAt_25 : decode cX7_letterAt 25 = .ok (.iload_n 1, 1) := by decide +kernel
theorem dX7_letterAt_26 : decode cX7_letterAt 26 = .ok (.caload, 1) := by decide +kernel
theorem dX7_letterAt_27 : decode cX7_letterAt 27 = .ok (.goto 4, 3) := by decide +kernel
theorem dX7_letterAt_30 : decode cX7_letterAt 30 = .ok (.iconst 0, 1) := by decide +kernel
theorem dX7_letterAt_31 : decode cX7_letterAt 31 = .ok (.ireturn, 1) := by decide +kernel
theorem dX8_init_0 : decode cX8_init 0 = .ok (.aload_n 0, 1) := by decide +kernel
theorem dX8_init_1 : decode cX8_init 1 = .ok (.invokespecial 3, 3) := by decide +kernel
theorem dX8_init_4 : decode cX8_init 4 = .ok (.aload_n 0, 1) := by decide +kernel
theorem dX8_init_5 : decode cX8_init 5 = .ok (.iconst 2, 1) := by decide +kernel
theorem dX8_init_6 : decode cX8_init 6 = .ok (.bipush 7, 2) := by decide +kernel
theorem dX8_init_8 : decode cX8_init 8 = .ok (.multianewarray 9 2, 4) := by decide +kernel
theorem dX8_init_12 : decode cX8_init 12 = .ok (.putfield 11, 3) := by decide +kernel
theorem dX8_init_15 : decode cX8_init 15 = .ok (.aload_n 0, 1) := by decide +kernel
theorem dX8_init_16 : decode cX8_init 16 = .ok (.iconst 2, 1) := by decide +kernel
theorem dX8_init_17 : decode cX8_init 17 = .ok (.bipush 7, 2) := by decide +kernel
theorem dX8_init_19 : decode cX8_init 19 = .ok (.multianewarray 9 2, 4) := by decide +kernel
theorem dX8_init_23 : decode cX8_init 23 = .ok (.putfield 16, 3) := by decide +kernel
theorem dX8_init_26 : decode cX8_init 26 = .ok (.aload_n 0, 1) := by decide +kernel
theorem dX8_init_27 : decode cX8_init 27 = .ok (.iconst 2, 1) := by decide +kernel
theorem dX8_init_28 : decode cX8_init 28 = .ok (.bipush 7, 2) := by decide +kernel
theorem dX8_init_30 : decode cX8_init 30 = .ok (.multianewarray 9 2, 4) := by decide +kernel
theorem dX8_init_34 : decode cX8_init 34 = .ok (.putfield 19, 3) := by decide +kernel
theorem dX8_init_37 : decode cX8_init 37 = .ok (.return_, 1) := by decide +kernel
theorem dX8_put_0 : decode cX8_put 0 = .ok (.aload_n 0, 1) := by decide +kernel
theorem dX8_put_1 : decode cX8_put 1 = .ok (.getfield 22, 3) := by decide +kernel
theorem dX8_put_4 : decode cX8_put 4 = .ok (.iconst 2, 1) := by decide +kernel
theorem dX8_put_5 : decode cX8_put 5 = .ok (.if_icmp .lt 5, 3) := by decide +kernel
theorem dX8_put_8 : decode cX8_put 8 = .ok (.iconst 0, 1) := by decide +kernel
theorem dX8_put_9 : decode cX8_put 9 = .ok (.ireturn, 1) := by decide +kernel
theorem dX8_put_10 : decode cX8_put 10 = .ok (.aload_n 1, 1) := by decide +kernel
theorem dX8_put_11 : decode cX8_put 11 = .ok (.getfield 26, 3) := by decide +kernel
theorem dX8_put_14 : decode cX8_put 14 = .ok (.iconst 0, 1) := by decide +kernel
theorem dX8_put_15 : decode cX8_put 15 = .ok (.aload_n 0, 1) := by decide +kernel
theorem dX8_put_16 : decode cX8_put 16 = .ok (.getfield 11, 3) := by decide +kernel
theorem dX8_put_19 : decode cX8_put 19 = .ok (.aload_n 0, 1) := by decide +kernel
theorem dX8_put_20 : decode cX8_put 20 = .ok (.getfield 22, 3) := by decide +kernel
theorem dX8_put_23 : decode cX8_put 23 = .ok (.aaload, 1) := by decide +kernel
theorem dX8_put_24 : decode cX8_put 24 = .ok (.iconst 0, 1) := by decide +kernel
theorem dX8_put_25 : decode cX8_put 25 = .ok (.bipush 7, 2) := by decide +kernel
theorem dX8_put_27 : decode cX8_put 27 = .ok (.invokestatic 32, 3) := by decide +kernel
theorem dX8_put_30 : decode cX8_put 30 = .ok (.aload_n 1, 1) := by decide +kernel
theorem dX8_put_31 : decode cX8_put 31 = .ok (.getfield 38, 3) := by decide +kernel
theorem dX8_put_34 : decode cX8_put 34 = .ok (.iconst 0, 1) := by decide +kernel
theorem dX8_put_35 : decode cX8_put 35 = .ok (.aload_n 0, 1) := by decide +kernel
theorem dX8_put_36 : decode cX8_put 36 = .ok (.getfield 16, 3) := by decide +kernel
theorem dX8_put_39 : decode cX8_put 39 = .ok (.aload_n 0, 1) := by decide +kernel
theorem dX8_put_40 : decode cX8_put 40 = .ok (.getfield 22, 3) := by decide +kernel
theorem dX8_put_43 : decode cX8_put 43 = .ok (.aaload, 1) := by decide +kernel
theorem dX8_put_44 : decode cX8_put 44 = .ok (.iconst 0, 1) := by decide +kernel
theorem dX8_put_45 : decode cX8_put 45 = .ok (.bipush 7, 2) := by decide +kernel
theorem dX8_put_47 : decode cX8_put 47 = .ok (.invokestatic 32, 3) := by decide +kernel
theorem dX8_put_50 : decode cX8_put 50 = .ok (.aload_n 1, 1) := by decide +kernel
theorem dX8_put_51 : decode cX8_put 51 = .ok (.getfield 40, 3) := by decide +kernel
theorem dX8_put_54 : decode cX8_put 54 = .ok (.iconst 0, 1) := by decide +kernel
theorem dX8_put_55 : decode cX8_put 55 = .ok (.aload_n 0, 1) := by decide +kernel
theorem dX8_put_56 : decode cX8_put 56 = .ok (.getfield 19, 3) := by decide +kernel
theorem dX8_put_59 : decode cX8_put 59 = .ok (.aload_n 0, 1) := by decide +kernel
theorem dX8_put_60 : decode cX8_put 60 = .ok (.getfield 22, 3) := by decide +kernel
theorem dX8_put_63 : decode cX8_put 63 = .ok (.aaload, 1) := by decide +kernel
theorem dX8_put_64 : decode cX8_put 64 = .ok (.iconst 0, 1) := by decide +kernel
theorem dX8_put_65 : decode cX8_put 65 = .ok (.bipush 7, 2) := by decide +kernel
theorem dX8_put_67 : decode cX8_put 67 = .ok (.invokestatic 32, 3) := by decide +kernel
theorem dX8_put_70 : decode cX8_put 70 = .ok (.aload_n 0, 1) := by decide +kernel
theorem dX8_put_71 : decode cX8_put 71 = .ok (.dup, 1) := by decide +kernel
theorem dX8_put_72 : decode cX8_put 72 = .ok (.getfield 22, 3) := by decide +kernel
theorem dX8_put_75 : decode cX8_put 75 = .ok (.iconst 1, 1) := by decide +kernel
theorem dX8_put_76 : decode cX8_put 76 = .ok (.iadd, 1) := by decide +kernel
theorem dX8_put_77 : decode cX8_put 77 = .ok (.putfield 22, 3) := by decide +kernel
theorem dX8_put_80 : decode cX8_put 80 = .ok (.iconst 1, 1) := by decide +kernel
theorem dX8_put_81 : decode cX8_put 81 = .ok (.ireturn, 1) := by decide +kernel
theorem dX8_takeInto_0 : decode cX8_takeInto 0 = .ok (.aload_n 0, 1) := by decide +kernel
theorem dX8_takeInto_1 : decode cX8_takeInto 1 = .ok (.getfield 22, 3) := by decide +kernel
theorem dX8_takeInto_4 : decode cX8_takeInto 4 = .ok (.ifCond .gt 4, 3) := by decide +kernel
theorem dX8_takeInto_7 : decode cX8_takeInto 7 = .ok (.return_, 1) := by decide +kernel
theorem dX8_takeInto_8 : decode cX8_takeInto 8 = .ok (.aload_n 0, 1) := by decide +kernel
theorem dX8_takeInto_9 : decode cX8_takeInto 9 = .ok (.dup, 1) := by decide +kernel
theorem dX8_takeInto_10 : decode cX8_takeInto 10 = .ok (.getfield 22, 3) := by decide +kernel
theorem dX8_takeInto_13 : decode cX8_takeInto 13 = .ok (.iconst 1, 1) := by decide +kernel
theorem dX8_takeInto_14 : decode cX8_takeInto 14 = .ok (.isub, 1) := by decide +kernel
theorem dX8_takeInto_15 : decode cX8_takeInto 15 = .ok (.putfield 22, 3) := by decide +kernel
theorem dX8_takeInto_18 : decode cX8_takeInto 18 = .ok (.aload_n 0, 1) := by decide +kernel
theorem dX8_takeInto_19 : decode cX8_takeInto 19 = .ok (.getfield 11, 3) := by decide +kernel
theorem dX8_takeInto_22 : decode cX8_takeInto 22 = .ok (.aload_n 0, 1) := by decide +kernel
theorem dX8_takeInto_23 : decode cX8_takeInto 23 = .ok (.getfield 22, 3) := by decide +kernel
theorem dX8_takeInto_26 : decode cX8_takeInto 26 = .ok (.aaload, 1) := by decide +kernel
theorem dX8_takeInto_27 : decode cX8_takeInto 27 = .ok (.iconst 0, 1) := by decide +kernel
theorem dX8_takeInto_28 : decode cX8_takeInto 28 = .ok (.aload_n 1, 1) := by decide +kernel
theorem dX8_takeInto_29 : decode cX8_takeInto 29 = .ok (.getfield 26, 3) := by decide +kernel
theorem dX8_takeInto_32 : decode cX8_takeInto 32 = .ok (.iconst 0, 1) := by decide +kernel
theorem dX8_takeInto_33 : decode cX8_takeInto 33 = .ok (.bipush 7, 2) := by decide +kernel
theorem dX8_takeInto_35 : decode cX8_takeInto 35 = .ok (.invokestatic 32, 3) := by decide +kernel
theorem dX8_takeInto_38 : decode cX8_takeInto 38 = .ok (.aload_n 0, 1) := by decide +kernel
theorem dX8_takeInto_39 : decode cX8_takeInto 39 = .ok (.getfield 16, 3) := by decide +kernel
theorem dX8_takeInto_42 : decode cX8_takeInto 42 = .ok (.aload_n 0, 1) := by decide +kernel
theorem dX8_takeInto_43 : decode cX8_takeInto 43 = .ok (.getfield 22, 3) := by decide +kernel
theorem dX8_takeInto_46 : decode cX8_takeInto 46 = .ok (.aaload, 1) := by decide +kernel
theorem dX8_takeInto_47 : decode cX8_takeInto 47 = .ok (.iconst 0, 1) := by decide +kernel
theorem dX8_takeInto_48 : decode cX8_takeInto 48 = .ok (.aload_n 1, 1) := by decide +kernel
theorem dX8_takeInto_49 : decode cX8_takeInto 49 = .ok (.getfield 38, 3) := by decide +kernel
theorem dX8_takeInto_52 : decode cX8_takeInto 52 = .ok (.iconst 0, 1) := by decide +kernel
theorem dX8_takeInto_53 : decode cX8_takeInto 53 = .ok (.bipush 7, 2) := by decide +kernel
theorem dX8_takeInto_55 : decode cX8_takeInto 55 = .ok (.invokestatic 32, 3) := by decide +kernel
theorem dX8_takeInto_58 : decode cX8_takeInto 58 = .ok (.aload_n 0, 1) := by decide +kernel
theorem dX8_takeInto_59 : decode cX8_takeInto 59 = .ok (.getfield 19, 3) := by decide +kernel
theorem dX8_takeInto_62 : decode cX8_takeInto 62 = .ok (.aload_n 0, 1) := by decide +kernel
theorem dX8_takeInto_63 : decode cX8_takeInto 63 = .ok (.getfield 22, 3) := by decide +kernel
theorem dX8_takeInto_66 : decode cX8_takeInto 66 = .ok (.aaload, 1) := by decide +kernel
theorem dX8_takeInto_67 : decode cX8_takeInto 67 = .ok (.iconst 0, 1) := by decide +kernel
theorem dX8_takeInto_68 : decode cX8_takeInto 68 = .ok (.aload_n 1, 1) := by decide +kernel
theorem dX8_takeInto_69 : decode cX8_takeInto 69 = .ok (.getfield 40, 3) := by decide +kernel
theorem dX8_takeInto_72 : decode cX8_takeInto 72 = .ok (.iconst 0, 1) := by decide +kernel
theorem dX8_takeInto_73 : decode cX8_takeInto 73 = .ok (.bipush 7, 2) := by decide +kernel
theorem dX8_takeInto_75 : decode cX8_takeInto 75 = .ok (.invokestatic 32, 3) := by decide +kernel
theorem dX8_takeInto_78 : decode cX8_takeInto 78 = .ok (.return_, 1) := by decide +kernel
theorem dX9_init_0 : decode cX9_init 0 = .ok (.aload_n 0, 1) := by decide +kernel
theorem dX9_init_1 : decode cX9_init 1 = .ok (.invokespecial 3, 3) := by decide +kernel
theorem dX9_init_4 : decode cX9_init 4 = .ok (.aload_n 0, 1) := by decide +kernel
theorem dX9_init_5 : decode cX9_init 5 = .ok (.new 9, 3) := by decide +kernel
theorem dX9_init_8 : decode cX9_init 8 = .ok (.dup, 1) := by decide +kernel
theorem dX9_init_9 : decode cX9_init 9 = .ok (.invokespecial 11, 3) := by decide +kernel
theorem dX9_init_12 : decode cX9_init 12 = .ok (.putfield 12, 3) := by decide +kernel
theorem dX9_init_15 : decode cX9_init 15 = .ok (.aload_n 0, 1) := by decide +kernel
theorem dX9_init_16 : decode cX9_init 16 = .ok (.new 18, 3) := by decide +kernel
theorem dX9_init_19 : decode cX9_init 19 = .ok (.dup, 1) := by decide +kernel
theorem dX9_init_20 : decode cX9_init 20 = .ok (.invokespecial 20, 3) := by decide +kernel
theorem dX9_init_23 : decode cX9_init 23 = .ok (.putfield 21, 3) := by decide +kernel
theorem dX9_init_26 : decode cX9_init 26 = .ok (.aload_n 0, 1) := by decide +kernel
theorem dX9_init_27 : decode cX9_init 27 = .ok (.new 25, 3) := by decide +kernel
theorem dX9_init_30 : decode cX9_init 30 = .ok (.dup, 1) := by decide +kernel
theorem dX9_init_31 : decode cX9_init 31 = .ok (.invokespecial 27, 3) := by decide +kernel
theorem dX9_init_34 : decode cX9_init 34 = .ok (.putfield 28, 3) := by decide +kernel
theorem dX9_init_37 : decode cX9_init 37 = .ok (.aload_n 0, 1) := by decide +kernel
theorem dX9_init_38 : decode cX9_init 38 = .ok (.new 32, 3) := by decide +kernel
theorem dX9_init_41 : decode cX9_init 41 = .ok (.dup, 1) := by decide +kernel
theorem dX9_init_42 : decode cX9_init 42 = .ok (.invokespecial 34, 3) := by decide +kernel
theorem dX9_init_45 : decode cX9_init 45 = .ok (.putfield 35, 3) := by decide +kernel
theorem dX9_init_48 : decode cX9_init 48 = .ok (.aload_n 0, 1) := by decide +kernel
theorem dX9_init_49 : decode cX9_init 49 = .ok (.new 39, 3) := by decide +kernel
theorem dX9_init_52 : decode cX9_init 52 = .ok (.dup, 1) := by decide +kernel
theorem dX9_init_53 : decode cX9_init 53 = .ok (.invokespecial 41, 3) := by decide +kernel
theorem dX9_init_56 : decode cX9_init 56 = .ok (.putfield 42, 3) := by decide +kernel
theorem dX9_init_59 : decode cX9_init 59 = .ok (.aload_n 0, 1) := by decide +kernel
theorem dX9_init_60 : decode cX9_init 60 = .ok (.new 46, 3) := by decide +kernel
theorem dX9_init_63 : decode cX9_init 63 = .ok (.dup, 1) := by decide +kernel
theorem dX9_init_64 : decode cX9_init 64 = .ok (.invokespecial 48, 3) := by decide +kernel
theorem dX9_init_67 : decode cX9_init 67 = .ok (.putfield 49, 3) := by decide +kernel
theorem dX9_init_70 : decode cX9_init 70 = .ok (.aload_n 0, 1) := by decide +kernel
theorem dX9_init_71 : decode cX9_init 71 = .ok (.bipush 7, 2) := by decide +kernel
theorem dX9_init_73 : decode cX9_init 73 = .ok (.newarray .int, 2) := by decide +kernel
theorem dX9_init_75 : decode cX9_init 75 = .ok (.putfield 53, 3) := by decide +kernel
theorem dX9_init_78 : decode cX9_init 78 = .ok (.aload_n 0, 1) := by decide +kernel
theorem dX9_init_79 : decode cX9_init 79 = .ok (.new 57, 3) := by decide +kernel
theorem dX9_init_82 : decode cX9_init 82 = .ok (.dup, 1) := by decide +kernel
theorem dX9_init_83 : decode cX9_init 83 = .ok (.invokespecial 59, 3) := by decide +kernel
theorem dX9_init_86 : decode cX9_init 86 = .ok (.putfield 60, 3) := by decide +kernel
theorem dX9_init_89 : decode cX9_init 89 = .ok (.aload_n 0, 1) := by decide +kernel
theorem dX9_init_90 : decode cX9_init 90 = .ok (.new 57, 3) := by decide +kernel
theorem dX9_init_93 : decode cX9_init 93 = .ok (.dup, 1) := by decide +kernel
theorem dX9_init_94 : decode cX9_init 94 = .ok (.invokespecial 59, 3) := by decide +kernel
theorem dX9_init_97 : decode cX9_init 97 = .ok (.putfield 64, 3) := by decide +kernel
theorem dX9_init_100 : decode cX9_init 100 = .ok (.iconst 0, 1) := by decide +kernel
theorem dX9_init_101 : decode cX9_init 101 = .ok (.istore_n 1, 1) := by decide +kernel
theorem dX9_init_102 : decode cX9_init 102 = .ok (.iload_n 1, 1) := by decide +kernel
theorem dX9_init_103 : decode cX9_init 103 = .ok (.ldc 67, 2) := by decide +kernel
theorem dX9_init_105 : decode cX9_init 105 = .ok (.invokevirtual 69, 3) := by decide +kernel
theorem dX9_init_108 : decode cX9_init 108 = .ok (.if_icmp .ge 23, 3) := by decide +kernel
theorem dX9_init_111 : decode cX9_init 111 = .ok (.aload_n 0, 1) := by decide +kernel
theorem dX9_init_112 : decode cX9_init 112 = .ok (.getfield 12, 3) := by decide +kernel
theorem dX9_init_115 : decode cX9_init 115 = .ok (.ldc 67, 2) := by decide +kernel
theorem dX9_init_117 : decode cX9_init 117 = .ok (.iload_n 1, 1) := by decide +kernel
theorem dX9_init_118 : decode cX9_init 118 = .ok (.invokevirtual 75, 3) := by decide +kernel
theorem dX9_init_121 : decode cX9_init 121 = .ok (.invokevirtual 79, 3) := by decide +kernel
theorem dX9_init_124 : decode cX9_init 124 = .ok (.pop, 1) := by decide +kernel
theorem dX9_init_125 : decode cX9_init 125 = .ok (.iinc 1 1, 3) := by decide +kernel
theorem dX9_init_128 : decode cX9_init 128 = .ok (.goto (-26), 3) := by decide +kernel
theorem dX9_init_131 : decode cX9_init 131 = .ok (.aload_n 0, 1) := by decide +kernel
theorem dX9_init_132 : decode cX9_init 132 = .ok (.getfield 12, 3) := by decide +kernel
theorem dX9_init_135 : decode cX9_init 135 = .ok (.aload_n 0, 1) := by decide +kernel
theorem dX9_init_136 : decode cX9_init 136 = .ok (.getfield 60, 3) := by decide +kernel
theorem dX9_init_139 : decode cX9_init 139 = .ok (.invokevirtual 83, 3) := by decide +kernel
theorem dX9_init_142 : decode cX9_init 142 = .ok (.pop, 1) := by decide +kernel
theorem dX9_init_143 : decode cX9_init 143 = .ok (.aload_n 0, 1) := by decide +kernel
theorem dX9_init_144 : decode cX9_init 144 = .ok (.getfield 12, 3) := by decide +kernel
theorem dX9_init_147 : decode cX9_init 147 = .ok (.iconst 0, 1) := by decide +kernel
theorem dX9_init_148 : decode cX9_init 148 = .ok (.putfield 87, 3) := by decide +kernel
theorem dX9_init_151 : decode cX9_init 151 = .ok (.return_, 1) := by decide +kernel
theorem dX9_write_0 : decode cX9_write 0 = .ok (.iload_n 1, 1) := by decide +kernel
theorem dX9_write_1 : decode cX9_write 1 = .ok (.bipush 32, 2) := by decide +kernel
theorem dX9_write_3 : decode cX9_write 3 = .ok (.bipush 126, 2) := by decide +kernel
theorem dX9_write_5 : decode cX9_write 5 = .ok (.invokestatic 91, 3) := by decide +kernel
theorem dX9_write_8 : decode cX9_write 8 = .ok (.ifCond .ne 5, 3) := by decide +kernel
theorem dX9_write_11 : decode cX9_write 11 = .ok (.iconst (-1), 1) := by decide +kernel
theorem dX9_write_12 : decode cX9_write 12 = .ok (.ireturn, 1) := by decide +kernel
theorem dX9_write_13 : decode cX9_write 13 = .ok (.aload_n 0, 1) := by decide +kernel
theorem dX9_write_14 : decode cX9_write 14 = .ok (.getfield 12, 3) := by decide +kernel
theorem dX9_write_17 : decode cX9_write 17 = .ok (.iload_n 1, 1) := by decide +kernel
theorem dX9_write_18 : decode cX9_write 18 = .ok (.i2c, 1) := by decide +kernel
theorem dX9_write_19 : decode cX9_write 19 = .ok (.invokevirtual 79, 3) := by decide +kernel
theorem dX9_write_22 : decode cX9_write 22 = .ok (.ifCond .eq 13, 3) := by decide +kernel
theorem dX9_write_25 : decode cX9_write 25 = .ok (.aload_n 0, 1) := by decide +kernel
theorem dX9_write_26 : decode cX9_write 26 = .ok (.getfield 12, 3) := by decide +kernel
theorem dX9_write_29 : decode cX9_write 29 = .ok (.getfield 87, 3) := by decide +kernel
theorem dX9_write_32 : decode cX9_write 32 = .ok (.goto 5, 3) := by decide +kernel
theorem dX9_write_35 : decode cX9_write 35 = .ok (.bipush (-3), 2) := by decide +kernel
theorem dX9_write_37 : decode cX9_write 37 = .ok (.ireturn, 1) := by decide +kernel
theorem dX9_wipe_0 : decode cX9_wipe 0 = .ok (.aload_n 0, 1) := by decide +kernel
theorem dX9_wipe_1 : decode cX9_wipe 1 = .ok (.getfield 12, 3) := by decide +kernel
theorem dX9_wipe_4 : decode cX9_wipe 4 = .ok (.getfield 87, 3) := by decide +kernel
theorem dX9_wipe_7 : decode cX9_wipe 7 = .ok (.istore_n 1, 1) := by decide +kernel
theorem dX9_wipe_8 : decode cX9_wipe 8 = .ok (.aload_n 0, 1) := by decide +kernel
theorem dX9_wipe_9 : decode cX9_wipe 9 = .ok (.getfield 12, 3) := by decide +kernel
theorem dX9_wipe_12 : decode cX9_wipe 12 = .ok (.iconst 0, 1) := by decide +kernel
theorem dX9_wipe_13 : decode cX9_wipe 13 = .ok (.putfield 87, 3) := by decide +kernel
theorem dX9_wipe_16 : decode cX9_wipe 16 = .ok (.iload_n 1, 1) := by decide +kernel
theorem dX9_wipe_17 : decode cX9_wipe 17 = .ok (.ireturn, 1) := by decide +kernel
theorem dX9_fault_0 : decode cX9_fault 0 = .ok (.aload_n 0, 1) := by decide +kernel
theorem dX9_fault_1 : decode cX9_fault 1 = .ok (.getfield 12, 3) := by decide +kernel
theorem dX9_fault_4 : decode cX9_fault 4 = .ok (.aload_n 0, 1) := by decide +kernel
theorem dX9_fault_5 : decode cX9_fault 5 = .ok (.getfield 64, 3) := by decide +kernel
theorem dX9_fault_8 : decode cX9_fault 8 = .ok (.invokevirtual 83, 3) := by decide +kernel
theorem dX9_fault_11 : decode cX9_fault 11 = .ok (.ireturn, 1) := by decide +kernel
theorem dX9_lay_0 : decode cX9_lay 0 = .ok (.aload_n 0, 1) := by decide +kernel
theorem dX9_lay_1 : decode cX9_lay 1 = .ok (.getfield 12, 3) := by decide +kernel
theorem dX9_lay_4 : decode cX9_lay 4 = .ok (.aload_n 0, 1) := by decide +kernel
theorem dX9_lay_5 : decode cX9_lay 5 = .ok (.getfield 64, 3) := by decide +kernel
theorem dX9_lay_8 : decode cX9_lay 8 = .ok (.invokevirtual 83, 3) := by decide +kernel
theorem dX9_lay_11 : decode cX9_lay 11 = .ok (.bipush (-4), 2) := by decide +kernel
theorem dX9_lay_13 : decode cX9_lay 13 = .ok (.if_icmp .ne 13, 3) := by decide +kernel
theorem dX9_lay_16 : decode cX9_lay 16 = .ok (.aload_n 0, 1) := by decide +kernel
theorem dX9_lay_17 : decode cX9_lay 17 = .ok (.getfield 64, 3) := by decide +kernel
theorem dX9_lay_20 : decode cX9_lay 20 = .ok (.invokevirtual 95, 3) := by decide +kernel
theorem dX9_lay_23 : decode cX9_lay 23 = .ok (.ifCond .ne 6, 3) := by decide +kernel
theorem dX9_lay_26 : decode cX9_lay 26 = .ok (.bipush (-2), 2) := by decide +kernel
theorem dX9_lay_28 : decode cX9_lay 28 = .ok (.ireturn, 1) := by decide +kernel
theorem dX9_lay_29 : decode cX9_lay 29 = .ok (.aload_n 0, 1) := by decide +kernel
theorem dX9_lay_30 : decode cX9_lay 30 = .ok (.getfield 60, 3) := by decide +kernel
theorem dX9_lay_33 : decode cX9_lay 33 = .ok (.astore_n 1, 1) := by decide +kernel
theorem dX9_lay_34 : decode cX9_lay 34 = .ok (.aload_n 0, 1) := by decide +kernel
theorem dX9_lay_35 : decode cX9_lay 35 = .ok (.aload_n 0, 1) := by decide +kernel
theorem dX9_lay_36 : decode cX9_lay 36 = .ok (.getfield 64, 3) := by decide +kernel
theorem dX9_lay_39 : decode cX9_lay 39 = .ok (.putfield 60, 3) := by decide +kernel
theorem dX9_lay_42 : decode cX9_lay 42 = .ok (.aload_n 0, 1) := by decide +kernel
theorem dX9_lay_43 : decode cX9_lay 43 = .ok (.aload_n 1, 1) := by decide +kernel
theorem dX9_lay_44 : decode cX9_lay 44 = .ok (.putfield 64, 3) := by decide +kernel
theorem dX9_lay_47 : decode cX9_lay 47 = .ok (.aload_n 0, 1) := by decide +kernel
theorem dX9_lay_48 : decode cX9_lay 48 = .ok (.getfield 28, 3) := by decide +kernel
theorem dX9_lay_51 : decode cX9_lay 51 = .ok (.iconst 0, 1) := by decide +kernel
theorem dX9_lay_52 : decode cX9_lay 52 = .ok (.putfield 99, 3) := by decide +kernel
theorem dX9_lay_55 : decode cX9_lay 55 = .ok (.aload_n 0, 1) := by decide +kernel
theorem dX9_lay_56 : decode cX9_lay 56 = .ok (.getfield 35, 3) := by decide +kernel
theorem dX9_lay_59 : decode cX9_lay 59 = .ok (.iconst 0, 1) := by decide +kernel
theorem dX9_lay_60 : decode cX9_lay 60 = .ok (.putfield 100, 3) := by decide +kernel
theorem dX9_lay_63 : decode cX9_lay 63 = .ok (.aload_n 0, 1) := by decide +kernel
theorem dX9_lay_64 : decode cX9_lay 64 = .ok (.getfield 42, 3) := by decide +kernel
theorem dX9_lay_67 : decode cX9_lay 67 = .ok (.iconst 0, 1) := by decide +kernel
theorem dX9_lay_68 : decode cX9_lay 68 = .ok (.putfield 101, 3) := by decide +kernel
theorem dX9_lay_71 : decode cX9_lay 71 = .ok (.aload_n 0, 1) := by decide +kernel
theorem dX9_lay_72 : decode cX9_lay 72 = .ok (.getfield 49, 3) := by decide +kernel
theorem dX9_lay_75 : decode cX9_lay 75 = .ok (.iconst 0, 1) := by decide +kernel
theorem dX9_lay_76 : decode cX9_lay 76 = .ok (.putfield 102, 3) := by decide +kernel
theorem dX9_lay_79 : decode cX9_lay 79 = .ok (.aload_n 0, 1) := by decide +kernel
theorem dX9_lay_80 : decode cX9_lay 80 = .ok (.getfield 60, 3) := by decide +kernel
theorem dX9_lay_83 : decode cX9_lay 83 = .ok (.getfield 106, 3) := by decide +kernel
theorem dX9_lay_86 : decode cX9_lay 86 = .ok (.getfield 110, 3) := by decide +kernel
theorem dX9_lay_89 : decode cX9_lay 89 = .ok (.ireturn, 1) := by decide +kernel
theorem dX9_bed_0 : decode cX9_bed 0 = .ok (.aload_n 0, 1) := by decide +kernel
theorem dX9_bed_1 : decode cX9_bed 1 = .ok (.getfield 60, 3) := by decide +kernel
theorem dX9_bed_4 : decode cX9_bed 4 = .ok (.getfield 113, 3) := by decide +kernel
theorem dX9_bed_7 : decode cX9_bed 7 = .ok (.iload_n 1, 1) := by decide +kernel
theorem dX9_bed_8 : decode cX9_bed 8 = .ok (.invokevirtual 117, 3) := by decide +kernel
theorem dX9_bed_11 : decode cX9_bed 11 = .ok (.ifCond .eq 25, 3) := by decide +kernel
theorem dX9_bed_14 : decode cX9_bed 14 = .ok (.iload_n 2, 1) := by decide +kernel
theorem dX9_bed_15 : decode cX9_bed 15 = .ok (.invokestatic 123, 3) := by decide +kernel
theorem dX9_bed_18 : decode cX9_bed 18 = .ok (.ifCond .eq 18, 3) := by decide +kernel
theorem dX9_bed_21 : decode cX9_bed 21 = .ok (.aload_n 0, 1) := by decide +kernel
theorem dX9_bed_22 : decode cX9_bed 22 = .ok (.getfield 60, 3) := by decide +kernel
theorem dX9_bed_25 : decode cX9_bed 25 = .ok (.getfield 113, 3) := by decide +kernel
theorem dX9_bed_28 : decode cX9_bed 28 = .ok (.iload_n 1, 1) := by decide +kernel
theorem dX9_bed_29 : decode cX9_bed 29 = .ok (.iload_n 2, 1) := by decide +kernel
theorem dX9_bed_30 : decode cX9_bed 30 = .ok (.invokevirtual 126, 3) := by decide +kernel
theorem dX9_bed_33 : decode cX9_bed 33 = .ok (.goto 4, 3) := by decide +kernel
theorem dX9_bed_36 : decode cX9_bed 36 = .ok (.iconst (-1), 1) := by decide +kernel
theorem dX9_bed_37 : decode cX9_bed 37 = .ok (.ireturn, 1) := by decide +kernel
theorem dX9_guest_0 : decode cX9_guest 0 = .ok (.aload_n 0, 1) := by decide +kernel
theorem dX9_guest_1 : decode cX9_guest 1 = .ok (.getfield 60, 3) := by decide +kernel
theorem dX9_guest_4 : decode cX9_guest 4 = .ok (.getfield 106, 3) := by decide +kernel
theorem dX9_guest_7 : decode cX9_guest 7 = .ok (.astore_n 3, 1) := by decide +kernel
theorem dX9_guest_8 : decode cX9_guest 8 = .ok (.aload_n 3, 1) := by decide +kernel
theorem dX9_guest_9 : decode cX9_guest 9 = .ok (.iload_n 1, 1) := by decide +kernel
theorem dX9_guest_10 : decode cX9_guest 10 = .ok (.invokevirtual 130, 3) := by decide +kernel
theorem dX9_guest_13 : decode cX9_guest 13 = .ok (.ifCond .ne 5, 3) := by decide +kernel
theorem dX9_guest_16 : decode cX9_guest 16 = .ok (.iconst (-1), 1) := by decide +kernel
theorem dX9_guest_17 : decode cX9_guest 17 = .ok (.ireturn, 1) := by decide +kernel
theorem dX9_guest_18 : decode cX9_guest 18 = .ok (.iload_n 2, 1) := by decide +kernel
theorem dX9_guest_19 : decode cX9_guest 19 = .ok (.tableswitch 81 0 5 #[37, 44, 51, 58, 68, 75], 37) := by decide +kernel
theorem dX9_guest_56 : decode cX9_guest 56 = .ok (.aload_n 3, 1) := by decide +kernel
theorem dX9_guest_57 : decode cX9_guest 57 = .ok (.getfield 131, 3) := by decide +kernel
theorem dX9_guest_60 : decode cX9_guest 60 = .ok (.iload_n 1, 1) := by decide +kernel
theorem dX9_guest_61 : decode cX9_guest 61 = .ok (.iaload, 1) := by decide +kernel
theorem dX9_guest_62 : decode cX9_guest 62 = .ok (.ireturn, 1) := by decide +kernel
theorem dX9_guest_63 : decode cX9_guest 63 = .ok (.aload_n 3, 1) := by decide +kernel
theorem dX9_guest_64 : decode cX9_guest 64 = .ok (.getfield 134, 3) := by decide +kernel
theorem dX9_guest_67 : decode cX9_guest 67 = .ok (.iload_n 1, 1) := by decide +kernel
theorem dX9_guest_68 : decode cX9_guest 68 = .ok (.iaload, 1) := by decide +kernel
theorem dX9_guest_69 : decode cX9_guest 69 = .ok (.ireturn, 1) := by decide +kernel
theorem dX9_guest_70 : decode cX9_guest 70 = .ok (.aload_n 3, 1) := by decide +kernel
theorem dX9_guest_71 : decode cX9_guest 71 = .ok (.getfield 137, 3) := by decide +kernel
theorem dX9_guest_74 : decode cX9_guest 74 = .ok (.iload_n 1, 1) := by decide +kernel
theorem dX9_guest_75 : decode cX9_guest 75 = .ok (.iaload, 1) := by decide +kernel
theorem dX9_guest_76 : decode cX9_guest 76 = .ok (.ireturn, 1) := by decide +kernel
theorem dX9_guest_77 : decode cX9_guest 77 = .ok (.aload_n 3, 1) := by decide +kernel
theorem dX9_guest_78 : decode cX9_guest 78 = .ok (.getfield 140, 3) := by decide +kernel
theorem dX9_guest_81 : decode cX9_guest 81 = .ok (.iload_n 1, 1) := by decide +kernel
theorem dX9_guest_82 : decode cX9_guest 82 = .ok (.iaload, 1) := by decide +kernel
theorem dX9_guest_83 : decode cX9_guest 83 = .ok (.bipush 100, 2) := by decide +kernel
theorem dX9_guest_85 : decode cX9_guest 85 = .ok (.iadd, 1) := by decide +kernel
theorem dX9_guest_86 : decode cX9_guest 86 = .ok (.ireturn, 1) := by decide +kernel
theorem dX9_guest_87 : decode cX9_guest 87 = .ok (.aload_n 3, 1) := by decide +kernel
theorem dX9_guest_88 : decode cX9_guest 88 = .ok (.getfield 143, 3) := by decide +kernel
theorem dX9_guest_91 : decode cX9_guest 91 = .ok (.iload_n 1, 1) := by decide +kernel
theorem dX9_guest_92 : decode cX9_guest 92 = .ok (.iaload, 1) := by decide +kernel
theorem dX9_guest_93 : decode cX9_guest 93 = .ok (.ireturn, 1) := by decide +kernel
theorem dX9_guest_94 : decode cX9_guest 94 = .ok (.aload_n 3, 1) := by decide +kernel
theorem dX9_guest_95 : decode cX9_guest 95 = .ok (.iload_n 1, 1) := by decide +kernel
theorem dX9_guest_96 : decode cX9_guest 96 = .ok (.invokevirtual 146, 3) := by decide +kernel
theorem dX9_guest_99 : decode cX9_guest 99 = .ok (.ireturn, 1) := by decide +kernel
theorem dX9_guest_100 : decode cX9_guest 100 = .ok (.iconst (-1), 1) := by decide +kernel
theorem dX9_guest_101 : decode cX9_guest 101 = .ok (.ireturn, 1) := by decide +kernel
theorem dX9_harm_0 : decode cX9_harm 0 = .ok (.aload_n 0, 1) := by decide +kernel
theorem dX9_harm_1 : decode cX9_harm 1 = .ok (.getfield 60, 3) := by decide +kernel
theorem dX9_harm_4 : decode cX9_harm 4 = .ok (.getfield 106, 3) := by decide +kernel
theorem dX9_harm_7 : decode cX9_harm 7 = .ok (.iload_n 1, 1) := by decide +kernel
theorem dX9_harm_8 : decode cX9_harm 8 = .ok (.invokevirtual 130, 3) := by decide +kernel
theorem dX9_harm_11 : decode cX9_harm 11 = .ok (.ifCond .eq 24, 3) := by decide +kernel
theorem dX9_harm_14 : decode cX9_harm 14 = .ok (.aload_n 0, 1) := by decide +kernel
theorem dX9_harm_15 : decode cX9_harm 15 = .ok (.getfield 60, 3) := by decide +kernel
theorem dX9_harm_18 : decode cX9_harm 18 = .ok (.getfield 113, 3) := by decide +kernel
theorem dX9_harm_21 : decode cX9_harm 21 = .ok (.iload_n 2, 1) := by decide +kernel
theorem dX9_harm_22 : decode cX9_harm 22 = .ok (.invokevirtual 117, 3) := by decide +kernel
theorem dX9_harm_25 : decode cX9_harm 25 = .ok (.ifCond .eq 10, 3) := by decide +kernel
theorem dX9_harm_28 : decode cX9_harm 28 = .ok (.iload_n 3, 1) := by decide +kernel
theorem dX9_harm_29 : decode cX9_harm 29 = .ok (.invokestatic 123, 3) := by decide +kernel
theorem dX9_harm_32 : decode cX9_harm 32 = .ok (.ifCond .ne 5, 3) := by decide +kernel
theorem dX9_harm_35 : decode cX9_harm 35 = .ok (.iconst (-1), 1) := by decide +kernel
theorem dX9_harm_36 : decode cX9_harm 36 = .ok (.ireturn, 1) := by decide +kernel
theorem dX9_harm_37 : decode cX9_harm 37 = .ok (.aload_n 0, 1) := by decide +kernel
theorem dX9_harm_38 : decode cX9_harm 38 = .ok (.getfield 60, 3) := by decide +kernel
theorem dX9_harm_41 : decode cX9_harm 41 = .ok (.getfield 106, 3) := by decide +kernel
theorem dX9_harm_44 : decode cX9_harm 44 = .ok (.iload_n 1, 1) := by decide +kernel
theorem dX9_harm_45 : decode cX9_harm 45 = .ok (.iload_n 3, 1) := by decide +kernel
theorem dX9_harm_46 : decode cX9_harm 46 = .ok (.aload_n 0, 1) := by decide +kernel
theorem dX9_harm_47 : decode cX9_harm 47 = .ok (.getfield 60, 3) := by decide +kernel
theorem dX9_harm_50 : decode cX9_harm 50 = .ok (.getfield 113, 3) := by decide +kernel
theorem dX9_harm_53 : decode cX9_harm 53 = .ok (.iload_n 2, 1) := by decide +kernel
theorem dX9_harm_54 : decode cX9_harm 54 = .ok (.iload_n 3, 1) := by decide +kernel
theorem dX9_harm_55 : decode cX9_harm 55 = .ok (.invokevirtual 126, 3) := by decide +kernel
theorem dX9_harm_58 : decode cX9_harm 58 = .ok (.invokevirtual 150, 3) := by decide +kernel
theorem dX9_harm_61 : decode cX9_harm 61 = .ok (.ireturn, 1) := by decide +kernel
theorem dX9_lies_0 : decode cX9_lies 0 = .ok (.aload_n 0, 1) := by decide +kernel
theorem dX9_lies_1 : decode cX9_lies 1 = .ok (.getfield 60, 3) := by decide +kernel
theorem dX9_lies_4 : decode cX9_lies 4 = .ok (.getfield 106, 3) := by decide +kernel
theorem dX9_lies_7 : decode cX9_lies 7 = .ok (.iload_n 1, 1) := by decide +kernel
theorem dX9_lies_8 : decode cX9_lies 8 = .ok (.invokevirtual 130, 3) := by decide +kernel
theorem dX9_lies_11 : decode cX9_lies 11 = .ok (.ifCond .eq 12, 3) := by decide +kernel
theorem dX9_lies_14 : decode cX9_lies 14 = .ok (.iload_n 2, 1) := by decide +kernel
theorem dX9_lies_15 : decode cX9_lies 15 = .ok (.iconst 0, 1) := by decide +kernel
theorem dX9_lies_16 : decode cX9_lies 16 = .ok (.iconst 4, 1) := by decide +kernel
theorem dX9_lies_17 : decode cX9_lies 17 = .ok (.invokestatic 91, 3) := by decide +kernel
theorem dX9_lies_20 : decode cX9_lies 20 = .ok (.ifCond .ne 5, 3) := by decide +kernel
theorem dX9_lies_23 : decode cX9_lies 23 = .ok (.iconst (-1), 1) := by decide +kernel
theorem dX9_lies_24 : decode cX9_lies 24 = .ok (.ireturn, 1) := by decide +kernel
theorem dX9_lies_25 : decode cX9_lies 25 = .ok (.aload_n 0, 1) := by decide +kernel
theorem dX9_lies_26 : decode cX9_lies 26 = .ok (.getfield 21, 3) := by decide +kernel
theorem dX9_lies_29 : decode cX9_lies 29 = .ok (.aload_n 0, 1) := by decide +kernel
theorem dX9_lies_30 : decode cX9_lies 30 = .ok (.getfield 60, 3) := by decide +kernel
theorem dX9_lies_33 : decode cX9_lies 33 = .ok (.ldc 154, 2) := by decide +kernel
theorem dX9_lies_35 : decode cX9_lies 35 = .ok (.invokevirtual 155, 3) := by decide +kernel
theorem dX9_lies_38 : decode cX9_lies 38 = .ok (.aload_n 0, 1) := by decide +kernel
theorem dX9_lies_39 : decode cX9_lies 39 = .ok (.getfield 21, 3) := by decide +kernel
theorem dX9_lies_42 : decode cX9_lies 42 = .ok (.iload_n 1, 1) := by decide +kernel
theorem dX9_lies_43 : decode cX9_lies 43 = .ok (.invokevirtual 159, 3) := by decide +kernel
theorem dX9_lies_46 : decode cX9_lies 46 = .ok (.ifCond .ne 6, 3) := by decide +kernel
theorem dX9_lies_49 : decode cX9_lies 49 = .ok (.bipush (-4), 2) := by decide +kernel
theorem dX9_lies_51 : decode cX9_lies 51 = .ok (.ireturn, 1) := by decide +kernel
theorem dX9_lies_52 : decode cX9_lies 52 = .ok (.iload_n 2, 1) := by decide +kernel
theorem dX9_lies_53 : decode cX9_lies 53 = .ok (.tableswitch 71 0 3 #[31, 41, 51, 61], 31) := by decide +kernel
theorem dX9_lies_84 : decode cX9_lies 84 = .ok (.aload_n 0, 1) := by decide +kernel
theorem dX9_lies_85 : decode cX9_lies 85 = .ok (.getfield 21, 3) := by decide +kernel
theorem dX9_lies_88 : decode cX9_lies 88 = .ok (.getfield 162, 3) := by decide +kernel
theorem dX9_lies_91 : decode cX9_lies 91 = .ok (.iload_n 1, 1) := by decide +kernel
theorem dX9_lies_92 : decode cX9_lies 92 = .ok (.iaload, 1) := by decide +kernel
theorem dX9_lies_93 : decode cX9_lies 93 = .ok (.ireturn, 1) := by decide +kernel
theorem dX9_lies_94 : decode cX9_lies 94 = .ok (.aload_n 0, 1) := by decide +kernel
theorem dX9_lies_95 : decode cX9_lies 95 = .ok (.getfield 21, 3) := by decide +kernel
theorem dX9_lies_98 : decode cX9_lies 98 = .ok (.getfield 165, 3) := by decide +kernel
theorem dX9_lies_101 : decode cX9_lies 101 = .ok (.iload_n 1, 1) := by decide +kernel
theorem dX9_lies_102 : decode cX9_lies 102 = .ok (.iaload, 1) := by decide +kernel
theorem dX9_lies_103 : decode cX9_lies 103 = .ok (.ireturn, 1) := by decide +kernel
theorem dX9_lies_104 : decode cX9_lies 104 = .ok (.aload_n 0, 1) := by decide +kernel
theorem dX9_lies_105 : decode cX9_lies 105 = .ok (.getfield 21, 3) := by decide +kernel
theorem dX9_lies_108 : decode cX9_lies 108 = .ok (.getfield 168, 3) := by decide +kernel
theorem dX9_lies_111 : decode cX9_lies 111 = .ok (.iload_n 1, 1) := by decide +kernel
theorem dX9_lies_112 : decode cX9_lies 112 = .ok (.iaload, 1) := by decide +kernel
theorem dX9_lies_113 : decode cX9_lies 113 = .ok (.ireturn, 1) := by decide +kernel
theorem dX9_lies_114 : decode cX9_lies 114 = .ok (.aload_n 0, 1) := by decide +kernel
theorem dX9_lies_115 : decode cX9_lies 115 = .ok (.getfield 21, 3) := by decide +kernel
theorem dX9_lies_118 : decode cX9_lies 118 = .ok (.getfield 171, 3) := by decide +kernel
theorem dX9_lies_121 : decode cX9_lies 121 = .ok (.iload_n 1, 1) := by decide +kernel
theorem dX9_lies_122 : decode cX9_lies 122 = .ok (.iaload, 1) := by decide +kernel
theorem dX9_lies_123 : decode cX9_lies 123 = .ok (.ireturn, 1) := by decide +kernel
theorem dX9_lies_124 : decode cX9_lies 124 = .ok (.aload_n 0, 1) := by decide +kernel
theorem dX9_lies_125 : decode cX9_lies 125 = .ok (.getfield 21, 3) := by decide +kernel
theorem dX9_lies_128 : decode cX9_lies 128 = .ok (.getfield 174, 3) := by decide +kernel
theorem dX9_lies_131 : decode cX9_lies 131 = .ok (.iload_n 1, 1) := by decide +kernel
theorem dX9_lies_132 : decode cX9_lies 132 = .ok (.iaload, 1) := by decide +kernel
theorem dX9_lies_133 : decode cX9_lies 133 = .ok (.ireturn, 1) := by decide +kernel
theorem dX9_who_0 : decode cX9_who 0 = .ok (.aload_n 0, 1) := by decide +kernel
theorem dX9_who_1 : decode cX9_who 1 = .ok (.getfield 60, 3) := by decide +kernel
theorem dX9_who_4 : decode cX9_who 4 = .ok (.getfield 113, 3) := by decide +kernel
theorem dX9_who_7 : decode cX9_who 7 = .ok (.iload_n 1, 1) := by decide +kernel
theorem dX9_who_8 : decode cX9_who 8 = .ok (.invokevirtual 117, 3) := by decide +kernel
theorem dX9_who_11 : decode cX9_who 11 = .ok (.ifCond .eq 10, 3) := by decide +kernel
theorem dX9_who_14 : decode cX9_who 14 = .ok (.iload_n 2, 1) := by decide +kernel
theorem dX9_who_15 : decode cX9_who 15 = .ok (.invokestatic 123, 3) := by decide +kernel
theorem dX9_who_18 : decode cX9_who 18 = .ok (.ifCond .ne 5, 3) := by decide +kernel
theorem dX9_who_21 : decode cX9_who 21 = .ok (.iconst (-1), 1) := by decide +kernel
theorem dX9_who_22 : decode cX9_who 22 = .ok (.ireturn, 1) := by decide +kernel
theorem dX9_who_23 : decode cX9_who 23 = .ok (.aload_n 0, 1) := by decide +kernel
theorem dX9_who_24 : decode cX9_who 24 = .ok (.getfield 21, 3) := by decide +kernel
theorem dX9_who_27 : decode cX9_who 27 = .ok (.aload_n 0, 1) := by decide +kernel
theorem dX9_who_28 : decode cX9_who 28 = .ok (.getfield 60, 3) := by decide +kernel
theorem dX9_who_31 : decode cX9_who 31 = .ok (.ldc 154, 2) := by decide +kernel
theorem dX9_who_33 : decode cX9_who 33 = .ok (.invokevirtual 155, 3) := by decide +kernel
theorem dX9_who_36 : decode cX9_who 36 = .ok (.iconst 0, 1) := by decide +kernel
theorem dX9_who_37 : decode cX9_who 37 = .ok (.istore_n 3, 1) := by decide +kernel
theorem dX9_who_38 : decode cX9_who 38 = .ok (.iload_n 3, 1) := by decide +kernel
theorem dX9_who_39 : decode cX9_who 39 = .ok (.aload_n 0, 1) := by decide +kernel
theorem dX9_who_40 : decode cX9_who 40 = .ok (.getfield 60, 3) := by decide +kernel
theorem dX9_who_43 : decode cX9_who 43 = .ok (.getfield 106, 3) := by decide +kernel
theorem dX9_who_46 : decode cX9_who 46 = .ok (.getfield 110, 3) := by decide +kernel
theorem dX9_who_49 : decode cX9_who 49 = .ok (.if_icmp .ge 48, 3) := by decide +kernel
theorem dX9_who_52 : decode cX9_who 52 = .ok (.aload_n 0, 1) := by decide +kernel
theorem dX9_who_53 : decode cX9_who 53 = .ok (.getfield 21, 3) := by decide +kernel
theorem dX9_who_56 : decode cX9_who 56 = .ok (.iload_n 3, 1) := by decide +kernel
theorem dX9_who_57 : decode cX9_who 57 = .ok (.invokevirtual 159, 3) := by decide +kernel
theorem dX9_who_60 : decode cX9_who 60 = .ok (.ifCond .eq 31, 3) := by decide +kernel
theorem dX9_who_63 : decode cX9_who 63 = .ok (.aload_n 0, 1) := by decide +kernel
theorem dX9_who_64 : decode cX9_who 64 = .ok (.getfield 21, 3) := by decide +kernel
theorem dX9_who_67 : decode cX9_who 67 = .ok (.getfield 165, 3) := by decide +kernel
theorem dX9_who_70 : decode cX9_who 70 = .ok (.iload_n 3, 1) := by decide +kernel
theorem dX9_who_71 : decode cX9_who 71 = .ok (.iaload, 1) := by decide +kernel
theorem dX9_who_72 : decode cX9_who 72 = .ok (.iload_n 1, 1) := by decide +kernel
theorem dX9_who_73 : decode cX9_who 73 = .ok (.if_icmp .ne 18, 3) := by decide +kernel
theorem dX9_who_76 : decode cX9_who 76 = .ok (.aload_n 0, 1) := by decide +kernel
theorem dX9_who_77 : decode cX9_who 77 = .ok (.getfield 21, 3) := by decide +kernel
theorem dX9_who_80 : decode cX9_who 80 = .ok (.getfield 162, 3) := by decide +kernel
theorem dX9_who_83 : decode cX9_who 83 = .ok (.iload_n 3, 1) := by decide +kernel
theorem dX9_who_84 : decode cX9_who 84 = .ok (.iaload, 1) := by decide +kernel
theorem dX9_who_85 : decode cX9_who 85 = .ok (.iload_n 2, 1) := by decide +kernel
theorem dX9_who_86 : decode cX9_who 86 = .ok (.if_icmp .ne 5, 3) := by decide +kernel
theorem dX9_who_89 : decode cX9_who 89 = .ok (.iload_n 3, 1) := by decide +kernel
theorem dX9_who_90 : decode cX9_who 90 = .ok (.ireturn, 1) := by decide +kernel
theorem dX9_who_91 : decode cX9_who 91 = .ok (.iinc 3 1, 3) := by decide +kernel
theorem dX9_who_94 : decode cX9_who 94 = .ok (.goto (-56), 3) := by decide +kernel
theorem dX9_who_97 : decode cX9_who 97 = .ok (.bipush (-4), 2) := by decide +kernel
theorem dX9_who_99 : decode cX9_who 99 = .ok (.ireturn, 1) := by decide +kernel
theorem dX9_all_0 : decode cX9_all 0 = .ok (.iload_n 1, 1) := by decide +kernel
theorem dX9_all_1 : decode cX9_all 1 = .ok (.iconst 0, 1) := by decide +kernel
theorem dX9_all_2 : decode cX9_all 2 = .ok (.iconst 3, 1) := by decide +kernel
theorem dX9_all_3 : decode cX9_all 3 = .ok (.invokestatic 91, 3) := by decide +kernel
theorem dX9_all_6 : decode cX9_all 6 = .ok (.ifCond .ne 5, 3) := by decide +kernel
theorem dX9_all_9 : decode cX9_all 9 = .ok (.iconst (-1), 1) := by decide +kernel
theorem dX9_all_10 : decode cX9_all 10 = .ok (.ireturn, 1) := by decide +kernel
theorem dX9_all_11 : decode cX9_all 11 = .ok (.aload_n 0, 1) := by decide +kernel
theorem dX9_all_12 : decode cX9_all 12 = .ok (.getfield 21, 3) := by decide +kernel
theorem dX9_all_15 : decode cX9_all 15 = .ok (.aload_n 0, 1) := by decide +kernel
theorem dX9_all_16 : decode cX9_all 16 = .ok (.getfield 60, 3) := by decide +kernel
theorem dX9_all_19 : decode cX9_all 19 = .ok (.ldc 154, 2) := by decide +kernel
theorem dX9_all_21 : decode cX9_all 21 = .ok (.invokevirtual 155, 3) := by decide +kernel
theorem dX9_all_24 : decode cX9_all 24 = .ok (.iload_n 1, 1) := by decide +kernel
theorem dX9_all_25 : decode cX9_all 25 = .ok (.tableswitch 68 0 2 #[27, 42, 53], 27) := by decide +kernel
theorem dX9_all_52 : decode cX9_all 52 = .ok (.aload_n 0, 1) := by decide +kernel
theorem dX9_all_53 : decode cX9_all 53 = .ok (.getfield 21, 3) := by decide +kernel
theorem dX9_all_56 : decode cX9_all 56 = .ok (.aload_n 0, 1) := by decide +kernel
theorem dX9_all_57 : decode cX9_all 57 = .ok (.getfield 60, 3) := by decide +kernel
theorem dX9_all_60 : decode cX9_all 60 = .ok (.getfield 106, 3) := by decide +kernel
theorem dX9_all_63 : decode cX9_all 63 = .ok (.invokevirtual 177, 3) := by decide +kernel
theorem dX9_all_66 : decode cX9_all 66 = .ok (.ireturn, 1) := by decide +kernel
theorem dX9_all_67 : decode cX9_all 67 = .ok (.aload_n 0, 1) := by decide +kernel
theorem dX9_all_68 : decode cX9_all 68 = .ok (.getfield 21, 3) := by decide +kernel
theorem dX9_all_71 : decode cX9_all 71 = .ok (.getfield 181, 3) := by decide +kernel
theorem dX9_all_74 : decode cX9_all 74 = .ok (.invokestatic 184, 3) := by decide +kernel
theorem dX9_all_77 : decode cX9_all 77 = .ok (.ireturn, 1) := by decide +kernel
theorem dX9_all_78 : decode cX9_all 78 = .ok (.aload_n 0, 1) := by decide +kernel
theorem dX9_all_79 : decode cX9_all 79 = .ok (.getfield 21, 3) := by decide +kernel
theorem dX9_all_82 : decode cX9_all 82 = .ok (.aload_n 0, 1) := by decide +kernel
theorem dX9_all_83 : decode cX9_all 83 = .ok (.getfield 60, 3) := by decide +kernel
theorem dX9_all_86 : decode cX9_all 86 = .ok (.getfield 106, 3) := by decide +kernel
theorem dX9_all_89 : decode cX9_all 89 = .ok (.invokevirtual 187, 3) := by decide +kernel
theorem dX9_all_92 : decode cX9_all 92 = .ok (.ireturn, 1) := by decide +kernel
theorem dX9_all_93 : decode cX9_all 93 = .ok (.aload_n 0, 1) := by decide +kernel
theorem dX9_all_94 : decode cX9_all 94 = .ok (.getfield 21, 3) := by decide +kernel
theorem dX9_all_97 : decode cX9_all 97 = .ok (.aload_n 0, 1) := by decide +kernel
theorem dX9_all_98 : decode cX9_all 98 = .ok (.getfield 60, 3) := by decide +kernel
theorem dX9_all_101 : decode cX9_all 101 = .ok (.getfield 106, 3) := by decide +kernel
theorem dX9_all_104 : decode cX9_all 104 = .ok (.invokevirtual 190, 3) := by decide +kernel
theorem dX9_all_107 : decode cX9_all 107 = .ok (.ireturn, 1) := by decide +kernel
theorem dX9_move_0 : decode cX9_move 0 = .ok (.aload_n 0, 1) := by decide +kernel
theorem dX9_move_1 : decode cX9_move 1 = .ok (.getfield 60, 3) := by decide +kernel
theorem dX9_move_4 : decode cX9_move 4 = .ok (.getfield 106, 3) := by decide +kernel
theorem dX9_move_7 : decode cX9_move 7 = .ok (.iload_n 1, 1) := by decide +kernel
theorem dX9_move_8 : decode cX9_move 8 = .ok (.invokevirtual 130, 3) := by decide +kernel
theorem dX9_move_11 : decode cX9_move 11 = .ok (.ifCond .eq 17, 3) := by decide +kernel
theorem dX9_move_14 : decode cX9_move 14 = .ok (.aload_n 0, 1) := by decide +kernel
theorem dX9_move_15 : decode cX9_move 15 = .ok (.getfield 60, 3) := by decide +kernel
theorem dX9_move_18 : decode cX9_move 18 = .ok (.getfield 106, 3) := by decide +kernel
theorem dX9_move_21 : decode cX9_move 21 = .ok (.iload_n 2, 1) := by decide +kernel
theorem dX9_move_22 : decode cX9_move 22 = .ok (.invokevirtual 130, 3) := by decide +kernel
theorem dX9_move_25 : decode cX9_move 25 = .ok (.ifCond .ne 5, 3) := by decide +kernel
theorem dX9_move_28 : decode cX9_move 28 = .ok (.iconst (-1), 1) := by decide +kernel
theorem dX9_move_29 : decode cX9_move 29 = .ok (.ireturn, 1) := by decide +kernel
theorem dX9_move_30 : decode cX9_move 30 = .ok (.aload_n 0, 1) := by decide +kernel
theorem dX9_move_31 : decode cX9_move 31 = .ok (.getfield 60, 3) := by decide +kernel
theorem dX9_move_34 : decode cX9_move 34 = .ok (.getfield 106, 3) := by decide +kernel
theorem dX9_move_37 : decode cX9_move 37 = .ok (.iload_n 1, 1) := by decide +kernel
theorem dX9_move_38 : decode cX9_move 38 = .ok (.invokevirtual 146, 3) := by decide +kernel
theorem dX9_move_41 : decode cX9_move 41 = .ok (.istore_n 3, 1) := by decide +kernel
theorem dX9_move_42 : decode cX9_move 42 = .ok (.aload_n 0, 1) := by decide +kernel
theorem dX9_move_43 : decode cX9_move 43 = .ok (.getfield 60, 3) := by decide +kernel
theorem dX9_move_46 : decode cX9_move 46 = .ok (.getfield 106, 3) := by decide +kernel
theorem dX9_move_49 : decode cX9_move 49 = .ok (.iload_n 3, 1) := by decide +kernel
theorem dX9_move_50 : decode cX9_move 50 = .ok (.iload_n 2, 1) := by decide +kernel
theorem dX9_move_51 : decode cX9_move 51 = .ok (.invokevirtual 193, 3) := by decide +kernel
theorem dX9_move_54 : decode cX9_move 54 = .ok (.aload_n 0, 1) := by decide +kernel
theorem dX9_move_55 : decode cX9_move 55 = .ok (.iconst 0, 1) := by decide +kernel
theorem dX9_move_56 : decode cX9_move 56 = .ok (.iload_n 1, 1) := by decide +kernel
theorem dX9_move_57 : decode cX9_move 57 = .ok (.iload_n 3, 1) := by decide +kernel
theorem dX9_move_58 : decode cX9_move 58 = .ok (.invokevirtual 197, 3) := by decide +kernel
theorem dX9_move_61 : decode cX9_move 61 = .ok (.iload_n 3, 1) := by decide +kernel
theorem dX9_move_62 : decode cX9_move 62 = .ok (.ireturn, 1) := by decide +kernel
theorem dX9_wear_0 : decode cX9_wear 0 = .ok (.aload_n 0, 1) := by decide +kernel
theorem dX9_wear_1 : decode cX9_wear 1 = .ok (.getfield 60, 3) := by decide +kernel
theorem dX9_wear_4 : decode cX9_wear 4 = .ok (.getfield 106, 3) := by decide +kernel
theorem dX9_wear_7 : decode cX9_wear 7 = .ok (.iload_n 1, 1) := by decide +kernel
theorem dX9_wear_8 : decode cX9_wear 8 = .ok (.invokevirtual 130, 3) := by decide +kernel
theorem dX9_wear_11 : decode cX9_wear 11 = .ok (.ifCond .eq 14, 3) := by decide +kernel
theorem dX9_wear_14 : decode cX9_wear 14 = .ok (.iload_n 2, 1) := by decide +kernel
theorem dX9_wear_15 : decode cX9_wear 15 = .ok (.bipush (-9), 2) := by decide +kernel
theorem dX9_wear_17 : decode cX9_wear 17 = .ok (.bipush 9, 2) := by decide +kernel
theorem dX9_wear_19 : decode cX9_wear 19 = .ok (.invokestatic 91, 3) := by decide +kernel
theorem dX9_wear_22 : decode cX9_wear 22 = .ok (.ifCond .ne 5, 3) := by decide +kernel
theorem dX9_wear_25 : decode cX9_wear 25 = .ok (.iconst (-1), 1) := by decide +kernel
theorem dX9_wear_26 : decode cX9_wear 26 = .ok (.ireturn, 1) := by decide +kernel
theorem dX9_wear_27 : decode cX9_wear 27 = .ok (.aload_n 0, 1) := by decide +kernel
theorem dX9_wear_28 : decode cX9_wear 28 = .ok (.getfield 60, 3) := by decide +kernel
theorem dX9_wear_31 : decode cX9_wear 31 = .ok (.getfield 106, 3) := by decide +kernel
theorem dX9_wear_34 : decode cX9_wear 34 = .ok (.getfield 140, 3) := by decide +kernel
theorem dX9_wear_37 : decode cX9_wear 37 = .ok (.iload_n 1, 1) := by decide +kernel
theorem dX9_wear_38 : decode cX9_wear 38 = .ok (.iaload, 1) := by decide +kernel
theorem dX9_wear_39 : decode cX9_wear 39 = .ok (.istore_n 3, 1) := by decide +kernel
theorem dX9_wear_40 : decode cX9_wear 40 = .ok (.aload_n 0, 1) := by decide +kernel
theorem dX9_wear_41 : decode cX9_wear 41 = .ok (.getfield 60, 3) := by decide +kernel
theorem dX9_wear_44 : decode cX9_wear 44 = .ok (.getfield 106, 3) := by decide +kernel
theorem dX9_wear_47 : decode cX9_wear 47 = .ok (.getfield 140, 3) := by decide +kernel
theorem dX9_wear_50 : decode cX9_wear 50 = .ok (.iload_n 1, 1) := by decide +kernel
theorem dX9_wear_51 : decode cX9_wear 51 = .ok (.iload_n 2, 1) := by decide +kernel
theorem dX9_wear_52 : decode cX9_wear 52 = .ok (.iastore, 1) := by decide +kernel
theorem dX9_wear_53 : decode cX9_wear 53 = .ok (.aload_n 0, 1) := by decide +kernel
theorem dX9_wear_54 : decode cX9_wear 54 = .ok (.iconst 1, 1) := by decide +kernel
theorem dX9_wear_55 : decode cX9_wear 55 = .ok (.iload_n 1, 1) := by decide +kernel
theorem dX9_wear_56 : decode cX9_wear 56 = .ok (.iload_n 3, 1) := by decide +kernel
theorem dX9_wear_57 : decode cX9_wear 57 = .ok (.invokevirtual 197, 3) := by decide +kernel
theorem dX9_wear_60 : decode cX9_wear 60 = .ok (.iload_n 3, 1) := by decide +kernel
theorem dX9_wear_61 : decode cX9_wear 61 = .ok (.bipush 100, 2) := by decide +kernel
theorem dX9_wear_63 : decode cX9_wear 63 = .ok (.iadd, 1) := by decide +kernel
theorem dX9_wear_64 : decode cX9_wear 64 = .ok (.ireturn, 1) := by decide +kernel
theorem dX9_come_0 : decode cX9_come 0 = .ok (.aload_n 0, 1) := by decide +kernel
theorem dX9_come_1 : decode cX9_come 1 = .ok (.getfield 60, 3) := by decide +kernel
theorem dX9_come_4 : decode cX9_come 4 = .ok (.getfield 106, 3) := by decide +kernel
theorem dX9_come_7 : decode cX9_come 7 = .ok (.iload_n 1, 1) := by decide +kernel
theorem dX9_come_8 : decode cX9_come 8 = .ok (.invokevirtual 130, 3) := by decide +kernel
theorem dX9_come_11 : decode cX9_come 11 = .ok (.ifCond .eq 13, 3) := by decide +kernel
theorem dX9_come_14 : decode cX9_come 14 = .ok (.iload_n 2, 1) := by decide +kernel
theorem dX9_come_15 : decode cX9_come 15 = .ok (.iconst 0, 1) := by decide +kernel
theorem dX9_come_16 : decode cX9_come 16 = .ok (.bipush 9, 2) := by decide +kernel
theorem dX9_come_18 : decode cX9_come 18 = .ok (.invokestatic 91, 3) := by decide +kernel
theorem dX9_come_21 : decode cX9_come 21 = .ok (.ifCond .ne 5, 3) := by decide +kernel
theorem dX9_come_24 : decode cX9_come 24 = .ok (.iconst (-1), 1) := by decide +kernel
theorem dX9_come_25 : decode cX9_come 25 = .ok (.ireturn, 1) := by decide +kernel
theorem dX9_come_26 : decode cX9_come 26 = .ok (.aload_n 0, 1) := by decide +kernel
theorem dX9_come_27 : decode cX9_come 27 = .ok (.getfield 60, 3) := by decide +kernel
theorem dX9_come_30 : decode cX9_come 30 = .ok (.getfield 106, 3) := by decide +kernel
theorem dX9_come_33 : decode cX9_come 33 = .ok (.getfield 134, 3) := by decide +kernel
theorem dX9_come_36 : decode cX9_come 36 = .ok (.iload_n 1, 1) := by decide +kernel
theorem dX9_come_37 : decode cX9_come 37 = .ok (.iaload, 1) := by decide +kernel
theorem dX9_come_38 : decode cX9_come 38 = .ok (.istore_n 3, 1) := by decide +kernel
theorem dX9_come_39 : decode cX9_come 39 = .ok (.aload_n 0, 1) := by decide +kernel
theorem dX9_come_40 : decode cX9_come 40 = .ok (.getfield 60, 3) := by decide +kernel
theorem dX9_come_43 : decode cX9_come 43 = .ok (.getfield 106, 3) := by decide +kernel
theorem dX9_come_46 : decode cX9_come 46 = .ok (.getfield 134, 3) := by decide +kernel
theorem dX9_come_49 : decode cX9_come 49 = .ok (.iload_n 1, 1) := by decide +kernel
theorem dX9_come_50 : decode cX9_come 50 = .ok (.iload_n 2, 1) := by decide +kernel
theorem dX9_come_51 : decode cX9_come 51 = .ok (.iastore, 1) := by decide +kernel
theorem dX9_come_52 : decode cX9_come 52 = .ok (.aload_n 0, 1) := by decide +kernel
theorem dX9_come_53 : decode cX9_come 53 = .ok (.iconst 2, 1) := by decide +kernel
theorem dX9_come_54 : decode cX9_come 54 = .ok (.iload_n 1, 1) := by decide +kernel
theorem dX9_come_55 : decode cX9_come 55 = .ok (.iload_n 3, 1) := by decide +kernel
theorem dX9_come_56 : decode cX9_come 56 = .ok (.invokevirtual 197, 3) := by decide +kernel
theorem dX9_come_59 : decode cX9_come 59 = .ok (.iload_n 3, 1) := by decide +kernel
theorem dX9_come_60 : decode cX9_come 60 = .ok (.ireturn, 1) := by decide +kernel
theorem dX9_undo_0 : decode cX9_undo 0 = .ok (.aload_n 0, 1) := by decide +kernel
theorem dX9_undo_1 : decode cX9_undo 1 = .ok (.getfield 28, 3) := by decide +kernel
theorem dX9_undo_4 : decode cX9_undo 4 = .ok (.getfield 99, 3) := by decide +kernel
theorem dX9_undo_7 : decode cX9_undo 7 = .ok (.ifCond .ne 6, 3) := by decide +kernel
theorem dX9_undo_10 : decode cX9_undo 10 = .ok (.bipush (-2), 2) := by decide +kernel
theorem dX9_undo_12 : decode cX9_undo 12 = .ok (.ireturn, 1) := by decide +kernel
theorem dX9_undo_13 : decode cX9_undo 13 = .ok (.aload_n 0, 1) := by decide +kernel
theorem dX9_undo_14 : decode cX9_undo 14 = .ok (.getfield 28, 3) := by decide +kernel
theorem dX9_undo_17 : decode cX9_undo 17 = .ok (.aload_n 0, 1) := by decide +kernel
theorem dX9_undo_18 : decode cX9_undo 18 = .ok (.getfield 60, 3) := by decide +kernel
theorem dX9_undo_21 : decode cX9_undo 21 = .ok (.getfield 106, 3) := by decide +kernel
theorem dX9_undo_24 : decode cX9_undo 24 = .ok (.invokevirtual 201, 3) := by decide +kernel
theorem dX9_undo_27 : decode cX9_undo 27 = .ok (.aload_n 0, 1) := by decide +kernel
theorem dX9_undo_28 : decode cX9_undo 28 = .ok (.getfield 49, 3) := by decide +kernel
theorem dX9_undo_31 : decode cX9_undo 31 = .ok (.iconst 0, 1) := by decide +kernel
theorem dX9_undo_32 : decode cX9_undo 32 = .ok (.putfield 102, 3) := by decide +kernel
theorem dX9_undo_35 : decode cX9_undo 35 = .ok (.aload_n 0, 1) := by decide +kernel
theorem dX9_undo_36 : decode cX9_undo 36 = .ok (.getfield 28, 3) := by decide +kernel
theorem dX9_undo_39 : decode cX9_undo 39 = .ok (.getfield 99, 3) := by decide +kernel
theorem dX9_undo_42 : decode cX9_undo 42 = .ok (.ireturn, 1) := by decide +kernel
theorem dX9_order_0 : decode cX9_order 0 = .ok (.iload_n 1, 1) := by decide +kernel
theorem dX9_order_1 : decode cX9_order 1 = .ok (.iconst (-1), 1) := by decide +kernel
theorem dX9_order_2 : decode cX9_order 2 = .ok (.if_icmp .eq 19, 3) := by decide +kernel
theorem dX9_order_5 : decode cX9_order 5 = .ok (.aload_n 0, 1) := by decide +kernel
theorem dX9_order_6 : decode cX9_order 6 = .ok (.getfield 60, 3) := by decide +kernel
theorem dX9_order_9 : decode cX9_order 9 = .ok (.getfield 106, 3) := by decide +kernel
theorem dX9_order_12 : decode cX9_order 12 = .ok (.iload_n 1, 1) := by decide +kernel
theorem dX9_order_13 : decode cX9_order 13 = .ok (.invokevirtual 130, 3) := by decide +kernel
theorem dX9_order_16 : decode cX9_order 16 = .ok (.ifCond .ne 5, 3) := by decide +kernel
theorem dX9_order_19 : decode cX9_order 19 = .ok (.iconst (-1), 1) := by decide +kernel
theorem dX9_order_20 : decode cX9_order 20 = .ok (.ireturn, 1) := by decide +kernel
theorem dX9_order_21 : decode cX9_order 21 = .ok (.aload_n 0, 1) := by decide +kernel
theorem dX9_order_22 : decode cX9_order 22 = .ok (.getfield 49, 3) := by decide +kernel
theorem dX9_order_25 : decode cX9_order 25 = .ok (.getfield 102, 3) := by decide +kernel
theorem dX9_order_28 : decode cX9_order 28 = .ok (.ifCond .ne 18, 3) := by decide +kernel
theorem dX9_order_31 : decode cX9_order 31 = .ok (.aload_n 0, 1) := by decide +kernel
theorem dX9_order_32 : decode cX9_order 32 = .ok (.getfield 49, 3) := by decide +kernel
theorem dX9_order_35 : decode cX9_order 35 = .ok (.aload_n 0, 1) := by decide +kernel
theorem dX9_order_36 : decode cX9_order 36 = .ok (.getfield 60, 3) := by decide +kernel
theorem dX9_order_39 : decode cX9_order 39 = .ok (.aload_n 0, 1) := by decide +kernel
theorem dX9_order_40 : decode cX9_order 40 = .ok (.getfield 21, 3) := by decide +kernel
theorem dX9_order_43 : decode cX9_order 43 = .ok (.invokevirtual 205, 3) := by decide +kernel
theorem dX9_order_46 : decode cX9_order 46 = .ok (.iload_n 1, 1) := by decide +kernel
theorem dX9_order_47 : decode cX9_order 47 = .ok (.iconst (-1), 1) := by decide +kernel
theorem dX9_order_48 : decode cX9_order 48 = .ok (.if_icmp .ne 13, 3) := by decide +kernel
theorem dX9_order_51 : decode cX9_order 51 = .ok (.aload_n 0, 1) := by decide +kernel
theorem dX9_order_52 : decode cX9_order 52 = .ok (.getfield 49, 3) := by decide +kernel
theorem dX9_order_55 : decode cX9_order 55 = .ok (.getfield 209, 3) := by decide +kernel
theorem dX9_order_58 : decode cX9_order 58 = .ok (.goto 12, 3) := by decide +kernel
theorem dX9_order_61 : decode cX9_order 61 = .ok (.aload_n 0, 1) := by decide +kernel
theorem dX9_order_62 : decode cX9_order 62 = .ok (.getfield 49, 3) := by decide +kernel
theorem dX9_order_65 : decode cX9_order 65 = .ok (.getfield 212, 3) := by decide +kernel
theorem dX9_order_68 : decode cX9_order 68 = .ok (.iload_n 1, 1) := by decide +kernel
theorem dX9_order_69 : decode cX9_order 69 = .ok (.iaload, 1) := by decide +kernel
theorem dX9_order_70 : decode cX9_order 70 = .ok (.ireturn, 1) := by decide +kernel
theorem dX9_cushion_0 : decode cX9_cushion 0 = .ok (.iload_n 1, 1) := by decide +kernel
theorem dX9_cushion_1 : decode cX9_cushion 1 = .ok (.iconst 0, 1) := by decide +kernel
theorem dX9_cushion_2 : decode cX9_cushion 2 = .ok (.iconst 2, 1) := by decide +kernel
theorem dX9_cushion_3 : decode cX9_cushion 3 = .ok (.invokestatic 91, 3) := by decide +kernel
theorem dX9_cushion_6 : decode cX9_cushion 6 = .ok (.ifCond .ne 5, 3) := by decide +kernel
theorem dX9_cushion_9 : decode cX9_cushion 9 = .ok (.iconst (-1), 1) := by decide +kernel
theorem dX9_cushion_10 : decode cX9_cushion 10 = .ok (.ireturn, 1) := by decide +kernel
theorem dX9_cushion_11 : decode cX9_cushion 11 = .ok (.ldc 154, 2) := by decide +kernel
theorem dX9_cushion_13 : decode cX9_cushion 13 = .ok (.istore_n 2, 1) := by decide +kernel
theorem dX9_cushion_14 : decode cX9_cushion 14 = .ok (.iconst 0, 1) := by decide +kernel
theorem dX9_cushion_15 : decode cX9_cushion 15 = .ok (.istore_n 3, 1) := by decide +kernel
theorem dX9_cushion_16 : decode cX9_cushion 16 = .ok (.iconst 0, 1) := by decide +kernel
theorem dX9_cushion_17 : decode cX9_cushion 17 = .ok (.istore 4, 2) := by decide +kernel
theorem dX9_cushion_19 : decode cX9_cushion 19 = .ok (.iconst 0, 1) := by decide +kernel
theorem dX9_cushion_20 : decode cX9_cushion 20 = .ok (.istore 5, 2) := by decide +kernel
theorem dX9_cushion_22 : decode cX9_cushion 22 = .ok (.iload 5, 2) := by decide +kernel
theorem dX9_cushion_24 : decode cX9_cushion 24 = .ok (.aload_n 0, 1) := by decide +kernel
theorem dX9_cushion_25 : decode cX9_cushion 25 = .ok (.getfield 60, 3) := by decide +kernel
theorem dX9_cushion_28 : decode cX9_cushion 28 = .ok (.getfield 106, 3) := by decide +kernel
theorem dX9_cushion_31 : decode cX9_cushion 31 = .ok (.getfield 110, 3) := by decide +kernel
theorem dX9_cushion_34 : decode cX9_cushion 34 = .ok (.if_icmp .ge 94, 3) := by decide +kernel
theorem dX9_cushion_37 : decode cX9_cushion 37 = .ok (.aload_n 0, 1) := by decide +kernel
theorem dX9_cushion_38 : decode cX9_cushion 38 = .ok (.getfield 60, 3) := by decide +kernel
theorem dX9_cushion_41 : decode cX9_cushion 41 = .ok (.getfield 106, 3) := by decide +kernel
theorem dX9_cushion_44 : decode cX9_cushion 44 = .ok (.getfield 140, 3) := by decide +kernel
theorem dX9_cushion_47 : decode cX9_cushion 47 = .ok (.iload 5, 2) := by decide +kernel
theorem dX9_cushion_49 : decode cX9_cushion 49 = .ok (.iaload, 1) := by decide +kernel
theorem dX9_cushion_50 : decode cX9_cushion 50 = .ok (.istore 6, 2) := by decide +kernel
theorem dX9_cushion_52 : decode cX9_cushion 52 = .ok (.bipush (-9), 2) := by decide +kernel
theorem dX9_cushion_54 : decode cX9_cushion 54 = .ok (.istore 7, 2) := by decide +kernel
theorem dX9_cushion_56 : decode cX9_cushion 56 = .ok (.iload 7, 2) := by decide +kernel
theorem dX9_cushion_58 : decode cX9_cushion 58 = .ok (.bipush 9, 2) := by decide +kernel
theorem dX9_cushion_60 : decode cX9_cushion 60 = .ok (.if_icmp .gt 47, 3) := by decide +kernel
theorem dX9_cushion_63 : decode cX9_cushion 63 = .ok (.aload_n 0, 1) := by decide +kernel
theorem dX9_cushion_64 : decode cX9_cushion 64 = .ok (.getfield 60, 3) := by decide +kernel
theorem dX9_cushion_67 : decode cX9_cushion 67 = .ok (.getfield 106, 3) := by decide +kernel
theorem dX9_cushion_70 : decode cX9_cushion 70 = .ok (.getfield 140, 3) := by decide +kernel
theorem dX9_cushion_73 : decode cX9_cushion 73 = .ok (.iload 5, 2) := by decide +kernel
theorem dX9_cushion_75 : decode cX9_cushion 75 = .ok (.iload 7, 2) := by decide +kernel
theorem dX9_cushion_77 : decode cX9_cushion 77 = .ok (.iastore, 1) := by decide +kernel
theorem dX9_cushion_78 : decode cX9_cushion 78 = .ok (.aload_n 0, 1) := by decide +kernel
theorem dX9_cushion_79 : decode cX9_cushion 79 = .ok (.iload_n 2, 1) := by decide +kernel
theorem dX9_cushion_80 : decode cX9_cushion 80 = .ok (.invokevirtual 215, 3) := by decide +kernel
theorem dX9_cushion_83 : decode cX9_cushion 83 = .ok (.istore 8, 2) := by decide +kernel
theorem dX9_cushion_85 : decode cX9_cushion 85 = .ok (.iload 8, 2) := by decide +kernel
theorem dX9_cushion_87 : decode cX9_cushion 87 = .ok (.iload_n 2, 1) := by decide +kernel
theorem dX9_cushion_88 : decode cX9_cushion 88 = .ok (.if_icmp .ge 13, 3) := by decide +kernel
theorem dX9_cushion_91 : decode cX9_cushion 91 = .ok (.iload 8, 2) := by decide +kernel
theorem dX9_cushion_93 : decode cX9_cushion 93 = .ok (.istore_n 2, 1) := by decide +kernel
theorem dX9_cushion_94 : decode cX9_cushion 94 = .ok (.iload 5, 2) := by decide +kernel
theorem dX9_cushion_96 : decode cX9_cushion 96 = .ok (.istore_n 3, 1) := by decide +kernel
theorem dX9_cushion_97 : decode cX9_cushion 97 = .ok (.iload 7, 2) := by decide +kernel
theorem dX9_cushion_99 : decode cX9_cushion 99 = .ok (.istore 4, 2) := by decide +kernel
theorem dX9_cushion_101 : decode cX9_cushion 101 = .ok (.iinc 7 1, 3) := by decide +kernel
theorem dX9_cushion_104 : decode cX9_cushion 104 = .ok (.goto (-48), 3) := by decide +kernel
theorem dX9_cushion_107 : decode cX9_cushion 107 = .ok (.aload_n 0, 1) := by decide +kernel
theorem dX9_cushion_108 : decode cX9_cushion 108 = .ok (.getfield 60, 3) := by decide +kernel
theorem dX9_cushion_111 : decode cX9_cushion 111 = .ok (.getfield 106, 3) := by decide +kernel
theorem dX9_cushion_114 : decode cX9_cushion 114 = .ok (.getfield 140, 3) := by decide +kernel
theorem dX9_cushion_117 : decode cX9_cushion 117 = .ok (.iload 5, 2) := by decide +kernel
theorem dX9_cushion_119 : decode cX9_cushion 119 = .ok (.iload 6, 2) := by decide +kernel
theorem dX9_cushion_121 : decode cX9_cushion 121 = .ok (.iastore, 1) := by decide +kernel
theorem dX9_cushion_122 : decode cX9_cushion 122 = .ok (.iinc 5 1, 3) := by decide +kernel
theorem dX9_cushion_125 : decode cX9_cushion 125 = .ok (.goto (-103), 3) := by decide +kernel
theorem dX9_cushion_128 : decode cX9_cushion 128 = .ok (.iload_n 1, 1) := by decide +kernel
theorem dX9_cushion_129 : decode cX9_cushion 129 = .ok (.lookupswitch 35 #[(0, 27), (1, 29)], 27) := by decide +kernel
theorem dX9_cushion_156 : decode cX9_cushion 156 = .ok (.iload_n 3, 1) := by decide +kernel
theorem dX9_cushion_157 : decode cX9_cushion 157 = .ok (.ireturn, 1) := by decide +kernel
theorem dX9_cushion_158 : decode cX9_cushion 158 = .ok (.iload 4, 2) := by decide +kernel
theorem dX9_cushion_160 : decode cX9_cushion 160 = .ok (.bipush 100, 2) := by decide +kernel
theorem dX9_cushion_162 : decode cX9_cushion 162 = .ok (.iadd, 1) := by decide +kernel
theorem dX9_cushion_163 : decode cX9_cushion 163 = .ok (.ireturn, 1) := by decide +kernel
theorem dX9_cushion_164 : decode cX9_cushion 164 = .ok (.iload_n 2, 1) := by decide +kernel
theorem dX9_cushion_165 : decode cX9_cushion 165 = .ok (.ireturn, 1) := by decide +kernel
theorem dX9_length_0 : decode cX9_length 0 = .ok (.aload_n 0, 1) := by decide +kernel
theorem dX9_length_1 : decode cX9_length 1 = .ok (.getfield 60, 3) := by decide +kernel
theorem dX9_length_4 : decode cX9_length 4 = .ok (.getfield 113, 3) := by decide +kernel
theorem dX9_length_7 : decode cX9_length 7 = .ok (.iload_n 1, 1) := by decide +kernel
theorem dX9_length_8 : decode cX9_length 8 = .ok (.invokevirtual 117, 3) := by decide +kernel
theorem dX9_length_11 : decode cX9_length 11 = .ok (.ifCond .eq 12, 3) := by decide +kernel
theorem dX9_length_14 : decode cX9_length 14 = .ok (.iload_n 2, 1) := by decide +kernel
theorem dX9_length_15 : decode cX9_length 15 = .ok (.iconst 0, 1) := by decide +kernel
theorem dX9_length_16 : decode cX9_length 16 = .ok (.iconst 1, 1) := by decide +kernel
theorem dX9_length_17 : decode cX9_length 17 = .ok (.invokestatic 91, 3) := by decide +kernel
theorem dX9_length_20 : decode cX9_length 20 = .ok (.ifCond .ne 5, 3) := by decide +kernel
theorem dX9_length_23 : decode cX9_length 23 = .ok (.iconst (-1), 1) := by decide +kernel
theorem dX9_length_24 : decode cX9_length 24 = .ok (.ireturn, 1) := by decide +kernel
theorem dX9_length_25 : decode cX9_length 25 = .ok (.aload_n 0, 1) := by decide +kernel
theorem dX9_length_26 : decode cX9_length 26 = .ok (.getfield 60, 3) := by decide +kernel
theorem dX9_length_29 : decode cX9_length 29 = .ok (.getfield 113, 3) := by decide +kernel
theorem dX9_length_32 : decode cX9_length 32 = .ok (.getfield 218, 3) := by decide +kernel
theorem dX9_length_35 : decode cX9_length 35 = .ok (.iload_n 1, 1) := by decide +kernel
theorem dX9_length_36 : decode cX9_length 36 = .ok (.iaload, 1) := by decide +kernel
theorem dX9_length_37 : decode cX9_length 37 = .ok (.istore_n 3, 1) := by decide +kernel
theorem dX9_length_38 : decode cX9_length 38 = .ok (.ldc 154, 2) := by decide +kernel
theorem dX9_length_40 : decode cX9_length 40 = .ok (.istore 4, 2) := by decide +kernel
theorem dX9_length_42 : decode cX9_length 42 = .ok (.iload_n 3, 1) := by decide +kernel
theorem dX9_length_43 : decode cX9_length 43 = .ok (.istore 5, 2) := by decide +kernel
theorem dX9_length_45 : decode cX9_length 45 = .ok (.bipush 40, 2) := by decide +kernel
theorem dX9_length_47 : decode cX9_length 47 = .ok (.istore 6, 2) := by decide +kernel
theorem dX9_length_49 : decode cX9_length 49 = .ok (.iload 6, 2) := by decide +kernel
theorem dX9_length_51 : decode cX9_length 51 = .ok (.bipush 99, 2) := by decide +kernel
theorem dX9_length_53 : decode cX9_length 53 = .ok (.if_icmp .gt 46, 3) := by decide +kernel
theorem dX9_length_56 : decode cX9_length 56 = .ok (.aload_n 0, 1) := by decide +kernel
theorem dX9_length_57 : decode cX9_length 57 = .ok (.getfield 60, 3) := by decide +kernel
theorem dX9_length_60 : decode cX9_length 60 = .ok (.getfield 113, 3) := by decide +kernel
theorem dX9_length_63 : decode cX9_length 63 = .ok (.getfield 218, 3) := by decide +kernel
theorem dX9_length_66 : decode cX9_length 66 = .ok (.iload_n 1, 1) := by decide +kernel
theorem dX9_length_67 : decode cX9_length 67 = .ok (.iload 6, 2) := by decide +kernel
theorem dX9_length_69 : decode cX9_length 69 = .ok (.iastore, 1) := by decide +kernel
theorem dX9_length_70 : decode cX9_length 70 = .ok (.aload_n 0, 1) := by decide +kernel
theorem dX9_length_71 : decode cX9_length 71 = .ok (.iload 4, 2) := by decide +kernel
theorem dX9_length_73 : decode cX9_length 73 = .ok (.invokevirtual 215, 3) := by decide +kernel
theorem dX9_length_76 : decode cX9_length 76 = .ok (.istore 7, 2) := by decide +kernel
theorem dX9_length_78 : decode cX9_length 78 = .ok (.iload 7, 2) := by decide +kernel
theorem dX9_length_80 : decode cX9_length 80 = .ok (.iload 4, 2) := by decide +kernel
theorem dX9_length_82 : decode cX9_length 82 = .ok (.if_icmp .ge 11, 3) := by decide +kernel
theorem dX9_length_85 : decode cX9_length 85 = .ok (.iload 7, 2) := by decide +kernel
theorem dX9_length_87 : decode cX9_length 87 = .ok (.istore 4, 2) := by decide +kernel
theorem dX9_length_89 : decode cX9_length 89 = .ok (.iload 6, 2) := by decide +kernel
theorem dX9_length_91 : decode cX9_length 91 = .ok (.istore 5, 2) := by decide +kernel
theorem dX9_length_93 : decode cX9_length 93 = .ok (.iinc 6 1, 3) := by decide +kernel
theorem dX9_length_96 : decode cX9_length 96 = .ok (.goto (-47), 3) := by decide +kernel
theorem dX9_length_99 : decode cX9_length 99 = .ok (.aload_n 0, 1) := by decide +kernel
theorem dX9_length_100 : decode cX9_length 100 = .ok (.getfield 60, 3) := by decide +kernel
theorem dX9_length_103 : decode cX9_length 103 = .ok (.getfield 113, 3) := by decide +kernel
theorem dX9_length_106 : decode cX9_length 106 = .ok (.getfield 218, 3) := by decide +kernel
theorem dX9_length_109 : decode cX9_length 109 = .ok (.iload_n 1, 1) := by decide +kernel
theorem dX9_length_110 : decode cX9_length 110 = .ok (.iload_n 3, 1) := by decide +kernel
theorem dX9_length_111 : decode cX9_length 111 = .ok (.iastore, 1) := by decide +kernel
theorem dX9_length_112 : decode cX9_length 112 = .ok (.iload_n 2, 1) := by decide +kernel
theorem dX9_length_113 : decode cX9_length 113 = .ok (.ifCond .ne 8, 3) := by decide +kernel
theorem dX9_length_116 : decode cX9_length 116 = .ok (.iload 5, 2) := by decide +kernel
theorem dX9_length_118 : decode cX9_length 118 = .ok (.goto 5, 3) := by decide +kernel
theorem dX9_length_121 : decode cX9_length 121 = .ok (.iload 4, 2) := by decide +kernel
theorem dX9_length_123 : decode cX9_length 123 = .ok (.ireturn, 1) := by decide +kernel
theorem dX9_law_0 : decode cX9_law 0 = .ok (.aload_n 0, 1) := by decide +kernel
theorem dX9_law_1 : decode cX9_law 1 = .ok (.getfield 60, 3) := by decide +kernel
theorem dX9_law_4 : decode cX9_law 4 = .ok (.getfield 221, 3) := by decide +kernel
theorem dX9_law_7 : decode cX9_law 7 = .ok (.istore_n 1, 1) := by decide +kernel
theorem dX9_law_8 : decode cX9_law 8 = .ok (.ldc 154, 2) := by decide +kernel
theorem dX9_law_10 : decode cX9_law 10 = .ok (.istore_n 2, 1) := by decide +kernel
theorem dX9_law_11 : decode cX9_law 11 = .ok (.iload_n 1, 1) := by decide +kernel
theorem dX9_law_12 : decode cX9_law 12 = .ok (.istore_n 3, 1) := by decide +kernel
theorem dX9_law_13 : decode cX9_law 13 = .ok (.iconst 0, 1) := by decide +kernel
theorem dX9_law_14 : decode cX9_law 14 = .ok (.istore 4, 2) := by decide +kernel
theorem dX9_law_16 : decode cX9_law 16 = .ok (.iload 4, 2) := by decide +kernel
theorem dX9_law_18 : decode cX9_law 18 = .ok (.iconst 3, 1) := by decide +kernel
theorem dX9_law_19 : decode cX9_law 19 = .ok (.if_icmp .ge 37, 3) := by decide +kernel
theorem dX9_law_22 : decode cX9_law 22 = .ok (.aload_n 0, 1) := by decide +kernel
theorem dX9_law_23 : decode cX9_law 23 = .ok (.getfield 60, 3) := by decide +kernel
theorem dX9_law_26 : decode cX9_law 26 = .ok (.iload 4, 2) := by decide +kernel
theorem dX9_law_28 : decode cX9_law 28 = .ok (.putfield 221, 3) := by decide +kernel
theorem dX9_law_31 : decode cX9_law 31 = .ok (.aload_n 0, 1) := by decide +kernel
theorem dX9_law_32 : decode cX9_law 32 = .ok (.iload_n 2, 1) := by decide +kernel
theorem dX9_law_33 : decode cX9_law 33 = .ok (.invokevirtual 215, 3) := by decide +kernel
theorem dX9_law_36 : decode cX9_law 36 = .ok (.istore 5, 2) := by decide +kernel
theorem dX9_law_38 : decode cX9_law 38 = .ok (.iload 5, 2) := by decide +kernel
theorem dX9_law_40 : decode cX9_law 40 = .ok (.iload_n 2, 1) := by decide +kernel
theorem dX9_law_41 : decode cX9_law 41 = .ok (.if_icmp .ge 9, 3) := by decide +kernel
theorem dX9_law_44 : decode cX9_law 44 = .ok (.iload 5, 2) := by decide +kernel
theorem dX9_law_46 : decode cX9_law 46 = .ok (.istore_n 2, 1) := by decide +kernel
theorem dX9_law_47 : decode cX9_law 47 = .ok (.iload 4, 2) := by decide +kernel
theorem dX9_law_49 : decode cX9_law 49 = .ok (.istore_n 3, 1) := by decide +kernel
theorem dX9_law_50 : decode cX9_law 50 = .ok (.iinc 4 1, 3) := by decide +kernel
theorem dX9_law_53 : decode cX9_law 53 = .ok (.goto (-37), 3) := by decide +kernel
theorem dX9_law_56 : decode cX9_law 56 = .ok (.aload_n 0, 1) := by decide +kernel
theorem dX9_law_57 : decode cX9_law 57 = .ok (.getfield 60, 3) := by decide +kernel
theorem dX9_law_60 : decode cX9_law 60 = .ok (.iload_n 1, 1) := by decide +kernel
theorem dX9_law_61 : decode cX9_law 61 = .ok (.putfield 221, 3) := by decide +kernel
theorem dX9_law_64 : decode cX9_law 64 = .ok (.iload_n 3, 1) := by decide +kernel
theorem dX9_law_65 : decode cX9_law 65 = .ok (.ireturn, 1) := by decide +kernel
theorem dX9_pairs_0 : decode cX9_pairs 0 = .ok (.iload_n 1, 1) := by decide +kernel
theorem dX9_pairs_1 : decode cX9_pairs 1 = .ok (.iconst 0, 1) := by decide +kernel
theorem dX9_pairs_2 : decode cX9_pairs 2 = .ok (.iconst 1, 1) := by decide +kernel
theorem dX9_pairs_3 : decode cX9_pairs 3 = .ok (.invokestatic 91, 3) := by decide +kernel
theorem dX9_pairs_6 : decode cX9_pairs 6 = .ok (.ifCond .ne 5, 3) := by decide +kernel
theorem dX9_pairs_9 : decode cX9_pairs 9 = .ok (.iconst (-1), 1) := by decide +kernel
theorem dX9_pairs_10 : decode cX9_pairs 10 = .ok (.ireturn, 1) := by decide +kernel
theorem dX9_pairs_11 : decode cX9_pairs 11 = .ok (.aload_n 0, 1) := by decide +kernel
theorem dX9_pairs_12 : decode cX9_pairs 12 = .ok (.invokevirtual 224, 3) := by decide +kernel
theorem dX9_pairs_15 : decode cX9_pairs 15 = .ok (.istore_n 2, 1) := by decide +kernel
theorem dX9_pairs_16 : decode cX9_pairs 16 = .ok (.iconst 0, 1) := by decide +kernel
theorem dX9_pairs_17 : decode cX9_pairs 17 = .ok (.istore_n 3, 1) := by decide +kernel
theorem dX9_pairs_18 : decode cX9_pairs 18 = .ok (.bipush (-4), 2) := by decide +kernel
theorem dX9_pairs_20 : decode cX9_pairs 20 = .ok (.istore 4, 2) := by decide +kernel
theorem dX9_pairs_22 : decode cX9_pairs 22 = .ok (.iconst 0, 1) := by decide +kernel
theorem dX9_pairs_23 : decode cX9_pairs 23 = .ok (.istore 5, 2) := by decide +kernel
theorem dX9_pairs_25 : decode cX9_pairs 25 = .ok (.iload 5, 2) := by decide +kernel
theorem dX9_pairs_27 : decode cX9_pairs 27 = .ok (.aload_n 0, 1) := by decide +kernel
theorem dX9_pairs_28 : decode cX9_pairs 28 = .ok (.getfield 60, 3) := by decide +kernel
theorem dX9_pairs_31 : decode cX9_pairs 31 = .ok (.getfield 106, 3) := by decide +kernel
theorem dX9_pairs_34 : decode cX9_pairs 34 = .ok (.getfield 110, 3) := by decide +kernel
theorem dX9_pairs_37 : decode cX9_pairs 37 = .ok (.if_icmp .ge 90, 3) := by decide +kernel
theorem dX9_pairs_40 : decode cX9_pairs 40 = .ok (.iload 5, 2) := by decide +kernel
theorem dX9_pairs_42 : decode cX9_pairs 42 = .ok (.iconst 1, 1) := by decide +kernel
theorem dX9_pairs_43 : decode cX9_pairs 43 = .ok (.iadd, 1) := by decide +kernel
theorem dX9_pairs_44 : decode cX9_pairs 44 = .ok (.istore 6, 2) := by decide +kernel
theorem dX9_pairs_46 : decode cX9_pairs 46 = .ok (.iload 6, 2) := by decide +kernel
theorem dX9_pairs_48 : decode cX9_pairs 48 = .ok (.aload_n 0, 1) := by decide +kernel
theorem dX9_pairs_49 : decode cX9_pairs 49 = .ok (.getfield 60, 3) := by decide +kernel
theorem dX9_pairs_52 : decode cX9_pairs 52 = .ok (.getfield 106, 3) := by decide +kernel
theorem dX9_pairs_55 : decode cX9_pairs 55 = .ok (.getfield 110, 3) := by decide +kernel
theorem dX9_pairs_58 : decode cX9_pairs 58 = .ok (.if_icmp .ge 63, 3) := by decide +kernel
theorem dX9_pairs_61 : decode cX9_pairs 61 = .ok (.iload_n 2, 1) := by decide +kernel
theorem dX9_pairs_62 : decode cX9_pairs 62 = .ok (.iload 5, 2) := by decide +kernel
theorem dX9_pairs_64 : decode cX9_pairs 64 = .ok (.invokestatic 227, 3) := by decide +kernel
theorem dX9_pairs_67 : decode cX9_pairs 67 = .ok (.ifCond .eq 48, 3) := by decide +kernel
theorem dX9_pairs_70 : decode cX9_pairs 70 = .ok (.iload_n 2, 1) := by decide +kernel
theorem dX9_pairs_71 : decode cX9_pairs 71 = .ok (.iload 6, 2) := by decide +kernel
theorem dX9_pairs_73 : decode cX9_pairs 73 = .ok (.invokestatic 227, 3) := by decide +kernel
theorem dX9_pairs_76 : decode cX9_pairs 76 = .ok (.ifCond .eq 39, 3) := by decide +kernel
theorem dX9_pairs_79 : decode cX9_pairs 79 = .ok (.aload_n 0, 1) := by decide +kernel
theorem dX9_pairs_80 : decode cX9_pairs 80 = .ok (.iload 5, 2) := by decide +kernel
theorem dX9_pairs_82 : decode cX9_pairs 82 = .ok (.iload 6, 2) := by decide +kernel
theorem dX9_pairs_84 : decode cX9_pairs 84 = .ok (.invokevirtual 231, 3) := by decide +kernel
theorem dX9_pairs_87 : decode cX9_pairs 87 = .ok (.ifCond .eq 28, 3) := by decide +kernel
theorem dX9_pairs_90 : decode cX9_pairs 90 = .ok (.iinc 3 1, 3) := by decide +kernel
theorem dX9_pairs_93 : decode cX9_pairs 93 = .ok (.iload 4, 2) := by decide +kernel
theorem dX9_pairs_95 : decode cX9_pairs 95 = .ok (.bipush (-4), 2) := by decide +kernel
theorem dX9_pairs_97 : decode cX9_pairs 97 = .ok (.if_icmp .ne 14, 3) := by decide +kernel
theorem dX9_pairs_100 : decode cX9_pairs 100 = .ok (.bipush 10, 2) := by decide +kernel
theorem dX9_pairs_102 : decode cX9_pairs 102 = .ok (.iload 5, 2) := by decide +kernel
theorem dX9_pairs_104 : decode cX9_pairs 104 = .ok (.imul, 1) := by decide +kernel
theorem dX9_pairs_105 : decode cX9_pairs 105 = .ok (.iload 6, 2) := by decide +kernel
theorem dX9_pairs_107 : decode cX9_pairs 107 = .ok (.iadd, 1) := by decide +kernel
theorem dX9_pairs_108 : decode cX9_pairs 108 = .ok (.goto 5, 3) := by decide +kernel
theorem dX9_pairs_111 : decode cX9_pairs 111 = .ok (.iload 4, 2) := by decide +kernel
theorem dX9_pairs_113 : decode cX9_pairs 113 = .ok (.istore 4, 2) := by decide +kernel
theorem dX9_pairs_115 : decode cX9_pairs 115 = .ok (.iinc 6 1, 3) := by decide +kernel
theorem dX9_pairs_118 : decode cX9_pairs 118 = .ok (.goto (-72), 3) := by decide +kernel
theorem dX9_pairs_121 : decode cX9_pairs 121 = .ok (.iinc 5 1, 3) := by decide +kernel
theorem dX9_pairs_124 : decode cX9_pairs 124 = .ok (.goto (-99), 3) := by decide +kernel
theorem dX9_pairs_127 : decode cX9_pairs 127 = .ok (.iload_n 1, 1) := by decide +kernel
theorem dX9_pairs_128 : decode cX9_pairs 128 = .ok (.ifCond .ne 7, 3) := by decide +kernel
theorem dX9_pairs_131 : decode cX9_pairs 131 = .ok (.iload_n 3, 1) := by decide +kernel
theorem dX9_pairs_132 : decode cX9_pairs 132 = .ok (.goto 5, 3) := by decide +kernel
theorem dX9_pairs_135 : decode cX9_pairs 135 = .ok (.iload 4, 2) := by decide +kernel
theorem dX9_pairs_137 : decode cX9_pairs 137 = .ok (.ireturn, 1) := by decide +kernel
theorem dX9_later_0 : decode cX9_later 0 = .ok (.aload_n 0, 1) := by decide +kernel
theorem dX9_later_1 : decode cX9_later 1 = .ok (.getfield 60, 3) := by decide +kernel
theorem dX9_later_4 : decode cX9_later 4 = .ok (.getfield 106, 3) := by decide +kernel
theorem dX9_later_7 : decode cX9_later 7 = .ok (.iload_n 1, 1) := by decide +kernel
theorem dX9_later_8 : decode cX9_later 8 = .ok (.invokevirtual 130, 3) := by decide +kernel
theorem dX9_later_11 : decode cX9_later 11 = .ok (.ifCond .eq 12, 3) := by decide +kernel
theorem dX9_later_14 : decode cX9_later 14 = .ok (.iload_n 2, 1) := by decide +kernel
theorem dX9_later_15 : decode cX9_later 15 = .ok (.iconst 0, 1) := by decide +kernel
theorem dX9_later_16 : decode cX9_later 16 = .ok (.iconst 1, 1) := by decide +kernel
theorem dX9_later_17 : decode cX9_later 17 = .ok (.invokestatic 91, 3) := by decide +kernel
theorem dX9_later_20 : decode cX9_later 20 = .ok (.ifCond .ne 5, 3) := by decide +kernel
theorem dX9_later_23 : decode cX9_later 23 = .ok (.iconst (-1), 1) := by decide +kernel
theorem dX9_later_24 : decode cX9_later 24 = .ok (.ireturn, 1) := by decide +kernel
theorem dX9_later_25 : decode cX9_later 25 = .ok (.aload_n 0, 1) := by decide +kernel
theorem dX9_later_26 : decode cX9_later 26 = .ok (.getfield 60, 3) := by decide +kernel
theorem dX9_later_29 : decode cX9_later 29 = .ok (.getfield 106, 3) := by decide +kernel
theorem dX9_later_32 : decode cX9_later 32 = .ok (.getfield 134, 3) := by decide +kernel
theorem dX9_later_35 : decode cX9_later 35 = .ok (.iload_n 1, 1) := by decide +kernel
theorem dX9_later_36 : decode cX9_later 36 = .ok (.iaload, 1) := by decide +kernel
theorem dX9_later_37 : decode cX9_later 37 = .ok (.istore_n 3, 1) := by decide +kernel
theorem dX9_later_38 : decode cX9_later 38 = .ok (.ldc 154, 2) := by decide +kernel
theorem dX9_later_40 : decode cX9_later 40 = .ok (.istore 4, 2) := by decide +kernel
theorem dX9_later_42 : decode cX9_later 42 = .ok (.bipush (-4), 2) := by decide +kernel
theorem dX9_later_44 : decode cX9_later 44 = .ok (.istore 5, 2) := by decide +kernel
theorem dX9_later_46 : decode cX9_later 46 = .ok (.iconst 0, 1) := by decide +kernel
theorem dX9_later_47 : decode cX9_later 47 = .ok (.istore 6, 2) := by decide +kernel
theorem dX9_later_49 : decode cX9_later 49 = .ok (.iload 6, 2) := by decide +kernel
theorem dX9_later_51 : decode cX9_later 51 = .ok (.bipush 9, 2) := by decide +kernel
theorem dX9_later_53 : decode cX9_later 53 = .ok (.if_icmp .gt 78, 3) := by decide +kernel
theorem dX9_later_56 : decode cX9_later 56 = .ok (.aload_n 0, 1) := by decide +kernel
theorem dX9_later_57 : decode cX9_later 57 = .ok (.getfield 60, 3) := by decide +kernel
theorem dX9_later_60 : decode cX9_later 60 = .ok (.getfield 106, 3) := by decide +kernel
theorem dX9_later_63 : decode cX9_later 63 = .ok (.getfield 134, 3) := by decide +kernel
theorem dX9_later_66 : decode cX9_later 66 = .ok (.iload_n 1, 1) := by decide +kernel
theorem dX9_later_67 : decode cX9_later 67 = .ok (.iload_n 3, 1) := by decide +kernel
theorem dX9_later_68 : decode cX9_later 68 = .ok (.iload 6, 2) := by decide +kernel
theorem dX9_later_70 : decode cX9_later 70 = .ok (.iadd, 1) := by decide +kernel
theorem dX9_later_71 : decode cX9_later 71 = .ok (.iastore, 1) := by decide +kernel
theorem dX9_later_72 : decode cX9_later 72 = .ok (.aload_n 0, 1) := by decide +kernel
theorem dX9_later_73 : decode cX9_later 73 = .ok (.getfield 21, 3) := by decide +kernel
theorem dX9_later_76 : decode cX9_later 76 = .ok (.aload_n 0, 1) := by decide +kernel
theorem dX9_later_77 : decode cX9_later 77 = .ok (.getfield 60, 3) := by decide +kernel
theorem dX9_later_80 : decode cX9_later 80 = .ok (.ldc 154, 2) := by decide +kernel
theorem dX9_later_82 : decode cX9_later 82 = .ok (.invokevirtual 155, 3) := by decide +kernel
theorem dX9_later_85 : decode cX9_later 85 = .ok (.aload_n 0, 1) := by decide +kernel
theorem dX9_later_86 : decode cX9_later 86 = .ok (.getfield 21, 3) := by decide +kernel
theorem dX9_later_89 : decode cX9_later 89 = .ok (.iload_n 1, 1) := by decide +kernel
theorem dX9_later_90 : decode cX9_later 90 = .ok (.invokevirtual 159, 3) := by decide +kernel
theorem dX9_later_93 : decode cX9_later 93 = .ok (.ifCond .eq 32, 3) := by decide +kernel
theorem dX9_later_96 : decode cX9_later 96 = .ok (.aload_n 0, 1) := by decide +kernel
theorem dX9_later_97 : decode cX9_later 97 = .ok (.getfield 21, 3) := by decide +kernel
theorem dX9_later_100 : decode cX9_later 100 = .ok (.getfield 168, 3) := by decide +kernel
theorem dX9_later_103 : decode cX9_later 103 = .ok (.iload_n 1, 1) := by decide +kernel
theorem dX9_later_104 : decode cX9_later 104 = .ok (.iaload, 1) := by decide +kernel
theorem dX9_later_105 : decode cX9_later 105 = .ok (.iload 4, 2) := by decide +kernel
theorem dX9_later_107 : decode cX9_later 107 = .ok (.if_icmp .ge 18, 3) := by decide +kernel
theorem dX9_later_110 : decode cX9_later 110 = .ok (.aload_n 0, 1) := by decide +kernel
theorem dX9_later_111 : decode cX9_later 111 = .ok (.getfield 21, 3) := by decide +kernel
theorem dX9_later_114 : decode cX9_later 114 = .ok (.getfield 168, 3) := by decide +kernel
theorem dX9_later_117 : decode cX9_later 117 = .ok (.iload_n 1, 1) := by decide +kernel
theorem dX9_later_118 : decode cX9_later 118 = .ok (.iaload, 1) := by decide +kernel
theorem dX9_later_119 : decode cX9_later 119 = .ok (.istore 4, 2) := by decide +kernel
theorem dX9_later_121 : decode cX9_later 121 = .ok (.iload 6, 2) := by decide +kernel
theorem dX9_later_123 : decode cX9_later 123 = .ok (.istore 5, 2) := by decide +kernel
theorem dX9_later_125 : decode cX9_later 125 = .ok (.iinc 6 1, 3) := by decide +kernel
theorem dX9_later_128 : decode cX9_later 128 = .ok (.goto (-79), 3) := by decide +kernel
theorem dX9_later_131 : decode cX9_later 131 = .ok (.aload_n 0, 1) := by decide +kernel
theorem dX9_later_132 : decode cX9_later 132 = .ok (.getfield 60, 3) := by decide +kernel
theorem dX9_later_135 : decode cX9_later 135 = .ok (.getfield 106, 3) := by decide +kernel
theorem dX9_later_138 : decode cX9_later 138 = .ok (.getfield 134, 3) := by decide +kernel
theorem dX9_later_141 : decode cX9_later 141 = .ok (.iload_n 1, 1) := by decide +kernel
theorem dX9_later_142 : decode cX9_later 142 = .ok (.iload_n 3, 1) := by decide +kernel
theorem dX9_later_143 : decode cX9_later 143 = .ok (.iastore, 1) := by decide +kernel
theorem dX9_later_144 : decode cX9_later 144 = .ok (.iload 5, 2) := by decide +kernel
theorem dX9_later_146 : decode cX9_later 146 = .ok (.bipush (-4), 2) := by decide +kernel
theorem dX9_later_148 : decode cX9_later 148 = .ok (.if_icmp .ne 6, 3) := by decide +kernel
theorem dX9_later_151 : decode cX9_later 151 = .ok (.bipush (-4), 2) := by decide +kernel
theorem dX9_later_153 : decode cX9_later 153 = .ok (.ireturn, 1) := by decide +kernel
theorem dX9_later_154 : decode cX9_later 154 = .ok (.iload_n 2, 1) := by decide +kernel
theorem dX9_later_155 : decode cX9_later 155 = .ok (.ifCond .ne 8, 3) := by decide +kernel
theorem dX9_later_158 : decode cX9_later 158 = .ok (.iload 5, 2) := by decide +kernel
theorem dX9_later_160 : decode cX9_later 160 = .ok (.goto 5, 3) := by decide +kernel
theorem dX9_later_163 : decode cX9_later 163 = .ok (.iload 4, 2) := by decide +kernel
theorem dX9_later_165 : decode cX9_later 165 = .ok (.ireturn, 1) := by decide +kernel
theorem dX9_rival_0 : decode cX9_rival 0 = .ok (.aload_n 0, 1) := by decide +kernel
theorem dX9_rival_1 : decode cX9_rival 1 = .ok (.getfield 21, 3) := by decide +kernel
theorem dX9_rival_4 : decode cX9_rival 4 = .ok (.aload_n 0, 1) := by decide +kernel
theorem dX9_rival_5 : decode cX9_rival 5 = .ok (.getfield 60, 3) := by decide +kernel
theorem dX9_rival_8 : decode cX9_rival 8 = .ok (.ldc 154, 2) := by decide +kernel
theorem dX9_rival_10 : decode cX9_rival 10 = .ok (.invokevirtual 155, 3) := by decide +kernel
theorem dX9_rival_13 : decode cX9_rival 13 = .ok (.iconst 0, 1) := by decide +kernel
theorem dX9_rival_14 : decode cX9_rival 14 = .ok (.istore_n 1, 1) := by decide +kernel
theorem dX9_rival_15 : decode cX9_rival 15 = .ok (.iconst 0, 1) := by decide +kernel
theorem dX9_rival_16 : decode cX9_rival 16 = .ok (.istore_n 2, 1) := by decide +kernel
theorem dX9_rival_17 : decode cX9_rival 17 = .ok (.iload_n 2, 1) := by decide +kernel
theorem dX9_rival_18 : decode cX9_rival 18 = .ok (.aload_n 0, 1) := by decide +kernel
theorem dX9_rival_19 : decode cX9_rival 19 = .ok (.getfield 60, 3) := by decide +kernel
theorem dX9_rival_22 : decode cX9_rival 22 = .ok (.getfield 106, 3) := by decide +kernel
theorem dX9_rival_25 : decode cX9_rival 25 = .ok (.getfield 110, 3) := by decide +kernel
theorem dX9_rival_28 : decode cX9_rival 28 = .ok (.if_icmp .ge 53, 3) := by decide +kernel
theorem dX9_rival_31 : decode cX9_rival 31 = .ok (.aload_n 0, 1) := by decide +kernel
theorem dX9_rival_32 : decode cX9_rival 32 = .ok (.getfield 21, 3) := by decide +kernel
theorem dX9_rival_35 : decode cX9_rival 35 = .ok (.iload_n 2, 1) := by decide +kernel
theorem dX9_rival_36 : decode cX9_rival 36 = .ok (.invokevirtual 159, 3) := by decide +kernel
theorem dX9_rival_39 : decode cX9_rival 39 = .ok (.ifCond .eq 15, 3) := by decide +kernel
theorem dX9_rival_42 : decode cX9_rival 42 = .ok (.aload_n 0, 1) := by decide +kernel
theorem dX9_rival_43 : decode cX9_rival 43 = .ok (.getfield 21, 3) := by decide +kernel
theorem dX9_rival_46 : decode cX9_rival 46 = .ok (.getfield 168, 3) := by decide +kernel
theorem dX9_rival_49 : decode cX9_rival 49 = .ok (.iload_n 2, 1) := by decide +kernel
theorem dX9_rival_50 : decode cX9_rival 50 = .ok (.iaload, 1) := by decide +kernel
theorem dX9_rival_51 : decode cX9_rival 51 = .ok (.goto 5, 3) := by decide +kernel
theorem dX9_rival_54 : decode cX9_rival 54 = .ok (.bipush 50, 2) := by decide +kernel
theorem dX9_rival_56 : decode cX9_rival 56 = .ok (.istore_n 3, 1) := by decide +kernel
theorem dX9_rival_57 : decode cX9_rival 57 = .ok (.aload_n 0, 1) := by decide +kernel
theorem dX9_rival_58 : decode cX9_rival 58 = .ok (.getfield 60, 3) := by decide +kernel
theorem dX9_rival_61 : decode cX9_rival 61 = .ok (.iload_n 2, 1) := by decide +kernel
theorem dX9_rival_62 : decode cX9_rival 62 = .ok (.invokevirtual 234, 3) := by decide +kernel
theorem dX9_rival_65 : decode cX9_rival 65 = .ok (.iload_n 3, 1) := by decide +kernel
theorem dX9_rival_66 : decode cX9_rival 66 = .ok (.if_icmp .ge 9, 3) := by decide +kernel
theorem dX9_rival_69 : decode cX9_rival 69 = .ok (.iload_n 1, 1) := by decide +kernel
theorem dX9_rival_70 : decode cX9_rival 70 = .ok (.iconst 1, 1) := by decide +kernel
theorem dX9_rival_71 : decode cX9_rival 71 = .ok (.iload_n 2, 1) := by decide +kernel
theorem dX9_rival_72 : decode cX9_rival 72 = .ok (.ishl, 1) := by decide +kernel
theorem dX9_rival_73 : decode cX9_rival 73 = .ok (.ior, 1) := by decide +kernel
theorem dX9_rival_74 : decode cX9_rival 74 = .ok (.istore_n 1, 1) := by decide +kernel
theorem dX9_rival_75 : decode cX9_rival 75 = .ok (.iinc 2 1, 3) := by decide +kernel
theorem dX9_rival_78 : decode cX9_rival 78 = .ok (.goto (-61), 3) := by decide +kernel
theorem dX9_rival_81 : decode cX9_rival 81 = .ok (.iload_n 1, 1) := by decide +kernel
theorem dX9_rival_82 : decode cX9_rival 82 = .ok (.ireturn, 1) := by decide +kernel
theorem dX9_fewest_0 : decode cX9_fewest 0 = .ok (.iload_n 1, 1) := by decide +kernel
theorem dX9_fewest_1 : decode cX9_fewest 1 = .ok (.invokestatic 123, 3) := by decide +kernel
theorem dX9_fewest_4 : decode cX9_fewest 4 = .ok (.ifCond .ne 5, 3) := by decide +kernel
theorem dX9_fewest_7 : decode cX9_fewest 7 = .ok (.iconst (-1), 1) := by decide +kernel
theorem dX9_fewest_8 : decode cX9_fewest 8 = .ok (.ireturn, 1) := by decide +kernel
theorem dX9_fewest_9 : decode cX9_fewest 9 = .ok (.bipush (-4), 2) := by decide +kernel
theorem dX9_fewest_11 : decode cX9_fewest 11 = .ok (.istore_n 2, 1) := by decide +kernel
theorem dX9_fewest_12 : decode cX9_fewest 12 = .ok (.iconst 1, 1) := by decide +kernel
theorem dX9_fewest_13 : decode cX9_fewest 13 = .ok (.istore_n 3, 1) := by decide +kernel
theorem dX9_fewest_14 : decode cX9_fewest 14 = .ok (.iload_n 3, 1) := by decide +kernel
theorem dX9_fewest_15 : decode cX9_fewest 15 = .ok (.aload_n 0, 1) := by decide +kernel
theorem dX9_fewest_16 : decode cX9_fewest 16 = .ok (.getfield 60, 3) := by decide +kernel
theorem dX9_fewest_19 : decode cX9_fewest 19 = .ok (.getfield 113, 3) := by decide +kernel
theorem dX9_fewest_22 : decode cX9_fewest 22 = .ok (.getfield 237, 3) := by decide +kernel
theorem dX9_fewest_25 : decode cX9_fewest 25 = .ok (.if_icmp .gt 59, 3) := by decide +kernel
theorem dX9_fewest_28 : decode cX9_fewest 28 = .ok (.iload_n 2, 1) := by decide +kernel
theorem dX9_fewest_29 : decode cX9_fewest 29 = .ok (.bipush (-4), 2) := by decide +kernel
theorem dX9_fewest_31 : decode cX9_fewest 31 = .ok (.if_icmp .ne 53, 3) := by decide +kernel
theorem dX9_fewest_34 : decode cX9_fewest 34 = .ok (.aload_n 0, 1) := by decide +kernel
theorem dX9_fewest_35 : decode cX9_fewest 35 = .ok (.getfield 60, 3) := by decide +kernel
theorem dX9_fewest_38 : decode cX9_fewest 38 = .ok (.getfield 113, 3) := by decide +kernel
theorem dX9_fewest_41 : decode cX9_fewest 41 = .ok (.iload_n 3, 1) := by decide +kernel
theorem dX9_fewest_42 : decode cX9_fewest 42 = .ok (.putfield 238, 3) := by decide +kernel
theorem dX9_fewest_45 : decode cX9_fewest 45 = .ok (.aload_n 0, 1) := by decide +kernel
theorem dX9_fewest_46 : decode cX9_fewest 46 = .ok (.getfield 21, 3) := by decide +kernel
theorem dX9_fewest_49 : decode cX9_fewest 49 = .ok (.aload_n 0, 1) := by decide +kernel
theorem dX9_fewest_50 : decode cX9_fewest 50 = .ok (.getfield 60, 3) := by decide +kernel
theorem dX9_fewest_53 : decode cX9_fewest 53 = .ok (.ldc 154, 2) := by decide +kernel
theorem dX9_fewest_55 : decode cX9_fewest 55 = .ok (.invokevirtual 155, 3) := by decide +kernel
theorem dX9_fewest_58 : decode cX9_fewest 58 = .ok (.aload_n 0, 1) := by decide +kernel
theorem dX9_fewest_59 : decode cX9_fewest 59 = .ok (.getfield 21, 3) := by decide +kernel
theorem dX9_fewest_62 : decode cX9_fewest 62 = .ok (.aload_n 0, 1) := by decide +kernel
theorem dX9_fewest_63 : decode cX9_fewest 63 = .ok (.getfield 60, 3) := by decide +kernel
theorem dX9_fewest_66 : decode cX9_fewest 66 = .ok (.getfield 106, 3) := by decide +kernel
theorem dX9_fewest_69 : decode cX9_fewest 69 = .ok (.iload_n 1, 1) := by decide +kernel
theorem dX9_fewest_70 : decode cX9_fewest 70 = .ok (.invokevirtual 241, 3) := by decide +kernel
theorem dX9_fewest_73 : decode cX9_fewest 73 = .ok (.ifCond .eq 5, 3) := by decide +kernel
theorem dX9_fewest_76 : decode cX9_fewest 76 = .ok (.iload_n 3, 1) := by decide +kernel
theorem dX9_fewest_77 : decode cX9_fewest 77 = .ok (.istore_n 2, 1) := by decide +kernel
theorem dX9_fewest_78 : decode cX9_fewest 78 = .ok (.iinc 3 1, 3) := by decide +kernel
theorem dX9_fewest_81 : decode cX9_fewest 81 = .ok (.goto (-67), 3) := by decide +kernel
theorem dX9_fewest_84 : decode cX9_fewest 84 = .ok (.aload_n 0, 1) := by decide +kernel
theorem dX9_fewest_85 : decode cX9_fewest 85 = .ok (.getfield 60, 3) := by decide +kernel
theorem dX9_fewest_88 : decode cX9_fewest 88 = .ok (.getfield 113, 3) := by decide +kernel
theorem dX9_fewest_91 : decode cX9_fewest 91 = .ok (.aload_n 0, 1) := by decide +kernel
theorem dX9_fewest_92 : decode cX9_fewest 92 = .ok (.getfield 60, 3) := by decide +kernel
theorem dX9_fewest_95 : decode cX9_fewest 95 = .ok (.getfield 113, 3) := by decide +kernel
theorem dX9_fewest_98 : decode cX9_fewest 98 = .ok (.getfield 237, 3) := by decide +kernel
theorem dX9_fewest_101 : decode cX9_fewest 101 = .ok (.putfield 238, 3) := by decide +kernel
theorem dX9_fewest_104 : decode cX9_fewest 104 = .ok (.iload_n 2, 1) := by decide +kernel
theorem dX9_fewest_105 : decode cX9_fewest 105 = .ok (.ireturn, 1) := by decide +kernel
theorem dX9_turned_0 : decode cX9_turned 0 = .ok (.aload_n 0, 1) := by decide +kernel
theorem dX9_turned_1 : decode cX9_turned 1 = .ok (.getfield 60, 3) := by decide +kernel
theorem dX9_turned_4 : decode cX9_turned 4 = .ok (.getfield 113, 3) := by decide +kernel
theorem dX9_turned_7 : decode cX9_turned 7 = .ok (.iconst 1, 1) := by decide +kernel
theorem dX9_turned_8 : decode cX9_turned 8 = .ok (.putfield 245, 3) := by decide +kernel
theorem dX9_turned_11 : decode cX9_turned 11 = .ok (.aload_n 0, 1) := by decide +kernel
theorem dX9_turned_12 : decode cX9_turned 12 = .ok (.ldc 154, 2) := by decide +kernel
theorem dX9_turned_14 : decode cX9_turned 14 = .ok (.invokevirtual 215, 3) := by decide +kernel
theorem dX9_turned_17 : decode cX9_turned 17 = .ok (.istore_n 1, 1) := by decide +kernel
theorem dX9_turned_18 : decode cX9_turned 18 = .ok (.aload_n 0, 1) := by decide +kernel
theorem dX9_turned_19 : decode cX9_turned 19 = .ok (.getfield 60, 3) := by decide +kernel
theorem dX9_turned_22 : decode cX9_turned 22 = .ok (.getfield 113, 3) := by decide +kernel
theorem dX9_turned_25 : decode cX9_turned 25 = .ok (.iconst 0, 1) := by decide +kernel
theorem dX9_turned_26 : decode cX9_turned 26 = .ok (.putfield 245, 3) := by decide +kernel
theorem dX9_turned_29 : decode cX9_turned 29 = .ok (.iload_n 1, 1) := by decide +kernel
theorem dX9_turned_30 : decode cX9_turned 30 = .ok (.ireturn, 1) := by decide +kernel
theorem dX9_left_0 : decode cX9_left 0 = .ok (.aload_n 0, 1) := by decide +kernel
theorem dX9_left_1 : decode cX9_left 1 = .ok (.getfield 60, 3) := by decide +kernel
theorem dX9_left_4 : decode cX9_left 4 = .ok (.getfield 113, 3) := by decide +kernel
theorem dX9_left_7 : decode cX9_left 7 = .ok (.iload_n 1, 1) := by decide +kernel
theorem dX9_left_8 : decode cX9_left 8 = .ok (.invokevirtual 117, 3) := by decide +kernel
theorem dX9_left_11 : decode cX9_left 11 = .ok (.ifCond .eq 20, 3) := by decide +kernel
theorem dX9_left_14 : decode cX9_left 14 = .ok (.iload_n 2, 1) := by decide +kernel
theorem dX9_left_15 : decode cX9_left 15 = .ok (.invokestatic 123, 3) := by decide +kernel
theorem dX9_left_18 : decode cX9_left 18 = .ok (.ifCond .eq 13, 3) := by decide +kernel
theorem dX9_left_21 : decode cX9_left 21 = .ok (.iload_n 3, 1) := by decide +kernel
theorem dX9_left_22 : decode cX9_left 22 = .ok (.iconst 0, 1) := by decide +kernel
theorem dX9_left_23 : decode cX9_left 23 = .ok (.bipush 99, 2) := by decide +kernel
theorem dX9_left_25 : decode cX9_left 25 = .ok (.invokestatic 91, 3) := by decide +kernel
theorem dX9_left_28 : decode cX9_left 28 = .ok (.ifCond .ne 5, 3) := by decide +kernel
end
section
theorem dX9_left_31 : decode cX9_left 31 = .ok (.iconst (-1), 1) := by decide +kernel
theorem dX9_left_32 : decode cX9_left 32 = .ok (.ireturn, 1) := by decide +kernel
theorem dX9_left_33 : decode cX9_left 33 = .ok (.aload_n 0, 1) := by decide +kernel
theorem dX9_left_34 : decode cX9_left 34 = .ok (.getfield 42, 3) := by decide +kernel
theorem dX9_left_37 : decode cX9_left 37 = .ok (.iload_n 1, 1) := by decide +kernel
theorem dX9_left_38 : decode cX9_left 38 = .ok (.iload_n 2, 1) := by decide +kernel
theorem dX9_left_39 : decode cX9_left 39 = .ok (.iload_n 3, 1) := by decide +kernel
theorem dX9_left_40 : decode cX9_left 40 = .ok (.invokevirtual 248, 3) := by decide +kernel
theorem dX9_left_43 : decode cX9_left 43 = .ok (.ifCond .eq 13, 3) := by decide +kernel
theorem dX9_left_46 : decode cX9_left 46 = .ok (.aload_n 0, 1) := by decide +kernel
theorem dX9_left_47 : decode cX9_left 47 = .ok (.getfield 42, 3) := by decide +kernel
theorem dX9_left_50 : decode cX9_left 50 = .ok (.getfield 101, 3) := by decide +kernel
theorem dX9_left_53 : decode cX9_left 53 = .ok (.goto 5, 3) := by decide +kernel
theorem dX9_left_56 : decode cX9_left 56 = .ok (.bipush (-3), 2) := by decide +kernel
theorem dX9_left_58 : decode cX9_left 58 = .ok (.ireturn, 1) := by decide +kernel
theorem dX9_sweep_0 : decode cX9_sweep 0 = .ok (.aload_n 0, 1) := by decide +kernel
theorem dX9_sweep_1 : decode cX9_sweep 1 = .ok (.getfield 42, 3) := by decide +kernel
theorem dX9_sweep_4 : decode cX9_sweep 4 = .ok (.getfield 101, 3) := by decide +kernel
theorem dX9_sweep_7 : decode cX9_sweep 7 = .ok (.istore_n 1, 1) := by decide +kernel
theorem dX9_sweep_8 : decode cX9_sweep 8 = .ok (.aload_n 0, 1) := by decide +kernel
theorem dX9_sweep_9 : decode cX9_sweep 9 = .ok (.getfield 42, 3) := by decide +kernel
theorem dX9_sweep_12 : decode cX9_sweep 12 = .ok (.iconst 0, 1) := by decide +kernel
theorem dX9_sweep_13 : decode cX9_sweep 13 = .ok (.putfield 101, 3) := by decide +kernel
theorem dX9_sweep_16 : decode cX9_sweep 16 = .ok (.iload_n 1, 1) := by decide +kernel
theorem dX9_sweep_17 : decode cX9_sweep 17 = .ok (.ireturn, 1) := by decide +kernel
theorem dX9_slept_0 : decode cX9_slept 0 = .ok (.aload_n 0, 1) := by decide +kernel
theorem dX9_slept_1 : decode cX9_slept 1 = .ok (.getfield 42, 3) := by decide +kernel
theorem dX9_slept_4 : decode cX9_slept 4 = .ok (.iload_n 1, 1) := by decide +kernel
theorem dX9_slept_5 : decode cX9_slept 5 = .ok (.invokevirtual 251, 3) := by decide +kernel
theorem dX9_slept_8 : decode cX9_slept 8 = .ok (.ifCond .eq 18, 3) := by decide +kernel
theorem dX9_slept_11 : decode cX9_slept 11 = .ok (.aload_n 0, 1) := by decide +kernel
theorem dX9_slept_12 : decode cX9_slept 12 = .ok (.getfield 42, 3) := by decide +kernel
theorem dX9_slept_15 : decode cX9_slept 15 = .ok (.aload_n 0, 1) := by decide +kernel
theorem dX9_slept_16 : decode cX9_slept 16 = .ok (.getfield 60, 3) := by decide +kernel
theorem dX9_slept_19 : decode cX9_slept 19 = .ok (.iload_n 1, 1) := by decide +kernel
theorem dX9_slept_20 : decode cX9_slept 20 = .ok (.invokevirtual 252, 3) := by decide +kernel
theorem dX9_slept_23 : decode cX9_slept 23 = .ok (.goto 4, 3) := by decide +kernel
theorem dX9_slept_26 : decode cX9_slept 26 = .ok (.iconst (-1), 1) := by decide +kernel
theorem dX9_slept_27 : decode cX9_slept 27 = .ok (.ireturn, 1) := by decide +kernel
theorem dX9_sure_0 : decode cX9_sure 0 = .ok (.iload_n 1, 1) := by decide +kernel
theorem dX9_sure_1 : decode cX9_sure 1 = .ok (.iconst (-1), 1) := by decide +kernel
theorem dX9_sure_2 : decode cX9_sure 2 = .ok (.if_icmp .ne 18, 3) := by decide +kernel
theorem dX9_sure_5 : decode cX9_sure 5 = .ok (.aload_n 0, 1) := by decide +kernel
theorem dX9_sure_6 : decode cX9_sure 6 = .ok (.getfield 42, 3) := by decide +kernel
theorem dX9_sure_9 : decode cX9_sure 9 = .ok (.aload_n 0, 1) := by decide +kernel
theorem dX9_sure_10 : decode cX9_sure 10 = .ok (.getfield 60, 3) := by decide +kernel
theorem dX9_sure_13 : decode cX9_sure 13 = .ok (.bipush (-4), 2) := by decide +kernel
theorem dX9_sure_15 : decode cX9_sure 15 = .ok (.iconst 0, 1) := by decide +kernel
theorem dX9_sure_16 : decode cX9_sure 16 = .ok (.invokevirtual 256, 3) := by decide +kernel
theorem dX9_sure_19 : decode cX9_sure 19 = .ok (.ireturn, 1) := by decide +kernel
theorem dX9_sure_20 : decode cX9_sure 20 = .ok (.aload_n 0, 1) := by decide +kernel
theorem dX9_sure_21 : decode cX9_sure 21 = .ok (.getfield 42, 3) := by decide +kernel
theorem dX9_sure_24 : decode cX9_sure 24 = .ok (.iload_n 1, 1) := by decide +kernel
theorem dX9_sure_25 : decode cX9_sure 25 = .ok (.invokevirtual 251, 3) := by decide +kernel
theorem dX9_sure_28 : decode cX9_sure 28 = .ok (.ifCond .eq 18, 3) := by decide +kernel
theorem dX9_sure_31 : decode cX9_sure 31 = .ok (.aload_n 0, 1) := by decide +kernel
theorem dX9_sure_32 : decode cX9_sure 32 = .ok (.getfield 42, 3) := by decide +kernel
theorem dX9_sure_35 : decode cX9_sure 35 = .ok (.aload_n 0, 1) := by decide +kernel
theorem dX9_sure_36 : decode cX9_sure 36 = .ok (.getfield 60, 3) := by decide +kernel
theorem dX9_sure_39 : decode cX9_sure 39 = .ok (.iload_n 1, 1) := by decide +kernel
theorem dX9_sure_40 : decode cX9_sure 40 = .ok (.invokevirtual 260, 3) := by decide +kernel
theorem dX9_sure_43 : decode cX9_sure 43 = .ok (.goto 4, 3) := by decide +kernel
theorem dX9_sure_46 : decode cX9_sure 46 = .ok (.iconst (-1), 1) := by decide +kernel
theorem dX9_sure_47 : decode cX9_sure 47 = .ok (.ireturn, 1) := by decide +kernel
theorem dX9_found_0 : decode cX9_found 0 = .ok (.aload_n 0, 1) := by decide +kernel
theorem dX9_found_1 : decode cX9_found 1 = .ok (.getfield 60, 3) := by decide +kernel
theorem dX9_found_4 : decode cX9_found 4 = .ok (.getfield 106, 3) := by decide +kernel
theorem dX9_found_7 : decode cX9_found 7 = .ok (.iload_n 1, 1) := by decide +kernel
theorem dX9_found_8 : decode cX9_found 8 = .ok (.invokevirtual 130, 3) := by decide +kernel
theorem dX9_found_11 : decode cX9_found 11 = .ok (.ifCond .eq 13, 3) := by decide +kernel
theorem dX9_found_14 : decode cX9_found 14 = .ok (.iload_n 2, 1) := by decide +kernel
theorem dX9_found_15 : decode cX9_found 15 = .ok (.iconst 0, 1) := by decide +kernel
theorem dX9_found_16 : decode cX9_found 16 = .ok (.bipush 10, 2) := by decide +kernel
theorem dX9_found_18 : decode cX9_found 18 = .ok (.invokestatic 91, 3) := by decide +kernel
theorem dX9_found_21 : decode cX9_found 21 = .ok (.ifCond .ne 5, 3) := by decide +kernel
theorem dX9_found_24 : decode cX9_found 24 = .ok (.iconst (-1), 1) := by decide +kernel
theorem dX9_found_25 : decode cX9_found 25 = .ok (.ireturn, 1) := by decide +kernel
theorem dX9_found_26 : decode cX9_found 26 = .ok (.aload_n 0, 1) := by decide +kernel
theorem dX9_found_27 : decode cX9_found 27 = .ok (.getfield 21, 3) := by decide +kernel
theorem dX9_found_30 : decode cX9_found 30 = .ok (.aload_n 0, 1) := by decide +kernel
theorem dX9_found_31 : decode cX9_found 31 = .ok (.getfield 60, 3) := by decide +kernel
theorem dX9_found_34 : decode cX9_found 34 = .ok (.ldc 154, 2) := by decide +kernel
theorem dX9_found_36 : decode cX9_found 36 = .ok (.invokevirtual 155, 3) := by decide +kernel
theorem dX9_found_39 : decode cX9_found 39 = .ok (.aload_n 0, 1) := by decide +kernel
theorem dX9_found_40 : decode cX9_found 40 = .ok (.getfield 21, 3) := by decide +kernel
theorem dX9_found_43 : decode cX9_found 43 = .ok (.iload_n 1, 1) := by decide +kernel
theorem dX9_found_44 : decode cX9_found 44 = .ok (.invokevirtual 159, 3) := by decide +kernel
theorem dX9_found_47 : decode cX9_found 47 = .ok (.ifCond .eq 15, 3) := by decide +kernel
theorem dX9_found_50 : decode cX9_found 50 = .ok (.aload_n 0, 1) := by decide +kernel
theorem dX9_found_51 : decode cX9_found 51 = .ok (.getfield 21, 3) := by decide +kernel
theorem dX9_found_54 : decode cX9_found 54 = .ok (.getfield 162, 3) := by decide +kernel
theorem dX9_found_57 : decode cX9_found 57 = .ok (.iload_n 1, 1) := by decide +kernel
theorem dX9_found_58 : decode cX9_found 58 = .ok (.iaload, 1) := by decide +kernel
theorem dX9_found_59 : decode cX9_found 59 = .ok (.goto 5, 3) := by decide +kernel
theorem dX9_found_62 : decode cX9_found 62 = .ok (.bipush 29, 2) := by decide +kernel
theorem dX9_found_64 : decode cX9_found 64 = .ok (.istore_n 3, 1) := by decide +kernel
theorem dX9_found_65 : decode cX9_found 65 = .ok (.iconst 0, 1) := by decide +kernel
theorem dX9_found_66 : decode cX9_found 66 = .ok (.sipush 1000, 3) := by decide +kernel
theorem dX9_found_69 : decode cX9_found 69 = .ok (.bipush 10, 2) := by decide +kernel
theorem dX9_found_71 : decode cX9_found 71 = .ok (.iload_n 2, 1) := by decide +kernel
theorem dX9_found_72 : decode cX9_found 72 = .ok (.imul, 1) := by decide +kernel
theorem dX9_found_73 : decode cX9_found 73 = .ok (.aload_n 0, 1) := by decide +kernel
theorem dX9_found_74 : decode cX9_found 74 = .ok (.getfield 60, 3) := by decide +kernel
theorem dX9_found_77 : decode cX9_found 77 = .ok (.getfield 106, 3) := by decide +kernel
theorem dX9_found_80 : decode cX9_found 80 = .ok (.getfield 140, 3) := by decide +kernel
theorem dX9_found_83 : decode cX9_found 83 = .ok (.iload_n 1, 1) := by decide +kernel
theorem dX9_found_84 : decode cX9_found 84 = .ok (.iaload, 1) := by decide +kernel
theorem dX9_found_85 : decode cX9_found 85 = .ok (.invokestatic 263, 3) := by decide +kernel
theorem dX9_found_88 : decode cX9_found 88 = .ok (.imul, 1) := by decide +kernel
theorem dX9_found_89 : decode cX9_found 89 = .ok (.isub, 1) := by decide +kernel
theorem dX9_found_90 : decode cX9_found 90 = .ok (.invokestatic 268, 3) := by decide +kernel
theorem dX9_found_93 : decode cX9_found 93 = .ok (.istore 4, 2) := by decide +kernel
theorem dX9_found_95 : decode cX9_found 95 = .ok (.sipush 1000, 3) := by decide +kernel
theorem dX9_found_98 : decode cX9_found 98 = .ok (.istore 5, 2) := by decide +kernel
theorem dX9_found_100 : decode cX9_found 100 = .ok (.aload_n 0, 1) := by decide +kernel
theorem dX9_found_101 : decode cX9_found 101 = .ok (.getfield 60, 3) := by decide +kernel
theorem dX9_found_104 : decode cX9_found 104 = .ok (.getfield 106, 3) := by decide +kernel
theorem dX9_found_107 : decode cX9_found 107 = .ok (.getfield 134, 3) := by decide +kernel
theorem dX9_found_110 : decode cX9_found 110 = .ok (.iload_n 1, 1) := by decide +kernel
theorem dX9_found_111 : decode cX9_found 111 = .ok (.iaload, 1) := by decide +kernel
theorem dX9_found_112 : decode cX9_found 112 = .ok (.istore 6, 2) := by decide +kernel
theorem dX9_found_114 : decode cX9_found 114 = .ok (.iload 6, 2) := by decide +kernel
theorem dX9_found_116 : decode cX9_found 116 = .ok (.iload_n 3, 1) := by decide +kernel
theorem dX9_found_117 : decode cX9_found 117 = .ok (.if_icmp .gt 20, 3) := by decide +kernel
theorem dX9_found_120 : decode cX9_found 120 = .ok (.iload 5, 2) := by decide +kernel
theorem dX9_found_122 : decode cX9_found 122 = .ok (.iload 4, 2) := by decide +kernel
theorem dX9_found_124 : decode cX9_found 124 = .ok (.imul, 1) := by decide +kernel
theorem dX9_found_125 : decode cX9_found 125 = .ok (.sipush 1000, 3) := by decide +kernel
theorem dX9_found_128 : decode cX9_found 128 = .ok (.idiv, 1) := by decide +kernel
theorem dX9_found_129 : decode cX9_found 129 = .ok (.istore 5, 2) := by decide +kernel
theorem dX9_found_131 : decode cX9_found 131 = .ok (.iinc 6 1, 3) := by decide +kernel
theorem dX9_found_134 : decode cX9_found 134 = .ok (.goto (-20), 3) := by decide +kernel
theorem dX9_found_137 : decode cX9_found 137 = .ok (.iload 5, 2) := by decide +kernel
theorem dX9_found_139 : decode cX9_found 139 = .ok (.ireturn, 1) := by decide +kernel
theorem dX9_year_0 : decode cX9_year 0 = .ok (.iload_n 1, 1) := by decide +kernel
theorem dX9_year_1 : decode cX9_year 1 = .ok (.iconst 0, 1) := by decide +kernel
theorem dX9_year_2 : decode cX9_year 2 = .ok (.sipush 9999, 3) := by decide +kernel
theorem dX9_year_5 : decode cX9_year 5 = .ok (.invokestatic 91, 3) := by decide +kernel
theorem dX9_year_8 : decode cX9_year 8 = .ok (.ifCond .eq 12, 3) := by decide +kernel
theorem dX9_year_11 : decode cX9_year 11 = .ok (.iload_n 2, 1) := by decide +kernel
theorem dX9_year_12 : decode cX9_year 12 = .ok (.iconst 0, 1) := by decide +kernel
theorem dX9_year_13 : decode cX9_year 13 = .ok (.iconst 1, 1) := by decide +kernel
theorem dX9_year_14 : decode cX9_year 14 = .ok (.invokestatic 91, 3) := by decide +kernel
theorem dX9_year_17 : decode cX9_year 17 = .ok (.ifCond .ne 5, 3) := by decide +kernel
theorem dX9_year_20 : decode cX9_year 20 = .ok (.iconst (-1), 1) := by decide +kernel
theorem dX9_year_21 : decode cX9_year 21 = .ok (.ireturn, 1) := by decide +kernel
theorem dX9_year_22 : decode cX9_year 22 = .ok (.aload_n 0, 1) := by decide +kernel
theorem dX9_year_23 : decode cX9_year 23 = .ok (.getfield 60, 3) := by decide +kernel
theorem dX9_year_26 : decode cX9_year 26 = .ok (.getfield 113, 3) := by decide +kernel
theorem dX9_year_29 : decode cX9_year 29 = .ok (.iload_n 1, 1) := by decide +kernel
theorem dX9_year_30 : decode cX9_year 30 = .ok (.putfield 271, 3) := by decide +kernel
theorem dX9_year_33 : decode cX9_year 33 = .ok (.aload_n 0, 1) := by decide +kernel
theorem dX9_year_34 : decode cX9_year 34 = .ok (.getfield 21, 3) := by decide +kernel
theorem dX9_year_37 : decode cX9_year 37 = .ok (.aload_n 0, 1) := by decide +kernel
theorem dX9_year_38 : decode cX9_year 38 = .ok (.getfield 60, 3) := by decide +kernel
theorem dX9_year_41 : decode cX9_year 41 = .ok (.ldc 154, 2) := by decide +kernel
theorem dX9_year_43 : decode cX9_year 43 = .ok (.invokevirtual 155, 3) := by decide +kernel
theorem dX9_year_46 : decode cX9_year 46 = .ok (.aload_n 0, 1) := by decide +kernel
theorem dX9_year_47 : decode cX9_year 47 = .ok (.getfield 60, 3) := by decide +kernel
theorem dX9_year_50 : decode cX9_year 50 = .ok (.getfield 113, 3) := by decide +kernel
theorem dX9_year_53 : decode cX9_year 53 = .ok (.iconst (-1), 1) := by decide +kernel
theorem dX9_year_54 : decode cX9_year 54 = .ok (.putfield 271, 3) := by decide +kernel
theorem dX9_year_57 : decode cX9_year 57 = .ok (.iload_n 2, 1) := by decide +kernel
theorem dX9_year_58 : decode cX9_year 58 = .ok (.ifCond .ne 20, 3) := by decide +kernel
theorem dX9_year_61 : decode cX9_year 61 = .ok (.aload_n 0, 1) := by decide +kernel
theorem dX9_year_62 : decode cX9_year 62 = .ok (.getfield 21, 3) := by decide +kernel
theorem dX9_year_65 : decode cX9_year 65 = .ok (.aload_n 0, 1) := by decide +kernel
theorem dX9_year_66 : decode cX9_year 66 = .ok (.getfield 60, 3) := by decide +kernel
theorem dX9_year_69 : decode cX9_year 69 = .ok (.getfield 106, 3) := by decide +kernel
theorem dX9_year_72 : decode cX9_year 72 = .ok (.invokevirtual 177, 3) := by decide +kernel
theorem dX9_year_75 : decode cX9_year 75 = .ok (.goto 17, 3) := by decide +kernel
theorem dX9_year_78 : decode cX9_year 78 = .ok (.aload_n 0, 1) := by decide +kernel
theorem dX9_year_79 : decode cX9_year 79 = .ok (.getfield 21, 3) := by decide +kernel
theorem dX9_year_82 : decode cX9_year 82 = .ok (.aload_n 0, 1) := by decide +kernel
theorem dX9_year_83 : decode cX9_year 83 = .ok (.getfield 60, 3) := by decide +kernel
theorem dX9_year_86 : decode cX9_year 86 = .ok (.getfield 106, 3) := by decide +kernel
theorem dX9_year_89 : decode cX9_year 89 = .ok (.invokevirtual 187, 3) := by decide +kernel
theorem dX9_year_92 : decode cX9_year 92 = .ok (.ireturn, 1) := by decide +kernel
theorem dX9_keep_0 : decode cX9_keep 0 = .ok (.aload_n 0, 1) := by decide +kernel
theorem dX9_keep_1 : decode cX9_keep 1 = .ok (.getfield 35, 3) := by decide +kernel
theorem dX9_keep_4 : decode cX9_keep 4 = .ok (.aload_n 0, 1) := by decide +kernel
theorem dX9_keep_5 : decode cX9_keep 5 = .ok (.getfield 60, 3) := by decide +kernel
theorem dX9_keep_8 : decode cX9_keep 8 = .ok (.getfield 106, 3) := by decide +kernel
theorem dX9_keep_11 : decode cX9_keep 11 = .ok (.invokevirtual 274, 3) := by decide +kernel
theorem dX9_keep_14 : decode cX9_keep 14 = .ok (.ifCond .eq 13, 3) := by decide +kernel
theorem dX9_keep_17 : decode cX9_keep 17 = .ok (.aload_n 0, 1) := by decide +kernel
theorem dX9_keep_18 : decode cX9_keep 18 = .ok (.getfield 35, 3) := by decide +kernel
theorem dX9_keep_21 : decode cX9_keep 21 = .ok (.getfield 100, 3) := by decide +kernel
theorem dX9_keep_24 : decode cX9_keep 24 = .ok (.goto 5, 3) := by decide +kernel
theorem dX9_keep_27 : decode cX9_keep 27 = .ok (.bipush (-3), 2) := by decide +kernel
theorem dX9_keep_29 : decode cX9_keep 29 = .ok (.ireturn, 1) := by decide +kernel
theorem dX9_back_0 : decode cX9_back 0 = .ok (.aload_n 0, 1) := by decide +kernel
theorem dX9_back_1 : decode cX9_back 1 = .ok (.getfield 35, 3) := by decide +kernel
theorem dX9_back_4 : decode cX9_back 4 = .ok (.getfield 100, 3) := by decide +kernel
theorem dX9_back_7 : decode cX9_back 7 = .ok (.ifCond .ne 6, 3) := by decide +kernel
theorem dX9_back_10 : decode cX9_back 10 = .ok (.bipush (-2), 2) := by decide +kernel
theorem dX9_back_12 : decode cX9_back 12 = .ok (.ireturn, 1) := by decide +kernel
theorem dX9_back_13 : decode cX9_back 13 = .ok (.aload_n 0, 1) := by decide +kernel
theorem dX9_back_14 : decode cX9_back 14 = .ok (.getfield 35, 3) := by decide +kernel
theorem dX9_back_17 : decode cX9_back 17 = .ok (.aload_n 0, 1) := by decide +kernel
theorem dX9_back_18 : decode cX9_back 18 = .ok (.getfield 60, 3) := by decide +kernel
theorem dX9_back_21 : decode cX9_back 21 = .ok (.getfield 106, 3) := by decide +kernel
theorem dX9_back_24 : decode cX9_back 24 = .ok (.invokevirtual 277, 3) := by decide +kernel
theorem dX9_back_27 : decode cX9_back 27 = .ok (.aload_n 0, 1) := by decide +kernel
theorem dX9_back_28 : decode cX9_back 28 = .ok (.getfield 28, 3) := by decide +kernel
theorem dX9_back_31 : decode cX9_back 31 = .ok (.iconst 0, 1) := by decide +kernel
theorem dX9_back_32 : decode cX9_back 32 = .ok (.putfield 99, 3) := by decide +kernel
theorem dX9_back_35 : decode cX9_back 35 = .ok (.aload_n 0, 1) := by decide +kernel
theorem dX9_back_36 : decode cX9_back 36 = .ok (.getfield 49, 3) := by decide +kernel
theorem dX9_back_39 : decode cX9_back 39 = .ok (.iconst 0, 1) := by decide +kernel
theorem dX9_back_40 : decode cX9_back 40 = .ok (.putfield 102, 3) := by decide +kernel
theorem dX9_back_43 : decode cX9_back 43 = .ok (.aload_n 0, 1) := by decide +kernel
theorem dX9_back_44 : decode cX9_back 44 = .ok (.getfield 35, 3) := by decide +kernel
theorem dX9_back_47 : decode cX9_back 47 = .ok (.getfield 100, 3) := by decide +kernel
theorem dX9_back_50 : decode cX9_back 50 = .ok (.ireturn, 1) := by decide +kernel
theorem dX9_count_0 : decode cX9_count 0 = .ok (.iload_n 1, 1) := by decide +kernel
theorem dX9_count_1 : decode cX9_count 1 = .ok (.tableswitch 132 0 8 #[51, 62, 73, 84, 92, 100, 108, 116, 124], 51) := by decide +kernel
theorem dX9_count_52 : decode cX9_count 52 = .ok (.aload_n 0, 1) := by decide +kernel
theorem dX9_count_53 : decode cX9_count 53 = .ok (.getfield 60, 3) := by decide +kernel
theorem dX9_count_56 : decode cX9_count 56 = .ok (.getfield 113, 3) := by decide +kernel
theorem dX9_count_59 : decode cX9_count 59 = .ok (.getfield 237, 3) := by decide +kernel
theorem dX9_count_62 : decode cX9_count 62 = .ok (.ireturn, 1) := by decide +kernel
theorem dX9_count_63 : decode cX9_count 63 = .ok (.aload_n 0, 1) := by decide +kernel
theorem dX9_count_64 : decode cX9_count 64 = .ok (.getfield 60, 3) := by decide +kernel
theorem dX9_count_67 : decode cX9_count 67 = .ok (.getfield 106, 3) := by decide +kernel
theorem dX9_count_70 : decode cX9_count 70 = .ok (.getfield 110, 3) := by decide +kernel
theorem dX9_count_73 : decode cX9_count 73 = .ok (.ireturn, 1) := by decide +kernel
theorem dX9_count_74 : decode cX9_count 74 = .ok (.aload_n 0, 1) := by decide +kernel
theorem dX9_count_75 : decode cX9_count 75 = .ok (.getfield 60, 3) := by decide +kernel
theorem dX9_count_78 : decode cX9_count 78 = .ok (.getfield 113, 3) := by decide +kernel
theorem dX9_count_81 : decode cX9_count 81 = .ok (.getfield 280, 3) := by decide +kernel
theorem dX9_count_84 : decode cX9_count 84 = .ok (.ireturn, 1) := by decide +kernel
theorem dX9_count_85 : decode cX9_count 85 = .ok (.aload_n 0, 1) := by decide +kernel
theorem dX9_count_86 : decode cX9_count 86 = .ok (.getfield 60, 3) := by decide +kernel
theorem dX9_count_89 : decode cX9_count 89 = .ok (.getfield 283, 3) := by decide +kernel
theorem dX9_count_92 : decode cX9_count 92 = .ok (.ireturn, 1) := by decide +kernel
theorem dX9_count_93 : decode cX9_count 93 = .ok (.aload_n 0, 1) := by decide +kernel
theorem dX9_count_94 : decode cX9_count 94 = .ok (.getfield 60, 3) := by decide +kernel
theorem dX9_count_97 : decode cX9_count 97 = .ok (.getfield 221, 3) := by decide +kernel
theorem dX9_count_100 : decode cX9_count 100 = .ok (.ireturn, 1) := by decide +kernel
theorem dX9_count_101 : decode cX9_count 101 = .ok (.aload_n 0, 1) := by decide +kernel
theorem dX9_count_102 : decode cX9_count 102 = .ok (.getfield 42, 3) := by decide +kernel
theorem dX9_count_105 : decode cX9_count 105 = .ok (.getfield 101, 3) := by decide +kernel
theorem dX9_count_108 : decode cX9_count 108 = .ok (.ireturn, 1) := by decide +kernel
theorem dX9_count_109 : decode cX9_count 109 = .ok (.aload_n 0, 1) := by decide +kernel
theorem dX9_count_110 : decode cX9_count 110 = .ok (.getfield 28, 3) := by decide +kernel
theorem dX9_count_113 : decode cX9_count 113 = .ok (.getfield 99, 3) := by decide +kernel
theorem dX9_count_116 : decode cX9_count 116 = .ok (.ireturn, 1) := by decide +kernel
theorem dX9_count_117 : decode cX9_count 117 = .ok (.aload_n 0, 1) := by decide +kernel
theorem dX9_count_118 : decode cX9_count 118 = .ok (.getfield 35, 3) := by decide +kernel
theorem dX9_count_121 : decode cX9_count 121 = .ok (.getfield 100, 3) := by decide +kernel
theorem dX9_count_124 : decode cX9_count 124 = .ok (.ireturn, 1) := by decide +kernel
theorem dX9_count_125 : decode cX9_count 125 = .ok (.aload_n 0, 1) := by decide +kernel
theorem dX9_count_126 : decode cX9_count 126 = .ok (.getfield 12, 3) := by decide +kernel
theorem dX9_count_129 : decode cX9_count 129 = .ok (.getfield 87, 3) := by decide +kernel
theorem dX9_count_132 : decode cX9_count 132 = .ok (.ireturn, 1) := by decide +kernel
theorem dX9_count_133 : decode cX9_count 133 = .ok (.iconst (-1), 1) := by decide +kernel
theorem dX9_count_134 : decode cX9_count 134 = .ok (.ireturn, 1) := by decide +kernel
theorem dX9_isWithin_0 : decode cX9_isWithin 0 = .ok (.iload_n 0, 1) := by decide +kernel
theorem dX9_isWithin_1 : decode cX9_isWithin 1 = .ok (.iload_n 1, 1) := by decide +kernel
theorem dX9_isWithin_2 : decode cX9_isWithin 2 = .ok (.if_icmp .lt 12, 3) := by decide +kernel
theorem dX9_isWithin_5 : decode cX9_isWithin 5 = .ok (.iload_n 0, 1) := by decide +kernel
theorem dX9_isWithin_6 : decode cX9_isWithin 6 = .ok (.iload_n 2, 1) := by decide +kernel
theorem dX9_isWithin_7 : decode cX9_isWithin 7 = .ok (.if_icmp .gt 7, 3) := by decide +kernel
theorem dX9_isWithin_10 : decode cX9_isWithin 10 = .ok (.iconst 1, 1) := by decide +kernel
theorem dX9_isWithin_11 : decode cX9_isWithin 11 = .ok (.goto 4, 3) := by decide +kernel
theorem dX9_isWithin_14 : decode cX9_isWithin 14 = .ok (.iconst 0, 1) := by decide +kernel
theorem dX9_isWithin_15 : decode cX9_isWithin 15 = .ok (.ireturn, 1) := by decide +kernel
theorem dX9_isNight_0 : decode cX9_isNight 0 = .ok (.iload_n 0, 1) := by decide +kernel
theorem dX9_isNight_1 : decode cX9_isNight 1 = .ok (.iconst 0, 1) := by decide +kernel
theorem dX9_isNight_2 : decode cX9_isNight 2 = .ok (.bipush 29, 2) := by decide +kernel
theorem dX9_isNight_4 : decode cX9_isNight 4 = .ok (.invokestatic 91, 3) := by decide +kernel
theorem dX9_isNight_7 : decode cX9_isNight 7 = .ok (.ireturn, 1) := by decide +kernel
theorem dX9_isLength_0 : decode cX9_isLength 0 = .ok (.iload_n 0, 1) := by decide +kernel
theorem dX9_isLength_1 : decode cX9_isLength 1 = .ok (.bipush 40, 2) := by decide +kernel
theorem dX9_isLength_3 : decode cX9_isLength 3 = .ok (.bipush 99, 2) := by decide +kernel
theorem dX9_isLength_5 : decode cX9_isLength 5 = .ok (.invokestatic 91, 3) := by decide +kernel
theorem dX9_isLength_8 : decode cX9_isLength 8 = .ok (.ireturn, 1) := by decide +kernel
theorem dX9_isIn_0 : decode cX9_isIn 0 = .ok (.iload_n 0, 1) := by decide +kernel
theorem dX9_isIn_1 : decode cX9_isIn 1 = .ok (.iload_n 1, 1) := by decide +kernel
theorem dX9_isIn_2 : decode cX9_isIn 2 = .ok (.ishr, 1) := by decide +kernel
theorem dX9_isIn_3 : decode cX9_isIn 3 = .ok (.iconst 1, 1) := by decide +kernel
theorem dX9_isIn_4 : decode cX9_isIn 4 = .ok (.iand, 1) := by decide +kernel
theorem dX9_isIn_5 : decode cX9_isIn 5 = .ok (.iconst 1, 1) := by decide +kernel
theorem dX9_isIn_6 : decode cX9_isIn 6 = .ok (.if_icmp .ne 7, 3) := by decide +kernel
theorem dX9_isIn_9 : decode cX9_isIn 9 = .ok (.iconst 1, 1) := by decide +kernel
theorem dX9_isIn_10 : decode cX9_isIn 10 = .ok (.goto 4, 3) := by decide +kernel
theorem dX9_isIn_13 : decode cX9_isIn 13 = .ok (.iconst 0, 1) := by decide +kernel
theorem dX9_isIn_14 : decode cX9_isIn 14 = .ok (.ireturn, 1) := by decide +kernel
theorem dX9_noteChange_0 : decode cX9_noteChange 0 = .ok (.aload_n 0, 1) := by decide +kernel
theorem dX9_noteChange_1 : decode cX9_noteChange 1 = .ok (.getfield 28, 3) := by decide +kernel
theorem dX9_noteChange_4 : decode cX9_noteChange 4 = .ok (.iload_n 1, 1) := by decide +kernel
theorem dX9_noteChange_5 : decode cX9_noteChange 5 = .ok (.iload_n 2, 1) := by decide +kernel
theorem dX9_noteChange_6 : decode cX9_noteChange 6 = .ok (.iload_n 3, 1) := by decide +kernel
theorem dX9_noteChange_7 : decode cX9_noteChange 7 = .ok (.invokevirtual 286, 3) := by decide +kernel
theorem dX9_noteChange_10 : decode cX9_noteChange 10 = .ok (.aload_n 0, 1) := by decide +kernel
theorem dX9_noteChange_11 : decode cX9_noteChange 11 = .ok (.getfield 49, 3) := by decide +kernel
theorem dX9_noteChange_14 : decode cX9_noteChange 14 = .ok (.iconst 0, 1) := by decide +kernel
theorem dX9_noteChange_15 : decode cX9_noteChange 15 = .ok (.putfield 102, 3) := by decide +kernel
theorem dX9_noteChange_18 : decode cX9_noteChange 18 = .ok (.return_, 1) := by decide +kernel
theorem dX9_sumBelow_0 : decode cX9_sumBelow 0 = .ok (.aload_n 0, 1) := by decide +kernel
theorem dX9_sumBelow_1 : decode cX9_sumBelow 1 = .ok (.getfield 21, 3) := by decide +kernel
theorem dX9_sumBelow_4 : decode cX9_sumBelow 4 = .ok (.aload_n 0, 1) := by decide +kernel
theorem dX9_sumBelow_5 : decode cX9_sumBelow 5 = .ok (.getfield 60, 3) := by decide +kernel
theorem dX9_sumBelow_8 : decode cX9_sumBelow 8 = .ok (.iload_n 1, 1) := by decide +kernel
theorem dX9_sumBelow_9 : decode cX9_sumBelow 9 = .ok (.invokevirtual 155, 3) := by decide +kernel
theorem dX9_sumBelow_12 : decode cX9_sumBelow 12 = .ok (.aload_n 0, 1) := by decide +kernel
theorem dX9_sumBelow_13 : decode cX9_sumBelow 13 = .ok (.getfield 21, 3) := by decide +kernel
theorem dX9_sumBelow_16 : decode cX9_sumBelow 16 = .ok (.aload_n 0, 1) := by decide +kernel
theorem dX9_sumBelow_17 : decode cX9_sumBelow 17 = .ok (.getfield 60, 3) := by decide +kernel
theorem dX9_sumBelow_20 : decode cX9_sumBelow 20 = .ok (.getfield 106, 3) := by decide +kernel
theorem dX9_sumBelow_23 : decode cX9_sumBelow 23 = .ok (.invokevirtual 177, 3) := by decide +kernel
theorem dX9_sumBelow_26 : decode cX9_sumBelow 26 = .ok (.ireturn, 1) := by decide +kernel
theorem dX9_noteHarmsNow_0 : decode cX9_noteHarmsNow 0 = .ok (.aload_n 0, 1) := by decide +kernel
theorem dX9_noteHarmsNow_1 : decode cX9_noteHarmsNow 1 = .ok (.getfield 21, 3) := by decide +kernel
theorem dX9_noteHarmsNow_4 : decode cX9_noteHarmsNow 4 = .ok (.aload_n 0, 1) := by decide +kernel
theorem dX9_noteHarmsNow_5 : decode cX9_noteHarmsNow 5 = .ok (.getfield 60, 3) := by decide +kernel
theorem dX9_noteHarmsNow_8 : decode cX9_noteHarmsNow 8 = .ok (.ldc 154, 2) := by decide +kernel
theorem dX9_noteHarmsNow_10 : decode cX9_noteHarmsNow 10 = .ok (.invokevirtual 155, 3) := by decide +kernel
theorem dX9_noteHarmsNow_13 : decode cX9_noteHarmsNow 13 = .ok (.aload_n 0, 1) := by decide +kernel
theorem dX9_noteHarmsNow_14 : decode cX9_noteHarmsNow 14 = .ok (.getfield 21, 3) := by decide +kernel
theorem dX9_noteHarmsNow_17 : decode cX9_noteHarmsNow 17 = .ok (.getfield 168, 3) := by decide +kernel
theorem dX9_noteHarmsNow_20 : decode cX9_noteHarmsNow 20 = .ok (.iconst 0, 1) := by decide +kernel
theorem dX9_noteHarmsNow_21 : decode cX9_noteHarmsNow 21 = .ok (.aload_n 0, 1) := by decide +kernel
theorem dX9_noteHarmsNow_22 : decode cX9_noteHarmsNow 22 = .ok (.getfield 53, 3) := by decide +kernel
theorem dX9_noteHarmsNow_25 : decode cX9_noteHarmsNow 25 = .ok (.iconst 0, 1) := by decide +kernel
theorem dX9_noteHarmsNow_26 : decode cX9_noteHarmsNow 26 = .ok (.bipush 7, 2) := by decide +kernel
theorem dX9_noteHarmsNow_28 : decode cX9_noteHarmsNow 28 = .ok (.invokestatic 289, 3) := by decide +kernel
theorem dX9_noteHarmsNow_31 : decode cX9_noteHarmsNow 31 = .ok (.aload_n 0, 1) := by decide +kernel
theorem dX9_noteHarmsNow_32 : decode cX9_noteHarmsNow 32 = .ok (.getfield 21, 3) := by decide +kernel
theorem dX9_noteHarmsNow_35 : decode cX9_noteHarmsNow 35 = .ok (.getfield 181, 3) := by decide +kernel
theorem dX9_noteHarmsNow_38 : decode cX9_noteHarmsNow 38 = .ok (.ireturn, 1) := by decide +kernel
theorem dX9_wouldSwap_0 : decode cX9_wouldSwap 0 = .ok (.aload_n 0, 1) := by decide +kernel
theorem dX9_wouldSwap_1 : decode cX9_wouldSwap 1 = .ok (.getfield 60, 3) := by decide +kernel
theorem dX9_wouldSwap_4 : decode cX9_wouldSwap 4 = .ok (.getfield 106, 3) := by decide +kernel
theorem dX9_wouldSwap_7 : decode cX9_wouldSwap 7 = .ok (.iload_n 1, 1) := by decide +kernel
theorem dX9_wouldSwap_8 : decode cX9_wouldSwap 8 = .ok (.iload_n 2, 1) := by decide +kernel
theorem dX9_wouldSwap_9 : decode cX9_wouldSwap 9 = .ok (.invokevirtual 295, 3) := by decide +kernel
theorem dX9_wouldSwap_12 : decode cX9_wouldSwap 12 = .ok (.aload_n 0, 1) := by decide +kernel
theorem dX9_wouldSwap_13 : decode cX9_wouldSwap 13 = .ok (.getfield 21, 3) := by decide +kernel
theorem dX9_wouldSwap_16 : decode cX9_wouldSwap 16 = .ok (.aload_n 0, 1) := by decide +kernel
theorem dX9_wouldSwap_17 : decode cX9_wouldSwap 17 = .ok (.getfield 60, 3) := by decide +kernel
theorem dX9_wouldSwap_20 : decode cX9_wouldSwap 20 = .ok (.ldc 154, 2) := by decide +kernel
theorem dX9_wouldSwap_22 : decode cX9_wouldSwap 22 = .ok (.invokevirtual 155, 3) := by decide +kernel
theorem dX9_wouldSwap_25 : decode cX9_wouldSwap 25 = .ok (.aload_n 0, 1) := by decide +kernel
theorem dX9_wouldSwap_26 : decode cX9_wouldSwap 26 = .ok (.getfield 60, 3) := by decide +kernel
theorem dX9_wouldSwap_29 : decode cX9_wouldSwap 29 = .ok (.getfield 106, 3) := by decide +kernel
theorem dX9_wouldSwap_32 : decode cX9_wouldSwap 32 = .ok (.iload_n 1, 1) := by decide +kernel
theorem dX9_wouldSwap_33 : decode cX9_wouldSwap 33 = .ok (.iload_n 2, 1) := by decide +kernel
theorem dX9_wouldSwap_34 : decode cX9_wouldSwap 34 = .ok (.invokevirtual 295, 3) := by decide +kernel
theorem dX9_wouldSwap_37 : decode cX9_wouldSwap 37 = .ok (.aload_n 0, 1) := by decide +kernel
theorem dX9_wouldSwap_38 : decode cX9_wouldSwap 38 = .ok (.getfield 21, 3) := by decide +kernel
theorem dX9_wouldSwap_41 : decode cX9_wouldSwap 41 = .ok (.iload_n 1, 1) := by decide +kernel
theorem dX9_wouldSwap_42 : decode cX9_wouldSwap 42 = .ok (.invokevirtual 159, 3) := by decide +kernel
theorem dX9_wouldSwap_45 : decode cX9_wouldSwap 45 = .ok (.ifCond .eq 54, 3) := by decide +kernel
theorem dX9_wouldSwap_48 : decode cX9_wouldSwap 48 = .ok (.aload_n 0, 1) := by decide +kernel
theorem dX9_wouldSwap_49 : decode cX9_wouldSwap 49 = .ok (.getfield 21, 3) := by decide +kernel
theorem dX9_wouldSwap_52 : decode cX9_wouldSwap 52 = .ok (.iload_n 2, 1) := by decide +kernel
theorem dX9_wouldSwap_53 : decode cX9_wouldSwap 53 = .ok (.invokevirtual 159, 3) := by decide +kernel
theorem dX9_wouldSwap_56 : decode cX9_wouldSwap 56 = .ok (.ifCond .eq 43, 3) := by decide +kernel
theorem dX9_wouldSwap_59 : decode cX9_wouldSwap 59 = .ok (.aload_n 0, 1) := by decide +kernel
theorem dX9_wouldSwap_60 : decode cX9_wouldSwap 60 = .ok (.getfield 21, 3) := by decide +kernel
theorem dX9_wouldSwap_63 : decode cX9_wouldSwap 63 = .ok (.getfield 168, 3) := by decide +kernel
theorem dX9_wouldSwap_66 : decode cX9_wouldSwap 66 = .ok (.iload_n 1, 1) := by decide +kernel
theorem dX9_wouldSwap_67 : decode cX9_wouldSwap 67 = .ok (.iaload, 1) := by decide +kernel
theorem dX9_wouldSwap_68 : decode cX9_wouldSwap 68 = .ok (.aload_n 0, 1) := by decide +kernel
theorem dX9_wouldSwap_69 : decode cX9_wouldSwap 69 = .ok (.getfield 53, 3) := by decide +kernel
theorem dX9_wouldSwap_72 : decode cX9_wouldSwap 72 = .ok (.iload_n 1, 1) := by decide +kernel
theorem dX9_wouldSwap_73 : decode cX9_wouldSwap 73 = .ok (.iaload, 1) := by decide +kernel
theorem dX9_wouldSwap_74 : decode cX9_wouldSwap 74 = .ok (.if_icmp .ge 25, 3) := by decide +kernel
theorem dX9_wouldSwap_77 : decode cX9_wouldSwap 77 = .ok (.aload_n 0, 1) := by decide +kernel
theorem dX9_wouldSwap_78 : decode cX9_wouldSwap 78 = .ok (.getfield 21, 3) := by decide +kernel
theorem dX9_wouldSwap_81 : decode cX9_wouldSwap 81 = .ok (.getfield 168, 3) := by decide +kernel
theorem dX9_wouldSwap_84 : decode cX9_wouldSwap 84 = .ok (.iload_n 2, 1) := by decide +kernel
theorem dX9_wouldSwap_85 : decode cX9_wouldSwap 85 = .ok (.iaload, 1) := by decide +kernel
theorem dX9_wouldSwap_86 : decode cX9_wouldSwap 86 = .ok (.aload_n 0, 1) := by decide +kernel
theorem dX9_wouldSwap_87 : decode cX9_wouldSwap 87 = .ok (.getfield 53, 3) := by decide +kernel
theorem dX9_wouldSwap_90 : decode cX9_wouldSwap 90 = .ok (.iload_n 2, 1) := by decide +kernel
theorem dX9_wouldSwap_91 : decode cX9_wouldSwap 91 = .ok (.iaload, 1) := by decide +kernel
theorem dX9_wouldSwap_92 : decode cX9_wouldSwap 92 = .ok (.if_icmp .ge 7, 3) := by decide +kernel
theorem dX9_wouldSwap_95 : decode cX9_wouldSwap 95 = .ok (.iconst 1, 1) := by decide +kernel
theorem dX9_wouldSwap_96 : decode cX9_wouldSwap 96 = .ok (.goto 4, 3) := by decide +kernel
theorem dX9_wouldSwap_99 : decode cX9_wouldSwap 99 = .ok (.iconst 0, 1) := by decide +kernel
theorem dX9_wouldSwap_100 : decode cX9_wouldSwap 100 = .ok (.ireturn, 1) := by decide +kernel
theorem dX10_init_0 : decode cX10_init 0 = .ok (.aload_n 0, 1) := by decide +kernel
theorem dX10_init_1 : decode cX10_init 1 = .ok (.invokespecial 1, 3) := by decide +kernel
theorem dX10_init_4 : decode cX10_init 4 = .ok (.aload_n 0, 1) := by decide +kernel
theorem dX10_init_5 : decode cX10_init 5 = .ok (.iconst 4, 1) := by decide +kernel
theorem dX10_init_6 : decode cX10_init 6 = .ok (.newarray .int, 2) := by decide +kernel
theorem dX10_init_8 : decode cX10_init 8 = .ok (.putfield 7, 3) := by decide +kernel
theorem dX10_init_11 : decode cX10_init 11 = .ok (.aload_n 0, 1) := by decide +kernel
theorem dX10_init_12 : decode cX10_init 12 = .ok (.iconst 2, 1) := by decide +kernel
theorem dX10_init_13 : decode cX10_init 13 = .ok (.putfield 13, 3) := by decide +kernel
theorem dX10_init_16 : decode cX10_init 16 = .ok (.aload_n 0, 1) := by decide +kernel
theorem dX10_init_17 : decode cX10_init 17 = .ok (.bipush 30, 2) := by decide +kernel
theorem dX10_init_19 : decode cX10_init 19 = .ok (.newarray .int, 2) := by decide +kernel
theorem dX10_init_21 : decode cX10_init 21 = .ok (.putfield 17, 3) := by decide +kernel
theorem dX10_init_24 : decode cX10_init 24 = .ok (.aload_n 0, 1) := by decide +kernel
theorem dX10_init_25 : decode cX10_init 25 = .ok (.bipush 7, 2) := by decide +kernel
theorem dX10_init_27 : decode cX10_init 27 = .ok (.newarray .int, 2) := by decide +kernel
theorem dX10_init_29 : decode cX10_init 29 = .ok (.putfield 20, 3) := by decide +kernel
theorem dX10_init_32 : decode cX10_init 32 = .ok (.aload_n 0, 1) := by decide +kernel
theorem dX10_init_33 : decode cX10_init 33 = .ok (.bipush 7, 2) := by decide +kernel
theorem dX10_init_35 : decode cX10_init 35 = .ok (.newarray .int, 2) := by decide +kernel
theorem dX10_init_37 : decode cX10_init 37 = .ok (.putfield 23, 3) := by decide +kernel
theorem dX10_init_40 : decode cX10_init 40 = .ok (.aload_n 0, 1) := by decide +kernel
theorem dX10_init_41 : decode cX10_init 41 = .ok (.bipush 7, 2) := by decide +kernel
theorem dX10_init_43 : decode cX10_init 43 = .ok (.newarray .int, 2) := by decide +kernel
theorem dX10_init_45 : decode cX10_init 45 = .ok (.putfield 26, 3) := by decide +kernel
theorem dX10_init_48 : decode cX10_init 48 = .ok (.aload_n 0, 1) := by decide +kernel
theorem dX10_init_49 : decode cX10_init 49 = .ok (.iconst 3, 1) := by decide +kernel
theorem dX10_init_50 : decode cX10_init 50 = .ok (.putfield 29, 3) := by decide +kernel
theorem dX10_init_53 : decode cX10_init 53 = .ok (.aload_n 0, 1) := by decide +kernel
theorem dX10_init_54 : decode cX10_init 54 = .ok (.iconst 4, 1) := by decide +kernel
theorem dX10_init_55 : decode cX10_init 55 = .ok (.newarray .int, 2) := by decide +kernel
theorem dX10_init_57 : decode cX10_init 57 = .ok (.putfield 32, 3) := by decide +kernel
theorem dX10_init_60 : decode cX10_init 60 = .ok (.aload_n 0, 1) := by decide +kernel
theorem dX10_init_61 : decode cX10_init 61 = .ok (.iconst 1, 1) := by decide +kernel
theorem dX10_init_62 : decode cX10_init 62 = .ok (.putfield 35, 3) := by decide +kernel
theorem dX10_init_65 : decode cX10_init 65 = .ok (.aload_n 0, 1) := by decide +kernel
theorem dX10_init_66 : decode cX10_init 66 = .ok (.bipush 21, 2) := by decide +kernel
theorem dX10_init_68 : decode cX10_init 68 = .ok (.newarray .int, 2) := by decide +kernel
theorem dX10_init_70 : decode cX10_init 70 = .ok (.putfield 38, 3) := by decide +kernel
theorem dX10_init_73 : decode cX10_init 73 = .ok (.aload_n 0, 1) := by decide +kernel
theorem dX10_init_74 : decode cX10_init 74 = .ok (.sipush 200, 3) := by decide +kernel
theorem dX10_init_77 : decode cX10_init 77 = .ok (.newarray .int, 2) := by decide +kernel
theorem dX10_init_79 : decode cX10_init 79 = .ok (.putfield 41, 3) := by decide +kernel
theorem dX10_init_82 : decode cX10_init 82 = .ok (.aload_n 0, 1) := by decide +kernel
theorem dX10_init_83 : decode cX10_init 83 = .ok (.iconst 3, 1) := by decide +kernel
theorem dX10_init_84 : decode cX10_init 84 = .ok (.newarray .int, 2) := by decide +kernel
theorem dX10_init_86 : decode cX10_init 86 = .ok (.putfield 44, 3) := by decide +kernel
theorem dX10_init_89 : decode cX10_init 89 = .ok (.aload_n 0, 1) := by decide +kernel
theorem dX10_init_90 : decode cX10_init 90 = .ok (.iconst 4, 1) := by decide +kernel
theorem dX10_init_91 : decode cX10_init 91 = .ok (.newarray .int, 2) := by decide +kernel
theorem dX10_init_93 : decode cX10_init 93 = .ok (.putfield 47, 3) := by decide +kernel
theorem dX10_init_96 : decode cX10_init 96 = .ok (.aload_n 0, 1) := by decide +kernel
theorem dX10_init_97 : decode cX10_init 97 = .ok (.bipush 30, 2) := by decide +kernel
theorem dX10_init_99 : decode cX10_init 99 = .ok (.newarray .int, 2) := by decide +kernel
theorem dX10_init_101 : decode cX10_init 101 = .ok (.putfield 50, 3) := by decide +kernel
theorem dX10_init_104 : decode cX10_init 104 = .ok (.aload_n 0, 1) := by decide +kernel
theorem dX10_init_105 : decode cX10_init 105 = .ok (.bipush 21, 2) := by decide +kernel
theorem dX10_init_107 : decode cX10_init 107 = .ok (.newarray .int, 2) := by decide +kernel
theorem dX10_init_109 : decode cX10_init 109 = .ok (.putfield 53, 3) := by decide +kernel
theorem dX10_init_112 : decode cX10_init 112 = .ok (.aload_n 0, 1) := by decide +kernel
theorem dX10_init_113 : decode cX10_init 113 = .ok (.bipush 7, 2) := by decide +kernel
theorem dX10_init_115 : decode cX10_init 115 = .ok (.newarray .int, 2) := by decide +kernel
theorem dX10_init_117 : decode cX10_init 117 = .ok (.putfield 56, 3) := by decide +kernel
theorem dX10_init_120 : decode cX10_init 120 = .ok (.aload_n 0, 1) := by decide +kernel
theorem dX10_init_121 : decode cX10_init 121 = .ok (.iconst 4, 1) := by decide +kernel
theorem dX10_init_122 : decode cX10_init 122 = .ok (.newarray .int, 2) := by decide +kernel
theorem dX10_init_124 : decode cX10_init 124 = .ok (.putfield 59, 3) := by decide +kernel
theorem dX10_init_127 : decode cX10_init 127 = .ok (.aload_n 0, 1) := by decide +kernel
theorem dX10_init_128 : decode cX10_init 128 = .ok (.iconst (-1), 1) := by decide +kernel
theorem dX10_init_129 : decode cX10_init 129 = .ok (.putfield 62, 3) := by decide +kernel
theorem dX10_init_132 : decode cX10_init 132 = .ok (.aload_n 0, 1) := by decide +kernel
theorem dX10_init_133 : decode cX10_init 133 = .ok (.bipush 7, 2) := by decide +kernel
theorem dX10_init_135 : decode cX10_init 135 = .ok (.newarray .int, 2) := by decide +kernel
theorem dX10_init_137 : decode cX10_init 137 = .ok (.putfield 65, 3) := by decide +kernel
theorem dX10_init_140 : decode cX10_init 140 = .ok (.aload_n 0, 1) := by decide +kernel
theorem dX10_init_141 : decode cX10_init 141 = .ok (.bipush 7, 2) := by decide +kernel
theorem dX10_init_143 : decode cX10_init 143 = .ok (.newarray .int, 2) := by decide +kernel
theorem dX10_init_145 : decode cX10_init 145 = .ok (.putfield 68, 3) := by decide +kernel
theorem dX10_init_148 : decode cX10_init 148 = .ok (.aload_n 0, 1) := by decide +kernel
theorem dX10_init_149 : decode cX10_init 149 = .ok (.bipush 7, 2) := by decide +kernel
theorem dX10_init_151 : decode cX10_init 151 = .ok (.newarray .int, 2) := by decide +kernel
theorem dX10_init_153 : decode cX10_init 153 = .ok (.putfield 71, 3) := by decide +kernel
theorem dX10_init_156 : decode cX10_init 156 = .ok (.aload_n 0, 1) := by decide +kernel
theorem dX10_init_157 : decode cX10_init 157 = .ok (.bipush 7, 2) := by decide +kernel
theorem dX10_init_159 : decode cX10_init 159 = .ok (.newarray .int, 2) := by decide +kernel
theorem dX10_init_161 : decode cX10_init 161 = .ok (.putfield 74, 3) := by decide +kernel
theorem dX10_init_164 : decode cX10_init 164 = .ok (.aload_n 0, 1) := by decide +kernel
theorem dX10_init_165 : decode cX10_init 165 = .ok (.bipush 7, 2) := by decide +kernel
theorem dX10_init_167 : decode cX10_init 167 = .ok (.newarray .int, 2) := by decide +kernel
theorem dX10_init_169 : decode cX10_init 169 = .ok (.putfield 77, 3) := by decide +kernel
theorem dX10_init_172 : decode cX10_init 172 = .ok (.aload_n 0, 1) := by decide +kernel
theorem dX10_init_173 : decode cX10_init 173 = .ok (.sipush 168, 3) := by decide +kernel
theorem dX10_init_176 : decode cX10_init 176 = .ok (.newarray .int, 2) := by decide +kernel
theorem dX10_init_178 : decode cX10_init 178 = .ok (.putfield 80, 3) := by decide +kernel
theorem dX10_init_181 : decode cX10_init 181 = .ok (.aload_n 0, 1) := by decide +kernel
theorem dX10_init_182 : decode cX10_init 182 = .ok (.bipush 7, 2) := by decide +kernel
theorem dX10_init_184 : decode cX10_init 184 = .ok (.newarray .int, 2) := by decide +kernel
theorem dX10_init_186 : decode cX10_init 186 = .ok (.putfield 83, 3) := by decide +kernel
theorem dX10_init_189 : decode cX10_init 189 = .ok (.aload_n 0, 1) := by decide +kernel
theorem dX10_init_190 : decode cX10_init 190 = .ok (.bipush 7, 2) := by decide +kernel
theorem dX10_init_192 : decode cX10_init 192 = .ok (.newarray .int, 2) := by decide +kernel
theorem dX10_init_194 : decode cX10_init 194 = .ok (.putfield 86, 3) := by decide +kernel
theorem dX10_init_197 : decode cX10_init 197 = .ok (.aload_n 0, 1) := by decide +kernel
theorem dX10_init_198 : decode cX10_init 198 = .ok (.bipush 18, 2) := by decide +kernel
theorem dX10_init_200 : decode cX10_init 200 = .ok (.newarray .int, 2) := by decide +kernel
theorem dX10_init_202 : decode cX10_init 202 = .ok (.putfield 89, 3) := by decide +kernel
theorem dX10_init_205 : decode cX10_init 205 = .ok (.aload_n 0, 1) := by decide +kernel
theorem dX10_init_206 : decode cX10_init 206 = .ok (.sipush 128, 3) := by decide +kernel
theorem dX10_init_209 : decode cX10_init 209 = .ok (.newarray .int, 2) := by decide +kernel
theorem dX10_init_211 : decode cX10_init 211 = .ok (.putfield 92, 3) := by decide +kernel
theorem dX10_init_214 : decode cX10_init 214 = .ok (.aload_n 0, 1) := by decide +kernel
theorem dX10_init_215 : decode cX10_init 215 = .ok (.sipush 128, 3) := by decide +kernel
theorem dX10_init_218 : decode cX10_init 218 = .ok (.newarray .int, 2) := by decide +kernel
theorem dX10_init_220 : decode cX10_init 220 = .ok (.putfield 95, 3) := by decide +kernel
theorem dX10_init_223 : decode cX10_init 223 = .ok (.aload_n 0, 1) := by decide +kernel
theorem dX10_init_224 : decode cX10_init 224 = .ok (.bipush 42, 2) := by decide +kernel
theorem dX10_init_226 : decode cX10_init 226 = .ok (.newarray .int, 2) := by decide +kernel
theorem dX10_init_228 : decode cX10_init 228 = .ok (.putfield 98, 3) := by decide +kernel
theorem dX10_init_231 : decode cX10_init 231 = .ok (.aload_n 0, 1) := by decide +kernel
theorem dX10_init_232 : decode cX10_init 232 = .ok (.getfield 7, 3) := by decide +kernel
theorem dX10_init_235 : decode cX10_init 235 = .ok (.iconst 0, 1) := by decide +kernel
theorem dX10_init_236 : decode cX10_init 236 = .ok (.bipush 60, 2) := by decide +kernel
theorem dX10_init_238 : decode cX10_init 238 = .ok (.iastore, 1) := by decide +kernel
theorem dX10_init_239 : decode cX10_init 239 = .ok (.aload_n 0, 1) := by decide +kernel
theorem dX10_init_240 : decode cX10_init 240 = .ok (.getfield 7, 3) := by decide +kernel
theorem dX10_init_243 : decode cX10_init 243 = .ok (.iconst 1, 1) := by decide +kernel
theorem dX10_init_244 : decode cX10_init 244 = .ok (.bipush 72, 2) := by decide +kernel
theorem dX10_init_246 : decode cX10_init 246 = .ok (.iastore, 1) := by decide +kernel
theorem dX10_init_247 : decode cX10_init 247 = .ok (.aload_n 0, 1) := by decide +kernel
theorem dX10_init_248 : decode cX10_init 248 = .ok (.getfield 20, 3) := by decide +kernel
theorem dX10_init_251 : decode cX10_init 251 = .ok (.iconst 0, 1) := by decide +kernel
theorem dX10_init_252 : decode cX10_init 252 = .ok (.bipush 66, 2) := by decide +kernel
theorem dX10_init_254 : decode cX10_init 254 = .ok (.iastore, 1) := by decide +kernel
theorem dX10_init_255 : decode cX10_init 255 = .ok (.aload_n 0, 1) := by decide +kernel
theorem dX10_init_256 : decode cX10_init 256 = .ok (.getfield 20, 3) := by decide +kernel
theorem dX10_init_259 : decode cX10_init 259 = .ok (.iconst 1, 1) := by decide +kernel
theorem dX10_init_260 : decode cX10_init 260 = .ok (.bipush 60, 2) := by decide +kernel
theorem dX10_init_262 : decode cX10_init 262 = .ok (.iastore, 1) := by decide +kernel
theorem dX10_init_263 : decode cX10_init 263 = .ok (.aload_n 0, 1) := by decide +kernel
theorem dX10_init_264 : decode cX10_init 264 = .ok (.getfield 20, 3) := by decide +kernel
theorem dX10_init_267 : decode cX10_init 267 = .ok (.iconst 2, 1) := by decide +kernel
theorem dX10_init_268 : decode cX10_init 268 = .ok (.bipush 75, 2) := by decide +kernel
theorem dX10_init_270 : decode cX10_init 270 = .ok (.iastore, 1) := by decide +kernel
theorem dX10_init_271 : decode cX10_init 271 = .ok (.aload_n 0, 1) := by decide +kernel
theorem dX10_init_272 : decode cX10_init 272 = .ok (.getfield 26, 3) := by decide +kernel
theorem dX10_init_275 : decode cX10_init 275 = .ok (.iconst 0, 1) := by decide +kernel
theorem dX10_init_276 : decode cX10_init 276 = .ok (.bipush 6, 2) := by decide +kernel
theorem dX10_init_278 : decode cX10_init 278 = .ok (.iastore, 1) := by decide +kernel
theorem dX10_init_279 : decode cX10_init 279 = .ok (.iconst 0, 1) := by decide +kernel
theorem dX10_init_280 : decode cX10_init 280 = .ok (.istore_n 1, 1) := by decide +kernel
theorem dX10_init_281 : decode cX10_init 281 = .ok (.iload_n 1, 1) := by decide +kernel
theorem dX10_init_282 : decode cX10_init 282 = .ok (.bipush 7, 2) := by decide +kernel
theorem dX10_init_284 : decode cX10_init 284 = .ok (.if_icmp .ge 16, 3) := by decide +kernel
theorem dX10_init_287 : decode cX10_init 287 = .ok (.aload_n 0, 1) := by decide +kernel
theorem dX10_init_288 : decode cX10_init 288 = .ok (.getfield 38, 3) := by decide +kernel
theorem dX10_init_291 : decode cX10_init 291 = .ok (.iload_n 1, 1) := by decide +kernel
theorem dX10_init_292 : decode cX10_init 292 = .ok (.iload_n 1, 1) := by decide +kernel
theorem dX10_init_293 : decode cX10_init 293 = .ok (.iastore, 1) := by decide +kernel
theorem dX10_init_294 : decode cX10_init 294 = .ok (.iinc 1 1, 3) := by decide +kernel
theorem dX10_init_297 : decode cX10_init 297 = .ok (.goto (-16), 3) := by decide +kernel
theorem dX10_init_300 : decode cX10_init 300 = .ok (.return_, 1) := by decide +kernel
theorem dX10_in_0 : decode cX10_in 0 = .ok (.lload_n 0, 1) := by decide +kernel
theorem dX10_in_1 : decode cX10_in 1 = .ok (.lload_n 2, 1) := by decide +kernel
theorem dX10_in_2 : decode cX10_in 2 = .ok (.lcmp, 1) := by decide +kernel
theorem dX10_in_3 : decode cX10_in 3 = .ok (.ifCond .lt 14, 3) := by decide +kernel
theorem dX10_in_6 : decode cX10_in 6 = .ok (.lload_n 0, 1) := by decide +kernel
theorem dX10_in_7 : decode cX10_in 7 = .ok (.lload 4, 2) := by decide +kernel
theorem dX10_in_9 : decode cX10_in 9 = .ok (.lcmp, 1) := by decide +kernel
theorem dX10_in_10 : decode cX10_in 10 = .ok (.ifCond .gt 7, 3) := by decide +kernel
theorem dX10_in_13 : decode cX10_in 13 = .ok (.iconst 1, 1) := by decide +kernel
theorem dX10_in_14 : decode cX10_in 14 = .ok (.goto 4, 3) := by decide +kernel
theorem dX10_in_17 : decode cX10_in 17 = .ok (.iconst 0, 1) := by decide +kernel
theorem dX10_in_18 : decode cX10_in 18 = .ok (.ireturn, 1) := by decide +kernel
theorem dX10_has_0 : decode cX10_has 0 = .ok (.iload_n 0, 1) := by decide +kernel
theorem dX10_has_1 : decode cX10_has 1 = .ok (.iload_n 1, 1) := by decide +kernel
theorem dX10_has_2 : decode cX10_has 2 = .ok (.ishr, 1) := by decide +kernel
theorem dX10_has_3 : decode cX10_has 3 = .ok (.iconst 1, 1) := by decide +kernel
theorem dX10_has_4 : decode cX10_has 4 = .ok (.iand, 1) := by decide +kernel
theorem dX10_has_5 : decode cX10_has 5 = .ok (.iconst 1, 1) := by decide +kernel
theorem dX10_has_6 : decode cX10_has 6 = .ok (.if_icmp .ne 7, 3) := by decide +kernel
theorem dX10_has_9 : decode cX10_has 9 = .ok (.iconst 1, 1) := by decide +kernel
theorem dX10_has_10 : decode cX10_has 10 = .ok (.goto 4, 3) := by decide +kernel
theorem dX10_has_13 : decode cX10_has 13 = .ok (.iconst 0, 1) := by decide +kernel
theorem dX10_has_14 : decode cX10_has 14 = .ok (.ireturn, 1) := by decide +kernel
theorem dX10_isBed_0 : decode cX10_isBed 0 = .ok (.iload_n 1, 1) := by decide +kernel
theorem dX10_isBed_1 : decode cX10_isBed 1 = .ok (.i2l, 1) := by decide +kernel
theorem dX10_isBed_2 : decode cX10_isBed 2 = .ok (.lconst 0, 1) := by decide +kernel
theorem dX10_isBed_3 : decode cX10_isBed 3 = .ok (.aload_n 0, 1) := by decide +kernel
theorem dX10_isBed_4 : decode cX10_isBed 4 = .ok (.getfield 13, 3) := by decide +kernel
theorem dX10_isBed_7 : decode cX10_isBed 7 = .ok (.iconst 1, 1) := by decide +kernel
theorem dX10_isBed_8 : decode cX10_isBed 8 = .ok (.isub, 1) := by decide +kernel
theorem dX10_isBed_9 : decode cX10_isBed 9 = .ok (.i2l, 1) := by decide +kernel
theorem dX10_isBed_10 : decode cX10_isBed 10 = .ok (.invokestatic 101, 3) := by decide +kernel
theorem dX10_isBed_13 : decode cX10_isBed 13 = .ok (.ireturn, 1) := by decide +kernel
theorem dX10_isGuest_0 : decode cX10_isGuest 0 = .ok (.iload_n 1, 1) := by decide +kernel
theorem dX10_isGuest_1 : decode cX10_isGuest 1 = .ok (.i2l, 1) := by decide +kernel
theorem dX10_isGuest_2 : decode cX10_isGuest 2 = .ok (.lconst 0, 1) := by decide +kernel
theorem dX10_isGuest_3 : decode cX10_isGuest 3 = .ok (.aload_n 0, 1) := by decide +kernel
theorem dX10_isGuest_4 : decode cX10_isGuest 4 = .ok (.getfield 29, 3) := by decide +kernel
theorem dX10_isGuest_7 : decode cX10_isGuest 7 = .ok (.iconst 1, 1) := by decide +kernel
theorem dX10_isGuest_8 : decode cX10_isGuest 8 = .ok (.isub, 1) := by decide +kernel
theorem dX10_isGuest_9 : decode cX10_isGuest 9 = .ok (.i2l, 1) := by decide +kernel
theorem dX10_isGuest_10 : decode cX10_isGuest 10 = .ok (.invokestatic 101, 3) := by decide +kernel
theorem dX10_isGuest_13 : decode cX10_isGuest 13 = .ok (.ireturn, 1) := by decide +kernel
theorem dX10_isNight_0 : decode cX10_isNight 0 = .ok (.iload_n 0, 1) := by decide +kernel
theorem dX10_isNight_1 : decode cX10_isNight 1 = .ok (.i2l, 1) := by decide +kernel
theorem dX10_isNight_2 : decode cX10_isNight 2 = .ok (.lconst 0, 1) := by decide +kernel
theorem dX10_isNight_3 : decode cX10_isNight 3 = .ok (.ldc2_w 105, 3) := by decide +kernel
theorem dX10_isNight_6 : decode cX10_isNight 6 = .ok (.invokestatic 101, 3) := by decide +kernel
theorem dX10_isNight_9 : decode cX10_isNight 9 = .ok (.ireturn, 1) := by decide +kernel
theorem dX10_write_0 : decode cX10_write 0 = .ok (.iload_n 1, 1) := by decide +kernel
theorem dX10_write_1 : decode cX10_write 1 = .ok (.i2l, 1) := by decide +kernel
theorem dX10_write_2 : decode cX10_write 2 = .ok (.ldc2_w 107, 3) := by decide +kernel
theorem dX10_write_5 : decode cX10_write 5 = .ok (.ldc2_w 109, 3) := by decide +kernel
theorem dX10_write_8 : decode cX10_write 8 = .ok (.invokestatic 101, 3) := by decide +kernel
theorem dX10_write_11 : decode cX10_write 11 = .ok (.ifCond .ne 5, 3) := by decide +kernel
theorem dX10_write_14 : decode cX10_write 14 = .ok (.iconst (-1), 1) := by decide +kernel
theorem dX10_write_15 : decode cX10_write 15 = .ok (.ireturn, 1) := by decide +kernel
theorem dX10_write_16 : decode cX10_write 16 = .ok (.aload_n 0, 1) := by decide +kernel
theorem dX10_write_17 : decode cX10_write 17 = .ok (.getfield 111, 3) := by decide +kernel
theorem dX10_write_20 : decode cX10_write 20 = .ok (.sipush 200, 3) := by decide +kernel
theorem dX10_write_23 : decode cX10_write 23 = .ok (.if_icmp .ne 6, 3) := by decide +kernel
theorem dX10_write_26 : decode cX10_write 26 = .ok (.bipush (-3), 2) := by decide +kernel
theorem dX10_write_28 : decode cX10_write 28 = .ok (.ireturn, 1) := by decide +kernel
theorem dX10_write_29 : decode cX10_write 29 = .ok (.aload_n 0, 1) := by decide +kernel
theorem dX10_write_30 : decode cX10_write 30 = .ok (.getfield 41, 3) := by decide +kernel
theorem dX10_write_33 : decode cX10_write 33 = .ok (.aload_n 0, 1) := by decide +kernel
theorem dX10_write_34 : decode cX10_write 34 = .ok (.getfield 111, 3) := by decide +kernel
theorem dX10_write_37 : decode cX10_write 37 = .ok (.iload_n 1, 1) := by decide +kernel
theorem dX10_write_38 : decode cX10_write 38 = .ok (.iastore, 1) := by decide +kernel
theorem dX10_write_39 : decode cX10_write 39 = .ok (.aload_n 0, 1) := by decide +kernel
theorem dX10_write_40 : decode cX10_write 40 = .ok (.dup, 1) := by decide +kernel
theorem dX10_write_41 : decode cX10_write 41 = .ok (.getfield 111, 3) := by decide +kernel
theorem dX10_write_44 : decode cX10_write 44 = .ok (.iconst 1, 1) := by decide +kernel
theorem dX10_write_45 : decode cX10_write 45 = .ok (.iadd, 1) := by decide +kernel
theorem dX10_write_46 : decode cX10_write 46 = .ok (.putfield 111, 3) := by decide +kernel
theorem dX10_write_49 : decode cX10_write 49 = .ok (.aload_n 0, 1) := by decide +kernel
theorem dX10_write_50 : decode cX10_write 50 = .ok (.getfield 111, 3) := by decide +kernel
theorem dX10_write_53 : decode cX10_write 53 = .ok (.ireturn, 1) := by decide +kernel
theorem dX10_wipe_0 : decode cX10_wipe 0 = .ok (.aload_n 0, 1) := by decide +kernel
theorem dX10_wipe_1 : decode cX10_wipe 1 = .ok (.getfield 111, 3) := by decide +kernel
theorem dX10_wipe_4 : decode cX10_wipe 4 = .ok (.istore_n 1, 1) := by decide +kernel
theorem dX10_wipe_5 : decode cX10_wipe 5 = .ok (.aload_n 0, 1) := by decide +kernel
theorem dX10_wipe_6 : decode cX10_wipe 6 = .ok (.iconst 0, 1) := by decide +kernel
theorem dX10_wipe_7 : decode cX10_wipe 7 = .ok (.putfield 111, 3) := by decide +kernel
theorem dX10_wipe_10 : decode cX10_wipe 10 = .ok (.iload_n 1, 1) := by decide +kernel
theorem dX10_wipe_11 : decode cX10_wipe 11 = .ok (.ireturn, 1) := by decide +kernel
theorem dX10_readNumber_0 : decode cX10_readNumber 0 = .ok (.aload_n 0, 1) := by decide +kernel
theorem dX10_readNumber_1 : decode cX10_readNumber 1 = .ok (.getfield 114, 3) := by decide +kernel
theorem dX10_readNumber_4 : decode cX10_readNumber 4 = .ok (.istore_n 2, 1) := by decide +kernel
theorem dX10_readNumber_5 : decode cX10_readNumber 5 = .ok (.iconst 0, 1) := by decide +kernel
theorem dX10_readNumber_6 : decode cX10_readNumber 6 = .ok (.istore_n 3, 1) := by decide +kernel
theorem dX10_readNumber_7 : decode cX10_readNumber 7 = .ok (.aload_n 0, 1) := by decide +kernel
theorem dX10_readNumber_8 : decode cX10_readNumber 8 = .ok (.getfield 114, 3) := by decide +kernel
theorem dX10_readNumber_11 : decode cX10_readNumber 11 = .ok (.aload_n 0, 1) := by decide +kernel
theorem dX10_readNumber_12 : decode cX10_readNumber 12 = .ok (.getfield 111, 3) := by decide +kernel
theorem dX10_readNumber_15 : decode cX10_readNumber 15 = .ok (.if_icmp .ge 66, 3) := by decide +kernel
theorem dX10_readNumber_18 : decode cX10_readNumber 18 = .ok (.aload_n 0, 1) := by decide +kernel
theorem dX10_readNumber_19 : decode cX10_readNumber 19 = .ok (.getfield 114, 3) := by decide +kernel
theorem dX10_readNumber_22 : decode cX10_readNumber 22 = .ok (.iload_n 2, 1) := by decide +kernel
theorem dX10_readNumber_23 : decode cX10_readNumber 23 = .ok (.iconst 2, 1) := by decide +kernel
theorem dX10_readNumber_24 : decode cX10_readNumber 24 = .ok (.iadd, 1) := by decide +kernel
theorem dX10_readNumber_25 : decode cX10_readNumber 25 = .ok (.if_icmp .ge 56, 3) := by decide +kernel
theorem dX10_readNumber_28 : decode cX10_readNumber 28 = .ok (.aload_n 0, 1) := by decide +kernel
theorem dX10_readNumber_29 : decode cX10_readNumber 29 = .ok (.getfield 41, 3) := by decide +kernel
theorem dX10_readNumber_32 : decode cX10_readNumber 32 = .ok (.aload_n 0, 1) := by decide +kernel
theorem dX10_readNumber_33 : decode cX10_readNumber 33 = .ok (.getfield 114, 3) := by decide +kernel
theorem dX10_readNumber_36 : decode cX10_readNumber 36 = .ok (.iaload, 1) := by decide +kernel
theorem dX10_readNumber_37 : decode cX10_readNumber 37 = .ok (.i2l, 1) := by decide +kernel
theorem dX10_readNumber_38 : decode cX10_readNumber 38 = .ok (.ldc2_w 117, 3) := by decide +kernel
theorem dX10_readNumber_41 : decode cX10_readNumber 41 = .ok (.ldc2_w 119, 3) := by decide +kernel
theorem dX10_readNumber_44 : decode cX10_readNumber 44 = .ok (.invokestatic 101, 3) := by decide +kernel
theorem dX10_readNumber_47 : decode cX10_readNumber 47 = .ok (.ifCond .eq 34, 3) := by decide +kernel
theorem dX10_readNumber_50 : decode cX10_readNumber 50 = .ok (.bipush 10, 2) := by decide +kernel
theorem dX10_readNumber_52 : decode cX10_readNumber 52 = .ok (.iload_n 3, 1) := by decide +kernel
theorem dX10_readNumber_53 : decode cX10_readNumber 53 = .ok (.imul, 1) := by decide +kernel
theorem dX10_readNumber_54 : decode cX10_readNumber 54 = .ok (.aload_n 0, 1) := by decide +kernel
theorem dX10_readNumber_55 : decode cX10_readNumber 55 = .ok (.getfield 41, 3) := by decide +kernel
theorem dX10_readNumber_58 : decode cX10_readNumber 58 = .ok (.aload_n 0, 1) := by decide +kernel
theorem dX10_readNumber_59 : decode cX10_readNumber 59 = .ok (.getfield 114, 3) := by decide +kernel
theorem dX10_readNumber_62 : decode cX10_readNumber 62 = .ok (.iaload, 1) := by decide +kernel
theorem dX10_readNumber_63 : decode cX10_readNumber 63 = .ok (.iadd, 1) := by decide +kernel
theorem dX10_readNumber_64 : decode cX10_readNumber 64 = .ok (.bipush 48, 2) := by decide +kernel
theorem dX10_readNumber_66 : decode cX10_readNumber 66 = .ok (.isub, 1) := by decide +kernel
theorem dX10_readNumber_67 : decode cX10_readNumber 67 = .ok (.istore_n 3, 1) := by decide +kernel
theorem dX10_readNumber_68 : decode cX10_readNumber 68 = .ok (.aload_n 0, 1) := by decide +kernel
theorem dX10_readNumber_69 : decode cX10_readNumber 69 = .ok (.dup, 1) := by decide +kernel
theorem dX10_readNumber_70 : decode cX10_readNumber 70 = .ok (.getfield 114, 3) := by decide +kernel
theorem dX10_readNumber_73 : decode cX10_readNumber 73 = .ok (.iconst 1, 1) := by decide +kernel
theorem dX10_readNumber_74 : decode cX10_readNumber 74 = .ok (.iadd, 1) := by decide +kernel
theorem dX10_readNumber_75 : decode cX10_readNumber 75 = .ok (.putfield 114, 3) := by decide +kernel
theorem dX10_readNumber_78 : decode cX10_readNumber 78 = .ok (.goto (-71), 3) := by decide +kernel
theorem dX10_readNumber_81 : decode cX10_readNumber 81 = .ok (.aload_n 0, 1) := by decide +kernel
theorem dX10_readNumber_82 : decode cX10_readNumber 82 = .ok (.getfield 44, 3) := by decide +kernel
theorem dX10_readNumber_85 : decode cX10_readNumber 85 = .ok (.iload_n 1, 1) := by decide +kernel
theorem dX10_readNumber_86 : decode cX10_readNumber 86 = .ok (.iload_n 3, 1) := by decide +kernel
theorem dX10_readNumber_87 : decode cX10_readNumber 87 = .ok (.iastore, 1) := by decide +kernel
theorem dX10_readNumber_88 : decode cX10_readNumber 88 = .ok (.aload_n 0, 1) := by decide +kernel
theorem dX10_readNumber_89 : decode cX10_readNumber 89 = .ok (.getfield 114, 3) := by decide +kernel
theorem dX10_readNumber_92 : decode cX10_readNumber 92 = .ok (.iload_n 2, 1) := by decide +kernel
theorem dX10_readNumber_93 : decode cX10_readNumber 93 = .ok (.if_icmp .le 7, 3) := by decide +kernel
theorem dX10_readNumber_96 : decode cX10_readNumber 96 = .ok (.iconst 1, 1) := by decide +kernel
theorem dX10_readNumber_97 : decode cX10_readNumber 97 = .ok (.goto 4, 3) := by decide +kernel
theorem dX10_readNumber_100 : decode cX10_readNumber 100 = .ok (.iconst 0, 1) := by decide +kernel
theorem dX10_readNumber_101 : decode cX10_readNumber 101 = .ok (.ireturn, 1) := by decide +kernel
theorem dX10_readNumbers_0 : decode cX10_readNumbers 0 = .ok (.iconst 0, 1) := by decide +kernel
theorem dX10_readNumbers_1 : decode cX10_readNumbers 1 = .ok (.istore_n 2, 1) := by decide +kernel
theorem dX10_readNumbers_2 : decode cX10_readNumbers 2 = .ok (.iload_n 2, 1) := by decide +kernel
theorem dX10_readNumbers_3 : decode cX10_readNumbers 3 = .ok (.iload_n 1, 1) := by decide +kernel
theorem dX10_readNumbers_4 : decode cX10_readNumbers 4 = .ok (.if_icmp .ge 70, 3) := by decide +kernel
theorem dX10_readNumbers_7 : decode cX10_readNumbers 7 = .ok (.aload_n 0, 1) := by decide +kernel
theorem dX10_readNumbers_8 : decode cX10_readNumbers 8 = .ok (.iload_n 2, 1) := by decide +kernel
theorem dX10_readNumbers_9 : decode cX10_readNumbers 9 = .ok (.invokevirtual 121, 3) := by decide +kernel
theorem dX10_readNumbers_12 : decode cX10_readNumbers 12 = .ok (.ifCond .ne 5, 3) := by decide +kernel
theorem dX10_readNumbers_15 : decode cX10_readNumbers 15 = .ok (.iconst 0, 1) := by decide +kernel
theorem dX10_readNumbers_16 : decode cX10_readNumbers 16 = .ok (.ireturn, 1) := by decide +kernel
theorem dX10_readNumbers_17 : decode cX10_readNumbers 17 = .ok (.iload_n 2, 1) := by decide +kernel
theorem dX10_readNumbers_18 : decode cX10_readNumbers 18 = .ok (.iload_n 1, 1) := by decide +kernel
theorem dX10_readNumbers_19 : decode cX10_readNumbers 19 = .ok (.iconst 1, 1) := by decide +kernel
theorem dX10_readNumbers_20 : decode cX10_readNumbers 20 = .ok (.isub, 1) := by decide +kernel
theorem dX10_readNumbers_21 : decode cX10_readNumbers 21 = .ok (.if_icmp .ne 8, 3) := by decide +kernel
theorem dX10_readNumbers_24 : decode cX10_readNumbers 24 = .ok (.bipush 59, 2) := by decide +kernel
theorem dX10_readNumbers_26 : decode cX10_readNumbers 26 = .ok (.goto 5, 3) := by decide +kernel
theorem dX10_readNumbers_29 : decode cX10_readNumbers 29 = .ok (.bipush 44, 2) := by decide +kernel
theorem dX10_readNumbers_31 : decode cX10_readNumbers 31 = .ok (.istore_n 3, 1) := by decide +kernel
theorem dX10_readNumbers_32 : decode cX10_readNumbers 32 = .ok (.aload_n 0, 1) := by decide +kernel
theorem dX10_readNumbers_33 : decode cX10_readNumbers 33 = .ok (.getfield 114, 3) := by decide +kernel
theorem dX10_readNumbers_36 : decode cX10_readNumbers 36 = .ok (.aload_n 0, 1) := by decide +kernel
theorem dX10_readNumbers_37 : decode cX10_readNumbers 37 = .ok (.getfield 111, 3) := by decide +kernel
theorem dX10_readNumbers_40 : decode cX10_readNumbers 40 = .ok (.if_icmp .ge 16, 3) := by decide +kernel
theorem dX10_readNumbers_43 : decode cX10_readNumbers 43 = .ok (.aload_n 0, 1) := by decide +kernel
theorem dX10_readNumbers_44 : decode cX10_readNumbers 44 = .ok (.getfield 41, 3) := by decide +kernel
theorem dX10_readNumbers_47 : decode cX10_readNumbers 47 = .ok (.aload_n 0, 1) := by decide +kernel
theorem dX10_readNumbers_48 : decode cX10_readNumbers 48 = .ok (.getfield 114, 3) := by decide +kernel
theorem dX10_readNumbers_51 : decode cX10_readNumbers 51 = .ok (.iaload, 1) := by decide +kernel
theorem dX10_readNumbers_52 : decode cX10_readNumbers 52 = .ok (.iload_n 3, 1) := by decide +kernel
theorem dX10_readNumbers_53 : decode cX10_readNumbers 53 = .ok (.if_icmp .eq 5, 3) := by decide +kernel
theorem dX10_readNumbers_56 : decode cX10_readNumbers 56 = .ok (.iconst 0, 1) := by decide +kernel
theorem dX10_readNumbers_57 : decode cX10_readNumbers 57 = .ok (.ireturn, 1) := by decide +kernel
theorem dX10_readNumbers_58 : decode cX10_readNumbers 58 = .ok (.aload_n 0, 1) := by decide +kernel
theorem dX10_readNumbers_59 : decode cX10_readNumbers 59 = .ok (.dup, 1) := by decide +kernel
theorem dX10_readNumbers_60 : decode cX10_readNumbers 60 = .ok (.getfield 114, 3) := by decide +kernel
theorem dX10_readNumbers_63 : decode cX10_readNumbers 63 = .ok (.iconst 1, 1) := by decide +kernel
theorem dX10_readNumbers_64 : decode cX10_readNumbers 64 = .ok (.iadd, 1) := by decide +kernel
theorem dX10_readNumbers_65 : decode cX10_readNumbers 65 = .ok (.putfield 114, 3) := by decide +kernel
theorem dX10_readNumbers_68 : decode cX10_readNumbers 68 = .ok (.iinc 2 1, 3) := by decide +kernel
theorem dX10_readNumbers_71 : decode cX10_readNumbers 71 = .ok (.goto (-69), 3) := by decide +kernel
theorem dX10_readNumbers_74 : decode cX10_readNumbers 74 = .ok (.iconst 1, 1) := by decide +kernel
theorem dX10_readNumbers_75 : decode cX10_readNumbers 75 = .ok (.ireturn, 1) := by decide +kernel
theorem dX10_readItem_0 : decode cX10_readItem 0 = .ok (.aload_n 0, 1) := by decide +kernel
theorem dX10_readItem_1 : decode cX10_readItem 1 = .ok (.getfield 41, 3) := by decide +kernel
theorem dX10_readItem_4 : decode cX10_readItem 4 = .ok (.aload_n 0, 1) := by decide +kernel
theorem dX10_readItem_5 : decode cX10_readItem 5 = .ok (.getfield 114, 3) := by decide +kernel
theorem dX10_readItem_8 : decode cX10_readItem 8 = .ok (.iaload, 1) := by decide +kernel
theorem dX10_readItem_9 : decode cX10_readItem 9 = .ok (.istore_n 1, 1) := by decide +kernel
theorem dX10_readItem_10 : decode cX10_readItem 10 = .ok (.aload_n 0, 1) := by decide +kernel
theorem dX10_readItem_11 : decode cX10_readItem 11 = .ok (.dup, 1) := by decide +kernel
theorem dX10_readItem_12 : decode cX10_readItem 12 = .ok (.getfield 114, 3) := by decide +kernel
theorem dX10_readItem_15 : decode cX10_readItem 15 = .ok (.iconst 1, 1) := by decide +kernel
theorem dX10_readItem_16 : decode cX10_readItem 16 = .ok (.iadd, 1) := by decide +kernel
theorem dX10_readItem_17 : decode cX10_readItem 17 = .ok (.putfield 114, 3) := by decide +kernel
theorem dX10_readItem_20 : decode cX10_readItem 20 = .ok (.aload_n 0, 1) := by decide +kernel
theorem dX10_readItem_21 : decode cX10_readItem 21 = .ok (.iload_n 1, 1) := by decide +kernel
theorem dX10_readItem_22 : decode cX10_readItem 22 = .ok (.bipush 103, 2) := by decide +kernel
theorem dX10_readItem_24 : decode cX10_readItem 24 = .ok (.if_icmp .ne 7, 3) := by decide +kernel
theorem dX10_readItem_27 : decode cX10_readItem 27 = .ok (.iconst 3, 1) := by decide +kernel
theorem dX10_readItem_28 : decode cX10_readItem 28 = .ok (.goto 42, 3) := by decide +kernel
theorem dX10_readItem_31 : decode cX10_readItem 31 = .ok (.iload_n 1, 1) := by decide +kernel
theorem dX10_readItem_32 : decode cX10_readItem 32 = .ok (.bipush 102, 2) := by decide +kernel
theorem dX10_readItem_34 : decode cX10_readItem 34 = .ok (.if_icmp .eq 9, 3) := by decide +kernel
theorem dX10_readItem_37 : decode cX10_readItem 37 = .ok (.iload_n 1, 1) := by decide +kernel
theorem dX10_readItem_38 : decode cX10_readItem 38 = .ok (.bipush 104, 2) := by decide +kernel
theorem dX10_readItem_40 : decode cX10_readItem 40 = .ok (.if_icmp .ne 7, 3) := by decide +kernel
theorem dX10_readItem_43 : decode cX10_readItem 43 = .ok (.iconst 2, 1) := by decide +kernel
theorem dX10_readItem_44 : decode cX10_readItem 44 = .ok (.goto 26, 3) := by decide +kernel
theorem dX10_readItem_47 : decode cX10_readItem 47 = .ok (.iload_n 1, 1) := by decide +kernel
theorem dX10_readItem_48 : decode cX10_readItem 48 = .ok (.bipush 98, 2) := by decide +kernel
theorem dX10_readItem_50 : decode cX10_readItem 50 = .ok (.if_icmp .eq 15, 3) := by decide +kernel
theorem dX10_readItem_53 : decode cX10_readItem 53 = .ok (.iload_n 1, 1) := by decide +kernel
theorem dX10_readItem_54 : decode cX10_readItem 54 = .ok (.bipush 107, 2) := by decide +kernel
theorem dX10_readItem_56 : decode cX10_readItem 56 = .ok (.if_icmp .eq 9, 3) := by decide +kernel
theorem dX10_readItem_59 : decode cX10_readItem 59 = .ok (.iload_n 1, 1) := by decide +kernel
theorem dX10_readItem_60 : decode cX10_readItem 60 = .ok (.bipush 114, 2) := by decide +kernel
theorem dX10_readItem_62 : decode cX10_readItem 62 = .ok (.if_icmp .ne 7, 3) := by decide +kernel
theorem dX10_readItem_65 : decode cX10_readItem 65 = .ok (.iconst 1, 1) := by decide +kernel
theorem dX10_readItem_66 : decode cX10_readItem 66 = .ok (.goto 4, 3) := by decide +kernel
theorem dX10_readItem_69 : decode cX10_readItem 69 = .ok (.iconst 0, 1) := by decide +kernel
theorem dX10_readItem_70 : decode cX10_readItem 70 = .ok (.putfield 125, 3) := by decide +kernel
theorem dX10_readItem_73 : decode cX10_readItem 73 = .ok (.aload_n 0, 1) := by decide +kernel
theorem dX10_readItem_74 : decode cX10_readItem 74 = .ok (.getfield 125, 3) := by decide +kernel
theorem dX10_readItem_77 : decode cX10_readItem 77 = .ok (.ifCond .eq 14, 3) := by decide +kernel
theorem dX10_readItem_80 : decode cX10_readItem 80 = .ok (.aload_n 0, 1) := by decide +kernel
theorem dX10_readItem_81 : decode cX10_readItem 81 = .ok (.aload_n 0, 1) := by decide +kernel
theorem dX10_readItem_82 : decode cX10_readItem 82 = .ok (.getfield 125, 3) := by decide +kernel
theorem dX10_readItem_85 : decode cX10_readItem 85 = .ok (.invokevirtual 128, 3) := by decide +kernel
theorem dX10_readItem_88 : decode cX10_readItem 88 = .ok (.ifCond .ne 5, 3) := by decide +kernel
theorem dX10_readItem_91 : decode cX10_readItem 91 = .ok (.iconst 0, 1) := by decide +kernel
theorem dX10_readItem_92 : decode cX10_readItem 92 = .ok (.ireturn, 1) := by decide +kernel
theorem dX10_readItem_93 : decode cX10_readItem 93 = .ok (.aload_n 0, 1) := by decide +kernel
theorem dX10_readItem_94 : decode cX10_readItem 94 = .ok (.getfield 44, 3) := by decide +kernel
theorem dX10_readItem_97 : decode cX10_readItem 97 = .ok (.iconst 0, 1) := by decide +kernel
theorem dX10_readItem_98 : decode cX10_readItem 98 = .ok (.iaload, 1) := by decide +kernel
theorem dX10_readItem_99 : decode cX10_readItem 99 = .ok (.istore_n 2, 1) := by decide +kernel
theorem dX10_readItem_100 : decode cX10_readItem 100 = .ok (.aload_n 0, 1) := by decide +kernel
theorem dX10_readItem_101 : decode cX10_readItem 101 = .ok (.getfield 44, 3) := by decide +kernel
theorem dX10_readItem_104 : decode cX10_readItem 104 = .ok (.iconst 1, 1) := by decide +kernel
theorem dX10_readItem_105 : decode cX10_readItem 105 = .ok (.iaload, 1) := by decide +kernel
theorem dX10_readItem_106 : decode cX10_readItem 106 = .ok (.istore_n 3, 1) := by decide +kernel
theorem dX10_readItem_107 : decode cX10_readItem 107 = .ok (.iconst 0, 1) := by decide +kernel
theorem dX10_readItem_108 : decode cX10_readItem 108 = .ok (.istore 4, 2) := by decide +kernel
theorem dX10_readItem_110 : decode cX10_readItem 110 = .ok (.iload_n 1, 1) := by decide +kernel
theorem dX10_readItem_111 : decode cX10_readItem 111 = .ok (.bipush 98, 2) := by decide +kernel
theorem dX10_readItem_113 : decode cX10_readItem 113 = .ok (.if_icmp .ne 87, 3) := by decide +kernel
theorem dX10_readItem_116 : decode cX10_readItem 116 = .ok (.iload_n 2, 1) := by decide +kernel
theorem dX10_readItem_117 : decode cX10_readItem 117 = .ok (.i2l, 1) := by decide +kernel
theorem dX10_readItem_118 : decode cX10_readItem 118 = .ok (.ldc2_w 131, 3) := by decide +kernel
theorem dX10_readItem_121 : decode cX10_readItem 121 = .ok (.ldc2_w 133, 3) := by decide +kernel
theorem dX10_readItem_124 : decode cX10_readItem 124 = .ok (.invokestatic 101, 3) := by decide +kernel
theorem dX10_readItem_127 : decode cX10_readItem 127 = .ok (.ifCond .eq 15, 3) := by decide +kernel
theorem dX10_readItem_130 : decode cX10_readItem 130 = .ok (.aload_n 0, 1) := by decide +kernel
theorem dX10_readItem_131 : decode cX10_readItem 131 = .ok (.getfield 135, 3) := by decide +kernel
theorem dX10_readItem_134 : decode cX10_readItem 134 = .ok (.iconst 4, 1) := by decide +kernel
theorem dX10_readItem_135 : decode cX10_readItem 135 = .ok (.if_icmp .ge 7, 3) := by decide +kernel
theorem dX10_readItem_138 : decode cX10_readItem 138 = .ok (.iconst 1, 1) := by decide +kernel
theorem dX10_readItem_139 : decode cX10_readItem 139 = .ok (.goto 4, 3) := by decide +kernel
theorem dX10_readItem_142 : decode cX10_readItem 142 = .ok (.iconst 0, 1) := by decide +kernel
theorem dX10_readItem_143 : decode cX10_readItem 143 = .ok (.istore 4, 2) := by decide +kernel
theorem dX10_readItem_145 : decode cX10_readItem 145 = .ok (.aload_n 0, 1) := by decide +kernel
theorem dX10_readItem_146 : decode cX10_readItem 146 = .ok (.getfield 47, 3) := by decide +kernel
theorem dX10_readItem_149 : decode cX10_readItem 149 = .ok (.iload 4, 2) := by decide +kernel
theorem dX10_readItem_151 : decode cX10_readItem 151 = .ok (.ifCond .eq 10, 3) := by decide +kernel
theorem dX10_readItem_154 : decode cX10_readItem 154 = .ok (.aload_n 0, 1) := by decide +kernel
theorem dX10_readItem_155 : decode cX10_readItem 155 = .ok (.getfield 135, 3) := by decide +kernel
theorem dX10_readItem_158 : decode cX10_readItem 158 = .ok (.goto 4, 3) := by decide +kernel
theorem dX10_readItem_161 : decode cX10_readItem 161 = .ok (.iconst 0, 1) := by decide +kernel
theorem dX10_readItem_162 : decode cX10_readItem 162 = .ok (.iload 4, 2) := by decide +kernel
theorem dX10_readItem_164 : decode cX10_readItem 164 = .ok (.ifCond .eq 7, 3) := by decide +kernel
theorem dX10_readItem_167 : decode cX10_readItem 167 = .ok (.iload_n 2, 1) := by decide +kernel
theorem dX10_readItem_168 : decode cX10_readItem 168 = .ok (.goto 9, 3) := by decide +kernel
theorem dX10_readItem_171 : decode cX10_readItem 171 = .ok (.aload_n 0, 1) := by decide +kernel
theorem dX10_readItem_172 : decode cX10_readItem 172 = .ok (.getfield 47, 3) := by decide +kernel
theorem dX10_readItem_175 : decode cX10_readItem 175 = .ok (.iconst 0, 1) := by decide +kernel
theorem dX10_readItem_176 : decode cX10_readItem 176 = .ok (.iaload, 1) := by decide +kernel
theorem dX10_readItem_177 : decode cX10_readItem 177 = .ok (.iastore, 1) := by decide +kernel
theorem dX10_readItem_178 : decode cX10_readItem 178 = .ok (.aload_n 0, 1) := by decide +kernel
theorem dX10_readItem_179 : decode cX10_readItem 179 = .ok (.dup, 1) := by decide +kernel
theorem dX10_readItem_180 : decode cX10_readItem 180 = .ok (.getfield 135, 3) := by decide +kernel
theorem dX10_readItem_183 : decode cX10_readItem 183 = .ok (.iload 4, 2) := by decide +kernel
theorem dX10_readItem_185 : decode cX10_readItem 185 = .ok (.ifCond .eq 7, 3) := by decide +kernel
theorem dX10_readItem_188 : decode cX10_readItem 188 = .ok (.iconst 1, 1) := by decide +kernel
theorem dX10_readItem_189 : decode cX10_readItem 189 = .ok (.goto 4, 3) := by decide +kernel
theorem dX10_readItem_192 : decode cX10_readItem 192 = .ok (.iconst 0, 1) := by decide +kernel
theorem dX10_readItem_193 : decode cX10_readItem 193 = .ok (.iadd, 1) := by decide +kernel
theorem dX10_readItem_194 : decode cX10_readItem 194 = .ok (.putfield 135, 3) := by decide +kernel
theorem dX10_readItem_197 : decode cX10_readItem 197 = .ok (.goto 427, 3) := by decide +kernel
theorem dX10_readItem_200 : decode cX10_readItem 200 = .ok (.iload_n 1, 1) := by decide +kernel
theorem dX10_readItem_201 : decode cX10_readItem 201 = .ok (.bipush 102, 2) := by decide +kernel
theorem dX10_readItem_203 : decode cX10_readItem 203 = .ok (.if_icmp .ne 92, 3) := by decide +kernel
theorem dX10_readItem_206 : decode cX10_readItem 206 = .ok (.iload_n 2, 1) := by decide +kernel
theorem dX10_readItem_207 : decode cX10_readItem 207 = .ok (.i2l, 1) := by decide +kernel
theorem dX10_readItem_208 : decode cX10_readItem 208 = .ok (.lconst 0, 1) := by decide +kernel
theorem dX10_readItem_209 : decode cX10_readItem 209 = .ok (.ldc2_w 105, 3) := by decide +kernel
theorem dX10_readItem_212 : decode cX10_readItem 212 = .ok (.invokestatic 101, 3) := by decide +kernel
theorem dX10_readItem_215 : decode cX10_readItem 215 = .ok (.ifCond .eq 27, 3) := by decide +kernel
theorem dX10_readItem_218 : decode cX10_readItem 218 = .ok (.iload_n 3, 1) := by decide +kernel
theorem dX10_readItem_219 : decode cX10_readItem 219 = .ok (.i2l, 1) := by decide +kernel
theorem dX10_readItem_220 : decode cX10_readItem 220 = .ok (.lconst 0, 1) := by decide +kernel
theorem dX10_readItem_221 : decode cX10_readItem 221 = .ok (.ldc2_w 138, 3) := by decide +kernel
theorem dX10_readItem_224 : decode cX10_readItem 224 = .ok (.invokestatic 101, 3) := by decide +kernel
theorem dX10_readItem_227 : decode cX10_readItem 227 = .ok (.ifCond .eq 15, 3) := by decide +kernel
theorem dX10_readItem_230 : decode cX10_readItem 230 = .ok (.aload_n 0, 1) := by decide +kernel
theorem dX10_readItem_231 : decode cX10_readItem 231 = .ok (.getfield 140, 3) := by decide +kernel
theorem dX10_readItem_234 : decode cX10_readItem 234 = .ok (.iconst 4, 1) := by decide +kernel
theorem dX10_readItem_235 : decode cX10_readItem 235 = .ok (.if_icmp .ge 7, 3) := by decide +kernel
theorem dX10_readItem_238 : decode cX10_readItem 238 = .ok (.iconst 1, 1) := by decide +kernel
theorem dX10_readItem_239 : decode cX10_readItem 239 = .ok (.goto 4, 3) := by decide +kernel
theorem dX10_readItem_242 : decode cX10_readItem 242 = .ok (.iconst 0, 1) := by decide +kernel
theorem dX10_readItem_243 : decode cX10_readItem 243 = .ok (.istore 4, 2) := by decide +kernel
theorem dX10_readItem_245 : decode cX10_readItem 245 = .ok (.aload_n 0, 1) := by decide +kernel
theorem dX10_readItem_246 : decode cX10_readItem 246 = .ok (.getfield 50, 3) := by decide +kernel
theorem dX10_readItem_249 : decode cX10_readItem 249 = .ok (.iload 4, 2) := by decide +kernel
theorem dX10_readItem_251 : decode cX10_readItem 251 = .ok (.ifCond .eq 7, 3) := by decide +kernel
theorem dX10_readItem_254 : decode cX10_readItem 254 = .ok (.iload_n 2, 1) := by decide +kernel
theorem dX10_readItem_255 : decode cX10_readItem 255 = .ok (.goto 4, 3) := by decide +kernel
theorem dX10_readItem_258 : decode cX10_readItem 258 = .ok (.iconst 0, 1) := by decide +kernel
theorem dX10_readItem_259 : decode cX10_readItem 259 = .ok (.dup2, 1) := by decide +kernel
theorem dX10_readItem_260 : decode cX10_readItem 260 = .ok (.iaload, 1) := by decide +kernel
theorem dX10_readItem_261 : decode cX10_readItem 261 = .ok (.iload 4, 2) := by decide +kernel
theorem dX10_readItem_263 : decode cX10_readItem 263 = .ok (.ifCond .eq 7, 3) := by decide +kernel
theorem dX10_readItem_266 : decode cX10_readItem 266 = .ok (.iload_n 3, 1) := by decide +kernel
theorem dX10_readItem_267 : decode cX10_readItem 267 = .ok (.goto 4, 3) := by decide +kernel
theorem dX10_readItem_270 : decode cX10_readItem 270 = .ok (.iconst 0, 1) := by decide +kernel
theorem dX10_readItem_271 : decode cX10_readItem 271 = .ok (.iadd, 1) := by decide +kernel
theorem dX10_readItem_272 : decode cX10_readItem 272 = .ok (.iastore, 1) := by decide +kernel
theorem dX10_readItem_273 : decode cX10_readItem 273 = .ok (.aload_n 0, 1) := by decide +kernel
theorem dX10_readItem_274 : decode cX10_readItem 274 = .ok (.dup, 1) := by decide +kernel
theorem dX10_readItem_275 : decode cX10_readItem 275 = .ok (.getfield 140, 3) := by decide +kernel
theorem dX10_readItem_278 : decode cX10_readItem 278 = .ok (.iload 4, 2) := by decide +kernel
theorem dX10_readItem_280 : decode cX10_readItem 280 = .ok (.ifCond .eq 7, 3) := by decide +kernel
theorem dX10_readItem_283 : decode cX10_readItem 283 = .ok (.iconst 1, 1) := by decide +kernel
theorem dX10_readItem_284 : decode cX10_readItem 284 = .ok (.goto 4, 3) := by decide +kernel
theorem dX10_readItem_287 : decode cX10_readItem 287 = .ok (.iconst 0, 1) := by decide +kernel
theorem dX10_readItem_288 : decode cX10_readItem 288 = .ok (.iadd, 1) := by decide +kernel
theorem dX10_readItem_289 : decode cX10_readItem 289 = .ok (.putfield 140, 3) := by decide +kernel
theorem dX10_readItem_292 : decode cX10_readItem 292 = .ok (.goto 332, 3) := by decide +kernel
theorem dX10_readItem_295 : decode cX10_readItem 295 = .ok (.iload_n 1, 1) := by decide +kernel
theorem dX10_readItem_296 : decode cX10_readItem 296 = .ok (.bipush 103, 2) := by decide +kernel
theorem dX10_readItem_298 : decode cX10_readItem 298 = .ok (.if_icmp .ne 125, 3) := by decide +kernel
theorem dX10_readItem_301 : decode cX10_readItem 301 = .ok (.iload_n 2, 1) := by decide +kernel
theorem dX10_readItem_302 : decode cX10_readItem 302 = .ok (.i2l, 1) := by decide +kernel
theorem dX10_readItem_303 : decode cX10_readItem 303 = .ok (.ldc2_w 131, 3) := by decide +kernel
theorem dX10_readItem_306 : decode cX10_readItem 306 = .ok (.ldc2_w 133, 3) := by decide +kernel
theorem dX10_readItem_309 : decode cX10_readItem 309 = .ok (.invokestatic 101, 3) := by decide +kernel
theorem dX10_readItem_312 : decode cX10_readItem 312 = .ok (.ifCond .eq 45, 3) := by decide +kernel
theorem dX10_readItem_315 : decode cX10_readItem 315 = .ok (.iload_n 3, 1) := by decide +kernel
theorem dX10_readItem_316 : decode cX10_readItem 316 = .ok (.i2l, 1) := by decide +kernel
theorem dX10_readItem_317 : decode cX10_readItem 317 = .ok (.lconst 0, 1) := by decide +kernel
theorem dX10_readItem_318 : decode cX10_readItem 318 = .ok (.ldc2_w 138, 3) := by decide +kernel
theorem dX10_readItem_321 : decode cX10_readItem 321 = .ok (.invokestatic 101, 3) := by decide +kernel
theorem dX10_readItem_324 : decode cX10_readItem 324 = .ok (.ifCond .eq 33, 3) := by decide +kernel
theorem dX10_readItem_327 : decode cX10_readItem 327 = .ok (.aload_n 0, 1) := by decide +kernel
theorem dX10_readItem_328 : decode cX10_readItem 328 = .ok (.getfield 44, 3) := by decide +kernel
theorem dX10_readItem_331 : decode cX10_readItem 331 = .ok (.iconst 2, 1) := by decide +kernel
theorem dX10_readItem_332 : decode cX10_readItem 332 = .ok (.iaload, 1) := by decide +kernel
theorem dX10_readItem_333 : decode cX10_readItem 333 = .ok (.i2l, 1) := by decide +kernel
theorem dX10_readItem_334 : decode cX10_readItem 334 = .ok (.lconst 0, 1) := by decide +kernel
theorem dX10_readItem_335 : decode cX10_readItem 335 = .ok (.ldc2_w 143, 3) := by decide +kernel
theorem dX10_readItem_338 : decode cX10_readItem 338 = .ok (.invokestatic 101, 3) := by decide +kernel
theorem dX10_readItem_341 : decode cX10_readItem 341 = .ok (.ifCond .eq 16, 3) := by decide +kernel
theorem dX10_readItem_344 : decode cX10_readItem 344 = .ok (.aload_n 0, 1) := by decide +kernel
theorem dX10_readItem_345 : decode cX10_readItem 345 = .ok (.getfield 145, 3) := by decide +kernel
theorem dX10_readItem_348 : decode cX10_readItem 348 = .ok (.bipush 7, 2) := by decide +kernel
theorem dX10_readItem_350 : decode cX10_readItem 350 = .ok (.if_icmp .ge 7, 3) := by decide +kernel
theorem dX10_readItem_353 : decode cX10_readItem 353 = .ok (.iconst 1, 1) := by decide +kernel
theorem dX10_readItem_354 : decode cX10_readItem 354 = .ok (.goto 4, 3) := by decide +kernel
theorem dX10_readItem_357 : decode cX10_readItem 357 = .ok (.iconst 0, 1) := by decide +kernel
theorem dX10_readItem_358 : decode cX10_readItem 358 = .ok (.istore 4, 2) := by decide +kernel
theorem dX10_readItem_360 : decode cX10_readItem 360 = .ok (.iconst 0, 1) := by decide +kernel
theorem dX10_readItem_361 : decode cX10_readItem 361 = .ok (.istore 5, 2) := by decide +kernel
theorem dX10_readItem_363 : decode cX10_readItem 363 = .ok (.iload 5, 2) := by decide +kernel
theorem dX10_readItem_365 : decode cX10_readItem 365 = .ok (.iconst 3, 1) := by decide +kernel
theorem dX10_readItem_366 : decode cX10_readItem 366 = .ok (.if_icmp .ge 35, 3) := by decide +kernel
theorem dX10_readItem_369 : decode cX10_readItem 369 = .ok (.iload 4, 2) := by decide +kernel
theorem dX10_readItem_371 : decode cX10_readItem 371 = .ok (.ifCond .eq 30, 3) := by decide +kernel
theorem dX10_readItem_374 : decode cX10_readItem 374 = .ok (.aload_n 0, 1) := by decide +kernel
theorem dX10_readItem_375 : decode cX10_readItem 375 = .ok (.getfield 53, 3) := by decide +kernel
theorem dX10_readItem_378 : decode cX10_readItem 378 = .ok (.iconst 3, 1) := by decide +kernel
theorem dX10_readItem_379 : decode cX10_readItem 379 = .ok (.aload_n 0, 1) := by decide +kernel
theorem dX10_readItem_380 : decode cX10_readItem 380 = .ok (.getfield 145, 3) := by decide +kernel
theorem dX10_readItem_383 : decode cX10_readItem 383 = .ok (.imul, 1) := by decide +kernel
theorem dX10_readItem_384 : decode cX10_readItem 384 = .ok (.iload 5, 2) := by decide +kernel
theorem dX10_readItem_386 : decode cX10_readItem 386 = .ok (.iadd, 1) := by decide +kernel
theorem dX10_readItem_387 : decode cX10_readItem 387 = .ok (.aload_n 0, 1) := by decide +kernel
theorem dX10_readItem_388 : decode cX10_readItem 388 = .ok (.getfield 44, 3) := by decide +kernel
theorem dX10_readItem_391 : decode cX10_readItem 391 = .ok (.iload 5, 2) := by decide +kernel
theorem dX10_readItem_393 : decode cX10_readItem 393 = .ok (.iaload, 1) := by decide +kernel
theorem dX10_readItem_394 : decode cX10_readItem 394 = .ok (.iastore, 1) := by decide +kernel
theorem dX10_readItem_395 : decode cX10_readItem 395 = .ok (.iinc 5 1, 3) := by decide +kernel
theorem dX10_readItem_398 : decode cX10_readItem 398 = .ok (.goto (-35), 3) := by decide +kernel
theorem dX10_readItem_401 : decode cX10_readItem 401 = .ok (.aload_n 0, 1) := by decide +kernel
theorem dX10_readItem_402 : decode cX10_readItem 402 = .ok (.dup, 1) := by decide +kernel
theorem dX10_readItem_403 : decode cX10_readItem 403 = .ok (.getfield 145, 3) := by decide +kernel
theorem dX10_readItem_406 : decode cX10_readItem 406 = .ok (.iload 4, 2) := by decide +kernel
theorem dX10_readItem_408 : decode cX10_readItem 408 = .ok (.ifCond .eq 7, 3) := by decide +kernel
theorem dX10_readItem_411 : decode cX10_readItem 411 = .ok (.iconst 1, 1) := by decide +kernel
theorem dX10_readItem_412 : decode cX10_readItem 412 = .ok (.goto 4, 3) := by decide +kernel
theorem dX10_readItem_415 : decode cX10_readItem 415 = .ok (.iconst 0, 1) := by decide +kernel
theorem dX10_readItem_416 : decode cX10_readItem 416 = .ok (.iadd, 1) := by decide +kernel
theorem dX10_readItem_417 : decode cX10_readItem 417 = .ok (.putfield 145, 3) := by decide +kernel
theorem dX10_readItem_420 : decode cX10_readItem 420 = .ok (.goto 204, 3) := by decide +kernel
theorem dX10_readItem_423 : decode cX10_readItem 423 = .ok (.iload_n 1, 1) := by decide +kernel
theorem dX10_readItem_424 : decode cX10_readItem 424 = .ok (.bipush 104, 2) := by decide +kernel
theorem dX10_readItem_426 : decode cX10_readItem 426 = .ok (.if_icmp .ne 80, 3) := by decide +kernel
theorem dX10_readItem_429 : decode cX10_readItem 429 = .ok (.iload_n 2, 1) := by decide +kernel
theorem dX10_readItem_430 : decode cX10_readItem 430 = .ok (.i2l, 1) := by decide +kernel
theorem dX10_readItem_431 : decode cX10_readItem 431 = .ok (.lconst 0, 1) := by decide +kernel
theorem dX10_readItem_432 : decode cX10_readItem 432 = .ok (.aload_n 0, 1) := by decide +kernel
theorem dX10_readItem_433 : decode cX10_readItem 433 = .ok (.getfield 145, 3) := by decide +kernel
theorem dX10_readItem_436 : decode cX10_readItem 436 = .ok (.iconst 1, 1) := by decide +kernel
theorem dX10_readItem_437 : decode cX10_readItem 437 = .ok (.isub, 1) := by decide +kernel
theorem dX10_readItem_438 : decode cX10_readItem 438 = .ok (.i2l, 1) := by decide +kernel
theorem dX10_readItem_439 : decode cX10_readItem 439 = .ok (.invokestatic 101, 3) := by decide +kernel
theorem dX10_readItem_442 : decode cX10_readItem 442 = .ok (.ifCond .eq 28, 3) := by decide +kernel
theorem dX10_readItem_445 : decode cX10_readItem 445 = .ok (.iload_n 3, 1) := by decide +kernel
theorem dX10_readItem_446 : decode cX10_readItem 446 = .ok (.i2l, 1) := by decide +kernel
theorem dX10_readItem_447 : decode cX10_readItem 447 = .ok (.lconst 0, 1) := by decide +kernel
theorem dX10_readItem_448 : decode cX10_readItem 448 = .ok (.aload_n 0, 1) := by decide +kernel
theorem dX10_readItem_449 : decode cX10_readItem 449 = .ok (.getfield 145, 3) := by decide +kernel
theorem dX10_readItem_452 : decode cX10_readItem 452 = .ok (.iconst 1, 1) := by decide +kernel
theorem dX10_readItem_453 : decode cX10_readItem 453 = .ok (.isub, 1) := by decide +kernel
theorem dX10_readItem_454 : decode cX10_readItem 454 = .ok (.i2l, 1) := by decide +kernel
theorem dX10_readItem_455 : decode cX10_readItem 455 = .ok (.invokestatic 101, 3) := by decide +kernel
theorem dX10_readItem_458 : decode cX10_readItem 458 = .ok (.ifCond .eq 12, 3) := by decide +kernel
theorem dX10_readItem_461 : decode cX10_readItem 461 = .ok (.iload_n 2, 1) := by decide +kernel
theorem dX10_readItem_462 : decode cX10_readItem 462 = .ok (.iload_n 3, 1) := by decide +kernel
theorem dX10_readItem_463 : decode cX10_readItem 463 = .ok (.if_icmp .eq 7, 3) := by decide +kernel
theorem dX10_readItem_466 : decode cX10_readItem 466 = .ok (.iconst 1, 1) := by decide +kernel
theorem dX10_readItem_467 : decode cX10_readItem 467 = .ok (.goto 4, 3) := by decide +kernel
theorem dX10_readItem_470 : decode cX10_readItem 470 = .ok (.iconst 0, 1) := by decide +kernel
theorem dX10_readItem_471 : decode cX10_readItem 471 = .ok (.istore 4, 2) := by decide +kernel
theorem dX10_readItem_473 : decode cX10_readItem 473 = .ok (.aload_n 0, 1) := by decide +kernel
theorem dX10_readItem_474 : decode cX10_readItem 474 = .ok (.getfield 56, 3) := by decide +kernel
theorem dX10_readItem_477 : decode cX10_readItem 477 = .ok (.iload 4, 2) := by decide +kernel
theorem dX10_readItem_479 : decode cX10_readItem 479 = .ok (.ifCond .eq 7, 3) := by decide +kernel
theorem dX10_readItem_482 : decode cX10_readItem 482 = .ok (.iload_n 2, 1) := by decide +kernel
theorem dX10_readItem_483 : decode cX10_readItem 483 = .ok (.goto 4, 3) := by decide +kernel
theorem dX10_readItem_486 : decode cX10_readItem 486 = .ok (.iconst 0, 1) := by decide +kernel
theorem dX10_readItem_487 : decode cX10_readItem 487 = .ok (.dup2, 1) := by decide +kernel
theorem dX10_readItem_488 : decode cX10_readItem 488 = .ok (.iaload, 1) := by decide +kernel
theorem dX10_readItem_489 : decode cX10_readItem 489 = .ok (.iload 4, 2) := by decide +kernel
theorem dX10_readItem_491 : decode cX10_readItem 491 = .ok (.ifCond .eq 9, 3) := by decide +kernel
theorem dX10_readItem_494 : decode cX10_readItem 494 = .ok (.iconst 1, 1) := by decide +kernel
theorem dX10_readItem_495 : decode cX10_readItem 495 = .ok (.iload_n 3, 1) := by decide +kernel
theorem dX10_readItem_496 : decode cX10_readItem 496 = .ok (.ishl, 1) := by decide +kernel
theorem dX10_readItem_497 : decode cX10_readItem 497 = .ok (.goto 4, 3) := by decide +kernel
theorem dX10_readItem_500 : decode cX10_readItem 500 = .ok (.iconst 0, 1) := by decide +kernel
theorem dX10_readItem_501 : decode cX10_readItem 501 = .ok (.ior, 1) := by decide +kernel
theorem dX10_readItem_502 : decode cX10_readItem 502 = .ok (.iastore, 1) := by decide +kernel
theorem dX10_readItem_503 : decode cX10_readItem 503 = .ok (.goto 121, 3) := by decide +kernel
theorem dX10_readItem_506 : decode cX10_readItem 506 = .ok (.iload_n 1, 1) := by decide +kernel
theorem dX10_readItem_507 : decode cX10_readItem 507 = .ok (.bipush 107, 2) := by decide +kernel
theorem dX10_readItem_509 : decode cX10_readItem 509 = .ok (.if_icmp .ne 34, 3) := by decide +kernel
theorem dX10_readItem_512 : decode cX10_readItem 512 = .ok (.iload_n 2, 1) := by decide +kernel
theorem dX10_readItem_513 : decode cX10_readItem 513 = .ok (.i2l, 1) := by decide +kernel
theorem dX10_readItem_514 : decode cX10_readItem 514 = .ok (.lconst 0, 1) := by decide +kernel
theorem dX10_readItem_515 : decode cX10_readItem 515 = .ok (.ldc2_w 148, 3) := by decide +kernel
theorem dX10_readItem_518 : decode cX10_readItem 518 = .ok (.invokestatic 101, 3) := by decide +kernel
theorem dX10_readItem_521 : decode cX10_readItem 521 = .ok (.istore 4, 2) := by decide +kernel
theorem dX10_readItem_523 : decode cX10_readItem 523 = .ok (.aload_n 0, 1) := by decide +kernel
theorem dX10_readItem_524 : decode cX10_readItem 524 = .ok (.iload 4, 2) := by decide +kernel
theorem dX10_readItem_526 : decode cX10_readItem 526 = .ok (.ifCond .eq 7, 3) := by decide +kernel
theorem dX10_readItem_529 : decode cX10_readItem 529 = .ok (.iload_n 2, 1) := by decide +kernel
theorem dX10_readItem_530 : decode cX10_readItem 530 = .ok (.goto 7, 3) := by decide +kernel
theorem dX10_readItem_533 : decode cX10_readItem 533 = .ok (.aload_n 0, 1) := by decide +kernel
theorem dX10_readItem_534 : decode cX10_readItem 534 = .ok (.getfield 150, 3) := by decide +kernel
theorem dX10_readItem_537 : decode cX10_readItem 537 = .ok (.putfield 150, 3) := by decide +kernel
theorem dX10_readItem_540 : decode cX10_readItem 540 = .ok (.goto 84, 3) := by decide +kernel
theorem dX10_readItem_543 : decode cX10_readItem 543 = .ok (.iload_n 2, 1) := by decide +kernel
theorem dX10_readItem_544 : decode cX10_readItem 544 = .ok (.i2l, 1) := by decide +kernel
theorem dX10_readItem_545 : decode cX10_readItem 545 = .ok (.ldc2_w 131, 3) := by decide +kernel
theorem dX10_readItem_548 : decode cX10_readItem 548 = .ok (.ldc2_w 133, 3) := by decide +kernel
theorem dX10_readItem_551 : decode cX10_readItem 551 = .ok (.invokestatic 101, 3) := by decide +kernel
theorem dX10_readItem_554 : decode cX10_readItem 554 = .ok (.ifCond .eq 15, 3) := by decide +kernel
theorem dX10_readItem_557 : decode cX10_readItem 557 = .ok (.aload_n 0, 1) := by decide +kernel
theorem dX10_readItem_558 : decode cX10_readItem 558 = .ok (.getfield 153, 3) := by decide +kernel
theorem dX10_readItem_561 : decode cX10_readItem 561 = .ok (.iconst 4, 1) := by decide +kernel
theorem dX10_readItem_562 : decode cX10_readItem 562 = .ok (.if_icmp .ge 7, 3) := by decide +kernel
theorem dX10_readItem_565 : decode cX10_readItem 565 = .ok (.iconst 1, 1) := by decide +kernel
theorem dX10_readItem_566 : decode cX10_readItem 566 = .ok (.goto 4, 3) := by decide +kernel
theorem dX10_readItem_569 : decode cX10_readItem 569 = .ok (.iconst 0, 1) := by decide +kernel
theorem dX10_readItem_570 : decode cX10_readItem 570 = .ok (.istore 4, 2) := by decide +kernel
theorem dX10_readItem_572 : decode cX10_readItem 572 = .ok (.aload_n 0, 1) := by decide +kernel
theorem dX10_readItem_573 : decode cX10_readItem 573 = .ok (.getfield 59, 3) := by decide +kernel
theorem dX10_readItem_576 : decode cX10_readItem 576 = .ok (.iload 4, 2) := by decide +kernel
theorem dX10_readItem_578 : decode cX10_readItem 578 = .ok (.ifCond .eq 10, 3) := by decide +kernel
theorem dX10_readItem_581 : decode cX10_readItem 581 = .ok (.aload_n 0, 1) := by decide +kernel
theorem dX10_readItem_582 : decode cX10_readItem 582 = .ok (.getfield 153, 3) := by decide +kernel
theorem dX10_readItem_585 : decode cX10_readItem 585 = .ok (.goto 4, 3) := by decide +kernel
theorem dX10_readItem_588 : decode cX10_readItem 588 = .ok (.iconst 0, 1) := by decide +kernel
theorem dX10_readItem_589 : decode cX10_readItem 589 = .ok (.iload 4, 2) := by decide +kernel
theorem dX10_readItem_591 : decode cX10_readItem 591 = .ok (.ifCond .eq 7, 3) := by decide +kernel
theorem dX10_readItem_594 : decode cX10_readItem 594 = .ok (.iload_n 2, 1) := by decide +kernel
theorem dX10_readItem_595 : decode cX10_readItem 595 = .ok (.goto 9, 3) := by decide +kernel
theorem dX10_readItem_598 : decode cX10_readItem 598 = .ok (.aload_n 0, 1) := by decide +kernel
theorem dX10_readItem_599 : decode cX10_readItem 599 = .ok (.getfield 59, 3) := by decide +kernel
theorem dX10_readItem_602 : decode cX10_readItem 602 = .ok (.iconst 0, 1) := by decide +kernel
theorem dX10_readItem_603 : decode cX10_readItem 603 = .ok (.iaload, 1) := by decide +kernel
theorem dX10_readItem_604 : decode cX10_readItem 604 = .ok (.iastore, 1) := by decide +kernel
theorem dX10_readItem_605 : decode cX10_readItem 605 = .ok (.aload_n 0, 1) := by decide +kernel
theorem dX10_readItem_606 : decode cX10_readItem 606 = .ok (.dup, 1) := by decide +kernel
theorem dX10_readItem_607 : decode cX10_readItem 607 = .ok (.getfield 153, 3) := by decide +kernel
theorem dX10_readItem_610 : decode cX10_readItem 610 = .ok (.iload 4, 2) := by decide +kernel
theorem dX10_readItem_612 : decode cX10_readItem 612 = .ok (.ifCond .eq 7, 3) := by decide +kernel
theorem dX10_readItem_615 : decode cX10_readItem 615 = .ok (.iconst 1, 1) := by decide +kernel
theorem dX10_readItem_616 : decode cX10_readItem 616 = .ok (.goto 4, 3) := by decide +kernel
theorem dX10_readItem_619 : decode cX10_readItem 619 = .ok (.iconst 0, 1) := by decide +kernel
theorem dX10_readItem_620 : decode cX10_readItem 620 = .ok (.iadd, 1) := by decide +kernel
theorem dX10_readItem_621 : decode cX10_readItem 621 = .ok (.putfield 153, 3) := by decide +kernel
theorem dX10_readItem_624 : decode cX10_readItem 624 = .ok (.iload 4, 2) := by decide +kernel
theorem dX10_readItem_626 : decode cX10_readItem 626 = .ok (.ireturn, 1) := by decide +kernel
theorem dX10_fault_0 : decode cX10_fault 0 = .ok (.aload_n 0, 1) := by decide +kernel
theorem dX10_fault_1 : decode cX10_fault 1 = .ok (.iconst 0, 1) := by decide +kernel
theorem dX10_fault_2 : decode cX10_fault 2 = .ok (.putfield 114, 3) := by decide +kernel
theorem dX10_fault_5 : decode cX10_fault 5 = .ok (.aload_n 0, 1) := by decide +kernel
theorem dX10_fault_6 : decode cX10_fault 6 = .ok (.iconst 0, 1) := by decide +kernel
theorem dX10_fault_7 : decode cX10_fault 7 = .ok (.putfield 135, 3) := by decide +kernel
theorem dX10_fault_10 : decode cX10_fault 10 = .ok (.aload_n 0, 1) := by decide +kernel
theorem dX10_fault_11 : decode cX10_fault 11 = .ok (.iconst 0, 1) := by decide +kernel
theorem dX10_fault_12 : decode cX10_fault 12 = .ok (.putfield 140, 3) := by decide +kernel
theorem dX10_fault_15 : decode cX10_fault 15 = .ok (.aload_n 0, 1) := by decide +kernel
theorem dX10_fault_16 : decode cX10_fault 16 = .ok (.iconst 0, 1) := by decide +kernel
theorem dX10_fault_17 : decode cX10_fault 17 = .ok (.putfield 145, 3) := by decide +kernel
theorem dX10_fault_20 : decode cX10_fault 20 = .ok (.aload_n 0, 1) := by decide +kernel
theorem dX10_fault_21 : decode cX10_fault 21 = .ok (.iconst 0, 1) := by decide +kernel
theorem dX10_fault_22 : decode cX10_fault 22 = .ok (.putfield 153, 3) := by decide +kernel
theorem dX10_fault_25 : decode cX10_fault 25 = .ok (.aload_n 0, 1) := by decide +kernel
theorem dX10_fault_26 : decode cX10_fault 26 = .ok (.iconst 1, 1) := by decide +kernel
theorem dX10_fault_27 : decode cX10_fault 27 = .ok (.putfield 150, 3) := by decide +kernel
theorem dX10_fault_30 : decode cX10_fault 30 = .ok (.iconst 0, 1) := by decide +kernel
theorem dX10_fault_31 : decode cX10_fault 31 = .ok (.istore_n 1, 1) := by decide +kernel
theorem dX10_fault_32 : decode cX10_fault 32 = .ok (.iload_n 1, 1) := by decide +kernel
theorem dX10_fault_33 : decode cX10_fault 33 = .ok (.bipush 30, 2) := by decide +kernel
theorem dX10_fault_35 : decode cX10_fault 35 = .ok (.if_icmp .ge 16, 3) := by decide +kernel
theorem dX10_fault_38 : decode cX10_fault 38 = .ok (.aload_n 0, 1) := by decide +kernel
theorem dX10_fault_39 : decode cX10_fault 39 = .ok (.getfield 50, 3) := by decide +kernel
theorem dX10_fault_42 : decode cX10_fault 42 = .ok (.iload_n 1, 1) := by decide +kernel
theorem dX10_fault_43 : decode cX10_fault 43 = .ok (.iconst 0, 1) := by decide +kernel
theorem dX10_fault_44 : decode cX10_fault 44 = .ok (.iastore, 1) := by decide +kernel
theorem dX10_fault_45 : decode cX10_fault 45 = .ok (.iinc 1 1, 3) := by decide +kernel
theorem dX10_fault_48 : decode cX10_fault 48 = .ok (.goto (-16), 3) := by decide +kernel
theorem dX10_fault_51 : decode cX10_fault 51 = .ok (.iconst 0, 1) := by decide +kernel
theorem dX10_fault_52 : decode cX10_fault 52 = .ok (.istore_n 1, 1) := by decide +kernel
theorem dX10_fault_53 : decode cX10_fault 53 = .ok (.iload_n 1, 1) := by decide +kernel
theorem dX10_fault_54 : decode cX10_fault 54 = .ok (.bipush 7, 2) := by decide +kernel
theorem dX10_fault_56 : decode cX10_fault 56 = .ok (.if_icmp .ge 16, 3) := by decide +kernel
theorem dX10_fault_59 : decode cX10_fault 59 = .ok (.aload_n 0, 1) := by decide +kernel
theorem dX10_fault_60 : decode cX10_fault 60 = .ok (.getfield 56, 3) := by decide +kernel
theorem dX10_fault_63 : decode cX10_fault 63 = .ok (.iload_n 1, 1) := by decide +kernel
theorem dX10_fault_64 : decode cX10_fault 64 = .ok (.iconst 0, 1) := by decide +kernel
theorem dX10_fault_65 : decode cX10_fault 65 = .ok (.iastore, 1) := by decide +kernel
theorem dX10_fault_66 : decode cX10_fault 66 = .ok (.iinc 1 1, 3) := by decide +kernel
theorem dX10_fault_69 : decode cX10_fault 69 = .ok (.goto (-16), 3) := by decide +kernel
theorem dX10_fault_72 : decode cX10_fault 72 = .ok (.aload_n 0, 1) := by decide +kernel
theorem dX10_fault_73 : decode cX10_fault 73 = .ok (.getfield 114, 3) := by decide +kernel
theorem dX10_fault_76 : decode cX10_fault 76 = .ok (.aload_n 0, 1) := by decide +kernel
theorem dX10_fault_77 : decode cX10_fault 77 = .ok (.getfield 111, 3) := by decide +kernel
theorem dX10_fault_80 : decode cX10_fault 80 = .ok (.if_icmp .ge 20, 3) := by decide +kernel
theorem dX10_fault_83 : decode cX10_fault 83 = .ok (.aload_n 0, 1) := by decide +kernel
theorem dX10_fault_84 : decode cX10_fault 84 = .ok (.getfield 114, 3) := by decide +kernel
theorem dX10_fault_87 : decode cX10_fault 87 = .ok (.istore_n 1, 1) := by decide +kernel
theorem dX10_fault_88 : decode cX10_fault 88 = .ok (.aload_n 0, 1) := by decide +kernel
theorem dX10_fault_89 : decode cX10_fault 89 = .ok (.invokevirtual 156, 3) := by decide +kernel
theorem dX10_fault_92 : decode cX10_fault 92 = .ok (.ifCond .ne 5, 3) := by decide +kernel
theorem dX10_fault_95 : decode cX10_fault 95 = .ok (.iload_n 1, 1) := by decide +kernel
theorem dX10_fault_96 : decode cX10_fault 96 = .ok (.ireturn, 1) := by decide +kernel
theorem dX10_fault_97 : decode cX10_fault 97 = .ok (.goto (-25), 3) := by decide +kernel
theorem dX10_fault_100 : decode cX10_fault 100 = .ok (.bipush (-4), 2) := by decide +kernel
theorem dX10_fault_102 : decode cX10_fault 102 = .ok (.ireturn, 1) := by decide +kernel
theorem dX10_lay_0 : decode cX10_lay 0 = .ok (.aload_n 0, 1) := by decide +kernel
theorem dX10_lay_1 : decode cX10_lay 1 = .ok (.invokevirtual 160, 3) := by decide +kernel
theorem dX10_lay_4 : decode cX10_lay 4 = .ok (.bipush (-4), 2) := by decide +kernel
theorem dX10_lay_6 : decode cX10_lay 6 = .ok (.if_icmp .ne 17, 3) := by decide +kernel
theorem dX10_lay_9 : decode cX10_lay 9 = .ok (.aload_n 0, 1) := by decide +kernel
theorem dX10_lay_10 : decode cX10_lay 10 = .ok (.getfield 135, 3) := by decide +kernel
theorem dX10_lay_13 : decode cX10_lay 13 = .ok (.ifCond .eq 10, 3) := by decide +kernel
theorem dX10_lay_16 : decode cX10_lay 16 = .ok (.aload_n 0, 1) := by decide +kernel
theorem dX10_lay_17 : decode cX10_lay 17 = .ok (.getfield 145, 3) := by decide +kernel
theorem dX10_lay_20 : decode cX10_lay 20 = .ok (.ifCond .ne 6, 3) := by decide +kernel
theorem dX10_lay_23 : decode cX10_lay 23 = .ok (.bipush (-2), 2) := by decide +kernel
theorem dX10_lay_25 : decode cX10_lay 25 = .ok (.ireturn, 1) := by decide +kernel
theorem dX10_lay_26 : decode cX10_lay 26 = .ok (.aload_n 0, 1) := by decide +kernel
theorem dX10_lay_27 : decode cX10_lay 27 = .ok (.aload_n 0, 1) := by decide +kernel
theorem dX10_lay_28 : decode cX10_lay 28 = .ok (.getfield 135, 3) := by decide +kernel
theorem dX10_lay_31 : decode cX10_lay 31 = .ok (.putfield 13, 3) := by decide +kernel
theorem dX10_lay_34 : decode cX10_lay 34 = .ok (.aload_n 0, 1) := by decide +kernel
theorem dX10_lay_35 : decode cX10_lay 35 = .ok (.aload_n 0, 1) := by decide +kernel
theorem dX10_lay_36 : decode cX10_lay 36 = .ok (.getfield 145, 3) := by decide +kernel
theorem dX10_lay_39 : decode cX10_lay 39 = .ok (.putfield 29, 3) := by decide +kernel
theorem dX10_lay_42 : decode cX10_lay 42 = .ok (.aload_n 0, 1) := by decide +kernel
theorem dX10_lay_43 : decode cX10_lay 43 = .ok (.aload_n 0, 1) := by decide +kernel
theorem dX10_lay_44 : decode cX10_lay 44 = .ok (.getfield 140, 3) := by decide +kernel
theorem dX10_lay_47 : decode cX10_lay 47 = .ok (.putfield 164, 3) := by decide +kernel
theorem dX10_lay_50 : decode cX10_lay 50 = .ok (.aload_n 0, 1) := by decide +kernel
theorem dX10_lay_51 : decode cX10_lay 51 = .ok (.aload_n 0, 1) := by decide +kernel
theorem dX10_lay_52 : decode cX10_lay 52 = .ok (.getfield 153, 3) := by decide +kernel
theorem dX10_lay_55 : decode cX10_lay 55 = .ok (.putfield 167, 3) := by decide +kernel
theorem dX10_lay_58 : decode cX10_lay 58 = .ok (.aload_n 0, 1) := by decide +kernel
theorem dX10_lay_59 : decode cX10_lay 59 = .ok (.aload_n 0, 1) := by decide +kernel
theorem dX10_lay_60 : decode cX10_lay 60 = .ok (.getfield 150, 3) := by decide +kernel
theorem dX10_lay_63 : decode cX10_lay 63 = .ok (.putfield 35, 3) := by decide +kernel
theorem dX10_lay_66 : decode cX10_lay 66 = .ok (.iconst 0, 1) := by decide +kernel
theorem dX10_lay_67 : decode cX10_lay 67 = .ok (.istore_n 1, 1) := by decide +kernel
theorem dX10_lay_68 : decode cX10_lay 68 = .ok (.iload_n 1, 1) := by decide +kernel
theorem dX10_lay_69 : decode cX10_lay 69 = .ok (.iconst 4, 1) := by decide +kernel
theorem dX10_lay_70 : decode cX10_lay 70 = .ok (.if_icmp .ge 33, 3) := by decide +kernel
theorem dX10_lay_73 : decode cX10_lay 73 = .ok (.aload_n 0, 1) := by decide +kernel
theorem dX10_lay_74 : decode cX10_lay 74 = .ok (.getfield 7, 3) := by decide +kernel
theorem dX10_lay_77 : decode cX10_lay 77 = .ok (.iload_n 1, 1) := by decide +kernel
theorem dX10_lay_78 : decode cX10_lay 78 = .ok (.aload_n 0, 1) := by decide +kernel
theorem dX10_lay_79 : decode cX10_lay 79 = .ok (.getfield 47, 3) := by decide +kernel
theorem dX10_lay_82 : decode cX10_lay 82 = .ok (.iload_n 1, 1) := by decide +kernel
theorem dX10_lay_83 : decode cX10_lay 83 = .ok (.iaload, 1) := by decide +kernel
theorem dX10_lay_84 : decode cX10_lay 84 = .ok (.iastore, 1) := by decide +kernel
theorem dX10_lay_85 : decode cX10_lay 85 = .ok (.aload_n 0, 1) := by decide +kernel
theorem dX10_lay_86 : decode cX10_lay 86 = .ok (.getfield 32, 3) := by decide +kernel
theorem dX10_lay_89 : decode cX10_lay 89 = .ok (.iload_n 1, 1) := by decide +kernel
theorem dX10_lay_90 : decode cX10_lay 90 = .ok (.aload_n 0, 1) := by decide +kernel
theorem dX10_lay_91 : decode cX10_lay 91 = .ok (.getfield 59, 3) := by decide +kernel
theorem dX10_lay_94 : decode cX10_lay 94 = .ok (.iload_n 1, 1) := by decide +kernel
theorem dX10_lay_95 : decode cX10_lay 95 = .ok (.iaload, 1) := by decide +kernel
theorem dX10_lay_96 : decode cX10_lay 96 = .ok (.iastore, 1) := by decide +kernel
theorem dX10_lay_97 : decode cX10_lay 97 = .ok (.iinc 1 1, 3) := by decide +kernel
theorem dX10_lay_100 : decode cX10_lay 100 = .ok (.goto (-32), 3) := by decide +kernel
theorem dX10_lay_103 : decode cX10_lay 103 = .ok (.iconst 0, 1) := by decide +kernel
theorem dX10_lay_104 : decode cX10_lay 104 = .ok (.istore_n 1, 1) := by decide +kernel
theorem dX10_lay_105 : decode cX10_lay 105 = .ok (.iload_n 1, 1) := by decide +kernel
theorem dX10_lay_106 : decode cX10_lay 106 = .ok (.bipush 30, 2) := by decide +kernel
theorem dX10_lay_108 : decode cX10_lay 108 = .ok (.if_icmp .ge 21, 3) := by decide +kernel
theorem dX10_lay_111 : decode cX10_lay 111 = .ok (.aload_n 0, 1) := by decide +kernel
theorem dX10_lay_112 : decode cX10_lay 112 = .ok (.getfield 17, 3) := by decide +kernel
theorem dX10_lay_115 : decode cX10_lay 115 = .ok (.iload_n 1, 1) := by decide +kernel
theorem dX10_lay_116 : decode cX10_lay 116 = .ok (.aload_n 0, 1) := by decide +kernel
theorem dX10_lay_117 : decode cX10_lay 117 = .ok (.getfield 50, 3) := by decide +kernel
theorem dX10_lay_120 : decode cX10_lay 120 = .ok (.iload_n 1, 1) := by decide +kernel
theorem dX10_lay_121 : decode cX10_lay 121 = .ok (.iaload, 1) := by decide +kernel
theorem dX10_lay_122 : decode cX10_lay 122 = .ok (.iastore, 1) := by decide +kernel
theorem dX10_lay_123 : decode cX10_lay 123 = .ok (.iinc 1 1, 3) := by decide +kernel
theorem dX10_lay_126 : decode cX10_lay 126 = .ok (.goto (-21), 3) := by decide +kernel
theorem dX10_lay_129 : decode cX10_lay 129 = .ok (.iconst 0, 1) := by decide +kernel
theorem dX10_lay_130 : decode cX10_lay 130 = .ok (.istore_n 1, 1) := by decide +kernel
theorem dX10_lay_131 : decode cX10_lay 131 = .ok (.iload_n 1, 1) := by decide +kernel
theorem dX10_lay_132 : decode cX10_lay 132 = .ok (.bipush 7, 2) := by decide +kernel
theorem dX10_lay_134 : decode cX10_lay 134 = .ok (.if_icmp .ge 87, 3) := by decide +kernel
theorem dX10_lay_137 : decode cX10_lay 137 = .ok (.aload_n 0, 1) := by decide +kernel
theorem dX10_lay_138 : decode cX10_lay 138 = .ok (.getfield 20, 3) := by decide +kernel
theorem dX10_lay_141 : decode cX10_lay 141 = .ok (.iload_n 1, 1) := by decide +kernel
theorem dX10_lay_142 : decode cX10_lay 142 = .ok (.aload_n 0, 1) := by decide +kernel
theorem dX10_lay_143 : decode cX10_lay 143 = .ok (.getfield 53, 3) := by decide +kernel
theorem dX10_lay_146 : decode cX10_lay 146 = .ok (.iconst 3, 1) := by decide +kernel
theorem dX10_lay_147 : decode cX10_lay 147 = .ok (.iload_n 1, 1) := by decide +kernel
theorem dX10_lay_148 : decode cX10_lay 148 = .ok (.imul, 1) := by decide +kernel
theorem dX10_lay_149 : decode cX10_lay 149 = .ok (.iaload, 1) := by decide +kernel
theorem dX10_lay_150 : decode cX10_lay 150 = .ok (.iastore, 1) := by decide +kernel
theorem dX10_lay_151 : decode cX10_lay 151 = .ok (.aload_n 0, 1) := by decide +kernel
theorem dX10_lay_152 : decode cX10_lay 152 = .ok (.getfield 23, 3) := by decide +kernel
theorem dX10_lay_155 : decode cX10_lay 155 = .ok (.iload_n 1, 1) := by decide +kernel
theorem dX10_lay_156 : decode cX10_lay 156 = .ok (.aload_n 0, 1) := by decide +kernel
theorem dX10_lay_157 : decode cX10_lay 157 = .ok (.getfield 53, 3) := by decide +kernel
theorem dX10_lay_160 : decode cX10_lay 160 = .ok (.iconst 3, 1) := by decide +kernel
theorem dX10_lay_161 : decode cX10_lay 161 = .ok (.iload_n 1, 1) := by decide +kernel
theorem dX10_lay_162 : decode cX10_lay 162 = .ok (.imul, 1) := by decide +kernel
theorem dX10_lay_163 : decode cX10_lay 163 = .ok (.iconst 2, 1) := by decide +kernel
theorem dX10_lay_164 : decode cX10_lay 164 = .ok (.iadd, 1) := by decide +kernel
theorem dX10_lay_165 : decode cX10_lay 165 = .ok (.iaload, 1) := by decide +kernel
theorem dX10_lay_166 : decode cX10_lay 166 = .ok (.iastore, 1) := by decide +kernel
theorem dX10_lay_167 : decode cX10_lay 167 = .ok (.aload_n 0, 1) := by decide +kernel
theorem dX10_lay_168 : decode cX10_lay 168 = .ok (.getfield 26, 3) := by decide +kernel
theorem dX10_lay_171 : decode cX10_lay 171 = .ok (.iload_n 1, 1) := by decide +kernel
theorem dX10_lay_172 : decode cX10_lay 172 = .ok (.aload_n 0, 1) := by decide +kernel
theorem dX10_lay_173 : decode cX10_lay 173 = .ok (.getfield 56, 3) := by decide +kernel
theorem dX10_lay_176 : decode cX10_lay 176 = .ok (.iload_n 1, 1) := by decide +kernel
theorem dX10_lay_177 : decode cX10_lay 177 = .ok (.iaload, 1) := by decide +kernel
theorem dX10_lay_178 : decode cX10_lay 178 = .ok (.iastore, 1) := by decide +kernel
theorem dX10_lay_179 : decode cX10_lay 179 = .ok (.aload_n 0, 1) := by decide +kernel
theorem dX10_lay_180 : decode cX10_lay 180 = .ok (.getfield 38, 3) := by decide +kernel
theorem dX10_lay_183 : decode cX10_lay 183 = .ok (.iload_n 1, 1) := by decide +kernel
theorem dX10_lay_184 : decode cX10_lay 184 = .ok (.iload_n 1, 1) := by decide +kernel
theorem dX10_lay_185 : decode cX10_lay 185 = .ok (.iastore, 1) := by decide +kernel
theorem dX10_lay_186 : decode cX10_lay 186 = .ok (.aload_n 0, 1) := by decide +kernel
theorem dX10_lay_187 : decode cX10_lay 187 = .ok (.getfield 38, 3) := by decide +kernel
theorem dX10_lay_190 : decode cX10_lay 190 = .ok (.bipush 7, 2) := by decide +kernel
theorem dX10_lay_192 : decode cX10_lay 192 = .ok (.iload_n 1, 1) := by decide +kernel
theorem dX10_lay_193 : decode cX10_lay 193 = .ok (.iadd, 1) := by decide +kernel
theorem dX10_lay_194 : decode cX10_lay 194 = .ok (.iconst 0, 1) := by decide +kernel
theorem dX10_lay_195 : decode cX10_lay 195 = .ok (.iastore, 1) := by decide +kernel
theorem dX10_lay_196 : decode cX10_lay 196 = .ok (.aload_n 0, 1) := by decide +kernel
theorem dX10_lay_197 : decode cX10_lay 197 = .ok (.getfield 38, 3) := by decide +kernel
theorem dX10_lay_200 : decode cX10_lay 200 = .ok (.bipush 14, 2) := by decide +kernel
theorem dX10_lay_202 : decode cX10_lay 202 = .ok (.iload_n 1, 1) := by decide +kernel
theorem dX10_lay_203 : decode cX10_lay 203 = .ok (.iadd, 1) := by decide +kernel
theorem dX10_lay_204 : decode cX10_lay 204 = .ok (.aload_n 0, 1) := by decide +kernel
theorem dX10_lay_205 : decode cX10_lay 205 = .ok (.getfield 53, 3) := by decide +kernel
theorem dX10_lay_208 : decode cX10_lay 208 = .ok (.iconst 3, 1) := by decide +kernel
theorem dX10_lay_209 : decode cX10_lay 209 = .ok (.iload_n 1, 1) := by decide +kernel
theorem dX10_lay_210 : decode cX10_lay 210 = .ok (.imul, 1) := by decide +kernel
theorem dX10_lay_211 : decode cX10_lay 211 = .ok (.iconst 1, 1) := by decide +kernel
theorem dX10_lay_212 : decode cX10_lay 212 = .ok (.iadd, 1) := by decide +kernel
theorem dX10_lay_213 : decode cX10_lay 213 = .ok (.iaload, 1) := by decide +kernel
theorem dX10_lay_214 : decode cX10_lay 214 = .ok (.iastore, 1) := by decide +kernel
theorem dX10_lay_215 : decode cX10_lay 215 = .ok (.iinc 1 1, 3) := by decide +kernel
theorem dX10_lay_218 : decode cX10_lay 218 = .ok (.goto (-87), 3) := by decide +kernel
theorem dX10_lay_221 : decode cX10_lay 221 = .ok (.aload_n 0, 1) := by decide +kernel
theorem dX10_lay_222 : decode cX10_lay 222 = .ok (.iconst 0, 1) := by decide +kernel
theorem dX10_lay_223 : decode cX10_lay 223 = .ok (.putfield 170, 3) := by decide +kernel
theorem dX10_lay_226 : decode cX10_lay 226 = .ok (.aload_n 0, 1) := by decide +kernel
theorem dX10_lay_227 : decode cX10_lay 227 = .ok (.iconst 0, 1) := by decide +kernel
theorem dX10_lay_228 : decode cX10_lay 228 = .ok (.putfield 173, 3) := by decide +kernel
theorem dX10_lay_231 : decode cX10_lay 231 = .ok (.aload_n 0, 1) := by decide +kernel
theorem dX10_lay_232 : decode cX10_lay 232 = .ok (.iconst 0, 1) := by decide +kernel
theorem dX10_lay_233 : decode cX10_lay 233 = .ok (.putfield 176, 3) := by decide +kernel
theorem dX10_lay_236 : decode cX10_lay 236 = .ok (.aload_n 0, 1) := by decide +kernel
theorem dX10_lay_237 : decode cX10_lay 237 = .ok (.getfield 29, 3) := by decide +kernel
theorem dX10_lay_240 : decode cX10_lay 240 = .ok (.ireturn, 1) := by decide +kernel
theorem dX10_lengthOn_0 : decode cX10_lengthOn 0 = .ok (.aload_n 0, 1) := by decide +kernel
theorem dX10_lengthOn_1 : decode cX10_lengthOn 1 = .ok (.getfield 179, 3) := by decide +kernel
theorem dX10_lengthOn_4 : decode cX10_lengthOn 4 = .ok (.ifCond .eq 21, 3) := by decide +kernel
theorem dX10_lengthOn_7 : decode cX10_lengthOn 7 = .ok (.iload_n 2, 1) := by decide +kernel
theorem dX10_lengthOn_8 : decode cX10_lengthOn 8 = .ok (.iconst 2, 1) := by decide +kernel
theorem dX10_lengthOn_9 : decode cX10_lengthOn 9 = .ok (.irem, 1) := by decide +kernel
theorem dX10_lengthOn_10 : decode cX10_lengthOn 10 = .ok (.iconst 1, 1) := by decide +kernel
theorem dX10_lengthOn_11 : decode cX10_lengthOn 11 = .ok (.if_icmp .ne 14, 3) := by decide +kernel
theorem dX10_lengthOn_14 : decode cX10_lengthOn 14 = .ok (.iload_n 1, 1) := by decide +kernel
theorem dX10_lengthOn_15 : decode cX10_lengthOn 15 = .ok (.iconst 1, 1) := by decide +kernel
theorem dX10_lengthOn_16 : decode cX10_lengthOn 16 = .ok (.iadd, 1) := by decide +kernel
theorem dX10_lengthOn_17 : decode cX10_lengthOn 17 = .ok (.aload_n 0, 1) := by decide +kernel
theorem dX10_lengthOn_18 : decode cX10_lengthOn 18 = .ok (.getfield 13, 3) := by decide +kernel
theorem dX10_lengthOn_21 : decode cX10_lengthOn 21 = .ok (.irem, 1) := by decide +kernel
theorem dX10_lengthOn_22 : decode cX10_lengthOn 22 = .ok (.goto 4, 3) := by decide +kernel
theorem dX10_lengthOn_25 : decode cX10_lengthOn 25 = .ok (.iload_n 1, 1) := by decide +kernel
theorem dX10_lengthOn_26 : decode cX10_lengthOn 26 = .ok (.istore_n 3, 1) := by decide +kernel
theorem dX10_lengthOn_27 : decode cX10_lengthOn 27 = .ok (.iconst 3, 1) := by decide +kernel
theorem dX10_lengthOn_28 : decode cX10_lengthOn 28 = .ok (.istore 4, 2) := by decide +kernel
theorem dX10_lengthOn_30 : decode cX10_lengthOn 30 = .ok (.aload_n 0, 1) := by decide +kernel
theorem dX10_lengthOn_31 : decode cX10_lengthOn 31 = .ok (.getfield 62, 3) := by decide +kernel
theorem dX10_lengthOn_34 : decode cX10_lengthOn 34 = .ok (.ifCond .lt 46, 3) := by decide +kernel
theorem dX10_lengthOn_37 : decode cX10_lengthOn 37 = .ok (.ldc2_w 183, 3) := by decide +kernel
theorem dX10_lengthOn_40 : decode cX10_lengthOn 40 = .ok (.aload_n 0, 1) := by decide +kernel
theorem dX10_lengthOn_41 : decode cX10_lengthOn 41 = .ok (.getfield 62, 3) := by decide +kernel
theorem dX10_lengthOn_44 : decode cX10_lengthOn 44 = .ok (.i2l, 1) := by decide +kernel
theorem dX10_lengthOn_45 : decode cX10_lengthOn 45 = .ok (.lmul, 1) := by decide +kernel
theorem dX10_lengthOn_46 : decode cX10_lengthOn 46 = .ok (.ldc2_w 185, 3) := by decide +kernel
theorem dX10_lengthOn_49 : decode cX10_lengthOn 49 = .ok (.iload_n 2, 1) := by decide +kernel
theorem dX10_lengthOn_50 : decode cX10_lengthOn 50 = .ok (.i2l, 1) := by decide +kernel
theorem dX10_lengthOn_51 : decode cX10_lengthOn 51 = .ok (.lmul, 1) := by decide +kernel
theorem dX10_lengthOn_52 : decode cX10_lengthOn 52 = .ok (.ladd, 1) := by decide +kernel
theorem dX10_lengthOn_53 : decode cX10_lengthOn 53 = .ok (.ldc2_w 187, 3) := by decide +kernel
theorem dX10_lengthOn_56 : decode cX10_lengthOn 56 = .ok (.iload_n 3, 1) := by decide +kernel
theorem dX10_lengthOn_57 : decode cX10_lengthOn 57 = .ok (.i2l, 1) := by decide +kernel
theorem dX10_lengthOn_58 : decode cX10_lengthOn 58 = .ok (.lmul, 1) := by decide +kernel
theorem dX10_lengthOn_59 : decode cX10_lengthOn 59 = .ok (.ladd, 1) := by decide +kernel
theorem dX10_lengthOn_60 : decode cX10_lengthOn 60 = .ok (.lconst 1, 1) := by decide +kernel
theorem dX10_lengthOn_61 : decode cX10_lengthOn 61 = .ok (.ladd, 1) := by decide +kernel
theorem dX10_lengthOn_62 : decode cX10_lengthOn 62 = .ok (.lstore 5, 2) := by decide +kernel
theorem dX10_lengthOn_64 : decode cX10_lengthOn 64 = .ok (.lload 5, 2) := by decide +kernel
theorem dX10_lengthOn_66 : decode cX10_lengthOn 66 = .ok (.lload 5, 2) := by decide +kernel
theorem dX10_lengthOn_68 : decode cX10_lengthOn 68 = .ok (.lmul, 1) := by decide +kernel
theorem dX10_lengthOn_69 : decode cX10_lengthOn 69 = .ok (.ldc2_w 189, 3) := by decide +kernel
theorem dX10_lengthOn_72 : decode cX10_lengthOn 72 = .ok (.lrem, 1) := by decide +kernel
theorem dX10_lengthOn_73 : decode cX10_lengthOn 73 = .ok (.ldc2_w 191, 3) := by decide +kernel
theorem dX10_lengthOn_76 : decode cX10_lengthOn 76 = .ok (.lrem, 1) := by decide +kernel
theorem dX10_lengthOn_77 : decode cX10_lengthOn 77 = .ok (.l2i, 1) := by decide +kernel
theorem dX10_lengthOn_78 : decode cX10_lengthOn 78 = .ok (.istore 4, 2) := by decide +kernel
theorem dX10_lengthOn_80 : decode cX10_lengthOn 80 = .ok (.aload_n 0, 1) := by decide +kernel
theorem dX10_lengthOn_81 : decode cX10_lengthOn 81 = .ok (.getfield 7, 3) := by decide +kernel
theorem dX10_lengthOn_84 : decode cX10_lengthOn 84 = .ok (.iload_n 3, 1) := by decide +kernel
theorem dX10_lengthOn_85 : decode cX10_lengthOn 85 = .ok (.iaload, 1) := by decide +kernel
theorem dX10_lengthOn_86 : decode cX10_lengthOn 86 = .ok (.aload_n 0, 1) := by decide +kernel
theorem dX10_lengthOn_87 : decode cX10_lengthOn 87 = .ok (.getfield 17, 3) := by decide +kernel
theorem dX10_lengthOn_90 : decode cX10_lengthOn 90 = .ok (.iload_n 2, 1) := by decide +kernel
theorem dX10_lengthOn_91 : decode cX10_lengthOn 91 = .ok (.iaload, 1) := by decide +kernel
theorem dX10_lengthOn_92 : decode cX10_lengthOn 92 = .ok (.iadd, 1) := by decide +kernel
theorem dX10_lengthOn_93 : decode cX10_lengthOn 93 = .ok (.iload 4, 2) := by decide +kernel
theorem dX10_lengthOn_95 : decode cX10_lengthOn 95 = .ok (.iadd, 1) := by decide +kernel
theorem dX10_lengthOn_96 : decode cX10_lengthOn 96 = .ok (.iconst 3, 1) := by decide +kernel
theorem dX10_lengthOn_97 : decode cX10_lengthOn 97 = .ok (.isub, 1) := by decide +kernel
theorem dX10_lengthOn_98 : decode cX10_lengthOn 98 = .ok (.ireturn, 1) := by decide +kernel
theorem dX10_bed_0 : decode cX10_bed 0 = .ok (.aload_n 0, 1) := by decide +kernel
theorem dX10_bed_1 : decode cX10_bed 1 = .ok (.iload_n 1, 1) := by decide +kernel
theorem dX10_bed_2 : decode cX10_bed 2 = .ok (.invokevirtual 193, 3) := by decide +kernel
theorem dX10_bed_5 : decode cX10_bed 5 = .ok (.ifCond .eq 19, 3) := by decide +kernel
theorem dX10_bed_8 : decode cX10_bed 8 = .ok (.iload_n 2, 1) := by decide +kernel
theorem dX10_bed_9 : decode cX10_bed 9 = .ok (.invokestatic 196, 3) := by decide +kernel
theorem dX10_bed_12 : decode cX10_bed 12 = .ok (.ifCond .eq 12, 3) := by decide +kernel
theorem dX10_bed_15 : decode cX10_bed 15 = .ok (.aload_n 0, 1) := by decide +kernel
theorem dX10_bed_16 : decode cX10_bed 16 = .ok (.iload_n 1, 1) := by decide +kernel
theorem dX10_bed_17 : decode cX10_bed 17 = .ok (.iload_n 2, 1) := by decide +kernel
theorem dX10_bed_18 : decode cX10_bed 18 = .ok (.invokevirtual 199, 3) := by decide +kernel
theorem dX10_bed_21 : decode cX10_bed 21 = .ok (.goto 4, 3) := by decide +kernel
theorem dX10_bed_24 : decode cX10_bed 24 = .ok (.iconst (-1), 1) := by decide +kernel
theorem dX10_bed_25 : decode cX10_bed 25 = .ok (.ireturn, 1) := by decide +kernel
theorem dX10_inchesOn_0 : decode cX10_inchesOn 0 = .ok (.aload_n 0, 1) := by decide +kernel
theorem dX10_inchesOn_1 : decode cX10_inchesOn 1 = .ok (.getfield 23, 3) := by decide +kernel
theorem dX10_inchesOn_4 : decode cX10_inchesOn 4 = .ok (.iload_n 1, 1) := by decide +kernel
theorem dX10_inchesOn_5 : decode cX10_inchesOn 5 = .ok (.iaload, 1) := by decide +kernel
theorem dX10_inchesOn_6 : decode cX10_inchesOn 6 = .ok (.iconst 4, 1) := by decide +kernel
theorem dX10_inchesOn_7 : decode cX10_inchesOn 7 = .ok (.if_icmp .ne 30, 3) := by decide +kernel
theorem dX10_inchesOn_10 : decode cX10_inchesOn 10 = .ok (.iload_n 2, 1) := by decide +kernel
theorem dX10_inchesOn_11 : decode cX10_inchesOn 11 = .ok (.aload_n 0, 1) := by decide +kernel
theorem dX10_inchesOn_12 : decode cX10_inchesOn 12 = .ok (.getfield 38, 3) := by decide +kernel
theorem dX10_inchesOn_15 : decode cX10_inchesOn 15 = .ok (.bipush 14, 2) := by decide +kernel
theorem dX10_inchesOn_17 : decode cX10_inchesOn 17 = .ok (.iload_n 1, 1) := by decide +kernel
theorem dX10_inchesOn_18 : decode cX10_inchesOn 18 = .ok (.iadd, 1) := by decide +kernel
theorem dX10_inchesOn_19 : decode cX10_inchesOn 19 = .ok (.iaload, 1) := by decide +kernel
theorem dX10_inchesOn_20 : decode cX10_inchesOn 20 = .ok (.if_icmp .le 17, 3) := by decide +kernel
theorem dX10_inchesOn_23 : decode cX10_inchesOn 23 = .ok (.iload_n 2, 1) := by decide +kernel
theorem dX10_inchesOn_24 : decode cX10_inchesOn 24 = .ok (.aload_n 0, 1) := by decide +kernel
theorem dX10_inchesOn_25 : decode cX10_inchesOn 25 = .ok (.getfield 38, 3) := by decide +kernel
theorem dX10_inchesOn_28 : decode cX10_inchesOn 28 = .ok (.bipush 14, 2) := by decide +kernel
theorem dX10_inchesOn_30 : decode cX10_inchesOn 30 = .ok (.iload_n 1, 1) := by decide +kernel
theorem dX10_inchesOn_31 : decode cX10_inchesOn 31 = .ok (.iadd, 1) := by decide +kernel
theorem dX10_inchesOn_32 : decode cX10_inchesOn 32 = .ok (.iaload, 1) := by decide +kernel
theorem dX10_inchesOn_33 : decode cX10_inchesOn 33 = .ok (.isub, 1) := by decide +kernel
theorem dX10_inchesOn_34 : decode cX10_inchesOn 34 = .ok (.goto 4, 3) := by decide +kernel
theorem dX10_inchesOn_37 : decode cX10_inchesOn 37 = .ok (.iconst 0, 1) := by decide +kernel
theorem dX10_inchesOn_38 : decode cX10_inchesOn 38 = .ok (.istore_n 3, 1) := by decide +kernel
theorem dX10_inchesOn_39 : decode cX10_inchesOn 39 = .ok (.aload_n 0, 1) := by decide +kernel
theorem dX10_inchesOn_40 : decode cX10_inchesOn 40 = .ok (.getfield 20, 3) := by decide +kernel
theorem dX10_inchesOn_43 : decode cX10_inchesOn 43 = .ok (.iload_n 1, 1) := by decide +kernel
theorem dX10_inchesOn_44 : decode cX10_inchesOn 44 = .ok (.iaload, 1) := by decide +kernel
theorem dX10_inchesOn_45 : decode cX10_inchesOn 45 = .ok (.aload_n 0, 1) := by decide +kernel
theorem dX10_inchesOn_46 : decode cX10_inchesOn 46 = .ok (.getfield 38, 3) := by decide +kernel
theorem dX10_inchesOn_49 : decode cX10_inchesOn 49 = .ok (.bipush 7, 2) := by decide +kernel
theorem dX10_inchesOn_51 : decode cX10_inchesOn 51 = .ok (.iload_n 1, 1) := by decide +kernel
theorem dX10_inchesOn_52 : decode cX10_inchesOn 52 = .ok (.iadd, 1) := by decide +kernel
theorem dX10_inchesOn_53 : decode cX10_inchesOn 53 = .ok (.iaload, 1) := by decide +kernel
theorem dX10_inchesOn_54 : decode cX10_inchesOn 54 = .ok (.iadd, 1) := by decide +kernel
theorem dX10_inchesOn_55 : decode cX10_inchesOn 55 = .ok (.iload_n 3, 1) := by decide +kernel
theorem dX10_inchesOn_56 : decode cX10_inchesOn 56 = .ok (.iadd, 1) := by decide +kernel
theorem dX10_inchesOn_57 : decode cX10_inchesOn 57 = .ok (.ireturn, 1) := by decide +kernel
theorem dX10_harmBy_0 : decode cX10_harmBy 0 = .ok (.aload_n 0, 1) := by decide +kernel
theorem dX10_harmBy_1 : decode cX10_harmBy 1 = .ok (.getfield 23, 3) := by decide +kernel
theorem dX10_harmBy_4 : decode cX10_harmBy 4 = .ok (.iload_n 1, 1) := by decide +kernel
theorem dX10_harmBy_5 : decode cX10_harmBy 5 = .ok (.iaload, 1) := by decide +kernel
theorem dX10_harmBy_6 : decode cX10_harmBy 6 = .ok (.istore_n 3, 1) := by decide +kernel
theorem dX10_harmBy_7 : decode cX10_harmBy 7 = .ok (.iload_n 2, 1) := by decide +kernel
theorem dX10_harmBy_8 : decode cX10_harmBy 8 = .ok (.ifCond .ge 8, 3) := by decide +kernel
theorem dX10_harmBy_11 : decode cX10_harmBy 11 = .ok (.iload_n 2, 1) := by decide +kernel
theorem dX10_harmBy_12 : decode cX10_harmBy 12 = .ok (.ineg, 1) := by decide +kernel
theorem dX10_harmBy_13 : decode cX10_harmBy 13 = .ok (.goto 4, 3) := by decide +kernel
theorem dX10_harmBy_16 : decode cX10_harmBy 16 = .ok (.iload_n 2, 1) := by decide +kernel
theorem dX10_harmBy_17 : decode cX10_harmBy 17 = .ok (.istore 4, 2) := by decide +kernel
theorem dX10_harmBy_19 : decode cX10_harmBy 19 = .ok (.iload_n 3, 1) := by decide +kernel
theorem dX10_harmBy_20 : decode cX10_harmBy 20 = .ok (.iconst 1, 1) := by decide +kernel
theorem dX10_harmBy_21 : decode cX10_harmBy 21 = .ok (.if_icmp .ne 22, 3) := by decide +kernel
theorem dX10_harmBy_24 : decode cX10_harmBy 24 = .ok (.iload_n 2, 1) := by decide +kernel
theorem dX10_harmBy_25 : decode cX10_harmBy 25 = .ok (.ifCond .le 18, 3) := by decide +kernel
theorem dX10_harmBy_28 : decode cX10_harmBy 28 = .ok (.iload_n 2, 1) := by decide +kernel
theorem dX10_harmBy_29 : decode cX10_harmBy 29 = .ok (.bipush 6, 2) := by decide +kernel
theorem dX10_harmBy_31 : decode cX10_harmBy 31 = .ok (.if_icmp .le 10, 3) := by decide +kernel
theorem dX10_harmBy_34 : decode cX10_harmBy 34 = .ok (.iload_n 2, 1) := by decide +kernel
theorem dX10_harmBy_35 : decode cX10_harmBy 35 = .ok (.bipush 6, 2) := by decide +kernel
theorem dX10_harmBy_37 : decode cX10_harmBy 37 = .ok (.isub, 1) := by decide +kernel
theorem dX10_harmBy_38 : decode cX10_harmBy 38 = .ok (.goto 4, 3) := by decide +kernel
theorem dX10_harmBy_41 : decode cX10_harmBy 41 = .ok (.iconst 0, 1) := by decide +kernel
theorem dX10_harmBy_42 : decode cX10_harmBy 42 = .ok (.ireturn, 1) := by decide +kernel
theorem dX10_harmBy_43 : decode cX10_harmBy 43 = .ok (.iload_n 3, 1) := by decide +kernel
theorem dX10_harmBy_44 : decode cX10_harmBy 44 = .ok (.iconst 2, 1) := by decide +kernel
theorem dX10_harmBy_45 : decode cX10_harmBy 45 = .ok (.if_icmp .ne 12, 3) := by decide +kernel
theorem dX10_harmBy_48 : decode cX10_harmBy 48 = .ok (.iload_n 2, 1) := by decide +kernel
theorem dX10_harmBy_49 : decode cX10_harmBy 49 = .ok (.ifCond .ge 8, 3) := by decide +kernel
theorem dX10_harmBy_52 : decode cX10_harmBy 52 = .ok (.iconst 2, 1) := by decide +kernel
theorem dX10_harmBy_53 : decode cX10_harmBy 53 = .ok (.iload 4, 2) := by decide +kernel
theorem dX10_harmBy_55 : decode cX10_harmBy 55 = .ok (.imul, 1) := by decide +kernel
theorem dX10_harmBy_56 : decode cX10_harmBy 56 = .ok (.ireturn, 1) := by decide +kernel
theorem dX10_harmBy_57 : decode cX10_harmBy 57 = .ok (.iload_n 3, 1) := by decide +kernel
theorem dX10_harmBy_58 : decode cX10_harmBy 58 = .ok (.iconst 3, 1) := by decide +kernel
theorem dX10_harmBy_59 : decode cX10_harmBy 59 = .ok (.if_icmp .eq 8, 3) := by decide +kernel
theorem dX10_harmBy_62 : decode cX10_harmBy 62 = .ok (.iload 4, 2) := by decide +kernel
theorem dX10_harmBy_64 : decode cX10_harmBy 64 = .ok (.goto 17, 3) := by decide +kernel
theorem dX10_harmBy_67 : decode cX10_harmBy 67 = .ok (.iload 4, 2) := by decide +kernel
theorem dX10_harmBy_69 : decode cX10_harmBy 69 = .ok (.iconst 2, 1) := by decide +kernel
theorem dX10_harmBy_70 : decode cX10_harmBy 70 = .ok (.if_icmp .le 10, 3) := by decide +kernel
theorem dX10_harmBy_73 : decode cX10_harmBy 73 = .ok (.iload 4, 2) := by decide +kernel
theorem dX10_harmBy_75 : decode cX10_harmBy 75 = .ok (.iconst 2, 1) := by decide +kernel
theorem dX10_harmBy_76 : decode cX10_harmBy 76 = .ok (.isub, 1) := by decide +kernel
theorem dX10_harmBy_77 : decode cX10_harmBy 77 = .ok (.goto 4, 3) := by decide +kernel
theorem dX10_harmBy_80 : decode cX10_harmBy 80 = .ok (.iconst 0, 1) := by decide +kernel
theorem dX10_harmBy_81 : decode cX10_harmBy 81 = .ok (.ireturn, 1) := by decide +kernel
theorem dX10_harmOf_0 : decode cX10_harmOf 0 = .ok (.aload_n 0, 1) := by decide +kernel
theorem dX10_harmOf_1 : decode cX10_harmOf 1 = .ok (.iload_n 1, 1) := by decide +kernel
theorem dX10_harmOf_2 : decode cX10_harmOf 2 = .ok (.aload_n 0, 1) := by decide +kernel
theorem dX10_harmOf_3 : decode cX10_harmOf 3 = .ok (.iload_n 1, 1) := by decide +kernel
theorem dX10_harmOf_4 : decode cX10_harmOf 4 = .ok (.iload_n 3, 1) := by decide +kernel
theorem dX10_harmOf_5 : decode cX10_harmOf 5 = .ok (.invokevirtual 203, 3) := by decide +kernel
theorem dX10_harmOf_8 : decode cX10_harmOf 8 = .ok (.aload_n 0, 1) := by decide +kernel
theorem dX10_harmOf_9 : decode cX10_harmOf 9 = .ok (.iload_n 2, 1) := by decide +kernel
theorem dX10_harmOf_10 : decode cX10_harmOf 10 = .ok (.iload_n 3, 1) := by decide +kernel
theorem dX10_harmOf_11 : decode cX10_harmOf 11 = .ok (.invokevirtual 199, 3) := by decide +kernel
theorem dX10_harmOf_14 : decode cX10_harmOf 14 = .ok (.isub, 1) := by decide +kernel
theorem dX10_harmOf_15 : decode cX10_harmOf 15 = .ok (.invokevirtual 206, 3) := by decide +kernel
theorem dX10_harmOf_18 : decode cX10_harmOf 18 = .ok (.ireturn, 1) := by decide +kernel
theorem dX10_harm_0 : decode cX10_harm 0 = .ok (.aload_n 0, 1) := by decide +kernel
theorem dX10_harm_1 : decode cX10_harm 1 = .ok (.iload_n 1, 1) := by decide +kernel
theorem dX10_harm_2 : decode cX10_harm 2 = .ok (.invokevirtual 209, 3) := by decide +kernel
theorem dX10_harm_5 : decode cX10_harm 5 = .ok (.ifCond .eq 28, 3) := by decide +kernel
theorem dX10_harm_8 : decode cX10_harm 8 = .ok (.aload_n 0, 1) := by decide +kernel
theorem dX10_harm_9 : decode cX10_harm 9 = .ok (.iload_n 2, 1) := by decide +kernel
theorem dX10_harm_10 : decode cX10_harm 10 = .ok (.invokevirtual 193, 3) := by decide +kernel
theorem dX10_harm_13 : decode cX10_harm 13 = .ok (.ifCond .eq 20, 3) := by decide +kernel
theorem dX10_harm_16 : decode cX10_harm 16 = .ok (.iload_n 3, 1) := by decide +kernel
theorem dX10_harm_17 : decode cX10_harm 17 = .ok (.invokestatic 196, 3) := by decide +kernel
theorem dX10_harm_20 : decode cX10_harm 20 = .ok (.ifCond .eq 13, 3) := by decide +kernel
theorem dX10_harm_23 : decode cX10_harm 23 = .ok (.aload_n 0, 1) := by decide +kernel
theorem dX10_harm_24 : decode cX10_harm 24 = .ok (.iload_n 1, 1) := by decide +kernel
theorem dX10_harm_25 : decode cX10_harm 25 = .ok (.iload_n 2, 1) := by decide +kernel
theorem dX10_harm_26 : decode cX10_harm 26 = .ok (.iload_n 3, 1) := by decide +kernel
theorem dX10_harm_27 : decode cX10_harm 27 = .ok (.invokevirtual 212, 3) := by decide +kernel
theorem dX10_harm_30 : decode cX10_harm 30 = .ok (.goto 4, 3) := by decide +kernel
theorem dX10_harm_33 : decode cX10_harm 33 = .ok (.iconst (-1), 1) := by decide +kernel
theorem dX10_harm_34 : decode cX10_harm 34 = .ok (.ireturn, 1) := by decide +kernel
theorem dX10_placeOf_0 : decode cX10_placeOf 0 = .ok (.iconst 0, 1) := by decide +kernel
theorem dX10_placeOf_1 : decode cX10_placeOf 1 = .ok (.istore_n 2, 1) := by decide +kernel
theorem dX10_placeOf_2 : decode cX10_placeOf 2 = .ok (.aload_n 0, 1) := by decide +kernel
theorem dX10_placeOf_3 : decode cX10_placeOf 3 = .ok (.getfield 38, 3) := by decide +kernel
theorem dX10_placeOf_6 : decode cX10_placeOf 6 = .ok (.iload_n 2, 1) := by decide +kernel
theorem dX10_placeOf_7 : decode cX10_placeOf 7 = .ok (.iaload, 1) := by decide +kernel
theorem dX10_placeOf_8 : decode cX10_placeOf 8 = .ok (.iload_n 1, 1) := by decide +kernel
theorem dX10_placeOf_9 : decode cX10_placeOf 9 = .ok (.if_icmp .eq 9, 3) := by decide +kernel
theorem dX10_placeOf_12 : decode cX10_placeOf 12 = .ok (.iinc 2 1, 3) := by decide +kernel
theorem dX10_placeOf_15 : decode cX10_placeOf 15 = .ok (.goto (-13), 3) := by decide +kernel
theorem dX10_placeOf_18 : decode cX10_placeOf 18 = .ok (.iload_n 2, 1) := by decide +kernel
theorem dX10_placeOf_19 : decode cX10_placeOf 19 = .ok (.ireturn, 1) := by decide +kernel
theorem dX10_guest_0 : decode cX10_guest 0 = .ok (.aload_n 0, 1) := by decide +kernel
theorem dX10_guest_1 : decode cX10_guest 1 = .ok (.iload_n 1, 1) := by decide +kernel
theorem dX10_guest_2 : decode cX10_guest 2 = .ok (.invokevirtual 209, 3) := by decide +kernel
theorem dX10_guest_5 : decode cX10_guest 5 = .ok (.ifCond .ne 5, 3) := by decide +kernel
theorem dX10_guest_8 : decode cX10_guest 8 = .ok (.iconst (-1), 1) := by decide +kernel
theorem dX10_guest_9 : decode cX10_guest 9 = .ok (.ireturn, 1) := by decide +kernel
theorem dX10_guest_10 : decode cX10_guest 10 = .ok (.iload_n 2, 1) := by decide +kernel
theorem dX10_guest_11 : decode cX10_guest 11 = .ok (.tableswitch 87 0 5 #[37, 44, 54, 61, 74, 81], 37) := by decide +kernel
theorem dX10_guest_48 : decode cX10_guest 48 = .ok (.aload_n 0, 1) := by decide +kernel
theorem dX10_guest_49 : decode cX10_guest 49 = .ok (.getfield 20, 3) := by decide +kernel
theorem dX10_guest_52 : decode cX10_guest 52 = .ok (.iload_n 1, 1) := by decide +kernel
theorem dX10_guest_53 : decode cX10_guest 53 = .ok (.iaload, 1) := by decide +kernel
theorem dX10_guest_54 : decode cX10_guest 54 = .ok (.ireturn, 1) := by decide +kernel
theorem dX10_guest_55 : decode cX10_guest 55 = .ok (.aload_n 0, 1) := by decide +kernel
theorem dX10_guest_56 : decode cX10_guest 56 = .ok (.getfield 38, 3) := by decide +kernel
theorem dX10_guest_59 : decode cX10_guest 59 = .ok (.bipush 14, 2) := by decide +kernel
theorem dX10_guest_61 : decode cX10_guest 61 = .ok (.iload_n 1, 1) := by decide +kernel
theorem dX10_guest_62 : decode cX10_guest 62 = .ok (.iadd, 1) := by decide +kernel
theorem dX10_guest_63 : decode cX10_guest 63 = .ok (.iaload, 1) := by decide +kernel
theorem dX10_guest_64 : decode cX10_guest 64 = .ok (.ireturn, 1) := by decide +kernel
theorem dX10_guest_65 : decode cX10_guest 65 = .ok (.aload_n 0, 1) := by decide +kernel
theorem dX10_guest_66 : decode cX10_guest 66 = .ok (.getfield 23, 3) := by decide +kernel
theorem dX10_guest_69 : decode cX10_guest 69 = .ok (.iload_n 1, 1) := by decide +kernel
theorem dX10_guest_70 : decode cX10_guest 70 = .ok (.iaload, 1) := by decide +kernel
end
section
theorem dX10_guest_71 : decode cX10_guest 71 = .ok (.ireturn, 1) := by decide +kernel
theorem dX10_guest_72 : decode cX10_guest 72 = .ok (.aload_n 0, 1) := by decide +kernel
theorem dX10_guest_73 : decode cX10_guest 73 = .ok (.getfield 38, 3) := by decide +kernel
theorem dX10_guest_76 : decode cX10_guest 76 = .ok (.bipush 7, 2) := by decide +kernel
theorem dX10_guest_78 : decode cX10_guest 78 = .ok (.iload_n 1, 1) := by decide +kernel
theorem dX10_guest_79 : decode cX10_guest 79 = .ok (.iadd, 1) := by decide +kernel
theorem dX10_guest_80 : decode cX10_guest 80 = .ok (.iaload, 1) := by decide +kernel
theorem dX10_guest_81 : decode cX10_guest 81 = .ok (.bipush 100, 2) := by decide +kernel
theorem dX10_guest_83 : decode cX10_guest 83 = .ok (.iadd, 1) := by decide +kernel
theorem dX10_guest_84 : decode cX10_guest 84 = .ok (.ireturn, 1) := by decide +kernel
theorem dX10_guest_85 : decode cX10_guest 85 = .ok (.aload_n 0, 1) := by decide +kernel
theorem dX10_guest_86 : decode cX10_guest 86 = .ok (.getfield 26, 3) := by decide +kernel
theorem dX10_guest_89 : decode cX10_guest 89 = .ok (.iload_n 1, 1) := by decide +kernel
theorem dX10_guest_90 : decode cX10_guest 90 = .ok (.iaload, 1) := by decide +kernel
theorem dX10_guest_91 : decode cX10_guest 91 = .ok (.ireturn, 1) := by decide +kernel
theorem dX10_guest_92 : decode cX10_guest 92 = .ok (.aload_n 0, 1) := by decide +kernel
theorem dX10_guest_93 : decode cX10_guest 93 = .ok (.iload_n 1, 1) := by decide +kernel
theorem dX10_guest_94 : decode cX10_guest 94 = .ok (.invokevirtual 216, 3) := by decide +kernel
theorem dX10_guest_97 : decode cX10_guest 97 = .ok (.ireturn, 1) := by decide +kernel
theorem dX10_guest_98 : decode cX10_guest 98 = .ok (.iconst (-1), 1) := by decide +kernel
theorem dX10_guest_99 : decode cX10_guest 99 = .ok (.ireturn, 1) := by decide +kernel
theorem dX10_isWaiting_0 : decode cX10_isWaiting 0 = .ok (.aload_n 0, 1) := by decide +kernel
theorem dX10_isWaiting_1 : decode cX10_isWaiting 1 = .ok (.getfield 65, 3) := by decide +kernel
theorem dX10_isWaiting_4 : decode cX10_isWaiting 4 = .ok (.iload_n 1, 1) := by decide +kernel
theorem dX10_isWaiting_5 : decode cX10_isWaiting 5 = .ok (.iaload, 1) := by decide +kernel
theorem dX10_isWaiting_6 : decode cX10_isWaiting 6 = .ok (.ifCond .ge 20, 3) := by decide +kernel
theorem dX10_isWaiting_9 : decode cX10_isWaiting 9 = .ok (.aload_n 0, 1) := by decide +kernel
theorem dX10_isWaiting_10 : decode cX10_isWaiting 10 = .ok (.getfield 38, 3) := by decide +kernel
theorem dX10_isWaiting_13 : decode cX10_isWaiting 13 = .ok (.bipush 14, 2) := by decide +kernel
theorem dX10_isWaiting_15 : decode cX10_isWaiting 15 = .ok (.iload_n 1, 1) := by decide +kernel
theorem dX10_isWaiting_16 : decode cX10_isWaiting 16 = .ok (.iadd, 1) := by decide +kernel
theorem dX10_isWaiting_17 : decode cX10_isWaiting 17 = .ok (.iaload, 1) := by decide +kernel
theorem dX10_isWaiting_18 : decode cX10_isWaiting 18 = .ok (.iload_n 2, 1) := by decide +kernel
theorem dX10_isWaiting_19 : decode cX10_isWaiting 19 = .ok (.if_icmp .gt 7, 3) := by decide +kernel
theorem dX10_isWaiting_22 : decode cX10_isWaiting 22 = .ok (.iconst 1, 1) := by decide +kernel
theorem dX10_isWaiting_23 : decode cX10_isWaiting 23 = .ok (.goto 4, 3) := by decide +kernel
theorem dX10_isWaiting_26 : decode cX10_isWaiting 26 = .ok (.iconst 0, 1) := by decide +kernel
theorem dX10_isWaiting_27 : decode cX10_isWaiting 27 = .ok (.ireturn, 1) := by decide +kernel
theorem dX10_lieDown_0 : decode cX10_lieDown 0 = .ok (.aload_n 0, 1) := by decide +kernel
theorem dX10_lieDown_1 : decode cX10_lieDown 1 = .ok (.getfield 65, 3) := by decide +kernel
theorem dX10_lieDown_4 : decode cX10_lieDown 4 = .ok (.iload_n 1, 1) := by decide +kernel
theorem dX10_lieDown_5 : decode cX10_lieDown 5 = .ok (.iload_n 3, 1) := by decide +kernel
theorem dX10_lieDown_6 : decode cX10_lieDown 6 = .ok (.iastore, 1) := by decide +kernel
theorem dX10_lieDown_7 : decode cX10_lieDown 7 = .ok (.aload_n 0, 1) := by decide +kernel
theorem dX10_lieDown_8 : decode cX10_lieDown 8 = .ok (.getfield 68, 3) := by decide +kernel
theorem dX10_lieDown_11 : decode cX10_lieDown 11 = .ok (.iload_n 1, 1) := by decide +kernel
theorem dX10_lieDown_12 : decode cX10_lieDown 12 = .ok (.iload_n 2, 1) := by decide +kernel
theorem dX10_lieDown_13 : decode cX10_lieDown 13 = .ok (.iastore, 1) := by decide +kernel
theorem dX10_lieDown_14 : decode cX10_lieDown 14 = .ok (.aload_n 0, 1) := by decide +kernel
theorem dX10_lieDown_15 : decode cX10_lieDown 15 = .ok (.getfield 71, 3) := by decide +kernel
theorem dX10_lieDown_18 : decode cX10_lieDown 18 = .ok (.iload_n 1, 1) := by decide +kernel
theorem dX10_lieDown_19 : decode cX10_lieDown 19 = .ok (.aload_n 0, 1) := by decide +kernel
theorem dX10_lieDown_20 : decode cX10_lieDown 20 = .ok (.iload_n 1, 1) := by decide +kernel
theorem dX10_lieDown_21 : decode cX10_lieDown 21 = .ok (.iload_n 2, 1) := by decide +kernel
theorem dX10_lieDown_22 : decode cX10_lieDown 22 = .ok (.iload_n 3, 1) := by decide +kernel
theorem dX10_lieDown_23 : decode cX10_lieDown 23 = .ok (.invokevirtual 212, 3) := by decide +kernel
theorem dX10_lieDown_26 : decode cX10_lieDown 26 = .ok (.iastore, 1) := by decide +kernel
theorem dX10_lieDown_27 : decode cX10_lieDown 27 = .ok (.aload_n 0, 1) := by decide +kernel
theorem dX10_lieDown_28 : decode cX10_lieDown 28 = .ok (.getfield 74, 3) := by decide +kernel
theorem dX10_lieDown_31 : decode cX10_lieDown 31 = .ok (.iload_n 1, 1) := by decide +kernel
theorem dX10_lieDown_32 : decode cX10_lieDown 32 = .ok (.iload 4, 2) := by decide +kernel
theorem dX10_lieDown_34 : decode cX10_lieDown 34 = .ok (.iastore, 1) := by decide +kernel
theorem dX10_lieDown_35 : decode cX10_lieDown 35 = .ok (.return_, 1) := by decide +kernel
theorem dX10_give_0 : decode cX10_give 0 = .ok (.bipush (-4), 2) := by decide +kernel
theorem dX10_give_2 : decode cX10_give 2 = .ok (.istore_n 3, 1) := by decide +kernel
theorem dX10_give_3 : decode cX10_give 3 = .ok (.aload_n 0, 1) := by decide +kernel
theorem dX10_give_4 : decode cX10_give 4 = .ok (.getfield 29, 3) := by decide +kernel
theorem dX10_give_7 : decode cX10_give 7 = .ok (.iconst 1, 1) := by decide +kernel
theorem dX10_give_8 : decode cX10_give 8 = .ok (.isub, 1) := by decide +kernel
theorem dX10_give_9 : decode cX10_give 9 = .ok (.istore 4, 2) := by decide +kernel
theorem dX10_give_11 : decode cX10_give 11 = .ok (.iload 4, 2) := by decide +kernel
theorem dX10_give_13 : decode cX10_give 13 = .ok (.ifCond .lt 36, 3) := by decide +kernel
theorem dX10_give_16 : decode cX10_give 16 = .ok (.aload_n 0, 1) := by decide +kernel
theorem dX10_give_17 : decode cX10_give 17 = .ok (.aload_n 0, 1) := by decide +kernel
theorem dX10_give_18 : decode cX10_give 18 = .ok (.getfield 38, 3) := by decide +kernel
theorem dX10_give_21 : decode cX10_give 21 = .ok (.iload 4, 2) := by decide +kernel
theorem dX10_give_23 : decode cX10_give 23 = .ok (.iaload, 1) := by decide +kernel
theorem dX10_give_24 : decode cX10_give 24 = .ok (.iload_n 2, 1) := by decide +kernel
theorem dX10_give_25 : decode cX10_give 25 = .ok (.invokevirtual 220, 3) := by decide +kernel
theorem dX10_give_28 : decode cX10_give 28 = .ok (.ifCond .eq 13, 3) := by decide +kernel
theorem dX10_give_31 : decode cX10_give 31 = .ok (.aload_n 0, 1) := by decide +kernel
theorem dX10_give_32 : decode cX10_give 32 = .ok (.getfield 38, 3) := by decide +kernel
theorem dX10_give_35 : decode cX10_give 35 = .ok (.iload 4, 2) := by decide +kernel
theorem dX10_give_37 : decode cX10_give 37 = .ok (.iaload, 1) := by decide +kernel
theorem dX10_give_38 : decode cX10_give 38 = .ok (.goto 4, 3) := by decide +kernel
theorem dX10_give_41 : decode cX10_give 41 = .ok (.iload_n 3, 1) := by decide +kernel
theorem dX10_give_42 : decode cX10_give 42 = .ok (.istore_n 3, 1) := by decide +kernel
theorem dX10_give_43 : decode cX10_give 43 = .ok (.iinc 4 (-1), 3) := by decide +kernel
theorem dX10_give_46 : decode cX10_give 46 = .ok (.goto (-35), 3) := by decide +kernel
theorem dX10_give_49 : decode cX10_give 49 = .ok (.iload_n 3, 1) := by decide +kernel
theorem dX10_give_50 : decode cX10_give 50 = .ok (.ifCond .ge 4, 3) := by decide +kernel
theorem dX10_give_53 : decode cX10_give 53 = .ok (.return_, 1) := by decide +kernel
theorem dX10_give_54 : decode cX10_give 54 = .ok (.aload_n 0, 1) := by decide +kernel
theorem dX10_give_55 : decode cX10_give 55 = .ok (.getfield 77, 3) := by decide +kernel
theorem dX10_give_58 : decode cX10_give 58 = .ok (.iload_n 3, 1) := by decide +kernel
theorem dX10_give_59 : decode cX10_give 59 = .ok (.dup2, 1) := by decide +kernel
theorem dX10_give_60 : decode cX10_give 60 = .ok (.iaload, 1) := by decide +kernel
theorem dX10_give_61 : decode cX10_give 61 = .ok (.iconst 1, 1) := by decide +kernel
theorem dX10_give_62 : decode cX10_give 62 = .ok (.iadd, 1) := by decide +kernel
theorem dX10_give_63 : decode cX10_give 63 = .ok (.iastore, 1) := by decide +kernel
theorem dX10_give_64 : decode cX10_give 64 = .ok (.bipush (-4), 2) := by decide +kernel
theorem dX10_give_66 : decode cX10_give 66 = .ok (.istore 4, 2) := by decide +kernel
theorem dX10_give_68 : decode cX10_give 68 = .ok (.aload_n 0, 1) := by decide +kernel
theorem dX10_give_69 : decode cX10_give 69 = .ok (.getfield 29, 3) := by decide +kernel
theorem dX10_give_72 : decode cX10_give 72 = .ok (.iconst 1, 1) := by decide +kernel
theorem dX10_give_73 : decode cX10_give 73 = .ok (.isub, 1) := by decide +kernel
theorem dX10_give_74 : decode cX10_give 74 = .ok (.istore 5, 2) := by decide +kernel
theorem dX10_give_76 : decode cX10_give 76 = .ok (.iload 5, 2) := by decide +kernel
theorem dX10_give_78 : decode cX10_give 78 = .ok (.ifCond .lt 100, 3) := by decide +kernel
theorem dX10_give_81 : decode cX10_give 81 = .ok (.iload 5, 2) := by decide +kernel
theorem dX10_give_83 : decode cX10_give 83 = .ok (.iload_n 3, 1) := by decide +kernel
theorem dX10_give_84 : decode cX10_give 84 = .ok (.if_icmp .eq 47, 3) := by decide +kernel
theorem dX10_give_87 : decode cX10_give 87 = .ok (.aload_n 0, 1) := by decide +kernel
theorem dX10_give_88 : decode cX10_give 88 = .ok (.iload 5, 2) := by decide +kernel
theorem dX10_give_90 : decode cX10_give 90 = .ok (.iload_n 2, 1) := by decide +kernel
theorem dX10_give_91 : decode cX10_give 91 = .ok (.invokevirtual 220, 3) := by decide +kernel
theorem dX10_give_94 : decode cX10_give 94 = .ok (.ifCond .eq 37, 3) := by decide +kernel
theorem dX10_give_97 : decode cX10_give 97 = .ok (.aload_n 0, 1) := by decide +kernel
theorem dX10_give_98 : decode cX10_give 98 = .ok (.getfield 35, 3) := by decide +kernel
theorem dX10_give_101 : decode cX10_give 101 = .ok (.iconst 2, 1) := by decide +kernel
theorem dX10_give_102 : decode cX10_give 102 = .ok (.if_icmp .eq 25, 3) := by decide +kernel
theorem dX10_give_105 : decode cX10_give 105 = .ok (.aload_n 0, 1) := by decide +kernel
theorem dX10_give_106 : decode cX10_give 106 = .ok (.getfield 35, 3) := by decide +kernel
theorem dX10_give_109 : decode cX10_give 109 = .ok (.iconst 1, 1) := by decide +kernel
theorem dX10_give_110 : decode cX10_give 110 = .ok (.if_icmp .ne 21, 3) := by decide +kernel
theorem dX10_give_113 : decode cX10_give 113 = .ok (.aload_n 0, 1) := by decide +kernel
theorem dX10_give_114 : decode cX10_give 114 = .ok (.getfield 26, 3) := by decide +kernel
theorem dX10_give_117 : decode cX10_give 117 = .ok (.iload_n 3, 1) := by decide +kernel
theorem dX10_give_118 : decode cX10_give 118 = .ok (.iaload, 1) := by decide +kernel
theorem dX10_give_119 : decode cX10_give 119 = .ok (.iload 5, 2) := by decide +kernel
theorem dX10_give_121 : decode cX10_give 121 = .ok (.invokestatic 224, 3) := by decide +kernel
theorem dX10_give_124 : decode cX10_give 124 = .ok (.ifCond .eq 7, 3) := by decide +kernel
theorem dX10_give_127 : decode cX10_give 127 = .ok (.iconst 1, 1) := by decide +kernel
theorem dX10_give_128 : decode cX10_give 128 = .ok (.goto 4, 3) := by decide +kernel
theorem dX10_give_131 : decode cX10_give 131 = .ok (.iconst 0, 1) := by decide +kernel
theorem dX10_give_132 : decode cX10_give 132 = .ok (.istore 6, 2) := by decide +kernel
theorem dX10_give_134 : decode cX10_give 134 = .ok (.iload 6, 2) := by decide +kernel
theorem dX10_give_136 : decode cX10_give 136 = .ok (.ifCond .eq 32, 3) := by decide +kernel
theorem dX10_give_139 : decode cX10_give 139 = .ok (.iload 4, 2) := by decide +kernel
theorem dX10_give_141 : decode cX10_give 141 = .ok (.ifCond .lt 22, 3) := by decide +kernel
theorem dX10_give_144 : decode cX10_give 144 = .ok (.aload_n 0, 1) := by decide +kernel
theorem dX10_give_145 : decode cX10_give 145 = .ok (.iload 5, 2) := by decide +kernel
theorem dX10_give_147 : decode cX10_give 147 = .ok (.iload_n 1, 1) := by decide +kernel
theorem dX10_give_148 : decode cX10_give 148 = .ok (.iload_n 2, 1) := by decide +kernel
theorem dX10_give_149 : decode cX10_give 149 = .ok (.invokevirtual 212, 3) := by decide +kernel
theorem dX10_give_152 : decode cX10_give 152 = .ok (.aload_n 0, 1) := by decide +kernel
theorem dX10_give_153 : decode cX10_give 153 = .ok (.iload 4, 2) := by decide +kernel
theorem dX10_give_155 : decode cX10_give 155 = .ok (.iload_n 1, 1) := by decide +kernel
theorem dX10_give_156 : decode cX10_give 156 = .ok (.iload_n 2, 1) := by decide +kernel
theorem dX10_give_157 : decode cX10_give 157 = .ok (.invokevirtual 212, 3) := by decide +kernel
theorem dX10_give_160 : decode cX10_give 160 = .ok (.if_icmp .gt 8, 3) := by decide +kernel
theorem dX10_give_163 : decode cX10_give 163 = .ok (.iload 5, 2) := by decide +kernel
theorem dX10_give_165 : decode cX10_give 165 = .ok (.goto 5, 3) := by decide +kernel
theorem dX10_give_168 : decode cX10_give 168 = .ok (.iload 4, 2) := by decide +kernel
theorem dX10_give_170 : decode cX10_give 170 = .ok (.istore 4, 2) := by decide +kernel
theorem dX10_give_172 : decode cX10_give 172 = .ok (.iinc 5 (-1), 3) := by decide +kernel
theorem dX10_give_175 : decode cX10_give 175 = .ok (.goto (-99), 3) := by decide +kernel
theorem dX10_give_178 : decode cX10_give 178 = .ok (.iload 4, 2) := by decide +kernel
theorem dX10_give_180 : decode cX10_give 180 = .ok (.ifCond .lt 25, 3) := by decide +kernel
theorem dX10_give_183 : decode cX10_give 183 = .ok (.aload_n 0, 1) := by decide +kernel
theorem dX10_give_184 : decode cX10_give 184 = .ok (.iload 4, 2) := by decide +kernel
theorem dX10_give_186 : decode cX10_give 186 = .ok (.iload_n 1, 1) := by decide +kernel
theorem dX10_give_187 : decode cX10_give 187 = .ok (.iload_n 2, 1) := by decide +kernel
theorem dX10_give_188 : decode cX10_give 188 = .ok (.invokevirtual 212, 3) := by decide +kernel
theorem dX10_give_191 : decode cX10_give 191 = .ok (.aload_n 0, 1) := by decide +kernel
theorem dX10_give_192 : decode cX10_give 192 = .ok (.iload_n 3, 1) := by decide +kernel
theorem dX10_give_193 : decode cX10_give 193 = .ok (.iload_n 1, 1) := by decide +kernel
theorem dX10_give_194 : decode cX10_give 194 = .ok (.iload_n 2, 1) := by decide +kernel
theorem dX10_give_195 : decode cX10_give 195 = .ok (.invokevirtual 212, 3) := by decide +kernel
theorem dX10_give_198 : decode cX10_give 198 = .ok (.if_icmp .ge 7, 3) := by decide +kernel
theorem dX10_give_201 : decode cX10_give 201 = .ok (.iconst 1, 1) := by decide +kernel
theorem dX10_give_202 : decode cX10_give 202 = .ok (.goto 4, 3) := by decide +kernel
theorem dX10_give_205 : decode cX10_give 205 = .ok (.iconst 0, 1) := by decide +kernel
theorem dX10_give_206 : decode cX10_give 206 = .ok (.istore 5, 2) := by decide +kernel
theorem dX10_give_208 : decode cX10_give 208 = .ok (.aload_n 0, 1) := by decide +kernel
theorem dX10_give_209 : decode cX10_give 209 = .ok (.iload 5, 2) := by decide +kernel
theorem dX10_give_211 : decode cX10_give 211 = .ok (.ifCond .eq 8, 3) := by decide +kernel
theorem dX10_give_214 : decode cX10_give 214 = .ok (.iload 4, 2) := by decide +kernel
theorem dX10_give_216 : decode cX10_give 216 = .ok (.goto 4, 3) := by decide +kernel
theorem dX10_give_219 : decode cX10_give 219 = .ok (.iload_n 3, 1) := by decide +kernel
theorem dX10_give_220 : decode cX10_give 220 = .ok (.iload_n 1, 1) := by decide +kernel
theorem dX10_give_221 : decode cX10_give 221 = .ok (.iload_n 2, 1) := by decide +kernel
theorem dX10_give_222 : decode cX10_give 222 = .ok (.iload 5, 2) := by decide +kernel
theorem dX10_give_224 : decode cX10_give 224 = .ok (.ifCond .eq 7, 3) := by decide +kernel
theorem dX10_give_227 : decode cX10_give 227 = .ok (.iload_n 3, 1) := by decide +kernel
theorem dX10_give_228 : decode cX10_give 228 = .ok (.goto 5, 3) := by decide +kernel
theorem dX10_give_231 : decode cX10_give 231 = .ok (.bipush (-4), 2) := by decide +kernel
theorem dX10_give_233 : decode cX10_give 233 = .ok (.invokevirtual 227, 3) := by decide +kernel
theorem dX10_give_236 : decode cX10_give 236 = .ok (.return_, 1) := by decide +kernel
theorem dX10_stay_0 : decode cX10_stay 0 = .ok (.iconst 0, 1) := by decide +kernel
theorem dX10_stay_1 : decode cX10_stay 1 = .ok (.istore_n 2, 1) := by decide +kernel
theorem dX10_stay_2 : decode cX10_stay 2 = .ok (.iload_n 2, 1) := by decide +kernel
theorem dX10_stay_3 : decode cX10_stay 3 = .ok (.aload_n 0, 1) := by decide +kernel
theorem dX10_stay_4 : decode cX10_stay 4 = .ok (.getfield 29, 3) := by decide +kernel
theorem dX10_stay_7 : decode cX10_stay 7 = .ok (.if_icmp .ge 32, 3) := by decide +kernel
theorem dX10_stay_10 : decode cX10_stay 10 = .ok (.aload_n 0, 1) := by decide +kernel
theorem dX10_stay_11 : decode cX10_stay 11 = .ok (.getfield 65, 3) := by decide +kernel
theorem dX10_stay_14 : decode cX10_stay 14 = .ok (.iload_n 2, 1) := by decide +kernel
theorem dX10_stay_15 : decode cX10_stay 15 = .ok (.bipush (-4), 2) := by decide +kernel
theorem dX10_stay_17 : decode cX10_stay 17 = .ok (.iastore, 1) := by decide +kernel
theorem dX10_stay_18 : decode cX10_stay 18 = .ok (.aload_n 0, 1) := by decide +kernel
theorem dX10_stay_19 : decode cX10_stay 19 = .ok (.getfield 71, 3) := by decide +kernel
theorem dX10_stay_22 : decode cX10_stay 22 = .ok (.iload_n 2, 1) := by decide +kernel
theorem dX10_stay_23 : decode cX10_stay 23 = .ok (.bipush 50, 2) := by decide +kernel
theorem dX10_stay_25 : decode cX10_stay 25 = .ok (.iastore, 1) := by decide +kernel
theorem dX10_stay_26 : decode cX10_stay 26 = .ok (.aload_n 0, 1) := by decide +kernel
theorem dX10_stay_27 : decode cX10_stay 27 = .ok (.getfield 77, 3) := by decide +kernel
theorem dX10_stay_30 : decode cX10_stay 30 = .ok (.iload_n 2, 1) := by decide +kernel
theorem dX10_stay_31 : decode cX10_stay 31 = .ok (.iconst 0, 1) := by decide +kernel
theorem dX10_stay_32 : decode cX10_stay 32 = .ok (.iastore, 1) := by decide +kernel
theorem dX10_stay_33 : decode cX10_stay 33 = .ok (.iinc 2 1, 3) := by decide +kernel
theorem dX10_stay_36 : decode cX10_stay 36 = .ok (.goto (-34), 3) := by decide +kernel
theorem dX10_stay_39 : decode cX10_stay 39 = .ok (.iconst 0, 1) := by decide +kernel
theorem dX10_stay_40 : decode cX10_stay 40 = .ok (.istore_n 2, 1) := by decide +kernel
theorem dX10_stay_41 : decode cX10_stay 41 = .ok (.iload_n 2, 1) := by decide +kernel
theorem dX10_stay_42 : decode cX10_stay 42 = .ok (.bipush 30, 2) := by decide +kernel
theorem dX10_stay_44 : decode cX10_stay 44 = .ok (.if_icmp .ge 28, 3) := by decide +kernel
theorem dX10_stay_47 : decode cX10_stay 47 = .ok (.iconst 0, 1) := by decide +kernel
theorem dX10_stay_48 : decode cX10_stay 48 = .ok (.istore_n 3, 1) := by decide +kernel
theorem dX10_stay_49 : decode cX10_stay 49 = .ok (.iload_n 3, 1) := by decide +kernel
theorem dX10_stay_50 : decode cX10_stay 50 = .ok (.iload_n 1, 1) := by decide +kernel
theorem dX10_stay_51 : decode cX10_stay 51 = .ok (.if_icmp .ge 15, 3) := by decide +kernel
theorem dX10_stay_54 : decode cX10_stay 54 = .ok (.aload_n 0, 1) := by decide +kernel
theorem dX10_stay_55 : decode cX10_stay 55 = .ok (.iload_n 3, 1) := by decide +kernel
theorem dX10_stay_56 : decode cX10_stay 56 = .ok (.iload_n 2, 1) := by decide +kernel
theorem dX10_stay_57 : decode cX10_stay 57 = .ok (.invokevirtual 231, 3) := by decide +kernel
theorem dX10_stay_60 : decode cX10_stay 60 = .ok (.iinc 3 1, 3) := by decide +kernel
theorem dX10_stay_63 : decode cX10_stay 63 = .ok (.goto (-14), 3) := by decide +kernel
theorem dX10_stay_66 : decode cX10_stay 66 = .ok (.iinc 2 1, 3) := by decide +kernel
theorem dX10_stay_69 : decode cX10_stay 69 = .ok (.goto (-28), 3) := by decide +kernel
theorem dX10_stay_72 : decode cX10_stay 72 = .ok (.iconst 0, 1) := by decide +kernel
theorem dX10_stay_73 : decode cX10_stay 73 = .ok (.istore_n 2, 1) := by decide +kernel
theorem dX10_stay_74 : decode cX10_stay 74 = .ok (.iconst 0, 1) := by decide +kernel
theorem dX10_stay_75 : decode cX10_stay 75 = .ok (.istore_n 3, 1) := by decide +kernel
theorem dX10_stay_76 : decode cX10_stay 76 = .ok (.iload_n 3, 1) := by decide +kernel
theorem dX10_stay_77 : decode cX10_stay 77 = .ok (.aload_n 0, 1) := by decide +kernel
theorem dX10_stay_78 : decode cX10_stay 78 = .ok (.getfield 29, 3) := by decide +kernel
theorem dX10_stay_81 : decode cX10_stay 81 = .ok (.if_icmp .ge 18, 3) := by decide +kernel
theorem dX10_stay_84 : decode cX10_stay 84 = .ok (.iload_n 2, 1) := by decide +kernel
theorem dX10_stay_85 : decode cX10_stay 85 = .ok (.aload_n 0, 1) := by decide +kernel
theorem dX10_stay_86 : decode cX10_stay 86 = .ok (.getfield 71, 3) := by decide +kernel
theorem dX10_stay_89 : decode cX10_stay 89 = .ok (.iload_n 3, 1) := by decide +kernel
theorem dX10_stay_90 : decode cX10_stay 90 = .ok (.iaload, 1) := by decide +kernel
theorem dX10_stay_91 : decode cX10_stay 91 = .ok (.iadd, 1) := by decide +kernel
theorem dX10_stay_92 : decode cX10_stay 92 = .ok (.istore_n 2, 1) := by decide +kernel
theorem dX10_stay_93 : decode cX10_stay 93 = .ok (.iinc 3 1, 3) := by decide +kernel
theorem dX10_stay_96 : decode cX10_stay 96 = .ok (.goto (-20), 3) := by decide +kernel
theorem dX10_stay_99 : decode cX10_stay 99 = .ok (.iload_n 2, 1) := by decide +kernel
theorem dX10_stay_100 : decode cX10_stay 100 = .ok (.ireturn, 1) := by decide +kernel
theorem dX10_lies_0 : decode cX10_lies 0 = .ok (.aload_n 0, 1) := by decide +kernel
theorem dX10_lies_1 : decode cX10_lies 1 = .ok (.iload_n 1, 1) := by decide +kernel
theorem dX10_lies_2 : decode cX10_lies 2 = .ok (.invokevirtual 209, 3) := by decide +kernel
theorem dX10_lies_5 : decode cX10_lies 5 = .ok (.ifCond .eq 15, 3) := by decide +kernel
theorem dX10_lies_8 : decode cX10_lies 8 = .ok (.iload_n 2, 1) := by decide +kernel
theorem dX10_lies_9 : decode cX10_lies 9 = .ok (.i2l, 1) := by decide +kernel
theorem dX10_lies_10 : decode cX10_lies 10 = .ok (.lconst 0, 1) := by decide +kernel
theorem dX10_lies_11 : decode cX10_lies 11 = .ok (.ldc2_w 143, 3) := by decide +kernel
theorem dX10_lies_14 : decode cX10_lies 14 = .ok (.invokestatic 101, 3) := by decide +kernel
theorem dX10_lies_17 : decode cX10_lies 17 = .ok (.ifCond .ne 5, 3) := by decide +kernel
theorem dX10_lies_20 : decode cX10_lies 20 = .ok (.iconst (-1), 1) := by decide +kernel
theorem dX10_lies_21 : decode cX10_lies 21 = .ok (.ireturn, 1) := by decide +kernel
theorem dX10_lies_22 : decode cX10_lies 22 = .ok (.aload_n 0, 1) := by decide +kernel
theorem dX10_lies_23 : decode cX10_lies 23 = .ok (.aload_n 0, 1) := by decide +kernel
theorem dX10_lies_24 : decode cX10_lies 24 = .ok (.getfield 13, 3) := by decide +kernel
theorem dX10_lies_27 : decode cX10_lies 27 = .ok (.invokevirtual 235, 3) := by decide +kernel
theorem dX10_lies_30 : decode cX10_lies 30 = .ok (.pop, 1) := by decide +kernel
theorem dX10_lies_31 : decode cX10_lies 31 = .ok (.aload_n 0, 1) := by decide +kernel
theorem dX10_lies_32 : decode cX10_lies 32 = .ok (.getfield 65, 3) := by decide +kernel
theorem dX10_lies_35 : decode cX10_lies 35 = .ok (.iload_n 1, 1) := by decide +kernel
theorem dX10_lies_36 : decode cX10_lies 36 = .ok (.iaload, 1) := by decide +kernel
theorem dX10_lies_37 : decode cX10_lies 37 = .ok (.ifCond .ge 6, 3) := by decide +kernel
theorem dX10_lies_40 : decode cX10_lies 40 = .ok (.bipush (-4), 2) := by decide +kernel
theorem dX10_lies_42 : decode cX10_lies 42 = .ok (.ireturn, 1) := by decide +kernel
theorem dX10_lies_43 : decode cX10_lies 43 = .ok (.iload_n 2, 1) := by decide +kernel
theorem dX10_lies_44 : decode cX10_lies 44 = .ok (.ifCond .ne 12, 3) := by decide +kernel
theorem dX10_lies_47 : decode cX10_lies 47 = .ok (.aload_n 0, 1) := by decide +kernel
theorem dX10_lies_48 : decode cX10_lies 48 = .ok (.getfield 65, 3) := by decide +kernel
theorem dX10_lies_51 : decode cX10_lies 51 = .ok (.iload_n 1, 1) := by decide +kernel
theorem dX10_lies_52 : decode cX10_lies 52 = .ok (.iaload, 1) := by decide +kernel
theorem dX10_lies_53 : decode cX10_lies 53 = .ok (.goto 51, 3) := by decide +kernel
theorem dX10_lies_56 : decode cX10_lies 56 = .ok (.iload_n 2, 1) := by decide +kernel
theorem dX10_lies_57 : decode cX10_lies 57 = .ok (.iconst 1, 1) := by decide +kernel
theorem dX10_lies_58 : decode cX10_lies 58 = .ok (.if_icmp .ne 12, 3) := by decide +kernel
theorem dX10_lies_61 : decode cX10_lies 61 = .ok (.aload_n 0, 1) := by decide +kernel
theorem dX10_lies_62 : decode cX10_lies 62 = .ok (.getfield 68, 3) := by decide +kernel
theorem dX10_lies_65 : decode cX10_lies 65 = .ok (.iload_n 1, 1) := by decide +kernel
theorem dX10_lies_66 : decode cX10_lies 66 = .ok (.iaload, 1) := by decide +kernel
theorem dX10_lies_67 : decode cX10_lies 67 = .ok (.goto 37, 3) := by decide +kernel
theorem dX10_lies_70 : decode cX10_lies 70 = .ok (.iload_n 2, 1) := by decide +kernel
theorem dX10_lies_71 : decode cX10_lies 71 = .ok (.iconst 2, 1) := by decide +kernel
theorem dX10_lies_72 : decode cX10_lies 72 = .ok (.if_icmp .ne 12, 3) := by decide +kernel
theorem dX10_lies_75 : decode cX10_lies 75 = .ok (.aload_n 0, 1) := by decide +kernel
theorem dX10_lies_76 : decode cX10_lies 76 = .ok (.getfield 71, 3) := by decide +kernel
theorem dX10_lies_79 : decode cX10_lies 79 = .ok (.iload_n 1, 1) := by decide +kernel
theorem dX10_lies_80 : decode cX10_lies 80 = .ok (.iaload, 1) := by decide +kernel
theorem dX10_lies_81 : decode cX10_lies 81 = .ok (.goto 23, 3) := by decide +kernel
theorem dX10_lies_84 : decode cX10_lies 84 = .ok (.iload_n 2, 1) := by decide +kernel
theorem dX10_lies_85 : decode cX10_lies 85 = .ok (.iconst 3, 1) := by decide +kernel
theorem dX10_lies_86 : decode cX10_lies 86 = .ok (.if_icmp .ne 12, 3) := by decide +kernel
theorem dX10_lies_89 : decode cX10_lies 89 = .ok (.aload_n 0, 1) := by decide +kernel
theorem dX10_lies_90 : decode cX10_lies 90 = .ok (.getfield 74, 3) := by decide +kernel
theorem dX10_lies_93 : decode cX10_lies 93 = .ok (.iload_n 1, 1) := by decide +kernel
theorem dX10_lies_94 : decode cX10_lies 94 = .ok (.iaload, 1) := by decide +kernel
theorem dX10_lies_95 : decode cX10_lies 95 = .ok (.goto 9, 3) := by decide +kernel
theorem dX10_lies_98 : decode cX10_lies 98 = .ok (.aload_n 0, 1) := by decide +kernel
theorem dX10_lies_99 : decode cX10_lies 99 = .ok (.getfield 77, 3) := by decide +kernel
theorem dX10_lies_102 : decode cX10_lies 102 = .ok (.iload_n 1, 1) := by decide +kernel
theorem dX10_lies_103 : decode cX10_lies 103 = .ok (.iaload, 1) := by decide +kernel
theorem dX10_lies_104 : decode cX10_lies 104 = .ok (.ireturn, 1) := by decide +kernel
theorem dX10_who_0 : decode cX10_who 0 = .ok (.aload_n 0, 1) := by decide +kernel
theorem dX10_who_1 : decode cX10_who 1 = .ok (.iload_n 1, 1) := by decide +kernel
theorem dX10_who_2 : decode cX10_who 2 = .ok (.invokevirtual 193, 3) := by decide +kernel
theorem dX10_who_5 : decode cX10_who 5 = .ok (.ifCond .eq 10, 3) := by decide +kernel
theorem dX10_who_8 : decode cX10_who 8 = .ok (.iload_n 2, 1) := by decide +kernel
theorem dX10_who_9 : decode cX10_who 9 = .ok (.invokestatic 196, 3) := by decide +kernel
theorem dX10_who_12 : decode cX10_who 12 = .ok (.ifCond .ne 5, 3) := by decide +kernel
theorem dX10_who_15 : decode cX10_who 15 = .ok (.iconst (-1), 1) := by decide +kernel
theorem dX10_who_16 : decode cX10_who 16 = .ok (.ireturn, 1) := by decide +kernel
theorem dX10_who_17 : decode cX10_who 17 = .ok (.aload_n 0, 1) := by decide +kernel
theorem dX10_who_18 : decode cX10_who 18 = .ok (.aload_n 0, 1) := by decide +kernel
theorem dX10_who_19 : decode cX10_who 19 = .ok (.getfield 13, 3) := by decide +kernel
theorem dX10_who_22 : decode cX10_who 22 = .ok (.invokevirtual 235, 3) := by decide +kernel
theorem dX10_who_25 : decode cX10_who 25 = .ok (.pop, 1) := by decide +kernel
theorem dX10_who_26 : decode cX10_who 26 = .ok (.bipush (-4), 2) := by decide +kernel
theorem dX10_who_28 : decode cX10_who 28 = .ok (.istore_n 3, 1) := by decide +kernel
theorem dX10_who_29 : decode cX10_who 29 = .ok (.iconst 0, 1) := by decide +kernel
theorem dX10_who_30 : decode cX10_who 30 = .ok (.istore 4, 2) := by decide +kernel
theorem dX10_who_32 : decode cX10_who 32 = .ok (.iload 4, 2) := by decide +kernel
theorem dX10_who_34 : decode cX10_who 34 = .ok (.aload_n 0, 1) := by decide +kernel
theorem dX10_who_35 : decode cX10_who 35 = .ok (.getfield 29, 3) := by decide +kernel
theorem dX10_who_38 : decode cX10_who 38 = .ok (.if_icmp .ge 38, 3) := by decide +kernel
theorem dX10_who_41 : decode cX10_who 41 = .ok (.aload_n 0, 1) := by decide +kernel
theorem dX10_who_42 : decode cX10_who 42 = .ok (.getfield 65, 3) := by decide +kernel
theorem dX10_who_45 : decode cX10_who 45 = .ok (.iload 4, 2) := by decide +kernel
theorem dX10_who_47 : decode cX10_who 47 = .ok (.iaload, 1) := by decide +kernel
theorem dX10_who_48 : decode cX10_who 48 = .ok (.iload_n 2, 1) := by decide +kernel
theorem dX10_who_49 : decode cX10_who 49 = .ok (.if_icmp .ne 19, 3) := by decide +kernel
theorem dX10_who_52 : decode cX10_who 52 = .ok (.aload_n 0, 1) := by decide +kernel
theorem dX10_who_53 : decode cX10_who 53 = .ok (.getfield 68, 3) := by decide +kernel
theorem dX10_who_56 : decode cX10_who 56 = .ok (.iload 4, 2) := by decide +kernel
theorem dX10_who_58 : decode cX10_who 58 = .ok (.iaload, 1) := by decide +kernel
theorem dX10_who_59 : decode cX10_who 59 = .ok (.iload_n 1, 1) := by decide +kernel
theorem dX10_who_60 : decode cX10_who 60 = .ok (.if_icmp .ne 8, 3) := by decide +kernel
theorem dX10_who_63 : decode cX10_who 63 = .ok (.iload 4, 2) := by decide +kernel
theorem dX10_who_65 : decode cX10_who 65 = .ok (.goto 4, 3) := by decide +kernel
theorem dX10_who_68 : decode cX10_who 68 = .ok (.iload_n 3, 1) := by decide +kernel
theorem dX10_who_69 : decode cX10_who 69 = .ok (.istore_n 3, 1) := by decide +kernel
theorem dX10_who_70 : decode cX10_who 70 = .ok (.iinc 4 1, 3) := by decide +kernel
theorem dX10_who_73 : decode cX10_who 73 = .ok (.goto (-41), 3) := by decide +kernel
theorem dX10_who_76 : decode cX10_who 76 = .ok (.iload_n 3, 1) := by decide +kernel
theorem dX10_who_77 : decode cX10_who 77 = .ok (.ireturn, 1) := by decide +kernel
theorem dX10_unharmed_0 : decode cX10_unharmed 0 = .ok (.iconst 0, 1) := by decide +kernel
theorem dX10_unharmed_1 : decode cX10_unharmed 1 = .ok (.istore_n 1, 1) := by decide +kernel
theorem dX10_unharmed_2 : decode cX10_unharmed 2 = .ok (.iconst 0, 1) := by decide +kernel
theorem dX10_unharmed_3 : decode cX10_unharmed 3 = .ok (.istore_n 2, 1) := by decide +kernel
theorem dX10_unharmed_4 : decode cX10_unharmed 4 = .ok (.iload_n 2, 1) := by decide +kernel
theorem dX10_unharmed_5 : decode cX10_unharmed 5 = .ok (.aload_n 0, 1) := by decide +kernel
theorem dX10_unharmed_6 : decode cX10_unharmed 6 = .ok (.getfield 29, 3) := by decide +kernel
theorem dX10_unharmed_9 : decode cX10_unharmed 9 = .ok (.if_icmp .ge 35, 3) := by decide +kernel
theorem dX10_unharmed_12 : decode cX10_unharmed 12 = .ok (.iload_n 1, 1) := by decide +kernel
theorem dX10_unharmed_13 : decode cX10_unharmed 13 = .ok (.aload_n 0, 1) := by decide +kernel
theorem dX10_unharmed_14 : decode cX10_unharmed 14 = .ok (.getfield 65, 3) := by decide +kernel
theorem dX10_unharmed_17 : decode cX10_unharmed 17 = .ok (.iload_n 2, 1) := by decide +kernel
theorem dX10_unharmed_18 : decode cX10_unharmed 18 = .ok (.iaload, 1) := by decide +kernel
theorem dX10_unharmed_19 : decode cX10_unharmed 19 = .ok (.ifCond .lt 16, 3) := by decide +kernel
theorem dX10_unharmed_22 : decode cX10_unharmed 22 = .ok (.aload_n 0, 1) := by decide +kernel
theorem dX10_unharmed_23 : decode cX10_unharmed 23 = .ok (.getfield 71, 3) := by decide +kernel
theorem dX10_unharmed_26 : decode cX10_unharmed 26 = .ok (.iload_n 2, 1) := by decide +kernel
theorem dX10_unharmed_27 : decode cX10_unharmed 27 = .ok (.iaload, 1) := by decide +kernel
theorem dX10_unharmed_28 : decode cX10_unharmed 28 = .ok (.ifCond .ne 7, 3) := by decide +kernel
theorem dX10_unharmed_31 : decode cX10_unharmed 31 = .ok (.iconst 1, 1) := by decide +kernel
theorem dX10_unharmed_32 : decode cX10_unharmed 32 = .ok (.goto 4, 3) := by decide +kernel
theorem dX10_unharmed_35 : decode cX10_unharmed 35 = .ok (.iconst 0, 1) := by decide +kernel
theorem dX10_unharmed_36 : decode cX10_unharmed 36 = .ok (.iadd, 1) := by decide +kernel
theorem dX10_unharmed_37 : decode cX10_unharmed 37 = .ok (.istore_n 1, 1) := by decide +kernel
theorem dX10_unharmed_38 : decode cX10_unharmed 38 = .ok (.iinc 2 1, 3) := by decide +kernel
theorem dX10_unharmed_41 : decode cX10_unharmed 41 = .ok (.goto (-37), 3) := by decide +kernel
theorem dX10_unharmed_44 : decode cX10_unharmed 44 = .ok (.iload_n 1, 1) := by decide +kernel
theorem dX10_unharmed_45 : decode cX10_unharmed 45 = .ok (.ireturn, 1) := by decide +kernel
theorem dX10_all_0 : decode cX10_all 0 = .ok (.iload_n 1, 1) := by decide +kernel
theorem dX10_all_1 : decode cX10_all 1 = .ok (.i2l, 1) := by decide +kernel
theorem dX10_all_2 : decode cX10_all 2 = .ok (.lconst 0, 1) := by decide +kernel
theorem dX10_all_3 : decode cX10_all 3 = .ok (.ldc2_w 238, 3) := by decide +kernel
theorem dX10_all_6 : decode cX10_all 6 = .ok (.invokestatic 101, 3) := by decide +kernel
theorem dX10_all_9 : decode cX10_all 9 = .ok (.ifCond .ne 5, 3) := by decide +kernel
theorem dX10_all_12 : decode cX10_all 12 = .ok (.iconst (-1), 1) := by decide +kernel
theorem dX10_all_13 : decode cX10_all 13 = .ok (.ireturn, 1) := by decide +kernel
theorem dX10_all_14 : decode cX10_all 14 = .ok (.aload_n 0, 1) := by decide +kernel
theorem dX10_all_15 : decode cX10_all 15 = .ok (.aload_n 0, 1) := by decide +kernel
theorem dX10_all_16 : decode cX10_all 16 = .ok (.getfield 13, 3) := by decide +kernel
theorem dX10_all_19 : decode cX10_all 19 = .ok (.invokevirtual 235, 3) := by decide +kernel
theorem dX10_all_22 : decode cX10_all 22 = .ok (.istore_n 2, 1) := by decide +kernel
theorem dX10_all_23 : decode cX10_all 23 = .ok (.iconst 0, 1) := by decide +kernel
theorem dX10_all_24 : decode cX10_all 24 = .ok (.istore_n 3, 1) := by decide +kernel
theorem dX10_all_25 : decode cX10_all 25 = .ok (.iconst 0, 1) := by decide +kernel
theorem dX10_all_26 : decode cX10_all 26 = .ok (.istore 4, 2) := by decide +kernel
theorem dX10_all_28 : decode cX10_all 28 = .ok (.iconst 0, 1) := by decide +kernel
theorem dX10_all_29 : decode cX10_all 29 = .ok (.istore 5, 2) := by decide +kernel
theorem dX10_all_31 : decode cX10_all 31 = .ok (.iload 5, 2) := by decide +kernel
theorem dX10_all_33 : decode cX10_all 33 = .ok (.aload_n 0, 1) := by decide +kernel
theorem dX10_all_34 : decode cX10_all 34 = .ok (.getfield 29, 3) := by decide +kernel
theorem dX10_all_37 : decode cX10_all 37 = .ok (.if_icmp .ge 63, 3) := by decide +kernel
theorem dX10_all_40 : decode cX10_all 40 = .ok (.iload_n 3, 1) := by decide +kernel
theorem dX10_all_41 : decode cX10_all 41 = .ok (.aload_n 0, 1) := by decide +kernel
theorem dX10_all_42 : decode cX10_all 42 = .ok (.getfield 65, 3) := by decide +kernel
theorem dX10_all_45 : decode cX10_all 45 = .ok (.iload 5, 2) := by decide +kernel
theorem dX10_all_47 : decode cX10_all 47 = .ok (.iaload, 1) := by decide +kernel
theorem dX10_all_48 : decode cX10_all 48 = .ok (.ifCond .lt 7, 3) := by decide +kernel
theorem dX10_all_51 : decode cX10_all 51 = .ok (.iconst 1, 1) := by decide +kernel
theorem dX10_all_52 : decode cX10_all 52 = .ok (.goto 4, 3) := by decide +kernel
theorem dX10_all_55 : decode cX10_all 55 = .ok (.iconst 0, 1) := by decide +kernel
theorem dX10_all_56 : decode cX10_all 56 = .ok (.iadd, 1) := by decide +kernel
theorem dX10_all_57 : decode cX10_all 57 = .ok (.istore_n 3, 1) := by decide +kernel
theorem dX10_all_58 : decode cX10_all 58 = .ok (.aload_n 0, 1) := by decide +kernel
theorem dX10_all_59 : decode cX10_all 59 = .ok (.getfield 65, 3) := by decide +kernel
theorem dX10_all_62 : decode cX10_all 62 = .ok (.iload 5, 2) := by decide +kernel
theorem dX10_all_64 : decode cX10_all 64 = .ok (.iaload, 1) := by decide +kernel
theorem dX10_all_65 : decode cX10_all 65 = .ok (.ifCond .lt 25, 3) := by decide +kernel
theorem dX10_all_68 : decode cX10_all 68 = .ok (.aload_n 0, 1) := by decide +kernel
theorem dX10_all_69 : decode cX10_all 69 = .ok (.getfield 71, 3) := by decide +kernel
theorem dX10_all_72 : decode cX10_all 72 = .ok (.iload 5, 2) := by decide +kernel
theorem dX10_all_74 : decode cX10_all 74 = .ok (.iaload, 1) := by decide +kernel
theorem dX10_all_75 : decode cX10_all 75 = .ok (.iload 4, 2) := by decide +kernel
theorem dX10_all_77 : decode cX10_all 77 = .ok (.if_icmp .le 13, 3) := by decide +kernel
theorem dX10_all_80 : decode cX10_all 80 = .ok (.aload_n 0, 1) := by decide +kernel
theorem dX10_all_81 : decode cX10_all 81 = .ok (.getfield 71, 3) := by decide +kernel
theorem dX10_all_84 : decode cX10_all 84 = .ok (.iload 5, 2) := by decide +kernel
theorem dX10_all_86 : decode cX10_all 86 = .ok (.iaload, 1) := by decide +kernel
theorem dX10_all_87 : decode cX10_all 87 = .ok (.goto 5, 3) := by decide +kernel
theorem dX10_all_90 : decode cX10_all 90 = .ok (.iload 4, 2) := by decide +kernel
theorem dX10_all_92 : decode cX10_all 92 = .ok (.istore 4, 2) := by decide +kernel
theorem dX10_all_94 : decode cX10_all 94 = .ok (.iinc 5 1, 3) := by decide +kernel
theorem dX10_all_97 : decode cX10_all 97 = .ok (.goto (-66), 3) := by decide +kernel
theorem dX10_all_100 : decode cX10_all 100 = .ok (.iload_n 1, 1) := by decide +kernel
theorem dX10_all_101 : decode cX10_all 101 = .ok (.ifCond .ne 7, 3) := by decide +kernel
theorem dX10_all_104 : decode cX10_all 104 = .ok (.iload_n 2, 1) := by decide +kernel
theorem dX10_all_105 : decode cX10_all 105 = .ok (.goto 26, 3) := by decide +kernel
theorem dX10_all_108 : decode cX10_all 108 = .ok (.iload_n 1, 1) := by decide +kernel
theorem dX10_all_109 : decode cX10_all 109 = .ok (.iconst 1, 1) := by decide +kernel
theorem dX10_all_110 : decode cX10_all 110 = .ok (.if_icmp .ne 7, 3) := by decide +kernel
theorem dX10_all_113 : decode cX10_all 113 = .ok (.iload_n 3, 1) := by decide +kernel
theorem dX10_all_114 : decode cX10_all 114 = .ok (.goto 17, 3) := by decide +kernel
theorem dX10_all_117 : decode cX10_all 117 = .ok (.iload_n 1, 1) := by decide +kernel
theorem dX10_all_118 : decode cX10_all 118 = .ok (.iconst 2, 1) := by decide +kernel
theorem dX10_all_119 : decode cX10_all 119 = .ok (.if_icmp .ne 10, 3) := by decide +kernel
theorem dX10_all_122 : decode cX10_all 122 = .ok (.aload_n 0, 1) := by decide +kernel
theorem dX10_all_123 : decode cX10_all 123 = .ok (.invokevirtual 240, 3) := by decide +kernel
theorem dX10_all_126 : decode cX10_all 126 = .ok (.goto 5, 3) := by decide +kernel
theorem dX10_all_129 : decode cX10_all 129 = .ok (.iload 4, 2) := by decide +kernel
theorem dX10_all_131 : decode cX10_all 131 = .ok (.ireturn, 1) := by decide +kernel
theorem dX10_note_0 : decode cX10_note 0 = .ok (.aload_n 0, 1) := by decide +kernel
theorem dX10_note_1 : decode cX10_note 1 = .ok (.getfield 170, 3) := by decide +kernel
theorem dX10_note_4 : decode cX10_note 4 = .ok (.bipush 8, 2) := by decide +kernel
theorem dX10_note_6 : decode cX10_note 6 = .ok (.if_icmp .ne 43, 3) := by decide +kernel
theorem dX10_note_9 : decode cX10_note 9 = .ok (.iconst 0, 1) := by decide +kernel
theorem dX10_note_10 : decode cX10_note 10 = .ok (.istore_n 1, 1) := by decide +kernel
theorem dX10_note_11 : decode cX10_note 11 = .ok (.iload_n 1, 1) := by decide +kernel
theorem dX10_note_12 : decode cX10_note 12 = .ok (.sipush 147, 3) := by decide +kernel
theorem dX10_note_15 : decode cX10_note 15 = .ok (.if_icmp .ge 24, 3) := by decide +kernel
theorem dX10_note_18 : decode cX10_note 18 = .ok (.aload_n 0, 1) := by decide +kernel
theorem dX10_note_19 : decode cX10_note 19 = .ok (.getfield 80, 3) := by decide +kernel
theorem dX10_note_22 : decode cX10_note 22 = .ok (.iload_n 1, 1) := by decide +kernel
theorem dX10_note_23 : decode cX10_note 23 = .ok (.aload_n 0, 1) := by decide +kernel
theorem dX10_note_24 : decode cX10_note 24 = .ok (.getfield 80, 3) := by decide +kernel
theorem dX10_note_27 : decode cX10_note 27 = .ok (.iload_n 1, 1) := by decide +kernel
theorem dX10_note_28 : decode cX10_note 28 = .ok (.bipush 21, 2) := by decide +kernel
theorem dX10_note_30 : decode cX10_note 30 = .ok (.iadd, 1) := by decide +kernel
theorem dX10_note_31 : decode cX10_note 31 = .ok (.iaload, 1) := by decide +kernel
theorem dX10_note_32 : decode cX10_note 32 = .ok (.iastore, 1) := by decide +kernel
theorem dX10_note_33 : decode cX10_note 33 = .ok (.iinc 1 1, 3) := by decide +kernel
theorem dX10_note_36 : decode cX10_note 36 = .ok (.goto (-25), 3) := by decide +kernel
theorem dX10_note_39 : decode cX10_note 39 = .ok (.aload_n 0, 1) := by decide +kernel
theorem dX10_note_40 : decode cX10_note 40 = .ok (.dup, 1) := by decide +kernel
theorem dX10_note_41 : decode cX10_note 41 = .ok (.getfield 170, 3) := by decide +kernel
theorem dX10_note_44 : decode cX10_note 44 = .ok (.iconst 1, 1) := by decide +kernel
theorem dX10_note_45 : decode cX10_note 45 = .ok (.isub, 1) := by decide +kernel
theorem dX10_note_46 : decode cX10_note 46 = .ok (.putfield 170, 3) := by decide +kernel
theorem dX10_note_49 : decode cX10_note 49 = .ok (.iconst 0, 1) := by decide +kernel
theorem dX10_note_50 : decode cX10_note 50 = .ok (.istore_n 1, 1) := by decide +kernel
theorem dX10_note_51 : decode cX10_note 51 = .ok (.iload_n 1, 1) := by decide +kernel
theorem dX10_note_52 : decode cX10_note 52 = .ok (.bipush 21, 2) := by decide +kernel
theorem dX10_note_54 : decode cX10_note 54 = .ok (.if_icmp .ge 29, 3) := by decide +kernel
theorem dX10_note_57 : decode cX10_note 57 = .ok (.aload_n 0, 1) := by decide +kernel
theorem dX10_note_58 : decode cX10_note 58 = .ok (.getfield 80, 3) := by decide +kernel
theorem dX10_note_61 : decode cX10_note 61 = .ok (.bipush 21, 2) := by decide +kernel
theorem dX10_note_63 : decode cX10_note 63 = .ok (.aload_n 0, 1) := by decide +kernel
theorem dX10_note_64 : decode cX10_note 64 = .ok (.getfield 170, 3) := by decide +kernel
theorem dX10_note_67 : decode cX10_note 67 = .ok (.imul, 1) := by decide +kernel
theorem dX10_note_68 : decode cX10_note 68 = .ok (.iload_n 1, 1) := by decide +kernel
theorem dX10_note_69 : decode cX10_note 69 = .ok (.iadd, 1) := by decide +kernel
theorem dX10_note_70 : decode cX10_note 70 = .ok (.aload_n 0, 1) := by decide +kernel
theorem dX10_note_71 : decode cX10_note 71 = .ok (.getfield 38, 3) := by decide +kernel
theorem dX10_note_74 : decode cX10_note 74 = .ok (.iload_n 1, 1) := by decide +kernel
theorem dX10_note_75 : decode cX10_note 75 = .ok (.iaload, 1) := by decide +kernel
theorem dX10_note_76 : decode cX10_note 76 = .ok (.iastore, 1) := by decide +kernel
theorem dX10_note_77 : decode cX10_note 77 = .ok (.iinc 1 1, 3) := by decide +kernel
theorem dX10_note_80 : decode cX10_note 80 = .ok (.goto (-29), 3) := by decide +kernel
theorem dX10_note_83 : decode cX10_note 83 = .ok (.aload_n 0, 1) := by decide +kernel
theorem dX10_note_84 : decode cX10_note 84 = .ok (.dup, 1) := by decide +kernel
theorem dX10_note_85 : decode cX10_note 85 = .ok (.getfield 170, 3) := by decide +kernel
theorem dX10_note_88 : decode cX10_note 88 = .ok (.iconst 1, 1) := by decide +kernel
theorem dX10_note_89 : decode cX10_note 89 = .ok (.iadd, 1) := by decide +kernel
theorem dX10_note_90 : decode cX10_note 90 = .ok (.putfield 170, 3) := by decide +kernel
theorem dX10_note_93 : decode cX10_note 93 = .ok (.return_, 1) := by decide +kernel
theorem dX10_move_0 : decode cX10_move 0 = .ok (.aload_n 0, 1) := by decide +kernel
theorem dX10_move_1 : decode cX10_move 1 = .ok (.iload_n 1, 1) := by decide +kernel
theorem dX10_move_2 : decode cX10_move 2 = .ok (.invokevirtual 209, 3) := by decide +kernel
theorem dX10_move_5 : decode cX10_move 5 = .ok (.ifCond .eq 19, 3) := by decide +kernel
theorem dX10_move_8 : decode cX10_move 8 = .ok (.iload_n 2, 1) := by decide +kernel
theorem dX10_move_9 : decode cX10_move 9 = .ok (.i2l, 1) := by decide +kernel
theorem dX10_move_10 : decode cX10_move 10 = .ok (.lconst 0, 1) := by decide +kernel
theorem dX10_move_11 : decode cX10_move 11 = .ok (.aload_n 0, 1) := by decide +kernel
theorem dX10_move_12 : decode cX10_move 12 = .ok (.getfield 29, 3) := by decide +kernel
theorem dX10_move_15 : decode cX10_move 15 = .ok (.iconst 1, 1) := by decide +kernel
theorem dX10_move_16 : decode cX10_move 16 = .ok (.isub, 1) := by decide +kernel
theorem dX10_move_17 : decode cX10_move 17 = .ok (.i2l, 1) := by decide +kernel
theorem dX10_move_18 : decode cX10_move 18 = .ok (.invokestatic 101, 3) := by decide +kernel
theorem dX10_move_21 : decode cX10_move 21 = .ok (.ifCond .ne 5, 3) := by decide +kernel
theorem dX10_move_24 : decode cX10_move 24 = .ok (.iconst (-1), 1) := by decide +kernel
theorem dX10_move_25 : decode cX10_move 25 = .ok (.ireturn, 1) := by decide +kernel
theorem dX10_move_26 : decode cX10_move 26 = .ok (.aload_n 0, 1) := by decide +kernel
theorem dX10_move_27 : decode cX10_move 27 = .ok (.invokevirtual 243, 3) := by decide +kernel
theorem dX10_move_30 : decode cX10_move 30 = .ok (.aload_n 0, 1) := by decide +kernel
theorem dX10_move_31 : decode cX10_move 31 = .ok (.iload_n 1, 1) := by decide +kernel
theorem dX10_move_32 : decode cX10_move 32 = .ok (.invokevirtual 216, 3) := by decide +kernel
theorem dX10_move_35 : decode cX10_move 35 = .ok (.istore_n 3, 1) := by decide +kernel
theorem dX10_move_36 : decode cX10_move 36 = .ok (.iload_n 3, 1) := by decide +kernel
theorem dX10_move_37 : decode cX10_move 37 = .ok (.istore 4, 2) := by decide +kernel
theorem dX10_move_39 : decode cX10_move 39 = .ok (.iload 4, 2) := by decide +kernel
theorem dX10_move_41 : decode cX10_move 41 = .ok (.iload_n 2, 1) := by decide +kernel
theorem dX10_move_42 : decode cX10_move 42 = .ok (.if_icmp .ge 25, 3) := by decide +kernel
theorem dX10_move_45 : decode cX10_move 45 = .ok (.aload_n 0, 1) := by decide +kernel
theorem dX10_move_46 : decode cX10_move 46 = .ok (.getfield 38, 3) := by decide +kernel
theorem dX10_move_49 : decode cX10_move 49 = .ok (.iload 4, 2) := by decide +kernel
theorem dX10_move_51 : decode cX10_move 51 = .ok (.aload_n 0, 1) := by decide +kernel
theorem dX10_move_52 : decode cX10_move 52 = .ok (.getfield 38, 3) := by decide +kernel
theorem dX10_move_55 : decode cX10_move 55 = .ok (.iload 4, 2) := by decide +kernel
theorem dX10_move_57 : decode cX10_move 57 = .ok (.iconst 1, 1) := by decide +kernel
theorem dX10_move_58 : decode cX10_move 58 = .ok (.iadd, 1) := by decide +kernel
theorem dX10_move_59 : decode cX10_move 59 = .ok (.iaload, 1) := by decide +kernel
theorem dX10_move_60 : decode cX10_move 60 = .ok (.iastore, 1) := by decide +kernel
theorem dX10_move_61 : decode cX10_move 61 = .ok (.iinc 4 1, 3) := by decide +kernel
theorem dX10_move_64 : decode cX10_move 64 = .ok (.goto (-25), 3) := by decide +kernel
theorem dX10_move_67 : decode cX10_move 67 = .ok (.iload_n 3, 1) := by decide +kernel
theorem dX10_move_68 : decode cX10_move 68 = .ok (.istore 4, 2) := by decide +kernel
theorem dX10_move_70 : decode cX10_move 70 = .ok (.iload 4, 2) := by decide +kernel
theorem dX10_move_72 : decode cX10_move 72 = .ok (.iload_n 2, 1) := by decide +kernel
theorem dX10_move_73 : decode cX10_move 73 = .ok (.if_icmp .le 25, 3) := by decide +kernel
theorem dX10_move_76 : decode cX10_move 76 = .ok (.aload_n 0, 1) := by decide +kernel
theorem dX10_move_77 : decode cX10_move 77 = .ok (.getfield 38, 3) := by decide +kernel
theorem dX10_move_80 : decode cX10_move 80 = .ok (.iload 4, 2) := by decide +kernel
theorem dX10_move_82 : decode cX10_move 82 = .ok (.aload_n 0, 1) := by decide +kernel
theorem dX10_move_83 : decode cX10_move 83 = .ok (.getfield 38, 3) := by decide +kernel
theorem dX10_move_86 : decode cX10_move 86 = .ok (.iload 4, 2) := by decide +kernel
theorem dX10_move_88 : decode cX10_move 88 = .ok (.iconst 1, 1) := by decide +kernel
theorem dX10_move_89 : decode cX10_move 89 = .ok (.isub, 1) := by decide +kernel
theorem dX10_move_90 : decode cX10_move 90 = .ok (.iaload, 1) := by decide +kernel
theorem dX10_move_91 : decode cX10_move 91 = .ok (.iastore, 1) := by decide +kernel
theorem dX10_move_92 : decode cX10_move 92 = .ok (.iinc 4 (-1), 3) := by decide +kernel
theorem dX10_move_95 : decode cX10_move 95 = .ok (.goto (-25), 3) := by decide +kernel
theorem dX10_move_98 : decode cX10_move 98 = .ok (.aload_n 0, 1) := by decide +kernel
theorem dX10_move_99 : decode cX10_move 99 = .ok (.getfield 38, 3) := by decide +kernel
theorem dX10_move_102 : decode cX10_move 102 = .ok (.iload_n 2, 1) := by decide +kernel
theorem dX10_move_103 : decode cX10_move 103 = .ok (.iload_n 1, 1) := by decide +kernel
theorem dX10_move_104 : decode cX10_move 104 = .ok (.iastore, 1) := by decide +kernel
theorem dX10_move_105 : decode cX10_move 105 = .ok (.iload_n 3, 1) := by decide +kernel
theorem dX10_move_106 : decode cX10_move 106 = .ok (.ireturn, 1) := by decide +kernel
theorem dX10_wear_0 : decode cX10_wear 0 = .ok (.aload_n 0, 1) := by decide +kernel
theorem dX10_wear_1 : decode cX10_wear 1 = .ok (.iload_n 1, 1) := by decide +kernel
theorem dX10_wear_2 : decode cX10_wear 2 = .ok (.invokevirtual 209, 3) := by decide +kernel
theorem dX10_wear_5 : decode cX10_wear 5 = .ok (.ifCond .eq 17, 3) := by decide +kernel
theorem dX10_wear_8 : decode cX10_wear 8 = .ok (.iload_n 2, 1) := by decide +kernel
theorem dX10_wear_9 : decode cX10_wear 9 = .ok (.i2l, 1) := by decide +kernel
theorem dX10_wear_10 : decode cX10_wear 10 = .ok (.ldc2_w 246, 3) := by decide +kernel
theorem dX10_wear_13 : decode cX10_wear 13 = .ok (.ldc2_w 138, 3) := by decide +kernel
theorem dX10_wear_16 : decode cX10_wear 16 = .ok (.invokestatic 101, 3) := by decide +kernel
theorem dX10_wear_19 : decode cX10_wear 19 = .ok (.ifCond .ne 5, 3) := by decide +kernel
theorem dX10_wear_22 : decode cX10_wear 22 = .ok (.iconst (-1), 1) := by decide +kernel
theorem dX10_wear_23 : decode cX10_wear 23 = .ok (.ireturn, 1) := by decide +kernel
theorem dX10_wear_24 : decode cX10_wear 24 = .ok (.aload_n 0, 1) := by decide +kernel
theorem dX10_wear_25 : decode cX10_wear 25 = .ok (.invokevirtual 243, 3) := by decide +kernel
theorem dX10_wear_28 : decode cX10_wear 28 = .ok (.aload_n 0, 1) := by decide +kernel
theorem dX10_wear_29 : decode cX10_wear 29 = .ok (.getfield 38, 3) := by decide +kernel
theorem dX10_wear_32 : decode cX10_wear 32 = .ok (.bipush 7, 2) := by decide +kernel
theorem dX10_wear_34 : decode cX10_wear 34 = .ok (.iload_n 1, 1) := by decide +kernel
theorem dX10_wear_35 : decode cX10_wear 35 = .ok (.iadd, 1) := by decide +kernel
theorem dX10_wear_36 : decode cX10_wear 36 = .ok (.iaload, 1) := by decide +kernel
theorem dX10_wear_37 : decode cX10_wear 37 = .ok (.istore_n 3, 1) := by decide +kernel
theorem dX10_wear_38 : decode cX10_wear 38 = .ok (.aload_n 0, 1) := by decide +kernel
theorem dX10_wear_39 : decode cX10_wear 39 = .ok (.getfield 38, 3) := by decide +kernel
theorem dX10_wear_42 : decode cX10_wear 42 = .ok (.bipush 7, 2) := by decide +kernel
theorem dX10_wear_44 : decode cX10_wear 44 = .ok (.iload_n 1, 1) := by decide +kernel
theorem dX10_wear_45 : decode cX10_wear 45 = .ok (.iadd, 1) := by decide +kernel
theorem dX10_wear_46 : decode cX10_wear 46 = .ok (.iload_n 2, 1) := by decide +kernel
theorem dX10_wear_47 : decode cX10_wear 47 = .ok (.iastore, 1) := by decide +kernel
theorem dX10_wear_48 : decode cX10_wear 48 = .ok (.iload_n 3, 1) := by decide +kernel
theorem dX10_wear_49 : decode cX10_wear 49 = .ok (.bipush 100, 2) := by decide +kernel
theorem dX10_wear_51 : decode cX10_wear 51 = .ok (.iadd, 1) := by decide +kernel
theorem dX10_wear_52 : decode cX10_wear 52 = .ok (.ireturn, 1) := by decide +kernel
theorem dX10_come_0 : decode cX10_come 0 = .ok (.aload_n 0, 1) := by decide +kernel
theorem dX10_come_1 : decode cX10_come 1 = .ok (.iload_n 1, 1) := by decide +kernel
theorem dX10_come_2 : decode cX10_come 2 = .ok (.invokevirtual 209, 3) := by decide +kernel
theorem dX10_come_5 : decode cX10_come 5 = .ok (.ifCond .eq 15, 3) := by decide +kernel
theorem dX10_come_8 : decode cX10_come 8 = .ok (.iload_n 2, 1) := by decide +kernel
theorem dX10_come_9 : decode cX10_come 9 = .ok (.i2l, 1) := by decide +kernel
theorem dX10_come_10 : decode cX10_come 10 = .ok (.lconst 0, 1) := by decide +kernel
theorem dX10_come_11 : decode cX10_come 11 = .ok (.ldc2_w 138, 3) := by decide +kernel
theorem dX10_come_14 : decode cX10_come 14 = .ok (.invokestatic 101, 3) := by decide +kernel
theorem dX10_come_17 : decode cX10_come 17 = .ok (.ifCond .ne 5, 3) := by decide +kernel
theorem dX10_come_20 : decode cX10_come 20 = .ok (.iconst (-1), 1) := by decide +kernel
theorem dX10_come_21 : decode cX10_come 21 = .ok (.ireturn, 1) := by decide +kernel
theorem dX10_come_22 : decode cX10_come 22 = .ok (.aload_n 0, 1) := by decide +kernel
theorem dX10_come_23 : decode cX10_come 23 = .ok (.invokevirtual 243, 3) := by decide +kernel
theorem dX10_come_26 : decode cX10_come 26 = .ok (.aload_n 0, 1) := by decide +kernel
theorem dX10_come_27 : decode cX10_come 27 = .ok (.getfield 38, 3) := by decide +kernel
theorem dX10_come_30 : decode cX10_come 30 = .ok (.bipush 14, 2) := by decide +kernel
theorem dX10_come_32 : decode cX10_come 32 = .ok (.iload_n 1, 1) := by decide +kernel
theorem dX10_come_33 : decode cX10_come 33 = .ok (.iadd, 1) := by decide +kernel
theorem dX10_come_34 : decode cX10_come 34 = .ok (.iaload, 1) := by decide +kernel
theorem dX10_come_35 : decode cX10_come 35 = .ok (.istore_n 3, 1) := by decide +kernel
theorem dX10_come_36 : decode cX10_come 36 = .ok (.aload_n 0, 1) := by decide +kernel
theorem dX10_come_37 : decode cX10_come 37 = .ok (.getfield 38, 3) := by decide +kernel
theorem dX10_come_40 : decode cX10_come 40 = .ok (.bipush 14, 2) := by decide +kernel
theorem dX10_come_42 : decode cX10_come 42 = .ok (.iload_n 1, 1) := by decide +kernel
theorem dX10_come_43 : decode cX10_come 43 = .ok (.iadd, 1) := by decide +kernel
theorem dX10_come_44 : decode cX10_come 44 = .ok (.iload_n 2, 1) := by decide +kernel
theorem dX10_come_45 : decode cX10_come 45 = .ok (.iastore, 1) := by decide +kernel
theorem dX10_come_46 : decode cX10_come 46 = .ok (.iload_n 3, 1) := by decide +kernel
theorem dX10_come_47 : decode cX10_come 47 = .ok (.ireturn, 1) := by decide +kernel
theorem dX10_undo_0 : decode cX10_undo 0 = .ok (.aload_n 0, 1) := by decide +kernel
theorem dX10_undo_1 : decode cX10_undo 1 = .ok (.getfield 170, 3) := by decide +kernel
theorem dX10_undo_4 : decode cX10_undo 4 = .ok (.ifCond .ne 6, 3) := by decide +kernel
theorem dX10_undo_7 : decode cX10_undo 7 = .ok (.bipush (-2), 2) := by decide +kernel
theorem dX10_undo_9 : decode cX10_undo 9 = .ok (.ireturn, 1) := by decide +kernel
theorem dX10_undo_10 : decode cX10_undo 10 = .ok (.aload_n 0, 1) := by decide +kernel
theorem dX10_undo_11 : decode cX10_undo 11 = .ok (.dup, 1) := by decide +kernel
theorem dX10_undo_12 : decode cX10_undo 12 = .ok (.getfield 170, 3) := by decide +kernel
theorem dX10_undo_15 : decode cX10_undo 15 = .ok (.iconst 1, 1) := by decide +kernel
theorem dX10_undo_16 : decode cX10_undo 16 = .ok (.isub, 1) := by decide +kernel
theorem dX10_undo_17 : decode cX10_undo 17 = .ok (.putfield 170, 3) := by decide +kernel
theorem dX10_undo_20 : decode cX10_undo 20 = .ok (.iconst 0, 1) := by decide +kernel
theorem dX10_undo_21 : decode cX10_undo 21 = .ok (.istore_n 1, 1) := by decide +kernel
theorem dX10_undo_22 : decode cX10_undo 22 = .ok (.iload_n 1, 1) := by decide +kernel
theorem dX10_undo_23 : decode cX10_undo 23 = .ok (.bipush 21, 2) := by decide +kernel
theorem dX10_undo_25 : decode cX10_undo 25 = .ok (.if_icmp .ge 29, 3) := by decide +kernel
theorem dX10_undo_28 : decode cX10_undo 28 = .ok (.aload_n 0, 1) := by decide +kernel
theorem dX10_undo_29 : decode cX10_undo 29 = .ok (.getfield 38, 3) := by decide +kernel
theorem dX10_undo_32 : decode cX10_undo 32 = .ok (.iload_n 1, 1) := by decide +kernel
theorem dX10_undo_33 : decode cX10_undo 33 = .ok (.aload_n 0, 1) := by decide +kernel
theorem dX10_undo_34 : decode cX10_undo 34 = .ok (.getfield 80, 3) := by decide +kernel
theorem dX10_undo_37 : decode cX10_undo 37 = .ok (.bipush 21, 2) := by decide +kernel
theorem dX10_undo_39 : decode cX10_undo 39 = .ok (.aload_n 0, 1) := by decide +kernel
theorem dX10_undo_40 : decode cX10_undo 40 = .ok (.getfield 170, 3) := by decide +kernel
theorem dX10_undo_43 : decode cX10_undo 43 = .ok (.imul, 1) := by decide +kernel
theorem dX10_undo_44 : decode cX10_undo 44 = .ok (.iload_n 1, 1) := by decide +kernel
theorem dX10_undo_45 : decode cX10_undo 45 = .ok (.iadd, 1) := by decide +kernel
theorem dX10_undo_46 : decode cX10_undo 46 = .ok (.iaload, 1) := by decide +kernel
theorem dX10_undo_47 : decode cX10_undo 47 = .ok (.iastore, 1) := by decide +kernel
theorem dX10_undo_48 : decode cX10_undo 48 = .ok (.iinc 1 1, 3) := by decide +kernel
theorem dX10_undo_51 : decode cX10_undo 51 = .ok (.goto (-29), 3) := by decide +kernel
theorem dX10_undo_54 : decode cX10_undo 54 = .ok (.aload_n 0, 1) := by decide +kernel
theorem dX10_undo_55 : decode cX10_undo 55 = .ok (.getfield 170, 3) := by decide +kernel
theorem dX10_undo_58 : decode cX10_undo 58 = .ok (.ireturn, 1) := by decide +kernel
theorem dX10_nextRow_0 : decode cX10_nextRow 0 = .ok (.aload_n 0, 1) := by decide +kernel
theorem dX10_nextRow_1 : decode cX10_nextRow 1 = .ok (.getfield 29, 3) := by decide +kernel
theorem dX10_nextRow_4 : decode cX10_nextRow 4 = .ok (.iconst 2, 1) := by decide +kernel
theorem dX10_nextRow_5 : decode cX10_nextRow 5 = .ok (.isub, 1) := by decide +kernel
theorem dX10_nextRow_6 : decode cX10_nextRow 6 = .ok (.istore_n 1, 1) := by decide +kernel
theorem dX10_nextRow_7 : decode cX10_nextRow 7 = .ok (.iload_n 1, 1) := by decide +kernel
theorem dX10_nextRow_8 : decode cX10_nextRow 8 = .ok (.ifCond .lt 26, 3) := by decide +kernel
theorem dX10_nextRow_11 : decode cX10_nextRow 11 = .ok (.aload_n 0, 1) := by decide +kernel
theorem dX10_nextRow_12 : decode cX10_nextRow 12 = .ok (.getfield 38, 3) := by decide +kernel
theorem dX10_nextRow_15 : decode cX10_nextRow 15 = .ok (.iload_n 1, 1) := by decide +kernel
theorem dX10_nextRow_16 : decode cX10_nextRow 16 = .ok (.iaload, 1) := by decide +kernel
theorem dX10_nextRow_17 : decode cX10_nextRow 17 = .ok (.aload_n 0, 1) := by decide +kernel
theorem dX10_nextRow_18 : decode cX10_nextRow 18 = .ok (.getfield 38, 3) := by decide +kernel
theorem dX10_nextRow_21 : decode cX10_nextRow 21 = .ok (.iload_n 1, 1) := by decide +kernel
theorem dX10_nextRow_22 : decode cX10_nextRow 22 = .ok (.iconst 1, 1) := by decide +kernel
theorem dX10_nextRow_23 : decode cX10_nextRow 23 = .ok (.iadd, 1) := by decide +kernel
theorem dX10_nextRow_24 : decode cX10_nextRow 24 = .ok (.iaload, 1) := by decide +kernel
theorem dX10_nextRow_25 : decode cX10_nextRow 25 = .ok (.if_icmp .le 9, 3) := by decide +kernel
theorem dX10_nextRow_28 : decode cX10_nextRow 28 = .ok (.iinc 1 (-1), 3) := by decide +kernel
theorem dX10_nextRow_31 : decode cX10_nextRow 31 = .ok (.goto (-24), 3) := by decide +kernel
theorem dX10_nextRow_34 : decode cX10_nextRow 34 = .ok (.iload_n 1, 1) := by decide +kernel
theorem dX10_nextRow_35 : decode cX10_nextRow 35 = .ok (.ifCond .ge 5, 3) := by decide +kernel
theorem dX10_nextRow_38 : decode cX10_nextRow 38 = .ok (.iconst 0, 1) := by decide +kernel
theorem dX10_nextRow_39 : decode cX10_nextRow 39 = .ok (.ireturn, 1) := by decide +kernel
theorem dX10_nextRow_40 : decode cX10_nextRow 40 = .ok (.aload_n 0, 1) := by decide +kernel
theorem dX10_nextRow_41 : decode cX10_nextRow 41 = .ok (.getfield 29, 3) := by decide +kernel
theorem dX10_nextRow_44 : decode cX10_nextRow 44 = .ok (.iconst 1, 1) := by decide +kernel
theorem dX10_nextRow_45 : decode cX10_nextRow 45 = .ok (.isub, 1) := by decide +kernel
theorem dX10_nextRow_46 : decode cX10_nextRow 46 = .ok (.istore_n 2, 1) := by decide +kernel
theorem dX10_nextRow_47 : decode cX10_nextRow 47 = .ok (.aload_n 0, 1) := by decide +kernel
theorem dX10_nextRow_48 : decode cX10_nextRow 48 = .ok (.getfield 38, 3) := by decide +kernel
theorem dX10_nextRow_51 : decode cX10_nextRow 51 = .ok (.iload_n 2, 1) := by decide +kernel
theorem dX10_nextRow_52 : decode cX10_nextRow 52 = .ok (.iaload, 1) := by decide +kernel
theorem dX10_nextRow_53 : decode cX10_nextRow 53 = .ok (.aload_n 0, 1) := by decide +kernel
theorem dX10_nextRow_54 : decode cX10_nextRow 54 = .ok (.getfield 38, 3) := by decide +kernel
theorem dX10_nextRow_57 : decode cX10_nextRow 57 = .ok (.iload_n 1, 1) := by decide +kernel
theorem dX10_nextRow_58 : decode cX10_nextRow 58 = .ok (.iaload, 1) := by decide +kernel
theorem dX10_nextRow_59 : decode cX10_nextRow 59 = .ok (.if_icmp .ge 9, 3) := by decide +kernel
theorem dX10_nextRow_62 : decode cX10_nextRow 62 = .ok (.iinc 2 (-1), 3) := by decide +kernel
theorem dX10_nextRow_65 : decode cX10_nextRow 65 = .ok (.goto (-18), 3) := by decide +kernel
theorem dX10_nextRow_68 : decode cX10_nextRow 68 = .ok (.aload_n 0, 1) := by decide +kernel
theorem dX10_nextRow_69 : decode cX10_nextRow 69 = .ok (.iload_n 1, 1) := by decide +kernel
theorem dX10_nextRow_70 : decode cX10_nextRow 70 = .ok (.iload_n 2, 1) := by decide +kernel
theorem dX10_nextRow_71 : decode cX10_nextRow 71 = .ok (.invokevirtual 248, 3) := by decide +kernel
theorem dX10_nextRow_74 : decode cX10_nextRow 74 = .ok (.aload_n 0, 1) := by decide +kernel
theorem dX10_nextRow_75 : decode cX10_nextRow 75 = .ok (.getfield 29, 3) := by decide +kernel
theorem dX10_nextRow_78 : decode cX10_nextRow 78 = .ok (.iconst 1, 1) := by decide +kernel
theorem dX10_nextRow_79 : decode cX10_nextRow 79 = .ok (.isub, 1) := by decide +kernel
theorem dX10_nextRow_80 : decode cX10_nextRow 80 = .ok (.istore_n 3, 1) := by decide +kernel
theorem dX10_nextRow_81 : decode cX10_nextRow 81 = .ok (.iload_n 1, 1) := by decide +kernel
theorem dX10_nextRow_82 : decode cX10_nextRow 82 = .ok (.iconst 1, 1) := by decide +kernel
theorem dX10_nextRow_83 : decode cX10_nextRow 83 = .ok (.iadd, 1) := by decide +kernel
theorem dX10_nextRow_84 : decode cX10_nextRow 84 = .ok (.istore 4, 2) := by decide +kernel
theorem dX10_nextRow_86 : decode cX10_nextRow 86 = .ok (.iload 4, 2) := by decide +kernel
theorem dX10_nextRow_88 : decode cX10_nextRow 88 = .ok (.iload_n 3, 1) := by decide +kernel
theorem dX10_nextRow_89 : decode cX10_nextRow 89 = .ok (.if_icmp .ge 19, 3) := by decide +kernel
theorem dX10_nextRow_92 : decode cX10_nextRow 92 = .ok (.aload_n 0, 1) := by decide +kernel
theorem dX10_nextRow_93 : decode cX10_nextRow 93 = .ok (.iload 4, 2) := by decide +kernel
theorem dX10_nextRow_95 : decode cX10_nextRow 95 = .ok (.iload_n 3, 1) := by decide +kernel
theorem dX10_nextRow_96 : decode cX10_nextRow 96 = .ok (.invokevirtual 248, 3) := by decide +kernel
theorem dX10_nextRow_99 : decode cX10_nextRow 99 = .ok (.iinc 3 (-1), 3) := by decide +kernel
theorem dX10_nextRow_102 : decode cX10_nextRow 102 = .ok (.iinc 4 1, 3) := by decide +kernel
theorem dX10_nextRow_105 : decode cX10_nextRow 105 = .ok (.goto (-19), 3) := by decide +kernel
theorem dX10_nextRow_108 : decode cX10_nextRow 108 = .ok (.iconst 1, 1) := by decide +kernel
theorem dX10_nextRow_109 : decode cX10_nextRow 109 = .ok (.ireturn, 1) := by decide +kernel
theorem dX10_exchange_0 : decode cX10_exchange 0 = .ok (.aload_n 0, 1) := by decide +kernel
theorem dX10_exchange_1 : decode cX10_exchange 1 = .ok (.getfield 38, 3) := by decide +kernel
theorem dX10_exchange_4 : decode cX10_exchange 4 = .ok (.iload_n 1, 1) := by decide +kernel
theorem dX10_exchange_5 : decode cX10_exchange 5 = .ok (.iaload, 1) := by decide +kernel
theorem dX10_exchange_6 : decode cX10_exchange 6 = .ok (.istore_n 3, 1) := by decide +kernel
theorem dX10_exchange_7 : decode cX10_exchange 7 = .ok (.aload_n 0, 1) := by decide +kernel
theorem dX10_exchange_8 : decode cX10_exchange 8 = .ok (.getfield 38, 3) := by decide +kernel
theorem dX10_exchange_11 : decode cX10_exchange 11 = .ok (.iload_n 1, 1) := by decide +kernel
theorem dX10_exchange_12 : decode cX10_exchange 12 = .ok (.aload_n 0, 1) := by decide +kernel
theorem dX10_exchange_13 : decode cX10_exchange 13 = .ok (.getfield 38, 3) := by decide +kernel
theorem dX10_exchange_16 : decode cX10_exchange 16 = .ok (.iload_n 2, 1) := by decide +kernel
theorem dX10_exchange_17 : decode cX10_exchange 17 = .ok (.iaload, 1) := by decide +kernel
theorem dX10_exchange_18 : decode cX10_exchange 18 = .ok (.iastore, 1) := by decide +kernel
theorem dX10_exchange_19 : decode cX10_exchange 19 = .ok (.aload_n 0, 1) := by decide +kernel
theorem dX10_exchange_20 : decode cX10_exchange 20 = .ok (.getfield 38, 3) := by decide +kernel
theorem dX10_exchange_23 : decode cX10_exchange 23 = .ok (.iload_n 2, 1) := by decide +kernel
theorem dX10_exchange_24 : decode cX10_exchange 24 = .ok (.iload_n 3, 1) := by decide +kernel
theorem dX10_exchange_25 : decode cX10_exchange 25 = .ok (.iastore, 1) := by decide +kernel
theorem dX10_exchange_26 : decode cX10_exchange 26 = .ok (.return_, 1) := by decide +kernel
theorem dX10_order_0 : decode cX10_order 0 = .ok (.iload_n 1, 1) := by decide +kernel
theorem dX10_order_1 : decode cX10_order 1 = .ok (.i2l, 1) := by decide +kernel
theorem dX10_order_2 : decode cX10_order 2 = .ok (.ldc2_w 251, 3) := by decide +kernel
theorem dX10_order_5 : decode cX10_order 5 = .ok (.aload_n 0, 1) := by decide +kernel
theorem dX10_order_6 : decode cX10_order 6 = .ok (.getfield 29, 3) := by decide +kernel
theorem dX10_order_9 : decode cX10_order 9 = .ok (.iconst 1, 1) := by decide +kernel
theorem dX10_order_10 : decode cX10_order 10 = .ok (.isub, 1) := by decide +kernel
theorem dX10_order_11 : decode cX10_order 11 = .ok (.i2l, 1) := by decide +kernel
theorem dX10_order_12 : decode cX10_order 12 = .ok (.invokestatic 101, 3) := by decide +kernel
theorem dX10_order_15 : decode cX10_order 15 = .ok (.ifCond .ne 5, 3) := by decide +kernel
theorem dX10_order_18 : decode cX10_order 18 = .ok (.iconst (-1), 1) := by decide +kernel
theorem dX10_order_19 : decode cX10_order 19 = .ok (.ireturn, 1) := by decide +kernel
theorem dX10_order_20 : decode cX10_order 20 = .ok (.iconst 0, 1) := by decide +kernel
theorem dX10_order_21 : decode cX10_order 21 = .ok (.istore_n 2, 1) := by decide +kernel
theorem dX10_order_22 : decode cX10_order 22 = .ok (.iload_n 2, 1) := by decide +kernel
theorem dX10_order_23 : decode cX10_order 23 = .ok (.bipush 7, 2) := by decide +kernel
theorem dX10_order_25 : decode cX10_order 25 = .ok (.if_icmp .ge 28, 3) := by decide +kernel
theorem dX10_order_28 : decode cX10_order 28 = .ok (.aload_n 0, 1) := by decide +kernel
theorem dX10_order_29 : decode cX10_order 29 = .ok (.getfield 83, 3) := by decide +kernel
theorem dX10_order_32 : decode cX10_order 32 = .ok (.iload_n 2, 1) := by decide +kernel
theorem dX10_order_33 : decode cX10_order 33 = .ok (.aload_n 0, 1) := by decide +kernel
theorem dX10_order_34 : decode cX10_order 34 = .ok (.getfield 38, 3) := by decide +kernel
theorem dX10_order_37 : decode cX10_order 37 = .ok (.iload_n 2, 1) := by decide +kernel
theorem dX10_order_38 : decode cX10_order 38 = .ok (.iaload, 1) := by decide +kernel
theorem dX10_order_39 : decode cX10_order 39 = .ok (.iastore, 1) := by decide +kernel
theorem dX10_order_40 : decode cX10_order 40 = .ok (.aload_n 0, 1) := by decide +kernel
theorem dX10_order_41 : decode cX10_order 41 = .ok (.getfield 38, 3) := by decide +kernel
theorem dX10_order_44 : decode cX10_order 44 = .ok (.iload_n 2, 1) := by decide +kernel
theorem dX10_order_45 : decode cX10_order 45 = .ok (.iload_n 2, 1) := by decide +kernel
theorem dX10_order_46 : decode cX10_order 46 = .ok (.iastore, 1) := by decide +kernel
theorem dX10_order_47 : decode cX10_order 47 = .ok (.iinc 2 1, 3) := by decide +kernel
theorem dX10_order_50 : decode cX10_order 50 = .ok (.goto (-28), 3) := by decide +kernel
theorem dX10_order_53 : decode cX10_order 53 = .ok (.iconst (-1), 1) := by decide +kernel
theorem dX10_order_54 : decode cX10_order 54 = .ok (.istore_n 2, 1) := by decide +kernel
theorem dX10_order_55 : decode cX10_order 55 = .ok (.iconst 1, 1) := by decide +kernel
theorem dX10_order_56 : decode cX10_order 56 = .ok (.istore_n 3, 1) := by decide +kernel
theorem dX10_order_57 : decode cX10_order 57 = .ok (.iload_n 3, 1) := by decide +kernel
theorem dX10_order_58 : decode cX10_order 58 = .ok (.ifCond .eq 87, 3) := by decide +kernel
theorem dX10_order_61 : decode cX10_order 61 = .ok (.aload_n 0, 1) := by decide +kernel
theorem dX10_order_62 : decode cX10_order 62 = .ok (.aload_n 0, 1) := by decide +kernel
theorem dX10_order_63 : decode cX10_order 63 = .ok (.getfield 13, 3) := by decide +kernel
theorem dX10_order_66 : decode cX10_order 66 = .ok (.invokevirtual 235, 3) := by decide +kernel
theorem dX10_order_69 : decode cX10_order 69 = .ok (.istore 4, 2) := by decide +kernel
theorem dX10_order_71 : decode cX10_order 71 = .ok (.iload_n 2, 1) := by decide +kernel
theorem dX10_order_72 : decode cX10_order 72 = .ok (.ifCond .lt 9, 3) := by decide +kernel
theorem dX10_order_75 : decode cX10_order 75 = .ok (.iload 4, 2) := by decide +kernel
theorem dX10_order_77 : decode cX10_order 77 = .ok (.iload_n 2, 1) := by decide +kernel
theorem dX10_order_78 : decode cX10_order 78 = .ok (.if_icmp .ge 7, 3) := by decide +kernel
theorem dX10_order_81 : decode cX10_order 81 = .ok (.iconst 1, 1) := by decide +kernel
theorem dX10_order_82 : decode cX10_order 82 = .ok (.goto 4, 3) := by decide +kernel
theorem dX10_order_85 : decode cX10_order 85 = .ok (.iconst 0, 1) := by decide +kernel
theorem dX10_order_86 : decode cX10_order 86 = .ok (.istore 5, 2) := by decide +kernel
theorem dX10_order_88 : decode cX10_order 88 = .ok (.iload 5, 2) := by decide +kernel
theorem dX10_order_90 : decode cX10_order 90 = .ok (.ifCond .eq 8, 3) := by decide +kernel
theorem dX10_order_93 : decode cX10_order 93 = .ok (.iload 4, 2) := by decide +kernel
theorem dX10_order_95 : decode cX10_order 95 = .ok (.goto 4, 3) := by decide +kernel
theorem dX10_order_98 : decode cX10_order 98 = .ok (.iload_n 2, 1) := by decide +kernel
theorem dX10_order_99 : decode cX10_order 99 = .ok (.istore_n 2, 1) := by decide +kernel
theorem dX10_order_100 : decode cX10_order 100 = .ok (.iconst 0, 1) := by decide +kernel
theorem dX10_order_101 : decode cX10_order 101 = .ok (.istore 6, 2) := by decide +kernel
theorem dX10_order_103 : decode cX10_order 103 = .ok (.iload 6, 2) := by decide +kernel
theorem dX10_order_105 : decode cX10_order 105 = .ok (.aload_n 0, 1) := by decide +kernel
theorem dX10_order_106 : decode cX10_order 106 = .ok (.getfield 29, 3) := by decide +kernel
theorem dX10_order_109 : decode cX10_order 109 = .ok (.if_icmp .ge 28, 3) := by decide +kernel
theorem dX10_order_112 : decode cX10_order 112 = .ok (.iload 5, 2) := by decide +kernel
theorem dX10_order_114 : decode cX10_order 114 = .ok (.ifCond .eq 23, 3) := by decide +kernel
theorem dX10_order_117 : decode cX10_order 117 = .ok (.aload_n 0, 1) := by decide +kernel
theorem dX10_order_118 : decode cX10_order 118 = .ok (.getfield 86, 3) := by decide +kernel
theorem dX10_order_121 : decode cX10_order 121 = .ok (.iload 6, 2) := by decide +kernel
theorem dX10_order_123 : decode cX10_order 123 = .ok (.aload_n 0, 1) := by decide +kernel
theorem dX10_order_124 : decode cX10_order 124 = .ok (.getfield 38, 3) := by decide +kernel
theorem dX10_order_127 : decode cX10_order 127 = .ok (.iload 6, 2) := by decide +kernel
theorem dX10_order_129 : decode cX10_order 129 = .ok (.iaload, 1) := by decide +kernel
theorem dX10_order_130 : decode cX10_order 130 = .ok (.iastore, 1) := by decide +kernel
theorem dX10_order_131 : decode cX10_order 131 = .ok (.iinc 6 1, 3) := by decide +kernel
theorem dX10_order_134 : decode cX10_order 134 = .ok (.goto (-31), 3) := by decide +kernel
theorem dX10_order_137 : decode cX10_order 137 = .ok (.aload_n 0, 1) := by decide +kernel
theorem dX10_order_138 : decode cX10_order 138 = .ok (.invokevirtual 253, 3) := by decide +kernel
theorem dX10_order_141 : decode cX10_order 141 = .ok (.istore_n 3, 1) := by decide +kernel
theorem dX10_order_142 : decode cX10_order 142 = .ok (.goto (-85), 3) := by decide +kernel
theorem dX10_order_145 : decode cX10_order 145 = .ok (.iconst 0, 1) := by decide +kernel
theorem dX10_order_146 : decode cX10_order 146 = .ok (.istore 4, 2) := by decide +kernel
theorem dX10_order_148 : decode cX10_order 148 = .ok (.iload 4, 2) := by decide +kernel
theorem dX10_order_150 : decode cX10_order 150 = .ok (.bipush 7, 2) := by decide +kernel
theorem dX10_order_152 : decode cX10_order 152 = .ok (.if_icmp .ge 23, 3) := by decide +kernel
theorem dX10_order_155 : decode cX10_order 155 = .ok (.aload_n 0, 1) := by decide +kernel
theorem dX10_order_156 : decode cX10_order 156 = .ok (.getfield 38, 3) := by decide +kernel
theorem dX10_order_159 : decode cX10_order 159 = .ok (.iload 4, 2) := by decide +kernel
theorem dX10_order_161 : decode cX10_order 161 = .ok (.aload_n 0, 1) := by decide +kernel
theorem dX10_order_162 : decode cX10_order 162 = .ok (.getfield 83, 3) := by decide +kernel
theorem dX10_order_165 : decode cX10_order 165 = .ok (.iload 4, 2) := by decide +kernel
theorem dX10_order_167 : decode cX10_order 167 = .ok (.iaload, 1) := by decide +kernel
theorem dX10_order_168 : decode cX10_order 168 = .ok (.iastore, 1) := by decide +kernel
theorem dX10_order_169 : decode cX10_order 169 = .ok (.iinc 4 1, 3) := by decide +kernel
theorem dX10_order_172 : decode cX10_order 172 = .ok (.goto (-24), 3) := by decide +kernel
theorem dX10_order_175 : decode cX10_order 175 = .ok (.iload_n 1, 1) := by decide +kernel
theorem dX10_order_176 : decode cX10_order 176 = .ok (.ifCond .ge 7, 3) := by decide +kernel
theorem dX10_order_179 : decode cX10_order 179 = .ok (.iload_n 2, 1) := by decide +kernel
theorem dX10_order_180 : decode cX10_order 180 = .ok (.goto 9, 3) := by decide +kernel
theorem dX10_order_183 : decode cX10_order 183 = .ok (.aload_n 0, 1) := by decide +kernel
theorem dX10_order_184 : decode cX10_order 184 = .ok (.getfield 86, 3) := by decide +kernel
theorem dX10_order_187 : decode cX10_order 187 = .ok (.iload_n 1, 1) := by decide +kernel
theorem dX10_order_188 : decode cX10_order 188 = .ok (.iaload, 1) := by decide +kernel
theorem dX10_order_189 : decode cX10_order 189 = .ok (.ireturn, 1) := by decide +kernel
theorem dX10_cushion_0 : decode cX10_cushion 0 = .ok (.iload_n 1, 1) := by decide +kernel
theorem dX10_cushion_1 : decode cX10_cushion 1 = .ok (.i2l, 1) := by decide +kernel
theorem dX10_cushion_2 : decode cX10_cushion 2 = .ok (.lconst 0, 1) := by decide +kernel
theorem dX10_cushion_3 : decode cX10_cushion 3 = .ok (.ldc2_w 148, 3) := by decide +kernel
theorem dX10_cushion_6 : decode cX10_cushion 6 = .ok (.invokestatic 101, 3) := by decide +kernel
theorem dX10_cushion_9 : decode cX10_cushion 9 = .ok (.ifCond .ne 5, 3) := by decide +kernel
theorem dX10_cushion_12 : decode cX10_cushion 12 = .ok (.iconst (-1), 1) := by decide +kernel
theorem dX10_cushion_13 : decode cX10_cushion 13 = .ok (.ireturn, 1) := by decide +kernel
theorem dX10_cushion_14 : decode cX10_cushion 14 = .ok (.iconst 0, 1) := by decide +kernel
theorem dX10_cushion_15 : decode cX10_cushion 15 = .ok (.istore_n 2, 1) := by decide +kernel
theorem dX10_cushion_16 : decode cX10_cushion 16 = .ok (.iconst (-1), 1) := by decide +kernel
theorem dX10_cushion_17 : decode cX10_cushion 17 = .ok (.istore_n 3, 1) := by decide +kernel
theorem dX10_cushion_18 : decode cX10_cushion 18 = .ok (.iconst 0, 1) := by decide +kernel
theorem dX10_cushion_19 : decode cX10_cushion 19 = .ok (.istore 4, 2) := by decide +kernel
theorem dX10_cushion_21 : decode cX10_cushion 21 = .ok (.iload 4, 2) := by decide +kernel
theorem dX10_cushion_23 : decode cX10_cushion 23 = .ok (.bipush 19, 2) := by decide +kernel
theorem dX10_cushion_25 : decode cX10_cushion 25 = .ok (.aload_n 0, 1) := by decide +kernel
theorem dX10_cushion_26 : decode cX10_cushion 26 = .ok (.getfield 29, 3) := by decide +kernel
theorem dX10_cushion_29 : decode cX10_cushion 29 = .ok (.imul, 1) := by decide +kernel
theorem dX10_cushion_30 : decode cX10_cushion 30 = .ok (.if_icmp .ge 100, 3) := by decide +kernel
theorem dX10_cushion_33 : decode cX10_cushion 33 = .ok (.aload_n 0, 1) := by decide +kernel
theorem dX10_cushion_34 : decode cX10_cushion 34 = .ok (.getfield 38, 3) := by decide +kernel
theorem dX10_cushion_37 : decode cX10_cushion 37 = .ok (.bipush 7, 2) := by decide +kernel
theorem dX10_cushion_39 : decode cX10_cushion 39 = .ok (.iload 4, 2) := by decide +kernel
theorem dX10_cushion_41 : decode cX10_cushion 41 = .ok (.bipush 19, 2) := by decide +kernel
theorem dX10_cushion_43 : decode cX10_cushion 43 = .ok (.idiv, 1) := by decide +kernel
theorem dX10_cushion_44 : decode cX10_cushion 44 = .ok (.iadd, 1) := by decide +kernel
theorem dX10_cushion_45 : decode cX10_cushion 45 = .ok (.iaload, 1) := by decide +kernel
theorem dX10_cushion_46 : decode cX10_cushion 46 = .ok (.istore 5, 2) := by decide +kernel
theorem dX10_cushion_48 : decode cX10_cushion 48 = .ok (.aload_n 0, 1) := by decide +kernel
theorem dX10_cushion_49 : decode cX10_cushion 49 = .ok (.getfield 38, 3) := by decide +kernel
theorem dX10_cushion_52 : decode cX10_cushion 52 = .ok (.bipush 7, 2) := by decide +kernel
theorem dX10_cushion_54 : decode cX10_cushion 54 = .ok (.iload 4, 2) := by decide +kernel
theorem dX10_cushion_56 : decode cX10_cushion 56 = .ok (.bipush 19, 2) := by decide +kernel
theorem dX10_cushion_58 : decode cX10_cushion 58 = .ok (.idiv, 1) := by decide +kernel
theorem dX10_cushion_59 : decode cX10_cushion 59 = .ok (.iadd, 1) := by decide +kernel
theorem dX10_cushion_60 : decode cX10_cushion 60 = .ok (.iload 4, 2) := by decide +kernel
theorem dX10_cushion_62 : decode cX10_cushion 62 = .ok (.bipush 19, 2) := by decide +kernel
theorem dX10_cushion_64 : decode cX10_cushion 64 = .ok (.irem, 1) := by decide +kernel
theorem dX10_cushion_65 : decode cX10_cushion 65 = .ok (.bipush 9, 2) := by decide +kernel
theorem dX10_cushion_67 : decode cX10_cushion 67 = .ok (.isub, 1) := by decide +kernel
theorem dX10_cushion_68 : decode cX10_cushion 68 = .ok (.iastore, 1) := by decide +kernel
theorem dX10_cushion_69 : decode cX10_cushion 69 = .ok (.aload_n 0, 1) := by decide +kernel
theorem dX10_cushion_70 : decode cX10_cushion 70 = .ok (.aload_n 0, 1) := by decide +kernel
theorem dX10_cushion_71 : decode cX10_cushion 71 = .ok (.getfield 13, 3) := by decide +kernel
theorem dX10_cushion_74 : decode cX10_cushion 74 = .ok (.invokevirtual 235, 3) := by decide +kernel
theorem dX10_cushion_77 : decode cX10_cushion 77 = .ok (.istore 6, 2) := by decide +kernel
theorem dX10_cushion_79 : decode cX10_cushion 79 = .ok (.aload_n 0, 1) := by decide +kernel
theorem dX10_cushion_80 : decode cX10_cushion 80 = .ok (.getfield 38, 3) := by decide +kernel
theorem dX10_cushion_83 : decode cX10_cushion 83 = .ok (.bipush 7, 2) := by decide +kernel
theorem dX10_cushion_85 : decode cX10_cushion 85 = .ok (.iload 4, 2) := by decide +kernel
theorem dX10_cushion_87 : decode cX10_cushion 87 = .ok (.bipush 19, 2) := by decide +kernel
theorem dX10_cushion_89 : decode cX10_cushion 89 = .ok (.idiv, 1) := by decide +kernel
theorem dX10_cushion_90 : decode cX10_cushion 90 = .ok (.iadd, 1) := by decide +kernel
theorem dX10_cushion_91 : decode cX10_cushion 91 = .ok (.iload 5, 2) := by decide +kernel
theorem dX10_cushion_93 : decode cX10_cushion 93 = .ok (.iastore, 1) := by decide +kernel
theorem dX10_cushion_94 : decode cX10_cushion 94 = .ok (.iload_n 3, 1) := by decide +kernel
theorem dX10_cushion_95 : decode cX10_cushion 95 = .ok (.ifCond .lt 9, 3) := by decide +kernel
theorem dX10_cushion_98 : decode cX10_cushion 98 = .ok (.iload 6, 2) := by decide +kernel
theorem dX10_cushion_100 : decode cX10_cushion 100 = .ok (.iload_n 3, 1) := by decide +kernel
theorem dX10_cushion_101 : decode cX10_cushion 101 = .ok (.if_icmp .ge 8, 3) := by decide +kernel
theorem dX10_cushion_104 : decode cX10_cushion 104 = .ok (.iload 4, 2) := by decide +kernel
theorem dX10_cushion_106 : decode cX10_cushion 106 = .ok (.goto 4, 3) := by decide +kernel
theorem dX10_cushion_109 : decode cX10_cushion 109 = .ok (.iload_n 2, 1) := by decide +kernel
theorem dX10_cushion_110 : decode cX10_cushion 110 = .ok (.istore_n 2, 1) := by decide +kernel
theorem dX10_cushion_111 : decode cX10_cushion 111 = .ok (.iload_n 2, 1) := by decide +kernel
theorem dX10_cushion_112 : decode cX10_cushion 112 = .ok (.iload 4, 2) := by decide +kernel
theorem dX10_cushion_114 : decode cX10_cushion 114 = .ok (.if_icmp .ne 8, 3) := by decide +kernel
theorem dX10_cushion_117 : decode cX10_cushion 117 = .ok (.iload 6, 2) := by decide +kernel
theorem dX10_cushion_119 : decode cX10_cushion 119 = .ok (.goto 4, 3) := by decide +kernel
theorem dX10_cushion_122 : decode cX10_cushion 122 = .ok (.iload_n 3, 1) := by decide +kernel
theorem dX10_cushion_123 : decode cX10_cushion 123 = .ok (.istore_n 3, 1) := by decide +kernel
theorem dX10_cushion_124 : decode cX10_cushion 124 = .ok (.iinc 4 1, 3) := by decide +kernel
theorem dX10_cushion_127 : decode cX10_cushion 127 = .ok (.goto (-106), 3) := by decide +kernel
theorem dX10_cushion_130 : decode cX10_cushion 130 = .ok (.iload_n 1, 1) := by decide +kernel
theorem dX10_cushion_131 : decode cX10_cushion 131 = .ok (.ifCond .ne 10, 3) := by decide +kernel
theorem dX10_cushion_134 : decode cX10_cushion 134 = .ok (.iload_n 2, 1) := by decide +kernel
theorem dX10_cushion_135 : decode cX10_cushion 135 = .ok (.bipush 19, 2) := by decide +kernel
theorem dX10_cushion_137 : decode cX10_cushion 137 = .ok (.idiv, 1) := by decide +kernel
theorem dX10_cushion_138 : decode cX10_cushion 138 = .ok (.goto 22, 3) := by decide +kernel
theorem dX10_cushion_141 : decode cX10_cushion 141 = .ok (.iload_n 1, 1) := by decide +kernel
theorem dX10_cushion_142 : decode cX10_cushion 142 = .ok (.iconst 1, 1) := by decide +kernel
theorem dX10_cushion_143 : decode cX10_cushion 143 = .ok (.if_icmp .ne 16, 3) := by decide +kernel
theorem dX10_cushion_146 : decode cX10_cushion 146 = .ok (.iload_n 2, 1) := by decide +kernel
theorem dX10_cushion_147 : decode cX10_cushion 147 = .ok (.bipush 19, 2) := by decide +kernel
theorem dX10_cushion_149 : decode cX10_cushion 149 = .ok (.irem, 1) := by decide +kernel
theorem dX10_cushion_150 : decode cX10_cushion 150 = .ok (.bipush 9, 2) := by decide +kernel
theorem dX10_cushion_152 : decode cX10_cushion 152 = .ok (.isub, 1) := by decide +kernel
theorem dX10_cushion_153 : decode cX10_cushion 153 = .ok (.bipush 100, 2) := by decide +kernel
theorem dX10_cushion_155 : decode cX10_cushion 155 = .ok (.iadd, 1) := by decide +kernel
theorem dX10_cushion_156 : decode cX10_cushion 156 = .ok (.goto 4, 3) := by decide +kernel
theorem dX10_cushion_159 : decode cX10_cushion 159 = .ok (.iload_n 3, 1) := by decide +kernel
theorem dX10_cushion_160 : decode cX10_cushion 160 = .ok (.ireturn, 1) := by decide +kernel
theorem dX10_length_0 : decode cX10_length 0 = .ok (.aload_n 0, 1) := by decide +kernel
theorem dX10_length_1 : decode cX10_length 1 = .ok (.iload_n 1, 1) := by decide +kernel
theorem dX10_length_2 : decode cX10_length 2 = .ok (.invokevirtual 193, 3) := by decide +kernel
theorem dX10_length_5 : decode cX10_length 5 = .ok (.ifCond .eq 13, 3) := by decide +kernel
theorem dX10_length_8 : decode cX10_length 8 = .ok (.iload_n 2, 1) := by decide +kernel
theorem dX10_length_9 : decode cX10_length 9 = .ok (.i2l, 1) := by decide +kernel
theorem dX10_length_10 : decode cX10_length 10 = .ok (.lconst 0, 1) := by decide +kernel
theorem dX10_length_11 : decode cX10_length 11 = .ok (.lconst 1, 1) := by decide +kernel
theorem dX10_length_12 : decode cX10_length 12 = .ok (.invokestatic 101, 3) := by decide +kernel
theorem dX10_length_15 : decode cX10_length 15 = .ok (.ifCond .ne 5, 3) := by decide +kernel
theorem dX10_length_18 : decode cX10_length 18 = .ok (.iconst (-1), 1) := by decide +kernel
theorem dX10_length_19 : decode cX10_length 19 = .ok (.ireturn, 1) := by decide +kernel
theorem dX10_length_20 : decode cX10_length 20 = .ok (.aload_n 0, 1) := by decide +kernel
theorem dX10_length_21 : decode cX10_length 21 = .ok (.getfield 7, 3) := by decide +kernel
theorem dX10_length_24 : decode cX10_length 24 = .ok (.iload_n 1, 1) := by decide +kernel
theorem dX10_length_25 : decode cX10_length 25 = .ok (.iaload, 1) := by decide +kernel
theorem dX10_length_26 : decode cX10_length 26 = .ok (.istore_n 3, 1) := by decide +kernel
theorem dX10_length_27 : decode cX10_length 27 = .ok (.iconst 0, 1) := by decide +kernel
theorem dX10_length_28 : decode cX10_length 28 = .ok (.istore 4, 2) := by decide +kernel
theorem dX10_length_30 : decode cX10_length 30 = .ok (.iconst (-1), 1) := by decide +kernel
theorem dX10_length_31 : decode cX10_length 31 = .ok (.istore 5, 2) := by decide +kernel
theorem dX10_length_33 : decode cX10_length 33 = .ok (.bipush 40, 2) := by decide +kernel
theorem dX10_length_35 : decode cX10_length 35 = .ok (.istore 6, 2) := by decide +kernel
theorem dX10_length_37 : decode cX10_length 37 = .ok (.iload 6, 2) := by decide +kernel
theorem dX10_length_39 : decode cX10_length 39 = .ok (.bipush 99, 2) := by decide +kernel
theorem dX10_length_41 : decode cX10_length 41 = .ok (.if_icmp .gt 64, 3) := by decide +kernel
theorem dX10_length_44 : decode cX10_length 44 = .ok (.aload_n 0, 1) := by decide +kernel
theorem dX10_length_45 : decode cX10_length 45 = .ok (.getfield 7, 3) := by decide +kernel
theorem dX10_length_48 : decode cX10_length 48 = .ok (.iload_n 1, 1) := by decide +kernel
theorem dX10_length_49 : decode cX10_length 49 = .ok (.iload 6, 2) := by decide +kernel
theorem dX10_length_51 : decode cX10_length 51 = .ok (.iastore, 1) := by decide +kernel
theorem dX10_length_52 : decode cX10_length 52 = .ok (.aload_n 0, 1) := by decide +kernel
theorem dX10_length_53 : decode cX10_length 53 = .ok (.aload_n 0, 1) := by decide +kernel
theorem dX10_length_54 : decode cX10_length 54 = .ok (.getfield 13, 3) := by decide +kernel
theorem dX10_length_57 : decode cX10_length 57 = .ok (.invokevirtual 235, 3) := by decide +kernel
theorem dX10_length_60 : decode cX10_length 60 = .ok (.istore 7, 2) := by decide +kernel
theorem dX10_length_62 : decode cX10_length 62 = .ok (.iload 5, 2) := by decide +kernel
theorem dX10_length_64 : decode cX10_length 64 = .ok (.ifCond .lt 10, 3) := by decide +kernel
theorem dX10_length_67 : decode cX10_length 67 = .ok (.iload 7, 2) := by decide +kernel
theorem dX10_length_69 : decode cX10_length 69 = .ok (.iload 5, 2) := by decide +kernel
theorem dX10_length_71 : decode cX10_length 71 = .ok (.if_icmp .ge 8, 3) := by decide +kernel
theorem dX10_length_74 : decode cX10_length 74 = .ok (.iload 6, 2) := by decide +kernel
theorem dX10_length_76 : decode cX10_length 76 = .ok (.goto 5, 3) := by decide +kernel
theorem dX10_length_79 : decode cX10_length 79 = .ok (.iload 4, 2) := by decide +kernel
theorem dX10_length_81 : decode cX10_length 81 = .ok (.istore 4, 2) := by decide +kernel
theorem dX10_length_83 : decode cX10_length 83 = .ok (.iload 4, 2) := by decide +kernel
theorem dX10_length_85 : decode cX10_length 85 = .ok (.iload 6, 2) := by decide +kernel
theorem dX10_length_87 : decode cX10_length 87 = .ok (.if_icmp .ne 8, 3) := by decide +kernel
theorem dX10_length_90 : decode cX10_length 90 = .ok (.iload 7, 2) := by decide +kernel
theorem dX10_length_92 : decode cX10_length 92 = .ok (.goto 5, 3) := by decide +kernel
theorem dX10_length_95 : decode cX10_length 95 = .ok (.iload 5, 2) := by decide +kernel
theorem dX10_length_97 : decode cX10_length 97 = .ok (.istore 5, 2) := by decide +kernel
theorem dX10_length_99 : decode cX10_length 99 = .ok (.iinc 6 1, 3) := by decide +kernel
theorem dX10_length_102 : decode cX10_length 102 = .ok (.goto (-65), 3) := by decide +kernel
theorem dX10_length_105 : decode cX10_length 105 = .ok (.aload_n 0, 1) := by decide +kernel
theorem dX10_length_106 : decode cX10_length 106 = .ok (.getfield 7, 3) := by decide +kernel
theorem dX10_length_109 : decode cX10_length 109 = .ok (.iload_n 1, 1) := by decide +kernel
theorem dX10_length_110 : decode cX10_length 110 = .ok (.iload_n 3, 1) := by decide +kernel
theorem dX10_length_111 : decode cX10_length 111 = .ok (.iastore, 1) := by decide +kernel
theorem dX10_length_112 : decode cX10_length 112 = .ok (.iload_n 2, 1) := by decide +kernel
theorem dX10_length_113 : decode cX10_length 113 = .ok (.ifCond .ne 8, 3) := by decide +kernel
theorem dX10_length_116 : decode cX10_length 116 = .ok (.iload 4, 2) := by decide +kernel
theorem dX10_length_118 : decode cX10_length 118 = .ok (.goto 5, 3) := by decide +kernel
theorem dX10_length_121 : decode cX10_length 121 = .ok (.iload 5, 2) := by decide +kernel
theorem dX10_length_123 : decode cX10_length 123 = .ok (.ireturn, 1) := by decide +kernel
theorem dX10_law_0 : decode cX10_law 0 = .ok (.aload_n 0, 1) := by decide +kernel
theorem dX10_law_1 : decode cX10_law 1 = .ok (.getfield 35, 3) := by decide +kernel
theorem dX10_law_4 : decode cX10_law 4 = .ok (.istore_n 1, 1) := by decide +kernel
theorem dX10_law_5 : decode cX10_law 5 = .ok (.iconst 0, 1) := by decide +kernel
theorem dX10_law_6 : decode cX10_law 6 = .ok (.istore_n 2, 1) := by decide +kernel
theorem dX10_law_7 : decode cX10_law 7 = .ok (.iconst (-1), 1) := by decide +kernel
theorem dX10_law_8 : decode cX10_law 8 = .ok (.istore_n 3, 1) := by decide +kernel
theorem dX10_law_9 : decode cX10_law 9 = .ok (.iconst 0, 1) := by decide +kernel
theorem dX10_law_10 : decode cX10_law 10 = .ok (.istore 4, 2) := by decide +kernel
theorem dX10_law_12 : decode cX10_law 12 = .ok (.iload 4, 2) := by decide +kernel
theorem dX10_law_14 : decode cX10_law 14 = .ok (.iconst 3, 1) := by decide +kernel
theorem dX10_law_15 : decode cX10_law 15 = .ok (.if_icmp .ge 55, 3) := by decide +kernel
theorem dX10_law_18 : decode cX10_law 18 = .ok (.aload_n 0, 1) := by decide +kernel
theorem dX10_law_19 : decode cX10_law 19 = .ok (.iload 4, 2) := by decide +kernel
theorem dX10_law_21 : decode cX10_law 21 = .ok (.putfield 35, 3) := by decide +kernel
theorem dX10_law_24 : decode cX10_law 24 = .ok (.aload_n 0, 1) := by decide +kernel
theorem dX10_law_25 : decode cX10_law 25 = .ok (.aload_n 0, 1) := by decide +kernel
theorem dX10_law_26 : decode cX10_law 26 = .ok (.getfield 13, 3) := by decide +kernel
theorem dX10_law_29 : decode cX10_law 29 = .ok (.invokevirtual 235, 3) := by decide +kernel
theorem dX10_law_32 : decode cX10_law 32 = .ok (.istore 5, 2) := by decide +kernel
theorem dX10_law_34 : decode cX10_law 34 = .ok (.iload_n 3, 1) := by decide +kernel
theorem dX10_law_35 : decode cX10_law 35 = .ok (.ifCond .lt 9, 3) := by decide +kernel
theorem dX10_law_38 : decode cX10_law 38 = .ok (.iload 5, 2) := by decide +kernel
theorem dX10_law_40 : decode cX10_law 40 = .ok (.iload_n 3, 1) := by decide +kernel
theorem dX10_law_41 : decode cX10_law 41 = .ok (.if_icmp .ge 8, 3) := by decide +kernel
theorem dX10_law_44 : decode cX10_law 44 = .ok (.iload 4, 2) := by decide +kernel
theorem dX10_law_46 : decode cX10_law 46 = .ok (.goto 4, 3) := by decide +kernel
theorem dX10_law_49 : decode cX10_law 49 = .ok (.iload_n 2, 1) := by decide +kernel
theorem dX10_law_50 : decode cX10_law 50 = .ok (.istore_n 2, 1) := by decide +kernel
theorem dX10_law_51 : decode cX10_law 51 = .ok (.iload_n 2, 1) := by decide +kernel
theorem dX10_law_52 : decode cX10_law 52 = .ok (.iload 4, 2) := by decide +kernel
theorem dX10_law_54 : decode cX10_law 54 = .ok (.if_icmp .ne 8, 3) := by decide +kernel
theorem dX10_law_57 : decode cX10_law 57 = .ok (.iload 5, 2) := by decide +kernel
theorem dX10_law_59 : decode cX10_law 59 = .ok (.goto 4, 3) := by decide +kernel
theorem dX10_law_62 : decode cX10_law 62 = .ok (.iload_n 3, 1) := by decide +kernel
theorem dX10_law_63 : decode cX10_law 63 = .ok (.istore_n 3, 1) := by decide +kernel
theorem dX10_law_64 : decode cX10_law 64 = .ok (.iinc 4 1, 3) := by decide +kernel
theorem dX10_law_67 : decode cX10_law 67 = .ok (.goto (-55), 3) := by decide +kernel
theorem dX10_law_70 : decode cX10_law 70 = .ok (.aload_n 0, 1) := by decide +kernel
theorem dX10_law_71 : decode cX10_law 71 = .ok (.iload_n 1, 1) := by decide +kernel
theorem dX10_law_72 : decode cX10_law 72 = .ok (.putfield 35, 3) := by decide +kernel
theorem dX10_law_75 : decode cX10_law 75 = .ok (.iload_n 2, 1) := by decide +kernel
theorem dX10_law_76 : decode cX10_law 76 = .ok (.ireturn, 1) := by decide +kernel
theorem dX10_pairs_0 : decode cX10_pairs 0 = .ok (.iload_n 1, 1) := by decide +kernel
theorem dX10_pairs_1 : decode cX10_pairs 1 = .ok (.i2l, 1) := by decide +kernel
theorem dX10_pairs_2 : decode cX10_pairs 2 = .ok (.lconst 0, 1) := by decide +kernel
theorem dX10_pairs_3 : decode cX10_pairs 3 = .ok (.lconst 1, 1) := by decide +kernel
theorem dX10_pairs_4 : decode cX10_pairs 4 = .ok (.invokestatic 101, 3) := by decide +kernel
theorem dX10_pairs_7 : decode cX10_pairs 7 = .ok (.ifCond .ne 5, 3) := by decide +kernel
theorem dX10_pairs_10 : decode cX10_pairs 10 = .ok (.iconst (-1), 1) := by decide +kernel
theorem dX10_pairs_11 : decode cX10_pairs 11 = .ok (.ireturn, 1) := by decide +kernel
theorem dX10_pairs_12 : decode cX10_pairs 12 = .ok (.aload_n 0, 1) := by decide +kernel
theorem dX10_pairs_13 : decode cX10_pairs 13 = .ok (.aload_n 0, 1) := by decide +kernel
theorem dX10_pairs_14 : decode cX10_pairs 14 = .ok (.getfield 13, 3) := by decide +kernel
theorem dX10_pairs_17 : decode cX10_pairs 17 = .ok (.invokevirtual 235, 3) := by decide +kernel
theorem dX10_pairs_20 : decode cX10_pairs 20 = .ok (.pop, 1) := by decide +kernel
theorem dX10_pairs_21 : decode cX10_pairs 21 = .ok (.iconst 0, 1) := by decide +kernel
theorem dX10_pairs_22 : decode cX10_pairs 22 = .ok (.istore_n 2, 1) := by decide +kernel
theorem dX10_pairs_23 : decode cX10_pairs 23 = .ok (.iload_n 2, 1) := by decide +kernel
theorem dX10_pairs_24 : decode cX10_pairs 24 = .ok (.aload_n 0, 1) := by decide +kernel
theorem dX10_pairs_25 : decode cX10_pairs 25 = .ok (.getfield 29, 3) := by decide +kernel
theorem dX10_pairs_28 : decode cX10_pairs 28 = .ok (.if_icmp .ge 35, 3) := by decide +kernel
theorem dX10_pairs_31 : decode cX10_pairs 31 = .ok (.aload_n 0, 1) := by decide +kernel
theorem dX10_pairs_32 : decode cX10_pairs 32 = .ok (.getfield 83, 3) := by decide +kernel
theorem dX10_pairs_35 : decode cX10_pairs 35 = .ok (.iload_n 2, 1) := by decide +kernel
theorem dX10_pairs_36 : decode cX10_pairs 36 = .ok (.aload_n 0, 1) := by decide +kernel
theorem dX10_pairs_37 : decode cX10_pairs 37 = .ok (.getfield 65, 3) := by decide +kernel
theorem dX10_pairs_40 : decode cX10_pairs 40 = .ok (.iload_n 2, 1) := by decide +kernel
theorem dX10_pairs_41 : decode cX10_pairs 41 = .ok (.iaload, 1) := by decide +kernel
theorem dX10_pairs_42 : decode cX10_pairs 42 = .ok (.ifCond .ge 8, 3) := by decide +kernel
theorem dX10_pairs_45 : decode cX10_pairs 45 = .ok (.bipush (-4), 2) := by decide +kernel
theorem dX10_pairs_47 : decode cX10_pairs 47 = .ok (.goto 9, 3) := by decide +kernel
theorem dX10_pairs_50 : decode cX10_pairs 50 = .ok (.aload_n 0, 1) := by decide +kernel
theorem dX10_pairs_51 : decode cX10_pairs 51 = .ok (.getfield 71, 3) := by decide +kernel
theorem dX10_pairs_54 : decode cX10_pairs 54 = .ok (.iload_n 2, 1) := by decide +kernel
theorem dX10_pairs_55 : decode cX10_pairs 55 = .ok (.iaload, 1) := by decide +kernel
theorem dX10_pairs_56 : decode cX10_pairs 56 = .ok (.iastore, 1) := by decide +kernel
theorem dX10_pairs_57 : decode cX10_pairs 57 = .ok (.iinc 2 1, 3) := by decide +kernel
theorem dX10_pairs_60 : decode cX10_pairs 60 = .ok (.goto (-37), 3) := by decide +kernel
theorem dX10_pairs_63 : decode cX10_pairs 63 = .ok (.iconst 0, 1) := by decide +kernel
theorem dX10_pairs_64 : decode cX10_pairs 64 = .ok (.istore_n 2, 1) := by decide +kernel
theorem dX10_pairs_65 : decode cX10_pairs 65 = .ok (.bipush (-4), 2) := by decide +kernel
theorem dX10_pairs_67 : decode cX10_pairs 67 = .ok (.istore_n 3, 1) := by decide +kernel
theorem dX10_pairs_68 : decode cX10_pairs 68 = .ok (.iconst 0, 1) := by decide +kernel
theorem dX10_pairs_69 : decode cX10_pairs 69 = .ok (.istore 4, 2) := by decide +kernel
theorem dX10_pairs_71 : decode cX10_pairs 71 = .ok (.iload 4, 2) := by decide +kernel
theorem dX10_pairs_73 : decode cX10_pairs 73 = .ok (.aload_n 0, 1) := by decide +kernel
theorem dX10_pairs_74 : decode cX10_pairs 74 = .ok (.getfield 29, 3) := by decide +kernel
theorem dX10_pairs_77 : decode cX10_pairs 77 = .ok (.if_icmp .ge 167, 3) := by decide +kernel
theorem dX10_pairs_80 : decode cX10_pairs 80 = .ok (.iload 4, 2) := by decide +kernel
theorem dX10_pairs_82 : decode cX10_pairs 82 = .ok (.iconst 1, 1) := by decide +kernel
theorem dX10_pairs_83 : decode cX10_pairs 83 = .ok (.iadd, 1) := by decide +kernel
theorem dX10_pairs_84 : decode cX10_pairs 84 = .ok (.istore 5, 2) := by decide +kernel
theorem dX10_pairs_86 : decode cX10_pairs 86 = .ok (.iload 5, 2) := by decide +kernel
theorem dX10_pairs_88 : decode cX10_pairs 88 = .ok (.aload_n 0, 1) := by decide +kernel
theorem dX10_pairs_89 : decode cX10_pairs 89 = .ok (.getfield 29, 3) := by decide +kernel
theorem dX10_pairs_92 : decode cX10_pairs 92 = .ok (.if_icmp .ge 146, 3) := by decide +kernel
theorem dX10_pairs_95 : decode cX10_pairs 95 = .ok (.aload_n 0, 1) := by decide +kernel
theorem dX10_pairs_96 : decode cX10_pairs 96 = .ok (.iload 4, 2) := by decide +kernel
theorem dX10_pairs_98 : decode cX10_pairs 98 = .ok (.invokevirtual 216, 3) := by decide +kernel
theorem dX10_pairs_101 : decode cX10_pairs 101 = .ok (.istore 6, 2) := by decide +kernel
theorem dX10_pairs_103 : decode cX10_pairs 103 = .ok (.aload_n 0, 1) := by decide +kernel
theorem dX10_pairs_104 : decode cX10_pairs 104 = .ok (.iload 5, 2) := by decide +kernel
theorem dX10_pairs_106 : decode cX10_pairs 106 = .ok (.invokevirtual 216, 3) := by decide +kernel
theorem dX10_pairs_109 : decode cX10_pairs 109 = .ok (.istore 7, 2) := by decide +kernel
theorem dX10_pairs_111 : decode cX10_pairs 111 = .ok (.aload_n 0, 1) := by decide +kernel
theorem dX10_pairs_112 : decode cX10_pairs 112 = .ok (.iload 6, 2) := by decide +kernel
theorem dX10_pairs_114 : decode cX10_pairs 114 = .ok (.iload 7, 2) := by decide +kernel
theorem dX10_pairs_116 : decode cX10_pairs 116 = .ok (.invokevirtual 248, 3) := by decide +kernel
theorem dX10_pairs_119 : decode cX10_pairs 119 = .ok (.aload_n 0, 1) := by decide +kernel
theorem dX10_pairs_120 : decode cX10_pairs 120 = .ok (.aload_n 0, 1) := by decide +kernel
theorem dX10_pairs_121 : decode cX10_pairs 121 = .ok (.getfield 13, 3) := by decide +kernel
theorem dX10_pairs_124 : decode cX10_pairs 124 = .ok (.invokevirtual 235, 3) := by decide +kernel
theorem dX10_pairs_127 : decode cX10_pairs 127 = .ok (.pop, 1) := by decide +kernel
theorem dX10_pairs_128 : decode cX10_pairs 128 = .ok (.aload_n 0, 1) := by decide +kernel
theorem dX10_pairs_129 : decode cX10_pairs 129 = .ok (.iload 6, 2) := by decide +kernel
theorem dX10_pairs_131 : decode cX10_pairs 131 = .ok (.iload 7, 2) := by decide +kernel
theorem dX10_pairs_133 : decode cX10_pairs 133 = .ok (.invokevirtual 248, 3) := by decide +kernel
theorem dX10_pairs_136 : decode cX10_pairs 136 = .ok (.aload_n 0, 1) := by decide +kernel
theorem dX10_pairs_137 : decode cX10_pairs 137 = .ok (.getfield 65, 3) := by decide +kernel
theorem dX10_pairs_140 : decode cX10_pairs 140 = .ok (.iload 4, 2) := by decide +kernel
theorem dX10_pairs_142 : decode cX10_pairs 142 = .ok (.iaload, 1) := by decide +kernel
theorem dX10_pairs_143 : decode cX10_pairs 143 = .ok (.ifCond .lt 51, 3) := by decide +kernel
theorem dX10_pairs_146 : decode cX10_pairs 146 = .ok (.aload_n 0, 1) := by decide +kernel
theorem dX10_pairs_147 : decode cX10_pairs 147 = .ok (.getfield 65, 3) := by decide +kernel
theorem dX10_pairs_150 : decode cX10_pairs 150 = .ok (.iload 5, 2) := by decide +kernel
theorem dX10_pairs_152 : decode cX10_pairs 152 = .ok (.iaload, 1) := by decide +kernel
theorem dX10_pairs_153 : decode cX10_pairs 153 = .ok (.ifCond .lt 41, 3) := by decide +kernel
theorem dX10_pairs_156 : decode cX10_pairs 156 = .ok (.aload_n 0, 1) := by decide +kernel
theorem dX10_pairs_157 : decode cX10_pairs 157 = .ok (.getfield 71, 3) := by decide +kernel
theorem dX10_pairs_160 : decode cX10_pairs 160 = .ok (.iload 4, 2) := by decide +kernel
theorem dX10_pairs_162 : decode cX10_pairs 162 = .ok (.iaload, 1) := by decide +kernel
theorem dX10_pairs_163 : decode cX10_pairs 163 = .ok (.aload_n 0, 1) := by decide +kernel
theorem dX10_pairs_164 : decode cX10_pairs 164 = .ok (.getfield 83, 3) := by decide +kernel
theorem dX10_pairs_167 : decode cX10_pairs 167 = .ok (.iload 4, 2) := by decide +kernel
theorem dX10_pairs_169 : decode cX10_pairs 169 = .ok (.iaload, 1) := by decide +kernel
theorem dX10_pairs_170 : decode cX10_pairs 170 = .ok (.if_icmp .ge 24, 3) := by decide +kernel
theorem dX10_pairs_173 : decode cX10_pairs 173 = .ok (.aload_n 0, 1) := by decide +kernel
theorem dX10_pairs_174 : decode cX10_pairs 174 = .ok (.getfield 71, 3) := by decide +kernel
theorem dX10_pairs_177 : decode cX10_pairs 177 = .ok (.iload 5, 2) := by decide +kernel
theorem dX10_pairs_179 : decode cX10_pairs 179 = .ok (.iaload, 1) := by decide +kernel
theorem dX10_pairs_180 : decode cX10_pairs 180 = .ok (.aload_n 0, 1) := by decide +kernel
theorem dX10_pairs_181 : decode cX10_pairs 181 = .ok (.getfield 83, 3) := by decide +kernel
theorem dX10_pairs_184 : decode cX10_pairs 184 = .ok (.iload 5, 2) := by decide +kernel
theorem dX10_pairs_186 : decode cX10_pairs 186 = .ok (.iaload, 1) := by decide +kernel
theorem dX10_pairs_187 : decode cX10_pairs 187 = .ok (.if_icmp .ge 7, 3) := by decide +kernel
theorem dX10_pairs_190 : decode cX10_pairs 190 = .ok (.iconst 1, 1) := by decide +kernel
theorem dX10_pairs_191 : decode cX10_pairs 191 = .ok (.goto 4, 3) := by decide +kernel
theorem dX10_pairs_194 : decode cX10_pairs 194 = .ok (.iconst 0, 1) := by decide +kernel
theorem dX10_pairs_195 : decode cX10_pairs 195 = .ok (.istore 8, 2) := by decide +kernel
theorem dX10_pairs_197 : decode cX10_pairs 197 = .ok (.iload 8, 2) := by decide +kernel
theorem dX10_pairs_199 : decode cX10_pairs 199 = .ok (.ifCond .eq 18, 3) := by decide +kernel
theorem dX10_pairs_202 : decode cX10_pairs 202 = .ok (.iload_n 2, 1) := by decide +kernel
theorem dX10_pairs_203 : decode cX10_pairs 203 = .ok (.ifCond .ne 14, 3) := by decide +kernel
theorem dX10_pairs_206 : decode cX10_pairs 206 = .ok (.bipush 10, 2) := by decide +kernel
theorem dX10_pairs_208 : decode cX10_pairs 208 = .ok (.iload 4, 2) := by decide +kernel
theorem dX10_pairs_210 : decode cX10_pairs 210 = .ok (.imul, 1) := by decide +kernel
theorem dX10_pairs_211 : decode cX10_pairs 211 = .ok (.iload 5, 2) := by decide +kernel
theorem dX10_pairs_213 : decode cX10_pairs 213 = .ok (.iadd, 1) := by decide +kernel
theorem dX10_pairs_214 : decode cX10_pairs 214 = .ok (.goto 4, 3) := by decide +kernel
theorem dX10_pairs_217 : decode cX10_pairs 217 = .ok (.iload_n 3, 1) := by decide +kernel
theorem dX10_pairs_218 : decode cX10_pairs 218 = .ok (.istore_n 3, 1) := by decide +kernel
theorem dX10_pairs_219 : decode cX10_pairs 219 = .ok (.iload_n 2, 1) := by decide +kernel
theorem dX10_pairs_220 : decode cX10_pairs 220 = .ok (.iload 8, 2) := by decide +kernel
theorem dX10_pairs_222 : decode cX10_pairs 222 = .ok (.ifCond .eq 7, 3) := by decide +kernel
theorem dX10_pairs_225 : decode cX10_pairs 225 = .ok (.iconst 1, 1) := by decide +kernel
theorem dX10_pairs_226 : decode cX10_pairs 226 = .ok (.goto 4, 3) := by decide +kernel
theorem dX10_pairs_229 : decode cX10_pairs 229 = .ok (.iconst 0, 1) := by decide +kernel
theorem dX10_pairs_230 : decode cX10_pairs 230 = .ok (.iadd, 1) := by decide +kernel
theorem dX10_pairs_231 : decode cX10_pairs 231 = .ok (.istore_n 2, 1) := by decide +kernel
theorem dX10_pairs_232 : decode cX10_pairs 232 = .ok (.iinc 5 1, 3) := by decide +kernel
theorem dX10_pairs_235 : decode cX10_pairs 235 = .ok (.goto (-149), 3) := by decide +kernel
theorem dX10_pairs_238 : decode cX10_pairs 238 = .ok (.iinc 4 1, 3) := by decide +kernel
theorem dX10_pairs_241 : decode cX10_pairs 241 = .ok (.goto (-170), 3) := by decide +kernel
theorem dX10_pairs_244 : decode cX10_pairs 244 = .ok (.iload_n 1, 1) := by decide +kernel
theorem dX10_pairs_245 : decode cX10_pairs 245 = .ok (.ifCond .ne 7, 3) := by decide +kernel
theorem dX10_pairs_248 : decode cX10_pairs 248 = .ok (.iload_n 2, 1) := by decide +kernel
theorem dX10_pairs_249 : decode cX10_pairs 249 = .ok (.goto 4, 3) := by decide +kernel
theorem dX10_pairs_252 : decode cX10_pairs 252 = .ok (.iload_n 3, 1) := by decide +kernel
theorem dX10_pairs_253 : decode cX10_pairs 253 = .ok (.ireturn, 1) := by decide +kernel
theorem dX10_later_0 : decode cX10_later 0 = .ok (.aload_n 0, 1) := by decide +kernel
theorem dX10_later_1 : decode cX10_later 1 = .ok (.iload_n 1, 1) := by decide +kernel
theorem dX10_later_2 : decode cX10_later 2 = .ok (.invokevirtual 209, 3) := by decide +kernel
theorem dX10_later_5 : decode cX10_later 5 = .ok (.ifCond .eq 13, 3) := by decide +kernel
theorem dX10_later_8 : decode cX10_later 8 = .ok (.iload_n 2, 1) := by decide +kernel
theorem dX10_later_9 : decode cX10_later 9 = .ok (.i2l, 1) := by decide +kernel
theorem dX10_later_10 : decode cX10_later 10 = .ok (.lconst 0, 1) := by decide +kernel
theorem dX10_later_11 : decode cX10_later 11 = .ok (.lconst 1, 1) := by decide +kernel
theorem dX10_later_12 : decode cX10_later 12 = .ok (.invokestatic 101, 3) := by decide +kernel
theorem dX10_later_15 : decode cX10_later 15 = .ok (.ifCond .ne 5, 3) := by decide +kernel
theorem dX10_later_18 : decode cX10_later 18 = .ok (.iconst (-1), 1) := by decide +kernel
theorem dX10_later_19 : decode cX10_later 19 = .ok (.ireturn, 1) := by decide +kernel
theorem dX10_later_20 : decode cX10_later 20 = .ok (.aload_n 0, 1) := by decide +kernel
theorem dX10_later_21 : decode cX10_later 21 = .ok (.getfield 38, 3) := by decide +kernel
theorem dX10_later_24 : decode cX10_later 24 = .ok (.bipush 14, 2) := by decide +kernel
theorem dX10_later_26 : decode cX10_later 26 = .ok (.iload_n 1, 1) := by decide +kernel
theorem dX10_later_27 : decode cX10_later 27 = .ok (.iadd, 1) := by decide +kernel
theorem dX10_later_28 : decode cX10_later 28 = .ok (.iaload, 1) := by decide +kernel
theorem dX10_later_29 : decode cX10_later 29 = .ok (.istore_n 3, 1) := by decide +kernel
theorem dX10_later_30 : decode cX10_later 30 = .ok (.bipush (-4), 2) := by decide +kernel
theorem dX10_later_32 : decode cX10_later 32 = .ok (.istore 4, 2) := by decide +kernel
theorem dX10_later_34 : decode cX10_later 34 = .ok (.iconst 0, 1) := by decide +kernel
theorem dX10_later_35 : decode cX10_later 35 = .ok (.istore 5, 2) := by decide +kernel
theorem dX10_later_37 : decode cX10_later 37 = .ok (.iconst 0, 1) := by decide +kernel
theorem dX10_later_38 : decode cX10_later 38 = .ok (.istore 6, 2) := by decide +kernel
theorem dX10_later_40 : decode cX10_later 40 = .ok (.iload 6, 2) := by decide +kernel
theorem dX10_later_42 : decode cX10_later 42 = .ok (.bipush 10, 2) := by decide +kernel
theorem dX10_later_44 : decode cX10_later 44 = .ok (.if_icmp .ge 68, 3) := by decide +kernel
theorem dX10_later_47 : decode cX10_later 47 = .ok (.aload_n 0, 1) := by decide +kernel
theorem dX10_later_48 : decode cX10_later 48 = .ok (.getfield 38, 3) := by decide +kernel
theorem dX10_later_51 : decode cX10_later 51 = .ok (.bipush 14, 2) := by decide +kernel
theorem dX10_later_53 : decode cX10_later 53 = .ok (.iload_n 1, 1) := by decide +kernel
theorem dX10_later_54 : decode cX10_later 54 = .ok (.iadd, 1) := by decide +kernel
theorem dX10_later_55 : decode cX10_later 55 = .ok (.iload_n 3, 1) := by decide +kernel
theorem dX10_later_56 : decode cX10_later 56 = .ok (.iload 6, 2) := by decide +kernel
theorem dX10_later_58 : decode cX10_later 58 = .ok (.iadd, 1) := by decide +kernel
theorem dX10_later_59 : decode cX10_later 59 = .ok (.iastore, 1) := by decide +kernel
theorem dX10_later_60 : decode cX10_later 60 = .ok (.aload_n 0, 1) := by decide +kernel
theorem dX10_later_61 : decode cX10_later 61 = .ok (.aload_n 0, 1) := by decide +kernel
theorem dX10_later_62 : decode cX10_later 62 = .ok (.getfield 13, 3) := by decide +kernel
theorem dX10_later_65 : decode cX10_later 65 = .ok (.invokevirtual 235, 3) := by decide +kernel
theorem dX10_later_68 : decode cX10_later 68 = .ok (.pop, 1) := by decide +kernel
theorem dX10_later_69 : decode cX10_later 69 = .ok (.aload_n 0, 1) := by decide +kernel
theorem dX10_later_70 : decode cX10_later 70 = .ok (.getfield 65, 3) := by decide +kernel
theorem dX10_later_73 : decode cX10_later 73 = .ok (.iload_n 1, 1) := by decide +kernel
theorem dX10_later_74 : decode cX10_later 74 = .ok (.iaload, 1) := by decide +kernel
theorem dX10_later_75 : decode cX10_later 75 = .ok (.ifCond .lt 31, 3) := by decide +kernel
theorem dX10_later_78 : decode cX10_later 78 = .ok (.iload 4, 2) := by decide +kernel
theorem dX10_later_80 : decode cX10_later 80 = .ok (.ifCond .lt 14, 3) := by decide +kernel
theorem dX10_later_83 : decode cX10_later 83 = .ok (.aload_n 0, 1) := by decide +kernel
theorem dX10_later_84 : decode cX10_later 84 = .ok (.getfield 71, 3) := by decide +kernel
theorem dX10_later_87 : decode cX10_later 87 = .ok (.iload_n 1, 1) := by decide +kernel
theorem dX10_later_88 : decode cX10_later 88 = .ok (.iaload, 1) := by decide +kernel
theorem dX10_later_89 : decode cX10_later 89 = .ok (.iload 5, 2) := by decide +kernel
theorem dX10_later_91 : decode cX10_later 91 = .ok (.if_icmp .ge 15, 3) := by decide +kernel
theorem dX10_later_94 : decode cX10_later 94 = .ok (.iload 6, 2) := by decide +kernel
theorem dX10_later_96 : decode cX10_later 96 = .ok (.istore 4, 2) := by decide +kernel
theorem dX10_later_98 : decode cX10_later 98 = .ok (.aload_n 0, 1) := by decide +kernel
theorem dX10_later_99 : decode cX10_later 99 = .ok (.getfield 71, 3) := by decide +kernel
theorem dX10_later_102 : decode cX10_later 102 = .ok (.iload_n 1, 1) := by decide +kernel
theorem dX10_later_103 : decode cX10_later 103 = .ok (.iaload, 1) := by decide +kernel
theorem dX10_later_104 : decode cX10_later 104 = .ok (.istore 5, 2) := by decide +kernel
theorem dX10_later_106 : decode cX10_later 106 = .ok (.iinc 6 1, 3) := by decide +kernel
theorem dX10_later_109 : decode cX10_later 109 = .ok (.goto (-69), 3) := by decide +kernel
theorem dX10_later_112 : decode cX10_later 112 = .ok (.aload_n 0, 1) := by decide +kernel
theorem dX10_later_113 : decode cX10_later 113 = .ok (.getfield 38, 3) := by decide +kernel
theorem dX10_later_116 : decode cX10_later 116 = .ok (.bipush 14, 2) := by decide +kernel
theorem dX10_later_118 : decode cX10_later 118 = .ok (.iload_n 1, 1) := by decide +kernel
theorem dX10_later_119 : decode cX10_later 119 = .ok (.iadd, 1) := by decide +kernel
theorem dX10_later_120 : decode cX10_later 120 = .ok (.iload_n 3, 1) := by decide +kernel
theorem dX10_later_121 : decode cX10_later 121 = .ok (.iastore, 1) := by decide +kernel
theorem dX10_later_122 : decode cX10_later 122 = .ok (.iload 4, 2) := by decide +kernel
theorem dX10_later_124 : decode cX10_later 124 = .ok (.ifCond .ge 8, 3) := by decide +kernel
theorem dX10_later_127 : decode cX10_later 127 = .ok (.bipush (-4), 2) := by decide +kernel
theorem dX10_later_129 : decode cX10_later 129 = .ok (.goto 14, 3) := by decide +kernel
theorem dX10_later_132 : decode cX10_later 132 = .ok (.iload_n 2, 1) := by decide +kernel
theorem dX10_later_133 : decode cX10_later 133 = .ok (.ifCond .ne 8, 3) := by decide +kernel
theorem dX10_later_136 : decode cX10_later 136 = .ok (.iload 4, 2) := by decide +kernel
theorem dX10_later_138 : decode cX10_later 138 = .ok (.goto 5, 3) := by decide +kernel
theorem dX10_later_141 : decode cX10_later 141 = .ok (.iload 5, 2) := by decide +kernel
theorem dX10_later_143 : decode cX10_later 143 = .ok (.ireturn, 1) := by decide +kernel
theorem dX10_rival_0 : decode cX10_rival 0 = .ok (.aload_n 0, 1) := by decide +kernel
theorem dX10_rival_1 : decode cX10_rival 1 = .ok (.aload_n 0, 1) := by decide +kernel
theorem dX10_rival_2 : decode cX10_rival 2 = .ok (.getfield 13, 3) := by decide +kernel
theorem dX10_rival_5 : decode cX10_rival 5 = .ok (.invokevirtual 235, 3) := by decide +kernel
theorem dX10_rival_8 : decode cX10_rival 8 = .ok (.pop, 1) := by decide +kernel
theorem dX10_rival_9 : decode cX10_rival 9 = .ok (.iconst 0, 1) := by decide +kernel
theorem dX10_rival_10 : decode cX10_rival 10 = .ok (.istore_n 1, 1) := by decide +kernel
theorem dX10_rival_11 : decode cX10_rival 11 = .ok (.iconst 0, 1) := by decide +kernel
theorem dX10_rival_12 : decode cX10_rival 12 = .ok (.istore_n 2, 1) := by decide +kernel
theorem dX10_rival_13 : decode cX10_rival 13 = .ok (.iload_n 2, 1) := by decide +kernel
theorem dX10_rival_14 : decode cX10_rival 14 = .ok (.aload_n 0, 1) := by decide +kernel
theorem dX10_rival_15 : decode cX10_rival 15 = .ok (.getfield 29, 3) := by decide +kernel
theorem dX10_rival_18 : decode cX10_rival 18 = .ok (.if_icmp .ge 74, 3) := by decide +kernel
theorem dX10_rival_21 : decode cX10_rival 21 = .ok (.iconst 0, 1) := by decide +kernel
theorem dX10_rival_22 : decode cX10_rival 22 = .ok (.istore_n 3, 1) := by decide +kernel
theorem dX10_rival_23 : decode cX10_rival 23 = .ok (.iload_n 3, 1) := by decide +kernel
theorem dX10_rival_24 : decode cX10_rival 24 = .ok (.aload_n 0, 1) := by decide +kernel
theorem dX10_rival_25 : decode cX10_rival 25 = .ok (.getfield 167, 3) := by decide +kernel
theorem dX10_rival_28 : decode cX10_rival 28 = .ok (.if_icmp .ge 58, 3) := by decide +kernel
theorem dX10_rival_31 : decode cX10_rival 31 = .ok (.aload_n 0, 1) := by decide +kernel
theorem dX10_rival_32 : decode cX10_rival 32 = .ok (.iload_n 2, 1) := by decide +kernel
theorem dX10_rival_33 : decode cX10_rival 33 = .ok (.aload_n 0, 1) := by decide +kernel
theorem dX10_rival_34 : decode cX10_rival 34 = .ok (.iload_n 2, 1) := by decide +kernel
theorem dX10_rival_35 : decode cX10_rival 35 = .ok (.aload_n 0, 1) := by decide +kernel
theorem dX10_rival_36 : decode cX10_rival 36 = .ok (.getfield 38, 3) := by decide +kernel
theorem dX10_rival_39 : decode cX10_rival 39 = .ok (.bipush 14, 2) := by decide +kernel
theorem dX10_rival_41 : decode cX10_rival 41 = .ok (.iload_n 2, 1) := by decide +kernel
theorem dX10_rival_42 : decode cX10_rival 42 = .ok (.iadd, 1) := by decide +kernel
theorem dX10_rival_43 : decode cX10_rival 43 = .ok (.iaload, 1) := by decide +kernel
theorem dX10_rival_44 : decode cX10_rival 44 = .ok (.invokevirtual 203, 3) := by decide +kernel
theorem dX10_rival_47 : decode cX10_rival 47 = .ok (.aload_n 0, 1) := by decide +kernel
theorem dX10_rival_48 : decode cX10_rival 48 = .ok (.getfield 32, 3) := by decide +kernel
theorem dX10_rival_51 : decode cX10_rival 51 = .ok (.iload_n 3, 1) := by decide +kernel
theorem dX10_rival_52 : decode cX10_rival 52 = .ok (.iaload, 1) := by decide +kernel
theorem dX10_rival_53 : decode cX10_rival 53 = .ok (.isub, 1) := by decide +kernel
theorem dX10_rival_54 : decode cX10_rival 54 = .ok (.invokevirtual 206, 3) := by decide +kernel
theorem dX10_rival_57 : decode cX10_rival 57 = .ok (.istore 4, 2) := by decide +kernel
theorem dX10_rival_59 : decode cX10_rival 59 = .ok (.iload_n 1, 1) := by decide +kernel
theorem dX10_rival_60 : decode cX10_rival 60 = .ok (.iload 4, 2) := by decide +kernel
theorem dX10_rival_62 : decode cX10_rival 62 = .ok (.aload_n 0, 1) := by decide +kernel
theorem dX10_rival_63 : decode cX10_rival 63 = .ok (.getfield 71, 3) := by decide +kernel
theorem dX10_rival_66 : decode cX10_rival 66 = .ok (.iload_n 2, 1) := by decide +kernel
theorem dX10_rival_67 : decode cX10_rival 67 = .ok (.iaload, 1) := by decide +kernel
theorem dX10_rival_68 : decode cX10_rival 68 = .ok (.if_icmp .ge 9, 3) := by decide +kernel
theorem dX10_rival_71 : decode cX10_rival 71 = .ok (.iconst 1, 1) := by decide +kernel
theorem dX10_rival_72 : decode cX10_rival 72 = .ok (.iload_n 2, 1) := by decide +kernel
theorem dX10_rival_73 : decode cX10_rival 73 = .ok (.ishl, 1) := by decide +kernel
theorem dX10_rival_74 : decode cX10_rival 74 = .ok (.goto 4, 3) := by decide +kernel
theorem dX10_rival_77 : decode cX10_rival 77 = .ok (.iconst 0, 1) := by decide +kernel
theorem dX10_rival_78 : decode cX10_rival 78 = .ok (.ior, 1) := by decide +kernel
theorem dX10_rival_79 : decode cX10_rival 79 = .ok (.istore_n 1, 1) := by decide +kernel
theorem dX10_rival_80 : decode cX10_rival 80 = .ok (.iinc 3 1, 3) := by decide +kernel
theorem dX10_rival_83 : decode cX10_rival 83 = .ok (.goto (-60), 3) := by decide +kernel
theorem dX10_rival_86 : decode cX10_rival 86 = .ok (.iinc 2 1, 3) := by decide +kernel
theorem dX10_rival_89 : decode cX10_rival 89 = .ok (.goto (-76), 3) := by decide +kernel
theorem dX10_rival_92 : decode cX10_rival 92 = .ok (.iload_n 1, 1) := by decide +kernel
theorem dX10_rival_93 : decode cX10_rival 93 = .ok (.ireturn, 1) := by decide +kernel
theorem dX10_fewest_0 : decode cX10_fewest 0 = .ok (.iload_n 1, 1) := by decide +kernel
theorem dX10_fewest_1 : decode cX10_fewest 1 = .ok (.invokestatic 196, 3) := by decide +kernel
theorem dX10_fewest_4 : decode cX10_fewest 4 = .ok (.ifCond .ne 5, 3) := by decide +kernel
theorem dX10_fewest_7 : decode cX10_fewest 7 = .ok (.iconst (-1), 1) := by decide +kernel
theorem dX10_fewest_8 : decode cX10_fewest 8 = .ok (.ireturn, 1) := by decide +kernel
theorem dX10_fewest_9 : decode cX10_fewest 9 = .ok (.iconst 1, 1) := by decide +kernel
theorem dX10_fewest_10 : decode cX10_fewest 10 = .ok (.istore_n 2, 1) := by decide +kernel
theorem dX10_fewest_11 : decode cX10_fewest 11 = .ok (.iload_n 2, 1) := by decide +kernel
theorem dX10_fewest_12 : decode cX10_fewest 12 = .ok (.aload_n 0, 1) := by decide +kernel
theorem dX10_fewest_13 : decode cX10_fewest 13 = .ok (.getfield 13, 3) := by decide +kernel
theorem dX10_fewest_16 : decode cX10_fewest 16 = .ok (.if_icmp .gt 68, 3) := by decide +kernel
theorem dX10_fewest_19 : decode cX10_fewest 19 = .ok (.aload_n 0, 1) := by decide +kernel
theorem dX10_fewest_20 : decode cX10_fewest 20 = .ok (.iload_n 2, 1) := by decide +kernel
theorem dX10_fewest_21 : decode cX10_fewest 21 = .ok (.invokevirtual 235, 3) := by decide +kernel
theorem dX10_fewest_24 : decode cX10_fewest 24 = .ok (.pop, 1) := by decide +kernel
theorem dX10_fewest_25 : decode cX10_fewest 25 = .ok (.iconst 1, 1) := by decide +kernel
theorem dX10_fewest_26 : decode cX10_fewest 26 = .ok (.istore_n 3, 1) := by decide +kernel
theorem dX10_fewest_27 : decode cX10_fewest 27 = .ok (.iconst 0, 1) := by decide +kernel
theorem dX10_fewest_28 : decode cX10_fewest 28 = .ok (.istore 4, 2) := by decide +kernel
theorem dX10_fewest_30 : decode cX10_fewest 30 = .ok (.iload 4, 2) := by decide +kernel
theorem dX10_fewest_32 : decode cX10_fewest 32 = .ok (.aload_n 0, 1) := by decide +kernel
theorem dX10_fewest_33 : decode cX10_fewest 33 = .ok (.getfield 29, 3) := by decide +kernel
theorem dX10_fewest_36 : decode cX10_fewest 36 = .ok (.if_icmp .ge 36, 3) := by decide +kernel
theorem dX10_fewest_39 : decode cX10_fewest 39 = .ok (.iload_n 3, 1) := by decide +kernel
theorem dX10_fewest_40 : decode cX10_fewest 40 = .ok (.ifCond .eq 24, 3) := by decide +kernel
theorem dX10_fewest_43 : decode cX10_fewest 43 = .ok (.aload_n 0, 1) := by decide +kernel
theorem dX10_fewest_44 : decode cX10_fewest 44 = .ok (.getfield 65, 3) := by decide +kernel
theorem dX10_fewest_47 : decode cX10_fewest 47 = .ok (.iload 4, 2) := by decide +kernel
theorem dX10_fewest_49 : decode cX10_fewest 49 = .ok (.iaload, 1) := by decide +kernel
theorem dX10_fewest_50 : decode cX10_fewest 50 = .ok (.i2l, 1) := by decide +kernel
theorem dX10_fewest_51 : decode cX10_fewest 51 = .ok (.lconst 0, 1) := by decide +kernel
theorem dX10_fewest_52 : decode cX10_fewest 52 = .ok (.iload_n 1, 1) := by decide +kernel
theorem dX10_fewest_53 : decode cX10_fewest 53 = .ok (.i2l, 1) := by decide +kernel
theorem dX10_fewest_54 : decode cX10_fewest 54 = .ok (.invokestatic 101, 3) := by decide +kernel
theorem dX10_fewest_57 : decode cX10_fewest 57 = .ok (.ifCond .eq 7, 3) := by decide +kernel
theorem dX10_fewest_60 : decode cX10_fewest 60 = .ok (.iconst 1, 1) := by decide +kernel
theorem dX10_fewest_61 : decode cX10_fewest 61 = .ok (.goto 4, 3) := by decide +kernel
theorem dX10_fewest_64 : decode cX10_fewest 64 = .ok (.iconst 0, 1) := by decide +kernel
theorem dX10_fewest_65 : decode cX10_fewest 65 = .ok (.istore_n 3, 1) := by decide +kernel
theorem dX10_fewest_66 : decode cX10_fewest 66 = .ok (.iinc 4 1, 3) := by decide +kernel
theorem dX10_fewest_69 : decode cX10_fewest 69 = .ok (.goto (-39), 3) := by decide +kernel
theorem dX10_fewest_72 : decode cX10_fewest 72 = .ok (.iload_n 3, 1) := by decide +kernel
theorem dX10_fewest_73 : decode cX10_fewest 73 = .ok (.ifCond .eq 5, 3) := by decide +kernel
theorem dX10_fewest_76 : decode cX10_fewest 76 = .ok (.iload_n 2, 1) := by decide +kernel
theorem dX10_fewest_77 : decode cX10_fewest 77 = .ok (.ireturn, 1) := by decide +kernel
theorem dX10_fewest_78 : decode cX10_fewest 78 = .ok (.iinc 2 1, 3) := by decide +kernel
theorem dX10_fewest_81 : decode cX10_fewest 81 = .ok (.goto (-70), 3) := by decide +kernel
theorem dX10_fewest_84 : decode cX10_fewest 84 = .ok (.bipush (-4), 2) := by decide +kernel
theorem dX10_fewest_86 : decode cX10_fewest 86 = .ok (.ireturn, 1) := by decide +kernel
theorem dX10_turned_0 : decode cX10_turned 0 = .ok (.aload_n 0, 1) := by decide +kernel
theorem dX10_turned_1 : decode cX10_turned 1 = .ok (.iconst 1, 1) := by decide +kernel
theorem dX10_turned_2 : decode cX10_turned 2 = .ok (.putfield 179, 3) := by decide +kernel
theorem dX10_turned_5 : decode cX10_turned 5 = .ok (.aload_n 0, 1) := by decide +kernel
theorem dX10_turned_6 : decode cX10_turned 6 = .ok (.aload_n 0, 1) := by decide +kernel
theorem dX10_turned_7 : decode cX10_turned 7 = .ok (.getfield 13, 3) := by decide +kernel
theorem dX10_turned_10 : decode cX10_turned 10 = .ok (.invokevirtual 235, 3) := by decide +kernel
theorem dX10_turned_13 : decode cX10_turned 13 = .ok (.istore_n 1, 1) := by decide +kernel
theorem dX10_turned_14 : decode cX10_turned 14 = .ok (.aload_n 0, 1) := by decide +kernel
theorem dX10_turned_15 : decode cX10_turned 15 = .ok (.iconst 0, 1) := by decide +kernel
theorem dX10_turned_16 : decode cX10_turned 16 = .ok (.putfield 179, 3) := by decide +kernel
theorem dX10_turned_19 : decode cX10_turned 19 = .ok (.iload_n 1, 1) := by decide +kernel
theorem dX10_turned_20 : decode cX10_turned 20 = .ok (.ireturn, 1) := by decide +kernel
theorem dX10_left_0 : decode cX10_left 0 = .ok (.aload_n 0, 1) := by decide +kernel
theorem dX10_left_1 : decode cX10_left 1 = .ok (.iload_n 1, 1) := by decide +kernel
theorem dX10_left_2 : decode cX10_left 2 = .ok (.invokevirtual 193, 3) := by decide +kernel
theorem dX10_left_5 : decode cX10_left 5 = .ok (.ifCond .eq 22, 3) := by decide +kernel
theorem dX10_left_8 : decode cX10_left 8 = .ok (.iload_n 2, 1) := by decide +kernel
theorem dX10_left_9 : decode cX10_left 9 = .ok (.invokestatic 196, 3) := by decide +kernel
theorem dX10_left_12 : decode cX10_left 12 = .ok (.ifCond .eq 15, 3) := by decide +kernel
theorem dX10_left_15 : decode cX10_left 15 = .ok (.iload_n 3, 1) := by decide +kernel
theorem dX10_left_16 : decode cX10_left 16 = .ok (.i2l, 1) := by decide +kernel
theorem dX10_left_17 : decode cX10_left 17 = .ok (.lconst 0, 1) := by decide +kernel
theorem dX10_left_18 : decode cX10_left 18 = .ok (.ldc2_w 133, 3) := by decide +kernel
theorem dX10_left_21 : decode cX10_left 21 = .ok (.invokestatic 101, 3) := by decide +kernel
theorem dX10_left_24 : decode cX10_left 24 = .ok (.ifCond .ne 5, 3) := by decide +kernel
theorem dX10_left_27 : decode cX10_left 27 = .ok (.iconst (-1), 1) := by decide +kernel
theorem dX10_left_28 : decode cX10_left 28 = .ok (.ireturn, 1) := by decide +kernel
theorem dX10_left_29 : decode cX10_left 29 = .ok (.aload_n 0, 1) := by decide +kernel
theorem dX10_left_30 : decode cX10_left 30 = .ok (.getfield 173, 3) := by decide +kernel
theorem dX10_left_33 : decode cX10_left 33 = .ok (.bipush 6, 2) := by decide +kernel
theorem dX10_left_35 : decode cX10_left 35 = .ok (.if_icmp .ne 6, 3) := by decide +kernel
theorem dX10_left_38 : decode cX10_left 38 = .ok (.bipush (-3), 2) := by decide +kernel
theorem dX10_left_40 : decode cX10_left 40 = .ok (.ireturn, 1) := by decide +kernel
theorem dX10_left_41 : decode cX10_left 41 = .ok (.aload_n 0, 1) := by decide +kernel
theorem dX10_left_42 : decode cX10_left 42 = .ok (.getfield 89, 3) := by decide +kernel
theorem dX10_left_45 : decode cX10_left 45 = .ok (.iconst 3, 1) := by decide +kernel
theorem dX10_left_46 : decode cX10_left 46 = .ok (.aload_n 0, 1) := by decide +kernel
theorem dX10_left_47 : decode cX10_left 47 = .ok (.getfield 173, 3) := by decide +kernel
theorem dX10_left_50 : decode cX10_left 50 = .ok (.imul, 1) := by decide +kernel
theorem dX10_left_51 : decode cX10_left 51 = .ok (.iload_n 1, 1) := by decide +kernel
theorem dX10_left_52 : decode cX10_left 52 = .ok (.iastore, 1) := by decide +kernel
theorem dX10_left_53 : decode cX10_left 53 = .ok (.aload_n 0, 1) := by decide +kernel
theorem dX10_left_54 : decode cX10_left 54 = .ok (.getfield 89, 3) := by decide +kernel
theorem dX10_left_57 : decode cX10_left 57 = .ok (.iconst 3, 1) := by decide +kernel
theorem dX10_left_58 : decode cX10_left 58 = .ok (.aload_n 0, 1) := by decide +kernel
theorem dX10_left_59 : decode cX10_left 59 = .ok (.getfield 173, 3) := by decide +kernel
theorem dX10_left_62 : decode cX10_left 62 = .ok (.imul, 1) := by decide +kernel
theorem dX10_left_63 : decode cX10_left 63 = .ok (.iconst 1, 1) := by decide +kernel
theorem dX10_left_64 : decode cX10_left 64 = .ok (.iadd, 1) := by decide +kernel
theorem dX10_left_65 : decode cX10_left 65 = .ok (.iload_n 2, 1) := by decide +kernel
theorem dX10_left_66 : decode cX10_left 66 = .ok (.iastore, 1) := by decide +kernel
theorem dX10_left_67 : decode cX10_left 67 = .ok (.aload_n 0, 1) := by decide +kernel
theorem dX10_left_68 : decode cX10_left 68 = .ok (.getfield 89, 3) := by decide +kernel
theorem dX10_left_71 : decode cX10_left 71 = .ok (.iconst 3, 1) := by decide +kernel
theorem dX10_left_72 : decode cX10_left 72 = .ok (.aload_n 0, 1) := by decide +kernel
theorem dX10_left_73 : decode cX10_left 73 = .ok (.getfield 173, 3) := by decide +kernel
theorem dX10_left_76 : decode cX10_left 76 = .ok (.imul, 1) := by decide +kernel
theorem dX10_left_77 : decode cX10_left 77 = .ok (.iconst 2, 1) := by decide +kernel
theorem dX10_left_78 : decode cX10_left 78 = .ok (.iadd, 1) := by decide +kernel
theorem dX10_left_79 : decode cX10_left 79 = .ok (.iload_n 3, 1) := by decide +kernel
theorem dX10_left_80 : decode cX10_left 80 = .ok (.iastore, 1) := by decide +kernel
theorem dX10_left_81 : decode cX10_left 81 = .ok (.aload_n 0, 1) := by decide +kernel
theorem dX10_left_82 : decode cX10_left 82 = .ok (.dup, 1) := by decide +kernel
theorem dX10_left_83 : decode cX10_left 83 = .ok (.getfield 173, 3) := by decide +kernel
theorem dX10_left_86 : decode cX10_left 86 = .ok (.iconst 1, 1) := by decide +kernel
theorem dX10_left_87 : decode cX10_left 87 = .ok (.iadd, 1) := by decide +kernel
theorem dX10_left_88 : decode cX10_left 88 = .ok (.putfield 173, 3) := by decide +kernel
theorem dX10_left_91 : decode cX10_left 91 = .ok (.aload_n 0, 1) := by decide +kernel
theorem dX10_left_92 : decode cX10_left 92 = .ok (.getfield 173, 3) := by decide +kernel
theorem dX10_left_95 : decode cX10_left 95 = .ok (.ireturn, 1) := by decide +kernel
theorem dX10_sweep_0 : decode cX10_sweep 0 = .ok (.aload_n 0, 1) := by decide +kernel
theorem dX10_sweep_1 : decode cX10_sweep 1 = .ok (.getfield 173, 3) := by decide +kernel
theorem dX10_sweep_4 : decode cX10_sweep 4 = .ok (.istore_n 1, 1) := by decide +kernel
theorem dX10_sweep_5 : decode cX10_sweep 5 = .ok (.aload_n 0, 1) := by decide +kernel
theorem dX10_sweep_6 : decode cX10_sweep 6 = .ok (.iconst 0, 1) := by decide +kernel
theorem dX10_sweep_7 : decode cX10_sweep 7 = .ok (.putfield 173, 3) := by decide +kernel
theorem dX10_sweep_10 : decode cX10_sweep 10 = .ok (.iload_n 1, 1) := by decide +kernel
theorem dX10_sweep_11 : decode cX10_sweep 11 = .ok (.ireturn, 1) := by decide +kernel
theorem dX10_sleptBy_0 : decode cX10_sleptBy 0 = .ok (.iconst 0, 1) := by decide +kernel
theorem dX10_sleptBy_1 : decode cX10_sleptBy 1 = .ok (.istore_n 2, 1) := by decide +kernel
theorem dX10_sleptBy_2 : decode cX10_sleptBy 2 = .ok (.iconst 0, 1) := by decide +kernel
theorem dX10_sleptBy_3 : decode cX10_sleptBy 3 = .ok (.istore_n 3, 1) := by decide +kernel
theorem dX10_sleptBy_4 : decode cX10_sleptBy 4 = .ok (.iload_n 3, 1) := by decide +kernel
theorem dX10_sleptBy_5 : decode cX10_sleptBy 5 = .ok (.aload_n 0, 1) := by decide +kernel
theorem dX10_sleptBy_6 : decode cX10_sleptBy 6 = .ok (.getfield 29, 3) := by decide +kernel
theorem dX10_sleptBy_9 : decode cX10_sleptBy 9 = .ok (.if_icmp .ge 89, 3) := by decide +kernel
theorem dX10_sleptBy_12 : decode cX10_sleptBy 12 = .ok (.aload_n 0, 1) := by decide +kernel
theorem dX10_sleptBy_13 : decode cX10_sleptBy 13 = .ok (.getfield 38, 3) := by decide +kernel
theorem dX10_sleptBy_16 : decode cX10_sleptBy 16 = .ok (.bipush 14, 2) := by decide +kernel
theorem dX10_sleptBy_18 : decode cX10_sleptBy 18 = .ok (.iload_n 3, 1) := by decide +kernel
theorem dX10_sleptBy_19 : decode cX10_sleptBy 19 = .ok (.iadd, 1) := by decide +kernel
theorem dX10_sleptBy_20 : decode cX10_sleptBy 20 = .ok (.iaload, 1) := by decide +kernel
theorem dX10_sleptBy_21 : decode cX10_sleptBy 21 = .ok (.aload_n 0, 1) := by decide +kernel
theorem dX10_sleptBy_22 : decode cX10_sleptBy 22 = .ok (.getfield 89, 3) := by decide +kernel
theorem dX10_sleptBy_25 : decode cX10_sleptBy 25 = .ok (.iconst 3, 1) := by decide +kernel
theorem dX10_sleptBy_26 : decode cX10_sleptBy 26 = .ok (.iload_n 1, 1) := by decide +kernel
theorem dX10_sleptBy_27 : decode cX10_sleptBy 27 = .ok (.imul, 1) := by decide +kernel
theorem dX10_sleptBy_28 : decode cX10_sleptBy 28 = .ok (.iconst 1, 1) := by decide +kernel
theorem dX10_sleptBy_29 : decode cX10_sleptBy 29 = .ok (.iadd, 1) := by decide +kernel
theorem dX10_sleptBy_30 : decode cX10_sleptBy 30 = .ok (.iaload, 1) := by decide +kernel
theorem dX10_sleptBy_31 : decode cX10_sleptBy 31 = .ok (.if_icmp .gt 43, 3) := by decide +kernel
theorem dX10_sleptBy_34 : decode cX10_sleptBy 34 = .ok (.aload_n 0, 1) := by decide +kernel
theorem dX10_sleptBy_35 : decode cX10_sleptBy 35 = .ok (.iload_n 3, 1) := by decide +kernel
theorem dX10_sleptBy_36 : decode cX10_sleptBy 36 = .ok (.aload_n 0, 1) := by decide +kernel
theorem dX10_sleptBy_37 : decode cX10_sleptBy 37 = .ok (.getfield 89, 3) := by decide +kernel
theorem dX10_sleptBy_40 : decode cX10_sleptBy 40 = .ok (.iconst 3, 1) := by decide +kernel
theorem dX10_sleptBy_41 : decode cX10_sleptBy 41 = .ok (.iload_n 1, 1) := by decide +kernel
theorem dX10_sleptBy_42 : decode cX10_sleptBy 42 = .ok (.imul, 1) := by decide +kernel
theorem dX10_sleptBy_43 : decode cX10_sleptBy 43 = .ok (.iaload, 1) := by decide +kernel
theorem dX10_sleptBy_44 : decode cX10_sleptBy 44 = .ok (.aload_n 0, 1) := by decide +kernel
theorem dX10_sleptBy_45 : decode cX10_sleptBy 45 = .ok (.getfield 89, 3) := by decide +kernel
theorem dX10_sleptBy_48 : decode cX10_sleptBy 48 = .ok (.iconst 3, 1) := by decide +kernel
theorem dX10_sleptBy_49 : decode cX10_sleptBy 49 = .ok (.iload_n 1, 1) := by decide +kernel
theorem dX10_sleptBy_50 : decode cX10_sleptBy 50 = .ok (.imul, 1) := by decide +kernel
theorem dX10_sleptBy_51 : decode cX10_sleptBy 51 = .ok (.iconst 1, 1) := by decide +kernel
theorem dX10_sleptBy_52 : decode cX10_sleptBy 52 = .ok (.iadd, 1) := by decide +kernel
theorem dX10_sleptBy_53 : decode cX10_sleptBy 53 = .ok (.iaload, 1) := by decide +kernel
theorem dX10_sleptBy_54 : decode cX10_sleptBy 54 = .ok (.invokevirtual 212, 3) := by decide +kernel
theorem dX10_sleptBy_57 : decode cX10_sleptBy 57 = .ok (.aload_n 0, 1) := by decide +kernel
theorem dX10_sleptBy_58 : decode cX10_sleptBy 58 = .ok (.getfield 89, 3) := by decide +kernel
theorem dX10_sleptBy_61 : decode cX10_sleptBy 61 = .ok (.iconst 3, 1) := by decide +kernel
theorem dX10_sleptBy_62 : decode cX10_sleptBy 62 = .ok (.iload_n 1, 1) := by decide +kernel
theorem dX10_sleptBy_63 : decode cX10_sleptBy 63 = .ok (.imul, 1) := by decide +kernel
end
section
theorem dX10_sleptBy_64 : decode cX10_sleptBy 64 = .ok (.iconst 2, 1) := by decide +kernel
theorem dX10_sleptBy_65 : decode cX10_sleptBy 65 = .ok (.iadd, 1) := by decide +kernel
theorem dX10_sleptBy_66 : decode cX10_sleptBy 66 = .ok (.iaload, 1) := by decide +kernel
theorem dX10_sleptBy_67 : decode cX10_sleptBy 67 = .ok (.if_icmp .ne 7, 3) := by decide +kernel
theorem dX10_sleptBy_70 : decode cX10_sleptBy 70 = .ok (.iconst 1, 1) := by decide +kernel
theorem dX10_sleptBy_71 : decode cX10_sleptBy 71 = .ok (.goto 4, 3) := by decide +kernel
theorem dX10_sleptBy_74 : decode cX10_sleptBy 74 = .ok (.iconst 0, 1) := by decide +kernel
theorem dX10_sleptBy_75 : decode cX10_sleptBy 75 = .ok (.istore 4, 2) := by decide +kernel
theorem dX10_sleptBy_77 : decode cX10_sleptBy 77 = .ok (.iload_n 2, 1) := by decide +kernel
theorem dX10_sleptBy_78 : decode cX10_sleptBy 78 = .ok (.iload 4, 2) := by decide +kernel
theorem dX10_sleptBy_80 : decode cX10_sleptBy 80 = .ok (.ifCond .eq 9, 3) := by decide +kernel
theorem dX10_sleptBy_83 : decode cX10_sleptBy 83 = .ok (.iconst 1, 1) := by decide +kernel
theorem dX10_sleptBy_84 : decode cX10_sleptBy 84 = .ok (.iload_n 3, 1) := by decide +kernel
theorem dX10_sleptBy_85 : decode cX10_sleptBy 85 = .ok (.ishl, 1) := by decide +kernel
theorem dX10_sleptBy_86 : decode cX10_sleptBy 86 = .ok (.goto 4, 3) := by decide +kernel
theorem dX10_sleptBy_89 : decode cX10_sleptBy 89 = .ok (.iconst 0, 1) := by decide +kernel
theorem dX10_sleptBy_90 : decode cX10_sleptBy 90 = .ok (.ior, 1) := by decide +kernel
theorem dX10_sleptBy_91 : decode cX10_sleptBy 91 = .ok (.istore_n 2, 1) := by decide +kernel
theorem dX10_sleptBy_92 : decode cX10_sleptBy 92 = .ok (.iinc 3 1, 3) := by decide +kernel
theorem dX10_sleptBy_95 : decode cX10_sleptBy 95 = .ok (.goto (-91), 3) := by decide +kernel
theorem dX10_sleptBy_98 : decode cX10_sleptBy 98 = .ok (.iload_n 2, 1) := by decide +kernel
theorem dX10_sleptBy_99 : decode cX10_sleptBy 99 = .ok (.ireturn, 1) := by decide +kernel
theorem dX10_slept_0 : decode cX10_slept 0 = .ok (.iload_n 1, 1) := by decide +kernel
theorem dX10_slept_1 : decode cX10_slept 1 = .ok (.i2l, 1) := by decide +kernel
theorem dX10_slept_2 : decode cX10_slept 2 = .ok (.lconst 0, 1) := by decide +kernel
theorem dX10_slept_3 : decode cX10_slept 3 = .ok (.aload_n 0, 1) := by decide +kernel
theorem dX10_slept_4 : decode cX10_slept 4 = .ok (.getfield 173, 3) := by decide +kernel
theorem dX10_slept_7 : decode cX10_slept 7 = .ok (.iconst 1, 1) := by decide +kernel
theorem dX10_slept_8 : decode cX10_slept 8 = .ok (.isub, 1) := by decide +kernel
theorem dX10_slept_9 : decode cX10_slept 9 = .ok (.i2l, 1) := by decide +kernel
theorem dX10_slept_10 : decode cX10_slept 10 = .ok (.invokestatic 101, 3) := by decide +kernel
theorem dX10_slept_13 : decode cX10_slept 13 = .ok (.ifCond .eq 11, 3) := by decide +kernel
theorem dX10_slept_16 : decode cX10_slept 16 = .ok (.aload_n 0, 1) := by decide +kernel
theorem dX10_slept_17 : decode cX10_slept 17 = .ok (.iload_n 1, 1) := by decide +kernel
theorem dX10_slept_18 : decode cX10_slept 18 = .ok (.invokevirtual 256, 3) := by decide +kernel
theorem dX10_slept_21 : decode cX10_slept 21 = .ok (.goto 4, 3) := by decide +kernel
theorem dX10_slept_24 : decode cX10_slept 24 = .ok (.iconst (-1), 1) := by decide +kernel
theorem dX10_slept_25 : decode cX10_slept 25 = .ok (.ireturn, 1) := by decide +kernel
theorem dX10_waysWith_0 : decode cX10_waysWith 0 = .ok (.iconst 0, 1) := by decide +kernel
theorem dX10_waysWith_1 : decode cX10_waysWith 1 = .ok (.istore_n 3, 1) := by decide +kernel
theorem dX10_waysWith_2 : decode cX10_waysWith 2 = .ok (.iload_n 3, 1) := by decide +kernel
theorem dX10_waysWith_3 : decode cX10_waysWith 3 = .ok (.sipush 128, 3) := by decide +kernel
theorem dX10_waysWith_6 : decode cX10_waysWith 6 = .ok (.if_icmp .ge 24, 3) := by decide +kernel
theorem dX10_waysWith_9 : decode cX10_waysWith 9 = .ok (.aload_n 0, 1) := by decide +kernel
theorem dX10_waysWith_10 : decode cX10_waysWith 10 = .ok (.getfield 92, 3) := by decide +kernel
theorem dX10_waysWith_13 : decode cX10_waysWith 13 = .ok (.iload_n 3, 1) := by decide +kernel
theorem dX10_waysWith_14 : decode cX10_waysWith 14 = .ok (.iload_n 3, 1) := by decide +kernel
theorem dX10_waysWith_15 : decode cX10_waysWith 15 = .ok (.ifCond .ne 7, 3) := by decide +kernel
theorem dX10_waysWith_18 : decode cX10_waysWith 18 = .ok (.iconst 1, 1) := by decide +kernel
theorem dX10_waysWith_19 : decode cX10_waysWith 19 = .ok (.goto 4, 3) := by decide +kernel
theorem dX10_waysWith_22 : decode cX10_waysWith 22 = .ok (.iconst 0, 1) := by decide +kernel
theorem dX10_waysWith_23 : decode cX10_waysWith 23 = .ok (.iastore, 1) := by decide +kernel
theorem dX10_waysWith_24 : decode cX10_waysWith 24 = .ok (.iinc 3 1, 3) := by decide +kernel
theorem dX10_waysWith_27 : decode cX10_waysWith 27 = .ok (.goto (-25), 3) := by decide +kernel
theorem dX10_waysWith_30 : decode cX10_waysWith 30 = .ok (.iconst 0, 1) := by decide +kernel
theorem dX10_waysWith_31 : decode cX10_waysWith 31 = .ok (.istore_n 3, 1) := by decide +kernel
theorem dX10_waysWith_32 : decode cX10_waysWith 32 = .ok (.iload_n 3, 1) := by decide +kernel
theorem dX10_waysWith_33 : decode cX10_waysWith 33 = .ok (.aload_n 0, 1) := by decide +kernel
theorem dX10_waysWith_34 : decode cX10_waysWith 34 = .ok (.getfield 173, 3) := by decide +kernel
theorem dX10_waysWith_37 : decode cX10_waysWith 37 = .ok (.if_icmp .ge 171, 3) := by decide +kernel
theorem dX10_waysWith_40 : decode cX10_waysWith 40 = .ok (.aload_n 0, 1) := by decide +kernel
theorem dX10_waysWith_41 : decode cX10_waysWith 41 = .ok (.iload_n 3, 1) := by decide +kernel
theorem dX10_waysWith_42 : decode cX10_waysWith 42 = .ok (.invokevirtual 256, 3) := by decide +kernel
theorem dX10_waysWith_45 : decode cX10_waysWith 45 = .ok (.istore 4, 2) := by decide +kernel
theorem dX10_waysWith_47 : decode cX10_waysWith 47 = .ok (.iload_n 3, 1) := by decide +kernel
theorem dX10_waysWith_48 : decode cX10_waysWith 48 = .ok (.iload_n 1, 1) := by decide +kernel
theorem dX10_waysWith_49 : decode cX10_waysWith 49 = .ok (.if_icmp .ne 16, 3) := by decide +kernel
theorem dX10_waysWith_52 : decode cX10_waysWith 52 = .ok (.iload_n 2, 1) := by decide +kernel
theorem dX10_waysWith_53 : decode cX10_waysWith 53 = .ok (.ifCond .lt 12, 3) := by decide +kernel
theorem dX10_waysWith_56 : decode cX10_waysWith 56 = .ok (.iload 4, 2) := by decide +kernel
theorem dX10_waysWith_58 : decode cX10_waysWith 58 = .ok (.iconst 1, 1) := by decide +kernel
theorem dX10_waysWith_59 : decode cX10_waysWith 59 = .ok (.iload_n 2, 1) := by decide +kernel
theorem dX10_waysWith_60 : decode cX10_waysWith 60 = .ok (.ishl, 1) := by decide +kernel
theorem dX10_waysWith_61 : decode cX10_waysWith 61 = .ok (.iand, 1) := by decide +kernel
theorem dX10_waysWith_62 : decode cX10_waysWith 62 = .ok (.goto 5, 3) := by decide +kernel
theorem dX10_waysWith_65 : decode cX10_waysWith 65 = .ok (.iload 4, 2) := by decide +kernel
theorem dX10_waysWith_67 : decode cX10_waysWith 67 = .ok (.istore 4, 2) := by decide +kernel
theorem dX10_waysWith_69 : decode cX10_waysWith 69 = .ok (.iconst 0, 1) := by decide +kernel
theorem dX10_waysWith_70 : decode cX10_waysWith 70 = .ok (.istore 5, 2) := by decide +kernel
theorem dX10_waysWith_72 : decode cX10_waysWith 72 = .ok (.iload 5, 2) := by decide +kernel
theorem dX10_waysWith_74 : decode cX10_waysWith 74 = .ok (.sipush 128, 3) := by decide +kernel
theorem dX10_waysWith_77 : decode cX10_waysWith 77 = .ok (.if_icmp .ge 17, 3) := by decide +kernel
theorem dX10_waysWith_80 : decode cX10_waysWith 80 = .ok (.aload_n 0, 1) := by decide +kernel
theorem dX10_waysWith_81 : decode cX10_waysWith 81 = .ok (.getfield 95, 3) := by decide +kernel
theorem dX10_waysWith_84 : decode cX10_waysWith 84 = .ok (.iload 5, 2) := by decide +kernel
theorem dX10_waysWith_86 : decode cX10_waysWith 86 = .ok (.iconst 0, 1) := by decide +kernel
theorem dX10_waysWith_87 : decode cX10_waysWith 87 = .ok (.iastore, 1) := by decide +kernel
theorem dX10_waysWith_88 : decode cX10_waysWith 88 = .ok (.iinc 5 1, 3) := by decide +kernel
theorem dX10_waysWith_91 : decode cX10_waysWith 91 = .ok (.goto (-19), 3) := by decide +kernel
theorem dX10_waysWith_94 : decode cX10_waysWith 94 = .ok (.iconst 0, 1) := by decide +kernel
theorem dX10_waysWith_95 : decode cX10_waysWith 95 = .ok (.istore 5, 2) := by decide +kernel
theorem dX10_waysWith_97 : decode cX10_waysWith 97 = .ok (.iload 5, 2) := by decide +kernel
theorem dX10_waysWith_99 : decode cX10_waysWith 99 = .ok (.sipush 128, 3) := by decide +kernel
theorem dX10_waysWith_102 : decode cX10_waysWith 102 = .ok (.if_icmp .ge 69, 3) := by decide +kernel
theorem dX10_waysWith_105 : decode cX10_waysWith 105 = .ok (.iconst 0, 1) := by decide +kernel
theorem dX10_waysWith_106 : decode cX10_waysWith 106 = .ok (.istore 6, 2) := by decide +kernel
theorem dX10_waysWith_108 : decode cX10_waysWith 108 = .ok (.iload 6, 2) := by decide +kernel
theorem dX10_waysWith_110 : decode cX10_waysWith 110 = .ok (.aload_n 0, 1) := by decide +kernel
theorem dX10_waysWith_111 : decode cX10_waysWith 111 = .ok (.getfield 29, 3) := by decide +kernel
theorem dX10_waysWith_114 : decode cX10_waysWith 114 = .ok (.if_icmp .ge 51, 3) := by decide +kernel
theorem dX10_waysWith_117 : decode cX10_waysWith 117 = .ok (.iload 4, 2) := by decide +kernel
theorem dX10_waysWith_119 : decode cX10_waysWith 119 = .ok (.iload 6, 2) := by decide +kernel
theorem dX10_waysWith_121 : decode cX10_waysWith 121 = .ok (.invokestatic 224, 3) := by decide +kernel
theorem dX10_waysWith_124 : decode cX10_waysWith 124 = .ok (.ifCond .eq 35, 3) := by decide +kernel
theorem dX10_waysWith_127 : decode cX10_waysWith 127 = .ok (.iload 5, 2) := by decide +kernel
theorem dX10_waysWith_129 : decode cX10_waysWith 129 = .ok (.iload 6, 2) := by decide +kernel
theorem dX10_waysWith_131 : decode cX10_waysWith 131 = .ok (.invokestatic 224, 3) := by decide +kernel
theorem dX10_waysWith_134 : decode cX10_waysWith 134 = .ok (.ifCond .ne 25, 3) := by decide +kernel
theorem dX10_waysWith_137 : decode cX10_waysWith 137 = .ok (.aload_n 0, 1) := by decide +kernel
theorem dX10_waysWith_138 : decode cX10_waysWith 138 = .ok (.getfield 95, 3) := by decide +kernel
theorem dX10_waysWith_141 : decode cX10_waysWith 141 = .ok (.iload 5, 2) := by decide +kernel
theorem dX10_waysWith_143 : decode cX10_waysWith 143 = .ok (.iconst 1, 1) := by decide +kernel
theorem dX10_waysWith_144 : decode cX10_waysWith 144 = .ok (.iload 6, 2) := by decide +kernel
theorem dX10_waysWith_146 : decode cX10_waysWith 146 = .ok (.ishl, 1) := by decide +kernel
theorem dX10_waysWith_147 : decode cX10_waysWith 147 = .ok (.ior, 1) := by decide +kernel
theorem dX10_waysWith_148 : decode cX10_waysWith 148 = .ok (.dup2, 1) := by decide +kernel
theorem dX10_waysWith_149 : decode cX10_waysWith 149 = .ok (.iaload, 1) := by decide +kernel
theorem dX10_waysWith_150 : decode cX10_waysWith 150 = .ok (.aload_n 0, 1) := by decide +kernel
theorem dX10_waysWith_151 : decode cX10_waysWith 151 = .ok (.getfield 92, 3) := by decide +kernel
theorem dX10_waysWith_154 : decode cX10_waysWith 154 = .ok (.iload 5, 2) := by decide +kernel
theorem dX10_waysWith_156 : decode cX10_waysWith 156 = .ok (.iaload, 1) := by decide +kernel
theorem dX10_waysWith_157 : decode cX10_waysWith 157 = .ok (.iadd, 1) := by decide +kernel
theorem dX10_waysWith_158 : decode cX10_waysWith 158 = .ok (.iastore, 1) := by decide +kernel
theorem dX10_waysWith_159 : decode cX10_waysWith 159 = .ok (.iinc 6 1, 3) := by decide +kernel
theorem dX10_waysWith_162 : decode cX10_waysWith 162 = .ok (.goto (-54), 3) := by decide +kernel
theorem dX10_waysWith_165 : decode cX10_waysWith 165 = .ok (.iinc 5 1, 3) := by decide +kernel
theorem dX10_waysWith_168 : decode cX10_waysWith 168 = .ok (.goto (-71), 3) := by decide +kernel
theorem dX10_waysWith_171 : decode cX10_waysWith 171 = .ok (.iconst 0, 1) := by decide +kernel
theorem dX10_waysWith_172 : decode cX10_waysWith 172 = .ok (.istore 5, 2) := by decide +kernel
theorem dX10_waysWith_174 : decode cX10_waysWith 174 = .ok (.iload 5, 2) := by decide +kernel
theorem dX10_waysWith_176 : decode cX10_waysWith 176 = .ok (.sipush 128, 3) := by decide +kernel
theorem dX10_waysWith_179 : decode cX10_waysWith 179 = .ok (.if_icmp .ge 23, 3) := by decide +kernel
theorem dX10_waysWith_182 : decode cX10_waysWith 182 = .ok (.aload_n 0, 1) := by decide +kernel
theorem dX10_waysWith_183 : decode cX10_waysWith 183 = .ok (.getfield 92, 3) := by decide +kernel
theorem dX10_waysWith_186 : decode cX10_waysWith 186 = .ok (.iload 5, 2) := by decide +kernel
theorem dX10_waysWith_188 : decode cX10_waysWith 188 = .ok (.aload_n 0, 1) := by decide +kernel
theorem dX10_waysWith_189 : decode cX10_waysWith 189 = .ok (.getfield 95, 3) := by decide +kernel
theorem dX10_waysWith_192 : decode cX10_waysWith 192 = .ok (.iload 5, 2) := by decide +kernel
theorem dX10_waysWith_194 : decode cX10_waysWith 194 = .ok (.iaload, 1) := by decide +kernel
theorem dX10_waysWith_195 : decode cX10_waysWith 195 = .ok (.iastore, 1) := by decide +kernel
theorem dX10_waysWith_196 : decode cX10_waysWith 196 = .ok (.iinc 5 1, 3) := by decide +kernel
theorem dX10_waysWith_199 : decode cX10_waysWith 199 = .ok (.goto (-25), 3) := by decide +kernel
theorem dX10_waysWith_202 : decode cX10_waysWith 202 = .ok (.iinc 3 1, 3) := by decide +kernel
theorem dX10_waysWith_205 : decode cX10_waysWith 205 = .ok (.goto (-173), 3) := by decide +kernel
theorem dX10_waysWith_208 : decode cX10_waysWith 208 = .ok (.iconst 0, 1) := by decide +kernel
theorem dX10_waysWith_209 : decode cX10_waysWith 209 = .ok (.istore_n 3, 1) := by decide +kernel
theorem dX10_waysWith_210 : decode cX10_waysWith 210 = .ok (.iconst 0, 1) := by decide +kernel
theorem dX10_waysWith_211 : decode cX10_waysWith 211 = .ok (.istore 4, 2) := by decide +kernel
theorem dX10_waysWith_213 : decode cX10_waysWith 213 = .ok (.iload 4, 2) := by decide +kernel
theorem dX10_waysWith_215 : decode cX10_waysWith 215 = .ok (.sipush 128, 3) := by decide +kernel
theorem dX10_waysWith_218 : decode cX10_waysWith 218 = .ok (.if_icmp .ge 19, 3) := by decide +kernel
theorem dX10_waysWith_221 : decode cX10_waysWith 221 = .ok (.iload_n 3, 1) := by decide +kernel
theorem dX10_waysWith_222 : decode cX10_waysWith 222 = .ok (.aload_n 0, 1) := by decide +kernel
theorem dX10_waysWith_223 : decode cX10_waysWith 223 = .ok (.getfield 92, 3) := by decide +kernel
theorem dX10_waysWith_226 : decode cX10_waysWith 226 = .ok (.iload 4, 2) := by decide +kernel
theorem dX10_waysWith_228 : decode cX10_waysWith 228 = .ok (.iaload, 1) := by decide +kernel
theorem dX10_waysWith_229 : decode cX10_waysWith 229 = .ok (.iadd, 1) := by decide +kernel
theorem dX10_waysWith_230 : decode cX10_waysWith 230 = .ok (.istore_n 3, 1) := by decide +kernel
theorem dX10_waysWith_231 : decode cX10_waysWith 231 = .ok (.iinc 4 1, 3) := by decide +kernel
theorem dX10_waysWith_234 : decode cX10_waysWith 234 = .ok (.goto (-21), 3) := by decide +kernel
theorem dX10_waysWith_237 : decode cX10_waysWith 237 = .ok (.iload_n 3, 1) := by decide +kernel
theorem dX10_waysWith_238 : decode cX10_waysWith 238 = .ok (.ireturn, 1) := by decide +kernel
theorem dX10_sure_0 : decode cX10_sure 0 = .ok (.iload_n 1, 1) := by decide +kernel
theorem dX10_sure_1 : decode cX10_sure 1 = .ok (.i2l, 1) := by decide +kernel
theorem dX10_sure_2 : decode cX10_sure 2 = .ok (.ldc2_w 251, 3) := by decide +kernel
theorem dX10_sure_5 : decode cX10_sure 5 = .ok (.aload_n 0, 1) := by decide +kernel
theorem dX10_sure_6 : decode cX10_sure 6 = .ok (.getfield 173, 3) := by decide +kernel
theorem dX10_sure_9 : decode cX10_sure 9 = .ok (.iconst 1, 1) := by decide +kernel
theorem dX10_sure_10 : decode cX10_sure 10 = .ok (.isub, 1) := by decide +kernel
theorem dX10_sure_11 : decode cX10_sure 11 = .ok (.i2l, 1) := by decide +kernel
theorem dX10_sure_12 : decode cX10_sure 12 = .ok (.invokestatic 101, 3) := by decide +kernel
theorem dX10_sure_15 : decode cX10_sure 15 = .ok (.ifCond .ne 5, 3) := by decide +kernel
theorem dX10_sure_18 : decode cX10_sure 18 = .ok (.iconst (-1), 1) := by decide +kernel
theorem dX10_sure_19 : decode cX10_sure 19 = .ok (.ireturn, 1) := by decide +kernel
theorem dX10_sure_20 : decode cX10_sure 20 = .ok (.aload_n 0, 1) := by decide +kernel
theorem dX10_sure_21 : decode cX10_sure 21 = .ok (.bipush (-4), 2) := by decide +kernel
theorem dX10_sure_23 : decode cX10_sure 23 = .ok (.bipush (-4), 2) := by decide +kernel
theorem dX10_sure_25 : decode cX10_sure 25 = .ok (.invokevirtual 259, 3) := by decide +kernel
theorem dX10_sure_28 : decode cX10_sure 28 = .ok (.istore_n 2, 1) := by decide +kernel
theorem dX10_sure_29 : decode cX10_sure 29 = .ok (.iload_n 1, 1) := by decide +kernel
theorem dX10_sure_30 : decode cX10_sure 30 = .ok (.ifCond .ge 5, 3) := by decide +kernel
theorem dX10_sure_33 : decode cX10_sure 33 = .ok (.iload_n 2, 1) := by decide +kernel
theorem dX10_sure_34 : decode cX10_sure 34 = .ok (.ireturn, 1) := by decide +kernel
theorem dX10_sure_35 : decode cX10_sure 35 = .ok (.bipush (-4), 2) := by decide +kernel
theorem dX10_sure_37 : decode cX10_sure 37 = .ok (.istore_n 3, 1) := by decide +kernel
theorem dX10_sure_38 : decode cX10_sure 38 = .ok (.iconst 0, 1) := by decide +kernel
theorem dX10_sure_39 : decode cX10_sure 39 = .ok (.istore 4, 2) := by decide +kernel
theorem dX10_sure_41 : decode cX10_sure 41 = .ok (.iload 4, 2) := by decide +kernel
theorem dX10_sure_43 : decode cX10_sure 43 = .ok (.aload_n 0, 1) := by decide +kernel
theorem dX10_sure_44 : decode cX10_sure 44 = .ok (.getfield 29, 3) := by decide +kernel
theorem dX10_sure_47 : decode cX10_sure 47 = .ok (.if_icmp .ge 31, 3) := by decide +kernel
theorem dX10_sure_50 : decode cX10_sure 50 = .ok (.iload_n 2, 1) := by decide +kernel
theorem dX10_sure_51 : decode cX10_sure 51 = .ok (.ifCond .le 27, 3) := by decide +kernel
theorem dX10_sure_54 : decode cX10_sure 54 = .ok (.aload_n 0, 1) := by decide +kernel
theorem dX10_sure_55 : decode cX10_sure 55 = .ok (.iload_n 1, 1) := by decide +kernel
theorem dX10_sure_56 : decode cX10_sure 56 = .ok (.iload 4, 2) := by decide +kernel
theorem dX10_sure_58 : decode cX10_sure 58 = .ok (.invokevirtual 259, 3) := by decide +kernel
theorem dX10_sure_61 : decode cX10_sure 61 = .ok (.iload_n 2, 1) := by decide +kernel
theorem dX10_sure_62 : decode cX10_sure 62 = .ok (.if_icmp .ne 8, 3) := by decide +kernel
theorem dX10_sure_65 : decode cX10_sure 65 = .ok (.iload 4, 2) := by decide +kernel
theorem dX10_sure_67 : decode cX10_sure 67 = .ok (.goto 4, 3) := by decide +kernel
theorem dX10_sure_70 : decode cX10_sure 70 = .ok (.iload_n 3, 1) := by decide +kernel
theorem dX10_sure_71 : decode cX10_sure 71 = .ok (.istore_n 3, 1) := by decide +kernel
theorem dX10_sure_72 : decode cX10_sure 72 = .ok (.iinc 4 1, 3) := by decide +kernel
theorem dX10_sure_75 : decode cX10_sure 75 = .ok (.goto (-34), 3) := by decide +kernel
theorem dX10_sure_78 : decode cX10_sure 78 = .ok (.iload_n 3, 1) := by decide +kernel
theorem dX10_sure_79 : decode cX10_sure 79 = .ok (.ireturn, 1) := by decide +kernel
theorem dX10_found_0 : decode cX10_found 0 = .ok (.aload_n 0, 1) := by decide +kernel
theorem dX10_found_1 : decode cX10_found 1 = .ok (.iload_n 1, 1) := by decide +kernel
theorem dX10_found_2 : decode cX10_found 2 = .ok (.invokevirtual 209, 3) := by decide +kernel
theorem dX10_found_5 : decode cX10_found 5 = .ok (.ifCond .eq 15, 3) := by decide +kernel
theorem dX10_found_8 : decode cX10_found 8 = .ok (.iload_n 2, 1) := by decide +kernel
theorem dX10_found_9 : decode cX10_found 9 = .ok (.i2l, 1) := by decide +kernel
theorem dX10_found_10 : decode cX10_found 10 = .ok (.lconst 0, 1) := by decide +kernel
theorem dX10_found_11 : decode cX10_found 11 = .ok (.ldc2_w 262, 3) := by decide +kernel
theorem dX10_found_14 : decode cX10_found 14 = .ok (.invokestatic 101, 3) := by decide +kernel
theorem dX10_found_17 : decode cX10_found 17 = .ok (.ifCond .ne 5, 3) := by decide +kernel
theorem dX10_found_20 : decode cX10_found 20 = .ok (.iconst (-1), 1) := by decide +kernel
theorem dX10_found_21 : decode cX10_found 21 = .ok (.ireturn, 1) := by decide +kernel
theorem dX10_found_22 : decode cX10_found 22 = .ok (.aload_n 0, 1) := by decide +kernel
theorem dX10_found_23 : decode cX10_found 23 = .ok (.aload_n 0, 1) := by decide +kernel
theorem dX10_found_24 : decode cX10_found 24 = .ok (.getfield 13, 3) := by decide +kernel
theorem dX10_found_27 : decode cX10_found 27 = .ok (.invokevirtual 235, 3) := by decide +kernel
theorem dX10_found_30 : decode cX10_found 30 = .ok (.pop, 1) := by decide +kernel
theorem dX10_found_31 : decode cX10_found 31 = .ok (.aload_n 0, 1) := by decide +kernel
theorem dX10_found_32 : decode cX10_found 32 = .ok (.getfield 65, 3) := by decide +kernel
theorem dX10_found_35 : decode cX10_found 35 = .ok (.iload_n 1, 1) := by decide +kernel
theorem dX10_found_36 : decode cX10_found 36 = .ok (.iaload, 1) := by decide +kernel
theorem dX10_found_37 : decode cX10_found 37 = .ok (.ifCond .ge 8, 3) := by decide +kernel
theorem dX10_found_40 : decode cX10_found 40 = .ok (.bipush 29, 2) := by decide +kernel
theorem dX10_found_42 : decode cX10_found 42 = .ok (.goto 9, 3) := by decide +kernel
theorem dX10_found_45 : decode cX10_found 45 = .ok (.aload_n 0, 1) := by decide +kernel
theorem dX10_found_46 : decode cX10_found 46 = .ok (.getfield 65, 3) := by decide +kernel
theorem dX10_found_49 : decode cX10_found 49 = .ok (.iload_n 1, 1) := by decide +kernel
theorem dX10_found_50 : decode cX10_found 50 = .ok (.iaload, 1) := by decide +kernel
theorem dX10_found_51 : decode cX10_found 51 = .ok (.istore_n 3, 1) := by decide +kernel
theorem dX10_found_52 : decode cX10_found 52 = .ok (.aload_n 0, 1) := by decide +kernel
theorem dX10_found_53 : decode cX10_found 53 = .ok (.getfield 38, 3) := by decide +kernel
theorem dX10_found_56 : decode cX10_found 56 = .ok (.bipush 7, 2) := by decide +kernel
theorem dX10_found_58 : decode cX10_found 58 = .ok (.iload_n 1, 1) := by decide +kernel
theorem dX10_found_59 : decode cX10_found 59 = .ok (.iadd, 1) := by decide +kernel
theorem dX10_found_60 : decode cX10_found 60 = .ok (.iaload, 1) := by decide +kernel
theorem dX10_found_61 : decode cX10_found 61 = .ok (.ifCond .ge 16, 3) := by decide +kernel
theorem dX10_found_64 : decode cX10_found 64 = .ok (.aload_n 0, 1) := by decide +kernel
theorem dX10_found_65 : decode cX10_found 65 = .ok (.getfield 38, 3) := by decide +kernel
theorem dX10_found_68 : decode cX10_found 68 = .ok (.bipush 7, 2) := by decide +kernel
theorem dX10_found_70 : decode cX10_found 70 = .ok (.iload_n 1, 1) := by decide +kernel
theorem dX10_found_71 : decode cX10_found 71 = .ok (.iadd, 1) := by decide +kernel
theorem dX10_found_72 : decode cX10_found 72 = .ok (.iaload, 1) := by decide +kernel
theorem dX10_found_73 : decode cX10_found 73 = .ok (.ineg, 1) := by decide +kernel
theorem dX10_found_74 : decode cX10_found 74 = .ok (.goto 12, 3) := by decide +kernel
theorem dX10_found_77 : decode cX10_found 77 = .ok (.aload_n 0, 1) := by decide +kernel
theorem dX10_found_78 : decode cX10_found 78 = .ok (.getfield 38, 3) := by decide +kernel
theorem dX10_found_81 : decode cX10_found 81 = .ok (.bipush 7, 2) := by decide +kernel
theorem dX10_found_83 : decode cX10_found 83 = .ok (.iload_n 1, 1) := by decide +kernel
theorem dX10_found_84 : decode cX10_found 84 = .ok (.iadd, 1) := by decide +kernel
theorem dX10_found_85 : decode cX10_found 85 = .ok (.iaload, 1) := by decide +kernel
theorem dX10_found_86 : decode cX10_found 86 = .ok (.istore 4, 2) := by decide +kernel
theorem dX10_found_88 : decode cX10_found 88 = .ok (.sipush 1000, 3) := by decide +kernel
theorem dX10_found_91 : decode cX10_found 91 = .ok (.bipush 10, 2) := by decide +kernel
theorem dX10_found_93 : decode cX10_found 93 = .ok (.iload_n 2, 1) := by decide +kernel
theorem dX10_found_94 : decode cX10_found 94 = .ok (.imul, 1) := by decide +kernel
theorem dX10_found_95 : decode cX10_found 95 = .ok (.iload 4, 2) := by decide +kernel
theorem dX10_found_97 : decode cX10_found 97 = .ok (.imul, 1) := by decide +kernel
theorem dX10_found_98 : decode cX10_found 98 = .ok (.isub, 1) := by decide +kernel
theorem dX10_found_99 : decode cX10_found 99 = .ok (.istore 5, 2) := by decide +kernel
theorem dX10_found_101 : decode cX10_found 101 = .ok (.iload 5, 2) := by decide +kernel
theorem dX10_found_103 : decode cX10_found 103 = .ok (.ifCond .ge 7, 3) := by decide +kernel
theorem dX10_found_106 : decode cX10_found 106 = .ok (.iconst 0, 1) := by decide +kernel
theorem dX10_found_107 : decode cX10_found 107 = .ok (.goto 5, 3) := by decide +kernel
theorem dX10_found_110 : decode cX10_found 110 = .ok (.iload 5, 2) := by decide +kernel
theorem dX10_found_112 : decode cX10_found 112 = .ok (.istore 5, 2) := by decide +kernel
theorem dX10_found_114 : decode cX10_found 114 = .ok (.sipush 1000, 3) := by decide +kernel
theorem dX10_found_117 : decode cX10_found 117 = .ok (.istore 6, 2) := by decide +kernel
theorem dX10_found_119 : decode cX10_found 119 = .ok (.aload_n 0, 1) := by decide +kernel
theorem dX10_found_120 : decode cX10_found 120 = .ok (.getfield 38, 3) := by decide +kernel
theorem dX10_found_123 : decode cX10_found 123 = .ok (.bipush 14, 2) := by decide +kernel
theorem dX10_found_125 : decode cX10_found 125 = .ok (.iload_n 1, 1) := by decide +kernel
theorem dX10_found_126 : decode cX10_found 126 = .ok (.iadd, 1) := by decide +kernel
theorem dX10_found_127 : decode cX10_found 127 = .ok (.iaload, 1) := by decide +kernel
theorem dX10_found_128 : decode cX10_found 128 = .ok (.istore 7, 2) := by decide +kernel
theorem dX10_found_130 : decode cX10_found 130 = .ok (.iload 7, 2) := by decide +kernel
theorem dX10_found_132 : decode cX10_found 132 = .ok (.iload_n 3, 1) := by decide +kernel
theorem dX10_found_133 : decode cX10_found 133 = .ok (.if_icmp .gt 20, 3) := by decide +kernel
theorem dX10_found_136 : decode cX10_found 136 = .ok (.iload 6, 2) := by decide +kernel
theorem dX10_found_138 : decode cX10_found 138 = .ok (.iload 5, 2) := by decide +kernel
theorem dX10_found_140 : decode cX10_found 140 = .ok (.imul, 1) := by decide +kernel
theorem dX10_found_141 : decode cX10_found 141 = .ok (.sipush 1000, 3) := by decide +kernel
theorem dX10_found_144 : decode cX10_found 144 = .ok (.idiv, 1) := by decide +kernel
theorem dX10_found_145 : decode cX10_found 145 = .ok (.istore 6, 2) := by decide +kernel
theorem dX10_found_147 : decode cX10_found 147 = .ok (.iinc 7 1, 3) := by decide +kernel
theorem dX10_found_150 : decode cX10_found 150 = .ok (.goto (-20), 3) := by decide +kernel
theorem dX10_found_153 : decode cX10_found 153 = .ok (.iload 6, 2) := by decide +kernel
theorem dX10_found_155 : decode cX10_found 155 = .ok (.ireturn, 1) := by decide +kernel
theorem dX10_year_0 : decode cX10_year 0 = .ok (.iload_n 1, 1) := by decide +kernel
theorem dX10_year_1 : decode cX10_year 1 = .ok (.i2l, 1) := by decide +kernel
theorem dX10_year_2 : decode cX10_year 2 = .ok (.lconst 0, 1) := by decide +kernel
theorem dX10_year_3 : decode cX10_year 3 = .ok (.ldc2_w 264, 3) := by decide +kernel
theorem dX10_year_6 : decode cX10_year 6 = .ok (.invokestatic 101, 3) := by decide +kernel
theorem dX10_year_9 : decode cX10_year 9 = .ok (.ifCond .eq 13, 3) := by decide +kernel
theorem dX10_year_12 : decode cX10_year 12 = .ok (.iload_n 2, 1) := by decide +kernel
theorem dX10_year_13 : decode cX10_year 13 = .ok (.i2l, 1) := by decide +kernel
theorem dX10_year_14 : decode cX10_year 14 = .ok (.lconst 0, 1) := by decide +kernel
theorem dX10_year_15 : decode cX10_year 15 = .ok (.lconst 1, 1) := by decide +kernel
theorem dX10_year_16 : decode cX10_year 16 = .ok (.invokestatic 101, 3) := by decide +kernel
theorem dX10_year_19 : decode cX10_year 19 = .ok (.ifCond .ne 5, 3) := by decide +kernel
theorem dX10_year_22 : decode cX10_year 22 = .ok (.iconst (-1), 1) := by decide +kernel
theorem dX10_year_23 : decode cX10_year 23 = .ok (.ireturn, 1) := by decide +kernel
theorem dX10_year_24 : decode cX10_year 24 = .ok (.aload_n 0, 1) := by decide +kernel
theorem dX10_year_25 : decode cX10_year 25 = .ok (.iload_n 1, 1) := by decide +kernel
theorem dX10_year_26 : decode cX10_year 26 = .ok (.putfield 62, 3) := by decide +kernel
theorem dX10_year_29 : decode cX10_year 29 = .ok (.aload_n 0, 1) := by decide +kernel
theorem dX10_year_30 : decode cX10_year 30 = .ok (.aload_n 0, 1) := by decide +kernel
theorem dX10_year_31 : decode cX10_year 31 = .ok (.getfield 13, 3) := by decide +kernel
theorem dX10_year_34 : decode cX10_year 34 = .ok (.invokevirtual 235, 3) := by decide +kernel
theorem dX10_year_37 : decode cX10_year 37 = .ok (.istore_n 3, 1) := by decide +kernel
theorem dX10_year_38 : decode cX10_year 38 = .ok (.aload_n 0, 1) := by decide +kernel
theorem dX10_year_39 : decode cX10_year 39 = .ok (.iconst (-1), 1) := by decide +kernel
theorem dX10_year_40 : decode cX10_year 40 = .ok (.putfield 62, 3) := by decide +kernel
theorem dX10_year_43 : decode cX10_year 43 = .ok (.iload_n 2, 1) := by decide +kernel
theorem dX10_year_44 : decode cX10_year 44 = .ok (.ifCond .ne 7, 3) := by decide +kernel
theorem dX10_year_47 : decode cX10_year 47 = .ok (.iload_n 3, 1) := by decide +kernel
theorem dX10_year_48 : decode cX10_year 48 = .ok (.goto 7, 3) := by decide +kernel
theorem dX10_year_51 : decode cX10_year 51 = .ok (.aload_n 0, 1) := by decide +kernel
theorem dX10_year_52 : decode cX10_year 52 = .ok (.invokevirtual 240, 3) := by decide +kernel
theorem dX10_year_55 : decode cX10_year 55 = .ok (.ireturn, 1) := by decide +kernel
theorem dX10_keep_0 : decode cX10_keep 0 = .ok (.aload_n 0, 1) := by decide +kernel
theorem dX10_keep_1 : decode cX10_keep 1 = .ok (.getfield 176, 3) := by decide +kernel
theorem dX10_keep_4 : decode cX10_keep 4 = .ok (.iconst 2, 1) := by decide +kernel
theorem dX10_keep_5 : decode cX10_keep 5 = .ok (.if_icmp .ne 6, 3) := by decide +kernel
theorem dX10_keep_8 : decode cX10_keep 8 = .ok (.bipush (-3), 2) := by decide +kernel
theorem dX10_keep_10 : decode cX10_keep 10 = .ok (.ireturn, 1) := by decide +kernel
theorem dX10_keep_11 : decode cX10_keep 11 = .ok (.iconst 0, 1) := by decide +kernel
theorem dX10_keep_12 : decode cX10_keep 12 = .ok (.istore_n 1, 1) := by decide +kernel
theorem dX10_keep_13 : decode cX10_keep 13 = .ok (.iload_n 1, 1) := by decide +kernel
theorem dX10_keep_14 : decode cX10_keep 14 = .ok (.bipush 21, 2) := by decide +kernel
theorem dX10_keep_16 : decode cX10_keep 16 = .ok (.if_icmp .ge 29, 3) := by decide +kernel
theorem dX10_keep_19 : decode cX10_keep 19 = .ok (.aload_n 0, 1) := by decide +kernel
theorem dX10_keep_20 : decode cX10_keep 20 = .ok (.getfield 98, 3) := by decide +kernel
theorem dX10_keep_23 : decode cX10_keep 23 = .ok (.bipush 21, 2) := by decide +kernel
theorem dX10_keep_25 : decode cX10_keep 25 = .ok (.aload_n 0, 1) := by decide +kernel
theorem dX10_keep_26 : decode cX10_keep 26 = .ok (.getfield 176, 3) := by decide +kernel
theorem dX10_keep_29 : decode cX10_keep 29 = .ok (.imul, 1) := by decide +kernel
theorem dX10_keep_30 : decode cX10_keep 30 = .ok (.iload_n 1, 1) := by decide +kernel
theorem dX10_keep_31 : decode cX10_keep 31 = .ok (.iadd, 1) := by decide +kernel
theorem dX10_keep_32 : decode cX10_keep 32 = .ok (.aload_n 0, 1) := by decide +kernel
theorem dX10_keep_33 : decode cX10_keep 33 = .ok (.getfield 38, 3) := by decide +kernel
theorem dX10_keep_36 : decode cX10_keep 36 = .ok (.iload_n 1, 1) := by decide +kernel
theorem dX10_keep_37 : decode cX10_keep 37 = .ok (.iaload, 1) := by decide +kernel
theorem dX10_keep_38 : decode cX10_keep 38 = .ok (.iastore, 1) := by decide +kernel
theorem dX10_keep_39 : decode cX10_keep 39 = .ok (.iinc 1 1, 3) := by decide +kernel
theorem dX10_keep_42 : decode cX10_keep 42 = .ok (.goto (-29), 3) := by decide +kernel
theorem dX10_keep_45 : decode cX10_keep 45 = .ok (.aload_n 0, 1) := by decide +kernel
theorem dX10_keep_46 : decode cX10_keep 46 = .ok (.dup, 1) := by decide +kernel
theorem dX10_keep_47 : decode cX10_keep 47 = .ok (.getfield 176, 3) := by decide +kernel
theorem dX10_keep_50 : decode cX10_keep 50 = .ok (.iconst 1, 1) := by decide +kernel
theorem dX10_keep_51 : decode cX10_keep 51 = .ok (.iadd, 1) := by decide +kernel
theorem dX10_keep_52 : decode cX10_keep 52 = .ok (.putfield 176, 3) := by decide +kernel
theorem dX10_keep_55 : decode cX10_keep 55 = .ok (.aload_n 0, 1) := by decide +kernel
theorem dX10_keep_56 : decode cX10_keep 56 = .ok (.getfield 176, 3) := by decide +kernel
theorem dX10_keep_59 : decode cX10_keep 59 = .ok (.ireturn, 1) := by decide +kernel
theorem dX10_back_0 : decode cX10_back 0 = .ok (.aload_n 0, 1) := by decide +kernel
theorem dX10_back_1 : decode cX10_back 1 = .ok (.getfield 176, 3) := by decide +kernel
theorem dX10_back_4 : decode cX10_back 4 = .ok (.ifCond .ne 6, 3) := by decide +kernel
theorem dX10_back_7 : decode cX10_back 7 = .ok (.bipush (-2), 2) := by decide +kernel
theorem dX10_back_9 : decode cX10_back 9 = .ok (.ireturn, 1) := by decide +kernel
theorem dX10_back_10 : decode cX10_back 10 = .ok (.aload_n 0, 1) := by decide +kernel
theorem dX10_back_11 : decode cX10_back 11 = .ok (.dup, 1) := by decide +kernel
theorem dX10_back_12 : decode cX10_back 12 = .ok (.getfield 176, 3) := by decide +kernel
theorem dX10_back_15 : decode cX10_back 15 = .ok (.iconst 1, 1) := by decide +kernel
theorem dX10_back_16 : decode cX10_back 16 = .ok (.isub, 1) := by decide +kernel
theorem dX10_back_17 : decode cX10_back 17 = .ok (.putfield 176, 3) := by decide +kernel
theorem dX10_back_20 : decode cX10_back 20 = .ok (.iconst 0, 1) := by decide +kernel
theorem dX10_back_21 : decode cX10_back 21 = .ok (.istore_n 1, 1) := by decide +kernel
theorem dX10_back_22 : decode cX10_back 22 = .ok (.iload_n 1, 1) := by decide +kernel
theorem dX10_back_23 : decode cX10_back 23 = .ok (.bipush 21, 2) := by decide +kernel
theorem dX10_back_25 : decode cX10_back 25 = .ok (.if_icmp .ge 29, 3) := by decide +kernel
theorem dX10_back_28 : decode cX10_back 28 = .ok (.aload_n 0, 1) := by decide +kernel
theorem dX10_back_29 : decode cX10_back 29 = .ok (.getfield 38, 3) := by decide +kernel
theorem dX10_back_32 : decode cX10_back 32 = .ok (.iload_n 1, 1) := by decide +kernel
theorem dX10_back_33 : decode cX10_back 33 = .ok (.aload_n 0, 1) := by decide +kernel
theorem dX10_back_34 : decode cX10_back 34 = .ok (.getfield 98, 3) := by decide +kernel
theorem dX10_back_37 : decode cX10_back 37 = .ok (.bipush 21, 2) := by decide +kernel
theorem dX10_back_39 : decode cX10_back 39 = .ok (.aload_n 0, 1) := by decide +kernel
theorem dX10_back_40 : decode cX10_back 40 = .ok (.getfield 176, 3) := by decide +kernel
theorem dX10_back_43 : decode cX10_back 43 = .ok (.imul, 1) := by decide +kernel
theorem dX10_back_44 : decode cX10_back 44 = .ok (.iload_n 1, 1) := by decide +kernel
theorem dX10_back_45 : decode cX10_back 45 = .ok (.iadd, 1) := by decide +kernel
theorem dX10_back_46 : decode cX10_back 46 = .ok (.iaload, 1) := by decide +kernel
theorem dX10_back_47 : decode cX10_back 47 = .ok (.iastore, 1) := by decide +kernel
theorem dX10_back_48 : decode cX10_back 48 = .ok (.iinc 1 1, 3) := by decide +kernel
theorem dX10_back_51 : decode cX10_back 51 = .ok (.goto (-29), 3) := by decide +kernel
theorem dX10_back_54 : decode cX10_back 54 = .ok (.aload_n 0, 1) := by decide +kernel
theorem dX10_back_55 : decode cX10_back 55 = .ok (.iconst 0, 1) := by decide +kernel
theorem dX10_back_56 : decode cX10_back 56 = .ok (.putfield 170, 3) := by decide +kernel
theorem dX10_back_59 : decode cX10_back 59 = .ok (.aload_n 0, 1) := by decide +kernel
theorem dX10_back_60 : decode cX10_back 60 = .ok (.getfield 176, 3) := by decide +kernel
theorem dX10_back_63 : decode cX10_back 63 = .ok (.ireturn, 1) := by decide +kernel
theorem dX10_count_0 : decode cX10_count 0 = .ok (.iload_n 1, 1) := by decide +kernel
theorem dX10_count_1 : decode cX10_count 1 = .ok (.tableswitch 96 0 8 #[51, 56, 61, 66, 71, 76, 81, 86, 91], 51) := by decide +kernel
theorem dX10_count_52 : decode cX10_count 52 = .ok (.aload_n 0, 1) := by decide +kernel
theorem dX10_count_53 : decode cX10_count 53 = .ok (.getfield 13, 3) := by decide +kernel
theorem dX10_count_56 : decode cX10_count 56 = .ok (.ireturn, 1) := by decide +kernel
theorem dX10_count_57 : decode cX10_count 57 = .ok (.aload_n 0, 1) := by decide +kernel
theorem dX10_count_58 : decode cX10_count 58 = .ok (.getfield 29, 3) := by decide +kernel
theorem dX10_count_61 : decode cX10_count 61 = .ok (.ireturn, 1) := by decide +kernel
theorem dX10_count_62 : decode cX10_count 62 = .ok (.aload_n 0, 1) := by decide +kernel
theorem dX10_count_63 : decode cX10_count 63 = .ok (.getfield 164, 3) := by decide +kernel
theorem dX10_count_66 : decode cX10_count 66 = .ok (.ireturn, 1) := by decide +kernel
theorem dX10_count_67 : decode cX10_count 67 = .ok (.aload_n 0, 1) := by decide +kernel
theorem dX10_count_68 : decode cX10_count 68 = .ok (.getfield 167, 3) := by decide +kernel
theorem dX10_count_71 : decode cX10_count 71 = .ok (.ireturn, 1) := by decide +kernel
theorem dX10_count_72 : decode cX10_count 72 = .ok (.aload_n 0, 1) := by decide +kernel
theorem dX10_count_73 : decode cX10_count 73 = .ok (.getfield 35, 3) := by decide +kernel
theorem dX10_count_76 : decode cX10_count 76 = .ok (.ireturn, 1) := by decide +kernel
theorem dX10_count_77 : decode cX10_count 77 = .ok (.aload_n 0, 1) := by decide +kernel
theorem dX10_count_78 : decode cX10_count 78 = .ok (.getfield 173, 3) := by decide +kernel
theorem dX10_count_81 : decode cX10_count 81 = .ok (.ireturn, 1) := by decide +kernel
theorem dX10_count_82 : decode cX10_count 82 = .ok (.aload_n 0, 1) := by decide +kernel
theorem dX10_count_83 : decode cX10_count 83 = .ok (.getfield 170, 3) := by decide +kernel
theorem dX10_count_86 : decode cX10_count 86 = .ok (.ireturn, 1) := by decide +kernel
theorem dX10_count_87 : decode cX10_count 87 = .ok (.aload_n 0, 1) := by decide +kernel
theorem dX10_count_88 : decode cX10_count 88 = .ok (.getfield 176, 3) := by decide +kernel
theorem dX10_count_91 : decode cX10_count 91 = .ok (.ireturn, 1) := by decide +kernel
theorem dX10_count_92 : decode cX10_count 92 = .ok (.aload_n 0, 1) := by decide +kernel
theorem dX10_count_93 : decode cX10_count 93 = .ok (.getfield 111, 3) := by decide +kernel
theorem dX10_count_96 : decode cX10_count 96 = .ok (.ireturn, 1) := by decide +kernel
theorem dX10_count_97 : decode cX10_count 97 = .ok (.iconst (-1), 1) := by decide +kernel
theorem dX10_count_98 : decode cX10_count 98 = .ok (.ireturn, 1) := by decide +kernel
theorem dJ6_bitCount_0f7a4_0 : decode cJ6_bitCount_0f7a4 0 = .ok (.iload_n 0, 1) := by decide +kernel
theorem dJ6_bitCount_0f7a4_1 : decode cJ6_bitCount_0f7a4 1 = .ok (.iload_n 0, 1) := by decide +kernel
theorem dJ6_bitCount_0f7a4_2 : decode cJ6_bitCount_0f7a4 2 = .ok (.iconst 1, 1) := by decide +kernel
theorem dJ6_bitCount_0f7a4_3 : decode cJ6_bitCount_0f7a4 3 = .ok (.iushr, 1) := by decide +kernel
theorem dJ6_bitCount_0f7a4_4 : decode cJ6_bitCount_0f7a4 4 = .ok (.ldc_w 265, 3) := by decide +kernel
theorem dJ6_bitCount_0f7a4_7 : decode cJ6_bitCount_0f7a4 7 = .ok (.iand, 1) := by decide +kernel
theorem dJ6_bitCount_0f7a4_8 : decode cJ6_bitCount_0f7a4 8 = .ok (.isub, 1) := by decide +kernel
theorem dJ6_bitCount_0f7a4_9 : decode cJ6_bitCount_0f7a4 9 = .ok (.istore_n 0, 1) := by decide +kernel
theorem dJ6_bitCount_0f7a4_10 : decode cJ6_bitCount_0f7a4 10 = .ok (.iload_n 0, 1) := by decide +kernel
theorem dJ6_bitCount_0f7a4_11 : decode cJ6_bitCount_0f7a4 11 = .ok (.ldc_w 266, 3) := by decide +kernel
theorem dJ6_bitCount_0f7a4_14 : decode cJ6_bitCount_0f7a4 14 = .ok (.iand, 1) := by decide +kernel
theorem dJ6_bitCount_0f7a4_15 : decode cJ6_bitCount_0f7a4 15 = .ok (.iload_n 0, 1) := by decide +kernel
theorem dJ6_bitCount_0f7a4_16 : decode cJ6_bitCount_0f7a4 16 = .ok (.iconst 2, 1) := by decide +kernel
theorem dJ6_bitCount_0f7a4_17 : decode cJ6_bitCount_0f7a4 17 = .ok (.iushr, 1) := by decide +kernel
theorem dJ6_bitCount_0f7a4_18 : decode cJ6_bitCount_0f7a4 18 = .ok (.ldc_w 266, 3) := by decide +kernel
theorem dJ6_bitCount_0f7a4_21 : decode cJ6_bitCount_0f7a4 21 = .ok (.iand, 1) := by decide +kernel
theorem dJ6_bitCount_0f7a4_22 : decode cJ6_bitCount_0f7a4 22 = .ok (.iadd, 1) := by decide +kernel
theorem dJ6_bitCount_0f7a4_23 : decode cJ6_bitCount_0f7a4 23 = .ok (.istore_n 0, 1) := by decide +kernel
theorem dJ6_bitCount_0f7a4_24 : decode cJ6_bitCount_0f7a4 24 = .ok (.iload_n 0, 1) := by decide +kernel
theorem dJ6_bitCount_0f7a4_25 : decode cJ6_bitCount_0f7a4 25 = .ok (.iload_n 0, 1) := by decide +kernel
theorem dJ6_bitCount_0f7a4_26 : decode cJ6_bitCount_0f7a4 26 = .ok (.iconst 4, 1) := by decide +kernel
theorem dJ6_bitCount_0f7a4_27 : decode cJ6_bitCount_0f7a4 27 = .ok (.iushr, 1) := by decide +kernel
theorem dJ6_bitCount_0f7a4_28 : decode cJ6_bitCount_0f7a4 28 = .ok (.iadd, 1) := by decide +kernel
theorem dJ6_bitCount_0f7a4_29 : decode cJ6_bitCount_0f7a4 29 = .ok (.ldc_w 267, 3) := by decide +kernel
theorem dJ6_bitCount_0f7a4_32 : decode cJ6_bitCount_0f7a4 32 = .ok (.iand, 1) := by decide +kernel
theorem dJ6_bitCount_0f7a4_33 : decode cJ6_bitCount_0f7a4 33 = .ok (.istore_n 0, 1) := by decide +kernel
theorem dJ6_bitCount_0f7a4_34 : decode cJ6_bitCount_0f7a4 34 = .ok (.iload_n 0, 1) := by decide +kernel
theorem dJ6_bitCount_0f7a4_35 : decode cJ6_bitCount_0f7a4 35 = .ok (.iload_n 0, 1) := by decide +kernel
theorem dJ6_bitCount_0f7a4_36 : decode cJ6_bitCount_0f7a4 36 = .ok (.bipush 8, 2) := by decide +kernel
theorem dJ6_bitCount_0f7a4_38 : decode cJ6_bitCount_0f7a4 38 = .ok (.iushr, 1) := by decide +kernel
theorem dJ6_bitCount_0f7a4_39 : decode cJ6_bitCount_0f7a4 39 = .ok (.iadd, 1) := by decide +kernel
theorem dJ6_bitCount_0f7a4_40 : decode cJ6_bitCount_0f7a4 40 = .ok (.istore_n 0, 1) := by decide +kernel
theorem dJ6_bitCount_0f7a4_41 : decode cJ6_bitCount_0f7a4 41 = .ok (.iload_n 0, 1) := by decide +kernel
theorem dJ6_bitCount_0f7a4_42 : decode cJ6_bitCount_0f7a4 42 = .ok (.iload_n 0, 1) := by decide +kernel
theorem dJ6_bitCount_0f7a4_43 : decode cJ6_bitCount_0f7a4 43 = .ok (.bipush 16, 2) := by decide +kernel
theorem dJ6_bitCount_0f7a4_45 : decode cJ6_bitCount_0f7a4 45 = .ok (.iushr, 1) := by decide +kernel
theorem dJ6_bitCount_0f7a4_46 : decode cJ6_bitCount_0f7a4 46 = .ok (.iadd, 1) := by decide +kernel
theorem dJ6_bitCount_0f7a4_47 : decode cJ6_bitCount_0f7a4 47 = .ok (.istore_n 0, 1) := by decide +kernel
theorem dJ6_bitCount_0f7a4_48 : decode cJ6_bitCount_0f7a4 48 = .ok (.iload_n 0, 1) := by decide +kernel
theorem dJ6_bitCount_0f7a4_49 : decode cJ6_bitCount_0f7a4 49 = .ok (.bipush 63, 2) := by decide +kernel
theorem dJ6_bitCount_0f7a4_51 : decode cJ6_bitCount_0f7a4 51 = .ok (.iand, 1) := by decide +kernel
theorem dJ6_bitCount_0f7a4_52 : decode cJ6_bitCount_0f7a4 52 = .ok (.ireturn, 1) := by decide +kernel
theorem dJ9_abs_0f7a4_0 : decode cJ9_abs_0f7a4 0 = .ok (.iload_n 0, 1) := by decide +kernel
theorem dJ9_abs_0f7a4_1 : decode cJ9_abs_0f7a4 1 = .ok (.ifCond .ge 8, 3) := by decide +kernel
theorem dJ9_abs_0f7a4_4 : decode cJ9_abs_0f7a4 4 = .ok (.iload_n 0, 1) := by decide +kernel
theorem dJ9_abs_0f7a4_5 : decode cJ9_abs_0f7a4 5 = .ok (.ineg, 1) := by decide +kernel
theorem dJ9_abs_0f7a4_6 : decode cJ9_abs_0f7a4 6 = .ok (.goto 4, 3) := by decide +kernel
theorem dJ9_abs_0f7a4_9 : decode cJ9_abs_0f7a4 9 = .ok (.iload_n 0, 1) := by decide +kernel
theorem dJ9_abs_0f7a4_10 : decode cJ9_abs_0f7a4 10 = .ok (.ireturn, 1) := by decide +kernel
theorem dJ9_max_7cf53_0 : decode cJ9_max_7cf53 0 = .ok (.iload_n 0, 1) := by decide +kernel
theorem dJ9_max_7cf53_1 : decode cJ9_max_7cf53 1 = .ok (.iload_n 1, 1) := by decide +kernel
theorem dJ9_max_7cf53_2 : decode cJ9_max_7cf53 2 = .ok (.if_icmp .lt 7, 3) := by decide +kernel
theorem dJ9_max_7cf53_5 : decode cJ9_max_7cf53 5 = .ok (.iload_n 0, 1) := by decide +kernel
theorem dJ9_max_7cf53_6 : decode cJ9_max_7cf53 6 = .ok (.goto 4, 3) := by decide +kernel
theorem dJ9_max_7cf53_9 : decode cJ9_max_7cf53 9 = .ok (.iload_n 1, 1) := by decide +kernel
theorem dJ9_max_7cf53_10 : decode cJ9_max_7cf53 10 = .ok (.ireturn, 1) := by decide +kernel
theorem dJ9_min_7cf53_0 : decode cJ9_min_7cf53 0 = .ok (.iload_n 0, 1) := by decide +kernel
theorem dJ9_min_7cf53_1 : decode cJ9_min_7cf53 1 = .ok (.iload_n 1, 1) := by decide +kernel
theorem dJ9_min_7cf53_2 : decode cJ9_min_7cf53 2 = .ok (.if_icmp .gt 7, 3) := by decide +kernel
theorem dJ9_min_7cf53_5 : decode cJ9_min_7cf53 5 = .ok (.iload_n 0, 1) := by decide +kernel
theorem dJ9_min_7cf53_6 : decode cJ9_min_7cf53 6 = .ok (.goto 4, 3) := by decide +kernel
theorem dJ9_min_7cf53_9 : decode cJ9_min_7cf53 9 = .ok (.iload_n 1, 1) := by decide +kernel
theorem dJ9_min_7cf53_10 : decode cJ9_min_7cf53 10 = .ok (.ireturn, 1) := by decide +kernel
theorem dJ0_length_8abf5_0 : decode cJ0_length_8abf5 0 = .ok (.aload_n 0, 1) := by decide +kernel
theorem dJ0_length_8abf5_1 : decode cJ0_length_8abf5 1 = .ok (.getfield 9, 3) := by decide +kernel
theorem dJ0_length_8abf5_4 : decode cJ0_length_8abf5 4 = .ok (.arraylength, 1) := by decide +kernel
theorem dJ0_length_8abf5_5 : decode cJ0_length_8abf5 5 = .ok (.aload_n 0, 1) := by decide +kernel
theorem dJ0_length_8abf5_6 : decode cJ0_length_8abf5 6 = .ok (.invokevirtual 335, 3) := by decide +kernel
theorem dJ0_length_8abf5_9 : decode cJ0_length_8abf5 9 = .ok (.ishr, 1) := by decide +kernel
theorem dJ0_length_8abf5_10 : decode cJ0_length_8abf5 10 = .ok (.ireturn, 1) := by decide +kernel
theorem dJ0_charAt_5068e_0 : decode cJ0_charAt_5068e 0 = .ok (.aload_n 0, 1) := by decide +kernel
theorem dJ0_charAt_5068e_1 : decode cJ0_charAt_5068e 1 = .ok (.invokevirtual 492, 3) := by decide +kernel
theorem dJ0_charAt_5068e_4 : decode cJ0_charAt_5068e 4 = .ok (.ifCond .eq 12, 3) := by decide +kernel
theorem dJ0_charAt_5068e_7 : decode cJ0_charAt_5068e 7 = .ok (.aload_n 0, 1) := by decide +kernel
theorem dJ0_charAt_5068e_8 : decode cJ0_charAt_5068e 8 = .ok (.getfield 9, 3) := by decide +kernel
theorem dJ0_charAt_5068e_11 : decode cJ0_charAt_5068e 11 = .ok (.iload_n 1, 1) := by decide +kernel
theorem dJ0_charAt_5068e_12 : decode cJ0_charAt_5068e 12 = .ok (.invokestatic 495, 3) := by decide +kernel
theorem dJ0_charAt_5068e_15 : decode cJ0_charAt_5068e 15 = .ok (.ireturn, 1) := by decide +kernel
theorem dJ0_charAt_5068e_16 : decode cJ0_charAt_5068e 16 = .ok (.aload_n 0, 1) := by decide +kernel
theorem dJ0_charAt_5068e_17 : decode cJ0_charAt_5068e 17 = .ok (.getfield 9, 3) := by decide +kernel
theorem dJ0_charAt_5068e_20 : decode cJ0_charAt_5068e 20 = .ok (.iload_n 1, 1) := by decide +kernel
theorem dJ0_charAt_5068e_21 : decode cJ0_charAt_5068e 21 = .ok (.invokestatic 498, 3) := by decide +kernel
theorem dJ0_charAt_5068e_24 : decode cJ0_charAt_5068e 24 = .ok (.ireturn, 1) := by decide +kernel
theorem dJ0_coder_7d493_0 : decode cJ0_coder_7d493 0 = .ok (.getstatic 38, 3) := by decide +kernel
theorem dJ0_coder_7d493_3 : decode cJ0_coder_7d493 3 = .ok (.ifCond .eq 10, 3) := by decide +kernel
theorem dJ0_coder_7d493_6 : decode cJ0_coder_7d493 6 = .ok (.aload_n 0, 1) := by decide +kernel
theorem dJ0_coder_7d493_7 : decode cJ0_coder_7d493 7 = .ok (.getfield 15, 3) := by decide +kernel
theorem dJ0_coder_7d493_10 : decode cJ0_coder_7d493 10 = .ok (.goto 4, 3) := by decide +kernel
theorem dJ0_coder_7d493_13 : decode cJ0_coder_7d493 13 = .ok (.iconst 1, 1) := by decide +kernel
theorem dJ0_coder_7d493_14 : decode cJ0_coder_7d493 14 = .ok (.ireturn, 1) := by decide +kernel
theorem dJ0_isLatin1_aae02_0 : decode cJ0_isLatin1_aae02 0 = .ok (.getstatic 38, 3) := by decide +kernel
theorem dJ0_isLatin1_aae02_3 : decode cJ0_isLatin1_aae02 3 = .ok (.ifCond .eq 14, 3) := by decide +kernel
theorem dJ0_isLatin1_aae02_6 : decode cJ0_isLatin1_aae02 6 = .ok (.aload_n 0, 1) := by decide +kernel
theorem dJ0_isLatin1_aae02_7 : decode cJ0_isLatin1_aae02 7 = .ok (.getfield 15, 3) := by decide +kernel
theorem dJ0_isLatin1_aae02_10 : decode cJ0_isLatin1_aae02 10 = .ok (.ifCond .ne 7, 3) := by decide +kernel
theorem dJ0_isLatin1_aae02_13 : decode cJ0_isLatin1_aae02 13 = .ok (.iconst 1, 1) := by decide +kernel
theorem dJ0_isLatin1_aae02_14 : decode cJ0_isLatin1_aae02 14 = .ok (.goto 4, 3) := by decide +kernel
theorem dJ0_isLatin1_aae02_17 : decode cJ0_isLatin1_aae02 17 = .ok (.iconst 0, 1) := by decide +kernel
theorem dJ0_isLatin1_aae02_18 : decode cJ0_isLatin1_aae02 18 = .ok (.ireturn, 1) := by decide +kernel
theorem dJ0_checkIndex_df160_0 : decode cJ0_checkIndex_df160 0 = .ok (.iload_n 0, 1) := by decide +kernel
theorem dJ0_checkIndex_df160_1 : decode cJ0_checkIndex_df160 1 = .ok (.iload_n 1, 1) := by decide +kernel
theorem dJ0_checkIndex_df160_2 : decode cJ0_checkIndex_df160 2 = .ok (.getstatic 1053, 3) := by decide +kernel
theorem dJ0_checkIndex_df160_5 : decode cJ0_checkIndex_df160 5 = .ok (.invokestatic 1059, 3) := by decide +kernel
theorem dJ0_checkIndex_df160_8 : decode cJ0_checkIndex_df160 8 = .ok (.pop, 1) := by decide +kernel
theorem dJ0_checkIndex_df160_9 : decode cJ0_checkIndex_df160 9 = .ok (.return_, 1) := by decide +kernel
theorem dJ1_charAt_3b067_0 : decode cJ1_charAt_3b067 0 = .ok (.iload_n 1, 1) := by decide +kernel
theorem dJ1_charAt_3b067_1 : decode cJ1_charAt_3b067 1 = .ok (.aload_n 0, 1) := by decide +kernel
theorem dJ1_charAt_3b067_2 : decode cJ1_charAt_3b067 2 = .ok (.arraylength, 1) := by decide +kernel
theorem dJ1_charAt_3b067_3 : decode cJ1_charAt_3b067 3 = .ok (.invokestatic 9, 3) := by decide +kernel
theorem dJ1_charAt_3b067_6 : decode cJ1_charAt_3b067 6 = .ok (.aload_n 0, 1) := by decide +kernel
theorem dJ1_charAt_3b067_7 : decode cJ1_charAt_3b067 7 = .ok (.iload_n 1, 1) := by decide +kernel
theorem dJ1_charAt_3b067_8 : decode cJ1_charAt_3b067 8 = .ok (.baload, 1) := by decide +kernel
theorem dJ1_charAt_3b067_9 : decode cJ1_charAt_3b067 9 = .ok (.sipush 255, 3) := by decide +kernel
theorem dJ1_charAt_3b067_12 : decode cJ1_charAt_3b067 12 = .ok (.iand, 1) := by decide +kernel
theorem dJ1_charAt_3b067_13 : decode cJ1_charAt_3b067 13 = .ok (.i2c, 1) := by decide +kernel
theorem dJ1_charAt_3b067_14 : decode cJ1_charAt_3b067 14 = .ok (.ireturn, 1) := by decide +kernel
theorem dJ2_getChar_3b067_0 : decode cJ2_getChar_3b067 0 = .ok (.getstatic 44, 3) := by decide +kernel
theorem dJ2_getChar_3b067_3 : decode cJ2_getChar_3b067 3 = .ok (.ifCond .ne 25, 3) := by decide +kernel
theorem dJ2_getChar_3b067_6 : decode cJ2_getChar_3b067 6 = .ok (.iload_n 1, 1) := by decide +kernel
theorem dJ2_getChar_3b067_7 : decode cJ2_getChar_3b067 7 = .ok (.ifCond .lt 11, 3) := by decide +kernel
theorem dJ2_getChar_3b067_10 : decode cJ2_getChar_3b067 10 = .ok (.iload_n 1, 1) := by decide +kernel
theorem dJ2_getChar_3b067_11 : decode cJ2_getChar_3b067 11 = .ok (.aload_n 0, 1) := by decide +kernel
theorem dJ2_getChar_3b067_12 : decode cJ2_getChar_3b067 12 = .ok (.invokestatic 48, 3) := by decide +kernel
theorem dJ2_getChar_3b067_15 : decode cJ2_getChar_3b067 15 = .ok (.if_icmp .lt 13, 3) := by decide +kernel
theorem dJ2_getChar_3b067_18 : decode cJ2_getChar_3b067 18 = .ok (.new 52, 3) := by decide +kernel
theorem dJ2_getChar_3b067_21 : decode cJ2_getChar_3b067 21 = .ok (.dup, 1) := by decide +kernel
theorem dJ2_getChar_3b067_22 : decode cJ2_getChar_3b067 22 = .ok (.ldc 54, 2) := by decide +kernel
theorem dJ2_getChar_3b067_24 : decode cJ2_getChar_3b067 24 = .ok (.invokespecial 56, 3) := by decide +kernel
theorem dJ2_getChar_3b067_27 : decode cJ2_getChar_3b067 27 = .ok (.athrow, 1) := by decide +kernel
theorem dJ2_getChar_3b067_28 : decode cJ2_getChar_3b067 28 = .ok (.iload_n 1, 1) := by decide +kernel
theorem dJ2_getChar_3b067_29 : decode cJ2_getChar_3b067 29 = .ok (.iconst 1, 1) := by decide +kernel
theorem dJ2_getChar_3b067_30 : decode cJ2_getChar_3b067 30 = .ok (.ishl, 1) := by decide +kernel
theorem dJ2_getChar_3b067_31 : decode cJ2_getChar_3b067 31 = .ok (.istore_n 1, 1) := by decide +kernel
theorem dJ2_getChar_3b067_32 : decode cJ2_getChar_3b067 32 = .ok (.aload_n 0, 1) := by decide +kernel
theorem dJ2_getChar_3b067_33 : decode cJ2_getChar_3b067 33 = .ok (.iload_n 1, 1) := by decide +kernel
theorem dJ2_getChar_3b067_34 : decode cJ2_getChar_3b067 34 = .ok (.iinc 1 1, 3) := by decide +kernel
theorem dJ2_getChar_3b067_37 : decode cJ2_getChar_3b067 37 = .ok (.baload, 1) := by decide +kernel
theorem dJ2_getChar_3b067_38 : decode cJ2_getChar_3b067 38 = .ok (.sipush 255, 3) := by decide +kernel
theorem dJ2_getChar_3b067_41 : decode cJ2_getChar_3b067 41 = .ok (.iand, 1) := by decide +kernel
theorem dJ2_getChar_3b067_42 : decode cJ2_getChar_3b067 42 = .ok (.getstatic 59, 3) := by decide +kernel
theorem dJ2_getChar_3b067_45 : decode cJ2_getChar_3b067 45 = .ok (.ishl, 1) := by decide +kernel
theorem dJ2_getChar_3b067_46 : decode cJ2_getChar_3b067 46 = .ok (.aload_n 0, 1) := by decide +kernel
theorem dJ2_getChar_3b067_47 : decode cJ2_getChar_3b067 47 = .ok (.iload_n 1, 1) := by decide +kernel
theorem dJ2_getChar_3b067_48 : decode cJ2_getChar_3b067 48 = .ok (.baload, 1) := by decide +kernel
theorem dJ2_getChar_3b067_49 : decode cJ2_getChar_3b067 49 = .ok (.sipush 255, 3) := by decide +kernel
theorem dJ2_getChar_3b067_52 : decode cJ2_getChar_3b067 52 = .ok (.iand, 1) := by decide +kernel
theorem dJ2_getChar_3b067_53 : decode cJ2_getChar_3b067 53 = .ok (.getstatic 63, 3) := by decide +kernel
theorem dJ2_getChar_3b067_56 : decode cJ2_getChar_3b067 56 = .ok (.ishl, 1) := by decide +kernel
theorem dJ2_getChar_3b067_57 : decode cJ2_getChar_3b067 57 = .ok (.ior, 1) := by decide +kernel
theorem dJ2_getChar_3b067_58 : decode cJ2_getChar_3b067 58 = .ok (.i2c, 1) := by decide +kernel
theorem dJ2_getChar_3b067_59 : decode cJ2_getChar_3b067 59 = .ok (.ireturn, 1) := by decide +kernel
theorem dJ2_length_9d52b_0 : decode cJ2_length_9d52b 0 = .ok (.aload_n 0, 1) := by decide +kernel
theorem dJ2_length_9d52b_1 : decode cJ2_length_9d52b 1 = .ok (.arraylength, 1) := by decide +kernel
theorem dJ2_length_9d52b_2 : decode cJ2_length_9d52b 2 = .ok (.iconst 1, 1) := by decide +kernel
theorem dJ2_length_9d52b_3 : decode cJ2_length_9d52b 3 = .ok (.ishr, 1) := by decide +kernel
theorem dJ2_length_9d52b_4 : decode cJ2_length_9d52b 4 = .ok (.ireturn, 1) := by decide +kernel
theorem dJ2_charAt_3b067_0 : decode cJ2_charAt_3b067 0 = .ok (.iload_n 1, 1) := by decide +kernel
theorem dJ2_charAt_3b067_1 : decode cJ2_charAt_3b067 1 = .ok (.aload_n 0, 1) := by decide +kernel
theorem dJ2_charAt_3b067_2 : decode cJ2_charAt_3b067 2 = .ok (.invokestatic 67, 3) := by decide +kernel
theorem dJ2_charAt_3b067_5 : decode cJ2_charAt_3b067 5 = .ok (.aload_n 0, 1) := by decide +kernel
theorem dJ2_charAt_3b067_6 : decode cJ2_charAt_3b067 6 = .ok (.iload_n 1, 1) := by decide +kernel
theorem dJ2_charAt_3b067_7 : decode cJ2_charAt_3b067 7 = .ok (.invokestatic 71, 3) := by decide +kernel
theorem dJ2_charAt_3b067_10 : decode cJ2_charAt_3b067 10 = .ok (.ireturn, 1) := by decide +kernel
theorem dJ2_checkIndex_2214a_0 : decode cJ2_checkIndex_2214a 0 = .ok (.iload_n 0, 1) := by decide +kernel
theorem dJ2_checkIndex_2214a_1 : decode cJ2_checkIndex_2214a 1 = .ok (.aload_n 1, 1) := by decide +kernel
theorem dJ2_checkIndex_2214a_2 : decode cJ2_checkIndex_2214a 2 = .ok (.invokestatic 48, 3) := by decide +kernel
theorem dJ2_checkIndex_2214a_5 : decode cJ2_checkIndex_2214a 5 = .ok (.invokestatic 414, 3) := by decide +kernel
theorem dJ2_checkIndex_2214a_8 : decode cJ2_checkIndex_2214a 8 = .ok (.return_, 1) := by decide +kernel
theorem dJ3_checkIndex_8e157_0 : decode cJ3_checkIndex_8e157 0 = .ok (.iload_n 0, 1) := by decide +kernel
theorem dJ3_checkIndex_8e157_1 : decode cJ3_checkIndex_8e157 1 = .ok (.ifCond .lt 8, 3) := by decide +kernel
theorem dJ3_checkIndex_8e157_4 : decode cJ3_checkIndex_8e157 4 = .ok (.iload_n 0, 1) := by decide +kernel
theorem dJ3_checkIndex_8e157_5 : decode cJ3_checkIndex_8e157 5 = .ok (.iload_n 1, 1) := by decide +kernel
theorem dJ3_checkIndex_8e157_6 : decode cJ3_checkIndex_8e157 6 = .ok (.if_icmp .lt 10, 3) := by decide +kernel
theorem dJ3_checkIndex_8e157_9 : decode cJ3_checkIndex_8e157 9 = .ok (.aload_n 2, 1) := by decide +kernel
theorem dJ3_checkIndex_8e157_10 : decode cJ3_checkIndex_8e157 10 = .ok (.iload_n 0, 1) := by decide +kernel
theorem dJ3_checkIndex_8e157_11 : decode cJ3_checkIndex_8e157 11 = .ok (.iload_n 1, 1) := by decide +kernel
theorem dJ3_checkIndex_8e157_12 : decode cJ3_checkIndex_8e157 12 = .ok (.invokestatic 95, 3) := by decide +kernel
theorem dJ3_checkIndex_8e157_15 : decode cJ3_checkIndex_8e157 15 = .ok (.athrow, 1) := by decide +kernel
theorem dJ3_checkIndex_8e157_16 : decode cJ3_checkIndex_8e157 16 = .ok (.iload_n 0, 1) := by decide +kernel
theorem dJ3_checkIndex_8e157_17 : decode cJ3_checkIndex_8e157 17 = .ok (.ireturn, 1) := by decide +kernel
theorem dL_law_0 : decode cL_law 0 = .ok (.new 7, 3) := by decide +kernel
theorem dL_law_3 : decode cL_law 3 = .ok (.dup, 1) := by decide +kernel
theorem dL_law_4 : decode cL_law 4 = .ok (.invokespecial 9, 3) := by decide +kernel
theorem dL_law_7 : decode cL_law 7 = .ok (.astore_n 1, 1) := by decide +kernel
theorem dL_law_8 : decode cL_law 8 = .ok (.new 10, 3) := by decide +kernel
theorem dL_law_11 : decode cL_law 11 = .ok (.dup, 1) := by decide +kernel
theorem dL_law_12 : decode cL_law 12 = .ok (.invokespecial 12, 3) := by decide +kernel
theorem dL_law_15 : decode cL_law 15 = .ok (.astore_n 2, 1) := by decide +kernel
theorem dL_law_16 : decode cL_law 16 = .ok (.iconst 0, 1) := by decide +kernel
theorem dL_law_17 : decode cL_law 17 = .ok (.istore_n 3, 1) := by decide +kernel
theorem dL_law_18 : decode cL_law 18 = .ok (.iload_n 3, 1) := by decide +kernel
theorem dL_law_19 : decode cL_law 19 = .ok (.aload_n 0, 1) := by decide +kernel
theorem dL_law_20 : decode cL_law 20 = .ok (.arraylength, 1) := by decide +kernel
theorem dL_law_21 : decode cL_law 21 = .ok (.iconst 4, 1) := by decide +kernel
theorem dL_law_22 : decode cL_law 22 = .ok (.isub, 1) := by decide +kernel
theorem dL_law_23 : decode cL_law 23 = .ok (.if_icmp .gt 945, 3) := by decide +kernel
theorem dL_law_26 : decode cL_law 26 = .ok (.aload_n 0, 1) := by decide +kernel
theorem dL_law_27 : decode cL_law 27 = .ok (.iload_n 3, 1) := by decide +kernel
theorem dL_law_28 : decode cL_law 28 = .ok (.iaload, 1) := by decide +kernel
theorem dL_law_29 : decode cL_law 29 = .ok (.bipush 31, 2) := by decide +kernel
theorem dL_law_31 : decode cL_law 31 = .ok (.iand, 1) := by decide +kernel
theorem dL_law_32 : decode cL_law 32 = .ok (.tableswitch 930 0 31 #[144, 167, 180, 193, 206, 239, 272, 315, 348, 381, 404, 437, 470, 503, 516, 539, 562, 595, 608, 631, 664, 677, 700, 713, 756, 769, 792, 815, 848, 881, 894, 907], 144) := by decide +kernel
theorem dL_law_176 : decode cL_law 176 = .ok (.aload_n 1, 1) := by decide +kernel
theorem dL_law_177 : decode cL_law 177 = .ok (.aload_n 0, 1) := by decide +kernel
theorem dL_law_178 : decode cL_law 178 = .ok (.iload_n 3, 1) := by decide +kernel
theorem dL_law_179 : decode cL_law 179 = .ok (.iconst 1, 1) := by decide +kernel
theorem dL_law_180 : decode cL_law 180 = .ok (.iadd, 1) := by decide +kernel
theorem dL_law_181 : decode cL_law 181 = .ok (.iaload, 1) := by decide +kernel
theorem dL_law_182 : decode cL_law 182 = .ok (.invokevirtual 13, 3) := by decide +kernel
theorem dL_law_185 : decode cL_law 185 = .ok (.aload_n 2, 1) := by decide +kernel
theorem dL_law_186 : decode cL_law 186 = .ok (.aload_n 0, 1) := by decide +kernel
theorem dL_law_187 : decode cL_law 187 = .ok (.iload_n 3, 1) := by decide +kernel
theorem dL_law_188 : decode cL_law 188 = .ok (.iconst 1, 1) := by decide +kernel
theorem dL_law_189 : decode cL_law 189 = .ok (.iadd, 1) := by decide +kernel
theorem dL_law_190 : decode cL_law 190 = .ok (.iaload, 1) := by decide +kernel
theorem dL_law_191 : decode cL_law 191 = .ok (.invokevirtual 17, 3) := by decide +kernel
theorem dL_law_194 : decode cL_law 194 = .ok (.if_icmp .eq 768, 3) := by decide +kernel
theorem dL_law_197 : decode cL_law 197 = .ok (.iconst 0, 1) := by decide +kernel
theorem dL_law_198 : decode cL_law 198 = .ok (.ireturn, 1) := by decide +kernel
theorem dL_law_199 : decode cL_law 199 = .ok (.aload_n 1, 1) := by decide +kernel
theorem dL_law_200 : decode cL_law 200 = .ok (.invokevirtual 18, 3) := by decide +kernel
theorem dL_law_203 : decode cL_law 203 = .ok (.aload_n 2, 1) := by decide +kernel
theorem dL_law_204 : decode cL_law 204 = .ok (.invokevirtual 22, 3) := by decide +kernel
theorem dL_law_207 : decode cL_law 207 = .ok (.if_icmp .eq 755, 3) := by decide +kernel
theorem dL_law_210 : decode cL_law 210 = .ok (.iconst 0, 1) := by decide +kernel
theorem dL_law_211 : decode cL_law 211 = .ok (.ireturn, 1) := by decide +kernel
theorem dL_law_212 : decode cL_law 212 = .ok (.aload_n 1, 1) := by decide +kernel
theorem dL_law_213 : decode cL_law 213 = .ok (.invokevirtual 23, 3) := by decide +kernel
theorem dL_law_216 : decode cL_law 216 = .ok (.aload_n 2, 1) := by decide +kernel
theorem dL_law_217 : decode cL_law 217 = .ok (.invokevirtual 26, 3) := by decide +kernel
theorem dL_law_220 : decode cL_law 220 = .ok (.if_icmp .eq 742, 3) := by decide +kernel
theorem dL_law_223 : decode cL_law 223 = .ok (.iconst 0, 1) := by decide +kernel
theorem dL_law_224 : decode cL_law 224 = .ok (.ireturn, 1) := by decide +kernel
theorem dL_law_225 : decode cL_law 225 = .ok (.aload_n 1, 1) := by decide +kernel
theorem dL_law_226 : decode cL_law 226 = .ok (.invokevirtual 27, 3) := by decide +kernel
theorem dL_law_229 : decode cL_law 229 = .ok (.aload_n 2, 1) := by decide +kernel
theorem dL_law_230 : decode cL_law 230 = .ok (.invokevirtual 30, 3) := by decide +kernel
theorem dL_law_233 : decode cL_law 233 = .ok (.if_icmp .eq 729, 3) := by decide +kernel
theorem dL_law_236 : decode cL_law 236 = .ok (.iconst 0, 1) := by decide +kernel
theorem dL_law_237 : decode cL_law 237 = .ok (.ireturn, 1) := by decide +kernel
theorem dL_law_238 : decode cL_law 238 = .ok (.aload_n 1, 1) := by decide +kernel
theorem dL_law_239 : decode cL_law 239 = .ok (.aload_n 0, 1) := by decide +kernel
theorem dL_law_240 : decode cL_law 240 = .ok (.iload_n 3, 1) := by decide +kernel
theorem dL_law_241 : decode cL_law 241 = .ok (.iconst 1, 1) := by decide +kernel
theorem dL_law_242 : decode cL_law 242 = .ok (.iadd, 1) := by decide +kernel
theorem dL_law_243 : decode cL_law 243 = .ok (.iaload, 1) := by decide +kernel
theorem dL_law_244 : decode cL_law 244 = .ok (.aload_n 0, 1) := by decide +kernel
theorem dL_law_245 : decode cL_law 245 = .ok (.iload_n 3, 1) := by decide +kernel
theorem dL_law_246 : decode cL_law 246 = .ok (.iconst 2, 1) := by decide +kernel
theorem dL_law_247 : decode cL_law 247 = .ok (.iadd, 1) := by decide +kernel
theorem dL_law_248 : decode cL_law 248 = .ok (.iaload, 1) := by decide +kernel
theorem dL_law_249 : decode cL_law 249 = .ok (.invokevirtual 31, 3) := by decide +kernel
theorem dL_law_252 : decode cL_law 252 = .ok (.aload_n 2, 1) := by decide +kernel
theorem dL_law_253 : decode cL_law 253 = .ok (.aload_n 0, 1) := by decide +kernel
theorem dL_law_254 : decode cL_law 254 = .ok (.iload_n 3, 1) := by decide +kernel
theorem dL_law_255 : decode cL_law 255 = .ok (.iconst 1, 1) := by decide +kernel
theorem dL_law_256 : decode cL_law 256 = .ok (.iadd, 1) := by decide +kernel
theorem dL_law_257 : decode cL_law 257 = .ok (.iaload, 1) := by decide +kernel
theorem dL_law_258 : decode cL_law 258 = .ok (.aload_n 0, 1) := by decide +kernel
theorem dL_law_259 : decode cL_law 259 = .ok (.iload_n 3, 1) := by decide +kernel
theorem dL_law_260 : decode cL_law 260 = .ok (.iconst 2, 1) := by decide +kernel
theorem dL_law_261 : decode cL_law 261 = .ok (.iadd, 1) := by decide +kernel
theorem dL_law_262 : decode cL_law 262 = .ok (.iaload, 1) := by decide +kernel
theorem dL_law_263 : decode cL_law 263 = .ok (.invokevirtual 35, 3) := by decide +kernel
theorem dL_law_266 : decode cL_law 266 = .ok (.if_icmp .eq 696, 3) := by decide +kernel
theorem dL_law_269 : decode cL_law 269 = .ok (.iconst 0, 1) := by decide +kernel
theorem dL_law_270 : decode cL_law 270 = .ok (.ireturn, 1) := by decide +kernel
theorem dL_law_271 : decode cL_law 271 = .ok (.aload_n 1, 1) := by decide +kernel
theorem dL_law_272 : decode cL_law 272 = .ok (.aload_n 0, 1) := by decide +kernel
theorem dL_law_273 : decode cL_law 273 = .ok (.iload_n 3, 1) := by decide +kernel
theorem dL_law_274 : decode cL_law 274 = .ok (.iconst 1, 1) := by decide +kernel
theorem dL_law_275 : decode cL_law 275 = .ok (.iadd, 1) := by decide +kernel
theorem dL_law_276 : decode cL_law 276 = .ok (.iaload, 1) := by decide +kernel
theorem dL_law_277 : decode cL_law 277 = .ok (.aload_n 0, 1) := by decide +kernel
theorem dL_law_278 : decode cL_law 278 = .ok (.iload_n 3, 1) := by decide +kernel
theorem dL_law_279 : decode cL_law 279 = .ok (.iconst 2, 1) := by decide +kernel
theorem dL_law_280 : decode cL_law 280 = .ok (.iadd, 1) := by decide +kernel
theorem dL_law_281 : decode cL_law 281 = .ok (.iaload, 1) := by decide +kernel
theorem dL_law_282 : decode cL_law 282 = .ok (.invokevirtual 36, 3) := by decide +kernel
theorem dL_law_285 : decode cL_law 285 = .ok (.aload_n 2, 1) := by decide +kernel
theorem dL_law_286 : decode cL_law 286 = .ok (.aload_n 0, 1) := by decide +kernel
theorem dL_law_287 : decode cL_law 287 = .ok (.iload_n 3, 1) := by decide +kernel
theorem dL_law_288 : decode cL_law 288 = .ok (.iconst 1, 1) := by decide +kernel
theorem dL_law_289 : decode cL_law 289 = .ok (.iadd, 1) := by decide +kernel
theorem dL_law_290 : decode cL_law 290 = .ok (.iaload, 1) := by decide +kernel
theorem dL_law_291 : decode cL_law 291 = .ok (.aload_n 0, 1) := by decide +kernel
theorem dL_law_292 : decode cL_law 292 = .ok (.iload_n 3, 1) := by decide +kernel
theorem dL_law_293 : decode cL_law 293 = .ok (.iconst 2, 1) := by decide +kernel
theorem dL_law_294 : decode cL_law 294 = .ok (.iadd, 1) := by decide +kernel
theorem dL_law_295 : decode cL_law 295 = .ok (.iaload, 1) := by decide +kernel
theorem dL_law_296 : decode cL_law 296 = .ok (.invokevirtual 39, 3) := by decide +kernel
theorem dL_law_299 : decode cL_law 299 = .ok (.if_icmp .eq 663, 3) := by decide +kernel
theorem dL_law_302 : decode cL_law 302 = .ok (.iconst 0, 1) := by decide +kernel
theorem dL_law_303 : decode cL_law 303 = .ok (.ireturn, 1) := by decide +kernel
theorem dL_law_304 : decode cL_law 304 = .ok (.aload_n 1, 1) := by decide +kernel
theorem dL_law_305 : decode cL_law 305 = .ok (.aload_n 0, 1) := by decide +kernel
theorem dL_law_306 : decode cL_law 306 = .ok (.iload_n 3, 1) := by decide +kernel
theorem dL_law_307 : decode cL_law 307 = .ok (.iconst 1, 1) := by decide +kernel
theorem dL_law_308 : decode cL_law 308 = .ok (.iadd, 1) := by decide +kernel
theorem dL_law_309 : decode cL_law 309 = .ok (.iaload, 1) := by decide +kernel
theorem dL_law_310 : decode cL_law 310 = .ok (.aload_n 0, 1) := by decide +kernel
theorem dL_law_311 : decode cL_law 311 = .ok (.iload_n 3, 1) := by decide +kernel
theorem dL_law_312 : decode cL_law 312 = .ok (.iconst 2, 1) := by decide +kernel
theorem dL_law_313 : decode cL_law 313 = .ok (.iadd, 1) := by decide +kernel
theorem dL_law_314 : decode cL_law 314 = .ok (.iaload, 1) := by decide +kernel
theorem dL_law_315 : decode cL_law 315 = .ok (.aload_n 0, 1) := by decide +kernel
theorem dL_law_316 : decode cL_law 316 = .ok (.iload_n 3, 1) := by decide +kernel
theorem dL_law_317 : decode cL_law 317 = .ok (.iconst 3, 1) := by decide +kernel
theorem dL_law_318 : decode cL_law 318 = .ok (.iadd, 1) := by decide +kernel
theorem dL_law_319 : decode cL_law 319 = .ok (.iaload, 1) := by decide +kernel
theorem dL_law_320 : decode cL_law 320 = .ok (.invokevirtual 40, 3) := by decide +kernel
theorem dL_law_323 : decode cL_law 323 = .ok (.aload_n 2, 1) := by decide +kernel
theorem dL_law_324 : decode cL_law 324 = .ok (.aload_n 0, 1) := by decide +kernel
theorem dL_law_325 : decode cL_law 325 = .ok (.iload_n 3, 1) := by decide +kernel
theorem dL_law_326 : decode cL_law 326 = .ok (.iconst 1, 1) := by decide +kernel
theorem dL_law_327 : decode cL_law 327 = .ok (.iadd, 1) := by decide +kernel
theorem dL_law_328 : decode cL_law 328 = .ok (.iaload, 1) := by decide +kernel
theorem dL_law_329 : decode cL_law 329 = .ok (.aload_n 0, 1) := by decide +kernel
theorem dL_law_330 : decode cL_law 330 = .ok (.iload_n 3, 1) := by decide +kernel
theorem dL_law_331 : decode cL_law 331 = .ok (.iconst 2, 1) := by decide +kernel
theorem dL_law_332 : decode cL_law 332 = .ok (.iadd, 1) := by decide +kernel
theorem dL_law_333 : decode cL_law 333 = .ok (.iaload, 1) := by decide +kernel
theorem dL_law_334 : decode cL_law 334 = .ok (.aload_n 0, 1) := by decide +kernel
theorem dL_law_335 : decode cL_law 335 = .ok (.iload_n 3, 1) := by decide +kernel
theorem dL_law_336 : decode cL_law 336 = .ok (.iconst 3, 1) := by decide +kernel
theorem dL_law_337 : decode cL_law 337 = .ok (.iadd, 1) := by decide +kernel
theorem dL_law_338 : decode cL_law 338 = .ok (.iaload, 1) := by decide +kernel
theorem dL_law_339 : decode cL_law 339 = .ok (.invokevirtual 44, 3) := by decide +kernel
theorem dL_law_342 : decode cL_law 342 = .ok (.if_icmp .eq 620, 3) := by decide +kernel
theorem dL_law_345 : decode cL_law 345 = .ok (.iconst 0, 1) := by decide +kernel
theorem dL_law_346 : decode cL_law 346 = .ok (.ireturn, 1) := by decide +kernel
theorem dL_law_347 : decode cL_law 347 = .ok (.aload_n 1, 1) := by decide +kernel
theorem dL_law_348 : decode cL_law 348 = .ok (.aload_n 0, 1) := by decide +kernel
theorem dL_law_349 : decode cL_law 349 = .ok (.iload_n 3, 1) := by decide +kernel
theorem dL_law_350 : decode cL_law 350 = .ok (.iconst 1, 1) := by decide +kernel
theorem dL_law_351 : decode cL_law 351 = .ok (.iadd, 1) := by decide +kernel
theorem dL_law_352 : decode cL_law 352 = .ok (.iaload, 1) := by decide +kernel
theorem dL_law_353 : decode cL_law 353 = .ok (.aload_n 0, 1) := by decide +kernel
theorem dL_law_354 : decode cL_law 354 = .ok (.iload_n 3, 1) := by decide +kernel
theorem dL_law_355 : decode cL_law 355 = .ok (.iconst 2, 1) := by decide +kernel
theorem dL_law_356 : decode cL_law 356 = .ok (.iadd, 1) := by decide +kernel
theorem dL_law_357 : decode cL_law 357 = .ok (.iaload, 1) := by decide +kernel
theorem dL_law_358 : decode cL_law 358 = .ok (.invokevirtual 45, 3) := by decide +kernel
theorem dL_law_361 : decode cL_law 361 = .ok (.aload_n 2, 1) := by decide +kernel
theorem dL_law_362 : decode cL_law 362 = .ok (.aload_n 0, 1) := by decide +kernel
theorem dL_law_363 : decode cL_law 363 = .ok (.iload_n 3, 1) := by decide +kernel
theorem dL_law_364 : decode cL_law 364 = .ok (.iconst 1, 1) := by decide +kernel
theorem dL_law_365 : decode cL_law 365 = .ok (.iadd, 1) := by decide +kernel
theorem dL_law_366 : decode cL_law 366 = .ok (.iaload, 1) := by decide +kernel
theorem dL_law_367 : decode cL_law 367 = .ok (.aload_n 0, 1) := by decide +kernel
theorem dL_law_368 : decode cL_law 368 = .ok (.iload_n 3, 1) := by decide +kernel
theorem dL_law_369 : decode cL_law 369 = .ok (.iconst 2, 1) := by decide +kernel
theorem dL_law_370 : decode cL_law 370 = .ok (.iadd, 1) := by decide +kernel
theorem dL_law_371 : decode cL_law 371 = .ok (.iaload, 1) := by decide +kernel
theorem dL_law_372 : decode cL_law 372 = .ok (.invokevirtual 48, 3) := by decide +kernel
theorem dL_law_375 : decode cL_law 375 = .ok (.if_icmp .eq 587, 3) := by decide +kernel
theorem dL_law_378 : decode cL_law 378 = .ok (.iconst 0, 1) := by decide +kernel
theorem dL_law_379 : decode cL_law 379 = .ok (.ireturn, 1) := by decide +kernel
theorem dL_law_380 : decode cL_law 380 = .ok (.aload_n 1, 1) := by decide +kernel
theorem dL_law_381 : decode cL_law 381 = .ok (.aload_n 0, 1) := by decide +kernel
theorem dL_law_382 : decode cL_law 382 = .ok (.iload_n 3, 1) := by decide +kernel
theorem dL_law_383 : decode cL_law 383 = .ok (.iconst 1, 1) := by decide +kernel
theorem dL_law_384 : decode cL_law 384 = .ok (.iadd, 1) := by decide +kernel
theorem dL_law_385 : decode cL_law 385 = .ok (.iaload, 1) := by decide +kernel
theorem dL_law_386 : decode cL_law 386 = .ok (.aload_n 0, 1) := by decide +kernel
theorem dL_law_387 : decode cL_law 387 = .ok (.iload_n 3, 1) := by decide +kernel
theorem dL_law_388 : decode cL_law 388 = .ok (.iconst 2, 1) := by decide +kernel
theorem dL_law_389 : decode cL_law 389 = .ok (.iadd, 1) := by decide +kernel
theorem dL_law_390 : decode cL_law 390 = .ok (.iaload, 1) := by decide +kernel
theorem dL_law_391 : decode cL_law 391 = .ok (.invokevirtual 49, 3) := by decide +kernel
theorem dL_law_394 : decode cL_law 394 = .ok (.aload_n 2, 1) := by decide +kernel
theorem dL_law_395 : decode cL_law 395 = .ok (.aload_n 0, 1) := by decide +kernel
theorem dL_law_396 : decode cL_law 396 = .ok (.iload_n 3, 1) := by decide +kernel
theorem dL_law_397 : decode cL_law 397 = .ok (.iconst 1, 1) := by decide +kernel
theorem dL_law_398 : decode cL_law 398 = .ok (.iadd, 1) := by decide +kernel
theorem dL_law_399 : decode cL_law 399 = .ok (.iaload, 1) := by decide +kernel
theorem dL_law_400 : decode cL_law 400 = .ok (.aload_n 0, 1) := by decide +kernel
theorem dL_law_401 : decode cL_law 401 = .ok (.iload_n 3, 1) := by decide +kernel
theorem dL_law_402 : decode cL_law 402 = .ok (.iconst 2, 1) := by decide +kernel
theorem dL_law_403 : decode cL_law 403 = .ok (.iadd, 1) := by decide +kernel
theorem dL_law_404 : decode cL_law 404 = .ok (.iaload, 1) := by decide +kernel
theorem dL_law_405 : decode cL_law 405 = .ok (.invokevirtual 52, 3) := by decide +kernel
theorem dL_law_408 : decode cL_law 408 = .ok (.if_icmp .eq 554, 3) := by decide +kernel
theorem dL_law_411 : decode cL_law 411 = .ok (.iconst 0, 1) := by decide +kernel
theorem dL_law_412 : decode cL_law 412 = .ok (.ireturn, 1) := by decide +kernel
theorem dL_law_413 : decode cL_law 413 = .ok (.aload_n 1, 1) := by decide +kernel
theorem dL_law_414 : decode cL_law 414 = .ok (.aload_n 0, 1) := by decide +kernel
theorem dL_law_415 : decode cL_law 415 = .ok (.iload_n 3, 1) := by decide +kernel
theorem dL_law_416 : decode cL_law 416 = .ok (.iconst 1, 1) := by decide +kernel
theorem dL_law_417 : decode cL_law 417 = .ok (.iadd, 1) := by decide +kernel
theorem dL_law_418 : decode cL_law 418 = .ok (.iaload, 1) := by decide +kernel
theorem dL_law_419 : decode cL_law 419 = .ok (.invokevirtual 53, 3) := by decide +kernel
theorem dL_law_422 : decode cL_law 422 = .ok (.aload_n 2, 1) := by decide +kernel
theorem dL_law_423 : decode cL_law 423 = .ok (.aload_n 0, 1) := by decide +kernel
theorem dL_law_424 : decode cL_law 424 = .ok (.iload_n 3, 1) := by decide +kernel
theorem dL_law_425 : decode cL_law 425 = .ok (.iconst 1, 1) := by decide +kernel
theorem dL_law_426 : decode cL_law 426 = .ok (.iadd, 1) := by decide +kernel
theorem dL_law_427 : decode cL_law 427 = .ok (.iaload, 1) := by decide +kernel
theorem dL_law_428 : decode cL_law 428 = .ok (.invokevirtual 56, 3) := by decide +kernel
theorem dL_law_431 : decode cL_law 431 = .ok (.if_icmp .eq 531, 3) := by decide +kernel
theorem dL_law_434 : decode cL_law 434 = .ok (.iconst 0, 1) := by decide +kernel
theorem dL_law_435 : decode cL_law 435 = .ok (.ireturn, 1) := by decide +kernel
theorem dL_law_436 : decode cL_law 436 = .ok (.aload_n 1, 1) := by decide +kernel
theorem dL_law_437 : decode cL_law 437 = .ok (.aload_n 0, 1) := by decide +kernel
theorem dL_law_438 : decode cL_law 438 = .ok (.iload_n 3, 1) := by decide +kernel
theorem dL_law_439 : decode cL_law 439 = .ok (.iconst 1, 1) := by decide +kernel
theorem dL_law_440 : decode cL_law 440 = .ok (.iadd, 1) := by decide +kernel
theorem dL_law_441 : decode cL_law 441 = .ok (.iaload, 1) := by decide +kernel
theorem dL_law_442 : decode cL_law 442 = .ok (.aload_n 0, 1) := by decide +kernel
theorem dL_law_443 : decode cL_law 443 = .ok (.iload_n 3, 1) := by decide +kernel
theorem dL_law_444 : decode cL_law 444 = .ok (.iconst 2, 1) := by decide +kernel
theorem dL_law_445 : decode cL_law 445 = .ok (.iadd, 1) := by decide +kernel
theorem dL_law_446 : decode cL_law 446 = .ok (.iaload, 1) := by decide +kernel
theorem dL_law_447 : decode cL_law 447 = .ok (.invokevirtual 57, 3) := by decide +kernel
theorem dL_law_450 : decode cL_law 450 = .ok (.aload_n 2, 1) := by decide +kernel
theorem dL_law_451 : decode cL_law 451 = .ok (.aload_n 0, 1) := by decide +kernel
theorem dL_law_452 : decode cL_law 452 = .ok (.iload_n 3, 1) := by decide +kernel
theorem dL_law_453 : decode cL_law 453 = .ok (.iconst 1, 1) := by decide +kernel
theorem dL_law_454 : decode cL_law 454 = .ok (.iadd, 1) := by decide +kernel
theorem dL_law_455 : decode cL_law 455 = .ok (.iaload, 1) := by decide +kernel
theorem dL_law_456 : decode cL_law 456 = .ok (.aload_n 0, 1) := by decide +kernel
theorem dL_law_457 : decode cL_law 457 = .ok (.iload_n 3, 1) := by decide +kernel
theorem dL_law_458 : decode cL_law 458 = .ok (.iconst 2, 1) := by decide +kernel
theorem dL_law_459 : decode cL_law 459 = .ok (.iadd, 1) := by decide +kernel
theorem dL_law_460 : decode cL_law 460 = .ok (.iaload, 1) := by decide +kernel
theorem dL_law_461 : decode cL_law 461 = .ok (.invokevirtual 60, 3) := by decide +kernel
theorem dL_law_464 : decode cL_law 464 = .ok (.if_icmp .eq 498, 3) := by decide +kernel
theorem dL_law_467 : decode cL_law 467 = .ok (.iconst 0, 1) := by decide +kernel
theorem dL_law_468 : decode cL_law 468 = .ok (.ireturn, 1) := by decide +kernel
theorem dL_law_469 : decode cL_law 469 = .ok (.aload_n 1, 1) := by decide +kernel
theorem dL_law_470 : decode cL_law 470 = .ok (.aload_n 0, 1) := by decide +kernel
theorem dL_law_471 : decode cL_law 471 = .ok (.iload_n 3, 1) := by decide +kernel
theorem dL_law_472 : decode cL_law 472 = .ok (.iconst 1, 1) := by decide +kernel
theorem dL_law_473 : decode cL_law 473 = .ok (.iadd, 1) := by decide +kernel
theorem dL_law_474 : decode cL_law 474 = .ok (.iaload, 1) := by decide +kernel
theorem dL_law_475 : decode cL_law 475 = .ok (.aload_n 0, 1) := by decide +kernel
theorem dL_law_476 : decode cL_law 476 = .ok (.iload_n 3, 1) := by decide +kernel
theorem dL_law_477 : decode cL_law 477 = .ok (.iconst 2, 1) := by decide +kernel
theorem dL_law_478 : decode cL_law 478 = .ok (.iadd, 1) := by decide +kernel
theorem dL_law_479 : decode cL_law 479 = .ok (.iaload, 1) := by decide +kernel
theorem dL_law_480 : decode cL_law 480 = .ok (.invokevirtual 61, 3) := by decide +kernel
theorem dL_law_483 : decode cL_law 483 = .ok (.aload_n 2, 1) := by decide +kernel
theorem dL_law_484 : decode cL_law 484 = .ok (.aload_n 0, 1) := by decide +kernel
theorem dL_law_485 : decode cL_law 485 = .ok (.iload_n 3, 1) := by decide +kernel
theorem dL_law_486 : decode cL_law 486 = .ok (.iconst 1, 1) := by decide +kernel
theorem dL_law_487 : decode cL_law 487 = .ok (.iadd, 1) := by decide +kernel
theorem dL_law_488 : decode cL_law 488 = .ok (.iaload, 1) := by decide +kernel
theorem dL_law_489 : decode cL_law 489 = .ok (.aload_n 0, 1) := by decide +kernel
theorem dL_law_490 : decode cL_law 490 = .ok (.iload_n 3, 1) := by decide +kernel
theorem dL_law_491 : decode cL_law 491 = .ok (.iconst 2, 1) := by decide +kernel
theorem dL_law_492 : decode cL_law 492 = .ok (.iadd, 1) := by decide +kernel
theorem dL_law_493 : decode cL_law 493 = .ok (.iaload, 1) := by decide +kernel
theorem dL_law_494 : decode cL_law 494 = .ok (.invokevirtual 64, 3) := by decide +kernel
theorem dL_law_497 : decode cL_law 497 = .ok (.if_icmp .eq 465, 3) := by decide +kernel
theorem dL_law_500 : decode cL_law 500 = .ok (.iconst 0, 1) := by decide +kernel
theorem dL_law_501 : decode cL_law 501 = .ok (.ireturn, 1) := by decide +kernel
theorem dL_law_502 : decode cL_law 502 = .ok (.aload_n 1, 1) := by decide +kernel
theorem dL_law_503 : decode cL_law 503 = .ok (.aload_n 0, 1) := by decide +kernel
theorem dL_law_504 : decode cL_law 504 = .ok (.iload_n 3, 1) := by decide +kernel
theorem dL_law_505 : decode cL_law 505 = .ok (.iconst 1, 1) := by decide +kernel
theorem dL_law_506 : decode cL_law 506 = .ok (.iadd, 1) := by decide +kernel
theorem dL_law_507 : decode cL_law 507 = .ok (.iaload, 1) := by decide +kernel
theorem dL_law_508 : decode cL_law 508 = .ok (.aload_n 0, 1) := by decide +kernel
theorem dL_law_509 : decode cL_law 509 = .ok (.iload_n 3, 1) := by decide +kernel
theorem dL_law_510 : decode cL_law 510 = .ok (.iconst 2, 1) := by decide +kernel
theorem dL_law_511 : decode cL_law 511 = .ok (.iadd, 1) := by decide +kernel
theorem dL_law_512 : decode cL_law 512 = .ok (.iaload, 1) := by decide +kernel
theorem dL_law_513 : decode cL_law 513 = .ok (.invokevirtual 65, 3) := by decide +kernel
theorem dL_law_516 : decode cL_law 516 = .ok (.aload_n 2, 1) := by decide +kernel
theorem dL_law_517 : decode cL_law 517 = .ok (.aload_n 0, 1) := by decide +kernel
theorem dL_law_518 : decode cL_law 518 = .ok (.iload_n 3, 1) := by decide +kernel
theorem dL_law_519 : decode cL_law 519 = .ok (.iconst 1, 1) := by decide +kernel
theorem dL_law_520 : decode cL_law 520 = .ok (.iadd, 1) := by decide +kernel
theorem dL_law_521 : decode cL_law 521 = .ok (.iaload, 1) := by decide +kernel
theorem dL_law_522 : decode cL_law 522 = .ok (.aload_n 0, 1) := by decide +kernel
theorem dL_law_523 : decode cL_law 523 = .ok (.iload_n 3, 1) := by decide +kernel
theorem dL_law_524 : decode cL_law 524 = .ok (.iconst 2, 1) := by decide +kernel
theorem dL_law_525 : decode cL_law 525 = .ok (.iadd, 1) := by decide +kernel
theorem dL_law_526 : decode cL_law 526 = .ok (.iaload, 1) := by decide +kernel
theorem dL_law_527 : decode cL_law 527 = .ok (.invokevirtual 68, 3) := by decide +kernel
theorem dL_law_530 : decode cL_law 530 = .ok (.if_icmp .eq 432, 3) := by decide +kernel
theorem dL_law_533 : decode cL_law 533 = .ok (.iconst 0, 1) := by decide +kernel
theorem dL_law_534 : decode cL_law 534 = .ok (.ireturn, 1) := by decide +kernel
theorem dL_law_535 : decode cL_law 535 = .ok (.aload_n 1, 1) := by decide +kernel
theorem dL_law_536 : decode cL_law 536 = .ok (.invokevirtual 69, 3) := by decide +kernel
theorem dL_law_539 : decode cL_law 539 = .ok (.aload_n 2, 1) := by decide +kernel
theorem dL_law_540 : decode cL_law 540 = .ok (.invokevirtual 72, 3) := by decide +kernel
theorem dL_law_543 : decode cL_law 543 = .ok (.if_icmp .eq 419, 3) := by decide +kernel
theorem dL_law_546 : decode cL_law 546 = .ok (.iconst 0, 1) := by decide +kernel
theorem dL_law_547 : decode cL_law 547 = .ok (.ireturn, 1) := by decide +kernel
theorem dL_law_548 : decode cL_law 548 = .ok (.aload_n 1, 1) := by decide +kernel
theorem dL_law_549 : decode cL_law 549 = .ok (.aload_n 0, 1) := by decide +kernel
theorem dL_law_550 : decode cL_law 550 = .ok (.iload_n 3, 1) := by decide +kernel
theorem dL_law_551 : decode cL_law 551 = .ok (.iconst 1, 1) := by decide +kernel
theorem dL_law_552 : decode cL_law 552 = .ok (.iadd, 1) := by decide +kernel
theorem dL_law_553 : decode cL_law 553 = .ok (.iaload, 1) := by decide +kernel
theorem dL_law_554 : decode cL_law 554 = .ok (.invokevirtual 73, 3) := by decide +kernel
theorem dL_law_557 : decode cL_law 557 = .ok (.aload_n 2, 1) := by decide +kernel
theorem dL_law_558 : decode cL_law 558 = .ok (.aload_n 0, 1) := by decide +kernel
theorem dL_law_559 : decode cL_law 559 = .ok (.iload_n 3, 1) := by decide +kernel
theorem dL_law_560 : decode cL_law 560 = .ok (.iconst 1, 1) := by decide +kernel
theorem dL_law_561 : decode cL_law 561 = .ok (.iadd, 1) := by decide +kernel
theorem dL_law_562 : decode cL_law 562 = .ok (.iaload, 1) := by decide +kernel
theorem dL_law_563 : decode cL_law 563 = .ok (.invokevirtual 76, 3) := by decide +kernel
theorem dL_law_566 : decode cL_law 566 = .ok (.if_icmp .eq 396, 3) := by decide +kernel
theorem dL_law_569 : decode cL_law 569 = .ok (.iconst 0, 1) := by decide +kernel
theorem dL_law_570 : decode cL_law 570 = .ok (.ireturn, 1) := by decide +kernel
theorem dL_law_571 : decode cL_law 571 = .ok (.aload_n 1, 1) := by decide +kernel
theorem dL_law_572 : decode cL_law 572 = .ok (.aload_n 0, 1) := by decide +kernel
theorem dL_law_573 : decode cL_law 573 = .ok (.iload_n 3, 1) := by decide +kernel
theorem dL_law_574 : decode cL_law 574 = .ok (.iconst 1, 1) := by decide +kernel
theorem dL_law_575 : decode cL_law 575 = .ok (.iadd, 1) := by decide +kernel
theorem dL_law_576 : decode cL_law 576 = .ok (.iaload, 1) := by decide +kernel
theorem dL_law_577 : decode cL_law 577 = .ok (.invokevirtual 77, 3) := by decide +kernel
theorem dL_law_580 : decode cL_law 580 = .ok (.aload_n 2, 1) := by decide +kernel
theorem dL_law_581 : decode cL_law 581 = .ok (.aload_n 0, 1) := by decide +kernel
theorem dL_law_582 : decode cL_law 582 = .ok (.iload_n 3, 1) := by decide +kernel
theorem dL_law_583 : decode cL_law 583 = .ok (.iconst 1, 1) := by decide +kernel
theorem dL_law_584 : decode cL_law 584 = .ok (.iadd, 1) := by decide +kernel
theorem dL_law_585 : decode cL_law 585 = .ok (.iaload, 1) := by decide +kernel
theorem dL_law_586 : decode cL_law 586 = .ok (.invokevirtual 80, 3) := by decide +kernel
theorem dL_law_589 : decode cL_law 589 = .ok (.if_icmp .eq 373, 3) := by decide +kernel
theorem dL_law_592 : decode cL_law 592 = .ok (.iconst 0, 1) := by decide +kernel
theorem dL_law_593 : decode cL_law 593 = .ok (.ireturn, 1) := by decide +kernel
theorem dL_law_594 : decode cL_law 594 = .ok (.aload_n 1, 1) := by decide +kernel
theorem dL_law_595 : decode cL_law 595 = .ok (.aload_n 0, 1) := by decide +kernel
theorem dL_law_596 : decode cL_law 596 = .ok (.iload_n 3, 1) := by decide +kernel
theorem dL_law_597 : decode cL_law 597 = .ok (.iconst 1, 1) := by decide +kernel
theorem dL_law_598 : decode cL_law 598 = .ok (.iadd, 1) := by decide +kernel
theorem dL_law_599 : decode cL_law 599 = .ok (.iaload, 1) := by decide +kernel
theorem dL_law_600 : decode cL_law 600 = .ok (.aload_n 0, 1) := by decide +kernel
theorem dL_law_601 : decode cL_law 601 = .ok (.iload_n 3, 1) := by decide +kernel
theorem dL_law_602 : decode cL_law 602 = .ok (.iconst 2, 1) := by decide +kernel
theorem dL_law_603 : decode cL_law 603 = .ok (.iadd, 1) := by decide +kernel
theorem dL_law_604 : decode cL_law 604 = .ok (.iaload, 1) := by decide +kernel
theorem dL_law_605 : decode cL_law 605 = .ok (.invokevirtual 81, 3) := by decide +kernel
theorem dL_law_608 : decode cL_law 608 = .ok (.aload_n 2, 1) := by decide +kernel
theorem dL_law_609 : decode cL_law 609 = .ok (.aload_n 0, 1) := by decide +kernel
theorem dL_law_610 : decode cL_law 610 = .ok (.iload_n 3, 1) := by decide +kernel
theorem dL_law_611 : decode cL_law 611 = .ok (.iconst 1, 1) := by decide +kernel
theorem dL_law_612 : decode cL_law 612 = .ok (.iadd, 1) := by decide +kernel
theorem dL_law_613 : decode cL_law 613 = .ok (.iaload, 1) := by decide +kernel
theorem dL_law_614 : decode cL_law 614 = .ok (.aload_n 0, 1) := by decide +kernel
theorem dL_law_615 : decode cL_law 615 = .ok (.iload_n 3, 1) := by decide +kernel
theorem dL_law_616 : decode cL_law 616 = .ok (.iconst 2, 1) := by decide +kernel
theorem dL_law_617 : decode cL_law 617 = .ok (.iadd, 1) := by decide +kernel
theorem dL_law_618 : decode cL_law 618 = .ok (.iaload, 1) := by decide +kernel
theorem dL_law_619 : decode cL_law 619 = .ok (.invokevirtual 84, 3) := by decide +kernel
theorem dL_law_622 : decode cL_law 622 = .ok (.if_icmp .eq 340, 3) := by decide +kernel
theorem dL_law_625 : decode cL_law 625 = .ok (.iconst 0, 1) := by decide +kernel
theorem dL_law_626 : decode cL_law 626 = .ok (.ireturn, 1) := by decide +kernel
theorem dL_law_627 : decode cL_law 627 = .ok (.aload_n 1, 1) := by decide +kernel
theorem dL_law_628 : decode cL_law 628 = .ok (.invokevirtual 85, 3) := by decide +kernel
theorem dL_law_631 : decode cL_law 631 = .ok (.aload_n 2, 1) := by decide +kernel
theorem dL_law_632 : decode cL_law 632 = .ok (.invokevirtual 88, 3) := by decide +kernel
theorem dL_law_635 : decode cL_law 635 = .ok (.if_icmp .eq 327, 3) := by decide +kernel
theorem dL_law_638 : decode cL_law 638 = .ok (.iconst 0, 1) := by decide +kernel
theorem dL_law_639 : decode cL_law 639 = .ok (.ireturn, 1) := by decide +kernel
theorem dL_law_640 : decode cL_law 640 = .ok (.aload_n 1, 1) := by decide +kernel
theorem dL_law_641 : decode cL_law 641 = .ok (.aload_n 0, 1) := by decide +kernel
theorem dL_law_642 : decode cL_law 642 = .ok (.iload_n 3, 1) := by decide +kernel
theorem dL_law_643 : decode cL_law 643 = .ok (.iconst 1, 1) := by decide +kernel
theorem dL_law_644 : decode cL_law 644 = .ok (.iadd, 1) := by decide +kernel
theorem dL_law_645 : decode cL_law 645 = .ok (.iaload, 1) := by decide +kernel
theorem dL_law_646 : decode cL_law 646 = .ok (.invokevirtual 89, 3) := by decide +kernel
theorem dL_law_649 : decode cL_law 649 = .ok (.aload_n 2, 1) := by decide +kernel
theorem dL_law_650 : decode cL_law 650 = .ok (.aload_n 0, 1) := by decide +kernel
theorem dL_law_651 : decode cL_law 651 = .ok (.iload_n 3, 1) := by decide +kernel
theorem dL_law_652 : decode cL_law 652 = .ok (.iconst 1, 1) := by decide +kernel
theorem dL_law_653 : decode cL_law 653 = .ok (.iadd, 1) := by decide +kernel
theorem dL_law_654 : decode cL_law 654 = .ok (.iaload, 1) := by decide +kernel
theorem dL_law_655 : decode cL_law 655 = .ok (.invokevirtual 92, 3) := by decide +kernel
theorem dL_law_658 : decode cL_law 658 = .ok (.if_icmp .eq 304, 3) := by decide +kernel
theorem dL_law_661 : decode cL_law 661 = .ok (.iconst 0, 1) := by decide +kernel
theorem dL_law_662 : decode cL_law 662 = .ok (.ireturn, 1) := by decide +kernel
theorem dL_law_663 : decode cL_law 663 = .ok (.aload_n 1, 1) := by decide +kernel
theorem dL_law_664 : decode cL_law 664 = .ok (.aload_n 0, 1) := by decide +kernel
theorem dL_law_665 : decode cL_law 665 = .ok (.iload_n 3, 1) := by decide +kernel
theorem dL_law_666 : decode cL_law 666 = .ok (.iconst 1, 1) := by decide +kernel
theorem dL_law_667 : decode cL_law 667 = .ok (.iadd, 1) := by decide +kernel
theorem dL_law_668 : decode cL_law 668 = .ok (.iaload, 1) := by decide +kernel
theorem dL_law_669 : decode cL_law 669 = .ok (.aload_n 0, 1) := by decide +kernel
theorem dL_law_670 : decode cL_law 670 = .ok (.iload_n 3, 1) := by decide +kernel
theorem dL_law_671 : decode cL_law 671 = .ok (.iconst 2, 1) := by decide +kernel
theorem dL_law_672 : decode cL_law 672 = .ok (.iadd, 1) := by decide +kernel
theorem dL_law_673 : decode cL_law 673 = .ok (.iaload, 1) := by decide +kernel
theorem dL_law_674 : decode cL_law 674 = .ok (.invokevirtual 93, 3) := by decide +kernel
theorem dL_law_677 : decode cL_law 677 = .ok (.aload_n 2, 1) := by decide +kernel
theorem dL_law_678 : decode cL_law 678 = .ok (.aload_n 0, 1) := by decide +kernel
theorem dL_law_679 : decode cL_law 679 = .ok (.iload_n 3, 1) := by decide +kernel
theorem dL_law_680 : decode cL_law 680 = .ok (.iconst 1, 1) := by decide +kernel
theorem dL_law_681 : decode cL_law 681 = .ok (.iadd, 1) := by decide +kernel
theorem dL_law_682 : decode cL_law 682 = .ok (.iaload, 1) := by decide +kernel
theorem dL_law_683 : decode cL_law 683 = .ok (.aload_n 0, 1) := by decide +kernel
theorem dL_law_684 : decode cL_law 684 = .ok (.iload_n 3, 1) := by decide +kernel
theorem dL_law_685 : decode cL_law 685 = .ok (.iconst 2, 1) := by decide +kernel
theorem dL_law_686 : decode cL_law 686 = .ok (.iadd, 1) := by decide +kernel
theorem dL_law_687 : decode cL_law 687 = .ok (.iaload, 1) := by decide +kernel
theorem dL_law_688 : decode cL_law 688 = .ok (.invokevirtual 96, 3) := by decide +kernel
theorem dL_law_691 : decode cL_law 691 = .ok (.if_icmp .eq 271, 3) := by decide +kernel
theorem dL_law_694 : decode cL_law 694 = .ok (.iconst 0, 1) := by decide +kernel
theorem dL_law_695 : decode cL_law 695 = .ok (.ireturn, 1) := by decide +kernel
theorem dL_law_696 : decode cL_law 696 = .ok (.aload_n 1, 1) := by decide +kernel
theorem dL_law_697 : decode cL_law 697 = .ok (.invokevirtual 97, 3) := by decide +kernel
theorem dL_law_700 : decode cL_law 700 = .ok (.aload_n 2, 1) := by decide +kernel
theorem dL_law_701 : decode cL_law 701 = .ok (.invokevirtual 100, 3) := by decide +kernel
theorem dL_law_704 : decode cL_law 704 = .ok (.if_icmp .eq 258, 3) := by decide +kernel
theorem dL_law_707 : decode cL_law 707 = .ok (.iconst 0, 1) := by decide +kernel
theorem dL_law_708 : decode cL_law 708 = .ok (.ireturn, 1) := by decide +kernel
theorem dL_law_709 : decode cL_law 709 = .ok (.aload_n 1, 1) := by decide +kernel
theorem dL_law_710 : decode cL_law 710 = .ok (.aload_n 0, 1) := by decide +kernel
theorem dL_law_711 : decode cL_law 711 = .ok (.iload_n 3, 1) := by decide +kernel
theorem dL_law_712 : decode cL_law 712 = .ok (.iconst 1, 1) := by decide +kernel
theorem dL_law_713 : decode cL_law 713 = .ok (.iadd, 1) := by decide +kernel
theorem dL_law_714 : decode cL_law 714 = .ok (.iaload, 1) := by decide +kernel
theorem dL_law_715 : decode cL_law 715 = .ok (.invokevirtual 101, 3) := by decide +kernel
theorem dL_law_718 : decode cL_law 718 = .ok (.aload_n 2, 1) := by decide +kernel
theorem dL_law_719 : decode cL_law 719 = .ok (.aload_n 0, 1) := by decide +kernel
theorem dL_law_720 : decode cL_law 720 = .ok (.iload_n 3, 1) := by decide +kernel
theorem dL_law_721 : decode cL_law 721 = .ok (.iconst 1, 1) := by decide +kernel
theorem dL_law_722 : decode cL_law 722 = .ok (.iadd, 1) := by decide +kernel
theorem dL_law_723 : decode cL_law 723 = .ok (.iaload, 1) := by decide +kernel
theorem dL_law_724 : decode cL_law 724 = .ok (.invokevirtual 104, 3) := by decide +kernel
theorem dL_law_727 : decode cL_law 727 = .ok (.if_icmp .eq 235, 3) := by decide +kernel
theorem dL_law_730 : decode cL_law 730 = .ok (.iconst 0, 1) := by decide +kernel
theorem dL_law_731 : decode cL_law 731 = .ok (.ireturn, 1) := by decide +kernel
theorem dL_law_732 : decode cL_law 732 = .ok (.aload_n 1, 1) := by decide +kernel
theorem dL_law_733 : decode cL_law 733 = .ok (.invokevirtual 105, 3) := by decide +kernel
theorem dL_law_736 : decode cL_law 736 = .ok (.aload_n 2, 1) := by decide +kernel
theorem dL_law_737 : decode cL_law 737 = .ok (.invokevirtual 108, 3) := by decide +kernel
theorem dL_law_740 : decode cL_law 740 = .ok (.if_icmp .eq 222, 3) := by decide +kernel
theorem dL_law_743 : decode cL_law 743 = .ok (.iconst 0, 1) := by decide +kernel
theorem dL_law_744 : decode cL_law 744 = .ok (.ireturn, 1) := by decide +kernel
theorem dL_law_745 : decode cL_law 745 = .ok (.aload_n 1, 1) := by decide +kernel
theorem dL_law_746 : decode cL_law 746 = .ok (.aload_n 0, 1) := by decide +kernel
theorem dL_law_747 : decode cL_law 747 = .ok (.iload_n 3, 1) := by decide +kernel
theorem dL_law_748 : decode cL_law 748 = .ok (.iconst 1, 1) := by decide +kernel
theorem dL_law_749 : decode cL_law 749 = .ok (.iadd, 1) := by decide +kernel
theorem dL_law_750 : decode cL_law 750 = .ok (.iaload, 1) := by decide +kernel
theorem dL_law_751 : decode cL_law 751 = .ok (.aload_n 0, 1) := by decide +kernel
theorem dL_law_752 : decode cL_law 752 = .ok (.iload_n 3, 1) := by decide +kernel
theorem dL_law_753 : decode cL_law 753 = .ok (.iconst 2, 1) := by decide +kernel
theorem dL_law_754 : decode cL_law 754 = .ok (.iadd, 1) := by decide +kernel
theorem dL_law_755 : decode cL_law 755 = .ok (.iaload, 1) := by decide +kernel
theorem dL_law_756 : decode cL_law 756 = .ok (.aload_n 0, 1) := by decide +kernel
theorem dL_law_757 : decode cL_law 757 = .ok (.iload_n 3, 1) := by decide +kernel
theorem dL_law_758 : decode cL_law 758 = .ok (.iconst 3, 1) := by decide +kernel
theorem dL_law_759 : decode cL_law 759 = .ok (.iadd, 1) := by decide +kernel
theorem dL_law_760 : decode cL_law 760 = .ok (.iaload, 1) := by decide +kernel
theorem dL_law_761 : decode cL_law 761 = .ok (.invokevirtual 109, 3) := by decide +kernel
theorem dL_law_764 : decode cL_law 764 = .ok (.aload_n 2, 1) := by decide +kernel
theorem dL_law_765 : decode cL_law 765 = .ok (.aload_n 0, 1) := by decide +kernel
theorem dL_law_766 : decode cL_law 766 = .ok (.iload_n 3, 1) := by decide +kernel
theorem dL_law_767 : decode cL_law 767 = .ok (.iconst 1, 1) := by decide +kernel
theorem dL_law_768 : decode cL_law 768 = .ok (.iadd, 1) := by decide +kernel
theorem dL_law_769 : decode cL_law 769 = .ok (.iaload, 1) := by decide +kernel
theorem dL_law_770 : decode cL_law 770 = .ok (.aload_n 0, 1) := by decide +kernel
theorem dL_law_771 : decode cL_law 771 = .ok (.iload_n 3, 1) := by decide +kernel
theorem dL_law_772 : decode cL_law 772 = .ok (.iconst 2, 1) := by decide +kernel
theorem dL_law_773 : decode cL_law 773 = .ok (.iadd, 1) := by decide +kernel
theorem dL_law_774 : decode cL_law 774 = .ok (.iaload, 1) := by decide +kernel
theorem dL_law_775 : decode cL_law 775 = .ok (.aload_n 0, 1) := by decide +kernel
theorem dL_law_776 : decode cL_law 776 = .ok (.iload_n 3, 1) := by decide +kernel
theorem dL_law_777 : decode cL_law 777 = .ok (.iconst 3, 1) := by decide +kernel
theorem dL_law_778 : decode cL_law 778 = .ok (.iadd, 1) := by decide +kernel
theorem dL_law_779 : decode cL_law 779 = .ok (.iaload, 1) := by decide +kernel
theorem dL_law_780 : decode cL_law 780 = .ok (.invokevirtual 112, 3) := by decide +kernel
theorem dL_law_783 : decode cL_law 783 = .ok (.if_icmp .eq 179, 3) := by decide +kernel
theorem dL_law_786 : decode cL_law 786 = .ok (.iconst 0, 1) := by decide +kernel
theorem dL_law_787 : decode cL_law 787 = .ok (.ireturn, 1) := by decide +kernel
theorem dL_law_788 : decode cL_law 788 = .ok (.aload_n 1, 1) := by decide +kernel
theorem dL_law_789 : decode cL_law 789 = .ok (.invokevirtual 113, 3) := by decide +kernel
theorem dL_law_792 : decode cL_law 792 = .ok (.aload_n 2, 1) := by decide +kernel
theorem dL_law_793 : decode cL_law 793 = .ok (.invokevirtual 116, 3) := by decide +kernel
theorem dL_law_796 : decode cL_law 796 = .ok (.if_icmp .eq 166, 3) := by decide +kernel
theorem dL_law_799 : decode cL_law 799 = .ok (.iconst 0, 1) := by decide +kernel
theorem dL_law_800 : decode cL_law 800 = .ok (.ireturn, 1) := by decide +kernel
theorem dL_law_801 : decode cL_law 801 = .ok (.aload_n 1, 1) := by decide +kernel
theorem dL_law_802 : decode cL_law 802 = .ok (.aload_n 0, 1) := by decide +kernel
theorem dL_law_803 : decode cL_law 803 = .ok (.iload_n 3, 1) := by decide +kernel
theorem dL_law_804 : decode cL_law 804 = .ok (.iconst 1, 1) := by decide +kernel
theorem dL_law_805 : decode cL_law 805 = .ok (.iadd, 1) := by decide +kernel
theorem dL_law_806 : decode cL_law 806 = .ok (.iaload, 1) := by decide +kernel
theorem dL_law_807 : decode cL_law 807 = .ok (.invokevirtual 117, 3) := by decide +kernel
theorem dL_law_810 : decode cL_law 810 = .ok (.aload_n 2, 1) := by decide +kernel
theorem dL_law_811 : decode cL_law 811 = .ok (.aload_n 0, 1) := by decide +kernel
theorem dL_law_812 : decode cL_law 812 = .ok (.iload_n 3, 1) := by decide +kernel
theorem dL_law_813 : decode cL_law 813 = .ok (.iconst 1, 1) := by decide +kernel
theorem dL_law_814 : decode cL_law 814 = .ok (.iadd, 1) := by decide +kernel
theorem dL_law_815 : decode cL_law 815 = .ok (.iaload, 1) := by decide +kernel
theorem dL_law_816 : decode cL_law 816 = .ok (.invokevirtual 120, 3) := by decide +kernel
theorem dL_law_819 : decode cL_law 819 = .ok (.if_icmp .eq 143, 3) := by decide +kernel
theorem dL_law_822 : decode cL_law 822 = .ok (.iconst 0, 1) := by decide +kernel
theorem dL_law_823 : decode cL_law 823 = .ok (.ireturn, 1) := by decide +kernel
theorem dL_law_824 : decode cL_law 824 = .ok (.aload_n 1, 1) := by decide +kernel
theorem dL_law_825 : decode cL_law 825 = .ok (.aload_n 0, 1) := by decide +kernel
theorem dL_law_826 : decode cL_law 826 = .ok (.iload_n 3, 1) := by decide +kernel
theorem dL_law_827 : decode cL_law 827 = .ok (.iconst 1, 1) := by decide +kernel
theorem dL_law_828 : decode cL_law 828 = .ok (.iadd, 1) := by decide +kernel
theorem dL_law_829 : decode cL_law 829 = .ok (.iaload, 1) := by decide +kernel
theorem dL_law_830 : decode cL_law 830 = .ok (.invokevirtual 121, 3) := by decide +kernel
theorem dL_law_833 : decode cL_law 833 = .ok (.aload_n 2, 1) := by decide +kernel
theorem dL_law_834 : decode cL_law 834 = .ok (.aload_n 0, 1) := by decide +kernel
theorem dL_law_835 : decode cL_law 835 = .ok (.iload_n 3, 1) := by decide +kernel
theorem dL_law_836 : decode cL_law 836 = .ok (.iconst 1, 1) := by decide +kernel
theorem dL_law_837 : decode cL_law 837 = .ok (.iadd, 1) := by decide +kernel
theorem dL_law_838 : decode cL_law 838 = .ok (.iaload, 1) := by decide +kernel
theorem dL_law_839 : decode cL_law 839 = .ok (.invokevirtual 124, 3) := by decide +kernel
theorem dL_law_842 : decode cL_law 842 = .ok (.if_icmp .eq 120, 3) := by decide +kernel
theorem dL_law_845 : decode cL_law 845 = .ok (.iconst 0, 1) := by decide +kernel
theorem dL_law_846 : decode cL_law 846 = .ok (.ireturn, 1) := by decide +kernel
theorem dL_law_847 : decode cL_law 847 = .ok (.aload_n 1, 1) := by decide +kernel
theorem dL_law_848 : decode cL_law 848 = .ok (.aload_n 0, 1) := by decide +kernel
theorem dL_law_849 : decode cL_law 849 = .ok (.iload_n 3, 1) := by decide +kernel
theorem dL_law_850 : decode cL_law 850 = .ok (.iconst 1, 1) := by decide +kernel
theorem dL_law_851 : decode cL_law 851 = .ok (.iadd, 1) := by decide +kernel
theorem dL_law_852 : decode cL_law 852 = .ok (.iaload, 1) := by decide +kernel
theorem dL_law_853 : decode cL_law 853 = .ok (.aload_n 0, 1) := by decide +kernel
theorem dL_law_854 : decode cL_law 854 = .ok (.iload_n 3, 1) := by decide +kernel
theorem dL_law_855 : decode cL_law 855 = .ok (.iconst 2, 1) := by decide +kernel
theorem dL_law_856 : decode cL_law 856 = .ok (.iadd, 1) := by decide +kernel
theorem dL_law_857 : decode cL_law 857 = .ok (.iaload, 1) := by decide +kernel
theorem dL_law_858 : decode cL_law 858 = .ok (.invokevirtual 125, 3) := by decide +kernel
theorem dL_law_861 : decode cL_law 861 = .ok (.aload_n 2, 1) := by decide +kernel
theorem dL_law_862 : decode cL_law 862 = .ok (.aload_n 0, 1) := by decide +kernel
theorem dL_law_863 : decode cL_law 863 = .ok (.iload_n 3, 1) := by decide +kernel
theorem dL_law_864 : decode cL_law 864 = .ok (.iconst 1, 1) := by decide +kernel
theorem dL_law_865 : decode cL_law 865 = .ok (.iadd, 1) := by decide +kernel
theorem dL_law_866 : decode cL_law 866 = .ok (.iaload, 1) := by decide +kernel
theorem dL_law_867 : decode cL_law 867 = .ok (.aload_n 0, 1) := by decide +kernel
theorem dL_law_868 : decode cL_law 868 = .ok (.iload_n 3, 1) := by decide +kernel
theorem dL_law_869 : decode cL_law 869 = .ok (.iconst 2, 1) := by decide +kernel
theorem dL_law_870 : decode cL_law 870 = .ok (.iadd, 1) := by decide +kernel
theorem dL_law_871 : decode cL_law 871 = .ok (.iaload, 1) := by decide +kernel
theorem dL_law_872 : decode cL_law 872 = .ok (.invokevirtual 128, 3) := by decide +kernel
theorem dL_law_875 : decode cL_law 875 = .ok (.if_icmp .eq 87, 3) := by decide +kernel
theorem dL_law_878 : decode cL_law 878 = .ok (.iconst 0, 1) := by decide +kernel
theorem dL_law_879 : decode cL_law 879 = .ok (.ireturn, 1) := by decide +kernel
theorem dL_law_880 : decode cL_law 880 = .ok (.aload_n 1, 1) := by decide +kernel
theorem dL_law_881 : decode cL_law 881 = .ok (.aload_n 0, 1) := by decide +kernel
theorem dL_law_882 : decode cL_law 882 = .ok (.iload_n 3, 1) := by decide +kernel
theorem dL_law_883 : decode cL_law 883 = .ok (.iconst 1, 1) := by decide +kernel
theorem dL_law_884 : decode cL_law 884 = .ok (.iadd, 1) := by decide +kernel
theorem dL_law_885 : decode cL_law 885 = .ok (.iaload, 1) := by decide +kernel
theorem dL_law_886 : decode cL_law 886 = .ok (.aload_n 0, 1) := by decide +kernel
theorem dL_law_887 : decode cL_law 887 = .ok (.iload_n 3, 1) := by decide +kernel
theorem dL_law_888 : decode cL_law 888 = .ok (.iconst 2, 1) := by decide +kernel
theorem dL_law_889 : decode cL_law 889 = .ok (.iadd, 1) := by decide +kernel
theorem dL_law_890 : decode cL_law 890 = .ok (.iaload, 1) := by decide +kernel
theorem dL_law_891 : decode cL_law 891 = .ok (.invokevirtual 129, 3) := by decide +kernel
theorem dL_law_894 : decode cL_law 894 = .ok (.aload_n 2, 1) := by decide +kernel
theorem dL_law_895 : decode cL_law 895 = .ok (.aload_n 0, 1) := by decide +kernel
theorem dL_law_896 : decode cL_law 896 = .ok (.iload_n 3, 1) := by decide +kernel
theorem dL_law_897 : decode cL_law 897 = .ok (.iconst 1, 1) := by decide +kernel
theorem dL_law_898 : decode cL_law 898 = .ok (.iadd, 1) := by decide +kernel
theorem dL_law_899 : decode cL_law 899 = .ok (.iaload, 1) := by decide +kernel
theorem dL_law_900 : decode cL_law 900 = .ok (.aload_n 0, 1) := by decide +kernel
theorem dL_law_901 : decode cL_law 901 = .ok (.iload_n 3, 1) := by decide +kernel
theorem dL_law_902 : decode cL_law 902 = .ok (.iconst 2, 1) := by decide +kernel
theorem dL_law_903 : decode cL_law 903 = .ok (.iadd, 1) := by decide +kernel
theorem dL_law_904 : decode cL_law 904 = .ok (.iaload, 1) := by decide +kernel
theorem dL_law_905 : decode cL_law 905 = .ok (.invokevirtual 132, 3) := by decide +kernel
theorem dL_law_908 : decode cL_law 908 = .ok (.if_icmp .eq 54, 3) := by decide +kernel
theorem dL_law_911 : decode cL_law 911 = .ok (.iconst 0, 1) := by decide +kernel
theorem dL_law_912 : decode cL_law 912 = .ok (.ireturn, 1) := by decide +kernel
theorem dL_law_913 : decode cL_law 913 = .ok (.aload_n 1, 1) := by decide +kernel
theorem dL_law_914 : decode cL_law 914 = .ok (.invokevirtual 133, 3) := by decide +kernel
theorem dL_law_917 : decode cL_law 917 = .ok (.aload_n 2, 1) := by decide +kernel
theorem dL_law_918 : decode cL_law 918 = .ok (.invokevirtual 136, 3) := by decide +kernel
theorem dL_law_921 : decode cL_law 921 = .ok (.if_icmp .eq 41, 3) := by decide +kernel
theorem dL_law_924 : decode cL_law 924 = .ok (.iconst 0, 1) := by decide +kernel
theorem dL_law_925 : decode cL_law 925 = .ok (.ireturn, 1) := by decide +kernel
theorem dL_law_926 : decode cL_law 926 = .ok (.aload_n 1, 1) := by decide +kernel
theorem dL_law_927 : decode cL_law 927 = .ok (.invokevirtual 137, 3) := by decide +kernel
theorem dL_law_930 : decode cL_law 930 = .ok (.aload_n 2, 1) := by decide +kernel
theorem dL_law_931 : decode cL_law 931 = .ok (.invokevirtual 140, 3) := by decide +kernel
theorem dL_law_934 : decode cL_law 934 = .ok (.if_icmp .eq 28, 3) := by decide +kernel
theorem dL_law_937 : decode cL_law 937 = .ok (.iconst 0, 1) := by decide +kernel
theorem dL_law_938 : decode cL_law 938 = .ok (.ireturn, 1) := by decide +kernel
theorem dL_law_939 : decode cL_law 939 = .ok (.aload_n 1, 1) := by decide +kernel
theorem dL_law_940 : decode cL_law 940 = .ok (.aload_n 0, 1) := by decide +kernel
theorem dL_law_941 : decode cL_law 941 = .ok (.iload_n 3, 1) := by decide +kernel
theorem dL_law_942 : decode cL_law 942 = .ok (.iconst 1, 1) := by decide +kernel
theorem dL_law_943 : decode cL_law 943 = .ok (.iadd, 1) := by decide +kernel
theorem dL_law_944 : decode cL_law 944 = .ok (.iaload, 1) := by decide +kernel
theorem dL_law_945 : decode cL_law 945 = .ok (.invokevirtual 141, 3) := by decide +kernel
theorem dL_law_948 : decode cL_law 948 = .ok (.aload_n 2, 1) := by decide +kernel
theorem dL_law_949 : decode cL_law 949 = .ok (.aload_n 0, 1) := by decide +kernel
theorem dL_law_950 : decode cL_law 950 = .ok (.iload_n 3, 1) := by decide +kernel
theorem dL_law_951 : decode cL_law 951 = .ok (.iconst 1, 1) := by decide +kernel
theorem dL_law_952 : decode cL_law 952 = .ok (.iadd, 1) := by decide +kernel
theorem dL_law_953 : decode cL_law 953 = .ok (.iaload, 1) := by decide +kernel
theorem dL_law_954 : decode cL_law 954 = .ok (.invokevirtual 144, 3) := by decide +kernel
theorem dL_law_957 : decode cL_law 957 = .ok (.if_icmp .eq 5, 3) := by decide +kernel
theorem dL_law_960 : decode cL_law 960 = .ok (.iconst 0, 1) := by decide +kernel
theorem dL_law_961 : decode cL_law 961 = .ok (.ireturn, 1) := by decide +kernel
theorem dL_law_962 : decode cL_law 962 = .ok (.iinc 3 4, 3) := by decide +kernel
theorem dL_law_965 : decode cL_law 965 = .ok (.goto (-947), 3) := by decide +kernel
theorem dL_law_968 : decode cL_law 968 = .ok (.iconst 1, 1) := by decide +kernel
theorem dL_law_969 : decode cL_law 969 = .ok (.ireturn, 1) := by decide +kernel
end
section
/-! the world as numbers: what each cell holds (M ints, G references, T kinds and lengths); cells are numbered by making, addresses are 'ads' of numbers -/
abbrev Wd : Type := (Nat → Nat → Int32) × (Nat → Nat → Option Nat) × List (Nat × Nat)
def rfB (ci j : Nat) : Bool := match tyOf ci j with
  | .array _ => true
  | .object _ => true
  | _ => false
/-- a value of the numbered world as the machine has it; a retAddr stands for the one thing outside (b) -/
def tv (b : Nat) (ads : Nat → Nat) : Value → Value
  | .ref k => .ref (ads k)
  | .retAddr _ => .ref b
  | v => v
def nxv : Value → Bool
  | .retAddr _ => false
  | _ => true
def fv (ads : Nat → Nat) (w : Wd) (k ci j : Nat) : Value := if rfB ci j then va_rf ((w.2.1 k j).map ads) else .int (w.1 k j)
def ce (cA : ClassId × ClassId × ClassId) (ads : Nat → Nat) (w : Wd) (k : Nat) (t : Nat × Nat) : va_E :=
  if t.1 < 11 then .inr (t.1, (List.range t.2).map (fv ads w k t.1))
  else if t.1 = 20 then .inl (cA.1, t.2, .inl (w.1 k))
  else if t.1 = 21 then .inl (cA.2.1, t.2, .inl (w.1 k))
  else .inl (cA.2.2, t.2, .inr (.inr (.inr (.inr (fun j => (w.2.1 k j).map ads)))))
def wl (cA : ClassId × ClassId × ClassId) (ads : Nat → Nat) (w : Wd) : va_W := w.2.2.mapIdx (fun k t => (ads k, ce cA ads w k t))
theorem wl_get {cA : ClassId × ClassId × ClassId} {ads : Nat → Nat} {w : Wd} {k : Nat} {t : Nat × Nat} (h : w.2.2[k]? = some t) : (wl cA ads w)[k]? = some (ads k, ce cA ads w k t) := by
  unfold wl
  rw [List.getElem?_mapIdx, h]
  rfl
theorem wl_len {cA : ClassId × ClassId × ClassId} {ads : Nat → Nat} {w : Wd} : (wl cA ads w).length = w.2.2.length := by
  unfold wl
  rw [List.length_mapIdx]
theorem wl_get' {cA : ClassId × ClassId × ClassId} {ads : Nat → Nat} {w : Wd} {k : Nat} {q : Nat × va_E} (h : (wl cA ads w)[k]? = some q) : ∃ t, w.2.2[k]? = some t ∧ q = (ads k, ce cA ads w k t) := by
  unfold wl at h
  rw [List.getElem?_mapIdx] at h
  cases hT : w.2.2[k]? with
  | none => rw [hT] at h; cases h
  | some t => rw [hT] at h; cases h; exact ⟨t, rfl, rfl⟩
theorem ce_cong {cA : ClassId × ClassId × ClassId} {ads : Nat → Nat} {w w' : Wd} {k : Nat} {t : Nat × Nat} (hM : w'.1 k = w.1 k) (hG : w'.2.1 k = w.2.1 k) : ce cA ads w' k t = ce cA ads w k t := by
  unfold ce fv
  rw [hM, hG]
theorem wl_set {cA : ClassId × ClassId × ClassId} {ads : Nat → Nat} {w w' : Wd} {c : Nat} {t : Nat × Nat} (hT : w'.2.2 = w.2.2) (ht : w.2.2[c]? = some t) (hM : ∀ k, k ≠ c → w'.1 k = w.1 k) (hG : ∀ k, k ≠ c → w'.2.1 k = w.2.1 k) : wl cA ads w' = (wl cA ads w).set c (ads c, ce cA ads w' c t) := by
  apply List.ext_getElem?
  intro k
  by_cases hk : k = c
  · subst hk
    have hl : k < (wl cA ads w).length := by rw [wl_len]; exact (List.getElem?_eq_some_iff.mp ht).1
    rw [List.getElem?_set_self hl, wl_get (w := w') (by rw [hT]; exact ht)]
  · rw [List.getElem?_set_ne (Ne.symm hk)]
    unfold wl
    rw [List.getElem?_mapIdx, List.getElem?_mapIdx, hT]
    cases hq : w.2.2[k]? with
    | none => rfl
    | some t' =>
      show some (ads k, ce cA ads w' k t') = some (ads k, ce cA ads w k t')
      rw [ce_cong (hM k hk) (hG k hk)]
def wr (M : Nat → Nat → Int32) (c j : Nat) (v : Int32) : Nat → Nat → Int32 := fun k => if k = c then upd (M c) j v else M k
def wrG (G : Nat → Nat → Option Nat) (c j : Nat) (v : Option Nat) : Nat → Nat → Option Nat := fun k i => if k = c ∧ i = j then v else G k i
def wrA (M : Nat → Nat → Int32) (c : Nat) (f : Nat → Int32) : Nat → Nat → Int32 := fun k => if k = c then f else M k
theorem wr_ne {M : Nat → Nat → Int32} {c j k : Nat} {v : Int32} (h : k ≠ c) : wr M c j v k = M k := if_neg h
theorem wr_eq {M : Nat → Nat → Int32} {c j : Nat} {v : Int32} : wr M c j v c = upd (M c) j v := if_pos rfl
theorem wrA_ne {M : Nat → Nat → Int32} {c k : Nat} {f : Nat → Int32} (h : k ≠ c) : wrA M c f k = M k := if_neg h
theorem wrA_eq {M : Nat → Nat → Int32} {c : Nat} {f : Nat → Int32} : wrA M c f c = f := if_pos rfl
def slT (T : List (Nat × Nat)) : Nat := (T.map (·.2)).sum
/-! the words -/
def GW : List Cond := lw_tbl.filter goodWord
theorem GW_in {i : Nat} {w : Cond} (h : lw_tbl[i]? = some w) (g : goodWord w = true) : w ∈ GW := List.mem_filter.mpr ⟨List.mem_of_getElem? h, g⟩
theorem GW_good : GoodIn GW GW := fun w h => ⟨h, good_of_word (List.mem_filter.mp h).2⟩
def NW : List (String × Nat × MethodName × String) := lw_tbl.filterMap (fun w => match w with
  | .methodLinkNest a i x h => some (a, i, x, h)
  | _ => none)
def Ex (s : State) : Prop := (∀ q ∈ NW, va_Nw (.methodLinkNest q.1 q.2.1 q.2.2.1 q.2.2.2) s) ∧ va_Nw (.arrayOver (.array .int)) s
/-- a method: name, code, locals, answer's type, frames and words that it needs -/
abbrev MD : Type := MethodName × ByteArray × Nat × Option FieldType × Nat × Nat
def wsM (md : MD) : List Cond := Cond.code md.1 md.2.1 md.2.2.1 md.2.2.2.1 :: GW
def rmM (md : MD) (mc ms : Nat) : Room := { frames := md.2.2.2.2.1, cells := mc, slots := ms, locals := md.2.2.2.2.2 }
/-- p l e R s m args below meth c; classes' numbers; arrays' classes; what may change; the thing outside; addresses and cells at the start -/
abbrev CX : Type := Program × Launch × Env × Room × State × MethodId × Array Value × List Frame × Method × Code × va_G × (ClassId × ClassId × ClassId) × (Nat → Prop) × Nat × (Nat → Nat) × List (Nat × Nat)
abbrev xR (X : CX) : Room := X.2.2.2.1
abbrev xs (X : CX) : State := X.2.2.2.2.1
abbrev xm (X : CX) : MethodId := X.2.2.2.2.2.1
abbrev xa (X : CX) : Array Value := X.2.2.2.2.2.2.1
abbrev xw (X : CX) : List Frame := X.2.2.2.2.2.2.2.1
abbrev xh (X : CX) : Method := X.2.2.2.2.2.2.2.2.1
abbrev xc (X : CX) : Code := X.2.2.2.2.2.2.2.2.2.1
abbrev xD (X : CX) : va_G := X.2.2.2.2.2.2.2.2.2.2.1
abbrev xC (X : CX) : ClassId × ClassId × ClassId := X.2.2.2.2.2.2.2.2.2.2.2.1
abbrev xA (X : CX) : Nat → Prop := X.2.2.2.2.2.2.2.2.2.2.2.2.1
abbrev xb (X : CX) : Nat := X.2.2.2.2.2.2.2.2.2.2.2.2.2.1
abbrev x0 (X : CX) : Nat → Nat := X.2.2.2.2.2.2.2.2.2.2.2.2.2.2.1
abbrev xT (X : CX) : List (Nat × Nat) := X.2.2.2.2.2.2.2.2.2.2.2.2.2.2.2
abbrev tysA (cA : ClassId × ClassId × ClassId) : List (ClassId × FieldType) := [(cA.1, .int), (cA.2.1, .char), (cA.2.2, .array .int)]
def Ok (X : CX) (md : MD) : Prop := X.1.tables.exec = Jvm.exec ∧ (xc X).code = md.2.1 ∧ (xc X).maxLocals = md.2.2.1 ∧ (xh X).sig.returnType = md.2.2.2.1 ∧ (xs X).vm.findClass md.1.cls = some (xm X).cls ∧ (∀ w ∈ GW, w.before (xa X) (xs X) = true) ∧ (xh X).locks = false ∧ va_K (xD X) vwCl (tysA (xC X)) (xs X) ∧ (∀ q, (xs X).heap.size ≤ q → xA X q) ∧ (xR X).frames = md.2.2.2.2.1 ∧ (xR X).locals = md.2.2.2.2.2 ∧ (xh X).name = md.1.name ∧ Ex (xs X)
def Gwf (w : Wd) : Prop := ∀ k j a, w.2.1 k j = some a → a < w.2.2.length
def Rl (X : CX) (ads : Nat → Nat) (w : Wd) (H : Heap) (locs : List Loc) (cells slots : Nat) : Prop :=
  va_P (xD X) vwCl (wl (xC X) ads w) H ∧ va_D (xA X) (wl (xC X) ads w) ∧ va_S (xA X) (xs X).heap H locs ∧ (∀ k, (k < (xT X).length ∨ w.2.2.length ≤ k) → ads k = x0 X k) ∧ (xT X).length + cells = w.2.2.length ∧ slT (xT X) + slots = slT w.2.2 ∧ Gwf w
abbrev tq (b : Nat) (ads : Nat → Nat) (q : Nat × Value) : Nat × Value := (q.1, tv b ads q.2)
def WW (X : CX) (Q : State → Prop) (pc : Nat) (L : List (Nat × Value)) (S : List Value) (w : Wd) : Prop :=
  ∀ (ads : Nat → Nat) (H : Heap) (locs : List Loc) (ls : Array Slot) (cells slots : Nat), lv_has ls (xc X).maxLocals (L.map (tq (xb X) ads)) → Rl X ads w H locs cells slots →
    W X.1 X.2.1 X.2.2.1 (xR X) (xs X) (xm X) (xa X) (xw X) (xh X) (xc X) H locs cells slots Q (F0 (xm X) pc ls (S.map (tv (xb X) ads)))
theorem tv_cat (b : Nat) (ads : Nat → Nat) (v : Value) : (tv b ads v).category = v.category := by cases v <;> rfl
theorem tq_filter (b : Nat) (ads : Nat → Nat) (f g : Nat → Nat → Bool) (L : List (Nat × Value)) : (L.map (tq b ads)).filter (fun q => f q.1 q.2.category) = (L.filter (fun q => f q.1 q.2.category)).map (tq b ads) := by
  induction L with
  | nil => rfl
  | cons q L ih =>
    simp only [List.map_cons, List.filter_cons, tv_cat, ih]
    split <;> rfl
theorem tq_pick (b : Nat) (ads : Nat → Nat) (L : List (Nat × Value)) (ks : List Nat) : lv_pick (L.map (tq b ads)) ks = (lv_pick L ks).map (tq b ads) := by
  unfold lv_pick
  induction ks with
  | nil => rfl
  | cons k ks ih =>
    rw [List.filterMap_cons, List.filterMap_cons, List.getElem?_map]
    cases L[k]? with
    | none => exact ih
    | some q => exact congrArg (fun z => tq b ads q :: z) ih
section RULES
variable {X : CX} {md : MD} {Q : State → Prop} {pc : Nat} {L L' : List (Nat × Value)} {S : List Value} {w : Wd}
theorem ww_at {ls : Array Slot} {nL b : Nat} {ads : Nat → Nat} (h : lv_has ls nL (L.map (tq b ads))) (j : Nat) {i : Nat} {v : Value} (hj : L[j]? = some (i, v)) : ls[i]? = some (.val (tv b ads v)) :=
  lv_at h j (by rw [List.getElem?_map, hj]; rfl)
theorem ww_loc (ks : List Nat) (h : lv_pick L ks = L') (k : WW X Q pc L' S w) : WW X Q pc L S w := by
  intro ads H locs ls cells slots hl hr
  exact k ads H locs ls cells slots (lv_sub hl ks (by rw [tq_pick, h])) hr
theorem ww_iconst (C : Ok X md) {n : Int} {v : Int32} (d : decode md.2.1 pc = .ok (.iconst n, 1)) (hv : Int32.ofInt n = v) (k : WW X Q (pc + 1) L (.int v :: S) w) : WW X Q pc L S w := by
  intro ads H locs ls cells slots hl hr
  exact lv_iconst C.1 C.2.1 d hv (k ads H locs ls cells slots hl hr)
theorem ww_bipush (C : Ok X md) {n : Int} {v : Int32} (d : decode md.2.1 pc = .ok (.bipush n, 2)) (hv : (Int8.ofInt n).toInt32 = v) (k : WW X Q (pc + 2) L (.int v :: S) w) : WW X Q pc L S w := by
  intro ads H locs ls cells slots hl hr
  exact lv_bipush C.1 C.2.1 d hv (k ads H locs ls cells slots hl hr)
theorem ww_sipush (C : Ok X md) {n : Int} {v : Int32} (d : decode md.2.1 pc = .ok (.sipush n, 3)) (hv : (Int16.ofInt n).toInt32 = v) (k : WW X Q (pc + 3) L (.int v :: S) w) : WW X Q pc L S w := by
  intro ads H locs ls cells slots hl hr
  exact lv_sipush C.1 C.2.1 d hv (k ads H locs ls cells slots hl hr)
theorem ww_lconst (C : Ok X md) {n : Fin 2} {v : Int64} (d : decode md.2.1 pc = .ok (.lconst n, 1)) (hv : Int64.ofNat (n : Nat) = v) (k : WW X Q (pc + 1) L (.long v :: S) w) : WW X Q pc L S w := by
  intro ads H locs ls cells slots hl hr
  exact lv_lconst C.1 C.2.1 d hv (k ads H locs ls cells slots hl hr)
theorem ww_ldc (C : Ok X md) {index : Nat} {v : Int32} (hc : Cond.constant md.1.cls index v ∈ GW) (d : decode md.2.1 pc = .ok (.ldc index, 2)) (k : WW X Q (pc + 2) L (.int v :: S) w) : WW X Q pc L S w := by
  intro ads H locs ls cells slots hl hr
  exact lv_ldc C.1 C.2.1 C.2.2.2.2.1 (C.2.2.2.2.2.1 _ hc) d (k ads H locs ls cells slots hl hr)
theorem ww_ldcw (C : Ok X md) {index : Nat} {v : Int32} (hc : Cond.constant md.1.cls index v ∈ GW) (d : decode md.2.1 pc = .ok (.ldc_w index, 3)) (k : WW X Q (pc + 3) L (.int v :: S) w) : WW X Q pc L S w := by
  intro ads H locs ls cells slots hl hr
  exact lv_ldcw C.1 C.2.1 C.2.2.2.2.1 (C.2.2.2.2.2.1 _ hc) d (k ads H locs ls cells slots hl hr)
theorem ww_ldc2 (C : Ok X md) {index : Nat} {v : Int64} (hc : Cond.constantLong md.1.cls index v ∈ GW) (d : decode md.2.1 pc = .ok (.ldc2_w index, 3)) (k : WW X Q (pc + 3) L (.long v :: S) w) : WW X Q pc L S w := by
  intro ads H locs ls cells slots hl hr
  exact lv_ldc2 C.1 C.2.1 C.2.2.2.2.1 (C.2.2.2.2.2.1 _ hc) d (k ads H locs ls cells slots hl hr)
theorem ww_iload_n (C : Ok X md) {n : Fin 4} {i : Nat} {x : Int32} (d : decode md.2.1 pc = .ok (.iload_n n, 1)) (j : Nat) (hj : L[j]? = some (i, .int x)) (hi : (n : Nat) = i) (k : WW X Q (pc + 1) L (.int x :: S) w) : WW X Q pc L S w := by
  intro ads H locs ls cells slots hl hr
  exact lv_iload_n C.1 C.2.1 d hi (ww_at hl j hj) (k ads H locs ls cells slots hl hr)
theorem ww_iload (C : Ok X md) {i : Nat} {x : Int32} (d : decode md.2.1 pc = .ok (.iload i, 2)) (j : Nat) (hj : L[j]? = some (i, .int x)) (k : WW X Q (pc + 2) L (.int x :: S) w) : WW X Q pc L S w := by
  intro ads H locs ls cells slots hl hr
  exact lv_iload C.1 C.2.1 d (ww_at hl j hj) (k ads H locs ls cells slots hl hr)
theorem ww_lload_n (C : Ok X md) {n : Fin 4} {i : Nat} {x : Int64} (d : decode md.2.1 pc = .ok (.lload_n n, 1)) (j : Nat) (hj : L[j]? = some (i, .long x)) (hi : (n : Nat) = i) (k : WW X Q (pc + 1) L (.long x :: S) w) : WW X Q pc L S w := by
  intro ads H locs ls cells slots hl hr
  exact lv_lload_n C.1 C.2.1 d hi (ww_at hl j hj) (k ads H locs ls cells slots hl hr)
theorem ww_lload (C : Ok X md) {i : Nat} {x : Int64} (d : decode md.2.1 pc = .ok (.lload i, 2)) (j : Nat) (hj : L[j]? = some (i, .long x)) (k : WW X Q (pc + 2) L (.long x :: S) w) : WW X Q pc L S w := by
  intro ads H locs ls cells slots hl hr
  exact lv_lload C.1 C.2.1 d (ww_at hl j hj) (k ads H locs ls cells slots hl hr)
theorem ww_aload_n (C : Ok X md) {n : Fin 4} {i a : Nat} (d : decode md.2.1 pc = .ok (.aload_n n, 1)) (j : Nat) (hj : L[j]? = some (i, .ref a)) (hi : (n : Nat) = i) (k : WW X Q (pc + 1) L (.ref a :: S) w) : WW X Q pc L S w := by
  intro ads H locs ls cells slots hl hr
  exact lv_aload_n C.1 C.2.1 d hi (ww_at hl j hj) (k ads H locs ls cells slots hl hr)
theorem ww_aloadX_n (C : Ok X md) {n : Fin 4} {i a : Nat} (d : decode md.2.1 pc = .ok (.aload_n n, 1)) (j : Nat) (hj : L[j]? = some (i, .retAddr a)) (hi : (n : Nat) = i) (k : WW X Q (pc + 1) L (.retAddr a :: S) w) : WW X Q pc L S w := by
  intro ads H locs ls cells slots hl hr
  exact lv_aload_n C.1 C.2.1 d hi (ww_at hl j hj) (k ads H locs ls cells slots hl hr)
theorem ww_istore_n (C : Ok X md) {n : Fin 4} {i : Nat} {x : Int32} (d : decode md.2.1 pc = .ok (.istore_n n, 1)) (hi : (n : Nat) = i) (hn : i < md.2.2.1) (ks : List Nat) (h : lv_pick ((i, Value.int x) :: L.filter (fun q => !(q.1 == i) && !(q.1 + 1 == i && q.2.category == 2))) ks = L') (k : WW X Q (pc + 1) L' S w) : WW X Q pc L (.int x :: S) w := by
  intro ads H locs ls cells slots hl hr
  refine lv_istore_n (lv' := ((i, Value.int x) :: L.filter (fun q => !(q.1 == i) && !(q.1 + 1 == i && q.2.category == 2))).map (tq (xb X) ads)) C.1 C.2.1 d hi hl (by rw [C.2.2.1]; exact hn) ?_ (fun ls' hl' => ?_)
  · rw [List.map_cons, tq_filter (xb X) ads (fun a c => !(a == i) && !(a + 1 == i && c == 2)) (fun _ _ => true)]; rfl
  · exact k ads H locs ls' cells slots (lv_sub hl' ks (by rw [tq_pick, h])) hr
theorem ww_istore (C : Ok X md) {i : Nat} {x : Int32} (d : decode md.2.1 pc = .ok (.istore i, 2)) (hn : i < md.2.2.1) (ks : List Nat) (h : lv_pick ((i, Value.int x) :: L.filter (fun q => !(q.1 == i) && !(q.1 + 1 == i && q.2.category == 2))) ks = L') (k : WW X Q (pc + 2) L' S w) : WW X Q pc L (.int x :: S) w := by
  intro ads H locs ls cells slots hl hr
  refine lv_istore (lv' := ((i, Value.int x) :: L.filter (fun q => !(q.1 == i) && !(q.1 + 1 == i && q.2.category == 2))).map (tq (xb X) ads)) C.1 C.2.1 d hl (by rw [C.2.2.1]; exact hn) ?_ (fun ls' hl' => ?_)
  · rw [List.map_cons, tq_filter (xb X) ads (fun a c => !(a == i) && !(a + 1 == i && c == 2)) (fun _ _ => true)]; rfl
  · exact k ads H locs ls' cells slots (lv_sub hl' ks (by rw [tq_pick, h])) hr
theorem ww_lstore_n (C : Ok X md) {n : Fin 4} {i : Nat} {x : Int64} (d : decode md.2.1 pc = .ok (.lstore_n n, 1)) (hi : (n : Nat) = i) (hn : i + 1 < md.2.2.1) (ks : List Nat) (h : lv_pick ((i, Value.long x) :: L.filter (fun q => !(q.1 == i) && (!(q.1 == i + 1) && !(q.1 + 1 == i && q.2.category == 2)))) ks = L') (k : WW X Q (pc + 1) L' S w) : WW X Q pc L (.long x :: S) w := by
  intro ads H locs ls cells slots hl hr
  refine lv_lstore_n (lv' := ((i, Value.long x) :: L.filter (fun q => !(q.1 == i) && (!(q.1 == i + 1) && !(q.1 + 1 == i && q.2.category == 2)))).map (tq (xb X) ads)) C.1 C.2.1 d hi hl (by rw [C.2.2.1]; exact hn) ?_ (fun ls' hl' => ?_)
  · rw [List.map_cons, tq_filter (xb X) ads (fun a c => !(a == i) && (!(a == i + 1) && !(a + 1 == i && c == 2))) (fun _ _ => true)]; rfl
  · exact k ads H locs ls' cells slots (lv_sub hl' ks (by rw [tq_pick, h])) hr
theorem ww_lstore (C : Ok X md) {i : Nat} {x : Int64} (d : decode md.2.1 pc = .ok (.lstore i, 2)) (hn : i + 1 < md.2.2.1) (ks : List Nat) (h : lv_pick ((i, Value.long x) :: L.filter (fun q => !(q.1 == i) && (!(q.1 == i + 1) && !(q.1 + 1 == i && q.2.category == 2)))) ks = L') (k : WW X Q (pc + 2) L' S w) : WW X Q pc L (.long x :: S) w := by
  intro ads H locs ls cells slots hl hr
  refine lv_lstore (lv' := ((i, Value.long x) :: L.filter (fun q => !(q.1 == i) && (!(q.1 == i + 1) && !(q.1 + 1 == i && q.2.category == 2)))).map (tq (xb X) ads)) C.1 C.2.1 d hl (by rw [C.2.2.1]; exact hn) ?_ (fun ls' hl' => ?_)
  · rw [List.map_cons, tq_filter (xb X) ads (fun a c => !(a == i) && (!(a == i + 1) && !(a + 1 == i && c == 2))) (fun _ _ => true)]; rfl
  · exact k ads H locs ls' cells slots (lv_sub hl' ks (by rw [tq_pick, h])) hr
theorem ww_astore_n (C : Ok X md) {n : Fin 4} {i a : Nat} (d : decode md.2.1 pc = .ok (.astore_n n, 1)) (hi : (n : Nat) = i) (hn : i < md.2.2.1) (ks : List Nat) (h : lv_pick ((i, Value.ref a) :: L.filter (fun q => !(q.1 == i) && !(q.1 + 1 == i && q.2.category == 2))) ks = L') (k : WW X Q (pc + 1) L' S w) : WW X Q pc L (.ref a :: S) w := by
  intro ads H locs ls cells slots hl hr
  refine lv_astore_n (lv' := ((i, Value.ref a) :: L.filter (fun q => !(q.1 == i) && !(q.1 + 1 == i && q.2.category == 2))).map (tq (xb X) ads)) C.1 C.2.1 d hi hl (by rw [C.2.2.1]; exact hn) ?_ (fun ls' hl' => ?_)
  · rw [List.map_cons, tq_filter (xb X) ads (fun a c => !(a == i) && !(a + 1 == i && c == 2)) (fun _ _ => true)]; rfl
  · exact k ads H locs ls' cells slots (lv_sub hl' ks (by rw [tq_pick, h])) hr
theorem ww_iinc (C : Ok X md) {i : Nat} {n : Int} {x v : Int32} (d : decode md.2.1 pc = .ok (.iinc i n, 3)) (j : Nat) (hj : L[j]? = some (i, .int x)) (hv : x + Int32.ofInt n = v) (hn : i < md.2.2.1) (ks : List Nat) (h : lv_pick ((i, Value.int v) :: L.filter (fun q => !(q.1 == i) && !(q.1 + 1 == i && q.2.category == 2))) ks = L') (k : WW X Q (pc + 3) L' S w) : WW X Q pc L S w := by
  intro ads H locs ls cells slots hl hr
  refine lv_iinc (k := j) (lv' := ((i, Value.int v) :: L.filter (fun q => !(q.1 == i) && !(q.1 + 1 == i && q.2.category == 2))).map (tq (xb X) ads)) C.1 C.2.1 d hl (x := x) (by rw [List.getElem?_map, hj]; rfl) hv (by rw [C.2.2.1]; exact hn) ?_ (fun ls' hl' => ?_)
  · rw [List.map_cons, tq_filter (xb X) ads (fun a c => !(a == i) && !(a + 1 == i && c == 2)) (fun _ _ => true)]; rfl
  · exact k ads H locs ls' cells slots (lv_sub hl' ks (by rw [tq_pick, h])) hr
theorem ww_iadd (C : Ok X md) {x y : Int32} (d : decode md.2.1 pc = .ok (.iadd, 1))  (k : WW X Q (pc + 1) L (.int (x + y) :: S) w) : WW X Q pc L (.int y :: .int x :: S) w := by
  intro ads H locs ls cells slots hl hr
  exact lv_iadd C.1 C.2.1 d  (k ads H locs ls cells slots hl hr)
theorem ww_isub (C : Ok X md) {x y : Int32} (d : decode md.2.1 pc = .ok (.isub, 1))  (k : WW X Q (pc + 1) L (.int (x - y) :: S) w) : WW X Q pc L (.int y :: .int x :: S) w := by
  intro ads H locs ls cells slots hl hr
  exact lv_isub C.1 C.2.1 d  (k ads H locs ls cells slots hl hr)
theorem ww_imul (C : Ok X md) {x y : Int32} (d : decode md.2.1 pc = .ok (.imul, 1))  (k : WW X Q (pc + 1) L (.int (x * y) :: S) w) : WW X Q pc L (.int y :: .int x :: S) w := by
  intro ads H locs ls cells slots hl hr
  exact lv_imul C.1 C.2.1 d  (k ads H locs ls cells slots hl hr)
theorem ww_iand (C : Ok X md) {x y : Int32} (d : decode md.2.1 pc = .ok (.iand, 1))  (k : WW X Q (pc + 1) L (.int (x &&& y) :: S) w) : WW X Q pc L (.int y :: .int x :: S) w := by
  intro ads H locs ls cells slots hl hr
  exact lv_iand C.1 C.2.1 d  (k ads H locs ls cells slots hl hr)
theorem ww_ior (C : Ok X md) {x y : Int32} (d : decode md.2.1 pc = .ok (.ior, 1))  (k : WW X Q (pc + 1) L (.int (x ||| y) :: S) w) : WW X Q pc L (.int y :: .int x :: S) w := by
  intro ads H locs ls cells slots hl hr
  exact lv_ior C.1 C.2.1 d  (k ads H locs ls cells slots hl hr)
theorem ww_ixor (C : Ok X md) {x y : Int32} (d : decode md.2.1 pc = .ok (.ixor, 1))  (k : WW X Q (pc + 1) L (.int (x ^^^ y) :: S) w) : WW X Q pc L (.int y :: .int x :: S) w := by
  intro ads H locs ls cells slots hl hr
  exact lv_ixor C.1 C.2.1 d  (k ads H locs ls cells slots hl hr)
theorem ww_ishl (C : Ok X md) {x y : Int32} (d : decode md.2.1 pc = .ok (.ishl, 1))  (k : WW X Q (pc + 1) L (.int (x <<< (y &&& 31)) :: S) w) : WW X Q pc L (.int y :: .int x :: S) w := by
  intro ads H locs ls cells slots hl hr
  exact lv_ishl C.1 C.2.1 d  (k ads H locs ls cells slots hl hr)
theorem ww_ishr (C : Ok X md) {x y : Int32} (d : decode md.2.1 pc = .ok (.ishr, 1))  (k : WW X Q (pc + 1) L (.int (x >>> (y &&& 31)) :: S) w) : WW X Q pc L (.int y :: .int x :: S) w := by
  intro ads H locs ls cells slots hl hr
  exact lv_ishr C.1 C.2.1 d  (k ads H locs ls cells slots hl hr)
theorem ww_idiv (C : Ok X md) {x y : Int32} (d : decode md.2.1 pc = .ok (.idiv, 1)) (hne : ¬ y = 0) (k : WW X Q (pc + 1) L (.int (x / y) :: S) w) : WW X Q pc L (.int y :: .int x :: S) w := by
  intro ads H locs ls cells slots hl hr
  exact lv_idiv C.1 C.2.1 d hne (k ads H locs ls cells slots hl hr)
theorem ww_irem (C : Ok X md) {x y : Int32} (d : decode md.2.1 pc = .ok (.irem, 1)) (hne : ¬ y = 0) (k : WW X Q (pc + 1) L (.int (x - x / y * y) :: S) w) : WW X Q pc L (.int y :: .int x :: S) w := by
  intro ads H locs ls cells slots hl hr
  exact lv_irem C.1 C.2.1 d hne (k ads H locs ls cells slots hl hr)
theorem ww_ineg (C : Ok X md) {x : Int32} (d : decode md.2.1 pc = .ok (.ineg, 1))  (k : WW X Q (pc + 1) L (.int (-x) :: S) w) : WW X Q pc L (.int x :: S) w := by
  intro ads H locs ls cells slots hl hr
  exact lv_ineg C.1 C.2.1 d  (k ads H locs ls cells slots hl hr)
theorem ww_ladd (C : Ok X md) {x y : Int64} (d : decode md.2.1 pc = .ok (.ladd, 1))  (k : WW X Q (pc + 1) L (.long (x + y) :: S) w) : WW X Q pc L (.long y :: .long x :: S) w := by
  intro ads H locs ls cells slots hl hr
  exact lv_ladd C.1 C.2.1 d  (k ads H locs ls cells slots hl hr)
theorem ww_lsub (C : Ok X md) {x y : Int64} (d : decode md.2.1 pc = .ok (.lsub, 1))  (k : WW X Q (pc + 1) L (.long (x - y) :: S) w) : WW X Q pc L (.long y :: .long x :: S) w := by
  intro ads H locs ls cells slots hl hr
  exact lv_lsub C.1 C.2.1 d  (k ads H locs ls cells slots hl hr)
theorem ww_lmul (C : Ok X md) {x y : Int64} (d : decode md.2.1 pc = .ok (.lmul, 1))  (k : WW X Q (pc + 1) L (.long (x * y) :: S) w) : WW X Q pc L (.long y :: .long x :: S) w := by
  intro ads H locs ls cells slots hl hr
  exact lv_lmul C.1 C.2.1 d  (k ads H locs ls cells slots hl hr)
theorem ww_lrem (C : Ok X md) {x y : Int64} (d : decode md.2.1 pc = .ok (.lrem, 1)) (hne : ¬ y = 0) (k : WW X Q (pc + 1) L (.long (x - x / y * y) :: S) w) : WW X Q pc L (.long y :: .long x :: S) w := by
  intro ads H locs ls cells slots hl hr
  exact lv_lrem C.1 C.2.1 d hne (k ads H locs ls cells slots hl hr)
theorem ww_i2l (C : Ok X md) {x : Int32} {v : Int64} (d : decode md.2.1 pc = .ok (.i2l, 1)) (hv : x.toInt64 = v) (k : WW X Q (pc + 1) L (.long v :: S) w) : WW X Q pc L (.int x :: S) w := by
  intro ads H locs ls cells slots hl hr
  exact lv_i2l C.1 C.2.1 d hv (k ads H locs ls cells slots hl hr)
theorem ww_l2i (C : Ok X md) {x : Int64} {v : Int32} (d : decode md.2.1 pc = .ok (.l2i, 1)) (hv : x.toInt32 = v) (k : WW X Q (pc + 1) L (.int v :: S) w) : WW X Q pc L (.long x :: S) w := by
  intro ads H locs ls cells slots hl hr
  exact lv_l2i C.1 C.2.1 d hv (k ads H locs ls cells slots hl hr)
theorem ww_i2c (C : Ok X md) {x v : Int32} (d : decode md.2.1 pc = .ok (.i2c, 1)) (hv : (x.toUInt32 % 65536).toInt32 = v) (k : WW X Q (pc + 1) L (.int v :: S) w) : WW X Q pc L (.int x :: S) w := by
  intro ads H locs ls cells slots hl hr
  exact lv_i2c C.1 C.2.1 d hv (k ads H locs ls cells slots hl hr)
theorem ww_iushr (C : Ok X md) {x y v : Int32} (d : decode md.2.1 pc = .ok (.iushr, 1)) (hv : (x.toUInt32 >>> (y.toUInt32 &&& Int32.toUInt32 31)).toInt32 = v) (k : WW X Q (pc + 1) L (.int v :: S) w) : WW X Q pc L (.int y :: .int x :: S) w := by
  intro ads H locs ls cells slots hl hr
  exact lv_iushr C.1 C.2.1 d hv (k ads H locs ls cells slots hl hr)
theorem ww_lcmp (C : Ok X md) {x y : Int64} (d : decode md.2.1 pc = .ok (.lcmp, 1)) (k : WW X Q (pc + 1) L (.int (lg_cmp x y) :: S) w) : WW X Q pc L (.long y :: .long x :: S) w := by
  intro ads H locs ls cells slots hl hr
  exact W.lcmp C.1 C.2.1 d (k ads H locs ls cells slots hl hr)
theorem ww_dup (C : Ok X md) {v : Value} (d : decode md.2.1 pc = .ok (.dup, 1)) (hv : v.category = 1) (k : WW X Q (pc + 1) L (v :: v :: S) w) : WW X Q pc L (v :: S) w := by
  intro ads H locs ls cells slots hl hr
  exact lv_dup C.1 C.2.1 d (by rw [tv_cat]; exact hv) (k ads H locs ls cells slots hl hr)
theorem ww_pop (C : Ok X md) {v : Value} (d : decode md.2.1 pc = .ok (.pop, 1)) (hv : v.category = 1) (k : WW X Q (pc + 1) L S w) : WW X Q pc L (v :: S) w := by
  intro ads H locs ls cells slots hl hr
  exact lv_pop C.1 C.2.1 d (by rw [tv_cat]; exact hv) (k ads H locs ls cells slots hl hr)
theorem ww_dup2 (C : Ok X md) {u v : Value} (d : decode md.2.1 pc = .ok (.dup2, 1)) (hu : u.category = 1) (hv : v.category = 1) (k : WW X Q (pc + 1) L (u :: v :: u :: v :: S) w) : WW X Q pc L (u :: v :: S) w := by
  intro ads H locs ls cells slots hl hr
  exact lv_dup2_11 C.1 C.2.1 d (by rw [tv_cat]; exact hu) (by rw [tv_cat]; exact hv) (k ads H locs ls cells slots hl hr)
theorem ww_goto (C : Ok X md) {off : Int} {tgt : Nat} (d : decode md.2.1 pc = .ok (.goto off, 3)) (ht : (pc : Int) + off = (tgt : Int)) (k : WW X Q tgt L S w) : WW X Q pc L S w := by
  intro ads H locs ls cells slots hl hr
  exact lv_goto C.1 C.2.1 d ht (k ads H locs ls cells slots hl hr)
theorem ww_if_eq (C : Ok X md) {x : Int32} {off : Int} {tgt : Nat} (d : decode md.2.1 pc = .ok (.ifCond .eq off, 3)) (ht : (pc : Int) + off = (tgt : Int)) (kt : x = 0 → WW X Q tgt L S w) (kf : ¬ x = 0 → WW X Q (pc + 3) L S w) : WW X Q pc L (.int x :: S) w := by
  intro ads H locs ls cells slots hl hr
  exact lv_if_eq C.1 C.2.1 d ht (fun h => kt h ads H locs ls cells slots hl hr) (fun h => kf h ads H locs ls cells slots hl hr)
theorem ww_icmp_eq (C : Ok X md) {x y : Int32} {off : Int} {tgt : Nat} (d : decode md.2.1 pc = .ok (.if_icmp .eq off, 3)) (ht : (pc : Int) + off = (tgt : Int)) (kt : x = y → WW X Q tgt L S w) (kf : ¬ x = y → WW X Q (pc + 3) L S w) : WW X Q pc L (.int y :: .int x :: S) w := by
  intro ads H locs ls cells slots hl hr
  exact lv_icmp_eq C.1 C.2.1 d ht (fun h => kt h ads H locs ls cells slots hl hr) (fun h => kf h ads H locs ls cells slots hl hr)
theorem ww_if_ne (C : Ok X md) {x : Int32} {off : Int} {tgt : Nat} (d : decode md.2.1 pc = .ok (.ifCond .ne off, 3)) (ht : (pc : Int) + off = (tgt : Int)) (kt : ¬ x = 0 → WW X Q tgt L S w) (kf : x = 0 → WW X Q (pc + 3) L S w) : WW X Q pc L (.int x :: S) w := by
  intro ads H locs ls cells slots hl hr
  exact lv_if_ne C.1 C.2.1 d ht (fun h => kt h ads H locs ls cells slots hl hr) (fun h => kf h ads H locs ls cells slots hl hr)
theorem ww_icmp_ne (C : Ok X md) {x y : Int32} {off : Int} {tgt : Nat} (d : decode md.2.1 pc = .ok (.if_icmp .ne off, 3)) (ht : (pc : Int) + off = (tgt : Int)) (kt : ¬ x = y → WW X Q tgt L S w) (kf : x = y → WW X Q (pc + 3) L S w) : WW X Q pc L (.int y :: .int x :: S) w := by
  intro ads H locs ls cells slots hl hr
  exact lv_icmp_ne C.1 C.2.1 d ht (fun h => kt h ads H locs ls cells slots hl hr) (fun h => kf h ads H locs ls cells slots hl hr)
theorem ww_if_lt (C : Ok X md) {x : Int32} {off : Int} {tgt : Nat} (d : decode md.2.1 pc = .ok (.ifCond .lt off, 3)) (ht : (pc : Int) + off = (tgt : Int)) (kt : x < 0 → WW X Q tgt L S w) (kf : ¬ x < 0 → WW X Q (pc + 3) L S w) : WW X Q pc L (.int x :: S) w := by
  intro ads H locs ls cells slots hl hr
  exact lv_if_lt C.1 C.2.1 d ht (fun h => kt h ads H locs ls cells slots hl hr) (fun h => kf h ads H locs ls cells slots hl hr)
theorem ww_icmp_lt (C : Ok X md) {x y : Int32} {off : Int} {tgt : Nat} (d : decode md.2.1 pc = .ok (.if_icmp .lt off, 3)) (ht : (pc : Int) + off = (tgt : Int)) (kt : x < y → WW X Q tgt L S w) (kf : ¬ x < y → WW X Q (pc + 3) L S w) : WW X Q pc L (.int y :: .int x :: S) w := by
  intro ads H locs ls cells slots hl hr
  exact lv_icmp_lt C.1 C.2.1 d ht (fun h => kt h ads H locs ls cells slots hl hr) (fun h => kf h ads H locs ls cells slots hl hr)
theorem ww_if_ge (C : Ok X md) {x : Int32} {off : Int} {tgt : Nat} (d : decode md.2.1 pc = .ok (.ifCond .ge off, 3)) (ht : (pc : Int) + off = (tgt : Int)) (kt : 0 ≤ x → WW X Q tgt L S w) (kf : ¬ 0 ≤ x → WW X Q (pc + 3) L S w) : WW X Q pc L (.int x :: S) w := by
  intro ads H locs ls cells slots hl hr
  exact lv_if_ge C.1 C.2.1 d ht (fun h => kt h ads H locs ls cells slots hl hr) (fun h => kf h ads H locs ls cells slots hl hr)
theorem ww_icmp_ge (C : Ok X md) {x y : Int32} {off : Int} {tgt : Nat} (d : decode md.2.1 pc = .ok (.if_icmp .ge off, 3)) (ht : (pc : Int) + off = (tgt : Int)) (kt : y ≤ x → WW X Q tgt L S w) (kf : ¬ y ≤ x → WW X Q (pc + 3) L S w) : WW X Q pc L (.int y :: .int x :: S) w := by
  intro ads H locs ls cells slots hl hr
  exact lv_icmp_ge C.1 C.2.1 d ht (fun h => kt h ads H locs ls cells slots hl hr) (fun h => kf h ads H locs ls cells slots hl hr)
theorem ww_if_gt (C : Ok X md) {x : Int32} {off : Int} {tgt : Nat} (d : decode md.2.1 pc = .ok (.ifCond .gt off, 3)) (ht : (pc : Int) + off = (tgt : Int)) (kt : 0 < x → WW X Q tgt L S w) (kf : ¬ 0 < x → WW X Q (pc + 3) L S w) : WW X Q pc L (.int x :: S) w := by
  intro ads H locs ls cells slots hl hr
  exact lv_if_gt C.1 C.2.1 d ht (fun h => kt h ads H locs ls cells slots hl hr) (fun h => kf h ads H locs ls cells slots hl hr)
theorem ww_icmp_gt (C : Ok X md) {x y : Int32} {off : Int} {tgt : Nat} (d : decode md.2.1 pc = .ok (.if_icmp .gt off, 3)) (ht : (pc : Int) + off = (tgt : Int)) (kt : y < x → WW X Q tgt L S w) (kf : ¬ y < x → WW X Q (pc + 3) L S w) : WW X Q pc L (.int y :: .int x :: S) w := by
  intro ads H locs ls cells slots hl hr
  exact lv_icmp_gt C.1 C.2.1 d ht (fun h => kt h ads H locs ls cells slots hl hr) (fun h => kf h ads H locs ls cells slots hl hr)
theorem ww_if_le (C : Ok X md) {x : Int32} {off : Int} {tgt : Nat} (d : decode md.2.1 pc = .ok (.ifCond .le off, 3)) (ht : (pc : Int) + off = (tgt : Int)) (kt : x ≤ 0 → WW X Q tgt L S w) (kf : ¬ x ≤ 0 → WW X Q (pc + 3) L S w) : WW X Q pc L (.int x :: S) w := by
  intro ads H locs ls cells slots hl hr
  exact lv_if_le C.1 C.2.1 d ht (fun h => kt h ads H locs ls cells slots hl hr) (fun h => kf h ads H locs ls cells slots hl hr)
theorem ww_icmp_le (C : Ok X md) {x y : Int32} {off : Int} {tgt : Nat} (d : decode md.2.1 pc = .ok (.if_icmp .le off, 3)) (ht : (pc : Int) + off = (tgt : Int)) (kt : x ≤ y → WW X Q tgt L S w) (kf : ¬ x ≤ y → WW X Q (pc + 3) L S w) : WW X Q pc L (.int y :: .int x :: S) w := by
  intro ads H locs ls cells slots hl hr
  exact lv_icmp_le C.1 C.2.1 d ht (fun h => kt h ads H locs ls cells slots hl hr) (fun h => kf h ads H locs ls cells slots hl hr)
theorem ww_tableOut (C : Ok X md) {dflt lo hi : Int} {offs : Array Int} {len : Nat} {x : Int32} {tgt : Nat} (d : decode md.2.1 pc = .ok (.tableswitch dflt lo hi offs, len)) (h : x.toInt < lo ∨ hi < x.toInt) (ht : (pc : Int) + dflt = (tgt : Int)) (k : WW X Q tgt L S w) : WW X Q pc L (.int x :: S) w := by
  intro ads H locs ls cells slots hl hr
  exact lv_tableOut C.1 C.2.1 d h ht (k ads H locs ls cells slots hl hr)
theorem ww_tableIn (C : Ok X md) {dflt lo hi : Int} {offs : Array Int} {len : Nat} {x : Int32} {off : Int} {tgt : Nat} (d : decode md.2.1 pc = .ok (.tableswitch dflt lo hi offs, len)) (h1 : ¬ x.toInt < lo) (h2 : ¬ hi < x.toInt) (ho : offs[(x.toInt - lo).toNat]? = some off) (ht : (pc : Int) + off = (tgt : Int)) (k : WW X Q tgt L S w) : WW X Q pc L (.int x :: S) w := by
  intro ads H locs ls cells slots hl hr
  exact lv_tableIn C.1 C.2.1 d h1 h2 ho ht (k ads H locs ls cells slots hl hr)
theorem ww_lookup (C : Ok X md) {dflt : Int} {ps : Array (Int × Int)} {len : Nat} {x : Int32} {off : Int} {tgt : Nat} (d : decode md.2.1 pc = .ok (.lookupswitch dflt ps, len)) (hp : (ps.toList.zip (ps.toList.drop 1)).all (fun (a, next) => a.1 < next.1) = true) (ho : Op.lookupswitch.offset ps.toList dflt x.toInt = off) (ht : (pc : Int) + off = (tgt : Int)) (k : WW X Q tgt L S w) : WW X Q pc L (.int x :: S) w := by
  intro ads H locs ls cells slots hl hr
  exact lv_lookup C.1 C.2.1 d hp ho ht (k ads H locs ls cells slots hl hr)
end RULES
end
section
/-! fields, arrays, new cells, calls, answers -/
def FL (own : String) (idx ci N j : Nat) (fin : Bool) (ty : FieldType) : Prop := ∃ (C : String) (T : u_T), ci < 11 ∧ vwCl[ci]? = some (C, T, N) ∧ j < N ∧ (∀ w ∈ u_ws C T N, w ∈ GW) ∧ Cond.fieldLink own idx (T j).1 (T j).2.1 (T j).2.2.1 ∈ GW ∧ (∀ k, k < N → parseFieldDescriptor (T k).2.2.1 = some (tyOf ci k)) ∧ (∀ a, a < N → ∀ b, b < N → a ≠ b → (T a).2.1 ≠ (T b).2.1) ∧ (T j).2.2.2 = fin ∧ tyOf ci j = ty
theorem ce_obj {cA : ClassId × ClassId × ClassId} {ads : Nat → Nat} {w : Wd} {k ci N : Nat} (h : ci < 11) : ce cA ads w k (ci, N) = .inr (ci, (List.range N).map (fv ads w k ci)) := if_pos h
theorem ce_ints {cA : ClassId × ClassId × ClassId} {ads : Nat → Nat} {w : Wd} {k n : Nat} : ce cA ads w k (20, n) = .inl (cA.1, n, .inl (w.1 k)) := rfl
theorem ce_chars {cA : ClassId × ClassId × ClassId} {ads : Nat → Nat} {w : Wd} {k n : Nat} : ce cA ads w k (21, n) = .inl (cA.2.1, n, .inl (w.1 k)) := rfl
theorem ce_rows {cA : ClassId × ClassId × ClassId} {ads : Nat → Nat} {w : Wd} {k n : Nat} : ce cA ads w k (22, n) = .inl (cA.2.2, n, .inr (.inr (.inr (.inr (fun j => (w.2.1 k j).map ads))))) := rfl
theorem range_at {α : Type} {f : Nat → α} {N j : Nat} (h : j < N) : ((List.range N).map f)[j]? = some (f j) := by
  rw [List.getElem?_map, List.getElem?_range h]
  rfl
theorem range_set {α : Type} {f g : Nat → α} {N j : Nat} {v : α} (hj : g j = v) (ho : ∀ k, k ≠ j → g k = f k) : ((List.range N).map f).set j v = (List.range N).map g := by
  apply List.ext_getElem?
  intro k
  by_cases hk : k = j
  · subst hk
    by_cases hl : k < N
    · rw [List.getElem?_set_self (by simpa using hl), range_at hl, hj]
    · rw [List.getElem?_eq_none (by simpa using hl), List.getElem?_eq_none (by simpa using hl)]
  · rw [List.getElem?_set_ne (Ne.symm hk)]
    by_cases hl : k < N
    · rw [range_at hl, range_at hl, ho k hk]
    · rw [List.getElem?_eq_none (by simpa using hl), List.getElem?_eq_none (by simpa using hl)]
section HEAP
variable {X : CX} {md : MD} {Q : State → Prop} {pc : Nat} {L L' : List (Nat × Value)} {S : List Value} {w : Wd}
theorem Ok.hts (C : Ok X md) : ∀ w ∈ GW, w.before (xa X) (xs X) = true := C.2.2.2.2.2.1
theorem Ok.K (C : Ok X md) : va_K (xD X) vwCl (tysA (xC X)) (xs X) := C.2.2.2.2.2.2.2.1
theorem Ok.hA (C : Ok X md) : ∀ q, (xs X).heap.size ≤ q → xA X q := C.2.2.2.2.2.2.2.2.1
theorem Ok.own (C : Ok X md) : (xs X).vm.findClass md.1.cls = some (xm X).cls := C.2.2.2.2.1
theorem Ok.fr (C : Ok X md) : (xR X).frames = md.2.2.2.2.1 := C.2.2.2.2.2.2.2.2.2.1
theorem Ok.lo (C : Ok X md) : (xR X).locals = md.2.2.2.2.2 := C.2.2.2.2.2.2.2.2.2.2.1
theorem Ok.nm (C : Ok X md) : (xh X).name = md.1.name := C.2.2.2.2.2.2.2.2.2.2.2.1
theorem Ok.ex (C : Ok X md) : Ex (xs X) := C.2.2.2.2.2.2.2.2.2.2.2.2
theorem ww_getI (C : Ok X md) {idx ci N j a : Nat} {fin : Bool} {ty : FieldType} (d : decode md.2.1 pc = .ok (.getfield idx, 3)) (f : FL md.1.cls idx ci N j fin ty) (hT : w.2.2[a]? = some (ci, N)) (hr : rfB ci j = false) (k : WW X Q (pc + 3) L (.int (w.1 a j) :: S) w) : WW X Q pc L (.ref a :: S) w := by
  obtain ⟨Cn, T, h11, hc, hj, hin, hlk, hty, hnm, hf, hy⟩ := f
  intro ads H locs ls cells slots hl hR
  have he := wl_get (cA := xC X) (ads := ads) hT
  rw [ce_obj h11] at he
  refine va_get (D := xD X) (cl := vwCl) C.1 C.2.1 C.hts hin C.own C.K hR.1 a he hc j hj (C.hts _ hlk) (fun _ h => h) (v := .int (w.1 a j)) ?_ d (k ads H locs ls cells slots hl hR)
  rw [range_at hj]
  unfold fv
  rw [hr]
  rfl
theorem ww_getR (C : Ok X md) {idx ci N j a r : Nat} {fin : Bool} {ty : FieldType} (d : decode md.2.1 pc = .ok (.getfield idx, 3)) (f : FL md.1.cls idx ci N j fin ty) (hT : w.2.2[a]? = some (ci, N)) (hr : rfB ci j = true) (hg : w.2.1 a j = some r) (k : WW X Q (pc + 3) L (.ref r :: S) w) : WW X Q pc L (.ref a :: S) w := by
  obtain ⟨Cn, T, h11, hc, hj, hin, hlk, hty, hnm, hf, hy⟩ := f
  intro ads H locs ls cells slots hl hR
  have he := wl_get (cA := xC X) (ads := ads) hT
  rw [ce_obj h11] at he
  refine va_get (D := xD X) (cl := vwCl) C.1 C.2.1 C.hts hin C.own C.K hR.1 a he hc j hj (C.hts _ hlk) (fun _ h => h) (v := .ref (ads r)) ?_ d (k ads H locs ls cells slots hl hR)
  rw [range_at hj]
  unfold fv
  rw [hr, hg]
  rfl
theorem Rl.putM {ads : Nat → Nat} {H H1 : Heap} {locs locs1 : List Loc} {cells slots : Nat} {M' : Nat → Nat → Int32} {c : Nat} {t : Nat × Nat} (hR : Rl X ads w H locs cells slots) (ht : w.2.2[c]? = some t) (hM : ∀ k, k ≠ c → M' k = w.1 k) {e : Nat × va_E} (he : e = (ads c, ce (xC X) ads (M', w.2.1, w.2.2) c t)) (hP : va_P (xD X) vwCl ((wl (xC X) ads w).set c e) H1) (hD : va_D (xA X) ((wl (xC X) ads w).set c e)) (hS : va_S (xA X) (xs X).heap H1 locs1) : Rl X ads (M', w.2.1, w.2.2) H1 locs1 cells slots := by
  have hw := wl_set (cA := xC X) (ads := ads) (w := w) (w' := (M', w.2.1, w.2.2)) rfl ht hM (fun _ _ => rfl)
  rw [he, ← hw] at hP hD
  exact ⟨hP, hD, hS, hR.2.2.2⟩
theorem fv_wr {ads : Nat → Nat} {a ci j N : Nat} {x : Int32} (hr : rfB ci j = false) : ((List.range N).map (fv ads w a ci)).set j (.int x) = (List.range N).map (fv ads (wr w.1 a j x, w.2.1, w.2.2) a ci) := by
  apply range_set
  · simp [fv, hr, wr, upd]
  · intro q hq
    simp [fv, wr, upd, hq]
theorem ww_putI (C : Ok X md) {idx ci N j a : Nat} {x : Int32} (d : decode md.2.1 pc = .ok (.putfield idx, 3)) (f : FL md.1.cls idx ci N j false .int) (hT : w.2.2[a]? = some (ci, N)) (hr : rfB ci j = false) (k : WW X Q (pc + 3) L S (wr w.1 a j x, w.2.1, w.2.2)) : WW X Q pc L (.int x :: .ref a :: S) w := by
  obtain ⟨Cn, T, h11, hc, hj, hin, hlk, hty, hnm, hf, hy⟩ := f
  intro ads H locs ls cells slots hl hR
  have he := wl_get (cA := xC X) (ads := ads) hT
  rw [ce_obj h11] at he
  refine va_put (D := xD X) (cl := vwCl) (v := .int x) (ty := .int) C.1 C.2.1 C.hts hin (tyOf ci) hty hnm C.own C.K hR.1 hR.2.1 hR.2.2.1 a he hc j hj (C.hts _ hlk) (fun _ h => h) hf (by rw [hty j hj, hy]) rfl rfl (by simpa using hj) d (fun H1 locs1 hP hD hS => k ads H1 locs1 ls cells slots hl (hR.putM hT (fun q hq => wr_ne hq) ?_ hP hD hS))
  rw [ce_obj h11, fv_wr hr]
theorem ww_putZ (C : Ok X md) {idx ci N j a : Nat} {x : Int32} (d : decode md.2.1 pc = .ok (.putfield idx, 3)) (f : FL md.1.cls idx ci N j false .boolean) (hT : w.2.2[a]? = some (ci, N)) (hr : rfB ci j = false) (hx : x = 0 ∨ x = 1) (k : WW X Q (pc + 3) L S (wr w.1 a j x, w.2.1, w.2.2)) : WW X Q pc L (.int x :: .ref a :: S) w := by
  obtain ⟨Cn, T, h11, hc, hj, hin, hlk, hty, hnm, hf, hy⟩ := f
  intro ads H locs ls cells slots hl hR
  have he := wl_get (cA := xC X) (ads := ads) hT
  rw [ce_obj h11] at he
  refine va_put (D := xD X) (cl := vwCl) (v := .int x) (ty := .boolean) C.1 C.2.1 C.hts hin (tyOf ci) hty hnm C.own C.K hR.1 hR.2.1 hR.2.2.1 a he hc j hj (C.hts _ hlk) (fun _ h => h) hf (by rw [hty j hj, hy]) (by rcases hx with rfl | rfl <;> rfl) (by rcases hx with rfl | rfl <;> rfl) (by simpa using hj) d (fun H1 locs1 hP hD hS => k ads H1 locs1 ls cells slots hl (hR.putM hT (fun q hq => wr_ne hq) ?_ hP hD hS))
  rw [ce_obj h11, fv_wr hr]
theorem Rl.putG {ads : Nat → Nat} {H H1 : Heap} {locs locs1 : List Loc} {cells slots : Nat} {c j r : Nat} {t : Nat × Nat} (hR : Rl X ads w H locs cells slots) (ht : w.2.2[c]? = some t) (hr : r < w.2.2.length) {e : Nat × va_E} (he : e = (ads c, ce (xC X) ads (w.1, wrG w.2.1 c j (some r), w.2.2) c t)) (hP : va_P (xD X) vwCl ((wl (xC X) ads w).set c e) H1) (hD : va_D (xA X) ((wl (xC X) ads w).set c e)) (hS : va_S (xA X) (xs X).heap H1 locs1) : Rl X ads (w.1, wrG w.2.1 c j (some r), w.2.2) H1 locs1 cells slots := by
  have hw := wl_set (cA := xC X) (ads := ads) (w := w) (w' := (w.1, wrG w.2.1 c j (some r), w.2.2)) rfl ht (fun _ _ => rfl) (fun k hk => funext fun i => if_neg (fun z => hk z.1))
  rw [he, ← hw] at hP hD
  refine ⟨hP, hD, hS, hR.2.2.2.1, hR.2.2.2.2.1, hR.2.2.2.2.2.1, fun k i a ha => ?_⟩
  unfold wrG at ha
  dsimp only at ha
  split at ha
  · cases ha; exact hr
  · exact hR.2.2.2.2.2.2 k i a ha
theorem fv_wrG {ads : Nat → Nat} {a ci j r N : Nat} (hr : rfB ci j = true) : ((List.range N).map (fv ads w a ci)).set j (.ref (ads r)) = (List.range N).map (fv ads (w.1, wrG w.2.1 a j (some r), w.2.2) a ci) := by
  apply range_set
  · unfold fv wrG; rw [hr]; simp [va_rf]
  · intro q hq
    unfold fv wrG
    simp [hq]
theorem ww_putR (C : Ok X md) {idx ci N j a r : Nat} {ty : FieldType} (d : decode md.2.1 pc = .ok (.putfield idx, 3)) (f : FL md.1.cls idx ci N j false ty) (hn : ∀ q, narrow ty (.ref q) = .ref q ∧ fits ty (.ref q) = true) (hT : w.2.2[a]? = some (ci, N)) (hr : rfB ci j = true) (hlt : r < w.2.2.length) (k : WW X Q (pc + 3) L S (w.1, wrG w.2.1 a j (some r), w.2.2)) : WW X Q pc L (.ref r :: .ref a :: S) w := by
  obtain ⟨Cn, T, h11, hc, hj, hin, hlk, hty, hnm, hf, hy⟩ := f
  intro ads H locs ls cells slots hl hR
  have he := wl_get (cA := xC X) (ads := ads) hT
  rw [ce_obj h11] at he
  refine va_put (D := xD X) (cl := vwCl) (v := .ref (ads r)) (ty := ty) C.1 C.2.1 C.hts hin (tyOf ci) hty hnm C.own C.K hR.1 hR.2.1 hR.2.2.1 a he hc j hj (C.hts _ hlk) (fun _ h => h) hf (by rw [hty j hj, hy]) (hn _).1 (hn _).2 (by simpa using hj) d (fun H1 locs1 hP hD hS => k ads H1 locs1 ls cells slots hl (hR.putG hT hlt ?_ hP hD hS))
  rw [ce_obj h11, fv_wrG hr]
theorem ww_putRF (C : Ok X md) {idx ci N j a r : Nat} {ty : FieldType} (d : decode md.2.1 pc = .ok (.putfield idx, 3)) (f : FL md.1.cls idx ci N j true ty) (hi : md.1.name = "<init>") (hdecl : ∀ (C : String) (T : u_T), vwCl[ci]? = some (C, T, N) → (T j).1 = md.1.cls) (hn : ∀ q, narrow ty (.ref q) = .ref q ∧ fits ty (.ref q) = true) (hT : w.2.2[a]? = some (ci, N)) (hr : rfB ci j = true) (hlt : r < w.2.2.length) (k : WW X Q (pc + 3) L S (w.1, wrG w.2.1 a j (some r), w.2.2)) : WW X Q pc L (.ref r :: .ref a :: S) w := by
  obtain ⟨Cn, T, h11, hc, hj, hin, hlk, hty, hnm, hf, hy⟩ := f
  intro ads H locs ls cells slots hl hR
  have he := wl_get (cA := xC X) (ads := ads) hT
  rw [ce_obj h11] at he
  refine va_putF (D := xD X) (cl := vwCl) (v := .ref (ads r)) (ty := ty) C.1 C.2.1 C.hts hin (tyOf ci) hty hnm C.own C.K hR.1 hR.2.1 hR.2.2.1 a he hc j hj (C.hts _ hlk) (fun _ h => h) hf (by rw [C.nm]; exact hi) (hdecl _ _ hc) (by rw [hty j hj, hy]) (hn _).1 (hn _).2 (by simpa using hj) d (fun H1 locs1 hP hD hS => k ads H1 locs1 ls cells slots hl (hR.putG hT hlt ?_ hP hD hS))
  rw [ce_obj h11, fv_wrG hr]
theorem ww_iald (C : Ok X md) {a n : Nat} {i : Int32} (d : decode md.2.1 pc = .ok (.iaload, 1)) (hT : w.2.2[a]? = some (20, n)) (hi : vp_in i n) (k : WW X Q (pc + 1) L (.int (w.1 a i.toNatClampNeg) :: S) w) : WW X Q pc L (.int i :: .ref a :: S) w := by
  intro ads H locs ls cells slots hl hR
  exact va_iald (D := xD X) (cl := vwCl) C.1 C.2.1 C.K hR.1 a 0 (wl_get hT) rfl hi d (k ads H locs ls cells slots hl hR)
theorem ww_cald (C : Ok X md) {a n : Nat} {i : Int32} (d : decode md.2.1 pc = .ok (.caload, 1)) (hT : w.2.2[a]? = some (21, n)) (hi : vp_in i n) (k : WW X Q (pc + 1) L (.int (w.1 a i.toNatClampNeg) :: S) w) : WW X Q pc L (.int i :: .ref a :: S) w := by
  intro ads H locs ls cells slots hl hR
  exact va_cald (D := xD X) (cl := vwCl) C.1 C.2.1 C.K hR.1 a 1 (wl_get hT) rfl hi d (k ads H locs ls cells slots hl hR)
theorem ww_iast (C : Ok X md) {a n : Nat} {i x : Int32} (d : decode md.2.1 pc = .ok (.iastore, 1)) (hT : w.2.2[a]? = some (20, n)) (hi : vp_in i n) (k : WW X Q (pc + 1) L S (wr w.1 a i.toNatClampNeg x, w.2.1, w.2.2)) : WW X Q pc L (.int x :: .int i :: .ref a :: S) w := by
  intro ads H locs ls cells slots hl hR
  refine va_iast (D := xD X) (cl := vwCl) C.1 C.2.1 C.K hR.1 hR.2.1 hR.2.2.1 a 0 (wl_get hT) rfl hi d (fun H1 locs1 hP hD hS => k ads H1 locs1 ls cells slots hl (hR.putM hT (fun q hq => wr_ne hq) ?_ hP hD hS))
  rw [ce_ints, show (wr w.1 a i.toNatClampNeg x, w.2.1, w.2.2).1 a = upd (w.1 a) i.toNatClampNeg x from wr_eq]
theorem ww_cast (C : Ok X md) {a n : Nat} {i x : Int32} (d : decode md.2.1 pc = .ok (.castore, 1)) (hT : w.2.2[a]? = some (21, n)) (hi : vp_in i n) (k : WW X Q (pc + 1) L S (wr w.1 a i.toNatClampNeg (vp_nar .char x), w.2.1, w.2.2)) : WW X Q pc L (.int x :: .int i :: .ref a :: S) w := by
  intro ads H locs ls cells slots hl hR
  refine va_cast (D := xD X) (cl := vwCl) C.1 C.2.1 C.K hR.1 hR.2.1 hR.2.2.1 a 1 (wl_get hT) rfl hi d (fun H1 locs1 hP hD hS => k ads H1 locs1 ls cells slots hl (hR.putM hT (fun q hq => wr_ne hq) ?_ hP hD hS))
  rw [ce_chars, show (wr w.1 a i.toNatClampNeg (vp_nar .char x), w.2.1, w.2.2).1 a = upd (w.1 a) i.toNatClampNeg (vp_nar .char x) from wr_eq]
theorem ww_alen {tg : Nat} (C : Ok X md) {a n : Nat} {v : Int32} (d : decode md.2.1 pc = .ok (.arraylength, 1)) (hT : w.2.2[a]? = some (tg, n)) (ht : tg = 20 ∨ tg = 21) (hv : Int32.ofNat n = v) (k : WW X Q (pc + 1) L (.int v :: S) w) : WW X Q pc L (.ref a :: S) w := by
  intro ads H locs ls cells slots hl hR
  rcases ht with rfl | rfl
  · exact va_alen (D := xD X) (cl := vwCl) C.1 C.2.1 C.K hR.1 a 0 (wl_get hT) rfl hv d (k ads H locs ls cells slots hl hR)
  · exact va_alen (D := xD X) (cl := vwCl) C.1 C.2.1 C.K hR.1 a 1 (wl_get hT) rfl hv d (k ads H locs ls cells slots hl hR)
theorem ww_aald (C : Ok X md) {a n r : Nat} {i : Int32} (d : decode md.2.1 pc = .ok (.aaload, 1)) (hT : w.2.2[a]? = some (22, n)) (hi : vp_in i n) (hg : w.2.1 a i.toNatClampNeg = some r) (k : WW X Q (pc + 1) L (.ref r :: S) w) : WW X Q pc L (.int i :: .ref a :: S) w := by
  intro ads H locs ls cells slots hl hR
  have hc : H[ads a]? = some (vp_cell (xC X).2.2 (n, .inr (.inr (.inr (.inr (fun j => (w.2.1 a j).map ads)))))) := hR.1 a _ (wl_get hT)
  rw [vp_cell_q] at hc
  have hlt : i.toNatClampNeg < n := Nat.lt_of_not_le (fun h => hi (Or.inr h))
  refine W.aald (ty := .array .int) (v := .ref (ads r)) C.1 C.2.1 hc ((C.K.2 2 _ rfl).1 n _) rfl (fun h => by cases h) ?_ ?_ rfl rfl d (k ads H locs ls cells slots hl hR)
  · intro h
    refine hi (h.imp id (fun q => ?_))
    simpa [arrV] using q
  · simp [arrV, hlt, hg, va_rf]
end HEAP
end
section
/-! contracts over the numbered world; calls; answers -/
theorem ao_vm {u U : State} (h : u.vm = U.vm) (e : (Cond.arrayOver (.array .int)).before #[] u = true) : (Cond.arrayOver (.array .int)).before #[] U = true := by
  have e1 : (Cond.arrayOver (.array .int)).before #[] (u.setVm U.vm) = (Cond.arrayOver (.array .int)).before #[] (U.setVm U.vm) := rfl
  have h1 : u.setVm U.vm = u := by rw [← h]; rfl
  have h2 : U.setVm U.vm = U := rfl
  rw [h1, h2] at e1
  rw [← e1]
  exact e
theorem Ex.same {u U : State} (h : u.vm = U.vm) (e : Ex u) : Ex U := ⟨fun q hq => va_Nw.same rfl h (e.1 q hq), ao_vm h e.2⟩
theorem Ex.warm {s U : State} (hW : s.WarmedH U.vm) (e : Ex s) : Ex U := ⟨fun q hq => va_Nw.warmM hW (e.1 q hq), ao_vm (rfl : (s.setVm U.vm).vm = U.vm) (by rw [Cond.arrayOver_setVmC hW.alike]; exact e.2)⟩
def PB (D : va_G) (cA : ClassId × ClassId × ClassId) (ads : Nat → Nat) (w : Wd) (sz : Nat) (U : State) : Prop := U.heap.size = sz ∧ va_P D vwCl (wl cA ads w) U.heap ∧ va_K D vwCl (tysA cA) U ∧ va_D (fun _ => True) (wl cA ads w) ∧ Gwf w ∧ Ex U
def QM (D : va_G) (cA : ClassId × ClassId × ClassId) (ads : Nat → Nat) (w : Wd) (sz mc ms : Nat) (P : Option Value → Wd → Prop) : Array Value → State → Outcome → State → Prop := fun _ st o t =>
  (∃ (v : Option Value) (ads' : Nat → Nat) (w' : Wd), o = .returned (v.map (tv 0 ads')) ∧ (∀ x, v = some x → nxv x = true) ∧ P v w' ∧ (∀ k, (k < w.2.2.length ∨ w'.2.2.length ≤ k) → ads' k = ads k) ∧ w'.2.2.length = w.2.2.length + mc ∧ slT w'.2.2 = slT w.2.2 + ms ∧ Gwf w' ∧ va_P D vwCl (wl cA ads' w') t.heap ∧ va_D (va_A (wl cA ads w) sz) (wl cA ads' w')) ∧ va_F (va_A (wl cA ads w) sz) st t
/-- the method's contract: from the world w, with these arguments, it comes back with P of its answer and the world behind it; mc cells of ms slots are new -/
def WpM (md : MD) (mc ms : Nat) (args : List Value) (w : Wd) (P : Option Value → Wd → Prop) : Prop :=
  ∀ (l : Launch) (D : va_G) (cA : ClassId × ClassId × ClassId) (ads : Nat → Nat) (sz : Nat), Met l md.1 (wsM md) (rmM md mc ms) (va_Pc (args.map (tv 0 ads)) (PB D cA ads w sz)) (QM D cA ads w sz mc ms P) mc ms (va_A (wl cA ads w) sz)
theorem PB.blind {D : va_G} {cA : ClassId × ClassId × ClassId} {ads : Nat → Nat} {w : Wd} {sz : Nat} {av : List Value} : FrameBlind (va_Pc av (PB D cA ads w sz)) := by
  intro a U g mk q
  obtain ⟨q0, q1, qP, qK, qD, qG, qE⟩ := q
  exact ⟨q0, q1, qP, va_K.moved (u := U) (U := U.calling g mk a) (Vm.Alike.refl U.vm) qK, qD, qG, qE.same rfl⟩
def refsLt (n : Nat) (v : Value) : Bool := match v with
  | .ref a => decide (a < n)
  | _ => true
theorem tv_cong {b n : Nat} {ads ads' : Nat → Nat} (h : ∀ k, k < n → ads' k = ads k) {v : Value} (hv : refsLt n v = true) : tv b ads' v = tv b ads v := by
  cases v with
  | ref a => exact congrArg Value.ref (h a (by simpa [refsLt] using hv))
  | _ => rfl
theorem tv_nx {b b' : Nat} {ads : Nat → Nat} {v : Value} (h : nxv v = true) : tv b ads v = tv b' ads v := by
  cases v with
  | retAddr a => simp [nxv] at h
  | _ => rfl
theorem map_nx {b b' : Nat} {ads : Nat → Nat} {vs : List Value} (h : vs.all nxv = true) : vs.map (tv b ads) = vs.map (tv b' ads) := by
  apply List.map_congr_left
  intro v hv
  exact tv_nx (List.all_eq_true.mp h v hv)
section CALL
variable {X : CX} {md md' : MD} {Q : State → Prop} {pc : Nat} {L : List (Nat × Value)} {S rest As : List Value} {w : Wd} {mc ms idx n a : Nat} {P : Option Value → Wd → Prop}
/-- behind a call: whatever way it was entered -/
theorem ww_back (C : Ok X md) (hLS : mc = 0 ∨ ((L.all fun q => refsLt w.2.2.length q.2) = true ∧ rest.all (refsLt w.2.2.length) = true))
    (k : ∀ v w', P v w' → WW X Q (pc + 3) L (v.toList ++ rest) w') {ads : Nat → Nat} {H : Heap} {locs : List Loc} {ls : Array Slot} {cells slots : Nat} {a : Array Value} {st0 : List Value} (hl : lv_has ls (xc X).maxLocals (L.map (tq (xb X) ads))) (hR : Rl X ads w H locs cells slots)
    (hr : va_Run X.1 X.2.1 X.2.2.1 (xR X) (xs X) (xm X) (xa X) (xw X) (xh X) (xc X) H locs cells slots mc ms (F0 (xm X) pc ls st0) (rest.map (tv (xb X) ads)) (QM (xD X) (xC X) ads w H.size mc ms P a) (va_A (wl (xC X) ads w) H.size)) :
    W X.1 X.2.1 X.2.2.1 (xR X) (xs X) (xm X) (xa X) (xw X) (xh X) (xc X) H locs cells slots Q (F0 (xm X) pc ls st0) := by
  intro T hT Z
  obtain ⟨v, st₀, t, T', L', h0, Z', hL, e1, e2, ⟨⟨v', ads', w', hv, hnx, hP, hx, hn, hs, hG, hPw, hD⟩, hz, hk⟩, st⟩ := hr T hT Z
  have hfree : ∀ q, va_A (wl (xC X) ads w) H.size q → xA X q := by
    intro q h
    rcases h with ⟨i, e, h⟩ | h
    · exact hR.2.1.2 i (q, e) h
    · exact C.hA q (Nat.le_trans hR.2.2.1.1 h)
  rw [h0] at hz hk
  have hnT : (xT X).length ≤ w.2.2.length := by have := hR.2.2.2.2.1; omega
  have hle : w.2.2.length ≤ w'.2.2.length := by omega
  have hR' : Rl X ads' w' T'.heap (locs ++ L') (cells + mc) (slots + ms) := by
    refine ⟨by rw [e1]; exact hPw, hD.weaken (fun i q _ h => hfree q.1 h), ⟨Nat.le_trans hR.2.2.1.1 (by rw [e1]; exact hz), fun q h1 h2 => ?_, fun q hq => ?_⟩, fun i hi => ?_, ?_, ?_, hG⟩
    · rw [e1, hk q (Nat.lt_of_lt_of_le h1 hR.2.2.1.1) (fun z => h2 (hfree q z))]
      exact hR.2.2.1.2.1 q h1 h2
    · rcases List.mem_append.mp hq with h | h
      · exact hR.2.2.1.2.2 q h
      · exact hfree _ (hL q h)
    · rcases hi with hi | hi
      · rw [hx i (Or.inl (by omega)), hR.2.2.2.1 i (Or.inl hi)]
      · rw [hx i (Or.inr hi), hR.2.2.2.1 i (Or.inr (by omega))]
    · have := hR.2.2.2.2.1; omega
    · have := hR.2.2.2.2.2.1; omega
  have hall : (∀ q ∈ L, tv (xb X) ads' q.2 = tv (xb X) ads q.2) ∧ ∀ u ∈ rest, tv (xb X) ads' u = tv (xb X) ads u := by
    rcases hLS with rfl | ⟨h1, h2⟩
    · have he : ads' = ads := funext fun i => hx i (by omega)
      subst he
      exact ⟨fun _ _ => rfl, fun _ _ => rfl⟩
    · exact ⟨fun q hq => tv_cong (fun i hi => hx i (Or.inl hi)) (List.all_eq_true.mp h1 q hq), fun u hu => tv_cong (fun i hi => hx i (Or.inl hi)) (List.all_eq_true.mp h2 u hu)⟩
  have hLe : L.map (tq (xb X) ads') = L.map (tq (xb X) ads) := List.map_congr_left fun q hq => by
    show (q.1, tv (xb X) ads' q.2) = (q.1, tv (xb X) ads q.2)
    rw [hall.1 q hq]
  have hSe : rest.map (tv (xb X) ads') = rest.map (tv (xb X) ads) := List.map_congr_left hall.2
  have hvv : v = v'.map (tv 0 ads') := by injection hv
  have hst : v.toList ++ rest.map (tv (xb X) ads) = (v'.toList ++ rest).map (tv (xb X) ads') := by
    rw [List.map_append, hSe, hvv]
    cases v' with
    | none => rfl
    | some x => exact congrArg (fun z => z :: rest.map (tv (xb X) ads)) (tv_nx (hnx x rfl))
  obtain ⟨t2, a1, b1⟩ := k v' w' hP ads' T'.heap (locs ++ L') ls (cells + mc) (slots + ms) (by rw [hLe]; exact hl) hR' T' rfl Z'
  refine ⟨t2, st t2 ?_, b1⟩
  rw [hst]
  exact a1
/-- what a callee's words and room ask -/
def MF (md' : MD) (n : Nat) : Prop := Cond.code md'.1 md'.2.1 md'.2.2.1 md'.2.2.2.1 ∈ GW ∧ Cond.initialized md'.1.cls ∈ GW ∧ (md'.1.cls ≠ "java/lang/invoke/MethodHandle" ∧ md'.1.cls ≠ "java/lang/invoke/VarHandle") ∧ (parseMethodDescriptor md'.1.desc).map (fun d => d.parameters.length) = some n
def MFV (md' : MD) (n : Nat) : Prop := MF md' n ∧ Cond.instanceMethod md'.1 ∈ GW ∧ Cond.selects md'.1.cls md'.1 md'.1 ∈ GW
def MFS (md' : MD) (n : Nat) : Prop := MF md' n ∧ Cond.static md'.1 ∈ GW
def MFI (md' : MD) (n : Nat) : Prop := MF md' n ∧ Cond.instanceMethod md'.1 ∈ GW ∧ md'.1.name = "<init>" ∧ md'.2.2.2.1 = none
def RM (md md' : MD) : Prop := md'.2.2.2.2.1 + 1 ≤ md.2.2.2.2.1 ∧ 8 + (md'.2.2.1 + 11) + md'.2.2.2.2.2 ≤ md.2.2.2.2.2
theorem wsM_good (h : Cond.code md'.1 md'.2.1 md'.2.2.1 md'.2.2.2.1 ∈ GW) : GoodIn GW (wsM md') := fun w hw => by
  rcases List.mem_cons.mp hw with rfl | hw
  · exact GW_good _ h
  · exact GW_good _ hw
theorem callB_M (C : Ok X md) (f : MF md' n) (r : RM md md') (hl : Cond.methodLink md.1.cls idx md'.1 ∈ GW) : CallB (xR X) (xs X) (xa X) md.1.cls idx md'.1 md'.2.1 md'.2.2.1 md'.2.2.2.1 (wsM md') (rmM md' mc ms) mc ms n :=
  callB_of n C.hts (wsM_good f.1) rfl rfl rfl (C.hts _ f.2.1) (C.hts _ hl) ⟨f.2.2.1.1, f.2.2.1.2, f.2.2.2⟩ ⟨by rw [C.fr]; exact r.1, by rw [C.lo]; exact r.2⟩
theorem callN_M (C : Ok X md) {host : String} (f : MF md' n) (r : RM md md') (hl : (md.1.cls, idx, md'.1, host) ∈ NW) : va_CN (xR X) (xs X) (xa X) md.1.cls idx md'.1 host md'.2.1 md'.2.2.1 md'.2.2.2.1 (wsM md') (rmM md' mc ms) mc ms n :=
  va_cnB n C.hts (wsM_good f.1) rfl rfl rfl (C.ex.1 _ hl) (C.hts _ f.2.1) ⟨f.2.2.1.1, f.2.2.1.2, f.2.2.2⟩ ⟨by rw [C.fr]; exact r.1, by rw [C.lo]; exact r.2⟩
theorem Rl.pre (C : Ok X md) {ads : Nat → Nat} {H : Heap} {locs : List Loc} {cells slots : Nat} (hR : Rl X ads w H locs cells slots) {av : List Value} {U : State} (hU : U.heap = H) (hW : (xs X).WarmedH U.vm) : va_Pc av (PB (xD X) (xC X) ads w H.size) av.toArray U :=
  ⟨rfl, by rw [hU], by rw [hU]; exact hR.1, va_K.moved hW.alike C.K, hR.2.1.weaken (fun _ _ _ _ => trivial), hR.2.2.2.2.2.2, C.ex.warm hW⟩
theorem sum_cat (b : Nat) (ads : Nat → Nat) (vs : List Value) : ((vs.map (tv b ads)).map fun v => v.category).sum = (vs.map fun v => v.category).sum := by
  rw [List.map_map]
  exact congrArg List.sum (List.map_congr_left fun v _ => tv_cat b ads v)
/-- an object's method -/
theorem ww_callV (C : Ok X md) (hm : WpM md' mc ms (.ref a :: As) w P) (f : MFV md' n) (r : RM md md') (hl : Cond.methodLink md.1.cls idx md'.1 ∈ GW) (d : decode md.2.1 pc = .ok (.invokevirtual idx, 3)) {ci N : Nat} {T : u_T} (hT : w.2.2[a]? = some (ci, N)) (hci : ci < 11) (hcl : vwCl[ci]? = some (md'.1.cls, T, N)) (hS : S = As.reverse ++ .ref a :: rest) (hn : As.length = n) (hx : As.all nxv = true) (hc : (rest.map fun v => v.category).sum ≤ 8)
    (hf : w.2.2.length + mc ≤ (xT X).length + (xR X).cells ∧ slT w.2.2 + ms ≤ slT (xT X) + (xR X).slots) (hLS : mc = 0 ∨ ((L.all fun q => refsLt w.2.2.length q.2) = true ∧ rest.all (refsLt w.2.2.length) = true)) (k : ∀ v w', P v w' → WW X Q (pc + 3) L (v.toList ++ rest) w') : WW X Q pc L S w := by
  subst hS
  intro ads H locs ls cells slots hl' hR
  have he := wl_get (cA := xC X) (ads := ads) hT
  rw [ce_obj hci] at he
  have e0 : As.map (tv 0 ads) = As.map (tv (xb X) ads) := map_nx hx
  have hM := hm X.2.1 (xD X) (xC X) ads H.size
  rw [List.map_cons, e0] at hM
  refine ww_back C hLS k hl' hR (va_runV (As := As.map (tv (xb X) ads)) (b := ads a) (C := md'.1.cls) ⟨C.1, C.2.1, rfl, C.own, C.hts⟩ hM ⟨callB_M C f.1 r hl, C.hts _ f.2.1, C.hts _ f.2.2⟩ ⟨PB.blind, va_recv C.K hR.1 hcl he, fun U hU hW => hR.pre C hU hW⟩ rfl (by rw [List.length_map]; exact hn) hl'.1 (by simp [tv]) (lv_room (by rw [sum_cat]; exact hc)) d ⟨?_, ?_⟩)
  · have := hR.2.2.2.2.1; omega
  · have := hR.2.2.2.2.2.1; omega
/-- a class's method -/
theorem ww_callS (C : Ok X md) (hm : WpM md' mc ms As w P) (f : MFS md' n) (r : RM md md') (hl : Cond.methodLink md.1.cls idx md'.1 ∈ GW) (d : decode md.2.1 pc = .ok (.invokestatic idx, 3)) (hS : S = As.reverse ++ rest) (hn : As.length = n) (hx : As.all nxv = true) (hc : (rest.map fun v => v.category).sum ≤ 8)
    (hf : w.2.2.length + mc ≤ (xT X).length + (xR X).cells ∧ slT w.2.2 + ms ≤ slT (xT X) + (xR X).slots) (hLS : mc = 0 ∨ ((L.all fun q => refsLt w.2.2.length q.2) = true ∧ rest.all (refsLt w.2.2.length) = true)) (k : ∀ v w', P v w' → WW X Q (pc + 3) L (v.toList ++ rest) w') : WW X Q pc L S w := by
  subst hS
  intro ads H locs ls cells slots hl' hR
  have e0 : As.map (tv 0 ads) = As.map (tv (xb X) ads) := map_nx hx
  have hM := hm X.2.1 (xD X) (xC X) ads H.size
  rw [e0] at hM
  refine ww_back C hLS k hl' hR (va_runS (As := As.map (tv (xb X) ads)) ⟨C.1, C.2.1, rfl, C.own, C.hts⟩ hM ⟨callB_M C f.1 r hl, C.hts _ f.2⟩ ⟨PB.blind, fun U hU hW => hR.pre C hU hW⟩ rfl (by rw [List.length_map]; exact hn) hl'.1 (by simp) (lv_room (by rw [sum_cat]; exact hc)) d ⟨?_, ?_⟩)
  · have := hR.2.2.2.2.1; omega
  · have := hR.2.2.2.2.2.1; omega
/-- a nest mate's private class method -/
theorem ww_callSN (C : Ok X md) {host : String} (hm : WpM md' mc ms As w P) (f : MFS md' n) (r : RM md md') (hl : (md.1.cls, idx, md'.1, host) ∈ NW) (d : decode md.2.1 pc = .ok (.invokestatic idx, 3)) (hS : S = As.reverse ++ rest) (hn : As.length = n) (hx : As.all nxv = true) (hc : (rest.map fun v => v.category).sum ≤ 8)
    (hf : w.2.2.length + mc ≤ (xT X).length + (xR X).cells ∧ slT w.2.2 + ms ≤ slT (xT X) + (xR X).slots) (hLS : mc = 0 ∨ ((L.all fun q => refsLt w.2.2.length q.2) = true ∧ rest.all (refsLt w.2.2.length) = true)) (k : ∀ v w', P v w' → WW X Q (pc + 3) L (v.toList ++ rest) w') : WW X Q pc L S w := by
  subst hS
  intro ads H locs ls cells slots hl' hR
  have e0 : As.map (tv 0 ads) = As.map (tv (xb X) ads) := map_nx hx
  have hM := hm X.2.1 (xD X) (xC X) ads H.size
  rw [e0] at hM
  refine ww_back C hLS k hl' hR (va_runSN (As := As.map (tv (xb X) ads)) (host := host) ⟨C.1, C.2.1, rfl, C.own, C.hts⟩ hM ⟨callN_M C f.1 r hl, C.hts _ f.2, trivial⟩ ⟨PB.blind, fun U hU hW => hR.pre C hU hW⟩ rfl (by rw [List.length_map]; exact hn) hl'.1 (by simp) (lv_room (by rw [sum_cat]; exact hc)) d ⟨?_, ?_⟩)
  · have := hR.2.2.2.2.1; omega
  · have := hR.2.2.2.2.2.1; omega
end CALL
section RET
variable {X : CX} {md : MD} {Q : State → Prop} {pc : Nat} {L : List (Nat × Value)} {w : Wd}
def RetOK (X : CX) (Q : State → Prop) (v : Option Value) (w : Wd) : Prop := ∀ (ads : Nat → Nat) (H : Heap) (locs : List Loc) (cells slots : Nat), Rl X ads w H locs cells slots → ∃ (Qc : Array Value → State → Outcome → State → Prop) (mc ms : Nat) (free : Addr → Prop), Q = MQ (xw X) Qc (xa X) (xs X) mc ms free ∧ cells ≤ mc ∧ slots ≤ ms ∧ (∀ q ∈ locs, free q.base) ∧ ∀ t : State, t.heap = H → (xs X).WarmedH t.vm → Qc (xa X) (xs X) (.returned (v.map (tv (xb X) ads))) t
theorem ww_iret (C : Ok X md) {x : Int32} (d : decode md.2.1 pc = .ok (.ireturn, 1)) (hr : md.2.2.2.1 = some .int) (h : RetOK X Q (some (.int x)) w) : WW X Q pc L [.int x] w := by
  intro ads H locs ls cells slots hl hR
  obtain ⟨Qc, mc, ms, free, rfl, h1, h2, h3, h4⟩ := h ads H locs cells slots hR
  refine W.widen h1 h2 ?_
  exact W.iret C.1 C.2.1 (C.2.2.2.1.trans hr) h4 h3 d (hlocks := C.2.2.2.2.2.2.1)
theorem ww_zret (C : Ok X md) {x : Int32} (d : decode md.2.1 pc = .ok (.ireturn, 1)) (hr : md.2.2.2.1 = some .boolean) (hx : x = 0 ∨ x = 1) (h : RetOK X Q (some (.int x)) w) : WW X Q pc L [.int x] w := by
  intro ads H locs ls cells slots hl hR
  obtain ⟨Qc, mc, ms, free, rfl, h1, h2, h3, h4⟩ := h ads H locs cells slots hR
  refine W.widen h1 h2 ?_
  exact W.zret (ty := .boolean) C.1 C.2.1 (C.2.2.2.1.trans hr) (by rcases hx with rfl | rfl <;> rfl) h4 h3 d (hlocks := C.2.2.2.2.2.2.1)
theorem ww_vret (C : Ok X md) (d : decode md.2.1 pc = .ok (.return_, 1)) (hr : md.2.2.2.1 = none) (h : RetOK X Q none w) : WW X Q pc L [] w := by
  intro ads H locs ls cells slots hl hR
  obtain ⟨Qc, mc, ms, free, rfl, h1, h2, h3, h4⟩ := h ads H locs cells slots hR
  refine W.widen h1 h2 ?_
  exact W.vret C.1 C.2.1 (C.2.2.2.1.trans hr) h4 h3 d (hlocks := C.2.2.2.2.2.2.1)
theorem lg_len (b : Nat) (ads : Nat → Nat) (vs : List Value) : (lg_sl (vs.map (tv b ads))).length = (lg_sl vs).length := by
  unfold lg_sl
  induction vs with
  | nil => rfl
  | cons v vs ih =>
    simp only [List.map_cons, List.flatMap_cons, List.length_append, ih, tv_cat]
    split <;> rfl
theorem lv_args_map (b : Nat) (ads : Nat → Nat) : ∀ (vs : List Value) (i : Nat), lv_args i (vs.map (tv b ads)) = (lv_args i vs).map (tq b ads)
  | [], _ => rfl
  | v :: vs, i => by
    show (i, tv b ads v) :: lv_args (if (tv b ads v).category = 2 then i + 2 else i + 1) (vs.map (tv b ads)) = _
    rw [tv_cat, lv_args_map b ads vs]
    rfl
/-- a contract out of a walk of the body -/
theorem WpM.of {mc ms : Nat} {args : List Value} {P : Option Value → Wd → Prop} (hy : plainName md.1.cls = true) (hn : (lg_sl args).length ≤ md.2.2.1) (hP : ∀ v w', P v w' → (∀ x, v = some x → nxv x = true) ∧ w'.2.2.length = w.2.2.length + mc ∧ slT w'.2.2 = slT w.2.2 + ms)
    (body : ∀ (X : CX) (Q : State → Prop), Ok X md → (xR X).cells = mc → (xR X).slots = ms → xT X = w.2.2 → (∀ v w', P v w' → RetOK X Q v w') → WW X Q 0 (lv_args 0 args) [] w) : WpM md mc ms args w P := by
  intro l D cA ads sz
  refine Met.ofW (cc := md.2.1) (maxL := md.2.2.1) (ret := md.2.2.2.1) hy rfl ?_
  intro p e s m av below meth c s₁ B hml hv
  obtain ⟨rfl, hsz, hPw, hK, hD, hG, hE⟩ := hv
  have hts := atoms_spec (ws := wsM md) B.pre
  subst hsz
  have hlen := hn
  rw [← lg_len 0 ads] at hlen
  have hl := lv_entry (args.map (tv 0 ads)) hlen
  rw [lg_entry_eq]
  rw [lv_args_map, ← hml] at hl
  refine body (p, l, e, (headSpec (wsM md) (rmM md mc ms)).room, s, m, (args.map (tv 0 ads)).toArray, below, meth, c, D, cA, va_A (wl cA ads w) s.heap.size, 0, ads, w.2.2) _ ⟨B.exec, B.bytes, hml, B.returns, findClass_of_methodNamed B.named, fun w hw => hts w (List.mem_cons_of_mem _ hw), B.notSynchronized, hK, fun q h => Or.inr h, rfl, rfl, (name_of_methodNamed B.named B.method).1, hE⟩ rfl rfl rfl (fun v w' hpv => ?_) ads s.heap [] _ 0 0 (by rw [← hml]; exact hl) ⟨hPw, hD.self, va_S.rf, fun _ _ => rfl, rfl, rfl, hG⟩
  intro ads' H locs cells slots hR
  obtain ⟨h1, h2, h3⟩ := hP v w' hpv
  refine ⟨_, mc, ms, _, rfl, ?_, ?_, hR.2.2.1.2.2, fun t ht hW => ⟨⟨v, ads', w', rfl, h1, hpv, hR.2.2.2.1, h2, h3, hR.2.2.2.2.2.2, by rw [ht]; exact hR.1, hR.2.1⟩, hR.2.2.1.F ht⟩⟩
  · have := hR.2.2.2.2.1
    have h9 : w.2.2.length + cells = w'.2.2.length := this
    omega
  · have := hR.2.2.2.2.2.1
    have h9 : slT w.2.2 + slots = slT w'.2.2 := this
    omega
theorem WpM.imp {mc ms : Nat} {args : List Value} {P P' : Option Value → Wd → Prop} (h : WpM md mc ms args w P) (hi : ∀ v w', P v w' → P' v w') : WpM md mc ms args w P' := by
  intro l D cA ads sz
  have hM := h l D cA ads sz
  intro p e ha hc hk s m args below hf hap hp htr
  obtain ⟨kk, o, h1, h2, h3, ⟨⟨⟨v, ads', w', a1, a2, a3, a4⟩, hF⟩, hL⟩⟩ := hM p e ha hc hk s m args below hf hap hp htr
  exact ⟨kk, o, h1, h2, h3, ⟨⟨⟨v, ads', w', a1, a2, hi _ _ a3, a4⟩, hF⟩, hL⟩⟩
end RET
end
section
/-! methods that make no cells: contracts over ints alone -/
def Ok0 (X : CX) (md : MD) (T : List (Nat × Nat)) : Prop := Ok X md ∧ xT X = T
abbrev Mem : Type := Nat → Nat → Int32
abbrev Grf : Type := Nat → Nat → Option Nat
def WpI (md : MD) (args : List Value) (M : Mem) (G : Grf) (T : List (Nat × Nat)) (P : Int32 → Mem → Prop) : Prop := WpM md 0 0 args (M, G, T) (fun v w' => ∃ (r : Int32) (M' : Mem), v = some (.int r) ∧ w' = (M', G, T) ∧ P r M')
def WpV (md : MD) (args : List Value) (M : Mem) (G : Grf) (T : List (Nat × Nat)) (P : Mem → Prop) : Prop := WpM md 0 0 args (M, G, T) (fun v w' => ∃ M' : Mem, v = none ∧ w' = (M', G, T) ∧ P M')
section SPEC
variable {X : CX} {md md' : MD} {Q : State → Prop} {pc : Nat} {L : List (Nat × Value)} {S rest As args : List Value} {M : Mem} {G : Grf} {T : List (Nat × Nat)} {idx n a ci N : Nat}
theorem WpI.of {P : Int32 → Mem → Prop} {L0 : List (Nat × Value)} (hL : lv_args 0 args = L0) (hy : plainName md.1.cls = true) (hn : (lg_sl args).length ≤ md.2.2.1) (body : ∀ (X : CX) (Q : State → Prop), Ok0 X md T → (∀ r M', P r M' → RetOK X Q (some (.int r)) (M', G, T)) → WW X Q 0 L0 [] (M, G, T)) : WpI md args M G T P := by
  subst hL
  refine WpM.of hy hn ?_ ?_
  · rintro v w' ⟨r, M', rfl, rfl, h⟩
    exact ⟨fun x hx => by cases hx; rfl, rfl, rfl⟩
  · intro X Q C h1 h2 h3 hk
    exact body X Q ⟨C, h3⟩ (fun r M' h => hk _ _ ⟨r, M', rfl, rfl, h⟩)
theorem WpV.of {P : Mem → Prop} {L0 : List (Nat × Value)} (hL : lv_args 0 args = L0) (hy : plainName md.1.cls = true) (hn : (lg_sl args).length ≤ md.2.2.1) (body : ∀ (X : CX) (Q : State → Prop), Ok0 X md T → (∀ M', P M' → RetOK X Q none (M', G, T)) → WW X Q 0 L0 [] (M, G, T)) : WpV md args M G T P := by
  subst hL
  refine WpM.of hy hn ?_ ?_
  · rintro v w' ⟨M', rfl, rfl, h⟩
    exact ⟨fun x hx => (by cases hx), rfl, rfl⟩
  · intro X Q C h1 h2 h3 hk
    exact body X Q ⟨C, h3⟩ (fun M' h => hk _ _ ⟨M', rfl, rfl, h⟩)
theorem WpI.imp {P P' : Int32 → Mem → Prop} (h : WpI md args M G T P) (hi : ∀ r M', P r M' → P' r M') : WpI md args M G T P' := WpM.imp h (fun v w' ⟨r, M', h1, h2, h3⟩ => ⟨r, M', h1, h2, hi r M' h3⟩)
theorem WpV.imp {P P' : Mem → Prop} (h : WpV md args M G T P) (hi : ∀ M', P M' → P' M') : WpV md args M G T P' := WpM.imp h (fun v w' ⟨M', h1, h2, h3⟩ => ⟨M', h1, h2, hi M' h3⟩)
theorem ok0_f (C : Ok0 X md T) : (T.length + 0 ≤ (xT X).length + (xR X).cells) ∧ slT T + 0 ≤ slT (xT X) + (xR X).slots := by rw [C.2]; exact ⟨Nat.le_add_right _ _, Nat.le_add_right _ _⟩
theorem ww_vI (C : Ok0 X md T) (f : MFV md' n) (r : RM md md') (hl : Cond.methodLink md.1.cls idx md'.1 ∈ GW) (d : decode md.2.1 pc = .ok (.invokevirtual idx, 3)) (hT : T[a]? = some (ci, N)) (hci : ci < 11) {Tc : u_T} (hcl : vwCl[ci]? = some (md'.1.cls, Tc, N)) (hS : S = As.reverse ++ .ref a :: rest) (hn : As.length = n) (hx : As.all nxv = true) (hc : (rest.map fun v => v.category).sum ≤ 8)
    (hm : WpI md' (.ref a :: As) M G T (fun r M' => WW X Q (pc + 3) L (.int r :: rest) (M', G, T))) : WW X Q pc L S (M, G, T) := by
  refine ww_callV C.1 hm f r hl d hT hci hcl hS hn hx hc (ok0_f C) (Or.inl rfl) ?_
  rintro v w' ⟨r, M', rfl, rfl, h⟩
  exact h
theorem ww_vV (C : Ok0 X md T) (f : MFV md' n) (r : RM md md') (hl : Cond.methodLink md.1.cls idx md'.1 ∈ GW) (d : decode md.2.1 pc = .ok (.invokevirtual idx, 3)) (hT : T[a]? = some (ci, N)) (hci : ci < 11) {Tc : u_T} (hcl : vwCl[ci]? = some (md'.1.cls, Tc, N)) (hS : S = As.reverse ++ .ref a :: rest) (hn : As.length = n) (hx : As.all nxv = true) (hc : (rest.map fun v => v.category).sum ≤ 8)
    (hm : WpV md' (.ref a :: As) M G T (fun M' => WW X Q (pc + 3) L rest (M', G, T))) : WW X Q pc L S (M, G, T) := by
  refine ww_callV C.1 hm f r hl d hT hci hcl hS hn hx hc (ok0_f C) (Or.inl rfl) ?_
  rintro v w' ⟨M', rfl, rfl, h⟩
  exact h
theorem ww_sI (C : Ok0 X md T) (f : MFS md' n) (r : RM md md') (hl : Cond.methodLink md.1.cls idx md'.1 ∈ GW) (d : decode md.2.1 pc = .ok (.invokestatic idx, 3)) (hS : S = As.reverse ++ rest) (hn : As.length = n) (hx : As.all nxv = true) (hc : (rest.map fun v => v.category).sum ≤ 8)
    (hm : WpI md' As M G T (fun r M' => WW X Q (pc + 3) L (.int r :: rest) (M', G, T))) : WW X Q pc L S (M, G, T) := by
  refine ww_callS C.1 hm f r hl d hS hn hx hc (ok0_f C) (Or.inl rfl) ?_
  rintro v w' ⟨r, M', rfl, rfl, h⟩
  exact h
theorem ww_sV (C : Ok0 X md T) (f : MFS md' n) (r : RM md md') (hl : Cond.methodLink md.1.cls idx md'.1 ∈ GW) (d : decode md.2.1 pc = .ok (.invokestatic idx, 3)) (hS : S = As.reverse ++ rest) (hn : As.length = n) (hx : As.all nxv = true) (hc : (rest.map fun v => v.category).sum ≤ 8)
    (hm : WpV md' As M G T (fun M' => WW X Q (pc + 3) L rest (M', G, T))) : WW X Q pc L S (M, G, T) := by
  refine ww_callS C.1 hm f r hl d hS hn hx hc (ok0_f C) (Or.inl rfl) ?_
  rintro v w' ⟨M', rfl, rfl, h⟩
  exact h
theorem ww_nI (C : Ok0 X md T) {host : String} (f : MFS md' n) (r : RM md md') (hl : (md.1.cls, idx, md'.1, host) ∈ NW) (d : decode md.2.1 pc = .ok (.invokestatic idx, 3)) (hS : S = As.reverse ++ rest) (hn : As.length = n) (hx : As.all nxv = true) (hc : (rest.map fun v => v.category).sum ≤ 8)
    (hm : WpI md' As M G T (fun r M' => WW X Q (pc + 3) L (.int r :: rest) (M', G, T))) : WW X Q pc L S (M, G, T) := by
  refine ww_callSN C.1 hm f r hl d hS hn hx hc (ok0_f C) (Or.inl rfl) ?_
  rintro v w' ⟨r, M', rfl, rfl, h⟩
  exact h
theorem ww_acopy {w : Wd} (C : Ok X md) {a0 a1 n0 n1 : Nat} {sp dp n : Int32} (hl : Cond.methodLink md.1.cls idx arraycopyName ∈ GW) (hnat : Cond.native arraycopyName ∈ GW) (hst : Cond.static arraycopyName ∈ GW) (hini : Cond.initialized "java/lang/System" ∈ GW) (d : decode md.2.1 pc = .ok (.invokestatic idx, 3)) (h0 : w.2.2[a0]? = some (20, n0)) (h1 : w.2.2[a1]? = some (20, n1)) (c1 : ¬ sp < 0) (c2 : ¬ dp < 0) (c3 : ¬ n < 0) (c4 : sp.toNatClampNeg + n.toNatClampNeg ≤ n0) (c5 : dp.toNatClampNeg + n.toNatClampNeg ≤ n1) (hfr : 1 ≤ md.2.2.2.2.1) (hlo : (rest.map fun v => v.category).sum + (nativeFrameWords "java/lang/System" "arraycopy" 5 + 11) ≤ md.2.2.2.2.2)
    (k : WW X Q (pc + 3) L rest (wrA w.1 a1 (va_cpy (w.1 a0) (w.1 a1) sp.toNatClampNeg dp.toNatClampNeg n.toNatClampNeg), w.2.1, w.2.2)) : WW X Q pc L (.int n :: .int dp :: .ref a1 :: .int sp :: .ref a0 :: rest) w := by
  intro ads H locs ls cells slots hl' hR
  refine va_copyi (D := xD X) (cl := vwCl) (ty := .int) C.1 C.2.1 hl'.1.symm C.own (C.hts _ hl) (C.hts _ hnat) (C.hts _ hst) (C.hts _ hini) C.K hR.1 hR.2.1 hR.2.2.1 a0 a1 0 0 (wl_get h0) (wl_get h1) rfl rfl rfl c1 c2 c3 c4 c5 (fun _ _ => rfl) (by rw [C.fr]; exact hfr) (by rw [C.lo, sum_cat]; exact hlo) d (fun H1 locs1 hP hD hS => k ads H1 locs1 ls cells slots hl' (hR.putM h1 (fun q hq => wrA_ne hq) ?_ hP hD hS))
  rw [ce_ints, show (wrA w.1 a1 (va_cpy (w.1 a0) (w.1 a1) sp.toNatClampNeg dp.toNatClampNeg n.toNatClampNeg), w.2.1, w.2.2).1 a1 = va_cpy (w.1 a0) (w.1 a1) sp.toNatClampNeg dp.toNatClampNeg n.toNatClampNeg from wrA_eq]
end SPEC
end
section
def wq0 : List Cond := [.selects RX7 yX7_readNumbers yX7_readNumbers, .selects RX7 yX7_isFigure yX7_isFigure, .selects RX7 yX7_letterAt yX7_letterAt, .selects RX2 yX2_enact yX2_enact, .selects RX2 yX2_addRival yX2_addRival, .selects RX0 yX0_drawn yX0_drawn, .selects RX3 yX3_fillBeds yX3_fillBeds, .selects RX3 yX3_callFirst yX3_callFirst, .selects RX3 yX3_bestOf yX3_bestOf, .selects RX9 yX9_noteChange yX9_noteChange, .selects RX1 yX1_dropOldest yX1_dropOldest, .selects RX9 yX9_sumBelow yX9_sumBelow, .selects RX9 yX9_noteHarmsNow yX9_noteHarmsNow, .selects RX9 yX9_wouldSwap yX9_wouldSwap, .selects RX6 yX6_addOne yX6_addOne, .selects RX10 yX10_readItem yX10_readItem, .selects RX10 yX10_readNumbers yX10_readNumbers, .selects RX10 yX10_readNumber yX10_readNumber, .selects RX10 yX10_isBed yX10_isBed, .selects RX10 yX10_lengthOn yX10_lengthOn]
def wq1 : List Cond := [.selects RX10 yX10_isGuest yX10_isGuest, .selects RX10 yX10_harmOf yX10_harmOf, .selects RX10 yX10_inchesOn yX10_inchesOn, .selects RX10 yX10_harmBy yX10_harmBy, .selects RX10 yX10_placeOf yX10_placeOf, .selects RX10 yX10_stay yX10_stay, .selects RX10 yX10_give yX10_give, .selects RX10 yX10_isWaiting yX10_isWaiting, .selects RX10 yX10_lieDown yX10_lieDown, .selects RX10 yX10_unharmed yX10_unharmed, .selects RX10 yX10_note yX10_note, .selects RX10 yX10_nextRow yX10_nextRow, .selects RX10 yX10_exchange yX10_exchange, .selects RX10 yX10_sleptBy yX10_sleptBy, .selects RX10 yX10_waysWith yX10_waysWith]
set_option maxRecDepth 100000 in
set_option maxHeartbeats 4000000 in
theorem wqES : k2_sels lw_privs = wq0 ++ (wq1) := rfl
theorem wqIS : ∀ w ∈ k2_sels lw_privs, w ∈ lw_tbl := fun w h => List.mem_append_left _ h
theorem wqM0 : ∀ w ∈ wq0, w ∈ lw_tbl := fun w h => wqIS w (by rw [wqES]; exact List.mem_append_left _ h)
theorem wqG0 {i : Nat} {w : Cond} (h : wq0[i]? = some w) (g : goodWord w = true) : w ∈ GW := List.mem_filter.mpr ⟨wqM0 w (List.mem_of_getElem? h), g⟩
theorem wqM1 : ∀ w ∈ wq1, w ∈ lw_tbl := fun w h => wqIS w (by rw [wqES]; exact List.mem_append_right _ (h))
theorem wqG1 {i : Nat} {w : Cond} (h : wq1[i]? = some w) (g : goodWord w = true) : w ∈ GW := List.mem_filter.mpr ⟨wqM1 w (List.mem_of_getElem? h), g⟩
def wq2 : List Cond := [.initialized RL, .initialized RX9, .initialized RX7, .initialized RX3, .initialized RX1, .initialized RX8, .initialized RX6, .initialized RX4, .initialized RX2, .initialized RX0, .initialized RX5, .initialized RJ0, .initialized RJ1, .initialized RJ3, .initialized RJ2, .initialized RX10, .initialized RJ9, .initialized RJ6, .initialized RJ10, .classLink RL 7 RX9]
def wq3 : List Cond := [.instantiable RX9 9, .methodLink RL 9 yX9_init, .instanceMethod yX9_init, .code yX9_init cX9_init 2 (none), .methodLink RX9 3 objectInit, .instanceMethod objectInit, .code objectInit object_method_1_code 1 (none), .classLink RX9 9 RX7, .instantiable RX7 4, .methodLinkNest RX9 11 yX7_init RX9, .instanceMethod yX7_init, .code yX7_init cX7_init 1 (none), .methodLink RX7 3 objectInit, .fieldLink RX7 9 RX7 "letters" "[C", .fieldLink RX7 15 RX7 "numbers" "[I", .fieldLink RX9 87 RX7 "size" "I", .fieldLink RX7 19 RX7 "size" "I", .fieldLink RX7 35 RX7 "told" "I", .laysFinal RX7 RX7 "letters" "[C", .soleField RX7 "letters"]
def wq4 : List Cond := [.laysFinal RX7 RX7 "numbers" "[I", .soleField RX7 "numbers", .lays RX7 RX7 "size" "I", .soleField RX7 "size", .lays RX7 RX7 "told" "I", .soleField RX7 "told", .superclass RX7 "java/lang/Object", .arrayClass Jvm.ClassFile.FieldType.char, .arrayClass Jvm.ClassFile.FieldType.int, .classLink RX9 18 RX3, .instantiable RX3 8, .methodLinkNest RX9 20 yX3_init RX9, .instanceMethod yX3_init, .code yX3_init cX3_init 1 (none), .methodLink RX3 3 objectInit, .fieldLink RX3 9 RX3 "night" "[I", .fieldLink RX9 162 RX3 "night" "[I", .fieldLink RX3 15 RX3 "place" "[I", .fieldLink RX9 165 RX3 "place" "[I", .fieldLink RX3 18 RX3 "harms" "[I"]
def wq5 : List Cond := [.fieldLink RX9 168 RX3 "harms" "[I", .fieldLink RX3 21 RX3 "namer" "[I", .fieldLink RX9 171 RX3 "namer" "[I", .fieldLink RX3 24 RX3 "calls" "[I", .fieldLink RX9 174 RX3 "calls" "[I", .fieldLink RX3 27 RX3 "lain" "I", .fieldLink RX9 181 RX3 "lain" "I", .fieldLink RX3 31 RX3 "sum" "I", .fieldLink RX3 34 RX3 "deepest" "I", .fieldLink RX4 51 RX3 "deepest" "I", .laysFinal RX3 RX3 "night" "[I", .soleField RX3 "night", .laysFinal RX3 RX3 "place" "[I", .soleField RX3 "place", .laysFinal RX3 RX3 "harms" "[I", .soleField RX3 "harms", .laysFinal RX3 RX3 "namer" "[I", .soleField RX3 "namer", .laysFinal RX3 RX3 "calls" "[I", .soleField RX3 "calls"]
def wq6 : List Cond := [.lays RX3 RX3 "lain" "I", .soleField RX3 "lain", .lays RX3 RX3 "sum" "I", .soleField RX3 "sum", .lays RX3 RX3 "deepest" "I", .soleField RX3 "deepest", .superclass RX3 "java/lang/Object", .classLink RX9 25 RX1, .instantiable RX1 4, .methodLinkNest RX9 27 yX1_init RX9, .instanceMethod yX1_init, .code yX1_init cX1_init 1 (none), .methodLink RX1 3 objectInit, .fieldLink RX1 9 RX1 "whats" "[I", .fieldLink RX1 15 RX1 "guests" "[I", .fieldLink RX1 18 RX1 "olds" "[I", .fieldLink RX1 21 RX1 "size" "I", .fieldLink RX9 99 RX1 "size" "I", .laysFinal RX1 RX1 "whats" "[I", .soleField RX1 "whats"]
def wq7 : List Cond := [.laysFinal RX1 RX1 "guests" "[I", .soleField RX1 "guests", .laysFinal RX1 RX1 "olds" "[I", .soleField RX1 "olds", .lays RX1 RX1 "size" "I", .soleField RX1 "size", .superclass RX1 "java/lang/Object", .classLink RX9 32 RX8, .instantiable RX8 4, .methodLinkNest RX9 34 yX8_init RX9, .instanceMethod yX8_init, .code yX8_init cX8_init 1 (none), .methodLink RX8 3 objectInit, .classLink RX8 9 "[[I", .arrayOver (Jvm.ClassFile.FieldType.array Jvm.ClassFile.FieldType.int), .fieldLink RX8 11 RX8 "rows" "[[I", .fieldLink RX8 16 RX8 "worn" "[[I", .fieldLink RX8 19 RX8 "comes" "[[I", .fieldLink RX8 22 RX8 "size" "I", .fieldLink RX9 100 RX8 "size" "I"]
def wq8 : List Cond := [.laysFinal RX8 RX8 "rows" "[[I", .soleField RX8 "rows", .laysFinal RX8 RX8 "worn" "[[I", .soleField RX8 "worn", .laysFinal RX8 RX8 "comes" "[[I", .soleField RX8 "comes", .lays RX8 RX8 "size" "I", .soleField RX8 "size", .superclass RX8 "java/lang/Object", .classLink RX9 39 RX6, .instantiable RX6 5, .methodLinkNest RX9 41 yX6_init RX9, .instanceMethod yX6_init, .code yX6_init cX6_init 1 (none), .methodLink RX6 3 objectInit, .fieldLink RX6 9 RX6 "beds" "[I", .fieldLink RX6 15 RX6 "nights" "[I", .fieldLink RX6 18 RX6 "harms" "[I", .fieldLink RX6 21 RX6 "waysBySet" "[I", .fieldLink RX6 24 RX6 "size" "I"]
def wq9 : List Cond := [.fieldLink RX9 101 RX6 "size" "I", .laysFinal RX6 RX6 "beds" "[I", .soleField RX6 "beds", .laysFinal RX6 RX6 "nights" "[I", .soleField RX6 "nights", .laysFinal RX6 RX6 "harms" "[I", .soleField RX6 "harms", .laysFinal RX6 RX6 "waysBySet" "[I", .soleField RX6 "waysBySet", .lays RX6 RX6 "size" "I", .soleField RX6 "size", .superclass RX6 "java/lang/Object", .classLink RX9 46 RX4, .instantiable RX4 4, .methodLinkNest RX9 48 yX4_init RX9, .instanceMethod yX4_init, .code yX4_init cX4_init 1 (none), .methodLink RX4 3 objectInit, .fieldLink RX4 9 RX4 "row" "[I", .fieldLink RX9 212 RX4 "row" "[I"]
def wq10 : List Cond := [.fieldLink RX4 15 RX4 "asIs" "[I", .fieldLink RX4 38 RX4 "least" "I", .fieldLink RX9 209 RX4 "least" "I", .fieldLink RX4 58 RX4 "known" "Z", .fieldLink RX9 102 RX4 "known" "Z", .laysFinal RX4 RX4 "row" "[I", .soleField RX4 "row", .laysFinal RX4 RX4 "asIs" "[I", .soleField RX4 "asIs", .lays RX4 RX4 "least" "I", .soleField RX4 "least", .lays RX4 RX4 "known" "Z", .soleField RX4 "known", .superclass RX4 "java/lang/Object", .classLink RX9 57 RX2, .instantiable RX2 5, .methodLinkNest RX9 59 yX2_init RX9, .instanceMethod yX2_init, .code yX2_init cX2_init 1 (none), .methodLink RX2 3 objectInit]
def wq11 : List Cond := [.classLink RX2 9 RX0, .instantiable RX0 7, .methodLinkNest RX2 11 yX0_init RX9, .instanceMethod yX0_init, .code yX0_init cX0_init 1 (none), .methodLink RX0 3 objectInit, .fieldLink RX0 9 RX0 "lengths" "[I", .fieldLink RX9 218 RX0 "lengths" "[I", .fieldLink RX0 15 RX0 "longer" "[I", .fieldLink RX0 22 RX0 "size" "I", .fieldLink RX2 42 RX0 "size" "I", .fieldLink RX9 237 RX0 "size" "I", .fieldLink RX0 28 RX0 "feasts" "I", .fieldLink RX9 280 RX0 "feasts" "I", .fieldLink RX0 25 RX0 "open" "I", .fieldLink RX3 61 RX0 "open" "I", .fieldLink RX9 238 RX0 "open" "I", .fieldLink RX0 35 RX0 "turning" "Z", .fieldLink RX9 245 RX0 "turning" "Z", .fieldLink RX0 18 RX0 "year" "I"]
def wq12 : List Cond := [.fieldLink RX9 271 RX0 "year" "I", .laysFinal RX0 RX0 "lengths" "[I", .soleField RX0 "lengths", .laysFinal RX0 RX0 "longer" "[I", .soleField RX0 "longer", .lays RX0 RX0 "size" "I", .soleField RX0 "size", .lays RX0 RX0 "feasts" "I", .soleField RX0 "feasts", .lays RX0 RX0 "open" "I", .soleField RX0 "open", .lays RX0 RX0 "turning" "Z", .soleField RX0 "turning", .lays RX0 RX0 "year" "I", .soleField RX0 "year", .superclass RX0 "java/lang/Object", .classLink RX2 18 RX5, .instantiable RX5 7, .methodLinkNest RX2 20 yX5_init RX9, .instanceMethod yX5_init]
def wq13 : List Cond := [.code yX5_init cX5_init 1 (none), .methodLink RX5 3 objectInit, .fieldLink RX5 9 RX5 "inches" "[I", .fieldLink RX9 131 RX5 "inches" "[I", .fieldLink RX5 15 RX5 "comes" "[I", .fieldLink RX8 40 RX5 "comes" "[I", .fieldLink RX1 45 RX5 "comes" "[I", .fieldLink RX9 134 RX5 "comes" "[I", .fieldLink RX2 79 RX5 "comes" "[I", .fieldLink RX5 18 RX5 "kinds" "[I", .fieldLink RX9 137 RX5 "kinds" "[I", .fieldLink RX5 21 RX5 "friends" "[I", .fieldLink RX2 75 RX5 "friends" "[I", .fieldLink RX9 143 RX5 "friends" "[I", .fieldLink RX5 24 RX5 "worn" "[I", .fieldLink RX8 38 RX5 "worn" "[I", .fieldLink RX1 42 RX5 "worn" "[I", .fieldLink RX9 140 RX5 "worn" "[I", .fieldLink RX5 27 RX5 "row" "[I", .fieldLink RX4 24 RX5 "row" "[I"]
set_option maxRecDepth 100000 in
set_option maxHeartbeats 4000000 in
theorem wqE1 : tables_1_1 = wq2 ++ (wq3 ++ (wq4 ++ (wq5 ++ (wq6 ++ (wq7 ++ (wq8 ++ (wq9 ++ (wq10 ++ (wq11 ++ (wq12 ++ (wq13))))))))))) := rfl
theorem wqI1 : ∀ w ∈ tables_1_1, w ∈ lw_tbl := fun w h => List.mem_append_right _ (List.mem_append_left _ h)
theorem wqM2 : ∀ w ∈ wq2, w ∈ lw_tbl := fun w h => wqI1 w (by rw [wqE1]; exact List.mem_append_left _ h)
theorem wqG2 {i : Nat} {w : Cond} (h : wq2[i]? = some w) (g : goodWord w = true) : w ∈ GW := List.mem_filter.mpr ⟨wqM2 w (List.mem_of_getElem? h), g⟩
theorem wqM3 : ∀ w ∈ wq3, w ∈ lw_tbl := fun w h => wqI1 w (by rw [wqE1]; exact List.mem_append_right _ (List.mem_append_left _ h))
theorem wqG3 {i : Nat} {w : Cond} (h : wq3[i]? = some w) (g : goodWord w = true) : w ∈ GW := List.mem_filter.mpr ⟨wqM3 w (List.mem_of_getElem? h), g⟩
theorem wqM4 : ∀ w ∈ wq4, w ∈ lw_tbl := fun w h => wqI1 w (by rw [wqE1]; exact List.mem_append_right _ (List.mem_append_right _ (List.mem_append_left _ h)))
theorem wqG4 {i : Nat} {w : Cond} (h : wq4[i]? = some w) (g : goodWord w = true) : w ∈ GW := List.mem_filter.mpr ⟨wqM4 w (List.mem_of_getElem? h), g⟩
theorem wqM5 : ∀ w ∈ wq5, w ∈ lw_tbl := fun w h => wqI1 w (by rw [wqE1]; exact List.mem_append_right _ (List.mem_append_right _ (List.mem_append_right _ (List.mem_append_left _ h))))
theorem wqG5 {i : Nat} {w : Cond} (h : wq5[i]? = some w) (g : goodWord w = true) : w ∈ GW := List.mem_filter.mpr ⟨wqM5 w (List.mem_of_getElem? h), g⟩
theorem wqM6 : ∀ w ∈ wq6, w ∈ lw_tbl := fun w h => wqI1 w (by rw [wqE1]; exact List.mem_append_right _ (List.mem_append_right _ (List.mem_append_right _ (List.mem_append_right _ (List.mem_append_left _ h)))))
theorem wqG6 {i : Nat} {w : Cond} (h : wq6[i]? = some w) (g : goodWord w = true) : w ∈ GW := List.mem_filter.mpr ⟨wqM6 w (List.mem_of_getElem? h), g⟩
theorem wqM7 : ∀ w ∈ wq7, w ∈ lw_tbl := fun w h => wqI1 w (by rw [wqE1]; exact List.mem_append_right _ (List.mem_append_right _ (List.mem_append_right _ (List.mem_append_right _ (List.mem_append_right _ (List.mem_append_left _ h))))))
theorem wqG7 {i : Nat} {w : Cond} (h : wq7[i]? = some w) (g : goodWord w = true) : w ∈ GW := List.mem_filter.mpr ⟨wqM7 w (List.mem_of_getElem? h), g⟩
theorem wqM8 : ∀ w ∈ wq8, w ∈ lw_tbl := fun w h => wqI1 w (by rw [wqE1]; exact List.mem_append_right _ (List.mem_append_right _ (List.mem_append_right _ (List.mem_append_right _ (List.mem_append_right _ (List.mem_append_right _ (List.mem_append_left _ h)))))))
theorem wqG8 {i : Nat} {w : Cond} (h : wq8[i]? = some w) (g : goodWord w = true) : w ∈ GW := List.mem_filter.mpr ⟨wqM8 w (List.mem_of_getElem? h), g⟩
theorem wqM9 : ∀ w ∈ wq9, w ∈ lw_tbl := fun w h => wqI1 w (by rw [wqE1]; exact List.mem_append_right _ (List.mem_append_right _ (List.mem_append_right _ (List.mem_append_right _ (List.mem_append_right _ (List.mem_append_right _ (List.mem_append_right _ (List.mem_append_left _ h))))))))
theorem wqG9 {i : Nat} {w : Cond} (h : wq9[i]? = some w) (g : goodWord w = true) : w ∈ GW := List.mem_filter.mpr ⟨wqM9 w (List.mem_of_getElem? h), g⟩
theorem wqM10 : ∀ w ∈ wq10, w ∈ lw_tbl := fun w h => wqI1 w (by rw [wqE1]; exact List.mem_append_right _ (List.mem_append_right _ (List.mem_append_right _ (List.mem_append_right _ (List.mem_append_right _ (List.mem_append_right _ (List.mem_append_right _ (List.mem_append_right _ (List.mem_append_left _ h)))))))))
theorem wqG10 {i : Nat} {w : Cond} (h : wq10[i]? = some w) (g : goodWord w = true) : w ∈ GW := List.mem_filter.mpr ⟨wqM10 w (List.mem_of_getElem? h), g⟩
theorem wqM11 : ∀ w ∈ wq11, w ∈ lw_tbl := fun w h => wqI1 w (by rw [wqE1]; exact List.mem_append_right _ (List.mem_append_right _ (List.mem_append_right _ (List.mem_append_right _ (List.mem_append_right _ (List.mem_append_right _ (List.mem_append_right _ (List.mem_append_right _ (List.mem_append_right _ (List.mem_append_left _ h))))))))))
theorem wqG11 {i : Nat} {w : Cond} (h : wq11[i]? = some w) (g : goodWord w = true) : w ∈ GW := List.mem_filter.mpr ⟨wqM11 w (List.mem_of_getElem? h), g⟩
theorem wqM12 : ∀ w ∈ wq12, w ∈ lw_tbl := fun w h => wqI1 w (by rw [wqE1]; exact List.mem_append_right _ (List.mem_append_right _ (List.mem_append_right _ (List.mem_append_right _ (List.mem_append_right _ (List.mem_append_right _ (List.mem_append_right _ (List.mem_append_right _ (List.mem_append_right _ (List.mem_append_right _ (List.mem_append_left _ h)))))))))))
theorem wqG12 {i : Nat} {w : Cond} (h : wq12[i]? = some w) (g : goodWord w = true) : w ∈ GW := List.mem_filter.mpr ⟨wqM12 w (List.mem_of_getElem? h), g⟩
theorem wqM13 : ∀ w ∈ wq13, w ∈ lw_tbl := fun w h => wqI1 w (by rw [wqE1]; exact List.mem_append_right _ (List.mem_append_right _ (List.mem_append_right _ (List.mem_append_right _ (List.mem_append_right _ (List.mem_append_right _ (List.mem_append_right _ (List.mem_append_right _ (List.mem_append_right _ (List.mem_append_right _ (List.mem_append_right _ (h))))))))))))
theorem wqG13 {i : Nat} {w : Cond} (h : wq13[i]? = some w) (g : goodWord w = true) : w ∈ GW := List.mem_filter.mpr ⟨wqM13 w (List.mem_of_getElem? h), g⟩
def wq14 : List Cond := [.fieldLink RX8 26 RX5 "row" "[I", .fieldLink RX3 89 RX5 "row" "[I", .fieldLink RX5 30 RX5 "size" "I", .fieldLink RX2 32 RX5 "size" "I", .fieldLink RX4 33 RX5 "size" "I", .fieldLink RX3 86 RX5 "size" "I", .fieldLink RX6 49 RX5 "size" "I", .fieldLink RX9 110 RX5 "size" "I", .laysFinal RX5 RX5 "inches" "[I", .soleField RX5 "inches", .laysFinal RX5 RX5 "comes" "[I", .soleField RX5 "comes", .laysFinal RX5 RX5 "kinds" "[I", .soleField RX5 "kinds", .laysFinal RX5 RX5 "friends" "[I", .soleField RX5 "friends", .laysFinal RX5 RX5 "worn" "[I", .soleField RX5 "worn", .laysFinal RX5 RX5 "row" "[I", .soleField RX5 "row"]
def wq15 : List Cond := [.lays RX5 RX5 "size" "I", .soleField RX5 "size", .superclass RX5 "java/lang/Object", .fieldLink RX2 12 RX2 "beds" "LBedsThatFit$Beds;", .fieldLink RX3 57 RX2 "beds" "LBedsThatFit$Beds;", .fieldLink RX6 28 RX2 "beds" "LBedsThatFit$Beds;", .fieldLink RX9 113 RX2 "beds" "LBedsThatFit$Beds;", .fieldLink RX2 21 RX2 "party" "LBedsThatFit$Party;", .fieldLink RX4 18 RX2 "party" "LBedsThatFit$Party;", .fieldLink RX3 37 RX2 "party" "LBedsThatFit$Party;", .fieldLink RX6 39 RX2 "party" "LBedsThatFit$Party;", .fieldLink RX9 106 RX2 "party" "LBedsThatFit$Party;", .fieldLink RX2 25 RX2 "rivalLengths" "[I", .fieldLink RX2 36 RX2 "rivals" "I", .fieldLink RX9 283 RX2 "rivals" "I", .fieldLink RX2 39 RX2 "law" "I", .fieldLink RX9 221 RX2 "law" "I", .laysFinal RX2 RX2 "beds" "LBedsThatFit$Beds;", .soleField RX2 "beds", .laysFinal RX2 RX2 "party" "LBedsThatFit$Party;"]
def wq16 : List Cond := [.soleField RX2 "party", .laysFinal RX2 RX2 "rivalLengths" "[I", .soleField RX2 "rivalLengths", .lays RX2 RX2 "rivals" "I", .soleField RX2 "rivals", .lays RX2 RX2 "law" "I", .soleField RX2 "law", .superclass RX2 "java/lang/Object", .stringRef RX9 67 "b60;b72;g66,0,0;g60,0,0;g75,0,0;h0,1;h0,2;", .methodLink RX9 69 yJ0_length_8abf5, .instanceMethod yJ0_length_8abf5, .selects RJ0 yJ0_length_8abf5 yJ0_length_8abf5, .code yJ0_length_8abf5 cJ0_length_8abf5 1 (some .int), .methodLink RJ0 335 yJ0_coder_7d493, .instanceMethod yJ0_coder_7d493, .selects RJ0 yJ0_coder_7d493 yJ0_coder_7d493, .code yJ0_coder_7d493 cJ0_coder_7d493 1 (some .byte), .fieldLink RJ0 38 RJ0 "COMPACT_STRINGS" "Z", .laysStatic RJ0 "COMPACT_STRINGS" "Z", .methodLink RX9 75 yJ0_charAt_5068e]
def wq17 : List Cond := [.instanceMethod yJ0_charAt_5068e, .selects RJ0 yJ0_charAt_5068e yJ0_charAt_5068e, .code yJ0_charAt_5068e cJ0_charAt_5068e 2 (some .char), .methodLink RJ0 492 yJ0_isLatin1_aae02, .instanceMethod yJ0_isLatin1_aae02, .selects RJ0 yJ0_isLatin1_aae02 yJ0_isLatin1_aae02, .code yJ0_isLatin1_aae02 cJ0_isLatin1_aae02 1 (some .boolean), .methodLink RJ0 495 yJ1_charAt_3b067, .static yJ1_charAt_3b067, .code yJ1_charAt_3b067 cJ1_charAt_3b067 2 (some .char), .methodLink RJ1 9 yJ0_checkIndex_df160, .static yJ0_checkIndex_df160, .code yJ0_checkIndex_df160 cJ0_checkIndex_df160 2 (none), .fieldLink RJ0 1053 RJ3 "SIOOBE_FORMATTER" "Ljava/util/function/BiFunction;", .laysStatic RJ3 "SIOOBE_FORMATTER" "Ljava/util/function/BiFunction;", .methodLink RJ0 1059 yJ3_checkIndex_8e157, .static yJ3_checkIndex_8e157, .code yJ3_checkIndex_8e157 cJ3_checkIndex_8e157 3 (some .int), .methodLink RJ0 498 yJ2_charAt_3b067, .static yJ2_charAt_3b067]
def wq18 : List Cond := [.code yJ2_charAt_3b067 cJ2_charAt_3b067 2 (some .char), .methodLink RJ2 67 yJ2_checkIndex_2214a, .static yJ2_checkIndex_2214a, .code yJ2_checkIndex_2214a cJ2_checkIndex_2214a 2 (none), .methodLink RJ2 48 yJ2_length_9d52b, .static yJ2_length_9d52b, .code yJ2_length_9d52b cJ2_length_9d52b 1 (some .int), .methodLink RJ2 414 yJ0_checkIndex_df160, .methodLink RJ2 71 yJ2_getChar_3b067, .static yJ2_getChar_3b067, .code yJ2_getChar_3b067 cJ2_getChar_3b067 2 (some .char), .fieldLink RJ2 44 RJ2 "$assertionsDisabled" "Z", .laysStatic RJ2 "$assertionsDisabled" "Z", .fieldLink RJ2 59 RJ2 "HI_BYTE_SHIFT" "I", .laysStatic RJ2 "HI_BYTE_SHIFT" "I", .fieldLink RJ2 63 RJ2 "LO_BYTE_SHIFT" "I", .laysStatic RJ2 "LO_BYTE_SHIFT" "I", .methodLink RX9 79 yX7_put, .instanceMethod yX7_put, .selects RX7 yX7_put yX7_put]
def wq19 : List Cond := [.code yX7_put cX7_put 2 (some .boolean), .methodLink RX9 83 yX7_readInto, .instanceMethod yX7_readInto, .selects RX7 yX7_readInto yX7_readInto, .code yX7_readInto cX7_readInto 5 (some .int), .methodLink RX7 23 yX2_clear, .instanceMethod yX2_clear, .selects RX2 yX2_clear yX2_clear, .code yX2_clear cX2_clear 1 (none), .methodLink RX2 29 yX0_clear, .instanceMethod yX0_clear, .selects RX0 yX0_clear yX0_clear, .code yX0_clear cX0_clear 2 (none), .methodLink RX7 28 yX7_readNumbers, .privateMethod yX7_readNumbers, .instanceMethod yX7_readNumbers, .code yX7_readNumbers cX7_readNumbers 4 (some .int), .methodLink RX7 42 yX7_isFigure, .privateMethod yX7_isFigure, .instanceMethod yX7_isFigure]
def wq20 : List Cond := [.code yX7_isFigure cX7_isFigure 2 (some .boolean), .methodLink RX7 32 yX7_letterAt, .privateMethod yX7_letterAt, .instanceMethod yX7_letterAt, .code yX7_letterAt cX7_letterAt 2 (some .int), .methodLinkNest RX7 46 yX9_isWithin RX9, .static yX9_isWithin, .code yX9_isWithin cX9_isWithin 3 (some .boolean), .methodLink RX7 38 yX2_tell, .instanceMethod yX2_tell, .selects RX2 yX2_tell yX2_tell, .code yX2_tell cX2_tell 6 (some .boolean), .methodLinkNest RX2 43 yX9_isLength RX9, .static yX9_isLength, .code yX9_isLength cX9_isLength 1 (some .boolean), .methodLink RX9 91 yX9_isWithin, .methodLink RX2 47 yX0_add, .instanceMethod yX0_add, .selects RX0 yX0_add yX0_add, .code yX0_add cX0_add 2 (some .boolean)]
def wq21 : List Cond := [.methodLinkNest RX2 50 yX9_isNight RX9, .static yX9_isNight, .code yX9_isNight cX9_isNight 1 (some .boolean), .methodLinkNest RX2 53 yX9_isWithin RX9, .methodLink RX2 57 yX0_addFeast, .instanceMethod yX0_addFeast, .selects RX0 yX0_addFeast yX0_addFeast, .code yX0_addFeast cX0_addFeast 3 (some .boolean), .methodLinkNest RX0 31 yX9_isNight RX9, .methodLink RX2 61 yX5_add, .instanceMethod yX5_add, .selects RX5 yX5_add yX5_add, .code yX5_add cX5_add 4 (some .boolean), .methodLink RX2 63 yX5_befriend, .instanceMethod yX5_befriend, .selects RX5 yX5_befriend yX5_befriend, .code yX5_befriend cX5_befriend 3 (some .boolean), .methodLink RX5 34 yX5_has, .instanceMethod yX5_has, .selects RX5 yX5_has yX5_has]
def wq22 : List Cond := [.code yX5_has cX5_has 2 (some .boolean), .methodLink RX2 66 yX2_enact, .privateMethod yX2_enact, .instanceMethod yX2_enact, .code yX2_enact cX2_enact 2 (some .boolean), .methodLink RX2 69 yX2_addRival, .privateMethod yX2_addRival, .instanceMethod yX2_addRival, .code yX2_addRival cX2_addRival 2 (some .boolean), .fieldLink RX9 12 RX9 "script" "LBedsThatFit$Script;", .fieldLink RX9 21 RX9 "nights" "LBedsThatFit$Nights;", .fieldLink RX9 28 RX9 "changes" "LBedsThatFit$Changes;", .fieldLink RX9 35 RX9 "shelf" "LBedsThatFit$Shelf;", .fieldLink RX9 42 RX9 "remains" "LBedsThatFit$Remains;", .fieldLink RX9 49 RX9 "orders" "LBedsThatFit$Orders;", .fieldLink RX9 53 RX9 "harmsNow" "[I", .fieldLink RX9 60 RX9 "inn" "LBedsThatFit$Inn;", .fieldLink RX9 64 RX9 "draft" "LBedsThatFit$Inn;", .laysFinal RX9 RX9 "script" "LBedsThatFit$Script;", .soleField RX9 "script"]
def wq23 : List Cond := [.laysFinal RX9 RX9 "nights" "LBedsThatFit$Nights;", .soleField RX9 "nights", .laysFinal RX9 RX9 "changes" "LBedsThatFit$Changes;", .soleField RX9 "changes", .laysFinal RX9 RX9 "shelf" "LBedsThatFit$Shelf;", .soleField RX9 "shelf", .laysFinal RX9 RX9 "remains" "LBedsThatFit$Remains;", .soleField RX9 "remains", .laysFinal RX9 RX9 "orders" "LBedsThatFit$Orders;", .soleField RX9 "orders", .laysFinal RX9 RX9 "harmsNow" "[I", .soleField RX9 "harmsNow", .lays RX9 RX9 "inn" "LBedsThatFit$Inn;", .soleField RX9 "inn", .lays RX9 RX9 "draft" "LBedsThatFit$Inn;", .soleField RX9 "draft", .superclass RX9 "java/lang/Object", .arrayClass Jvm.ClassFile.FieldType.byte, .methodLink RL 13 yX9_write, .instanceMethod yX9_write]
def wq24 : List Cond := [.selects RX9 yX9_write yX9_write, .code yX9_write cX9_write 2 (some .int), .methodLink RL 18 yX9_wipe, .instanceMethod yX9_wipe, .selects RX9 yX9_wipe yX9_wipe, .code yX9_wipe cX9_wipe 2 (some .int), .methodLink RL 23 yX9_fault, .instanceMethod yX9_fault, .selects RX9 yX9_fault yX9_fault, .code yX9_fault cX9_fault 1 (some .int), .methodLink RL 27 yX9_lay, .instanceMethod yX9_lay, .selects RX9 yX9_lay yX9_lay, .code yX9_lay cX9_lay 2 (some .int), .methodLink RX9 95 yX2_canOpen, .instanceMethod yX2_canOpen, .selects RX2 yX2_canOpen yX2_canOpen, .code yX2_canOpen cX2_canOpen 1 (some .boolean), .methodLink RL 31 yX9_bed, .instanceMethod yX9_bed]
def wq25 : List Cond := [.selects RX9 yX9_bed yX9_bed, .code yX9_bed cX9_bed 3 (some .int), .methodLink RX9 117 yX0_has, .instanceMethod yX0_has, .selects RX0 yX0_has yX0_has, .code yX0_has cX0_has 2 (some .boolean), .methodLink RX9 123 yX9_isNight, .methodLink RX9 126 yX0_lengthOn, .instanceMethod yX0_lengthOn, .selects RX0 yX0_lengthOn yX0_lengthOn, .code yX0_lengthOn cX0_lengthOn 5 (some .int), .methodLink RX0 39 yX0_has, .methodLink RX0 42 yX0_drawn, .privateMethod yX0_drawn, .instanceMethod yX0_drawn, .code yX0_drawn cX0_drawn 5 (some .int), .constantLong RX0 46 7919, .constantLong RX0 48 6151, .constantLong RX0 50 101, .constantLong RX0 52 65521]
set_option maxRecDepth 100000 in
set_option maxHeartbeats 4000000 in
theorem wqE2 : tables_1_2 = wq14 ++ (wq15 ++ (wq16 ++ (wq17 ++ (wq18 ++ (wq19 ++ (wq20 ++ (wq21 ++ (wq22 ++ (wq23 ++ (wq24 ++ (wq25))))))))))) := rfl
theorem wqI2 : ∀ w ∈ tables_1_2, w ∈ lw_tbl := fun w h => List.mem_append_right _ (List.mem_append_right _ (List.mem_append_left _ h))
theorem wqM14 : ∀ w ∈ wq14, w ∈ lw_tbl := fun w h => wqI2 w (by rw [wqE2]; exact List.mem_append_left _ h)
theorem wqG14 {i : Nat} {w : Cond} (h : wq14[i]? = some w) (g : goodWord w = true) : w ∈ GW := List.mem_filter.mpr ⟨wqM14 w (List.mem_of_getElem? h), g⟩
theorem wqM15 : ∀ w ∈ wq15, w ∈ lw_tbl := fun w h => wqI2 w (by rw [wqE2]; exact List.mem_append_right _ (List.mem_append_left _ h))
theorem wqG15 {i : Nat} {w : Cond} (h : wq15[i]? = some w) (g : goodWord w = true) : w ∈ GW := List.mem_filter.mpr ⟨wqM15 w (List.mem_of_getElem? h), g⟩
theorem wqM16 : ∀ w ∈ wq16, w ∈ lw_tbl := fun w h => wqI2 w (by rw [wqE2]; exact List.mem_append_right _ (List.mem_append_right _ (List.mem_append_left _ h)))
theorem wqG16 {i : Nat} {w : Cond} (h : wq16[i]? = some w) (g : goodWord w = true) : w ∈ GW := List.mem_filter.mpr ⟨wqM16 w (List.mem_of_getElem? h), g⟩
theorem wqM17 : ∀ w ∈ wq17, w ∈ lw_tbl := fun w h => wqI2 w (by rw [wqE2]; exact List.mem_append_right _ (List.mem_append_right _ (List.mem_append_right _ (List.mem_append_left _ h))))
theorem wqG17 {i : Nat} {w : Cond} (h : wq17[i]? = some w) (g : goodWord w = true) : w ∈ GW := List.mem_filter.mpr ⟨wqM17 w (List.mem_of_getElem? h), g⟩
theorem wqM18 : ∀ w ∈ wq18, w ∈ lw_tbl := fun w h => wqI2 w (by rw [wqE2]; exact List.mem_append_right _ (List.mem_append_right _ (List.mem_append_right _ (List.mem_append_right _ (List.mem_append_left _ h)))))
theorem wqG18 {i : Nat} {w : Cond} (h : wq18[i]? = some w) (g : goodWord w = true) : w ∈ GW := List.mem_filter.mpr ⟨wqM18 w (List.mem_of_getElem? h), g⟩
theorem wqM19 : ∀ w ∈ wq19, w ∈ lw_tbl := fun w h => wqI2 w (by rw [wqE2]; exact List.mem_append_right _ (List.mem_append_right _ (List.mem_append_right _ (List.mem_append_right _ (List.mem_append_right _ (List.mem_append_left _ h))))))
theorem wqG19 {i : Nat} {w : Cond} (h : wq19[i]? = some w) (g : goodWord w = true) : w ∈ GW := List.mem_filter.mpr ⟨wqM19 w (List.mem_of_getElem? h), g⟩
theorem wqM20 : ∀ w ∈ wq20, w ∈ lw_tbl := fun w h => wqI2 w (by rw [wqE2]; exact List.mem_append_right _ (List.mem_append_right _ (List.mem_append_right _ (List.mem_append_right _ (List.mem_append_right _ (List.mem_append_right _ (List.mem_append_left _ h)))))))
theorem wqG20 {i : Nat} {w : Cond} (h : wq20[i]? = some w) (g : goodWord w = true) : w ∈ GW := List.mem_filter.mpr ⟨wqM20 w (List.mem_of_getElem? h), g⟩
theorem wqM21 : ∀ w ∈ wq21, w ∈ lw_tbl := fun w h => wqI2 w (by rw [wqE2]; exact List.mem_append_right _ (List.mem_append_right _ (List.mem_append_right _ (List.mem_append_right _ (List.mem_append_right _ (List.mem_append_right _ (List.mem_append_right _ (List.mem_append_left _ h))))))))
theorem wqG21 {i : Nat} {w : Cond} (h : wq21[i]? = some w) (g : goodWord w = true) : w ∈ GW := List.mem_filter.mpr ⟨wqM21 w (List.mem_of_getElem? h), g⟩
theorem wqM22 : ∀ w ∈ wq22, w ∈ lw_tbl := fun w h => wqI2 w (by rw [wqE2]; exact List.mem_append_right _ (List.mem_append_right _ (List.mem_append_right _ (List.mem_append_right _ (List.mem_append_right _ (List.mem_append_right _ (List.mem_append_right _ (List.mem_append_right _ (List.mem_append_left _ h)))))))))
theorem wqG22 {i : Nat} {w : Cond} (h : wq22[i]? = some w) (g : goodWord w = true) : w ∈ GW := List.mem_filter.mpr ⟨wqM22 w (List.mem_of_getElem? h), g⟩
theorem wqM23 : ∀ w ∈ wq23, w ∈ lw_tbl := fun w h => wqI2 w (by rw [wqE2]; exact List.mem_append_right _ (List.mem_append_right _ (List.mem_append_right _ (List.mem_append_right _ (List.mem_append_right _ (List.mem_append_right _ (List.mem_append_right _ (List.mem_append_right _ (List.mem_append_right _ (List.mem_append_left _ h))))))))))
theorem wqG23 {i : Nat} {w : Cond} (h : wq23[i]? = some w) (g : goodWord w = true) : w ∈ GW := List.mem_filter.mpr ⟨wqM23 w (List.mem_of_getElem? h), g⟩
theorem wqM24 : ∀ w ∈ wq24, w ∈ lw_tbl := fun w h => wqI2 w (by rw [wqE2]; exact List.mem_append_right _ (List.mem_append_right _ (List.mem_append_right _ (List.mem_append_right _ (List.mem_append_right _ (List.mem_append_right _ (List.mem_append_right _ (List.mem_append_right _ (List.mem_append_right _ (List.mem_append_right _ (List.mem_append_left _ h)))))))))))
theorem wqG24 {i : Nat} {w : Cond} (h : wq24[i]? = some w) (g : goodWord w = true) : w ∈ GW := List.mem_filter.mpr ⟨wqM24 w (List.mem_of_getElem? h), g⟩
theorem wqM25 : ∀ w ∈ wq25, w ∈ lw_tbl := fun w h => wqI2 w (by rw [wqE2]; exact List.mem_append_right _ (List.mem_append_right _ (List.mem_append_right _ (List.mem_append_right _ (List.mem_append_right _ (List.mem_append_right _ (List.mem_append_right _ (List.mem_append_right _ (List.mem_append_right _ (List.mem_append_right _ (List.mem_append_right _ (h))))))))))))
theorem wqG25 {i : Nat} {w : Cond} (h : wq25[i]? = some w) (g : goodWord w = true) : w ∈ GW := List.mem_filter.mpr ⟨wqM25 w (List.mem_of_getElem? h), g⟩
def wq26 : List Cond := [.constantLong RX0 54 7, .methodLink RL 36 yX9_guest, .instanceMethod yX9_guest, .selects RX9 yX9_guest yX9_guest, .code yX9_guest cX9_guest 4 (some .int), .methodLink RX9 130 yX5_has, .methodLink RX9 146 yX5_placeOf, .instanceMethod yX5_placeOf, .selects RX5 yX5_placeOf yX5_placeOf, .code yX5_placeOf cX5_placeOf 3 (some .int), .methodLink RL 40 yX9_harm, .instanceMethod yX9_harm, .selects RX9 yX9_harm yX9_harm, .code yX9_harm cX9_harm 4 (some .int), .methodLink RX9 150 yX5_harmAt, .instanceMethod yX5_harmAt, .selects RX5 yX5_harmAt yX5_harmAt, .code yX5_harmAt cX5_harmAt 5 (some .int), .methodLink RX5 38 yJ9_max_7cf53, .static yJ9_max_7cf53]
def wq27 : List Cond := [.code yJ9_max_7cf53 cJ9_max_7cf53 2 (some .int), .methodLink RX5 44 yX5_harmBy, .static yX5_harmBy, .code yX5_harmBy cX5_harmBy 3 (some .int), .methodLink RL 45 yX9_lies, .instanceMethod yX9_lies, .selects RX9 yX9_lies yX9_lies, .code yX9_lies cX9_lies 3 (some .int), .constant RX9 154 2147483647, .methodLink RX9 155 yX3_pass, .instanceMethod yX3_pass, .selects RX3 yX3_pass yX3_pass, .code yX3_pass cX3_pass 5 (none), .methodLink RX3 43 yX5_everyone, .instanceMethod yX5_everyone, .selects RX5 yX5_everyone yX5_everyone, .code yX5_everyone cX5_everyone 1 (some .int), .methodLink RX3 49 yX3_fillBeds, .privateMethod yX3_fillBeds, .instanceMethod yX3_fillBeds]
def wq28 : List Cond := [.code yX3_fillBeds cX3_fillBeds 8 (none), .methodLink RX3 53 yX5_hereBy, .instanceMethod yX5_hereBy, .selects RX5 yX5_hereBy yX5_hereBy, .code yX5_hereBy cX5_hereBy 4 (some .int), .methodLink RX3 66 yX3_callFirst, .privateMethod yX3_callFirst, .instanceMethod yX3_callFirst, .code yX3_callFirst cX3_callFirst 5 (some .int), .methodLink RX3 78 yX5_has, .methodLinkNest RX3 92 yX9_isIn RX9, .static yX9_isIn, .code yX9_isIn cX9_isIn 2 (some .boolean), .methodLink RX3 96 yJ9_max_7cf53, .methodLink RX3 70 yX0_lengthOn, .methodLink RX3 74 yX3_bestOf, .privateMethod yX3_bestOf, .instanceMethod yX3_bestOf, .code yX3_bestOf cX3_bestOf 11 (some .int), .methodLink RX3 101 yX2_namable]
def wq29 : List Cond := [.instanceMethod yX2_namable, .selects RX2 yX2_namable yX2_namable, .code yX2_namable cX2_namable 2 (some .int), .methodLink RX2 72 yX5_has, .methodLink RX3 82 yX5_harmAt, .methodLink RX9 159 yX3_hasLain, .instanceMethod yX3_hasLain, .selects RX3 yX3_hasLain yX3_hasLain, .code yX3_hasLain cX3_hasLain 2 (some .boolean), .methodLink RL 49 yX9_who, .instanceMethod yX9_who, .selects RX9 yX9_who yX9_who, .code yX9_who cX9_who 4 (some .int), .methodLink RL 53 yX9_all, .instanceMethod yX9_all, .selects RX9 yX9_all yX9_all, .code yX9_all cX9_all 2 (some .int), .methodLink RX9 177 yX3_total, .instanceMethod yX3_total, .selects RX3 yX3_total yX3_total]
def wq30 : List Cond := [.code yX3_total cX3_total 2 (some .int), .methodLink RX3 104 yJ6_bitCount_0f7a4, .static yJ6_bitCount_0f7a4, .code yJ6_bitCount_0f7a4 cJ6_bitCount_0f7a4 1 (some .int), .constant RJ6 265 1431655765, .constant RJ6 266 858993459, .constant RJ6 267 252645135, .methodLink RX9 184 yJ6_bitCount_0f7a4, .methodLink RX9 187 yX3_unharmed, .instanceMethod yX3_unharmed, .selects RX3 yX3_unharmed yX3_unharmed, .code yX3_unharmed cX3_unharmed 4 (some .int), .methodLink RX3 109 yX3_hasLain, .methodLink RX9 190 yX3_greatest, .instanceMethod yX3_greatest, .selects RX3 yX3_greatest yX3_greatest, .code yX3_greatest cX3_greatest 4 (some .int), .methodLink RL 57 yX9_move, .instanceMethod yX9_move, .selects RX9 yX9_move yX9_move]
def wq31 : List Cond := [.code yX9_move cX9_move 4 (some .int), .methodLink RX9 193 yX5_shift, .instanceMethod yX5_shift, .selects RX5 yX5_shift yX5_shift, .code yX5_shift cX5_shift 5 (none), .methodLink RX9 197 yX9_noteChange, .privateMethod yX9_noteChange, .instanceMethod yX9_noteChange, .code yX9_noteChange cX9_noteChange 4 (none), .methodLink RX9 286 yX1_push, .instanceMethod yX1_push, .selects RX1 yX1_push yX1_push, .code yX1_push cX1_push 4 (none), .methodLink RX1 25 yX1_dropOldest, .privateMethod yX1_dropOldest, .instanceMethod yX1_dropOldest, .code yX1_dropOldest cX1_dropOldest 2 (none), .methodLink RL 61 yX9_wear, .instanceMethod yX9_wear, .selects RX9 yX9_wear yX9_wear]
def wq32 : List Cond := [.code yX9_wear cX9_wear 4 (some .int), .methodLink RL 65 yX9_come, .instanceMethod yX9_come, .selects RX9 yX9_come yX9_come, .code yX9_come cX9_come 4 (some .int), .methodLink RL 69 yX9_undo, .instanceMethod yX9_undo, .selects RX9 yX9_undo yX9_undo, .code yX9_undo cX9_undo 1 (some .int), .methodLink RX9 201 yX1_takeBack, .instanceMethod yX1_takeBack, .selects RX1 yX1_takeBack yX1_takeBack, .code yX1_takeBack cX1_takeBack 3 (none), .methodLink RX1 28 yX5_has, .methodLink RX1 34 yX5_placeOf, .methodLink RX1 38 yX5_shift, .methodLink RL 73 yX9_order, .instanceMethod yX9_order, .selects RX9 yX9_order yX9_order, .code yX9_order cX9_order 2 (some .int)]
def wq33 : List Cond := [.methodLink RX9 205 yX4_search, .instanceMethod yX4_search, .selects RX4 yX4_search yX4_search, .code yX4_search cX4_search 7 (none), .methodLink RX4 27 arraycopyName, .static arraycopyName, .native arraycopyName, .constant RX4 37 2147483647, .methodLink RX4 41 yX3_pass, .methodLink RX4 47 yX3_total, .methodLink RX4 54 yX4_toNextRow, .static yX4_toNextRow, .code yX4_toNextRow cX4_toNextRow 4 (some .boolean), .methodLink RX4 62 yX4_letFall, .static yX4_letFall, .code yX4_letFall cX4_letFall 4 (none), .methodLink RX4 73 yJ9_max_7cf53, .methodLink RX4 66 yX4_swap, .static yX4_swap, .code yX4_swap cX4_swap 4 (none)]
def wq34 : List Cond := [.methodLink RX4 79 yX5_has, .methodLink RX4 70 yX4_turnRound, .static yX4_turnRound, .code yX4_turnRound cX4_turnRound 4 (none), .methodLink RL 77 yX9_cushion, .instanceMethod yX9_cushion, .selects RX9 yX9_cushion yX9_cushion, .code yX9_cushion cX9_cushion 9 (some .int), .methodLink RX9 215 yX9_sumBelow, .privateMethod yX9_sumBelow, .instanceMethod yX9_sumBelow, .code yX9_sumBelow cX9_sumBelow 2 (some .int), .methodLink RL 81 yX9_length, .instanceMethod yX9_length, .selects RX9 yX9_length yX9_length, .code yX9_length cX9_length 8 (some .int), .methodLink RL 85 yX9_law, .instanceMethod yX9_law, .selects RX9 yX9_law yX9_law, .code yX9_law cX9_law 6 (some .int)]
def wq35 : List Cond := [.methodLink RL 89 yX9_pairs, .instanceMethod yX9_pairs, .selects RX9 yX9_pairs yX9_pairs, .code yX9_pairs cX9_pairs 7 (some .int), .methodLink RX9 224 yX9_noteHarmsNow, .privateMethod yX9_noteHarmsNow, .instanceMethod yX9_noteHarmsNow, .code yX9_noteHarmsNow cX9_noteHarmsNow 1 (some .int), .methodLink RX9 289 arraycopyName, .methodLink RX9 227 yX9_isIn, .methodLink RX9 231 yX9_wouldSwap, .privateMethod yX9_wouldSwap, .instanceMethod yX9_wouldSwap, .code yX9_wouldSwap cX9_wouldSwap 3 (some .boolean), .methodLink RX9 295 yX5_swapPlaces, .instanceMethod yX5_swapPlaces, .selects RX5 yX5_swapPlaces yX5_swapPlaces, .code yX5_swapPlaces cX5_swapPlaces 5 (none), .methodLink RX5 47 yX5_placeOf, .methodLink RL 93 yX9_later]
def wq36 : List Cond := [.instanceMethod yX9_later, .selects RX9 yX9_later yX9_later, .code yX9_later cX9_later 7 (some .int), .methodLink RL 97 yX9_rival, .instanceMethod yX9_rival, .selects RX9 yX9_rival yX9_rival, .code yX9_rival cX9_rival 4 (some .int), .methodLink RX9 234 yX2_leastAtRival, .instanceMethod yX2_leastAtRival, .selects RX2 yX2_leastAtRival yX2_leastAtRival, .code yX2_leastAtRival cX2_leastAtRival 5 (some .int), .constant RX2 78 2147483647, .methodLink RX2 82 yX5_harmAt, .methodLink RX2 86 yJ9_min_7cf53, .static yJ9_min_7cf53, .code yJ9_min_7cf53 cJ9_min_7cf53 2 (some .int), .methodLink RL 101 yX9_fewest, .instanceMethod yX9_fewest, .selects RX9 yX9_fewest yX9_fewest, .code yX9_fewest cX9_fewest 4 (some .int)]
def wq37 : List Cond := [.methodLink RX9 241 yX3_allLainBy, .instanceMethod yX3_allLainBy, .selects RX3 yX3_allLainBy yX3_allLainBy, .code yX3_allLainBy cX3_allLainBy 4 (some .boolean), .methodLink RL 105 yX9_turned, .instanceMethod yX9_turned, .selects RX9 yX9_turned yX9_turned, .code yX9_turned cX9_turned 2 (some .int), .methodLink RL 109 yX9_left, .instanceMethod yX9_left, .selects RX9 yX9_left yX9_left, .code yX9_left cX9_left 4 (some .int), .methodLink RX9 248 yX6_add, .instanceMethod yX6_add, .selects RX6 yX6_add yX6_add, .code yX6_add cX6_add 4 (some .boolean), .methodLink RL 113 yX9_sweep, .instanceMethod yX9_sweep, .selects RX9 yX9_sweep yX9_sweep, .code yX9_sweep cX9_sweep 2 (some .int)]
set_option maxRecDepth 100000 in
set_option maxHeartbeats 4000000 in
theorem wqE3 : tables_1_3 = wq26 ++ (wq27 ++ (wq28 ++ (wq29 ++ (wq30 ++ (wq31 ++ (wq32 ++ (wq33 ++ (wq34 ++ (wq35 ++ (wq36 ++ (wq37))))))))))) := rfl
theorem wqI3 : ∀ w ∈ tables_1_3, w ∈ lw_tbl := fun w h => List.mem_append_right _ (List.mem_append_right _ (List.mem_append_right _ (List.mem_append_left _ h)))
theorem wqM26 : ∀ w ∈ wq26, w ∈ lw_tbl := fun w h => wqI3 w (by rw [wqE3]; exact List.mem_append_left _ h)
theorem wqG26 {i : Nat} {w : Cond} (h : wq26[i]? = some w) (g : goodWord w = true) : w ∈ GW := List.mem_filter.mpr ⟨wqM26 w (List.mem_of_getElem? h), g⟩
theorem wqM27 : ∀ w ∈ wq27, w ∈ lw_tbl := fun w h => wqI3 w (by rw [wqE3]; exact List.mem_append_right _ (List.mem_append_left _ h))
theorem wqG27 {i : Nat} {w : Cond} (h : wq27[i]? = some w) (g : goodWord w = true) : w ∈ GW := List.mem_filter.mpr ⟨wqM27 w (List.mem_of_getElem? h), g⟩
theorem wqM28 : ∀ w ∈ wq28, w ∈ lw_tbl := fun w h => wqI3 w (by rw [wqE3]; exact List.mem_append_right _ (List.mem_append_right _ (List.mem_append_left _ h)))
theorem wqG28 {i : Nat} {w : Cond} (h : wq28[i]? = some w) (g : goodWord w = true) : w ∈ GW := List.mem_filter.mpr ⟨wqM28 w (List.mem_of_getElem? h), g⟩
theorem wqM29 : ∀ w ∈ wq29, w ∈ lw_tbl := fun w h => wqI3 w (by rw [wqE3]; exact List.mem_append_right _ (List.mem_append_right _ (List.mem_append_right _ (List.mem_append_left _ h))))
theorem wqG29 {i : Nat} {w : Cond} (h : wq29[i]? = some w) (g : goodWord w = true) : w ∈ GW := List.mem_filter.mpr ⟨wqM29 w (List.mem_of_getElem? h), g⟩
theorem wqM30 : ∀ w ∈ wq30, w ∈ lw_tbl := fun w h => wqI3 w (by rw [wqE3]; exact List.mem_append_right _ (List.mem_append_right _ (List.mem_append_right _ (List.mem_append_right _ (List.mem_append_left _ h)))))
theorem wqG30 {i : Nat} {w : Cond} (h : wq30[i]? = some w) (g : goodWord w = true) : w ∈ GW := List.mem_filter.mpr ⟨wqM30 w (List.mem_of_getElem? h), g⟩
theorem wqM31 : ∀ w ∈ wq31, w ∈ lw_tbl := fun w h => wqI3 w (by rw [wqE3]; exact List.mem_append_right _ (List.mem_append_right _ (List.mem_append_right _ (List.mem_append_right _ (List.mem_append_right _ (List.mem_append_left _ h))))))
theorem wqG31 {i : Nat} {w : Cond} (h : wq31[i]? = some w) (g : goodWord w = true) : w ∈ GW := List.mem_filter.mpr ⟨wqM31 w (List.mem_of_getElem? h), g⟩
theorem wqM32 : ∀ w ∈ wq32, w ∈ lw_tbl := fun w h => wqI3 w (by rw [wqE3]; exact List.mem_append_right _ (List.mem_append_right _ (List.mem_append_right _ (List.mem_append_right _ (List.mem_append_right _ (List.mem_append_right _ (List.mem_append_left _ h)))))))
theorem wqG32 {i : Nat} {w : Cond} (h : wq32[i]? = some w) (g : goodWord w = true) : w ∈ GW := List.mem_filter.mpr ⟨wqM32 w (List.mem_of_getElem? h), g⟩
theorem wqM33 : ∀ w ∈ wq33, w ∈ lw_tbl := fun w h => wqI3 w (by rw [wqE3]; exact List.mem_append_right _ (List.mem_append_right _ (List.mem_append_right _ (List.mem_append_right _ (List.mem_append_right _ (List.mem_append_right _ (List.mem_append_right _ (List.mem_append_left _ h))))))))
theorem wqG33 {i : Nat} {w : Cond} (h : wq33[i]? = some w) (g : goodWord w = true) : w ∈ GW := List.mem_filter.mpr ⟨wqM33 w (List.mem_of_getElem? h), g⟩
theorem wqM34 : ∀ w ∈ wq34, w ∈ lw_tbl := fun w h => wqI3 w (by rw [wqE3]; exact List.mem_append_right _ (List.mem_append_right _ (List.mem_append_right _ (List.mem_append_right _ (List.mem_append_right _ (List.mem_append_right _ (List.mem_append_right _ (List.mem_append_right _ (List.mem_append_left _ h)))))))))
theorem wqG34 {i : Nat} {w : Cond} (h : wq34[i]? = some w) (g : goodWord w = true) : w ∈ GW := List.mem_filter.mpr ⟨wqM34 w (List.mem_of_getElem? h), g⟩
theorem wqM35 : ∀ w ∈ wq35, w ∈ lw_tbl := fun w h => wqI3 w (by rw [wqE3]; exact List.mem_append_right _ (List.mem_append_right _ (List.mem_append_right _ (List.mem_append_right _ (List.mem_append_right _ (List.mem_append_right _ (List.mem_append_right _ (List.mem_append_right _ (List.mem_append_right _ (List.mem_append_left _ h))))))))))
theorem wqG35 {i : Nat} {w : Cond} (h : wq35[i]? = some w) (g : goodWord w = true) : w ∈ GW := List.mem_filter.mpr ⟨wqM35 w (List.mem_of_getElem? h), g⟩
theorem wqM36 : ∀ w ∈ wq36, w ∈ lw_tbl := fun w h => wqI3 w (by rw [wqE3]; exact List.mem_append_right _ (List.mem_append_right _ (List.mem_append_right _ (List.mem_append_right _ (List.mem_append_right _ (List.mem_append_right _ (List.mem_append_right _ (List.mem_append_right _ (List.mem_append_right _ (List.mem_append_right _ (List.mem_append_left _ h)))))))))))
theorem wqG36 {i : Nat} {w : Cond} (h : wq36[i]? = some w) (g : goodWord w = true) : w ∈ GW := List.mem_filter.mpr ⟨wqM36 w (List.mem_of_getElem? h), g⟩
theorem wqM37 : ∀ w ∈ wq37, w ∈ lw_tbl := fun w h => wqI3 w (by rw [wqE3]; exact List.mem_append_right _ (List.mem_append_right _ (List.mem_append_right _ (List.mem_append_right _ (List.mem_append_right _ (List.mem_append_right _ (List.mem_append_right _ (List.mem_append_right _ (List.mem_append_right _ (List.mem_append_right _ (List.mem_append_right _ (h))))))))))))
theorem wqG37 {i : Nat} {w : Cond} (h : wq37[i]? = some w) (g : goodWord w = true) : w ∈ GW := List.mem_filter.mpr ⟨wqM37 w (List.mem_of_getElem? h), g⟩
def wq38 : List Cond := [.methodLink RL 117 yX9_slept, .instanceMethod yX9_slept, .selects RX9 yX9_slept yX9_slept, .code yX9_slept cX9_slept 2 (some .int), .methodLink RX9 251 yX6_has, .instanceMethod yX6_has, .selects RX6 yX6_has yX6_has, .code yX6_has cX6_has 2 (some .boolean), .methodLink RX9 252 yX6_sleepersOf, .instanceMethod yX6_sleepersOf, .selects RX6 yX6_sleepersOf yX6_sleepersOf, .code yX6_sleepersOf cX6_sleepersOf 7 (some .int), .methodLink RX6 33 yX0_lengthOn, .methodLink RX6 43 yX5_hereBy, .methodLinkNest RX6 50 yX9_isIn RX9, .methodLink RX6 54 yX5_harmAt, .methodLink RL 121 yX9_sure, .instanceMethod yX9_sure, .selects RX9 yX9_sure yX9_sure, .code yX9_sure cX9_sure 2 (some .int)]
def wq39 : List Cond := [.methodLink RX9 256 yX6_ways, .instanceMethod yX6_ways, .selects RX6 yX6_ways yX6_ways, .code yX6_ways cX6_ways 6 (some .int), .methodLink RX6 58 yX6_sleepersOf, .methodLink RX6 62 yX6_addOne, .privateMethod yX6_addOne, .instanceMethod yX6_addOne, .code yX6_addOne cX6_addOne 5 (none), .methodLink RX6 66 yJ6_bitCount_0f7a4, .methodLink RX9 260 yX6_onlySleeperOf, .instanceMethod yX6_onlySleeperOf, .selects RX6 yX6_onlySleeperOf yX6_onlySleeperOf, .code yX6_onlySleeperOf cX6_onlySleeperOf 5 (some .int), .methodLink RX6 71 yX6_ways, .methodLink RL 125 yX9_found, .instanceMethod yX9_found, .selects RX9 yX9_found yX9_found, .code yX9_found cX9_found 7 (some .int), .methodLink RX9 263 yJ9_abs_0f7a4]
def wq40 : List Cond := [.static yJ9_abs_0f7a4, .code yJ9_abs_0f7a4 cJ9_abs_0f7a4 1 (some .int), .methodLink RX9 268 yJ9_max_7cf53, .methodLink RL 129 yX9_year, .instanceMethod yX9_year, .selects RX9 yX9_year yX9_year, .code yX9_year cX9_year 3 (some .int), .methodLink RL 133 yX9_keep, .instanceMethod yX9_keep, .selects RX9 yX9_keep yX9_keep, .code yX9_keep cX9_keep 1 (some .int), .methodLink RX9 274 yX8_put, .instanceMethod yX8_put, .selects RX8 yX8_put yX8_put, .code yX8_put cX8_put 2 (some .boolean), .methodLink RX8 32 arraycopyName, .methodLink RL 137 yX9_back, .instanceMethod yX9_back, .selects RX9 yX9_back yX9_back, .code yX9_back cX9_back 1 (some .int)]
def wq41 : List Cond := [.methodLink RX9 277 yX8_takeInto, .instanceMethod yX8_takeInto, .selects RX8 yX8_takeInto yX8_takeInto, .code yX8_takeInto cX8_takeInto 2 (none), .methodLink RL 141 yX9_count, .instanceMethod yX9_count, .selects RX9 yX9_count yX9_count, .code yX9_count cX9_count 2 (some .int), .classLink RL 10 RX10, .instantiable RX10 44, .methodLink RL 12 yX10_init, .instanceMethod yX10_init, .code yX10_init cX10_init 2 (none), .methodLink RX10 1 objectInit, .fieldLink RX10 7 RX10 "lengths" "[I", .fieldLink RX10 13 RX10 "beds" "I", .fieldLink RX10 17 RX10 "feasts" "[I", .fieldLink RX10 164 RX10 "feastMany" "I", .fieldLink RX10 20 RX10 "inches" "[I", .fieldLink RX10 23 RX10 "kinds" "[I"]
def wq42 : List Cond := [.fieldLink RX10 26 RX10 "friends" "[I", .fieldLink RX10 29 RX10 "guests" "I", .fieldLink RX10 32 RX10 "rivals" "[I", .fieldLink RX10 167 RX10 "rivalMany" "I", .fieldLink RX10 35 RX10 "law" "I", .fieldLink RX10 38 RX10 "st" "[I", .fieldLink RX10 41 RX10 "text" "[I", .fieldLink RX10 111 RX10 "many" "I", .fieldLink RX10 114 RX10 "place" "I", .fieldLink RX10 125 RX10 "numbers" "I", .fieldLink RX10 44 RX10 "number" "[I", .fieldLink RX10 47 RX10 "readBeds" "[I", .fieldLink RX10 135 RX10 "readBedMany" "I", .fieldLink RX10 50 RX10 "readFeasts" "[I", .fieldLink RX10 140 RX10 "readFeastMany" "I", .fieldLink RX10 53 RX10 "readGuests" "[I", .fieldLink RX10 56 RX10 "readFriends" "[I", .fieldLink RX10 145 RX10 "readGuestMany" "I", .fieldLink RX10 59 RX10 "readRivals" "[I", .fieldLink RX10 153 RX10 "readRivalMany" "I"]
def wq43 : List Cond := [.fieldLink RX10 150 RX10 "readLaw" "I", .fieldLink RX10 179 RX10 "isTurned" "Z", .fieldLink RX10 62 RX10 "yearNow" "I", .fieldLink RX10 65 RX10 "nights" "[I", .fieldLink RX10 68 RX10 "where" "[I", .fieldLink RX10 71 RX10 "harms" "[I", .fieldLink RX10 74 RX10 "namers" "[I", .fieldLink RX10 77 RX10 "calls" "[I", .fieldLink RX10 80 RX10 "ahead" "[I", .fieldLink RX10 170 RX10 "undoMany" "I", .fieldLink RX10 83 RX10 "had" "[I", .fieldLink RX10 86 RX10 "bestRow" "[I", .fieldLink RX10 89 RX10 "lefts" "[I", .fieldLink RX10 173 RX10 "leftMany" "I", .fieldLink RX10 92 RX10 "ways" "[I", .fieldLink RX10 95 RX10 "then" "[I", .fieldLink RX10 98 RX10 "kept" "[I", .fieldLink RX10 176 RX10 "keptMany" "I", .laysFinal RX10 RX10 "lengths" "[I", .soleField RX10 "lengths"]
def wq44 : List Cond := [.lays RX10 RX10 "beds" "I", .soleField RX10 "beds", .laysFinal RX10 RX10 "feasts" "[I", .soleField RX10 "feasts", .lays RX10 RX10 "feastMany" "I", .soleField RX10 "feastMany", .laysFinal RX10 RX10 "inches" "[I", .soleField RX10 "inches", .laysFinal RX10 RX10 "kinds" "[I", .soleField RX10 "kinds", .laysFinal RX10 RX10 "friends" "[I", .soleField RX10 "friends", .lays RX10 RX10 "guests" "I", .soleField RX10 "guests", .laysFinal RX10 RX10 "rivals" "[I", .soleField RX10 "rivals", .lays RX10 RX10 "rivalMany" "I", .soleField RX10 "rivalMany", .lays RX10 RX10 "law" "I", .soleField RX10 "law"]
def wq45 : List Cond := [.laysFinal RX10 RX10 "st" "[I", .soleField RX10 "st", .laysFinal RX10 RX10 "text" "[I", .soleField RX10 "text", .lays RX10 RX10 "many" "I", .soleField RX10 "many", .lays RX10 RX10 "place" "I", .soleField RX10 "place", .lays RX10 RX10 "numbers" "I", .soleField RX10 "numbers", .laysFinal RX10 RX10 "number" "[I", .soleField RX10 "number", .laysFinal RX10 RX10 "readBeds" "[I", .soleField RX10 "readBeds", .lays RX10 RX10 "readBedMany" "I", .soleField RX10 "readBedMany", .laysFinal RX10 RX10 "readFeasts" "[I", .soleField RX10 "readFeasts", .lays RX10 RX10 "readFeastMany" "I", .soleField RX10 "readFeastMany"]
def wq46 : List Cond := [.laysFinal RX10 RX10 "readGuests" "[I", .soleField RX10 "readGuests", .laysFinal RX10 RX10 "readFriends" "[I", .soleField RX10 "readFriends", .lays RX10 RX10 "readGuestMany" "I", .soleField RX10 "readGuestMany", .laysFinal RX10 RX10 "readRivals" "[I", .soleField RX10 "readRivals", .lays RX10 RX10 "readRivalMany" "I", .soleField RX10 "readRivalMany", .lays RX10 RX10 "readLaw" "I", .soleField RX10 "readLaw", .lays RX10 RX10 "isTurned" "Z", .soleField RX10 "isTurned", .lays RX10 RX10 "yearNow" "I", .soleField RX10 "yearNow", .laysFinal RX10 RX10 "nights" "[I", .soleField RX10 "nights", .laysFinal RX10 RX10 "where" "[I", .soleField RX10 "where"]
def wq47 : List Cond := [.laysFinal RX10 RX10 "harms" "[I", .soleField RX10 "harms", .laysFinal RX10 RX10 "namers" "[I", .soleField RX10 "namers", .laysFinal RX10 RX10 "calls" "[I", .soleField RX10 "calls", .laysFinal RX10 RX10 "ahead" "[I", .soleField RX10 "ahead", .lays RX10 RX10 "undoMany" "I", .soleField RX10 "undoMany", .laysFinal RX10 RX10 "had" "[I", .soleField RX10 "had", .laysFinal RX10 RX10 "bestRow" "[I", .soleField RX10 "bestRow", .laysFinal RX10 RX10 "lefts" "[I", .soleField RX10 "lefts", .lays RX10 RX10 "leftMany" "I", .soleField RX10 "leftMany", .laysFinal RX10 RX10 "ways" "[I", .soleField RX10 "ways"]
def wq48 : List Cond := [.laysFinal RX10 RX10 "then" "[I", .soleField RX10 "then", .laysFinal RX10 RX10 "kept" "[I", .soleField RX10 "kept", .lays RX10 RX10 "keptMany" "I", .soleField RX10 "keptMany", .superclass RX10 "java/lang/Object", .methodLink RL 17 yX10_write, .instanceMethod yX10_write, .selects RX10 yX10_write yX10_write, .code yX10_write cX10_write 2 (some .int), .constantLong RX10 107 32, .constantLong RX10 109 126, .methodLink RX10 101 yX10_in, .static yX10_in, .code yX10_in cX10_in 6 (some .boolean), .methodLink RL 22 yX10_wipe, .instanceMethod yX10_wipe, .selects RX10 yX10_wipe yX10_wipe, .code yX10_wipe cX10_wipe 2 (some .int)]
def wq49 : List Cond := [.methodLink RL 26 yX10_fault, .instanceMethod yX10_fault, .selects RX10 yX10_fault yX10_fault, .code yX10_fault cX10_fault 2 (some .int), .methodLink RX10 156 yX10_readItem, .privateMethod yX10_readItem, .instanceMethod yX10_readItem, .code yX10_readItem cX10_readItem 6 (some .boolean), .methodLink RX10 128 yX10_readNumbers, .privateMethod yX10_readNumbers, .instanceMethod yX10_readNumbers, .code yX10_readNumbers cX10_readNumbers 4 (some .boolean), .methodLink RX10 121 yX10_readNumber, .privateMethod yX10_readNumber, .instanceMethod yX10_readNumber, .code yX10_readNumber cX10_readNumber 4 (some .boolean), .constantLong RX10 117 48, .constantLong RX10 119 57, .constantLong RX10 131 40, .constantLong RX10 133 99]
set_option maxRecDepth 100000 in
set_option maxHeartbeats 4000000 in
theorem wqE4 : tables_1_4 = wq38 ++ (wq39 ++ (wq40 ++ (wq41 ++ (wq42 ++ (wq43 ++ (wq44 ++ (wq45 ++ (wq46 ++ (wq47 ++ (wq48 ++ (wq49))))))))))) := rfl
theorem wqI4 : ∀ w ∈ tables_1_4, w ∈ lw_tbl := fun w h => List.mem_append_right _ (List.mem_append_right _ (List.mem_append_right _ (List.mem_append_right _ (List.mem_append_left _ h))))
theorem wqM38 : ∀ w ∈ wq38, w ∈ lw_tbl := fun w h => wqI4 w (by rw [wqE4]; exact List.mem_append_left _ h)
theorem wqG38 {i : Nat} {w : Cond} (h : wq38[i]? = some w) (g : goodWord w = true) : w ∈ GW := List.mem_filter.mpr ⟨wqM38 w (List.mem_of_getElem? h), g⟩
theorem wqM39 : ∀ w ∈ wq39, w ∈ lw_tbl := fun w h => wqI4 w (by rw [wqE4]; exact List.mem_append_right _ (List.mem_append_left _ h))
theorem wqG39 {i : Nat} {w : Cond} (h : wq39[i]? = some w) (g : goodWord w = true) : w ∈ GW := List.mem_filter.mpr ⟨wqM39 w (List.mem_of_getElem? h), g⟩
theorem wqM40 : ∀ w ∈ wq40, w ∈ lw_tbl := fun w h => wqI4 w (by rw [wqE4]; exact List.mem_append_right _ (List.mem_append_right _ (List.mem_append_left _ h)))
theorem wqG40 {i : Nat} {w : Cond} (h : wq40[i]? = some w) (g : goodWord w = true) : w ∈ GW := List.mem_filter.mpr ⟨wqM40 w (List.mem_of_getElem? h), g⟩
theorem wqM41 : ∀ w ∈ wq41, w ∈ lw_tbl := fun w h => wqI4 w (by rw [wqE4]; exact List.mem_append_right _ (List.mem_append_right _ (List.mem_append_right _ (List.mem_append_left _ h))))
theorem wqG41 {i : Nat} {w : Cond} (h : wq41[i]? = some w) (g : goodWord w = true) : w ∈ GW := List.mem_filter.mpr ⟨wqM41 w (List.mem_of_getElem? h), g⟩
theorem wqM42 : ∀ w ∈ wq42, w ∈ lw_tbl := fun w h => wqI4 w (by rw [wqE4]; exact List.mem_append_right _ (List.mem_append_right _ (List.mem_append_right _ (List.mem_append_right _ (List.mem_append_left _ h)))))
theorem wqG42 {i : Nat} {w : Cond} (h : wq42[i]? = some w) (g : goodWord w = true) : w ∈ GW := List.mem_filter.mpr ⟨wqM42 w (List.mem_of_getElem? h), g⟩
theorem wqM43 : ∀ w ∈ wq43, w ∈ lw_tbl := fun w h => wqI4 w (by rw [wqE4]; exact List.mem_append_right _ (List.mem_append_right _ (List.mem_append_right _ (List.mem_append_right _ (List.mem_append_right _ (List.mem_append_left _ h))))))
theorem wqG43 {i : Nat} {w : Cond} (h : wq43[i]? = some w) (g : goodWord w = true) : w ∈ GW := List.mem_filter.mpr ⟨wqM43 w (List.mem_of_getElem? h), g⟩
theorem wqM44 : ∀ w ∈ wq44, w ∈ lw_tbl := fun w h => wqI4 w (by rw [wqE4]; exact List.mem_append_right _ (List.mem_append_right _ (List.mem_append_right _ (List.mem_append_right _ (List.mem_append_right _ (List.mem_append_right _ (List.mem_append_left _ h)))))))
theorem wqG44 {i : Nat} {w : Cond} (h : wq44[i]? = some w) (g : goodWord w = true) : w ∈ GW := List.mem_filter.mpr ⟨wqM44 w (List.mem_of_getElem? h), g⟩
theorem wqM45 : ∀ w ∈ wq45, w ∈ lw_tbl := fun w h => wqI4 w (by rw [wqE4]; exact List.mem_append_right _ (List.mem_append_right _ (List.mem_append_right _ (List.mem_append_right _ (List.mem_append_right _ (List.mem_append_right _ (List.mem_append_right _ (List.mem_append_left _ h))))))))
theorem wqG45 {i : Nat} {w : Cond} (h : wq45[i]? = some w) (g : goodWord w = true) : w ∈ GW := List.mem_filter.mpr ⟨wqM45 w (List.mem_of_getElem? h), g⟩
theorem wqM46 : ∀ w ∈ wq46, w ∈ lw_tbl := fun w h => wqI4 w (by rw [wqE4]; exact List.mem_append_right _ (List.mem_append_right _ (List.mem_append_right _ (List.mem_append_right _ (List.mem_append_right _ (List.mem_append_right _ (List.mem_append_right _ (List.mem_append_right _ (List.mem_append_left _ h)))))))))
theorem wqG46 {i : Nat} {w : Cond} (h : wq46[i]? = some w) (g : goodWord w = true) : w ∈ GW := List.mem_filter.mpr ⟨wqM46 w (List.mem_of_getElem? h), g⟩
theorem wqM47 : ∀ w ∈ wq47, w ∈ lw_tbl := fun w h => wqI4 w (by rw [wqE4]; exact List.mem_append_right _ (List.mem_append_right _ (List.mem_append_right _ (List.mem_append_right _ (List.mem_append_right _ (List.mem_append_right _ (List.mem_append_right _ (List.mem_append_right _ (List.mem_append_right _ (List.mem_append_left _ h))))))))))
theorem wqG47 {i : Nat} {w : Cond} (h : wq47[i]? = some w) (g : goodWord w = true) : w ∈ GW := List.mem_filter.mpr ⟨wqM47 w (List.mem_of_getElem? h), g⟩
theorem wqM48 : ∀ w ∈ wq48, w ∈ lw_tbl := fun w h => wqI4 w (by rw [wqE4]; exact List.mem_append_right _ (List.mem_append_right _ (List.mem_append_right _ (List.mem_append_right _ (List.mem_append_right _ (List.mem_append_right _ (List.mem_append_right _ (List.mem_append_right _ (List.mem_append_right _ (List.mem_append_right _ (List.mem_append_left _ h)))))))))))
theorem wqG48 {i : Nat} {w : Cond} (h : wq48[i]? = some w) (g : goodWord w = true) : w ∈ GW := List.mem_filter.mpr ⟨wqM48 w (List.mem_of_getElem? h), g⟩
theorem wqM49 : ∀ w ∈ wq49, w ∈ lw_tbl := fun w h => wqI4 w (by rw [wqE4]; exact List.mem_append_right _ (List.mem_append_right _ (List.mem_append_right _ (List.mem_append_right _ (List.mem_append_right _ (List.mem_append_right _ (List.mem_append_right _ (List.mem_append_right _ (List.mem_append_right _ (List.mem_append_right _ (List.mem_append_right _ (h))))))))))))
theorem wqG49 {i : Nat} {w : Cond} (h : wq49[i]? = some w) (g : goodWord w = true) : w ∈ GW := List.mem_filter.mpr ⟨wqM49 w (List.mem_of_getElem? h), g⟩
def wq50 : List Cond := [.constantLong RX10 105 29, .constantLong RX10 138 9, .constantLong RX10 143 4, .constantLong RX10 148 2, .methodLink RL 30 yX10_lay, .instanceMethod yX10_lay, .selects RX10 yX10_lay yX10_lay, .code yX10_lay cX10_lay 2 (some .int), .methodLink RX10 160 yX10_fault, .methodLink RL 35 yX10_bed, .instanceMethod yX10_bed, .selects RX10 yX10_bed yX10_bed, .code yX10_bed cX10_bed 3 (some .int), .methodLink RX10 193 yX10_isBed, .privateMethod yX10_isBed, .instanceMethod yX10_isBed, .code yX10_isBed cX10_isBed 2 (some .boolean), .methodLink RX10 196 yX10_isNight, .static yX10_isNight, .code yX10_isNight cX10_isNight 1 (some .boolean)]
def wq51 : List Cond := [.methodLink RX10 199 yX10_lengthOn, .privateMethod yX10_lengthOn, .instanceMethod yX10_lengthOn, .code yX10_lengthOn cX10_lengthOn 7 (some .int), .constantLong RX10 183 7919, .constantLong RX10 185 6151, .constantLong RX10 187 101, .constantLong RX10 189 65521, .constantLong RX10 191 7, .methodLink RL 44 yX10_harm, .instanceMethod yX10_harm, .selects RX10 yX10_harm yX10_harm, .code yX10_harm cX10_harm 4 (some .int), .methodLink RX10 209 yX10_isGuest, .privateMethod yX10_isGuest, .instanceMethod yX10_isGuest, .code yX10_isGuest cX10_isGuest 2 (some .boolean), .methodLink RX10 212 yX10_harmOf, .privateMethod yX10_harmOf, .instanceMethod yX10_harmOf]
def wq52 : List Cond := [.code yX10_harmOf cX10_harmOf 4 (some .int), .methodLink RX10 203 yX10_inchesOn, .privateMethod yX10_inchesOn, .instanceMethod yX10_inchesOn, .code yX10_inchesOn cX10_inchesOn 4 (some .int), .methodLink RX10 206 yX10_harmBy, .privateMethod yX10_harmBy, .instanceMethod yX10_harmBy, .code yX10_harmBy cX10_harmBy 5 (some .int), .methodLink RL 39 yX10_guest, .instanceMethod yX10_guest, .selects RX10 yX10_guest yX10_guest, .code yX10_guest cX10_guest 3 (some .int), .methodLink RX10 216 yX10_placeOf, .privateMethod yX10_placeOf, .instanceMethod yX10_placeOf, .code yX10_placeOf cX10_placeOf 3 (some .int), .methodLink RL 48 yX10_lies, .instanceMethod yX10_lies, .selects RX10 yX10_lies yX10_lies]
def wq53 : List Cond := [.code yX10_lies cX10_lies 3 (some .int), .methodLink RX10 235 yX10_stay, .privateMethod yX10_stay, .instanceMethod yX10_stay, .code yX10_stay cX10_stay 4 (some .int), .methodLink RX10 231 yX10_give, .privateMethod yX10_give, .instanceMethod yX10_give, .code yX10_give cX10_give 7 (none), .methodLink RX10 220 yX10_isWaiting, .privateMethod yX10_isWaiting, .instanceMethod yX10_isWaiting, .code yX10_isWaiting cX10_isWaiting 3 (some .boolean), .methodLink RX10 224 yX10_has, .static yX10_has, .code yX10_has cX10_has 2 (some .boolean), .methodLink RX10 227 yX10_lieDown, .privateMethod yX10_lieDown, .instanceMethod yX10_lieDown, .code yX10_lieDown cX10_lieDown 5 (none)]
def wq54 : List Cond := [.methodLink RL 52 yX10_who, .instanceMethod yX10_who, .selects RX10 yX10_who yX10_who, .code yX10_who cX10_who 5 (some .int), .methodLink RL 56 yX10_all, .instanceMethod yX10_all, .selects RX10 yX10_all yX10_all, .code yX10_all cX10_all 6 (some .int), .constantLong RX10 238 3, .methodLink RX10 240 yX10_unharmed, .privateMethod yX10_unharmed, .instanceMethod yX10_unharmed, .code yX10_unharmed cX10_unharmed 3 (some .int), .methodLink RL 60 yX10_move, .instanceMethod yX10_move, .selects RX10 yX10_move yX10_move, .code yX10_move cX10_move 5 (some .int), .methodLink RX10 243 yX10_note, .privateMethod yX10_note, .instanceMethod yX10_note]
def wq55 : List Cond := [.code yX10_note cX10_note 2 (none), .methodLink RL 64 yX10_wear, .instanceMethod yX10_wear, .selects RX10 yX10_wear yX10_wear, .code yX10_wear cX10_wear 4 (some .int), .constantLong RX10 246 (-9), .methodLink RL 68 yX10_come, .instanceMethod yX10_come, .selects RX10 yX10_come yX10_come, .code yX10_come cX10_come 4 (some .int), .methodLink RL 72 yX10_undo, .instanceMethod yX10_undo, .selects RX10 yX10_undo yX10_undo, .code yX10_undo cX10_undo 2 (some .int), .methodLink RL 76 yX10_order, .instanceMethod yX10_order, .selects RX10 yX10_order yX10_order, .code yX10_order cX10_order 7 (some .int), .constantLong RX10 251 (-1), .methodLink RX10 253 yX10_nextRow]
def wq56 : List Cond := [.privateMethod yX10_nextRow, .instanceMethod yX10_nextRow, .code yX10_nextRow cX10_nextRow 5 (some .boolean), .methodLink RX10 248 yX10_exchange, .privateMethod yX10_exchange, .instanceMethod yX10_exchange, .code yX10_exchange cX10_exchange 4 (none), .methodLink RL 80 yX10_cushion, .instanceMethod yX10_cushion, .selects RX10 yX10_cushion yX10_cushion, .code yX10_cushion cX10_cushion 7 (some .int), .methodLink RL 84 yX10_length, .instanceMethod yX10_length, .selects RX10 yX10_length yX10_length, .code yX10_length cX10_length 8 (some .int), .methodLink RL 88 yX10_law, .instanceMethod yX10_law, .selects RX10 yX10_law yX10_law, .code yX10_law cX10_law 6 (some .int), .methodLink RL 92 yX10_pairs]
def wq57 : List Cond := [.instanceMethod yX10_pairs, .selects RX10 yX10_pairs yX10_pairs, .code yX10_pairs cX10_pairs 9 (some .int), .methodLink RL 96 yX10_later, .instanceMethod yX10_later, .selects RX10 yX10_later yX10_later, .code yX10_later cX10_later 7 (some .int), .methodLink RL 100 yX10_rival, .instanceMethod yX10_rival, .selects RX10 yX10_rival yX10_rival, .code yX10_rival cX10_rival 5 (some .int), .methodLink RL 104 yX10_fewest, .instanceMethod yX10_fewest, .selects RX10 yX10_fewest yX10_fewest, .code yX10_fewest cX10_fewest 5 (some .int), .methodLink RL 108 yX10_turned, .instanceMethod yX10_turned, .selects RX10 yX10_turned yX10_turned, .code yX10_turned cX10_turned 2 (some .int), .methodLink RL 112 yX10_left]
def wq58 : List Cond := [.instanceMethod yX10_left, .selects RX10 yX10_left yX10_left, .code yX10_left cX10_left 4 (some .int), .methodLink RL 116 yX10_sweep, .instanceMethod yX10_sweep, .selects RX10 yX10_sweep yX10_sweep, .code yX10_sweep cX10_sweep 2 (some .int), .methodLink RL 120 yX10_slept, .instanceMethod yX10_slept, .selects RX10 yX10_slept yX10_slept, .code yX10_slept cX10_slept 2 (some .int), .methodLink RX10 256 yX10_sleptBy, .privateMethod yX10_sleptBy, .instanceMethod yX10_sleptBy, .code yX10_sleptBy cX10_sleptBy 5 (some .int), .methodLink RL 124 yX10_sure, .instanceMethod yX10_sure, .selects RX10 yX10_sure yX10_sure, .code yX10_sure cX10_sure 5 (some .int), .methodLink RX10 259 yX10_waysWith]
def wq59 : List Cond := [.privateMethod yX10_waysWith, .instanceMethod yX10_waysWith, .code yX10_waysWith cX10_waysWith 7 (some .int), .methodLink RL 128 yX10_found, .instanceMethod yX10_found, .selects RX10 yX10_found yX10_found, .code yX10_found cX10_found 8 (some .int), .constantLong RX10 262 10, .methodLink RL 132 yX10_year, .instanceMethod yX10_year, .selects RX10 yX10_year yX10_year, .code yX10_year cX10_year 4 (some .int), .constantLong RX10 264 9999, .methodLink RL 136 yX10_keep, .instanceMethod yX10_keep, .selects RX10 yX10_keep yX10_keep, .code yX10_keep cX10_keep 2 (some .int), .methodLink RL 140 yX10_back, .instanceMethod yX10_back, .selects RX10 yX10_back yX10_back]
def wq60 : List Cond := [.code yX10_back cX10_back 2 (some .int), .methodLink RL 144 yX10_count, .instanceMethod yX10_count, .selects RX10 yX10_count yX10_count, .code yX10_count cX10_count 2 (some .int), .fieldLink RJ0 9 RJ0 "value" "[B", .fieldLink RJ0 15 RJ0 "coder" "B"]
set_option maxRecDepth 100000 in
set_option maxHeartbeats 4000000 in
theorem wqE5 : tables_1_5 = wq50 ++ (wq51 ++ (wq52 ++ (wq53 ++ (wq54 ++ (wq55 ++ (wq56 ++ (wq57 ++ (wq58 ++ (wq59 ++ (wq60)))))))))) := rfl
theorem wqI5 : ∀ w ∈ tables_1_5, w ∈ lw_tbl := fun w h => List.mem_append_right _ (List.mem_append_right _ (List.mem_append_right _ (List.mem_append_right _ (List.mem_append_right _ h))))
theorem wqM50 : ∀ w ∈ wq50, w ∈ lw_tbl := fun w h => wqI5 w (by rw [wqE5]; exact List.mem_append_left _ h)
theorem wqG50 {i : Nat} {w : Cond} (h : wq50[i]? = some w) (g : goodWord w = true) : w ∈ GW := List.mem_filter.mpr ⟨wqM50 w (List.mem_of_getElem? h), g⟩
theorem wqM51 : ∀ w ∈ wq51, w ∈ lw_tbl := fun w h => wqI5 w (by rw [wqE5]; exact List.mem_append_right _ (List.mem_append_left _ h))
theorem wqG51 {i : Nat} {w : Cond} (h : wq51[i]? = some w) (g : goodWord w = true) : w ∈ GW := List.mem_filter.mpr ⟨wqM51 w (List.mem_of_getElem? h), g⟩
theorem wqM52 : ∀ w ∈ wq52, w ∈ lw_tbl := fun w h => wqI5 w (by rw [wqE5]; exact List.mem_append_right _ (List.mem_append_right _ (List.mem_append_left _ h)))
theorem wqG52 {i : Nat} {w : Cond} (h : wq52[i]? = some w) (g : goodWord w = true) : w ∈ GW := List.mem_filter.mpr ⟨wqM52 w (List.mem_of_getElem? h), g⟩
theorem wqM53 : ∀ w ∈ wq53, w ∈ lw_tbl := fun w h => wqI5 w (by rw [wqE5]; exact List.mem_append_right _ (List.mem_append_right _ (List.mem_append_right _ (List.mem_append_left _ h))))
theorem wqG53 {i : Nat} {w : Cond} (h : wq53[i]? = some w) (g : goodWord w = true) : w ∈ GW := List.mem_filter.mpr ⟨wqM53 w (List.mem_of_getElem? h), g⟩
theorem wqM54 : ∀ w ∈ wq54, w ∈ lw_tbl := fun w h => wqI5 w (by rw [wqE5]; exact List.mem_append_right _ (List.mem_append_right _ (List.mem_append_right _ (List.mem_append_right _ (List.mem_append_left _ h)))))
theorem wqG54 {i : Nat} {w : Cond} (h : wq54[i]? = some w) (g : goodWord w = true) : w ∈ GW := List.mem_filter.mpr ⟨wqM54 w (List.mem_of_getElem? h), g⟩
theorem wqM55 : ∀ w ∈ wq55, w ∈ lw_tbl := fun w h => wqI5 w (by rw [wqE5]; exact List.mem_append_right _ (List.mem_append_right _ (List.mem_append_right _ (List.mem_append_right _ (List.mem_append_right _ (List.mem_append_left _ h))))))
theorem wqG55 {i : Nat} {w : Cond} (h : wq55[i]? = some w) (g : goodWord w = true) : w ∈ GW := List.mem_filter.mpr ⟨wqM55 w (List.mem_of_getElem? h), g⟩
theorem wqM56 : ∀ w ∈ wq56, w ∈ lw_tbl := fun w h => wqI5 w (by rw [wqE5]; exact List.mem_append_right _ (List.mem_append_right _ (List.mem_append_right _ (List.mem_append_right _ (List.mem_append_right _ (List.mem_append_right _ (List.mem_append_left _ h)))))))
theorem wqG56 {i : Nat} {w : Cond} (h : wq56[i]? = some w) (g : goodWord w = true) : w ∈ GW := List.mem_filter.mpr ⟨wqM56 w (List.mem_of_getElem? h), g⟩
theorem wqM57 : ∀ w ∈ wq57, w ∈ lw_tbl := fun w h => wqI5 w (by rw [wqE5]; exact List.mem_append_right _ (List.mem_append_right _ (List.mem_append_right _ (List.mem_append_right _ (List.mem_append_right _ (List.mem_append_right _ (List.mem_append_right _ (List.mem_append_left _ h))))))))
theorem wqG57 {i : Nat} {w : Cond} (h : wq57[i]? = some w) (g : goodWord w = true) : w ∈ GW := List.mem_filter.mpr ⟨wqM57 w (List.mem_of_getElem? h), g⟩
theorem wqM58 : ∀ w ∈ wq58, w ∈ lw_tbl := fun w h => wqI5 w (by rw [wqE5]; exact List.mem_append_right _ (List.mem_append_right _ (List.mem_append_right _ (List.mem_append_right _ (List.mem_append_right _ (List.mem_append_right _ (List.mem_append_right _ (List.mem_append_right _ (List.mem_append_left _ h)))))))))
theorem wqG58 {i : Nat} {w : Cond} (h : wq58[i]? = some w) (g : goodWord w = true) : w ∈ GW := List.mem_filter.mpr ⟨wqM58 w (List.mem_of_getElem? h), g⟩
theorem wqM59 : ∀ w ∈ wq59, w ∈ lw_tbl := fun w h => wqI5 w (by rw [wqE5]; exact List.mem_append_right _ (List.mem_append_right _ (List.mem_append_right _ (List.mem_append_right _ (List.mem_append_right _ (List.mem_append_right _ (List.mem_append_right _ (List.mem_append_right _ (List.mem_append_right _ (List.mem_append_left _ h))))))))))
theorem wqG59 {i : Nat} {w : Cond} (h : wq59[i]? = some w) (g : goodWord w = true) : w ∈ GW := List.mem_filter.mpr ⟨wqM59 w (List.mem_of_getElem? h), g⟩
theorem wqM60 : ∀ w ∈ wq60, w ∈ lw_tbl := fun w h => wqI5 w (by rw [wqE5]; exact List.mem_append_right _ (List.mem_append_right _ (List.mem_append_right _ (List.mem_append_right _ (List.mem_append_right _ (List.mem_append_right _ (List.mem_append_right _ (List.mem_append_right _ (List.mem_append_right _ (List.mem_append_right _ (h)))))))))))
theorem wqG60 {i : Nat} {w : Cond} (h : wq60[i]? = some w) (g : goodWord w = true) : w ∈ GW := List.mem_filter.mpr ⟨wqM60 w (List.mem_of_getElem? h), g⟩
end
section
abbrev mX0_init : MD := (yX0_init, cX0_init, 1, none, 1, 20)
abbrev mX0_clear : MD := (yX0_clear, cX0_clear, 2, none, 0, 0)
abbrev mX0_has : MD := (yX0_has, cX0_has, 2, some .boolean, 0, 0)
abbrev mX0_add : MD := (yX0_add, cX0_add, 2, some .boolean, 0, 0)
abbrev mX0_addFeast : MD := (yX0_addFeast, cX0_addFeast, 3, some .boolean, 2, 42)
abbrev mX0_lengthOn : MD := (yX0_lengthOn, cX0_lengthOn, 5, some .int, 2, 42)
abbrev mX0_drawn : MD := (yX0_drawn, cX0_drawn, 5, some .int, 0, 0)
abbrev mX1_init : MD := (yX1_init, cX1_init, 1, none, 1, 20)
abbrev mX1_push : MD := (yX1_push, cX1_push, 4, none, 1, 21)
abbrev mX1_dropOldest : MD := (yX1_dropOldest, cX1_dropOldest, 2, none, 0, 0)
abbrev mX1_takeBack : MD := (yX1_takeBack, cX1_takeBack, 3, none, 2, 45)
abbrev mX2_init : MD := (yX2_init, cX2_init, 1, none, 2, 40)
abbrev mX2_clear : MD := (yX2_clear, cX2_clear, 1, none, 1, 21)
abbrev mX2_canOpen : MD := (yX2_canOpen, cX2_canOpen, 1, some .boolean, 0, 0)
abbrev mX2_tell : MD := (yX2_tell, cX2_tell, 6, some .boolean, 3, 64)
abbrev mX2_enact : MD := (yX2_enact, cX2_enact, 2, some .boolean, 1, 22)
abbrev mX2_addRival : MD := (yX2_addRival, cX2_addRival, 2, some .boolean, 0, 0)
abbrev mX2_namable : MD := (yX2_namable, cX2_namable, 2, some .int, 1, 21)
abbrev mX2_leastAtRival : MD := (yX2_leastAtRival, cX2_leastAtRival, 5, some .int, 2, 46)
abbrev mX3_init : MD := (yX3_init, cX3_init, 1, none, 1, 20)
abbrev mX3_pass : MD := (yX3_pass, cX3_pass, 5, none, 4, 103)
abbrev mX3_fillBeds : MD := (yX3_fillBeds, cX3_fillBeds, 8, none, 3, 76)
abbrev mX3_callFirst : MD := (yX3_callFirst, cX3_callFirst, 5, some .int, 1, 21)
abbrev mX3_bestOf : MD := (yX3_bestOf, cX3_bestOf, 11, some .int, 2, 46)
abbrev mX3_hasLain : MD := (yX3_hasLain, cX3_hasLain, 2, some .boolean, 1, 21)
abbrev mX3_total : MD := (yX3_total, cX3_total, 2, some .int, 1, 20)
abbrev mX3_unharmed : MD := (yX3_unharmed, cX3_unharmed, 4, some .int, 2, 42)
abbrev mX3_greatest : MD := (yX3_greatest, cX3_greatest, 4, some .int, 2, 42)
abbrev mX3_allLainBy : MD := (yX3_allLainBy, cX3_allLainBy, 4, some .boolean, 2, 42)
abbrev mX4_init : MD := (yX4_init, cX4_init, 1, none, 1, 20)
abbrev mX4_search : MD := (yX4_search, cX4_search, 7, none, 5, 127)
abbrev mX4_toNextRow : MD := (yX4_toNextRow, cX4_toNextRow, 4, some .boolean, 3, 67)
abbrev mX4_letFall : MD := (yX4_letFall, cX4_letFall, 4, none, 2, 44)
abbrev mX4_turnRound : MD := (yX4_turnRound, cX4_turnRound, 4, none, 2, 44)
abbrev mX4_swap : MD := (yX4_swap, cX4_swap, 4, none, 1, 21)
abbrev mX5_init : MD := (yX5_init, cX5_init, 1, none, 1, 20)
abbrev mX5_has : MD := (yX5_has, cX5_has, 2, some .boolean, 0, 0)
abbrev mX5_everyone : MD := (yX5_everyone, cX5_everyone, 1, some .int, 0, 0)
abbrev mX5_add : MD := (yX5_add, cX5_add, 4, some .boolean, 0, 0)
abbrev mX5_befriend : MD := (yX5_befriend, cX5_befriend, 3, some .boolean, 1, 21)
abbrev mX5_hereBy : MD := (yX5_hereBy, cX5_hereBy, 4, some .int, 0, 0)
abbrev mX5_harmAt : MD := (yX5_harmAt, cX5_harmAt, 5, some .int, 1, 22)
abbrev mX5_harmBy : MD := (yX5_harmBy, cX5_harmBy, 3, some .int, 0, 0)
abbrev mX5_placeOf : MD := (yX5_placeOf, cX5_placeOf, 3, some .int, 0, 0)
abbrev mX5_shift : MD := (yX5_shift, cX5_shift, 5, none, 1, 21)
abbrev mX5_swapPlaces : MD := (yX5_swapPlaces, cX5_swapPlaces, 5, none, 1, 22)
abbrev mX6_init : MD := (yX6_init, cX6_init, 1, none, 1, 20)
abbrev mX6_has : MD := (yX6_has, cX6_has, 2, some .boolean, 0, 0)
abbrev mX6_add : MD := (yX6_add, cX6_add, 4, some .boolean, 0, 0)
abbrev mX6_sleepersOf : MD := (yX6_sleepersOf, cX6_sleepersOf, 7, some .int, 3, 66)
abbrev mX6_ways : MD := (yX6_ways, cX6_ways, 6, some .int, 4, 92)
abbrev mX6_addOne : MD := (yX6_addOne, cX6_addOne, 5, none, 1, 21)
abbrev mX6_onlySleeperOf : MD := (yX6_onlySleeperOf, cX6_onlySleeperOf, 5, some .int, 5, 117)
abbrev mX7_init : MD := (yX7_init, cX7_init, 1, none, 1, 20)
abbrev mX7_put : MD := (yX7_put, cX7_put, 2, some .boolean, 0, 0)
abbrev mX7_readInto : MD := (yX7_readInto, cX7_readInto, 5, some .int, 4, 89)
abbrev mX7_readNumbers : MD := (yX7_readNumbers, cX7_readNumbers, 4, some .int, 2, 43)
abbrev mX7_isFigure : MD := (yX7_isFigure, cX7_isFigure, 2, some .boolean, 1, 22)
abbrev mX7_letterAt : MD := (yX7_letterAt, cX7_letterAt, 2, some .int, 0, 0)
abbrev mX8_init : MD := (yX8_init, cX8_init, 1, none, 1, 20)
abbrev mX8_put : MD := (yX8_put, cX8_put, 2, some .boolean, 1, 64)
abbrev mX8_takeInto : MD := (yX8_takeInto, cX8_takeInto, 2, none, 1, 64)
abbrev mX9_init : MD := (yX9_init, cX9_init, 2, none, 5, 113)
abbrev mX9_write : MD := (yX9_write, cX9_write, 2, some .int, 1, 22)
abbrev mX9_wipe : MD := (yX9_wipe, cX9_wipe, 2, some .int, 0, 0)
abbrev mX9_fault : MD := (yX9_fault, cX9_fault, 1, some .int, 5, 113)
abbrev mX9_lay : MD := (yX9_lay, cX9_lay, 2, some .int, 5, 113)
abbrev mX9_bed : MD := (yX9_bed, cX9_bed, 3, some .int, 3, 66)
abbrev mX9_guest : MD := (yX9_guest, cX9_guest, 4, some .int, 1, 22)
abbrev mX9_harm : MD := (yX9_harm, cX9_harm, 4, some .int, 3, 66)
abbrev mX9_lies : MD := (yX9_lies, cX9_lies, 3, some .int, 5, 127)
abbrev mX9_who : MD := (yX9_who, cX9_who, 4, some .int, 5, 127)
abbrev mX9_all : MD := (yX9_all, cX9_all, 2, some .int, 5, 127)
abbrev mX9_move : MD := (yX9_move, cX9_move, 4, some .int, 3, 67)
abbrev mX9_wear : MD := (yX9_wear, cX9_wear, 4, some .int, 3, 67)
abbrev mX9_come : MD := (yX9_come, cX9_come, 4, some .int, 3, 67)
abbrev mX9_undo : MD := (yX9_undo, cX9_undo, 1, some .int, 3, 67)
abbrev mX9_order : MD := (yX9_order, cX9_order, 2, some .int, 6, 153)
abbrev mX9_cushion : MD := (yX9_cushion, cX9_cushion, 9, some .int, 6, 148)
abbrev mX9_length : MD := (yX9_length, cX9_length, 8, some .int, 6, 148)
abbrev mX9_law : MD := (yX9_law, cX9_law, 6, some .int, 6, 148)
abbrev mX9_pairs : MD := (yX9_pairs, cX9_pairs, 7, some .int, 6, 149)
abbrev mX9_later : MD := (yX9_later, cX9_later, 7, some .int, 5, 127)
abbrev mX9_rival : MD := (yX9_rival, cX9_rival, 4, some .int, 5, 127)
abbrev mX9_fewest : MD := (yX9_fewest, cX9_fewest, 4, some .int, 5, 127)
abbrev mX9_turned : MD := (yX9_turned, cX9_turned, 2, some .int, 6, 148)
abbrev mX9_left : MD := (yX9_left, cX9_left, 4, some .int, 2, 42)
abbrev mX9_sweep : MD := (yX9_sweep, cX9_sweep, 2, some .int, 0, 0)
abbrev mX9_slept : MD := (yX9_slept, cX9_slept, 2, some .int, 4, 92)
abbrev mX9_sure : MD := (yX9_sure, cX9_sure, 2, some .int, 6, 141)
abbrev mX9_found : MD := (yX9_found, cX9_found, 7, some .int, 5, 127)
abbrev mX9_year : MD := (yX9_year, cX9_year, 3, some .int, 5, 127)
abbrev mX9_keep : MD := (yX9_keep, cX9_keep, 1, some .int, 2, 85)
abbrev mX9_back : MD := (yX9_back, cX9_back, 1, some .int, 2, 85)
abbrev mX9_count : MD := (yX9_count, cX9_count, 2, some .int, 0, 0)
abbrev mX9_isWithin : MD := (yX9_isWithin, cX9_isWithin, 3, some .boolean, 0, 0)
abbrev mX9_isNight : MD := (yX9_isNight, cX9_isNight, 1, some .boolean, 1, 22)
abbrev mX9_isLength : MD := (yX9_isLength, cX9_isLength, 1, some .boolean, 1, 22)
abbrev mX9_isIn : MD := (yX9_isIn, cX9_isIn, 2, some .boolean, 0, 0)
abbrev mX9_noteChange : MD := (yX9_noteChange, cX9_noteChange, 4, none, 2, 44)
abbrev mX9_sumBelow : MD := (yX9_sumBelow, cX9_sumBelow, 2, some .int, 5, 127)
abbrev mX9_noteHarmsNow : MD := (yX9_noteHarmsNow, cX9_noteHarmsNow, 1, some .int, 5, 127)
abbrev mX9_wouldSwap : MD := (yX9_wouldSwap, cX9_wouldSwap, 3, some .boolean, 5, 127)
abbrev mX10_init : MD := (yX10_init, cX10_init, 2, none, 1, 20)
abbrev mX10_in : MD := (yX10_in, cX10_in, 6, some .boolean, 0, 0)
abbrev mX10_has : MD := (yX10_has, cX10_has, 2, some .boolean, 0, 0)
abbrev mX10_isBed : MD := (yX10_isBed, cX10_isBed, 2, some .boolean, 1, 25)
abbrev mX10_isGuest : MD := (yX10_isGuest, cX10_isGuest, 2, some .boolean, 1, 25)
abbrev mX10_isNight : MD := (yX10_isNight, cX10_isNight, 1, some .boolean, 1, 25)
abbrev mX10_write : MD := (yX10_write, cX10_write, 2, some .int, 1, 25)
abbrev mX10_wipe : MD := (yX10_wipe, cX10_wipe, 2, some .int, 0, 0)
abbrev mX10_readNumber : MD := (yX10_readNumber, cX10_readNumber, 4, some .boolean, 1, 25)
abbrev mX10_readNumbers : MD := (yX10_readNumbers, cX10_readNumbers, 4, some .boolean, 2, 48)
abbrev mX10_readItem : MD := (yX10_readItem, cX10_readItem, 6, some .boolean, 3, 71)
abbrev mX10_fault : MD := (yX10_fault, cX10_fault, 2, some .int, 4, 96)
abbrev mX10_lay : MD := (yX10_lay, cX10_lay, 2, some .int, 5, 117)
abbrev mX10_lengthOn : MD := (yX10_lengthOn, cX10_lengthOn, 7, some .int, 0, 0)
abbrev mX10_bed : MD := (yX10_bed, cX10_bed, 3, some .int, 2, 46)
abbrev mX10_inchesOn : MD := (yX10_inchesOn, cX10_inchesOn, 4, some .int, 0, 0)
abbrev mX10_harmBy : MD := (yX10_harmBy, cX10_harmBy, 5, some .int, 0, 0)
abbrev mX10_harmOf : MD := (yX10_harmOf, cX10_harmOf, 4, some .int, 1, 26)
abbrev mX10_harm : MD := (yX10_harm, cX10_harm, 4, some .int, 2, 49)
abbrev mX10_placeOf : MD := (yX10_placeOf, cX10_placeOf, 3, some .int, 0, 0)
abbrev mX10_guest : MD := (yX10_guest, cX10_guest, 3, some .int, 2, 46)
abbrev mX10_isWaiting : MD := (yX10_isWaiting, cX10_isWaiting, 3, some .boolean, 0, 0)
abbrev mX10_lieDown : MD := (yX10_lieDown, cX10_lieDown, 5, none, 2, 49)
abbrev mX10_give : MD := (yX10_give, cX10_give, 7, none, 3, 73)
abbrev mX10_stay : MD := (yX10_stay, cX10_stay, 4, some .int, 4, 99)
abbrev mX10_lies : MD := (yX10_lies, cX10_lies, 3, some .int, 5, 122)
abbrev mX10_who : MD := (yX10_who, cX10_who, 5, some .int, 5, 122)
abbrev mX10_unharmed : MD := (yX10_unharmed, cX10_unharmed, 3, some .int, 0, 0)
abbrev mX10_all : MD := (yX10_all, cX10_all, 6, some .int, 5, 122)
abbrev mX10_note : MD := (yX10_note, cX10_note, 2, none, 0, 0)
abbrev mX10_move : MD := (yX10_move, cX10_move, 5, some .int, 2, 46)
abbrev mX10_wear : MD := (yX10_wear, cX10_wear, 4, some .int, 2, 46)
abbrev mX10_come : MD := (yX10_come, cX10_come, 4, some .int, 2, 46)
abbrev mX10_undo : MD := (yX10_undo, cX10_undo, 2, some .int, 0, 0)
abbrev mX10_nextRow : MD := (yX10_nextRow, cX10_nextRow, 5, some .boolean, 1, 23)
abbrev mX10_exchange : MD := (yX10_exchange, cX10_exchange, 4, none, 0, 0)
abbrev mX10_order : MD := (yX10_order, cX10_order, 7, some .int, 5, 122)
abbrev mX10_cushion : MD := (yX10_cushion, cX10_cushion, 7, some .int, 5, 122)
abbrev mX10_length : MD := (yX10_length, cX10_length, 8, some .int, 5, 122)
abbrev mX10_law : MD := (yX10_law, cX10_law, 6, some .int, 5, 122)
abbrev mX10_pairs : MD := (yX10_pairs, cX10_pairs, 9, some .int, 5, 122)
abbrev mX10_later : MD := (yX10_later, cX10_later, 7, some .int, 5, 122)
abbrev mX10_rival : MD := (yX10_rival, cX10_rival, 5, some .int, 5, 122)
abbrev mX10_fewest : MD := (yX10_fewest, cX10_fewest, 5, some .int, 5, 122)
abbrev mX10_turned : MD := (yX10_turned, cX10_turned, 2, some .int, 5, 122)
abbrev mX10_left : MD := (yX10_left, cX10_left, 4, some .int, 2, 46)
abbrev mX10_sweep : MD := (yX10_sweep, cX10_sweep, 2, some .int, 0, 0)
abbrev mX10_sleptBy : MD := (yX10_sleptBy, cX10_sleptBy, 5, some .int, 2, 49)
abbrev mX10_slept : MD := (yX10_slept, cX10_slept, 2, some .int, 3, 73)
abbrev mX10_waysWith : MD := (yX10_waysWith, cX10_waysWith, 7, some .int, 3, 73)
abbrev mX10_sure : MD := (yX10_sure, cX10_sure, 5, some .int, 4, 99)
abbrev mX10_found : MD := (yX10_found, cX10_found, 8, some .int, 5, 122)
abbrev mX10_year : MD := (yX10_year, cX10_year, 4, some .int, 5, 122)
abbrev mX10_keep : MD := (yX10_keep, cX10_keep, 2, some .int, 0, 0)
abbrev mX10_back : MD := (yX10_back, cX10_back, 2, some .int, 0, 0)
abbrev mX10_count : MD := (yX10_count, cX10_count, 2, some .int, 0, 0)
abbrev mJ6_bitCount_0f7a4 : MD := (yJ6_bitCount_0f7a4, cJ6_bitCount_0f7a4, 1, some .int, 0, 0)
abbrev mJ9_abs_0f7a4 : MD := (yJ9_abs_0f7a4, cJ9_abs_0f7a4, 1, some .int, 0, 0)
abbrev mJ9_max_7cf53 : MD := (yJ9_max_7cf53, cJ9_max_7cf53, 2, some .int, 0, 0)
abbrev mJ9_min_7cf53 : MD := (yJ9_min_7cf53, cJ9_min_7cf53, 2, some .int, 0, 0)
abbrev mJ0_length_8abf5 : MD := (yJ0_length_8abf5, cJ0_length_8abf5, 1, some .int, 1, 20)
abbrev mJ0_charAt_5068e : MD := (yJ0_charAt_5068e, cJ0_charAt_5068e, 2, some .char, 4, 85)
abbrev mJ0_coder_7d493 : MD := (yJ0_coder_7d493, cJ0_coder_7d493, 1, some .byte, 0, 0)
abbrev mJ0_isLatin1_aae02 : MD := (yJ0_isLatin1_aae02, cJ0_isLatin1_aae02, 1, some .boolean, 0, 0)
abbrev mJ0_checkIndex_df160 : MD := (yJ0_checkIndex_df160, cJ0_checkIndex_df160, 2, none, 1, 22)
abbrev mJ1_charAt_3b067 : MD := (yJ1_charAt_3b067, cJ1_charAt_3b067, 2, some .char, 2, 43)
abbrev mJ2_getChar_3b067 : MD := (yJ2_getChar_3b067, cJ2_getChar_3b067, 2, some .char, 1, 20)
abbrev mJ2_length_9d52b : MD := (yJ2_length_9d52b, cJ2_length_9d52b, 1, some .int, 0, 0)
abbrev mJ2_charAt_3b067 : MD := (yJ2_charAt_3b067, cJ2_charAt_3b067, 2, some .char, 3, 64)
abbrev mJ2_checkIndex_2214a : MD := (yJ2_checkIndex_2214a, cJ2_checkIndex_2214a, 2, none, 2, 43)
abbrev mJ3_checkIndex_8e157 : MD := (yJ3_checkIndex_8e157, cJ3_checkIndex_8e157, 3, some .int, 0, 0)
abbrev mL_law : MD := (yL_law, cL_law, 4, some .boolean, 9, 352)
theorem fX0_init : MFI mX0_init 0 := ⟨⟨wqG11 (i := 4) rfl rfl, wqG2 (i := 9) rfl rfl, ⟨by decide, by decide⟩, by decide +kernel⟩, wqG11 (i := 3) rfl rfl, rfl, rfl⟩
theorem fX0_clear : MFV mX0_clear 0 := ⟨⟨wqG19 (i := 12) rfl rfl, wqG2 (i := 9) rfl rfl, ⟨by decide, by decide⟩, by decide +kernel⟩, wqG19 (i := 10) rfl rfl, wqG19 (i := 11) rfl rfl⟩
theorem fX0_has : MFV mX0_has 1 := ⟨⟨wqG25 (i := 5) rfl rfl, wqG2 (i := 9) rfl rfl, ⟨by decide, by decide⟩, by decide +kernel⟩, wqG25 (i := 3) rfl rfl, wqG25 (i := 4) rfl rfl⟩
theorem fX0_add : MFV mX0_add 1 := ⟨⟨wqG20 (i := 19) rfl rfl, wqG2 (i := 9) rfl rfl, ⟨by decide, by decide⟩, by decide +kernel⟩, wqG20 (i := 17) rfl rfl, wqG20 (i := 18) rfl rfl⟩
theorem fX0_addFeast : MFV mX0_addFeast 2 := ⟨⟨wqG21 (i := 7) rfl rfl, wqG2 (i := 9) rfl rfl, ⟨by decide, by decide⟩, by decide +kernel⟩, wqG21 (i := 5) rfl rfl, wqG21 (i := 6) rfl rfl⟩
theorem fX0_lengthOn : MFV mX0_lengthOn 2 := ⟨⟨wqG25 (i := 10) rfl rfl, wqG2 (i := 9) rfl rfl, ⟨by decide, by decide⟩, by decide +kernel⟩, wqG25 (i := 8) rfl rfl, wqG25 (i := 9) rfl rfl⟩
theorem fX0_drawn : MFV mX0_drawn 2 := ⟨⟨wqG25 (i := 15) rfl rfl, wqG2 (i := 9) rfl rfl, ⟨by decide, by decide⟩, by decide +kernel⟩, wqG25 (i := 14) rfl rfl, wqG0 (i := 5) rfl rfl⟩
theorem fX1_init : MFI mX1_init 0 := ⟨⟨wqG6 (i := 11) rfl rfl, wqG2 (i := 4) rfl rfl, ⟨by decide, by decide⟩, by decide +kernel⟩, wqG6 (i := 10) rfl rfl, rfl, rfl⟩
theorem fX1_push : MFV mX1_push 3 := ⟨⟨wqG31 (i := 12) rfl rfl, wqG2 (i := 4) rfl rfl, ⟨by decide, by decide⟩, by decide +kernel⟩, wqG31 (i := 10) rfl rfl, wqG31 (i := 11) rfl rfl⟩
theorem fX1_dropOldest : MFV mX1_dropOldest 0 := ⟨⟨wqG31 (i := 16) rfl rfl, wqG2 (i := 4) rfl rfl, ⟨by decide, by decide⟩, by decide +kernel⟩, wqG31 (i := 15) rfl rfl, wqG0 (i := 10) rfl rfl⟩
theorem fX1_takeBack : MFV mX1_takeBack 1 := ⟨⟨wqG32 (i := 12) rfl rfl, wqG2 (i := 4) rfl rfl, ⟨by decide, by decide⟩, by decide +kernel⟩, wqG32 (i := 10) rfl rfl, wqG32 (i := 11) rfl rfl⟩
theorem fX2_init : MFI mX2_init 0 := ⟨⟨wqG10 (i := 18) rfl rfl, wqG2 (i := 8) rfl rfl, ⟨by decide, by decide⟩, by decide +kernel⟩, wqG10 (i := 17) rfl rfl, rfl, rfl⟩
theorem fX2_clear : MFV mX2_clear 0 := ⟨⟨wqG19 (i := 8) rfl rfl, wqG2 (i := 8) rfl rfl, ⟨by decide, by decide⟩, by decide +kernel⟩, wqG19 (i := 6) rfl rfl, wqG19 (i := 7) rfl rfl⟩
theorem fX2_canOpen : MFV mX2_canOpen 0 := ⟨⟨wqG24 (i := 17) rfl rfl, wqG2 (i := 8) rfl rfl, ⟨by decide, by decide⟩, by decide +kernel⟩, wqG24 (i := 15) rfl rfl, wqG24 (i := 16) rfl rfl⟩
theorem fX2_tell : MFV mX2_tell 5 := ⟨⟨wqG20 (i := 11) rfl rfl, wqG2 (i := 8) rfl rfl, ⟨by decide, by decide⟩, by decide +kernel⟩, wqG20 (i := 9) rfl rfl, wqG20 (i := 10) rfl rfl⟩
theorem fX2_enact : MFV mX2_enact 1 := ⟨⟨wqG22 (i := 4) rfl rfl, wqG2 (i := 8) rfl rfl, ⟨by decide, by decide⟩, by decide +kernel⟩, wqG22 (i := 3) rfl rfl, wqG0 (i := 3) rfl rfl⟩
theorem fX2_addRival : MFV mX2_addRival 1 := ⟨⟨wqG22 (i := 8) rfl rfl, wqG2 (i := 8) rfl rfl, ⟨by decide, by decide⟩, by decide +kernel⟩, wqG22 (i := 7) rfl rfl, wqG0 (i := 4) rfl rfl⟩
theorem fX2_namable : MFV mX2_namable 1 := ⟨⟨wqG29 (i := 2) rfl rfl, wqG2 (i := 8) rfl rfl, ⟨by decide, by decide⟩, by decide +kernel⟩, wqG29 (i := 0) rfl rfl, wqG29 (i := 1) rfl rfl⟩
theorem fX2_leastAtRival : MFV mX2_leastAtRival 1 := ⟨⟨wqG36 (i := 10) rfl rfl, wqG2 (i := 8) rfl rfl, ⟨by decide, by decide⟩, by decide +kernel⟩, wqG36 (i := 8) rfl rfl, wqG36 (i := 9) rfl rfl⟩
theorem fX3_init : MFI mX3_init 0 := ⟨⟨wqG4 (i := 13) rfl rfl, wqG2 (i := 3) rfl rfl, ⟨by decide, by decide⟩, by decide +kernel⟩, wqG4 (i := 12) rfl rfl, rfl, rfl⟩
theorem fX3_pass : MFV mX3_pass 2 := ⟨⟨wqG27 (i := 12) rfl rfl, wqG2 (i := 3) rfl rfl, ⟨by decide, by decide⟩, by decide +kernel⟩, wqG27 (i := 10) rfl rfl, wqG27 (i := 11) rfl rfl⟩
theorem fX3_fillBeds : MFV mX3_fillBeds 2 := ⟨⟨wqG28 (i := 0) rfl rfl, wqG2 (i := 3) rfl rfl, ⟨by decide, by decide⟩, by decide +kernel⟩, wqG27 (i := 19) rfl rfl, wqG0 (i := 6) rfl rfl⟩
theorem fX3_callFirst : MFV mX3_callFirst 2 := ⟨⟨wqG28 (i := 8) rfl rfl, wqG2 (i := 3) rfl rfl, ⟨by decide, by decide⟩, by decide +kernel⟩, wqG28 (i := 7) rfl rfl, wqG0 (i := 7) rfl rfl⟩
theorem fX3_bestOf : MFV mX3_bestOf 5 := ⟨⟨wqG28 (i := 18) rfl rfl, wqG2 (i := 3) rfl rfl, ⟨by decide, by decide⟩, by decide +kernel⟩, wqG28 (i := 17) rfl rfl, wqG0 (i := 8) rfl rfl⟩
theorem fX3_hasLain : MFV mX3_hasLain 1 := ⟨⟨wqG29 (i := 8) rfl rfl, wqG2 (i := 3) rfl rfl, ⟨by decide, by decide⟩, by decide +kernel⟩, wqG29 (i := 6) rfl rfl, wqG29 (i := 7) rfl rfl⟩
theorem fX3_total : MFV mX3_total 1 := ⟨⟨wqG30 (i := 0) rfl rfl, wqG2 (i := 3) rfl rfl, ⟨by decide, by decide⟩, by decide +kernel⟩, wqG29 (i := 18) rfl rfl, wqG29 (i := 19) rfl rfl⟩
theorem fX3_unharmed : MFV mX3_unharmed 1 := ⟨⟨wqG30 (i := 11) rfl rfl, wqG2 (i := 3) rfl rfl, ⟨by decide, by decide⟩, by decide +kernel⟩, wqG30 (i := 9) rfl rfl, wqG30 (i := 10) rfl rfl⟩
theorem fX3_greatest : MFV mX3_greatest 1 := ⟨⟨wqG30 (i := 16) rfl rfl, wqG2 (i := 3) rfl rfl, ⟨by decide, by decide⟩, by decide +kernel⟩, wqG30 (i := 14) rfl rfl, wqG30 (i := 15) rfl rfl⟩
theorem fX3_allLainBy : MFV mX3_allLainBy 2 := ⟨⟨wqG37 (i := 3) rfl rfl, wqG2 (i := 3) rfl rfl, ⟨by decide, by decide⟩, by decide +kernel⟩, wqG37 (i := 1) rfl rfl, wqG37 (i := 2) rfl rfl⟩
theorem fX4_init : MFI mX4_init 0 := ⟨⟨wqG9 (i := 16) rfl rfl, wqG2 (i := 7) rfl rfl, ⟨by decide, by decide⟩, by decide +kernel⟩, wqG9 (i := 15) rfl rfl, rfl, rfl⟩
theorem fX4_search : MFV mX4_search 2 := ⟨⟨wqG33 (i := 3) rfl rfl, wqG2 (i := 7) rfl rfl, ⟨by decide, by decide⟩, by decide +kernel⟩, wqG33 (i := 1) rfl rfl, wqG33 (i := 2) rfl rfl⟩
theorem fX4_toNextRow : MFS mX4_toNextRow 2 := ⟨⟨wqG33 (i := 12) rfl rfl, wqG2 (i := 7) rfl rfl, ⟨by decide, by decide⟩, by decide +kernel⟩, wqG33 (i := 11) rfl rfl⟩
theorem fX4_letFall : MFS mX4_letFall 2 := ⟨⟨wqG33 (i := 15) rfl rfl, wqG2 (i := 7) rfl rfl, ⟨by decide, by decide⟩, by decide +kernel⟩, wqG33 (i := 14) rfl rfl⟩
theorem fX4_turnRound : MFS mX4_turnRound 2 := ⟨⟨wqG34 (i := 3) rfl rfl, wqG2 (i := 7) rfl rfl, ⟨by decide, by decide⟩, by decide +kernel⟩, wqG34 (i := 2) rfl rfl⟩
theorem fX4_swap : MFS mX4_swap 3 := ⟨⟨wqG33 (i := 19) rfl rfl, wqG2 (i := 7) rfl rfl, ⟨by decide, by decide⟩, by decide +kernel⟩, wqG33 (i := 18) rfl rfl⟩
theorem fX5_init : MFI mX5_init 0 := ⟨⟨wqG13 (i := 0) rfl rfl, wqG2 (i := 10) rfl rfl, ⟨by decide, by decide⟩, by decide +kernel⟩, wqG12 (i := 19) rfl rfl, rfl, rfl⟩
theorem fX5_has : MFV mX5_has 1 := ⟨⟨wqG22 (i := 0) rfl rfl, wqG2 (i := 10) rfl rfl, ⟨by decide, by decide⟩, by decide +kernel⟩, wqG21 (i := 18) rfl rfl, wqG21 (i := 19) rfl rfl⟩
theorem fX5_everyone : MFV mX5_everyone 0 := ⟨⟨wqG27 (i := 16) rfl rfl, wqG2 (i := 10) rfl rfl, ⟨by decide, by decide⟩, by decide +kernel⟩, wqG27 (i := 14) rfl rfl, wqG27 (i := 15) rfl rfl⟩
theorem fX5_add : MFV mX5_add 3 := ⟨⟨wqG21 (i := 12) rfl rfl, wqG2 (i := 10) rfl rfl, ⟨by decide, by decide⟩, by decide +kernel⟩, wqG21 (i := 10) rfl rfl, wqG21 (i := 11) rfl rfl⟩
theorem fX5_befriend : MFV mX5_befriend 2 := ⟨⟨wqG21 (i := 16) rfl rfl, wqG2 (i := 10) rfl rfl, ⟨by decide, by decide⟩, by decide +kernel⟩, wqG21 (i := 14) rfl rfl, wqG21 (i := 15) rfl rfl⟩
theorem fX5_hereBy : MFV mX5_hereBy 1 := ⟨⟨wqG28 (i := 4) rfl rfl, wqG2 (i := 10) rfl rfl, ⟨by decide, by decide⟩, by decide +kernel⟩, wqG28 (i := 2) rfl rfl, wqG28 (i := 3) rfl rfl⟩
theorem fX5_harmAt : MFV mX5_harmAt 3 := ⟨⟨wqG26 (i := 17) rfl rfl, wqG2 (i := 10) rfl rfl, ⟨by decide, by decide⟩, by decide +kernel⟩, wqG26 (i := 15) rfl rfl, wqG26 (i := 16) rfl rfl⟩
theorem fX5_harmBy : MFS mX5_harmBy 2 := ⟨⟨wqG27 (i := 3) rfl rfl, wqG2 (i := 10) rfl rfl, ⟨by decide, by decide⟩, by decide +kernel⟩, wqG27 (i := 2) rfl rfl⟩
theorem fX5_placeOf : MFV mX5_placeOf 1 := ⟨⟨wqG26 (i := 9) rfl rfl, wqG2 (i := 10) rfl rfl, ⟨by decide, by decide⟩, by decide +kernel⟩, wqG26 (i := 7) rfl rfl, wqG26 (i := 8) rfl rfl⟩
theorem fX5_shift : MFV mX5_shift 2 := ⟨⟨wqG31 (i := 4) rfl rfl, wqG2 (i := 10) rfl rfl, ⟨by decide, by decide⟩, by decide +kernel⟩, wqG31 (i := 2) rfl rfl, wqG31 (i := 3) rfl rfl⟩
theorem fX5_swapPlaces : MFV mX5_swapPlaces 2 := ⟨⟨wqG35 (i := 17) rfl rfl, wqG2 (i := 10) rfl rfl, ⟨by decide, by decide⟩, by decide +kernel⟩, wqG35 (i := 15) rfl rfl, wqG35 (i := 16) rfl rfl⟩
theorem fX6_init : MFI mX6_init 0 := ⟨⟨wqG8 (i := 13) rfl rfl, wqG2 (i := 6) rfl rfl, ⟨by decide, by decide⟩, by decide +kernel⟩, wqG8 (i := 12) rfl rfl, rfl, rfl⟩
theorem fX6_has : MFV mX6_has 1 := ⟨⟨wqG38 (i := 7) rfl rfl, wqG2 (i := 6) rfl rfl, ⟨by decide, by decide⟩, by decide +kernel⟩, wqG38 (i := 5) rfl rfl, wqG38 (i := 6) rfl rfl⟩
theorem fX6_add : MFV mX6_add 3 := ⟨⟨wqG37 (i := 15) rfl rfl, wqG2 (i := 6) rfl rfl, ⟨by decide, by decide⟩, by decide +kernel⟩, wqG37 (i := 13) rfl rfl, wqG37 (i := 14) rfl rfl⟩
theorem fX6_sleepersOf : MFV mX6_sleepersOf 2 := ⟨⟨wqG38 (i := 11) rfl rfl, wqG2 (i := 6) rfl rfl, ⟨by decide, by decide⟩, by decide +kernel⟩, wqG38 (i := 9) rfl rfl, wqG38 (i := 10) rfl rfl⟩
theorem fX6_ways : MFV mX6_ways 3 := ⟨⟨wqG39 (i := 3) rfl rfl, wqG2 (i := 6) rfl rfl, ⟨by decide, by decide⟩, by decide +kernel⟩, wqG39 (i := 1) rfl rfl, wqG39 (i := 2) rfl rfl⟩
theorem fX6_addOne : MFV mX6_addOne 2 := ⟨⟨wqG39 (i := 8) rfl rfl, wqG2 (i := 6) rfl rfl, ⟨by decide, by decide⟩, by decide +kernel⟩, wqG39 (i := 7) rfl rfl, wqG0 (i := 14) rfl rfl⟩
theorem fX6_onlySleeperOf : MFV mX6_onlySleeperOf 2 := ⟨⟨wqG39 (i := 13) rfl rfl, wqG2 (i := 6) rfl rfl, ⟨by decide, by decide⟩, by decide +kernel⟩, wqG39 (i := 11) rfl rfl, wqG39 (i := 12) rfl rfl⟩
theorem fX7_init : MFI mX7_init 0 := ⟨⟨wqG3 (i := 11) rfl rfl, wqG2 (i := 2) rfl rfl, ⟨by decide, by decide⟩, by decide +kernel⟩, wqG3 (i := 10) rfl rfl, rfl, rfl⟩
theorem fX7_put : MFV mX7_put 1 := ⟨⟨wqG19 (i := 0) rfl rfl, wqG2 (i := 2) rfl rfl, ⟨by decide, by decide⟩, by decide +kernel⟩, wqG18 (i := 18) rfl rfl, wqG18 (i := 19) rfl rfl⟩
theorem fX7_readInto : MFV mX7_readInto 1 := ⟨⟨wqG19 (i := 4) rfl rfl, wqG2 (i := 2) rfl rfl, ⟨by decide, by decide⟩, by decide +kernel⟩, wqG19 (i := 2) rfl rfl, wqG19 (i := 3) rfl rfl⟩
theorem fX7_readNumbers : MFV mX7_readNumbers 1 := ⟨⟨wqG19 (i := 16) rfl rfl, wqG2 (i := 2) rfl rfl, ⟨by decide, by decide⟩, by decide +kernel⟩, wqG19 (i := 15) rfl rfl, wqG0 (i := 0) rfl rfl⟩
theorem fX7_isFigure : MFV mX7_isFigure 1 := ⟨⟨wqG20 (i := 0) rfl rfl, wqG2 (i := 2) rfl rfl, ⟨by decide, by decide⟩, by decide +kernel⟩, wqG19 (i := 19) rfl rfl, wqG0 (i := 1) rfl rfl⟩
theorem fX7_letterAt : MFV mX7_letterAt 1 := ⟨⟨wqG20 (i := 4) rfl rfl, wqG2 (i := 2) rfl rfl, ⟨by decide, by decide⟩, by decide +kernel⟩, wqG20 (i := 3) rfl rfl, wqG0 (i := 2) rfl rfl⟩
theorem fX8_init : MFI mX8_init 0 := ⟨⟨wqG7 (i := 11) rfl rfl, wqG2 (i := 5) rfl rfl, ⟨by decide, by decide⟩, by decide +kernel⟩, wqG7 (i := 10) rfl rfl, rfl, rfl⟩
theorem fX8_put : MFV mX8_put 1 := ⟨⟨wqG40 (i := 14) rfl rfl, wqG2 (i := 5) rfl rfl, ⟨by decide, by decide⟩, by decide +kernel⟩, wqG40 (i := 12) rfl rfl, wqG40 (i := 13) rfl rfl⟩
theorem fX8_takeInto : MFV mX8_takeInto 1 := ⟨⟨wqG41 (i := 3) rfl rfl, wqG2 (i := 5) rfl rfl, ⟨by decide, by decide⟩, by decide +kernel⟩, wqG41 (i := 1) rfl rfl, wqG41 (i := 2) rfl rfl⟩
theorem fX9_init : MFI mX9_init 0 := ⟨⟨wqG3 (i := 3) rfl rfl, wqG2 (i := 1) rfl rfl, ⟨by decide, by decide⟩, by decide +kernel⟩, wqG3 (i := 2) rfl rfl, rfl, rfl⟩
theorem fX9_write : MFV mX9_write 1 := ⟨⟨wqG24 (i := 1) rfl rfl, wqG2 (i := 1) rfl rfl, ⟨by decide, by decide⟩, by decide +kernel⟩, wqG23 (i := 19) rfl rfl, wqG24 (i := 0) rfl rfl⟩
theorem fX9_wipe : MFV mX9_wipe 0 := ⟨⟨wqG24 (i := 5) rfl rfl, wqG2 (i := 1) rfl rfl, ⟨by decide, by decide⟩, by decide +kernel⟩, wqG24 (i := 3) rfl rfl, wqG24 (i := 4) rfl rfl⟩
theorem fX9_fault : MFV mX9_fault 0 := ⟨⟨wqG24 (i := 9) rfl rfl, wqG2 (i := 1) rfl rfl, ⟨by decide, by decide⟩, by decide +kernel⟩, wqG24 (i := 7) rfl rfl, wqG24 (i := 8) rfl rfl⟩
theorem fX9_lay : MFV mX9_lay 0 := ⟨⟨wqG24 (i := 13) rfl rfl, wqG2 (i := 1) rfl rfl, ⟨by decide, by decide⟩, by decide +kernel⟩, wqG24 (i := 11) rfl rfl, wqG24 (i := 12) rfl rfl⟩
theorem fX9_bed : MFV mX9_bed 2 := ⟨⟨wqG25 (i := 1) rfl rfl, wqG2 (i := 1) rfl rfl, ⟨by decide, by decide⟩, by decide +kernel⟩, wqG24 (i := 19) rfl rfl, wqG25 (i := 0) rfl rfl⟩
theorem fX9_guest : MFV mX9_guest 2 := ⟨⟨wqG26 (i := 4) rfl rfl, wqG2 (i := 1) rfl rfl, ⟨by decide, by decide⟩, by decide +kernel⟩, wqG26 (i := 2) rfl rfl, wqG26 (i := 3) rfl rfl⟩
theorem fX9_harm : MFV mX9_harm 3 := ⟨⟨wqG26 (i := 13) rfl rfl, wqG2 (i := 1) rfl rfl, ⟨by decide, by decide⟩, by decide +kernel⟩, wqG26 (i := 11) rfl rfl, wqG26 (i := 12) rfl rfl⟩
theorem fX9_lies : MFV mX9_lies 2 := ⟨⟨wqG27 (i := 7) rfl rfl, wqG2 (i := 1) rfl rfl, ⟨by decide, by decide⟩, by decide +kernel⟩, wqG27 (i := 5) rfl rfl, wqG27 (i := 6) rfl rfl⟩
theorem fX9_who : MFV mX9_who 2 := ⟨⟨wqG29 (i := 12) rfl rfl, wqG2 (i := 1) rfl rfl, ⟨by decide, by decide⟩, by decide +kernel⟩, wqG29 (i := 10) rfl rfl, wqG29 (i := 11) rfl rfl⟩
theorem fX9_all : MFV mX9_all 1 := ⟨⟨wqG29 (i := 16) rfl rfl, wqG2 (i := 1) rfl rfl, ⟨by decide, by decide⟩, by decide +kernel⟩, wqG29 (i := 14) rfl rfl, wqG29 (i := 15) rfl rfl⟩
theorem fX9_move : MFV mX9_move 2 := ⟨⟨wqG31 (i := 0) rfl rfl, wqG2 (i := 1) rfl rfl, ⟨by decide, by decide⟩, by decide +kernel⟩, wqG30 (i := 18) rfl rfl, wqG30 (i := 19) rfl rfl⟩
theorem fX9_wear : MFV mX9_wear 2 := ⟨⟨wqG32 (i := 0) rfl rfl, wqG2 (i := 1) rfl rfl, ⟨by decide, by decide⟩, by decide +kernel⟩, wqG31 (i := 18) rfl rfl, wqG31 (i := 19) rfl rfl⟩
theorem fX9_come : MFV mX9_come 2 := ⟨⟨wqG32 (i := 4) rfl rfl, wqG2 (i := 1) rfl rfl, ⟨by decide, by decide⟩, by decide +kernel⟩, wqG32 (i := 2) rfl rfl, wqG32 (i := 3) rfl rfl⟩
theorem fX9_undo : MFV mX9_undo 0 := ⟨⟨wqG32 (i := 8) rfl rfl, wqG2 (i := 1) rfl rfl, ⟨by decide, by decide⟩, by decide +kernel⟩, wqG32 (i := 6) rfl rfl, wqG32 (i := 7) rfl rfl⟩
theorem fX9_order : MFV mX9_order 1 := ⟨⟨wqG32 (i := 19) rfl rfl, wqG2 (i := 1) rfl rfl, ⟨by decide, by decide⟩, by decide +kernel⟩, wqG32 (i := 17) rfl rfl, wqG32 (i := 18) rfl rfl⟩
theorem fX9_cushion : MFV mX9_cushion 1 := ⟨⟨wqG34 (i := 7) rfl rfl, wqG2 (i := 1) rfl rfl, ⟨by decide, by decide⟩, by decide +kernel⟩, wqG34 (i := 5) rfl rfl, wqG34 (i := 6) rfl rfl⟩
theorem fX9_length : MFV mX9_length 2 := ⟨⟨wqG34 (i := 15) rfl rfl, wqG2 (i := 1) rfl rfl, ⟨by decide, by decide⟩, by decide +kernel⟩, wqG34 (i := 13) rfl rfl, wqG34 (i := 14) rfl rfl⟩
theorem fX9_law : MFV mX9_law 0 := ⟨⟨wqG34 (i := 19) rfl rfl, wqG2 (i := 1) rfl rfl, ⟨by decide, by decide⟩, by decide +kernel⟩, wqG34 (i := 17) rfl rfl, wqG34 (i := 18) rfl rfl⟩
theorem fX9_pairs : MFV mX9_pairs 1 := ⟨⟨wqG35 (i := 3) rfl rfl, wqG2 (i := 1) rfl rfl, ⟨by decide, by decide⟩, by decide +kernel⟩, wqG35 (i := 1) rfl rfl, wqG35 (i := 2) rfl rfl⟩
theorem fX9_later : MFV mX9_later 2 := ⟨⟨wqG36 (i := 2) rfl rfl, wqG2 (i := 1) rfl rfl, ⟨by decide, by decide⟩, by decide +kernel⟩, wqG36 (i := 0) rfl rfl, wqG36 (i := 1) rfl rfl⟩
theorem fX9_rival : MFV mX9_rival 0 := ⟨⟨wqG36 (i := 6) rfl rfl, wqG2 (i := 1) rfl rfl, ⟨by decide, by decide⟩, by decide +kernel⟩, wqG36 (i := 4) rfl rfl, wqG36 (i := 5) rfl rfl⟩
theorem fX9_fewest : MFV mX9_fewest 1 := ⟨⟨wqG36 (i := 19) rfl rfl, wqG2 (i := 1) rfl rfl, ⟨by decide, by decide⟩, by decide +kernel⟩, wqG36 (i := 17) rfl rfl, wqG36 (i := 18) rfl rfl⟩
theorem fX9_turned : MFV mX9_turned 0 := ⟨⟨wqG37 (i := 7) rfl rfl, wqG2 (i := 1) rfl rfl, ⟨by decide, by decide⟩, by decide +kernel⟩, wqG37 (i := 5) rfl rfl, wqG37 (i := 6) rfl rfl⟩
theorem fX9_left : MFV mX9_left 3 := ⟨⟨wqG37 (i := 11) rfl rfl, wqG2 (i := 1) rfl rfl, ⟨by decide, by decide⟩, by decide +kernel⟩, wqG37 (i := 9) rfl rfl, wqG37 (i := 10) rfl rfl⟩
theorem fX9_sweep : MFV mX9_sweep 0 := ⟨⟨wqG37 (i := 19) rfl rfl, wqG2 (i := 1) rfl rfl, ⟨by decide, by decide⟩, by decide +kernel⟩, wqG37 (i := 17) rfl rfl, wqG37 (i := 18) rfl rfl⟩
theorem fX9_slept : MFV mX9_slept 1 := ⟨⟨wqG38 (i := 3) rfl rfl, wqG2 (i := 1) rfl rfl, ⟨by decide, by decide⟩, by decide +kernel⟩, wqG38 (i := 1) rfl rfl, wqG38 (i := 2) rfl rfl⟩
theorem fX9_sure : MFV mX9_sure 1 := ⟨⟨wqG38 (i := 19) rfl rfl, wqG2 (i := 1) rfl rfl, ⟨by decide, by decide⟩, by decide +kernel⟩, wqG38 (i := 17) rfl rfl, wqG38 (i := 18) rfl rfl⟩
theorem fX9_found : MFV mX9_found 2 := ⟨⟨wqG39 (i := 18) rfl rfl, wqG2 (i := 1) rfl rfl, ⟨by decide, by decide⟩, by decide +kernel⟩, wqG39 (i := 16) rfl rfl, wqG39 (i := 17) rfl rfl⟩
theorem fX9_year : MFV mX9_year 2 := ⟨⟨wqG40 (i := 6) rfl rfl, wqG2 (i := 1) rfl rfl, ⟨by decide, by decide⟩, by decide +kernel⟩, wqG40 (i := 4) rfl rfl, wqG40 (i := 5) rfl rfl⟩
theorem fX9_keep : MFV mX9_keep 0 := ⟨⟨wqG40 (i := 10) rfl rfl, wqG2 (i := 1) rfl rfl, ⟨by decide, by decide⟩, by decide +kernel⟩, wqG40 (i := 8) rfl rfl, wqG40 (i := 9) rfl rfl⟩
theorem fX9_back : MFV mX9_back 0 := ⟨⟨wqG40 (i := 19) rfl rfl, wqG2 (i := 1) rfl rfl, ⟨by decide, by decide⟩, by decide +kernel⟩, wqG40 (i := 17) rfl rfl, wqG40 (i := 18) rfl rfl⟩
theorem fX9_count : MFV mX9_count 1 := ⟨⟨wqG41 (i := 7) rfl rfl, wqG2 (i := 1) rfl rfl, ⟨by decide, by decide⟩, by decide +kernel⟩, wqG41 (i := 5) rfl rfl, wqG41 (i := 6) rfl rfl⟩
theorem fX9_isWithin : MFS mX9_isWithin 3 := ⟨⟨wqG20 (i := 7) rfl rfl, wqG2 (i := 1) rfl rfl, ⟨by decide, by decide⟩, by decide +kernel⟩, wqG20 (i := 6) rfl rfl⟩
theorem fX9_isNight : MFS mX9_isNight 1 := ⟨⟨wqG21 (i := 2) rfl rfl, wqG2 (i := 1) rfl rfl, ⟨by decide, by decide⟩, by decide +kernel⟩, wqG21 (i := 1) rfl rfl⟩
theorem fX9_isLength : MFS mX9_isLength 1 := ⟨⟨wqG20 (i := 14) rfl rfl, wqG2 (i := 1) rfl rfl, ⟨by decide, by decide⟩, by decide +kernel⟩, wqG20 (i := 13) rfl rfl⟩
theorem fX9_isIn : MFS mX9_isIn 2 := ⟨⟨wqG28 (i := 12) rfl rfl, wqG2 (i := 1) rfl rfl, ⟨by decide, by decide⟩, by decide +kernel⟩, wqG28 (i := 11) rfl rfl⟩
theorem fX9_noteChange : MFV mX9_noteChange 3 := ⟨⟨wqG31 (i := 8) rfl rfl, wqG2 (i := 1) rfl rfl, ⟨by decide, by decide⟩, by decide +kernel⟩, wqG31 (i := 7) rfl rfl, wqG0 (i := 9) rfl rfl⟩
theorem fX9_sumBelow : MFV mX9_sumBelow 1 := ⟨⟨wqG34 (i := 11) rfl rfl, wqG2 (i := 1) rfl rfl, ⟨by decide, by decide⟩, by decide +kernel⟩, wqG34 (i := 10) rfl rfl, wqG0 (i := 11) rfl rfl⟩
theorem fX9_noteHarmsNow : MFV mX9_noteHarmsNow 0 := ⟨⟨wqG35 (i := 7) rfl rfl, wqG2 (i := 1) rfl rfl, ⟨by decide, by decide⟩, by decide +kernel⟩, wqG35 (i := 6) rfl rfl, wqG0 (i := 12) rfl rfl⟩
theorem fX9_wouldSwap : MFV mX9_wouldSwap 2 := ⟨⟨wqG35 (i := 13) rfl rfl, wqG2 (i := 1) rfl rfl, ⟨by decide, by decide⟩, by decide +kernel⟩, wqG35 (i := 12) rfl rfl, wqG0 (i := 13) rfl rfl⟩
theorem fX10_init : MFI mX10_init 0 := ⟨⟨wqG41 (i := 12) rfl rfl, wqG2 (i := 15) rfl rfl, ⟨by decide, by decide⟩, by decide +kernel⟩, wqG41 (i := 11) rfl rfl, rfl, rfl⟩
theorem fX10_in : MFS mX10_in 3 := ⟨⟨wqG48 (i := 15) rfl rfl, wqG2 (i := 15) rfl rfl, ⟨by decide, by decide⟩, by decide +kernel⟩, wqG48 (i := 14) rfl rfl⟩
theorem fX10_has : MFS mX10_has 2 := ⟨⟨wqG53 (i := 15) rfl rfl, wqG2 (i := 15) rfl rfl, ⟨by decide, by decide⟩, by decide +kernel⟩, wqG53 (i := 14) rfl rfl⟩
theorem fX10_isBed : MFV mX10_isBed 1 := ⟨⟨wqG50 (i := 16) rfl rfl, wqG2 (i := 15) rfl rfl, ⟨by decide, by decide⟩, by decide +kernel⟩, wqG50 (i := 15) rfl rfl, wqG0 (i := 18) rfl rfl⟩
theorem fX10_isGuest : MFV mX10_isGuest 1 := ⟨⟨wqG51 (i := 16) rfl rfl, wqG2 (i := 15) rfl rfl, ⟨by decide, by decide⟩, by decide +kernel⟩, wqG51 (i := 15) rfl rfl, wqG1 (i := 0) rfl rfl⟩
theorem fX10_isNight : MFS mX10_isNight 1 := ⟨⟨wqG50 (i := 19) rfl rfl, wqG2 (i := 15) rfl rfl, ⟨by decide, by decide⟩, by decide +kernel⟩, wqG50 (i := 18) rfl rfl⟩
theorem fX10_write : MFV mX10_write 1 := ⟨⟨wqG48 (i := 10) rfl rfl, wqG2 (i := 15) rfl rfl, ⟨by decide, by decide⟩, by decide +kernel⟩, wqG48 (i := 8) rfl rfl, wqG48 (i := 9) rfl rfl⟩
theorem fX10_wipe : MFV mX10_wipe 0 := ⟨⟨wqG48 (i := 19) rfl rfl, wqG2 (i := 15) rfl rfl, ⟨by decide, by decide⟩, by decide +kernel⟩, wqG48 (i := 17) rfl rfl, wqG48 (i := 18) rfl rfl⟩
theorem fX10_readNumber : MFV mX10_readNumber 1 := ⟨⟨wqG49 (i := 15) rfl rfl, wqG2 (i := 15) rfl rfl, ⟨by decide, by decide⟩, by decide +kernel⟩, wqG49 (i := 14) rfl rfl, wqG0 (i := 17) rfl rfl⟩
theorem fX10_readNumbers : MFV mX10_readNumbers 1 := ⟨⟨wqG49 (i := 11) rfl rfl, wqG2 (i := 15) rfl rfl, ⟨by decide, by decide⟩, by decide +kernel⟩, wqG49 (i := 10) rfl rfl, wqG0 (i := 16) rfl rfl⟩
theorem fX10_readItem : MFV mX10_readItem 0 := ⟨⟨wqG49 (i := 7) rfl rfl, wqG2 (i := 15) rfl rfl, ⟨by decide, by decide⟩, by decide +kernel⟩, wqG49 (i := 6) rfl rfl, wqG0 (i := 15) rfl rfl⟩
theorem fX10_fault : MFV mX10_fault 0 := ⟨⟨wqG49 (i := 3) rfl rfl, wqG2 (i := 15) rfl rfl, ⟨by decide, by decide⟩, by decide +kernel⟩, wqG49 (i := 1) rfl rfl, wqG49 (i := 2) rfl rfl⟩
theorem fX10_lay : MFV mX10_lay 0 := ⟨⟨wqG50 (i := 7) rfl rfl, wqG2 (i := 15) rfl rfl, ⟨by decide, by decide⟩, by decide +kernel⟩, wqG50 (i := 5) rfl rfl, wqG50 (i := 6) rfl rfl⟩
theorem fX10_lengthOn : MFV mX10_lengthOn 2 := ⟨⟨wqG51 (i := 3) rfl rfl, wqG2 (i := 15) rfl rfl, ⟨by decide, by decide⟩, by decide +kernel⟩, wqG51 (i := 2) rfl rfl, wqG0 (i := 19) rfl rfl⟩
theorem fX10_bed : MFV mX10_bed 2 := ⟨⟨wqG50 (i := 12) rfl rfl, wqG2 (i := 15) rfl rfl, ⟨by decide, by decide⟩, by decide +kernel⟩, wqG50 (i := 10) rfl rfl, wqG50 (i := 11) rfl rfl⟩
theorem fX10_inchesOn : MFV mX10_inchesOn 2 := ⟨⟨wqG52 (i := 4) rfl rfl, wqG2 (i := 15) rfl rfl, ⟨by decide, by decide⟩, by decide +kernel⟩, wqG52 (i := 3) rfl rfl, wqG1 (i := 2) rfl rfl⟩
theorem fX10_harmBy : MFV mX10_harmBy 2 := ⟨⟨wqG52 (i := 8) rfl rfl, wqG2 (i := 15) rfl rfl, ⟨by decide, by decide⟩, by decide +kernel⟩, wqG52 (i := 7) rfl rfl, wqG1 (i := 3) rfl rfl⟩
theorem fX10_harmOf : MFV mX10_harmOf 3 := ⟨⟨wqG52 (i := 0) rfl rfl, wqG2 (i := 15) rfl rfl, ⟨by decide, by decide⟩, by decide +kernel⟩, wqG51 (i := 19) rfl rfl, wqG1 (i := 1) rfl rfl⟩
theorem fX10_harm : MFV mX10_harm 3 := ⟨⟨wqG51 (i := 12) rfl rfl, wqG2 (i := 15) rfl rfl, ⟨by decide, by decide⟩, by decide +kernel⟩, wqG51 (i := 10) rfl rfl, wqG51 (i := 11) rfl rfl⟩
theorem fX10_placeOf : MFV mX10_placeOf 1 := ⟨⟨wqG52 (i := 16) rfl rfl, wqG2 (i := 15) rfl rfl, ⟨by decide, by decide⟩, by decide +kernel⟩, wqG52 (i := 15) rfl rfl, wqG1 (i := 4) rfl rfl⟩
theorem fX10_guest : MFV mX10_guest 2 := ⟨⟨wqG52 (i := 12) rfl rfl, wqG2 (i := 15) rfl rfl, ⟨by decide, by decide⟩, by decide +kernel⟩, wqG52 (i := 10) rfl rfl, wqG52 (i := 11) rfl rfl⟩
theorem fX10_isWaiting : MFV mX10_isWaiting 2 := ⟨⟨wqG53 (i := 12) rfl rfl, wqG2 (i := 15) rfl rfl, ⟨by decide, by decide⟩, by decide +kernel⟩, wqG53 (i := 11) rfl rfl, wqG1 (i := 7) rfl rfl⟩
theorem fX10_lieDown : MFV mX10_lieDown 4 := ⟨⟨wqG53 (i := 19) rfl rfl, wqG2 (i := 15) rfl rfl, ⟨by decide, by decide⟩, by decide +kernel⟩, wqG53 (i := 18) rfl rfl, wqG1 (i := 8) rfl rfl⟩
theorem fX10_give : MFV mX10_give 2 := ⟨⟨wqG53 (i := 8) rfl rfl, wqG2 (i := 15) rfl rfl, ⟨by decide, by decide⟩, by decide +kernel⟩, wqG53 (i := 7) rfl rfl, wqG1 (i := 6) rfl rfl⟩
theorem fX10_stay : MFV mX10_stay 1 := ⟨⟨wqG53 (i := 4) rfl rfl, wqG2 (i := 15) rfl rfl, ⟨by decide, by decide⟩, by decide +kernel⟩, wqG53 (i := 3) rfl rfl, wqG1 (i := 5) rfl rfl⟩
theorem fX10_lies : MFV mX10_lies 2 := ⟨⟨wqG53 (i := 0) rfl rfl, wqG2 (i := 15) rfl rfl, ⟨by decide, by decide⟩, by decide +kernel⟩, wqG52 (i := 18) rfl rfl, wqG52 (i := 19) rfl rfl⟩
theorem fX10_who : MFV mX10_who 2 := ⟨⟨wqG54 (i := 3) rfl rfl, wqG2 (i := 15) rfl rfl, ⟨by decide, by decide⟩, by decide +kernel⟩, wqG54 (i := 1) rfl rfl, wqG54 (i := 2) rfl rfl⟩
theorem fX10_unharmed : MFV mX10_unharmed 0 := ⟨⟨wqG54 (i := 12) rfl rfl, wqG2 (i := 15) rfl rfl, ⟨by decide, by decide⟩, by decide +kernel⟩, wqG54 (i := 11) rfl rfl, wqG1 (i := 9) rfl rfl⟩
theorem fX10_all : MFV mX10_all 1 := ⟨⟨wqG54 (i := 7) rfl rfl, wqG2 (i := 15) rfl rfl, ⟨by decide, by decide⟩, by decide +kernel⟩, wqG54 (i := 5) rfl rfl, wqG54 (i := 6) rfl rfl⟩
theorem fX10_note : MFV mX10_note 0 := ⟨⟨wqG55 (i := 0) rfl rfl, wqG2 (i := 15) rfl rfl, ⟨by decide, by decide⟩, by decide +kernel⟩, wqG54 (i := 19) rfl rfl, wqG1 (i := 10) rfl rfl⟩
theorem fX10_move : MFV mX10_move 2 := ⟨⟨wqG54 (i := 16) rfl rfl, wqG2 (i := 15) rfl rfl, ⟨by decide, by decide⟩, by decide +kernel⟩, wqG54 (i := 14) rfl rfl, wqG54 (i := 15) rfl rfl⟩
theorem fX10_wear : MFV mX10_wear 2 := ⟨⟨wqG55 (i := 4) rfl rfl, wqG2 (i := 15) rfl rfl, ⟨by decide, by decide⟩, by decide +kernel⟩, wqG55 (i := 2) rfl rfl, wqG55 (i := 3) rfl rfl⟩
theorem fX10_come : MFV mX10_come 2 := ⟨⟨wqG55 (i := 9) rfl rfl, wqG2 (i := 15) rfl rfl, ⟨by decide, by decide⟩, by decide +kernel⟩, wqG55 (i := 7) rfl rfl, wqG55 (i := 8) rfl rfl⟩
theorem fX10_undo : MFV mX10_undo 0 := ⟨⟨wqG55 (i := 13) rfl rfl, wqG2 (i := 15) rfl rfl, ⟨by decide, by decide⟩, by decide +kernel⟩, wqG55 (i := 11) rfl rfl, wqG55 (i := 12) rfl rfl⟩
theorem fX10_nextRow : MFV mX10_nextRow 0 := ⟨⟨wqG56 (i := 2) rfl rfl, wqG2 (i := 15) rfl rfl, ⟨by decide, by decide⟩, by decide +kernel⟩, wqG56 (i := 1) rfl rfl, wqG1 (i := 11) rfl rfl⟩
theorem fX10_exchange : MFV mX10_exchange 2 := ⟨⟨wqG56 (i := 6) rfl rfl, wqG2 (i := 15) rfl rfl, ⟨by decide, by decide⟩, by decide +kernel⟩, wqG56 (i := 5) rfl rfl, wqG1 (i := 12) rfl rfl⟩
theorem fX10_order : MFV mX10_order 1 := ⟨⟨wqG55 (i := 17) rfl rfl, wqG2 (i := 15) rfl rfl, ⟨by decide, by decide⟩, by decide +kernel⟩, wqG55 (i := 15) rfl rfl, wqG55 (i := 16) rfl rfl⟩
theorem fX10_cushion : MFV mX10_cushion 1 := ⟨⟨wqG56 (i := 10) rfl rfl, wqG2 (i := 15) rfl rfl, ⟨by decide, by decide⟩, by decide +kernel⟩, wqG56 (i := 8) rfl rfl, wqG56 (i := 9) rfl rfl⟩
theorem fX10_length : MFV mX10_length 2 := ⟨⟨wqG56 (i := 14) rfl rfl, wqG2 (i := 15) rfl rfl, ⟨by decide, by decide⟩, by decide +kernel⟩, wqG56 (i := 12) rfl rfl, wqG56 (i := 13) rfl rfl⟩
theorem fX10_law : MFV mX10_law 0 := ⟨⟨wqG56 (i := 18) rfl rfl, wqG2 (i := 15) rfl rfl, ⟨by decide, by decide⟩, by decide +kernel⟩, wqG56 (i := 16) rfl rfl, wqG56 (i := 17) rfl rfl⟩
theorem fX10_pairs : MFV mX10_pairs 1 := ⟨⟨wqG57 (i := 2) rfl rfl, wqG2 (i := 15) rfl rfl, ⟨by decide, by decide⟩, by decide +kernel⟩, wqG57 (i := 0) rfl rfl, wqG57 (i := 1) rfl rfl⟩
theorem fX10_later : MFV mX10_later 2 := ⟨⟨wqG57 (i := 6) rfl rfl, wqG2 (i := 15) rfl rfl, ⟨by decide, by decide⟩, by decide +kernel⟩, wqG57 (i := 4) rfl rfl, wqG57 (i := 5) rfl rfl⟩
theorem fX10_rival : MFV mX10_rival 0 := ⟨⟨wqG57 (i := 10) rfl rfl, wqG2 (i := 15) rfl rfl, ⟨by decide, by decide⟩, by decide +kernel⟩, wqG57 (i := 8) rfl rfl, wqG57 (i := 9) rfl rfl⟩
theorem fX10_fewest : MFV mX10_fewest 1 := ⟨⟨wqG57 (i := 14) rfl rfl, wqG2 (i := 15) rfl rfl, ⟨by decide, by decide⟩, by decide +kernel⟩, wqG57 (i := 12) rfl rfl, wqG57 (i := 13) rfl rfl⟩
theorem fX10_turned : MFV mX10_turned 0 := ⟨⟨wqG57 (i := 18) rfl rfl, wqG2 (i := 15) rfl rfl, ⟨by decide, by decide⟩, by decide +kernel⟩, wqG57 (i := 16) rfl rfl, wqG57 (i := 17) rfl rfl⟩
theorem fX10_left : MFV mX10_left 3 := ⟨⟨wqG58 (i := 2) rfl rfl, wqG2 (i := 15) rfl rfl, ⟨by decide, by decide⟩, by decide +kernel⟩, wqG58 (i := 0) rfl rfl, wqG58 (i := 1) rfl rfl⟩
theorem fX10_sweep : MFV mX10_sweep 0 := ⟨⟨wqG58 (i := 6) rfl rfl, wqG2 (i := 15) rfl rfl, ⟨by decide, by decide⟩, by decide +kernel⟩, wqG58 (i := 4) rfl rfl, wqG58 (i := 5) rfl rfl⟩
theorem fX10_sleptBy : MFV mX10_sleptBy 1 := ⟨⟨wqG58 (i := 14) rfl rfl, wqG2 (i := 15) rfl rfl, ⟨by decide, by decide⟩, by decide +kernel⟩, wqG58 (i := 13) rfl rfl, wqG1 (i := 13) rfl rfl⟩
theorem fX10_slept : MFV mX10_slept 1 := ⟨⟨wqG58 (i := 10) rfl rfl, wqG2 (i := 15) rfl rfl, ⟨by decide, by decide⟩, by decide +kernel⟩, wqG58 (i := 8) rfl rfl, wqG58 (i := 9) rfl rfl⟩
theorem fX10_waysWith : MFV mX10_waysWith 2 := ⟨⟨wqG59 (i := 2) rfl rfl, wqG2 (i := 15) rfl rfl, ⟨by decide, by decide⟩, by decide +kernel⟩, wqG59 (i := 1) rfl rfl, wqG1 (i := 14) rfl rfl⟩
theorem fX10_sure : MFV mX10_sure 1 := ⟨⟨wqG58 (i := 18) rfl rfl, wqG2 (i := 15) rfl rfl, ⟨by decide, by decide⟩, by decide +kernel⟩, wqG58 (i := 16) rfl rfl, wqG58 (i := 17) rfl rfl⟩
theorem fX10_found : MFV mX10_found 2 := ⟨⟨wqG59 (i := 6) rfl rfl, wqG2 (i := 15) rfl rfl, ⟨by decide, by decide⟩, by decide +kernel⟩, wqG59 (i := 4) rfl rfl, wqG59 (i := 5) rfl rfl⟩
theorem fX10_year : MFV mX10_year 2 := ⟨⟨wqG59 (i := 11) rfl rfl, wqG2 (i := 15) rfl rfl, ⟨by decide, by decide⟩, by decide +kernel⟩, wqG59 (i := 9) rfl rfl, wqG59 (i := 10) rfl rfl⟩
theorem fX10_keep : MFV mX10_keep 0 := ⟨⟨wqG59 (i := 16) rfl rfl, wqG2 (i := 15) rfl rfl, ⟨by decide, by decide⟩, by decide +kernel⟩, wqG59 (i := 14) rfl rfl, wqG59 (i := 15) rfl rfl⟩
theorem fX10_back : MFV mX10_back 0 := ⟨⟨wqG60 (i := 0) rfl rfl, wqG2 (i := 15) rfl rfl, ⟨by decide, by decide⟩, by decide +kernel⟩, wqG59 (i := 18) rfl rfl, wqG59 (i := 19) rfl rfl⟩
theorem fX10_count : MFV mX10_count 1 := ⟨⟨wqG60 (i := 4) rfl rfl, wqG2 (i := 15) rfl rfl, ⟨by decide, by decide⟩, by decide +kernel⟩, wqG60 (i := 2) rfl rfl, wqG60 (i := 3) rfl rfl⟩
theorem fJ6_bitCount_0f7a4 : MFS mJ6_bitCount_0f7a4 1 := ⟨⟨wqG30 (i := 3) rfl rfl, wqG2 (i := 17) rfl rfl, ⟨by decide, by decide⟩, by decide +kernel⟩, wqG30 (i := 2) rfl rfl⟩
theorem fJ9_abs_0f7a4 : MFS mJ9_abs_0f7a4 1 := ⟨⟨wqG40 (i := 1) rfl rfl, wqG2 (i := 16) rfl rfl, ⟨by decide, by decide⟩, by decide +kernel⟩, wqG40 (i := 0) rfl rfl⟩
theorem fJ9_max_7cf53 : MFS mJ9_max_7cf53 2 := ⟨⟨wqG27 (i := 0) rfl rfl, wqG2 (i := 16) rfl rfl, ⟨by decide, by decide⟩, by decide +kernel⟩, wqG26 (i := 19) rfl rfl⟩
theorem fJ9_min_7cf53 : MFS mJ9_min_7cf53 2 := ⟨⟨wqG36 (i := 15) rfl rfl, wqG2 (i := 16) rfl rfl, ⟨by decide, by decide⟩, by decide +kernel⟩, wqG36 (i := 14) rfl rfl⟩
theorem inG0 : ∀ w ∈ u_ws RX0 TX0 7, w ∈ GW := by
  show ∀ w ∈ ([.laysFinal RX0 "BedsThatFit$Beds" "lengths" "[I", .laysFinal RX0 "BedsThatFit$Beds" "longer" "[I", .lays RX0 "BedsThatFit$Beds" "size" "I", .lays RX0 "BedsThatFit$Beds" "feasts" "I", .lays RX0 "BedsThatFit$Beds" "open" "I", .lays RX0 "BedsThatFit$Beds" "turning" "Z", .lays RX0 "BedsThatFit$Beds" "year" "I"] : List Cond), w ∈ GW
  exact List.forall_mem_cons.mpr ⟨wqG12 (i := 1) rfl rfl, List.forall_mem_cons.mpr ⟨wqG12 (i := 3) rfl rfl, List.forall_mem_cons.mpr ⟨wqG12 (i := 5) rfl rfl, List.forall_mem_cons.mpr ⟨wqG12 (i := 7) rfl rfl, List.forall_mem_cons.mpr ⟨wqG12 (i := 9) rfl rfl, List.forall_mem_cons.mpr ⟨wqG12 (i := 11) rfl rfl, List.forall_mem_cons.mpr ⟨wqG12 (i := 13) rfl rfl, fun _ h => absurd h List.not_mem_nil⟩⟩⟩⟩⟩⟩⟩
theorem inG1 : ∀ w ∈ u_ws RX1 TX1 4, w ∈ GW := by
  show ∀ w ∈ ([.laysFinal RX1 "BedsThatFit$Changes" "whats" "[I", .laysFinal RX1 "BedsThatFit$Changes" "guests" "[I", .laysFinal RX1 "BedsThatFit$Changes" "olds" "[I", .lays RX1 "BedsThatFit$Changes" "size" "I"] : List Cond), w ∈ GW
  exact List.forall_mem_cons.mpr ⟨wqG6 (i := 18) rfl rfl, List.forall_mem_cons.mpr ⟨wqG7 (i := 0) rfl rfl, List.forall_mem_cons.mpr ⟨wqG7 (i := 2) rfl rfl, List.forall_mem_cons.mpr ⟨wqG7 (i := 4) rfl rfl, fun _ h => absurd h List.not_mem_nil⟩⟩⟩⟩
theorem inG2 : ∀ w ∈ u_ws RX2 TX2 5, w ∈ GW := by
  show ∀ w ∈ ([.laysFinal RX2 "BedsThatFit$Inn" "beds" "LBedsThatFit$Beds;", .laysFinal RX2 "BedsThatFit$Inn" "party" "LBedsThatFit$Party;", .laysFinal RX2 "BedsThatFit$Inn" "rivalLengths" "[I", .lays RX2 "BedsThatFit$Inn" "rivals" "I", .lays RX2 "BedsThatFit$Inn" "law" "I"] : List Cond), w ∈ GW
  exact List.forall_mem_cons.mpr ⟨wqG15 (i := 17) rfl rfl, List.forall_mem_cons.mpr ⟨wqG15 (i := 19) rfl rfl, List.forall_mem_cons.mpr ⟨wqG16 (i := 1) rfl rfl, List.forall_mem_cons.mpr ⟨wqG16 (i := 3) rfl rfl, List.forall_mem_cons.mpr ⟨wqG16 (i := 5) rfl rfl, fun _ h => absurd h List.not_mem_nil⟩⟩⟩⟩⟩
theorem inG3 : ∀ w ∈ u_ws RX3 TX3 8, w ∈ GW := by
  show ∀ w ∈ ([.laysFinal RX3 "BedsThatFit$Nights" "night" "[I", .laysFinal RX3 "BedsThatFit$Nights" "place" "[I", .laysFinal RX3 "BedsThatFit$Nights" "harms" "[I", .laysFinal RX3 "BedsThatFit$Nights" "namer" "[I", .laysFinal RX3 "BedsThatFit$Nights" "calls" "[I", .lays RX3 "BedsThatFit$Nights" "lain" "I", .lays RX3 "BedsThatFit$Nights" "sum" "I", .lays RX3 "BedsThatFit$Nights" "deepest" "I"] : List Cond), w ∈ GW
  exact List.forall_mem_cons.mpr ⟨wqG5 (i := 10) rfl rfl, List.forall_mem_cons.mpr ⟨wqG5 (i := 12) rfl rfl, List.forall_mem_cons.mpr ⟨wqG5 (i := 14) rfl rfl, List.forall_mem_cons.mpr ⟨wqG5 (i := 16) rfl rfl, List.forall_mem_cons.mpr ⟨wqG5 (i := 18) rfl rfl, List.forall_mem_cons.mpr ⟨wqG6 (i := 0) rfl rfl, List.forall_mem_cons.mpr ⟨wqG6 (i := 2) rfl rfl, List.forall_mem_cons.mpr ⟨wqG6 (i := 4) rfl rfl, fun _ h => absurd h List.not_mem_nil⟩⟩⟩⟩⟩⟩⟩⟩
theorem inG4 : ∀ w ∈ u_ws RX4 TX4 4, w ∈ GW := by
  show ∀ w ∈ ([.laysFinal RX4 "BedsThatFit$Orders" "row" "[I", .laysFinal RX4 "BedsThatFit$Orders" "asIs" "[I", .lays RX4 "BedsThatFit$Orders" "least" "I", .lays RX4 "BedsThatFit$Orders" "known" "Z"] : List Cond), w ∈ GW
  exact List.forall_mem_cons.mpr ⟨wqG10 (i := 5) rfl rfl, List.forall_mem_cons.mpr ⟨wqG10 (i := 7) rfl rfl, List.forall_mem_cons.mpr ⟨wqG10 (i := 9) rfl rfl, List.forall_mem_cons.mpr ⟨wqG10 (i := 11) rfl rfl, fun _ h => absurd h List.not_mem_nil⟩⟩⟩⟩
theorem inG5 : ∀ w ∈ u_ws RX5 TX5 7, w ∈ GW := by
  show ∀ w ∈ ([.laysFinal RX5 "BedsThatFit$Party" "inches" "[I", .laysFinal RX5 "BedsThatFit$Party" "comes" "[I", .laysFinal RX5 "BedsThatFit$Party" "kinds" "[I", .laysFinal RX5 "BedsThatFit$Party" "friends" "[I", .laysFinal RX5 "BedsThatFit$Party" "worn" "[I", .laysFinal RX5 "BedsThatFit$Party" "row" "[I", .lays RX5 "BedsThatFit$Party" "size" "I"] : List Cond), w ∈ GW
  exact List.forall_mem_cons.mpr ⟨wqG14 (i := 8) rfl rfl, List.forall_mem_cons.mpr ⟨wqG14 (i := 10) rfl rfl, List.forall_mem_cons.mpr ⟨wqG14 (i := 12) rfl rfl, List.forall_mem_cons.mpr ⟨wqG14 (i := 14) rfl rfl, List.forall_mem_cons.mpr ⟨wqG14 (i := 16) rfl rfl, List.forall_mem_cons.mpr ⟨wqG14 (i := 18) rfl rfl, List.forall_mem_cons.mpr ⟨wqG15 (i := 0) rfl rfl, fun _ h => absurd h List.not_mem_nil⟩⟩⟩⟩⟩⟩⟩
theorem inG6 : ∀ w ∈ u_ws RX6 TX6 5, w ∈ GW := by
  show ∀ w ∈ ([.laysFinal RX6 "BedsThatFit$Remains" "beds" "[I", .laysFinal RX6 "BedsThatFit$Remains" "nights" "[I", .laysFinal RX6 "BedsThatFit$Remains" "harms" "[I", .laysFinal RX6 "BedsThatFit$Remains" "waysBySet" "[I", .lays RX6 "BedsThatFit$Remains" "size" "I"] : List Cond), w ∈ GW
  exact List.forall_mem_cons.mpr ⟨wqG9 (i := 1) rfl rfl, List.forall_mem_cons.mpr ⟨wqG9 (i := 3) rfl rfl, List.forall_mem_cons.mpr ⟨wqG9 (i := 5) rfl rfl, List.forall_mem_cons.mpr ⟨wqG9 (i := 7) rfl rfl, List.forall_mem_cons.mpr ⟨wqG9 (i := 9) rfl rfl, fun _ h => absurd h List.not_mem_nil⟩⟩⟩⟩⟩
theorem inG7 : ∀ w ∈ u_ws RX7 TX7 4, w ∈ GW := by
  show ∀ w ∈ ([.laysFinal RX7 "BedsThatFit$Script" "letters" "[C", .laysFinal RX7 "BedsThatFit$Script" "numbers" "[I", .lays RX7 "BedsThatFit$Script" "size" "I", .lays RX7 "BedsThatFit$Script" "told" "I"] : List Cond), w ∈ GW
  exact List.forall_mem_cons.mpr ⟨wqG3 (i := 18) rfl rfl, List.forall_mem_cons.mpr ⟨wqG4 (i := 0) rfl rfl, List.forall_mem_cons.mpr ⟨wqG4 (i := 2) rfl rfl, List.forall_mem_cons.mpr ⟨wqG4 (i := 4) rfl rfl, fun _ h => absurd h List.not_mem_nil⟩⟩⟩⟩
theorem inG8 : ∀ w ∈ u_ws RX8 TX8 4, w ∈ GW := by
  show ∀ w ∈ ([.laysFinal RX8 "BedsThatFit$Shelf" "rows" "[[I", .laysFinal RX8 "BedsThatFit$Shelf" "worn" "[[I", .laysFinal RX8 "BedsThatFit$Shelf" "comes" "[[I", .lays RX8 "BedsThatFit$Shelf" "size" "I"] : List Cond), w ∈ GW
  exact List.forall_mem_cons.mpr ⟨wqG8 (i := 0) rfl rfl, List.forall_mem_cons.mpr ⟨wqG8 (i := 2) rfl rfl, List.forall_mem_cons.mpr ⟨wqG8 (i := 4) rfl rfl, List.forall_mem_cons.mpr ⟨wqG8 (i := 6) rfl rfl, fun _ h => absurd h List.not_mem_nil⟩⟩⟩⟩
theorem inG9 : ∀ w ∈ u_ws RX9 TX9 9, w ∈ GW := by
  show ∀ w ∈ ([.laysFinal RX9 "BedsThatFit" "script" "LBedsThatFit$Script;", .laysFinal RX9 "BedsThatFit" "nights" "LBedsThatFit$Nights;", .laysFinal RX9 "BedsThatFit" "changes" "LBedsThatFit$Changes;", .laysFinal RX9 "BedsThatFit" "shelf" "LBedsThatFit$Shelf;", .laysFinal RX9 "BedsThatFit" "remains" "LBedsThatFit$Remains;", .laysFinal RX9 "BedsThatFit" "orders" "LBedsThatFit$Orders;", .laysFinal RX9 "BedsThatFit" "harmsNow" "[I", .lays RX9 "BedsThatFit" "inn" "LBedsThatFit$Inn;", .lays RX9 "BedsThatFit" "draft" "LBedsThatFit$Inn;"] : List Cond), w ∈ GW
  exact List.forall_mem_cons.mpr ⟨wqG22 (i := 18) rfl rfl, List.forall_mem_cons.mpr ⟨wqG23 (i := 0) rfl rfl, List.forall_mem_cons.mpr ⟨wqG23 (i := 2) rfl rfl, List.forall_mem_cons.mpr ⟨wqG23 (i := 4) rfl rfl, List.forall_mem_cons.mpr ⟨wqG23 (i := 6) rfl rfl, List.forall_mem_cons.mpr ⟨wqG23 (i := 8) rfl rfl, List.forall_mem_cons.mpr ⟨wqG23 (i := 10) rfl rfl, List.forall_mem_cons.mpr ⟨wqG23 (i := 12) rfl rfl, List.forall_mem_cons.mpr ⟨wqG23 (i := 14) rfl rfl, fun _ h => absurd h List.not_mem_nil⟩⟩⟩⟩⟩⟩⟩⟩⟩
theorem inG10 : ∀ w ∈ u_ws RX10 TX10 44, w ∈ GW := by
  show ∀ w ∈ ([.laysFinal RX10 "BedsThatFitModel" "lengths" "[I", .lays RX10 "BedsThatFitModel" "beds" "I", .laysFinal RX10 "BedsThatFitModel" "feasts" "[I", .lays RX10 "BedsThatFitModel" "feastMany" "I", .laysFinal RX10 "BedsThatFitModel" "inches" "[I", .laysFinal RX10 "BedsThatFitModel" "kinds" "[I", .laysFinal RX10 "BedsThatFitModel" "friends" "[I", .lays RX10 "BedsThatFitModel" "guests" "I", .laysFinal RX10 "BedsThatFitModel" "rivals" "[I", .lays RX10 "BedsThatFitModel" "rivalMany" "I", .lays RX10 "BedsThatFitModel" "law" "I", .laysFinal RX10 "BedsThatFitModel" "st" "[I", .laysFinal RX10 "BedsThatFitModel" "text" "[I", .lays RX10 "BedsThatFitModel" "many" "I", .lays RX10 "BedsThatFitModel" "place" "I", .lays RX10 "BedsThatFitModel" "numbers" "I", .laysFinal RX10 "BedsThatFitModel" "number" "[I", .laysFinal RX10 "BedsThatFitModel" "readBeds" "[I", .lays RX10 "BedsThatFitModel" "readBedMany" "I", .laysFinal RX10 "BedsThatFitModel" "readFeasts" "[I", .lays RX10 "BedsThatFitModel" "readFeastMany" "I", .laysFinal RX10 "BedsThatFitModel" "readGuests" "[I", .laysFinal RX10 "BedsThatFitModel" "readFriends" "[I", .lays RX10 "BedsThatFitModel" "readGuestMany" "I", .laysFinal RX10 "BedsThatFitModel" "readRivals" "[I", .lays RX10 "BedsThatFitModel" "readRivalMany" "I", .lays RX10 "BedsThatFitModel" "readLaw" "I", .lays RX10 "BedsThatFitModel" "isTurned" "Z", .lays RX10 "BedsThatFitModel" "yearNow" "I", .laysFinal RX10 "BedsThatFitModel" "nights" "[I", .laysFinal RX10 "BedsThatFitModel" "where" "[I", .laysFinal RX10 "BedsThatFitModel" "harms" "[I", .laysFinal RX10 "BedsThatFitModel" "namers" "[I", .laysFinal RX10 "BedsThatFitModel" "calls" "[I", .laysFinal RX10 "BedsThatFitModel" "ahead" "[I", .lays RX10 "BedsThatFitModel" "undoMany" "I", .laysFinal RX10 "BedsThatFitModel" "had" "[I", .laysFinal RX10 "BedsThatFitModel" "bestRow" "[I", .laysFinal RX10 "BedsThatFitModel" "lefts" "[I", .lays RX10 "BedsThatFitModel" "leftMany" "I", .laysFinal RX10 "BedsThatFitModel" "ways" "[I", .laysFinal RX10 "BedsThatFitModel" "then" "[I", .laysFinal RX10 "BedsThatFitModel" "kept" "[I", .lays RX10 "BedsThatFitModel" "keptMany" "I"] : List Cond), w ∈ GW
  exact List.forall_mem_cons.mpr ⟨wqG43 (i := 18) rfl rfl, List.forall_mem_cons.mpr ⟨wqG44 (i := 0) rfl rfl, List.forall_mem_cons.mpr ⟨wqG44 (i := 2) rfl rfl, List.forall_mem_cons.mpr ⟨wqG44 (i := 4) rfl rfl, List.forall_mem_cons.mpr ⟨wqG44 (i := 6) rfl rfl, List.forall_mem_cons.mpr ⟨wqG44 (i := 8) rfl rfl, List.forall_mem_cons.mpr ⟨wqG44 (i := 10) rfl rfl, List.forall_mem_cons.mpr ⟨wqG44 (i := 12) rfl rfl, List.forall_mem_cons.mpr ⟨wqG44 (i := 14) rfl rfl, List.forall_mem_cons.mpr ⟨wqG44 (i := 16) rfl rfl, List.forall_mem_cons.mpr ⟨wqG44 (i := 18) rfl rfl, List.forall_mem_cons.mpr ⟨wqG45 (i := 0) rfl rfl, List.forall_mem_cons.mpr ⟨wqG45 (i := 2) rfl rfl, List.forall_mem_cons.mpr ⟨wqG45 (i := 4) rfl rfl, List.forall_mem_cons.mpr ⟨wqG45 (i := 6) rfl rfl, List.forall_mem_cons.mpr ⟨wqG45 (i := 8) rfl rfl, List.forall_mem_cons.mpr ⟨wqG45 (i := 10) rfl rfl, List.forall_mem_cons.mpr ⟨wqG45 (i := 12) rfl rfl, List.forall_mem_cons.mpr ⟨wqG45 (i := 14) rfl rfl, List.forall_mem_cons.mpr ⟨wqG45 (i := 16) rfl rfl, List.forall_mem_cons.mpr ⟨wqG45 (i := 18) rfl rfl, List.forall_mem_cons.mpr ⟨wqG46 (i := 0) rfl rfl, List.forall_mem_cons.mpr ⟨wqG46 (i := 2) rfl rfl, List.forall_mem_cons.mpr ⟨wqG46 (i := 4) rfl rfl, List.forall_mem_cons.mpr ⟨wqG46 (i := 6) rfl rfl, List.forall_mem_cons.mpr ⟨wqG46 (i := 8) rfl rfl, List.forall_mem_cons.mpr ⟨wqG46 (i := 10) rfl rfl, List.forall_mem_cons.mpr ⟨wqG46 (i := 12) rfl rfl, List.forall_mem_cons.mpr ⟨wqG46 (i := 14) rfl rfl, List.forall_mem_cons.mpr ⟨wqG46 (i := 16) rfl rfl, List.forall_mem_cons.mpr ⟨wqG46 (i := 18) rfl rfl, List.forall_mem_cons.mpr ⟨wqG47 (i := 0) rfl rfl, List.forall_mem_cons.mpr ⟨wqG47 (i := 2) rfl rfl, List.forall_mem_cons.mpr ⟨wqG47 (i := 4) rfl rfl, List.forall_mem_cons.mpr ⟨wqG47 (i := 6) rfl rfl, List.forall_mem_cons.mpr ⟨wqG47 (i := 8) rfl rfl, List.forall_mem_cons.mpr ⟨wqG47 (i := 10) rfl rfl, List.forall_mem_cons.mpr ⟨wqG47 (i := 12) rfl rfl, List.forall_mem_cons.mpr ⟨wqG47 (i := 14) rfl rfl, List.forall_mem_cons.mpr ⟨wqG47 (i := 16) rfl rfl, List.forall_mem_cons.mpr ⟨wqG47 (i := 18) rfl rfl, List.forall_mem_cons.mpr ⟨wqG48 (i := 0) rfl rfl, List.forall_mem_cons.mpr ⟨wqG48 (i := 2) rfl rfl, List.forall_mem_cons.mpr ⟨wqG48 (i := 4) rfl rfl, fun _ h => absurd h List.not_mem_nil⟩⟩⟩⟩⟩⟩⟩⟩⟩⟩⟩⟩⟩⟩⟩⟩⟩⟩⟩⟩⟩⟩⟩⟩⟩⟩⟩⟩⟩⟩⟩⟩⟩⟩⟩⟩⟩⟩⟩⟩⟩⟩⟩⟩
theorem flRX7_9 : FL RX7 9 7 4 0 true (.array .char) := ⟨RX7, TX7, by decide, rfl, by decide, inG7, wqG3 (i := 13) rfl rfl, tyX7_ok, nmX7, rfl, rfl⟩
theorem flRX7_15 : FL RX7 15 7 4 1 true (.array .int) := ⟨RX7, TX7, by decide, rfl, by decide, inG7, wqG3 (i := 14) rfl rfl, tyX7_ok, nmX7, rfl, rfl⟩
theorem flRX9_87 : FL RX9 87 7 4 2 false (.int) := ⟨RX7, TX7, by decide, rfl, by decide, inG7, wqG3 (i := 15) rfl rfl, tyX7_ok, nmX7, rfl, rfl⟩
theorem flRX7_19 : FL RX7 19 7 4 2 false (.int) := ⟨RX7, TX7, by decide, rfl, by decide, inG7, wqG3 (i := 16) rfl rfl, tyX7_ok, nmX7, rfl, rfl⟩
theorem flRX7_35 : FL RX7 35 7 4 3 false (.int) := ⟨RX7, TX7, by decide, rfl, by decide, inG7, wqG3 (i := 17) rfl rfl, tyX7_ok, nmX7, rfl, rfl⟩
theorem flRX3_9 : FL RX3 9 3 8 0 true (.array .int) := ⟨RX3, TX3, by decide, rfl, by decide, inG3, wqG4 (i := 15) rfl rfl, tyX3_ok, nmX3, rfl, rfl⟩
theorem flRX9_162 : FL RX9 162 3 8 0 true (.array .int) := ⟨RX3, TX3, by decide, rfl, by decide, inG3, wqG4 (i := 16) rfl rfl, tyX3_ok, nmX3, rfl, rfl⟩
theorem flRX3_15 : FL RX3 15 3 8 1 true (.array .int) := ⟨RX3, TX3, by decide, rfl, by decide, inG3, wqG4 (i := 17) rfl rfl, tyX3_ok, nmX3, rfl, rfl⟩
theorem flRX9_165 : FL RX9 165 3 8 1 true (.array .int) := ⟨RX3, TX3, by decide, rfl, by decide, inG3, wqG4 (i := 18) rfl rfl, tyX3_ok, nmX3, rfl, rfl⟩
theorem flRX3_18 : FL RX3 18 3 8 2 true (.array .int) := ⟨RX3, TX3, by decide, rfl, by decide, inG3, wqG4 (i := 19) rfl rfl, tyX3_ok, nmX3, rfl, rfl⟩
theorem flRX9_168 : FL RX9 168 3 8 2 true (.array .int) := ⟨RX3, TX3, by decide, rfl, by decide, inG3, wqG5 (i := 0) rfl rfl, tyX3_ok, nmX3, rfl, rfl⟩
theorem flRX3_21 : FL RX3 21 3 8 3 true (.array .int) := ⟨RX3, TX3, by decide, rfl, by decide, inG3, wqG5 (i := 1) rfl rfl, tyX3_ok, nmX3, rfl, rfl⟩
theorem flRX9_171 : FL RX9 171 3 8 3 true (.array .int) := ⟨RX3, TX3, by decide, rfl, by decide, inG3, wqG5 (i := 2) rfl rfl, tyX3_ok, nmX3, rfl, rfl⟩
theorem flRX3_24 : FL RX3 24 3 8 4 true (.array .int) := ⟨RX3, TX3, by decide, rfl, by decide, inG3, wqG5 (i := 3) rfl rfl, tyX3_ok, nmX3, rfl, rfl⟩
theorem flRX9_174 : FL RX9 174 3 8 4 true (.array .int) := ⟨RX3, TX3, by decide, rfl, by decide, inG3, wqG5 (i := 4) rfl rfl, tyX3_ok, nmX3, rfl, rfl⟩
theorem flRX3_27 : FL RX3 27 3 8 5 false (.int) := ⟨RX3, TX3, by decide, rfl, by decide, inG3, wqG5 (i := 5) rfl rfl, tyX3_ok, nmX3, rfl, rfl⟩
theorem flRX9_181 : FL RX9 181 3 8 5 false (.int) := ⟨RX3, TX3, by decide, rfl, by decide, inG3, wqG5 (i := 6) rfl rfl, tyX3_ok, nmX3, rfl, rfl⟩
theorem flRX3_31 : FL RX3 31 3 8 6 false (.int) := ⟨RX3, TX3, by decide, rfl, by decide, inG3, wqG5 (i := 7) rfl rfl, tyX3_ok, nmX3, rfl, rfl⟩
theorem flRX3_34 : FL RX3 34 3 8 7 false (.int) := ⟨RX3, TX3, by decide, rfl, by decide, inG3, wqG5 (i := 8) rfl rfl, tyX3_ok, nmX3, rfl, rfl⟩
theorem flRX4_51 : FL RX4 51 3 8 7 false (.int) := ⟨RX3, TX3, by decide, rfl, by decide, inG3, wqG5 (i := 9) rfl rfl, tyX3_ok, nmX3, rfl, rfl⟩
theorem flRX1_9 : FL RX1 9 1 4 0 true (.array .int) := ⟨RX1, TX1, by decide, rfl, by decide, inG1, wqG6 (i := 13) rfl rfl, tyX1_ok, nmX1, rfl, rfl⟩
theorem flRX1_15 : FL RX1 15 1 4 1 true (.array .int) := ⟨RX1, TX1, by decide, rfl, by decide, inG1, wqG6 (i := 14) rfl rfl, tyX1_ok, nmX1, rfl, rfl⟩
theorem flRX1_18 : FL RX1 18 1 4 2 true (.array .int) := ⟨RX1, TX1, by decide, rfl, by decide, inG1, wqG6 (i := 15) rfl rfl, tyX1_ok, nmX1, rfl, rfl⟩
theorem flRX1_21 : FL RX1 21 1 4 3 false (.int) := ⟨RX1, TX1, by decide, rfl, by decide, inG1, wqG6 (i := 16) rfl rfl, tyX1_ok, nmX1, rfl, rfl⟩
theorem flRX9_99 : FL RX9 99 1 4 3 false (.int) := ⟨RX1, TX1, by decide, rfl, by decide, inG1, wqG6 (i := 17) rfl rfl, tyX1_ok, nmX1, rfl, rfl⟩
theorem flRX8_11 : FL RX8 11 8 4 0 true (.array (.array .int)) := ⟨RX8, TX8, by decide, rfl, by decide, inG8, wqG7 (i := 15) rfl rfl, tyX8_ok, nmX8, rfl, rfl⟩
theorem flRX8_16 : FL RX8 16 8 4 1 true (.array (.array .int)) := ⟨RX8, TX8, by decide, rfl, by decide, inG8, wqG7 (i := 16) rfl rfl, tyX8_ok, nmX8, rfl, rfl⟩
theorem flRX8_19 : FL RX8 19 8 4 2 true (.array (.array .int)) := ⟨RX8, TX8, by decide, rfl, by decide, inG8, wqG7 (i := 17) rfl rfl, tyX8_ok, nmX8, rfl, rfl⟩
theorem flRX8_22 : FL RX8 22 8 4 3 false (.int) := ⟨RX8, TX8, by decide, rfl, by decide, inG8, wqG7 (i := 18) rfl rfl, tyX8_ok, nmX8, rfl, rfl⟩
theorem flRX9_100 : FL RX9 100 8 4 3 false (.int) := ⟨RX8, TX8, by decide, rfl, by decide, inG8, wqG7 (i := 19) rfl rfl, tyX8_ok, nmX8, rfl, rfl⟩
theorem flRX6_9 : FL RX6 9 6 5 0 true (.array .int) := ⟨RX6, TX6, by decide, rfl, by decide, inG6, wqG8 (i := 15) rfl rfl, tyX6_ok, nmX6, rfl, rfl⟩
theorem flRX6_15 : FL RX6 15 6 5 1 true (.array .int) := ⟨RX6, TX6, by decide, rfl, by decide, inG6, wqG8 (i := 16) rfl rfl, tyX6_ok, nmX6, rfl, rfl⟩
theorem flRX6_18 : FL RX6 18 6 5 2 true (.array .int) := ⟨RX6, TX6, by decide, rfl, by decide, inG6, wqG8 (i := 17) rfl rfl, tyX6_ok, nmX6, rfl, rfl⟩
theorem flRX6_21 : FL RX6 21 6 5 3 true (.array .int) := ⟨RX6, TX6, by decide, rfl, by decide, inG6, wqG8 (i := 18) rfl rfl, tyX6_ok, nmX6, rfl, rfl⟩
theorem flRX6_24 : FL RX6 24 6 5 4 false (.int) := ⟨RX6, TX6, by decide, rfl, by decide, inG6, wqG8 (i := 19) rfl rfl, tyX6_ok, nmX6, rfl, rfl⟩
theorem flRX9_101 : FL RX9 101 6 5 4 false (.int) := ⟨RX6, TX6, by decide, rfl, by decide, inG6, wqG9 (i := 0) rfl rfl, tyX6_ok, nmX6, rfl, rfl⟩
theorem flRX4_9 : FL RX4 9 4 4 0 true (.array .int) := ⟨RX4, TX4, by decide, rfl, by decide, inG4, wqG9 (i := 18) rfl rfl, tyX4_ok, nmX4, rfl, rfl⟩
theorem flRX9_212 : FL RX9 212 4 4 0 true (.array .int) := ⟨RX4, TX4, by decide, rfl, by decide, inG4, wqG9 (i := 19) rfl rfl, tyX4_ok, nmX4, rfl, rfl⟩
theorem flRX4_15 : FL RX4 15 4 4 1 true (.array .int) := ⟨RX4, TX4, by decide, rfl, by decide, inG4, wqG10 (i := 0) rfl rfl, tyX4_ok, nmX4, rfl, rfl⟩
theorem flRX4_38 : FL RX4 38 4 4 2 false (.int) := ⟨RX4, TX4, by decide, rfl, by decide, inG4, wqG10 (i := 1) rfl rfl, tyX4_ok, nmX4, rfl, rfl⟩
theorem flRX9_209 : FL RX9 209 4 4 2 false (.int) := ⟨RX4, TX4, by decide, rfl, by decide, inG4, wqG10 (i := 2) rfl rfl, tyX4_ok, nmX4, rfl, rfl⟩
theorem flRX4_58 : FL RX4 58 4 4 3 false (.boolean) := ⟨RX4, TX4, by decide, rfl, by decide, inG4, wqG10 (i := 3) rfl rfl, tyX4_ok, nmX4, rfl, rfl⟩
theorem flRX9_102 : FL RX9 102 4 4 3 false (.boolean) := ⟨RX4, TX4, by decide, rfl, by decide, inG4, wqG10 (i := 4) rfl rfl, tyX4_ok, nmX4, rfl, rfl⟩
theorem flRX0_9 : FL RX0 9 0 7 0 true (.array .int) := ⟨RX0, TX0, by decide, rfl, by decide, inG0, wqG11 (i := 6) rfl rfl, tyX0_ok, nmX0, rfl, rfl⟩
theorem flRX9_218 : FL RX9 218 0 7 0 true (.array .int) := ⟨RX0, TX0, by decide, rfl, by decide, inG0, wqG11 (i := 7) rfl rfl, tyX0_ok, nmX0, rfl, rfl⟩
theorem flRX0_15 : FL RX0 15 0 7 1 true (.array .int) := ⟨RX0, TX0, by decide, rfl, by decide, inG0, wqG11 (i := 8) rfl rfl, tyX0_ok, nmX0, rfl, rfl⟩
theorem flRX0_22 : FL RX0 22 0 7 2 false (.int) := ⟨RX0, TX0, by decide, rfl, by decide, inG0, wqG11 (i := 9) rfl rfl, tyX0_ok, nmX0, rfl, rfl⟩
theorem flRX2_42 : FL RX2 42 0 7 2 false (.int) := ⟨RX0, TX0, by decide, rfl, by decide, inG0, wqG11 (i := 10) rfl rfl, tyX0_ok, nmX0, rfl, rfl⟩
theorem flRX9_237 : FL RX9 237 0 7 2 false (.int) := ⟨RX0, TX0, by decide, rfl, by decide, inG0, wqG11 (i := 11) rfl rfl, tyX0_ok, nmX0, rfl, rfl⟩
theorem flRX0_28 : FL RX0 28 0 7 3 false (.int) := ⟨RX0, TX0, by decide, rfl, by decide, inG0, wqG11 (i := 12) rfl rfl, tyX0_ok, nmX0, rfl, rfl⟩
theorem flRX9_280 : FL RX9 280 0 7 3 false (.int) := ⟨RX0, TX0, by decide, rfl, by decide, inG0, wqG11 (i := 13) rfl rfl, tyX0_ok, nmX0, rfl, rfl⟩
theorem flRX0_25 : FL RX0 25 0 7 4 false (.int) := ⟨RX0, TX0, by decide, rfl, by decide, inG0, wqG11 (i := 14) rfl rfl, tyX0_ok, nmX0, rfl, rfl⟩
theorem flRX3_61 : FL RX3 61 0 7 4 false (.int) := ⟨RX0, TX0, by decide, rfl, by decide, inG0, wqG11 (i := 15) rfl rfl, tyX0_ok, nmX0, rfl, rfl⟩
theorem flRX9_238 : FL RX9 238 0 7 4 false (.int) := ⟨RX0, TX0, by decide, rfl, by decide, inG0, wqG11 (i := 16) rfl rfl, tyX0_ok, nmX0, rfl, rfl⟩
theorem flRX0_35 : FL RX0 35 0 7 5 false (.boolean) := ⟨RX0, TX0, by decide, rfl, by decide, inG0, wqG11 (i := 17) rfl rfl, tyX0_ok, nmX0, rfl, rfl⟩
theorem flRX9_245 : FL RX9 245 0 7 5 false (.boolean) := ⟨RX0, TX0, by decide, rfl, by decide, inG0, wqG11 (i := 18) rfl rfl, tyX0_ok, nmX0, rfl, rfl⟩
theorem flRX0_18 : FL RX0 18 0 7 6 false (.int) := ⟨RX0, TX0, by decide, rfl, by decide, inG0, wqG11 (i := 19) rfl rfl, tyX0_ok, nmX0, rfl, rfl⟩
theorem flRX9_271 : FL RX9 271 0 7 6 false (.int) := ⟨RX0, TX0, by decide, rfl, by decide, inG0, wqG12 (i := 0) rfl rfl, tyX0_ok, nmX0, rfl, rfl⟩
theorem flRX5_9 : FL RX5 9 5 7 0 true (.array .int) := ⟨RX5, TX5, by decide, rfl, by decide, inG5, wqG13 (i := 2) rfl rfl, tyX5_ok, nmX5, rfl, rfl⟩
theorem flRX9_131 : FL RX9 131 5 7 0 true (.array .int) := ⟨RX5, TX5, by decide, rfl, by decide, inG5, wqG13 (i := 3) rfl rfl, tyX5_ok, nmX5, rfl, rfl⟩
theorem flRX5_15 : FL RX5 15 5 7 1 true (.array .int) := ⟨RX5, TX5, by decide, rfl, by decide, inG5, wqG13 (i := 4) rfl rfl, tyX5_ok, nmX5, rfl, rfl⟩
theorem flRX8_40 : FL RX8 40 5 7 1 true (.array .int) := ⟨RX5, TX5, by decide, rfl, by decide, inG5, wqG13 (i := 5) rfl rfl, tyX5_ok, nmX5, rfl, rfl⟩
theorem flRX1_45 : FL RX1 45 5 7 1 true (.array .int) := ⟨RX5, TX5, by decide, rfl, by decide, inG5, wqG13 (i := 6) rfl rfl, tyX5_ok, nmX5, rfl, rfl⟩
theorem flRX9_134 : FL RX9 134 5 7 1 true (.array .int) := ⟨RX5, TX5, by decide, rfl, by decide, inG5, wqG13 (i := 7) rfl rfl, tyX5_ok, nmX5, rfl, rfl⟩
theorem flRX2_79 : FL RX2 79 5 7 1 true (.array .int) := ⟨RX5, TX5, by decide, rfl, by decide, inG5, wqG13 (i := 8) rfl rfl, tyX5_ok, nmX5, rfl, rfl⟩
theorem flRX5_18 : FL RX5 18 5 7 2 true (.array .int) := ⟨RX5, TX5, by decide, rfl, by decide, inG5, wqG13 (i := 9) rfl rfl, tyX5_ok, nmX5, rfl, rfl⟩
theorem flRX9_137 : FL RX9 137 5 7 2 true (.array .int) := ⟨RX5, TX5, by decide, rfl, by decide, inG5, wqG13 (i := 10) rfl rfl, tyX5_ok, nmX5, rfl, rfl⟩
theorem flRX5_21 : FL RX5 21 5 7 3 true (.array .int) := ⟨RX5, TX5, by decide, rfl, by decide, inG5, wqG13 (i := 11) rfl rfl, tyX5_ok, nmX5, rfl, rfl⟩
theorem flRX2_75 : FL RX2 75 5 7 3 true (.array .int) := ⟨RX5, TX5, by decide, rfl, by decide, inG5, wqG13 (i := 12) rfl rfl, tyX5_ok, nmX5, rfl, rfl⟩
theorem flRX9_143 : FL RX9 143 5 7 3 true (.array .int) := ⟨RX5, TX5, by decide, rfl, by decide, inG5, wqG13 (i := 13) rfl rfl, tyX5_ok, nmX5, rfl, rfl⟩
theorem flRX5_24 : FL RX5 24 5 7 4 true (.array .int) := ⟨RX5, TX5, by decide, rfl, by decide, inG5, wqG13 (i := 14) rfl rfl, tyX5_ok, nmX5, rfl, rfl⟩
theorem flRX8_38 : FL RX8 38 5 7 4 true (.array .int) := ⟨RX5, TX5, by decide, rfl, by decide, inG5, wqG13 (i := 15) rfl rfl, tyX5_ok, nmX5, rfl, rfl⟩
theorem flRX1_42 : FL RX1 42 5 7 4 true (.array .int) := ⟨RX5, TX5, by decide, rfl, by decide, inG5, wqG13 (i := 16) rfl rfl, tyX5_ok, nmX5, rfl, rfl⟩
theorem flRX9_140 : FL RX9 140 5 7 4 true (.array .int) := ⟨RX5, TX5, by decide, rfl, by decide, inG5, wqG13 (i := 17) rfl rfl, tyX5_ok, nmX5, rfl, rfl⟩
theorem flRX5_27 : FL RX5 27 5 7 5 true (.array .int) := ⟨RX5, TX5, by decide, rfl, by decide, inG5, wqG13 (i := 18) rfl rfl, tyX5_ok, nmX5, rfl, rfl⟩
theorem flRX4_24 : FL RX4 24 5 7 5 true (.array .int) := ⟨RX5, TX5, by decide, rfl, by decide, inG5, wqG13 (i := 19) rfl rfl, tyX5_ok, nmX5, rfl, rfl⟩
theorem flRX8_26 : FL RX8 26 5 7 5 true (.array .int) := ⟨RX5, TX5, by decide, rfl, by decide, inG5, wqG14 (i := 0) rfl rfl, tyX5_ok, nmX5, rfl, rfl⟩
theorem flRX3_89 : FL RX3 89 5 7 5 true (.array .int) := ⟨RX5, TX5, by decide, rfl, by decide, inG5, wqG14 (i := 1) rfl rfl, tyX5_ok, nmX5, rfl, rfl⟩
theorem flRX5_30 : FL RX5 30 5 7 6 false (.int) := ⟨RX5, TX5, by decide, rfl, by decide, inG5, wqG14 (i := 2) rfl rfl, tyX5_ok, nmX5, rfl, rfl⟩
theorem flRX2_32 : FL RX2 32 5 7 6 false (.int) := ⟨RX5, TX5, by decide, rfl, by decide, inG5, wqG14 (i := 3) rfl rfl, tyX5_ok, nmX5, rfl, rfl⟩
theorem flRX4_33 : FL RX4 33 5 7 6 false (.int) := ⟨RX5, TX5, by decide, rfl, by decide, inG5, wqG14 (i := 4) rfl rfl, tyX5_ok, nmX5, rfl, rfl⟩
theorem flRX3_86 : FL RX3 86 5 7 6 false (.int) := ⟨RX5, TX5, by decide, rfl, by decide, inG5, wqG14 (i := 5) rfl rfl, tyX5_ok, nmX5, rfl, rfl⟩
theorem flRX6_49 : FL RX6 49 5 7 6 false (.int) := ⟨RX5, TX5, by decide, rfl, by decide, inG5, wqG14 (i := 6) rfl rfl, tyX5_ok, nmX5, rfl, rfl⟩
theorem flRX9_110 : FL RX9 110 5 7 6 false (.int) := ⟨RX5, TX5, by decide, rfl, by decide, inG5, wqG14 (i := 7) rfl rfl, tyX5_ok, nmX5, rfl, rfl⟩
theorem flRX2_12 : FL RX2 12 2 5 0 true (.object "BedsThatFit$Beds") := ⟨RX2, TX2, by decide, rfl, by decide, inG2, wqG15 (i := 3) rfl rfl, tyX2_ok, nmX2, rfl, rfl⟩
theorem flRX3_57 : FL RX3 57 2 5 0 true (.object "BedsThatFit$Beds") := ⟨RX2, TX2, by decide, rfl, by decide, inG2, wqG15 (i := 4) rfl rfl, tyX2_ok, nmX2, rfl, rfl⟩
theorem flRX6_28 : FL RX6 28 2 5 0 true (.object "BedsThatFit$Beds") := ⟨RX2, TX2, by decide, rfl, by decide, inG2, wqG15 (i := 5) rfl rfl, tyX2_ok, nmX2, rfl, rfl⟩
theorem flRX9_113 : FL RX9 113 2 5 0 true (.object "BedsThatFit$Beds") := ⟨RX2, TX2, by decide, rfl, by decide, inG2, wqG15 (i := 6) rfl rfl, tyX2_ok, nmX2, rfl, rfl⟩
theorem flRX2_21 : FL RX2 21 2 5 1 true (.object "BedsThatFit$Party") := ⟨RX2, TX2, by decide, rfl, by decide, inG2, wqG15 (i := 7) rfl rfl, tyX2_ok, nmX2, rfl, rfl⟩
theorem flRX4_18 : FL RX4 18 2 5 1 true (.object "BedsThatFit$Party") := ⟨RX2, TX2, by decide, rfl, by decide, inG2, wqG15 (i := 8) rfl rfl, tyX2_ok, nmX2, rfl, rfl⟩
theorem flRX3_37 : FL RX3 37 2 5 1 true (.object "BedsThatFit$Party") := ⟨RX2, TX2, by decide, rfl, by decide, inG2, wqG15 (i := 9) rfl rfl, tyX2_ok, nmX2, rfl, rfl⟩
theorem flRX6_39 : FL RX6 39 2 5 1 true (.object "BedsThatFit$Party") := ⟨RX2, TX2, by decide, rfl, by decide, inG2, wqG15 (i := 10) rfl rfl, tyX2_ok, nmX2, rfl, rfl⟩
theorem flRX9_106 : FL RX9 106 2 5 1 true (.object "BedsThatFit$Party") := ⟨RX2, TX2, by decide, rfl, by decide, inG2, wqG15 (i := 11) rfl rfl, tyX2_ok, nmX2, rfl, rfl⟩
theorem flRX2_25 : FL RX2 25 2 5 2 true (.array .int) := ⟨RX2, TX2, by decide, rfl, by decide, inG2, wqG15 (i := 12) rfl rfl, tyX2_ok, nmX2, rfl, rfl⟩
theorem flRX2_36 : FL RX2 36 2 5 3 false (.int) := ⟨RX2, TX2, by decide, rfl, by decide, inG2, wqG15 (i := 13) rfl rfl, tyX2_ok, nmX2, rfl, rfl⟩
theorem flRX9_283 : FL RX9 283 2 5 3 false (.int) := ⟨RX2, TX2, by decide, rfl, by decide, inG2, wqG15 (i := 14) rfl rfl, tyX2_ok, nmX2, rfl, rfl⟩
theorem flRX2_39 : FL RX2 39 2 5 4 false (.int) := ⟨RX2, TX2, by decide, rfl, by decide, inG2, wqG15 (i := 15) rfl rfl, tyX2_ok, nmX2, rfl, rfl⟩
theorem flRX9_221 : FL RX9 221 2 5 4 false (.int) := ⟨RX2, TX2, by decide, rfl, by decide, inG2, wqG15 (i := 16) rfl rfl, tyX2_ok, nmX2, rfl, rfl⟩
theorem flRX9_12 : FL RX9 12 9 9 0 true (.object "BedsThatFit$Script") := ⟨RX9, TX9, by decide, rfl, by decide, inG9, wqG22 (i := 9) rfl rfl, tyX9_ok, nmX9, rfl, rfl⟩
theorem flRX9_21 : FL RX9 21 9 9 1 true (.object "BedsThatFit$Nights") := ⟨RX9, TX9, by decide, rfl, by decide, inG9, wqG22 (i := 10) rfl rfl, tyX9_ok, nmX9, rfl, rfl⟩
theorem flRX9_28 : FL RX9 28 9 9 2 true (.object "BedsThatFit$Changes") := ⟨RX9, TX9, by decide, rfl, by decide, inG9, wqG22 (i := 11) rfl rfl, tyX9_ok, nmX9, rfl, rfl⟩
theorem flRX9_35 : FL RX9 35 9 9 3 true (.object "BedsThatFit$Shelf") := ⟨RX9, TX9, by decide, rfl, by decide, inG9, wqG22 (i := 12) rfl rfl, tyX9_ok, nmX9, rfl, rfl⟩
theorem flRX9_42 : FL RX9 42 9 9 4 true (.object "BedsThatFit$Remains") := ⟨RX9, TX9, by decide, rfl, by decide, inG9, wqG22 (i := 13) rfl rfl, tyX9_ok, nmX9, rfl, rfl⟩
theorem flRX9_49 : FL RX9 49 9 9 5 true (.object "BedsThatFit$Orders") := ⟨RX9, TX9, by decide, rfl, by decide, inG9, wqG22 (i := 14) rfl rfl, tyX9_ok, nmX9, rfl, rfl⟩
theorem flRX9_53 : FL RX9 53 9 9 6 true (.array .int) := ⟨RX9, TX9, by decide, rfl, by decide, inG9, wqG22 (i := 15) rfl rfl, tyX9_ok, nmX9, rfl, rfl⟩
theorem flRX9_60 : FL RX9 60 9 9 7 false (.object "BedsThatFit$Inn") := ⟨RX9, TX9, by decide, rfl, by decide, inG9, wqG22 (i := 16) rfl rfl, tyX9_ok, nmX9, rfl, rfl⟩
theorem flRX9_64 : FL RX9 64 9 9 8 false (.object "BedsThatFit$Inn") := ⟨RX9, TX9, by decide, rfl, by decide, inG9, wqG22 (i := 17) rfl rfl, tyX9_ok, nmX9, rfl, rfl⟩
theorem flRX10_7 : FL RX10 7 10 44 0 true (.array .int) := ⟨RX10, TX10, by decide, rfl, by decide, inG10, wqG41 (i := 14) rfl rfl, tyX10_ok, nmX10, rfl, rfl⟩
theorem flRX10_13 : FL RX10 13 10 44 1 false (.int) := ⟨RX10, TX10, by decide, rfl, by decide, inG10, wqG41 (i := 15) rfl rfl, tyX10_ok, nmX10, rfl, rfl⟩
theorem flRX10_17 : FL RX10 17 10 44 2 true (.array .int) := ⟨RX10, TX10, by decide, rfl, by decide, inG10, wqG41 (i := 16) rfl rfl, tyX10_ok, nmX10, rfl, rfl⟩
theorem flRX10_164 : FL RX10 164 10 44 3 false (.int) := ⟨RX10, TX10, by decide, rfl, by decide, inG10, wqG41 (i := 17) rfl rfl, tyX10_ok, nmX10, rfl, rfl⟩
theorem flRX10_20 : FL RX10 20 10 44 4 true (.array .int) := ⟨RX10, TX10, by decide, rfl, by decide, inG10, wqG41 (i := 18) rfl rfl, tyX10_ok, nmX10, rfl, rfl⟩
theorem flRX10_23 : FL RX10 23 10 44 5 true (.array .int) := ⟨RX10, TX10, by decide, rfl, by decide, inG10, wqG41 (i := 19) rfl rfl, tyX10_ok, nmX10, rfl, rfl⟩
theorem flRX10_26 : FL RX10 26 10 44 6 true (.array .int) := ⟨RX10, TX10, by decide, rfl, by decide, inG10, wqG42 (i := 0) rfl rfl, tyX10_ok, nmX10, rfl, rfl⟩
theorem flRX10_29 : FL RX10 29 10 44 7 false (.int) := ⟨RX10, TX10, by decide, rfl, by decide, inG10, wqG42 (i := 1) rfl rfl, tyX10_ok, nmX10, rfl, rfl⟩
theorem flRX10_32 : FL RX10 32 10 44 8 true (.array .int) := ⟨RX10, TX10, by decide, rfl, by decide, inG10, wqG42 (i := 2) rfl rfl, tyX10_ok, nmX10, rfl, rfl⟩
theorem flRX10_167 : FL RX10 167 10 44 9 false (.int) := ⟨RX10, TX10, by decide, rfl, by decide, inG10, wqG42 (i := 3) rfl rfl, tyX10_ok, nmX10, rfl, rfl⟩
theorem flRX10_35 : FL RX10 35 10 44 10 false (.int) := ⟨RX10, TX10, by decide, rfl, by decide, inG10, wqG42 (i := 4) rfl rfl, tyX10_ok, nmX10, rfl, rfl⟩
theorem flRX10_38 : FL RX10 38 10 44 11 true (.array .int) := ⟨RX10, TX10, by decide, rfl, by decide, inG10, wqG42 (i := 5) rfl rfl, tyX10_ok, nmX10, rfl, rfl⟩
theorem flRX10_41 : FL RX10 41 10 44 12 true (.array .int) := ⟨RX10, TX10, by decide, rfl, by decide, inG10, wqG42 (i := 6) rfl rfl, tyX10_ok, nmX10, rfl, rfl⟩
theorem flRX10_111 : FL RX10 111 10 44 13 false (.int) := ⟨RX10, TX10, by decide, rfl, by decide, inG10, wqG42 (i := 7) rfl rfl, tyX10_ok, nmX10, rfl, rfl⟩
theorem flRX10_114 : FL RX10 114 10 44 14 false (.int) := ⟨RX10, TX10, by decide, rfl, by decide, inG10, wqG42 (i := 8) rfl rfl, tyX10_ok, nmX10, rfl, rfl⟩
theorem flRX10_125 : FL RX10 125 10 44 15 false (.int) := ⟨RX10, TX10, by decide, rfl, by decide, inG10, wqG42 (i := 9) rfl rfl, tyX10_ok, nmX10, rfl, rfl⟩
theorem flRX10_44 : FL RX10 44 10 44 16 true (.array .int) := ⟨RX10, TX10, by decide, rfl, by decide, inG10, wqG42 (i := 10) rfl rfl, tyX10_ok, nmX10, rfl, rfl⟩
theorem flRX10_47 : FL RX10 47 10 44 17 true (.array .int) := ⟨RX10, TX10, by decide, rfl, by decide, inG10, wqG42 (i := 11) rfl rfl, tyX10_ok, nmX10, rfl, rfl⟩
theorem flRX10_135 : FL RX10 135 10 44 18 false (.int) := ⟨RX10, TX10, by decide, rfl, by decide, inG10, wqG42 (i := 12) rfl rfl, tyX10_ok, nmX10, rfl, rfl⟩
theorem flRX10_50 : FL RX10 50 10 44 19 true (.array .int) := ⟨RX10, TX10, by decide, rfl, by decide, inG10, wqG42 (i := 13) rfl rfl, tyX10_ok, nmX10, rfl, rfl⟩
theorem flRX10_140 : FL RX10 140 10 44 20 false (.int) := ⟨RX10, TX10, by decide, rfl, by decide, inG10, wqG42 (i := 14) rfl rfl, tyX10_ok, nmX10, rfl, rfl⟩
theorem flRX10_53 : FL RX10 53 10 44 21 true (.array .int) := ⟨RX10, TX10, by decide, rfl, by decide, inG10, wqG42 (i := 15) rfl rfl, tyX10_ok, nmX10, rfl, rfl⟩
theorem flRX10_56 : FL RX10 56 10 44 22 true (.array .int) := ⟨RX10, TX10, by decide, rfl, by decide, inG10, wqG42 (i := 16) rfl rfl, tyX10_ok, nmX10, rfl, rfl⟩
theorem flRX10_145 : FL RX10 145 10 44 23 false (.int) := ⟨RX10, TX10, by decide, rfl, by decide, inG10, wqG42 (i := 17) rfl rfl, tyX10_ok, nmX10, rfl, rfl⟩
theorem flRX10_59 : FL RX10 59 10 44 24 true (.array .int) := ⟨RX10, TX10, by decide, rfl, by decide, inG10, wqG42 (i := 18) rfl rfl, tyX10_ok, nmX10, rfl, rfl⟩
theorem flRX10_153 : FL RX10 153 10 44 25 false (.int) := ⟨RX10, TX10, by decide, rfl, by decide, inG10, wqG42 (i := 19) rfl rfl, tyX10_ok, nmX10, rfl, rfl⟩
theorem flRX10_150 : FL RX10 150 10 44 26 false (.int) := ⟨RX10, TX10, by decide, rfl, by decide, inG10, wqG43 (i := 0) rfl rfl, tyX10_ok, nmX10, rfl, rfl⟩
theorem flRX10_179 : FL RX10 179 10 44 27 false (.boolean) := ⟨RX10, TX10, by decide, rfl, by decide, inG10, wqG43 (i := 1) rfl rfl, tyX10_ok, nmX10, rfl, rfl⟩
theorem flRX10_62 : FL RX10 62 10 44 28 false (.int) := ⟨RX10, TX10, by decide, rfl, by decide, inG10, wqG43 (i := 2) rfl rfl, tyX10_ok, nmX10, rfl, rfl⟩
theorem flRX10_65 : FL RX10 65 10 44 29 true (.array .int) := ⟨RX10, TX10, by decide, rfl, by decide, inG10, wqG43 (i := 3) rfl rfl, tyX10_ok, nmX10, rfl, rfl⟩
theorem flRX10_68 : FL RX10 68 10 44 30 true (.array .int) := ⟨RX10, TX10, by decide, rfl, by decide, inG10, wqG43 (i := 4) rfl rfl, tyX10_ok, nmX10, rfl, rfl⟩
theorem flRX10_71 : FL RX10 71 10 44 31 true (.array .int) := ⟨RX10, TX10, by decide, rfl, by decide, inG10, wqG43 (i := 5) rfl rfl, tyX10_ok, nmX10, rfl, rfl⟩
theorem flRX10_74 : FL RX10 74 10 44 32 true (.array .int) := ⟨RX10, TX10, by decide, rfl, by decide, inG10, wqG43 (i := 6) rfl rfl, tyX10_ok, nmX10, rfl, rfl⟩
theorem flRX10_77 : FL RX10 77 10 44 33 true (.array .int) := ⟨RX10, TX10, by decide, rfl, by decide, inG10, wqG43 (i := 7) rfl rfl, tyX10_ok, nmX10, rfl, rfl⟩
theorem flRX10_80 : FL RX10 80 10 44 34 true (.array .int) := ⟨RX10, TX10, by decide, rfl, by decide, inG10, wqG43 (i := 8) rfl rfl, tyX10_ok, nmX10, rfl, rfl⟩
theorem flRX10_170 : FL RX10 170 10 44 35 false (.int) := ⟨RX10, TX10, by decide, rfl, by decide, inG10, wqG43 (i := 9) rfl rfl, tyX10_ok, nmX10, rfl, rfl⟩
theorem flRX10_83 : FL RX10 83 10 44 36 true (.array .int) := ⟨RX10, TX10, by decide, rfl, by decide, inG10, wqG43 (i := 10) rfl rfl, tyX10_ok, nmX10, rfl, rfl⟩
theorem flRX10_86 : FL RX10 86 10 44 37 true (.array .int) := ⟨RX10, TX10, by decide, rfl, by decide, inG10, wqG43 (i := 11) rfl rfl, tyX10_ok, nmX10, rfl, rfl⟩
theorem flRX10_89 : FL RX10 89 10 44 38 true (.array .int) := ⟨RX10, TX10, by decide, rfl, by decide, inG10, wqG43 (i := 12) rfl rfl, tyX10_ok, nmX10, rfl, rfl⟩
theorem flRX10_173 : FL RX10 173 10 44 39 false (.int) := ⟨RX10, TX10, by decide, rfl, by decide, inG10, wqG43 (i := 13) rfl rfl, tyX10_ok, nmX10, rfl, rfl⟩
theorem flRX10_92 : FL RX10 92 10 44 40 true (.array .int) := ⟨RX10, TX10, by decide, rfl, by decide, inG10, wqG43 (i := 14) rfl rfl, tyX10_ok, nmX10, rfl, rfl⟩
theorem flRX10_95 : FL RX10 95 10 44 41 true (.array .int) := ⟨RX10, TX10, by decide, rfl, by decide, inG10, wqG43 (i := 15) rfl rfl, tyX10_ok, nmX10, rfl, rfl⟩
theorem flRX10_98 : FL RX10 98 10 44 42 true (.array .int) := ⟨RX10, TX10, by decide, rfl, by decide, inG10, wqG43 (i := 16) rfl rfl, tyX10_ok, nmX10, rfl, rfl⟩
theorem flRX10_176 : FL RX10 176 10 44 43 false (.int) := ⟨RX10, TX10, by decide, rfl, by decide, inG10, wqG43 (i := 17) rfl rfl, tyX10_ok, nmX10, rfl, rfl⟩
theorem mlRL_9 : Cond.methodLink RL 9 yX9_init ∈ GW := wqG3 (i := 1) rfl rfl
theorem mlRX9_3 : Cond.methodLink RX9 3 objectInit ∈ GW := wqG3 (i := 4) rfl rfl
theorem mlRX7_3 : Cond.methodLink RX7 3 objectInit ∈ GW := wqG3 (i := 12) rfl rfl
theorem mlRX3_3 : Cond.methodLink RX3 3 objectInit ∈ GW := wqG4 (i := 14) rfl rfl
theorem mlRX1_3 : Cond.methodLink RX1 3 objectInit ∈ GW := wqG6 (i := 12) rfl rfl
theorem mlRX8_3 : Cond.methodLink RX8 3 objectInit ∈ GW := wqG7 (i := 12) rfl rfl
theorem mlRX6_3 : Cond.methodLink RX6 3 objectInit ∈ GW := wqG8 (i := 14) rfl rfl
theorem mlRX4_3 : Cond.methodLink RX4 3 objectInit ∈ GW := wqG9 (i := 17) rfl rfl
theorem mlRX2_3 : Cond.methodLink RX2 3 objectInit ∈ GW := wqG10 (i := 19) rfl rfl
theorem mlRX0_3 : Cond.methodLink RX0 3 objectInit ∈ GW := wqG11 (i := 5) rfl rfl
theorem mlRX5_3 : Cond.methodLink RX5 3 objectInit ∈ GW := wqG13 (i := 1) rfl rfl
theorem mlRX9_69 : Cond.methodLink RX9 69 yJ0_length_8abf5 ∈ GW := wqG16 (i := 9) rfl rfl
theorem mlRX9_75 : Cond.methodLink RX9 75 yJ0_charAt_5068e ∈ GW := wqG16 (i := 19) rfl rfl
theorem mlRX9_79 : Cond.methodLink RX9 79 yX7_put ∈ GW := wqG18 (i := 17) rfl rfl
theorem mlRX9_83 : Cond.methodLink RX9 83 yX7_readInto ∈ GW := wqG19 (i := 1) rfl rfl
theorem mlRX7_23 : Cond.methodLink RX7 23 yX2_clear ∈ GW := wqG19 (i := 5) rfl rfl
theorem mlRX2_29 : Cond.methodLink RX2 29 yX0_clear ∈ GW := wqG19 (i := 9) rfl rfl
theorem mlRX7_28 : Cond.methodLink RX7 28 yX7_readNumbers ∈ GW := wqG19 (i := 13) rfl rfl
theorem mlRX7_42 : Cond.methodLink RX7 42 yX7_isFigure ∈ GW := wqG19 (i := 17) rfl rfl
theorem mlRX7_32 : Cond.methodLink RX7 32 yX7_letterAt ∈ GW := wqG20 (i := 1) rfl rfl
theorem mlRX7_38 : Cond.methodLink RX7 38 yX2_tell ∈ GW := wqG20 (i := 8) rfl rfl
theorem mlRX9_91 : Cond.methodLink RX9 91 yX9_isWithin ∈ GW := wqG20 (i := 15) rfl rfl
theorem mlRX2_47 : Cond.methodLink RX2 47 yX0_add ∈ GW := wqG20 (i := 16) rfl rfl
theorem mlRX2_57 : Cond.methodLink RX2 57 yX0_addFeast ∈ GW := wqG21 (i := 4) rfl rfl
theorem mlRX2_61 : Cond.methodLink RX2 61 yX5_add ∈ GW := wqG21 (i := 9) rfl rfl
theorem mlRX2_63 : Cond.methodLink RX2 63 yX5_befriend ∈ GW := wqG21 (i := 13) rfl rfl
theorem mlRX5_34 : Cond.methodLink RX5 34 yX5_has ∈ GW := wqG21 (i := 17) rfl rfl
theorem mlRX2_66 : Cond.methodLink RX2 66 yX2_enact ∈ GW := wqG22 (i := 1) rfl rfl
theorem mlRX2_69 : Cond.methodLink RX2 69 yX2_addRival ∈ GW := wqG22 (i := 5) rfl rfl
theorem mlRL_13 : Cond.methodLink RL 13 yX9_write ∈ GW := wqG23 (i := 18) rfl rfl
theorem mlRL_18 : Cond.methodLink RL 18 yX9_wipe ∈ GW := wqG24 (i := 2) rfl rfl
theorem mlRL_23 : Cond.methodLink RL 23 yX9_fault ∈ GW := wqG24 (i := 6) rfl rfl
theorem mlRL_27 : Cond.methodLink RL 27 yX9_lay ∈ GW := wqG24 (i := 10) rfl rfl
theorem mlRX9_95 : Cond.methodLink RX9 95 yX2_canOpen ∈ GW := wqG24 (i := 14) rfl rfl
theorem mlRL_31 : Cond.methodLink RL 31 yX9_bed ∈ GW := wqG24 (i := 18) rfl rfl
theorem mlRX9_117 : Cond.methodLink RX9 117 yX0_has ∈ GW := wqG25 (i := 2) rfl rfl
theorem mlRX9_123 : Cond.methodLink RX9 123 yX9_isNight ∈ GW := wqG25 (i := 6) rfl rfl
theorem mlRX9_126 : Cond.methodLink RX9 126 yX0_lengthOn ∈ GW := wqG25 (i := 7) rfl rfl
theorem mlRX0_39 : Cond.methodLink RX0 39 yX0_has ∈ GW := wqG25 (i := 11) rfl rfl
theorem mlRX0_42 : Cond.methodLink RX0 42 yX0_drawn ∈ GW := wqG25 (i := 12) rfl rfl
theorem mlRL_36 : Cond.methodLink RL 36 yX9_guest ∈ GW := wqG26 (i := 1) rfl rfl
theorem mlRX9_130 : Cond.methodLink RX9 130 yX5_has ∈ GW := wqG26 (i := 5) rfl rfl
theorem mlRX9_146 : Cond.methodLink RX9 146 yX5_placeOf ∈ GW := wqG26 (i := 6) rfl rfl
theorem mlRL_40 : Cond.methodLink RL 40 yX9_harm ∈ GW := wqG26 (i := 10) rfl rfl
theorem mlRX9_150 : Cond.methodLink RX9 150 yX5_harmAt ∈ GW := wqG26 (i := 14) rfl rfl
theorem mlRX5_38 : Cond.methodLink RX5 38 yJ9_max_7cf53 ∈ GW := wqG26 (i := 18) rfl rfl
theorem mlRX5_44 : Cond.methodLink RX5 44 yX5_harmBy ∈ GW := wqG27 (i := 1) rfl rfl
theorem mlRL_45 : Cond.methodLink RL 45 yX9_lies ∈ GW := wqG27 (i := 4) rfl rfl
theorem mlRX9_155 : Cond.methodLink RX9 155 yX3_pass ∈ GW := wqG27 (i := 9) rfl rfl
theorem mlRX3_43 : Cond.methodLink RX3 43 yX5_everyone ∈ GW := wqG27 (i := 13) rfl rfl
theorem mlRX3_49 : Cond.methodLink RX3 49 yX3_fillBeds ∈ GW := wqG27 (i := 17) rfl rfl
theorem mlRX3_53 : Cond.methodLink RX3 53 yX5_hereBy ∈ GW := wqG28 (i := 1) rfl rfl
theorem mlRX3_66 : Cond.methodLink RX3 66 yX3_callFirst ∈ GW := wqG28 (i := 5) rfl rfl
theorem mlRX3_78 : Cond.methodLink RX3 78 yX5_has ∈ GW := wqG28 (i := 9) rfl rfl
theorem mlRX3_96 : Cond.methodLink RX3 96 yJ9_max_7cf53 ∈ GW := wqG28 (i := 13) rfl rfl
theorem mlRX3_70 : Cond.methodLink RX3 70 yX0_lengthOn ∈ GW := wqG28 (i := 14) rfl rfl
theorem mlRX3_74 : Cond.methodLink RX3 74 yX3_bestOf ∈ GW := wqG28 (i := 15) rfl rfl
theorem mlRX3_101 : Cond.methodLink RX3 101 yX2_namable ∈ GW := wqG28 (i := 19) rfl rfl
theorem mlRX2_72 : Cond.methodLink RX2 72 yX5_has ∈ GW := wqG29 (i := 3) rfl rfl
theorem mlRX3_82 : Cond.methodLink RX3 82 yX5_harmAt ∈ GW := wqG29 (i := 4) rfl rfl
theorem mlRX9_159 : Cond.methodLink RX9 159 yX3_hasLain ∈ GW := wqG29 (i := 5) rfl rfl
theorem mlRL_49 : Cond.methodLink RL 49 yX9_who ∈ GW := wqG29 (i := 9) rfl rfl
theorem mlRL_53 : Cond.methodLink RL 53 yX9_all ∈ GW := wqG29 (i := 13) rfl rfl
theorem mlRX9_177 : Cond.methodLink RX9 177 yX3_total ∈ GW := wqG29 (i := 17) rfl rfl
theorem mlRX3_104 : Cond.methodLink RX3 104 yJ6_bitCount_0f7a4 ∈ GW := wqG30 (i := 1) rfl rfl
theorem mlRX9_184 : Cond.methodLink RX9 184 yJ6_bitCount_0f7a4 ∈ GW := wqG30 (i := 7) rfl rfl
theorem mlRX9_187 : Cond.methodLink RX9 187 yX3_unharmed ∈ GW := wqG30 (i := 8) rfl rfl
theorem mlRX3_109 : Cond.methodLink RX3 109 yX3_hasLain ∈ GW := wqG30 (i := 12) rfl rfl
theorem mlRX9_190 : Cond.methodLink RX9 190 yX3_greatest ∈ GW := wqG30 (i := 13) rfl rfl
theorem mlRL_57 : Cond.methodLink RL 57 yX9_move ∈ GW := wqG30 (i := 17) rfl rfl
theorem mlRX9_193 : Cond.methodLink RX9 193 yX5_shift ∈ GW := wqG31 (i := 1) rfl rfl
theorem mlRX9_197 : Cond.methodLink RX9 197 yX9_noteChange ∈ GW := wqG31 (i := 5) rfl rfl
theorem mlRX9_286 : Cond.methodLink RX9 286 yX1_push ∈ GW := wqG31 (i := 9) rfl rfl
theorem mlRX1_25 : Cond.methodLink RX1 25 yX1_dropOldest ∈ GW := wqG31 (i := 13) rfl rfl
theorem mlRL_61 : Cond.methodLink RL 61 yX9_wear ∈ GW := wqG31 (i := 17) rfl rfl
theorem mlRL_65 : Cond.methodLink RL 65 yX9_come ∈ GW := wqG32 (i := 1) rfl rfl
theorem mlRL_69 : Cond.methodLink RL 69 yX9_undo ∈ GW := wqG32 (i := 5) rfl rfl
theorem mlRX9_201 : Cond.methodLink RX9 201 yX1_takeBack ∈ GW := wqG32 (i := 9) rfl rfl
theorem mlRX1_28 : Cond.methodLink RX1 28 yX5_has ∈ GW := wqG32 (i := 13) rfl rfl
theorem mlRX1_34 : Cond.methodLink RX1 34 yX5_placeOf ∈ GW := wqG32 (i := 14) rfl rfl
theorem mlRX1_38 : Cond.methodLink RX1 38 yX5_shift ∈ GW := wqG32 (i := 15) rfl rfl
theorem mlRL_73 : Cond.methodLink RL 73 yX9_order ∈ GW := wqG32 (i := 16) rfl rfl
theorem mlRX9_205 : Cond.methodLink RX9 205 yX4_search ∈ GW := wqG33 (i := 0) rfl rfl
theorem mlRX4_27 : Cond.methodLink RX4 27 arraycopyName ∈ GW := wqG33 (i := 4) rfl rfl
theorem mlRX4_41 : Cond.methodLink RX4 41 yX3_pass ∈ GW := wqG33 (i := 8) rfl rfl
theorem mlRX4_47 : Cond.methodLink RX4 47 yX3_total ∈ GW := wqG33 (i := 9) rfl rfl
theorem mlRX4_54 : Cond.methodLink RX4 54 yX4_toNextRow ∈ GW := wqG33 (i := 10) rfl rfl
theorem mlRX4_62 : Cond.methodLink RX4 62 yX4_letFall ∈ GW := wqG33 (i := 13) rfl rfl
theorem mlRX4_73 : Cond.methodLink RX4 73 yJ9_max_7cf53 ∈ GW := wqG33 (i := 16) rfl rfl
theorem mlRX4_66 : Cond.methodLink RX4 66 yX4_swap ∈ GW := wqG33 (i := 17) rfl rfl
theorem mlRX4_79 : Cond.methodLink RX4 79 yX5_has ∈ GW := wqG34 (i := 0) rfl rfl
theorem mlRX4_70 : Cond.methodLink RX4 70 yX4_turnRound ∈ GW := wqG34 (i := 1) rfl rfl
theorem mlRL_77 : Cond.methodLink RL 77 yX9_cushion ∈ GW := wqG34 (i := 4) rfl rfl
theorem mlRX9_215 : Cond.methodLink RX9 215 yX9_sumBelow ∈ GW := wqG34 (i := 8) rfl rfl
theorem mlRL_81 : Cond.methodLink RL 81 yX9_length ∈ GW := wqG34 (i := 12) rfl rfl
theorem mlRL_85 : Cond.methodLink RL 85 yX9_law ∈ GW := wqG34 (i := 16) rfl rfl
theorem mlRL_89 : Cond.methodLink RL 89 yX9_pairs ∈ GW := wqG35 (i := 0) rfl rfl
theorem mlRX9_224 : Cond.methodLink RX9 224 yX9_noteHarmsNow ∈ GW := wqG35 (i := 4) rfl rfl
theorem mlRX9_289 : Cond.methodLink RX9 289 arraycopyName ∈ GW := wqG35 (i := 8) rfl rfl
theorem mlRX9_227 : Cond.methodLink RX9 227 yX9_isIn ∈ GW := wqG35 (i := 9) rfl rfl
theorem mlRX9_231 : Cond.methodLink RX9 231 yX9_wouldSwap ∈ GW := wqG35 (i := 10) rfl rfl
theorem mlRX9_295 : Cond.methodLink RX9 295 yX5_swapPlaces ∈ GW := wqG35 (i := 14) rfl rfl
theorem mlRX5_47 : Cond.methodLink RX5 47 yX5_placeOf ∈ GW := wqG35 (i := 18) rfl rfl
theorem mlRL_93 : Cond.methodLink RL 93 yX9_later ∈ GW := wqG35 (i := 19) rfl rfl
theorem mlRL_97 : Cond.methodLink RL 97 yX9_rival ∈ GW := wqG36 (i := 3) rfl rfl
theorem mlRX9_234 : Cond.methodLink RX9 234 yX2_leastAtRival ∈ GW := wqG36 (i := 7) rfl rfl
theorem mlRX2_82 : Cond.methodLink RX2 82 yX5_harmAt ∈ GW := wqG36 (i := 12) rfl rfl
theorem mlRX2_86 : Cond.methodLink RX2 86 yJ9_min_7cf53 ∈ GW := wqG36 (i := 13) rfl rfl
theorem mlRL_101 : Cond.methodLink RL 101 yX9_fewest ∈ GW := wqG36 (i := 16) rfl rfl
theorem mlRX9_241 : Cond.methodLink RX9 241 yX3_allLainBy ∈ GW := wqG37 (i := 0) rfl rfl
theorem mlRL_105 : Cond.methodLink RL 105 yX9_turned ∈ GW := wqG37 (i := 4) rfl rfl
theorem mlRL_109 : Cond.methodLink RL 109 yX9_left ∈ GW := wqG37 (i := 8) rfl rfl
theorem mlRX9_248 : Cond.methodLink RX9 248 yX6_add ∈ GW := wqG37 (i := 12) rfl rfl
theorem mlRL_113 : Cond.methodLink RL 113 yX9_sweep ∈ GW := wqG37 (i := 16) rfl rfl
theorem mlRL_117 : Cond.methodLink RL 117 yX9_slept ∈ GW := wqG38 (i := 0) rfl rfl
theorem mlRX9_251 : Cond.methodLink RX9 251 yX6_has ∈ GW := wqG38 (i := 4) rfl rfl
theorem mlRX9_252 : Cond.methodLink RX9 252 yX6_sleepersOf ∈ GW := wqG38 (i := 8) rfl rfl
theorem mlRX6_33 : Cond.methodLink RX6 33 yX0_lengthOn ∈ GW := wqG38 (i := 12) rfl rfl
theorem mlRX6_43 : Cond.methodLink RX6 43 yX5_hereBy ∈ GW := wqG38 (i := 13) rfl rfl
theorem mlRX6_54 : Cond.methodLink RX6 54 yX5_harmAt ∈ GW := wqG38 (i := 15) rfl rfl
theorem mlRL_121 : Cond.methodLink RL 121 yX9_sure ∈ GW := wqG38 (i := 16) rfl rfl
theorem mlRX9_256 : Cond.methodLink RX9 256 yX6_ways ∈ GW := wqG39 (i := 0) rfl rfl
theorem mlRX6_58 : Cond.methodLink RX6 58 yX6_sleepersOf ∈ GW := wqG39 (i := 4) rfl rfl
theorem mlRX6_62 : Cond.methodLink RX6 62 yX6_addOne ∈ GW := wqG39 (i := 5) rfl rfl
theorem mlRX6_66 : Cond.methodLink RX6 66 yJ6_bitCount_0f7a4 ∈ GW := wqG39 (i := 9) rfl rfl
theorem mlRX9_260 : Cond.methodLink RX9 260 yX6_onlySleeperOf ∈ GW := wqG39 (i := 10) rfl rfl
theorem mlRX6_71 : Cond.methodLink RX6 71 yX6_ways ∈ GW := wqG39 (i := 14) rfl rfl
theorem mlRL_125 : Cond.methodLink RL 125 yX9_found ∈ GW := wqG39 (i := 15) rfl rfl
theorem mlRX9_263 : Cond.methodLink RX9 263 yJ9_abs_0f7a4 ∈ GW := wqG39 (i := 19) rfl rfl
theorem mlRX9_268 : Cond.methodLink RX9 268 yJ9_max_7cf53 ∈ GW := wqG40 (i := 2) rfl rfl
theorem mlRL_129 : Cond.methodLink RL 129 yX9_year ∈ GW := wqG40 (i := 3) rfl rfl
theorem mlRL_133 : Cond.methodLink RL 133 yX9_keep ∈ GW := wqG40 (i := 7) rfl rfl
theorem mlRX9_274 : Cond.methodLink RX9 274 yX8_put ∈ GW := wqG40 (i := 11) rfl rfl
theorem mlRX8_32 : Cond.methodLink RX8 32 arraycopyName ∈ GW := wqG40 (i := 15) rfl rfl
theorem mlRL_137 : Cond.methodLink RL 137 yX9_back ∈ GW := wqG40 (i := 16) rfl rfl
theorem mlRX9_277 : Cond.methodLink RX9 277 yX8_takeInto ∈ GW := wqG41 (i := 0) rfl rfl
theorem mlRL_141 : Cond.methodLink RL 141 yX9_count ∈ GW := wqG41 (i := 4) rfl rfl
theorem mlRL_12 : Cond.methodLink RL 12 yX10_init ∈ GW := wqG41 (i := 10) rfl rfl
theorem mlRX10_1 : Cond.methodLink RX10 1 objectInit ∈ GW := wqG41 (i := 13) rfl rfl
theorem mlRL_17 : Cond.methodLink RL 17 yX10_write ∈ GW := wqG48 (i := 7) rfl rfl
theorem mlRX10_101 : Cond.methodLink RX10 101 yX10_in ∈ GW := wqG48 (i := 13) rfl rfl
theorem mlRL_22 : Cond.methodLink RL 22 yX10_wipe ∈ GW := wqG48 (i := 16) rfl rfl
theorem mlRL_26 : Cond.methodLink RL 26 yX10_fault ∈ GW := wqG49 (i := 0) rfl rfl
theorem mlRX10_156 : Cond.methodLink RX10 156 yX10_readItem ∈ GW := wqG49 (i := 4) rfl rfl
theorem mlRX10_128 : Cond.methodLink RX10 128 yX10_readNumbers ∈ GW := wqG49 (i := 8) rfl rfl
theorem mlRX10_121 : Cond.methodLink RX10 121 yX10_readNumber ∈ GW := wqG49 (i := 12) rfl rfl
theorem mlRL_30 : Cond.methodLink RL 30 yX10_lay ∈ GW := wqG50 (i := 4) rfl rfl
theorem mlRX10_160 : Cond.methodLink RX10 160 yX10_fault ∈ GW := wqG50 (i := 8) rfl rfl
theorem mlRL_35 : Cond.methodLink RL 35 yX10_bed ∈ GW := wqG50 (i := 9) rfl rfl
theorem mlRX10_193 : Cond.methodLink RX10 193 yX10_isBed ∈ GW := wqG50 (i := 13) rfl rfl
theorem mlRX10_196 : Cond.methodLink RX10 196 yX10_isNight ∈ GW := wqG50 (i := 17) rfl rfl
theorem mlRX10_199 : Cond.methodLink RX10 199 yX10_lengthOn ∈ GW := wqG51 (i := 0) rfl rfl
theorem mlRL_44 : Cond.methodLink RL 44 yX10_harm ∈ GW := wqG51 (i := 9) rfl rfl
theorem mlRX10_209 : Cond.methodLink RX10 209 yX10_isGuest ∈ GW := wqG51 (i := 13) rfl rfl
theorem mlRX10_212 : Cond.methodLink RX10 212 yX10_harmOf ∈ GW := wqG51 (i := 17) rfl rfl
theorem mlRX10_203 : Cond.methodLink RX10 203 yX10_inchesOn ∈ GW := wqG52 (i := 1) rfl rfl
theorem mlRX10_206 : Cond.methodLink RX10 206 yX10_harmBy ∈ GW := wqG52 (i := 5) rfl rfl
theorem mlRL_39 : Cond.methodLink RL 39 yX10_guest ∈ GW := wqG52 (i := 9) rfl rfl
theorem mlRX10_216 : Cond.methodLink RX10 216 yX10_placeOf ∈ GW := wqG52 (i := 13) rfl rfl
theorem mlRL_48 : Cond.methodLink RL 48 yX10_lies ∈ GW := wqG52 (i := 17) rfl rfl
theorem mlRX10_235 : Cond.methodLink RX10 235 yX10_stay ∈ GW := wqG53 (i := 1) rfl rfl
theorem mlRX10_231 : Cond.methodLink RX10 231 yX10_give ∈ GW := wqG53 (i := 5) rfl rfl
theorem mlRX10_220 : Cond.methodLink RX10 220 yX10_isWaiting ∈ GW := wqG53 (i := 9) rfl rfl
theorem mlRX10_224 : Cond.methodLink RX10 224 yX10_has ∈ GW := wqG53 (i := 13) rfl rfl
theorem mlRX10_227 : Cond.methodLink RX10 227 yX10_lieDown ∈ GW := wqG53 (i := 16) rfl rfl
theorem mlRL_52 : Cond.methodLink RL 52 yX10_who ∈ GW := wqG54 (i := 0) rfl rfl
theorem mlRL_56 : Cond.methodLink RL 56 yX10_all ∈ GW := wqG54 (i := 4) rfl rfl
theorem mlRX10_240 : Cond.methodLink RX10 240 yX10_unharmed ∈ GW := wqG54 (i := 9) rfl rfl
theorem mlRL_60 : Cond.methodLink RL 60 yX10_move ∈ GW := wqG54 (i := 13) rfl rfl
theorem mlRX10_243 : Cond.methodLink RX10 243 yX10_note ∈ GW := wqG54 (i := 17) rfl rfl
theorem mlRL_64 : Cond.methodLink RL 64 yX10_wear ∈ GW := wqG55 (i := 1) rfl rfl
theorem mlRL_68 : Cond.methodLink RL 68 yX10_come ∈ GW := wqG55 (i := 6) rfl rfl
theorem mlRL_72 : Cond.methodLink RL 72 yX10_undo ∈ GW := wqG55 (i := 10) rfl rfl
theorem mlRL_76 : Cond.methodLink RL 76 yX10_order ∈ GW := wqG55 (i := 14) rfl rfl
theorem mlRX10_253 : Cond.methodLink RX10 253 yX10_nextRow ∈ GW := wqG55 (i := 19) rfl rfl
theorem mlRX10_248 : Cond.methodLink RX10 248 yX10_exchange ∈ GW := wqG56 (i := 3) rfl rfl
theorem mlRL_80 : Cond.methodLink RL 80 yX10_cushion ∈ GW := wqG56 (i := 7) rfl rfl
theorem mlRL_84 : Cond.methodLink RL 84 yX10_length ∈ GW := wqG56 (i := 11) rfl rfl
theorem mlRL_88 : Cond.methodLink RL 88 yX10_law ∈ GW := wqG56 (i := 15) rfl rfl
theorem mlRL_92 : Cond.methodLink RL 92 yX10_pairs ∈ GW := wqG56 (i := 19) rfl rfl
theorem mlRL_96 : Cond.methodLink RL 96 yX10_later ∈ GW := wqG57 (i := 3) rfl rfl
theorem mlRL_100 : Cond.methodLink RL 100 yX10_rival ∈ GW := wqG57 (i := 7) rfl rfl
theorem mlRL_104 : Cond.methodLink RL 104 yX10_fewest ∈ GW := wqG57 (i := 11) rfl rfl
theorem mlRL_108 : Cond.methodLink RL 108 yX10_turned ∈ GW := wqG57 (i := 15) rfl rfl
theorem mlRL_112 : Cond.methodLink RL 112 yX10_left ∈ GW := wqG57 (i := 19) rfl rfl
theorem mlRL_116 : Cond.methodLink RL 116 yX10_sweep ∈ GW := wqG58 (i := 3) rfl rfl
theorem mlRL_120 : Cond.methodLink RL 120 yX10_slept ∈ GW := wqG58 (i := 7) rfl rfl
theorem mlRX10_256 : Cond.methodLink RX10 256 yX10_sleptBy ∈ GW := wqG58 (i := 11) rfl rfl
theorem mlRL_124 : Cond.methodLink RL 124 yX10_sure ∈ GW := wqG58 (i := 15) rfl rfl
theorem mlRX10_259 : Cond.methodLink RX10 259 yX10_waysWith ∈ GW := wqG58 (i := 19) rfl rfl
theorem mlRL_128 : Cond.methodLink RL 128 yX10_found ∈ GW := wqG59 (i := 3) rfl rfl
theorem mlRL_132 : Cond.methodLink RL 132 yX10_year ∈ GW := wqG59 (i := 8) rfl rfl
theorem mlRL_136 : Cond.methodLink RL 136 yX10_keep ∈ GW := wqG59 (i := 13) rfl rfl
theorem mlRL_140 : Cond.methodLink RL 140 yX10_back ∈ GW := wqG59 (i := 17) rfl rfl
theorem mlRL_144 : Cond.methodLink RL 144 yX10_count ∈ GW := wqG60 (i := 1) rfl rfl
theorem nlRX9_11 : (RX9, 11, yX7_init, "BedsThatFit") ∈ NW := List.mem_filterMap.mpr ⟨Cond.methodLinkNest RX9 11 yX7_init "BedsThatFit", wqM3 _ (List.mem_of_getElem? (i := 9) rfl), rfl⟩
theorem nlRX9_20 : (RX9, 20, yX3_init, "BedsThatFit") ∈ NW := List.mem_filterMap.mpr ⟨Cond.methodLinkNest RX9 20 yX3_init "BedsThatFit", wqM4 _ (List.mem_of_getElem? (i := 11) rfl), rfl⟩
theorem nlRX9_27 : (RX9, 27, yX1_init, "BedsThatFit") ∈ NW := List.mem_filterMap.mpr ⟨Cond.methodLinkNest RX9 27 yX1_init "BedsThatFit", wqM6 _ (List.mem_of_getElem? (i := 9) rfl), rfl⟩
theorem nlRX9_34 : (RX9, 34, yX8_init, "BedsThatFit") ∈ NW := List.mem_filterMap.mpr ⟨Cond.methodLinkNest RX9 34 yX8_init "BedsThatFit", wqM7 _ (List.mem_of_getElem? (i := 9) rfl), rfl⟩
theorem nlRX9_41 : (RX9, 41, yX6_init, "BedsThatFit") ∈ NW := List.mem_filterMap.mpr ⟨Cond.methodLinkNest RX9 41 yX6_init "BedsThatFit", wqM8 _ (List.mem_of_getElem? (i := 11) rfl), rfl⟩
theorem nlRX9_48 : (RX9, 48, yX4_init, "BedsThatFit") ∈ NW := List.mem_filterMap.mpr ⟨Cond.methodLinkNest RX9 48 yX4_init "BedsThatFit", wqM9 _ (List.mem_of_getElem? (i := 14) rfl), rfl⟩
theorem nlRX9_59 : (RX9, 59, yX2_init, "BedsThatFit") ∈ NW := List.mem_filterMap.mpr ⟨Cond.methodLinkNest RX9 59 yX2_init "BedsThatFit", wqM10 _ (List.mem_of_getElem? (i := 16) rfl), rfl⟩
theorem nlRX2_11 : (RX2, 11, yX0_init, "BedsThatFit") ∈ NW := List.mem_filterMap.mpr ⟨Cond.methodLinkNest RX2 11 yX0_init "BedsThatFit", wqM11 _ (List.mem_of_getElem? (i := 2) rfl), rfl⟩
theorem nlRX2_20 : (RX2, 20, yX5_init, "BedsThatFit") ∈ NW := List.mem_filterMap.mpr ⟨Cond.methodLinkNest RX2 20 yX5_init "BedsThatFit", wqM12 _ (List.mem_of_getElem? (i := 18) rfl), rfl⟩
theorem nlRX7_46 : (RX7, 46, yX9_isWithin, "BedsThatFit") ∈ NW := List.mem_filterMap.mpr ⟨Cond.methodLinkNest RX7 46 yX9_isWithin "BedsThatFit", wqM20 _ (List.mem_of_getElem? (i := 5) rfl), rfl⟩
theorem nlRX2_43 : (RX2, 43, yX9_isLength, "BedsThatFit") ∈ NW := List.mem_filterMap.mpr ⟨Cond.methodLinkNest RX2 43 yX9_isLength "BedsThatFit", wqM20 _ (List.mem_of_getElem? (i := 12) rfl), rfl⟩
theorem nlRX2_50 : (RX2, 50, yX9_isNight, "BedsThatFit") ∈ NW := List.mem_filterMap.mpr ⟨Cond.methodLinkNest RX2 50 yX9_isNight "BedsThatFit", wqM21 _ (List.mem_of_getElem? (i := 0) rfl), rfl⟩
theorem nlRX2_53 : (RX2, 53, yX9_isWithin, "BedsThatFit") ∈ NW := List.mem_filterMap.mpr ⟨Cond.methodLinkNest RX2 53 yX9_isWithin "BedsThatFit", wqM21 _ (List.mem_of_getElem? (i := 3) rfl), rfl⟩
theorem nlRX0_31 : (RX0, 31, yX9_isNight, "BedsThatFit") ∈ NW := List.mem_filterMap.mpr ⟨Cond.methodLinkNest RX0 31 yX9_isNight "BedsThatFit", wqM21 _ (List.mem_of_getElem? (i := 8) rfl), rfl⟩
theorem nlRX3_92 : (RX3, 92, yX9_isIn, "BedsThatFit") ∈ NW := List.mem_filterMap.mpr ⟨Cond.methodLinkNest RX3 92 yX9_isIn "BedsThatFit", wqM28 _ (List.mem_of_getElem? (i := 10) rfl), rfl⟩
theorem nlRX6_50 : (RX6, 50, yX9_isIn, "BedsThatFit") ∈ NW := List.mem_filterMap.mpr ⟨Cond.methodLinkNest RX6 50 yX9_isIn "BedsThatFit", wqM38 _ (List.mem_of_getElem? (i := 14) rfl), rfl⟩
theorem kcRX9_154 : Cond.constant RX9 154 (2147483647) ∈ GW := wqG27 (i := 8) rfl rfl
theorem kcRJ6_265 : Cond.constant RJ6 265 (1431655765) ∈ GW := wqG30 (i := 4) rfl rfl
theorem kcRJ6_266 : Cond.constant RJ6 266 (858993459) ∈ GW := wqG30 (i := 5) rfl rfl
theorem kcRJ6_267 : Cond.constant RJ6 267 (252645135) ∈ GW := wqG30 (i := 6) rfl rfl
theorem kcRX4_37 : Cond.constant RX4 37 (2147483647) ∈ GW := wqG33 (i := 7) rfl rfl
theorem kcRX2_78 : Cond.constant RX2 78 (2147483647) ∈ GW := wqG36 (i := 11) rfl rfl
theorem kcRX0_46 : Cond.constantLong RX0 46 (7919) ∈ GW := wqG25 (i := 16) rfl rfl
theorem kcRX0_48 : Cond.constantLong RX0 48 (6151) ∈ GW := wqG25 (i := 17) rfl rfl
theorem kcRX0_50 : Cond.constantLong RX0 50 (101) ∈ GW := wqG25 (i := 18) rfl rfl
theorem kcRX0_52 : Cond.constantLong RX0 52 (65521) ∈ GW := wqG25 (i := 19) rfl rfl
theorem kcRX0_54 : Cond.constantLong RX0 54 (7) ∈ GW := wqG26 (i := 0) rfl rfl
theorem kcRX10_107 : Cond.constantLong RX10 107 (32) ∈ GW := wqG48 (i := 11) rfl rfl
theorem kcRX10_109 : Cond.constantLong RX10 109 (126) ∈ GW := wqG48 (i := 12) rfl rfl
theorem kcRX10_117 : Cond.constantLong RX10 117 (48) ∈ GW := wqG49 (i := 16) rfl rfl
theorem kcRX10_119 : Cond.constantLong RX10 119 (57) ∈ GW := wqG49 (i := 17) rfl rfl
theorem kcRX10_131 : Cond.constantLong RX10 131 (40) ∈ GW := wqG49 (i := 18) rfl rfl
theorem kcRX10_133 : Cond.constantLong RX10 133 (99) ∈ GW := wqG49 (i := 19) rfl rfl
theorem kcRX10_105 : Cond.constantLong RX10 105 (29) ∈ GW := wqG50 (i := 0) rfl rfl
theorem kcRX10_138 : Cond.constantLong RX10 138 (9) ∈ GW := wqG50 (i := 1) rfl rfl
theorem kcRX10_143 : Cond.constantLong RX10 143 (4) ∈ GW := wqG50 (i := 2) rfl rfl
theorem kcRX10_148 : Cond.constantLong RX10 148 (2) ∈ GW := wqG50 (i := 3) rfl rfl
theorem kcRX10_183 : Cond.constantLong RX10 183 (7919) ∈ GW := wqG51 (i := 4) rfl rfl
theorem kcRX10_185 : Cond.constantLong RX10 185 (6151) ∈ GW := wqG51 (i := 5) rfl rfl
theorem kcRX10_187 : Cond.constantLong RX10 187 (101) ∈ GW := wqG51 (i := 6) rfl rfl
theorem kcRX10_189 : Cond.constantLong RX10 189 (65521) ∈ GW := wqG51 (i := 7) rfl rfl
theorem kcRX10_191 : Cond.constantLong RX10 191 (7) ∈ GW := wqG51 (i := 8) rfl rfl
theorem kcRX10_238 : Cond.constantLong RX10 238 (3) ∈ GW := wqG54 (i := 8) rfl rfl
theorem kcRX10_246 : Cond.constantLong RX10 246 (-9) ∈ GW := wqG55 (i := 5) rfl rfl
theorem kcRX10_251 : Cond.constantLong RX10 251 (-1) ∈ GW := wqG55 (i := 18) rfl rfl
theorem kcRX10_262 : Cond.constantLong RX10 262 (10) ∈ GW := wqG59 (i := 7) rfl rfl
theorem kcRX10_264 : Cond.constantLong RX10 264 (9999) ∈ GW := wqG59 (i := 12) rfl rfl
theorem acN : Cond.native arraycopyName ∈ GW := wqG33 (i := 6) rfl rfl
theorem acS : Cond.static arraycopyName ∈ GW := wqG33 (i := 5) rfl rfl
theorem acI : Cond.initialized "java/lang/System" ∈ GW := wqG2 (i := 18) rfl rfl
end
section
/-! the cells: x (BedsThatFit) and what it holds are 0 to 56, m (the reference) and what it holds 57 to 83 -/
def TTc : List (Nat × Nat) := [(9, 9), (7, 4), (21, 200), (20, 3), (3, 8), (20, 7), (20, 7), (20, 7), (20, 7), (20, 7), (1, 4), (20, 8), (20, 8), (20, 8), (8, 4), (22, 2), (20, 7), (20, 7), (22, 2), (20, 7), (20, 7), (22, 2), (20, 7), (20, 7), (6, 5), (20, 6), (20, 6), (20, 6), (20, 128), (4, 4), (20, 7), (20, 7), (20, 7), (2, 5), (0, 7), (20, 4), (20, 30), (5, 7), (20, 7), (20, 7), (20, 7), (20, 7), (20, 7), (20, 7), (20, 4), (2, 5), (0, 7), (20, 4), (20, 30), (5, 7), (20, 7), (20, 7), (20, 7), (20, 7), (20, 7), (20, 7), (20, 4)]
def TTm : List (Nat × Nat) := [(10, 44), (20, 4), (20, 30), (20, 7), (20, 7), (20, 7), (20, 4), (20, 21), (20, 200), (20, 3), (20, 4), (20, 30), (20, 21), (20, 7), (20, 4), (20, 7), (20, 7), (20, 7), (20, 7), (20, 7), (20, 168), (20, 7), (20, 7), (20, 18), (20, 128), (20, 128), (20, 42)]
def GGc : List (List (Option Nat)) := [[some 1, some 4, some 10, some 14, some 24, some 29, some 32, some 33, some 45], [some 2, some 3], [], [], [some 5, some 6, some 7, some 8, some 9], [], [], [], [], [], [some 11, some 12, some 13], [], [], [], [some 15, some 18, some 21], [some 16, some 17], [], [], [some 19, some 20], [], [], [some 22, some 23], [], [], [some 25, some 26, some 27, some 28], [], [], [], [], [some 30, some 31], [], [], [], [some 34, some 37, some 44], [some 35, some 36], [], [], [some 38, some 39, some 40, some 41, some 42, some 43], [], [], [], [], [], [], [], [some 46, some 49, some 56], [some 47, some 48], [], [], [some 50, some 51, some 52, some 53, some 54, some 55], [], [], [], [], [], [], []]
def gj (G2 : Nat → Nat → Option Nat) : Nat → Nat → Option Nat := fun k j => if k < 57 then (GGc.getD k []).getD j none else G2 k j
def GGm : List (Option Nat) := [some 58, none, some 59, none, some 60, some 61, some 62, none, some 63, none, none, some 64, some 65, none, none, none, some 66, some 67, none, some 68, none, some 69, some 70, none, some 71, none, none, none, none, some 72, some 73, some 74, some 75, some 76, some 77, none, some 78, some 79, some 80, none, some 81, some 82, some 83, none]
def gm : Nat → Nat → Option Nat := fun k j => if k = 57 then GGm.getD j none else none
theorem tc0 (T2 : List (Nat × Nat)) : (TTc ++ T2)[0]? = some (9, 9) := rfl
theorem tc1 (T2 : List (Nat × Nat)) : (TTc ++ T2)[1]? = some (7, 4) := rfl
theorem tc2 (T2 : List (Nat × Nat)) : (TTc ++ T2)[2]? = some (21, 200) := rfl
theorem tc3 (T2 : List (Nat × Nat)) : (TTc ++ T2)[3]? = some (20, 3) := rfl
theorem tc4 (T2 : List (Nat × Nat)) : (TTc ++ T2)[4]? = some (3, 8) := rfl
theorem tc5 (T2 : List (Nat × Nat)) : (TTc ++ T2)[5]? = some (20, 7) := rfl
theorem tc6 (T2 : List (Nat × Nat)) : (TTc ++ T2)[6]? = some (20, 7) := rfl
theorem tc7 (T2 : List (Nat × Nat)) : (TTc ++ T2)[7]? = some (20, 7) := rfl
theorem tc8 (T2 : List (Nat × Nat)) : (TTc ++ T2)[8]? = some (20, 7) := rfl
theorem tc9 (T2 : List (Nat × Nat)) : (TTc ++ T2)[9]? = some (20, 7) := rfl
theorem tc10 (T2 : List (Nat × Nat)) : (TTc ++ T2)[10]? = some (1, 4) := rfl
theorem tc11 (T2 : List (Nat × Nat)) : (TTc ++ T2)[11]? = some (20, 8) := rfl
theorem tc12 (T2 : List (Nat × Nat)) : (TTc ++ T2)[12]? = some (20, 8) := rfl
theorem tc13 (T2 : List (Nat × Nat)) : (TTc ++ T2)[13]? = some (20, 8) := rfl
theorem tc14 (T2 : List (Nat × Nat)) : (TTc ++ T2)[14]? = some (8, 4) := rfl
theorem tc15 (T2 : List (Nat × Nat)) : (TTc ++ T2)[15]? = some (22, 2) := rfl
theorem tc16 (T2 : List (Nat × Nat)) : (TTc ++ T2)[16]? = some (20, 7) := rfl
theorem tc17 (T2 : List (Nat × Nat)) : (TTc ++ T2)[17]? = some (20, 7) := rfl
theorem tc18 (T2 : List (Nat × Nat)) : (TTc ++ T2)[18]? = some (22, 2) := rfl
theorem tc19 (T2 : List (Nat × Nat)) : (TTc ++ T2)[19]? = some (20, 7) := rfl
theorem tc20 (T2 : List (Nat × Nat)) : (TTc ++ T2)[20]? = some (20, 7) := rfl
theorem tc21 (T2 : List (Nat × Nat)) : (TTc ++ T2)[21]? = some (22, 2) := rfl
theorem tc22 (T2 : List (Nat × Nat)) : (TTc ++ T2)[22]? = some (20, 7) := rfl
theorem tc23 (T2 : List (Nat × Nat)) : (TTc ++ T2)[23]? = some (20, 7) := rfl
theorem tc24 (T2 : List (Nat × Nat)) : (TTc ++ T2)[24]? = some (6, 5) := rfl
theorem tc25 (T2 : List (Nat × Nat)) : (TTc ++ T2)[25]? = some (20, 6) := rfl
theorem tc26 (T2 : List (Nat × Nat)) : (TTc ++ T2)[26]? = some (20, 6) := rfl
theorem tc27 (T2 : List (Nat × Nat)) : (TTc ++ T2)[27]? = some (20, 6) := rfl
theorem tc28 (T2 : List (Nat × Nat)) : (TTc ++ T2)[28]? = some (20, 128) := rfl
theorem tc29 (T2 : List (Nat × Nat)) : (TTc ++ T2)[29]? = some (4, 4) := rfl
theorem tc30 (T2 : List (Nat × Nat)) : (TTc ++ T2)[30]? = some (20, 7) := rfl
theorem tc31 (T2 : List (Nat × Nat)) : (TTc ++ T2)[31]? = some (20, 7) := rfl
theorem tc32 (T2 : List (Nat × Nat)) : (TTc ++ T2)[32]? = some (20, 7) := rfl
theorem tc33 (T2 : List (Nat × Nat)) : (TTc ++ T2)[33]? = some (2, 5) := rfl
theorem tc34 (T2 : List (Nat × Nat)) : (TTc ++ T2)[34]? = some (0, 7) := rfl
theorem tc35 (T2 : List (Nat × Nat)) : (TTc ++ T2)[35]? = some (20, 4) := rfl
theorem tc36 (T2 : List (Nat × Nat)) : (TTc ++ T2)[36]? = some (20, 30) := rfl
theorem tc37 (T2 : List (Nat × Nat)) : (TTc ++ T2)[37]? = some (5, 7) := rfl
theorem tc38 (T2 : List (Nat × Nat)) : (TTc ++ T2)[38]? = some (20, 7) := rfl
theorem tc39 (T2 : List (Nat × Nat)) : (TTc ++ T2)[39]? = some (20, 7) := rfl
theorem tc40 (T2 : List (Nat × Nat)) : (TTc ++ T2)[40]? = some (20, 7) := rfl
theorem tc41 (T2 : List (Nat × Nat)) : (TTc ++ T2)[41]? = some (20, 7) := rfl
theorem tc42 (T2 : List (Nat × Nat)) : (TTc ++ T2)[42]? = some (20, 7) := rfl
theorem tc43 (T2 : List (Nat × Nat)) : (TTc ++ T2)[43]? = some (20, 7) := rfl
theorem tc44 (T2 : List (Nat × Nat)) : (TTc ++ T2)[44]? = some (20, 4) := rfl
theorem tc45 (T2 : List (Nat × Nat)) : (TTc ++ T2)[45]? = some (2, 5) := rfl
theorem tc46 (T2 : List (Nat × Nat)) : (TTc ++ T2)[46]? = some (0, 7) := rfl
theorem tc47 (T2 : List (Nat × Nat)) : (TTc ++ T2)[47]? = some (20, 4) := rfl
theorem tc48 (T2 : List (Nat × Nat)) : (TTc ++ T2)[48]? = some (20, 30) := rfl
theorem tc49 (T2 : List (Nat × Nat)) : (TTc ++ T2)[49]? = some (5, 7) := rfl
theorem tc50 (T2 : List (Nat × Nat)) : (TTc ++ T2)[50]? = some (20, 7) := rfl
theorem tc51 (T2 : List (Nat × Nat)) : (TTc ++ T2)[51]? = some (20, 7) := rfl
theorem tc52 (T2 : List (Nat × Nat)) : (TTc ++ T2)[52]? = some (20, 7) := rfl
theorem tc53 (T2 : List (Nat × Nat)) : (TTc ++ T2)[53]? = some (20, 7) := rfl
theorem tc54 (T2 : List (Nat × Nat)) : (TTc ++ T2)[54]? = some (20, 7) := rfl
theorem tc55 (T2 : List (Nat × Nat)) : (TTc ++ T2)[55]? = some (20, 7) := rfl
theorem tc56 (T2 : List (Nat × Nat)) : (TTc ++ T2)[56]? = some (20, 4) := rfl
theorem tm57 : (TTc ++ TTm)[57]? = some (10, 44) := rfl
theorem tm58 : (TTc ++ TTm)[58]? = some (20, 4) := rfl
theorem tm59 : (TTc ++ TTm)[59]? = some (20, 30) := rfl
theorem tm60 : (TTc ++ TTm)[60]? = some (20, 7) := rfl
theorem tm61 : (TTc ++ TTm)[61]? = some (20, 7) := rfl
theorem tm62 : (TTc ++ TTm)[62]? = some (20, 7) := rfl
theorem tm63 : (TTc ++ TTm)[63]? = some (20, 4) := rfl
theorem tm64 : (TTc ++ TTm)[64]? = some (20, 21) := rfl
theorem tm65 : (TTc ++ TTm)[65]? = some (20, 200) := rfl
theorem tm66 : (TTc ++ TTm)[66]? = some (20, 3) := rfl
theorem tm67 : (TTc ++ TTm)[67]? = some (20, 4) := rfl
theorem tm68 : (TTc ++ TTm)[68]? = some (20, 30) := rfl
theorem tm69 : (TTc ++ TTm)[69]? = some (20, 21) := rfl
theorem tm70 : (TTc ++ TTm)[70]? = some (20, 7) := rfl
theorem tm71 : (TTc ++ TTm)[71]? = some (20, 4) := rfl
theorem tm72 : (TTc ++ TTm)[72]? = some (20, 7) := rfl
theorem tm73 : (TTc ++ TTm)[73]? = some (20, 7) := rfl
theorem tm74 : (TTc ++ TTm)[74]? = some (20, 7) := rfl
theorem tm75 : (TTc ++ TTm)[75]? = some (20, 7) := rfl
theorem tm76 : (TTc ++ TTm)[76]? = some (20, 7) := rfl
theorem tm77 : (TTc ++ TTm)[77]? = some (20, 168) := rfl
theorem tm78 : (TTc ++ TTm)[78]? = some (20, 7) := rfl
theorem tm79 : (TTc ++ TTm)[79]? = some (20, 7) := rfl
theorem tm80 : (TTc ++ TTm)[80]? = some (20, 18) := rfl
theorem tm81 : (TTc ++ TTm)[81]? = some (20, 128) := rfl
theorem tm82 : (TTc ++ TTm)[82]? = some (20, 128) := rfl
theorem tm83 : (TTc ++ TTm)[83]? = some (20, 42) := rfl
theorem gg1_0 (G2 : Nat → Nat → Option Nat) : gj G2 1 0 = some 2 := rfl
theorem gg1_1 (G2 : Nat → Nat → Option Nat) : gj G2 1 1 = some 3 := rfl
theorem gg0_0 (G2 : Nat → Nat → Option Nat) : gj G2 0 0 = some 1 := rfl
theorem gg4_0 (G2 : Nat → Nat → Option Nat) : gj G2 4 0 = some 5 := rfl
theorem gg4_1 (G2 : Nat → Nat → Option Nat) : gj G2 4 1 = some 6 := rfl
theorem gg4_2 (G2 : Nat → Nat → Option Nat) : gj G2 4 2 = some 7 := rfl
theorem gg4_3 (G2 : Nat → Nat → Option Nat) : gj G2 4 3 = some 8 := rfl
theorem gg4_4 (G2 : Nat → Nat → Option Nat) : gj G2 4 4 = some 9 := rfl
theorem gg0_1 (G2 : Nat → Nat → Option Nat) : gj G2 0 1 = some 4 := rfl
theorem gg10_0 (G2 : Nat → Nat → Option Nat) : gj G2 10 0 = some 11 := rfl
theorem gg10_1 (G2 : Nat → Nat → Option Nat) : gj G2 10 1 = some 12 := rfl
theorem gg10_2 (G2 : Nat → Nat → Option Nat) : gj G2 10 2 = some 13 := rfl
theorem gg0_2 (G2 : Nat → Nat → Option Nat) : gj G2 0 2 = some 10 := rfl
theorem gg15_0 (G2 : Nat → Nat → Option Nat) : gj G2 15 0 = some 16 := rfl
theorem gg15_1 (G2 : Nat → Nat → Option Nat) : gj G2 15 1 = some 17 := rfl
theorem gg14_0 (G2 : Nat → Nat → Option Nat) : gj G2 14 0 = some 15 := rfl
theorem gg18_0 (G2 : Nat → Nat → Option Nat) : gj G2 18 0 = some 19 := rfl
theorem gg18_1 (G2 : Nat → Nat → Option Nat) : gj G2 18 1 = some 20 := rfl
theorem gg14_1 (G2 : Nat → Nat → Option Nat) : gj G2 14 1 = some 18 := rfl
theorem gg21_0 (G2 : Nat → Nat → Option Nat) : gj G2 21 0 = some 22 := rfl
theorem gg21_1 (G2 : Nat → Nat → Option Nat) : gj G2 21 1 = some 23 := rfl
theorem gg14_2 (G2 : Nat → Nat → Option Nat) : gj G2 14 2 = some 21 := rfl
theorem gg0_3 (G2 : Nat → Nat → Option Nat) : gj G2 0 3 = some 14 := rfl
theorem gg24_0 (G2 : Nat → Nat → Option Nat) : gj G2 24 0 = some 25 := rfl
theorem gg24_1 (G2 : Nat → Nat → Option Nat) : gj G2 24 1 = some 26 := rfl
theorem gg24_2 (G2 : Nat → Nat → Option Nat) : gj G2 24 2 = some 27 := rfl
theorem gg24_3 (G2 : Nat → Nat → Option Nat) : gj G2 24 3 = some 28 := rfl
theorem gg0_4 (G2 : Nat → Nat → Option Nat) : gj G2 0 4 = some 24 := rfl
theorem gg29_0 (G2 : Nat → Nat → Option Nat) : gj G2 29 0 = some 30 := rfl
theorem gg29_1 (G2 : Nat → Nat → Option Nat) : gj G2 29 1 = some 31 := rfl
theorem gg0_5 (G2 : Nat → Nat → Option Nat) : gj G2 0 5 = some 29 := rfl
theorem gg0_6 (G2 : Nat → Nat → Option Nat) : gj G2 0 6 = some 32 := rfl
theorem gg34_0 (G2 : Nat → Nat → Option Nat) : gj G2 34 0 = some 35 := rfl
theorem gg34_1 (G2 : Nat → Nat → Option Nat) : gj G2 34 1 = some 36 := rfl
theorem gg33_0 (G2 : Nat → Nat → Option Nat) : gj G2 33 0 = some 34 := rfl
theorem gg37_0 (G2 : Nat → Nat → Option Nat) : gj G2 37 0 = some 38 := rfl
theorem gg37_1 (G2 : Nat → Nat → Option Nat) : gj G2 37 1 = some 39 := rfl
theorem gg37_2 (G2 : Nat → Nat → Option Nat) : gj G2 37 2 = some 40 := rfl
theorem gg37_3 (G2 : Nat → Nat → Option Nat) : gj G2 37 3 = some 41 := rfl
theorem gg37_4 (G2 : Nat → Nat → Option Nat) : gj G2 37 4 = some 42 := rfl
theorem gg37_5 (G2 : Nat → Nat → Option Nat) : gj G2 37 5 = some 43 := rfl
theorem gg33_1 (G2 : Nat → Nat → Option Nat) : gj G2 33 1 = some 37 := rfl
theorem gg33_2 (G2 : Nat → Nat → Option Nat) : gj G2 33 2 = some 44 := rfl
theorem gg0_7 (G2 : Nat → Nat → Option Nat) : gj G2 0 7 = some 33 := rfl
theorem gg46_0 (G2 : Nat → Nat → Option Nat) : gj G2 46 0 = some 47 := rfl
theorem gg46_1 (G2 : Nat → Nat → Option Nat) : gj G2 46 1 = some 48 := rfl
theorem gg45_0 (G2 : Nat → Nat → Option Nat) : gj G2 45 0 = some 46 := rfl
theorem gg49_0 (G2 : Nat → Nat → Option Nat) : gj G2 49 0 = some 50 := rfl
theorem gg49_1 (G2 : Nat → Nat → Option Nat) : gj G2 49 1 = some 51 := rfl
theorem gg49_2 (G2 : Nat → Nat → Option Nat) : gj G2 49 2 = some 52 := rfl
theorem gg49_3 (G2 : Nat → Nat → Option Nat) : gj G2 49 3 = some 53 := rfl
theorem gg49_4 (G2 : Nat → Nat → Option Nat) : gj G2 49 4 = some 54 := rfl
theorem gg49_5 (G2 : Nat → Nat → Option Nat) : gj G2 49 5 = some 55 := rfl
theorem gg45_1 (G2 : Nat → Nat → Option Nat) : gj G2 45 1 = some 49 := rfl
theorem gg45_2 (G2 : Nat → Nat → Option Nat) : gj G2 45 2 = some 56 := rfl
theorem gg0_8 (G2 : Nat → Nat → Option Nat) : gj G2 0 8 = some 45 := rfl
theorem gm57_0 : gj gm 57 0 = some 58 := rfl
theorem gm57_2 : gj gm 57 2 = some 59 := rfl
theorem gm57_4 : gj gm 57 4 = some 60 := rfl
theorem gm57_5 : gj gm 57 5 = some 61 := rfl
theorem gm57_6 : gj gm 57 6 = some 62 := rfl
theorem gm57_8 : gj gm 57 8 = some 63 := rfl
theorem gm57_11 : gj gm 57 11 = some 64 := rfl
theorem gm57_12 : gj gm 57 12 = some 65 := rfl
theorem gm57_16 : gj gm 57 16 = some 66 := rfl
theorem gm57_17 : gj gm 57 17 = some 67 := rfl
theorem gm57_19 : gj gm 57 19 = some 68 := rfl
theorem gm57_21 : gj gm 57 21 = some 69 := rfl
theorem gm57_22 : gj gm 57 22 = some 70 := rfl
theorem gm57_24 : gj gm 57 24 = some 71 := rfl
theorem gm57_29 : gj gm 57 29 = some 72 := rfl
theorem gm57_30 : gj gm 57 30 = some 73 := rfl
theorem gm57_31 : gj gm 57 31 = some 74 := rfl
theorem gm57_32 : gj gm 57 32 = some 75 := rfl
theorem gm57_33 : gj gm 57 33 = some 76 := rfl
theorem gm57_34 : gj gm 57 34 = some 77 := rfl
theorem gm57_36 : gj gm 57 36 = some 78 := rfl
theorem gm57_37 : gj gm 57 37 = some 79 := rfl
theorem gm57_38 : gj gm 57 38 = some 80 := rfl
theorem gm57_40 : gj gm 57 40 = some 81 := rfl
theorem gm57_41 : gj gm 57 41 = some 82 := rfl
theorem gm57_42 : gj gm 57 42 = some 83 := rfl
theorem vp_lit {i : Int32} {n : Nat} (h1 : ¬ i < 0) (h2 : i.toNatClampNeg < n) : vp_in i n := fun h => h.elim h1 (fun q => Nat.not_le.mpr h2 q)
theorem w_lt (a b : Int32) : a.toInt64 < b.toInt64 ↔ a < b := by
  rw [Int64.lt_iff_toInt_lt, Int32.lt_iff_toInt_lt, Int32.toInt_toInt64, Int32.toInt_toInt64]
theorem in_lt {a b : Int32} {x y : Int64} (hx : a.toInt64 = x) (hy : b.toInt64 = y) : lg_cmp x y < 0 ↔ a < b := by rw [lg_cmp_lt, ← hx, ← hy, w_lt]
theorem in_gt {a b : Int32} {x y : Int64} (hx : a.toInt64 = x) (hy : b.toInt64 = y) : 0 < lg_cmp x y ↔ b < a := by rw [lg_cmp_gt, ← hx, ← hy, w_lt]
section TRI
variable {X : CX} {md : MD} {Q : State → Prop} {pc : Nat} {L : List (Nat × Value)} {S rest : List Value} {M : Mem} {G : Grf} {T : List (Nat × Nat)}
theorem wt_getI (C : Ok X md) {idx ci N j a : Nat} {fin : Bool} {ty : FieldType} (d : decode md.2.1 pc = .ok (.getfield idx, 3)) (f : FL md.1.cls idx ci N j fin ty) (hT : T[a]? = some (ci, N)) (hr : rfB ci j = false) (k : WW X Q (pc + 3) L (.int (M a j) :: S) (M, G, T)) : WW X Q pc L (.ref a :: S) (M, G, T) := ww_getI C d f hT hr k
theorem wt_getR (C : Ok X md) {idx ci N j a r : Nat} {fin : Bool} {ty : FieldType} (d : decode md.2.1 pc = .ok (.getfield idx, 3)) (f : FL md.1.cls idx ci N j fin ty) (hT : T[a]? = some (ci, N)) (hr : rfB ci j = true) (hg : G a j = some r) (k : WW X Q (pc + 3) L (.ref r :: S) (M, G, T)) : WW X Q pc L (.ref a :: S) (M, G, T) := ww_getR C d f hT hr hg k
theorem wt_putI (C : Ok X md) {idx ci N j a : Nat} {x : Int32} (d : decode md.2.1 pc = .ok (.putfield idx, 3)) (f : FL md.1.cls idx ci N j false .int) (hT : T[a]? = some (ci, N)) (hr : rfB ci j = false) (k : WW X Q (pc + 3) L S (wr M a j x, G, T)) : WW X Q pc L (.int x :: .ref a :: S) (M, G, T) := ww_putI C d f hT hr k
theorem wt_putZ (C : Ok X md) {idx ci N j a : Nat} {x : Int32} (d : decode md.2.1 pc = .ok (.putfield idx, 3)) (f : FL md.1.cls idx ci N j false .boolean) (hT : T[a]? = some (ci, N)) (hr : rfB ci j = false) (hx : x = 0 ∨ x = 1) (k : WW X Q (pc + 3) L S (wr M a j x, G, T)) : WW X Q pc L (.int x :: .ref a :: S) (M, G, T) := ww_putZ C d f hT hr hx k
theorem wt_putR (C : Ok X md) {idx ci N j a r : Nat} {ty : FieldType} (d : decode md.2.1 pc = .ok (.putfield idx, 3)) (f : FL md.1.cls idx ci N j false ty) (hn : ∀ q, narrow ty (.ref q) = .ref q ∧ fits ty (.ref q) = true) (hT : T[a]? = some (ci, N)) (hr : rfB ci j = true) (hlt : r < T.length) (k : WW X Q (pc + 3) L S (M, wrG G a j (some r), T)) : WW X Q pc L (.ref r :: .ref a :: S) (M, G, T) := ww_putR C d f hn hT hr hlt k
theorem wt_iald (C : Ok X md) {a n : Nat} {i : Int32} (d : decode md.2.1 pc = .ok (.iaload, 1)) (hT : T[a]? = some (20, n)) (hi : vp_in i n) (k : WW X Q (pc + 1) L (.int (M a i.toNatClampNeg) :: S) (M, G, T)) : WW X Q pc L (.int i :: .ref a :: S) (M, G, T) := ww_iald C d hT hi k
theorem wt_cald (C : Ok X md) {a n : Nat} {i : Int32} (d : decode md.2.1 pc = .ok (.caload, 1)) (hT : T[a]? = some (21, n)) (hi : vp_in i n) (k : WW X Q (pc + 1) L (.int (M a i.toNatClampNeg) :: S) (M, G, T)) : WW X Q pc L (.int i :: .ref a :: S) (M, G, T) := ww_cald C d hT hi k
theorem wt_iast (C : Ok X md) {a n : Nat} {i x : Int32} (d : decode md.2.1 pc = .ok (.iastore, 1)) (hT : T[a]? = some (20, n)) (hi : vp_in i n) (k : WW X Q (pc + 1) L S (wr M a i.toNatClampNeg x, G, T)) : WW X Q pc L (.int x :: .int i :: .ref a :: S) (M, G, T) := ww_iast C d hT hi k
theorem wt_cast (C : Ok X md) {a n : Nat} {i x : Int32} (d : decode md.2.1 pc = .ok (.castore, 1)) (hT : T[a]? = some (21, n)) (hi : vp_in i n) (k : WW X Q (pc + 1) L S (wr M a i.toNatClampNeg (vp_nar .char x), G, T)) : WW X Q pc L (.int x :: .int i :: .ref a :: S) (M, G, T) := ww_cast C d hT hi k
theorem wt_alen {tg : Nat} (C : Ok X md) {a n : Nat} {v : Int32} (d : decode md.2.1 pc = .ok (.arraylength, 1)) (hT : T[a]? = some (tg, n)) (ht : tg = 20 ∨ tg = 21) (hv : Int32.ofNat n = v) (k : WW X Q (pc + 1) L (.int v :: S) (M, G, T)) : WW X Q pc L (.ref a :: S) (M, G, T) := ww_alen C d hT ht hv k
theorem wt_aald (C : Ok X md) {a n r : Nat} {i : Int32} (d : decode md.2.1 pc = .ok (.aaload, 1)) (hT : T[a]? = some (22, n)) (hi : vp_in i n) (hg : G a i.toNatClampNeg = some r) (k : WW X Q (pc + 1) L (.ref r :: S) (M, G, T)) : WW X Q pc L (.int i :: .ref a :: S) (M, G, T) := ww_aald C d hT hi hg k
theorem wt_acopy (C : Ok X md) {idx a0 a1 n0 n1 : Nat} {sp dp n : Int32} (hl : Cond.methodLink md.1.cls idx arraycopyName ∈ GW) (hnat : Cond.native arraycopyName ∈ GW) (hst : Cond.static arraycopyName ∈ GW) (hini : Cond.initialized "java/lang/System" ∈ GW) (d : decode md.2.1 pc = .ok (.invokestatic idx, 3)) (h0 : T[a0]? = some (20, n0)) (h1 : T[a1]? = some (20, n1)) (c1 : ¬ sp < 0) (c2 : ¬ dp < 0) (c3 : ¬ n < 0) (c4 : sp.toNatClampNeg + n.toNatClampNeg ≤ n0) (c5 : dp.toNatClampNeg + n.toNatClampNeg ≤ n1) (hfr : 1 ≤ md.2.2.2.2.1) (hlo : (rest.map fun v => v.category).sum + (nativeFrameWords "java/lang/System" "arraycopy" 5 + 11) ≤ md.2.2.2.2.2)
    (k : WW X Q (pc + 3) L rest (wrA M a1 (va_cpy (M a0) (M a1) sp.toNatClampNeg dp.toNatClampNeg n.toNatClampNeg), G, T)) : WW X Q pc L (.int n :: .int dp :: .ref a1 :: .int sp :: .ref a0 :: rest) (M, G, T) := ww_acopy C hl hnat hst hini d h0 h1 c1 c2 c3 c4 c5 hfr hlo k
end TRI
end
section
def bt (x : Int32) (i : Nat) : Bool := x.toBitVec.getLsbD i
theorem b_ext {x y : Int32} (h : ∀ i, i < 32 → bt x i = bt y i) : x = y := Int32.toBitVec_inj.mp (BitVec.eq_of_getLsbD_eq (fun i hi => h i hi))
theorem b_or (x y : Int32) (i : Nat) : bt (x ||| y) i = (bt x i || bt y i) := by unfold bt; rw [Int32.toBitVec_or, BitVec.getLsbD_or]
theorem b_and (x y : Int32) (i : Nat) : bt (x &&& y) i = (bt x i && bt y i) := by unfold bt; rw [Int32.toBitVec_and, BitVec.getLsbD_and]
theorem b_xor (x y : Int32) (i : Nat) : bt (x ^^^ y) i = (bt x i ^^ bt y i) := by unfold bt; rw [Int32.toBitVec_xor, BitVec.getLsbD_xor]
theorem b_big {x : Int32} {i : Nat} (h : 32 ≤ i) : bt x i = false := BitVec.getLsbD_of_ge _ _ h
theorem b_255 (i : Nat) : bt 255 i = decide (i < 8) := by
  rcases Nat.lt_or_ge i 32 with h | h
  · exact (by decide +kernel : ∀ i, i < 32 → bt 255 i = decide (i < 8)) i h
  · rw [b_big h, decide_eq_false (by omega)]
theorem b_65535 (i : Nat) : bt 65535 i = decide (i < 16) := by
  rcases Nat.lt_or_ge i 32 with h | h
  · exact (by decide +kernel : ∀ i, i < 32 → bt 65535 i = decide (i < 16)) i h
  · rw [b_big h, decide_eq_false (by omega)]
theorem b_m1 : ∀ i, i < 32 → bt (-1) i = true := by decide +kernel
theorem b_0 (i : Nat) : bt 0 i = false := BitVec.getLsbD_zero
theorem s_l : ∀ n, n < 32 → ((nI n &&& 31).toBitVec.smod 32).toNat = n := by decide +kernel
theorem s_u : ∀ n, n < 32 → (((nI n).toUInt32 &&& Int32.toUInt32 31).toBitVec % 32).toNat = n := by decide +kernel
theorem b_shl (n : Nat) (hn : n < 32) (x : Int32) {i : Nat} (hi : i < 32) : bt (x <<< (nI n &&& 31)) i = (decide (n ≤ i) && bt x (i - n)) := by
  unfold bt
  rw [Int32.toBitVec_shiftLeft]
  show (x.toBitVec <<< ((nI n &&& 31).toBitVec.smod 32).toNat).getLsbD i = _
  rw [s_l n hn, BitVec.getLsbD_shiftLeft]
  rcases Nat.lt_or_ge i n with h | h
  · simp [h, Nat.not_le.mpr h]
  · simp [hi, h, Nat.not_lt.mpr h]
theorem b_ushr (n : Nat) (hn : n < 32) (x : Int32) (i : Nat) : bt ((x.toUInt32 >>> ((nI n).toUInt32 &&& Int32.toUInt32 31)).toInt32) i = bt x (n + i) := by
  show (x.toUInt32 >>> ((nI n).toUInt32 &&& Int32.toUInt32 31)).toBitVec.getLsbD i = x.toUInt32.toBitVec.getLsbD (n + i)
  rw [UInt32.toBitVec_shiftRight]
  show (x.toUInt32.toBitVec >>> (((nI n).toUInt32 &&& Int32.toUInt32 31).toBitVec % 32).toNat).getLsbD i = _
  rw [s_u n hn, BitVec.getLsbD_ushiftRight]
theorem b_sshr (n : Nat) (hn : n < 32) (x : Int32) {i : Nat} (hi : i < 32) : bt (x >>> (nI n &&& 31)) i = if n + i < 32 then bt x (n + i) else bt x 31 := by
  unfold bt
  rw [Int32.toBitVec_shiftRight]
  show (x.toBitVec.sshiftRight ((nI n &&& 31).toBitVec.smod 32).toNat).getLsbD i = _
  rw [s_l n hn, BitVec.getLsbD_sshiftRight, BitVec.msb_eq_getLsbD_last]
  simp [hi]
theorem b_shl8 (x : Int32) {i : Nat} (hi : i < 32) : bt (x <<< ((8 : Int32) &&& 31)) i = (decide (8 ≤ i) && bt x (i - 8)) := b_shl 8 (by omega) x hi
theorem b_shl16 (x : Int32) {i : Nat} (hi : i < 32) : bt (x <<< ((16 : Int32) &&& 31)) i = (decide (16 ≤ i) && bt x (i - 16)) := b_shl 16 (by omega) x hi
theorem b_shl24 (x : Int32) {i : Nat} (hi : i < 32) : bt (x <<< ((24 : Int32) &&& 31)) i = (decide (24 ≤ i) && bt x (i - 24)) := b_shl 24 (by omega) x hi
theorem b_sshr8 (x : Int32) {i : Nat} (hi : i < 32) : bt (x >>> ((8 : Int32) &&& 31)) i = if 8 + i < 32 then bt x (8 + i) else bt x 31 := b_sshr 8 (by omega) x hi
/-! ===== nI under and, xor, >>>, one bit, 65535 ===== -/
theorem fb_rng (x : Int32) : -2147483648 ≤ x.toInt ∧ x.toInt < 2147483648 := by
  have h1 := Int32.le_toInt x
  have h2 := Int32.toInt_lt x
  omega
theorem fb_bmod {z : Int} (h1 : -2147483648 ≤ z) (h2 : z < 2147483648) : z.bmod (2 ^ 32) = z := by
  rw [Int.bmod_eq_of_le (by omega) (by omega)]
theorem fb_addI {x y : Int32} (h1 : -2147483648 ≤ x.toInt + y.toInt) (h2 : x.toInt + y.toInt < 2147483648) : (x + y).toInt = x.toInt + y.toInt := by
  rw [Int32.toInt_add, fb_bmod h1 h2]
theorem fb_subI {x y : Int32} (h1 : -2147483648 ≤ x.toInt - y.toInt) (h2 : x.toInt - y.toInt < 2147483648) : (x - y).toInt = x.toInt - y.toInt := by
  rw [Int32.toInt_sub, fb_bmod h1 h2]
theorem fb_mulI {x y : Int32} (h1 : -2147483648 ≤ x.toInt * y.toInt) (h2 : x.toInt * y.toInt < 2147483648) : (x * y).toInt = x.toInt * y.toInt := by
  rw [Int32.toInt_mul, fb_bmod h1 h2]
theorem fb_negI {x : Int32} (h : x.toInt ≠ -2147483648) : (-x).toInt = -x.toInt := by
  have := fb_rng x
  rw [Int32.toInt_neg, fb_bmod (by omega) (by omega)]
theorem fa_lt (a b : Int32) : a < b ↔ a.toInt < b.toInt := Int32.lt_iff_toInt_lt
theorem fa_le (a b : Int32) : a ≤ b ↔ a.toInt ≤ b.toInt := Int32.le_iff_toInt_le
theorem fa_eq (a b : Int32) : a = b ↔ a.toInt = b.toInt := Int32.toInt_inj.symm
/-! small numbers -/
theorem nlt {a b : Nat} (ha : a < 1000000) (hb : b < 1000000) : nI a < nI b ↔ a < b := nI_ltI (by omega) (by omega)
theorem nle {a b : Nat} (ha : a < 1000000) (hb : b < 1000000) : nI a ≤ nI b ↔ a ≤ b := nI_leI (by omega) (by omega)
theorem neq {a b : Nat} (ha : a < 1000000) (hb : b < 1000000) : nI a = nI b ↔ a = b := nI_eq (by omega) (by omega)
theorem ncl {a : Nat} (ha : a < 1000000) : (nI a).toNatClampNeg = a := nI_clamp (by omega)
theorem nti {a : Nat} (ha : a < 1000000) : (nI a).toInt = (a : Int) := nI_toInt (by omega)
theorem nn0 {a : Nat} (ha : a < 1000000) : ¬ nI a < 0 := nI_pos (by omega)
theorem nin {a n : Nat} (h : a < n) (hn : n < 1000000) : vp_in (nI a) n := vp_in_nI h (by omega)
/-- an index that the class or the reference has found to be within -/
theorem ix_of {x : Int32} {n : Nat} (hn : n < 1000000) (h0 : ¬ x < 0) (h : ¬ nI n ≤ x) : ∃ i, i < n ∧ x = nI i := by
  rcases pk_ix x (n := n) (by omega) with q | q | ⟨j, hj, e⟩
  · exact absurd q h0
  · exact absurd q h
  · exact ⟨j, hj, e⟩
theorem ix_of' {x : Int32} {n : Nat} (hn : n < 1000000) (h0 : ¬ x < 0) (h : ¬ nI n - 1 < x) : ∃ i, i < n ∧ x = nI i := by
  refine ix_of hn h0 (fun q => h ?_)
  rw [fa_lt]
  rw [fa_le, nti hn] at q
  have h1 : (1 : Int32).toInt = 1 := by decide
  rw [fb_subI (by rw [nti hn, h1]; omega) (by rw [nti hn, h1]; omega), nti hn, h1]
  omega
/-! the first, and the best -/
def fstP (P : Nat → Bool) : Nat → Option Nat
  | 0 => none
  | n + 1 => match fstP P n with
    | some p => some p
    | none => if P n then some n else none
theorem fstP_spec (P : Nat → Bool) : ∀ n, (fstP P n = none ∧ ∀ q, q < n → P q = false) ∨ ∃ p, fstP P n = some p ∧ p < n ∧ P p = true ∧ ∀ q, q < p → P q = false
  | 0 => Or.inl ⟨rfl, fun q h => absurd h (Nat.not_lt_zero q)⟩
  | n + 1 => by
    rcases fstP_spec P n with ⟨h, h2⟩ | ⟨p, h, h1, h2, h3⟩
    · by_cases hp : P n = true
      · exact Or.inr ⟨n, by simp [fstP, h, hp], by omega, hp, h2⟩
      · refine Or.inl ⟨by simp [fstP, h, hp], fun q hq => ?_⟩
        rcases Nat.lt_or_ge q n with g | g
        · exact h2 q g
        · rw [show q = n by omega]; simpa using hp
    · exact Or.inr ⟨p, by simp [fstP, h], by omega, h2, h3⟩
theorem fstP_eq {P : Nat → Bool} {n p : Nat} (h1 : p < n) (h2 : P p = true) (h3 : ∀ q, q < p → P q = false) : fstP P n = some p := by
  rcases fstP_spec P n with ⟨-, h⟩ | ⟨p', h, a, b, c⟩
  · rw [h p h1] at h2; cases h2
  · rcases Nat.lt_trichotomy p p' with g | g | g
    · rw [c p g] at h2; cases h2
    · rw [g]; exact h
    · rw [h3 p' g] at b; cases b
theorem fstP_no {P : Nat → Bool} {n : Nat} (h : ∀ q, q < n → P q = false) : fstP P n = none := by
  rcases fstP_spec P n with ⟨h, -⟩ | ⟨p', -, a, b, -⟩
  · exact h
  · rw [h p' a] at b; cases b
theorem fstP_cong {P R : Nat → Bool} : ∀ {n : Nat}, (∀ q, q < n → P q = R q) → fstP P n = fstP R n
  | 0, _ => rfl
  | n + 1, h => by simp only [fstP, fstP_cong (fun q hq => h q (Nat.lt_succ_of_lt hq)), h n (Nat.lt_succ_self n)]
def bestP (W : Nat → Bool) (h : Nat → Int32) : Nat → Option Nat
  | 0 => none
  | n + 1 => match bestP W h n with
    | none => if W n then some n else none
    | some j => if W n && decide (h n < h j) then some n else some j
def IsBest (W : Nat → Bool) (h : Nat → Int32) (n j : Nat) : Prop := j < n ∧ W j = true ∧ (∀ k, k < n → W k = true → h j ≤ h k) ∧ ∀ k, k < j → W k = true → h j < h k
theorem i_nlt {a b : Int32} : ¬ a < b ↔ b ≤ a := by rw [fa_lt, fa_le]; omega
theorem i_nle {a b : Int32} : ¬ a ≤ b ↔ b < a := by rw [fa_lt, fa_le]; omega
theorem i_lt_le {a b : Int32} (h : a < b) : a ≤ b := by rw [fa_lt] at h; rw [fa_le]; omega
theorem i_lt_trans {a b c : Int32} (h : a < b) (h2 : b ≤ c) : a < c := by rw [fa_lt] at *; rw [fa_le] at h2; omega
theorem i_le_lt {a b c : Int32} (h : a ≤ b) (h2 : b < c) : a < c := by rw [fa_lt] at *; rw [fa_le] at h; omega
theorem i_le_trans {a b c : Int32} (h : a ≤ b) (h2 : b ≤ c) : a ≤ c := by rw [fa_le] at *; omega
theorem i_le_rfl (a : Int32) : a ≤ a := by rw [fa_le]; omega
theorem i_lt_irr (a : Int32) : ¬ a < a := by rw [fa_lt]; omega
theorem bestP_spec (W : Nat → Bool) (h : Nat → Int32) : ∀ n, (bestP W h n = none ∧ ∀ q, q < n → W q = false) ∨ ∃ j, bestP W h n = some j ∧ IsBest W h n j
  | 0 => Or.inl ⟨rfl, fun q h => absurd h (Nat.not_lt_zero q)⟩
  | n + 1 => by
    rcases bestP_spec W h n with ⟨e, h2⟩ | ⟨j, e, h1, h2, h3, h4⟩
    · by_cases hp : W n = true
      · refine Or.inr ⟨n, by simp [bestP, e, hp], by omega, hp, fun k hk hw => ?_, fun k hk hw => ?_⟩
        · rcases Nat.lt_or_ge k n with g | g
          · rw [h2 k g] at hw; cases hw
          · rw [show k = n by omega]; exact i_le_rfl _
        · rw [h2 k hk] at hw; cases hw
      · refine Or.inl ⟨by simp [bestP, e, hp], fun q hq => ?_⟩
        rcases Nat.lt_or_ge q n with g | g
        · exact h2 q g
        · rw [show q = n by omega]; simpa using hp
    · by_cases hp : W n = true ∧ h n < h j
      · refine Or.inr ⟨n, by simp [bestP, e, hp.1, hp.2], by omega, hp.1, fun k hk hw => ?_, fun k hk hw => ?_⟩
        · rcases Nat.lt_or_ge k n with g | g
          · exact i_lt_le (i_lt_trans hp.2 (h3 k g hw))
          · rw [show k = n by omega]; exact i_le_rfl _
        · exact i_lt_trans hp.2 (h3 k hk hw)
      · refine Or.inr ⟨j, ?_, by omega, h2, fun k hk hw => ?_, h4⟩
        · simp only [bestP, e]
          rw [if_neg]
          intro q
          simp only [Bool.and_eq_true, decide_eq_true_eq] at q
          exact hp q
        · rcases Nat.lt_or_ge k n with g | g
          · exact h3 k g hw
          · have ek : k = n := by omega
            subst ek
            exact i_nlt.mp (fun q => hp ⟨hw, q⟩)
theorem IsBest.one {W : Nat → Bool} {h : Nat → Int32} {n i j : Nat} (a : IsBest W h n i) (b : IsBest W h n j) : i = j := by
  obtain ⟨a1, a2, a3, a4⟩ := a
  obtain ⟨b1, b2, b3, b4⟩ := b
  rcases Nat.lt_trichotomy i j with g | g | g
  · exact absurd (i_lt_trans (b4 i g a2) (a3 j b1 b2)) (i_lt_irr _)
  · exact g
  · exact absurd (i_lt_trans (a4 j g b2) (b3 i a1 a2)) (i_lt_irr _)
theorem bestP_eq {W : Nat → Bool} {h : Nat → Int32} {n j : Nat} (hb : IsBest W h n j) : bestP W h n = some j := by
  rcases bestP_spec W h n with ⟨-, q⟩ | ⟨i, e, b⟩
  · have := q j hb.1; rw [hb.2.1] at this; cases this
  · rw [e, b.one hb]
theorem bestP_no {W : Nat → Bool} {h : Nat → Int32} {n : Nat} (hb : ∀ q, q < n → W q = false) : bestP W h n = none := by
  rcases bestP_spec W h n with ⟨e, -⟩ | ⟨i, -, b⟩
  · exact e
  · have := hb i b.1; rw [b.2.1] at this; cases this
theorem bestP_cong {W W' : Nat → Bool} {h h' : Nat → Int32} : ∀ {n : Nat}, (∀ q, q < n → W q = W' q) → (∀ q, q < n → h q = h' q) → bestP W h n = bestP W' h' n
  | 0, _, _ => rfl
  | n + 1, a, b => by
    have ih := bestP_cong (fun q hq => a q (Nat.lt_succ_of_lt hq)) (fun q hq => b q (Nat.lt_succ_of_lt hq)) (n := n)
    simp only [bestP, ih, a n (Nat.lt_succ_self n)]
    rcases bestP_spec W' h' n with ⟨e, -⟩ | ⟨i, e, q⟩
    · rw [e]
    · rw [e]
      simp only [b n (Nat.lt_succ_self n), b i (Nat.lt_succ_of_lt q.1)]
/-! sets of guests as bits -/
def bO (n : Nat) (p : Nat → Bool) : Int32 := match n with
  | 0 => 0
  | k + 1 => if p k then bO k p ||| ((1 : Int32) <<< (nI k &&& 31)) else bO k p
theorem bt_1 (i : Nat) : bt 1 i = decide (i = 0) := by
  rcases Nat.lt_or_ge i 32 with h | h
  · exact (by decide +kernel : ∀ i, i < 32 → bt 1 i = decide (i = 0)) i h
  · rw [b_big h, decide_eq_false (by omega)]
theorem bt_sh {k i : Nat} (hk : k < 32) (hi : i < 32) : bt ((1 : Int32) <<< (nI k &&& 31)) i = decide (i = k) := by
  rw [b_shl k hk 1 hi, bt_1]
  by_cases h : i = k
  · subst h; simp
  · by_cases h2 : k ≤ i
    · have : i - k ≠ 0 := by omega
      simp [h, h2, this]
    · simp [h, h2]
theorem bt_bO : ∀ {n : Nat} {p : Nat → Bool} {i : Nat}, n ≤ 32 → i < 32 → bt (bO n p) i = (decide (i < n) && p i)
  | 0, p, i, _, hi => by
    show bt 0 i = _
    rw [b_0]; simp
  | n + 1, p, i, hn, hi => by
    have ih := bt_bO (n := n) (p := p) (i := i) (by omega) hi
    unfold bO
    by_cases hp : p n = true
    · rw [if_pos hp, b_or, ih, bt_sh (by omega) hi]
      by_cases e : i = n
      · subst e; simp [hp]
      · have : (i < n + 1) ↔ (i < n) := by omega
        simp [e, this]
    · rw [if_neg hp, ih]
      by_cases e : i = n
      · subst e; simp at hp; simp [hp]
      · have : (i < n + 1) ↔ (i < n) := by omega
        simp [this]
theorem bO_cong {n : Nat} {p q : Nat → Bool} (h : ∀ i, i < n → p i = q i) : bO n p = bO n q := by
  induction n with
  | zero => rfl
  | succ n ih =>
    unfold bO
    rw [ih (fun i hi => h i (by omega)), h n (by omega)]
/-- one bit, as both programs ask for it -/
theorem bit_1 (x : Int32) {i : Nat} (hi : i < 32) : ((x >>> (nI i &&& 31)) &&& 1) = 1 ↔ bt x i = true := by
  have h0 : ∀ j, j < 32 → bt ((x >>> (nI i &&& 31)) &&& 1) j = (decide (j = 0) && bt x i) := by
    intro j hj
    rw [b_and, bt_1, b_sshr i hi x hj]
    by_cases e : j = 0
    · subst e; simp [hi]
    · simp [e]
  constructor
  · intro h
    have := h0 0 (by omega)
    rw [h, bt_1] at this
    simpa using this.symm
  · intro h
    apply b_ext
    intro j hj
    rw [h0 j hj, h, bt_1]
    simp
theorem bO_and {n : Nat} {p q : Nat → Bool} (hn : n ≤ 31) : bO n p &&& (bO n q ^^^ -1) = bO n (fun i => p i && !q i) := by
  apply b_ext
  intro j hj
  rw [b_and, b_xor, b_m1 j hj, bt_bO (by omega) hj, bt_bO (by omega) hj, bt_bO (by omega) hj]
  by_cases h : j < n <;> simp [h]
theorem bO_andx {n : Nat} {p : Nat → Bool} {x : Int32} (hn : n ≤ 31) : x &&& bO n p = bO n (fun i => bt x i && p i) := by
  apply b_ext
  intro j hj
  rw [b_and, bt_bO (by omega) hj, bt_bO (by omega) hj]
  by_cases h : j < n <;> simp [h]
theorem bO_add {n k : Nat} {p : Nat → Bool} (hn : n ≤ 31) (hk : k < n) : bO n p ||| ((1 : Int32) <<< (nI k &&& 31)) = bO n (fun i => p i || decide (i = k)) := by
  apply b_ext
  intro j hj
  rw [b_or, bt_bO (by omega) hj, bt_bO (by omega) hj, bt_sh (by omega) hj]
  by_cases h : j = k
  · subst h; simp [hk]
  · simp [h]
theorem bO_del {n k : Nat} {p : Nat → Bool} (hn : n ≤ 31) (hk : k < n) : bO n p &&& (((1 : Int32) <<< (nI k &&& 31)) ^^^ -1) = bO n (fun i => p i && !decide (i = k)) := by
  apply b_ext
  intro j hj
  rw [b_and, b_xor, b_m1 j hj, bt_bO (by omega) hj, bt_bO (by omega) hj, bt_sh (by omega) hj]
  simp [Bool.and_assoc]
theorem bO_inj {n : Nat} {p q : Nat → Bool} (hn : n ≤ 31) : bO n p = bO n q ↔ ∀ i, i < n → p i = q i := by
  constructor
  · intro h i hi
    have h1 := bt_bO (n := n) (p := p) (i := i) (by omega) (by omega)
    have h2 := bt_bO (n := n) (p := q) (i := i) (by omega) (by omega)
    rw [h, h2] at h1
    simpa [hi] using h1.symm
  · exact bO_cong
theorem bO_zero {n : Nat} {p : Nat → Bool} (hn : n ≤ 31) : bO n p = 0 ↔ ∀ i, i < n → p i = false := by
  have h0 : bO n (fun _ => false) = 0 := by
    apply b_ext
    intro j hj
    rw [bt_bO (by omega) hj, b_0]; simp
  rw [← h0, bO_inj hn]
theorem bO_all : ∀ n, n ≤ 7 → ((1 : Int32) <<< (nI n &&& 31)) - 1 = bO n (fun _ => true) := by decide +kernel
def cnt (p : Nat → Bool) : Nat → Nat
  | 0 => 0
  | n + 1 => cnt p n + (if p n then 1 else 0)
theorem cnt_le (p : Nat → Bool) : ∀ n, cnt p n ≤ n
  | 0 => Nat.le_refl 0
  | n + 1 => by have := cnt_le p n; unfold cnt; split <;> omega
theorem cnt_cong {p q : Nat → Bool} : ∀ {n : Nat}, (∀ i, i < n → p i = q i) → cnt p n = cnt q n
  | 0, _ => rfl
  | n + 1, h => by unfold cnt; rw [cnt_cong (fun i hi => h i (Nat.lt_succ_of_lt hi)), h n (Nat.lt_succ_self n)]
end
section
/-! what the inn is, as numbers: V 0 inches, 1 nights of coming, 2 kinds, 3 friends, 4 worn, 5 the row, 6 lengths, 7 feasts, 8 the rival's; V 9: guests, beds, rival's beds, law, turning, year, open beds -/
def nrm (n : Nat) (f : Nat → Int32) : Nat → Int32 := fun i => if i < n then f i else 0
theorem nrm_in {n : Nat} {f : Nat → Int32} {i : Nat} (h : i < n) : nrm n f i = f i := if_pos h
theorem nrm_cong {n : Nat} {f g : Nat → Int32} (h : ∀ i, i < n → f i = g i) : nrm n f = nrm n g := by
  funext i
  unfold nrm
  split
  · exact h i (by assumption)
  · rfl
theorem nrm_upd {n : Nat} {f : Nat → Int32} {k : Nat} {v : Int32} (h : k < n) : nrm n (upd f k v) = upd (nrm n f) k v := by
  funext i
  unfold nrm upd
  by_cases e : i = k
  · subst e; simp [h]
  · simp [e]
def ngV (V : Mem) : Nat := (V 9 0).toNatClampNeg
def nbV (V : Mem) : Nat := (V 9 1).toNatClampNeg
def nrV (V : Mem) : Nat := (V 9 2).toNatClampNeg
def opV (V : Mem) : Nat := (V 9 6).toNatClampNeg
def rgI (x : Int32) (a b : Int) : Prop := a ≤ x.toInt ∧ x.toInt ≤ b
def VOK (V : Mem) : Prop :=
  (V 9 0 = nI (ngV V) ∧ 1 ≤ ngV V ∧ ngV V ≤ 7) ∧ (V 9 1 = nI (nbV V) ∧ 1 ≤ nbV V ∧ nbV V ≤ 4) ∧ (V 9 6 = nI (opV V) ∧ opV V ≤ nbV V) ∧ (V 9 2 = nI (nrV V) ∧ nrV V ≤ 4) ∧
  (∀ i, i < ngV V → rgI (V 0 i) 40 99 ∧ rgI (V 1 i) 0 18 ∧ rgI (V 2 i) 0 4 ∧ rgI (V 4 i) (-9) 9 ∧ ∃ k, k < ngV V ∧ V 5 i = nI k) ∧
  (∀ i j, i < ngV V → j < ngV V → V 5 i = V 5 j → i = j) ∧
  (∀ b, b < nbV V → rgI (V 6 b) 40 99) ∧ (∀ n, n < 30 → rgI (V 7 n) 0 36) ∧ (∀ k, k < nrV V → rgI (V 8 k) 40 99) ∧
  (V 9 3 = 0 ∨ V 9 3 = 1 ∨ V 9 3 = 2) ∧ (V 9 4 = 0 ∨ V 9 4 = 1) ∧ (V 9 5 = -1 ∨ (rgI (V 9 5) 0 9999 ∧ V 9 4 = 0))
/-! harm -/
def hK (k o : Int32) : Int32 :=
  if k = 1 ∧ 0 < o then (if 6 < o then o - 6 else 0)
  else if k = 2 ∧ o < 0 then 2 * (-o)
  else if k = 3 then (if 2 < (if o < 0 then -o else o) then (if o < 0 then -o else o) - 2 else 0)
  else (if o < 0 then -o else o)
def drw (y n b : Int32) : Int32 :=
  let q : Int64 := 7919 * y.toInt64 + 6151 * n.toInt64 + 101 * b.toInt64 + 1
  let r : Int64 := q * q - q * q / 65521 * 65521
  (r - r / 7 * 7).toInt32
def lyS (V : Mem) (b n : Nat) : Nat := if V 9 4 = 1 ∧ n % 2 = 1 then (if b + 1 = nbV V then 0 else b + 1) else b
def lenS (V : Mem) (b n : Nat) : Int32 := if V 9 5 = -1 then V 6 (lyS V b n) + V 7 n else V 6 (lyS V b n) + V 7 n + (drw (V 9 5) (nI n) (nI b) - 3)
def grS (V : Mem) (i n : Nat) : Int32 := if V 2 i = 4 ∧ V 1 i < nI n then nI n - V 1 i else 0
def hS (V : Mem) (i b n : Nat) : Int32 := hK (V 2 i) (V 0 i + V 4 i + grS V i n - lenS V b n)
/-! nights: σ 0 the night on which he lies (-4: not yet), 1 the bed, 2 harm (50), 3 who named him, 4 how often called; beside it the deepest place looked at -/
def wtS (V σ : Mem) (n i : Nat) : Bool := decide (σ 0 i < 0) && decide (V 1 i ≤ nI n)
def rwN (V : Mem) (p : Nat) : Nat := (V 5 p).toNatClampNeg
def clS (V σ : Mem) (n : Nat) : Option Nat := fstP (fun p => wtS V σ n (rwN V p)) (ngV V)
def mayS (V σ : Mem) (n c j : Nat) : Bool := decide (j ≠ c) && wtS V σ n j && (decide (V 9 3 = 2) || (decide (V 9 3 = 1) && bt (V 3 c) j))
def nmS (V σ : Mem) (b n c : Nat) : Option Nat := bestP (mayS V σ n c) (fun j => hS V j b n) (ngV V)
def whoS (V σ : Mem) (b n c : Nat) : Nat × Int32 := match nmS V σ b n c with
  | some j => if hS V j b n < hS V c b n then (j, nI c) else (c, -4)
  | none => (c, -4)
def lieS (V σ : Mem) (i b n : Nat) (nam : Int32) : Mem := wr (wr (wr (wr σ 0 i (nI n)) 1 i (nI b)) 2 i (hS V i b n)) 3 i nam
def giveS (V : Mem) (s : Mem × Nat) (b n : Nat) : Mem × Nat := match clS V s.1 n with
  | none => s
  | some p => (lieS V (wr s.1 4 (rwN V p) (s.1 4 (rwN V p) + 1)) (whoS V s.1 b n (rwN V p)).1 b n (whoS V s.1 b n (rwN V p)).2, max s.2 p)
def bedS (V : Mem) (n : Nat) : Nat → Mem × Nat → Mem × Nat
  | 0, s => s
  | b + 1, s => giveS V (bedS V n b s) b n
def sg0 : Mem := fun k _ => match k with
  | 0 => -4
  | 2 => 50
  | _ => 0
def simN (V : Mem) : Nat → Mem × Nat
  | 0 => (sg0, 0)
  | n + 1 => bedS V n (opV V) (simN V n)
def sumI (f : Nat → Int32) : Nat → Int32
  | 0 => 0
  | n + 1 => sumI f n + f n
def allS (V : Mem) : Int32 := sumI ((simN V 30).1 2) (ngV V)
theorem sumI_cong {f g : Nat → Int32} : ∀ {n : Nat}, (∀ i, i < n → f i = g i) → sumI f n = sumI g n
  | 0, _ => rfl
  | n + 1, h => by unfold sumI; rw [sumI_cong (fun i hi => h i (Nat.lt_succ_of_lt hi)), h n (Nat.lt_succ_self n)]
theorem sumI_out {f : Nat → Int32} {k : Nat} {v : Int32} : ∀ {n : Nat}, n ≤ k → sumI (upd f k v) n = sumI f n := fun h => sumI_cong (fun i hi => by unfold upd; rw [if_neg (by omega)])
theorem sumI_upd {f : Nat → Int32} {k : Nat} {v : Int32} : ∀ {n : Nat}, k < n → sumI (upd f k v) n = sumI f n - f k + v
  | 0, h => absurd h (Nat.not_lt_zero k)
  | n + 1, h => by
    unfold sumI
    by_cases e : k = n
    · subst e
      rw [sumI_out (Nat.le_refl k)]
      have : upd f k v k = v := by simp [upd]
      rw [this]
      grind
    · rw [sumI_upd (show k < n by omega)]
      have : upd f k v n = f n := by unfold upd; rw [if_neg (by omega)]
      rw [this]
      grind
theorem sumI_rg {f : Nat → Int32} {c : Int} (hc : 0 ≤ c) (hc2 : c ≤ 1000) : ∀ {n : Nat}, n ≤ 7 → (∀ i, i < n → rgI (f i) 0 c) → rgI (sumI f n) 0 (n * c)
  | 0, _, _ => by constructor <;> simp [sumI]
  | n + 1, hn, h => by
    have ih := sumI_rg hc hc2 (n := n) (by omega) (fun i hi => h i (by omega))
    have h1 := h n (by omega)
    unfold sumI
    unfold rgI at *
    have e : ((n + 1 : Nat) : Int) * c = n * c + c := by rw [Int.natCast_add, Int.add_mul]; simp
    have b : (n : Int) * c ≤ 7 * 1000 := Int.mul_le_mul (by omega) hc2 hc (by omega)
    rw [e, fb_addI (by omega) (by omega)]
    omega
/-- the sum of those that lie -/
def lsum (σ : Mem) (n : Nat) : Int32 := sumI (fun i => if 0 ≤ σ 0 i then σ 2 i else 0) n
def lies (σ : Mem) (i : Nat) : Bool := decide (0 ≤ σ 0 i)
theorem total_eq {σ : Mem} : ∀ {n : Nat}, (∀ i, i < n → ¬ 0 ≤ σ 0 i → σ 2 i = 50) → lsum σ n + 50 * (nI n - nI (cnt (lies σ) n)) = sumI (σ 2) n
  | 0, _ => by unfold lsum sumI cnt; decide
  | n + 1, h => by
    have ih := total_eq (σ := σ) (n := n) (fun i hi => h i (by omega))
    unfold lsum at *
    unfold sumI cnt
    rw [← ih]
    by_cases e : 0 ≤ σ 0 n
    · have : lies σ n = true := by simp [lies, e]
      rw [if_pos e, this, if_pos rfl, ← nI_1, ← nI_1]
      grind
    · have : lies σ n = false := by simp [lies, e]
      rw [if_neg e, this, if_neg (by simp), h n (by omega) e, Nat.add_zero, ← nI_1]
      grind
end
