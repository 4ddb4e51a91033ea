/-! words of the JDK string methods -/
theorem fJ0_length_8abf5 : MFV mJ0_length_8abf5 0 := ⟨⟨wqG16 (i := 12) rfl rfl, wqG2 (i := 11) rfl rfl, ⟨by decide, by decide⟩, by decide +kernel⟩, wqG16 (i := 10) rfl rfl, wqG16 (i := 11) rfl rfl⟩
theorem fjRJ0_9 : Cond.fieldLink RJ0 9 RJ0 "value" "[B" ∈ GW := wqG60 (i := 5) rfl rfl
theorem mlRJ0_335 : Cond.methodLink RJ0 335 yJ0_coder_7d493 ∈ GW := wqG16 (i := 13) rfl rfl
theorem fJ0_coder_7d493 : MFV mJ0_coder_7d493 0 := ⟨⟨wqG16 (i := 16) rfl rfl, wqG2 (i := 11) rfl rfl, ⟨by decide, by decide⟩, by decide +kernel⟩, wqG16 (i := 14) rfl rfl, wqG16 (i := 15) rfl rfl⟩
theorem fjRJ0_38 : Cond.fieldLink RJ0 38 RJ0 "COMPACT_STRINGS" "Z" ∈ GW := wqG16 (i := 17) rfl rfl
theorem fjRJ0_15 : Cond.fieldLink RJ0 15 RJ0 "coder" "B" ∈ GW := wqG60 (i := 6) rfl rfl
theorem fJ0_charAt_5068e : MFV mJ0_charAt_5068e 1 := ⟨⟨wqG17 (i := 2) rfl rfl, wqG2 (i := 11) rfl rfl, ⟨by decide, by decide⟩, by decide +kernel⟩, wqG17 (i := 0) rfl rfl, wqG17 (i := 1) rfl rfl⟩
theorem mlRJ0_492 : Cond.methodLink RJ0 492 yJ0_isLatin1_aae02 ∈ GW := wqG17 (i := 3) rfl rfl
theorem mlRJ0_495 : Cond.methodLink RJ0 495 yJ1_charAt_3b067 ∈ GW := wqG17 (i := 7) rfl rfl
theorem mlRJ0_498 : Cond.methodLink RJ0 498 yJ2_charAt_3b067 ∈ GW := wqG17 (i := 18) rfl rfl
theorem fJ0_isLatin1_aae02 : MFV mJ0_isLatin1_aae02 0 := ⟨⟨wqG17 (i := 6) rfl rfl, wqG2 (i := 11) rfl rfl, ⟨by decide, by decide⟩, by decide +kernel⟩, wqG17 (i := 4) rfl rfl, wqG17 (i := 5) rfl rfl⟩
theorem fJ1_charAt_3b067 : MFS mJ1_charAt_3b067 2 := ⟨⟨wqG17 (i := 9) rfl rfl, wqG2 (i := 12) rfl rfl, ⟨by decide, by decide⟩, by decide +kernel⟩, wqG17 (i := 8) rfl rfl⟩
theorem mlRJ1_9 : Cond.methodLink RJ1 9 yJ0_checkIndex_df160 ∈ GW := wqG17 (i := 10) rfl rfl
theorem fJ0_checkIndex_df160 : MFS mJ0_checkIndex_df160 2 := ⟨⟨wqG17 (i := 12) rfl rfl, wqG2 (i := 11) rfl rfl, ⟨by decide, by decide⟩, by decide +kernel⟩, wqG17 (i := 11) rfl rfl⟩
theorem fjRJ0_1053 : Cond.fieldLink RJ0 1053 RJ3 "SIOOBE_FORMATTER" "Ljava/util/function/BiFunction;" ∈ GW := wqG17 (i := 13) rfl rfl
theorem mlRJ0_1059 : Cond.methodLink RJ0 1059 yJ3_checkIndex_8e157 ∈ GW := wqG17 (i := 15) rfl rfl
theorem fJ3_checkIndex_8e157 : MFS mJ3_checkIndex_8e157 3 := ⟨⟨wqG17 (i := 17) rfl rfl, wqG2 (i := 13) rfl rfl, ⟨by decide, by decide⟩, by decide +kernel⟩, wqG17 (i := 16) rfl rfl⟩
theorem sr_67 : Cond.stringRef RX9 65 "b60;b72;g66,0,0;g60,0,0;g75,0,0;h0,1;h0,2;" ∈ lw_tbl := wqM16 _ (List.mem_of_getElem? (i := 8) rfl)
theorem ls_COMPACT_STRINGS : Cond.laysStatic RJ0 "COMPACT_STRINGS" "Z" ∈ lw_tbl := wqM16 _ (List.mem_of_getElem? (i := 18) rfl)
theorem ls_SIOOBE_FORMATTER : Cond.laysStatic RJ3 "SIOOBE_FORMATTER" "Ljava/util/function/BiFunction;" ∈ lw_tbl := wqM17 _ (List.mem_of_getElem? (i := 14) rfl)
theorem ls__assertionsDisabled : Cond.laysStatic RJ2 "$assertionsDisabled" "Z" ∈ lw_tbl := wqM18 _ (List.mem_of_getElem? (i := 12) rfl)
theorem ls_HI_BYTE_SHIFT : Cond.laysStatic RJ2 "HI_BYTE_SHIFT" "I" ∈ lw_tbl := wqM18 _ (List.mem_of_getElem? (i := 14) rfl)
theorem ls_LO_BYTE_SHIFT : Cond.laysStatic RJ2 "LO_BYTE_SHIFT" "I" ∈ lw_tbl := wqM18 _ (List.mem_of_getElem? (i := 16) rfl)
def byF : List Int32 := [98, 54, 48, 59, 98, 55, 50, 59, 103, 54, 54, 44, 48, 44, 48, 59, 103, 54, 48, 44, 48, 44, 48, 59, 103, 55, 53, 44, 48, 44, 48, 59, 104, 48, 44, 49, 59, 104, 48, 44, 50, 59]
