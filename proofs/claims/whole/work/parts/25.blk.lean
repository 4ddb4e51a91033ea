set_option maxHeartbeats 4000000 in
set_option maxRecDepth 20000 in
theorem bX10_note_0 {X : CX} {Q : State → Prop} {M : Mem} (C : Ok0 X mX10_note (TTc ++ TTm))
    (h : ((¬ (M 57 35) = (8 : Int32) → WW X Q 51 [(0, .ref 57), (1, .int (0 : Int32))] [] (M, (gj gm), TTc ++ TTm)) ∧ ((M 57 35) = (8 : Int32) → WW X Q 11 [(0, .ref 57), (1, .int (0 : Int32))] [] (M, (gj gm), TTc ++ TTm)))) :
    WW X Q 0 [(0, .ref 57)] [] (M, (gj gm), TTc ++ TTm) := by
  refine ww_aload_n C.1 dX10_note_0 0 rfl rfl ?_
  refine wt_getI C.1 dX10_note_1 flRX10_170 tm57 rfl ?_
  refine ww_bipush C.1 (v := (8 : Int32)) dX10_note_4 (by decide) ?_
  refine ww_icmp_ne (x := (M 57 35)) (y := (8 : Int32)) C.1 (tgt := 49) dX10_note_6 (by decide) (fun hh => ?_) (fun hh => ?_)
  · replace h := h.1 hh
    refine ww_iconst C.1 (v := (0 : Int32)) dX10_note_49 (by decide) ?_
    refine ww_istore_n C.1 dX10_note_50 rfl (by decide) [1, 0] (L' := [(0, .ref 57), (1, .int (0 : Int32))]) rfl ?_
    exact h
  · replace h := h.2 hh
    refine ww_iconst C.1 (v := (0 : Int32)) dX10_note_9 (by decide) ?_
    refine ww_istore_n C.1 dX10_note_10 rfl (by decide) [1, 0] (L' := [(0, .ref 57), (1, .int (0 : Int32))]) rfl ?_
    exact h
set_option maxHeartbeats 4000000 in
set_option maxRecDepth 20000 in
theorem bX10_note_11 {X : CX} {Q : State → Prop} {M : Mem} {x1 : Int32} (C : Ok0 X mX10_note (TTc ++ TTm))
    (h : (((147 : Int32) ≤ x1 → WW X Q 51 [(0, .ref 57), (1, .int (0 : Int32))] [] ((wr M 57 35 ((M 57 35) - (1 : Int32))), (gj gm), TTc ++ TTm)) ∧ (¬ (147 : Int32) ≤ x1 → (vp_in (x1 + (21 : Int32)) 168 ∧ (vp_in x1 168 ∧ WW X Q 11 [(0, .ref 57), (1, .int (x1 + (1 : Int32)))] [] ((wr M 77 x1.toNatClampNeg (M 77 (x1 + (21 : Int32)).toNatClampNeg)), (gj gm), TTc ++ TTm)))))) :
    WW X Q 11 [(0, .ref 57), (1, .int x1)] [] (M, (gj gm), TTc ++ TTm) := by
  refine ww_iload_n C.1 dX10_note_11 1 rfl rfl ?_
  refine ww_sipush C.1 (v := (147 : Int32)) dX10_note_12 (by decide) ?_
  refine ww_icmp_ge (x := x1) (y := (147 : Int32)) C.1 (tgt := 39) dX10_note_15 (by decide) (fun hh => ?_) (fun hh => ?_)
  · replace h := h.1 hh
    refine ww_aload_n C.1 dX10_note_39 0 rfl rfl ?_
    refine ww_dup C.1 dX10_note_40 rfl ?_
    refine wt_getI C.1 dX10_note_41 flRX10_170 tm57 rfl ?_
    refine ww_iconst C.1 (v := (1 : Int32)) dX10_note_44 (by decide) ?_
    refine ww_isub C.1 dX10_note_45 ?_
    refine wt_putI C.1 dX10_note_46 flRX10_170 tm57 rfl ?_
    refine ww_iconst C.1 (v := (0 : Int32)) dX10_note_49 (by decide) ?_
    refine ww_istore_n C.1 dX10_note_50 rfl (by decide) [1, 0] (L' := [(0, .ref 57), (1, .int (0 : Int32))]) rfl ?_
    exact h
  · replace h := h.2 hh
    refine ww_aload_n C.1 dX10_note_18 0 rfl rfl ?_
    refine wt_getR C.1 dX10_note_19 flRX10_80 tm57 rfl gm57_34 ?_
    refine ww_iload_n C.1 dX10_note_22 1 rfl rfl ?_
    refine ww_aload_n C.1 dX10_note_23 0 rfl rfl ?_
    refine wt_getR C.1 dX10_note_24 flRX10_80 tm57 rfl gm57_34 ?_
    refine ww_iload_n C.1 dX10_note_27 1 rfl rfl ?_
    refine ww_bipush C.1 (v := (21 : Int32)) dX10_note_28 (by decide) ?_
    refine ww_iadd C.1 dX10_note_30 ?_
    refine wt_iald C.1 dX10_note_31 tm77 h.1 ?_
    replace h := h.2
    refine wt_iast C.1 dX10_note_32 tm77 h.1 ?_
    replace h := h.2
    refine ww_iinc C.1 (v := (x1 + (1 : Int32))) dX10_note_33 1 rfl (by rfl) (by decide) [1, 0] (L' := [(0, .ref 57), (1, .int (x1 + (1 : Int32)))]) rfl ?_
    refine ww_goto C.1 (tgt := 11) dX10_note_36 (by decide) ?_
    exact h
set_option maxHeartbeats 4000000 in
set_option maxRecDepth 20000 in
theorem bX10_note_51 {X : CX} {Q : State → Prop} {M : Mem} {x1 : Int32} (C : Ok0 X mX10_note (TTc ++ TTm))
    (h : (((21 : Int32) ≤ x1 → RetOK X Q (none) ((wr M 57 35 ((M 57 35) + (1 : Int32))), (gj gm), TTc ++ TTm)) ∧ (¬ (21 : Int32) ≤ x1 → (vp_in x1 21 ∧ (vp_in (((21 : Int32) * (M 57 35)) + x1) 168 ∧ WW X Q 51 [(0, .ref 57), (1, .int (x1 + (1 : Int32)))] [] ((wr M 77 (((21 : Int32) * (M 57 35)) + x1).toNatClampNeg (M 64 x1.toNatClampNeg)), (gj gm), TTc ++ TTm)))))) :
    WW X Q 51 [(0, .ref 57), (1, .int x1)] [] (M, (gj gm), TTc ++ TTm) := by
  refine ww_iload_n C.1 dX10_note_51 1 rfl rfl ?_
  refine ww_bipush C.1 (v := (21 : Int32)) dX10_note_52 (by decide) ?_
  refine ww_icmp_ge (x := x1) (y := (21 : Int32)) C.1 (tgt := 83) dX10_note_54 (by decide) (fun hh => ?_) (fun hh => ?_)
  · replace h := h.1 hh
    refine ww_aload_n C.1 dX10_note_83 0 rfl rfl ?_
    refine ww_dup C.1 dX10_note_84 rfl ?_
    refine wt_getI C.1 dX10_note_85 flRX10_170 tm57 rfl ?_
    refine ww_iconst C.1 (v := (1 : Int32)) dX10_note_88 (by decide) ?_
    refine ww_iadd C.1 dX10_note_89 ?_
    refine wt_putI C.1 dX10_note_90 flRX10_170 tm57 rfl ?_
    refine ww_vret C.1 dX10_note_93 rfl ?_
    exact h
  · replace h := h.2 hh
    refine ww_aload_n C.1 dX10_note_57 0 rfl rfl ?_
    refine wt_getR C.1 dX10_note_58 flRX10_80 tm57 rfl gm57_34 ?_
    refine ww_bipush C.1 (v := (21 : Int32)) dX10_note_61 (by decide) ?_
    refine ww_aload_n C.1 dX10_note_63 0 rfl rfl ?_
    refine wt_getI C.1 dX10_note_64 flRX10_170 tm57 rfl ?_
    refine ww_imul C.1 dX10_note_67 ?_
    refine ww_iload_n C.1 dX10_note_68 1 rfl rfl ?_
    refine ww_iadd C.1 dX10_note_69 ?_
    refine ww_aload_n C.1 dX10_note_70 0 rfl rfl ?_
    refine wt_getR C.1 dX10_note_71 flRX10_38 tm57 rfl gm57_11 ?_
    refine ww_iload_n C.1 dX10_note_74 1 rfl rfl ?_
    refine wt_iald C.1 dX10_note_75 tm64 h.1 ?_
    replace h := h.2
    refine wt_iast C.1 dX10_note_76 tm77 h.1 ?_
    replace h := h.2
    refine ww_iinc C.1 (v := (x1 + (1 : Int32))) dX10_note_77 1 rfl (by rfl) (by decide) [1, 0] (L' := [(0, .ref 57), (1, .int (x1 + (1 : Int32)))]) rfl ?_
    refine ww_goto C.1 (tgt := 51) dX10_note_80 (by decide) ?_
    exact h
set_option maxHeartbeats 4000000 in
set_option maxRecDepth 20000 in
theorem bX10_move_0 {X : CX} {Q : State → Prop} {M : Mem} {x1 x2 : Int32} (C : Ok0 X mX10_move (TTc ++ TTm))
    (h : ((x1 < (0 : Int32) → RetOK X Q (some (.int (-1 : Int32))) (M, (gj gm), TTc ++ TTm)) ∧ (¬ x1 < (0 : Int32) → ((((M 57 7) - (1 : Int32)) < x1 → RetOK X Q (some (.int (-1 : Int32))) (M, (gj gm), TTc ++ TTm)) ∧ (¬ ((M 57 7) - (1 : Int32)) < x1 → ((x2 < (0 : Int32) → RetOK X Q (some (.int (-1 : Int32))) (M, (gj gm), TTc ++ TTm)) ∧ (¬ x2 < (0 : Int32) → ((((M 57 7) - (1 : Int32)) < x2 → RetOK X Q (some (.int (-1 : Int32))) (M, (gj gm), TTc ++ TTm)) ∧ (¬ ((M 57 7) - (1 : Int32)) < x2 → WpV mX10_note [.ref 57] M (gj gm) (TTc ++ TTm) (fun M' => WW X Q 30 [(0, .ref 57), (1, .int x1), (2, .int x2)] [] (M', (gj gm), TTc ++ TTm))))))))))) :
    WW X Q 0 [(0, .ref 57), (1, .int x1), (2, .int x2)] [] (M, (gj gm), TTc ++ TTm) := by
  refine ww_aload_n C.1 dX10_move_0 0 rfl rfl ?_
  refine ww_iload_n C.1 dX10_move_1 1 rfl rfl ?_
  refine ww_vI C fX10_isGuest (And.intro (by decide) (by decide)) mlRX10_209 dX10_move_2 tm57 (by decide) rfl (As := [.int x1]) (rest := []) rfl rfl rfl (Nat.le_of_ble_eq_true rfl) (WpI.of (L0 := [(0, .ref 57), (1, .int x1)]) rfl rfl (Nat.le_of_ble_eq_true rfl) fun X1 Q1 C1 k1 => ?_)
  refine ww_iload_n C1.1 dX10_isGuest_0 1 rfl rfl ?_
  refine ww_i2l C1.1 dX10_isGuest_1 rfl ?_
  refine ww_lconst C1.1 (v := 0) dX10_isGuest_2 (by decide) ?_
  refine ww_aload_n C1.1 dX10_isGuest_3 0 rfl rfl ?_
  refine wt_getI C1.1 dX10_isGuest_4 flRX10_29 tm57 rfl ?_
  refine ww_iconst C1.1 (v := (1 : Int32)) dX10_isGuest_7 (by decide) ?_
  refine ww_isub C1.1 dX10_isGuest_8 ?_
  refine ww_i2l C1.1 dX10_isGuest_9 rfl ?_
  refine ww_sI C1 fX10_in (And.intro (by decide) (by decide)) mlRX10_101 dX10_isGuest_10 (As := [.long x1.toInt64, .long (0 : Int64), .long ((M 57 7) - (1 : Int32)).toInt64]) (rest := []) rfl rfl rfl (Nat.le_of_ble_eq_true rfl) (WpI.of (L0 := [(0, .long x1.toInt64), (2, .long (0 : Int64)), (4, .long ((M 57 7) - (1 : Int32)).toInt64)]) rfl rfl (Nat.le_of_ble_eq_true rfl) fun X2 Q2 C2 k2 => ?_)
  refine ww_lload_n C2.1 dX10_in_0 0 rfl rfl ?_
  refine ww_lload_n C2.1 dX10_in_1 1 rfl rfl ?_
  refine ww_lcmp C2.1 dX10_in_2 ?_
  refine ww_if_lt (x := (lg_cmp x1.toInt64 (0 : Int64))) C2.1 (tgt := 17) dX10_in_3 (by decide) (fun hh => ?_) (fun hh => ?_)
  · replace h := h.1 ((in_lt (a := x1) (b := (0 : Int32)) (by first | rfl | decide) (by first | rfl | decide)).mp hh)
    refine ww_iconst C2.1 (v := (0 : Int32)) dX10_in_17 (by decide) ?_
    refine ww_zret C2.1 dX10_in_18 rfl (Or.inl rfl) ?_
    refine k2 _ _ ?_
    refine ww_zret C1.1 dX10_isGuest_13 rfl (Or.inl rfl) ?_
    refine k1 _ _ ?_
    refine ww_if_eq (x := (0 : Int32)) C.1 (tgt := 24) dX10_move_5 (by decide) (fun _ => ?_) (fun hh => absurd hh (by decide))
    refine ww_iconst C.1 (v := (-1 : Int32)) dX10_move_24 (by decide) ?_
    refine ww_iret C.1 dX10_move_25 rfl ?_
    exact h
  · replace h := h.2 (fun z => hh ((in_lt (a := x1) (b := (0 : Int32)) (by first | rfl | decide) (by first | rfl | decide)).mpr z))
    refine ww_lload_n C2.1 dX10_in_6 0 rfl rfl ?_
    refine ww_lload C2.1 dX10_in_7 2 rfl ?_
    refine ww_lcmp C2.1 dX10_in_9 ?_
    refine ww_if_gt (x := (lg_cmp x1.toInt64 ((M 57 7) - (1 : Int32)).toInt64)) C2.1 (tgt := 17) dX10_in_10 (by decide) (fun hh => ?_) (fun hh => ?_)
    · replace h := h.1 ((in_gt (a := x1) (b := ((M 57 7) - (1 : Int32))) (by first | rfl | decide) (by first | rfl | decide)).mp hh)
      refine ww_iconst C2.1 (v := (0 : Int32)) dX10_in_17 (by decide) ?_
      refine ww_zret C2.1 dX10_in_18 rfl (Or.inl rfl) ?_
      refine k2 _ _ ?_
      refine ww_zret C1.1 dX10_isGuest_13 rfl (Or.inl rfl) ?_
      refine k1 _ _ ?_
      refine ww_if_eq (x := (0 : Int32)) C.1 (tgt := 24) dX10_move_5 (by decide) (fun _ => ?_) (fun hh => absurd hh (by decide))
      refine ww_iconst C.1 (v := (-1 : Int32)) dX10_move_24 (by decide) ?_
      refine ww_iret C.1 dX10_move_25 rfl ?_
      exact h
    · replace h := h.2 (fun z => hh ((in_gt (a := x1) (b := ((M 57 7) - (1 : Int32))) (by first | rfl | decide) (by first | rfl | decide)).mpr z))
      refine ww_iconst C2.1 (v := (1 : Int32)) dX10_in_13 (by decide) ?_
      refine ww_goto C2.1 (tgt := 18) dX10_in_14 (by decide) ?_
      refine ww_zret C2.1 dX10_in_18 rfl (Or.inr rfl) ?_
      refine k2 _ _ ?_
      refine ww_zret C1.1 dX10_isGuest_13 rfl (Or.inr rfl) ?_
      refine k1 _ _ ?_
      refine ww_if_eq (x := (1 : Int32)) C.1 (tgt := 24) dX10_move_5 (by decide) (fun hh => absurd hh (by decide)) (fun _ => ?_)
      refine ww_iload_n C.1 dX10_move_8 2 rfl rfl ?_
      refine ww_i2l C.1 dX10_move_9 rfl ?_
      refine ww_lconst C.1 (v := 0) dX10_move_10 (by decide) ?_
      refine ww_aload_n C.1 dX10_move_11 0 rfl rfl ?_
      refine wt_getI C.1 dX10_move_12 flRX10_29 tm57 rfl ?_
      refine ww_iconst C.1 (v := (1 : Int32)) dX10_move_15 (by decide) ?_
      refine ww_isub C.1 dX10_move_16 ?_
      refine ww_i2l C.1 dX10_move_17 rfl ?_
      refine ww_sI C fX10_in (And.intro (by decide) (by decide)) mlRX10_101 dX10_move_18 (As := [.long x2.toInt64, .long (0 : Int64), .long ((M 57 7) - (1 : Int32)).toInt64]) (rest := []) rfl rfl rfl (Nat.le_of_ble_eq_true rfl) (WpI.of (L0 := [(0, .long x2.toInt64), (2, .long (0 : Int64)), (4, .long ((M 57 7) - (1 : Int32)).toInt64)]) rfl rfl (Nat.le_of_ble_eq_true rfl) fun X3 Q3 C3 k3 => ?_)
      refine ww_lload_n C3.1 dX10_in_0 0 rfl rfl ?_
      refine ww_lload_n C3.1 dX10_in_1 1 rfl rfl ?_
      refine ww_lcmp C3.1 dX10_in_2 ?_
      refine ww_if_lt (x := (lg_cmp x2.toInt64 (0 : Int64))) C3.1 (tgt := 17) dX10_in_3 (by decide) (fun hh => ?_) (fun hh => ?_)
      · replace h := h.1 ((in_lt (a := x2) (b := (0 : Int32)) (by first | rfl | decide) (by first | rfl | decide)).mp hh)
        refine ww_iconst C3.1 (v := (0 : Int32)) dX10_in_17 (by decide) ?_
        refine ww_zret C3.1 dX10_in_18 rfl (Or.inl rfl) ?_
        refine k3 _ _ ?_
        refine ww_if_ne (x := (0 : Int32)) C.1 (tgt := 26) dX10_move_21 (by decide) (fun hh => absurd hh (by decide)) (fun _ => ?_)
        refine ww_iconst C.1 (v := (-1 : Int32)) dX10_move_24 (by decide) ?_
        refine ww_iret C.1 dX10_move_25 rfl ?_
        exact h
      · replace h := h.2 (fun z => hh ((in_lt (a := x2) (b := (0 : Int32)) (by first | rfl | decide) (by first | rfl | decide)).mpr z))
        refine ww_lload_n C3.1 dX10_in_6 0 rfl rfl ?_
        refine ww_lload C3.1 dX10_in_7 2 rfl ?_
        refine ww_lcmp C3.1 dX10_in_9 ?_
        refine ww_if_gt (x := (lg_cmp x2.toInt64 ((M 57 7) - (1 : Int32)).toInt64)) C3.1 (tgt := 17) dX10_in_10 (by decide) (fun hh => ?_) (fun hh => ?_)
        · replace h := h.1 ((in_gt (a := x2) (b := ((M 57 7) - (1 : Int32))) (by first | rfl | decide) (by first | rfl | decide)).mp hh)
          refine ww_iconst C3.1 (v := (0 : Int32)) dX10_in_17 (by decide) ?_
          refine ww_zret C3.1 dX10_in_18 rfl (Or.inl rfl) ?_
          refine k3 _ _ ?_
          refine ww_if_ne (x := (0 : Int32)) C.1 (tgt := 26) dX10_move_21 (by decide) (fun hh => absurd hh (by decide)) (fun _ => ?_)
          refine ww_iconst C.1 (v := (-1 : Int32)) dX10_move_24 (by decide) ?_
          refine ww_iret C.1 dX10_move_25 rfl ?_
          exact h
        · replace h := h.2 (fun z => hh ((in_gt (a := x2) (b := ((M 57 7) - (1 : Int32))) (by first | rfl | decide) (by first | rfl | decide)).mpr z))
          refine ww_iconst C3.1 (v := (1 : Int32)) dX10_in_13 (by decide) ?_
          refine ww_goto C3.1 (tgt := 18) dX10_in_14 (by decide) ?_
          refine ww_zret C3.1 dX10_in_18 rfl (Or.inr rfl) ?_
          refine k3 _ _ ?_
          refine ww_if_ne (x := (1 : Int32)) C.1 (tgt := 26) dX10_move_21 (by decide) (fun _ => ?_) (fun hh => absurd hh (by decide))
          refine ww_aload_n C.1 dX10_move_26 0 rfl rfl ?_
          refine ww_vV C fX10_note (And.intro (by decide) (by decide)) mlRX10_243 dX10_move_27 tm57 (by decide) rfl (As := []) (rest := []) rfl rfl rfl (Nat.le_of_ble_eq_true rfl) ?_
          exact h
set_option maxHeartbeats 4000000 in
set_option maxRecDepth 20000 in
theorem bX10_move_39 {X : CX} {Q : State → Prop} {M : Mem} {x1 x2 x3 x4 : Int32} (C : Ok0 X mX10_move (TTc ++ TTm))
    (h : ((x2 ≤ x4 → WW X Q 70 [(0, .ref 57), (1, .int x1), (2, .int x2), (3, .int x3), (4, .int x3)] [] (M, (gj gm), TTc ++ TTm)) ∧ (¬ x2 ≤ x4 → (vp_in (x4 + (1 : Int32)) 21 ∧ (vp_in x4 21 ∧ WW X Q 39 [(0, .ref 57), (1, .int x1), (2, .int x2), (3, .int x3), (4, .int (x4 + (1 : Int32)))] [] ((wr M 64 x4.toNatClampNeg (M 64 (x4 + (1 : Int32)).toNatClampNeg)), (gj gm), TTc ++ TTm)))))) :
    WW X Q 39 [(0, .ref 57), (1, .int x1), (2, .int x2), (3, .int x3), (4, .int x4)] [] (M, (gj gm), TTc ++ TTm) := by
  refine ww_iload C.1 dX10_move_39 4 rfl ?_
  refine ww_iload_n C.1 dX10_move_41 2 rfl rfl ?_
  refine ww_icmp_ge (x := x4) (y := x2) C.1 (tgt := 67) dX10_move_42 (by decide) (fun hh => ?_) (fun hh => ?_)
  · replace h := h.1 hh
    refine ww_iload_n C.1 dX10_move_67 3 rfl rfl ?_
    refine ww_istore C.1 dX10_move_68 (by decide) [1, 2, 3, 4, 0] (L' := [(0, .ref 57), (1, .int x1), (2, .int x2), (3, .int x3), (4, .int x3)]) rfl ?_
    exact h
  · replace h := h.2 hh
    refine ww_aload_n C.1 dX10_move_45 0 rfl rfl ?_
    refine wt_getR C.1 dX10_move_46 flRX10_38 tm57 rfl gm57_11 ?_
    refine ww_iload C.1 dX10_move_49 4 rfl ?_
    refine ww_aload_n C.1 dX10_move_51 0 rfl rfl ?_
    refine wt_getR C.1 dX10_move_52 flRX10_38 tm57 rfl gm57_11 ?_
    refine ww_iload C.1 dX10_move_55 4 rfl ?_
    refine ww_iconst C.1 (v := (1 : Int32)) dX10_move_57 (by decide) ?_
    refine ww_iadd C.1 dX10_move_58 ?_
    refine wt_iald C.1 dX10_move_59 tm64 h.1 ?_
    replace h := h.2
    refine wt_iast C.1 dX10_move_60 tm64 h.1 ?_
    replace h := h.2
    refine ww_iinc C.1 (v := (x4 + (1 : Int32))) dX10_move_61 4 rfl (by rfl) (by decide) [1, 2, 3, 4, 0] (L' := [(0, .ref 57), (1, .int x1), (2, .int x2), (3, .int x3), (4, .int (x4 + (1 : Int32)))]) rfl ?_
    refine ww_goto C.1 (tgt := 39) dX10_move_64 (by decide) ?_
    exact h
set_option maxHeartbeats 4000000 in
set_option maxRecDepth 20000 in
theorem bX10_move_70 {X : CX} {Q : State → Prop} {M : Mem} {x1 x2 x3 x4 : Int32} (C : Ok0 X mX10_move (TTc ++ TTm))
    (h : ((x4 ≤ x2 → (vp_in x2 21 ∧ RetOK X Q (some (.int x3)) ((wr M 64 x2.toNatClampNeg x1), (gj gm), TTc ++ TTm))) ∧ (¬ x4 ≤ x2 → (vp_in (x4 - (1 : Int32)) 21 ∧ (vp_in x4 21 ∧ WW X Q 70 [(0, .ref 57), (1, .int x1), (2, .int x2), (3, .int x3), (4, .int (x4 + (-1 : Int32)))] [] ((wr M 64 x4.toNatClampNeg (M 64 (x4 - (1 : Int32)).toNatClampNeg)), (gj gm), TTc ++ TTm)))))) :
    WW X Q 70 [(0, .ref 57), (1, .int x1), (2, .int x2), (3, .int x3), (4, .int x4)] [] (M, (gj gm), TTc ++ TTm) := by
  refine ww_iload C.1 dX10_move_70 4 rfl ?_
  refine ww_iload_n C.1 dX10_move_72 2 rfl rfl ?_
  refine ww_icmp_le (x := x4) (y := x2) C.1 (tgt := 98) dX10_move_73 (by decide) (fun hh => ?_) (fun hh => ?_)
  · replace h := h.1 hh
    refine ww_aload_n C.1 dX10_move_98 0 rfl rfl ?_
    refine wt_getR C.1 dX10_move_99 flRX10_38 tm57 rfl gm57_11 ?_
    refine ww_iload_n C.1 dX10_move_102 2 rfl rfl ?_
    refine ww_iload_n C.1 dX10_move_103 1 rfl rfl ?_
    refine wt_iast C.1 dX10_move_104 tm64 h.1 ?_
    replace h := h.2
    refine ww_iload_n C.1 dX10_move_105 3 rfl rfl ?_
    refine ww_iret C.1 dX10_move_106 rfl ?_
    exact h
  · replace h := h.2 hh
    refine ww_aload_n C.1 dX10_move_76 0 rfl rfl ?_
    refine wt_getR C.1 dX10_move_77 flRX10_38 tm57 rfl gm57_11 ?_
    refine ww_iload C.1 dX10_move_80 4 rfl ?_
    refine ww_aload_n C.1 dX10_move_82 0 rfl rfl ?_
    refine wt_getR C.1 dX10_move_83 flRX10_38 tm57 rfl gm57_11 ?_
    refine ww_iload C.1 dX10_move_86 4 rfl ?_
    refine ww_iconst C.1 (v := (1 : Int32)) dX10_move_88 (by decide) ?_
    refine ww_isub C.1 dX10_move_89 ?_
    refine wt_iald C.1 dX10_move_90 tm64 h.1 ?_
    replace h := h.2
    refine wt_iast C.1 dX10_move_91 tm64 h.1 ?_
    replace h := h.2
    refine ww_iinc C.1 (v := (x4 + (-1 : Int32))) dX10_move_92 4 rfl (by rfl) (by decide) [1, 2, 3, 4, 0] (L' := [(0, .ref 57), (1, .int x1), (2, .int x2), (3, .int x3), (4, .int (x4 + (-1 : Int32)))]) rfl ?_
    refine ww_goto C.1 (tgt := 70) dX10_move_95 (by decide) ?_
    exact h
set_option maxHeartbeats 4000000 in
set_option maxRecDepth 20000 in
theorem bX10_move_30 {X : CX} {Q : State → Prop} {M : Mem} {x1 x2 : Int32} (C : Ok0 X mX10_move (TTc ++ TTm))
    (h : WpI mX10_placeOf [.ref 57, .int x1] M (gj gm) (TTc ++ TTm) (fun r M' => WW X Q 35 [(0, .ref 57), (1, .int x1), (2, .int x2)] [.int r] (M', (gj gm), TTc ++ TTm))) :
    WW X Q 30 [(0, .ref 57), (1, .int x1), (2, .int x2)] [] (M, (gj gm), TTc ++ TTm) := by
  refine ww_aload_n C.1 dX10_move_30 0 rfl rfl ?_
  refine ww_iload_n C.1 dX10_move_31 1 rfl rfl ?_
  refine ww_vI C fX10_placeOf (And.intro (by decide) (by decide)) mlRX10_216 dX10_move_32 tm57 (by decide) rfl (As := [.int x1]) (rest := []) rfl rfl rfl (Nat.le_of_ble_eq_true rfl) ?_
  exact h
set_option maxHeartbeats 4000000 in
set_option maxRecDepth 20000 in
theorem bX10_move_35 {X : CX} {Q : State → Prop} {M : Mem} {x1 x2 s0 : Int32} (C : Ok0 X mX10_move (TTc ++ TTm))
    (h : WW X Q 39 [(0, .ref 57), (1, .int x1), (2, .int x2), (3, .int s0), (4, .int s0)] [] (M, (gj gm), TTc ++ TTm)) :
    WW X Q 35 [(0, .ref 57), (1, .int x1), (2, .int x2)] [.int s0] (M, (gj gm), TTc ++ TTm) := by
  refine ww_istore_n C.1 dX10_move_35 rfl (by decide) [1, 2, 3, 0] (L' := [(0, .ref 57), (1, .int x1), (2, .int x2), (3, .int s0)]) rfl ?_
  refine ww_iload_n C.1 dX10_move_36 3 rfl rfl ?_
  refine ww_istore C.1 dX10_move_37 (by decide) [1, 2, 3, 4, 0] (L' := [(0, .ref 57), (1, .int x1), (2, .int x2), (3, .int s0), (4, .int s0)]) rfl ?_
  exact h
set_option maxHeartbeats 4000000 in
set_option maxRecDepth 20000 in
theorem bX10_wear_0 {X : CX} {Q : State → Prop} {M : Mem} {x1 x2 : Int32} (C : Ok0 X mX10_wear (TTc ++ TTm))
    (h : ((x1 < (0 : Int32) → RetOK X Q (some (.int (-1 : Int32))) (M, (gj gm), TTc ++ TTm)) ∧ (¬ x1 < (0 : Int32) → ((((M 57 7) - (1 : Int32)) < x1 → RetOK X Q (some (.int (-1 : Int32))) (M, (gj gm), TTc ++ TTm)) ∧ (¬ ((M 57 7) - (1 : Int32)) < x1 → ((x2 < (-9 : Int32) → RetOK X Q (some (.int (-1 : Int32))) (M, (gj gm), TTc ++ TTm)) ∧ (¬ x2 < (-9 : Int32) → (((9 : Int32) < x2 → RetOK X Q (some (.int (-1 : Int32))) (M, (gj gm), TTc ++ TTm)) ∧ (¬ (9 : Int32) < x2 → WpV mX10_note [.ref 57] M (gj gm) (TTc ++ TTm) (fun M' => WW X Q 28 [(0, .ref 57), (1, .int x1), (2, .int x2)] [] (M', (gj gm), TTc ++ TTm))))))))))) :
    WW X Q 0 [(0, .ref 57), (1, .int x1), (2, .int x2)] [] (M, (gj gm), TTc ++ TTm) := by
  refine ww_aload_n C.1 dX10_wear_0 0 rfl rfl ?_
  refine ww_iload_n C.1 dX10_wear_1 1 rfl rfl ?_
  refine ww_vI C fX10_isGuest (And.intro (by decide) (by decide)) mlRX10_209 dX10_wear_2 tm57 (by decide) rfl (As := [.int x1]) (rest := []) rfl rfl rfl (Nat.le_of_ble_eq_true rfl) (WpI.of (L0 := [(0, .ref 57), (1, .int x1)]) rfl rfl (Nat.le_of_ble_eq_true rfl) fun X1 Q1 C1 k1 => ?_)
  refine ww_iload_n C1.1 dX10_isGuest_0 1 rfl rfl ?_
  refine ww_i2l C1.1 dX10_isGuest_1 rfl ?_
  refine ww_lconst C1.1 (v := 0) dX10_isGuest_2 (by decide) ?_
  refine ww_aload_n C1.1 dX10_isGuest_3 0 rfl rfl ?_
  refine wt_getI C1.1 dX10_isGuest_4 flRX10_29 tm57 rfl ?_
  refine ww_iconst C1.1 (v := (1 : Int32)) dX10_isGuest_7 (by decide) ?_
  refine ww_isub C1.1 dX10_isGuest_8 ?_
  refine ww_i2l C1.1 dX10_isGuest_9 rfl ?_
  refine ww_sI C1 fX10_in (And.intro (by decide) (by decide)) mlRX10_101 dX10_isGuest_10 (As := [.long x1.toInt64, .long (0 : Int64), .long ((M 57 7) - (1 : Int32)).toInt64]) (rest := []) rfl rfl rfl (Nat.le_of_ble_eq_true rfl) (WpI.of (L0 := [(0, .long x1.toInt64), (2, .long (0 : Int64)), (4, .long ((M 57 7) - (1 : Int32)).toInt64)]) rfl rfl (Nat.le_of_ble_eq_true rfl) fun X2 Q2 C2 k2 => ?_)
  refine ww_lload_n C2.1 dX10_in_0 0 rfl rfl ?_
  refine ww_lload_n C2.1 dX10_in_1 1 rfl rfl ?_
  refine ww_lcmp C2.1 dX10_in_2 ?_
  refine ww_if_lt (x := (lg_cmp x1.toInt64 (0 : Int64))) C2.1 (tgt := 17) dX10_in_3 (by decide) (fun hh => ?_) (fun hh => ?_)
  · replace h := h.1 ((in_lt (a := x1) (b := (0 : Int32)) (by first | rfl | decide) (by first | rfl | decide)).mp hh)
    refine ww_iconst C2.1 (v := (0 : Int32)) dX10_in_17 (by decide) ?_
    refine ww_zret C2.1 dX10_in_18 rfl (Or.inl rfl) ?_
    refine k2 _ _ ?_
    refine ww_zret C1.1 dX10_isGuest_13 rfl (Or.inl rfl) ?_
    refine k1 _ _ ?_
    refine ww_if_eq (x := (0 : Int32)) C.1 (tgt := 22) dX10_wear_5 (by decide) (fun _ => ?_) (fun hh => absurd hh (by decide))
    refine ww_iconst C.1 (v := (-1 : Int32)) dX10_wear_22 (by decide) ?_
    refine ww_iret C.1 dX10_wear_23 rfl ?_
    exact h
  · replace h := h.2 (fun z => hh ((in_lt (a := x1) (b := (0 : Int32)) (by first | rfl | decide) (by first | rfl | decide)).mpr z))
    refine ww_lload_n C2.1 dX10_in_6 0 rfl rfl ?_
    refine ww_lload C2.1 dX10_in_7 2 rfl ?_
    refine ww_lcmp C2.1 dX10_in_9 ?_
    refine ww_if_gt (x := (lg_cmp x1.toInt64 ((M 57 7) - (1 : Int32)).toInt64)) C2.1 (tgt := 17) dX10_in_10 (by decide) (fun hh => ?_) (fun hh => ?_)
    · replace h := h.1 ((in_gt (a := x1) (b := ((M 57 7) - (1 : Int32))) (by first | rfl | decide) (by first | rfl | decide)).mp hh)
      refine ww_iconst C2.1 (v := (0 : Int32)) dX10_in_17 (by decide) ?_
      refine ww_zret C2.1 dX10_in_18 rfl (Or.inl rfl) ?_
      refine k2 _ _ ?_
      refine ww_zret C1.1 dX10_isGuest_13 rfl (Or.inl rfl) ?_
      refine k1 _ _ ?_
      refine ww_if_eq (x := (0 : Int32)) C.1 (tgt := 22) dX10_wear_5 (by decide) (fun _ => ?_) (fun hh => absurd hh (by decide))
      refine ww_iconst C.1 (v := (-1 : Int32)) dX10_wear_22 (by decide) ?_
      refine ww_iret C.1 dX10_wear_23 rfl ?_
      exact h
    · replace h := h.2 (fun z => hh ((in_gt (a := x1) (b := ((M 57 7) - (1 : Int32))) (by first | rfl | decide) (by first | rfl | decide)).mpr z))
      refine ww_iconst C2.1 (v := (1 : Int32)) dX10_in_13 (by decide) ?_
      refine ww_goto C2.1 (tgt := 18) dX10_in_14 (by decide) ?_
      refine ww_zret C2.1 dX10_in_18 rfl (Or.inr rfl) ?_
      refine k2 _ _ ?_
      refine ww_zret C1.1 dX10_isGuest_13 rfl (Or.inr rfl) ?_
      refine k1 _ _ ?_
      refine ww_if_eq (x := (1 : Int32)) C.1 (tgt := 22) dX10_wear_5 (by decide) (fun hh => absurd hh (by decide)) (fun _ => ?_)
      refine ww_iload_n C.1 dX10_wear_8 2 rfl rfl ?_
      refine ww_i2l C.1 dX10_wear_9 rfl ?_
      refine ww_ldc2 C.1 kcRX10_246 dX10_wear_10 ?_
      refine ww_ldc2 C.1 kcRX10_138 dX10_wear_13 ?_
      refine ww_sI C fX10_in (And.intro (by decide) (by decide)) mlRX10_101 dX10_wear_16 (As := [.long x2.toInt64, .long (-9 : Int64), .long (9 : Int64)]) (rest := []) rfl rfl rfl (Nat.le_of_ble_eq_true rfl) (WpI.of (L0 := [(0, .long x2.toInt64), (2, .long (-9 : Int64)), (4, .long (9 : Int64))]) rfl rfl (Nat.le_of_ble_eq_true rfl) fun X3 Q3 C3 k3 => ?_)
      refine ww_lload_n C3.1 dX10_in_0 0 rfl rfl ?_
      refine ww_lload_n C3.1 dX10_in_1 1 rfl rfl ?_
      refine ww_lcmp C3.1 dX10_in_2 ?_
      refine ww_if_lt (x := (lg_cmp x2.toInt64 (-9 : Int64))) C3.1 (tgt := 17) dX10_in_3 (by decide) (fun hh => ?_) (fun hh => ?_)
      · replace h := h.1 ((in_lt (a := x2) (b := (-9 : Int32)) (by first | rfl | decide) (by first | rfl | decide)).mp hh)
        refine ww_iconst C3.1 (v := (0 : Int32)) dX10_in_17 (by decide) ?_
        refine ww_zret C3.1 dX10_in_18 rfl (Or.inl rfl) ?_
        refine k3 _ _ ?_
        refine ww_if_ne (x := (0 : Int32)) C.1 (tgt := 24) dX10_wear_19 (by decide) (fun hh => absurd hh (by decide)) (fun _ => ?_)
        refine ww_iconst C.1 (v := (-1 : Int32)) dX10_wear_22 (by decide) ?_
        refine ww_iret C.1 dX10_wear_23 rfl ?_
        exact h
      · replace h := h.2 (fun z => hh ((in_lt (a := x2) (b := (-9 : Int32)) (by first | rfl | decide) (by first | rfl | decide)).mpr z))
        refine ww_lload_n C3.1 dX10_in_6 0 rfl rfl ?_
        refine ww_lload C3.1 dX10_in_7 2 rfl ?_
        refine ww_lcmp C3.1 dX10_in_9 ?_
        refine ww_if_gt (x := (lg_cmp x2.toInt64 (9 : Int64))) C3.1 (tgt := 17) dX10_in_10 (by decide) (fun hh => ?_) (fun hh => ?_)
        · replace h := h.1 ((in_gt (a := x2) (b := (9 : Int32)) (by first | rfl | decide) (by first | rfl | decide)).mp hh)
          refine ww_iconst C3.1 (v := (0 : Int32)) dX10_in_17 (by decide) ?_
          refine ww_zret C3.1 dX10_in_18 rfl (Or.inl rfl) ?_
          refine k3 _ _ ?_
          refine ww_if_ne (x := (0 : Int32)) C.1 (tgt := 24) dX10_wear_19 (by decide) (fun hh => absurd hh (by decide)) (fun _ => ?_)
          refine ww_iconst C.1 (v := (-1 : Int32)) dX10_wear_22 (by decide) ?_
          refine ww_iret C.1 dX10_wear_23 rfl ?_
          exact h
        · replace h := h.2 (fun z => hh ((in_gt (a := x2) (b := (9 : Int32)) (by first | rfl | decide) (by first | rfl | decide)).mpr z))
          refine ww_iconst C3.1 (v := (1 : Int32)) dX10_in_13 (by decide) ?_
          refine ww_goto C3.1 (tgt := 18) dX10_in_14 (by decide) ?_
          refine ww_zret C3.1 dX10_in_18 rfl (Or.inr rfl) ?_
          refine k3 _ _ ?_
          refine ww_if_ne (x := (1 : Int32)) C.1 (tgt := 24) dX10_wear_19 (by decide) (fun _ => ?_) (fun hh => absurd hh (by decide))
          refine ww_aload_n C.1 dX10_wear_24 0 rfl rfl ?_
          refine ww_vV C fX10_note (And.intro (by decide) (by decide)) mlRX10_243 dX10_wear_25 tm57 (by decide) rfl (As := []) (rest := []) rfl rfl rfl (Nat.le_of_ble_eq_true rfl) ?_
          exact h
set_option maxHeartbeats 4000000 in
set_option maxRecDepth 20000 in
theorem bX10_wear_28 {X : CX} {Q : State → Prop} {M : Mem} {x1 x2 : Int32} (C : Ok0 X mX10_wear (TTc ++ TTm))
    (h : (vp_in ((7 : Int32) + x1) 21 ∧ (vp_in ((7 : Int32) + x1) 21 ∧ RetOK X Q (some (.int ((M 64 ((7 : Int32) + x1).toNatClampNeg) + (100 : Int32)))) ((wr M 64 ((7 : Int32) + x1).toNatClampNeg x2), (gj gm), TTc ++ TTm)))) :
    WW X Q 28 [(0, .ref 57), (1, .int x1), (2, .int x2)] [] (M, (gj gm), TTc ++ TTm) := by
  refine ww_aload_n C.1 dX10_wear_28 0 rfl rfl ?_
  refine wt_getR C.1 dX10_wear_29 flRX10_38 tm57 rfl gm57_11 ?_
  refine ww_bipush C.1 (v := (7 : Int32)) dX10_wear_32 (by decide) ?_
  refine ww_iload_n C.1 dX10_wear_34 1 rfl rfl ?_
  refine ww_iadd C.1 dX10_wear_35 ?_
  refine wt_iald C.1 dX10_wear_36 tm64 h.1 ?_
  replace h := h.2
  refine ww_istore_n C.1 dX10_wear_37 rfl (by decide) [1, 2, 3, 0] (L' := [(0, .ref 57), (1, .int x1), (2, .int x2), (3, .int (M 64 ((7 : Int32) + x1).toNatClampNeg))]) rfl ?_
  refine ww_aload_n C.1 dX10_wear_38 0 rfl rfl ?_
  refine wt_getR C.1 dX10_wear_39 flRX10_38 tm57 rfl gm57_11 ?_
  refine ww_bipush C.1 (v := (7 : Int32)) dX10_wear_42 (by decide) ?_
  refine ww_iload_n C.1 dX10_wear_44 1 rfl rfl ?_
  refine ww_iadd C.1 dX10_wear_45 ?_
  refine ww_iload_n C.1 dX10_wear_46 2 rfl rfl ?_
  refine wt_iast C.1 dX10_wear_47 tm64 h.1 ?_
  replace h := h.2
  refine ww_iload_n C.1 dX10_wear_48 3 rfl rfl ?_
  refine ww_bipush C.1 (v := (100 : Int32)) dX10_wear_49 (by decide) ?_
  refine ww_iadd C.1 dX10_wear_51 ?_
  refine ww_iret C.1 dX10_wear_52 rfl ?_
  exact h
set_option maxHeartbeats 4000000 in
set_option maxRecDepth 20000 in
theorem bX10_come_0 {X : CX} {Q : State → Prop} {M : Mem} {x1 x2 : Int32} (C : Ok0 X mX10_come (TTc ++ TTm))
    (h : ((x1 < (0 : Int32) → RetOK X Q (some (.int (-1 : Int32))) (M, (gj gm), TTc ++ TTm)) ∧ (¬ x1 < (0 : Int32) → ((((M 57 7) - (1 : Int32)) < x1 → RetOK X Q (some (.int (-1 : Int32))) (M, (gj gm), TTc ++ TTm)) ∧ (¬ ((M 57 7) - (1 : Int32)) < x1 → ((x2 < (0 : Int32) → RetOK X Q (some (.int (-1 : Int32))) (M, (gj gm), TTc ++ TTm)) ∧ (¬ x2 < (0 : Int32) → (((9 : Int32) < x2 → RetOK X Q (some (.int (-1 : Int32))) (M, (gj gm), TTc ++ TTm)) ∧ (¬ (9 : Int32) < x2 → WpV mX10_note [.ref 57] M (gj gm) (TTc ++ TTm) (fun M' => WW X Q 26 [(0, .ref 57), (1, .int x1), (2, .int x2)] [] (M', (gj gm), TTc ++ TTm))))))))))) :
    WW X Q 0 [(0, .ref 57), (1, .int x1), (2, .int x2)] [] (M, (gj gm), TTc ++ TTm) := by
  refine ww_aload_n C.1 dX10_come_0 0 rfl rfl ?_
  refine ww_iload_n C.1 dX10_come_1 1 rfl rfl ?_
  refine ww_vI C fX10_isGuest (And.intro (by decide) (by decide)) mlRX10_209 dX10_come_2 tm57 (by decide) rfl (As := [.int x1]) (rest := []) rfl rfl rfl (Nat.le_of_ble_eq_true rfl) (WpI.of (L0 := [(0, .ref 57), (1, .int x1)]) rfl rfl (Nat.le_of_ble_eq_true rfl) fun X1 Q1 C1 k1 => ?_)
  refine ww_iload_n C1.1 dX10_isGuest_0 1 rfl rfl ?_
  refine ww_i2l C1.1 dX10_isGuest_1 rfl ?_
  refine ww_lconst C1.1 (v := 0) dX10_isGuest_2 (by decide) ?_
  refine ww_aload_n C1.1 dX10_isGuest_3 0 rfl rfl ?_
  refine wt_getI C1.1 dX10_isGuest_4 flRX10_29 tm57 rfl ?_
  refine ww_iconst C1.1 (v := (1 : Int32)) dX10_isGuest_7 (by decide) ?_
  refine ww_isub C1.1 dX10_isGuest_8 ?_
  refine ww_i2l C1.1 dX10_isGuest_9 rfl ?_
  refine ww_sI C1 fX10_in (And.intro (by decide) (by decide)) mlRX10_101 dX10_isGuest_10 (As := [.long x1.toInt64, .long (0 : Int64), .long ((M 57 7) - (1 : Int32)).toInt64]) (rest := []) rfl rfl rfl (Nat.le_of_ble_eq_true rfl) (WpI.of (L0 := [(0, .long x1.toInt64), (2, .long (0 : Int64)), (4, .long ((M 57 7) - (1 : Int32)).toInt64)]) rfl rfl (Nat.le_of_ble_eq_true rfl) fun X2 Q2 C2 k2 => ?_)
  refine ww_lload_n C2.1 dX10_in_0 0 rfl rfl ?_
  refine ww_lload_n C2.1 dX10_in_1 1 rfl rfl ?_
  refine ww_lcmp C2.1 dX10_in_2 ?_
  refine ww_if_lt (x := (lg_cmp x1.toInt64 (0 : Int64))) C2.1 (tgt := 17) dX10_in_3 (by decide) (fun hh => ?_) (fun hh => ?_)
  · replace h := h.1 ((in_lt (a := x1) (b := (0 : Int32)) (by first | rfl | decide) (by first | rfl | decide)).mp hh)
    refine ww_iconst C2.1 (v := (0 : Int32)) dX10_in_17 (by decide) ?_
    refine ww_zret C2.1 dX10_in_18 rfl (Or.inl rfl) ?_
    refine k2 _ _ ?_
    refine ww_zret C1.1 dX10_isGuest_13 rfl (Or.inl rfl) ?_
    refine k1 _ _ ?_
    refine ww_if_eq (x := (0 : Int32)) C.1 (tgt := 20) dX10_come_5 (by decide) (fun _ => ?_) (fun hh => absurd hh (by decide))
    refine ww_iconst C.1 (v := (-1 : Int32)) dX10_come_20 (by decide) ?_
    refine ww_iret C.1 dX10_come_21 rfl ?_
    exact h
  · replace h := h.2 (fun z => hh ((in_lt (a := x1) (b := (0 : Int32)) (by first | rfl | decide) (by first | rfl | decide)).mpr z))
    refine ww_lload_n C2.1 dX10_in_6 0 rfl rfl ?_
    refine ww_lload C2.1 dX10_in_7 2 rfl ?_
    refine ww_lcmp C2.1 dX10_in_9 ?_
    refine ww_if_gt (x := (lg_cmp x1.toInt64 ((M 57 7) - (1 : Int32)).toInt64)) C2.1 (tgt := 17) dX10_in_10 (by decide) (fun hh => ?_) (fun hh => ?_)
    · replace h := h.1 ((in_gt (a := x1) (b := ((M 57 7) - (1 : Int32))) (by first | rfl | decide) (by first | rfl | decide)).mp hh)
      refine ww_iconst C2.1 (v := (0 : Int32)) dX10_in_17 (by decide) ?_
      refine ww_zret C2.1 dX10_in_18 rfl (Or.inl rfl) ?_
      refine k2 _ _ ?_
      refine ww_zret C1.1 dX10_isGuest_13 rfl (Or.inl rfl) ?_
      refine k1 _ _ ?_
      refine ww_if_eq (x := (0 : Int32)) C.1 (tgt := 20) dX10_come_5 (by decide) (fun _ => ?_) (fun hh => absurd hh (by decide))
      refine ww_iconst C.1 (v := (-1 : Int32)) dX10_come_20 (by decide) ?_
      refine ww_iret C.1 dX10_come_21 rfl ?_
      exact h
    · replace h := h.2 (fun z => hh ((in_gt (a := x1) (b := ((M 57 7) - (1 : Int32))) (by first | rfl | decide) (by first | rfl | decide)).mpr z))
      refine ww_iconst C2.1 (v := (1 : Int32)) dX10_in_13 (by decide) ?_
      refine ww_goto C2.1 (tgt := 18) dX10_in_14 (by decide) ?_
      refine ww_zret C2.1 dX10_in_18 rfl (Or.inr rfl) ?_
      refine k2 _ _ ?_
      refine ww_zret C1.1 dX10_isGuest_13 rfl (Or.inr rfl) ?_
      refine k1 _ _ ?_
      refine ww_if_eq (x := (1 : Int32)) C.1 (tgt := 20) dX10_come_5 (by decide) (fun hh => absurd hh (by decide)) (fun _ => ?_)
      refine ww_iload_n C.1 dX10_come_8 2 rfl rfl ?_
      refine ww_i2l C.1 dX10_come_9 rfl ?_
      refine ww_lconst C.1 (v := 0) dX10_come_10 (by decide) ?_
      refine ww_ldc2 C.1 kcRX10_138 dX10_come_11 ?_
      refine ww_sI C fX10_in (And.intro (by decide) (by decide)) mlRX10_101 dX10_come_14 (As := [.long x2.toInt64, .long (0 : Int64), .long (9 : Int64)]) (rest := []) rfl rfl rfl (Nat.le_of_ble_eq_true rfl) (WpI.of (L0 := [(0, .long x2.toInt64), (2, .long (0 : Int64)), (4, .long (9 : Int64))]) rfl rfl (Nat.le_of_ble_eq_true rfl) fun X3 Q3 C3 k3 => ?_)
      refine ww_lload_n C3.1 dX10_in_0 0 rfl rfl ?_
      refine ww_lload_n C3.1 dX10_in_1 1 rfl rfl ?_
      refine ww_lcmp C3.1 dX10_in_2 ?_
      refine ww_if_lt (x := (lg_cmp x2.toInt64 (0 : Int64))) C3.1 (tgt := 17) dX10_in_3 (by decide) (fun hh => ?_) (fun hh => ?_)
      · replace h := h.1 ((in_lt (a := x2) (b := (0 : Int32)) (by first | rfl | decide) (by first | rfl | decide)).mp hh)
        refine ww_iconst C3.1 (v := (0 : Int32)) dX10_in_17 (by decide) ?_
        refine ww_zret C3.1 dX10_in_18 rfl (Or.inl rfl) ?_
        refine k3 _ _ ?_
        refine ww_if_ne (x := (0 : Int32)) C.1 (tgt := 22) dX10_come_17 (by decide) (fun hh => absurd hh (by decide)) (fun _ => ?_)
        refine ww_iconst C.1 (v := (-1 : Int32)) dX10_come_20 (by decide) ?_
        refine ww_iret C.1 dX10_come_21 rfl ?_
        exact h
      · replace h := h.2 (fun z => hh ((in_lt (a := x2) (b := (0 : Int32)) (by first | rfl | decide) (by first | rfl | decide)).mpr z))
        refine ww_lload_n C3.1 dX10_in_6 0 rfl rfl ?_
        refine ww_lload C3.1 dX10_in_7 2 rfl ?_
        refine ww_lcmp C3.1 dX10_in_9 ?_
        refine ww_if_gt (x := (lg_cmp x2.toInt64 (9 : Int64))) C3.1 (tgt := 17) dX10_in_10 (by decide) (fun hh => ?_) (fun hh => ?_)
        · replace h := h.1 ((in_gt (a := x2) (b := (9 : Int32)) (by first | rfl | decide) (by first | rfl | decide)).mp hh)
          refine ww_iconst C3.1 (v := (0 : Int32)) dX10_in_17 (by decide) ?_
          refine ww_zret C3.1 dX10_in_18 rfl (Or.inl rfl) ?_
          refine k3 _ _ ?_
          refine ww_if_ne (x := (0 : Int32)) C.1 (tgt := 22) dX10_come_17 (by decide) (fun hh => absurd hh (by decide)) (fun _ => ?_)
          refine ww_iconst C.1 (v := (-1 : Int32)) dX10_come_20 (by decide) ?_
          refine ww_iret C.1 dX10_come_21 rfl ?_
          exact h
        · replace h := h.2 (fun z => hh ((in_gt (a := x2) (b := (9 : Int32)) (by first | rfl | decide) (by first | rfl | decide)).mpr z))
          refine ww_iconst C3.1 (v := (1 : Int32)) dX10_in_13 (by decide) ?_
          refine ww_goto C3.1 (tgt := 18) dX10_in_14 (by decide) ?_
          refine ww_zret C3.1 dX10_in_18 rfl (Or.inr rfl) ?_
          refine k3 _ _ ?_
          refine ww_if_ne (x := (1 : Int32)) C.1 (tgt := 22) dX10_come_17 (by decide) (fun _ => ?_) (fun hh => absurd hh (by decide))
          refine ww_aload_n C.1 dX10_come_22 0 rfl rfl ?_
          refine ww_vV C fX10_note (And.intro (by decide) (by decide)) mlRX10_243 dX10_come_23 tm57 (by decide) rfl (As := []) (rest := []) rfl rfl rfl (Nat.le_of_ble_eq_true rfl) ?_
          exact h
set_option maxHeartbeats 4000000 in
set_option maxRecDepth 20000 in
theorem bX10_come_26 {X : CX} {Q : State → Prop} {M : Mem} {x1 x2 : Int32} (C : Ok0 X mX10_come (TTc ++ TTm))
    (h : (vp_in ((14 : Int32) + x1) 21 ∧ (vp_in ((14 : Int32) + x1) 21 ∧ RetOK X Q (some (.int (M 64 ((14 : Int32) + x1).toNatClampNeg))) ((wr M 64 ((14 : Int32) + x1).toNatClampNeg x2), (gj gm), TTc ++ TTm)))) :
    WW X Q 26 [(0, .ref 57), (1, .int x1), (2, .int x2)] [] (M, (gj gm), TTc ++ TTm) := by
  refine ww_aload_n C.1 dX10_come_26 0 rfl rfl ?_
  refine wt_getR C.1 dX10_come_27 flRX10_38 tm57 rfl gm57_11 ?_
  refine ww_bipush C.1 (v := (14 : Int32)) dX10_come_30 (by decide) ?_
  refine ww_iload_n C.1 dX10_come_32 1 rfl rfl ?_
  refine ww_iadd C.1 dX10_come_33 ?_
  refine wt_iald C.1 dX10_come_34 tm64 h.1 ?_
  replace h := h.2
  refine ww_istore_n C.1 dX10_come_35 rfl (by decide) [1, 2, 3, 0] (L' := [(0, .ref 57), (1, .int x1), (2, .int x2), (3, .int (M 64 ((14 : Int32) + x1).toNatClampNeg))]) rfl ?_
  refine ww_aload_n C.1 dX10_come_36 0 rfl rfl ?_
  refine wt_getR C.1 dX10_come_37 flRX10_38 tm57 rfl gm57_11 ?_
  refine ww_bipush C.1 (v := (14 : Int32)) dX10_come_40 (by decide) ?_
  refine ww_iload_n C.1 dX10_come_42 1 rfl rfl ?_
  refine ww_iadd C.1 dX10_come_43 ?_
  refine ww_iload_n C.1 dX10_come_44 2 rfl rfl ?_
  refine wt_iast C.1 dX10_come_45 tm64 h.1 ?_
  replace h := h.2
  refine ww_iload_n C.1 dX10_come_46 3 rfl rfl ?_
  refine ww_iret C.1 dX10_come_47 rfl ?_
  exact h
set_option maxHeartbeats 4000000 in
set_option maxRecDepth 20000 in
theorem bX10_undo_0 {X : CX} {Q : State → Prop} {M : Mem} (C : Ok0 X mX10_undo (TTc ++ TTm))
    (h : ((¬ (M 57 35) = (0 : Int32) → WW X Q 22 [(0, .ref 57), (1, .int (0 : Int32))] [] ((wr M 57 35 ((M 57 35) - (1 : Int32))), (gj gm), TTc ++ TTm)) ∧ ((M 57 35) = (0 : Int32) → RetOK X Q (some (.int (-2 : Int32))) (M, (gj gm), TTc ++ TTm)))) :
    WW X Q 0 [(0, .ref 57)] [] (M, (gj gm), TTc ++ TTm) := by
  refine ww_aload_n C.1 dX10_undo_0 0 rfl rfl ?_
  refine wt_getI C.1 dX10_undo_1 flRX10_170 tm57 rfl ?_
  refine ww_if_ne (x := (M 57 35)) C.1 (tgt := 10) dX10_undo_4 (by decide) (fun hh => ?_) (fun hh => ?_)
  · replace h := h.1 hh
    refine ww_aload_n C.1 dX10_undo_10 0 rfl rfl ?_
    refine ww_dup C.1 dX10_undo_11 rfl ?_
    refine wt_getI C.1 dX10_undo_12 flRX10_170 tm57 rfl ?_
    refine ww_iconst C.1 (v := (1 : Int32)) dX10_undo_15 (by decide) ?_
    refine ww_isub C.1 dX10_undo_16 ?_
    refine wt_putI C.1 dX10_undo_17 flRX10_170 tm57 rfl ?_
    refine ww_iconst C.1 (v := (0 : Int32)) dX10_undo_20 (by decide) ?_
    refine ww_istore_n C.1 dX10_undo_21 rfl (by decide) [1, 0] (L' := [(0, .ref 57), (1, .int (0 : Int32))]) rfl ?_
    exact h
  · replace h := h.2 hh
    refine ww_bipush C.1 (v := (-2 : Int32)) dX10_undo_7 (by decide) ?_
    refine ww_iret C.1 dX10_undo_9 rfl ?_
    exact h
set_option maxHeartbeats 4000000 in
set_option maxRecDepth 20000 in
theorem bX10_undo_22 {X : CX} {Q : State → Prop} {M : Mem} {x1 : Int32} (C : Ok0 X mX10_undo (TTc ++ TTm))
    (h : (((21 : Int32) ≤ x1 → RetOK X Q (some (.int (M 57 35))) (M, (gj gm), TTc ++ TTm)) ∧ (¬ (21 : Int32) ≤ x1 → (vp_in (((21 : Int32) * (M 57 35)) + x1) 168 ∧ (vp_in x1 21 ∧ WW X Q 22 [(0, .ref 57), (1, .int (x1 + (1 : Int32)))] [] ((wr M 64 x1.toNatClampNeg (M 77 (((21 : Int32) * (M 57 35)) + x1).toNatClampNeg)), (gj gm), TTc ++ TTm)))))) :
    WW X Q 22 [(0, .ref 57), (1, .int x1)] [] (M, (gj gm), TTc ++ TTm) := by
  refine ww_iload_n C.1 dX10_undo_22 1 rfl rfl ?_
  refine ww_bipush C.1 (v := (21 : Int32)) dX10_undo_23 (by decide) ?_
  refine ww_icmp_ge (x := x1) (y := (21 : Int32)) C.1 (tgt := 54) dX10_undo_25 (by decide) (fun hh => ?_) (fun hh => ?_)
  · replace h := h.1 hh
    refine ww_aload_n C.1 dX10_undo_54 0 rfl rfl ?_
    refine wt_getI C.1 dX10_undo_55 flRX10_170 tm57 rfl ?_
    refine ww_iret C.1 dX10_undo_58 rfl ?_
    exact h
  · replace h := h.2 hh
    refine ww_aload_n C.1 dX10_undo_28 0 rfl rfl ?_
    refine wt_getR C.1 dX10_undo_29 flRX10_38 tm57 rfl gm57_11 ?_
    refine ww_iload_n C.1 dX10_undo_32 1 rfl rfl ?_
    refine ww_aload_n C.1 dX10_undo_33 0 rfl rfl ?_
    refine wt_getR C.1 dX10_undo_34 flRX10_80 tm57 rfl gm57_34 ?_
    refine ww_bipush C.1 (v := (21 : Int32)) dX10_undo_37 (by decide) ?_
    refine ww_aload_n C.1 dX10_undo_39 0 rfl rfl ?_
    refine wt_getI C.1 dX10_undo_40 flRX10_170 tm57 rfl ?_
    refine ww_imul C.1 dX10_undo_43 ?_
    refine ww_iload_n C.1 dX10_undo_44 1 rfl rfl ?_
    refine ww_iadd C.1 dX10_undo_45 ?_
    refine wt_iald C.1 dX10_undo_46 tm77 h.1 ?_
    replace h := h.2
    refine wt_iast C.1 dX10_undo_47 tm64 h.1 ?_
    replace h := h.2
    refine ww_iinc C.1 (v := (x1 + (1 : Int32))) dX10_undo_48 1 rfl (by rfl) (by decide) [1, 0] (L' := [(0, .ref 57), (1, .int (x1 + (1 : Int32)))]) rfl ?_
    refine ww_goto C.1 (tgt := 22) dX10_undo_51 (by decide) ?_
    exact h
set_option maxHeartbeats 4000000 in
set_option maxRecDepth 20000 in
theorem bX10_nextRow_0 {X : CX} {Q : State → Prop} {M : Mem} (C : Ok0 X mX10_nextRow (TTc ++ TTm))
    (h : WW X Q 7 [(0, .ref 57), (1, .int ((M 57 7) - (2 : Int32)))] [] (M, (gj gm), TTc ++ TTm)) :
    WW X Q 0 [(0, .ref 57)] [] (M, (gj gm), TTc ++ TTm) := by
  refine ww_aload_n C.1 dX10_nextRow_0 0 rfl rfl ?_
  refine wt_getI C.1 dX10_nextRow_1 flRX10_29 tm57 rfl ?_
  refine ww_iconst C.1 (v := (2 : Int32)) dX10_nextRow_4 (by decide) ?_
  refine ww_isub C.1 dX10_nextRow_5 ?_
  refine ww_istore_n C.1 dX10_nextRow_6 rfl (by decide) [1, 0] (L' := [(0, .ref 57), (1, .int ((M 57 7) - (2 : Int32)))]) rfl ?_
  exact h
set_option maxHeartbeats 4000000 in
set_option maxRecDepth 20000 in
theorem bX10_nextRow_7 {X : CX} {Q : State → Prop} {M : Mem} {x1 : Int32} (C : Ok0 X mX10_nextRow (TTc ++ TTm))
    (h : ((x1 < (0 : Int32) → (((0 : Int32) ≤ x1 → WW X Q 47 [(0, .ref 57), (1, .int x1), (2, .int ((M 57 7) - (1 : Int32)))] [] (M, (gj gm), TTc ++ TTm)) ∧ (¬ (0 : Int32) ≤ x1 → RetOK X Q (some (.int (0 : Int32))) (M, (gj gm), TTc ++ TTm)))) ∧ (¬ x1 < (0 : Int32) → (vp_in x1 21 ∧ (vp_in (x1 + (1 : Int32)) 21 ∧ (((M 64 x1.toNatClampNeg) ≤ (M 64 (x1 + (1 : Int32)).toNatClampNeg) → (((0 : Int32) ≤ x1 → WW X Q 47 [(0, .ref 57), (1, .int x1), (2, .int ((M 57 7) - (1 : Int32)))] [] (M, (gj gm), TTc ++ TTm)) ∧ (¬ (0 : Int32) ≤ x1 → RetOK X Q (some (.int (0 : Int32))) (M, (gj gm), TTc ++ TTm)))) ∧ (¬ (M 64 x1.toNatClampNeg) ≤ (M 64 (x1 + (1 : Int32)).toNatClampNeg) → WW X Q 7 [(0, .ref 57), (1, .int (x1 + (-1 : Int32)))] [] (M, (gj gm), TTc ++ TTm)))))))) :
    WW X Q 7 [(0, .ref 57), (1, .int x1)] [] (M, (gj gm), TTc ++ TTm) := by
  refine ww_iload_n C.1 dX10_nextRow_7 1 rfl rfl ?_
  refine ww_if_lt (x := x1) C.1 (tgt := 34) dX10_nextRow_8 (by decide) (fun hh => ?_) (fun hh => ?_)
  · replace h := h.1 hh
    refine ww_iload_n C.1 dX10_nextRow_34 1 rfl rfl ?_
    refine ww_if_ge (x := x1) C.1 (tgt := 40) dX10_nextRow_35 (by decide) (fun hh => ?_) (fun hh => ?_)
    · replace h := h.1 hh
      refine ww_aload_n C.1 dX10_nextRow_40 0 rfl rfl ?_
      refine wt_getI C.1 dX10_nextRow_41 flRX10_29 tm57 rfl ?_
      refine ww_iconst C.1 (v := (1 : Int32)) dX10_nextRow_44 (by decide) ?_
      refine ww_isub C.1 dX10_nextRow_45 ?_
      refine ww_istore_n C.1 dX10_nextRow_46 rfl (by decide) [1, 2, 0] (L' := [(0, .ref 57), (1, .int x1), (2, .int ((M 57 7) - (1 : Int32)))]) rfl ?_
      exact h
    · replace h := h.2 hh
      refine ww_iconst C.1 (v := (0 : Int32)) dX10_nextRow_38 (by decide) ?_
      refine ww_zret C.1 dX10_nextRow_39 rfl (Or.inl rfl) ?_
      exact h
  · replace h := h.2 hh
    refine ww_aload_n C.1 dX10_nextRow_11 0 rfl rfl ?_
    refine wt_getR C.1 dX10_nextRow_12 flRX10_38 tm57 rfl gm57_11 ?_
    refine ww_iload_n C.1 dX10_nextRow_15 1 rfl rfl ?_
    refine wt_iald C.1 dX10_nextRow_16 tm64 h.1 ?_
    replace h := h.2
    refine ww_aload_n C.1 dX10_nextRow_17 0 rfl rfl ?_
    refine wt_getR C.1 dX10_nextRow_18 flRX10_38 tm57 rfl gm57_11 ?_
    refine ww_iload_n C.1 dX10_nextRow_21 1 rfl rfl ?_
    refine ww_iconst C.1 (v := (1 : Int32)) dX10_nextRow_22 (by decide) ?_
    refine ww_iadd C.1 dX10_nextRow_23 ?_
    refine wt_iald C.1 dX10_nextRow_24 tm64 h.1 ?_
    replace h := h.2
    refine ww_icmp_le (x := (M 64 x1.toNatClampNeg)) (y := (M 64 (x1 + (1 : Int32)).toNatClampNeg)) C.1 (tgt := 34) dX10_nextRow_25 (by decide) (fun hh => ?_) (fun hh => ?_)
    · replace h := h.1 hh
      refine ww_iload_n C.1 dX10_nextRow_34 1 rfl rfl ?_
      refine ww_if_ge (x := x1) C.1 (tgt := 40) dX10_nextRow_35 (by decide) (fun hh => ?_) (fun hh => ?_)
      · replace h := h.1 hh
        refine ww_aload_n C.1 dX10_nextRow_40 0 rfl rfl ?_
        refine wt_getI C.1 dX10_nextRow_41 flRX10_29 tm57 rfl ?_
        refine ww_iconst C.1 (v := (1 : Int32)) dX10_nextRow_44 (by decide) ?_
        refine ww_isub C.1 dX10_nextRow_45 ?_
        refine ww_istore_n C.1 dX10_nextRow_46 rfl (by decide) [1, 2, 0] (L' := [(0, .ref 57), (1, .int x1), (2, .int ((M 57 7) - (1 : Int32)))]) rfl ?_
        exact h
      · replace h := h.2 hh
        refine ww_iconst C.1 (v := (0 : Int32)) dX10_nextRow_38 (by decide) ?_
        refine ww_zret C.1 dX10_nextRow_39 rfl (Or.inl rfl) ?_
        exact h
    · replace h := h.2 hh
      refine ww_iinc C.1 (v := (x1 + (-1 : Int32))) dX10_nextRow_28 1 rfl (by rfl) (by decide) [1, 0] (L' := [(0, .ref 57), (1, .int (x1 + (-1 : Int32)))]) rfl ?_
      refine ww_goto C.1 (tgt := 7) dX10_nextRow_31 (by decide) ?_
      exact h
set_option maxHeartbeats 4000000 in
set_option maxRecDepth 20000 in
theorem bX10_nextRow_47 {X : CX} {Q : State → Prop} {M : Mem} {x1 x2 : Int32} (C : Ok0 X mX10_nextRow (TTc ++ TTm))
    (h : (vp_in x2 21 ∧ (vp_in x1 21 ∧ (((M 64 x1.toNatClampNeg) ≤ (M 64 x2.toNatClampNeg) → WpV mX10_exchange [.ref 57, .int x1, .int x2] M (gj gm) (TTc ++ TTm) (fun M' => WW X Q 74 [(0, .ref 57), (1, .int x1), (2, .int x2)] [] (M', (gj gm), TTc ++ TTm))) ∧ (¬ (M 64 x1.toNatClampNeg) ≤ (M 64 x2.toNatClampNeg) → WW X Q 47 [(0, .ref 57), (1, .int x1), (2, .int (x2 + (-1 : Int32)))] [] (M, (gj gm), TTc ++ TTm)))))) :
    WW X Q 47 [(0, .ref 57), (1, .int x1), (2, .int x2)] [] (M, (gj gm), TTc ++ TTm) := by
  refine ww_aload_n C.1 dX10_nextRow_47 0 rfl rfl ?_
  refine wt_getR C.1 dX10_nextRow_48 flRX10_38 tm57 rfl gm57_11 ?_
  refine ww_iload_n C.1 dX10_nextRow_51 2 rfl rfl ?_
  refine wt_iald C.1 dX10_nextRow_52 tm64 h.1 ?_
  replace h := h.2
  refine ww_aload_n C.1 dX10_nextRow_53 0 rfl rfl ?_
  refine wt_getR C.1 dX10_nextRow_54 flRX10_38 tm57 rfl gm57_11 ?_
  refine ww_iload_n C.1 dX10_nextRow_57 1 rfl rfl ?_
  refine wt_iald C.1 dX10_nextRow_58 tm64 h.1 ?_
  replace h := h.2
  refine ww_icmp_ge (x := (M 64 x2.toNatClampNeg)) (y := (M 64 x1.toNatClampNeg)) C.1 (tgt := 68) dX10_nextRow_59 (by decide) (fun hh => ?_) (fun hh => ?_)
  · replace h := h.1 hh
    refine ww_aload_n C.1 dX10_nextRow_68 0 rfl rfl ?_
    refine ww_iload_n C.1 dX10_nextRow_69 1 rfl rfl ?_
    refine ww_iload_n C.1 dX10_nextRow_70 2 rfl rfl ?_
    refine ww_vV C fX10_exchange (And.intro (by decide) (by decide)) mlRX10_248 dX10_nextRow_71 tm57 (by decide) rfl (As := [.int x1, .int x2]) (rest := []) rfl rfl rfl (Nat.le_of_ble_eq_true rfl) ?_
    exact h
  · replace h := h.2 hh
    refine ww_iinc C.1 (v := (x2 + (-1 : Int32))) dX10_nextRow_62 2 rfl (by rfl) (by decide) [1, 2, 0] (L' := [(0, .ref 57), (1, .int x1), (2, .int (x2 + (-1 : Int32)))]) rfl ?_
    refine ww_goto C.1 (tgt := 47) dX10_nextRow_65 (by decide) ?_
    exact h
set_option maxHeartbeats 4000000 in
set_option maxRecDepth 20000 in
theorem bX10_nextRow_86 {X : CX} {Q : State → Prop} {M : Mem} {x1 x2 x3 x4 : Int32} (C : Ok0 X mX10_nextRow (TTc ++ TTm))
    (h : ((x3 ≤ x4 → RetOK X Q (some (.int (1 : Int32))) (M, (gj gm), TTc ++ TTm)) ∧ (¬ x3 ≤ x4 → WpV mX10_exchange [.ref 57, .int x4, .int x3] M (gj gm) (TTc ++ TTm) (fun M' => WW X Q 99 [(0, .ref 57), (1, .int x1), (2, .int x2), (3, .int x3), (4, .int x4)] [] (M', (gj gm), TTc ++ TTm))))) :
    WW X Q 86 [(0, .ref 57), (1, .int x1), (2, .int x2), (3, .int x3), (4, .int x4)] [] (M, (gj gm), TTc ++ TTm) := by
  refine ww_iload C.1 dX10_nextRow_86 4 rfl ?_
  refine ww_iload_n C.1 dX10_nextRow_88 3 rfl rfl ?_
  refine ww_icmp_ge (x := x4) (y := x3) C.1 (tgt := 108) dX10_nextRow_89 (by decide) (fun hh => ?_) (fun hh => ?_)
  · replace h := h.1 hh
    refine ww_iconst C.1 (v := (1 : Int32)) dX10_nextRow_108 (by decide) ?_
    refine ww_zret C.1 dX10_nextRow_109 rfl (Or.inr rfl) ?_
    exact h
  · replace h := h.2 hh
    refine ww_aload_n C.1 dX10_nextRow_92 0 rfl rfl ?_
    refine ww_iload C.1 dX10_nextRow_93 4 rfl ?_
    refine ww_iload_n C.1 dX10_nextRow_95 3 rfl rfl ?_
    refine ww_vV C fX10_exchange (And.intro (by decide) (by decide)) mlRX10_248 dX10_nextRow_96 tm57 (by decide) rfl (As := [.int x4, .int x3]) (rest := []) rfl rfl rfl (Nat.le_of_ble_eq_true rfl) ?_
    exact h
set_option maxHeartbeats 4000000 in
set_option maxRecDepth 20000 in
theorem bX10_nextRow_74 {X : CX} {Q : State → Prop} {M : Mem} {x1 x2 : Int32} (C : Ok0 X mX10_nextRow (TTc ++ TTm))
    (h : WW X Q 86 [(0, .ref 57), (1, .int x1), (2, .int x2), (3, .int ((M 57 7) - (1 : Int32))), (4, .int (x1 + (1 : Int32)))] [] (M, (gj gm), TTc ++ TTm)) :
    WW X Q 74 [(0, .ref 57), (1, .int x1), (2, .int x2)] [] (M, (gj gm), TTc ++ TTm) := by
  refine ww_aload_n C.1 dX10_nextRow_74 0 rfl rfl ?_
  refine wt_getI C.1 dX10_nextRow_75 flRX10_29 tm57 rfl ?_
  refine ww_iconst C.1 (v := (1 : Int32)) dX10_nextRow_78 (by decide) ?_
  refine ww_isub C.1 dX10_nextRow_79 ?_
  refine ww_istore_n C.1 dX10_nextRow_80 rfl (by decide) [1, 2, 3, 0] (L' := [(0, .ref 57), (1, .int x1), (2, .int x2), (3, .int ((M 57 7) - (1 : Int32)))]) rfl ?_
  refine ww_iload_n C.1 dX10_nextRow_81 1 rfl rfl ?_
  refine ww_iconst C.1 (v := (1 : Int32)) dX10_nextRow_82 (by decide) ?_
  refine ww_iadd C.1 dX10_nextRow_83 ?_
  refine ww_istore C.1 dX10_nextRow_84 (by decide) [1, 2, 3, 4, 0] (L' := [(0, .ref 57), (1, .int x1), (2, .int x2), (3, .int ((M 57 7) - (1 : Int32))), (4, .int (x1 + (1 : Int32)))]) rfl ?_
  exact h
set_option maxHeartbeats 4000000 in
set_option maxRecDepth 20000 in
theorem bX10_nextRow_99 {X : CX} {Q : State → Prop} {M : Mem} {x1 x2 x3 x4 : Int32} (C : Ok0 X mX10_nextRow (TTc ++ TTm))
    (h : WW X Q 86 [(0, .ref 57), (1, .int x1), (2, .int x2), (3, .int (x3 + (-1 : Int32))), (4, .int (x4 + (1 : Int32)))] [] (M, (gj gm), TTc ++ TTm)) :
    WW X Q 99 [(0, .ref 57), (1, .int x1), (2, .int x2), (3, .int x3), (4, .int x4)] [] (M, (gj gm), TTc ++ TTm) := by
  refine ww_iinc C.1 (v := (x3 + (-1 : Int32))) dX10_nextRow_99 3 rfl (by rfl) (by decide) [1, 2, 3, 0, 4] (L' := [(0, .ref 57), (1, .int x1), (2, .int x2), (3, .int (x3 + (-1 : Int32))), (4, .int x4)]) rfl ?_
  refine ww_iinc C.1 (v := (x4 + (1 : Int32))) dX10_nextRow_102 4 rfl (by rfl) (by decide) [1, 2, 3, 4, 0] (L' := [(0, .ref 57), (1, .int x1), (2, .int x2), (3, .int (x3 + (-1 : Int32))), (4, .int (x4 + (1 : Int32)))]) rfl ?_
  refine ww_goto C.1 (tgt := 86) dX10_nextRow_105 (by decide) ?_
  exact h
set_option maxHeartbeats 4000000 in
set_option maxRecDepth 20000 in
theorem bX10_exchange_0 {X : CX} {Q : State → Prop} {M : Mem} {x1 x2 : Int32} (C : Ok0 X mX10_exchange (TTc ++ TTm))
    (h : (vp_in x1 21 ∧ (vp_in x2 21 ∧ (vp_in x1 21 ∧ (vp_in x2 21 ∧ RetOK X Q (none) ((wr (wr M 64 x1.toNatClampNeg (M 64 x2.toNatClampNeg)) 64 x2.toNatClampNeg (M 64 x1.toNatClampNeg)), (gj gm), TTc ++ TTm)))))) :
    WW X Q 0 [(0, .ref 57), (1, .int x1), (2, .int x2)] [] (M, (gj gm), TTc ++ TTm) := by
  refine ww_aload_n C.1 dX10_exchange_0 0 rfl rfl ?_
  refine wt_getR C.1 dX10_exchange_1 flRX10_38 tm57 rfl gm57_11 ?_
  refine ww_iload_n C.1 dX10_exchange_4 1 rfl rfl ?_
  refine wt_iald C.1 dX10_exchange_5 tm64 h.1 ?_
  replace h := h.2
  refine ww_istore_n C.1 dX10_exchange_6 rfl (by decide) [1, 2, 3, 0] (L' := [(0, .ref 57), (1, .int x1), (2, .int x2), (3, .int (M 64 x1.toNatClampNeg))]) rfl ?_
  refine ww_aload_n C.1 dX10_exchange_7 0 rfl rfl ?_
  refine wt_getR C.1 dX10_exchange_8 flRX10_38 tm57 rfl gm57_11 ?_
  refine ww_iload_n C.1 dX10_exchange_11 1 rfl rfl ?_
  refine ww_aload_n C.1 dX10_exchange_12 0 rfl rfl ?_
  refine wt_getR C.1 dX10_exchange_13 flRX10_38 tm57 rfl gm57_11 ?_
  refine ww_iload_n C.1 dX10_exchange_16 2 rfl rfl ?_
  refine wt_iald C.1 dX10_exchange_17 tm64 h.1 ?_
  replace h := h.2
  refine wt_iast C.1 dX10_exchange_18 tm64 h.1 ?_
  replace h := h.2
  refine ww_aload_n C.1 dX10_exchange_19 0 rfl rfl ?_
  refine wt_getR C.1 dX10_exchange_20 flRX10_38 tm57 rfl gm57_11 ?_
  refine ww_iload_n C.1 dX10_exchange_23 2 rfl rfl ?_
  refine ww_iload_n C.1 dX10_exchange_24 3 rfl rfl ?_
  refine wt_iast C.1 dX10_exchange_25 tm64 h.1 ?_
  replace h := h.2
  refine ww_vret C.1 dX10_exchange_26 rfl ?_
  exact h
set_option maxHeartbeats 4000000 in
set_option maxRecDepth 20000 in
theorem bX10_order_0 {X : CX} {Q : State → Prop} {M : Mem} {x1 : Int32} (C : Ok0 X mX10_order (TTc ++ TTm))
    (h : ((x1 < (-1 : Int32) → RetOK X Q (some (.int (-1 : Int32))) (M, (gj gm), TTc ++ TTm)) ∧ (¬ x1 < (-1 : Int32) → ((((M 57 7) - (1 : Int32)) < x1 → RetOK X Q (some (.int (-1 : Int32))) (M, (gj gm), TTc ++ TTm)) ∧ (¬ ((M 57 7) - (1 : Int32)) < x1 → WW X Q 22 [(0, .ref 57), (1, .int x1), (2, .int (0 : Int32))] [] (M, (gj gm), TTc ++ TTm)))))) :
    WW X Q 0 [(0, .ref 57), (1, .int x1)] [] (M, (gj gm), TTc ++ TTm) := by
  refine ww_iload_n C.1 dX10_order_0 1 rfl rfl ?_
  refine ww_i2l C.1 dX10_order_1 rfl ?_
  refine ww_ldc2 C.1 kcRX10_251 dX10_order_2 ?_
  refine ww_aload_n C.1 dX10_order_5 0 rfl rfl ?_
  refine wt_getI C.1 dX10_order_6 flRX10_29 tm57 rfl ?_
  refine ww_iconst C.1 (v := (1 : Int32)) dX10_order_9 (by decide) ?_
  refine ww_isub C.1 dX10_order_10 ?_
  refine ww_i2l C.1 dX10_order_11 rfl ?_
  refine ww_sI C fX10_in (And.intro (by decide) (by decide)) mlRX10_101 dX10_order_12 (As := [.long x1.toInt64, .long (-1 : Int64), .long ((M 57 7) - (1 : Int32)).toInt64]) (rest := []) rfl rfl rfl (Nat.le_of_ble_eq_true rfl) (WpI.of (L0 := [(0, .long x1.toInt64), (2, .long (-1 : Int64)), (4, .long ((M 57 7) - (1 : Int32)).toInt64)]) rfl rfl (Nat.le_of_ble_eq_true rfl) fun X1 Q1 C1 k1 => ?_)
  refine ww_lload_n C1.1 dX10_in_0 0 rfl rfl ?_
  refine ww_lload_n C1.1 dX10_in_1 1 rfl rfl ?_
  refine ww_lcmp C1.1 dX10_in_2 ?_
  refine ww_if_lt (x := (lg_cmp x1.toInt64 (-1 : Int64))) C1.1 (tgt := 17) dX10_in_3 (by decide) (fun hh => ?_) (fun hh => ?_)
  · replace h := h.1 ((in_lt (a := x1) (b := (-1 : Int32)) (by first | rfl | decide) (by first | rfl | decide)).mp hh)
    refine ww_iconst C1.1 (v := (0 : Int32)) dX10_in_17 (by decide) ?_
    refine ww_zret C1.1 dX10_in_18 rfl (Or.inl rfl) ?_
    refine k1 _ _ ?_
    refine ww_if_ne (x := (0 : Int32)) C.1 (tgt := 20) dX10_order_15 (by decide) (fun hh => absurd hh (by decide)) (fun _ => ?_)
    refine ww_iconst C.1 (v := (-1 : Int32)) dX10_order_18 (by decide) ?_
    refine ww_iret C.1 dX10_order_19 rfl ?_
    exact h
  · replace h := h.2 (fun z => hh ((in_lt (a := x1) (b := (-1 : Int32)) (by first | rfl | decide) (by first | rfl | decide)).mpr z))
    refine ww_lload_n C1.1 dX10_in_6 0 rfl rfl ?_
    refine ww_lload C1.1 dX10_in_7 2 rfl ?_
    refine ww_lcmp C1.1 dX10_in_9 ?_
    refine ww_if_gt (x := (lg_cmp x1.toInt64 ((M 57 7) - (1 : Int32)).toInt64)) C1.1 (tgt := 17) dX10_in_10 (by decide) (fun hh => ?_) (fun hh => ?_)
    · replace h := h.1 ((in_gt (a := x1) (b := ((M 57 7) - (1 : Int32))) (by first | rfl | decide) (by first | rfl | decide)).mp hh)
      refine ww_iconst C1.1 (v := (0 : Int32)) dX10_in_17 (by decide) ?_
      refine ww_zret C1.1 dX10_in_18 rfl (Or.inl rfl) ?_
      refine k1 _ _ ?_
      refine ww_if_ne (x := (0 : Int32)) C.1 (tgt := 20) dX10_order_15 (by decide) (fun hh => absurd hh (by decide)) (fun _ => ?_)
      refine ww_iconst C.1 (v := (-1 : Int32)) dX10_order_18 (by decide) ?_
      refine ww_iret C.1 dX10_order_19 rfl ?_
      exact h
    · replace h := h.2 (fun z => hh ((in_gt (a := x1) (b := ((M 57 7) - (1 : Int32))) (by first | rfl | decide) (by first | rfl | decide)).mpr z))
      refine ww_iconst C1.1 (v := (1 : Int32)) dX10_in_13 (by decide) ?_
      refine ww_goto C1.1 (tgt := 18) dX10_in_14 (by decide) ?_
      refine ww_zret C1.1 dX10_in_18 rfl (Or.inr rfl) ?_
      refine k1 _ _ ?_
      refine ww_if_ne (x := (1 : Int32)) C.1 (tgt := 20) dX10_order_15 (by decide) (fun _ => ?_) (fun hh => absurd hh (by decide))
      refine ww_iconst C.1 (v := (0 : Int32)) dX10_order_20 (by decide) ?_
      refine ww_istore_n C.1 dX10_order_21 rfl (by decide) [1, 2, 0] (L' := [(0, .ref 57), (1, .int x1), (2, .int (0 : Int32))]) rfl ?_
      exact h
set_option maxHeartbeats 4000000 in
set_option maxRecDepth 20000 in
theorem bX10_order_22 {X : CX} {Q : State → Prop} {M : Mem} {x1 x2 : Int32} (C : Ok0 X mX10_order (TTc ++ TTm))
    (h : (((7 : Int32) ≤ x2 → WW X Q 57 [(0, .ref 57), (1, .int x1), (2, .int (-1 : Int32)), (3, .int (1 : Int32))] [] (M, (gj gm), TTc ++ TTm)) ∧ (¬ (7 : Int32) ≤ x2 → (vp_in x2 21 ∧ (vp_in x2 7 ∧ (vp_in x2 21 ∧ WW X Q 22 [(0, .ref 57), (1, .int x1), (2, .int (x2 + (1 : Int32)))] [] ((wr (wr M 78 x2.toNatClampNeg (M 64 x2.toNatClampNeg)) 64 x2.toNatClampNeg x2), (gj gm), TTc ++ TTm))))))) :
    WW X Q 22 [(0, .ref 57), (1, .int x1), (2, .int x2)] [] (M, (gj gm), TTc ++ TTm) := by
  refine ww_iload_n C.1 dX10_order_22 2 rfl rfl ?_
  refine ww_bipush C.1 (v := (7 : Int32)) dX10_order_23 (by decide) ?_
  refine ww_icmp_ge (x := x2) (y := (7 : Int32)) C.1 (tgt := 53) dX10_order_25 (by decide) (fun hh => ?_) (fun hh => ?_)
  · replace h := h.1 hh
    refine ww_iconst C.1 (v := (-1 : Int32)) dX10_order_53 (by decide) ?_
    refine ww_istore_n C.1 dX10_order_54 rfl (by decide) [1, 2, 0] (L' := [(0, .ref 57), (1, .int x1), (2, .int (-1 : Int32))]) rfl ?_
    refine ww_iconst C.1 (v := (1 : Int32)) dX10_order_55 (by decide) ?_
    refine ww_istore_n C.1 dX10_order_56 rfl (by decide) [1, 2, 3, 0] (L' := [(0, .ref 57), (1, .int x1), (2, .int (-1 : Int32)), (3, .int (1 : Int32))]) rfl ?_
    exact h
  · replace h := h.2 hh
    refine ww_aload_n C.1 dX10_order_28 0 rfl rfl ?_
    refine wt_getR C.1 dX10_order_29 flRX10_83 tm57 rfl gm57_36 ?_
    refine ww_iload_n C.1 dX10_order_32 2 rfl rfl ?_
    refine ww_aload_n C.1 dX10_order_33 0 rfl rfl ?_
    refine wt_getR C.1 dX10_order_34 flRX10_38 tm57 rfl gm57_11 ?_
    refine ww_iload_n C.1 dX10_order_37 2 rfl rfl ?_
    refine wt_iald C.1 dX10_order_38 tm64 h.1 ?_
    replace h := h.2
    refine wt_iast C.1 dX10_order_39 tm78 h.1 ?_
    replace h := h.2
    refine ww_aload_n C.1 dX10_order_40 0 rfl rfl ?_
    refine wt_getR C.1 dX10_order_41 flRX10_38 tm57 rfl gm57_11 ?_
    refine ww_iload_n C.1 dX10_order_44 2 rfl rfl ?_
    refine ww_iload_n C.1 dX10_order_45 2 rfl rfl ?_
    refine wt_iast C.1 dX10_order_46 tm64 h.1 ?_
    replace h := h.2
    refine ww_iinc C.1 (v := (x2 + (1 : Int32))) dX10_order_47 2 rfl (by rfl) (by decide) [1, 2, 0] (L' := [(0, .ref 57), (1, .int x1), (2, .int (x2 + (1 : Int32)))]) rfl ?_
    refine ww_goto C.1 (tgt := 22) dX10_order_50 (by decide) ?_
    exact h
set_option maxHeartbeats 4000000 in
set_option maxRecDepth 20000 in
theorem bX10_order_57 {X : CX} {Q : State → Prop} {M : Mem} {x1 x2 x3 : Int32} (C : Ok0 X mX10_order (TTc ++ TTm))
    (h : ((x3 = (0 : Int32) → WW X Q 148 [(0, .ref 57), (1, .int x1), (2, .int x2), (3, .int x3), (4, .int (0 : Int32))] [] (M, (gj gm), TTc ++ TTm)) ∧ (¬ x3 = (0 : Int32) → WpI mX10_stay [.ref 57, .int (M 57 1)] M (gj gm) (TTc ++ TTm) (fun r M' => WW X Q 69 [(0, .ref 57), (1, .int x1), (2, .int x2), (3, .int x3)] [.int r] (M', (gj gm), TTc ++ TTm))))) :
    WW X Q 57 [(0, .ref 57), (1, .int x1), (2, .int x2), (3, .int x3)] [] (M, (gj gm), TTc ++ TTm) := by
  refine ww_iload_n C.1 dX10_order_57 3 rfl rfl ?_
  refine ww_if_eq (x := x3) C.1 (tgt := 145) dX10_order_58 (by decide) (fun hh => ?_) (fun hh => ?_)
  · replace h := h.1 hh
    refine ww_iconst C.1 (v := (0 : Int32)) dX10_order_145 (by decide) ?_
    refine ww_istore C.1 dX10_order_146 (by decide) [1, 2, 3, 4, 0] (L' := [(0, .ref 57), (1, .int x1), (2, .int x2), (3, .int x3), (4, .int (0 : Int32))]) rfl ?_
    exact h
  · replace h := h.2 hh
    refine ww_aload_n C.1 dX10_order_61 0 rfl rfl ?_
    refine ww_aload_n C.1 dX10_order_62 0 rfl rfl ?_
    refine wt_getI C.1 dX10_order_63 flRX10_13 tm57 rfl ?_
    refine ww_vI C fX10_stay (And.intro (by decide) (by decide)) mlRX10_235 dX10_order_66 tm57 (by decide) rfl (As := [.int (M 57 1)]) (rest := []) rfl rfl rfl (Nat.le_of_ble_eq_true rfl) ?_
    exact h
set_option maxHeartbeats 4000000 in
set_option maxRecDepth 20000 in
theorem bX10_order_103 {X : CX} {Q : State → Prop} {M : Mem} {x1 x2 x3 x4 x5 x6 : Int32} (C : Ok0 X mX10_order (TTc ++ TTm))
    (h : (((M 57 7) ≤ x6 → WpI mX10_nextRow [.ref 57] M (gj gm) (TTc ++ TTm) (fun r M' => WW X Q 141 [(0, .ref 57), (1, .int x1), (2, .int x2), (3, .int x3), (4, .int x4), (5, .int x5), (6, .int x6)] [.int r] (M', (gj gm), TTc ++ TTm))) ∧ (¬ (M 57 7) ≤ x6 → ((x5 = (0 : Int32) → WpI mX10_nextRow [.ref 57] M (gj gm) (TTc ++ TTm) (fun r M' => WW X Q 141 [(0, .ref 57), (1, .int x1), (2, .int x2), (3, .int x3), (4, .int x4), (5, .int x5), (6, .int x6)] [.int r] (M', (gj gm), TTc ++ TTm))) ∧ (¬ x5 = (0 : Int32) → (vp_in x6 21 ∧ (vp_in x6 7 ∧ WW X Q 103 [(0, .ref 57), (1, .int x1), (2, .int x2), (3, .int x3), (4, .int x4), (5, .int x5), (6, .int (x6 + (1 : Int32)))] [] ((wr M 79 x6.toNatClampNeg (M 64 x6.toNatClampNeg)), (gj gm), TTc ++ TTm)))))))) :
    WW X Q 103 [(0, .ref 57), (1, .int x1), (2, .int x2), (3, .int x3), (4, .int x4), (5, .int x5), (6, .int x6)] [] (M, (gj gm), TTc ++ TTm) := by
  refine ww_iload C.1 dX10_order_103 6 rfl ?_
  refine ww_aload_n C.1 dX10_order_105 0 rfl rfl ?_
  refine wt_getI C.1 dX10_order_106 flRX10_29 tm57 rfl ?_
  refine ww_icmp_ge (x := x6) (y := (M 57 7)) C.1 (tgt := 137) dX10_order_109 (by decide) (fun hh => ?_) (fun hh => ?_)
  · replace h := h.1 hh
    refine ww_aload_n C.1 dX10_order_137 0 rfl rfl ?_
    refine ww_vI C fX10_nextRow (And.intro (by decide) (by decide)) mlRX10_253 dX10_order_138 tm57 (by decide) rfl (As := []) (rest := []) rfl rfl rfl (Nat.le_of_ble_eq_true rfl) ?_
    exact h
  · replace h := h.2 hh
    refine ww_iload C.1 dX10_order_112 5 rfl ?_
    refine ww_if_eq (x := x5) C.1 (tgt := 137) dX10_order_114 (by decide) (fun hh => ?_) (fun hh => ?_)
    · replace h := h.1 hh
      refine ww_aload_n C.1 dX10_order_137 0 rfl rfl ?_
      refine ww_vI C fX10_nextRow (And.intro (by decide) (by decide)) mlRX10_253 dX10_order_138 tm57 (by decide) rfl (As := []) (rest := []) rfl rfl rfl (Nat.le_of_ble_eq_true rfl) ?_
      exact h
    · replace h := h.2 hh
      refine ww_aload_n C.1 dX10_order_117 0 rfl rfl ?_
      refine wt_getR C.1 dX10_order_118 flRX10_86 tm57 rfl gm57_37 ?_
      refine ww_iload C.1 dX10_order_121 6 rfl ?_
      refine ww_aload_n C.1 dX10_order_123 0 rfl rfl ?_
      refine wt_getR C.1 dX10_order_124 flRX10_38 tm57 rfl gm57_11 ?_
      refine ww_iload C.1 dX10_order_127 6 rfl ?_
      refine wt_iald C.1 dX10_order_129 tm64 h.1 ?_
      replace h := h.2
      refine wt_iast C.1 dX10_order_130 tm79 h.1 ?_
      replace h := h.2
      refine ww_iinc C.1 (v := (x6 + (1 : Int32))) dX10_order_131 6 rfl (by rfl) (by decide) [1, 2, 3, 4, 5, 6, 0] (L' := [(0, .ref 57), (1, .int x1), (2, .int x2), (3, .int x3), (4, .int x4), (5, .int x5), (6, .int (x6 + (1 : Int32)))]) rfl ?_
      refine ww_goto C.1 (tgt := 103) dX10_order_134 (by decide) ?_
      exact h
set_option maxHeartbeats 4000000 in
set_option maxRecDepth 20000 in
theorem bX10_order_148 {X : CX} {Q : State → Prop} {M : Mem} {x1 x2 x3 x4 : Int32} (C : Ok0 X mX10_order (TTc ++ TTm))
    (h : (((7 : Int32) ≤ x4 → (((0 : Int32) ≤ x1 → (vp_in x1 7 ∧ RetOK X Q (some (.int (M 79 x1.toNatClampNeg))) (M, (gj gm), TTc ++ TTm))) ∧ (¬ (0 : Int32) ≤ x1 → RetOK X Q (some (.int x2)) (M, (gj gm), TTc ++ TTm)))) ∧ (¬ (7 : Int32) ≤ x4 → (vp_in x4 7 ∧ (vp_in x4 21 ∧ WW X Q 148 [(0, .ref 57), (1, .int x1), (2, .int x2), (3, .int x3), (4, .int (x4 + (1 : Int32)))] [] ((wr M 64 x4.toNatClampNeg (M 78 x4.toNatClampNeg)), (gj gm), TTc ++ TTm)))))) :
    WW X Q 148 [(0, .ref 57), (1, .int x1), (2, .int x2), (3, .int x3), (4, .int x4)] [] (M, (gj gm), TTc ++ TTm) := by
  refine ww_iload C.1 dX10_order_148 4 rfl ?_
  refine ww_bipush C.1 (v := (7 : Int32)) dX10_order_150 (by decide) ?_
  refine ww_icmp_ge (x := x4) (y := (7 : Int32)) C.1 (tgt := 175) dX10_order_152 (by decide) (fun hh => ?_) (fun hh => ?_)
  · replace h := h.1 hh
    refine ww_iload_n C.1 dX10_order_175 1 rfl rfl ?_
    refine ww_if_ge (x := x1) C.1 (tgt := 183) dX10_order_176 (by decide) (fun hh => ?_) (fun hh => ?_)
    · replace h := h.1 hh
      refine ww_aload_n C.1 dX10_order_183 0 rfl rfl ?_
      refine wt_getR C.1 dX10_order_184 flRX10_86 tm57 rfl gm57_37 ?_
      refine ww_iload_n C.1 dX10_order_187 1 rfl rfl ?_
      refine wt_iald C.1 dX10_order_188 tm79 h.1 ?_
      replace h := h.2
      refine ww_iret C.1 dX10_order_189 rfl ?_
      exact h
    · replace h := h.2 hh
      refine ww_iload_n C.1 dX10_order_179 2 rfl rfl ?_
      refine ww_goto C.1 (tgt := 189) dX10_order_180 (by decide) ?_
      refine ww_iret C.1 dX10_order_189 rfl ?_
      exact h
  · replace h := h.2 hh
    refine ww_aload_n C.1 dX10_order_155 0 rfl rfl ?_
    refine wt_getR C.1 dX10_order_156 flRX10_38 tm57 rfl gm57_11 ?_
    refine ww_iload C.1 dX10_order_159 4 rfl ?_
    refine ww_aload_n C.1 dX10_order_161 0 rfl rfl ?_
    refine wt_getR C.1 dX10_order_162 flRX10_83 tm57 rfl gm57_36 ?_
    refine ww_iload C.1 dX10_order_165 4 rfl ?_
    refine wt_iald C.1 dX10_order_167 tm78 h.1 ?_
    replace h := h.2
    refine wt_iast C.1 dX10_order_168 tm64 h.1 ?_
    replace h := h.2
    refine ww_iinc C.1 (v := (x4 + (1 : Int32))) dX10_order_169 4 rfl (by rfl) (by decide) [1, 2, 3, 4, 0] (L' := [(0, .ref 57), (1, .int x1), (2, .int x2), (3, .int x3), (4, .int (x4 + (1 : Int32)))]) rfl ?_
    refine ww_goto C.1 (tgt := 148) dX10_order_172 (by decide) ?_
    exact h
set_option maxHeartbeats 4000000 in
set_option maxRecDepth 20000 in
theorem bX10_order_69 {X : CX} {Q : State → Prop} {M : Mem} {x1 x2 x3 s0 : Int32} (C : Ok0 X mX10_order (TTc ++ TTm))
    (h : ((x2 < (0 : Int32) → WW X Q 103 [(0, .ref 57), (1, .int x1), (2, .int s0), (3, .int x3), (4, .int s0), (5, .int (1 : Int32)), (6, .int (0 : Int32))] [] (M, (gj gm), TTc ++ TTm)) ∧ (¬ x2 < (0 : Int32) → ((x2 ≤ s0 → WW X Q 103 [(0, .ref 57), (1, .int x1), (2, .int x2), (3, .int x3), (4, .int s0), (5, .int (0 : Int32)), (6, .int (0 : Int32))] [] (M, (gj gm), TTc ++ TTm)) ∧ (¬ x2 ≤ s0 → WW X Q 103 [(0, .ref 57), (1, .int x1), (2, .int s0), (3, .int x3), (4, .int s0), (5, .int (1 : Int32)), (6, .int (0 : Int32))] [] (M, (gj gm), TTc ++ TTm)))))) :
    WW X Q 69 [(0, .ref 57), (1, .int x1), (2, .int x2), (3, .int x3)] [.int s0] (M, (gj gm), TTc ++ TTm) := by
  refine ww_istore C.1 dX10_order_69 (by decide) [1, 2, 3, 4, 0] (L' := [(0, .ref 57), (1, .int x1), (2, .int x2), (3, .int x3), (4, .int s0)]) rfl ?_
  refine ww_iload_n C.1 dX10_order_71 2 rfl rfl ?_
  refine ww_if_lt (x := x2) C.1 (tgt := 81) dX10_order_72 (by decide) (fun hh => ?_) (fun hh => ?_)
  · replace h := h.1 hh
    refine ww_iconst C.1 (v := (1 : Int32)) dX10_order_81 (by decide) ?_
    refine ww_goto C.1 (tgt := 86) dX10_order_82 (by decide) ?_
    refine ww_istore C.1 dX10_order_86 (by decide) [1, 2, 3, 4, 5, 0] (L' := [(0, .ref 57), (1, .int x1), (2, .int x2), (3, .int x3), (4, .int s0), (5, .int (1 : Int32))]) rfl ?_
    refine ww_iload C.1 dX10_order_88 5 rfl ?_
    refine ww_if_eq (x := (1 : Int32)) C.1 (tgt := 98) dX10_order_90 (by decide) (fun hh => absurd hh (by decide)) (fun _ => ?_)
    refine ww_iload C.1 dX10_order_93 4 rfl ?_
    refine ww_goto C.1 (tgt := 99) dX10_order_95 (by decide) ?_
    refine ww_istore_n C.1 dX10_order_99 rfl (by decide) [1, 2, 0, 3, 4, 5] (L' := [(0, .ref 57), (1, .int x1), (2, .int s0), (3, .int x3), (4, .int s0), (5, .int (1 : Int32))]) rfl ?_
    refine ww_iconst C.1 (v := (0 : Int32)) dX10_order_100 (by decide) ?_
    refine ww_istore C.1 dX10_order_101 (by decide) [1, 2, 3, 4, 5, 6, 0] (L' := [(0, .ref 57), (1, .int x1), (2, .int s0), (3, .int x3), (4, .int s0), (5, .int (1 : Int32)), (6, .int (0 : Int32))]) rfl ?_
    exact h
  · replace h := h.2 hh
    refine ww_iload C.1 dX10_order_75 4 rfl ?_
    refine ww_iload_n C.1 dX10_order_77 2 rfl rfl ?_
    refine ww_icmp_ge (x := s0) (y := x2) C.1 (tgt := 85) dX10_order_78 (by decide) (fun hh => ?_) (fun hh => ?_)
    · replace h := h.1 hh
      refine ww_iconst C.1 (v := (0 : Int32)) dX10_order_85 (by decide) ?_
      refine ww_istore C.1 dX10_order_86 (by decide) [1, 2, 3, 4, 5, 0] (L' := [(0, .ref 57), (1, .int x1), (2, .int x2), (3, .int x3), (4, .int s0), (5, .int (0 : Int32))]) rfl ?_
      refine ww_iload C.1 dX10_order_88 5 rfl ?_
      refine ww_if_eq (x := (0 : Int32)) C.1 (tgt := 98) dX10_order_90 (by decide) (fun _ => ?_) (fun hh => absurd hh (by decide))
      refine ww_iload_n C.1 dX10_order_98 2 rfl rfl ?_
      refine ww_istore_n C.1 dX10_order_99 rfl (by decide) [1, 2, 0, 3, 4, 5] (L' := [(0, .ref 57), (1, .int x1), (2, .int x2), (3, .int x3), (4, .int s0), (5, .int (0 : Int32))]) rfl ?_
      refine ww_iconst C.1 (v := (0 : Int32)) dX10_order_100 (by decide) ?_
      refine ww_istore C.1 dX10_order_101 (by decide) [1, 2, 3, 4, 5, 6, 0] (L' := [(0, .ref 57), (1, .int x1), (2, .int x2), (3, .int x3), (4, .int s0), (5, .int (0 : Int32)), (6, .int (0 : Int32))]) rfl ?_
      exact h
    · replace h := h.2 hh
      refine ww_iconst C.1 (v := (1 : Int32)) dX10_order_81 (by decide) ?_
      refine ww_goto C.1 (tgt := 86) dX10_order_82 (by decide) ?_
      refine ww_istore C.1 dX10_order_86 (by decide) [1, 2, 3, 4, 5, 0] (L' := [(0, .ref 57), (1, .int x1), (2, .int x2), (3, .int x3), (4, .int s0), (5, .int (1 : Int32))]) rfl ?_
      refine ww_iload C.1 dX10_order_88 5 rfl ?_
      refine ww_if_eq (x := (1 : Int32)) C.1 (tgt := 98) dX10_order_90 (by decide) (fun hh => absurd hh (by decide)) (fun _ => ?_)
      refine ww_iload C.1 dX10_order_93 4 rfl ?_
      refine ww_goto C.1 (tgt := 99) dX10_order_95 (by decide) ?_
      refine ww_istore_n C.1 dX10_order_99 rfl (by decide) [1, 2, 0, 3, 4, 5] (L' := [(0, .ref 57), (1, .int x1), (2, .int s0), (3, .int x3), (4, .int s0), (5, .int (1 : Int32))]) rfl ?_
      refine ww_iconst C.1 (v := (0 : Int32)) dX10_order_100 (by decide) ?_
      refine ww_istore C.1 dX10_order_101 (by decide) [1, 2, 3, 4, 5, 6, 0] (L' := [(0, .ref 57), (1, .int x1), (2, .int s0), (3, .int x3), (4, .int s0), (5, .int (1 : Int32)), (6, .int (0 : Int32))]) rfl ?_
      exact h
set_option maxHeartbeats 4000000 in
set_option maxRecDepth 20000 in
theorem bX10_order_141 {X : CX} {Q : State → Prop} {M : Mem} {x1 x2 x3 x4 x5 x6 s0 : Int32} (C : Ok0 X mX10_order (TTc ++ TTm))
    (h : WW X Q 57 [(0, .ref 57), (1, .int x1), (2, .int x2), (3, .int s0)] [] (M, (gj gm), TTc ++ TTm)) :
    WW X Q 141 [(0, .ref 57), (1, .int x1), (2, .int x2), (3, .int x3), (4, .int x4), (5, .int x5), (6, .int x6)] [.int s0] (M, (gj gm), TTc ++ TTm) := by
  refine ww_istore_n C.1 dX10_order_141 rfl (by decide) [1, 2, 3, 0, 4, 5, 6] (L' := [(0, .ref 57), (1, .int x1), (2, .int x2), (3, .int s0), (4, .int x4), (5, .int x5), (6, .int x6)]) rfl ?_
  refine ww_goto C.1 (tgt := 57) dX10_order_142 (by decide) ?_
  refine ww_loc [0, 1, 2, 3] (L' := [(0, .ref 57), (1, .int x1), (2, .int x2), (3, .int s0)]) rfl ?_
  exact h
set_option maxHeartbeats 4000000 in
set_option maxRecDepth 20000 in
theorem bX10_cushion_0 {X : CX} {Q : State → Prop} {M : Mem} {x1 : Int32} (C : Ok0 X mX10_cushion (TTc ++ TTm))
    (h : ((x1 < (0 : Int32) → RetOK X Q (some (.int (-1 : Int32))) (M, (gj gm), TTc ++ TTm)) ∧ (¬ x1 < (0 : Int32) → (((2 : Int32) < x1 → RetOK X Q (some (.int (-1 : Int32))) (M, (gj gm), TTc ++ TTm)) ∧ (¬ (2 : Int32) < x1 → WW X Q 21 [(0, .ref 57), (1, .int x1), (2, .int (0 : Int32)), (3, .int (-1 : Int32)), (4, .int (0 : Int32))] [] (M, (gj gm), TTc ++ TTm)))))) :
    WW X Q 0 [(0, .ref 57), (1, .int x1)] [] (M, (gj gm), TTc ++ TTm) := by
  refine ww_iload_n C.1 dX10_cushion_0 1 rfl rfl ?_
  refine ww_i2l C.1 dX10_cushion_1 rfl ?_
  refine ww_lconst C.1 (v := 0) dX10_cushion_2 (by decide) ?_
  refine ww_ldc2 C.1 kcRX10_148 dX10_cushion_3 ?_
  refine ww_sI C fX10_in (And.intro (by decide) (by decide)) mlRX10_101 dX10_cushion_6 (As := [.long x1.toInt64, .long (0 : Int64), .long (2 : Int64)]) (rest := []) rfl rfl rfl (Nat.le_of_ble_eq_true rfl) (WpI.of (L0 := [(0, .long x1.toInt64), (2, .long (0 : Int64)), (4, .long (2 : Int64))]) rfl rfl (Nat.le_of_ble_eq_true rfl) fun X1 Q1 C1 k1 => ?_)
  refine ww_lload_n C1.1 dX10_in_0 0 rfl rfl ?_
  refine ww_lload_n C1.1 dX10_in_1 1 rfl rfl ?_
  refine ww_lcmp C1.1 dX10_in_2 ?_
  refine ww_if_lt (x := (lg_cmp x1.toInt64 (0 : Int64))) C1.1 (tgt := 17) dX10_in_3 (by decide) (fun hh => ?_) (fun hh => ?_)
  · replace h := h.1 ((in_lt (a := x1) (b := (0 : Int32)) (by first | rfl | decide) (by first | rfl | decide)).mp hh)
    refine ww_iconst C1.1 (v := (0 : Int32)) dX10_in_17 (by decide) ?_
    refine ww_zret C1.1 dX10_in_18 rfl (Or.inl rfl) ?_
    refine k1 _ _ ?_
    refine ww_if_ne (x := (0 : Int32)) C.1 (tgt := 14) dX10_cushion_9 (by decide) (fun hh => absurd hh (by decide)) (fun _ => ?_)
    refine ww_iconst C.1 (v := (-1 : Int32)) dX10_cushion_12 (by decide) ?_
    refine ww_iret C.1 dX10_cushion_13 rfl ?_
    exact h
  · replace h := h.2 (fun z => hh ((in_lt (a := x1) (b := (0 : Int32)) (by first | rfl | decide) (by first | rfl | decide)).mpr z))
    refine ww_lload_n C1.1 dX10_in_6 0 rfl rfl ?_
    refine ww_lload C1.1 dX10_in_7 2 rfl ?_
    refine ww_lcmp C1.1 dX10_in_9 ?_
    refine ww_if_gt (x := (lg_cmp x1.toInt64 (2 : Int64))) C1.1 (tgt := 17) dX10_in_10 (by decide) (fun hh => ?_) (fun hh => ?_)
    · replace h := h.1 ((in_gt (a := x1) (b := (2 : Int32)) (by first | rfl | decide) (by first | rfl | decide)).mp hh)
      refine ww_iconst C1.1 (v := (0 : Int32)) dX10_in_17 (by decide) ?_
      refine ww_zret C1.1 dX10_in_18 rfl (Or.inl rfl) ?_
      refine k1 _ _ ?_
      refine ww_if_ne (x := (0 : Int32)) C.1 (tgt := 14) dX10_cushion_9 (by decide) (fun hh => absurd hh (by decide)) (fun _ => ?_)
      refine ww_iconst C.1 (v := (-1 : Int32)) dX10_cushion_12 (by decide) ?_
      refine ww_iret C.1 dX10_cushion_13 rfl ?_
      exact h
    · replace h := h.2 (fun z => hh ((in_gt (a := x1) (b := (2 : Int32)) (by first | rfl | decide) (by first | rfl | decide)).mpr z))
      refine ww_iconst C1.1 (v := (1 : Int32)) dX10_in_13 (by decide) ?_
      refine ww_goto C1.1 (tgt := 18) dX10_in_14 (by decide) ?_
      refine ww_zret C1.1 dX10_in_18 rfl (Or.inr rfl) ?_
      refine k1 _ _ ?_
      refine ww_if_ne (x := (1 : Int32)) C.1 (tgt := 14) dX10_cushion_9 (by decide) (fun _ => ?_) (fun hh => absurd hh (by decide))
      refine ww_iconst C.1 (v := (0 : Int32)) dX10_cushion_14 (by decide) ?_
      refine ww_istore_n C.1 dX10_cushion_15 rfl (by decide) [1, 2, 0] (L' := [(0, .ref 57), (1, .int x1), (2, .int (0 : Int32))]) rfl ?_
      refine ww_iconst C.1 (v := (-1 : Int32)) dX10_cushion_16 (by decide) ?_
      refine ww_istore_n C.1 dX10_cushion_17 rfl (by decide) [1, 2, 3, 0] (L' := [(0, .ref 57), (1, .int x1), (2, .int (0 : Int32)), (3, .int (-1 : Int32))]) rfl ?_
      refine ww_iconst C.1 (v := (0 : Int32)) dX10_cushion_18 (by decide) ?_
      refine ww_istore C.1 dX10_cushion_19 (by decide) [1, 2, 3, 4, 0] (L' := [(0, .ref 57), (1, .int x1), (2, .int (0 : Int32)), (3, .int (-1 : Int32)), (4, .int (0 : Int32))]) rfl ?_
      exact h
set_option maxHeartbeats 4000000 in
set_option maxRecDepth 20000 in
theorem bX10_cushion_21 {X : CX} {Q : State → Prop} {M : Mem} {x1 x2 x3 x4 : Int32} (C : Ok0 X mX10_cushion (TTc ++ TTm))
    (h : ((((19 : Int32) * (M 57 7)) ≤ x4 → ((¬ x1 = (0 : Int32) → ((¬ x1 = (1 : Int32) → RetOK X Q (some (.int x3)) (M, (gj gm), TTc ++ TTm)) ∧ (x1 = (1 : Int32) → RetOK X Q (some (.int (((x2 - x2 / (19 : Int32) * (19 : Int32)) - (9 : Int32)) + (100 : Int32)))) (M, (gj gm), TTc ++ TTm)))) ∧ (x1 = (0 : Int32) → RetOK X Q (some (.int (x2 / (19 : Int32)))) (M, (gj gm), TTc ++ TTm)))) ∧ (¬ ((19 : Int32) * (M 57 7)) ≤ x4 → (vp_in ((7 : Int32) + (x4 / (19 : Int32))) 21 ∧ (vp_in ((7 : Int32) + (x4 / (19 : Int32))) 21 ∧ WpI mX10_stay [.ref 57, .int (M 57 1)] (wr M 64 ((7 : Int32) + (x4 / (19 : Int32))).toNatClampNeg ((x4 - x4 / (19 : Int32) * (19 : Int32)) - (9 : Int32))) (gj gm) (TTc ++ TTm) (fun r M' => WW X Q 77 [(0, .ref 57), (1, .int x1), (2, .int x2), (3, .int x3), (4, .int x4), (5, .int (M 64 ((7 : Int32) + (x4 / (19 : Int32))).toNatClampNeg))] [.int r] (M', (gj gm), TTc ++ TTm))))))) :
    WW X Q 21 [(0, .ref 57), (1, .int x1), (2, .int x2), (3, .int x3), (4, .int x4)] [] (M, (gj gm), TTc ++ TTm) := by
  refine ww_iload C.1 dX10_cushion_21 4 rfl ?_
  refine ww_bipush C.1 (v := (19 : Int32)) dX10_cushion_23 (by decide) ?_
  refine ww_aload_n C.1 dX10_cushion_25 0 rfl rfl ?_
  refine wt_getI C.1 dX10_cushion_26 flRX10_29 tm57 rfl ?_
  refine ww_imul C.1 dX10_cushion_29 ?_
  refine ww_icmp_ge (x := x4) (y := ((19 : Int32) * (M 57 7))) C.1 (tgt := 130) dX10_cushion_30 (by decide) (fun hh => ?_) (fun hh => ?_)
  · replace h := h.1 hh
    refine ww_iload_n C.1 dX10_cushion_130 1 rfl rfl ?_
    refine ww_if_ne (x := x1) C.1 (tgt := 141) dX10_cushion_131 (by decide) (fun hh => ?_) (fun hh => ?_)
    · replace h := h.1 hh
      refine ww_iload_n C.1 dX10_cushion_141 1 rfl rfl ?_
      refine ww_iconst C.1 (v := (1 : Int32)) dX10_cushion_142 (by decide) ?_
      refine ww_icmp_ne (x := x1) (y := (1 : Int32)) C.1 (tgt := 159) dX10_cushion_143 (by decide) (fun hh => ?_) (fun hh => ?_)
      · replace h := h.1 hh
        refine ww_iload_n C.1 dX10_cushion_159 3 rfl rfl ?_
        refine ww_iret C.1 dX10_cushion_160 rfl ?_
        exact h
      · replace h := h.2 hh
        refine ww_iload_n C.1 dX10_cushion_146 2 rfl rfl ?_
        refine ww_bipush C.1 (v := (19 : Int32)) dX10_cushion_147 (by decide) ?_
        refine ww_irem C.1 dX10_cushion_149 (by decide) ?_
        refine ww_bipush C.1 (v := (9 : Int32)) dX10_cushion_150 (by decide) ?_
        refine ww_isub C.1 dX10_cushion_152 ?_
        refine ww_bipush C.1 (v := (100 : Int32)) dX10_cushion_153 (by decide) ?_
        refine ww_iadd C.1 dX10_cushion_155 ?_
        refine ww_goto C.1 (tgt := 160) dX10_cushion_156 (by decide) ?_
        refine ww_iret C.1 dX10_cushion_160 rfl ?_
        exact h
    · replace h := h.2 hh
      refine ww_iload_n C.1 dX10_cushion_134 2 rfl rfl ?_
      refine ww_bipush C.1 (v := (19 : Int32)) dX10_cushion_135 (by decide) ?_
      refine ww_idiv C.1 dX10_cushion_137 (by decide) ?_
      refine ww_goto C.1 (tgt := 160) dX10_cushion_138 (by decide) ?_
      refine ww_iret C.1 dX10_cushion_160 rfl ?_
      exact h
  · replace h := h.2 hh
    refine ww_aload_n C.1 dX10_cushion_33 0 rfl rfl ?_
    refine wt_getR C.1 dX10_cushion_34 flRX10_38 tm57 rfl gm57_11 ?_
    refine ww_bipush C.1 (v := (7 : Int32)) dX10_cushion_37 (by decide) ?_
    refine ww_iload C.1 dX10_cushion_39 4 rfl ?_
    refine ww_bipush C.1 (v := (19 : Int32)) dX10_cushion_41 (by decide) ?_
    refine ww_idiv C.1 dX10_cushion_43 (by decide) ?_
    refine ww_iadd C.1 dX10_cushion_44 ?_
    refine wt_iald C.1 dX10_cushion_45 tm64 h.1 ?_
    replace h := h.2
    refine ww_istore C.1 dX10_cushion_46 (by decide) [1, 2, 3, 4, 5, 0] (L' := [(0, .ref 57), (1, .int x1), (2, .int x2), (3, .int x3), (4, .int x4), (5, .int (M 64 ((7 : Int32) + (x4 / (19 : Int32))).toNatClampNeg))]) rfl ?_
    refine ww_aload_n C.1 dX10_cushion_48 0 rfl rfl ?_
    refine wt_getR C.1 dX10_cushion_49 flRX10_38 tm57 rfl gm57_11 ?_
    refine ww_bipush C.1 (v := (7 : Int32)) dX10_cushion_52 (by decide) ?_
    refine ww_iload C.1 dX10_cushion_54 4 rfl ?_
    refine ww_bipush C.1 (v := (19 : Int32)) dX10_cushion_56 (by decide) ?_
    refine ww_idiv C.1 dX10_cushion_58 (by decide) ?_
    refine ww_iadd C.1 dX10_cushion_59 ?_
    refine ww_iload C.1 dX10_cushion_60 4 rfl ?_
    refine ww_bipush C.1 (v := (19 : Int32)) dX10_cushion_62 (by decide) ?_
    refine ww_irem C.1 dX10_cushion_64 (by decide) ?_
    refine ww_bipush C.1 (v := (9 : Int32)) dX10_cushion_65 (by decide) ?_
    refine ww_isub C.1 dX10_cushion_67 ?_
    refine wt_iast C.1 dX10_cushion_68 tm64 h.1 ?_
    replace h := h.2
    refine ww_aload_n C.1 dX10_cushion_69 0 rfl rfl ?_
    refine ww_aload_n C.1 dX10_cushion_70 0 rfl rfl ?_
    refine wt_getI C.1 dX10_cushion_71 flRX10_13 tm57 rfl ?_
    refine ww_vI C fX10_stay (And.intro (by decide) (by decide)) mlRX10_235 dX10_cushion_74 tm57 (by decide) rfl (As := [.int (M 57 1)]) (rest := []) rfl rfl rfl (Nat.le_of_ble_eq_true rfl) ?_
    exact h
set_option maxHeartbeats 4000000 in
set_option maxRecDepth 20000 in
theorem bX10_cushion_77 {X : CX} {Q : State → Prop} {M : Mem} {x1 x2 x3 x4 x5 s0 : Int32} (C : Ok0 X mX10_cushion (TTc ++ TTm))
    (h : (vp_in ((7 : Int32) + (x4 / (19 : Int32))) 21 ∧ ((x3 < (0 : Int32) → ((¬ x4 = x4 → WW X Q 21 [(0, .ref 57), (1, .int x1), (2, .int x4), (3, .int x3), (4, .int (x4 + (1 : Int32)))] [] ((wr M 64 ((7 : Int32) + (x4 / (19 : Int32))).toNatClampNeg x5), (gj gm), TTc ++ TTm)) ∧ (x4 = x4 → WW X Q 21 [(0, .ref 57), (1, .int x1), (2, .int x4), (3, .int s0), (4, .int (x4 + (1 : Int32)))] [] ((wr M 64 ((7 : Int32) + (x4 / (19 : Int32))).toNatClampNeg x5), (gj gm), TTc ++ TTm)))) ∧ (¬ x3 < (0 : Int32) → ((x3 ≤ s0 → ((¬ x2 = x4 → WW X Q 21 [(0, .ref 57), (1, .int x1), (2, .int x2), (3, .int x3), (4, .int (x4 + (1 : Int32)))] [] ((wr M 64 ((7 : Int32) + (x4 / (19 : Int32))).toNatClampNeg x5), (gj gm), TTc ++ TTm)) ∧ (x2 = x4 → WW X Q 21 [(0, .ref 57), (1, .int x1), (2, .int x2), (3, .int s0), (4, .int (x4 + (1 : Int32)))] [] ((wr M 64 ((7 : Int32) + (x4 / (19 : Int32))).toNatClampNeg x5), (gj gm), TTc ++ TTm)))) ∧ (¬ x3 ≤ s0 → ((¬ x4 = x4 → WW X Q 21 [(0, .ref 57), (1, .int x1), (2, .int x4), (3, .int x3), (4, .int (x4 + (1 : Int32)))] [] ((wr M 64 ((7 : Int32) + (x4 / (19 : Int32))).toNatClampNeg x5), (gj gm), TTc ++ TTm)) ∧ (x4 = x4 → WW X Q 21 [(0, .ref 57), (1, .int x1), (2, .int x4), (3, .int s0), (4, .int (x4 + (1 : Int32)))] [] ((wr M 64 ((7 : Int32) + (x4 / (19 : Int32))).toNatClampNeg x5), (gj gm), TTc ++ TTm))))))))) :
    WW X Q 77 [(0, .ref 57), (1, .int x1), (2, .int x2), (3, .int x3), (4, .int x4), (5, .int x5)] [.int s0] (M, (gj gm), TTc ++ TTm) := by
  refine ww_istore C.1 dX10_cushion_77 (by decide) [1, 2, 3, 4, 5, 6, 0] (L' := [(0, .ref 57), (1, .int x1), (2, .int x2), (3, .int x3), (4, .int x4), (5, .int x5), (6, .int s0)]) rfl ?_
  refine ww_aload_n C.1 dX10_cushion_79 0 rfl rfl ?_
  refine wt_getR C.1 dX10_cushion_80 flRX10_38 tm57 rfl gm57_11 ?_
  refine ww_bipush C.1 (v := (7 : Int32)) dX10_cushion_83 (by decide) ?_
  refine ww_iload C.1 dX10_cushion_85 4 rfl ?_
  refine ww_bipush C.1 (v := (19 : Int32)) dX10_cushion_87 (by decide) ?_
  refine ww_idiv C.1 dX10_cushion_89 (by decide) ?_
  refine ww_iadd C.1 dX10_cushion_90 ?_
  refine ww_iload C.1 dX10_cushion_91 5 rfl ?_
  refine wt_iast C.1 dX10_cushion_93 tm64 h.1 ?_
  replace h := h.2
  refine ww_iload_n C.1 dX10_cushion_94 3 rfl rfl ?_
  refine ww_if_lt (x := x3) C.1 (tgt := 104) dX10_cushion_95 (by decide) (fun hh => ?_) (fun hh => ?_)
  · replace h := h.1 hh
    refine ww_iload C.1 dX10_cushion_104 4 rfl ?_
    refine ww_goto C.1 (tgt := 110) dX10_cushion_106 (by decide) ?_
    refine ww_istore_n C.1 dX10_cushion_110 rfl (by decide) [1, 2, 0, 3, 4, 5, 6] (L' := [(0, .ref 57), (1, .int x1), (2, .int x4), (3, .int x3), (4, .int x4), (5, .int x5), (6, .int s0)]) rfl ?_
    refine ww_iload_n C.1 dX10_cushion_111 2 rfl rfl ?_
    refine ww_iload C.1 dX10_cushion_112 4 rfl ?_
    refine ww_icmp_ne (x := x4) (y := x4) C.1 (tgt := 122) dX10_cushion_114 (by decide) (fun hh => ?_) (fun hh => ?_)
    · replace h := h.1 hh
      refine ww_iload_n C.1 dX10_cushion_122 3 rfl rfl ?_
      refine ww_istore_n C.1 dX10_cushion_123 rfl (by decide) [1, 2, 3, 0, 4, 5, 6] (L' := [(0, .ref 57), (1, .int x1), (2, .int x4), (3, .int x3), (4, .int x4), (5, .int x5), (6, .int s0)]) rfl ?_
      refine ww_iinc C.1 (v := (x4 + (1 : Int32))) dX10_cushion_124 4 rfl (by rfl) (by decide) [1, 2, 3, 4, 0, 5, 6] (L' := [(0, .ref 57), (1, .int x1), (2, .int x4), (3, .int x3), (4, .int (x4 + (1 : Int32))), (5, .int x5), (6, .int s0)]) rfl ?_
      refine ww_goto C.1 (tgt := 21) dX10_cushion_127 (by decide) ?_
      refine ww_loc [0, 1, 2, 3, 4] (L' := [(0, .ref 57), (1, .int x1), (2, .int x4), (3, .int x3), (4, .int (x4 + (1 : Int32)))]) rfl ?_
      exact h
    · replace h := h.2 hh
      refine ww_iload C.1 dX10_cushion_117 6 rfl ?_
      refine ww_goto C.1 (tgt := 123) dX10_cushion_119 (by decide) ?_
      refine ww_istore_n C.1 dX10_cushion_123 rfl (by decide) [1, 2, 3, 0, 4, 5, 6] (L' := [(0, .ref 57), (1, .int x1), (2, .int x4), (3, .int s0), (4, .int x4), (5, .int x5), (6, .int s0)]) rfl ?_
      refine ww_iinc C.1 (v := (x4 + (1 : Int32))) dX10_cushion_124 4 rfl (by rfl) (by decide) [1, 2, 3, 4, 0, 5, 6] (L' := [(0, .ref 57), (1, .int x1), (2, .int x4), (3, .int s0), (4, .int (x4 + (1 : Int32))), (5, .int x5), (6, .int s0)]) rfl ?_
      refine ww_goto C.1 (tgt := 21) dX10_cushion_127 (by decide) ?_
      refine ww_loc [0, 1, 2, 3, 4] (L' := [(0, .ref 57), (1, .int x1), (2, .int x4), (3, .int s0), (4, .int (x4 + (1 : Int32)))]) rfl ?_
      exact h
  · replace h := h.2 hh
    refine ww_iload C.1 dX10_cushion_98 6 rfl ?_
    refine ww_iload_n C.1 dX10_cushion_100 3 rfl rfl ?_
    refine ww_icmp_ge (x := s0) (y := x3) C.1 (tgt := 109) dX10_cushion_101 (by decide) (fun hh => ?_) (fun hh => ?_)
    · replace h := h.1 hh
      refine ww_iload_n C.1 dX10_cushion_109 2 rfl rfl ?_
      refine ww_istore_n C.1 dX10_cushion_110 rfl (by decide) [1, 2, 0, 3, 4, 5, 6] (L' := [(0, .ref 57), (1, .int x1), (2, .int x2), (3, .int x3), (4, .int x4), (5, .int x5), (6, .int s0)]) rfl ?_
      refine ww_iload_n C.1 dX10_cushion_111 2 rfl rfl ?_
      refine ww_iload C.1 dX10_cushion_112 4 rfl ?_
      refine ww_icmp_ne (x := x2) (y := x4) C.1 (tgt := 122) dX10_cushion_114 (by decide) (fun hh => ?_) (fun hh => ?_)
      · replace h := h.1 hh
        refine ww_iload_n C.1 dX10_cushion_122 3 rfl rfl ?_
        refine ww_istore_n C.1 dX10_cushion_123 rfl (by decide) [1, 2, 3, 0, 4, 5, 6] (L' := [(0, .ref 57), (1, .int x1), (2, .int x2), (3, .int x3), (4, .int x4), (5, .int x5), (6, .int s0)]) rfl ?_
        refine ww_iinc C.1 (v := (x4 + (1 : Int32))) dX10_cushion_124 4 rfl (by rfl) (by decide) [1, 2, 3, 4, 0, 5, 6] (L' := [(0, .ref 57), (1, .int x1), (2, .int x2), (3, .int x3), (4, .int (x4 + (1 : Int32))), (5, .int x5), (6, .int s0)]) rfl ?_
        refine ww_goto C.1 (tgt := 21) dX10_cushion_127 (by decide) ?_
        refine ww_loc [0, 1, 2, 3, 4] (L' := [(0, .ref 57), (1, .int x1), (2, .int x2), (3, .int x3), (4, .int (x4 + (1 : Int32)))]) rfl ?_
        exact h
      · replace h := h.2 hh
        refine ww_iload C.1 dX10_cushion_117 6 rfl ?_
        refine ww_goto C.1 (tgt := 123) dX10_cushion_119 (by decide) ?_
        refine ww_istore_n C.1 dX10_cushion_123 rfl (by decide) [1, 2, 3, 0, 4, 5, 6] (L' := [(0, .ref 57), (1, .int x1), (2, .int x2), (3, .int s0), (4, .int x4), (5, .int x5), (6, .int s0)]) rfl ?_
        refine ww_iinc C.1 (v := (x4 + (1 : Int32))) dX10_cushion_124 4 rfl (by rfl) (by decide) [1, 2, 3, 4, 0, 5, 6] (L' := [(0, .ref 57), (1, .int x1), (2, .int x2), (3, .int s0), (4, .int (x4 + (1 : Int32))), (5, .int x5), (6, .int s0)]) rfl ?_
        refine ww_goto C.1 (tgt := 21) dX10_cushion_127 (by decide) ?_
        refine ww_loc [0, 1, 2, 3, 4] (L' := [(0, .ref 57), (1, .int x1), (2, .int x2), (3, .int s0), (4, .int (x4 + (1 : Int32)))]) rfl ?_
        exact h
    · replace h := h.2 hh
      refine ww_iload C.1 dX10_cushion_104 4 rfl ?_
      refine ww_goto C.1 (tgt := 110) dX10_cushion_106 (by decide) ?_
      refine ww_istore_n C.1 dX10_cushion_110 rfl (by decide) [1, 2, 0, 3, 4, 5, 6] (L' := [(0, .ref 57), (1, .int x1), (2, .int x4), (3, .int x3), (4, .int x4), (5, .int x5), (6, .int s0)]) rfl ?_
      refine ww_iload_n C.1 dX10_cushion_111 2 rfl rfl ?_
      refine ww_iload C.1 dX10_cushion_112 4 rfl ?_
      refine ww_icmp_ne (x := x4) (y := x4) C.1 (tgt := 122) dX10_cushion_114 (by decide) (fun hh => ?_) (fun hh => ?_)
      · replace h := h.1 hh
        refine ww_iload_n C.1 dX10_cushion_122 3 rfl rfl ?_
        refine ww_istore_n C.1 dX10_cushion_123 rfl (by decide) [1, 2, 3, 0, 4, 5, 6] (L' := [(0, .ref 57), (1, .int x1), (2, .int x4), (3, .int x3), (4, .int x4), (5, .int x5), (6, .int s0)]) rfl ?_
        refine ww_iinc C.1 (v := (x4 + (1 : Int32))) dX10_cushion_124 4 rfl (by rfl) (by decide) [1, 2, 3, 4, 0, 5, 6] (L' := [(0, .ref 57), (1, .int x1), (2, .int x4), (3, .int x3), (4, .int (x4 + (1 : Int32))), (5, .int x5), (6, .int s0)]) rfl ?_
        refine ww_goto C.1 (tgt := 21) dX10_cushion_127 (by decide) ?_
        refine ww_loc [0, 1, 2, 3, 4] (L' := [(0, .ref 57), (1, .int x1), (2, .int x4), (3, .int x3), (4, .int (x4 + (1 : Int32)))]) rfl ?_
        exact h
      · replace h := h.2 hh
        refine ww_iload C.1 dX10_cushion_117 6 rfl ?_
        refine ww_goto C.1 (tgt := 123) dX10_cushion_119 (by decide) ?_
        refine ww_istore_n C.1 dX10_cushion_123 rfl (by decide) [1, 2, 3, 0, 4, 5, 6] (L' := [(0, .ref 57), (1, .int x1), (2, .int x4), (3, .int s0), (4, .int x4), (5, .int x5), (6, .int s0)]) rfl ?_
        refine ww_iinc C.1 (v := (x4 + (1 : Int32))) dX10_cushion_124 4 rfl (by rfl) (by decide) [1, 2, 3, 4, 0, 5, 6] (L' := [(0, .ref 57), (1, .int x1), (2, .int x4), (3, .int s0), (4, .int (x4 + (1 : Int32))), (5, .int x5), (6, .int s0)]) rfl ?_
        refine ww_goto C.1 (tgt := 21) dX10_cushion_127 (by decide) ?_
        refine ww_loc [0, 1, 2, 3, 4] (L' := [(0, .ref 57), (1, .int x1), (2, .int x4), (3, .int s0), (4, .int (x4 + (1 : Int32)))]) rfl ?_
        exact h
set_option maxHeartbeats 4000000 in
set_option maxRecDepth 20000 in
theorem bX10_length_0 {X : CX} {Q : State → Prop} {M : Mem} {x1 x2 : Int32} (C : Ok0 X mX10_length (TTc ++ TTm))
    (h : ((x1 < (0 : Int32) → RetOK X Q (some (.int (-1 : Int32))) (M, (gj gm), TTc ++ TTm)) ∧ (¬ x1 < (0 : Int32) → ((((M 57 1) - (1 : Int32)) < x1 → RetOK X Q (some (.int (-1 : Int32))) (M, (gj gm), TTc ++ TTm)) ∧ (¬ ((M 57 1) - (1 : Int32)) < x1 → ((x2 < (0 : Int32) → RetOK X Q (some (.int (-1 : Int32))) (M, (gj gm), TTc ++ TTm)) ∧ (¬ x2 < (0 : Int32) → (((1 : Int32) < x2 → RetOK X Q (some (.int (-1 : Int32))) (M, (gj gm), TTc ++ TTm)) ∧ (¬ (1 : Int32) < x2 → (vp_in x1 4 ∧ WW X Q 37 [(0, .ref 57), (1, .int x1), (2, .int x2), (3, .int (M 58 x1.toNatClampNeg)), (4, .int (0 : Int32)), (5, .int (-1 : Int32)), (6, .int (40 : Int32))] [] (M, (gj gm), TTc ++ TTm))))))))))) :
    WW X Q 0 [(0, .ref 57), (1, .int x1), (2, .int x2)] [] (M, (gj gm), TTc ++ TTm) := by
  refine ww_aload_n C.1 dX10_length_0 0 rfl rfl ?_
  refine ww_iload_n C.1 dX10_length_1 1 rfl rfl ?_
  refine ww_vI C fX10_isBed (And.intro (by decide) (by decide)) mlRX10_193 dX10_length_2 tm57 (by decide) rfl (As := [.int x1]) (rest := []) rfl rfl rfl (Nat.le_of_ble_eq_true rfl) (WpI.of (L0 := [(0, .ref 57), (1, .int x1)]) rfl rfl (Nat.le_of_ble_eq_true rfl) fun X1 Q1 C1 k1 => ?_)
  refine ww_iload_n C1.1 dX10_isBed_0 1 rfl rfl ?_
  refine ww_i2l C1.1 dX10_isBed_1 rfl ?_
  refine ww_lconst C1.1 (v := 0) dX10_isBed_2 (by decide) ?_
  refine ww_aload_n C1.1 dX10_isBed_3 0 rfl rfl ?_
  refine wt_getI C1.1 dX10_isBed_4 flRX10_13 tm57 rfl ?_
  refine ww_iconst C1.1 (v := (1 : Int32)) dX10_isBed_7 (by decide) ?_
  refine ww_isub C1.1 dX10_isBed_8 ?_
  refine ww_i2l C1.1 dX10_isBed_9 rfl ?_
  refine ww_sI C1 fX10_in (And.intro (by decide) (by decide)) mlRX10_101 dX10_isBed_10 (As := [.long x1.toInt64, .long (0 : Int64), .long ((M 57 1) - (1 : Int32)).toInt64]) (rest := []) rfl rfl rfl (Nat.le_of_ble_eq_true rfl) (WpI.of (L0 := [(0, .long x1.toInt64), (2, .long (0 : Int64)), (4, .long ((M 57 1) - (1 : Int32)).toInt64)]) rfl rfl (Nat.le_of_ble_eq_true rfl) fun X2 Q2 C2 k2 => ?_)
  refine ww_lload_n C2.1 dX10_in_0 0 rfl rfl ?_
  refine ww_lload_n C2.1 dX10_in_1 1 rfl rfl ?_
  refine ww_lcmp C2.1 dX10_in_2 ?_
  refine ww_if_lt (x := (lg_cmp x1.toInt64 (0 : Int64))) C2.1 (tgt := 17) dX10_in_3 (by decide) (fun hh => ?_) (fun hh => ?_)
  · replace h := h.1 ((in_lt (a := x1) (b := (0 : Int32)) (by first | rfl | decide) (by first | rfl | decide)).mp hh)
    refine ww_iconst C2.1 (v := (0 : Int32)) dX10_in_17 (by decide) ?_
    refine ww_zret C2.1 dX10_in_18 rfl (Or.inl rfl) ?_
    refine k2 _ _ ?_
    refine ww_zret C1.1 dX10_isBed_13 rfl (Or.inl rfl) ?_
    refine k1 _ _ ?_
    refine ww_if_eq (x := (0 : Int32)) C.1 (tgt := 18) dX10_length_5 (by decide) (fun _ => ?_) (fun hh => absurd hh (by decide))
    refine ww_iconst C.1 (v := (-1 : Int32)) dX10_length_18 (by decide) ?_
    refine ww_iret C.1 dX10_length_19 rfl ?_
    exact h
  · replace h := h.2 (fun z => hh ((in_lt (a := x1) (b := (0 : Int32)) (by first | rfl | decide) (by first | rfl | decide)).mpr z))
    refine ww_lload_n C2.1 dX10_in_6 0 rfl rfl ?_
    refine ww_lload C2.1 dX10_in_7 2 rfl ?_
    refine ww_lcmp C2.1 dX10_in_9 ?_
    refine ww_if_gt (x := (lg_cmp x1.toInt64 ((M 57 1) - (1 : Int32)).toInt64)) C2.1 (tgt := 17) dX10_in_10 (by decide) (fun hh => ?_) (fun hh => ?_)
    · replace h := h.1 ((in_gt (a := x1) (b := ((M 57 1) - (1 : Int32))) (by first | rfl | decide) (by first | rfl | decide)).mp hh)
      refine ww_iconst C2.1 (v := (0 : Int32)) dX10_in_17 (by decide) ?_
      refine ww_zret C2.1 dX10_in_18 rfl (Or.inl rfl) ?_
      refine k2 _ _ ?_
      refine ww_zret C1.1 dX10_isBed_13 rfl (Or.inl rfl) ?_
      refine k1 _ _ ?_
      refine ww_if_eq (x := (0 : Int32)) C.1 (tgt := 18) dX10_length_5 (by decide) (fun _ => ?_) (fun hh => absurd hh (by decide))
      refine ww_iconst C.1 (v := (-1 : Int32)) dX10_length_18 (by decide) ?_
      refine ww_iret C.1 dX10_length_19 rfl ?_
      exact h
    · replace h := h.2 (fun z => hh ((in_gt (a := x1) (b := ((M 57 1) - (1 : Int32))) (by first | rfl | decide) (by first | rfl | decide)).mpr z))
      refine ww_iconst C2.1 (v := (1 : Int32)) dX10_in_13 (by decide) ?_
      refine ww_goto C2.1 (tgt := 18) dX10_in_14 (by decide) ?_
      refine ww_zret C2.1 dX10_in_18 rfl (Or.inr rfl) ?_
      refine k2 _ _ ?_
      refine ww_zret C1.1 dX10_isBed_13 rfl (Or.inr rfl) ?_
      refine k1 _ _ ?_
      refine ww_if_eq (x := (1 : Int32)) C.1 (tgt := 18) dX10_length_5 (by decide) (fun hh => absurd hh (by decide)) (fun _ => ?_)
      refine ww_iload_n C.1 dX10_length_8 2 rfl rfl ?_
      refine ww_i2l C.1 dX10_length_9 rfl ?_
      refine ww_lconst C.1 (v := 0) dX10_length_10 (by decide) ?_
      refine ww_lconst C.1 (v := 1) dX10_length_11 (by decide) ?_
      refine ww_sI C fX10_in (And.intro (by decide) (by decide)) mlRX10_101 dX10_length_12 (As := [.long x2.toInt64, .long (0 : Int64), .long (1 : Int64)]) (rest := []) rfl rfl rfl (Nat.le_of_ble_eq_true rfl) (WpI.of (L0 := [(0, .long x2.toInt64), (2, .long (0 : Int64)), (4, .long (1 : Int64))]) rfl rfl (Nat.le_of_ble_eq_true rfl) fun X3 Q3 C3 k3 => ?_)
      refine ww_lload_n C3.1 dX10_in_0 0 rfl rfl ?_
      refine ww_lload_n C3.1 dX10_in_1 1 rfl rfl ?_
      refine ww_lcmp C3.1 dX10_in_2 ?_
      refine ww_if_lt (x := (lg_cmp x2.toInt64 (0 : Int64))) C3.1 (tgt := 17) dX10_in_3 (by decide) (fun hh => ?_) (fun hh => ?_)
      · replace h := h.1 ((in_lt (a := x2) (b := (0 : Int32)) (by first | rfl | decide) (by first | rfl | decide)).mp hh)
        refine ww_iconst C3.1 (v := (0 : Int32)) dX10_in_17 (by decide) ?_
        refine ww_zret C3.1 dX10_in_18 rfl (Or.inl rfl) ?_
        refine k3 _ _ ?_
        refine ww_if_ne (x := (0 : Int32)) C.1 (tgt := 20) dX10_length_15 (by decide) (fun hh => absurd hh (by decide)) (fun _ => ?_)
        refine ww_iconst C.1 (v := (-1 : Int32)) dX10_length_18 (by decide) ?_
        refine ww_iret C.1 dX10_length_19 rfl ?_
        exact h
      · replace h := h.2 (fun z => hh ((in_lt (a := x2) (b := (0 : Int32)) (by first | rfl | decide) (by first | rfl | decide)).mpr z))
        refine ww_lload_n C3.1 dX10_in_6 0 rfl rfl ?_
        refine ww_lload C3.1 dX10_in_7 2 rfl ?_
        refine ww_lcmp C3.1 dX10_in_9 ?_
        refine ww_if_gt (x := (lg_cmp x2.toInt64 (1 : Int64))) C3.1 (tgt := 17) dX10_in_10 (by decide) (fun hh => ?_) (fun hh => ?_)
        · replace h := h.1 ((in_gt (a := x2) (b := (1 : Int32)) (by first | rfl | decide) (by first | rfl | decide)).mp hh)
          refine ww_iconst C3.1 (v := (0 : Int32)) dX10_in_17 (by decide) ?_
          refine ww_zret C3.1 dX10_in_18 rfl (Or.inl rfl) ?_
          refine k3 _ _ ?_
          refine ww_if_ne (x := (0 : Int32)) C.1 (tgt := 20) dX10_length_15 (by decide) (fun hh => absurd hh (by decide)) (fun _ => ?_)
          refine ww_iconst C.1 (v := (-1 : Int32)) dX10_length_18 (by decide) ?_
          refine ww_iret C.1 dX10_length_19 rfl ?_
          exact h
        · replace h := h.2 (fun z => hh ((in_gt (a := x2) (b := (1 : Int32)) (by first | rfl | decide) (by first | rfl | decide)).mpr z))
          refine ww_iconst C3.1 (v := (1 : Int32)) dX10_in_13 (by decide) ?_
          refine ww_goto C3.1 (tgt := 18) dX10_in_14 (by decide) ?_
          refine ww_zret C3.1 dX10_in_18 rfl (Or.inr rfl) ?_
          refine k3 _ _ ?_
          refine ww_if_ne (x := (1 : Int32)) C.1 (tgt := 20) dX10_length_15 (by decide) (fun _ => ?_) (fun hh => absurd hh (by decide))
          refine ww_aload_n C.1 dX10_length_20 0 rfl rfl ?_
          refine wt_getR C.1 dX10_length_21 flRX10_7 tm57 rfl gm57_0 ?_
          refine ww_iload_n C.1 dX10_length_24 1 rfl rfl ?_
          refine wt_iald C.1 dX10_length_25 tm58 h.1 ?_
          replace h := h.2
          refine ww_istore_n C.1 dX10_length_26 rfl (by decide) [1, 2, 3, 0] (L' := [(0, .ref 57), (1, .int x1), (2, .int x2), (3, .int (M 58 x1.toNatClampNeg))]) rfl ?_
          refine ww_iconst C.1 (v := (0 : Int32)) dX10_length_27 (by decide) ?_
          refine ww_istore C.1 dX10_length_28 (by decide) [1, 2, 3, 4, 0] (L' := [(0, .ref 57), (1, .int x1), (2, .int x2), (3, .int (M 58 x1.toNatClampNeg)), (4, .int (0 : Int32))]) rfl ?_
          refine ww_iconst C.1 (v := (-1 : Int32)) dX10_length_30 (by decide) ?_
          refine ww_istore C.1 dX10_length_31 (by decide) [1, 2, 3, 4, 5, 0] (L' := [(0, .ref 57), (1, .int x1), (2, .int x2), (3, .int (M 58 x1.toNatClampNeg)), (4, .int (0 : Int32)), (5, .int (-1 : Int32))]) rfl ?_
          refine ww_bipush C.1 (v := (40 : Int32)) dX10_length_33 (by decide) ?_
          refine ww_istore C.1 dX10_length_35 (by decide) [1, 2, 3, 4, 5, 6, 0] (L' := [(0, .ref 57), (1, .int x1), (2, .int x2), (3, .int (M 58 x1.toNatClampNeg)), (4, .int (0 : Int32)), (5, .int (-1 : Int32)), (6, .int (40 : Int32))]) rfl ?_
          exact h
set_option maxHeartbeats 4000000 in
set_option maxRecDepth 20000 in
theorem bX10_length_37 {X : CX} {Q : State → Prop} {M : Mem} {x1 x2 x3 x4 x5 x6 : Int32} (C : Ok0 X mX10_length (TTc ++ TTm))
    (h : (((99 : Int32) < x6 → (vp_in x1 4 ∧ ((¬ x2 = (0 : Int32) → RetOK X Q (some (.int x5)) ((wr M 58 x1.toNatClampNeg x3), (gj gm), TTc ++ TTm)) ∧ (x2 = (0 : Int32) → RetOK X Q (some (.int x4)) ((wr M 58 x1.toNatClampNeg x3), (gj gm), TTc ++ TTm))))) ∧ (¬ (99 : Int32) < x6 → (vp_in x1 4 ∧ WpI mX10_stay [.ref 57, .int (M 57 1)] (wr M 58 x1.toNatClampNeg x6) (gj gm) (TTc ++ TTm) (fun r M' => WW X Q 60 [(0, .ref 57), (1, .int x1), (2, .int x2), (3, .int x3), (4, .int x4), (5, .int x5), (6, .int x6)] [.int r] (M', (gj gm), TTc ++ TTm)))))) :
    WW X Q 37 [(0, .ref 57), (1, .int x1), (2, .int x2), (3, .int x3), (4, .int x4), (5, .int x5), (6, .int x6)] [] (M, (gj gm), TTc ++ TTm) := by
  refine ww_iload C.1 dX10_length_37 6 rfl ?_
  refine ww_bipush C.1 (v := (99 : Int32)) dX10_length_39 (by decide) ?_
  refine ww_icmp_gt (x := x6) (y := (99 : Int32)) C.1 (tgt := 105) dX10_length_41 (by decide) (fun hh => ?_) (fun hh => ?_)
  · replace h := h.1 hh
    refine ww_aload_n C.1 dX10_length_105 0 rfl rfl ?_
    refine wt_getR C.1 dX10_length_106 flRX10_7 tm57 rfl gm57_0 ?_
    refine ww_iload_n C.1 dX10_length_109 1 rfl rfl ?_
    refine ww_iload_n C.1 dX10_length_110 3 rfl rfl ?_
    refine wt_iast C.1 dX10_length_111 tm58 h.1 ?_
    replace h := h.2
    refine ww_iload_n C.1 dX10_length_112 2 rfl rfl ?_
    refine ww_if_ne (x := x2) C.1 (tgt := 121) dX10_length_113 (by decide) (fun hh => ?_) (fun hh => ?_)
    · replace h := h.1 hh
      refine ww_iload C.1 dX10_length_121 5 rfl ?_
      refine ww_iret C.1 dX10_length_123 rfl ?_
      exact h
    · replace h := h.2 hh
      refine ww_iload C.1 dX10_length_116 4 rfl ?_
      refine ww_goto C.1 (tgt := 123) dX10_length_118 (by decide) ?_
      refine ww_iret C.1 dX10_length_123 rfl ?_
      exact h
  · replace h := h.2 hh
    refine ww_aload_n C.1 dX10_length_44 0 rfl rfl ?_
    refine wt_getR C.1 dX10_length_45 flRX10_7 tm57 rfl gm57_0 ?_
    refine ww_iload_n C.1 dX10_length_48 1 rfl rfl ?_
    refine ww_iload C.1 dX10_length_49 6 rfl ?_
    refine wt_iast C.1 dX10_length_51 tm58 h.1 ?_
    replace h := h.2
    refine ww_aload_n C.1 dX10_length_52 0 rfl rfl ?_
    refine ww_aload_n C.1 dX10_length_53 0 rfl rfl ?_
    refine wt_getI C.1 dX10_length_54 flRX10_13 tm57 rfl ?_
    refine ww_vI C fX10_stay (And.intro (by decide) (by decide)) mlRX10_235 dX10_length_57 tm57 (by decide) rfl (As := [.int (M 57 1)]) (rest := []) rfl rfl rfl (Nat.le_of_ble_eq_true rfl) ?_
    exact h
set_option maxHeartbeats 4000000 in
set_option maxRecDepth 20000 in
theorem bX10_length_60 {X : CX} {Q : State → Prop} {M : Mem} {x1 x2 x3 x4 x5 x6 s0 : Int32} (C : Ok0 X mX10_length (TTc ++ TTm))
    (h : ((x5 < (0 : Int32) → ((¬ x6 = x6 → WW X Q 37 [(0, .ref 57), (1, .int x1), (2, .int x2), (3, .int x3), (4, .int x6), (5, .int x5), (6, .int (x6 + (1 : Int32)))] [] (M, (gj gm), TTc ++ TTm)) ∧ (x6 = x6 → WW X Q 37 [(0, .ref 57), (1, .int x1), (2, .int x2), (3, .int x3), (4, .int x6), (5, .int s0), (6, .int (x6 + (1 : Int32)))] [] (M, (gj gm), TTc ++ TTm)))) ∧ (¬ x5 < (0 : Int32) → ((x5 ≤ s0 → ((¬ x4 = x6 → WW X Q 37 [(0, .ref 57), (1, .int x1), (2, .int x2), (3, .int x3), (4, .int x4), (5, .int x5), (6, .int (x6 + (1 : Int32)))] [] (M, (gj gm), TTc ++ TTm)) ∧ (x4 = x6 → WW X Q 37 [(0, .ref 57), (1, .int x1), (2, .int x2), (3, .int x3), (4, .int x4), (5, .int s0), (6, .int (x6 + (1 : Int32)))] [] (M, (gj gm), TTc ++ TTm)))) ∧ (¬ x5 ≤ s0 → ((¬ x6 = x6 → WW X Q 37 [(0, .ref 57), (1, .int x1), (2, .int x2), (3, .int x3), (4, .int x6), (5, .int x5), (6, .int (x6 + (1 : Int32)))] [] (M, (gj gm), TTc ++ TTm)) ∧ (x6 = x6 → WW X Q 37 [(0, .ref 57), (1, .int x1), (2, .int x2), (3, .int x3), (4, .int x6), (5, .int s0), (6, .int (x6 + (1 : Int32)))] [] (M, (gj gm), TTc ++ TTm)))))))) :
    WW X Q 60 [(0, .ref 57), (1, .int x1), (2, .int x2), (3, .int x3), (4, .int x4), (5, .int x5), (6, .int x6)] [.int s0] (M, (gj gm), TTc ++ TTm) := by
  refine ww_istore C.1 dX10_length_60 (by decide) [1, 2, 3, 4, 5, 6, 7, 0] (L' := [(0, .ref 57), (1, .int x1), (2, .int x2), (3, .int x3), (4, .int x4), (5, .int x5), (6, .int x6), (7, .int s0)]) rfl ?_
  refine ww_iload C.1 dX10_length_62 5 rfl ?_
  refine ww_if_lt (x := x5) C.1 (tgt := 74) dX10_length_64 (by decide) (fun hh => ?_) (fun hh => ?_)
  · replace h := h.1 hh
    refine ww_iload C.1 dX10_length_74 6 rfl ?_
    refine ww_goto C.1 (tgt := 81) dX10_length_76 (by decide) ?_
    refine ww_istore C.1 dX10_length_81 (by decide) [1, 2, 3, 4, 0, 5, 6, 7] (L' := [(0, .ref 57), (1, .int x1), (2, .int x2), (3, .int x3), (4, .int x6), (5, .int x5), (6, .int x6), (7, .int s0)]) rfl ?_
    refine ww_iload C.1 dX10_length_83 4 rfl ?_
    refine ww_iload C.1 dX10_length_85 6 rfl ?_
    refine ww_icmp_ne (x := x6) (y := x6) C.1 (tgt := 95) dX10_length_87 (by decide) (fun hh => ?_) (fun hh => ?_)
    · replace h := h.1 hh
      refine ww_iload C.1 dX10_length_95 5 rfl ?_
      refine ww_istore C.1 dX10_length_97 (by decide) [1, 2, 3, 4, 5, 0, 6, 7] (L' := [(0, .ref 57), (1, .int x1), (2, .int x2), (3, .int x3), (4, .int x6), (5, .int x5), (6, .int x6), (7, .int s0)]) rfl ?_
      refine ww_iinc C.1 (v := (x6 + (1 : Int32))) dX10_length_99 6 rfl (by rfl) (by decide) [1, 2, 3, 4, 5, 6, 0, 7] (L' := [(0, .ref 57), (1, .int x1), (2, .int x2), (3, .int x3), (4, .int x6), (5, .int x5), (6, .int (x6 + (1 : Int32))), (7, .int s0)]) rfl ?_
      refine ww_goto C.1 (tgt := 37) dX10_length_102 (by decide) ?_
      refine ww_loc [0, 1, 2, 3, 4, 5, 6] (L' := [(0, .ref 57), (1, .int x1), (2, .int x2), (3, .int x3), (4, .int x6), (5, .int x5), (6, .int (x6 + (1 : Int32)))]) rfl ?_
      exact h
    · replace h := h.2 hh
      refine ww_iload C.1 dX10_length_90 7 rfl ?_
      refine ww_goto C.1 (tgt := 97) dX10_length_92 (by decide) ?_
      refine ww_istore C.1 dX10_length_97 (by decide) [1, 2, 3, 4, 5, 0, 6, 7] (L' := [(0, .ref 57), (1, .int x1), (2, .int x2), (3, .int x3), (4, .int x6), (5, .int s0), (6, .int x6), (7, .int s0)]) rfl ?_
      refine ww_iinc C.1 (v := (x6 + (1 : Int32))) dX10_length_99 6 rfl (by rfl) (by decide) [1, 2, 3, 4, 5, 6, 0, 7] (L' := [(0, .ref 57), (1, .int x1), (2, .int x2), (3, .int x3), (4, .int x6), (5, .int s0), (6, .int (x6 + (1 : Int32))), (7, .int s0)]) rfl ?_
      refine ww_goto C.1 (tgt := 37) dX10_length_102 (by decide) ?_
      refine ww_loc [0, 1, 2, 3, 4, 5, 6] (L' := [(0, .ref 57), (1, .int x1), (2, .int x2), (3, .int x3), (4, .int x6), (5, .int s0), (6, .int (x6 + (1 : Int32)))]) rfl ?_
      exact h
  · replace h := h.2 hh
    refine ww_iload C.1 dX10_length_67 7 rfl ?_
    refine ww_iload C.1 dX10_length_69 5 rfl ?_
    refine ww_icmp_ge (x := s0) (y := x5) C.1 (tgt := 79) dX10_length_71 (by decide) (fun hh => ?_) (fun hh => ?_)
    · replace h := h.1 hh
      refine ww_iload C.1 dX10_length_79 4 rfl ?_
      refine ww_istore C.1 dX10_length_81 (by decide) [1, 2, 3, 4, 0, 5, 6, 7] (L' := [(0, .ref 57), (1, .int x1), (2, .int x2), (3, .int x3), (4, .int x4), (5, .int x5), (6, .int x6), (7, .int s0)]) rfl ?_
      refine ww_iload C.1 dX10_length_83 4 rfl ?_
      refine ww_iload C.1 dX10_length_85 6 rfl ?_
      refine ww_icmp_ne (x := x4) (y := x6) C.1 (tgt := 95) dX10_length_87 (by decide) (fun hh => ?_) (fun hh => ?_)
      · replace h := h.1 hh
        refine ww_iload C.1 dX10_length_95 5 rfl ?_
        refine ww_istore C.1 dX10_length_97 (by decide) [1, 2, 3, 4, 5, 0, 6, 7] (L' := [(0, .ref 57), (1, .int x1), (2, .int x2), (3, .int x3), (4, .int x4), (5, .int x5), (6, .int x6), (7, .int s0)]) rfl ?_
        refine ww_iinc C.1 (v := (x6 + (1 : Int32))) dX10_length_99 6 rfl (by rfl) (by decide) [1, 2, 3, 4, 5, 6, 0, 7] (L' := [(0, .ref 57), (1, .int x1), (2, .int x2), (3, .int x3), (4, .int x4), (5, .int x5), (6, .int (x6 + (1 : Int32))), (7, .int s0)]) rfl ?_
        refine ww_goto C.1 (tgt := 37) dX10_length_102 (by decide) ?_
        refine ww_loc [0, 1, 2, 3, 4, 5, 6] (L' := [(0, .ref 57), (1, .int x1), (2, .int x2), (3, .int x3), (4, .int x4), (5, .int x5), (6, .int (x6 + (1 : Int32)))]) rfl ?_
        exact h
      · replace h := h.2 hh
        refine ww_iload C.1 dX10_length_90 7 rfl ?_
        refine ww_goto C.1 (tgt := 97) dX10_length_92 (by decide) ?_
        refine ww_istore C.1 dX10_length_97 (by decide) [1, 2, 3, 4, 5, 0, 6, 7] (L' := [(0, .ref 57), (1, .int x1), (2, .int x2), (3, .int x3), (4, .int x4), (5, .int s0), (6, .int x6), (7, .int s0)]) rfl ?_
        refine ww_iinc C.1 (v := (x6 + (1 : Int32))) dX10_length_99 6 rfl (by rfl) (by decide) [1, 2, 3, 4, 5, 6, 0, 7] (L' := [(0, .ref 57), (1, .int x1), (2, .int x2), (3, .int x3), (4, .int x4), (5, .int s0), (6, .int (x6 + (1 : Int32))), (7, .int s0)]) rfl ?_
        refine ww_goto C.1 (tgt := 37) dX10_length_102 (by decide) ?_
        refine ww_loc [0, 1, 2, 3, 4, 5, 6] (L' := [(0, .ref 57), (1, .int x1), (2, .int x2), (3, .int x3), (4, .int x4), (5, .int s0), (6, .int (x6 + (1 : Int32)))]) rfl ?_
        exact h
    · replace h := h.2 hh
      refine ww_iload C.1 dX10_length_74 6 rfl ?_
      refine ww_goto C.1 (tgt := 81) dX10_length_76 (by decide) ?_
      refine ww_istore C.1 dX10_length_81 (by decide) [1, 2, 3, 4, 0, 5, 6, 7] (L' := [(0, .ref 57), (1, .int x1), (2, .int x2), (3, .int x3), (4, .int x6), (5, .int x5), (6, .int x6), (7, .int s0)]) rfl ?_
      refine ww_iload C.1 dX10_length_83 4 rfl ?_
      refine ww_iload C.1 dX10_length_85 6 rfl ?_
      refine ww_icmp_ne (x := x6) (y := x6) C.1 (tgt := 95) dX10_length_87 (by decide) (fun hh => ?_) (fun hh => ?_)
      · replace h := h.1 hh
        refine ww_iload C.1 dX10_length_95 5 rfl ?_
        refine ww_istore C.1 dX10_length_97 (by decide) [1, 2, 3, 4, 5, 0, 6, 7] (L' := [(0, .ref 57), (1, .int x1), (2, .int x2), (3, .int x3), (4, .int x6), (5, .int x5), (6, .int x6), (7, .int s0)]) rfl ?_
        refine ww_iinc C.1 (v := (x6 + (1 : Int32))) dX10_length_99 6 rfl (by rfl) (by decide) [1, 2, 3, 4, 5, 6, 0, 7] (L' := [(0, .ref 57), (1, .int x1), (2, .int x2), (3, .int x3), (4, .int x6), (5, .int x5), (6, .int (x6 + (1 : Int32))), (7, .int s0)]) rfl ?_
        refine ww_goto C.1 (tgt := 37) dX10_length_102 (by decide) ?_
        refine ww_loc [0, 1, 2, 3, 4, 5, 6] (L' := [(0, .ref 57), (1, .int x1), (2, .int x2), (3, .int x3), (4, .int x6), (5, .int x5), (6, .int (x6 + (1 : Int32)))]) rfl ?_
        exact h
      · replace h := h.2 hh
        refine ww_iload C.1 dX10_length_90 7 rfl ?_
        refine ww_goto C.1 (tgt := 97) dX10_length_92 (by decide) ?_
        refine ww_istore C.1 dX10_length_97 (by decide) [1, 2, 3, 4, 5, 0, 6, 7] (L' := [(0, .ref 57), (1, .int x1), (2, .int x2), (3, .int x3), (4, .int x6), (5, .int s0), (6, .int x6), (7, .int s0)]) rfl ?_
        refine ww_iinc C.1 (v := (x6 + (1 : Int32))) dX10_length_99 6 rfl (by rfl) (by decide) [1, 2, 3, 4, 5, 6, 0, 7] (L' := [(0, .ref 57), (1, .int x1), (2, .int x2), (3, .int x3), (4, .int x6), (5, .int s0), (6, .int (x6 + (1 : Int32))), (7, .int s0)]) rfl ?_
        refine ww_goto C.1 (tgt := 37) dX10_length_102 (by decide) ?_
        refine ww_loc [0, 1, 2, 3, 4, 5, 6] (L' := [(0, .ref 57), (1, .int x1), (2, .int x2), (3, .int x3), (4, .int x6), (5, .int s0), (6, .int (x6 + (1 : Int32)))]) rfl ?_
        exact h
set_option maxHeartbeats 4000000 in
set_option maxRecDepth 20000 in
theorem bX10_law_0 {X : CX} {Q : State → Prop} {M : Mem} (C : Ok0 X mX10_law (TTc ++ TTm))
    (h : WW X Q 12 [(0, .ref 57), (1, .int (M 57 10)), (2, .int (0 : Int32)), (3, .int (-1 : Int32)), (4, .int (0 : Int32))] [] (M, (gj gm), TTc ++ TTm)) :
    WW X Q 0 [(0, .ref 57)] [] (M, (gj gm), TTc ++ TTm) := by
  refine ww_aload_n C.1 dX10_law_0 0 rfl rfl ?_
  refine wt_getI C.1 dX10_law_1 flRX10_35 tm57 rfl ?_
  refine ww_istore_n C.1 dX10_law_4 rfl (by decide) [1, 0] (L' := [(0, .ref 57), (1, .int (M 57 10))]) rfl ?_
  refine ww_iconst C.1 (v := (0 : Int32)) dX10_law_5 (by decide) ?_
  refine ww_istore_n C.1 dX10_law_6 rfl (by decide) [1, 2, 0] (L' := [(0, .ref 57), (1, .int (M 57 10)), (2, .int (0 : Int32))]) rfl ?_
  refine ww_iconst C.1 (v := (-1 : Int32)) dX10_law_7 (by decide) ?_
  refine ww_istore_n C.1 dX10_law_8 rfl (by decide) [1, 2, 3, 0] (L' := [(0, .ref 57), (1, .int (M 57 10)), (2, .int (0 : Int32)), (3, .int (-1 : Int32))]) rfl ?_
  refine ww_iconst C.1 (v := (0 : Int32)) dX10_law_9 (by decide) ?_
  refine ww_istore C.1 dX10_law_10 (by decide) [1, 2, 3, 4, 0] (L' := [(0, .ref 57), (1, .int (M 57 10)), (2, .int (0 : Int32)), (3, .int (-1 : Int32)), (4, .int (0 : Int32))]) rfl ?_
  exact h
set_option maxHeartbeats 4000000 in
set_option maxRecDepth 20000 in
theorem bX10_law_12 {X : CX} {Q : State → Prop} {M : Mem} {x1 x2 x3 x4 : Int32} (C : Ok0 X mX10_law (TTc ++ TTm))
    (h : (((3 : Int32) ≤ x4 → RetOK X Q (some (.int x2)) ((wr M 57 10 x1), (gj gm), TTc ++ TTm)) ∧ (¬ (3 : Int32) ≤ x4 → WpI mX10_stay [.ref 57, .int (M 57 1)] (wr M 57 10 x4) (gj gm) (TTc ++ TTm) (fun r M' => WW X Q 32 [(0, .ref 57), (1, .int x1), (2, .int x2), (3, .int x3), (4, .int x4)] [.int r] (M', (gj gm), TTc ++ TTm))))) :
    WW X Q 12 [(0, .ref 57), (1, .int x1), (2, .int x2), (3, .int x3), (4, .int x4)] [] (M, (gj gm), TTc ++ TTm) := by
  refine ww_iload C.1 dX10_law_12 4 rfl ?_
  refine ww_iconst C.1 (v := (3 : Int32)) dX10_law_14 (by decide) ?_
  refine ww_icmp_ge (x := x4) (y := (3 : Int32)) C.1 (tgt := 70) dX10_law_15 (by decide) (fun hh => ?_) (fun hh => ?_)
  · replace h := h.1 hh
    refine ww_aload_n C.1 dX10_law_70 0 rfl rfl ?_
    refine ww_iload_n C.1 dX10_law_71 1 rfl rfl ?_
    refine wt_putI C.1 dX10_law_72 flRX10_35 tm57 rfl ?_
    refine ww_iload_n C.1 dX10_law_75 2 rfl rfl ?_
    refine ww_iret C.1 dX10_law_76 rfl ?_
    exact h
  · replace h := h.2 hh
    refine ww_aload_n C.1 dX10_law_18 0 rfl rfl ?_
    refine ww_iload C.1 dX10_law_19 4 rfl ?_
    refine wt_putI C.1 dX10_law_21 flRX10_35 tm57 rfl ?_
    refine ww_aload_n C.1 dX10_law_24 0 rfl rfl ?_
    refine ww_aload_n C.1 dX10_law_25 0 rfl rfl ?_
    refine wt_getI C.1 dX10_law_26 flRX10_13 tm57 rfl ?_
    refine ww_vI C fX10_stay (And.intro (by decide) (by decide)) mlRX10_235 dX10_law_29 tm57 (by decide) rfl (As := [.int (M 57 1)]) (rest := []) rfl rfl rfl (Nat.le_of_ble_eq_true rfl) ?_
    exact h
set_option maxHeartbeats 4000000 in
set_option maxRecDepth 20000 in
theorem bX10_law_32 {X : CX} {Q : State → Prop} {M : Mem} {x1 x2 x3 x4 s0 : Int32} (C : Ok0 X mX10_law (TTc ++ TTm))
    (h : ((x3 < (0 : Int32) → ((¬ x4 = x4 → WW X Q 12 [(0, .ref 57), (1, .int x1), (2, .int x4), (3, .int x3), (4, .int (x4 + (1 : Int32)))] [] (M, (gj gm), TTc ++ TTm)) ∧ (x4 = x4 → WW X Q 12 [(0, .ref 57), (1, .int x1), (2, .int x4), (3, .int s0), (4, .int (x4 + (1 : Int32)))] [] (M, (gj gm), TTc ++ TTm)))) ∧ (¬ x3 < (0 : Int32) → ((x3 ≤ s0 → ((¬ x2 = x4 → WW X Q 12 [(0, .ref 57), (1, .int x1), (2, .int x2), (3, .int x3), (4, .int (x4 + (1 : Int32)))] [] (M, (gj gm), TTc ++ TTm)) ∧ (x2 = x4 → WW X Q 12 [(0, .ref 57), (1, .int x1), (2, .int x2), (3, .int s0), (4, .int (x4 + (1 : Int32)))] [] (M, (gj gm), TTc ++ TTm)))) ∧ (¬ x3 ≤ s0 → ((¬ x4 = x4 → WW X Q 12 [(0, .ref 57), (1, .int x1), (2, .int x4), (3, .int x3), (4, .int (x4 + (1 : Int32)))] [] (M, (gj gm), TTc ++ TTm)) ∧ (x4 = x4 → WW X Q 12 [(0, .ref 57), (1, .int x1), (2, .int x4), (3, .int s0), (4, .int (x4 + (1 : Int32)))] [] (M, (gj gm), TTc ++ TTm)))))))) :
    WW X Q 32 [(0, .ref 57), (1, .int x1), (2, .int x2), (3, .int x3), (4, .int x4)] [.int s0] (M, (gj gm), TTc ++ TTm) := by
  refine ww_istore C.1 dX10_law_32 (by decide) [1, 2, 3, 4, 5, 0] (L' := [(0, .ref 57), (1, .int x1), (2, .int x2), (3, .int x3), (4, .int x4), (5, .int s0)]) rfl ?_
  refine ww_iload_n C.1 dX10_law_34 3 rfl rfl ?_
  refine ww_if_lt (x := x3) C.1 (tgt := 44) dX10_law_35 (by decide) (fun hh => ?_) (fun hh => ?_)
  · replace h := h.1 hh
    refine ww_iload C.1 dX10_law_44 4 rfl ?_
    refine ww_goto C.1 (tgt := 50) dX10_law_46 (by decide) ?_
    refine ww_istore_n C.1 dX10_law_50 rfl (by decide) [1, 2, 0, 3, 4, 5] (L' := [(0, .ref 57), (1, .int x1), (2, .int x4), (3, .int x3), (4, .int x4), (5, .int s0)]) rfl ?_
    refine ww_iload_n C.1 dX10_law_51 2 rfl rfl ?_
    refine ww_iload C.1 dX10_law_52 4 rfl ?_
    refine ww_icmp_ne (x := x4) (y := x4) C.1 (tgt := 62) dX10_law_54 (by decide) (fun hh => ?_) (fun hh => ?_)
    · replace h := h.1 hh
      refine ww_iload_n C.1 dX10_law_62 3 rfl rfl ?_
      refine ww_istore_n C.1 dX10_law_63 rfl (by decide) [1, 2, 3, 0, 4, 5] (L' := [(0, .ref 57), (1, .int x1), (2, .int x4), (3, .int x3), (4, .int x4), (5, .int s0)]) rfl ?_
      refine ww_iinc C.1 (v := (x4 + (1 : Int32))) dX10_law_64 4 rfl (by rfl) (by decide) [1, 2, 3, 4, 0, 5] (L' := [(0, .ref 57), (1, .int x1), (2, .int x4), (3, .int x3), (4, .int (x4 + (1 : Int32))), (5, .int s0)]) rfl ?_
      refine ww_goto C.1 (tgt := 12) dX10_law_67 (by decide) ?_
      refine ww_loc [0, 1, 2, 3, 4] (L' := [(0, .ref 57), (1, .int x1), (2, .int x4), (3, .int x3), (4, .int (x4 + (1 : Int32)))]) rfl ?_
      exact h
    · replace h := h.2 hh
      refine ww_iload C.1 dX10_law_57 5 rfl ?_
      refine ww_goto C.1 (tgt := 63) dX10_law_59 (by decide) ?_
      refine ww_istore_n C.1 dX10_law_63 rfl (by decide) [1, 2, 3, 0, 4, 5] (L' := [(0, .ref 57), (1, .int x1), (2, .int x4), (3, .int s0), (4, .int x4), (5, .int s0)]) rfl ?_
      refine ww_iinc C.1 (v := (x4 + (1 : Int32))) dX10_law_64 4 rfl (by rfl) (by decide) [1, 2, 3, 4, 0, 5] (L' := [(0, .ref 57), (1, .int x1), (2, .int x4), (3, .int s0), (4, .int (x4 + (1 : Int32))), (5, .int s0)]) rfl ?_
      refine ww_goto C.1 (tgt := 12) dX10_law_67 (by decide) ?_
      refine ww_loc [0, 1, 2, 3, 4] (L' := [(0, .ref 57), (1, .int x1), (2, .int x4), (3, .int s0), (4, .int (x4 + (1 : Int32)))]) rfl ?_
      exact h
  · replace h := h.2 hh
    refine ww_iload C.1 dX10_law_38 5 rfl ?_
    refine ww_iload_n C.1 dX10_law_40 3 rfl rfl ?_
    refine ww_icmp_ge (x := s0) (y := x3) C.1 (tgt := 49) dX10_law_41 (by decide) (fun hh => ?_) (fun hh => ?_)
    · replace h := h.1 hh
      refine ww_iload_n C.1 dX10_law_49 2 rfl rfl ?_
      refine ww_istore_n C.1 dX10_law_50 rfl (by decide) [1, 2, 0, 3, 4, 5] (L' := [(0, .ref 57), (1, .int x1), (2, .int x2), (3, .int x3), (4, .int x4), (5, .int s0)]) rfl ?_
      refine ww_iload_n C.1 dX10_law_51 2 rfl rfl ?_
      refine ww_iload C.1 dX10_law_52 4 rfl ?_
      refine ww_icmp_ne (x := x2) (y := x4) C.1 (tgt := 62) dX10_law_54 (by decide) (fun hh => ?_) (fun hh => ?_)
      · replace h := h.1 hh
        refine ww_iload_n C.1 dX10_law_62 3 rfl rfl ?_
        refine ww_istore_n C.1 dX10_law_63 rfl (by decide) [1, 2, 3, 0, 4, 5] (L' := [(0, .ref 57), (1, .int x1), (2, .int x2), (3, .int x3), (4, .int x4), (5, .int s0)]) rfl ?_
        refine ww_iinc C.1 (v := (x4 + (1 : Int32))) dX10_law_64 4 rfl (by rfl) (by decide) [1, 2, 3, 4, 0, 5] (L' := [(0, .ref 57), (1, .int x1), (2, .int x2), (3, .int x3), (4, .int (x4 + (1 : Int32))), (5, .int s0)]) rfl ?_
        refine ww_goto C.1 (tgt := 12) dX10_law_67 (by decide) ?_
        refine ww_loc [0, 1, 2, 3, 4] (L' := [(0, .ref 57), (1, .int x1), (2, .int x2), (3, .int x3), (4, .int (x4 + (1 : Int32)))]) rfl ?_
        exact h
      · replace h := h.2 hh
        refine ww_iload C.1 dX10_law_57 5 rfl ?_
        refine ww_goto C.1 (tgt := 63) dX10_law_59 (by decide) ?_
        refine ww_istore_n C.1 dX10_law_63 rfl (by decide) [1, 2, 3, 0, 4, 5] (L' := [(0, .ref 57), (1, .int x1), (2, .int x2), (3, .int s0), (4, .int x4), (5, .int s0)]) rfl ?_
        refine ww_iinc C.1 (v := (x4 + (1 : Int32))) dX10_law_64 4 rfl (by rfl) (by decide) [1, 2, 3, 4, 0, 5] (L' := [(0, .ref 57), (1, .int x1), (2, .int x2), (3, .int s0), (4, .int (x4 + (1 : Int32))), (5, .int s0)]) rfl ?_
        refine ww_goto C.1 (tgt := 12) dX10_law_67 (by decide) ?_
        refine ww_loc [0, 1, 2, 3, 4] (L' := [(0, .ref 57), (1, .int x1), (2, .int x2), (3, .int s0), (4, .int (x4 + (1 : Int32)))]) rfl ?_
        exact h
    · replace h := h.2 hh
      refine ww_iload C.1 dX10_law_44 4 rfl ?_
      refine ww_goto C.1 (tgt := 50) dX10_law_46 (by decide) ?_
      refine ww_istore_n C.1 dX10_law_50 rfl (by decide) [1, 2, 0, 3, 4, 5] (L' := [(0, .ref 57), (1, .int x1), (2, .int x4), (3, .int x3), (4, .int x4), (5, .int s0)]) rfl ?_
      refine ww_iload_n C.1 dX10_law_51 2 rfl rfl ?_
      refine ww_iload C.1 dX10_law_52 4 rfl ?_
      refine ww_icmp_ne (x := x4) (y := x4) C.1 (tgt := 62) dX10_law_54 (by decide) (fun hh => ?_) (fun hh => ?_)
      · replace h := h.1 hh
        refine ww_iload_n C.1 dX10_law_62 3 rfl rfl ?_
        refine ww_istore_n C.1 dX10_law_63 rfl (by decide) [1, 2, 3, 0, 4, 5] (L' := [(0, .ref 57), (1, .int x1), (2, .int x4), (3, .int x3), (4, .int x4), (5, .int s0)]) rfl ?_
        refine ww_iinc C.1 (v := (x4 + (1 : Int32))) dX10_law_64 4 rfl (by rfl) (by decide) [1, 2, 3, 4, 0, 5] (L' := [(0, .ref 57), (1, .int x1), (2, .int x4), (3, .int x3), (4, .int (x4 + (1 : Int32))), (5, .int s0)]) rfl ?_
        refine ww_goto C.1 (tgt := 12) dX10_law_67 (by decide) ?_
        refine ww_loc [0, 1, 2, 3, 4] (L' := [(0, .ref 57), (1, .int x1), (2, .int x4), (3, .int x3), (4, .int (x4 + (1 : Int32)))]) rfl ?_
        exact h
      · replace h := h.2 hh
        refine ww_iload C.1 dX10_law_57 5 rfl ?_
        refine ww_goto C.1 (tgt := 63) dX10_law_59 (by decide) ?_
        refine ww_istore_n C.1 dX10_law_63 rfl (by decide) [1, 2, 3, 0, 4, 5] (L' := [(0, .ref 57), (1, .int x1), (2, .int x4), (3, .int s0), (4, .int x4), (5, .int s0)]) rfl ?_
        refine ww_iinc C.1 (v := (x4 + (1 : Int32))) dX10_law_64 4 rfl (by rfl) (by decide) [1, 2, 3, 4, 0, 5] (L' := [(0, .ref 57), (1, .int x1), (2, .int x4), (3, .int s0), (4, .int (x4 + (1 : Int32))), (5, .int s0)]) rfl ?_
        refine ww_goto C.1 (tgt := 12) dX10_law_67 (by decide) ?_
        refine ww_loc [0, 1, 2, 3, 4] (L' := [(0, .ref 57), (1, .int x1), (2, .int x4), (3, .int s0), (4, .int (x4 + (1 : Int32)))]) rfl ?_
        exact h
set_option maxHeartbeats 4000000 in
set_option maxRecDepth 20000 in
theorem bX10_pairs_0 {X : CX} {Q : State → Prop} {M : Mem} {x1 : Int32} (C : Ok0 X mX10_pairs (TTc ++ TTm))
    (h : ((x1 < (0 : Int32) → RetOK X Q (some (.int (-1 : Int32))) (M, (gj gm), TTc ++ TTm)) ∧ (¬ x1 < (0 : Int32) → (((1 : Int32) < x1 → RetOK X Q (some (.int (-1 : Int32))) (M, (gj gm), TTc ++ TTm)) ∧ (¬ (1 : Int32) < x1 → WpI mX10_stay [.ref 57, .int (M 57 1)] M (gj gm) (TTc ++ TTm) (fun r M' => WW X Q 20 [(0, .ref 57), (1, .int x1)] [.int r] (M', (gj gm), TTc ++ TTm))))))) :
    WW X Q 0 [(0, .ref 57), (1, .int x1)] [] (M, (gj gm), TTc ++ TTm) := by
  refine ww_iload_n C.1 dX10_pairs_0 1 rfl rfl ?_
  refine ww_i2l C.1 dX10_pairs_1 rfl ?_
  refine ww_lconst C.1 (v := 0) dX10_pairs_2 (by decide) ?_
  refine ww_lconst C.1 (v := 1) dX10_pairs_3 (by decide) ?_
  refine ww_sI C fX10_in (And.intro (by decide) (by decide)) mlRX10_101 dX10_pairs_4 (As := [.long x1.toInt64, .long (0 : Int64), .long (1 : Int64)]) (rest := []) rfl rfl rfl (Nat.le_of_ble_eq_true rfl) (WpI.of (L0 := [(0, .long x1.toInt64), (2, .long (0 : Int64)), (4, .long (1 : Int64))]) rfl rfl (Nat.le_of_ble_eq_true rfl) fun X1 Q1 C1 k1 => ?_)
  refine ww_lload_n C1.1 dX10_in_0 0 rfl rfl ?_
  refine ww_lload_n C1.1 dX10_in_1 1 rfl rfl ?_
  refine ww_lcmp C1.1 dX10_in_2 ?_
  refine ww_if_lt (x := (lg_cmp x1.toInt64 (0 : Int64))) C1.1 (tgt := 17) dX10_in_3 (by decide) (fun hh => ?_) (fun hh => ?_)
  · replace h := h.1 ((in_lt (a := x1) (b := (0 : Int32)) (by first | rfl | decide) (by first | rfl | decide)).mp hh)
    refine ww_iconst C1.1 (v := (0 : Int32)) dX10_in_17 (by decide) ?_
    refine ww_zret C1.1 dX10_in_18 rfl (Or.inl rfl) ?_
    refine k1 _ _ ?_
    refine ww_if_ne (x := (0 : Int32)) C.1 (tgt := 12) dX10_pairs_7 (by decide) (fun hh => absurd hh (by decide)) (fun _ => ?_)
    refine ww_iconst C.1 (v := (-1 : Int32)) dX10_pairs_10 (by decide) ?_
    refine ww_iret C.1 dX10_pairs_11 rfl ?_
    exact h
  · replace h := h.2 (fun z => hh ((in_lt (a := x1) (b := (0 : Int32)) (by first | rfl | decide) (by first | rfl | decide)).mpr z))
    refine ww_lload_n C1.1 dX10_in_6 0 rfl rfl ?_
    refine ww_lload C1.1 dX10_in_7 2 rfl ?_
    refine ww_lcmp C1.1 dX10_in_9 ?_
    refine ww_if_gt (x := (lg_cmp x1.toInt64 (1 : Int64))) C1.1 (tgt := 17) dX10_in_10 (by decide) (fun hh => ?_) (fun hh => ?_)
    · replace h := h.1 ((in_gt (a := x1) (b := (1 : Int32)) (by first | rfl | decide) (by first | rfl | decide)).mp hh)
      refine ww_iconst C1.1 (v := (0 : Int32)) dX10_in_17 (by decide) ?_
      refine ww_zret C1.1 dX10_in_18 rfl (Or.inl rfl) ?_
      refine k1 _ _ ?_
      refine ww_if_ne (x := (0 : Int32)) C.1 (tgt := 12) dX10_pairs_7 (by decide) (fun hh => absurd hh (by decide)) (fun _ => ?_)
      refine ww_iconst C.1 (v := (-1 : Int32)) dX10_pairs_10 (by decide) ?_
      refine ww_iret C.1 dX10_pairs_11 rfl ?_
      exact h
    · replace h := h.2 (fun z => hh ((in_gt (a := x1) (b := (1 : Int32)) (by first | rfl | decide) (by first | rfl | decide)).mpr z))
      refine ww_iconst C1.1 (v := (1 : Int32)) dX10_in_13 (by decide) ?_
      refine ww_goto C1.1 (tgt := 18) dX10_in_14 (by decide) ?_
      refine ww_zret C1.1 dX10_in_18 rfl (Or.inr rfl) ?_
      refine k1 _ _ ?_
      refine ww_if_ne (x := (1 : Int32)) C.1 (tgt := 12) dX10_pairs_7 (by decide) (fun _ => ?_) (fun hh => absurd hh (by decide))
      refine ww_aload_n C.1 dX10_pairs_12 0 rfl rfl ?_
      refine ww_aload_n C.1 dX10_pairs_13 0 rfl rfl ?_
      refine wt_getI C.1 dX10_pairs_14 flRX10_13 tm57 rfl ?_
      refine ww_vI C fX10_stay (And.intro (by decide) (by decide)) mlRX10_235 dX10_pairs_17 tm57 (by decide) rfl (As := [.int (M 57 1)]) (rest := []) rfl rfl rfl (Nat.le_of_ble_eq_true rfl) ?_
      exact h
set_option maxHeartbeats 4000000 in
set_option maxRecDepth 20000 in
theorem bX10_pairs_23 {X : CX} {Q : State → Prop} {M : Mem} {x1 x2 : Int32} (C : Ok0 X mX10_pairs (TTc ++ TTm))
    (h : (((M 57 7) ≤ x2 → WW X Q 71 [(0, .ref 57), (1, .int x1), (2, .int (0 : Int32)), (3, .int (-4 : Int32)), (4, .int (0 : Int32))] [] (M, (gj gm), TTc ++ TTm)) ∧ (¬ (M 57 7) ≤ x2 → (vp_in x2 7 ∧ (((0 : Int32) ≤ (M 72 x2.toNatClampNeg) → (vp_in x2 7 ∧ (vp_in x2 7 ∧ WW X Q 23 [(0, .ref 57), (1, .int x1), (2, .int (x2 + (1 : Int32)))] [] ((wr M 78 x2.toNatClampNeg (M 74 x2.toNatClampNeg)), (gj gm), TTc ++ TTm)))) ∧ (¬ (0 : Int32) ≤ (M 72 x2.toNatClampNeg) → (vp_in x2 7 ∧ WW X Q 23 [(0, .ref 57), (1, .int x1), (2, .int (x2 + (1 : Int32)))] [] ((wr M 78 x2.toNatClampNeg (-4 : Int32)), (gj gm), TTc ++ TTm)))))))) :
    WW X Q 23 [(0, .ref 57), (1, .int x1), (2, .int x2)] [] (M, (gj gm), TTc ++ TTm) := by
  refine ww_iload_n C.1 dX10_pairs_23 2 rfl rfl ?_
  refine ww_aload_n C.1 dX10_pairs_24 0 rfl rfl ?_
  refine wt_getI C.1 dX10_pairs_25 flRX10_29 tm57 rfl ?_
  refine ww_icmp_ge (x := x2) (y := (M 57 7)) C.1 (tgt := 63) dX10_pairs_28 (by decide) (fun hh => ?_) (fun hh => ?_)
  · replace h := h.1 hh
    refine ww_iconst C.1 (v := (0 : Int32)) dX10_pairs_63 (by decide) ?_
    refine ww_istore_n C.1 dX10_pairs_64 rfl (by decide) [1, 2, 0] (L' := [(0, .ref 57), (1, .int x1), (2, .int (0 : Int32))]) rfl ?_
    refine ww_bipush C.1 (v := (-4 : Int32)) dX10_pairs_65 (by decide) ?_
    refine ww_istore_n C.1 dX10_pairs_67 rfl (by decide) [1, 2, 3, 0] (L' := [(0, .ref 57), (1, .int x1), (2, .int (0 : Int32)), (3, .int (-4 : Int32))]) rfl ?_
    refine ww_iconst C.1 (v := (0 : Int32)) dX10_pairs_68 (by decide) ?_
    refine ww_istore C.1 dX10_pairs_69 (by decide) [1, 2, 3, 4, 0] (L' := [(0, .ref 57), (1, .int x1), (2, .int (0 : Int32)), (3, .int (-4 : Int32)), (4, .int (0 : Int32))]) rfl ?_
    exact h
  · replace h := h.2 hh
    refine ww_aload_n C.1 dX10_pairs_31 0 rfl rfl ?_
    refine wt_getR C.1 dX10_pairs_32 flRX10_83 tm57 rfl gm57_36 ?_
    refine ww_iload_n C.1 dX10_pairs_35 2 rfl rfl ?_
    refine ww_aload_n C.1 dX10_pairs_36 0 rfl rfl ?_
    refine wt_getR C.1 dX10_pairs_37 flRX10_65 tm57 rfl gm57_29 ?_
    refine ww_iload_n C.1 dX10_pairs_40 2 rfl rfl ?_
    refine wt_iald C.1 dX10_pairs_41 tm72 h.1 ?_
    replace h := h.2
    refine ww_if_ge (x := (M 72 x2.toNatClampNeg)) C.1 (tgt := 50) dX10_pairs_42 (by decide) (fun hh => ?_) (fun hh => ?_)
    · replace h := h.1 hh
      refine ww_aload_n C.1 dX10_pairs_50 0 rfl rfl ?_
      refine wt_getR C.1 dX10_pairs_51 flRX10_71 tm57 rfl gm57_31 ?_
      refine ww_iload_n C.1 dX10_pairs_54 2 rfl rfl ?_
      refine wt_iald C.1 dX10_pairs_55 tm74 h.1 ?_
      replace h := h.2
      refine wt_iast C.1 dX10_pairs_56 tm78 h.1 ?_
      replace h := h.2
      refine ww_iinc C.1 (v := (x2 + (1 : Int32))) dX10_pairs_57 2 rfl (by rfl) (by decide) [1, 2, 0] (L' := [(0, .ref 57), (1, .int x1), (2, .int (x2 + (1 : Int32)))]) rfl ?_
      refine ww_goto C.1 (tgt := 23) dX10_pairs_60 (by decide) ?_
      exact h
    · replace h := h.2 hh
      refine ww_bipush C.1 (v := (-4 : Int32)) dX10_pairs_45 (by decide) ?_
      refine ww_goto C.1 (tgt := 56) dX10_pairs_47 (by decide) ?_
      refine wt_iast C.1 dX10_pairs_56 tm78 h.1 ?_
      replace h := h.2
      refine ww_iinc C.1 (v := (x2 + (1 : Int32))) dX10_pairs_57 2 rfl (by rfl) (by decide) [1, 2, 0] (L' := [(0, .ref 57), (1, .int x1), (2, .int (x2 + (1 : Int32)))]) rfl ?_
      refine ww_goto C.1 (tgt := 23) dX10_pairs_60 (by decide) ?_
      exact h
set_option maxHeartbeats 4000000 in
set_option maxRecDepth 20000 in
theorem bX10_pairs_71 {X : CX} {Q : State → Prop} {M : Mem} {x1 x2 x3 x4 : Int32} (C : Ok0 X mX10_pairs (TTc ++ TTm))
    (h : (((M 57 7) ≤ x4 → ((¬ x1 = (0 : Int32) → RetOK X Q (some (.int x3)) (M, (gj gm), TTc ++ TTm)) ∧ (x1 = (0 : Int32) → RetOK X Q (some (.int x2)) (M, (gj gm), TTc ++ TTm)))) ∧ (¬ (M 57 7) ≤ x4 → WW X Q 86 [(0, .ref 57), (1, .int x1), (2, .int x2), (3, .int x3), (4, .int x4), (5, .int (x4 + (1 : Int32)))] [] (M, (gj gm), TTc ++ TTm)))) :
    WW X Q 71 [(0, .ref 57), (1, .int x1), (2, .int x2), (3, .int x3), (4, .int x4)] [] (M, (gj gm), TTc ++ TTm) := by
  refine ww_iload C.1 dX10_pairs_71 4 rfl ?_
  refine ww_aload_n C.1 dX10_pairs_73 0 rfl rfl ?_
  refine wt_getI C.1 dX10_pairs_74 flRX10_29 tm57 rfl ?_
  refine ww_icmp_ge (x := x4) (y := (M 57 7)) C.1 (tgt := 244) dX10_pairs_77 (by decide) (fun hh => ?_) (fun hh => ?_)
  · replace h := h.1 hh
    refine ww_iload_n C.1 dX10_pairs_244 1 rfl rfl ?_
    refine ww_if_ne (x := x1) C.1 (tgt := 252) dX10_pairs_245 (by decide) (fun hh => ?_) (fun hh => ?_)
    · replace h := h.1 hh
      refine ww_iload_n C.1 dX10_pairs_252 3 rfl rfl ?_
      refine ww_iret C.1 dX10_pairs_253 rfl ?_
      exact h
    · replace h := h.2 hh
      refine ww_iload_n C.1 dX10_pairs_248 2 rfl rfl ?_
      refine ww_goto C.1 (tgt := 253) dX10_pairs_249 (by decide) ?_
      refine ww_iret C.1 dX10_pairs_253 rfl ?_
      exact h
  · replace h := h.2 hh
    refine ww_iload C.1 dX10_pairs_80 4 rfl ?_
    refine ww_iconst C.1 (v := (1 : Int32)) dX10_pairs_82 (by decide) ?_
    refine ww_iadd C.1 dX10_pairs_83 ?_
    refine ww_istore C.1 dX10_pairs_84 (by decide) [1, 2, 3, 4, 5, 0] (L' := [(0, .ref 57), (1, .int x1), (2, .int x2), (3, .int x3), (4, .int x4), (5, .int (x4 + (1 : Int32)))]) rfl ?_
    exact h
set_option maxHeartbeats 4000000 in
set_option maxRecDepth 20000 in
theorem bX10_pairs_86 {X : CX} {Q : State → Prop} {M : Mem} {x1 x2 x3 x4 x5 : Int32} (C : Ok0 X mX10_pairs (TTc ++ TTm))
    (h : (((M 57 7) ≤ x5 → WW X Q 71 [(0, .ref 57), (1, .int x1), (2, .int x2), (3, .int x3), (4, .int (x4 + (1 : Int32)))] [] (M, (gj gm), TTc ++ TTm)) ∧ (¬ (M 57 7) ≤ x5 → WpI mX10_placeOf [.ref 57, .int x4] M (gj gm) (TTc ++ TTm) (fun r M' => WW X Q 101 [(0, .ref 57), (1, .int x1), (2, .int x2), (3, .int x3), (4, .int x4), (5, .int x5)] [.int r] (M', (gj gm), TTc ++ TTm))))) :
    WW X Q 86 [(0, .ref 57), (1, .int x1), (2, .int x2), (3, .int x3), (4, .int x4), (5, .int x5)] [] (M, (gj gm), TTc ++ TTm) := by
  refine ww_iload C.1 dX10_pairs_86 5 rfl ?_
  refine ww_aload_n C.1 dX10_pairs_88 0 rfl rfl ?_
  refine wt_getI C.1 dX10_pairs_89 flRX10_29 tm57 rfl ?_
  refine ww_icmp_ge (x := x5) (y := (M 57 7)) C.1 (tgt := 238) dX10_pairs_92 (by decide) (fun hh => ?_) (fun hh => ?_)
  · replace h := h.1 hh
    refine ww_iinc C.1 (v := (x4 + (1 : Int32))) dX10_pairs_238 4 rfl (by rfl) (by decide) [1, 2, 3, 4, 0, 5] (L' := [(0, .ref 57), (1, .int x1), (2, .int x2), (3, .int x3), (4, .int (x4 + (1 : Int32))), (5, .int x5)]) rfl ?_
    refine ww_goto C.1 (tgt := 71) dX10_pairs_241 (by decide) ?_
    refine ww_loc [0, 1, 2, 3, 4] (L' := [(0, .ref 57), (1, .int x1), (2, .int x2), (3, .int x3), (4, .int (x4 + (1 : Int32)))]) rfl ?_
    exact h
  · replace h := h.2 hh
    refine ww_aload_n C.1 dX10_pairs_95 0 rfl rfl ?_
    refine ww_iload C.1 dX10_pairs_96 4 rfl ?_
    refine ww_vI C fX10_placeOf (And.intro (by decide) (by decide)) mlRX10_216 dX10_pairs_98 tm57 (by decide) rfl (As := [.int x4]) (rest := []) rfl rfl rfl (Nat.le_of_ble_eq_true rfl) ?_
    exact h
set_option maxHeartbeats 4000000 in
set_option maxRecDepth 20000 in
theorem bX10_pairs_20 {X : CX} {Q : State → Prop} {M : Mem} {x1 s0 : Int32} (C : Ok0 X mX10_pairs (TTc ++ TTm))
    (h : WW X Q 23 [(0, .ref 57), (1, .int x1), (2, .int (0 : Int32))] [] (M, (gj gm), TTc ++ TTm)) :
    WW X Q 20 [(0, .ref 57), (1, .int x1)] [.int s0] (M, (gj gm), TTc ++ TTm) := by
  refine ww_pop C.1 dX10_pairs_20 rfl ?_
  refine ww_iconst C.1 (v := (0 : Int32)) dX10_pairs_21 (by decide) ?_
  refine ww_istore_n C.1 dX10_pairs_22 rfl (by decide) [1, 2, 0] (L' := [(0, .ref 57), (1, .int x1), (2, .int (0 : Int32))]) rfl ?_
  exact h
set_option maxHeartbeats 4000000 in
set_option maxRecDepth 20000 in
theorem bX10_pairs_101 {X : CX} {Q : State → Prop} {M : Mem} {x1 x2 x3 x4 x5 s0 : Int32} (C : Ok0 X mX10_pairs (TTc ++ TTm))
    (h : WpI mX10_placeOf [.ref 57, .int x5] M (gj gm) (TTc ++ TTm) (fun r M' => WW X Q 109 [(0, .ref 57), (1, .int x1), (2, .int x2), (3, .int x3), (4, .int x4), (5, .int x5), (6, .int s0)] [.int r] (M', (gj gm), TTc ++ TTm))) :
    WW X Q 101 [(0, .ref 57), (1, .int x1), (2, .int x2), (3, .int x3), (4, .int x4), (5, .int x5)] [.int s0] (M, (gj gm), TTc ++ TTm) := by
  refine ww_istore C.1 dX10_pairs_101 (by decide) [1, 2, 3, 4, 5, 6, 0] (L' := [(0, .ref 57), (1, .int x1), (2, .int x2), (3, .int x3), (4, .int x4), (5, .int x5), (6, .int s0)]) rfl ?_
  refine ww_aload_n C.1 dX10_pairs_103 0 rfl rfl ?_
  refine ww_iload C.1 dX10_pairs_104 5 rfl ?_
  refine ww_vI C fX10_placeOf (And.intro (by decide) (by decide)) mlRX10_216 dX10_pairs_106 tm57 (by decide) rfl (As := [.int x5]) (rest := []) rfl rfl rfl (Nat.le_of_ble_eq_true rfl) ?_
  exact h
set_option maxHeartbeats 4000000 in
set_option maxRecDepth 20000 in
theorem bX10_pairs_109 {X : CX} {Q : State → Prop} {M : Mem} {x1 x2 x3 x4 x5 x6 s0 : Int32} (C : Ok0 X mX10_pairs (TTc ++ TTm))
    (h : WpV mX10_exchange [.ref 57, .int x6, .int s0] M (gj gm) (TTc ++ TTm) (fun M' => WW X Q 119 [(0, .ref 57), (1, .int x1), (2, .int x2), (3, .int x3), (4, .int x4), (5, .int x5), (6, .int x6), (7, .int s0)] [] (M', (gj gm), TTc ++ TTm))) :
    WW X Q 109 [(0, .ref 57), (1, .int x1), (2, .int x2), (3, .int x3), (4, .int x4), (5, .int x5), (6, .int x6)] [.int s0] (M, (gj gm), TTc ++ TTm) := by
  refine ww_istore C.1 dX10_pairs_109 (by decide) [1, 2, 3, 4, 5, 6, 7, 0] (L' := [(0, .ref 57), (1, .int x1), (2, .int x2), (3, .int x3), (4, .int x4), (5, .int x5), (6, .int x6), (7, .int s0)]) rfl ?_
  refine ww_aload_n C.1 dX10_pairs_111 0 rfl rfl ?_
  refine ww_iload C.1 dX10_pairs_112 6 rfl ?_
  refine ww_iload C.1 dX10_pairs_114 7 rfl ?_
  refine ww_vV C fX10_exchange (And.intro (by decide) (by decide)) mlRX10_248 dX10_pairs_116 tm57 (by decide) rfl (As := [.int x6, .int s0]) (rest := []) rfl rfl rfl (Nat.le_of_ble_eq_true rfl) ?_
  exact h
set_option maxHeartbeats 4000000 in
set_option maxRecDepth 20000 in
theorem bX10_pairs_119 {X : CX} {Q : State → Prop} {M : Mem} {x1 x2 x3 x4 x5 x6 x7 : Int32} (C : Ok0 X mX10_pairs (TTc ++ TTm))
    (h : WpI mX10_stay [.ref 57, .int (M 57 1)] M (gj gm) (TTc ++ TTm) (fun r M' => WW X Q 127 [(0, .ref 57), (1, .int x1), (2, .int x2), (3, .int x3), (4, .int x4), (5, .int x5), (6, .int x6), (7, .int x7)] [.int r] (M', (gj gm), TTc ++ TTm))) :
    WW X Q 119 [(0, .ref 57), (1, .int x1), (2, .int x2), (3, .int x3), (4, .int x4), (5, .int x5), (6, .int x6), (7, .int x7)] [] (M, (gj gm), TTc ++ TTm) := by
  refine ww_aload_n C.1 dX10_pairs_119 0 rfl rfl ?_
  refine ww_aload_n C.1 dX10_pairs_120 0 rfl rfl ?_
  refine wt_getI C.1 dX10_pairs_121 flRX10_13 tm57 rfl ?_
  refine ww_vI C fX10_stay (And.intro (by decide) (by decide)) mlRX10_235 dX10_pairs_124 tm57 (by decide) rfl (As := [.int (M 57 1)]) (rest := []) rfl rfl rfl (Nat.le_of_ble_eq_true rfl) ?_
  exact h
set_option maxHeartbeats 4000000 in
set_option maxRecDepth 20000 in
theorem bX10_pairs_127 {X : CX} {Q : State → Prop} {M : Mem} {x1 x2 x3 x4 x5 x6 x7 s0 : Int32} (C : Ok0 X mX10_pairs (TTc ++ TTm))
    (h : WpV mX10_exchange [.ref 57, .int x6, .int x7] M (gj gm) (TTc ++ TTm) (fun M' => WW X Q 136 [(0, .ref 57), (1, .int x1), (2, .int x2), (3, .int x3), (4, .int x4), (5, .int x5), (6, .int x6), (7, .int x7)] [] (M', (gj gm), TTc ++ TTm))) :
    WW X Q 127 [(0, .ref 57), (1, .int x1), (2, .int x2), (3, .int x3), (4, .int x4), (5, .int x5), (6, .int x6), (7, .int x7)] [.int s0] (M, (gj gm), TTc ++ TTm) := by
  refine ww_pop C.1 dX10_pairs_127 rfl ?_
  refine ww_aload_n C.1 dX10_pairs_128 0 rfl rfl ?_
  refine ww_iload C.1 dX10_pairs_129 6 rfl ?_
  refine ww_iload C.1 dX10_pairs_131 7 rfl ?_
  refine ww_vV C fX10_exchange (And.intro (by decide) (by decide)) mlRX10_248 dX10_pairs_133 tm57 (by decide) rfl (As := [.int x6, .int x7]) (rest := []) rfl rfl rfl (Nat.le_of_ble_eq_true rfl) ?_
  exact h
set_option maxHeartbeats 4000000 in
set_option maxRecDepth 20000 in
theorem bX10_pairs_136 {X : CX} {Q : State → Prop} {M : Mem} {x1 x2 x3 x4 x5 x6 x7 : Int32} (C : Ok0 X mX10_pairs (TTc ++ TTm))
    (h : (vp_in x4 7 ∧ (((M 72 x4.toNatClampNeg) < (0 : Int32) → WW X Q 86 [(0, .ref 57), (1, .int x1), (2, .int (x2 + (0 : Int32))), (3, .int x3), (4, .int x4), (5, .int (x5 + (1 : Int32)))] [] (M, (gj gm), TTc ++ TTm)) ∧ (¬ (M 72 x4.toNatClampNeg) < (0 : Int32) → (vp_in x5 7 ∧ (((M 72 x5.toNatClampNeg) < (0 : Int32) → WW X Q 86 [(0, .ref 57), (1, .int x1), (2, .int (x2 + (0 : Int32))), (3, .int x3), (4, .int x4), (5, .int (x5 + (1 : Int32)))] [] (M, (gj gm), TTc ++ TTm)) ∧ (¬ (M 72 x5.toNatClampNeg) < (0 : Int32) → (vp_in x4 7 ∧ (vp_in x4 7 ∧ (((M 78 x4.toNatClampNeg) ≤ (M 74 x4.toNatClampNeg) → WW X Q 86 [(0, .ref 57), (1, .int x1), (2, .int (x2 + (0 : Int32))), (3, .int x3), (4, .int x4), (5, .int (x5 + (1 : Int32)))] [] (M, (gj gm), TTc ++ TTm)) ∧ (¬ (M 78 x4.toNatClampNeg) ≤ (M 74 x4.toNatClampNeg) → (vp_in x5 7 ∧ (vp_in x5 7 ∧ (((M 78 x5.toNatClampNeg) ≤ (M 74 x5.toNatClampNeg) → WW X Q 86 [(0, .ref 57), (1, .int x1), (2, .int (x2 + (0 : Int32))), (3, .int x3), (4, .int x4), (5, .int (x5 + (1 : Int32)))] [] (M, (gj gm), TTc ++ TTm)) ∧ (¬ (M 78 x5.toNatClampNeg) ≤ (M 74 x5.toNatClampNeg) → ((¬ x2 = (0 : Int32) → WW X Q 86 [(0, .ref 57), (1, .int x1), (2, .int (x2 + (1 : Int32))), (3, .int x3), (4, .int x4), (5, .int (x5 + (1 : Int32)))] [] (M, (gj gm), TTc ++ TTm)) ∧ (x2 = (0 : Int32) → WW X Q 86 [(0, .ref 57), (1, .int x1), (2, .int (x2 + (1 : Int32))), (3, .int (((10 : Int32) * x4) + x5)), (4, .int x4), (5, .int (x5 + (1 : Int32)))] [] (M, (gj gm), TTc ++ TTm)))))))))))))))))) :
    WW X Q 136 [(0, .ref 57), (1, .int x1), (2, .int x2), (3, .int x3), (4, .int x4), (5, .int x5), (6, .int x6), (7, .int x7)] [] (M, (gj gm), TTc ++ TTm) := by
  refine ww_aload_n C.1 dX10_pairs_136 0 rfl rfl ?_
  refine wt_getR C.1 dX10_pairs_137 flRX10_65 tm57 rfl gm57_29 ?_
  refine ww_iload C.1 dX10_pairs_140 4 rfl ?_
  refine wt_iald C.1 dX10_pairs_142 tm72 h.1 ?_
  replace h := h.2
  refine ww_if_lt (x := (M 72 x4.toNatClampNeg)) C.1 (tgt := 194) dX10_pairs_143 (by decide) (fun hh => ?_) (fun hh => ?_)
  · replace h := h.1 hh
    refine ww_iconst C.1 (v := (0 : Int32)) dX10_pairs_194 (by decide) ?_
    refine ww_istore C.1 dX10_pairs_195 (by decide) [1, 2, 3, 4, 5, 6, 7, 8, 0] (L' := [(0, .ref 57), (1, .int x1), (2, .int x2), (3, .int x3), (4, .int x4), (5, .int x5), (6, .int x6), (7, .int x7), (8, .int (0 : Int32))]) rfl ?_
    refine ww_iload C.1 dX10_pairs_197 8 rfl ?_
    refine ww_if_eq (x := (0 : Int32)) C.1 (tgt := 217) dX10_pairs_199 (by decide) (fun _ => ?_) (fun hh => absurd hh (by decide))
    refine ww_iload_n C.1 dX10_pairs_217 3 rfl rfl ?_
    refine ww_istore_n C.1 dX10_pairs_218 rfl (by decide) [1, 2, 3, 0, 4, 5, 6, 7, 8] (L' := [(0, .ref 57), (1, .int x1), (2, .int x2), (3, .int x3), (4, .int x4), (5, .int x5), (6, .int x6), (7, .int x7), (8, .int (0 : Int32))]) rfl ?_
    refine ww_iload_n C.1 dX10_pairs_219 2 rfl rfl ?_
    refine ww_iload C.1 dX10_pairs_220 8 rfl ?_
    refine ww_if_eq (x := (0 : Int32)) C.1 (tgt := 229) dX10_pairs_222 (by decide) (fun _ => ?_) (fun hh => absurd hh (by decide))
    refine ww_iconst C.1 (v := (0 : Int32)) dX10_pairs_229 (by decide) ?_
    refine ww_iadd C.1 dX10_pairs_230 ?_
    refine ww_istore_n C.1 dX10_pairs_231 rfl (by decide) [1, 2, 0, 3, 4, 5, 6, 7, 8] (L' := [(0, .ref 57), (1, .int x1), (2, .int (x2 + (0 : Int32))), (3, .int x3), (4, .int x4), (5, .int x5), (6, .int x6), (7, .int x7), (8, .int (0 : Int32))]) rfl ?_
    refine ww_iinc C.1 (v := (x5 + (1 : Int32))) dX10_pairs_232 5 rfl (by rfl) (by decide) [1, 2, 3, 4, 5, 0, 6, 7, 8] (L' := [(0, .ref 57), (1, .int x1), (2, .int (x2 + (0 : Int32))), (3, .int x3), (4, .int x4), (5, .int (x5 + (1 : Int32))), (6, .int x6), (7, .int x7), (8, .int (0 : Int32))]) rfl ?_
    refine ww_goto C.1 (tgt := 86) dX10_pairs_235 (by decide) ?_
    refine ww_loc [0, 1, 2, 3, 4, 5] (L' := [(0, .ref 57), (1, .int x1), (2, .int (x2 + (0 : Int32))), (3, .int x3), (4, .int x4), (5, .int (x5 + (1 : Int32)))]) rfl ?_
    exact h
  · replace h := h.2 hh
    refine ww_aload_n C.1 dX10_pairs_146 0 rfl rfl ?_
    refine wt_getR C.1 dX10_pairs_147 flRX10_65 tm57 rfl gm57_29 ?_
    refine ww_iload C.1 dX10_pairs_150 5 rfl ?_
    refine wt_iald C.1 dX10_pairs_152 tm72 h.1 ?_
    replace h := h.2
    refine ww_if_lt (x := (M 72 x5.toNatClampNeg)) C.1 (tgt := 194) dX10_pairs_153 (by decide) (fun hh => ?_) (fun hh => ?_)
    · replace h := h.1 hh
      refine ww_iconst C.1 (v := (0 : Int32)) dX10_pairs_194 (by decide) ?_
      refine ww_istore C.1 dX10_pairs_195 (by decide) [1, 2, 3, 4, 5, 6, 7, 8, 0] (L' := [(0, .ref 57), (1, .int x1), (2, .int x2), (3, .int x3), (4, .int x4), (5, .int x5), (6, .int x6), (7, .int x7), (8, .int (0 : Int32))]) rfl ?_
      refine ww_iload C.1 dX10_pairs_197 8 rfl ?_
      refine ww_if_eq (x := (0 : Int32)) C.1 (tgt := 217) dX10_pairs_199 (by decide) (fun _ => ?_) (fun hh => absurd hh (by decide))
      refine ww_iload_n C.1 dX10_pairs_217 3 rfl rfl ?_
      refine ww_istore_n C.1 dX10_pairs_218 rfl (by decide) [1, 2, 3, 0, 4, 5, 6, 7, 8] (L' := [(0, .ref 57), (1, .int x1), (2, .int x2), (3, .int x3), (4, .int x4), (5, .int x5), (6, .int x6), (7, .int x7), (8, .int (0 : Int32))]) rfl ?_
      refine ww_iload_n C.1 dX10_pairs_219 2 rfl rfl ?_
      refine ww_iload C.1 dX10_pairs_220 8 rfl ?_
      refine ww_if_eq (x := (0 : Int32)) C.1 (tgt := 229) dX10_pairs_222 (by decide) (fun _ => ?_) (fun hh => absurd hh (by decide))
      refine ww_iconst C.1 (v := (0 : Int32)) dX10_pairs_229 (by decide) ?_
      refine ww_iadd C.1 dX10_pairs_230 ?_
      refine ww_istore_n C.1 dX10_pairs_231 rfl (by decide) [1, 2, 0, 3, 4, 5, 6, 7, 8] (L' := [(0, .ref 57), (1, .int x1), (2, .int (x2 + (0 : Int32))), (3, .int x3), (4, .int x4), (5, .int x5), (6, .int x6), (7, .int x7), (8, .int (0 : Int32))]) rfl ?_
      refine ww_iinc C.1 (v := (x5 + (1 : Int32))) dX10_pairs_232 5 rfl (by rfl) (by decide) [1, 2, 3, 4, 5, 0, 6, 7, 8] (L' := [(0, .ref 57), (1, .int x1), (2, .int (x2 + (0 : Int32))), (3, .int x3), (4, .int x4), (5, .int (x5 + (1 : Int32))), (6, .int x6), (7, .int x7), (8, .int (0 : Int32))]) rfl ?_
      refine ww_goto C.1 (tgt := 86) dX10_pairs_235 (by decide) ?_
      refine ww_loc [0, 1, 2, 3, 4, 5] (L' := [(0, .ref 57), (1, .int x1), (2, .int (x2 + (0 : Int32))), (3, .int x3), (4, .int x4), (5, .int (x5 + (1 : Int32)))]) rfl ?_
      exact h
    · replace h := h.2 hh
      refine ww_aload_n C.1 dX10_pairs_156 0 rfl rfl ?_
      refine wt_getR C.1 dX10_pairs_157 flRX10_71 tm57 rfl gm57_31 ?_
      refine ww_iload C.1 dX10_pairs_160 4 rfl ?_
      refine wt_iald C.1 dX10_pairs_162 tm74 h.1 ?_
      replace h := h.2
      refine ww_aload_n C.1 dX10_pairs_163 0 rfl rfl ?_
      refine wt_getR C.1 dX10_pairs_164 flRX10_83 tm57 rfl gm57_36 ?_
      refine ww_iload C.1 dX10_pairs_167 4 rfl ?_
      refine wt_iald C.1 dX10_pairs_169 tm78 h.1 ?_
      replace h := h.2
      refine ww_icmp_ge (x := (M 74 x4.toNatClampNeg)) (y := (M 78 x4.toNatClampNeg)) C.1 (tgt := 194) dX10_pairs_170 (by decide) (fun hh => ?_) (fun hh => ?_)
      · replace h := h.1 hh
        refine ww_iconst C.1 (v := (0 : Int32)) dX10_pairs_194 (by decide) ?_
        refine ww_istore C.1 dX10_pairs_195 (by decide) [1, 2, 3, 4, 5, 6, 7, 8, 0] (L' := [(0, .ref 57), (1, .int x1), (2, .int x2), (3, .int x3), (4, .int x4), (5, .int x5), (6, .int x6), (7, .int x7), (8, .int (0 : Int32))]) rfl ?_
        refine ww_iload C.1 dX10_pairs_197 8 rfl ?_
        refine ww_if_eq (x := (0 : Int32)) C.1 (tgt := 217) dX10_pairs_199 (by decide) (fun _ => ?_) (fun hh => absurd hh (by decide))
        refine ww_iload_n C.1 dX10_pairs_217 3 rfl rfl ?_
        refine ww_istore_n C.1 dX10_pairs_218 rfl (by decide) [1, 2, 3, 0, 4, 5, 6, 7, 8] (L' := [(0, .ref 57), (1, .int x1), (2, .int x2), (3, .int x3), (4, .int x4), (5, .int x5), (6, .int x6), (7, .int x7), (8, .int (0 : Int32))]) rfl ?_
        refine ww_iload_n C.1 dX10_pairs_219 2 rfl rfl ?_
        refine ww_iload C.1 dX10_pairs_220 8 rfl ?_
        refine ww_if_eq (x := (0 : Int32)) C.1 (tgt := 229) dX10_pairs_222 (by decide) (fun _ => ?_) (fun hh => absurd hh (by decide))
        refine ww_iconst C.1 (v := (0 : Int32)) dX10_pairs_229 (by decide) ?_
        refine ww_iadd C.1 dX10_pairs_230 ?_
        refine ww_istore_n C.1 dX10_pairs_231 rfl (by decide) [1, 2, 0, 3, 4, 5, 6, 7, 8] (L' := [(0, .ref 57), (1, .int x1), (2, .int (x2 + (0 : Int32))), (3, .int x3), (4, .int x4), (5, .int x5), (6, .int x6), (7, .int x7), (8, .int (0 : Int32))]) rfl ?_
        refine ww_iinc C.1 (v := (x5 + (1 : Int32))) dX10_pairs_232 5 rfl (by rfl) (by decide) [1, 2, 3, 4, 5, 0, 6, 7, 8] (L' := [(0, .ref 57), (1, .int x1), (2, .int (x2 + (0 : Int32))), (3, .int x3), (4, .int x4), (5, .int (x5 + (1 : Int32))), (6, .int x6), (7, .int x7), (8, .int (0 : Int32))]) rfl ?_
        refine ww_goto C.1 (tgt := 86) dX10_pairs_235 (by decide) ?_
        refine ww_loc [0, 1, 2, 3, 4, 5] (L' := [(0, .ref 57), (1, .int x1), (2, .int (x2 + (0 : Int32))), (3, .int x3), (4, .int x4), (5, .int (x5 + (1 : Int32)))]) rfl ?_
        exact h
      · replace h := h.2 hh
        refine ww_aload_n C.1 dX10_pairs_173 0 rfl rfl ?_
        refine wt_getR C.1 dX10_pairs_174 flRX10_71 tm57 rfl gm57_31 ?_
        refine ww_iload C.1 dX10_pairs_177 5 rfl ?_
        refine wt_iald C.1 dX10_pairs_179 tm74 h.1 ?_
        replace h := h.2
        refine ww_aload_n C.1 dX10_pairs_180 0 rfl rfl ?_
        refine wt_getR C.1 dX10_pairs_181 flRX10_83 tm57 rfl gm57_36 ?_
        refine ww_iload C.1 dX10_pairs_184 5 rfl ?_
        refine wt_iald C.1 dX10_pairs_186 tm78 h.1 ?_
        replace h := h.2
        refine ww_icmp_ge (x := (M 74 x5.toNatClampNeg)) (y := (M 78 x5.toNatClampNeg)) C.1 (tgt := 194) dX10_pairs_187 (by decide) (fun hh => ?_) (fun hh => ?_)
        · replace h := h.1 hh
          refine ww_iconst C.1 (v := (0 : Int32)) dX10_pairs_194 (by decide) ?_
          refine ww_istore C.1 dX10_pairs_195 (by decide) [1, 2, 3, 4, 5, 6, 7, 8, 0] (L' := [(0, .ref 57), (1, .int x1), (2, .int x2), (3, .int x3), (4, .int x4), (5, .int x5), (6, .int x6), (7, .int x7), (8, .int (0 : Int32))]) rfl ?_
          refine ww_iload C.1 dX10_pairs_197 8 rfl ?_
          refine ww_if_eq (x := (0 : Int32)) C.1 (tgt := 217) dX10_pairs_199 (by decide) (fun _ => ?_) (fun hh => absurd hh (by decide))
          refine ww_iload_n C.1 dX10_pairs_217 3 rfl rfl ?_
          refine ww_istore_n C.1 dX10_pairs_218 rfl (by decide) [1, 2, 3, 0, 4, 5, 6, 7, 8] (L' := [(0, .ref 57), (1, .int x1), (2, .int x2), (3, .int x3), (4, .int x4), (5, .int x5), (6, .int x6), (7, .int x7), (8, .int (0 : Int32))]) rfl ?_
          refine ww_iload_n C.1 dX10_pairs_219 2 rfl rfl ?_
          refine ww_iload C.1 dX10_pairs_220 8 rfl ?_
          refine ww_if_eq (x := (0 : Int32)) C.1 (tgt := 229) dX10_pairs_222 (by decide) (fun _ => ?_) (fun hh => absurd hh (by decide))
          refine ww_iconst C.1 (v := (0 : Int32)) dX10_pairs_229 (by decide) ?_
          refine ww_iadd C.1 dX10_pairs_230 ?_
          refine ww_istore_n C.1 dX10_pairs_231 rfl (by decide) [1, 2, 0, 3, 4, 5, 6, 7, 8] (L' := [(0, .ref 57), (1, .int x1), (2, .int (x2 + (0 : Int32))), (3, .int x3), (4, .int x4), (5, .int x5), (6, .int x6), (7, .int x7), (8, .int (0 : Int32))]) rfl ?_
          refine ww_iinc C.1 (v := (x5 + (1 : Int32))) dX10_pairs_232 5 rfl (by rfl) (by decide) [1, 2, 3, 4, 5, 0, 6, 7, 8] (L' := [(0, .ref 57), (1, .int x1), (2, .int (x2 + (0 : Int32))), (3, .int x3), (4, .int x4), (5, .int (x5 + (1 : Int32))), (6, .int x6), (7, .int x7), (8, .int (0 : Int32))]) rfl ?_
          refine ww_goto C.1 (tgt := 86) dX10_pairs_235 (by decide) ?_
          refine ww_loc [0, 1, 2, 3, 4, 5] (L' := [(0, .ref 57), (1, .int x1), (2, .int (x2 + (0 : Int32))), (3, .int x3), (4, .int x4), (5, .int (x5 + (1 : Int32)))]) rfl ?_
          exact h
        · replace h := h.2 hh
          refine ww_iconst C.1 (v := (1 : Int32)) dX10_pairs_190 (by decide) ?_
          refine ww_goto C.1 (tgt := 195) dX10_pairs_191 (by decide) ?_
          refine ww_istore C.1 dX10_pairs_195 (by decide) [1, 2, 3, 4, 5, 6, 7, 8, 0] (L' := [(0, .ref 57), (1, .int x1), (2, .int x2), (3, .int x3), (4, .int x4), (5, .int x5), (6, .int x6), (7, .int x7), (8, .int (1 : Int32))]) rfl ?_
          refine ww_iload C.1 dX10_pairs_197 8 rfl ?_
          refine ww_if_eq (x := (1 : Int32)) C.1 (tgt := 217) dX10_pairs_199 (by decide) (fun hh => absurd hh (by decide)) (fun _ => ?_)
          refine ww_iload_n C.1 dX10_pairs_202 2 rfl rfl ?_
          refine ww_if_ne (x := x2) C.1 (tgt := 217) dX10_pairs_203 (by decide) (fun hh => ?_) (fun hh => ?_)
          · replace h := h.1 hh
            refine ww_iload_n C.1 dX10_pairs_217 3 rfl rfl ?_
            refine ww_istore_n C.1 dX10_pairs_218 rfl (by decide) [1, 2, 3, 0, 4, 5, 6, 7, 8] (L' := [(0, .ref 57), (1, .int x1), (2, .int x2), (3, .int x3), (4, .int x4), (5, .int x5), (6, .int x6), (7, .int x7), (8, .int (1 : Int32))]) rfl ?_
            refine ww_iload_n C.1 dX10_pairs_219 2 rfl rfl ?_
            refine ww_iload C.1 dX10_pairs_220 8 rfl ?_
            refine ww_if_eq (x := (1 : Int32)) C.1 (tgt := 229) dX10_pairs_222 (by decide) (fun hh => absurd hh (by decide)) (fun _ => ?_)
            refine ww_iconst C.1 (v := (1 : Int32)) dX10_pairs_225 (by decide) ?_
            refine ww_goto C.1 (tgt := 230) dX10_pairs_226 (by decide) ?_
            refine ww_iadd C.1 dX10_pairs_230 ?_
            refine ww_istore_n C.1 dX10_pairs_231 rfl (by decide) [1, 2, 0, 3, 4, 5, 6, 7, 8] (L' := [(0, .ref 57), (1, .int x1), (2, .int (x2 + (1 : Int32))), (3, .int x3), (4, .int x4), (5, .int x5), (6, .int x6), (7, .int x7), (8, .int (1 : Int32))]) rfl ?_
            refine ww_iinc C.1 (v := (x5 + (1 : Int32))) dX10_pairs_232 5 rfl (by rfl) (by decide) [1, 2, 3, 4, 5, 0, 6, 7, 8] (L' := [(0, .ref 57), (1, .int x1), (2, .int (x2 + (1 : Int32))), (3, .int x3), (4, .int x4), (5, .int (x5 + (1 : Int32))), (6, .int x6), (7, .int x7), (8, .int (1 : Int32))]) rfl ?_
            refine ww_goto C.1 (tgt := 86) dX10_pairs_235 (by decide) ?_
            refine ww_loc [0, 1, 2, 3, 4, 5] (L' := [(0, .ref 57), (1, .int x1), (2, .int (x2 + (1 : Int32))), (3, .int x3), (4, .int x4), (5, .int (x5 + (1 : Int32)))]) rfl ?_
            exact h
          · replace h := h.2 hh
            refine ww_bipush C.1 (v := (10 : Int32)) dX10_pairs_206 (by decide) ?_
            refine ww_iload C.1 dX10_pairs_208 4 rfl ?_
            refine ww_imul C.1 dX10_pairs_210 ?_
            refine ww_iload C.1 dX10_pairs_211 5 rfl ?_
            refine ww_iadd C.1 dX10_pairs_213 ?_
            refine ww_goto C.1 (tgt := 218) dX10_pairs_214 (by decide) ?_
            refine ww_istore_n C.1 dX10_pairs_218 rfl (by decide) [1, 2, 3, 0, 4, 5, 6, 7, 8] (L' := [(0, .ref 57), (1, .int x1), (2, .int x2), (3, .int (((10 : Int32) * x4) + x5)), (4, .int x4), (5, .int x5), (6, .int x6), (7, .int x7), (8, .int (1 : Int32))]) rfl ?_
            refine ww_iload_n C.1 dX10_pairs_219 2 rfl rfl ?_
            refine ww_iload C.1 dX10_pairs_220 8 rfl ?_
            refine ww_if_eq (x := (1 : Int32)) C.1 (tgt := 229) dX10_pairs_222 (by decide) (fun hh => absurd hh (by decide)) (fun _ => ?_)
            refine ww_iconst C.1 (v := (1 : Int32)) dX10_pairs_225 (by decide) ?_
            refine ww_goto C.1 (tgt := 230) dX10_pairs_226 (by decide) ?_
            refine ww_iadd C.1 dX10_pairs_230 ?_
            refine ww_istore_n C.1 dX10_pairs_231 rfl (by decide) [1, 2, 0, 3, 4, 5, 6, 7, 8] (L' := [(0, .ref 57), (1, .int x1), (2, .int (x2 + (1 : Int32))), (3, .int (((10 : Int32) * x4) + x5)), (4, .int x4), (5, .int x5), (6, .int x6), (7, .int x7), (8, .int (1 : Int32))]) rfl ?_
            refine ww_iinc C.1 (v := (x5 + (1 : Int32))) dX10_pairs_232 5 rfl (by rfl) (by decide) [1, 2, 3, 4, 5, 0, 6, 7, 8] (L' := [(0, .ref 57), (1, .int x1), (2, .int (x2 + (1 : Int32))), (3, .int (((10 : Int32) * x4) + x5)), (4, .int x4), (5, .int (x5 + (1 : Int32))), (6, .int x6), (7, .int x7), (8, .int (1 : Int32))]) rfl ?_
            refine ww_goto C.1 (tgt := 86) dX10_pairs_235 (by decide) ?_
            refine ww_loc [0, 1, 2, 3, 4, 5] (L' := [(0, .ref 57), (1, .int x1), (2, .int (x2 + (1 : Int32))), (3, .int (((10 : Int32) * x4) + x5)), (4, .int x4), (5, .int (x5 + (1 : Int32)))]) rfl ?_
            exact h
set_option maxHeartbeats 4000000 in
set_option maxRecDepth 20000 in
theorem bX10_later_0 {X : CX} {Q : State → Prop} {M : Mem} {x1 x2 : Int32} (C : Ok0 X mX10_later (TTc ++ TTm))
    (h : ((x1 < (0 : Int32) → RetOK X Q (some (.int (-1 : Int32))) (M, (gj gm), TTc ++ TTm)) ∧ (¬ x1 < (0 : Int32) → ((((M 57 7) - (1 : Int32)) < x1 → RetOK X Q (some (.int (-1 : Int32))) (M, (gj gm), TTc ++ TTm)) ∧ (¬ ((M 57 7) - (1 : Int32)) < x1 → ((x2 < (0 : Int32) → RetOK X Q (some (.int (-1 : Int32))) (M, (gj gm), TTc ++ TTm)) ∧ (¬ x2 < (0 : Int32) → (((1 : Int32) < x2 → RetOK X Q (some (.int (-1 : Int32))) (M, (gj gm), TTc ++ TTm)) ∧ (¬ (1 : Int32) < x2 → (vp_in ((14 : Int32) + x1) 21 ∧ WW X Q 40 [(0, .ref 57), (1, .int x1), (2, .int x2), (3, .int (M 64 ((14 : Int32) + x1).toNatClampNeg)), (4, .int (-4 : Int32)), (5, .int (0 : Int32)), (6, .int (0 : Int32))] [] (M, (gj gm), TTc ++ TTm))))))))))) :
    WW X Q 0 [(0, .ref 57), (1, .int x1), (2, .int x2)] [] (M, (gj gm), TTc ++ TTm) := by
  refine ww_aload_n C.1 dX10_later_0 0 rfl rfl ?_
  refine ww_iload_n C.1 dX10_later_1 1 rfl rfl ?_
  refine ww_vI C fX10_isGuest (And.intro (by decide) (by decide)) mlRX10_209 dX10_later_2 tm57 (by decide) rfl (As := [.int x1]) (rest := []) rfl rfl rfl (Nat.le_of_ble_eq_true rfl) (WpI.of (L0 := [(0, .ref 57), (1, .int x1)]) rfl rfl (Nat.le_of_ble_eq_true rfl) fun X1 Q1 C1 k1 => ?_)
  refine ww_iload_n C1.1 dX10_isGuest_0 1 rfl rfl ?_
  refine ww_i2l C1.1 dX10_isGuest_1 rfl ?_
  refine ww_lconst C1.1 (v := 0) dX10_isGuest_2 (by decide) ?_
  refine ww_aload_n C1.1 dX10_isGuest_3 0 rfl rfl ?_
  refine wt_getI C1.1 dX10_isGuest_4 flRX10_29 tm57 rfl ?_
  refine ww_iconst C1.1 (v := (1 : Int32)) dX10_isGuest_7 (by decide) ?_
  refine ww_isub C1.1 dX10_isGuest_8 ?_
  refine ww_i2l C1.1 dX10_isGuest_9 rfl ?_
  refine ww_sI C1 fX10_in (And.intro (by decide) (by decide)) mlRX10_101 dX10_isGuest_10 (As := [.long x1.toInt64, .long (0 : Int64), .long ((M 57 7) - (1 : Int32)).toInt64]) (rest := []) rfl rfl rfl (Nat.le_of_ble_eq_true rfl) (WpI.of (L0 := [(0, .long x1.toInt64), (2, .long (0 : Int64)), (4, .long ((M 57 7) - (1 : Int32)).toInt64)]) rfl rfl (Nat.le_of_ble_eq_true rfl) fun X2 Q2 C2 k2 => ?_)
  refine ww_lload_n C2.1 dX10_in_0 0 rfl rfl ?_
  refine ww_lload_n C2.1 dX10_in_1 1 rfl rfl ?_
  refine ww_lcmp C2.1 dX10_in_2 ?_
  refine ww_if_lt (x := (lg_cmp x1.toInt64 (0 : Int64))) C2.1 (tgt := 17) dX10_in_3 (by decide) (fun hh => ?_) (fun hh => ?_)
  · replace h := h.1 ((in_lt (a := x1) (b := (0 : Int32)) (by first | rfl | decide) (by first | rfl | decide)).mp hh)
    refine ww_iconst C2.1 (v := (0 : Int32)) dX10_in_17 (by decide) ?_
    refine ww_zret C2.1 dX10_in_18 rfl (Or.inl rfl) ?_
    refine k2 _ _ ?_
    refine ww_zret C1.1 dX10_isGuest_13 rfl (Or.inl rfl) ?_
    refine k1 _ _ ?_
    refine ww_if_eq (x := (0 : Int32)) C.1 (tgt := 18) dX10_later_5 (by decide) (fun _ => ?_) (fun hh => absurd hh (by decide))
    refine ww_iconst C.1 (v := (-1 : Int32)) dX10_later_18 (by decide) ?_
    refine ww_iret C.1 dX10_later_19 rfl ?_
    exact h
  · replace h := h.2 (fun z => hh ((in_lt (a := x1) (b := (0 : Int32)) (by first | rfl | decide) (by first | rfl | decide)).mpr z))
    refine ww_lload_n C2.1 dX10_in_6 0 rfl rfl ?_
    refine ww_lload C2.1 dX10_in_7 2 rfl ?_
    refine ww_lcmp C2.1 dX10_in_9 ?_
    refine ww_if_gt (x := (lg_cmp x1.toInt64 ((M 57 7) - (1 : Int32)).toInt64)) C2.1 (tgt := 17) dX10_in_10 (by decide) (fun hh => ?_) (fun hh => ?_)
    · replace h := h.1 ((in_gt (a := x1) (b := ((M 57 7) - (1 : Int32))) (by first | rfl | decide) (by first | rfl | decide)).mp hh)
      refine ww_iconst C2.1 (v := (0 : Int32)) dX10_in_17 (by decide) ?_
      refine ww_zret C2.1 dX10_in_18 rfl (Or.inl rfl) ?_
      refine k2 _ _ ?_
      refine ww_zret C1.1 dX10_isGuest_13 rfl (Or.inl rfl) ?_
      refine k1 _ _ ?_
      refine ww_if_eq (x := (0 : Int32)) C.1 (tgt := 18) dX10_later_5 (by decide) (fun _ => ?_) (fun hh => absurd hh (by decide))
      refine ww_iconst C.1 (v := (-1 : Int32)) dX10_later_18 (by decide) ?_
      refine ww_iret C.1 dX10_later_19 rfl ?_
      exact h
    · replace h := h.2 (fun z => hh ((in_gt (a := x1) (b := ((M 57 7) - (1 : Int32))) (by first | rfl | decide) (by first | rfl | decide)).mpr z))
      refine ww_iconst C2.1 (v := (1 : Int32)) dX10_in_13 (by decide) ?_
      refine ww_goto C2.1 (tgt := 18) dX10_in_14 (by decide) ?_
      refine ww_zret C2.1 dX10_in_18 rfl (Or.inr rfl) ?_
      refine k2 _ _ ?_
      refine ww_zret C1.1 dX10_isGuest_13 rfl (Or.inr rfl) ?_
      refine k1 _ _ ?_
      refine ww_if_eq (x := (1 : Int32)) C.1 (tgt := 18) dX10_later_5 (by decide) (fun hh => absurd hh (by decide)) (fun _ => ?_)
      refine ww_iload_n C.1 dX10_later_8 2 rfl rfl ?_
      refine ww_i2l C.1 dX10_later_9 rfl ?_
      refine ww_lconst C.1 (v := 0) dX10_later_10 (by decide) ?_
      refine ww_lconst C.1 (v := 1) dX10_later_11 (by decide) ?_
      refine ww_sI C fX10_in (And.intro (by decide) (by decide)) mlRX10_101 dX10_later_12 (As := [.long x2.toInt64, .long (0 : Int64), .long (1 : Int64)]) (rest := []) rfl rfl rfl (Nat.le_of_ble_eq_true rfl) (WpI.of (L0 := [(0, .long x2.toInt64), (2, .long (0 : Int64)), (4, .long (1 : Int64))]) rfl rfl (Nat.le_of_ble_eq_true rfl) fun X3 Q3 C3 k3 => ?_)
      refine ww_lload_n C3.1 dX10_in_0 0 rfl rfl ?_
      refine ww_lload_n C3.1 dX10_in_1 1 rfl rfl ?_
      refine ww_lcmp C3.1 dX10_in_2 ?_
      refine ww_if_lt (x := (lg_cmp x2.toInt64 (0 : Int64))) C3.1 (tgt := 17) dX10_in_3 (by decide) (fun hh => ?_) (fun hh => ?_)
      · replace h := h.1 ((in_lt (a := x2) (b := (0 : Int32)) (by first | rfl | decide) (by first | rfl | decide)).mp hh)
        refine ww_iconst C3.1 (v := (0 : Int32)) dX10_in_17 (by decide) ?_
        refine ww_zret C3.1 dX10_in_18 rfl (Or.inl rfl) ?_
        refine k3 _ _ ?_
        refine ww_if_ne (x := (0 : Int32)) C.1 (tgt := 20) dX10_later_15 (by decide) (fun hh => absurd hh (by decide)) (fun _ => ?_)
        refine ww_iconst C.1 (v := (-1 : Int32)) dX10_later_18 (by decide) ?_
        refine ww_iret C.1 dX10_later_19 rfl ?_
        exact h
      · replace h := h.2 (fun z => hh ((in_lt (a := x2) (b := (0 : Int32)) (by first | rfl | decide) (by first | rfl | decide)).mpr z))
        refine ww_lload_n C3.1 dX10_in_6 0 rfl rfl ?_
        refine ww_lload C3.1 dX10_in_7 2 rfl ?_
        refine ww_lcmp C3.1 dX10_in_9 ?_
        refine ww_if_gt (x := (lg_cmp x2.toInt64 (1 : Int64))) C3.1 (tgt := 17) dX10_in_10 (by decide) (fun hh => ?_) (fun hh => ?_)
        · replace h := h.1 ((in_gt (a := x2) (b := (1 : Int32)) (by first | rfl | decide) (by first | rfl | decide)).mp hh)
          refine ww_iconst C3.1 (v := (0 : Int32)) dX10_in_17 (by decide) ?_
          refine ww_zret C3.1 dX10_in_18 rfl (Or.inl rfl) ?_
          refine k3 _ _ ?_
          refine ww_if_ne (x := (0 : Int32)) C.1 (tgt := 20) dX10_later_15 (by decide) (fun hh => absurd hh (by decide)) (fun _ => ?_)
          refine ww_iconst C.1 (v := (-1 : Int32)) dX10_later_18 (by decide) ?_
          refine ww_iret C.1 dX10_later_19 rfl ?_
          exact h
        · replace h := h.2 (fun z => hh ((in_gt (a := x2) (b := (1 : Int32)) (by first | rfl | decide) (by first | rfl | decide)).mpr z))
          refine ww_iconst C3.1 (v := (1 : Int32)) dX10_in_13 (by decide) ?_
          refine ww_goto C3.1 (tgt := 18) dX10_in_14 (by decide) ?_
          refine ww_zret C3.1 dX10_in_18 rfl (Or.inr rfl) ?_
          refine k3 _ _ ?_
          refine ww_if_ne (x := (1 : Int32)) C.1 (tgt := 20) dX10_later_15 (by decide) (fun _ => ?_) (fun hh => absurd hh (by decide))
          refine ww_aload_n C.1 dX10_later_20 0 rfl rfl ?_
          refine wt_getR C.1 dX10_later_21 flRX10_38 tm57 rfl gm57_11 ?_
          refine ww_bipush C.1 (v := (14 : Int32)) dX10_later_24 (by decide) ?_
          refine ww_iload_n C.1 dX10_later_26 1 rfl rfl ?_
          refine ww_iadd C.1 dX10_later_27 ?_
          refine wt_iald C.1 dX10_later_28 tm64 h.1 ?_
          replace h := h.2
          refine ww_istore_n C.1 dX10_later_29 rfl (by decide) [1, 2, 3, 0] (L' := [(0, .ref 57), (1, .int x1), (2, .int x2), (3, .int (M 64 ((14 : Int32) + x1).toNatClampNeg))]) rfl ?_
          refine ww_bipush C.1 (v := (-4 : Int32)) dX10_later_30 (by decide) ?_
          refine ww_istore C.1 dX10_later_32 (by decide) [1, 2, 3, 4, 0] (L' := [(0, .ref 57), (1, .int x1), (2, .int x2), (3, .int (M 64 ((14 : Int32) + x1).toNatClampNeg)), (4, .int (-4 : Int32))]) rfl ?_
          refine ww_iconst C.1 (v := (0 : Int32)) dX10_later_34 (by decide) ?_
          refine ww_istore C.1 dX10_later_35 (by decide) [1, 2, 3, 4, 5, 0] (L' := [(0, .ref 57), (1, .int x1), (2, .int x2), (3, .int (M 64 ((14 : Int32) + x1).toNatClampNeg)), (4, .int (-4 : Int32)), (5, .int (0 : Int32))]) rfl ?_
          refine ww_iconst C.1 (v := (0 : Int32)) dX10_later_37 (by decide) ?_
          refine ww_istore C.1 dX10_later_38 (by decide) [1, 2, 3, 4, 5, 6, 0] (L' := [(0, .ref 57), (1, .int x1), (2, .int x2), (3, .int (M 64 ((14 : Int32) + x1).toNatClampNeg)), (4, .int (-4 : Int32)), (5, .int (0 : Int32)), (6, .int (0 : Int32))]) rfl ?_
          exact h
set_option maxHeartbeats 4000000 in
set_option maxRecDepth 20000 in
theorem bX10_later_40 {X : CX} {Q : State → Prop} {M : Mem} {x1 x2 x3 x4 x5 x6 : Int32} (C : Ok0 X mX10_later (TTc ++ TTm))
    (h : (((10 : Int32) ≤ x6 → (vp_in ((14 : Int32) + x1) 21 ∧ (((0 : Int32) ≤ x4 → ((¬ x2 = (0 : Int32) → RetOK X Q (some (.int x5)) ((wr M 64 ((14 : Int32) + x1).toNatClampNeg x3), (gj gm), TTc ++ TTm)) ∧ (x2 = (0 : Int32) → RetOK X Q (some (.int x4)) ((wr M 64 ((14 : Int32) + x1).toNatClampNeg x3), (gj gm), TTc ++ TTm)))) ∧ (¬ (0 : Int32) ≤ x4 → RetOK X Q (some (.int (-4 : Int32))) ((wr M 64 ((14 : Int32) + x1).toNatClampNeg x3), (gj gm), TTc ++ TTm))))) ∧ (¬ (10 : Int32) ≤ x6 → (vp_in ((14 : Int32) + x1) 21 ∧ WpI mX10_stay [.ref 57, .int (M 57 1)] (wr M 64 ((14 : Int32) + x1).toNatClampNeg (x3 + x6)) (gj gm) (TTc ++ TTm) (fun r M' => WW X Q 68 [(0, .ref 57), (1, .int x1), (2, .int x2), (3, .int x3), (4, .int x4), (5, .int x5), (6, .int x6)] [.int r] (M', (gj gm), TTc ++ TTm)))))) :
    WW X Q 40 [(0, .ref 57), (1, .int x1), (2, .int x2), (3, .int x3), (4, .int x4), (5, .int x5), (6, .int x6)] [] (M, (gj gm), TTc ++ TTm) := by
  refine ww_iload C.1 dX10_later_40 6 rfl ?_
  refine ww_bipush C.1 (v := (10 : Int32)) dX10_later_42 (by decide) ?_
  refine ww_icmp_ge (x := x6) (y := (10 : Int32)) C.1 (tgt := 112) dX10_later_44 (by decide) (fun hh => ?_) (fun hh => ?_)
  · replace h := h.1 hh
    refine ww_aload_n C.1 dX10_later_112 0 rfl rfl ?_
    refine wt_getR C.1 dX10_later_113 flRX10_38 tm57 rfl gm57_11 ?_
    refine ww_bipush C.1 (v := (14 : Int32)) dX10_later_116 (by decide) ?_
    refine ww_iload_n C.1 dX10_later_118 1 rfl rfl ?_
    refine ww_iadd C.1 dX10_later_119 ?_
    refine ww_iload_n C.1 dX10_later_120 3 rfl rfl ?_
    refine wt_iast C.1 dX10_later_121 tm64 h.1 ?_
    replace h := h.2
    refine ww_iload C.1 dX10_later_122 4 rfl ?_
    refine ww_if_ge (x := x4) C.1 (tgt := 132) dX10_later_124 (by decide) (fun hh => ?_) (fun hh => ?_)
    · replace h := h.1 hh
      refine ww_iload_n C.1 dX10_later_132 2 rfl rfl ?_
      refine ww_if_ne (x := x2) C.1 (tgt := 141) dX10_later_133 (by decide) (fun hh => ?_) (fun hh => ?_)
      · replace h := h.1 hh
        refine ww_iload C.1 dX10_later_141 5 rfl ?_
        refine ww_iret C.1 dX10_later_143 rfl ?_
        exact h
      · replace h := h.2 hh
        refine ww_iload C.1 dX10_later_136 4 rfl ?_
        refine ww_goto C.1 (tgt := 143) dX10_later_138 (by decide) ?_
        refine ww_iret C.1 dX10_later_143 rfl ?_
        exact h
    · replace h := h.2 hh
      refine ww_bipush C.1 (v := (-4 : Int32)) dX10_later_127 (by decide) ?_
      refine ww_goto C.1 (tgt := 143) dX10_later_129 (by decide) ?_
      refine ww_iret C.1 dX10_later_143 rfl ?_
      exact h
  · replace h := h.2 hh
    refine ww_aload_n C.1 dX10_later_47 0 rfl rfl ?_
    refine wt_getR C.1 dX10_later_48 flRX10_38 tm57 rfl gm57_11 ?_
    refine ww_bipush C.1 (v := (14 : Int32)) dX10_later_51 (by decide) ?_
    refine ww_iload_n C.1 dX10_later_53 1 rfl rfl ?_
    refine ww_iadd C.1 dX10_later_54 ?_
    refine ww_iload_n C.1 dX10_later_55 3 rfl rfl ?_
    refine ww_iload C.1 dX10_later_56 6 rfl ?_
    refine ww_iadd C.1 dX10_later_58 ?_
    refine wt_iast C.1 dX10_later_59 tm64 h.1 ?_
    replace h := h.2
    refine ww_aload_n C.1 dX10_later_60 0 rfl rfl ?_
    refine ww_aload_n C.1 dX10_later_61 0 rfl rfl ?_
    refine wt_getI C.1 dX10_later_62 flRX10_13 tm57 rfl ?_
    refine ww_vI C fX10_stay (And.intro (by decide) (by decide)) mlRX10_235 dX10_later_65 tm57 (by decide) rfl (As := [.int (M 57 1)]) (rest := []) rfl rfl rfl (Nat.le_of_ble_eq_true rfl) ?_
    exact h
set_option maxHeartbeats 4000000 in
set_option maxRecDepth 20000 in
theorem bX10_later_68 {X : CX} {Q : State → Prop} {M : Mem} {x1 x2 x3 x4 x5 x6 s0 : Int32} (C : Ok0 X mX10_later (TTc ++ TTm))
    (h : (vp_in x1 7 ∧ (((M 72 x1.toNatClampNeg) < (0 : Int32) → WW X Q 40 [(0, .ref 57), (1, .int x1), (2, .int x2), (3, .int x3), (4, .int x4), (5, .int x5), (6, .int (x6 + (1 : Int32)))] [] (M, (gj gm), TTc ++ TTm)) ∧ (¬ (M 72 x1.toNatClampNeg) < (0 : Int32) → ((x4 < (0 : Int32) → (vp_in x1 7 ∧ WW X Q 40 [(0, .ref 57), (1, .int x1), (2, .int x2), (3, .int x3), (4, .int x6), (5, .int (M 74 x1.toNatClampNeg)), (6, .int (x6 + (1 : Int32)))] [] (M, (gj gm), TTc ++ TTm))) ∧ (¬ x4 < (0 : Int32) → (vp_in x1 7 ∧ ((x5 ≤ (M 74 x1.toNatClampNeg) → WW X Q 40 [(0, .ref 57), (1, .int x1), (2, .int x2), (3, .int x3), (4, .int x4), (5, .int x5), (6, .int (x6 + (1 : Int32)))] [] (M, (gj gm), TTc ++ TTm)) ∧ (¬ x5 ≤ (M 74 x1.toNatClampNeg) → (vp_in x1 7 ∧ WW X Q 40 [(0, .ref 57), (1, .int x1), (2, .int x2), (3, .int x3), (4, .int x6), (5, .int (M 74 x1.toNatClampNeg)), (6, .int (x6 + (1 : Int32)))] [] (M, (gj gm), TTc ++ TTm))))))))))) :
    WW X Q 68 [(0, .ref 57), (1, .int x1), (2, .int x2), (3, .int x3), (4, .int x4), (5, .int x5), (6, .int x6)] [.int s0] (M, (gj gm), TTc ++ TTm) := by
  refine ww_pop C.1 dX10_later_68 rfl ?_
  refine ww_aload_n C.1 dX10_later_69 0 rfl rfl ?_
  refine wt_getR C.1 dX10_later_70 flRX10_65 tm57 rfl gm57_29 ?_
  refine ww_iload_n C.1 dX10_later_73 1 rfl rfl ?_
  refine wt_iald C.1 dX10_later_74 tm72 h.1 ?_
  replace h := h.2
  refine ww_if_lt (x := (M 72 x1.toNatClampNeg)) C.1 (tgt := 106) dX10_later_75 (by decide) (fun hh => ?_) (fun hh => ?_)
  · replace h := h.1 hh
    refine ww_iinc C.1 (v := (x6 + (1 : Int32))) dX10_later_106 6 rfl (by rfl) (by decide) [1, 2, 3, 4, 5, 6, 0] (L' := [(0, .ref 57), (1, .int x1), (2, .int x2), (3, .int x3), (4, .int x4), (5, .int x5), (6, .int (x6 + (1 : Int32)))]) rfl ?_
    refine ww_goto C.1 (tgt := 40) dX10_later_109 (by decide) ?_
    exact h
  · replace h := h.2 hh
    refine ww_iload C.1 dX10_later_78 4 rfl ?_
    refine ww_if_lt (x := x4) C.1 (tgt := 94) dX10_later_80 (by decide) (fun hh => ?_) (fun hh => ?_)
    · replace h := h.1 hh
      refine ww_iload C.1 dX10_later_94 6 rfl ?_
      refine ww_istore C.1 dX10_later_96 (by decide) [1, 2, 3, 4, 0, 5, 6] (L' := [(0, .ref 57), (1, .int x1), (2, .int x2), (3, .int x3), (4, .int x6), (5, .int x5), (6, .int x6)]) rfl ?_
      refine ww_aload_n C.1 dX10_later_98 0 rfl rfl ?_
      refine wt_getR C.1 dX10_later_99 flRX10_71 tm57 rfl gm57_31 ?_
      refine ww_iload_n C.1 dX10_later_102 1 rfl rfl ?_
      refine wt_iald C.1 dX10_later_103 tm74 h.1 ?_
      replace h := h.2
      refine ww_istore C.1 dX10_later_104 (by decide) [1, 2, 3, 4, 5, 0, 6] (L' := [(0, .ref 57), (1, .int x1), (2, .int x2), (3, .int x3), (4, .int x6), (5, .int (M 74 x1.toNatClampNeg)), (6, .int x6)]) rfl ?_
      refine ww_iinc C.1 (v := (x6 + (1 : Int32))) dX10_later_106 6 rfl (by rfl) (by decide) [1, 2, 3, 4, 5, 6, 0] (L' := [(0, .ref 57), (1, .int x1), (2, .int x2), (3, .int x3), (4, .int x6), (5, .int (M 74 x1.toNatClampNeg)), (6, .int (x6 + (1 : Int32)))]) rfl ?_
      refine ww_goto C.1 (tgt := 40) dX10_later_109 (by decide) ?_
      exact h
    · replace h := h.2 hh
      refine ww_aload_n C.1 dX10_later_83 0 rfl rfl ?_
      refine wt_getR C.1 dX10_later_84 flRX10_71 tm57 rfl gm57_31 ?_
      refine ww_iload_n C.1 dX10_later_87 1 rfl rfl ?_
      refine wt_iald C.1 dX10_later_88 tm74 h.1 ?_
      replace h := h.2
      refine ww_iload C.1 dX10_later_89 5 rfl ?_
      refine ww_icmp_ge (x := (M 74 x1.toNatClampNeg)) (y := x5) C.1 (tgt := 106) dX10_later_91 (by decide) (fun hh => ?_) (fun hh => ?_)
      · replace h := h.1 hh
        refine ww_iinc C.1 (v := (x6 + (1 : Int32))) dX10_later_106 6 rfl (by rfl) (by decide) [1, 2, 3, 4, 5, 6, 0] (L' := [(0, .ref 57), (1, .int x1), (2, .int x2), (3, .int x3), (4, .int x4), (5, .int x5), (6, .int (x6 + (1 : Int32)))]) rfl ?_
        refine ww_goto C.1 (tgt := 40) dX10_later_109 (by decide) ?_
        exact h
      · replace h := h.2 hh
        refine ww_iload C.1 dX10_later_94 6 rfl ?_
        refine ww_istore C.1 dX10_later_96 (by decide) [1, 2, 3, 4, 0, 5, 6] (L' := [(0, .ref 57), (1, .int x1), (2, .int x2), (3, .int x3), (4, .int x6), (5, .int x5), (6, .int x6)]) rfl ?_
        refine ww_aload_n C.1 dX10_later_98 0 rfl rfl ?_
        refine wt_getR C.1 dX10_later_99 flRX10_71 tm57 rfl gm57_31 ?_
        refine ww_iload_n C.1 dX10_later_102 1 rfl rfl ?_
        refine wt_iald C.1 dX10_later_103 tm74 h.1 ?_
        replace h := h.2
        refine ww_istore C.1 dX10_later_104 (by decide) [1, 2, 3, 4, 5, 0, 6] (L' := [(0, .ref 57), (1, .int x1), (2, .int x2), (3, .int x3), (4, .int x6), (5, .int (M 74 x1.toNatClampNeg)), (6, .int x6)]) rfl ?_
        refine ww_iinc C.1 (v := (x6 + (1 : Int32))) dX10_later_106 6 rfl (by rfl) (by decide) [1, 2, 3, 4, 5, 6, 0] (L' := [(0, .ref 57), (1, .int x1), (2, .int x2), (3, .int x3), (4, .int x6), (5, .int (M 74 x1.toNatClampNeg)), (6, .int (x6 + (1 : Int32)))]) rfl ?_
        refine ww_goto C.1 (tgt := 40) dX10_later_109 (by decide) ?_
        exact h
set_option maxHeartbeats 4000000 in
set_option maxRecDepth 20000 in
theorem bX10_rival_0 {X : CX} {Q : State → Prop} {M : Mem} (C : Ok0 X mX10_rival (TTc ++ TTm))
    (h : WpI mX10_stay [.ref 57, .int (M 57 1)] M (gj gm) (TTc ++ TTm) (fun r M' => WW X Q 8 [(0, .ref 57)] [.int r] (M', (gj gm), TTc ++ TTm))) :
    WW X Q 0 [(0, .ref 57)] [] (M, (gj gm), TTc ++ TTm) := by
  refine ww_aload_n C.1 dX10_rival_0 0 rfl rfl ?_
  refine ww_aload_n C.1 dX10_rival_1 0 rfl rfl ?_
  refine wt_getI C.1 dX10_rival_2 flRX10_13 tm57 rfl ?_
  refine ww_vI C fX10_stay (And.intro (by decide) (by decide)) mlRX10_235 dX10_rival_5 tm57 (by decide) rfl (As := [.int (M 57 1)]) (rest := []) rfl rfl rfl (Nat.le_of_ble_eq_true rfl) ?_
  exact h
set_option maxHeartbeats 4000000 in
set_option maxRecDepth 20000 in
theorem bX10_rival_13 {X : CX} {Q : State → Prop} {M : Mem} {x1 x2 : Int32} (C : Ok0 X mX10_rival (TTc ++ TTm))
    (h : (((M 57 7) ≤ x2 → RetOK X Q (some (.int x1)) (M, (gj gm), TTc ++ TTm)) ∧ (¬ (M 57 7) ≤ x2 → WW X Q 23 [(0, .ref 57), (1, .int x1), (2, .int x2), (3, .int (0 : Int32))] [] (M, (gj gm), TTc ++ TTm)))) :
    WW X Q 13 [(0, .ref 57), (1, .int x1), (2, .int x2)] [] (M, (gj gm), TTc ++ TTm) := by
  refine ww_iload_n C.1 dX10_rival_13 2 rfl rfl ?_
  refine ww_aload_n C.1 dX10_rival_14 0 rfl rfl ?_
  refine wt_getI C.1 dX10_rival_15 flRX10_29 tm57 rfl ?_
  refine ww_icmp_ge (x := x2) (y := (M 57 7)) C.1 (tgt := 92) dX10_rival_18 (by decide) (fun hh => ?_) (fun hh => ?_)
  · replace h := h.1 hh
    refine ww_iload_n C.1 dX10_rival_92 1 rfl rfl ?_
    refine ww_iret C.1 dX10_rival_93 rfl ?_
    exact h
  · replace h := h.2 hh
    refine ww_iconst C.1 (v := (0 : Int32)) dX10_rival_21 (by decide) ?_
    refine ww_istore_n C.1 dX10_rival_22 rfl (by decide) [1, 2, 3, 0] (L' := [(0, .ref 57), (1, .int x1), (2, .int x2), (3, .int (0 : Int32))]) rfl ?_
    exact h
set_option maxHeartbeats 4000000 in
set_option maxRecDepth 20000 in
theorem bX10_rival_23 {X : CX} {Q : State → Prop} {M : Mem} {x1 x2 x3 : Int32} (C : Ok0 X mX10_rival (TTc ++ TTm))
    (h : (((M 57 9) ≤ x3 → WW X Q 13 [(0, .ref 57), (1, .int x1), (2, .int (x2 + (1 : Int32)))] [] (M, (gj gm), TTc ++ TTm)) ∧ (¬ (M 57 9) ≤ x3 → (vp_in ((14 : Int32) + x2) 21 ∧ WpI mX10_inchesOn [.ref 57, .int x2, .int (M 64 ((14 : Int32) + x2).toNatClampNeg)] M (gj gm) (TTc ++ TTm) (fun r M' => WW X Q 47 [(0, .ref 57), (1, .int x1), (2, .int x2), (3, .int x3)] [.int r, .int x2, .ref 57] (M', (gj gm), TTc ++ TTm)))))) :
    WW X Q 23 [(0, .ref 57), (1, .int x1), (2, .int x2), (3, .int x3)] [] (M, (gj gm), TTc ++ TTm) := by
  refine ww_iload_n C.1 dX10_rival_23 3 rfl rfl ?_
  refine ww_aload_n C.1 dX10_rival_24 0 rfl rfl ?_
  refine wt_getI C.1 dX10_rival_25 flRX10_167 tm57 rfl ?_
  refine ww_icmp_ge (x := x3) (y := (M 57 9)) C.1 (tgt := 86) dX10_rival_28 (by decide) (fun hh => ?_) (fun hh => ?_)
  · replace h := h.1 hh
    refine ww_iinc C.1 (v := (x2 + (1 : Int32))) dX10_rival_86 2 rfl (by rfl) (by decide) [1, 2, 0, 3] (L' := [(0, .ref 57), (1, .int x1), (2, .int (x2 + (1 : Int32))), (3, .int x3)]) rfl ?_
    refine ww_goto C.1 (tgt := 13) dX10_rival_89 (by decide) ?_
    refine ww_loc [0, 1, 2] (L' := [(0, .ref 57), (1, .int x1), (2, .int (x2 + (1 : Int32)))]) rfl ?_
    exact h
  · replace h := h.2 hh
    refine ww_aload_n C.1 dX10_rival_31 0 rfl rfl ?_
    refine ww_iload_n C.1 dX10_rival_32 2 rfl rfl ?_
    refine ww_aload_n C.1 dX10_rival_33 0 rfl rfl ?_
    refine ww_iload_n C.1 dX10_rival_34 2 rfl rfl ?_
    refine ww_aload_n C.1 dX10_rival_35 0 rfl rfl ?_
    refine wt_getR C.1 dX10_rival_36 flRX10_38 tm57 rfl gm57_11 ?_
    refine ww_bipush C.1 (v := (14 : Int32)) dX10_rival_39 (by decide) ?_
    refine ww_iload_n C.1 dX10_rival_41 2 rfl rfl ?_
    refine ww_iadd C.1 dX10_rival_42 ?_
    refine wt_iald C.1 dX10_rival_43 tm64 h.1 ?_
    replace h := h.2
    refine ww_vI C fX10_inchesOn (And.intro (by decide) (by decide)) mlRX10_203 dX10_rival_44 tm57 (by decide) rfl (As := [.int x2, .int (M 64 ((14 : Int32) + x2).toNatClampNeg)]) (rest := [.int x2, .ref 57]) rfl rfl rfl (Nat.le_of_ble_eq_true rfl) ?_
    exact h
set_option maxHeartbeats 4000000 in
set_option maxRecDepth 20000 in
theorem bX10_rival_8 {X : CX} {Q : State → Prop} {M : Mem} {s0 : Int32} (C : Ok0 X mX10_rival (TTc ++ TTm))
    (h : WW X Q 13 [(0, .ref 57), (1, .int (0 : Int32)), (2, .int (0 : Int32))] [] (M, (gj gm), TTc ++ TTm)) :
    WW X Q 8 [(0, .ref 57)] [.int s0] (M, (gj gm), TTc ++ TTm) := by
  refine ww_pop C.1 dX10_rival_8 rfl ?_
  refine ww_iconst C.1 (v := (0 : Int32)) dX10_rival_9 (by decide) ?_
  refine ww_istore_n C.1 dX10_rival_10 rfl (by decide) [1, 0] (L' := [(0, .ref 57), (1, .int (0 : Int32))]) rfl ?_
  refine ww_iconst C.1 (v := (0 : Int32)) dX10_rival_11 (by decide) ?_
  refine ww_istore_n C.1 dX10_rival_12 rfl (by decide) [1, 2, 0] (L' := [(0, .ref 57), (1, .int (0 : Int32)), (2, .int (0 : Int32))]) rfl ?_
  exact h
set_option maxHeartbeats 4000000 in
set_option maxRecDepth 20000 in
theorem bX10_rival_47 {X : CX} {Q : State → Prop} {M : Mem} {x1 x2 x3 s1 s2 : Int32} (C : Ok0 X mX10_rival (TTc ++ TTm))
    (h : (vp_in x3 4 ∧ WpI mX10_harmBy [.ref 57, .int s1, .int (s2 - (M 63 x3.toNatClampNeg))] M (gj gm) (TTc ++ TTm) (fun r M' => WW X Q 57 [(0, .ref 57), (1, .int x1), (2, .int x2), (3, .int x3)] [.int r] (M', (gj gm), TTc ++ TTm)))) :
    WW X Q 47 [(0, .ref 57), (1, .int x1), (2, .int x2), (3, .int x3)] [.int s2, .int s1, .ref 57] (M, (gj gm), TTc ++ TTm) := by
  refine ww_aload_n C.1 dX10_rival_47 0 rfl rfl ?_
  refine wt_getR C.1 dX10_rival_48 flRX10_32 tm57 rfl gm57_8 ?_
  refine ww_iload_n C.1 dX10_rival_51 3 rfl rfl ?_
  refine wt_iald C.1 dX10_rival_52 tm63 h.1 ?_
  replace h := h.2
  refine ww_isub C.1 dX10_rival_53 ?_
  refine ww_vI C fX10_harmBy (And.intro (by decide) (by decide)) mlRX10_206 dX10_rival_54 tm57 (by decide) rfl (As := [.int s1, .int (s2 - (M 63 x3.toNatClampNeg))]) (rest := []) rfl rfl rfl (Nat.le_of_ble_eq_true rfl) ?_
  exact h
set_option maxHeartbeats 4000000 in
set_option maxRecDepth 20000 in
theorem bX10_rival_57 {X : CX} {Q : State → Prop} {M : Mem} {x1 x2 x3 s0 : Int32} (C : Ok0 X mX10_rival (TTc ++ TTm))
    (h : (vp_in x2 7 ∧ (((M 74 x2.toNatClampNeg) ≤ s0 → WW X Q 23 [(0, .ref 57), (1, .int (x1 ||| (0 : Int32))), (2, .int x2), (3, .int (x3 + (1 : Int32)))] [] (M, (gj gm), TTc ++ TTm)) ∧ (¬ (M 74 x2.toNatClampNeg) ≤ s0 → WW X Q 23 [(0, .ref 57), (1, .int (x1 ||| ((1 : Int32) <<< (x2 &&& 31)))), (2, .int x2), (3, .int (x3 + (1 : Int32)))] [] (M, (gj gm), TTc ++ TTm))))) :
    WW X Q 57 [(0, .ref 57), (1, .int x1), (2, .int x2), (3, .int x3)] [.int s0] (M, (gj gm), TTc ++ TTm) := by
  refine ww_istore C.1 dX10_rival_57 (by decide) [1, 2, 3, 4, 0] (L' := [(0, .ref 57), (1, .int x1), (2, .int x2), (3, .int x3), (4, .int s0)]) rfl ?_
  refine ww_iload_n C.1 dX10_rival_59 1 rfl rfl ?_
  refine ww_iload C.1 dX10_rival_60 4 rfl ?_
  refine ww_aload_n C.1 dX10_rival_62 0 rfl rfl ?_
  refine wt_getR C.1 dX10_rival_63 flRX10_71 tm57 rfl gm57_31 ?_
  refine ww_iload_n C.1 dX10_rival_66 2 rfl rfl ?_
  refine wt_iald C.1 dX10_rival_67 tm74 h.1 ?_
  replace h := h.2
  refine ww_icmp_ge (x := s0) (y := (M 74 x2.toNatClampNeg)) C.1 (tgt := 77) dX10_rival_68 (by decide) (fun hh => ?_) (fun hh => ?_)
  · replace h := h.1 hh
    refine ww_iconst C.1 (v := (0 : Int32)) dX10_rival_77 (by decide) ?_
    refine ww_ior C.1 dX10_rival_78 ?_
    refine ww_istore_n C.1 dX10_rival_79 rfl (by decide) [1, 0, 2, 3, 4] (L' := [(0, .ref 57), (1, .int (x1 ||| (0 : Int32))), (2, .int x2), (3, .int x3), (4, .int s0)]) rfl ?_
    refine ww_iinc C.1 (v := (x3 + (1 : Int32))) dX10_rival_80 3 rfl (by rfl) (by decide) [1, 2, 3, 0, 4] (L' := [(0, .ref 57), (1, .int (x1 ||| (0 : Int32))), (2, .int x2), (3, .int (x3 + (1 : Int32))), (4, .int s0)]) rfl ?_
    refine ww_goto C.1 (tgt := 23) dX10_rival_83 (by decide) ?_
    refine ww_loc [0, 1, 2, 3] (L' := [(0, .ref 57), (1, .int (x1 ||| (0 : Int32))), (2, .int x2), (3, .int (x3 + (1 : Int32)))]) rfl ?_
    exact h
  · replace h := h.2 hh
    refine ww_iconst C.1 (v := (1 : Int32)) dX10_rival_71 (by decide) ?_
    refine ww_iload_n C.1 dX10_rival_72 2 rfl rfl ?_
    refine ww_ishl C.1 dX10_rival_73 ?_
    refine ww_goto C.1 (tgt := 78) dX10_rival_74 (by decide) ?_
    refine ww_ior C.1 dX10_rival_78 ?_
    refine ww_istore_n C.1 dX10_rival_79 rfl (by decide) [1, 0, 2, 3, 4] (L' := [(0, .ref 57), (1, .int (x1 ||| ((1 : Int32) <<< (x2 &&& 31)))), (2, .int x2), (3, .int x3), (4, .int s0)]) rfl ?_
    refine ww_iinc C.1 (v := (x3 + (1 : Int32))) dX10_rival_80 3 rfl (by rfl) (by decide) [1, 2, 3, 0, 4] (L' := [(0, .ref 57), (1, .int (x1 ||| ((1 : Int32) <<< (x2 &&& 31)))), (2, .int x2), (3, .int (x3 + (1 : Int32))), (4, .int s0)]) rfl ?_
    refine ww_goto C.1 (tgt := 23) dX10_rival_83 (by decide) ?_
    refine ww_loc [0, 1, 2, 3] (L' := [(0, .ref 57), (1, .int (x1 ||| ((1 : Int32) <<< (x2 &&& 31)))), (2, .int x2), (3, .int (x3 + (1 : Int32)))]) rfl ?_
    exact h
