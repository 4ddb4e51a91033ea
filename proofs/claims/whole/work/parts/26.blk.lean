set_option maxHeartbeats 4000000 in
set_option maxRecDepth 20000 in
theorem bX10_fewest_0 {X : CX} {Q : State → Prop} {M : Mem} {x1 : Int32} (C : Ok0 X mX10_fewest (TTc ++ TTm))
    (h : ((x1 < (0 : Int32) → RetOK X Q (some (.int (-1 : Int32))) (M, (gj gm), TTc ++ TTm)) ∧ (¬ x1 < (0 : Int32) → (((29 : Int32) < x1 → RetOK X Q (some (.int (-1 : Int32))) (M, (gj gm), TTc ++ TTm)) ∧ (¬ (29 : Int32) < x1 → WW X Q 11 [(0, .ref 57), (1, .int x1), (2, .int (1 : Int32))] [] (M, (gj gm), TTc ++ TTm)))))) :
    WW X Q 0 [(0, .ref 57), (1, .int x1)] [] (M, (gj gm), TTc ++ TTm) := by
  refine ww_iload_n C.1 dX10_fewest_0 1 rfl rfl ?_
  refine ww_sI C fX10_isNight (And.intro (by decide) (by decide)) mlRX10_196 dX10_fewest_1 (As := [.int x1]) (rest := []) rfl rfl rfl (Nat.le_of_ble_eq_true rfl) (WpI.of (L0 := [(0, .int x1)]) rfl rfl (Nat.le_of_ble_eq_true rfl) fun X1 Q1 C1 k1 => ?_)
  refine ww_iload_n C1.1 dX10_isNight_0 0 rfl rfl ?_
  refine ww_i2l C1.1 dX10_isNight_1 rfl ?_
  refine ww_lconst C1.1 (v := 0) dX10_isNight_2 (by decide) ?_
  refine ww_ldc2 C1.1 kcRX10_105 dX10_isNight_3 ?_
  refine ww_sI C1 fX10_in (And.intro (by decide) (by decide)) mlRX10_101 dX10_isNight_6 (As := [.long x1.toInt64, .long (0 : Int64), .long (29 : Int64)]) (rest := []) rfl rfl rfl (Nat.le_of_ble_eq_true rfl) (WpI.of (L0 := [(0, .long x1.toInt64), (2, .long (0 : Int64)), (4, .long (29 : Int64))]) rfl rfl (Nat.le_of_ble_eq_true rfl) fun X2 Q2 C2 k2 => ?_)
  refine ww_lload_n C2.1 dX10_in_0 0 rfl rfl ?_
  refine ww_lload_n C2.1 dX10_in_1 1 rfl rfl ?_
  refine ww_lcmp C2.1 dX10_in_2 ?_
  refine ww_if_lt (x := (lg_cmp x1.toInt64 (0 : Int64))) C2.1 (tgt := 17) dX10_in_3 (by decide) (fun hh => ?_) (fun hh => ?_)
  · replace h := h.1 ((in_lt (a := x1) (b := (0 : Int32)) (by first | rfl | decide) (by first | rfl | decide)).mp hh)
    refine ww_iconst C2.1 (v := (0 : Int32)) dX10_in_17 (by decide) ?_
    refine ww_zret C2.1 dX10_in_18 rfl (Or.inl rfl) ?_
    refine k2 _ _ ?_
    refine ww_zret C1.1 dX10_isNight_9 rfl (Or.inl rfl) ?_
    refine k1 _ _ ?_
    refine ww_if_ne (x := (0 : Int32)) C.1 (tgt := 9) dX10_fewest_4 (by decide) (fun hh => absurd hh (by decide)) (fun _ => ?_)
    refine ww_iconst C.1 (v := (-1 : Int32)) dX10_fewest_7 (by decide) ?_
    refine ww_iret C.1 dX10_fewest_8 rfl ?_
    exact h
  · replace h := h.2 (fun z => hh ((in_lt (a := x1) (b := (0 : Int32)) (by first | rfl | decide) (by first | rfl | decide)).mpr z))
    refine ww_lload_n C2.1 dX10_in_6 0 rfl rfl ?_
    refine ww_lload C2.1 dX10_in_7 2 rfl ?_
    refine ww_lcmp C2.1 dX10_in_9 ?_
    refine ww_if_gt (x := (lg_cmp x1.toInt64 (29 : Int64))) C2.1 (tgt := 17) dX10_in_10 (by decide) (fun hh => ?_) (fun hh => ?_)
    · replace h := h.1 ((in_gt (a := x1) (b := (29 : Int32)) (by first | rfl | decide) (by first | rfl | decide)).mp hh)
      refine ww_iconst C2.1 (v := (0 : Int32)) dX10_in_17 (by decide) ?_
      refine ww_zret C2.1 dX10_in_18 rfl (Or.inl rfl) ?_
      refine k2 _ _ ?_
      refine ww_zret C1.1 dX10_isNight_9 rfl (Or.inl rfl) ?_
      refine k1 _ _ ?_
      refine ww_if_ne (x := (0 : Int32)) C.1 (tgt := 9) dX10_fewest_4 (by decide) (fun hh => absurd hh (by decide)) (fun _ => ?_)
      refine ww_iconst C.1 (v := (-1 : Int32)) dX10_fewest_7 (by decide) ?_
      refine ww_iret C.1 dX10_fewest_8 rfl ?_
      exact h
    · replace h := h.2 (fun z => hh ((in_gt (a := x1) (b := (29 : Int32)) (by first | rfl | decide) (by first | rfl | decide)).mpr z))
      refine ww_iconst C2.1 (v := (1 : Int32)) dX10_in_13 (by decide) ?_
      refine ww_goto C2.1 (tgt := 18) dX10_in_14 (by decide) ?_
      refine ww_zret C2.1 dX10_in_18 rfl (Or.inr rfl) ?_
      refine k2 _ _ ?_
      refine ww_zret C1.1 dX10_isNight_9 rfl (Or.inr rfl) ?_
      refine k1 _ _ ?_
      refine ww_if_ne (x := (1 : Int32)) C.1 (tgt := 9) dX10_fewest_4 (by decide) (fun _ => ?_) (fun hh => absurd hh (by decide))
      refine ww_iconst C.1 (v := (1 : Int32)) dX10_fewest_9 (by decide) ?_
      refine ww_istore_n C.1 dX10_fewest_10 rfl (by decide) [1, 2, 0] (L' := [(0, .ref 57), (1, .int x1), (2, .int (1 : Int32))]) rfl ?_
      exact h
set_option maxHeartbeats 4000000 in
set_option maxRecDepth 20000 in
theorem bX10_fewest_11 {X : CX} {Q : State → Prop} {M : Mem} {x1 x2 : Int32} (C : Ok0 X mX10_fewest (TTc ++ TTm))
    (h : (((M 57 1) < x2 → RetOK X Q (some (.int (-4 : Int32))) (M, (gj gm), TTc ++ TTm)) ∧ (¬ (M 57 1) < x2 → WpI mX10_stay [.ref 57, .int x2] M (gj gm) (TTc ++ TTm) (fun r M' => WW X Q 24 [(0, .ref 57), (1, .int x1), (2, .int x2)] [.int r] (M', (gj gm), TTc ++ TTm))))) :
    WW X Q 11 [(0, .ref 57), (1, .int x1), (2, .int x2)] [] (M, (gj gm), TTc ++ TTm) := by
  refine ww_iload_n C.1 dX10_fewest_11 2 rfl rfl ?_
  refine ww_aload_n C.1 dX10_fewest_12 0 rfl rfl ?_
  refine wt_getI C.1 dX10_fewest_13 flRX10_13 tm57 rfl ?_
  refine ww_icmp_gt (x := x2) (y := (M 57 1)) C.1 (tgt := 84) dX10_fewest_16 (by decide) (fun hh => ?_) (fun hh => ?_)
  · replace h := h.1 hh
    refine ww_bipush C.1 (v := (-4 : Int32)) dX10_fewest_84 (by decide) ?_
    refine ww_iret C.1 dX10_fewest_86 rfl ?_
    exact h
  · replace h := h.2 hh
    refine ww_aload_n C.1 dX10_fewest_19 0 rfl rfl ?_
    refine ww_iload_n C.1 dX10_fewest_20 2 rfl rfl ?_
    refine ww_vI C fX10_stay (And.intro (by decide) (by decide)) mlRX10_235 dX10_fewest_21 tm57 (by decide) rfl (As := [.int x2]) (rest := []) rfl rfl rfl (Nat.le_of_ble_eq_true rfl) ?_
    exact h
set_option maxHeartbeats 4000000 in
set_option maxRecDepth 20000 in
theorem bX10_fewest_30 {X : CX} {Q : State → Prop} {M : Mem} {x1 x2 x3 x4 : Int32} (C : Ok0 X mX10_fewest (TTc ++ TTm))
    (h : (((M 57 7) ≤ x4 → ((x3 = (0 : Int32) → WW X Q 11 [(0, .ref 57), (1, .int x1), (2, .int (x2 + (1 : Int32)))] [] (M, (gj gm), TTc ++ TTm)) ∧ (¬ x3 = (0 : Int32) → RetOK X Q (some (.int x2)) (M, (gj gm), TTc ++ TTm)))) ∧ (¬ (M 57 7) ≤ x4 → ((x3 = (0 : Int32) → WW X Q 30 [(0, .ref 57), (1, .int x1), (2, .int x2), (3, .int (0 : Int32)), (4, .int (x4 + (1 : Int32)))] [] (M, (gj gm), TTc ++ TTm)) ∧ (¬ x3 = (0 : Int32) → (vp_in x4 7 ∧ (((M 72 x4.toNatClampNeg) < (0 : Int32) → WW X Q 30 [(0, .ref 57), (1, .int x1), (2, .int x2), (3, .int (0 : Int32)), (4, .int (x4 + (1 : Int32)))] [] (M, (gj gm), TTc ++ TTm)) ∧ (¬ (M 72 x4.toNatClampNeg) < (0 : Int32) → ((x1 < (M 72 x4.toNatClampNeg) → WW X Q 30 [(0, .ref 57), (1, .int x1), (2, .int x2), (3, .int (0 : Int32)), (4, .int (x4 + (1 : Int32)))] [] (M, (gj gm), TTc ++ TTm)) ∧ (¬ x1 < (M 72 x4.toNatClampNeg) → WW X Q 30 [(0, .ref 57), (1, .int x1), (2, .int x2), (3, .int (1 : Int32)), (4, .int (x4 + (1 : Int32)))] [] (M, (gj gm), TTc ++ TTm))))))))))) :
    WW X Q 30 [(0, .ref 57), (1, .int x1), (2, .int x2), (3, .int x3), (4, .int x4)] [] (M, (gj gm), TTc ++ TTm) := by
  refine ww_iload C.1 dX10_fewest_30 4 rfl ?_
  refine ww_aload_n C.1 dX10_fewest_32 0 rfl rfl ?_
  refine wt_getI C.1 dX10_fewest_33 flRX10_29 tm57 rfl ?_
  refine ww_icmp_ge (x := x4) (y := (M 57 7)) C.1 (tgt := 72) dX10_fewest_36 (by decide) (fun hh => ?_) (fun hh => ?_)
  · replace h := h.1 hh
    refine ww_iload_n C.1 dX10_fewest_72 3 rfl rfl ?_
    refine ww_if_eq (x := x3) C.1 (tgt := 78) dX10_fewest_73 (by decide) (fun hh => ?_) (fun hh => ?_)
    · replace h := h.1 hh
      refine ww_iinc C.1 (v := (x2 + (1 : Int32))) dX10_fewest_78 2 rfl (by rfl) (by decide) [1, 2, 0, 3, 4] (L' := [(0, .ref 57), (1, .int x1), (2, .int (x2 + (1 : Int32))), (3, .int x3), (4, .int x4)]) rfl ?_
      refine ww_goto C.1 (tgt := 11) dX10_fewest_81 (by decide) ?_
      refine ww_loc [0, 1, 2] (L' := [(0, .ref 57), (1, .int x1), (2, .int (x2 + (1 : Int32)))]) rfl ?_
      exact h
    · replace h := h.2 hh
      refine ww_iload_n C.1 dX10_fewest_76 2 rfl rfl ?_
      refine ww_iret C.1 dX10_fewest_77 rfl ?_
      exact h
  · replace h := h.2 hh
    refine ww_iload_n C.1 dX10_fewest_39 3 rfl rfl ?_
    refine ww_if_eq (x := x3) C.1 (tgt := 64) dX10_fewest_40 (by decide) (fun hh => ?_) (fun hh => ?_)
    · replace h := h.1 hh
      refine ww_iconst C.1 (v := (0 : Int32)) dX10_fewest_64 (by decide) ?_
      refine ww_istore_n C.1 dX10_fewest_65 rfl (by decide) [1, 2, 3, 0, 4] (L' := [(0, .ref 57), (1, .int x1), (2, .int x2), (3, .int (0 : Int32)), (4, .int x4)]) rfl ?_
      refine ww_iinc C.1 (v := (x4 + (1 : Int32))) dX10_fewest_66 4 rfl (by rfl) (by decide) [1, 2, 3, 4, 0] (L' := [(0, .ref 57), (1, .int x1), (2, .int x2), (3, .int (0 : Int32)), (4, .int (x4 + (1 : Int32)))]) rfl ?_
      refine ww_goto C.1 (tgt := 30) dX10_fewest_69 (by decide) ?_
      exact h
    · replace h := h.2 hh
      refine ww_aload_n C.1 dX10_fewest_43 0 rfl rfl ?_
      refine wt_getR C.1 dX10_fewest_44 flRX10_65 tm57 rfl gm57_29 ?_
      refine ww_iload C.1 dX10_fewest_47 4 rfl ?_
      refine wt_iald C.1 dX10_fewest_49 tm72 h.1 ?_
      replace h := h.2
      refine ww_i2l C.1 dX10_fewest_50 rfl ?_
      refine ww_lconst C.1 (v := 0) dX10_fewest_51 (by decide) ?_
      refine ww_iload_n C.1 dX10_fewest_52 1 rfl rfl ?_
      refine ww_i2l C.1 dX10_fewest_53 rfl ?_
      refine ww_sI C fX10_in (And.intro (by decide) (by decide)) mlRX10_101 dX10_fewest_54 (As := [.long (M 72 x4.toNatClampNeg).toInt64, .long (0 : Int64), .long x1.toInt64]) (rest := []) rfl rfl rfl (Nat.le_of_ble_eq_true rfl) (WpI.of (L0 := [(0, .long (M 72 x4.toNatClampNeg).toInt64), (2, .long (0 : Int64)), (4, .long x1.toInt64)]) rfl rfl (Nat.le_of_ble_eq_true rfl) fun X1 Q1 C1 k1 => ?_)
      refine ww_lload_n C1.1 dX10_in_0 0 rfl rfl ?_
      refine ww_lload_n C1.1 dX10_in_1 1 rfl rfl ?_
      refine ww_lcmp C1.1 dX10_in_2 ?_
      refine ww_if_lt (x := (lg_cmp (M 72 x4.toNatClampNeg).toInt64 (0 : Int64))) C1.1 (tgt := 17) dX10_in_3 (by decide) (fun hh => ?_) (fun hh => ?_)
      · replace h := h.1 ((in_lt (a := (M 72 x4.toNatClampNeg)) (b := (0 : Int32)) (by first | rfl | decide) (by first | rfl | decide)).mp hh)
        refine ww_iconst C1.1 (v := (0 : Int32)) dX10_in_17 (by decide) ?_
        refine ww_zret C1.1 dX10_in_18 rfl (Or.inl rfl) ?_
        refine k1 _ _ ?_
        refine ww_if_eq (x := (0 : Int32)) C.1 (tgt := 64) dX10_fewest_57 (by decide) (fun _ => ?_) (fun hh => absurd hh (by decide))
        refine ww_iconst C.1 (v := (0 : Int32)) dX10_fewest_64 (by decide) ?_
        refine ww_istore_n C.1 dX10_fewest_65 rfl (by decide) [1, 2, 3, 0, 4] (L' := [(0, .ref 57), (1, .int x1), (2, .int x2), (3, .int (0 : Int32)), (4, .int x4)]) rfl ?_
        refine ww_iinc C.1 (v := (x4 + (1 : Int32))) dX10_fewest_66 4 rfl (by rfl) (by decide) [1, 2, 3, 4, 0] (L' := [(0, .ref 57), (1, .int x1), (2, .int x2), (3, .int (0 : Int32)), (4, .int (x4 + (1 : Int32)))]) rfl ?_
        refine ww_goto C.1 (tgt := 30) dX10_fewest_69 (by decide) ?_
        exact h
      · replace h := h.2 (fun z => hh ((in_lt (a := (M 72 x4.toNatClampNeg)) (b := (0 : Int32)) (by first | rfl | decide) (by first | rfl | decide)).mpr z))
        refine ww_lload_n C1.1 dX10_in_6 0 rfl rfl ?_
        refine ww_lload C1.1 dX10_in_7 2 rfl ?_
        refine ww_lcmp C1.1 dX10_in_9 ?_
        refine ww_if_gt (x := (lg_cmp (M 72 x4.toNatClampNeg).toInt64 x1.toInt64)) C1.1 (tgt := 17) dX10_in_10 (by decide) (fun hh => ?_) (fun hh => ?_)
        · replace h := h.1 ((in_gt (a := (M 72 x4.toNatClampNeg)) (b := x1) (by first | rfl | decide) (by first | rfl | decide)).mp hh)
          refine ww_iconst C1.1 (v := (0 : Int32)) dX10_in_17 (by decide) ?_
          refine ww_zret C1.1 dX10_in_18 rfl (Or.inl rfl) ?_
          refine k1 _ _ ?_
          refine ww_if_eq (x := (0 : Int32)) C.1 (tgt := 64) dX10_fewest_57 (by decide) (fun _ => ?_) (fun hh => absurd hh (by decide))
          refine ww_iconst C.1 (v := (0 : Int32)) dX10_fewest_64 (by decide) ?_
          refine ww_istore_n C.1 dX10_fewest_65 rfl (by decide) [1, 2, 3, 0, 4] (L' := [(0, .ref 57), (1, .int x1), (2, .int x2), (3, .int (0 : Int32)), (4, .int x4)]) rfl ?_
          refine ww_iinc C.1 (v := (x4 + (1 : Int32))) dX10_fewest_66 4 rfl (by rfl) (by decide) [1, 2, 3, 4, 0] (L' := [(0, .ref 57), (1, .int x1), (2, .int x2), (3, .int (0 : Int32)), (4, .int (x4 + (1 : Int32)))]) rfl ?_
          refine ww_goto C.1 (tgt := 30) dX10_fewest_69 (by decide) ?_
          exact h
        · replace h := h.2 (fun z => hh ((in_gt (a := (M 72 x4.toNatClampNeg)) (b := x1) (by first | rfl | decide) (by first | rfl | decide)).mpr z))
          refine ww_iconst C1.1 (v := (1 : Int32)) dX10_in_13 (by decide) ?_
          refine ww_goto C1.1 (tgt := 18) dX10_in_14 (by decide) ?_
          refine ww_zret C1.1 dX10_in_18 rfl (Or.inr rfl) ?_
          refine k1 _ _ ?_
          refine ww_if_eq (x := (1 : Int32)) C.1 (tgt := 64) dX10_fewest_57 (by decide) (fun hh => absurd hh (by decide)) (fun _ => ?_)
          refine ww_iconst C.1 (v := (1 : Int32)) dX10_fewest_60 (by decide) ?_
          refine ww_goto C.1 (tgt := 65) dX10_fewest_61 (by decide) ?_
          refine ww_istore_n C.1 dX10_fewest_65 rfl (by decide) [1, 2, 3, 0, 4] (L' := [(0, .ref 57), (1, .int x1), (2, .int x2), (3, .int (1 : Int32)), (4, .int x4)]) rfl ?_
          refine ww_iinc C.1 (v := (x4 + (1 : Int32))) dX10_fewest_66 4 rfl (by rfl) (by decide) [1, 2, 3, 4, 0] (L' := [(0, .ref 57), (1, .int x1), (2, .int x2), (3, .int (1 : Int32)), (4, .int (x4 + (1 : Int32)))]) rfl ?_
          refine ww_goto C.1 (tgt := 30) dX10_fewest_69 (by decide) ?_
          exact h
set_option maxHeartbeats 4000000 in
set_option maxRecDepth 20000 in
theorem bX10_fewest_24 {X : CX} {Q : State → Prop} {M : Mem} {x1 x2 s0 : Int32} (C : Ok0 X mX10_fewest (TTc ++ TTm))
    (h : WW X Q 30 [(0, .ref 57), (1, .int x1), (2, .int x2), (3, .int (1 : Int32)), (4, .int (0 : Int32))] [] (M, (gj gm), TTc ++ TTm)) :
    WW X Q 24 [(0, .ref 57), (1, .int x1), (2, .int x2)] [.int s0] (M, (gj gm), TTc ++ TTm) := by
  refine ww_pop C.1 dX10_fewest_24 rfl ?_
  refine ww_iconst C.1 (v := (1 : Int32)) dX10_fewest_25 (by decide) ?_
  refine ww_istore_n C.1 dX10_fewest_26 rfl (by decide) [1, 2, 3, 0] (L' := [(0, .ref 57), (1, .int x1), (2, .int x2), (3, .int (1 : Int32))]) rfl ?_
  refine ww_iconst C.1 (v := (0 : Int32)) dX10_fewest_27 (by decide) ?_
  refine ww_istore C.1 dX10_fewest_28 (by decide) [1, 2, 3, 4, 0] (L' := [(0, .ref 57), (1, .int x1), (2, .int x2), (3, .int (1 : Int32)), (4, .int (0 : Int32))]) rfl ?_
  exact h
set_option maxHeartbeats 4000000 in
set_option maxRecDepth 20000 in
theorem bX10_turned_0 {X : CX} {Q : State → Prop} {M : Mem} (C : Ok0 X mX10_turned (TTc ++ TTm))
    (h : WpI mX10_stay [.ref 57, .int (M 57 1)] (wr M 57 27 (1 : Int32)) (gj gm) (TTc ++ TTm) (fun r M' => WW X Q 13 [(0, .ref 57)] [.int r] (M', (gj gm), TTc ++ TTm))) :
    WW X Q 0 [(0, .ref 57)] [] (M, (gj gm), TTc ++ TTm) := by
  refine ww_aload_n C.1 dX10_turned_0 0 rfl rfl ?_
  refine ww_iconst C.1 (v := (1 : Int32)) dX10_turned_1 (by decide) ?_
  refine wt_putZ C.1 dX10_turned_2 flRX10_179 tm57 rfl (Or.inr rfl) ?_
  refine ww_aload_n C.1 dX10_turned_5 0 rfl rfl ?_
  refine ww_aload_n C.1 dX10_turned_6 0 rfl rfl ?_
  refine wt_getI C.1 dX10_turned_7 flRX10_13 tm57 rfl ?_
  refine ww_vI C fX10_stay (And.intro (by decide) (by decide)) mlRX10_235 dX10_turned_10 tm57 (by decide) rfl (As := [.int (M 57 1)]) (rest := []) rfl rfl rfl (Nat.le_of_ble_eq_true rfl) ?_
  exact h
set_option maxHeartbeats 4000000 in
set_option maxRecDepth 20000 in
theorem bX10_turned_13 {X : CX} {Q : State → Prop} {M : Mem} {s0 : Int32} (C : Ok0 X mX10_turned (TTc ++ TTm))
    (h : RetOK X Q (some (.int s0)) ((wr M 57 27 (0 : Int32)), (gj gm), TTc ++ TTm)) :
    WW X Q 13 [(0, .ref 57)] [.int s0] (M, (gj gm), TTc ++ TTm) := by
  refine ww_istore_n C.1 dX10_turned_13 rfl (by decide) [1, 0] (L' := [(0, .ref 57), (1, .int s0)]) rfl ?_
  refine ww_aload_n C.1 dX10_turned_14 0 rfl rfl ?_
  refine ww_iconst C.1 (v := (0 : Int32)) dX10_turned_15 (by decide) ?_
  refine wt_putZ C.1 dX10_turned_16 flRX10_179 tm57 rfl (Or.inl rfl) ?_
  refine ww_iload_n C.1 dX10_turned_19 1 rfl rfl ?_
  refine ww_iret C.1 dX10_turned_20 rfl ?_
  exact h
set_option maxHeartbeats 4000000 in
set_option maxRecDepth 20000 in
theorem bX10_left_0 {X : CX} {Q : State → Prop} {M : Mem} {x1 x2 x3 : Int32} (C : Ok0 X mX10_left (TTc ++ TTm))
    (h : ((x1 < (0 : Int32) → RetOK X Q (some (.int (-1 : Int32))) (M, (gj gm), TTc ++ TTm)) ∧ (¬ x1 < (0 : Int32) → ((((M 57 1) - (1 : Int32)) < x1 → RetOK X Q (some (.int (-1 : Int32))) (M, (gj gm), TTc ++ TTm)) ∧ (¬ ((M 57 1) - (1 : Int32)) < x1 → ((x2 < (0 : Int32) → RetOK X Q (some (.int (-1 : Int32))) (M, (gj gm), TTc ++ TTm)) ∧ (¬ x2 < (0 : Int32) → (((29 : Int32) < x2 → RetOK X Q (some (.int (-1 : Int32))) (M, (gj gm), TTc ++ TTm)) ∧ (¬ (29 : Int32) < x2 → ((x3 < (0 : Int32) → RetOK X Q (some (.int (-1 : Int32))) (M, (gj gm), TTc ++ TTm)) ∧ (¬ x3 < (0 : Int32) → (((99 : Int32) < x3 → RetOK X Q (some (.int (-1 : Int32))) (M, (gj gm), TTc ++ TTm)) ∧ (¬ (99 : Int32) < x3 → ((¬ (M 57 39) = (6 : Int32) → (vp_in ((3 : Int32) * (M 57 39)) 18 ∧ (vp_in (((3 : Int32) * (M 57 39)) + (1 : Int32)) 18 ∧ (vp_in (((3 : Int32) * (M 57 39)) + (2 : Int32)) 18 ∧ RetOK X Q (some (.int ((M 57 39) + (1 : Int32)))) ((wr (wr (wr (wr M 80 ((3 : Int32) * (M 57 39)).toNatClampNeg x1) 80 (((3 : Int32) * (M 57 39)) + (1 : Int32)).toNatClampNeg x2) 80 (((3 : Int32) * (M 57 39)) + (2 : Int32)).toNatClampNeg x3) 57 39 ((M 57 39) + (1 : Int32))), (gj gm), TTc ++ TTm))))) ∧ ((M 57 39) = (6 : Int32) → RetOK X Q (some (.int (-3 : Int32))) (M, (gj gm), TTc ++ TTm)))))))))))))))) :
    WW X Q 0 [(0, .ref 57), (1, .int x1), (2, .int x2), (3, .int x3)] [] (M, (gj gm), TTc ++ TTm) := by
  refine ww_aload_n C.1 dX10_left_0 0 rfl rfl ?_
  refine ww_iload_n C.1 dX10_left_1 1 rfl rfl ?_
  refine ww_vI C fX10_isBed (And.intro (by decide) (by decide)) mlRX10_193 dX10_left_2 tm57 (by decide) rfl (As := [.int x1]) (rest := []) rfl rfl rfl (Nat.le_of_ble_eq_true rfl) (WpI.of (L0 := [(0, .ref 57), (1, .int x1)]) rfl rfl (Nat.le_of_ble_eq_true rfl) fun X1 Q1 C1 k1 => ?_)
  refine ww_iload_n C1.1 dX10_isBed_0 1 rfl rfl ?_
  refine ww_i2l C1.1 dX10_isBed_1 rfl ?_
  refine ww_lconst C1.1 (v := 0) dX10_isBed_2 (by decide) ?_
  refine ww_aload_n C1.1 dX10_isBed_3 0 rfl rfl ?_
  refine wt_getI C1.1 dX10_isBed_4 flRX10_13 tm57 rfl ?_
  refine ww_iconst C1.1 (v := (1 : Int32)) dX10_isBed_7 (by decide) ?_
  refine ww_isub C1.1 dX10_isBed_8 ?_
  refine ww_i2l C1.1 dX10_isBed_9 rfl ?_
  refine ww_sI C1 fX10_in (And.intro (by decide) (by decide)) mlRX10_101 dX10_isBed_10 (As := [.long x1.toInt64, .long (0 : Int64), .long ((M 57 1) - (1 : Int32)).toInt64]) (rest := []) rfl rfl rfl (Nat.le_of_ble_eq_true rfl) (WpI.of (L0 := [(0, .long x1.toInt64), (2, .long (0 : Int64)), (4, .long ((M 57 1) - (1 : Int32)).toInt64)]) rfl rfl (Nat.le_of_ble_eq_true rfl) fun X2 Q2 C2 k2 => ?_)
  refine ww_lload_n C2.1 dX10_in_0 0 rfl rfl ?_
  refine ww_lload_n C2.1 dX10_in_1 1 rfl rfl ?_
  refine ww_lcmp C2.1 dX10_in_2 ?_
  refine ww_if_lt (x := (lg_cmp x1.toInt64 (0 : Int64))) C2.1 (tgt := 17) dX10_in_3 (by decide) (fun hh => ?_) (fun hh => ?_)
  · replace h := h.1 ((in_lt (a := x1) (b := (0 : Int32)) (by first | rfl | decide) (by first | rfl | decide)).mp hh)
    refine ww_iconst C2.1 (v := (0 : Int32)) dX10_in_17 (by decide) ?_
    refine ww_zret C2.1 dX10_in_18 rfl (Or.inl rfl) ?_
    refine k2 _ _ ?_
    refine ww_zret C1.1 dX10_isBed_13 rfl (Or.inl rfl) ?_
    refine k1 _ _ ?_
    refine ww_if_eq (x := (0 : Int32)) C.1 (tgt := 27) dX10_left_5 (by decide) (fun _ => ?_) (fun hh => absurd hh (by decide))
    refine ww_iconst C.1 (v := (-1 : Int32)) dX10_left_27 (by decide) ?_
    refine ww_iret C.1 dX10_left_28 rfl ?_
    exact h
  · replace h := h.2 (fun z => hh ((in_lt (a := x1) (b := (0 : Int32)) (by first | rfl | decide) (by first | rfl | decide)).mpr z))
    refine ww_lload_n C2.1 dX10_in_6 0 rfl rfl ?_
    refine ww_lload C2.1 dX10_in_7 2 rfl ?_
    refine ww_lcmp C2.1 dX10_in_9 ?_
    refine ww_if_gt (x := (lg_cmp x1.toInt64 ((M 57 1) - (1 : Int32)).toInt64)) C2.1 (tgt := 17) dX10_in_10 (by decide) (fun hh => ?_) (fun hh => ?_)
    · replace h := h.1 ((in_gt (a := x1) (b := ((M 57 1) - (1 : Int32))) (by first | rfl | decide) (by first | rfl | decide)).mp hh)
      refine ww_iconst C2.1 (v := (0 : Int32)) dX10_in_17 (by decide) ?_
      refine ww_zret C2.1 dX10_in_18 rfl (Or.inl rfl) ?_
      refine k2 _ _ ?_
      refine ww_zret C1.1 dX10_isBed_13 rfl (Or.inl rfl) ?_
      refine k1 _ _ ?_
      refine ww_if_eq (x := (0 : Int32)) C.1 (tgt := 27) dX10_left_5 (by decide) (fun _ => ?_) (fun hh => absurd hh (by decide))
      refine ww_iconst C.1 (v := (-1 : Int32)) dX10_left_27 (by decide) ?_
      refine ww_iret C.1 dX10_left_28 rfl ?_
      exact h
    · replace h := h.2 (fun z => hh ((in_gt (a := x1) (b := ((M 57 1) - (1 : Int32))) (by first | rfl | decide) (by first | rfl | decide)).mpr z))
      refine ww_iconst C2.1 (v := (1 : Int32)) dX10_in_13 (by decide) ?_
      refine ww_goto C2.1 (tgt := 18) dX10_in_14 (by decide) ?_
      refine ww_zret C2.1 dX10_in_18 rfl (Or.inr rfl) ?_
      refine k2 _ _ ?_
      refine ww_zret C1.1 dX10_isBed_13 rfl (Or.inr rfl) ?_
      refine k1 _ _ ?_
      refine ww_if_eq (x := (1 : Int32)) C.1 (tgt := 27) dX10_left_5 (by decide) (fun hh => absurd hh (by decide)) (fun _ => ?_)
      refine ww_iload_n C.1 dX10_left_8 2 rfl rfl ?_
      refine ww_sI C fX10_isNight (And.intro (by decide) (by decide)) mlRX10_196 dX10_left_9 (As := [.int x2]) (rest := []) rfl rfl rfl (Nat.le_of_ble_eq_true rfl) (WpI.of (L0 := [(0, .int x2)]) rfl rfl (Nat.le_of_ble_eq_true rfl) fun X3 Q3 C3 k3 => ?_)
      refine ww_iload_n C3.1 dX10_isNight_0 0 rfl rfl ?_
      refine ww_i2l C3.1 dX10_isNight_1 rfl ?_
      refine ww_lconst C3.1 (v := 0) dX10_isNight_2 (by decide) ?_
      refine ww_ldc2 C3.1 kcRX10_105 dX10_isNight_3 ?_
      refine ww_sI C3 fX10_in (And.intro (by decide) (by decide)) mlRX10_101 dX10_isNight_6 (As := [.long x2.toInt64, .long (0 : Int64), .long (29 : Int64)]) (rest := []) rfl rfl rfl (Nat.le_of_ble_eq_true rfl) (WpI.of (L0 := [(0, .long x2.toInt64), (2, .long (0 : Int64)), (4, .long (29 : Int64))]) rfl rfl (Nat.le_of_ble_eq_true rfl) fun X4 Q4 C4 k4 => ?_)
      refine ww_lload_n C4.1 dX10_in_0 0 rfl rfl ?_
      refine ww_lload_n C4.1 dX10_in_1 1 rfl rfl ?_
      refine ww_lcmp C4.1 dX10_in_2 ?_
      refine ww_if_lt (x := (lg_cmp x2.toInt64 (0 : Int64))) C4.1 (tgt := 17) dX10_in_3 (by decide) (fun hh => ?_) (fun hh => ?_)
      · replace h := h.1 ((in_lt (a := x2) (b := (0 : Int32)) (by first | rfl | decide) (by first | rfl | decide)).mp hh)
        refine ww_iconst C4.1 (v := (0 : Int32)) dX10_in_17 (by decide) ?_
        refine ww_zret C4.1 dX10_in_18 rfl (Or.inl rfl) ?_
        refine k4 _ _ ?_
        refine ww_zret C3.1 dX10_isNight_9 rfl (Or.inl rfl) ?_
        refine k3 _ _ ?_
        refine ww_if_eq (x := (0 : Int32)) C.1 (tgt := 27) dX10_left_12 (by decide) (fun _ => ?_) (fun hh => absurd hh (by decide))
        refine ww_iconst C.1 (v := (-1 : Int32)) dX10_left_27 (by decide) ?_
        refine ww_iret C.1 dX10_left_28 rfl ?_
        exact h
      · replace h := h.2 (fun z => hh ((in_lt (a := x2) (b := (0 : Int32)) (by first | rfl | decide) (by first | rfl | decide)).mpr z))
        refine ww_lload_n C4.1 dX10_in_6 0 rfl rfl ?_
        refine ww_lload C4.1 dX10_in_7 2 rfl ?_
        refine ww_lcmp C4.1 dX10_in_9 ?_
        refine ww_if_gt (x := (lg_cmp x2.toInt64 (29 : Int64))) C4.1 (tgt := 17) dX10_in_10 (by decide) (fun hh => ?_) (fun hh => ?_)
        · replace h := h.1 ((in_gt (a := x2) (b := (29 : Int32)) (by first | rfl | decide) (by first | rfl | decide)).mp hh)
          refine ww_iconst C4.1 (v := (0 : Int32)) dX10_in_17 (by decide) ?_
          refine ww_zret C4.1 dX10_in_18 rfl (Or.inl rfl) ?_
          refine k4 _ _ ?_
          refine ww_zret C3.1 dX10_isNight_9 rfl (Or.inl rfl) ?_
          refine k3 _ _ ?_
          refine ww_if_eq (x := (0 : Int32)) C.1 (tgt := 27) dX10_left_12 (by decide) (fun _ => ?_) (fun hh => absurd hh (by decide))
          refine ww_iconst C.1 (v := (-1 : Int32)) dX10_left_27 (by decide) ?_
          refine ww_iret C.1 dX10_left_28 rfl ?_
          exact h
        · replace h := h.2 (fun z => hh ((in_gt (a := x2) (b := (29 : Int32)) (by first | rfl | decide) (by first | rfl | decide)).mpr z))
          refine ww_iconst C4.1 (v := (1 : Int32)) dX10_in_13 (by decide) ?_
          refine ww_goto C4.1 (tgt := 18) dX10_in_14 (by decide) ?_
          refine ww_zret C4.1 dX10_in_18 rfl (Or.inr rfl) ?_
          refine k4 _ _ ?_
          refine ww_zret C3.1 dX10_isNight_9 rfl (Or.inr rfl) ?_
          refine k3 _ _ ?_
          refine ww_if_eq (x := (1 : Int32)) C.1 (tgt := 27) dX10_left_12 (by decide) (fun hh => absurd hh (by decide)) (fun _ => ?_)
          refine ww_iload_n C.1 dX10_left_15 3 rfl rfl ?_
          refine ww_i2l C.1 dX10_left_16 rfl ?_
          refine ww_lconst C.1 (v := 0) dX10_left_17 (by decide) ?_
          refine ww_ldc2 C.1 kcRX10_133 dX10_left_18 ?_
          refine ww_sI C fX10_in (And.intro (by decide) (by decide)) mlRX10_101 dX10_left_21 (As := [.long x3.toInt64, .long (0 : Int64), .long (99 : Int64)]) (rest := []) rfl rfl rfl (Nat.le_of_ble_eq_true rfl) (WpI.of (L0 := [(0, .long x3.toInt64), (2, .long (0 : Int64)), (4, .long (99 : Int64))]) rfl rfl (Nat.le_of_ble_eq_true rfl) fun X5 Q5 C5 k5 => ?_)
          refine ww_lload_n C5.1 dX10_in_0 0 rfl rfl ?_
          refine ww_lload_n C5.1 dX10_in_1 1 rfl rfl ?_
          refine ww_lcmp C5.1 dX10_in_2 ?_
          refine ww_if_lt (x := (lg_cmp x3.toInt64 (0 : Int64))) C5.1 (tgt := 17) dX10_in_3 (by decide) (fun hh => ?_) (fun hh => ?_)
          · replace h := h.1 ((in_lt (a := x3) (b := (0 : Int32)) (by first | rfl | decide) (by first | rfl | decide)).mp hh)
            refine ww_iconst C5.1 (v := (0 : Int32)) dX10_in_17 (by decide) ?_
            refine ww_zret C5.1 dX10_in_18 rfl (Or.inl rfl) ?_
            refine k5 _ _ ?_
            refine ww_if_ne (x := (0 : Int32)) C.1 (tgt := 29) dX10_left_24 (by decide) (fun hh => absurd hh (by decide)) (fun _ => ?_)
            refine ww_iconst C.1 (v := (-1 : Int32)) dX10_left_27 (by decide) ?_
            refine ww_iret C.1 dX10_left_28 rfl ?_
            exact h
          · replace h := h.2 (fun z => hh ((in_lt (a := x3) (b := (0 : Int32)) (by first | rfl | decide) (by first | rfl | decide)).mpr z))
            refine ww_lload_n C5.1 dX10_in_6 0 rfl rfl ?_
            refine ww_lload C5.1 dX10_in_7 2 rfl ?_
            refine ww_lcmp C5.1 dX10_in_9 ?_
            refine ww_if_gt (x := (lg_cmp x3.toInt64 (99 : Int64))) C5.1 (tgt := 17) dX10_in_10 (by decide) (fun hh => ?_) (fun hh => ?_)
            · replace h := h.1 ((in_gt (a := x3) (b := (99 : Int32)) (by first | rfl | decide) (by first | rfl | decide)).mp hh)
              refine ww_iconst C5.1 (v := (0 : Int32)) dX10_in_17 (by decide) ?_
              refine ww_zret C5.1 dX10_in_18 rfl (Or.inl rfl) ?_
              refine k5 _ _ ?_
              refine ww_if_ne (x := (0 : Int32)) C.1 (tgt := 29) dX10_left_24 (by decide) (fun hh => absurd hh (by decide)) (fun _ => ?_)
              refine ww_iconst C.1 (v := (-1 : Int32)) dX10_left_27 (by decide) ?_
              refine ww_iret C.1 dX10_left_28 rfl ?_
              exact h
            · replace h := h.2 (fun z => hh ((in_gt (a := x3) (b := (99 : Int32)) (by first | rfl | decide) (by first | rfl | decide)).mpr z))
              refine ww_iconst C5.1 (v := (1 : Int32)) dX10_in_13 (by decide) ?_
              refine ww_goto C5.1 (tgt := 18) dX10_in_14 (by decide) ?_
              refine ww_zret C5.1 dX10_in_18 rfl (Or.inr rfl) ?_
              refine k5 _ _ ?_
              refine ww_if_ne (x := (1 : Int32)) C.1 (tgt := 29) dX10_left_24 (by decide) (fun _ => ?_) (fun hh => absurd hh (by decide))
              refine ww_aload_n C.1 dX10_left_29 0 rfl rfl ?_
              refine wt_getI C.1 dX10_left_30 flRX10_173 tm57 rfl ?_
              refine ww_bipush C.1 (v := (6 : Int32)) dX10_left_33 (by decide) ?_
              refine ww_icmp_ne (x := (M 57 39)) (y := (6 : Int32)) C.1 (tgt := 41) dX10_left_35 (by decide) (fun hh => ?_) (fun hh => ?_)
              · replace h := h.1 hh
                refine ww_aload_n C.1 dX10_left_41 0 rfl rfl ?_
                refine wt_getR C.1 dX10_left_42 flRX10_89 tm57 rfl gm57_38 ?_
                refine ww_iconst C.1 (v := (3 : Int32)) dX10_left_45 (by decide) ?_
                refine ww_aload_n C.1 dX10_left_46 0 rfl rfl ?_
                refine wt_getI C.1 dX10_left_47 flRX10_173 tm57 rfl ?_
                refine ww_imul C.1 dX10_left_50 ?_
                refine ww_iload_n C.1 dX10_left_51 1 rfl rfl ?_
                refine wt_iast C.1 dX10_left_52 tm80 h.1 ?_
                replace h := h.2
                refine ww_aload_n C.1 dX10_left_53 0 rfl rfl ?_
                refine wt_getR C.1 dX10_left_54 flRX10_89 tm57 rfl gm57_38 ?_
                refine ww_iconst C.1 (v := (3 : Int32)) dX10_left_57 (by decide) ?_
                refine ww_aload_n C.1 dX10_left_58 0 rfl rfl ?_
                refine wt_getI C.1 dX10_left_59 flRX10_173 tm57 rfl ?_
                refine ww_imul C.1 dX10_left_62 ?_
                refine ww_iconst C.1 (v := (1 : Int32)) dX10_left_63 (by decide) ?_
                refine ww_iadd C.1 dX10_left_64 ?_
                refine ww_iload_n C.1 dX10_left_65 2 rfl rfl ?_
                refine wt_iast C.1 dX10_left_66 tm80 h.1 ?_
                replace h := h.2
                refine ww_aload_n C.1 dX10_left_67 0 rfl rfl ?_
                refine wt_getR C.1 dX10_left_68 flRX10_89 tm57 rfl gm57_38 ?_
                refine ww_iconst C.1 (v := (3 : Int32)) dX10_left_71 (by decide) ?_
                refine ww_aload_n C.1 dX10_left_72 0 rfl rfl ?_
                refine wt_getI C.1 dX10_left_73 flRX10_173 tm57 rfl ?_
                refine ww_imul C.1 dX10_left_76 ?_
                refine ww_iconst C.1 (v := (2 : Int32)) dX10_left_77 (by decide) ?_
                refine ww_iadd C.1 dX10_left_78 ?_
                refine ww_iload_n C.1 dX10_left_79 3 rfl rfl ?_
                refine wt_iast C.1 dX10_left_80 tm80 h.1 ?_
                replace h := h.2
                refine ww_aload_n C.1 dX10_left_81 0 rfl rfl ?_
                refine ww_dup C.1 dX10_left_82 rfl ?_
                refine wt_getI C.1 dX10_left_83 flRX10_173 tm57 rfl ?_
                refine ww_iconst C.1 (v := (1 : Int32)) dX10_left_86 (by decide) ?_
                refine ww_iadd C.1 dX10_left_87 ?_
                refine wt_putI C.1 dX10_left_88 flRX10_173 tm57 rfl ?_
                refine ww_aload_n C.1 dX10_left_91 0 rfl rfl ?_
                refine wt_getI C.1 dX10_left_92 flRX10_173 tm57 rfl ?_
                refine ww_iret C.1 dX10_left_95 rfl ?_
                exact h
              · replace h := h.2 hh
                refine ww_bipush C.1 (v := (-3 : Int32)) dX10_left_38 (by decide) ?_
                refine ww_iret C.1 dX10_left_40 rfl ?_
                exact h
set_option maxHeartbeats 4000000 in
set_option maxRecDepth 20000 in
theorem bX10_sweep_0 {X : CX} {Q : State → Prop} {M : Mem} (C : Ok0 X mX10_sweep (TTc ++ TTm))
    (h : RetOK X Q (some (.int (M 57 39))) ((wr M 57 39 (0 : Int32)), (gj gm), TTc ++ TTm)) :
    WW X Q 0 [(0, .ref 57)] [] (M, (gj gm), TTc ++ TTm) := by
  refine ww_aload_n C.1 dX10_sweep_0 0 rfl rfl ?_
  refine wt_getI C.1 dX10_sweep_1 flRX10_173 tm57 rfl ?_
  refine ww_istore_n C.1 dX10_sweep_4 rfl (by decide) [1, 0] (L' := [(0, .ref 57), (1, .int (M 57 39))]) rfl ?_
  refine ww_aload_n C.1 dX10_sweep_5 0 rfl rfl ?_
  refine ww_iconst C.1 (v := (0 : Int32)) dX10_sweep_6 (by decide) ?_
  refine wt_putI C.1 dX10_sweep_7 flRX10_173 tm57 rfl ?_
  refine ww_iload_n C.1 dX10_sweep_10 1 rfl rfl ?_
  refine ww_iret C.1 dX10_sweep_11 rfl ?_
  exact h
set_option maxHeartbeats 4000000 in
set_option maxRecDepth 20000 in
theorem bX10_sleptBy_0 {X : CX} {Q : State → Prop} {M : Mem} {x1 : Int32} (C : Ok0 X mX10_sleptBy (TTc ++ TTm))
    (h : WW X Q 4 [(0, .ref 57), (1, .int x1), (2, .int (0 : Int32)), (3, .int (0 : Int32))] [] (M, (gj gm), TTc ++ TTm)) :
    WW X Q 0 [(0, .ref 57), (1, .int x1)] [] (M, (gj gm), TTc ++ TTm) := by
  refine ww_iconst C.1 (v := (0 : Int32)) dX10_sleptBy_0 (by decide) ?_
  refine ww_istore_n C.1 dX10_sleptBy_1 rfl (by decide) [1, 2, 0] (L' := [(0, .ref 57), (1, .int x1), (2, .int (0 : Int32))]) rfl ?_
  refine ww_iconst C.1 (v := (0 : Int32)) dX10_sleptBy_2 (by decide) ?_
  refine ww_istore_n C.1 dX10_sleptBy_3 rfl (by decide) [1, 2, 3, 0] (L' := [(0, .ref 57), (1, .int x1), (2, .int (0 : Int32)), (3, .int (0 : Int32))]) rfl ?_
  exact h
set_option maxHeartbeats 4000000 in
set_option maxRecDepth 20000 in
theorem bX10_sleptBy_4 {X : CX} {Q : State → Prop} {M : Mem} {x1 x2 x3 : Int32} (C : Ok0 X mX10_sleptBy (TTc ++ TTm))
    (h : (((M 57 7) ≤ x3 → RetOK X Q (some (.int x2)) (M, (gj gm), TTc ++ TTm)) ∧ (¬ (M 57 7) ≤ x3 → (vp_in ((14 : Int32) + x3) 21 ∧ (vp_in (((3 : Int32) * x1) + (1 : Int32)) 18 ∧ (((M 80 (((3 : Int32) * x1) + (1 : Int32)).toNatClampNeg) < (M 64 ((14 : Int32) + x3).toNatClampNeg) → WW X Q 4 [(0, .ref 57), (1, .int x1), (2, .int (x2 ||| (0 : Int32))), (3, .int (x3 + (1 : Int32)))] [] (M, (gj gm), TTc ++ TTm)) ∧ (¬ (M 80 (((3 : Int32) * x1) + (1 : Int32)).toNatClampNeg) < (M 64 ((14 : Int32) + x3).toNatClampNeg) → (vp_in ((3 : Int32) * x1) 18 ∧ (vp_in (((3 : Int32) * x1) + (1 : Int32)) 18 ∧ WpI mX10_harmOf [.ref 57, .int x3, .int (M 80 ((3 : Int32) * x1).toNatClampNeg), .int (M 80 (((3 : Int32) * x1) + (1 : Int32)).toNatClampNeg)] M (gj gm) (TTc ++ TTm) (fun r M' => WW X Q 57 [(0, .ref 57), (1, .int x1), (2, .int x2), (3, .int x3)] [.int r] (M', (gj gm), TTc ++ TTm))))))))))) :
    WW X Q 4 [(0, .ref 57), (1, .int x1), (2, .int x2), (3, .int x3)] [] (M, (gj gm), TTc ++ TTm) := by
  refine ww_iload_n C.1 dX10_sleptBy_4 3 rfl rfl ?_
  refine ww_aload_n C.1 dX10_sleptBy_5 0 rfl rfl ?_
  refine wt_getI C.1 dX10_sleptBy_6 flRX10_29 tm57 rfl ?_
  refine ww_icmp_ge (x := x3) (y := (M 57 7)) C.1 (tgt := 98) dX10_sleptBy_9 (by decide) (fun hh => ?_) (fun hh => ?_)
  · replace h := h.1 hh
    refine ww_iload_n C.1 dX10_sleptBy_98 2 rfl rfl ?_
    refine ww_iret C.1 dX10_sleptBy_99 rfl ?_
    exact h
  · replace h := h.2 hh
    refine ww_aload_n C.1 dX10_sleptBy_12 0 rfl rfl ?_
    refine wt_getR C.1 dX10_sleptBy_13 flRX10_38 tm57 rfl gm57_11 ?_
    refine ww_bipush C.1 (v := (14 : Int32)) dX10_sleptBy_16 (by decide) ?_
    refine ww_iload_n C.1 dX10_sleptBy_18 3 rfl rfl ?_
    refine ww_iadd C.1 dX10_sleptBy_19 ?_
    refine wt_iald C.1 dX10_sleptBy_20 tm64 h.1 ?_
    replace h := h.2
    refine ww_aload_n C.1 dX10_sleptBy_21 0 rfl rfl ?_
    refine wt_getR C.1 dX10_sleptBy_22 flRX10_89 tm57 rfl gm57_38 ?_
    refine ww_iconst C.1 (v := (3 : Int32)) dX10_sleptBy_25 (by decide) ?_
    refine ww_iload_n C.1 dX10_sleptBy_26 1 rfl rfl ?_
    refine ww_imul C.1 dX10_sleptBy_27 ?_
    refine ww_iconst C.1 (v := (1 : Int32)) dX10_sleptBy_28 (by decide) ?_
    refine ww_iadd C.1 dX10_sleptBy_29 ?_
    refine wt_iald C.1 dX10_sleptBy_30 tm80 h.1 ?_
    replace h := h.2
    refine ww_icmp_gt (x := (M 64 ((14 : Int32) + x3).toNatClampNeg)) (y := (M 80 (((3 : Int32) * x1) + (1 : Int32)).toNatClampNeg)) C.1 (tgt := 74) dX10_sleptBy_31 (by decide) (fun hh => ?_) (fun hh => ?_)
    · replace h := h.1 hh
      refine ww_iconst C.1 (v := (0 : Int32)) dX10_sleptBy_74 (by decide) ?_
      refine ww_istore C.1 dX10_sleptBy_75 (by decide) [1, 2, 3, 4, 0] (L' := [(0, .ref 57), (1, .int x1), (2, .int x2), (3, .int x3), (4, .int (0 : Int32))]) rfl ?_
      refine ww_iload_n C.1 dX10_sleptBy_77 2 rfl rfl ?_
      refine ww_iload C.1 dX10_sleptBy_78 4 rfl ?_
      refine ww_if_eq (x := (0 : Int32)) C.1 (tgt := 89) dX10_sleptBy_80 (by decide) (fun _ => ?_) (fun hh => absurd hh (by decide))
      refine ww_iconst C.1 (v := (0 : Int32)) dX10_sleptBy_89 (by decide) ?_
      refine ww_ior C.1 dX10_sleptBy_90 ?_
      refine ww_istore_n C.1 dX10_sleptBy_91 rfl (by decide) [1, 2, 0, 3, 4] (L' := [(0, .ref 57), (1, .int x1), (2, .int (x2 ||| (0 : Int32))), (3, .int x3), (4, .int (0 : Int32))]) rfl ?_
      refine ww_iinc C.1 (v := (x3 + (1 : Int32))) dX10_sleptBy_92 3 rfl (by rfl) (by decide) [1, 2, 3, 0, 4] (L' := [(0, .ref 57), (1, .int x1), (2, .int (x2 ||| (0 : Int32))), (3, .int (x3 + (1 : Int32))), (4, .int (0 : Int32))]) rfl ?_
      refine ww_goto C.1 (tgt := 4) dX10_sleptBy_95 (by decide) ?_
      refine ww_loc [0, 1, 2, 3] (L' := [(0, .ref 57), (1, .int x1), (2, .int (x2 ||| (0 : Int32))), (3, .int (x3 + (1 : Int32)))]) rfl ?_
      exact h
    · replace h := h.2 hh
      refine ww_aload_n C.1 dX10_sleptBy_34 0 rfl rfl ?_
      refine ww_iload_n C.1 dX10_sleptBy_35 3 rfl rfl ?_
      refine ww_aload_n C.1 dX10_sleptBy_36 0 rfl rfl ?_
      refine wt_getR C.1 dX10_sleptBy_37 flRX10_89 tm57 rfl gm57_38 ?_
      refine ww_iconst C.1 (v := (3 : Int32)) dX10_sleptBy_40 (by decide) ?_
      refine ww_iload_n C.1 dX10_sleptBy_41 1 rfl rfl ?_
      refine ww_imul C.1 dX10_sleptBy_42 ?_
      refine wt_iald C.1 dX10_sleptBy_43 tm80 h.1 ?_
      replace h := h.2
      refine ww_aload_n C.1 dX10_sleptBy_44 0 rfl rfl ?_
      refine wt_getR C.1 dX10_sleptBy_45 flRX10_89 tm57 rfl gm57_38 ?_
      refine ww_iconst C.1 (v := (3 : Int32)) dX10_sleptBy_48 (by decide) ?_
      refine ww_iload_n C.1 dX10_sleptBy_49 1 rfl rfl ?_
      refine ww_imul C.1 dX10_sleptBy_50 ?_
      refine ww_iconst C.1 (v := (1 : Int32)) dX10_sleptBy_51 (by decide) ?_
      refine ww_iadd C.1 dX10_sleptBy_52 ?_
      refine wt_iald C.1 dX10_sleptBy_53 tm80 h.1 ?_
      replace h := h.2
      refine ww_vI C fX10_harmOf (And.intro (by decide) (by decide)) mlRX10_212 dX10_sleptBy_54 tm57 (by decide) rfl (As := [.int x3, .int (M 80 ((3 : Int32) * x1).toNatClampNeg), .int (M 80 (((3 : Int32) * x1) + (1 : Int32)).toNatClampNeg)]) (rest := []) rfl rfl rfl (Nat.le_of_ble_eq_true rfl) ?_
      exact h
set_option maxHeartbeats 4000000 in
set_option maxRecDepth 20000 in
theorem bX10_sleptBy_57 {X : CX} {Q : State → Prop} {M : Mem} {x1 x2 x3 s0 : Int32} (C : Ok0 X mX10_sleptBy (TTc ++ TTm))
    (h : (vp_in (((3 : Int32) * x1) + (2 : Int32)) 18 ∧ ((¬ s0 = (M 80 (((3 : Int32) * x1) + (2 : Int32)).toNatClampNeg) → WW X Q 4 [(0, .ref 57), (1, .int x1), (2, .int (x2 ||| (0 : Int32))), (3, .int (x3 + (1 : Int32)))] [] (M, (gj gm), TTc ++ TTm)) ∧ (s0 = (M 80 (((3 : Int32) * x1) + (2 : Int32)).toNatClampNeg) → WW X Q 4 [(0, .ref 57), (1, .int x1), (2, .int (x2 ||| ((1 : Int32) <<< (x3 &&& 31)))), (3, .int (x3 + (1 : Int32)))] [] (M, (gj gm), TTc ++ TTm))))) :
    WW X Q 57 [(0, .ref 57), (1, .int x1), (2, .int x2), (3, .int x3)] [.int s0] (M, (gj gm), TTc ++ TTm) := by
  refine ww_aload_n C.1 dX10_sleptBy_57 0 rfl rfl ?_
  refine wt_getR C.1 dX10_sleptBy_58 flRX10_89 tm57 rfl gm57_38 ?_
  refine ww_iconst C.1 (v := (3 : Int32)) dX10_sleptBy_61 (by decide) ?_
  refine ww_iload_n C.1 dX10_sleptBy_62 1 rfl rfl ?_
  refine ww_imul C.1 dX10_sleptBy_63 ?_
  refine ww_iconst C.1 (v := (2 : Int32)) dX10_sleptBy_64 (by decide) ?_
  refine ww_iadd C.1 dX10_sleptBy_65 ?_
  refine wt_iald C.1 dX10_sleptBy_66 tm80 h.1 ?_
  replace h := h.2
  refine ww_icmp_ne (x := s0) (y := (M 80 (((3 : Int32) * x1) + (2 : Int32)).toNatClampNeg)) C.1 (tgt := 74) dX10_sleptBy_67 (by decide) (fun hh => ?_) (fun hh => ?_)
  · replace h := h.1 hh
    refine ww_iconst C.1 (v := (0 : Int32)) dX10_sleptBy_74 (by decide) ?_
    refine ww_istore C.1 dX10_sleptBy_75 (by decide) [1, 2, 3, 4, 0] (L' := [(0, .ref 57), (1, .int x1), (2, .int x2), (3, .int x3), (4, .int (0 : Int32))]) rfl ?_
    refine ww_iload_n C.1 dX10_sleptBy_77 2 rfl rfl ?_
    refine ww_iload C.1 dX10_sleptBy_78 4 rfl ?_
    refine ww_if_eq (x := (0 : Int32)) C.1 (tgt := 89) dX10_sleptBy_80 (by decide) (fun _ => ?_) (fun hh => absurd hh (by decide))
    refine ww_iconst C.1 (v := (0 : Int32)) dX10_sleptBy_89 (by decide) ?_
    refine ww_ior C.1 dX10_sleptBy_90 ?_
    refine ww_istore_n C.1 dX10_sleptBy_91 rfl (by decide) [1, 2, 0, 3, 4] (L' := [(0, .ref 57), (1, .int x1), (2, .int (x2 ||| (0 : Int32))), (3, .int x3), (4, .int (0 : Int32))]) rfl ?_
    refine ww_iinc C.1 (v := (x3 + (1 : Int32))) dX10_sleptBy_92 3 rfl (by rfl) (by decide) [1, 2, 3, 0, 4] (L' := [(0, .ref 57), (1, .int x1), (2, .int (x2 ||| (0 : Int32))), (3, .int (x3 + (1 : Int32))), (4, .int (0 : Int32))]) rfl ?_
    refine ww_goto C.1 (tgt := 4) dX10_sleptBy_95 (by decide) ?_
    refine ww_loc [0, 1, 2, 3] (L' := [(0, .ref 57), (1, .int x1), (2, .int (x2 ||| (0 : Int32))), (3, .int (x3 + (1 : Int32)))]) rfl ?_
    exact h
  · replace h := h.2 hh
    refine ww_iconst C.1 (v := (1 : Int32)) dX10_sleptBy_70 (by decide) ?_
    refine ww_goto C.1 (tgt := 75) dX10_sleptBy_71 (by decide) ?_
    refine ww_istore C.1 dX10_sleptBy_75 (by decide) [1, 2, 3, 4, 0] (L' := [(0, .ref 57), (1, .int x1), (2, .int x2), (3, .int x3), (4, .int (1 : Int32))]) rfl ?_
    refine ww_iload_n C.1 dX10_sleptBy_77 2 rfl rfl ?_
    refine ww_iload C.1 dX10_sleptBy_78 4 rfl ?_
    refine ww_if_eq (x := (1 : Int32)) C.1 (tgt := 89) dX10_sleptBy_80 (by decide) (fun hh => absurd hh (by decide)) (fun _ => ?_)
    refine ww_iconst C.1 (v := (1 : Int32)) dX10_sleptBy_83 (by decide) ?_
    refine ww_iload_n C.1 dX10_sleptBy_84 3 rfl rfl ?_
    refine ww_ishl C.1 dX10_sleptBy_85 ?_
    refine ww_goto C.1 (tgt := 90) dX10_sleptBy_86 (by decide) ?_
    refine ww_ior C.1 dX10_sleptBy_90 ?_
    refine ww_istore_n C.1 dX10_sleptBy_91 rfl (by decide) [1, 2, 0, 3, 4] (L' := [(0, .ref 57), (1, .int x1), (2, .int (x2 ||| ((1 : Int32) <<< (x3 &&& 31)))), (3, .int x3), (4, .int (1 : Int32))]) rfl ?_
    refine ww_iinc C.1 (v := (x3 + (1 : Int32))) dX10_sleptBy_92 3 rfl (by rfl) (by decide) [1, 2, 3, 0, 4] (L' := [(0, .ref 57), (1, .int x1), (2, .int (x2 ||| ((1 : Int32) <<< (x3 &&& 31)))), (3, .int (x3 + (1 : Int32))), (4, .int (1 : Int32))]) rfl ?_
    refine ww_goto C.1 (tgt := 4) dX10_sleptBy_95 (by decide) ?_
    refine ww_loc [0, 1, 2, 3] (L' := [(0, .ref 57), (1, .int x1), (2, .int (x2 ||| ((1 : Int32) <<< (x3 &&& 31)))), (3, .int (x3 + (1 : Int32)))]) rfl ?_
    exact h
set_option maxHeartbeats 4000000 in
set_option maxRecDepth 20000 in
theorem bX10_slept_0 {X : CX} {Q : State → Prop} {M : Mem} {x1 : Int32} (C : Ok0 X mX10_slept (TTc ++ TTm))
    (h : ((x1 < (0 : Int32) → RetOK X Q (some (.int (-1 : Int32))) (M, (gj gm), TTc ++ TTm)) ∧ (¬ x1 < (0 : Int32) → ((((M 57 39) - (1 : Int32)) < x1 → RetOK X Q (some (.int (-1 : Int32))) (M, (gj gm), TTc ++ TTm)) ∧ (¬ ((M 57 39) - (1 : Int32)) < x1 → WpI mX10_sleptBy [.ref 57, .int x1] M (gj gm) (TTc ++ TTm) (fun r M' => WW X Q 21 [(0, .ref 57), (1, .int x1)] [.int r] (M', (gj gm), TTc ++ TTm))))))) :
    WW X Q 0 [(0, .ref 57), (1, .int x1)] [] (M, (gj gm), TTc ++ TTm) := by
  refine ww_iload_n C.1 dX10_slept_0 1 rfl rfl ?_
  refine ww_i2l C.1 dX10_slept_1 rfl ?_
  refine ww_lconst C.1 (v := 0) dX10_slept_2 (by decide) ?_
  refine ww_aload_n C.1 dX10_slept_3 0 rfl rfl ?_
  refine wt_getI C.1 dX10_slept_4 flRX10_173 tm57 rfl ?_
  refine ww_iconst C.1 (v := (1 : Int32)) dX10_slept_7 (by decide) ?_
  refine ww_isub C.1 dX10_slept_8 ?_
  refine ww_i2l C.1 dX10_slept_9 rfl ?_
  refine ww_sI C fX10_in (And.intro (by decide) (by decide)) mlRX10_101 dX10_slept_10 (As := [.long x1.toInt64, .long (0 : Int64), .long ((M 57 39) - (1 : Int32)).toInt64]) (rest := []) rfl rfl rfl (Nat.le_of_ble_eq_true rfl) (WpI.of (L0 := [(0, .long x1.toInt64), (2, .long (0 : Int64)), (4, .long ((M 57 39) - (1 : Int32)).toInt64)]) rfl rfl (Nat.le_of_ble_eq_true rfl) fun X1 Q1 C1 k1 => ?_)
  refine ww_lload_n C1.1 dX10_in_0 0 rfl rfl ?_
  refine ww_lload_n C1.1 dX10_in_1 1 rfl rfl ?_
  refine ww_lcmp C1.1 dX10_in_2 ?_
  refine ww_if_lt (x := (lg_cmp x1.toInt64 (0 : Int64))) C1.1 (tgt := 17) dX10_in_3 (by decide) (fun hh => ?_) (fun hh => ?_)
  · replace h := h.1 ((in_lt (a := x1) (b := (0 : Int32)) (by first | rfl | decide) (by first | rfl | decide)).mp hh)
    refine ww_iconst C1.1 (v := (0 : Int32)) dX10_in_17 (by decide) ?_
    refine ww_zret C1.1 dX10_in_18 rfl (Or.inl rfl) ?_
    refine k1 _ _ ?_
    refine ww_if_eq (x := (0 : Int32)) C.1 (tgt := 24) dX10_slept_13 (by decide) (fun _ => ?_) (fun hh => absurd hh (by decide))
    refine ww_iconst C.1 (v := (-1 : Int32)) dX10_slept_24 (by decide) ?_
    refine ww_iret C.1 dX10_slept_25 rfl ?_
    exact h
  · replace h := h.2 (fun z => hh ((in_lt (a := x1) (b := (0 : Int32)) (by first | rfl | decide) (by first | rfl | decide)).mpr z))
    refine ww_lload_n C1.1 dX10_in_6 0 rfl rfl ?_
    refine ww_lload C1.1 dX10_in_7 2 rfl ?_
    refine ww_lcmp C1.1 dX10_in_9 ?_
    refine ww_if_gt (x := (lg_cmp x1.toInt64 ((M 57 39) - (1 : Int32)).toInt64)) C1.1 (tgt := 17) dX10_in_10 (by decide) (fun hh => ?_) (fun hh => ?_)
    · replace h := h.1 ((in_gt (a := x1) (b := ((M 57 39) - (1 : Int32))) (by first | rfl | decide) (by first | rfl | decide)).mp hh)
      refine ww_iconst C1.1 (v := (0 : Int32)) dX10_in_17 (by decide) ?_
      refine ww_zret C1.1 dX10_in_18 rfl (Or.inl rfl) ?_
      refine k1 _ _ ?_
      refine ww_if_eq (x := (0 : Int32)) C.1 (tgt := 24) dX10_slept_13 (by decide) (fun _ => ?_) (fun hh => absurd hh (by decide))
      refine ww_iconst C.1 (v := (-1 : Int32)) dX10_slept_24 (by decide) ?_
      refine ww_iret C.1 dX10_slept_25 rfl ?_
      exact h
    · replace h := h.2 (fun z => hh ((in_gt (a := x1) (b := ((M 57 39) - (1 : Int32))) (by first | rfl | decide) (by first | rfl | decide)).mpr z))
      refine ww_iconst C1.1 (v := (1 : Int32)) dX10_in_13 (by decide) ?_
      refine ww_goto C1.1 (tgt := 18) dX10_in_14 (by decide) ?_
      refine ww_zret C1.1 dX10_in_18 rfl (Or.inr rfl) ?_
      refine k1 _ _ ?_
      refine ww_if_eq (x := (1 : Int32)) C.1 (tgt := 24) dX10_slept_13 (by decide) (fun hh => absurd hh (by decide)) (fun _ => ?_)
      refine ww_aload_n C.1 dX10_slept_16 0 rfl rfl ?_
      refine ww_iload_n C.1 dX10_slept_17 1 rfl rfl ?_
      refine ww_vI C fX10_sleptBy (And.intro (by decide) (by decide)) mlRX10_256 dX10_slept_18 tm57 (by decide) rfl (As := [.int x1]) (rest := []) rfl rfl rfl (Nat.le_of_ble_eq_true rfl) ?_
      exact h
set_option maxHeartbeats 4000000 in
set_option maxRecDepth 20000 in
theorem bX10_slept_21 {X : CX} {Q : State → Prop} {M : Mem} {x1 s0 : Int32} (C : Ok0 X mX10_slept (TTc ++ TTm))
    (h : RetOK X Q (some (.int s0)) (M, (gj gm), TTc ++ TTm)) :
    WW X Q 21 [(0, .ref 57), (1, .int x1)] [.int s0] (M, (gj gm), TTc ++ TTm) := by
  refine ww_goto C.1 (tgt := 25) dX10_slept_21 (by decide) ?_
  refine ww_iret C.1 dX10_slept_25 rfl ?_
  exact h
set_option maxHeartbeats 4000000 in
set_option maxRecDepth 20000 in
theorem bX10_waysWith_0 {X : CX} {Q : State → Prop} {M : Mem} {x1 x2 : Int32} (C : Ok0 X mX10_waysWith (TTc ++ TTm))
    (h : WW X Q 2 [(0, .ref 57), (1, .int x1), (2, .int x2), (3, .int (0 : Int32))] [] (M, (gj gm), TTc ++ TTm)) :
    WW X Q 0 [(0, .ref 57), (1, .int x1), (2, .int x2)] [] (M, (gj gm), TTc ++ TTm) := by
  refine ww_iconst C.1 (v := (0 : Int32)) dX10_waysWith_0 (by decide) ?_
  refine ww_istore_n C.1 dX10_waysWith_1 rfl (by decide) [1, 2, 3, 0] (L' := [(0, .ref 57), (1, .int x1), (2, .int x2), (3, .int (0 : Int32))]) rfl ?_
  exact h
set_option maxHeartbeats 4000000 in
set_option maxRecDepth 20000 in
theorem bX10_waysWith_2 {X : CX} {Q : State → Prop} {M : Mem} {x1 x2 x3 : Int32} (C : Ok0 X mX10_waysWith (TTc ++ TTm))
    (h : (((128 : Int32) ≤ x3 → WW X Q 32 [(0, .ref 57), (1, .int x1), (2, .int x2), (3, .int (0 : Int32))] [] (M, (gj gm), TTc ++ TTm)) ∧ (¬ (128 : Int32) ≤ x3 → ((¬ x3 = (0 : Int32) → (vp_in x3 128 ∧ WW X Q 2 [(0, .ref 57), (1, .int x1), (2, .int x2), (3, .int (x3 + (1 : Int32)))] [] ((wr M 81 x3.toNatClampNeg (0 : Int32)), (gj gm), TTc ++ TTm))) ∧ (x3 = (0 : Int32) → (vp_in x3 128 ∧ WW X Q 2 [(0, .ref 57), (1, .int x1), (2, .int x2), (3, .int (x3 + (1 : Int32)))] [] ((wr M 81 x3.toNatClampNeg (1 : Int32)), (gj gm), TTc ++ TTm))))))) :
    WW X Q 2 [(0, .ref 57), (1, .int x1), (2, .int x2), (3, .int x3)] [] (M, (gj gm), TTc ++ TTm) := by
  refine ww_iload_n C.1 dX10_waysWith_2 3 rfl rfl ?_
  refine ww_sipush C.1 (v := (128 : Int32)) dX10_waysWith_3 (by decide) ?_
  refine ww_icmp_ge (x := x3) (y := (128 : Int32)) C.1 (tgt := 30) dX10_waysWith_6 (by decide) (fun hh => ?_) (fun hh => ?_)
  · replace h := h.1 hh
    refine ww_iconst C.1 (v := (0 : Int32)) dX10_waysWith_30 (by decide) ?_
    refine ww_istore_n C.1 dX10_waysWith_31 rfl (by decide) [1, 2, 3, 0] (L' := [(0, .ref 57), (1, .int x1), (2, .int x2), (3, .int (0 : Int32))]) rfl ?_
    exact h
  · replace h := h.2 hh
    refine ww_aload_n C.1 dX10_waysWith_9 0 rfl rfl ?_
    refine wt_getR C.1 dX10_waysWith_10 flRX10_92 tm57 rfl gm57_40 ?_
    refine ww_iload_n C.1 dX10_waysWith_13 3 rfl rfl ?_
    refine ww_iload_n C.1 dX10_waysWith_14 3 rfl rfl ?_
    refine ww_if_ne (x := x3) C.1 (tgt := 22) dX10_waysWith_15 (by decide) (fun hh => ?_) (fun hh => ?_)
    · replace h := h.1 hh
      refine ww_iconst C.1 (v := (0 : Int32)) dX10_waysWith_22 (by decide) ?_
      refine wt_iast C.1 dX10_waysWith_23 tm81 h.1 ?_
      replace h := h.2
      refine ww_iinc C.1 (v := (x3 + (1 : Int32))) dX10_waysWith_24 3 rfl (by rfl) (by decide) [1, 2, 3, 0] (L' := [(0, .ref 57), (1, .int x1), (2, .int x2), (3, .int (x3 + (1 : Int32)))]) rfl ?_
      refine ww_goto C.1 (tgt := 2) dX10_waysWith_27 (by decide) ?_
      exact h
    · replace h := h.2 hh
      refine ww_iconst C.1 (v := (1 : Int32)) dX10_waysWith_18 (by decide) ?_
      refine ww_goto C.1 (tgt := 23) dX10_waysWith_19 (by decide) ?_
      refine wt_iast C.1 dX10_waysWith_23 tm81 h.1 ?_
      replace h := h.2
      refine ww_iinc C.1 (v := (x3 + (1 : Int32))) dX10_waysWith_24 3 rfl (by rfl) (by decide) [1, 2, 3, 0] (L' := [(0, .ref 57), (1, .int x1), (2, .int x2), (3, .int (x3 + (1 : Int32)))]) rfl ?_
      refine ww_goto C.1 (tgt := 2) dX10_waysWith_27 (by decide) ?_
      exact h
set_option maxHeartbeats 4000000 in
set_option maxRecDepth 20000 in
theorem bX10_waysWith_32 {X : CX} {Q : State → Prop} {M : Mem} {x1 x2 x3 : Int32} (C : Ok0 X mX10_waysWith (TTc ++ TTm))
    (h : (((M 57 39) ≤ x3 → WW X Q 213 [(0, .ref 57), (1, .int x1), (2, .int x2), (3, .int (0 : Int32)), (4, .int (0 : Int32))] [] (M, (gj gm), TTc ++ TTm)) ∧ (¬ (M 57 39) ≤ x3 → WpI mX10_sleptBy [.ref 57, .int x3] M (gj gm) (TTc ++ TTm) (fun r M' => WW X Q 45 [(0, .ref 57), (1, .int x1), (2, .int x2), (3, .int x3)] [.int r] (M', (gj gm), TTc ++ TTm))))) :
    WW X Q 32 [(0, .ref 57), (1, .int x1), (2, .int x2), (3, .int x3)] [] (M, (gj gm), TTc ++ TTm) := by
  refine ww_iload_n C.1 dX10_waysWith_32 3 rfl rfl ?_
  refine ww_aload_n C.1 dX10_waysWith_33 0 rfl rfl ?_
  refine wt_getI C.1 dX10_waysWith_34 flRX10_173 tm57 rfl ?_
  refine ww_icmp_ge (x := x3) (y := (M 57 39)) C.1 (tgt := 208) dX10_waysWith_37 (by decide) (fun hh => ?_) (fun hh => ?_)
  · replace h := h.1 hh
    refine ww_iconst C.1 (v := (0 : Int32)) dX10_waysWith_208 (by decide) ?_
    refine ww_istore_n C.1 dX10_waysWith_209 rfl (by decide) [1, 2, 3, 0] (L' := [(0, .ref 57), (1, .int x1), (2, .int x2), (3, .int (0 : Int32))]) rfl ?_
    refine ww_iconst C.1 (v := (0 : Int32)) dX10_waysWith_210 (by decide) ?_
    refine ww_istore C.1 dX10_waysWith_211 (by decide) [1, 2, 3, 4, 0] (L' := [(0, .ref 57), (1, .int x1), (2, .int x2), (3, .int (0 : Int32)), (4, .int (0 : Int32))]) rfl ?_
    exact h
  · replace h := h.2 hh
    refine ww_aload_n C.1 dX10_waysWith_40 0 rfl rfl ?_
    refine ww_iload_n C.1 dX10_waysWith_41 3 rfl rfl ?_
    refine ww_vI C fX10_sleptBy (And.intro (by decide) (by decide)) mlRX10_256 dX10_waysWith_42 tm57 (by decide) rfl (As := [.int x3]) (rest := []) rfl rfl rfl (Nat.le_of_ble_eq_true rfl) ?_
    exact h
set_option maxHeartbeats 4000000 in
set_option maxRecDepth 20000 in
theorem bX10_waysWith_72 {X : CX} {Q : State → Prop} {M : Mem} {x1 x2 x3 x4 x5 : Int32} (C : Ok0 X mX10_waysWith (TTc ++ TTm))
    (h : (((128 : Int32) ≤ x5 → WW X Q 97 [(0, .ref 57), (1, .int x1), (2, .int x2), (3, .int x3), (4, .int x4), (5, .int (0 : Int32))] [] (M, (gj gm), TTc ++ TTm)) ∧ (¬ (128 : Int32) ≤ x5 → (vp_in x5 128 ∧ WW X Q 72 [(0, .ref 57), (1, .int x1), (2, .int x2), (3, .int x3), (4, .int x4), (5, .int (x5 + (1 : Int32)))] [] ((wr M 82 x5.toNatClampNeg (0 : Int32)), (gj gm), TTc ++ TTm))))) :
    WW X Q 72 [(0, .ref 57), (1, .int x1), (2, .int x2), (3, .int x3), (4, .int x4), (5, .int x5)] [] (M, (gj gm), TTc ++ TTm) := by
  refine ww_iload C.1 dX10_waysWith_72 5 rfl ?_
  refine ww_sipush C.1 (v := (128 : Int32)) dX10_waysWith_74 (by decide) ?_
  refine ww_icmp_ge (x := x5) (y := (128 : Int32)) C.1 (tgt := 94) dX10_waysWith_77 (by decide) (fun hh => ?_) (fun hh => ?_)
  · replace h := h.1 hh
    refine ww_iconst C.1 (v := (0 : Int32)) dX10_waysWith_94 (by decide) ?_
    refine ww_istore C.1 dX10_waysWith_95 (by decide) [1, 2, 3, 4, 5, 0] (L' := [(0, .ref 57), (1, .int x1), (2, .int x2), (3, .int x3), (4, .int x4), (5, .int (0 : Int32))]) rfl ?_
    exact h
  · replace h := h.2 hh
    refine ww_aload_n C.1 dX10_waysWith_80 0 rfl rfl ?_
    refine wt_getR C.1 dX10_waysWith_81 flRX10_95 tm57 rfl gm57_41 ?_
    refine ww_iload C.1 dX10_waysWith_84 5 rfl ?_
    refine ww_iconst C.1 (v := (0 : Int32)) dX10_waysWith_86 (by decide) ?_
    refine wt_iast C.1 dX10_waysWith_87 tm82 h.1 ?_
    replace h := h.2
    refine ww_iinc C.1 (v := (x5 + (1 : Int32))) dX10_waysWith_88 5 rfl (by rfl) (by decide) [1, 2, 3, 4, 5, 0] (L' := [(0, .ref 57), (1, .int x1), (2, .int x2), (3, .int x3), (4, .int x4), (5, .int (x5 + (1 : Int32)))]) rfl ?_
    refine ww_goto C.1 (tgt := 72) dX10_waysWith_91 (by decide) ?_
    exact h
set_option maxHeartbeats 4000000 in
set_option maxRecDepth 20000 in
theorem bX10_waysWith_97 {X : CX} {Q : State → Prop} {M : Mem} {x1 x2 x3 x4 x5 : Int32} (C : Ok0 X mX10_waysWith (TTc ++ TTm))
    (h : (((128 : Int32) ≤ x5 → WW X Q 174 [(0, .ref 57), (1, .int x1), (2, .int x2), (3, .int x3), (4, .int x4), (5, .int (0 : Int32))] [] (M, (gj gm), TTc ++ TTm)) ∧ (¬ (128 : Int32) ≤ x5 → WW X Q 108 [(0, .ref 57), (1, .int x1), (2, .int x2), (3, .int x3), (4, .int x4), (5, .int x5), (6, .int (0 : Int32))] [] (M, (gj gm), TTc ++ TTm)))) :
    WW X Q 97 [(0, .ref 57), (1, .int x1), (2, .int x2), (3, .int x3), (4, .int x4), (5, .int x5)] [] (M, (gj gm), TTc ++ TTm) := by
  refine ww_iload C.1 dX10_waysWith_97 5 rfl ?_
  refine ww_sipush C.1 (v := (128 : Int32)) dX10_waysWith_99 (by decide) ?_
  refine ww_icmp_ge (x := x5) (y := (128 : Int32)) C.1 (tgt := 171) dX10_waysWith_102 (by decide) (fun hh => ?_) (fun hh => ?_)
  · replace h := h.1 hh
    refine ww_iconst C.1 (v := (0 : Int32)) dX10_waysWith_171 (by decide) ?_
    refine ww_istore C.1 dX10_waysWith_172 (by decide) [1, 2, 3, 4, 5, 0] (L' := [(0, .ref 57), (1, .int x1), (2, .int x2), (3, .int x3), (4, .int x4), (5, .int (0 : Int32))]) rfl ?_
    exact h
  · replace h := h.2 hh
    refine ww_iconst C.1 (v := (0 : Int32)) dX10_waysWith_105 (by decide) ?_
    refine ww_istore C.1 dX10_waysWith_106 (by decide) [1, 2, 3, 4, 5, 6, 0] (L' := [(0, .ref 57), (1, .int x1), (2, .int x2), (3, .int x3), (4, .int x4), (5, .int x5), (6, .int (0 : Int32))]) rfl ?_
    exact h
set_option maxHeartbeats 4000000 in
set_option maxRecDepth 20000 in
theorem bX10_waysWith_108 {X : CX} {Q : State → Prop} {M : Mem} {x1 x2 x3 x4 x5 x6 : Int32} (C : Ok0 X mX10_waysWith (TTc ++ TTm))
    (h : (((M 57 7) ≤ x6 → WW X Q 97 [(0, .ref 57), (1, .int x1), (2, .int x2), (3, .int x3), (4, .int x4), (5, .int (x5 + (1 : Int32)))] [] (M, (gj gm), TTc ++ TTm)) ∧ (¬ (M 57 7) ≤ x6 → ((¬ ((x4 >>> (x6 &&& 31)) &&& (1 : Int32)) = (1 : Int32) → WW X Q 108 [(0, .ref 57), (1, .int x1), (2, .int x2), (3, .int x3), (4, .int x4), (5, .int x5), (6, .int (x6 + (1 : Int32)))] [] (M, (gj gm), TTc ++ TTm)) ∧ (((x4 >>> (x6 &&& 31)) &&& (1 : Int32)) = (1 : Int32) → ((¬ ((x5 >>> (x6 &&& 31)) &&& (1 : Int32)) = (1 : Int32) → (vp_in (x5 ||| ((1 : Int32) <<< (x6 &&& 31))) 128 ∧ (vp_in x5 128 ∧ (vp_in (x5 ||| ((1 : Int32) <<< (x6 &&& 31))) 128 ∧ WW X Q 108 [(0, .ref 57), (1, .int x1), (2, .int x2), (3, .int x3), (4, .int x4), (5, .int x5), (6, .int (x6 + (1 : Int32)))] [] ((wr M 82 (x5 ||| ((1 : Int32) <<< (x6 &&& 31))).toNatClampNeg ((M 82 (x5 ||| ((1 : Int32) <<< (x6 &&& 31))).toNatClampNeg) + (M 81 x5.toNatClampNeg))), (gj gm), TTc ++ TTm))))) ∧ (((x5 >>> (x6 &&& 31)) &&& (1 : Int32)) = (1 : Int32) → WW X Q 108 [(0, .ref 57), (1, .int x1), (2, .int x2), (3, .int x3), (4, .int x4), (5, .int x5), (6, .int (x6 + (1 : Int32)))] [] (M, (gj gm), TTc ++ TTm)))))))) :
    WW X Q 108 [(0, .ref 57), (1, .int x1), (2, .int x2), (3, .int x3), (4, .int x4), (5, .int x5), (6, .int x6)] [] (M, (gj gm), TTc ++ TTm) := by
  refine ww_iload C.1 dX10_waysWith_108 6 rfl ?_
  refine ww_aload_n C.1 dX10_waysWith_110 0 rfl rfl ?_
  refine wt_getI C.1 dX10_waysWith_111 flRX10_29 tm57 rfl ?_
  refine ww_icmp_ge (x := x6) (y := (M 57 7)) C.1 (tgt := 165) dX10_waysWith_114 (by decide) (fun hh => ?_) (fun hh => ?_)
  · replace h := h.1 hh
    refine ww_iinc C.1 (v := (x5 + (1 : Int32))) dX10_waysWith_165 5 rfl (by rfl) (by decide) [1, 2, 3, 4, 5, 0, 6] (L' := [(0, .ref 57), (1, .int x1), (2, .int x2), (3, .int x3), (4, .int x4), (5, .int (x5 + (1 : Int32))), (6, .int x6)]) rfl ?_
    refine ww_goto C.1 (tgt := 97) dX10_waysWith_168 (by decide) ?_
    refine ww_loc [0, 1, 2, 3, 4, 5] (L' := [(0, .ref 57), (1, .int x1), (2, .int x2), (3, .int x3), (4, .int x4), (5, .int (x5 + (1 : Int32)))]) rfl ?_
    exact h
  · replace h := h.2 hh
    refine ww_iload C.1 dX10_waysWith_117 4 rfl ?_
    refine ww_iload C.1 dX10_waysWith_119 6 rfl ?_
    refine ww_sI C fX10_has (And.intro (by decide) (by decide)) mlRX10_224 dX10_waysWith_121 (As := [.int x4, .int x6]) (rest := []) rfl rfl rfl (Nat.le_of_ble_eq_true rfl) (WpI.of (L0 := [(0, .int x4), (1, .int x6)]) rfl rfl (Nat.le_of_ble_eq_true rfl) fun X1 Q1 C1 k1 => ?_)
    refine ww_iload_n C1.1 dX10_has_0 0 rfl rfl ?_
    refine ww_iload_n C1.1 dX10_has_1 1 rfl rfl ?_
    refine ww_ishr C1.1 dX10_has_2 ?_
    refine ww_iconst C1.1 (v := (1 : Int32)) dX10_has_3 (by decide) ?_
    refine ww_iand C1.1 dX10_has_4 ?_
    refine ww_iconst C1.1 (v := (1 : Int32)) dX10_has_5 (by decide) ?_
    refine ww_icmp_ne (x := ((x4 >>> (x6 &&& 31)) &&& (1 : Int32))) (y := (1 : Int32)) C1.1 (tgt := 13) dX10_has_6 (by decide) (fun hh => ?_) (fun hh => ?_)
    · replace h := h.1 hh
      refine ww_iconst C1.1 (v := (0 : Int32)) dX10_has_13 (by decide) ?_
      refine ww_zret C1.1 dX10_has_14 rfl (Or.inl rfl) ?_
      refine k1 _ _ ?_
      refine ww_if_eq (x := (0 : Int32)) C.1 (tgt := 159) dX10_waysWith_124 (by decide) (fun _ => ?_) (fun hh => absurd hh (by decide))
      refine ww_iinc C.1 (v := (x6 + (1 : Int32))) dX10_waysWith_159 6 rfl (by rfl) (by decide) [1, 2, 3, 4, 5, 6, 0] (L' := [(0, .ref 57), (1, .int x1), (2, .int x2), (3, .int x3), (4, .int x4), (5, .int x5), (6, .int (x6 + (1 : Int32)))]) rfl ?_
      refine ww_goto C.1 (tgt := 108) dX10_waysWith_162 (by decide) ?_
      exact h
    · replace h := h.2 hh
      refine ww_iconst C1.1 (v := (1 : Int32)) dX10_has_9 (by decide) ?_
      refine ww_goto C1.1 (tgt := 14) dX10_has_10 (by decide) ?_
      refine ww_zret C1.1 dX10_has_14 rfl (Or.inr rfl) ?_
      refine k1 _ _ ?_
      refine ww_if_eq (x := (1 : Int32)) C.1 (tgt := 159) dX10_waysWith_124 (by decide) (fun hh => absurd hh (by decide)) (fun _ => ?_)
      refine ww_iload C.1 dX10_waysWith_127 5 rfl ?_
      refine ww_iload C.1 dX10_waysWith_129 6 rfl ?_
      refine ww_sI C fX10_has (And.intro (by decide) (by decide)) mlRX10_224 dX10_waysWith_131 (As := [.int x5, .int x6]) (rest := []) rfl rfl rfl (Nat.le_of_ble_eq_true rfl) (WpI.of (L0 := [(0, .int x5), (1, .int x6)]) rfl rfl (Nat.le_of_ble_eq_true rfl) fun X2 Q2 C2 k2 => ?_)
      refine ww_iload_n C2.1 dX10_has_0 0 rfl rfl ?_
      refine ww_iload_n C2.1 dX10_has_1 1 rfl rfl ?_
      refine ww_ishr C2.1 dX10_has_2 ?_
      refine ww_iconst C2.1 (v := (1 : Int32)) dX10_has_3 (by decide) ?_
      refine ww_iand C2.1 dX10_has_4 ?_
      refine ww_iconst C2.1 (v := (1 : Int32)) dX10_has_5 (by decide) ?_
      refine ww_icmp_ne (x := ((x5 >>> (x6 &&& 31)) &&& (1 : Int32))) (y := (1 : Int32)) C2.1 (tgt := 13) dX10_has_6 (by decide) (fun hh => ?_) (fun hh => ?_)
      · replace h := h.1 hh
        refine ww_iconst C2.1 (v := (0 : Int32)) dX10_has_13 (by decide) ?_
        refine ww_zret C2.1 dX10_has_14 rfl (Or.inl rfl) ?_
        refine k2 _ _ ?_
        refine ww_if_ne (x := (0 : Int32)) C.1 (tgt := 159) dX10_waysWith_134 (by decide) (fun hh => absurd hh (by decide)) (fun _ => ?_)
        refine ww_aload_n C.1 dX10_waysWith_137 0 rfl rfl ?_
        refine wt_getR C.1 dX10_waysWith_138 flRX10_95 tm57 rfl gm57_41 ?_
        refine ww_iload C.1 dX10_waysWith_141 5 rfl ?_
        refine ww_iconst C.1 (v := (1 : Int32)) dX10_waysWith_143 (by decide) ?_
        refine ww_iload C.1 dX10_waysWith_144 6 rfl ?_
        refine ww_ishl C.1 dX10_waysWith_146 ?_
        refine ww_ior C.1 dX10_waysWith_147 ?_
        refine ww_dup2 C.1 dX10_waysWith_148 rfl rfl ?_
        refine wt_iald C.1 dX10_waysWith_149 tm82 h.1 ?_
        replace h := h.2
        refine ww_aload_n C.1 dX10_waysWith_150 0 rfl rfl ?_
        refine wt_getR C.1 dX10_waysWith_151 flRX10_92 tm57 rfl gm57_40 ?_
        refine ww_iload C.1 dX10_waysWith_154 5 rfl ?_
        refine wt_iald C.1 dX10_waysWith_156 tm81 h.1 ?_
        replace h := h.2
        refine ww_iadd C.1 dX10_waysWith_157 ?_
        refine wt_iast C.1 dX10_waysWith_158 tm82 h.1 ?_
        replace h := h.2
        refine ww_iinc C.1 (v := (x6 + (1 : Int32))) dX10_waysWith_159 6 rfl (by rfl) (by decide) [1, 2, 3, 4, 5, 6, 0] (L' := [(0, .ref 57), (1, .int x1), (2, .int x2), (3, .int x3), (4, .int x4), (5, .int x5), (6, .int (x6 + (1 : Int32)))]) rfl ?_
        refine ww_goto C.1 (tgt := 108) dX10_waysWith_162 (by decide) ?_
        exact h
      · replace h := h.2 hh
        refine ww_iconst C2.1 (v := (1 : Int32)) dX10_has_9 (by decide) ?_
        refine ww_goto C2.1 (tgt := 14) dX10_has_10 (by decide) ?_
        refine ww_zret C2.1 dX10_has_14 rfl (Or.inr rfl) ?_
        refine k2 _ _ ?_
        refine ww_if_ne (x := (1 : Int32)) C.1 (tgt := 159) dX10_waysWith_134 (by decide) (fun _ => ?_) (fun hh => absurd hh (by decide))
        refine ww_iinc C.1 (v := (x6 + (1 : Int32))) dX10_waysWith_159 6 rfl (by rfl) (by decide) [1, 2, 3, 4, 5, 6, 0] (L' := [(0, .ref 57), (1, .int x1), (2, .int x2), (3, .int x3), (4, .int x4), (5, .int x5), (6, .int (x6 + (1 : Int32)))]) rfl ?_
        refine ww_goto C.1 (tgt := 108) dX10_waysWith_162 (by decide) ?_
        exact h
set_option maxHeartbeats 4000000 in
set_option maxRecDepth 20000 in
theorem bX10_waysWith_174 {X : CX} {Q : State → Prop} {M : Mem} {x1 x2 x3 x4 x5 : Int32} (C : Ok0 X mX10_waysWith (TTc ++ TTm))
    (h : (((128 : Int32) ≤ x5 → WW X Q 32 [(0, .ref 57), (1, .int x1), (2, .int x2), (3, .int (x3 + (1 : Int32)))] [] (M, (gj gm), TTc ++ TTm)) ∧ (¬ (128 : Int32) ≤ x5 → (vp_in x5 128 ∧ (vp_in x5 128 ∧ WW X Q 174 [(0, .ref 57), (1, .int x1), (2, .int x2), (3, .int x3), (4, .int x4), (5, .int (x5 + (1 : Int32)))] [] ((wr M 81 x5.toNatClampNeg (M 82 x5.toNatClampNeg)), (gj gm), TTc ++ TTm)))))) :
    WW X Q 174 [(0, .ref 57), (1, .int x1), (2, .int x2), (3, .int x3), (4, .int x4), (5, .int x5)] [] (M, (gj gm), TTc ++ TTm) := by
  refine ww_iload C.1 dX10_waysWith_174 5 rfl ?_
  refine ww_sipush C.1 (v := (128 : Int32)) dX10_waysWith_176 (by decide) ?_
  refine ww_icmp_ge (x := x5) (y := (128 : Int32)) C.1 (tgt := 202) dX10_waysWith_179 (by decide) (fun hh => ?_) (fun hh => ?_)
  · replace h := h.1 hh
    refine ww_iinc C.1 (v := (x3 + (1 : Int32))) dX10_waysWith_202 3 rfl (by rfl) (by decide) [1, 2, 3, 0, 4, 5] (L' := [(0, .ref 57), (1, .int x1), (2, .int x2), (3, .int (x3 + (1 : Int32))), (4, .int x4), (5, .int x5)]) rfl ?_
    refine ww_goto C.1 (tgt := 32) dX10_waysWith_205 (by decide) ?_
    refine ww_loc [0, 1, 2, 3] (L' := [(0, .ref 57), (1, .int x1), (2, .int x2), (3, .int (x3 + (1 : Int32)))]) rfl ?_
    exact h
  · replace h := h.2 hh
    refine ww_aload_n C.1 dX10_waysWith_182 0 rfl rfl ?_
    refine wt_getR C.1 dX10_waysWith_183 flRX10_92 tm57 rfl gm57_40 ?_
    refine ww_iload C.1 dX10_waysWith_186 5 rfl ?_
    refine ww_aload_n C.1 dX10_waysWith_188 0 rfl rfl ?_
    refine wt_getR C.1 dX10_waysWith_189 flRX10_95 tm57 rfl gm57_41 ?_
    refine ww_iload C.1 dX10_waysWith_192 5 rfl ?_
    refine wt_iald C.1 dX10_waysWith_194 tm82 h.1 ?_
    replace h := h.2
    refine wt_iast C.1 dX10_waysWith_195 tm81 h.1 ?_
    replace h := h.2
    refine ww_iinc C.1 (v := (x5 + (1 : Int32))) dX10_waysWith_196 5 rfl (by rfl) (by decide) [1, 2, 3, 4, 5, 0] (L' := [(0, .ref 57), (1, .int x1), (2, .int x2), (3, .int x3), (4, .int x4), (5, .int (x5 + (1 : Int32)))]) rfl ?_
    refine ww_goto C.1 (tgt := 174) dX10_waysWith_199 (by decide) ?_
    exact h
set_option maxHeartbeats 4000000 in
set_option maxRecDepth 20000 in
theorem bX10_waysWith_213 {X : CX} {Q : State → Prop} {M : Mem} {x1 x2 x3 x4 : Int32} (C : Ok0 X mX10_waysWith (TTc ++ TTm))
    (h : (((128 : Int32) ≤ x4 → RetOK X Q (some (.int x3)) (M, (gj gm), TTc ++ TTm)) ∧ (¬ (128 : Int32) ≤ x4 → (vp_in x4 128 ∧ WW X Q 213 [(0, .ref 57), (1, .int x1), (2, .int x2), (3, .int (x3 + (M 81 x4.toNatClampNeg))), (4, .int (x4 + (1 : Int32)))] [] (M, (gj gm), TTc ++ TTm))))) :
    WW X Q 213 [(0, .ref 57), (1, .int x1), (2, .int x2), (3, .int x3), (4, .int x4)] [] (M, (gj gm), TTc ++ TTm) := by
  refine ww_iload C.1 dX10_waysWith_213 4 rfl ?_
  refine ww_sipush C.1 (v := (128 : Int32)) dX10_waysWith_215 (by decide) ?_
  refine ww_icmp_ge (x := x4) (y := (128 : Int32)) C.1 (tgt := 237) dX10_waysWith_218 (by decide) (fun hh => ?_) (fun hh => ?_)
  · replace h := h.1 hh
    refine ww_iload_n C.1 dX10_waysWith_237 3 rfl rfl ?_
    refine ww_iret C.1 dX10_waysWith_238 rfl ?_
    exact h
  · replace h := h.2 hh
    refine ww_iload_n C.1 dX10_waysWith_221 3 rfl rfl ?_
    refine ww_aload_n C.1 dX10_waysWith_222 0 rfl rfl ?_
    refine wt_getR C.1 dX10_waysWith_223 flRX10_92 tm57 rfl gm57_40 ?_
    refine ww_iload C.1 dX10_waysWith_226 4 rfl ?_
    refine wt_iald C.1 dX10_waysWith_228 tm81 h.1 ?_
    replace h := h.2
    refine ww_iadd C.1 dX10_waysWith_229 ?_
    refine ww_istore_n C.1 dX10_waysWith_230 rfl (by decide) [1, 2, 3, 0, 4] (L' := [(0, .ref 57), (1, .int x1), (2, .int x2), (3, .int (x3 + (M 81 x4.toNatClampNeg))), (4, .int x4)]) rfl ?_
    refine ww_iinc C.1 (v := (x4 + (1 : Int32))) dX10_waysWith_231 4 rfl (by rfl) (by decide) [1, 2, 3, 4, 0] (L' := [(0, .ref 57), (1, .int x1), (2, .int x2), (3, .int (x3 + (M 81 x4.toNatClampNeg))), (4, .int (x4 + (1 : Int32)))]) rfl ?_
    refine ww_goto C.1 (tgt := 213) dX10_waysWith_234 (by decide) ?_
    exact h
set_option maxHeartbeats 4000000 in
set_option maxRecDepth 20000 in
theorem bX10_waysWith_45 {X : CX} {Q : State → Prop} {M : Mem} {x1 x2 x3 s0 : Int32} (C : Ok0 X mX10_waysWith (TTc ++ TTm))
    (h : ((¬ x3 = x1 → WW X Q 72 [(0, .ref 57), (1, .int x1), (2, .int x2), (3, .int x3), (4, .int s0), (5, .int (0 : Int32))] [] (M, (gj gm), TTc ++ TTm)) ∧ (x3 = x1 → ((x2 < (0 : Int32) → WW X Q 72 [(0, .ref 57), (1, .int x1), (2, .int x2), (3, .int x3), (4, .int s0), (5, .int (0 : Int32))] [] (M, (gj gm), TTc ++ TTm)) ∧ (¬ x2 < (0 : Int32) → WW X Q 72 [(0, .ref 57), (1, .int x1), (2, .int x2), (3, .int x3), (4, .int (s0 &&& ((1 : Int32) <<< (x2 &&& 31)))), (5, .int (0 : Int32))] [] (M, (gj gm), TTc ++ TTm)))))) :
    WW X Q 45 [(0, .ref 57), (1, .int x1), (2, .int x2), (3, .int x3)] [.int s0] (M, (gj gm), TTc ++ TTm) := by
  refine ww_istore C.1 dX10_waysWith_45 (by decide) [1, 2, 3, 4, 0] (L' := [(0, .ref 57), (1, .int x1), (2, .int x2), (3, .int x3), (4, .int s0)]) rfl ?_
  refine ww_iload_n C.1 dX10_waysWith_47 3 rfl rfl ?_
  refine ww_iload_n C.1 dX10_waysWith_48 1 rfl rfl ?_
  refine ww_icmp_ne (x := x3) (y := x1) C.1 (tgt := 65) dX10_waysWith_49 (by decide) (fun hh => ?_) (fun hh => ?_)
  · replace h := h.1 hh
    refine ww_iload C.1 dX10_waysWith_65 4 rfl ?_
    refine ww_istore C.1 dX10_waysWith_67 (by decide) [1, 2, 3, 4, 0] (L' := [(0, .ref 57), (1, .int x1), (2, .int x2), (3, .int x3), (4, .int s0)]) rfl ?_
    refine ww_iconst C.1 (v := (0 : Int32)) dX10_waysWith_69 (by decide) ?_
    refine ww_istore C.1 dX10_waysWith_70 (by decide) [1, 2, 3, 4, 5, 0] (L' := [(0, .ref 57), (1, .int x1), (2, .int x2), (3, .int x3), (4, .int s0), (5, .int (0 : Int32))]) rfl ?_
    exact h
  · replace h := h.2 hh
    refine ww_iload_n C.1 dX10_waysWith_52 2 rfl rfl ?_
    refine ww_if_lt (x := x2) C.1 (tgt := 65) dX10_waysWith_53 (by decide) (fun hh => ?_) (fun hh => ?_)
    · replace h := h.1 hh
      refine ww_iload C.1 dX10_waysWith_65 4 rfl ?_
      refine ww_istore C.1 dX10_waysWith_67 (by decide) [1, 2, 3, 4, 0] (L' := [(0, .ref 57), (1, .int x1), (2, .int x2), (3, .int x3), (4, .int s0)]) rfl ?_
      refine ww_iconst C.1 (v := (0 : Int32)) dX10_waysWith_69 (by decide) ?_
      refine ww_istore C.1 dX10_waysWith_70 (by decide) [1, 2, 3, 4, 5, 0] (L' := [(0, .ref 57), (1, .int x1), (2, .int x2), (3, .int x3), (4, .int s0), (5, .int (0 : Int32))]) rfl ?_
      exact h
    · replace h := h.2 hh
      refine ww_iload C.1 dX10_waysWith_56 4 rfl ?_
      refine ww_iconst C.1 (v := (1 : Int32)) dX10_waysWith_58 (by decide) ?_
      refine ww_iload_n C.1 dX10_waysWith_59 2 rfl rfl ?_
      refine ww_ishl C.1 dX10_waysWith_60 ?_
      refine ww_iand C.1 dX10_waysWith_61 ?_
      refine ww_goto C.1 (tgt := 67) dX10_waysWith_62 (by decide) ?_
      refine ww_istore C.1 dX10_waysWith_67 (by decide) [1, 2, 3, 4, 0] (L' := [(0, .ref 57), (1, .int x1), (2, .int x2), (3, .int x3), (4, .int (s0 &&& ((1 : Int32) <<< (x2 &&& 31))))]) rfl ?_
      refine ww_iconst C.1 (v := (0 : Int32)) dX10_waysWith_69 (by decide) ?_
      refine ww_istore C.1 dX10_waysWith_70 (by decide) [1, 2, 3, 4, 5, 0] (L' := [(0, .ref 57), (1, .int x1), (2, .int x2), (3, .int x3), (4, .int (s0 &&& ((1 : Int32) <<< (x2 &&& 31)))), (5, .int (0 : Int32))]) rfl ?_
      exact h
set_option maxHeartbeats 4000000 in
set_option maxRecDepth 20000 in
theorem bX10_sure_0 {X : CX} {Q : State → Prop} {M : Mem} {x1 : Int32} (C : Ok0 X mX10_sure (TTc ++ TTm))
    (h : ((x1 < (-1 : Int32) → RetOK X Q (some (.int (-1 : Int32))) (M, (gj gm), TTc ++ TTm)) ∧ (¬ x1 < (-1 : Int32) → ((((M 57 39) - (1 : Int32)) < x1 → RetOK X Q (some (.int (-1 : Int32))) (M, (gj gm), TTc ++ TTm)) ∧ (¬ ((M 57 39) - (1 : Int32)) < x1 → WpI mX10_waysWith [.ref 57, .int (-4 : Int32), .int (-4 : Int32)] M (gj gm) (TTc ++ TTm) (fun r M' => WW X Q 28 [(0, .ref 57), (1, .int x1)] [.int r] (M', (gj gm), TTc ++ TTm))))))) :
    WW X Q 0 [(0, .ref 57), (1, .int x1)] [] (M, (gj gm), TTc ++ TTm) := by
  refine ww_iload_n C.1 dX10_sure_0 1 rfl rfl ?_
  refine ww_i2l C.1 dX10_sure_1 rfl ?_
  refine ww_ldc2 C.1 kcRX10_251 dX10_sure_2 ?_
  refine ww_aload_n C.1 dX10_sure_5 0 rfl rfl ?_
  refine wt_getI C.1 dX10_sure_6 flRX10_173 tm57 rfl ?_
  refine ww_iconst C.1 (v := (1 : Int32)) dX10_sure_9 (by decide) ?_
  refine ww_isub C.1 dX10_sure_10 ?_
  refine ww_i2l C.1 dX10_sure_11 rfl ?_
  refine ww_sI C fX10_in (And.intro (by decide) (by decide)) mlRX10_101 dX10_sure_12 (As := [.long x1.toInt64, .long (-1 : Int64), .long ((M 57 39) - (1 : Int32)).toInt64]) (rest := []) rfl rfl rfl (Nat.le_of_ble_eq_true rfl) (WpI.of (L0 := [(0, .long x1.toInt64), (2, .long (-1 : Int64)), (4, .long ((M 57 39) - (1 : Int32)).toInt64)]) rfl rfl (Nat.le_of_ble_eq_true rfl) fun X1 Q1 C1 k1 => ?_)
  refine ww_lload_n C1.1 dX10_in_0 0 rfl rfl ?_
  refine ww_lload_n C1.1 dX10_in_1 1 rfl rfl ?_
  refine ww_lcmp C1.1 dX10_in_2 ?_
  refine ww_if_lt (x := (lg_cmp x1.toInt64 (-1 : Int64))) C1.1 (tgt := 17) dX10_in_3 (by decide) (fun hh => ?_) (fun hh => ?_)
  · replace h := h.1 ((in_lt (a := x1) (b := (-1 : Int32)) (by first | rfl | decide) (by first | rfl | decide)).mp hh)
    refine ww_iconst C1.1 (v := (0 : Int32)) dX10_in_17 (by decide) ?_
    refine ww_zret C1.1 dX10_in_18 rfl (Or.inl rfl) ?_
    refine k1 _ _ ?_
    refine ww_if_ne (x := (0 : Int32)) C.1 (tgt := 20) dX10_sure_15 (by decide) (fun hh => absurd hh (by decide)) (fun _ => ?_)
    refine ww_iconst C.1 (v := (-1 : Int32)) dX10_sure_18 (by decide) ?_
    refine ww_iret C.1 dX10_sure_19 rfl ?_
    exact h
  · replace h := h.2 (fun z => hh ((in_lt (a := x1) (b := (-1 : Int32)) (by first | rfl | decide) (by first | rfl | decide)).mpr z))
    refine ww_lload_n C1.1 dX10_in_6 0 rfl rfl ?_
    refine ww_lload C1.1 dX10_in_7 2 rfl ?_
    refine ww_lcmp C1.1 dX10_in_9 ?_
    refine ww_if_gt (x := (lg_cmp x1.toInt64 ((M 57 39) - (1 : Int32)).toInt64)) C1.1 (tgt := 17) dX10_in_10 (by decide) (fun hh => ?_) (fun hh => ?_)
    · replace h := h.1 ((in_gt (a := x1) (b := ((M 57 39) - (1 : Int32))) (by first | rfl | decide) (by first | rfl | decide)).mp hh)
      refine ww_iconst C1.1 (v := (0 : Int32)) dX10_in_17 (by decide) ?_
      refine ww_zret C1.1 dX10_in_18 rfl (Or.inl rfl) ?_
      refine k1 _ _ ?_
      refine ww_if_ne (x := (0 : Int32)) C.1 (tgt := 20) dX10_sure_15 (by decide) (fun hh => absurd hh (by decide)) (fun _ => ?_)
      refine ww_iconst C.1 (v := (-1 : Int32)) dX10_sure_18 (by decide) ?_
      refine ww_iret C.1 dX10_sure_19 rfl ?_
      exact h
    · replace h := h.2 (fun z => hh ((in_gt (a := x1) (b := ((M 57 39) - (1 : Int32))) (by first | rfl | decide) (by first | rfl | decide)).mpr z))
      refine ww_iconst C1.1 (v := (1 : Int32)) dX10_in_13 (by decide) ?_
      refine ww_goto C1.1 (tgt := 18) dX10_in_14 (by decide) ?_
      refine ww_zret C1.1 dX10_in_18 rfl (Or.inr rfl) ?_
      refine k1 _ _ ?_
      refine ww_if_ne (x := (1 : Int32)) C.1 (tgt := 20) dX10_sure_15 (by decide) (fun _ => ?_) (fun hh => absurd hh (by decide))
      refine ww_aload_n C.1 dX10_sure_20 0 rfl rfl ?_
      refine ww_bipush C.1 (v := (-4 : Int32)) dX10_sure_21 (by decide) ?_
      refine ww_bipush C.1 (v := (-4 : Int32)) dX10_sure_23 (by decide) ?_
      refine ww_vI C fX10_waysWith (And.intro (by decide) (by decide)) mlRX10_259 dX10_sure_25 tm57 (by decide) rfl (As := [.int (-4 : Int32), .int (-4 : Int32)]) (rest := []) rfl rfl rfl (Nat.le_of_ble_eq_true rfl) ?_
      exact h
set_option maxHeartbeats 4000000 in
set_option maxRecDepth 20000 in
theorem bX10_sure_41 {X : CX} {Q : State → Prop} {M : Mem} {x1 x2 x3 x4 : Int32} (C : Ok0 X mX10_sure (TTc ++ TTm))
    (h : (((M 57 7) ≤ x4 → RetOK X Q (some (.int x3)) (M, (gj gm), TTc ++ TTm)) ∧ (¬ (M 57 7) ≤ x4 → ((x2 ≤ (0 : Int32) → RetOK X Q (some (.int x3)) (M, (gj gm), TTc ++ TTm)) ∧ (¬ x2 ≤ (0 : Int32) → WpI mX10_waysWith [.ref 57, .int x1, .int x4] M (gj gm) (TTc ++ TTm) (fun r M' => WW X Q 61 [(0, .ref 57), (1, .int x1), (2, .int x2), (3, .int x3), (4, .int x4)] [.int r] (M', (gj gm), TTc ++ TTm))))))) :
    WW X Q 41 [(0, .ref 57), (1, .int x1), (2, .int x2), (3, .int x3), (4, .int x4)] [] (M, (gj gm), TTc ++ TTm) := by
  refine ww_iload C.1 dX10_sure_41 4 rfl ?_
  refine ww_aload_n C.1 dX10_sure_43 0 rfl rfl ?_
  refine wt_getI C.1 dX10_sure_44 flRX10_29 tm57 rfl ?_
  refine ww_icmp_ge (x := x4) (y := (M 57 7)) C.1 (tgt := 78) dX10_sure_47 (by decide) (fun hh => ?_) (fun hh => ?_)
  · replace h := h.1 hh
    refine ww_iload_n C.1 dX10_sure_78 3 rfl rfl ?_
    refine ww_iret C.1 dX10_sure_79 rfl ?_
    exact h
  · replace h := h.2 hh
    refine ww_iload_n C.1 dX10_sure_50 2 rfl rfl ?_
    refine ww_if_le (x := x2) C.1 (tgt := 78) dX10_sure_51 (by decide) (fun hh => ?_) (fun hh => ?_)
    · replace h := h.1 hh
      refine ww_iload_n C.1 dX10_sure_78 3 rfl rfl ?_
      refine ww_iret C.1 dX10_sure_79 rfl ?_
      exact h
    · replace h := h.2 hh
      refine ww_aload_n C.1 dX10_sure_54 0 rfl rfl ?_
      refine ww_iload_n C.1 dX10_sure_55 1 rfl rfl ?_
      refine ww_iload C.1 dX10_sure_56 4 rfl ?_
      refine ww_vI C fX10_waysWith (And.intro (by decide) (by decide)) mlRX10_259 dX10_sure_58 tm57 (by decide) rfl (As := [.int x1, .int x4]) (rest := []) rfl rfl rfl (Nat.le_of_ble_eq_true rfl) ?_
      exact h
set_option maxHeartbeats 4000000 in
set_option maxRecDepth 20000 in
theorem bX10_sure_28 {X : CX} {Q : State → Prop} {M : Mem} {x1 s0 : Int32} (C : Ok0 X mX10_sure (TTc ++ TTm))
    (h : (((0 : Int32) ≤ x1 → WW X Q 41 [(0, .ref 57), (1, .int x1), (2, .int s0), (3, .int (-4 : Int32)), (4, .int (0 : Int32))] [] (M, (gj gm), TTc ++ TTm)) ∧ (¬ (0 : Int32) ≤ x1 → RetOK X Q (some (.int s0)) (M, (gj gm), TTc ++ TTm)))) :
    WW X Q 28 [(0, .ref 57), (1, .int x1)] [.int s0] (M, (gj gm), TTc ++ TTm) := by
  refine ww_istore_n C.1 dX10_sure_28 rfl (by decide) [1, 2, 0] (L' := [(0, .ref 57), (1, .int x1), (2, .int s0)]) rfl ?_
  refine ww_iload_n C.1 dX10_sure_29 1 rfl rfl ?_
  refine ww_if_ge (x := x1) C.1 (tgt := 35) dX10_sure_30 (by decide) (fun hh => ?_) (fun hh => ?_)
  · replace h := h.1 hh
    refine ww_bipush C.1 (v := (-4 : Int32)) dX10_sure_35 (by decide) ?_
    refine ww_istore_n C.1 dX10_sure_37 rfl (by decide) [1, 2, 3, 0] (L' := [(0, .ref 57), (1, .int x1), (2, .int s0), (3, .int (-4 : Int32))]) rfl ?_
    refine ww_iconst C.1 (v := (0 : Int32)) dX10_sure_38 (by decide) ?_
    refine ww_istore C.1 dX10_sure_39 (by decide) [1, 2, 3, 4, 0] (L' := [(0, .ref 57), (1, .int x1), (2, .int s0), (3, .int (-4 : Int32)), (4, .int (0 : Int32))]) rfl ?_
    exact h
  · replace h := h.2 hh
    refine ww_iload_n C.1 dX10_sure_33 2 rfl rfl ?_
    refine ww_iret C.1 dX10_sure_34 rfl ?_
    exact h
set_option maxHeartbeats 4000000 in
set_option maxRecDepth 20000 in
theorem bX10_sure_61 {X : CX} {Q : State → Prop} {M : Mem} {x1 x2 x3 x4 s0 : Int32} (C : Ok0 X mX10_sure (TTc ++ TTm))
    (h : ((¬ s0 = x2 → WW X Q 41 [(0, .ref 57), (1, .int x1), (2, .int x2), (3, .int x3), (4, .int (x4 + (1 : Int32)))] [] (M, (gj gm), TTc ++ TTm)) ∧ (s0 = x2 → WW X Q 41 [(0, .ref 57), (1, .int x1), (2, .int x2), (3, .int x4), (4, .int (x4 + (1 : Int32)))] [] (M, (gj gm), TTc ++ TTm)))) :
    WW X Q 61 [(0, .ref 57), (1, .int x1), (2, .int x2), (3, .int x3), (4, .int x4)] [.int s0] (M, (gj gm), TTc ++ TTm) := by
  refine ww_iload_n C.1 dX10_sure_61 2 rfl rfl ?_
  refine ww_icmp_ne (x := s0) (y := x2) C.1 (tgt := 70) dX10_sure_62 (by decide) (fun hh => ?_) (fun hh => ?_)
  · replace h := h.1 hh
    refine ww_iload_n C.1 dX10_sure_70 3 rfl rfl ?_
    refine ww_istore_n C.1 dX10_sure_71 rfl (by decide) [1, 2, 3, 0, 4] (L' := [(0, .ref 57), (1, .int x1), (2, .int x2), (3, .int x3), (4, .int x4)]) rfl ?_
    refine ww_iinc C.1 (v := (x4 + (1 : Int32))) dX10_sure_72 4 rfl (by rfl) (by decide) [1, 2, 3, 4, 0] (L' := [(0, .ref 57), (1, .int x1), (2, .int x2), (3, .int x3), (4, .int (x4 + (1 : Int32)))]) rfl ?_
    refine ww_goto C.1 (tgt := 41) dX10_sure_75 (by decide) ?_
    exact h
  · replace h := h.2 hh
    refine ww_iload C.1 dX10_sure_65 4 rfl ?_
    refine ww_goto C.1 (tgt := 71) dX10_sure_67 (by decide) ?_
    refine ww_istore_n C.1 dX10_sure_71 rfl (by decide) [1, 2, 3, 0, 4] (L' := [(0, .ref 57), (1, .int x1), (2, .int x2), (3, .int x4), (4, .int x4)]) rfl ?_
    refine ww_iinc C.1 (v := (x4 + (1 : Int32))) dX10_sure_72 4 rfl (by rfl) (by decide) [1, 2, 3, 4, 0] (L' := [(0, .ref 57), (1, .int x1), (2, .int x2), (3, .int x4), (4, .int (x4 + (1 : Int32)))]) rfl ?_
    refine ww_goto C.1 (tgt := 41) dX10_sure_75 (by decide) ?_
    exact h
set_option maxHeartbeats 4000000 in
set_option maxRecDepth 20000 in
theorem bX10_found_0 {X : CX} {Q : State → Prop} {M : Mem} {x1 x2 : Int32} (C : Ok0 X mX10_found (TTc ++ TTm))
    (h : ((x1 < (0 : Int32) → RetOK X Q (some (.int (-1 : Int32))) (M, (gj gm), TTc ++ TTm)) ∧ (¬ x1 < (0 : Int32) → ((((M 57 7) - (1 : Int32)) < x1 → RetOK X Q (some (.int (-1 : Int32))) (M, (gj gm), TTc ++ TTm)) ∧ (¬ ((M 57 7) - (1 : Int32)) < x1 → ((x2 < (0 : Int32) → RetOK X Q (some (.int (-1 : Int32))) (M, (gj gm), TTc ++ TTm)) ∧ (¬ x2 < (0 : Int32) → (((10 : Int32) < x2 → RetOK X Q (some (.int (-1 : Int32))) (M, (gj gm), TTc ++ TTm)) ∧ (¬ (10 : Int32) < x2 → WpI mX10_stay [.ref 57, .int (M 57 1)] M (gj gm) (TTc ++ TTm) (fun r M' => WW X Q 30 [(0, .ref 57), (1, .int x1), (2, .int x2)] [.int r] (M', (gj gm), TTc ++ TTm))))))))))) :
    WW X Q 0 [(0, .ref 57), (1, .int x1), (2, .int x2)] [] (M, (gj gm), TTc ++ TTm) := by
  refine ww_aload_n C.1 dX10_found_0 0 rfl rfl ?_
  refine ww_iload_n C.1 dX10_found_1 1 rfl rfl ?_
  refine ww_vI C fX10_isGuest (And.intro (by decide) (by decide)) mlRX10_209 dX10_found_2 tm57 (by decide) rfl (As := [.int x1]) (rest := []) rfl rfl rfl (Nat.le_of_ble_eq_true rfl) (WpI.of (L0 := [(0, .ref 57), (1, .int x1)]) rfl rfl (Nat.le_of_ble_eq_true rfl) fun X1 Q1 C1 k1 => ?_)
  refine ww_iload_n C1.1 dX10_isGuest_0 1 rfl rfl ?_
  refine ww_i2l C1.1 dX10_isGuest_1 rfl ?_
  refine ww_lconst C1.1 (v := 0) dX10_isGuest_2 (by decide) ?_
  refine ww_aload_n C1.1 dX10_isGuest_3 0 rfl rfl ?_
  refine wt_getI C1.1 dX10_isGuest_4 flRX10_29 tm57 rfl ?_
  refine ww_iconst C1.1 (v := (1 : Int32)) dX10_isGuest_7 (by decide) ?_
  refine ww_isub C1.1 dX10_isGuest_8 ?_
  refine ww_i2l C1.1 dX10_isGuest_9 rfl ?_
  refine ww_sI C1 fX10_in (And.intro (by decide) (by decide)) mlRX10_101 dX10_isGuest_10 (As := [.long x1.toInt64, .long (0 : Int64), .long ((M 57 7) - (1 : Int32)).toInt64]) (rest := []) rfl rfl rfl (Nat.le_of_ble_eq_true rfl) (WpI.of (L0 := [(0, .long x1.toInt64), (2, .long (0 : Int64)), (4, .long ((M 57 7) - (1 : Int32)).toInt64)]) rfl rfl (Nat.le_of_ble_eq_true rfl) fun X2 Q2 C2 k2 => ?_)
  refine ww_lload_n C2.1 dX10_in_0 0 rfl rfl ?_
  refine ww_lload_n C2.1 dX10_in_1 1 rfl rfl ?_
  refine ww_lcmp C2.1 dX10_in_2 ?_
  refine ww_if_lt (x := (lg_cmp x1.toInt64 (0 : Int64))) C2.1 (tgt := 17) dX10_in_3 (by decide) (fun hh => ?_) (fun hh => ?_)
  · replace h := h.1 ((in_lt (a := x1) (b := (0 : Int32)) (by first | rfl | decide) (by first | rfl | decide)).mp hh)
    refine ww_iconst C2.1 (v := (0 : Int32)) dX10_in_17 (by decide) ?_
    refine ww_zret C2.1 dX10_in_18 rfl (Or.inl rfl) ?_
    refine k2 _ _ ?_
    refine ww_zret C1.1 dX10_isGuest_13 rfl (Or.inl rfl) ?_
    refine k1 _ _ ?_
    refine ww_if_eq (x := (0 : Int32)) C.1 (tgt := 20) dX10_found_5 (by decide) (fun _ => ?_) (fun hh => absurd hh (by decide))
    refine ww_iconst C.1 (v := (-1 : Int32)) dX10_found_20 (by decide) ?_
    refine ww_iret C.1 dX10_found_21 rfl ?_
    exact h
  · replace h := h.2 (fun z => hh ((in_lt (a := x1) (b := (0 : Int32)) (by first | rfl | decide) (by first | rfl | decide)).mpr z))
    refine ww_lload_n C2.1 dX10_in_6 0 rfl rfl ?_
    refine ww_lload C2.1 dX10_in_7 2 rfl ?_
    refine ww_lcmp C2.1 dX10_in_9 ?_
    refine ww_if_gt (x := (lg_cmp x1.toInt64 ((M 57 7) - (1 : Int32)).toInt64)) C2.1 (tgt := 17) dX10_in_10 (by decide) (fun hh => ?_) (fun hh => ?_)
    · replace h := h.1 ((in_gt (a := x1) (b := ((M 57 7) - (1 : Int32))) (by first | rfl | decide) (by first | rfl | decide)).mp hh)
      refine ww_iconst C2.1 (v := (0 : Int32)) dX10_in_17 (by decide) ?_
      refine ww_zret C2.1 dX10_in_18 rfl (Or.inl rfl) ?_
      refine k2 _ _ ?_
      refine ww_zret C1.1 dX10_isGuest_13 rfl (Or.inl rfl) ?_
      refine k1 _ _ ?_
      refine ww_if_eq (x := (0 : Int32)) C.1 (tgt := 20) dX10_found_5 (by decide) (fun _ => ?_) (fun hh => absurd hh (by decide))
      refine ww_iconst C.1 (v := (-1 : Int32)) dX10_found_20 (by decide) ?_
      refine ww_iret C.1 dX10_found_21 rfl ?_
      exact h
    · replace h := h.2 (fun z => hh ((in_gt (a := x1) (b := ((M 57 7) - (1 : Int32))) (by first | rfl | decide) (by first | rfl | decide)).mpr z))
      refine ww_iconst C2.1 (v := (1 : Int32)) dX10_in_13 (by decide) ?_
      refine ww_goto C2.1 (tgt := 18) dX10_in_14 (by decide) ?_
      refine ww_zret C2.1 dX10_in_18 rfl (Or.inr rfl) ?_
      refine k2 _ _ ?_
      refine ww_zret C1.1 dX10_isGuest_13 rfl (Or.inr rfl) ?_
      refine k1 _ _ ?_
      refine ww_if_eq (x := (1 : Int32)) C.1 (tgt := 20) dX10_found_5 (by decide) (fun hh => absurd hh (by decide)) (fun _ => ?_)
      refine ww_iload_n C.1 dX10_found_8 2 rfl rfl ?_
      refine ww_i2l C.1 dX10_found_9 rfl ?_
      refine ww_lconst C.1 (v := 0) dX10_found_10 (by decide) ?_
      refine ww_ldc2 C.1 kcRX10_262 dX10_found_11 ?_
      refine ww_sI C fX10_in (And.intro (by decide) (by decide)) mlRX10_101 dX10_found_14 (As := [.long x2.toInt64, .long (0 : Int64), .long (10 : Int64)]) (rest := []) rfl rfl rfl (Nat.le_of_ble_eq_true rfl) (WpI.of (L0 := [(0, .long x2.toInt64), (2, .long (0 : Int64)), (4, .long (10 : Int64))]) rfl rfl (Nat.le_of_ble_eq_true rfl) fun X3 Q3 C3 k3 => ?_)
      refine ww_lload_n C3.1 dX10_in_0 0 rfl rfl ?_
      refine ww_lload_n C3.1 dX10_in_1 1 rfl rfl ?_
      refine ww_lcmp C3.1 dX10_in_2 ?_
      refine ww_if_lt (x := (lg_cmp x2.toInt64 (0 : Int64))) C3.1 (tgt := 17) dX10_in_3 (by decide) (fun hh => ?_) (fun hh => ?_)
      · replace h := h.1 ((in_lt (a := x2) (b := (0 : Int32)) (by first | rfl | decide) (by first | rfl | decide)).mp hh)
        refine ww_iconst C3.1 (v := (0 : Int32)) dX10_in_17 (by decide) ?_
        refine ww_zret C3.1 dX10_in_18 rfl (Or.inl rfl) ?_
        refine k3 _ _ ?_
        refine ww_if_ne (x := (0 : Int32)) C.1 (tgt := 22) dX10_found_17 (by decide) (fun hh => absurd hh (by decide)) (fun _ => ?_)
        refine ww_iconst C.1 (v := (-1 : Int32)) dX10_found_20 (by decide) ?_
        refine ww_iret C.1 dX10_found_21 rfl ?_
        exact h
      · replace h := h.2 (fun z => hh ((in_lt (a := x2) (b := (0 : Int32)) (by first | rfl | decide) (by first | rfl | decide)).mpr z))
        refine ww_lload_n C3.1 dX10_in_6 0 rfl rfl ?_
        refine ww_lload C3.1 dX10_in_7 2 rfl ?_
        refine ww_lcmp C3.1 dX10_in_9 ?_
        refine ww_if_gt (x := (lg_cmp x2.toInt64 (10 : Int64))) C3.1 (tgt := 17) dX10_in_10 (by decide) (fun hh => ?_) (fun hh => ?_)
        · replace h := h.1 ((in_gt (a := x2) (b := (10 : Int32)) (by first | rfl | decide) (by first | rfl | decide)).mp hh)
          refine ww_iconst C3.1 (v := (0 : Int32)) dX10_in_17 (by decide) ?_
          refine ww_zret C3.1 dX10_in_18 rfl (Or.inl rfl) ?_
          refine k3 _ _ ?_
          refine ww_if_ne (x := (0 : Int32)) C.1 (tgt := 22) dX10_found_17 (by decide) (fun hh => absurd hh (by decide)) (fun _ => ?_)
          refine ww_iconst C.1 (v := (-1 : Int32)) dX10_found_20 (by decide) ?_
          refine ww_iret C.1 dX10_found_21 rfl ?_
          exact h
        · replace h := h.2 (fun z => hh ((in_gt (a := x2) (b := (10 : Int32)) (by first | rfl | decide) (by first | rfl | decide)).mpr z))
          refine ww_iconst C3.1 (v := (1 : Int32)) dX10_in_13 (by decide) ?_
          refine ww_goto C3.1 (tgt := 18) dX10_in_14 (by decide) ?_
          refine ww_zret C3.1 dX10_in_18 rfl (Or.inr rfl) ?_
          refine k3 _ _ ?_
          refine ww_if_ne (x := (1 : Int32)) C.1 (tgt := 22) dX10_found_17 (by decide) (fun _ => ?_) (fun hh => absurd hh (by decide))
          refine ww_aload_n C.1 dX10_found_22 0 rfl rfl ?_
          refine ww_aload_n C.1 dX10_found_23 0 rfl rfl ?_
          refine wt_getI C.1 dX10_found_24 flRX10_13 tm57 rfl ?_
          refine ww_vI C fX10_stay (And.intro (by decide) (by decide)) mlRX10_235 dX10_found_27 tm57 (by decide) rfl (As := [.int (M 57 1)]) (rest := []) rfl rfl rfl (Nat.le_of_ble_eq_true rfl) ?_
          exact h
set_option maxHeartbeats 4000000 in
set_option maxRecDepth 20000 in
theorem bX10_found_52 {X : CX} {Q : State → Prop} {M : Mem} {x1 x2 x3 : Int32} (C : Ok0 X mX10_found (TTc ++ TTm))
    (h : (vp_in ((7 : Int32) + x1) 21 ∧ (((0 : Int32) ≤ (M 64 ((7 : Int32) + x1).toNatClampNeg) → (vp_in ((7 : Int32) + x1) 21 ∧ WW X Q 88 [(0, .ref 57), (1, .int x1), (2, .int x2), (3, .int x3), (4, .int (M 64 ((7 : Int32) + x1).toNatClampNeg))] [] (M, (gj gm), TTc ++ TTm))) ∧ (¬ (0 : Int32) ≤ (M 64 ((7 : Int32) + x1).toNatClampNeg) → (vp_in ((7 : Int32) + x1) 21 ∧ WW X Q 88 [(0, .ref 57), (1, .int x1), (2, .int x2), (3, .int x3), (4, .int (-(M 64 ((7 : Int32) + x1).toNatClampNeg)))] [] (M, (gj gm), TTc ++ TTm)))))) :
    WW X Q 52 [(0, .ref 57), (1, .int x1), (2, .int x2), (3, .int x3)] [] (M, (gj gm), TTc ++ TTm) := by
  refine ww_aload_n C.1 dX10_found_52 0 rfl rfl ?_
  refine wt_getR C.1 dX10_found_53 flRX10_38 tm57 rfl gm57_11 ?_
  refine ww_bipush C.1 (v := (7 : Int32)) dX10_found_56 (by decide) ?_
  refine ww_iload_n C.1 dX10_found_58 1 rfl rfl ?_
  refine ww_iadd C.1 dX10_found_59 ?_
  refine wt_iald C.1 dX10_found_60 tm64 h.1 ?_
  replace h := h.2
  refine ww_if_ge (x := (M 64 ((7 : Int32) + x1).toNatClampNeg)) C.1 (tgt := 77) dX10_found_61 (by decide) (fun hh => ?_) (fun hh => ?_)
  · replace h := h.1 hh
    refine ww_aload_n C.1 dX10_found_77 0 rfl rfl ?_
    refine wt_getR C.1 dX10_found_78 flRX10_38 tm57 rfl gm57_11 ?_
    refine ww_bipush C.1 (v := (7 : Int32)) dX10_found_81 (by decide) ?_
    refine ww_iload_n C.1 dX10_found_83 1 rfl rfl ?_
    refine ww_iadd C.1 dX10_found_84 ?_
    refine wt_iald C.1 dX10_found_85 tm64 h.1 ?_
    replace h := h.2
    refine ww_istore C.1 dX10_found_86 (by decide) [1, 2, 3, 4, 0] (L' := [(0, .ref 57), (1, .int x1), (2, .int x2), (3, .int x3), (4, .int (M 64 ((7 : Int32) + x1).toNatClampNeg))]) rfl ?_
    exact h
  · replace h := h.2 hh
    refine ww_aload_n C.1 dX10_found_64 0 rfl rfl ?_
    refine wt_getR C.1 dX10_found_65 flRX10_38 tm57 rfl gm57_11 ?_
    refine ww_bipush C.1 (v := (7 : Int32)) dX10_found_68 (by decide) ?_
    refine ww_iload_n C.1 dX10_found_70 1 rfl rfl ?_
    refine ww_iadd C.1 dX10_found_71 ?_
    refine wt_iald C.1 dX10_found_72 tm64 h.1 ?_
    replace h := h.2
    refine ww_ineg C.1 dX10_found_73 ?_
    refine ww_goto C.1 (tgt := 86) dX10_found_74 (by decide) ?_
    refine ww_istore C.1 dX10_found_86 (by decide) [1, 2, 3, 4, 0] (L' := [(0, .ref 57), (1, .int x1), (2, .int x2), (3, .int x3), (4, .int (-(M 64 ((7 : Int32) + x1).toNatClampNeg)))]) rfl ?_
    exact h
set_option maxHeartbeats 4000000 in
set_option maxRecDepth 20000 in
theorem bX10_found_88 {X : CX} {Q : State → Prop} {M : Mem} {x1 x2 x3 x4 : Int32} (C : Ok0 X mX10_found (TTc ++ TTm))
    (h : (((0 : Int32) ≤ ((1000 : Int32) - (((10 : Int32) * x2) * x4)) → WW X Q 114 [(0, .ref 57), (1, .int x1), (2, .int x2), (3, .int x3), (4, .int x4), (5, .int ((1000 : Int32) - (((10 : Int32) * x2) * x4)))] [] (M, (gj gm), TTc ++ TTm)) ∧ (¬ (0 : Int32) ≤ ((1000 : Int32) - (((10 : Int32) * x2) * x4)) → WW X Q 114 [(0, .ref 57), (1, .int x1), (2, .int x2), (3, .int x3), (4, .int x4), (5, .int (0 : Int32))] [] (M, (gj gm), TTc ++ TTm)))) :
    WW X Q 88 [(0, .ref 57), (1, .int x1), (2, .int x2), (3, .int x3), (4, .int x4)] [] (M, (gj gm), TTc ++ TTm) := by
  refine ww_sipush C.1 (v := (1000 : Int32)) dX10_found_88 (by decide) ?_
  refine ww_bipush C.1 (v := (10 : Int32)) dX10_found_91 (by decide) ?_
  refine ww_iload_n C.1 dX10_found_93 2 rfl rfl ?_
  refine ww_imul C.1 dX10_found_94 ?_
  refine ww_iload C.1 dX10_found_95 4 rfl ?_
  refine ww_imul C.1 dX10_found_97 ?_
  refine ww_isub C.1 dX10_found_98 ?_
  refine ww_istore C.1 dX10_found_99 (by decide) [1, 2, 3, 4, 5, 0] (L' := [(0, .ref 57), (1, .int x1), (2, .int x2), (3, .int x3), (4, .int x4), (5, .int ((1000 : Int32) - (((10 : Int32) * x2) * x4)))]) rfl ?_
  refine ww_iload C.1 dX10_found_101 5 rfl ?_
  refine ww_if_ge (x := ((1000 : Int32) - (((10 : Int32) * x2) * x4))) C.1 (tgt := 110) dX10_found_103 (by decide) (fun hh => ?_) (fun hh => ?_)
  · replace h := h.1 hh
    refine ww_iload C.1 dX10_found_110 5 rfl ?_
    refine ww_istore C.1 dX10_found_112 (by decide) [1, 2, 3, 4, 5, 0] (L' := [(0, .ref 57), (1, .int x1), (2, .int x2), (3, .int x3), (4, .int x4), (5, .int ((1000 : Int32) - (((10 : Int32) * x2) * x4)))]) rfl ?_
    exact h
  · replace h := h.2 hh
    refine ww_iconst C.1 (v := (0 : Int32)) dX10_found_106 (by decide) ?_
    refine ww_goto C.1 (tgt := 112) dX10_found_107 (by decide) ?_
    refine ww_istore C.1 dX10_found_112 (by decide) [1, 2, 3, 4, 5, 0] (L' := [(0, .ref 57), (1, .int x1), (2, .int x2), (3, .int x3), (4, .int x4), (5, .int (0 : Int32))]) rfl ?_
    exact h
set_option maxHeartbeats 4000000 in
set_option maxRecDepth 20000 in
theorem bX10_found_114 {X : CX} {Q : State → Prop} {M : Mem} {x1 x2 x3 x4 x5 : Int32} (C : Ok0 X mX10_found (TTc ++ TTm))
    (h : (vp_in ((14 : Int32) + x1) 21 ∧ WW X Q 130 [(0, .ref 57), (1, .int x1), (2, .int x2), (3, .int x3), (4, .int x4), (5, .int x5), (6, .int (1000 : Int32)), (7, .int (M 64 ((14 : Int32) + x1).toNatClampNeg))] [] (M, (gj gm), TTc ++ TTm))) :
    WW X Q 114 [(0, .ref 57), (1, .int x1), (2, .int x2), (3, .int x3), (4, .int x4), (5, .int x5)] [] (M, (gj gm), TTc ++ TTm) := by
  refine ww_sipush C.1 (v := (1000 : Int32)) dX10_found_114 (by decide) ?_
  refine ww_istore C.1 dX10_found_117 (by decide) [1, 2, 3, 4, 5, 6, 0] (L' := [(0, .ref 57), (1, .int x1), (2, .int x2), (3, .int x3), (4, .int x4), (5, .int x5), (6, .int (1000 : Int32))]) rfl ?_
  refine ww_aload_n C.1 dX10_found_119 0 rfl rfl ?_
  refine wt_getR C.1 dX10_found_120 flRX10_38 tm57 rfl gm57_11 ?_
  refine ww_bipush C.1 (v := (14 : Int32)) dX10_found_123 (by decide) ?_
  refine ww_iload_n C.1 dX10_found_125 1 rfl rfl ?_
  refine ww_iadd C.1 dX10_found_126 ?_
  refine wt_iald C.1 dX10_found_127 tm64 h.1 ?_
  replace h := h.2
  refine ww_istore C.1 dX10_found_128 (by decide) [1, 2, 3, 4, 5, 6, 7, 0] (L' := [(0, .ref 57), (1, .int x1), (2, .int x2), (3, .int x3), (4, .int x4), (5, .int x5), (6, .int (1000 : Int32)), (7, .int (M 64 ((14 : Int32) + x1).toNatClampNeg))]) rfl ?_
  exact h
set_option maxHeartbeats 4000000 in
set_option maxRecDepth 20000 in
theorem bX10_found_130 {X : CX} {Q : State → Prop} {M : Mem} {x1 x2 x3 x4 x5 x6 x7 : Int32} (C : Ok0 X mX10_found (TTc ++ TTm))
    (h : ((x3 < x7 → RetOK X Q (some (.int x6)) (M, (gj gm), TTc ++ TTm)) ∧ (¬ x3 < x7 → WW X Q 130 [(0, .ref 57), (1, .int x1), (2, .int x2), (3, .int x3), (4, .int x4), (5, .int x5), (6, .int ((x6 * x5) / (1000 : Int32))), (7, .int (x7 + (1 : Int32)))] [] (M, (gj gm), TTc ++ TTm)))) :
    WW X Q 130 [(0, .ref 57), (1, .int x1), (2, .int x2), (3, .int x3), (4, .int x4), (5, .int x5), (6, .int x6), (7, .int x7)] [] (M, (gj gm), TTc ++ TTm) := by
  refine ww_iload C.1 dX10_found_130 7 rfl ?_
  refine ww_iload_n C.1 dX10_found_132 3 rfl rfl ?_
  refine ww_icmp_gt (x := x7) (y := x3) C.1 (tgt := 153) dX10_found_133 (by decide) (fun hh => ?_) (fun hh => ?_)
  · replace h := h.1 hh
    refine ww_iload C.1 dX10_found_153 6 rfl ?_
    refine ww_iret C.1 dX10_found_155 rfl ?_
    exact h
  · replace h := h.2 hh
    refine ww_iload C.1 dX10_found_136 6 rfl ?_
    refine ww_iload C.1 dX10_found_138 5 rfl ?_
    refine ww_imul C.1 dX10_found_140 ?_
    refine ww_sipush C.1 (v := (1000 : Int32)) dX10_found_141 (by decide) ?_
    refine ww_idiv C.1 dX10_found_144 (by decide) ?_
    refine ww_istore C.1 dX10_found_145 (by decide) [1, 2, 3, 4, 5, 6, 0, 7] (L' := [(0, .ref 57), (1, .int x1), (2, .int x2), (3, .int x3), (4, .int x4), (5, .int x5), (6, .int ((x6 * x5) / (1000 : Int32))), (7, .int x7)]) rfl ?_
    refine ww_iinc C.1 (v := (x7 + (1 : Int32))) dX10_found_147 7 rfl (by rfl) (by decide) [1, 2, 3, 4, 5, 6, 7, 0] (L' := [(0, .ref 57), (1, .int x1), (2, .int x2), (3, .int x3), (4, .int x4), (5, .int x5), (6, .int ((x6 * x5) / (1000 : Int32))), (7, .int (x7 + (1 : Int32)))]) rfl ?_
    refine ww_goto C.1 (tgt := 130) dX10_found_150 (by decide) ?_
    exact h
set_option maxHeartbeats 4000000 in
set_option maxRecDepth 20000 in
theorem bX10_found_30 {X : CX} {Q : State → Prop} {M : Mem} {x1 x2 s0 : Int32} (C : Ok0 X mX10_found (TTc ++ TTm))
    (h : (vp_in x1 7 ∧ (((0 : Int32) ≤ (M 72 x1.toNatClampNeg) → (vp_in x1 7 ∧ WW X Q 52 [(0, .ref 57), (1, .int x1), (2, .int x2), (3, .int (M 72 x1.toNatClampNeg))] [] (M, (gj gm), TTc ++ TTm))) ∧ (¬ (0 : Int32) ≤ (M 72 x1.toNatClampNeg) → WW X Q 52 [(0, .ref 57), (1, .int x1), (2, .int x2), (3, .int (29 : Int32))] [] (M, (gj gm), TTc ++ TTm))))) :
    WW X Q 30 [(0, .ref 57), (1, .int x1), (2, .int x2)] [.int s0] (M, (gj gm), TTc ++ TTm) := by
  refine ww_pop C.1 dX10_found_30 rfl ?_
  refine ww_aload_n C.1 dX10_found_31 0 rfl rfl ?_
  refine wt_getR C.1 dX10_found_32 flRX10_65 tm57 rfl gm57_29 ?_
  refine ww_iload_n C.1 dX10_found_35 1 rfl rfl ?_
  refine wt_iald C.1 dX10_found_36 tm72 h.1 ?_
  replace h := h.2
  refine ww_if_ge (x := (M 72 x1.toNatClampNeg)) C.1 (tgt := 45) dX10_found_37 (by decide) (fun hh => ?_) (fun hh => ?_)
  · replace h := h.1 hh
    refine ww_aload_n C.1 dX10_found_45 0 rfl rfl ?_
    refine wt_getR C.1 dX10_found_46 flRX10_65 tm57 rfl gm57_29 ?_
    refine ww_iload_n C.1 dX10_found_49 1 rfl rfl ?_
    refine wt_iald C.1 dX10_found_50 tm72 h.1 ?_
    replace h := h.2
    refine ww_istore_n C.1 dX10_found_51 rfl (by decide) [1, 2, 3, 0] (L' := [(0, .ref 57), (1, .int x1), (2, .int x2), (3, .int (M 72 x1.toNatClampNeg))]) rfl ?_
    exact h
  · replace h := h.2 hh
    refine ww_bipush C.1 (v := (29 : Int32)) dX10_found_40 (by decide) ?_
    refine ww_goto C.1 (tgt := 51) dX10_found_42 (by decide) ?_
    refine ww_istore_n C.1 dX10_found_51 rfl (by decide) [1, 2, 3, 0] (L' := [(0, .ref 57), (1, .int x1), (2, .int x2), (3, .int (29 : Int32))]) rfl ?_
    exact h
set_option maxHeartbeats 4000000 in
set_option maxRecDepth 20000 in
theorem bX10_year_0 {X : CX} {Q : State → Prop} {M : Mem} {x1 x2 : Int32} (C : Ok0 X mX10_year (TTc ++ TTm))
    (h : ((x1 < (0 : Int32) → RetOK X Q (some (.int (-1 : Int32))) (M, (gj gm), TTc ++ TTm)) ∧ (¬ x1 < (0 : Int32) → (((9999 : Int32) < x1 → RetOK X Q (some (.int (-1 : Int32))) (M, (gj gm), TTc ++ TTm)) ∧ (¬ (9999 : Int32) < x1 → ((x2 < (0 : Int32) → RetOK X Q (some (.int (-1 : Int32))) (M, (gj gm), TTc ++ TTm)) ∧ (¬ x2 < (0 : Int32) → (((1 : Int32) < x2 → RetOK X Q (some (.int (-1 : Int32))) (M, (gj gm), TTc ++ TTm)) ∧ (¬ (1 : Int32) < x2 → WpI mX10_stay [.ref 57, .int (M 57 1)] (wr M 57 28 x1) (gj gm) (TTc ++ TTm) (fun r M' => WW X Q 37 [(0, .ref 57), (1, .int x1), (2, .int x2)] [.int r] (M', (gj gm), TTc ++ TTm))))))))))) :
    WW X Q 0 [(0, .ref 57), (1, .int x1), (2, .int x2)] [] (M, (gj gm), TTc ++ TTm) := by
  refine ww_iload_n C.1 dX10_year_0 1 rfl rfl ?_
  refine ww_i2l C.1 dX10_year_1 rfl ?_
  refine ww_lconst C.1 (v := 0) dX10_year_2 (by decide) ?_
  refine ww_ldc2 C.1 kcRX10_264 dX10_year_3 ?_
  refine ww_sI C fX10_in (And.intro (by decide) (by decide)) mlRX10_101 dX10_year_6 (As := [.long x1.toInt64, .long (0 : Int64), .long (9999 : Int64)]) (rest := []) rfl rfl rfl (Nat.le_of_ble_eq_true rfl) (WpI.of (L0 := [(0, .long x1.toInt64), (2, .long (0 : Int64)), (4, .long (9999 : Int64))]) rfl rfl (Nat.le_of_ble_eq_true rfl) fun X1 Q1 C1 k1 => ?_)
  refine ww_lload_n C1.1 dX10_in_0 0 rfl rfl ?_
  refine ww_lload_n C1.1 dX10_in_1 1 rfl rfl ?_
  refine ww_lcmp C1.1 dX10_in_2 ?_
  refine ww_if_lt (x := (lg_cmp x1.toInt64 (0 : Int64))) C1.1 (tgt := 17) dX10_in_3 (by decide) (fun hh => ?_) (fun hh => ?_)
  · replace h := h.1 ((in_lt (a := x1) (b := (0 : Int32)) (by first | rfl | decide) (by first | rfl | decide)).mp hh)
    refine ww_iconst C1.1 (v := (0 : Int32)) dX10_in_17 (by decide) ?_
    refine ww_zret C1.1 dX10_in_18 rfl (Or.inl rfl) ?_
    refine k1 _ _ ?_
    refine ww_if_eq (x := (0 : Int32)) C.1 (tgt := 22) dX10_year_9 (by decide) (fun _ => ?_) (fun hh => absurd hh (by decide))
    refine ww_iconst C.1 (v := (-1 : Int32)) dX10_year_22 (by decide) ?_
    refine ww_iret C.1 dX10_year_23 rfl ?_
    exact h
  · replace h := h.2 (fun z => hh ((in_lt (a := x1) (b := (0 : Int32)) (by first | rfl | decide) (by first | rfl | decide)).mpr z))
    refine ww_lload_n C1.1 dX10_in_6 0 rfl rfl ?_
    refine ww_lload C1.1 dX10_in_7 2 rfl ?_
    refine ww_lcmp C1.1 dX10_in_9 ?_
    refine ww_if_gt (x := (lg_cmp x1.toInt64 (9999 : Int64))) C1.1 (tgt := 17) dX10_in_10 (by decide) (fun hh => ?_) (fun hh => ?_)
    · replace h := h.1 ((in_gt (a := x1) (b := (9999 : Int32)) (by first | rfl | decide) (by first | rfl | decide)).mp hh)
      refine ww_iconst C1.1 (v := (0 : Int32)) dX10_in_17 (by decide) ?_
      refine ww_zret C1.1 dX10_in_18 rfl (Or.inl rfl) ?_
      refine k1 _ _ ?_
      refine ww_if_eq (x := (0 : Int32)) C.1 (tgt := 22) dX10_year_9 (by decide) (fun _ => ?_) (fun hh => absurd hh (by decide))
      refine ww_iconst C.1 (v := (-1 : Int32)) dX10_year_22 (by decide) ?_
      refine ww_iret C.1 dX10_year_23 rfl ?_
      exact h
    · replace h := h.2 (fun z => hh ((in_gt (a := x1) (b := (9999 : Int32)) (by first | rfl | decide) (by first | rfl | decide)).mpr z))
      refine ww_iconst C1.1 (v := (1 : Int32)) dX10_in_13 (by decide) ?_
      refine ww_goto C1.1 (tgt := 18) dX10_in_14 (by decide) ?_
      refine ww_zret C1.1 dX10_in_18 rfl (Or.inr rfl) ?_
      refine k1 _ _ ?_
      refine ww_if_eq (x := (1 : Int32)) C.1 (tgt := 22) dX10_year_9 (by decide) (fun hh => absurd hh (by decide)) (fun _ => ?_)
      refine ww_iload_n C.1 dX10_year_12 2 rfl rfl ?_
      refine ww_i2l C.1 dX10_year_13 rfl ?_
      refine ww_lconst C.1 (v := 0) dX10_year_14 (by decide) ?_
      refine ww_lconst C.1 (v := 1) dX10_year_15 (by decide) ?_
      refine ww_sI C fX10_in (And.intro (by decide) (by decide)) mlRX10_101 dX10_year_16 (As := [.long x2.toInt64, .long (0 : Int64), .long (1 : Int64)]) (rest := []) rfl rfl rfl (Nat.le_of_ble_eq_true rfl) (WpI.of (L0 := [(0, .long x2.toInt64), (2, .long (0 : Int64)), (4, .long (1 : Int64))]) rfl rfl (Nat.le_of_ble_eq_true rfl) fun X2 Q2 C2 k2 => ?_)
      refine ww_lload_n C2.1 dX10_in_0 0 rfl rfl ?_
      refine ww_lload_n C2.1 dX10_in_1 1 rfl rfl ?_
      refine ww_lcmp C2.1 dX10_in_2 ?_
      refine ww_if_lt (x := (lg_cmp x2.toInt64 (0 : Int64))) C2.1 (tgt := 17) dX10_in_3 (by decide) (fun hh => ?_) (fun hh => ?_)
      · replace h := h.1 ((in_lt (a := x2) (b := (0 : Int32)) (by first | rfl | decide) (by first | rfl | decide)).mp hh)
        refine ww_iconst C2.1 (v := (0 : Int32)) dX10_in_17 (by decide) ?_
        refine ww_zret C2.1 dX10_in_18 rfl (Or.inl rfl) ?_
        refine k2 _ _ ?_
        refine ww_if_ne (x := (0 : Int32)) C.1 (tgt := 24) dX10_year_19 (by decide) (fun hh => absurd hh (by decide)) (fun _ => ?_)
        refine ww_iconst C.1 (v := (-1 : Int32)) dX10_year_22 (by decide) ?_
        refine ww_iret C.1 dX10_year_23 rfl ?_
        exact h
      · replace h := h.2 (fun z => hh ((in_lt (a := x2) (b := (0 : Int32)) (by first | rfl | decide) (by first | rfl | decide)).mpr z))
        refine ww_lload_n C2.1 dX10_in_6 0 rfl rfl ?_
        refine ww_lload C2.1 dX10_in_7 2 rfl ?_
        refine ww_lcmp C2.1 dX10_in_9 ?_
        refine ww_if_gt (x := (lg_cmp x2.toInt64 (1 : Int64))) C2.1 (tgt := 17) dX10_in_10 (by decide) (fun hh => ?_) (fun hh => ?_)
        · replace h := h.1 ((in_gt (a := x2) (b := (1 : Int32)) (by first | rfl | decide) (by first | rfl | decide)).mp hh)
          refine ww_iconst C2.1 (v := (0 : Int32)) dX10_in_17 (by decide) ?_
          refine ww_zret C2.1 dX10_in_18 rfl (Or.inl rfl) ?_
          refine k2 _ _ ?_
          refine ww_if_ne (x := (0 : Int32)) C.1 (tgt := 24) dX10_year_19 (by decide) (fun hh => absurd hh (by decide)) (fun _ => ?_)
          refine ww_iconst C.1 (v := (-1 : Int32)) dX10_year_22 (by decide) ?_
          refine ww_iret C.1 dX10_year_23 rfl ?_
          exact h
        · replace h := h.2 (fun z => hh ((in_gt (a := x2) (b := (1 : Int32)) (by first | rfl | decide) (by first | rfl | decide)).mpr z))
          refine ww_iconst C2.1 (v := (1 : Int32)) dX10_in_13 (by decide) ?_
          refine ww_goto C2.1 (tgt := 18) dX10_in_14 (by decide) ?_
          refine ww_zret C2.1 dX10_in_18 rfl (Or.inr rfl) ?_
          refine k2 _ _ ?_
          refine ww_if_ne (x := (1 : Int32)) C.1 (tgt := 24) dX10_year_19 (by decide) (fun _ => ?_) (fun hh => absurd hh (by decide))
          refine ww_aload_n C.1 dX10_year_24 0 rfl rfl ?_
          refine ww_iload_n C.1 dX10_year_25 1 rfl rfl ?_
          refine wt_putI C.1 dX10_year_26 flRX10_62 tm57 rfl ?_
          refine ww_aload_n C.1 dX10_year_29 0 rfl rfl ?_
          refine ww_aload_n C.1 dX10_year_30 0 rfl rfl ?_
          refine wt_getI C.1 dX10_year_31 flRX10_13 tm57 rfl ?_
          refine ww_vI C fX10_stay (And.intro (by decide) (by decide)) mlRX10_235 dX10_year_34 tm57 (by decide) rfl (As := [.int (M 57 1)]) (rest := []) rfl rfl rfl (Nat.le_of_ble_eq_true rfl) ?_
          exact h
set_option maxHeartbeats 4000000 in
set_option maxRecDepth 20000 in
theorem bX10_year_37 {X : CX} {Q : State → Prop} {M : Mem} {x1 x2 s0 : Int32} (C : Ok0 X mX10_year (TTc ++ TTm))
    (h : ((¬ x2 = (0 : Int32) → WpI mX10_unharmed [.ref 57] (wr M 57 28 (-1 : Int32)) (gj gm) (TTc ++ TTm) (fun r M' => WW X Q 55 [(0, .ref 57), (1, .int x1), (2, .int x2), (3, .int s0)] [.int r] (M', (gj gm), TTc ++ TTm))) ∧ (x2 = (0 : Int32) → RetOK X Q (some (.int s0)) ((wr M 57 28 (-1 : Int32)), (gj gm), TTc ++ TTm)))) :
    WW X Q 37 [(0, .ref 57), (1, .int x1), (2, .int x2)] [.int s0] (M, (gj gm), TTc ++ TTm) := by
  refine ww_istore_n C.1 dX10_year_37 rfl (by decide) [1, 2, 3, 0] (L' := [(0, .ref 57), (1, .int x1), (2, .int x2), (3, .int s0)]) rfl ?_
  refine ww_aload_n C.1 dX10_year_38 0 rfl rfl ?_
  refine ww_iconst C.1 (v := (-1 : Int32)) dX10_year_39 (by decide) ?_
  refine wt_putI C.1 dX10_year_40 flRX10_62 tm57 rfl ?_
  refine ww_iload_n C.1 dX10_year_43 2 rfl rfl ?_
  refine ww_if_ne (x := x2) C.1 (tgt := 51) dX10_year_44 (by decide) (fun hh => ?_) (fun hh => ?_)
  · replace h := h.1 hh
    refine ww_aload_n C.1 dX10_year_51 0 rfl rfl ?_
    refine ww_vI C fX10_unharmed (And.intro (by decide) (by decide)) mlRX10_240 dX10_year_52 tm57 (by decide) rfl (As := []) (rest := []) rfl rfl rfl (Nat.le_of_ble_eq_true rfl) ?_
    exact h
  · replace h := h.2 hh
    refine ww_iload_n C.1 dX10_year_47 3 rfl rfl ?_
    refine ww_goto C.1 (tgt := 55) dX10_year_48 (by decide) ?_
    refine ww_iret C.1 dX10_year_55 rfl ?_
    exact h
set_option maxHeartbeats 4000000 in
set_option maxRecDepth 20000 in
theorem bX10_year_55 {X : CX} {Q : State → Prop} {M : Mem} {x1 x2 x3 s0 : Int32} (C : Ok0 X mX10_year (TTc ++ TTm))
    (h : RetOK X Q (some (.int s0)) (M, (gj gm), TTc ++ TTm)) :
    WW X Q 55 [(0, .ref 57), (1, .int x1), (2, .int x2), (3, .int x3)] [.int s0] (M, (gj gm), TTc ++ TTm) := by
  refine ww_iret C.1 dX10_year_55 rfl ?_
  exact h
set_option maxHeartbeats 4000000 in
set_option maxRecDepth 20000 in
theorem bX10_keep_0 {X : CX} {Q : State → Prop} {M : Mem} (C : Ok0 X mX10_keep (TTc ++ TTm))
    (h : ((¬ (M 57 43) = (2 : Int32) → WW X Q 13 [(0, .ref 57), (1, .int (0 : Int32))] [] (M, (gj gm), TTc ++ TTm)) ∧ ((M 57 43) = (2 : Int32) → RetOK X Q (some (.int (-3 : Int32))) (M, (gj gm), TTc ++ TTm)))) :
    WW X Q 0 [(0, .ref 57)] [] (M, (gj gm), TTc ++ TTm) := by
  refine ww_aload_n C.1 dX10_keep_0 0 rfl rfl ?_
  refine wt_getI C.1 dX10_keep_1 flRX10_176 tm57 rfl ?_
  refine ww_iconst C.1 (v := (2 : Int32)) dX10_keep_4 (by decide) ?_
  refine ww_icmp_ne (x := (M 57 43)) (y := (2 : Int32)) C.1 (tgt := 11) dX10_keep_5 (by decide) (fun hh => ?_) (fun hh => ?_)
  · replace h := h.1 hh
    refine ww_iconst C.1 (v := (0 : Int32)) dX10_keep_11 (by decide) ?_
    refine ww_istore_n C.1 dX10_keep_12 rfl (by decide) [1, 0] (L' := [(0, .ref 57), (1, .int (0 : Int32))]) rfl ?_
    exact h
  · replace h := h.2 hh
    refine ww_bipush C.1 (v := (-3 : Int32)) dX10_keep_8 (by decide) ?_
    refine ww_iret C.1 dX10_keep_10 rfl ?_
    exact h
set_option maxHeartbeats 4000000 in
set_option maxRecDepth 20000 in
theorem bX10_keep_13 {X : CX} {Q : State → Prop} {M : Mem} {x1 : Int32} (C : Ok0 X mX10_keep (TTc ++ TTm))
    (h : (((21 : Int32) ≤ x1 → RetOK X Q (some (.int ((M 57 43) + (1 : Int32)))) ((wr M 57 43 ((M 57 43) + (1 : Int32))), (gj gm), TTc ++ TTm)) ∧ (¬ (21 : Int32) ≤ x1 → (vp_in x1 21 ∧ (vp_in (((21 : Int32) * (M 57 43)) + x1) 42 ∧ WW X Q 13 [(0, .ref 57), (1, .int (x1 + (1 : Int32)))] [] ((wr M 83 (((21 : Int32) * (M 57 43)) + x1).toNatClampNeg (M 64 x1.toNatClampNeg)), (gj gm), TTc ++ TTm)))))) :
    WW X Q 13 [(0, .ref 57), (1, .int x1)] [] (M, (gj gm), TTc ++ TTm) := by
  refine ww_iload_n C.1 dX10_keep_13 1 rfl rfl ?_
  refine ww_bipush C.1 (v := (21 : Int32)) dX10_keep_14 (by decide) ?_
  refine ww_icmp_ge (x := x1) (y := (21 : Int32)) C.1 (tgt := 45) dX10_keep_16 (by decide) (fun hh => ?_) (fun hh => ?_)
  · replace h := h.1 hh
    refine ww_aload_n C.1 dX10_keep_45 0 rfl rfl ?_
    refine ww_dup C.1 dX10_keep_46 rfl ?_
    refine wt_getI C.1 dX10_keep_47 flRX10_176 tm57 rfl ?_
    refine ww_iconst C.1 (v := (1 : Int32)) dX10_keep_50 (by decide) ?_
    refine ww_iadd C.1 dX10_keep_51 ?_
    refine wt_putI C.1 dX10_keep_52 flRX10_176 tm57 rfl ?_
    refine ww_aload_n C.1 dX10_keep_55 0 rfl rfl ?_
    refine wt_getI C.1 dX10_keep_56 flRX10_176 tm57 rfl ?_
    refine ww_iret C.1 dX10_keep_59 rfl ?_
    exact h
  · replace h := h.2 hh
    refine ww_aload_n C.1 dX10_keep_19 0 rfl rfl ?_
    refine wt_getR C.1 dX10_keep_20 flRX10_98 tm57 rfl gm57_42 ?_
    refine ww_bipush C.1 (v := (21 : Int32)) dX10_keep_23 (by decide) ?_
    refine ww_aload_n C.1 dX10_keep_25 0 rfl rfl ?_
    refine wt_getI C.1 dX10_keep_26 flRX10_176 tm57 rfl ?_
    refine ww_imul C.1 dX10_keep_29 ?_
    refine ww_iload_n C.1 dX10_keep_30 1 rfl rfl ?_
    refine ww_iadd C.1 dX10_keep_31 ?_
    refine ww_aload_n C.1 dX10_keep_32 0 rfl rfl ?_
    refine wt_getR C.1 dX10_keep_33 flRX10_38 tm57 rfl gm57_11 ?_
    refine ww_iload_n C.1 dX10_keep_36 1 rfl rfl ?_
    refine wt_iald C.1 dX10_keep_37 tm64 h.1 ?_
    replace h := h.2
    refine wt_iast C.1 dX10_keep_38 tm83 h.1 ?_
    replace h := h.2
    refine ww_iinc C.1 (v := (x1 + (1 : Int32))) dX10_keep_39 1 rfl (by rfl) (by decide) [1, 0] (L' := [(0, .ref 57), (1, .int (x1 + (1 : Int32)))]) rfl ?_
    refine ww_goto C.1 (tgt := 13) dX10_keep_42 (by decide) ?_
    exact h
set_option maxHeartbeats 4000000 in
set_option maxRecDepth 20000 in
theorem bX10_back_0 {X : CX} {Q : State → Prop} {M : Mem} (C : Ok0 X mX10_back (TTc ++ TTm))
    (h : ((¬ (M 57 43) = (0 : Int32) → WW X Q 22 [(0, .ref 57), (1, .int (0 : Int32))] [] ((wr M 57 43 ((M 57 43) - (1 : Int32))), (gj gm), TTc ++ TTm)) ∧ ((M 57 43) = (0 : Int32) → RetOK X Q (some (.int (-2 : Int32))) (M, (gj gm), TTc ++ TTm)))) :
    WW X Q 0 [(0, .ref 57)] [] (M, (gj gm), TTc ++ TTm) := by
  refine ww_aload_n C.1 dX10_back_0 0 rfl rfl ?_
  refine wt_getI C.1 dX10_back_1 flRX10_176 tm57 rfl ?_
  refine ww_if_ne (x := (M 57 43)) C.1 (tgt := 10) dX10_back_4 (by decide) (fun hh => ?_) (fun hh => ?_)
  · replace h := h.1 hh
    refine ww_aload_n C.1 dX10_back_10 0 rfl rfl ?_
    refine ww_dup C.1 dX10_back_11 rfl ?_
    refine wt_getI C.1 dX10_back_12 flRX10_176 tm57 rfl ?_
    refine ww_iconst C.1 (v := (1 : Int32)) dX10_back_15 (by decide) ?_
    refine ww_isub C.1 dX10_back_16 ?_
    refine wt_putI C.1 dX10_back_17 flRX10_176 tm57 rfl ?_
    refine ww_iconst C.1 (v := (0 : Int32)) dX10_back_20 (by decide) ?_
    refine ww_istore_n C.1 dX10_back_21 rfl (by decide) [1, 0] (L' := [(0, .ref 57), (1, .int (0 : Int32))]) rfl ?_
    exact h
  · replace h := h.2 hh
    refine ww_bipush C.1 (v := (-2 : Int32)) dX10_back_7 (by decide) ?_
    refine ww_iret C.1 dX10_back_9 rfl ?_
    exact h
set_option maxHeartbeats 4000000 in
set_option maxRecDepth 20000 in
theorem bX10_back_22 {X : CX} {Q : State → Prop} {M : Mem} {x1 : Int32} (C : Ok0 X mX10_back (TTc ++ TTm))
    (h : (((21 : Int32) ≤ x1 → RetOK X Q (some (.int (M 57 43))) ((wr M 57 35 (0 : Int32)), (gj gm), TTc ++ TTm)) ∧ (¬ (21 : Int32) ≤ x1 → (vp_in (((21 : Int32) * (M 57 43)) + x1) 42 ∧ (vp_in x1 21 ∧ WW X Q 22 [(0, .ref 57), (1, .int (x1 + (1 : Int32)))] [] ((wr M 64 x1.toNatClampNeg (M 83 (((21 : Int32) * (M 57 43)) + x1).toNatClampNeg)), (gj gm), TTc ++ TTm)))))) :
    WW X Q 22 [(0, .ref 57), (1, .int x1)] [] (M, (gj gm), TTc ++ TTm) := by
  refine ww_iload_n C.1 dX10_back_22 1 rfl rfl ?_
  refine ww_bipush C.1 (v := (21 : Int32)) dX10_back_23 (by decide) ?_
  refine ww_icmp_ge (x := x1) (y := (21 : Int32)) C.1 (tgt := 54) dX10_back_25 (by decide) (fun hh => ?_) (fun hh => ?_)
  · replace h := h.1 hh
    refine ww_aload_n C.1 dX10_back_54 0 rfl rfl ?_
    refine ww_iconst C.1 (v := (0 : Int32)) dX10_back_55 (by decide) ?_
    refine wt_putI C.1 dX10_back_56 flRX10_170 tm57 rfl ?_
    refine ww_aload_n C.1 dX10_back_59 0 rfl rfl ?_
    refine wt_getI C.1 dX10_back_60 flRX10_176 tm57 rfl ?_
    refine ww_iret C.1 dX10_back_63 rfl ?_
    exact h
  · replace h := h.2 hh
    refine ww_aload_n C.1 dX10_back_28 0 rfl rfl ?_
    refine wt_getR C.1 dX10_back_29 flRX10_38 tm57 rfl gm57_11 ?_
    refine ww_iload_n C.1 dX10_back_32 1 rfl rfl ?_
    refine ww_aload_n C.1 dX10_back_33 0 rfl rfl ?_
    refine wt_getR C.1 dX10_back_34 flRX10_98 tm57 rfl gm57_42 ?_
    refine ww_bipush C.1 (v := (21 : Int32)) dX10_back_37 (by decide) ?_
    refine ww_aload_n C.1 dX10_back_39 0 rfl rfl ?_
    refine wt_getI C.1 dX10_back_40 flRX10_176 tm57 rfl ?_
    refine ww_imul C.1 dX10_back_43 ?_
    refine ww_iload_n C.1 dX10_back_44 1 rfl rfl ?_
    refine ww_iadd C.1 dX10_back_45 ?_
    refine wt_iald C.1 dX10_back_46 tm83 h.1 ?_
    replace h := h.2
    refine wt_iast C.1 dX10_back_47 tm64 h.1 ?_
    replace h := h.2
    refine ww_iinc C.1 (v := (x1 + (1 : Int32))) dX10_back_48 1 rfl (by rfl) (by decide) [1, 0] (L' := [(0, .ref 57), (1, .int (x1 + (1 : Int32)))]) rfl ?_
    refine ww_goto C.1 (tgt := 22) dX10_back_51 (by decide) ?_
    exact h
set_option maxHeartbeats 4000000 in
set_option maxRecDepth 20000 in
theorem bX10_count_0 {X : CX} {Q : State → Prop} {M : Mem} {x1 : Int32} (C : Ok0 X mX10_count (TTc ++ TTm))
    (h : ((x1 = (0 : Int32) → RetOK X Q (some (.int (M 57 1))) (M, (gj gm), TTc ++ TTm)) ∧ (¬ x1 = (0 : Int32) → ((x1 = (1 : Int32) → RetOK X Q (some (.int (M 57 7))) (M, (gj gm), TTc ++ TTm)) ∧ (¬ x1 = (1 : Int32) → ((x1 = (2 : Int32) → RetOK X Q (some (.int (M 57 3))) (M, (gj gm), TTc ++ TTm)) ∧ (¬ x1 = (2 : Int32) → ((x1 = (3 : Int32) → RetOK X Q (some (.int (M 57 9))) (M, (gj gm), TTc ++ TTm)) ∧ (¬ x1 = (3 : Int32) → ((x1 = (4 : Int32) → RetOK X Q (some (.int (M 57 10))) (M, (gj gm), TTc ++ TTm)) ∧ (¬ x1 = (4 : Int32) → ((x1 = (5 : Int32) → RetOK X Q (some (.int (M 57 39))) (M, (gj gm), TTc ++ TTm)) ∧ (¬ x1 = (5 : Int32) → ((x1 = (6 : Int32) → RetOK X Q (some (.int (M 57 35))) (M, (gj gm), TTc ++ TTm)) ∧ (¬ x1 = (6 : Int32) → ((x1 = (7 : Int32) → RetOK X Q (some (.int (M 57 43))) (M, (gj gm), TTc ++ TTm)) ∧ (¬ x1 = (7 : Int32) → ((x1 = (8 : Int32) → RetOK X Q (some (.int (M 57 13))) (M, (gj gm), TTc ++ TTm)) ∧ (¬ x1 = (8 : Int32) → RetOK X Q (some (.int (-1 : Int32))) (M, (gj gm), TTc ++ TTm)))))))))))))))))))) :
    WW X Q 0 [(0, .ref 57), (1, .int x1)] [] (M, (gj gm), TTc ++ TTm) := by
  refine ww_iload_n C.1 dX10_count_0 1 rfl rfl ?_
  by_cases hc0 : x1 = (0 : Int32)
  · replace h := h.1 hc0
    refine ww_tableIn (x := x1) C.1 (tgt := 52) dX10_count_1 (by rw [hc0]; decide) (by rw [hc0]; decide) (by rw [hc0]; rfl) (by decide) ?_
    refine ww_aload_n C.1 dX10_count_52 0 rfl rfl ?_
    refine wt_getI C.1 dX10_count_53 flRX10_13 tm57 rfl ?_
    refine ww_iret C.1 dX10_count_56 rfl ?_
    exact h
  · replace h := h.2 hc0
    by_cases hc1 : x1 = (1 : Int32)
    · replace h := h.1 hc1
      refine ww_tableIn (x := x1) C.1 (tgt := 57) dX10_count_1 (by rw [hc1]; decide) (by rw [hc1]; decide) (by rw [hc1]; rfl) (by decide) ?_
      refine ww_aload_n C.1 dX10_count_57 0 rfl rfl ?_
      refine wt_getI C.1 dX10_count_58 flRX10_29 tm57 rfl ?_
      refine ww_iret C.1 dX10_count_61 rfl ?_
      exact h
    · replace h := h.2 hc1
      by_cases hc2 : x1 = (2 : Int32)
      · replace h := h.1 hc2
        refine ww_tableIn (x := x1) C.1 (tgt := 62) dX10_count_1 (by rw [hc2]; decide) (by rw [hc2]; decide) (by rw [hc2]; rfl) (by decide) ?_
        refine ww_aload_n C.1 dX10_count_62 0 rfl rfl ?_
        refine wt_getI C.1 dX10_count_63 flRX10_164 tm57 rfl ?_
        refine ww_iret C.1 dX10_count_66 rfl ?_
        exact h
      · replace h := h.2 hc2
        by_cases hc3 : x1 = (3 : Int32)
        · replace h := h.1 hc3
          refine ww_tableIn (x := x1) C.1 (tgt := 67) dX10_count_1 (by rw [hc3]; decide) (by rw [hc3]; decide) (by rw [hc3]; rfl) (by decide) ?_
          refine ww_aload_n C.1 dX10_count_67 0 rfl rfl ?_
          refine wt_getI C.1 dX10_count_68 flRX10_167 tm57 rfl ?_
          refine ww_iret C.1 dX10_count_71 rfl ?_
          exact h
        · replace h := h.2 hc3
          by_cases hc4 : x1 = (4 : Int32)
          · replace h := h.1 hc4
            refine ww_tableIn (x := x1) C.1 (tgt := 72) dX10_count_1 (by rw [hc4]; decide) (by rw [hc4]; decide) (by rw [hc4]; rfl) (by decide) ?_
            refine ww_aload_n C.1 dX10_count_72 0 rfl rfl ?_
            refine wt_getI C.1 dX10_count_73 flRX10_35 tm57 rfl ?_
            refine ww_iret C.1 dX10_count_76 rfl ?_
            exact h
          · replace h := h.2 hc4
            by_cases hc5 : x1 = (5 : Int32)
            · replace h := h.1 hc5
              refine ww_tableIn (x := x1) C.1 (tgt := 77) dX10_count_1 (by rw [hc5]; decide) (by rw [hc5]; decide) (by rw [hc5]; rfl) (by decide) ?_
              refine ww_aload_n C.1 dX10_count_77 0 rfl rfl ?_
              refine wt_getI C.1 dX10_count_78 flRX10_173 tm57 rfl ?_
              refine ww_iret C.1 dX10_count_81 rfl ?_
              exact h
            · replace h := h.2 hc5
              by_cases hc6 : x1 = (6 : Int32)
              · replace h := h.1 hc6
                refine ww_tableIn (x := x1) C.1 (tgt := 82) dX10_count_1 (by rw [hc6]; decide) (by rw [hc6]; decide) (by rw [hc6]; rfl) (by decide) ?_
                refine ww_aload_n C.1 dX10_count_82 0 rfl rfl ?_
                refine wt_getI C.1 dX10_count_83 flRX10_170 tm57 rfl ?_
                refine ww_iret C.1 dX10_count_86 rfl ?_
                exact h
              · replace h := h.2 hc6
                by_cases hc7 : x1 = (7 : Int32)
                · replace h := h.1 hc7
                  refine ww_tableIn (x := x1) C.1 (tgt := 87) dX10_count_1 (by rw [hc7]; decide) (by rw [hc7]; decide) (by rw [hc7]; rfl) (by decide) ?_
                  refine ww_aload_n C.1 dX10_count_87 0 rfl rfl ?_
                  refine wt_getI C.1 dX10_count_88 flRX10_176 tm57 rfl ?_
                  refine ww_iret C.1 dX10_count_91 rfl ?_
                  exact h
                · replace h := h.2 hc7
                  by_cases hc8 : x1 = (8 : Int32)
                  · replace h := h.1 hc8
                    refine ww_tableIn (x := x1) C.1 (tgt := 92) dX10_count_1 (by rw [hc8]; decide) (by rw [hc8]; decide) (by rw [hc8]; rfl) (by decide) ?_
                    refine ww_aload_n C.1 dX10_count_92 0 rfl rfl ?_
                    refine wt_getI C.1 dX10_count_93 flRX10_111 tm57 rfl ?_
                    refine ww_iret C.1 dX10_count_96 rfl ?_
                    exact h
                  · replace h := h.2 hc8
                    refine ww_tableOut (x := x1) C.1 (tgt := 97) dX10_count_1 (by have e0 := lv_neT hc0 (a := 0) (by decide); have e1 := lv_neT hc1 (a := 1) (by decide); have e2 := lv_neT hc2 (a := 2) (by decide); have e3 := lv_neT hc3 (a := 3) (by decide); have e4 := lv_neT hc4 (a := 4) (by decide); have e5 := lv_neT hc5 (a := 5) (by decide); have e6 := lv_neT hc6 (a := 6) (by decide); have e7 := lv_neT hc7 (a := 7) (by decide); have e8 := lv_neT hc8 (a := 8) (by decide); omega) (by decide) ?_
                    refine ww_iconst C.1 (v := (-1 : Int32)) dX10_count_97 (by decide) ?_
                    refine ww_iret C.1 dX10_count_98 rfl ?_
                    exact h
