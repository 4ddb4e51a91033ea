set_option maxHeartbeats 4000000 in
set_option maxRecDepth 20000 in
theorem bX9_fewest_14 {X : CX} {Q : State → Prop} {M : Mem} {G2 : Grf} {T2 : List (Nat × Nat)} {x1 x2 x3 : Int32} (C : Ok0 X mX9_fewest (TTc ++ T2))
    (h : (((M 34 2) < x3 → RetOK X Q (some (.int x2)) ((wr M 34 4 (M 34 2)), (gj G2), TTc ++ T2)) ∧ (¬ (M 34 2) < x3 → ((¬ x2 = (-4 : Int32) → RetOK X Q (some (.int x2)) ((wr M 34 4 (M 34 2)), (gj G2), TTc ++ T2)) ∧ (x2 = (-4 : Int32) → WpV mX3_pass [.ref 4, .ref 33, .int (1000000 : Int32)] (wr M 34 4 x3) (gj G2) (TTc ++ T2) (fun M' => WW X Q 58 [(0, .ref 0), (1, .int x1), (2, .int x2), (3, .int x3)] [] (M', (gj G2), TTc ++ T2))))))) :
    WW X Q 14 [(0, .ref 0), (1, .int x1), (2, .int x2), (3, .int x3)] [] (M, (gj G2), TTc ++ T2) := by
  refine ww_iload_n C.1 dX9_fewest_14 3 rfl rfl ?_
  refine ww_aload_n C.1 dX9_fewest_15 0 rfl rfl ?_
  refine wt_getR C.1 dX9_fewest_16 flRX9_58 (tc0 T2) rfl (gg0_7 G2) ?_
  refine wt_getR C.1 dX9_fewest_19 flRX9_111 (tc33 T2) rfl (gg33_0 G2) ?_
  refine wt_getI C.1 dX9_fewest_22 flRX9_237 (tc34 T2) rfl ?_
  refine ww_icmp_gt (x := x3) (y := (M 34 2)) C.1 (tgt := 84) dX9_fewest_25 (by decide) (fun hh => ?_) (fun hh => ?_)
  · replace h := h.1 hh
    refine ww_aload_n C.1 dX9_fewest_84 0 rfl rfl ?_
    refine wt_getR C.1 dX9_fewest_85 flRX9_58 (tc0 T2) rfl (gg0_7 G2) ?_
    refine wt_getR C.1 dX9_fewest_88 flRX9_111 (tc33 T2) rfl (gg33_0 G2) ?_
    refine ww_aload_n C.1 dX9_fewest_91 0 rfl rfl ?_
    refine wt_getR C.1 dX9_fewest_92 flRX9_58 (tc0 T2) rfl (gg0_7 G2) ?_
    refine wt_getR C.1 dX9_fewest_95 flRX9_111 (tc33 T2) rfl (gg33_0 G2) ?_
    refine wt_getI C.1 dX9_fewest_98 flRX9_237 (tc34 T2) rfl ?_
    refine wt_putI C.1 dX9_fewest_101 flRX9_238 (tc34 T2) rfl ?_
    refine ww_iload_n C.1 dX9_fewest_104 2 rfl rfl ?_
    refine ww_iret C.1 dX9_fewest_105 rfl ?_
    exact h
  · replace h := h.2 hh
    refine ww_iload_n C.1 dX9_fewest_28 2 rfl rfl ?_
    refine ww_bipush C.1 (v := (-4 : Int32)) dX9_fewest_29 (by decide) ?_
    refine ww_icmp_ne (x := x2) (y := (-4 : Int32)) C.1 (tgt := 84) dX9_fewest_31 (by decide) (fun hh => ?_) (fun hh => ?_)
    · replace h := h.1 hh
      refine ww_aload_n C.1 dX9_fewest_84 0 rfl rfl ?_
      refine wt_getR C.1 dX9_fewest_85 flRX9_58 (tc0 T2) rfl (gg0_7 G2) ?_
      refine wt_getR C.1 dX9_fewest_88 flRX9_111 (tc33 T2) rfl (gg33_0 G2) ?_
      refine ww_aload_n C.1 dX9_fewest_91 0 rfl rfl ?_
      refine wt_getR C.1 dX9_fewest_92 flRX9_58 (tc0 T2) rfl (gg0_7 G2) ?_
      refine wt_getR C.1 dX9_fewest_95 flRX9_111 (tc33 T2) rfl (gg33_0 G2) ?_
      refine wt_getI C.1 dX9_fewest_98 flRX9_237 (tc34 T2) rfl ?_
      refine wt_putI C.1 dX9_fewest_101 flRX9_238 (tc34 T2) rfl ?_
      refine ww_iload_n C.1 dX9_fewest_104 2 rfl rfl ?_
      refine ww_iret C.1 dX9_fewest_105 rfl ?_
      exact h
    · replace h := h.2 hh
      refine ww_aload_n C.1 dX9_fewest_34 0 rfl rfl ?_
      refine wt_getR C.1 dX9_fewest_35 flRX9_58 (tc0 T2) rfl (gg0_7 G2) ?_
      refine wt_getR C.1 dX9_fewest_38 flRX9_111 (tc33 T2) rfl (gg33_0 G2) ?_
      refine ww_iload_n C.1 dX9_fewest_41 3 rfl rfl ?_
      refine wt_putI C.1 dX9_fewest_42 flRX9_238 (tc34 T2) rfl ?_
      refine ww_aload_n C.1 dX9_fewest_45 0 rfl rfl ?_
      refine wt_getR C.1 dX9_fewest_46 flRX9_19 (tc0 T2) rfl (gg0_1 G2) ?_
      refine ww_aload_n C.1 dX9_fewest_49 0 rfl rfl ?_
      refine wt_getR C.1 dX9_fewest_50 flRX9_58 (tc0 T2) rfl (gg0_7 G2) ?_
      refine ww_ldc C.1 kcRX9_152 dX9_fewest_53 ?_
      refine ww_vV C fX3_pass (And.intro (by decide) (by decide)) mlRX9_153 dX9_fewest_55 (tc4 T2) (by decide) rfl (As := [.ref 33, .int (1000000 : Int32)]) (rest := []) rfl rfl rfl (Nat.le_of_ble_eq_true rfl) ?_
      exact h
set_option maxHeartbeats 4000000 in
set_option maxRecDepth 20000 in
theorem bX9_fewest_58 {X : CX} {Q : State → Prop} {M : Mem} {G2 : Grf} {T2 : List (Nat × Nat)} {x1 x2 x3 : Int32} (C : Ok0 X mX9_fewest (TTc ++ T2))
    (h : WpI mX3_allLainBy [.ref 4, .ref 37, .int x1] M (gj G2) (TTc ++ T2) (fun r M' => WW X Q 73 [(0, .ref 0), (1, .int x1), (2, .int x2), (3, .int x3)] [.int r] (M', (gj G2), TTc ++ T2))) :
    WW X Q 58 [(0, .ref 0), (1, .int x1), (2, .int x2), (3, .int x3)] [] (M, (gj G2), TTc ++ T2) := by
  refine ww_aload_n C.1 dX9_fewest_58 0 rfl rfl ?_
  refine wt_getR C.1 dX9_fewest_59 flRX9_19 (tc0 T2) rfl (gg0_1 G2) ?_
  refine ww_aload_n C.1 dX9_fewest_62 0 rfl rfl ?_
  refine wt_getR C.1 dX9_fewest_63 flRX9_58 (tc0 T2) rfl (gg0_7 G2) ?_
  refine wt_getR C.1 dX9_fewest_66 flRX9_104 (tc33 T2) rfl (gg33_1 G2) ?_
  refine ww_iload_n C.1 dX9_fewest_69 1 rfl rfl ?_
  refine ww_vI C fX3_allLainBy (And.intro (by decide) (by decide)) mlRX9_241 dX9_fewest_70 (tc4 T2) (by decide) rfl (As := [.ref 37, .int x1]) (rest := []) rfl rfl rfl (Nat.le_of_ble_eq_true rfl) ?_
  exact h
set_option maxHeartbeats 4000000 in
set_option maxRecDepth 20000 in
theorem bX9_fewest_73 {X : CX} {Q : State → Prop} {M : Mem} {G2 : Grf} {T2 : List (Nat × Nat)} {x1 x2 x3 s0 : Int32} (C : Ok0 X mX9_fewest (TTc ++ T2))
    (h : ((s0 = (0 : Int32) → WW X Q 14 [(0, .ref 0), (1, .int x1), (2, .int x2), (3, .int (x3 + (1 : Int32)))] [] (M, (gj G2), TTc ++ T2)) ∧ (¬ s0 = (0 : Int32) → WW X Q 14 [(0, .ref 0), (1, .int x1), (2, .int x3), (3, .int (x3 + (1 : Int32)))] [] (M, (gj G2), TTc ++ T2)))) :
    WW X Q 73 [(0, .ref 0), (1, .int x1), (2, .int x2), (3, .int x3)] [.int s0] (M, (gj G2), TTc ++ T2) := by
  refine ww_if_eq (x := s0) C.1 (tgt := 78) dX9_fewest_73 (by decide) (fun hh => ?_) (fun hh => ?_)
  · replace h := h.1 hh
    refine ww_iinc C.1 (v := (x3 + (1 : Int32))) dX9_fewest_78 3 rfl (by rfl) (by decide) [1, 2, 3, 0] (L' := [(0, .ref 0), (1, .int x1), (2, .int x2), (3, .int (x3 + (1 : Int32)))]) rfl ?_
    refine ww_goto C.1 (tgt := 14) dX9_fewest_81 (by decide) ?_
    exact h
  · replace h := h.2 hh
    refine ww_iload_n C.1 dX9_fewest_76 3 rfl rfl ?_
    refine ww_istore_n C.1 dX9_fewest_77 rfl (by decide) [1, 2, 0, 3] (L' := [(0, .ref 0), (1, .int x1), (2, .int x3), (3, .int x3)]) rfl ?_
    refine ww_iinc C.1 (v := (x3 + (1 : Int32))) dX9_fewest_78 3 rfl (by rfl) (by decide) [1, 2, 3, 0] (L' := [(0, .ref 0), (1, .int x1), (2, .int x3), (3, .int (x3 + (1 : Int32)))]) rfl ?_
    refine ww_goto C.1 (tgt := 14) dX9_fewest_81 (by decide) ?_
    exact h
set_option maxHeartbeats 4000000 in
set_option maxRecDepth 20000 in
theorem bX9_turned_0 {X : CX} {Q : State → Prop} {M : Mem} {G2 : Grf} {T2 : List (Nat × Nat)} (C : Ok0 X mX9_turned (TTc ++ T2))
    (h : WpI mX9_sumBelow [.ref 0, .int (1000000 : Int32)] (wr M 34 5 (1 : Int32)) (gj G2) (TTc ++ T2) (fun r M' => WW X Q 17 [(0, .ref 0)] [.int r] (M', (gj G2), TTc ++ T2))) :
    WW X Q 0 [(0, .ref 0)] [] (M, (gj G2), TTc ++ T2) := by
  refine ww_aload_n C.1 dX9_turned_0 0 rfl rfl ?_
  refine wt_getR C.1 dX9_turned_1 flRX9_58 (tc0 T2) rfl (gg0_7 G2) ?_
  refine wt_getR C.1 dX9_turned_4 flRX9_111 (tc33 T2) rfl (gg33_0 G2) ?_
  refine ww_iconst C.1 (v := (1 : Int32)) dX9_turned_7 (by decide) ?_
  refine wt_putZ C.1 dX9_turned_8 flRX9_245 (tc34 T2) rfl (Or.inr rfl) ?_
  refine ww_aload_n C.1 dX9_turned_11 0 rfl rfl ?_
  refine ww_ldc C.1 kcRX9_152 dX9_turned_12 ?_
  refine ww_vI C fX9_sumBelow (And.intro (by decide) (by decide)) mlRX9_215 dX9_turned_14 (tc0 T2) (by decide) rfl (As := [.int (1000000 : Int32)]) (rest := []) rfl rfl rfl (Nat.le_of_ble_eq_true rfl) ?_
  exact h
set_option maxHeartbeats 4000000 in
set_option maxRecDepth 20000 in
theorem bX9_turned_17 {X : CX} {Q : State → Prop} {M : Mem} {G2 : Grf} {T2 : List (Nat × Nat)} {s0 : Int32} (C : Ok0 X mX9_turned (TTc ++ T2))
    (h : RetOK X Q (some (.int s0)) ((wr M 34 5 (0 : Int32)), (gj G2), TTc ++ T2)) :
    WW X Q 17 [(0, .ref 0)] [.int s0] (M, (gj G2), TTc ++ T2) := by
  refine ww_istore_n C.1 dX9_turned_17 rfl (by decide) [1, 0] (L' := [(0, .ref 0), (1, .int s0)]) rfl ?_
  refine ww_aload_n C.1 dX9_turned_18 0 rfl rfl ?_
  refine wt_getR C.1 dX9_turned_19 flRX9_58 (tc0 T2) rfl (gg0_7 G2) ?_
  refine wt_getR C.1 dX9_turned_22 flRX9_111 (tc33 T2) rfl (gg33_0 G2) ?_
  refine ww_iconst C.1 (v := (0 : Int32)) dX9_turned_25 (by decide) ?_
  refine wt_putZ C.1 dX9_turned_26 flRX9_245 (tc34 T2) rfl (Or.inl rfl) ?_
  refine ww_iload_n C.1 dX9_turned_29 1 rfl rfl ?_
  refine ww_iret C.1 dX9_turned_30 rfl ?_
  exact h
set_option maxHeartbeats 4000000 in
set_option maxRecDepth 20000 in
theorem bX9_left_0 {X : CX} {Q : State → Prop} {M : Mem} {G2 : Grf} {T2 : List (Nat × Nat)} {x1 x2 x3 : Int32} (C : Ok0 X mX9_left (TTc ++ T2))
    (h : ((x1 < (0 : Int32) → RetOK X Q (some (.int (-1 : Int32))) (M, (gj G2), TTc ++ T2)) ∧ (¬ x1 < (0 : Int32) → (((M 34 2) ≤ x1 → RetOK X Q (some (.int (-1 : Int32))) (M, (gj G2), TTc ++ T2)) ∧ (¬ (M 34 2) ≤ x1 → ((x2 < (0 : Int32) → RetOK X Q (some (.int (-1 : Int32))) (M, (gj G2), TTc ++ T2)) ∧ (¬ x2 < (0 : Int32) → (((29 : Int32) < x2 → RetOK X Q (some (.int (-1 : Int32))) (M, (gj G2), TTc ++ T2)) ∧ (¬ (29 : Int32) < x2 → ((x3 < (0 : Int32) → RetOK X Q (some (.int (-1 : Int32))) (M, (gj G2), TTc ++ T2)) ∧ (¬ x3 < (0 : Int32) → (((99 : Int32) < x3 → RetOK X Q (some (.int (-1 : Int32))) (M, (gj G2), TTc ++ T2)) ∧ (¬ (99 : Int32) < x3 → WpI mX6_add [.ref 24, .int x1, .int x2, .int x3] M (gj G2) (TTc ++ T2) (fun r M' => WW X Q 43 [(0, .ref 0), (1, .int x1), (2, .int x2), (3, .int x3)] [.int r] (M', (gj G2), TTc ++ T2))))))))))))))) :
    WW X Q 0 [(0, .ref 0), (1, .int x1), (2, .int x2), (3, .int x3)] [] (M, (gj G2), TTc ++ T2) := by
  refine ww_aload_n C.1 dX9_left_0 0 rfl rfl ?_
  refine wt_getR C.1 dX9_left_1 flRX9_58 (tc0 T2) rfl (gg0_7 G2) ?_
  refine wt_getR C.1 dX9_left_4 flRX9_111 (tc33 T2) rfl (gg33_0 G2) ?_
  refine ww_iload_n C.1 dX9_left_7 1 rfl rfl ?_
  refine ww_vI C fX0_has (And.intro (by decide) (by decide)) mlRX9_115 dX9_left_8 (tc34 T2) (by decide) rfl (As := [.int x1]) (rest := []) rfl rfl rfl (Nat.le_of_ble_eq_true rfl) (WpI.of (L0 := [(0, .ref 34), (1, .int x1)]) rfl rfl (Nat.le_of_ble_eq_true rfl) fun X1 Q1 C1 k1 => ?_)
  refine ww_iload_n C1.1 dX0_has_0 1 rfl rfl ?_
  refine ww_if_lt (x := x1) C1.1 (tgt := 16) dX0_has_1 (by decide) (fun hh => ?_) (fun hh => ?_)
  · replace h := h.1 hh
    refine ww_iconst C1.1 (v := (0 : Int32)) dX0_has_16 (by decide) ?_
    refine ww_zret C1.1 dX0_has_17 rfl (Or.inl rfl) ?_
    refine k1 _ _ ?_
    refine ww_if_eq (x := (0 : Int32)) C.1 (tgt := 31) dX9_left_11 (by decide) (fun _ => ?_) (fun hh => absurd hh (by decide))
    refine ww_iconst C.1 (v := (-1 : Int32)) dX9_left_31 (by decide) ?_
    refine ww_iret C.1 dX9_left_32 rfl ?_
    exact h
  · replace h := h.2 hh
    refine ww_iload_n C1.1 dX0_has_4 1 rfl rfl ?_
    refine ww_aload_n C1.1 dX0_has_5 0 rfl rfl ?_
    refine wt_getI C1.1 dX0_has_6 flRX0_22 (tc34 T2) rfl ?_
    refine ww_icmp_ge (x := x1) (y := (M 34 2)) C1.1 (tgt := 16) dX0_has_9 (by decide) (fun hh => ?_) (fun hh => ?_)
    · replace h := h.1 hh
      refine ww_iconst C1.1 (v := (0 : Int32)) dX0_has_16 (by decide) ?_
      refine ww_zret C1.1 dX0_has_17 rfl (Or.inl rfl) ?_
      refine k1 _ _ ?_
      refine ww_if_eq (x := (0 : Int32)) C.1 (tgt := 31) dX9_left_11 (by decide) (fun _ => ?_) (fun hh => absurd hh (by decide))
      refine ww_iconst C.1 (v := (-1 : Int32)) dX9_left_31 (by decide) ?_
      refine ww_iret C.1 dX9_left_32 rfl ?_
      exact h
    · replace h := h.2 hh
      refine ww_iconst C1.1 (v := (1 : Int32)) dX0_has_12 (by decide) ?_
      refine ww_goto C1.1 (tgt := 17) dX0_has_13 (by decide) ?_
      refine ww_zret C1.1 dX0_has_17 rfl (Or.inr rfl) ?_
      refine k1 _ _ ?_
      refine ww_if_eq (x := (1 : Int32)) C.1 (tgt := 31) dX9_left_11 (by decide) (fun hh => absurd hh (by decide)) (fun _ => ?_)
      refine ww_iload_n C.1 dX9_left_14 2 rfl rfl ?_
      refine ww_sI C fX9_isNight (And.intro (by decide) (by decide)) mlRX9_121 dX9_left_15 (As := [.int x2]) (rest := []) rfl rfl rfl (Nat.le_of_ble_eq_true rfl) (WpI.of (L0 := [(0, .int x2)]) rfl rfl (Nat.le_of_ble_eq_true rfl) fun X2 Q2 C2 k2 => ?_)
      refine ww_iload_n C2.1 dX9_isNight_0 0 rfl rfl ?_
      refine ww_iconst C2.1 (v := (0 : Int32)) dX9_isNight_1 (by decide) ?_
      refine ww_bipush C2.1 (v := (29 : Int32)) dX9_isNight_2 (by decide) ?_
      refine ww_sI C2 fX9_isWithin (And.intro (by decide) (by decide)) mlRX9_89 dX9_isNight_4 (As := [.int x2, .int (0 : Int32), .int (29 : Int32)]) (rest := []) rfl rfl rfl (Nat.le_of_ble_eq_true rfl) (WpI.of (L0 := [(0, .int x2), (1, .int (0 : Int32)), (2, .int (29 : Int32))]) rfl rfl (Nat.le_of_ble_eq_true rfl) fun X3 Q3 C3 k3 => ?_)
      refine ww_iload_n C3.1 dX9_isWithin_0 0 rfl rfl ?_
      refine ww_iload_n C3.1 dX9_isWithin_1 1 rfl rfl ?_
      refine ww_icmp_lt (x := x2) (y := (0 : Int32)) C3.1 (tgt := 14) dX9_isWithin_2 (by decide) (fun hh => ?_) (fun hh => ?_)
      · replace h := h.1 hh
        refine ww_iconst C3.1 (v := (0 : Int32)) dX9_isWithin_14 (by decide) ?_
        refine ww_zret C3.1 dX9_isWithin_15 rfl (Or.inl rfl) ?_
        refine k3 _ _ ?_
        refine ww_zret C2.1 dX9_isNight_7 rfl (Or.inl rfl) ?_
        refine k2 _ _ ?_
        refine ww_if_eq (x := (0 : Int32)) C.1 (tgt := 31) dX9_left_18 (by decide) (fun _ => ?_) (fun hh => absurd hh (by decide))
        refine ww_iconst C.1 (v := (-1 : Int32)) dX9_left_31 (by decide) ?_
        refine ww_iret C.1 dX9_left_32 rfl ?_
        exact h
      · replace h := h.2 hh
        refine ww_iload_n C3.1 dX9_isWithin_5 0 rfl rfl ?_
        refine ww_iload_n C3.1 dX9_isWithin_6 2 rfl rfl ?_
        refine ww_icmp_gt (x := x2) (y := (29 : Int32)) C3.1 (tgt := 14) dX9_isWithin_7 (by decide) (fun hh => ?_) (fun hh => ?_)
        · replace h := h.1 hh
          refine ww_iconst C3.1 (v := (0 : Int32)) dX9_isWithin_14 (by decide) ?_
          refine ww_zret C3.1 dX9_isWithin_15 rfl (Or.inl rfl) ?_
          refine k3 _ _ ?_
          refine ww_zret C2.1 dX9_isNight_7 rfl (Or.inl rfl) ?_
          refine k2 _ _ ?_
          refine ww_if_eq (x := (0 : Int32)) C.1 (tgt := 31) dX9_left_18 (by decide) (fun _ => ?_) (fun hh => absurd hh (by decide))
          refine ww_iconst C.1 (v := (-1 : Int32)) dX9_left_31 (by decide) ?_
          refine ww_iret C.1 dX9_left_32 rfl ?_
          exact h
        · replace h := h.2 hh
          refine ww_iconst C3.1 (v := (1 : Int32)) dX9_isWithin_10 (by decide) ?_
          refine ww_goto C3.1 (tgt := 15) dX9_isWithin_11 (by decide) ?_
          refine ww_zret C3.1 dX9_isWithin_15 rfl (Or.inr rfl) ?_
          refine k3 _ _ ?_
          refine ww_zret C2.1 dX9_isNight_7 rfl (Or.inr rfl) ?_
          refine k2 _ _ ?_
          refine ww_if_eq (x := (1 : Int32)) C.1 (tgt := 31) dX9_left_18 (by decide) (fun hh => absurd hh (by decide)) (fun _ => ?_)
          refine ww_iload_n C.1 dX9_left_21 3 rfl rfl ?_
          refine ww_iconst C.1 (v := (0 : Int32)) dX9_left_22 (by decide) ?_
          refine ww_bipush C.1 (v := (99 : Int32)) dX9_left_23 (by decide) ?_
          refine ww_sI C fX9_isWithin (And.intro (by decide) (by decide)) mlRX9_89 dX9_left_25 (As := [.int x3, .int (0 : Int32), .int (99 : Int32)]) (rest := []) rfl rfl rfl (Nat.le_of_ble_eq_true rfl) (WpI.of (L0 := [(0, .int x3), (1, .int (0 : Int32)), (2, .int (99 : Int32))]) rfl rfl (Nat.le_of_ble_eq_true rfl) fun X4 Q4 C4 k4 => ?_)
          refine ww_iload_n C4.1 dX9_isWithin_0 0 rfl rfl ?_
          refine ww_iload_n C4.1 dX9_isWithin_1 1 rfl rfl ?_
          refine ww_icmp_lt (x := x3) (y := (0 : Int32)) C4.1 (tgt := 14) dX9_isWithin_2 (by decide) (fun hh => ?_) (fun hh => ?_)
          · replace h := h.1 hh
            refine ww_iconst C4.1 (v := (0 : Int32)) dX9_isWithin_14 (by decide) ?_
            refine ww_zret C4.1 dX9_isWithin_15 rfl (Or.inl rfl) ?_
            refine k4 _ _ ?_
            refine ww_if_ne (x := (0 : Int32)) C.1 (tgt := 33) dX9_left_28 (by decide) (fun hh => absurd hh (by decide)) (fun _ => ?_)
            refine ww_iconst C.1 (v := (-1 : Int32)) dX9_left_31 (by decide) ?_
            refine ww_iret C.1 dX9_left_32 rfl ?_
            exact h
          · replace h := h.2 hh
            refine ww_iload_n C4.1 dX9_isWithin_5 0 rfl rfl ?_
            refine ww_iload_n C4.1 dX9_isWithin_6 2 rfl rfl ?_
            refine ww_icmp_gt (x := x3) (y := (99 : Int32)) C4.1 (tgt := 14) dX9_isWithin_7 (by decide) (fun hh => ?_) (fun hh => ?_)
            · replace h := h.1 hh
              refine ww_iconst C4.1 (v := (0 : Int32)) dX9_isWithin_14 (by decide) ?_
              refine ww_zret C4.1 dX9_isWithin_15 rfl (Or.inl rfl) ?_
              refine k4 _ _ ?_
              refine ww_if_ne (x := (0 : Int32)) C.1 (tgt := 33) dX9_left_28 (by decide) (fun hh => absurd hh (by decide)) (fun _ => ?_)
              refine ww_iconst C.1 (v := (-1 : Int32)) dX9_left_31 (by decide) ?_
              refine ww_iret C.1 dX9_left_32 rfl ?_
              exact h
            · replace h := h.2 hh
              refine ww_iconst C4.1 (v := (1 : Int32)) dX9_isWithin_10 (by decide) ?_
              refine ww_goto C4.1 (tgt := 15) dX9_isWithin_11 (by decide) ?_
              refine ww_zret C4.1 dX9_isWithin_15 rfl (Or.inr rfl) ?_
              refine k4 _ _ ?_
              refine ww_if_ne (x := (1 : Int32)) C.1 (tgt := 33) dX9_left_28 (by decide) (fun _ => ?_) (fun hh => absurd hh (by decide))
              refine ww_aload_n C.1 dX9_left_33 0 rfl rfl ?_
              refine wt_getR C.1 dX9_left_34 flRX9_40 (tc0 T2) rfl (gg0_4 G2) ?_
              refine ww_iload_n C.1 dX9_left_37 1 rfl rfl ?_
              refine ww_iload_n C.1 dX9_left_38 2 rfl rfl ?_
              refine ww_iload_n C.1 dX9_left_39 3 rfl rfl ?_
              refine ww_vI C fX6_add (And.intro (by decide) (by decide)) mlRX9_248 dX9_left_40 (tc24 T2) (by decide) rfl (As := [.int x1, .int x2, .int x3]) (rest := []) rfl rfl rfl (Nat.le_of_ble_eq_true rfl) ?_
              exact h
set_option maxHeartbeats 4000000 in
set_option maxRecDepth 20000 in
theorem bX9_left_43 {X : CX} {Q : State → Prop} {M : Mem} {G2 : Grf} {T2 : List (Nat × Nat)} {x1 x2 x3 s0 : Int32} (C : Ok0 X mX9_left (TTc ++ T2))
    (h : ((s0 = (0 : Int32) → RetOK X Q (some (.int (-3 : Int32))) (M, (gj G2), TTc ++ T2)) ∧ (¬ s0 = (0 : Int32) → RetOK X Q (some (.int (M 24 4))) (M, (gj G2), TTc ++ T2)))) :
    WW X Q 43 [(0, .ref 0), (1, .int x1), (2, .int x2), (3, .int x3)] [.int s0] (M, (gj G2), TTc ++ T2) := by
  refine ww_if_eq (x := s0) C.1 (tgt := 56) dX9_left_43 (by decide) (fun hh => ?_) (fun hh => ?_)
  · replace h := h.1 hh
    refine ww_bipush C.1 (v := (-3 : Int32)) dX9_left_56 (by decide) ?_
    refine ww_iret C.1 dX9_left_58 rfl ?_
    exact h
  · replace h := h.2 hh
    refine ww_aload_n C.1 dX9_left_46 0 rfl rfl ?_
    refine wt_getR C.1 dX9_left_47 flRX9_40 (tc0 T2) rfl (gg0_4 G2) ?_
    refine wt_getI C.1 dX9_left_50 flRX9_99 (tc24 T2) rfl ?_
    refine ww_goto C.1 (tgt := 58) dX9_left_53 (by decide) ?_
    refine ww_iret C.1 dX9_left_58 rfl ?_
    exact h
set_option maxHeartbeats 4000000 in
set_option maxRecDepth 20000 in
theorem bX9_sweep_0 {X : CX} {Q : State → Prop} {M : Mem} {G2 : Grf} {T2 : List (Nat × Nat)} (C : Ok0 X mX9_sweep (TTc ++ T2))
    (h : RetOK X Q (some (.int (M 24 4))) ((wr M 24 4 (0 : Int32)), (gj G2), TTc ++ T2)) :
    WW X Q 0 [(0, .ref 0)] [] (M, (gj G2), TTc ++ T2) := by
  refine ww_aload_n C.1 dX9_sweep_0 0 rfl rfl ?_
  refine wt_getR C.1 dX9_sweep_1 flRX9_40 (tc0 T2) rfl (gg0_4 G2) ?_
  refine wt_getI C.1 dX9_sweep_4 flRX9_99 (tc24 T2) rfl ?_
  refine ww_istore_n C.1 dX9_sweep_7 rfl (by decide) [1, 0] (L' := [(0, .ref 0), (1, .int (M 24 4))]) rfl ?_
  refine ww_aload_n C.1 dX9_sweep_8 0 rfl rfl ?_
  refine wt_getR C.1 dX9_sweep_9 flRX9_40 (tc0 T2) rfl (gg0_4 G2) ?_
  refine ww_iconst C.1 (v := (0 : Int32)) dX9_sweep_12 (by decide) ?_
  refine wt_putI C.1 dX9_sweep_13 flRX9_99 (tc24 T2) rfl ?_
  refine ww_iload_n C.1 dX9_sweep_16 1 rfl rfl ?_
  refine ww_iret C.1 dX9_sweep_17 rfl ?_
  exact h
set_option maxHeartbeats 4000000 in
set_option maxRecDepth 20000 in
theorem bX9_slept_0 {X : CX} {Q : State → Prop} {M : Mem} {G2 : Grf} {T2 : List (Nat × Nat)} {x1 : Int32} (C : Ok0 X mX9_slept (TTc ++ T2))
    (h : ((x1 < (0 : Int32) → RetOK X Q (some (.int (-1 : Int32))) (M, (gj G2), TTc ++ T2)) ∧ (¬ x1 < (0 : Int32) → (((M 24 4) ≤ x1 → RetOK X Q (some (.int (-1 : Int32))) (M, (gj G2), TTc ++ T2)) ∧ (¬ (M 24 4) ≤ x1 → WpI mX6_sleepersOf [.ref 24, .ref 33, .int x1] M (gj G2) (TTc ++ T2) (fun r M' => WW X Q 23 [(0, .ref 0), (1, .int x1)] [.int r] (M', (gj G2), TTc ++ T2))))))) :
    WW X Q 0 [(0, .ref 0), (1, .int x1)] [] (M, (gj G2), TTc ++ T2) := by
  refine ww_aload_n C.1 dX9_slept_0 0 rfl rfl ?_
  refine wt_getR C.1 dX9_slept_1 flRX9_40 (tc0 T2) rfl (gg0_4 G2) ?_
  refine ww_iload_n C.1 dX9_slept_4 1 rfl rfl ?_
  refine ww_vI C fX6_has (And.intro (by decide) (by decide)) mlRX9_251 dX9_slept_5 (tc24 T2) (by decide) rfl (As := [.int x1]) (rest := []) rfl rfl rfl (Nat.le_of_ble_eq_true rfl) (WpI.of (L0 := [(0, .ref 24), (1, .int x1)]) rfl rfl (Nat.le_of_ble_eq_true rfl) fun X1 Q1 C1 k1 => ?_)
  refine ww_iload_n C1.1 dX6_has_0 1 rfl rfl ?_
  refine ww_if_lt (x := x1) C1.1 (tgt := 16) dX6_has_1 (by decide) (fun hh => ?_) (fun hh => ?_)
  · replace h := h.1 hh
    refine ww_iconst C1.1 (v := (0 : Int32)) dX6_has_16 (by decide) ?_
    refine ww_zret C1.1 dX6_has_17 rfl (Or.inl rfl) ?_
    refine k1 _ _ ?_
    refine ww_if_eq (x := (0 : Int32)) C.1 (tgt := 26) dX9_slept_8 (by decide) (fun _ => ?_) (fun hh => absurd hh (by decide))
    refine ww_iconst C.1 (v := (-1 : Int32)) dX9_slept_26 (by decide) ?_
    refine ww_iret C.1 dX9_slept_27 rfl ?_
    exact h
  · replace h := h.2 hh
    refine ww_iload_n C1.1 dX6_has_4 1 rfl rfl ?_
    refine ww_aload_n C1.1 dX6_has_5 0 rfl rfl ?_
    refine wt_getI C1.1 dX6_has_6 flRX6_24 (tc24 T2) rfl ?_
    refine ww_icmp_ge (x := x1) (y := (M 24 4)) C1.1 (tgt := 16) dX6_has_9 (by decide) (fun hh => ?_) (fun hh => ?_)
    · replace h := h.1 hh
      refine ww_iconst C1.1 (v := (0 : Int32)) dX6_has_16 (by decide) ?_
      refine ww_zret C1.1 dX6_has_17 rfl (Or.inl rfl) ?_
      refine k1 _ _ ?_
      refine ww_if_eq (x := (0 : Int32)) C.1 (tgt := 26) dX9_slept_8 (by decide) (fun _ => ?_) (fun hh => absurd hh (by decide))
      refine ww_iconst C.1 (v := (-1 : Int32)) dX9_slept_26 (by decide) ?_
      refine ww_iret C.1 dX9_slept_27 rfl ?_
      exact h
    · replace h := h.2 hh
      refine ww_iconst C1.1 (v := (1 : Int32)) dX6_has_12 (by decide) ?_
      refine ww_goto C1.1 (tgt := 17) dX6_has_13 (by decide) ?_
      refine ww_zret C1.1 dX6_has_17 rfl (Or.inr rfl) ?_
      refine k1 _ _ ?_
      refine ww_if_eq (x := (1 : Int32)) C.1 (tgt := 26) dX9_slept_8 (by decide) (fun hh => absurd hh (by decide)) (fun _ => ?_)
      refine ww_aload_n C.1 dX9_slept_11 0 rfl rfl ?_
      refine wt_getR C.1 dX9_slept_12 flRX9_40 (tc0 T2) rfl (gg0_4 G2) ?_
      refine ww_aload_n C.1 dX9_slept_15 0 rfl rfl ?_
      refine wt_getR C.1 dX9_slept_16 flRX9_58 (tc0 T2) rfl (gg0_7 G2) ?_
      refine ww_iload_n C.1 dX9_slept_19 1 rfl rfl ?_
      refine ww_vI C fX6_sleepersOf (And.intro (by decide) (by decide)) mlRX9_252 dX9_slept_20 (tc24 T2) (by decide) rfl (As := [.ref 33, .int x1]) (rest := []) rfl rfl rfl (Nat.le_of_ble_eq_true rfl) ?_
      exact h
set_option maxHeartbeats 4000000 in
set_option maxRecDepth 20000 in
theorem bX9_slept_23 {X : CX} {Q : State → Prop} {M : Mem} {G2 : Grf} {T2 : List (Nat × Nat)} {x1 s0 : Int32} (C : Ok0 X mX9_slept (TTc ++ T2))
    (h : RetOK X Q (some (.int s0)) (M, (gj G2), TTc ++ T2)) :
    WW X Q 23 [(0, .ref 0), (1, .int x1)] [.int s0] (M, (gj G2), TTc ++ T2) := by
  refine ww_goto C.1 (tgt := 27) dX9_slept_23 (by decide) ?_
  refine ww_iret C.1 dX9_slept_27 rfl ?_
  exact h
set_option maxHeartbeats 4000000 in
set_option maxRecDepth 20000 in
theorem bX9_sure_0 {X : CX} {Q : State → Prop} {M : Mem} {G2 : Grf} {T2 : List (Nat × Nat)} {x1 : Int32} (C : Ok0 X mX9_sure (TTc ++ T2))
    (h : ((¬ x1 = (-1 : Int32) → ((x1 < (0 : Int32) → RetOK X Q (some (.int (-1 : Int32))) (M, (gj G2), TTc ++ T2)) ∧ (¬ x1 < (0 : Int32) → (((M 24 4) ≤ x1 → RetOK X Q (some (.int (-1 : Int32))) (M, (gj G2), TTc ++ T2)) ∧ (¬ (M 24 4) ≤ x1 → WpI mX6_onlySleeperOf [.ref 24, .ref 33, .int x1] M (gj G2) (TTc ++ T2) (fun r M' => WW X Q 43 [(0, .ref 0), (1, .int x1)] [.int r] (M', (gj G2), TTc ++ T2))))))) ∧ (x1 = (-1 : Int32) → WpI mX6_ways [.ref 24, .ref 33, .int (-4 : Int32), .int (0 : Int32)] M (gj G2) (TTc ++ T2) (fun r M' => WW X Q 19 [(0, .ref 0), (1, .int x1)] [.int r] (M', (gj G2), TTc ++ T2))))) :
    WW X Q 0 [(0, .ref 0), (1, .int x1)] [] (M, (gj G2), TTc ++ T2) := by
  refine ww_iload_n C.1 dX9_sure_0 1 rfl rfl ?_
  refine ww_iconst C.1 (v := (-1 : Int32)) dX9_sure_1 (by decide) ?_
  refine ww_icmp_ne (x := x1) (y := (-1 : Int32)) C.1 (tgt := 20) dX9_sure_2 (by decide) (fun hh => ?_) (fun hh => ?_)
  · replace h := h.1 hh
    refine ww_aload_n C.1 dX9_sure_20 0 rfl rfl ?_
    refine wt_getR C.1 dX9_sure_21 flRX9_40 (tc0 T2) rfl (gg0_4 G2) ?_
    refine ww_iload_n C.1 dX9_sure_24 1 rfl rfl ?_
    refine ww_vI C fX6_has (And.intro (by decide) (by decide)) mlRX9_251 dX9_sure_25 (tc24 T2) (by decide) rfl (As := [.int x1]) (rest := []) rfl rfl rfl (Nat.le_of_ble_eq_true rfl) (WpI.of (L0 := [(0, .ref 24), (1, .int x1)]) rfl rfl (Nat.le_of_ble_eq_true rfl) fun X1 Q1 C1 k1 => ?_)
    refine ww_iload_n C1.1 dX6_has_0 1 rfl rfl ?_
    refine ww_if_lt (x := x1) C1.1 (tgt := 16) dX6_has_1 (by decide) (fun hh => ?_) (fun hh => ?_)
    · replace h := h.1 hh
      refine ww_iconst C1.1 (v := (0 : Int32)) dX6_has_16 (by decide) ?_
      refine ww_zret C1.1 dX6_has_17 rfl (Or.inl rfl) ?_
      refine k1 _ _ ?_
      refine ww_if_eq (x := (0 : Int32)) C.1 (tgt := 46) dX9_sure_28 (by decide) (fun _ => ?_) (fun hh => absurd hh (by decide))
      refine ww_iconst C.1 (v := (-1 : Int32)) dX9_sure_46 (by decide) ?_
      refine ww_iret C.1 dX9_sure_47 rfl ?_
      exact h
    · replace h := h.2 hh
      refine ww_iload_n C1.1 dX6_has_4 1 rfl rfl ?_
      refine ww_aload_n C1.1 dX6_has_5 0 rfl rfl ?_
      refine wt_getI C1.1 dX6_has_6 flRX6_24 (tc24 T2) rfl ?_
      refine ww_icmp_ge (x := x1) (y := (M 24 4)) C1.1 (tgt := 16) dX6_has_9 (by decide) (fun hh => ?_) (fun hh => ?_)
      · replace h := h.1 hh
        refine ww_iconst C1.1 (v := (0 : Int32)) dX6_has_16 (by decide) ?_
        refine ww_zret C1.1 dX6_has_17 rfl (Or.inl rfl) ?_
        refine k1 _ _ ?_
        refine ww_if_eq (x := (0 : Int32)) C.1 (tgt := 46) dX9_sure_28 (by decide) (fun _ => ?_) (fun hh => absurd hh (by decide))
        refine ww_iconst C.1 (v := (-1 : Int32)) dX9_sure_46 (by decide) ?_
        refine ww_iret C.1 dX9_sure_47 rfl ?_
        exact h
      · replace h := h.2 hh
        refine ww_iconst C1.1 (v := (1 : Int32)) dX6_has_12 (by decide) ?_
        refine ww_goto C1.1 (tgt := 17) dX6_has_13 (by decide) ?_
        refine ww_zret C1.1 dX6_has_17 rfl (Or.inr rfl) ?_
        refine k1 _ _ ?_
        refine ww_if_eq (x := (1 : Int32)) C.1 (tgt := 46) dX9_sure_28 (by decide) (fun hh => absurd hh (by decide)) (fun _ => ?_)
        refine ww_aload_n C.1 dX9_sure_31 0 rfl rfl ?_
        refine wt_getR C.1 dX9_sure_32 flRX9_40 (tc0 T2) rfl (gg0_4 G2) ?_
        refine ww_aload_n C.1 dX9_sure_35 0 rfl rfl ?_
        refine wt_getR C.1 dX9_sure_36 flRX9_58 (tc0 T2) rfl (gg0_7 G2) ?_
        refine ww_iload_n C.1 dX9_sure_39 1 rfl rfl ?_
        refine ww_vI C fX6_onlySleeperOf (And.intro (by decide) (by decide)) mlRX9_260 dX9_sure_40 (tc24 T2) (by decide) rfl (As := [.ref 33, .int x1]) (rest := []) rfl rfl rfl (Nat.le_of_ble_eq_true rfl) ?_
        exact h
  · replace h := h.2 hh
    refine ww_aload_n C.1 dX9_sure_5 0 rfl rfl ?_
    refine wt_getR C.1 dX9_sure_6 flRX9_40 (tc0 T2) rfl (gg0_4 G2) ?_
    refine ww_aload_n C.1 dX9_sure_9 0 rfl rfl ?_
    refine wt_getR C.1 dX9_sure_10 flRX9_58 (tc0 T2) rfl (gg0_7 G2) ?_
    refine ww_bipush C.1 (v := (-4 : Int32)) dX9_sure_13 (by decide) ?_
    refine ww_iconst C.1 (v := (0 : Int32)) dX9_sure_15 (by decide) ?_
    refine ww_vI C fX6_ways (And.intro (by decide) (by decide)) mlRX9_256 dX9_sure_16 (tc24 T2) (by decide) rfl (As := [.ref 33, .int (-4 : Int32), .int (0 : Int32)]) (rest := []) rfl rfl rfl (Nat.le_of_ble_eq_true rfl) ?_
    exact h
set_option maxHeartbeats 4000000 in
set_option maxRecDepth 20000 in
theorem bX9_sure_43 {X : CX} {Q : State → Prop} {M : Mem} {G2 : Grf} {T2 : List (Nat × Nat)} {x1 s0 : Int32} (C : Ok0 X mX9_sure (TTc ++ T2))
    (h : RetOK X Q (some (.int s0)) (M, (gj G2), TTc ++ T2)) :
    WW X Q 43 [(0, .ref 0), (1, .int x1)] [.int s0] (M, (gj G2), TTc ++ T2) := by
  refine ww_goto C.1 (tgt := 47) dX9_sure_43 (by decide) ?_
  refine ww_iret C.1 dX9_sure_47 rfl ?_
  exact h
set_option maxHeartbeats 4000000 in
set_option maxRecDepth 20000 in
theorem bX9_sure_19 {X : CX} {Q : State → Prop} {M : Mem} {G2 : Grf} {T2 : List (Nat × Nat)} {x1 s0 : Int32} (C : Ok0 X mX9_sure (TTc ++ T2))
    (h : RetOK X Q (some (.int s0)) (M, (gj G2), TTc ++ T2)) :
    WW X Q 19 [(0, .ref 0), (1, .int x1)] [.int s0] (M, (gj G2), TTc ++ T2) := by
  refine ww_iret C.1 dX9_sure_19 rfl ?_
  exact h
set_option maxHeartbeats 4000000 in
set_option maxRecDepth 20000 in
theorem bX9_found_0 {X : CX} {Q : State → Prop} {M : Mem} {G2 : Grf} {T2 : List (Nat × Nat)} {x1 x2 : Int32} (C : Ok0 X mX9_found (TTc ++ T2))
    (h : ((x1 < (0 : Int32) → RetOK X Q (some (.int (-1 : Int32))) (M, (gj G2), TTc ++ T2)) ∧ (¬ x1 < (0 : Int32) → (((M 37 6) ≤ x1 → RetOK X Q (some (.int (-1 : Int32))) (M, (gj G2), TTc ++ T2)) ∧ (¬ (M 37 6) ≤ x1 → ((x2 < (0 : Int32) → RetOK X Q (some (.int (-1 : Int32))) (M, (gj G2), TTc ++ T2)) ∧ (¬ x2 < (0 : Int32) → (((10 : Int32) < x2 → RetOK X Q (some (.int (-1 : Int32))) (M, (gj G2), TTc ++ T2)) ∧ (¬ (10 : Int32) < x2 → WpV mX3_pass [.ref 4, .ref 33, .int (1000000 : Int32)] M (gj G2) (TTc ++ T2) (fun M' => WW X Q 39 [(0, .ref 0), (1, .int x1), (2, .int x2)] [] (M', (gj G2), TTc ++ T2))))))))))) :
    WW X Q 0 [(0, .ref 0), (1, .int x1), (2, .int x2)] [] (M, (gj G2), TTc ++ T2) := by
  refine ww_aload_n C.1 dX9_found_0 0 rfl rfl ?_
  refine wt_getR C.1 dX9_found_1 flRX9_58 (tc0 T2) rfl (gg0_7 G2) ?_
  refine wt_getR C.1 dX9_found_4 flRX9_104 (tc33 T2) rfl (gg33_1 G2) ?_
  refine ww_iload_n C.1 dX9_found_7 1 rfl rfl ?_
  refine ww_vI C fX5_has (And.intro (by decide) (by decide)) mlRX9_128 dX9_found_8 (tc37 T2) (by decide) rfl (As := [.int x1]) (rest := []) rfl rfl rfl (Nat.le_of_ble_eq_true rfl) (WpI.of (L0 := [(0, .ref 37), (1, .int x1)]) rfl rfl (Nat.le_of_ble_eq_true rfl) fun X1 Q1 C1 k1 => ?_)
  refine ww_iload_n C1.1 dX5_has_0 1 rfl rfl ?_
  refine ww_if_lt (x := x1) C1.1 (tgt := 16) dX5_has_1 (by decide) (fun hh => ?_) (fun hh => ?_)
  · replace h := h.1 hh
    refine ww_iconst C1.1 (v := (0 : Int32)) dX5_has_16 (by decide) ?_
    refine ww_zret C1.1 dX5_has_17 rfl (Or.inl rfl) ?_
    refine k1 _ _ ?_
    refine ww_if_eq (x := (0 : Int32)) C.1 (tgt := 24) dX9_found_11 (by decide) (fun _ => ?_) (fun hh => absurd hh (by decide))
    refine ww_iconst C.1 (v := (-1 : Int32)) dX9_found_24 (by decide) ?_
    refine ww_iret C.1 dX9_found_25 rfl ?_
    exact h
  · replace h := h.2 hh
    refine ww_iload_n C1.1 dX5_has_4 1 rfl rfl ?_
    refine ww_aload_n C1.1 dX5_has_5 0 rfl rfl ?_
    refine wt_getI C1.1 dX5_has_6 flRX5_30 (tc37 T2) rfl ?_
    refine ww_icmp_ge (x := x1) (y := (M 37 6)) C1.1 (tgt := 16) dX5_has_9 (by decide) (fun hh => ?_) (fun hh => ?_)
    · replace h := h.1 hh
      refine ww_iconst C1.1 (v := (0 : Int32)) dX5_has_16 (by decide) ?_
      refine ww_zret C1.1 dX5_has_17 rfl (Or.inl rfl) ?_
      refine k1 _ _ ?_
      refine ww_if_eq (x := (0 : Int32)) C.1 (tgt := 24) dX9_found_11 (by decide) (fun _ => ?_) (fun hh => absurd hh (by decide))
      refine ww_iconst C.1 (v := (-1 : Int32)) dX9_found_24 (by decide) ?_
      refine ww_iret C.1 dX9_found_25 rfl ?_
      exact h
    · replace h := h.2 hh
      refine ww_iconst C1.1 (v := (1 : Int32)) dX5_has_12 (by decide) ?_
      refine ww_goto C1.1 (tgt := 17) dX5_has_13 (by decide) ?_
      refine ww_zret C1.1 dX5_has_17 rfl (Or.inr rfl) ?_
      refine k1 _ _ ?_
      refine ww_if_eq (x := (1 : Int32)) C.1 (tgt := 24) dX9_found_11 (by decide) (fun hh => absurd hh (by decide)) (fun _ => ?_)
      refine ww_iload_n C.1 dX9_found_14 2 rfl rfl ?_
      refine ww_iconst C.1 (v := (0 : Int32)) dX9_found_15 (by decide) ?_
      refine ww_bipush C.1 (v := (10 : Int32)) dX9_found_16 (by decide) ?_
      refine ww_sI C fX9_isWithin (And.intro (by decide) (by decide)) mlRX9_89 dX9_found_18 (As := [.int x2, .int (0 : Int32), .int (10 : Int32)]) (rest := []) rfl rfl rfl (Nat.le_of_ble_eq_true rfl) (WpI.of (L0 := [(0, .int x2), (1, .int (0 : Int32)), (2, .int (10 : Int32))]) rfl rfl (Nat.le_of_ble_eq_true rfl) fun X2 Q2 C2 k2 => ?_)
      refine ww_iload_n C2.1 dX9_isWithin_0 0 rfl rfl ?_
      refine ww_iload_n C2.1 dX9_isWithin_1 1 rfl rfl ?_
      refine ww_icmp_lt (x := x2) (y := (0 : Int32)) C2.1 (tgt := 14) dX9_isWithin_2 (by decide) (fun hh => ?_) (fun hh => ?_)
      · replace h := h.1 hh
        refine ww_iconst C2.1 (v := (0 : Int32)) dX9_isWithin_14 (by decide) ?_
        refine ww_zret C2.1 dX9_isWithin_15 rfl (Or.inl rfl) ?_
        refine k2 _ _ ?_
        refine ww_if_ne (x := (0 : Int32)) C.1 (tgt := 26) dX9_found_21 (by decide) (fun hh => absurd hh (by decide)) (fun _ => ?_)
        refine ww_iconst C.1 (v := (-1 : Int32)) dX9_found_24 (by decide) ?_
        refine ww_iret C.1 dX9_found_25 rfl ?_
        exact h
      · replace h := h.2 hh
        refine ww_iload_n C2.1 dX9_isWithin_5 0 rfl rfl ?_
        refine ww_iload_n C2.1 dX9_isWithin_6 2 rfl rfl ?_
        refine ww_icmp_gt (x := x2) (y := (10 : Int32)) C2.1 (tgt := 14) dX9_isWithin_7 (by decide) (fun hh => ?_) (fun hh => ?_)
        · replace h := h.1 hh
          refine ww_iconst C2.1 (v := (0 : Int32)) dX9_isWithin_14 (by decide) ?_
          refine ww_zret C2.1 dX9_isWithin_15 rfl (Or.inl rfl) ?_
          refine k2 _ _ ?_
          refine ww_if_ne (x := (0 : Int32)) C.1 (tgt := 26) dX9_found_21 (by decide) (fun hh => absurd hh (by decide)) (fun _ => ?_)
          refine ww_iconst C.1 (v := (-1 : Int32)) dX9_found_24 (by decide) ?_
          refine ww_iret C.1 dX9_found_25 rfl ?_
          exact h
        · replace h := h.2 hh
          refine ww_iconst C2.1 (v := (1 : Int32)) dX9_isWithin_10 (by decide) ?_
          refine ww_goto C2.1 (tgt := 15) dX9_isWithin_11 (by decide) ?_
          refine ww_zret C2.1 dX9_isWithin_15 rfl (Or.inr rfl) ?_
          refine k2 _ _ ?_
          refine ww_if_ne (x := (1 : Int32)) C.1 (tgt := 26) dX9_found_21 (by decide) (fun _ => ?_) (fun hh => absurd hh (by decide))
          refine ww_aload_n C.1 dX9_found_26 0 rfl rfl ?_
          refine wt_getR C.1 dX9_found_27 flRX9_19 (tc0 T2) rfl (gg0_1 G2) ?_
          refine ww_aload_n C.1 dX9_found_30 0 rfl rfl ?_
          refine wt_getR C.1 dX9_found_31 flRX9_58 (tc0 T2) rfl (gg0_7 G2) ?_
          refine ww_ldc C.1 kcRX9_152 dX9_found_34 ?_
          refine ww_vV C fX3_pass (And.intro (by decide) (by decide)) mlRX9_153 dX9_found_36 (tc4 T2) (by decide) rfl (As := [.ref 33, .int (1000000 : Int32)]) (rest := []) rfl rfl rfl (Nat.le_of_ble_eq_true rfl) ?_
          exact h
set_option maxHeartbeats 4000000 in
set_option maxRecDepth 20000 in
theorem bX9_found_114 {X : CX} {Q : State → Prop} {M : Mem} {G2 : Grf} {T2 : List (Nat × Nat)} {x1 x2 x3 x4 x5 x6 : Int32} (C : Ok0 X mX9_found (TTc ++ T2))
    (h : ((x3 < x6 → RetOK X Q (some (.int x5)) (M, (gj G2), TTc ++ T2)) ∧ (¬ x3 < x6 → WW X Q 114 [(0, .ref 0), (1, .int x1), (2, .int x2), (3, .int x3), (4, .int x4), (5, .int ((x5 * x4) / (1000 : Int32))), (6, .int (x6 + (1 : Int32)))] [] (M, (gj G2), TTc ++ T2)))) :
    WW X Q 114 [(0, .ref 0), (1, .int x1), (2, .int x2), (3, .int x3), (4, .int x4), (5, .int x5), (6, .int x6)] [] (M, (gj G2), TTc ++ T2) := by
  refine ww_iload C.1 dX9_found_114 6 rfl ?_
  refine ww_iload_n C.1 dX9_found_116 3 rfl rfl ?_
  refine ww_icmp_gt (x := x6) (y := x3) C.1 (tgt := 137) dX9_found_117 (by decide) (fun hh => ?_) (fun hh => ?_)
  · replace h := h.1 hh
    refine ww_iload C.1 dX9_found_137 5 rfl ?_
    refine ww_iret C.1 dX9_found_139 rfl ?_
    exact h
  · replace h := h.2 hh
    refine ww_iload C.1 dX9_found_120 5 rfl ?_
    refine ww_iload C.1 dX9_found_122 4 rfl ?_
    refine ww_imul C.1 dX9_found_124 ?_
    refine ww_sipush C.1 (v := (1000 : Int32)) dX9_found_125 (by decide) ?_
    refine ww_idiv C.1 dX9_found_128 (by decide) ?_
    refine ww_istore C.1 dX9_found_129 (by decide) [1, 2, 3, 4, 5, 0, 6] (L' := [(0, .ref 0), (1, .int x1), (2, .int x2), (3, .int x3), (4, .int x4), (5, .int ((x5 * x4) / (1000 : Int32))), (6, .int x6)]) rfl ?_
    refine ww_iinc C.1 (v := (x6 + (1 : Int32))) dX9_found_131 6 rfl (by rfl) (by decide) [1, 2, 3, 4, 5, 6, 0] (L' := [(0, .ref 0), (1, .int x1), (2, .int x2), (3, .int x3), (4, .int x4), (5, .int ((x5 * x4) / (1000 : Int32))), (6, .int (x6 + (1 : Int32)))]) rfl ?_
    refine ww_goto C.1 (tgt := 114) dX9_found_134 (by decide) ?_
    exact h
set_option maxHeartbeats 4000000 in
set_option maxRecDepth 20000 in
theorem bX9_found_39 {X : CX} {Q : State → Prop} {M : Mem} {G2 : Grf} {T2 : List (Nat × Nat)} {x1 x2 : Int32} (C : Ok0 X mX9_found (TTc ++ T2))
    (h : ((¬ (((M 4 5) >>> (x1 &&& 31)) &&& (1 : Int32)) = (1 : Int32) → (vp_in x1 7 ∧ WpI mJ9_abs_0f7a4 [.int (M 42 x1.toNatClampNeg)] M (gj G2) (TTc ++ T2) (fun r M' => WW X Q 88 [(0, .ref 0), (1, .int x1), (2, .int x2), (3, .int (29 : Int32))] [.int r, .int ((10 : Int32) * x2), .int (1000 : Int32), .int (0 : Int32)] (M', (gj G2), TTc ++ T2)))) ∧ ((((M 4 5) >>> (x1 &&& 31)) &&& (1 : Int32)) = (1 : Int32) → (vp_in x1 7 ∧ (vp_in x1 7 ∧ WpI mJ9_abs_0f7a4 [.int (M 42 x1.toNatClampNeg)] M (gj G2) (TTc ++ T2) (fun r M' => WW X Q 88 [(0, .ref 0), (1, .int x1), (2, .int x2), (3, .int (M 5 x1.toNatClampNeg))] [.int r, .int ((10 : Int32) * x2), .int (1000 : Int32), .int (0 : Int32)] (M', (gj G2), TTc ++ T2))))))) :
    WW X Q 39 [(0, .ref 0), (1, .int x1), (2, .int x2)] [] (M, (gj G2), TTc ++ T2) := by
  refine ww_aload_n C.1 dX9_found_39 0 rfl rfl ?_
  refine wt_getR C.1 dX9_found_40 flRX9_19 (tc0 T2) rfl (gg0_1 G2) ?_
  refine ww_iload_n C.1 dX9_found_43 1 rfl rfl ?_
  refine ww_vI C fX3_hasLain (And.intro (by decide) (by decide)) mlRX9_157 dX9_found_44 (tc4 T2) (by decide) rfl (As := [.int x1]) (rest := []) rfl rfl rfl (Nat.le_of_ble_eq_true rfl) (WpI.of (L0 := [(0, .ref 4), (1, .int x1)]) rfl rfl (Nat.le_of_ble_eq_true rfl) fun X1 Q1 C1 k1 => ?_)
  refine ww_aload_n C1.1 dX3_hasLain_0 0 rfl rfl ?_
  refine wt_getI C1.1 dX3_hasLain_1 flRX3_27 (tc4 T2) rfl ?_
  refine ww_iload_n C1.1 dX3_hasLain_4 1 rfl rfl ?_
  refine ww_nI C1 fX9_isIn (And.intro (by decide) (by decide)) nlRX3_92 dX3_hasLain_5 (As := [.int (M 4 5), .int x1]) (rest := []) rfl rfl rfl (Nat.le_of_ble_eq_true rfl) (WpI.of (L0 := [(0, .int (M 4 5)), (1, .int x1)]) rfl rfl (Nat.le_of_ble_eq_true rfl) fun X2 Q2 C2 k2 => ?_)
  refine ww_iload_n C2.1 dX9_isIn_0 0 rfl rfl ?_
  refine ww_iload_n C2.1 dX9_isIn_1 1 rfl rfl ?_
  refine ww_ishr C2.1 dX9_isIn_2 ?_
  refine ww_iconst C2.1 (v := (1 : Int32)) dX9_isIn_3 (by decide) ?_
  refine ww_iand C2.1 dX9_isIn_4 ?_
  refine ww_iconst C2.1 (v := (1 : Int32)) dX9_isIn_5 (by decide) ?_
  refine ww_icmp_ne (x := (((M 4 5) >>> (x1 &&& 31)) &&& (1 : Int32))) (y := (1 : Int32)) C2.1 (tgt := 13) dX9_isIn_6 (by decide) (fun hh => ?_) (fun hh => ?_)
  · replace h := h.1 hh
    refine ww_iconst C2.1 (v := (0 : Int32)) dX9_isIn_13 (by decide) ?_
    refine ww_zret C2.1 dX9_isIn_14 rfl (Or.inl rfl) ?_
    refine k2 _ _ ?_
    refine ww_zret C1.1 dX3_hasLain_8 rfl (Or.inl rfl) ?_
    refine k1 _ _ ?_
    refine ww_if_eq (x := (0 : Int32)) C.1 (tgt := 62) dX9_found_47 (by decide) (fun _ => ?_) (fun hh => absurd hh (by decide))
    refine ww_bipush C.1 (v := (29 : Int32)) dX9_found_62 (by decide) ?_
    refine ww_istore_n C.1 dX9_found_64 rfl (by decide) [1, 2, 3, 0] (L' := [(0, .ref 0), (1, .int x1), (2, .int x2), (3, .int (29 : Int32))]) rfl ?_
    refine ww_iconst C.1 (v := (0 : Int32)) dX9_found_65 (by decide) ?_
    refine ww_sipush C.1 (v := (1000 : Int32)) dX9_found_66 (by decide) ?_
    refine ww_bipush C.1 (v := (10 : Int32)) dX9_found_69 (by decide) ?_
    refine ww_iload_n C.1 dX9_found_71 2 rfl rfl ?_
    refine ww_imul C.1 dX9_found_72 ?_
    refine ww_aload_n C.1 dX9_found_73 0 rfl rfl ?_
    refine wt_getR C.1 dX9_found_74 flRX9_58 (tc0 T2) rfl (gg0_7 G2) ?_
    refine wt_getR C.1 dX9_found_77 flRX9_104 (tc33 T2) rfl (gg33_1 G2) ?_
    refine wt_getR C.1 dX9_found_80 flRX9_138 (tc37 T2) rfl (gg37_4 G2) ?_
    refine ww_iload_n C.1 dX9_found_83 1 rfl rfl ?_
    refine wt_iald C.1 dX9_found_84 (tc42 T2) h.1 ?_
    replace h := h.2
    refine ww_sI C fJ9_abs_0f7a4 (And.intro (by decide) (by decide)) mlRX9_263 dX9_found_85 (As := [.int (M 42 x1.toNatClampNeg)]) (rest := [.int ((10 : Int32) * x2), .int (1000 : Int32), .int (0 : Int32)]) rfl rfl rfl (Nat.le_of_ble_eq_true rfl) ?_
    exact h
  · replace h := h.2 hh
    refine ww_iconst C2.1 (v := (1 : Int32)) dX9_isIn_9 (by decide) ?_
    refine ww_goto C2.1 (tgt := 14) dX9_isIn_10 (by decide) ?_
    refine ww_zret C2.1 dX9_isIn_14 rfl (Or.inr rfl) ?_
    refine k2 _ _ ?_
    refine ww_zret C1.1 dX3_hasLain_8 rfl (Or.inr rfl) ?_
    refine k1 _ _ ?_
    refine ww_if_eq (x := (1 : Int32)) C.1 (tgt := 62) dX9_found_47 (by decide) (fun hh => absurd hh (by decide)) (fun _ => ?_)
    refine ww_aload_n C.1 dX9_found_50 0 rfl rfl ?_
    refine wt_getR C.1 dX9_found_51 flRX9_19 (tc0 T2) rfl (gg0_1 G2) ?_
    refine wt_getR C.1 dX9_found_54 flRX9_160 (tc4 T2) rfl (gg4_0 G2) ?_
    refine ww_iload_n C.1 dX9_found_57 1 rfl rfl ?_
    refine wt_iald C.1 dX9_found_58 (tc5 T2) h.1 ?_
    replace h := h.2
    refine ww_goto C.1 (tgt := 64) dX9_found_59 (by decide) ?_
    refine ww_istore_n C.1 dX9_found_64 rfl (by decide) [1, 2, 3, 0] (L' := [(0, .ref 0), (1, .int x1), (2, .int x2), (3, .int (M 5 x1.toNatClampNeg))]) rfl ?_
    refine ww_iconst C.1 (v := (0 : Int32)) dX9_found_65 (by decide) ?_
    refine ww_sipush C.1 (v := (1000 : Int32)) dX9_found_66 (by decide) ?_
    refine ww_bipush C.1 (v := (10 : Int32)) dX9_found_69 (by decide) ?_
    refine ww_iload_n C.1 dX9_found_71 2 rfl rfl ?_
    refine ww_imul C.1 dX9_found_72 ?_
    refine ww_aload_n C.1 dX9_found_73 0 rfl rfl ?_
    refine wt_getR C.1 dX9_found_74 flRX9_58 (tc0 T2) rfl (gg0_7 G2) ?_
    refine wt_getR C.1 dX9_found_77 flRX9_104 (tc33 T2) rfl (gg33_1 G2) ?_
    refine wt_getR C.1 dX9_found_80 flRX9_138 (tc37 T2) rfl (gg37_4 G2) ?_
    refine ww_iload_n C.1 dX9_found_83 1 rfl rfl ?_
    refine wt_iald C.1 dX9_found_84 (tc42 T2) h.1 ?_
    replace h := h.2
    refine ww_sI C fJ9_abs_0f7a4 (And.intro (by decide) (by decide)) mlRX9_263 dX9_found_85 (As := [.int (M 42 x1.toNatClampNeg)]) (rest := [.int ((10 : Int32) * x2), .int (1000 : Int32), .int (0 : Int32)]) rfl rfl rfl (Nat.le_of_ble_eq_true rfl) ?_
    exact h
set_option maxHeartbeats 4000000 in
set_option maxRecDepth 20000 in
theorem bX9_found_88 {X : CX} {Q : State → Prop} {M : Mem} {G2 : Grf} {T2 : List (Nat × Nat)} {x1 x2 x3 s0 s1 s2 s3 : Int32} (C : Ok0 X mX9_found (TTc ++ T2))
    (h : WpI mJ9_max_7cf53 [.int s0, .int (s1 - (s2 * s3))] M (gj G2) (TTc ++ T2) (fun r M' => WW X Q 93 [(0, .ref 0), (1, .int x1), (2, .int x2), (3, .int x3)] [.int r] (M', (gj G2), TTc ++ T2))) :
    WW X Q 88 [(0, .ref 0), (1, .int x1), (2, .int x2), (3, .int x3)] [.int s3, .int s2, .int s1, .int s0] (M, (gj G2), TTc ++ T2) := by
  refine ww_imul C.1 dX9_found_88 ?_
  refine ww_isub C.1 dX9_found_89 ?_
  refine ww_sI C fJ9_max_7cf53 (And.intro (by decide) (by decide)) mlRX9_268 dX9_found_90 (As := [.int s0, .int (s1 - (s2 * s3))]) (rest := []) rfl rfl rfl (Nat.le_of_ble_eq_true rfl) ?_
  exact h
set_option maxHeartbeats 4000000 in
set_option maxRecDepth 20000 in
theorem bX9_found_93 {X : CX} {Q : State → Prop} {M : Mem} {G2 : Grf} {T2 : List (Nat × Nat)} {x1 x2 x3 s0 : Int32} (C : Ok0 X mX9_found (TTc ++ T2))
    (h : (vp_in x1 7 ∧ WW X Q 114 [(0, .ref 0), (1, .int x1), (2, .int x2), (3, .int x3), (4, .int s0), (5, .int (1000 : Int32)), (6, .int (M 39 x1.toNatClampNeg))] [] (M, (gj G2), TTc ++ T2))) :
    WW X Q 93 [(0, .ref 0), (1, .int x1), (2, .int x2), (3, .int x3)] [.int s0] (M, (gj G2), TTc ++ T2) := by
  refine ww_istore C.1 dX9_found_93 (by decide) [1, 2, 3, 4, 0] (L' := [(0, .ref 0), (1, .int x1), (2, .int x2), (3, .int x3), (4, .int s0)]) rfl ?_
  refine ww_sipush C.1 (v := (1000 : Int32)) dX9_found_95 (by decide) ?_
  refine ww_istore C.1 dX9_found_98 (by decide) [1, 2, 3, 4, 5, 0] (L' := [(0, .ref 0), (1, .int x1), (2, .int x2), (3, .int x3), (4, .int s0), (5, .int (1000 : Int32))]) rfl ?_
  refine ww_aload_n C.1 dX9_found_100 0 rfl rfl ?_
  refine wt_getR C.1 dX9_found_101 flRX9_58 (tc0 T2) rfl (gg0_7 G2) ?_
  refine wt_getR C.1 dX9_found_104 flRX9_104 (tc33 T2) rfl (gg33_1 G2) ?_
  refine wt_getR C.1 dX9_found_107 flRX9_132 (tc37 T2) rfl (gg37_1 G2) ?_
  refine ww_iload_n C.1 dX9_found_110 1 rfl rfl ?_
  refine wt_iald C.1 dX9_found_111 (tc39 T2) h.1 ?_
  replace h := h.2
  refine ww_istore C.1 dX9_found_112 (by decide) [1, 2, 3, 4, 5, 6, 0] (L' := [(0, .ref 0), (1, .int x1), (2, .int x2), (3, .int x3), (4, .int s0), (5, .int (1000 : Int32)), (6, .int (M 39 x1.toNatClampNeg))]) rfl ?_
  exact h
set_option maxHeartbeats 4000000 in
set_option maxRecDepth 20000 in
theorem bX9_year_0 {X : CX} {Q : State → Prop} {M : Mem} {G2 : Grf} {T2 : List (Nat × Nat)} {x1 x2 : Int32} (C : Ok0 X mX9_year (TTc ++ T2))
    (h : ((x1 < (0 : Int32) → RetOK X Q (some (.int (-1 : Int32))) (M, (gj G2), TTc ++ T2)) ∧ (¬ x1 < (0 : Int32) → (((9999 : Int32) < x1 → RetOK X Q (some (.int (-1 : Int32))) (M, (gj G2), TTc ++ T2)) ∧ (¬ (9999 : Int32) < x1 → ((x2 < (0 : Int32) → RetOK X Q (some (.int (-1 : Int32))) (M, (gj G2), TTc ++ T2)) ∧ (¬ x2 < (0 : Int32) → (((1 : Int32) < x2 → RetOK X Q (some (.int (-1 : Int32))) (M, (gj G2), TTc ++ T2)) ∧ (¬ (1 : Int32) < x2 → WpV mX3_pass [.ref 4, .ref 33, .int (1000000 : Int32)] (wr M 34 6 x1) (gj G2) (TTc ++ T2) (fun M' => WW X Q 46 [(0, .ref 0), (1, .int x1), (2, .int x2)] [] (M', (gj G2), TTc ++ T2))))))))))) :
    WW X Q 0 [(0, .ref 0), (1, .int x1), (2, .int x2)] [] (M, (gj G2), TTc ++ T2) := by
  refine ww_iload_n C.1 dX9_year_0 1 rfl rfl ?_
  refine ww_iconst C.1 (v := (0 : Int32)) dX9_year_1 (by decide) ?_
  refine ww_sipush C.1 (v := (9999 : Int32)) dX9_year_2 (by decide) ?_
  refine ww_sI C fX9_isWithin (And.intro (by decide) (by decide)) mlRX9_89 dX9_year_5 (As := [.int x1, .int (0 : Int32), .int (9999 : Int32)]) (rest := []) rfl rfl rfl (Nat.le_of_ble_eq_true rfl) (WpI.of (L0 := [(0, .int x1), (1, .int (0 : Int32)), (2, .int (9999 : Int32))]) rfl rfl (Nat.le_of_ble_eq_true rfl) fun X1 Q1 C1 k1 => ?_)
  refine ww_iload_n C1.1 dX9_isWithin_0 0 rfl rfl ?_
  refine ww_iload_n C1.1 dX9_isWithin_1 1 rfl rfl ?_
  refine ww_icmp_lt (x := x1) (y := (0 : Int32)) C1.1 (tgt := 14) dX9_isWithin_2 (by decide) (fun hh => ?_) (fun hh => ?_)
  · replace h := h.1 hh
    refine ww_iconst C1.1 (v := (0 : Int32)) dX9_isWithin_14 (by decide) ?_
    refine ww_zret C1.1 dX9_isWithin_15 rfl (Or.inl rfl) ?_
    refine k1 _ _ ?_
    refine ww_if_eq (x := (0 : Int32)) C.1 (tgt := 20) dX9_year_8 (by decide) (fun _ => ?_) (fun hh => absurd hh (by decide))
    refine ww_iconst C.1 (v := (-1 : Int32)) dX9_year_20 (by decide) ?_
    refine ww_iret C.1 dX9_year_21 rfl ?_
    exact h
  · replace h := h.2 hh
    refine ww_iload_n C1.1 dX9_isWithin_5 0 rfl rfl ?_
    refine ww_iload_n C1.1 dX9_isWithin_6 2 rfl rfl ?_
    refine ww_icmp_gt (x := x1) (y := (9999 : Int32)) C1.1 (tgt := 14) dX9_isWithin_7 (by decide) (fun hh => ?_) (fun hh => ?_)
    · replace h := h.1 hh
      refine ww_iconst C1.1 (v := (0 : Int32)) dX9_isWithin_14 (by decide) ?_
      refine ww_zret C1.1 dX9_isWithin_15 rfl (Or.inl rfl) ?_
      refine k1 _ _ ?_
      refine ww_if_eq (x := (0 : Int32)) C.1 (tgt := 20) dX9_year_8 (by decide) (fun _ => ?_) (fun hh => absurd hh (by decide))
      refine ww_iconst C.1 (v := (-1 : Int32)) dX9_year_20 (by decide) ?_
      refine ww_iret C.1 dX9_year_21 rfl ?_
      exact h
    · replace h := h.2 hh
      refine ww_iconst C1.1 (v := (1 : Int32)) dX9_isWithin_10 (by decide) ?_
      refine ww_goto C1.1 (tgt := 15) dX9_isWithin_11 (by decide) ?_
      refine ww_zret C1.1 dX9_isWithin_15 rfl (Or.inr rfl) ?_
      refine k1 _ _ ?_
      refine ww_if_eq (x := (1 : Int32)) C.1 (tgt := 20) dX9_year_8 (by decide) (fun hh => absurd hh (by decide)) (fun _ => ?_)
      refine ww_iload_n C.1 dX9_year_11 2 rfl rfl ?_
      refine ww_iconst C.1 (v := (0 : Int32)) dX9_year_12 (by decide) ?_
      refine ww_iconst C.1 (v := (1 : Int32)) dX9_year_13 (by decide) ?_
      refine ww_sI C fX9_isWithin (And.intro (by decide) (by decide)) mlRX9_89 dX9_year_14 (As := [.int x2, .int (0 : Int32), .int (1 : Int32)]) (rest := []) rfl rfl rfl (Nat.le_of_ble_eq_true rfl) (WpI.of (L0 := [(0, .int x2), (1, .int (0 : Int32)), (2, .int (1 : Int32))]) rfl rfl (Nat.le_of_ble_eq_true rfl) fun X2 Q2 C2 k2 => ?_)
      refine ww_iload_n C2.1 dX9_isWithin_0 0 rfl rfl ?_
      refine ww_iload_n C2.1 dX9_isWithin_1 1 rfl rfl ?_
      refine ww_icmp_lt (x := x2) (y := (0 : Int32)) C2.1 (tgt := 14) dX9_isWithin_2 (by decide) (fun hh => ?_) (fun hh => ?_)
      · replace h := h.1 hh
        refine ww_iconst C2.1 (v := (0 : Int32)) dX9_isWithin_14 (by decide) ?_
        refine ww_zret C2.1 dX9_isWithin_15 rfl (Or.inl rfl) ?_
        refine k2 _ _ ?_
        refine ww_if_ne (x := (0 : Int32)) C.1 (tgt := 22) dX9_year_17 (by decide) (fun hh => absurd hh (by decide)) (fun _ => ?_)
        refine ww_iconst C.1 (v := (-1 : Int32)) dX9_year_20 (by decide) ?_
        refine ww_iret C.1 dX9_year_21 rfl ?_
        exact h
      · replace h := h.2 hh
        refine ww_iload_n C2.1 dX9_isWithin_5 0 rfl rfl ?_
        refine ww_iload_n C2.1 dX9_isWithin_6 2 rfl rfl ?_
        refine ww_icmp_gt (x := x2) (y := (1 : Int32)) C2.1 (tgt := 14) dX9_isWithin_7 (by decide) (fun hh => ?_) (fun hh => ?_)
        · replace h := h.1 hh
          refine ww_iconst C2.1 (v := (0 : Int32)) dX9_isWithin_14 (by decide) ?_
          refine ww_zret C2.1 dX9_isWithin_15 rfl (Or.inl rfl) ?_
          refine k2 _ _ ?_
          refine ww_if_ne (x := (0 : Int32)) C.1 (tgt := 22) dX9_year_17 (by decide) (fun hh => absurd hh (by decide)) (fun _ => ?_)
          refine ww_iconst C.1 (v := (-1 : Int32)) dX9_year_20 (by decide) ?_
          refine ww_iret C.1 dX9_year_21 rfl ?_
          exact h
        · replace h := h.2 hh
          refine ww_iconst C2.1 (v := (1 : Int32)) dX9_isWithin_10 (by decide) ?_
          refine ww_goto C2.1 (tgt := 15) dX9_isWithin_11 (by decide) ?_
          refine ww_zret C2.1 dX9_isWithin_15 rfl (Or.inr rfl) ?_
          refine k2 _ _ ?_
          refine ww_if_ne (x := (1 : Int32)) C.1 (tgt := 22) dX9_year_17 (by decide) (fun _ => ?_) (fun hh => absurd hh (by decide))
          refine ww_aload_n C.1 dX9_year_22 0 rfl rfl ?_
          refine wt_getR C.1 dX9_year_23 flRX9_58 (tc0 T2) rfl (gg0_7 G2) ?_
          refine wt_getR C.1 dX9_year_26 flRX9_111 (tc33 T2) rfl (gg33_0 G2) ?_
          refine ww_iload_n C.1 dX9_year_29 1 rfl rfl ?_
          refine wt_putI C.1 dX9_year_30 flRX9_271 (tc34 T2) rfl ?_
          refine ww_aload_n C.1 dX9_year_33 0 rfl rfl ?_
          refine wt_getR C.1 dX9_year_34 flRX9_19 (tc0 T2) rfl (gg0_1 G2) ?_
          refine ww_aload_n C.1 dX9_year_37 0 rfl rfl ?_
          refine wt_getR C.1 dX9_year_38 flRX9_58 (tc0 T2) rfl (gg0_7 G2) ?_
          refine ww_ldc C.1 kcRX9_152 dX9_year_41 ?_
          refine ww_vV C fX3_pass (And.intro (by decide) (by decide)) mlRX9_153 dX9_year_43 (tc4 T2) (by decide) rfl (As := [.ref 33, .int (1000000 : Int32)]) (rest := []) rfl rfl rfl (Nat.le_of_ble_eq_true rfl) ?_
          exact h
set_option maxHeartbeats 4000000 in
set_option maxRecDepth 20000 in
theorem bX9_year_46 {X : CX} {Q : State → Prop} {M : Mem} {G2 : Grf} {T2 : List (Nat × Nat)} {x1 x2 : Int32} (C : Ok0 X mX9_year (TTc ++ T2))
    (h : ((¬ x2 = (0 : Int32) → WpI mX3_unharmed [.ref 4, .ref 37] (wr M 34 6 (-1 : Int32)) (gj G2) (TTc ++ T2) (fun r M' => WW X Q 92 [(0, .ref 0), (1, .int x1), (2, .int x2)] [.int r] (M', (gj G2), TTc ++ T2))) ∧ (x2 = (0 : Int32) → WpI mX3_total [.ref 4, .ref 37] (wr M 34 6 (-1 : Int32)) (gj G2) (TTc ++ T2) (fun r M' => WW X Q 75 [(0, .ref 0), (1, .int x1), (2, .int x2)] [.int r] (M', (gj G2), TTc ++ T2))))) :
    WW X Q 46 [(0, .ref 0), (1, .int x1), (2, .int x2)] [] (M, (gj G2), TTc ++ T2) := by
  refine ww_aload_n C.1 dX9_year_46 0 rfl rfl ?_
  refine wt_getR C.1 dX9_year_47 flRX9_58 (tc0 T2) rfl (gg0_7 G2) ?_
  refine wt_getR C.1 dX9_year_50 flRX9_111 (tc33 T2) rfl (gg33_0 G2) ?_
  refine ww_iconst C.1 (v := (-1 : Int32)) dX9_year_53 (by decide) ?_
  refine wt_putI C.1 dX9_year_54 flRX9_271 (tc34 T2) rfl ?_
  refine ww_iload_n C.1 dX9_year_57 2 rfl rfl ?_
  refine ww_if_ne (x := x2) C.1 (tgt := 78) dX9_year_58 (by decide) (fun hh => ?_) (fun hh => ?_)
  · replace h := h.1 hh
    refine ww_aload_n C.1 dX9_year_78 0 rfl rfl ?_
    refine wt_getR C.1 dX9_year_79 flRX9_19 (tc0 T2) rfl (gg0_1 G2) ?_
    refine ww_aload_n C.1 dX9_year_82 0 rfl rfl ?_
    refine wt_getR C.1 dX9_year_83 flRX9_58 (tc0 T2) rfl (gg0_7 G2) ?_
    refine wt_getR C.1 dX9_year_86 flRX9_104 (tc33 T2) rfl (gg33_1 G2) ?_
    refine ww_vI C fX3_unharmed (And.intro (by decide) (by decide)) mlRX9_187 dX9_year_89 (tc4 T2) (by decide) rfl (As := [.ref 37]) (rest := []) rfl rfl rfl (Nat.le_of_ble_eq_true rfl) ?_
    exact h
  · replace h := h.2 hh
    refine ww_aload_n C.1 dX9_year_61 0 rfl rfl ?_
    refine wt_getR C.1 dX9_year_62 flRX9_19 (tc0 T2) rfl (gg0_1 G2) ?_
    refine ww_aload_n C.1 dX9_year_65 0 rfl rfl ?_
    refine wt_getR C.1 dX9_year_66 flRX9_58 (tc0 T2) rfl (gg0_7 G2) ?_
    refine wt_getR C.1 dX9_year_69 flRX9_104 (tc33 T2) rfl (gg33_1 G2) ?_
    refine ww_vI C fX3_total (And.intro (by decide) (by decide)) mlRX9_175 dX9_year_72 (tc4 T2) (by decide) rfl (As := [.ref 37]) (rest := []) rfl rfl rfl (Nat.le_of_ble_eq_true rfl) ?_
    exact h
set_option maxHeartbeats 4000000 in
set_option maxRecDepth 20000 in
theorem bX9_year_92 {X : CX} {Q : State → Prop} {M : Mem} {G2 : Grf} {T2 : List (Nat × Nat)} {x1 x2 s0 : Int32} (C : Ok0 X mX9_year (TTc ++ T2))
    (h : RetOK X Q (some (.int s0)) (M, (gj G2), TTc ++ T2)) :
    WW X Q 92 [(0, .ref 0), (1, .int x1), (2, .int x2)] [.int s0] (M, (gj G2), TTc ++ T2) := by
  refine ww_iret C.1 dX9_year_92 rfl ?_
  exact h
set_option maxHeartbeats 4000000 in
set_option maxRecDepth 20000 in
theorem bX9_year_75 {X : CX} {Q : State → Prop} {M : Mem} {G2 : Grf} {T2 : List (Nat × Nat)} {x1 x2 s0 : Int32} (C : Ok0 X mX9_year (TTc ++ T2))
    (h : RetOK X Q (some (.int s0)) (M, (gj G2), TTc ++ T2)) :
    WW X Q 75 [(0, .ref 0), (1, .int x1), (2, .int x2)] [.int s0] (M, (gj G2), TTc ++ T2) := by
  refine ww_goto C.1 (tgt := 92) dX9_year_75 (by decide) ?_
  refine ww_iret C.1 dX9_year_92 rfl ?_
  exact h
set_option maxHeartbeats 4000000 in
set_option maxRecDepth 20000 in
theorem bX9_keep_0 {X : CX} {Q : State → Prop} {M : Mem} {G2 : Grf} {T2 : List (Nat × Nat)} (C : Ok0 X mX9_keep (TTc ++ T2))
    (h : WpI mX8_put [.ref 14, .ref 37] M (gj G2) (TTc ++ T2) (fun r M' => WW X Q 14 [(0, .ref 0)] [.int r] (M', (gj G2), TTc ++ T2))) :
    WW X Q 0 [(0, .ref 0)] [] (M, (gj G2), TTc ++ T2) := by
  refine ww_aload_n C.1 dX9_keep_0 0 rfl rfl ?_
  refine wt_getR C.1 dX9_keep_1 flRX9_33 (tc0 T2) rfl (gg0_3 G2) ?_
  refine ww_aload_n C.1 dX9_keep_4 0 rfl rfl ?_
  refine wt_getR C.1 dX9_keep_5 flRX9_58 (tc0 T2) rfl (gg0_7 G2) ?_
  refine wt_getR C.1 dX9_keep_8 flRX9_104 (tc33 T2) rfl (gg33_1 G2) ?_
  refine ww_vI C fX8_put (And.intro (by decide) (by decide)) mlRX9_274 dX9_keep_11 (tc14 T2) (by decide) rfl (As := [.ref 37]) (rest := []) rfl rfl rfl (Nat.le_of_ble_eq_true rfl) ?_
  exact h
set_option maxHeartbeats 4000000 in
set_option maxRecDepth 20000 in
theorem bX9_keep_14 {X : CX} {Q : State → Prop} {M : Mem} {G2 : Grf} {T2 : List (Nat × Nat)} {s0 : Int32} (C : Ok0 X mX9_keep (TTc ++ T2))
    (h : ((s0 = (0 : Int32) → RetOK X Q (some (.int (-3 : Int32))) (M, (gj G2), TTc ++ T2)) ∧ (¬ s0 = (0 : Int32) → RetOK X Q (some (.int (M 14 3))) (M, (gj G2), TTc ++ T2)))) :
    WW X Q 14 [(0, .ref 0)] [.int s0] (M, (gj G2), TTc ++ T2) := by
  refine ww_if_eq (x := s0) C.1 (tgt := 27) dX9_keep_14 (by decide) (fun hh => ?_) (fun hh => ?_)
  · replace h := h.1 hh
    refine ww_bipush C.1 (v := (-3 : Int32)) dX9_keep_27 (by decide) ?_
    refine ww_iret C.1 dX9_keep_29 rfl ?_
    exact h
  · replace h := h.2 hh
    refine ww_aload_n C.1 dX9_keep_17 0 rfl rfl ?_
    refine wt_getR C.1 dX9_keep_18 flRX9_33 (tc0 T2) rfl (gg0_3 G2) ?_
    refine wt_getI C.1 dX9_keep_21 flRX9_98 (tc14 T2) rfl ?_
    refine ww_goto C.1 (tgt := 29) dX9_keep_24 (by decide) ?_
    refine ww_iret C.1 dX9_keep_29 rfl ?_
    exact h
set_option maxHeartbeats 4000000 in
set_option maxRecDepth 20000 in
theorem bX9_back_0 {X : CX} {Q : State → Prop} {M : Mem} {G2 : Grf} {T2 : List (Nat × Nat)} (C : Ok0 X mX9_back (TTc ++ T2))
    (h : ((¬ (M 14 3) = (0 : Int32) → WpV mX8_takeInto [.ref 14, .ref 37] M (gj G2) (TTc ++ T2) (fun M' => WW X Q 27 [(0, .ref 0)] [] (M', (gj G2), TTc ++ T2))) ∧ ((M 14 3) = (0 : Int32) → RetOK X Q (some (.int (-2 : Int32))) (M, (gj G2), TTc ++ T2)))) :
    WW X Q 0 [(0, .ref 0)] [] (M, (gj G2), TTc ++ T2) := by
  refine ww_aload_n C.1 dX9_back_0 0 rfl rfl ?_
  refine wt_getR C.1 dX9_back_1 flRX9_33 (tc0 T2) rfl (gg0_3 G2) ?_
  refine wt_getI C.1 dX9_back_4 flRX9_98 (tc14 T2) rfl ?_
  refine ww_if_ne (x := (M 14 3)) C.1 (tgt := 13) dX9_back_7 (by decide) (fun hh => ?_) (fun hh => ?_)
  · replace h := h.1 hh
    refine ww_aload_n C.1 dX9_back_13 0 rfl rfl ?_
    refine wt_getR C.1 dX9_back_14 flRX9_33 (tc0 T2) rfl (gg0_3 G2) ?_
    refine ww_aload_n C.1 dX9_back_17 0 rfl rfl ?_
    refine wt_getR C.1 dX9_back_18 flRX9_58 (tc0 T2) rfl (gg0_7 G2) ?_
    refine wt_getR C.1 dX9_back_21 flRX9_104 (tc33 T2) rfl (gg33_1 G2) ?_
    refine ww_vV C fX8_takeInto (And.intro (by decide) (by decide)) mlRX9_277 dX9_back_24 (tc14 T2) (by decide) rfl (As := [.ref 37]) (rest := []) rfl rfl rfl (Nat.le_of_ble_eq_true rfl) ?_
    exact h
  · replace h := h.2 hh
    refine ww_bipush C.1 (v := (-2 : Int32)) dX9_back_10 (by decide) ?_
    refine ww_iret C.1 dX9_back_12 rfl ?_
    exact h
set_option maxHeartbeats 4000000 in
set_option maxRecDepth 20000 in
theorem bX9_back_27 {X : CX} {Q : State → Prop} {M : Mem} {G2 : Grf} {T2 : List (Nat × Nat)} (C : Ok0 X mX9_back (TTc ++ T2))
    (h : RetOK X Q (some (.int (M 14 3))) ((wr (wr M 10 3 (0 : Int32)) 29 3 (0 : Int32)), (gj G2), TTc ++ T2)) :
    WW X Q 27 [(0, .ref 0)] [] (M, (gj G2), TTc ++ T2) := by
  refine ww_aload_n C.1 dX9_back_27 0 rfl rfl ?_
  refine wt_getR C.1 dX9_back_28 flRX9_26 (tc0 T2) rfl (gg0_2 G2) ?_
  refine ww_iconst C.1 (v := (0 : Int32)) dX9_back_31 (by decide) ?_
  refine wt_putI C.1 dX9_back_32 flRX9_97 (tc10 T2) rfl ?_
  refine ww_aload_n C.1 dX9_back_35 0 rfl rfl ?_
  refine wt_getR C.1 dX9_back_36 flRX9_47 (tc0 T2) rfl (gg0_5 G2) ?_
  refine ww_iconst C.1 (v := (0 : Int32)) dX9_back_39 (by decide) ?_
  refine wt_putZ C.1 dX9_back_40 flRX9_100 (tc29 T2) rfl (Or.inl rfl) ?_
  refine ww_aload_n C.1 dX9_back_43 0 rfl rfl ?_
  refine wt_getR C.1 dX9_back_44 flRX9_33 (tc0 T2) rfl (gg0_3 G2) ?_
  refine wt_getI C.1 dX9_back_47 flRX9_98 (tc14 T2) rfl ?_
  refine ww_iret C.1 dX9_back_50 rfl ?_
  exact h
set_option maxHeartbeats 4000000 in
set_option maxRecDepth 20000 in
theorem bX9_count_0 {X : CX} {Q : State → Prop} {M : Mem} {G2 : Grf} {T2 : List (Nat × Nat)} {x1 : Int32} (C : Ok0 X mX9_count (TTc ++ T2))
    (h : ((x1 = (0 : Int32) → RetOK X Q (some (.int (M 34 2))) (M, (gj G2), TTc ++ T2)) ∧ (¬ x1 = (0 : Int32) → ((x1 = (1 : Int32) → RetOK X Q (some (.int (M 37 6))) (M, (gj G2), TTc ++ T2)) ∧ (¬ x1 = (1 : Int32) → ((x1 = (2 : Int32) → RetOK X Q (some (.int (M 34 3))) (M, (gj G2), TTc ++ T2)) ∧ (¬ x1 = (2 : Int32) → ((x1 = (3 : Int32) → RetOK X Q (some (.int (M 33 3))) (M, (gj G2), TTc ++ T2)) ∧ (¬ x1 = (3 : Int32) → ((x1 = (4 : Int32) → RetOK X Q (some (.int (M 33 4))) (M, (gj G2), TTc ++ T2)) ∧ (¬ x1 = (4 : Int32) → ((x1 = (5 : Int32) → RetOK X Q (some (.int (M 24 4))) (M, (gj G2), TTc ++ T2)) ∧ (¬ x1 = (5 : Int32) → ((x1 = (6 : Int32) → RetOK X Q (some (.int (M 10 3))) (M, (gj G2), TTc ++ T2)) ∧ (¬ x1 = (6 : Int32) → ((x1 = (7 : Int32) → RetOK X Q (some (.int (M 14 3))) (M, (gj G2), TTc ++ T2)) ∧ (¬ x1 = (7 : Int32) → ((x1 = (8 : Int32) → RetOK X Q (some (.int (M 1 2))) (M, (gj G2), TTc ++ T2)) ∧ (¬ x1 = (8 : Int32) → RetOK X Q (some (.int (-1 : Int32))) (M, (gj G2), TTc ++ T2)))))))))))))))))))) :
    WW X Q 0 [(0, .ref 0), (1, .int x1)] [] (M, (gj G2), TTc ++ T2) := by
  refine ww_iload_n C.1 dX9_count_0 1 rfl rfl ?_
  by_cases hc0 : x1 = (0 : Int32)
  · replace h := h.1 hc0
    refine ww_tableIn (x := x1) C.1 (tgt := 52) dX9_count_1 (by rw [hc0]; decide) (by rw [hc0]; decide) (by rw [hc0]; rfl) (by decide) ?_
    refine ww_aload_n C.1 dX9_count_52 0 rfl rfl ?_
    refine wt_getR C.1 dX9_count_53 flRX9_58 (tc0 T2) rfl (gg0_7 G2) ?_
    refine wt_getR C.1 dX9_count_56 flRX9_111 (tc33 T2) rfl (gg33_0 G2) ?_
    refine wt_getI C.1 dX9_count_59 flRX9_237 (tc34 T2) rfl ?_
    refine ww_iret C.1 dX9_count_62 rfl ?_
    exact h
  · replace h := h.2 hc0
    by_cases hc1 : x1 = (1 : Int32)
    · replace h := h.1 hc1
      refine ww_tableIn (x := x1) C.1 (tgt := 63) dX9_count_1 (by rw [hc1]; decide) (by rw [hc1]; decide) (by rw [hc1]; rfl) (by decide) ?_
      refine ww_aload_n C.1 dX9_count_63 0 rfl rfl ?_
      refine wt_getR C.1 dX9_count_64 flRX9_58 (tc0 T2) rfl (gg0_7 G2) ?_
      refine wt_getR C.1 dX9_count_67 flRX9_104 (tc33 T2) rfl (gg33_1 G2) ?_
      refine wt_getI C.1 dX9_count_70 flRX9_108 (tc37 T2) rfl ?_
      refine ww_iret C.1 dX9_count_73 rfl ?_
      exact h
    · replace h := h.2 hc1
      by_cases hc2 : x1 = (2 : Int32)
      · replace h := h.1 hc2
        refine ww_tableIn (x := x1) C.1 (tgt := 74) dX9_count_1 (by rw [hc2]; decide) (by rw [hc2]; decide) (by rw [hc2]; rfl) (by decide) ?_
        refine ww_aload_n C.1 dX9_count_74 0 rfl rfl ?_
        refine wt_getR C.1 dX9_count_75 flRX9_58 (tc0 T2) rfl (gg0_7 G2) ?_
        refine wt_getR C.1 dX9_count_78 flRX9_111 (tc33 T2) rfl (gg33_0 G2) ?_
        refine wt_getI C.1 dX9_count_81 flRX9_280 (tc34 T2) rfl ?_
        refine ww_iret C.1 dX9_count_84 rfl ?_
        exact h
      · replace h := h.2 hc2
        by_cases hc3 : x1 = (3 : Int32)
        · replace h := h.1 hc3
          refine ww_tableIn (x := x1) C.1 (tgt := 85) dX9_count_1 (by rw [hc3]; decide) (by rw [hc3]; decide) (by rw [hc3]; rfl) (by decide) ?_
          refine ww_aload_n C.1 dX9_count_85 0 rfl rfl ?_
          refine wt_getR C.1 dX9_count_86 flRX9_58 (tc0 T2) rfl (gg0_7 G2) ?_
          refine wt_getI C.1 dX9_count_89 flRX9_283 (tc33 T2) rfl ?_
          refine ww_iret C.1 dX9_count_92 rfl ?_
          exact h
        · replace h := h.2 hc3
          by_cases hc4 : x1 = (4 : Int32)
          · replace h := h.1 hc4
            refine ww_tableIn (x := x1) C.1 (tgt := 93) dX9_count_1 (by rw [hc4]; decide) (by rw [hc4]; decide) (by rw [hc4]; rfl) (by decide) ?_
            refine ww_aload_n C.1 dX9_count_93 0 rfl rfl ?_
            refine wt_getR C.1 dX9_count_94 flRX9_58 (tc0 T2) rfl (gg0_7 G2) ?_
            refine wt_getI C.1 dX9_count_97 flRX9_221 (tc33 T2) rfl ?_
            refine ww_iret C.1 dX9_count_100 rfl ?_
            exact h
          · replace h := h.2 hc4
            by_cases hc5 : x1 = (5 : Int32)
            · replace h := h.1 hc5
              refine ww_tableIn (x := x1) C.1 (tgt := 101) dX9_count_1 (by rw [hc5]; decide) (by rw [hc5]; decide) (by rw [hc5]; rfl) (by decide) ?_
              refine ww_aload_n C.1 dX9_count_101 0 rfl rfl ?_
              refine wt_getR C.1 dX9_count_102 flRX9_40 (tc0 T2) rfl (gg0_4 G2) ?_
              refine wt_getI C.1 dX9_count_105 flRX9_99 (tc24 T2) rfl ?_
              refine ww_iret C.1 dX9_count_108 rfl ?_
              exact h
            · replace h := h.2 hc5
              by_cases hc6 : x1 = (6 : Int32)
              · replace h := h.1 hc6
                refine ww_tableIn (x := x1) C.1 (tgt := 109) dX9_count_1 (by rw [hc6]; decide) (by rw [hc6]; decide) (by rw [hc6]; rfl) (by decide) ?_
                refine ww_aload_n C.1 dX9_count_109 0 rfl rfl ?_
                refine wt_getR C.1 dX9_count_110 flRX9_26 (tc0 T2) rfl (gg0_2 G2) ?_
                refine wt_getI C.1 dX9_count_113 flRX9_97 (tc10 T2) rfl ?_
                refine ww_iret C.1 dX9_count_116 rfl ?_
                exact h
              · replace h := h.2 hc6
                by_cases hc7 : x1 = (7 : Int32)
                · replace h := h.1 hc7
                  refine ww_tableIn (x := x1) C.1 (tgt := 117) dX9_count_1 (by rw [hc7]; decide) (by rw [hc7]; decide) (by rw [hc7]; rfl) (by decide) ?_
                  refine ww_aload_n C.1 dX9_count_117 0 rfl rfl ?_
                  refine wt_getR C.1 dX9_count_118 flRX9_33 (tc0 T2) rfl (gg0_3 G2) ?_
                  refine wt_getI C.1 dX9_count_121 flRX9_98 (tc14 T2) rfl ?_
                  refine ww_iret C.1 dX9_count_124 rfl ?_
                  exact h
                · replace h := h.2 hc7
                  by_cases hc8 : x1 = (8 : Int32)
                  · replace h := h.1 hc8
                    refine ww_tableIn (x := x1) C.1 (tgt := 125) dX9_count_1 (by rw [hc8]; decide) (by rw [hc8]; decide) (by rw [hc8]; rfl) (by decide) ?_
                    refine ww_aload_n C.1 dX9_count_125 0 rfl rfl ?_
                    refine wt_getR C.1 dX9_count_126 flRX9_10 (tc0 T2) rfl (gg0_0 G2) ?_
                    refine wt_getI C.1 dX9_count_129 flRX9_85 (tc1 T2) rfl ?_
                    refine ww_iret C.1 dX9_count_132 rfl ?_
                    exact h
                  · replace h := h.2 hc8
                    refine ww_tableOut (x := x1) C.1 (tgt := 133) dX9_count_1 (by have e0 := lv_neT hc0 (a := 0) (by decide); have e1 := lv_neT hc1 (a := 1) (by decide); have e2 := lv_neT hc2 (a := 2) (by decide); have e3 := lv_neT hc3 (a := 3) (by decide); have e4 := lv_neT hc4 (a := 4) (by decide); have e5 := lv_neT hc5 (a := 5) (by decide); have e6 := lv_neT hc6 (a := 6) (by decide); have e7 := lv_neT hc7 (a := 7) (by decide); have e8 := lv_neT hc8 (a := 8) (by decide); omega) (by decide) ?_
                    refine ww_iconst C.1 (v := (-1 : Int32)) dX9_count_133 (by decide) ?_
                    refine ww_iret C.1 dX9_count_134 rfl ?_
                    exact h
set_option maxHeartbeats 4000000 in
set_option maxRecDepth 20000 in
theorem bX9_noteChange_0 {X : CX} {Q : State → Prop} {M : Mem} {G2 : Grf} {T2 : List (Nat × Nat)} {x1 x2 x3 : Int32} (C : Ok0 X mX9_noteChange (TTc ++ T2))
    (h : WpV mX1_push [.ref 10, .int x1, .int x2, .int x3] M (gj G2) (TTc ++ T2) (fun M' => WW X Q 10 [(0, .ref 0), (1, .int x1), (2, .int x2), (3, .int x3)] [] (M', (gj G2), TTc ++ T2))) :
    WW X Q 0 [(0, .ref 0), (1, .int x1), (2, .int x2), (3, .int x3)] [] (M, (gj G2), TTc ++ T2) := by
  refine ww_aload_n C.1 dX9_noteChange_0 0 rfl rfl ?_
  refine wt_getR C.1 dX9_noteChange_1 flRX9_26 (tc0 T2) rfl (gg0_2 G2) ?_
  refine ww_iload_n C.1 dX9_noteChange_4 1 rfl rfl ?_
  refine ww_iload_n C.1 dX9_noteChange_5 2 rfl rfl ?_
  refine ww_iload_n C.1 dX9_noteChange_6 3 rfl rfl ?_
  refine ww_vV C fX1_push (And.intro (by decide) (by decide)) mlRX9_286 dX9_noteChange_7 (tc10 T2) (by decide) rfl (As := [.int x1, .int x2, .int x3]) (rest := []) rfl rfl rfl (Nat.le_of_ble_eq_true rfl) ?_
  exact h
set_option maxHeartbeats 4000000 in
set_option maxRecDepth 20000 in
theorem bX9_noteChange_10 {X : CX} {Q : State → Prop} {M : Mem} {G2 : Grf} {T2 : List (Nat × Nat)} {x1 x2 x3 : Int32} (C : Ok0 X mX9_noteChange (TTc ++ T2))
    (h : RetOK X Q (none) ((wr M 29 3 (0 : Int32)), (gj G2), TTc ++ T2)) :
    WW X Q 10 [(0, .ref 0), (1, .int x1), (2, .int x2), (3, .int x3)] [] (M, (gj G2), TTc ++ T2) := by
  refine ww_aload_n C.1 dX9_noteChange_10 0 rfl rfl ?_
  refine wt_getR C.1 dX9_noteChange_11 flRX9_47 (tc0 T2) rfl (gg0_5 G2) ?_
  refine ww_iconst C.1 (v := (0 : Int32)) dX9_noteChange_14 (by decide) ?_
  refine wt_putZ C.1 dX9_noteChange_15 flRX9_100 (tc29 T2) rfl (Or.inl rfl) ?_
  refine ww_vret C.1 dX9_noteChange_18 rfl ?_
  exact h
set_option maxHeartbeats 4000000 in
set_option maxRecDepth 20000 in
theorem bX9_sumBelow_0 {X : CX} {Q : State → Prop} {M : Mem} {G2 : Grf} {T2 : List (Nat × Nat)} {x1 : Int32} (C : Ok0 X mX9_sumBelow (TTc ++ T2))
    (h : WpV mX3_pass [.ref 4, .ref 33, .int x1] M (gj G2) (TTc ++ T2) (fun M' => WW X Q 12 [(0, .ref 0), (1, .int x1)] [] (M', (gj G2), TTc ++ T2))) :
    WW X Q 0 [(0, .ref 0), (1, .int x1)] [] (M, (gj G2), TTc ++ T2) := by
  refine ww_aload_n C.1 dX9_sumBelow_0 0 rfl rfl ?_
  refine wt_getR C.1 dX9_sumBelow_1 flRX9_19 (tc0 T2) rfl (gg0_1 G2) ?_
  refine ww_aload_n C.1 dX9_sumBelow_4 0 rfl rfl ?_
  refine wt_getR C.1 dX9_sumBelow_5 flRX9_58 (tc0 T2) rfl (gg0_7 G2) ?_
  refine ww_iload_n C.1 dX9_sumBelow_8 1 rfl rfl ?_
  refine ww_vV C fX3_pass (And.intro (by decide) (by decide)) mlRX9_153 dX9_sumBelow_9 (tc4 T2) (by decide) rfl (As := [.ref 33, .int x1]) (rest := []) rfl rfl rfl (Nat.le_of_ble_eq_true rfl) ?_
  exact h
set_option maxHeartbeats 4000000 in
set_option maxRecDepth 20000 in
theorem bX9_sumBelow_12 {X : CX} {Q : State → Prop} {M : Mem} {G2 : Grf} {T2 : List (Nat × Nat)} {x1 : Int32} (C : Ok0 X mX9_sumBelow (TTc ++ T2))
    (h : WpI mX3_total [.ref 4, .ref 37] M (gj G2) (TTc ++ T2) (fun r M' => WW X Q 26 [(0, .ref 0), (1, .int x1)] [.int r] (M', (gj G2), TTc ++ T2))) :
    WW X Q 12 [(0, .ref 0), (1, .int x1)] [] (M, (gj G2), TTc ++ T2) := by
  refine ww_aload_n C.1 dX9_sumBelow_12 0 rfl rfl ?_
  refine wt_getR C.1 dX9_sumBelow_13 flRX9_19 (tc0 T2) rfl (gg0_1 G2) ?_
  refine ww_aload_n C.1 dX9_sumBelow_16 0 rfl rfl ?_
  refine wt_getR C.1 dX9_sumBelow_17 flRX9_58 (tc0 T2) rfl (gg0_7 G2) ?_
  refine wt_getR C.1 dX9_sumBelow_20 flRX9_104 (tc33 T2) rfl (gg33_1 G2) ?_
  refine ww_vI C fX3_total (And.intro (by decide) (by decide)) mlRX9_175 dX9_sumBelow_23 (tc4 T2) (by decide) rfl (As := [.ref 37]) (rest := []) rfl rfl rfl (Nat.le_of_ble_eq_true rfl) ?_
  exact h
set_option maxHeartbeats 4000000 in
set_option maxRecDepth 20000 in
theorem bX9_sumBelow_26 {X : CX} {Q : State → Prop} {M : Mem} {G2 : Grf} {T2 : List (Nat × Nat)} {x1 s0 : Int32} (C : Ok0 X mX9_sumBelow (TTc ++ T2))
    (h : RetOK X Q (some (.int s0)) (M, (gj G2), TTc ++ T2)) :
    WW X Q 26 [(0, .ref 0), (1, .int x1)] [.int s0] (M, (gj G2), TTc ++ T2) := by
  refine ww_iret C.1 dX9_sumBelow_26 rfl ?_
  exact h
set_option maxHeartbeats 4000000 in
set_option maxRecDepth 20000 in
theorem bX9_noteHarmsNow_0 {X : CX} {Q : State → Prop} {M : Mem} {G2 : Grf} {T2 : List (Nat × Nat)} (C : Ok0 X mX9_noteHarmsNow (TTc ++ T2))
    (h : WpV mX3_pass [.ref 4, .ref 33, .int (1000000 : Int32)] M (gj G2) (TTc ++ T2) (fun M' => WW X Q 13 [(0, .ref 0)] [] (M', (gj G2), TTc ++ T2))) :
    WW X Q 0 [(0, .ref 0)] [] (M, (gj G2), TTc ++ T2) := by
  refine ww_aload_n C.1 dX9_noteHarmsNow_0 0 rfl rfl ?_
  refine wt_getR C.1 dX9_noteHarmsNow_1 flRX9_19 (tc0 T2) rfl (gg0_1 G2) ?_
  refine ww_aload_n C.1 dX9_noteHarmsNow_4 0 rfl rfl ?_
  refine wt_getR C.1 dX9_noteHarmsNow_5 flRX9_58 (tc0 T2) rfl (gg0_7 G2) ?_
  refine ww_ldc C.1 kcRX9_152 dX9_noteHarmsNow_8 ?_
  refine ww_vV C fX3_pass (And.intro (by decide) (by decide)) mlRX9_153 dX9_noteHarmsNow_10 (tc4 T2) (by decide) rfl (As := [.ref 33, .int (1000000 : Int32)]) (rest := []) rfl rfl rfl (Nat.le_of_ble_eq_true rfl) ?_
  exact h
set_option maxHeartbeats 4000000 in
set_option maxRecDepth 20000 in
theorem bX9_noteHarmsNow_13 {X : CX} {Q : State → Prop} {M : Mem} {G2 : Grf} {T2 : List (Nat × Nat)} (C : Ok0 X mX9_noteHarmsNow (TTc ++ T2))
    (h : RetOK X Q (some (.int (M 4 5))) ((wrA M 32 (va_cpy (M 7) (M 32) 0 0 7)), (gj G2), TTc ++ T2)) :
    WW X Q 13 [(0, .ref 0)] [] (M, (gj G2), TTc ++ T2) := by
  refine ww_aload_n C.1 dX9_noteHarmsNow_13 0 rfl rfl ?_
  refine wt_getR C.1 dX9_noteHarmsNow_14 flRX9_19 (tc0 T2) rfl (gg0_1 G2) ?_
  refine wt_getR C.1 dX9_noteHarmsNow_17 flRX9_166 (tc4 T2) rfl (gg4_2 G2) ?_
  refine ww_iconst C.1 (v := (0 : Int32)) dX9_noteHarmsNow_20 (by decide) ?_
  refine ww_aload_n C.1 dX9_noteHarmsNow_21 0 rfl rfl ?_
  refine wt_getR C.1 dX9_noteHarmsNow_22 flRX9_51 (tc0 T2) rfl (gg0_6 G2) ?_
  refine ww_iconst C.1 (v := (0 : Int32)) dX9_noteHarmsNow_25 (by decide) ?_
  refine ww_bipush C.1 (v := (7 : Int32)) dX9_noteHarmsNow_26 (by decide) ?_
  refine wt_acopy C.1 mlRX9_289 acN acS acI dX9_noteHarmsNow_28 (tc7 T2) (tc32 T2) (by decide) (by decide) (by decide) (by decide) (by decide) (by decide) (Nat.le_of_ble_eq_true rfl) ?_
  refine ww_aload_n C.1 dX9_noteHarmsNow_31 0 rfl rfl ?_
  refine wt_getR C.1 dX9_noteHarmsNow_32 flRX9_19 (tc0 T2) rfl (gg0_1 G2) ?_
  refine wt_getI C.1 dX9_noteHarmsNow_35 flRX9_179 (tc4 T2) rfl ?_
  refine ww_iret C.1 dX9_noteHarmsNow_38 rfl ?_
  exact h
set_option maxHeartbeats 4000000 in
set_option maxRecDepth 20000 in
theorem bX9_wouldSwap_0 {X : CX} {Q : State → Prop} {M : Mem} {G2 : Grf} {T2 : List (Nat × Nat)} {x1 x2 : Int32} (C : Ok0 X mX9_wouldSwap (TTc ++ T2))
    (h : WpV mX5_swapPlaces [.ref 37, .int x1, .int x2] M (gj G2) (TTc ++ T2) (fun M' => WW X Q 12 [(0, .ref 0), (1, .int x1), (2, .int x2)] [] (M', (gj G2), TTc ++ T2))) :
    WW X Q 0 [(0, .ref 0), (1, .int x1), (2, .int x2)] [] (M, (gj G2), TTc ++ T2) := by
  refine ww_aload_n C.1 dX9_wouldSwap_0 0 rfl rfl ?_
  refine wt_getR C.1 dX9_wouldSwap_1 flRX9_58 (tc0 T2) rfl (gg0_7 G2) ?_
  refine wt_getR C.1 dX9_wouldSwap_4 flRX9_104 (tc33 T2) rfl (gg33_1 G2) ?_
  refine ww_iload_n C.1 dX9_wouldSwap_7 1 rfl rfl ?_
  refine ww_iload_n C.1 dX9_wouldSwap_8 2 rfl rfl ?_
  refine ww_vV C fX5_swapPlaces (And.intro (by decide) (by decide)) mlRX9_295 dX9_wouldSwap_9 (tc37 T2) (by decide) rfl (As := [.int x1, .int x2]) (rest := []) rfl rfl rfl (Nat.le_of_ble_eq_true rfl) ?_
  exact h
set_option maxHeartbeats 4000000 in
set_option maxRecDepth 20000 in
theorem bX9_wouldSwap_12 {X : CX} {Q : State → Prop} {M : Mem} {G2 : Grf} {T2 : List (Nat × Nat)} {x1 x2 : Int32} (C : Ok0 X mX9_wouldSwap (TTc ++ T2))
    (h : WpV mX3_pass [.ref 4, .ref 33, .int (1000000 : Int32)] M (gj G2) (TTc ++ T2) (fun M' => WW X Q 25 [(0, .ref 0), (1, .int x1), (2, .int x2)] [] (M', (gj G2), TTc ++ T2))) :
    WW X Q 12 [(0, .ref 0), (1, .int x1), (2, .int x2)] [] (M, (gj G2), TTc ++ T2) := by
  refine ww_aload_n C.1 dX9_wouldSwap_12 0 rfl rfl ?_
  refine wt_getR C.1 dX9_wouldSwap_13 flRX9_19 (tc0 T2) rfl (gg0_1 G2) ?_
  refine ww_aload_n C.1 dX9_wouldSwap_16 0 rfl rfl ?_
  refine wt_getR C.1 dX9_wouldSwap_17 flRX9_58 (tc0 T2) rfl (gg0_7 G2) ?_
  refine ww_ldc C.1 kcRX9_152 dX9_wouldSwap_20 ?_
  refine ww_vV C fX3_pass (And.intro (by decide) (by decide)) mlRX9_153 dX9_wouldSwap_22 (tc4 T2) (by decide) rfl (As := [.ref 33, .int (1000000 : Int32)]) (rest := []) rfl rfl rfl (Nat.le_of_ble_eq_true rfl) ?_
  exact h
set_option maxHeartbeats 4000000 in
set_option maxRecDepth 20000 in
theorem bX9_wouldSwap_25 {X : CX} {Q : State → Prop} {M : Mem} {G2 : Grf} {T2 : List (Nat × Nat)} {x1 x2 : Int32} (C : Ok0 X mX9_wouldSwap (TTc ++ T2))
    (h : WpV mX5_swapPlaces [.ref 37, .int x1, .int x2] M (gj G2) (TTc ++ T2) (fun M' => WW X Q 37 [(0, .ref 0), (1, .int x1), (2, .int x2)] [] (M', (gj G2), TTc ++ T2))) :
    WW X Q 25 [(0, .ref 0), (1, .int x1), (2, .int x2)] [] (M, (gj G2), TTc ++ T2) := by
  refine ww_aload_n C.1 dX9_wouldSwap_25 0 rfl rfl ?_
  refine wt_getR C.1 dX9_wouldSwap_26 flRX9_58 (tc0 T2) rfl (gg0_7 G2) ?_
  refine wt_getR C.1 dX9_wouldSwap_29 flRX9_104 (tc33 T2) rfl (gg33_1 G2) ?_
  refine ww_iload_n C.1 dX9_wouldSwap_32 1 rfl rfl ?_
  refine ww_iload_n C.1 dX9_wouldSwap_33 2 rfl rfl ?_
  refine ww_vV C fX5_swapPlaces (And.intro (by decide) (by decide)) mlRX9_295 dX9_wouldSwap_34 (tc37 T2) (by decide) rfl (As := [.int x1, .int x2]) (rest := []) rfl rfl rfl (Nat.le_of_ble_eq_true rfl) ?_
  exact h
set_option maxHeartbeats 4000000 in
set_option maxRecDepth 20000 in
theorem bX9_wouldSwap_37 {X : CX} {Q : State → Prop} {M : Mem} {G2 : Grf} {T2 : List (Nat × Nat)} {x1 x2 : Int32} (C : Ok0 X mX9_wouldSwap (TTc ++ T2))
    (h : ((¬ (((M 4 5) >>> (x1 &&& 31)) &&& (1 : Int32)) = (1 : Int32) → RetOK X Q (some (.int (0 : Int32))) (M, (gj G2), TTc ++ T2)) ∧ ((((M 4 5) >>> (x1 &&& 31)) &&& (1 : Int32)) = (1 : Int32) → ((¬ (((M 4 5) >>> (x2 &&& 31)) &&& (1 : Int32)) = (1 : Int32) → RetOK X Q (some (.int (0 : Int32))) (M, (gj G2), TTc ++ T2)) ∧ ((((M 4 5) >>> (x2 &&& 31)) &&& (1 : Int32)) = (1 : Int32) → (vp_in x1 7 ∧ (vp_in x1 7 ∧ (((M 32 x1.toNatClampNeg) ≤ (M 7 x1.toNatClampNeg) → RetOK X Q (some (.int (0 : Int32))) (M, (gj G2), TTc ++ T2)) ∧ (¬ (M 32 x1.toNatClampNeg) ≤ (M 7 x1.toNatClampNeg) → (vp_in x2 7 ∧ (vp_in x2 7 ∧ (((M 32 x2.toNatClampNeg) ≤ (M 7 x2.toNatClampNeg) → RetOK X Q (some (.int (0 : Int32))) (M, (gj G2), TTc ++ T2)) ∧ (¬ (M 32 x2.toNatClampNeg) ≤ (M 7 x2.toNatClampNeg) → RetOK X Q (some (.int (1 : Int32))) (M, (gj G2), TTc ++ T2)))))))))))))) :
    WW X Q 37 [(0, .ref 0), (1, .int x1), (2, .int x2)] [] (M, (gj G2), TTc ++ T2) := by
  refine ww_aload_n C.1 dX9_wouldSwap_37 0 rfl rfl ?_
  refine wt_getR C.1 dX9_wouldSwap_38 flRX9_19 (tc0 T2) rfl (gg0_1 G2) ?_
  refine ww_iload_n C.1 dX9_wouldSwap_41 1 rfl rfl ?_
  refine ww_vI C fX3_hasLain (And.intro (by decide) (by decide)) mlRX9_157 dX9_wouldSwap_42 (tc4 T2) (by decide) rfl (As := [.int x1]) (rest := []) rfl rfl rfl (Nat.le_of_ble_eq_true rfl) (WpI.of (L0 := [(0, .ref 4), (1, .int x1)]) rfl rfl (Nat.le_of_ble_eq_true rfl) fun X1 Q1 C1 k1 => ?_)
  refine ww_aload_n C1.1 dX3_hasLain_0 0 rfl rfl ?_
  refine wt_getI C1.1 dX3_hasLain_1 flRX3_27 (tc4 T2) rfl ?_
  refine ww_iload_n C1.1 dX3_hasLain_4 1 rfl rfl ?_
  refine ww_nI C1 fX9_isIn (And.intro (by decide) (by decide)) nlRX3_92 dX3_hasLain_5 (As := [.int (M 4 5), .int x1]) (rest := []) rfl rfl rfl (Nat.le_of_ble_eq_true rfl) (WpI.of (L0 := [(0, .int (M 4 5)), (1, .int x1)]) rfl rfl (Nat.le_of_ble_eq_true rfl) fun X2 Q2 C2 k2 => ?_)
  refine ww_iload_n C2.1 dX9_isIn_0 0 rfl rfl ?_
  refine ww_iload_n C2.1 dX9_isIn_1 1 rfl rfl ?_
  refine ww_ishr C2.1 dX9_isIn_2 ?_
  refine ww_iconst C2.1 (v := (1 : Int32)) dX9_isIn_3 (by decide) ?_
  refine ww_iand C2.1 dX9_isIn_4 ?_
  refine ww_iconst C2.1 (v := (1 : Int32)) dX9_isIn_5 (by decide) ?_
  refine ww_icmp_ne (x := (((M 4 5) >>> (x1 &&& 31)) &&& (1 : Int32))) (y := (1 : Int32)) C2.1 (tgt := 13) dX9_isIn_6 (by decide) (fun hh => ?_) (fun hh => ?_)
  · replace h := h.1 hh
    refine ww_iconst C2.1 (v := (0 : Int32)) dX9_isIn_13 (by decide) ?_
    refine ww_zret C2.1 dX9_isIn_14 rfl (Or.inl rfl) ?_
    refine k2 _ _ ?_
    refine ww_zret C1.1 dX3_hasLain_8 rfl (Or.inl rfl) ?_
    refine k1 _ _ ?_
    refine ww_if_eq (x := (0 : Int32)) C.1 (tgt := 99) dX9_wouldSwap_45 (by decide) (fun _ => ?_) (fun hh => absurd hh (by decide))
    refine ww_iconst C.1 (v := (0 : Int32)) dX9_wouldSwap_99 (by decide) ?_
    refine ww_zret C.1 dX9_wouldSwap_100 rfl (Or.inl rfl) ?_
    exact h
  · replace h := h.2 hh
    refine ww_iconst C2.1 (v := (1 : Int32)) dX9_isIn_9 (by decide) ?_
    refine ww_goto C2.1 (tgt := 14) dX9_isIn_10 (by decide) ?_
    refine ww_zret C2.1 dX9_isIn_14 rfl (Or.inr rfl) ?_
    refine k2 _ _ ?_
    refine ww_zret C1.1 dX3_hasLain_8 rfl (Or.inr rfl) ?_
    refine k1 _ _ ?_
    refine ww_if_eq (x := (1 : Int32)) C.1 (tgt := 99) dX9_wouldSwap_45 (by decide) (fun hh => absurd hh (by decide)) (fun _ => ?_)
    refine ww_aload_n C.1 dX9_wouldSwap_48 0 rfl rfl ?_
    refine wt_getR C.1 dX9_wouldSwap_49 flRX9_19 (tc0 T2) rfl (gg0_1 G2) ?_
    refine ww_iload_n C.1 dX9_wouldSwap_52 2 rfl rfl ?_
    refine ww_vI C fX3_hasLain (And.intro (by decide) (by decide)) mlRX9_157 dX9_wouldSwap_53 (tc4 T2) (by decide) rfl (As := [.int x2]) (rest := []) rfl rfl rfl (Nat.le_of_ble_eq_true rfl) (WpI.of (L0 := [(0, .ref 4), (1, .int x2)]) rfl rfl (Nat.le_of_ble_eq_true rfl) fun X3 Q3 C3 k3 => ?_)
    refine ww_aload_n C3.1 dX3_hasLain_0 0 rfl rfl ?_
    refine wt_getI C3.1 dX3_hasLain_1 flRX3_27 (tc4 T2) rfl ?_
    refine ww_iload_n C3.1 dX3_hasLain_4 1 rfl rfl ?_
    refine ww_nI C3 fX9_isIn (And.intro (by decide) (by decide)) nlRX3_92 dX3_hasLain_5 (As := [.int (M 4 5), .int x2]) (rest := []) rfl rfl rfl (Nat.le_of_ble_eq_true rfl) (WpI.of (L0 := [(0, .int (M 4 5)), (1, .int x2)]) rfl rfl (Nat.le_of_ble_eq_true rfl) fun X4 Q4 C4 k4 => ?_)
    refine ww_iload_n C4.1 dX9_isIn_0 0 rfl rfl ?_
    refine ww_iload_n C4.1 dX9_isIn_1 1 rfl rfl ?_
    refine ww_ishr C4.1 dX9_isIn_2 ?_
    refine ww_iconst C4.1 (v := (1 : Int32)) dX9_isIn_3 (by decide) ?_
    refine ww_iand C4.1 dX9_isIn_4 ?_
    refine ww_iconst C4.1 (v := (1 : Int32)) dX9_isIn_5 (by decide) ?_
    refine ww_icmp_ne (x := (((M 4 5) >>> (x2 &&& 31)) &&& (1 : Int32))) (y := (1 : Int32)) C4.1 (tgt := 13) dX9_isIn_6 (by decide) (fun hh => ?_) (fun hh => ?_)
    · replace h := h.1 hh
      refine ww_iconst C4.1 (v := (0 : Int32)) dX9_isIn_13 (by decide) ?_
      refine ww_zret C4.1 dX9_isIn_14 rfl (Or.inl rfl) ?_
      refine k4 _ _ ?_
      refine ww_zret C3.1 dX3_hasLain_8 rfl (Or.inl rfl) ?_
      refine k3 _ _ ?_
      refine ww_if_eq (x := (0 : Int32)) C.1 (tgt := 99) dX9_wouldSwap_56 (by decide) (fun _ => ?_) (fun hh => absurd hh (by decide))
      refine ww_iconst C.1 (v := (0 : Int32)) dX9_wouldSwap_99 (by decide) ?_
      refine ww_zret C.1 dX9_wouldSwap_100 rfl (Or.inl rfl) ?_
      exact h
    · replace h := h.2 hh
      refine ww_iconst C4.1 (v := (1 : Int32)) dX9_isIn_9 (by decide) ?_
      refine ww_goto C4.1 (tgt := 14) dX9_isIn_10 (by decide) ?_
      refine ww_zret C4.1 dX9_isIn_14 rfl (Or.inr rfl) ?_
      refine k4 _ _ ?_
      refine ww_zret C3.1 dX3_hasLain_8 rfl (Or.inr rfl) ?_
      refine k3 _ _ ?_
      refine ww_if_eq (x := (1 : Int32)) C.1 (tgt := 99) dX9_wouldSwap_56 (by decide) (fun hh => absurd hh (by decide)) (fun _ => ?_)
      refine ww_aload_n C.1 dX9_wouldSwap_59 0 rfl rfl ?_
      refine wt_getR C.1 dX9_wouldSwap_60 flRX9_19 (tc0 T2) rfl (gg0_1 G2) ?_
      refine wt_getR C.1 dX9_wouldSwap_63 flRX9_166 (tc4 T2) rfl (gg4_2 G2) ?_
      refine ww_iload_n C.1 dX9_wouldSwap_66 1 rfl rfl ?_
      refine wt_iald C.1 dX9_wouldSwap_67 (tc7 T2) h.1 ?_
      replace h := h.2
      refine ww_aload_n C.1 dX9_wouldSwap_68 0 rfl rfl ?_
      refine wt_getR C.1 dX9_wouldSwap_69 flRX9_51 (tc0 T2) rfl (gg0_6 G2) ?_
      refine ww_iload_n C.1 dX9_wouldSwap_72 1 rfl rfl ?_
      refine wt_iald C.1 dX9_wouldSwap_73 (tc32 T2) h.1 ?_
      replace h := h.2
      refine ww_icmp_ge (x := (M 7 x1.toNatClampNeg)) (y := (M 32 x1.toNatClampNeg)) C.1 (tgt := 99) dX9_wouldSwap_74 (by decide) (fun hh => ?_) (fun hh => ?_)
      · replace h := h.1 hh
        refine ww_iconst C.1 (v := (0 : Int32)) dX9_wouldSwap_99 (by decide) ?_
        refine ww_zret C.1 dX9_wouldSwap_100 rfl (Or.inl rfl) ?_
        exact h
      · replace h := h.2 hh
        refine ww_aload_n C.1 dX9_wouldSwap_77 0 rfl rfl ?_
        refine wt_getR C.1 dX9_wouldSwap_78 flRX9_19 (tc0 T2) rfl (gg0_1 G2) ?_
        refine wt_getR C.1 dX9_wouldSwap_81 flRX9_166 (tc4 T2) rfl (gg4_2 G2) ?_
        refine ww_iload_n C.1 dX9_wouldSwap_84 2 rfl rfl ?_
        refine wt_iald C.1 dX9_wouldSwap_85 (tc7 T2) h.1 ?_
        replace h := h.2
        refine ww_aload_n C.1 dX9_wouldSwap_86 0 rfl rfl ?_
        refine wt_getR C.1 dX9_wouldSwap_87 flRX9_51 (tc0 T2) rfl (gg0_6 G2) ?_
        refine ww_iload_n C.1 dX9_wouldSwap_90 2 rfl rfl ?_
        refine wt_iald C.1 dX9_wouldSwap_91 (tc32 T2) h.1 ?_
        replace h := h.2
        refine ww_icmp_ge (x := (M 7 x2.toNatClampNeg)) (y := (M 32 x2.toNatClampNeg)) C.1 (tgt := 99) dX9_wouldSwap_92 (by decide) (fun hh => ?_) (fun hh => ?_)
        · replace h := h.1 hh
          refine ww_iconst C.1 (v := (0 : Int32)) dX9_wouldSwap_99 (by decide) ?_
          refine ww_zret C.1 dX9_wouldSwap_100 rfl (Or.inl rfl) ?_
          exact h
        · replace h := h.2 hh
          refine ww_iconst C.1 (v := (1 : Int32)) dX9_wouldSwap_95 (by decide) ?_
          refine ww_goto C.1 (tgt := 100) dX9_wouldSwap_96 (by decide) ?_
          refine ww_zret C.1 dX9_wouldSwap_100 rfl (Or.inr rfl) ?_
          exact h
set_option maxHeartbeats 4000000 in
set_option maxRecDepth 20000 in
theorem bX10_write_0 {X : CX} {Q : State → Prop} {M : Mem} {x1 : Int32} (C : Ok0 X mX10_write (TTc ++ TTm))
    (h : ((x1 < (32 : Int32) → RetOK X Q (some (.int (-1 : Int32))) (M, (gj gm), TTc ++ TTm)) ∧ (¬ x1 < (32 : Int32) → (((126 : Int32) < x1 → RetOK X Q (some (.int (-1 : Int32))) (M, (gj gm), TTc ++ TTm)) ∧ (¬ (126 : Int32) < x1 → ((¬ (M 57 13) = (200 : Int32) → (vp_in (M 57 13) 200 ∧ RetOK X Q (some (.int ((M 57 13) + (1 : Int32)))) ((wr (wr M 65 (M 57 13).toNatClampNeg x1) 57 13 ((M 57 13) + (1 : Int32))), (gj gm), TTc ++ TTm))) ∧ ((M 57 13) = (200 : Int32) → RetOK X Q (some (.int (-3 : Int32))) (M, (gj gm), TTc ++ TTm)))))))) :
    WW X Q 0 [(0, .ref 57), (1, .int x1)] [] (M, (gj gm), TTc ++ TTm) := by
  refine ww_iload_n C.1 dX10_write_0 1 rfl rfl ?_
  refine ww_i2l C.1 dX10_write_1 rfl ?_
  refine ww_ldc2 C.1 kcRX10_107 dX10_write_2 ?_
  refine ww_ldc2 C.1 kcRX10_109 dX10_write_5 ?_
  refine ww_sI C fX10_in (And.intro (by decide) (by decide)) mlRX10_101 dX10_write_8 (As := [.long x1.toInt64, .long (32 : Int64), .long (126 : Int64)]) (rest := []) rfl rfl rfl (Nat.le_of_ble_eq_true rfl) (WpI.of (L0 := [(0, .long x1.toInt64), (2, .long (32 : Int64)), (4, .long (126 : Int64))]) rfl rfl (Nat.le_of_ble_eq_true rfl) fun X1 Q1 C1 k1 => ?_)
  refine ww_lload_n C1.1 dX10_in_0 0 rfl rfl ?_
  refine ww_lload_n C1.1 dX10_in_1 1 rfl rfl ?_
  refine ww_lcmp C1.1 dX10_in_2 ?_
  refine ww_if_lt (x := (lg_cmp x1.toInt64 (32 : Int64))) C1.1 (tgt := 17) dX10_in_3 (by decide) (fun hh => ?_) (fun hh => ?_)
  · replace h := h.1 ((in_lt (a := x1) (b := (32 : Int32)) (by first | rfl | decide) (by first | rfl | decide)).mp hh)
    refine ww_iconst C1.1 (v := (0 : Int32)) dX10_in_17 (by decide) ?_
    refine ww_zret C1.1 dX10_in_18 rfl (Or.inl rfl) ?_
    refine k1 _ _ ?_
    refine ww_if_ne (x := (0 : Int32)) C.1 (tgt := 16) dX10_write_11 (by decide) (fun hh => absurd hh (by decide)) (fun _ => ?_)
    refine ww_iconst C.1 (v := (-1 : Int32)) dX10_write_14 (by decide) ?_
    refine ww_iret C.1 dX10_write_15 rfl ?_
    exact h
  · replace h := h.2 (fun z => hh ((in_lt (a := x1) (b := (32 : Int32)) (by first | rfl | decide) (by first | rfl | decide)).mpr z))
    refine ww_lload_n C1.1 dX10_in_6 0 rfl rfl ?_
    refine ww_lload C1.1 dX10_in_7 2 rfl ?_
    refine ww_lcmp C1.1 dX10_in_9 ?_
    refine ww_if_gt (x := (lg_cmp x1.toInt64 (126 : Int64))) C1.1 (tgt := 17) dX10_in_10 (by decide) (fun hh => ?_) (fun hh => ?_)
    · replace h := h.1 ((in_gt (a := x1) (b := (126 : Int32)) (by first | rfl | decide) (by first | rfl | decide)).mp hh)
      refine ww_iconst C1.1 (v := (0 : Int32)) dX10_in_17 (by decide) ?_
      refine ww_zret C1.1 dX10_in_18 rfl (Or.inl rfl) ?_
      refine k1 _ _ ?_
      refine ww_if_ne (x := (0 : Int32)) C.1 (tgt := 16) dX10_write_11 (by decide) (fun hh => absurd hh (by decide)) (fun _ => ?_)
      refine ww_iconst C.1 (v := (-1 : Int32)) dX10_write_14 (by decide) ?_
      refine ww_iret C.1 dX10_write_15 rfl ?_
      exact h
    · replace h := h.2 (fun z => hh ((in_gt (a := x1) (b := (126 : Int32)) (by first | rfl | decide) (by first | rfl | decide)).mpr z))
      refine ww_iconst C1.1 (v := (1 : Int32)) dX10_in_13 (by decide) ?_
      refine ww_goto C1.1 (tgt := 18) dX10_in_14 (by decide) ?_
      refine ww_zret C1.1 dX10_in_18 rfl (Or.inr rfl) ?_
      refine k1 _ _ ?_
      refine ww_if_ne (x := (1 : Int32)) C.1 (tgt := 16) dX10_write_11 (by decide) (fun _ => ?_) (fun hh => absurd hh (by decide))
      refine ww_aload_n C.1 dX10_write_16 0 rfl rfl ?_
      refine wt_getI C.1 dX10_write_17 flRX10_111 tm57 rfl ?_
      refine ww_sipush C.1 (v := (200 : Int32)) dX10_write_20 (by decide) ?_
      refine ww_icmp_ne (x := (M 57 13)) (y := (200 : Int32)) C.1 (tgt := 29) dX10_write_23 (by decide) (fun hh => ?_) (fun hh => ?_)
      · replace h := h.1 hh
        refine ww_aload_n C.1 dX10_write_29 0 rfl rfl ?_
        refine wt_getR C.1 dX10_write_30 flRX10_41 tm57 rfl gm57_12 ?_
        refine ww_aload_n C.1 dX10_write_33 0 rfl rfl ?_
        refine wt_getI C.1 dX10_write_34 flRX10_111 tm57 rfl ?_
        refine ww_iload_n C.1 dX10_write_37 1 rfl rfl ?_
        refine wt_iast C.1 dX10_write_38 tm65 h.1 ?_
        replace h := h.2
        refine ww_aload_n C.1 dX10_write_39 0 rfl rfl ?_
        refine ww_dup C.1 dX10_write_40 rfl ?_
        refine wt_getI C.1 dX10_write_41 flRX10_111 tm57 rfl ?_
        refine ww_iconst C.1 (v := (1 : Int32)) dX10_write_44 (by decide) ?_
        refine ww_iadd C.1 dX10_write_45 ?_
        refine wt_putI C.1 dX10_write_46 flRX10_111 tm57 rfl ?_
        refine ww_aload_n C.1 dX10_write_49 0 rfl rfl ?_
        refine wt_getI C.1 dX10_write_50 flRX10_111 tm57 rfl ?_
        refine ww_iret C.1 dX10_write_53 rfl ?_
        exact h
      · replace h := h.2 hh
        refine ww_bipush C.1 (v := (-3 : Int32)) dX10_write_26 (by decide) ?_
        refine ww_iret C.1 dX10_write_28 rfl ?_
        exact h
set_option maxHeartbeats 4000000 in
set_option maxRecDepth 20000 in
theorem bX10_wipe_0 {X : CX} {Q : State → Prop} {M : Mem} (C : Ok0 X mX10_wipe (TTc ++ TTm))
    (h : RetOK X Q (some (.int (M 57 13))) ((wr M 57 13 (0 : Int32)), (gj gm), TTc ++ TTm)) :
    WW X Q 0 [(0, .ref 57)] [] (M, (gj gm), TTc ++ TTm) := by
  refine ww_aload_n C.1 dX10_wipe_0 0 rfl rfl ?_
  refine wt_getI C.1 dX10_wipe_1 flRX10_111 tm57 rfl ?_
  refine ww_istore_n C.1 dX10_wipe_4 rfl (by decide) [1, 0] (L' := [(0, .ref 57), (1, .int (M 57 13))]) rfl ?_
  refine ww_aload_n C.1 dX10_wipe_5 0 rfl rfl ?_
  refine ww_iconst C.1 (v := (0 : Int32)) dX10_wipe_6 (by decide) ?_
  refine wt_putI C.1 dX10_wipe_7 flRX10_111 tm57 rfl ?_
  refine ww_iload_n C.1 dX10_wipe_10 1 rfl rfl ?_
  refine ww_iret C.1 dX10_wipe_11 rfl ?_
  exact h
set_option maxHeartbeats 4000000 in
set_option maxRecDepth 20000 in
theorem bX10_readNumber_0 {X : CX} {Q : State → Prop} {M : Mem} {x1 : Int32} (C : Ok0 X mX10_readNumber (TTc ++ TTm))
    (h : WW X Q 7 [(0, .ref 57), (1, .int x1), (2, .int (M 57 14)), (3, .int (0 : Int32))] [] (M, (gj gm), TTc ++ TTm)) :
    WW X Q 0 [(0, .ref 57), (1, .int x1)] [] (M, (gj gm), TTc ++ TTm) := by
  refine ww_aload_n C.1 dX10_readNumber_0 0 rfl rfl ?_
  refine wt_getI C.1 dX10_readNumber_1 flRX10_114 tm57 rfl ?_
  refine ww_istore_n C.1 dX10_readNumber_4 rfl (by decide) [1, 2, 0] (L' := [(0, .ref 57), (1, .int x1), (2, .int (M 57 14))]) rfl ?_
  refine ww_iconst C.1 (v := (0 : Int32)) dX10_readNumber_5 (by decide) ?_
  refine ww_istore_n C.1 dX10_readNumber_6 rfl (by decide) [1, 2, 3, 0] (L' := [(0, .ref 57), (1, .int x1), (2, .int (M 57 14)), (3, .int (0 : Int32))]) rfl ?_
  exact h
set_option maxHeartbeats 4000000 in
set_option maxRecDepth 20000 in
theorem bX10_readNumber_7 {X : CX} {Q : State → Prop} {M : Mem} {x1 x2 x3 : Int32} (C : Ok0 X mX10_readNumber (TTc ++ TTm))
    (h : (((M 57 13) ≤ (M 57 14) → (vp_in x1 3 ∧ (((M 57 14) ≤ x2 → RetOK X Q (some (.int (0 : Int32))) ((wr M 66 x1.toNatClampNeg x3), (gj gm), TTc ++ TTm)) ∧ (¬ (M 57 14) ≤ x2 → RetOK X Q (some (.int (1 : Int32))) ((wr M 66 x1.toNatClampNeg x3), (gj gm), TTc ++ TTm))))) ∧ (¬ (M 57 13) ≤ (M 57 14) → (((x2 + (2 : Int32)) ≤ (M 57 14) → (vp_in x1 3 ∧ (((M 57 14) ≤ x2 → RetOK X Q (some (.int (0 : Int32))) ((wr M 66 x1.toNatClampNeg x3), (gj gm), TTc ++ TTm)) ∧ (¬ (M 57 14) ≤ x2 → RetOK X Q (some (.int (1 : Int32))) ((wr M 66 x1.toNatClampNeg x3), (gj gm), TTc ++ TTm))))) ∧ (¬ (x2 + (2 : Int32)) ≤ (M 57 14) → (vp_in (M 57 14) 200 ∧ (((M 65 (M 57 14).toNatClampNeg) < (48 : Int32) → (vp_in x1 3 ∧ (((M 57 14) ≤ x2 → RetOK X Q (some (.int (0 : Int32))) ((wr M 66 x1.toNatClampNeg x3), (gj gm), TTc ++ TTm)) ∧ (¬ (M 57 14) ≤ x2 → RetOK X Q (some (.int (1 : Int32))) ((wr M 66 x1.toNatClampNeg x3), (gj gm), TTc ++ TTm))))) ∧ (¬ (M 65 (M 57 14).toNatClampNeg) < (48 : Int32) → (((57 : Int32) < (M 65 (M 57 14).toNatClampNeg) → (vp_in x1 3 ∧ (((M 57 14) ≤ x2 → RetOK X Q (some (.int (0 : Int32))) ((wr M 66 x1.toNatClampNeg x3), (gj gm), TTc ++ TTm)) ∧ (¬ (M 57 14) ≤ x2 → RetOK X Q (some (.int (1 : Int32))) ((wr M 66 x1.toNatClampNeg x3), (gj gm), TTc ++ TTm))))) ∧ (¬ (57 : Int32) < (M 65 (M 57 14).toNatClampNeg) → (vp_in (M 57 14) 200 ∧ WW X Q 7 [(0, .ref 57), (1, .int x1), (2, .int x2), (3, .int ((((10 : Int32) * x3) + (M 65 (M 57 14).toNatClampNeg)) - (48 : Int32)))] [] ((wr M 57 14 ((M 57 14) + (1 : Int32))), (gj gm), TTc ++ TTm)))))))))))) :
    WW X Q 7 [(0, .ref 57), (1, .int x1), (2, .int x2), (3, .int x3)] [] (M, (gj gm), TTc ++ TTm) := by
  refine ww_aload_n C.1 dX10_readNumber_7 0 rfl rfl ?_
  refine wt_getI C.1 dX10_readNumber_8 flRX10_114 tm57 rfl ?_
  refine ww_aload_n C.1 dX10_readNumber_11 0 rfl rfl ?_
  refine wt_getI C.1 dX10_readNumber_12 flRX10_111 tm57 rfl ?_
  refine ww_icmp_ge (x := (M 57 14)) (y := (M 57 13)) C.1 (tgt := 81) dX10_readNumber_15 (by decide) (fun hh => ?_) (fun hh => ?_)
  · replace h := h.1 hh
    refine ww_aload_n C.1 dX10_readNumber_81 0 rfl rfl ?_
    refine wt_getR C.1 dX10_readNumber_82 flRX10_44 tm57 rfl gm57_16 ?_
    refine ww_iload_n C.1 dX10_readNumber_85 1 rfl rfl ?_
    refine ww_iload_n C.1 dX10_readNumber_86 3 rfl rfl ?_
    refine wt_iast C.1 dX10_readNumber_87 tm66 h.1 ?_
    replace h := h.2
    refine ww_aload_n C.1 dX10_readNumber_88 0 rfl rfl ?_
    refine wt_getI C.1 dX10_readNumber_89 flRX10_114 tm57 rfl ?_
    refine ww_iload_n C.1 dX10_readNumber_92 2 rfl rfl ?_
    refine ww_icmp_le (x := (M 57 14)) (y := x2) C.1 (tgt := 100) dX10_readNumber_93 (by decide) (fun hh => ?_) (fun hh => ?_)
    · replace h := h.1 hh
      refine ww_iconst C.1 (v := (0 : Int32)) dX10_readNumber_100 (by decide) ?_
      refine ww_zret C.1 dX10_readNumber_101 rfl (Or.inl rfl) ?_
      exact h
    · replace h := h.2 hh
      refine ww_iconst C.1 (v := (1 : Int32)) dX10_readNumber_96 (by decide) ?_
      refine ww_goto C.1 (tgt := 101) dX10_readNumber_97 (by decide) ?_
      refine ww_zret C.1 dX10_readNumber_101 rfl (Or.inr rfl) ?_
      exact h
  · replace h := h.2 hh
    refine ww_aload_n C.1 dX10_readNumber_18 0 rfl rfl ?_
    refine wt_getI C.1 dX10_readNumber_19 flRX10_114 tm57 rfl ?_
    refine ww_iload_n C.1 dX10_readNumber_22 2 rfl rfl ?_
    refine ww_iconst C.1 (v := (2 : Int32)) dX10_readNumber_23 (by decide) ?_
    refine ww_iadd C.1 dX10_readNumber_24 ?_
    refine ww_icmp_ge (x := (M 57 14)) (y := (x2 + (2 : Int32))) C.1 (tgt := 81) dX10_readNumber_25 (by decide) (fun hh => ?_) (fun hh => ?_)
    · replace h := h.1 hh
      refine ww_aload_n C.1 dX10_readNumber_81 0 rfl rfl ?_
      refine wt_getR C.1 dX10_readNumber_82 flRX10_44 tm57 rfl gm57_16 ?_
      refine ww_iload_n C.1 dX10_readNumber_85 1 rfl rfl ?_
      refine ww_iload_n C.1 dX10_readNumber_86 3 rfl rfl ?_
      refine wt_iast C.1 dX10_readNumber_87 tm66 h.1 ?_
      replace h := h.2
      refine ww_aload_n C.1 dX10_readNumber_88 0 rfl rfl ?_
      refine wt_getI C.1 dX10_readNumber_89 flRX10_114 tm57 rfl ?_
      refine ww_iload_n C.1 dX10_readNumber_92 2 rfl rfl ?_
      refine ww_icmp_le (x := (M 57 14)) (y := x2) C.1 (tgt := 100) dX10_readNumber_93 (by decide) (fun hh => ?_) (fun hh => ?_)
      · replace h := h.1 hh
        refine ww_iconst C.1 (v := (0 : Int32)) dX10_readNumber_100 (by decide) ?_
        refine ww_zret C.1 dX10_readNumber_101 rfl (Or.inl rfl) ?_
        exact h
      · replace h := h.2 hh
        refine ww_iconst C.1 (v := (1 : Int32)) dX10_readNumber_96 (by decide) ?_
        refine ww_goto C.1 (tgt := 101) dX10_readNumber_97 (by decide) ?_
        refine ww_zret C.1 dX10_readNumber_101 rfl (Or.inr rfl) ?_
        exact h
    · replace h := h.2 hh
      refine ww_aload_n C.1 dX10_readNumber_28 0 rfl rfl ?_
      refine wt_getR C.1 dX10_readNumber_29 flRX10_41 tm57 rfl gm57_12 ?_
      refine ww_aload_n C.1 dX10_readNumber_32 0 rfl rfl ?_
      refine wt_getI C.1 dX10_readNumber_33 flRX10_114 tm57 rfl ?_
      refine wt_iald C.1 dX10_readNumber_36 tm65 h.1 ?_
      replace h := h.2
      refine ww_i2l C.1 dX10_readNumber_37 rfl ?_
      refine ww_ldc2 C.1 kcRX10_117 dX10_readNumber_38 ?_
      refine ww_ldc2 C.1 kcRX10_119 dX10_readNumber_41 ?_
      refine ww_sI C fX10_in (And.intro (by decide) (by decide)) mlRX10_101 dX10_readNumber_44 (As := [.long (M 65 (M 57 14).toNatClampNeg).toInt64, .long (48 : Int64), .long (57 : Int64)]) (rest := []) rfl rfl rfl (Nat.le_of_ble_eq_true rfl) (WpI.of (L0 := [(0, .long (M 65 (M 57 14).toNatClampNeg).toInt64), (2, .long (48 : Int64)), (4, .long (57 : Int64))]) rfl rfl (Nat.le_of_ble_eq_true rfl) fun X1 Q1 C1 k1 => ?_)
      refine ww_lload_n C1.1 dX10_in_0 0 rfl rfl ?_
      refine ww_lload_n C1.1 dX10_in_1 1 rfl rfl ?_
      refine ww_lcmp C1.1 dX10_in_2 ?_
      refine ww_if_lt (x := (lg_cmp (M 65 (M 57 14).toNatClampNeg).toInt64 (48 : Int64))) C1.1 (tgt := 17) dX10_in_3 (by decide) (fun hh => ?_) (fun hh => ?_)
      · replace h := h.1 ((in_lt (a := (M 65 (M 57 14).toNatClampNeg)) (b := (48 : Int32)) (by first | rfl | decide) (by first | rfl | decide)).mp hh)
        refine ww_iconst C1.1 (v := (0 : Int32)) dX10_in_17 (by decide) ?_
        refine ww_zret C1.1 dX10_in_18 rfl (Or.inl rfl) ?_
        refine k1 _ _ ?_
        refine ww_if_eq (x := (0 : Int32)) C.1 (tgt := 81) dX10_readNumber_47 (by decide) (fun _ => ?_) (fun hh => absurd hh (by decide))
        refine ww_aload_n C.1 dX10_readNumber_81 0 rfl rfl ?_
        refine wt_getR C.1 dX10_readNumber_82 flRX10_44 tm57 rfl gm57_16 ?_
        refine ww_iload_n C.1 dX10_readNumber_85 1 rfl rfl ?_
        refine ww_iload_n C.1 dX10_readNumber_86 3 rfl rfl ?_
        refine wt_iast C.1 dX10_readNumber_87 tm66 h.1 ?_
        replace h := h.2
        refine ww_aload_n C.1 dX10_readNumber_88 0 rfl rfl ?_
        refine wt_getI C.1 dX10_readNumber_89 flRX10_114 tm57 rfl ?_
        refine ww_iload_n C.1 dX10_readNumber_92 2 rfl rfl ?_
        refine ww_icmp_le (x := (M 57 14)) (y := x2) C.1 (tgt := 100) dX10_readNumber_93 (by decide) (fun hh => ?_) (fun hh => ?_)
        · replace h := h.1 hh
          refine ww_iconst C.1 (v := (0 : Int32)) dX10_readNumber_100 (by decide) ?_
          refine ww_zret C.1 dX10_readNumber_101 rfl (Or.inl rfl) ?_
          exact h
        · replace h := h.2 hh
          refine ww_iconst C.1 (v := (1 : Int32)) dX10_readNumber_96 (by decide) ?_
          refine ww_goto C.1 (tgt := 101) dX10_readNumber_97 (by decide) ?_
          refine ww_zret C.1 dX10_readNumber_101 rfl (Or.inr rfl) ?_
          exact h
      · replace h := h.2 (fun z => hh ((in_lt (a := (M 65 (M 57 14).toNatClampNeg)) (b := (48 : Int32)) (by first | rfl | decide) (by first | rfl | decide)).mpr z))
        refine ww_lload_n C1.1 dX10_in_6 0 rfl rfl ?_
        refine ww_lload C1.1 dX10_in_7 2 rfl ?_
        refine ww_lcmp C1.1 dX10_in_9 ?_
        refine ww_if_gt (x := (lg_cmp (M 65 (M 57 14).toNatClampNeg).toInt64 (57 : Int64))) C1.1 (tgt := 17) dX10_in_10 (by decide) (fun hh => ?_) (fun hh => ?_)
        · replace h := h.1 ((in_gt (a := (M 65 (M 57 14).toNatClampNeg)) (b := (57 : Int32)) (by first | rfl | decide) (by first | rfl | decide)).mp hh)
          refine ww_iconst C1.1 (v := (0 : Int32)) dX10_in_17 (by decide) ?_
          refine ww_zret C1.1 dX10_in_18 rfl (Or.inl rfl) ?_
          refine k1 _ _ ?_
          refine ww_if_eq (x := (0 : Int32)) C.1 (tgt := 81) dX10_readNumber_47 (by decide) (fun _ => ?_) (fun hh => absurd hh (by decide))
          refine ww_aload_n C.1 dX10_readNumber_81 0 rfl rfl ?_
          refine wt_getR C.1 dX10_readNumber_82 flRX10_44 tm57 rfl gm57_16 ?_
          refine ww_iload_n C.1 dX10_readNumber_85 1 rfl rfl ?_
          refine ww_iload_n C.1 dX10_readNumber_86 3 rfl rfl ?_
          refine wt_iast C.1 dX10_readNumber_87 tm66 h.1 ?_
          replace h := h.2
          refine ww_aload_n C.1 dX10_readNumber_88 0 rfl rfl ?_
          refine wt_getI C.1 dX10_readNumber_89 flRX10_114 tm57 rfl ?_
          refine ww_iload_n C.1 dX10_readNumber_92 2 rfl rfl ?_
          refine ww_icmp_le (x := (M 57 14)) (y := x2) C.1 (tgt := 100) dX10_readNumber_93 (by decide) (fun hh => ?_) (fun hh => ?_)
          · replace h := h.1 hh
            refine ww_iconst C.1 (v := (0 : Int32)) dX10_readNumber_100 (by decide) ?_
            refine ww_zret C.1 dX10_readNumber_101 rfl (Or.inl rfl) ?_
            exact h
          · replace h := h.2 hh
            refine ww_iconst C.1 (v := (1 : Int32)) dX10_readNumber_96 (by decide) ?_
            refine ww_goto C.1 (tgt := 101) dX10_readNumber_97 (by decide) ?_
            refine ww_zret C.1 dX10_readNumber_101 rfl (Or.inr rfl) ?_
            exact h
        · replace h := h.2 (fun z => hh ((in_gt (a := (M 65 (M 57 14).toNatClampNeg)) (b := (57 : Int32)) (by first | rfl | decide) (by first | rfl | decide)).mpr z))
          refine ww_iconst C1.1 (v := (1 : Int32)) dX10_in_13 (by decide) ?_
          refine ww_goto C1.1 (tgt := 18) dX10_in_14 (by decide) ?_
          refine ww_zret C1.1 dX10_in_18 rfl (Or.inr rfl) ?_
          refine k1 _ _ ?_
          refine ww_if_eq (x := (1 : Int32)) C.1 (tgt := 81) dX10_readNumber_47 (by decide) (fun hh => absurd hh (by decide)) (fun _ => ?_)
          refine ww_bipush C.1 (v := (10 : Int32)) dX10_readNumber_50 (by decide) ?_
          refine ww_iload_n C.1 dX10_readNumber_52 3 rfl rfl ?_
          refine ww_imul C.1 dX10_readNumber_53 ?_
          refine ww_aload_n C.1 dX10_readNumber_54 0 rfl rfl ?_
          refine wt_getR C.1 dX10_readNumber_55 flRX10_41 tm57 rfl gm57_12 ?_
          refine ww_aload_n C.1 dX10_readNumber_58 0 rfl rfl ?_
          refine wt_getI C.1 dX10_readNumber_59 flRX10_114 tm57 rfl ?_
          refine wt_iald C.1 dX10_readNumber_62 tm65 h.1 ?_
          replace h := h.2
          refine ww_iadd C.1 dX10_readNumber_63 ?_
          refine ww_bipush C.1 (v := (48 : Int32)) dX10_readNumber_64 (by decide) ?_
          refine ww_isub C.1 dX10_readNumber_66 ?_
          refine ww_istore_n C.1 dX10_readNumber_67 rfl (by decide) [1, 2, 3, 0] (L' := [(0, .ref 57), (1, .int x1), (2, .int x2), (3, .int ((((10 : Int32) * x3) + (M 65 (M 57 14).toNatClampNeg)) - (48 : Int32)))]) rfl ?_
          refine ww_aload_n C.1 dX10_readNumber_68 0 rfl rfl ?_
          refine ww_dup C.1 dX10_readNumber_69 rfl ?_
          refine wt_getI C.1 dX10_readNumber_70 flRX10_114 tm57 rfl ?_
          refine ww_iconst C.1 (v := (1 : Int32)) dX10_readNumber_73 (by decide) ?_
          refine ww_iadd C.1 dX10_readNumber_74 ?_
          refine wt_putI C.1 dX10_readNumber_75 flRX10_114 tm57 rfl ?_
          refine ww_goto C.1 (tgt := 7) dX10_readNumber_78 (by decide) ?_
          exact h
set_option maxHeartbeats 4000000 in
set_option maxRecDepth 20000 in
theorem bX10_readNumbers_0 {X : CX} {Q : State → Prop} {M : Mem} {x1 : Int32} (C : Ok0 X mX10_readNumbers (TTc ++ TTm))
    (h : WW X Q 2 [(0, .ref 57), (1, .int x1), (2, .int (0 : Int32))] [] (M, (gj gm), TTc ++ TTm)) :
    WW X Q 0 [(0, .ref 57), (1, .int x1)] [] (M, (gj gm), TTc ++ TTm) := by
  refine ww_iconst C.1 (v := (0 : Int32)) dX10_readNumbers_0 (by decide) ?_
  refine ww_istore_n C.1 dX10_readNumbers_1 rfl (by decide) [1, 2, 0] (L' := [(0, .ref 57), (1, .int x1), (2, .int (0 : Int32))]) rfl ?_
  exact h
set_option maxHeartbeats 4000000 in
set_option maxRecDepth 20000 in
theorem bX10_readNumbers_2 {X : CX} {Q : State → Prop} {M : Mem} {x1 x2 : Int32} (C : Ok0 X mX10_readNumbers (TTc ++ TTm))
    (h : ((x1 ≤ x2 → RetOK X Q (some (.int (1 : Int32))) (M, (gj gm), TTc ++ TTm)) ∧ (¬ x1 ≤ x2 → WpI mX10_readNumber [.ref 57, .int x2] M (gj gm) (TTc ++ TTm) (fun r M' => WW X Q 12 [(0, .ref 57), (1, .int x1), (2, .int x2)] [.int r] (M', (gj gm), TTc ++ TTm))))) :
    WW X Q 2 [(0, .ref 57), (1, .int x1), (2, .int x2)] [] (M, (gj gm), TTc ++ TTm) := by
  refine ww_iload_n C.1 dX10_readNumbers_2 2 rfl rfl ?_
  refine ww_iload_n C.1 dX10_readNumbers_3 1 rfl rfl ?_
  refine ww_icmp_ge (x := x2) (y := x1) C.1 (tgt := 74) dX10_readNumbers_4 (by decide) (fun hh => ?_) (fun hh => ?_)
  · replace h := h.1 hh
    refine ww_iconst C.1 (v := (1 : Int32)) dX10_readNumbers_74 (by decide) ?_
    refine ww_zret C.1 dX10_readNumbers_75 rfl (Or.inr rfl) ?_
    exact h
  · replace h := h.2 hh
    refine ww_aload_n C.1 dX10_readNumbers_7 0 rfl rfl ?_
    refine ww_iload_n C.1 dX10_readNumbers_8 2 rfl rfl ?_
    refine ww_vI C fX10_readNumber (And.intro (by decide) (by decide)) mlRX10_121 dX10_readNumbers_9 tm57 (by decide) rfl (As := [.int x2]) (rest := []) rfl rfl rfl (Nat.le_of_ble_eq_true rfl) ?_
    exact h
set_option maxHeartbeats 4000000 in
set_option maxRecDepth 20000 in
theorem bX10_readNumbers_12 {X : CX} {Q : State → Prop} {M : Mem} {x1 x2 s0 : Int32} (C : Ok0 X mX10_readNumbers (TTc ++ TTm))
    (h : ((¬ s0 = (0 : Int32) → ((¬ x2 = (x1 - (1 : Int32)) → (((M 57 13) ≤ (M 57 14) → RetOK X Q (some (.int (0 : Int32))) (M, (gj gm), TTc ++ TTm)) ∧ (¬ (M 57 13) ≤ (M 57 14) → (vp_in (M 57 14) 200 ∧ (((M 65 (M 57 14).toNatClampNeg) = (44 : Int32) → WW X Q 2 [(0, .ref 57), (1, .int x1), (2, .int (x2 + (1 : Int32)))] [] ((wr M 57 14 ((M 57 14) + (1 : Int32))), (gj gm), TTc ++ TTm)) ∧ (¬ (M 65 (M 57 14).toNatClampNeg) = (44 : Int32) → RetOK X Q (some (.int (0 : Int32))) (M, (gj gm), TTc ++ TTm))))))) ∧ (x2 = (x1 - (1 : Int32)) → (((M 57 13) ≤ (M 57 14) → RetOK X Q (some (.int (0 : Int32))) (M, (gj gm), TTc ++ TTm)) ∧ (¬ (M 57 13) ≤ (M 57 14) → (vp_in (M 57 14) 200 ∧ (((M 65 (M 57 14).toNatClampNeg) = (59 : Int32) → WW X Q 2 [(0, .ref 57), (1, .int x1), (2, .int (x2 + (1 : Int32)))] [] ((wr M 57 14 ((M 57 14) + (1 : Int32))), (gj gm), TTc ++ TTm)) ∧ (¬ (M 65 (M 57 14).toNatClampNeg) = (59 : Int32) → RetOK X Q (some (.int (0 : Int32))) (M, (gj gm), TTc ++ TTm))))))))) ∧ (s0 = (0 : Int32) → RetOK X Q (some (.int (0 : Int32))) (M, (gj gm), TTc ++ TTm)))) :
    WW X Q 12 [(0, .ref 57), (1, .int x1), (2, .int x2)] [.int s0] (M, (gj gm), TTc ++ TTm) := by
  refine ww_if_ne (x := s0) C.1 (tgt := 17) dX10_readNumbers_12 (by decide) (fun hh => ?_) (fun hh => ?_)
  · replace h := h.1 hh
    refine ww_iload_n C.1 dX10_readNumbers_17 2 rfl rfl ?_
    refine ww_iload_n C.1 dX10_readNumbers_18 1 rfl rfl ?_
    refine ww_iconst C.1 (v := (1 : Int32)) dX10_readNumbers_19 (by decide) ?_
    refine ww_isub C.1 dX10_readNumbers_20 ?_
    refine ww_icmp_ne (x := x2) (y := (x1 - (1 : Int32))) C.1 (tgt := 29) dX10_readNumbers_21 (by decide) (fun hh => ?_) (fun hh => ?_)
    · replace h := h.1 hh
      refine ww_bipush C.1 (v := (44 : Int32)) dX10_readNumbers_29 (by decide) ?_
      refine ww_istore_n C.1 dX10_readNumbers_31 rfl (by decide) [1, 2, 3, 0] (L' := [(0, .ref 57), (1, .int x1), (2, .int x2), (3, .int (44 : Int32))]) rfl ?_
      refine ww_aload_n C.1 dX10_readNumbers_32 0 rfl rfl ?_
      refine wt_getI C.1 dX10_readNumbers_33 flRX10_114 tm57 rfl ?_
      refine ww_aload_n C.1 dX10_readNumbers_36 0 rfl rfl ?_
      refine wt_getI C.1 dX10_readNumbers_37 flRX10_111 tm57 rfl ?_
      refine ww_icmp_ge (x := (M 57 14)) (y := (M 57 13)) C.1 (tgt := 56) dX10_readNumbers_40 (by decide) (fun hh => ?_) (fun hh => ?_)
      · replace h := h.1 hh
        refine ww_iconst C.1 (v := (0 : Int32)) dX10_readNumbers_56 (by decide) ?_
        refine ww_zret C.1 dX10_readNumbers_57 rfl (Or.inl rfl) ?_
        exact h
      · replace h := h.2 hh
        refine ww_aload_n C.1 dX10_readNumbers_43 0 rfl rfl ?_
        refine wt_getR C.1 dX10_readNumbers_44 flRX10_41 tm57 rfl gm57_12 ?_
        refine ww_aload_n C.1 dX10_readNumbers_47 0 rfl rfl ?_
        refine wt_getI C.1 dX10_readNumbers_48 flRX10_114 tm57 rfl ?_
        refine wt_iald C.1 dX10_readNumbers_51 tm65 h.1 ?_
        replace h := h.2
        refine ww_iload_n C.1 dX10_readNumbers_52 3 rfl rfl ?_
        refine ww_icmp_eq (x := (M 65 (M 57 14).toNatClampNeg)) (y := (44 : Int32)) C.1 (tgt := 58) dX10_readNumbers_53 (by decide) (fun hh => ?_) (fun hh => ?_)
        · replace h := h.1 hh
          refine ww_aload_n C.1 dX10_readNumbers_58 0 rfl rfl ?_
          refine ww_dup C.1 dX10_readNumbers_59 rfl ?_
          refine wt_getI C.1 dX10_readNumbers_60 flRX10_114 tm57 rfl ?_
          refine ww_iconst C.1 (v := (1 : Int32)) dX10_readNumbers_63 (by decide) ?_
          refine ww_iadd C.1 dX10_readNumbers_64 ?_
          refine wt_putI C.1 dX10_readNumbers_65 flRX10_114 tm57 rfl ?_
          refine ww_iinc C.1 (v := (x2 + (1 : Int32))) dX10_readNumbers_68 2 rfl (by rfl) (by decide) [1, 2, 0, 3] (L' := [(0, .ref 57), (1, .int x1), (2, .int (x2 + (1 : Int32))), (3, .int (44 : Int32))]) rfl ?_
          refine ww_goto C.1 (tgt := 2) dX10_readNumbers_71 (by decide) ?_
          refine ww_loc [0, 1, 2] (L' := [(0, .ref 57), (1, .int x1), (2, .int (x2 + (1 : Int32)))]) rfl ?_
          exact h
        · replace h := h.2 hh
          refine ww_iconst C.1 (v := (0 : Int32)) dX10_readNumbers_56 (by decide) ?_
          refine ww_zret C.1 dX10_readNumbers_57 rfl (Or.inl rfl) ?_
          exact h
    · replace h := h.2 hh
      refine ww_bipush C.1 (v := (59 : Int32)) dX10_readNumbers_24 (by decide) ?_
      refine ww_goto C.1 (tgt := 31) dX10_readNumbers_26 (by decide) ?_
      refine ww_istore_n C.1 dX10_readNumbers_31 rfl (by decide) [1, 2, 3, 0] (L' := [(0, .ref 57), (1, .int x1), (2, .int x2), (3, .int (59 : Int32))]) rfl ?_
      refine ww_aload_n C.1 dX10_readNumbers_32 0 rfl rfl ?_
      refine wt_getI C.1 dX10_readNumbers_33 flRX10_114 tm57 rfl ?_
      refine ww_aload_n C.1 dX10_readNumbers_36 0 rfl rfl ?_
      refine wt_getI C.1 dX10_readNumbers_37 flRX10_111 tm57 rfl ?_
      refine ww_icmp_ge (x := (M 57 14)) (y := (M 57 13)) C.1 (tgt := 56) dX10_readNumbers_40 (by decide) (fun hh => ?_) (fun hh => ?_)
      · replace h := h.1 hh
        refine ww_iconst C.1 (v := (0 : Int32)) dX10_readNumbers_56 (by decide) ?_
        refine ww_zret C.1 dX10_readNumbers_57 rfl (Or.inl rfl) ?_
        exact h
      · replace h := h.2 hh
        refine ww_aload_n C.1 dX10_readNumbers_43 0 rfl rfl ?_
        refine wt_getR C.1 dX10_readNumbers_44 flRX10_41 tm57 rfl gm57_12 ?_
        refine ww_aload_n C.1 dX10_readNumbers_47 0 rfl rfl ?_
        refine wt_getI C.1 dX10_readNumbers_48 flRX10_114 tm57 rfl ?_
        refine wt_iald C.1 dX10_readNumbers_51 tm65 h.1 ?_
        replace h := h.2
        refine ww_iload_n C.1 dX10_readNumbers_52 3 rfl rfl ?_
        refine ww_icmp_eq (x := (M 65 (M 57 14).toNatClampNeg)) (y := (59 : Int32)) C.1 (tgt := 58) dX10_readNumbers_53 (by decide) (fun hh => ?_) (fun hh => ?_)
        · replace h := h.1 hh
          refine ww_aload_n C.1 dX10_readNumbers_58 0 rfl rfl ?_
          refine ww_dup C.1 dX10_readNumbers_59 rfl ?_
          refine wt_getI C.1 dX10_readNumbers_60 flRX10_114 tm57 rfl ?_
          refine ww_iconst C.1 (v := (1 : Int32)) dX10_readNumbers_63 (by decide) ?_
          refine ww_iadd C.1 dX10_readNumbers_64 ?_
          refine wt_putI C.1 dX10_readNumbers_65 flRX10_114 tm57 rfl ?_
          refine ww_iinc C.1 (v := (x2 + (1 : Int32))) dX10_readNumbers_68 2 rfl (by rfl) (by decide) [1, 2, 0, 3] (L' := [(0, .ref 57), (1, .int x1), (2, .int (x2 + (1 : Int32))), (3, .int (59 : Int32))]) rfl ?_
          refine ww_goto C.1 (tgt := 2) dX10_readNumbers_71 (by decide) ?_
          refine ww_loc [0, 1, 2] (L' := [(0, .ref 57), (1, .int x1), (2, .int (x2 + (1 : Int32)))]) rfl ?_
          exact h
        · replace h := h.2 hh
          refine ww_iconst C.1 (v := (0 : Int32)) dX10_readNumbers_56 (by decide) ?_
          refine ww_zret C.1 dX10_readNumbers_57 rfl (Or.inl rfl) ?_
          exact h
  · replace h := h.2 hh
    refine ww_iconst C.1 (v := (0 : Int32)) dX10_readNumbers_15 (by decide) ?_
    refine ww_zret C.1 dX10_readNumbers_16 rfl (Or.inl rfl) ?_
    exact h
set_option maxHeartbeats 4000000 in
set_option maxRecDepth 20000 in
theorem bX10_readItem_0 {X : CX} {Q : State → Prop} {M : Mem} (C : Ok0 X mX10_readItem (TTc ++ TTm))
    (h : (vp_in (M 57 14) 200 ∧ ((¬ (M 65 (M 57 14).toNatClampNeg) = (103 : Int32) → (((M 65 (M 57 14).toNatClampNeg) = (102 : Int32) → WpI mX10_readNumbers [.ref 57, .int (2 : Int32)] (wr (wr M 57 14 ((M 57 14) + (1 : Int32))) 57 15 (2 : Int32)) (gj gm) (TTc ++ TTm) (fun r M' => WW X Q 88 [(0, .ref 57), (1, .int (M 65 (M 57 14).toNatClampNeg))] [.int r] (M', (gj gm), TTc ++ TTm))) ∧ (¬ (M 65 (M 57 14).toNatClampNeg) = (102 : Int32) → ((¬ (M 65 (M 57 14).toNatClampNeg) = (104 : Int32) → (((M 65 (M 57 14).toNatClampNeg) = (98 : Int32) → WpI mX10_readNumbers [.ref 57, .int (1 : Int32)] (wr (wr M 57 14 ((M 57 14) + (1 : Int32))) 57 15 (1 : Int32)) (gj gm) (TTc ++ TTm) (fun r M' => WW X Q 88 [(0, .ref 57), (1, .int (M 65 (M 57 14).toNatClampNeg))] [.int r] (M', (gj gm), TTc ++ TTm))) ∧ (¬ (M 65 (M 57 14).toNatClampNeg) = (98 : Int32) → (((M 65 (M 57 14).toNatClampNeg) = (107 : Int32) → WpI mX10_readNumbers [.ref 57, .int (1 : Int32)] (wr (wr M 57 14 ((M 57 14) + (1 : Int32))) 57 15 (1 : Int32)) (gj gm) (TTc ++ TTm) (fun r M' => WW X Q 88 [(0, .ref 57), (1, .int (M 65 (M 57 14).toNatClampNeg))] [.int r] (M', (gj gm), TTc ++ TTm))) ∧ (¬ (M 65 (M 57 14).toNatClampNeg) = (107 : Int32) → ((¬ (M 65 (M 57 14).toNatClampNeg) = (114 : Int32) → RetOK X Q (some (.int (0 : Int32))) ((wr (wr M 57 14 ((M 57 14) + (1 : Int32))) 57 15 (0 : Int32)), (gj gm), TTc ++ TTm)) ∧ ((M 65 (M 57 14).toNatClampNeg) = (114 : Int32) → WpI mX10_readNumbers [.ref 57, .int (1 : Int32)] (wr (wr M 57 14 ((M 57 14) + (1 : Int32))) 57 15 (1 : Int32)) (gj gm) (TTc ++ TTm) (fun r M' => WW X Q 88 [(0, .ref 57), (1, .int (M 65 (M 57 14).toNatClampNeg))] [.int r] (M', (gj gm), TTc ++ TTm))))))))) ∧ ((M 65 (M 57 14).toNatClampNeg) = (104 : Int32) → WpI mX10_readNumbers [.ref 57, .int (2 : Int32)] (wr (wr M 57 14 ((M 57 14) + (1 : Int32))) 57 15 (2 : Int32)) (gj gm) (TTc ++ TTm) (fun r M' => WW X Q 88 [(0, .ref 57), (1, .int (M 65 (M 57 14).toNatClampNeg))] [.int r] (M', (gj gm), TTc ++ TTm))))))) ∧ ((M 65 (M 57 14).toNatClampNeg) = (103 : Int32) → WpI mX10_readNumbers [.ref 57, .int (3 : Int32)] (wr (wr M 57 14 ((M 57 14) + (1 : Int32))) 57 15 (3 : Int32)) (gj gm) (TTc ++ TTm) (fun r M' => WW X Q 88 [(0, .ref 57), (1, .int (M 65 (M 57 14).toNatClampNeg))] [.int r] (M', (gj gm), TTc ++ TTm)))))) :
    WW X Q 0 [(0, .ref 57)] [] (M, (gj gm), TTc ++ TTm) := by
  refine ww_aload_n C.1 dX10_readItem_0 0 rfl rfl ?_
  refine wt_getR C.1 dX10_readItem_1 flRX10_41 tm57 rfl gm57_12 ?_
  refine ww_aload_n C.1 dX10_readItem_4 0 rfl rfl ?_
  refine wt_getI C.1 dX10_readItem_5 flRX10_114 tm57 rfl ?_
  refine wt_iald C.1 dX10_readItem_8 tm65 h.1 ?_
  replace h := h.2
  refine ww_istore_n C.1 dX10_readItem_9 rfl (by decide) [1, 0] (L' := [(0, .ref 57), (1, .int (M 65 (M 57 14).toNatClampNeg))]) rfl ?_
  refine ww_aload_n C.1 dX10_readItem_10 0 rfl rfl ?_
  refine ww_dup C.1 dX10_readItem_11 rfl ?_
  refine wt_getI C.1 dX10_readItem_12 flRX10_114 tm57 rfl ?_
  refine ww_iconst C.1 (v := (1 : Int32)) dX10_readItem_15 (by decide) ?_
  refine ww_iadd C.1 dX10_readItem_16 ?_
  refine wt_putI C.1 dX10_readItem_17 flRX10_114 tm57 rfl ?_
  refine ww_aload_n C.1 dX10_readItem_20 0 rfl rfl ?_
  refine ww_iload_n C.1 dX10_readItem_21 1 rfl rfl ?_
  refine ww_bipush C.1 (v := (103 : Int32)) dX10_readItem_22 (by decide) ?_
  refine ww_icmp_ne (x := (M 65 (M 57 14).toNatClampNeg)) (y := (103 : Int32)) C.1 (tgt := 31) dX10_readItem_24 (by decide) (fun hh => ?_) (fun hh => ?_)
  · replace h := h.1 hh
    refine ww_iload_n C.1 dX10_readItem_31 1 rfl rfl ?_
    refine ww_bipush C.1 (v := (102 : Int32)) dX10_readItem_32 (by decide) ?_
    refine ww_icmp_eq (x := (M 65 (M 57 14).toNatClampNeg)) (y := (102 : Int32)) C.1 (tgt := 43) dX10_readItem_34 (by decide) (fun hh => ?_) (fun hh => ?_)
    · replace h := h.1 hh
      refine ww_iconst C.1 (v := (2 : Int32)) dX10_readItem_43 (by decide) ?_
      refine ww_goto C.1 (tgt := 70) dX10_readItem_44 (by decide) ?_
      refine wt_putI C.1 dX10_readItem_70 flRX10_125 tm57 rfl ?_
      refine ww_aload_n C.1 dX10_readItem_73 0 rfl rfl ?_
      refine wt_getI C.1 dX10_readItem_74 flRX10_125 tm57 rfl ?_
      refine ww_if_eq (x := (2 : Int32)) C.1 (tgt := 91) dX10_readItem_77 (by decide) (fun hh => absurd hh (by decide)) (fun _ => ?_)
      refine ww_aload_n C.1 dX10_readItem_80 0 rfl rfl ?_
      refine ww_aload_n C.1 dX10_readItem_81 0 rfl rfl ?_
      refine wt_getI C.1 dX10_readItem_82 flRX10_125 tm57 rfl ?_
      refine ww_vI C fX10_readNumbers (And.intro (by decide) (by decide)) mlRX10_128 dX10_readItem_85 tm57 (by decide) rfl (As := [.int (2 : Int32)]) (rest := []) rfl rfl rfl (Nat.le_of_ble_eq_true rfl) ?_
      exact h
    · replace h := h.2 hh
      refine ww_iload_n C.1 dX10_readItem_37 1 rfl rfl ?_
      refine ww_bipush C.1 (v := (104 : Int32)) dX10_readItem_38 (by decide) ?_
      refine ww_icmp_ne (x := (M 65 (M 57 14).toNatClampNeg)) (y := (104 : Int32)) C.1 (tgt := 47) dX10_readItem_40 (by decide) (fun hh => ?_) (fun hh => ?_)
      · replace h := h.1 hh
        refine ww_iload_n C.1 dX10_readItem_47 1 rfl rfl ?_
        refine ww_bipush C.1 (v := (98 : Int32)) dX10_readItem_48 (by decide) ?_
        refine ww_icmp_eq (x := (M 65 (M 57 14).toNatClampNeg)) (y := (98 : Int32)) C.1 (tgt := 65) dX10_readItem_50 (by decide) (fun hh => ?_) (fun hh => ?_)
        · replace h := h.1 hh
          refine ww_iconst C.1 (v := (1 : Int32)) dX10_readItem_65 (by decide) ?_
          refine ww_goto C.1 (tgt := 70) dX10_readItem_66 (by decide) ?_
          refine wt_putI C.1 dX10_readItem_70 flRX10_125 tm57 rfl ?_
          refine ww_aload_n C.1 dX10_readItem_73 0 rfl rfl ?_
          refine wt_getI C.1 dX10_readItem_74 flRX10_125 tm57 rfl ?_
          refine ww_if_eq (x := (1 : Int32)) C.1 (tgt := 91) dX10_readItem_77 (by decide) (fun hh => absurd hh (by decide)) (fun _ => ?_)
          refine ww_aload_n C.1 dX10_readItem_80 0 rfl rfl ?_
          refine ww_aload_n C.1 dX10_readItem_81 0 rfl rfl ?_
          refine wt_getI C.1 dX10_readItem_82 flRX10_125 tm57 rfl ?_
          refine ww_vI C fX10_readNumbers (And.intro (by decide) (by decide)) mlRX10_128 dX10_readItem_85 tm57 (by decide) rfl (As := [.int (1 : Int32)]) (rest := []) rfl rfl rfl (Nat.le_of_ble_eq_true rfl) ?_
          exact h
        · replace h := h.2 hh
          refine ww_iload_n C.1 dX10_readItem_53 1 rfl rfl ?_
          refine ww_bipush C.1 (v := (107 : Int32)) dX10_readItem_54 (by decide) ?_
          refine ww_icmp_eq (x := (M 65 (M 57 14).toNatClampNeg)) (y := (107 : Int32)) C.1 (tgt := 65) dX10_readItem_56 (by decide) (fun hh => ?_) (fun hh => ?_)
          · replace h := h.1 hh
            refine ww_iconst C.1 (v := (1 : Int32)) dX10_readItem_65 (by decide) ?_
            refine ww_goto C.1 (tgt := 70) dX10_readItem_66 (by decide) ?_
            refine wt_putI C.1 dX10_readItem_70 flRX10_125 tm57 rfl ?_
            refine ww_aload_n C.1 dX10_readItem_73 0 rfl rfl ?_
            refine wt_getI C.1 dX10_readItem_74 flRX10_125 tm57 rfl ?_
            refine ww_if_eq (x := (1 : Int32)) C.1 (tgt := 91) dX10_readItem_77 (by decide) (fun hh => absurd hh (by decide)) (fun _ => ?_)
            refine ww_aload_n C.1 dX10_readItem_80 0 rfl rfl ?_
            refine ww_aload_n C.1 dX10_readItem_81 0 rfl rfl ?_
            refine wt_getI C.1 dX10_readItem_82 flRX10_125 tm57 rfl ?_
            refine ww_vI C fX10_readNumbers (And.intro (by decide) (by decide)) mlRX10_128 dX10_readItem_85 tm57 (by decide) rfl (As := [.int (1 : Int32)]) (rest := []) rfl rfl rfl (Nat.le_of_ble_eq_true rfl) ?_
            exact h
          · replace h := h.2 hh
            refine ww_iload_n C.1 dX10_readItem_59 1 rfl rfl ?_
            refine ww_bipush C.1 (v := (114 : Int32)) dX10_readItem_60 (by decide) ?_
            refine ww_icmp_ne (x := (M 65 (M 57 14).toNatClampNeg)) (y := (114 : Int32)) C.1 (tgt := 69) dX10_readItem_62 (by decide) (fun hh => ?_) (fun hh => ?_)
            · replace h := h.1 hh
              refine ww_iconst C.1 (v := (0 : Int32)) dX10_readItem_69 (by decide) ?_
              refine wt_putI C.1 dX10_readItem_70 flRX10_125 tm57 rfl ?_
              refine ww_aload_n C.1 dX10_readItem_73 0 rfl rfl ?_
              refine wt_getI C.1 dX10_readItem_74 flRX10_125 tm57 rfl ?_
              refine ww_if_eq (x := (0 : Int32)) C.1 (tgt := 91) dX10_readItem_77 (by decide) (fun _ => ?_) (fun hh => absurd hh (by decide))
              refine ww_iconst C.1 (v := (0 : Int32)) dX10_readItem_91 (by decide) ?_
              refine ww_zret C.1 dX10_readItem_92 rfl (Or.inl rfl) ?_
              exact h
            · replace h := h.2 hh
              refine ww_iconst C.1 (v := (1 : Int32)) dX10_readItem_65 (by decide) ?_
              refine ww_goto C.1 (tgt := 70) dX10_readItem_66 (by decide) ?_
              refine wt_putI C.1 dX10_readItem_70 flRX10_125 tm57 rfl ?_
              refine ww_aload_n C.1 dX10_readItem_73 0 rfl rfl ?_
              refine wt_getI C.1 dX10_readItem_74 flRX10_125 tm57 rfl ?_
              refine ww_if_eq (x := (1 : Int32)) C.1 (tgt := 91) dX10_readItem_77 (by decide) (fun hh => absurd hh (by decide)) (fun _ => ?_)
              refine ww_aload_n C.1 dX10_readItem_80 0 rfl rfl ?_
              refine ww_aload_n C.1 dX10_readItem_81 0 rfl rfl ?_
              refine wt_getI C.1 dX10_readItem_82 flRX10_125 tm57 rfl ?_
              refine ww_vI C fX10_readNumbers (And.intro (by decide) (by decide)) mlRX10_128 dX10_readItem_85 tm57 (by decide) rfl (As := [.int (1 : Int32)]) (rest := []) rfl rfl rfl (Nat.le_of_ble_eq_true rfl) ?_
              exact h
      · replace h := h.2 hh
        refine ww_iconst C.1 (v := (2 : Int32)) dX10_readItem_43 (by decide) ?_
        refine ww_goto C.1 (tgt := 70) dX10_readItem_44 (by decide) ?_
        refine wt_putI C.1 dX10_readItem_70 flRX10_125 tm57 rfl ?_
        refine ww_aload_n C.1 dX10_readItem_73 0 rfl rfl ?_
        refine wt_getI C.1 dX10_readItem_74 flRX10_125 tm57 rfl ?_
        refine ww_if_eq (x := (2 : Int32)) C.1 (tgt := 91) dX10_readItem_77 (by decide) (fun hh => absurd hh (by decide)) (fun _ => ?_)
        refine ww_aload_n C.1 dX10_readItem_80 0 rfl rfl ?_
        refine ww_aload_n C.1 dX10_readItem_81 0 rfl rfl ?_
        refine wt_getI C.1 dX10_readItem_82 flRX10_125 tm57 rfl ?_
        refine ww_vI C fX10_readNumbers (And.intro (by decide) (by decide)) mlRX10_128 dX10_readItem_85 tm57 (by decide) rfl (As := [.int (2 : Int32)]) (rest := []) rfl rfl rfl (Nat.le_of_ble_eq_true rfl) ?_
        exact h
  · replace h := h.2 hh
    refine ww_iconst C.1 (v := (3 : Int32)) dX10_readItem_27 (by decide) ?_
    refine ww_goto C.1 (tgt := 70) dX10_readItem_28 (by decide) ?_
    refine wt_putI C.1 dX10_readItem_70 flRX10_125 tm57 rfl ?_
    refine ww_aload_n C.1 dX10_readItem_73 0 rfl rfl ?_
    refine wt_getI C.1 dX10_readItem_74 flRX10_125 tm57 rfl ?_
    refine ww_if_eq (x := (3 : Int32)) C.1 (tgt := 91) dX10_readItem_77 (by decide) (fun hh => absurd hh (by decide)) (fun _ => ?_)
    refine ww_aload_n C.1 dX10_readItem_80 0 rfl rfl ?_
    refine ww_aload_n C.1 dX10_readItem_81 0 rfl rfl ?_
    refine wt_getI C.1 dX10_readItem_82 flRX10_125 tm57 rfl ?_
    refine ww_vI C fX10_readNumbers (And.intro (by decide) (by decide)) mlRX10_128 dX10_readItem_85 tm57 (by decide) rfl (As := [.int (3 : Int32)]) (rest := []) rfl rfl rfl (Nat.le_of_ble_eq_true rfl) ?_
    exact h
set_option maxHeartbeats 4000000 in
set_option maxRecDepth 20000 in
theorem bX10_readItem_363 {X : CX} {Q : State → Prop} {M : Mem} {x1 x2 x3 x4 x5 : Int32} (C : Ok0 X mX10_readItem (TTc ++ TTm))
    (h : (((3 : Int32) ≤ x5 → ((x4 = (0 : Int32) → ((x4 = 0 ∨ x4 = 1) ∧ RetOK X Q (some (.int x4)) ((wr M 57 23 ((M 57 23) + (0 : Int32))), (gj gm), TTc ++ TTm))) ∧ (¬ x4 = (0 : Int32) → ((x4 = 0 ∨ x4 = 1) ∧ RetOK X Q (some (.int x4)) ((wr M 57 23 ((M 57 23) + (1 : Int32))), (gj gm), TTc ++ TTm))))) ∧ (¬ (3 : Int32) ≤ x5 → ((x4 = (0 : Int32) → ((x4 = (0 : Int32) → ((x4 = 0 ∨ x4 = 1) ∧ RetOK X Q (some (.int x4)) ((wr M 57 23 ((M 57 23) + (0 : Int32))), (gj gm), TTc ++ TTm))) ∧ (¬ x4 = (0 : Int32) → ((x4 = 0 ∨ x4 = 1) ∧ RetOK X Q (some (.int x4)) ((wr M 57 23 ((M 57 23) + (1 : Int32))), (gj gm), TTc ++ TTm))))) ∧ (¬ x4 = (0 : Int32) → (vp_in x5 3 ∧ (vp_in (((3 : Int32) * (M 57 23)) + x5) 21 ∧ WW X Q 363 [(0, .ref 57), (1, .int x1), (2, .int x2), (3, .int x3), (4, .int x4), (5, .int (x5 + (1 : Int32)))] [] ((wr M 69 (((3 : Int32) * (M 57 23)) + x5).toNatClampNeg (M 66 x5.toNatClampNeg)), (gj gm), TTc ++ TTm)))))))) :
    WW X Q 363 [(0, .ref 57), (1, .int x1), (2, .int x2), (3, .int x3), (4, .int x4), (5, .int x5)] [] (M, (gj gm), TTc ++ TTm) := by
  refine ww_iload C.1 dX10_readItem_363 5 rfl ?_
  refine ww_iconst C.1 (v := (3 : Int32)) dX10_readItem_365 (by decide) ?_
  refine ww_icmp_ge (x := x5) (y := (3 : Int32)) C.1 (tgt := 401) dX10_readItem_366 (by decide) (fun hh => ?_) (fun hh => ?_)
  · replace h := h.1 hh
    refine ww_aload_n C.1 dX10_readItem_401 0 rfl rfl ?_
    refine ww_dup C.1 dX10_readItem_402 rfl ?_
    refine wt_getI C.1 dX10_readItem_403 flRX10_145 tm57 rfl ?_
    refine ww_iload C.1 dX10_readItem_406 4 rfl ?_
    refine ww_if_eq (x := x4) C.1 (tgt := 415) dX10_readItem_408 (by decide) (fun hh => ?_) (fun hh => ?_)
    · replace h := h.1 hh
      refine ww_iconst C.1 (v := (0 : Int32)) dX10_readItem_415 (by decide) ?_
      refine ww_iadd C.1 dX10_readItem_416 ?_
      refine wt_putI C.1 dX10_readItem_417 flRX10_145 tm57 rfl ?_
      refine ww_goto C.1 (tgt := 624) dX10_readItem_420 (by decide) ?_
      refine ww_iload C.1 dX10_readItem_624 4 rfl ?_
      refine ww_zret C.1 dX10_readItem_626 rfl h.1 ?_
      replace h := h.2
      exact h
    · replace h := h.2 hh
      refine ww_iconst C.1 (v := (1 : Int32)) dX10_readItem_411 (by decide) ?_
      refine ww_goto C.1 (tgt := 416) dX10_readItem_412 (by decide) ?_
      refine ww_iadd C.1 dX10_readItem_416 ?_
      refine wt_putI C.1 dX10_readItem_417 flRX10_145 tm57 rfl ?_
      refine ww_goto C.1 (tgt := 624) dX10_readItem_420 (by decide) ?_
      refine ww_iload C.1 dX10_readItem_624 4 rfl ?_
      refine ww_zret C.1 dX10_readItem_626 rfl h.1 ?_
      replace h := h.2
      exact h
  · replace h := h.2 hh
    refine ww_iload C.1 dX10_readItem_369 4 rfl ?_
    refine ww_if_eq (x := x4) C.1 (tgt := 401) dX10_readItem_371 (by decide) (fun hh => ?_) (fun hh => ?_)
    · replace h := h.1 hh
      refine ww_aload_n C.1 dX10_readItem_401 0 rfl rfl ?_
      refine ww_dup C.1 dX10_readItem_402 rfl ?_
      refine wt_getI C.1 dX10_readItem_403 flRX10_145 tm57 rfl ?_
      refine ww_iload C.1 dX10_readItem_406 4 rfl ?_
      refine ww_if_eq (x := x4) C.1 (tgt := 415) dX10_readItem_408 (by decide) (fun hh => ?_) (fun hh => ?_)
      · replace h := h.1 hh
        refine ww_iconst C.1 (v := (0 : Int32)) dX10_readItem_415 (by decide) ?_
        refine ww_iadd C.1 dX10_readItem_416 ?_
        refine wt_putI C.1 dX10_readItem_417 flRX10_145 tm57 rfl ?_
        refine ww_goto C.1 (tgt := 624) dX10_readItem_420 (by decide) ?_
        refine ww_iload C.1 dX10_readItem_624 4 rfl ?_
        refine ww_zret C.1 dX10_readItem_626 rfl h.1 ?_
        replace h := h.2
        exact h
      · replace h := h.2 hh
        refine ww_iconst C.1 (v := (1 : Int32)) dX10_readItem_411 (by decide) ?_
        refine ww_goto C.1 (tgt := 416) dX10_readItem_412 (by decide) ?_
        refine ww_iadd C.1 dX10_readItem_416 ?_
        refine wt_putI C.1 dX10_readItem_417 flRX10_145 tm57 rfl ?_
        refine ww_goto C.1 (tgt := 624) dX10_readItem_420 (by decide) ?_
        refine ww_iload C.1 dX10_readItem_624 4 rfl ?_
        refine ww_zret C.1 dX10_readItem_626 rfl h.1 ?_
        replace h := h.2
        exact h
    · replace h := h.2 hh
      refine ww_aload_n C.1 dX10_readItem_374 0 rfl rfl ?_
      refine wt_getR C.1 dX10_readItem_375 flRX10_53 tm57 rfl gm57_21 ?_
      refine ww_iconst C.1 (v := (3 : Int32)) dX10_readItem_378 (by decide) ?_
      refine ww_aload_n C.1 dX10_readItem_379 0 rfl rfl ?_
      refine wt_getI C.1 dX10_readItem_380 flRX10_145 tm57 rfl ?_
      refine ww_imul C.1 dX10_readItem_383 ?_
      refine ww_iload C.1 dX10_readItem_384 5 rfl ?_
      refine ww_iadd C.1 dX10_readItem_386 ?_
      refine ww_aload_n C.1 dX10_readItem_387 0 rfl rfl ?_
      refine wt_getR C.1 dX10_readItem_388 flRX10_44 tm57 rfl gm57_16 ?_
      refine ww_iload C.1 dX10_readItem_391 5 rfl ?_
      refine wt_iald C.1 dX10_readItem_393 tm66 h.1 ?_
      replace h := h.2
      refine wt_iast C.1 dX10_readItem_394 tm69 h.1 ?_
      replace h := h.2
      refine ww_iinc C.1 (v := (x5 + (1 : Int32))) dX10_readItem_395 5 rfl (by rfl) (by decide) [1, 2, 3, 4, 5, 0] (L' := [(0, .ref 57), (1, .int x1), (2, .int x2), (3, .int x3), (4, .int x4), (5, .int (x5 + (1 : Int32)))]) rfl ?_
      refine ww_goto C.1 (tgt := 363) dX10_readItem_398 (by decide) ?_
      exact h
set_option maxHeartbeats 4000000 in
set_option maxRecDepth 20000 in
theorem bX10_readItem_88 {X : CX} {Q : State → Prop} {M : Mem} {x1 s0 : Int32} (C : Ok0 X mX10_readItem (TTc ++ TTm))
    (h : ((¬ s0 = (0 : Int32) → ((¬ x1 = (98 : Int32) → ((¬ x1 = (102 : Int32) → ((¬ x1 = (103 : Int32) → ((¬ x1 = (104 : Int32) → ((¬ x1 = (107 : Int32) → (((M 66 0) < (40 : Int32) → RetOK X Q (some (.int (0 : Int32))) ((wr (wr M 71 0 (M 71 0)) 57 25 ((M 57 25) + (0 : Int32))), (gj gm), TTc ++ TTm)) ∧ (¬ (M 66 0) < (40 : Int32) → (((99 : Int32) < (M 66 0) → RetOK X Q (some (.int (0 : Int32))) ((wr (wr M 71 0 (M 71 0)) 57 25 ((M 57 25) + (0 : Int32))), (gj gm), TTc ++ TTm)) ∧ (¬ (99 : Int32) < (M 66 0) → (((4 : Int32) ≤ (M 57 25) → RetOK X Q (some (.int (0 : Int32))) ((wr (wr M 71 0 (M 71 0)) 57 25 ((M 57 25) + (0 : Int32))), (gj gm), TTc ++ TTm)) ∧ (¬ (4 : Int32) ≤ (M 57 25) → (vp_in (M 57 25) 4 ∧ RetOK X Q (some (.int (1 : Int32))) ((wr (wr M 71 (M 57 25).toNatClampNeg (M 66 0)) 57 25 ((M 57 25) + (1 : Int32))), (gj gm), TTc ++ TTm))))))))) ∧ (x1 = (107 : Int32) → (((M 66 0) < (0 : Int32) → RetOK X Q (some (.int (0 : Int32))) ((wr M 57 26 (M 57 26)), (gj gm), TTc ++ TTm)) ∧ (¬ (M 66 0) < (0 : Int32) → (((2 : Int32) < (M 66 0) → RetOK X Q (some (.int (0 : Int32))) ((wr M 57 26 (M 57 26)), (gj gm), TTc ++ TTm)) ∧ (¬ (2 : Int32) < (M 66 0) → RetOK X Q (some (.int (1 : Int32))) ((wr M 57 26 (M 66 0)), (gj gm), TTc ++ TTm)))))))) ∧ (x1 = (104 : Int32) → (((M 66 0) < (0 : Int32) → RetOK X Q (some (.int (0 : Int32))) ((wr M 70 0 ((M 70 0) ||| (0 : Int32))), (gj gm), TTc ++ TTm)) ∧ (¬ (M 66 0) < (0 : Int32) → ((((M 57 23) - (1 : Int32)) < (M 66 0) → RetOK X Q (some (.int (0 : Int32))) ((wr M 70 0 ((M 70 0) ||| (0 : Int32))), (gj gm), TTc ++ TTm)) ∧ (¬ ((M 57 23) - (1 : Int32)) < (M 66 0) → (((M 66 1) < (0 : Int32) → RetOK X Q (some (.int (0 : Int32))) ((wr M 70 0 ((M 70 0) ||| (0 : Int32))), (gj gm), TTc ++ TTm)) ∧ (¬ (M 66 1) < (0 : Int32) → ((((M 57 23) - (1 : Int32)) < (M 66 1) → RetOK X Q (some (.int (0 : Int32))) ((wr M 70 0 ((M 70 0) ||| (0 : Int32))), (gj gm), TTc ++ TTm)) ∧ (¬ ((M 57 23) - (1 : Int32)) < (M 66 1) → (((M 66 0) = (M 66 1) → RetOK X Q (some (.int (0 : Int32))) ((wr M 70 0 ((M 70 0) ||| (0 : Int32))), (gj gm), TTc ++ TTm)) ∧ (¬ (M 66 0) = (M 66 1) → (vp_in (M 66 0) 7 ∧ (vp_in (M 66 0) 7 ∧ RetOK X Q (some (.int (1 : Int32))) ((wr M 70 (M 66 0).toNatClampNeg ((M 70 (M 66 0).toNatClampNeg) ||| ((1 : Int32) <<< ((M 66 1) &&& 31)))), (gj gm), TTc ++ TTm)))))))))))))))) ∧ (x1 = (103 : Int32) → (((M 66 0) < (40 : Int32) → WW X Q 363 [(0, .ref 57), (1, .int x1), (2, .int (M 66 0)), (3, .int (M 66 1)), (4, .int (0 : Int32)), (5, .int (0 : Int32))] [] (M, (gj gm), TTc ++ TTm)) ∧ (¬ (M 66 0) < (40 : Int32) → (((99 : Int32) < (M 66 0) → WW X Q 363 [(0, .ref 57), (1, .int x1), (2, .int (M 66 0)), (3, .int (M 66 1)), (4, .int (0 : Int32)), (5, .int (0 : Int32))] [] (M, (gj gm), TTc ++ TTm)) ∧ (¬ (99 : Int32) < (M 66 0) → (((M 66 1) < (0 : Int32) → WW X Q 363 [(0, .ref 57), (1, .int x1), (2, .int (M 66 0)), (3, .int (M 66 1)), (4, .int (0 : Int32)), (5, .int (0 : Int32))] [] (M, (gj gm), TTc ++ TTm)) ∧ (¬ (M 66 1) < (0 : Int32) → (((9 : Int32) < (M 66 1) → WW X Q 363 [(0, .ref 57), (1, .int x1), (2, .int (M 66 0)), (3, .int (M 66 1)), (4, .int (0 : Int32)), (5, .int (0 : Int32))] [] (M, (gj gm), TTc ++ TTm)) ∧ (¬ (9 : Int32) < (M 66 1) → (((M 66 2) < (0 : Int32) → WW X Q 363 [(0, .ref 57), (1, .int x1), (2, .int (M 66 0)), (3, .int (M 66 1)), (4, .int (0 : Int32)), (5, .int (0 : Int32))] [] (M, (gj gm), TTc ++ TTm)) ∧ (¬ (M 66 2) < (0 : Int32) → (((4 : Int32) < (M 66 2) → WW X Q 363 [(0, .ref 57), (1, .int x1), (2, .int (M 66 0)), (3, .int (M 66 1)), (4, .int (0 : Int32)), (5, .int (0 : Int32))] [] (M, (gj gm), TTc ++ TTm)) ∧ (¬ (4 : Int32) < (M 66 2) → (((7 : Int32) ≤ (M 57 23) → WW X Q 363 [(0, .ref 57), (1, .int x1), (2, .int (M 66 0)), (3, .int (M 66 1)), (4, .int (0 : Int32)), (5, .int (0 : Int32))] [] (M, (gj gm), TTc ++ TTm)) ∧ (¬ (7 : Int32) ≤ (M 57 23) → WW X Q 363 [(0, .ref 57), (1, .int x1), (2, .int (M 66 0)), (3, .int (M 66 1)), (4, .int (1 : Int32)), (5, .int (0 : Int32))] [] (M, (gj gm), TTc ++ TTm)))))))))))))))))) ∧ (x1 = (102 : Int32) → (((M 66 0) < (0 : Int32) → RetOK X Q (some (.int (0 : Int32))) ((wr (wr M 68 0 ((M 68 0) + (0 : Int32))) 57 20 ((M 57 20) + (0 : Int32))), (gj gm), TTc ++ TTm)) ∧ (¬ (M 66 0) < (0 : Int32) → (((29 : Int32) < (M 66 0) → RetOK X Q (some (.int (0 : Int32))) ((wr (wr M 68 0 ((M 68 0) + (0 : Int32))) 57 20 ((M 57 20) + (0 : Int32))), (gj gm), TTc ++ TTm)) ∧ (¬ (29 : Int32) < (M 66 0) → (((M 66 1) < (0 : Int32) → RetOK X Q (some (.int (0 : Int32))) ((wr (wr M 68 0 ((M 68 0) + (0 : Int32))) 57 20 ((M 57 20) + (0 : Int32))), (gj gm), TTc ++ TTm)) ∧ (¬ (M 66 1) < (0 : Int32) → (((9 : Int32) < (M 66 1) → RetOK X Q (some (.int (0 : Int32))) ((wr (wr M 68 0 ((M 68 0) + (0 : Int32))) 57 20 ((M 57 20) + (0 : Int32))), (gj gm), TTc ++ TTm)) ∧ (¬ (9 : Int32) < (M 66 1) → (((4 : Int32) ≤ (M 57 20) → RetOK X Q (some (.int (0 : Int32))) ((wr (wr M 68 0 ((M 68 0) + (0 : Int32))) 57 20 ((M 57 20) + (0 : Int32))), (gj gm), TTc ++ TTm)) ∧ (¬ (4 : Int32) ≤ (M 57 20) → (vp_in (M 66 0) 30 ∧ (vp_in (M 66 0) 30 ∧ RetOK X Q (some (.int (1 : Int32))) ((wr (wr M 68 (M 66 0).toNatClampNeg ((M 68 (M 66 0).toNatClampNeg) + (M 66 1))) 57 20 ((M 57 20) + (1 : Int32))), (gj gm), TTc ++ TTm)))))))))))))))) ∧ (x1 = (98 : Int32) → (((M 66 0) < (40 : Int32) → RetOK X Q (some (.int (0 : Int32))) ((wr (wr M 67 0 (M 67 0)) 57 18 ((M 57 18) + (0 : Int32))), (gj gm), TTc ++ TTm)) ∧ (¬ (M 66 0) < (40 : Int32) → (((99 : Int32) < (M 66 0) → RetOK X Q (some (.int (0 : Int32))) ((wr (wr M 67 0 (M 67 0)) 57 18 ((M 57 18) + (0 : Int32))), (gj gm), TTc ++ TTm)) ∧ (¬ (99 : Int32) < (M 66 0) → (((4 : Int32) ≤ (M 57 18) → RetOK X Q (some (.int (0 : Int32))) ((wr (wr M 67 0 (M 67 0)) 57 18 ((M 57 18) + (0 : Int32))), (gj gm), TTc ++ TTm)) ∧ (¬ (4 : Int32) ≤ (M 57 18) → (vp_in (M 57 18) 4 ∧ RetOK X Q (some (.int (1 : Int32))) ((wr (wr M 67 (M 57 18).toNatClampNeg (M 66 0)) 57 18 ((M 57 18) + (1 : Int32))), (gj gm), TTc ++ TTm))))))))))) ∧ (s0 = (0 : Int32) → RetOK X Q (some (.int (0 : Int32))) (M, (gj gm), TTc ++ TTm)))) :
    WW X Q 88 [(0, .ref 57), (1, .int x1)] [.int s0] (M, (gj gm), TTc ++ TTm) := by
  refine ww_if_ne (x := s0) C.1 (tgt := 93) dX10_readItem_88 (by decide) (fun hh => ?_) (fun hh => ?_)
  · replace h := h.1 hh
    refine ww_aload_n C.1 dX10_readItem_93 0 rfl rfl ?_
    refine wt_getR C.1 dX10_readItem_94 flRX10_44 tm57 rfl gm57_16 ?_
    refine ww_iconst C.1 (v := (0 : Int32)) dX10_readItem_97 (by decide) ?_
    refine wt_iald C.1 dX10_readItem_98 tm66 (vp_lit (by decide) (by decide)) ?_
    refine ww_istore_n C.1 dX10_readItem_99 rfl (by decide) [1, 2, 0] (L' := [(0, .ref 57), (1, .int x1), (2, .int (M 66 0))]) rfl ?_
    refine ww_aload_n C.1 dX10_readItem_100 0 rfl rfl ?_
    refine wt_getR C.1 dX10_readItem_101 flRX10_44 tm57 rfl gm57_16 ?_
    refine ww_iconst C.1 (v := (1 : Int32)) dX10_readItem_104 (by decide) ?_
    refine wt_iald C.1 dX10_readItem_105 tm66 (vp_lit (by decide) (by decide)) ?_
    refine ww_istore_n C.1 dX10_readItem_106 rfl (by decide) [1, 2, 3, 0] (L' := [(0, .ref 57), (1, .int x1), (2, .int (M 66 0)), (3, .int (M 66 1))]) rfl ?_
    refine ww_iconst C.1 (v := (0 : Int32)) dX10_readItem_107 (by decide) ?_
    refine ww_istore C.1 dX10_readItem_108 (by decide) [1, 2, 3, 4, 0] (L' := [(0, .ref 57), (1, .int x1), (2, .int (M 66 0)), (3, .int (M 66 1)), (4, .int (0 : Int32))]) rfl ?_
    refine ww_iload_n C.1 dX10_readItem_110 1 rfl rfl ?_
    refine ww_bipush C.1 (v := (98 : Int32)) dX10_readItem_111 (by decide) ?_
    refine ww_icmp_ne (x := x1) (y := (98 : Int32)) C.1 (tgt := 200) dX10_readItem_113 (by decide) (fun hh => ?_) (fun hh => ?_)
    · replace h := h.1 hh
      refine ww_iload_n C.1 dX10_readItem_200 1 rfl rfl ?_
      refine ww_bipush C.1 (v := (102 : Int32)) dX10_readItem_201 (by decide) ?_
      refine ww_icmp_ne (x := x1) (y := (102 : Int32)) C.1 (tgt := 295) dX10_readItem_203 (by decide) (fun hh => ?_) (fun hh => ?_)
      · replace h := h.1 hh
        refine ww_iload_n C.1 dX10_readItem_295 1 rfl rfl ?_
        refine ww_bipush C.1 (v := (103 : Int32)) dX10_readItem_296 (by decide) ?_
        refine ww_icmp_ne (x := x1) (y := (103 : Int32)) C.1 (tgt := 423) dX10_readItem_298 (by decide) (fun hh => ?_) (fun hh => ?_)
        · replace h := h.1 hh
          refine ww_iload_n C.1 dX10_readItem_423 1 rfl rfl ?_
          refine ww_bipush C.1 (v := (104 : Int32)) dX10_readItem_424 (by decide) ?_
          refine ww_icmp_ne (x := x1) (y := (104 : Int32)) C.1 (tgt := 506) dX10_readItem_426 (by decide) (fun hh => ?_) (fun hh => ?_)
          · replace h := h.1 hh
            refine ww_iload_n C.1 dX10_readItem_506 1 rfl rfl ?_
            refine ww_bipush C.1 (v := (107 : Int32)) dX10_readItem_507 (by decide) ?_
            refine ww_icmp_ne (x := x1) (y := (107 : Int32)) C.1 (tgt := 543) dX10_readItem_509 (by decide) (fun hh => ?_) (fun hh => ?_)
            · replace h := h.1 hh
              refine ww_iload_n C.1 dX10_readItem_543 2 rfl rfl ?_
              refine ww_i2l C.1 dX10_readItem_544 rfl ?_
              refine ww_ldc2 C.1 kcRX10_131 dX10_readItem_545 ?_
              refine ww_ldc2 C.1 kcRX10_133 dX10_readItem_548 ?_
              refine ww_sI C fX10_in (And.intro (by decide) (by decide)) mlRX10_101 dX10_readItem_551 (As := [.long (M 66 0).toInt64, .long (40 : Int64), .long (99 : Int64)]) (rest := []) rfl rfl rfl (Nat.le_of_ble_eq_true rfl) (WpI.of (L0 := [(0, .long (M 66 0).toInt64), (2, .long (40 : Int64)), (4, .long (99 : Int64))]) rfl rfl (Nat.le_of_ble_eq_true rfl) fun X1 Q1 C1 k1 => ?_)
              refine ww_lload_n C1.1 dX10_in_0 0 rfl rfl ?_
              refine ww_lload_n C1.1 dX10_in_1 1 rfl rfl ?_
              refine ww_lcmp C1.1 dX10_in_2 ?_
              refine ww_if_lt (x := (lg_cmp (M 66 0).toInt64 (40 : Int64))) C1.1 (tgt := 17) dX10_in_3 (by decide) (fun hh => ?_) (fun hh => ?_)
              · replace h := h.1 ((in_lt (a := (M 66 0)) (b := (40 : Int32)) (by first | rfl | decide) (by first | rfl | decide)).mp hh)
                refine ww_iconst C1.1 (v := (0 : Int32)) dX10_in_17 (by decide) ?_
                refine ww_zret C1.1 dX10_in_18 rfl (Or.inl rfl) ?_
                refine k1 _ _ ?_
                refine ww_if_eq (x := (0 : Int32)) C.1 (tgt := 569) dX10_readItem_554 (by decide) (fun _ => ?_) (fun hh => absurd hh (by decide))
                refine ww_iconst C.1 (v := (0 : Int32)) dX10_readItem_569 (by decide) ?_
                refine ww_istore C.1 dX10_readItem_570 (by decide) [1, 2, 3, 4, 0] (L' := [(0, .ref 57), (1, .int x1), (2, .int (M 66 0)), (3, .int (M 66 1)), (4, .int (0 : Int32))]) rfl ?_
                refine ww_aload_n C.1 dX10_readItem_572 0 rfl rfl ?_
                refine wt_getR C.1 dX10_readItem_573 flRX10_59 tm57 rfl gm57_24 ?_
                refine ww_iload C.1 dX10_readItem_576 4 rfl ?_
                refine ww_if_eq (x := (0 : Int32)) C.1 (tgt := 588) dX10_readItem_578 (by decide) (fun _ => ?_) (fun hh => absurd hh (by decide))
                refine ww_iconst C.1 (v := (0 : Int32)) dX10_readItem_588 (by decide) ?_
                refine ww_iload C.1 dX10_readItem_589 4 rfl ?_
                refine ww_if_eq (x := (0 : Int32)) C.1 (tgt := 598) dX10_readItem_591 (by decide) (fun _ => ?_) (fun hh => absurd hh (by decide))
                refine ww_aload_n C.1 dX10_readItem_598 0 rfl rfl ?_
                refine wt_getR C.1 dX10_readItem_599 flRX10_59 tm57 rfl gm57_24 ?_
                refine ww_iconst C.1 (v := (0 : Int32)) dX10_readItem_602 (by decide) ?_
                refine wt_iald C.1 dX10_readItem_603 tm71 (vp_lit (by decide) (by decide)) ?_
                refine wt_iast C.1 dX10_readItem_604 tm71 (vp_lit (by decide) (by decide)) ?_
                refine ww_aload_n C.1 dX10_readItem_605 0 rfl rfl ?_
                refine ww_dup C.1 dX10_readItem_606 rfl ?_
                refine wt_getI C.1 dX10_readItem_607 flRX10_153 tm57 rfl ?_
                refine ww_iload C.1 dX10_readItem_610 4 rfl ?_
                refine ww_if_eq (x := (0 : Int32)) C.1 (tgt := 619) dX10_readItem_612 (by decide) (fun _ => ?_) (fun hh => absurd hh (by decide))
                refine ww_iconst C.1 (v := (0 : Int32)) dX10_readItem_619 (by decide) ?_
                refine ww_iadd C.1 dX10_readItem_620 ?_
                refine wt_putI C.1 dX10_readItem_621 flRX10_153 tm57 rfl ?_
                refine ww_iload C.1 dX10_readItem_624 4 rfl ?_
                refine ww_zret C.1 dX10_readItem_626 rfl (Or.inl rfl) ?_
                exact h
              · replace h := h.2 (fun z => hh ((in_lt (a := (M 66 0)) (b := (40 : Int32)) (by first | rfl | decide) (by first | rfl | decide)).mpr z))
                refine ww_lload_n C1.1 dX10_in_6 0 rfl rfl ?_
                refine ww_lload C1.1 dX10_in_7 2 rfl ?_
                refine ww_lcmp C1.1 dX10_in_9 ?_
                refine ww_if_gt (x := (lg_cmp (M 66 0).toInt64 (99 : Int64))) C1.1 (tgt := 17) dX10_in_10 (by decide) (fun hh => ?_) (fun hh => ?_)
                · replace h := h.1 ((in_gt (a := (M 66 0)) (b := (99 : Int32)) (by first | rfl | decide) (by first | rfl | decide)).mp hh)
                  refine ww_iconst C1.1 (v := (0 : Int32)) dX10_in_17 (by decide) ?_
                  refine ww_zret C1.1 dX10_in_18 rfl (Or.inl rfl) ?_
                  refine k1 _ _ ?_
                  refine ww_if_eq (x := (0 : Int32)) C.1 (tgt := 569) dX10_readItem_554 (by decide) (fun _ => ?_) (fun hh => absurd hh (by decide))
                  refine ww_iconst C.1 (v := (0 : Int32)) dX10_readItem_569 (by decide) ?_
                  refine ww_istore C.1 dX10_readItem_570 (by decide) [1, 2, 3, 4, 0] (L' := [(0, .ref 57), (1, .int x1), (2, .int (M 66 0)), (3, .int (M 66 1)), (4, .int (0 : Int32))]) rfl ?_
                  refine ww_aload_n C.1 dX10_readItem_572 0 rfl rfl ?_
                  refine wt_getR C.1 dX10_readItem_573 flRX10_59 tm57 rfl gm57_24 ?_
                  refine ww_iload C.1 dX10_readItem_576 4 rfl ?_
                  refine ww_if_eq (x := (0 : Int32)) C.1 (tgt := 588) dX10_readItem_578 (by decide) (fun _ => ?_) (fun hh => absurd hh (by decide))
                  refine ww_iconst C.1 (v := (0 : Int32)) dX10_readItem_588 (by decide) ?_
                  refine ww_iload C.1 dX10_readItem_589 4 rfl ?_
                  refine ww_if_eq (x := (0 : Int32)) C.1 (tgt := 598) dX10_readItem_591 (by decide) (fun _ => ?_) (fun hh => absurd hh (by decide))
                  refine ww_aload_n C.1 dX10_readItem_598 0 rfl rfl ?_
                  refine wt_getR C.1 dX10_readItem_599 flRX10_59 tm57 rfl gm57_24 ?_
                  refine ww_iconst C.1 (v := (0 : Int32)) dX10_readItem_602 (by decide) ?_
                  refine wt_iald C.1 dX10_readItem_603 tm71 (vp_lit (by decide) (by decide)) ?_
                  refine wt_iast C.1 dX10_readItem_604 tm71 (vp_lit (by decide) (by decide)) ?_
                  refine ww_aload_n C.1 dX10_readItem_605 0 rfl rfl ?_
                  refine ww_dup C.1 dX10_readItem_606 rfl ?_
                  refine wt_getI C.1 dX10_readItem_607 flRX10_153 tm57 rfl ?_
                  refine ww_iload C.1 dX10_readItem_610 4 rfl ?_
                  refine ww_if_eq (x := (0 : Int32)) C.1 (tgt := 619) dX10_readItem_612 (by decide) (fun _ => ?_) (fun hh => absurd hh (by decide))
                  refine ww_iconst C.1 (v := (0 : Int32)) dX10_readItem_619 (by decide) ?_
                  refine ww_iadd C.1 dX10_readItem_620 ?_
                  refine wt_putI C.1 dX10_readItem_621 flRX10_153 tm57 rfl ?_
                  refine ww_iload C.1 dX10_readItem_624 4 rfl ?_
                  refine ww_zret C.1 dX10_readItem_626 rfl (Or.inl rfl) ?_
                  exact h
                · replace h := h.2 (fun z => hh ((in_gt (a := (M 66 0)) (b := (99 : Int32)) (by first | rfl | decide) (by first | rfl | decide)).mpr z))
                  refine ww_iconst C1.1 (v := (1 : Int32)) dX10_in_13 (by decide) ?_
                  refine ww_goto C1.1 (tgt := 18) dX10_in_14 (by decide) ?_
                  refine ww_zret C1.1 dX10_in_18 rfl (Or.inr rfl) ?_
                  refine k1 _ _ ?_
                  refine ww_if_eq (x := (1 : Int32)) C.1 (tgt := 569) dX10_readItem_554 (by decide) (fun hh => absurd hh (by decide)) (fun _ => ?_)
                  refine ww_aload_n C.1 dX10_readItem_557 0 rfl rfl ?_
                  refine wt_getI C.1 dX10_readItem_558 flRX10_153 tm57 rfl ?_
                  refine ww_iconst C.1 (v := (4 : Int32)) dX10_readItem_561 (by decide) ?_
                  refine ww_icmp_ge (x := (M 57 25)) (y := (4 : Int32)) C.1 (tgt := 569) dX10_readItem_562 (by decide) (fun hh => ?_) (fun hh => ?_)
                  · replace h := h.1 hh
                    refine ww_iconst C.1 (v := (0 : Int32)) dX10_readItem_569 (by decide) ?_
                    refine ww_istore C.1 dX10_readItem_570 (by decide) [1, 2, 3, 4, 0] (L' := [(0, .ref 57), (1, .int x1), (2, .int (M 66 0)), (3, .int (M 66 1)), (4, .int (0 : Int32))]) rfl ?_
                    refine ww_aload_n C.1 dX10_readItem_572 0 rfl rfl ?_
                    refine wt_getR C.1 dX10_readItem_573 flRX10_59 tm57 rfl gm57_24 ?_
                    refine ww_iload C.1 dX10_readItem_576 4 rfl ?_
                    refine ww_if_eq (x := (0 : Int32)) C.1 (tgt := 588) dX10_readItem_578 (by decide) (fun _ => ?_) (fun hh => absurd hh (by decide))
                    refine ww_iconst C.1 (v := (0 : Int32)) dX10_readItem_588 (by decide) ?_
                    refine ww_iload C.1 dX10_readItem_589 4 rfl ?_
                    refine ww_if_eq (x := (0 : Int32)) C.1 (tgt := 598) dX10_readItem_591 (by decide) (fun _ => ?_) (fun hh => absurd hh (by decide))
                    refine ww_aload_n C.1 dX10_readItem_598 0 rfl rfl ?_
                    refine wt_getR C.1 dX10_readItem_599 flRX10_59 tm57 rfl gm57_24 ?_
                    refine ww_iconst C.1 (v := (0 : Int32)) dX10_readItem_602 (by decide) ?_
                    refine wt_iald C.1 dX10_readItem_603 tm71 (vp_lit (by decide) (by decide)) ?_
                    refine wt_iast C.1 dX10_readItem_604 tm71 (vp_lit (by decide) (by decide)) ?_
                    refine ww_aload_n C.1 dX10_readItem_605 0 rfl rfl ?_
                    refine ww_dup C.1 dX10_readItem_606 rfl ?_
                    refine wt_getI C.1 dX10_readItem_607 flRX10_153 tm57 rfl ?_
                    refine ww_iload C.1 dX10_readItem_610 4 rfl ?_
                    refine ww_if_eq (x := (0 : Int32)) C.1 (tgt := 619) dX10_readItem_612 (by decide) (fun _ => ?_) (fun hh => absurd hh (by decide))
                    refine ww_iconst C.1 (v := (0 : Int32)) dX10_readItem_619 (by decide) ?_
                    refine ww_iadd C.1 dX10_readItem_620 ?_
                    refine wt_putI C.1 dX10_readItem_621 flRX10_153 tm57 rfl ?_
                    refine ww_iload C.1 dX10_readItem_624 4 rfl ?_
                    refine ww_zret C.1 dX10_readItem_626 rfl (Or.inl rfl) ?_
                    exact h
                  · replace h := h.2 hh
                    refine ww_iconst C.1 (v := (1 : Int32)) dX10_readItem_565 (by decide) ?_
                    refine ww_goto C.1 (tgt := 570) dX10_readItem_566 (by decide) ?_
                    refine ww_istore C.1 dX10_readItem_570 (by decide) [1, 2, 3, 4, 0] (L' := [(0, .ref 57), (1, .int x1), (2, .int (M 66 0)), (3, .int (M 66 1)), (4, .int (1 : Int32))]) rfl ?_
                    refine ww_aload_n C.1 dX10_readItem_572 0 rfl rfl ?_
                    refine wt_getR C.1 dX10_readItem_573 flRX10_59 tm57 rfl gm57_24 ?_
                    refine ww_iload C.1 dX10_readItem_576 4 rfl ?_
                    refine ww_if_eq (x := (1 : Int32)) C.1 (tgt := 588) dX10_readItem_578 (by decide) (fun hh => absurd hh (by decide)) (fun _ => ?_)
                    refine ww_aload_n C.1 dX10_readItem_581 0 rfl rfl ?_
                    refine wt_getI C.1 dX10_readItem_582 flRX10_153 tm57 rfl ?_
                    refine ww_goto C.1 (tgt := 589) dX10_readItem_585 (by decide) ?_
                    refine ww_iload C.1 dX10_readItem_589 4 rfl ?_
                    refine ww_if_eq (x := (1 : Int32)) C.1 (tgt := 598) dX10_readItem_591 (by decide) (fun hh => absurd hh (by decide)) (fun _ => ?_)
                    refine ww_iload_n C.1 dX10_readItem_594 2 rfl rfl ?_
                    refine ww_goto C.1 (tgt := 604) dX10_readItem_595 (by decide) ?_
                    refine wt_iast C.1 dX10_readItem_604 tm71 h.1 ?_
                    replace h := h.2
                    refine ww_aload_n C.1 dX10_readItem_605 0 rfl rfl ?_
                    refine ww_dup C.1 dX10_readItem_606 rfl ?_
                    refine wt_getI C.1 dX10_readItem_607 flRX10_153 tm57 rfl ?_
                    refine ww_iload C.1 dX10_readItem_610 4 rfl ?_
                    refine ww_if_eq (x := (1 : Int32)) C.1 (tgt := 619) dX10_readItem_612 (by decide) (fun hh => absurd hh (by decide)) (fun _ => ?_)
                    refine ww_iconst C.1 (v := (1 : Int32)) dX10_readItem_615 (by decide) ?_
                    refine ww_goto C.1 (tgt := 620) dX10_readItem_616 (by decide) ?_
                    refine ww_iadd C.1 dX10_readItem_620 ?_
                    refine wt_putI C.1 dX10_readItem_621 flRX10_153 tm57 rfl ?_
                    refine ww_iload C.1 dX10_readItem_624 4 rfl ?_
                    refine ww_zret C.1 dX10_readItem_626 rfl (Or.inr rfl) ?_
                    exact h
            · replace h := h.2 hh
              refine ww_iload_n C.1 dX10_readItem_512 2 rfl rfl ?_
              refine ww_i2l C.1 dX10_readItem_513 rfl ?_
              refine ww_lconst C.1 (v := 0) dX10_readItem_514 (by decide) ?_
              refine ww_ldc2 C.1 kcRX10_148 dX10_readItem_515 ?_
              refine ww_sI C fX10_in (And.intro (by decide) (by decide)) mlRX10_101 dX10_readItem_518 (As := [.long (M 66 0).toInt64, .long (0 : Int64), .long (2 : Int64)]) (rest := []) rfl rfl rfl (Nat.le_of_ble_eq_true rfl) (WpI.of (L0 := [(0, .long (M 66 0).toInt64), (2, .long (0 : Int64)), (4, .long (2 : Int64))]) rfl rfl (Nat.le_of_ble_eq_true rfl) fun X2 Q2 C2 k2 => ?_)
              refine ww_lload_n C2.1 dX10_in_0 0 rfl rfl ?_
              refine ww_lload_n C2.1 dX10_in_1 1 rfl rfl ?_
              refine ww_lcmp C2.1 dX10_in_2 ?_
              refine ww_if_lt (x := (lg_cmp (M 66 0).toInt64 (0 : Int64))) C2.1 (tgt := 17) dX10_in_3 (by decide) (fun hh => ?_) (fun hh => ?_)
              · replace h := h.1 ((in_lt (a := (M 66 0)) (b := (0 : Int32)) (by first | rfl | decide) (by first | rfl | decide)).mp hh)
                refine ww_iconst C2.1 (v := (0 : Int32)) dX10_in_17 (by decide) ?_
                refine ww_zret C2.1 dX10_in_18 rfl (Or.inl rfl) ?_
                refine k2 _ _ ?_
                refine ww_istore C.1 dX10_readItem_521 (by decide) [1, 2, 3, 4, 0] (L' := [(0, .ref 57), (1, .int x1), (2, .int (M 66 0)), (3, .int (M 66 1)), (4, .int (0 : Int32))]) rfl ?_
                refine ww_aload_n C.1 dX10_readItem_523 0 rfl rfl ?_
                refine ww_iload C.1 dX10_readItem_524 4 rfl ?_
                refine ww_if_eq (x := (0 : Int32)) C.1 (tgt := 533) dX10_readItem_526 (by decide) (fun _ => ?_) (fun hh => absurd hh (by decide))
                refine ww_aload_n C.1 dX10_readItem_533 0 rfl rfl ?_
                refine wt_getI C.1 dX10_readItem_534 flRX10_150 tm57 rfl ?_
                refine wt_putI C.1 dX10_readItem_537 flRX10_150 tm57 rfl ?_
                refine ww_goto C.1 (tgt := 624) dX10_readItem_540 (by decide) ?_
                refine ww_iload C.1 dX10_readItem_624 4 rfl ?_
                refine ww_zret C.1 dX10_readItem_626 rfl (Or.inl rfl) ?_
                exact h
              · replace h := h.2 (fun z => hh ((in_lt (a := (M 66 0)) (b := (0 : Int32)) (by first | rfl | decide) (by first | rfl | decide)).mpr z))
                refine ww_lload_n C2.1 dX10_in_6 0 rfl rfl ?_
                refine ww_lload C2.1 dX10_in_7 2 rfl ?_
                refine ww_lcmp C2.1 dX10_in_9 ?_
                refine ww_if_gt (x := (lg_cmp (M 66 0).toInt64 (2 : Int64))) C2.1 (tgt := 17) dX10_in_10 (by decide) (fun hh => ?_) (fun hh => ?_)
                · replace h := h.1 ((in_gt (a := (M 66 0)) (b := (2 : Int32)) (by first | rfl | decide) (by first | rfl | decide)).mp hh)
                  refine ww_iconst C2.1 (v := (0 : Int32)) dX10_in_17 (by decide) ?_
                  refine ww_zret C2.1 dX10_in_18 rfl (Or.inl rfl) ?_
                  refine k2 _ _ ?_
                  refine ww_istore C.1 dX10_readItem_521 (by decide) [1, 2, 3, 4, 0] (L' := [(0, .ref 57), (1, .int x1), (2, .int (M 66 0)), (3, .int (M 66 1)), (4, .int (0 : Int32))]) rfl ?_
                  refine ww_aload_n C.1 dX10_readItem_523 0 rfl rfl ?_
                  refine ww_iload C.1 dX10_readItem_524 4 rfl ?_
                  refine ww_if_eq (x := (0 : Int32)) C.1 (tgt := 533) dX10_readItem_526 (by decide) (fun _ => ?_) (fun hh => absurd hh (by decide))
                  refine ww_aload_n C.1 dX10_readItem_533 0 rfl rfl ?_
                  refine wt_getI C.1 dX10_readItem_534 flRX10_150 tm57 rfl ?_
                  refine wt_putI C.1 dX10_readItem_537 flRX10_150 tm57 rfl ?_
                  refine ww_goto C.1 (tgt := 624) dX10_readItem_540 (by decide) ?_
                  refine ww_iload C.1 dX10_readItem_624 4 rfl ?_
                  refine ww_zret C.1 dX10_readItem_626 rfl (Or.inl rfl) ?_
                  exact h
                · replace h := h.2 (fun z => hh ((in_gt (a := (M 66 0)) (b := (2 : Int32)) (by first | rfl | decide) (by first | rfl | decide)).mpr z))
                  refine ww_iconst C2.1 (v := (1 : Int32)) dX10_in_13 (by decide) ?_
                  refine ww_goto C2.1 (tgt := 18) dX10_in_14 (by decide) ?_
                  refine ww_zret C2.1 dX10_in_18 rfl (Or.inr rfl) ?_
                  refine k2 _ _ ?_
                  refine ww_istore C.1 dX10_readItem_521 (by decide) [1, 2, 3, 4, 0] (L' := [(0, .ref 57), (1, .int x1), (2, .int (M 66 0)), (3, .int (M 66 1)), (4, .int (1 : Int32))]) rfl ?_
                  refine ww_aload_n C.1 dX10_readItem_523 0 rfl rfl ?_
                  refine ww_iload C.1 dX10_readItem_524 4 rfl ?_
                  refine ww_if_eq (x := (1 : Int32)) C.1 (tgt := 533) dX10_readItem_526 (by decide) (fun hh => absurd hh (by decide)) (fun _ => ?_)
                  refine ww_iload_n C.1 dX10_readItem_529 2 rfl rfl ?_
                  refine ww_goto C.1 (tgt := 537) dX10_readItem_530 (by decide) ?_
                  refine wt_putI C.1 dX10_readItem_537 flRX10_150 tm57 rfl ?_
                  refine ww_goto C.1 (tgt := 624) dX10_readItem_540 (by decide) ?_
                  refine ww_iload C.1 dX10_readItem_624 4 rfl ?_
                  refine ww_zret C.1 dX10_readItem_626 rfl (Or.inr rfl) ?_
                  exact h
          · replace h := h.2 hh
            refine ww_iload_n C.1 dX10_readItem_429 2 rfl rfl ?_
            refine ww_i2l C.1 dX10_readItem_430 rfl ?_
            refine ww_lconst C.1 (v := 0) dX10_readItem_431 (by decide) ?_
            refine ww_aload_n C.1 dX10_readItem_432 0 rfl rfl ?_
            refine wt_getI C.1 dX10_readItem_433 flRX10_145 tm57 rfl ?_
            refine ww_iconst C.1 (v := (1 : Int32)) dX10_readItem_436 (by decide) ?_
            refine ww_isub C.1 dX10_readItem_437 ?_
            refine ww_i2l C.1 dX10_readItem_438 rfl ?_
            refine ww_sI C fX10_in (And.intro (by decide) (by decide)) mlRX10_101 dX10_readItem_439 (As := [.long (M 66 0).toInt64, .long (0 : Int64), .long ((M 57 23) - (1 : Int32)).toInt64]) (rest := []) rfl rfl rfl (Nat.le_of_ble_eq_true rfl) (WpI.of (L0 := [(0, .long (M 66 0).toInt64), (2, .long (0 : Int64)), (4, .long ((M 57 23) - (1 : Int32)).toInt64)]) rfl rfl (Nat.le_of_ble_eq_true rfl) fun X3 Q3 C3 k3 => ?_)
            refine ww_lload_n C3.1 dX10_in_0 0 rfl rfl ?_
            refine ww_lload_n C3.1 dX10_in_1 1 rfl rfl ?_
            refine ww_lcmp C3.1 dX10_in_2 ?_
            refine ww_if_lt (x := (lg_cmp (M 66 0).toInt64 (0 : Int64))) C3.1 (tgt := 17) dX10_in_3 (by decide) (fun hh => ?_) (fun hh => ?_)
            · replace h := h.1 ((in_lt (a := (M 66 0)) (b := (0 : Int32)) (by first | rfl | decide) (by first | rfl | decide)).mp hh)
              refine ww_iconst C3.1 (v := (0 : Int32)) dX10_in_17 (by decide) ?_
              refine ww_zret C3.1 dX10_in_18 rfl (Or.inl rfl) ?_
              refine k3 _ _ ?_
              refine ww_if_eq (x := (0 : Int32)) C.1 (tgt := 470) dX10_readItem_442 (by decide) (fun _ => ?_) (fun hh => absurd hh (by decide))
              refine ww_iconst C.1 (v := (0 : Int32)) dX10_readItem_470 (by decide) ?_
              refine ww_istore C.1 dX10_readItem_471 (by decide) [1, 2, 3, 4, 0] (L' := [(0, .ref 57), (1, .int x1), (2, .int (M 66 0)), (3, .int (M 66 1)), (4, .int (0 : Int32))]) rfl ?_
              refine ww_aload_n C.1 dX10_readItem_473 0 rfl rfl ?_
              refine wt_getR C.1 dX10_readItem_474 flRX10_56 tm57 rfl gm57_22 ?_
              refine ww_iload C.1 dX10_readItem_477 4 rfl ?_
              refine ww_if_eq (x := (0 : Int32)) C.1 (tgt := 486) dX10_readItem_479 (by decide) (fun _ => ?_) (fun hh => absurd hh (by decide))
              refine ww_iconst C.1 (v := (0 : Int32)) dX10_readItem_486 (by decide) ?_
              refine ww_dup2 C.1 dX10_readItem_487 rfl rfl ?_
              refine wt_iald C.1 dX10_readItem_488 tm70 (vp_lit (by decide) (by decide)) ?_
              refine ww_iload C.1 dX10_readItem_489 4 rfl ?_
              refine ww_if_eq (x := (0 : Int32)) C.1 (tgt := 500) dX10_readItem_491 (by decide) (fun _ => ?_) (fun hh => absurd hh (by decide))
              refine ww_iconst C.1 (v := (0 : Int32)) dX10_readItem_500 (by decide) ?_
              refine ww_ior C.1 dX10_readItem_501 ?_
              refine wt_iast C.1 dX10_readItem_502 tm70 (vp_lit (by decide) (by decide)) ?_
              refine ww_goto C.1 (tgt := 624) dX10_readItem_503 (by decide) ?_
              refine ww_iload C.1 dX10_readItem_624 4 rfl ?_
              refine ww_zret C.1 dX10_readItem_626 rfl (Or.inl rfl) ?_
              exact h
            · replace h := h.2 (fun z => hh ((in_lt (a := (M 66 0)) (b := (0 : Int32)) (by first | rfl | decide) (by first | rfl | decide)).mpr z))
              refine ww_lload_n C3.1 dX10_in_6 0 rfl rfl ?_
              refine ww_lload C3.1 dX10_in_7 2 rfl ?_
              refine ww_lcmp C3.1 dX10_in_9 ?_
              refine ww_if_gt (x := (lg_cmp (M 66 0).toInt64 ((M 57 23) - (1 : Int32)).toInt64)) C3.1 (tgt := 17) dX10_in_10 (by decide) (fun hh => ?_) (fun hh => ?_)
              · replace h := h.1 ((in_gt (a := (M 66 0)) (b := ((M 57 23) - (1 : Int32))) (by first | rfl | decide) (by first | rfl | decide)).mp hh)
                refine ww_iconst C3.1 (v := (0 : Int32)) dX10_in_17 (by decide) ?_
                refine ww_zret C3.1 dX10_in_18 rfl (Or.inl rfl) ?_
                refine k3 _ _ ?_
                refine ww_if_eq (x := (0 : Int32)) C.1 (tgt := 470) dX10_readItem_442 (by decide) (fun _ => ?_) (fun hh => absurd hh (by decide))
                refine ww_iconst C.1 (v := (0 : Int32)) dX10_readItem_470 (by decide) ?_
                refine ww_istore C.1 dX10_readItem_471 (by decide) [1, 2, 3, 4, 0] (L' := [(0, .ref 57), (1, .int x1), (2, .int (M 66 0)), (3, .int (M 66 1)), (4, .int (0 : Int32))]) rfl ?_
                refine ww_aload_n C.1 dX10_readItem_473 0 rfl rfl ?_
                refine wt_getR C.1 dX10_readItem_474 flRX10_56 tm57 rfl gm57_22 ?_
                refine ww_iload C.1 dX10_readItem_477 4 rfl ?_
                refine ww_if_eq (x := (0 : Int32)) C.1 (tgt := 486) dX10_readItem_479 (by decide) (fun _ => ?_) (fun hh => absurd hh (by decide))
                refine ww_iconst C.1 (v := (0 : Int32)) dX10_readItem_486 (by decide) ?_
                refine ww_dup2 C.1 dX10_readItem_487 rfl rfl ?_
                refine wt_iald C.1 dX10_readItem_488 tm70 (vp_lit (by decide) (by decide)) ?_
                refine ww_iload C.1 dX10_readItem_489 4 rfl ?_
                refine ww_if_eq (x := (0 : Int32)) C.1 (tgt := 500) dX10_readItem_491 (by decide) (fun _ => ?_) (fun hh => absurd hh (by decide))
                refine ww_iconst C.1 (v := (0 : Int32)) dX10_readItem_500 (by decide) ?_
                refine ww_ior C.1 dX10_readItem_501 ?_
                refine wt_iast C.1 dX10_readItem_502 tm70 (vp_lit (by decide) (by decide)) ?_
                refine ww_goto C.1 (tgt := 624) dX10_readItem_503 (by decide) ?_
                refine ww_iload C.1 dX10_readItem_624 4 rfl ?_
                refine ww_zret C.1 dX10_readItem_626 rfl (Or.inl rfl) ?_
                exact h
              · replace h := h.2 (fun z => hh ((in_gt (a := (M 66 0)) (b := ((M 57 23) - (1 : Int32))) (by first | rfl | decide) (by first | rfl | decide)).mpr z))
                refine ww_iconst C3.1 (v := (1 : Int32)) dX10_in_13 (by decide) ?_
                refine ww_goto C3.1 (tgt := 18) dX10_in_14 (by decide) ?_
                refine ww_zret C3.1 dX10_in_18 rfl (Or.inr rfl) ?_
                refine k3 _ _ ?_
                refine ww_if_eq (x := (1 : Int32)) C.1 (tgt := 470) dX10_readItem_442 (by decide) (fun hh => absurd hh (by decide)) (fun _ => ?_)
                refine ww_iload_n C.1 dX10_readItem_445 3 rfl rfl ?_
                refine ww_i2l C.1 dX10_readItem_446 rfl ?_
                refine ww_lconst C.1 (v := 0) dX10_readItem_447 (by decide) ?_
                refine ww_aload_n C.1 dX10_readItem_448 0 rfl rfl ?_
                refine wt_getI C.1 dX10_readItem_449 flRX10_145 tm57 rfl ?_
                refine ww_iconst C.1 (v := (1 : Int32)) dX10_readItem_452 (by decide) ?_
                refine ww_isub C.1 dX10_readItem_453 ?_
                refine ww_i2l C.1 dX10_readItem_454 rfl ?_
                refine ww_sI C fX10_in (And.intro (by decide) (by decide)) mlRX10_101 dX10_readItem_455 (As := [.long (M 66 1).toInt64, .long (0 : Int64), .long ((M 57 23) - (1 : Int32)).toInt64]) (rest := []) rfl rfl rfl (Nat.le_of_ble_eq_true rfl) (WpI.of (L0 := [(0, .long (M 66 1).toInt64), (2, .long (0 : Int64)), (4, .long ((M 57 23) - (1 : Int32)).toInt64)]) rfl rfl (Nat.le_of_ble_eq_true rfl) fun X4 Q4 C4 k4 => ?_)
                refine ww_lload_n C4.1 dX10_in_0 0 rfl rfl ?_
                refine ww_lload_n C4.1 dX10_in_1 1 rfl rfl ?_
                refine ww_lcmp C4.1 dX10_in_2 ?_
                refine ww_if_lt (x := (lg_cmp (M 66 1).toInt64 (0 : Int64))) C4.1 (tgt := 17) dX10_in_3 (by decide) (fun hh => ?_) (fun hh => ?_)
                · replace h := h.1 ((in_lt (a := (M 66 1)) (b := (0 : Int32)) (by first | rfl | decide) (by first | rfl | decide)).mp hh)
                  refine ww_iconst C4.1 (v := (0 : Int32)) dX10_in_17 (by decide) ?_
                  refine ww_zret C4.1 dX10_in_18 rfl (Or.inl rfl) ?_
                  refine k4 _ _ ?_
                  refine ww_if_eq (x := (0 : Int32)) C.1 (tgt := 470) dX10_readItem_458 (by decide) (fun _ => ?_) (fun hh => absurd hh (by decide))
                  refine ww_iconst C.1 (v := (0 : Int32)) dX10_readItem_470 (by decide) ?_
                  refine ww_istore C.1 dX10_readItem_471 (by decide) [1, 2, 3, 4, 0] (L' := [(0, .ref 57), (1, .int x1), (2, .int (M 66 0)), (3, .int (M 66 1)), (4, .int (0 : Int32))]) rfl ?_
                  refine ww_aload_n C.1 dX10_readItem_473 0 rfl rfl ?_
                  refine wt_getR C.1 dX10_readItem_474 flRX10_56 tm57 rfl gm57_22 ?_
                  refine ww_iload C.1 dX10_readItem_477 4 rfl ?_
                  refine ww_if_eq (x := (0 : Int32)) C.1 (tgt := 486) dX10_readItem_479 (by decide) (fun _ => ?_) (fun hh => absurd hh (by decide))
                  refine ww_iconst C.1 (v := (0 : Int32)) dX10_readItem_486 (by decide) ?_
                  refine ww_dup2 C.1 dX10_readItem_487 rfl rfl ?_
                  refine wt_iald C.1 dX10_readItem_488 tm70 (vp_lit (by decide) (by decide)) ?_
                  refine ww_iload C.1 dX10_readItem_489 4 rfl ?_
                  refine ww_if_eq (x := (0 : Int32)) C.1 (tgt := 500) dX10_readItem_491 (by decide) (fun _ => ?_) (fun hh => absurd hh (by decide))
                  refine ww_iconst C.1 (v := (0 : Int32)) dX10_readItem_500 (by decide) ?_
                  refine ww_ior C.1 dX10_readItem_501 ?_
                  refine wt_iast C.1 dX10_readItem_502 tm70 (vp_lit (by decide) (by decide)) ?_
                  refine ww_goto C.1 (tgt := 624) dX10_readItem_503 (by decide) ?_
                  refine ww_iload C.1 dX10_readItem_624 4 rfl ?_
                  refine ww_zret C.1 dX10_readItem_626 rfl (Or.inl rfl) ?_
                  exact h
                · replace h := h.2 (fun z => hh ((in_lt (a := (M 66 1)) (b := (0 : Int32)) (by first | rfl | decide) (by first | rfl | decide)).mpr z))
                  refine ww_lload_n C4.1 dX10_in_6 0 rfl rfl ?_
                  refine ww_lload C4.1 dX10_in_7 2 rfl ?_
                  refine ww_lcmp C4.1 dX10_in_9 ?_
                  refine ww_if_gt (x := (lg_cmp (M 66 1).toInt64 ((M 57 23) - (1 : Int32)).toInt64)) C4.1 (tgt := 17) dX10_in_10 (by decide) (fun hh => ?_) (fun hh => ?_)
                  · replace h := h.1 ((in_gt (a := (M 66 1)) (b := ((M 57 23) - (1 : Int32))) (by first | rfl | decide) (by first | rfl | decide)).mp hh)
                    refine ww_iconst C4.1 (v := (0 : Int32)) dX10_in_17 (by decide) ?_
                    refine ww_zret C4.1 dX10_in_18 rfl (Or.inl rfl) ?_
                    refine k4 _ _ ?_
                    refine ww_if_eq (x := (0 : Int32)) C.1 (tgt := 470) dX10_readItem_458 (by decide) (fun _ => ?_) (fun hh => absurd hh (by decide))
                    refine ww_iconst C.1 (v := (0 : Int32)) dX10_readItem_470 (by decide) ?_
                    refine ww_istore C.1 dX10_readItem_471 (by decide) [1, 2, 3, 4, 0] (L' := [(0, .ref 57), (1, .int x1), (2, .int (M 66 0)), (3, .int (M 66 1)), (4, .int (0 : Int32))]) rfl ?_
                    refine ww_aload_n C.1 dX10_readItem_473 0 rfl rfl ?_
                    refine wt_getR C.1 dX10_readItem_474 flRX10_56 tm57 rfl gm57_22 ?_
                    refine ww_iload C.1 dX10_readItem_477 4 rfl ?_
                    refine ww_if_eq (x := (0 : Int32)) C.1 (tgt := 486) dX10_readItem_479 (by decide) (fun _ => ?_) (fun hh => absurd hh (by decide))
                    refine ww_iconst C.1 (v := (0 : Int32)) dX10_readItem_486 (by decide) ?_
                    refine ww_dup2 C.1 dX10_readItem_487 rfl rfl ?_
                    refine wt_iald C.1 dX10_readItem_488 tm70 (vp_lit (by decide) (by decide)) ?_
                    refine ww_iload C.1 dX10_readItem_489 4 rfl ?_
                    refine ww_if_eq (x := (0 : Int32)) C.1 (tgt := 500) dX10_readItem_491 (by decide) (fun _ => ?_) (fun hh => absurd hh (by decide))
                    refine ww_iconst C.1 (v := (0 : Int32)) dX10_readItem_500 (by decide) ?_
                    refine ww_ior C.1 dX10_readItem_501 ?_
                    refine wt_iast C.1 dX10_readItem_502 tm70 (vp_lit (by decide) (by decide)) ?_
                    refine ww_goto C.1 (tgt := 624) dX10_readItem_503 (by decide) ?_
                    refine ww_iload C.1 dX10_readItem_624 4 rfl ?_
                    refine ww_zret C.1 dX10_readItem_626 rfl (Or.inl rfl) ?_
                    exact h
                  · replace h := h.2 (fun z => hh ((in_gt (a := (M 66 1)) (b := ((M 57 23) - (1 : Int32))) (by first | rfl | decide) (by first | rfl | decide)).mpr z))
                    refine ww_iconst C4.1 (v := (1 : Int32)) dX10_in_13 (by decide) ?_
                    refine ww_goto C4.1 (tgt := 18) dX10_in_14 (by decide) ?_
                    refine ww_zret C4.1 dX10_in_18 rfl (Or.inr rfl) ?_
                    refine k4 _ _ ?_
                    refine ww_if_eq (x := (1 : Int32)) C.1 (tgt := 470) dX10_readItem_458 (by decide) (fun hh => absurd hh (by decide)) (fun _ => ?_)
                    refine ww_iload_n C.1 dX10_readItem_461 2 rfl rfl ?_
                    refine ww_iload_n C.1 dX10_readItem_462 3 rfl rfl ?_
                    refine ww_icmp_eq (x := (M 66 0)) (y := (M 66 1)) C.1 (tgt := 470) dX10_readItem_463 (by decide) (fun hh => ?_) (fun hh => ?_)
                    · replace h := h.1 hh
                      refine ww_iconst C.1 (v := (0 : Int32)) dX10_readItem_470 (by decide) ?_
                      refine ww_istore C.1 dX10_readItem_471 (by decide) [1, 2, 3, 4, 0] (L' := [(0, .ref 57), (1, .int x1), (2, .int (M 66 0)), (3, .int (M 66 1)), (4, .int (0 : Int32))]) rfl ?_
                      refine ww_aload_n C.1 dX10_readItem_473 0 rfl rfl ?_
                      refine wt_getR C.1 dX10_readItem_474 flRX10_56 tm57 rfl gm57_22 ?_
                      refine ww_iload C.1 dX10_readItem_477 4 rfl ?_
                      refine ww_if_eq (x := (0 : Int32)) C.1 (tgt := 486) dX10_readItem_479 (by decide) (fun _ => ?_) (fun hh => absurd hh (by decide))
                      refine ww_iconst C.1 (v := (0 : Int32)) dX10_readItem_486 (by decide) ?_
                      refine ww_dup2 C.1 dX10_readItem_487 rfl rfl ?_
                      refine wt_iald C.1 dX10_readItem_488 tm70 (vp_lit (by decide) (by decide)) ?_
                      refine ww_iload C.1 dX10_readItem_489 4 rfl ?_
                      refine ww_if_eq (x := (0 : Int32)) C.1 (tgt := 500) dX10_readItem_491 (by decide) (fun _ => ?_) (fun hh => absurd hh (by decide))
                      refine ww_iconst C.1 (v := (0 : Int32)) dX10_readItem_500 (by decide) ?_
                      refine ww_ior C.1 dX10_readItem_501 ?_
                      refine wt_iast C.1 dX10_readItem_502 tm70 (vp_lit (by decide) (by decide)) ?_
                      refine ww_goto C.1 (tgt := 624) dX10_readItem_503 (by decide) ?_
                      refine ww_iload C.1 dX10_readItem_624 4 rfl ?_
                      refine ww_zret C.1 dX10_readItem_626 rfl (Or.inl rfl) ?_
                      exact h
                    · replace h := h.2 hh
                      refine ww_iconst C.1 (v := (1 : Int32)) dX10_readItem_466 (by decide) ?_
                      refine ww_goto C.1 (tgt := 471) dX10_readItem_467 (by decide) ?_
                      refine ww_istore C.1 dX10_readItem_471 (by decide) [1, 2, 3, 4, 0] (L' := [(0, .ref 57), (1, .int x1), (2, .int (M 66 0)), (3, .int (M 66 1)), (4, .int (1 : Int32))]) rfl ?_
                      refine ww_aload_n C.1 dX10_readItem_473 0 rfl rfl ?_
                      refine wt_getR C.1 dX10_readItem_474 flRX10_56 tm57 rfl gm57_22 ?_
                      refine ww_iload C.1 dX10_readItem_477 4 rfl ?_
                      refine ww_if_eq (x := (1 : Int32)) C.1 (tgt := 486) dX10_readItem_479 (by decide) (fun hh => absurd hh (by decide)) (fun _ => ?_)
                      refine ww_iload_n C.1 dX10_readItem_482 2 rfl rfl ?_
                      refine ww_goto C.1 (tgt := 487) dX10_readItem_483 (by decide) ?_
                      refine ww_dup2 C.1 dX10_readItem_487 rfl rfl ?_
                      refine wt_iald C.1 dX10_readItem_488 tm70 h.1 ?_
                      replace h := h.2
                      refine ww_iload C.1 dX10_readItem_489 4 rfl ?_
                      refine ww_if_eq (x := (1 : Int32)) C.1 (tgt := 500) dX10_readItem_491 (by decide) (fun hh => absurd hh (by decide)) (fun _ => ?_)
                      refine ww_iconst C.1 (v := (1 : Int32)) dX10_readItem_494 (by decide) ?_
                      refine ww_iload_n C.1 dX10_readItem_495 3 rfl rfl ?_
                      refine ww_ishl C.1 dX10_readItem_496 ?_
                      refine ww_goto C.1 (tgt := 501) dX10_readItem_497 (by decide) ?_
                      refine ww_ior C.1 dX10_readItem_501 ?_
                      refine wt_iast C.1 dX10_readItem_502 tm70 h.1 ?_
                      replace h := h.2
                      refine ww_goto C.1 (tgt := 624) dX10_readItem_503 (by decide) ?_
                      refine ww_iload C.1 dX10_readItem_624 4 rfl ?_
                      refine ww_zret C.1 dX10_readItem_626 rfl (Or.inr rfl) ?_
                      exact h
        · replace h := h.2 hh
          refine ww_iload_n C.1 dX10_readItem_301 2 rfl rfl ?_
          refine ww_i2l C.1 dX10_readItem_302 rfl ?_
          refine ww_ldc2 C.1 kcRX10_131 dX10_readItem_303 ?_
          refine ww_ldc2 C.1 kcRX10_133 dX10_readItem_306 ?_
          refine ww_sI C fX10_in (And.intro (by decide) (by decide)) mlRX10_101 dX10_readItem_309 (As := [.long (M 66 0).toInt64, .long (40 : Int64), .long (99 : Int64)]) (rest := []) rfl rfl rfl (Nat.le_of_ble_eq_true rfl) (WpI.of (L0 := [(0, .long (M 66 0).toInt64), (2, .long (40 : Int64)), (4, .long (99 : Int64))]) rfl rfl (Nat.le_of_ble_eq_true rfl) fun X5 Q5 C5 k5 => ?_)
          refine ww_lload_n C5.1 dX10_in_0 0 rfl rfl ?_
          refine ww_lload_n C5.1 dX10_in_1 1 rfl rfl ?_
          refine ww_lcmp C5.1 dX10_in_2 ?_
          refine ww_if_lt (x := (lg_cmp (M 66 0).toInt64 (40 : Int64))) C5.1 (tgt := 17) dX10_in_3 (by decide) (fun hh => ?_) (fun hh => ?_)
          · replace h := h.1 ((in_lt (a := (M 66 0)) (b := (40 : Int32)) (by first | rfl | decide) (by first | rfl | decide)).mp hh)
            refine ww_iconst C5.1 (v := (0 : Int32)) dX10_in_17 (by decide) ?_
            refine ww_zret C5.1 dX10_in_18 rfl (Or.inl rfl) ?_
            refine k5 _ _ ?_
            refine ww_if_eq (x := (0 : Int32)) C.1 (tgt := 357) dX10_readItem_312 (by decide) (fun _ => ?_) (fun hh => absurd hh (by decide))
            refine ww_iconst C.1 (v := (0 : Int32)) dX10_readItem_357 (by decide) ?_
            refine ww_istore C.1 dX10_readItem_358 (by decide) [1, 2, 3, 4, 0] (L' := [(0, .ref 57), (1, .int x1), (2, .int (M 66 0)), (3, .int (M 66 1)), (4, .int (0 : Int32))]) rfl ?_
            refine ww_iconst C.1 (v := (0 : Int32)) dX10_readItem_360 (by decide) ?_
            refine ww_istore C.1 dX10_readItem_361 (by decide) [1, 2, 3, 4, 5, 0] (L' := [(0, .ref 57), (1, .int x1), (2, .int (M 66 0)), (3, .int (M 66 1)), (4, .int (0 : Int32)), (5, .int (0 : Int32))]) rfl ?_
            exact h
          · replace h := h.2 (fun z => hh ((in_lt (a := (M 66 0)) (b := (40 : Int32)) (by first | rfl | decide) (by first | rfl | decide)).mpr z))
            refine ww_lload_n C5.1 dX10_in_6 0 rfl rfl ?_
            refine ww_lload C5.1 dX10_in_7 2 rfl ?_
            refine ww_lcmp C5.1 dX10_in_9 ?_
            refine ww_if_gt (x := (lg_cmp (M 66 0).toInt64 (99 : Int64))) C5.1 (tgt := 17) dX10_in_10 (by decide) (fun hh => ?_) (fun hh => ?_)
            · replace h := h.1 ((in_gt (a := (M 66 0)) (b := (99 : Int32)) (by first | rfl | decide) (by first | rfl | decide)).mp hh)
              refine ww_iconst C5.1 (v := (0 : Int32)) dX10_in_17 (by decide) ?_
              refine ww_zret C5.1 dX10_in_18 rfl (Or.inl rfl) ?_
              refine k5 _ _ ?_
              refine ww_if_eq (x := (0 : Int32)) C.1 (tgt := 357) dX10_readItem_312 (by decide) (fun _ => ?_) (fun hh => absurd hh (by decide))
              refine ww_iconst C.1 (v := (0 : Int32)) dX10_readItem_357 (by decide) ?_
              refine ww_istore C.1 dX10_readItem_358 (by decide) [1, 2, 3, 4, 0] (L' := [(0, .ref 57), (1, .int x1), (2, .int (M 66 0)), (3, .int (M 66 1)), (4, .int (0 : Int32))]) rfl ?_
              refine ww_iconst C.1 (v := (0 : Int32)) dX10_readItem_360 (by decide) ?_
              refine ww_istore C.1 dX10_readItem_361 (by decide) [1, 2, 3, 4, 5, 0] (L' := [(0, .ref 57), (1, .int x1), (2, .int (M 66 0)), (3, .int (M 66 1)), (4, .int (0 : Int32)), (5, .int (0 : Int32))]) rfl ?_
              exact h
            · replace h := h.2 (fun z => hh ((in_gt (a := (M 66 0)) (b := (99 : Int32)) (by first | rfl | decide) (by first | rfl | decide)).mpr z))
              refine ww_iconst C5.1 (v := (1 : Int32)) dX10_in_13 (by decide) ?_
              refine ww_goto C5.1 (tgt := 18) dX10_in_14 (by decide) ?_
              refine ww_zret C5.1 dX10_in_18 rfl (Or.inr rfl) ?_
              refine k5 _ _ ?_
              refine ww_if_eq (x := (1 : Int32)) C.1 (tgt := 357) dX10_readItem_312 (by decide) (fun hh => absurd hh (by decide)) (fun _ => ?_)
              refine ww_iload_n C.1 dX10_readItem_315 3 rfl rfl ?_
              refine ww_i2l C.1 dX10_readItem_316 rfl ?_
              refine ww_lconst C.1 (v := 0) dX10_readItem_317 (by decide) ?_
              refine ww_ldc2 C.1 kcRX10_138 dX10_readItem_318 ?_
              refine ww_sI C fX10_in (And.intro (by decide) (by decide)) mlRX10_101 dX10_readItem_321 (As := [.long (M 66 1).toInt64, .long (0 : Int64), .long (9 : Int64)]) (rest := []) rfl rfl rfl (Nat.le_of_ble_eq_true rfl) (WpI.of (L0 := [(0, .long (M 66 1).toInt64), (2, .long (0 : Int64)), (4, .long (9 : Int64))]) rfl rfl (Nat.le_of_ble_eq_true rfl) fun X6 Q6 C6 k6 => ?_)
              refine ww_lload_n C6.1 dX10_in_0 0 rfl rfl ?_
              refine ww_lload_n C6.1 dX10_in_1 1 rfl rfl ?_
              refine ww_lcmp C6.1 dX10_in_2 ?_
              refine ww_if_lt (x := (lg_cmp (M 66 1).toInt64 (0 : Int64))) C6.1 (tgt := 17) dX10_in_3 (by decide) (fun hh => ?_) (fun hh => ?_)
              · replace h := h.1 ((in_lt (a := (M 66 1)) (b := (0 : Int32)) (by first | rfl | decide) (by first | rfl | decide)).mp hh)
                refine ww_iconst C6.1 (v := (0 : Int32)) dX10_in_17 (by decide) ?_
                refine ww_zret C6.1 dX10_in_18 rfl (Or.inl rfl) ?_
                refine k6 _ _ ?_
                refine ww_if_eq (x := (0 : Int32)) C.1 (tgt := 357) dX10_readItem_324 (by decide) (fun _ => ?_) (fun hh => absurd hh (by decide))
                refine ww_iconst C.1 (v := (0 : Int32)) dX10_readItem_357 (by decide) ?_
                refine ww_istore C.1 dX10_readItem_358 (by decide) [1, 2, 3, 4, 0] (L' := [(0, .ref 57), (1, .int x1), (2, .int (M 66 0)), (3, .int (M 66 1)), (4, .int (0 : Int32))]) rfl ?_
                refine ww_iconst C.1 (v := (0 : Int32)) dX10_readItem_360 (by decide) ?_
                refine ww_istore C.1 dX10_readItem_361 (by decide) [1, 2, 3, 4, 5, 0] (L' := [(0, .ref 57), (1, .int x1), (2, .int (M 66 0)), (3, .int (M 66 1)), (4, .int (0 : Int32)), (5, .int (0 : Int32))]) rfl ?_
                exact h
              · replace h := h.2 (fun z => hh ((in_lt (a := (M 66 1)) (b := (0 : Int32)) (by first | rfl | decide) (by first | rfl | decide)).mpr z))
                refine ww_lload_n C6.1 dX10_in_6 0 rfl rfl ?_
                refine ww_lload C6.1 dX10_in_7 2 rfl ?_
                refine ww_lcmp C6.1 dX10_in_9 ?_
                refine ww_if_gt (x := (lg_cmp (M 66 1).toInt64 (9 : Int64))) C6.1 (tgt := 17) dX10_in_10 (by decide) (fun hh => ?_) (fun hh => ?_)
                · replace h := h.1 ((in_gt (a := (M 66 1)) (b := (9 : Int32)) (by first | rfl | decide) (by first | rfl | decide)).mp hh)
                  refine ww_iconst C6.1 (v := (0 : Int32)) dX10_in_17 (by decide) ?_
                  refine ww_zret C6.1 dX10_in_18 rfl (Or.inl rfl) ?_
                  refine k6 _ _ ?_
                  refine ww_if_eq (x := (0 : Int32)) C.1 (tgt := 357) dX10_readItem_324 (by decide) (fun _ => ?_) (fun hh => absurd hh (by decide))
                  refine ww_iconst C.1 (v := (0 : Int32)) dX10_readItem_357 (by decide) ?_
                  refine ww_istore C.1 dX10_readItem_358 (by decide) [1, 2, 3, 4, 0] (L' := [(0, .ref 57), (1, .int x1), (2, .int (M 66 0)), (3, .int (M 66 1)), (4, .int (0 : Int32))]) rfl ?_
                  refine ww_iconst C.1 (v := (0 : Int32)) dX10_readItem_360 (by decide) ?_
                  refine ww_istore C.1 dX10_readItem_361 (by decide) [1, 2, 3, 4, 5, 0] (L' := [(0, .ref 57), (1, .int x1), (2, .int (M 66 0)), (3, .int (M 66 1)), (4, .int (0 : Int32)), (5, .int (0 : Int32))]) rfl ?_
                  exact h
                · replace h := h.2 (fun z => hh ((in_gt (a := (M 66 1)) (b := (9 : Int32)) (by first | rfl | decide) (by first | rfl | decide)).mpr z))
                  refine ww_iconst C6.1 (v := (1 : Int32)) dX10_in_13 (by decide) ?_
                  refine ww_goto C6.1 (tgt := 18) dX10_in_14 (by decide) ?_
                  refine ww_zret C6.1 dX10_in_18 rfl (Or.inr rfl) ?_
                  refine k6 _ _ ?_
                  refine ww_if_eq (x := (1 : Int32)) C.1 (tgt := 357) dX10_readItem_324 (by decide) (fun hh => absurd hh (by decide)) (fun _ => ?_)
                  refine ww_aload_n C.1 dX10_readItem_327 0 rfl rfl ?_
                  refine wt_getR C.1 dX10_readItem_328 flRX10_44 tm57 rfl gm57_16 ?_
                  refine ww_iconst C.1 (v := (2 : Int32)) dX10_readItem_331 (by decide) ?_
                  refine wt_iald C.1 dX10_readItem_332 tm66 (vp_lit (by decide) (by decide)) ?_
                  refine ww_i2l C.1 dX10_readItem_333 rfl ?_
                  refine ww_lconst C.1 (v := 0) dX10_readItem_334 (by decide) ?_
                  refine ww_ldc2 C.1 kcRX10_143 dX10_readItem_335 ?_
                  refine ww_sI C fX10_in (And.intro (by decide) (by decide)) mlRX10_101 dX10_readItem_338 (As := [.long (M 66 2).toInt64, .long (0 : Int64), .long (4 : Int64)]) (rest := []) rfl rfl rfl (Nat.le_of_ble_eq_true rfl) (WpI.of (L0 := [(0, .long (M 66 2).toInt64), (2, .long (0 : Int64)), (4, .long (4 : Int64))]) rfl rfl (Nat.le_of_ble_eq_true rfl) fun X7 Q7 C7 k7 => ?_)
                  refine ww_lload_n C7.1 dX10_in_0 0 rfl rfl ?_
                  refine ww_lload_n C7.1 dX10_in_1 1 rfl rfl ?_
                  refine ww_lcmp C7.1 dX10_in_2 ?_
                  refine ww_if_lt (x := (lg_cmp (M 66 2).toInt64 (0 : Int64))) C7.1 (tgt := 17) dX10_in_3 (by decide) (fun hh => ?_) (fun hh => ?_)
                  · replace h := h.1 ((in_lt (a := (M 66 2)) (b := (0 : Int32)) (by first | rfl | decide) (by first | rfl | decide)).mp hh)
                    refine ww_iconst C7.1 (v := (0 : Int32)) dX10_in_17 (by decide) ?_
                    refine ww_zret C7.1 dX10_in_18 rfl (Or.inl rfl) ?_
                    refine k7 _ _ ?_
                    refine ww_if_eq (x := (0 : Int32)) C.1 (tgt := 357) dX10_readItem_341 (by decide) (fun _ => ?_) (fun hh => absurd hh (by decide))
                    refine ww_iconst C.1 (v := (0 : Int32)) dX10_readItem_357 (by decide) ?_
                    refine ww_istore C.1 dX10_readItem_358 (by decide) [1, 2, 3, 4, 0] (L' := [(0, .ref 57), (1, .int x1), (2, .int (M 66 0)), (3, .int (M 66 1)), (4, .int (0 : Int32))]) rfl ?_
                    refine ww_iconst C.1 (v := (0 : Int32)) dX10_readItem_360 (by decide) ?_
                    refine ww_istore C.1 dX10_readItem_361 (by decide) [1, 2, 3, 4, 5, 0] (L' := [(0, .ref 57), (1, .int x1), (2, .int (M 66 0)), (3, .int (M 66 1)), (4, .int (0 : Int32)), (5, .int (0 : Int32))]) rfl ?_
                    exact h
                  · replace h := h.2 (fun z => hh ((in_lt (a := (M 66 2)) (b := (0 : Int32)) (by first | rfl | decide) (by first | rfl | decide)).mpr z))
                    refine ww_lload_n C7.1 dX10_in_6 0 rfl rfl ?_
                    refine ww_lload C7.1 dX10_in_7 2 rfl ?_
                    refine ww_lcmp C7.1 dX10_in_9 ?_
                    refine ww_if_gt (x := (lg_cmp (M 66 2).toInt64 (4 : Int64))) C7.1 (tgt := 17) dX10_in_10 (by decide) (fun hh => ?_) (fun hh => ?_)
                    · replace h := h.1 ((in_gt (a := (M 66 2)) (b := (4 : Int32)) (by first | rfl | decide) (by first | rfl | decide)).mp hh)
                      refine ww_iconst C7.1 (v := (0 : Int32)) dX10_in_17 (by decide) ?_
                      refine ww_zret C7.1 dX10_in_18 rfl (Or.inl rfl) ?_
                      refine k7 _ _ ?_
                      refine ww_if_eq (x := (0 : Int32)) C.1 (tgt := 357) dX10_readItem_341 (by decide) (fun _ => ?_) (fun hh => absurd hh (by decide))
                      refine ww_iconst C.1 (v := (0 : Int32)) dX10_readItem_357 (by decide) ?_
                      refine ww_istore C.1 dX10_readItem_358 (by decide) [1, 2, 3, 4, 0] (L' := [(0, .ref 57), (1, .int x1), (2, .int (M 66 0)), (3, .int (M 66 1)), (4, .int (0 : Int32))]) rfl ?_
                      refine ww_iconst C.1 (v := (0 : Int32)) dX10_readItem_360 (by decide) ?_
                      refine ww_istore C.1 dX10_readItem_361 (by decide) [1, 2, 3, 4, 5, 0] (L' := [(0, .ref 57), (1, .int x1), (2, .int (M 66 0)), (3, .int (M 66 1)), (4, .int (0 : Int32)), (5, .int (0 : Int32))]) rfl ?_
                      exact h
                    · replace h := h.2 (fun z => hh ((in_gt (a := (M 66 2)) (b := (4 : Int32)) (by first | rfl | decide) (by first | rfl | decide)).mpr z))
                      refine ww_iconst C7.1 (v := (1 : Int32)) dX10_in_13 (by decide) ?_
                      refine ww_goto C7.1 (tgt := 18) dX10_in_14 (by decide) ?_
                      refine ww_zret C7.1 dX10_in_18 rfl (Or.inr rfl) ?_
                      refine k7 _ _ ?_
                      refine ww_if_eq (x := (1 : Int32)) C.1 (tgt := 357) dX10_readItem_341 (by decide) (fun hh => absurd hh (by decide)) (fun _ => ?_)
                      refine ww_aload_n C.1 dX10_readItem_344 0 rfl rfl ?_
                      refine wt_getI C.1 dX10_readItem_345 flRX10_145 tm57 rfl ?_
                      refine ww_bipush C.1 (v := (7 : Int32)) dX10_readItem_348 (by decide) ?_
                      refine ww_icmp_ge (x := (M 57 23)) (y := (7 : Int32)) C.1 (tgt := 357) dX10_readItem_350 (by decide) (fun hh => ?_) (fun hh => ?_)
                      · replace h := h.1 hh
                        refine ww_iconst C.1 (v := (0 : Int32)) dX10_readItem_357 (by decide) ?_
                        refine ww_istore C.1 dX10_readItem_358 (by decide) [1, 2, 3, 4, 0] (L' := [(0, .ref 57), (1, .int x1), (2, .int (M 66 0)), (3, .int (M 66 1)), (4, .int (0 : Int32))]) rfl ?_
                        refine ww_iconst C.1 (v := (0 : Int32)) dX10_readItem_360 (by decide) ?_
                        refine ww_istore C.1 dX10_readItem_361 (by decide) [1, 2, 3, 4, 5, 0] (L' := [(0, .ref 57), (1, .int x1), (2, .int (M 66 0)), (3, .int (M 66 1)), (4, .int (0 : Int32)), (5, .int (0 : Int32))]) rfl ?_
                        exact h
                      · replace h := h.2 hh
                        refine ww_iconst C.1 (v := (1 : Int32)) dX10_readItem_353 (by decide) ?_
                        refine ww_goto C.1 (tgt := 358) dX10_readItem_354 (by decide) ?_
                        refine ww_istore C.1 dX10_readItem_358 (by decide) [1, 2, 3, 4, 0] (L' := [(0, .ref 57), (1, .int x1), (2, .int (M 66 0)), (3, .int (M 66 1)), (4, .int (1 : Int32))]) rfl ?_
                        refine ww_iconst C.1 (v := (0 : Int32)) dX10_readItem_360 (by decide) ?_
                        refine ww_istore C.1 dX10_readItem_361 (by decide) [1, 2, 3, 4, 5, 0] (L' := [(0, .ref 57), (1, .int x1), (2, .int (M 66 0)), (3, .int (M 66 1)), (4, .int (1 : Int32)), (5, .int (0 : Int32))]) rfl ?_
                        exact h
      · replace h := h.2 hh
        refine ww_iload_n C.1 dX10_readItem_206 2 rfl rfl ?_
        refine ww_i2l C.1 dX10_readItem_207 rfl ?_
        refine ww_lconst C.1 (v := 0) dX10_readItem_208 (by decide) ?_
        refine ww_ldc2 C.1 kcRX10_105 dX10_readItem_209 ?_
        refine ww_sI C fX10_in (And.intro (by decide) (by decide)) mlRX10_101 dX10_readItem_212 (As := [.long (M 66 0).toInt64, .long (0 : Int64), .long (29 : Int64)]) (rest := []) rfl rfl rfl (Nat.le_of_ble_eq_true rfl) (WpI.of (L0 := [(0, .long (M 66 0).toInt64), (2, .long (0 : Int64)), (4, .long (29 : Int64))]) rfl rfl (Nat.le_of_ble_eq_true rfl) fun X8 Q8 C8 k8 => ?_)
        refine ww_lload_n C8.1 dX10_in_0 0 rfl rfl ?_
        refine ww_lload_n C8.1 dX10_in_1 1 rfl rfl ?_
        refine ww_lcmp C8.1 dX10_in_2 ?_
        refine ww_if_lt (x := (lg_cmp (M 66 0).toInt64 (0 : Int64))) C8.1 (tgt := 17) dX10_in_3 (by decide) (fun hh => ?_) (fun hh => ?_)
        · replace h := h.1 ((in_lt (a := (M 66 0)) (b := (0 : Int32)) (by first | rfl | decide) (by first | rfl | decide)).mp hh)
          refine ww_iconst C8.1 (v := (0 : Int32)) dX10_in_17 (by decide) ?_
          refine ww_zret C8.1 dX10_in_18 rfl (Or.inl rfl) ?_
          refine k8 _ _ ?_
          refine ww_if_eq (x := (0 : Int32)) C.1 (tgt := 242) dX10_readItem_215 (by decide) (fun _ => ?_) (fun hh => absurd hh (by decide))
          refine ww_iconst C.1 (v := (0 : Int32)) dX10_readItem_242 (by decide) ?_
          refine ww_istore C.1 dX10_readItem_243 (by decide) [1, 2, 3, 4, 0] (L' := [(0, .ref 57), (1, .int x1), (2, .int (M 66 0)), (3, .int (M 66 1)), (4, .int (0 : Int32))]) rfl ?_
          refine ww_aload_n C.1 dX10_readItem_245 0 rfl rfl ?_
          refine wt_getR C.1 dX10_readItem_246 flRX10_50 tm57 rfl gm57_19 ?_
          refine ww_iload C.1 dX10_readItem_249 4 rfl ?_
          refine ww_if_eq (x := (0 : Int32)) C.1 (tgt := 258) dX10_readItem_251 (by decide) (fun _ => ?_) (fun hh => absurd hh (by decide))
          refine ww_iconst C.1 (v := (0 : Int32)) dX10_readItem_258 (by decide) ?_
          refine ww_dup2 C.1 dX10_readItem_259 rfl rfl ?_
          refine wt_iald C.1 dX10_readItem_260 tm68 (vp_lit (by decide) (by decide)) ?_
          refine ww_iload C.1 dX10_readItem_261 4 rfl ?_
          refine ww_if_eq (x := (0 : Int32)) C.1 (tgt := 270) dX10_readItem_263 (by decide) (fun _ => ?_) (fun hh => absurd hh (by decide))
          refine ww_iconst C.1 (v := (0 : Int32)) dX10_readItem_270 (by decide) ?_
          refine ww_iadd C.1 dX10_readItem_271 ?_
          refine wt_iast C.1 dX10_readItem_272 tm68 (vp_lit (by decide) (by decide)) ?_
          refine ww_aload_n C.1 dX10_readItem_273 0 rfl rfl ?_
          refine ww_dup C.1 dX10_readItem_274 rfl ?_
          refine wt_getI C.1 dX10_readItem_275 flRX10_140 tm57 rfl ?_
          refine ww_iload C.1 dX10_readItem_278 4 rfl ?_
          refine ww_if_eq (x := (0 : Int32)) C.1 (tgt := 287) dX10_readItem_280 (by decide) (fun _ => ?_) (fun hh => absurd hh (by decide))
          refine ww_iconst C.1 (v := (0 : Int32)) dX10_readItem_287 (by decide) ?_
          refine ww_iadd C.1 dX10_readItem_288 ?_
          refine wt_putI C.1 dX10_readItem_289 flRX10_140 tm57 rfl ?_
          refine ww_goto C.1 (tgt := 624) dX10_readItem_292 (by decide) ?_
          refine ww_iload C.1 dX10_readItem_624 4 rfl ?_
          refine ww_zret C.1 dX10_readItem_626 rfl (Or.inl rfl) ?_
          exact h
        · replace h := h.2 (fun z => hh ((in_lt (a := (M 66 0)) (b := (0 : Int32)) (by first | rfl | decide) (by first | rfl | decide)).mpr z))
          refine ww_lload_n C8.1 dX10_in_6 0 rfl rfl ?_
          refine ww_lload C8.1 dX10_in_7 2 rfl ?_
          refine ww_lcmp C8.1 dX10_in_9 ?_
          refine ww_if_gt (x := (lg_cmp (M 66 0).toInt64 (29 : Int64))) C8.1 (tgt := 17) dX10_in_10 (by decide) (fun hh => ?_) (fun hh => ?_)
          · replace h := h.1 ((in_gt (a := (M 66 0)) (b := (29 : Int32)) (by first | rfl | decide) (by first | rfl | decide)).mp hh)
            refine ww_iconst C8.1 (v := (0 : Int32)) dX10_in_17 (by decide) ?_
            refine ww_zret C8.1 dX10_in_18 rfl (Or.inl rfl) ?_
            refine k8 _ _ ?_
            refine ww_if_eq (x := (0 : Int32)) C.1 (tgt := 242) dX10_readItem_215 (by decide) (fun _ => ?_) (fun hh => absurd hh (by decide))
            refine ww_iconst C.1 (v := (0 : Int32)) dX10_readItem_242 (by decide) ?_
            refine ww_istore C.1 dX10_readItem_243 (by decide) [1, 2, 3, 4, 0] (L' := [(0, .ref 57), (1, .int x1), (2, .int (M 66 0)), (3, .int (M 66 1)), (4, .int (0 : Int32))]) rfl ?_
            refine ww_aload_n C.1 dX10_readItem_245 0 rfl rfl ?_
            refine wt_getR C.1 dX10_readItem_246 flRX10_50 tm57 rfl gm57_19 ?_
            refine ww_iload C.1 dX10_readItem_249 4 rfl ?_
            refine ww_if_eq (x := (0 : Int32)) C.1 (tgt := 258) dX10_readItem_251 (by decide) (fun _ => ?_) (fun hh => absurd hh (by decide))
            refine ww_iconst C.1 (v := (0 : Int32)) dX10_readItem_258 (by decide) ?_
            refine ww_dup2 C.1 dX10_readItem_259 rfl rfl ?_
            refine wt_iald C.1 dX10_readItem_260 tm68 (vp_lit (by decide) (by decide)) ?_
            refine ww_iload C.1 dX10_readItem_261 4 rfl ?_
            refine ww_if_eq (x := (0 : Int32)) C.1 (tgt := 270) dX10_readItem_263 (by decide) (fun _ => ?_) (fun hh => absurd hh (by decide))
            refine ww_iconst C.1 (v := (0 : Int32)) dX10_readItem_270 (by decide) ?_
            refine ww_iadd C.1 dX10_readItem_271 ?_
            refine wt_iast C.1 dX10_readItem_272 tm68 (vp_lit (by decide) (by decide)) ?_
            refine ww_aload_n C.1 dX10_readItem_273 0 rfl rfl ?_
            refine ww_dup C.1 dX10_readItem_274 rfl ?_
            refine wt_getI C.1 dX10_readItem_275 flRX10_140 tm57 rfl ?_
            refine ww_iload C.1 dX10_readItem_278 4 rfl ?_
            refine ww_if_eq (x := (0 : Int32)) C.1 (tgt := 287) dX10_readItem_280 (by decide) (fun _ => ?_) (fun hh => absurd hh (by decide))
            refine ww_iconst C.1 (v := (0 : Int32)) dX10_readItem_287 (by decide) ?_
            refine ww_iadd C.1 dX10_readItem_288 ?_
            refine wt_putI C.1 dX10_readItem_289 flRX10_140 tm57 rfl ?_
            refine ww_goto C.1 (tgt := 624) dX10_readItem_292 (by decide) ?_
            refine ww_iload C.1 dX10_readItem_624 4 rfl ?_
            refine ww_zret C.1 dX10_readItem_626 rfl (Or.inl rfl) ?_
            exact h
          · replace h := h.2 (fun z => hh ((in_gt (a := (M 66 0)) (b := (29 : Int32)) (by first | rfl | decide) (by first | rfl | decide)).mpr z))
            refine ww_iconst C8.1 (v := (1 : Int32)) dX10_in_13 (by decide) ?_
            refine ww_goto C8.1 (tgt := 18) dX10_in_14 (by decide) ?_
            refine ww_zret C8.1 dX10_in_18 rfl (Or.inr rfl) ?_
            refine k8 _ _ ?_
            refine ww_if_eq (x := (1 : Int32)) C.1 (tgt := 242) dX10_readItem_215 (by decide) (fun hh => absurd hh (by decide)) (fun _ => ?_)
            refine ww_iload_n C.1 dX10_readItem_218 3 rfl rfl ?_
            refine ww_i2l C.1 dX10_readItem_219 rfl ?_
            refine ww_lconst C.1 (v := 0) dX10_readItem_220 (by decide) ?_
            refine ww_ldc2 C.1 kcRX10_138 dX10_readItem_221 ?_
            refine ww_sI C fX10_in (And.intro (by decide) (by decide)) mlRX10_101 dX10_readItem_224 (As := [.long (M 66 1).toInt64, .long (0 : Int64), .long (9 : Int64)]) (rest := []) rfl rfl rfl (Nat.le_of_ble_eq_true rfl) (WpI.of (L0 := [(0, .long (M 66 1).toInt64), (2, .long (0 : Int64)), (4, .long (9 : Int64))]) rfl rfl (Nat.le_of_ble_eq_true rfl) fun X9 Q9 C9 k9 => ?_)
            refine ww_lload_n C9.1 dX10_in_0 0 rfl rfl ?_
            refine ww_lload_n C9.1 dX10_in_1 1 rfl rfl ?_
            refine ww_lcmp C9.1 dX10_in_2 ?_
            refine ww_if_lt (x := (lg_cmp (M 66 1).toInt64 (0 : Int64))) C9.1 (tgt := 17) dX10_in_3 (by decide) (fun hh => ?_) (fun hh => ?_)
            · replace h := h.1 ((in_lt (a := (M 66 1)) (b := (0 : Int32)) (by first | rfl | decide) (by first | rfl | decide)).mp hh)
              refine ww_iconst C9.1 (v := (0 : Int32)) dX10_in_17 (by decide) ?_
              refine ww_zret C9.1 dX10_in_18 rfl (Or.inl rfl) ?_
              refine k9 _ _ ?_
              refine ww_if_eq (x := (0 : Int32)) C.1 (tgt := 242) dX10_readItem_227 (by decide) (fun _ => ?_) (fun hh => absurd hh (by decide))
              refine ww_iconst C.1 (v := (0 : Int32)) dX10_readItem_242 (by decide) ?_
              refine ww_istore C.1 dX10_readItem_243 (by decide) [1, 2, 3, 4, 0] (L' := [(0, .ref 57), (1, .int x1), (2, .int (M 66 0)), (3, .int (M 66 1)), (4, .int (0 : Int32))]) rfl ?_
              refine ww_aload_n C.1 dX10_readItem_245 0 rfl rfl ?_
              refine wt_getR C.1 dX10_readItem_246 flRX10_50 tm57 rfl gm57_19 ?_
              refine ww_iload C.1 dX10_readItem_249 4 rfl ?_
              refine ww_if_eq (x := (0 : Int32)) C.1 (tgt := 258) dX10_readItem_251 (by decide) (fun _ => ?_) (fun hh => absurd hh (by decide))
              refine ww_iconst C.1 (v := (0 : Int32)) dX10_readItem_258 (by decide) ?_
              refine ww_dup2 C.1 dX10_readItem_259 rfl rfl ?_
              refine wt_iald C.1 dX10_readItem_260 tm68 (vp_lit (by decide) (by decide)) ?_
              refine ww_iload C.1 dX10_readItem_261 4 rfl ?_
              refine ww_if_eq (x := (0 : Int32)) C.1 (tgt := 270) dX10_readItem_263 (by decide) (fun _ => ?_) (fun hh => absurd hh (by decide))
              refine ww_iconst C.1 (v := (0 : Int32)) dX10_readItem_270 (by decide) ?_
              refine ww_iadd C.1 dX10_readItem_271 ?_
              refine wt_iast C.1 dX10_readItem_272 tm68 (vp_lit (by decide) (by decide)) ?_
              refine ww_aload_n C.1 dX10_readItem_273 0 rfl rfl ?_
              refine ww_dup C.1 dX10_readItem_274 rfl ?_
              refine wt_getI C.1 dX10_readItem_275 flRX10_140 tm57 rfl ?_
              refine ww_iload C.1 dX10_readItem_278 4 rfl ?_
              refine ww_if_eq (x := (0 : Int32)) C.1 (tgt := 287) dX10_readItem_280 (by decide) (fun _ => ?_) (fun hh => absurd hh (by decide))
              refine ww_iconst C.1 (v := (0 : Int32)) dX10_readItem_287 (by decide) ?_
              refine ww_iadd C.1 dX10_readItem_288 ?_
              refine wt_putI C.1 dX10_readItem_289 flRX10_140 tm57 rfl ?_
              refine ww_goto C.1 (tgt := 624) dX10_readItem_292 (by decide) ?_
              refine ww_iload C.1 dX10_readItem_624 4 rfl ?_
              refine ww_zret C.1 dX10_readItem_626 rfl (Or.inl rfl) ?_
              exact h
            · replace h := h.2 (fun z => hh ((in_lt (a := (M 66 1)) (b := (0 : Int32)) (by first | rfl | decide) (by first | rfl | decide)).mpr z))
              refine ww_lload_n C9.1 dX10_in_6 0 rfl rfl ?_
              refine ww_lload C9.1 dX10_in_7 2 rfl ?_
              refine ww_lcmp C9.1 dX10_in_9 ?_
              refine ww_if_gt (x := (lg_cmp (M 66 1).toInt64 (9 : Int64))) C9.1 (tgt := 17) dX10_in_10 (by decide) (fun hh => ?_) (fun hh => ?_)
              · replace h := h.1 ((in_gt (a := (M 66 1)) (b := (9 : Int32)) (by first | rfl | decide) (by first | rfl | decide)).mp hh)
                refine ww_iconst C9.1 (v := (0 : Int32)) dX10_in_17 (by decide) ?_
                refine ww_zret C9.1 dX10_in_18 rfl (Or.inl rfl) ?_
                refine k9 _ _ ?_
                refine ww_if_eq (x := (0 : Int32)) C.1 (tgt := 242) dX10_readItem_227 (by decide) (fun _ => ?_) (fun hh => absurd hh (by decide))
                refine ww_iconst C.1 (v := (0 : Int32)) dX10_readItem_242 (by decide) ?_
                refine ww_istore C.1 dX10_readItem_243 (by decide) [1, 2, 3, 4, 0] (L' := [(0, .ref 57), (1, .int x1), (2, .int (M 66 0)), (3, .int (M 66 1)), (4, .int (0 : Int32))]) rfl ?_
                refine ww_aload_n C.1 dX10_readItem_245 0 rfl rfl ?_
                refine wt_getR C.1 dX10_readItem_246 flRX10_50 tm57 rfl gm57_19 ?_
                refine ww_iload C.1 dX10_readItem_249 4 rfl ?_
                refine ww_if_eq (x := (0 : Int32)) C.1 (tgt := 258) dX10_readItem_251 (by decide) (fun _ => ?_) (fun hh => absurd hh (by decide))
                refine ww_iconst C.1 (v := (0 : Int32)) dX10_readItem_258 (by decide) ?_
                refine ww_dup2 C.1 dX10_readItem_259 rfl rfl ?_
                refine wt_iald C.1 dX10_readItem_260 tm68 (vp_lit (by decide) (by decide)) ?_
                refine ww_iload C.1 dX10_readItem_261 4 rfl ?_
                refine ww_if_eq (x := (0 : Int32)) C.1 (tgt := 270) dX10_readItem_263 (by decide) (fun _ => ?_) (fun hh => absurd hh (by decide))
                refine ww_iconst C.1 (v := (0 : Int32)) dX10_readItem_270 (by decide) ?_
                refine ww_iadd C.1 dX10_readItem_271 ?_
                refine wt_iast C.1 dX10_readItem_272 tm68 (vp_lit (by decide) (by decide)) ?_
                refine ww_aload_n C.1 dX10_readItem_273 0 rfl rfl ?_
                refine ww_dup C.1 dX10_readItem_274 rfl ?_
                refine wt_getI C.1 dX10_readItem_275 flRX10_140 tm57 rfl ?_
                refine ww_iload C.1 dX10_readItem_278 4 rfl ?_
                refine ww_if_eq (x := (0 : Int32)) C.1 (tgt := 287) dX10_readItem_280 (by decide) (fun _ => ?_) (fun hh => absurd hh (by decide))
                refine ww_iconst C.1 (v := (0 : Int32)) dX10_readItem_287 (by decide) ?_
                refine ww_iadd C.1 dX10_readItem_288 ?_
                refine wt_putI C.1 dX10_readItem_289 flRX10_140 tm57 rfl ?_
                refine ww_goto C.1 (tgt := 624) dX10_readItem_292 (by decide) ?_
                refine ww_iload C.1 dX10_readItem_624 4 rfl ?_
                refine ww_zret C.1 dX10_readItem_626 rfl (Or.inl rfl) ?_
                exact h
              · replace h := h.2 (fun z => hh ((in_gt (a := (M 66 1)) (b := (9 : Int32)) (by first | rfl | decide) (by first | rfl | decide)).mpr z))
                refine ww_iconst C9.1 (v := (1 : Int32)) dX10_in_13 (by decide) ?_
                refine ww_goto C9.1 (tgt := 18) dX10_in_14 (by decide) ?_
                refine ww_zret C9.1 dX10_in_18 rfl (Or.inr rfl) ?_
                refine k9 _ _ ?_
                refine ww_if_eq (x := (1 : Int32)) C.1 (tgt := 242) dX10_readItem_227 (by decide) (fun hh => absurd hh (by decide)) (fun _ => ?_)
                refine ww_aload_n C.1 dX10_readItem_230 0 rfl rfl ?_
                refine wt_getI C.1 dX10_readItem_231 flRX10_140 tm57 rfl ?_
                refine ww_iconst C.1 (v := (4 : Int32)) dX10_readItem_234 (by decide) ?_
                refine ww_icmp_ge (x := (M 57 20)) (y := (4 : Int32)) C.1 (tgt := 242) dX10_readItem_235 (by decide) (fun hh => ?_) (fun hh => ?_)
                · replace h := h.1 hh
                  refine ww_iconst C.1 (v := (0 : Int32)) dX10_readItem_242 (by decide) ?_
                  refine ww_istore C.1 dX10_readItem_243 (by decide) [1, 2, 3, 4, 0] (L' := [(0, .ref 57), (1, .int x1), (2, .int (M 66 0)), (3, .int (M 66 1)), (4, .int (0 : Int32))]) rfl ?_
                  refine ww_aload_n C.1 dX10_readItem_245 0 rfl rfl ?_
                  refine wt_getR C.1 dX10_readItem_246 flRX10_50 tm57 rfl gm57_19 ?_
                  refine ww_iload C.1 dX10_readItem_249 4 rfl ?_
                  refine ww_if_eq (x := (0 : Int32)) C.1 (tgt := 258) dX10_readItem_251 (by decide) (fun _ => ?_) (fun hh => absurd hh (by decide))
                  refine ww_iconst C.1 (v := (0 : Int32)) dX10_readItem_258 (by decide) ?_
                  refine ww_dup2 C.1 dX10_readItem_259 rfl rfl ?_
                  refine wt_iald C.1 dX10_readItem_260 tm68 (vp_lit (by decide) (by decide)) ?_
                  refine ww_iload C.1 dX10_readItem_261 4 rfl ?_
                  refine ww_if_eq (x := (0 : Int32)) C.1 (tgt := 270) dX10_readItem_263 (by decide) (fun _ => ?_) (fun hh => absurd hh (by decide))
                  refine ww_iconst C.1 (v := (0 : Int32)) dX10_readItem_270 (by decide) ?_
                  refine ww_iadd C.1 dX10_readItem_271 ?_
                  refine wt_iast C.1 dX10_readItem_272 tm68 (vp_lit (by decide) (by decide)) ?_
                  refine ww_aload_n C.1 dX10_readItem_273 0 rfl rfl ?_
                  refine ww_dup C.1 dX10_readItem_274 rfl ?_
                  refine wt_getI C.1 dX10_readItem_275 flRX10_140 tm57 rfl ?_
                  refine ww_iload C.1 dX10_readItem_278 4 rfl ?_
                  refine ww_if_eq (x := (0 : Int32)) C.1 (tgt := 287) dX10_readItem_280 (by decide) (fun _ => ?_) (fun hh => absurd hh (by decide))
                  refine ww_iconst C.1 (v := (0 : Int32)) dX10_readItem_287 (by decide) ?_
                  refine ww_iadd C.1 dX10_readItem_288 ?_
                  refine wt_putI C.1 dX10_readItem_289 flRX10_140 tm57 rfl ?_
                  refine ww_goto C.1 (tgt := 624) dX10_readItem_292 (by decide) ?_
                  refine ww_iload C.1 dX10_readItem_624 4 rfl ?_
                  refine ww_zret C.1 dX10_readItem_626 rfl (Or.inl rfl) ?_
                  exact h
                · replace h := h.2 hh
                  refine ww_iconst C.1 (v := (1 : Int32)) dX10_readItem_238 (by decide) ?_
                  refine ww_goto C.1 (tgt := 243) dX10_readItem_239 (by decide) ?_
                  refine ww_istore C.1 dX10_readItem_243 (by decide) [1, 2, 3, 4, 0] (L' := [(0, .ref 57), (1, .int x1), (2, .int (M 66 0)), (3, .int (M 66 1)), (4, .int (1 : Int32))]) rfl ?_
                  refine ww_aload_n C.1 dX10_readItem_245 0 rfl rfl ?_
                  refine wt_getR C.1 dX10_readItem_246 flRX10_50 tm57 rfl gm57_19 ?_
                  refine ww_iload C.1 dX10_readItem_249 4 rfl ?_
                  refine ww_if_eq (x := (1 : Int32)) C.1 (tgt := 258) dX10_readItem_251 (by decide) (fun hh => absurd hh (by decide)) (fun _ => ?_)
                  refine ww_iload_n C.1 dX10_readItem_254 2 rfl rfl ?_
                  refine ww_goto C.1 (tgt := 259) dX10_readItem_255 (by decide) ?_
                  refine ww_dup2 C.1 dX10_readItem_259 rfl rfl ?_
                  refine wt_iald C.1 dX10_readItem_260 tm68 h.1 ?_
                  replace h := h.2
                  refine ww_iload C.1 dX10_readItem_261 4 rfl ?_
                  refine ww_if_eq (x := (1 : Int32)) C.1 (tgt := 270) dX10_readItem_263 (by decide) (fun hh => absurd hh (by decide)) (fun _ => ?_)
                  refine ww_iload_n C.1 dX10_readItem_266 3 rfl rfl ?_
                  refine ww_goto C.1 (tgt := 271) dX10_readItem_267 (by decide) ?_
                  refine ww_iadd C.1 dX10_readItem_271 ?_
                  refine wt_iast C.1 dX10_readItem_272 tm68 h.1 ?_
                  replace h := h.2
                  refine ww_aload_n C.1 dX10_readItem_273 0 rfl rfl ?_
                  refine ww_dup C.1 dX10_readItem_274 rfl ?_
                  refine wt_getI C.1 dX10_readItem_275 flRX10_140 tm57 rfl ?_
                  refine ww_iload C.1 dX10_readItem_278 4 rfl ?_
                  refine ww_if_eq (x := (1 : Int32)) C.1 (tgt := 287) dX10_readItem_280 (by decide) (fun hh => absurd hh (by decide)) (fun _ => ?_)
                  refine ww_iconst C.1 (v := (1 : Int32)) dX10_readItem_283 (by decide) ?_
                  refine ww_goto C.1 (tgt := 288) dX10_readItem_284 (by decide) ?_
                  refine ww_iadd C.1 dX10_readItem_288 ?_
                  refine wt_putI C.1 dX10_readItem_289 flRX10_140 tm57 rfl ?_
                  refine ww_goto C.1 (tgt := 624) dX10_readItem_292 (by decide) ?_
                  refine ww_iload C.1 dX10_readItem_624 4 rfl ?_
                  refine ww_zret C.1 dX10_readItem_626 rfl (Or.inr rfl) ?_
                  exact h
    · replace h := h.2 hh
      refine ww_iload_n C.1 dX10_readItem_116 2 rfl rfl ?_
      refine ww_i2l C.1 dX10_readItem_117 rfl ?_
      refine ww_ldc2 C.1 kcRX10_131 dX10_readItem_118 ?_
      refine ww_ldc2 C.1 kcRX10_133 dX10_readItem_121 ?_
      refine ww_sI C fX10_in (And.intro (by decide) (by decide)) mlRX10_101 dX10_readItem_124 (As := [.long (M 66 0).toInt64, .long (40 : Int64), .long (99 : Int64)]) (rest := []) rfl rfl rfl (Nat.le_of_ble_eq_true rfl) (WpI.of (L0 := [(0, .long (M 66 0).toInt64), (2, .long (40 : Int64)), (4, .long (99 : Int64))]) rfl rfl (Nat.le_of_ble_eq_true rfl) fun X10 Q10 C10 k10 => ?_)
      refine ww_lload_n C10.1 dX10_in_0 0 rfl rfl ?_
      refine ww_lload_n C10.1 dX10_in_1 1 rfl rfl ?_
      refine ww_lcmp C10.1 dX10_in_2 ?_
      refine ww_if_lt (x := (lg_cmp (M 66 0).toInt64 (40 : Int64))) C10.1 (tgt := 17) dX10_in_3 (by decide) (fun hh => ?_) (fun hh => ?_)
      · replace h := h.1 ((in_lt (a := (M 66 0)) (b := (40 : Int32)) (by first | rfl | decide) (by first | rfl | decide)).mp hh)
        refine ww_iconst C10.1 (v := (0 : Int32)) dX10_in_17 (by decide) ?_
        refine ww_zret C10.1 dX10_in_18 rfl (Or.inl rfl) ?_
        refine k10 _ _ ?_
        refine ww_if_eq (x := (0 : Int32)) C.1 (tgt := 142) dX10_readItem_127 (by decide) (fun _ => ?_) (fun hh => absurd hh (by decide))
        refine ww_iconst C.1 (v := (0 : Int32)) dX10_readItem_142 (by decide) ?_
        refine ww_istore C.1 dX10_readItem_143 (by decide) [1, 2, 3, 4, 0] (L' := [(0, .ref 57), (1, .int x1), (2, .int (M 66 0)), (3, .int (M 66 1)), (4, .int (0 : Int32))]) rfl ?_
        refine ww_aload_n C.1 dX10_readItem_145 0 rfl rfl ?_
        refine wt_getR C.1 dX10_readItem_146 flRX10_47 tm57 rfl gm57_17 ?_
        refine ww_iload C.1 dX10_readItem_149 4 rfl ?_
        refine ww_if_eq (x := (0 : Int32)) C.1 (tgt := 161) dX10_readItem_151 (by decide) (fun _ => ?_) (fun hh => absurd hh (by decide))
        refine ww_iconst C.1 (v := (0 : Int32)) dX10_readItem_161 (by decide) ?_
        refine ww_iload C.1 dX10_readItem_162 4 rfl ?_
        refine ww_if_eq (x := (0 : Int32)) C.1 (tgt := 171) dX10_readItem_164 (by decide) (fun _ => ?_) (fun hh => absurd hh (by decide))
        refine ww_aload_n C.1 dX10_readItem_171 0 rfl rfl ?_
        refine wt_getR C.1 dX10_readItem_172 flRX10_47 tm57 rfl gm57_17 ?_
        refine ww_iconst C.1 (v := (0 : Int32)) dX10_readItem_175 (by decide) ?_
        refine wt_iald C.1 dX10_readItem_176 tm67 (vp_lit (by decide) (by decide)) ?_
        refine wt_iast C.1 dX10_readItem_177 tm67 (vp_lit (by decide) (by decide)) ?_
        refine ww_aload_n C.1 dX10_readItem_178 0 rfl rfl ?_
        refine ww_dup C.1 dX10_readItem_179 rfl ?_
        refine wt_getI C.1 dX10_readItem_180 flRX10_135 tm57 rfl ?_
        refine ww_iload C.1 dX10_readItem_183 4 rfl ?_
        refine ww_if_eq (x := (0 : Int32)) C.1 (tgt := 192) dX10_readItem_185 (by decide) (fun _ => ?_) (fun hh => absurd hh (by decide))
        refine ww_iconst C.1 (v := (0 : Int32)) dX10_readItem_192 (by decide) ?_
        refine ww_iadd C.1 dX10_readItem_193 ?_
        refine wt_putI C.1 dX10_readItem_194 flRX10_135 tm57 rfl ?_
        refine ww_goto C.1 (tgt := 624) dX10_readItem_197 (by decide) ?_
        refine ww_iload C.1 dX10_readItem_624 4 rfl ?_
        refine ww_zret C.1 dX10_readItem_626 rfl (Or.inl rfl) ?_
        exact h
      · replace h := h.2 (fun z => hh ((in_lt (a := (M 66 0)) (b := (40 : Int32)) (by first | rfl | decide) (by first | rfl | decide)).mpr z))
        refine ww_lload_n C10.1 dX10_in_6 0 rfl rfl ?_
        refine ww_lload C10.1 dX10_in_7 2 rfl ?_
        refine ww_lcmp C10.1 dX10_in_9 ?_
        refine ww_if_gt (x := (lg_cmp (M 66 0).toInt64 (99 : Int64))) C10.1 (tgt := 17) dX10_in_10 (by decide) (fun hh => ?_) (fun hh => ?_)
        · replace h := h.1 ((in_gt (a := (M 66 0)) (b := (99 : Int32)) (by first | rfl | decide) (by first | rfl | decide)).mp hh)
          refine ww_iconst C10.1 (v := (0 : Int32)) dX10_in_17 (by decide) ?_
          refine ww_zret C10.1 dX10_in_18 rfl (Or.inl rfl) ?_
          refine k10 _ _ ?_
          refine ww_if_eq (x := (0 : Int32)) C.1 (tgt := 142) dX10_readItem_127 (by decide) (fun _ => ?_) (fun hh => absurd hh (by decide))
          refine ww_iconst C.1 (v := (0 : Int32)) dX10_readItem_142 (by decide) ?_
          refine ww_istore C.1 dX10_readItem_143 (by decide) [1, 2, 3, 4, 0] (L' := [(0, .ref 57), (1, .int x1), (2, .int (M 66 0)), (3, .int (M 66 1)), (4, .int (0 : Int32))]) rfl ?_
          refine ww_aload_n C.1 dX10_readItem_145 0 rfl rfl ?_
          refine wt_getR C.1 dX10_readItem_146 flRX10_47 tm57 rfl gm57_17 ?_
          refine ww_iload C.1 dX10_readItem_149 4 rfl ?_
          refine ww_if_eq (x := (0 : Int32)) C.1 (tgt := 161) dX10_readItem_151 (by decide) (fun _ => ?_) (fun hh => absurd hh (by decide))
          refine ww_iconst C.1 (v := (0 : Int32)) dX10_readItem_161 (by decide) ?_
          refine ww_iload C.1 dX10_readItem_162 4 rfl ?_
          refine ww_if_eq (x := (0 : Int32)) C.1 (tgt := 171) dX10_readItem_164 (by decide) (fun _ => ?_) (fun hh => absurd hh (by decide))
          refine ww_aload_n C.1 dX10_readItem_171 0 rfl rfl ?_
          refine wt_getR C.1 dX10_readItem_172 flRX10_47 tm57 rfl gm57_17 ?_
          refine ww_iconst C.1 (v := (0 : Int32)) dX10_readItem_175 (by decide) ?_
          refine wt_iald C.1 dX10_readItem_176 tm67 (vp_lit (by decide) (by decide)) ?_
          refine wt_iast C.1 dX10_readItem_177 tm67 (vp_lit (by decide) (by decide)) ?_
          refine ww_aload_n C.1 dX10_readItem_178 0 rfl rfl ?_
          refine ww_dup C.1 dX10_readItem_179 rfl ?_
          refine wt_getI C.1 dX10_readItem_180 flRX10_135 tm57 rfl ?_
          refine ww_iload C.1 dX10_readItem_183 4 rfl ?_
          refine ww_if_eq (x := (0 : Int32)) C.1 (tgt := 192) dX10_readItem_185 (by decide) (fun _ => ?_) (fun hh => absurd hh (by decide))
          refine ww_iconst C.1 (v := (0 : Int32)) dX10_readItem_192 (by decide) ?_
          refine ww_iadd C.1 dX10_readItem_193 ?_
          refine wt_putI C.1 dX10_readItem_194 flRX10_135 tm57 rfl ?_
          refine ww_goto C.1 (tgt := 624) dX10_readItem_197 (by decide) ?_
          refine ww_iload C.1 dX10_readItem_624 4 rfl ?_
          refine ww_zret C.1 dX10_readItem_626 rfl (Or.inl rfl) ?_
          exact h
        · replace h := h.2 (fun z => hh ((in_gt (a := (M 66 0)) (b := (99 : Int32)) (by first | rfl | decide) (by first | rfl | decide)).mpr z))
          refine ww_iconst C10.1 (v := (1 : Int32)) dX10_in_13 (by decide) ?_
          refine ww_goto C10.1 (tgt := 18) dX10_in_14 (by decide) ?_
          refine ww_zret C10.1 dX10_in_18 rfl (Or.inr rfl) ?_
          refine k10 _ _ ?_
          refine ww_if_eq (x := (1 : Int32)) C.1 (tgt := 142) dX10_readItem_127 (by decide) (fun hh => absurd hh (by decide)) (fun _ => ?_)
          refine ww_aload_n C.1 dX10_readItem_130 0 rfl rfl ?_
          refine wt_getI C.1 dX10_readItem_131 flRX10_135 tm57 rfl ?_
          refine ww_iconst C.1 (v := (4 : Int32)) dX10_readItem_134 (by decide) ?_
          refine ww_icmp_ge (x := (M 57 18)) (y := (4 : Int32)) C.1 (tgt := 142) dX10_readItem_135 (by decide) (fun hh => ?_) (fun hh => ?_)
          · replace h := h.1 hh
            refine ww_iconst C.1 (v := (0 : Int32)) dX10_readItem_142 (by decide) ?_
            refine ww_istore C.1 dX10_readItem_143 (by decide) [1, 2, 3, 4, 0] (L' := [(0, .ref 57), (1, .int x1), (2, .int (M 66 0)), (3, .int (M 66 1)), (4, .int (0 : Int32))]) rfl ?_
            refine ww_aload_n C.1 dX10_readItem_145 0 rfl rfl ?_
            refine wt_getR C.1 dX10_readItem_146 flRX10_47 tm57 rfl gm57_17 ?_
            refine ww_iload C.1 dX10_readItem_149 4 rfl ?_
            refine ww_if_eq (x := (0 : Int32)) C.1 (tgt := 161) dX10_readItem_151 (by decide) (fun _ => ?_) (fun hh => absurd hh (by decide))
            refine ww_iconst C.1 (v := (0 : Int32)) dX10_readItem_161 (by decide) ?_
            refine ww_iload C.1 dX10_readItem_162 4 rfl ?_
            refine ww_if_eq (x := (0 : Int32)) C.1 (tgt := 171) dX10_readItem_164 (by decide) (fun _ => ?_) (fun hh => absurd hh (by decide))
            refine ww_aload_n C.1 dX10_readItem_171 0 rfl rfl ?_
            refine wt_getR C.1 dX10_readItem_172 flRX10_47 tm57 rfl gm57_17 ?_
            refine ww_iconst C.1 (v := (0 : Int32)) dX10_readItem_175 (by decide) ?_
            refine wt_iald C.1 dX10_readItem_176 tm67 (vp_lit (by decide) (by decide)) ?_
            refine wt_iast C.1 dX10_readItem_177 tm67 (vp_lit (by decide) (by decide)) ?_
            refine ww_aload_n C.1 dX10_readItem_178 0 rfl rfl ?_
            refine ww_dup C.1 dX10_readItem_179 rfl ?_
            refine wt_getI C.1 dX10_readItem_180 flRX10_135 tm57 rfl ?_
            refine ww_iload C.1 dX10_readItem_183 4 rfl ?_
            refine ww_if_eq (x := (0 : Int32)) C.1 (tgt := 192) dX10_readItem_185 (by decide) (fun _ => ?_) (fun hh => absurd hh (by decide))
            refine ww_iconst C.1 (v := (0 : Int32)) dX10_readItem_192 (by decide) ?_
            refine ww_iadd C.1 dX10_readItem_193 ?_
            refine wt_putI C.1 dX10_readItem_194 flRX10_135 tm57 rfl ?_
            refine ww_goto C.1 (tgt := 624) dX10_readItem_197 (by decide) ?_
            refine ww_iload C.1 dX10_readItem_624 4 rfl ?_
            refine ww_zret C.1 dX10_readItem_626 rfl (Or.inl rfl) ?_
            exact h
          · replace h := h.2 hh
            refine ww_iconst C.1 (v := (1 : Int32)) dX10_readItem_138 (by decide) ?_
            refine ww_goto C.1 (tgt := 143) dX10_readItem_139 (by decide) ?_
            refine ww_istore C.1 dX10_readItem_143 (by decide) [1, 2, 3, 4, 0] (L' := [(0, .ref 57), (1, .int x1), (2, .int (M 66 0)), (3, .int (M 66 1)), (4, .int (1 : Int32))]) rfl ?_
            refine ww_aload_n C.1 dX10_readItem_145 0 rfl rfl ?_
            refine wt_getR C.1 dX10_readItem_146 flRX10_47 tm57 rfl gm57_17 ?_
            refine ww_iload C.1 dX10_readItem_149 4 rfl ?_
            refine ww_if_eq (x := (1 : Int32)) C.1 (tgt := 161) dX10_readItem_151 (by decide) (fun hh => absurd hh (by decide)) (fun _ => ?_)
            refine ww_aload_n C.1 dX10_readItem_154 0 rfl rfl ?_
            refine wt_getI C.1 dX10_readItem_155 flRX10_135 tm57 rfl ?_
            refine ww_goto C.1 (tgt := 162) dX10_readItem_158 (by decide) ?_
            refine ww_iload C.1 dX10_readItem_162 4 rfl ?_
            refine ww_if_eq (x := (1 : Int32)) C.1 (tgt := 171) dX10_readItem_164 (by decide) (fun hh => absurd hh (by decide)) (fun _ => ?_)
            refine ww_iload_n C.1 dX10_readItem_167 2 rfl rfl ?_
            refine ww_goto C.1 (tgt := 177) dX10_readItem_168 (by decide) ?_
            refine wt_iast C.1 dX10_readItem_177 tm67 h.1 ?_
            replace h := h.2
            refine ww_aload_n C.1 dX10_readItem_178 0 rfl rfl ?_
            refine ww_dup C.1 dX10_readItem_179 rfl ?_
            refine wt_getI C.1 dX10_readItem_180 flRX10_135 tm57 rfl ?_
            refine ww_iload C.1 dX10_readItem_183 4 rfl ?_
            refine ww_if_eq (x := (1 : Int32)) C.1 (tgt := 192) dX10_readItem_185 (by decide) (fun hh => absurd hh (by decide)) (fun _ => ?_)
            refine ww_iconst C.1 (v := (1 : Int32)) dX10_readItem_188 (by decide) ?_
            refine ww_goto C.1 (tgt := 193) dX10_readItem_189 (by decide) ?_
            refine ww_iadd C.1 dX10_readItem_193 ?_
            refine wt_putI C.1 dX10_readItem_194 flRX10_135 tm57 rfl ?_
            refine ww_goto C.1 (tgt := 624) dX10_readItem_197 (by decide) ?_
            refine ww_iload C.1 dX10_readItem_624 4 rfl ?_
            refine ww_zret C.1 dX10_readItem_626 rfl (Or.inr rfl) ?_
            exact h
  · replace h := h.2 hh
    refine ww_iconst C.1 (v := (0 : Int32)) dX10_readItem_91 (by decide) ?_
    refine ww_zret C.1 dX10_readItem_92 rfl (Or.inl rfl) ?_
    exact h
