set_option maxHeartbeats 4000000 in
set_option maxRecDepth 20000 in
theorem bX5_has_0 {X : CX} {Q : State → Prop} {M : Mem} {G2 : Grf} {T2 : List (Nat × Nat)} {x1 : Int32} (C : Ok0 X mX5_has (TTc ++ T2))
    (h : ((x1 < (0 : Int32) → RetOK X Q (some (.int (0 : Int32))) (M, (gj G2), TTc ++ T2)) ∧ (¬ x1 < (0 : Int32) → (((M 37 6) ≤ x1 → RetOK X Q (some (.int (0 : Int32))) (M, (gj G2), TTc ++ T2)) ∧ (¬ (M 37 6) ≤ x1 → RetOK X Q (some (.int (1 : Int32))) (M, (gj G2), TTc ++ T2)))))) :
    WW X Q 0 [(0, .ref 37), (1, .int x1)] [] (M, (gj G2), TTc ++ T2) := by
  refine ww_iload_n C.1 dX5_has_0 1 rfl rfl ?_
  refine ww_if_lt C.1 (tgt := 16) dX5_has_1 (by decide) (fun hh => ?_) (fun hh => ?_)
  · replace h := h.1 hh
    refine ww_iconst C.1 (v := (0 : Int32)) dX5_has_16 (by decide) ?_
    refine ww_zret C.1 dX5_has_17 rfl (Or.inl rfl) ?_
    exact h
  · replace h := h.2 hh
    refine ww_iload_n C.1 dX5_has_4 1 rfl rfl ?_
    refine ww_aload_n C.1 dX5_has_5 0 rfl rfl ?_
    refine wt_getI C.1 dX5_has_6 flRX5_30 (tc37 T2) rfl ?_
    refine ww_icmp_ge C.1 (tgt := 16) dX5_has_9 (by decide) (fun hh => ?_) (fun hh => ?_)
    · replace h := h.1 hh
      refine ww_iconst C.1 (v := (0 : Int32)) dX5_has_16 (by decide) ?_
      refine ww_zret C.1 dX5_has_17 rfl (Or.inl rfl) ?_
      exact h
    · replace h := h.2 hh
      refine ww_iconst C.1 (v := (1 : Int32)) dX5_has_12 (by decide) ?_
      refine ww_goto C.1 (tgt := 17) dX5_has_13 (by decide) ?_
      refine ww_zret C.1 dX5_has_17 rfl (Or.inr rfl) ?_
      exact h
set_option maxHeartbeats 4000000 in
set_option maxRecDepth 20000 in
theorem bX5_everyone_0 {X : CX} {Q : State → Prop} {M : Mem} {G2 : Grf} {T2 : List (Nat × Nat)} (C : Ok0 X mX5_everyone (TTc ++ T2))
    (h : RetOK X Q (some (.int (((1 : Int32) <<< ((M 37 6) &&& 31)) - (1 : Int32)))) (M, (gj G2), TTc ++ T2)) :
    WW X Q 0 [(0, .ref 37)] [] (M, (gj G2), TTc ++ T2) := by
  refine ww_iconst C.1 (v := (1 : Int32)) dX5_everyone_0 (by decide) ?_
  refine ww_aload_n C.1 dX5_everyone_1 0 rfl rfl ?_
  refine wt_getI C.1 dX5_everyone_2 flRX5_30 (tc37 T2) rfl ?_
  refine ww_ishl C.1 dX5_everyone_5 ?_
  refine ww_iconst C.1 (v := (1 : Int32)) dX5_everyone_6 (by decide) ?_
  refine ww_isub C.1 dX5_everyone_7 ?_
  refine ww_iret C.1 dX5_everyone_8 rfl ?_
  exact h
set_option maxHeartbeats 4000000 in
set_option maxRecDepth 20000 in
theorem bX5_hereBy_0 {X : CX} {Q : State → Prop} {M : Mem} {G2 : Grf} {T2 : List (Nat × Nat)} {x1 : Int32} (C : Ok0 X mX5_hereBy (TTc ++ T2))
    (h : WW X Q 4 [(0, .ref 37), (1, .int x1), (2, .int (0 : Int32)), (3, .int (0 : Int32))] [] (M, (gj G2), TTc ++ T2)) :
    WW X Q 0 [(0, .ref 37), (1, .int x1)] [] (M, (gj G2), TTc ++ T2) := by
  refine ww_iconst C.1 (v := (0 : Int32)) dX5_hereBy_0 (by decide) ?_
  refine ww_istore_n C.1 dX5_hereBy_1 rfl (by decide) [1, 2, 0] (L' := [(0, .ref 37), (1, .int x1), (2, .int (0 : Int32))]) rfl ?_
  refine ww_iconst C.1 (v := (0 : Int32)) dX5_hereBy_2 (by decide) ?_
  refine ww_istore_n C.1 dX5_hereBy_3 rfl (by decide) [1, 2, 3, 0] (L' := [(0, .ref 37), (1, .int x1), (2, .int (0 : Int32)), (3, .int (0 : Int32))]) rfl ?_
  exact h
set_option maxHeartbeats 4000000 in
set_option maxRecDepth 20000 in
theorem bX5_hereBy_4 {X : CX} {Q : State → Prop} {M : Mem} {G2 : Grf} {T2 : List (Nat × Nat)} {x1 x2 x3 : Int32} (C : Ok0 X mX5_hereBy (TTc ++ T2))
    (h : (((M 37 6) ≤ x3 → RetOK X Q (some (.int x2)) (M, (gj G2), TTc ++ T2)) ∧ (¬ (M 37 6) ≤ x3 → (vp_in x3 7 ∧ ((x1 < (M 39 x3.toNatClampNeg) → WW X Q 4 [(0, .ref 37), (1, .int x1), (2, .int x2), (3, .int (x3 + (1 : Int32)))] [] (M, (gj G2), TTc ++ T2)) ∧ (¬ x1 < (M 39 x3.toNatClampNeg) → WW X Q 4 [(0, .ref 37), (1, .int x1), (2, .int (x2 ||| ((1 : Int32) <<< (x3 &&& 31)))), (3, .int (x3 + (1 : Int32)))] [] (M, (gj G2), TTc ++ T2))))))) :
    WW X Q 4 [(0, .ref 37), (1, .int x1), (2, .int x2), (3, .int x3)] [] (M, (gj G2), TTc ++ T2) := by
  refine ww_iload_n C.1 dX5_hereBy_4 3 rfl rfl ?_
  refine ww_aload_n C.1 dX5_hereBy_5 0 rfl rfl ?_
  refine wt_getI C.1 dX5_hereBy_6 flRX5_30 (tc37 T2) rfl ?_
  refine ww_icmp_ge C.1 (tgt := 34) dX5_hereBy_9 (by decide) (fun hh => ?_) (fun hh => ?_)
  · replace h := h.1 hh
    refine ww_iload_n C.1 dX5_hereBy_34 2 rfl rfl ?_
    refine ww_iret C.1 dX5_hereBy_35 rfl ?_
    exact h
  · replace h := h.2 hh
    refine ww_aload_n C.1 dX5_hereBy_12 0 rfl rfl ?_
    refine wt_getR C.1 dX5_hereBy_13 flRX5_15 (tc37 T2) rfl (gg37_1 G2) ?_
    refine ww_iload_n C.1 dX5_hereBy_16 3 rfl rfl ?_
    refine wt_iald C.1 dX5_hereBy_17 (tc39 T2) h.1 ?_
    replace h := h.2
    refine ww_iload_n C.1 dX5_hereBy_18 1 rfl rfl ?_
    refine ww_icmp_gt C.1 (tgt := 28) dX5_hereBy_19 (by decide) (fun hh => ?_) (fun hh => ?_)
    · replace h := h.1 hh
      refine ww_iinc C.1 (v := (x3 + (1 : Int32))) dX5_hereBy_28 3 rfl (by rfl) (by decide) [1, 2, 3, 0] (L' := [(0, .ref 37), (1, .int x1), (2, .int x2), (3, .int (x3 + (1 : Int32)))]) rfl ?_
      refine ww_goto C.1 (tgt := 4) dX5_hereBy_31 (by decide) ?_
      exact h
    · replace h := h.2 hh
      refine ww_iload_n C.1 dX5_hereBy_22 2 rfl rfl ?_
      refine ww_iconst C.1 (v := (1 : Int32)) dX5_hereBy_23 (by decide) ?_
      refine ww_iload_n C.1 dX5_hereBy_24 3 rfl rfl ?_
      refine ww_ishl C.1 dX5_hereBy_25 ?_
      refine ww_ior C.1 dX5_hereBy_26 ?_
      refine ww_istore_n C.1 dX5_hereBy_27 rfl (by decide) [1, 2, 0, 3] (L' := [(0, .ref 37), (1, .int x1), (2, .int (x2 ||| ((1 : Int32) <<< (x3 &&& 31)))), (3, .int x3)]) rfl ?_
      refine ww_iinc C.1 (v := (x3 + (1 : Int32))) dX5_hereBy_28 3 rfl (by rfl) (by decide) [1, 2, 3, 0] (L' := [(0, .ref 37), (1, .int x1), (2, .int (x2 ||| ((1 : Int32) <<< (x3 &&& 31)))), (3, .int (x3 + (1 : Int32)))]) rfl ?_
      refine ww_goto C.1 (tgt := 4) dX5_hereBy_31 (by decide) ?_
      exact h
set_option maxHeartbeats 4000000 in
set_option maxRecDepth 20000 in
theorem bX5_placeOf_0 {X : CX} {Q : State → Prop} {M : Mem} {G2 : Grf} {T2 : List (Nat × Nat)} {x1 : Int32} (C : Ok0 X mX5_placeOf (TTc ++ T2))
    (h : WW X Q 2 [(0, .ref 37), (1, .int x1), (2, .int (0 : Int32))] [] (M, (gj G2), TTc ++ T2)) :
    WW X Q 0 [(0, .ref 37), (1, .int x1)] [] (M, (gj G2), TTc ++ T2) := by
  refine ww_iconst C.1 (v := (0 : Int32)) dX5_placeOf_0 (by decide) ?_
  refine ww_istore_n C.1 dX5_placeOf_1 rfl (by decide) [1, 2, 0] (L' := [(0, .ref 37), (1, .int x1), (2, .int (0 : Int32))]) rfl ?_
  exact h
set_option maxHeartbeats 4000000 in
set_option maxRecDepth 20000 in
theorem bX5_placeOf_2 {X : CX} {Q : State → Prop} {M : Mem} {G2 : Grf} {T2 : List (Nat × Nat)} {x1 x2 : Int32} (C : Ok0 X mX5_placeOf (TTc ++ T2))
    (h : (((M 37 6) ≤ x2 → RetOK X Q (some (.int (0 : Int32))) (M, (gj G2), TTc ++ T2)) ∧ (¬ (M 37 6) ≤ x2 → (vp_in x2 7 ∧ ((¬ (M 43 x2.toNatClampNeg) = x1 → WW X Q 2 [(0, .ref 37), (1, .int x1), (2, .int (x2 + (1 : Int32)))] [] (M, (gj G2), TTc ++ T2)) ∧ ((M 43 x2.toNatClampNeg) = x1 → RetOK X Q (some (.int x2)) (M, (gj G2), TTc ++ T2))))))) :
    WW X Q 2 [(0, .ref 37), (1, .int x1), (2, .int x2)] [] (M, (gj G2), TTc ++ T2) := by
  refine ww_iload_n C.1 dX5_placeOf_2 2 rfl rfl ?_
  refine ww_aload_n C.1 dX5_placeOf_3 0 rfl rfl ?_
  refine wt_getI C.1 dX5_placeOf_4 flRX5_30 (tc37 T2) rfl ?_
  refine ww_icmp_ge C.1 (tgt := 28) dX5_placeOf_7 (by decide) (fun hh => ?_) (fun hh => ?_)
  · replace h := h.1 hh
    refine ww_iconst C.1 (v := (0 : Int32)) dX5_placeOf_28 (by decide) ?_
    refine ww_iret C.1 dX5_placeOf_29 rfl ?_
    exact h
  · replace h := h.2 hh
    refine ww_aload_n C.1 dX5_placeOf_10 0 rfl rfl ?_
    refine wt_getR C.1 dX5_placeOf_11 flRX5_27 (tc37 T2) rfl (gg37_5 G2) ?_
    refine ww_iload_n C.1 dX5_placeOf_14 2 rfl rfl ?_
    refine wt_iald C.1 dX5_placeOf_15 (tc43 T2) h.1 ?_
    replace h := h.2
    refine ww_iload_n C.1 dX5_placeOf_16 1 rfl rfl ?_
    refine ww_icmp_ne C.1 (tgt := 22) dX5_placeOf_17 (by decide) (fun hh => ?_) (fun hh => ?_)
    · replace h := h.1 hh
      refine ww_iinc C.1 (v := (x2 + (1 : Int32))) dX5_placeOf_22 2 rfl (by rfl) (by decide) [1, 2, 0] (L' := [(0, .ref 37), (1, .int x1), (2, .int (x2 + (1 : Int32)))]) rfl ?_
      refine ww_goto C.1 (tgt := 2) dX5_placeOf_25 (by decide) ?_
      exact h
    · replace h := h.2 hh
      refine ww_iload_n C.1 dX5_placeOf_20 2 rfl rfl ?_
      refine ww_iret C.1 dX5_placeOf_21 rfl ?_
      exact h
set_option maxHeartbeats 4000000 in
set_option maxRecDepth 20000 in
theorem bX5_shift_0 {X : CX} {Q : State → Prop} {M : Mem} {G2 : Grf} {T2 : List (Nat × Nat)} {x1 x2 : Int32} (C : Ok0 X mX5_shift (TTc ++ T2))
    (h : ((x1 < (0 : Int32) → RetOK X Q (none) (M, (gj G2), TTc ++ T2)) ∧ (¬ x1 < (0 : Int32) → (((M 37 6) ≤ x1 → RetOK X Q (none) (M, (gj G2), TTc ++ T2)) ∧ (¬ (M 37 6) ≤ x1 → ((x2 < (0 : Int32) → RetOK X Q (none) (M, (gj G2), TTc ++ T2)) ∧ (¬ x2 < (0 : Int32) → (((M 37 6) ≤ x2 → RetOK X Q (none) (M, (gj G2), TTc ++ T2)) ∧ (¬ (M 37 6) ≤ x2 → (vp_in x1 7 ∧ WW X Q 27 [(0, .ref 37), (1, .int x1), (2, .int x2), (3, .int (M 43 x1.toNatClampNeg)), (4, .int x1)] [] (M, (gj G2), TTc ++ T2))))))))))) :
    WW X Q 0 [(0, .ref 37), (1, .int x1), (2, .int x2)] [] (M, (gj G2), TTc ++ T2) := by
  refine ww_aload_n C.1 dX5_shift_0 0 rfl rfl ?_
  refine ww_iload_n C.1 dX5_shift_1 1 rfl rfl ?_
  refine ww_vI C fX5_has (And.intro (by decide) (by decide)) mlRX5_34 dX5_shift_2 (tc37 T2) (by decide) rfl (As := [.int x1]) (rest := []) rfl rfl rfl (Nat.le_of_ble_eq_true rfl) (WpI.of (L0 := [(0, .ref 37), (1, .int x1)]) rfl rfl (Nat.le_of_ble_eq_true rfl) fun X1 Q1 C1 k1 => ?_)
  refine ww_iload_n C1.1 dX5_has_0 1 rfl rfl ?_
  refine ww_if_lt C1.1 (tgt := 16) dX5_has_1 (by decide) (fun hh => ?_) (fun hh => ?_)
  · replace h := h.1 hh
    refine ww_iconst C1.1 (v := (0 : Int32)) dX5_has_16 (by decide) ?_
    refine ww_zret C1.1 dX5_has_17 rfl (Or.inl rfl) ?_
    refine k1 _ _ ?_
    refine ww_if_eq C.1 (tgt := 16) dX5_shift_5 (by decide) (fun _ => ?_) (fun hh => absurd hh (by decide))
    refine ww_vret C.1 dX5_shift_16 rfl ?_
    exact h
  · replace h := h.2 hh
    refine ww_iload_n C1.1 dX5_has_4 1 rfl rfl ?_
    refine ww_aload_n C1.1 dX5_has_5 0 rfl rfl ?_
    refine wt_getI C1.1 dX5_has_6 flRX5_30 (tc37 T2) rfl ?_
    refine ww_icmp_ge C1.1 (tgt := 16) dX5_has_9 (by decide) (fun hh => ?_) (fun hh => ?_)
    · replace h := h.1 hh
      refine ww_iconst C1.1 (v := (0 : Int32)) dX5_has_16 (by decide) ?_
      refine ww_zret C1.1 dX5_has_17 rfl (Or.inl rfl) ?_
      refine k1 _ _ ?_
      refine ww_if_eq C.1 (tgt := 16) dX5_shift_5 (by decide) (fun _ => ?_) (fun hh => absurd hh (by decide))
      refine ww_vret C.1 dX5_shift_16 rfl ?_
      exact h
    · replace h := h.2 hh
      refine ww_iconst C1.1 (v := (1 : Int32)) dX5_has_12 (by decide) ?_
      refine ww_goto C1.1 (tgt := 17) dX5_has_13 (by decide) ?_
      refine ww_zret C1.1 dX5_has_17 rfl (Or.inr rfl) ?_
      refine k1 _ _ ?_
      refine ww_if_eq C.1 (tgt := 16) dX5_shift_5 (by decide) (fun hh => absurd hh (by decide)) (fun _ => ?_)
      refine ww_aload_n C.1 dX5_shift_8 0 rfl rfl ?_
      refine ww_iload_n C.1 dX5_shift_9 2 rfl rfl ?_
      refine ww_vI C fX5_has (And.intro (by decide) (by decide)) mlRX5_34 dX5_shift_10 (tc37 T2) (by decide) rfl (As := [.int x2]) (rest := []) rfl rfl rfl (Nat.le_of_ble_eq_true rfl) (WpI.of (L0 := [(0, .ref 37), (1, .int x2)]) rfl rfl (Nat.le_of_ble_eq_true rfl) fun X2 Q2 C2 k2 => ?_)
      refine ww_iload_n C2.1 dX5_has_0 1 rfl rfl ?_
      refine ww_if_lt C2.1 (tgt := 16) dX5_has_1 (by decide) (fun hh => ?_) (fun hh => ?_)
      · replace h := h.1 hh
        refine ww_iconst C2.1 (v := (0 : Int32)) dX5_has_16 (by decide) ?_
        refine ww_zret C2.1 dX5_has_17 rfl (Or.inl rfl) ?_
        refine k2 _ _ ?_
        refine ww_if_ne C.1 (tgt := 17) dX5_shift_13 (by decide) (fun hh => absurd hh (by decide)) (fun _ => ?_)
        refine ww_vret C.1 dX5_shift_16 rfl ?_
        exact h
      · replace h := h.2 hh
        refine ww_iload_n C2.1 dX5_has_4 1 rfl rfl ?_
        refine ww_aload_n C2.1 dX5_has_5 0 rfl rfl ?_
        refine wt_getI C2.1 dX5_has_6 flRX5_30 (tc37 T2) rfl ?_
        refine ww_icmp_ge C2.1 (tgt := 16) dX5_has_9 (by decide) (fun hh => ?_) (fun hh => ?_)
        · replace h := h.1 hh
          refine ww_iconst C2.1 (v := (0 : Int32)) dX5_has_16 (by decide) ?_
          refine ww_zret C2.1 dX5_has_17 rfl (Or.inl rfl) ?_
          refine k2 _ _ ?_
          refine ww_if_ne C.1 (tgt := 17) dX5_shift_13 (by decide) (fun hh => absurd hh (by decide)) (fun _ => ?_)
          refine ww_vret C.1 dX5_shift_16 rfl ?_
          exact h
        · replace h := h.2 hh
          refine ww_iconst C2.1 (v := (1 : Int32)) dX5_has_12 (by decide) ?_
          refine ww_goto C2.1 (tgt := 17) dX5_has_13 (by decide) ?_
          refine ww_zret C2.1 dX5_has_17 rfl (Or.inr rfl) ?_
          refine k2 _ _ ?_
          refine ww_if_ne C.1 (tgt := 17) dX5_shift_13 (by decide) (fun _ => ?_) (fun hh => absurd hh (by decide))
          refine ww_aload_n C.1 dX5_shift_17 0 rfl rfl ?_
          refine wt_getR C.1 dX5_shift_18 flRX5_27 (tc37 T2) rfl (gg37_5 G2) ?_
          refine ww_iload_n C.1 dX5_shift_21 1 rfl rfl ?_
          refine wt_iald C.1 dX5_shift_22 (tc43 T2) h.1 ?_
          replace h := h.2
          refine ww_istore_n C.1 dX5_shift_23 rfl (by decide) [1, 2, 3, 0] (L' := [(0, .ref 37), (1, .int x1), (2, .int x2), (3, .int (M 43 x1.toNatClampNeg))]) rfl ?_
          refine ww_iload_n C.1 dX5_shift_24 1 rfl rfl ?_
          refine ww_istore C.1 dX5_shift_25 (by decide) [1, 2, 3, 4, 0] (L' := [(0, .ref 37), (1, .int x1), (2, .int x2), (3, .int (M 43 x1.toNatClampNeg)), (4, .int x1)]) rfl ?_
          exact h
set_option maxHeartbeats 4000000 in
set_option maxRecDepth 20000 in
theorem bX5_shift_27 {X : CX} {Q : State → Prop} {M : Mem} {G2 : Grf} {T2 : List (Nat × Nat)} {x1 x2 x3 x4 : Int32} (C : Ok0 X mX5_shift (TTc ++ T2))
    (h : ((x2 ≤ x4 → WW X Q 58 [(0, .ref 37), (1, .int x1), (2, .int x2), (3, .int x3), (4, .int x1)] [] (M, (gj G2), TTc ++ T2)) ∧ (¬ x2 ≤ x4 → (vp_in (x4 + (1 : Int32)) 7 ∧ (vp_in x4 7 ∧ WW X Q 27 [(0, .ref 37), (1, .int x1), (2, .int x2), (3, .int x3), (4, .int (x4 + (1 : Int32)))] [] ((wr M 43 x4.toNatClampNeg (M 43 (x4 + (1 : Int32)).toNatClampNeg)), (gj G2), TTc ++ T2)))))) :
    WW X Q 27 [(0, .ref 37), (1, .int x1), (2, .int x2), (3, .int x3), (4, .int x4)] [] (M, (gj G2), TTc ++ T2) := by
  refine ww_iload C.1 dX5_shift_27 4 rfl ?_
  refine ww_iload_n C.1 dX5_shift_29 2 rfl rfl ?_
  refine ww_icmp_ge C.1 (tgt := 55) dX5_shift_30 (by decide) (fun hh => ?_) (fun hh => ?_)
  · replace h := h.1 hh
    refine ww_iload_n C.1 dX5_shift_55 1 rfl rfl ?_
    refine ww_istore C.1 dX5_shift_56 (by decide) [1, 2, 3, 4, 0] (L' := [(0, .ref 37), (1, .int x1), (2, .int x2), (3, .int x3), (4, .int x1)]) rfl ?_
    exact h
  · replace h := h.2 hh
    refine ww_aload_n C.1 dX5_shift_33 0 rfl rfl ?_
    refine wt_getR C.1 dX5_shift_34 flRX5_27 (tc37 T2) rfl (gg37_5 G2) ?_
    refine ww_iload C.1 dX5_shift_37 4 rfl ?_
    refine ww_aload_n C.1 dX5_shift_39 0 rfl rfl ?_
    refine wt_getR C.1 dX5_shift_40 flRX5_27 (tc37 T2) rfl (gg37_5 G2) ?_
    refine ww_iload C.1 dX5_shift_43 4 rfl ?_
    refine ww_iconst C.1 (v := (1 : Int32)) dX5_shift_45 (by decide) ?_
    refine ww_iadd C.1 dX5_shift_46 ?_
    refine wt_iald C.1 dX5_shift_47 (tc43 T2) h.1 ?_
    replace h := h.2
    refine wt_iast C.1 dX5_shift_48 (tc43 T2) h.1 ?_
    replace h := h.2
    refine ww_iinc C.1 (v := (x4 + (1 : Int32))) dX5_shift_49 4 rfl (by rfl) (by decide) [1, 2, 3, 4, 0] (L' := [(0, .ref 37), (1, .int x1), (2, .int x2), (3, .int x3), (4, .int (x4 + (1 : Int32)))]) rfl ?_
    refine ww_goto C.1 (tgt := 27) dX5_shift_52 (by decide) ?_
    exact h
set_option maxHeartbeats 4000000 in
set_option maxRecDepth 20000 in
theorem bX5_shift_58 {X : CX} {Q : State → Prop} {M : Mem} {G2 : Grf} {T2 : List (Nat × Nat)} {x1 x2 x3 x4 : Int32} (C : Ok0 X mX5_shift (TTc ++ T2))
    (h : ((x4 ≤ x2 → (vp_in x2 7 ∧ RetOK X Q (none) ((wr M 43 x2.toNatClampNeg x3), (gj G2), TTc ++ T2))) ∧ (¬ x4 ≤ x2 → (vp_in (x4 - (1 : Int32)) 7 ∧ (vp_in x4 7 ∧ WW X Q 58 [(0, .ref 37), (1, .int x1), (2, .int x2), (3, .int x3), (4, .int (x4 + (-1 : Int32)))] [] ((wr M 43 x4.toNatClampNeg (M 43 (x4 - (1 : Int32)).toNatClampNeg)), (gj G2), TTc ++ T2)))))) :
    WW X Q 58 [(0, .ref 37), (1, .int x1), (2, .int x2), (3, .int x3), (4, .int x4)] [] (M, (gj G2), TTc ++ T2) := by
  refine ww_iload C.1 dX5_shift_58 4 rfl ?_
  refine ww_iload_n C.1 dX5_shift_60 2 rfl rfl ?_
  refine ww_icmp_le C.1 (tgt := 86) dX5_shift_61 (by decide) (fun hh => ?_) (fun hh => ?_)
  · replace h := h.1 hh
    refine ww_aload_n C.1 dX5_shift_86 0 rfl rfl ?_
    refine wt_getR C.1 dX5_shift_87 flRX5_27 (tc37 T2) rfl (gg37_5 G2) ?_
    refine ww_iload_n C.1 dX5_shift_90 2 rfl rfl ?_
    refine ww_iload_n C.1 dX5_shift_91 3 rfl rfl ?_
    refine wt_iast C.1 dX5_shift_92 (tc43 T2) h.1 ?_
    replace h := h.2
    refine ww_vret C.1 dX5_shift_93 rfl ?_
    exact h
  · replace h := h.2 hh
    refine ww_aload_n C.1 dX5_shift_64 0 rfl rfl ?_
    refine wt_getR C.1 dX5_shift_65 flRX5_27 (tc37 T2) rfl (gg37_5 G2) ?_
    refine ww_iload C.1 dX5_shift_68 4 rfl ?_
    refine ww_aload_n C.1 dX5_shift_70 0 rfl rfl ?_
    refine wt_getR C.1 dX5_shift_71 flRX5_27 (tc37 T2) rfl (gg37_5 G2) ?_
    refine ww_iload C.1 dX5_shift_74 4 rfl ?_
    refine ww_iconst C.1 (v := (1 : Int32)) dX5_shift_76 (by decide) ?_
    refine ww_isub C.1 dX5_shift_77 ?_
    refine wt_iald C.1 dX5_shift_78 (tc43 T2) h.1 ?_
    replace h := h.2
    refine wt_iast C.1 dX5_shift_79 (tc43 T2) h.1 ?_
    replace h := h.2
    refine ww_iinc C.1 (v := (x4 + (-1 : Int32))) dX5_shift_80 4 rfl (by rfl) (by decide) [1, 2, 3, 4, 0] (L' := [(0, .ref 37), (1, .int x1), (2, .int x2), (3, .int x3), (4, .int (x4 + (-1 : Int32)))]) rfl ?_
    refine ww_goto C.1 (tgt := 58) dX5_shift_83 (by decide) ?_
    exact h
set_option maxHeartbeats 4000000 in
set_option maxRecDepth 20000 in
theorem bX10_write_0 {X : CX} {Q : State → Prop} {M : Mem} {x1 : Int32} (C : Ok0 X mX10_write (TTc ++ TTm))
    (h : ((x1 < (32 : Int32) → RetOK X Q (some (.int (-1 : Int32))) (M, (gj gm), TTc ++ TTm)) ∧ (¬ x1 < (32 : Int32) → (((126 : Int32) < x1 → RetOK X Q (some (.int (-1 : Int32))) (M, (gj gm), TTc ++ TTm)) ∧ (¬ (126 : Int32) < x1 → ((¬ (M 57 13) = (200 : Int32) → (vp_in (M 57 13) 200 ∧ RetOK X Q (some (.int ((M 57 13) + (1 : Int32)))) ((wr (wr M 65 (M 57 13).toNatClampNeg x1) 57 13 ((M 57 13) + (1 : Int32))), (gj gm), TTc ++ TTm))) ∧ ((M 57 13) = (200 : Int32) → RetOK X Q (some (.int (-3 : Int32))) (M, (gj gm), TTc ++ TTm)))))))) :
    WW X Q 0 [(0, .ref 57), (1, .int x1)] [] (M, (gj gm), TTc ++ TTm) := by
  refine ww_iload_n C.1 dX10_write_0 1 rfl rfl ?_
  refine ww_i2l C.1 dX10_write_1 rfl ?_
  refine ww_ldc2 C.1 kcRX10_107 dX10_write_2 ?_
  refine ww_ldc2 C.1 kcRX10_109 dX10_write_5 ?_
  refine ww_sI C fX10_in (And.intro (by decide) (by decide)) mlRX10_101 dX10_write_8 (As := [.long x1.toInt64, .long (32 : Int64), .long (126 : Int64)]) (rest := []) rfl rfl rfl (Nat.le_of_ble_eq_true rfl) (WpI.of (L0 := [(0, .long x1.toInt64), (2, .long (32 : Int64)), (4, .long (126 : Int64))]) rfl rfl (Nat.le_of_ble_eq_true rfl) fun X1 Q1 C1 k1 => ?_)
  refine ww_lload_n C1.1 dX10_in_0 0 rfl rfl ?_
  refine ww_lload_n C1.1 dX10_in_1 1 rfl rfl ?_
  refine ww_lcmp C1.1 dX10_in_2 ?_
  refine ww_if_lt C1.1 (tgt := 17) dX10_in_3 (by decide) (fun hh => ?_) (fun hh => ?_)
  · replace h := h.1 ((in_lt (a := x1) (b := (32 : Int32)) (by first | rfl | decide) (by first | rfl | decide)).mp hh)
    refine ww_iconst C1.1 (v := (0 : Int32)) dX10_in_17 (by decide) ?_
    refine ww_zret C1.1 dX10_in_18 rfl (Or.inl rfl) ?_
    refine k1 _ _ ?_
    refine ww_if_ne C.1 (tgt := 16) dX10_write_11 (by decide) (fun hh => absurd hh (by decide)) (fun _ => ?_)
    refine ww_iconst C.1 (v := (-1 : Int32)) dX10_write_14 (by decide) ?_
    refine ww_iret C.1 dX10_write_15 rfl ?_
    exact h
  · replace h := h.2 (fun z => hh ((in_lt (a := x1) (b := (32 : Int32)) (by first | rfl | decide) (by first | rfl | decide)).mpr z))
    refine ww_lload_n C1.1 dX10_in_6 0 rfl rfl ?_
    refine ww_lload C1.1 dX10_in_7 2 rfl ?_
    refine ww_lcmp C1.1 dX10_in_9 ?_
    refine ww_if_gt C1.1 (tgt := 17) dX10_in_10 (by decide) (fun hh => ?_) (fun hh => ?_)
    · replace h := h.1 ((in_gt (a := x1) (b := (126 : Int32)) (by first | rfl | decide) (by first | rfl | decide)).mp hh)
      refine ww_iconst C1.1 (v := (0 : Int32)) dX10_in_17 (by decide) ?_
      refine ww_zret C1.1 dX10_in_18 rfl (Or.inl rfl) ?_
      refine k1 _ _ ?_
      refine ww_if_ne C.1 (tgt := 16) dX10_write_11 (by decide) (fun hh => absurd hh (by decide)) (fun _ => ?_)
      refine ww_iconst C.1 (v := (-1 : Int32)) dX10_write_14 (by decide) ?_
      refine ww_iret C.1 dX10_write_15 rfl ?_
      exact h
    · replace h := h.2 (fun z => hh ((in_gt (a := x1) (b := (126 : Int32)) (by first | rfl | decide) (by first | rfl | decide)).mpr z))
      refine ww_iconst C1.1 (v := (1 : Int32)) dX10_in_13 (by decide) ?_
      refine ww_goto C1.1 (tgt := 18) dX10_in_14 (by decide) ?_
      refine ww_zret C1.1 dX10_in_18 rfl (Or.inr rfl) ?_
      refine k1 _ _ ?_
      refine ww_if_ne C.1 (tgt := 16) dX10_write_11 (by decide) (fun _ => ?_) (fun hh => absurd hh (by decide))
      refine ww_aload_n C.1 dX10_write_16 0 rfl rfl ?_
      refine wt_getI C.1 dX10_write_17 flRX10_111 tm57 rfl ?_
      refine ww_sipush C.1 (v := (200 : Int32)) dX10_write_20 (by decide) ?_
      refine ww_icmp_ne C.1 (tgt := 29) dX10_write_23 (by decide) (fun hh => ?_) (fun hh => ?_)
      · replace h := h.1 hh
        refine ww_aload_n C.1 dX10_write_29 0 rfl rfl ?_
        refine wt_getR C.1 dX10_write_30 flRX10_41 tm57 rfl gm57_12 ?_
        refine ww_aload_n C.1 dX10_write_33 0 rfl rfl ?_
        refine wt_getI C.1 dX10_write_34 flRX10_111 tm57 rfl ?_
        refine ww_iload_n C.1 dX10_write_37 1 rfl rfl ?_
        refine wt_iast C.1 dX10_write_38 tm65 h.1 ?_
        replace h := h.2
        refine ww_aload_n C.1 dX10_write_39 0 rfl rfl ?_
        refine ww_dup C.1 dX10_write_40 rfl ?_
        refine wt_getI C.1 dX10_write_41 flRX10_111 tm57 rfl ?_
        refine ww_iconst C.1 (v := (1 : Int32)) dX10_write_44 (by decide) ?_
        refine ww_iadd C.1 dX10_write_45 ?_
        refine wt_putI C.1 dX10_write_46 flRX10_111 tm57 rfl ?_
        refine ww_aload_n C.1 dX10_write_49 0 rfl rfl ?_
        refine wt_getI C.1 dX10_write_50 flRX10_111 tm57 rfl ?_
        refine ww_iret C.1 dX10_write_53 rfl ?_
        exact h
      · replace h := h.2 hh
        refine ww_bipush C.1 (v := (-3 : Int32)) dX10_write_26 (by decide) ?_
        refine ww_iret C.1 dX10_write_28 rfl ?_
        exact h
set_option maxHeartbeats 4000000 in
set_option maxRecDepth 20000 in
theorem bX10_bed_0 {X : CX} {Q : State → Prop} {M : Mem} {x1 x2 : Int32} (C : Ok0 X mX10_bed (TTc ++ TTm))
    (h : ((x1 < (0 : Int32) → RetOK X Q (some (.int (-1 : Int32))) (M, (gj gm), TTc ++ TTm)) ∧ (¬ x1 < (0 : Int32) → ((((M 57 1) - (1 : Int32)) < x1 → RetOK X Q (some (.int (-1 : Int32))) (M, (gj gm), TTc ++ TTm)) ∧ (¬ ((M 57 1) - (1 : Int32)) < x1 → ((x2 < (0 : Int32) → RetOK X Q (some (.int (-1 : Int32))) (M, (gj gm), TTc ++ TTm)) ∧ (¬ x2 < (0 : Int32) → (((29 : Int32) < x2 → RetOK X Q (some (.int (-1 : Int32))) (M, (gj gm), TTc ++ TTm)) ∧ (¬ (29 : Int32) < x2 → WpI mX10_lengthOn [.ref 57, .int x1, .int x2] M (gj gm) (TTc ++ TTm) (fun r M' => WW X Q 21 [(0, .ref 57), (1, .int x1), (2, .int x2)] [.int r] (M', (gj gm), TTc ++ TTm))))))))))) :
    WW X Q 0 [(0, .ref 57), (1, .int x1), (2, .int x2)] [] (M, (gj gm), TTc ++ TTm) := by
  refine ww_aload_n C.1 dX10_bed_0 0 rfl rfl ?_
  refine ww_iload_n C.1 dX10_bed_1 1 rfl rfl ?_
  refine ww_vI C fX10_isBed (And.intro (by decide) (by decide)) mlRX10_193 dX10_bed_2 tm57 (by decide) rfl (As := [.int x1]) (rest := []) rfl rfl rfl (Nat.le_of_ble_eq_true rfl) (WpI.of (L0 := [(0, .ref 57), (1, .int x1)]) rfl rfl (Nat.le_of_ble_eq_true rfl) fun X1 Q1 C1 k1 => ?_)
  refine ww_iload_n C1.1 dX10_isBed_0 1 rfl rfl ?_
  refine ww_i2l C1.1 dX10_isBed_1 rfl ?_
  refine ww_lconst C1.1 (v := 0) dX10_isBed_2 (by decide) ?_
  refine ww_aload_n C1.1 dX10_isBed_3 0 rfl rfl ?_
  refine wt_getI C1.1 dX10_isBed_4 flRX10_13 tm57 rfl ?_
  refine ww_iconst C1.1 (v := (1 : Int32)) dX10_isBed_7 (by decide) ?_
  refine ww_isub C1.1 dX10_isBed_8 ?_
  refine ww_i2l C1.1 dX10_isBed_9 rfl ?_
  refine ww_sI C1 fX10_in (And.intro (by decide) (by decide)) mlRX10_101 dX10_isBed_10 (As := [.long x1.toInt64, .long (0 : Int64), .long ((M 57 1) - (1 : Int32)).toInt64]) (rest := []) rfl rfl rfl (Nat.le_of_ble_eq_true rfl) (WpI.of (L0 := [(0, .long x1.toInt64), (2, .long (0 : Int64)), (4, .long ((M 57 1) - (1 : Int32)).toInt64)]) rfl rfl (Nat.le_of_ble_eq_true rfl) fun X2 Q2 C2 k2 => ?_)
  refine ww_lload_n C2.1 dX10_in_0 0 rfl rfl ?_
  refine ww_lload_n C2.1 dX10_in_1 1 rfl rfl ?_
  refine ww_lcmp C2.1 dX10_in_2 ?_
  refine ww_if_lt C2.1 (tgt := 17) dX10_in_3 (by decide) (fun hh => ?_) (fun hh => ?_)
  · replace h := h.1 ((in_lt (a := x1) (b := (0 : Int32)) (by first | rfl | decide) (by first | rfl | decide)).mp hh)
    refine ww_iconst C2.1 (v := (0 : Int32)) dX10_in_17 (by decide) ?_
    refine ww_zret C2.1 dX10_in_18 rfl (Or.inl rfl) ?_
    refine k2 _ _ ?_
    refine ww_zret C1.1 dX10_isBed_13 rfl (Or.inl rfl) ?_
    refine k1 _ _ ?_
    refine ww_if_eq C.1 (tgt := 24) dX10_bed_5 (by decide) (fun _ => ?_) (fun hh => absurd hh (by decide))
    refine ww_iconst C.1 (v := (-1 : Int32)) dX10_bed_24 (by decide) ?_
    refine ww_iret C.1 dX10_bed_25 rfl ?_
    exact h
  · replace h := h.2 (fun z => hh ((in_lt (a := x1) (b := (0 : Int32)) (by first | rfl | decide) (by first | rfl | decide)).mpr z))
    refine ww_lload_n C2.1 dX10_in_6 0 rfl rfl ?_
    refine ww_lload C2.1 dX10_in_7 2 rfl ?_
    refine ww_lcmp C2.1 dX10_in_9 ?_
    refine ww_if_gt C2.1 (tgt := 17) dX10_in_10 (by decide) (fun hh => ?_) (fun hh => ?_)
    · replace h := h.1 ((in_gt (a := x1) (b := ((M 57 1) - (1 : Int32))) (by first | rfl | decide) (by first | rfl | decide)).mp hh)
      refine ww_iconst C2.1 (v := (0 : Int32)) dX10_in_17 (by decide) ?_
      refine ww_zret C2.1 dX10_in_18 rfl (Or.inl rfl) ?_
      refine k2 _ _ ?_
      refine ww_zret C1.1 dX10_isBed_13 rfl (Or.inl rfl) ?_
      refine k1 _ _ ?_
      refine ww_if_eq C.1 (tgt := 24) dX10_bed_5 (by decide) (fun _ => ?_) (fun hh => absurd hh (by decide))
      refine ww_iconst C.1 (v := (-1 : Int32)) dX10_bed_24 (by decide) ?_
      refine ww_iret C.1 dX10_bed_25 rfl ?_
      exact h
    · replace h := h.2 (fun z => hh ((in_gt (a := x1) (b := ((M 57 1) - (1 : Int32))) (by first | rfl | decide) (by first | rfl | decide)).mpr z))
      refine ww_iconst C2.1 (v := (1 : Int32)) dX10_in_13 (by decide) ?_
      refine ww_goto C2.1 (tgt := 18) dX10_in_14 (by decide) ?_
      refine ww_zret C2.1 dX10_in_18 rfl (Or.inr rfl) ?_
      refine k2 _ _ ?_
      refine ww_zret C1.1 dX10_isBed_13 rfl (Or.inr rfl) ?_
      refine k1 _ _ ?_
      refine ww_if_eq C.1 (tgt := 24) dX10_bed_5 (by decide) (fun hh => absurd hh (by decide)) (fun _ => ?_)
      refine ww_iload_n C.1 dX10_bed_8 2 rfl rfl ?_
      refine ww_sI C fX10_isNight (And.intro (by decide) (by decide)) mlRX10_196 dX10_bed_9 (As := [.int x2]) (rest := []) rfl rfl rfl (Nat.le_of_ble_eq_true rfl) (WpI.of (L0 := [(0, .int x2)]) rfl rfl (Nat.le_of_ble_eq_true rfl) fun X3 Q3 C3 k3 => ?_)
      refine ww_iload_n C3.1 dX10_isNight_0 0 rfl rfl ?_
      refine ww_i2l C3.1 dX10_isNight_1 rfl ?_
      refine ww_lconst C3.1 (v := 0) dX10_isNight_2 (by decide) ?_
      refine ww_ldc2 C3.1 kcRX10_105 dX10_isNight_3 ?_
      refine ww_sI C3 fX10_in (And.intro (by decide) (by decide)) mlRX10_101 dX10_isNight_6 (As := [.long x2.toInt64, .long (0 : Int64), .long (29 : Int64)]) (rest := []) rfl rfl rfl (Nat.le_of_ble_eq_true rfl) (WpI.of (L0 := [(0, .long x2.toInt64), (2, .long (0 : Int64)), (4, .long (29 : Int64))]) rfl rfl (Nat.le_of_ble_eq_true rfl) fun X4 Q4 C4 k4 => ?_)
      refine ww_lload_n C4.1 dX10_in_0 0 rfl rfl ?_
      refine ww_lload_n C4.1 dX10_in_1 1 rfl rfl ?_
      refine ww_lcmp C4.1 dX10_in_2 ?_
      refine ww_if_lt C4.1 (tgt := 17) dX10_in_3 (by decide) (fun hh => ?_) (fun hh => ?_)
      · replace h := h.1 ((in_lt (a := x2) (b := (0 : Int32)) (by first | rfl | decide) (by first | rfl | decide)).mp hh)
        refine ww_iconst C4.1 (v := (0 : Int32)) dX10_in_17 (by decide) ?_
        refine ww_zret C4.1 dX10_in_18 rfl (Or.inl rfl) ?_
        refine k4 _ _ ?_
        refine ww_zret C3.1 dX10_isNight_9 rfl (Or.inl rfl) ?_
        refine k3 _ _ ?_
        refine ww_if_eq C.1 (tgt := 24) dX10_bed_12 (by decide) (fun _ => ?_) (fun hh => absurd hh (by decide))
        refine ww_iconst C.1 (v := (-1 : Int32)) dX10_bed_24 (by decide) ?_
        refine ww_iret C.1 dX10_bed_25 rfl ?_
        exact h
      · replace h := h.2 (fun z => hh ((in_lt (a := x2) (b := (0 : Int32)) (by first | rfl | decide) (by first | rfl | decide)).mpr z))
        refine ww_lload_n C4.1 dX10_in_6 0 rfl rfl ?_
        refine ww_lload C4.1 dX10_in_7 2 rfl ?_
        refine ww_lcmp C4.1 dX10_in_9 ?_
        refine ww_if_gt C4.1 (tgt := 17) dX10_in_10 (by decide) (fun hh => ?_) (fun hh => ?_)
        · replace h := h.1 ((in_gt (a := x2) (b := (29 : Int32)) (by first | rfl | decide) (by first | rfl | decide)).mp hh)
          refine ww_iconst C4.1 (v := (0 : Int32)) dX10_in_17 (by decide) ?_
          refine ww_zret C4.1 dX10_in_18 rfl (Or.inl rfl) ?_
          refine k4 _ _ ?_
          refine ww_zret C3.1 dX10_isNight_9 rfl (Or.inl rfl) ?_
          refine k3 _ _ ?_
          refine ww_if_eq C.1 (tgt := 24) dX10_bed_12 (by decide) (fun _ => ?_) (fun hh => absurd hh (by decide))
          refine ww_iconst C.1 (v := (-1 : Int32)) dX10_bed_24 (by decide) ?_
          refine ww_iret C.1 dX10_bed_25 rfl ?_
          exact h
        · replace h := h.2 (fun z => hh ((in_gt (a := x2) (b := (29 : Int32)) (by first | rfl | decide) (by first | rfl | decide)).mpr z))
          refine ww_iconst C4.1 (v := (1 : Int32)) dX10_in_13 (by decide) ?_
          refine ww_goto C4.1 (tgt := 18) dX10_in_14 (by decide) ?_
          refine ww_zret C4.1 dX10_in_18 rfl (Or.inr rfl) ?_
          refine k4 _ _ ?_
          refine ww_zret C3.1 dX10_isNight_9 rfl (Or.inr rfl) ?_
          refine k3 _ _ ?_
          refine ww_if_eq C.1 (tgt := 24) dX10_bed_12 (by decide) (fun hh => absurd hh (by decide)) (fun _ => ?_)
          refine ww_aload_n C.1 dX10_bed_15 0 rfl rfl ?_
          refine ww_iload_n C.1 dX10_bed_16 1 rfl rfl ?_
          refine ww_iload_n C.1 dX10_bed_17 2 rfl rfl ?_
          refine ww_vI C fX10_lengthOn (And.intro (by decide) (by decide)) mlRX10_199 dX10_bed_18 tm57 (by decide) rfl (As := [.int x1, .int x2]) (rest := []) rfl rfl rfl (Nat.le_of_ble_eq_true rfl) ?_
          exact h
set_option maxHeartbeats 4000000 in
set_option maxRecDepth 20000 in
theorem bX10_bed_21 {X : CX} {Q : State → Prop} {M : Mem} {x1 x2 s0 : Int32} (C : Ok0 X mX10_bed (TTc ++ TTm))
    (h : RetOK X Q (some (.int s0)) (M, (gj gm), TTc ++ TTm)) :
    WW X Q 21 [(0, .ref 57), (1, .int x1), (2, .int x2)] [.int s0] (M, (gj gm), TTc ++ TTm) := by
  refine ww_goto C.1 (tgt := 25) dX10_bed_21 (by decide) ?_
  refine ww_iret C.1 dX10_bed_25 rfl ?_
  exact h
set_option maxHeartbeats 4000000 in
set_option maxRecDepth 20000 in
theorem bX10_isWaiting_0 {X : CX} {Q : State → Prop} {M : Mem} {x1 x2 : Int32} (C : Ok0 X mX10_isWaiting (TTc ++ TTm))
    (h : (vp_in x1 7 ∧ (((0 : Int32) ≤ (M 72 x1.toNatClampNeg) → RetOK X Q (some (.int (0 : Int32))) (M, (gj gm), TTc ++ TTm)) ∧ (¬ (0 : Int32) ≤ (M 72 x1.toNatClampNeg) → (vp_in ((14 : Int32) + x1) 21 ∧ ((x2 < (M 64 ((14 : Int32) + x1).toNatClampNeg) → RetOK X Q (some (.int (0 : Int32))) (M, (gj gm), TTc ++ TTm)) ∧ (¬ x2 < (M 64 ((14 : Int32) + x1).toNatClampNeg) → RetOK X Q (some (.int (1 : Int32))) (M, (gj gm), TTc ++ TTm)))))))) :
    WW X Q 0 [(0, .ref 57), (1, .int x1), (2, .int x2)] [] (M, (gj gm), TTc ++ TTm) := by
  refine ww_aload_n C.1 dX10_isWaiting_0 0 rfl rfl ?_
  refine wt_getR C.1 dX10_isWaiting_1 flRX10_65 tm57 rfl gm57_29 ?_
  refine ww_iload_n C.1 dX10_isWaiting_4 1 rfl rfl ?_
  refine wt_iald C.1 dX10_isWaiting_5 tm72 h.1 ?_
  replace h := h.2
  refine ww_if_ge C.1 (tgt := 26) dX10_isWaiting_6 (by decide) (fun hh => ?_) (fun hh => ?_)
  · replace h := h.1 hh
    refine ww_iconst C.1 (v := (0 : Int32)) dX10_isWaiting_26 (by decide) ?_
    refine ww_zret C.1 dX10_isWaiting_27 rfl (Or.inl rfl) ?_
    exact h
  · replace h := h.2 hh
    refine ww_aload_n C.1 dX10_isWaiting_9 0 rfl rfl ?_
    refine wt_getR C.1 dX10_isWaiting_10 flRX10_38 tm57 rfl gm57_11 ?_
    refine ww_bipush C.1 (v := (14 : Int32)) dX10_isWaiting_13 (by decide) ?_
    refine ww_iload_n C.1 dX10_isWaiting_15 1 rfl rfl ?_
    refine ww_iadd C.1 dX10_isWaiting_16 ?_
    refine wt_iald C.1 dX10_isWaiting_17 tm64 h.1 ?_
    replace h := h.2
    refine ww_iload_n C.1 dX10_isWaiting_18 2 rfl rfl ?_
    refine ww_icmp_gt C.1 (tgt := 26) dX10_isWaiting_19 (by decide) (fun hh => ?_) (fun hh => ?_)
    · replace h := h.1 hh
      refine ww_iconst C.1 (v := (0 : Int32)) dX10_isWaiting_26 (by decide) ?_
      refine ww_zret C.1 dX10_isWaiting_27 rfl (Or.inl rfl) ?_
      exact h
    · replace h := h.2 hh
      refine ww_iconst C.1 (v := (1 : Int32)) dX10_isWaiting_22 (by decide) ?_
      refine ww_goto C.1 (tgt := 27) dX10_isWaiting_23 (by decide) ?_
      refine ww_zret C.1 dX10_isWaiting_27 rfl (Or.inr rfl) ?_
      exact h
