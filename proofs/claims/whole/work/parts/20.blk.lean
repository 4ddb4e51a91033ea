set_option maxHeartbeats 4000000 in
set_option maxRecDepth 20000 in
theorem bX0_clear_0 {X : CX} {Q : State → Prop} {M : Mem} {G2 : Grf} {T2 : List (Nat × Nat)} (C : Ok0 X mX0_clear (TTc ++ T2))
    (h : WW X Q 17 [(0, .ref 46), (1, .int (0 : Int32))] [] ((wr (wr (wr M 46 2 (0 : Int32)) 46 4 (0 : Int32)) 46 3 (0 : Int32)), (gj G2), TTc ++ T2)) :
    WW X Q 0 [(0, .ref 46)] [] (M, (gj G2), TTc ++ T2) := by
  refine ww_aload_n C.1 dX0_clear_0 0 rfl rfl ?_
  refine ww_iconst C.1 (v := (0 : Int32)) dX0_clear_1 (by decide) ?_
  refine wt_putI C.1 dX0_clear_2 flRX0_22 (tc46 T2) rfl ?_
  refine ww_aload_n C.1 dX0_clear_5 0 rfl rfl ?_
  refine ww_iconst C.1 (v := (0 : Int32)) dX0_clear_6 (by decide) ?_
  refine wt_putI C.1 dX0_clear_7 flRX0_25 (tc46 T2) rfl ?_
  refine ww_aload_n C.1 dX0_clear_10 0 rfl rfl ?_
  refine ww_iconst C.1 (v := (0 : Int32)) dX0_clear_11 (by decide) ?_
  refine wt_putI C.1 dX0_clear_12 flRX0_28 (tc46 T2) rfl ?_
  refine ww_iconst C.1 (v := (0 : Int32)) dX0_clear_15 (by decide) ?_
  refine ww_istore_n C.1 dX0_clear_16 rfl (by decide) [1, 0] (L' := [(0, .ref 46), (1, .int (0 : Int32))]) rfl ?_
  exact h
set_option maxHeartbeats 4000000 in
set_option maxRecDepth 20000 in
theorem bX0_clear_17 {X : CX} {Q : State → Prop} {M : Mem} {G2 : Grf} {T2 : List (Nat × Nat)} {x1 : Int32} (C : Ok0 X mX0_clear (TTc ++ T2))
    (h : (((30 : Int32) ≤ x1 → RetOK X Q (none) (M, (gj G2), TTc ++ T2)) ∧ (¬ (30 : Int32) ≤ x1 → (vp_in x1 30 ∧ WW X Q 17 [(0, .ref 46), (1, .int (x1 + (1 : Int32)))] [] ((wr M 48 x1.toNatClampNeg (0 : Int32)), (gj G2), TTc ++ T2))))) :
    WW X Q 17 [(0, .ref 46), (1, .int x1)] [] (M, (gj G2), TTc ++ T2) := by
  refine ww_iload_n C.1 dX0_clear_17 1 rfl rfl ?_
  refine ww_bipush C.1 (v := (30 : Int32)) dX0_clear_18 (by decide) ?_
  refine ww_icmp_ge (x := x1) (y := (30 : Int32)) C.1 (tgt := 36) dX0_clear_20 (by decide) (fun hh => ?_) (fun hh => ?_)
  · replace h := h.1 hh
    refine ww_vret C.1 dX0_clear_36 rfl ?_
    exact h
  · replace h := h.2 hh
    refine ww_aload_n C.1 dX0_clear_23 0 rfl rfl ?_
    refine wt_getR C.1 dX0_clear_24 flRX0_15 (tc46 T2) rfl (gg46_1 G2) ?_
    refine ww_iload_n C.1 dX0_clear_27 1 rfl rfl ?_
    refine ww_iconst C.1 (v := (0 : Int32)) dX0_clear_28 (by decide) ?_
    refine wt_iast C.1 dX0_clear_29 (tc48 T2) h.1 ?_
    replace h := h.2
    refine ww_iinc C.1 (v := (x1 + (1 : Int32))) dX0_clear_30 1 rfl (by rfl) (by decide) [1, 0] (L' := [(0, .ref 46), (1, .int (x1 + (1 : Int32)))]) rfl ?_
    refine ww_goto C.1 (tgt := 17) dX0_clear_33 (by decide) ?_
    exact h
set_option maxHeartbeats 4000000 in
set_option maxRecDepth 20000 in
theorem bX0_add_0 {X : CX} {Q : State → Prop} {M : Mem} {G2 : Grf} {T2 : List (Nat × Nat)} {x1 : Int32} (C : Ok0 X mX0_add (TTc ++ T2))
    (h : (((M 46 2) < (4 : Int32) → (vp_in (M 46 2) 4 ∧ RetOK X Q (some (.int (1 : Int32))) ((wr (wr (wr M 47 (M 46 2).toNatClampNeg x1) 46 2 ((M 46 2) + (1 : Int32))) 46 4 ((M 46 2) + (1 : Int32))), (gj G2), TTc ++ T2))) ∧ (¬ (M 46 2) < (4 : Int32) → RetOK X Q (some (.int (0 : Int32))) (M, (gj G2), TTc ++ T2)))) :
    WW X Q 0 [(0, .ref 46), (1, .int x1)] [] (M, (gj G2), TTc ++ T2) := by
  refine ww_aload_n C.1 dX0_add_0 0 rfl rfl ?_
  refine wt_getI C.1 dX0_add_1 flRX0_22 (tc46 T2) rfl ?_
  refine ww_iconst C.1 (v := (4 : Int32)) dX0_add_4 (by decide) ?_
  refine ww_icmp_lt (x := (M 46 2)) (y := (4 : Int32)) C.1 (tgt := 10) dX0_add_5 (by decide) (fun hh => ?_) (fun hh => ?_)
  · replace h := h.1 hh
    refine ww_aload_n C.1 dX0_add_10 0 rfl rfl ?_
    refine wt_getR C.1 dX0_add_11 flRX0_9 (tc46 T2) rfl (gg46_0 G2) ?_
    refine ww_aload_n C.1 dX0_add_14 0 rfl rfl ?_
    refine wt_getI C.1 dX0_add_15 flRX0_22 (tc46 T2) rfl ?_
    refine ww_iload_n C.1 dX0_add_18 1 rfl rfl ?_
    refine wt_iast C.1 dX0_add_19 (tc47 T2) h.1 ?_
    replace h := h.2
    refine ww_aload_n C.1 dX0_add_20 0 rfl rfl ?_
    refine ww_dup C.1 dX0_add_21 rfl ?_
    refine wt_getI C.1 dX0_add_22 flRX0_22 (tc46 T2) rfl ?_
    refine ww_iconst C.1 (v := (1 : Int32)) dX0_add_25 (by decide) ?_
    refine ww_iadd C.1 dX0_add_26 ?_
    refine wt_putI C.1 dX0_add_27 flRX0_22 (tc46 T2) rfl ?_
    refine ww_aload_n C.1 dX0_add_30 0 rfl rfl ?_
    refine ww_aload_n C.1 dX0_add_31 0 rfl rfl ?_
    refine wt_getI C.1 dX0_add_32 flRX0_22 (tc46 T2) rfl ?_
    refine wt_putI C.1 dX0_add_35 flRX0_25 (tc46 T2) rfl ?_
    refine ww_iconst C.1 (v := (1 : Int32)) dX0_add_38 (by decide) ?_
    refine ww_zret C.1 dX0_add_39 rfl (Or.inr rfl) ?_
    exact h
  · replace h := h.2 hh
    refine ww_iconst C.1 (v := (0 : Int32)) dX0_add_8 (by decide) ?_
    refine ww_zret C.1 dX0_add_9 rfl (Or.inl rfl) ?_
    exact h
set_option maxHeartbeats 4000000 in
set_option maxRecDepth 20000 in
theorem bX0_addFeast_0 {X : CX} {Q : State → Prop} {M : Mem} {G2 : Grf} {T2 : List (Nat × Nat)} {x1 x2 : Int32} (C : Ok0 X mX0_addFeast (TTc ++ T2))
    (h : (((4 : Int32) ≤ (M 46 3) → RetOK X Q (some (.int (0 : Int32))) (M, (gj G2), TTc ++ T2)) ∧ (¬ (4 : Int32) ≤ (M 46 3) → ((x1 < (0 : Int32) → RetOK X Q (some (.int (0 : Int32))) (M, (gj G2), TTc ++ T2)) ∧ (¬ x1 < (0 : Int32) → (((29 : Int32) < x1 → RetOK X Q (some (.int (0 : Int32))) (M, (gj G2), TTc ++ T2)) ∧ (¬ (29 : Int32) < x1 → (vp_in x1 30 ∧ (vp_in x1 30 ∧ RetOK X Q (some (.int (1 : Int32))) ((wr (wr M 48 x1.toNatClampNeg ((M 48 x1.toNatClampNeg) + x2)) 46 3 ((M 46 3) + (1 : Int32))), (gj G2), TTc ++ T2)))))))))) :
    WW X Q 0 [(0, .ref 46), (1, .int x1), (2, .int x2)] [] (M, (gj G2), TTc ++ T2) := by
  refine ww_aload_n C.1 dX0_addFeast_0 0 rfl rfl ?_
  refine wt_getI C.1 dX0_addFeast_1 flRX0_28 (tc46 T2) rfl ?_
  refine ww_iconst C.1 (v := (4 : Int32)) dX0_addFeast_4 (by decide) ?_
  refine ww_icmp_ge (x := (M 46 3)) (y := (4 : Int32)) C.1 (tgt := 15) dX0_addFeast_5 (by decide) (fun hh => ?_) (fun hh => ?_)
  · replace h := h.1 hh
    refine ww_iconst C.1 (v := (0 : Int32)) dX0_addFeast_15 (by decide) ?_
    refine ww_zret C.1 dX0_addFeast_16 rfl (Or.inl rfl) ?_
    exact h
  · replace h := h.2 hh
    refine ww_iload_n C.1 dX0_addFeast_8 1 rfl rfl ?_
    refine ww_nI C fX9_isNight (And.intro (by decide) (by decide)) nlRX0_31 dX0_addFeast_9 (As := [.int x1]) (rest := []) rfl rfl rfl (Nat.le_of_ble_eq_true rfl) (WpI.of (L0 := [(0, .int x1)]) rfl rfl (Nat.le_of_ble_eq_true rfl) fun X1 Q1 C1 k1 => ?_)
    refine ww_iload_n C1.1 dX9_isNight_0 0 rfl rfl ?_
    refine ww_iconst C1.1 (v := (0 : Int32)) dX9_isNight_1 (by decide) ?_
    refine ww_bipush C1.1 (v := (29 : Int32)) dX9_isNight_2 (by decide) ?_
    refine ww_sI C1 fX9_isWithin (And.intro (by decide) (by decide)) mlRX9_89 dX9_isNight_4 (As := [.int x1, .int (0 : Int32), .int (29 : Int32)]) (rest := []) rfl rfl rfl (Nat.le_of_ble_eq_true rfl) (WpI.of (L0 := [(0, .int x1), (1, .int (0 : Int32)), (2, .int (29 : Int32))]) rfl rfl (Nat.le_of_ble_eq_true rfl) fun X2 Q2 C2 k2 => ?_)
    refine ww_iload_n C2.1 dX9_isWithin_0 0 rfl rfl ?_
    refine ww_iload_n C2.1 dX9_isWithin_1 1 rfl rfl ?_
    refine ww_icmp_lt (x := x1) (y := (0 : Int32)) C2.1 (tgt := 14) dX9_isWithin_2 (by decide) (fun hh => ?_) (fun hh => ?_)
    · replace h := h.1 hh
      refine ww_iconst C2.1 (v := (0 : Int32)) dX9_isWithin_14 (by decide) ?_
      refine ww_zret C2.1 dX9_isWithin_15 rfl (Or.inl rfl) ?_
      refine k2 _ _ ?_
      refine ww_zret C1.1 dX9_isNight_7 rfl (Or.inl rfl) ?_
      refine k1 _ _ ?_
      refine ww_if_ne (x := (0 : Int32)) C.1 (tgt := 17) dX0_addFeast_12 (by decide) (fun hh => absurd hh (by decide)) (fun _ => ?_)
      refine ww_iconst C.1 (v := (0 : Int32)) dX0_addFeast_15 (by decide) ?_
      refine ww_zret C.1 dX0_addFeast_16 rfl (Or.inl rfl) ?_
      exact h
    · replace h := h.2 hh
      refine ww_iload_n C2.1 dX9_isWithin_5 0 rfl rfl ?_
      refine ww_iload_n C2.1 dX9_isWithin_6 2 rfl rfl ?_
      refine ww_icmp_gt (x := x1) (y := (29 : Int32)) C2.1 (tgt := 14) dX9_isWithin_7 (by decide) (fun hh => ?_) (fun hh => ?_)
      · replace h := h.1 hh
        refine ww_iconst C2.1 (v := (0 : Int32)) dX9_isWithin_14 (by decide) ?_
        refine ww_zret C2.1 dX9_isWithin_15 rfl (Or.inl rfl) ?_
        refine k2 _ _ ?_
        refine ww_zret C1.1 dX9_isNight_7 rfl (Or.inl rfl) ?_
        refine k1 _ _ ?_
        refine ww_if_ne (x := (0 : Int32)) C.1 (tgt := 17) dX0_addFeast_12 (by decide) (fun hh => absurd hh (by decide)) (fun _ => ?_)
        refine ww_iconst C.1 (v := (0 : Int32)) dX0_addFeast_15 (by decide) ?_
        refine ww_zret C.1 dX0_addFeast_16 rfl (Or.inl rfl) ?_
        exact h
      · replace h := h.2 hh
        refine ww_iconst C2.1 (v := (1 : Int32)) dX9_isWithin_10 (by decide) ?_
        refine ww_goto C2.1 (tgt := 15) dX9_isWithin_11 (by decide) ?_
        refine ww_zret C2.1 dX9_isWithin_15 rfl (Or.inr rfl) ?_
        refine k2 _ _ ?_
        refine ww_zret C1.1 dX9_isNight_7 rfl (Or.inr rfl) ?_
        refine k1 _ _ ?_
        refine ww_if_ne (x := (1 : Int32)) C.1 (tgt := 17) dX0_addFeast_12 (by decide) (fun _ => ?_) (fun hh => absurd hh (by decide))
        refine ww_aload_n C.1 dX0_addFeast_17 0 rfl rfl ?_
        refine wt_getR C.1 dX0_addFeast_18 flRX0_15 (tc46 T2) rfl (gg46_1 G2) ?_
        refine ww_iload_n C.1 dX0_addFeast_21 1 rfl rfl ?_
        refine ww_dup2 C.1 dX0_addFeast_22 rfl rfl ?_
        refine wt_iald C.1 dX0_addFeast_23 (tc48 T2) h.1 ?_
        replace h := h.2
        refine ww_iload_n C.1 dX0_addFeast_24 2 rfl rfl ?_
        refine ww_iadd C.1 dX0_addFeast_25 ?_
        refine wt_iast C.1 dX0_addFeast_26 (tc48 T2) h.1 ?_
        replace h := h.2
        refine ww_aload_n C.1 dX0_addFeast_27 0 rfl rfl ?_
        refine ww_dup C.1 dX0_addFeast_28 rfl ?_
        refine wt_getI C.1 dX0_addFeast_29 flRX0_28 (tc46 T2) rfl ?_
        refine ww_iconst C.1 (v := (1 : Int32)) dX0_addFeast_32 (by decide) ?_
        refine ww_iadd C.1 dX0_addFeast_33 ?_
        refine wt_putI C.1 dX0_addFeast_34 flRX0_28 (tc46 T2) rfl ?_
        refine ww_iconst C.1 (v := (1 : Int32)) dX0_addFeast_37 (by decide) ?_
        refine ww_zret C.1 dX0_addFeast_38 rfl (Or.inr rfl) ?_
        exact h
set_option maxHeartbeats 4000000 in
set_option maxRecDepth 20000 in
theorem bX0_lengthOn_0 {X : CX} {Q : State → Prop} {M : Mem} {G2 : Grf} {T2 : List (Nat × Nat)} {x1 x2 : Int32} (C : Ok0 X mX0_lengthOn (TTc ++ T2))
    (h : (((M 34 5) = (0 : Int32) → WW X Q 22 [(0, .ref 34), (1, .int x1), (2, .int x2), (3, .int x1)] [] (M, (gj G2), TTc ++ T2)) ∧ (¬ (M 34 5) = (0 : Int32) → ((¬ (x2 - x2 / (2 : Int32) * (2 : Int32)) = (1 : Int32) → WW X Q 22 [(0, .ref 34), (1, .int x1), (2, .int x2), (3, .int x1)] [] (M, (gj G2), TTc ++ T2)) ∧ ((x2 - x2 / (2 : Int32) * (2 : Int32)) = (1 : Int32) → WW X Q 22 [(0, .ref 34), (1, .int x1), (2, .int x2), (3, .int (x1 + (1 : Int32)))] [] (M, (gj G2), TTc ++ T2)))))) :
    WW X Q 0 [(0, .ref 34), (1, .int x1), (2, .int x2)] [] (M, (gj G2), TTc ++ T2) := by
  refine ww_aload_n C.1 dX0_lengthOn_0 0 rfl rfl ?_
  refine wt_getI C.1 dX0_lengthOn_1 flRX0_35 (tc34 T2) rfl ?_
  refine ww_if_eq (x := (M 34 5)) C.1 (tgt := 20) dX0_lengthOn_4 (by decide) (fun hh => ?_) (fun hh => ?_)
  · replace h := h.1 hh
    refine ww_iload_n C.1 dX0_lengthOn_20 1 rfl rfl ?_
    refine ww_istore_n C.1 dX0_lengthOn_21 rfl (by decide) [1, 2, 3, 0] (L' := [(0, .ref 34), (1, .int x1), (2, .int x2), (3, .int x1)]) rfl ?_
    exact h
  · replace h := h.2 hh
    refine ww_iload_n C.1 dX0_lengthOn_7 2 rfl rfl ?_
    refine ww_iconst C.1 (v := (2 : Int32)) dX0_lengthOn_8 (by decide) ?_
    refine ww_irem C.1 dX0_lengthOn_9 (by decide) ?_
    refine ww_iconst C.1 (v := (1 : Int32)) dX0_lengthOn_10 (by decide) ?_
    refine ww_icmp_ne (x := (x2 - x2 / (2 : Int32) * (2 : Int32))) (y := (1 : Int32)) C.1 (tgt := 20) dX0_lengthOn_11 (by decide) (fun hh => ?_) (fun hh => ?_)
    · replace h := h.1 hh
      refine ww_iload_n C.1 dX0_lengthOn_20 1 rfl rfl ?_
      refine ww_istore_n C.1 dX0_lengthOn_21 rfl (by decide) [1, 2, 3, 0] (L' := [(0, .ref 34), (1, .int x1), (2, .int x2), (3, .int x1)]) rfl ?_
      exact h
    · replace h := h.2 hh
      refine ww_iload_n C.1 dX0_lengthOn_14 1 rfl rfl ?_
      refine ww_iconst C.1 (v := (1 : Int32)) dX0_lengthOn_15 (by decide) ?_
      refine ww_iadd C.1 dX0_lengthOn_16 ?_
      refine ww_goto C.1 (tgt := 21) dX0_lengthOn_17 (by decide) ?_
      refine ww_istore_n C.1 dX0_lengthOn_21 rfl (by decide) [1, 2, 3, 0] (L' := [(0, .ref 34), (1, .int x1), (2, .int x2), (3, .int (x1 + (1 : Int32)))]) rfl ?_
      exact h
set_option maxHeartbeats 4000000 in
set_option maxRecDepth 20000 in
theorem bX0_lengthOn_22 {X : CX} {Q : State → Prop} {M : Mem} {G2 : Grf} {T2 : List (Nat × Nat)} {x1 x2 x3 : Int32} (C : Ok0 X mX0_lengthOn (TTc ++ T2))
    (h : ((¬ x3 = (M 34 2) → WW X Q 32 [(0, .ref 34), (1, .int x1), (2, .int x2), (3, .int x3)] [] (M, (gj G2), TTc ++ T2)) ∧ (x3 = (M 34 2) → WW X Q 32 [(0, .ref 34), (1, .int x1), (2, .int x2), (3, .int (0 : Int32))] [] (M, (gj G2), TTc ++ T2)))) :
    WW X Q 22 [(0, .ref 34), (1, .int x1), (2, .int x2), (3, .int x3)] [] (M, (gj G2), TTc ++ T2) := by
  refine ww_iload_n C.1 dX0_lengthOn_22 3 rfl rfl ?_
  refine ww_aload_n C.1 dX0_lengthOn_23 0 rfl rfl ?_
  refine wt_getI C.1 dX0_lengthOn_24 flRX0_22 (tc34 T2) rfl ?_
  refine ww_icmp_ne (x := x3) (y := (M 34 2)) C.1 (tgt := 32) dX0_lengthOn_27 (by decide) (fun hh => ?_) (fun hh => ?_)
  · replace h := h.1 hh
    exact h
  · replace h := h.2 hh
    refine ww_iconst C.1 (v := (0 : Int32)) dX0_lengthOn_30 (by decide) ?_
    refine ww_istore_n C.1 dX0_lengthOn_31 rfl (by decide) [1, 2, 3, 0] (L' := [(0, .ref 34), (1, .int x1), (2, .int x2), (3, .int (0 : Int32))]) rfl ?_
    exact h
set_option maxHeartbeats 4000000 in
set_option maxRecDepth 20000 in
theorem bX0_lengthOn_32 {X : CX} {Q : State → Prop} {M : Mem} {G2 : Grf} {T2 : List (Nat × Nat)} {x1 x2 x3 : Int32} (C : Ok0 X mX0_lengthOn (TTc ++ T2))
    (h : ((x3 < (0 : Int32) → WW X Q 52 [(0, .ref 34), (1, .int x1), (2, .int x2), (3, .int x3), (4, .int (0 : Int32))] [] (M, (gj G2), TTc ++ T2)) ∧ (¬ x3 < (0 : Int32) → (((M 34 2) ≤ x3 → WW X Q 52 [(0, .ref 34), (1, .int x1), (2, .int x2), (3, .int x3), (4, .int (0 : Int32))] [] (M, (gj G2), TTc ++ T2)) ∧ (¬ (M 34 2) ≤ x3 → (vp_in x3 4 ∧ WW X Q 52 [(0, .ref 34), (1, .int x1), (2, .int x2), (3, .int x3), (4, .int (M 35 x3.toNatClampNeg))] [] (M, (gj G2), TTc ++ T2))))))) :
    WW X Q 32 [(0, .ref 34), (1, .int x1), (2, .int x2), (3, .int x3)] [] (M, (gj G2), TTc ++ T2) := by
  refine ww_aload_n C.1 dX0_lengthOn_32 0 rfl rfl ?_
  refine ww_iload_n C.1 dX0_lengthOn_33 3 rfl rfl ?_
  refine ww_vI C fX0_has (And.intro (by decide) (by decide)) mlRX0_39 dX0_lengthOn_34 (tc34 T2) (by decide) rfl (As := [.int x3]) (rest := []) rfl rfl rfl (Nat.le_of_ble_eq_true rfl) (WpI.of (L0 := [(0, .ref 34), (1, .int x3)]) rfl rfl (Nat.le_of_ble_eq_true rfl) fun X1 Q1 C1 k1 => ?_)
  refine ww_iload_n C1.1 dX0_has_0 1 rfl rfl ?_
  refine ww_if_lt (x := x3) C1.1 (tgt := 16) dX0_has_1 (by decide) (fun hh => ?_) (fun hh => ?_)
  · replace h := h.1 hh
    refine ww_iconst C1.1 (v := (0 : Int32)) dX0_has_16 (by decide) ?_
    refine ww_zret C1.1 dX0_has_17 rfl (Or.inl rfl) ?_
    refine k1 _ _ ?_
    refine ww_if_eq (x := (0 : Int32)) C.1 (tgt := 49) dX0_lengthOn_37 (by decide) (fun _ => ?_) (fun hh => absurd hh (by decide))
    refine ww_iconst C.1 (v := (0 : Int32)) dX0_lengthOn_49 (by decide) ?_
    refine ww_istore C.1 dX0_lengthOn_50 (by decide) [1, 2, 3, 4, 0] (L' := [(0, .ref 34), (1, .int x1), (2, .int x2), (3, .int x3), (4, .int (0 : Int32))]) rfl ?_
    exact h
  · replace h := h.2 hh
    refine ww_iload_n C1.1 dX0_has_4 1 rfl rfl ?_
    refine ww_aload_n C1.1 dX0_has_5 0 rfl rfl ?_
    refine wt_getI C1.1 dX0_has_6 flRX0_22 (tc34 T2) rfl ?_
    refine ww_icmp_ge (x := x3) (y := (M 34 2)) C1.1 (tgt := 16) dX0_has_9 (by decide) (fun hh => ?_) (fun hh => ?_)
    · replace h := h.1 hh
      refine ww_iconst C1.1 (v := (0 : Int32)) dX0_has_16 (by decide) ?_
      refine ww_zret C1.1 dX0_has_17 rfl (Or.inl rfl) ?_
      refine k1 _ _ ?_
      refine ww_if_eq (x := (0 : Int32)) C.1 (tgt := 49) dX0_lengthOn_37 (by decide) (fun _ => ?_) (fun hh => absurd hh (by decide))
      refine ww_iconst C.1 (v := (0 : Int32)) dX0_lengthOn_49 (by decide) ?_
      refine ww_istore C.1 dX0_lengthOn_50 (by decide) [1, 2, 3, 4, 0] (L' := [(0, .ref 34), (1, .int x1), (2, .int x2), (3, .int x3), (4, .int (0 : Int32))]) rfl ?_
      exact h
    · replace h := h.2 hh
      refine ww_iconst C1.1 (v := (1 : Int32)) dX0_has_12 (by decide) ?_
      refine ww_goto C1.1 (tgt := 17) dX0_has_13 (by decide) ?_
      refine ww_zret C1.1 dX0_has_17 rfl (Or.inr rfl) ?_
      refine k1 _ _ ?_
      refine ww_if_eq (x := (1 : Int32)) C.1 (tgt := 49) dX0_lengthOn_37 (by decide) (fun hh => absurd hh (by decide)) (fun _ => ?_)
      refine ww_aload_n C.1 dX0_lengthOn_40 0 rfl rfl ?_
      refine wt_getR C.1 dX0_lengthOn_41 flRX0_9 (tc34 T2) rfl (gg34_0 G2) ?_
      refine ww_iload_n C.1 dX0_lengthOn_44 3 rfl rfl ?_
      refine wt_iald C.1 dX0_lengthOn_45 (tc35 T2) h.1 ?_
      replace h := h.2
      refine ww_goto C.1 (tgt := 50) dX0_lengthOn_46 (by decide) ?_
      refine ww_istore C.1 dX0_lengthOn_50 (by decide) [1, 2, 3, 4, 0] (L' := [(0, .ref 34), (1, .int x1), (2, .int x2), (3, .int x3), (4, .int (M 35 x3.toNatClampNeg))]) rfl ?_
      exact h
set_option maxHeartbeats 4000000 in
set_option maxRecDepth 20000 in
theorem bX0_lengthOn_52 {X : CX} {Q : State → Prop} {M : Mem} {G2 : Grf} {T2 : List (Nat × Nat)} {x1 x2 x3 x4 : Int32} (C : Ok0 X mX0_lengthOn (TTc ++ T2))
    (h : ((x2 < (0 : Int32) → WW X Q 74 [(0, .ref 34), (1, .int x1), (2, .int x2), (3, .int x3), (4, .int (x4 + (0 : Int32)))] [] (M, (gj G2), TTc ++ T2)) ∧ (¬ x2 < (0 : Int32) → (((29 : Int32) < x2 → WW X Q 74 [(0, .ref 34), (1, .int x1), (2, .int x2), (3, .int x3), (4, .int (x4 + (0 : Int32)))] [] (M, (gj G2), TTc ++ T2)) ∧ (¬ (29 : Int32) < x2 → (vp_in x2 30 ∧ WW X Q 74 [(0, .ref 34), (1, .int x1), (2, .int x2), (3, .int x3), (4, .int (x4 + (M 36 x2.toNatClampNeg)))] [] (M, (gj G2), TTc ++ T2))))))) :
    WW X Q 52 [(0, .ref 34), (1, .int x1), (2, .int x2), (3, .int x3), (4, .int x4)] [] (M, (gj G2), TTc ++ T2) := by
  refine ww_iload C.1 dX0_lengthOn_52 4 rfl ?_
  refine ww_iload_n C.1 dX0_lengthOn_54 2 rfl rfl ?_
  refine ww_nI C fX9_isNight (And.intro (by decide) (by decide)) nlRX0_31 dX0_lengthOn_55 (As := [.int x2]) (rest := [.int x4]) rfl rfl rfl (Nat.le_of_ble_eq_true rfl) (WpI.of (L0 := [(0, .int x2)]) rfl rfl (Nat.le_of_ble_eq_true rfl) fun X1 Q1 C1 k1 => ?_)
  refine ww_iload_n C1.1 dX9_isNight_0 0 rfl rfl ?_
  refine ww_iconst C1.1 (v := (0 : Int32)) dX9_isNight_1 (by decide) ?_
  refine ww_bipush C1.1 (v := (29 : Int32)) dX9_isNight_2 (by decide) ?_
  refine ww_sI C1 fX9_isWithin (And.intro (by decide) (by decide)) mlRX9_89 dX9_isNight_4 (As := [.int x2, .int (0 : Int32), .int (29 : Int32)]) (rest := []) rfl rfl rfl (Nat.le_of_ble_eq_true rfl) (WpI.of (L0 := [(0, .int x2), (1, .int (0 : Int32)), (2, .int (29 : Int32))]) rfl rfl (Nat.le_of_ble_eq_true rfl) fun X2 Q2 C2 k2 => ?_)
  refine ww_iload_n C2.1 dX9_isWithin_0 0 rfl rfl ?_
  refine ww_iload_n C2.1 dX9_isWithin_1 1 rfl rfl ?_
  refine ww_icmp_lt (x := x2) (y := (0 : Int32)) C2.1 (tgt := 14) dX9_isWithin_2 (by decide) (fun hh => ?_) (fun hh => ?_)
  · replace h := h.1 hh
    refine ww_iconst C2.1 (v := (0 : Int32)) dX9_isWithin_14 (by decide) ?_
    refine ww_zret C2.1 dX9_isWithin_15 rfl (Or.inl rfl) ?_
    refine k2 _ _ ?_
    refine ww_zret C1.1 dX9_isNight_7 rfl (Or.inl rfl) ?_
    refine k1 _ _ ?_
    refine ww_if_eq (x := (0 : Int32)) C.1 (tgt := 70) dX0_lengthOn_58 (by decide) (fun _ => ?_) (fun hh => absurd hh (by decide))
    refine ww_iconst C.1 (v := (0 : Int32)) dX0_lengthOn_70 (by decide) ?_
    refine ww_iadd C.1 dX0_lengthOn_71 ?_
    refine ww_istore C.1 dX0_lengthOn_72 (by decide) [1, 2, 3, 4, 0] (L' := [(0, .ref 34), (1, .int x1), (2, .int x2), (3, .int x3), (4, .int (x4 + (0 : Int32)))]) rfl ?_
    exact h
  · replace h := h.2 hh
    refine ww_iload_n C2.1 dX9_isWithin_5 0 rfl rfl ?_
    refine ww_iload_n C2.1 dX9_isWithin_6 2 rfl rfl ?_
    refine ww_icmp_gt (x := x2) (y := (29 : Int32)) C2.1 (tgt := 14) dX9_isWithin_7 (by decide) (fun hh => ?_) (fun hh => ?_)
    · replace h := h.1 hh
      refine ww_iconst C2.1 (v := (0 : Int32)) dX9_isWithin_14 (by decide) ?_
      refine ww_zret C2.1 dX9_isWithin_15 rfl (Or.inl rfl) ?_
      refine k2 _ _ ?_
      refine ww_zret C1.1 dX9_isNight_7 rfl (Or.inl rfl) ?_
      refine k1 _ _ ?_
      refine ww_if_eq (x := (0 : Int32)) C.1 (tgt := 70) dX0_lengthOn_58 (by decide) (fun _ => ?_) (fun hh => absurd hh (by decide))
      refine ww_iconst C.1 (v := (0 : Int32)) dX0_lengthOn_70 (by decide) ?_
      refine ww_iadd C.1 dX0_lengthOn_71 ?_
      refine ww_istore C.1 dX0_lengthOn_72 (by decide) [1, 2, 3, 4, 0] (L' := [(0, .ref 34), (1, .int x1), (2, .int x2), (3, .int x3), (4, .int (x4 + (0 : Int32)))]) rfl ?_
      exact h
    · replace h := h.2 hh
      refine ww_iconst C2.1 (v := (1 : Int32)) dX9_isWithin_10 (by decide) ?_
      refine ww_goto C2.1 (tgt := 15) dX9_isWithin_11 (by decide) ?_
      refine ww_zret C2.1 dX9_isWithin_15 rfl (Or.inr rfl) ?_
      refine k2 _ _ ?_
      refine ww_zret C1.1 dX9_isNight_7 rfl (Or.inr rfl) ?_
      refine k1 _ _ ?_
      refine ww_if_eq (x := (1 : Int32)) C.1 (tgt := 70) dX0_lengthOn_58 (by decide) (fun hh => absurd hh (by decide)) (fun _ => ?_)
      refine ww_aload_n C.1 dX0_lengthOn_61 0 rfl rfl ?_
      refine wt_getR C.1 dX0_lengthOn_62 flRX0_15 (tc34 T2) rfl (gg34_1 G2) ?_
      refine ww_iload_n C.1 dX0_lengthOn_65 2 rfl rfl ?_
      refine wt_iald C.1 dX0_lengthOn_66 (tc36 T2) h.1 ?_
      replace h := h.2
      refine ww_goto C.1 (tgt := 71) dX0_lengthOn_67 (by decide) ?_
      refine ww_iadd C.1 dX0_lengthOn_71 ?_
      refine ww_istore C.1 dX0_lengthOn_72 (by decide) [1, 2, 3, 4, 0] (L' := [(0, .ref 34), (1, .int x1), (2, .int x2), (3, .int x3), (4, .int (x4 + (M 36 x2.toNatClampNeg)))]) rfl ?_
      exact h
set_option maxHeartbeats 4000000 in
set_option maxRecDepth 20000 in
theorem bX0_lengthOn_74 {X : CX} {Q : State → Prop} {M : Mem} {G2 : Grf} {T2 : List (Nat × Nat)} {x1 x2 x3 x4 : Int32} (C : Ok0 X mX0_lengthOn (TTc ++ T2))
    (h : ((¬ (M 34 6) = (-1 : Int32) → WpI mX0_drawn [.ref 34, .int x1, .int x2] M (gj G2) (TTc ++ T2) (fun r M' => WW X Q 95 [(0, .ref 34), (1, .int x1), (2, .int x2), (3, .int x3), (4, .int x4)] [.int r, .int x4] (M', (gj G2), TTc ++ T2))) ∧ ((M 34 6) = (-1 : Int32) → RetOK X Q (some (.int x4)) (M, (gj G2), TTc ++ T2)))) :
    WW X Q 74 [(0, .ref 34), (1, .int x1), (2, .int x2), (3, .int x3), (4, .int x4)] [] (M, (gj G2), TTc ++ T2) := by
  refine ww_aload_n C.1 dX0_lengthOn_74 0 rfl rfl ?_
  refine wt_getI C.1 dX0_lengthOn_75 flRX0_18 (tc34 T2) rfl ?_
  refine ww_iconst C.1 (v := (-1 : Int32)) dX0_lengthOn_78 (by decide) ?_
  refine ww_icmp_ne (x := (M 34 6)) (y := (-1 : Int32)) C.1 (tgt := 87) dX0_lengthOn_79 (by decide) (fun hh => ?_) (fun hh => ?_)
  · replace h := h.1 hh
    refine ww_iload C.1 dX0_lengthOn_87 4 rfl ?_
    refine ww_aload_n C.1 dX0_lengthOn_89 0 rfl rfl ?_
    refine ww_iload_n C.1 dX0_lengthOn_90 1 rfl rfl ?_
    refine ww_iload_n C.1 dX0_lengthOn_91 2 rfl rfl ?_
    refine ww_vI C fX0_drawn (And.intro (by decide) (by decide)) mlRX0_42 dX0_lengthOn_92 (tc34 T2) (by decide) rfl (As := [.int x1, .int x2]) (rest := [.int x4]) rfl rfl rfl (Nat.le_of_ble_eq_true rfl) ?_
    exact h
  · replace h := h.2 hh
    refine ww_iload C.1 dX0_lengthOn_82 4 rfl ?_
    refine ww_goto C.1 (tgt := 96) dX0_lengthOn_84 (by decide) ?_
    refine ww_iret C.1 dX0_lengthOn_96 rfl ?_
    exact h
set_option maxHeartbeats 4000000 in
set_option maxRecDepth 20000 in
theorem bX0_lengthOn_95 {X : CX} {Q : State → Prop} {M : Mem} {G2 : Grf} {T2 : List (Nat × Nat)} {x1 x2 x3 x4 s0 s1 : Int32} (C : Ok0 X mX0_lengthOn (TTc ++ T2))
    (h : RetOK X Q (some (.int (s0 + s1))) (M, (gj G2), TTc ++ T2)) :
    WW X Q 95 [(0, .ref 34), (1, .int x1), (2, .int x2), (3, .int x3), (4, .int x4)] [.int s1, .int s0] (M, (gj G2), TTc ++ T2) := by
  refine ww_iadd C.1 dX0_lengthOn_95 ?_
  refine ww_iret C.1 dX0_lengthOn_96 rfl ?_
  exact h
set_option maxHeartbeats 4000000 in
set_option maxRecDepth 20000 in
theorem bX0_drawn_0 {X : CX} {Q : State → Prop} {M : Mem} {G2 : Grf} {T2 : List (Nat × Nat)} {x1 x2 : Int32} (C : Ok0 X mX0_drawn (TTc ++ T2))
    (h : RetOK X Q (some (.int ((((((((((7919 : Int64) * (M 34 6).toInt64) + ((6151 : Int64) * x2.toInt64)) + ((101 : Int64) * x1.toInt64)) + (1 : Int64)) * (((((7919 : Int64) * (M 34 6).toInt64) + ((6151 : Int64) * x2.toInt64)) + ((101 : Int64) * x1.toInt64)) + (1 : Int64))) - ((((((7919 : Int64) * (M 34 6).toInt64) + ((6151 : Int64) * x2.toInt64)) + ((101 : Int64) * x1.toInt64)) + (1 : Int64)) * (((((7919 : Int64) * (M 34 6).toInt64) + ((6151 : Int64) * x2.toInt64)) + ((101 : Int64) * x1.toInt64)) + (1 : Int64))) / (65521 : Int64) * (65521 : Int64)) - (((((((7919 : Int64) * (M 34 6).toInt64) + ((6151 : Int64) * x2.toInt64)) + ((101 : Int64) * x1.toInt64)) + (1 : Int64)) * (((((7919 : Int64) * (M 34 6).toInt64) + ((6151 : Int64) * x2.toInt64)) + ((101 : Int64) * x1.toInt64)) + (1 : Int64))) - ((((((7919 : Int64) * (M 34 6).toInt64) + ((6151 : Int64) * x2.toInt64)) + ((101 : Int64) * x1.toInt64)) + (1 : Int64)) * (((((7919 : Int64) * (M 34 6).toInt64) + ((6151 : Int64) * x2.toInt64)) + ((101 : Int64) * x1.toInt64)) + (1 : Int64))) / (65521 : Int64) * (65521 : Int64)) / (7 : Int64) * (7 : Int64))).toInt32 - (3 : Int32)))) (M, (gj G2), TTc ++ T2)) :
    WW X Q 0 [(0, .ref 34), (1, .int x1), (2, .int x2)] [] (M, (gj G2), TTc ++ T2) := by
  refine ww_ldc2 C.1 kcRX0_46 dX0_drawn_0 ?_
  refine ww_aload_n C.1 dX0_drawn_3 0 rfl rfl ?_
  refine wt_getI C.1 dX0_drawn_4 flRX0_18 (tc34 T2) rfl ?_
  refine ww_i2l C.1 dX0_drawn_7 rfl ?_
  refine ww_lmul C.1 dX0_drawn_8 ?_
  refine ww_ldc2 C.1 kcRX0_48 dX0_drawn_9 ?_
  refine ww_iload_n C.1 dX0_drawn_12 2 rfl rfl ?_
  refine ww_i2l C.1 dX0_drawn_13 rfl ?_
  refine ww_lmul C.1 dX0_drawn_14 ?_
  refine ww_ladd C.1 dX0_drawn_15 ?_
  refine ww_ldc2 C.1 kcRX0_50 dX0_drawn_16 ?_
  refine ww_iload_n C.1 dX0_drawn_19 1 rfl rfl ?_
  refine ww_i2l C.1 dX0_drawn_20 rfl ?_
  refine ww_lmul C.1 dX0_drawn_21 ?_
  refine ww_ladd C.1 dX0_drawn_22 ?_
  refine ww_lconst C.1 (v := 1) dX0_drawn_23 (by decide) ?_
  refine ww_ladd C.1 dX0_drawn_24 ?_
  refine ww_lstore_n C.1 dX0_drawn_25 rfl (by decide) [1, 2, 3, 0] (L' := [(0, .ref 34), (1, .int x1), (2, .int x2), (3, .long (((((7919 : Int64) * (M 34 6).toInt64) + ((6151 : Int64) * x2.toInt64)) + ((101 : Int64) * x1.toInt64)) + (1 : Int64)))]) rfl ?_
  refine ww_lload_n C.1 dX0_drawn_26 3 rfl rfl ?_
  refine ww_lload_n C.1 dX0_drawn_27 3 rfl rfl ?_
  refine ww_lmul C.1 dX0_drawn_28 ?_
  refine ww_ldc2 C.1 kcRX0_52 dX0_drawn_29 ?_
  refine ww_lrem C.1 dX0_drawn_32 (by decide) ?_
  refine ww_ldc2 C.1 kcRX0_54 dX0_drawn_33 ?_
  refine ww_lrem C.1 dX0_drawn_36 (by decide) ?_
  refine ww_l2i C.1 dX0_drawn_37 rfl ?_
  refine ww_iconst C.1 (v := (3 : Int32)) dX0_drawn_38 (by decide) ?_
  refine ww_isub C.1 dX0_drawn_39 ?_
  refine ww_iret C.1 dX0_drawn_40 rfl ?_
  exact h
set_option maxHeartbeats 4000000 in
set_option maxRecDepth 20000 in
theorem bX1_push_0 {X : CX} {Q : State → Prop} {M : Mem} {G2 : Grf} {T2 : List (Nat × Nat)} {x1 x2 x3 : Int32} (C : Ok0 X mX1_push (TTc ++ T2))
    (h : (((M 10 3) < (8 : Int32) → (vp_in (M 10 3) 8 ∧ (vp_in (M 10 3) 8 ∧ (vp_in (M 10 3) 8 ∧ RetOK X Q (none) ((wr (wr (wr (wr M 11 (M 10 3).toNatClampNeg x1) 12 (M 10 3).toNatClampNeg x2) 13 (M 10 3).toNatClampNeg x3) 10 3 ((M 10 3) + (1 : Int32))), (gj G2), TTc ++ T2))))) ∧ (¬ (M 10 3) < (8 : Int32) → WpV mX1_dropOldest [.ref 10] M (gj G2) (TTc ++ T2) (fun M' => WW X Q 13 [(0, .ref 10), (1, .int x1), (2, .int x2), (3, .int x3)] [] (M', (gj G2), TTc ++ T2))))) :
    WW X Q 0 [(0, .ref 10), (1, .int x1), (2, .int x2), (3, .int x3)] [] (M, (gj G2), TTc ++ T2) := by
  refine ww_aload_n C.1 dX1_push_0 0 rfl rfl ?_
  refine wt_getI C.1 dX1_push_1 flRX1_21 (tc10 T2) rfl ?_
  refine ww_bipush C.1 (v := (8 : Int32)) dX1_push_4 (by decide) ?_
  refine ww_icmp_lt (x := (M 10 3)) (y := (8 : Int32)) C.1 (tgt := 13) dX1_push_6 (by decide) (fun hh => ?_) (fun hh => ?_)
  · replace h := h.1 hh
    refine ww_aload_n C.1 dX1_push_13 0 rfl rfl ?_
    refine wt_getR C.1 dX1_push_14 flRX1_9 (tc10 T2) rfl (gg10_0 G2) ?_
    refine ww_aload_n C.1 dX1_push_17 0 rfl rfl ?_
    refine wt_getI C.1 dX1_push_18 flRX1_21 (tc10 T2) rfl ?_
    refine ww_iload_n C.1 dX1_push_21 1 rfl rfl ?_
    refine wt_iast C.1 dX1_push_22 (tc11 T2) h.1 ?_
    replace h := h.2
    refine ww_aload_n C.1 dX1_push_23 0 rfl rfl ?_
    refine wt_getR C.1 dX1_push_24 flRX1_15 (tc10 T2) rfl (gg10_1 G2) ?_
    refine ww_aload_n C.1 dX1_push_27 0 rfl rfl ?_
    refine wt_getI C.1 dX1_push_28 flRX1_21 (tc10 T2) rfl ?_
    refine ww_iload_n C.1 dX1_push_31 2 rfl rfl ?_
    refine wt_iast C.1 dX1_push_32 (tc12 T2) h.1 ?_
    replace h := h.2
    refine ww_aload_n C.1 dX1_push_33 0 rfl rfl ?_
    refine wt_getR C.1 dX1_push_34 flRX1_18 (tc10 T2) rfl (gg10_2 G2) ?_
    refine ww_aload_n C.1 dX1_push_37 0 rfl rfl ?_
    refine wt_getI C.1 dX1_push_38 flRX1_21 (tc10 T2) rfl ?_
    refine ww_iload_n C.1 dX1_push_41 3 rfl rfl ?_
    refine wt_iast C.1 dX1_push_42 (tc13 T2) h.1 ?_
    replace h := h.2
    refine ww_aload_n C.1 dX1_push_43 0 rfl rfl ?_
    refine ww_dup C.1 dX1_push_44 rfl ?_
    refine wt_getI C.1 dX1_push_45 flRX1_21 (tc10 T2) rfl ?_
    refine ww_iconst C.1 (v := (1 : Int32)) dX1_push_48 (by decide) ?_
    refine ww_iadd C.1 dX1_push_49 ?_
    refine wt_putI C.1 dX1_push_50 flRX1_21 (tc10 T2) rfl ?_
    refine ww_vret C.1 dX1_push_53 rfl ?_
    exact h
  · replace h := h.2 hh
    refine ww_aload_n C.1 dX1_push_9 0 rfl rfl ?_
    refine ww_vV C fX1_dropOldest (And.intro (by decide) (by decide)) mlRX1_25 dX1_push_10 (tc10 T2) (by decide) rfl (As := []) (rest := []) rfl rfl rfl (Nat.le_of_ble_eq_true rfl) ?_
    exact h
set_option maxHeartbeats 4000000 in
set_option maxRecDepth 20000 in
theorem bX1_push_13 {X : CX} {Q : State → Prop} {M : Mem} {G2 : Grf} {T2 : List (Nat × Nat)} {x1 x2 x3 : Int32} (C : Ok0 X mX1_push (TTc ++ T2))
    (h : (vp_in (M 10 3) 8 ∧ (vp_in (M 10 3) 8 ∧ (vp_in (M 10 3) 8 ∧ RetOK X Q (none) ((wr (wr (wr (wr M 11 (M 10 3).toNatClampNeg x1) 12 (M 10 3).toNatClampNeg x2) 13 (M 10 3).toNatClampNeg x3) 10 3 ((M 10 3) + (1 : Int32))), (gj G2), TTc ++ T2))))) :
    WW X Q 13 [(0, .ref 10), (1, .int x1), (2, .int x2), (3, .int x3)] [] (M, (gj G2), TTc ++ T2) := by
  refine ww_aload_n C.1 dX1_push_13 0 rfl rfl ?_
  refine wt_getR C.1 dX1_push_14 flRX1_9 (tc10 T2) rfl (gg10_0 G2) ?_
  refine ww_aload_n C.1 dX1_push_17 0 rfl rfl ?_
  refine wt_getI C.1 dX1_push_18 flRX1_21 (tc10 T2) rfl ?_
  refine ww_iload_n C.1 dX1_push_21 1 rfl rfl ?_
  refine wt_iast C.1 dX1_push_22 (tc11 T2) h.1 ?_
  replace h := h.2
  refine ww_aload_n C.1 dX1_push_23 0 rfl rfl ?_
  refine wt_getR C.1 dX1_push_24 flRX1_15 (tc10 T2) rfl (gg10_1 G2) ?_
  refine ww_aload_n C.1 dX1_push_27 0 rfl rfl ?_
  refine wt_getI C.1 dX1_push_28 flRX1_21 (tc10 T2) rfl ?_
  refine ww_iload_n C.1 dX1_push_31 2 rfl rfl ?_
  refine wt_iast C.1 dX1_push_32 (tc12 T2) h.1 ?_
  replace h := h.2
  refine ww_aload_n C.1 dX1_push_33 0 rfl rfl ?_
  refine wt_getR C.1 dX1_push_34 flRX1_18 (tc10 T2) rfl (gg10_2 G2) ?_
  refine ww_aload_n C.1 dX1_push_37 0 rfl rfl ?_
  refine wt_getI C.1 dX1_push_38 flRX1_21 (tc10 T2) rfl ?_
  refine ww_iload_n C.1 dX1_push_41 3 rfl rfl ?_
  refine wt_iast C.1 dX1_push_42 (tc13 T2) h.1 ?_
  replace h := h.2
  refine ww_aload_n C.1 dX1_push_43 0 rfl rfl ?_
  refine ww_dup C.1 dX1_push_44 rfl ?_
  refine wt_getI C.1 dX1_push_45 flRX1_21 (tc10 T2) rfl ?_
  refine ww_iconst C.1 (v := (1 : Int32)) dX1_push_48 (by decide) ?_
  refine ww_iadd C.1 dX1_push_49 ?_
  refine wt_putI C.1 dX1_push_50 flRX1_21 (tc10 T2) rfl ?_
  refine ww_vret C.1 dX1_push_53 rfl ?_
  exact h
set_option maxHeartbeats 4000000 in
set_option maxRecDepth 20000 in
theorem bX1_dropOldest_0 {X : CX} {Q : State → Prop} {M : Mem} {G2 : Grf} {T2 : List (Nat × Nat)} (C : Ok0 X mX1_dropOldest (TTc ++ T2))
    (h : WW X Q 2 [(0, .ref 10), (1, .int (1 : Int32))] [] (M, (gj G2), TTc ++ T2)) :
    WW X Q 0 [(0, .ref 10)] [] (M, (gj G2), TTc ++ T2) := by
  refine ww_iconst C.1 (v := (1 : Int32)) dX1_dropOldest_0 (by decide) ?_
  refine ww_istore_n C.1 dX1_dropOldest_1 rfl (by decide) [1, 0] (L' := [(0, .ref 10), (1, .int (1 : Int32))]) rfl ?_
  exact h
set_option maxHeartbeats 4000000 in
set_option maxRecDepth 20000 in
theorem bX1_dropOldest_2 {X : CX} {Q : State → Prop} {M : Mem} {G2 : Grf} {T2 : List (Nat × Nat)} {x1 : Int32} (C : Ok0 X mX1_dropOldest (TTc ++ T2))
    (h : (((8 : Int32) ≤ x1 → RetOK X Q (none) ((wr M 10 3 (7 : Int32)), (gj G2), TTc ++ T2)) ∧ (¬ (8 : Int32) ≤ x1 → (vp_in x1 8 ∧ (vp_in (x1 - (1 : Int32)) 8 ∧ (vp_in x1 8 ∧ (vp_in (x1 - (1 : Int32)) 8 ∧ (vp_in x1 8 ∧ (vp_in (x1 - (1 : Int32)) 8 ∧ WW X Q 2 [(0, .ref 10), (1, .int (x1 + (1 : Int32)))] [] ((wr (wr (wr M 11 (x1 - (1 : Int32)).toNatClampNeg (M 11 x1.toNatClampNeg)) 12 (x1 - (1 : Int32)).toNatClampNeg (M 12 x1.toNatClampNeg)) 13 (x1 - (1 : Int32)).toNatClampNeg (M 13 x1.toNatClampNeg)), (gj G2), TTc ++ T2)))))))))) :
    WW X Q 2 [(0, .ref 10), (1, .int x1)] [] (M, (gj G2), TTc ++ T2) := by
  refine ww_iload_n C.1 dX1_dropOldest_2 1 rfl rfl ?_
  refine ww_bipush C.1 (v := (8 : Int32)) dX1_dropOldest_3 (by decide) ?_
  refine ww_icmp_ge (x := x1) (y := (8 : Int32)) C.1 (tgt := 56) dX1_dropOldest_5 (by decide) (fun hh => ?_) (fun hh => ?_)
  · replace h := h.1 hh
    refine ww_aload_n C.1 dX1_dropOldest_56 0 rfl rfl ?_
    refine ww_bipush C.1 (v := (7 : Int32)) dX1_dropOldest_57 (by decide) ?_
    refine wt_putI C.1 dX1_dropOldest_59 flRX1_21 (tc10 T2) rfl ?_
    refine ww_vret C.1 dX1_dropOldest_62 rfl ?_
    exact h
  · replace h := h.2 hh
    refine ww_aload_n C.1 dX1_dropOldest_8 0 rfl rfl ?_
    refine wt_getR C.1 dX1_dropOldest_9 flRX1_9 (tc10 T2) rfl (gg10_0 G2) ?_
    refine ww_iload_n C.1 dX1_dropOldest_12 1 rfl rfl ?_
    refine ww_iconst C.1 (v := (1 : Int32)) dX1_dropOldest_13 (by decide) ?_
    refine ww_isub C.1 dX1_dropOldest_14 ?_
    refine ww_aload_n C.1 dX1_dropOldest_15 0 rfl rfl ?_
    refine wt_getR C.1 dX1_dropOldest_16 flRX1_9 (tc10 T2) rfl (gg10_0 G2) ?_
    refine ww_iload_n C.1 dX1_dropOldest_19 1 rfl rfl ?_
    refine wt_iald C.1 dX1_dropOldest_20 (tc11 T2) h.1 ?_
    replace h := h.2
    refine wt_iast C.1 dX1_dropOldest_21 (tc11 T2) h.1 ?_
    replace h := h.2
    refine ww_aload_n C.1 dX1_dropOldest_22 0 rfl rfl ?_
    refine wt_getR C.1 dX1_dropOldest_23 flRX1_15 (tc10 T2) rfl (gg10_1 G2) ?_
    refine ww_iload_n C.1 dX1_dropOldest_26 1 rfl rfl ?_
    refine ww_iconst C.1 (v := (1 : Int32)) dX1_dropOldest_27 (by decide) ?_
    refine ww_isub C.1 dX1_dropOldest_28 ?_
    refine ww_aload_n C.1 dX1_dropOldest_29 0 rfl rfl ?_
    refine wt_getR C.1 dX1_dropOldest_30 flRX1_15 (tc10 T2) rfl (gg10_1 G2) ?_
    refine ww_iload_n C.1 dX1_dropOldest_33 1 rfl rfl ?_
    refine wt_iald C.1 dX1_dropOldest_34 (tc12 T2) h.1 ?_
    replace h := h.2
    refine wt_iast C.1 dX1_dropOldest_35 (tc12 T2) h.1 ?_
    replace h := h.2
    refine ww_aload_n C.1 dX1_dropOldest_36 0 rfl rfl ?_
    refine wt_getR C.1 dX1_dropOldest_37 flRX1_18 (tc10 T2) rfl (gg10_2 G2) ?_
    refine ww_iload_n C.1 dX1_dropOldest_40 1 rfl rfl ?_
    refine ww_iconst C.1 (v := (1 : Int32)) dX1_dropOldest_41 (by decide) ?_
    refine ww_isub C.1 dX1_dropOldest_42 ?_
    refine ww_aload_n C.1 dX1_dropOldest_43 0 rfl rfl ?_
    refine wt_getR C.1 dX1_dropOldest_44 flRX1_18 (tc10 T2) rfl (gg10_2 G2) ?_
    refine ww_iload_n C.1 dX1_dropOldest_47 1 rfl rfl ?_
    refine wt_iald C.1 dX1_dropOldest_48 (tc13 T2) h.1 ?_
    replace h := h.2
    refine wt_iast C.1 dX1_dropOldest_49 (tc13 T2) h.1 ?_
    replace h := h.2
    refine ww_iinc C.1 (v := (x1 + (1 : Int32))) dX1_dropOldest_50 1 rfl (by rfl) (by decide) [1, 0] (L' := [(0, .ref 10), (1, .int (x1 + (1 : Int32)))]) rfl ?_
    refine ww_goto C.1 (tgt := 2) dX1_dropOldest_53 (by decide) ?_
    exact h
set_option maxHeartbeats 4000000 in
set_option maxRecDepth 20000 in
theorem bX1_takeBack_0 {X : CX} {Q : State → Prop} {M : Mem} {G2 : Grf} {T2 : List (Nat × Nat)} (C : Ok0 X mX1_takeBack (TTc ++ T2))
    (h : (((0 : Int32) < (M 10 3) → (vp_in ((M 10 3) - (1 : Int32)) 8 ∧ (((M 12 ((M 10 3) - (1 : Int32)).toNatClampNeg) < (0 : Int32) → RetOK X Q (none) ((wr M 10 3 ((M 10 3) - (1 : Int32))), (gj G2), TTc ++ T2)) ∧ (¬ (M 12 ((M 10 3) - (1 : Int32)).toNatClampNeg) < (0 : Int32) → (((M 37 6) ≤ (M 12 ((M 10 3) - (1 : Int32)).toNatClampNeg) → RetOK X Q (none) ((wr M 10 3 ((M 10 3) - (1 : Int32))), (gj G2), TTc ++ T2)) ∧ (¬ (M 37 6) ≤ (M 12 ((M 10 3) - (1 : Int32)).toNatClampNeg) → (vp_in ((M 10 3) - (1 : Int32)) 8 ∧ (((M 11 ((M 10 3) - (1 : Int32)).toNatClampNeg) = (0 : Int32) → WpI mX5_placeOf [.ref 37, .int (M 12 ((M 10 3) - (1 : Int32)).toNatClampNeg)] (wr M 10 3 ((M 10 3) - (1 : Int32))) (gj G2) (TTc ++ T2) (fun r M' => WW X Q 78 [(0, .ref 10), (1, .ref 37), (2, .int (M 12 ((M 10 3) - (1 : Int32)).toNatClampNeg))] [.int r, .ref 37] (M', (gj G2), TTc ++ T2))) ∧ (¬ (M 11 ((M 10 3) - (1 : Int32)).toNatClampNeg) = (0 : Int32) → (((M 11 ((M 10 3) - (1 : Int32)).toNatClampNeg) = (1 : Int32) → (vp_in ((M 10 3) - (1 : Int32)) 8 ∧ (vp_in (M 12 ((M 10 3) - (1 : Int32)).toNatClampNeg) 7 ∧ RetOK X Q (none) ((wr (wr M 10 3 ((M 10 3) - (1 : Int32))) 42 (M 12 ((M 10 3) - (1 : Int32)).toNatClampNeg).toNatClampNeg (M 13 ((M 10 3) - (1 : Int32)).toNatClampNeg)), (gj G2), TTc ++ T2)))) ∧ (¬ (M 11 ((M 10 3) - (1 : Int32)).toNatClampNeg) = (1 : Int32) → (vp_in ((M 10 3) - (1 : Int32)) 8 ∧ (vp_in (M 12 ((M 10 3) - (1 : Int32)).toNatClampNeg) 7 ∧ RetOK X Q (none) ((wr (wr M 10 3 ((M 10 3) - (1 : Int32))) 39 (M 12 ((M 10 3) - (1 : Int32)).toNatClampNeg).toNatClampNeg (M 13 ((M 10 3) - (1 : Int32)).toNatClampNeg)), (gj G2), TTc ++ T2)))))))))))))) ∧ (¬ (0 : Int32) < (M 10 3) → RetOK X Q (none) (M, (gj G2), TTc ++ T2)))) :
    WW X Q 0 [(0, .ref 10), (1, .ref 37)] [] (M, (gj G2), TTc ++ T2) := by
  refine ww_aload_n C.1 dX1_takeBack_0 0 rfl rfl ?_
  refine wt_getI C.1 dX1_takeBack_1 flRX1_21 (tc10 T2) rfl ?_
  refine ww_if_gt (x := (M 10 3)) C.1 (tgt := 8) dX1_takeBack_4 (by decide) (fun hh => ?_) (fun hh => ?_)
  · replace h := h.1 hh
    refine ww_aload_n C.1 dX1_takeBack_8 0 rfl rfl ?_
    refine ww_dup C.1 dX1_takeBack_9 rfl ?_
    refine wt_getI C.1 dX1_takeBack_10 flRX1_21 (tc10 T2) rfl ?_
    refine ww_iconst C.1 (v := (1 : Int32)) dX1_takeBack_13 (by decide) ?_
    refine ww_isub C.1 dX1_takeBack_14 ?_
    refine wt_putI C.1 dX1_takeBack_15 flRX1_21 (tc10 T2) rfl ?_
    refine ww_aload_n C.1 dX1_takeBack_18 0 rfl rfl ?_
    refine wt_getR C.1 dX1_takeBack_19 flRX1_15 (tc10 T2) rfl (gg10_1 G2) ?_
    refine ww_aload_n C.1 dX1_takeBack_22 0 rfl rfl ?_
    refine wt_getI C.1 dX1_takeBack_23 flRX1_21 (tc10 T2) rfl ?_
    refine wt_iald C.1 dX1_takeBack_26 (tc12 T2) h.1 ?_
    replace h := h.2
    refine ww_istore_n C.1 dX1_takeBack_27 rfl (by decide) [1, 2, 0] (L' := [(0, .ref 10), (1, .ref 37), (2, .int (M 12 ((M 10 3) - (1 : Int32)).toNatClampNeg))]) rfl ?_
    refine ww_aload_n C.1 dX1_takeBack_28 1 rfl rfl ?_
    refine ww_iload_n C.1 dX1_takeBack_29 2 rfl rfl ?_
    refine ww_vI C fX5_has (And.intro (by decide) (by decide)) mlRX1_28 dX1_takeBack_30 (tc37 T2) (by decide) rfl (As := [.int (M 12 ((M 10 3) - (1 : Int32)).toNatClampNeg)]) (rest := []) rfl rfl rfl (Nat.le_of_ble_eq_true rfl) (WpI.of (L0 := [(0, .ref 37), (1, .int (M 12 ((M 10 3) - (1 : Int32)).toNatClampNeg))]) rfl rfl (Nat.le_of_ble_eq_true rfl) fun X1 Q1 C1 k1 => ?_)
    refine ww_iload_n C1.1 dX5_has_0 1 rfl rfl ?_
    refine ww_if_lt (x := (M 12 ((M 10 3) - (1 : Int32)).toNatClampNeg)) C1.1 (tgt := 16) dX5_has_1 (by decide) (fun hh => ?_) (fun hh => ?_)
    · replace h := h.1 hh
      refine ww_iconst C1.1 (v := (0 : Int32)) dX5_has_16 (by decide) ?_
      refine ww_zret C1.1 dX5_has_17 rfl (Or.inl rfl) ?_
      refine k1 _ _ ?_
      refine ww_if_ne (x := (0 : Int32)) C.1 (tgt := 37) dX1_takeBack_33 (by decide) (fun hh => absurd hh (by decide)) (fun _ => ?_)
      refine ww_vret C.1 dX1_takeBack_36 rfl ?_
      exact h
    · replace h := h.2 hh
      refine ww_iload_n C1.1 dX5_has_4 1 rfl rfl ?_
      refine ww_aload_n C1.1 dX5_has_5 0 rfl rfl ?_
      refine wt_getI C1.1 dX5_has_6 flRX5_30 (tc37 T2) rfl ?_
      refine ww_icmp_ge (x := (M 12 ((M 10 3) - (1 : Int32)).toNatClampNeg)) (y := (M 37 6)) C1.1 (tgt := 16) dX5_has_9 (by decide) (fun hh => ?_) (fun hh => ?_)
      · replace h := h.1 hh
        refine ww_iconst C1.1 (v := (0 : Int32)) dX5_has_16 (by decide) ?_
        refine ww_zret C1.1 dX5_has_17 rfl (Or.inl rfl) ?_
        refine k1 _ _ ?_
        refine ww_if_ne (x := (0 : Int32)) C.1 (tgt := 37) dX1_takeBack_33 (by decide) (fun hh => absurd hh (by decide)) (fun _ => ?_)
        refine ww_vret C.1 dX1_takeBack_36 rfl ?_
        exact h
      · replace h := h.2 hh
        refine ww_iconst C1.1 (v := (1 : Int32)) dX5_has_12 (by decide) ?_
        refine ww_goto C1.1 (tgt := 17) dX5_has_13 (by decide) ?_
        refine ww_zret C1.1 dX5_has_17 rfl (Or.inr rfl) ?_
        refine k1 _ _ ?_
        refine ww_if_ne (x := (1 : Int32)) C.1 (tgt := 37) dX1_takeBack_33 (by decide) (fun _ => ?_) (fun hh => absurd hh (by decide))
        refine ww_aload_n C.1 dX1_takeBack_37 0 rfl rfl ?_
        refine wt_getR C.1 dX1_takeBack_38 flRX1_9 (tc10 T2) rfl (gg10_0 G2) ?_
        refine ww_aload_n C.1 dX1_takeBack_41 0 rfl rfl ?_
        refine wt_getI C.1 dX1_takeBack_42 flRX1_21 (tc10 T2) rfl ?_
        refine wt_iald C.1 dX1_takeBack_45 (tc11 T2) h.1 ?_
        replace h := h.2
        by_cases hc0 : (M 11 ((M 10 3) - (1 : Int32)).toNatClampNeg) = (0 : Int32)
        · replace h := h.1 hc0
          refine ww_lookup (x := (M 11 ((M 10 3) - (1 : Int32)).toNatClampNeg)) C.1 (tgt := 72) (off := 26) dX1_takeBack_46 (by decide) (by rw [hc0]; rfl) (by decide) ?_
          refine ww_aload_n C.1 dX1_takeBack_72 1 rfl rfl ?_
          refine ww_aload_n C.1 dX1_takeBack_73 1 rfl rfl ?_
          refine ww_iload_n C.1 dX1_takeBack_74 2 rfl rfl ?_
          refine ww_vI C fX5_placeOf (And.intro (by decide) (by decide)) mlRX1_34 dX1_takeBack_75 (tc37 T2) (by decide) rfl (As := [.int (M 12 ((M 10 3) - (1 : Int32)).toNatClampNeg)]) (rest := [.ref 37]) rfl rfl rfl (Nat.le_of_ble_eq_true rfl) ?_
          exact h
        · replace h := h.2 hc0
          by_cases hc1 : (M 11 ((M 10 3) - (1 : Int32)).toNatClampNeg) = (1 : Int32)
          · replace h := h.1 hc1
            refine ww_lookup (x := (M 11 ((M 10 3) - (1 : Int32)).toNatClampNeg)) C.1 (tgt := 93) (off := 47) dX1_takeBack_46 (by decide) (by rw [hc1]; rfl) (by decide) ?_
            refine ww_aload_n C.1 dX1_takeBack_93 1 rfl rfl ?_
            refine wt_getR C.1 dX1_takeBack_94 flRX1_42 (tc37 T2) rfl (gg37_4 G2) ?_
            refine ww_iload_n C.1 dX1_takeBack_97 2 rfl rfl ?_
            refine ww_aload_n C.1 dX1_takeBack_98 0 rfl rfl ?_
            refine wt_getR C.1 dX1_takeBack_99 flRX1_18 (tc10 T2) rfl (gg10_2 G2) ?_
            refine ww_aload_n C.1 dX1_takeBack_102 0 rfl rfl ?_
            refine wt_getI C.1 dX1_takeBack_103 flRX1_21 (tc10 T2) rfl ?_
            refine wt_iald C.1 dX1_takeBack_106 (tc13 T2) h.1 ?_
            replace h := h.2
            refine wt_iast C.1 dX1_takeBack_107 (tc42 T2) h.1 ?_
            replace h := h.2
            refine ww_goto C.1 (tgt := 126) dX1_takeBack_108 (by decide) ?_
            refine ww_vret C.1 dX1_takeBack_126 rfl ?_
            exact h
          · replace h := h.2 hc1
            refine ww_lookup (x := (M 11 ((M 10 3) - (1 : Int32)).toNatClampNeg)) C.1 (tgt := 111) (off := 65) dX1_takeBack_46 (by decide) (by refine (lv_osw hc0 (by decide)).trans ?_; refine (lv_osw hc1 (by decide)).trans ?_; rfl) (by decide) ?_
            refine ww_aload_n C.1 dX1_takeBack_111 1 rfl rfl ?_
            refine wt_getR C.1 dX1_takeBack_112 flRX1_45 (tc37 T2) rfl (gg37_1 G2) ?_
            refine ww_iload_n C.1 dX1_takeBack_115 2 rfl rfl ?_
            refine ww_aload_n C.1 dX1_takeBack_116 0 rfl rfl ?_
            refine wt_getR C.1 dX1_takeBack_117 flRX1_18 (tc10 T2) rfl (gg10_2 G2) ?_
            refine ww_aload_n C.1 dX1_takeBack_120 0 rfl rfl ?_
            refine wt_getI C.1 dX1_takeBack_121 flRX1_21 (tc10 T2) rfl ?_
            refine wt_iald C.1 dX1_takeBack_124 (tc13 T2) h.1 ?_
            replace h := h.2
            refine wt_iast C.1 dX1_takeBack_125 (tc39 T2) h.1 ?_
            replace h := h.2
            refine ww_vret C.1 dX1_takeBack_126 rfl ?_
            exact h
  · replace h := h.2 hh
    refine ww_vret C.1 dX1_takeBack_7 rfl ?_
    exact h
set_option maxHeartbeats 4000000 in
set_option maxRecDepth 20000 in
theorem bX1_takeBack_78 {X : CX} {Q : State → Prop} {M : Mem} {G2 : Grf} {T2 : List (Nat × Nat)} {x2 s1 : Int32} (C : Ok0 X mX1_takeBack (TTc ++ T2))
    (h : (vp_in (M 10 3) 8 ∧ WpV mX5_shift [.ref 37, .int s1, .int (M 13 (M 10 3).toNatClampNeg)] M (gj G2) (TTc ++ T2) (fun M' => WW X Q 90 [(0, .ref 10), (1, .ref 37), (2, .int x2)] [] (M', (gj G2), TTc ++ T2)))) :
    WW X Q 78 [(0, .ref 10), (1, .ref 37), (2, .int x2)] [.int s1, .ref 37] (M, (gj G2), TTc ++ T2) := by
  refine ww_aload_n C.1 dX1_takeBack_78 0 rfl rfl ?_
  refine wt_getR C.1 dX1_takeBack_79 flRX1_18 (tc10 T2) rfl (gg10_2 G2) ?_
  refine ww_aload_n C.1 dX1_takeBack_82 0 rfl rfl ?_
  refine wt_getI C.1 dX1_takeBack_83 flRX1_21 (tc10 T2) rfl ?_
  refine wt_iald C.1 dX1_takeBack_86 (tc13 T2) h.1 ?_
  replace h := h.2
  refine ww_vV C fX5_shift (And.intro (by decide) (by decide)) mlRX1_38 dX1_takeBack_87 (tc37 T2) (by decide) rfl (As := [.int s1, .int (M 13 (M 10 3).toNatClampNeg)]) (rest := []) rfl rfl rfl (Nat.le_of_ble_eq_true rfl) ?_
  exact h
set_option maxHeartbeats 4000000 in
set_option maxRecDepth 20000 in
theorem bX1_takeBack_90 {X : CX} {Q : State → Prop} {M : Mem} {G2 : Grf} {T2 : List (Nat × Nat)} {x2 : Int32} (C : Ok0 X mX1_takeBack (TTc ++ T2))
    (h : RetOK X Q (none) (M, (gj G2), TTc ++ T2)) :
    WW X Q 90 [(0, .ref 10), (1, .ref 37), (2, .int x2)] [] (M, (gj G2), TTc ++ T2) := by
  refine ww_goto C.1 (tgt := 126) dX1_takeBack_90 (by decide) ?_
  refine ww_vret C.1 dX1_takeBack_126 rfl ?_
  exact h
set_option maxHeartbeats 4000000 in
set_option maxRecDepth 20000 in
theorem bX2_clear_0 {X : CX} {Q : State → Prop} {M : Mem} {G2 : Grf} {T2 : List (Nat × Nat)} (C : Ok0 X mX2_clear (TTc ++ T2))
    (h : WpV mX0_clear [.ref 46] M (gj G2) (TTc ++ T2) (fun M' => WW X Q 7 [(0, .ref 45)] [] (M', (gj G2), TTc ++ T2))) :
    WW X Q 0 [(0, .ref 45)] [] (M, (gj G2), TTc ++ T2) := by
  refine ww_aload_n C.1 dX2_clear_0 0 rfl rfl ?_
  refine wt_getR C.1 dX2_clear_1 flRX2_12 (tc45 T2) rfl (gg45_0 G2) ?_
  refine ww_vV C fX0_clear (And.intro (by decide) (by decide)) mlRX2_29 dX2_clear_4 (tc46 T2) (by decide) rfl (As := []) (rest := []) rfl rfl rfl (Nat.le_of_ble_eq_true rfl) ?_
  exact h
set_option maxHeartbeats 4000000 in
set_option maxRecDepth 20000 in
theorem bX2_clear_7 {X : CX} {Q : State → Prop} {M : Mem} {G2 : Grf} {T2 : List (Nat × Nat)} (C : Ok0 X mX2_clear (TTc ++ T2))
    (h : RetOK X Q (none) ((wr (wr (wr M 49 6 (0 : Int32)) 45 3 (0 : Int32)) 45 4 (1 : Int32)), (gj G2), TTc ++ T2)) :
    WW X Q 7 [(0, .ref 45)] [] (M, (gj G2), TTc ++ T2) := by
  refine ww_aload_n C.1 dX2_clear_7 0 rfl rfl ?_
  refine wt_getR C.1 dX2_clear_8 flRX2_21 (tc45 T2) rfl (gg45_1 G2) ?_
  refine ww_iconst C.1 (v := (0 : Int32)) dX2_clear_11 (by decide) ?_
  refine wt_putI C.1 dX2_clear_12 flRX2_32 (tc49 T2) rfl ?_
  refine ww_aload_n C.1 dX2_clear_15 0 rfl rfl ?_
  refine ww_iconst C.1 (v := (0 : Int32)) dX2_clear_16 (by decide) ?_
  refine wt_putI C.1 dX2_clear_17 flRX2_36 (tc45 T2) rfl ?_
  refine ww_aload_n C.1 dX2_clear_20 0 rfl rfl ?_
  refine ww_iconst C.1 (v := (1 : Int32)) dX2_clear_21 (by decide) ?_
  refine wt_putI C.1 dX2_clear_22 flRX2_39 (tc45 T2) rfl ?_
  refine ww_vret C.1 dX2_clear_25 rfl ?_
  exact h
set_option maxHeartbeats 4000000 in
set_option maxRecDepth 20000 in
theorem bX2_canOpen_0 {X : CX} {Q : State → Prop} {M : Mem} {G2 : Grf} {T2 : List (Nat × Nat)} (C : Ok0 X mX2_canOpen (TTc ++ T2))
    (h : (((M 46 2) ≤ (0 : Int32) → RetOK X Q (some (.int (0 : Int32))) (M, (gj G2), TTc ++ T2)) ∧ (¬ (M 46 2) ≤ (0 : Int32) → (((M 49 6) ≤ (0 : Int32) → RetOK X Q (some (.int (0 : Int32))) (M, (gj G2), TTc ++ T2)) ∧ (¬ (M 49 6) ≤ (0 : Int32) → RetOK X Q (some (.int (1 : Int32))) (M, (gj G2), TTc ++ T2)))))) :
    WW X Q 0 [(0, .ref 45)] [] (M, (gj G2), TTc ++ T2) := by
  refine ww_aload_n C.1 dX2_canOpen_0 0 rfl rfl ?_
  refine wt_getR C.1 dX2_canOpen_1 flRX2_12 (tc45 T2) rfl (gg45_0 G2) ?_
  refine wt_getI C.1 dX2_canOpen_4 flRX2_42 (tc46 T2) rfl ?_
  refine ww_if_le (x := (M 46 2)) C.1 (tgt := 24) dX2_canOpen_7 (by decide) (fun hh => ?_) (fun hh => ?_)
  · replace h := h.1 hh
    refine ww_iconst C.1 (v := (0 : Int32)) dX2_canOpen_24 (by decide) ?_
    refine ww_zret C.1 dX2_canOpen_25 rfl (Or.inl rfl) ?_
    exact h
  · replace h := h.2 hh
    refine ww_aload_n C.1 dX2_canOpen_10 0 rfl rfl ?_
    refine wt_getR C.1 dX2_canOpen_11 flRX2_21 (tc45 T2) rfl (gg45_1 G2) ?_
    refine wt_getI C.1 dX2_canOpen_14 flRX2_32 (tc49 T2) rfl ?_
    refine ww_if_le (x := (M 49 6)) C.1 (tgt := 24) dX2_canOpen_17 (by decide) (fun hh => ?_) (fun hh => ?_)
    · replace h := h.1 hh
      refine ww_iconst C.1 (v := (0 : Int32)) dX2_canOpen_24 (by decide) ?_
      refine ww_zret C.1 dX2_canOpen_25 rfl (Or.inl rfl) ?_
      exact h
    · replace h := h.2 hh
      refine ww_iconst C.1 (v := (1 : Int32)) dX2_canOpen_20 (by decide) ?_
      refine ww_goto C.1 (tgt := 25) dX2_canOpen_21 (by decide) ?_
      refine ww_zret C.1 dX2_canOpen_25 rfl (Or.inr rfl) ?_
      exact h
set_option maxHeartbeats 4000000 in
set_option maxRecDepth 20000 in
theorem bX2_tell_0 {X : CX} {Q : State → Prop} {M : Mem} {G2 : Grf} {T2 : List (Nat × Nat)} {x1 x2 x3 x4 x5 : Int32} (C : Ok0 X mX2_tell (TTc ++ T2))
    (h : ((x1 = (98 : Int32) → ((¬ x2 = (1 : Int32) → RetOK X Q (some (.int (0 : Int32))) (M, (gj G2), TTc ++ T2)) ∧ (x2 = (1 : Int32) → ((x3 < (40 : Int32) → RetOK X Q (some (.int (0 : Int32))) (M, (gj G2), TTc ++ T2)) ∧ (¬ x3 < (40 : Int32) → (((99 : Int32) < x3 → RetOK X Q (some (.int (0 : Int32))) (M, (gj G2), TTc ++ T2)) ∧ (¬ (99 : Int32) < x3 → WpI mX0_add [.ref 46, .int x3] M (gj G2) (TTc ++ T2) (fun r M' => WW X Q 104 [(0, .ref 45), (1, .int x1), (2, .int x2), (3, .int x3), (4, .int x4), (5, .int x5)] [.int r] (M', (gj G2), TTc ++ T2))))))))) ∧ (¬ x1 = (98 : Int32) → ((x1 = (102 : Int32) → ((¬ x2 = (2 : Int32) → RetOK X Q (some (.int (0 : Int32))) (M, (gj G2), TTc ++ T2)) ∧ (x2 = (2 : Int32) → ((x3 < (0 : Int32) → RetOK X Q (some (.int (0 : Int32))) (M, (gj G2), TTc ++ T2)) ∧ (¬ x3 < (0 : Int32) → (((29 : Int32) < x3 → RetOK X Q (some (.int (0 : Int32))) (M, (gj G2), TTc ++ T2)) ∧ (¬ (29 : Int32) < x3 → ((x4 < (0 : Int32) → RetOK X Q (some (.int (0 : Int32))) (M, (gj G2), TTc ++ T2)) ∧ (¬ x4 < (0 : Int32) → (((9 : Int32) < x4 → RetOK X Q (some (.int (0 : Int32))) (M, (gj G2), TTc ++ T2)) ∧ (¬ (9 : Int32) < x4 → WpI mX0_addFeast [.ref 46, .int x3, .int x4] M (gj G2) (TTc ++ T2) (fun r M' => WW X Q 146 [(0, .ref 45), (1, .int x1), (2, .int x2), (3, .int x3), (4, .int x4), (5, .int x5)] [.int r] (M', (gj G2), TTc ++ T2))))))))))))) ∧ (¬ x1 = (102 : Int32) → ((x1 = (103 : Int32) → ((¬ x2 = (3 : Int32) → RetOK X Q (some (.int (0 : Int32))) (M, (gj G2), TTc ++ T2)) ∧ (x2 = (3 : Int32) → ((x3 < (40 : Int32) → RetOK X Q (some (.int (0 : Int32))) (M, (gj G2), TTc ++ T2)) ∧ (¬ x3 < (40 : Int32) → (((99 : Int32) < x3 → RetOK X Q (some (.int (0 : Int32))) (M, (gj G2), TTc ++ T2)) ∧ (¬ (99 : Int32) < x3 → ((x4 < (0 : Int32) → RetOK X Q (some (.int (0 : Int32))) (M, (gj G2), TTc ++ T2)) ∧ (¬ x4 < (0 : Int32) → (((9 : Int32) < x4 → RetOK X Q (some (.int (0 : Int32))) (M, (gj G2), TTc ++ T2)) ∧ (¬ (9 : Int32) < x4 → ((x5 < (0 : Int32) → RetOK X Q (some (.int (0 : Int32))) (M, (gj G2), TTc ++ T2)) ∧ (¬ x5 < (0 : Int32) → (((4 : Int32) < x5 → RetOK X Q (some (.int (0 : Int32))) (M, (gj G2), TTc ++ T2)) ∧ (¬ (4 : Int32) < x5 → WpI mX5_add [.ref 49, .int x3, .int x4, .int x5] M (gj G2) (TTc ++ T2) (fun r M' => WW X Q 200 [(0, .ref 45), (1, .int x1), (2, .int x2), (3, .int x3), (4, .int x4), (5, .int x5)] [.int r] (M', (gj G2), TTc ++ T2))))))))))))))))) ∧ (¬ x1 = (103 : Int32) → ((x1 = (104 : Int32) → ((¬ x2 = (2 : Int32) → RetOK X Q (some (.int (0 : Int32))) (M, (gj G2), TTc ++ T2)) ∧ (x2 = (2 : Int32) → WpI mX5_befriend [.ref 49, .int x3, .int x4] M (gj G2) (TTc ++ T2) (fun r M' => WW X Q 224 [(0, .ref 45), (1, .int x1), (2, .int x2), (3, .int x3), (4, .int x4), (5, .int x5)] [.int r] (M', (gj G2), TTc ++ T2))))) ∧ (¬ x1 = (104 : Int32) → ((x1 = (107 : Int32) → ((¬ x2 = (1 : Int32) → RetOK X Q (some (.int (0 : Int32))) (M, (gj G2), TTc ++ T2)) ∧ (x2 = (1 : Int32) → ((x3 < (0 : Int32) → RetOK X Q (some (.int (0 : Int32))) (M, (gj G2), TTc ++ T2)) ∧ (¬ x3 < (0 : Int32) → (((2 : Int32) < x3 → RetOK X Q (some (.int (0 : Int32))) (M, (gj G2), TTc ++ T2)) ∧ (¬ (2 : Int32) < x3 → RetOK X Q (some (.int (1 : Int32))) ((wr M 45 4 x3), (gj G2), TTc ++ T2)))))))) ∧ (¬ x1 = (107 : Int32) → ((x1 = (114 : Int32) → ((¬ x2 = (1 : Int32) → RetOK X Q (some (.int (0 : Int32))) (M, (gj G2), TTc ++ T2)) ∧ (x2 = (1 : Int32) → ((x3 < (40 : Int32) → RetOK X Q (some (.int (0 : Int32))) (M, (gj G2), TTc ++ T2)) ∧ (¬ x3 < (40 : Int32) → (((99 : Int32) < x3 → RetOK X Q (some (.int (0 : Int32))) (M, (gj G2), TTc ++ T2)) ∧ (¬ (99 : Int32) < x3 → WpI mX2_addRival [.ref 45, .int x3] M (gj G2) (TTc ++ T2) (fun r M' => WW X Q 269 [(0, .ref 45), (1, .int x1), (2, .int x2), (3, .int x3), (4, .int x4), (5, .int x5)] [.int r] (M', (gj G2), TTc ++ T2))))))))) ∧ (¬ x1 = (114 : Int32) → RetOK X Q (some (.int (0 : Int32))) (M, (gj G2), TTc ++ T2)))))))))))))) :
    WW X Q 0 [(0, .ref 45), (1, .int x1), (2, .int x2), (3, .int x3), (4, .int x4), (5, .int x5)] [] (M, (gj G2), TTc ++ T2) := by
  refine ww_iload_n C.1 dX2_tell_0 1 rfl rfl ?_
  by_cases hc0 : x1 = (98 : Int32)
  · replace h := h.1 hc0
    refine ww_tableIn (x := x1) C.1 (tgt := 84) dX2_tell_1 (by rw [hc0]; decide) (by rw [hc0]; decide) (by rw [hc0]; rfl) (by decide) ?_
    refine ww_iload_n C.1 dX2_tell_84 2 rfl rfl ?_
    refine ww_iconst C.1 (v := (1 : Int32)) dX2_tell_85 (by decide) ?_
    refine ww_icmp_ne (x := x2) (y := (1 : Int32)) C.1 (tgt := 111) dX2_tell_86 (by decide) (fun hh => ?_) (fun hh => ?_)
    · replace h := h.1 hh
      refine ww_iconst C.1 (v := (0 : Int32)) dX2_tell_111 (by decide) ?_
      refine ww_zret C.1 dX2_tell_112 rfl (Or.inl rfl) ?_
      exact h
    · replace h := h.2 hh
      refine ww_iload_n C.1 dX2_tell_89 3 rfl rfl ?_
      refine ww_nI C fX9_isLength (And.intro (by decide) (by decide)) nlRX2_43 dX2_tell_90 (As := [.int x3]) (rest := []) rfl rfl rfl (Nat.le_of_ble_eq_true rfl) (WpI.of (L0 := [(0, .int x3)]) rfl rfl (Nat.le_of_ble_eq_true rfl) fun X1 Q1 C1 k1 => ?_)
      refine ww_iload_n C1.1 dX9_isLength_0 0 rfl rfl ?_
      refine ww_bipush C1.1 (v := (40 : Int32)) dX9_isLength_1 (by decide) ?_
      refine ww_bipush C1.1 (v := (99 : Int32)) dX9_isLength_3 (by decide) ?_
      refine ww_sI C1 fX9_isWithin (And.intro (by decide) (by decide)) mlRX9_89 dX9_isLength_5 (As := [.int x3, .int (40 : Int32), .int (99 : Int32)]) (rest := []) rfl rfl rfl (Nat.le_of_ble_eq_true rfl) (WpI.of (L0 := [(0, .int x3), (1, .int (40 : Int32)), (2, .int (99 : Int32))]) rfl rfl (Nat.le_of_ble_eq_true rfl) fun X2 Q2 C2 k2 => ?_)
      refine ww_iload_n C2.1 dX9_isWithin_0 0 rfl rfl ?_
      refine ww_iload_n C2.1 dX9_isWithin_1 1 rfl rfl ?_
      refine ww_icmp_lt (x := x3) (y := (40 : Int32)) C2.1 (tgt := 14) dX9_isWithin_2 (by decide) (fun hh => ?_) (fun hh => ?_)
      · replace h := h.1 hh
        refine ww_iconst C2.1 (v := (0 : Int32)) dX9_isWithin_14 (by decide) ?_
        refine ww_zret C2.1 dX9_isWithin_15 rfl (Or.inl rfl) ?_
        refine k2 _ _ ?_
        refine ww_zret C1.1 dX9_isLength_8 rfl (Or.inl rfl) ?_
        refine k1 _ _ ?_
        refine ww_if_eq (x := (0 : Int32)) C.1 (tgt := 111) dX2_tell_93 (by decide) (fun _ => ?_) (fun hh => absurd hh (by decide))
        refine ww_iconst C.1 (v := (0 : Int32)) dX2_tell_111 (by decide) ?_
        refine ww_zret C.1 dX2_tell_112 rfl (Or.inl rfl) ?_
        exact h
      · replace h := h.2 hh
        refine ww_iload_n C2.1 dX9_isWithin_5 0 rfl rfl ?_
        refine ww_iload_n C2.1 dX9_isWithin_6 2 rfl rfl ?_
        refine ww_icmp_gt (x := x3) (y := (99 : Int32)) C2.1 (tgt := 14) dX9_isWithin_7 (by decide) (fun hh => ?_) (fun hh => ?_)
        · replace h := h.1 hh
          refine ww_iconst C2.1 (v := (0 : Int32)) dX9_isWithin_14 (by decide) ?_
          refine ww_zret C2.1 dX9_isWithin_15 rfl (Or.inl rfl) ?_
          refine k2 _ _ ?_
          refine ww_zret C1.1 dX9_isLength_8 rfl (Or.inl rfl) ?_
          refine k1 _ _ ?_
          refine ww_if_eq (x := (0 : Int32)) C.1 (tgt := 111) dX2_tell_93 (by decide) (fun _ => ?_) (fun hh => absurd hh (by decide))
          refine ww_iconst C.1 (v := (0 : Int32)) dX2_tell_111 (by decide) ?_
          refine ww_zret C.1 dX2_tell_112 rfl (Or.inl rfl) ?_
          exact h
        · replace h := h.2 hh
          refine ww_iconst C2.1 (v := (1 : Int32)) dX9_isWithin_10 (by decide) ?_
          refine ww_goto C2.1 (tgt := 15) dX9_isWithin_11 (by decide) ?_
          refine ww_zret C2.1 dX9_isWithin_15 rfl (Or.inr rfl) ?_
          refine k2 _ _ ?_
          refine ww_zret C1.1 dX9_isLength_8 rfl (Or.inr rfl) ?_
          refine k1 _ _ ?_
          refine ww_if_eq (x := (1 : Int32)) C.1 (tgt := 111) dX2_tell_93 (by decide) (fun hh => absurd hh (by decide)) (fun _ => ?_)
          refine ww_aload_n C.1 dX2_tell_96 0 rfl rfl ?_
          refine wt_getR C.1 dX2_tell_97 flRX2_12 (tc45 T2) rfl (gg45_0 G2) ?_
          refine ww_iload_n C.1 dX2_tell_100 3 rfl rfl ?_
          refine ww_vI C fX0_add (And.intro (by decide) (by decide)) mlRX2_47 dX2_tell_101 (tc46 T2) (by decide) rfl (As := [.int x3]) (rest := []) rfl rfl rfl (Nat.le_of_ble_eq_true rfl) ?_
          exact h
  · replace h := h.2 hc0
    by_cases hc1 : x1 = (102 : Int32)
    · replace h := h.1 hc1
      refine ww_tableIn (x := x1) C.1 (tgt := 113) dX2_tell_1 (by rw [hc1]; decide) (by rw [hc1]; decide) (by rw [hc1]; rfl) (by decide) ?_
      refine ww_iload_n C.1 dX2_tell_113 2 rfl rfl ?_
      refine ww_iconst C.1 (v := (2 : Int32)) dX2_tell_114 (by decide) ?_
      refine ww_icmp_ne (x := x2) (y := (2 : Int32)) C.1 (tgt := 153) dX2_tell_115 (by decide) (fun hh => ?_) (fun hh => ?_)
      · replace h := h.1 hh
        refine ww_iconst C.1 (v := (0 : Int32)) dX2_tell_153 (by decide) ?_
        refine ww_zret C.1 dX2_tell_154 rfl (Or.inl rfl) ?_
        exact h
      · replace h := h.2 hh
        refine ww_iload_n C.1 dX2_tell_118 3 rfl rfl ?_
        refine ww_nI C fX9_isNight (And.intro (by decide) (by decide)) nlRX2_50 dX2_tell_119 (As := [.int x3]) (rest := []) rfl rfl rfl (Nat.le_of_ble_eq_true rfl) (WpI.of (L0 := [(0, .int x3)]) rfl rfl (Nat.le_of_ble_eq_true rfl) fun X3 Q3 C3 k3 => ?_)
        refine ww_iload_n C3.1 dX9_isNight_0 0 rfl rfl ?_
        refine ww_iconst C3.1 (v := (0 : Int32)) dX9_isNight_1 (by decide) ?_
        refine ww_bipush C3.1 (v := (29 : Int32)) dX9_isNight_2 (by decide) ?_
        refine ww_sI C3 fX9_isWithin (And.intro (by decide) (by decide)) mlRX9_89 dX9_isNight_4 (As := [.int x3, .int (0 : Int32), .int (29 : Int32)]) (rest := []) rfl rfl rfl (Nat.le_of_ble_eq_true rfl) (WpI.of (L0 := [(0, .int x3), (1, .int (0 : Int32)), (2, .int (29 : Int32))]) rfl rfl (Nat.le_of_ble_eq_true rfl) fun X4 Q4 C4 k4 => ?_)
        refine ww_iload_n C4.1 dX9_isWithin_0 0 rfl rfl ?_
        refine ww_iload_n C4.1 dX9_isWithin_1 1 rfl rfl ?_
        refine ww_icmp_lt (x := x3) (y := (0 : Int32)) C4.1 (tgt := 14) dX9_isWithin_2 (by decide) (fun hh => ?_) (fun hh => ?_)
        · replace h := h.1 hh
          refine ww_iconst C4.1 (v := (0 : Int32)) dX9_isWithin_14 (by decide) ?_
          refine ww_zret C4.1 dX9_isWithin_15 rfl (Or.inl rfl) ?_
          refine k4 _ _ ?_
          refine ww_zret C3.1 dX9_isNight_7 rfl (Or.inl rfl) ?_
          refine k3 _ _ ?_
          refine ww_if_eq (x := (0 : Int32)) C.1 (tgt := 153) dX2_tell_122 (by decide) (fun _ => ?_) (fun hh => absurd hh (by decide))
          refine ww_iconst C.1 (v := (0 : Int32)) dX2_tell_153 (by decide) ?_
          refine ww_zret C.1 dX2_tell_154 rfl (Or.inl rfl) ?_
          exact h
        · replace h := h.2 hh
          refine ww_iload_n C4.1 dX9_isWithin_5 0 rfl rfl ?_
          refine ww_iload_n C4.1 dX9_isWithin_6 2 rfl rfl ?_
          refine ww_icmp_gt (x := x3) (y := (29 : Int32)) C4.1 (tgt := 14) dX9_isWithin_7 (by decide) (fun hh => ?_) (fun hh => ?_)
          · replace h := h.1 hh
            refine ww_iconst C4.1 (v := (0 : Int32)) dX9_isWithin_14 (by decide) ?_
            refine ww_zret C4.1 dX9_isWithin_15 rfl (Or.inl rfl) ?_
            refine k4 _ _ ?_
            refine ww_zret C3.1 dX9_isNight_7 rfl (Or.inl rfl) ?_
            refine k3 _ _ ?_
            refine ww_if_eq (x := (0 : Int32)) C.1 (tgt := 153) dX2_tell_122 (by decide) (fun _ => ?_) (fun hh => absurd hh (by decide))
            refine ww_iconst C.1 (v := (0 : Int32)) dX2_tell_153 (by decide) ?_
            refine ww_zret C.1 dX2_tell_154 rfl (Or.inl rfl) ?_
            exact h
          · replace h := h.2 hh
            refine ww_iconst C4.1 (v := (1 : Int32)) dX9_isWithin_10 (by decide) ?_
            refine ww_goto C4.1 (tgt := 15) dX9_isWithin_11 (by decide) ?_
            refine ww_zret C4.1 dX9_isWithin_15 rfl (Or.inr rfl) ?_
            refine k4 _ _ ?_
            refine ww_zret C3.1 dX9_isNight_7 rfl (Or.inr rfl) ?_
            refine k3 _ _ ?_
            refine ww_if_eq (x := (1 : Int32)) C.1 (tgt := 153) dX2_tell_122 (by decide) (fun hh => absurd hh (by decide)) (fun _ => ?_)
            refine ww_iload C.1 dX2_tell_125 4 rfl ?_
            refine ww_iconst C.1 (v := (0 : Int32)) dX2_tell_127 (by decide) ?_
            refine ww_bipush C.1 (v := (9 : Int32)) dX2_tell_128 (by decide) ?_
            refine ww_nI C fX9_isWithin (And.intro (by decide) (by decide)) nlRX2_53 dX2_tell_130 (As := [.int x4, .int (0 : Int32), .int (9 : Int32)]) (rest := []) rfl rfl rfl (Nat.le_of_ble_eq_true rfl) (WpI.of (L0 := [(0, .int x4), (1, .int (0 : Int32)), (2, .int (9 : Int32))]) rfl rfl (Nat.le_of_ble_eq_true rfl) fun X5 Q5 C5 k5 => ?_)
            refine ww_iload_n C5.1 dX9_isWithin_0 0 rfl rfl ?_
            refine ww_iload_n C5.1 dX9_isWithin_1 1 rfl rfl ?_
            refine ww_icmp_lt (x := x4) (y := (0 : Int32)) C5.1 (tgt := 14) dX9_isWithin_2 (by decide) (fun hh => ?_) (fun hh => ?_)
            · replace h := h.1 hh
              refine ww_iconst C5.1 (v := (0 : Int32)) dX9_isWithin_14 (by decide) ?_
              refine ww_zret C5.1 dX9_isWithin_15 rfl (Or.inl rfl) ?_
              refine k5 _ _ ?_
              refine ww_if_eq (x := (0 : Int32)) C.1 (tgt := 153) dX2_tell_133 (by decide) (fun _ => ?_) (fun hh => absurd hh (by decide))
              refine ww_iconst C.1 (v := (0 : Int32)) dX2_tell_153 (by decide) ?_
              refine ww_zret C.1 dX2_tell_154 rfl (Or.inl rfl) ?_
              exact h
            · replace h := h.2 hh
              refine ww_iload_n C5.1 dX9_isWithin_5 0 rfl rfl ?_
              refine ww_iload_n C5.1 dX9_isWithin_6 2 rfl rfl ?_
              refine ww_icmp_gt (x := x4) (y := (9 : Int32)) C5.1 (tgt := 14) dX9_isWithin_7 (by decide) (fun hh => ?_) (fun hh => ?_)
              · replace h := h.1 hh
                refine ww_iconst C5.1 (v := (0 : Int32)) dX9_isWithin_14 (by decide) ?_
                refine ww_zret C5.1 dX9_isWithin_15 rfl (Or.inl rfl) ?_
                refine k5 _ _ ?_
                refine ww_if_eq (x := (0 : Int32)) C.1 (tgt := 153) dX2_tell_133 (by decide) (fun _ => ?_) (fun hh => absurd hh (by decide))
                refine ww_iconst C.1 (v := (0 : Int32)) dX2_tell_153 (by decide) ?_
                refine ww_zret C.1 dX2_tell_154 rfl (Or.inl rfl) ?_
                exact h
              · replace h := h.2 hh
                refine ww_iconst C5.1 (v := (1 : Int32)) dX9_isWithin_10 (by decide) ?_
                refine ww_goto C5.1 (tgt := 15) dX9_isWithin_11 (by decide) ?_
                refine ww_zret C5.1 dX9_isWithin_15 rfl (Or.inr rfl) ?_
                refine k5 _ _ ?_
                refine ww_if_eq (x := (1 : Int32)) C.1 (tgt := 153) dX2_tell_133 (by decide) (fun hh => absurd hh (by decide)) (fun _ => ?_)
                refine ww_aload_n C.1 dX2_tell_136 0 rfl rfl ?_
                refine wt_getR C.1 dX2_tell_137 flRX2_12 (tc45 T2) rfl (gg45_0 G2) ?_
                refine ww_iload_n C.1 dX2_tell_140 3 rfl rfl ?_
                refine ww_iload C.1 dX2_tell_141 4 rfl ?_
                refine ww_vI C fX0_addFeast (And.intro (by decide) (by decide)) mlRX2_57 dX2_tell_143 (tc46 T2) (by decide) rfl (As := [.int x3, .int x4]) (rest := []) rfl rfl rfl (Nat.le_of_ble_eq_true rfl) ?_
                exact h
    · replace h := h.2 hc1
      by_cases hc2 : x1 = (103 : Int32)
      · replace h := h.1 hc2
        refine ww_tableIn (x := x1) C.1 (tgt := 155) dX2_tell_1 (by rw [hc2]; decide) (by rw [hc2]; decide) (by rw [hc2]; rfl) (by decide) ?_
        refine ww_iload_n C.1 dX2_tell_155 2 rfl rfl ?_
        refine ww_iconst C.1 (v := (3 : Int32)) dX2_tell_156 (by decide) ?_
        refine ww_icmp_ne (x := x2) (y := (3 : Int32)) C.1 (tgt := 207) dX2_tell_157 (by decide) (fun hh => ?_) (fun hh => ?_)
        · replace h := h.1 hh
          refine ww_iconst C.1 (v := (0 : Int32)) dX2_tell_207 (by decide) ?_
          refine ww_zret C.1 dX2_tell_208 rfl (Or.inl rfl) ?_
          exact h
        · replace h := h.2 hh
          refine ww_iload_n C.1 dX2_tell_160 3 rfl rfl ?_
          refine ww_nI C fX9_isLength (And.intro (by decide) (by decide)) nlRX2_43 dX2_tell_161 (As := [.int x3]) (rest := []) rfl rfl rfl (Nat.le_of_ble_eq_true rfl) (WpI.of (L0 := [(0, .int x3)]) rfl rfl (Nat.le_of_ble_eq_true rfl) fun X6 Q6 C6 k6 => ?_)
          refine ww_iload_n C6.1 dX9_isLength_0 0 rfl rfl ?_
          refine ww_bipush C6.1 (v := (40 : Int32)) dX9_isLength_1 (by decide) ?_
          refine ww_bipush C6.1 (v := (99 : Int32)) dX9_isLength_3 (by decide) ?_
          refine ww_sI C6 fX9_isWithin (And.intro (by decide) (by decide)) mlRX9_89 dX9_isLength_5 (As := [.int x3, .int (40 : Int32), .int (99 : Int32)]) (rest := []) rfl rfl rfl (Nat.le_of_ble_eq_true rfl) (WpI.of (L0 := [(0, .int x3), (1, .int (40 : Int32)), (2, .int (99 : Int32))]) rfl rfl (Nat.le_of_ble_eq_true rfl) fun X7 Q7 C7 k7 => ?_)
          refine ww_iload_n C7.1 dX9_isWithin_0 0 rfl rfl ?_
          refine ww_iload_n C7.1 dX9_isWithin_1 1 rfl rfl ?_
          refine ww_icmp_lt (x := x3) (y := (40 : Int32)) C7.1 (tgt := 14) dX9_isWithin_2 (by decide) (fun hh => ?_) (fun hh => ?_)
          · replace h := h.1 hh
            refine ww_iconst C7.1 (v := (0 : Int32)) dX9_isWithin_14 (by decide) ?_
            refine ww_zret C7.1 dX9_isWithin_15 rfl (Or.inl rfl) ?_
            refine k7 _ _ ?_
            refine ww_zret C6.1 dX9_isLength_8 rfl (Or.inl rfl) ?_
            refine k6 _ _ ?_
            refine ww_if_eq (x := (0 : Int32)) C.1 (tgt := 207) dX2_tell_164 (by decide) (fun _ => ?_) (fun hh => absurd hh (by decide))
            refine ww_iconst C.1 (v := (0 : Int32)) dX2_tell_207 (by decide) ?_
            refine ww_zret C.1 dX2_tell_208 rfl (Or.inl rfl) ?_
            exact h
          · replace h := h.2 hh
            refine ww_iload_n C7.1 dX9_isWithin_5 0 rfl rfl ?_
            refine ww_iload_n C7.1 dX9_isWithin_6 2 rfl rfl ?_
            refine ww_icmp_gt (x := x3) (y := (99 : Int32)) C7.1 (tgt := 14) dX9_isWithin_7 (by decide) (fun hh => ?_) (fun hh => ?_)
            · replace h := h.1 hh
              refine ww_iconst C7.1 (v := (0 : Int32)) dX9_isWithin_14 (by decide) ?_
              refine ww_zret C7.1 dX9_isWithin_15 rfl (Or.inl rfl) ?_
              refine k7 _ _ ?_
              refine ww_zret C6.1 dX9_isLength_8 rfl (Or.inl rfl) ?_
              refine k6 _ _ ?_
              refine ww_if_eq (x := (0 : Int32)) C.1 (tgt := 207) dX2_tell_164 (by decide) (fun _ => ?_) (fun hh => absurd hh (by decide))
              refine ww_iconst C.1 (v := (0 : Int32)) dX2_tell_207 (by decide) ?_
              refine ww_zret C.1 dX2_tell_208 rfl (Or.inl rfl) ?_
              exact h
            · replace h := h.2 hh
              refine ww_iconst C7.1 (v := (1 : Int32)) dX9_isWithin_10 (by decide) ?_
              refine ww_goto C7.1 (tgt := 15) dX9_isWithin_11 (by decide) ?_
              refine ww_zret C7.1 dX9_isWithin_15 rfl (Or.inr rfl) ?_
              refine k7 _ _ ?_
              refine ww_zret C6.1 dX9_isLength_8 rfl (Or.inr rfl) ?_
              refine k6 _ _ ?_
              refine ww_if_eq (x := (1 : Int32)) C.1 (tgt := 207) dX2_tell_164 (by decide) (fun hh => absurd hh (by decide)) (fun _ => ?_)
              refine ww_iload C.1 dX2_tell_167 4 rfl ?_
              refine ww_iconst C.1 (v := (0 : Int32)) dX2_tell_169 (by decide) ?_
              refine ww_bipush C.1 (v := (9 : Int32)) dX2_tell_170 (by decide) ?_
              refine ww_nI C fX9_isWithin (And.intro (by decide) (by decide)) nlRX2_53 dX2_tell_172 (As := [.int x4, .int (0 : Int32), .int (9 : Int32)]) (rest := []) rfl rfl rfl (Nat.le_of_ble_eq_true rfl) (WpI.of (L0 := [(0, .int x4), (1, .int (0 : Int32)), (2, .int (9 : Int32))]) rfl rfl (Nat.le_of_ble_eq_true rfl) fun X8 Q8 C8 k8 => ?_)
              refine ww_iload_n C8.1 dX9_isWithin_0 0 rfl rfl ?_
              refine ww_iload_n C8.1 dX9_isWithin_1 1 rfl rfl ?_
              refine ww_icmp_lt (x := x4) (y := (0 : Int32)) C8.1 (tgt := 14) dX9_isWithin_2 (by decide) (fun hh => ?_) (fun hh => ?_)
              · replace h := h.1 hh
                refine ww_iconst C8.1 (v := (0 : Int32)) dX9_isWithin_14 (by decide) ?_
                refine ww_zret C8.1 dX9_isWithin_15 rfl (Or.inl rfl) ?_
                refine k8 _ _ ?_
                refine ww_if_eq (x := (0 : Int32)) C.1 (tgt := 207) dX2_tell_175 (by decide) (fun _ => ?_) (fun hh => absurd hh (by decide))
                refine ww_iconst C.1 (v := (0 : Int32)) dX2_tell_207 (by decide) ?_
                refine ww_zret C.1 dX2_tell_208 rfl (Or.inl rfl) ?_
                exact h
              · replace h := h.2 hh
                refine ww_iload_n C8.1 dX9_isWithin_5 0 rfl rfl ?_
                refine ww_iload_n C8.1 dX9_isWithin_6 2 rfl rfl ?_
                refine ww_icmp_gt (x := x4) (y := (9 : Int32)) C8.1 (tgt := 14) dX9_isWithin_7 (by decide) (fun hh => ?_) (fun hh => ?_)
                · replace h := h.1 hh
                  refine ww_iconst C8.1 (v := (0 : Int32)) dX9_isWithin_14 (by decide) ?_
                  refine ww_zret C8.1 dX9_isWithin_15 rfl (Or.inl rfl) ?_
                  refine k8 _ _ ?_
                  refine ww_if_eq (x := (0 : Int32)) C.1 (tgt := 207) dX2_tell_175 (by decide) (fun _ => ?_) (fun hh => absurd hh (by decide))
                  refine ww_iconst C.1 (v := (0 : Int32)) dX2_tell_207 (by decide) ?_
                  refine ww_zret C.1 dX2_tell_208 rfl (Or.inl rfl) ?_
                  exact h
                · replace h := h.2 hh
                  refine ww_iconst C8.1 (v := (1 : Int32)) dX9_isWithin_10 (by decide) ?_
                  refine ww_goto C8.1 (tgt := 15) dX9_isWithin_11 (by decide) ?_
                  refine ww_zret C8.1 dX9_isWithin_15 rfl (Or.inr rfl) ?_
                  refine k8 _ _ ?_
                  refine ww_if_eq (x := (1 : Int32)) C.1 (tgt := 207) dX2_tell_175 (by decide) (fun hh => absurd hh (by decide)) (fun _ => ?_)
                  refine ww_iload C.1 dX2_tell_178 5 rfl ?_
                  refine ww_iconst C.1 (v := (0 : Int32)) dX2_tell_180 (by decide) ?_
                  refine ww_iconst C.1 (v := (4 : Int32)) dX2_tell_181 (by decide) ?_
                  refine ww_nI C fX9_isWithin (And.intro (by decide) (by decide)) nlRX2_53 dX2_tell_182 (As := [.int x5, .int (0 : Int32), .int (4 : Int32)]) (rest := []) rfl rfl rfl (Nat.le_of_ble_eq_true rfl) (WpI.of (L0 := [(0, .int x5), (1, .int (0 : Int32)), (2, .int (4 : Int32))]) rfl rfl (Nat.le_of_ble_eq_true rfl) fun X9 Q9 C9 k9 => ?_)
                  refine ww_iload_n C9.1 dX9_isWithin_0 0 rfl rfl ?_
                  refine ww_iload_n C9.1 dX9_isWithin_1 1 rfl rfl ?_
                  refine ww_icmp_lt (x := x5) (y := (0 : Int32)) C9.1 (tgt := 14) dX9_isWithin_2 (by decide) (fun hh => ?_) (fun hh => ?_)
                  · replace h := h.1 hh
                    refine ww_iconst C9.1 (v := (0 : Int32)) dX9_isWithin_14 (by decide) ?_
                    refine ww_zret C9.1 dX9_isWithin_15 rfl (Or.inl rfl) ?_
                    refine k9 _ _ ?_
                    refine ww_if_eq (x := (0 : Int32)) C.1 (tgt := 207) dX2_tell_185 (by decide) (fun _ => ?_) (fun hh => absurd hh (by decide))
                    refine ww_iconst C.1 (v := (0 : Int32)) dX2_tell_207 (by decide) ?_
                    refine ww_zret C.1 dX2_tell_208 rfl (Or.inl rfl) ?_
                    exact h
                  · replace h := h.2 hh
                    refine ww_iload_n C9.1 dX9_isWithin_5 0 rfl rfl ?_
                    refine ww_iload_n C9.1 dX9_isWithin_6 2 rfl rfl ?_
                    refine ww_icmp_gt (x := x5) (y := (4 : Int32)) C9.1 (tgt := 14) dX9_isWithin_7 (by decide) (fun hh => ?_) (fun hh => ?_)
                    · replace h := h.1 hh
                      refine ww_iconst C9.1 (v := (0 : Int32)) dX9_isWithin_14 (by decide) ?_
                      refine ww_zret C9.1 dX9_isWithin_15 rfl (Or.inl rfl) ?_
                      refine k9 _ _ ?_
                      refine ww_if_eq (x := (0 : Int32)) C.1 (tgt := 207) dX2_tell_185 (by decide) (fun _ => ?_) (fun hh => absurd hh (by decide))
                      refine ww_iconst C.1 (v := (0 : Int32)) dX2_tell_207 (by decide) ?_
                      refine ww_zret C.1 dX2_tell_208 rfl (Or.inl rfl) ?_
                      exact h
                    · replace h := h.2 hh
                      refine ww_iconst C9.1 (v := (1 : Int32)) dX9_isWithin_10 (by decide) ?_
                      refine ww_goto C9.1 (tgt := 15) dX9_isWithin_11 (by decide) ?_
                      refine ww_zret C9.1 dX9_isWithin_15 rfl (Or.inr rfl) ?_
                      refine k9 _ _ ?_
                      refine ww_if_eq (x := (1 : Int32)) C.1 (tgt := 207) dX2_tell_185 (by decide) (fun hh => absurd hh (by decide)) (fun _ => ?_)
                      refine ww_aload_n C.1 dX2_tell_188 0 rfl rfl ?_
                      refine wt_getR C.1 dX2_tell_189 flRX2_21 (tc45 T2) rfl (gg45_1 G2) ?_
                      refine ww_iload_n C.1 dX2_tell_192 3 rfl rfl ?_
                      refine ww_iload C.1 dX2_tell_193 4 rfl ?_
                      refine ww_iload C.1 dX2_tell_195 5 rfl ?_
                      refine ww_vI C fX5_add (And.intro (by decide) (by decide)) mlRX2_61 dX2_tell_197 (tc49 T2) (by decide) rfl (As := [.int x3, .int x4, .int x5]) (rest := []) rfl rfl rfl (Nat.le_of_ble_eq_true rfl) ?_
                      exact h
      · replace h := h.2 hc2
        by_cases hc3 : x1 = (104 : Int32)
        · replace h := h.1 hc3
          refine ww_tableIn (x := x1) C.1 (tgt := 209) dX2_tell_1 (by rw [hc3]; decide) (by rw [hc3]; decide) (by rw [hc3]; rfl) (by decide) ?_
          refine ww_iload_n C.1 dX2_tell_209 2 rfl rfl ?_
          refine ww_iconst C.1 (v := (2 : Int32)) dX2_tell_210 (by decide) ?_
          refine ww_icmp_ne (x := x2) (y := (2 : Int32)) C.1 (tgt := 231) dX2_tell_211 (by decide) (fun hh => ?_) (fun hh => ?_)
          · replace h := h.1 hh
            refine ww_iconst C.1 (v := (0 : Int32)) dX2_tell_231 (by decide) ?_
            refine ww_zret C.1 dX2_tell_232 rfl (Or.inl rfl) ?_
            exact h
          · replace h := h.2 hh
            refine ww_aload_n C.1 dX2_tell_214 0 rfl rfl ?_
            refine wt_getR C.1 dX2_tell_215 flRX2_21 (tc45 T2) rfl (gg45_1 G2) ?_
            refine ww_iload_n C.1 dX2_tell_218 3 rfl rfl ?_
            refine ww_iload C.1 dX2_tell_219 4 rfl ?_
            refine ww_vI C fX5_befriend (And.intro (by decide) (by decide)) mlRX2_63 dX2_tell_221 (tc49 T2) (by decide) rfl (As := [.int x3, .int x4]) (rest := []) rfl rfl rfl (Nat.le_of_ble_eq_true rfl) ?_
            exact h
        · replace h := h.2 hc3
          by_cases hc4 : x1 = (107 : Int32)
          · replace h := h.1 hc4
            refine ww_tableIn (x := x1) C.1 (tgt := 233) dX2_tell_1 (by rw [hc4]; decide) (by rw [hc4]; decide) (by rw [hc4]; rfl) (by decide) ?_
            refine ww_iload_n C.1 dX2_tell_233 2 rfl rfl ?_
            refine ww_iconst C.1 (v := (1 : Int32)) dX2_tell_234 (by decide) ?_
            refine ww_icmp_ne (x := x2) (y := (1 : Int32)) C.1 (tgt := 250) dX2_tell_235 (by decide) (fun hh => ?_) (fun hh => ?_)
            · replace h := h.1 hh
              refine ww_iconst C.1 (v := (0 : Int32)) dX2_tell_250 (by decide) ?_
              refine ww_zret C.1 dX2_tell_251 rfl (Or.inl rfl) ?_
              exact h
            · replace h := h.2 hh
              refine ww_aload_n C.1 dX2_tell_238 0 rfl rfl ?_
              refine ww_iload_n C.1 dX2_tell_239 3 rfl rfl ?_
              refine ww_vI C fX2_enact (And.intro (by decide) (by decide)) mlRX2_66 dX2_tell_240 (tc45 T2) (by decide) rfl (As := [.int x3]) (rest := []) rfl rfl rfl (Nat.le_of_ble_eq_true rfl) (WpI.of (L0 := [(0, .ref 45), (1, .int x3)]) rfl rfl (Nat.le_of_ble_eq_true rfl) fun X10 Q10 C10 k10 => ?_)
              refine ww_iload_n C10.1 dX2_enact_0 1 rfl rfl ?_
              refine ww_iconst C10.1 (v := (0 : Int32)) dX2_enact_1 (by decide) ?_
              refine ww_iconst C10.1 (v := (2 : Int32)) dX2_enact_2 (by decide) ?_
              refine ww_nI C10 fX9_isWithin (And.intro (by decide) (by decide)) nlRX2_53 dX2_enact_3 (As := [.int x3, .int (0 : Int32), .int (2 : Int32)]) (rest := []) rfl rfl rfl (Nat.le_of_ble_eq_true rfl) (WpI.of (L0 := [(0, .int x3), (1, .int (0 : Int32)), (2, .int (2 : Int32))]) rfl rfl (Nat.le_of_ble_eq_true rfl) fun X11 Q11 C11 k11 => ?_)
              refine ww_iload_n C11.1 dX9_isWithin_0 0 rfl rfl ?_
              refine ww_iload_n C11.1 dX9_isWithin_1 1 rfl rfl ?_
              refine ww_icmp_lt (x := x3) (y := (0 : Int32)) C11.1 (tgt := 14) dX9_isWithin_2 (by decide) (fun hh => ?_) (fun hh => ?_)
              · replace h := h.1 hh
                refine ww_iconst C11.1 (v := (0 : Int32)) dX9_isWithin_14 (by decide) ?_
                refine ww_zret C11.1 dX9_isWithin_15 rfl (Or.inl rfl) ?_
                refine k11 _ _ ?_
                refine ww_if_ne (x := (0 : Int32)) C10.1 (tgt := 11) dX2_enact_6 (by decide) (fun hh => absurd hh (by decide)) (fun _ => ?_)
                refine ww_iconst C10.1 (v := (0 : Int32)) dX2_enact_9 (by decide) ?_
                refine ww_zret C10.1 dX2_enact_10 rfl (Or.inl rfl) ?_
                refine k10 _ _ ?_
                refine ww_if_eq (x := (0 : Int32)) C.1 (tgt := 250) dX2_tell_243 (by decide) (fun _ => ?_) (fun hh => absurd hh (by decide))
                refine ww_iconst C.1 (v := (0 : Int32)) dX2_tell_250 (by decide) ?_
                refine ww_zret C.1 dX2_tell_251 rfl (Or.inl rfl) ?_
                exact h
              · replace h := h.2 hh
                refine ww_iload_n C11.1 dX9_isWithin_5 0 rfl rfl ?_
                refine ww_iload_n C11.1 dX9_isWithin_6 2 rfl rfl ?_
                refine ww_icmp_gt (x := x3) (y := (2 : Int32)) C11.1 (tgt := 14) dX9_isWithin_7 (by decide) (fun hh => ?_) (fun hh => ?_)
                · replace h := h.1 hh
                  refine ww_iconst C11.1 (v := (0 : Int32)) dX9_isWithin_14 (by decide) ?_
                  refine ww_zret C11.1 dX9_isWithin_15 rfl (Or.inl rfl) ?_
                  refine k11 _ _ ?_
                  refine ww_if_ne (x := (0 : Int32)) C10.1 (tgt := 11) dX2_enact_6 (by decide) (fun hh => absurd hh (by decide)) (fun _ => ?_)
                  refine ww_iconst C10.1 (v := (0 : Int32)) dX2_enact_9 (by decide) ?_
                  refine ww_zret C10.1 dX2_enact_10 rfl (Or.inl rfl) ?_
                  refine k10 _ _ ?_
                  refine ww_if_eq (x := (0 : Int32)) C.1 (tgt := 250) dX2_tell_243 (by decide) (fun _ => ?_) (fun hh => absurd hh (by decide))
                  refine ww_iconst C.1 (v := (0 : Int32)) dX2_tell_250 (by decide) ?_
                  refine ww_zret C.1 dX2_tell_251 rfl (Or.inl rfl) ?_
                  exact h
                · replace h := h.2 hh
                  refine ww_iconst C11.1 (v := (1 : Int32)) dX9_isWithin_10 (by decide) ?_
                  refine ww_goto C11.1 (tgt := 15) dX9_isWithin_11 (by decide) ?_
                  refine ww_zret C11.1 dX9_isWithin_15 rfl (Or.inr rfl) ?_
                  refine k11 _ _ ?_
                  refine ww_if_ne (x := (1 : Int32)) C10.1 (tgt := 11) dX2_enact_6 (by decide) (fun _ => ?_) (fun hh => absurd hh (by decide))
                  refine ww_aload_n C10.1 dX2_enact_11 0 rfl rfl ?_
                  refine ww_iload_n C10.1 dX2_enact_12 1 rfl rfl ?_
                  refine wt_putI C10.1 dX2_enact_13 flRX2_39 (tc45 T2) rfl ?_
                  refine ww_iconst C10.1 (v := (1 : Int32)) dX2_enact_16 (by decide) ?_
                  refine ww_zret C10.1 dX2_enact_17 rfl (Or.inr rfl) ?_
                  refine k10 _ _ ?_
                  refine ww_if_eq (x := (1 : Int32)) C.1 (tgt := 250) dX2_tell_243 (by decide) (fun hh => absurd hh (by decide)) (fun _ => ?_)
                  refine ww_iconst C.1 (v := (1 : Int32)) dX2_tell_246 (by decide) ?_
                  refine ww_goto C.1 (tgt := 251) dX2_tell_247 (by decide) ?_
                  refine ww_zret C.1 dX2_tell_251 rfl (Or.inr rfl) ?_
                  exact h
          · replace h := h.2 hc4
            by_cases hc5 : x1 = (114 : Int32)
            · replace h := h.1 hc5
              refine ww_tableIn (x := x1) C.1 (tgt := 252) dX2_tell_1 (by rw [hc5]; decide) (by rw [hc5]; decide) (by rw [hc5]; rfl) (by decide) ?_
              refine ww_iload_n C.1 dX2_tell_252 2 rfl rfl ?_
              refine ww_iconst C.1 (v := (1 : Int32)) dX2_tell_253 (by decide) ?_
              refine ww_icmp_ne (x := x2) (y := (1 : Int32)) C.1 (tgt := 276) dX2_tell_254 (by decide) (fun hh => ?_) (fun hh => ?_)
              · replace h := h.1 hh
                refine ww_iconst C.1 (v := (0 : Int32)) dX2_tell_276 (by decide) ?_
                refine ww_zret C.1 dX2_tell_277 rfl (Or.inl rfl) ?_
                exact h
              · replace h := h.2 hh
                refine ww_iload_n C.1 dX2_tell_257 3 rfl rfl ?_
                refine ww_nI C fX9_isLength (And.intro (by decide) (by decide)) nlRX2_43 dX2_tell_258 (As := [.int x3]) (rest := []) rfl rfl rfl (Nat.le_of_ble_eq_true rfl) (WpI.of (L0 := [(0, .int x3)]) rfl rfl (Nat.le_of_ble_eq_true rfl) fun X12 Q12 C12 k12 => ?_)
                refine ww_iload_n C12.1 dX9_isLength_0 0 rfl rfl ?_
                refine ww_bipush C12.1 (v := (40 : Int32)) dX9_isLength_1 (by decide) ?_
                refine ww_bipush C12.1 (v := (99 : Int32)) dX9_isLength_3 (by decide) ?_
                refine ww_sI C12 fX9_isWithin (And.intro (by decide) (by decide)) mlRX9_89 dX9_isLength_5 (As := [.int x3, .int (40 : Int32), .int (99 : Int32)]) (rest := []) rfl rfl rfl (Nat.le_of_ble_eq_true rfl) (WpI.of (L0 := [(0, .int x3), (1, .int (40 : Int32)), (2, .int (99 : Int32))]) rfl rfl (Nat.le_of_ble_eq_true rfl) fun X13 Q13 C13 k13 => ?_)
                refine ww_iload_n C13.1 dX9_isWithin_0 0 rfl rfl ?_
                refine ww_iload_n C13.1 dX9_isWithin_1 1 rfl rfl ?_
                refine ww_icmp_lt (x := x3) (y := (40 : Int32)) C13.1 (tgt := 14) dX9_isWithin_2 (by decide) (fun hh => ?_) (fun hh => ?_)
                · replace h := h.1 hh
                  refine ww_iconst C13.1 (v := (0 : Int32)) dX9_isWithin_14 (by decide) ?_
                  refine ww_zret C13.1 dX9_isWithin_15 rfl (Or.inl rfl) ?_
                  refine k13 _ _ ?_
                  refine ww_zret C12.1 dX9_isLength_8 rfl (Or.inl rfl) ?_
                  refine k12 _ _ ?_
                  refine ww_if_eq (x := (0 : Int32)) C.1 (tgt := 276) dX2_tell_261 (by decide) (fun _ => ?_) (fun hh => absurd hh (by decide))
                  refine ww_iconst C.1 (v := (0 : Int32)) dX2_tell_276 (by decide) ?_
                  refine ww_zret C.1 dX2_tell_277 rfl (Or.inl rfl) ?_
                  exact h
                · replace h := h.2 hh
                  refine ww_iload_n C13.1 dX9_isWithin_5 0 rfl rfl ?_
                  refine ww_iload_n C13.1 dX9_isWithin_6 2 rfl rfl ?_
                  refine ww_icmp_gt (x := x3) (y := (99 : Int32)) C13.1 (tgt := 14) dX9_isWithin_7 (by decide) (fun hh => ?_) (fun hh => ?_)
                  · replace h := h.1 hh
                    refine ww_iconst C13.1 (v := (0 : Int32)) dX9_isWithin_14 (by decide) ?_
                    refine ww_zret C13.1 dX9_isWithin_15 rfl (Or.inl rfl) ?_
                    refine k13 _ _ ?_
                    refine ww_zret C12.1 dX9_isLength_8 rfl (Or.inl rfl) ?_
                    refine k12 _ _ ?_
                    refine ww_if_eq (x := (0 : Int32)) C.1 (tgt := 276) dX2_tell_261 (by decide) (fun _ => ?_) (fun hh => absurd hh (by decide))
                    refine ww_iconst C.1 (v := (0 : Int32)) dX2_tell_276 (by decide) ?_
                    refine ww_zret C.1 dX2_tell_277 rfl (Or.inl rfl) ?_
                    exact h
                  · replace h := h.2 hh
                    refine ww_iconst C13.1 (v := (1 : Int32)) dX9_isWithin_10 (by decide) ?_
                    refine ww_goto C13.1 (tgt := 15) dX9_isWithin_11 (by decide) ?_
                    refine ww_zret C13.1 dX9_isWithin_15 rfl (Or.inr rfl) ?_
                    refine k13 _ _ ?_
                    refine ww_zret C12.1 dX9_isLength_8 rfl (Or.inr rfl) ?_
                    refine k12 _ _ ?_
                    refine ww_if_eq (x := (1 : Int32)) C.1 (tgt := 276) dX2_tell_261 (by decide) (fun hh => absurd hh (by decide)) (fun _ => ?_)
                    refine ww_aload_n C.1 dX2_tell_264 0 rfl rfl ?_
                    refine ww_iload_n C.1 dX2_tell_265 3 rfl rfl ?_
                    refine ww_vI C fX2_addRival (And.intro (by decide) (by decide)) mlRX2_69 dX2_tell_266 (tc45 T2) (by decide) rfl (As := [.int x3]) (rest := []) rfl rfl rfl (Nat.le_of_ble_eq_true rfl) ?_
                    exact h
            · replace h := h.2 hc5
              rcases (show (x1.toInt < 98 ∨ 114 < x1.toInt) ∨ x1.toInt = 99 ∨ x1.toInt = 100 ∨ x1.toInt = 101 ∨ x1.toInt = 105 ∨ x1.toInt = 106 ∨ x1.toInt = 108 ∨ x1.toInt = 109 ∨ x1.toInt = 110 ∨ x1.toInt = 111 ∨ x1.toInt = 112 ∨ x1.toInt = 113 by have e0 := lv_neT hc0 (a := 98) (by decide); have e1 := lv_neT hc1 (a := 102) (by decide); have e2 := lv_neT hc2 (a := 103) (by decide); have e3 := lv_neT hc3 (a := 104) (by decide); have e4 := lv_neT hc4 (a := 107) (by decide); have e5 := lv_neT hc5 (a := 114) (by decide); omega) with hz | hz | hz | hz | hz | hz | hz | hz | hz | hz | hz | hz
              · refine ww_tableOut (x := x1) C.1 (tgt := 278) dX2_tell_1 hz (by decide) ?_
                refine ww_iconst C.1 (v := (0 : Int32)) dX2_tell_278 (by decide) ?_
                refine ww_zret C.1 dX2_tell_279 rfl (Or.inl rfl) ?_
                exact h
              · refine ww_tableIn (x := x1) C.1 (tgt := 278) dX2_tell_1 (by rw [hz]; decide) (by rw [hz]; decide) (by rw [hz]; rfl) (by decide) ?_
                refine ww_iconst C.1 (v := (0 : Int32)) dX2_tell_278 (by decide) ?_
                refine ww_zret C.1 dX2_tell_279 rfl (Or.inl rfl) ?_
                exact h
              · refine ww_tableIn (x := x1) C.1 (tgt := 278) dX2_tell_1 (by rw [hz]; decide) (by rw [hz]; decide) (by rw [hz]; rfl) (by decide) ?_
                refine ww_iconst C.1 (v := (0 : Int32)) dX2_tell_278 (by decide) ?_
                refine ww_zret C.1 dX2_tell_279 rfl (Or.inl rfl) ?_
                exact h
              · refine ww_tableIn (x := x1) C.1 (tgt := 278) dX2_tell_1 (by rw [hz]; decide) (by rw [hz]; decide) (by rw [hz]; rfl) (by decide) ?_
                refine ww_iconst C.1 (v := (0 : Int32)) dX2_tell_278 (by decide) ?_
                refine ww_zret C.1 dX2_tell_279 rfl (Or.inl rfl) ?_
                exact h
              · refine ww_tableIn (x := x1) C.1 (tgt := 278) dX2_tell_1 (by rw [hz]; decide) (by rw [hz]; decide) (by rw [hz]; rfl) (by decide) ?_
                refine ww_iconst C.1 (v := (0 : Int32)) dX2_tell_278 (by decide) ?_
                refine ww_zret C.1 dX2_tell_279 rfl (Or.inl rfl) ?_
                exact h
              · refine ww_tableIn (x := x1) C.1 (tgt := 278) dX2_tell_1 (by rw [hz]; decide) (by rw [hz]; decide) (by rw [hz]; rfl) (by decide) ?_
                refine ww_iconst C.1 (v := (0 : Int32)) dX2_tell_278 (by decide) ?_
                refine ww_zret C.1 dX2_tell_279 rfl (Or.inl rfl) ?_
                exact h
              · refine ww_tableIn (x := x1) C.1 (tgt := 278) dX2_tell_1 (by rw [hz]; decide) (by rw [hz]; decide) (by rw [hz]; rfl) (by decide) ?_
                refine ww_iconst C.1 (v := (0 : Int32)) dX2_tell_278 (by decide) ?_
                refine ww_zret C.1 dX2_tell_279 rfl (Or.inl rfl) ?_
                exact h
              · refine ww_tableIn (x := x1) C.1 (tgt := 278) dX2_tell_1 (by rw [hz]; decide) (by rw [hz]; decide) (by rw [hz]; rfl) (by decide) ?_
                refine ww_iconst C.1 (v := (0 : Int32)) dX2_tell_278 (by decide) ?_
                refine ww_zret C.1 dX2_tell_279 rfl (Or.inl rfl) ?_
                exact h
              · refine ww_tableIn (x := x1) C.1 (tgt := 278) dX2_tell_1 (by rw [hz]; decide) (by rw [hz]; decide) (by rw [hz]; rfl) (by decide) ?_
                refine ww_iconst C.1 (v := (0 : Int32)) dX2_tell_278 (by decide) ?_
                refine ww_zret C.1 dX2_tell_279 rfl (Or.inl rfl) ?_
                exact h
              · refine ww_tableIn (x := x1) C.1 (tgt := 278) dX2_tell_1 (by rw [hz]; decide) (by rw [hz]; decide) (by rw [hz]; rfl) (by decide) ?_
                refine ww_iconst C.1 (v := (0 : Int32)) dX2_tell_278 (by decide) ?_
                refine ww_zret C.1 dX2_tell_279 rfl (Or.inl rfl) ?_
                exact h
              · refine ww_tableIn (x := x1) C.1 (tgt := 278) dX2_tell_1 (by rw [hz]; decide) (by rw [hz]; decide) (by rw [hz]; rfl) (by decide) ?_
                refine ww_iconst C.1 (v := (0 : Int32)) dX2_tell_278 (by decide) ?_
                refine ww_zret C.1 dX2_tell_279 rfl (Or.inl rfl) ?_
                exact h
              · refine ww_tableIn (x := x1) C.1 (tgt := 278) dX2_tell_1 (by rw [hz]; decide) (by rw [hz]; decide) (by rw [hz]; rfl) (by decide) ?_
                refine ww_iconst C.1 (v := (0 : Int32)) dX2_tell_278 (by decide) ?_
                refine ww_zret C.1 dX2_tell_279 rfl (Or.inl rfl) ?_
                exact h
set_option maxHeartbeats 4000000 in
set_option maxRecDepth 20000 in
theorem bX2_tell_104 {X : CX} {Q : State → Prop} {M : Mem} {G2 : Grf} {T2 : List (Nat × Nat)} {x1 x2 x3 x4 x5 s0 : Int32} (C : Ok0 X mX2_tell (TTc ++ T2))
    (h : ((s0 = (0 : Int32) → RetOK X Q (some (.int (0 : Int32))) (M, (gj G2), TTc ++ T2)) ∧ (¬ s0 = (0 : Int32) → RetOK X Q (some (.int (1 : Int32))) (M, (gj G2), TTc ++ T2)))) :
    WW X Q 104 [(0, .ref 45), (1, .int x1), (2, .int x2), (3, .int x3), (4, .int x4), (5, .int x5)] [.int s0] (M, (gj G2), TTc ++ T2) := by
  refine ww_if_eq (x := s0) C.1 (tgt := 111) dX2_tell_104 (by decide) (fun hh => ?_) (fun hh => ?_)
  · replace h := h.1 hh
    refine ww_iconst C.1 (v := (0 : Int32)) dX2_tell_111 (by decide) ?_
    refine ww_zret C.1 dX2_tell_112 rfl (Or.inl rfl) ?_
    exact h
  · replace h := h.2 hh
    refine ww_iconst C.1 (v := (1 : Int32)) dX2_tell_107 (by decide) ?_
    refine ww_goto C.1 (tgt := 112) dX2_tell_108 (by decide) ?_
    refine ww_zret C.1 dX2_tell_112 rfl (Or.inr rfl) ?_
    exact h
set_option maxHeartbeats 4000000 in
set_option maxRecDepth 20000 in
theorem bX2_tell_146 {X : CX} {Q : State → Prop} {M : Mem} {G2 : Grf} {T2 : List (Nat × Nat)} {x1 x2 x3 x4 x5 s0 : Int32} (C : Ok0 X mX2_tell (TTc ++ T2))
    (h : ((s0 = (0 : Int32) → RetOK X Q (some (.int (0 : Int32))) (M, (gj G2), TTc ++ T2)) ∧ (¬ s0 = (0 : Int32) → RetOK X Q (some (.int (1 : Int32))) (M, (gj G2), TTc ++ T2)))) :
    WW X Q 146 [(0, .ref 45), (1, .int x1), (2, .int x2), (3, .int x3), (4, .int x4), (5, .int x5)] [.int s0] (M, (gj G2), TTc ++ T2) := by
  refine ww_if_eq (x := s0) C.1 (tgt := 153) dX2_tell_146 (by decide) (fun hh => ?_) (fun hh => ?_)
  · replace h := h.1 hh
    refine ww_iconst C.1 (v := (0 : Int32)) dX2_tell_153 (by decide) ?_
    refine ww_zret C.1 dX2_tell_154 rfl (Or.inl rfl) ?_
    exact h
  · replace h := h.2 hh
    refine ww_iconst C.1 (v := (1 : Int32)) dX2_tell_149 (by decide) ?_
    refine ww_goto C.1 (tgt := 154) dX2_tell_150 (by decide) ?_
    refine ww_zret C.1 dX2_tell_154 rfl (Or.inr rfl) ?_
    exact h
set_option maxHeartbeats 4000000 in
set_option maxRecDepth 20000 in
theorem bX2_tell_200 {X : CX} {Q : State → Prop} {M : Mem} {G2 : Grf} {T2 : List (Nat × Nat)} {x1 x2 x3 x4 x5 s0 : Int32} (C : Ok0 X mX2_tell (TTc ++ T2))
    (h : ((s0 = (0 : Int32) → RetOK X Q (some (.int (0 : Int32))) (M, (gj G2), TTc ++ T2)) ∧ (¬ s0 = (0 : Int32) → RetOK X Q (some (.int (1 : Int32))) (M, (gj G2), TTc ++ T2)))) :
    WW X Q 200 [(0, .ref 45), (1, .int x1), (2, .int x2), (3, .int x3), (4, .int x4), (5, .int x5)] [.int s0] (M, (gj G2), TTc ++ T2) := by
  refine ww_if_eq (x := s0) C.1 (tgt := 207) dX2_tell_200 (by decide) (fun hh => ?_) (fun hh => ?_)
  · replace h := h.1 hh
    refine ww_iconst C.1 (v := (0 : Int32)) dX2_tell_207 (by decide) ?_
    refine ww_zret C.1 dX2_tell_208 rfl (Or.inl rfl) ?_
    exact h
  · replace h := h.2 hh
    refine ww_iconst C.1 (v := (1 : Int32)) dX2_tell_203 (by decide) ?_
    refine ww_goto C.1 (tgt := 208) dX2_tell_204 (by decide) ?_
    refine ww_zret C.1 dX2_tell_208 rfl (Or.inr rfl) ?_
    exact h
set_option maxHeartbeats 4000000 in
set_option maxRecDepth 20000 in
theorem bX2_tell_224 {X : CX} {Q : State → Prop} {M : Mem} {G2 : Grf} {T2 : List (Nat × Nat)} {x1 x2 x3 x4 x5 s0 : Int32} (C : Ok0 X mX2_tell (TTc ++ T2))
    (h : ((s0 = (0 : Int32) → RetOK X Q (some (.int (0 : Int32))) (M, (gj G2), TTc ++ T2)) ∧ (¬ s0 = (0 : Int32) → RetOK X Q (some (.int (1 : Int32))) (M, (gj G2), TTc ++ T2)))) :
    WW X Q 224 [(0, .ref 45), (1, .int x1), (2, .int x2), (3, .int x3), (4, .int x4), (5, .int x5)] [.int s0] (M, (gj G2), TTc ++ T2) := by
  refine ww_if_eq (x := s0) C.1 (tgt := 231) dX2_tell_224 (by decide) (fun hh => ?_) (fun hh => ?_)
  · replace h := h.1 hh
    refine ww_iconst C.1 (v := (0 : Int32)) dX2_tell_231 (by decide) ?_
    refine ww_zret C.1 dX2_tell_232 rfl (Or.inl rfl) ?_
    exact h
  · replace h := h.2 hh
    refine ww_iconst C.1 (v := (1 : Int32)) dX2_tell_227 (by decide) ?_
    refine ww_goto C.1 (tgt := 232) dX2_tell_228 (by decide) ?_
    refine ww_zret C.1 dX2_tell_232 rfl (Or.inr rfl) ?_
    exact h
set_option maxHeartbeats 4000000 in
set_option maxRecDepth 20000 in
theorem bX2_tell_269 {X : CX} {Q : State → Prop} {M : Mem} {G2 : Grf} {T2 : List (Nat × Nat)} {x1 x2 x3 x4 x5 s0 : Int32} (C : Ok0 X mX2_tell (TTc ++ T2))
    (h : ((s0 = (0 : Int32) → RetOK X Q (some (.int (0 : Int32))) (M, (gj G2), TTc ++ T2)) ∧ (¬ s0 = (0 : Int32) → RetOK X Q (some (.int (1 : Int32))) (M, (gj G2), TTc ++ T2)))) :
    WW X Q 269 [(0, .ref 45), (1, .int x1), (2, .int x2), (3, .int x3), (4, .int x4), (5, .int x5)] [.int s0] (M, (gj G2), TTc ++ T2) := by
  refine ww_if_eq (x := s0) C.1 (tgt := 276) dX2_tell_269 (by decide) (fun hh => ?_) (fun hh => ?_)
  · replace h := h.1 hh
    refine ww_iconst C.1 (v := (0 : Int32)) dX2_tell_276 (by decide) ?_
    refine ww_zret C.1 dX2_tell_277 rfl (Or.inl rfl) ?_
    exact h
  · replace h := h.2 hh
    refine ww_iconst C.1 (v := (1 : Int32)) dX2_tell_272 (by decide) ?_
    refine ww_goto C.1 (tgt := 277) dX2_tell_273 (by decide) ?_
    refine ww_zret C.1 dX2_tell_277 rfl (Or.inr rfl) ?_
    exact h
set_option maxHeartbeats 4000000 in
set_option maxRecDepth 20000 in
theorem bX2_addRival_0 {X : CX} {Q : State → Prop} {M : Mem} {G2 : Grf} {T2 : List (Nat × Nat)} {x1 : Int32} (C : Ok0 X mX2_addRival (TTc ++ T2))
    (h : (((M 45 3) < (4 : Int32) → (vp_in (M 45 3) 4 ∧ RetOK X Q (some (.int (1 : Int32))) ((wr (wr M 56 (M 45 3).toNatClampNeg x1) 45 3 ((M 45 3) + (1 : Int32))), (gj G2), TTc ++ T2))) ∧ (¬ (M 45 3) < (4 : Int32) → RetOK X Q (some (.int (0 : Int32))) (M, (gj G2), TTc ++ T2)))) :
    WW X Q 0 [(0, .ref 45), (1, .int x1)] [] (M, (gj G2), TTc ++ T2) := by
  refine ww_aload_n C.1 dX2_addRival_0 0 rfl rfl ?_
  refine wt_getI C.1 dX2_addRival_1 flRX2_36 (tc45 T2) rfl ?_
  refine ww_iconst C.1 (v := (4 : Int32)) dX2_addRival_4 (by decide) ?_
  refine ww_icmp_lt (x := (M 45 3)) (y := (4 : Int32)) C.1 (tgt := 10) dX2_addRival_5 (by decide) (fun hh => ?_) (fun hh => ?_)
  · replace h := h.1 hh
    refine ww_aload_n C.1 dX2_addRival_10 0 rfl rfl ?_
    refine wt_getR C.1 dX2_addRival_11 flRX2_25 (tc45 T2) rfl (gg45_2 G2) ?_
    refine ww_aload_n C.1 dX2_addRival_14 0 rfl rfl ?_
    refine wt_getI C.1 dX2_addRival_15 flRX2_36 (tc45 T2) rfl ?_
    refine ww_iload_n C.1 dX2_addRival_18 1 rfl rfl ?_
    refine wt_iast C.1 dX2_addRival_19 (tc56 T2) h.1 ?_
    replace h := h.2
    refine ww_aload_n C.1 dX2_addRival_20 0 rfl rfl ?_
    refine ww_dup C.1 dX2_addRival_21 rfl ?_
    refine wt_getI C.1 dX2_addRival_22 flRX2_36 (tc45 T2) rfl ?_
    refine ww_iconst C.1 (v := (1 : Int32)) dX2_addRival_25 (by decide) ?_
    refine ww_iadd C.1 dX2_addRival_26 ?_
    refine wt_putI C.1 dX2_addRival_27 flRX2_36 (tc45 T2) rfl ?_
    refine ww_iconst C.1 (v := (1 : Int32)) dX2_addRival_30 (by decide) ?_
    refine ww_zret C.1 dX2_addRival_31 rfl (Or.inr rfl) ?_
    exact h
  · replace h := h.2 hh
    refine ww_iconst C.1 (v := (0 : Int32)) dX2_addRival_8 (by decide) ?_
    refine ww_zret C.1 dX2_addRival_9 rfl (Or.inl rfl) ?_
    exact h
set_option maxHeartbeats 4000000 in
set_option maxRecDepth 20000 in
theorem bX2_namable_0 {X : CX} {Q : State → Prop} {M : Mem} {G2 : Grf} {T2 : List (Nat × Nat)} {x1 : Int32} (C : Ok0 X mX2_namable (TTc ++ T2))
    (h : ((¬ (M 33 4) = (2 : Int32) → ((¬ (M 33 4) = (1 : Int32) → RetOK X Q (some (.int (0 : Int32))) (M, (gj G2), TTc ++ T2)) ∧ ((M 33 4) = (1 : Int32) → ((x1 < (0 : Int32) → RetOK X Q (some (.int (0 : Int32))) (M, (gj G2), TTc ++ T2)) ∧ (¬ x1 < (0 : Int32) → (((M 37 6) ≤ x1 → RetOK X Q (some (.int (0 : Int32))) (M, (gj G2), TTc ++ T2)) ∧ (¬ (M 37 6) ≤ x1 → (vp_in x1 7 ∧ RetOK X Q (some (.int (M 41 x1.toNatClampNeg))) (M, (gj G2), TTc ++ T2))))))))) ∧ ((M 33 4) = (2 : Int32) → RetOK X Q (some (.int (((1 : Int32) <<< (x1 &&& 31)) ^^^ (-1 : Int32)))) (M, (gj G2), TTc ++ T2)))) :
    WW X Q 0 [(0, .ref 33), (1, .int x1)] [] (M, (gj G2), TTc ++ T2) := by
  refine ww_aload_n C.1 dX2_namable_0 0 rfl rfl ?_
  refine wt_getI C.1 dX2_namable_1 flRX2_39 (tc33 T2) rfl ?_
  refine ww_iconst C.1 (v := (2 : Int32)) dX2_namable_4 (by decide) ?_
  refine ww_icmp_ne (x := (M 33 4)) (y := (2 : Int32)) C.1 (tgt := 14) dX2_namable_5 (by decide) (fun hh => ?_) (fun hh => ?_)
  · replace h := h.1 hh
    refine ww_aload_n C.1 dX2_namable_14 0 rfl rfl ?_
    refine wt_getI C.1 dX2_namable_15 flRX2_39 (tc33 T2) rfl ?_
    refine ww_iconst C.1 (v := (1 : Int32)) dX2_namable_18 (by decide) ?_
    refine ww_icmp_ne (x := (M 33 4)) (y := (1 : Int32)) C.1 (tgt := 45) dX2_namable_19 (by decide) (fun hh => ?_) (fun hh => ?_)
    · replace h := h.1 hh
      refine ww_iconst C.1 (v := (0 : Int32)) dX2_namable_45 (by decide) ?_
      refine ww_iret C.1 dX2_namable_46 rfl ?_
      exact h
    · replace h := h.2 hh
      refine ww_aload_n C.1 dX2_namable_22 0 rfl rfl ?_
      refine wt_getR C.1 dX2_namable_23 flRX2_21 (tc33 T2) rfl (gg33_1 G2) ?_
      refine ww_iload_n C.1 dX2_namable_26 1 rfl rfl ?_
      refine ww_vI C fX5_has (And.intro (by decide) (by decide)) mlRX2_72 dX2_namable_27 (tc37 T2) (by decide) rfl (As := [.int x1]) (rest := []) rfl rfl rfl (Nat.le_of_ble_eq_true rfl) (WpI.of (L0 := [(0, .ref 37), (1, .int x1)]) rfl rfl (Nat.le_of_ble_eq_true rfl) fun X1 Q1 C1 k1 => ?_)
      refine ww_iload_n C1.1 dX5_has_0 1 rfl rfl ?_
      refine ww_if_lt (x := x1) C1.1 (tgt := 16) dX5_has_1 (by decide) (fun hh => ?_) (fun hh => ?_)
      · replace h := h.1 hh
        refine ww_iconst C1.1 (v := (0 : Int32)) dX5_has_16 (by decide) ?_
        refine ww_zret C1.1 dX5_has_17 rfl (Or.inl rfl) ?_
        refine k1 _ _ ?_
        refine ww_if_eq (x := (0 : Int32)) C.1 (tgt := 45) dX2_namable_30 (by decide) (fun _ => ?_) (fun hh => absurd hh (by decide))
        refine ww_iconst C.1 (v := (0 : Int32)) dX2_namable_45 (by decide) ?_
        refine ww_iret C.1 dX2_namable_46 rfl ?_
        exact h
      · replace h := h.2 hh
        refine ww_iload_n C1.1 dX5_has_4 1 rfl rfl ?_
        refine ww_aload_n C1.1 dX5_has_5 0 rfl rfl ?_
        refine wt_getI C1.1 dX5_has_6 flRX5_30 (tc37 T2) rfl ?_
        refine ww_icmp_ge (x := x1) (y := (M 37 6)) C1.1 (tgt := 16) dX5_has_9 (by decide) (fun hh => ?_) (fun hh => ?_)
        · replace h := h.1 hh
          refine ww_iconst C1.1 (v := (0 : Int32)) dX5_has_16 (by decide) ?_
          refine ww_zret C1.1 dX5_has_17 rfl (Or.inl rfl) ?_
          refine k1 _ _ ?_
          refine ww_if_eq (x := (0 : Int32)) C.1 (tgt := 45) dX2_namable_30 (by decide) (fun _ => ?_) (fun hh => absurd hh (by decide))
          refine ww_iconst C.1 (v := (0 : Int32)) dX2_namable_45 (by decide) ?_
          refine ww_iret C.1 dX2_namable_46 rfl ?_
          exact h
        · replace h := h.2 hh
          refine ww_iconst C1.1 (v := (1 : Int32)) dX5_has_12 (by decide) ?_
          refine ww_goto C1.1 (tgt := 17) dX5_has_13 (by decide) ?_
          refine ww_zret C1.1 dX5_has_17 rfl (Or.inr rfl) ?_
          refine k1 _ _ ?_
          refine ww_if_eq (x := (1 : Int32)) C.1 (tgt := 45) dX2_namable_30 (by decide) (fun hh => absurd hh (by decide)) (fun _ => ?_)
          refine ww_aload_n C.1 dX2_namable_33 0 rfl rfl ?_
          refine wt_getR C.1 dX2_namable_34 flRX2_21 (tc33 T2) rfl (gg33_1 G2) ?_
          refine wt_getR C.1 dX2_namable_37 flRX2_75 (tc37 T2) rfl (gg37_3 G2) ?_
          refine ww_iload_n C.1 dX2_namable_40 1 rfl rfl ?_
          refine wt_iald C.1 dX2_namable_41 (tc41 T2) h.1 ?_
          replace h := h.2
          refine ww_goto C.1 (tgt := 46) dX2_namable_42 (by decide) ?_
          refine ww_iret C.1 dX2_namable_46 rfl ?_
          exact h
  · replace h := h.2 hh
    refine ww_iconst C.1 (v := (1 : Int32)) dX2_namable_8 (by decide) ?_
    refine ww_iload_n C.1 dX2_namable_9 1 rfl rfl ?_
    refine ww_ishl C.1 dX2_namable_10 ?_
    refine ww_iconst C.1 (v := (-1 : Int32)) dX2_namable_11 (by decide) ?_
    refine ww_ixor C.1 dX2_namable_12 ?_
    refine ww_iret C.1 dX2_namable_13 rfl ?_
    exact h
set_option maxHeartbeats 4000000 in
set_option maxRecDepth 20000 in
theorem bX2_leastAtRival_0 {X : CX} {Q : State → Prop} {M : Mem} {G2 : Grf} {T2 : List (Nat × Nat)} {x1 : Int32} (C : Ok0 X mX2_leastAtRival (TTc ++ T2))
    (h : ((x1 < (0 : Int32) → WW X Q 31 [(0, .ref 33), (1, .int x1), (2, .int (1000000 : Int32)), (3, .int (0 : Int32)), (4, .int (0 : Int32))] [] (M, (gj G2), TTc ++ T2)) ∧ (¬ x1 < (0 : Int32) → (((M 37 6) ≤ x1 → WW X Q 31 [(0, .ref 33), (1, .int x1), (2, .int (1000000 : Int32)), (3, .int (0 : Int32)), (4, .int (0 : Int32))] [] (M, (gj G2), TTc ++ T2)) ∧ (¬ (M 37 6) ≤ x1 → (vp_in x1 7 ∧ WW X Q 31 [(0, .ref 33), (1, .int x1), (2, .int (1000000 : Int32)), (3, .int (M 39 x1.toNatClampNeg)), (4, .int (0 : Int32))] [] (M, (gj G2), TTc ++ T2))))))) :
    WW X Q 0 [(0, .ref 33), (1, .int x1)] [] (M, (gj G2), TTc ++ T2) := by
  refine ww_ldc C.1 kcRX2_78 dX2_leastAtRival_0 ?_
  refine ww_istore_n C.1 dX2_leastAtRival_2 rfl (by decide) [1, 2, 0] (L' := [(0, .ref 33), (1, .int x1), (2, .int (1000000 : Int32))]) rfl ?_
  refine ww_aload_n C.1 dX2_leastAtRival_3 0 rfl rfl ?_
  refine wt_getR C.1 dX2_leastAtRival_4 flRX2_21 (tc33 T2) rfl (gg33_1 G2) ?_
  refine ww_iload_n C.1 dX2_leastAtRival_7 1 rfl rfl ?_
  refine ww_vI C fX5_has (And.intro (by decide) (by decide)) mlRX2_72 dX2_leastAtRival_8 (tc37 T2) (by decide) rfl (As := [.int x1]) (rest := []) rfl rfl rfl (Nat.le_of_ble_eq_true rfl) (WpI.of (L0 := [(0, .ref 37), (1, .int x1)]) rfl rfl (Nat.le_of_ble_eq_true rfl) fun X1 Q1 C1 k1 => ?_)
  refine ww_iload_n C1.1 dX5_has_0 1 rfl rfl ?_
  refine ww_if_lt (x := x1) C1.1 (tgt := 16) dX5_has_1 (by decide) (fun hh => ?_) (fun hh => ?_)
  · replace h := h.1 hh
    refine ww_iconst C1.1 (v := (0 : Int32)) dX5_has_16 (by decide) ?_
    refine ww_zret C1.1 dX5_has_17 rfl (Or.inl rfl) ?_
    refine k1 _ _ ?_
    refine ww_if_eq (x := (0 : Int32)) C.1 (tgt := 26) dX2_leastAtRival_11 (by decide) (fun _ => ?_) (fun hh => absurd hh (by decide))
    refine ww_iconst C.1 (v := (0 : Int32)) dX2_leastAtRival_26 (by decide) ?_
    refine ww_istore_n C.1 dX2_leastAtRival_27 rfl (by decide) [1, 2, 3, 0] (L' := [(0, .ref 33), (1, .int x1), (2, .int (1000000 : Int32)), (3, .int (0 : Int32))]) rfl ?_
    refine ww_iconst C.1 (v := (0 : Int32)) dX2_leastAtRival_28 (by decide) ?_
    refine ww_istore C.1 dX2_leastAtRival_29 (by decide) [1, 2, 3, 4, 0] (L' := [(0, .ref 33), (1, .int x1), (2, .int (1000000 : Int32)), (3, .int (0 : Int32)), (4, .int (0 : Int32))]) rfl ?_
    exact h
  · replace h := h.2 hh
    refine ww_iload_n C1.1 dX5_has_4 1 rfl rfl ?_
    refine ww_aload_n C1.1 dX5_has_5 0 rfl rfl ?_
    refine wt_getI C1.1 dX5_has_6 flRX5_30 (tc37 T2) rfl ?_
    refine ww_icmp_ge (x := x1) (y := (M 37 6)) C1.1 (tgt := 16) dX5_has_9 (by decide) (fun hh => ?_) (fun hh => ?_)
    · replace h := h.1 hh
      refine ww_iconst C1.1 (v := (0 : Int32)) dX5_has_16 (by decide) ?_
      refine ww_zret C1.1 dX5_has_17 rfl (Or.inl rfl) ?_
      refine k1 _ _ ?_
      refine ww_if_eq (x := (0 : Int32)) C.1 (tgt := 26) dX2_leastAtRival_11 (by decide) (fun _ => ?_) (fun hh => absurd hh (by decide))
      refine ww_iconst C.1 (v := (0 : Int32)) dX2_leastAtRival_26 (by decide) ?_
      refine ww_istore_n C.1 dX2_leastAtRival_27 rfl (by decide) [1, 2, 3, 0] (L' := [(0, .ref 33), (1, .int x1), (2, .int (1000000 : Int32)), (3, .int (0 : Int32))]) rfl ?_
      refine ww_iconst C.1 (v := (0 : Int32)) dX2_leastAtRival_28 (by decide) ?_
      refine ww_istore C.1 dX2_leastAtRival_29 (by decide) [1, 2, 3, 4, 0] (L' := [(0, .ref 33), (1, .int x1), (2, .int (1000000 : Int32)), (3, .int (0 : Int32)), (4, .int (0 : Int32))]) rfl ?_
      exact h
    · replace h := h.2 hh
      refine ww_iconst C1.1 (v := (1 : Int32)) dX5_has_12 (by decide) ?_
      refine ww_goto C1.1 (tgt := 17) dX5_has_13 (by decide) ?_
      refine ww_zret C1.1 dX5_has_17 rfl (Or.inr rfl) ?_
      refine k1 _ _ ?_
      refine ww_if_eq (x := (1 : Int32)) C.1 (tgt := 26) dX2_leastAtRival_11 (by decide) (fun hh => absurd hh (by decide)) (fun _ => ?_)
      refine ww_aload_n C.1 dX2_leastAtRival_14 0 rfl rfl ?_
      refine wt_getR C.1 dX2_leastAtRival_15 flRX2_21 (tc33 T2) rfl (gg33_1 G2) ?_
      refine wt_getR C.1 dX2_leastAtRival_18 flRX2_79 (tc37 T2) rfl (gg37_1 G2) ?_
      refine ww_iload_n C.1 dX2_leastAtRival_21 1 rfl rfl ?_
      refine wt_iald C.1 dX2_leastAtRival_22 (tc39 T2) h.1 ?_
      replace h := h.2
      refine ww_goto C.1 (tgt := 27) dX2_leastAtRival_23 (by decide) ?_
      refine ww_istore_n C.1 dX2_leastAtRival_27 rfl (by decide) [1, 2, 3, 0] (L' := [(0, .ref 33), (1, .int x1), (2, .int (1000000 : Int32)), (3, .int (M 39 x1.toNatClampNeg))]) rfl ?_
      refine ww_iconst C.1 (v := (0 : Int32)) dX2_leastAtRival_28 (by decide) ?_
      refine ww_istore C.1 dX2_leastAtRival_29 (by decide) [1, 2, 3, 4, 0] (L' := [(0, .ref 33), (1, .int x1), (2, .int (1000000 : Int32)), (3, .int (M 39 x1.toNatClampNeg)), (4, .int (0 : Int32))]) rfl ?_
      exact h
set_option maxHeartbeats 4000000 in
set_option maxRecDepth 20000 in
theorem bX2_leastAtRival_31 {X : CX} {Q : State → Prop} {M : Mem} {G2 : Grf} {T2 : List (Nat × Nat)} {x1 x2 x3 x4 : Int32} (C : Ok0 X mX2_leastAtRival (TTc ++ T2))
    (h : (((M 33 3) ≤ x4 → RetOK X Q (some (.int x2)) (M, (gj G2), TTc ++ T2)) ∧ (¬ (M 33 3) ≤ x4 → (vp_in x4 4 ∧ WpI mX5_harmAt [.ref 37, .int x1, .int x3, .int (M 44 x4.toNatClampNeg)] M (gj G2) (TTc ++ T2) (fun r M' => WW X Q 57 [(0, .ref 33), (1, .int x1), (2, .int x2), (3, .int x3), (4, .int x4)] [.int r, .int x2] (M', (gj G2), TTc ++ T2)))))) :
    WW X Q 31 [(0, .ref 33), (1, .int x1), (2, .int x2), (3, .int x3), (4, .int x4)] [] (M, (gj G2), TTc ++ T2) := by
  refine ww_iload C.1 dX2_leastAtRival_31 4 rfl ?_
  refine ww_aload_n C.1 dX2_leastAtRival_33 0 rfl rfl ?_
  refine wt_getI C.1 dX2_leastAtRival_34 flRX2_36 (tc33 T2) rfl ?_
  refine ww_icmp_ge (x := x4) (y := (M 33 3)) C.1 (tgt := 67) dX2_leastAtRival_37 (by decide) (fun hh => ?_) (fun hh => ?_)
  · replace h := h.1 hh
    refine ww_iload_n C.1 dX2_leastAtRival_67 2 rfl rfl ?_
    refine ww_iret C.1 dX2_leastAtRival_68 rfl ?_
    exact h
  · replace h := h.2 hh
    refine ww_iload_n C.1 dX2_leastAtRival_40 2 rfl rfl ?_
    refine ww_aload_n C.1 dX2_leastAtRival_41 0 rfl rfl ?_
    refine wt_getR C.1 dX2_leastAtRival_42 flRX2_21 (tc33 T2) rfl (gg33_1 G2) ?_
    refine ww_iload_n C.1 dX2_leastAtRival_45 1 rfl rfl ?_
    refine ww_iload_n C.1 dX2_leastAtRival_46 3 rfl rfl ?_
    refine ww_aload_n C.1 dX2_leastAtRival_47 0 rfl rfl ?_
    refine wt_getR C.1 dX2_leastAtRival_48 flRX2_25 (tc33 T2) rfl (gg33_2 G2) ?_
    refine ww_iload C.1 dX2_leastAtRival_51 4 rfl ?_
    refine wt_iald C.1 dX2_leastAtRival_53 (tc44 T2) h.1 ?_
    replace h := h.2
    refine ww_vI C fX5_harmAt (And.intro (by decide) (by decide)) mlRX2_82 dX2_leastAtRival_54 (tc37 T2) (by decide) rfl (As := [.int x1, .int x3, .int (M 44 x4.toNatClampNeg)]) (rest := [.int x2]) rfl rfl rfl (Nat.le_of_ble_eq_true rfl) ?_
    exact h
set_option maxHeartbeats 4000000 in
set_option maxRecDepth 20000 in
theorem bX2_leastAtRival_57 {X : CX} {Q : State → Prop} {M : Mem} {G2 : Grf} {T2 : List (Nat × Nat)} {x1 x2 x3 x4 s0 s1 : Int32} (C : Ok0 X mX2_leastAtRival (TTc ++ T2))
    (h : WpI mJ9_min_7cf53 [.int s0, .int s1] M (gj G2) (TTc ++ T2) (fun r M' => WW X Q 60 [(0, .ref 33), (1, .int x1), (2, .int x2), (3, .int x3), (4, .int x4)] [.int r] (M', (gj G2), TTc ++ T2))) :
    WW X Q 57 [(0, .ref 33), (1, .int x1), (2, .int x2), (3, .int x3), (4, .int x4)] [.int s1, .int s0] (M, (gj G2), TTc ++ T2) := by
  refine ww_sI C fJ9_min_7cf53 (And.intro (by decide) (by decide)) mlRX2_86 dX2_leastAtRival_57 (As := [.int s0, .int s1]) (rest := []) rfl rfl rfl (Nat.le_of_ble_eq_true rfl) ?_
  exact h
set_option maxHeartbeats 4000000 in
set_option maxRecDepth 20000 in
theorem bX2_leastAtRival_60 {X : CX} {Q : State → Prop} {M : Mem} {G2 : Grf} {T2 : List (Nat × Nat)} {x1 x2 x3 x4 s0 : Int32} (C : Ok0 X mX2_leastAtRival (TTc ++ T2))
    (h : WW X Q 31 [(0, .ref 33), (1, .int x1), (2, .int s0), (3, .int x3), (4, .int (x4 + (1 : Int32)))] [] (M, (gj G2), TTc ++ T2)) :
    WW X Q 60 [(0, .ref 33), (1, .int x1), (2, .int x2), (3, .int x3), (4, .int x4)] [.int s0] (M, (gj G2), TTc ++ T2) := by
  refine ww_istore_n C.1 dX2_leastAtRival_60 rfl (by decide) [1, 2, 0, 3, 4] (L' := [(0, .ref 33), (1, .int x1), (2, .int s0), (3, .int x3), (4, .int x4)]) rfl ?_
  refine ww_iinc C.1 (v := (x4 + (1 : Int32))) dX2_leastAtRival_61 4 rfl (by rfl) (by decide) [1, 2, 3, 4, 0] (L' := [(0, .ref 33), (1, .int x1), (2, .int s0), (3, .int x3), (4, .int (x4 + (1 : Int32)))]) rfl ?_
  refine ww_goto C.1 (tgt := 31) dX2_leastAtRival_64 (by decide) ?_
  exact h
set_option maxHeartbeats 4000000 in
set_option maxRecDepth 20000 in
theorem bX3_pass_0 {X : CX} {Q : State → Prop} {M : Mem} {G2 : Grf} {T2 : List (Nat × Nat)} {x2 : Int32} (C : Ok0 X mX3_pass (TTc ++ T2))
    (h : WW X Q 17 [(0, .ref 4), (1, .ref 33), (2, .int x2), (3, .int (0 : Int32))] [] ((wr (wr (wr M 4 5 (0 : Int32)) 4 6 (0 : Int32)) 4 7 (0 : Int32)), (gj G2), TTc ++ T2)) :
    WW X Q 0 [(0, .ref 4), (1, .ref 33), (2, .int x2)] [] (M, (gj G2), TTc ++ T2) := by
  refine ww_aload_n C.1 dX3_pass_0 0 rfl rfl ?_
  refine ww_iconst C.1 (v := (0 : Int32)) dX3_pass_1 (by decide) ?_
  refine wt_putI C.1 dX3_pass_2 flRX3_27 (tc4 T2) rfl ?_
  refine ww_aload_n C.1 dX3_pass_5 0 rfl rfl ?_
  refine ww_iconst C.1 (v := (0 : Int32)) dX3_pass_6 (by decide) ?_
  refine wt_putI C.1 dX3_pass_7 flRX3_31 (tc4 T2) rfl ?_
  refine ww_aload_n C.1 dX3_pass_10 0 rfl rfl ?_
  refine ww_iconst C.1 (v := (0 : Int32)) dX3_pass_11 (by decide) ?_
  refine wt_putI C.1 dX3_pass_12 flRX3_34 (tc4 T2) rfl ?_
  refine ww_iconst C.1 (v := (0 : Int32)) dX3_pass_15 (by decide) ?_
  refine ww_istore_n C.1 dX3_pass_16 rfl (by decide) [1, 2, 3, 0] (L' := [(0, .ref 4), (1, .ref 33), (2, .int x2), (3, .int (0 : Int32))]) rfl ?_
  exact h
set_option maxHeartbeats 4000000 in
set_option maxRecDepth 20000 in
theorem bX3_pass_17 {X : CX} {Q : State → Prop} {M : Mem} {G2 : Grf} {T2 : List (Nat × Nat)} {x2 x3 : Int32} (C : Ok0 X mX3_pass (TTc ++ T2))
    (h : (((7 : Int32) ≤ x3 → WpI mX5_everyone [.ref 37] M (gj G2) (TTc ++ T2) (fun r M' => WW X Q 43 [(0, .ref 4), (1, .ref 33), (2, .int x2), (3, .int x3)] [.int r] (M', (gj G2), TTc ++ T2))) ∧ (¬ (7 : Int32) ≤ x3 → (vp_in x3 7 ∧ WW X Q 17 [(0, .ref 4), (1, .ref 33), (2, .int x2), (3, .int (x3 + (1 : Int32)))] [] ((wr M 9 x3.toNatClampNeg (0 : Int32)), (gj G2), TTc ++ T2))))) :
    WW X Q 17 [(0, .ref 4), (1, .ref 33), (2, .int x2), (3, .int x3)] [] (M, (gj G2), TTc ++ T2) := by
  refine ww_iload_n C.1 dX3_pass_17 3 rfl rfl ?_
  refine ww_bipush C.1 (v := (7 : Int32)) dX3_pass_18 (by decide) ?_
  refine ww_icmp_ge (x := x3) (y := (7 : Int32)) C.1 (tgt := 36) dX3_pass_20 (by decide) (fun hh => ?_) (fun hh => ?_)
  · replace h := h.1 hh
    refine ww_aload_n C.1 dX3_pass_36 1 rfl rfl ?_
    refine wt_getR C.1 dX3_pass_37 flRX3_37 (tc33 T2) rfl (gg33_1 G2) ?_
    refine ww_vI C fX5_everyone (And.intro (by decide) (by decide)) mlRX3_43 dX3_pass_40 (tc37 T2) (by decide) rfl (As := []) (rest := []) rfl rfl rfl (Nat.le_of_ble_eq_true rfl) ?_
    exact h
  · replace h := h.2 hh
    refine ww_aload_n C.1 dX3_pass_23 0 rfl rfl ?_
    refine wt_getR C.1 dX3_pass_24 flRX3_24 (tc4 T2) rfl (gg4_4 G2) ?_
    refine ww_iload_n C.1 dX3_pass_27 3 rfl rfl ?_
    refine ww_iconst C.1 (v := (0 : Int32)) dX3_pass_28 (by decide) ?_
    refine wt_iast C.1 dX3_pass_29 (tc9 T2) h.1 ?_
    replace h := h.2
    refine ww_iinc C.1 (v := (x3 + (1 : Int32))) dX3_pass_30 3 rfl (by rfl) (by decide) [1, 2, 3, 0] (L' := [(0, .ref 4), (1, .ref 33), (2, .int x2), (3, .int (x3 + (1 : Int32)))]) rfl ?_
    refine ww_goto C.1 (tgt := 17) dX3_pass_33 (by decide) ?_
    exact h
set_option maxHeartbeats 4000000 in
set_option maxRecDepth 20000 in
theorem bX3_pass_47 {X : CX} {Q : State → Prop} {M : Mem} {G2 : Grf} {T2 : List (Nat × Nat)} {x2 x3 x4 : Int32} (C : Ok0 X mX3_pass (TTc ++ T2))
    (h : (((30 : Int32) ≤ x4 → RetOK X Q (none) (M, (gj G2), TTc ++ T2)) ∧ (¬ (30 : Int32) ≤ x4 → (((M 4 5) = x3 → RetOK X Q (none) (M, (gj G2), TTc ++ T2)) ∧ (¬ (M 4 5) = x3 → ((x2 ≤ (M 4 6) → RetOK X Q (none) (M, (gj G2), TTc ++ T2)) ∧ (¬ x2 ≤ (M 4 6) → WpV mX3_fillBeds [.ref 4, .ref 33, .int x4] M (gj G2) (TTc ++ T2) (fun M' => WW X Q 77 [(0, .ref 4), (1, .ref 33), (2, .int x2), (3, .int x3), (4, .int x4)] [] (M', (gj G2), TTc ++ T2))))))))) :
    WW X Q 47 [(0, .ref 4), (1, .ref 33), (2, .int x2), (3, .int x3), (4, .int x4)] [] (M, (gj G2), TTc ++ T2) := by
  refine ww_iload C.1 dX3_pass_47 4 rfl ?_
  refine ww_bipush C.1 (v := (30 : Int32)) dX3_pass_49 (by decide) ?_
  refine ww_icmp_ge (x := x4) (y := (30 : Int32)) C.1 (tgt := 83) dX3_pass_51 (by decide) (fun hh => ?_) (fun hh => ?_)
  · replace h := h.1 hh
    refine ww_vret C.1 dX3_pass_83 rfl ?_
    exact h
  · replace h := h.2 hh
    refine ww_aload_n C.1 dX3_pass_54 0 rfl rfl ?_
    refine wt_getI C.1 dX3_pass_55 flRX3_27 (tc4 T2) rfl ?_
    refine ww_iload_n C.1 dX3_pass_58 3 rfl rfl ?_
    refine ww_icmp_eq (x := (M 4 5)) (y := x3) C.1 (tgt := 83) dX3_pass_59 (by decide) (fun hh => ?_) (fun hh => ?_)
    · replace h := h.1 hh
      refine ww_vret C.1 dX3_pass_83 rfl ?_
      exact h
    · replace h := h.2 hh
      refine ww_aload_n C.1 dX3_pass_62 0 rfl rfl ?_
      refine wt_getI C.1 dX3_pass_63 flRX3_31 (tc4 T2) rfl ?_
      refine ww_iload_n C.1 dX3_pass_66 2 rfl rfl ?_
      refine ww_icmp_ge (x := (M 4 6)) (y := x2) C.1 (tgt := 83) dX3_pass_67 (by decide) (fun hh => ?_) (fun hh => ?_)
      · replace h := h.1 hh
        refine ww_vret C.1 dX3_pass_83 rfl ?_
        exact h
      · replace h := h.2 hh
        refine ww_aload_n C.1 dX3_pass_70 0 rfl rfl ?_
        refine ww_aload_n C.1 dX3_pass_71 1 rfl rfl ?_
        refine ww_iload C.1 dX3_pass_72 4 rfl ?_
        refine ww_vV C fX3_fillBeds (And.intro (by decide) (by decide)) mlRX3_49 dX3_pass_74 (tc4 T2) (by decide) rfl (As := [.ref 33, .int x4]) (rest := []) rfl rfl rfl (Nat.le_of_ble_eq_true rfl) ?_
        exact h
set_option maxHeartbeats 4000000 in
set_option maxRecDepth 20000 in
theorem bX3_pass_43 {X : CX} {Q : State → Prop} {M : Mem} {G2 : Grf} {T2 : List (Nat × Nat)} {x2 x3 s0 : Int32} (C : Ok0 X mX3_pass (TTc ++ T2))
    (h : WW X Q 47 [(0, .ref 4), (1, .ref 33), (2, .int x2), (3, .int s0), (4, .int (0 : Int32))] [] (M, (gj G2), TTc ++ T2)) :
    WW X Q 43 [(0, .ref 4), (1, .ref 33), (2, .int x2), (3, .int x3)] [.int s0] (M, (gj G2), TTc ++ T2) := by
  refine ww_istore_n C.1 dX3_pass_43 rfl (by decide) [1, 2, 3, 0] (L' := [(0, .ref 4), (1, .ref 33), (2, .int x2), (3, .int s0)]) rfl ?_
  refine ww_iconst C.1 (v := (0 : Int32)) dX3_pass_44 (by decide) ?_
  refine ww_istore C.1 dX3_pass_45 (by decide) [1, 2, 3, 4, 0] (L' := [(0, .ref 4), (1, .ref 33), (2, .int x2), (3, .int s0), (4, .int (0 : Int32))]) rfl ?_
  exact h
set_option maxHeartbeats 4000000 in
set_option maxRecDepth 20000 in
theorem bX3_pass_77 {X : CX} {Q : State → Prop} {M : Mem} {G2 : Grf} {T2 : List (Nat × Nat)} {x2 x3 x4 : Int32} (C : Ok0 X mX3_pass (TTc ++ T2))
    (h : WW X Q 47 [(0, .ref 4), (1, .ref 33), (2, .int x2), (3, .int x3), (4, .int (x4 + (1 : Int32)))] [] (M, (gj G2), TTc ++ T2)) :
    WW X Q 77 [(0, .ref 4), (1, .ref 33), (2, .int x2), (3, .int x3), (4, .int x4)] [] (M, (gj G2), TTc ++ T2) := by
  refine ww_iinc C.1 (v := (x4 + (1 : Int32))) dX3_pass_77 4 rfl (by rfl) (by decide) [1, 2, 3, 4, 0] (L' := [(0, .ref 4), (1, .ref 33), (2, .int x2), (3, .int x3), (4, .int (x4 + (1 : Int32)))]) rfl ?_
  refine ww_goto C.1 (tgt := 47) dX3_pass_80 (by decide) ?_
  exact h
set_option maxHeartbeats 4000000 in
set_option maxRecDepth 20000 in
theorem bX3_fillBeds_0 {X : CX} {Q : State → Prop} {M : Mem} {G2 : Grf} {T2 : List (Nat × Nat)} {x2 : Int32} (C : Ok0 X mX3_fillBeds (TTc ++ T2))
    (h : WpI mX5_hereBy [.ref 37, .int x2] M (gj G2) (TTc ++ T2) (fun r M' => WW X Q 8 [(0, .ref 4), (1, .ref 33), (2, .int x2)] [.int r] (M', (gj G2), TTc ++ T2))) :
    WW X Q 0 [(0, .ref 4), (1, .ref 33), (2, .int x2)] [] (M, (gj G2), TTc ++ T2) := by
  refine ww_aload_n C.1 dX3_fillBeds_0 1 rfl rfl ?_
  refine wt_getR C.1 dX3_fillBeds_1 flRX3_37 (tc33 T2) rfl (gg33_1 G2) ?_
  refine ww_iload_n C.1 dX3_fillBeds_4 2 rfl rfl ?_
  refine ww_vI C fX5_hereBy (And.intro (by decide) (by decide)) mlRX3_53 dX3_fillBeds_5 (tc37 T2) (by decide) rfl (As := [.int x2]) (rest := []) rfl rfl rfl (Nat.le_of_ble_eq_true rfl) ?_
  exact h
set_option maxHeartbeats 4000000 in
set_option maxRecDepth 20000 in
theorem bX3_fillBeds_19 {X : CX} {Q : State → Prop} {M : Mem} {G2 : Grf} {T2 : List (Nat × Nat)} {x2 x3 x4 : Int32} (C : Ok0 X mX3_fillBeds (TTc ++ T2))
    (h : (((M 34 4) ≤ x4 → RetOK X Q (none) (M, (gj G2), TTc ++ T2)) ∧ (¬ (M 34 4) ≤ x4 → ((x3 = (0 : Int32) → RetOK X Q (none) (M, (gj G2), TTc ++ T2)) ∧ (¬ x3 = (0 : Int32) → WpI mX3_callFirst [.ref 4, .ref 37, .int x3] M (gj G2) (TTc ++ T2) (fun r M' => WW X Q 44 [(0, .ref 4), (1, .ref 33), (2, .int x2), (3, .int x3), (4, .int x4)] [.int r] (M', (gj G2), TTc ++ T2))))))) :
    WW X Q 19 [(0, .ref 4), (1, .ref 33), (2, .int x2), (3, .int x3), (4, .int x4)] [] (M, (gj G2), TTc ++ T2) := by
  refine ww_iload C.1 dX3_fillBeds_19 4 rfl ?_
  refine ww_aload_n C.1 dX3_fillBeds_21 1 rfl rfl ?_
  refine wt_getR C.1 dX3_fillBeds_22 flRX3_57 (tc33 T2) rfl (gg33_0 G2) ?_
  refine wt_getI C.1 dX3_fillBeds_25 flRX3_61 (tc34 T2) rfl ?_
  refine ww_icmp_ge (x := x4) (y := (M 34 4)) C.1 (tgt := 185) dX3_fillBeds_28 (by decide) (fun hh => ?_) (fun hh => ?_)
  · replace h := h.1 hh
    refine ww_vret C.1 dX3_fillBeds_185 rfl ?_
    exact h
  · replace h := h.2 hh
    refine ww_iload_n C.1 dX3_fillBeds_31 3 rfl rfl ?_
    refine ww_if_eq (x := x3) C.1 (tgt := 185) dX3_fillBeds_32 (by decide) (fun hh => ?_) (fun hh => ?_)
    · replace h := h.1 hh
      refine ww_vret C.1 dX3_fillBeds_185 rfl ?_
      exact h
    · replace h := h.2 hh
      refine ww_aload_n C.1 dX3_fillBeds_35 0 rfl rfl ?_
      refine ww_aload_n C.1 dX3_fillBeds_36 1 rfl rfl ?_
      refine wt_getR C.1 dX3_fillBeds_37 flRX3_37 (tc33 T2) rfl (gg33_1 G2) ?_
      refine ww_iload_n C.1 dX3_fillBeds_40 3 rfl rfl ?_
      refine ww_vI C fX3_callFirst (And.intro (by decide) (by decide)) mlRX3_66 dX3_fillBeds_41 (tc4 T2) (by decide) rfl (As := [.ref 37, .int x3]) (rest := []) rfl rfl rfl (Nat.le_of_ble_eq_true rfl) ?_
      exact h
set_option maxHeartbeats 4000000 in
set_option maxRecDepth 20000 in
theorem bX3_fillBeds_8 {X : CX} {Q : State → Prop} {M : Mem} {G2 : Grf} {T2 : List (Nat × Nat)} {x2 s0 : Int32} (C : Ok0 X mX3_fillBeds (TTc ++ T2))
    (h : WW X Q 19 [(0, .ref 4), (1, .ref 33), (2, .int x2), (3, .int (s0 &&& ((M 4 5) ^^^ (-1 : Int32)))), (4, .int (0 : Int32))] [] (M, (gj G2), TTc ++ T2)) :
    WW X Q 8 [(0, .ref 4), (1, .ref 33), (2, .int x2)] [.int s0] (M, (gj G2), TTc ++ T2) := by
  refine ww_aload_n C.1 dX3_fillBeds_8 0 rfl rfl ?_
  refine wt_getI C.1 dX3_fillBeds_9 flRX3_27 (tc4 T2) rfl ?_
  refine ww_iconst C.1 (v := (-1 : Int32)) dX3_fillBeds_12 (by decide) ?_
  refine ww_ixor C.1 dX3_fillBeds_13 ?_
  refine ww_iand C.1 dX3_fillBeds_14 ?_
  refine ww_istore_n C.1 dX3_fillBeds_15 rfl (by decide) [1, 2, 3, 0] (L' := [(0, .ref 4), (1, .ref 33), (2, .int x2), (3, .int (s0 &&& ((M 4 5) ^^^ (-1 : Int32))))]) rfl ?_
  refine ww_iconst C.1 (v := (0 : Int32)) dX3_fillBeds_16 (by decide) ?_
  refine ww_istore C.1 dX3_fillBeds_17 (by decide) [1, 2, 3, 4, 0] (L' := [(0, .ref 4), (1, .ref 33), (2, .int x2), (3, .int (s0 &&& ((M 4 5) ^^^ (-1 : Int32)))), (4, .int (0 : Int32))]) rfl ?_
  exact h
set_option maxHeartbeats 4000000 in
set_option maxRecDepth 20000 in
theorem bX3_fillBeds_44 {X : CX} {Q : State → Prop} {M : Mem} {G2 : Grf} {T2 : List (Nat × Nat)} {x2 x3 x4 s0 : Int32} (C : Ok0 X mX3_fillBeds (TTc ++ T2))
    (h : WpI mX0_lengthOn [.ref 34, .int x4, .int x2] M (gj G2) (TTc ++ T2) (fun r M' => WW X Q 56 [(0, .ref 4), (1, .ref 33), (2, .int x2), (3, .int x3), (4, .int x4), (5, .int s0)] [.int r] (M', (gj G2), TTc ++ T2))) :
    WW X Q 44 [(0, .ref 4), (1, .ref 33), (2, .int x2), (3, .int x3), (4, .int x4)] [.int s0] (M, (gj G2), TTc ++ T2) := by
  refine ww_istore C.1 dX3_fillBeds_44 (by decide) [1, 2, 3, 4, 5, 0] (L' := [(0, .ref 4), (1, .ref 33), (2, .int x2), (3, .int x3), (4, .int x4), (5, .int s0)]) rfl ?_
  refine ww_aload_n C.1 dX3_fillBeds_46 1 rfl rfl ?_
  refine wt_getR C.1 dX3_fillBeds_47 flRX3_57 (tc33 T2) rfl (gg33_0 G2) ?_
  refine ww_iload C.1 dX3_fillBeds_50 4 rfl ?_
  refine ww_iload_n C.1 dX3_fillBeds_52 2 rfl rfl ?_
  refine ww_vI C fX0_lengthOn (And.intro (by decide) (by decide)) mlRX3_70 dX3_fillBeds_53 (tc34 T2) (by decide) rfl (As := [.int x4, .int x2]) (rest := []) rfl rfl rfl (Nat.le_of_ble_eq_true rfl) ?_
  exact h
set_option maxHeartbeats 4000000 in
set_option maxRecDepth 20000 in
theorem bX3_fillBeds_56 {X : CX} {Q : State → Prop} {M : Mem} {G2 : Grf} {T2 : List (Nat × Nat)} {x2 x3 x4 x5 s0 : Int32} (C : Ok0 X mX3_fillBeds (TTc ++ T2))
    (h : WpI mX3_bestOf [.ref 4, .ref 33, .int x5, .int x3, .int x2, .int s0] M (gj G2) (TTc ++ T2) (fun r M' => WW X Q 69 [(0, .ref 4), (1, .ref 33), (2, .int x2), (3, .int x3), (4, .int x4), (5, .int x5), (6, .int s0)] [.int r] (M', (gj G2), TTc ++ T2))) :
    WW X Q 56 [(0, .ref 4), (1, .ref 33), (2, .int x2), (3, .int x3), (4, .int x4), (5, .int x5)] [.int s0] (M, (gj G2), TTc ++ T2) := by
  refine ww_istore C.1 dX3_fillBeds_56 (by decide) [1, 2, 3, 4, 5, 6, 0] (L' := [(0, .ref 4), (1, .ref 33), (2, .int x2), (3, .int x3), (4, .int x4), (5, .int x5), (6, .int s0)]) rfl ?_
  refine ww_aload_n C.1 dX3_fillBeds_58 0 rfl rfl ?_
  refine ww_aload_n C.1 dX3_fillBeds_59 1 rfl rfl ?_
  refine ww_iload C.1 dX3_fillBeds_60 5 rfl ?_
  refine ww_iload_n C.1 dX3_fillBeds_62 3 rfl rfl ?_
  refine ww_iload_n C.1 dX3_fillBeds_63 2 rfl rfl ?_
  refine ww_iload C.1 dX3_fillBeds_64 6 rfl ?_
  refine ww_vI C fX3_bestOf (And.intro (by decide) (by decide)) mlRX3_74 dX3_fillBeds_66 (tc4 T2) (by decide) rfl (As := [.ref 33, .int x5, .int x3, .int x2, .int s0]) (rest := []) rfl rfl rfl (Nat.le_of_ble_eq_true rfl) ?_
  exact h
set_option maxHeartbeats 4000000 in
set_option maxRecDepth 20000 in
theorem bX3_fillBeds_69 {X : CX} {Q : State → Prop} {M : Mem} {G2 : Grf} {T2 : List (Nat × Nat)} {x2 x3 x4 x5 x6 s0 : Int32} (C : Ok0 X mX3_fillBeds (TTc ++ T2))
    (h : ((s0 < (0 : Int32) → RetOK X Q (none) (M, (gj G2), TTc ++ T2)) ∧ (¬ s0 < (0 : Int32) → (((M 37 6) ≤ s0 → RetOK X Q (none) (M, (gj G2), TTc ++ T2)) ∧ (¬ (M 37 6) ≤ s0 → (vp_in s0 7 ∧ (vp_in s0 7 ∧ WpI mX5_harmAt [.ref 37, .int s0, .int x2, .int x6] (wr (wr M 5 s0.toNatClampNeg x2) 6 s0.toNatClampNeg x4) (gj G2) (TTc ++ T2) (fun r M' => WW X Q 119 [(0, .ref 4), (1, .ref 33), (2, .int x2), (3, .int x3), (4, .int x4), (5, .int x5), (6, .int x6), (7, .int s0)] [.int r, .int s0, .ref 7] (M', (gj G2), TTc ++ T2))))))))) :
    WW X Q 69 [(0, .ref 4), (1, .ref 33), (2, .int x2), (3, .int x3), (4, .int x4), (5, .int x5), (6, .int x6)] [.int s0] (M, (gj G2), TTc ++ T2) := by
  refine ww_istore C.1 dX3_fillBeds_69 (by decide) [1, 2, 3, 4, 5, 6, 7, 0] (L' := [(0, .ref 4), (1, .ref 33), (2, .int x2), (3, .int x3), (4, .int x4), (5, .int x5), (6, .int x6), (7, .int s0)]) rfl ?_
  refine ww_aload_n C.1 dX3_fillBeds_71 1 rfl rfl ?_
  refine wt_getR C.1 dX3_fillBeds_72 flRX3_37 (tc33 T2) rfl (gg33_1 G2) ?_
  refine ww_iload C.1 dX3_fillBeds_75 7 rfl ?_
  refine ww_vI C fX5_has (And.intro (by decide) (by decide)) mlRX3_78 dX3_fillBeds_77 (tc37 T2) (by decide) rfl (As := [.int s0]) (rest := []) rfl rfl rfl (Nat.le_of_ble_eq_true rfl) (WpI.of (L0 := [(0, .ref 37), (1, .int s0)]) rfl rfl (Nat.le_of_ble_eq_true rfl) fun X1 Q1 C1 k1 => ?_)
  refine ww_iload_n C1.1 dX5_has_0 1 rfl rfl ?_
  refine ww_if_lt (x := s0) C1.1 (tgt := 16) dX5_has_1 (by decide) (fun hh => ?_) (fun hh => ?_)
  · replace h := h.1 hh
    refine ww_iconst C1.1 (v := (0 : Int32)) dX5_has_16 (by decide) ?_
    refine ww_zret C1.1 dX5_has_17 rfl (Or.inl rfl) ?_
    refine k1 _ _ ?_
    refine ww_if_ne (x := (0 : Int32)) C.1 (tgt := 84) dX3_fillBeds_80 (by decide) (fun hh => absurd hh (by decide)) (fun _ => ?_)
    refine ww_vret C.1 dX3_fillBeds_83 rfl ?_
    exact h
  · replace h := h.2 hh
    refine ww_iload_n C1.1 dX5_has_4 1 rfl rfl ?_
    refine ww_aload_n C1.1 dX5_has_5 0 rfl rfl ?_
    refine wt_getI C1.1 dX5_has_6 flRX5_30 (tc37 T2) rfl ?_
    refine ww_icmp_ge (x := s0) (y := (M 37 6)) C1.1 (tgt := 16) dX5_has_9 (by decide) (fun hh => ?_) (fun hh => ?_)
    · replace h := h.1 hh
      refine ww_iconst C1.1 (v := (0 : Int32)) dX5_has_16 (by decide) ?_
      refine ww_zret C1.1 dX5_has_17 rfl (Or.inl rfl) ?_
      refine k1 _ _ ?_
      refine ww_if_ne (x := (0 : Int32)) C.1 (tgt := 84) dX3_fillBeds_80 (by decide) (fun hh => absurd hh (by decide)) (fun _ => ?_)
      refine ww_vret C.1 dX3_fillBeds_83 rfl ?_
      exact h
    · replace h := h.2 hh
      refine ww_iconst C1.1 (v := (1 : Int32)) dX5_has_12 (by decide) ?_
      refine ww_goto C1.1 (tgt := 17) dX5_has_13 (by decide) ?_
      refine ww_zret C1.1 dX5_has_17 rfl (Or.inr rfl) ?_
      refine k1 _ _ ?_
      refine ww_if_ne (x := (1 : Int32)) C.1 (tgt := 84) dX3_fillBeds_80 (by decide) (fun _ => ?_) (fun hh => absurd hh (by decide))
      refine ww_aload_n C.1 dX3_fillBeds_84 0 rfl rfl ?_
      refine wt_getR C.1 dX3_fillBeds_85 flRX3_9 (tc4 T2) rfl (gg4_0 G2) ?_
      refine ww_iload C.1 dX3_fillBeds_88 7 rfl ?_
      refine ww_iload_n C.1 dX3_fillBeds_90 2 rfl rfl ?_
      refine wt_iast C.1 dX3_fillBeds_91 (tc5 T2) h.1 ?_
      replace h := h.2
      refine ww_aload_n C.1 dX3_fillBeds_92 0 rfl rfl ?_
      refine wt_getR C.1 dX3_fillBeds_93 flRX3_15 (tc4 T2) rfl (gg4_1 G2) ?_
      refine ww_iload C.1 dX3_fillBeds_96 7 rfl ?_
      refine ww_iload C.1 dX3_fillBeds_98 4 rfl ?_
      refine wt_iast C.1 dX3_fillBeds_100 (tc6 T2) h.1 ?_
      replace h := h.2
      refine ww_aload_n C.1 dX3_fillBeds_101 0 rfl rfl ?_
      refine wt_getR C.1 dX3_fillBeds_102 flRX3_18 (tc4 T2) rfl (gg4_2 G2) ?_
      refine ww_iload C.1 dX3_fillBeds_105 7 rfl ?_
      refine ww_aload_n C.1 dX3_fillBeds_107 1 rfl rfl ?_
      refine wt_getR C.1 dX3_fillBeds_108 flRX3_37 (tc33 T2) rfl (gg33_1 G2) ?_
      refine ww_iload C.1 dX3_fillBeds_111 7 rfl ?_
      refine ww_iload_n C.1 dX3_fillBeds_113 2 rfl rfl ?_
      refine ww_iload C.1 dX3_fillBeds_114 6 rfl ?_
      refine ww_vI C fX5_harmAt (And.intro (by decide) (by decide)) mlRX3_82 dX3_fillBeds_116 (tc37 T2) (by decide) rfl (As := [.int s0, .int x2, .int x6]) (rest := [.int s0, .ref 7]) rfl rfl rfl (Nat.le_of_ble_eq_true rfl) ?_
      exact h
set_option maxHeartbeats 4000000 in
set_option maxRecDepth 20000 in
theorem bX3_fillBeds_119 {X : CX} {Q : State → Prop} {M : Mem} {G2 : Grf} {T2 : List (Nat × Nat)} {x2 x3 x4 x5 x6 x7 s1 s2 : Int32} (C : Ok0 X mX3_fillBeds (TTc ++ T2))
    (h : (vp_in s1 7 ∧ ((¬ x7 = x5 → (vp_in x7 7 ∧ (vp_in x7 7 ∧ WW X Q 19 [(0, .ref 4), (1, .ref 33), (2, .int x2), (3, .int (x3 &&& (((1 : Int32) <<< (x7 &&& 31)) ^^^ (-1 : Int32)))), (4, .int (x4 + (1 : Int32)))] [] ((wr (wr (wr (wr M 7 s1.toNatClampNeg s2) 8 x7.toNatClampNeg x5) 4 6 ((M 4 6) + ((upd (M 7) s1.toNatClampNeg s2) x7.toNatClampNeg))) 4 5 ((M 4 5) ||| ((1 : Int32) <<< (x7 &&& 31)))), (gj G2), TTc ++ T2)))) ∧ (x7 = x5 → (vp_in x7 7 ∧ (vp_in x7 7 ∧ WW X Q 19 [(0, .ref 4), (1, .ref 33), (2, .int x2), (3, .int (x3 &&& (((1 : Int32) <<< (x7 &&& 31)) ^^^ (-1 : Int32)))), (4, .int (x4 + (1 : Int32)))] [] ((wr (wr (wr (wr M 7 s1.toNatClampNeg s2) 8 x7.toNatClampNeg (-4 : Int32)) 4 6 ((M 4 6) + ((upd (M 7) s1.toNatClampNeg s2) x7.toNatClampNeg))) 4 5 ((M 4 5) ||| ((1 : Int32) <<< (x7 &&& 31)))), (gj G2), TTc ++ T2))))))) :
    WW X Q 119 [(0, .ref 4), (1, .ref 33), (2, .int x2), (3, .int x3), (4, .int x4), (5, .int x5), (6, .int x6), (7, .int x7)] [.int s2, .int s1, .ref 7] (M, (gj G2), TTc ++ T2) := by
  refine wt_iast C.1 dX3_fillBeds_119 (tc7 T2) h.1 ?_
  replace h := h.2
  refine ww_aload_n C.1 dX3_fillBeds_120 0 rfl rfl ?_
  refine wt_getR C.1 dX3_fillBeds_121 flRX3_21 (tc4 T2) rfl (gg4_3 G2) ?_
  refine ww_iload C.1 dX3_fillBeds_124 7 rfl ?_
  refine ww_iload C.1 dX3_fillBeds_126 7 rfl ?_
  refine ww_iload C.1 dX3_fillBeds_128 5 rfl ?_
  refine ww_icmp_ne (x := x7) (y := x5) C.1 (tgt := 138) dX3_fillBeds_130 (by decide) (fun hh => ?_) (fun hh => ?_)
  · replace h := h.1 hh
    refine ww_iload C.1 dX3_fillBeds_138 5 rfl ?_
    refine wt_iast C.1 dX3_fillBeds_140 (tc8 T2) h.1 ?_
    replace h := h.2
    refine ww_aload_n C.1 dX3_fillBeds_141 0 rfl rfl ?_
    refine ww_dup C.1 dX3_fillBeds_142 rfl ?_
    refine wt_getI C.1 dX3_fillBeds_143 flRX3_31 (tc4 T2) rfl ?_
    refine ww_aload_n C.1 dX3_fillBeds_146 0 rfl rfl ?_
    refine wt_getR C.1 dX3_fillBeds_147 flRX3_18 (tc4 T2) rfl (gg4_2 G2) ?_
    refine ww_iload C.1 dX3_fillBeds_150 7 rfl ?_
    refine wt_iald C.1 dX3_fillBeds_152 (tc7 T2) h.1 ?_
    replace h := h.2
    refine ww_iadd C.1 dX3_fillBeds_153 ?_
    refine wt_putI C.1 dX3_fillBeds_154 flRX3_31 (tc4 T2) rfl ?_
    refine ww_aload_n C.1 dX3_fillBeds_157 0 rfl rfl ?_
    refine ww_dup C.1 dX3_fillBeds_158 rfl ?_
    refine wt_getI C.1 dX3_fillBeds_159 flRX3_27 (tc4 T2) rfl ?_
    refine ww_iconst C.1 (v := (1 : Int32)) dX3_fillBeds_162 (by decide) ?_
    refine ww_iload C.1 dX3_fillBeds_163 7 rfl ?_
    refine ww_ishl C.1 dX3_fillBeds_165 ?_
    refine ww_ior C.1 dX3_fillBeds_166 ?_
    refine wt_putI C.1 dX3_fillBeds_167 flRX3_27 (tc4 T2) rfl ?_
    refine ww_iload_n C.1 dX3_fillBeds_170 3 rfl rfl ?_
    refine ww_iconst C.1 (v := (1 : Int32)) dX3_fillBeds_171 (by decide) ?_
    refine ww_iload C.1 dX3_fillBeds_172 7 rfl ?_
    refine ww_ishl C.1 dX3_fillBeds_174 ?_
    refine ww_iconst C.1 (v := (-1 : Int32)) dX3_fillBeds_175 (by decide) ?_
    refine ww_ixor C.1 dX3_fillBeds_176 ?_
    refine ww_iand C.1 dX3_fillBeds_177 ?_
    refine ww_istore_n C.1 dX3_fillBeds_178 rfl (by decide) [1, 2, 3, 0, 4, 5, 6, 7] (L' := [(0, .ref 4), (1, .ref 33), (2, .int x2), (3, .int (x3 &&& (((1 : Int32) <<< (x7 &&& 31)) ^^^ (-1 : Int32)))), (4, .int x4), (5, .int x5), (6, .int x6), (7, .int x7)]) rfl ?_
    refine ww_iinc C.1 (v := (x4 + (1 : Int32))) dX3_fillBeds_179 4 rfl (by rfl) (by decide) [1, 2, 3, 4, 0, 5, 6, 7] (L' := [(0, .ref 4), (1, .ref 33), (2, .int x2), (3, .int (x3 &&& (((1 : Int32) <<< (x7 &&& 31)) ^^^ (-1 : Int32)))), (4, .int (x4 + (1 : Int32))), (5, .int x5), (6, .int x6), (7, .int x7)]) rfl ?_
    refine ww_goto C.1 (tgt := 19) dX3_fillBeds_182 (by decide) ?_
    refine ww_loc [0, 1, 2, 3, 4] (L' := [(0, .ref 4), (1, .ref 33), (2, .int x2), (3, .int (x3 &&& (((1 : Int32) <<< (x7 &&& 31)) ^^^ (-1 : Int32)))), (4, .int (x4 + (1 : Int32)))]) rfl ?_
    exact h
  · replace h := h.2 hh
    refine ww_bipush C.1 (v := (-4 : Int32)) dX3_fillBeds_133 (by decide) ?_
    refine ww_goto C.1 (tgt := 140) dX3_fillBeds_135 (by decide) ?_
    refine wt_iast C.1 dX3_fillBeds_140 (tc8 T2) h.1 ?_
    replace h := h.2
    refine ww_aload_n C.1 dX3_fillBeds_141 0 rfl rfl ?_
    refine ww_dup C.1 dX3_fillBeds_142 rfl ?_
    refine wt_getI C.1 dX3_fillBeds_143 flRX3_31 (tc4 T2) rfl ?_
    refine ww_aload_n C.1 dX3_fillBeds_146 0 rfl rfl ?_
    refine wt_getR C.1 dX3_fillBeds_147 flRX3_18 (tc4 T2) rfl (gg4_2 G2) ?_
    refine ww_iload C.1 dX3_fillBeds_150 7 rfl ?_
    refine wt_iald C.1 dX3_fillBeds_152 (tc7 T2) h.1 ?_
    replace h := h.2
    refine ww_iadd C.1 dX3_fillBeds_153 ?_
    refine wt_putI C.1 dX3_fillBeds_154 flRX3_31 (tc4 T2) rfl ?_
    refine ww_aload_n C.1 dX3_fillBeds_157 0 rfl rfl ?_
    refine ww_dup C.1 dX3_fillBeds_158 rfl ?_
    refine wt_getI C.1 dX3_fillBeds_159 flRX3_27 (tc4 T2) rfl ?_
    refine ww_iconst C.1 (v := (1 : Int32)) dX3_fillBeds_162 (by decide) ?_
    refine ww_iload C.1 dX3_fillBeds_163 7 rfl ?_
    refine ww_ishl C.1 dX3_fillBeds_165 ?_
    refine ww_ior C.1 dX3_fillBeds_166 ?_
    refine wt_putI C.1 dX3_fillBeds_167 flRX3_27 (tc4 T2) rfl ?_
    refine ww_iload_n C.1 dX3_fillBeds_170 3 rfl rfl ?_
    refine ww_iconst C.1 (v := (1 : Int32)) dX3_fillBeds_171 (by decide) ?_
    refine ww_iload C.1 dX3_fillBeds_172 7 rfl ?_
    refine ww_ishl C.1 dX3_fillBeds_174 ?_
    refine ww_iconst C.1 (v := (-1 : Int32)) dX3_fillBeds_175 (by decide) ?_
    refine ww_ixor C.1 dX3_fillBeds_176 ?_
    refine ww_iand C.1 dX3_fillBeds_177 ?_
    refine ww_istore_n C.1 dX3_fillBeds_178 rfl (by decide) [1, 2, 3, 0, 4, 5, 6, 7] (L' := [(0, .ref 4), (1, .ref 33), (2, .int x2), (3, .int (x3 &&& (((1 : Int32) <<< (x7 &&& 31)) ^^^ (-1 : Int32)))), (4, .int x4), (5, .int x5), (6, .int x6), (7, .int x7)]) rfl ?_
    refine ww_iinc C.1 (v := (x4 + (1 : Int32))) dX3_fillBeds_179 4 rfl (by rfl) (by decide) [1, 2, 3, 4, 0, 5, 6, 7] (L' := [(0, .ref 4), (1, .ref 33), (2, .int x2), (3, .int (x3 &&& (((1 : Int32) <<< (x7 &&& 31)) ^^^ (-1 : Int32)))), (4, .int (x4 + (1 : Int32))), (5, .int x5), (6, .int x6), (7, .int x7)]) rfl ?_
    refine ww_goto C.1 (tgt := 19) dX3_fillBeds_182 (by decide) ?_
    refine ww_loc [0, 1, 2, 3, 4] (L' := [(0, .ref 4), (1, .ref 33), (2, .int x2), (3, .int (x3 &&& (((1 : Int32) <<< (x7 &&& 31)) ^^^ (-1 : Int32)))), (4, .int (x4 + (1 : Int32)))]) rfl ?_
    exact h
set_option maxHeartbeats 4000000 in
set_option maxRecDepth 20000 in
theorem bX3_callFirst_0 {X : CX} {Q : State → Prop} {M : Mem} {G2 : Grf} {T2 : List (Nat × Nat)} {x2 : Int32} (C : Ok0 X mX3_callFirst (TTc ++ T2))
    (h : WW X Q 2 [(0, .ref 4), (1, .ref 37), (2, .int x2), (3, .int (0 : Int32))] [] (M, (gj G2), TTc ++ T2)) :
    WW X Q 0 [(0, .ref 4), (1, .ref 37), (2, .int x2)] [] (M, (gj G2), TTc ++ T2) := by
  refine ww_iconst C.1 (v := (0 : Int32)) dX3_callFirst_0 (by decide) ?_
  refine ww_istore_n C.1 dX3_callFirst_1 rfl (by decide) [1, 2, 3, 0] (L' := [(0, .ref 4), (1, .ref 37), (2, .int x2), (3, .int (0 : Int32))]) rfl ?_
  exact h
set_option maxHeartbeats 4000000 in
set_option maxRecDepth 20000 in
theorem bX3_callFirst_2 {X : CX} {Q : State → Prop} {M : Mem} {G2 : Grf} {T2 : List (Nat × Nat)} {x2 x3 : Int32} (C : Ok0 X mX3_callFirst (TTc ++ T2))
    (h : (((M 37 6) ≤ x3 → RetOK X Q (some (.int (-4 : Int32))) (M, (gj G2), TTc ++ T2)) ∧ (¬ (M 37 6) ≤ x3 → (vp_in x3 7 ∧ (((M 43 x3.toNatClampNeg) < (0 : Int32) → WW X Q 2 [(0, .ref 4), (1, .ref 37), (2, .int x2), (3, .int (x3 + (1 : Int32)))] [] (M, (gj G2), TTc ++ T2)) ∧ (¬ (M 43 x3.toNatClampNeg) < (0 : Int32) → (((M 37 6) ≤ (M 43 x3.toNatClampNeg) → WW X Q 2 [(0, .ref 4), (1, .ref 37), (2, .int x2), (3, .int (x3 + (1 : Int32)))] [] (M, (gj G2), TTc ++ T2)) ∧ (¬ (M 37 6) ≤ (M 43 x3.toNatClampNeg) → ((¬ ((x2 >>> ((M 43 x3.toNatClampNeg) &&& 31)) &&& (1 : Int32)) = (1 : Int32) → WW X Q 2 [(0, .ref 4), (1, .ref 37), (2, .int x2), (3, .int (x3 + (1 : Int32)))] [] (M, (gj G2), TTc ++ T2)) ∧ (((x2 >>> ((M 43 x3.toNatClampNeg) &&& 31)) &&& (1 : Int32)) = (1 : Int32) → WpI mJ9_max_7cf53 [.int (M 4 7), .int x3] M (gj G2) (TTc ++ T2) (fun r M' => WW X Q 45 [(0, .ref 4), (1, .ref 37), (2, .int x2), (3, .int x3), (4, .int (M 43 x3.toNatClampNeg))] [.int r, .ref 4] (M', (gj G2), TTc ++ T2)))))))))))) :
    WW X Q 2 [(0, .ref 4), (1, .ref 37), (2, .int x2), (3, .int x3)] [] (M, (gj G2), TTc ++ T2) := by
  refine ww_iload_n C.1 dX3_callFirst_2 3 rfl rfl ?_
  refine ww_aload_n C.1 dX3_callFirst_3 1 rfl rfl ?_
  refine wt_getI C.1 dX3_callFirst_4 flRX3_86 (tc37 T2) rfl ?_
  refine ww_icmp_ge (x := x3) (y := (M 37 6)) C.1 (tgt := 68) dX3_callFirst_7 (by decide) (fun hh => ?_) (fun hh => ?_)
  · replace h := h.1 hh
    refine ww_bipush C.1 (v := (-4 : Int32)) dX3_callFirst_68 (by decide) ?_
    refine ww_iret C.1 dX3_callFirst_70 rfl ?_
    exact h
  · replace h := h.2 hh
    refine ww_aload_n C.1 dX3_callFirst_10 1 rfl rfl ?_
    refine wt_getR C.1 dX3_callFirst_11 flRX3_89 (tc37 T2) rfl (gg37_5 G2) ?_
    refine ww_iload_n C.1 dX3_callFirst_14 3 rfl rfl ?_
    refine wt_iald C.1 dX3_callFirst_15 (tc43 T2) h.1 ?_
    replace h := h.2
    refine ww_istore C.1 dX3_callFirst_16 (by decide) [1, 2, 3, 4, 0] (L' := [(0, .ref 4), (1, .ref 37), (2, .int x2), (3, .int x3), (4, .int (M 43 x3.toNatClampNeg))]) rfl ?_
    refine ww_aload_n C.1 dX3_callFirst_18 1 rfl rfl ?_
    refine ww_iload C.1 dX3_callFirst_19 4 rfl ?_
    refine ww_vI C fX5_has (And.intro (by decide) (by decide)) mlRX3_78 dX3_callFirst_21 (tc37 T2) (by decide) rfl (As := [.int (M 43 x3.toNatClampNeg)]) (rest := []) rfl rfl rfl (Nat.le_of_ble_eq_true rfl) (WpI.of (L0 := [(0, .ref 37), (1, .int (M 43 x3.toNatClampNeg))]) rfl rfl (Nat.le_of_ble_eq_true rfl) fun X1 Q1 C1 k1 => ?_)
    refine ww_iload_n C1.1 dX5_has_0 1 rfl rfl ?_
    refine ww_if_lt (x := (M 43 x3.toNatClampNeg)) C1.1 (tgt := 16) dX5_has_1 (by decide) (fun hh => ?_) (fun hh => ?_)
    · replace h := h.1 hh
      refine ww_iconst C1.1 (v := (0 : Int32)) dX5_has_16 (by decide) ?_
      refine ww_zret C1.1 dX5_has_17 rfl (Or.inl rfl) ?_
      refine k1 _ _ ?_
      refine ww_if_eq (x := (0 : Int32)) C.1 (tgt := 62) dX3_callFirst_24 (by decide) (fun _ => ?_) (fun hh => absurd hh (by decide))
      refine ww_iinc C.1 (v := (x3 + (1 : Int32))) dX3_callFirst_62 3 rfl (by rfl) (by decide) [1, 2, 3, 0, 4] (L' := [(0, .ref 4), (1, .ref 37), (2, .int x2), (3, .int (x3 + (1 : Int32))), (4, .int (M 43 x3.toNatClampNeg))]) rfl ?_
      refine ww_goto C.1 (tgt := 2) dX3_callFirst_65 (by decide) ?_
      refine ww_loc [0, 1, 2, 3] (L' := [(0, .ref 4), (1, .ref 37), (2, .int x2), (3, .int (x3 + (1 : Int32)))]) rfl ?_
      exact h
    · replace h := h.2 hh
      refine ww_iload_n C1.1 dX5_has_4 1 rfl rfl ?_
      refine ww_aload_n C1.1 dX5_has_5 0 rfl rfl ?_
      refine wt_getI C1.1 dX5_has_6 flRX5_30 (tc37 T2) rfl ?_
      refine ww_icmp_ge (x := (M 43 x3.toNatClampNeg)) (y := (M 37 6)) C1.1 (tgt := 16) dX5_has_9 (by decide) (fun hh => ?_) (fun hh => ?_)
      · replace h := h.1 hh
        refine ww_iconst C1.1 (v := (0 : Int32)) dX5_has_16 (by decide) ?_
        refine ww_zret C1.1 dX5_has_17 rfl (Or.inl rfl) ?_
        refine k1 _ _ ?_
        refine ww_if_eq (x := (0 : Int32)) C.1 (tgt := 62) dX3_callFirst_24 (by decide) (fun _ => ?_) (fun hh => absurd hh (by decide))
        refine ww_iinc C.1 (v := (x3 + (1 : Int32))) dX3_callFirst_62 3 rfl (by rfl) (by decide) [1, 2, 3, 0, 4] (L' := [(0, .ref 4), (1, .ref 37), (2, .int x2), (3, .int (x3 + (1 : Int32))), (4, .int (M 43 x3.toNatClampNeg))]) rfl ?_
        refine ww_goto C.1 (tgt := 2) dX3_callFirst_65 (by decide) ?_
        refine ww_loc [0, 1, 2, 3] (L' := [(0, .ref 4), (1, .ref 37), (2, .int x2), (3, .int (x3 + (1 : Int32)))]) rfl ?_
        exact h
      · replace h := h.2 hh
        refine ww_iconst C1.1 (v := (1 : Int32)) dX5_has_12 (by decide) ?_
        refine ww_goto C1.1 (tgt := 17) dX5_has_13 (by decide) ?_
        refine ww_zret C1.1 dX5_has_17 rfl (Or.inr rfl) ?_
        refine k1 _ _ ?_
        refine ww_if_eq (x := (1 : Int32)) C.1 (tgt := 62) dX3_callFirst_24 (by decide) (fun hh => absurd hh (by decide)) (fun _ => ?_)
        refine ww_iload_n C.1 dX3_callFirst_27 2 rfl rfl ?_
        refine ww_iload C.1 dX3_callFirst_28 4 rfl ?_
        refine ww_nI C fX9_isIn (And.intro (by decide) (by decide)) nlRX3_92 dX3_callFirst_30 (As := [.int x2, .int (M 43 x3.toNatClampNeg)]) (rest := []) rfl rfl rfl (Nat.le_of_ble_eq_true rfl) (WpI.of (L0 := [(0, .int x2), (1, .int (M 43 x3.toNatClampNeg))]) rfl rfl (Nat.le_of_ble_eq_true rfl) fun X2 Q2 C2 k2 => ?_)
        refine ww_iload_n C2.1 dX9_isIn_0 0 rfl rfl ?_
        refine ww_iload_n C2.1 dX9_isIn_1 1 rfl rfl ?_
        refine ww_ishr C2.1 dX9_isIn_2 ?_
        refine ww_iconst C2.1 (v := (1 : Int32)) dX9_isIn_3 (by decide) ?_
        refine ww_iand C2.1 dX9_isIn_4 ?_
        refine ww_iconst C2.1 (v := (1 : Int32)) dX9_isIn_5 (by decide) ?_
        refine ww_icmp_ne (x := ((x2 >>> ((M 43 x3.toNatClampNeg) &&& 31)) &&& (1 : Int32))) (y := (1 : Int32)) C2.1 (tgt := 13) dX9_isIn_6 (by decide) (fun hh => ?_) (fun hh => ?_)
        · replace h := h.1 hh
          refine ww_iconst C2.1 (v := (0 : Int32)) dX9_isIn_13 (by decide) ?_
          refine ww_zret C2.1 dX9_isIn_14 rfl (Or.inl rfl) ?_
          refine k2 _ _ ?_
          refine ww_if_eq (x := (0 : Int32)) C.1 (tgt := 62) dX3_callFirst_33 (by decide) (fun _ => ?_) (fun hh => absurd hh (by decide))
          refine ww_iinc C.1 (v := (x3 + (1 : Int32))) dX3_callFirst_62 3 rfl (by rfl) (by decide) [1, 2, 3, 0, 4] (L' := [(0, .ref 4), (1, .ref 37), (2, .int x2), (3, .int (x3 + (1 : Int32))), (4, .int (M 43 x3.toNatClampNeg))]) rfl ?_
          refine ww_goto C.1 (tgt := 2) dX3_callFirst_65 (by decide) ?_
          refine ww_loc [0, 1, 2, 3] (L' := [(0, .ref 4), (1, .ref 37), (2, .int x2), (3, .int (x3 + (1 : Int32)))]) rfl ?_
          exact h
        · replace h := h.2 hh
          refine ww_iconst C2.1 (v := (1 : Int32)) dX9_isIn_9 (by decide) ?_
          refine ww_goto C2.1 (tgt := 14) dX9_isIn_10 (by decide) ?_
          refine ww_zret C2.1 dX9_isIn_14 rfl (Or.inr rfl) ?_
          refine k2 _ _ ?_
          refine ww_if_eq (x := (1 : Int32)) C.1 (tgt := 62) dX3_callFirst_33 (by decide) (fun hh => absurd hh (by decide)) (fun _ => ?_)
          refine ww_aload_n C.1 dX3_callFirst_36 0 rfl rfl ?_
          refine ww_aload_n C.1 dX3_callFirst_37 0 rfl rfl ?_
          refine wt_getI C.1 dX3_callFirst_38 flRX3_34 (tc4 T2) rfl ?_
          refine ww_iload_n C.1 dX3_callFirst_41 3 rfl rfl ?_
          refine ww_sI C fJ9_max_7cf53 (And.intro (by decide) (by decide)) mlRX3_96 dX3_callFirst_42 (As := [.int (M 4 7), .int x3]) (rest := [.ref 4]) rfl rfl rfl (Nat.le_of_ble_eq_true rfl) ?_
          exact h
set_option maxHeartbeats 4000000 in
set_option maxRecDepth 20000 in
theorem bX3_callFirst_45 {X : CX} {Q : State → Prop} {M : Mem} {G2 : Grf} {T2 : List (Nat × Nat)} {x2 x3 x4 s1 : Int32} (C : Ok0 X mX3_callFirst (TTc ++ T2))
    (h : (vp_in x4 7 ∧ (vp_in x4 7 ∧ RetOK X Q (some (.int x4)) ((wr (wr M 4 7 s1) 9 x4.toNatClampNeg ((M 9 x4.toNatClampNeg) + (1 : Int32))), (gj G2), TTc ++ T2)))) :
    WW X Q 45 [(0, .ref 4), (1, .ref 37), (2, .int x2), (3, .int x3), (4, .int x4)] [.int s1, .ref 4] (M, (gj G2), TTc ++ T2) := by
  refine wt_putI C.1 dX3_callFirst_45 flRX3_34 (tc4 T2) rfl ?_
  refine ww_aload_n C.1 dX3_callFirst_48 0 rfl rfl ?_
  refine wt_getR C.1 dX3_callFirst_49 flRX3_24 (tc4 T2) rfl (gg4_4 G2) ?_
  refine ww_iload C.1 dX3_callFirst_52 4 rfl ?_
  refine ww_dup2 C.1 dX3_callFirst_54 rfl rfl ?_
  refine wt_iald C.1 dX3_callFirst_55 (tc9 T2) h.1 ?_
  replace h := h.2
  refine ww_iconst C.1 (v := (1 : Int32)) dX3_callFirst_56 (by decide) ?_
  refine ww_iadd C.1 dX3_callFirst_57 ?_
  refine wt_iast C.1 dX3_callFirst_58 (tc9 T2) h.1 ?_
  replace h := h.2
  refine ww_iload C.1 dX3_callFirst_59 4 rfl ?_
  refine ww_iret C.1 dX3_callFirst_61 rfl ?_
  exact h
set_option maxHeartbeats 4000000 in
set_option maxRecDepth 20000 in
theorem bX3_bestOf_0 {X : CX} {Q : State → Prop} {M : Mem} {G2 : Grf} {T2 : List (Nat × Nat)} {x2 x3 x4 x5 : Int32} (C : Ok0 X mX3_bestOf (TTc ++ T2))
    (h : WpI mX2_namable [.ref 33, .int x2] M (gj G2) (TTc ++ T2) (fun r M' => WW X Q 5 [(0, .ref 4), (1, .ref 33), (2, .int x2), (3, .int x3), (4, .int x4), (5, .int x5)] [.int r] (M', (gj G2), TTc ++ T2))) :
    WW X Q 0 [(0, .ref 4), (1, .ref 33), (2, .int x2), (3, .int x3), (4, .int x4), (5, .int x5)] [] (M, (gj G2), TTc ++ T2) := by
  refine ww_aload_n C.1 dX3_bestOf_0 1 rfl rfl ?_
  refine ww_iload_n C.1 dX3_bestOf_1 2 rfl rfl ?_
  refine ww_vI C fX2_namable (And.intro (by decide) (by decide)) mlRX3_101 dX3_bestOf_2 (tc33 T2) (by decide) rfl (As := [.int x2]) (rest := []) rfl rfl rfl (Nat.le_of_ble_eq_true rfl) ?_
  exact h
set_option maxHeartbeats 4000000 in
set_option maxRecDepth 20000 in
theorem bX3_bestOf_29 {X : CX} {Q : State → Prop} {M : Mem} {G2 : Grf} {T2 : List (Nat × Nat)} {x2 x3 x4 x5 x6 x7 x8 x9 : Int32} (C : Ok0 X mX3_bestOf (TTc ++ T2))
    (h : (((M 37 6) ≤ x9 → RetOK X Q (some (.int x7)) (M, (gj G2), TTc ++ T2)) ∧ (¬ (M 37 6) ≤ x9 → ((¬ ((x6 >>> (x9 &&& 31)) &&& (1 : Int32)) = (1 : Int32) → WW X Q 29 [(0, .ref 4), (1, .ref 33), (2, .int x2), (3, .int x3), (4, .int x4), (5, .int x5), (6, .int x6), (7, .int x7), (8, .int x8), (9, .int (x9 + (1 : Int32)))] [] (M, (gj G2), TTc ++ T2)) ∧ (((x6 >>> (x9 &&& 31)) &&& (1 : Int32)) = (1 : Int32) → WpI mX5_harmAt [.ref 37, .int x9, .int x4, .int x5] M (gj G2) (TTc ++ T2) (fun r M' => WW X Q 64 [(0, .ref 4), (1, .ref 33), (2, .int x2), (3, .int x3), (4, .int x4), (5, .int x5), (6, .int x6), (7, .int x7), (8, .int x8), (9, .int x9)] [.int r] (M', (gj G2), TTc ++ T2))))))) :
    WW X Q 29 [(0, .ref 4), (1, .ref 33), (2, .int x2), (3, .int x3), (4, .int x4), (5, .int x5), (6, .int x6), (7, .int x7), (8, .int x8), (9, .int x9)] [] (M, (gj G2), TTc ++ T2) := by
  refine ww_iload C.1 dX3_bestOf_29 9 rfl ?_
  refine ww_aload_n C.1 dX3_bestOf_31 1 rfl rfl ?_
  refine wt_getR C.1 dX3_bestOf_32 flRX3_37 (tc33 T2) rfl (gg33_1 G2) ?_
  refine wt_getI C.1 dX3_bestOf_35 flRX3_86 (tc37 T2) rfl ?_
  refine ww_icmp_ge (x := x9) (y := (M 37 6)) C.1 (tgt := 87) dX3_bestOf_38 (by decide) (fun hh => ?_) (fun hh => ?_)
  · replace h := h.1 hh
    refine ww_iload C.1 dX3_bestOf_87 7 rfl ?_
    refine ww_iret C.1 dX3_bestOf_89 rfl ?_
    exact h
  · replace h := h.2 hh
    refine ww_iload C.1 dX3_bestOf_41 6 rfl ?_
    refine ww_iload C.1 dX3_bestOf_43 9 rfl ?_
    refine ww_nI C fX9_isIn (And.intro (by decide) (by decide)) nlRX3_92 dX3_bestOf_45 (As := [.int x6, .int x9]) (rest := []) rfl rfl rfl (Nat.le_of_ble_eq_true rfl) (WpI.of (L0 := [(0, .int x6), (1, .int x9)]) rfl rfl (Nat.le_of_ble_eq_true rfl) fun X1 Q1 C1 k1 => ?_)
    refine ww_iload_n C1.1 dX9_isIn_0 0 rfl rfl ?_
    refine ww_iload_n C1.1 dX9_isIn_1 1 rfl rfl ?_
    refine ww_ishr C1.1 dX9_isIn_2 ?_
    refine ww_iconst C1.1 (v := (1 : Int32)) dX9_isIn_3 (by decide) ?_
    refine ww_iand C1.1 dX9_isIn_4 ?_
    refine ww_iconst C1.1 (v := (1 : Int32)) dX9_isIn_5 (by decide) ?_
    refine ww_icmp_ne (x := ((x6 >>> (x9 &&& 31)) &&& (1 : Int32))) (y := (1 : Int32)) C1.1 (tgt := 13) dX9_isIn_6 (by decide) (fun hh => ?_) (fun hh => ?_)
    · replace h := h.1 hh
      refine ww_iconst C1.1 (v := (0 : Int32)) dX9_isIn_13 (by decide) ?_
      refine ww_zret C1.1 dX9_isIn_14 rfl (Or.inl rfl) ?_
      refine k1 _ _ ?_
      refine ww_if_eq (x := (0 : Int32)) C.1 (tgt := 81) dX3_bestOf_48 (by decide) (fun _ => ?_) (fun hh => absurd hh (by decide))
      refine ww_iinc C.1 (v := (x9 + (1 : Int32))) dX3_bestOf_81 9 rfl (by rfl) (by decide) [1, 2, 3, 4, 5, 6, 7, 8, 9, 0] (L' := [(0, .ref 4), (1, .ref 33), (2, .int x2), (3, .int x3), (4, .int x4), (5, .int x5), (6, .int x6), (7, .int x7), (8, .int x8), (9, .int (x9 + (1 : Int32)))]) rfl ?_
      refine ww_goto C.1 (tgt := 29) dX3_bestOf_84 (by decide) ?_
      exact h
    · replace h := h.2 hh
      refine ww_iconst C1.1 (v := (1 : Int32)) dX9_isIn_9 (by decide) ?_
      refine ww_goto C1.1 (tgt := 14) dX9_isIn_10 (by decide) ?_
      refine ww_zret C1.1 dX9_isIn_14 rfl (Or.inr rfl) ?_
      refine k1 _ _ ?_
      refine ww_if_eq (x := (1 : Int32)) C.1 (tgt := 81) dX3_bestOf_48 (by decide) (fun hh => absurd hh (by decide)) (fun _ => ?_)
      refine ww_aload_n C.1 dX3_bestOf_51 1 rfl rfl ?_
      refine wt_getR C.1 dX3_bestOf_52 flRX3_37 (tc33 T2) rfl (gg33_1 G2) ?_
      refine ww_iload C.1 dX3_bestOf_55 9 rfl ?_
      refine ww_iload C.1 dX3_bestOf_57 4 rfl ?_
      refine ww_iload C.1 dX3_bestOf_59 5 rfl ?_
      refine ww_vI C fX5_harmAt (And.intro (by decide) (by decide)) mlRX3_82 dX3_bestOf_61 (tc37 T2) (by decide) rfl (As := [.int x9, .int x4, .int x5]) (rest := []) rfl rfl rfl (Nat.le_of_ble_eq_true rfl) ?_
      exact h
set_option maxHeartbeats 4000000 in
set_option maxRecDepth 20000 in
theorem bX3_bestOf_5 {X : CX} {Q : State → Prop} {M : Mem} {G2 : Grf} {T2 : List (Nat × Nat)} {x2 x3 x4 x5 s0 : Int32} (C : Ok0 X mX3_bestOf (TTc ++ T2))
    (h : WpI mX5_harmAt [.ref 37, .int x2, .int x4, .int x5] M (gj G2) (TTc ++ T2) (fun r M' => WW X Q 24 [(0, .ref 4), (1, .ref 33), (2, .int x2), (3, .int x3), (4, .int x4), (5, .int x5), (6, .int (s0 &&& x3)), (7, .int x2)] [.int r] (M', (gj G2), TTc ++ T2))) :
    WW X Q 5 [(0, .ref 4), (1, .ref 33), (2, .int x2), (3, .int x3), (4, .int x4), (5, .int x5)] [.int s0] (M, (gj G2), TTc ++ T2) := by
  refine ww_iload_n C.1 dX3_bestOf_5 3 rfl rfl ?_
  refine ww_iand C.1 dX3_bestOf_6 ?_
  refine ww_istore C.1 dX3_bestOf_7 (by decide) [1, 2, 3, 4, 5, 6, 0] (L' := [(0, .ref 4), (1, .ref 33), (2, .int x2), (3, .int x3), (4, .int x4), (5, .int x5), (6, .int (s0 &&& x3))]) rfl ?_
  refine ww_iload_n C.1 dX3_bestOf_9 2 rfl rfl ?_
  refine ww_istore C.1 dX3_bestOf_10 (by decide) [1, 2, 3, 4, 5, 6, 7, 0] (L' := [(0, .ref 4), (1, .ref 33), (2, .int x2), (3, .int x3), (4, .int x4), (5, .int x5), (6, .int (s0 &&& x3)), (7, .int x2)]) rfl ?_
  refine ww_aload_n C.1 dX3_bestOf_12 1 rfl rfl ?_
  refine wt_getR C.1 dX3_bestOf_13 flRX3_37 (tc33 T2) rfl (gg33_1 G2) ?_
  refine ww_iload_n C.1 dX3_bestOf_16 2 rfl rfl ?_
  refine ww_iload C.1 dX3_bestOf_17 4 rfl ?_
  refine ww_iload C.1 dX3_bestOf_19 5 rfl ?_
  refine ww_vI C fX5_harmAt (And.intro (by decide) (by decide)) mlRX3_82 dX3_bestOf_21 (tc37 T2) (by decide) rfl (As := [.int x2, .int x4, .int x5]) (rest := []) rfl rfl rfl (Nat.le_of_ble_eq_true rfl) ?_
  exact h
set_option maxHeartbeats 4000000 in
set_option maxRecDepth 20000 in
theorem bX3_bestOf_64 {X : CX} {Q : State → Prop} {M : Mem} {G2 : Grf} {T2 : List (Nat × Nat)} {x2 x3 x4 x5 x6 x7 x8 x9 s0 : Int32} (C : Ok0 X mX3_bestOf (TTc ++ T2))
    (h : ((x8 ≤ s0 → WW X Q 29 [(0, .ref 4), (1, .ref 33), (2, .int x2), (3, .int x3), (4, .int x4), (5, .int x5), (6, .int x6), (7, .int x7), (8, .int x8), (9, .int (x9 + (1 : Int32)))] [] (M, (gj G2), TTc ++ T2)) ∧ (¬ x8 ≤ s0 → WW X Q 29 [(0, .ref 4), (1, .ref 33), (2, .int x2), (3, .int x3), (4, .int x4), (5, .int x5), (6, .int x6), (7, .int x9), (8, .int s0), (9, .int (x9 + (1 : Int32)))] [] (M, (gj G2), TTc ++ T2)))) :
    WW X Q 64 [(0, .ref 4), (1, .ref 33), (2, .int x2), (3, .int x3), (4, .int x4), (5, .int x5), (6, .int x6), (7, .int x7), (8, .int x8), (9, .int x9)] [.int s0] (M, (gj G2), TTc ++ T2) := by
  refine ww_istore C.1 dX3_bestOf_64 (by decide) [1, 2, 3, 4, 5, 6, 7, 8, 9, 10, 0] (L' := [(0, .ref 4), (1, .ref 33), (2, .int x2), (3, .int x3), (4, .int x4), (5, .int x5), (6, .int x6), (7, .int x7), (8, .int x8), (9, .int x9), (10, .int s0)]) rfl ?_
  refine ww_iload C.1 dX3_bestOf_66 10 rfl ?_
  refine ww_iload C.1 dX3_bestOf_68 8 rfl ?_
  refine ww_icmp_ge (x := s0) (y := x8) C.1 (tgt := 81) dX3_bestOf_70 (by decide) (fun hh => ?_) (fun hh => ?_)
  · replace h := h.1 hh
    refine ww_iinc C.1 (v := (x9 + (1 : Int32))) dX3_bestOf_81 9 rfl (by rfl) (by decide) [1, 2, 3, 4, 5, 6, 7, 8, 9, 0, 10] (L' := [(0, .ref 4), (1, .ref 33), (2, .int x2), (3, .int x3), (4, .int x4), (5, .int x5), (6, .int x6), (7, .int x7), (8, .int x8), (9, .int (x9 + (1 : Int32))), (10, .int s0)]) rfl ?_
    refine ww_goto C.1 (tgt := 29) dX3_bestOf_84 (by decide) ?_
    refine ww_loc [0, 1, 2, 3, 4, 5, 6, 7, 8, 9] (L' := [(0, .ref 4), (1, .ref 33), (2, .int x2), (3, .int x3), (4, .int x4), (5, .int x5), (6, .int x6), (7, .int x7), (8, .int x8), (9, .int (x9 + (1 : Int32)))]) rfl ?_
    exact h
  · replace h := h.2 hh
    refine ww_iload C.1 dX3_bestOf_73 10 rfl ?_
    refine ww_istore C.1 dX3_bestOf_75 (by decide) [1, 2, 3, 4, 5, 6, 7, 8, 0, 9, 10] (L' := [(0, .ref 4), (1, .ref 33), (2, .int x2), (3, .int x3), (4, .int x4), (5, .int x5), (6, .int x6), (7, .int x7), (8, .int s0), (9, .int x9), (10, .int s0)]) rfl ?_
    refine ww_iload C.1 dX3_bestOf_77 9 rfl ?_
    refine ww_istore C.1 dX3_bestOf_79 (by decide) [1, 2, 3, 4, 5, 6, 7, 0, 8, 9, 10] (L' := [(0, .ref 4), (1, .ref 33), (2, .int x2), (3, .int x3), (4, .int x4), (5, .int x5), (6, .int x6), (7, .int x9), (8, .int s0), (9, .int x9), (10, .int s0)]) rfl ?_
    refine ww_iinc C.1 (v := (x9 + (1 : Int32))) dX3_bestOf_81 9 rfl (by rfl) (by decide) [1, 2, 3, 4, 5, 6, 7, 8, 9, 0, 10] (L' := [(0, .ref 4), (1, .ref 33), (2, .int x2), (3, .int x3), (4, .int x4), (5, .int x5), (6, .int x6), (7, .int x9), (8, .int s0), (9, .int (x9 + (1 : Int32))), (10, .int s0)]) rfl ?_
    refine ww_goto C.1 (tgt := 29) dX3_bestOf_84 (by decide) ?_
    refine ww_loc [0, 1, 2, 3, 4, 5, 6, 7, 8, 9] (L' := [(0, .ref 4), (1, .ref 33), (2, .int x2), (3, .int x3), (4, .int x4), (5, .int x5), (6, .int x6), (7, .int x9), (8, .int s0), (9, .int (x9 + (1 : Int32)))]) rfl ?_
    exact h
set_option maxHeartbeats 4000000 in
set_option maxRecDepth 20000 in
theorem bX3_bestOf_24 {X : CX} {Q : State → Prop} {M : Mem} {G2 : Grf} {T2 : List (Nat × Nat)} {x2 x3 x4 x5 x6 x7 s0 : Int32} (C : Ok0 X mX3_bestOf (TTc ++ T2))
    (h : WW X Q 29 [(0, .ref 4), (1, .ref 33), (2, .int x2), (3, .int x3), (4, .int x4), (5, .int x5), (6, .int x6), (7, .int x7), (8, .int s0), (9, .int (0 : Int32))] [] (M, (gj G2), TTc ++ T2)) :
    WW X Q 24 [(0, .ref 4), (1, .ref 33), (2, .int x2), (3, .int x3), (4, .int x4), (5, .int x5), (6, .int x6), (7, .int x7)] [.int s0] (M, (gj G2), TTc ++ T2) := by
  refine ww_istore C.1 dX3_bestOf_24 (by decide) [1, 2, 3, 4, 5, 6, 7, 8, 0] (L' := [(0, .ref 4), (1, .ref 33), (2, .int x2), (3, .int x3), (4, .int x4), (5, .int x5), (6, .int x6), (7, .int x7), (8, .int s0)]) rfl ?_
  refine ww_iconst C.1 (v := (0 : Int32)) dX3_bestOf_26 (by decide) ?_
  refine ww_istore C.1 dX3_bestOf_27 (by decide) [1, 2, 3, 4, 5, 6, 7, 8, 9, 0] (L' := [(0, .ref 4), (1, .ref 33), (2, .int x2), (3, .int x3), (4, .int x4), (5, .int x5), (6, .int x6), (7, .int x7), (8, .int s0), (9, .int (0 : Int32))]) rfl ?_
  exact h
set_option maxHeartbeats 4000000 in
set_option maxRecDepth 20000 in
theorem bX3_total_0 {X : CX} {Q : State → Prop} {M : Mem} {G2 : Grf} {T2 : List (Nat × Nat)} (C : Ok0 X mX3_total (TTc ++ T2))
    (h : WpI mJ6_bitCount_0f7a4 [.int (M 4 5)] M (gj G2) (TTc ++ T2) (fun r M' => WW X Q 17 [(0, .ref 4), (1, .ref 37)] [.int r, .int (M 37 6), .int (50 : Int32), .int (M 4 6)] (M', (gj G2), TTc ++ T2))) :
    WW X Q 0 [(0, .ref 4), (1, .ref 37)] [] (M, (gj G2), TTc ++ T2) := by
  refine ww_aload_n C.1 dX3_total_0 0 rfl rfl ?_
  refine wt_getI C.1 dX3_total_1 flRX3_31 (tc4 T2) rfl ?_
  refine ww_bipush C.1 (v := (50 : Int32)) dX3_total_4 (by decide) ?_
  refine ww_aload_n C.1 dX3_total_6 1 rfl rfl ?_
  refine wt_getI C.1 dX3_total_7 flRX3_86 (tc37 T2) rfl ?_
  refine ww_aload_n C.1 dX3_total_10 0 rfl rfl ?_
  refine wt_getI C.1 dX3_total_11 flRX3_27 (tc4 T2) rfl ?_
  refine ww_sI C fJ6_bitCount_0f7a4 (And.intro (by decide) (by decide)) mlRX3_104 dX3_total_14 (As := [.int (M 4 5)]) (rest := [.int (M 37 6), .int (50 : Int32), .int (M 4 6)]) rfl rfl rfl (Nat.le_of_ble_eq_true rfl) ?_
  exact h
set_option maxHeartbeats 4000000 in
set_option maxRecDepth 20000 in
theorem bX3_total_17 {X : CX} {Q : State → Prop} {M : Mem} {G2 : Grf} {T2 : List (Nat × Nat)} {s0 s1 s2 s3 : Int32} (C : Ok0 X mX3_total (TTc ++ T2))
    (h : RetOK X Q (some (.int (s0 + (s1 * (s2 - s3))))) (M, (gj G2), TTc ++ T2)) :
    WW X Q 17 [(0, .ref 4), (1, .ref 37)] [.int s3, .int s2, .int s1, .int s0] (M, (gj G2), TTc ++ T2) := by
  refine ww_isub C.1 dX3_total_17 ?_
  refine ww_imul C.1 dX3_total_18 ?_
  refine ww_iadd C.1 dX3_total_19 ?_
  refine ww_iret C.1 dX3_total_20 rfl ?_
  exact h
set_option maxHeartbeats 4000000 in
set_option maxRecDepth 20000 in
theorem bX3_unharmed_0 {X : CX} {Q : State → Prop} {M : Mem} {G2 : Grf} {T2 : List (Nat × Nat)} (C : Ok0 X mX3_unharmed (TTc ++ T2))
    (h : WW X Q 4 [(0, .ref 4), (1, .ref 37), (2, .int (0 : Int32)), (3, .int (0 : Int32))] [] (M, (gj G2), TTc ++ T2)) :
    WW X Q 0 [(0, .ref 4), (1, .ref 37)] [] (M, (gj G2), TTc ++ T2) := by
  refine ww_iconst C.1 (v := (0 : Int32)) dX3_unharmed_0 (by decide) ?_
  refine ww_istore_n C.1 dX3_unharmed_1 rfl (by decide) [1, 2, 0] (L' := [(0, .ref 4), (1, .ref 37), (2, .int (0 : Int32))]) rfl ?_
  refine ww_iconst C.1 (v := (0 : Int32)) dX3_unharmed_2 (by decide) ?_
  refine ww_istore_n C.1 dX3_unharmed_3 rfl (by decide) [1, 2, 3, 0] (L' := [(0, .ref 4), (1, .ref 37), (2, .int (0 : Int32)), (3, .int (0 : Int32))]) rfl ?_
  exact h
set_option maxHeartbeats 4000000 in
set_option maxRecDepth 20000 in
theorem bX3_unharmed_4 {X : CX} {Q : State → Prop} {M : Mem} {G2 : Grf} {T2 : List (Nat × Nat)} {x2 x3 : Int32} (C : Ok0 X mX3_unharmed (TTc ++ T2))
    (h : (((M 37 6) ≤ x3 → RetOK X Q (some (.int x2)) (M, (gj G2), TTc ++ T2)) ∧ (¬ (M 37 6) ≤ x3 → ((¬ (((M 4 5) >>> (x3 &&& 31)) &&& (1 : Int32)) = (1 : Int32) → WW X Q 4 [(0, .ref 4), (1, .ref 37), (2, .int x2), (3, .int (x3 + (1 : Int32)))] [] (M, (gj G2), TTc ++ T2)) ∧ ((((M 4 5) >>> (x3 &&& 31)) &&& (1 : Int32)) = (1 : Int32) → (vp_in x3 7 ∧ ((¬ (M 7 x3.toNatClampNeg) = (0 : Int32) → WW X Q 4 [(0, .ref 4), (1, .ref 37), (2, .int x2), (3, .int (x3 + (1 : Int32)))] [] (M, (gj G2), TTc ++ T2)) ∧ ((M 7 x3.toNatClampNeg) = (0 : Int32) → WW X Q 4 [(0, .ref 4), (1, .ref 37), (2, .int (x2 + (1 : Int32))), (3, .int (x3 + (1 : Int32)))] [] (M, (gj G2), TTc ++ T2))))))))) :
    WW X Q 4 [(0, .ref 4), (1, .ref 37), (2, .int x2), (3, .int x3)] [] (M, (gj G2), TTc ++ T2) := by
  refine ww_iload_n C.1 dX3_unharmed_4 3 rfl rfl ?_
  refine ww_aload_n C.1 dX3_unharmed_5 1 rfl rfl ?_
  refine wt_getI C.1 dX3_unharmed_6 flRX3_86 (tc37 T2) rfl ?_
  refine ww_icmp_ge (x := x3) (y := (M 37 6)) C.1 (tgt := 38) dX3_unharmed_9 (by decide) (fun hh => ?_) (fun hh => ?_)
  · replace h := h.1 hh
    refine ww_iload_n C.1 dX3_unharmed_38 2 rfl rfl ?_
    refine ww_iret C.1 dX3_unharmed_39 rfl ?_
    exact h
  · replace h := h.2 hh
    refine ww_aload_n C.1 dX3_unharmed_12 0 rfl rfl ?_
    refine ww_iload_n C.1 dX3_unharmed_13 3 rfl rfl ?_
    refine ww_vI C fX3_hasLain (And.intro (by decide) (by decide)) mlRX3_109 dX3_unharmed_14 (tc4 T2) (by decide) rfl (As := [.int x3]) (rest := []) rfl rfl rfl (Nat.le_of_ble_eq_true rfl) (WpI.of (L0 := [(0, .ref 4), (1, .int x3)]) rfl rfl (Nat.le_of_ble_eq_true rfl) fun X1 Q1 C1 k1 => ?_)
    refine ww_aload_n C1.1 dX3_hasLain_0 0 rfl rfl ?_
    refine wt_getI C1.1 dX3_hasLain_1 flRX3_27 (tc4 T2) rfl ?_
    refine ww_iload_n C1.1 dX3_hasLain_4 1 rfl rfl ?_
    refine ww_nI C1 fX9_isIn (And.intro (by decide) (by decide)) nlRX3_92 dX3_hasLain_5 (As := [.int (M 4 5), .int x3]) (rest := []) rfl rfl rfl (Nat.le_of_ble_eq_true rfl) (WpI.of (L0 := [(0, .int (M 4 5)), (1, .int x3)]) rfl rfl (Nat.le_of_ble_eq_true rfl) fun X2 Q2 C2 k2 => ?_)
    refine ww_iload_n C2.1 dX9_isIn_0 0 rfl rfl ?_
    refine ww_iload_n C2.1 dX9_isIn_1 1 rfl rfl ?_
    refine ww_ishr C2.1 dX9_isIn_2 ?_
    refine ww_iconst C2.1 (v := (1 : Int32)) dX9_isIn_3 (by decide) ?_
    refine ww_iand C2.1 dX9_isIn_4 ?_
    refine ww_iconst C2.1 (v := (1 : Int32)) dX9_isIn_5 (by decide) ?_
    refine ww_icmp_ne (x := (((M 4 5) >>> (x3 &&& 31)) &&& (1 : Int32))) (y := (1 : Int32)) C2.1 (tgt := 13) dX9_isIn_6 (by decide) (fun hh => ?_) (fun hh => ?_)
    · replace h := h.1 hh
      refine ww_iconst C2.1 (v := (0 : Int32)) dX9_isIn_13 (by decide) ?_
      refine ww_zret C2.1 dX9_isIn_14 rfl (Or.inl rfl) ?_
      refine k2 _ _ ?_
      refine ww_zret C1.1 dX3_hasLain_8 rfl (Or.inl rfl) ?_
      refine k1 _ _ ?_
      refine ww_if_eq (x := (0 : Int32)) C.1 (tgt := 32) dX3_unharmed_17 (by decide) (fun _ => ?_) (fun hh => absurd hh (by decide))
      refine ww_iinc C.1 (v := (x3 + (1 : Int32))) dX3_unharmed_32 3 rfl (by rfl) (by decide) [1, 2, 3, 0] (L' := [(0, .ref 4), (1, .ref 37), (2, .int x2), (3, .int (x3 + (1 : Int32)))]) rfl ?_
      refine ww_goto C.1 (tgt := 4) dX3_unharmed_35 (by decide) ?_
      exact h
    · replace h := h.2 hh
      refine ww_iconst C2.1 (v := (1 : Int32)) dX9_isIn_9 (by decide) ?_
      refine ww_goto C2.1 (tgt := 14) dX9_isIn_10 (by decide) ?_
      refine ww_zret C2.1 dX9_isIn_14 rfl (Or.inr rfl) ?_
      refine k2 _ _ ?_
      refine ww_zret C1.1 dX3_hasLain_8 rfl (Or.inr rfl) ?_
      refine k1 _ _ ?_
      refine ww_if_eq (x := (1 : Int32)) C.1 (tgt := 32) dX3_unharmed_17 (by decide) (fun hh => absurd hh (by decide)) (fun _ => ?_)
      refine ww_aload_n C.1 dX3_unharmed_20 0 rfl rfl ?_
      refine wt_getR C.1 dX3_unharmed_21 flRX3_18 (tc4 T2) rfl (gg4_2 G2) ?_
      refine ww_iload_n C.1 dX3_unharmed_24 3 rfl rfl ?_
      refine wt_iald C.1 dX3_unharmed_25 (tc7 T2) h.1 ?_
      replace h := h.2
      refine ww_if_ne (x := (M 7 x3.toNatClampNeg)) C.1 (tgt := 32) dX3_unharmed_26 (by decide) (fun hh => ?_) (fun hh => ?_)
      · replace h := h.1 hh
        refine ww_iinc C.1 (v := (x3 + (1 : Int32))) dX3_unharmed_32 3 rfl (by rfl) (by decide) [1, 2, 3, 0] (L' := [(0, .ref 4), (1, .ref 37), (2, .int x2), (3, .int (x3 + (1 : Int32)))]) rfl ?_
        refine ww_goto C.1 (tgt := 4) dX3_unharmed_35 (by decide) ?_
        exact h
      · replace h := h.2 hh
        refine ww_iinc C.1 (v := (x2 + (1 : Int32))) dX3_unharmed_29 2 rfl (by rfl) (by decide) [1, 2, 0, 3] (L' := [(0, .ref 4), (1, .ref 37), (2, .int (x2 + (1 : Int32))), (3, .int x3)]) rfl ?_
        refine ww_iinc C.1 (v := (x3 + (1 : Int32))) dX3_unharmed_32 3 rfl (by rfl) (by decide) [1, 2, 3, 0] (L' := [(0, .ref 4), (1, .ref 37), (2, .int (x2 + (1 : Int32))), (3, .int (x3 + (1 : Int32)))]) rfl ?_
        refine ww_goto C.1 (tgt := 4) dX3_unharmed_35 (by decide) ?_
        exact h
set_option maxHeartbeats 4000000 in
set_option maxRecDepth 20000 in
theorem bX3_greatest_0 {X : CX} {Q : State → Prop} {M : Mem} {G2 : Grf} {T2 : List (Nat × Nat)} (C : Ok0 X mX3_greatest (TTc ++ T2))
    (h : WW X Q 4 [(0, .ref 4), (1, .ref 37), (2, .int (0 : Int32)), (3, .int (0 : Int32))] [] (M, (gj G2), TTc ++ T2)) :
    WW X Q 0 [(0, .ref 4), (1, .ref 37)] [] (M, (gj G2), TTc ++ T2) := by
  refine ww_iconst C.1 (v := (0 : Int32)) dX3_greatest_0 (by decide) ?_
  refine ww_istore_n C.1 dX3_greatest_1 rfl (by decide) [1, 2, 0] (L' := [(0, .ref 4), (1, .ref 37), (2, .int (0 : Int32))]) rfl ?_
  refine ww_iconst C.1 (v := (0 : Int32)) dX3_greatest_2 (by decide) ?_
  refine ww_istore_n C.1 dX3_greatest_3 rfl (by decide) [1, 2, 3, 0] (L' := [(0, .ref 4), (1, .ref 37), (2, .int (0 : Int32)), (3, .int (0 : Int32))]) rfl ?_
  exact h
set_option maxHeartbeats 4000000 in
set_option maxRecDepth 20000 in
theorem bX3_greatest_4 {X : CX} {Q : State → Prop} {M : Mem} {G2 : Grf} {T2 : List (Nat × Nat)} {x2 x3 : Int32} (C : Ok0 X mX3_greatest (TTc ++ T2))
    (h : (((M 37 6) ≤ x3 → RetOK X Q (some (.int x2)) (M, (gj G2), TTc ++ T2)) ∧ (¬ (M 37 6) ≤ x3 → ((¬ (((M 4 5) >>> (x3 &&& 31)) &&& (1 : Int32)) = (1 : Int32) → WW X Q 4 [(0, .ref 4), (1, .ref 37), (2, .int x2), (3, .int (x3 + (1 : Int32)))] [] (M, (gj G2), TTc ++ T2)) ∧ ((((M 4 5) >>> (x3 &&& 31)) &&& (1 : Int32)) = (1 : Int32) → (vp_in x3 7 ∧ WpI mJ9_max_7cf53 [.int x2, .int (M 7 x3.toNatClampNeg)] M (gj G2) (TTc ++ T2) (fun r M' => WW X Q 30 [(0, .ref 4), (1, .ref 37), (2, .int x2), (3, .int x3)] [.int r] (M', (gj G2), TTc ++ T2)))))))) :
    WW X Q 4 [(0, .ref 4), (1, .ref 37), (2, .int x2), (3, .int x3)] [] (M, (gj G2), TTc ++ T2) := by
  refine ww_iload_n C.1 dX3_greatest_4 3 rfl rfl ?_
  refine ww_aload_n C.1 dX3_greatest_5 1 rfl rfl ?_
  refine wt_getI C.1 dX3_greatest_6 flRX3_86 (tc37 T2) rfl ?_
  refine ww_icmp_ge (x := x3) (y := (M 37 6)) C.1 (tgt := 37) dX3_greatest_9 (by decide) (fun hh => ?_) (fun hh => ?_)
  · replace h := h.1 hh
    refine ww_iload_n C.1 dX3_greatest_37 2 rfl rfl ?_
    refine ww_iret C.1 dX3_greatest_38 rfl ?_
    exact h
  · replace h := h.2 hh
    refine ww_aload_n C.1 dX3_greatest_12 0 rfl rfl ?_
    refine ww_iload_n C.1 dX3_greatest_13 3 rfl rfl ?_
    refine ww_vI C fX3_hasLain (And.intro (by decide) (by decide)) mlRX3_109 dX3_greatest_14 (tc4 T2) (by decide) rfl (As := [.int x3]) (rest := []) rfl rfl rfl (Nat.le_of_ble_eq_true rfl) (WpI.of (L0 := [(0, .ref 4), (1, .int x3)]) rfl rfl (Nat.le_of_ble_eq_true rfl) fun X1 Q1 C1 k1 => ?_)
    refine ww_aload_n C1.1 dX3_hasLain_0 0 rfl rfl ?_
    refine wt_getI C1.1 dX3_hasLain_1 flRX3_27 (tc4 T2) rfl ?_
    refine ww_iload_n C1.1 dX3_hasLain_4 1 rfl rfl ?_
    refine ww_nI C1 fX9_isIn (And.intro (by decide) (by decide)) nlRX3_92 dX3_hasLain_5 (As := [.int (M 4 5), .int x3]) (rest := []) rfl rfl rfl (Nat.le_of_ble_eq_true rfl) (WpI.of (L0 := [(0, .int (M 4 5)), (1, .int x3)]) rfl rfl (Nat.le_of_ble_eq_true rfl) fun X2 Q2 C2 k2 => ?_)
    refine ww_iload_n C2.1 dX9_isIn_0 0 rfl rfl ?_
    refine ww_iload_n C2.1 dX9_isIn_1 1 rfl rfl ?_
    refine ww_ishr C2.1 dX9_isIn_2 ?_
    refine ww_iconst C2.1 (v := (1 : Int32)) dX9_isIn_3 (by decide) ?_
    refine ww_iand C2.1 dX9_isIn_4 ?_
    refine ww_iconst C2.1 (v := (1 : Int32)) dX9_isIn_5 (by decide) ?_
    refine ww_icmp_ne (x := (((M 4 5) >>> (x3 &&& 31)) &&& (1 : Int32))) (y := (1 : Int32)) C2.1 (tgt := 13) dX9_isIn_6 (by decide) (fun hh => ?_) (fun hh => ?_)
    · replace h := h.1 hh
      refine ww_iconst C2.1 (v := (0 : Int32)) dX9_isIn_13 (by decide) ?_
      refine ww_zret C2.1 dX9_isIn_14 rfl (Or.inl rfl) ?_
      refine k2 _ _ ?_
      refine ww_zret C1.1 dX3_hasLain_8 rfl (Or.inl rfl) ?_
      refine k1 _ _ ?_
      refine ww_if_eq (x := (0 : Int32)) C.1 (tgt := 31) dX3_greatest_17 (by decide) (fun _ => ?_) (fun hh => absurd hh (by decide))
      refine ww_iinc C.1 (v := (x3 + (1 : Int32))) dX3_greatest_31 3 rfl (by rfl) (by decide) [1, 2, 3, 0] (L' := [(0, .ref 4), (1, .ref 37), (2, .int x2), (3, .int (x3 + (1 : Int32)))]) rfl ?_
      refine ww_goto C.1 (tgt := 4) dX3_greatest_34 (by decide) ?_
      exact h
    · replace h := h.2 hh
      refine ww_iconst C2.1 (v := (1 : Int32)) dX9_isIn_9 (by decide) ?_
      refine ww_goto C2.1 (tgt := 14) dX9_isIn_10 (by decide) ?_
      refine ww_zret C2.1 dX9_isIn_14 rfl (Or.inr rfl) ?_
      refine k2 _ _ ?_
      refine ww_zret C1.1 dX3_hasLain_8 rfl (Or.inr rfl) ?_
      refine k1 _ _ ?_
      refine ww_if_eq (x := (1 : Int32)) C.1 (tgt := 31) dX3_greatest_17 (by decide) (fun hh => absurd hh (by decide)) (fun _ => ?_)
      refine ww_iload_n C.1 dX3_greatest_20 2 rfl rfl ?_
      refine ww_aload_n C.1 dX3_greatest_21 0 rfl rfl ?_
      refine wt_getR C.1 dX3_greatest_22 flRX3_18 (tc4 T2) rfl (gg4_2 G2) ?_
      refine ww_iload_n C.1 dX3_greatest_25 3 rfl rfl ?_
      refine wt_iald C.1 dX3_greatest_26 (tc7 T2) h.1 ?_
      replace h := h.2
      refine ww_sI C fJ9_max_7cf53 (And.intro (by decide) (by decide)) mlRX3_96 dX3_greatest_27 (As := [.int x2, .int (M 7 x3.toNatClampNeg)]) (rest := []) rfl rfl rfl (Nat.le_of_ble_eq_true rfl) ?_
      exact h
set_option maxHeartbeats 4000000 in
set_option maxRecDepth 20000 in
theorem bX3_greatest_30 {X : CX} {Q : State → Prop} {M : Mem} {G2 : Grf} {T2 : List (Nat × Nat)} {x2 x3 s0 : Int32} (C : Ok0 X mX3_greatest (TTc ++ T2))
    (h : WW X Q 4 [(0, .ref 4), (1, .ref 37), (2, .int s0), (3, .int (x3 + (1 : Int32)))] [] (M, (gj G2), TTc ++ T2)) :
    WW X Q 30 [(0, .ref 4), (1, .ref 37), (2, .int x2), (3, .int x3)] [.int s0] (M, (gj G2), TTc ++ T2) := by
  refine ww_istore_n C.1 dX3_greatest_30 rfl (by decide) [1, 2, 0, 3] (L' := [(0, .ref 4), (1, .ref 37), (2, .int s0), (3, .int x3)]) rfl ?_
  refine ww_iinc C.1 (v := (x3 + (1 : Int32))) dX3_greatest_31 3 rfl (by rfl) (by decide) [1, 2, 3, 0] (L' := [(0, .ref 4), (1, .ref 37), (2, .int s0), (3, .int (x3 + (1 : Int32)))]) rfl ?_
  refine ww_goto C.1 (tgt := 4) dX3_greatest_34 (by decide) ?_
  exact h
set_option maxHeartbeats 4000000 in
set_option maxRecDepth 20000 in
theorem bX3_allLainBy_0 {X : CX} {Q : State → Prop} {M : Mem} {G2 : Grf} {T2 : List (Nat × Nat)} {x2 : Int32} (C : Ok0 X mX3_allLainBy (TTc ++ T2))
    (h : WW X Q 2 [(0, .ref 4), (1, .ref 37), (2, .int x2), (3, .int (0 : Int32))] [] (M, (gj G2), TTc ++ T2)) :
    WW X Q 0 [(0, .ref 4), (1, .ref 37), (2, .int x2)] [] (M, (gj G2), TTc ++ T2) := by
  refine ww_iconst C.1 (v := (0 : Int32)) dX3_allLainBy_0 (by decide) ?_
  refine ww_istore_n C.1 dX3_allLainBy_1 rfl (by decide) [1, 2, 3, 0] (L' := [(0, .ref 4), (1, .ref 37), (2, .int x2), (3, .int (0 : Int32))]) rfl ?_
  exact h
set_option maxHeartbeats 4000000 in
set_option maxRecDepth 20000 in
theorem bX3_allLainBy_2 {X : CX} {Q : State → Prop} {M : Mem} {G2 : Grf} {T2 : List (Nat × Nat)} {x2 x3 : Int32} (C : Ok0 X mX3_allLainBy (TTc ++ T2))
    (h : (((M 37 6) ≤ x3 → RetOK X Q (some (.int (1 : Int32))) (M, (gj G2), TTc ++ T2)) ∧ (¬ (M 37 6) ≤ x3 → ((¬ (((M 4 5) >>> (x3 &&& 31)) &&& (1 : Int32)) = (1 : Int32) → RetOK X Q (some (.int (0 : Int32))) (M, (gj G2), TTc ++ T2)) ∧ ((((M 4 5) >>> (x3 &&& 31)) &&& (1 : Int32)) = (1 : Int32) → (vp_in x3 7 ∧ (((M 5 x3.toNatClampNeg) ≤ x2 → WW X Q 2 [(0, .ref 4), (1, .ref 37), (2, .int x2), (3, .int (x3 + (1 : Int32)))] [] (M, (gj G2), TTc ++ T2)) ∧ (¬ (M 5 x3.toNatClampNeg) ≤ x2 → RetOK X Q (some (.int (0 : Int32))) (M, (gj G2), TTc ++ T2))))))))) :
    WW X Q 2 [(0, .ref 4), (1, .ref 37), (2, .int x2), (3, .int x3)] [] (M, (gj G2), TTc ++ T2) := by
  refine ww_iload_n C.1 dX3_allLainBy_2 3 rfl rfl ?_
  refine ww_aload_n C.1 dX3_allLainBy_3 1 rfl rfl ?_
  refine wt_getI C.1 dX3_allLainBy_4 flRX3_86 (tc37 T2) rfl ?_
  refine ww_icmp_ge (x := x3) (y := (M 37 6)) C.1 (tgt := 36) dX3_allLainBy_7 (by decide) (fun hh => ?_) (fun hh => ?_)
  · replace h := h.1 hh
    refine ww_iconst C.1 (v := (1 : Int32)) dX3_allLainBy_36 (by decide) ?_
    refine ww_zret C.1 dX3_allLainBy_37 rfl (Or.inr rfl) ?_
    exact h
  · replace h := h.2 hh
    refine ww_aload_n C.1 dX3_allLainBy_10 0 rfl rfl ?_
    refine ww_iload_n C.1 dX3_allLainBy_11 3 rfl rfl ?_
    refine ww_vI C fX3_hasLain (And.intro (by decide) (by decide)) mlRX3_109 dX3_allLainBy_12 (tc4 T2) (by decide) rfl (As := [.int x3]) (rest := []) rfl rfl rfl (Nat.le_of_ble_eq_true rfl) (WpI.of (L0 := [(0, .ref 4), (1, .int x3)]) rfl rfl (Nat.le_of_ble_eq_true rfl) fun X1 Q1 C1 k1 => ?_)
    refine ww_aload_n C1.1 dX3_hasLain_0 0 rfl rfl ?_
    refine wt_getI C1.1 dX3_hasLain_1 flRX3_27 (tc4 T2) rfl ?_
    refine ww_iload_n C1.1 dX3_hasLain_4 1 rfl rfl ?_
    refine ww_nI C1 fX9_isIn (And.intro (by decide) (by decide)) nlRX3_92 dX3_hasLain_5 (As := [.int (M 4 5), .int x3]) (rest := []) rfl rfl rfl (Nat.le_of_ble_eq_true rfl) (WpI.of (L0 := [(0, .int (M 4 5)), (1, .int x3)]) rfl rfl (Nat.le_of_ble_eq_true rfl) fun X2 Q2 C2 k2 => ?_)
    refine ww_iload_n C2.1 dX9_isIn_0 0 rfl rfl ?_
    refine ww_iload_n C2.1 dX9_isIn_1 1 rfl rfl ?_
    refine ww_ishr C2.1 dX9_isIn_2 ?_
    refine ww_iconst C2.1 (v := (1 : Int32)) dX9_isIn_3 (by decide) ?_
    refine ww_iand C2.1 dX9_isIn_4 ?_
    refine ww_iconst C2.1 (v := (1 : Int32)) dX9_isIn_5 (by decide) ?_
    refine ww_icmp_ne (x := (((M 4 5) >>> (x3 &&& 31)) &&& (1 : Int32))) (y := (1 : Int32)) C2.1 (tgt := 13) dX9_isIn_6 (by decide) (fun hh => ?_) (fun hh => ?_)
    · replace h := h.1 hh
      refine ww_iconst C2.1 (v := (0 : Int32)) dX9_isIn_13 (by decide) ?_
      refine ww_zret C2.1 dX9_isIn_14 rfl (Or.inl rfl) ?_
      refine k2 _ _ ?_
      refine ww_zret C1.1 dX3_hasLain_8 rfl (Or.inl rfl) ?_
      refine k1 _ _ ?_
      refine ww_if_eq (x := (0 : Int32)) C.1 (tgt := 28) dX3_allLainBy_15 (by decide) (fun _ => ?_) (fun hh => absurd hh (by decide))
      refine ww_iconst C.1 (v := (0 : Int32)) dX3_allLainBy_28 (by decide) ?_
      refine ww_zret C.1 dX3_allLainBy_29 rfl (Or.inl rfl) ?_
      exact h
    · replace h := h.2 hh
      refine ww_iconst C2.1 (v := (1 : Int32)) dX9_isIn_9 (by decide) ?_
      refine ww_goto C2.1 (tgt := 14) dX9_isIn_10 (by decide) ?_
      refine ww_zret C2.1 dX9_isIn_14 rfl (Or.inr rfl) ?_
      refine k2 _ _ ?_
      refine ww_zret C1.1 dX3_hasLain_8 rfl (Or.inr rfl) ?_
      refine k1 _ _ ?_
      refine ww_if_eq (x := (1 : Int32)) C.1 (tgt := 28) dX3_allLainBy_15 (by decide) (fun hh => absurd hh (by decide)) (fun _ => ?_)
      refine ww_aload_n C.1 dX3_allLainBy_18 0 rfl rfl ?_
      refine wt_getR C.1 dX3_allLainBy_19 flRX3_9 (tc4 T2) rfl (gg4_0 G2) ?_
      refine ww_iload_n C.1 dX3_allLainBy_22 3 rfl rfl ?_
      refine wt_iald C.1 dX3_allLainBy_23 (tc5 T2) h.1 ?_
      replace h := h.2
      refine ww_iload_n C.1 dX3_allLainBy_24 2 rfl rfl ?_
      refine ww_icmp_le (x := (M 5 x3.toNatClampNeg)) (y := x2) C.1 (tgt := 30) dX3_allLainBy_25 (by decide) (fun hh => ?_) (fun hh => ?_)
      · replace h := h.1 hh
        refine ww_iinc C.1 (v := (x3 + (1 : Int32))) dX3_allLainBy_30 3 rfl (by rfl) (by decide) [1, 2, 3, 0] (L' := [(0, .ref 4), (1, .ref 37), (2, .int x2), (3, .int (x3 + (1 : Int32)))]) rfl ?_
        refine ww_goto C.1 (tgt := 2) dX3_allLainBy_33 (by decide) ?_
        exact h
      · replace h := h.2 hh
        refine ww_iconst C.1 (v := (0 : Int32)) dX3_allLainBy_28 (by decide) ?_
        refine ww_zret C.1 dX3_allLainBy_29 rfl (Or.inl rfl) ?_
        exact h
set_option maxHeartbeats 4000000 in
set_option maxRecDepth 20000 in
theorem bX4_search_0 {X : CX} {Q : State → Prop} {M : Mem} {G2 : Grf} {T2 : List (Nat × Nat)} (C : Ok0 X mX4_search (TTc ++ T2))
    (h : WW X Q 23 [(0, .ref 29), (1, .ref 33), (2, .ref 4), (3, .ref 37), (4, .int (0 : Int32))] [] ((wrA M 31 (va_cpy (M 43) (M 31) 0 0 7)), (gj G2), TTc ++ T2)) :
    WW X Q 0 [(0, .ref 29), (1, .ref 33), (2, .ref 4)] [] (M, (gj G2), TTc ++ T2) := by
  refine ww_aload_n C.1 dX4_search_0 1 rfl rfl ?_
  refine wt_getR C.1 dX4_search_1 flRX4_18 (tc33 T2) rfl (gg33_1 G2) ?_
  refine ww_astore_n C.1 dX4_search_4 rfl (by decide) [1, 2, 3, 0] (L' := [(0, .ref 29), (1, .ref 33), (2, .ref 4), (3, .ref 37)]) rfl ?_
  refine ww_aload_n C.1 dX4_search_5 3 rfl rfl ?_
  refine wt_getR C.1 dX4_search_6 flRX4_24 (tc37 T2) rfl (gg37_5 G2) ?_
  refine ww_iconst C.1 (v := (0 : Int32)) dX4_search_9 (by decide) ?_
  refine ww_aload_n C.1 dX4_search_10 0 rfl rfl ?_
  refine wt_getR C.1 dX4_search_11 flRX4_15 (tc29 T2) rfl (gg29_1 G2) ?_
  refine ww_iconst C.1 (v := (0 : Int32)) dX4_search_14 (by decide) ?_
  refine ww_bipush C.1 (v := (7 : Int32)) dX4_search_15 (by decide) ?_
  refine wt_acopy C.1 mlRX4_27 acN acS acI dX4_search_17 (tc43 T2) (tc31 T2) (by decide) (by decide) (by decide) (by decide) (by decide) (by decide) (Nat.le_of_ble_eq_true rfl) ?_
  refine ww_iconst C.1 (v := (0 : Int32)) dX4_search_20 (by decide) ?_
  refine ww_istore C.1 dX4_search_21 (by decide) [1, 2, 3, 4, 0] (L' := [(0, .ref 29), (1, .ref 33), (2, .ref 4), (3, .ref 37), (4, .int (0 : Int32))]) rfl ?_
  exact h
set_option maxHeartbeats 4000000 in
set_option maxRecDepth 20000 in
theorem bX4_search_23 {X : CX} {Q : State → Prop} {M : Mem} {G2 : Grf} {T2 : List (Nat × Nat)} {x4 : Int32} (C : Ok0 X mX4_search (TTc ++ T2))
    (h : (((M 37 6) ≤ x4 → WW X Q 59 [(0, .ref 29), (1, .ref 33), (2, .ref 4), (3, .ref 37), (4, .int (1 : Int32)), (5, .int (0 : Int32))] [] ((wr M 29 2 (1000000 : Int32)), (gj G2), TTc ++ T2)) ∧ (¬ (M 37 6) ≤ x4 → (vp_in x4 7 ∧ WW X Q 23 [(0, .ref 29), (1, .ref 33), (2, .ref 4), (3, .ref 37), (4, .int (x4 + (1 : Int32)))] [] ((wr M 43 x4.toNatClampNeg x4), (gj G2), TTc ++ T2))))) :
    WW X Q 23 [(0, .ref 29), (1, .ref 33), (2, .ref 4), (3, .ref 37), (4, .int x4)] [] (M, (gj G2), TTc ++ T2) := by
  refine ww_iload C.1 dX4_search_23 4 rfl ?_
  refine ww_aload_n C.1 dX4_search_25 3 rfl rfl ?_
  refine wt_getI C.1 dX4_search_26 flRX4_33 (tc37 T2) rfl ?_
  refine ww_icmp_ge (x := x4) (y := (M 37 6)) C.1 (tgt := 47) dX4_search_29 (by decide) (fun hh => ?_) (fun hh => ?_)
  · replace h := h.1 hh
    refine ww_aload_n C.1 dX4_search_47 0 rfl rfl ?_
    refine ww_ldc C.1 kcRX4_37 dX4_search_48 ?_
    refine wt_putI C.1 dX4_search_50 flRX4_38 (tc29 T2) rfl ?_
    refine ww_iconst C.1 (v := (1 : Int32)) dX4_search_53 (by decide) ?_
    refine ww_istore C.1 dX4_search_54 (by decide) [1, 2, 3, 4, 0] (L' := [(0, .ref 29), (1, .ref 33), (2, .ref 4), (3, .ref 37), (4, .int (1 : Int32))]) rfl ?_
    refine ww_iconst C.1 (v := (0 : Int32)) dX4_search_56 (by decide) ?_
    refine ww_istore C.1 dX4_search_57 (by decide) [1, 2, 3, 4, 5, 0] (L' := [(0, .ref 29), (1, .ref 33), (2, .ref 4), (3, .ref 37), (4, .int (1 : Int32)), (5, .int (0 : Int32))]) rfl ?_
    exact h
  · replace h := h.2 hh
    refine ww_aload_n C.1 dX4_search_32 3 rfl rfl ?_
    refine wt_getR C.1 dX4_search_33 flRX4_24 (tc37 T2) rfl (gg37_5 G2) ?_
    refine ww_iload C.1 dX4_search_36 4 rfl ?_
    refine ww_iload C.1 dX4_search_38 4 rfl ?_
    refine wt_iast C.1 dX4_search_40 (tc43 T2) h.1 ?_
    replace h := h.2
    refine ww_iinc C.1 (v := (x4 + (1 : Int32))) dX4_search_41 4 rfl (by rfl) (by decide) [1, 2, 3, 4, 0] (L' := [(0, .ref 29), (1, .ref 33), (2, .ref 4), (3, .ref 37), (4, .int (x4 + (1 : Int32)))]) rfl ?_
    refine ww_goto C.1 (tgt := 23) dX4_search_44 (by decide) ?_
    exact h
set_option maxHeartbeats 4000000 in
set_option maxRecDepth 20000 in
theorem bX4_search_59 {X : CX} {Q : State → Prop} {M : Mem} {G2 : Grf} {T2 : List (Nat × Nat)} {x4 x5 : Int32} (C : Ok0 X mX4_search (TTc ++ T2))
    (h : (((5040 : Int32) ≤ x5 → RetOK X Q (none) ((wr (wrA M 43 (va_cpy (M 31) (M 43) 0 0 7)) 29 3 (1 : Int32)), (gj G2), TTc ++ T2)) ∧ (¬ (5040 : Int32) ≤ x5 → ((x4 = (0 : Int32) → RetOK X Q (none) ((wr (wrA M 43 (va_cpy (M 31) (M 43) 0 0 7)) 29 3 (1 : Int32)), (gj G2), TTc ++ T2)) ∧ (¬ x4 = (0 : Int32) → WpV mX3_pass [.ref 4, .ref 33, .int (M 29 2)] M (gj G2) (TTc ++ T2) (fun M' => WW X Q 81 [(0, .ref 29), (1, .ref 33), (2, .ref 4), (3, .ref 37), (4, .int x4), (5, .int x5)] [] (M', (gj G2), TTc ++ T2))))))) :
    WW X Q 59 [(0, .ref 29), (1, .ref 33), (2, .ref 4), (3, .ref 37), (4, .int x4), (5, .int x5)] [] (M, (gj G2), TTc ++ T2) := by
  refine ww_iload C.1 dX4_search_59 5 rfl ?_
  refine ww_sipush C.1 (v := (5040 : Int32)) dX4_search_61 (by decide) ?_
  refine ww_icmp_ge (x := x5) (y := (5040 : Int32)) C.1 (tgt := 134) dX4_search_64 (by decide) (fun hh => ?_) (fun hh => ?_)
  · replace h := h.1 hh
    refine ww_aload_n C.1 dX4_search_134 0 rfl rfl ?_
    refine wt_getR C.1 dX4_search_135 flRX4_15 (tc29 T2) rfl (gg29_1 G2) ?_
    refine ww_iconst C.1 (v := (0 : Int32)) dX4_search_138 (by decide) ?_
    refine ww_aload_n C.1 dX4_search_139 3 rfl rfl ?_
    refine wt_getR C.1 dX4_search_140 flRX4_24 (tc37 T2) rfl (gg37_5 G2) ?_
    refine ww_iconst C.1 (v := (0 : Int32)) dX4_search_143 (by decide) ?_
    refine ww_bipush C.1 (v := (7 : Int32)) dX4_search_144 (by decide) ?_
    refine wt_acopy C.1 mlRX4_27 acN acS acI dX4_search_146 (tc31 T2) (tc43 T2) (by decide) (by decide) (by decide) (by decide) (by decide) (by decide) (Nat.le_of_ble_eq_true rfl) ?_
    refine ww_aload_n C.1 dX4_search_149 0 rfl rfl ?_
    refine ww_iconst C.1 (v := (1 : Int32)) dX4_search_150 (by decide) ?_
    refine wt_putZ C.1 dX4_search_151 flRX4_58 (tc29 T2) rfl (Or.inr rfl) ?_
    refine ww_vret C.1 dX4_search_154 rfl ?_
    exact h
  · replace h := h.2 hh
    refine ww_iload C.1 dX4_search_67 4 rfl ?_
    refine ww_if_eq (x := x4) C.1 (tgt := 134) dX4_search_69 (by decide) (fun hh => ?_) (fun hh => ?_)
    · replace h := h.1 hh
      refine ww_aload_n C.1 dX4_search_134 0 rfl rfl ?_
      refine wt_getR C.1 dX4_search_135 flRX4_15 (tc29 T2) rfl (gg29_1 G2) ?_
      refine ww_iconst C.1 (v := (0 : Int32)) dX4_search_138 (by decide) ?_
      refine ww_aload_n C.1 dX4_search_139 3 rfl rfl ?_
      refine wt_getR C.1 dX4_search_140 flRX4_24 (tc37 T2) rfl (gg37_5 G2) ?_
      refine ww_iconst C.1 (v := (0 : Int32)) dX4_search_143 (by decide) ?_
      refine ww_bipush C.1 (v := (7 : Int32)) dX4_search_144 (by decide) ?_
      refine wt_acopy C.1 mlRX4_27 acN acS acI dX4_search_146 (tc31 T2) (tc43 T2) (by decide) (by decide) (by decide) (by decide) (by decide) (by decide) (Nat.le_of_ble_eq_true rfl) ?_
      refine ww_aload_n C.1 dX4_search_149 0 rfl rfl ?_
      refine ww_iconst C.1 (v := (1 : Int32)) dX4_search_150 (by decide) ?_
      refine wt_putZ C.1 dX4_search_151 flRX4_58 (tc29 T2) rfl (Or.inr rfl) ?_
      refine ww_vret C.1 dX4_search_154 rfl ?_
      exact h
    · replace h := h.2 hh
      refine ww_aload_n C.1 dX4_search_72 2 rfl rfl ?_
      refine ww_aload_n C.1 dX4_search_73 1 rfl rfl ?_
      refine ww_aload_n C.1 dX4_search_74 0 rfl rfl ?_
      refine wt_getI C.1 dX4_search_75 flRX4_38 (tc29 T2) rfl ?_
      refine ww_vV C fX3_pass (And.intro (by decide) (by decide)) mlRX4_41 dX4_search_78 (tc4 T2) (by decide) rfl (As := [.ref 33, .int (M 29 2)]) (rest := []) rfl rfl rfl (Nat.le_of_ble_eq_true rfl) ?_
      exact h
