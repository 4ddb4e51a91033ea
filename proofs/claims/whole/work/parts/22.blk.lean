set_option maxHeartbeats 4000000 in
set_option maxRecDepth 20000 in
theorem bX9_write_22 {X : CX} {Q : State → Prop} {M : Mem} {G2 : Grf} {T2 : List (Nat × Nat)} {x1 s0 : Int32} (C : Ok0 X mX9_write (TTc ++ T2))
    (h : ((s0 = (0 : Int32) → RetOK X Q (some (.int (-3 : Int32))) (M, (gj G2), TTc ++ T2)) ∧ (¬ s0 = (0 : Int32) → RetOK X Q (some (.int (M 1 2))) (M, (gj G2), TTc ++ T2)))) :
    WW X Q 22 [(0, .ref 0), (1, .int x1)] [.int s0] (M, (gj G2), TTc ++ T2) := by
  refine ww_if_eq (x := s0) C.1 (tgt := 35) dX9_write_22 (by decide) (fun hh => ?_) (fun hh => ?_)
  · replace h := h.1 hh
    refine ww_bipush C.1 (v := (-3 : Int32)) dX9_write_35 (by decide) ?_
    refine ww_iret C.1 dX9_write_37 rfl ?_
    exact h
  · replace h := h.2 hh
    refine ww_aload_n C.1 dX9_write_25 0 rfl rfl ?_
    refine wt_getR C.1 dX9_write_26 flRX9_10 (tc0 T2) rfl (gg0_0 G2) ?_
    refine wt_getI C.1 dX9_write_29 flRX9_85 (tc1 T2) rfl ?_
    refine ww_goto C.1 (tgt := 37) dX9_write_32 (by decide) ?_
    refine ww_iret C.1 dX9_write_37 rfl ?_
    exact h
set_option maxHeartbeats 4000000 in
set_option maxRecDepth 20000 in
theorem bX9_wipe_0 {X : CX} {Q : State → Prop} {M : Mem} {G2 : Grf} {T2 : List (Nat × Nat)} (C : Ok0 X mX9_wipe (TTc ++ T2))
    (h : RetOK X Q (some (.int (M 1 2))) ((wr M 1 2 (0 : Int32)), (gj G2), TTc ++ T2)) :
    WW X Q 0 [(0, .ref 0)] [] (M, (gj G2), TTc ++ T2) := by
  refine ww_aload_n C.1 dX9_wipe_0 0 rfl rfl ?_
  refine wt_getR C.1 dX9_wipe_1 flRX9_10 (tc0 T2) rfl (gg0_0 G2) ?_
  refine wt_getI C.1 dX9_wipe_4 flRX9_85 (tc1 T2) rfl ?_
  refine ww_istore_n C.1 dX9_wipe_7 rfl (by decide) [1, 0] (L' := [(0, .ref 0), (1, .int (M 1 2))]) rfl ?_
  refine ww_aload_n C.1 dX9_wipe_8 0 rfl rfl ?_
  refine wt_getR C.1 dX9_wipe_9 flRX9_10 (tc0 T2) rfl (gg0_0 G2) ?_
  refine ww_iconst C.1 (v := (0 : Int32)) dX9_wipe_12 (by decide) ?_
  refine wt_putI C.1 dX9_wipe_13 flRX9_85 (tc1 T2) rfl ?_
  refine ww_iload_n C.1 dX9_wipe_16 1 rfl rfl ?_
  refine ww_iret C.1 dX9_wipe_17 rfl ?_
  exact h
set_option maxHeartbeats 4000000 in
set_option maxRecDepth 20000 in
theorem bX9_fault_0 {X : CX} {Q : State → Prop} {M : Mem} {G2 : Grf} {T2 : List (Nat × Nat)} (C : Ok0 X mX9_fault (TTc ++ T2))
    (h : WpI mX7_readInto [.ref 1, .ref 45] M (gj G2) (TTc ++ T2) (fun r M' => WW X Q 11 [(0, .ref 0)] [.int r] (M', (gj G2), TTc ++ T2))) :
    WW X Q 0 [(0, .ref 0)] [] (M, (gj G2), TTc ++ T2) := by
  refine ww_aload_n C.1 dX9_fault_0 0 rfl rfl ?_
  refine wt_getR C.1 dX9_fault_1 flRX9_10 (tc0 T2) rfl (gg0_0 G2) ?_
  refine ww_aload_n C.1 dX9_fault_4 0 rfl rfl ?_
  refine wt_getR C.1 dX9_fault_5 flRX9_62 (tc0 T2) rfl (gg0_8 G2) ?_
  refine ww_vI C fX7_readInto (And.intro (by decide) (by decide)) mlRX9_81 dX9_fault_8 (tc1 T2) (by decide) rfl (As := [.ref 45]) (rest := []) rfl rfl rfl (Nat.le_of_ble_eq_true rfl) ?_
  exact h
set_option maxHeartbeats 4000000 in
set_option maxRecDepth 20000 in
theorem bX9_fault_11 {X : CX} {Q : State → Prop} {M : Mem} {G2 : Grf} {T2 : List (Nat × Nat)} {s0 : Int32} (C : Ok0 X mX9_fault (TTc ++ T2))
    (h : RetOK X Q (some (.int s0)) (M, (gj G2), TTc ++ T2)) :
    WW X Q 11 [(0, .ref 0)] [.int s0] (M, (gj G2), TTc ++ T2) := by
  refine ww_iret C.1 dX9_fault_11 rfl ?_
  exact h
set_option maxHeartbeats 4000000 in
set_option maxRecDepth 20000 in
theorem bX9_lay_0 {X : CX} {Q : State → Prop} {M : Mem} {G2 : Grf} {T2 : List (Nat × Nat)} (C : Ok0 X mX9_lay (TTc ++ T2))
    (h : WpI mX7_readInto [.ref 1, .ref 45] M (gj G2) (TTc ++ T2) (fun r M' => WW X Q 11 [(0, .ref 0)] [.int r] (M', (gj G2), TTc ++ T2))) :
    WW X Q 0 [(0, .ref 0)] [] (M, (gj G2), TTc ++ T2) := by
  refine ww_aload_n C.1 dX9_lay_0 0 rfl rfl ?_
  refine wt_getR C.1 dX9_lay_1 flRX9_10 (tc0 T2) rfl (gg0_0 G2) ?_
  refine ww_aload_n C.1 dX9_lay_4 0 rfl rfl ?_
  refine wt_getR C.1 dX9_lay_5 flRX9_62 (tc0 T2) rfl (gg0_8 G2) ?_
  refine ww_vI C fX7_readInto (And.intro (by decide) (by decide)) mlRX9_81 dX9_lay_8 (tc1 T2) (by decide) rfl (As := [.ref 45]) (rest := []) rfl rfl rfl (Nat.le_of_ble_eq_true rfl) ?_
  exact h
set_option maxHeartbeats 4000000 in
set_option maxRecDepth 20000 in
theorem bX9_lay_11 {X : CX} {Q : State → Prop} {M : Mem} {G2 : Grf} {T2 : List (Nat × Nat)} {s0 : Int32} (C : Ok0 X mX9_lay (TTc ++ T2))
    (h : ((¬ s0 = (-4 : Int32) → RetOK X Q (some (.int (-2 : Int32))) (M, (gj G2), TTc ++ T2)) ∧ (s0 = (-4 : Int32) → WpI mX2_canOpen [.ref 45] M (gj G2) (TTc ++ T2) (fun r M' => WW X Q 23 [(0, .ref 0)] [.int r] (M', (gj G2), TTc ++ T2))))) :
    WW X Q 11 [(0, .ref 0)] [.int s0] (M, (gj G2), TTc ++ T2) := by
  refine ww_bipush C.1 (v := (-4 : Int32)) dX9_lay_11 (by decide) ?_
  refine ww_icmp_ne (x := s0) (y := (-4 : Int32)) C.1 (tgt := 26) dX9_lay_13 (by decide) (fun hh => ?_) (fun hh => ?_)
  · replace h := h.1 hh
    refine ww_bipush C.1 (v := (-2 : Int32)) dX9_lay_26 (by decide) ?_
    refine ww_iret C.1 dX9_lay_28 rfl ?_
    exact h
  · replace h := h.2 hh
    refine ww_aload_n C.1 dX9_lay_16 0 rfl rfl ?_
    refine wt_getR C.1 dX9_lay_17 flRX9_62 (tc0 T2) rfl (gg0_8 G2) ?_
    refine ww_vI C fX2_canOpen (And.intro (by decide) (by decide)) mlRX9_93 dX9_lay_20 (tc45 T2) (by decide) rfl (As := []) (rest := []) rfl rfl rfl (Nat.le_of_ble_eq_true rfl) ?_
    exact h
set_option maxHeartbeats 4000000 in
set_option maxRecDepth 20000 in
theorem bX9_lay_23 {X : CX} {Q : State → Prop} {M : Mem} {G2 : Grf} {T2 : List (Nat × Nat)} {s0 : Int32} (C : Ok0 X mX9_lay (TTc ++ T2))
    (h : ((¬ s0 = (0 : Int32) → RetOK X Q (some (.int (M 49 6))) ((wr (wr (wr (wr M 10 3 (0 : Int32)) 14 3 (0 : Int32)) 24 4 (0 : Int32)) 29 3 (0 : Int32)), (wrG (wrG (gj G2) 0 7 (some 45)) 0 8 (some 33)), TTc ++ T2)) ∧ (s0 = (0 : Int32) → RetOK X Q (some (.int (-2 : Int32))) (M, (gj G2), TTc ++ T2)))) :
    WW X Q 23 [(0, .ref 0)] [.int s0] (M, (gj G2), TTc ++ T2) := by
  refine ww_if_ne (x := s0) C.1 (tgt := 29) dX9_lay_23 (by decide) (fun hh => ?_) (fun hh => ?_)
  · replace h := h.1 hh
    refine ww_aload_n C.1 dX9_lay_29 0 rfl rfl ?_
    refine wt_getR C.1 dX9_lay_30 flRX9_58 (tc0 T2) rfl (gg0_7 G2) ?_
    refine ww_astore_n C.1 dX9_lay_33 rfl (by decide) [1, 0] (L' := [(0, .ref 0), (1, .ref 33)]) rfl ?_
    refine ww_aload_n C.1 dX9_lay_34 0 rfl rfl ?_
    refine ww_aload_n C.1 dX9_lay_35 0 rfl rfl ?_
    refine wt_getR C.1 dX9_lay_36 flRX9_62 (tc0 T2) rfl (gg0_8 G2) ?_
    refine wt_putR C.1 dX9_lay_39 flRX9_58 (fun _ => ⟨rfl, rfl⟩) (tc0 T2) rfl (by rw [List.length_append]; exact Nat.lt_of_lt_of_le (by decide : 45 < TTc.length) (Nat.le_add_right _ _)) ?_
    refine ww_aload_n C.1 dX9_lay_42 0 rfl rfl ?_
    refine ww_aload_n C.1 dX9_lay_43 1 rfl rfl ?_
    refine wt_putR C.1 dX9_lay_44 flRX9_62 (fun _ => ⟨rfl, rfl⟩) (tc0 T2) rfl (by rw [List.length_append]; exact Nat.lt_of_lt_of_le (by decide : 33 < TTc.length) (Nat.le_add_right _ _)) ?_
    refine ww_aload_n C.1 dX9_lay_47 0 rfl rfl ?_
    refine wt_getR C.1 dX9_lay_48 flRX9_26 (tc0 T2) rfl rfl ?_
    refine ww_iconst C.1 (v := (0 : Int32)) dX9_lay_51 (by decide) ?_
    refine wt_putI C.1 dX9_lay_52 flRX9_97 (tc10 T2) rfl ?_
    refine ww_aload_n C.1 dX9_lay_55 0 rfl rfl ?_
    refine wt_getR C.1 dX9_lay_56 flRX9_33 (tc0 T2) rfl rfl ?_
    refine ww_iconst C.1 (v := (0 : Int32)) dX9_lay_59 (by decide) ?_
    refine wt_putI C.1 dX9_lay_60 flRX9_98 (tc14 T2) rfl ?_
    refine ww_aload_n C.1 dX9_lay_63 0 rfl rfl ?_
    refine wt_getR C.1 dX9_lay_64 flRX9_40 (tc0 T2) rfl rfl ?_
    refine ww_iconst C.1 (v := (0 : Int32)) dX9_lay_67 (by decide) ?_
    refine wt_putI C.1 dX9_lay_68 flRX9_99 (tc24 T2) rfl ?_
    refine ww_aload_n C.1 dX9_lay_71 0 rfl rfl ?_
    refine wt_getR C.1 dX9_lay_72 flRX9_47 (tc0 T2) rfl rfl ?_
    refine ww_iconst C.1 (v := (0 : Int32)) dX9_lay_75 (by decide) ?_
    refine wt_putZ C.1 dX9_lay_76 flRX9_100 (tc29 T2) rfl (Or.inl rfl) ?_
    refine ww_aload_n C.1 dX9_lay_79 0 rfl rfl ?_
    refine wt_getR C.1 dX9_lay_80 flRX9_58 (tc0 T2) rfl rfl ?_
    refine wt_getR C.1 dX9_lay_83 flRX9_104 (tc45 T2) rfl rfl ?_
    refine wt_getI C.1 dX9_lay_86 flRX9_108 (tc49 T2) rfl ?_
    refine ww_iret C.1 dX9_lay_89 rfl ?_
    exact h
  · replace h := h.2 hh
    refine ww_bipush C.1 (v := (-2 : Int32)) dX9_lay_26 (by decide) ?_
    refine ww_iret C.1 dX9_lay_28 rfl ?_
    exact h
set_option maxHeartbeats 4000000 in
set_option maxRecDepth 20000 in
theorem bX9_bed_0 {X : CX} {Q : State → Prop} {M : Mem} {G2 : Grf} {T2 : List (Nat × Nat)} {x1 x2 : Int32} (C : Ok0 X mX9_bed (TTc ++ T2))
    (h : ((x1 < (0 : Int32) → RetOK X Q (some (.int (-1 : Int32))) (M, (gj G2), TTc ++ T2)) ∧ (¬ x1 < (0 : Int32) → (((M 34 2) ≤ x1 → RetOK X Q (some (.int (-1 : Int32))) (M, (gj G2), TTc ++ T2)) ∧ (¬ (M 34 2) ≤ x1 → ((x2 < (0 : Int32) → RetOK X Q (some (.int (-1 : Int32))) (M, (gj G2), TTc ++ T2)) ∧ (¬ x2 < (0 : Int32) → (((29 : Int32) < x2 → RetOK X Q (some (.int (-1 : Int32))) (M, (gj G2), TTc ++ T2)) ∧ (¬ (29 : Int32) < x2 → WpI mX0_lengthOn [.ref 34, .int x1, .int x2] M (gj G2) (TTc ++ T2) (fun r M' => WW X Q 33 [(0, .ref 0), (1, .int x1), (2, .int x2)] [.int r] (M', (gj G2), TTc ++ T2))))))))))) :
    WW X Q 0 [(0, .ref 0), (1, .int x1), (2, .int x2)] [] (M, (gj G2), TTc ++ T2) := by
  refine ww_aload_n C.1 dX9_bed_0 0 rfl rfl ?_
  refine wt_getR C.1 dX9_bed_1 flRX9_58 (tc0 T2) rfl (gg0_7 G2) ?_
  refine wt_getR C.1 dX9_bed_4 flRX9_111 (tc33 T2) rfl (gg33_0 G2) ?_
  refine ww_iload_n C.1 dX9_bed_7 1 rfl rfl ?_
  refine ww_vI C fX0_has (And.intro (by decide) (by decide)) mlRX9_115 dX9_bed_8 (tc34 T2) (by decide) rfl (As := [.int x1]) (rest := []) rfl rfl rfl (Nat.le_of_ble_eq_true rfl) (WpI.of (L0 := [(0, .ref 34), (1, .int x1)]) rfl rfl (Nat.le_of_ble_eq_true rfl) fun X1 Q1 C1 k1 => ?_)
  refine ww_iload_n C1.1 dX0_has_0 1 rfl rfl ?_
  refine ww_if_lt (x := x1) C1.1 (tgt := 16) dX0_has_1 (by decide) (fun hh => ?_) (fun hh => ?_)
  · replace h := h.1 hh
    refine ww_iconst C1.1 (v := (0 : Int32)) dX0_has_16 (by decide) ?_
    refine ww_zret C1.1 dX0_has_17 rfl (Or.inl rfl) ?_
    refine k1 _ _ ?_
    refine ww_if_eq (x := (0 : Int32)) C.1 (tgt := 36) dX9_bed_11 (by decide) (fun _ => ?_) (fun hh => absurd hh (by decide))
    refine ww_iconst C.1 (v := (-1 : Int32)) dX9_bed_36 (by decide) ?_
    refine ww_iret C.1 dX9_bed_37 rfl ?_
    exact h
  · replace h := h.2 hh
    refine ww_iload_n C1.1 dX0_has_4 1 rfl rfl ?_
    refine ww_aload_n C1.1 dX0_has_5 0 rfl rfl ?_
    refine wt_getI C1.1 dX0_has_6 flRX0_22 (tc34 T2) rfl ?_
    refine ww_icmp_ge (x := x1) (y := (M 34 2)) C1.1 (tgt := 16) dX0_has_9 (by decide) (fun hh => ?_) (fun hh => ?_)
    · replace h := h.1 hh
      refine ww_iconst C1.1 (v := (0 : Int32)) dX0_has_16 (by decide) ?_
      refine ww_zret C1.1 dX0_has_17 rfl (Or.inl rfl) ?_
      refine k1 _ _ ?_
      refine ww_if_eq (x := (0 : Int32)) C.1 (tgt := 36) dX9_bed_11 (by decide) (fun _ => ?_) (fun hh => absurd hh (by decide))
      refine ww_iconst C.1 (v := (-1 : Int32)) dX9_bed_36 (by decide) ?_
      refine ww_iret C.1 dX9_bed_37 rfl ?_
      exact h
    · replace h := h.2 hh
      refine ww_iconst C1.1 (v := (1 : Int32)) dX0_has_12 (by decide) ?_
      refine ww_goto C1.1 (tgt := 17) dX0_has_13 (by decide) ?_
      refine ww_zret C1.1 dX0_has_17 rfl (Or.inr rfl) ?_
      refine k1 _ _ ?_
      refine ww_if_eq (x := (1 : Int32)) C.1 (tgt := 36) dX9_bed_11 (by decide) (fun hh => absurd hh (by decide)) (fun _ => ?_)
      refine ww_iload_n C.1 dX9_bed_14 2 rfl rfl ?_
      refine ww_sI C fX9_isNight (And.intro (by decide) (by decide)) mlRX9_121 dX9_bed_15 (As := [.int x2]) (rest := []) rfl rfl rfl (Nat.le_of_ble_eq_true rfl) (WpI.of (L0 := [(0, .int x2)]) rfl rfl (Nat.le_of_ble_eq_true rfl) fun X2 Q2 C2 k2 => ?_)
      refine ww_iload_n C2.1 dX9_isNight_0 0 rfl rfl ?_
      refine ww_iconst C2.1 (v := (0 : Int32)) dX9_isNight_1 (by decide) ?_
      refine ww_bipush C2.1 (v := (29 : Int32)) dX9_isNight_2 (by decide) ?_
      refine ww_sI C2 fX9_isWithin (And.intro (by decide) (by decide)) mlRX9_89 dX9_isNight_4 (As := [.int x2, .int (0 : Int32), .int (29 : Int32)]) (rest := []) rfl rfl rfl (Nat.le_of_ble_eq_true rfl) (WpI.of (L0 := [(0, .int x2), (1, .int (0 : Int32)), (2, .int (29 : Int32))]) rfl rfl (Nat.le_of_ble_eq_true rfl) fun X3 Q3 C3 k3 => ?_)
      refine ww_iload_n C3.1 dX9_isWithin_0 0 rfl rfl ?_
      refine ww_iload_n C3.1 dX9_isWithin_1 1 rfl rfl ?_
      refine ww_icmp_lt (x := x2) (y := (0 : Int32)) C3.1 (tgt := 14) dX9_isWithin_2 (by decide) (fun hh => ?_) (fun hh => ?_)
      · replace h := h.1 hh
        refine ww_iconst C3.1 (v := (0 : Int32)) dX9_isWithin_14 (by decide) ?_
        refine ww_zret C3.1 dX9_isWithin_15 rfl (Or.inl rfl) ?_
        refine k3 _ _ ?_
        refine ww_zret C2.1 dX9_isNight_7 rfl (Or.inl rfl) ?_
        refine k2 _ _ ?_
        refine ww_if_eq (x := (0 : Int32)) C.1 (tgt := 36) dX9_bed_18 (by decide) (fun _ => ?_) (fun hh => absurd hh (by decide))
        refine ww_iconst C.1 (v := (-1 : Int32)) dX9_bed_36 (by decide) ?_
        refine ww_iret C.1 dX9_bed_37 rfl ?_
        exact h
      · replace h := h.2 hh
        refine ww_iload_n C3.1 dX9_isWithin_5 0 rfl rfl ?_
        refine ww_iload_n C3.1 dX9_isWithin_6 2 rfl rfl ?_
        refine ww_icmp_gt (x := x2) (y := (29 : Int32)) C3.1 (tgt := 14) dX9_isWithin_7 (by decide) (fun hh => ?_) (fun hh => ?_)
        · replace h := h.1 hh
          refine ww_iconst C3.1 (v := (0 : Int32)) dX9_isWithin_14 (by decide) ?_
          refine ww_zret C3.1 dX9_isWithin_15 rfl (Or.inl rfl) ?_
          refine k3 _ _ ?_
          refine ww_zret C2.1 dX9_isNight_7 rfl (Or.inl rfl) ?_
          refine k2 _ _ ?_
          refine ww_if_eq (x := (0 : Int32)) C.1 (tgt := 36) dX9_bed_18 (by decide) (fun _ => ?_) (fun hh => absurd hh (by decide))
          refine ww_iconst C.1 (v := (-1 : Int32)) dX9_bed_36 (by decide) ?_
          refine ww_iret C.1 dX9_bed_37 rfl ?_
          exact h
        · replace h := h.2 hh
          refine ww_iconst C3.1 (v := (1 : Int32)) dX9_isWithin_10 (by decide) ?_
          refine ww_goto C3.1 (tgt := 15) dX9_isWithin_11 (by decide) ?_
          refine ww_zret C3.1 dX9_isWithin_15 rfl (Or.inr rfl) ?_
          refine k3 _ _ ?_
          refine ww_zret C2.1 dX9_isNight_7 rfl (Or.inr rfl) ?_
          refine k2 _ _ ?_
          refine ww_if_eq (x := (1 : Int32)) C.1 (tgt := 36) dX9_bed_18 (by decide) (fun hh => absurd hh (by decide)) (fun _ => ?_)
          refine ww_aload_n C.1 dX9_bed_21 0 rfl rfl ?_
          refine wt_getR C.1 dX9_bed_22 flRX9_58 (tc0 T2) rfl (gg0_7 G2) ?_
          refine wt_getR C.1 dX9_bed_25 flRX9_111 (tc33 T2) rfl (gg33_0 G2) ?_
          refine ww_iload_n C.1 dX9_bed_28 1 rfl rfl ?_
          refine ww_iload_n C.1 dX9_bed_29 2 rfl rfl ?_
          refine ww_vI C fX0_lengthOn (And.intro (by decide) (by decide)) mlRX9_124 dX9_bed_30 (tc34 T2) (by decide) rfl (As := [.int x1, .int x2]) (rest := []) rfl rfl rfl (Nat.le_of_ble_eq_true rfl) ?_
          exact h
set_option maxHeartbeats 4000000 in
set_option maxRecDepth 20000 in
theorem bX9_bed_33 {X : CX} {Q : State → Prop} {M : Mem} {G2 : Grf} {T2 : List (Nat × Nat)} {x1 x2 s0 : Int32} (C : Ok0 X mX9_bed (TTc ++ T2))
    (h : RetOK X Q (some (.int s0)) (M, (gj G2), TTc ++ T2)) :
    WW X Q 33 [(0, .ref 0), (1, .int x1), (2, .int x2)] [.int s0] (M, (gj G2), TTc ++ T2) := by
  refine ww_goto C.1 (tgt := 37) dX9_bed_33 (by decide) ?_
  refine ww_iret C.1 dX9_bed_37 rfl ?_
  exact h
set_option maxHeartbeats 4000000 in
set_option maxRecDepth 20000 in
theorem bX9_guest_0 {X : CX} {Q : State → Prop} {M : Mem} {G2 : Grf} {T2 : List (Nat × Nat)} {x1 x2 : Int32} (C : Ok0 X mX9_guest (TTc ++ T2))
    (h : ((x1 < (0 : Int32) → RetOK X Q (some (.int (-1 : Int32))) (M, (gj G2), TTc ++ T2)) ∧ (¬ x1 < (0 : Int32) → (((M 37 6) ≤ x1 → RetOK X Q (some (.int (-1 : Int32))) (M, (gj G2), TTc ++ T2)) ∧ (¬ (M 37 6) ≤ x1 → ((x2 = (0 : Int32) → (vp_in x1 7 ∧ RetOK X Q (some (.int (M 38 x1.toNatClampNeg))) (M, (gj G2), TTc ++ T2))) ∧ (¬ x2 = (0 : Int32) → ((x2 = (1 : Int32) → (vp_in x1 7 ∧ RetOK X Q (some (.int (M 39 x1.toNatClampNeg))) (M, (gj G2), TTc ++ T2))) ∧ (¬ x2 = (1 : Int32) → ((x2 = (2 : Int32) → (vp_in x1 7 ∧ RetOK X Q (some (.int (M 40 x1.toNatClampNeg))) (M, (gj G2), TTc ++ T2))) ∧ (¬ x2 = (2 : Int32) → ((x2 = (3 : Int32) → (vp_in x1 7 ∧ RetOK X Q (some (.int ((M 42 x1.toNatClampNeg) + (100 : Int32)))) (M, (gj G2), TTc ++ T2))) ∧ (¬ x2 = (3 : Int32) → ((x2 = (4 : Int32) → (vp_in x1 7 ∧ RetOK X Q (some (.int (M 41 x1.toNatClampNeg))) (M, (gj G2), TTc ++ T2))) ∧ (¬ x2 = (4 : Int32) → ((x2 = (5 : Int32) → WpI mX5_placeOf [.ref 37, .int x1] M (gj G2) (TTc ++ T2) (fun r M' => WW X Q 99 [(0, .ref 0), (1, .int x1), (2, .int x2), (3, .ref 37)] [.int r] (M', (gj G2), TTc ++ T2))) ∧ (¬ x2 = (5 : Int32) → RetOK X Q (some (.int (-1 : Int32))) (M, (gj G2), TTc ++ T2)))))))))))))))))) :
    WW X Q 0 [(0, .ref 0), (1, .int x1), (2, .int x2)] [] (M, (gj G2), TTc ++ T2) := by
  refine ww_aload_n C.1 dX9_guest_0 0 rfl rfl ?_
  refine wt_getR C.1 dX9_guest_1 flRX9_58 (tc0 T2) rfl (gg0_7 G2) ?_
  refine wt_getR C.1 dX9_guest_4 flRX9_104 (tc33 T2) rfl (gg33_1 G2) ?_
  refine ww_astore_n C.1 dX9_guest_7 rfl (by decide) [1, 2, 3, 0] (L' := [(0, .ref 0), (1, .int x1), (2, .int x2), (3, .ref 37)]) rfl ?_
  refine ww_aload_n C.1 dX9_guest_8 3 rfl rfl ?_
  refine ww_iload_n C.1 dX9_guest_9 1 rfl rfl ?_
  refine ww_vI C fX5_has (And.intro (by decide) (by decide)) mlRX9_128 dX9_guest_10 (tc37 T2) (by decide) rfl (As := [.int x1]) (rest := []) rfl rfl rfl (Nat.le_of_ble_eq_true rfl) (WpI.of (L0 := [(0, .ref 37), (1, .int x1)]) rfl rfl (Nat.le_of_ble_eq_true rfl) fun X1 Q1 C1 k1 => ?_)
  refine ww_iload_n C1.1 dX5_has_0 1 rfl rfl ?_
  refine ww_if_lt (x := x1) C1.1 (tgt := 16) dX5_has_1 (by decide) (fun hh => ?_) (fun hh => ?_)
  · replace h := h.1 hh
    refine ww_iconst C1.1 (v := (0 : Int32)) dX5_has_16 (by decide) ?_
    refine ww_zret C1.1 dX5_has_17 rfl (Or.inl rfl) ?_
    refine k1 _ _ ?_
    refine ww_if_ne (x := (0 : Int32)) C.1 (tgt := 18) dX9_guest_13 (by decide) (fun hh => absurd hh (by decide)) (fun _ => ?_)
    refine ww_iconst C.1 (v := (-1 : Int32)) dX9_guest_16 (by decide) ?_
    refine ww_iret C.1 dX9_guest_17 rfl ?_
    exact h
  · replace h := h.2 hh
    refine ww_iload_n C1.1 dX5_has_4 1 rfl rfl ?_
    refine ww_aload_n C1.1 dX5_has_5 0 rfl rfl ?_
    refine wt_getI C1.1 dX5_has_6 flRX5_30 (tc37 T2) rfl ?_
    refine ww_icmp_ge (x := x1) (y := (M 37 6)) C1.1 (tgt := 16) dX5_has_9 (by decide) (fun hh => ?_) (fun hh => ?_)
    · replace h := h.1 hh
      refine ww_iconst C1.1 (v := (0 : Int32)) dX5_has_16 (by decide) ?_
      refine ww_zret C1.1 dX5_has_17 rfl (Or.inl rfl) ?_
      refine k1 _ _ ?_
      refine ww_if_ne (x := (0 : Int32)) C.1 (tgt := 18) dX9_guest_13 (by decide) (fun hh => absurd hh (by decide)) (fun _ => ?_)
      refine ww_iconst C.1 (v := (-1 : Int32)) dX9_guest_16 (by decide) ?_
      refine ww_iret C.1 dX9_guest_17 rfl ?_
      exact h
    · replace h := h.2 hh
      refine ww_iconst C1.1 (v := (1 : Int32)) dX5_has_12 (by decide) ?_
      refine ww_goto C1.1 (tgt := 17) dX5_has_13 (by decide) ?_
      refine ww_zret C1.1 dX5_has_17 rfl (Or.inr rfl) ?_
      refine k1 _ _ ?_
      refine ww_if_ne (x := (1 : Int32)) C.1 (tgt := 18) dX9_guest_13 (by decide) (fun _ => ?_) (fun hh => absurd hh (by decide))
      refine ww_iload_n C.1 dX9_guest_18 2 rfl rfl ?_
      by_cases hc0 : x2 = (0 : Int32)
      · replace h := h.1 hc0
        refine ww_tableIn (x := x2) C.1 (tgt := 56) dX9_guest_19 (by rw [hc0]; decide) (by rw [hc0]; decide) (by rw [hc0]; rfl) (by decide) ?_
        refine ww_aload_n C.1 dX9_guest_56 3 rfl rfl ?_
        refine wt_getR C.1 dX9_guest_57 flRX9_129 (tc37 T2) rfl (gg37_0 G2) ?_
        refine ww_iload_n C.1 dX9_guest_60 1 rfl rfl ?_
        refine wt_iald C.1 dX9_guest_61 (tc38 T2) h.1 ?_
        replace h := h.2
        refine ww_iret C.1 dX9_guest_62 rfl ?_
        exact h
      · replace h := h.2 hc0
        by_cases hc1 : x2 = (1 : Int32)
        · replace h := h.1 hc1
          refine ww_tableIn (x := x2) C.1 (tgt := 63) dX9_guest_19 (by rw [hc1]; decide) (by rw [hc1]; decide) (by rw [hc1]; rfl) (by decide) ?_
          refine ww_aload_n C.1 dX9_guest_63 3 rfl rfl ?_
          refine wt_getR C.1 dX9_guest_64 flRX9_132 (tc37 T2) rfl (gg37_1 G2) ?_
          refine ww_iload_n C.1 dX9_guest_67 1 rfl rfl ?_
          refine wt_iald C.1 dX9_guest_68 (tc39 T2) h.1 ?_
          replace h := h.2
          refine ww_iret C.1 dX9_guest_69 rfl ?_
          exact h
        · replace h := h.2 hc1
          by_cases hc2 : x2 = (2 : Int32)
          · replace h := h.1 hc2
            refine ww_tableIn (x := x2) C.1 (tgt := 70) dX9_guest_19 (by rw [hc2]; decide) (by rw [hc2]; decide) (by rw [hc2]; rfl) (by decide) ?_
            refine ww_aload_n C.1 dX9_guest_70 3 rfl rfl ?_
            refine wt_getR C.1 dX9_guest_71 flRX9_135 (tc37 T2) rfl (gg37_2 G2) ?_
            refine ww_iload_n C.1 dX9_guest_74 1 rfl rfl ?_
            refine wt_iald C.1 dX9_guest_75 (tc40 T2) h.1 ?_
            replace h := h.2
            refine ww_iret C.1 dX9_guest_76 rfl ?_
            exact h
          · replace h := h.2 hc2
            by_cases hc3 : x2 = (3 : Int32)
            · replace h := h.1 hc3
              refine ww_tableIn (x := x2) C.1 (tgt := 77) dX9_guest_19 (by rw [hc3]; decide) (by rw [hc3]; decide) (by rw [hc3]; rfl) (by decide) ?_
              refine ww_aload_n C.1 dX9_guest_77 3 rfl rfl ?_
              refine wt_getR C.1 dX9_guest_78 flRX9_138 (tc37 T2) rfl (gg37_4 G2) ?_
              refine ww_iload_n C.1 dX9_guest_81 1 rfl rfl ?_
              refine wt_iald C.1 dX9_guest_82 (tc42 T2) h.1 ?_
              replace h := h.2
              refine ww_bipush C.1 (v := (100 : Int32)) dX9_guest_83 (by decide) ?_
              refine ww_iadd C.1 dX9_guest_85 ?_
              refine ww_iret C.1 dX9_guest_86 rfl ?_
              exact h
            · replace h := h.2 hc3
              by_cases hc4 : x2 = (4 : Int32)
              · replace h := h.1 hc4
                refine ww_tableIn (x := x2) C.1 (tgt := 87) dX9_guest_19 (by rw [hc4]; decide) (by rw [hc4]; decide) (by rw [hc4]; rfl) (by decide) ?_
                refine ww_aload_n C.1 dX9_guest_87 3 rfl rfl ?_
                refine wt_getR C.1 dX9_guest_88 flRX9_141 (tc37 T2) rfl (gg37_3 G2) ?_
                refine ww_iload_n C.1 dX9_guest_91 1 rfl rfl ?_
                refine wt_iald C.1 dX9_guest_92 (tc41 T2) h.1 ?_
                replace h := h.2
                refine ww_iret C.1 dX9_guest_93 rfl ?_
                exact h
              · replace h := h.2 hc4
                by_cases hc5 : x2 = (5 : Int32)
                · replace h := h.1 hc5
                  refine ww_tableIn (x := x2) C.1 (tgt := 94) dX9_guest_19 (by rw [hc5]; decide) (by rw [hc5]; decide) (by rw [hc5]; rfl) (by decide) ?_
                  refine ww_aload_n C.1 dX9_guest_94 3 rfl rfl ?_
                  refine ww_iload_n C.1 dX9_guest_95 1 rfl rfl ?_
                  refine ww_vI C fX5_placeOf (And.intro (by decide) (by decide)) mlRX9_144 dX9_guest_96 (tc37 T2) (by decide) rfl (As := [.int x1]) (rest := []) rfl rfl rfl (Nat.le_of_ble_eq_true rfl) ?_
                  exact h
                · replace h := h.2 hc5
                  refine ww_tableOut (x := x2) C.1 (tgt := 100) dX9_guest_19 (by have e0 := lv_neT hc0 (a := 0) (by decide); have e1 := lv_neT hc1 (a := 1) (by decide); have e2 := lv_neT hc2 (a := 2) (by decide); have e3 := lv_neT hc3 (a := 3) (by decide); have e4 := lv_neT hc4 (a := 4) (by decide); have e5 := lv_neT hc5 (a := 5) (by decide); omega) (by decide) ?_
                  refine ww_iconst C.1 (v := (-1 : Int32)) dX9_guest_100 (by decide) ?_
                  refine ww_iret C.1 dX9_guest_101 rfl ?_
                  exact h
set_option maxHeartbeats 4000000 in
set_option maxRecDepth 20000 in
theorem bX9_guest_99 {X : CX} {Q : State → Prop} {M : Mem} {G2 : Grf} {T2 : List (Nat × Nat)} {x1 x2 s0 : Int32} (C : Ok0 X mX9_guest (TTc ++ T2))
    (h : RetOK X Q (some (.int s0)) (M, (gj G2), TTc ++ T2)) :
    WW X Q 99 [(0, .ref 0), (1, .int x1), (2, .int x2), (3, .ref 37)] [.int s0] (M, (gj G2), TTc ++ T2) := by
  refine ww_iret C.1 dX9_guest_99 rfl ?_
  exact h
set_option maxHeartbeats 4000000 in
set_option maxRecDepth 20000 in
theorem bX9_harm_0 {X : CX} {Q : State → Prop} {M : Mem} {G2 : Grf} {T2 : List (Nat × Nat)} {x1 x2 x3 : Int32} (C : Ok0 X mX9_harm (TTc ++ T2))
    (h : ((x1 < (0 : Int32) → RetOK X Q (some (.int (-1 : Int32))) (M, (gj G2), TTc ++ T2)) ∧ (¬ x1 < (0 : Int32) → (((M 37 6) ≤ x1 → RetOK X Q (some (.int (-1 : Int32))) (M, (gj G2), TTc ++ T2)) ∧ (¬ (M 37 6) ≤ x1 → ((x2 < (0 : Int32) → RetOK X Q (some (.int (-1 : Int32))) (M, (gj G2), TTc ++ T2)) ∧ (¬ x2 < (0 : Int32) → (((M 34 2) ≤ x2 → RetOK X Q (some (.int (-1 : Int32))) (M, (gj G2), TTc ++ T2)) ∧ (¬ (M 34 2) ≤ x2 → ((x3 < (0 : Int32) → RetOK X Q (some (.int (-1 : Int32))) (M, (gj G2), TTc ++ T2)) ∧ (¬ x3 < (0 : Int32) → (((29 : Int32) < x3 → RetOK X Q (some (.int (-1 : Int32))) (M, (gj G2), TTc ++ T2)) ∧ (¬ (29 : Int32) < x3 → WpI mX0_lengthOn [.ref 34, .int x2, .int x3] M (gj G2) (TTc ++ T2) (fun r M' => WW X Q 58 [(0, .ref 0), (1, .int x1), (2, .int x2), (3, .int x3)] [.int r, .int x3, .int x1, .ref 37] (M', (gj G2), TTc ++ T2))))))))))))))) :
    WW X Q 0 [(0, .ref 0), (1, .int x1), (2, .int x2), (3, .int x3)] [] (M, (gj G2), TTc ++ T2) := by
  refine ww_aload_n C.1 dX9_harm_0 0 rfl rfl ?_
  refine wt_getR C.1 dX9_harm_1 flRX9_58 (tc0 T2) rfl (gg0_7 G2) ?_
  refine wt_getR C.1 dX9_harm_4 flRX9_104 (tc33 T2) rfl (gg33_1 G2) ?_
  refine ww_iload_n C.1 dX9_harm_7 1 rfl rfl ?_
  refine ww_vI C fX5_has (And.intro (by decide) (by decide)) mlRX9_128 dX9_harm_8 (tc37 T2) (by decide) rfl (As := [.int x1]) (rest := []) rfl rfl rfl (Nat.le_of_ble_eq_true rfl) (WpI.of (L0 := [(0, .ref 37), (1, .int x1)]) rfl rfl (Nat.le_of_ble_eq_true rfl) fun X1 Q1 C1 k1 => ?_)
  refine ww_iload_n C1.1 dX5_has_0 1 rfl rfl ?_
  refine ww_if_lt (x := x1) C1.1 (tgt := 16) dX5_has_1 (by decide) (fun hh => ?_) (fun hh => ?_)
  · replace h := h.1 hh
    refine ww_iconst C1.1 (v := (0 : Int32)) dX5_has_16 (by decide) ?_
    refine ww_zret C1.1 dX5_has_17 rfl (Or.inl rfl) ?_
    refine k1 _ _ ?_
    refine ww_if_eq (x := (0 : Int32)) C.1 (tgt := 35) dX9_harm_11 (by decide) (fun _ => ?_) (fun hh => absurd hh (by decide))
    refine ww_iconst C.1 (v := (-1 : Int32)) dX9_harm_35 (by decide) ?_
    refine ww_iret C.1 dX9_harm_36 rfl ?_
    exact h
  · replace h := h.2 hh
    refine ww_iload_n C1.1 dX5_has_4 1 rfl rfl ?_
    refine ww_aload_n C1.1 dX5_has_5 0 rfl rfl ?_
    refine wt_getI C1.1 dX5_has_6 flRX5_30 (tc37 T2) rfl ?_
    refine ww_icmp_ge (x := x1) (y := (M 37 6)) C1.1 (tgt := 16) dX5_has_9 (by decide) (fun hh => ?_) (fun hh => ?_)
    · replace h := h.1 hh
      refine ww_iconst C1.1 (v := (0 : Int32)) dX5_has_16 (by decide) ?_
      refine ww_zret C1.1 dX5_has_17 rfl (Or.inl rfl) ?_
      refine k1 _ _ ?_
      refine ww_if_eq (x := (0 : Int32)) C.1 (tgt := 35) dX9_harm_11 (by decide) (fun _ => ?_) (fun hh => absurd hh (by decide))
      refine ww_iconst C.1 (v := (-1 : Int32)) dX9_harm_35 (by decide) ?_
      refine ww_iret C.1 dX9_harm_36 rfl ?_
      exact h
    · replace h := h.2 hh
      refine ww_iconst C1.1 (v := (1 : Int32)) dX5_has_12 (by decide) ?_
      refine ww_goto C1.1 (tgt := 17) dX5_has_13 (by decide) ?_
      refine ww_zret C1.1 dX5_has_17 rfl (Or.inr rfl) ?_
      refine k1 _ _ ?_
      refine ww_if_eq (x := (1 : Int32)) C.1 (tgt := 35) dX9_harm_11 (by decide) (fun hh => absurd hh (by decide)) (fun _ => ?_)
      refine ww_aload_n C.1 dX9_harm_14 0 rfl rfl ?_
      refine wt_getR C.1 dX9_harm_15 flRX9_58 (tc0 T2) rfl (gg0_7 G2) ?_
      refine wt_getR C.1 dX9_harm_18 flRX9_111 (tc33 T2) rfl (gg33_0 G2) ?_
      refine ww_iload_n C.1 dX9_harm_21 2 rfl rfl ?_
      refine ww_vI C fX0_has (And.intro (by decide) (by decide)) mlRX9_115 dX9_harm_22 (tc34 T2) (by decide) rfl (As := [.int x2]) (rest := []) rfl rfl rfl (Nat.le_of_ble_eq_true rfl) (WpI.of (L0 := [(0, .ref 34), (1, .int x2)]) rfl rfl (Nat.le_of_ble_eq_true rfl) fun X2 Q2 C2 k2 => ?_)
      refine ww_iload_n C2.1 dX0_has_0 1 rfl rfl ?_
      refine ww_if_lt (x := x2) C2.1 (tgt := 16) dX0_has_1 (by decide) (fun hh => ?_) (fun hh => ?_)
      · replace h := h.1 hh
        refine ww_iconst C2.1 (v := (0 : Int32)) dX0_has_16 (by decide) ?_
        refine ww_zret C2.1 dX0_has_17 rfl (Or.inl rfl) ?_
        refine k2 _ _ ?_
        refine ww_if_eq (x := (0 : Int32)) C.1 (tgt := 35) dX9_harm_25 (by decide) (fun _ => ?_) (fun hh => absurd hh (by decide))
        refine ww_iconst C.1 (v := (-1 : Int32)) dX9_harm_35 (by decide) ?_
        refine ww_iret C.1 dX9_harm_36 rfl ?_
        exact h
      · replace h := h.2 hh
        refine ww_iload_n C2.1 dX0_has_4 1 rfl rfl ?_
        refine ww_aload_n C2.1 dX0_has_5 0 rfl rfl ?_
        refine wt_getI C2.1 dX0_has_6 flRX0_22 (tc34 T2) rfl ?_
        refine ww_icmp_ge (x := x2) (y := (M 34 2)) C2.1 (tgt := 16) dX0_has_9 (by decide) (fun hh => ?_) (fun hh => ?_)
        · replace h := h.1 hh
          refine ww_iconst C2.1 (v := (0 : Int32)) dX0_has_16 (by decide) ?_
          refine ww_zret C2.1 dX0_has_17 rfl (Or.inl rfl) ?_
          refine k2 _ _ ?_
          refine ww_if_eq (x := (0 : Int32)) C.1 (tgt := 35) dX9_harm_25 (by decide) (fun _ => ?_) (fun hh => absurd hh (by decide))
          refine ww_iconst C.1 (v := (-1 : Int32)) dX9_harm_35 (by decide) ?_
          refine ww_iret C.1 dX9_harm_36 rfl ?_
          exact h
        · replace h := h.2 hh
          refine ww_iconst C2.1 (v := (1 : Int32)) dX0_has_12 (by decide) ?_
          refine ww_goto C2.1 (tgt := 17) dX0_has_13 (by decide) ?_
          refine ww_zret C2.1 dX0_has_17 rfl (Or.inr rfl) ?_
          refine k2 _ _ ?_
          refine ww_if_eq (x := (1 : Int32)) C.1 (tgt := 35) dX9_harm_25 (by decide) (fun hh => absurd hh (by decide)) (fun _ => ?_)
          refine ww_iload_n C.1 dX9_harm_28 3 rfl rfl ?_
          refine ww_sI C fX9_isNight (And.intro (by decide) (by decide)) mlRX9_121 dX9_harm_29 (As := [.int x3]) (rest := []) rfl rfl rfl (Nat.le_of_ble_eq_true rfl) (WpI.of (L0 := [(0, .int x3)]) rfl rfl (Nat.le_of_ble_eq_true rfl) fun X3 Q3 C3 k3 => ?_)
          refine ww_iload_n C3.1 dX9_isNight_0 0 rfl rfl ?_
          refine ww_iconst C3.1 (v := (0 : Int32)) dX9_isNight_1 (by decide) ?_
          refine ww_bipush C3.1 (v := (29 : Int32)) dX9_isNight_2 (by decide) ?_
          refine ww_sI C3 fX9_isWithin (And.intro (by decide) (by decide)) mlRX9_89 dX9_isNight_4 (As := [.int x3, .int (0 : Int32), .int (29 : Int32)]) (rest := []) rfl rfl rfl (Nat.le_of_ble_eq_true rfl) (WpI.of (L0 := [(0, .int x3), (1, .int (0 : Int32)), (2, .int (29 : Int32))]) rfl rfl (Nat.le_of_ble_eq_true rfl) fun X4 Q4 C4 k4 => ?_)
          refine ww_iload_n C4.1 dX9_isWithin_0 0 rfl rfl ?_
          refine ww_iload_n C4.1 dX9_isWithin_1 1 rfl rfl ?_
          refine ww_icmp_lt (x := x3) (y := (0 : Int32)) C4.1 (tgt := 14) dX9_isWithin_2 (by decide) (fun hh => ?_) (fun hh => ?_)
          · replace h := h.1 hh
            refine ww_iconst C4.1 (v := (0 : Int32)) dX9_isWithin_14 (by decide) ?_
            refine ww_zret C4.1 dX9_isWithin_15 rfl (Or.inl rfl) ?_
            refine k4 _ _ ?_
            refine ww_zret C3.1 dX9_isNight_7 rfl (Or.inl rfl) ?_
            refine k3 _ _ ?_
            refine ww_if_ne (x := (0 : Int32)) C.1 (tgt := 37) dX9_harm_32 (by decide) (fun hh => absurd hh (by decide)) (fun _ => ?_)
            refine ww_iconst C.1 (v := (-1 : Int32)) dX9_harm_35 (by decide) ?_
            refine ww_iret C.1 dX9_harm_36 rfl ?_
            exact h
          · replace h := h.2 hh
            refine ww_iload_n C4.1 dX9_isWithin_5 0 rfl rfl ?_
            refine ww_iload_n C4.1 dX9_isWithin_6 2 rfl rfl ?_
            refine ww_icmp_gt (x := x3) (y := (29 : Int32)) C4.1 (tgt := 14) dX9_isWithin_7 (by decide) (fun hh => ?_) (fun hh => ?_)
            · replace h := h.1 hh
              refine ww_iconst C4.1 (v := (0 : Int32)) dX9_isWithin_14 (by decide) ?_
              refine ww_zret C4.1 dX9_isWithin_15 rfl (Or.inl rfl) ?_
              refine k4 _ _ ?_
              refine ww_zret C3.1 dX9_isNight_7 rfl (Or.inl rfl) ?_
              refine k3 _ _ ?_
              refine ww_if_ne (x := (0 : Int32)) C.1 (tgt := 37) dX9_harm_32 (by decide) (fun hh => absurd hh (by decide)) (fun _ => ?_)
              refine ww_iconst C.1 (v := (-1 : Int32)) dX9_harm_35 (by decide) ?_
              refine ww_iret C.1 dX9_harm_36 rfl ?_
              exact h
            · replace h := h.2 hh
              refine ww_iconst C4.1 (v := (1 : Int32)) dX9_isWithin_10 (by decide) ?_
              refine ww_goto C4.1 (tgt := 15) dX9_isWithin_11 (by decide) ?_
              refine ww_zret C4.1 dX9_isWithin_15 rfl (Or.inr rfl) ?_
              refine k4 _ _ ?_
              refine ww_zret C3.1 dX9_isNight_7 rfl (Or.inr rfl) ?_
              refine k3 _ _ ?_
              refine ww_if_ne (x := (1 : Int32)) C.1 (tgt := 37) dX9_harm_32 (by decide) (fun _ => ?_) (fun hh => absurd hh (by decide))
              refine ww_aload_n C.1 dX9_harm_37 0 rfl rfl ?_
              refine wt_getR C.1 dX9_harm_38 flRX9_58 (tc0 T2) rfl (gg0_7 G2) ?_
              refine wt_getR C.1 dX9_harm_41 flRX9_104 (tc33 T2) rfl (gg33_1 G2) ?_
              refine ww_iload_n C.1 dX9_harm_44 1 rfl rfl ?_
              refine ww_iload_n C.1 dX9_harm_45 3 rfl rfl ?_
              refine ww_aload_n C.1 dX9_harm_46 0 rfl rfl ?_
              refine wt_getR C.1 dX9_harm_47 flRX9_58 (tc0 T2) rfl (gg0_7 G2) ?_
              refine wt_getR C.1 dX9_harm_50 flRX9_111 (tc33 T2) rfl (gg33_0 G2) ?_
              refine ww_iload_n C.1 dX9_harm_53 2 rfl rfl ?_
              refine ww_iload_n C.1 dX9_harm_54 3 rfl rfl ?_
              refine ww_vI C fX0_lengthOn (And.intro (by decide) (by decide)) mlRX9_124 dX9_harm_55 (tc34 T2) (by decide) rfl (As := [.int x2, .int x3]) (rest := [.int x3, .int x1, .ref 37]) rfl rfl rfl (Nat.le_of_ble_eq_true rfl) ?_
              exact h
set_option maxHeartbeats 4000000 in
set_option maxRecDepth 20000 in
theorem bX9_harm_58 {X : CX} {Q : State → Prop} {M : Mem} {G2 : Grf} {T2 : List (Nat × Nat)} {x1 x2 x3 s1 s2 s3 : Int32} (C : Ok0 X mX9_harm (TTc ++ T2))
    (h : WpI mX5_harmAt [.ref 37, .int s1, .int s2, .int s3] M (gj G2) (TTc ++ T2) (fun r M' => WW X Q 61 [(0, .ref 0), (1, .int x1), (2, .int x2), (3, .int x3)] [.int r] (M', (gj G2), TTc ++ T2))) :
    WW X Q 58 [(0, .ref 0), (1, .int x1), (2, .int x2), (3, .int x3)] [.int s3, .int s2, .int s1, .ref 37] (M, (gj G2), TTc ++ T2) := by
  refine ww_vI C fX5_harmAt (And.intro (by decide) (by decide)) mlRX9_148 dX9_harm_58 (tc37 T2) (by decide) rfl (As := [.int s1, .int s2, .int s3]) (rest := []) rfl rfl rfl (Nat.le_of_ble_eq_true rfl) ?_
  exact h
set_option maxHeartbeats 4000000 in
set_option maxRecDepth 20000 in
theorem bX9_harm_61 {X : CX} {Q : State → Prop} {M : Mem} {G2 : Grf} {T2 : List (Nat × Nat)} {x1 x2 x3 s0 : Int32} (C : Ok0 X mX9_harm (TTc ++ T2))
    (h : RetOK X Q (some (.int s0)) (M, (gj G2), TTc ++ T2)) :
    WW X Q 61 [(0, .ref 0), (1, .int x1), (2, .int x2), (3, .int x3)] [.int s0] (M, (gj G2), TTc ++ T2) := by
  refine ww_iret C.1 dX9_harm_61 rfl ?_
  exact h
set_option maxHeartbeats 4000000 in
set_option maxRecDepth 20000 in
theorem bX9_lies_0 {X : CX} {Q : State → Prop} {M : Mem} {G2 : Grf} {T2 : List (Nat × Nat)} {x1 x2 : Int32} (C : Ok0 X mX9_lies (TTc ++ T2))
    (h : ((x1 < (0 : Int32) → RetOK X Q (some (.int (-1 : Int32))) (M, (gj G2), TTc ++ T2)) ∧ (¬ x1 < (0 : Int32) → (((M 37 6) ≤ x1 → RetOK X Q (some (.int (-1 : Int32))) (M, (gj G2), TTc ++ T2)) ∧ (¬ (M 37 6) ≤ x1 → ((x2 < (0 : Int32) → RetOK X Q (some (.int (-1 : Int32))) (M, (gj G2), TTc ++ T2)) ∧ (¬ x2 < (0 : Int32) → (((4 : Int32) < x2 → RetOK X Q (some (.int (-1 : Int32))) (M, (gj G2), TTc ++ T2)) ∧ (¬ (4 : Int32) < x2 → WpV mX3_pass [.ref 4, .ref 33, .int (1000000 : Int32)] M (gj G2) (TTc ++ T2) (fun M' => WW X Q 38 [(0, .ref 0), (1, .int x1), (2, .int x2)] [] (M', (gj G2), TTc ++ T2))))))))))) :
    WW X Q 0 [(0, .ref 0), (1, .int x1), (2, .int x2)] [] (M, (gj G2), TTc ++ T2) := by
  refine ww_aload_n C.1 dX9_lies_0 0 rfl rfl ?_
  refine wt_getR C.1 dX9_lies_1 flRX9_58 (tc0 T2) rfl (gg0_7 G2) ?_
  refine wt_getR C.1 dX9_lies_4 flRX9_104 (tc33 T2) rfl (gg33_1 G2) ?_
  refine ww_iload_n C.1 dX9_lies_7 1 rfl rfl ?_
  refine ww_vI C fX5_has (And.intro (by decide) (by decide)) mlRX9_128 dX9_lies_8 (tc37 T2) (by decide) rfl (As := [.int x1]) (rest := []) rfl rfl rfl (Nat.le_of_ble_eq_true rfl) (WpI.of (L0 := [(0, .ref 37), (1, .int x1)]) rfl rfl (Nat.le_of_ble_eq_true rfl) fun X1 Q1 C1 k1 => ?_)
  refine ww_iload_n C1.1 dX5_has_0 1 rfl rfl ?_
  refine ww_if_lt (x := x1) C1.1 (tgt := 16) dX5_has_1 (by decide) (fun hh => ?_) (fun hh => ?_)
  · replace h := h.1 hh
    refine ww_iconst C1.1 (v := (0 : Int32)) dX5_has_16 (by decide) ?_
    refine ww_zret C1.1 dX5_has_17 rfl (Or.inl rfl) ?_
    refine k1 _ _ ?_
    refine ww_if_eq (x := (0 : Int32)) C.1 (tgt := 23) dX9_lies_11 (by decide) (fun _ => ?_) (fun hh => absurd hh (by decide))
    refine ww_iconst C.1 (v := (-1 : Int32)) dX9_lies_23 (by decide) ?_
    refine ww_iret C.1 dX9_lies_24 rfl ?_
    exact h
  · replace h := h.2 hh
    refine ww_iload_n C1.1 dX5_has_4 1 rfl rfl ?_
    refine ww_aload_n C1.1 dX5_has_5 0 rfl rfl ?_
    refine wt_getI C1.1 dX5_has_6 flRX5_30 (tc37 T2) rfl ?_
    refine ww_icmp_ge (x := x1) (y := (M 37 6)) C1.1 (tgt := 16) dX5_has_9 (by decide) (fun hh => ?_) (fun hh => ?_)
    · replace h := h.1 hh
      refine ww_iconst C1.1 (v := (0 : Int32)) dX5_has_16 (by decide) ?_
      refine ww_zret C1.1 dX5_has_17 rfl (Or.inl rfl) ?_
      refine k1 _ _ ?_
      refine ww_if_eq (x := (0 : Int32)) C.1 (tgt := 23) dX9_lies_11 (by decide) (fun _ => ?_) (fun hh => absurd hh (by decide))
      refine ww_iconst C.1 (v := (-1 : Int32)) dX9_lies_23 (by decide) ?_
      refine ww_iret C.1 dX9_lies_24 rfl ?_
      exact h
    · replace h := h.2 hh
      refine ww_iconst C1.1 (v := (1 : Int32)) dX5_has_12 (by decide) ?_
      refine ww_goto C1.1 (tgt := 17) dX5_has_13 (by decide) ?_
      refine ww_zret C1.1 dX5_has_17 rfl (Or.inr rfl) ?_
      refine k1 _ _ ?_
      refine ww_if_eq (x := (1 : Int32)) C.1 (tgt := 23) dX9_lies_11 (by decide) (fun hh => absurd hh (by decide)) (fun _ => ?_)
      refine ww_iload_n C.1 dX9_lies_14 2 rfl rfl ?_
      refine ww_iconst C.1 (v := (0 : Int32)) dX9_lies_15 (by decide) ?_
      refine ww_iconst C.1 (v := (4 : Int32)) dX9_lies_16 (by decide) ?_
      refine ww_sI C fX9_isWithin (And.intro (by decide) (by decide)) mlRX9_89 dX9_lies_17 (As := [.int x2, .int (0 : Int32), .int (4 : Int32)]) (rest := []) rfl rfl rfl (Nat.le_of_ble_eq_true rfl) (WpI.of (L0 := [(0, .int x2), (1, .int (0 : Int32)), (2, .int (4 : Int32))]) rfl rfl (Nat.le_of_ble_eq_true rfl) fun X2 Q2 C2 k2 => ?_)
      refine ww_iload_n C2.1 dX9_isWithin_0 0 rfl rfl ?_
      refine ww_iload_n C2.1 dX9_isWithin_1 1 rfl rfl ?_
      refine ww_icmp_lt (x := x2) (y := (0 : Int32)) C2.1 (tgt := 14) dX9_isWithin_2 (by decide) (fun hh => ?_) (fun hh => ?_)
      · replace h := h.1 hh
        refine ww_iconst C2.1 (v := (0 : Int32)) dX9_isWithin_14 (by decide) ?_
        refine ww_zret C2.1 dX9_isWithin_15 rfl (Or.inl rfl) ?_
        refine k2 _ _ ?_
        refine ww_if_ne (x := (0 : Int32)) C.1 (tgt := 25) dX9_lies_20 (by decide) (fun hh => absurd hh (by decide)) (fun _ => ?_)
        refine ww_iconst C.1 (v := (-1 : Int32)) dX9_lies_23 (by decide) ?_
        refine ww_iret C.1 dX9_lies_24 rfl ?_
        exact h
      · replace h := h.2 hh
        refine ww_iload_n C2.1 dX9_isWithin_5 0 rfl rfl ?_
        refine ww_iload_n C2.1 dX9_isWithin_6 2 rfl rfl ?_
        refine ww_icmp_gt (x := x2) (y := (4 : Int32)) C2.1 (tgt := 14) dX9_isWithin_7 (by decide) (fun hh => ?_) (fun hh => ?_)
        · replace h := h.1 hh
          refine ww_iconst C2.1 (v := (0 : Int32)) dX9_isWithin_14 (by decide) ?_
          refine ww_zret C2.1 dX9_isWithin_15 rfl (Or.inl rfl) ?_
          refine k2 _ _ ?_
          refine ww_if_ne (x := (0 : Int32)) C.1 (tgt := 25) dX9_lies_20 (by decide) (fun hh => absurd hh (by decide)) (fun _ => ?_)
          refine ww_iconst C.1 (v := (-1 : Int32)) dX9_lies_23 (by decide) ?_
          refine ww_iret C.1 dX9_lies_24 rfl ?_
          exact h
        · replace h := h.2 hh
          refine ww_iconst C2.1 (v := (1 : Int32)) dX9_isWithin_10 (by decide) ?_
          refine ww_goto C2.1 (tgt := 15) dX9_isWithin_11 (by decide) ?_
          refine ww_zret C2.1 dX9_isWithin_15 rfl (Or.inr rfl) ?_
          refine k2 _ _ ?_
          refine ww_if_ne (x := (1 : Int32)) C.1 (tgt := 25) dX9_lies_20 (by decide) (fun _ => ?_) (fun hh => absurd hh (by decide))
          refine ww_aload_n C.1 dX9_lies_25 0 rfl rfl ?_
          refine wt_getR C.1 dX9_lies_26 flRX9_19 (tc0 T2) rfl (gg0_1 G2) ?_
          refine ww_aload_n C.1 dX9_lies_29 0 rfl rfl ?_
          refine wt_getR C.1 dX9_lies_30 flRX9_58 (tc0 T2) rfl (gg0_7 G2) ?_
          refine ww_ldc C.1 kcRX9_152 dX9_lies_33 ?_
          refine ww_vV C fX3_pass (And.intro (by decide) (by decide)) mlRX9_153 dX9_lies_35 (tc4 T2) (by decide) rfl (As := [.ref 33, .int (1000000 : Int32)]) (rest := []) rfl rfl rfl (Nat.le_of_ble_eq_true rfl) ?_
          exact h
set_option maxHeartbeats 4000000 in
set_option maxRecDepth 20000 in
theorem bX9_lies_38 {X : CX} {Q : State → Prop} {M : Mem} {G2 : Grf} {T2 : List (Nat × Nat)} {x1 x2 : Int32} (C : Ok0 X mX9_lies (TTc ++ T2))
    (h : ((¬ (((M 4 5) >>> (x1 &&& 31)) &&& (1 : Int32)) = (1 : Int32) → RetOK X Q (some (.int (-4 : Int32))) (M, (gj G2), TTc ++ T2)) ∧ ((((M 4 5) >>> (x1 &&& 31)) &&& (1 : Int32)) = (1 : Int32) → ((x2 = (0 : Int32) → (vp_in x1 7 ∧ RetOK X Q (some (.int (M 5 x1.toNatClampNeg))) (M, (gj G2), TTc ++ T2))) ∧ (¬ x2 = (0 : Int32) → ((x2 = (1 : Int32) → (vp_in x1 7 ∧ RetOK X Q (some (.int (M 6 x1.toNatClampNeg))) (M, (gj G2), TTc ++ T2))) ∧ (¬ x2 = (1 : Int32) → ((x2 = (2 : Int32) → (vp_in x1 7 ∧ RetOK X Q (some (.int (M 7 x1.toNatClampNeg))) (M, (gj G2), TTc ++ T2))) ∧ (¬ x2 = (2 : Int32) → ((x2 = (3 : Int32) → (vp_in x1 7 ∧ RetOK X Q (some (.int (M 8 x1.toNatClampNeg))) (M, (gj G2), TTc ++ T2))) ∧ (¬ x2 = (3 : Int32) → (vp_in x1 7 ∧ RetOK X Q (some (.int (M 9 x1.toNatClampNeg))) (M, (gj G2), TTc ++ T2))))))))))))) :
    WW X Q 38 [(0, .ref 0), (1, .int x1), (2, .int x2)] [] (M, (gj G2), TTc ++ T2) := by
  refine ww_aload_n C.1 dX9_lies_38 0 rfl rfl ?_
  refine wt_getR C.1 dX9_lies_39 flRX9_19 (tc0 T2) rfl (gg0_1 G2) ?_
  refine ww_iload_n C.1 dX9_lies_42 1 rfl rfl ?_
  refine ww_vI C fX3_hasLain (And.intro (by decide) (by decide)) mlRX9_157 dX9_lies_43 (tc4 T2) (by decide) rfl (As := [.int x1]) (rest := []) rfl rfl rfl (Nat.le_of_ble_eq_true rfl) (WpI.of (L0 := [(0, .ref 4), (1, .int x1)]) rfl rfl (Nat.le_of_ble_eq_true rfl) fun X1 Q1 C1 k1 => ?_)
  refine ww_aload_n C1.1 dX3_hasLain_0 0 rfl rfl ?_
  refine wt_getI C1.1 dX3_hasLain_1 flRX3_27 (tc4 T2) rfl ?_
  refine ww_iload_n C1.1 dX3_hasLain_4 1 rfl rfl ?_
  refine ww_nI C1 fX9_isIn (And.intro (by decide) (by decide)) nlRX3_92 dX3_hasLain_5 (As := [.int (M 4 5), .int x1]) (rest := []) rfl rfl rfl (Nat.le_of_ble_eq_true rfl) (WpI.of (L0 := [(0, .int (M 4 5)), (1, .int x1)]) rfl rfl (Nat.le_of_ble_eq_true rfl) fun X2 Q2 C2 k2 => ?_)
  refine ww_iload_n C2.1 dX9_isIn_0 0 rfl rfl ?_
  refine ww_iload_n C2.1 dX9_isIn_1 1 rfl rfl ?_
  refine ww_ishr C2.1 dX9_isIn_2 ?_
  refine ww_iconst C2.1 (v := (1 : Int32)) dX9_isIn_3 (by decide) ?_
  refine ww_iand C2.1 dX9_isIn_4 ?_
  refine ww_iconst C2.1 (v := (1 : Int32)) dX9_isIn_5 (by decide) ?_
  refine ww_icmp_ne (x := (((M 4 5) >>> (x1 &&& 31)) &&& (1 : Int32))) (y := (1 : Int32)) C2.1 (tgt := 13) dX9_isIn_6 (by decide) (fun hh => ?_) (fun hh => ?_)
  · replace h := h.1 hh
    refine ww_iconst C2.1 (v := (0 : Int32)) dX9_isIn_13 (by decide) ?_
    refine ww_zret C2.1 dX9_isIn_14 rfl (Or.inl rfl) ?_
    refine k2 _ _ ?_
    refine ww_zret C1.1 dX3_hasLain_8 rfl (Or.inl rfl) ?_
    refine k1 _ _ ?_
    refine ww_if_ne (x := (0 : Int32)) C.1 (tgt := 52) dX9_lies_46 (by decide) (fun hh => absurd hh (by decide)) (fun _ => ?_)
    refine ww_bipush C.1 (v := (-4 : Int32)) dX9_lies_49 (by decide) ?_
    refine ww_iret C.1 dX9_lies_51 rfl ?_
    exact h
  · replace h := h.2 hh
    refine ww_iconst C2.1 (v := (1 : Int32)) dX9_isIn_9 (by decide) ?_
    refine ww_goto C2.1 (tgt := 14) dX9_isIn_10 (by decide) ?_
    refine ww_zret C2.1 dX9_isIn_14 rfl (Or.inr rfl) ?_
    refine k2 _ _ ?_
    refine ww_zret C1.1 dX3_hasLain_8 rfl (Or.inr rfl) ?_
    refine k1 _ _ ?_
    refine ww_if_ne (x := (1 : Int32)) C.1 (tgt := 52) dX9_lies_46 (by decide) (fun _ => ?_) (fun hh => absurd hh (by decide))
    refine ww_iload_n C.1 dX9_lies_52 2 rfl rfl ?_
    by_cases hc0 : x2 = (0 : Int32)
    · replace h := h.1 hc0
      refine ww_tableIn (x := x2) C.1 (tgt := 84) dX9_lies_53 (by rw [hc0]; decide) (by rw [hc0]; decide) (by rw [hc0]; rfl) (by decide) ?_
      refine ww_aload_n C.1 dX9_lies_84 0 rfl rfl ?_
      refine wt_getR C.1 dX9_lies_85 flRX9_19 (tc0 T2) rfl (gg0_1 G2) ?_
      refine wt_getR C.1 dX9_lies_88 flRX9_160 (tc4 T2) rfl (gg4_0 G2) ?_
      refine ww_iload_n C.1 dX9_lies_91 1 rfl rfl ?_
      refine wt_iald C.1 dX9_lies_92 (tc5 T2) h.1 ?_
      replace h := h.2
      refine ww_iret C.1 dX9_lies_93 rfl ?_
      exact h
    · replace h := h.2 hc0
      by_cases hc1 : x2 = (1 : Int32)
      · replace h := h.1 hc1
        refine ww_tableIn (x := x2) C.1 (tgt := 94) dX9_lies_53 (by rw [hc1]; decide) (by rw [hc1]; decide) (by rw [hc1]; rfl) (by decide) ?_
        refine ww_aload_n C.1 dX9_lies_94 0 rfl rfl ?_
        refine wt_getR C.1 dX9_lies_95 flRX9_19 (tc0 T2) rfl (gg0_1 G2) ?_
        refine wt_getR C.1 dX9_lies_98 flRX9_163 (tc4 T2) rfl (gg4_1 G2) ?_
        refine ww_iload_n C.1 dX9_lies_101 1 rfl rfl ?_
        refine wt_iald C.1 dX9_lies_102 (tc6 T2) h.1 ?_
        replace h := h.2
        refine ww_iret C.1 dX9_lies_103 rfl ?_
        exact h
      · replace h := h.2 hc1
        by_cases hc2 : x2 = (2 : Int32)
        · replace h := h.1 hc2
          refine ww_tableIn (x := x2) C.1 (tgt := 104) dX9_lies_53 (by rw [hc2]; decide) (by rw [hc2]; decide) (by rw [hc2]; rfl) (by decide) ?_
          refine ww_aload_n C.1 dX9_lies_104 0 rfl rfl ?_
          refine wt_getR C.1 dX9_lies_105 flRX9_19 (tc0 T2) rfl (gg0_1 G2) ?_
          refine wt_getR C.1 dX9_lies_108 flRX9_166 (tc4 T2) rfl (gg4_2 G2) ?_
          refine ww_iload_n C.1 dX9_lies_111 1 rfl rfl ?_
          refine wt_iald C.1 dX9_lies_112 (tc7 T2) h.1 ?_
          replace h := h.2
          refine ww_iret C.1 dX9_lies_113 rfl ?_
          exact h
        · replace h := h.2 hc2
          by_cases hc3 : x2 = (3 : Int32)
          · replace h := h.1 hc3
            refine ww_tableIn (x := x2) C.1 (tgt := 114) dX9_lies_53 (by rw [hc3]; decide) (by rw [hc3]; decide) (by rw [hc3]; rfl) (by decide) ?_
            refine ww_aload_n C.1 dX9_lies_114 0 rfl rfl ?_
            refine wt_getR C.1 dX9_lies_115 flRX9_19 (tc0 T2) rfl (gg0_1 G2) ?_
            refine wt_getR C.1 dX9_lies_118 flRX9_169 (tc4 T2) rfl (gg4_3 G2) ?_
            refine ww_iload_n C.1 dX9_lies_121 1 rfl rfl ?_
            refine wt_iald C.1 dX9_lies_122 (tc8 T2) h.1 ?_
            replace h := h.2
            refine ww_iret C.1 dX9_lies_123 rfl ?_
            exact h
          · replace h := h.2 hc3
            refine ww_tableOut (x := x2) C.1 (tgt := 124) dX9_lies_53 (by have e0 := lv_neT hc0 (a := 0) (by decide); have e1 := lv_neT hc1 (a := 1) (by decide); have e2 := lv_neT hc2 (a := 2) (by decide); have e3 := lv_neT hc3 (a := 3) (by decide); omega) (by decide) ?_
            refine ww_aload_n C.1 dX9_lies_124 0 rfl rfl ?_
            refine wt_getR C.1 dX9_lies_125 flRX9_19 (tc0 T2) rfl (gg0_1 G2) ?_
            refine wt_getR C.1 dX9_lies_128 flRX9_172 (tc4 T2) rfl (gg4_4 G2) ?_
            refine ww_iload_n C.1 dX9_lies_131 1 rfl rfl ?_
            refine wt_iald C.1 dX9_lies_132 (tc9 T2) h.1 ?_
            replace h := h.2
            refine ww_iret C.1 dX9_lies_133 rfl ?_
            exact h
set_option maxHeartbeats 4000000 in
set_option maxRecDepth 20000 in
theorem bX9_who_0 {X : CX} {Q : State → Prop} {M : Mem} {G2 : Grf} {T2 : List (Nat × Nat)} {x1 x2 : Int32} (C : Ok0 X mX9_who (TTc ++ T2))
    (h : ((x1 < (0 : Int32) → RetOK X Q (some (.int (-1 : Int32))) (M, (gj G2), TTc ++ T2)) ∧ (¬ x1 < (0 : Int32) → (((M 34 2) ≤ x1 → RetOK X Q (some (.int (-1 : Int32))) (M, (gj G2), TTc ++ T2)) ∧ (¬ (M 34 2) ≤ x1 → ((x2 < (0 : Int32) → RetOK X Q (some (.int (-1 : Int32))) (M, (gj G2), TTc ++ T2)) ∧ (¬ x2 < (0 : Int32) → (((29 : Int32) < x2 → RetOK X Q (some (.int (-1 : Int32))) (M, (gj G2), TTc ++ T2)) ∧ (¬ (29 : Int32) < x2 → WpV mX3_pass [.ref 4, .ref 33, .int (1000000 : Int32)] M (gj G2) (TTc ++ T2) (fun M' => WW X Q 36 [(0, .ref 0), (1, .int x1), (2, .int x2)] [] (M', (gj G2), TTc ++ T2))))))))))) :
    WW X Q 0 [(0, .ref 0), (1, .int x1), (2, .int x2)] [] (M, (gj G2), TTc ++ T2) := by
  refine ww_aload_n C.1 dX9_who_0 0 rfl rfl ?_
  refine wt_getR C.1 dX9_who_1 flRX9_58 (tc0 T2) rfl (gg0_7 G2) ?_
  refine wt_getR C.1 dX9_who_4 flRX9_111 (tc33 T2) rfl (gg33_0 G2) ?_
  refine ww_iload_n C.1 dX9_who_7 1 rfl rfl ?_
  refine ww_vI C fX0_has (And.intro (by decide) (by decide)) mlRX9_115 dX9_who_8 (tc34 T2) (by decide) rfl (As := [.int x1]) (rest := []) rfl rfl rfl (Nat.le_of_ble_eq_true rfl) (WpI.of (L0 := [(0, .ref 34), (1, .int x1)]) rfl rfl (Nat.le_of_ble_eq_true rfl) fun X1 Q1 C1 k1 => ?_)
  refine ww_iload_n C1.1 dX0_has_0 1 rfl rfl ?_
  refine ww_if_lt (x := x1) C1.1 (tgt := 16) dX0_has_1 (by decide) (fun hh => ?_) (fun hh => ?_)
  · replace h := h.1 hh
    refine ww_iconst C1.1 (v := (0 : Int32)) dX0_has_16 (by decide) ?_
    refine ww_zret C1.1 dX0_has_17 rfl (Or.inl rfl) ?_
    refine k1 _ _ ?_
    refine ww_if_eq (x := (0 : Int32)) C.1 (tgt := 21) dX9_who_11 (by decide) (fun _ => ?_) (fun hh => absurd hh (by decide))
    refine ww_iconst C.1 (v := (-1 : Int32)) dX9_who_21 (by decide) ?_
    refine ww_iret C.1 dX9_who_22 rfl ?_
    exact h
  · replace h := h.2 hh
    refine ww_iload_n C1.1 dX0_has_4 1 rfl rfl ?_
    refine ww_aload_n C1.1 dX0_has_5 0 rfl rfl ?_
    refine wt_getI C1.1 dX0_has_6 flRX0_22 (tc34 T2) rfl ?_
    refine ww_icmp_ge (x := x1) (y := (M 34 2)) C1.1 (tgt := 16) dX0_has_9 (by decide) (fun hh => ?_) (fun hh => ?_)
    · replace h := h.1 hh
      refine ww_iconst C1.1 (v := (0 : Int32)) dX0_has_16 (by decide) ?_
      refine ww_zret C1.1 dX0_has_17 rfl (Or.inl rfl) ?_
      refine k1 _ _ ?_
      refine ww_if_eq (x := (0 : Int32)) C.1 (tgt := 21) dX9_who_11 (by decide) (fun _ => ?_) (fun hh => absurd hh (by decide))
      refine ww_iconst C.1 (v := (-1 : Int32)) dX9_who_21 (by decide) ?_
      refine ww_iret C.1 dX9_who_22 rfl ?_
      exact h
    · replace h := h.2 hh
      refine ww_iconst C1.1 (v := (1 : Int32)) dX0_has_12 (by decide) ?_
      refine ww_goto C1.1 (tgt := 17) dX0_has_13 (by decide) ?_
      refine ww_zret C1.1 dX0_has_17 rfl (Or.inr rfl) ?_
      refine k1 _ _ ?_
      refine ww_if_eq (x := (1 : Int32)) C.1 (tgt := 21) dX9_who_11 (by decide) (fun hh => absurd hh (by decide)) (fun _ => ?_)
      refine ww_iload_n C.1 dX9_who_14 2 rfl rfl ?_
      refine ww_sI C fX9_isNight (And.intro (by decide) (by decide)) mlRX9_121 dX9_who_15 (As := [.int x2]) (rest := []) rfl rfl rfl (Nat.le_of_ble_eq_true rfl) (WpI.of (L0 := [(0, .int x2)]) rfl rfl (Nat.le_of_ble_eq_true rfl) fun X2 Q2 C2 k2 => ?_)
      refine ww_iload_n C2.1 dX9_isNight_0 0 rfl rfl ?_
      refine ww_iconst C2.1 (v := (0 : Int32)) dX9_isNight_1 (by decide) ?_
      refine ww_bipush C2.1 (v := (29 : Int32)) dX9_isNight_2 (by decide) ?_
      refine ww_sI C2 fX9_isWithin (And.intro (by decide) (by decide)) mlRX9_89 dX9_isNight_4 (As := [.int x2, .int (0 : Int32), .int (29 : Int32)]) (rest := []) rfl rfl rfl (Nat.le_of_ble_eq_true rfl) (WpI.of (L0 := [(0, .int x2), (1, .int (0 : Int32)), (2, .int (29 : Int32))]) rfl rfl (Nat.le_of_ble_eq_true rfl) fun X3 Q3 C3 k3 => ?_)
      refine ww_iload_n C3.1 dX9_isWithin_0 0 rfl rfl ?_
      refine ww_iload_n C3.1 dX9_isWithin_1 1 rfl rfl ?_
      refine ww_icmp_lt (x := x2) (y := (0 : Int32)) C3.1 (tgt := 14) dX9_isWithin_2 (by decide) (fun hh => ?_) (fun hh => ?_)
      · replace h := h.1 hh
        refine ww_iconst C3.1 (v := (0 : Int32)) dX9_isWithin_14 (by decide) ?_
        refine ww_zret C3.1 dX9_isWithin_15 rfl (Or.inl rfl) ?_
        refine k3 _ _ ?_
        refine ww_zret C2.1 dX9_isNight_7 rfl (Or.inl rfl) ?_
        refine k2 _ _ ?_
        refine ww_if_ne (x := (0 : Int32)) C.1 (tgt := 23) dX9_who_18 (by decide) (fun hh => absurd hh (by decide)) (fun _ => ?_)
        refine ww_iconst C.1 (v := (-1 : Int32)) dX9_who_21 (by decide) ?_
        refine ww_iret C.1 dX9_who_22 rfl ?_
        exact h
      · replace h := h.2 hh
        refine ww_iload_n C3.1 dX9_isWithin_5 0 rfl rfl ?_
        refine ww_iload_n C3.1 dX9_isWithin_6 2 rfl rfl ?_
        refine ww_icmp_gt (x := x2) (y := (29 : Int32)) C3.1 (tgt := 14) dX9_isWithin_7 (by decide) (fun hh => ?_) (fun hh => ?_)
        · replace h := h.1 hh
          refine ww_iconst C3.1 (v := (0 : Int32)) dX9_isWithin_14 (by decide) ?_
          refine ww_zret C3.1 dX9_isWithin_15 rfl (Or.inl rfl) ?_
          refine k3 _ _ ?_
          refine ww_zret C2.1 dX9_isNight_7 rfl (Or.inl rfl) ?_
          refine k2 _ _ ?_
          refine ww_if_ne (x := (0 : Int32)) C.1 (tgt := 23) dX9_who_18 (by decide) (fun hh => absurd hh (by decide)) (fun _ => ?_)
          refine ww_iconst C.1 (v := (-1 : Int32)) dX9_who_21 (by decide) ?_
          refine ww_iret C.1 dX9_who_22 rfl ?_
          exact h
        · replace h := h.2 hh
          refine ww_iconst C3.1 (v := (1 : Int32)) dX9_isWithin_10 (by decide) ?_
          refine ww_goto C3.1 (tgt := 15) dX9_isWithin_11 (by decide) ?_
          refine ww_zret C3.1 dX9_isWithin_15 rfl (Or.inr rfl) ?_
          refine k3 _ _ ?_
          refine ww_zret C2.1 dX9_isNight_7 rfl (Or.inr rfl) ?_
          refine k2 _ _ ?_
          refine ww_if_ne (x := (1 : Int32)) C.1 (tgt := 23) dX9_who_18 (by decide) (fun _ => ?_) (fun hh => absurd hh (by decide))
          refine ww_aload_n C.1 dX9_who_23 0 rfl rfl ?_
          refine wt_getR C.1 dX9_who_24 flRX9_19 (tc0 T2) rfl (gg0_1 G2) ?_
          refine ww_aload_n C.1 dX9_who_27 0 rfl rfl ?_
          refine wt_getR C.1 dX9_who_28 flRX9_58 (tc0 T2) rfl (gg0_7 G2) ?_
          refine ww_ldc C.1 kcRX9_152 dX9_who_31 ?_
          refine ww_vV C fX3_pass (And.intro (by decide) (by decide)) mlRX9_153 dX9_who_33 (tc4 T2) (by decide) rfl (As := [.ref 33, .int (1000000 : Int32)]) (rest := []) rfl rfl rfl (Nat.le_of_ble_eq_true rfl) ?_
          exact h
set_option maxHeartbeats 4000000 in
set_option maxRecDepth 20000 in
theorem bX9_who_38 {X : CX} {Q : State → Prop} {M : Mem} {G2 : Grf} {T2 : List (Nat × Nat)} {x1 x2 x3 : Int32} (C : Ok0 X mX9_who (TTc ++ T2))
    (h : (((M 37 6) ≤ x3 → RetOK X Q (some (.int (-4 : Int32))) (M, (gj G2), TTc ++ T2)) ∧ (¬ (M 37 6) ≤ x3 → ((¬ (((M 4 5) >>> (x3 &&& 31)) &&& (1 : Int32)) = (1 : Int32) → WW X Q 38 [(0, .ref 0), (1, .int x1), (2, .int x2), (3, .int (x3 + (1 : Int32)))] [] (M, (gj G2), TTc ++ T2)) ∧ ((((M 4 5) >>> (x3 &&& 31)) &&& (1 : Int32)) = (1 : Int32) → (vp_in x3 7 ∧ ((¬ (M 6 x3.toNatClampNeg) = x1 → WW X Q 38 [(0, .ref 0), (1, .int x1), (2, .int x2), (3, .int (x3 + (1 : Int32)))] [] (M, (gj G2), TTc ++ T2)) ∧ ((M 6 x3.toNatClampNeg) = x1 → (vp_in x3 7 ∧ ((¬ (M 5 x3.toNatClampNeg) = x2 → WW X Q 38 [(0, .ref 0), (1, .int x1), (2, .int x2), (3, .int (x3 + (1 : Int32)))] [] (M, (gj G2), TTc ++ T2)) ∧ ((M 5 x3.toNatClampNeg) = x2 → RetOK X Q (some (.int x3)) (M, (gj G2), TTc ++ T2)))))))))))) :
    WW X Q 38 [(0, .ref 0), (1, .int x1), (2, .int x2), (3, .int x3)] [] (M, (gj G2), TTc ++ T2) := by
  refine ww_iload_n C.1 dX9_who_38 3 rfl rfl ?_
  refine ww_aload_n C.1 dX9_who_39 0 rfl rfl ?_
  refine wt_getR C.1 dX9_who_40 flRX9_58 (tc0 T2) rfl (gg0_7 G2) ?_
  refine wt_getR C.1 dX9_who_43 flRX9_104 (tc33 T2) rfl (gg33_1 G2) ?_
  refine wt_getI C.1 dX9_who_46 flRX9_108 (tc37 T2) rfl ?_
  refine ww_icmp_ge (x := x3) (y := (M 37 6)) C.1 (tgt := 97) dX9_who_49 (by decide) (fun hh => ?_) (fun hh => ?_)
  · replace h := h.1 hh
    refine ww_bipush C.1 (v := (-4 : Int32)) dX9_who_97 (by decide) ?_
    refine ww_iret C.1 dX9_who_99 rfl ?_
    exact h
  · replace h := h.2 hh
    refine ww_aload_n C.1 dX9_who_52 0 rfl rfl ?_
    refine wt_getR C.1 dX9_who_53 flRX9_19 (tc0 T2) rfl (gg0_1 G2) ?_
    refine ww_iload_n C.1 dX9_who_56 3 rfl rfl ?_
    refine ww_vI C fX3_hasLain (And.intro (by decide) (by decide)) mlRX9_157 dX9_who_57 (tc4 T2) (by decide) rfl (As := [.int x3]) (rest := []) rfl rfl rfl (Nat.le_of_ble_eq_true rfl) (WpI.of (L0 := [(0, .ref 4), (1, .int x3)]) rfl rfl (Nat.le_of_ble_eq_true rfl) fun X1 Q1 C1 k1 => ?_)
    refine ww_aload_n C1.1 dX3_hasLain_0 0 rfl rfl ?_
    refine wt_getI C1.1 dX3_hasLain_1 flRX3_27 (tc4 T2) rfl ?_
    refine ww_iload_n C1.1 dX3_hasLain_4 1 rfl rfl ?_
    refine ww_nI C1 fX9_isIn (And.intro (by decide) (by decide)) nlRX3_92 dX3_hasLain_5 (As := [.int (M 4 5), .int x3]) (rest := []) rfl rfl rfl (Nat.le_of_ble_eq_true rfl) (WpI.of (L0 := [(0, .int (M 4 5)), (1, .int x3)]) rfl rfl (Nat.le_of_ble_eq_true rfl) fun X2 Q2 C2 k2 => ?_)
    refine ww_iload_n C2.1 dX9_isIn_0 0 rfl rfl ?_
    refine ww_iload_n C2.1 dX9_isIn_1 1 rfl rfl ?_
    refine ww_ishr C2.1 dX9_isIn_2 ?_
    refine ww_iconst C2.1 (v := (1 : Int32)) dX9_isIn_3 (by decide) ?_
    refine ww_iand C2.1 dX9_isIn_4 ?_
    refine ww_iconst C2.1 (v := (1 : Int32)) dX9_isIn_5 (by decide) ?_
    refine ww_icmp_ne (x := (((M 4 5) >>> (x3 &&& 31)) &&& (1 : Int32))) (y := (1 : Int32)) C2.1 (tgt := 13) dX9_isIn_6 (by decide) (fun hh => ?_) (fun hh => ?_)
    · replace h := h.1 hh
      refine ww_iconst C2.1 (v := (0 : Int32)) dX9_isIn_13 (by decide) ?_
      refine ww_zret C2.1 dX9_isIn_14 rfl (Or.inl rfl) ?_
      refine k2 _ _ ?_
      refine ww_zret C1.1 dX3_hasLain_8 rfl (Or.inl rfl) ?_
      refine k1 _ _ ?_
      refine ww_if_eq (x := (0 : Int32)) C.1 (tgt := 91) dX9_who_60 (by decide) (fun _ => ?_) (fun hh => absurd hh (by decide))
      refine ww_iinc C.1 (v := (x3 + (1 : Int32))) dX9_who_91 3 rfl (by rfl) (by decide) [1, 2, 3, 0] (L' := [(0, .ref 0), (1, .int x1), (2, .int x2), (3, .int (x3 + (1 : Int32)))]) rfl ?_
      refine ww_goto C.1 (tgt := 38) dX9_who_94 (by decide) ?_
      exact h
    · replace h := h.2 hh
      refine ww_iconst C2.1 (v := (1 : Int32)) dX9_isIn_9 (by decide) ?_
      refine ww_goto C2.1 (tgt := 14) dX9_isIn_10 (by decide) ?_
      refine ww_zret C2.1 dX9_isIn_14 rfl (Or.inr rfl) ?_
      refine k2 _ _ ?_
      refine ww_zret C1.1 dX3_hasLain_8 rfl (Or.inr rfl) ?_
      refine k1 _ _ ?_
      refine ww_if_eq (x := (1 : Int32)) C.1 (tgt := 91) dX9_who_60 (by decide) (fun hh => absurd hh (by decide)) (fun _ => ?_)
      refine ww_aload_n C.1 dX9_who_63 0 rfl rfl ?_
      refine wt_getR C.1 dX9_who_64 flRX9_19 (tc0 T2) rfl (gg0_1 G2) ?_
      refine wt_getR C.1 dX9_who_67 flRX9_163 (tc4 T2) rfl (gg4_1 G2) ?_
      refine ww_iload_n C.1 dX9_who_70 3 rfl rfl ?_
      refine wt_iald C.1 dX9_who_71 (tc6 T2) h.1 ?_
      replace h := h.2
      refine ww_iload_n C.1 dX9_who_72 1 rfl rfl ?_
      refine ww_icmp_ne (x := (M 6 x3.toNatClampNeg)) (y := x1) C.1 (tgt := 91) dX9_who_73 (by decide) (fun hh => ?_) (fun hh => ?_)
      · replace h := h.1 hh
        refine ww_iinc C.1 (v := (x3 + (1 : Int32))) dX9_who_91 3 rfl (by rfl) (by decide) [1, 2, 3, 0] (L' := [(0, .ref 0), (1, .int x1), (2, .int x2), (3, .int (x3 + (1 : Int32)))]) rfl ?_
        refine ww_goto C.1 (tgt := 38) dX9_who_94 (by decide) ?_
        exact h
      · replace h := h.2 hh
        refine ww_aload_n C.1 dX9_who_76 0 rfl rfl ?_
        refine wt_getR C.1 dX9_who_77 flRX9_19 (tc0 T2) rfl (gg0_1 G2) ?_
        refine wt_getR C.1 dX9_who_80 flRX9_160 (tc4 T2) rfl (gg4_0 G2) ?_
        refine ww_iload_n C.1 dX9_who_83 3 rfl rfl ?_
        refine wt_iald C.1 dX9_who_84 (tc5 T2) h.1 ?_
        replace h := h.2
        refine ww_iload_n C.1 dX9_who_85 2 rfl rfl ?_
        refine ww_icmp_ne (x := (M 5 x3.toNatClampNeg)) (y := x2) C.1 (tgt := 91) dX9_who_86 (by decide) (fun hh => ?_) (fun hh => ?_)
        · replace h := h.1 hh
          refine ww_iinc C.1 (v := (x3 + (1 : Int32))) dX9_who_91 3 rfl (by rfl) (by decide) [1, 2, 3, 0] (L' := [(0, .ref 0), (1, .int x1), (2, .int x2), (3, .int (x3 + (1 : Int32)))]) rfl ?_
          refine ww_goto C.1 (tgt := 38) dX9_who_94 (by decide) ?_
          exact h
        · replace h := h.2 hh
          refine ww_iload_n C.1 dX9_who_89 3 rfl rfl ?_
          refine ww_iret C.1 dX9_who_90 rfl ?_
          exact h
set_option maxHeartbeats 4000000 in
set_option maxRecDepth 20000 in
theorem bX9_who_36 {X : CX} {Q : State → Prop} {M : Mem} {G2 : Grf} {T2 : List (Nat × Nat)} {x1 x2 : Int32} (C : Ok0 X mX9_who (TTc ++ T2))
    (h : WW X Q 38 [(0, .ref 0), (1, .int x1), (2, .int x2), (3, .int (0 : Int32))] [] (M, (gj G2), TTc ++ T2)) :
    WW X Q 36 [(0, .ref 0), (1, .int x1), (2, .int x2)] [] (M, (gj G2), TTc ++ T2) := by
  refine ww_iconst C.1 (v := (0 : Int32)) dX9_who_36 (by decide) ?_
  refine ww_istore_n C.1 dX9_who_37 rfl (by decide) [1, 2, 3, 0] (L' := [(0, .ref 0), (1, .int x1), (2, .int x2), (3, .int (0 : Int32))]) rfl ?_
  exact h
set_option maxHeartbeats 4000000 in
set_option maxRecDepth 20000 in
theorem bX9_all_0 {X : CX} {Q : State → Prop} {M : Mem} {G2 : Grf} {T2 : List (Nat × Nat)} {x1 : Int32} (C : Ok0 X mX9_all (TTc ++ T2))
    (h : ((x1 < (0 : Int32) → RetOK X Q (some (.int (-1 : Int32))) (M, (gj G2), TTc ++ T2)) ∧ (¬ x1 < (0 : Int32) → (((3 : Int32) < x1 → RetOK X Q (some (.int (-1 : Int32))) (M, (gj G2), TTc ++ T2)) ∧ (¬ (3 : Int32) < x1 → WpV mX3_pass [.ref 4, .ref 33, .int (1000000 : Int32)] M (gj G2) (TTc ++ T2) (fun M' => WW X Q 24 [(0, .ref 0), (1, .int x1)] [] (M', (gj G2), TTc ++ T2))))))) :
    WW X Q 0 [(0, .ref 0), (1, .int x1)] [] (M, (gj G2), TTc ++ T2) := by
  refine ww_iload_n C.1 dX9_all_0 1 rfl rfl ?_
  refine ww_iconst C.1 (v := (0 : Int32)) dX9_all_1 (by decide) ?_
  refine ww_iconst C.1 (v := (3 : Int32)) dX9_all_2 (by decide) ?_
  refine ww_sI C fX9_isWithin (And.intro (by decide) (by decide)) mlRX9_89 dX9_all_3 (As := [.int x1, .int (0 : Int32), .int (3 : Int32)]) (rest := []) rfl rfl rfl (Nat.le_of_ble_eq_true rfl) (WpI.of (L0 := [(0, .int x1), (1, .int (0 : Int32)), (2, .int (3 : Int32))]) rfl rfl (Nat.le_of_ble_eq_true rfl) fun X1 Q1 C1 k1 => ?_)
  refine ww_iload_n C1.1 dX9_isWithin_0 0 rfl rfl ?_
  refine ww_iload_n C1.1 dX9_isWithin_1 1 rfl rfl ?_
  refine ww_icmp_lt (x := x1) (y := (0 : Int32)) C1.1 (tgt := 14) dX9_isWithin_2 (by decide) (fun hh => ?_) (fun hh => ?_)
  · replace h := h.1 hh
    refine ww_iconst C1.1 (v := (0 : Int32)) dX9_isWithin_14 (by decide) ?_
    refine ww_zret C1.1 dX9_isWithin_15 rfl (Or.inl rfl) ?_
    refine k1 _ _ ?_
    refine ww_if_ne (x := (0 : Int32)) C.1 (tgt := 11) dX9_all_6 (by decide) (fun hh => absurd hh (by decide)) (fun _ => ?_)
    refine ww_iconst C.1 (v := (-1 : Int32)) dX9_all_9 (by decide) ?_
    refine ww_iret C.1 dX9_all_10 rfl ?_
    exact h
  · replace h := h.2 hh
    refine ww_iload_n C1.1 dX9_isWithin_5 0 rfl rfl ?_
    refine ww_iload_n C1.1 dX9_isWithin_6 2 rfl rfl ?_
    refine ww_icmp_gt (x := x1) (y := (3 : Int32)) C1.1 (tgt := 14) dX9_isWithin_7 (by decide) (fun hh => ?_) (fun hh => ?_)
    · replace h := h.1 hh
      refine ww_iconst C1.1 (v := (0 : Int32)) dX9_isWithin_14 (by decide) ?_
      refine ww_zret C1.1 dX9_isWithin_15 rfl (Or.inl rfl) ?_
      refine k1 _ _ ?_
      refine ww_if_ne (x := (0 : Int32)) C.1 (tgt := 11) dX9_all_6 (by decide) (fun hh => absurd hh (by decide)) (fun _ => ?_)
      refine ww_iconst C.1 (v := (-1 : Int32)) dX9_all_9 (by decide) ?_
      refine ww_iret C.1 dX9_all_10 rfl ?_
      exact h
    · replace h := h.2 hh
      refine ww_iconst C1.1 (v := (1 : Int32)) dX9_isWithin_10 (by decide) ?_
      refine ww_goto C1.1 (tgt := 15) dX9_isWithin_11 (by decide) ?_
      refine ww_zret C1.1 dX9_isWithin_15 rfl (Or.inr rfl) ?_
      refine k1 _ _ ?_
      refine ww_if_ne (x := (1 : Int32)) C.1 (tgt := 11) dX9_all_6 (by decide) (fun _ => ?_) (fun hh => absurd hh (by decide))
      refine ww_aload_n C.1 dX9_all_11 0 rfl rfl ?_
      refine wt_getR C.1 dX9_all_12 flRX9_19 (tc0 T2) rfl (gg0_1 G2) ?_
      refine ww_aload_n C.1 dX9_all_15 0 rfl rfl ?_
      refine wt_getR C.1 dX9_all_16 flRX9_58 (tc0 T2) rfl (gg0_7 G2) ?_
      refine ww_ldc C.1 kcRX9_152 dX9_all_19 ?_
      refine ww_vV C fX3_pass (And.intro (by decide) (by decide)) mlRX9_153 dX9_all_21 (tc4 T2) (by decide) rfl (As := [.ref 33, .int (1000000 : Int32)]) (rest := []) rfl rfl rfl (Nat.le_of_ble_eq_true rfl) ?_
      exact h
set_option maxHeartbeats 4000000 in
set_option maxRecDepth 20000 in
theorem bX9_all_24 {X : CX} {Q : State → Prop} {M : Mem} {G2 : Grf} {T2 : List (Nat × Nat)} {x1 : Int32} (C : Ok0 X mX9_all (TTc ++ T2))
    (h : ((x1 = (0 : Int32) → WpI mX3_total [.ref 4, .ref 37] M (gj G2) (TTc ++ T2) (fun r M' => WW X Q 66 [(0, .ref 0), (1, .int x1)] [.int r] (M', (gj G2), TTc ++ T2))) ∧ (¬ x1 = (0 : Int32) → ((x1 = (1 : Int32) → WpI mJ6_bitCount_0f7a4 [.int (M 4 5)] M (gj G2) (TTc ++ T2) (fun r M' => WW X Q 77 [(0, .ref 0), (1, .int x1)] [.int r] (M', (gj G2), TTc ++ T2))) ∧ (¬ x1 = (1 : Int32) → ((x1 = (2 : Int32) → WpI mX3_unharmed [.ref 4, .ref 37] M (gj G2) (TTc ++ T2) (fun r M' => WW X Q 92 [(0, .ref 0), (1, .int x1)] [.int r] (M', (gj G2), TTc ++ T2))) ∧ (¬ x1 = (2 : Int32) → WpI mX3_greatest [.ref 4, .ref 37] M (gj G2) (TTc ++ T2) (fun r M' => WW X Q 107 [(0, .ref 0), (1, .int x1)] [.int r] (M', (gj G2), TTc ++ T2))))))))) :
    WW X Q 24 [(0, .ref 0), (1, .int x1)] [] (M, (gj G2), TTc ++ T2) := by
  refine ww_iload_n C.1 dX9_all_24 1 rfl rfl ?_
  by_cases hc0 : x1 = (0 : Int32)
  · replace h := h.1 hc0
    refine ww_tableIn (x := x1) C.1 (tgt := 52) dX9_all_25 (by rw [hc0]; decide) (by rw [hc0]; decide) (by rw [hc0]; rfl) (by decide) ?_
    refine ww_aload_n C.1 dX9_all_52 0 rfl rfl ?_
    refine wt_getR C.1 dX9_all_53 flRX9_19 (tc0 T2) rfl (gg0_1 G2) ?_
    refine ww_aload_n C.1 dX9_all_56 0 rfl rfl ?_
    refine wt_getR C.1 dX9_all_57 flRX9_58 (tc0 T2) rfl (gg0_7 G2) ?_
    refine wt_getR C.1 dX9_all_60 flRX9_104 (tc33 T2) rfl (gg33_1 G2) ?_
    refine ww_vI C fX3_total (And.intro (by decide) (by decide)) mlRX9_175 dX9_all_63 (tc4 T2) (by decide) rfl (As := [.ref 37]) (rest := []) rfl rfl rfl (Nat.le_of_ble_eq_true rfl) ?_
    exact h
  · replace h := h.2 hc0
    by_cases hc1 : x1 = (1 : Int32)
    · replace h := h.1 hc1
      refine ww_tableIn (x := x1) C.1 (tgt := 67) dX9_all_25 (by rw [hc1]; decide) (by rw [hc1]; decide) (by rw [hc1]; rfl) (by decide) ?_
      refine ww_aload_n C.1 dX9_all_67 0 rfl rfl ?_
      refine wt_getR C.1 dX9_all_68 flRX9_19 (tc0 T2) rfl (gg0_1 G2) ?_
      refine wt_getI C.1 dX9_all_71 flRX9_179 (tc4 T2) rfl ?_
      refine ww_sI C fJ6_bitCount_0f7a4 (And.intro (by decide) (by decide)) mlRX9_182 dX9_all_74 (As := [.int (M 4 5)]) (rest := []) rfl rfl rfl (Nat.le_of_ble_eq_true rfl) ?_
      exact h
    · replace h := h.2 hc1
      by_cases hc2 : x1 = (2 : Int32)
      · replace h := h.1 hc2
        refine ww_tableIn (x := x1) C.1 (tgt := 78) dX9_all_25 (by rw [hc2]; decide) (by rw [hc2]; decide) (by rw [hc2]; rfl) (by decide) ?_
        refine ww_aload_n C.1 dX9_all_78 0 rfl rfl ?_
        refine wt_getR C.1 dX9_all_79 flRX9_19 (tc0 T2) rfl (gg0_1 G2) ?_
        refine ww_aload_n C.1 dX9_all_82 0 rfl rfl ?_
        refine wt_getR C.1 dX9_all_83 flRX9_58 (tc0 T2) rfl (gg0_7 G2) ?_
        refine wt_getR C.1 dX9_all_86 flRX9_104 (tc33 T2) rfl (gg33_1 G2) ?_
        refine ww_vI C fX3_unharmed (And.intro (by decide) (by decide)) mlRX9_187 dX9_all_89 (tc4 T2) (by decide) rfl (As := [.ref 37]) (rest := []) rfl rfl rfl (Nat.le_of_ble_eq_true rfl) ?_
        exact h
      · replace h := h.2 hc2
        refine ww_tableOut (x := x1) C.1 (tgt := 93) dX9_all_25 (by have e0 := lv_neT hc0 (a := 0) (by decide); have e1 := lv_neT hc1 (a := 1) (by decide); have e2 := lv_neT hc2 (a := 2) (by decide); omega) (by decide) ?_
        refine ww_aload_n C.1 dX9_all_93 0 rfl rfl ?_
        refine wt_getR C.1 dX9_all_94 flRX9_19 (tc0 T2) rfl (gg0_1 G2) ?_
        refine ww_aload_n C.1 dX9_all_97 0 rfl rfl ?_
        refine wt_getR C.1 dX9_all_98 flRX9_58 (tc0 T2) rfl (gg0_7 G2) ?_
        refine wt_getR C.1 dX9_all_101 flRX9_104 (tc33 T2) rfl (gg33_1 G2) ?_
        refine ww_vI C fX3_greatest (And.intro (by decide) (by decide)) mlRX9_190 dX9_all_104 (tc4 T2) (by decide) rfl (As := [.ref 37]) (rest := []) rfl rfl rfl (Nat.le_of_ble_eq_true rfl) ?_
        exact h
set_option maxHeartbeats 4000000 in
set_option maxRecDepth 20000 in
theorem bX9_all_66 {X : CX} {Q : State → Prop} {M : Mem} {G2 : Grf} {T2 : List (Nat × Nat)} {x1 s0 : Int32} (C : Ok0 X mX9_all (TTc ++ T2))
    (h : RetOK X Q (some (.int s0)) (M, (gj G2), TTc ++ T2)) :
    WW X Q 66 [(0, .ref 0), (1, .int x1)] [.int s0] (M, (gj G2), TTc ++ T2) := by
  refine ww_iret C.1 dX9_all_66 rfl ?_
  exact h
set_option maxHeartbeats 4000000 in
set_option maxRecDepth 20000 in
theorem bX9_all_77 {X : CX} {Q : State → Prop} {M : Mem} {G2 : Grf} {T2 : List (Nat × Nat)} {x1 s0 : Int32} (C : Ok0 X mX9_all (TTc ++ T2))
    (h : RetOK X Q (some (.int s0)) (M, (gj G2), TTc ++ T2)) :
    WW X Q 77 [(0, .ref 0), (1, .int x1)] [.int s0] (M, (gj G2), TTc ++ T2) := by
  refine ww_iret C.1 dX9_all_77 rfl ?_
  exact h
set_option maxHeartbeats 4000000 in
set_option maxRecDepth 20000 in
theorem bX9_all_92 {X : CX} {Q : State → Prop} {M : Mem} {G2 : Grf} {T2 : List (Nat × Nat)} {x1 s0 : Int32} (C : Ok0 X mX9_all (TTc ++ T2))
    (h : RetOK X Q (some (.int s0)) (M, (gj G2), TTc ++ T2)) :
    WW X Q 92 [(0, .ref 0), (1, .int x1)] [.int s0] (M, (gj G2), TTc ++ T2) := by
  refine ww_iret C.1 dX9_all_92 rfl ?_
  exact h
set_option maxHeartbeats 4000000 in
set_option maxRecDepth 20000 in
theorem bX9_all_107 {X : CX} {Q : State → Prop} {M : Mem} {G2 : Grf} {T2 : List (Nat × Nat)} {x1 s0 : Int32} (C : Ok0 X mX9_all (TTc ++ T2))
    (h : RetOK X Q (some (.int s0)) (M, (gj G2), TTc ++ T2)) :
    WW X Q 107 [(0, .ref 0), (1, .int x1)] [.int s0] (M, (gj G2), TTc ++ T2) := by
  refine ww_iret C.1 dX9_all_107 rfl ?_
  exact h
set_option maxHeartbeats 4000000 in
set_option maxRecDepth 20000 in
theorem bX9_move_0 {X : CX} {Q : State → Prop} {M : Mem} {G2 : Grf} {T2 : List (Nat × Nat)} {x1 x2 : Int32} (C : Ok0 X mX9_move (TTc ++ T2))
    (h : ((x1 < (0 : Int32) → RetOK X Q (some (.int (-1 : Int32))) (M, (gj G2), TTc ++ T2)) ∧ (¬ x1 < (0 : Int32) → (((M 37 6) ≤ x1 → RetOK X Q (some (.int (-1 : Int32))) (M, (gj G2), TTc ++ T2)) ∧ (¬ (M 37 6) ≤ x1 → ((x2 < (0 : Int32) → RetOK X Q (some (.int (-1 : Int32))) (M, (gj G2), TTc ++ T2)) ∧ (¬ x2 < (0 : Int32) → (((M 37 6) ≤ x2 → RetOK X Q (some (.int (-1 : Int32))) (M, (gj G2), TTc ++ T2)) ∧ (¬ (M 37 6) ≤ x2 → WpI mX5_placeOf [.ref 37, .int x1] M (gj G2) (TTc ++ T2) (fun r M' => WW X Q 41 [(0, .ref 0), (1, .int x1), (2, .int x2)] [.int r] (M', (gj G2), TTc ++ T2))))))))))) :
    WW X Q 0 [(0, .ref 0), (1, .int x1), (2, .int x2)] [] (M, (gj G2), TTc ++ T2) := by
  refine ww_aload_n C.1 dX9_move_0 0 rfl rfl ?_
  refine wt_getR C.1 dX9_move_1 flRX9_58 (tc0 T2) rfl (gg0_7 G2) ?_
  refine wt_getR C.1 dX9_move_4 flRX9_104 (tc33 T2) rfl (gg33_1 G2) ?_
  refine ww_iload_n C.1 dX9_move_7 1 rfl rfl ?_
  refine ww_vI C fX5_has (And.intro (by decide) (by decide)) mlRX9_128 dX9_move_8 (tc37 T2) (by decide) rfl (As := [.int x1]) (rest := []) rfl rfl rfl (Nat.le_of_ble_eq_true rfl) (WpI.of (L0 := [(0, .ref 37), (1, .int x1)]) rfl rfl (Nat.le_of_ble_eq_true rfl) fun X1 Q1 C1 k1 => ?_)
  refine ww_iload_n C1.1 dX5_has_0 1 rfl rfl ?_
  refine ww_if_lt (x := x1) C1.1 (tgt := 16) dX5_has_1 (by decide) (fun hh => ?_) (fun hh => ?_)
  · replace h := h.1 hh
    refine ww_iconst C1.1 (v := (0 : Int32)) dX5_has_16 (by decide) ?_
    refine ww_zret C1.1 dX5_has_17 rfl (Or.inl rfl) ?_
    refine k1 _ _ ?_
    refine ww_if_eq (x := (0 : Int32)) C.1 (tgt := 28) dX9_move_11 (by decide) (fun _ => ?_) (fun hh => absurd hh (by decide))
    refine ww_iconst C.1 (v := (-1 : Int32)) dX9_move_28 (by decide) ?_
    refine ww_iret C.1 dX9_move_29 rfl ?_
    exact h
  · replace h := h.2 hh
    refine ww_iload_n C1.1 dX5_has_4 1 rfl rfl ?_
    refine ww_aload_n C1.1 dX5_has_5 0 rfl rfl ?_
    refine wt_getI C1.1 dX5_has_6 flRX5_30 (tc37 T2) rfl ?_
    refine ww_icmp_ge (x := x1) (y := (M 37 6)) C1.1 (tgt := 16) dX5_has_9 (by decide) (fun hh => ?_) (fun hh => ?_)
    · replace h := h.1 hh
      refine ww_iconst C1.1 (v := (0 : Int32)) dX5_has_16 (by decide) ?_
      refine ww_zret C1.1 dX5_has_17 rfl (Or.inl rfl) ?_
      refine k1 _ _ ?_
      refine ww_if_eq (x := (0 : Int32)) C.1 (tgt := 28) dX9_move_11 (by decide) (fun _ => ?_) (fun hh => absurd hh (by decide))
      refine ww_iconst C.1 (v := (-1 : Int32)) dX9_move_28 (by decide) ?_
      refine ww_iret C.1 dX9_move_29 rfl ?_
      exact h
    · replace h := h.2 hh
      refine ww_iconst C1.1 (v := (1 : Int32)) dX5_has_12 (by decide) ?_
      refine ww_goto C1.1 (tgt := 17) dX5_has_13 (by decide) ?_
      refine ww_zret C1.1 dX5_has_17 rfl (Or.inr rfl) ?_
      refine k1 _ _ ?_
      refine ww_if_eq (x := (1 : Int32)) C.1 (tgt := 28) dX9_move_11 (by decide) (fun hh => absurd hh (by decide)) (fun _ => ?_)
      refine ww_aload_n C.1 dX9_move_14 0 rfl rfl ?_
      refine wt_getR C.1 dX9_move_15 flRX9_58 (tc0 T2) rfl (gg0_7 G2) ?_
      refine wt_getR C.1 dX9_move_18 flRX9_104 (tc33 T2) rfl (gg33_1 G2) ?_
      refine ww_iload_n C.1 dX9_move_21 2 rfl rfl ?_
      refine ww_vI C fX5_has (And.intro (by decide) (by decide)) mlRX9_128 dX9_move_22 (tc37 T2) (by decide) rfl (As := [.int x2]) (rest := []) rfl rfl rfl (Nat.le_of_ble_eq_true rfl) (WpI.of (L0 := [(0, .ref 37), (1, .int x2)]) rfl rfl (Nat.le_of_ble_eq_true rfl) fun X2 Q2 C2 k2 => ?_)
      refine ww_iload_n C2.1 dX5_has_0 1 rfl rfl ?_
      refine ww_if_lt (x := x2) C2.1 (tgt := 16) dX5_has_1 (by decide) (fun hh => ?_) (fun hh => ?_)
      · replace h := h.1 hh
        refine ww_iconst C2.1 (v := (0 : Int32)) dX5_has_16 (by decide) ?_
        refine ww_zret C2.1 dX5_has_17 rfl (Or.inl rfl) ?_
        refine k2 _ _ ?_
        refine ww_if_ne (x := (0 : Int32)) C.1 (tgt := 30) dX9_move_25 (by decide) (fun hh => absurd hh (by decide)) (fun _ => ?_)
        refine ww_iconst C.1 (v := (-1 : Int32)) dX9_move_28 (by decide) ?_
        refine ww_iret C.1 dX9_move_29 rfl ?_
        exact h
      · replace h := h.2 hh
        refine ww_iload_n C2.1 dX5_has_4 1 rfl rfl ?_
        refine ww_aload_n C2.1 dX5_has_5 0 rfl rfl ?_
        refine wt_getI C2.1 dX5_has_6 flRX5_30 (tc37 T2) rfl ?_
        refine ww_icmp_ge (x := x2) (y := (M 37 6)) C2.1 (tgt := 16) dX5_has_9 (by decide) (fun hh => ?_) (fun hh => ?_)
        · replace h := h.1 hh
          refine ww_iconst C2.1 (v := (0 : Int32)) dX5_has_16 (by decide) ?_
          refine ww_zret C2.1 dX5_has_17 rfl (Or.inl rfl) ?_
          refine k2 _ _ ?_
          refine ww_if_ne (x := (0 : Int32)) C.1 (tgt := 30) dX9_move_25 (by decide) (fun hh => absurd hh (by decide)) (fun _ => ?_)
          refine ww_iconst C.1 (v := (-1 : Int32)) dX9_move_28 (by decide) ?_
          refine ww_iret C.1 dX9_move_29 rfl ?_
          exact h
        · replace h := h.2 hh
          refine ww_iconst C2.1 (v := (1 : Int32)) dX5_has_12 (by decide) ?_
          refine ww_goto C2.1 (tgt := 17) dX5_has_13 (by decide) ?_
          refine ww_zret C2.1 dX5_has_17 rfl (Or.inr rfl) ?_
          refine k2 _ _ ?_
          refine ww_if_ne (x := (1 : Int32)) C.1 (tgt := 30) dX9_move_25 (by decide) (fun _ => ?_) (fun hh => absurd hh (by decide))
          refine ww_aload_n C.1 dX9_move_30 0 rfl rfl ?_
          refine wt_getR C.1 dX9_move_31 flRX9_58 (tc0 T2) rfl (gg0_7 G2) ?_
          refine wt_getR C.1 dX9_move_34 flRX9_104 (tc33 T2) rfl (gg33_1 G2) ?_
          refine ww_iload_n C.1 dX9_move_37 1 rfl rfl ?_
          refine ww_vI C fX5_placeOf (And.intro (by decide) (by decide)) mlRX9_144 dX9_move_38 (tc37 T2) (by decide) rfl (As := [.int x1]) (rest := []) rfl rfl rfl (Nat.le_of_ble_eq_true rfl) ?_
          exact h
set_option maxHeartbeats 4000000 in
set_option maxRecDepth 20000 in
theorem bX9_move_41 {X : CX} {Q : State → Prop} {M : Mem} {G2 : Grf} {T2 : List (Nat × Nat)} {x1 x2 s0 : Int32} (C : Ok0 X mX9_move (TTc ++ T2))
    (h : WpV mX5_shift [.ref 37, .int s0, .int x2] M (gj G2) (TTc ++ T2) (fun M' => WW X Q 54 [(0, .ref 0), (1, .int x1), (2, .int x2), (3, .int s0)] [] (M', (gj G2), TTc ++ T2))) :
    WW X Q 41 [(0, .ref 0), (1, .int x1), (2, .int x2)] [.int s0] (M, (gj G2), TTc ++ T2) := by
  refine ww_istore_n C.1 dX9_move_41 rfl (by decide) [1, 2, 3, 0] (L' := [(0, .ref 0), (1, .int x1), (2, .int x2), (3, .int s0)]) rfl ?_
  refine ww_aload_n C.1 dX9_move_42 0 rfl rfl ?_
  refine wt_getR C.1 dX9_move_43 flRX9_58 (tc0 T2) rfl (gg0_7 G2) ?_
  refine wt_getR C.1 dX9_move_46 flRX9_104 (tc33 T2) rfl (gg33_1 G2) ?_
  refine ww_iload_n C.1 dX9_move_49 3 rfl rfl ?_
  refine ww_iload_n C.1 dX9_move_50 2 rfl rfl ?_
  refine ww_vV C fX5_shift (And.intro (by decide) (by decide)) mlRX9_193 dX9_move_51 (tc37 T2) (by decide) rfl (As := [.int s0, .int x2]) (rest := []) rfl rfl rfl (Nat.le_of_ble_eq_true rfl) ?_
  exact h
set_option maxHeartbeats 4000000 in
set_option maxRecDepth 20000 in
theorem bX9_move_54 {X : CX} {Q : State → Prop} {M : Mem} {G2 : Grf} {T2 : List (Nat × Nat)} {x1 x2 x3 : Int32} (C : Ok0 X mX9_move (TTc ++ T2))
    (h : WpV mX9_noteChange [.ref 0, .int (0 : Int32), .int x1, .int x3] M (gj G2) (TTc ++ T2) (fun M' => WW X Q 61 [(0, .ref 0), (1, .int x1), (2, .int x2), (3, .int x3)] [] (M', (gj G2), TTc ++ T2))) :
    WW X Q 54 [(0, .ref 0), (1, .int x1), (2, .int x2), (3, .int x3)] [] (M, (gj G2), TTc ++ T2) := by
  refine ww_aload_n C.1 dX9_move_54 0 rfl rfl ?_
  refine ww_iconst C.1 (v := (0 : Int32)) dX9_move_55 (by decide) ?_
  refine ww_iload_n C.1 dX9_move_56 1 rfl rfl ?_
  refine ww_iload_n C.1 dX9_move_57 3 rfl rfl ?_
  refine ww_vV C fX9_noteChange (And.intro (by decide) (by decide)) mlRX9_197 dX9_move_58 (tc0 T2) (by decide) rfl (As := [.int (0 : Int32), .int x1, .int x3]) (rest := []) rfl rfl rfl (Nat.le_of_ble_eq_true rfl) ?_
  exact h
set_option maxHeartbeats 4000000 in
set_option maxRecDepth 20000 in
theorem bX9_move_61 {X : CX} {Q : State → Prop} {M : Mem} {G2 : Grf} {T2 : List (Nat × Nat)} {x1 x2 x3 : Int32} (C : Ok0 X mX9_move (TTc ++ T2))
    (h : RetOK X Q (some (.int x3)) (M, (gj G2), TTc ++ T2)) :
    WW X Q 61 [(0, .ref 0), (1, .int x1), (2, .int x2), (3, .int x3)] [] (M, (gj G2), TTc ++ T2) := by
  refine ww_iload_n C.1 dX9_move_61 3 rfl rfl ?_
  refine ww_iret C.1 dX9_move_62 rfl ?_
  exact h
set_option maxHeartbeats 4000000 in
set_option maxRecDepth 20000 in
theorem bX9_wear_0 {X : CX} {Q : State → Prop} {M : Mem} {G2 : Grf} {T2 : List (Nat × Nat)} {x1 x2 : Int32} (C : Ok0 X mX9_wear (TTc ++ T2))
    (h : ((x1 < (0 : Int32) → RetOK X Q (some (.int (-1 : Int32))) (M, (gj G2), TTc ++ T2)) ∧ (¬ x1 < (0 : Int32) → (((M 37 6) ≤ x1 → RetOK X Q (some (.int (-1 : Int32))) (M, (gj G2), TTc ++ T2)) ∧ (¬ (M 37 6) ≤ x1 → ((x2 < (-9 : Int32) → RetOK X Q (some (.int (-1 : Int32))) (M, (gj G2), TTc ++ T2)) ∧ (¬ x2 < (-9 : Int32) → (((9 : Int32) < x2 → RetOK X Q (some (.int (-1 : Int32))) (M, (gj G2), TTc ++ T2)) ∧ (¬ (9 : Int32) < x2 → (vp_in x1 7 ∧ (vp_in x1 7 ∧ WpV mX9_noteChange [.ref 0, .int (1 : Int32), .int x1, .int (M 42 x1.toNatClampNeg)] (wr M 42 x1.toNatClampNeg x2) (gj G2) (TTc ++ T2) (fun M' => WW X Q 60 [(0, .ref 0), (1, .int x1), (2, .int x2), (3, .int (M 42 x1.toNatClampNeg))] [] (M', (gj G2), TTc ++ T2))))))))))))) :
    WW X Q 0 [(0, .ref 0), (1, .int x1), (2, .int x2)] [] (M, (gj G2), TTc ++ T2) := by
  refine ww_aload_n C.1 dX9_wear_0 0 rfl rfl ?_
  refine wt_getR C.1 dX9_wear_1 flRX9_58 (tc0 T2) rfl (gg0_7 G2) ?_
  refine wt_getR C.1 dX9_wear_4 flRX9_104 (tc33 T2) rfl (gg33_1 G2) ?_
  refine ww_iload_n C.1 dX9_wear_7 1 rfl rfl ?_
  refine ww_vI C fX5_has (And.intro (by decide) (by decide)) mlRX9_128 dX9_wear_8 (tc37 T2) (by decide) rfl (As := [.int x1]) (rest := []) rfl rfl rfl (Nat.le_of_ble_eq_true rfl) (WpI.of (L0 := [(0, .ref 37), (1, .int x1)]) rfl rfl (Nat.le_of_ble_eq_true rfl) fun X1 Q1 C1 k1 => ?_)
  refine ww_iload_n C1.1 dX5_has_0 1 rfl rfl ?_
  refine ww_if_lt (x := x1) C1.1 (tgt := 16) dX5_has_1 (by decide) (fun hh => ?_) (fun hh => ?_)
  · replace h := h.1 hh
    refine ww_iconst C1.1 (v := (0 : Int32)) dX5_has_16 (by decide) ?_
    refine ww_zret C1.1 dX5_has_17 rfl (Or.inl rfl) ?_
    refine k1 _ _ ?_
    refine ww_if_eq (x := (0 : Int32)) C.1 (tgt := 25) dX9_wear_11 (by decide) (fun _ => ?_) (fun hh => absurd hh (by decide))
    refine ww_iconst C.1 (v := (-1 : Int32)) dX9_wear_25 (by decide) ?_
    refine ww_iret C.1 dX9_wear_26 rfl ?_
    exact h
  · replace h := h.2 hh
    refine ww_iload_n C1.1 dX5_has_4 1 rfl rfl ?_
    refine ww_aload_n C1.1 dX5_has_5 0 rfl rfl ?_
    refine wt_getI C1.1 dX5_has_6 flRX5_30 (tc37 T2) rfl ?_
    refine ww_icmp_ge (x := x1) (y := (M 37 6)) C1.1 (tgt := 16) dX5_has_9 (by decide) (fun hh => ?_) (fun hh => ?_)
    · replace h := h.1 hh
      refine ww_iconst C1.1 (v := (0 : Int32)) dX5_has_16 (by decide) ?_
      refine ww_zret C1.1 dX5_has_17 rfl (Or.inl rfl) ?_
      refine k1 _ _ ?_
      refine ww_if_eq (x := (0 : Int32)) C.1 (tgt := 25) dX9_wear_11 (by decide) (fun _ => ?_) (fun hh => absurd hh (by decide))
      refine ww_iconst C.1 (v := (-1 : Int32)) dX9_wear_25 (by decide) ?_
      refine ww_iret C.1 dX9_wear_26 rfl ?_
      exact h
    · replace h := h.2 hh
      refine ww_iconst C1.1 (v := (1 : Int32)) dX5_has_12 (by decide) ?_
      refine ww_goto C1.1 (tgt := 17) dX5_has_13 (by decide) ?_
      refine ww_zret C1.1 dX5_has_17 rfl (Or.inr rfl) ?_
      refine k1 _ _ ?_
      refine ww_if_eq (x := (1 : Int32)) C.1 (tgt := 25) dX9_wear_11 (by decide) (fun hh => absurd hh (by decide)) (fun _ => ?_)
      refine ww_iload_n C.1 dX9_wear_14 2 rfl rfl ?_
      refine ww_bipush C.1 (v := (-9 : Int32)) dX9_wear_15 (by decide) ?_
      refine ww_bipush C.1 (v := (9 : Int32)) dX9_wear_17 (by decide) ?_
      refine ww_sI C fX9_isWithin (And.intro (by decide) (by decide)) mlRX9_89 dX9_wear_19 (As := [.int x2, .int (-9 : Int32), .int (9 : Int32)]) (rest := []) rfl rfl rfl (Nat.le_of_ble_eq_true rfl) (WpI.of (L0 := [(0, .int x2), (1, .int (-9 : Int32)), (2, .int (9 : Int32))]) rfl rfl (Nat.le_of_ble_eq_true rfl) fun X2 Q2 C2 k2 => ?_)
      refine ww_iload_n C2.1 dX9_isWithin_0 0 rfl rfl ?_
      refine ww_iload_n C2.1 dX9_isWithin_1 1 rfl rfl ?_
      refine ww_icmp_lt (x := x2) (y := (-9 : Int32)) C2.1 (tgt := 14) dX9_isWithin_2 (by decide) (fun hh => ?_) (fun hh => ?_)
      · replace h := h.1 hh
        refine ww_iconst C2.1 (v := (0 : Int32)) dX9_isWithin_14 (by decide) ?_
        refine ww_zret C2.1 dX9_isWithin_15 rfl (Or.inl rfl) ?_
        refine k2 _ _ ?_
        refine ww_if_ne (x := (0 : Int32)) C.1 (tgt := 27) dX9_wear_22 (by decide) (fun hh => absurd hh (by decide)) (fun _ => ?_)
        refine ww_iconst C.1 (v := (-1 : Int32)) dX9_wear_25 (by decide) ?_
        refine ww_iret C.1 dX9_wear_26 rfl ?_
        exact h
      · replace h := h.2 hh
        refine ww_iload_n C2.1 dX9_isWithin_5 0 rfl rfl ?_
        refine ww_iload_n C2.1 dX9_isWithin_6 2 rfl rfl ?_
        refine ww_icmp_gt (x := x2) (y := (9 : Int32)) C2.1 (tgt := 14) dX9_isWithin_7 (by decide) (fun hh => ?_) (fun hh => ?_)
        · replace h := h.1 hh
          refine ww_iconst C2.1 (v := (0 : Int32)) dX9_isWithin_14 (by decide) ?_
          refine ww_zret C2.1 dX9_isWithin_15 rfl (Or.inl rfl) ?_
          refine k2 _ _ ?_
          refine ww_if_ne (x := (0 : Int32)) C.1 (tgt := 27) dX9_wear_22 (by decide) (fun hh => absurd hh (by decide)) (fun _ => ?_)
          refine ww_iconst C.1 (v := (-1 : Int32)) dX9_wear_25 (by decide) ?_
          refine ww_iret C.1 dX9_wear_26 rfl ?_
          exact h
        · replace h := h.2 hh
          refine ww_iconst C2.1 (v := (1 : Int32)) dX9_isWithin_10 (by decide) ?_
          refine ww_goto C2.1 (tgt := 15) dX9_isWithin_11 (by decide) ?_
          refine ww_zret C2.1 dX9_isWithin_15 rfl (Or.inr rfl) ?_
          refine k2 _ _ ?_
          refine ww_if_ne (x := (1 : Int32)) C.1 (tgt := 27) dX9_wear_22 (by decide) (fun _ => ?_) (fun hh => absurd hh (by decide))
          refine ww_aload_n C.1 dX9_wear_27 0 rfl rfl ?_
          refine wt_getR C.1 dX9_wear_28 flRX9_58 (tc0 T2) rfl (gg0_7 G2) ?_
          refine wt_getR C.1 dX9_wear_31 flRX9_104 (tc33 T2) rfl (gg33_1 G2) ?_
          refine wt_getR C.1 dX9_wear_34 flRX9_138 (tc37 T2) rfl (gg37_4 G2) ?_
          refine ww_iload_n C.1 dX9_wear_37 1 rfl rfl ?_
          refine wt_iald C.1 dX9_wear_38 (tc42 T2) h.1 ?_
          replace h := h.2
          refine ww_istore_n C.1 dX9_wear_39 rfl (by decide) [1, 2, 3, 0] (L' := [(0, .ref 0), (1, .int x1), (2, .int x2), (3, .int (M 42 x1.toNatClampNeg))]) rfl ?_
          refine ww_aload_n C.1 dX9_wear_40 0 rfl rfl ?_
          refine wt_getR C.1 dX9_wear_41 flRX9_58 (tc0 T2) rfl (gg0_7 G2) ?_
          refine wt_getR C.1 dX9_wear_44 flRX9_104 (tc33 T2) rfl (gg33_1 G2) ?_
          refine wt_getR C.1 dX9_wear_47 flRX9_138 (tc37 T2) rfl (gg37_4 G2) ?_
          refine ww_iload_n C.1 dX9_wear_50 1 rfl rfl ?_
          refine ww_iload_n C.1 dX9_wear_51 2 rfl rfl ?_
          refine wt_iast C.1 dX9_wear_52 (tc42 T2) h.1 ?_
          replace h := h.2
          refine ww_aload_n C.1 dX9_wear_53 0 rfl rfl ?_
          refine ww_iconst C.1 (v := (1 : Int32)) dX9_wear_54 (by decide) ?_
          refine ww_iload_n C.1 dX9_wear_55 1 rfl rfl ?_
          refine ww_iload_n C.1 dX9_wear_56 3 rfl rfl ?_
          refine ww_vV C fX9_noteChange (And.intro (by decide) (by decide)) mlRX9_197 dX9_wear_57 (tc0 T2) (by decide) rfl (As := [.int (1 : Int32), .int x1, .int (M 42 x1.toNatClampNeg)]) (rest := []) rfl rfl rfl (Nat.le_of_ble_eq_true rfl) ?_
          exact h
set_option maxHeartbeats 4000000 in
set_option maxRecDepth 20000 in
theorem bX9_wear_60 {X : CX} {Q : State → Prop} {M : Mem} {G2 : Grf} {T2 : List (Nat × Nat)} {x1 x2 x3 : Int32} (C : Ok0 X mX9_wear (TTc ++ T2))
    (h : RetOK X Q (some (.int (x3 + (100 : Int32)))) (M, (gj G2), TTc ++ T2)) :
    WW X Q 60 [(0, .ref 0), (1, .int x1), (2, .int x2), (3, .int x3)] [] (M, (gj G2), TTc ++ T2) := by
  refine ww_iload_n C.1 dX9_wear_60 3 rfl rfl ?_
  refine ww_bipush C.1 (v := (100 : Int32)) dX9_wear_61 (by decide) ?_
  refine ww_iadd C.1 dX9_wear_63 ?_
  refine ww_iret C.1 dX9_wear_64 rfl ?_
  exact h
set_option maxHeartbeats 4000000 in
set_option maxRecDepth 20000 in
theorem bX9_come_0 {X : CX} {Q : State → Prop} {M : Mem} {G2 : Grf} {T2 : List (Nat × Nat)} {x1 x2 : Int32} (C : Ok0 X mX9_come (TTc ++ T2))
    (h : ((x1 < (0 : Int32) → RetOK X Q (some (.int (-1 : Int32))) (M, (gj G2), TTc ++ T2)) ∧ (¬ x1 < (0 : Int32) → (((M 37 6) ≤ x1 → RetOK X Q (some (.int (-1 : Int32))) (M, (gj G2), TTc ++ T2)) ∧ (¬ (M 37 6) ≤ x1 → ((x2 < (0 : Int32) → RetOK X Q (some (.int (-1 : Int32))) (M, (gj G2), TTc ++ T2)) ∧ (¬ x2 < (0 : Int32) → (((9 : Int32) < x2 → RetOK X Q (some (.int (-1 : Int32))) (M, (gj G2), TTc ++ T2)) ∧ (¬ (9 : Int32) < x2 → (vp_in x1 7 ∧ (vp_in x1 7 ∧ WpV mX9_noteChange [.ref 0, .int (2 : Int32), .int x1, .int (M 39 x1.toNatClampNeg)] (wr M 39 x1.toNatClampNeg x2) (gj G2) (TTc ++ T2) (fun M' => WW X Q 59 [(0, .ref 0), (1, .int x1), (2, .int x2), (3, .int (M 39 x1.toNatClampNeg))] [] (M', (gj G2), TTc ++ T2))))))))))))) :
    WW X Q 0 [(0, .ref 0), (1, .int x1), (2, .int x2)] [] (M, (gj G2), TTc ++ T2) := by
  refine ww_aload_n C.1 dX9_come_0 0 rfl rfl ?_
  refine wt_getR C.1 dX9_come_1 flRX9_58 (tc0 T2) rfl (gg0_7 G2) ?_
  refine wt_getR C.1 dX9_come_4 flRX9_104 (tc33 T2) rfl (gg33_1 G2) ?_
  refine ww_iload_n C.1 dX9_come_7 1 rfl rfl ?_
  refine ww_vI C fX5_has (And.intro (by decide) (by decide)) mlRX9_128 dX9_come_8 (tc37 T2) (by decide) rfl (As := [.int x1]) (rest := []) rfl rfl rfl (Nat.le_of_ble_eq_true rfl) (WpI.of (L0 := [(0, .ref 37), (1, .int x1)]) rfl rfl (Nat.le_of_ble_eq_true rfl) fun X1 Q1 C1 k1 => ?_)
  refine ww_iload_n C1.1 dX5_has_0 1 rfl rfl ?_
  refine ww_if_lt (x := x1) C1.1 (tgt := 16) dX5_has_1 (by decide) (fun hh => ?_) (fun hh => ?_)
  · replace h := h.1 hh
    refine ww_iconst C1.1 (v := (0 : Int32)) dX5_has_16 (by decide) ?_
    refine ww_zret C1.1 dX5_has_17 rfl (Or.inl rfl) ?_
    refine k1 _ _ ?_
    refine ww_if_eq (x := (0 : Int32)) C.1 (tgt := 24) dX9_come_11 (by decide) (fun _ => ?_) (fun hh => absurd hh (by decide))
    refine ww_iconst C.1 (v := (-1 : Int32)) dX9_come_24 (by decide) ?_
    refine ww_iret C.1 dX9_come_25 rfl ?_
    exact h
  · replace h := h.2 hh
    refine ww_iload_n C1.1 dX5_has_4 1 rfl rfl ?_
    refine ww_aload_n C1.1 dX5_has_5 0 rfl rfl ?_
    refine wt_getI C1.1 dX5_has_6 flRX5_30 (tc37 T2) rfl ?_
    refine ww_icmp_ge (x := x1) (y := (M 37 6)) C1.1 (tgt := 16) dX5_has_9 (by decide) (fun hh => ?_) (fun hh => ?_)
    · replace h := h.1 hh
      refine ww_iconst C1.1 (v := (0 : Int32)) dX5_has_16 (by decide) ?_
      refine ww_zret C1.1 dX5_has_17 rfl (Or.inl rfl) ?_
      refine k1 _ _ ?_
      refine ww_if_eq (x := (0 : Int32)) C.1 (tgt := 24) dX9_come_11 (by decide) (fun _ => ?_) (fun hh => absurd hh (by decide))
      refine ww_iconst C.1 (v := (-1 : Int32)) dX9_come_24 (by decide) ?_
      refine ww_iret C.1 dX9_come_25 rfl ?_
      exact h
    · replace h := h.2 hh
      refine ww_iconst C1.1 (v := (1 : Int32)) dX5_has_12 (by decide) ?_
      refine ww_goto C1.1 (tgt := 17) dX5_has_13 (by decide) ?_
      refine ww_zret C1.1 dX5_has_17 rfl (Or.inr rfl) ?_
      refine k1 _ _ ?_
      refine ww_if_eq (x := (1 : Int32)) C.1 (tgt := 24) dX9_come_11 (by decide) (fun hh => absurd hh (by decide)) (fun _ => ?_)
      refine ww_iload_n C.1 dX9_come_14 2 rfl rfl ?_
      refine ww_iconst C.1 (v := (0 : Int32)) dX9_come_15 (by decide) ?_
      refine ww_bipush C.1 (v := (9 : Int32)) dX9_come_16 (by decide) ?_
      refine ww_sI C fX9_isWithin (And.intro (by decide) (by decide)) mlRX9_89 dX9_come_18 (As := [.int x2, .int (0 : Int32), .int (9 : Int32)]) (rest := []) rfl rfl rfl (Nat.le_of_ble_eq_true rfl) (WpI.of (L0 := [(0, .int x2), (1, .int (0 : Int32)), (2, .int (9 : Int32))]) rfl rfl (Nat.le_of_ble_eq_true rfl) fun X2 Q2 C2 k2 => ?_)
      refine ww_iload_n C2.1 dX9_isWithin_0 0 rfl rfl ?_
      refine ww_iload_n C2.1 dX9_isWithin_1 1 rfl rfl ?_
      refine ww_icmp_lt (x := x2) (y := (0 : Int32)) C2.1 (tgt := 14) dX9_isWithin_2 (by decide) (fun hh => ?_) (fun hh => ?_)
      · replace h := h.1 hh
        refine ww_iconst C2.1 (v := (0 : Int32)) dX9_isWithin_14 (by decide) ?_
        refine ww_zret C2.1 dX9_isWithin_15 rfl (Or.inl rfl) ?_
        refine k2 _ _ ?_
        refine ww_if_ne (x := (0 : Int32)) C.1 (tgt := 26) dX9_come_21 (by decide) (fun hh => absurd hh (by decide)) (fun _ => ?_)
        refine ww_iconst C.1 (v := (-1 : Int32)) dX9_come_24 (by decide) ?_
        refine ww_iret C.1 dX9_come_25 rfl ?_
        exact h
      · replace h := h.2 hh
        refine ww_iload_n C2.1 dX9_isWithin_5 0 rfl rfl ?_
        refine ww_iload_n C2.1 dX9_isWithin_6 2 rfl rfl ?_
        refine ww_icmp_gt (x := x2) (y := (9 : Int32)) C2.1 (tgt := 14) dX9_isWithin_7 (by decide) (fun hh => ?_) (fun hh => ?_)
        · replace h := h.1 hh
          refine ww_iconst C2.1 (v := (0 : Int32)) dX9_isWithin_14 (by decide) ?_
          refine ww_zret C2.1 dX9_isWithin_15 rfl (Or.inl rfl) ?_
          refine k2 _ _ ?_
          refine ww_if_ne (x := (0 : Int32)) C.1 (tgt := 26) dX9_come_21 (by decide) (fun hh => absurd hh (by decide)) (fun _ => ?_)
          refine ww_iconst C.1 (v := (-1 : Int32)) dX9_come_24 (by decide) ?_
          refine ww_iret C.1 dX9_come_25 rfl ?_
          exact h
        · replace h := h.2 hh
          refine ww_iconst C2.1 (v := (1 : Int32)) dX9_isWithin_10 (by decide) ?_
          refine ww_goto C2.1 (tgt := 15) dX9_isWithin_11 (by decide) ?_
          refine ww_zret C2.1 dX9_isWithin_15 rfl (Or.inr rfl) ?_
          refine k2 _ _ ?_
          refine ww_if_ne (x := (1 : Int32)) C.1 (tgt := 26) dX9_come_21 (by decide) (fun _ => ?_) (fun hh => absurd hh (by decide))
          refine ww_aload_n C.1 dX9_come_26 0 rfl rfl ?_
          refine wt_getR C.1 dX9_come_27 flRX9_58 (tc0 T2) rfl (gg0_7 G2) ?_
          refine wt_getR C.1 dX9_come_30 flRX9_104 (tc33 T2) rfl (gg33_1 G2) ?_
          refine wt_getR C.1 dX9_come_33 flRX9_132 (tc37 T2) rfl (gg37_1 G2) ?_
          refine ww_iload_n C.1 dX9_come_36 1 rfl rfl ?_
          refine wt_iald C.1 dX9_come_37 (tc39 T2) h.1 ?_
          replace h := h.2
          refine ww_istore_n C.1 dX9_come_38 rfl (by decide) [1, 2, 3, 0] (L' := [(0, .ref 0), (1, .int x1), (2, .int x2), (3, .int (M 39 x1.toNatClampNeg))]) rfl ?_
          refine ww_aload_n C.1 dX9_come_39 0 rfl rfl ?_
          refine wt_getR C.1 dX9_come_40 flRX9_58 (tc0 T2) rfl (gg0_7 G2) ?_
          refine wt_getR C.1 dX9_come_43 flRX9_104 (tc33 T2) rfl (gg33_1 G2) ?_
          refine wt_getR C.1 dX9_come_46 flRX9_132 (tc37 T2) rfl (gg37_1 G2) ?_
          refine ww_iload_n C.1 dX9_come_49 1 rfl rfl ?_
          refine ww_iload_n C.1 dX9_come_50 2 rfl rfl ?_
          refine wt_iast C.1 dX9_come_51 (tc39 T2) h.1 ?_
          replace h := h.2
          refine ww_aload_n C.1 dX9_come_52 0 rfl rfl ?_
          refine ww_iconst C.1 (v := (2 : Int32)) dX9_come_53 (by decide) ?_
          refine ww_iload_n C.1 dX9_come_54 1 rfl rfl ?_
          refine ww_iload_n C.1 dX9_come_55 3 rfl rfl ?_
          refine ww_vV C fX9_noteChange (And.intro (by decide) (by decide)) mlRX9_197 dX9_come_56 (tc0 T2) (by decide) rfl (As := [.int (2 : Int32), .int x1, .int (M 39 x1.toNatClampNeg)]) (rest := []) rfl rfl rfl (Nat.le_of_ble_eq_true rfl) ?_
          exact h
set_option maxHeartbeats 4000000 in
set_option maxRecDepth 20000 in
theorem bX9_come_59 {X : CX} {Q : State → Prop} {M : Mem} {G2 : Grf} {T2 : List (Nat × Nat)} {x1 x2 x3 : Int32} (C : Ok0 X mX9_come (TTc ++ T2))
    (h : RetOK X Q (some (.int x3)) (M, (gj G2), TTc ++ T2)) :
    WW X Q 59 [(0, .ref 0), (1, .int x1), (2, .int x2), (3, .int x3)] [] (M, (gj G2), TTc ++ T2) := by
  refine ww_iload_n C.1 dX9_come_59 3 rfl rfl ?_
  refine ww_iret C.1 dX9_come_60 rfl ?_
  exact h
set_option maxHeartbeats 4000000 in
set_option maxRecDepth 20000 in
theorem bX9_undo_0 {X : CX} {Q : State → Prop} {M : Mem} {G2 : Grf} {T2 : List (Nat × Nat)} (C : Ok0 X mX9_undo (TTc ++ T2))
    (h : ((¬ (M 10 3) = (0 : Int32) → WpV mX1_takeBack [.ref 10, .ref 37] M (gj G2) (TTc ++ T2) (fun M' => WW X Q 27 [(0, .ref 0)] [] (M', (gj G2), TTc ++ T2))) ∧ ((M 10 3) = (0 : Int32) → RetOK X Q (some (.int (-2 : Int32))) (M, (gj G2), TTc ++ T2)))) :
    WW X Q 0 [(0, .ref 0)] [] (M, (gj G2), TTc ++ T2) := by
  refine ww_aload_n C.1 dX9_undo_0 0 rfl rfl ?_
  refine wt_getR C.1 dX9_undo_1 flRX9_26 (tc0 T2) rfl (gg0_2 G2) ?_
  refine wt_getI C.1 dX9_undo_4 flRX9_97 (tc10 T2) rfl ?_
  refine ww_if_ne (x := (M 10 3)) C.1 (tgt := 13) dX9_undo_7 (by decide) (fun hh => ?_) (fun hh => ?_)
  · replace h := h.1 hh
    refine ww_aload_n C.1 dX9_undo_13 0 rfl rfl ?_
    refine wt_getR C.1 dX9_undo_14 flRX9_26 (tc0 T2) rfl (gg0_2 G2) ?_
    refine ww_aload_n C.1 dX9_undo_17 0 rfl rfl ?_
    refine wt_getR C.1 dX9_undo_18 flRX9_58 (tc0 T2) rfl (gg0_7 G2) ?_
    refine wt_getR C.1 dX9_undo_21 flRX9_104 (tc33 T2) rfl (gg33_1 G2) ?_
    refine ww_vV C fX1_takeBack (And.intro (by decide) (by decide)) mlRX9_201 dX9_undo_24 (tc10 T2) (by decide) rfl (As := [.ref 37]) (rest := []) rfl rfl rfl (Nat.le_of_ble_eq_true rfl) ?_
    exact h
  · replace h := h.2 hh
    refine ww_bipush C.1 (v := (-2 : Int32)) dX9_undo_10 (by decide) ?_
    refine ww_iret C.1 dX9_undo_12 rfl ?_
    exact h
set_option maxHeartbeats 4000000 in
set_option maxRecDepth 20000 in
theorem bX9_undo_27 {X : CX} {Q : State → Prop} {M : Mem} {G2 : Grf} {T2 : List (Nat × Nat)} (C : Ok0 X mX9_undo (TTc ++ T2))
    (h : RetOK X Q (some (.int (M 10 3))) ((wr M 29 3 (0 : Int32)), (gj G2), TTc ++ T2)) :
    WW X Q 27 [(0, .ref 0)] [] (M, (gj G2), TTc ++ T2) := by
  refine ww_aload_n C.1 dX9_undo_27 0 rfl rfl ?_
  refine wt_getR C.1 dX9_undo_28 flRX9_47 (tc0 T2) rfl (gg0_5 G2) ?_
  refine ww_iconst C.1 (v := (0 : Int32)) dX9_undo_31 (by decide) ?_
  refine wt_putZ C.1 dX9_undo_32 flRX9_100 (tc29 T2) rfl (Or.inl rfl) ?_
  refine ww_aload_n C.1 dX9_undo_35 0 rfl rfl ?_
  refine wt_getR C.1 dX9_undo_36 flRX9_26 (tc0 T2) rfl (gg0_2 G2) ?_
  refine wt_getI C.1 dX9_undo_39 flRX9_97 (tc10 T2) rfl ?_
  refine ww_iret C.1 dX9_undo_42 rfl ?_
  exact h
set_option maxHeartbeats 4000000 in
set_option maxRecDepth 20000 in
theorem bX9_order_0 {X : CX} {Q : State → Prop} {M : Mem} {G2 : Grf} {T2 : List (Nat × Nat)} {x1 : Int32} (C : Ok0 X mX9_order (TTc ++ T2))
    (h : ((x1 = (-1 : Int32) → ((¬ (M 29 3) = (0 : Int32) → ((¬ x1 = (-1 : Int32) → (vp_in x1 7 ∧ RetOK X Q (some (.int (M 30 x1.toNatClampNeg))) (M, (gj G2), TTc ++ T2))) ∧ (x1 = (-1 : Int32) → RetOK X Q (some (.int (M 29 2))) (M, (gj G2), TTc ++ T2)))) ∧ ((M 29 3) = (0 : Int32) → WpV mX4_search [.ref 29, .ref 33, .ref 4] M (gj G2) (TTc ++ T2) (fun M' => WW X Q 46 [(0, .ref 0), (1, .int x1)] [] (M', (gj G2), TTc ++ T2))))) ∧ (¬ x1 = (-1 : Int32) → ((x1 < (0 : Int32) → RetOK X Q (some (.int (-1 : Int32))) (M, (gj G2), TTc ++ T2)) ∧ (¬ x1 < (0 : Int32) → (((M 37 6) ≤ x1 → RetOK X Q (some (.int (-1 : Int32))) (M, (gj G2), TTc ++ T2)) ∧ (¬ (M 37 6) ≤ x1 → ((¬ (M 29 3) = (0 : Int32) → ((¬ x1 = (-1 : Int32) → (vp_in x1 7 ∧ RetOK X Q (some (.int (M 30 x1.toNatClampNeg))) (M, (gj G2), TTc ++ T2))) ∧ (x1 = (-1 : Int32) → RetOK X Q (some (.int (M 29 2))) (M, (gj G2), TTc ++ T2)))) ∧ ((M 29 3) = (0 : Int32) → WpV mX4_search [.ref 29, .ref 33, .ref 4] M (gj G2) (TTc ++ T2) (fun M' => WW X Q 46 [(0, .ref 0), (1, .int x1)] [] (M', (gj G2), TTc ++ T2))))))))))) :
    WW X Q 0 [(0, .ref 0), (1, .int x1)] [] (M, (gj G2), TTc ++ T2) := by
  refine ww_iload_n C.1 dX9_order_0 1 rfl rfl ?_
  refine ww_iconst C.1 (v := (-1 : Int32)) dX9_order_1 (by decide) ?_
  refine ww_icmp_eq (x := x1) (y := (-1 : Int32)) C.1 (tgt := 21) dX9_order_2 (by decide) (fun hh => ?_) (fun hh => ?_)
  · replace h := h.1 hh
    refine ww_aload_n C.1 dX9_order_21 0 rfl rfl ?_
    refine wt_getR C.1 dX9_order_22 flRX9_47 (tc0 T2) rfl (gg0_5 G2) ?_
    refine wt_getI C.1 dX9_order_25 flRX9_100 (tc29 T2) rfl ?_
    refine ww_if_ne (x := (M 29 3)) C.1 (tgt := 46) dX9_order_28 (by decide) (fun hh => ?_) (fun hh => ?_)
    · replace h := h.1 hh
      refine ww_iload_n C.1 dX9_order_46 1 rfl rfl ?_
      refine ww_iconst C.1 (v := (-1 : Int32)) dX9_order_47 (by decide) ?_
      refine ww_icmp_ne (x := x1) (y := (-1 : Int32)) C.1 (tgt := 61) dX9_order_48 (by decide) (fun hh => ?_) (fun hh => ?_)
      · replace h := h.1 hh
        refine ww_aload_n C.1 dX9_order_61 0 rfl rfl ?_
        refine wt_getR C.1 dX9_order_62 flRX9_47 (tc0 T2) rfl (gg0_5 G2) ?_
        refine wt_getR C.1 dX9_order_65 flRX9_212 (tc29 T2) rfl (gg29_0 G2) ?_
        refine ww_iload_n C.1 dX9_order_68 1 rfl rfl ?_
        refine wt_iald C.1 dX9_order_69 (tc30 T2) h.1 ?_
        replace h := h.2
        refine ww_iret C.1 dX9_order_70 rfl ?_
        exact h
      · replace h := h.2 hh
        refine ww_aload_n C.1 dX9_order_51 0 rfl rfl ?_
        refine wt_getR C.1 dX9_order_52 flRX9_47 (tc0 T2) rfl (gg0_5 G2) ?_
        refine wt_getI C.1 dX9_order_55 flRX9_209 (tc29 T2) rfl ?_
        refine ww_goto C.1 (tgt := 70) dX9_order_58 (by decide) ?_
        refine ww_iret C.1 dX9_order_70 rfl ?_
        exact h
    · replace h := h.2 hh
      refine ww_aload_n C.1 dX9_order_31 0 rfl rfl ?_
      refine wt_getR C.1 dX9_order_32 flRX9_47 (tc0 T2) rfl (gg0_5 G2) ?_
      refine ww_aload_n C.1 dX9_order_35 0 rfl rfl ?_
      refine wt_getR C.1 dX9_order_36 flRX9_58 (tc0 T2) rfl (gg0_7 G2) ?_
      refine ww_aload_n C.1 dX9_order_39 0 rfl rfl ?_
      refine wt_getR C.1 dX9_order_40 flRX9_19 (tc0 T2) rfl (gg0_1 G2) ?_
      refine ww_vV C fX4_search (And.intro (by decide) (by decide)) mlRX9_205 dX9_order_43 (tc29 T2) (by decide) rfl (As := [.ref 33, .ref 4]) (rest := []) rfl rfl rfl (Nat.le_of_ble_eq_true rfl) ?_
      exact h
  · replace h := h.2 hh
    refine ww_aload_n C.1 dX9_order_5 0 rfl rfl ?_
    refine wt_getR C.1 dX9_order_6 flRX9_58 (tc0 T2) rfl (gg0_7 G2) ?_
    refine wt_getR C.1 dX9_order_9 flRX9_104 (tc33 T2) rfl (gg33_1 G2) ?_
    refine ww_iload_n C.1 dX9_order_12 1 rfl rfl ?_
    refine ww_vI C fX5_has (And.intro (by decide) (by decide)) mlRX9_128 dX9_order_13 (tc37 T2) (by decide) rfl (As := [.int x1]) (rest := []) rfl rfl rfl (Nat.le_of_ble_eq_true rfl) (WpI.of (L0 := [(0, .ref 37), (1, .int x1)]) rfl rfl (Nat.le_of_ble_eq_true rfl) fun X1 Q1 C1 k1 => ?_)
    refine ww_iload_n C1.1 dX5_has_0 1 rfl rfl ?_
    refine ww_if_lt (x := x1) C1.1 (tgt := 16) dX5_has_1 (by decide) (fun hh => ?_) (fun hh => ?_)
    · replace h := h.1 hh
      refine ww_iconst C1.1 (v := (0 : Int32)) dX5_has_16 (by decide) ?_
      refine ww_zret C1.1 dX5_has_17 rfl (Or.inl rfl) ?_
      refine k1 _ _ ?_
      refine ww_if_ne (x := (0 : Int32)) C.1 (tgt := 21) dX9_order_16 (by decide) (fun hh => absurd hh (by decide)) (fun _ => ?_)
      refine ww_iconst C.1 (v := (-1 : Int32)) dX9_order_19 (by decide) ?_
      refine ww_iret C.1 dX9_order_20 rfl ?_
      exact h
    · replace h := h.2 hh
      refine ww_iload_n C1.1 dX5_has_4 1 rfl rfl ?_
      refine ww_aload_n C1.1 dX5_has_5 0 rfl rfl ?_
      refine wt_getI C1.1 dX5_has_6 flRX5_30 (tc37 T2) rfl ?_
      refine ww_icmp_ge (x := x1) (y := (M 37 6)) C1.1 (tgt := 16) dX5_has_9 (by decide) (fun hh => ?_) (fun hh => ?_)
      · replace h := h.1 hh
        refine ww_iconst C1.1 (v := (0 : Int32)) dX5_has_16 (by decide) ?_
        refine ww_zret C1.1 dX5_has_17 rfl (Or.inl rfl) ?_
        refine k1 _ _ ?_
        refine ww_if_ne (x := (0 : Int32)) C.1 (tgt := 21) dX9_order_16 (by decide) (fun hh => absurd hh (by decide)) (fun _ => ?_)
        refine ww_iconst C.1 (v := (-1 : Int32)) dX9_order_19 (by decide) ?_
        refine ww_iret C.1 dX9_order_20 rfl ?_
        exact h
      · replace h := h.2 hh
        refine ww_iconst C1.1 (v := (1 : Int32)) dX5_has_12 (by decide) ?_
        refine ww_goto C1.1 (tgt := 17) dX5_has_13 (by decide) ?_
        refine ww_zret C1.1 dX5_has_17 rfl (Or.inr rfl) ?_
        refine k1 _ _ ?_
        refine ww_if_ne (x := (1 : Int32)) C.1 (tgt := 21) dX9_order_16 (by decide) (fun _ => ?_) (fun hh => absurd hh (by decide))
        refine ww_aload_n C.1 dX9_order_21 0 rfl rfl ?_
        refine wt_getR C.1 dX9_order_22 flRX9_47 (tc0 T2) rfl (gg0_5 G2) ?_
        refine wt_getI C.1 dX9_order_25 flRX9_100 (tc29 T2) rfl ?_
        refine ww_if_ne (x := (M 29 3)) C.1 (tgt := 46) dX9_order_28 (by decide) (fun hh => ?_) (fun hh => ?_)
        · replace h := h.1 hh
          refine ww_iload_n C.1 dX9_order_46 1 rfl rfl ?_
          refine ww_iconst C.1 (v := (-1 : Int32)) dX9_order_47 (by decide) ?_
          refine ww_icmp_ne (x := x1) (y := (-1 : Int32)) C.1 (tgt := 61) dX9_order_48 (by decide) (fun hh => ?_) (fun hh => ?_)
          · replace h := h.1 hh
            refine ww_aload_n C.1 dX9_order_61 0 rfl rfl ?_
            refine wt_getR C.1 dX9_order_62 flRX9_47 (tc0 T2) rfl (gg0_5 G2) ?_
            refine wt_getR C.1 dX9_order_65 flRX9_212 (tc29 T2) rfl (gg29_0 G2) ?_
            refine ww_iload_n C.1 dX9_order_68 1 rfl rfl ?_
            refine wt_iald C.1 dX9_order_69 (tc30 T2) h.1 ?_
            replace h := h.2
            refine ww_iret C.1 dX9_order_70 rfl ?_
            exact h
          · replace h := h.2 hh
            refine ww_aload_n C.1 dX9_order_51 0 rfl rfl ?_
            refine wt_getR C.1 dX9_order_52 flRX9_47 (tc0 T2) rfl (gg0_5 G2) ?_
            refine wt_getI C.1 dX9_order_55 flRX9_209 (tc29 T2) rfl ?_
            refine ww_goto C.1 (tgt := 70) dX9_order_58 (by decide) ?_
            refine ww_iret C.1 dX9_order_70 rfl ?_
            exact h
        · replace h := h.2 hh
          refine ww_aload_n C.1 dX9_order_31 0 rfl rfl ?_
          refine wt_getR C.1 dX9_order_32 flRX9_47 (tc0 T2) rfl (gg0_5 G2) ?_
          refine ww_aload_n C.1 dX9_order_35 0 rfl rfl ?_
          refine wt_getR C.1 dX9_order_36 flRX9_58 (tc0 T2) rfl (gg0_7 G2) ?_
          refine ww_aload_n C.1 dX9_order_39 0 rfl rfl ?_
          refine wt_getR C.1 dX9_order_40 flRX9_19 (tc0 T2) rfl (gg0_1 G2) ?_
          refine ww_vV C fX4_search (And.intro (by decide) (by decide)) mlRX9_205 dX9_order_43 (tc29 T2) (by decide) rfl (As := [.ref 33, .ref 4]) (rest := []) rfl rfl rfl (Nat.le_of_ble_eq_true rfl) ?_
          exact h
set_option maxHeartbeats 4000000 in
set_option maxRecDepth 20000 in
theorem bX9_order_46 {X : CX} {Q : State → Prop} {M : Mem} {G2 : Grf} {T2 : List (Nat × Nat)} {x1 : Int32} (C : Ok0 X mX9_order (TTc ++ T2))
    (h : ((¬ x1 = (-1 : Int32) → (vp_in x1 7 ∧ RetOK X Q (some (.int (M 30 x1.toNatClampNeg))) (M, (gj G2), TTc ++ T2))) ∧ (x1 = (-1 : Int32) → RetOK X Q (some (.int (M 29 2))) (M, (gj G2), TTc ++ T2)))) :
    WW X Q 46 [(0, .ref 0), (1, .int x1)] [] (M, (gj G2), TTc ++ T2) := by
  refine ww_iload_n C.1 dX9_order_46 1 rfl rfl ?_
  refine ww_iconst C.1 (v := (-1 : Int32)) dX9_order_47 (by decide) ?_
  refine ww_icmp_ne (x := x1) (y := (-1 : Int32)) C.1 (tgt := 61) dX9_order_48 (by decide) (fun hh => ?_) (fun hh => ?_)
  · replace h := h.1 hh
    refine ww_aload_n C.1 dX9_order_61 0 rfl rfl ?_
    refine wt_getR C.1 dX9_order_62 flRX9_47 (tc0 T2) rfl (gg0_5 G2) ?_
    refine wt_getR C.1 dX9_order_65 flRX9_212 (tc29 T2) rfl (gg29_0 G2) ?_
    refine ww_iload_n C.1 dX9_order_68 1 rfl rfl ?_
    refine wt_iald C.1 dX9_order_69 (tc30 T2) h.1 ?_
    replace h := h.2
    refine ww_iret C.1 dX9_order_70 rfl ?_
    exact h
  · replace h := h.2 hh
    refine ww_aload_n C.1 dX9_order_51 0 rfl rfl ?_
    refine wt_getR C.1 dX9_order_52 flRX9_47 (tc0 T2) rfl (gg0_5 G2) ?_
    refine wt_getI C.1 dX9_order_55 flRX9_209 (tc29 T2) rfl ?_
    refine ww_goto C.1 (tgt := 70) dX9_order_58 (by decide) ?_
    refine ww_iret C.1 dX9_order_70 rfl ?_
    exact h
set_option maxHeartbeats 4000000 in
set_option maxRecDepth 20000 in
theorem bX9_cushion_0 {X : CX} {Q : State → Prop} {M : Mem} {G2 : Grf} {T2 : List (Nat × Nat)} {x1 : Int32} (C : Ok0 X mX9_cushion (TTc ++ T2))
    (h : ((x1 < (0 : Int32) → RetOK X Q (some (.int (-1 : Int32))) (M, (gj G2), TTc ++ T2)) ∧ (¬ x1 < (0 : Int32) → (((2 : Int32) < x1 → RetOK X Q (some (.int (-1 : Int32))) (M, (gj G2), TTc ++ T2)) ∧ (¬ (2 : Int32) < x1 → WW X Q 22 [(0, .ref 0), (1, .int x1), (2, .int (1000000 : Int32)), (3, .int (0 : Int32)), (4, .int (0 : Int32)), (5, .int (0 : Int32))] [] (M, (gj G2), TTc ++ T2)))))) :
    WW X Q 0 [(0, .ref 0), (1, .int x1)] [] (M, (gj G2), TTc ++ T2) := by
  refine ww_iload_n C.1 dX9_cushion_0 1 rfl rfl ?_
  refine ww_iconst C.1 (v := (0 : Int32)) dX9_cushion_1 (by decide) ?_
  refine ww_iconst C.1 (v := (2 : Int32)) dX9_cushion_2 (by decide) ?_
  refine ww_sI C fX9_isWithin (And.intro (by decide) (by decide)) mlRX9_89 dX9_cushion_3 (As := [.int x1, .int (0 : Int32), .int (2 : Int32)]) (rest := []) rfl rfl rfl (Nat.le_of_ble_eq_true rfl) (WpI.of (L0 := [(0, .int x1), (1, .int (0 : Int32)), (2, .int (2 : Int32))]) rfl rfl (Nat.le_of_ble_eq_true rfl) fun X1 Q1 C1 k1 => ?_)
  refine ww_iload_n C1.1 dX9_isWithin_0 0 rfl rfl ?_
  refine ww_iload_n C1.1 dX9_isWithin_1 1 rfl rfl ?_
  refine ww_icmp_lt (x := x1) (y := (0 : Int32)) C1.1 (tgt := 14) dX9_isWithin_2 (by decide) (fun hh => ?_) (fun hh => ?_)
  · replace h := h.1 hh
    refine ww_iconst C1.1 (v := (0 : Int32)) dX9_isWithin_14 (by decide) ?_
    refine ww_zret C1.1 dX9_isWithin_15 rfl (Or.inl rfl) ?_
    refine k1 _ _ ?_
    refine ww_if_ne (x := (0 : Int32)) C.1 (tgt := 11) dX9_cushion_6 (by decide) (fun hh => absurd hh (by decide)) (fun _ => ?_)
    refine ww_iconst C.1 (v := (-1 : Int32)) dX9_cushion_9 (by decide) ?_
    refine ww_iret C.1 dX9_cushion_10 rfl ?_
    exact h
  · replace h := h.2 hh
    refine ww_iload_n C1.1 dX9_isWithin_5 0 rfl rfl ?_
    refine ww_iload_n C1.1 dX9_isWithin_6 2 rfl rfl ?_
    refine ww_icmp_gt (x := x1) (y := (2 : Int32)) C1.1 (tgt := 14) dX9_isWithin_7 (by decide) (fun hh => ?_) (fun hh => ?_)
    · replace h := h.1 hh
      refine ww_iconst C1.1 (v := (0 : Int32)) dX9_isWithin_14 (by decide) ?_
      refine ww_zret C1.1 dX9_isWithin_15 rfl (Or.inl rfl) ?_
      refine k1 _ _ ?_
      refine ww_if_ne (x := (0 : Int32)) C.1 (tgt := 11) dX9_cushion_6 (by decide) (fun hh => absurd hh (by decide)) (fun _ => ?_)
      refine ww_iconst C.1 (v := (-1 : Int32)) dX9_cushion_9 (by decide) ?_
      refine ww_iret C.1 dX9_cushion_10 rfl ?_
      exact h
    · replace h := h.2 hh
      refine ww_iconst C1.1 (v := (1 : Int32)) dX9_isWithin_10 (by decide) ?_
      refine ww_goto C1.1 (tgt := 15) dX9_isWithin_11 (by decide) ?_
      refine ww_zret C1.1 dX9_isWithin_15 rfl (Or.inr rfl) ?_
      refine k1 _ _ ?_
      refine ww_if_ne (x := (1 : Int32)) C.1 (tgt := 11) dX9_cushion_6 (by decide) (fun _ => ?_) (fun hh => absurd hh (by decide))
      refine ww_ldc C.1 kcRX9_152 dX9_cushion_11 ?_
      refine ww_istore_n C.1 dX9_cushion_13 rfl (by decide) [1, 2, 0] (L' := [(0, .ref 0), (1, .int x1), (2, .int (1000000 : Int32))]) rfl ?_
      refine ww_iconst C.1 (v := (0 : Int32)) dX9_cushion_14 (by decide) ?_
      refine ww_istore_n C.1 dX9_cushion_15 rfl (by decide) [1, 2, 3, 0] (L' := [(0, .ref 0), (1, .int x1), (2, .int (1000000 : Int32)), (3, .int (0 : Int32))]) rfl ?_
      refine ww_iconst C.1 (v := (0 : Int32)) dX9_cushion_16 (by decide) ?_
      refine ww_istore C.1 dX9_cushion_17 (by decide) [1, 2, 3, 4, 0] (L' := [(0, .ref 0), (1, .int x1), (2, .int (1000000 : Int32)), (3, .int (0 : Int32)), (4, .int (0 : Int32))]) rfl ?_
      refine ww_iconst C.1 (v := (0 : Int32)) dX9_cushion_19 (by decide) ?_
      refine ww_istore C.1 dX9_cushion_20 (by decide) [1, 2, 3, 4, 5, 0] (L' := [(0, .ref 0), (1, .int x1), (2, .int (1000000 : Int32)), (3, .int (0 : Int32)), (4, .int (0 : Int32)), (5, .int (0 : Int32))]) rfl ?_
      exact h
set_option maxHeartbeats 4000000 in
set_option maxRecDepth 20000 in
theorem bX9_cushion_22 {X : CX} {Q : State → Prop} {M : Mem} {G2 : Grf} {T2 : List (Nat × Nat)} {x1 x2 x3 x4 x5 : Int32} (C : Ok0 X mX9_cushion (TTc ++ T2))
    (h : (((M 37 6) ≤ x5 → ((x1 = (0 : Int32) → RetOK X Q (some (.int x3)) (M, (gj G2), TTc ++ T2)) ∧ (¬ x1 = (0 : Int32) → ((x1 = (1 : Int32) → RetOK X Q (some (.int (x4 + (100 : Int32)))) (M, (gj G2), TTc ++ T2)) ∧ (¬ x1 = (1 : Int32) → RetOK X Q (some (.int x2)) (M, (gj G2), TTc ++ T2)))))) ∧ (¬ (M 37 6) ≤ x5 → (vp_in x5 7 ∧ WW X Q 56 [(0, .ref 0), (1, .int x1), (2, .int x2), (3, .int x3), (4, .int x4), (5, .int x5), (6, .int (M 42 x5.toNatClampNeg)), (7, .int (-9 : Int32))] [] (M, (gj G2), TTc ++ T2))))) :
    WW X Q 22 [(0, .ref 0), (1, .int x1), (2, .int x2), (3, .int x3), (4, .int x4), (5, .int x5)] [] (M, (gj G2), TTc ++ T2) := by
  refine ww_iload C.1 dX9_cushion_22 5 rfl ?_
  refine ww_aload_n C.1 dX9_cushion_24 0 rfl rfl ?_
  refine wt_getR C.1 dX9_cushion_25 flRX9_58 (tc0 T2) rfl (gg0_7 G2) ?_
  refine wt_getR C.1 dX9_cushion_28 flRX9_104 (tc33 T2) rfl (gg33_1 G2) ?_
  refine wt_getI C.1 dX9_cushion_31 flRX9_108 (tc37 T2) rfl ?_
  refine ww_icmp_ge (x := x5) (y := (M 37 6)) C.1 (tgt := 128) dX9_cushion_34 (by decide) (fun hh => ?_) (fun hh => ?_)
  · replace h := h.1 hh
    refine ww_iload_n C.1 dX9_cushion_128 1 rfl rfl ?_
    by_cases hc0 : x1 = (0 : Int32)
    · replace h := h.1 hc0
      refine ww_lookup (x := x1) C.1 (tgt := 156) (off := 27) dX9_cushion_129 (by decide) (by rw [hc0]; rfl) (by decide) ?_
      refine ww_iload_n C.1 dX9_cushion_156 3 rfl rfl ?_
      refine ww_iret C.1 dX9_cushion_157 rfl ?_
      exact h
    · replace h := h.2 hc0
      by_cases hc1 : x1 = (1 : Int32)
      · replace h := h.1 hc1
        refine ww_lookup (x := x1) C.1 (tgt := 158) (off := 29) dX9_cushion_129 (by decide) (by rw [hc1]; rfl) (by decide) ?_
        refine ww_iload C.1 dX9_cushion_158 4 rfl ?_
        refine ww_bipush C.1 (v := (100 : Int32)) dX9_cushion_160 (by decide) ?_
        refine ww_iadd C.1 dX9_cushion_162 ?_
        refine ww_iret C.1 dX9_cushion_163 rfl ?_
        exact h
      · replace h := h.2 hc1
        refine ww_lookup (x := x1) C.1 (tgt := 164) (off := 35) dX9_cushion_129 (by decide) (by refine (lv_osw hc0 (by decide)).trans ?_; refine (lv_osw hc1 (by decide)).trans ?_; rfl) (by decide) ?_
        refine ww_iload_n C.1 dX9_cushion_164 2 rfl rfl ?_
        refine ww_iret C.1 dX9_cushion_165 rfl ?_
        exact h
  · replace h := h.2 hh
    refine ww_aload_n C.1 dX9_cushion_37 0 rfl rfl ?_
    refine wt_getR C.1 dX9_cushion_38 flRX9_58 (tc0 T2) rfl (gg0_7 G2) ?_
    refine wt_getR C.1 dX9_cushion_41 flRX9_104 (tc33 T2) rfl (gg33_1 G2) ?_
    refine wt_getR C.1 dX9_cushion_44 flRX9_138 (tc37 T2) rfl (gg37_4 G2) ?_
    refine ww_iload C.1 dX9_cushion_47 5 rfl ?_
    refine wt_iald C.1 dX9_cushion_49 (tc42 T2) h.1 ?_
    replace h := h.2
    refine ww_istore C.1 dX9_cushion_50 (by decide) [1, 2, 3, 4, 5, 6, 0] (L' := [(0, .ref 0), (1, .int x1), (2, .int x2), (3, .int x3), (4, .int x4), (5, .int x5), (6, .int (M 42 x5.toNatClampNeg))]) rfl ?_
    refine ww_bipush C.1 (v := (-9 : Int32)) dX9_cushion_52 (by decide) ?_
    refine ww_istore C.1 dX9_cushion_54 (by decide) [1, 2, 3, 4, 5, 6, 7, 0] (L' := [(0, .ref 0), (1, .int x1), (2, .int x2), (3, .int x3), (4, .int x4), (5, .int x5), (6, .int (M 42 x5.toNatClampNeg)), (7, .int (-9 : Int32))]) rfl ?_
    exact h
set_option maxHeartbeats 4000000 in
set_option maxRecDepth 20000 in
theorem bX9_cushion_56 {X : CX} {Q : State → Prop} {M : Mem} {G2 : Grf} {T2 : List (Nat × Nat)} {x1 x2 x3 x4 x5 x6 x7 : Int32} (C : Ok0 X mX9_cushion (TTc ++ T2))
    (h : (((9 : Int32) < x7 → (vp_in x5 7 ∧ WW X Q 22 [(0, .ref 0), (1, .int x1), (2, .int x2), (3, .int x3), (4, .int x4), (5, .int (x5 + (1 : Int32)))] [] ((wr M 42 x5.toNatClampNeg x6), (gj G2), TTc ++ T2))) ∧ (¬ (9 : Int32) < x7 → (vp_in x5 7 ∧ WpI mX9_sumBelow [.ref 0, .int x2] (wr M 42 x5.toNatClampNeg x7) (gj G2) (TTc ++ T2) (fun r M' => WW X Q 83 [(0, .ref 0), (1, .int x1), (2, .int x2), (3, .int x3), (4, .int x4), (5, .int x5), (6, .int x6), (7, .int x7)] [.int r] (M', (gj G2), TTc ++ T2)))))) :
    WW X Q 56 [(0, .ref 0), (1, .int x1), (2, .int x2), (3, .int x3), (4, .int x4), (5, .int x5), (6, .int x6), (7, .int x7)] [] (M, (gj G2), TTc ++ T2) := by
  refine ww_iload C.1 dX9_cushion_56 7 rfl ?_
  refine ww_bipush C.1 (v := (9 : Int32)) dX9_cushion_58 (by decide) ?_
  refine ww_icmp_gt (x := x7) (y := (9 : Int32)) C.1 (tgt := 107) dX9_cushion_60 (by decide) (fun hh => ?_) (fun hh => ?_)
  · replace h := h.1 hh
    refine ww_aload_n C.1 dX9_cushion_107 0 rfl rfl ?_
    refine wt_getR C.1 dX9_cushion_108 flRX9_58 (tc0 T2) rfl (gg0_7 G2) ?_
    refine wt_getR C.1 dX9_cushion_111 flRX9_104 (tc33 T2) rfl (gg33_1 G2) ?_
    refine wt_getR C.1 dX9_cushion_114 flRX9_138 (tc37 T2) rfl (gg37_4 G2) ?_
    refine ww_iload C.1 dX9_cushion_117 5 rfl ?_
    refine ww_iload C.1 dX9_cushion_119 6 rfl ?_
    refine wt_iast C.1 dX9_cushion_121 (tc42 T2) h.1 ?_
    replace h := h.2
    refine ww_iinc C.1 (v := (x5 + (1 : Int32))) dX9_cushion_122 5 rfl (by rfl) (by decide) [1, 2, 3, 4, 5, 0, 6, 7] (L' := [(0, .ref 0), (1, .int x1), (2, .int x2), (3, .int x3), (4, .int x4), (5, .int (x5 + (1 : Int32))), (6, .int x6), (7, .int x7)]) rfl ?_
    refine ww_goto C.1 (tgt := 22) dX9_cushion_125 (by decide) ?_
    refine ww_loc [0, 1, 2, 3, 4, 5] (L' := [(0, .ref 0), (1, .int x1), (2, .int x2), (3, .int x3), (4, .int x4), (5, .int (x5 + (1 : Int32)))]) rfl ?_
    exact h
  · replace h := h.2 hh
    refine ww_aload_n C.1 dX9_cushion_63 0 rfl rfl ?_
    refine wt_getR C.1 dX9_cushion_64 flRX9_58 (tc0 T2) rfl (gg0_7 G2) ?_
    refine wt_getR C.1 dX9_cushion_67 flRX9_104 (tc33 T2) rfl (gg33_1 G2) ?_
    refine wt_getR C.1 dX9_cushion_70 flRX9_138 (tc37 T2) rfl (gg37_4 G2) ?_
    refine ww_iload C.1 dX9_cushion_73 5 rfl ?_
    refine ww_iload C.1 dX9_cushion_75 7 rfl ?_
    refine wt_iast C.1 dX9_cushion_77 (tc42 T2) h.1 ?_
    replace h := h.2
    refine ww_aload_n C.1 dX9_cushion_78 0 rfl rfl ?_
    refine ww_iload_n C.1 dX9_cushion_79 2 rfl rfl ?_
    refine ww_vI C fX9_sumBelow (And.intro (by decide) (by decide)) mlRX9_215 dX9_cushion_80 (tc0 T2) (by decide) rfl (As := [.int x2]) (rest := []) rfl rfl rfl (Nat.le_of_ble_eq_true rfl) ?_
    exact h
set_option maxHeartbeats 4000000 in
set_option maxRecDepth 20000 in
theorem bX9_cushion_83 {X : CX} {Q : State → Prop} {M : Mem} {G2 : Grf} {T2 : List (Nat × Nat)} {x1 x2 x3 x4 x5 x6 x7 s0 : Int32} (C : Ok0 X mX9_cushion (TTc ++ T2))
    (h : ((x2 ≤ s0 → WW X Q 56 [(0, .ref 0), (1, .int x1), (2, .int x2), (3, .int x3), (4, .int x4), (5, .int x5), (6, .int x6), (7, .int (x7 + (1 : Int32)))] [] (M, (gj G2), TTc ++ T2)) ∧ (¬ x2 ≤ s0 → WW X Q 56 [(0, .ref 0), (1, .int x1), (2, .int s0), (3, .int x5), (4, .int x7), (5, .int x5), (6, .int x6), (7, .int (x7 + (1 : Int32)))] [] (M, (gj G2), TTc ++ T2)))) :
    WW X Q 83 [(0, .ref 0), (1, .int x1), (2, .int x2), (3, .int x3), (4, .int x4), (5, .int x5), (6, .int x6), (7, .int x7)] [.int s0] (M, (gj G2), TTc ++ T2) := by
  refine ww_istore C.1 dX9_cushion_83 (by decide) [1, 2, 3, 4, 5, 6, 7, 8, 0] (L' := [(0, .ref 0), (1, .int x1), (2, .int x2), (3, .int x3), (4, .int x4), (5, .int x5), (6, .int x6), (7, .int x7), (8, .int s0)]) rfl ?_
  refine ww_iload C.1 dX9_cushion_85 8 rfl ?_
  refine ww_iload_n C.1 dX9_cushion_87 2 rfl rfl ?_
  refine ww_icmp_ge (x := s0) (y := x2) C.1 (tgt := 101) dX9_cushion_88 (by decide) (fun hh => ?_) (fun hh => ?_)
  · replace h := h.1 hh
    refine ww_iinc C.1 (v := (x7 + (1 : Int32))) dX9_cushion_101 7 rfl (by rfl) (by decide) [1, 2, 3, 4, 5, 6, 7, 0, 8] (L' := [(0, .ref 0), (1, .int x1), (2, .int x2), (3, .int x3), (4, .int x4), (5, .int x5), (6, .int x6), (7, .int (x7 + (1 : Int32))), (8, .int s0)]) rfl ?_
    refine ww_goto C.1 (tgt := 56) dX9_cushion_104 (by decide) ?_
    refine ww_loc [0, 1, 2, 3, 4, 5, 6, 7] (L' := [(0, .ref 0), (1, .int x1), (2, .int x2), (3, .int x3), (4, .int x4), (5, .int x5), (6, .int x6), (7, .int (x7 + (1 : Int32)))]) rfl ?_
    exact h
  · replace h := h.2 hh
    refine ww_iload C.1 dX9_cushion_91 8 rfl ?_
    refine ww_istore_n C.1 dX9_cushion_93 rfl (by decide) [1, 2, 0, 3, 4, 5, 6, 7, 8] (L' := [(0, .ref 0), (1, .int x1), (2, .int s0), (3, .int x3), (4, .int x4), (5, .int x5), (6, .int x6), (7, .int x7), (8, .int s0)]) rfl ?_
    refine ww_iload C.1 dX9_cushion_94 5 rfl ?_
    refine ww_istore_n C.1 dX9_cushion_96 rfl (by decide) [1, 2, 3, 0, 4, 5, 6, 7, 8] (L' := [(0, .ref 0), (1, .int x1), (2, .int s0), (3, .int x5), (4, .int x4), (5, .int x5), (6, .int x6), (7, .int x7), (8, .int s0)]) rfl ?_
    refine ww_iload C.1 dX9_cushion_97 7 rfl ?_
    refine ww_istore C.1 dX9_cushion_99 (by decide) [1, 2, 3, 4, 0, 5, 6, 7, 8] (L' := [(0, .ref 0), (1, .int x1), (2, .int s0), (3, .int x5), (4, .int x7), (5, .int x5), (6, .int x6), (7, .int x7), (8, .int s0)]) rfl ?_
    refine ww_iinc C.1 (v := (x7 + (1 : Int32))) dX9_cushion_101 7 rfl (by rfl) (by decide) [1, 2, 3, 4, 5, 6, 7, 0, 8] (L' := [(0, .ref 0), (1, .int x1), (2, .int s0), (3, .int x5), (4, .int x7), (5, .int x5), (6, .int x6), (7, .int (x7 + (1 : Int32))), (8, .int s0)]) rfl ?_
    refine ww_goto C.1 (tgt := 56) dX9_cushion_104 (by decide) ?_
    refine ww_loc [0, 1, 2, 3, 4, 5, 6, 7] (L' := [(0, .ref 0), (1, .int x1), (2, .int s0), (3, .int x5), (4, .int x7), (5, .int x5), (6, .int x6), (7, .int (x7 + (1 : Int32)))]) rfl ?_
    exact h
set_option maxHeartbeats 4000000 in
set_option maxRecDepth 20000 in
theorem bX9_length_0 {X : CX} {Q : State → Prop} {M : Mem} {G2 : Grf} {T2 : List (Nat × Nat)} {x1 x2 : Int32} (C : Ok0 X mX9_length (TTc ++ T2))
    (h : ((x1 < (0 : Int32) → RetOK X Q (some (.int (-1 : Int32))) (M, (gj G2), TTc ++ T2)) ∧ (¬ x1 < (0 : Int32) → (((M 34 2) ≤ x1 → RetOK X Q (some (.int (-1 : Int32))) (M, (gj G2), TTc ++ T2)) ∧ (¬ (M 34 2) ≤ x1 → ((x2 < (0 : Int32) → RetOK X Q (some (.int (-1 : Int32))) (M, (gj G2), TTc ++ T2)) ∧ (¬ x2 < (0 : Int32) → (((1 : Int32) < x2 → RetOK X Q (some (.int (-1 : Int32))) (M, (gj G2), TTc ++ T2)) ∧ (¬ (1 : Int32) < x2 → (vp_in x1 4 ∧ WW X Q 49 [(0, .ref 0), (1, .int x1), (2, .int x2), (3, .int (M 35 x1.toNatClampNeg)), (4, .int (1000000 : Int32)), (5, .int (M 35 x1.toNatClampNeg)), (6, .int (40 : Int32))] [] (M, (gj G2), TTc ++ T2))))))))))) :
    WW X Q 0 [(0, .ref 0), (1, .int x1), (2, .int x2)] [] (M, (gj G2), TTc ++ T2) := by
  refine ww_aload_n C.1 dX9_length_0 0 rfl rfl ?_
  refine wt_getR C.1 dX9_length_1 flRX9_58 (tc0 T2) rfl (gg0_7 G2) ?_
  refine wt_getR C.1 dX9_length_4 flRX9_111 (tc33 T2) rfl (gg33_0 G2) ?_
  refine ww_iload_n C.1 dX9_length_7 1 rfl rfl ?_
  refine ww_vI C fX0_has (And.intro (by decide) (by decide)) mlRX9_115 dX9_length_8 (tc34 T2) (by decide) rfl (As := [.int x1]) (rest := []) rfl rfl rfl (Nat.le_of_ble_eq_true rfl) (WpI.of (L0 := [(0, .ref 34), (1, .int x1)]) rfl rfl (Nat.le_of_ble_eq_true rfl) fun X1 Q1 C1 k1 => ?_)
  refine ww_iload_n C1.1 dX0_has_0 1 rfl rfl ?_
  refine ww_if_lt (x := x1) C1.1 (tgt := 16) dX0_has_1 (by decide) (fun hh => ?_) (fun hh => ?_)
  · replace h := h.1 hh
    refine ww_iconst C1.1 (v := (0 : Int32)) dX0_has_16 (by decide) ?_
    refine ww_zret C1.1 dX0_has_17 rfl (Or.inl rfl) ?_
    refine k1 _ _ ?_
    refine ww_if_eq (x := (0 : Int32)) C.1 (tgt := 23) dX9_length_11 (by decide) (fun _ => ?_) (fun hh => absurd hh (by decide))
    refine ww_iconst C.1 (v := (-1 : Int32)) dX9_length_23 (by decide) ?_
    refine ww_iret C.1 dX9_length_24 rfl ?_
    exact h
  · replace h := h.2 hh
    refine ww_iload_n C1.1 dX0_has_4 1 rfl rfl ?_
    refine ww_aload_n C1.1 dX0_has_5 0 rfl rfl ?_
    refine wt_getI C1.1 dX0_has_6 flRX0_22 (tc34 T2) rfl ?_
    refine ww_icmp_ge (x := x1) (y := (M 34 2)) C1.1 (tgt := 16) dX0_has_9 (by decide) (fun hh => ?_) (fun hh => ?_)
    · replace h := h.1 hh
      refine ww_iconst C1.1 (v := (0 : Int32)) dX0_has_16 (by decide) ?_
      refine ww_zret C1.1 dX0_has_17 rfl (Or.inl rfl) ?_
      refine k1 _ _ ?_
      refine ww_if_eq (x := (0 : Int32)) C.1 (tgt := 23) dX9_length_11 (by decide) (fun _ => ?_) (fun hh => absurd hh (by decide))
      refine ww_iconst C.1 (v := (-1 : Int32)) dX9_length_23 (by decide) ?_
      refine ww_iret C.1 dX9_length_24 rfl ?_
      exact h
    · replace h := h.2 hh
      refine ww_iconst C1.1 (v := (1 : Int32)) dX0_has_12 (by decide) ?_
      refine ww_goto C1.1 (tgt := 17) dX0_has_13 (by decide) ?_
      refine ww_zret C1.1 dX0_has_17 rfl (Or.inr rfl) ?_
      refine k1 _ _ ?_
      refine ww_if_eq (x := (1 : Int32)) C.1 (tgt := 23) dX9_length_11 (by decide) (fun hh => absurd hh (by decide)) (fun _ => ?_)
      refine ww_iload_n C.1 dX9_length_14 2 rfl rfl ?_
      refine ww_iconst C.1 (v := (0 : Int32)) dX9_length_15 (by decide) ?_
      refine ww_iconst C.1 (v := (1 : Int32)) dX9_length_16 (by decide) ?_
      refine ww_sI C fX9_isWithin (And.intro (by decide) (by decide)) mlRX9_89 dX9_length_17 (As := [.int x2, .int (0 : Int32), .int (1 : Int32)]) (rest := []) rfl rfl rfl (Nat.le_of_ble_eq_true rfl) (WpI.of (L0 := [(0, .int x2), (1, .int (0 : Int32)), (2, .int (1 : Int32))]) rfl rfl (Nat.le_of_ble_eq_true rfl) fun X2 Q2 C2 k2 => ?_)
      refine ww_iload_n C2.1 dX9_isWithin_0 0 rfl rfl ?_
      refine ww_iload_n C2.1 dX9_isWithin_1 1 rfl rfl ?_
      refine ww_icmp_lt (x := x2) (y := (0 : Int32)) C2.1 (tgt := 14) dX9_isWithin_2 (by decide) (fun hh => ?_) (fun hh => ?_)
      · replace h := h.1 hh
        refine ww_iconst C2.1 (v := (0 : Int32)) dX9_isWithin_14 (by decide) ?_
        refine ww_zret C2.1 dX9_isWithin_15 rfl (Or.inl rfl) ?_
        refine k2 _ _ ?_
        refine ww_if_ne (x := (0 : Int32)) C.1 (tgt := 25) dX9_length_20 (by decide) (fun hh => absurd hh (by decide)) (fun _ => ?_)
        refine ww_iconst C.1 (v := (-1 : Int32)) dX9_length_23 (by decide) ?_
        refine ww_iret C.1 dX9_length_24 rfl ?_
        exact h
      · replace h := h.2 hh
        refine ww_iload_n C2.1 dX9_isWithin_5 0 rfl rfl ?_
        refine ww_iload_n C2.1 dX9_isWithin_6 2 rfl rfl ?_
        refine ww_icmp_gt (x := x2) (y := (1 : Int32)) C2.1 (tgt := 14) dX9_isWithin_7 (by decide) (fun hh => ?_) (fun hh => ?_)
        · replace h := h.1 hh
          refine ww_iconst C2.1 (v := (0 : Int32)) dX9_isWithin_14 (by decide) ?_
          refine ww_zret C2.1 dX9_isWithin_15 rfl (Or.inl rfl) ?_
          refine k2 _ _ ?_
          refine ww_if_ne (x := (0 : Int32)) C.1 (tgt := 25) dX9_length_20 (by decide) (fun hh => absurd hh (by decide)) (fun _ => ?_)
          refine ww_iconst C.1 (v := (-1 : Int32)) dX9_length_23 (by decide) ?_
          refine ww_iret C.1 dX9_length_24 rfl ?_
          exact h
        · replace h := h.2 hh
          refine ww_iconst C2.1 (v := (1 : Int32)) dX9_isWithin_10 (by decide) ?_
          refine ww_goto C2.1 (tgt := 15) dX9_isWithin_11 (by decide) ?_
          refine ww_zret C2.1 dX9_isWithin_15 rfl (Or.inr rfl) ?_
          refine k2 _ _ ?_
          refine ww_if_ne (x := (1 : Int32)) C.1 (tgt := 25) dX9_length_20 (by decide) (fun _ => ?_) (fun hh => absurd hh (by decide))
          refine ww_aload_n C.1 dX9_length_25 0 rfl rfl ?_
          refine wt_getR C.1 dX9_length_26 flRX9_58 (tc0 T2) rfl (gg0_7 G2) ?_
          refine wt_getR C.1 dX9_length_29 flRX9_111 (tc33 T2) rfl (gg33_0 G2) ?_
          refine wt_getR C.1 dX9_length_32 flRX9_218 (tc34 T2) rfl (gg34_0 G2) ?_
          refine ww_iload_n C.1 dX9_length_35 1 rfl rfl ?_
          refine wt_iald C.1 dX9_length_36 (tc35 T2) h.1 ?_
          replace h := h.2
          refine ww_istore_n C.1 dX9_length_37 rfl (by decide) [1, 2, 3, 0] (L' := [(0, .ref 0), (1, .int x1), (2, .int x2), (3, .int (M 35 x1.toNatClampNeg))]) rfl ?_
          refine ww_ldc C.1 kcRX9_152 dX9_length_38 ?_
          refine ww_istore C.1 dX9_length_40 (by decide) [1, 2, 3, 4, 0] (L' := [(0, .ref 0), (1, .int x1), (2, .int x2), (3, .int (M 35 x1.toNatClampNeg)), (4, .int (1000000 : Int32))]) rfl ?_
          refine ww_iload_n C.1 dX9_length_42 3 rfl rfl ?_
          refine ww_istore C.1 dX9_length_43 (by decide) [1, 2, 3, 4, 5, 0] (L' := [(0, .ref 0), (1, .int x1), (2, .int x2), (3, .int (M 35 x1.toNatClampNeg)), (4, .int (1000000 : Int32)), (5, .int (M 35 x1.toNatClampNeg))]) rfl ?_
          refine ww_bipush C.1 (v := (40 : Int32)) dX9_length_45 (by decide) ?_
          refine ww_istore C.1 dX9_length_47 (by decide) [1, 2, 3, 4, 5, 6, 0] (L' := [(0, .ref 0), (1, .int x1), (2, .int x2), (3, .int (M 35 x1.toNatClampNeg)), (4, .int (1000000 : Int32)), (5, .int (M 35 x1.toNatClampNeg)), (6, .int (40 : Int32))]) rfl ?_
          exact h
set_option maxHeartbeats 4000000 in
set_option maxRecDepth 20000 in
theorem bX9_length_49 {X : CX} {Q : State → Prop} {M : Mem} {G2 : Grf} {T2 : List (Nat × Nat)} {x1 x2 x3 x4 x5 x6 : Int32} (C : Ok0 X mX9_length (TTc ++ T2))
    (h : (((99 : Int32) < x6 → (vp_in x1 4 ∧ ((¬ x2 = (0 : Int32) → RetOK X Q (some (.int x4)) ((wr M 35 x1.toNatClampNeg x3), (gj G2), TTc ++ T2)) ∧ (x2 = (0 : Int32) → RetOK X Q (some (.int x5)) ((wr M 35 x1.toNatClampNeg x3), (gj G2), TTc ++ T2))))) ∧ (¬ (99 : Int32) < x6 → (vp_in x1 4 ∧ WpI mX9_sumBelow [.ref 0, .int x4] (wr M 35 x1.toNatClampNeg x6) (gj G2) (TTc ++ T2) (fun r M' => WW X Q 76 [(0, .ref 0), (1, .int x1), (2, .int x2), (3, .int x3), (4, .int x4), (5, .int x5), (6, .int x6)] [.int r] (M', (gj G2), TTc ++ T2)))))) :
    WW X Q 49 [(0, .ref 0), (1, .int x1), (2, .int x2), (3, .int x3), (4, .int x4), (5, .int x5), (6, .int x6)] [] (M, (gj G2), TTc ++ T2) := by
  refine ww_iload C.1 dX9_length_49 6 rfl ?_
  refine ww_bipush C.1 (v := (99 : Int32)) dX9_length_51 (by decide) ?_
  refine ww_icmp_gt (x := x6) (y := (99 : Int32)) C.1 (tgt := 99) dX9_length_53 (by decide) (fun hh => ?_) (fun hh => ?_)
  · replace h := h.1 hh
    refine ww_aload_n C.1 dX9_length_99 0 rfl rfl ?_
    refine wt_getR C.1 dX9_length_100 flRX9_58 (tc0 T2) rfl (gg0_7 G2) ?_
    refine wt_getR C.1 dX9_length_103 flRX9_111 (tc33 T2) rfl (gg33_0 G2) ?_
    refine wt_getR C.1 dX9_length_106 flRX9_218 (tc34 T2) rfl (gg34_0 G2) ?_
    refine ww_iload_n C.1 dX9_length_109 1 rfl rfl ?_
    refine ww_iload_n C.1 dX9_length_110 3 rfl rfl ?_
    refine wt_iast C.1 dX9_length_111 (tc35 T2) h.1 ?_
    replace h := h.2
    refine ww_iload_n C.1 dX9_length_112 2 rfl rfl ?_
    refine ww_if_ne (x := x2) C.1 (tgt := 121) dX9_length_113 (by decide) (fun hh => ?_) (fun hh => ?_)
    · replace h := h.1 hh
      refine ww_iload C.1 dX9_length_121 4 rfl ?_
      refine ww_iret C.1 dX9_length_123 rfl ?_
      exact h
    · replace h := h.2 hh
      refine ww_iload C.1 dX9_length_116 5 rfl ?_
      refine ww_goto C.1 (tgt := 123) dX9_length_118 (by decide) ?_
      refine ww_iret C.1 dX9_length_123 rfl ?_
      exact h
  · replace h := h.2 hh
    refine ww_aload_n C.1 dX9_length_56 0 rfl rfl ?_
    refine wt_getR C.1 dX9_length_57 flRX9_58 (tc0 T2) rfl (gg0_7 G2) ?_
    refine wt_getR C.1 dX9_length_60 flRX9_111 (tc33 T2) rfl (gg33_0 G2) ?_
    refine wt_getR C.1 dX9_length_63 flRX9_218 (tc34 T2) rfl (gg34_0 G2) ?_
    refine ww_iload_n C.1 dX9_length_66 1 rfl rfl ?_
    refine ww_iload C.1 dX9_length_67 6 rfl ?_
    refine wt_iast C.1 dX9_length_69 (tc35 T2) h.1 ?_
    replace h := h.2
    refine ww_aload_n C.1 dX9_length_70 0 rfl rfl ?_
    refine ww_iload C.1 dX9_length_71 4 rfl ?_
    refine ww_vI C fX9_sumBelow (And.intro (by decide) (by decide)) mlRX9_215 dX9_length_73 (tc0 T2) (by decide) rfl (As := [.int x4]) (rest := []) rfl rfl rfl (Nat.le_of_ble_eq_true rfl) ?_
    exact h
set_option maxHeartbeats 4000000 in
set_option maxRecDepth 20000 in
theorem bX9_length_76 {X : CX} {Q : State → Prop} {M : Mem} {G2 : Grf} {T2 : List (Nat × Nat)} {x1 x2 x3 x4 x5 x6 s0 : Int32} (C : Ok0 X mX9_length (TTc ++ T2))
    (h : ((x4 ≤ s0 → WW X Q 49 [(0, .ref 0), (1, .int x1), (2, .int x2), (3, .int x3), (4, .int x4), (5, .int x5), (6, .int (x6 + (1 : Int32)))] [] (M, (gj G2), TTc ++ T2)) ∧ (¬ x4 ≤ s0 → WW X Q 49 [(0, .ref 0), (1, .int x1), (2, .int x2), (3, .int x3), (4, .int s0), (5, .int x6), (6, .int (x6 + (1 : Int32)))] [] (M, (gj G2), TTc ++ T2)))) :
    WW X Q 76 [(0, .ref 0), (1, .int x1), (2, .int x2), (3, .int x3), (4, .int x4), (5, .int x5), (6, .int x6)] [.int s0] (M, (gj G2), TTc ++ T2) := by
  refine ww_istore C.1 dX9_length_76 (by decide) [1, 2, 3, 4, 5, 6, 7, 0] (L' := [(0, .ref 0), (1, .int x1), (2, .int x2), (3, .int x3), (4, .int x4), (5, .int x5), (6, .int x6), (7, .int s0)]) rfl ?_
  refine ww_iload C.1 dX9_length_78 7 rfl ?_
  refine ww_iload C.1 dX9_length_80 4 rfl ?_
  refine ww_icmp_ge (x := s0) (y := x4) C.1 (tgt := 93) dX9_length_82 (by decide) (fun hh => ?_) (fun hh => ?_)
  · replace h := h.1 hh
    refine ww_iinc C.1 (v := (x6 + (1 : Int32))) dX9_length_93 6 rfl (by rfl) (by decide) [1, 2, 3, 4, 5, 6, 0, 7] (L' := [(0, .ref 0), (1, .int x1), (2, .int x2), (3, .int x3), (4, .int x4), (5, .int x5), (6, .int (x6 + (1 : Int32))), (7, .int s0)]) rfl ?_
    refine ww_goto C.1 (tgt := 49) dX9_length_96 (by decide) ?_
    refine ww_loc [0, 1, 2, 3, 4, 5, 6] (L' := [(0, .ref 0), (1, .int x1), (2, .int x2), (3, .int x3), (4, .int x4), (5, .int x5), (6, .int (x6 + (1 : Int32)))]) rfl ?_
    exact h
  · replace h := h.2 hh
    refine ww_iload C.1 dX9_length_85 7 rfl ?_
    refine ww_istore C.1 dX9_length_87 (by decide) [1, 2, 3, 4, 0, 5, 6, 7] (L' := [(0, .ref 0), (1, .int x1), (2, .int x2), (3, .int x3), (4, .int s0), (5, .int x5), (6, .int x6), (7, .int s0)]) rfl ?_
    refine ww_iload C.1 dX9_length_89 6 rfl ?_
    refine ww_istore C.1 dX9_length_91 (by decide) [1, 2, 3, 4, 5, 0, 6, 7] (L' := [(0, .ref 0), (1, .int x1), (2, .int x2), (3, .int x3), (4, .int s0), (5, .int x6), (6, .int x6), (7, .int s0)]) rfl ?_
    refine ww_iinc C.1 (v := (x6 + (1 : Int32))) dX9_length_93 6 rfl (by rfl) (by decide) [1, 2, 3, 4, 5, 6, 0, 7] (L' := [(0, .ref 0), (1, .int x1), (2, .int x2), (3, .int x3), (4, .int s0), (5, .int x6), (6, .int (x6 + (1 : Int32))), (7, .int s0)]) rfl ?_
    refine ww_goto C.1 (tgt := 49) dX9_length_96 (by decide) ?_
    refine ww_loc [0, 1, 2, 3, 4, 5, 6] (L' := [(0, .ref 0), (1, .int x1), (2, .int x2), (3, .int x3), (4, .int s0), (5, .int x6), (6, .int (x6 + (1 : Int32)))]) rfl ?_
    exact h
set_option maxHeartbeats 4000000 in
set_option maxRecDepth 20000 in
theorem bX9_law_0 {X : CX} {Q : State → Prop} {M : Mem} {G2 : Grf} {T2 : List (Nat × Nat)} (C : Ok0 X mX9_law (TTc ++ T2))
    (h : WW X Q 16 [(0, .ref 0), (1, .int (M 33 4)), (2, .int (1000000 : Int32)), (3, .int (M 33 4)), (4, .int (0 : Int32))] [] (M, (gj G2), TTc ++ T2)) :
    WW X Q 0 [(0, .ref 0)] [] (M, (gj G2), TTc ++ T2) := by
  refine ww_aload_n C.1 dX9_law_0 0 rfl rfl ?_
  refine wt_getR C.1 dX9_law_1 flRX9_58 (tc0 T2) rfl (gg0_7 G2) ?_
  refine wt_getI C.1 dX9_law_4 flRX9_221 (tc33 T2) rfl ?_
  refine ww_istore_n C.1 dX9_law_7 rfl (by decide) [1, 0] (L' := [(0, .ref 0), (1, .int (M 33 4))]) rfl ?_
  refine ww_ldc C.1 kcRX9_152 dX9_law_8 ?_
  refine ww_istore_n C.1 dX9_law_10 rfl (by decide) [1, 2, 0] (L' := [(0, .ref 0), (1, .int (M 33 4)), (2, .int (1000000 : Int32))]) rfl ?_
  refine ww_iload_n C.1 dX9_law_11 1 rfl rfl ?_
  refine ww_istore_n C.1 dX9_law_12 rfl (by decide) [1, 2, 3, 0] (L' := [(0, .ref 0), (1, .int (M 33 4)), (2, .int (1000000 : Int32)), (3, .int (M 33 4))]) rfl ?_
  refine ww_iconst C.1 (v := (0 : Int32)) dX9_law_13 (by decide) ?_
  refine ww_istore C.1 dX9_law_14 (by decide) [1, 2, 3, 4, 0] (L' := [(0, .ref 0), (1, .int (M 33 4)), (2, .int (1000000 : Int32)), (3, .int (M 33 4)), (4, .int (0 : Int32))]) rfl ?_
  exact h
set_option maxHeartbeats 4000000 in
set_option maxRecDepth 20000 in
theorem bX9_law_16 {X : CX} {Q : State → Prop} {M : Mem} {G2 : Grf} {T2 : List (Nat × Nat)} {x1 x2 x3 x4 : Int32} (C : Ok0 X mX9_law (TTc ++ T2))
    (h : (((3 : Int32) ≤ x4 → RetOK X Q (some (.int x3)) ((wr M 33 4 x1), (gj G2), TTc ++ T2)) ∧ (¬ (3 : Int32) ≤ x4 → WpI mX9_sumBelow [.ref 0, .int x2] (wr M 33 4 x4) (gj G2) (TTc ++ T2) (fun r M' => WW X Q 36 [(0, .ref 0), (1, .int x1), (2, .int x2), (3, .int x3), (4, .int x4)] [.int r] (M', (gj G2), TTc ++ T2))))) :
    WW X Q 16 [(0, .ref 0), (1, .int x1), (2, .int x2), (3, .int x3), (4, .int x4)] [] (M, (gj G2), TTc ++ T2) := by
  refine ww_iload C.1 dX9_law_16 4 rfl ?_
  refine ww_iconst C.1 (v := (3 : Int32)) dX9_law_18 (by decide) ?_
  refine ww_icmp_ge (x := x4) (y := (3 : Int32)) C.1 (tgt := 56) dX9_law_19 (by decide) (fun hh => ?_) (fun hh => ?_)
  · replace h := h.1 hh
    refine ww_aload_n C.1 dX9_law_56 0 rfl rfl ?_
    refine wt_getR C.1 dX9_law_57 flRX9_58 (tc0 T2) rfl (gg0_7 G2) ?_
    refine ww_iload_n C.1 dX9_law_60 1 rfl rfl ?_
    refine wt_putI C.1 dX9_law_61 flRX9_221 (tc33 T2) rfl ?_
    refine ww_iload_n C.1 dX9_law_64 3 rfl rfl ?_
    refine ww_iret C.1 dX9_law_65 rfl ?_
    exact h
  · replace h := h.2 hh
    refine ww_aload_n C.1 dX9_law_22 0 rfl rfl ?_
    refine wt_getR C.1 dX9_law_23 flRX9_58 (tc0 T2) rfl (gg0_7 G2) ?_
    refine ww_iload C.1 dX9_law_26 4 rfl ?_
    refine wt_putI C.1 dX9_law_28 flRX9_221 (tc33 T2) rfl ?_
    refine ww_aload_n C.1 dX9_law_31 0 rfl rfl ?_
    refine ww_iload_n C.1 dX9_law_32 2 rfl rfl ?_
    refine ww_vI C fX9_sumBelow (And.intro (by decide) (by decide)) mlRX9_215 dX9_law_33 (tc0 T2) (by decide) rfl (As := [.int x2]) (rest := []) rfl rfl rfl (Nat.le_of_ble_eq_true rfl) ?_
    exact h
set_option maxHeartbeats 4000000 in
set_option maxRecDepth 20000 in
theorem bX9_law_36 {X : CX} {Q : State → Prop} {M : Mem} {G2 : Grf} {T2 : List (Nat × Nat)} {x1 x2 x3 x4 s0 : Int32} (C : Ok0 X mX9_law (TTc ++ T2))
    (h : ((x2 ≤ s0 → WW X Q 16 [(0, .ref 0), (1, .int x1), (2, .int x2), (3, .int x3), (4, .int (x4 + (1 : Int32)))] [] (M, (gj G2), TTc ++ T2)) ∧ (¬ x2 ≤ s0 → WW X Q 16 [(0, .ref 0), (1, .int x1), (2, .int s0), (3, .int x4), (4, .int (x4 + (1 : Int32)))] [] (M, (gj G2), TTc ++ T2)))) :
    WW X Q 36 [(0, .ref 0), (1, .int x1), (2, .int x2), (3, .int x3), (4, .int x4)] [.int s0] (M, (gj G2), TTc ++ T2) := by
  refine ww_istore C.1 dX9_law_36 (by decide) [1, 2, 3, 4, 5, 0] (L' := [(0, .ref 0), (1, .int x1), (2, .int x2), (3, .int x3), (4, .int x4), (5, .int s0)]) rfl ?_
  refine ww_iload C.1 dX9_law_38 5 rfl ?_
  refine ww_iload_n C.1 dX9_law_40 2 rfl rfl ?_
  refine ww_icmp_ge (x := s0) (y := x2) C.1 (tgt := 50) dX9_law_41 (by decide) (fun hh => ?_) (fun hh => ?_)
  · replace h := h.1 hh
    refine ww_iinc C.1 (v := (x4 + (1 : Int32))) dX9_law_50 4 rfl (by rfl) (by decide) [1, 2, 3, 4, 0, 5] (L' := [(0, .ref 0), (1, .int x1), (2, .int x2), (3, .int x3), (4, .int (x4 + (1 : Int32))), (5, .int s0)]) rfl ?_
    refine ww_goto C.1 (tgt := 16) dX9_law_53 (by decide) ?_
    refine ww_loc [0, 1, 2, 3, 4] (L' := [(0, .ref 0), (1, .int x1), (2, .int x2), (3, .int x3), (4, .int (x4 + (1 : Int32)))]) rfl ?_
    exact h
  · replace h := h.2 hh
    refine ww_iload C.1 dX9_law_44 5 rfl ?_
    refine ww_istore_n C.1 dX9_law_46 rfl (by decide) [1, 2, 0, 3, 4, 5] (L' := [(0, .ref 0), (1, .int x1), (2, .int s0), (3, .int x3), (4, .int x4), (5, .int s0)]) rfl ?_
    refine ww_iload C.1 dX9_law_47 4 rfl ?_
    refine ww_istore_n C.1 dX9_law_49 rfl (by decide) [1, 2, 3, 0, 4, 5] (L' := [(0, .ref 0), (1, .int x1), (2, .int s0), (3, .int x4), (4, .int x4), (5, .int s0)]) rfl ?_
    refine ww_iinc C.1 (v := (x4 + (1 : Int32))) dX9_law_50 4 rfl (by rfl) (by decide) [1, 2, 3, 4, 0, 5] (L' := [(0, .ref 0), (1, .int x1), (2, .int s0), (3, .int x4), (4, .int (x4 + (1 : Int32))), (5, .int s0)]) rfl ?_
    refine ww_goto C.1 (tgt := 16) dX9_law_53 (by decide) ?_
    refine ww_loc [0, 1, 2, 3, 4] (L' := [(0, .ref 0), (1, .int x1), (2, .int s0), (3, .int x4), (4, .int (x4 + (1 : Int32)))]) rfl ?_
    exact h
set_option maxHeartbeats 4000000 in
set_option maxRecDepth 20000 in
theorem bX9_pairs_0 {X : CX} {Q : State → Prop} {M : Mem} {G2 : Grf} {T2 : List (Nat × Nat)} {x1 : Int32} (C : Ok0 X mX9_pairs (TTc ++ T2))
    (h : ((x1 < (0 : Int32) → RetOK X Q (some (.int (-1 : Int32))) (M, (gj G2), TTc ++ T2)) ∧ (¬ x1 < (0 : Int32) → (((1 : Int32) < x1 → RetOK X Q (some (.int (-1 : Int32))) (M, (gj G2), TTc ++ T2)) ∧ (¬ (1 : Int32) < x1 → WpI mX9_noteHarmsNow [.ref 0] M (gj G2) (TTc ++ T2) (fun r M' => WW X Q 15 [(0, .ref 0), (1, .int x1)] [.int r] (M', (gj G2), TTc ++ T2))))))) :
    WW X Q 0 [(0, .ref 0), (1, .int x1)] [] (M, (gj G2), TTc ++ T2) := by
  refine ww_iload_n C.1 dX9_pairs_0 1 rfl rfl ?_
  refine ww_iconst C.1 (v := (0 : Int32)) dX9_pairs_1 (by decide) ?_
  refine ww_iconst C.1 (v := (1 : Int32)) dX9_pairs_2 (by decide) ?_
  refine ww_sI C fX9_isWithin (And.intro (by decide) (by decide)) mlRX9_89 dX9_pairs_3 (As := [.int x1, .int (0 : Int32), .int (1 : Int32)]) (rest := []) rfl rfl rfl (Nat.le_of_ble_eq_true rfl) (WpI.of (L0 := [(0, .int x1), (1, .int (0 : Int32)), (2, .int (1 : Int32))]) rfl rfl (Nat.le_of_ble_eq_true rfl) fun X1 Q1 C1 k1 => ?_)
  refine ww_iload_n C1.1 dX9_isWithin_0 0 rfl rfl ?_
  refine ww_iload_n C1.1 dX9_isWithin_1 1 rfl rfl ?_
  refine ww_icmp_lt (x := x1) (y := (0 : Int32)) C1.1 (tgt := 14) dX9_isWithin_2 (by decide) (fun hh => ?_) (fun hh => ?_)
  · replace h := h.1 hh
    refine ww_iconst C1.1 (v := (0 : Int32)) dX9_isWithin_14 (by decide) ?_
    refine ww_zret C1.1 dX9_isWithin_15 rfl (Or.inl rfl) ?_
    refine k1 _ _ ?_
    refine ww_if_ne (x := (0 : Int32)) C.1 (tgt := 11) dX9_pairs_6 (by decide) (fun hh => absurd hh (by decide)) (fun _ => ?_)
    refine ww_iconst C.1 (v := (-1 : Int32)) dX9_pairs_9 (by decide) ?_
    refine ww_iret C.1 dX9_pairs_10 rfl ?_
    exact h
  · replace h := h.2 hh
    refine ww_iload_n C1.1 dX9_isWithin_5 0 rfl rfl ?_
    refine ww_iload_n C1.1 dX9_isWithin_6 2 rfl rfl ?_
    refine ww_icmp_gt (x := x1) (y := (1 : Int32)) C1.1 (tgt := 14) dX9_isWithin_7 (by decide) (fun hh => ?_) (fun hh => ?_)
    · replace h := h.1 hh
      refine ww_iconst C1.1 (v := (0 : Int32)) dX9_isWithin_14 (by decide) ?_
      refine ww_zret C1.1 dX9_isWithin_15 rfl (Or.inl rfl) ?_
      refine k1 _ _ ?_
      refine ww_if_ne (x := (0 : Int32)) C.1 (tgt := 11) dX9_pairs_6 (by decide) (fun hh => absurd hh (by decide)) (fun _ => ?_)
      refine ww_iconst C.1 (v := (-1 : Int32)) dX9_pairs_9 (by decide) ?_
      refine ww_iret C.1 dX9_pairs_10 rfl ?_
      exact h
    · replace h := h.2 hh
      refine ww_iconst C1.1 (v := (1 : Int32)) dX9_isWithin_10 (by decide) ?_
      refine ww_goto C1.1 (tgt := 15) dX9_isWithin_11 (by decide) ?_
      refine ww_zret C1.1 dX9_isWithin_15 rfl (Or.inr rfl) ?_
      refine k1 _ _ ?_
      refine ww_if_ne (x := (1 : Int32)) C.1 (tgt := 11) dX9_pairs_6 (by decide) (fun _ => ?_) (fun hh => absurd hh (by decide))
      refine ww_aload_n C.1 dX9_pairs_11 0 rfl rfl ?_
      refine ww_vI C fX9_noteHarmsNow (And.intro (by decide) (by decide)) mlRX9_224 dX9_pairs_12 (tc0 T2) (by decide) rfl (As := []) (rest := []) rfl rfl rfl (Nat.le_of_ble_eq_true rfl) ?_
      exact h
set_option maxHeartbeats 4000000 in
set_option maxRecDepth 20000 in
theorem bX9_pairs_25 {X : CX} {Q : State → Prop} {M : Mem} {G2 : Grf} {T2 : List (Nat × Nat)} {x1 x2 x3 x4 x5 : Int32} (C : Ok0 X mX9_pairs (TTc ++ T2))
    (h : (((M 37 6) ≤ x5 → ((¬ x1 = (0 : Int32) → RetOK X Q (some (.int x4)) (M, (gj G2), TTc ++ T2)) ∧ (x1 = (0 : Int32) → RetOK X Q (some (.int x3)) (M, (gj G2), TTc ++ T2)))) ∧ (¬ (M 37 6) ≤ x5 → WW X Q 46 [(0, .ref 0), (1, .int x1), (2, .int x2), (3, .int x3), (4, .int x4), (5, .int x5), (6, .int (x5 + (1 : Int32)))] [] (M, (gj G2), TTc ++ T2)))) :
    WW X Q 25 [(0, .ref 0), (1, .int x1), (2, .int x2), (3, .int x3), (4, .int x4), (5, .int x5)] [] (M, (gj G2), TTc ++ T2) := by
  refine ww_iload C.1 dX9_pairs_25 5 rfl ?_
  refine ww_aload_n C.1 dX9_pairs_27 0 rfl rfl ?_
  refine wt_getR C.1 dX9_pairs_28 flRX9_58 (tc0 T2) rfl (gg0_7 G2) ?_
  refine wt_getR C.1 dX9_pairs_31 flRX9_104 (tc33 T2) rfl (gg33_1 G2) ?_
  refine wt_getI C.1 dX9_pairs_34 flRX9_108 (tc37 T2) rfl ?_
  refine ww_icmp_ge (x := x5) (y := (M 37 6)) C.1 (tgt := 127) dX9_pairs_37 (by decide) (fun hh => ?_) (fun hh => ?_)
  · replace h := h.1 hh
    refine ww_iload_n C.1 dX9_pairs_127 1 rfl rfl ?_
    refine ww_if_ne (x := x1) C.1 (tgt := 135) dX9_pairs_128 (by decide) (fun hh => ?_) (fun hh => ?_)
    · replace h := h.1 hh
      refine ww_iload C.1 dX9_pairs_135 4 rfl ?_
      refine ww_iret C.1 dX9_pairs_137 rfl ?_
      exact h
    · replace h := h.2 hh
      refine ww_iload_n C.1 dX9_pairs_131 3 rfl rfl ?_
      refine ww_goto C.1 (tgt := 137) dX9_pairs_132 (by decide) ?_
      refine ww_iret C.1 dX9_pairs_137 rfl ?_
      exact h
  · replace h := h.2 hh
    refine ww_iload C.1 dX9_pairs_40 5 rfl ?_
    refine ww_iconst C.1 (v := (1 : Int32)) dX9_pairs_42 (by decide) ?_
    refine ww_iadd C.1 dX9_pairs_43 ?_
    refine ww_istore C.1 dX9_pairs_44 (by decide) [1, 2, 3, 4, 5, 6, 0] (L' := [(0, .ref 0), (1, .int x1), (2, .int x2), (3, .int x3), (4, .int x4), (5, .int x5), (6, .int (x5 + (1 : Int32)))]) rfl ?_
    exact h
set_option maxHeartbeats 4000000 in
set_option maxRecDepth 20000 in
theorem bX9_pairs_46 {X : CX} {Q : State → Prop} {M : Mem} {G2 : Grf} {T2 : List (Nat × Nat)} {x1 x2 x3 x4 x5 x6 : Int32} (C : Ok0 X mX9_pairs (TTc ++ T2))
    (h : (((M 37 6) ≤ x6 → WW X Q 25 [(0, .ref 0), (1, .int x1), (2, .int x2), (3, .int x3), (4, .int x4), (5, .int (x5 + (1 : Int32)))] [] (M, (gj G2), TTc ++ T2)) ∧ (¬ (M 37 6) ≤ x6 → ((¬ ((x2 >>> (x5 &&& 31)) &&& (1 : Int32)) = (1 : Int32) → WW X Q 46 [(0, .ref 0), (1, .int x1), (2, .int x2), (3, .int x3), (4, .int x4), (5, .int x5), (6, .int (x6 + (1 : Int32)))] [] (M, (gj G2), TTc ++ T2)) ∧ (((x2 >>> (x5 &&& 31)) &&& (1 : Int32)) = (1 : Int32) → ((¬ ((x2 >>> (x6 &&& 31)) &&& (1 : Int32)) = (1 : Int32) → WW X Q 46 [(0, .ref 0), (1, .int x1), (2, .int x2), (3, .int x3), (4, .int x4), (5, .int x5), (6, .int (x6 + (1 : Int32)))] [] (M, (gj G2), TTc ++ T2)) ∧ (((x2 >>> (x6 &&& 31)) &&& (1 : Int32)) = (1 : Int32) → WpI mX9_wouldSwap [.ref 0, .int x5, .int x6] M (gj G2) (TTc ++ T2) (fun r M' => WW X Q 87 [(0, .ref 0), (1, .int x1), (2, .int x2), (3, .int x3), (4, .int x4), (5, .int x5), (6, .int x6)] [.int r] (M', (gj G2), TTc ++ T2))))))))) :
    WW X Q 46 [(0, .ref 0), (1, .int x1), (2, .int x2), (3, .int x3), (4, .int x4), (5, .int x5), (6, .int x6)] [] (M, (gj G2), TTc ++ T2) := by
  refine ww_iload C.1 dX9_pairs_46 6 rfl ?_
  refine ww_aload_n C.1 dX9_pairs_48 0 rfl rfl ?_
  refine wt_getR C.1 dX9_pairs_49 flRX9_58 (tc0 T2) rfl (gg0_7 G2) ?_
  refine wt_getR C.1 dX9_pairs_52 flRX9_104 (tc33 T2) rfl (gg33_1 G2) ?_
  refine wt_getI C.1 dX9_pairs_55 flRX9_108 (tc37 T2) rfl ?_
  refine ww_icmp_ge (x := x6) (y := (M 37 6)) C.1 (tgt := 121) dX9_pairs_58 (by decide) (fun hh => ?_) (fun hh => ?_)
  · replace h := h.1 hh
    refine ww_iinc C.1 (v := (x5 + (1 : Int32))) dX9_pairs_121 5 rfl (by rfl) (by decide) [1, 2, 3, 4, 5, 0, 6] (L' := [(0, .ref 0), (1, .int x1), (2, .int x2), (3, .int x3), (4, .int x4), (5, .int (x5 + (1 : Int32))), (6, .int x6)]) rfl ?_
    refine ww_goto C.1 (tgt := 25) dX9_pairs_124 (by decide) ?_
    refine ww_loc [0, 1, 2, 3, 4, 5] (L' := [(0, .ref 0), (1, .int x1), (2, .int x2), (3, .int x3), (4, .int x4), (5, .int (x5 + (1 : Int32)))]) rfl ?_
    exact h
  · replace h := h.2 hh
    refine ww_iload_n C.1 dX9_pairs_61 2 rfl rfl ?_
    refine ww_iload C.1 dX9_pairs_62 5 rfl ?_
    refine ww_sI C fX9_isIn (And.intro (by decide) (by decide)) mlRX9_227 dX9_pairs_64 (As := [.int x2, .int x5]) (rest := []) rfl rfl rfl (Nat.le_of_ble_eq_true rfl) (WpI.of (L0 := [(0, .int x2), (1, .int x5)]) rfl rfl (Nat.le_of_ble_eq_true rfl) fun X1 Q1 C1 k1 => ?_)
    refine ww_iload_n C1.1 dX9_isIn_0 0 rfl rfl ?_
    refine ww_iload_n C1.1 dX9_isIn_1 1 rfl rfl ?_
    refine ww_ishr C1.1 dX9_isIn_2 ?_
    refine ww_iconst C1.1 (v := (1 : Int32)) dX9_isIn_3 (by decide) ?_
    refine ww_iand C1.1 dX9_isIn_4 ?_
    refine ww_iconst C1.1 (v := (1 : Int32)) dX9_isIn_5 (by decide) ?_
    refine ww_icmp_ne (x := ((x2 >>> (x5 &&& 31)) &&& (1 : Int32))) (y := (1 : Int32)) C1.1 (tgt := 13) dX9_isIn_6 (by decide) (fun hh => ?_) (fun hh => ?_)
    · replace h := h.1 hh
      refine ww_iconst C1.1 (v := (0 : Int32)) dX9_isIn_13 (by decide) ?_
      refine ww_zret C1.1 dX9_isIn_14 rfl (Or.inl rfl) ?_
      refine k1 _ _ ?_
      refine ww_if_eq (x := (0 : Int32)) C.1 (tgt := 115) dX9_pairs_67 (by decide) (fun _ => ?_) (fun hh => absurd hh (by decide))
      refine ww_iinc C.1 (v := (x6 + (1 : Int32))) dX9_pairs_115 6 rfl (by rfl) (by decide) [1, 2, 3, 4, 5, 6, 0] (L' := [(0, .ref 0), (1, .int x1), (2, .int x2), (3, .int x3), (4, .int x4), (5, .int x5), (6, .int (x6 + (1 : Int32)))]) rfl ?_
      refine ww_goto C.1 (tgt := 46) dX9_pairs_118 (by decide) ?_
      exact h
    · replace h := h.2 hh
      refine ww_iconst C1.1 (v := (1 : Int32)) dX9_isIn_9 (by decide) ?_
      refine ww_goto C1.1 (tgt := 14) dX9_isIn_10 (by decide) ?_
      refine ww_zret C1.1 dX9_isIn_14 rfl (Or.inr rfl) ?_
      refine k1 _ _ ?_
      refine ww_if_eq (x := (1 : Int32)) C.1 (tgt := 115) dX9_pairs_67 (by decide) (fun hh => absurd hh (by decide)) (fun _ => ?_)
      refine ww_iload_n C.1 dX9_pairs_70 2 rfl rfl ?_
      refine ww_iload C.1 dX9_pairs_71 6 rfl ?_
      refine ww_sI C fX9_isIn (And.intro (by decide) (by decide)) mlRX9_227 dX9_pairs_73 (As := [.int x2, .int x6]) (rest := []) rfl rfl rfl (Nat.le_of_ble_eq_true rfl) (WpI.of (L0 := [(0, .int x2), (1, .int x6)]) rfl rfl (Nat.le_of_ble_eq_true rfl) fun X2 Q2 C2 k2 => ?_)
      refine ww_iload_n C2.1 dX9_isIn_0 0 rfl rfl ?_
      refine ww_iload_n C2.1 dX9_isIn_1 1 rfl rfl ?_
      refine ww_ishr C2.1 dX9_isIn_2 ?_
      refine ww_iconst C2.1 (v := (1 : Int32)) dX9_isIn_3 (by decide) ?_
      refine ww_iand C2.1 dX9_isIn_4 ?_
      refine ww_iconst C2.1 (v := (1 : Int32)) dX9_isIn_5 (by decide) ?_
      refine ww_icmp_ne (x := ((x2 >>> (x6 &&& 31)) &&& (1 : Int32))) (y := (1 : Int32)) C2.1 (tgt := 13) dX9_isIn_6 (by decide) (fun hh => ?_) (fun hh => ?_)
      · replace h := h.1 hh
        refine ww_iconst C2.1 (v := (0 : Int32)) dX9_isIn_13 (by decide) ?_
        refine ww_zret C2.1 dX9_isIn_14 rfl (Or.inl rfl) ?_
        refine k2 _ _ ?_
        refine ww_if_eq (x := (0 : Int32)) C.1 (tgt := 115) dX9_pairs_76 (by decide) (fun _ => ?_) (fun hh => absurd hh (by decide))
        refine ww_iinc C.1 (v := (x6 + (1 : Int32))) dX9_pairs_115 6 rfl (by rfl) (by decide) [1, 2, 3, 4, 5, 6, 0] (L' := [(0, .ref 0), (1, .int x1), (2, .int x2), (3, .int x3), (4, .int x4), (5, .int x5), (6, .int (x6 + (1 : Int32)))]) rfl ?_
        refine ww_goto C.1 (tgt := 46) dX9_pairs_118 (by decide) ?_
        exact h
      · replace h := h.2 hh
        refine ww_iconst C2.1 (v := (1 : Int32)) dX9_isIn_9 (by decide) ?_
        refine ww_goto C2.1 (tgt := 14) dX9_isIn_10 (by decide) ?_
        refine ww_zret C2.1 dX9_isIn_14 rfl (Or.inr rfl) ?_
        refine k2 _ _ ?_
        refine ww_if_eq (x := (1 : Int32)) C.1 (tgt := 115) dX9_pairs_76 (by decide) (fun hh => absurd hh (by decide)) (fun _ => ?_)
        refine ww_aload_n C.1 dX9_pairs_79 0 rfl rfl ?_
        refine ww_iload C.1 dX9_pairs_80 5 rfl ?_
        refine ww_iload C.1 dX9_pairs_82 6 rfl ?_
        refine ww_vI C fX9_wouldSwap (And.intro (by decide) (by decide)) mlRX9_231 dX9_pairs_84 (tc0 T2) (by decide) rfl (As := [.int x5, .int x6]) (rest := []) rfl rfl rfl (Nat.le_of_ble_eq_true rfl) ?_
        exact h
set_option maxHeartbeats 4000000 in
set_option maxRecDepth 20000 in
theorem bX9_pairs_15 {X : CX} {Q : State → Prop} {M : Mem} {G2 : Grf} {T2 : List (Nat × Nat)} {x1 s0 : Int32} (C : Ok0 X mX9_pairs (TTc ++ T2))
    (h : WW X Q 25 [(0, .ref 0), (1, .int x1), (2, .int s0), (3, .int (0 : Int32)), (4, .int (-4 : Int32)), (5, .int (0 : Int32))] [] (M, (gj G2), TTc ++ T2)) :
    WW X Q 15 [(0, .ref 0), (1, .int x1)] [.int s0] (M, (gj G2), TTc ++ T2) := by
  refine ww_istore_n C.1 dX9_pairs_15 rfl (by decide) [1, 2, 0] (L' := [(0, .ref 0), (1, .int x1), (2, .int s0)]) rfl ?_
  refine ww_iconst C.1 (v := (0 : Int32)) dX9_pairs_16 (by decide) ?_
  refine ww_istore_n C.1 dX9_pairs_17 rfl (by decide) [1, 2, 3, 0] (L' := [(0, .ref 0), (1, .int x1), (2, .int s0), (3, .int (0 : Int32))]) rfl ?_
  refine ww_bipush C.1 (v := (-4 : Int32)) dX9_pairs_18 (by decide) ?_
  refine ww_istore C.1 dX9_pairs_20 (by decide) [1, 2, 3, 4, 0] (L' := [(0, .ref 0), (1, .int x1), (2, .int s0), (3, .int (0 : Int32)), (4, .int (-4 : Int32))]) rfl ?_
  refine ww_iconst C.1 (v := (0 : Int32)) dX9_pairs_22 (by decide) ?_
  refine ww_istore C.1 dX9_pairs_23 (by decide) [1, 2, 3, 4, 5, 0] (L' := [(0, .ref 0), (1, .int x1), (2, .int s0), (3, .int (0 : Int32)), (4, .int (-4 : Int32)), (5, .int (0 : Int32))]) rfl ?_
  exact h
set_option maxHeartbeats 4000000 in
set_option maxRecDepth 20000 in
theorem bX9_pairs_87 {X : CX} {Q : State → Prop} {M : Mem} {G2 : Grf} {T2 : List (Nat × Nat)} {x1 x2 x3 x4 x5 x6 s0 : Int32} (C : Ok0 X mX9_pairs (TTc ++ T2))
    (h : ((s0 = (0 : Int32) → WW X Q 46 [(0, .ref 0), (1, .int x1), (2, .int x2), (3, .int x3), (4, .int x4), (5, .int x5), (6, .int (x6 + (1 : Int32)))] [] (M, (gj G2), TTc ++ T2)) ∧ (¬ s0 = (0 : Int32) → ((¬ x4 = (-4 : Int32) → WW X Q 46 [(0, .ref 0), (1, .int x1), (2, .int x2), (3, .int (x3 + (1 : Int32))), (4, .int x4), (5, .int x5), (6, .int (x6 + (1 : Int32)))] [] (M, (gj G2), TTc ++ T2)) ∧ (x4 = (-4 : Int32) → WW X Q 46 [(0, .ref 0), (1, .int x1), (2, .int x2), (3, .int (x3 + (1 : Int32))), (4, .int (((10 : Int32) * x5) + x6)), (5, .int x5), (6, .int (x6 + (1 : Int32)))] [] (M, (gj G2), TTc ++ T2)))))) :
    WW X Q 87 [(0, .ref 0), (1, .int x1), (2, .int x2), (3, .int x3), (4, .int x4), (5, .int x5), (6, .int x6)] [.int s0] (M, (gj G2), TTc ++ T2) := by
  refine ww_if_eq (x := s0) C.1 (tgt := 115) dX9_pairs_87 (by decide) (fun hh => ?_) (fun hh => ?_)
  · replace h := h.1 hh
    refine ww_iinc C.1 (v := (x6 + (1 : Int32))) dX9_pairs_115 6 rfl (by rfl) (by decide) [1, 2, 3, 4, 5, 6, 0] (L' := [(0, .ref 0), (1, .int x1), (2, .int x2), (3, .int x3), (4, .int x4), (5, .int x5), (6, .int (x6 + (1 : Int32)))]) rfl ?_
    refine ww_goto C.1 (tgt := 46) dX9_pairs_118 (by decide) ?_
    exact h
  · replace h := h.2 hh
    refine ww_iinc C.1 (v := (x3 + (1 : Int32))) dX9_pairs_90 3 rfl (by rfl) (by decide) [1, 2, 3, 0, 4, 5, 6] (L' := [(0, .ref 0), (1, .int x1), (2, .int x2), (3, .int (x3 + (1 : Int32))), (4, .int x4), (5, .int x5), (6, .int x6)]) rfl ?_
    refine ww_iload C.1 dX9_pairs_93 4 rfl ?_
    refine ww_bipush C.1 (v := (-4 : Int32)) dX9_pairs_95 (by decide) ?_
    refine ww_icmp_ne (x := x4) (y := (-4 : Int32)) C.1 (tgt := 111) dX9_pairs_97 (by decide) (fun hh => ?_) (fun hh => ?_)
    · replace h := h.1 hh
      refine ww_iload C.1 dX9_pairs_111 4 rfl ?_
      refine ww_istore C.1 dX9_pairs_113 (by decide) [1, 2, 3, 4, 0, 5, 6] (L' := [(0, .ref 0), (1, .int x1), (2, .int x2), (3, .int (x3 + (1 : Int32))), (4, .int x4), (5, .int x5), (6, .int x6)]) rfl ?_
      refine ww_iinc C.1 (v := (x6 + (1 : Int32))) dX9_pairs_115 6 rfl (by rfl) (by decide) [1, 2, 3, 4, 5, 6, 0] (L' := [(0, .ref 0), (1, .int x1), (2, .int x2), (3, .int (x3 + (1 : Int32))), (4, .int x4), (5, .int x5), (6, .int (x6 + (1 : Int32)))]) rfl ?_
      refine ww_goto C.1 (tgt := 46) dX9_pairs_118 (by decide) ?_
      exact h
    · replace h := h.2 hh
      refine ww_bipush C.1 (v := (10 : Int32)) dX9_pairs_100 (by decide) ?_
      refine ww_iload C.1 dX9_pairs_102 5 rfl ?_
      refine ww_imul C.1 dX9_pairs_104 ?_
      refine ww_iload C.1 dX9_pairs_105 6 rfl ?_
      refine ww_iadd C.1 dX9_pairs_107 ?_
      refine ww_goto C.1 (tgt := 113) dX9_pairs_108 (by decide) ?_
      refine ww_istore C.1 dX9_pairs_113 (by decide) [1, 2, 3, 4, 0, 5, 6] (L' := [(0, .ref 0), (1, .int x1), (2, .int x2), (3, .int (x3 + (1 : Int32))), (4, .int (((10 : Int32) * x5) + x6)), (5, .int x5), (6, .int x6)]) rfl ?_
      refine ww_iinc C.1 (v := (x6 + (1 : Int32))) dX9_pairs_115 6 rfl (by rfl) (by decide) [1, 2, 3, 4, 5, 6, 0] (L' := [(0, .ref 0), (1, .int x1), (2, .int x2), (3, .int (x3 + (1 : Int32))), (4, .int (((10 : Int32) * x5) + x6)), (5, .int x5), (6, .int (x6 + (1 : Int32)))]) rfl ?_
      refine ww_goto C.1 (tgt := 46) dX9_pairs_118 (by decide) ?_
      exact h
set_option maxHeartbeats 4000000 in
set_option maxRecDepth 20000 in
theorem bX9_later_0 {X : CX} {Q : State → Prop} {M : Mem} {G2 : Grf} {T2 : List (Nat × Nat)} {x1 x2 : Int32} (C : Ok0 X mX9_later (TTc ++ T2))
    (h : ((x1 < (0 : Int32) → RetOK X Q (some (.int (-1 : Int32))) (M, (gj G2), TTc ++ T2)) ∧ (¬ x1 < (0 : Int32) → (((M 37 6) ≤ x1 → RetOK X Q (some (.int (-1 : Int32))) (M, (gj G2), TTc ++ T2)) ∧ (¬ (M 37 6) ≤ x1 → ((x2 < (0 : Int32) → RetOK X Q (some (.int (-1 : Int32))) (M, (gj G2), TTc ++ T2)) ∧ (¬ x2 < (0 : Int32) → (((1 : Int32) < x2 → RetOK X Q (some (.int (-1 : Int32))) (M, (gj G2), TTc ++ T2)) ∧ (¬ (1 : Int32) < x2 → (vp_in x1 7 ∧ WW X Q 49 [(0, .ref 0), (1, .int x1), (2, .int x2), (3, .int (M 39 x1.toNatClampNeg)), (4, .int (1000000 : Int32)), (5, .int (-4 : Int32)), (6, .int (0 : Int32))] [] (M, (gj G2), TTc ++ T2))))))))))) :
    WW X Q 0 [(0, .ref 0), (1, .int x1), (2, .int x2)] [] (M, (gj G2), TTc ++ T2) := by
  refine ww_aload_n C.1 dX9_later_0 0 rfl rfl ?_
  refine wt_getR C.1 dX9_later_1 flRX9_58 (tc0 T2) rfl (gg0_7 G2) ?_
  refine wt_getR C.1 dX9_later_4 flRX9_104 (tc33 T2) rfl (gg33_1 G2) ?_
  refine ww_iload_n C.1 dX9_later_7 1 rfl rfl ?_
  refine ww_vI C fX5_has (And.intro (by decide) (by decide)) mlRX9_128 dX9_later_8 (tc37 T2) (by decide) rfl (As := [.int x1]) (rest := []) rfl rfl rfl (Nat.le_of_ble_eq_true rfl) (WpI.of (L0 := [(0, .ref 37), (1, .int x1)]) rfl rfl (Nat.le_of_ble_eq_true rfl) fun X1 Q1 C1 k1 => ?_)
  refine ww_iload_n C1.1 dX5_has_0 1 rfl rfl ?_
  refine ww_if_lt (x := x1) C1.1 (tgt := 16) dX5_has_1 (by decide) (fun hh => ?_) (fun hh => ?_)
  · replace h := h.1 hh
    refine ww_iconst C1.1 (v := (0 : Int32)) dX5_has_16 (by decide) ?_
    refine ww_zret C1.1 dX5_has_17 rfl (Or.inl rfl) ?_
    refine k1 _ _ ?_
    refine ww_if_eq (x := (0 : Int32)) C.1 (tgt := 23) dX9_later_11 (by decide) (fun _ => ?_) (fun hh => absurd hh (by decide))
    refine ww_iconst C.1 (v := (-1 : Int32)) dX9_later_23 (by decide) ?_
    refine ww_iret C.1 dX9_later_24 rfl ?_
    exact h
  · replace h := h.2 hh
    refine ww_iload_n C1.1 dX5_has_4 1 rfl rfl ?_
    refine ww_aload_n C1.1 dX5_has_5 0 rfl rfl ?_
    refine wt_getI C1.1 dX5_has_6 flRX5_30 (tc37 T2) rfl ?_
    refine ww_icmp_ge (x := x1) (y := (M 37 6)) C1.1 (tgt := 16) dX5_has_9 (by decide) (fun hh => ?_) (fun hh => ?_)
    · replace h := h.1 hh
      refine ww_iconst C1.1 (v := (0 : Int32)) dX5_has_16 (by decide) ?_
      refine ww_zret C1.1 dX5_has_17 rfl (Or.inl rfl) ?_
      refine k1 _ _ ?_
      refine ww_if_eq (x := (0 : Int32)) C.1 (tgt := 23) dX9_later_11 (by decide) (fun _ => ?_) (fun hh => absurd hh (by decide))
      refine ww_iconst C.1 (v := (-1 : Int32)) dX9_later_23 (by decide) ?_
      refine ww_iret C.1 dX9_later_24 rfl ?_
      exact h
    · replace h := h.2 hh
      refine ww_iconst C1.1 (v := (1 : Int32)) dX5_has_12 (by decide) ?_
      refine ww_goto C1.1 (tgt := 17) dX5_has_13 (by decide) ?_
      refine ww_zret C1.1 dX5_has_17 rfl (Or.inr rfl) ?_
      refine k1 _ _ ?_
      refine ww_if_eq (x := (1 : Int32)) C.1 (tgt := 23) dX9_later_11 (by decide) (fun hh => absurd hh (by decide)) (fun _ => ?_)
      refine ww_iload_n C.1 dX9_later_14 2 rfl rfl ?_
      refine ww_iconst C.1 (v := (0 : Int32)) dX9_later_15 (by decide) ?_
      refine ww_iconst C.1 (v := (1 : Int32)) dX9_later_16 (by decide) ?_
      refine ww_sI C fX9_isWithin (And.intro (by decide) (by decide)) mlRX9_89 dX9_later_17 (As := [.int x2, .int (0 : Int32), .int (1 : Int32)]) (rest := []) rfl rfl rfl (Nat.le_of_ble_eq_true rfl) (WpI.of (L0 := [(0, .int x2), (1, .int (0 : Int32)), (2, .int (1 : Int32))]) rfl rfl (Nat.le_of_ble_eq_true rfl) fun X2 Q2 C2 k2 => ?_)
      refine ww_iload_n C2.1 dX9_isWithin_0 0 rfl rfl ?_
      refine ww_iload_n C2.1 dX9_isWithin_1 1 rfl rfl ?_
      refine ww_icmp_lt (x := x2) (y := (0 : Int32)) C2.1 (tgt := 14) dX9_isWithin_2 (by decide) (fun hh => ?_) (fun hh => ?_)
      · replace h := h.1 hh
        refine ww_iconst C2.1 (v := (0 : Int32)) dX9_isWithin_14 (by decide) ?_
        refine ww_zret C2.1 dX9_isWithin_15 rfl (Or.inl rfl) ?_
        refine k2 _ _ ?_
        refine ww_if_ne (x := (0 : Int32)) C.1 (tgt := 25) dX9_later_20 (by decide) (fun hh => absurd hh (by decide)) (fun _ => ?_)
        refine ww_iconst C.1 (v := (-1 : Int32)) dX9_later_23 (by decide) ?_
        refine ww_iret C.1 dX9_later_24 rfl ?_
        exact h
      · replace h := h.2 hh
        refine ww_iload_n C2.1 dX9_isWithin_5 0 rfl rfl ?_
        refine ww_iload_n C2.1 dX9_isWithin_6 2 rfl rfl ?_
        refine ww_icmp_gt (x := x2) (y := (1 : Int32)) C2.1 (tgt := 14) dX9_isWithin_7 (by decide) (fun hh => ?_) (fun hh => ?_)
        · replace h := h.1 hh
          refine ww_iconst C2.1 (v := (0 : Int32)) dX9_isWithin_14 (by decide) ?_
          refine ww_zret C2.1 dX9_isWithin_15 rfl (Or.inl rfl) ?_
          refine k2 _ _ ?_
          refine ww_if_ne (x := (0 : Int32)) C.1 (tgt := 25) dX9_later_20 (by decide) (fun hh => absurd hh (by decide)) (fun _ => ?_)
          refine ww_iconst C.1 (v := (-1 : Int32)) dX9_later_23 (by decide) ?_
          refine ww_iret C.1 dX9_later_24 rfl ?_
          exact h
        · replace h := h.2 hh
          refine ww_iconst C2.1 (v := (1 : Int32)) dX9_isWithin_10 (by decide) ?_
          refine ww_goto C2.1 (tgt := 15) dX9_isWithin_11 (by decide) ?_
          refine ww_zret C2.1 dX9_isWithin_15 rfl (Or.inr rfl) ?_
          refine k2 _ _ ?_
          refine ww_if_ne (x := (1 : Int32)) C.1 (tgt := 25) dX9_later_20 (by decide) (fun _ => ?_) (fun hh => absurd hh (by decide))
          refine ww_aload_n C.1 dX9_later_25 0 rfl rfl ?_
          refine wt_getR C.1 dX9_later_26 flRX9_58 (tc0 T2) rfl (gg0_7 G2) ?_
          refine wt_getR C.1 dX9_later_29 flRX9_104 (tc33 T2) rfl (gg33_1 G2) ?_
          refine wt_getR C.1 dX9_later_32 flRX9_132 (tc37 T2) rfl (gg37_1 G2) ?_
          refine ww_iload_n C.1 dX9_later_35 1 rfl rfl ?_
          refine wt_iald C.1 dX9_later_36 (tc39 T2) h.1 ?_
          replace h := h.2
          refine ww_istore_n C.1 dX9_later_37 rfl (by decide) [1, 2, 3, 0] (L' := [(0, .ref 0), (1, .int x1), (2, .int x2), (3, .int (M 39 x1.toNatClampNeg))]) rfl ?_
          refine ww_ldc C.1 kcRX9_152 dX9_later_38 ?_
          refine ww_istore C.1 dX9_later_40 (by decide) [1, 2, 3, 4, 0] (L' := [(0, .ref 0), (1, .int x1), (2, .int x2), (3, .int (M 39 x1.toNatClampNeg)), (4, .int (1000000 : Int32))]) rfl ?_
          refine ww_bipush C.1 (v := (-4 : Int32)) dX9_later_42 (by decide) ?_
          refine ww_istore C.1 dX9_later_44 (by decide) [1, 2, 3, 4, 5, 0] (L' := [(0, .ref 0), (1, .int x1), (2, .int x2), (3, .int (M 39 x1.toNatClampNeg)), (4, .int (1000000 : Int32)), (5, .int (-4 : Int32))]) rfl ?_
          refine ww_iconst C.1 (v := (0 : Int32)) dX9_later_46 (by decide) ?_
          refine ww_istore C.1 dX9_later_47 (by decide) [1, 2, 3, 4, 5, 6, 0] (L' := [(0, .ref 0), (1, .int x1), (2, .int x2), (3, .int (M 39 x1.toNatClampNeg)), (4, .int (1000000 : Int32)), (5, .int (-4 : Int32)), (6, .int (0 : Int32))]) rfl ?_
          exact h
set_option maxHeartbeats 4000000 in
set_option maxRecDepth 20000 in
theorem bX9_later_49 {X : CX} {Q : State → Prop} {M : Mem} {G2 : Grf} {T2 : List (Nat × Nat)} {x1 x2 x3 x4 x5 x6 : Int32} (C : Ok0 X mX9_later (TTc ++ T2))
    (h : (((9 : Int32) < x6 → (vp_in x1 7 ∧ ((¬ x5 = (-4 : Int32) → ((¬ x2 = (0 : Int32) → RetOK X Q (some (.int x4)) ((wr M 39 x1.toNatClampNeg x3), (gj G2), TTc ++ T2)) ∧ (x2 = (0 : Int32) → RetOK X Q (some (.int x5)) ((wr M 39 x1.toNatClampNeg x3), (gj G2), TTc ++ T2)))) ∧ (x5 = (-4 : Int32) → RetOK X Q (some (.int (-4 : Int32))) ((wr M 39 x1.toNatClampNeg x3), (gj G2), TTc ++ T2))))) ∧ (¬ (9 : Int32) < x6 → (vp_in x1 7 ∧ WpV mX3_pass [.ref 4, .ref 33, .int (1000000 : Int32)] (wr M 39 x1.toNatClampNeg (x3 + x6)) (gj G2) (TTc ++ T2) (fun M' => WW X Q 85 [(0, .ref 0), (1, .int x1), (2, .int x2), (3, .int x3), (4, .int x4), (5, .int x5), (6, .int x6)] [] (M', (gj G2), TTc ++ T2)))))) :
    WW X Q 49 [(0, .ref 0), (1, .int x1), (2, .int x2), (3, .int x3), (4, .int x4), (5, .int x5), (6, .int x6)] [] (M, (gj G2), TTc ++ T2) := by
  refine ww_iload C.1 dX9_later_49 6 rfl ?_
  refine ww_bipush C.1 (v := (9 : Int32)) dX9_later_51 (by decide) ?_
  refine ww_icmp_gt (x := x6) (y := (9 : Int32)) C.1 (tgt := 131) dX9_later_53 (by decide) (fun hh => ?_) (fun hh => ?_)
  · replace h := h.1 hh
    refine ww_aload_n C.1 dX9_later_131 0 rfl rfl ?_
    refine wt_getR C.1 dX9_later_132 flRX9_58 (tc0 T2) rfl (gg0_7 G2) ?_
    refine wt_getR C.1 dX9_later_135 flRX9_104 (tc33 T2) rfl (gg33_1 G2) ?_
    refine wt_getR C.1 dX9_later_138 flRX9_132 (tc37 T2) rfl (gg37_1 G2) ?_
    refine ww_iload_n C.1 dX9_later_141 1 rfl rfl ?_
    refine ww_iload_n C.1 dX9_later_142 3 rfl rfl ?_
    refine wt_iast C.1 dX9_later_143 (tc39 T2) h.1 ?_
    replace h := h.2
    refine ww_iload C.1 dX9_later_144 5 rfl ?_
    refine ww_bipush C.1 (v := (-4 : Int32)) dX9_later_146 (by decide) ?_
    refine ww_icmp_ne (x := x5) (y := (-4 : Int32)) C.1 (tgt := 154) dX9_later_148 (by decide) (fun hh => ?_) (fun hh => ?_)
    · replace h := h.1 hh
      refine ww_iload_n C.1 dX9_later_154 2 rfl rfl ?_
      refine ww_if_ne (x := x2) C.1 (tgt := 163) dX9_later_155 (by decide) (fun hh => ?_) (fun hh => ?_)
      · replace h := h.1 hh
        refine ww_iload C.1 dX9_later_163 4 rfl ?_
        refine ww_iret C.1 dX9_later_165 rfl ?_
        exact h
      · replace h := h.2 hh
        refine ww_iload C.1 dX9_later_158 5 rfl ?_
        refine ww_goto C.1 (tgt := 165) dX9_later_160 (by decide) ?_
        refine ww_iret C.1 dX9_later_165 rfl ?_
        exact h
    · replace h := h.2 hh
      refine ww_bipush C.1 (v := (-4 : Int32)) dX9_later_151 (by decide) ?_
      refine ww_iret C.1 dX9_later_153 rfl ?_
      exact h
  · replace h := h.2 hh
    refine ww_aload_n C.1 dX9_later_56 0 rfl rfl ?_
    refine wt_getR C.1 dX9_later_57 flRX9_58 (tc0 T2) rfl (gg0_7 G2) ?_
    refine wt_getR C.1 dX9_later_60 flRX9_104 (tc33 T2) rfl (gg33_1 G2) ?_
    refine wt_getR C.1 dX9_later_63 flRX9_132 (tc37 T2) rfl (gg37_1 G2) ?_
    refine ww_iload_n C.1 dX9_later_66 1 rfl rfl ?_
    refine ww_iload_n C.1 dX9_later_67 3 rfl rfl ?_
    refine ww_iload C.1 dX9_later_68 6 rfl ?_
    refine ww_iadd C.1 dX9_later_70 ?_
    refine wt_iast C.1 dX9_later_71 (tc39 T2) h.1 ?_
    replace h := h.2
    refine ww_aload_n C.1 dX9_later_72 0 rfl rfl ?_
    refine wt_getR C.1 dX9_later_73 flRX9_19 (tc0 T2) rfl (gg0_1 G2) ?_
    refine ww_aload_n C.1 dX9_later_76 0 rfl rfl ?_
    refine wt_getR C.1 dX9_later_77 flRX9_58 (tc0 T2) rfl (gg0_7 G2) ?_
    refine ww_ldc C.1 kcRX9_152 dX9_later_80 ?_
    refine ww_vV C fX3_pass (And.intro (by decide) (by decide)) mlRX9_153 dX9_later_82 (tc4 T2) (by decide) rfl (As := [.ref 33, .int (1000000 : Int32)]) (rest := []) rfl rfl rfl (Nat.le_of_ble_eq_true rfl) ?_
    exact h
set_option maxHeartbeats 4000000 in
set_option maxRecDepth 20000 in
theorem bX9_later_85 {X : CX} {Q : State → Prop} {M : Mem} {G2 : Grf} {T2 : List (Nat × Nat)} {x1 x2 x3 x4 x5 x6 : Int32} (C : Ok0 X mX9_later (TTc ++ T2))
    (h : ((¬ (((M 4 5) >>> (x1 &&& 31)) &&& (1 : Int32)) = (1 : Int32) → WW X Q 49 [(0, .ref 0), (1, .int x1), (2, .int x2), (3, .int x3), (4, .int x4), (5, .int x5), (6, .int (x6 + (1 : Int32)))] [] (M, (gj G2), TTc ++ T2)) ∧ ((((M 4 5) >>> (x1 &&& 31)) &&& (1 : Int32)) = (1 : Int32) → (vp_in x1 7 ∧ ((x4 ≤ (M 7 x1.toNatClampNeg) → WW X Q 49 [(0, .ref 0), (1, .int x1), (2, .int x2), (3, .int x3), (4, .int x4), (5, .int x5), (6, .int (x6 + (1 : Int32)))] [] (M, (gj G2), TTc ++ T2)) ∧ (¬ x4 ≤ (M 7 x1.toNatClampNeg) → (vp_in x1 7 ∧ WW X Q 49 [(0, .ref 0), (1, .int x1), (2, .int x2), (3, .int x3), (4, .int (M 7 x1.toNatClampNeg)), (5, .int x6), (6, .int (x6 + (1 : Int32)))] [] (M, (gj G2), TTc ++ T2)))))))) :
    WW X Q 85 [(0, .ref 0), (1, .int x1), (2, .int x2), (3, .int x3), (4, .int x4), (5, .int x5), (6, .int x6)] [] (M, (gj G2), TTc ++ T2) := by
  refine ww_aload_n C.1 dX9_later_85 0 rfl rfl ?_
  refine wt_getR C.1 dX9_later_86 flRX9_19 (tc0 T2) rfl (gg0_1 G2) ?_
  refine ww_iload_n C.1 dX9_later_89 1 rfl rfl ?_
  refine ww_vI C fX3_hasLain (And.intro (by decide) (by decide)) mlRX9_157 dX9_later_90 (tc4 T2) (by decide) rfl (As := [.int x1]) (rest := []) rfl rfl rfl (Nat.le_of_ble_eq_true rfl) (WpI.of (L0 := [(0, .ref 4), (1, .int x1)]) rfl rfl (Nat.le_of_ble_eq_true rfl) fun X1 Q1 C1 k1 => ?_)
  refine ww_aload_n C1.1 dX3_hasLain_0 0 rfl rfl ?_
  refine wt_getI C1.1 dX3_hasLain_1 flRX3_27 (tc4 T2) rfl ?_
  refine ww_iload_n C1.1 dX3_hasLain_4 1 rfl rfl ?_
  refine ww_nI C1 fX9_isIn (And.intro (by decide) (by decide)) nlRX3_92 dX3_hasLain_5 (As := [.int (M 4 5), .int x1]) (rest := []) rfl rfl rfl (Nat.le_of_ble_eq_true rfl) (WpI.of (L0 := [(0, .int (M 4 5)), (1, .int x1)]) rfl rfl (Nat.le_of_ble_eq_true rfl) fun X2 Q2 C2 k2 => ?_)
  refine ww_iload_n C2.1 dX9_isIn_0 0 rfl rfl ?_
  refine ww_iload_n C2.1 dX9_isIn_1 1 rfl rfl ?_
  refine ww_ishr C2.1 dX9_isIn_2 ?_
  refine ww_iconst C2.1 (v := (1 : Int32)) dX9_isIn_3 (by decide) ?_
  refine ww_iand C2.1 dX9_isIn_4 ?_
  refine ww_iconst C2.1 (v := (1 : Int32)) dX9_isIn_5 (by decide) ?_
  refine ww_icmp_ne (x := (((M 4 5) >>> (x1 &&& 31)) &&& (1 : Int32))) (y := (1 : Int32)) C2.1 (tgt := 13) dX9_isIn_6 (by decide) (fun hh => ?_) (fun hh => ?_)
  · replace h := h.1 hh
    refine ww_iconst C2.1 (v := (0 : Int32)) dX9_isIn_13 (by decide) ?_
    refine ww_zret C2.1 dX9_isIn_14 rfl (Or.inl rfl) ?_
    refine k2 _ _ ?_
    refine ww_zret C1.1 dX3_hasLain_8 rfl (Or.inl rfl) ?_
    refine k1 _ _ ?_
    refine ww_if_eq (x := (0 : Int32)) C.1 (tgt := 125) dX9_later_93 (by decide) (fun _ => ?_) (fun hh => absurd hh (by decide))
    refine ww_iinc C.1 (v := (x6 + (1 : Int32))) dX9_later_125 6 rfl (by rfl) (by decide) [1, 2, 3, 4, 5, 6, 0] (L' := [(0, .ref 0), (1, .int x1), (2, .int x2), (3, .int x3), (4, .int x4), (5, .int x5), (6, .int (x6 + (1 : Int32)))]) rfl ?_
    refine ww_goto C.1 (tgt := 49) dX9_later_128 (by decide) ?_
    exact h
  · replace h := h.2 hh
    refine ww_iconst C2.1 (v := (1 : Int32)) dX9_isIn_9 (by decide) ?_
    refine ww_goto C2.1 (tgt := 14) dX9_isIn_10 (by decide) ?_
    refine ww_zret C2.1 dX9_isIn_14 rfl (Or.inr rfl) ?_
    refine k2 _ _ ?_
    refine ww_zret C1.1 dX3_hasLain_8 rfl (Or.inr rfl) ?_
    refine k1 _ _ ?_
    refine ww_if_eq (x := (1 : Int32)) C.1 (tgt := 125) dX9_later_93 (by decide) (fun hh => absurd hh (by decide)) (fun _ => ?_)
    refine ww_aload_n C.1 dX9_later_96 0 rfl rfl ?_
    refine wt_getR C.1 dX9_later_97 flRX9_19 (tc0 T2) rfl (gg0_1 G2) ?_
    refine wt_getR C.1 dX9_later_100 flRX9_166 (tc4 T2) rfl (gg4_2 G2) ?_
    refine ww_iload_n C.1 dX9_later_103 1 rfl rfl ?_
    refine wt_iald C.1 dX9_later_104 (tc7 T2) h.1 ?_
    replace h := h.2
    refine ww_iload C.1 dX9_later_105 4 rfl ?_
    refine ww_icmp_ge (x := (M 7 x1.toNatClampNeg)) (y := x4) C.1 (tgt := 125) dX9_later_107 (by decide) (fun hh => ?_) (fun hh => ?_)
    · replace h := h.1 hh
      refine ww_iinc C.1 (v := (x6 + (1 : Int32))) dX9_later_125 6 rfl (by rfl) (by decide) [1, 2, 3, 4, 5, 6, 0] (L' := [(0, .ref 0), (1, .int x1), (2, .int x2), (3, .int x3), (4, .int x4), (5, .int x5), (6, .int (x6 + (1 : Int32)))]) rfl ?_
      refine ww_goto C.1 (tgt := 49) dX9_later_128 (by decide) ?_
      exact h
    · replace h := h.2 hh
      refine ww_aload_n C.1 dX9_later_110 0 rfl rfl ?_
      refine wt_getR C.1 dX9_later_111 flRX9_19 (tc0 T2) rfl (gg0_1 G2) ?_
      refine wt_getR C.1 dX9_later_114 flRX9_166 (tc4 T2) rfl (gg4_2 G2) ?_
      refine ww_iload_n C.1 dX9_later_117 1 rfl rfl ?_
      refine wt_iald C.1 dX9_later_118 (tc7 T2) h.1 ?_
      replace h := h.2
      refine ww_istore C.1 dX9_later_119 (by decide) [1, 2, 3, 4, 0, 5, 6] (L' := [(0, .ref 0), (1, .int x1), (2, .int x2), (3, .int x3), (4, .int (M 7 x1.toNatClampNeg)), (5, .int x5), (6, .int x6)]) rfl ?_
      refine ww_iload C.1 dX9_later_121 6 rfl ?_
      refine ww_istore C.1 dX9_later_123 (by decide) [1, 2, 3, 4, 5, 0, 6] (L' := [(0, .ref 0), (1, .int x1), (2, .int x2), (3, .int x3), (4, .int (M 7 x1.toNatClampNeg)), (5, .int x6), (6, .int x6)]) rfl ?_
      refine ww_iinc C.1 (v := (x6 + (1 : Int32))) dX9_later_125 6 rfl (by rfl) (by decide) [1, 2, 3, 4, 5, 6, 0] (L' := [(0, .ref 0), (1, .int x1), (2, .int x2), (3, .int x3), (4, .int (M 7 x1.toNatClampNeg)), (5, .int x6), (6, .int (x6 + (1 : Int32)))]) rfl ?_
      refine ww_goto C.1 (tgt := 49) dX9_later_128 (by decide) ?_
      exact h
set_option maxHeartbeats 4000000 in
set_option maxRecDepth 20000 in
theorem bX9_rival_0 {X : CX} {Q : State → Prop} {M : Mem} {G2 : Grf} {T2 : List (Nat × Nat)} (C : Ok0 X mX9_rival (TTc ++ T2))
    (h : WpV mX3_pass [.ref 4, .ref 33, .int (1000000 : Int32)] M (gj G2) (TTc ++ T2) (fun M' => WW X Q 13 [(0, .ref 0)] [] (M', (gj G2), TTc ++ T2))) :
    WW X Q 0 [(0, .ref 0)] [] (M, (gj G2), TTc ++ T2) := by
  refine ww_aload_n C.1 dX9_rival_0 0 rfl rfl ?_
  refine wt_getR C.1 dX9_rival_1 flRX9_19 (tc0 T2) rfl (gg0_1 G2) ?_
  refine ww_aload_n C.1 dX9_rival_4 0 rfl rfl ?_
  refine wt_getR C.1 dX9_rival_5 flRX9_58 (tc0 T2) rfl (gg0_7 G2) ?_
  refine ww_ldc C.1 kcRX9_152 dX9_rival_8 ?_
  refine ww_vV C fX3_pass (And.intro (by decide) (by decide)) mlRX9_153 dX9_rival_10 (tc4 T2) (by decide) rfl (As := [.ref 33, .int (1000000 : Int32)]) (rest := []) rfl rfl rfl (Nat.le_of_ble_eq_true rfl) ?_
  exact h
set_option maxHeartbeats 4000000 in
set_option maxRecDepth 20000 in
theorem bX9_rival_17 {X : CX} {Q : State → Prop} {M : Mem} {G2 : Grf} {T2 : List (Nat × Nat)} {x1 x2 : Int32} (C : Ok0 X mX9_rival (TTc ++ T2))
    (h : (((M 37 6) ≤ x2 → RetOK X Q (some (.int x1)) (M, (gj G2), TTc ++ T2)) ∧ (¬ (M 37 6) ≤ x2 → ((¬ (((M 4 5) >>> (x2 &&& 31)) &&& (1 : Int32)) = (1 : Int32) → WpI mX2_leastAtRival [.ref 33, .int x2] M (gj G2) (TTc ++ T2) (fun r M' => WW X Q 65 [(0, .ref 0), (1, .int x1), (2, .int x2), (3, .int (50 : Int32))] [.int r] (M', (gj G2), TTc ++ T2))) ∧ ((((M 4 5) >>> (x2 &&& 31)) &&& (1 : Int32)) = (1 : Int32) → (vp_in x2 7 ∧ WpI mX2_leastAtRival [.ref 33, .int x2] M (gj G2) (TTc ++ T2) (fun r M' => WW X Q 65 [(0, .ref 0), (1, .int x1), (2, .int x2), (3, .int (M 7 x2.toNatClampNeg))] [.int r] (M', (gj G2), TTc ++ T2)))))))) :
    WW X Q 17 [(0, .ref 0), (1, .int x1), (2, .int x2)] [] (M, (gj G2), TTc ++ T2) := by
  refine ww_iload_n C.1 dX9_rival_17 2 rfl rfl ?_
  refine ww_aload_n C.1 dX9_rival_18 0 rfl rfl ?_
  refine wt_getR C.1 dX9_rival_19 flRX9_58 (tc0 T2) rfl (gg0_7 G2) ?_
  refine wt_getR C.1 dX9_rival_22 flRX9_104 (tc33 T2) rfl (gg33_1 G2) ?_
  refine wt_getI C.1 dX9_rival_25 flRX9_108 (tc37 T2) rfl ?_
  refine ww_icmp_ge (x := x2) (y := (M 37 6)) C.1 (tgt := 81) dX9_rival_28 (by decide) (fun hh => ?_) (fun hh => ?_)
  · replace h := h.1 hh
    refine ww_iload_n C.1 dX9_rival_81 1 rfl rfl ?_
    refine ww_iret C.1 dX9_rival_82 rfl ?_
    exact h
  · replace h := h.2 hh
    refine ww_aload_n C.1 dX9_rival_31 0 rfl rfl ?_
    refine wt_getR C.1 dX9_rival_32 flRX9_19 (tc0 T2) rfl (gg0_1 G2) ?_
    refine ww_iload_n C.1 dX9_rival_35 2 rfl rfl ?_
    refine ww_vI C fX3_hasLain (And.intro (by decide) (by decide)) mlRX9_157 dX9_rival_36 (tc4 T2) (by decide) rfl (As := [.int x2]) (rest := []) rfl rfl rfl (Nat.le_of_ble_eq_true rfl) (WpI.of (L0 := [(0, .ref 4), (1, .int x2)]) rfl rfl (Nat.le_of_ble_eq_true rfl) fun X1 Q1 C1 k1 => ?_)
    refine ww_aload_n C1.1 dX3_hasLain_0 0 rfl rfl ?_
    refine wt_getI C1.1 dX3_hasLain_1 flRX3_27 (tc4 T2) rfl ?_
    refine ww_iload_n C1.1 dX3_hasLain_4 1 rfl rfl ?_
    refine ww_nI C1 fX9_isIn (And.intro (by decide) (by decide)) nlRX3_92 dX3_hasLain_5 (As := [.int (M 4 5), .int x2]) (rest := []) rfl rfl rfl (Nat.le_of_ble_eq_true rfl) (WpI.of (L0 := [(0, .int (M 4 5)), (1, .int x2)]) rfl rfl (Nat.le_of_ble_eq_true rfl) fun X2 Q2 C2 k2 => ?_)
    refine ww_iload_n C2.1 dX9_isIn_0 0 rfl rfl ?_
    refine ww_iload_n C2.1 dX9_isIn_1 1 rfl rfl ?_
    refine ww_ishr C2.1 dX9_isIn_2 ?_
    refine ww_iconst C2.1 (v := (1 : Int32)) dX9_isIn_3 (by decide) ?_
    refine ww_iand C2.1 dX9_isIn_4 ?_
    refine ww_iconst C2.1 (v := (1 : Int32)) dX9_isIn_5 (by decide) ?_
    refine ww_icmp_ne (x := (((M 4 5) >>> (x2 &&& 31)) &&& (1 : Int32))) (y := (1 : Int32)) C2.1 (tgt := 13) dX9_isIn_6 (by decide) (fun hh => ?_) (fun hh => ?_)
    · replace h := h.1 hh
      refine ww_iconst C2.1 (v := (0 : Int32)) dX9_isIn_13 (by decide) ?_
      refine ww_zret C2.1 dX9_isIn_14 rfl (Or.inl rfl) ?_
      refine k2 _ _ ?_
      refine ww_zret C1.1 dX3_hasLain_8 rfl (Or.inl rfl) ?_
      refine k1 _ _ ?_
      refine ww_if_eq (x := (0 : Int32)) C.1 (tgt := 54) dX9_rival_39 (by decide) (fun _ => ?_) (fun hh => absurd hh (by decide))
      refine ww_bipush C.1 (v := (50 : Int32)) dX9_rival_54 (by decide) ?_
      refine ww_istore_n C.1 dX9_rival_56 rfl (by decide) [1, 2, 3, 0] (L' := [(0, .ref 0), (1, .int x1), (2, .int x2), (3, .int (50 : Int32))]) rfl ?_
      refine ww_aload_n C.1 dX9_rival_57 0 rfl rfl ?_
      refine wt_getR C.1 dX9_rival_58 flRX9_58 (tc0 T2) rfl (gg0_7 G2) ?_
      refine ww_iload_n C.1 dX9_rival_61 2 rfl rfl ?_
      refine ww_vI C fX2_leastAtRival (And.intro (by decide) (by decide)) mlRX9_234 dX9_rival_62 (tc33 T2) (by decide) rfl (As := [.int x2]) (rest := []) rfl rfl rfl (Nat.le_of_ble_eq_true rfl) ?_
      exact h
    · replace h := h.2 hh
      refine ww_iconst C2.1 (v := (1 : Int32)) dX9_isIn_9 (by decide) ?_
      refine ww_goto C2.1 (tgt := 14) dX9_isIn_10 (by decide) ?_
      refine ww_zret C2.1 dX9_isIn_14 rfl (Or.inr rfl) ?_
      refine k2 _ _ ?_
      refine ww_zret C1.1 dX3_hasLain_8 rfl (Or.inr rfl) ?_
      refine k1 _ _ ?_
      refine ww_if_eq (x := (1 : Int32)) C.1 (tgt := 54) dX9_rival_39 (by decide) (fun hh => absurd hh (by decide)) (fun _ => ?_)
      refine ww_aload_n C.1 dX9_rival_42 0 rfl rfl ?_
      refine wt_getR C.1 dX9_rival_43 flRX9_19 (tc0 T2) rfl (gg0_1 G2) ?_
      refine wt_getR C.1 dX9_rival_46 flRX9_166 (tc4 T2) rfl (gg4_2 G2) ?_
      refine ww_iload_n C.1 dX9_rival_49 2 rfl rfl ?_
      refine wt_iald C.1 dX9_rival_50 (tc7 T2) h.1 ?_
      replace h := h.2
      refine ww_goto C.1 (tgt := 56) dX9_rival_51 (by decide) ?_
      refine ww_istore_n C.1 dX9_rival_56 rfl (by decide) [1, 2, 3, 0] (L' := [(0, .ref 0), (1, .int x1), (2, .int x2), (3, .int (M 7 x2.toNatClampNeg))]) rfl ?_
      refine ww_aload_n C.1 dX9_rival_57 0 rfl rfl ?_
      refine wt_getR C.1 dX9_rival_58 flRX9_58 (tc0 T2) rfl (gg0_7 G2) ?_
      refine ww_iload_n C.1 dX9_rival_61 2 rfl rfl ?_
      refine ww_vI C fX2_leastAtRival (And.intro (by decide) (by decide)) mlRX9_234 dX9_rival_62 (tc33 T2) (by decide) rfl (As := [.int x2]) (rest := []) rfl rfl rfl (Nat.le_of_ble_eq_true rfl) ?_
      exact h
set_option maxHeartbeats 4000000 in
set_option maxRecDepth 20000 in
theorem bX9_rival_13 {X : CX} {Q : State → Prop} {M : Mem} {G2 : Grf} {T2 : List (Nat × Nat)} (C : Ok0 X mX9_rival (TTc ++ T2))
    (h : WW X Q 17 [(0, .ref 0), (1, .int (0 : Int32)), (2, .int (0 : Int32))] [] (M, (gj G2), TTc ++ T2)) :
    WW X Q 13 [(0, .ref 0)] [] (M, (gj G2), TTc ++ T2) := by
  refine ww_iconst C.1 (v := (0 : Int32)) dX9_rival_13 (by decide) ?_
  refine ww_istore_n C.1 dX9_rival_14 rfl (by decide) [1, 0] (L' := [(0, .ref 0), (1, .int (0 : Int32))]) rfl ?_
  refine ww_iconst C.1 (v := (0 : Int32)) dX9_rival_15 (by decide) ?_
  refine ww_istore_n C.1 dX9_rival_16 rfl (by decide) [1, 2, 0] (L' := [(0, .ref 0), (1, .int (0 : Int32)), (2, .int (0 : Int32))]) rfl ?_
  exact h
set_option maxHeartbeats 4000000 in
set_option maxRecDepth 20000 in
theorem bX9_rival_65 {X : CX} {Q : State → Prop} {M : Mem} {G2 : Grf} {T2 : List (Nat × Nat)} {x1 x2 x3 s0 : Int32} (C : Ok0 X mX9_rival (TTc ++ T2))
    (h : ((x3 ≤ s0 → WW X Q 17 [(0, .ref 0), (1, .int x1), (2, .int (x2 + (1 : Int32)))] [] (M, (gj G2), TTc ++ T2)) ∧ (¬ x3 ≤ s0 → WW X Q 17 [(0, .ref 0), (1, .int (x1 ||| ((1 : Int32) <<< (x2 &&& 31)))), (2, .int (x2 + (1 : Int32)))] [] (M, (gj G2), TTc ++ T2)))) :
    WW X Q 65 [(0, .ref 0), (1, .int x1), (2, .int x2), (3, .int x3)] [.int s0] (M, (gj G2), TTc ++ T2) := by
  refine ww_iload_n C.1 dX9_rival_65 3 rfl rfl ?_
  refine ww_icmp_ge (x := s0) (y := x3) C.1 (tgt := 75) dX9_rival_66 (by decide) (fun hh => ?_) (fun hh => ?_)
  · replace h := h.1 hh
    refine ww_iinc C.1 (v := (x2 + (1 : Int32))) dX9_rival_75 2 rfl (by rfl) (by decide) [1, 2, 0, 3] (L' := [(0, .ref 0), (1, .int x1), (2, .int (x2 + (1 : Int32))), (3, .int x3)]) rfl ?_
    refine ww_goto C.1 (tgt := 17) dX9_rival_78 (by decide) ?_
    refine ww_loc [0, 1, 2] (L' := [(0, .ref 0), (1, .int x1), (2, .int (x2 + (1 : Int32)))]) rfl ?_
    exact h
  · replace h := h.2 hh
    refine ww_iload_n C.1 dX9_rival_69 1 rfl rfl ?_
    refine ww_iconst C.1 (v := (1 : Int32)) dX9_rival_70 (by decide) ?_
    refine ww_iload_n C.1 dX9_rival_71 2 rfl rfl ?_
    refine ww_ishl C.1 dX9_rival_72 ?_
    refine ww_ior C.1 dX9_rival_73 ?_
    refine ww_istore_n C.1 dX9_rival_74 rfl (by decide) [1, 0, 2, 3] (L' := [(0, .ref 0), (1, .int (x1 ||| ((1 : Int32) <<< (x2 &&& 31)))), (2, .int x2), (3, .int x3)]) rfl ?_
    refine ww_iinc C.1 (v := (x2 + (1 : Int32))) dX9_rival_75 2 rfl (by rfl) (by decide) [1, 2, 0, 3] (L' := [(0, .ref 0), (1, .int (x1 ||| ((1 : Int32) <<< (x2 &&& 31)))), (2, .int (x2 + (1 : Int32))), (3, .int x3)]) rfl ?_
    refine ww_goto C.1 (tgt := 17) dX9_rival_78 (by decide) ?_
    refine ww_loc [0, 1, 2] (L' := [(0, .ref 0), (1, .int (x1 ||| ((1 : Int32) <<< (x2 &&& 31)))), (2, .int (x2 + (1 : Int32)))]) rfl ?_
    exact h
set_option maxHeartbeats 4000000 in
set_option maxRecDepth 20000 in
theorem bX9_fewest_0 {X : CX} {Q : State → Prop} {M : Mem} {G2 : Grf} {T2 : List (Nat × Nat)} {x1 : Int32} (C : Ok0 X mX9_fewest (TTc ++ T2))
    (h : ((x1 < (0 : Int32) → RetOK X Q (some (.int (-1 : Int32))) (M, (gj G2), TTc ++ T2)) ∧ (¬ x1 < (0 : Int32) → (((29 : Int32) < x1 → RetOK X Q (some (.int (-1 : Int32))) (M, (gj G2), TTc ++ T2)) ∧ (¬ (29 : Int32) < x1 → WW X Q 14 [(0, .ref 0), (1, .int x1), (2, .int (-4 : Int32)), (3, .int (1 : Int32))] [] (M, (gj G2), TTc ++ T2)))))) :
    WW X Q 0 [(0, .ref 0), (1, .int x1)] [] (M, (gj G2), TTc ++ T2) := by
  refine ww_iload_n C.1 dX9_fewest_0 1 rfl rfl ?_
  refine ww_sI C fX9_isNight (And.intro (by decide) (by decide)) mlRX9_121 dX9_fewest_1 (As := [.int x1]) (rest := []) rfl rfl rfl (Nat.le_of_ble_eq_true rfl) (WpI.of (L0 := [(0, .int x1)]) rfl rfl (Nat.le_of_ble_eq_true rfl) fun X1 Q1 C1 k1 => ?_)
  refine ww_iload_n C1.1 dX9_isNight_0 0 rfl rfl ?_
  refine ww_iconst C1.1 (v := (0 : Int32)) dX9_isNight_1 (by decide) ?_
  refine ww_bipush C1.1 (v := (29 : Int32)) dX9_isNight_2 (by decide) ?_
  refine ww_sI C1 fX9_isWithin (And.intro (by decide) (by decide)) mlRX9_89 dX9_isNight_4 (As := [.int x1, .int (0 : Int32), .int (29 : Int32)]) (rest := []) rfl rfl rfl (Nat.le_of_ble_eq_true rfl) (WpI.of (L0 := [(0, .int x1), (1, .int (0 : Int32)), (2, .int (29 : Int32))]) rfl rfl (Nat.le_of_ble_eq_true rfl) fun X2 Q2 C2 k2 => ?_)
  refine ww_iload_n C2.1 dX9_isWithin_0 0 rfl rfl ?_
  refine ww_iload_n C2.1 dX9_isWithin_1 1 rfl rfl ?_
  refine ww_icmp_lt (x := x1) (y := (0 : Int32)) C2.1 (tgt := 14) dX9_isWithin_2 (by decide) (fun hh => ?_) (fun hh => ?_)
  · replace h := h.1 hh
    refine ww_iconst C2.1 (v := (0 : Int32)) dX9_isWithin_14 (by decide) ?_
    refine ww_zret C2.1 dX9_isWithin_15 rfl (Or.inl rfl) ?_
    refine k2 _ _ ?_
    refine ww_zret C1.1 dX9_isNight_7 rfl (Or.inl rfl) ?_
    refine k1 _ _ ?_
    refine ww_if_ne (x := (0 : Int32)) C.1 (tgt := 9) dX9_fewest_4 (by decide) (fun hh => absurd hh (by decide)) (fun _ => ?_)
    refine ww_iconst C.1 (v := (-1 : Int32)) dX9_fewest_7 (by decide) ?_
    refine ww_iret C.1 dX9_fewest_8 rfl ?_
    exact h
  · replace h := h.2 hh
    refine ww_iload_n C2.1 dX9_isWithin_5 0 rfl rfl ?_
    refine ww_iload_n C2.1 dX9_isWithin_6 2 rfl rfl ?_
    refine ww_icmp_gt (x := x1) (y := (29 : Int32)) C2.1 (tgt := 14) dX9_isWithin_7 (by decide) (fun hh => ?_) (fun hh => ?_)
    · replace h := h.1 hh
      refine ww_iconst C2.1 (v := (0 : Int32)) dX9_isWithin_14 (by decide) ?_
      refine ww_zret C2.1 dX9_isWithin_15 rfl (Or.inl rfl) ?_
      refine k2 _ _ ?_
      refine ww_zret C1.1 dX9_isNight_7 rfl (Or.inl rfl) ?_
      refine k1 _ _ ?_
      refine ww_if_ne (x := (0 : Int32)) C.1 (tgt := 9) dX9_fewest_4 (by decide) (fun hh => absurd hh (by decide)) (fun _ => ?_)
      refine ww_iconst C.1 (v := (-1 : Int32)) dX9_fewest_7 (by decide) ?_
      refine ww_iret C.1 dX9_fewest_8 rfl ?_
      exact h
    · replace h := h.2 hh
      refine ww_iconst C2.1 (v := (1 : Int32)) dX9_isWithin_10 (by decide) ?_
      refine ww_goto C2.1 (tgt := 15) dX9_isWithin_11 (by decide) ?_
      refine ww_zret C2.1 dX9_isWithin_15 rfl (Or.inr rfl) ?_
      refine k2 _ _ ?_
      refine ww_zret C1.1 dX9_isNight_7 rfl (Or.inr rfl) ?_
      refine k1 _ _ ?_
      refine ww_if_ne (x := (1 : Int32)) C.1 (tgt := 9) dX9_fewest_4 (by decide) (fun _ => ?_) (fun hh => absurd hh (by decide))
      refine ww_bipush C.1 (v := (-4 : Int32)) dX9_fewest_9 (by decide) ?_
      refine ww_istore_n C.1 dX9_fewest_11 rfl (by decide) [1, 2, 0] (L' := [(0, .ref 0), (1, .int x1), (2, .int (-4 : Int32))]) rfl ?_
      refine ww_iconst C.1 (v := (1 : Int32)) dX9_fewest_12 (by decide) ?_
      refine ww_istore_n C.1 dX9_fewest_13 rfl (by decide) [1, 2, 3, 0] (L' := [(0, .ref 0), (1, .int x1), (2, .int (-4 : Int32)), (3, .int (1 : Int32))]) rfl ?_
      exact h
