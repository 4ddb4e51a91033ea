set_option maxHeartbeats 4000000 in
set_option maxRecDepth 20000 in
theorem bX4_search_81 {X : CX} {Q : State → Prop} {M : Mem} {G2 : Grf} {T2 : List (Nat × Nat)} {x4 x5 : Int32} (C : Ok0 X mX4_search (TTc ++ T2))
    (h : WpI mX3_total [.ref 4, .ref 37] M (gj G2) (TTc ++ T2) (fun r M' => WW X Q 86 [(0, .ref 29), (1, .ref 33), (2, .ref 4), (3, .ref 37), (4, .int x4), (5, .int x5)] [.int r] (M', (gj G2), TTc ++ T2))) :
    WW X Q 81 [(0, .ref 29), (1, .ref 33), (2, .ref 4), (3, .ref 37), (4, .int x4), (5, .int x5)] [] (M, (gj G2), TTc ++ T2) := by
  refine ww_aload_n C.1 dX4_search_81 2 rfl rfl ?_
  refine ww_aload_n C.1 dX4_search_82 3 rfl rfl ?_
  refine ww_vI C fX3_total (And.intro (by decide) (by decide)) mlRX4_47 dX4_search_83 (tc4 T2) (by decide) rfl (As := [.ref 37]) (rest := []) rfl rfl rfl (Nat.le_of_ble_eq_true rfl) ?_
  exact h
set_option maxHeartbeats 4000000 in
set_option maxRecDepth 20000 in
theorem bX4_search_86 {X : CX} {Q : State → Prop} {M : Mem} {G2 : Grf} {T2 : List (Nat × Nat)} {x4 x5 s0 : Int32} (C : Ok0 X mX4_search (TTc ++ T2))
    (h : (((M 29 2) ≤ s0 → WpI mX4_toNextRow [.ref 37, .int (M 4 7)] M (gj G2) (TTc ++ T2) (fun r M' => WW X Q 126 [(0, .ref 29), (1, .ref 33), (2, .ref 4), (3, .ref 37), (4, .int x4), (5, .int x5), (6, .int s0)] [.int r] (M', (gj G2), TTc ++ T2))) ∧ (¬ (M 29 2) ≤ s0 → WpI mX4_toNextRow [.ref 37, .int (M 4 7)] (wrA (wr M 29 2 s0) 30 (va_cpy (M 43) (M 30) 0 0 7)) (gj G2) (TTc ++ T2) (fun r M' => WW X Q 126 [(0, .ref 29), (1, .ref 33), (2, .ref 4), (3, .ref 37), (4, .int x4), (5, .int x5), (6, .int s0)] [.int r] (M', (gj G2), TTc ++ T2))))) :
    WW X Q 86 [(0, .ref 29), (1, .ref 33), (2, .ref 4), (3, .ref 37), (4, .int x4), (5, .int x5)] [.int s0] (M, (gj G2), TTc ++ T2) := by
  refine ww_istore C.1 dX4_search_86 (by decide) [1, 2, 3, 4, 5, 6, 0] (L' := [(0, .ref 29), (1, .ref 33), (2, .ref 4), (3, .ref 37), (4, .int x4), (5, .int x5), (6, .int s0)]) rfl ?_
  refine ww_iload C.1 dX4_search_88 6 rfl ?_
  refine ww_aload_n C.1 dX4_search_90 0 rfl rfl ?_
  refine wt_getI C.1 dX4_search_91 flRX4_38 (tc29 T2) rfl ?_
  refine ww_icmp_ge (x := s0) (y := (M 29 2)) C.1 (tgt := 118) dX4_search_94 (by decide) (fun hh => ?_) (fun hh => ?_)
  · replace h := h.1 hh
    refine ww_aload_n C.1 dX4_search_118 3 rfl rfl ?_
    refine ww_aload_n C.1 dX4_search_119 2 rfl rfl ?_
    refine wt_getI C.1 dX4_search_120 flRX4_51 (tc4 T2) rfl ?_
    refine ww_sI C fX4_toNextRow (And.intro (by decide) (by decide)) mlRX4_54 dX4_search_123 (As := [.ref 37, .int (M 4 7)]) (rest := []) rfl rfl rfl (Nat.le_of_ble_eq_true rfl) ?_
    exact h
  · replace h := h.2 hh
    refine ww_aload_n C.1 dX4_search_97 0 rfl rfl ?_
    refine ww_iload C.1 dX4_search_98 6 rfl ?_
    refine wt_putI C.1 dX4_search_100 flRX4_38 (tc29 T2) rfl ?_
    refine ww_aload_n C.1 dX4_search_103 3 rfl rfl ?_
    refine wt_getR C.1 dX4_search_104 flRX4_24 (tc37 T2) rfl (gg37_5 G2) ?_
    refine ww_iconst C.1 (v := (0 : Int32)) dX4_search_107 (by decide) ?_
    refine ww_aload_n C.1 dX4_search_108 0 rfl rfl ?_
    refine wt_getR C.1 dX4_search_109 flRX4_9 (tc29 T2) rfl (gg29_0 G2) ?_
    refine ww_iconst C.1 (v := (0 : Int32)) dX4_search_112 (by decide) ?_
    refine ww_bipush C.1 (v := (7 : Int32)) dX4_search_113 (by decide) ?_
    refine wt_acopy C.1 mlRX4_27 acN acS acI dX4_search_115 (tc43 T2) (tc30 T2) (by decide) (by decide) (by decide) (by decide) (by decide) (by decide) (Nat.le_of_ble_eq_true rfl) ?_
    refine ww_aload_n C.1 dX4_search_118 3 rfl rfl ?_
    refine ww_aload_n C.1 dX4_search_119 2 rfl rfl ?_
    refine wt_getI C.1 dX4_search_120 flRX4_51 (tc4 T2) rfl ?_
    refine ww_sI C fX4_toNextRow (And.intro (by decide) (by decide)) mlRX4_54 dX4_search_123 (As := [.ref 37, .int (M 4 7)]) (rest := []) rfl rfl rfl (Nat.le_of_ble_eq_true rfl) ?_
    exact h
set_option maxHeartbeats 4000000 in
set_option maxRecDepth 20000 in
theorem bX4_search_126 {X : CX} {Q : State → Prop} {M : Mem} {G2 : Grf} {T2 : List (Nat × Nat)} {x4 x5 x6 s0 : Int32} (C : Ok0 X mX4_search (TTc ++ T2))
    (h : WW X Q 59 [(0, .ref 29), (1, .ref 33), (2, .ref 4), (3, .ref 37), (4, .int s0), (5, .int (x5 + (1 : Int32)))] [] (M, (gj G2), TTc ++ T2)) :
    WW X Q 126 [(0, .ref 29), (1, .ref 33), (2, .ref 4), (3, .ref 37), (4, .int x4), (5, .int x5), (6, .int x6)] [.int s0] (M, (gj G2), TTc ++ T2) := by
  refine ww_istore C.1 dX4_search_126 (by decide) [1, 2, 3, 4, 0, 5, 6] (L' := [(0, .ref 29), (1, .ref 33), (2, .ref 4), (3, .ref 37), (4, .int s0), (5, .int x5), (6, .int x6)]) rfl ?_
  refine ww_iinc C.1 (v := (x5 + (1 : Int32))) dX4_search_128 5 rfl (by rfl) (by decide) [1, 2, 3, 4, 5, 0, 6] (L' := [(0, .ref 29), (1, .ref 33), (2, .ref 4), (3, .ref 37), (4, .int s0), (5, .int (x5 + (1 : Int32))), (6, .int x6)]) rfl ?_
  refine ww_goto C.1 (tgt := 59) dX4_search_131 (by decide) ?_
  refine ww_loc [0, 1, 2, 3, 4, 5] (L' := [(0, .ref 29), (1, .ref 33), (2, .ref 4), (3, .ref 37), (4, .int s0), (5, .int (x5 + (1 : Int32)))]) rfl ?_
  exact h
set_option maxHeartbeats 4000000 in
set_option maxRecDepth 20000 in
theorem bX4_toNextRow_0 {X : CX} {Q : State → Prop} {M : Mem} {G2 : Grf} {T2 : List (Nat × Nat)} {x1 : Int32} (C : Ok0 X mX4_toNextRow (TTc ++ T2))
    (h : WpV mX4_letFall [.ref 37, .int (x1 + (1 : Int32))] M (gj G2) (TTc ++ T2) (fun M' => WW X Q 7 [(0, .ref 37), (1, .int x1)] [] (M', (gj G2), TTc ++ T2))) :
    WW X Q 0 [(0, .ref 37), (1, .int x1)] [] (M, (gj G2), TTc ++ T2) := by
  refine ww_aload_n C.1 dX4_toNextRow_0 0 rfl rfl ?_
  refine ww_iload_n C.1 dX4_toNextRow_1 1 rfl rfl ?_
  refine ww_iconst C.1 (v := (1 : Int32)) dX4_toNextRow_2 (by decide) ?_
  refine ww_iadd C.1 dX4_toNextRow_3 ?_
  refine ww_sV C fX4_letFall (And.intro (by decide) (by decide)) mlRX4_62 dX4_toNextRow_4 (As := [.ref 37, .int (x1 + (1 : Int32))]) (rest := []) rfl rfl rfl (Nat.le_of_ble_eq_true rfl) ?_
  exact h
set_option maxHeartbeats 4000000 in
set_option maxRecDepth 20000 in
theorem bX4_toNextRow_14 {X : CX} {Q : State → Prop} {M : Mem} {G2 : Grf} {T2 : List (Nat × Nat)} {x1 x2 : Int32} (C : Ok0 X mX4_toNextRow (TTc ++ T2))
    (h : ((x2 < (0 : Int32) → (((0 : Int32) ≤ x2 → WW X Q 54 [(0, .ref 37), (1, .int x1), (2, .int x2), (3, .int ((M 37 6) - (1 : Int32)))] [] (M, (gj G2), TTc ++ T2)) ∧ (¬ (0 : Int32) ≤ x2 → RetOK X Q (some (.int (0 : Int32))) (M, (gj G2), TTc ++ T2)))) ∧ (¬ x2 < (0 : Int32) → (vp_in x2 7 ∧ (vp_in (x2 + (1 : Int32)) 7 ∧ (((M 43 x2.toNatClampNeg) ≤ (M 43 (x2 + (1 : Int32)).toNatClampNeg) → (((0 : Int32) ≤ x2 → WW X Q 54 [(0, .ref 37), (1, .int x1), (2, .int x2), (3, .int ((M 37 6) - (1 : Int32)))] [] (M, (gj G2), TTc ++ T2)) ∧ (¬ (0 : Int32) ≤ x2 → RetOK X Q (some (.int (0 : Int32))) (M, (gj G2), TTc ++ T2)))) ∧ (¬ (M 43 x2.toNatClampNeg) ≤ (M 43 (x2 + (1 : Int32)).toNatClampNeg) → WW X Q 14 [(0, .ref 37), (1, .int x1), (2, .int (x2 + (-1 : Int32)))] [] (M, (gj G2), TTc ++ T2)))))))) :
    WW X Q 14 [(0, .ref 37), (1, .int x1), (2, .int x2)] [] (M, (gj G2), TTc ++ T2) := by
  refine ww_iload_n C.1 dX4_toNextRow_14 2 rfl rfl ?_
  refine ww_if_lt (x := x2) C.1 (tgt := 41) dX4_toNextRow_15 (by decide) (fun hh => ?_) (fun hh => ?_)
  · replace h := h.1 hh
    refine ww_iload_n C.1 dX4_toNextRow_41 2 rfl rfl ?_
    refine ww_if_ge (x := x2) C.1 (tgt := 47) dX4_toNextRow_42 (by decide) (fun hh => ?_) (fun hh => ?_)
    · replace h := h.1 hh
      refine ww_aload_n C.1 dX4_toNextRow_47 0 rfl rfl ?_
      refine wt_getI C.1 dX4_toNextRow_48 flRX4_33 (tc37 T2) rfl ?_
      refine ww_iconst C.1 (v := (1 : Int32)) dX4_toNextRow_51 (by decide) ?_
      refine ww_isub C.1 dX4_toNextRow_52 ?_
      refine ww_istore_n C.1 dX4_toNextRow_53 rfl (by decide) [1, 2, 3, 0] (L' := [(0, .ref 37), (1, .int x1), (2, .int x2), (3, .int ((M 37 6) - (1 : Int32)))]) rfl ?_
      exact h
    · replace h := h.2 hh
      refine ww_iconst C.1 (v := (0 : Int32)) dX4_toNextRow_45 (by decide) ?_
      refine ww_zret C.1 dX4_toNextRow_46 rfl (Or.inl rfl) ?_
      exact h
  · replace h := h.2 hh
    refine ww_aload_n C.1 dX4_toNextRow_18 0 rfl rfl ?_
    refine wt_getR C.1 dX4_toNextRow_19 flRX4_24 (tc37 T2) rfl (gg37_5 G2) ?_
    refine ww_iload_n C.1 dX4_toNextRow_22 2 rfl rfl ?_
    refine wt_iald C.1 dX4_toNextRow_23 (tc43 T2) h.1 ?_
    replace h := h.2
    refine ww_aload_n C.1 dX4_toNextRow_24 0 rfl rfl ?_
    refine wt_getR C.1 dX4_toNextRow_25 flRX4_24 (tc37 T2) rfl (gg37_5 G2) ?_
    refine ww_iload_n C.1 dX4_toNextRow_28 2 rfl rfl ?_
    refine ww_iconst C.1 (v := (1 : Int32)) dX4_toNextRow_29 (by decide) ?_
    refine ww_iadd C.1 dX4_toNextRow_30 ?_
    refine wt_iald C.1 dX4_toNextRow_31 (tc43 T2) h.1 ?_
    replace h := h.2
    refine ww_icmp_le (x := (M 43 x2.toNatClampNeg)) (y := (M 43 (x2 + (1 : Int32)).toNatClampNeg)) C.1 (tgt := 41) dX4_toNextRow_32 (by decide) (fun hh => ?_) (fun hh => ?_)
    · replace h := h.1 hh
      refine ww_iload_n C.1 dX4_toNextRow_41 2 rfl rfl ?_
      refine ww_if_ge (x := x2) C.1 (tgt := 47) dX4_toNextRow_42 (by decide) (fun hh => ?_) (fun hh => ?_)
      · replace h := h.1 hh
        refine ww_aload_n C.1 dX4_toNextRow_47 0 rfl rfl ?_
        refine wt_getI C.1 dX4_toNextRow_48 flRX4_33 (tc37 T2) rfl ?_
        refine ww_iconst C.1 (v := (1 : Int32)) dX4_toNextRow_51 (by decide) ?_
        refine ww_isub C.1 dX4_toNextRow_52 ?_
        refine ww_istore_n C.1 dX4_toNextRow_53 rfl (by decide) [1, 2, 3, 0] (L' := [(0, .ref 37), (1, .int x1), (2, .int x2), (3, .int ((M 37 6) - (1 : Int32)))]) rfl ?_
        exact h
      · replace h := h.2 hh
        refine ww_iconst C.1 (v := (0 : Int32)) dX4_toNextRow_45 (by decide) ?_
        refine ww_zret C.1 dX4_toNextRow_46 rfl (Or.inl rfl) ?_
        exact h
    · replace h := h.2 hh
      refine ww_iinc C.1 (v := (x2 + (-1 : Int32))) dX4_toNextRow_35 2 rfl (by rfl) (by decide) [1, 2, 0] (L' := [(0, .ref 37), (1, .int x1), (2, .int (x2 + (-1 : Int32)))]) rfl ?_
      refine ww_goto C.1 (tgt := 14) dX4_toNextRow_38 (by decide) ?_
      exact h
set_option maxHeartbeats 4000000 in
set_option maxRecDepth 20000 in
theorem bX4_toNextRow_54 {X : CX} {Q : State → Prop} {M : Mem} {G2 : Grf} {T2 : List (Nat × Nat)} {x1 x2 x3 : Int32} (C : Ok0 X mX4_toNextRow (TTc ++ T2))
    (h : ((x3 ≤ x2 → WpV mX4_swap [.ref 37, .int x2, .int x3] M (gj G2) (TTc ++ T2) (fun M' => WW X Q 86 [(0, .ref 37), (1, .int x1), (2, .int x2), (3, .int x3)] [] (M', (gj G2), TTc ++ T2))) ∧ (¬ x3 ≤ x2 → (vp_in x3 7 ∧ (vp_in x2 7 ∧ (((M 43 x2.toNatClampNeg) ≤ (M 43 x3.toNatClampNeg) → WpV mX4_swap [.ref 37, .int x2, .int x3] M (gj G2) (TTc ++ T2) (fun M' => WW X Q 86 [(0, .ref 37), (1, .int x1), (2, .int x2), (3, .int x3)] [] (M', (gj G2), TTc ++ T2))) ∧ (¬ (M 43 x2.toNatClampNeg) ≤ (M 43 x3.toNatClampNeg) → WW X Q 54 [(0, .ref 37), (1, .int x1), (2, .int x2), (3, .int (x3 + (-1 : Int32)))] [] (M, (gj G2), TTc ++ T2)))))))) :
    WW X Q 54 [(0, .ref 37), (1, .int x1), (2, .int x2), (3, .int x3)] [] (M, (gj G2), TTc ++ T2) := by
  refine ww_iload_n C.1 dX4_toNextRow_54 3 rfl rfl ?_
  refine ww_iload_n C.1 dX4_toNextRow_55 2 rfl rfl ?_
  refine ww_icmp_le (x := x3) (y := x2) C.1 (tgt := 80) dX4_toNextRow_56 (by decide) (fun hh => ?_) (fun hh => ?_)
  · replace h := h.1 hh
    refine ww_aload_n C.1 dX4_toNextRow_80 0 rfl rfl ?_
    refine ww_iload_n C.1 dX4_toNextRow_81 2 rfl rfl ?_
    refine ww_iload_n C.1 dX4_toNextRow_82 3 rfl rfl ?_
    refine ww_sV C fX4_swap (And.intro (by decide) (by decide)) mlRX4_66 dX4_toNextRow_83 (As := [.ref 37, .int x2, .int x3]) (rest := []) rfl rfl rfl (Nat.le_of_ble_eq_true rfl) ?_
    exact h
  · replace h := h.2 hh
    refine ww_aload_n C.1 dX4_toNextRow_59 0 rfl rfl ?_
    refine wt_getR C.1 dX4_toNextRow_60 flRX4_24 (tc37 T2) rfl (gg37_5 G2) ?_
    refine ww_iload_n C.1 dX4_toNextRow_63 3 rfl rfl ?_
    refine wt_iald C.1 dX4_toNextRow_64 (tc43 T2) h.1 ?_
    replace h := h.2
    refine ww_aload_n C.1 dX4_toNextRow_65 0 rfl rfl ?_
    refine wt_getR C.1 dX4_toNextRow_66 flRX4_24 (tc37 T2) rfl (gg37_5 G2) ?_
    refine ww_iload_n C.1 dX4_toNextRow_69 2 rfl rfl ?_
    refine wt_iald C.1 dX4_toNextRow_70 (tc43 T2) h.1 ?_
    replace h := h.2
    refine ww_icmp_ge (x := (M 43 x3.toNatClampNeg)) (y := (M 43 x2.toNatClampNeg)) C.1 (tgt := 80) dX4_toNextRow_71 (by decide) (fun hh => ?_) (fun hh => ?_)
    · replace h := h.1 hh
      refine ww_aload_n C.1 dX4_toNextRow_80 0 rfl rfl ?_
      refine ww_iload_n C.1 dX4_toNextRow_81 2 rfl rfl ?_
      refine ww_iload_n C.1 dX4_toNextRow_82 3 rfl rfl ?_
      refine ww_sV C fX4_swap (And.intro (by decide) (by decide)) mlRX4_66 dX4_toNextRow_83 (As := [.ref 37, .int x2, .int x3]) (rest := []) rfl rfl rfl (Nat.le_of_ble_eq_true rfl) ?_
      exact h
    · replace h := h.2 hh
      refine ww_iinc C.1 (v := (x3 + (-1 : Int32))) dX4_toNextRow_74 3 rfl (by rfl) (by decide) [1, 2, 3, 0] (L' := [(0, .ref 37), (1, .int x1), (2, .int x2), (3, .int (x3 + (-1 : Int32)))]) rfl ?_
      refine ww_goto C.1 (tgt := 54) dX4_toNextRow_77 (by decide) ?_
      exact h
set_option maxHeartbeats 4000000 in
set_option maxRecDepth 20000 in
theorem bX4_toNextRow_7 {X : CX} {Q : State → Prop} {M : Mem} {G2 : Grf} {T2 : List (Nat × Nat)} {x1 : Int32} (C : Ok0 X mX4_toNextRow (TTc ++ T2))
    (h : WW X Q 14 [(0, .ref 37), (1, .int x1), (2, .int ((M 37 6) - (2 : Int32)))] [] (M, (gj G2), TTc ++ T2)) :
    WW X Q 7 [(0, .ref 37), (1, .int x1)] [] (M, (gj G2), TTc ++ T2) := by
  refine ww_aload_n C.1 dX4_toNextRow_7 0 rfl rfl ?_
  refine wt_getI C.1 dX4_toNextRow_8 flRX4_33 (tc37 T2) rfl ?_
  refine ww_iconst C.1 (v := (2 : Int32)) dX4_toNextRow_11 (by decide) ?_
  refine ww_isub C.1 dX4_toNextRow_12 ?_
  refine ww_istore_n C.1 dX4_toNextRow_13 rfl (by decide) [1, 2, 0] (L' := [(0, .ref 37), (1, .int x1), (2, .int ((M 37 6) - (2 : Int32)))]) rfl ?_
  exact h
set_option maxHeartbeats 4000000 in
set_option maxRecDepth 20000 in
theorem bX4_toNextRow_86 {X : CX} {Q : State → Prop} {M : Mem} {G2 : Grf} {T2 : List (Nat × Nat)} {x1 x2 x3 : Int32} (C : Ok0 X mX4_toNextRow (TTc ++ T2))
    (h : WpV mX4_turnRound [.ref 37, .int (x2 + (1 : Int32))] M (gj G2) (TTc ++ T2) (fun M' => WW X Q 93 [(0, .ref 37), (1, .int x1), (2, .int x2), (3, .int x3)] [] (M', (gj G2), TTc ++ T2))) :
    WW X Q 86 [(0, .ref 37), (1, .int x1), (2, .int x2), (3, .int x3)] [] (M, (gj G2), TTc ++ T2) := by
  refine ww_aload_n C.1 dX4_toNextRow_86 0 rfl rfl ?_
  refine ww_iload_n C.1 dX4_toNextRow_87 2 rfl rfl ?_
  refine ww_iconst C.1 (v := (1 : Int32)) dX4_toNextRow_88 (by decide) ?_
  refine ww_iadd C.1 dX4_toNextRow_89 ?_
  refine ww_sV C fX4_turnRound (And.intro (by decide) (by decide)) mlRX4_70 dX4_toNextRow_90 (As := [.ref 37, .int (x2 + (1 : Int32))]) (rest := []) rfl rfl rfl (Nat.le_of_ble_eq_true rfl) ?_
  exact h
set_option maxHeartbeats 4000000 in
set_option maxRecDepth 20000 in
theorem bX4_toNextRow_93 {X : CX} {Q : State → Prop} {M : Mem} {G2 : Grf} {T2 : List (Nat × Nat)} {x1 x2 x3 : Int32} (C : Ok0 X mX4_toNextRow (TTc ++ T2))
    (h : RetOK X Q (some (.int (1 : Int32))) (M, (gj G2), TTc ++ T2)) :
    WW X Q 93 [(0, .ref 37), (1, .int x1), (2, .int x2), (3, .int x3)] [] (M, (gj G2), TTc ++ T2) := by
  refine ww_iconst C.1 (v := (1 : Int32)) dX4_toNextRow_93 (by decide) ?_
  refine ww_zret C.1 dX4_toNextRow_94 rfl (Or.inr rfl) ?_
  exact h
set_option maxHeartbeats 4000000 in
set_option maxRecDepth 20000 in
theorem bX4_letFall_0 {X : CX} {Q : State → Prop} {M : Mem} {G2 : Grf} {T2 : List (Nat × Nat)} {x1 : Int32} (C : Ok0 X mX4_letFall (TTc ++ T2))
    (h : WpI mJ9_max_7cf53 [.int (0 : Int32), .int x1] M (gj G2) (TTc ++ T2) (fun r M' => WW X Q 5 [(0, .ref 37), (1, .int x1)] [.int r] (M', (gj G2), TTc ++ T2))) :
    WW X Q 0 [(0, .ref 37), (1, .int x1)] [] (M, (gj G2), TTc ++ T2) := by
  refine ww_iconst C.1 (v := (0 : Int32)) dX4_letFall_0 (by decide) ?_
  refine ww_iload_n C.1 dX4_letFall_1 1 rfl rfl ?_
  refine ww_sI C fJ9_max_7cf53 (And.intro (by decide) (by decide)) mlRX4_73 dX4_letFall_2 (As := [.int (0 : Int32), .int x1]) (rest := []) rfl rfl rfl (Nat.le_of_ble_eq_true rfl) ?_
  exact h
set_option maxHeartbeats 4000000 in
set_option maxRecDepth 20000 in
theorem bX4_letFall_6 {X : CX} {Q : State → Prop} {M : Mem} {G2 : Grf} {T2 : List (Nat × Nat)} {x1 x2 : Int32} (C : Ok0 X mX4_letFall (TTc ++ T2))
    (h : (((M 37 6) ≤ x2 → RetOK X Q (none) (M, (gj G2), TTc ++ T2)) ∧ (¬ (M 37 6) ≤ x2 → WW X Q 18 [(0, .ref 37), (1, .int x1), (2, .int x2), (3, .int (x2 + (1 : Int32)))] [] (M, (gj G2), TTc ++ T2)))) :
    WW X Q 6 [(0, .ref 37), (1, .int x1), (2, .int x2)] [] (M, (gj G2), TTc ++ T2) := by
  refine ww_iload_n C.1 dX4_letFall_6 2 rfl rfl ?_
  refine ww_aload_n C.1 dX4_letFall_7 0 rfl rfl ?_
  refine wt_getI C.1 dX4_letFall_8 flRX4_33 (tc37 T2) rfl ?_
  refine ww_icmp_ge (x := x2) (y := (M 37 6)) C.1 (tgt := 59) dX4_letFall_11 (by decide) (fun hh => ?_) (fun hh => ?_)
  · replace h := h.1 hh
    refine ww_vret C.1 dX4_letFall_59 rfl ?_
    exact h
  · replace h := h.2 hh
    refine ww_iload_n C.1 dX4_letFall_14 2 rfl rfl ?_
    refine ww_iconst C.1 (v := (1 : Int32)) dX4_letFall_15 (by decide) ?_
    refine ww_iadd C.1 dX4_letFall_16 ?_
    refine ww_istore_n C.1 dX4_letFall_17 rfl (by decide) [1, 2, 3, 0] (L' := [(0, .ref 37), (1, .int x1), (2, .int x2), (3, .int (x2 + (1 : Int32)))]) rfl ?_
    exact h
set_option maxHeartbeats 4000000 in
set_option maxRecDepth 20000 in
theorem bX4_letFall_18 {X : CX} {Q : State → Prop} {M : Mem} {G2 : Grf} {T2 : List (Nat × Nat)} {x1 x2 x3 : Int32} (C : Ok0 X mX4_letFall (TTc ++ T2))
    (h : (((M 37 6) ≤ x3 → WW X Q 6 [(0, .ref 37), (1, .int x1), (2, .int (x2 + (1 : Int32)))] [] (M, (gj G2), TTc ++ T2)) ∧ (¬ (M 37 6) ≤ x3 → (vp_in x3 7 ∧ (vp_in x2 7 ∧ (((M 43 x3.toNatClampNeg) ≤ (M 43 x2.toNatClampNeg) → WW X Q 18 [(0, .ref 37), (1, .int x1), (2, .int x2), (3, .int (x3 + (1 : Int32)))] [] (M, (gj G2), TTc ++ T2)) ∧ (¬ (M 43 x3.toNatClampNeg) ≤ (M 43 x2.toNatClampNeg) → WpV mX4_swap [.ref 37, .int x2, .int x3] M (gj G2) (TTc ++ T2) (fun M' => WW X Q 47 [(0, .ref 37), (1, .int x1), (2, .int x2), (3, .int x3)] [] (M', (gj G2), TTc ++ T2))))))))) :
    WW X Q 18 [(0, .ref 37), (1, .int x1), (2, .int x2), (3, .int x3)] [] (M, (gj G2), TTc ++ T2) := by
  refine ww_iload_n C.1 dX4_letFall_18 3 rfl rfl ?_
  refine ww_aload_n C.1 dX4_letFall_19 0 rfl rfl ?_
  refine wt_getI C.1 dX4_letFall_20 flRX4_33 (tc37 T2) rfl ?_
  refine ww_icmp_ge (x := x3) (y := (M 37 6)) C.1 (tgt := 53) dX4_letFall_23 (by decide) (fun hh => ?_) (fun hh => ?_)
  · replace h := h.1 hh
    refine ww_iinc C.1 (v := (x2 + (1 : Int32))) dX4_letFall_53 2 rfl (by rfl) (by decide) [1, 2, 0, 3] (L' := [(0, .ref 37), (1, .int x1), (2, .int (x2 + (1 : Int32))), (3, .int x3)]) rfl ?_
    refine ww_goto C.1 (tgt := 6) dX4_letFall_56 (by decide) ?_
    refine ww_loc [0, 1, 2] (L' := [(0, .ref 37), (1, .int x1), (2, .int (x2 + (1 : Int32)))]) rfl ?_
    exact h
  · replace h := h.2 hh
    refine ww_aload_n C.1 dX4_letFall_26 0 rfl rfl ?_
    refine wt_getR C.1 dX4_letFall_27 flRX4_24 (tc37 T2) rfl (gg37_5 G2) ?_
    refine ww_iload_n C.1 dX4_letFall_30 3 rfl rfl ?_
    refine wt_iald C.1 dX4_letFall_31 (tc43 T2) h.1 ?_
    replace h := h.2
    refine ww_aload_n C.1 dX4_letFall_32 0 rfl rfl ?_
    refine wt_getR C.1 dX4_letFall_33 flRX4_24 (tc37 T2) rfl (gg37_5 G2) ?_
    refine ww_iload_n C.1 dX4_letFall_36 2 rfl rfl ?_
    refine wt_iald C.1 dX4_letFall_37 (tc43 T2) h.1 ?_
    replace h := h.2
    refine ww_icmp_le (x := (M 43 x3.toNatClampNeg)) (y := (M 43 x2.toNatClampNeg)) C.1 (tgt := 47) dX4_letFall_38 (by decide) (fun hh => ?_) (fun hh => ?_)
    · replace h := h.1 hh
      refine ww_iinc C.1 (v := (x3 + (1 : Int32))) dX4_letFall_47 3 rfl (by rfl) (by decide) [1, 2, 3, 0] (L' := [(0, .ref 37), (1, .int x1), (2, .int x2), (3, .int (x3 + (1 : Int32)))]) rfl ?_
      refine ww_goto C.1 (tgt := 18) dX4_letFall_50 (by decide) ?_
      exact h
    · replace h := h.2 hh
      refine ww_aload_n C.1 dX4_letFall_41 0 rfl rfl ?_
      refine ww_iload_n C.1 dX4_letFall_42 2 rfl rfl ?_
      refine ww_iload_n C.1 dX4_letFall_43 3 rfl rfl ?_
      refine ww_sV C fX4_swap (And.intro (by decide) (by decide)) mlRX4_66 dX4_letFall_44 (As := [.ref 37, .int x2, .int x3]) (rest := []) rfl rfl rfl (Nat.le_of_ble_eq_true rfl) ?_
      exact h
set_option maxHeartbeats 4000000 in
set_option maxRecDepth 20000 in
theorem bX4_letFall_5 {X : CX} {Q : State → Prop} {M : Mem} {G2 : Grf} {T2 : List (Nat × Nat)} {x1 s0 : Int32} (C : Ok0 X mX4_letFall (TTc ++ T2))
    (h : WW X Q 6 [(0, .ref 37), (1, .int x1), (2, .int s0)] [] (M, (gj G2), TTc ++ T2)) :
    WW X Q 5 [(0, .ref 37), (1, .int x1)] [.int s0] (M, (gj G2), TTc ++ T2) := by
  refine ww_istore_n C.1 dX4_letFall_5 rfl (by decide) [1, 2, 0] (L' := [(0, .ref 37), (1, .int x1), (2, .int s0)]) rfl ?_
  exact h
set_option maxHeartbeats 4000000 in
set_option maxRecDepth 20000 in
theorem bX4_letFall_47 {X : CX} {Q : State → Prop} {M : Mem} {G2 : Grf} {T2 : List (Nat × Nat)} {x1 x2 x3 : Int32} (C : Ok0 X mX4_letFall (TTc ++ T2))
    (h : WW X Q 18 [(0, .ref 37), (1, .int x1), (2, .int x2), (3, .int (x3 + (1 : Int32)))] [] (M, (gj G2), TTc ++ T2)) :
    WW X Q 47 [(0, .ref 37), (1, .int x1), (2, .int x2), (3, .int x3)] [] (M, (gj G2), TTc ++ T2) := by
  refine ww_iinc C.1 (v := (x3 + (1 : Int32))) dX4_letFall_47 3 rfl (by rfl) (by decide) [1, 2, 3, 0] (L' := [(0, .ref 37), (1, .int x1), (2, .int x2), (3, .int (x3 + (1 : Int32)))]) rfl ?_
  refine ww_goto C.1 (tgt := 18) dX4_letFall_50 (by decide) ?_
  exact h
set_option maxHeartbeats 4000000 in
set_option maxRecDepth 20000 in
theorem bX4_turnRound_0 {X : CX} {Q : State → Prop} {M : Mem} {G2 : Grf} {T2 : List (Nat × Nat)} {x1 : Int32} (C : Ok0 X mX4_turnRound (TTc ++ T2))
    (h : WW X Q 9 [(0, .ref 37), (1, .int x1), (2, .int x1), (3, .int ((M 37 6) - (1 : Int32)))] [] (M, (gj G2), TTc ++ T2)) :
    WW X Q 0 [(0, .ref 37), (1, .int x1)] [] (M, (gj G2), TTc ++ T2) := by
  refine ww_iload_n C.1 dX4_turnRound_0 1 rfl rfl ?_
  refine ww_istore_n C.1 dX4_turnRound_1 rfl (by decide) [1, 2, 0] (L' := [(0, .ref 37), (1, .int x1), (2, .int x1)]) rfl ?_
  refine ww_aload_n C.1 dX4_turnRound_2 0 rfl rfl ?_
  refine wt_getI C.1 dX4_turnRound_3 flRX4_33 (tc37 T2) rfl ?_
  refine ww_iconst C.1 (v := (1 : Int32)) dX4_turnRound_6 (by decide) ?_
  refine ww_isub C.1 dX4_turnRound_7 ?_
  refine ww_istore_n C.1 dX4_turnRound_8 rfl (by decide) [1, 2, 3, 0] (L' := [(0, .ref 37), (1, .int x1), (2, .int x1), (3, .int ((M 37 6) - (1 : Int32)))]) rfl ?_
  exact h
set_option maxHeartbeats 4000000 in
set_option maxRecDepth 20000 in
theorem bX4_turnRound_9 {X : CX} {Q : State → Prop} {M : Mem} {G2 : Grf} {T2 : List (Nat × Nat)} {x1 x2 x3 : Int32} (C : Ok0 X mX4_turnRound (TTc ++ T2))
    (h : ((x3 ≤ x2 → RetOK X Q (none) (M, (gj G2), TTc ++ T2)) ∧ (¬ x3 ≤ x2 → WpV mX4_swap [.ref 37, .int x2, .int x3] M (gj G2) (TTc ++ T2) (fun M' => WW X Q 20 [(0, .ref 37), (1, .int x1), (2, .int x2), (3, .int x3)] [] (M', (gj G2), TTc ++ T2))))) :
    WW X Q 9 [(0, .ref 37), (1, .int x1), (2, .int x2), (3, .int x3)] [] (M, (gj G2), TTc ++ T2) := by
  refine ww_iload_n C.1 dX4_turnRound_9 2 rfl rfl ?_
  refine ww_iload_n C.1 dX4_turnRound_10 3 rfl rfl ?_
  refine ww_icmp_ge (x := x2) (y := x3) C.1 (tgt := 29) dX4_turnRound_11 (by decide) (fun hh => ?_) (fun hh => ?_)
  · replace h := h.1 hh
    refine ww_vret C.1 dX4_turnRound_29 rfl ?_
    exact h
  · replace h := h.2 hh
    refine ww_aload_n C.1 dX4_turnRound_14 0 rfl rfl ?_
    refine ww_iload_n C.1 dX4_turnRound_15 2 rfl rfl ?_
    refine ww_iload_n C.1 dX4_turnRound_16 3 rfl rfl ?_
    refine ww_sV C fX4_swap (And.intro (by decide) (by decide)) mlRX4_66 dX4_turnRound_17 (As := [.ref 37, .int x2, .int x3]) (rest := []) rfl rfl rfl (Nat.le_of_ble_eq_true rfl) ?_
    exact h
set_option maxHeartbeats 4000000 in
set_option maxRecDepth 20000 in
theorem bX4_turnRound_20 {X : CX} {Q : State → Prop} {M : Mem} {G2 : Grf} {T2 : List (Nat × Nat)} {x1 x2 x3 : Int32} (C : Ok0 X mX4_turnRound (TTc ++ T2))
    (h : WW X Q 9 [(0, .ref 37), (1, .int x1), (2, .int (x2 + (1 : Int32))), (3, .int (x3 + (-1 : Int32)))] [] (M, (gj G2), TTc ++ T2)) :
    WW X Q 20 [(0, .ref 37), (1, .int x1), (2, .int x2), (3, .int x3)] [] (M, (gj G2), TTc ++ T2) := by
  refine ww_iinc C.1 (v := (x2 + (1 : Int32))) dX4_turnRound_20 2 rfl (by rfl) (by decide) [1, 2, 0, 3] (L' := [(0, .ref 37), (1, .int x1), (2, .int (x2 + (1 : Int32))), (3, .int x3)]) rfl ?_
  refine ww_iinc C.1 (v := (x3 + (-1 : Int32))) dX4_turnRound_23 3 rfl (by rfl) (by decide) [1, 2, 3, 0] (L' := [(0, .ref 37), (1, .int x1), (2, .int (x2 + (1 : Int32))), (3, .int (x3 + (-1 : Int32)))]) rfl ?_
  refine ww_goto C.1 (tgt := 9) dX4_turnRound_26 (by decide) ?_
  exact h
set_option maxHeartbeats 4000000 in
set_option maxRecDepth 20000 in
theorem bX4_swap_0 {X : CX} {Q : State → Prop} {M : Mem} {G2 : Grf} {T2 : List (Nat × Nat)} {x1 x2 : Int32} (C : Ok0 X mX4_swap (TTc ++ T2))
    (h : ((x1 < (0 : Int32) → RetOK X Q (none) (M, (gj G2), TTc ++ T2)) ∧ (¬ x1 < (0 : Int32) → (((M 37 6) ≤ x1 → RetOK X Q (none) (M, (gj G2), TTc ++ T2)) ∧ (¬ (M 37 6) ≤ x1 → ((x2 < (0 : Int32) → RetOK X Q (none) (M, (gj G2), TTc ++ T2)) ∧ (¬ x2 < (0 : Int32) → (((M 37 6) ≤ x2 → RetOK X Q (none) (M, (gj G2), TTc ++ T2)) ∧ (¬ (M 37 6) ≤ x2 → (vp_in x1 7 ∧ (vp_in x2 7 ∧ (vp_in x1 7 ∧ (vp_in x2 7 ∧ RetOK X Q (none) ((wr (wr M 43 x1.toNatClampNeg (M 43 x2.toNatClampNeg)) 43 x2.toNatClampNeg (M 43 x1.toNatClampNeg)), (gj G2), TTc ++ T2)))))))))))))) :
    WW X Q 0 [(0, .ref 37), (1, .int x1), (2, .int x2)] [] (M, (gj G2), TTc ++ T2) := by
  refine ww_aload_n C.1 dX4_swap_0 0 rfl rfl ?_
  refine ww_iload_n C.1 dX4_swap_1 1 rfl rfl ?_
  refine ww_vI C fX5_has (And.intro (by decide) (by decide)) mlRX4_79 dX4_swap_2 (tc37 T2) (by decide) rfl (As := [.int x1]) (rest := []) rfl rfl rfl (Nat.le_of_ble_eq_true rfl) (WpI.of (L0 := [(0, .ref 37), (1, .int x1)]) rfl rfl (Nat.le_of_ble_eq_true rfl) fun X1 Q1 C1 k1 => ?_)
  refine ww_iload_n C1.1 dX5_has_0 1 rfl rfl ?_
  refine ww_if_lt (x := x1) C1.1 (tgt := 16) dX5_has_1 (by decide) (fun hh => ?_) (fun hh => ?_)
  · replace h := h.1 hh
    refine ww_iconst C1.1 (v := (0 : Int32)) dX5_has_16 (by decide) ?_
    refine ww_zret C1.1 dX5_has_17 rfl (Or.inl rfl) ?_
    refine k1 _ _ ?_
    refine ww_if_eq (x := (0 : Int32)) C.1 (tgt := 42) dX4_swap_5 (by decide) (fun _ => ?_) (fun hh => absurd hh (by decide))
    refine ww_vret C.1 dX4_swap_42 rfl ?_
    exact h
  · replace h := h.2 hh
    refine ww_iload_n C1.1 dX5_has_4 1 rfl rfl ?_
    refine ww_aload_n C1.1 dX5_has_5 0 rfl rfl ?_
    refine wt_getI C1.1 dX5_has_6 flRX5_30 (tc37 T2) rfl ?_
    refine ww_icmp_ge (x := x1) (y := (M 37 6)) C1.1 (tgt := 16) dX5_has_9 (by decide) (fun hh => ?_) (fun hh => ?_)
    · replace h := h.1 hh
      refine ww_iconst C1.1 (v := (0 : Int32)) dX5_has_16 (by decide) ?_
      refine ww_zret C1.1 dX5_has_17 rfl (Or.inl rfl) ?_
      refine k1 _ _ ?_
      refine ww_if_eq (x := (0 : Int32)) C.1 (tgt := 42) dX4_swap_5 (by decide) (fun _ => ?_) (fun hh => absurd hh (by decide))
      refine ww_vret C.1 dX4_swap_42 rfl ?_
      exact h
    · replace h := h.2 hh
      refine ww_iconst C1.1 (v := (1 : Int32)) dX5_has_12 (by decide) ?_
      refine ww_goto C1.1 (tgt := 17) dX5_has_13 (by decide) ?_
      refine ww_zret C1.1 dX5_has_17 rfl (Or.inr rfl) ?_
      refine k1 _ _ ?_
      refine ww_if_eq (x := (1 : Int32)) C.1 (tgt := 42) dX4_swap_5 (by decide) (fun hh => absurd hh (by decide)) (fun _ => ?_)
      refine ww_aload_n C.1 dX4_swap_8 0 rfl rfl ?_
      refine ww_iload_n C.1 dX4_swap_9 2 rfl rfl ?_
      refine ww_vI C fX5_has (And.intro (by decide) (by decide)) mlRX4_79 dX4_swap_10 (tc37 T2) (by decide) rfl (As := [.int x2]) (rest := []) rfl rfl rfl (Nat.le_of_ble_eq_true rfl) (WpI.of (L0 := [(0, .ref 37), (1, .int x2)]) rfl rfl (Nat.le_of_ble_eq_true rfl) fun X2 Q2 C2 k2 => ?_)
      refine ww_iload_n C2.1 dX5_has_0 1 rfl rfl ?_
      refine ww_if_lt (x := x2) C2.1 (tgt := 16) dX5_has_1 (by decide) (fun hh => ?_) (fun hh => ?_)
      · replace h := h.1 hh
        refine ww_iconst C2.1 (v := (0 : Int32)) dX5_has_16 (by decide) ?_
        refine ww_zret C2.1 dX5_has_17 rfl (Or.inl rfl) ?_
        refine k2 _ _ ?_
        refine ww_if_eq (x := (0 : Int32)) C.1 (tgt := 42) dX4_swap_13 (by decide) (fun _ => ?_) (fun hh => absurd hh (by decide))
        refine ww_vret C.1 dX4_swap_42 rfl ?_
        exact h
      · replace h := h.2 hh
        refine ww_iload_n C2.1 dX5_has_4 1 rfl rfl ?_
        refine ww_aload_n C2.1 dX5_has_5 0 rfl rfl ?_
        refine wt_getI C2.1 dX5_has_6 flRX5_30 (tc37 T2) rfl ?_
        refine ww_icmp_ge (x := x2) (y := (M 37 6)) C2.1 (tgt := 16) dX5_has_9 (by decide) (fun hh => ?_) (fun hh => ?_)
        · replace h := h.1 hh
          refine ww_iconst C2.1 (v := (0 : Int32)) dX5_has_16 (by decide) ?_
          refine ww_zret C2.1 dX5_has_17 rfl (Or.inl rfl) ?_
          refine k2 _ _ ?_
          refine ww_if_eq (x := (0 : Int32)) C.1 (tgt := 42) dX4_swap_13 (by decide) (fun _ => ?_) (fun hh => absurd hh (by decide))
          refine ww_vret C.1 dX4_swap_42 rfl ?_
          exact h
        · replace h := h.2 hh
          refine ww_iconst C2.1 (v := (1 : Int32)) dX5_has_12 (by decide) ?_
          refine ww_goto C2.1 (tgt := 17) dX5_has_13 (by decide) ?_
          refine ww_zret C2.1 dX5_has_17 rfl (Or.inr rfl) ?_
          refine k2 _ _ ?_
          refine ww_if_eq (x := (1 : Int32)) C.1 (tgt := 42) dX4_swap_13 (by decide) (fun hh => absurd hh (by decide)) (fun _ => ?_)
          refine ww_aload_n C.1 dX4_swap_16 0 rfl rfl ?_
          refine wt_getR C.1 dX4_swap_17 flRX4_24 (tc37 T2) rfl (gg37_5 G2) ?_
          refine ww_iload_n C.1 dX4_swap_20 1 rfl rfl ?_
          refine wt_iald C.1 dX4_swap_21 (tc43 T2) h.1 ?_
          replace h := h.2
          refine ww_istore_n C.1 dX4_swap_22 rfl (by decide) [1, 2, 3, 0] (L' := [(0, .ref 37), (1, .int x1), (2, .int x2), (3, .int (M 43 x1.toNatClampNeg))]) rfl ?_
          refine ww_aload_n C.1 dX4_swap_23 0 rfl rfl ?_
          refine wt_getR C.1 dX4_swap_24 flRX4_24 (tc37 T2) rfl (gg37_5 G2) ?_
          refine ww_iload_n C.1 dX4_swap_27 1 rfl rfl ?_
          refine ww_aload_n C.1 dX4_swap_28 0 rfl rfl ?_
          refine wt_getR C.1 dX4_swap_29 flRX4_24 (tc37 T2) rfl (gg37_5 G2) ?_
          refine ww_iload_n C.1 dX4_swap_32 2 rfl rfl ?_
          refine wt_iald C.1 dX4_swap_33 (tc43 T2) h.1 ?_
          replace h := h.2
          refine wt_iast C.1 dX4_swap_34 (tc43 T2) h.1 ?_
          replace h := h.2
          refine ww_aload_n C.1 dX4_swap_35 0 rfl rfl ?_
          refine wt_getR C.1 dX4_swap_36 flRX4_24 (tc37 T2) rfl (gg37_5 G2) ?_
          refine ww_iload_n C.1 dX4_swap_39 2 rfl rfl ?_
          refine ww_iload_n C.1 dX4_swap_40 3 rfl rfl ?_
          refine wt_iast C.1 dX4_swap_41 (tc43 T2) h.1 ?_
          replace h := h.2
          refine ww_vret C.1 dX4_swap_42 rfl ?_
          exact h
set_option maxHeartbeats 4000000 in
set_option maxRecDepth 20000 in
theorem bX5_everyone_0 {X : CX} {Q : State → Prop} {M : Mem} {G2 : Grf} {T2 : List (Nat × Nat)} (C : Ok0 X mX5_everyone (TTc ++ T2))
    (h : RetOK X Q (some (.int (((1 : Int32) <<< ((M 37 6) &&& 31)) - (1 : Int32)))) (M, (gj G2), TTc ++ T2)) :
    WW X Q 0 [(0, .ref 37)] [] (M, (gj G2), TTc ++ T2) := by
  refine ww_iconst C.1 (v := (1 : Int32)) dX5_everyone_0 (by decide) ?_
  refine ww_aload_n C.1 dX5_everyone_1 0 rfl rfl ?_
  refine wt_getI C.1 dX5_everyone_2 flRX5_30 (tc37 T2) rfl ?_
  refine ww_ishl C.1 dX5_everyone_5 ?_
  refine ww_iconst C.1 (v := (1 : Int32)) dX5_everyone_6 (by decide) ?_
  refine ww_isub C.1 dX5_everyone_7 ?_
  refine ww_iret C.1 dX5_everyone_8 rfl ?_
  exact h
set_option maxHeartbeats 4000000 in
set_option maxRecDepth 20000 in
theorem bX5_add_0 {X : CX} {Q : State → Prop} {M : Mem} {G2 : Grf} {T2 : List (Nat × Nat)} {x1 x2 x3 : Int32} (C : Ok0 X mX5_add (TTc ++ T2))
    (h : (((M 49 6) < (7 : Int32) → (vp_in (M 49 6) 7 ∧ (vp_in (M 49 6) 7 ∧ (vp_in (M 49 6) 7 ∧ (vp_in (M 49 6) 7 ∧ (vp_in (M 49 6) 7 ∧ (vp_in (M 49 6) 7 ∧ RetOK X Q (some (.int (1 : Int32))) ((wr (wr (wr (wr (wr (wr (wr M 50 (M 49 6).toNatClampNeg x1) 51 (M 49 6).toNatClampNeg x2) 52 (M 49 6).toNatClampNeg x3) 53 (M 49 6).toNatClampNeg (0 : Int32)) 54 (M 49 6).toNatClampNeg (0 : Int32)) 55 (M 49 6).toNatClampNeg (M 49 6)) 49 6 ((M 49 6) + (1 : Int32))), (gj G2), TTc ++ T2)))))))) ∧ (¬ (M 49 6) < (7 : Int32) → RetOK X Q (some (.int (0 : Int32))) (M, (gj G2), TTc ++ T2)))) :
    WW X Q 0 [(0, .ref 49), (1, .int x1), (2, .int x2), (3, .int x3)] [] (M, (gj G2), TTc ++ T2) := by
  refine ww_aload_n C.1 dX5_add_0 0 rfl rfl ?_
  refine wt_getI C.1 dX5_add_1 flRX5_30 (tc49 T2) rfl ?_
  refine ww_bipush C.1 (v := (7 : Int32)) dX5_add_4 (by decide) ?_
  refine ww_icmp_lt (x := (M 49 6)) (y := (7 : Int32)) C.1 (tgt := 11) dX5_add_6 (by decide) (fun hh => ?_) (fun hh => ?_)
  · replace h := h.1 hh
    refine ww_aload_n C.1 dX5_add_11 0 rfl rfl ?_
    refine wt_getR C.1 dX5_add_12 flRX5_9 (tc49 T2) rfl (gg49_0 G2) ?_
    refine ww_aload_n C.1 dX5_add_15 0 rfl rfl ?_
    refine wt_getI C.1 dX5_add_16 flRX5_30 (tc49 T2) rfl ?_
    refine ww_iload_n C.1 dX5_add_19 1 rfl rfl ?_
    refine wt_iast C.1 dX5_add_20 (tc50 T2) h.1 ?_
    replace h := h.2
    refine ww_aload_n C.1 dX5_add_21 0 rfl rfl ?_
    refine wt_getR C.1 dX5_add_22 flRX5_15 (tc49 T2) rfl (gg49_1 G2) ?_
    refine ww_aload_n C.1 dX5_add_25 0 rfl rfl ?_
    refine wt_getI C.1 dX5_add_26 flRX5_30 (tc49 T2) rfl ?_
    refine ww_iload_n C.1 dX5_add_29 2 rfl rfl ?_
    refine wt_iast C.1 dX5_add_30 (tc51 T2) h.1 ?_
    replace h := h.2
    refine ww_aload_n C.1 dX5_add_31 0 rfl rfl ?_
    refine wt_getR C.1 dX5_add_32 flRX5_18 (tc49 T2) rfl (gg49_2 G2) ?_
    refine ww_aload_n C.1 dX5_add_35 0 rfl rfl ?_
    refine wt_getI C.1 dX5_add_36 flRX5_30 (tc49 T2) rfl ?_
    refine ww_iload_n C.1 dX5_add_39 3 rfl rfl ?_
    refine wt_iast C.1 dX5_add_40 (tc52 T2) h.1 ?_
    replace h := h.2
    refine ww_aload_n C.1 dX5_add_41 0 rfl rfl ?_
    refine wt_getR C.1 dX5_add_42 flRX5_21 (tc49 T2) rfl (gg49_3 G2) ?_
    refine ww_aload_n C.1 dX5_add_45 0 rfl rfl ?_
    refine wt_getI C.1 dX5_add_46 flRX5_30 (tc49 T2) rfl ?_
    refine ww_iconst C.1 (v := (0 : Int32)) dX5_add_49 (by decide) ?_
    refine wt_iast C.1 dX5_add_50 (tc53 T2) h.1 ?_
    replace h := h.2
    refine ww_aload_n C.1 dX5_add_51 0 rfl rfl ?_
    refine wt_getR C.1 dX5_add_52 flRX5_24 (tc49 T2) rfl (gg49_4 G2) ?_
    refine ww_aload_n C.1 dX5_add_55 0 rfl rfl ?_
    refine wt_getI C.1 dX5_add_56 flRX5_30 (tc49 T2) rfl ?_
    refine ww_iconst C.1 (v := (0 : Int32)) dX5_add_59 (by decide) ?_
    refine wt_iast C.1 dX5_add_60 (tc54 T2) h.1 ?_
    replace h := h.2
    refine ww_aload_n C.1 dX5_add_61 0 rfl rfl ?_
    refine wt_getR C.1 dX5_add_62 flRX5_27 (tc49 T2) rfl (gg49_5 G2) ?_
    refine ww_aload_n C.1 dX5_add_65 0 rfl rfl ?_
    refine wt_getI C.1 dX5_add_66 flRX5_30 (tc49 T2) rfl ?_
    refine ww_aload_n C.1 dX5_add_69 0 rfl rfl ?_
    refine wt_getI C.1 dX5_add_70 flRX5_30 (tc49 T2) rfl ?_
    refine wt_iast C.1 dX5_add_73 (tc55 T2) h.1 ?_
    replace h := h.2
    refine ww_aload_n C.1 dX5_add_74 0 rfl rfl ?_
    refine ww_dup C.1 dX5_add_75 rfl ?_
    refine wt_getI C.1 dX5_add_76 flRX5_30 (tc49 T2) rfl ?_
    refine ww_iconst C.1 (v := (1 : Int32)) dX5_add_79 (by decide) ?_
    refine ww_iadd C.1 dX5_add_80 ?_
    refine wt_putI C.1 dX5_add_81 flRX5_30 (tc49 T2) rfl ?_
    refine ww_iconst C.1 (v := (1 : Int32)) dX5_add_84 (by decide) ?_
    refine ww_zret C.1 dX5_add_85 rfl (Or.inr rfl) ?_
    exact h
  · replace h := h.2 hh
    refine ww_iconst C.1 (v := (0 : Int32)) dX5_add_9 (by decide) ?_
    refine ww_zret C.1 dX5_add_10 rfl (Or.inl rfl) ?_
    exact h
set_option maxHeartbeats 4000000 in
set_option maxRecDepth 20000 in
theorem bX5_befriend_0 {X : CX} {Q : State → Prop} {M : Mem} {G2 : Grf} {T2 : List (Nat × Nat)} {x1 x2 : Int32} (C : Ok0 X mX5_befriend (TTc ++ T2))
    (h : ((x1 < (0 : Int32) → RetOK X Q (some (.int (0 : Int32))) (M, (gj G2), TTc ++ T2)) ∧ (¬ x1 < (0 : Int32) → (((M 49 6) ≤ x1 → RetOK X Q (some (.int (0 : Int32))) (M, (gj G2), TTc ++ T2)) ∧ (¬ (M 49 6) ≤ x1 → ((x2 < (0 : Int32) → RetOK X Q (some (.int (0 : Int32))) (M, (gj G2), TTc ++ T2)) ∧ (¬ x2 < (0 : Int32) → (((M 49 6) ≤ x2 → RetOK X Q (some (.int (0 : Int32))) (M, (gj G2), TTc ++ T2)) ∧ (¬ (M 49 6) ≤ x2 → ((¬ x1 = x2 → (vp_in x1 7 ∧ (vp_in x1 7 ∧ RetOK X Q (some (.int (1 : Int32))) ((wr M 53 x1.toNatClampNeg ((M 53 x1.toNatClampNeg) ||| ((1 : Int32) <<< (x2 &&& 31)))), (gj G2), TTc ++ T2)))) ∧ (x1 = x2 → RetOK X Q (some (.int (0 : Int32))) (M, (gj G2), TTc ++ T2)))))))))))) :
    WW X Q 0 [(0, .ref 49), (1, .int x1), (2, .int x2)] [] (M, (gj G2), TTc ++ T2) := by
  refine ww_aload_n C.1 dX5_befriend_0 0 rfl rfl ?_
  refine ww_iload_n C.1 dX5_befriend_1 1 rfl rfl ?_
  refine ww_vI C fX5_has (And.intro (by decide) (by decide)) mlRX5_34 dX5_befriend_2 (tc49 T2) (by decide) rfl (As := [.int x1]) (rest := []) rfl rfl rfl (Nat.le_of_ble_eq_true rfl) (WpI.of (L0 := [(0, .ref 49), (1, .int x1)]) rfl rfl (Nat.le_of_ble_eq_true rfl) fun X1 Q1 C1 k1 => ?_)
  refine ww_iload_n C1.1 dX5_has_0 1 rfl rfl ?_
  refine ww_if_lt (x := x1) C1.1 (tgt := 16) dX5_has_1 (by decide) (fun hh => ?_) (fun hh => ?_)
  · replace h := h.1 hh
    refine ww_iconst C1.1 (v := (0 : Int32)) dX5_has_16 (by decide) ?_
    refine ww_zret C1.1 dX5_has_17 rfl (Or.inl rfl) ?_
    refine k1 _ _ ?_
    refine ww_if_eq (x := (0 : Int32)) C.1 (tgt := 21) dX5_befriend_5 (by decide) (fun _ => ?_) (fun hh => absurd hh (by decide))
    refine ww_iconst C.1 (v := (0 : Int32)) dX5_befriend_21 (by decide) ?_
    refine ww_zret C.1 dX5_befriend_22 rfl (Or.inl rfl) ?_
    exact h
  · replace h := h.2 hh
    refine ww_iload_n C1.1 dX5_has_4 1 rfl rfl ?_
    refine ww_aload_n C1.1 dX5_has_5 0 rfl rfl ?_
    refine wt_getI C1.1 dX5_has_6 flRX5_30 (tc49 T2) rfl ?_
    refine ww_icmp_ge (x := x1) (y := (M 49 6)) C1.1 (tgt := 16) dX5_has_9 (by decide) (fun hh => ?_) (fun hh => ?_)
    · replace h := h.1 hh
      refine ww_iconst C1.1 (v := (0 : Int32)) dX5_has_16 (by decide) ?_
      refine ww_zret C1.1 dX5_has_17 rfl (Or.inl rfl) ?_
      refine k1 _ _ ?_
      refine ww_if_eq (x := (0 : Int32)) C.1 (tgt := 21) dX5_befriend_5 (by decide) (fun _ => ?_) (fun hh => absurd hh (by decide))
      refine ww_iconst C.1 (v := (0 : Int32)) dX5_befriend_21 (by decide) ?_
      refine ww_zret C.1 dX5_befriend_22 rfl (Or.inl rfl) ?_
      exact h
    · replace h := h.2 hh
      refine ww_iconst C1.1 (v := (1 : Int32)) dX5_has_12 (by decide) ?_
      refine ww_goto C1.1 (tgt := 17) dX5_has_13 (by decide) ?_
      refine ww_zret C1.1 dX5_has_17 rfl (Or.inr rfl) ?_
      refine k1 _ _ ?_
      refine ww_if_eq (x := (1 : Int32)) C.1 (tgt := 21) dX5_befriend_5 (by decide) (fun hh => absurd hh (by decide)) (fun _ => ?_)
      refine ww_aload_n C.1 dX5_befriend_8 0 rfl rfl ?_
      refine ww_iload_n C.1 dX5_befriend_9 2 rfl rfl ?_
      refine ww_vI C fX5_has (And.intro (by decide) (by decide)) mlRX5_34 dX5_befriend_10 (tc49 T2) (by decide) rfl (As := [.int x2]) (rest := []) rfl rfl rfl (Nat.le_of_ble_eq_true rfl) (WpI.of (L0 := [(0, .ref 49), (1, .int x2)]) rfl rfl (Nat.le_of_ble_eq_true rfl) fun X2 Q2 C2 k2 => ?_)
      refine ww_iload_n C2.1 dX5_has_0 1 rfl rfl ?_
      refine ww_if_lt (x := x2) C2.1 (tgt := 16) dX5_has_1 (by decide) (fun hh => ?_) (fun hh => ?_)
      · replace h := h.1 hh
        refine ww_iconst C2.1 (v := (0 : Int32)) dX5_has_16 (by decide) ?_
        refine ww_zret C2.1 dX5_has_17 rfl (Or.inl rfl) ?_
        refine k2 _ _ ?_
        refine ww_if_eq (x := (0 : Int32)) C.1 (tgt := 21) dX5_befriend_13 (by decide) (fun _ => ?_) (fun hh => absurd hh (by decide))
        refine ww_iconst C.1 (v := (0 : Int32)) dX5_befriend_21 (by decide) ?_
        refine ww_zret C.1 dX5_befriend_22 rfl (Or.inl rfl) ?_
        exact h
      · replace h := h.2 hh
        refine ww_iload_n C2.1 dX5_has_4 1 rfl rfl ?_
        refine ww_aload_n C2.1 dX5_has_5 0 rfl rfl ?_
        refine wt_getI C2.1 dX5_has_6 flRX5_30 (tc49 T2) rfl ?_
        refine ww_icmp_ge (x := x2) (y := (M 49 6)) C2.1 (tgt := 16) dX5_has_9 (by decide) (fun hh => ?_) (fun hh => ?_)
        · replace h := h.1 hh
          refine ww_iconst C2.1 (v := (0 : Int32)) dX5_has_16 (by decide) ?_
          refine ww_zret C2.1 dX5_has_17 rfl (Or.inl rfl) ?_
          refine k2 _ _ ?_
          refine ww_if_eq (x := (0 : Int32)) C.1 (tgt := 21) dX5_befriend_13 (by decide) (fun _ => ?_) (fun hh => absurd hh (by decide))
          refine ww_iconst C.1 (v := (0 : Int32)) dX5_befriend_21 (by decide) ?_
          refine ww_zret C.1 dX5_befriend_22 rfl (Or.inl rfl) ?_
          exact h
        · replace h := h.2 hh
          refine ww_iconst C2.1 (v := (1 : Int32)) dX5_has_12 (by decide) ?_
          refine ww_goto C2.1 (tgt := 17) dX5_has_13 (by decide) ?_
          refine ww_zret C2.1 dX5_has_17 rfl (Or.inr rfl) ?_
          refine k2 _ _ ?_
          refine ww_if_eq (x := (1 : Int32)) C.1 (tgt := 21) dX5_befriend_13 (by decide) (fun hh => absurd hh (by decide)) (fun _ => ?_)
          refine ww_iload_n C.1 dX5_befriend_16 1 rfl rfl ?_
          refine ww_iload_n C.1 dX5_befriend_17 2 rfl rfl ?_
          refine ww_icmp_ne (x := x1) (y := x2) C.1 (tgt := 23) dX5_befriend_18 (by decide) (fun hh => ?_) (fun hh => ?_)
          · replace h := h.1 hh
            refine ww_aload_n C.1 dX5_befriend_23 0 rfl rfl ?_
            refine wt_getR C.1 dX5_befriend_24 flRX5_21 (tc49 T2) rfl (gg49_3 G2) ?_
            refine ww_iload_n C.1 dX5_befriend_27 1 rfl rfl ?_
            refine ww_dup2 C.1 dX5_befriend_28 rfl rfl ?_
            refine wt_iald C.1 dX5_befriend_29 (tc53 T2) h.1 ?_
            replace h := h.2
            refine ww_iconst C.1 (v := (1 : Int32)) dX5_befriend_30 (by decide) ?_
            refine ww_iload_n C.1 dX5_befriend_31 2 rfl rfl ?_
            refine ww_ishl C.1 dX5_befriend_32 ?_
            refine ww_ior C.1 dX5_befriend_33 ?_
            refine wt_iast C.1 dX5_befriend_34 (tc53 T2) h.1 ?_
            replace h := h.2
            refine ww_iconst C.1 (v := (1 : Int32)) dX5_befriend_35 (by decide) ?_
            refine ww_zret C.1 dX5_befriend_36 rfl (Or.inr rfl) ?_
            exact h
          · replace h := h.2 hh
            refine ww_iconst C.1 (v := (0 : Int32)) dX5_befriend_21 (by decide) ?_
            refine ww_zret C.1 dX5_befriend_22 rfl (Or.inl rfl) ?_
            exact h
set_option maxHeartbeats 4000000 in
set_option maxRecDepth 20000 in
theorem bX5_hereBy_0 {X : CX} {Q : State → Prop} {M : Mem} {G2 : Grf} {T2 : List (Nat × Nat)} {x1 : Int32} (C : Ok0 X mX5_hereBy (TTc ++ T2))
    (h : WW X Q 4 [(0, .ref 37), (1, .int x1), (2, .int (0 : Int32)), (3, .int (0 : Int32))] [] (M, (gj G2), TTc ++ T2)) :
    WW X Q 0 [(0, .ref 37), (1, .int x1)] [] (M, (gj G2), TTc ++ T2) := by
  refine ww_iconst C.1 (v := (0 : Int32)) dX5_hereBy_0 (by decide) ?_
  refine ww_istore_n C.1 dX5_hereBy_1 rfl (by decide) [1, 2, 0] (L' := [(0, .ref 37), (1, .int x1), (2, .int (0 : Int32))]) rfl ?_
  refine ww_iconst C.1 (v := (0 : Int32)) dX5_hereBy_2 (by decide) ?_
  refine ww_istore_n C.1 dX5_hereBy_3 rfl (by decide) [1, 2, 3, 0] (L' := [(0, .ref 37), (1, .int x1), (2, .int (0 : Int32)), (3, .int (0 : Int32))]) rfl ?_
  exact h
set_option maxHeartbeats 4000000 in
set_option maxRecDepth 20000 in
theorem bX5_hereBy_4 {X : CX} {Q : State → Prop} {M : Mem} {G2 : Grf} {T2 : List (Nat × Nat)} {x1 x2 x3 : Int32} (C : Ok0 X mX5_hereBy (TTc ++ T2))
    (h : (((M 37 6) ≤ x3 → RetOK X Q (some (.int x2)) (M, (gj G2), TTc ++ T2)) ∧ (¬ (M 37 6) ≤ x3 → (vp_in x3 7 ∧ ((x1 < (M 39 x3.toNatClampNeg) → WW X Q 4 [(0, .ref 37), (1, .int x1), (2, .int x2), (3, .int (x3 + (1 : Int32)))] [] (M, (gj G2), TTc ++ T2)) ∧ (¬ x1 < (M 39 x3.toNatClampNeg) → WW X Q 4 [(0, .ref 37), (1, .int x1), (2, .int (x2 ||| ((1 : Int32) <<< (x3 &&& 31)))), (3, .int (x3 + (1 : Int32)))] [] (M, (gj G2), TTc ++ T2))))))) :
    WW X Q 4 [(0, .ref 37), (1, .int x1), (2, .int x2), (3, .int x3)] [] (M, (gj G2), TTc ++ T2) := by
  refine ww_iload_n C.1 dX5_hereBy_4 3 rfl rfl ?_
  refine ww_aload_n C.1 dX5_hereBy_5 0 rfl rfl ?_
  refine wt_getI C.1 dX5_hereBy_6 flRX5_30 (tc37 T2) rfl ?_
  refine ww_icmp_ge (x := x3) (y := (M 37 6)) C.1 (tgt := 34) dX5_hereBy_9 (by decide) (fun hh => ?_) (fun hh => ?_)
  · replace h := h.1 hh
    refine ww_iload_n C.1 dX5_hereBy_34 2 rfl rfl ?_
    refine ww_iret C.1 dX5_hereBy_35 rfl ?_
    exact h
  · replace h := h.2 hh
    refine ww_aload_n C.1 dX5_hereBy_12 0 rfl rfl ?_
    refine wt_getR C.1 dX5_hereBy_13 flRX5_15 (tc37 T2) rfl (gg37_1 G2) ?_
    refine ww_iload_n C.1 dX5_hereBy_16 3 rfl rfl ?_
    refine wt_iald C.1 dX5_hereBy_17 (tc39 T2) h.1 ?_
    replace h := h.2
    refine ww_iload_n C.1 dX5_hereBy_18 1 rfl rfl ?_
    refine ww_icmp_gt (x := (M 39 x3.toNatClampNeg)) (y := x1) C.1 (tgt := 28) dX5_hereBy_19 (by decide) (fun hh => ?_) (fun hh => ?_)
    · replace h := h.1 hh
      refine ww_iinc C.1 (v := (x3 + (1 : Int32))) dX5_hereBy_28 3 rfl (by rfl) (by decide) [1, 2, 3, 0] (L' := [(0, .ref 37), (1, .int x1), (2, .int x2), (3, .int (x3 + (1 : Int32)))]) rfl ?_
      refine ww_goto C.1 (tgt := 4) dX5_hereBy_31 (by decide) ?_
      exact h
    · replace h := h.2 hh
      refine ww_iload_n C.1 dX5_hereBy_22 2 rfl rfl ?_
      refine ww_iconst C.1 (v := (1 : Int32)) dX5_hereBy_23 (by decide) ?_
      refine ww_iload_n C.1 dX5_hereBy_24 3 rfl rfl ?_
      refine ww_ishl C.1 dX5_hereBy_25 ?_
      refine ww_ior C.1 dX5_hereBy_26 ?_
      refine ww_istore_n C.1 dX5_hereBy_27 rfl (by decide) [1, 2, 0, 3] (L' := [(0, .ref 37), (1, .int x1), (2, .int (x2 ||| ((1 : Int32) <<< (x3 &&& 31)))), (3, .int x3)]) rfl ?_
      refine ww_iinc C.1 (v := (x3 + (1 : Int32))) dX5_hereBy_28 3 rfl (by rfl) (by decide) [1, 2, 3, 0] (L' := [(0, .ref 37), (1, .int x1), (2, .int (x2 ||| ((1 : Int32) <<< (x3 &&& 31)))), (3, .int (x3 + (1 : Int32)))]) rfl ?_
      refine ww_goto C.1 (tgt := 4) dX5_hereBy_31 (by decide) ?_
      exact h
set_option maxHeartbeats 4000000 in
set_option maxRecDepth 20000 in
theorem bX5_harmAt_0 {X : CX} {Q : State → Prop} {M : Mem} {G2 : Grf} {T2 : List (Nat × Nat)} {x1 x2 x3 : Int32} (C : Ok0 X mX5_harmAt (TTc ++ T2))
    (h : ((x1 < (0 : Int32) → RetOK X Q (some (.int (0 : Int32))) (M, (gj G2), TTc ++ T2)) ∧ (¬ x1 < (0 : Int32) → (((M 37 6) ≤ x1 → RetOK X Q (some (.int (0 : Int32))) (M, (gj G2), TTc ++ T2)) ∧ (¬ (M 37 6) ≤ x1 → (vp_in x1 7 ∧ ((¬ (M 40 x1.toNatClampNeg) = (4 : Int32) → (vp_in x1 7 ∧ (vp_in x1 7 ∧ (vp_in x1 7 ∧ WpI mX5_harmBy [.int (M 40 x1.toNatClampNeg), .int ((((M 38 x1.toNatClampNeg) + (M 42 x1.toNatClampNeg)) + (0 : Int32)) - x3)] M (gj G2) (TTc ++ T2) (fun r M' => WW X Q 65 [(0, .ref 37), (1, .int x1), (2, .int x2), (3, .int x3), (4, .int (0 : Int32))] [.int r] (M', (gj G2), TTc ++ T2)))))) ∧ ((M 40 x1.toNatClampNeg) = (4 : Int32) → (vp_in x1 7 ∧ WpI mJ9_max_7cf53 [.int (0 : Int32), .int (x2 - (M 39 x1.toNatClampNeg))] M (gj G2) (TTc ++ T2) (fun r M' => WW X Q 32 [(0, .ref 37), (1, .int x1), (2, .int x2), (3, .int x3)] [.int r] (M', (gj G2), TTc ++ T2))))))))))) :
    WW X Q 0 [(0, .ref 37), (1, .int x1), (2, .int x2), (3, .int x3)] [] (M, (gj G2), TTc ++ T2) := by
  refine ww_aload_n C.1 dX5_harmAt_0 0 rfl rfl ?_
  refine ww_iload_n C.1 dX5_harmAt_1 1 rfl rfl ?_
  refine ww_vI C fX5_has (And.intro (by decide) (by decide)) mlRX5_34 dX5_harmAt_2 (tc37 T2) (by decide) rfl (As := [.int x1]) (rest := []) rfl rfl rfl (Nat.le_of_ble_eq_true rfl) (WpI.of (L0 := [(0, .ref 37), (1, .int x1)]) rfl rfl (Nat.le_of_ble_eq_true rfl) fun X1 Q1 C1 k1 => ?_)
  refine ww_iload_n C1.1 dX5_has_0 1 rfl rfl ?_
  refine ww_if_lt (x := x1) C1.1 (tgt := 16) dX5_has_1 (by decide) (fun hh => ?_) (fun hh => ?_)
  · replace h := h.1 hh
    refine ww_iconst C1.1 (v := (0 : Int32)) dX5_has_16 (by decide) ?_
    refine ww_zret C1.1 dX5_has_17 rfl (Or.inl rfl) ?_
    refine k1 _ _ ?_
    refine ww_if_ne (x := (0 : Int32)) C.1 (tgt := 10) dX5_harmAt_5 (by decide) (fun hh => absurd hh (by decide)) (fun _ => ?_)
    refine ww_iconst C.1 (v := (0 : Int32)) dX5_harmAt_8 (by decide) ?_
    refine ww_iret C.1 dX5_harmAt_9 rfl ?_
    exact h
  · replace h := h.2 hh
    refine ww_iload_n C1.1 dX5_has_4 1 rfl rfl ?_
    refine ww_aload_n C1.1 dX5_has_5 0 rfl rfl ?_
    refine wt_getI C1.1 dX5_has_6 flRX5_30 (tc37 T2) rfl ?_
    refine ww_icmp_ge (x := x1) (y := (M 37 6)) C1.1 (tgt := 16) dX5_has_9 (by decide) (fun hh => ?_) (fun hh => ?_)
    · replace h := h.1 hh
      refine ww_iconst C1.1 (v := (0 : Int32)) dX5_has_16 (by decide) ?_
      refine ww_zret C1.1 dX5_has_17 rfl (Or.inl rfl) ?_
      refine k1 _ _ ?_
      refine ww_if_ne (x := (0 : Int32)) C.1 (tgt := 10) dX5_harmAt_5 (by decide) (fun hh => absurd hh (by decide)) (fun _ => ?_)
      refine ww_iconst C.1 (v := (0 : Int32)) dX5_harmAt_8 (by decide) ?_
      refine ww_iret C.1 dX5_harmAt_9 rfl ?_
      exact h
    · replace h := h.2 hh
      refine ww_iconst C1.1 (v := (1 : Int32)) dX5_has_12 (by decide) ?_
      refine ww_goto C1.1 (tgt := 17) dX5_has_13 (by decide) ?_
      refine ww_zret C1.1 dX5_has_17 rfl (Or.inr rfl) ?_
      refine k1 _ _ ?_
      refine ww_if_ne (x := (1 : Int32)) C.1 (tgt := 10) dX5_harmAt_5 (by decide) (fun _ => ?_) (fun hh => absurd hh (by decide))
      refine ww_aload_n C.1 dX5_harmAt_10 0 rfl rfl ?_
      refine wt_getR C.1 dX5_harmAt_11 flRX5_18 (tc37 T2) rfl (gg37_2 G2) ?_
      refine ww_iload_n C.1 dX5_harmAt_14 1 rfl rfl ?_
      refine wt_iald C.1 dX5_harmAt_15 (tc40 T2) h.1 ?_
      replace h := h.2
      refine ww_iconst C.1 (v := (4 : Int32)) dX5_harmAt_16 (by decide) ?_
      refine ww_icmp_ne (x := (M 40 x1.toNatClampNeg)) (y := (4 : Int32)) C.1 (tgt := 35) dX5_harmAt_17 (by decide) (fun hh => ?_) (fun hh => ?_)
      · replace h := h.1 hh
        refine ww_iconst C.1 (v := (0 : Int32)) dX5_harmAt_35 (by decide) ?_
        refine ww_istore C.1 dX5_harmAt_36 (by decide) [1, 2, 3, 4, 0] (L' := [(0, .ref 37), (1, .int x1), (2, .int x2), (3, .int x3), (4, .int (0 : Int32))]) rfl ?_
        refine ww_aload_n C.1 dX5_harmAt_38 0 rfl rfl ?_
        refine wt_getR C.1 dX5_harmAt_39 flRX5_18 (tc37 T2) rfl (gg37_2 G2) ?_
        refine ww_iload_n C.1 dX5_harmAt_42 1 rfl rfl ?_
        refine wt_iald C.1 dX5_harmAt_43 (tc40 T2) h.1 ?_
        replace h := h.2
        refine ww_aload_n C.1 dX5_harmAt_44 0 rfl rfl ?_
        refine wt_getR C.1 dX5_harmAt_45 flRX5_9 (tc37 T2) rfl (gg37_0 G2) ?_
        refine ww_iload_n C.1 dX5_harmAt_48 1 rfl rfl ?_
        refine wt_iald C.1 dX5_harmAt_49 (tc38 T2) h.1 ?_
        replace h := h.2
        refine ww_aload_n C.1 dX5_harmAt_50 0 rfl rfl ?_
        refine wt_getR C.1 dX5_harmAt_51 flRX5_24 (tc37 T2) rfl (gg37_4 G2) ?_
        refine ww_iload_n C.1 dX5_harmAt_54 1 rfl rfl ?_
        refine wt_iald C.1 dX5_harmAt_55 (tc42 T2) h.1 ?_
        replace h := h.2
        refine ww_iadd C.1 dX5_harmAt_56 ?_
        refine ww_iload C.1 dX5_harmAt_57 4 rfl ?_
        refine ww_iadd C.1 dX5_harmAt_59 ?_
        refine ww_iload_n C.1 dX5_harmAt_60 3 rfl rfl ?_
        refine ww_isub C.1 dX5_harmAt_61 ?_
        refine ww_sI C fX5_harmBy (And.intro (by decide) (by decide)) mlRX5_44 dX5_harmAt_62 (As := [.int (M 40 x1.toNatClampNeg), .int ((((M 38 x1.toNatClampNeg) + (M 42 x1.toNatClampNeg)) + (0 : Int32)) - x3)]) (rest := []) rfl rfl rfl (Nat.le_of_ble_eq_true rfl) ?_
        exact h
      · replace h := h.2 hh
        refine ww_iconst C.1 (v := (0 : Int32)) dX5_harmAt_20 (by decide) ?_
        refine ww_iload_n C.1 dX5_harmAt_21 2 rfl rfl ?_
        refine ww_aload_n C.1 dX5_harmAt_22 0 rfl rfl ?_
        refine wt_getR C.1 dX5_harmAt_23 flRX5_15 (tc37 T2) rfl (gg37_1 G2) ?_
        refine ww_iload_n C.1 dX5_harmAt_26 1 rfl rfl ?_
        refine wt_iald C.1 dX5_harmAt_27 (tc39 T2) h.1 ?_
        replace h := h.2
        refine ww_isub C.1 dX5_harmAt_28 ?_
        refine ww_sI C fJ9_max_7cf53 (And.intro (by decide) (by decide)) mlRX5_38 dX5_harmAt_29 (As := [.int (0 : Int32), .int (x2 - (M 39 x1.toNatClampNeg))]) (rest := []) rfl rfl rfl (Nat.le_of_ble_eq_true rfl) ?_
        exact h
set_option maxHeartbeats 4000000 in
set_option maxRecDepth 20000 in
theorem bX5_harmAt_65 {X : CX} {Q : State → Prop} {M : Mem} {G2 : Grf} {T2 : List (Nat × Nat)} {x1 x2 x3 x4 s0 : Int32} (C : Ok0 X mX5_harmAt (TTc ++ T2))
    (h : RetOK X Q (some (.int s0)) (M, (gj G2), TTc ++ T2)) :
    WW X Q 65 [(0, .ref 37), (1, .int x1), (2, .int x2), (3, .int x3), (4, .int x4)] [.int s0] (M, (gj G2), TTc ++ T2) := by
  refine ww_iret C.1 dX5_harmAt_65 rfl ?_
  exact h
set_option maxHeartbeats 4000000 in
set_option maxRecDepth 20000 in
theorem bX5_harmAt_32 {X : CX} {Q : State → Prop} {M : Mem} {G2 : Grf} {T2 : List (Nat × Nat)} {x1 x2 x3 s0 : Int32} (C : Ok0 X mX5_harmAt (TTc ++ T2))
    (h : (vp_in x1 7 ∧ (vp_in x1 7 ∧ (vp_in x1 7 ∧ WpI mX5_harmBy [.int (M 40 x1.toNatClampNeg), .int ((((M 38 x1.toNatClampNeg) + (M 42 x1.toNatClampNeg)) + s0) - x3)] M (gj G2) (TTc ++ T2) (fun r M' => WW X Q 65 [(0, .ref 37), (1, .int x1), (2, .int x2), (3, .int x3), (4, .int s0)] [.int r] (M', (gj G2), TTc ++ T2)))))) :
    WW X Q 32 [(0, .ref 37), (1, .int x1), (2, .int x2), (3, .int x3)] [.int s0] (M, (gj G2), TTc ++ T2) := by
  refine ww_goto C.1 (tgt := 36) dX5_harmAt_32 (by decide) ?_
  refine ww_istore C.1 dX5_harmAt_36 (by decide) [1, 2, 3, 4, 0] (L' := [(0, .ref 37), (1, .int x1), (2, .int x2), (3, .int x3), (4, .int s0)]) rfl ?_
  refine ww_aload_n C.1 dX5_harmAt_38 0 rfl rfl ?_
  refine wt_getR C.1 dX5_harmAt_39 flRX5_18 (tc37 T2) rfl (gg37_2 G2) ?_
  refine ww_iload_n C.1 dX5_harmAt_42 1 rfl rfl ?_
  refine wt_iald C.1 dX5_harmAt_43 (tc40 T2) h.1 ?_
  replace h := h.2
  refine ww_aload_n C.1 dX5_harmAt_44 0 rfl rfl ?_
  refine wt_getR C.1 dX5_harmAt_45 flRX5_9 (tc37 T2) rfl (gg37_0 G2) ?_
  refine ww_iload_n C.1 dX5_harmAt_48 1 rfl rfl ?_
  refine wt_iald C.1 dX5_harmAt_49 (tc38 T2) h.1 ?_
  replace h := h.2
  refine ww_aload_n C.1 dX5_harmAt_50 0 rfl rfl ?_
  refine wt_getR C.1 dX5_harmAt_51 flRX5_24 (tc37 T2) rfl (gg37_4 G2) ?_
  refine ww_iload_n C.1 dX5_harmAt_54 1 rfl rfl ?_
  refine wt_iald C.1 dX5_harmAt_55 (tc42 T2) h.1 ?_
  replace h := h.2
  refine ww_iadd C.1 dX5_harmAt_56 ?_
  refine ww_iload C.1 dX5_harmAt_57 4 rfl ?_
  refine ww_iadd C.1 dX5_harmAt_59 ?_
  refine ww_iload_n C.1 dX5_harmAt_60 3 rfl rfl ?_
  refine ww_isub C.1 dX5_harmAt_61 ?_
  refine ww_sI C fX5_harmBy (And.intro (by decide) (by decide)) mlRX5_44 dX5_harmAt_62 (As := [.int (M 40 x1.toNatClampNeg), .int ((((M 38 x1.toNatClampNeg) + (M 42 x1.toNatClampNeg)) + s0) - x3)]) (rest := []) rfl rfl rfl (Nat.le_of_ble_eq_true rfl) ?_
  exact h
set_option maxHeartbeats 4000000 in
set_option maxRecDepth 20000 in
theorem bX5_harmBy_0 {X : CX} {Q : State → Prop} {M : Mem} {G2 : Grf} {T2 : List (Nat × Nat)} {x0 x1 : Int32} (C : Ok0 X mX5_harmBy (TTc ++ T2))
    (h : (((0 : Int32) ≤ x1 → WW X Q 11 [(0, .int x0), (1, .int x1), (2, .int x1)] [] (M, (gj G2), TTc ++ T2)) ∧ (¬ (0 : Int32) ≤ x1 → WW X Q 11 [(0, .int x0), (1, .int x1), (2, .int (-x1))] [] (M, (gj G2), TTc ++ T2)))) :
    WW X Q 0 [(0, .int x0), (1, .int x1)] [] (M, (gj G2), TTc ++ T2) := by
  refine ww_iload_n C.1 dX5_harmBy_0 1 rfl rfl ?_
  refine ww_if_ge (x := x1) C.1 (tgt := 9) dX5_harmBy_1 (by decide) (fun hh => ?_) (fun hh => ?_)
  · replace h := h.1 hh
    refine ww_iload_n C.1 dX5_harmBy_9 1 rfl rfl ?_
    refine ww_istore_n C.1 dX5_harmBy_10 rfl (by decide) [1, 2, 0] (L' := [(0, .int x0), (1, .int x1), (2, .int x1)]) rfl ?_
    exact h
  · replace h := h.2 hh
    refine ww_iload_n C.1 dX5_harmBy_4 1 rfl rfl ?_
    refine ww_ineg C.1 dX5_harmBy_5 ?_
    refine ww_goto C.1 (tgt := 10) dX5_harmBy_6 (by decide) ?_
    refine ww_istore_n C.1 dX5_harmBy_10 rfl (by decide) [1, 2, 0] (L' := [(0, .int x0), (1, .int x1), (2, .int (-x1))]) rfl ?_
    exact h
set_option maxHeartbeats 4000000 in
set_option maxRecDepth 20000 in
theorem bX5_harmBy_11 {X : CX} {Q : State → Prop} {M : Mem} {G2 : Grf} {T2 : List (Nat × Nat)} {x0 x1 x2 : Int32} (C : Ok0 X mX5_harmBy (TTc ++ T2))
    (h : ((¬ x0 = (1 : Int32) → ((¬ x0 = (2 : Int32) → ((¬ x0 = (3 : Int32) → RetOK X Q (some (.int x2)) (M, (gj G2), TTc ++ T2)) ∧ (x0 = (3 : Int32) → ((x2 ≤ (2 : Int32) → RetOK X Q (some (.int (0 : Int32))) (M, (gj G2), TTc ++ T2)) ∧ (¬ x2 ≤ (2 : Int32) → RetOK X Q (some (.int (x2 - (2 : Int32)))) (M, (gj G2), TTc ++ T2)))))) ∧ (x0 = (2 : Int32) → (((0 : Int32) ≤ x1 → ((¬ x0 = (3 : Int32) → RetOK X Q (some (.int x2)) (M, (gj G2), TTc ++ T2)) ∧ (x0 = (3 : Int32) → ((x2 ≤ (2 : Int32) → RetOK X Q (some (.int (0 : Int32))) (M, (gj G2), TTc ++ T2)) ∧ (¬ x2 ≤ (2 : Int32) → RetOK X Q (some (.int (x2 - (2 : Int32)))) (M, (gj G2), TTc ++ T2)))))) ∧ (¬ (0 : Int32) ≤ x1 → RetOK X Q (some (.int ((2 : Int32) * x2))) (M, (gj G2), TTc ++ T2)))))) ∧ (x0 = (1 : Int32) → ((x1 ≤ (0 : Int32) → ((¬ x0 = (2 : Int32) → ((¬ x0 = (3 : Int32) → RetOK X Q (some (.int x2)) (M, (gj G2), TTc ++ T2)) ∧ (x0 = (3 : Int32) → ((x2 ≤ (2 : Int32) → RetOK X Q (some (.int (0 : Int32))) (M, (gj G2), TTc ++ T2)) ∧ (¬ x2 ≤ (2 : Int32) → RetOK X Q (some (.int (x2 - (2 : Int32)))) (M, (gj G2), TTc ++ T2)))))) ∧ (x0 = (2 : Int32) → (((0 : Int32) ≤ x1 → ((¬ x0 = (3 : Int32) → RetOK X Q (some (.int x2)) (M, (gj G2), TTc ++ T2)) ∧ (x0 = (3 : Int32) → ((x2 ≤ (2 : Int32) → RetOK X Q (some (.int (0 : Int32))) (M, (gj G2), TTc ++ T2)) ∧ (¬ x2 ≤ (2 : Int32) → RetOK X Q (some (.int (x2 - (2 : Int32)))) (M, (gj G2), TTc ++ T2)))))) ∧ (¬ (0 : Int32) ≤ x1 → RetOK X Q (some (.int ((2 : Int32) * x2))) (M, (gj G2), TTc ++ T2)))))) ∧ (¬ x1 ≤ (0 : Int32) → ((x2 ≤ (6 : Int32) → RetOK X Q (some (.int (0 : Int32))) (M, (gj G2), TTc ++ T2)) ∧ (¬ x2 ≤ (6 : Int32) → RetOK X Q (some (.int (x2 - (6 : Int32)))) (M, (gj G2), TTc ++ T2)))))))) :
    WW X Q 11 [(0, .int x0), (1, .int x1), (2, .int x2)] [] (M, (gj G2), TTc ++ T2) := by
  refine ww_iload_n C.1 dX5_harmBy_11 0 rfl rfl ?_
  refine ww_iconst C.1 (v := (1 : Int32)) dX5_harmBy_12 (by decide) ?_
  refine ww_icmp_ne (x := x0) (y := (1 : Int32)) C.1 (tgt := 35) dX5_harmBy_13 (by decide) (fun hh => ?_) (fun hh => ?_)
  · replace h := h.1 hh
    refine ww_iload_n C.1 dX5_harmBy_35 0 rfl rfl ?_
    refine ww_iconst C.1 (v := (2 : Int32)) dX5_harmBy_36 (by decide) ?_
    refine ww_icmp_ne (x := x0) (y := (2 : Int32)) C.1 (tgt := 48) dX5_harmBy_37 (by decide) (fun hh => ?_) (fun hh => ?_)
    · replace h := h.1 hh
      refine ww_iload_n C.1 dX5_harmBy_48 0 rfl rfl ?_
      refine ww_iconst C.1 (v := (3 : Int32)) dX5_harmBy_49 (by decide) ?_
      refine ww_icmp_ne (x := x0) (y := (3 : Int32)) C.1 (tgt := 66) dX5_harmBy_50 (by decide) (fun hh => ?_) (fun hh => ?_)
      · replace h := h.1 hh
        refine ww_iload_n C.1 dX5_harmBy_66 2 rfl rfl ?_
        refine ww_iret C.1 dX5_harmBy_67 rfl ?_
        exact h
      · replace h := h.2 hh
        refine ww_iload_n C.1 dX5_harmBy_53 2 rfl rfl ?_
        refine ww_iconst C.1 (v := (2 : Int32)) dX5_harmBy_54 (by decide) ?_
        refine ww_icmp_le (x := x2) (y := (2 : Int32)) C.1 (tgt := 64) dX5_harmBy_55 (by decide) (fun hh => ?_) (fun hh => ?_)
        · replace h := h.1 hh
          refine ww_iconst C.1 (v := (0 : Int32)) dX5_harmBy_64 (by decide) ?_
          refine ww_iret C.1 dX5_harmBy_65 rfl ?_
          exact h
        · replace h := h.2 hh
          refine ww_iload_n C.1 dX5_harmBy_58 2 rfl rfl ?_
          refine ww_iconst C.1 (v := (2 : Int32)) dX5_harmBy_59 (by decide) ?_
          refine ww_isub C.1 dX5_harmBy_60 ?_
          refine ww_goto C.1 (tgt := 65) dX5_harmBy_61 (by decide) ?_
          refine ww_iret C.1 dX5_harmBy_65 rfl ?_
          exact h
    · replace h := h.2 hh
      refine ww_iload_n C.1 dX5_harmBy_40 1 rfl rfl ?_
      refine ww_if_ge (x := x1) C.1 (tgt := 48) dX5_harmBy_41 (by decide) (fun hh => ?_) (fun hh => ?_)
      · replace h := h.1 hh
        refine ww_iload_n C.1 dX5_harmBy_48 0 rfl rfl ?_
        refine ww_iconst C.1 (v := (3 : Int32)) dX5_harmBy_49 (by decide) ?_
        refine ww_icmp_ne (x := x0) (y := (3 : Int32)) C.1 (tgt := 66) dX5_harmBy_50 (by decide) (fun hh => ?_) (fun hh => ?_)
        · replace h := h.1 hh
          refine ww_iload_n C.1 dX5_harmBy_66 2 rfl rfl ?_
          refine ww_iret C.1 dX5_harmBy_67 rfl ?_
          exact h
        · replace h := h.2 hh
          refine ww_iload_n C.1 dX5_harmBy_53 2 rfl rfl ?_
          refine ww_iconst C.1 (v := (2 : Int32)) dX5_harmBy_54 (by decide) ?_
          refine ww_icmp_le (x := x2) (y := (2 : Int32)) C.1 (tgt := 64) dX5_harmBy_55 (by decide) (fun hh => ?_) (fun hh => ?_)
          · replace h := h.1 hh
            refine ww_iconst C.1 (v := (0 : Int32)) dX5_harmBy_64 (by decide) ?_
            refine ww_iret C.1 dX5_harmBy_65 rfl ?_
            exact h
          · replace h := h.2 hh
            refine ww_iload_n C.1 dX5_harmBy_58 2 rfl rfl ?_
            refine ww_iconst C.1 (v := (2 : Int32)) dX5_harmBy_59 (by decide) ?_
            refine ww_isub C.1 dX5_harmBy_60 ?_
            refine ww_goto C.1 (tgt := 65) dX5_harmBy_61 (by decide) ?_
            refine ww_iret C.1 dX5_harmBy_65 rfl ?_
            exact h
      · replace h := h.2 hh
        refine ww_iconst C.1 (v := (2 : Int32)) dX5_harmBy_44 (by decide) ?_
        refine ww_iload_n C.1 dX5_harmBy_45 2 rfl rfl ?_
        refine ww_imul C.1 dX5_harmBy_46 ?_
        refine ww_iret C.1 dX5_harmBy_47 rfl ?_
        exact h
  · replace h := h.2 hh
    refine ww_iload_n C.1 dX5_harmBy_16 1 rfl rfl ?_
    refine ww_if_le (x := x1) C.1 (tgt := 35) dX5_harmBy_17 (by decide) (fun hh => ?_) (fun hh => ?_)
    · replace h := h.1 hh
      refine ww_iload_n C.1 dX5_harmBy_35 0 rfl rfl ?_
      refine ww_iconst C.1 (v := (2 : Int32)) dX5_harmBy_36 (by decide) ?_
      refine ww_icmp_ne (x := x0) (y := (2 : Int32)) C.1 (tgt := 48) dX5_harmBy_37 (by decide) (fun hh => ?_) (fun hh => ?_)
      · replace h := h.1 hh
        refine ww_iload_n C.1 dX5_harmBy_48 0 rfl rfl ?_
        refine ww_iconst C.1 (v := (3 : Int32)) dX5_harmBy_49 (by decide) ?_
        refine ww_icmp_ne (x := x0) (y := (3 : Int32)) C.1 (tgt := 66) dX5_harmBy_50 (by decide) (fun hh => ?_) (fun hh => ?_)
        · replace h := h.1 hh
          refine ww_iload_n C.1 dX5_harmBy_66 2 rfl rfl ?_
          refine ww_iret C.1 dX5_harmBy_67 rfl ?_
          exact h
        · replace h := h.2 hh
          refine ww_iload_n C.1 dX5_harmBy_53 2 rfl rfl ?_
          refine ww_iconst C.1 (v := (2 : Int32)) dX5_harmBy_54 (by decide) ?_
          refine ww_icmp_le (x := x2) (y := (2 : Int32)) C.1 (tgt := 64) dX5_harmBy_55 (by decide) (fun hh => ?_) (fun hh => ?_)
          · replace h := h.1 hh
            refine ww_iconst C.1 (v := (0 : Int32)) dX5_harmBy_64 (by decide) ?_
            refine ww_iret C.1 dX5_harmBy_65 rfl ?_
            exact h
          · replace h := h.2 hh
            refine ww_iload_n C.1 dX5_harmBy_58 2 rfl rfl ?_
            refine ww_iconst C.1 (v := (2 : Int32)) dX5_harmBy_59 (by decide) ?_
            refine ww_isub C.1 dX5_harmBy_60 ?_
            refine ww_goto C.1 (tgt := 65) dX5_harmBy_61 (by decide) ?_
            refine ww_iret C.1 dX5_harmBy_65 rfl ?_
            exact h
      · replace h := h.2 hh
        refine ww_iload_n C.1 dX5_harmBy_40 1 rfl rfl ?_
        refine ww_if_ge (x := x1) C.1 (tgt := 48) dX5_harmBy_41 (by decide) (fun hh => ?_) (fun hh => ?_)
        · replace h := h.1 hh
          refine ww_iload_n C.1 dX5_harmBy_48 0 rfl rfl ?_
          refine ww_iconst C.1 (v := (3 : Int32)) dX5_harmBy_49 (by decide) ?_
          refine ww_icmp_ne (x := x0) (y := (3 : Int32)) C.1 (tgt := 66) dX5_harmBy_50 (by decide) (fun hh => ?_) (fun hh => ?_)
          · replace h := h.1 hh
            refine ww_iload_n C.1 dX5_harmBy_66 2 rfl rfl ?_
            refine ww_iret C.1 dX5_harmBy_67 rfl ?_
            exact h
          · replace h := h.2 hh
            refine ww_iload_n C.1 dX5_harmBy_53 2 rfl rfl ?_
            refine ww_iconst C.1 (v := (2 : Int32)) dX5_harmBy_54 (by decide) ?_
            refine ww_icmp_le (x := x2) (y := (2 : Int32)) C.1 (tgt := 64) dX5_harmBy_55 (by decide) (fun hh => ?_) (fun hh => ?_)
            · replace h := h.1 hh
              refine ww_iconst C.1 (v := (0 : Int32)) dX5_harmBy_64 (by decide) ?_
              refine ww_iret C.1 dX5_harmBy_65 rfl ?_
              exact h
            · replace h := h.2 hh
              refine ww_iload_n C.1 dX5_harmBy_58 2 rfl rfl ?_
              refine ww_iconst C.1 (v := (2 : Int32)) dX5_harmBy_59 (by decide) ?_
              refine ww_isub C.1 dX5_harmBy_60 ?_
              refine ww_goto C.1 (tgt := 65) dX5_harmBy_61 (by decide) ?_
              refine ww_iret C.1 dX5_harmBy_65 rfl ?_
              exact h
        · replace h := h.2 hh
          refine ww_iconst C.1 (v := (2 : Int32)) dX5_harmBy_44 (by decide) ?_
          refine ww_iload_n C.1 dX5_harmBy_45 2 rfl rfl ?_
          refine ww_imul C.1 dX5_harmBy_46 ?_
          refine ww_iret C.1 dX5_harmBy_47 rfl ?_
          exact h
    · replace h := h.2 hh
      refine ww_iload_n C.1 dX5_harmBy_20 2 rfl rfl ?_
      refine ww_bipush C.1 (v := (6 : Int32)) dX5_harmBy_21 (by decide) ?_
      refine ww_icmp_le (x := x2) (y := (6 : Int32)) C.1 (tgt := 33) dX5_harmBy_23 (by decide) (fun hh => ?_) (fun hh => ?_)
      · replace h := h.1 hh
        refine ww_iconst C.1 (v := (0 : Int32)) dX5_harmBy_33 (by decide) ?_
        refine ww_iret C.1 dX5_harmBy_34 rfl ?_
        exact h
      · replace h := h.2 hh
        refine ww_iload_n C.1 dX5_harmBy_26 2 rfl rfl ?_
        refine ww_bipush C.1 (v := (6 : Int32)) dX5_harmBy_27 (by decide) ?_
        refine ww_isub C.1 dX5_harmBy_29 ?_
        refine ww_goto C.1 (tgt := 34) dX5_harmBy_30 (by decide) ?_
        refine ww_iret C.1 dX5_harmBy_34 rfl ?_
        exact h
set_option maxHeartbeats 4000000 in
set_option maxRecDepth 20000 in
theorem bX5_placeOf_0 {X : CX} {Q : State → Prop} {M : Mem} {G2 : Grf} {T2 : List (Nat × Nat)} {x1 : Int32} (C : Ok0 X mX5_placeOf (TTc ++ T2))
    (h : WW X Q 2 [(0, .ref 37), (1, .int x1), (2, .int (0 : Int32))] [] (M, (gj G2), TTc ++ T2)) :
    WW X Q 0 [(0, .ref 37), (1, .int x1)] [] (M, (gj G2), TTc ++ T2) := by
  refine ww_iconst C.1 (v := (0 : Int32)) dX5_placeOf_0 (by decide) ?_
  refine ww_istore_n C.1 dX5_placeOf_1 rfl (by decide) [1, 2, 0] (L' := [(0, .ref 37), (1, .int x1), (2, .int (0 : Int32))]) rfl ?_
  exact h
set_option maxHeartbeats 4000000 in
set_option maxRecDepth 20000 in
theorem bX5_placeOf_2 {X : CX} {Q : State → Prop} {M : Mem} {G2 : Grf} {T2 : List (Nat × Nat)} {x1 x2 : Int32} (C : Ok0 X mX5_placeOf (TTc ++ T2))
    (h : (((M 37 6) ≤ x2 → RetOK X Q (some (.int (0 : Int32))) (M, (gj G2), TTc ++ T2)) ∧ (¬ (M 37 6) ≤ x2 → (vp_in x2 7 ∧ ((¬ (M 43 x2.toNatClampNeg) = x1 → WW X Q 2 [(0, .ref 37), (1, .int x1), (2, .int (x2 + (1 : Int32)))] [] (M, (gj G2), TTc ++ T2)) ∧ ((M 43 x2.toNatClampNeg) = x1 → RetOK X Q (some (.int x2)) (M, (gj G2), TTc ++ T2))))))) :
    WW X Q 2 [(0, .ref 37), (1, .int x1), (2, .int x2)] [] (M, (gj G2), TTc ++ T2) := by
  refine ww_iload_n C.1 dX5_placeOf_2 2 rfl rfl ?_
  refine ww_aload_n C.1 dX5_placeOf_3 0 rfl rfl ?_
  refine wt_getI C.1 dX5_placeOf_4 flRX5_30 (tc37 T2) rfl ?_
  refine ww_icmp_ge (x := x2) (y := (M 37 6)) C.1 (tgt := 28) dX5_placeOf_7 (by decide) (fun hh => ?_) (fun hh => ?_)
  · replace h := h.1 hh
    refine ww_iconst C.1 (v := (0 : Int32)) dX5_placeOf_28 (by decide) ?_
    refine ww_iret C.1 dX5_placeOf_29 rfl ?_
    exact h
  · replace h := h.2 hh
    refine ww_aload_n C.1 dX5_placeOf_10 0 rfl rfl ?_
    refine wt_getR C.1 dX5_placeOf_11 flRX5_27 (tc37 T2) rfl (gg37_5 G2) ?_
    refine ww_iload_n C.1 dX5_placeOf_14 2 rfl rfl ?_
    refine wt_iald C.1 dX5_placeOf_15 (tc43 T2) h.1 ?_
    replace h := h.2
    refine ww_iload_n C.1 dX5_placeOf_16 1 rfl rfl ?_
    refine ww_icmp_ne (x := (M 43 x2.toNatClampNeg)) (y := x1) C.1 (tgt := 22) dX5_placeOf_17 (by decide) (fun hh => ?_) (fun hh => ?_)
    · replace h := h.1 hh
      refine ww_iinc C.1 (v := (x2 + (1 : Int32))) dX5_placeOf_22 2 rfl (by rfl) (by decide) [1, 2, 0] (L' := [(0, .ref 37), (1, .int x1), (2, .int (x2 + (1 : Int32)))]) rfl ?_
      refine ww_goto C.1 (tgt := 2) dX5_placeOf_25 (by decide) ?_
      exact h
    · replace h := h.2 hh
      refine ww_iload_n C.1 dX5_placeOf_20 2 rfl rfl ?_
      refine ww_iret C.1 dX5_placeOf_21 rfl ?_
      exact h
set_option maxHeartbeats 4000000 in
set_option maxRecDepth 20000 in
theorem bX5_shift_0 {X : CX} {Q : State → Prop} {M : Mem} {G2 : Grf} {T2 : List (Nat × Nat)} {x1 x2 : Int32} (C : Ok0 X mX5_shift (TTc ++ T2))
    (h : ((x1 < (0 : Int32) → RetOK X Q (none) (M, (gj G2), TTc ++ T2)) ∧ (¬ x1 < (0 : Int32) → (((M 37 6) ≤ x1 → RetOK X Q (none) (M, (gj G2), TTc ++ T2)) ∧ (¬ (M 37 6) ≤ x1 → ((x2 < (0 : Int32) → RetOK X Q (none) (M, (gj G2), TTc ++ T2)) ∧ (¬ x2 < (0 : Int32) → (((M 37 6) ≤ x2 → RetOK X Q (none) (M, (gj G2), TTc ++ T2)) ∧ (¬ (M 37 6) ≤ x2 → (vp_in x1 7 ∧ WW X Q 27 [(0, .ref 37), (1, .int x1), (2, .int x2), (3, .int (M 43 x1.toNatClampNeg)), (4, .int x1)] [] (M, (gj G2), TTc ++ T2))))))))))) :
    WW X Q 0 [(0, .ref 37), (1, .int x1), (2, .int x2)] [] (M, (gj G2), TTc ++ T2) := by
  refine ww_aload_n C.1 dX5_shift_0 0 rfl rfl ?_
  refine ww_iload_n C.1 dX5_shift_1 1 rfl rfl ?_
  refine ww_vI C fX5_has (And.intro (by decide) (by decide)) mlRX5_34 dX5_shift_2 (tc37 T2) (by decide) rfl (As := [.int x1]) (rest := []) rfl rfl rfl (Nat.le_of_ble_eq_true rfl) (WpI.of (L0 := [(0, .ref 37), (1, .int x1)]) rfl rfl (Nat.le_of_ble_eq_true rfl) fun X1 Q1 C1 k1 => ?_)
  refine ww_iload_n C1.1 dX5_has_0 1 rfl rfl ?_
  refine ww_if_lt (x := x1) C1.1 (tgt := 16) dX5_has_1 (by decide) (fun hh => ?_) (fun hh => ?_)
  · replace h := h.1 hh
    refine ww_iconst C1.1 (v := (0 : Int32)) dX5_has_16 (by decide) ?_
    refine ww_zret C1.1 dX5_has_17 rfl (Or.inl rfl) ?_
    refine k1 _ _ ?_
    refine ww_if_eq (x := (0 : Int32)) C.1 (tgt := 16) dX5_shift_5 (by decide) (fun _ => ?_) (fun hh => absurd hh (by decide))
    refine ww_vret C.1 dX5_shift_16 rfl ?_
    exact h
  · replace h := h.2 hh
    refine ww_iload_n C1.1 dX5_has_4 1 rfl rfl ?_
    refine ww_aload_n C1.1 dX5_has_5 0 rfl rfl ?_
    refine wt_getI C1.1 dX5_has_6 flRX5_30 (tc37 T2) rfl ?_
    refine ww_icmp_ge (x := x1) (y := (M 37 6)) C1.1 (tgt := 16) dX5_has_9 (by decide) (fun hh => ?_) (fun hh => ?_)
    · replace h := h.1 hh
      refine ww_iconst C1.1 (v := (0 : Int32)) dX5_has_16 (by decide) ?_
      refine ww_zret C1.1 dX5_has_17 rfl (Or.inl rfl) ?_
      refine k1 _ _ ?_
      refine ww_if_eq (x := (0 : Int32)) C.1 (tgt := 16) dX5_shift_5 (by decide) (fun _ => ?_) (fun hh => absurd hh (by decide))
      refine ww_vret C.1 dX5_shift_16 rfl ?_
      exact h
    · replace h := h.2 hh
      refine ww_iconst C1.1 (v := (1 : Int32)) dX5_has_12 (by decide) ?_
      refine ww_goto C1.1 (tgt := 17) dX5_has_13 (by decide) ?_
      refine ww_zret C1.1 dX5_has_17 rfl (Or.inr rfl) ?_
      refine k1 _ _ ?_
      refine ww_if_eq (x := (1 : Int32)) C.1 (tgt := 16) dX5_shift_5 (by decide) (fun hh => absurd hh (by decide)) (fun _ => ?_)
      refine ww_aload_n C.1 dX5_shift_8 0 rfl rfl ?_
      refine ww_iload_n C.1 dX5_shift_9 2 rfl rfl ?_
      refine ww_vI C fX5_has (And.intro (by decide) (by decide)) mlRX5_34 dX5_shift_10 (tc37 T2) (by decide) rfl (As := [.int x2]) (rest := []) rfl rfl rfl (Nat.le_of_ble_eq_true rfl) (WpI.of (L0 := [(0, .ref 37), (1, .int x2)]) rfl rfl (Nat.le_of_ble_eq_true rfl) fun X2 Q2 C2 k2 => ?_)
      refine ww_iload_n C2.1 dX5_has_0 1 rfl rfl ?_
      refine ww_if_lt (x := x2) C2.1 (tgt := 16) dX5_has_1 (by decide) (fun hh => ?_) (fun hh => ?_)
      · replace h := h.1 hh
        refine ww_iconst C2.1 (v := (0 : Int32)) dX5_has_16 (by decide) ?_
        refine ww_zret C2.1 dX5_has_17 rfl (Or.inl rfl) ?_
        refine k2 _ _ ?_
        refine ww_if_ne (x := (0 : Int32)) C.1 (tgt := 17) dX5_shift_13 (by decide) (fun hh => absurd hh (by decide)) (fun _ => ?_)
        refine ww_vret C.1 dX5_shift_16 rfl ?_
        exact h
      · replace h := h.2 hh
        refine ww_iload_n C2.1 dX5_has_4 1 rfl rfl ?_
        refine ww_aload_n C2.1 dX5_has_5 0 rfl rfl ?_
        refine wt_getI C2.1 dX5_has_6 flRX5_30 (tc37 T2) rfl ?_
        refine ww_icmp_ge (x := x2) (y := (M 37 6)) C2.1 (tgt := 16) dX5_has_9 (by decide) (fun hh => ?_) (fun hh => ?_)
        · replace h := h.1 hh
          refine ww_iconst C2.1 (v := (0 : Int32)) dX5_has_16 (by decide) ?_
          refine ww_zret C2.1 dX5_has_17 rfl (Or.inl rfl) ?_
          refine k2 _ _ ?_
          refine ww_if_ne (x := (0 : Int32)) C.1 (tgt := 17) dX5_shift_13 (by decide) (fun hh => absurd hh (by decide)) (fun _ => ?_)
          refine ww_vret C.1 dX5_shift_16 rfl ?_
          exact h
        · replace h := h.2 hh
          refine ww_iconst C2.1 (v := (1 : Int32)) dX5_has_12 (by decide) ?_
          refine ww_goto C2.1 (tgt := 17) dX5_has_13 (by decide) ?_
          refine ww_zret C2.1 dX5_has_17 rfl (Or.inr rfl) ?_
          refine k2 _ _ ?_
          refine ww_if_ne (x := (1 : Int32)) C.1 (tgt := 17) dX5_shift_13 (by decide) (fun _ => ?_) (fun hh => absurd hh (by decide))
          refine ww_aload_n C.1 dX5_shift_17 0 rfl rfl ?_
          refine wt_getR C.1 dX5_shift_18 flRX5_27 (tc37 T2) rfl (gg37_5 G2) ?_
          refine ww_iload_n C.1 dX5_shift_21 1 rfl rfl ?_
          refine wt_iald C.1 dX5_shift_22 (tc43 T2) h.1 ?_
          replace h := h.2
          refine ww_istore_n C.1 dX5_shift_23 rfl (by decide) [1, 2, 3, 0] (L' := [(0, .ref 37), (1, .int x1), (2, .int x2), (3, .int (M 43 x1.toNatClampNeg))]) rfl ?_
          refine ww_iload_n C.1 dX5_shift_24 1 rfl rfl ?_
          refine ww_istore C.1 dX5_shift_25 (by decide) [1, 2, 3, 4, 0] (L' := [(0, .ref 37), (1, .int x1), (2, .int x2), (3, .int (M 43 x1.toNatClampNeg)), (4, .int x1)]) rfl ?_
          exact h
set_option maxHeartbeats 4000000 in
set_option maxRecDepth 20000 in
theorem bX5_shift_27 {X : CX} {Q : State → Prop} {M : Mem} {G2 : Grf} {T2 : List (Nat × Nat)} {x1 x2 x3 x4 : Int32} (C : Ok0 X mX5_shift (TTc ++ T2))
    (h : ((x2 ≤ x4 → WW X Q 58 [(0, .ref 37), (1, .int x1), (2, .int x2), (3, .int x3), (4, .int x1)] [] (M, (gj G2), TTc ++ T2)) ∧ (¬ x2 ≤ x4 → (vp_in (x4 + (1 : Int32)) 7 ∧ (vp_in x4 7 ∧ WW X Q 27 [(0, .ref 37), (1, .int x1), (2, .int x2), (3, .int x3), (4, .int (x4 + (1 : Int32)))] [] ((wr M 43 x4.toNatClampNeg (M 43 (x4 + (1 : Int32)).toNatClampNeg)), (gj G2), TTc ++ T2)))))) :
    WW X Q 27 [(0, .ref 37), (1, .int x1), (2, .int x2), (3, .int x3), (4, .int x4)] [] (M, (gj G2), TTc ++ T2) := by
  refine ww_iload C.1 dX5_shift_27 4 rfl ?_
  refine ww_iload_n C.1 dX5_shift_29 2 rfl rfl ?_
  refine ww_icmp_ge (x := x4) (y := x2) C.1 (tgt := 55) dX5_shift_30 (by decide) (fun hh => ?_) (fun hh => ?_)
  · replace h := h.1 hh
    refine ww_iload_n C.1 dX5_shift_55 1 rfl rfl ?_
    refine ww_istore C.1 dX5_shift_56 (by decide) [1, 2, 3, 4, 0] (L' := [(0, .ref 37), (1, .int x1), (2, .int x2), (3, .int x3), (4, .int x1)]) rfl ?_
    exact h
  · replace h := h.2 hh
    refine ww_aload_n C.1 dX5_shift_33 0 rfl rfl ?_
    refine wt_getR C.1 dX5_shift_34 flRX5_27 (tc37 T2) rfl (gg37_5 G2) ?_
    refine ww_iload C.1 dX5_shift_37 4 rfl ?_
    refine ww_aload_n C.1 dX5_shift_39 0 rfl rfl ?_
    refine wt_getR C.1 dX5_shift_40 flRX5_27 (tc37 T2) rfl (gg37_5 G2) ?_
    refine ww_iload C.1 dX5_shift_43 4 rfl ?_
    refine ww_iconst C.1 (v := (1 : Int32)) dX5_shift_45 (by decide) ?_
    refine ww_iadd C.1 dX5_shift_46 ?_
    refine wt_iald C.1 dX5_shift_47 (tc43 T2) h.1 ?_
    replace h := h.2
    refine wt_iast C.1 dX5_shift_48 (tc43 T2) h.1 ?_
    replace h := h.2
    refine ww_iinc C.1 (v := (x4 + (1 : Int32))) dX5_shift_49 4 rfl (by rfl) (by decide) [1, 2, 3, 4, 0] (L' := [(0, .ref 37), (1, .int x1), (2, .int x2), (3, .int x3), (4, .int (x4 + (1 : Int32)))]) rfl ?_
    refine ww_goto C.1 (tgt := 27) dX5_shift_52 (by decide) ?_
    exact h
set_option maxHeartbeats 4000000 in
set_option maxRecDepth 20000 in
theorem bX5_shift_58 {X : CX} {Q : State → Prop} {M : Mem} {G2 : Grf} {T2 : List (Nat × Nat)} {x1 x2 x3 x4 : Int32} (C : Ok0 X mX5_shift (TTc ++ T2))
    (h : ((x4 ≤ x2 → (vp_in x2 7 ∧ RetOK X Q (none) ((wr M 43 x2.toNatClampNeg x3), (gj G2), TTc ++ T2))) ∧ (¬ x4 ≤ x2 → (vp_in (x4 - (1 : Int32)) 7 ∧ (vp_in x4 7 ∧ WW X Q 58 [(0, .ref 37), (1, .int x1), (2, .int x2), (3, .int x3), (4, .int (x4 + (-1 : Int32)))] [] ((wr M 43 x4.toNatClampNeg (M 43 (x4 - (1 : Int32)).toNatClampNeg)), (gj G2), TTc ++ T2)))))) :
    WW X Q 58 [(0, .ref 37), (1, .int x1), (2, .int x2), (3, .int x3), (4, .int x4)] [] (M, (gj G2), TTc ++ T2) := by
  refine ww_iload C.1 dX5_shift_58 4 rfl ?_
  refine ww_iload_n C.1 dX5_shift_60 2 rfl rfl ?_
  refine ww_icmp_le (x := x4) (y := x2) C.1 (tgt := 86) dX5_shift_61 (by decide) (fun hh => ?_) (fun hh => ?_)
  · replace h := h.1 hh
    refine ww_aload_n C.1 dX5_shift_86 0 rfl rfl ?_
    refine wt_getR C.1 dX5_shift_87 flRX5_27 (tc37 T2) rfl (gg37_5 G2) ?_
    refine ww_iload_n C.1 dX5_shift_90 2 rfl rfl ?_
    refine ww_iload_n C.1 dX5_shift_91 3 rfl rfl ?_
    refine wt_iast C.1 dX5_shift_92 (tc43 T2) h.1 ?_
    replace h := h.2
    refine ww_vret C.1 dX5_shift_93 rfl ?_
    exact h
  · replace h := h.2 hh
    refine ww_aload_n C.1 dX5_shift_64 0 rfl rfl ?_
    refine wt_getR C.1 dX5_shift_65 flRX5_27 (tc37 T2) rfl (gg37_5 G2) ?_
    refine ww_iload C.1 dX5_shift_68 4 rfl ?_
    refine ww_aload_n C.1 dX5_shift_70 0 rfl rfl ?_
    refine wt_getR C.1 dX5_shift_71 flRX5_27 (tc37 T2) rfl (gg37_5 G2) ?_
    refine ww_iload C.1 dX5_shift_74 4 rfl ?_
    refine ww_iconst C.1 (v := (1 : Int32)) dX5_shift_76 (by decide) ?_
    refine ww_isub C.1 dX5_shift_77 ?_
    refine wt_iald C.1 dX5_shift_78 (tc43 T2) h.1 ?_
    replace h := h.2
    refine wt_iast C.1 dX5_shift_79 (tc43 T2) h.1 ?_
    replace h := h.2
    refine ww_iinc C.1 (v := (x4 + (-1 : Int32))) dX5_shift_80 4 rfl (by rfl) (by decide) [1, 2, 3, 4, 0] (L' := [(0, .ref 37), (1, .int x1), (2, .int x2), (3, .int x3), (4, .int (x4 + (-1 : Int32)))]) rfl ?_
    refine ww_goto C.1 (tgt := 58) dX5_shift_83 (by decide) ?_
    exact h
set_option maxHeartbeats 4000000 in
set_option maxRecDepth 20000 in
theorem bX5_swapPlaces_0 {X : CX} {Q : State → Prop} {M : Mem} {G2 : Grf} {T2 : List (Nat × Nat)} {x1 x2 : Int32} (C : Ok0 X mX5_swapPlaces (TTc ++ T2))
    (h : WpI mX5_placeOf [.ref 37, .int x1] M (gj G2) (TTc ++ T2) (fun r M' => WW X Q 5 [(0, .ref 37), (1, .int x1), (2, .int x2)] [.int r] (M', (gj G2), TTc ++ T2))) :
    WW X Q 0 [(0, .ref 37), (1, .int x1), (2, .int x2)] [] (M, (gj G2), TTc ++ T2) := by
  refine ww_aload_n C.1 dX5_swapPlaces_0 0 rfl rfl ?_
  refine ww_iload_n C.1 dX5_swapPlaces_1 1 rfl rfl ?_
  refine ww_vI C fX5_placeOf (And.intro (by decide) (by decide)) mlRX5_47 dX5_swapPlaces_2 (tc37 T2) (by decide) rfl (As := [.int x1]) (rest := []) rfl rfl rfl (Nat.le_of_ble_eq_true rfl) ?_
  exact h
set_option maxHeartbeats 4000000 in
set_option maxRecDepth 20000 in
theorem bX5_swapPlaces_5 {X : CX} {Q : State → Prop} {M : Mem} {G2 : Grf} {T2 : List (Nat × Nat)} {x1 x2 s0 : Int32} (C : Ok0 X mX5_swapPlaces (TTc ++ T2))
    (h : WpI mX5_placeOf [.ref 37, .int x2] M (gj G2) (TTc ++ T2) (fun r M' => WW X Q 11 [(0, .ref 37), (1, .int x1), (2, .int x2), (3, .int s0)] [.int r] (M', (gj G2), TTc ++ T2))) :
    WW X Q 5 [(0, .ref 37), (1, .int x1), (2, .int x2)] [.int s0] (M, (gj G2), TTc ++ T2) := by
  refine ww_istore_n C.1 dX5_swapPlaces_5 rfl (by decide) [1, 2, 3, 0] (L' := [(0, .ref 37), (1, .int x1), (2, .int x2), (3, .int s0)]) rfl ?_
  refine ww_aload_n C.1 dX5_swapPlaces_6 0 rfl rfl ?_
  refine ww_iload_n C.1 dX5_swapPlaces_7 2 rfl rfl ?_
  refine ww_vI C fX5_placeOf (And.intro (by decide) (by decide)) mlRX5_47 dX5_swapPlaces_8 (tc37 T2) (by decide) rfl (As := [.int x2]) (rest := []) rfl rfl rfl (Nat.le_of_ble_eq_true rfl) ?_
  exact h
set_option maxHeartbeats 4000000 in
set_option maxRecDepth 20000 in
theorem bX5_swapPlaces_11 {X : CX} {Q : State → Prop} {M : Mem} {G2 : Grf} {T2 : List (Nat × Nat)} {x1 x2 x3 s0 : Int32} (C : Ok0 X mX5_swapPlaces (TTc ++ T2))
    (h : (vp_in x3 7 ∧ (vp_in s0 7 ∧ RetOK X Q (none) ((wr (wr M 43 x3.toNatClampNeg x2) 43 s0.toNatClampNeg x1), (gj G2), TTc ++ T2)))) :
    WW X Q 11 [(0, .ref 37), (1, .int x1), (2, .int x2), (3, .int x3)] [.int s0] (M, (gj G2), TTc ++ T2) := by
  refine ww_istore C.1 dX5_swapPlaces_11 (by decide) [1, 2, 3, 4, 0] (L' := [(0, .ref 37), (1, .int x1), (2, .int x2), (3, .int x3), (4, .int s0)]) rfl ?_
  refine ww_aload_n C.1 dX5_swapPlaces_13 0 rfl rfl ?_
  refine wt_getR C.1 dX5_swapPlaces_14 flRX5_27 (tc37 T2) rfl (gg37_5 G2) ?_
  refine ww_iload_n C.1 dX5_swapPlaces_17 3 rfl rfl ?_
  refine ww_iload_n C.1 dX5_swapPlaces_18 2 rfl rfl ?_
  refine wt_iast C.1 dX5_swapPlaces_19 (tc43 T2) h.1 ?_
  replace h := h.2
  refine ww_aload_n C.1 dX5_swapPlaces_20 0 rfl rfl ?_
  refine wt_getR C.1 dX5_swapPlaces_21 flRX5_27 (tc37 T2) rfl (gg37_5 G2) ?_
  refine ww_iload C.1 dX5_swapPlaces_24 4 rfl ?_
  refine ww_iload_n C.1 dX5_swapPlaces_26 1 rfl rfl ?_
  refine wt_iast C.1 dX5_swapPlaces_27 (tc43 T2) h.1 ?_
  replace h := h.2
  refine ww_vret C.1 dX5_swapPlaces_28 rfl ?_
  exact h
set_option maxHeartbeats 4000000 in
set_option maxRecDepth 20000 in
theorem bX6_add_0 {X : CX} {Q : State → Prop} {M : Mem} {G2 : Grf} {T2 : List (Nat × Nat)} {x1 x2 x3 : Int32} (C : Ok0 X mX6_add (TTc ++ T2))
    (h : (((M 24 4) < (6 : Int32) → (vp_in (M 24 4) 6 ∧ (vp_in (M 24 4) 6 ∧ (vp_in (M 24 4) 6 ∧ RetOK X Q (some (.int (1 : Int32))) ((wr (wr (wr (wr M 25 (M 24 4).toNatClampNeg x1) 26 (M 24 4).toNatClampNeg x2) 27 (M 24 4).toNatClampNeg x3) 24 4 ((M 24 4) + (1 : Int32))), (gj G2), TTc ++ T2))))) ∧ (¬ (M 24 4) < (6 : Int32) → RetOK X Q (some (.int (0 : Int32))) (M, (gj G2), TTc ++ T2)))) :
    WW X Q 0 [(0, .ref 24), (1, .int x1), (2, .int x2), (3, .int x3)] [] (M, (gj G2), TTc ++ T2) := by
  refine ww_aload_n C.1 dX6_add_0 0 rfl rfl ?_
  refine wt_getI C.1 dX6_add_1 flRX6_24 (tc24 T2) rfl ?_
  refine ww_bipush C.1 (v := (6 : Int32)) dX6_add_4 (by decide) ?_
  refine ww_icmp_lt (x := (M 24 4)) (y := (6 : Int32)) C.1 (tgt := 11) dX6_add_6 (by decide) (fun hh => ?_) (fun hh => ?_)
  · replace h := h.1 hh
    refine ww_aload_n C.1 dX6_add_11 0 rfl rfl ?_
    refine wt_getR C.1 dX6_add_12 flRX6_9 (tc24 T2) rfl (gg24_0 G2) ?_
    refine ww_aload_n C.1 dX6_add_15 0 rfl rfl ?_
    refine wt_getI C.1 dX6_add_16 flRX6_24 (tc24 T2) rfl ?_
    refine ww_iload_n C.1 dX6_add_19 1 rfl rfl ?_
    refine wt_iast C.1 dX6_add_20 (tc25 T2) h.1 ?_
    replace h := h.2
    refine ww_aload_n C.1 dX6_add_21 0 rfl rfl ?_
    refine wt_getR C.1 dX6_add_22 flRX6_15 (tc24 T2) rfl (gg24_1 G2) ?_
    refine ww_aload_n C.1 dX6_add_25 0 rfl rfl ?_
    refine wt_getI C.1 dX6_add_26 flRX6_24 (tc24 T2) rfl ?_
    refine ww_iload_n C.1 dX6_add_29 2 rfl rfl ?_
    refine wt_iast C.1 dX6_add_30 (tc26 T2) h.1 ?_
    replace h := h.2
    refine ww_aload_n C.1 dX6_add_31 0 rfl rfl ?_
    refine wt_getR C.1 dX6_add_32 flRX6_18 (tc24 T2) rfl (gg24_2 G2) ?_
    refine ww_aload_n C.1 dX6_add_35 0 rfl rfl ?_
    refine wt_getI C.1 dX6_add_36 flRX6_24 (tc24 T2) rfl ?_
    refine ww_iload_n C.1 dX6_add_39 3 rfl rfl ?_
    refine wt_iast C.1 dX6_add_40 (tc27 T2) h.1 ?_
    replace h := h.2
    refine ww_aload_n C.1 dX6_add_41 0 rfl rfl ?_
    refine ww_dup C.1 dX6_add_42 rfl ?_
    refine wt_getI C.1 dX6_add_43 flRX6_24 (tc24 T2) rfl ?_
    refine ww_iconst C.1 (v := (1 : Int32)) dX6_add_46 (by decide) ?_
    refine ww_iadd C.1 dX6_add_47 ?_
    refine wt_putI C.1 dX6_add_48 flRX6_24 (tc24 T2) rfl ?_
    refine ww_iconst C.1 (v := (1 : Int32)) dX6_add_51 (by decide) ?_
    refine ww_zret C.1 dX6_add_52 rfl (Or.inr rfl) ?_
    exact h
  · replace h := h.2 hh
    refine ww_iconst C.1 (v := (0 : Int32)) dX6_add_9 (by decide) ?_
    refine ww_zret C.1 dX6_add_10 rfl (Or.inl rfl) ?_
    exact h
set_option maxHeartbeats 4000000 in
set_option maxRecDepth 20000 in
theorem bX6_sleepersOf_0 {X : CX} {Q : State → Prop} {M : Mem} {G2 : Grf} {T2 : List (Nat × Nat)} {x2 : Int32} (C : Ok0 X mX6_sleepersOf (TTc ++ T2))
    (h : (vp_in x2 6 ∧ (vp_in x2 6 ∧ WpI mX0_lengthOn [.ref 34, .int (M 25 x2.toNatClampNeg), .int (M 26 x2.toNatClampNeg)] M (gj G2) (TTc ++ T2) (fun r M' => WW X Q 19 [(0, .ref 24), (1, .ref 33), (2, .int x2)] [.int r] (M', (gj G2), TTc ++ T2))))) :
    WW X Q 0 [(0, .ref 24), (1, .ref 33), (2, .int x2)] [] (M, (gj G2), TTc ++ T2) := by
  refine ww_aload_n C.1 dX6_sleepersOf_0 1 rfl rfl ?_
  refine wt_getR C.1 dX6_sleepersOf_1 flRX6_28 (tc33 T2) rfl (gg33_0 G2) ?_
  refine ww_aload_n C.1 dX6_sleepersOf_4 0 rfl rfl ?_
  refine wt_getR C.1 dX6_sleepersOf_5 flRX6_9 (tc24 T2) rfl (gg24_0 G2) ?_
  refine ww_iload_n C.1 dX6_sleepersOf_8 2 rfl rfl ?_
  refine wt_iald C.1 dX6_sleepersOf_9 (tc25 T2) h.1 ?_
  replace h := h.2
  refine ww_aload_n C.1 dX6_sleepersOf_10 0 rfl rfl ?_
  refine wt_getR C.1 dX6_sleepersOf_11 flRX6_15 (tc24 T2) rfl (gg24_1 G2) ?_
  refine ww_iload_n C.1 dX6_sleepersOf_14 2 rfl rfl ?_
  refine wt_iald C.1 dX6_sleepersOf_15 (tc26 T2) h.1 ?_
  replace h := h.2
  refine ww_vI C fX0_lengthOn (And.intro (by decide) (by decide)) mlRX6_33 dX6_sleepersOf_16 (tc34 T2) (by decide) rfl (As := [.int (M 25 x2.toNatClampNeg), .int (M 26 x2.toNatClampNeg)]) (rest := []) rfl rfl rfl (Nat.le_of_ble_eq_true rfl) ?_
  exact h
set_option maxHeartbeats 4000000 in
set_option maxRecDepth 20000 in
theorem bX6_sleepersOf_41 {X : CX} {Q : State → Prop} {M : Mem} {G2 : Grf} {T2 : List (Nat × Nat)} {x2 x3 x4 x5 x6 : Int32} (C : Ok0 X mX6_sleepersOf (TTc ++ T2))
    (h : (((M 37 6) ≤ x6 → RetOK X Q (some (.int x5)) (M, (gj G2), TTc ++ T2)) ∧ (¬ (M 37 6) ≤ x6 → ((¬ ((x4 >>> (x6 &&& 31)) &&& (1 : Int32)) = (1 : Int32) → WW X Q 41 [(0, .ref 24), (1, .ref 33), (2, .int x2), (3, .int x3), (4, .int x4), (5, .int x5), (6, .int (x6 + (1 : Int32)))] [] (M, (gj G2), TTc ++ T2)) ∧ (((x4 >>> (x6 &&& 31)) &&& (1 : Int32)) = (1 : Int32) → (vp_in x2 6 ∧ WpI mX5_harmAt [.ref 37, .int x6, .int (M 26 x2.toNatClampNeg), .int x3] M (gj G2) (TTc ++ T2) (fun r M' => WW X Q 79 [(0, .ref 24), (1, .ref 33), (2, .int x2), (3, .int x3), (4, .int x4), (5, .int x5), (6, .int x6)] [.int r] (M', (gj G2), TTc ++ T2)))))))) :
    WW X Q 41 [(0, .ref 24), (1, .ref 33), (2, .int x2), (3, .int x3), (4, .int x4), (5, .int x5), (6, .int x6)] [] (M, (gj G2), TTc ++ T2) := by
  refine ww_iload C.1 dX6_sleepersOf_41 6 rfl ?_
  refine ww_aload_n C.1 dX6_sleepersOf_43 1 rfl rfl ?_
  refine wt_getR C.1 dX6_sleepersOf_44 flRX6_39 (tc33 T2) rfl (gg33_1 G2) ?_
  refine wt_getI C.1 dX6_sleepersOf_47 flRX6_49 (tc37 T2) rfl ?_
  refine ww_icmp_ge (x := x6) (y := (M 37 6)) C.1 (tgt := 103) dX6_sleepersOf_50 (by decide) (fun hh => ?_) (fun hh => ?_)
  · replace h := h.1 hh
    refine ww_iload C.1 dX6_sleepersOf_103 5 rfl ?_
    refine ww_iret C.1 dX6_sleepersOf_105 rfl ?_
    exact h
  · replace h := h.2 hh
    refine ww_iload C.1 dX6_sleepersOf_53 4 rfl ?_
    refine ww_iload C.1 dX6_sleepersOf_55 6 rfl ?_
    refine ww_nI C fX9_isIn (And.intro (by decide) (by decide)) nlRX6_50 dX6_sleepersOf_57 (As := [.int x4, .int x6]) (rest := []) rfl rfl rfl (Nat.le_of_ble_eq_true rfl) (WpI.of (L0 := [(0, .int x4), (1, .int x6)]) rfl rfl (Nat.le_of_ble_eq_true rfl) fun X1 Q1 C1 k1 => ?_)
    refine ww_iload_n C1.1 dX9_isIn_0 0 rfl rfl ?_
    refine ww_iload_n C1.1 dX9_isIn_1 1 rfl rfl ?_
    refine ww_ishr C1.1 dX9_isIn_2 ?_
    refine ww_iconst C1.1 (v := (1 : Int32)) dX9_isIn_3 (by decide) ?_
    refine ww_iand C1.1 dX9_isIn_4 ?_
    refine ww_iconst C1.1 (v := (1 : Int32)) dX9_isIn_5 (by decide) ?_
    refine ww_icmp_ne (x := ((x4 >>> (x6 &&& 31)) &&& (1 : Int32))) (y := (1 : Int32)) C1.1 (tgt := 13) dX9_isIn_6 (by decide) (fun hh => ?_) (fun hh => ?_)
    · replace h := h.1 hh
      refine ww_iconst C1.1 (v := (0 : Int32)) dX9_isIn_13 (by decide) ?_
      refine ww_zret C1.1 dX9_isIn_14 rfl (Or.inl rfl) ?_
      refine k1 _ _ ?_
      refine ww_if_eq (x := (0 : Int32)) C.1 (tgt := 97) dX6_sleepersOf_60 (by decide) (fun _ => ?_) (fun hh => absurd hh (by decide))
      refine ww_iinc C.1 (v := (x6 + (1 : Int32))) dX6_sleepersOf_97 6 rfl (by rfl) (by decide) [1, 2, 3, 4, 5, 6, 0] (L' := [(0, .ref 24), (1, .ref 33), (2, .int x2), (3, .int x3), (4, .int x4), (5, .int x5), (6, .int (x6 + (1 : Int32)))]) rfl ?_
      refine ww_goto C.1 (tgt := 41) dX6_sleepersOf_100 (by decide) ?_
      exact h
    · replace h := h.2 hh
      refine ww_iconst C1.1 (v := (1 : Int32)) dX9_isIn_9 (by decide) ?_
      refine ww_goto C1.1 (tgt := 14) dX9_isIn_10 (by decide) ?_
      refine ww_zret C1.1 dX9_isIn_14 rfl (Or.inr rfl) ?_
      refine k1 _ _ ?_
      refine ww_if_eq (x := (1 : Int32)) C.1 (tgt := 97) dX6_sleepersOf_60 (by decide) (fun hh => absurd hh (by decide)) (fun _ => ?_)
      refine ww_aload_n C.1 dX6_sleepersOf_63 1 rfl rfl ?_
      refine wt_getR C.1 dX6_sleepersOf_64 flRX6_39 (tc33 T2) rfl (gg33_1 G2) ?_
      refine ww_iload C.1 dX6_sleepersOf_67 6 rfl ?_
      refine ww_aload_n C.1 dX6_sleepersOf_69 0 rfl rfl ?_
      refine wt_getR C.1 dX6_sleepersOf_70 flRX6_15 (tc24 T2) rfl (gg24_1 G2) ?_
      refine ww_iload_n C.1 dX6_sleepersOf_73 2 rfl rfl ?_
      refine wt_iald C.1 dX6_sleepersOf_74 (tc26 T2) h.1 ?_
      replace h := h.2
      refine ww_iload_n C.1 dX6_sleepersOf_75 3 rfl rfl ?_
      refine ww_vI C fX5_harmAt (And.intro (by decide) (by decide)) mlRX6_54 dX6_sleepersOf_76 (tc37 T2) (by decide) rfl (As := [.int x6, .int (M 26 x2.toNatClampNeg), .int x3]) (rest := []) rfl rfl rfl (Nat.le_of_ble_eq_true rfl) ?_
      exact h
set_option maxHeartbeats 4000000 in
set_option maxRecDepth 20000 in
theorem bX6_sleepersOf_19 {X : CX} {Q : State → Prop} {M : Mem} {G2 : Grf} {T2 : List (Nat × Nat)} {x2 s0 : Int32} (C : Ok0 X mX6_sleepersOf (TTc ++ T2))
    (h : (vp_in x2 6 ∧ WpI mX5_hereBy [.ref 37, .int (M 26 x2.toNatClampNeg)] M (gj G2) (TTc ++ T2) (fun r M' => WW X Q 33 [(0, .ref 24), (1, .ref 33), (2, .int x2), (3, .int s0)] [.int r] (M', (gj G2), TTc ++ T2)))) :
    WW X Q 19 [(0, .ref 24), (1, .ref 33), (2, .int x2)] [.int s0] (M, (gj G2), TTc ++ T2) := by
  refine ww_istore_n C.1 dX6_sleepersOf_19 rfl (by decide) [1, 2, 3, 0] (L' := [(0, .ref 24), (1, .ref 33), (2, .int x2), (3, .int s0)]) rfl ?_
  refine ww_aload_n C.1 dX6_sleepersOf_20 1 rfl rfl ?_
  refine wt_getR C.1 dX6_sleepersOf_21 flRX6_39 (tc33 T2) rfl (gg33_1 G2) ?_
  refine ww_aload_n C.1 dX6_sleepersOf_24 0 rfl rfl ?_
  refine wt_getR C.1 dX6_sleepersOf_25 flRX6_15 (tc24 T2) rfl (gg24_1 G2) ?_
  refine ww_iload_n C.1 dX6_sleepersOf_28 2 rfl rfl ?_
  refine wt_iald C.1 dX6_sleepersOf_29 (tc26 T2) h.1 ?_
  replace h := h.2
  refine ww_vI C fX5_hereBy (And.intro (by decide) (by decide)) mlRX6_43 dX6_sleepersOf_30 (tc37 T2) (by decide) rfl (As := [.int (M 26 x2.toNatClampNeg)]) (rest := []) rfl rfl rfl (Nat.le_of_ble_eq_true rfl) ?_
  exact h
set_option maxHeartbeats 4000000 in
set_option maxRecDepth 20000 in
theorem bX6_sleepersOf_79 {X : CX} {Q : State → Prop} {M : Mem} {G2 : Grf} {T2 : List (Nat × Nat)} {x2 x3 x4 x5 x6 s0 : Int32} (C : Ok0 X mX6_sleepersOf (TTc ++ T2))
    (h : (vp_in x2 6 ∧ ((¬ s0 = (M 27 x2.toNatClampNeg) → WW X Q 41 [(0, .ref 24), (1, .ref 33), (2, .int x2), (3, .int x3), (4, .int x4), (5, .int x5), (6, .int (x6 + (1 : Int32)))] [] (M, (gj G2), TTc ++ T2)) ∧ (s0 = (M 27 x2.toNatClampNeg) → WW X Q 41 [(0, .ref 24), (1, .ref 33), (2, .int x2), (3, .int x3), (4, .int x4), (5, .int (x5 ||| ((1 : Int32) <<< (x6 &&& 31)))), (6, .int (x6 + (1 : Int32)))] [] (M, (gj G2), TTc ++ T2))))) :
    WW X Q 79 [(0, .ref 24), (1, .ref 33), (2, .int x2), (3, .int x3), (4, .int x4), (5, .int x5), (6, .int x6)] [.int s0] (M, (gj G2), TTc ++ T2) := by
  refine ww_aload_n C.1 dX6_sleepersOf_79 0 rfl rfl ?_
  refine wt_getR C.1 dX6_sleepersOf_80 flRX6_18 (tc24 T2) rfl (gg24_2 G2) ?_
  refine ww_iload_n C.1 dX6_sleepersOf_83 2 rfl rfl ?_
  refine wt_iald C.1 dX6_sleepersOf_84 (tc27 T2) h.1 ?_
  replace h := h.2
  refine ww_icmp_ne (x := s0) (y := (M 27 x2.toNatClampNeg)) C.1 (tgt := 97) dX6_sleepersOf_85 (by decide) (fun hh => ?_) (fun hh => ?_)
  · replace h := h.1 hh
    refine ww_iinc C.1 (v := (x6 + (1 : Int32))) dX6_sleepersOf_97 6 rfl (by rfl) (by decide) [1, 2, 3, 4, 5, 6, 0] (L' := [(0, .ref 24), (1, .ref 33), (2, .int x2), (3, .int x3), (4, .int x4), (5, .int x5), (6, .int (x6 + (1 : Int32)))]) rfl ?_
    refine ww_goto C.1 (tgt := 41) dX6_sleepersOf_100 (by decide) ?_
    exact h
  · replace h := h.2 hh
    refine ww_iload C.1 dX6_sleepersOf_88 5 rfl ?_
    refine ww_iconst C.1 (v := (1 : Int32)) dX6_sleepersOf_90 (by decide) ?_
    refine ww_iload C.1 dX6_sleepersOf_91 6 rfl ?_
    refine ww_ishl C.1 dX6_sleepersOf_93 ?_
    refine ww_ior C.1 dX6_sleepersOf_94 ?_
    refine ww_istore C.1 dX6_sleepersOf_95 (by decide) [1, 2, 3, 4, 5, 0, 6] (L' := [(0, .ref 24), (1, .ref 33), (2, .int x2), (3, .int x3), (4, .int x4), (5, .int (x5 ||| ((1 : Int32) <<< (x6 &&& 31)))), (6, .int x6)]) rfl ?_
    refine ww_iinc C.1 (v := (x6 + (1 : Int32))) dX6_sleepersOf_97 6 rfl (by rfl) (by decide) [1, 2, 3, 4, 5, 6, 0] (L' := [(0, .ref 24), (1, .ref 33), (2, .int x2), (3, .int x3), (4, .int x4), (5, .int (x5 ||| ((1 : Int32) <<< (x6 &&& 31)))), (6, .int (x6 + (1 : Int32)))]) rfl ?_
    refine ww_goto C.1 (tgt := 41) dX6_sleepersOf_100 (by decide) ?_
    exact h
set_option maxHeartbeats 4000000 in
set_option maxRecDepth 20000 in
theorem bX6_sleepersOf_33 {X : CX} {Q : State → Prop} {M : Mem} {G2 : Grf} {T2 : List (Nat × Nat)} {x2 x3 s0 : Int32} (C : Ok0 X mX6_sleepersOf (TTc ++ T2))
    (h : WW X Q 41 [(0, .ref 24), (1, .ref 33), (2, .int x2), (3, .int x3), (4, .int s0), (5, .int (0 : Int32)), (6, .int (0 : Int32))] [] (M, (gj G2), TTc ++ T2)) :
    WW X Q 33 [(0, .ref 24), (1, .ref 33), (2, .int x2), (3, .int x3)] [.int s0] (M, (gj G2), TTc ++ T2) := by
  refine ww_istore C.1 dX6_sleepersOf_33 (by decide) [1, 2, 3, 4, 0] (L' := [(0, .ref 24), (1, .ref 33), (2, .int x2), (3, .int x3), (4, .int s0)]) rfl ?_
  refine ww_iconst C.1 (v := (0 : Int32)) dX6_sleepersOf_35 (by decide) ?_
  refine ww_istore C.1 dX6_sleepersOf_36 (by decide) [1, 2, 3, 4, 5, 0] (L' := [(0, .ref 24), (1, .ref 33), (2, .int x2), (3, .int x3), (4, .int s0), (5, .int (0 : Int32))]) rfl ?_
  refine ww_iconst C.1 (v := (0 : Int32)) dX6_sleepersOf_38 (by decide) ?_
  refine ww_istore C.1 dX6_sleepersOf_39 (by decide) [1, 2, 3, 4, 5, 6, 0] (L' := [(0, .ref 24), (1, .ref 33), (2, .int x2), (3, .int x3), (4, .int s0), (5, .int (0 : Int32)), (6, .int (0 : Int32))]) rfl ?_
  exact h
set_option maxHeartbeats 4000000 in
set_option maxRecDepth 20000 in
theorem bX6_ways_0 {X : CX} {Q : State → Prop} {M : Mem} {G2 : Grf} {T2 : List (Nat × Nat)} {x2 x3 : Int32} (C : Ok0 X mX6_ways (TTc ++ T2))
    (h : WW X Q 3 [(0, .ref 24), (1, .ref 33), (2, .int x2), (3, .int x3), (4, .int (0 : Int32))] [] (M, (gj G2), TTc ++ T2)) :
    WW X Q 0 [(0, .ref 24), (1, .ref 33), (2, .int x2), (3, .int x3)] [] (M, (gj G2), TTc ++ T2) := by
  refine ww_iconst C.1 (v := (0 : Int32)) dX6_ways_0 (by decide) ?_
  refine ww_istore C.1 dX6_ways_1 (by decide) [1, 2, 3, 4, 0] (L' := [(0, .ref 24), (1, .ref 33), (2, .int x2), (3, .int x3), (4, .int (0 : Int32))]) rfl ?_
  exact h
set_option maxHeartbeats 4000000 in
set_option maxRecDepth 20000 in
theorem bX6_ways_3 {X : CX} {Q : State → Prop} {M : Mem} {G2 : Grf} {T2 : List (Nat × Nat)} {x2 x3 x4 : Int32} (C : Ok0 X mX6_ways (TTc ++ T2))
    (h : (((128 : Int32) ≤ x4 → WW X Q 35 [(0, .ref 24), (1, .ref 33), (2, .int x2), (3, .int x3), (4, .int (0 : Int32))] [] ((wr M 28 0 (1 : Int32)), (gj G2), TTc ++ T2)) ∧ (¬ (128 : Int32) ≤ x4 → (vp_in x4 128 ∧ WW X Q 3 [(0, .ref 24), (1, .ref 33), (2, .int x2), (3, .int x3), (4, .int (x4 + (1 : Int32)))] [] ((wr M 28 x4.toNatClampNeg (0 : Int32)), (gj G2), TTc ++ T2))))) :
    WW X Q 3 [(0, .ref 24), (1, .ref 33), (2, .int x2), (3, .int x3), (4, .int x4)] [] (M, (gj G2), TTc ++ T2) := by
  refine ww_iload C.1 dX6_ways_3 4 rfl ?_
  refine ww_sipush C.1 (v := (128 : Int32)) dX6_ways_5 (by decide) ?_
  refine ww_icmp_ge (x := x4) (y := (128 : Int32)) C.1 (tgt := 25) dX6_ways_8 (by decide) (fun hh => ?_) (fun hh => ?_)
  · replace h := h.1 hh
    refine ww_aload_n C.1 dX6_ways_25 0 rfl rfl ?_
    refine wt_getR C.1 dX6_ways_26 flRX6_21 (tc24 T2) rfl (gg24_3 G2) ?_
    refine ww_iconst C.1 (v := (0 : Int32)) dX6_ways_29 (by decide) ?_
    refine ww_iconst C.1 (v := (1 : Int32)) dX6_ways_30 (by decide) ?_
    refine wt_iast C.1 dX6_ways_31 (tc28 T2) (vp_lit (by decide) (by decide)) ?_
    refine ww_iconst C.1 (v := (0 : Int32)) dX6_ways_32 (by decide) ?_
    refine ww_istore C.1 dX6_ways_33 (by decide) [1, 2, 3, 4, 0] (L' := [(0, .ref 24), (1, .ref 33), (2, .int x2), (3, .int x3), (4, .int (0 : Int32))]) rfl ?_
    exact h
  · replace h := h.2 hh
    refine ww_aload_n C.1 dX6_ways_11 0 rfl rfl ?_
    refine wt_getR C.1 dX6_ways_12 flRX6_21 (tc24 T2) rfl (gg24_3 G2) ?_
    refine ww_iload C.1 dX6_ways_15 4 rfl ?_
    refine ww_iconst C.1 (v := (0 : Int32)) dX6_ways_17 (by decide) ?_
    refine wt_iast C.1 dX6_ways_18 (tc28 T2) h.1 ?_
    replace h := h.2
    refine ww_iinc C.1 (v := (x4 + (1 : Int32))) dX6_ways_19 4 rfl (by rfl) (by decide) [1, 2, 3, 4, 0] (L' := [(0, .ref 24), (1, .ref 33), (2, .int x2), (3, .int x3), (4, .int (x4 + (1 : Int32)))]) rfl ?_
    refine ww_goto C.1 (tgt := 3) dX6_ways_22 (by decide) ?_
    exact h
set_option maxHeartbeats 4000000 in
set_option maxRecDepth 20000 in
theorem bX6_ways_35 {X : CX} {Q : State → Prop} {M : Mem} {G2 : Grf} {T2 : List (Nat × Nat)} {x2 x3 x4 : Int32} (C : Ok0 X mX6_ways (TTc ++ T2))
    (h : (((M 24 4) ≤ x4 → WW X Q 86 [(0, .ref 24), (1, .ref 33), (2, .int x2), (3, .int x3), (4, .int (0 : Int32)), (5, .int (0 : Int32))] [] (M, (gj G2), TTc ++ T2)) ∧ (¬ (M 24 4) ≤ x4 → WpI mX6_sleepersOf [.ref 24, .ref 33, .int x4] M (gj G2) (TTc ++ T2) (fun r M' => WW X Q 51 [(0, .ref 24), (1, .ref 33), (2, .int x2), (3, .int x3), (4, .int x4)] [.int r] (M', (gj G2), TTc ++ T2))))) :
    WW X Q 35 [(0, .ref 24), (1, .ref 33), (2, .int x2), (3, .int x3), (4, .int x4)] [] (M, (gj G2), TTc ++ T2) := by
  refine ww_iload C.1 dX6_ways_35 4 rfl ?_
  refine ww_aload_n C.1 dX6_ways_37 0 rfl rfl ?_
  refine wt_getI C.1 dX6_ways_38 flRX6_24 (tc24 T2) rfl ?_
  refine ww_icmp_ge (x := x4) (y := (M 24 4)) C.1 (tgt := 80) dX6_ways_41 (by decide) (fun hh => ?_) (fun hh => ?_)
  · replace h := h.1 hh
    refine ww_iconst C.1 (v := (0 : Int32)) dX6_ways_80 (by decide) ?_
    refine ww_istore C.1 dX6_ways_81 (by decide) [1, 2, 3, 4, 0] (L' := [(0, .ref 24), (1, .ref 33), (2, .int x2), (3, .int x3), (4, .int (0 : Int32))]) rfl ?_
    refine ww_iconst C.1 (v := (0 : Int32)) dX6_ways_83 (by decide) ?_
    refine ww_istore C.1 dX6_ways_84 (by decide) [1, 2, 3, 4, 5, 0] (L' := [(0, .ref 24), (1, .ref 33), (2, .int x2), (3, .int x3), (4, .int (0 : Int32)), (5, .int (0 : Int32))]) rfl ?_
    exact h
  · replace h := h.2 hh
    refine ww_aload_n C.1 dX6_ways_44 0 rfl rfl ?_
    refine ww_aload_n C.1 dX6_ways_45 1 rfl rfl ?_
    refine ww_iload C.1 dX6_ways_46 4 rfl ?_
    refine ww_vI C fX6_sleepersOf (And.intro (by decide) (by decide)) mlRX6_58 dX6_ways_48 (tc24 T2) (by decide) rfl (As := [.ref 33, .int x4]) (rest := []) rfl rfl rfl (Nat.le_of_ble_eq_true rfl) ?_
    exact h
set_option maxHeartbeats 4000000 in
set_option maxRecDepth 20000 in
theorem bX6_ways_86 {X : CX} {Q : State → Prop} {M : Mem} {G2 : Grf} {T2 : List (Nat × Nat)} {x2 x3 x4 x5 : Int32} (C : Ok0 X mX6_ways (TTc ++ T2))
    (h : (((128 : Int32) ≤ x5 → RetOK X Q (some (.int x4)) (M, (gj G2), TTc ++ T2)) ∧ (¬ (128 : Int32) ≤ x5 → WpI mJ6_bitCount_0f7a4 [.int x5] M (gj G2) (TTc ++ T2) (fun r M' => WW X Q 99 [(0, .ref 24), (1, .ref 33), (2, .int x2), (3, .int x3), (4, .int x4), (5, .int x5)] [.int r] (M', (gj G2), TTc ++ T2))))) :
    WW X Q 86 [(0, .ref 24), (1, .ref 33), (2, .int x2), (3, .int x3), (4, .int x4), (5, .int x5)] [] (M, (gj G2), TTc ++ T2) := by
  refine ww_iload C.1 dX6_ways_86 5 rfl ?_
  refine ww_sipush C.1 (v := (128 : Int32)) dX6_ways_88 (by decide) ?_
  refine ww_icmp_ge (x := x5) (y := (128 : Int32)) C.1 (tgt := 124) dX6_ways_91 (by decide) (fun hh => ?_) (fun hh => ?_)
  · replace h := h.1 hh
    refine ww_iload C.1 dX6_ways_124 4 rfl ?_
    refine ww_iret C.1 dX6_ways_126 rfl ?_
    exact h
  · replace h := h.2 hh
    refine ww_iload C.1 dX6_ways_94 5 rfl ?_
    refine ww_sI C fJ6_bitCount_0f7a4 (And.intro (by decide) (by decide)) mlRX6_66 dX6_ways_96 (As := [.int x5]) (rest := []) rfl rfl rfl (Nat.le_of_ble_eq_true rfl) ?_
    exact h
set_option maxHeartbeats 4000000 in
set_option maxRecDepth 20000 in
theorem bX6_ways_51 {X : CX} {Q : State → Prop} {M : Mem} {G2 : Grf} {T2 : List (Nat × Nat)} {x2 x3 x4 s0 : Int32} (C : Ok0 X mX6_ways (TTc ++ T2))
    (h : ((¬ x4 = x2 → WpV mX6_addOne [.ref 24, .int x4, .int s0] M (gj G2) (TTc ++ T2) (fun M' => WW X Q 74 [(0, .ref 24), (1, .ref 33), (2, .int x2), (3, .int x3), (4, .int x4), (5, .int s0)] [] (M', (gj G2), TTc ++ T2))) ∧ (x4 = x2 → WpV mX6_addOne [.ref 24, .int x4, .int (s0 &&& x3)] M (gj G2) (TTc ++ T2) (fun M' => WW X Q 74 [(0, .ref 24), (1, .ref 33), (2, .int x2), (3, .int x3), (4, .int x4), (5, .int s0)] [] (M', (gj G2), TTc ++ T2))))) :
    WW X Q 51 [(0, .ref 24), (1, .ref 33), (2, .int x2), (3, .int x3), (4, .int x4)] [.int s0] (M, (gj G2), TTc ++ T2) := by
  refine ww_istore C.1 dX6_ways_51 (by decide) [1, 2, 3, 4, 5, 0] (L' := [(0, .ref 24), (1, .ref 33), (2, .int x2), (3, .int x3), (4, .int x4), (5, .int s0)]) rfl ?_
  refine ww_aload_n C.1 dX6_ways_53 0 rfl rfl ?_
  refine ww_iload C.1 dX6_ways_54 4 rfl ?_
  refine ww_iload C.1 dX6_ways_56 4 rfl ?_
  refine ww_iload_n C.1 dX6_ways_58 2 rfl rfl ?_
  refine ww_icmp_ne (x := x4) (y := x2) C.1 (tgt := 69) dX6_ways_59 (by decide) (fun hh => ?_) (fun hh => ?_)
  · replace h := h.1 hh
    refine ww_iload C.1 dX6_ways_69 5 rfl ?_
    refine ww_vV C fX6_addOne (And.intro (by decide) (by decide)) mlRX6_62 dX6_ways_71 (tc24 T2) (by decide) rfl (As := [.int x4, .int s0]) (rest := []) rfl rfl rfl (Nat.le_of_ble_eq_true rfl) ?_
    exact h
  · replace h := h.2 hh
    refine ww_iload C.1 dX6_ways_62 5 rfl ?_
    refine ww_iload_n C.1 dX6_ways_64 3 rfl rfl ?_
    refine ww_iand C.1 dX6_ways_65 ?_
    refine ww_goto C.1 (tgt := 71) dX6_ways_66 (by decide) ?_
    refine ww_vV C fX6_addOne (And.intro (by decide) (by decide)) mlRX6_62 dX6_ways_71 (tc24 T2) (by decide) rfl (As := [.int x4, .int (s0 &&& x3)]) (rest := []) rfl rfl rfl (Nat.le_of_ble_eq_true rfl) ?_
    exact h
set_option maxHeartbeats 4000000 in
set_option maxRecDepth 20000 in
theorem bX6_ways_99 {X : CX} {Q : State → Prop} {M : Mem} {G2 : Grf} {T2 : List (Nat × Nat)} {x2 x3 x4 x5 s0 : Int32} (C : Ok0 X mX6_ways (TTc ++ T2))
    (h : ((¬ s0 = (M 24 4) → WW X Q 86 [(0, .ref 24), (1, .ref 33), (2, .int x2), (3, .int x3), (4, .int x4), (5, .int (x5 + (1 : Int32)))] [] (M, (gj G2), TTc ++ T2)) ∧ (s0 = (M 24 4) → (vp_in x5 128 ∧ WW X Q 86 [(0, .ref 24), (1, .ref 33), (2, .int x2), (3, .int x3), (4, .int (x4 + (M 28 x5.toNatClampNeg))), (5, .int (x5 + (1 : Int32)))] [] (M, (gj G2), TTc ++ T2))))) :
    WW X Q 99 [(0, .ref 24), (1, .ref 33), (2, .int x2), (3, .int x3), (4, .int x4), (5, .int x5)] [.int s0] (M, (gj G2), TTc ++ T2) := by
  refine ww_aload_n C.1 dX6_ways_99 0 rfl rfl ?_
  refine wt_getI C.1 dX6_ways_100 flRX6_24 (tc24 T2) rfl ?_
  refine ww_icmp_ne (x := s0) (y := (M 24 4)) C.1 (tgt := 118) dX6_ways_103 (by decide) (fun hh => ?_) (fun hh => ?_)
  · replace h := h.1 hh
    refine ww_iinc C.1 (v := (x5 + (1 : Int32))) dX6_ways_118 5 rfl (by rfl) (by decide) [1, 2, 3, 4, 5, 0] (L' := [(0, .ref 24), (1, .ref 33), (2, .int x2), (3, .int x3), (4, .int x4), (5, .int (x5 + (1 : Int32)))]) rfl ?_
    refine ww_goto C.1 (tgt := 86) dX6_ways_121 (by decide) ?_
    exact h
  · replace h := h.2 hh
    refine ww_iload C.1 dX6_ways_106 4 rfl ?_
    refine ww_aload_n C.1 dX6_ways_108 0 rfl rfl ?_
    refine wt_getR C.1 dX6_ways_109 flRX6_21 (tc24 T2) rfl (gg24_3 G2) ?_
    refine ww_iload C.1 dX6_ways_112 5 rfl ?_
    refine wt_iald C.1 dX6_ways_114 (tc28 T2) h.1 ?_
    replace h := h.2
    refine ww_iadd C.1 dX6_ways_115 ?_
    refine ww_istore C.1 dX6_ways_116 (by decide) [1, 2, 3, 4, 0, 5] (L' := [(0, .ref 24), (1, .ref 33), (2, .int x2), (3, .int x3), (4, .int (x4 + (M 28 x5.toNatClampNeg))), (5, .int x5)]) rfl ?_
    refine ww_iinc C.1 (v := (x5 + (1 : Int32))) dX6_ways_118 5 rfl (by rfl) (by decide) [1, 2, 3, 4, 5, 0] (L' := [(0, .ref 24), (1, .ref 33), (2, .int x2), (3, .int x3), (4, .int (x4 + (M 28 x5.toNatClampNeg))), (5, .int (x5 + (1 : Int32)))]) rfl ?_
    refine ww_goto C.1 (tgt := 86) dX6_ways_121 (by decide) ?_
    exact h
set_option maxHeartbeats 4000000 in
set_option maxRecDepth 20000 in
theorem bX6_ways_74 {X : CX} {Q : State → Prop} {M : Mem} {G2 : Grf} {T2 : List (Nat × Nat)} {x2 x3 x4 x5 : Int32} (C : Ok0 X mX6_ways (TTc ++ T2))
    (h : WW X Q 35 [(0, .ref 24), (1, .ref 33), (2, .int x2), (3, .int x3), (4, .int (x4 + (1 : Int32)))] [] (M, (gj G2), TTc ++ T2)) :
    WW X Q 74 [(0, .ref 24), (1, .ref 33), (2, .int x2), (3, .int x3), (4, .int x4), (5, .int x5)] [] (M, (gj G2), TTc ++ T2) := by
  refine ww_iinc C.1 (v := (x4 + (1 : Int32))) dX6_ways_74 4 rfl (by rfl) (by decide) [1, 2, 3, 4, 0, 5] (L' := [(0, .ref 24), (1, .ref 33), (2, .int x2), (3, .int x3), (4, .int (x4 + (1 : Int32))), (5, .int x5)]) rfl ?_
  refine ww_goto C.1 (tgt := 35) dX6_ways_77 (by decide) ?_
  refine ww_loc [0, 1, 2, 3, 4] (L' := [(0, .ref 24), (1, .ref 33), (2, .int x2), (3, .int x3), (4, .int (x4 + (1 : Int32)))]) rfl ?_
  exact h
set_option maxHeartbeats 4000000 in
set_option maxRecDepth 20000 in
theorem bX6_addOne_0 {X : CX} {Q : State → Prop} {M : Mem} {G2 : Grf} {T2 : List (Nat × Nat)} {x1 x2 : Int32} (C : Ok0 X mX6_addOne (TTc ++ T2))
    (h : WW X Q 2 [(0, .ref 24), (1, .int x1), (2, .int x2), (3, .int (0 : Int32))] [] (M, (gj G2), TTc ++ T2)) :
    WW X Q 0 [(0, .ref 24), (1, .int x1), (2, .int x2)] [] (M, (gj G2), TTc ++ T2) := by
  refine ww_iconst C.1 (v := (0 : Int32)) dX6_addOne_0 (by decide) ?_
  refine ww_istore_n C.1 dX6_addOne_1 rfl (by decide) [1, 2, 3, 0] (L' := [(0, .ref 24), (1, .int x1), (2, .int x2), (3, .int (0 : Int32))]) rfl ?_
  exact h
set_option maxHeartbeats 4000000 in
set_option maxRecDepth 20000 in
theorem bX6_addOne_2 {X : CX} {Q : State → Prop} {M : Mem} {G2 : Grf} {T2 : List (Nat × Nat)} {x1 x2 x3 : Int32} (C : Ok0 X mX6_addOne (TTc ++ T2))
    (h : (((128 : Int32) ≤ x3 → RetOK X Q (none) (M, (gj G2), TTc ++ T2)) ∧ (¬ (128 : Int32) ≤ x3 → WpI mJ6_bitCount_0f7a4 [.int x3] M (gj G2) (TTc ++ T2) (fun r M' => WW X Q 13 [(0, .ref 24), (1, .int x1), (2, .int x2), (3, .int x3)] [.int r] (M', (gj G2), TTc ++ T2))))) :
    WW X Q 2 [(0, .ref 24), (1, .int x1), (2, .int x2), (3, .int x3)] [] (M, (gj G2), TTc ++ T2) := by
  refine ww_iload_n C.1 dX6_addOne_2 3 rfl rfl ?_
  refine ww_sipush C.1 (v := (128 : Int32)) dX6_addOne_3 (by decide) ?_
  refine ww_icmp_ge (x := x3) (y := (128 : Int32)) C.1 (tgt := 81) dX6_addOne_6 (by decide) (fun hh => ?_) (fun hh => ?_)
  · replace h := h.1 hh
    refine ww_vret C.1 dX6_addOne_81 rfl ?_
    exact h
  · replace h := h.2 hh
    refine ww_iload_n C.1 dX6_addOne_9 3 rfl rfl ?_
    refine ww_sI C fJ6_bitCount_0f7a4 (And.intro (by decide) (by decide)) mlRX6_66 dX6_addOne_10 (As := [.int x3]) (rest := []) rfl rfl rfl (Nat.le_of_ble_eq_true rfl) ?_
    exact h
set_option maxHeartbeats 4000000 in
set_option maxRecDepth 20000 in
theorem bX6_addOne_29 {X : CX} {Q : State → Prop} {M : Mem} {G2 : Grf} {T2 : List (Nat × Nat)} {x1 x2 x3 x4 : Int32} (C : Ok0 X mX6_addOne (TTc ++ T2))
    (h : (((7 : Int32) ≤ x4 → WW X Q 2 [(0, .ref 24), (1, .int x1), (2, .int x2), (3, .int (x3 + (1 : Int32)))] [] (M, (gj G2), TTc ++ T2)) ∧ (¬ (7 : Int32) ≤ x4 → ((¬ (((x2 &&& (x3 ^^^ (-1 : Int32))) >>> (x4 &&& 31)) &&& (1 : Int32)) = (1 : Int32) → WW X Q 29 [(0, .ref 24), (1, .int x1), (2, .int x2), (3, .int x3), (4, .int (x4 + (1 : Int32)))] [] (M, (gj G2), TTc ++ T2)) ∧ ((((x2 &&& (x3 ^^^ (-1 : Int32))) >>> (x4 &&& 31)) &&& (1 : Int32)) = (1 : Int32) → (vp_in (x3 ||| ((1 : Int32) <<< (x4 &&& 31))) 128 ∧ (vp_in x3 128 ∧ (vp_in (x3 ||| ((1 : Int32) <<< (x4 &&& 31))) 128 ∧ WW X Q 29 [(0, .ref 24), (1, .int x1), (2, .int x2), (3, .int x3), (4, .int (x4 + (1 : Int32)))] [] ((wr M 28 (x3 ||| ((1 : Int32) <<< (x4 &&& 31))).toNatClampNeg ((M 28 (x3 ||| ((1 : Int32) <<< (x4 &&& 31))).toNatClampNeg) + (M 28 x3.toNatClampNeg))), (gj G2), TTc ++ T2))))))))) :
    WW X Q 29 [(0, .ref 24), (1, .int x1), (2, .int x2), (3, .int x3), (4, .int x4)] [] (M, (gj G2), TTc ++ T2) := by
  refine ww_iload C.1 dX6_addOne_29 4 rfl ?_
  refine ww_bipush C.1 (v := (7 : Int32)) dX6_addOne_31 (by decide) ?_
  refine ww_icmp_ge (x := x4) (y := (7 : Int32)) C.1 (tgt := 75) dX6_addOne_33 (by decide) (fun hh => ?_) (fun hh => ?_)
  · replace h := h.1 hh
    refine ww_iinc C.1 (v := (x3 + (1 : Int32))) dX6_addOne_75 3 rfl (by rfl) (by decide) [1, 2, 3, 0, 4] (L' := [(0, .ref 24), (1, .int x1), (2, .int x2), (3, .int (x3 + (1 : Int32))), (4, .int x4)]) rfl ?_
    refine ww_goto C.1 (tgt := 2) dX6_addOne_78 (by decide) ?_
    refine ww_loc [0, 1, 2, 3] (L' := [(0, .ref 24), (1, .int x1), (2, .int x2), (3, .int (x3 + (1 : Int32)))]) rfl ?_
    exact h
  · replace h := h.2 hh
    refine ww_iload_n C.1 dX6_addOne_36 2 rfl rfl ?_
    refine ww_iload_n C.1 dX6_addOne_37 3 rfl rfl ?_
    refine ww_iconst C.1 (v := (-1 : Int32)) dX6_addOne_38 (by decide) ?_
    refine ww_ixor C.1 dX6_addOne_39 ?_
    refine ww_iand C.1 dX6_addOne_40 ?_
    refine ww_iload C.1 dX6_addOne_41 4 rfl ?_
    refine ww_nI C fX9_isIn (And.intro (by decide) (by decide)) nlRX6_50 dX6_addOne_43 (As := [.int (x2 &&& (x3 ^^^ (-1 : Int32))), .int x4]) (rest := []) rfl rfl rfl (Nat.le_of_ble_eq_true rfl) (WpI.of (L0 := [(0, .int (x2 &&& (x3 ^^^ (-1 : Int32)))), (1, .int x4)]) rfl rfl (Nat.le_of_ble_eq_true rfl) fun X1 Q1 C1 k1 => ?_)
    refine ww_iload_n C1.1 dX9_isIn_0 0 rfl rfl ?_
    refine ww_iload_n C1.1 dX9_isIn_1 1 rfl rfl ?_
    refine ww_ishr C1.1 dX9_isIn_2 ?_
    refine ww_iconst C1.1 (v := (1 : Int32)) dX9_isIn_3 (by decide) ?_
    refine ww_iand C1.1 dX9_isIn_4 ?_
    refine ww_iconst C1.1 (v := (1 : Int32)) dX9_isIn_5 (by decide) ?_
    refine ww_icmp_ne (x := (((x2 &&& (x3 ^^^ (-1 : Int32))) >>> (x4 &&& 31)) &&& (1 : Int32))) (y := (1 : Int32)) C1.1 (tgt := 13) dX9_isIn_6 (by decide) (fun hh => ?_) (fun hh => ?_)
    · replace h := h.1 hh
      refine ww_iconst C1.1 (v := (0 : Int32)) dX9_isIn_13 (by decide) ?_
      refine ww_zret C1.1 dX9_isIn_14 rfl (Or.inl rfl) ?_
      refine k1 _ _ ?_
      refine ww_if_eq (x := (0 : Int32)) C.1 (tgt := 69) dX6_addOne_46 (by decide) (fun _ => ?_) (fun hh => absurd hh (by decide))
      refine ww_iinc C.1 (v := (x4 + (1 : Int32))) dX6_addOne_69 4 rfl (by rfl) (by decide) [1, 2, 3, 4, 0] (L' := [(0, .ref 24), (1, .int x1), (2, .int x2), (3, .int x3), (4, .int (x4 + (1 : Int32)))]) rfl ?_
      refine ww_goto C.1 (tgt := 29) dX6_addOne_72 (by decide) ?_
      exact h
    · replace h := h.2 hh
      refine ww_iconst C1.1 (v := (1 : Int32)) dX9_isIn_9 (by decide) ?_
      refine ww_goto C1.1 (tgt := 14) dX9_isIn_10 (by decide) ?_
      refine ww_zret C1.1 dX9_isIn_14 rfl (Or.inr rfl) ?_
      refine k1 _ _ ?_
      refine ww_if_eq (x := (1 : Int32)) C.1 (tgt := 69) dX6_addOne_46 (by decide) (fun hh => absurd hh (by decide)) (fun _ => ?_)
      refine ww_aload_n C.1 dX6_addOne_49 0 rfl rfl ?_
      refine wt_getR C.1 dX6_addOne_50 flRX6_21 (tc24 T2) rfl (gg24_3 G2) ?_
      refine ww_iload_n C.1 dX6_addOne_53 3 rfl rfl ?_
      refine ww_iconst C.1 (v := (1 : Int32)) dX6_addOne_54 (by decide) ?_
      refine ww_iload C.1 dX6_addOne_55 4 rfl ?_
      refine ww_ishl C.1 dX6_addOne_57 ?_
      refine ww_ior C.1 dX6_addOne_58 ?_
      refine ww_dup2 C.1 dX6_addOne_59 rfl rfl ?_
      refine wt_iald C.1 dX6_addOne_60 (tc28 T2) h.1 ?_
      replace h := h.2
      refine ww_aload_n C.1 dX6_addOne_61 0 rfl rfl ?_
      refine wt_getR C.1 dX6_addOne_62 flRX6_21 (tc24 T2) rfl (gg24_3 G2) ?_
      refine ww_iload_n C.1 dX6_addOne_65 3 rfl rfl ?_
      refine wt_iald C.1 dX6_addOne_66 (tc28 T2) h.1 ?_
      replace h := h.2
      refine ww_iadd C.1 dX6_addOne_67 ?_
      refine wt_iast C.1 dX6_addOne_68 (tc28 T2) h.1 ?_
      replace h := h.2
      refine ww_iinc C.1 (v := (x4 + (1 : Int32))) dX6_addOne_69 4 rfl (by rfl) (by decide) [1, 2, 3, 4, 0] (L' := [(0, .ref 24), (1, .int x1), (2, .int x2), (3, .int x3), (4, .int (x4 + (1 : Int32)))]) rfl ?_
      refine ww_goto C.1 (tgt := 29) dX6_addOne_72 (by decide) ?_
      exact h
set_option maxHeartbeats 4000000 in
set_option maxRecDepth 20000 in
theorem bX6_addOne_13 {X : CX} {Q : State → Prop} {M : Mem} {G2 : Grf} {T2 : List (Nat × Nat)} {x1 x2 x3 s0 : Int32} (C : Ok0 X mX6_addOne (TTc ++ T2))
    (h : ((¬ s0 = x1 → WW X Q 2 [(0, .ref 24), (1, .int x1), (2, .int x2), (3, .int (x3 + (1 : Int32)))] [] (M, (gj G2), TTc ++ T2)) ∧ (s0 = x1 → (vp_in x3 128 ∧ (((M 28 x3.toNatClampNeg) ≤ (0 : Int32) → WW X Q 2 [(0, .ref 24), (1, .int x1), (2, .int x2), (3, .int (x3 + (1 : Int32)))] [] (M, (gj G2), TTc ++ T2)) ∧ (¬ (M 28 x3.toNatClampNeg) ≤ (0 : Int32) → WW X Q 29 [(0, .ref 24), (1, .int x1), (2, .int x2), (3, .int x3), (4, .int (0 : Int32))] [] (M, (gj G2), TTc ++ T2))))))) :
    WW X Q 13 [(0, .ref 24), (1, .int x1), (2, .int x2), (3, .int x3)] [.int s0] (M, (gj G2), TTc ++ T2) := by
  refine ww_iload_n C.1 dX6_addOne_13 1 rfl rfl ?_
  refine ww_icmp_ne (x := s0) (y := x1) C.1 (tgt := 75) dX6_addOne_14 (by decide) (fun hh => ?_) (fun hh => ?_)
  · replace h := h.1 hh
    refine ww_iinc C.1 (v := (x3 + (1 : Int32))) dX6_addOne_75 3 rfl (by rfl) (by decide) [1, 2, 3, 0] (L' := [(0, .ref 24), (1, .int x1), (2, .int x2), (3, .int (x3 + (1 : Int32)))]) rfl ?_
    refine ww_goto C.1 (tgt := 2) dX6_addOne_78 (by decide) ?_
    exact h
  · replace h := h.2 hh
    refine ww_aload_n C.1 dX6_addOne_17 0 rfl rfl ?_
    refine wt_getR C.1 dX6_addOne_18 flRX6_21 (tc24 T2) rfl (gg24_3 G2) ?_
    refine ww_iload_n C.1 dX6_addOne_21 3 rfl rfl ?_
    refine wt_iald C.1 dX6_addOne_22 (tc28 T2) h.1 ?_
    replace h := h.2
    refine ww_if_le (x := (M 28 x3.toNatClampNeg)) C.1 (tgt := 75) dX6_addOne_23 (by decide) (fun hh => ?_) (fun hh => ?_)
    · replace h := h.1 hh
      refine ww_iinc C.1 (v := (x3 + (1 : Int32))) dX6_addOne_75 3 rfl (by rfl) (by decide) [1, 2, 3, 0] (L' := [(0, .ref 24), (1, .int x1), (2, .int x2), (3, .int (x3 + (1 : Int32)))]) rfl ?_
      refine ww_goto C.1 (tgt := 2) dX6_addOne_78 (by decide) ?_
      exact h
    · replace h := h.2 hh
      refine ww_iconst C.1 (v := (0 : Int32)) dX6_addOne_26 (by decide) ?_
      refine ww_istore C.1 dX6_addOne_27 (by decide) [1, 2, 3, 4, 0] (L' := [(0, .ref 24), (1, .int x1), (2, .int x2), (3, .int x3), (4, .int (0 : Int32))]) rfl ?_
      exact h
set_option maxHeartbeats 4000000 in
set_option maxRecDepth 20000 in
theorem bX6_onlySleeperOf_0 {X : CX} {Q : State → Prop} {M : Mem} {G2 : Grf} {T2 : List (Nat × Nat)} {x2 : Int32} (C : Ok0 X mX6_onlySleeperOf (TTc ++ T2))
    (h : WpI mX6_ways [.ref 24, .ref 33, .int (-4 : Int32), .int (0 : Int32)] M (gj G2) (TTc ++ T2) (fun r M' => WW X Q 8 [(0, .ref 24), (1, .ref 33), (2, .int x2)] [.int r] (M', (gj G2), TTc ++ T2))) :
    WW X Q 0 [(0, .ref 24), (1, .ref 33), (2, .int x2)] [] (M, (gj G2), TTc ++ T2) := by
  refine ww_aload_n C.1 dX6_onlySleeperOf_0 0 rfl rfl ?_
  refine ww_aload_n C.1 dX6_onlySleeperOf_1 1 rfl rfl ?_
  refine ww_bipush C.1 (v := (-4 : Int32)) dX6_onlySleeperOf_2 (by decide) ?_
  refine ww_iconst C.1 (v := (0 : Int32)) dX6_onlySleeperOf_4 (by decide) ?_
  refine ww_vI C fX6_ways (And.intro (by decide) (by decide)) mlRX6_71 dX6_onlySleeperOf_5 (tc24 T2) (by decide) rfl (As := [.ref 33, .int (-4 : Int32), .int (0 : Int32)]) (rest := []) rfl rfl rfl (Nat.le_of_ble_eq_true rfl) ?_
  exact h
set_option maxHeartbeats 4000000 in
set_option maxRecDepth 20000 in
theorem bX6_onlySleeperOf_12 {X : CX} {Q : State → Prop} {M : Mem} {G2 : Grf} {T2 : List (Nat × Nat)} {x2 x3 x4 : Int32} (C : Ok0 X mX6_onlySleeperOf (TTc ++ T2))
    (h : (((M 37 6) ≤ x4 → RetOK X Q (some (.int (-4 : Int32))) (M, (gj G2), TTc ++ T2)) ∧ (¬ (M 37 6) ≤ x4 → ((x3 ≤ (0 : Int32) → RetOK X Q (some (.int (-4 : Int32))) (M, (gj G2), TTc ++ T2)) ∧ (¬ x3 ≤ (0 : Int32) → WpI mX6_ways [.ref 24, .ref 33, .int x2, .int ((1 : Int32) <<< (x4 &&& 31))] M (gj G2) (TTc ++ T2) (fun r M' => WW X Q 38 [(0, .ref 24), (1, .ref 33), (2, .int x2), (3, .int x3), (4, .int x4)] [.int r] (M', (gj G2), TTc ++ T2))))))) :
    WW X Q 12 [(0, .ref 24), (1, .ref 33), (2, .int x2), (3, .int x3), (4, .int x4)] [] (M, (gj G2), TTc ++ T2) := by
  refine ww_iload C.1 dX6_onlySleeperOf_12 4 rfl ?_
  refine ww_aload_n C.1 dX6_onlySleeperOf_14 1 rfl rfl ?_
  refine wt_getR C.1 dX6_onlySleeperOf_15 flRX6_39 (tc33 T2) rfl (gg33_1 G2) ?_
  refine wt_getI C.1 dX6_onlySleeperOf_18 flRX6_49 (tc37 T2) rfl ?_
  refine ww_icmp_ge (x := x4) (y := (M 37 6)) C.1 (tgt := 51) dX6_onlySleeperOf_21 (by decide) (fun hh => ?_) (fun hh => ?_)
  · replace h := h.1 hh
    refine ww_bipush C.1 (v := (-4 : Int32)) dX6_onlySleeperOf_51 (by decide) ?_
    refine ww_iret C.1 dX6_onlySleeperOf_53 rfl ?_
    exact h
  · replace h := h.2 hh
    refine ww_iload_n C.1 dX6_onlySleeperOf_24 3 rfl rfl ?_
    refine ww_if_le (x := x3) C.1 (tgt := 51) dX6_onlySleeperOf_25 (by decide) (fun hh => ?_) (fun hh => ?_)
    · replace h := h.1 hh
      refine ww_bipush C.1 (v := (-4 : Int32)) dX6_onlySleeperOf_51 (by decide) ?_
      refine ww_iret C.1 dX6_onlySleeperOf_53 rfl ?_
      exact h
    · replace h := h.2 hh
      refine ww_aload_n C.1 dX6_onlySleeperOf_28 0 rfl rfl ?_
      refine ww_aload_n C.1 dX6_onlySleeperOf_29 1 rfl rfl ?_
      refine ww_iload_n C.1 dX6_onlySleeperOf_30 2 rfl rfl ?_
      refine ww_iconst C.1 (v := (1 : Int32)) dX6_onlySleeperOf_31 (by decide) ?_
      refine ww_iload C.1 dX6_onlySleeperOf_32 4 rfl ?_
      refine ww_ishl C.1 dX6_onlySleeperOf_34 ?_
      refine ww_vI C fX6_ways (And.intro (by decide) (by decide)) mlRX6_71 dX6_onlySleeperOf_35 (tc24 T2) (by decide) rfl (As := [.ref 33, .int x2, .int ((1 : Int32) <<< (x4 &&& 31))]) (rest := []) rfl rfl rfl (Nat.le_of_ble_eq_true rfl) ?_
      exact h
set_option maxHeartbeats 4000000 in
set_option maxRecDepth 20000 in
theorem bX6_onlySleeperOf_8 {X : CX} {Q : State → Prop} {M : Mem} {G2 : Grf} {T2 : List (Nat × Nat)} {x2 s0 : Int32} (C : Ok0 X mX6_onlySleeperOf (TTc ++ T2))
    (h : WW X Q 12 [(0, .ref 24), (1, .ref 33), (2, .int x2), (3, .int s0), (4, .int (0 : Int32))] [] (M, (gj G2), TTc ++ T2)) :
    WW X Q 8 [(0, .ref 24), (1, .ref 33), (2, .int x2)] [.int s0] (M, (gj G2), TTc ++ T2) := by
  refine ww_istore_n C.1 dX6_onlySleeperOf_8 rfl (by decide) [1, 2, 3, 0] (L' := [(0, .ref 24), (1, .ref 33), (2, .int x2), (3, .int s0)]) rfl ?_
  refine ww_iconst C.1 (v := (0 : Int32)) dX6_onlySleeperOf_9 (by decide) ?_
  refine ww_istore C.1 dX6_onlySleeperOf_10 (by decide) [1, 2, 3, 4, 0] (L' := [(0, .ref 24), (1, .ref 33), (2, .int x2), (3, .int s0), (4, .int (0 : Int32))]) rfl ?_
  exact h
set_option maxHeartbeats 4000000 in
set_option maxRecDepth 20000 in
theorem bX6_onlySleeperOf_38 {X : CX} {Q : State → Prop} {M : Mem} {G2 : Grf} {T2 : List (Nat × Nat)} {x2 x3 x4 s0 : Int32} (C : Ok0 X mX6_onlySleeperOf (TTc ++ T2))
    (h : ((¬ s0 = x3 → WW X Q 12 [(0, .ref 24), (1, .ref 33), (2, .int x2), (3, .int x3), (4, .int (x4 + (1 : Int32)))] [] (M, (gj G2), TTc ++ T2)) ∧ (s0 = x3 → RetOK X Q (some (.int x4)) (M, (gj G2), TTc ++ T2)))) :
    WW X Q 38 [(0, .ref 24), (1, .ref 33), (2, .int x2), (3, .int x3), (4, .int x4)] [.int s0] (M, (gj G2), TTc ++ T2) := by
  refine ww_iload_n C.1 dX6_onlySleeperOf_38 3 rfl rfl ?_
  refine ww_icmp_ne (x := s0) (y := x3) C.1 (tgt := 45) dX6_onlySleeperOf_39 (by decide) (fun hh => ?_) (fun hh => ?_)
  · replace h := h.1 hh
    refine ww_iinc C.1 (v := (x4 + (1 : Int32))) dX6_onlySleeperOf_45 4 rfl (by rfl) (by decide) [1, 2, 3, 4, 0] (L' := [(0, .ref 24), (1, .ref 33), (2, .int x2), (3, .int x3), (4, .int (x4 + (1 : Int32)))]) rfl ?_
    refine ww_goto C.1 (tgt := 12) dX6_onlySleeperOf_48 (by decide) ?_
    exact h
  · replace h := h.2 hh
    refine ww_iload C.1 dX6_onlySleeperOf_42 4 rfl ?_
    refine ww_iret C.1 dX6_onlySleeperOf_44 rfl ?_
    exact h
set_option maxHeartbeats 4000000 in
set_option maxRecDepth 20000 in
theorem bX7_put_0 {X : CX} {Q : State → Prop} {M : Mem} {G2 : Grf} {T2 : List (Nat × Nat)} {x1 : Int32} (C : Ok0 X mX7_put (TTc ++ T2))
    (h : (((M 1 2) < (200 : Int32) → (vp_in (M 1 2) 200 ∧ RetOK X Q (some (.int (1 : Int32))) ((wr (wr M 2 (M 1 2).toNatClampNeg (vp_nar .char x1)) 1 2 ((M 1 2) + (1 : Int32))), (gj G2), TTc ++ T2))) ∧ (¬ (M 1 2) < (200 : Int32) → RetOK X Q (some (.int (0 : Int32))) (M, (gj G2), TTc ++ T2)))) :
    WW X Q 0 [(0, .ref 1), (1, .int x1)] [] (M, (gj G2), TTc ++ T2) := by
  refine ww_aload_n C.1 dX7_put_0 0 rfl rfl ?_
  refine wt_getI C.1 dX7_put_1 flRX7_19 (tc1 T2) rfl ?_
  refine ww_sipush C.1 (v := (200 : Int32)) dX7_put_4 (by decide) ?_
  refine ww_icmp_lt (x := (M 1 2)) (y := (200 : Int32)) C.1 (tgt := 12) dX7_put_7 (by decide) (fun hh => ?_) (fun hh => ?_)
  · replace h := h.1 hh
    refine ww_aload_n C.1 dX7_put_12 0 rfl rfl ?_
    refine wt_getR C.1 dX7_put_13 flRX7_9 (tc1 T2) rfl (gg1_0 G2) ?_
    refine ww_aload_n C.1 dX7_put_16 0 rfl rfl ?_
    refine wt_getI C.1 dX7_put_17 flRX7_19 (tc1 T2) rfl ?_
    refine ww_iload_n C.1 dX7_put_20 1 rfl rfl ?_
    refine wt_cast C.1 dX7_put_21 (tc2 T2) h.1 ?_
    replace h := h.2
    refine ww_aload_n C.1 dX7_put_22 0 rfl rfl ?_
    refine ww_dup C.1 dX7_put_23 rfl ?_
    refine wt_getI C.1 dX7_put_24 flRX7_19 (tc1 T2) rfl ?_
    refine ww_iconst C.1 (v := (1 : Int32)) dX7_put_27 (by decide) ?_
    refine ww_iadd C.1 dX7_put_28 ?_
    refine wt_putI C.1 dX7_put_29 flRX7_19 (tc1 T2) rfl ?_
    refine ww_iconst C.1 (v := (1 : Int32)) dX7_put_32 (by decide) ?_
    refine ww_zret C.1 dX7_put_33 rfl (Or.inr rfl) ?_
    exact h
  · replace h := h.2 hh
    refine ww_iconst C.1 (v := (0 : Int32)) dX7_put_10 (by decide) ?_
    refine ww_zret C.1 dX7_put_11 rfl (Or.inl rfl) ?_
    exact h
set_option maxHeartbeats 4000000 in
set_option maxRecDepth 20000 in
theorem bX7_readInto_0 {X : CX} {Q : State → Prop} {M : Mem} {G2 : Grf} {T2 : List (Nat × Nat)} (C : Ok0 X mX7_readInto (TTc ++ T2))
    (h : WpV mX2_clear [.ref 45] M (gj G2) (TTc ++ T2) (fun M' => WW X Q 4 [(0, .ref 1), (1, .ref 45)] [] (M', (gj G2), TTc ++ T2))) :
    WW X Q 0 [(0, .ref 1), (1, .ref 45)] [] (M, (gj G2), TTc ++ T2) := by
  refine ww_aload_n C.1 dX7_readInto_0 1 rfl rfl ?_
  refine ww_vV C fX2_clear (And.intro (by decide) (by decide)) mlRX7_23 dX7_readInto_1 (tc45 T2) (by decide) rfl (As := []) (rest := []) rfl rfl rfl (Nat.le_of_ble_eq_true rfl) ?_
  exact h
set_option maxHeartbeats 4000000 in
set_option maxRecDepth 20000 in
theorem bX7_readInto_8 {X : CX} {Q : State → Prop} {M : Mem} {G2 : Grf} {T2 : List (Nat × Nat)} {x2 x3 : Int32} (C : Ok0 X mX7_readInto (TTc ++ T2))
    (h : (((200 : Int32) ≤ x3 → RetOK X Q (some (.int (-4 : Int32))) (M, (gj G2), TTc ++ T2)) ∧ (¬ (200 : Int32) ≤ x3 → (((M 1 2) ≤ x2 → RetOK X Q (some (.int (-4 : Int32))) (M, (gj G2), TTc ++ T2)) ∧ (¬ (M 1 2) ≤ x2 → WpI mX7_readNumbers [.ref 1, .int (x2 + (1 : Int32))] M (gj G2) (TTc ++ T2) (fun r M' => WW X Q 30 [(0, .ref 1), (1, .ref 45), (2, .int x2), (3, .int x3)] [.int r] (M', (gj G2), TTc ++ T2))))))) :
    WW X Q 8 [(0, .ref 1), (1, .ref 45), (2, .int x2), (3, .int x3)] [] (M, (gj G2), TTc ++ T2) := by
  refine ww_iload_n C.1 dX7_readInto_8 3 rfl rfl ?_
  refine ww_sipush C.1 (v := (200 : Int32)) dX7_readInto_9 (by decide) ?_
  refine ww_icmp_ge (x := x3) (y := (200 : Int32)) C.1 (tgt := 83) dX7_readInto_12 (by decide) (fun hh => ?_) (fun hh => ?_)
  · replace h := h.1 hh
    refine ww_bipush C.1 (v := (-4 : Int32)) dX7_readInto_83 (by decide) ?_
    refine ww_iret C.1 dX7_readInto_85 rfl ?_
    exact h
  · replace h := h.2 hh
    refine ww_iload_n C.1 dX7_readInto_15 2 rfl rfl ?_
    refine ww_aload_n C.1 dX7_readInto_16 0 rfl rfl ?_
    refine wt_getI C.1 dX7_readInto_17 flRX7_19 (tc1 T2) rfl ?_
    refine ww_icmp_ge (x := x2) (y := (M 1 2)) C.1 (tgt := 83) dX7_readInto_20 (by decide) (fun hh => ?_) (fun hh => ?_)
    · replace h := h.1 hh
      refine ww_bipush C.1 (v := (-4 : Int32)) dX7_readInto_83 (by decide) ?_
      refine ww_iret C.1 dX7_readInto_85 rfl ?_
      exact h
    · replace h := h.2 hh
      refine ww_aload_n C.1 dX7_readInto_23 0 rfl rfl ?_
      refine ww_iload_n C.1 dX7_readInto_24 2 rfl rfl ?_
      refine ww_iconst C.1 (v := (1 : Int32)) dX7_readInto_25 (by decide) ?_
      refine ww_iadd C.1 dX7_readInto_26 ?_
      refine ww_vI C fX7_readNumbers (And.intro (by decide) (by decide)) mlRX7_28 dX7_readInto_27 (tc1 T2) (by decide) rfl (As := [.int (x2 + (1 : Int32))]) (rest := []) rfl rfl rfl (Nat.le_of_ble_eq_true rfl) ?_
      exact h
set_option maxHeartbeats 4000000 in
set_option maxRecDepth 20000 in
theorem bX7_readInto_4 {X : CX} {Q : State → Prop} {M : Mem} {G2 : Grf} {T2 : List (Nat × Nat)} (C : Ok0 X mX7_readInto (TTc ++ T2))
    (h : WW X Q 8 [(0, .ref 1), (1, .ref 45), (2, .int (0 : Int32)), (3, .int (0 : Int32))] [] (M, (gj G2), TTc ++ T2)) :
    WW X Q 4 [(0, .ref 1), (1, .ref 45)] [] (M, (gj G2), TTc ++ T2) := by
  refine ww_iconst C.1 (v := (0 : Int32)) dX7_readInto_4 (by decide) ?_
  refine ww_istore_n C.1 dX7_readInto_5 rfl (by decide) [1, 2, 0] (L' := [(0, .ref 1), (1, .ref 45), (2, .int (0 : Int32))]) rfl ?_
  refine ww_iconst C.1 (v := (0 : Int32)) dX7_readInto_6 (by decide) ?_
  refine ww_istore_n C.1 dX7_readInto_7 rfl (by decide) [1, 2, 3, 0] (L' := [(0, .ref 1), (1, .ref 45), (2, .int (0 : Int32)), (3, .int (0 : Int32))]) rfl ?_
  exact h
set_option maxHeartbeats 4000000 in
set_option maxRecDepth 20000 in
theorem bX7_readInto_30 {X : CX} {Q : State → Prop} {M : Mem} {G2 : Grf} {T2 : List (Nat × Nat)} {x2 x3 s0 : Int32} (C : Ok0 X mX7_readInto (TTc ++ T2))
    (h : ((s0 = (-1 : Int32) → RetOK X Q (some (.int x2)) (M, (gj G2), TTc ++ T2)) ∧ (¬ s0 = (-1 : Int32) → WpI mX7_letterAt [.ref 1, .int x2] M (gj G2) (TTc ++ T2) (fun r M' => WW X Q 44 [(0, .ref 1), (1, .ref 45), (2, .int x2), (3, .int x3), (4, .int s0)] [.int r, .ref 45] (M', (gj G2), TTc ++ T2))))) :
    WW X Q 30 [(0, .ref 1), (1, .ref 45), (2, .int x2), (3, .int x3)] [.int s0] (M, (gj G2), TTc ++ T2) := by
  refine ww_istore C.1 dX7_readInto_30 (by decide) [1, 2, 3, 4, 0] (L' := [(0, .ref 1), (1, .ref 45), (2, .int x2), (3, .int x3), (4, .int s0)]) rfl ?_
  refine ww_iload C.1 dX7_readInto_32 4 rfl ?_
  refine ww_iconst C.1 (v := (-1 : Int32)) dX7_readInto_34 (by decide) ?_
  refine ww_icmp_eq (x := s0) (y := (-1 : Int32)) C.1 (tgt := 72) dX7_readInto_35 (by decide) (fun hh => ?_) (fun hh => ?_)
  · replace h := h.1 hh
    refine ww_iload_n C.1 dX7_readInto_72 2 rfl rfl ?_
    refine ww_iret C.1 dX7_readInto_73 rfl ?_
    exact h
  · replace h := h.2 hh
    refine ww_aload_n C.1 dX7_readInto_38 1 rfl rfl ?_
    refine ww_aload_n C.1 dX7_readInto_39 0 rfl rfl ?_
    refine ww_iload_n C.1 dX7_readInto_40 2 rfl rfl ?_
    refine ww_vI C fX7_letterAt (And.intro (by decide) (by decide)) mlRX7_32 dX7_readInto_41 (tc1 T2) (by decide) rfl (As := [.int x2]) (rest := [.ref 45]) rfl rfl rfl (Nat.le_of_ble_eq_true rfl) ?_
    exact h
set_option maxHeartbeats 4000000 in
set_option maxRecDepth 20000 in
theorem bX7_readInto_44 {X : CX} {Q : State → Prop} {M : Mem} {G2 : Grf} {T2 : List (Nat × Nat)} {x2 x3 x4 s1 : Int32} (C : Ok0 X mX7_readInto (TTc ++ T2))
    (h : WpI mX2_tell [.ref 45, .int s1, .int (M 1 3), .int (M 3 0), .int (M 3 1), .int (M 3 2)] M (gj G2) (TTc ++ T2) (fun r M' => WW X Q 69 [(0, .ref 1), (1, .ref 45), (2, .int x2), (3, .int x3), (4, .int x4)] [.int r] (M', (gj G2), TTc ++ T2))) :
    WW X Q 44 [(0, .ref 1), (1, .ref 45), (2, .int x2), (3, .int x3), (4, .int x4)] [.int s1, .ref 45] (M, (gj G2), TTc ++ T2) := by
  refine ww_aload_n C.1 dX7_readInto_44 0 rfl rfl ?_
  refine wt_getI C.1 dX7_readInto_45 flRX7_35 (tc1 T2) rfl ?_
  refine ww_aload_n C.1 dX7_readInto_48 0 rfl rfl ?_
  refine wt_getR C.1 dX7_readInto_49 flRX7_15 (tc1 T2) rfl (gg1_1 G2) ?_
  refine ww_iconst C.1 (v := (0 : Int32)) dX7_readInto_52 (by decide) ?_
  refine wt_iald C.1 dX7_readInto_53 (tc3 T2) (vp_lit (by decide) (by decide)) ?_
  refine ww_aload_n C.1 dX7_readInto_54 0 rfl rfl ?_
  refine wt_getR C.1 dX7_readInto_55 flRX7_15 (tc1 T2) rfl (gg1_1 G2) ?_
  refine ww_iconst C.1 (v := (1 : Int32)) dX7_readInto_58 (by decide) ?_
  refine wt_iald C.1 dX7_readInto_59 (tc3 T2) (vp_lit (by decide) (by decide)) ?_
  refine ww_aload_n C.1 dX7_readInto_60 0 rfl rfl ?_
  refine wt_getR C.1 dX7_readInto_61 flRX7_15 (tc1 T2) rfl (gg1_1 G2) ?_
  refine ww_iconst C.1 (v := (2 : Int32)) dX7_readInto_64 (by decide) ?_
  refine wt_iald C.1 dX7_readInto_65 (tc3 T2) (vp_lit (by decide) (by decide)) ?_
  refine ww_vI C fX2_tell (And.intro (by decide) (by decide)) mlRX7_38 dX7_readInto_66 (tc45 T2) (by decide) rfl (As := [.int s1, .int (M 1 3), .int (M 3 0), .int (M 3 1), .int (M 3 2)]) (rest := []) rfl rfl rfl (Nat.le_of_ble_eq_true rfl) ?_
  exact h
set_option maxHeartbeats 4000000 in
set_option maxRecDepth 20000 in
theorem bX7_readInto_69 {X : CX} {Q : State → Prop} {M : Mem} {G2 : Grf} {T2 : List (Nat × Nat)} {x2 x3 x4 s0 : Int32} (C : Ok0 X mX7_readInto (TTc ++ T2))
    (h : ((¬ s0 = (0 : Int32) → WW X Q 8 [(0, .ref 1), (1, .ref 45), (2, .int x4), (3, .int (x3 + (1 : Int32)))] [] (M, (gj G2), TTc ++ T2)) ∧ (s0 = (0 : Int32) → RetOK X Q (some (.int x2)) (M, (gj G2), TTc ++ T2)))) :
    WW X Q 69 [(0, .ref 1), (1, .ref 45), (2, .int x2), (3, .int x3), (4, .int x4)] [.int s0] (M, (gj G2), TTc ++ T2) := by
  refine ww_if_ne (x := s0) C.1 (tgt := 74) dX7_readInto_69 (by decide) (fun hh => ?_) (fun hh => ?_)
  · replace h := h.1 hh
    refine ww_iload C.1 dX7_readInto_74 4 rfl ?_
    refine ww_istore_n C.1 dX7_readInto_76 rfl (by decide) [1, 2, 0, 3, 4] (L' := [(0, .ref 1), (1, .ref 45), (2, .int x4), (3, .int x3), (4, .int x4)]) rfl ?_
    refine ww_iinc C.1 (v := (x3 + (1 : Int32))) dX7_readInto_77 3 rfl (by rfl) (by decide) [1, 2, 3, 0, 4] (L' := [(0, .ref 1), (1, .ref 45), (2, .int x4), (3, .int (x3 + (1 : Int32))), (4, .int x4)]) rfl ?_
    refine ww_goto C.1 (tgt := 8) dX7_readInto_80 (by decide) ?_
    refine ww_loc [0, 1, 2, 3] (L' := [(0, .ref 1), (1, .ref 45), (2, .int x4), (3, .int (x3 + (1 : Int32)))]) rfl ?_
    exact h
  · replace h := h.2 hh
    refine ww_iload_n C.1 dX7_readInto_72 2 rfl rfl ?_
    refine ww_iret C.1 dX7_readInto_73 rfl ?_
    exact h
set_option maxHeartbeats 4000000 in
set_option maxRecDepth 20000 in
theorem bX7_readNumbers_0 {X : CX} {Q : State → Prop} {M : Mem} {G2 : Grf} {T2 : List (Nat × Nat)} {x1 : Int32} (C : Ok0 X mX7_readNumbers (TTc ++ T2))
    (h : WW X Q 4 [(0, .ref 1), (1, .int x1), (2, .int x1), (3, .int (0 : Int32))] [] (M, (gj G2), TTc ++ T2)) :
    WW X Q 0 [(0, .ref 1), (1, .int x1)] [] (M, (gj G2), TTc ++ T2) := by
  refine ww_iload_n C.1 dX7_readNumbers_0 1 rfl rfl ?_
  refine ww_istore_n C.1 dX7_readNumbers_1 rfl (by decide) [1, 2, 0] (L' := [(0, .ref 1), (1, .int x1), (2, .int x1)]) rfl ?_
  refine ww_iconst C.1 (v := (0 : Int32)) dX7_readNumbers_2 (by decide) ?_
  refine ww_istore_n C.1 dX7_readNumbers_3 rfl (by decide) [1, 2, 3, 0] (L' := [(0, .ref 1), (1, .int x1), (2, .int x1), (3, .int (0 : Int32))]) rfl ?_
  exact h
set_option maxHeartbeats 4000000 in
set_option maxRecDepth 20000 in
theorem bX7_readNumbers_4 {X : CX} {Q : State → Prop} {M : Mem} {G2 : Grf} {T2 : List (Nat × Nat)} {x1 x2 x3 : Int32} (C : Ok0 X mX7_readNumbers (TTc ++ T2))
    (h : (((3 : Int32) ≤ x3 → RetOK X Q (some (.int (-1 : Int32))) (M, (gj G2), TTc ++ T2)) ∧ (¬ (3 : Int32) ≤ x3 → WpI mX7_isFigure [.ref 1, .int x2] M (gj G2) (TTc ++ T2) (fun r M' => WW X Q 14 [(0, .ref 1), (1, .int x1), (2, .int x2), (3, .int x3)] [.int r] (M', (gj G2), TTc ++ T2))))) :
    WW X Q 4 [(0, .ref 1), (1, .int x1), (2, .int x2), (3, .int x3)] [] (M, (gj G2), TTc ++ T2) := by
  refine ww_iload_n C.1 dX7_readNumbers_4 3 rfl rfl ?_
  refine ww_iconst C.1 (v := (3 : Int32)) dX7_readNumbers_5 (by decide) ?_
  refine ww_icmp_ge (x := x3) (y := (3 : Int32)) C.1 (tgt := 113) dX7_readNumbers_6 (by decide) (fun hh => ?_) (fun hh => ?_)
  · replace h := h.1 hh
    refine ww_iconst C.1 (v := (-1 : Int32)) dX7_readNumbers_113 (by decide) ?_
    refine ww_iret C.1 dX7_readNumbers_114 rfl ?_
    exact h
  · replace h := h.2 hh
    refine ww_aload_n C.1 dX7_readNumbers_9 0 rfl rfl ?_
    refine ww_iload_n C.1 dX7_readNumbers_10 2 rfl rfl ?_
    refine ww_vI C fX7_isFigure (And.intro (by decide) (by decide)) mlRX7_42 dX7_readNumbers_11 (tc1 T2) (by decide) rfl (As := [.int x2]) (rest := []) rfl rfl rfl (Nat.le_of_ble_eq_true rfl) ?_
    exact h
set_option maxHeartbeats 4000000 in
set_option maxRecDepth 20000 in
theorem bX7_readNumbers_14 {X : CX} {Q : State → Prop} {M : Mem} {G2 : Grf} {T2 : List (Nat × Nat)} {x1 x2 x3 s0 : Int32} (C : Ok0 X mX7_readNumbers (TTc ++ T2))
    (h : ((¬ s0 = (0 : Int32) → WpI mX7_letterAt [.ref 1, .int x2] M (gj G2) (TTc ++ T2) (fun r M' => WW X Q 29 [(0, .ref 1), (1, .int x1), (2, .int x2), (3, .int x3)] [.int r, .int x3, .ref 3] (M', (gj G2), TTc ++ T2))) ∧ (s0 = (0 : Int32) → RetOK X Q (some (.int (-1 : Int32))) (M, (gj G2), TTc ++ T2)))) :
    WW X Q 14 [(0, .ref 1), (1, .int x1), (2, .int x2), (3, .int x3)] [.int s0] (M, (gj G2), TTc ++ T2) := by
  refine ww_if_ne (x := s0) C.1 (tgt := 19) dX7_readNumbers_14 (by decide) (fun hh => ?_) (fun hh => ?_)
  · replace h := h.1 hh
    refine ww_aload_n C.1 dX7_readNumbers_19 0 rfl rfl ?_
    refine wt_getR C.1 dX7_readNumbers_20 flRX7_15 (tc1 T2) rfl (gg1_1 G2) ?_
    refine ww_iload_n C.1 dX7_readNumbers_23 3 rfl rfl ?_
    refine ww_aload_n C.1 dX7_readNumbers_24 0 rfl rfl ?_
    refine ww_iload_n C.1 dX7_readNumbers_25 2 rfl rfl ?_
    refine ww_vI C fX7_letterAt (And.intro (by decide) (by decide)) mlRX7_32 dX7_readNumbers_26 (tc1 T2) (by decide) rfl (As := [.int x2]) (rest := [.int x3, .ref 3]) rfl rfl rfl (Nat.le_of_ble_eq_true rfl) ?_
    exact h
  · replace h := h.2 hh
    refine ww_iconst C.1 (v := (-1 : Int32)) dX7_readNumbers_17 (by decide) ?_
    refine ww_iret C.1 dX7_readNumbers_18 rfl ?_
    exact h
set_option maxHeartbeats 4000000 in
set_option maxRecDepth 20000 in
theorem bX7_readNumbers_29 {X : CX} {Q : State → Prop} {M : Mem} {G2 : Grf} {T2 : List (Nat × Nat)} {x1 x2 x3 s1 s2 : Int32} (C : Ok0 X mX7_readNumbers (TTc ++ T2))
    (h : (vp_in s1 3 ∧ WpI mX7_isFigure [.ref 1, .int (x2 + (1 : Int32))] (wr M 3 s1.toNatClampNeg (s2 - (48 : Int32))) (gj G2) (TTc ++ T2) (fun r M' => WW X Q 41 [(0, .ref 1), (1, .int x1), (2, .int (x2 + (1 : Int32))), (3, .int x3)] [.int r] (M', (gj G2), TTc ++ T2)))) :
    WW X Q 29 [(0, .ref 1), (1, .int x1), (2, .int x2), (3, .int x3)] [.int s2, .int s1, .ref 3] (M, (gj G2), TTc ++ T2) := by
  refine ww_bipush C.1 (v := (48 : Int32)) dX7_readNumbers_29 (by decide) ?_
  refine ww_isub C.1 dX7_readNumbers_31 ?_
  refine wt_iast C.1 dX7_readNumbers_32 (tc3 T2) h.1 ?_
  replace h := h.2
  refine ww_iinc C.1 (v := (x2 + (1 : Int32))) dX7_readNumbers_33 2 rfl (by rfl) (by decide) [1, 2, 0, 3] (L' := [(0, .ref 1), (1, .int x1), (2, .int (x2 + (1 : Int32))), (3, .int x3)]) rfl ?_
  refine ww_aload_n C.1 dX7_readNumbers_36 0 rfl rfl ?_
  refine ww_iload_n C.1 dX7_readNumbers_37 2 rfl rfl ?_
  refine ww_vI C fX7_isFigure (And.intro (by decide) (by decide)) mlRX7_42 dX7_readNumbers_38 (tc1 T2) (by decide) rfl (As := [.int (x2 + (1 : Int32))]) (rest := []) rfl rfl rfl (Nat.le_of_ble_eq_true rfl) ?_
  exact h
set_option maxHeartbeats 4000000 in
set_option maxRecDepth 20000 in
theorem bX7_readNumbers_41 {X : CX} {Q : State → Prop} {M : Mem} {G2 : Grf} {T2 : List (Nat × Nat)} {x1 x2 x3 s0 : Int32} (C : Ok0 X mX7_readNumbers (TTc ++ T2))
    (h : ((s0 = (0 : Int32) → WpI mX7_letterAt [.ref 1, .int x2] (wr M 1 3 (x3 + (1 : Int32))) (gj G2) (TTc ++ T2) (fun r M' => WW X Q 83 [(0, .ref 1), (1, .int x1), (2, .int x2), (3, .int x3)] [.int r] (M', (gj G2), TTc ++ T2))) ∧ (¬ s0 = (0 : Int32) → (vp_in x3 3 ∧ WpI mX7_letterAt [.ref 1, .int x2] M (gj G2) (TTc ++ T2) (fun r M' => WW X Q 63 [(0, .ref 1), (1, .int x1), (2, .int x2), (3, .int x3)] [.int r, .int ((10 : Int32) * (M 3 x3.toNatClampNeg)), .int x3, .ref 3] (M', (gj G2), TTc ++ T2)))))) :
    WW X Q 41 [(0, .ref 1), (1, .int x1), (2, .int x2), (3, .int x3)] [.int s0] (M, (gj G2), TTc ++ T2) := by
  refine ww_if_eq (x := s0) C.1 (tgt := 71) dX7_readNumbers_41 (by decide) (fun hh => ?_) (fun hh => ?_)
  · replace h := h.1 hh
    refine ww_aload_n C.1 dX7_readNumbers_71 0 rfl rfl ?_
    refine ww_iload_n C.1 dX7_readNumbers_72 3 rfl rfl ?_
    refine ww_iconst C.1 (v := (1 : Int32)) dX7_readNumbers_73 (by decide) ?_
    refine ww_iadd C.1 dX7_readNumbers_74 ?_
    refine wt_putI C.1 dX7_readNumbers_75 flRX7_35 (tc1 T2) rfl ?_
    refine ww_aload_n C.1 dX7_readNumbers_78 0 rfl rfl ?_
    refine ww_iload_n C.1 dX7_readNumbers_79 2 rfl rfl ?_
    refine ww_vI C fX7_letterAt (And.intro (by decide) (by decide)) mlRX7_32 dX7_readNumbers_80 (tc1 T2) (by decide) rfl (As := [.int x2]) (rest := []) rfl rfl rfl (Nat.le_of_ble_eq_true rfl) ?_
    exact h
  · replace h := h.2 hh
    refine ww_aload_n C.1 dX7_readNumbers_44 0 rfl rfl ?_
    refine wt_getR C.1 dX7_readNumbers_45 flRX7_15 (tc1 T2) rfl (gg1_1 G2) ?_
    refine ww_iload_n C.1 dX7_readNumbers_48 3 rfl rfl ?_
    refine ww_bipush C.1 (v := (10 : Int32)) dX7_readNumbers_49 (by decide) ?_
    refine ww_aload_n C.1 dX7_readNumbers_51 0 rfl rfl ?_
    refine wt_getR C.1 dX7_readNumbers_52 flRX7_15 (tc1 T2) rfl (gg1_1 G2) ?_
    refine ww_iload_n C.1 dX7_readNumbers_55 3 rfl rfl ?_
    refine wt_iald C.1 dX7_readNumbers_56 (tc3 T2) h.1 ?_
    replace h := h.2
    refine ww_imul C.1 dX7_readNumbers_57 ?_
    refine ww_aload_n C.1 dX7_readNumbers_58 0 rfl rfl ?_
    refine ww_iload_n C.1 dX7_readNumbers_59 2 rfl rfl ?_
    refine ww_vI C fX7_letterAt (And.intro (by decide) (by decide)) mlRX7_32 dX7_readNumbers_60 (tc1 T2) (by decide) rfl (As := [.int x2]) (rest := [.int ((10 : Int32) * (M 3 x3.toNatClampNeg)), .int x3, .ref 3]) rfl rfl rfl (Nat.le_of_ble_eq_true rfl) ?_
    exact h
set_option maxHeartbeats 4000000 in
set_option maxRecDepth 20000 in
theorem bX7_readNumbers_83 {X : CX} {Q : State → Prop} {M : Mem} {G2 : Grf} {T2 : List (Nat × Nat)} {x1 x2 x3 s0 : Int32} (C : Ok0 X mX7_readNumbers (TTc ++ T2))
    (h : ((¬ s0 = (59 : Int32) → WpI mX7_letterAt [.ref 1, .int x2] M (gj G2) (TTc ++ T2) (fun r M' => WW X Q 97 [(0, .ref 1), (1, .int x1), (2, .int x2), (3, .int x3)] [.int r] (M', (gj G2), TTc ++ T2))) ∧ (s0 = (59 : Int32) → RetOK X Q (some (.int (x2 + (1 : Int32)))) (M, (gj G2), TTc ++ T2)))) :
    WW X Q 83 [(0, .ref 1), (1, .int x1), (2, .int x2), (3, .int x3)] [.int s0] (M, (gj G2), TTc ++ T2) := by
  refine ww_bipush C.1 (v := (59 : Int32)) dX7_readNumbers_83 (by decide) ?_
  refine ww_icmp_ne (x := s0) (y := (59 : Int32)) C.1 (tgt := 92) dX7_readNumbers_85 (by decide) (fun hh => ?_) (fun hh => ?_)
  · replace h := h.1 hh
    refine ww_aload_n C.1 dX7_readNumbers_92 0 rfl rfl ?_
    refine ww_iload_n C.1 dX7_readNumbers_93 2 rfl rfl ?_
    refine ww_vI C fX7_letterAt (And.intro (by decide) (by decide)) mlRX7_32 dX7_readNumbers_94 (tc1 T2) (by decide) rfl (As := [.int x2]) (rest := []) rfl rfl rfl (Nat.le_of_ble_eq_true rfl) ?_
    exact h
  · replace h := h.2 hh
    refine ww_iload_n C.1 dX7_readNumbers_88 2 rfl rfl ?_
    refine ww_iconst C.1 (v := (1 : Int32)) dX7_readNumbers_89 (by decide) ?_
    refine ww_iadd C.1 dX7_readNumbers_90 ?_
    refine ww_iret C.1 dX7_readNumbers_91 rfl ?_
    exact h
set_option maxHeartbeats 4000000 in
set_option maxRecDepth 20000 in
theorem bX7_readNumbers_63 {X : CX} {Q : State → Prop} {M : Mem} {G2 : Grf} {T2 : List (Nat × Nat)} {x1 x2 x3 s1 s2 s3 : Int32} (C : Ok0 X mX7_readNumbers (TTc ++ T2))
    (h : (vp_in s1 3 ∧ WpI mX7_letterAt [.ref 1, .int (x2 + (1 : Int32))] (wr (wr M 3 s1.toNatClampNeg ((s2 + s3) - (48 : Int32))) 1 3 (x3 + (1 : Int32))) (gj G2) (TTc ++ T2) (fun r M' => WW X Q 83 [(0, .ref 1), (1, .int x1), (2, .int (x2 + (1 : Int32))), (3, .int x3)] [.int r] (M', (gj G2), TTc ++ T2)))) :
    WW X Q 63 [(0, .ref 1), (1, .int x1), (2, .int x2), (3, .int x3)] [.int s3, .int s2, .int s1, .ref 3] (M, (gj G2), TTc ++ T2) := by
  refine ww_iadd C.1 dX7_readNumbers_63 ?_
  refine ww_bipush C.1 (v := (48 : Int32)) dX7_readNumbers_64 (by decide) ?_
  refine ww_isub C.1 dX7_readNumbers_66 ?_
  refine wt_iast C.1 dX7_readNumbers_67 (tc3 T2) h.1 ?_
  replace h := h.2
  refine ww_iinc C.1 (v := (x2 + (1 : Int32))) dX7_readNumbers_68 2 rfl (by rfl) (by decide) [1, 2, 0, 3] (L' := [(0, .ref 1), (1, .int x1), (2, .int (x2 + (1 : Int32))), (3, .int x3)]) rfl ?_
  refine ww_aload_n C.1 dX7_readNumbers_71 0 rfl rfl ?_
  refine ww_iload_n C.1 dX7_readNumbers_72 3 rfl rfl ?_
  refine ww_iconst C.1 (v := (1 : Int32)) dX7_readNumbers_73 (by decide) ?_
  refine ww_iadd C.1 dX7_readNumbers_74 ?_
  refine wt_putI C.1 dX7_readNumbers_75 flRX7_35 (tc1 T2) rfl ?_
  refine ww_aload_n C.1 dX7_readNumbers_78 0 rfl rfl ?_
  refine ww_iload_n C.1 dX7_readNumbers_79 2 rfl rfl ?_
  refine ww_vI C fX7_letterAt (And.intro (by decide) (by decide)) mlRX7_32 dX7_readNumbers_80 (tc1 T2) (by decide) rfl (As := [.int (x2 + (1 : Int32))]) (rest := []) rfl rfl rfl (Nat.le_of_ble_eq_true rfl) ?_
  exact h
set_option maxHeartbeats 4000000 in
set_option maxRecDepth 20000 in
theorem bX7_readNumbers_97 {X : CX} {Q : State → Prop} {M : Mem} {G2 : Grf} {T2 : List (Nat × Nat)} {x1 x2 x3 s0 : Int32} (C : Ok0 X mX7_readNumbers (TTc ++ T2))
    (h : ((s0 = (44 : Int32) → WW X Q 4 [(0, .ref 1), (1, .int x1), (2, .int (x2 + (1 : Int32))), (3, .int (x3 + (1 : Int32)))] [] (M, (gj G2), TTc ++ T2)) ∧ (¬ s0 = (44 : Int32) → RetOK X Q (some (.int (-1 : Int32))) (M, (gj G2), TTc ++ T2)))) :
    WW X Q 97 [(0, .ref 1), (1, .int x1), (2, .int x2), (3, .int x3)] [.int s0] (M, (gj G2), TTc ++ T2) := by
  refine ww_bipush C.1 (v := (44 : Int32)) dX7_readNumbers_97 (by decide) ?_
  refine ww_icmp_eq (x := s0) (y := (44 : Int32)) C.1 (tgt := 104) dX7_readNumbers_99 (by decide) (fun hh => ?_) (fun hh => ?_)
  · replace h := h.1 hh
    refine ww_iinc C.1 (v := (x2 + (1 : Int32))) dX7_readNumbers_104 2 rfl (by rfl) (by decide) [1, 2, 0, 3] (L' := [(0, .ref 1), (1, .int x1), (2, .int (x2 + (1 : Int32))), (3, .int x3)]) rfl ?_
    refine ww_iinc C.1 (v := (x3 + (1 : Int32))) dX7_readNumbers_107 3 rfl (by rfl) (by decide) [1, 2, 3, 0] (L' := [(0, .ref 1), (1, .int x1), (2, .int (x2 + (1 : Int32))), (3, .int (x3 + (1 : Int32)))]) rfl ?_
    refine ww_goto C.1 (tgt := 4) dX7_readNumbers_110 (by decide) ?_
    exact h
  · replace h := h.2 hh
    refine ww_iconst C.1 (v := (-1 : Int32)) dX7_readNumbers_102 (by decide) ?_
    refine ww_iret C.1 dX7_readNumbers_103 rfl ?_
    exact h
set_option maxHeartbeats 4000000 in
set_option maxRecDepth 20000 in
theorem bX7_isFigure_0 {X : CX} {Q : State → Prop} {M : Mem} {G2 : Grf} {T2 : List (Nat × Nat)} {x1 : Int32} (C : Ok0 X mX7_isFigure (TTc ++ T2))
    (h : WpI mX7_letterAt [.ref 1, .int x1] M (gj G2) (TTc ++ T2) (fun r M' => WW X Q 5 [(0, .ref 1), (1, .int x1)] [.int r] (M', (gj G2), TTc ++ T2))) :
    WW X Q 0 [(0, .ref 1), (1, .int x1)] [] (M, (gj G2), TTc ++ T2) := by
  refine ww_aload_n C.1 dX7_isFigure_0 0 rfl rfl ?_
  refine ww_iload_n C.1 dX7_isFigure_1 1 rfl rfl ?_
  refine ww_vI C fX7_letterAt (And.intro (by decide) (by decide)) mlRX7_32 dX7_isFigure_2 (tc1 T2) (by decide) rfl (As := [.int x1]) (rest := []) rfl rfl rfl (Nat.le_of_ble_eq_true rfl) ?_
  exact h
set_option maxHeartbeats 4000000 in
set_option maxRecDepth 20000 in
theorem bX7_isFigure_5 {X : CX} {Q : State → Prop} {M : Mem} {G2 : Grf} {T2 : List (Nat × Nat)} {x1 s0 : Int32} (C : Ok0 X mX7_isFigure (TTc ++ T2))
    (h : ((s0 < (48 : Int32) → RetOK X Q (some (.int (0 : Int32))) (M, (gj G2), TTc ++ T2)) ∧ (¬ s0 < (48 : Int32) → (((57 : Int32) < s0 → RetOK X Q (some (.int (0 : Int32))) (M, (gj G2), TTc ++ T2)) ∧ (¬ (57 : Int32) < s0 → RetOK X Q (some (.int (1 : Int32))) (M, (gj G2), TTc ++ T2)))))) :
    WW X Q 5 [(0, .ref 1), (1, .int x1)] [.int s0] (M, (gj G2), TTc ++ T2) := by
  refine ww_bipush C.1 (v := (48 : Int32)) dX7_isFigure_5 (by decide) ?_
  refine ww_bipush C.1 (v := (57 : Int32)) dX7_isFigure_7 (by decide) ?_
  refine ww_nI C fX9_isWithin (And.intro (by decide) (by decide)) nlRX7_46 dX7_isFigure_9 (As := [.int s0, .int (48 : Int32), .int (57 : Int32)]) (rest := []) rfl rfl rfl (Nat.le_of_ble_eq_true rfl) (WpI.of (L0 := [(0, .int s0), (1, .int (48 : Int32)), (2, .int (57 : Int32))]) rfl rfl (Nat.le_of_ble_eq_true rfl) fun X1 Q1 C1 k1 => ?_)
  refine ww_iload_n C1.1 dX9_isWithin_0 0 rfl rfl ?_
  refine ww_iload_n C1.1 dX9_isWithin_1 1 rfl rfl ?_
  refine ww_icmp_lt (x := s0) (y := (48 : Int32)) C1.1 (tgt := 14) dX9_isWithin_2 (by decide) (fun hh => ?_) (fun hh => ?_)
  · replace h := h.1 hh
    refine ww_iconst C1.1 (v := (0 : Int32)) dX9_isWithin_14 (by decide) ?_
    refine ww_zret C1.1 dX9_isWithin_15 rfl (Or.inl rfl) ?_
    refine k1 _ _ ?_
    refine ww_zret C.1 dX7_isFigure_12 rfl (Or.inl rfl) ?_
    exact h
  · replace h := h.2 hh
    refine ww_iload_n C1.1 dX9_isWithin_5 0 rfl rfl ?_
    refine ww_iload_n C1.1 dX9_isWithin_6 2 rfl rfl ?_
    refine ww_icmp_gt (x := s0) (y := (57 : Int32)) C1.1 (tgt := 14) dX9_isWithin_7 (by decide) (fun hh => ?_) (fun hh => ?_)
    · replace h := h.1 hh
      refine ww_iconst C1.1 (v := (0 : Int32)) dX9_isWithin_14 (by decide) ?_
      refine ww_zret C1.1 dX9_isWithin_15 rfl (Or.inl rfl) ?_
      refine k1 _ _ ?_
      refine ww_zret C.1 dX7_isFigure_12 rfl (Or.inl rfl) ?_
      exact h
    · replace h := h.2 hh
      refine ww_iconst C1.1 (v := (1 : Int32)) dX9_isWithin_10 (by decide) ?_
      refine ww_goto C1.1 (tgt := 15) dX9_isWithin_11 (by decide) ?_
      refine ww_zret C1.1 dX9_isWithin_15 rfl (Or.inr rfl) ?_
      refine k1 _ _ ?_
      refine ww_zret C.1 dX7_isFigure_12 rfl (Or.inr rfl) ?_
      exact h
set_option maxHeartbeats 4000000 in
set_option maxRecDepth 20000 in
theorem bX7_letterAt_0 {X : CX} {Q : State → Prop} {M : Mem} {G2 : Grf} {T2 : List (Nat × Nat)} {x1 : Int32} (C : Ok0 X mX7_letterAt (TTc ++ T2))
    (h : ((x1 < (0 : Int32) → RetOK X Q (some (.int (0 : Int32))) (M, (gj G2), TTc ++ T2)) ∧ (¬ x1 < (0 : Int32) → (((M 1 2) ≤ x1 → RetOK X Q (some (.int (0 : Int32))) (M, (gj G2), TTc ++ T2)) ∧ (¬ (M 1 2) ≤ x1 → (((200 : Int32) ≤ x1 → RetOK X Q (some (.int (0 : Int32))) (M, (gj G2), TTc ++ T2)) ∧ (¬ (200 : Int32) ≤ x1 → (vp_in x1 200 ∧ RetOK X Q (some (.int (M 2 x1.toNatClampNeg))) (M, (gj G2), TTc ++ T2))))))))) :
    WW X Q 0 [(0, .ref 1), (1, .int x1)] [] (M, (gj G2), TTc ++ T2) := by
  refine ww_iload_n C.1 dX7_letterAt_0 1 rfl rfl ?_
  refine ww_if_lt (x := x1) C.1 (tgt := 30) dX7_letterAt_1 (by decide) (fun hh => ?_) (fun hh => ?_)
  · replace h := h.1 hh
    refine ww_iconst C.1 (v := (0 : Int32)) dX7_letterAt_30 (by decide) ?_
    refine ww_iret C.1 dX7_letterAt_31 rfl ?_
    exact h
  · replace h := h.2 hh
    refine ww_iload_n C.1 dX7_letterAt_4 1 rfl rfl ?_
    refine ww_aload_n C.1 dX7_letterAt_5 0 rfl rfl ?_
    refine wt_getI C.1 dX7_letterAt_6 flRX7_19 (tc1 T2) rfl ?_
    refine ww_icmp_ge (x := x1) (y := (M 1 2)) C.1 (tgt := 30) dX7_letterAt_9 (by decide) (fun hh => ?_) (fun hh => ?_)
    · replace h := h.1 hh
      refine ww_iconst C.1 (v := (0 : Int32)) dX7_letterAt_30 (by decide) ?_
      refine ww_iret C.1 dX7_letterAt_31 rfl ?_
      exact h
    · replace h := h.2 hh
      refine ww_iload_n C.1 dX7_letterAt_12 1 rfl rfl ?_
      refine ww_aload_n C.1 dX7_letterAt_13 0 rfl rfl ?_
      refine wt_getR C.1 dX7_letterAt_14 flRX7_9 (tc1 T2) rfl (gg1_0 G2) ?_
      refine wt_alen C.1 (v := (200 : Int32)) dX7_letterAt_17 (tc2 T2) (Or.inr rfl) (by decide) ?_
      refine ww_icmp_ge (x := x1) (y := (200 : Int32)) C.1 (tgt := 30) dX7_letterAt_18 (by decide) (fun hh => ?_) (fun hh => ?_)
      · replace h := h.1 hh
        refine ww_iconst C.1 (v := (0 : Int32)) dX7_letterAt_30 (by decide) ?_
        refine ww_iret C.1 dX7_letterAt_31 rfl ?_
        exact h
      · replace h := h.2 hh
        refine ww_aload_n C.1 dX7_letterAt_21 0 rfl rfl ?_
        refine wt_getR C.1 dX7_letterAt_22 flRX7_9 (tc1 T2) rfl (gg1_0 G2) ?_
        refine ww_iload_n C.1 dX7_letterAt_25 1 rfl rfl ?_
        refine wt_cald C.1 dX7_letterAt_26 (tc2 T2) h.1 ?_
        replace h := h.2
        refine ww_goto C.1 (tgt := 31) dX7_letterAt_27 (by decide) ?_
        refine ww_iret C.1 dX7_letterAt_31 rfl ?_
        exact h
set_option maxHeartbeats 4000000 in
set_option maxRecDepth 20000 in
theorem bX8_put_0 {X : CX} {Q : State → Prop} {M : Mem} {G2 : Grf} {T2 : List (Nat × Nat)} (C : Ok0 X mX8_put (TTc ++ T2))
    (h : (((M 14 3) < (2 : Int32) → (((M 14 3) = 0 → RetOK X Q (some (.int (1 : Int32))) ((wr (wrA (wrA (wrA M 16 (va_cpy (M 43) (M 16) 0 0 7)) 19 (va_cpy (M 42) (M 19) 0 0 7)) 22 (va_cpy (M 39) (M 22) 0 0 7)) 14 3 ((M 14 3) + (1 : Int32))), (gj G2), TTc ++ T2)) ∧ (¬ (M 14 3) = 0 → ((M 14 3) = 1 ∧ RetOK X Q (some (.int (1 : Int32))) ((wr (wrA (wrA (wrA M 17 (va_cpy (M 43) (M 17) 0 0 7)) 20 (va_cpy (M 42) (M 20) 0 0 7)) 23 (va_cpy (M 39) (M 23) 0 0 7)) 14 3 ((M 14 3) + (1 : Int32))), (gj G2), TTc ++ T2))))) ∧ (¬ (M 14 3) < (2 : Int32) → RetOK X Q (some (.int (0 : Int32))) (M, (gj G2), TTc ++ T2)))) :
    WW X Q 0 [(0, .ref 14), (1, .ref 37)] [] (M, (gj G2), TTc ++ T2) := by
  refine ww_aload_n C.1 dX8_put_0 0 rfl rfl ?_
  refine wt_getI C.1 dX8_put_1 flRX8_22 (tc14 T2) rfl ?_
  refine ww_iconst C.1 (v := (2 : Int32)) dX8_put_4 (by decide) ?_
  refine ww_icmp_lt (x := (M 14 3)) (y := (2 : Int32)) C.1 (tgt := 10) dX8_put_5 (by decide) (fun hh => ?_) (fun hh => ?_)
  · replace h := h.1 hh
    refine ww_aload_n C.1 dX8_put_10 1 rfl rfl ?_
    refine wt_getR C.1 dX8_put_11 flRX8_26 (tc37 T2) rfl (gg37_5 G2) ?_
    refine ww_iconst C.1 (v := (0 : Int32)) dX8_put_14 (by decide) ?_
    refine ww_aload_n C.1 dX8_put_15 0 rfl rfl ?_
    refine wt_getR C.1 dX8_put_16 flRX8_11 (tc14 T2) rfl (gg14_0 G2) ?_
    refine ww_aload_n C.1 dX8_put_19 0 rfl rfl ?_
    refine wt_getI C.1 dX8_put_20 flRX8_22 (tc14 T2) rfl ?_
    by_cases hz1 : (M 14 3) = 0
    · replace h := h.1 hz1
      refine wt_aald (i := (M 14 3)) C.1 dX8_put_23 (tc15 T2) (by rw [hz1]; exact vp_lit (by decide) (by decide)) (show (gj G2) 15 (M 14 3).toNatClampNeg = some 16 by rw [hz1]; rfl) ?_
      refine ww_iconst C.1 (v := (0 : Int32)) dX8_put_24 (by decide) ?_
      refine ww_bipush C.1 (v := (7 : Int32)) dX8_put_25 (by decide) ?_
      refine wt_acopy C.1 mlRX8_32 acN acS acI dX8_put_27 (tc43 T2) (tc16 T2) (by decide) (by decide) (by decide) (by decide) (by decide) (by decide) (Nat.le_of_ble_eq_true rfl) ?_
      refine ww_aload_n C.1 dX8_put_30 1 rfl rfl ?_
      refine wt_getR C.1 dX8_put_31 flRX8_38 (tc37 T2) rfl (gg37_4 G2) ?_
      refine ww_iconst C.1 (v := (0 : Int32)) dX8_put_34 (by decide) ?_
      refine ww_aload_n C.1 dX8_put_35 0 rfl rfl ?_
      refine wt_getR C.1 dX8_put_36 flRX8_16 (tc14 T2) rfl (gg14_1 G2) ?_
      refine ww_aload_n C.1 dX8_put_39 0 rfl rfl ?_
      refine wt_getI C.1 dX8_put_40 flRX8_22 (tc14 T2) rfl ?_
      refine wt_aald (i := (M 14 3)) C.1 dX8_put_43 (tc18 T2) (by rw [hz1]; exact vp_lit (by decide) (by decide)) (show (gj G2) 18 (M 14 3).toNatClampNeg = some 19 by rw [hz1]; rfl) ?_
      refine ww_iconst C.1 (v := (0 : Int32)) dX8_put_44 (by decide) ?_
      refine ww_bipush C.1 (v := (7 : Int32)) dX8_put_45 (by decide) ?_
      refine wt_acopy C.1 mlRX8_32 acN acS acI dX8_put_47 (tc42 T2) (tc19 T2) (by decide) (by decide) (by decide) (by decide) (by decide) (by decide) (Nat.le_of_ble_eq_true rfl) ?_
      refine ww_aload_n C.1 dX8_put_50 1 rfl rfl ?_
      refine wt_getR C.1 dX8_put_51 flRX8_40 (tc37 T2) rfl (gg37_1 G2) ?_
      refine ww_iconst C.1 (v := (0 : Int32)) dX8_put_54 (by decide) ?_
      refine ww_aload_n C.1 dX8_put_55 0 rfl rfl ?_
      refine wt_getR C.1 dX8_put_56 flRX8_19 (tc14 T2) rfl (gg14_2 G2) ?_
      refine ww_aload_n C.1 dX8_put_59 0 rfl rfl ?_
      refine wt_getI C.1 dX8_put_60 flRX8_22 (tc14 T2) rfl ?_
      refine wt_aald (i := (M 14 3)) C.1 dX8_put_63 (tc21 T2) (by rw [hz1]; exact vp_lit (by decide) (by decide)) (show (gj G2) 21 (M 14 3).toNatClampNeg = some 22 by rw [hz1]; rfl) ?_
      refine ww_iconst C.1 (v := (0 : Int32)) dX8_put_64 (by decide) ?_
      refine ww_bipush C.1 (v := (7 : Int32)) dX8_put_65 (by decide) ?_
      refine wt_acopy C.1 mlRX8_32 acN acS acI dX8_put_67 (tc39 T2) (tc22 T2) (by decide) (by decide) (by decide) (by decide) (by decide) (by decide) (Nat.le_of_ble_eq_true rfl) ?_
      refine ww_aload_n C.1 dX8_put_70 0 rfl rfl ?_
      refine ww_dup C.1 dX8_put_71 rfl ?_
      refine wt_getI C.1 dX8_put_72 flRX8_22 (tc14 T2) rfl ?_
      refine ww_iconst C.1 (v := (1 : Int32)) dX8_put_75 (by decide) ?_
      refine ww_iadd C.1 dX8_put_76 ?_
      refine wt_putI C.1 dX8_put_77 flRX8_22 (tc14 T2) rfl ?_
      refine ww_iconst C.1 (v := (1 : Int32)) dX8_put_80 (by decide) ?_
      refine ww_zret C.1 dX8_put_81 rfl (Or.inr rfl) ?_
      exact h
    · replace h := h.2 hz1
      replace hz1 := h.1
      replace h := h.2
      refine wt_aald (i := (M 14 3)) C.1 dX8_put_23 (tc15 T2) (by rw [hz1]; exact vp_lit (by decide) (by decide)) (show (gj G2) 15 (M 14 3).toNatClampNeg = some 17 by rw [hz1]; rfl) ?_
      refine ww_iconst C.1 (v := (0 : Int32)) dX8_put_24 (by decide) ?_
      refine ww_bipush C.1 (v := (7 : Int32)) dX8_put_25 (by decide) ?_
      refine wt_acopy C.1 mlRX8_32 acN acS acI dX8_put_27 (tc43 T2) (tc17 T2) (by decide) (by decide) (by decide) (by decide) (by decide) (by decide) (Nat.le_of_ble_eq_true rfl) ?_
      refine ww_aload_n C.1 dX8_put_30 1 rfl rfl ?_
      refine wt_getR C.1 dX8_put_31 flRX8_38 (tc37 T2) rfl (gg37_4 G2) ?_
      refine ww_iconst C.1 (v := (0 : Int32)) dX8_put_34 (by decide) ?_
      refine ww_aload_n C.1 dX8_put_35 0 rfl rfl ?_
      refine wt_getR C.1 dX8_put_36 flRX8_16 (tc14 T2) rfl (gg14_1 G2) ?_
      refine ww_aload_n C.1 dX8_put_39 0 rfl rfl ?_
      refine wt_getI C.1 dX8_put_40 flRX8_22 (tc14 T2) rfl ?_
      refine wt_aald (i := (M 14 3)) C.1 dX8_put_43 (tc18 T2) (by rw [hz1]; exact vp_lit (by decide) (by decide)) (show (gj G2) 18 (M 14 3).toNatClampNeg = some 20 by rw [hz1]; rfl) ?_
      refine ww_iconst C.1 (v := (0 : Int32)) dX8_put_44 (by decide) ?_
      refine ww_bipush C.1 (v := (7 : Int32)) dX8_put_45 (by decide) ?_
      refine wt_acopy C.1 mlRX8_32 acN acS acI dX8_put_47 (tc42 T2) (tc20 T2) (by decide) (by decide) (by decide) (by decide) (by decide) (by decide) (Nat.le_of_ble_eq_true rfl) ?_
      refine ww_aload_n C.1 dX8_put_50 1 rfl rfl ?_
      refine wt_getR C.1 dX8_put_51 flRX8_40 (tc37 T2) rfl (gg37_1 G2) ?_
      refine ww_iconst C.1 (v := (0 : Int32)) dX8_put_54 (by decide) ?_
      refine ww_aload_n C.1 dX8_put_55 0 rfl rfl ?_
      refine wt_getR C.1 dX8_put_56 flRX8_19 (tc14 T2) rfl (gg14_2 G2) ?_
      refine ww_aload_n C.1 dX8_put_59 0 rfl rfl ?_
      refine wt_getI C.1 dX8_put_60 flRX8_22 (tc14 T2) rfl ?_
      refine wt_aald (i := (M 14 3)) C.1 dX8_put_63 (tc21 T2) (by rw [hz1]; exact vp_lit (by decide) (by decide)) (show (gj G2) 21 (M 14 3).toNatClampNeg = some 23 by rw [hz1]; rfl) ?_
      refine ww_iconst C.1 (v := (0 : Int32)) dX8_put_64 (by decide) ?_
      refine ww_bipush C.1 (v := (7 : Int32)) dX8_put_65 (by decide) ?_
      refine wt_acopy C.1 mlRX8_32 acN acS acI dX8_put_67 (tc39 T2) (tc23 T2) (by decide) (by decide) (by decide) (by decide) (by decide) (by decide) (Nat.le_of_ble_eq_true rfl) ?_
      refine ww_aload_n C.1 dX8_put_70 0 rfl rfl ?_
      refine ww_dup C.1 dX8_put_71 rfl ?_
      refine wt_getI C.1 dX8_put_72 flRX8_22 (tc14 T2) rfl ?_
      refine ww_iconst C.1 (v := (1 : Int32)) dX8_put_75 (by decide) ?_
      refine ww_iadd C.1 dX8_put_76 ?_
      refine wt_putI C.1 dX8_put_77 flRX8_22 (tc14 T2) rfl ?_
      refine ww_iconst C.1 (v := (1 : Int32)) dX8_put_80 (by decide) ?_
      refine ww_zret C.1 dX8_put_81 rfl (Or.inr rfl) ?_
      exact h
  · replace h := h.2 hh
    refine ww_iconst C.1 (v := (0 : Int32)) dX8_put_8 (by decide) ?_
    refine ww_zret C.1 dX8_put_9 rfl (Or.inl rfl) ?_
    exact h
set_option maxHeartbeats 4000000 in
set_option maxRecDepth 20000 in
theorem bX8_takeInto_0 {X : CX} {Q : State → Prop} {M : Mem} {G2 : Grf} {T2 : List (Nat × Nat)} (C : Ok0 X mX8_takeInto (TTc ++ T2))
    (h : (((0 : Int32) < (M 14 3) → ((((M 14 3) - (1 : Int32)) = 0 → RetOK X Q (none) ((wrA (wrA (wrA (wr M 14 3 ((M 14 3) - (1 : Int32))) 43 (va_cpy (M 16) (M 43) 0 0 7)) 42 (va_cpy (M 19) (M 42) 0 0 7)) 39 (va_cpy (M 22) (M 39) 0 0 7)), (gj G2), TTc ++ T2)) ∧ (¬ ((M 14 3) - (1 : Int32)) = 0 → (((M 14 3) - (1 : Int32)) = 1 ∧ RetOK X Q (none) ((wrA (wrA (wrA (wr M 14 3 ((M 14 3) - (1 : Int32))) 43 (va_cpy (M 17) (M 43) 0 0 7)) 42 (va_cpy (M 20) (M 42) 0 0 7)) 39 (va_cpy (M 23) (M 39) 0 0 7)), (gj G2), TTc ++ T2))))) ∧ (¬ (0 : Int32) < (M 14 3) → RetOK X Q (none) (M, (gj G2), TTc ++ T2)))) :
    WW X Q 0 [(0, .ref 14), (1, .ref 37)] [] (M, (gj G2), TTc ++ T2) := by
  refine ww_aload_n C.1 dX8_takeInto_0 0 rfl rfl ?_
  refine wt_getI C.1 dX8_takeInto_1 flRX8_22 (tc14 T2) rfl ?_
  refine ww_if_gt (x := (M 14 3)) C.1 (tgt := 8) dX8_takeInto_4 (by decide) (fun hh => ?_) (fun hh => ?_)
  · replace h := h.1 hh
    refine ww_aload_n C.1 dX8_takeInto_8 0 rfl rfl ?_
    refine ww_dup C.1 dX8_takeInto_9 rfl ?_
    refine wt_getI C.1 dX8_takeInto_10 flRX8_22 (tc14 T2) rfl ?_
    refine ww_iconst C.1 (v := (1 : Int32)) dX8_takeInto_13 (by decide) ?_
    refine ww_isub C.1 dX8_takeInto_14 ?_
    refine wt_putI C.1 dX8_takeInto_15 flRX8_22 (tc14 T2) rfl ?_
    refine ww_aload_n C.1 dX8_takeInto_18 0 rfl rfl ?_
    refine wt_getR C.1 dX8_takeInto_19 flRX8_11 (tc14 T2) rfl (gg14_0 G2) ?_
    refine ww_aload_n C.1 dX8_takeInto_22 0 rfl rfl ?_
    refine wt_getI C.1 dX8_takeInto_23 flRX8_22 (tc14 T2) rfl ?_
    by_cases hz2 : ((M 14 3) - (1 : Int32)) = 0
    · replace h := h.1 hz2
      refine wt_aald (i := ((M 14 3) - (1 : Int32))) C.1 dX8_takeInto_26 (tc15 T2) (by rw [hz2]; exact vp_lit (by decide) (by decide)) (show (gj G2) 15 ((M 14 3) - (1 : Int32)).toNatClampNeg = some 16 by rw [hz2]; rfl) ?_
      refine ww_iconst C.1 (v := (0 : Int32)) dX8_takeInto_27 (by decide) ?_
      refine ww_aload_n C.1 dX8_takeInto_28 1 rfl rfl ?_
      refine wt_getR C.1 dX8_takeInto_29 flRX8_26 (tc37 T2) rfl (gg37_5 G2) ?_
      refine ww_iconst C.1 (v := (0 : Int32)) dX8_takeInto_32 (by decide) ?_
      refine ww_bipush C.1 (v := (7 : Int32)) dX8_takeInto_33 (by decide) ?_
      refine wt_acopy C.1 mlRX8_32 acN acS acI dX8_takeInto_35 (tc16 T2) (tc43 T2) (by decide) (by decide) (by decide) (by decide) (by decide) (by decide) (Nat.le_of_ble_eq_true rfl) ?_
      refine ww_aload_n C.1 dX8_takeInto_38 0 rfl rfl ?_
      refine wt_getR C.1 dX8_takeInto_39 flRX8_16 (tc14 T2) rfl (gg14_1 G2) ?_
      refine ww_aload_n C.1 dX8_takeInto_42 0 rfl rfl ?_
      refine wt_getI C.1 dX8_takeInto_43 flRX8_22 (tc14 T2) rfl ?_
      refine wt_aald (i := ((M 14 3) - (1 : Int32))) C.1 dX8_takeInto_46 (tc18 T2) (by rw [hz2]; exact vp_lit (by decide) (by decide)) (show (gj G2) 18 ((M 14 3) - (1 : Int32)).toNatClampNeg = some 19 by rw [hz2]; rfl) ?_
      refine ww_iconst C.1 (v := (0 : Int32)) dX8_takeInto_47 (by decide) ?_
      refine ww_aload_n C.1 dX8_takeInto_48 1 rfl rfl ?_
      refine wt_getR C.1 dX8_takeInto_49 flRX8_38 (tc37 T2) rfl (gg37_4 G2) ?_
      refine ww_iconst C.1 (v := (0 : Int32)) dX8_takeInto_52 (by decide) ?_
      refine ww_bipush C.1 (v := (7 : Int32)) dX8_takeInto_53 (by decide) ?_
      refine wt_acopy C.1 mlRX8_32 acN acS acI dX8_takeInto_55 (tc19 T2) (tc42 T2) (by decide) (by decide) (by decide) (by decide) (by decide) (by decide) (Nat.le_of_ble_eq_true rfl) ?_
      refine ww_aload_n C.1 dX8_takeInto_58 0 rfl rfl ?_
      refine wt_getR C.1 dX8_takeInto_59 flRX8_19 (tc14 T2) rfl (gg14_2 G2) ?_
      refine ww_aload_n C.1 dX8_takeInto_62 0 rfl rfl ?_
      refine wt_getI C.1 dX8_takeInto_63 flRX8_22 (tc14 T2) rfl ?_
      refine wt_aald (i := ((M 14 3) - (1 : Int32))) C.1 dX8_takeInto_66 (tc21 T2) (by rw [hz2]; exact vp_lit (by decide) (by decide)) (show (gj G2) 21 ((M 14 3) - (1 : Int32)).toNatClampNeg = some 22 by rw [hz2]; rfl) ?_
      refine ww_iconst C.1 (v := (0 : Int32)) dX8_takeInto_67 (by decide) ?_
      refine ww_aload_n C.1 dX8_takeInto_68 1 rfl rfl ?_
      refine wt_getR C.1 dX8_takeInto_69 flRX8_40 (tc37 T2) rfl (gg37_1 G2) ?_
      refine ww_iconst C.1 (v := (0 : Int32)) dX8_takeInto_72 (by decide) ?_
      refine ww_bipush C.1 (v := (7 : Int32)) dX8_takeInto_73 (by decide) ?_
      refine wt_acopy C.1 mlRX8_32 acN acS acI dX8_takeInto_75 (tc22 T2) (tc39 T2) (by decide) (by decide) (by decide) (by decide) (by decide) (by decide) (Nat.le_of_ble_eq_true rfl) ?_
      refine ww_vret C.1 dX8_takeInto_78 rfl ?_
      exact h
    · replace h := h.2 hz2
      replace hz2 := h.1
      replace h := h.2
      refine wt_aald (i := ((M 14 3) - (1 : Int32))) C.1 dX8_takeInto_26 (tc15 T2) (by rw [hz2]; exact vp_lit (by decide) (by decide)) (show (gj G2) 15 ((M 14 3) - (1 : Int32)).toNatClampNeg = some 17 by rw [hz2]; rfl) ?_
      refine ww_iconst C.1 (v := (0 : Int32)) dX8_takeInto_27 (by decide) ?_
      refine ww_aload_n C.1 dX8_takeInto_28 1 rfl rfl ?_
      refine wt_getR C.1 dX8_takeInto_29 flRX8_26 (tc37 T2) rfl (gg37_5 G2) ?_
      refine ww_iconst C.1 (v := (0 : Int32)) dX8_takeInto_32 (by decide) ?_
      refine ww_bipush C.1 (v := (7 : Int32)) dX8_takeInto_33 (by decide) ?_
      refine wt_acopy C.1 mlRX8_32 acN acS acI dX8_takeInto_35 (tc17 T2) (tc43 T2) (by decide) (by decide) (by decide) (by decide) (by decide) (by decide) (Nat.le_of_ble_eq_true rfl) ?_
      refine ww_aload_n C.1 dX8_takeInto_38 0 rfl rfl ?_
      refine wt_getR C.1 dX8_takeInto_39 flRX8_16 (tc14 T2) rfl (gg14_1 G2) ?_
      refine ww_aload_n C.1 dX8_takeInto_42 0 rfl rfl ?_
      refine wt_getI C.1 dX8_takeInto_43 flRX8_22 (tc14 T2) rfl ?_
      refine wt_aald (i := ((M 14 3) - (1 : Int32))) C.1 dX8_takeInto_46 (tc18 T2) (by rw [hz2]; exact vp_lit (by decide) (by decide)) (show (gj G2) 18 ((M 14 3) - (1 : Int32)).toNatClampNeg = some 20 by rw [hz2]; rfl) ?_
      refine ww_iconst C.1 (v := (0 : Int32)) dX8_takeInto_47 (by decide) ?_
      refine ww_aload_n C.1 dX8_takeInto_48 1 rfl rfl ?_
      refine wt_getR C.1 dX8_takeInto_49 flRX8_38 (tc37 T2) rfl (gg37_4 G2) ?_
      refine ww_iconst C.1 (v := (0 : Int32)) dX8_takeInto_52 (by decide) ?_
      refine ww_bipush C.1 (v := (7 : Int32)) dX8_takeInto_53 (by decide) ?_
      refine wt_acopy C.1 mlRX8_32 acN acS acI dX8_takeInto_55 (tc20 T2) (tc42 T2) (by decide) (by decide) (by decide) (by decide) (by decide) (by decide) (Nat.le_of_ble_eq_true rfl) ?_
      refine ww_aload_n C.1 dX8_takeInto_58 0 rfl rfl ?_
      refine wt_getR C.1 dX8_takeInto_59 flRX8_19 (tc14 T2) rfl (gg14_2 G2) ?_
      refine ww_aload_n C.1 dX8_takeInto_62 0 rfl rfl ?_
      refine wt_getI C.1 dX8_takeInto_63 flRX8_22 (tc14 T2) rfl ?_
      refine wt_aald (i := ((M 14 3) - (1 : Int32))) C.1 dX8_takeInto_66 (tc21 T2) (by rw [hz2]; exact vp_lit (by decide) (by decide)) (show (gj G2) 21 ((M 14 3) - (1 : Int32)).toNatClampNeg = some 23 by rw [hz2]; rfl) ?_
      refine ww_iconst C.1 (v := (0 : Int32)) dX8_takeInto_67 (by decide) ?_
      refine ww_aload_n C.1 dX8_takeInto_68 1 rfl rfl ?_
      refine wt_getR C.1 dX8_takeInto_69 flRX8_40 (tc37 T2) rfl (gg37_1 G2) ?_
      refine ww_iconst C.1 (v := (0 : Int32)) dX8_takeInto_72 (by decide) ?_
      refine ww_bipush C.1 (v := (7 : Int32)) dX8_takeInto_73 (by decide) ?_
      refine wt_acopy C.1 mlRX8_32 acN acS acI dX8_takeInto_75 (tc23 T2) (tc39 T2) (by decide) (by decide) (by decide) (by decide) (by decide) (by decide) (Nat.le_of_ble_eq_true rfl) ?_
      refine ww_vret C.1 dX8_takeInto_78 rfl ?_
      exact h
  · replace h := h.2 hh
    refine ww_vret C.1 dX8_takeInto_7 rfl ?_
    exact h
set_option maxHeartbeats 4000000 in
set_option maxRecDepth 20000 in
theorem bJ6_bitCount_0f7a4_0 {X : CX} {Q : State → Prop} {M : Mem} {G2 : Grf} {T2 : List (Nat × Nat)} {x0 : Int32} (C : Ok0 X mJ6_bitCount_0f7a4 (TTc ++ T2))
    (h : RetOK X Q (some (.int ((((((((x0 - ((x0.toUInt32 >>> ((1 : Int32).toUInt32 &&& Int32.toUInt32 31)).toInt32 &&& (1431655765 : Int32))) &&& (858993459 : Int32)) + (((x0 - ((x0.toUInt32 >>> ((1 : Int32).toUInt32 &&& Int32.toUInt32 31)).toInt32 &&& (1431655765 : Int32))).toUInt32 >>> ((2 : Int32).toUInt32 &&& Int32.toUInt32 31)).toInt32 &&& (858993459 : Int32))) + ((((x0 - ((x0.toUInt32 >>> ((1 : Int32).toUInt32 &&& Int32.toUInt32 31)).toInt32 &&& (1431655765 : Int32))) &&& (858993459 : Int32)) + (((x0 - ((x0.toUInt32 >>> ((1 : Int32).toUInt32 &&& Int32.toUInt32 31)).toInt32 &&& (1431655765 : Int32))).toUInt32 >>> ((2 : Int32).toUInt32 &&& Int32.toUInt32 31)).toInt32 &&& (858993459 : Int32))).toUInt32 >>> ((4 : Int32).toUInt32 &&& Int32.toUInt32 31)).toInt32) &&& (252645135 : Int32)) + ((((((x0 - ((x0.toUInt32 >>> ((1 : Int32).toUInt32 &&& Int32.toUInt32 31)).toInt32 &&& (1431655765 : Int32))) &&& (858993459 : Int32)) + (((x0 - ((x0.toUInt32 >>> ((1 : Int32).toUInt32 &&& Int32.toUInt32 31)).toInt32 &&& (1431655765 : Int32))).toUInt32 >>> ((2 : Int32).toUInt32 &&& Int32.toUInt32 31)).toInt32 &&& (858993459 : Int32))) + ((((x0 - ((x0.toUInt32 >>> ((1 : Int32).toUInt32 &&& Int32.toUInt32 31)).toInt32 &&& (1431655765 : Int32))) &&& (858993459 : Int32)) + (((x0 - ((x0.toUInt32 >>> ((1 : Int32).toUInt32 &&& Int32.toUInt32 31)).toInt32 &&& (1431655765 : Int32))).toUInt32 >>> ((2 : Int32).toUInt32 &&& Int32.toUInt32 31)).toInt32 &&& (858993459 : Int32))).toUInt32 >>> ((4 : Int32).toUInt32 &&& Int32.toUInt32 31)).toInt32) &&& (252645135 : Int32)).toUInt32 >>> ((8 : Int32).toUInt32 &&& Int32.toUInt32 31)).toInt32) + (((((((x0 - ((x0.toUInt32 >>> ((1 : Int32).toUInt32 &&& Int32.toUInt32 31)).toInt32 &&& (1431655765 : Int32))) &&& (858993459 : Int32)) + (((x0 - ((x0.toUInt32 >>> ((1 : Int32).toUInt32 &&& Int32.toUInt32 31)).toInt32 &&& (1431655765 : Int32))).toUInt32 >>> ((2 : Int32).toUInt32 &&& Int32.toUInt32 31)).toInt32 &&& (858993459 : Int32))) + ((((x0 - ((x0.toUInt32 >>> ((1 : Int32).toUInt32 &&& Int32.toUInt32 31)).toInt32 &&& (1431655765 : Int32))) &&& (858993459 : Int32)) + (((x0 - ((x0.toUInt32 >>> ((1 : Int32).toUInt32 &&& Int32.toUInt32 31)).toInt32 &&& (1431655765 : Int32))).toUInt32 >>> ((2 : Int32).toUInt32 &&& Int32.toUInt32 31)).toInt32 &&& (858993459 : Int32))).toUInt32 >>> ((4 : Int32).toUInt32 &&& Int32.toUInt32 31)).toInt32) &&& (252645135 : Int32)) + ((((((x0 - ((x0.toUInt32 >>> ((1 : Int32).toUInt32 &&& Int32.toUInt32 31)).toInt32 &&& (1431655765 : Int32))) &&& (858993459 : Int32)) + (((x0 - ((x0.toUInt32 >>> ((1 : Int32).toUInt32 &&& Int32.toUInt32 31)).toInt32 &&& (1431655765 : Int32))).toUInt32 >>> ((2 : Int32).toUInt32 &&& Int32.toUInt32 31)).toInt32 &&& (858993459 : Int32))) + ((((x0 - ((x0.toUInt32 >>> ((1 : Int32).toUInt32 &&& Int32.toUInt32 31)).toInt32 &&& (1431655765 : Int32))) &&& (858993459 : Int32)) + (((x0 - ((x0.toUInt32 >>> ((1 : Int32).toUInt32 &&& Int32.toUInt32 31)).toInt32 &&& (1431655765 : Int32))).toUInt32 >>> ((2 : Int32).toUInt32 &&& Int32.toUInt32 31)).toInt32 &&& (858993459 : Int32))).toUInt32 >>> ((4 : Int32).toUInt32 &&& Int32.toUInt32 31)).toInt32) &&& (252645135 : Int32)).toUInt32 >>> ((8 : Int32).toUInt32 &&& Int32.toUInt32 31)).toInt32).toUInt32 >>> ((16 : Int32).toUInt32 &&& Int32.toUInt32 31)).toInt32) &&& (63 : Int32)))) (M, (gj G2), TTc ++ T2)) :
    WW X Q 0 [(0, .int x0)] [] (M, (gj G2), TTc ++ T2) := by
  refine ww_iload_n C.1 dJ6_bitCount_0f7a4_0 0 rfl rfl ?_
  refine ww_iload_n C.1 dJ6_bitCount_0f7a4_1 0 rfl rfl ?_
  refine ww_iconst C.1 (v := (1 : Int32)) dJ6_bitCount_0f7a4_2 (by decide) ?_
  refine ww_iushr C.1 dJ6_bitCount_0f7a4_3 rfl ?_
  refine ww_ldcw C.1 kcRJ6_265 dJ6_bitCount_0f7a4_4 ?_
  refine ww_iand C.1 dJ6_bitCount_0f7a4_7 ?_
  refine ww_isub C.1 dJ6_bitCount_0f7a4_8 ?_
  refine ww_istore_n C.1 dJ6_bitCount_0f7a4_9 rfl (by decide) [0] (L' := [(0, .int (x0 - ((x0.toUInt32 >>> ((1 : Int32).toUInt32 &&& Int32.toUInt32 31)).toInt32 &&& (1431655765 : Int32))))]) rfl ?_
  refine ww_iload_n C.1 dJ6_bitCount_0f7a4_10 0 rfl rfl ?_
  refine ww_ldcw C.1 kcRJ6_266 dJ6_bitCount_0f7a4_11 ?_
  refine ww_iand C.1 dJ6_bitCount_0f7a4_14 ?_
  refine ww_iload_n C.1 dJ6_bitCount_0f7a4_15 0 rfl rfl ?_
  refine ww_iconst C.1 (v := (2 : Int32)) dJ6_bitCount_0f7a4_16 (by decide) ?_
  refine ww_iushr C.1 dJ6_bitCount_0f7a4_17 rfl ?_
  refine ww_ldcw C.1 kcRJ6_266 dJ6_bitCount_0f7a4_18 ?_
  refine ww_iand C.1 dJ6_bitCount_0f7a4_21 ?_
  refine ww_iadd C.1 dJ6_bitCount_0f7a4_22 ?_
  refine ww_istore_n C.1 dJ6_bitCount_0f7a4_23 rfl (by decide) [0] (L' := [(0, .int (((x0 - ((x0.toUInt32 >>> ((1 : Int32).toUInt32 &&& Int32.toUInt32 31)).toInt32 &&& (1431655765 : Int32))) &&& (858993459 : Int32)) + (((x0 - ((x0.toUInt32 >>> ((1 : Int32).toUInt32 &&& Int32.toUInt32 31)).toInt32 &&& (1431655765 : Int32))).toUInt32 >>> ((2 : Int32).toUInt32 &&& Int32.toUInt32 31)).toInt32 &&& (858993459 : Int32))))]) rfl ?_
  refine ww_iload_n C.1 dJ6_bitCount_0f7a4_24 0 rfl rfl ?_
  refine ww_iload_n C.1 dJ6_bitCount_0f7a4_25 0 rfl rfl ?_
  refine ww_iconst C.1 (v := (4 : Int32)) dJ6_bitCount_0f7a4_26 (by decide) ?_
  refine ww_iushr C.1 dJ6_bitCount_0f7a4_27 rfl ?_
  refine ww_iadd C.1 dJ6_bitCount_0f7a4_28 ?_
  refine ww_ldcw C.1 kcRJ6_267 dJ6_bitCount_0f7a4_29 ?_
  refine ww_iand C.1 dJ6_bitCount_0f7a4_32 ?_
  refine ww_istore_n C.1 dJ6_bitCount_0f7a4_33 rfl (by decide) [0] (L' := [(0, .int (((((x0 - ((x0.toUInt32 >>> ((1 : Int32).toUInt32 &&& Int32.toUInt32 31)).toInt32 &&& (1431655765 : Int32))) &&& (858993459 : Int32)) + (((x0 - ((x0.toUInt32 >>> ((1 : Int32).toUInt32 &&& Int32.toUInt32 31)).toInt32 &&& (1431655765 : Int32))).toUInt32 >>> ((2 : Int32).toUInt32 &&& Int32.toUInt32 31)).toInt32 &&& (858993459 : Int32))) + ((((x0 - ((x0.toUInt32 >>> ((1 : Int32).toUInt32 &&& Int32.toUInt32 31)).toInt32 &&& (1431655765 : Int32))) &&& (858993459 : Int32)) + (((x0 - ((x0.toUInt32 >>> ((1 : Int32).toUInt32 &&& Int32.toUInt32 31)).toInt32 &&& (1431655765 : Int32))).toUInt32 >>> ((2 : Int32).toUInt32 &&& Int32.toUInt32 31)).toInt32 &&& (858993459 : Int32))).toUInt32 >>> ((4 : Int32).toUInt32 &&& Int32.toUInt32 31)).toInt32) &&& (252645135 : Int32)))]) rfl ?_
  refine ww_iload_n C.1 dJ6_bitCount_0f7a4_34 0 rfl rfl ?_
  refine ww_iload_n C.1 dJ6_bitCount_0f7a4_35 0 rfl rfl ?_
  refine ww_bipush C.1 (v := (8 : Int32)) dJ6_bitCount_0f7a4_36 (by decide) ?_
  refine ww_iushr C.1 dJ6_bitCount_0f7a4_38 rfl ?_
  refine ww_iadd C.1 dJ6_bitCount_0f7a4_39 ?_
  refine ww_istore_n C.1 dJ6_bitCount_0f7a4_40 rfl (by decide) [0] (L' := [(0, .int ((((((x0 - ((x0.toUInt32 >>> ((1 : Int32).toUInt32 &&& Int32.toUInt32 31)).toInt32 &&& (1431655765 : Int32))) &&& (858993459 : Int32)) + (((x0 - ((x0.toUInt32 >>> ((1 : Int32).toUInt32 &&& Int32.toUInt32 31)).toInt32 &&& (1431655765 : Int32))).toUInt32 >>> ((2 : Int32).toUInt32 &&& Int32.toUInt32 31)).toInt32 &&& (858993459 : Int32))) + ((((x0 - ((x0.toUInt32 >>> ((1 : Int32).toUInt32 &&& Int32.toUInt32 31)).toInt32 &&& (1431655765 : Int32))) &&& (858993459 : Int32)) + (((x0 - ((x0.toUInt32 >>> ((1 : Int32).toUInt32 &&& Int32.toUInt32 31)).toInt32 &&& (1431655765 : Int32))).toUInt32 >>> ((2 : Int32).toUInt32 &&& Int32.toUInt32 31)).toInt32 &&& (858993459 : Int32))).toUInt32 >>> ((4 : Int32).toUInt32 &&& Int32.toUInt32 31)).toInt32) &&& (252645135 : Int32)) + ((((((x0 - ((x0.toUInt32 >>> ((1 : Int32).toUInt32 &&& Int32.toUInt32 31)).toInt32 &&& (1431655765 : Int32))) &&& (858993459 : Int32)) + (((x0 - ((x0.toUInt32 >>> ((1 : Int32).toUInt32 &&& Int32.toUInt32 31)).toInt32 &&& (1431655765 : Int32))).toUInt32 >>> ((2 : Int32).toUInt32 &&& Int32.toUInt32 31)).toInt32 &&& (858993459 : Int32))) + ((((x0 - ((x0.toUInt32 >>> ((1 : Int32).toUInt32 &&& Int32.toUInt32 31)).toInt32 &&& (1431655765 : Int32))) &&& (858993459 : Int32)) + (((x0 - ((x0.toUInt32 >>> ((1 : Int32).toUInt32 &&& Int32.toUInt32 31)).toInt32 &&& (1431655765 : Int32))).toUInt32 >>> ((2 : Int32).toUInt32 &&& Int32.toUInt32 31)).toInt32 &&& (858993459 : Int32))).toUInt32 >>> ((4 : Int32).toUInt32 &&& Int32.toUInt32 31)).toInt32) &&& (252645135 : Int32)).toUInt32 >>> ((8 : Int32).toUInt32 &&& Int32.toUInt32 31)).toInt32))]) rfl ?_
  refine ww_iload_n C.1 dJ6_bitCount_0f7a4_41 0 rfl rfl ?_
  refine ww_iload_n C.1 dJ6_bitCount_0f7a4_42 0 rfl rfl ?_
  refine ww_bipush C.1 (v := (16 : Int32)) dJ6_bitCount_0f7a4_43 (by decide) ?_
  refine ww_iushr C.1 dJ6_bitCount_0f7a4_45 rfl ?_
  refine ww_iadd C.1 dJ6_bitCount_0f7a4_46 ?_
  refine ww_istore_n C.1 dJ6_bitCount_0f7a4_47 rfl (by decide) [0] (L' := [(0, .int (((((((x0 - ((x0.toUInt32 >>> ((1 : Int32).toUInt32 &&& Int32.toUInt32 31)).toInt32 &&& (1431655765 : Int32))) &&& (858993459 : Int32)) + (((x0 - ((x0.toUInt32 >>> ((1 : Int32).toUInt32 &&& Int32.toUInt32 31)).toInt32 &&& (1431655765 : Int32))).toUInt32 >>> ((2 : Int32).toUInt32 &&& Int32.toUInt32 31)).toInt32 &&& (858993459 : Int32))) + ((((x0 - ((x0.toUInt32 >>> ((1 : Int32).toUInt32 &&& Int32.toUInt32 31)).toInt32 &&& (1431655765 : Int32))) &&& (858993459 : Int32)) + (((x0 - ((x0.toUInt32 >>> ((1 : Int32).toUInt32 &&& Int32.toUInt32 31)).toInt32 &&& (1431655765 : Int32))).toUInt32 >>> ((2 : Int32).toUInt32 &&& Int32.toUInt32 31)).toInt32 &&& (858993459 : Int32))).toUInt32 >>> ((4 : Int32).toUInt32 &&& Int32.toUInt32 31)).toInt32) &&& (252645135 : Int32)) + ((((((x0 - ((x0.toUInt32 >>> ((1 : Int32).toUInt32 &&& Int32.toUInt32 31)).toInt32 &&& (1431655765 : Int32))) &&& (858993459 : Int32)) + (((x0 - ((x0.toUInt32 >>> ((1 : Int32).toUInt32 &&& Int32.toUInt32 31)).toInt32 &&& (1431655765 : Int32))).toUInt32 >>> ((2 : Int32).toUInt32 &&& Int32.toUInt32 31)).toInt32 &&& (858993459 : Int32))) + ((((x0 - ((x0.toUInt32 >>> ((1 : Int32).toUInt32 &&& Int32.toUInt32 31)).toInt32 &&& (1431655765 : Int32))) &&& (858993459 : Int32)) + (((x0 - ((x0.toUInt32 >>> ((1 : Int32).toUInt32 &&& Int32.toUInt32 31)).toInt32 &&& (1431655765 : Int32))).toUInt32 >>> ((2 : Int32).toUInt32 &&& Int32.toUInt32 31)).toInt32 &&& (858993459 : Int32))).toUInt32 >>> ((4 : Int32).toUInt32 &&& Int32.toUInt32 31)).toInt32) &&& (252645135 : Int32)).toUInt32 >>> ((8 : Int32).toUInt32 &&& Int32.toUInt32 31)).toInt32) + (((((((x0 - ((x0.toUInt32 >>> ((1 : Int32).toUInt32 &&& Int32.toUInt32 31)).toInt32 &&& (1431655765 : Int32))) &&& (858993459 : Int32)) + (((x0 - ((x0.toUInt32 >>> ((1 : Int32).toUInt32 &&& Int32.toUInt32 31)).toInt32 &&& (1431655765 : Int32))).toUInt32 >>> ((2 : Int32).toUInt32 &&& Int32.toUInt32 31)).toInt32 &&& (858993459 : Int32))) + ((((x0 - ((x0.toUInt32 >>> ((1 : Int32).toUInt32 &&& Int32.toUInt32 31)).toInt32 &&& (1431655765 : Int32))) &&& (858993459 : Int32)) + (((x0 - ((x0.toUInt32 >>> ((1 : Int32).toUInt32 &&& Int32.toUInt32 31)).toInt32 &&& (1431655765 : Int32))).toUInt32 >>> ((2 : Int32).toUInt32 &&& Int32.toUInt32 31)).toInt32 &&& (858993459 : Int32))).toUInt32 >>> ((4 : Int32).toUInt32 &&& Int32.toUInt32 31)).toInt32) &&& (252645135 : Int32)) + ((((((x0 - ((x0.toUInt32 >>> ((1 : Int32).toUInt32 &&& Int32.toUInt32 31)).toInt32 &&& (1431655765 : Int32))) &&& (858993459 : Int32)) + (((x0 - ((x0.toUInt32 >>> ((1 : Int32).toUInt32 &&& Int32.toUInt32 31)).toInt32 &&& (1431655765 : Int32))).toUInt32 >>> ((2 : Int32).toUInt32 &&& Int32.toUInt32 31)).toInt32 &&& (858993459 : Int32))) + ((((x0 - ((x0.toUInt32 >>> ((1 : Int32).toUInt32 &&& Int32.toUInt32 31)).toInt32 &&& (1431655765 : Int32))) &&& (858993459 : Int32)) + (((x0 - ((x0.toUInt32 >>> ((1 : Int32).toUInt32 &&& Int32.toUInt32 31)).toInt32 &&& (1431655765 : Int32))).toUInt32 >>> ((2 : Int32).toUInt32 &&& Int32.toUInt32 31)).toInt32 &&& (858993459 : Int32))).toUInt32 >>> ((4 : Int32).toUInt32 &&& Int32.toUInt32 31)).toInt32) &&& (252645135 : Int32)).toUInt32 >>> ((8 : Int32).toUInt32 &&& Int32.toUInt32 31)).toInt32).toUInt32 >>> ((16 : Int32).toUInt32 &&& Int32.toUInt32 31)).toInt32))]) rfl ?_
  refine ww_iload_n C.1 dJ6_bitCount_0f7a4_48 0 rfl rfl ?_
  refine ww_bipush C.1 (v := (63 : Int32)) dJ6_bitCount_0f7a4_49 (by decide) ?_
  refine ww_iand C.1 dJ6_bitCount_0f7a4_51 ?_
  refine ww_iret C.1 dJ6_bitCount_0f7a4_52 rfl ?_
  exact h
set_option maxHeartbeats 4000000 in
set_option maxRecDepth 20000 in
theorem bJ9_abs_0f7a4_0 {X : CX} {Q : State → Prop} {M : Mem} {G2 : Grf} {T2 : List (Nat × Nat)} {x0 : Int32} (C : Ok0 X mJ9_abs_0f7a4 (TTc ++ T2))
    (h : (((0 : Int32) ≤ x0 → RetOK X Q (some (.int x0)) (M, (gj G2), TTc ++ T2)) ∧ (¬ (0 : Int32) ≤ x0 → RetOK X Q (some (.int (-x0))) (M, (gj G2), TTc ++ T2)))) :
    WW X Q 0 [(0, .int x0)] [] (M, (gj G2), TTc ++ T2) := by
  refine ww_iload_n C.1 dJ9_abs_0f7a4_0 0 rfl rfl ?_
  refine ww_if_ge (x := x0) C.1 (tgt := 9) dJ9_abs_0f7a4_1 (by decide) (fun hh => ?_) (fun hh => ?_)
  · replace h := h.1 hh
    refine ww_iload_n C.1 dJ9_abs_0f7a4_9 0 rfl rfl ?_
    refine ww_iret C.1 dJ9_abs_0f7a4_10 rfl ?_
    exact h
  · replace h := h.2 hh
    refine ww_iload_n C.1 dJ9_abs_0f7a4_4 0 rfl rfl ?_
    refine ww_ineg C.1 dJ9_abs_0f7a4_5 ?_
    refine ww_goto C.1 (tgt := 10) dJ9_abs_0f7a4_6 (by decide) ?_
    refine ww_iret C.1 dJ9_abs_0f7a4_10 rfl ?_
    exact h
set_option maxHeartbeats 4000000 in
set_option maxRecDepth 20000 in
theorem bJ9_max_7cf53_0 {X : CX} {Q : State → Prop} {M : Mem} {G2 : Grf} {T2 : List (Nat × Nat)} {x0 x1 : Int32} (C : Ok0 X mJ9_max_7cf53 (TTc ++ T2))
    (h : ((x0 < x1 → RetOK X Q (some (.int x1)) (M, (gj G2), TTc ++ T2)) ∧ (¬ x0 < x1 → RetOK X Q (some (.int x0)) (M, (gj G2), TTc ++ T2)))) :
    WW X Q 0 [(0, .int x0), (1, .int x1)] [] (M, (gj G2), TTc ++ T2) := by
  refine ww_iload_n C.1 dJ9_max_7cf53_0 0 rfl rfl ?_
  refine ww_iload_n C.1 dJ9_max_7cf53_1 1 rfl rfl ?_
  refine ww_icmp_lt (x := x0) (y := x1) C.1 (tgt := 9) dJ9_max_7cf53_2 (by decide) (fun hh => ?_) (fun hh => ?_)
  · replace h := h.1 hh
    refine ww_iload_n C.1 dJ9_max_7cf53_9 1 rfl rfl ?_
    refine ww_iret C.1 dJ9_max_7cf53_10 rfl ?_
    exact h
  · replace h := h.2 hh
    refine ww_iload_n C.1 dJ9_max_7cf53_5 0 rfl rfl ?_
    refine ww_goto C.1 (tgt := 10) dJ9_max_7cf53_6 (by decide) ?_
    refine ww_iret C.1 dJ9_max_7cf53_10 rfl ?_
    exact h
set_option maxHeartbeats 4000000 in
set_option maxRecDepth 20000 in
theorem bJ9_min_7cf53_0 {X : CX} {Q : State → Prop} {M : Mem} {G2 : Grf} {T2 : List (Nat × Nat)} {x0 x1 : Int32} (C : Ok0 X mJ9_min_7cf53 (TTc ++ T2))
    (h : ((x1 < x0 → RetOK X Q (some (.int x1)) (M, (gj G2), TTc ++ T2)) ∧ (¬ x1 < x0 → RetOK X Q (some (.int x0)) (M, (gj G2), TTc ++ T2)))) :
    WW X Q 0 [(0, .int x0), (1, .int x1)] [] (M, (gj G2), TTc ++ T2) := by
  refine ww_iload_n C.1 dJ9_min_7cf53_0 0 rfl rfl ?_
  refine ww_iload_n C.1 dJ9_min_7cf53_1 1 rfl rfl ?_
  refine ww_icmp_gt (x := x0) (y := x1) C.1 (tgt := 9) dJ9_min_7cf53_2 (by decide) (fun hh => ?_) (fun hh => ?_)
  · replace h := h.1 hh
    refine ww_iload_n C.1 dJ9_min_7cf53_9 1 rfl rfl ?_
    refine ww_iret C.1 dJ9_min_7cf53_10 rfl ?_
    exact h
  · replace h := h.2 hh
    refine ww_iload_n C.1 dJ9_min_7cf53_5 0 rfl rfl ?_
    refine ww_goto C.1 (tgt := 10) dJ9_min_7cf53_6 (by decide) ?_
    refine ww_iret C.1 dJ9_min_7cf53_10 rfl ?_
    exact h
set_option maxHeartbeats 4000000 in
set_option maxRecDepth 20000 in
theorem bX9_write_0 {X : CX} {Q : State → Prop} {M : Mem} {G2 : Grf} {T2 : List (Nat × Nat)} {x1 : Int32} (C : Ok0 X mX9_write (TTc ++ T2))
    (h : ((x1 < (32 : Int32) → RetOK X Q (some (.int (-1 : Int32))) (M, (gj G2), TTc ++ T2)) ∧ (¬ x1 < (32 : Int32) → (((126 : Int32) < x1 → RetOK X Q (some (.int (-1 : Int32))) (M, (gj G2), TTc ++ T2)) ∧ (¬ (126 : Int32) < x1 → WpI mX7_put [.ref 1, .int (x1.toUInt32 % 65536).toInt32] M (gj G2) (TTc ++ T2) (fun r M' => WW X Q 22 [(0, .ref 0), (1, .int x1)] [.int r] (M', (gj G2), TTc ++ T2))))))) :
    WW X Q 0 [(0, .ref 0), (1, .int x1)] [] (M, (gj G2), TTc ++ T2) := by
  refine ww_iload_n C.1 dX9_write_0 1 rfl rfl ?_
  refine ww_bipush C.1 (v := (32 : Int32)) dX9_write_1 (by decide) ?_
  refine ww_bipush C.1 (v := (126 : Int32)) dX9_write_3 (by decide) ?_
  refine ww_sI C fX9_isWithin (And.intro (by decide) (by decide)) mlRX9_89 dX9_write_5 (As := [.int x1, .int (32 : Int32), .int (126 : Int32)]) (rest := []) rfl rfl rfl (Nat.le_of_ble_eq_true rfl) (WpI.of (L0 := [(0, .int x1), (1, .int (32 : Int32)), (2, .int (126 : Int32))]) rfl rfl (Nat.le_of_ble_eq_true rfl) fun X1 Q1 C1 k1 => ?_)
  refine ww_iload_n C1.1 dX9_isWithin_0 0 rfl rfl ?_
  refine ww_iload_n C1.1 dX9_isWithin_1 1 rfl rfl ?_
  refine ww_icmp_lt (x := x1) (y := (32 : Int32)) C1.1 (tgt := 14) dX9_isWithin_2 (by decide) (fun hh => ?_) (fun hh => ?_)
  · replace h := h.1 hh
    refine ww_iconst C1.1 (v := (0 : Int32)) dX9_isWithin_14 (by decide) ?_
    refine ww_zret C1.1 dX9_isWithin_15 rfl (Or.inl rfl) ?_
    refine k1 _ _ ?_
    refine ww_if_ne (x := (0 : Int32)) C.1 (tgt := 13) dX9_write_8 (by decide) (fun hh => absurd hh (by decide)) (fun _ => ?_)
    refine ww_iconst C.1 (v := (-1 : Int32)) dX9_write_11 (by decide) ?_
    refine ww_iret C.1 dX9_write_12 rfl ?_
    exact h
  · replace h := h.2 hh
    refine ww_iload_n C1.1 dX9_isWithin_5 0 rfl rfl ?_
    refine ww_iload_n C1.1 dX9_isWithin_6 2 rfl rfl ?_
    refine ww_icmp_gt (x := x1) (y := (126 : Int32)) C1.1 (tgt := 14) dX9_isWithin_7 (by decide) (fun hh => ?_) (fun hh => ?_)
    · replace h := h.1 hh
      refine ww_iconst C1.1 (v := (0 : Int32)) dX9_isWithin_14 (by decide) ?_
      refine ww_zret C1.1 dX9_isWithin_15 rfl (Or.inl rfl) ?_
      refine k1 _ _ ?_
      refine ww_if_ne (x := (0 : Int32)) C.1 (tgt := 13) dX9_write_8 (by decide) (fun hh => absurd hh (by decide)) (fun _ => ?_)
      refine ww_iconst C.1 (v := (-1 : Int32)) dX9_write_11 (by decide) ?_
      refine ww_iret C.1 dX9_write_12 rfl ?_
      exact h
    · replace h := h.2 hh
      refine ww_iconst C1.1 (v := (1 : Int32)) dX9_isWithin_10 (by decide) ?_
      refine ww_goto C1.1 (tgt := 15) dX9_isWithin_11 (by decide) ?_
      refine ww_zret C1.1 dX9_isWithin_15 rfl (Or.inr rfl) ?_
      refine k1 _ _ ?_
      refine ww_if_ne (x := (1 : Int32)) C.1 (tgt := 13) dX9_write_8 (by decide) (fun _ => ?_) (fun hh => absurd hh (by decide))
      refine ww_aload_n C.1 dX9_write_13 0 rfl rfl ?_
      refine wt_getR C.1 dX9_write_14 flRX9_10 (tc0 T2) rfl (gg0_0 G2) ?_
      refine ww_iload_n C.1 dX9_write_17 1 rfl rfl ?_
      refine ww_i2c C.1 dX9_write_18 rfl ?_
      refine ww_vI C fX7_put (And.intro (by decide) (by decide)) mlRX9_77 dX9_write_19 (tc1 T2) (by decide) rfl (As := [.int (x1.toUInt32 % 65536).toInt32]) (rest := []) rfl rfl rfl (Nat.le_of_ble_eq_true rfl) ?_
      exact h
