/-! the parse, over worlds in which the class's two inns may have changed places -/
def gz (ga gb : Nat) (G2 : Grf) : Grf := fun k j => if k = 0 ∧ j = 7 then some ga else if k = 0 ∧ j = 8 then some gb else gj G2 k j
theorem gz_id {G2 : Grf} : gz 33 45 G2 = gj G2 := by
  funext k j
  unfold gz
  split
  · rename_i h; rw [h.1, h.2]; rfl
  · split
    · rename_i h; rw [h.1, h.2]; rfl
    · rfl
theorem gz_sw {G2 : Grf} : wrG (wrG (gj G2) 0 7 (some 45)) 0 8 (some 33) = gz 45 33 G2 := by
  funext k j
  unfold gz wrG
  by_cases h : k = 0 ∧ j = 7
  · obtain ⟨rfl, rfl⟩ := h; rfl
  · by_cases h2 : k = 0 ∧ j = 8
    · obtain ⟨rfl, rfl⟩ := h2; rfl
    · rw [if_neg h2, if_neg h, if_neg h, if_neg h2]
set_option maxHeartbeats 4000000 in
set_option maxRecDepth 20000 in
theorem bX7_putz_0 {X : CX} {Q : State → Prop} {M : Mem} {ga gb : Nat} {G2 : Grf} {T2 : List (Nat × Nat)} {x1 : Int32} (C : Ok0 X mX7_put (TTc ++ T2))
    (h : (((M 1 2) < (200 : Int32) → (vp_in (M 1 2) 200 ∧ RetOK X Q (some (.int (1 : Int32))) ((wr (wr M 2 (M 1 2).toNatClampNeg (vp_nar .char x1)) 1 2 ((M 1 2) + (1 : Int32))), (gz ga gb G2), TTc ++ T2))) ∧ (¬ (M 1 2) < (200 : Int32) → RetOK X Q (some (.int (0 : Int32))) (M, (gz ga gb G2), TTc ++ T2)))) :
    WW X Q 0 [(0, .ref 1), (1, .int x1)] [] (M, (gz ga gb G2), TTc ++ T2) := by
  refine ww_aload_n C.1 dX7_put_0 0 rfl rfl ?_
  refine wt_getI C.1 dX7_put_1 flRX7_19 (tc1 T2) rfl ?_
  refine ww_sipush C.1 (v := (200 : Int32)) dX7_put_4 (by decide) ?_
  refine ww_icmp_lt (x := (M 1 2)) (y := (200 : Int32)) C.1 (tgt := 12) dX7_put_7 (by decide) (fun hh => ?_) (fun hh => ?_)
  · replace h := h.1 hh
    refine ww_aload_n C.1 dX7_put_12 0 rfl rfl ?_
    refine wt_getR C.1 dX7_put_13 flRX7_9 (tc1 T2) rfl rfl ?_
    refine ww_aload_n C.1 dX7_put_16 0 rfl rfl ?_
    refine wt_getI C.1 dX7_put_17 flRX7_19 (tc1 T2) rfl ?_
    refine ww_iload_n C.1 dX7_put_20 1 rfl rfl ?_
    refine wt_cast C.1 dX7_put_21 (tc2 T2) h.1 ?_
    replace h := h.2
    refine ww_aload_n C.1 dX7_put_22 0 rfl rfl ?_
    refine ww_dup C.1 dX7_put_23 rfl ?_
    refine wt_getI C.1 dX7_put_24 flRX7_19 (tc1 T2) rfl ?_
    refine ww_iconst C.1 (v := (1 : Int32)) dX7_put_27 (by decide) ?_
    refine ww_iadd C.1 dX7_put_28 ?_
    refine wt_putI C.1 dX7_put_29 flRX7_19 (tc1 T2) rfl ?_
    refine ww_iconst C.1 (v := (1 : Int32)) dX7_put_32 (by decide) ?_
    refine ww_zret C.1 dX7_put_33 rfl (Or.inr rfl) ?_
    exact h
  · replace h := h.2 hh
    refine ww_iconst C.1 (v := (0 : Int32)) dX7_put_10 (by decide) ?_
    refine ww_zret C.1 dX7_put_11 rfl (Or.inl rfl) ?_
    exact h
set_option maxHeartbeats 4000000 in
set_option maxRecDepth 20000 in
theorem bX7_letterAtz_0 {X : CX} {Q : State → Prop} {M : Mem} {ga gb : Nat} {G2 : Grf} {T2 : List (Nat × Nat)} {x1 : Int32} (C : Ok0 X mX7_letterAt (TTc ++ T2))
    (h : ((x1 < (0 : Int32) → RetOK X Q (some (.int (0 : Int32))) (M, (gz ga gb G2), TTc ++ T2)) ∧ (¬ x1 < (0 : Int32) → (((M 1 2) ≤ x1 → RetOK X Q (some (.int (0 : Int32))) (M, (gz ga gb G2), TTc ++ T2)) ∧ (¬ (M 1 2) ≤ x1 → (((200 : Int32) ≤ x1 → RetOK X Q (some (.int (0 : Int32))) (M, (gz ga gb G2), TTc ++ T2)) ∧ (¬ (200 : Int32) ≤ x1 → (vp_in x1 200 ∧ RetOK X Q (some (.int (M 2 x1.toNatClampNeg))) (M, (gz ga gb G2), TTc ++ T2))))))))) :
    WW X Q 0 [(0, .ref 1), (1, .int x1)] [] (M, (gz ga gb G2), TTc ++ T2) := by
  refine ww_iload_n C.1 dX7_letterAt_0 1 rfl rfl ?_
  refine ww_if_lt (x := x1) C.1 (tgt := 30) dX7_letterAt_1 (by decide) (fun hh => ?_) (fun hh => ?_)
  · replace h := h.1 hh
    refine ww_iconst C.1 (v := (0 : Int32)) dX7_letterAt_30 (by decide) ?_
    refine ww_iret C.1 dX7_letterAt_31 rfl ?_
    exact h
  · replace h := h.2 hh
    refine ww_iload_n C.1 dX7_letterAt_4 1 rfl rfl ?_
    refine ww_aload_n C.1 dX7_letterAt_5 0 rfl rfl ?_
    refine wt_getI C.1 dX7_letterAt_6 flRX7_19 (tc1 T2) rfl ?_
    refine ww_icmp_ge (x := x1) (y := (M 1 2)) C.1 (tgt := 30) dX7_letterAt_9 (by decide) (fun hh => ?_) (fun hh => ?_)
    · replace h := h.1 hh
      refine ww_iconst C.1 (v := (0 : Int32)) dX7_letterAt_30 (by decide) ?_
      refine ww_iret C.1 dX7_letterAt_31 rfl ?_
      exact h
    · replace h := h.2 hh
      refine ww_iload_n C.1 dX7_letterAt_12 1 rfl rfl ?_
      refine ww_aload_n C.1 dX7_letterAt_13 0 rfl rfl ?_
      refine wt_getR C.1 dX7_letterAt_14 flRX7_9 (tc1 T2) rfl rfl ?_
      refine wt_alen C.1 (v := (200 : Int32)) dX7_letterAt_17 (tc2 T2) (Or.inr rfl) (by decide) ?_
      refine ww_icmp_ge (x := x1) (y := (200 : Int32)) C.1 (tgt := 30) dX7_letterAt_18 (by decide) (fun hh => ?_) (fun hh => ?_)
      · replace h := h.1 hh
        refine ww_iconst C.1 (v := (0 : Int32)) dX7_letterAt_30 (by decide) ?_
        refine ww_iret C.1 dX7_letterAt_31 rfl ?_
        exact h
      · replace h := h.2 hh
        refine ww_aload_n C.1 dX7_letterAt_21 0 rfl rfl ?_
        refine wt_getR C.1 dX7_letterAt_22 flRX7_9 (tc1 T2) rfl rfl ?_
        refine ww_iload_n C.1 dX7_letterAt_25 1 rfl rfl ?_
        refine wt_cald C.1 dX7_letterAt_26 (tc2 T2) h.1 ?_
        replace h := h.2
        refine ww_goto C.1 (tgt := 31) dX7_letterAt_27 (by decide) ?_
        refine ww_iret C.1 dX7_letterAt_31 rfl ?_
        exact h
set_option maxHeartbeats 4000000 in
set_option maxRecDepth 20000 in
theorem bX7_isFigurez_0 {X : CX} {Q : State → Prop} {M : Mem} {ga gb : Nat} {G2 : Grf} {T2 : List (Nat × Nat)} {x1 : Int32} (C : Ok0 X mX7_isFigure (TTc ++ T2))
    (h : WpI mX7_letterAt [.ref 1, .int x1] M (gz ga gb G2) (TTc ++ T2) (fun r M' => WW X Q 5 [(0, .ref 1), (1, .int x1)] [.int r] (M', (gz ga gb G2), TTc ++ T2))) :
    WW X Q 0 [(0, .ref 1), (1, .int x1)] [] (M, (gz ga gb G2), TTc ++ T2) := by
  refine ww_aload_n C.1 dX7_isFigure_0 0 rfl rfl ?_
  refine ww_iload_n C.1 dX7_isFigure_1 1 rfl rfl ?_
  refine ww_vI C fX7_letterAt (And.intro (by decide) (by decide)) mlRX7_32 dX7_isFigure_2 (tc1 T2) (by decide) rfl (As := [.int x1]) (rest := []) rfl rfl rfl (Nat.le_of_ble_eq_true rfl) ?_
  exact h
set_option maxHeartbeats 4000000 in
set_option maxRecDepth 20000 in
theorem bX7_isFigurez_5 {X : CX} {Q : State → Prop} {M : Mem} {ga gb : Nat} {G2 : Grf} {T2 : List (Nat × Nat)} {x1 s0 : Int32} (C : Ok0 X mX7_isFigure (TTc ++ T2))
    (h : ((s0 < (48 : Int32) → RetOK X Q (some (.int (0 : Int32))) (M, (gz ga gb G2), TTc ++ T2)) ∧ (¬ s0 < (48 : Int32) → (((57 : Int32) < s0 → RetOK X Q (some (.int (0 : Int32))) (M, (gz ga gb G2), TTc ++ T2)) ∧ (¬ (57 : Int32) < s0 → RetOK X Q (some (.int (1 : Int32))) (M, (gz ga gb G2), TTc ++ T2)))))) :
    WW X Q 5 [(0, .ref 1), (1, .int x1)] [.int s0] (M, (gz ga gb G2), TTc ++ T2) := by
  refine ww_bipush C.1 (v := (48 : Int32)) dX7_isFigure_5 (by decide) ?_
  refine ww_bipush C.1 (v := (57 : Int32)) dX7_isFigure_7 (by decide) ?_
  refine ww_nI C fX9_isWithin (And.intro (by decide) (by decide)) nlRX7_46 dX7_isFigure_9 (As := [.int s0, .int (48 : Int32), .int (57 : Int32)]) (rest := []) rfl rfl rfl (Nat.le_of_ble_eq_true rfl) (WpI.of (L0 := [(0, .int s0), (1, .int (48 : Int32)), (2, .int (57 : Int32))]) rfl rfl (Nat.le_of_ble_eq_true rfl) fun X1 Q1 C1 k1 => ?_)
  refine ww_iload_n C1.1 dX9_isWithin_0 0 rfl rfl ?_
  refine ww_iload_n C1.1 dX9_isWithin_1 1 rfl rfl ?_
  refine ww_icmp_lt (x := s0) (y := (48 : Int32)) C1.1 (tgt := 14) dX9_isWithin_2 (by decide) (fun hh => ?_) (fun hh => ?_)
  · replace h := h.1 hh
    refine ww_iconst C1.1 (v := (0 : Int32)) dX9_isWithin_14 (by decide) ?_
    refine ww_zret C1.1 dX9_isWithin_15 rfl (Or.inl rfl) ?_
    refine k1 _ _ ?_
    refine ww_zret C.1 dX7_isFigure_12 rfl (Or.inl rfl) ?_
    exact h
  · replace h := h.2 hh
    refine ww_iload_n C1.1 dX9_isWithin_5 0 rfl rfl ?_
    refine ww_iload_n C1.1 dX9_isWithin_6 2 rfl rfl ?_
    refine ww_icmp_gt (x := s0) (y := (57 : Int32)) C1.1 (tgt := 14) dX9_isWithin_7 (by decide) (fun hh => ?_) (fun hh => ?_)
    · replace h := h.1 hh
      refine ww_iconst C1.1 (v := (0 : Int32)) dX9_isWithin_14 (by decide) ?_
      refine ww_zret C1.1 dX9_isWithin_15 rfl (Or.inl rfl) ?_
      refine k1 _ _ ?_
      refine ww_zret C.1 dX7_isFigure_12 rfl (Or.inl rfl) ?_
      exact h
    · replace h := h.2 hh
      refine ww_iconst C1.1 (v := (1 : Int32)) dX9_isWithin_10 (by decide) ?_
      refine ww_goto C1.1 (tgt := 15) dX9_isWithin_11 (by decide) ?_
      refine ww_zret C1.1 dX9_isWithin_15 rfl (Or.inr rfl) ?_
      refine k1 _ _ ?_
      refine ww_zret C.1 dX7_isFigure_12 rfl (Or.inr rfl) ?_
      exact h
set_option maxHeartbeats 4000000 in
set_option maxRecDepth 20000 in
theorem bX7_readNumbersz_0 {X : CX} {Q : State → Prop} {M : Mem} {ga gb : Nat} {G2 : Grf} {T2 : List (Nat × Nat)} {x1 : Int32} (C : Ok0 X mX7_readNumbers (TTc ++ T2))
    (h : WW X Q 4 [(0, .ref 1), (1, .int x1), (2, .int x1), (3, .int (0 : Int32))] [] (M, (gz ga gb G2), TTc ++ T2)) :
    WW X Q 0 [(0, .ref 1), (1, .int x1)] [] (M, (gz ga gb G2), TTc ++ T2) := by
  refine ww_iload_n C.1 dX7_readNumbers_0 1 rfl rfl ?_
  refine ww_istore_n C.1 dX7_readNumbers_1 rfl (by decide) [1, 2, 0] (L' := [(0, .ref 1), (1, .int x1), (2, .int x1)]) rfl ?_
  refine ww_iconst C.1 (v := (0 : Int32)) dX7_readNumbers_2 (by decide) ?_
  refine ww_istore_n C.1 dX7_readNumbers_3 rfl (by decide) [1, 2, 3, 0] (L' := [(0, .ref 1), (1, .int x1), (2, .int x1), (3, .int (0 : Int32))]) rfl ?_
  exact h
set_option maxHeartbeats 4000000 in
set_option maxRecDepth 20000 in
theorem bX7_readNumbersz_4 {X : CX} {Q : State → Prop} {M : Mem} {ga gb : Nat} {G2 : Grf} {T2 : List (Nat × Nat)} {x1 x2 x3 : Int32} (C : Ok0 X mX7_readNumbers (TTc ++ T2))
    (h : (((3 : Int32) ≤ x3 → RetOK X Q (some (.int (-1 : Int32))) (M, (gz ga gb G2), TTc ++ T2)) ∧ (¬ (3 : Int32) ≤ x3 → WpI mX7_isFigure [.ref 1, .int x2] M (gz ga gb G2) (TTc ++ T2) (fun r M' => WW X Q 14 [(0, .ref 1), (1, .int x1), (2, .int x2), (3, .int x3)] [.int r] (M', (gz ga gb G2), TTc ++ T2))))) :
    WW X Q 4 [(0, .ref 1), (1, .int x1), (2, .int x2), (3, .int x3)] [] (M, (gz ga gb G2), TTc ++ T2) := by
  refine ww_iload_n C.1 dX7_readNumbers_4 3 rfl rfl ?_
  refine ww_iconst C.1 (v := (3 : Int32)) dX7_readNumbers_5 (by decide) ?_
  refine ww_icmp_ge (x := x3) (y := (3 : Int32)) C.1 (tgt := 113) dX7_readNumbers_6 (by decide) (fun hh => ?_) (fun hh => ?_)
  · replace h := h.1 hh
    refine ww_iconst C.1 (v := (-1 : Int32)) dX7_readNumbers_113 (by decide) ?_
    refine ww_iret C.1 dX7_readNumbers_114 rfl ?_
    exact h
  · replace h := h.2 hh
    refine ww_aload_n C.1 dX7_readNumbers_9 0 rfl rfl ?_
    refine ww_iload_n C.1 dX7_readNumbers_10 2 rfl rfl ?_
    refine ww_vI C fX7_isFigure (And.intro (by decide) (by decide)) mlRX7_42 dX7_readNumbers_11 (tc1 T2) (by decide) rfl (As := [.int x2]) (rest := []) rfl rfl rfl (Nat.le_of_ble_eq_true rfl) ?_
    exact h
set_option maxHeartbeats 4000000 in
set_option maxRecDepth 20000 in
theorem bX7_readNumbersz_14 {X : CX} {Q : State → Prop} {M : Mem} {ga gb : Nat} {G2 : Grf} {T2 : List (Nat × Nat)} {x1 x2 x3 s0 : Int32} (C : Ok0 X mX7_readNumbers (TTc ++ T2))
    (h : ((¬ s0 = (0 : Int32) → WpI mX7_letterAt [.ref 1, .int x2] M (gz ga gb G2) (TTc ++ T2) (fun r M' => WW X Q 29 [(0, .ref 1), (1, .int x1), (2, .int x2), (3, .int x3)] [.int r, .int x3, .ref 3] (M', (gz ga gb G2), TTc ++ T2))) ∧ (s0 = (0 : Int32) → RetOK X Q (some (.int (-1 : Int32))) (M, (gz ga gb G2), TTc ++ T2)))) :
    WW X Q 14 [(0, .ref 1), (1, .int x1), (2, .int x2), (3, .int x3)] [.int s0] (M, (gz ga gb G2), TTc ++ T2) := by
  refine ww_if_ne (x := s0) C.1 (tgt := 19) dX7_readNumbers_14 (by decide) (fun hh => ?_) (fun hh => ?_)
  · replace h := h.1 hh
    refine ww_aload_n C.1 dX7_readNumbers_19 0 rfl rfl ?_
    refine wt_getR C.1 dX7_readNumbers_20 flRX7_15 (tc1 T2) rfl rfl ?_
    refine ww_iload_n C.1 dX7_readNumbers_23 3 rfl rfl ?_
    refine ww_aload_n C.1 dX7_readNumbers_24 0 rfl rfl ?_
    refine ww_iload_n C.1 dX7_readNumbers_25 2 rfl rfl ?_
    refine ww_vI C fX7_letterAt (And.intro (by decide) (by decide)) mlRX7_32 dX7_readNumbers_26 (tc1 T2) (by decide) rfl (As := [.int x2]) (rest := [.int x3, .ref 3]) rfl rfl rfl (Nat.le_of_ble_eq_true rfl) ?_
    exact h
  · replace h := h.2 hh
    refine ww_iconst C.1 (v := (-1 : Int32)) dX7_readNumbers_17 (by decide) ?_
    refine ww_iret C.1 dX7_readNumbers_18 rfl ?_
    exact h
set_option maxHeartbeats 4000000 in
set_option maxRecDepth 20000 in
theorem bX7_readNumbersz_29 {X : CX} {Q : State → Prop} {M : Mem} {ga gb : Nat} {G2 : Grf} {T2 : List (Nat × Nat)} {x1 x2 x3 s1 s2 : Int32} (C : Ok0 X mX7_readNumbers (TTc ++ T2))
    (h : (vp_in s1 3 ∧ WpI mX7_isFigure [.ref 1, .int (x2 + (1 : Int32))] (wr M 3 s1.toNatClampNeg (s2 - (48 : Int32))) (gz ga gb G2) (TTc ++ T2) (fun r M' => WW X Q 41 [(0, .ref 1), (1, .int x1), (2, .int (x2 + (1 : Int32))), (3, .int x3)] [.int r] (M', (gz ga gb G2), TTc ++ T2)))) :
    WW X Q 29 [(0, .ref 1), (1, .int x1), (2, .int x2), (3, .int x3)] [.int s2, .int s1, .ref 3] (M, (gz ga gb G2), TTc ++ T2) := by
  refine ww_bipush C.1 (v := (48 : Int32)) dX7_readNumbers_29 (by decide) ?_
  refine ww_isub C.1 dX7_readNumbers_31 ?_
  refine wt_iast C.1 dX7_readNumbers_32 (tc3 T2) h.1 ?_
  replace h := h.2
  refine ww_iinc C.1 (v := (x2 + (1 : Int32))) dX7_readNumbers_33 2 rfl (by rfl) (by decide) [1, 2, 0, 3] (L' := [(0, .ref 1), (1, .int x1), (2, .int (x2 + (1 : Int32))), (3, .int x3)]) rfl ?_
  refine ww_aload_n C.1 dX7_readNumbers_36 0 rfl rfl ?_
  refine ww_iload_n C.1 dX7_readNumbers_37 2 rfl rfl ?_
  refine ww_vI C fX7_isFigure (And.intro (by decide) (by decide)) mlRX7_42 dX7_readNumbers_38 (tc1 T2) (by decide) rfl (As := [.int (x2 + (1 : Int32))]) (rest := []) rfl rfl rfl (Nat.le_of_ble_eq_true rfl) ?_
  exact h
set_option maxHeartbeats 4000000 in
set_option maxRecDepth 20000 in
theorem bX7_readNumbersz_41 {X : CX} {Q : State → Prop} {M : Mem} {ga gb : Nat} {G2 : Grf} {T2 : List (Nat × Nat)} {x1 x2 x3 s0 : Int32} (C : Ok0 X mX7_readNumbers (TTc ++ T2))
    (h : ((s0 = (0 : Int32) → WpI mX7_letterAt [.ref 1, .int x2] (wr M 1 3 (x3 + (1 : Int32))) (gz ga gb G2) (TTc ++ T2) (fun r M' => WW X Q 83 [(0, .ref 1), (1, .int x1), (2, .int x2), (3, .int x3)] [.int r] (M', (gz ga gb G2), TTc ++ T2))) ∧ (¬ s0 = (0 : Int32) → (vp_in x3 3 ∧ WpI mX7_letterAt [.ref 1, .int x2] M (gz ga gb G2) (TTc ++ T2) (fun r M' => WW X Q 63 [(0, .ref 1), (1, .int x1), (2, .int x2), (3, .int x3)] [.int r, .int ((10 : Int32) * (M 3 x3.toNatClampNeg)), .int x3, .ref 3] (M', (gz ga gb G2), TTc ++ T2)))))) :
    WW X Q 41 [(0, .ref 1), (1, .int x1), (2, .int x2), (3, .int x3)] [.int s0] (M, (gz ga gb G2), TTc ++ T2) := by
  refine ww_if_eq (x := s0) C.1 (tgt := 71) dX7_readNumbers_41 (by decide) (fun hh => ?_) (fun hh => ?_)
  · replace h := h.1 hh
    refine ww_aload_n C.1 dX7_readNumbers_71 0 rfl rfl ?_
    refine ww_iload_n C.1 dX7_readNumbers_72 3 rfl rfl ?_
    refine ww_iconst C.1 (v := (1 : Int32)) dX7_readNumbers_73 (by decide) ?_
    refine ww_iadd C.1 dX7_readNumbers_74 ?_
    refine wt_putI C.1 dX7_readNumbers_75 flRX7_35 (tc1 T2) rfl ?_
    refine ww_aload_n C.1 dX7_readNumbers_78 0 rfl rfl ?_
    refine ww_iload_n C.1 dX7_readNumbers_79 2 rfl rfl ?_
    refine ww_vI C fX7_letterAt (And.intro (by decide) (by decide)) mlRX7_32 dX7_readNumbers_80 (tc1 T2) (by decide) rfl (As := [.int x2]) (rest := []) rfl rfl rfl (Nat.le_of_ble_eq_true rfl) ?_
    exact h
  · replace h := h.2 hh
    refine ww_aload_n C.1 dX7_readNumbers_44 0 rfl rfl ?_
    refine wt_getR C.1 dX7_readNumbers_45 flRX7_15 (tc1 T2) rfl rfl ?_
    refine ww_iload_n C.1 dX7_readNumbers_48 3 rfl rfl ?_
    refine ww_bipush C.1 (v := (10 : Int32)) dX7_readNumbers_49 (by decide) ?_
    refine ww_aload_n C.1 dX7_readNumbers_51 0 rfl rfl ?_
    refine wt_getR C.1 dX7_readNumbers_52 flRX7_15 (tc1 T2) rfl rfl ?_
    refine ww_iload_n C.1 dX7_readNumbers_55 3 rfl rfl ?_
    refine wt_iald C.1 dX7_readNumbers_56 (tc3 T2) h.1 ?_
    replace h := h.2
    refine ww_imul C.1 dX7_readNumbers_57 ?_
    refine ww_aload_n C.1 dX7_readNumbers_58 0 rfl rfl ?_
    refine ww_iload_n C.1 dX7_readNumbers_59 2 rfl rfl ?_
    refine ww_vI C fX7_letterAt (And.intro (by decide) (by decide)) mlRX7_32 dX7_readNumbers_60 (tc1 T2) (by decide) rfl (As := [.int x2]) (rest := [.int ((10 : Int32) * (M 3 x3.toNatClampNeg)), .int x3, .ref 3]) rfl rfl rfl (Nat.le_of_ble_eq_true rfl) ?_
    exact h
set_option maxHeartbeats 4000000 in
set_option maxRecDepth 20000 in
theorem bX7_readNumbersz_83 {X : CX} {Q : State → Prop} {M : Mem} {ga gb : Nat} {G2 : Grf} {T2 : List (Nat × Nat)} {x1 x2 x3 s0 : Int32} (C : Ok0 X mX7_readNumbers (TTc ++ T2))
    (h : ((¬ s0 = (59 : Int32) → WpI mX7_letterAt [.ref 1, .int x2] M (gz ga gb G2) (TTc ++ T2) (fun r M' => WW X Q 97 [(0, .ref 1), (1, .int x1), (2, .int x2), (3, .int x3)] [.int r] (M', (gz ga gb G2), TTc ++ T2))) ∧ (s0 = (59 : Int32) → RetOK X Q (some (.int (x2 + (1 : Int32)))) (M, (gz ga gb G2), TTc ++ T2)))) :
    WW X Q 83 [(0, .ref 1), (1, .int x1), (2, .int x2), (3, .int x3)] [.int s0] (M, (gz ga gb G2), TTc ++ T2) := by
  refine ww_bipush C.1 (v := (59 : Int32)) dX7_readNumbers_83 (by decide) ?_
  refine ww_icmp_ne (x := s0) (y := (59 : Int32)) C.1 (tgt := 92) dX7_readNumbers_85 (by decide) (fun hh => ?_) (fun hh => ?_)
  · replace h := h.1 hh
    refine ww_aload_n C.1 dX7_readNumbers_92 0 rfl rfl ?_
    refine ww_iload_n C.1 dX7_readNumbers_93 2 rfl rfl ?_
    refine ww_vI C fX7_letterAt (And.intro (by decide) (by decide)) mlRX7_32 dX7_readNumbers_94 (tc1 T2) (by decide) rfl (As := [.int x2]) (rest := []) rfl rfl rfl (Nat.le_of_ble_eq_true rfl) ?_
    exact h
  · replace h := h.2 hh
    refine ww_iload_n C.1 dX7_readNumbers_88 2 rfl rfl ?_
    refine ww_iconst C.1 (v := (1 : Int32)) dX7_readNumbers_89 (by decide) ?_
    refine ww_iadd C.1 dX7_readNumbers_90 ?_
    refine ww_iret C.1 dX7_readNumbers_91 rfl ?_
    exact h
set_option maxHeartbeats 4000000 in
set_option maxRecDepth 20000 in
theorem bX7_readNumbersz_63 {X : CX} {Q : State → Prop} {M : Mem} {ga gb : Nat} {G2 : Grf} {T2 : List (Nat × Nat)} {x1 x2 x3 s1 s2 s3 : Int32} (C : Ok0 X mX7_readNumbers (TTc ++ T2))
    (h : (vp_in s1 3 ∧ WpI mX7_letterAt [.ref 1, .int (x2 + (1 : Int32))] (wr (wr M 3 s1.toNatClampNeg ((s2 + s3) - (48 : Int32))) 1 3 (x3 + (1 : Int32))) (gz ga gb G2) (TTc ++ T2) (fun r M' => WW X Q 83 [(0, .ref 1), (1, .int x1), (2, .int (x2 + (1 : Int32))), (3, .int x3)] [.int r] (M', (gz ga gb G2), TTc ++ T2)))) :
    WW X Q 63 [(0, .ref 1), (1, .int x1), (2, .int x2), (3, .int x3)] [.int s3, .int s2, .int s1, .ref 3] (M, (gz ga gb G2), TTc ++ T2) := by
  refine ww_iadd C.1 dX7_readNumbers_63 ?_
  refine ww_bipush C.1 (v := (48 : Int32)) dX7_readNumbers_64 (by decide) ?_
  refine ww_isub C.1 dX7_readNumbers_66 ?_
  refine wt_iast C.1 dX7_readNumbers_67 (tc3 T2) h.1 ?_
  replace h := h.2
  refine ww_iinc C.1 (v := (x2 + (1 : Int32))) dX7_readNumbers_68 2 rfl (by rfl) (by decide) [1, 2, 0, 3] (L' := [(0, .ref 1), (1, .int x1), (2, .int (x2 + (1 : Int32))), (3, .int x3)]) rfl ?_
  refine ww_aload_n C.1 dX7_readNumbers_71 0 rfl rfl ?_
  refine ww_iload_n C.1 dX7_readNumbers_72 3 rfl rfl ?_
  refine ww_iconst C.1 (v := (1 : Int32)) dX7_readNumbers_73 (by decide) ?_
  refine ww_iadd C.1 dX7_readNumbers_74 ?_
  refine wt_putI C.1 dX7_readNumbers_75 flRX7_35 (tc1 T2) rfl ?_
  refine ww_aload_n C.1 dX7_readNumbers_78 0 rfl rfl ?_
  refine ww_iload_n C.1 dX7_readNumbers_79 2 rfl rfl ?_
  refine ww_vI C fX7_letterAt (And.intro (by decide) (by decide)) mlRX7_32 dX7_readNumbers_80 (tc1 T2) (by decide) rfl (As := [.int (x2 + (1 : Int32))]) (rest := []) rfl rfl rfl (Nat.le_of_ble_eq_true rfl) ?_
  exact h
set_option maxHeartbeats 4000000 in
set_option maxRecDepth 20000 in
theorem bX7_readNumbersz_97 {X : CX} {Q : State → Prop} {M : Mem} {ga gb : Nat} {G2 : Grf} {T2 : List (Nat × Nat)} {x1 x2 x3 s0 : Int32} (C : Ok0 X mX7_readNumbers (TTc ++ T2))
    (h : ((s0 = (44 : Int32) → WW X Q 4 [(0, .ref 1), (1, .int x1), (2, .int (x2 + (1 : Int32))), (3, .int (x3 + (1 : Int32)))] [] (M, (gz ga gb G2), TTc ++ T2)) ∧ (¬ s0 = (44 : Int32) → RetOK X Q (some (.int (-1 : Int32))) (M, (gz ga gb G2), TTc ++ T2)))) :
    WW X Q 97 [(0, .ref 1), (1, .int x1), (2, .int x2), (3, .int x3)] [.int s0] (M, (gz ga gb G2), TTc ++ T2) := by
  refine ww_bipush C.1 (v := (44 : Int32)) dX7_readNumbers_97 (by decide) ?_
  refine ww_icmp_eq (x := s0) (y := (44 : Int32)) C.1 (tgt := 104) dX7_readNumbers_99 (by decide) (fun hh => ?_) (fun hh => ?_)
  · replace h := h.1 hh
    refine ww_iinc C.1 (v := (x2 + (1 : Int32))) dX7_readNumbers_104 2 rfl (by rfl) (by decide) [1, 2, 0, 3] (L' := [(0, .ref 1), (1, .int x1), (2, .int (x2 + (1 : Int32))), (3, .int x3)]) rfl ?_
    refine ww_iinc C.1 (v := (x3 + (1 : Int32))) dX7_readNumbers_107 3 rfl (by rfl) (by decide) [1, 2, 3, 0] (L' := [(0, .ref 1), (1, .int x1), (2, .int (x2 + (1 : Int32))), (3, .int (x3 + (1 : Int32)))]) rfl ?_
    refine ww_goto C.1 (tgt := 4) dX7_readNumbers_110 (by decide) ?_
    exact h
  · replace h := h.2 hh
    refine ww_iconst C.1 (v := (-1 : Int32)) dX7_readNumbers_102 (by decide) ?_
    refine ww_iret C.1 dX7_readNumbers_103 rfl ?_
    exact h
set_option maxHeartbeats 4000000 in
set_option maxRecDepth 20000 in
theorem bX0_clearz_0 {X : CX} {Q : State → Prop} {M : Mem} {ga gb : Nat} {G2 : Grf} {T2 : List (Nat × Nat)} (C : Ok0 X mX0_clear (TTc ++ T2))
    (h : WW X Q 17 [(0, .ref 46), (1, .int (0 : Int32))] [] ((wr (wr (wr M 46 2 (0 : Int32)) 46 4 (0 : Int32)) 46 3 (0 : Int32)), (gz ga gb G2), TTc ++ T2)) :
    WW X Q 0 [(0, .ref 46)] [] (M, (gz ga gb G2), TTc ++ T2) := by
  refine ww_aload_n C.1 dX0_clear_0 0 rfl rfl ?_
  refine ww_iconst C.1 (v := (0 : Int32)) dX0_clear_1 (by decide) ?_
  refine wt_putI C.1 dX0_clear_2 flRX0_22 (tc46 T2) rfl ?_
  refine ww_aload_n C.1 dX0_clear_5 0 rfl rfl ?_
  refine ww_iconst C.1 (v := (0 : Int32)) dX0_clear_6 (by decide) ?_
  refine wt_putI C.1 dX0_clear_7 flRX0_25 (tc46 T2) rfl ?_
  refine ww_aload_n C.1 dX0_clear_10 0 rfl rfl ?_
  refine ww_iconst C.1 (v := (0 : Int32)) dX0_clear_11 (by decide) ?_
  refine wt_putI C.1 dX0_clear_12 flRX0_28 (tc46 T2) rfl ?_
  refine ww_iconst C.1 (v := (0 : Int32)) dX0_clear_15 (by decide) ?_
  refine ww_istore_n C.1 dX0_clear_16 rfl (by decide) [1, 0] (L' := [(0, .ref 46), (1, .int (0 : Int32))]) rfl ?_
  exact h
set_option maxHeartbeats 4000000 in
set_option maxRecDepth 20000 in
theorem bX0_clearz_17 {X : CX} {Q : State → Prop} {M : Mem} {ga gb : Nat} {G2 : Grf} {T2 : List (Nat × Nat)} {x1 : Int32} (C : Ok0 X mX0_clear (TTc ++ T2))
    (h : (((30 : Int32) ≤ x1 → RetOK X Q (none) (M, (gz ga gb G2), TTc ++ T2)) ∧ (¬ (30 : Int32) ≤ x1 → (vp_in x1 30 ∧ WW X Q 17 [(0, .ref 46), (1, .int (x1 + (1 : Int32)))] [] ((wr M 48 x1.toNatClampNeg (0 : Int32)), (gz ga gb G2), TTc ++ T2))))) :
    WW X Q 17 [(0, .ref 46), (1, .int x1)] [] (M, (gz ga gb G2), TTc ++ T2) := by
  refine ww_iload_n C.1 dX0_clear_17 1 rfl rfl ?_
  refine ww_bipush C.1 (v := (30 : Int32)) dX0_clear_18 (by decide) ?_
  refine ww_icmp_ge (x := x1) (y := (30 : Int32)) C.1 (tgt := 36) dX0_clear_20 (by decide) (fun hh => ?_) (fun hh => ?_)
  · replace h := h.1 hh
    refine ww_vret C.1 dX0_clear_36 rfl ?_
    exact h
  · replace h := h.2 hh
    refine ww_aload_n C.1 dX0_clear_23 0 rfl rfl ?_
    refine wt_getR C.1 dX0_clear_24 flRX0_15 (tc46 T2) rfl rfl ?_
    refine ww_iload_n C.1 dX0_clear_27 1 rfl rfl ?_
    refine ww_iconst C.1 (v := (0 : Int32)) dX0_clear_28 (by decide) ?_
    refine wt_iast C.1 dX0_clear_29 (tc48 T2) h.1 ?_
    replace h := h.2
    refine ww_iinc C.1 (v := (x1 + (1 : Int32))) dX0_clear_30 1 rfl (by rfl) (by decide) [1, 0] (L' := [(0, .ref 46), (1, .int (x1 + (1 : Int32)))]) rfl ?_
    refine ww_goto C.1 (tgt := 17) dX0_clear_33 (by decide) ?_
    exact h
set_option maxHeartbeats 4000000 in
set_option maxRecDepth 20000 in
theorem bX0_addz_0 {X : CX} {Q : State → Prop} {M : Mem} {ga gb : Nat} {G2 : Grf} {T2 : List (Nat × Nat)} {x1 : Int32} (C : Ok0 X mX0_add (TTc ++ T2))
    (h : (((M 46 2) < (4 : Int32) → (vp_in (M 46 2) 4 ∧ RetOK X Q (some (.int (1 : Int32))) ((wr (wr (wr M 47 (M 46 2).toNatClampNeg x1) 46 2 ((M 46 2) + (1 : Int32))) 46 4 ((M 46 2) + (1 : Int32))), (gz ga gb G2), TTc ++ T2))) ∧ (¬ (M 46 2) < (4 : Int32) → RetOK X Q (some (.int (0 : Int32))) (M, (gz ga gb G2), TTc ++ T2)))) :
    WW X Q 0 [(0, .ref 46), (1, .int x1)] [] (M, (gz ga gb G2), TTc ++ T2) := by
  refine ww_aload_n C.1 dX0_add_0 0 rfl rfl ?_
  refine wt_getI C.1 dX0_add_1 flRX0_22 (tc46 T2) rfl ?_
  refine ww_iconst C.1 (v := (4 : Int32)) dX0_add_4 (by decide) ?_
  refine ww_icmp_lt (x := (M 46 2)) (y := (4 : Int32)) C.1 (tgt := 10) dX0_add_5 (by decide) (fun hh => ?_) (fun hh => ?_)
  · replace h := h.1 hh
    refine ww_aload_n C.1 dX0_add_10 0 rfl rfl ?_
    refine wt_getR C.1 dX0_add_11 flRX0_9 (tc46 T2) rfl rfl ?_
    refine ww_aload_n C.1 dX0_add_14 0 rfl rfl ?_
    refine wt_getI C.1 dX0_add_15 flRX0_22 (tc46 T2) rfl ?_
    refine ww_iload_n C.1 dX0_add_18 1 rfl rfl ?_
    refine wt_iast C.1 dX0_add_19 (tc47 T2) h.1 ?_
    replace h := h.2
    refine ww_aload_n C.1 dX0_add_20 0 rfl rfl ?_
    refine ww_dup C.1 dX0_add_21 rfl ?_
    refine wt_getI C.1 dX0_add_22 flRX0_22 (tc46 T2) rfl ?_
    refine ww_iconst C.1 (v := (1 : Int32)) dX0_add_25 (by decide) ?_
    refine ww_iadd C.1 dX0_add_26 ?_
    refine wt_putI C.1 dX0_add_27 flRX0_22 (tc46 T2) rfl ?_
    refine ww_aload_n C.1 dX0_add_30 0 rfl rfl ?_
    refine ww_aload_n C.1 dX0_add_31 0 rfl rfl ?_
    refine wt_getI C.1 dX0_add_32 flRX0_22 (tc46 T2) rfl ?_
    refine wt_putI C.1 dX0_add_35 flRX0_25 (tc46 T2) rfl ?_
    refine ww_iconst C.1 (v := (1 : Int32)) dX0_add_38 (by decide) ?_
    refine ww_zret C.1 dX0_add_39 rfl (Or.inr rfl) ?_
    exact h
  · replace h := h.2 hh
    refine ww_iconst C.1 (v := (0 : Int32)) dX0_add_8 (by decide) ?_
    refine ww_zret C.1 dX0_add_9 rfl (Or.inl rfl) ?_
    exact h
set_option maxHeartbeats 4000000 in
set_option maxRecDepth 20000 in
theorem bX0_addFeastz_0 {X : CX} {Q : State → Prop} {M : Mem} {ga gb : Nat} {G2 : Grf} {T2 : List (Nat × Nat)} {x1 x2 : Int32} (C : Ok0 X mX0_addFeast (TTc ++ T2))
    (h : (((4 : Int32) ≤ (M 46 3) → RetOK X Q (some (.int (0 : Int32))) (M, (gz ga gb G2), TTc ++ T2)) ∧ (¬ (4 : Int32) ≤ (M 46 3) → ((x1 < (0 : Int32) → RetOK X Q (some (.int (0 : Int32))) (M, (gz ga gb G2), TTc ++ T2)) ∧ (¬ x1 < (0 : Int32) → (((29 : Int32) < x1 → RetOK X Q (some (.int (0 : Int32))) (M, (gz ga gb G2), TTc ++ T2)) ∧ (¬ (29 : Int32) < x1 → (vp_in x1 30 ∧ (vp_in x1 30 ∧ RetOK X Q (some (.int (1 : Int32))) ((wr (wr M 48 x1.toNatClampNeg ((M 48 x1.toNatClampNeg) + x2)) 46 3 ((M 46 3) + (1 : Int32))), (gz ga gb G2), TTc ++ T2)))))))))) :
    WW X Q 0 [(0, .ref 46), (1, .int x1), (2, .int x2)] [] (M, (gz ga gb G2), TTc ++ T2) := by
  refine ww_aload_n C.1 dX0_addFeast_0 0 rfl rfl ?_
  refine wt_getI C.1 dX0_addFeast_1 flRX0_28 (tc46 T2) rfl ?_
  refine ww_iconst C.1 (v := (4 : Int32)) dX0_addFeast_4 (by decide) ?_
  refine ww_icmp_ge (x := (M 46 3)) (y := (4 : Int32)) C.1 (tgt := 15) dX0_addFeast_5 (by decide) (fun hh => ?_) (fun hh => ?_)
  · replace h := h.1 hh
    refine ww_iconst C.1 (v := (0 : Int32)) dX0_addFeast_15 (by decide) ?_
    refine ww_zret C.1 dX0_addFeast_16 rfl (Or.inl rfl) ?_
    exact h
  · replace h := h.2 hh
    refine ww_iload_n C.1 dX0_addFeast_8 1 rfl rfl ?_
    refine ww_nI C fX9_isNight (And.intro (by decide) (by decide)) nlRX0_31 dX0_addFeast_9 (As := [.int x1]) (rest := []) rfl rfl rfl (Nat.le_of_ble_eq_true rfl) (WpI.of (L0 := [(0, .int x1)]) rfl rfl (Nat.le_of_ble_eq_true rfl) fun X1 Q1 C1 k1 => ?_)
    refine ww_iload_n C1.1 dX9_isNight_0 0 rfl rfl ?_
    refine ww_iconst C1.1 (v := (0 : Int32)) dX9_isNight_1 (by decide) ?_
    refine ww_bipush C1.1 (v := (29 : Int32)) dX9_isNight_2 (by decide) ?_
    refine ww_sI C1 fX9_isWithin (And.intro (by decide) (by decide)) mlRX9_89 dX9_isNight_4 (As := [.int x1, .int (0 : Int32), .int (29 : Int32)]) (rest := []) rfl rfl rfl (Nat.le_of_ble_eq_true rfl) (WpI.of (L0 := [(0, .int x1), (1, .int (0 : Int32)), (2, .int (29 : Int32))]) rfl rfl (Nat.le_of_ble_eq_true rfl) fun X2 Q2 C2 k2 => ?_)
    refine ww_iload_n C2.1 dX9_isWithin_0 0 rfl rfl ?_
    refine ww_iload_n C2.1 dX9_isWithin_1 1 rfl rfl ?_
    refine ww_icmp_lt (x := x1) (y := (0 : Int32)) C2.1 (tgt := 14) dX9_isWithin_2 (by decide) (fun hh => ?_) (fun hh => ?_)
    · replace h := h.1 hh
      refine ww_iconst C2.1 (v := (0 : Int32)) dX9_isWithin_14 (by decide) ?_
      refine ww_zret C2.1 dX9_isWithin_15 rfl (Or.inl rfl) ?_
      refine k2 _ _ ?_
      refine ww_zret C1.1 dX9_isNight_7 rfl (Or.inl rfl) ?_
      refine k1 _ _ ?_
      refine ww_if_ne (x := (0 : Int32)) C.1 (tgt := 17) dX0_addFeast_12 (by decide) (fun hh => absurd hh (by decide)) (fun _ => ?_)
      refine ww_iconst C.1 (v := (0 : Int32)) dX0_addFeast_15 (by decide) ?_
      refine ww_zret C.1 dX0_addFeast_16 rfl (Or.inl rfl) ?_
      exact h
    · replace h := h.2 hh
      refine ww_iload_n C2.1 dX9_isWithin_5 0 rfl rfl ?_
      refine ww_iload_n C2.1 dX9_isWithin_6 2 rfl rfl ?_
      refine ww_icmp_gt (x := x1) (y := (29 : Int32)) C2.1 (tgt := 14) dX9_isWithin_7 (by decide) (fun hh => ?_) (fun hh => ?_)
      · replace h := h.1 hh
        refine ww_iconst C2.1 (v := (0 : Int32)) dX9_isWithin_14 (by decide) ?_
        refine ww_zret C2.1 dX9_isWithin_15 rfl (Or.inl rfl) ?_
        refine k2 _ _ ?_
        refine ww_zret C1.1 dX9_isNight_7 rfl (Or.inl rfl) ?_
        refine k1 _ _ ?_
        refine ww_if_ne (x := (0 : Int32)) C.1 (tgt := 17) dX0_addFeast_12 (by decide) (fun hh => absurd hh (by decide)) (fun _ => ?_)
        refine ww_iconst C.1 (v := (0 : Int32)) dX0_addFeast_15 (by decide) ?_
        refine ww_zret C.1 dX0_addFeast_16 rfl (Or.inl rfl) ?_
        exact h
      · replace h := h.2 hh
        refine ww_iconst C2.1 (v := (1 : Int32)) dX9_isWithin_10 (by decide) ?_
        refine ww_goto C2.1 (tgt := 15) dX9_isWithin_11 (by decide) ?_
        refine ww_zret C2.1 dX9_isWithin_15 rfl (Or.inr rfl) ?_
        refine k2 _ _ ?_
        refine ww_zret C1.1 dX9_isNight_7 rfl (Or.inr rfl) ?_
        refine k1 _ _ ?_
        refine ww_if_ne (x := (1 : Int32)) C.1 (tgt := 17) dX0_addFeast_12 (by decide) (fun _ => ?_) (fun hh => absurd hh (by decide))
        refine ww_aload_n C.1 dX0_addFeast_17 0 rfl rfl ?_
        refine wt_getR C.1 dX0_addFeast_18 flRX0_15 (tc46 T2) rfl rfl ?_
        refine ww_iload_n C.1 dX0_addFeast_21 1 rfl rfl ?_
        refine ww_dup2 C.1 dX0_addFeast_22 rfl rfl ?_
        refine wt_iald C.1 dX0_addFeast_23 (tc48 T2) h.1 ?_
        replace h := h.2
        refine ww_iload_n C.1 dX0_addFeast_24 2 rfl rfl ?_
        refine ww_iadd C.1 dX0_addFeast_25 ?_
        refine wt_iast C.1 dX0_addFeast_26 (tc48 T2) h.1 ?_
        replace h := h.2
        refine ww_aload_n C.1 dX0_addFeast_27 0 rfl rfl ?_
        refine ww_dup C.1 dX0_addFeast_28 rfl ?_
        refine wt_getI C.1 dX0_addFeast_29 flRX0_28 (tc46 T2) rfl ?_
        refine ww_iconst C.1 (v := (1 : Int32)) dX0_addFeast_32 (by decide) ?_
        refine ww_iadd C.1 dX0_addFeast_33 ?_
        refine wt_putI C.1 dX0_addFeast_34 flRX0_28 (tc46 T2) rfl ?_
        refine ww_iconst C.1 (v := (1 : Int32)) dX0_addFeast_37 (by decide) ?_
        refine ww_zret C.1 dX0_addFeast_38 rfl (Or.inr rfl) ?_
        exact h
set_option maxHeartbeats 4000000 in
set_option maxRecDepth 20000 in
theorem bX5_addz_0 {X : CX} {Q : State → Prop} {M : Mem} {ga gb : Nat} {G2 : Grf} {T2 : List (Nat × Nat)} {x1 x2 x3 : Int32} (C : Ok0 X mX5_add (TTc ++ T2))
    (h : (((M 49 6) < (7 : Int32) → (vp_in (M 49 6) 7 ∧ (vp_in (M 49 6) 7 ∧ (vp_in (M 49 6) 7 ∧ (vp_in (M 49 6) 7 ∧ (vp_in (M 49 6) 7 ∧ (vp_in (M 49 6) 7 ∧ RetOK X Q (some (.int (1 : Int32))) ((wr (wr (wr (wr (wr (wr (wr M 50 (M 49 6).toNatClampNeg x1) 51 (M 49 6).toNatClampNeg x2) 52 (M 49 6).toNatClampNeg x3) 53 (M 49 6).toNatClampNeg (0 : Int32)) 54 (M 49 6).toNatClampNeg (0 : Int32)) 55 (M 49 6).toNatClampNeg (M 49 6)) 49 6 ((M 49 6) + (1 : Int32))), (gz ga gb G2), TTc ++ T2)))))))) ∧ (¬ (M 49 6) < (7 : Int32) → RetOK X Q (some (.int (0 : Int32))) (M, (gz ga gb G2), TTc ++ T2)))) :
    WW X Q 0 [(0, .ref 49), (1, .int x1), (2, .int x2), (3, .int x3)] [] (M, (gz ga gb G2), TTc ++ T2) := by
  refine ww_aload_n C.1 dX5_add_0 0 rfl rfl ?_
  refine wt_getI C.1 dX5_add_1 flRX5_30 (tc49 T2) rfl ?_
  refine ww_bipush C.1 (v := (7 : Int32)) dX5_add_4 (by decide) ?_
  refine ww_icmp_lt (x := (M 49 6)) (y := (7 : Int32)) C.1 (tgt := 11) dX5_add_6 (by decide) (fun hh => ?_) (fun hh => ?_)
  · replace h := h.1 hh
    refine ww_aload_n C.1 dX5_add_11 0 rfl rfl ?_
    refine wt_getR C.1 dX5_add_12 flRX5_9 (tc49 T2) rfl rfl ?_
    refine ww_aload_n C.1 dX5_add_15 0 rfl rfl ?_
    refine wt_getI C.1 dX5_add_16 flRX5_30 (tc49 T2) rfl ?_
    refine ww_iload_n C.1 dX5_add_19 1 rfl rfl ?_
    refine wt_iast C.1 dX5_add_20 (tc50 T2) h.1 ?_
    replace h := h.2
    refine ww_aload_n C.1 dX5_add_21 0 rfl rfl ?_
    refine wt_getR C.1 dX5_add_22 flRX5_15 (tc49 T2) rfl rfl ?_
    refine ww_aload_n C.1 dX5_add_25 0 rfl rfl ?_
    refine wt_getI C.1 dX5_add_26 flRX5_30 (tc49 T2) rfl ?_
    refine ww_iload_n C.1 dX5_add_29 2 rfl rfl ?_
    refine wt_iast C.1 dX5_add_30 (tc51 T2) h.1 ?_
    replace h := h.2
    refine ww_aload_n C.1 dX5_add_31 0 rfl rfl ?_
    refine wt_getR C.1 dX5_add_32 flRX5_18 (tc49 T2) rfl rfl ?_
    refine ww_aload_n C.1 dX5_add_35 0 rfl rfl ?_
    refine wt_getI C.1 dX5_add_36 flRX5_30 (tc49 T2) rfl ?_
    refine ww_iload_n C.1 dX5_add_39 3 rfl rfl ?_
    refine wt_iast C.1 dX5_add_40 (tc52 T2) h.1 ?_
    replace h := h.2
    refine ww_aload_n C.1 dX5_add_41 0 rfl rfl ?_
    refine wt_getR C.1 dX5_add_42 flRX5_21 (tc49 T2) rfl rfl ?_
    refine ww_aload_n C.1 dX5_add_45 0 rfl rfl ?_
    refine wt_getI C.1 dX5_add_46 flRX5_30 (tc49 T2) rfl ?_
    refine ww_iconst C.1 (v := (0 : Int32)) dX5_add_49 (by decide) ?_
    refine wt_iast C.1 dX5_add_50 (tc53 T2) h.1 ?_
    replace h := h.2
    refine ww_aload_n C.1 dX5_add_51 0 rfl rfl ?_
    refine wt_getR C.1 dX5_add_52 flRX5_24 (tc49 T2) rfl rfl ?_
    refine ww_aload_n C.1 dX5_add_55 0 rfl rfl ?_
    refine wt_getI C.1 dX5_add_56 flRX5_30 (tc49 T2) rfl ?_
    refine ww_iconst C.1 (v := (0 : Int32)) dX5_add_59 (by decide) ?_
    refine wt_iast C.1 dX5_add_60 (tc54 T2) h.1 ?_
    replace h := h.2
    refine ww_aload_n C.1 dX5_add_61 0 rfl rfl ?_
    refine wt_getR C.1 dX5_add_62 flRX5_27 (tc49 T2) rfl rfl ?_
    refine ww_aload_n C.1 dX5_add_65 0 rfl rfl ?_
    refine wt_getI C.1 dX5_add_66 flRX5_30 (tc49 T2) rfl ?_
    refine ww_aload_n C.1 dX5_add_69 0 rfl rfl ?_
    refine wt_getI C.1 dX5_add_70 flRX5_30 (tc49 T2) rfl ?_
    refine wt_iast C.1 dX5_add_73 (tc55 T2) h.1 ?_
    replace h := h.2
    refine ww_aload_n C.1 dX5_add_74 0 rfl rfl ?_
    refine ww_dup C.1 dX5_add_75 rfl ?_
    refine wt_getI C.1 dX5_add_76 flRX5_30 (tc49 T2) rfl ?_
    refine ww_iconst C.1 (v := (1 : Int32)) dX5_add_79 (by decide) ?_
    refine ww_iadd C.1 dX5_add_80 ?_
    refine wt_putI C.1 dX5_add_81 flRX5_30 (tc49 T2) rfl ?_
    refine ww_iconst C.1 (v := (1 : Int32)) dX5_add_84 (by decide) ?_
    refine ww_zret C.1 dX5_add_85 rfl (Or.inr rfl) ?_
    exact h
  · replace h := h.2 hh
    refine ww_iconst C.1 (v := (0 : Int32)) dX5_add_9 (by decide) ?_
    refine ww_zret C.1 dX5_add_10 rfl (Or.inl rfl) ?_
    exact h
set_option maxHeartbeats 4000000 in
set_option maxRecDepth 20000 in
theorem bX5_befriendz_0 {X : CX} {Q : State → Prop} {M : Mem} {ga gb : Nat} {G2 : Grf} {T2 : List (Nat × Nat)} {x1 x2 : Int32} (C : Ok0 X mX5_befriend (TTc ++ T2))
    (h : ((x1 < (0 : Int32) → RetOK X Q (some (.int (0 : Int32))) (M, (gz ga gb G2), TTc ++ T2)) ∧ (¬ x1 < (0 : Int32) → (((M 49 6) ≤ x1 → RetOK X Q (some (.int (0 : Int32))) (M, (gz ga gb G2), TTc ++ T2)) ∧ (¬ (M 49 6) ≤ x1 → ((x2 < (0 : Int32) → RetOK X Q (some (.int (0 : Int32))) (M, (gz ga gb G2), TTc ++ T2)) ∧ (¬ x2 < (0 : Int32) → (((M 49 6) ≤ x2 → RetOK X Q (some (.int (0 : Int32))) (M, (gz ga gb G2), TTc ++ T2)) ∧ (¬ (M 49 6) ≤ x2 → ((¬ x1 = x2 → (vp_in x1 7 ∧ (vp_in x1 7 ∧ RetOK X Q (some (.int (1 : Int32))) ((wr M 53 x1.toNatClampNeg ((M 53 x1.toNatClampNeg) ||| ((1 : Int32) <<< (x2 &&& 31)))), (gz ga gb G2), TTc ++ T2)))) ∧ (x1 = x2 → RetOK X Q (some (.int (0 : Int32))) (M, (gz ga gb G2), TTc ++ T2)))))))))))) :
    WW X Q 0 [(0, .ref 49), (1, .int x1), (2, .int x2)] [] (M, (gz ga gb G2), TTc ++ T2) := by
  refine ww_aload_n C.1 dX5_befriend_0 0 rfl rfl ?_
  refine ww_iload_n C.1 dX5_befriend_1 1 rfl rfl ?_
  refine ww_vI C fX5_has (And.intro (by decide) (by decide)) mlRX5_34 dX5_befriend_2 (tc49 T2) (by decide) rfl (As := [.int x1]) (rest := []) rfl rfl rfl (Nat.le_of_ble_eq_true rfl) (WpI.of (L0 := [(0, .ref 49), (1, .int x1)]) rfl rfl (Nat.le_of_ble_eq_true rfl) fun X1 Q1 C1 k1 => ?_)
  refine ww_iload_n C1.1 dX5_has_0 1 rfl rfl ?_
  refine ww_if_lt (x := x1) C1.1 (tgt := 16) dX5_has_1 (by decide) (fun hh => ?_) (fun hh => ?_)
  · replace h := h.1 hh
    refine ww_iconst C1.1 (v := (0 : Int32)) dX5_has_16 (by decide) ?_
    refine ww_zret C1.1 dX5_has_17 rfl (Or.inl rfl) ?_
    refine k1 _ _ ?_
    refine ww_if_eq (x := (0 : Int32)) C.1 (tgt := 21) dX5_befriend_5 (by decide) (fun _ => ?_) (fun hh => absurd hh (by decide))
    refine ww_iconst C.1 (v := (0 : Int32)) dX5_befriend_21 (by decide) ?_
    refine ww_zret C.1 dX5_befriend_22 rfl (Or.inl rfl) ?_
    exact h
  · replace h := h.2 hh
    refine ww_iload_n C1.1 dX5_has_4 1 rfl rfl ?_
    refine ww_aload_n C1.1 dX5_has_5 0 rfl rfl ?_
    refine wt_getI C1.1 dX5_has_6 flRX5_30 (tc49 T2) rfl ?_
    refine ww_icmp_ge (x := x1) (y := (M 49 6)) C1.1 (tgt := 16) dX5_has_9 (by decide) (fun hh => ?_) (fun hh => ?_)
    · replace h := h.1 hh
      refine ww_iconst C1.1 (v := (0 : Int32)) dX5_has_16 (by decide) ?_
      refine ww_zret C1.1 dX5_has_17 rfl (Or.inl rfl) ?_
      refine k1 _ _ ?_
      refine ww_if_eq (x := (0 : Int32)) C.1 (tgt := 21) dX5_befriend_5 (by decide) (fun _ => ?_) (fun hh => absurd hh (by decide))
      refine ww_iconst C.1 (v := (0 : Int32)) dX5_befriend_21 (by decide) ?_
      refine ww_zret C.1 dX5_befriend_22 rfl (Or.inl rfl) ?_
      exact h
    · replace h := h.2 hh
      refine ww_iconst C1.1 (v := (1 : Int32)) dX5_has_12 (by decide) ?_
      refine ww_goto C1.1 (tgt := 17) dX5_has_13 (by decide) ?_
      refine ww_zret C1.1 dX5_has_17 rfl (Or.inr rfl) ?_
      refine k1 _ _ ?_
      refine ww_if_eq (x := (1 : Int32)) C.1 (tgt := 21) dX5_befriend_5 (by decide) (fun hh => absurd hh (by decide)) (fun _ => ?_)
      refine ww_aload_n C.1 dX5_befriend_8 0 rfl rfl ?_
      refine ww_iload_n C.1 dX5_befriend_9 2 rfl rfl ?_
      refine ww_vI C fX5_has (And.intro (by decide) (by decide)) mlRX5_34 dX5_befriend_10 (tc49 T2) (by decide) rfl (As := [.int x2]) (rest := []) rfl rfl rfl (Nat.le_of_ble_eq_true rfl) (WpI.of (L0 := [(0, .ref 49), (1, .int x2)]) rfl rfl (Nat.le_of_ble_eq_true rfl) fun X2 Q2 C2 k2 => ?_)
      refine ww_iload_n C2.1 dX5_has_0 1 rfl rfl ?_
      refine ww_if_lt (x := x2) C2.1 (tgt := 16) dX5_has_1 (by decide) (fun hh => ?_) (fun hh => ?_)
      · replace h := h.1 hh
        refine ww_iconst C2.1 (v := (0 : Int32)) dX5_has_16 (by decide) ?_
        refine ww_zret C2.1 dX5_has_17 rfl (Or.inl rfl) ?_
        refine k2 _ _ ?_
        refine ww_if_eq (x := (0 : Int32)) C.1 (tgt := 21) dX5_befriend_13 (by decide) (fun _ => ?_) (fun hh => absurd hh (by decide))
        refine ww_iconst C.1 (v := (0 : Int32)) dX5_befriend_21 (by decide) ?_
        refine ww_zret C.1 dX5_befriend_22 rfl (Or.inl rfl) ?_
        exact h
      · replace h := h.2 hh
        refine ww_iload_n C2.1 dX5_has_4 1 rfl rfl ?_
        refine ww_aload_n C2.1 dX5_has_5 0 rfl rfl ?_
        refine wt_getI C2.1 dX5_has_6 flRX5_30 (tc49 T2) rfl ?_
        refine ww_icmp_ge (x := x2) (y := (M 49 6)) C2.1 (tgt := 16) dX5_has_9 (by decide) (fun hh => ?_) (fun hh => ?_)
        · replace h := h.1 hh
          refine ww_iconst C2.1 (v := (0 : Int32)) dX5_has_16 (by decide) ?_
          refine ww_zret C2.1 dX5_has_17 rfl (Or.inl rfl) ?_
          refine k2 _ _ ?_
          refine ww_if_eq (x := (0 : Int32)) C.1 (tgt := 21) dX5_befriend_13 (by decide) (fun _ => ?_) (fun hh => absurd hh (by decide))
          refine ww_iconst C.1 (v := (0 : Int32)) dX5_befriend_21 (by decide) ?_
          refine ww_zret C.1 dX5_befriend_22 rfl (Or.inl rfl) ?_
          exact h
        · replace h := h.2 hh
          refine ww_iconst C2.1 (v := (1 : Int32)) dX5_has_12 (by decide) ?_
          refine ww_goto C2.1 (tgt := 17) dX5_has_13 (by decide) ?_
          refine ww_zret C2.1 dX5_has_17 rfl (Or.inr rfl) ?_
          refine k2 _ _ ?_
          refine ww_if_eq (x := (1 : Int32)) C.1 (tgt := 21) dX5_befriend_13 (by decide) (fun hh => absurd hh (by decide)) (fun _ => ?_)
          refine ww_iload_n C.1 dX5_befriend_16 1 rfl rfl ?_
          refine ww_iload_n C.1 dX5_befriend_17 2 rfl rfl ?_
          refine ww_icmp_ne (x := x1) (y := x2) C.1 (tgt := 23) dX5_befriend_18 (by decide) (fun hh => ?_) (fun hh => ?_)
          · replace h := h.1 hh
            refine ww_aload_n C.1 dX5_befriend_23 0 rfl rfl ?_
            refine wt_getR C.1 dX5_befriend_24 flRX5_21 (tc49 T2) rfl rfl ?_
            refine ww_iload_n C.1 dX5_befriend_27 1 rfl rfl ?_
            refine ww_dup2 C.1 dX5_befriend_28 rfl rfl ?_
            refine wt_iald C.1 dX5_befriend_29 (tc53 T2) h.1 ?_
            replace h := h.2
            refine ww_iconst C.1 (v := (1 : Int32)) dX5_befriend_30 (by decide) ?_
            refine ww_iload_n C.1 dX5_befriend_31 2 rfl rfl ?_
            refine ww_ishl C.1 dX5_befriend_32 ?_
            refine ww_ior C.1 dX5_befriend_33 ?_
            refine wt_iast C.1 dX5_befriend_34 (tc53 T2) h.1 ?_
            replace h := h.2
            refine ww_iconst C.1 (v := (1 : Int32)) dX5_befriend_35 (by decide) ?_
            refine ww_zret C.1 dX5_befriend_36 rfl (Or.inr rfl) ?_
            exact h
          · replace h := h.2 hh
            refine ww_iconst C.1 (v := (0 : Int32)) dX5_befriend_21 (by decide) ?_
            refine ww_zret C.1 dX5_befriend_22 rfl (Or.inl rfl) ?_
            exact h
set_option maxHeartbeats 4000000 in
set_option maxRecDepth 20000 in
theorem bX2_clearz_0 {X : CX} {Q : State → Prop} {M : Mem} {ga gb : Nat} {G2 : Grf} {T2 : List (Nat × Nat)} (C : Ok0 X mX2_clear (TTc ++ T2))
    (h : WpV mX0_clear [.ref 46] M (gz ga gb G2) (TTc ++ T2) (fun M' => WW X Q 7 [(0, .ref 45)] [] (M', (gz ga gb G2), TTc ++ T2))) :
    WW X Q 0 [(0, .ref 45)] [] (M, (gz ga gb G2), TTc ++ T2) := by
  refine ww_aload_n C.1 dX2_clear_0 0 rfl rfl ?_
  refine wt_getR C.1 dX2_clear_1 flRX2_12 (tc45 T2) rfl rfl ?_
  refine ww_vV C fX0_clear (And.intro (by decide) (by decide)) mlRX2_29 dX2_clear_4 (tc46 T2) (by decide) rfl (As := []) (rest := []) rfl rfl rfl (Nat.le_of_ble_eq_true rfl) ?_
  exact h
set_option maxHeartbeats 4000000 in
set_option maxRecDepth 20000 in
theorem bX2_clearz_7 {X : CX} {Q : State → Prop} {M : Mem} {ga gb : Nat} {G2 : Grf} {T2 : List (Nat × Nat)} (C : Ok0 X mX2_clear (TTc ++ T2))
    (h : RetOK X Q (none) ((wr (wr (wr M 49 6 (0 : Int32)) 45 3 (0 : Int32)) 45 4 (1 : Int32)), (gz ga gb G2), TTc ++ T2)) :
    WW X Q 7 [(0, .ref 45)] [] (M, (gz ga gb G2), TTc ++ T2) := by
  refine ww_aload_n C.1 dX2_clear_7 0 rfl rfl ?_
  refine wt_getR C.1 dX2_clear_8 flRX2_21 (tc45 T2) rfl rfl ?_
  refine ww_iconst C.1 (v := (0 : Int32)) dX2_clear_11 (by decide) ?_
  refine wt_putI C.1 dX2_clear_12 flRX2_32 (tc49 T2) rfl ?_
  refine ww_aload_n C.1 dX2_clear_15 0 rfl rfl ?_
  refine ww_iconst C.1 (v := (0 : Int32)) dX2_clear_16 (by decide) ?_
  refine wt_putI C.1 dX2_clear_17 flRX2_36 (tc45 T2) rfl ?_
  refine ww_aload_n C.1 dX2_clear_20 0 rfl rfl ?_
  refine ww_iconst C.1 (v := (1 : Int32)) dX2_clear_21 (by decide) ?_
  refine wt_putI C.1 dX2_clear_22 flRX2_39 (tc45 T2) rfl ?_
  refine ww_vret C.1 dX2_clear_25 rfl ?_
  exact h
set_option maxHeartbeats 4000000 in
set_option maxRecDepth 20000 in
theorem bX2_tellz_0 {X : CX} {Q : State → Prop} {M : Mem} {ga gb : Nat} {G2 : Grf} {T2 : List (Nat × Nat)} {x1 x2 x3 x4 x5 : Int32} (C : Ok0 X mX2_tell (TTc ++ T2))
    (h : ((x1 = (98 : Int32) → ((¬ x2 = (1 : Int32) → RetOK X Q (some (.int (0 : Int32))) (M, (gz ga gb G2), TTc ++ T2)) ∧ (x2 = (1 : Int32) → ((x3 < (40 : Int32) → RetOK X Q (some (.int (0 : Int32))) (M, (gz ga gb G2), TTc ++ T2)) ∧ (¬ x3 < (40 : Int32) → (((99 : Int32) < x3 → RetOK X Q (some (.int (0 : Int32))) (M, (gz ga gb G2), TTc ++ T2)) ∧ (¬ (99 : Int32) < x3 → WpI mX0_add [.ref 46, .int x3] M (gz ga gb G2) (TTc ++ T2) (fun r M' => WW X Q 104 [(0, .ref 45), (1, .int x1), (2, .int x2), (3, .int x3), (4, .int x4), (5, .int x5)] [.int r] (M', (gz ga gb G2), TTc ++ T2))))))))) ∧ (¬ x1 = (98 : Int32) → ((x1 = (102 : Int32) → ((¬ x2 = (2 : Int32) → RetOK X Q (some (.int (0 : Int32))) (M, (gz ga gb G2), TTc ++ T2)) ∧ (x2 = (2 : Int32) → ((x3 < (0 : Int32) → RetOK X Q (some (.int (0 : Int32))) (M, (gz ga gb G2), TTc ++ T2)) ∧ (¬ x3 < (0 : Int32) → (((29 : Int32) < x3 → RetOK X Q (some (.int (0 : Int32))) (M, (gz ga gb G2), TTc ++ T2)) ∧ (¬ (29 : Int32) < x3 → ((x4 < (0 : Int32) → RetOK X Q (some (.int (0 : Int32))) (M, (gz ga gb G2), TTc ++ T2)) ∧ (¬ x4 < (0 : Int32) → (((9 : Int32) < x4 → RetOK X Q (some (.int (0 : Int32))) (M, (gz ga gb G2), TTc ++ T2)) ∧ (¬ (9 : Int32) < x4 → WpI mX0_addFeast [.ref 46, .int x3, .int x4] M (gz ga gb G2) (TTc ++ T2) (fun r M' => WW X Q 146 [(0, .ref 45), (1, .int x1), (2, .int x2), (3, .int x3), (4, .int x4), (5, .int x5)] [.int r] (M', (gz ga gb G2), TTc ++ T2))))))))))))) ∧ (¬ x1 = (102 : Int32) → ((x1 = (103 : Int32) → ((¬ x2 = (3 : Int32) → RetOK X Q (some (.int (0 : Int32))) (M, (gz ga gb G2), TTc ++ T2)) ∧ (x2 = (3 : Int32) → ((x3 < (40 : Int32) → RetOK X Q (some (.int (0 : Int32))) (M, (gz ga gb G2), TTc ++ T2)) ∧ (¬ x3 < (40 : Int32) → (((99 : Int32) < x3 → RetOK X Q (some (.int (0 : Int32))) (M, (gz ga gb G2), TTc ++ T2)) ∧ (¬ (99 : Int32) < x3 → ((x4 < (0 : Int32) → RetOK X Q (some (.int (0 : Int32))) (M, (gz ga gb G2), TTc ++ T2)) ∧ (¬ x4 < (0 : Int32) → (((9 : Int32) < x4 → RetOK X Q (some (.int (0 : Int32))) (M, (gz ga gb G2), TTc ++ T2)) ∧ (¬ (9 : Int32) < x4 → ((x5 < (0 : Int32) → RetOK X Q (some (.int (0 : Int32))) (M, (gz ga gb G2), TTc ++ T2)) ∧ (¬ x5 < (0 : Int32) → (((4 : Int32) < x5 → RetOK X Q (some (.int (0 : Int32))) (M, (gz ga gb G2), TTc ++ T2)) ∧ (¬ (4 : Int32) < x5 → WpI mX5_add [.ref 49, .int x3, .int x4, .int x5] M (gz ga gb G2) (TTc ++ T2) (fun r M' => WW X Q 200 [(0, .ref 45), (1, .int x1), (2, .int x2), (3, .int x3), (4, .int x4), (5, .int x5)] [.int r] (M', (gz ga gb G2), TTc ++ T2))))))))))))))))) ∧ (¬ x1 = (103 : Int32) → ((x1 = (104 : Int32) → ((¬ x2 = (2 : Int32) → RetOK X Q (some (.int (0 : Int32))) (M, (gz ga gb G2), TTc ++ T2)) ∧ (x2 = (2 : Int32) → WpI mX5_befriend [.ref 49, .int x3, .int x4] M (gz ga gb G2) (TTc ++ T2) (fun r M' => WW X Q 224 [(0, .ref 45), (1, .int x1), (2, .int x2), (3, .int x3), (4, .int x4), (5, .int x5)] [.int r] (M', (gz ga gb G2), TTc ++ T2))))) ∧ (¬ x1 = (104 : Int32) → ((x1 = (107 : Int32) → ((¬ x2 = (1 : Int32) → RetOK X Q (some (.int (0 : Int32))) (M, (gz ga gb G2), TTc ++ T2)) ∧ (x2 = (1 : Int32) → ((x3 < (0 : Int32) → RetOK X Q (some (.int (0 : Int32))) (M, (gz ga gb G2), TTc ++ T2)) ∧ (¬ x3 < (0 : Int32) → (((2 : Int32) < x3 → RetOK X Q (some (.int (0 : Int32))) (M, (gz ga gb G2), TTc ++ T2)) ∧ (¬ (2 : Int32) < x3 → RetOK X Q (some (.int (1 : Int32))) ((wr M 45 4 x3), (gz ga gb G2), TTc ++ T2)))))))) ∧ (¬ x1 = (107 : Int32) → ((x1 = (114 : Int32) → ((¬ x2 = (1 : Int32) → RetOK X Q (some (.int (0 : Int32))) (M, (gz ga gb G2), TTc ++ T2)) ∧ (x2 = (1 : Int32) → ((x3 < (40 : Int32) → RetOK X Q (some (.int (0 : Int32))) (M, (gz ga gb G2), TTc ++ T2)) ∧ (¬ x3 < (40 : Int32) → (((99 : Int32) < x3 → RetOK X Q (some (.int (0 : Int32))) (M, (gz ga gb G2), TTc ++ T2)) ∧ (¬ (99 : Int32) < x3 → WpI mX2_addRival [.ref 45, .int x3] M (gz ga gb G2) (TTc ++ T2) (fun r M' => WW X Q 269 [(0, .ref 45), (1, .int x1), (2, .int x2), (3, .int x3), (4, .int x4), (5, .int x5)] [.int r] (M', (gz ga gb G2), TTc ++ T2))))))))) ∧ (¬ x1 = (114 : Int32) → RetOK X Q (some (.int (0 : Int32))) (M, (gz ga gb G2), TTc ++ T2)))))))))))))) :
    WW X Q 0 [(0, .ref 45), (1, .int x1), (2, .int x2), (3, .int x3), (4, .int x4), (5, .int x5)] [] (M, (gz ga gb G2), TTc ++ T2) := by
  refine ww_iload_n C.1 dX2_tell_0 1 rfl rfl ?_
  by_cases hc0 : x1 = (98 : Int32)
  · replace h := h.1 hc0
    refine ww_tableIn (x := x1) C.1 (tgt := 84) dX2_tell_1 (by rw [hc0]; decide) (by rw [hc0]; decide) (by rw [hc0]; rfl) (by decide) ?_
    refine ww_iload_n C.1 dX2_tell_84 2 rfl rfl ?_
    refine ww_iconst C.1 (v := (1 : Int32)) dX2_tell_85 (by decide) ?_
    refine ww_icmp_ne (x := x2) (y := (1 : Int32)) C.1 (tgt := 111) dX2_tell_86 (by decide) (fun hh => ?_) (fun hh => ?_)
    · replace h := h.1 hh
      refine ww_iconst C.1 (v := (0 : Int32)) dX2_tell_111 (by decide) ?_
      refine ww_zret C.1 dX2_tell_112 rfl (Or.inl rfl) ?_
      exact h
    · replace h := h.2 hh
      refine ww_iload_n C.1 dX2_tell_89 3 rfl rfl ?_
      refine ww_nI C fX9_isLength (And.intro (by decide) (by decide)) nlRX2_43 dX2_tell_90 (As := [.int x3]) (rest := []) rfl rfl rfl (Nat.le_of_ble_eq_true rfl) (WpI.of (L0 := [(0, .int x3)]) rfl rfl (Nat.le_of_ble_eq_true rfl) fun X1 Q1 C1 k1 => ?_)
      refine ww_iload_n C1.1 dX9_isLength_0 0 rfl rfl ?_
      refine ww_bipush C1.1 (v := (40 : Int32)) dX9_isLength_1 (by decide) ?_
      refine ww_bipush C1.1 (v := (99 : Int32)) dX9_isLength_3 (by decide) ?_
      refine ww_sI C1 fX9_isWithin (And.intro (by decide) (by decide)) mlRX9_89 dX9_isLength_5 (As := [.int x3, .int (40 : Int32), .int (99 : Int32)]) (rest := []) rfl rfl rfl (Nat.le_of_ble_eq_true rfl) (WpI.of (L0 := [(0, .int x3), (1, .int (40 : Int32)), (2, .int (99 : Int32))]) rfl rfl (Nat.le_of_ble_eq_true rfl) fun X2 Q2 C2 k2 => ?_)
      refine ww_iload_n C2.1 dX9_isWithin_0 0 rfl rfl ?_
      refine ww_iload_n C2.1 dX9_isWithin_1 1 rfl rfl ?_
      refine ww_icmp_lt (x := x3) (y := (40 : Int32)) C2.1 (tgt := 14) dX9_isWithin_2 (by decide) (fun hh => ?_) (fun hh => ?_)
      · replace h := h.1 hh
        refine ww_iconst C2.1 (v := (0 : Int32)) dX9_isWithin_14 (by decide) ?_
        refine ww_zret C2.1 dX9_isWithin_15 rfl (Or.inl rfl) ?_
        refine k2 _ _ ?_
        refine ww_zret C1.1 dX9_isLength_8 rfl (Or.inl rfl) ?_
        refine k1 _ _ ?_
        refine ww_if_eq (x := (0 : Int32)) C.1 (tgt := 111) dX2_tell_93 (by decide) (fun _ => ?_) (fun hh => absurd hh (by decide))
        refine ww_iconst C.1 (v := (0 : Int32)) dX2_tell_111 (by decide) ?_
        refine ww_zret C.1 dX2_tell_112 rfl (Or.inl rfl) ?_
        exact h
      · replace h := h.2 hh
        refine ww_iload_n C2.1 dX9_isWithin_5 0 rfl rfl ?_
        refine ww_iload_n C2.1 dX9_isWithin_6 2 rfl rfl ?_
        refine ww_icmp_gt (x := x3) (y := (99 : Int32)) C2.1 (tgt := 14) dX9_isWithin_7 (by decide) (fun hh => ?_) (fun hh => ?_)
        · replace h := h.1 hh
          refine ww_iconst C2.1 (v := (0 : Int32)) dX9_isWithin_14 (by decide) ?_
          refine ww_zret C2.1 dX9_isWithin_15 rfl (Or.inl rfl) ?_
          refine k2 _ _ ?_
          refine ww_zret C1.1 dX9_isLength_8 rfl (Or.inl rfl) ?_
          refine k1 _ _ ?_
          refine ww_if_eq (x := (0 : Int32)) C.1 (tgt := 111) dX2_tell_93 (by decide) (fun _ => ?_) (fun hh => absurd hh (by decide))
          refine ww_iconst C.1 (v := (0 : Int32)) dX2_tell_111 (by decide) ?_
          refine ww_zret C.1 dX2_tell_112 rfl (Or.inl rfl) ?_
          exact h
        · replace h := h.2 hh
          refine ww_iconst C2.1 (v := (1 : Int32)) dX9_isWithin_10 (by decide) ?_
          refine ww_goto C2.1 (tgt := 15) dX9_isWithin_11 (by decide) ?_
          refine ww_zret C2.1 dX9_isWithin_15 rfl (Or.inr rfl) ?_
          refine k2 _ _ ?_
          refine ww_zret C1.1 dX9_isLength_8 rfl (Or.inr rfl) ?_
          refine k1 _ _ ?_
          refine ww_if_eq (x := (1 : Int32)) C.1 (tgt := 111) dX2_tell_93 (by decide) (fun hh => absurd hh (by decide)) (fun _ => ?_)
          refine ww_aload_n C.1 dX2_tell_96 0 rfl rfl ?_
          refine wt_getR C.1 dX2_tell_97 flRX2_12 (tc45 T2) rfl rfl ?_
          refine ww_iload_n C.1 dX2_tell_100 3 rfl rfl ?_
          refine ww_vI C fX0_add (And.intro (by decide) (by decide)) mlRX2_47 dX2_tell_101 (tc46 T2) (by decide) rfl (As := [.int x3]) (rest := []) rfl rfl rfl (Nat.le_of_ble_eq_true rfl) ?_
          exact h
  · replace h := h.2 hc0
    by_cases hc1 : x1 = (102 : Int32)
    · replace h := h.1 hc1
      refine ww_tableIn (x := x1) C.1 (tgt := 113) dX2_tell_1 (by rw [hc1]; decide) (by rw [hc1]; decide) (by rw [hc1]; rfl) (by decide) ?_
      refine ww_iload_n C.1 dX2_tell_113 2 rfl rfl ?_
      refine ww_iconst C.1 (v := (2 : Int32)) dX2_tell_114 (by decide) ?_
      refine ww_icmp_ne (x := x2) (y := (2 : Int32)) C.1 (tgt := 153) dX2_tell_115 (by decide) (fun hh => ?_) (fun hh => ?_)
      · replace h := h.1 hh
        refine ww_iconst C.1 (v := (0 : Int32)) dX2_tell_153 (by decide) ?_
        refine ww_zret C.1 dX2_tell_154 rfl (Or.inl rfl) ?_
        exact h
      · replace h := h.2 hh
        refine ww_iload_n C.1 dX2_tell_118 3 rfl rfl ?_
        refine ww_nI C fX9_isNight (And.intro (by decide) (by decide)) nlRX2_50 dX2_tell_119 (As := [.int x3]) (rest := []) rfl rfl rfl (Nat.le_of_ble_eq_true rfl) (WpI.of (L0 := [(0, .int x3)]) rfl rfl (Nat.le_of_ble_eq_true rfl) fun X3 Q3 C3 k3 => ?_)
        refine ww_iload_n C3.1 dX9_isNight_0 0 rfl rfl ?_
        refine ww_iconst C3.1 (v := (0 : Int32)) dX9_isNight_1 (by decide) ?_
        refine ww_bipush C3.1 (v := (29 : Int32)) dX9_isNight_2 (by decide) ?_
        refine ww_sI C3 fX9_isWithin (And.intro (by decide) (by decide)) mlRX9_89 dX9_isNight_4 (As := [.int x3, .int (0 : Int32), .int (29 : Int32)]) (rest := []) rfl rfl rfl (Nat.le_of_ble_eq_true rfl) (WpI.of (L0 := [(0, .int x3), (1, .int (0 : Int32)), (2, .int (29 : Int32))]) rfl rfl (Nat.le_of_ble_eq_true rfl) fun X4 Q4 C4 k4 => ?_)
        refine ww_iload_n C4.1 dX9_isWithin_0 0 rfl rfl ?_
        refine ww_iload_n C4.1 dX9_isWithin_1 1 rfl rfl ?_
        refine ww_icmp_lt (x := x3) (y := (0 : Int32)) C4.1 (tgt := 14) dX9_isWithin_2 (by decide) (fun hh => ?_) (fun hh => ?_)
        · replace h := h.1 hh
          refine ww_iconst C4.1 (v := (0 : Int32)) dX9_isWithin_14 (by decide) ?_
          refine ww_zret C4.1 dX9_isWithin_15 rfl (Or.inl rfl) ?_
          refine k4 _ _ ?_
          refine ww_zret C3.1 dX9_isNight_7 rfl (Or.inl rfl) ?_
          refine k3 _ _ ?_
          refine ww_if_eq (x := (0 : Int32)) C.1 (tgt := 153) dX2_tell_122 (by decide) (fun _ => ?_) (fun hh => absurd hh (by decide))
          refine ww_iconst C.1 (v := (0 : Int32)) dX2_tell_153 (by decide) ?_
          refine ww_zret C.1 dX2_tell_154 rfl (Or.inl rfl) ?_
          exact h
        · replace h := h.2 hh
          refine ww_iload_n C4.1 dX9_isWithin_5 0 rfl rfl ?_
          refine ww_iload_n C4.1 dX9_isWithin_6 2 rfl rfl ?_
          refine ww_icmp_gt (x := x3) (y := (29 : Int32)) C4.1 (tgt := 14) dX9_isWithin_7 (by decide) (fun hh => ?_) (fun hh => ?_)
          · replace h := h.1 hh
            refine ww_iconst C4.1 (v := (0 : Int32)) dX9_isWithin_14 (by decide) ?_
            refine ww_zret C4.1 dX9_isWithin_15 rfl (Or.inl rfl) ?_
            refine k4 _ _ ?_
            refine ww_zret C3.1 dX9_isNight_7 rfl (Or.inl rfl) ?_
            refine k3 _ _ ?_
            refine ww_if_eq (x := (0 : Int32)) C.1 (tgt := 153) dX2_tell_122 (by decide) (fun _ => ?_) (fun hh => absurd hh (by decide))
            refine ww_iconst C.1 (v := (0 : Int32)) dX2_tell_153 (by decide) ?_
            refine ww_zret C.1 dX2_tell_154 rfl (Or.inl rfl) ?_
            exact h
          · replace h := h.2 hh
            refine ww_iconst C4.1 (v := (1 : Int32)) dX9_isWithin_10 (by decide) ?_
            refine ww_goto C4.1 (tgt := 15) dX9_isWithin_11 (by decide) ?_
            refine ww_zret C4.1 dX9_isWithin_15 rfl (Or.inr rfl) ?_
            refine k4 _ _ ?_
            refine ww_zret C3.1 dX9_isNight_7 rfl (Or.inr rfl) ?_
            refine k3 _ _ ?_
            refine ww_if_eq (x := (1 : Int32)) C.1 (tgt := 153) dX2_tell_122 (by decide) (fun hh => absurd hh (by decide)) (fun _ => ?_)
            refine ww_iload C.1 dX2_tell_125 4 rfl ?_
            refine ww_iconst C.1 (v := (0 : Int32)) dX2_tell_127 (by decide) ?_
            refine ww_bipush C.1 (v := (9 : Int32)) dX2_tell_128 (by decide) ?_
            refine ww_nI C fX9_isWithin (And.intro (by decide) (by decide)) nlRX2_53 dX2_tell_130 (As := [.int x4, .int (0 : Int32), .int (9 : Int32)]) (rest := []) rfl rfl rfl (Nat.le_of_ble_eq_true rfl) (WpI.of (L0 := [(0, .int x4), (1, .int (0 : Int32)), (2, .int (9 : Int32))]) rfl rfl (Nat.le_of_ble_eq_true rfl) fun X5 Q5 C5 k5 => ?_)
            refine ww_iload_n C5.1 dX9_isWithin_0 0 rfl rfl ?_
            refine ww_iload_n C5.1 dX9_isWithin_1 1 rfl rfl ?_
            refine ww_icmp_lt (x := x4) (y := (0 : Int32)) C5.1 (tgt := 14) dX9_isWithin_2 (by decide) (fun hh => ?_) (fun hh => ?_)
            · replace h := h.1 hh
              refine ww_iconst C5.1 (v := (0 : Int32)) dX9_isWithin_14 (by decide) ?_
              refine ww_zret C5.1 dX9_isWithin_15 rfl (Or.inl rfl) ?_
              refine k5 _ _ ?_
              refine ww_if_eq (x := (0 : Int32)) C.1 (tgt := 153) dX2_tell_133 (by decide) (fun _ => ?_) (fun hh => absurd hh (by decide))
              refine ww_iconst C.1 (v := (0 : Int32)) dX2_tell_153 (by decide) ?_
              refine ww_zret C.1 dX2_tell_154 rfl (Or.inl rfl) ?_
              exact h
            · replace h := h.2 hh
              refine ww_iload_n C5.1 dX9_isWithin_5 0 rfl rfl ?_
              refine ww_iload_n C5.1 dX9_isWithin_6 2 rfl rfl ?_
              refine ww_icmp_gt (x := x4) (y := (9 : Int32)) C5.1 (tgt := 14) dX9_isWithin_7 (by decide) (fun hh => ?_) (fun hh => ?_)
              · replace h := h.1 hh
                refine ww_iconst C5.1 (v := (0 : Int32)) dX9_isWithin_14 (by decide) ?_
                refine ww_zret C5.1 dX9_isWithin_15 rfl (Or.inl rfl) ?_
                refine k5 _ _ ?_
                refine ww_if_eq (x := (0 : Int32)) C.1 (tgt := 153) dX2_tell_133 (by decide) (fun _ => ?_) (fun hh => absurd hh (by decide))
                refine ww_iconst C.1 (v := (0 : Int32)) dX2_tell_153 (by decide) ?_
                refine ww_zret C.1 dX2_tell_154 rfl (Or.inl rfl) ?_
                exact h
              · replace h := h.2 hh
                refine ww_iconst C5.1 (v := (1 : Int32)) dX9_isWithin_10 (by decide) ?_
                refine ww_goto C5.1 (tgt := 15) dX9_isWithin_11 (by decide) ?_
                refine ww_zret C5.1 dX9_isWithin_15 rfl (Or.inr rfl) ?_
                refine k5 _ _ ?_
                refine ww_if_eq (x := (1 : Int32)) C.1 (tgt := 153) dX2_tell_133 (by decide) (fun hh => absurd hh (by decide)) (fun _ => ?_)
                refine ww_aload_n C.1 dX2_tell_136 0 rfl rfl ?_
                refine wt_getR C.1 dX2_tell_137 flRX2_12 (tc45 T2) rfl rfl ?_
                refine ww_iload_n C.1 dX2_tell_140 3 rfl rfl ?_
                refine ww_iload C.1 dX2_tell_141 4 rfl ?_
                refine ww_vI C fX0_addFeast (And.intro (by decide) (by decide)) mlRX2_57 dX2_tell_143 (tc46 T2) (by decide) rfl (As := [.int x3, .int x4]) (rest := []) rfl rfl rfl (Nat.le_of_ble_eq_true rfl) ?_
                exact h
    · replace h := h.2 hc1
      by_cases hc2 : x1 = (103 : Int32)
      · replace h := h.1 hc2
        refine ww_tableIn (x := x1) C.1 (tgt := 155) dX2_tell_1 (by rw [hc2]; decide) (by rw [hc2]; decide) (by rw [hc2]; rfl) (by decide) ?_
        refine ww_iload_n C.1 dX2_tell_155 2 rfl rfl ?_
        refine ww_iconst C.1 (v := (3 : Int32)) dX2_tell_156 (by decide) ?_
        refine ww_icmp_ne (x := x2) (y := (3 : Int32)) C.1 (tgt := 207) dX2_tell_157 (by decide) (fun hh => ?_) (fun hh => ?_)
        · replace h := h.1 hh
          refine ww_iconst C.1 (v := (0 : Int32)) dX2_tell_207 (by decide) ?_
          refine ww_zret C.1 dX2_tell_208 rfl (Or.inl rfl) ?_
          exact h
        · replace h := h.2 hh
          refine ww_iload_n C.1 dX2_tell_160 3 rfl rfl ?_
          refine ww_nI C fX9_isLength (And.intro (by decide) (by decide)) nlRX2_43 dX2_tell_161 (As := [.int x3]) (rest := []) rfl rfl rfl (Nat.le_of_ble_eq_true rfl) (WpI.of (L0 := [(0, .int x3)]) rfl rfl (Nat.le_of_ble_eq_true rfl) fun X6 Q6 C6 k6 => ?_)
          refine ww_iload_n C6.1 dX9_isLength_0 0 rfl rfl ?_
          refine ww_bipush C6.1 (v := (40 : Int32)) dX9_isLength_1 (by decide) ?_
          refine ww_bipush C6.1 (v := (99 : Int32)) dX9_isLength_3 (by decide) ?_
          refine ww_sI C6 fX9_isWithin (And.intro (by decide) (by decide)) mlRX9_89 dX9_isLength_5 (As := [.int x3, .int (40 : Int32), .int (99 : Int32)]) (rest := []) rfl rfl rfl (Nat.le_of_ble_eq_true rfl) (WpI.of (L0 := [(0, .int x3), (1, .int (40 : Int32)), (2, .int (99 : Int32))]) rfl rfl (Nat.le_of_ble_eq_true rfl) fun X7 Q7 C7 k7 => ?_)
          refine ww_iload_n C7.1 dX9_isWithin_0 0 rfl rfl ?_
          refine ww_iload_n C7.1 dX9_isWithin_1 1 rfl rfl ?_
          refine ww_icmp_lt (x := x3) (y := (40 : Int32)) C7.1 (tgt := 14) dX9_isWithin_2 (by decide) (fun hh => ?_) (fun hh => ?_)
          · replace h := h.1 hh
            refine ww_iconst C7.1 (v := (0 : Int32)) dX9_isWithin_14 (by decide) ?_
            refine ww_zret C7.1 dX9_isWithin_15 rfl (Or.inl rfl) ?_
            refine k7 _ _ ?_
            refine ww_zret C6.1 dX9_isLength_8 rfl (Or.inl rfl) ?_
            refine k6 _ _ ?_
            refine ww_if_eq (x := (0 : Int32)) C.1 (tgt := 207) dX2_tell_164 (by decide) (fun _ => ?_) (fun hh => absurd hh (by decide))
            refine ww_iconst C.1 (v := (0 : Int32)) dX2_tell_207 (by decide) ?_
            refine ww_zret C.1 dX2_tell_208 rfl (Or.inl rfl) ?_
            exact h
          · replace h := h.2 hh
            refine ww_iload_n C7.1 dX9_isWithin_5 0 rfl rfl ?_
            refine ww_iload_n C7.1 dX9_isWithin_6 2 rfl rfl ?_
            refine ww_icmp_gt (x := x3) (y := (99 : Int32)) C7.1 (tgt := 14) dX9_isWithin_7 (by decide) (fun hh => ?_) (fun hh => ?_)
            · replace h := h.1 hh
              refine ww_iconst C7.1 (v := (0 : Int32)) dX9_isWithin_14 (by decide) ?_
              refine ww_zret C7.1 dX9_isWithin_15 rfl (Or.inl rfl) ?_
              refine k7 _ _ ?_
              refine ww_zret C6.1 dX9_isLength_8 rfl (Or.inl rfl) ?_
              refine k6 _ _ ?_
              refine ww_if_eq (x := (0 : Int32)) C.1 (tgt := 207) dX2_tell_164 (by decide) (fun _ => ?_) (fun hh => absurd hh (by decide))
              refine ww_iconst C.1 (v := (0 : Int32)) dX2_tell_207 (by decide) ?_
              refine ww_zret C.1 dX2_tell_208 rfl (Or.inl rfl) ?_
              exact h
            · replace h := h.2 hh
              refine ww_iconst C7.1 (v := (1 : Int32)) dX9_isWithin_10 (by decide) ?_
              refine ww_goto C7.1 (tgt := 15) dX9_isWithin_11 (by decide) ?_
              refine ww_zret C7.1 dX9_isWithin_15 rfl (Or.inr rfl) ?_
              refine k7 _ _ ?_
              refine ww_zret C6.1 dX9_isLength_8 rfl (Or.inr rfl) ?_
              refine k6 _ _ ?_
              refine ww_if_eq (x := (1 : Int32)) C.1 (tgt := 207) dX2_tell_164 (by decide) (fun hh => absurd hh (by decide)) (fun _ => ?_)
              refine ww_iload C.1 dX2_tell_167 4 rfl ?_
              refine ww_iconst C.1 (v := (0 : Int32)) dX2_tell_169 (by decide) ?_
              refine ww_bipush C.1 (v := (9 : Int32)) dX2_tell_170 (by decide) ?_
              refine ww_nI C fX9_isWithin (And.intro (by decide) (by decide)) nlRX2_53 dX2_tell_172 (As := [.int x4, .int (0 : Int32), .int (9 : Int32)]) (rest := []) rfl rfl rfl (Nat.le_of_ble_eq_true rfl) (WpI.of (L0 := [(0, .int x4), (1, .int (0 : Int32)), (2, .int (9 : Int32))]) rfl rfl (Nat.le_of_ble_eq_true rfl) fun X8 Q8 C8 k8 => ?_)
              refine ww_iload_n C8.1 dX9_isWithin_0 0 rfl rfl ?_
              refine ww_iload_n C8.1 dX9_isWithin_1 1 rfl rfl ?_
              refine ww_icmp_lt (x := x4) (y := (0 : Int32)) C8.1 (tgt := 14) dX9_isWithin_2 (by decide) (fun hh => ?_) (fun hh => ?_)
              · replace h := h.1 hh
                refine ww_iconst C8.1 (v := (0 : Int32)) dX9_isWithin_14 (by decide) ?_
                refine ww_zret C8.1 dX9_isWithin_15 rfl (Or.inl rfl) ?_
                refine k8 _ _ ?_
                refine ww_if_eq (x := (0 : Int32)) C.1 (tgt := 207) dX2_tell_175 (by decide) (fun _ => ?_) (fun hh => absurd hh (by decide))
                refine ww_iconst C.1 (v := (0 : Int32)) dX2_tell_207 (by decide) ?_
                refine ww_zret C.1 dX2_tell_208 rfl (Or.inl rfl) ?_
                exact h
              · replace h := h.2 hh
                refine ww_iload_n C8.1 dX9_isWithin_5 0 rfl rfl ?_
                refine ww_iload_n C8.1 dX9_isWithin_6 2 rfl rfl ?_
                refine ww_icmp_gt (x := x4) (y := (9 : Int32)) C8.1 (tgt := 14) dX9_isWithin_7 (by decide) (fun hh => ?_) (fun hh => ?_)
                · replace h := h.1 hh
                  refine ww_iconst C8.1 (v := (0 : Int32)) dX9_isWithin_14 (by decide) ?_
                  refine ww_zret C8.1 dX9_isWithin_15 rfl (Or.inl rfl) ?_
                  refine k8 _ _ ?_
                  refine ww_if_eq (x := (0 : Int32)) C.1 (tgt := 207) dX2_tell_175 (by decide) (fun _ => ?_) (fun hh => absurd hh (by decide))
                  refine ww_iconst C.1 (v := (0 : Int32)) dX2_tell_207 (by decide) ?_
                  refine ww_zret C.1 dX2_tell_208 rfl (Or.inl rfl) ?_
                  exact h
                · replace h := h.2 hh
                  refine ww_iconst C8.1 (v := (1 : Int32)) dX9_isWithin_10 (by decide) ?_
                  refine ww_goto C8.1 (tgt := 15) dX9_isWithin_11 (by decide) ?_
                  refine ww_zret C8.1 dX9_isWithin_15 rfl (Or.inr rfl) ?_
                  refine k8 _ _ ?_
                  refine ww_if_eq (x := (1 : Int32)) C.1 (tgt := 207) dX2_tell_175 (by decide) (fun hh => absurd hh (by decide)) (fun _ => ?_)
                  refine ww_iload C.1 dX2_tell_178 5 rfl ?_
                  refine ww_iconst C.1 (v := (0 : Int32)) dX2_tell_180 (by decide) ?_
                  refine ww_iconst C.1 (v := (4 : Int32)) dX2_tell_181 (by decide) ?_
                  refine ww_nI C fX9_isWithin (And.intro (by decide) (by decide)) nlRX2_53 dX2_tell_182 (As := [.int x5, .int (0 : Int32), .int (4 : Int32)]) (rest := []) rfl rfl rfl (Nat.le_of_ble_eq_true rfl) (WpI.of (L0 := [(0, .int x5), (1, .int (0 : Int32)), (2, .int (4 : Int32))]) rfl rfl (Nat.le_of_ble_eq_true rfl) fun X9 Q9 C9 k9 => ?_)
                  refine ww_iload_n C9.1 dX9_isWithin_0 0 rfl rfl ?_
                  refine ww_iload_n C9.1 dX9_isWithin_1 1 rfl rfl ?_
                  refine ww_icmp_lt (x := x5) (y := (0 : Int32)) C9.1 (tgt := 14) dX9_isWithin_2 (by decide) (fun hh => ?_) (fun hh => ?_)
                  · replace h := h.1 hh
                    refine ww_iconst C9.1 (v := (0 : Int32)) dX9_isWithin_14 (by decide) ?_
                    refine ww_zret C9.1 dX9_isWithin_15 rfl (Or.inl rfl) ?_
                    refine k9 _ _ ?_
                    refine ww_if_eq (x := (0 : Int32)) C.1 (tgt := 207) dX2_tell_185 (by decide) (fun _ => ?_) (fun hh => absurd hh (by decide))
                    refine ww_iconst C.1 (v := (0 : Int32)) dX2_tell_207 (by decide) ?_
                    refine ww_zret C.1 dX2_tell_208 rfl (Or.inl rfl) ?_
                    exact h
                  · replace h := h.2 hh
                    refine ww_iload_n C9.1 dX9_isWithin_5 0 rfl rfl ?_
                    refine ww_iload_n C9.1 dX9_isWithin_6 2 rfl rfl ?_
                    refine ww_icmp_gt (x := x5) (y := (4 : Int32)) C9.1 (tgt := 14) dX9_isWithin_7 (by decide) (fun hh => ?_) (fun hh => ?_)
                    · replace h := h.1 hh
                      refine ww_iconst C9.1 (v := (0 : Int32)) dX9_isWithin_14 (by decide) ?_
                      refine ww_zret C9.1 dX9_isWithin_15 rfl (Or.inl rfl) ?_
                      refine k9 _ _ ?_
                      refine ww_if_eq (x := (0 : Int32)) C.1 (tgt := 207) dX2_tell_185 (by decide) (fun _ => ?_) (fun hh => absurd hh (by decide))
                      refine ww_iconst C.1 (v := (0 : Int32)) dX2_tell_207 (by decide) ?_
                      refine ww_zret C.1 dX2_tell_208 rfl (Or.inl rfl) ?_
                      exact h
                    · replace h := h.2 hh
                      refine ww_iconst C9.1 (v := (1 : Int32)) dX9_isWithin_10 (by decide) ?_
                      refine ww_goto C9.1 (tgt := 15) dX9_isWithin_11 (by decide) ?_
                      refine ww_zret C9.1 dX9_isWithin_15 rfl (Or.inr rfl) ?_
                      refine k9 _ _ ?_
                      refine ww_if_eq (x := (1 : Int32)) C.1 (tgt := 207) dX2_tell_185 (by decide) (fun hh => absurd hh (by decide)) (fun _ => ?_)
                      refine ww_aload_n C.1 dX2_tell_188 0 rfl rfl ?_
                      refine wt_getR C.1 dX2_tell_189 flRX2_21 (tc45 T2) rfl rfl ?_
                      refine ww_iload_n C.1 dX2_tell_192 3 rfl rfl ?_
                      refine ww_iload C.1 dX2_tell_193 4 rfl ?_
                      refine ww_iload C.1 dX2_tell_195 5 rfl ?_
                      refine ww_vI C fX5_add (And.intro (by decide) (by decide)) mlRX2_61 dX2_tell_197 (tc49 T2) (by decide) rfl (As := [.int x3, .int x4, .int x5]) (rest := []) rfl rfl rfl (Nat.le_of_ble_eq_true rfl) ?_
                      exact h
      · replace h := h.2 hc2
        by_cases hc3 : x1 = (104 : Int32)
        · replace h := h.1 hc3
          refine ww_tableIn (x := x1) C.1 (tgt := 209) dX2_tell_1 (by rw [hc3]; decide) (by rw [hc3]; decide) (by rw [hc3]; rfl) (by decide) ?_
          refine ww_iload_n C.1 dX2_tell_209 2 rfl rfl ?_
          refine ww_iconst C.1 (v := (2 : Int32)) dX2_tell_210 (by decide) ?_
          refine ww_icmp_ne (x := x2) (y := (2 : Int32)) C.1 (tgt := 231) dX2_tell_211 (by decide) (fun hh => ?_) (fun hh => ?_)
          · replace h := h.1 hh
            refine ww_iconst C.1 (v := (0 : Int32)) dX2_tell_231 (by decide) ?_
            refine ww_zret C.1 dX2_tell_232 rfl (Or.inl rfl) ?_
            exact h
          · replace h := h.2 hh
            refine ww_aload_n C.1 dX2_tell_214 0 rfl rfl ?_
            refine wt_getR C.1 dX2_tell_215 flRX2_21 (tc45 T2) rfl rfl ?_
            refine ww_iload_n C.1 dX2_tell_218 3 rfl rfl ?_
            refine ww_iload C.1 dX2_tell_219 4 rfl ?_
            refine ww_vI C fX5_befriend (And.intro (by decide) (by decide)) mlRX2_63 dX2_tell_221 (tc49 T2) (by decide) rfl (As := [.int x3, .int x4]) (rest := []) rfl rfl rfl (Nat.le_of_ble_eq_true rfl) ?_
            exact h
        · replace h := h.2 hc3
          by_cases hc4 : x1 = (107 : Int32)
          · replace h := h.1 hc4
            refine ww_tableIn (x := x1) C.1 (tgt := 233) dX2_tell_1 (by rw [hc4]; decide) (by rw [hc4]; decide) (by rw [hc4]; rfl) (by decide) ?_
            refine ww_iload_n C.1 dX2_tell_233 2 rfl rfl ?_
            refine ww_iconst C.1 (v := (1 : Int32)) dX2_tell_234 (by decide) ?_
            refine ww_icmp_ne (x := x2) (y := (1 : Int32)) C.1 (tgt := 250) dX2_tell_235 (by decide) (fun hh => ?_) (fun hh => ?_)
            · replace h := h.1 hh
              refine ww_iconst C.1 (v := (0 : Int32)) dX2_tell_250 (by decide) ?_
              refine ww_zret C.1 dX2_tell_251 rfl (Or.inl rfl) ?_
              exact h
            · replace h := h.2 hh
              refine ww_aload_n C.1 dX2_tell_238 0 rfl rfl ?_
              refine ww_iload_n C.1 dX2_tell_239 3 rfl rfl ?_
              refine ww_vI C fX2_enact (And.intro (by decide) (by decide)) mlRX2_66 dX2_tell_240 (tc45 T2) (by decide) rfl (As := [.int x3]) (rest := []) rfl rfl rfl (Nat.le_of_ble_eq_true rfl) (WpI.of (L0 := [(0, .ref 45), (1, .int x3)]) rfl rfl (Nat.le_of_ble_eq_true rfl) fun X10 Q10 C10 k10 => ?_)
              refine ww_iload_n C10.1 dX2_enact_0 1 rfl rfl ?_
              refine ww_iconst C10.1 (v := (0 : Int32)) dX2_enact_1 (by decide) ?_
              refine ww_iconst C10.1 (v := (2 : Int32)) dX2_enact_2 (by decide) ?_
              refine ww_nI C10 fX9_isWithin (And.intro (by decide) (by decide)) nlRX2_53 dX2_enact_3 (As := [.int x3, .int (0 : Int32), .int (2 : Int32)]) (rest := []) rfl rfl rfl (Nat.le_of_ble_eq_true rfl) (WpI.of (L0 := [(0, .int x3), (1, .int (0 : Int32)), (2, .int (2 : Int32))]) rfl rfl (Nat.le_of_ble_eq_true rfl) fun X11 Q11 C11 k11 => ?_)
              refine ww_iload_n C11.1 dX9_isWithin_0 0 rfl rfl ?_
              refine ww_iload_n C11.1 dX9_isWithin_1 1 rfl rfl ?_
              refine ww_icmp_lt (x := x3) (y := (0 : Int32)) C11.1 (tgt := 14) dX9_isWithin_2 (by decide) (fun hh => ?_) (fun hh => ?_)
              · replace h := h.1 hh
                refine ww_iconst C11.1 (v := (0 : Int32)) dX9_isWithin_14 (by decide) ?_
                refine ww_zret C11.1 dX9_isWithin_15 rfl (Or.inl rfl) ?_
                refine k11 _ _ ?_
                refine ww_if_ne (x := (0 : Int32)) C10.1 (tgt := 11) dX2_enact_6 (by decide) (fun hh => absurd hh (by decide)) (fun _ => ?_)
                refine ww_iconst C10.1 (v := (0 : Int32)) dX2_enact_9 (by decide) ?_
                refine ww_zret C10.1 dX2_enact_10 rfl (Or.inl rfl) ?_
                refine k10 _ _ ?_
                refine ww_if_eq (x := (0 : Int32)) C.1 (tgt := 250) dX2_tell_243 (by decide) (fun _ => ?_) (fun hh => absurd hh (by decide))
                refine ww_iconst C.1 (v := (0 : Int32)) dX2_tell_250 (by decide) ?_
                refine ww_zret C.1 dX2_tell_251 rfl (Or.inl rfl) ?_
                exact h
              · replace h := h.2 hh
                refine ww_iload_n C11.1 dX9_isWithin_5 0 rfl rfl ?_
                refine ww_iload_n C11.1 dX9_isWithin_6 2 rfl rfl ?_
                refine ww_icmp_gt (x := x3) (y := (2 : Int32)) C11.1 (tgt := 14) dX9_isWithin_7 (by decide) (fun hh => ?_) (fun hh => ?_)
                · replace h := h.1 hh
                  refine ww_iconst C11.1 (v := (0 : Int32)) dX9_isWithin_14 (by decide) ?_
                  refine ww_zret C11.1 dX9_isWithin_15 rfl (Or.inl rfl) ?_
                  refine k11 _ _ ?_
                  refine ww_if_ne (x := (0 : Int32)) C10.1 (tgt := 11) dX2_enact_6 (by decide) (fun hh => absurd hh (by decide)) (fun _ => ?_)
                  refine ww_iconst C10.1 (v := (0 : Int32)) dX2_enact_9 (by decide) ?_
                  refine ww_zret C10.1 dX2_enact_10 rfl (Or.inl rfl) ?_
                  refine k10 _ _ ?_
                  refine ww_if_eq (x := (0 : Int32)) C.1 (tgt := 250) dX2_tell_243 (by decide) (fun _ => ?_) (fun hh => absurd hh (by decide))
                  refine ww_iconst C.1 (v := (0 : Int32)) dX2_tell_250 (by decide) ?_
                  refine ww_zret C.1 dX2_tell_251 rfl (Or.inl rfl) ?_
                  exact h
                · replace h := h.2 hh
                  refine ww_iconst C11.1 (v := (1 : Int32)) dX9_isWithin_10 (by decide) ?_
                  refine ww_goto C11.1 (tgt := 15) dX9_isWithin_11 (by decide) ?_
                  refine ww_zret C11.1 dX9_isWithin_15 rfl (Or.inr rfl) ?_
                  refine k11 _ _ ?_
                  refine ww_if_ne (x := (1 : Int32)) C10.1 (tgt := 11) dX2_enact_6 (by decide) (fun _ => ?_) (fun hh => absurd hh (by decide))
                  refine ww_aload_n C10.1 dX2_enact_11 0 rfl rfl ?_
                  refine ww_iload_n C10.1 dX2_enact_12 1 rfl rfl ?_
                  refine wt_putI C10.1 dX2_enact_13 flRX2_39 (tc45 T2) rfl ?_
                  refine ww_iconst C10.1 (v := (1 : Int32)) dX2_enact_16 (by decide) ?_
                  refine ww_zret C10.1 dX2_enact_17 rfl (Or.inr rfl) ?_
                  refine k10 _ _ ?_
                  refine ww_if_eq (x := (1 : Int32)) C.1 (tgt := 250) dX2_tell_243 (by decide) (fun hh => absurd hh (by decide)) (fun _ => ?_)
                  refine ww_iconst C.1 (v := (1 : Int32)) dX2_tell_246 (by decide) ?_
                  refine ww_goto C.1 (tgt := 251) dX2_tell_247 (by decide) ?_
                  refine ww_zret C.1 dX2_tell_251 rfl (Or.inr rfl) ?_
                  exact h
          · replace h := h.2 hc4
            by_cases hc5 : x1 = (114 : Int32)
            · replace h := h.1 hc5
              refine ww_tableIn (x := x1) C.1 (tgt := 252) dX2_tell_1 (by rw [hc5]; decide) (by rw [hc5]; decide) (by rw [hc5]; rfl) (by decide) ?_
              refine ww_iload_n C.1 dX2_tell_252 2 rfl rfl ?_
              refine ww_iconst C.1 (v := (1 : Int32)) dX2_tell_253 (by decide) ?_
              refine ww_icmp_ne (x := x2) (y := (1 : Int32)) C.1 (tgt := 276) dX2_tell_254 (by decide) (fun hh => ?_) (fun hh => ?_)
              · replace h := h.1 hh
                refine ww_iconst C.1 (v := (0 : Int32)) dX2_tell_276 (by decide) ?_
                refine ww_zret C.1 dX2_tell_277 rfl (Or.inl rfl) ?_
                exact h
              · replace h := h.2 hh
                refine ww_iload_n C.1 dX2_tell_257 3 rfl rfl ?_
                refine ww_nI C fX9_isLength (And.intro (by decide) (by decide)) nlRX2_43 dX2_tell_258 (As := [.int x3]) (rest := []) rfl rfl rfl (Nat.le_of_ble_eq_true rfl) (WpI.of (L0 := [(0, .int x3)]) rfl rfl (Nat.le_of_ble_eq_true rfl) fun X12 Q12 C12 k12 => ?_)
                refine ww_iload_n C12.1 dX9_isLength_0 0 rfl rfl ?_
                refine ww_bipush C12.1 (v := (40 : Int32)) dX9_isLength_1 (by decide) ?_
                refine ww_bipush C12.1 (v := (99 : Int32)) dX9_isLength_3 (by decide) ?_
                refine ww_sI C12 fX9_isWithin (And.intro (by decide) (by decide)) mlRX9_89 dX9_isLength_5 (As := [.int x3, .int (40 : Int32), .int (99 : Int32)]) (rest := []) rfl rfl rfl (Nat.le_of_ble_eq_true rfl) (WpI.of (L0 := [(0, .int x3), (1, .int (40 : Int32)), (2, .int (99 : Int32))]) rfl rfl (Nat.le_of_ble_eq_true rfl) fun X13 Q13 C13 k13 => ?_)
                refine ww_iload_n C13.1 dX9_isWithin_0 0 rfl rfl ?_
                refine ww_iload_n C13.1 dX9_isWithin_1 1 rfl rfl ?_
                refine ww_icmp_lt (x := x3) (y := (40 : Int32)) C13.1 (tgt := 14) dX9_isWithin_2 (by decide) (fun hh => ?_) (fun hh => ?_)
                · replace h := h.1 hh
                  refine ww_iconst C13.1 (v := (0 : Int32)) dX9_isWithin_14 (by decide) ?_
                  refine ww_zret C13.1 dX9_isWithin_15 rfl (Or.inl rfl) ?_
                  refine k13 _ _ ?_
                  refine ww_zret C12.1 dX9_isLength_8 rfl (Or.inl rfl) ?_
                  refine k12 _ _ ?_
                  refine ww_if_eq (x := (0 : Int32)) C.1 (tgt := 276) dX2_tell_261 (by decide) (fun _ => ?_) (fun hh => absurd hh (by decide))
                  refine ww_iconst C.1 (v := (0 : Int32)) dX2_tell_276 (by decide) ?_
                  refine ww_zret C.1 dX2_tell_277 rfl (Or.inl rfl) ?_
                  exact h
                · replace h := h.2 hh
                  refine ww_iload_n C13.1 dX9_isWithin_5 0 rfl rfl ?_
                  refine ww_iload_n C13.1 dX9_isWithin_6 2 rfl rfl ?_
                  refine ww_icmp_gt (x := x3) (y := (99 : Int32)) C13.1 (tgt := 14) dX9_isWithin_7 (by decide) (fun hh => ?_) (fun hh => ?_)
                  · replace h := h.1 hh
                    refine ww_iconst C13.1 (v := (0 : Int32)) dX9_isWithin_14 (by decide) ?_
                    refine ww_zret C13.1 dX9_isWithin_15 rfl (Or.inl rfl) ?_
                    refine k13 _ _ ?_
                    refine ww_zret C12.1 dX9_isLength_8 rfl (Or.inl rfl) ?_
                    refine k12 _ _ ?_
                    refine ww_if_eq (x := (0 : Int32)) C.1 (tgt := 276) dX2_tell_261 (by decide) (fun _ => ?_) (fun hh => absurd hh (by decide))
                    refine ww_iconst C.1 (v := (0 : Int32)) dX2_tell_276 (by decide) ?_
                    refine ww_zret C.1 dX2_tell_277 rfl (Or.inl rfl) ?_
                    exact h
                  · replace h := h.2 hh
                    refine ww_iconst C13.1 (v := (1 : Int32)) dX9_isWithin_10 (by decide) ?_
                    refine ww_goto C13.1 (tgt := 15) dX9_isWithin_11 (by decide) ?_
                    refine ww_zret C13.1 dX9_isWithin_15 rfl (Or.inr rfl) ?_
                    refine k13 _ _ ?_
                    refine ww_zret C12.1 dX9_isLength_8 rfl (Or.inr rfl) ?_
                    refine k12 _ _ ?_
                    refine ww_if_eq (x := (1 : Int32)) C.1 (tgt := 276) dX2_tell_261 (by decide) (fun hh => absurd hh (by decide)) (fun _ => ?_)
                    refine ww_aload_n C.1 dX2_tell_264 0 rfl rfl ?_
                    refine ww_iload_n C.1 dX2_tell_265 3 rfl rfl ?_
                    refine ww_vI C fX2_addRival (And.intro (by decide) (by decide)) mlRX2_69 dX2_tell_266 (tc45 T2) (by decide) rfl (As := [.int x3]) (rest := []) rfl rfl rfl (Nat.le_of_ble_eq_true rfl) ?_
                    exact h
            · replace h := h.2 hc5
              rcases (show (x1.toInt < 98 ∨ 114 < x1.toInt) ∨ x1.toInt = 99 ∨ x1.toInt = 100 ∨ x1.toInt = 101 ∨ x1.toInt = 105 ∨ x1.toInt = 106 ∨ x1.toInt = 108 ∨ x1.toInt = 109 ∨ x1.toInt = 110 ∨ x1.toInt = 111 ∨ x1.toInt = 112 ∨ x1.toInt = 113 by have e0 := lv_neT hc0 (a := 98) (by decide); have e1 := lv_neT hc1 (a := 102) (by decide); have e2 := lv_neT hc2 (a := 103) (by decide); have e3 := lv_neT hc3 (a := 104) (by decide); have e4 := lv_neT hc4 (a := 107) (by decide); have e5 := lv_neT hc5 (a := 114) (by decide); omega) with hz | hz | hz | hz | hz | hz | hz | hz | hz | hz | hz | hz
              · refine ww_tableOut (x := x1) C.1 (tgt := 278) dX2_tell_1 hz (by decide) ?_
                refine ww_iconst C.1 (v := (0 : Int32)) dX2_tell_278 (by decide) ?_
                refine ww_zret C.1 dX2_tell_279 rfl (Or.inl rfl) ?_
                exact h
              · refine ww_tableIn (x := x1) C.1 (tgt := 278) dX2_tell_1 (by rw [hz]; decide) (by rw [hz]; decide) (by rw [hz]; rfl) (by decide) ?_
                refine ww_iconst C.1 (v := (0 : Int32)) dX2_tell_278 (by decide) ?_
                refine ww_zret C.1 dX2_tell_279 rfl (Or.inl rfl) ?_
                exact h
              · refine ww_tableIn (x := x1) C.1 (tgt := 278) dX2_tell_1 (by rw [hz]; decide) (by rw [hz]; decide) (by rw [hz]; rfl) (by decide) ?_
                refine ww_iconst C.1 (v := (0 : Int32)) dX2_tell_278 (by decide) ?_
                refine ww_zret C.1 dX2_tell_279 rfl (Or.inl rfl) ?_
                exact h
              · refine ww_tableIn (x := x1) C.1 (tgt := 278) dX2_tell_1 (by rw [hz]; decide) (by rw [hz]; decide) (by rw [hz]; rfl) (by decide) ?_
                refine ww_iconst C.1 (v := (0 : Int32)) dX2_tell_278 (by decide) ?_
                refine ww_zret C.1 dX2_tell_279 rfl (Or.inl rfl) ?_
                exact h
              · refine ww_tableIn (x := x1) C.1 (tgt := 278) dX2_tell_1 (by rw [hz]; decide) (by rw [hz]; decide) (by rw [hz]; rfl) (by decide) ?_
                refine ww_iconst C.1 (v := (0 : Int32)) dX2_tell_278 (by decide) ?_
                refine ww_zret C.1 dX2_tell_279 rfl (Or.inl rfl) ?_
                exact h
              · refine ww_tableIn (x := x1) C.1 (tgt := 278) dX2_tell_1 (by rw [hz]; decide) (by rw [hz]; decide) (by rw [hz]; rfl) (by decide) ?_
                refine ww_iconst C.1 (v := (0 : Int32)) dX2_tell_278 (by decide) ?_
                refine ww_zret C.1 dX2_tell_279 rfl (Or.inl rfl) ?_
                exact h
              · refine ww_tableIn (x := x1) C.1 (tgt := 278) dX2_tell_1 (by rw [hz]; decide) (by rw [hz]; decide) (by rw [hz]; rfl) (by decide) ?_
                refine ww_iconst C.1 (v := (0 : Int32)) dX2_tell_278 (by decide) ?_
                refine ww_zret C.1 dX2_tell_279 rfl (Or.inl rfl) ?_
                exact h
              · refine ww_tableIn (x := x1) C.1 (tgt := 278) dX2_tell_1 (by rw [hz]; decide) (by rw [hz]; decide) (by rw [hz]; rfl) (by decide) ?_
                refine ww_iconst C.1 (v := (0 : Int32)) dX2_tell_278 (by decide) ?_
                refine ww_zret C.1 dX2_tell_279 rfl (Or.inl rfl) ?_
                exact h
              · refine ww_tableIn (x := x1) C.1 (tgt := 278) dX2_tell_1 (by rw [hz]; decide) (by rw [hz]; decide) (by rw [hz]; rfl) (by decide) ?_
                refine ww_iconst C.1 (v := (0 : Int32)) dX2_tell_278 (by decide) ?_
                refine ww_zret C.1 dX2_tell_279 rfl (Or.inl rfl) ?_
                exact h
              · refine ww_tableIn (x := x1) C.1 (tgt := 278) dX2_tell_1 (by rw [hz]; decide) (by rw [hz]; decide) (by rw [hz]; rfl) (by decide) ?_
                refine ww_iconst C.1 (v := (0 : Int32)) dX2_tell_278 (by decide) ?_
                refine ww_zret C.1 dX2_tell_279 rfl (Or.inl rfl) ?_
                exact h
              · refine ww_tableIn (x := x1) C.1 (tgt := 278) dX2_tell_1 (by rw [hz]; decide) (by rw [hz]; decide) (by rw [hz]; rfl) (by decide) ?_
                refine ww_iconst C.1 (v := (0 : Int32)) dX2_tell_278 (by decide) ?_
                refine ww_zret C.1 dX2_tell_279 rfl (Or.inl rfl) ?_
                exact h
              · refine ww_tableIn (x := x1) C.1 (tgt := 278) dX2_tell_1 (by rw [hz]; decide) (by rw [hz]; decide) (by rw [hz]; rfl) (by decide) ?_
                refine ww_iconst C.1 (v := (0 : Int32)) dX2_tell_278 (by decide) ?_
                refine ww_zret C.1 dX2_tell_279 rfl (Or.inl rfl) ?_
                exact h
set_option maxHeartbeats 4000000 in
set_option maxRecDepth 20000 in
theorem bX2_tellz_104 {X : CX} {Q : State → Prop} {M : Mem} {ga gb : Nat} {G2 : Grf} {T2 : List (Nat × Nat)} {x1 x2 x3 x4 x5 s0 : Int32} (C : Ok0 X mX2_tell (TTc ++ T2))
    (h : ((s0 = (0 : Int32) → RetOK X Q (some (.int (0 : Int32))) (M, (gz ga gb G2), TTc ++ T2)) ∧ (¬ s0 = (0 : Int32) → RetOK X Q (some (.int (1 : Int32))) (M, (gz ga gb G2), TTc ++ T2)))) :
    WW X Q 104 [(0, .ref 45), (1, .int x1), (2, .int x2), (3, .int x3), (4, .int x4), (5, .int x5)] [.int s0] (M, (gz ga gb G2), TTc ++ T2) := by
  refine ww_if_eq (x := s0) C.1 (tgt := 111) dX2_tell_104 (by decide) (fun hh => ?_) (fun hh => ?_)
  · replace h := h.1 hh
    refine ww_iconst C.1 (v := (0 : Int32)) dX2_tell_111 (by decide) ?_
    refine ww_zret C.1 dX2_tell_112 rfl (Or.inl rfl) ?_
    exact h
  · replace h := h.2 hh
    refine ww_iconst C.1 (v := (1 : Int32)) dX2_tell_107 (by decide) ?_
    refine ww_goto C.1 (tgt := 112) dX2_tell_108 (by decide) ?_
    refine ww_zret C.1 dX2_tell_112 rfl (Or.inr rfl) ?_
    exact h
set_option maxHeartbeats 4000000 in
set_option maxRecDepth 20000 in
theorem bX2_tellz_146 {X : CX} {Q : State → Prop} {M : Mem} {ga gb : Nat} {G2 : Grf} {T2 : List (Nat × Nat)} {x1 x2 x3 x4 x5 s0 : Int32} (C : Ok0 X mX2_tell (TTc ++ T2))
    (h : ((s0 = (0 : Int32) → RetOK X Q (some (.int (0 : Int32))) (M, (gz ga gb G2), TTc ++ T2)) ∧ (¬ s0 = (0 : Int32) → RetOK X Q (some (.int (1 : Int32))) (M, (gz ga gb G2), TTc ++ T2)))) :
    WW X Q 146 [(0, .ref 45), (1, .int x1), (2, .int x2), (3, .int x3), (4, .int x4), (5, .int x5)] [.int s0] (M, (gz ga gb G2), TTc ++ T2) := by
  refine ww_if_eq (x := s0) C.1 (tgt := 153) dX2_tell_146 (by decide) (fun hh => ?_) (fun hh => ?_)
  · replace h := h.1 hh
    refine ww_iconst C.1 (v := (0 : Int32)) dX2_tell_153 (by decide) ?_
    refine ww_zret C.1 dX2_tell_154 rfl (Or.inl rfl) ?_
    exact h
  · replace h := h.2 hh
    refine ww_iconst C.1 (v := (1 : Int32)) dX2_tell_149 (by decide) ?_
    refine ww_goto C.1 (tgt := 154) dX2_tell_150 (by decide) ?_
    refine ww_zret C.1 dX2_tell_154 rfl (Or.inr rfl) ?_
    exact h
set_option maxHeartbeats 4000000 in
set_option maxRecDepth 20000 in
theorem bX2_tellz_200 {X : CX} {Q : State → Prop} {M : Mem} {ga gb : Nat} {G2 : Grf} {T2 : List (Nat × Nat)} {x1 x2 x3 x4 x5 s0 : Int32} (C : Ok0 X mX2_tell (TTc ++ T2))
    (h : ((s0 = (0 : Int32) → RetOK X Q (some (.int (0 : Int32))) (M, (gz ga gb G2), TTc ++ T2)) ∧ (¬ s0 = (0 : Int32) → RetOK X Q (some (.int (1 : Int32))) (M, (gz ga gb G2), TTc ++ T2)))) :
    WW X Q 200 [(0, .ref 45), (1, .int x1), (2, .int x2), (3, .int x3), (4, .int x4), (5, .int x5)] [.int s0] (M, (gz ga gb G2), TTc ++ T2) := by
  refine ww_if_eq (x := s0) C.1 (tgt := 207) dX2_tell_200 (by decide) (fun hh => ?_) (fun hh => ?_)
  · replace h := h.1 hh
    refine ww_iconst C.1 (v := (0 : Int32)) dX2_tell_207 (by decide) ?_
    refine ww_zret C.1 dX2_tell_208 rfl (Or.inl rfl) ?_
    exact h
  · replace h := h.2 hh
    refine ww_iconst C.1 (v := (1 : Int32)) dX2_tell_203 (by decide) ?_
    refine ww_goto C.1 (tgt := 208) dX2_tell_204 (by decide) ?_
    refine ww_zret C.1 dX2_tell_208 rfl (Or.inr rfl) ?_
    exact h
set_option maxHeartbeats 4000000 in
set_option maxRecDepth 20000 in
theorem bX2_tellz_224 {X : CX} {Q : State → Prop} {M : Mem} {ga gb : Nat} {G2 : Grf} {T2 : List (Nat × Nat)} {x1 x2 x3 x4 x5 s0 : Int32} (C : Ok0 X mX2_tell (TTc ++ T2))
    (h : ((s0 = (0 : Int32) → RetOK X Q (some (.int (0 : Int32))) (M, (gz ga gb G2), TTc ++ T2)) ∧ (¬ s0 = (0 : Int32) → RetOK X Q (some (.int (1 : Int32))) (M, (gz ga gb G2), TTc ++ T2)))) :
    WW X Q 224 [(0, .ref 45), (1, .int x1), (2, .int x2), (3, .int x3), (4, .int x4), (5, .int x5)] [.int s0] (M, (gz ga gb G2), TTc ++ T2) := by
  refine ww_if_eq (x := s0) C.1 (tgt := 231) dX2_tell_224 (by decide) (fun hh => ?_) (fun hh => ?_)
  · replace h := h.1 hh
    refine ww_iconst C.1 (v := (0 : Int32)) dX2_tell_231 (by decide) ?_
    refine ww_zret C.1 dX2_tell_232 rfl (Or.inl rfl) ?_
    exact h
  · replace h := h.2 hh
    refine ww_iconst C.1 (v := (1 : Int32)) dX2_tell_227 (by decide) ?_
    refine ww_goto C.1 (tgt := 232) dX2_tell_228 (by decide) ?_
    refine ww_zret C.1 dX2_tell_232 rfl (Or.inr rfl) ?_
    exact h
set_option maxHeartbeats 4000000 in
set_option maxRecDepth 20000 in
theorem bX2_tellz_269 {X : CX} {Q : State → Prop} {M : Mem} {ga gb : Nat} {G2 : Grf} {T2 : List (Nat × Nat)} {x1 x2 x3 x4 x5 s0 : Int32} (C : Ok0 X mX2_tell (TTc ++ T2))
    (h : ((s0 = (0 : Int32) → RetOK X Q (some (.int (0 : Int32))) (M, (gz ga gb G2), TTc ++ T2)) ∧ (¬ s0 = (0 : Int32) → RetOK X Q (some (.int (1 : Int32))) (M, (gz ga gb G2), TTc ++ T2)))) :
    WW X Q 269 [(0, .ref 45), (1, .int x1), (2, .int x2), (3, .int x3), (4, .int x4), (5, .int x5)] [.int s0] (M, (gz ga gb G2), TTc ++ T2) := by
  refine ww_if_eq (x := s0) C.1 (tgt := 276) dX2_tell_269 (by decide) (fun hh => ?_) (fun hh => ?_)
  · replace h := h.1 hh
    refine ww_iconst C.1 (v := (0 : Int32)) dX2_tell_276 (by decide) ?_
    refine ww_zret C.1 dX2_tell_277 rfl (Or.inl rfl) ?_
    exact h
  · replace h := h.2 hh
    refine ww_iconst C.1 (v := (1 : Int32)) dX2_tell_272 (by decide) ?_
    refine ww_goto C.1 (tgt := 277) dX2_tell_273 (by decide) ?_
    refine ww_zret C.1 dX2_tell_277 rfl (Or.inr rfl) ?_
    exact h
set_option maxHeartbeats 4000000 in
set_option maxRecDepth 20000 in
theorem bX2_addRivalz_0 {X : CX} {Q : State → Prop} {M : Mem} {ga gb : Nat} {G2 : Grf} {T2 : List (Nat × Nat)} {x1 : Int32} (C : Ok0 X mX2_addRival (TTc ++ T2))
    (h : (((M 45 3) < (4 : Int32) → (vp_in (M 45 3) 4 ∧ RetOK X Q (some (.int (1 : Int32))) ((wr (wr M 56 (M 45 3).toNatClampNeg x1) 45 3 ((M 45 3) + (1 : Int32))), (gz ga gb G2), TTc ++ T2))) ∧ (¬ (M 45 3) < (4 : Int32) → RetOK X Q (some (.int (0 : Int32))) (M, (gz ga gb G2), TTc ++ T2)))) :
    WW X Q 0 [(0, .ref 45), (1, .int x1)] [] (M, (gz ga gb G2), TTc ++ T2) := by
  refine ww_aload_n C.1 dX2_addRival_0 0 rfl rfl ?_
  refine wt_getI C.1 dX2_addRival_1 flRX2_36 (tc45 T2) rfl ?_
  refine ww_iconst C.1 (v := (4 : Int32)) dX2_addRival_4 (by decide) ?_
  refine ww_icmp_lt (x := (M 45 3)) (y := (4 : Int32)) C.1 (tgt := 10) dX2_addRival_5 (by decide) (fun hh => ?_) (fun hh => ?_)
  · replace h := h.1 hh
    refine ww_aload_n C.1 dX2_addRival_10 0 rfl rfl ?_
    refine wt_getR C.1 dX2_addRival_11 flRX2_25 (tc45 T2) rfl rfl ?_
    refine ww_aload_n C.1 dX2_addRival_14 0 rfl rfl ?_
    refine wt_getI C.1 dX2_addRival_15 flRX2_36 (tc45 T2) rfl ?_
    refine ww_iload_n C.1 dX2_addRival_18 1 rfl rfl ?_
    refine wt_iast C.1 dX2_addRival_19 (tc56 T2) h.1 ?_
    replace h := h.2
    refine ww_aload_n C.1 dX2_addRival_20 0 rfl rfl ?_
    refine ww_dup C.1 dX2_addRival_21 rfl ?_
    refine wt_getI C.1 dX2_addRival_22 flRX2_36 (tc45 T2) rfl ?_
    refine ww_iconst C.1 (v := (1 : Int32)) dX2_addRival_25 (by decide) ?_
    refine ww_iadd C.1 dX2_addRival_26 ?_
    refine wt_putI C.1 dX2_addRival_27 flRX2_36 (tc45 T2) rfl ?_
    refine ww_iconst C.1 (v := (1 : Int32)) dX2_addRival_30 (by decide) ?_
    refine ww_zret C.1 dX2_addRival_31 rfl (Or.inr rfl) ?_
    exact h
  · replace h := h.2 hh
    refine ww_iconst C.1 (v := (0 : Int32)) dX2_addRival_8 (by decide) ?_
    refine ww_zret C.1 dX2_addRival_9 rfl (Or.inl rfl) ?_
    exact h
set_option maxHeartbeats 4000000 in
set_option maxRecDepth 20000 in
theorem bX7_readIntoz_0 {X : CX} {Q : State → Prop} {M : Mem} {ga gb : Nat} {G2 : Grf} {T2 : List (Nat × Nat)} (C : Ok0 X mX7_readInto (TTc ++ T2))
    (h : WpV mX2_clear [.ref 45] M (gz ga gb G2) (TTc ++ T2) (fun M' => WW X Q 4 [(0, .ref 1), (1, .ref 45)] [] (M', (gz ga gb G2), TTc ++ T2))) :
    WW X Q 0 [(0, .ref 1), (1, .ref 45)] [] (M, (gz ga gb G2), TTc ++ T2) := by
  refine ww_aload_n C.1 dX7_readInto_0 1 rfl rfl ?_
  refine ww_vV C fX2_clear (And.intro (by decide) (by decide)) mlRX7_23 dX7_readInto_1 (tc45 T2) (by decide) rfl (As := []) (rest := []) rfl rfl rfl (Nat.le_of_ble_eq_true rfl) ?_
  exact h
set_option maxHeartbeats 4000000 in
set_option maxRecDepth 20000 in
theorem bX7_readIntoz_8 {X : CX} {Q : State → Prop} {M : Mem} {ga gb : Nat} {G2 : Grf} {T2 : List (Nat × Nat)} {x2 x3 : Int32} (C : Ok0 X mX7_readInto (TTc ++ T2))
    (h : (((200 : Int32) ≤ x3 → RetOK X Q (some (.int (-4 : Int32))) (M, (gz ga gb G2), TTc ++ T2)) ∧ (¬ (200 : Int32) ≤ x3 → (((M 1 2) ≤ x2 → RetOK X Q (some (.int (-4 : Int32))) (M, (gz ga gb G2), TTc ++ T2)) ∧ (¬ (M 1 2) ≤ x2 → WpI mX7_readNumbers [.ref 1, .int (x2 + (1 : Int32))] M (gz ga gb G2) (TTc ++ T2) (fun r M' => WW X Q 30 [(0, .ref 1), (1, .ref 45), (2, .int x2), (3, .int x3)] [.int r] (M', (gz ga gb G2), TTc ++ T2))))))) :
    WW X Q 8 [(0, .ref 1), (1, .ref 45), (2, .int x2), (3, .int x3)] [] (M, (gz ga gb G2), TTc ++ T2) := by
  refine ww_iload_n C.1 dX7_readInto_8 3 rfl rfl ?_
  refine ww_sipush C.1 (v := (200 : Int32)) dX7_readInto_9 (by decide) ?_
  refine ww_icmp_ge (x := x3) (y := (200 : Int32)) C.1 (tgt := 83) dX7_readInto_12 (by decide) (fun hh => ?_) (fun hh => ?_)
  · replace h := h.1 hh
    refine ww_bipush C.1 (v := (-4 : Int32)) dX7_readInto_83 (by decide) ?_
    refine ww_iret C.1 dX7_readInto_85 rfl ?_
    exact h
  · replace h := h.2 hh
    refine ww_iload_n C.1 dX7_readInto_15 2 rfl rfl ?_
    refine ww_aload_n C.1 dX7_readInto_16 0 rfl rfl ?_
    refine wt_getI C.1 dX7_readInto_17 flRX7_19 (tc1 T2) rfl ?_
    refine ww_icmp_ge (x := x2) (y := (M 1 2)) C.1 (tgt := 83) dX7_readInto_20 (by decide) (fun hh => ?_) (fun hh => ?_)
    · replace h := h.1 hh
      refine ww_bipush C.1 (v := (-4 : Int32)) dX7_readInto_83 (by decide) ?_
      refine ww_iret C.1 dX7_readInto_85 rfl ?_
      exact h
    · replace h := h.2 hh
      refine ww_aload_n C.1 dX7_readInto_23 0 rfl rfl ?_
      refine ww_iload_n C.1 dX7_readInto_24 2 rfl rfl ?_
      refine ww_iconst C.1 (v := (1 : Int32)) dX7_readInto_25 (by decide) ?_
      refine ww_iadd C.1 dX7_readInto_26 ?_
      refine ww_vI C fX7_readNumbers (And.intro (by decide) (by decide)) mlRX7_28 dX7_readInto_27 (tc1 T2) (by decide) rfl (As := [.int (x2 + (1 : Int32))]) (rest := []) rfl rfl rfl (Nat.le_of_ble_eq_true rfl) ?_
      exact h
set_option maxHeartbeats 4000000 in
set_option maxRecDepth 20000 in
theorem bX7_readIntoz_4 {X : CX} {Q : State → Prop} {M : Mem} {ga gb : Nat} {G2 : Grf} {T2 : List (Nat × Nat)} (C : Ok0 X mX7_readInto (TTc ++ T2))
    (h : WW X Q 8 [(0, .ref 1), (1, .ref 45), (2, .int (0 : Int32)), (3, .int (0 : Int32))] [] (M, (gz ga gb G2), TTc ++ T2)) :
    WW X Q 4 [(0, .ref 1), (1, .ref 45)] [] (M, (gz ga gb G2), TTc ++ T2) := by
  refine ww_iconst C.1 (v := (0 : Int32)) dX7_readInto_4 (by decide) ?_
  refine ww_istore_n C.1 dX7_readInto_5 rfl (by decide) [1, 2, 0] (L' := [(0, .ref 1), (1, .ref 45), (2, .int (0 : Int32))]) rfl ?_
  refine ww_iconst C.1 (v := (0 : Int32)) dX7_readInto_6 (by decide) ?_
  refine ww_istore_n C.1 dX7_readInto_7 rfl (by decide) [1, 2, 3, 0] (L' := [(0, .ref 1), (1, .ref 45), (2, .int (0 : Int32)), (3, .int (0 : Int32))]) rfl ?_
  exact h
set_option maxHeartbeats 4000000 in
set_option maxRecDepth 20000 in
theorem bX7_readIntoz_30 {X : CX} {Q : State → Prop} {M : Mem} {ga gb : Nat} {G2 : Grf} {T2 : List (Nat × Nat)} {x2 x3 s0 : Int32} (C : Ok0 X mX7_readInto (TTc ++ T2))
    (h : ((s0 = (-1 : Int32) → RetOK X Q (some (.int x2)) (M, (gz ga gb G2), TTc ++ T2)) ∧ (¬ s0 = (-1 : Int32) → WpI mX7_letterAt [.ref 1, .int x2] M (gz ga gb G2) (TTc ++ T2) (fun r M' => WW X Q 44 [(0, .ref 1), (1, .ref 45), (2, .int x2), (3, .int x3), (4, .int s0)] [.int r, .ref 45] (M', (gz ga gb G2), TTc ++ T2))))) :
    WW X Q 30 [(0, .ref 1), (1, .ref 45), (2, .int x2), (3, .int x3)] [.int s0] (M, (gz ga gb G2), TTc ++ T2) := by
  refine ww_istore C.1 dX7_readInto_30 (by decide) [1, 2, 3, 4, 0] (L' := [(0, .ref 1), (1, .ref 45), (2, .int x2), (3, .int x3), (4, .int s0)]) rfl ?_
  refine ww_iload C.1 dX7_readInto_32 4 rfl ?_
  refine ww_iconst C.1 (v := (-1 : Int32)) dX7_readInto_34 (by decide) ?_
  refine ww_icmp_eq (x := s0) (y := (-1 : Int32)) C.1 (tgt := 72) dX7_readInto_35 (by decide) (fun hh => ?_) (fun hh => ?_)
  · replace h := h.1 hh
    refine ww_iload_n C.1 dX7_readInto_72 2 rfl rfl ?_
    refine ww_iret C.1 dX7_readInto_73 rfl ?_
    exact h
  · replace h := h.2 hh
    refine ww_aload_n C.1 dX7_readInto_38 1 rfl rfl ?_
    refine ww_aload_n C.1 dX7_readInto_39 0 rfl rfl ?_
    refine ww_iload_n C.1 dX7_readInto_40 2 rfl rfl ?_
    refine ww_vI C fX7_letterAt (And.intro (by decide) (by decide)) mlRX7_32 dX7_readInto_41 (tc1 T2) (by decide) rfl (As := [.int x2]) (rest := [.ref 45]) rfl rfl rfl (Nat.le_of_ble_eq_true rfl) ?_
    exact h
set_option maxHeartbeats 4000000 in
set_option maxRecDepth 20000 in
theorem bX7_readIntoz_44 {X : CX} {Q : State → Prop} {M : Mem} {ga gb : Nat} {G2 : Grf} {T2 : List (Nat × Nat)} {x2 x3 x4 s1 : Int32} (C : Ok0 X mX7_readInto (TTc ++ T2))
    (h : WpI mX2_tell [.ref 45, .int s1, .int (M 1 3), .int (M 3 0), .int (M 3 1), .int (M 3 2)] M (gz ga gb G2) (TTc ++ T2) (fun r M' => WW X Q 69 [(0, .ref 1), (1, .ref 45), (2, .int x2), (3, .int x3), (4, .int x4)] [.int r] (M', (gz ga gb G2), TTc ++ T2))) :
    WW X Q 44 [(0, .ref 1), (1, .ref 45), (2, .int x2), (3, .int x3), (4, .int x4)] [.int s1, .ref 45] (M, (gz ga gb G2), TTc ++ T2) := by
  refine ww_aload_n C.1 dX7_readInto_44 0 rfl rfl ?_
  refine wt_getI C.1 dX7_readInto_45 flRX7_35 (tc1 T2) rfl ?_
  refine ww_aload_n C.1 dX7_readInto_48 0 rfl rfl ?_
  refine wt_getR C.1 dX7_readInto_49 flRX7_15 (tc1 T2) rfl rfl ?_
  refine ww_iconst C.1 (v := (0 : Int32)) dX7_readInto_52 (by decide) ?_
  refine wt_iald C.1 dX7_readInto_53 (tc3 T2) (vp_lit (by decide) (by decide)) ?_
  refine ww_aload_n C.1 dX7_readInto_54 0 rfl rfl ?_
  refine wt_getR C.1 dX7_readInto_55 flRX7_15 (tc1 T2) rfl rfl ?_
  refine ww_iconst C.1 (v := (1 : Int32)) dX7_readInto_58 (by decide) ?_
  refine wt_iald C.1 dX7_readInto_59 (tc3 T2) (vp_lit (by decide) (by decide)) ?_
  refine ww_aload_n C.1 dX7_readInto_60 0 rfl rfl ?_
  refine wt_getR C.1 dX7_readInto_61 flRX7_15 (tc1 T2) rfl rfl ?_
  refine ww_iconst C.1 (v := (2 : Int32)) dX7_readInto_64 (by decide) ?_
  refine wt_iald C.1 dX7_readInto_65 (tc3 T2) (vp_lit (by decide) (by decide)) ?_
  refine ww_vI C fX2_tell (And.intro (by decide) (by decide)) mlRX7_38 dX7_readInto_66 (tc45 T2) (by decide) rfl (As := [.int s1, .int (M 1 3), .int (M 3 0), .int (M 3 1), .int (M 3 2)]) (rest := []) rfl rfl rfl (Nat.le_of_ble_eq_true rfl) ?_
  exact h
set_option maxHeartbeats 4000000 in
set_option maxRecDepth 20000 in
theorem bX7_readIntoz_69 {X : CX} {Q : State → Prop} {M : Mem} {ga gb : Nat} {G2 : Grf} {T2 : List (Nat × Nat)} {x2 x3 x4 s0 : Int32} (C : Ok0 X mX7_readInto (TTc ++ T2))
    (h : ((¬ s0 = (0 : Int32) → WW X Q 8 [(0, .ref 1), (1, .ref 45), (2, .int x4), (3, .int (x3 + (1 : Int32)))] [] (M, (gz ga gb G2), TTc ++ T2)) ∧ (s0 = (0 : Int32) → RetOK X Q (some (.int x2)) (M, (gz ga gb G2), TTc ++ T2)))) :
    WW X Q 69 [(0, .ref 1), (1, .ref 45), (2, .int x2), (3, .int x3), (4, .int x4)] [.int s0] (M, (gz ga gb G2), TTc ++ T2) := by
  refine ww_if_ne (x := s0) C.1 (tgt := 74) dX7_readInto_69 (by decide) (fun hh => ?_) (fun hh => ?_)
  · replace h := h.1 hh
    refine ww_iload C.1 dX7_readInto_74 4 rfl ?_
    refine ww_istore_n C.1 dX7_readInto_76 rfl (by decide) [1, 2, 0, 3, 4] (L' := [(0, .ref 1), (1, .ref 45), (2, .int x4), (3, .int x3), (4, .int x4)]) rfl ?_
    refine ww_iinc C.1 (v := (x3 + (1 : Int32))) dX7_readInto_77 3 rfl (by rfl) (by decide) [1, 2, 3, 0, 4] (L' := [(0, .ref 1), (1, .ref 45), (2, .int x4), (3, .int (x3 + (1 : Int32))), (4, .int x4)]) rfl ?_
    refine ww_goto C.1 (tgt := 8) dX7_readInto_80 (by decide) ?_
    refine ww_loc [0, 1, 2, 3] (L' := [(0, .ref 1), (1, .ref 45), (2, .int x4), (3, .int (x3 + (1 : Int32)))]) rfl ?_
    exact h
  · replace h := h.2 hh
    refine ww_iload_n C.1 dX7_readInto_72 2 rfl rfl ?_
    refine ww_iret C.1 dX7_readInto_73 rfl ?_
    exact h
