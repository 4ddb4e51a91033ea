set_option maxHeartbeats 4000000 in
set_option maxRecDepth 20000 in
theorem bX10_fault_0 {X : CX} {Q : State → Prop} {M : Mem} (C : Ok0 X mX10_fault (TTc ++ TTm))
    (h : WW X Q 32 [(0, .ref 57), (1, .int (0 : Int32))] [] ((wr (wr (wr (wr (wr (wr M 57 14 (0 : Int32)) 57 18 (0 : Int32)) 57 20 (0 : Int32)) 57 23 (0 : Int32)) 57 25 (0 : Int32)) 57 26 (1 : Int32)), (gj gm), TTc ++ TTm)) :
    WW X Q 0 [(0, .ref 57)] [] (M, (gj gm), TTc ++ TTm) := by
  refine ww_aload_n C.1 dX10_fault_0 0 rfl rfl ?_
  refine ww_iconst C.1 (v := (0 : Int32)) dX10_fault_1 (by decide) ?_
  refine wt_putI C.1 dX10_fault_2 flRX10_114 tm57 rfl ?_
  refine ww_aload_n C.1 dX10_fault_5 0 rfl rfl ?_
  refine ww_iconst C.1 (v := (0 : Int32)) dX10_fault_6 (by decide) ?_
  refine wt_putI C.1 dX10_fault_7 flRX10_135 tm57 rfl ?_
  refine ww_aload_n C.1 dX10_fault_10 0 rfl rfl ?_
  refine ww_iconst C.1 (v := (0 : Int32)) dX10_fault_11 (by decide) ?_
  refine wt_putI C.1 dX10_fault_12 flRX10_140 tm57 rfl ?_
  refine ww_aload_n C.1 dX10_fault_15 0 rfl rfl ?_
  refine ww_iconst C.1 (v := (0 : Int32)) dX10_fault_16 (by decide) ?_
  refine wt_putI C.1 dX10_fault_17 flRX10_145 tm57 rfl ?_
  refine ww_aload_n C.1 dX10_fault_20 0 rfl rfl ?_
  refine ww_iconst C.1 (v := (0 : Int32)) dX10_fault_21 (by decide) ?_
  refine wt_putI C.1 dX10_fault_22 flRX10_153 tm57 rfl ?_
  refine ww_aload_n C.1 dX10_fault_25 0 rfl rfl ?_
  refine ww_iconst C.1 (v := (1 : Int32)) dX10_fault_26 (by decide) ?_
  refine wt_putI C.1 dX10_fault_27 flRX10_150 tm57 rfl ?_
  refine ww_iconst C.1 (v := (0 : Int32)) dX10_fault_30 (by decide) ?_
  refine ww_istore_n C.1 dX10_fault_31 rfl (by decide) [1, 0] (L' := [(0, .ref 57), (1, .int (0 : Int32))]) rfl ?_
  exact h
set_option maxHeartbeats 4000000 in
set_option maxRecDepth 20000 in
theorem bX10_fault_32 {X : CX} {Q : State → Prop} {M : Mem} {x1 : Int32} (C : Ok0 X mX10_fault (TTc ++ TTm))
    (h : (((30 : Int32) ≤ x1 → WW X Q 53 [(0, .ref 57), (1, .int (0 : Int32))] [] (M, (gj gm), TTc ++ TTm)) ∧ (¬ (30 : Int32) ≤ x1 → (vp_in x1 30 ∧ WW X Q 32 [(0, .ref 57), (1, .int (x1 + (1 : Int32)))] [] ((wr M 68 x1.toNatClampNeg (0 : Int32)), (gj gm), TTc ++ TTm))))) :
    WW X Q 32 [(0, .ref 57), (1, .int x1)] [] (M, (gj gm), TTc ++ TTm) := by
  refine ww_iload_n C.1 dX10_fault_32 1 rfl rfl ?_
  refine ww_bipush C.1 (v := (30 : Int32)) dX10_fault_33 (by decide) ?_
  refine ww_icmp_ge (x := x1) (y := (30 : Int32)) C.1 (tgt := 51) dX10_fault_35 (by decide) (fun hh => ?_) (fun hh => ?_)
  · replace h := h.1 hh
    refine ww_iconst C.1 (v := (0 : Int32)) dX10_fault_51 (by decide) ?_
    refine ww_istore_n C.1 dX10_fault_52 rfl (by decide) [1, 0] (L' := [(0, .ref 57), (1, .int (0 : Int32))]) rfl ?_
    exact h
  · replace h := h.2 hh
    refine ww_aload_n C.1 dX10_fault_38 0 rfl rfl ?_
    refine wt_getR C.1 dX10_fault_39 flRX10_50 tm57 rfl gm57_19 ?_
    refine ww_iload_n C.1 dX10_fault_42 1 rfl rfl ?_
    refine ww_iconst C.1 (v := (0 : Int32)) dX10_fault_43 (by decide) ?_
    refine wt_iast C.1 dX10_fault_44 tm68 h.1 ?_
    replace h := h.2
    refine ww_iinc C.1 (v := (x1 + (1 : Int32))) dX10_fault_45 1 rfl (by rfl) (by decide) [1, 0] (L' := [(0, .ref 57), (1, .int (x1 + (1 : Int32)))]) rfl ?_
    refine ww_goto C.1 (tgt := 32) dX10_fault_48 (by decide) ?_
    exact h
set_option maxHeartbeats 4000000 in
set_option maxRecDepth 20000 in
theorem bX10_fault_53 {X : CX} {Q : State → Prop} {M : Mem} {x1 : Int32} (C : Ok0 X mX10_fault (TTc ++ TTm))
    (h : (((7 : Int32) ≤ x1 → WW X Q 72 [(0, .ref 57), (1, .int x1)] [] (M, (gj gm), TTc ++ TTm)) ∧ (¬ (7 : Int32) ≤ x1 → (vp_in x1 7 ∧ WW X Q 53 [(0, .ref 57), (1, .int (x1 + (1 : Int32)))] [] ((wr M 70 x1.toNatClampNeg (0 : Int32)), (gj gm), TTc ++ TTm))))) :
    WW X Q 53 [(0, .ref 57), (1, .int x1)] [] (M, (gj gm), TTc ++ TTm) := by
  refine ww_iload_n C.1 dX10_fault_53 1 rfl rfl ?_
  refine ww_bipush C.1 (v := (7 : Int32)) dX10_fault_54 (by decide) ?_
  refine ww_icmp_ge (x := x1) (y := (7 : Int32)) C.1 (tgt := 72) dX10_fault_56 (by decide) (fun hh => ?_) (fun hh => ?_)
  · replace h := h.1 hh
    exact h
  · replace h := h.2 hh
    refine ww_aload_n C.1 dX10_fault_59 0 rfl rfl ?_
    refine wt_getR C.1 dX10_fault_60 flRX10_56 tm57 rfl gm57_22 ?_
    refine ww_iload_n C.1 dX10_fault_63 1 rfl rfl ?_
    refine ww_iconst C.1 (v := (0 : Int32)) dX10_fault_64 (by decide) ?_
    refine wt_iast C.1 dX10_fault_65 tm70 h.1 ?_
    replace h := h.2
    refine ww_iinc C.1 (v := (x1 + (1 : Int32))) dX10_fault_66 1 rfl (by rfl) (by decide) [1, 0] (L' := [(0, .ref 57), (1, .int (x1 + (1 : Int32)))]) rfl ?_
    refine ww_goto C.1 (tgt := 53) dX10_fault_69 (by decide) ?_
    exact h
set_option maxHeartbeats 4000000 in
set_option maxRecDepth 20000 in
theorem bX10_fault_72 {X : CX} {Q : State → Prop} {M : Mem} {x1 : Int32} (C : Ok0 X mX10_fault (TTc ++ TTm))
    (h : (((M 57 13) ≤ (M 57 14) → RetOK X Q (some (.int (-4 : Int32))) (M, (gj gm), TTc ++ TTm)) ∧ (¬ (M 57 13) ≤ (M 57 14) → WpI mX10_readItem [.ref 57] M (gj gm) (TTc ++ TTm) (fun r M' => WW X Q 92 [(0, .ref 57), (1, .int (M 57 14))] [.int r] (M', (gj gm), TTc ++ TTm))))) :
    WW X Q 72 [(0, .ref 57), (1, .int x1)] [] (M, (gj gm), TTc ++ TTm) := by
  refine ww_aload_n C.1 dX10_fault_72 0 rfl rfl ?_
  refine wt_getI C.1 dX10_fault_73 flRX10_114 tm57 rfl ?_
  refine ww_aload_n C.1 dX10_fault_76 0 rfl rfl ?_
  refine wt_getI C.1 dX10_fault_77 flRX10_111 tm57 rfl ?_
  refine ww_icmp_ge (x := (M 57 14)) (y := (M 57 13)) C.1 (tgt := 100) dX10_fault_80 (by decide) (fun hh => ?_) (fun hh => ?_)
  · replace h := h.1 hh
    refine ww_bipush C.1 (v := (-4 : Int32)) dX10_fault_100 (by decide) ?_
    refine ww_iret C.1 dX10_fault_102 rfl ?_
    exact h
  · replace h := h.2 hh
    refine ww_aload_n C.1 dX10_fault_83 0 rfl rfl ?_
    refine wt_getI C.1 dX10_fault_84 flRX10_114 tm57 rfl ?_
    refine ww_istore_n C.1 dX10_fault_87 rfl (by decide) [1, 0] (L' := [(0, .ref 57), (1, .int (M 57 14))]) rfl ?_
    refine ww_aload_n C.1 dX10_fault_88 0 rfl rfl ?_
    refine ww_vI C fX10_readItem (And.intro (by decide) (by decide)) mlRX10_156 dX10_fault_89 tm57 (by decide) rfl (As := []) (rest := []) rfl rfl rfl (Nat.le_of_ble_eq_true rfl) ?_
    exact h
set_option maxHeartbeats 4000000 in
set_option maxRecDepth 20000 in
theorem bX10_fault_92 {X : CX} {Q : State → Prop} {M : Mem} {x1 s0 : Int32} (C : Ok0 X mX10_fault (TTc ++ TTm))
    (h : ((¬ s0 = (0 : Int32) → WW X Q 72 [(0, .ref 57), (1, .int x1)] [] (M, (gj gm), TTc ++ TTm)) ∧ (s0 = (0 : Int32) → RetOK X Q (some (.int x1)) (M, (gj gm), TTc ++ TTm)))) :
    WW X Q 92 [(0, .ref 57), (1, .int x1)] [.int s0] (M, (gj gm), TTc ++ TTm) := by
  refine ww_if_ne (x := s0) C.1 (tgt := 97) dX10_fault_92 (by decide) (fun hh => ?_) (fun hh => ?_)
  · replace h := h.1 hh
    refine ww_goto C.1 (tgt := 72) dX10_fault_97 (by decide) ?_
    exact h
  · replace h := h.2 hh
    refine ww_iload_n C.1 dX10_fault_95 1 rfl rfl ?_
    refine ww_iret C.1 dX10_fault_96 rfl ?_
    exact h
set_option maxHeartbeats 4000000 in
set_option maxRecDepth 20000 in
theorem bX10_lay_0 {X : CX} {Q : State → Prop} {M : Mem} (C : Ok0 X mX10_lay (TTc ++ TTm))
    (h : WpI mX10_fault [.ref 57] M (gj gm) (TTc ++ TTm) (fun r M' => WW X Q 4 [(0, .ref 57)] [.int r] (M', (gj gm), TTc ++ TTm))) :
    WW X Q 0 [(0, .ref 57)] [] (M, (gj gm), TTc ++ TTm) := by
  refine ww_aload_n C.1 dX10_lay_0 0 rfl rfl ?_
  refine ww_vI C fX10_fault (And.intro (by decide) (by decide)) mlRX10_160 dX10_lay_1 tm57 (by decide) rfl (As := []) (rest := []) rfl rfl rfl (Nat.le_of_ble_eq_true rfl) ?_
  exact h
set_option maxHeartbeats 4000000 in
set_option maxRecDepth 20000 in
theorem bX10_lay_68 {X : CX} {Q : State → Prop} {M : Mem} {x1 : Int32} (C : Ok0 X mX10_lay (TTc ++ TTm))
    (h : (((4 : Int32) ≤ x1 → WW X Q 105 [(0, .ref 57), (1, .int (0 : Int32))] [] (M, (gj gm), TTc ++ TTm)) ∧ (¬ (4 : Int32) ≤ x1 → (vp_in x1 4 ∧ (vp_in x1 4 ∧ (vp_in x1 4 ∧ (vp_in x1 4 ∧ WW X Q 68 [(0, .ref 57), (1, .int (x1 + (1 : Int32)))] [] ((wr (wr M 58 x1.toNatClampNeg (M 67 x1.toNatClampNeg)) 63 x1.toNatClampNeg (M 71 x1.toNatClampNeg)), (gj gm), TTc ++ TTm)))))))) :
    WW X Q 68 [(0, .ref 57), (1, .int x1)] [] (M, (gj gm), TTc ++ TTm) := by
  refine ww_iload_n C.1 dX10_lay_68 1 rfl rfl ?_
  refine ww_iconst C.1 (v := (4 : Int32)) dX10_lay_69 (by decide) ?_
  refine ww_icmp_ge (x := x1) (y := (4 : Int32)) C.1 (tgt := 103) dX10_lay_70 (by decide) (fun hh => ?_) (fun hh => ?_)
  · replace h := h.1 hh
    refine ww_iconst C.1 (v := (0 : Int32)) dX10_lay_103 (by decide) ?_
    refine ww_istore_n C.1 dX10_lay_104 rfl (by decide) [1, 0] (L' := [(0, .ref 57), (1, .int (0 : Int32))]) rfl ?_
    exact h
  · replace h := h.2 hh
    refine ww_aload_n C.1 dX10_lay_73 0 rfl rfl ?_
    refine wt_getR C.1 dX10_lay_74 flRX10_7 tm57 rfl gm57_0 ?_
    refine ww_iload_n C.1 dX10_lay_77 1 rfl rfl ?_
    refine ww_aload_n C.1 dX10_lay_78 0 rfl rfl ?_
    refine wt_getR C.1 dX10_lay_79 flRX10_47 tm57 rfl gm57_17 ?_
    refine ww_iload_n C.1 dX10_lay_82 1 rfl rfl ?_
    refine wt_iald C.1 dX10_lay_83 tm67 h.1 ?_
    replace h := h.2
    refine wt_iast C.1 dX10_lay_84 tm58 h.1 ?_
    replace h := h.2
    refine ww_aload_n C.1 dX10_lay_85 0 rfl rfl ?_
    refine wt_getR C.1 dX10_lay_86 flRX10_32 tm57 rfl gm57_8 ?_
    refine ww_iload_n C.1 dX10_lay_89 1 rfl rfl ?_
    refine ww_aload_n C.1 dX10_lay_90 0 rfl rfl ?_
    refine wt_getR C.1 dX10_lay_91 flRX10_59 tm57 rfl gm57_24 ?_
    refine ww_iload_n C.1 dX10_lay_94 1 rfl rfl ?_
    refine wt_iald C.1 dX10_lay_95 tm71 h.1 ?_
    replace h := h.2
    refine wt_iast C.1 dX10_lay_96 tm63 h.1 ?_
    replace h := h.2
    refine ww_iinc C.1 (v := (x1 + (1 : Int32))) dX10_lay_97 1 rfl (by rfl) (by decide) [1, 0] (L' := [(0, .ref 57), (1, .int (x1 + (1 : Int32)))]) rfl ?_
    refine ww_goto C.1 (tgt := 68) dX10_lay_100 (by decide) ?_
    exact h
set_option maxHeartbeats 4000000 in
set_option maxRecDepth 20000 in
theorem bX10_lay_105 {X : CX} {Q : State → Prop} {M : Mem} {x1 : Int32} (C : Ok0 X mX10_lay (TTc ++ TTm))
    (h : (((30 : Int32) ≤ x1 → WW X Q 131 [(0, .ref 57), (1, .int (0 : Int32))] [] (M, (gj gm), TTc ++ TTm)) ∧ (¬ (30 : Int32) ≤ x1 → (vp_in x1 30 ∧ (vp_in x1 30 ∧ WW X Q 105 [(0, .ref 57), (1, .int (x1 + (1 : Int32)))] [] ((wr M 59 x1.toNatClampNeg (M 68 x1.toNatClampNeg)), (gj gm), TTc ++ TTm)))))) :
    WW X Q 105 [(0, .ref 57), (1, .int x1)] [] (M, (gj gm), TTc ++ TTm) := by
  refine ww_iload_n C.1 dX10_lay_105 1 rfl rfl ?_
  refine ww_bipush C.1 (v := (30 : Int32)) dX10_lay_106 (by decide) ?_
  refine ww_icmp_ge (x := x1) (y := (30 : Int32)) C.1 (tgt := 129) dX10_lay_108 (by decide) (fun hh => ?_) (fun hh => ?_)
  · replace h := h.1 hh
    refine ww_iconst C.1 (v := (0 : Int32)) dX10_lay_129 (by decide) ?_
    refine ww_istore_n C.1 dX10_lay_130 rfl (by decide) [1, 0] (L' := [(0, .ref 57), (1, .int (0 : Int32))]) rfl ?_
    exact h
  · replace h := h.2 hh
    refine ww_aload_n C.1 dX10_lay_111 0 rfl rfl ?_
    refine wt_getR C.1 dX10_lay_112 flRX10_17 tm57 rfl gm57_2 ?_
    refine ww_iload_n C.1 dX10_lay_115 1 rfl rfl ?_
    refine ww_aload_n C.1 dX10_lay_116 0 rfl rfl ?_
    refine wt_getR C.1 dX10_lay_117 flRX10_50 tm57 rfl gm57_19 ?_
    refine ww_iload_n C.1 dX10_lay_120 1 rfl rfl ?_
    refine wt_iald C.1 dX10_lay_121 tm68 h.1 ?_
    replace h := h.2
    refine wt_iast C.1 dX10_lay_122 tm59 h.1 ?_
    replace h := h.2
    refine ww_iinc C.1 (v := (x1 + (1 : Int32))) dX10_lay_123 1 rfl (by rfl) (by decide) [1, 0] (L' := [(0, .ref 57), (1, .int (x1 + (1 : Int32)))]) rfl ?_
    refine ww_goto C.1 (tgt := 105) dX10_lay_126 (by decide) ?_
    exact h
set_option maxHeartbeats 4000000 in
set_option maxRecDepth 20000 in
theorem bX10_lay_131 {X : CX} {Q : State → Prop} {M : Mem} {x1 : Int32} (C : Ok0 X mX10_lay (TTc ++ TTm))
    (h : (((7 : Int32) ≤ x1 → RetOK X Q (some (.int (M 57 7))) ((wr (wr (wr M 57 35 (0 : Int32)) 57 39 (0 : Int32)) 57 43 (0 : Int32)), (gj gm), TTc ++ TTm)) ∧ (¬ (7 : Int32) ≤ x1 → (vp_in ((3 : Int32) * x1) 21 ∧ (vp_in x1 7 ∧ (vp_in (((3 : Int32) * x1) + (2 : Int32)) 21 ∧ (vp_in x1 7 ∧ (vp_in x1 7 ∧ (vp_in x1 7 ∧ (vp_in x1 21 ∧ (vp_in ((7 : Int32) + x1) 21 ∧ (vp_in (((3 : Int32) * x1) + (1 : Int32)) 21 ∧ (vp_in ((14 : Int32) + x1) 21 ∧ WW X Q 131 [(0, .ref 57), (1, .int (x1 + (1 : Int32)))] [] ((wr (wr (wr (wr (wr (wr M 60 x1.toNatClampNeg (M 69 ((3 : Int32) * x1).toNatClampNeg)) 61 x1.toNatClampNeg (M 69 (((3 : Int32) * x1) + (2 : Int32)).toNatClampNeg)) 62 x1.toNatClampNeg (M 70 x1.toNatClampNeg)) 64 x1.toNatClampNeg x1) 64 ((7 : Int32) + x1).toNatClampNeg (0 : Int32)) 64 ((14 : Int32) + x1).toNatClampNeg (M 69 (((3 : Int32) * x1) + (1 : Int32)).toNatClampNeg)), (gj gm), TTc ++ TTm)))))))))))))) :
    WW X Q 131 [(0, .ref 57), (1, .int x1)] [] (M, (gj gm), TTc ++ TTm) := by
  refine ww_iload_n C.1 dX10_lay_131 1 rfl rfl ?_
  refine ww_bipush C.1 (v := (7 : Int32)) dX10_lay_132 (by decide) ?_
  refine ww_icmp_ge (x := x1) (y := (7 : Int32)) C.1 (tgt := 221) dX10_lay_134 (by decide) (fun hh => ?_) (fun hh => ?_)
  · replace h := h.1 hh
    refine ww_aload_n C.1 dX10_lay_221 0 rfl rfl ?_
    refine ww_iconst C.1 (v := (0 : Int32)) dX10_lay_222 (by decide) ?_
    refine wt_putI C.1 dX10_lay_223 flRX10_170 tm57 rfl ?_
    refine ww_aload_n C.1 dX10_lay_226 0 rfl rfl ?_
    refine ww_iconst C.1 (v := (0 : Int32)) dX10_lay_227 (by decide) ?_
    refine wt_putI C.1 dX10_lay_228 flRX10_173 tm57 rfl ?_
    refine ww_aload_n C.1 dX10_lay_231 0 rfl rfl ?_
    refine ww_iconst C.1 (v := (0 : Int32)) dX10_lay_232 (by decide) ?_
    refine wt_putI C.1 dX10_lay_233 flRX10_176 tm57 rfl ?_
    refine ww_aload_n C.1 dX10_lay_236 0 rfl rfl ?_
    refine wt_getI C.1 dX10_lay_237 flRX10_29 tm57 rfl ?_
    refine ww_iret C.1 dX10_lay_240 rfl ?_
    exact h
  · replace h := h.2 hh
    refine ww_aload_n C.1 dX10_lay_137 0 rfl rfl ?_
    refine wt_getR C.1 dX10_lay_138 flRX10_20 tm57 rfl gm57_4 ?_
    refine ww_iload_n C.1 dX10_lay_141 1 rfl rfl ?_
    refine ww_aload_n C.1 dX10_lay_142 0 rfl rfl ?_
    refine wt_getR C.1 dX10_lay_143 flRX10_53 tm57 rfl gm57_21 ?_
    refine ww_iconst C.1 (v := (3 : Int32)) dX10_lay_146 (by decide) ?_
    refine ww_iload_n C.1 dX10_lay_147 1 rfl rfl ?_
    refine ww_imul C.1 dX10_lay_148 ?_
    refine wt_iald C.1 dX10_lay_149 tm69 h.1 ?_
    replace h := h.2
    refine wt_iast C.1 dX10_lay_150 tm60 h.1 ?_
    replace h := h.2
    refine ww_aload_n C.1 dX10_lay_151 0 rfl rfl ?_
    refine wt_getR C.1 dX10_lay_152 flRX10_23 tm57 rfl gm57_5 ?_
    refine ww_iload_n C.1 dX10_lay_155 1 rfl rfl ?_
    refine ww_aload_n C.1 dX10_lay_156 0 rfl rfl ?_
    refine wt_getR C.1 dX10_lay_157 flRX10_53 tm57 rfl gm57_21 ?_
    refine ww_iconst C.1 (v := (3 : Int32)) dX10_lay_160 (by decide) ?_
    refine ww_iload_n C.1 dX10_lay_161 1 rfl rfl ?_
    refine ww_imul C.1 dX10_lay_162 ?_
    refine ww_iconst C.1 (v := (2 : Int32)) dX10_lay_163 (by decide) ?_
    refine ww_iadd C.1 dX10_lay_164 ?_
    refine wt_iald C.1 dX10_lay_165 tm69 h.1 ?_
    replace h := h.2
    refine wt_iast C.1 dX10_lay_166 tm61 h.1 ?_
    replace h := h.2
    refine ww_aload_n C.1 dX10_lay_167 0 rfl rfl ?_
    refine wt_getR C.1 dX10_lay_168 flRX10_26 tm57 rfl gm57_6 ?_
    refine ww_iload_n C.1 dX10_lay_171 1 rfl rfl ?_
    refine ww_aload_n C.1 dX10_lay_172 0 rfl rfl ?_
    refine wt_getR C.1 dX10_lay_173 flRX10_56 tm57 rfl gm57_22 ?_
    refine ww_iload_n C.1 dX10_lay_176 1 rfl rfl ?_
    refine wt_iald C.1 dX10_lay_177 tm70 h.1 ?_
    replace h := h.2
    refine wt_iast C.1 dX10_lay_178 tm62 h.1 ?_
    replace h := h.2
    refine ww_aload_n C.1 dX10_lay_179 0 rfl rfl ?_
    refine wt_getR C.1 dX10_lay_180 flRX10_38 tm57 rfl gm57_11 ?_
    refine ww_iload_n C.1 dX10_lay_183 1 rfl rfl ?_
    refine ww_iload_n C.1 dX10_lay_184 1 rfl rfl ?_
    refine wt_iast C.1 dX10_lay_185 tm64 h.1 ?_
    replace h := h.2
    refine ww_aload_n C.1 dX10_lay_186 0 rfl rfl ?_
    refine wt_getR C.1 dX10_lay_187 flRX10_38 tm57 rfl gm57_11 ?_
    refine ww_bipush C.1 (v := (7 : Int32)) dX10_lay_190 (by decide) ?_
    refine ww_iload_n C.1 dX10_lay_192 1 rfl rfl ?_
    refine ww_iadd C.1 dX10_lay_193 ?_
    refine ww_iconst C.1 (v := (0 : Int32)) dX10_lay_194 (by decide) ?_
    refine wt_iast C.1 dX10_lay_195 tm64 h.1 ?_
    replace h := h.2
    refine ww_aload_n C.1 dX10_lay_196 0 rfl rfl ?_
    refine wt_getR C.1 dX10_lay_197 flRX10_38 tm57 rfl gm57_11 ?_
    refine ww_bipush C.1 (v := (14 : Int32)) dX10_lay_200 (by decide) ?_
    refine ww_iload_n C.1 dX10_lay_202 1 rfl rfl ?_
    refine ww_iadd C.1 dX10_lay_203 ?_
    refine ww_aload_n C.1 dX10_lay_204 0 rfl rfl ?_
    refine wt_getR C.1 dX10_lay_205 flRX10_53 tm57 rfl gm57_21 ?_
    refine ww_iconst C.1 (v := (3 : Int32)) dX10_lay_208 (by decide) ?_
    refine ww_iload_n C.1 dX10_lay_209 1 rfl rfl ?_
    refine ww_imul C.1 dX10_lay_210 ?_
    refine ww_iconst C.1 (v := (1 : Int32)) dX10_lay_211 (by decide) ?_
    refine ww_iadd C.1 dX10_lay_212 ?_
    refine wt_iald C.1 dX10_lay_213 tm69 h.1 ?_
    replace h := h.2
    refine wt_iast C.1 dX10_lay_214 tm64 h.1 ?_
    replace h := h.2
    refine ww_iinc C.1 (v := (x1 + (1 : Int32))) dX10_lay_215 1 rfl (by rfl) (by decide) [1, 0] (L' := [(0, .ref 57), (1, .int (x1 + (1 : Int32)))]) rfl ?_
    refine ww_goto C.1 (tgt := 131) dX10_lay_218 (by decide) ?_
    exact h
set_option maxHeartbeats 4000000 in
set_option maxRecDepth 20000 in
theorem bX10_lay_4 {X : CX} {Q : State → Prop} {M : Mem} {s0 : Int32} (C : Ok0 X mX10_lay (TTc ++ TTm))
    (h : ((¬ s0 = (-4 : Int32) → RetOK X Q (some (.int (-2 : Int32))) (M, (gj gm), TTc ++ TTm)) ∧ (s0 = (-4 : Int32) → (((M 57 18) = (0 : Int32) → RetOK X Q (some (.int (-2 : Int32))) (M, (gj gm), TTc ++ TTm)) ∧ (¬ (M 57 18) = (0 : Int32) → ((¬ (M 57 23) = (0 : Int32) → WW X Q 68 [(0, .ref 57), (1, .int (0 : Int32))] [] ((wr (wr (wr (wr (wr M 57 1 (M 57 18)) 57 7 (M 57 23)) 57 3 (M 57 20)) 57 9 (M 57 25)) 57 10 (M 57 26)), (gj gm), TTc ++ TTm)) ∧ ((M 57 23) = (0 : Int32) → RetOK X Q (some (.int (-2 : Int32))) (M, (gj gm), TTc ++ TTm)))))))) :
    WW X Q 4 [(0, .ref 57)] [.int s0] (M, (gj gm), TTc ++ TTm) := by
  refine ww_bipush C.1 (v := (-4 : Int32)) dX10_lay_4 (by decide) ?_
  refine ww_icmp_ne (x := s0) (y := (-4 : Int32)) C.1 (tgt := 23) dX10_lay_6 (by decide) (fun hh => ?_) (fun hh => ?_)
  · replace h := h.1 hh
    refine ww_bipush C.1 (v := (-2 : Int32)) dX10_lay_23 (by decide) ?_
    refine ww_iret C.1 dX10_lay_25 rfl ?_
    exact h
  · replace h := h.2 hh
    refine ww_aload_n C.1 dX10_lay_9 0 rfl rfl ?_
    refine wt_getI C.1 dX10_lay_10 flRX10_135 tm57 rfl ?_
    refine ww_if_eq (x := (M 57 18)) C.1 (tgt := 23) dX10_lay_13 (by decide) (fun hh => ?_) (fun hh => ?_)
    · replace h := h.1 hh
      refine ww_bipush C.1 (v := (-2 : Int32)) dX10_lay_23 (by decide) ?_
      refine ww_iret C.1 dX10_lay_25 rfl ?_
      exact h
    · replace h := h.2 hh
      refine ww_aload_n C.1 dX10_lay_16 0 rfl rfl ?_
      refine wt_getI C.1 dX10_lay_17 flRX10_145 tm57 rfl ?_
      refine ww_if_ne (x := (M 57 23)) C.1 (tgt := 26) dX10_lay_20 (by decide) (fun hh => ?_) (fun hh => ?_)
      · replace h := h.1 hh
        refine ww_aload_n C.1 dX10_lay_26 0 rfl rfl ?_
        refine ww_aload_n C.1 dX10_lay_27 0 rfl rfl ?_
        refine wt_getI C.1 dX10_lay_28 flRX10_135 tm57 rfl ?_
        refine wt_putI C.1 dX10_lay_31 flRX10_13 tm57 rfl ?_
        refine ww_aload_n C.1 dX10_lay_34 0 rfl rfl ?_
        refine ww_aload_n C.1 dX10_lay_35 0 rfl rfl ?_
        refine wt_getI C.1 dX10_lay_36 flRX10_145 tm57 rfl ?_
        refine wt_putI C.1 dX10_lay_39 flRX10_29 tm57 rfl ?_
        refine ww_aload_n C.1 dX10_lay_42 0 rfl rfl ?_
        refine ww_aload_n C.1 dX10_lay_43 0 rfl rfl ?_
        refine wt_getI C.1 dX10_lay_44 flRX10_140 tm57 rfl ?_
        refine wt_putI C.1 dX10_lay_47 flRX10_164 tm57 rfl ?_
        refine ww_aload_n C.1 dX10_lay_50 0 rfl rfl ?_
        refine ww_aload_n C.1 dX10_lay_51 0 rfl rfl ?_
        refine wt_getI C.1 dX10_lay_52 flRX10_153 tm57 rfl ?_
        refine wt_putI C.1 dX10_lay_55 flRX10_167 tm57 rfl ?_
        refine ww_aload_n C.1 dX10_lay_58 0 rfl rfl ?_
        refine ww_aload_n C.1 dX10_lay_59 0 rfl rfl ?_
        refine wt_getI C.1 dX10_lay_60 flRX10_150 tm57 rfl ?_
        refine wt_putI C.1 dX10_lay_63 flRX10_35 tm57 rfl ?_
        refine ww_iconst C.1 (v := (0 : Int32)) dX10_lay_66 (by decide) ?_
        refine ww_istore_n C.1 dX10_lay_67 rfl (by decide) [1, 0] (L' := [(0, .ref 57), (1, .int (0 : Int32))]) rfl ?_
        exact h
      · replace h := h.2 hh
        refine ww_bipush C.1 (v := (-2 : Int32)) dX10_lay_23 (by decide) ?_
        refine ww_iret C.1 dX10_lay_25 rfl ?_
        exact h
set_option maxHeartbeats 4000000 in
set_option maxRecDepth 20000 in
theorem bX10_lengthOn_0 {X : CX} {Q : State → Prop} {M : Mem} {x1 x2 : Int32} (C : Ok0 X mX10_lengthOn (TTc ++ TTm))
    (h : (((M 57 27) = (0 : Int32) → WW X Q 27 [(0, .ref 57), (1, .int x1), (2, .int x2), (3, .int x1)] [] (M, (gj gm), TTc ++ TTm)) ∧ (¬ (M 57 27) = (0 : Int32) → ((¬ (x2 - x2 / (2 : Int32) * (2 : Int32)) = (1 : Int32) → WW X Q 27 [(0, .ref 57), (1, .int x1), (2, .int x2), (3, .int x1)] [] (M, (gj gm), TTc ++ TTm)) ∧ ((x2 - x2 / (2 : Int32) * (2 : Int32)) = (1 : Int32) → (¬ (M 57 1) = 0 ∧ WW X Q 27 [(0, .ref 57), (1, .int x1), (2, .int x2), (3, .int ((x1 + (1 : Int32)) - (x1 + (1 : Int32)) / (M 57 1) * (M 57 1)))] [] (M, (gj gm), TTc ++ TTm))))))) :
    WW X Q 0 [(0, .ref 57), (1, .int x1), (2, .int x2)] [] (M, (gj gm), TTc ++ TTm) := by
  refine ww_aload_n C.1 dX10_lengthOn_0 0 rfl rfl ?_
  refine wt_getI C.1 dX10_lengthOn_1 flRX10_179 tm57 rfl ?_
  refine ww_if_eq (x := (M 57 27)) C.1 (tgt := 25) dX10_lengthOn_4 (by decide) (fun hh => ?_) (fun hh => ?_)
  · replace h := h.1 hh
    refine ww_iload_n C.1 dX10_lengthOn_25 1 rfl rfl ?_
    refine ww_istore_n C.1 dX10_lengthOn_26 rfl (by decide) [1, 2, 3, 0] (L' := [(0, .ref 57), (1, .int x1), (2, .int x2), (3, .int x1)]) rfl ?_
    exact h
  · replace h := h.2 hh
    refine ww_iload_n C.1 dX10_lengthOn_7 2 rfl rfl ?_
    refine ww_iconst C.1 (v := (2 : Int32)) dX10_lengthOn_8 (by decide) ?_
    refine ww_irem C.1 dX10_lengthOn_9 (by decide) ?_
    refine ww_iconst C.1 (v := (1 : Int32)) dX10_lengthOn_10 (by decide) ?_
    refine ww_icmp_ne (x := (x2 - x2 / (2 : Int32) * (2 : Int32))) (y := (1 : Int32)) C.1 (tgt := 25) dX10_lengthOn_11 (by decide) (fun hh => ?_) (fun hh => ?_)
    · replace h := h.1 hh
      refine ww_iload_n C.1 dX10_lengthOn_25 1 rfl rfl ?_
      refine ww_istore_n C.1 dX10_lengthOn_26 rfl (by decide) [1, 2, 3, 0] (L' := [(0, .ref 57), (1, .int x1), (2, .int x2), (3, .int x1)]) rfl ?_
      exact h
    · replace h := h.2 hh
      refine ww_iload_n C.1 dX10_lengthOn_14 1 rfl rfl ?_
      refine ww_iconst C.1 (v := (1 : Int32)) dX10_lengthOn_15 (by decide) ?_
      refine ww_iadd C.1 dX10_lengthOn_16 ?_
      refine ww_aload_n C.1 dX10_lengthOn_17 0 rfl rfl ?_
      refine wt_getI C.1 dX10_lengthOn_18 flRX10_13 tm57 rfl ?_
      refine ww_irem C.1 dX10_lengthOn_21 h.1 ?_
      replace h := h.2
      refine ww_goto C.1 (tgt := 26) dX10_lengthOn_22 (by decide) ?_
      refine ww_istore_n C.1 dX10_lengthOn_26 rfl (by decide) [1, 2, 3, 0] (L' := [(0, .ref 57), (1, .int x1), (2, .int x2), (3, .int ((x1 + (1 : Int32)) - (x1 + (1 : Int32)) / (M 57 1) * (M 57 1)))]) rfl ?_
      exact h
set_option maxHeartbeats 4000000 in
set_option maxRecDepth 20000 in
theorem bX10_lengthOn_27 {X : CX} {Q : State → Prop} {M : Mem} {x1 x2 x3 : Int32} (C : Ok0 X mX10_lengthOn (TTc ++ TTm))
    (h : (((M 57 28) < (0 : Int32) → WW X Q 80 [(0, .ref 57), (1, .int x1), (2, .int x2), (3, .int x3), (4, .int (3 : Int32))] [] (M, (gj gm), TTc ++ TTm)) ∧ (¬ (M 57 28) < (0 : Int32) → WW X Q 80 [(0, .ref 57), (1, .int x1), (2, .int x2), (3, .int x3), (4, .int (((((((((7919 : Int64) * (M 57 28).toInt64) + ((6151 : Int64) * x2.toInt64)) + ((101 : Int64) * x3.toInt64)) + (1 : Int64)) * (((((7919 : Int64) * (M 57 28).toInt64) + ((6151 : Int64) * x2.toInt64)) + ((101 : Int64) * x3.toInt64)) + (1 : Int64))) - ((((((7919 : Int64) * (M 57 28).toInt64) + ((6151 : Int64) * x2.toInt64)) + ((101 : Int64) * x3.toInt64)) + (1 : Int64)) * (((((7919 : Int64) * (M 57 28).toInt64) + ((6151 : Int64) * x2.toInt64)) + ((101 : Int64) * x3.toInt64)) + (1 : Int64))) / (65521 : Int64) * (65521 : Int64)) - (((((((7919 : Int64) * (M 57 28).toInt64) + ((6151 : Int64) * x2.toInt64)) + ((101 : Int64) * x3.toInt64)) + (1 : Int64)) * (((((7919 : Int64) * (M 57 28).toInt64) + ((6151 : Int64) * x2.toInt64)) + ((101 : Int64) * x3.toInt64)) + (1 : Int64))) - ((((((7919 : Int64) * (M 57 28).toInt64) + ((6151 : Int64) * x2.toInt64)) + ((101 : Int64) * x3.toInt64)) + (1 : Int64)) * (((((7919 : Int64) * (M 57 28).toInt64) + ((6151 : Int64) * x2.toInt64)) + ((101 : Int64) * x3.toInt64)) + (1 : Int64))) / (65521 : Int64) * (65521 : Int64)) / (7 : Int64) * (7 : Int64))).toInt32)] [] (M, (gj gm), TTc ++ TTm)))) :
    WW X Q 27 [(0, .ref 57), (1, .int x1), (2, .int x2), (3, .int x3)] [] (M, (gj gm), TTc ++ TTm) := by
  refine ww_iconst C.1 (v := (3 : Int32)) dX10_lengthOn_27 (by decide) ?_
  refine ww_istore C.1 dX10_lengthOn_28 (by decide) [1, 2, 3, 4, 0] (L' := [(0, .ref 57), (1, .int x1), (2, .int x2), (3, .int x3), (4, .int (3 : Int32))]) rfl ?_
  refine ww_aload_n C.1 dX10_lengthOn_30 0 rfl rfl ?_
  refine wt_getI C.1 dX10_lengthOn_31 flRX10_62 tm57 rfl ?_
  refine ww_if_lt (x := (M 57 28)) C.1 (tgt := 80) dX10_lengthOn_34 (by decide) (fun hh => ?_) (fun hh => ?_)
  · replace h := h.1 hh
    exact h
  · replace h := h.2 hh
    refine ww_ldc2 C.1 kcRX10_183 dX10_lengthOn_37 ?_
    refine ww_aload_n C.1 dX10_lengthOn_40 0 rfl rfl ?_
    refine wt_getI C.1 dX10_lengthOn_41 flRX10_62 tm57 rfl ?_
    refine ww_i2l C.1 dX10_lengthOn_44 rfl ?_
    refine ww_lmul C.1 dX10_lengthOn_45 ?_
    refine ww_ldc2 C.1 kcRX10_185 dX10_lengthOn_46 ?_
    refine ww_iload_n C.1 dX10_lengthOn_49 2 rfl rfl ?_
    refine ww_i2l C.1 dX10_lengthOn_50 rfl ?_
    refine ww_lmul C.1 dX10_lengthOn_51 ?_
    refine ww_ladd C.1 dX10_lengthOn_52 ?_
    refine ww_ldc2 C.1 kcRX10_187 dX10_lengthOn_53 ?_
    refine ww_iload_n C.1 dX10_lengthOn_56 3 rfl rfl ?_
    refine ww_i2l C.1 dX10_lengthOn_57 rfl ?_
    refine ww_lmul C.1 dX10_lengthOn_58 ?_
    refine ww_ladd C.1 dX10_lengthOn_59 ?_
    refine ww_lconst C.1 (v := 1) dX10_lengthOn_60 (by decide) ?_
    refine ww_ladd C.1 dX10_lengthOn_61 ?_
    refine ww_lstore C.1 dX10_lengthOn_62 (by decide) [1, 2, 3, 4, 5, 0] (L' := [(0, .ref 57), (1, .int x1), (2, .int x2), (3, .int x3), (4, .int (3 : Int32)), (5, .long (((((7919 : Int64) * (M 57 28).toInt64) + ((6151 : Int64) * x2.toInt64)) + ((101 : Int64) * x3.toInt64)) + (1 : Int64)))]) rfl ?_
    refine ww_lload C.1 dX10_lengthOn_64 5 rfl ?_
    refine ww_lload C.1 dX10_lengthOn_66 5 rfl ?_
    refine ww_lmul C.1 dX10_lengthOn_68 ?_
    refine ww_ldc2 C.1 kcRX10_189 dX10_lengthOn_69 ?_
    refine ww_lrem C.1 dX10_lengthOn_72 (by decide) ?_
    refine ww_ldc2 C.1 kcRX10_191 dX10_lengthOn_73 ?_
    refine ww_lrem C.1 dX10_lengthOn_76 (by decide) ?_
    refine ww_l2i C.1 dX10_lengthOn_77 rfl ?_
    refine ww_istore C.1 dX10_lengthOn_78 (by decide) [1, 2, 3, 4, 0, 5] (L' := [(0, .ref 57), (1, .int x1), (2, .int x2), (3, .int x3), (4, .int (((((((((7919 : Int64) * (M 57 28).toInt64) + ((6151 : Int64) * x2.toInt64)) + ((101 : Int64) * x3.toInt64)) + (1 : Int64)) * (((((7919 : Int64) * (M 57 28).toInt64) + ((6151 : Int64) * x2.toInt64)) + ((101 : Int64) * x3.toInt64)) + (1 : Int64))) - ((((((7919 : Int64) * (M 57 28).toInt64) + ((6151 : Int64) * x2.toInt64)) + ((101 : Int64) * x3.toInt64)) + (1 : Int64)) * (((((7919 : Int64) * (M 57 28).toInt64) + ((6151 : Int64) * x2.toInt64)) + ((101 : Int64) * x3.toInt64)) + (1 : Int64))) / (65521 : Int64) * (65521 : Int64)) - (((((((7919 : Int64) * (M 57 28).toInt64) + ((6151 : Int64) * x2.toInt64)) + ((101 : Int64) * x3.toInt64)) + (1 : Int64)) * (((((7919 : Int64) * (M 57 28).toInt64) + ((6151 : Int64) * x2.toInt64)) + ((101 : Int64) * x3.toInt64)) + (1 : Int64))) - ((((((7919 : Int64) * (M 57 28).toInt64) + ((6151 : Int64) * x2.toInt64)) + ((101 : Int64) * x3.toInt64)) + (1 : Int64)) * (((((7919 : Int64) * (M 57 28).toInt64) + ((6151 : Int64) * x2.toInt64)) + ((101 : Int64) * x3.toInt64)) + (1 : Int64))) / (65521 : Int64) * (65521 : Int64)) / (7 : Int64) * (7 : Int64))).toInt32), (5, .long (((((7919 : Int64) * (M 57 28).toInt64) + ((6151 : Int64) * x2.toInt64)) + ((101 : Int64) * x3.toInt64)) + (1 : Int64)))]) rfl ?_
    refine ww_loc [0, 1, 2, 3, 4] (L' := [(0, .ref 57), (1, .int x1), (2, .int x2), (3, .int x3), (4, .int (((((((((7919 : Int64) * (M 57 28).toInt64) + ((6151 : Int64) * x2.toInt64)) + ((101 : Int64) * x3.toInt64)) + (1 : Int64)) * (((((7919 : Int64) * (M 57 28).toInt64) + ((6151 : Int64) * x2.toInt64)) + ((101 : Int64) * x3.toInt64)) + (1 : Int64))) - ((((((7919 : Int64) * (M 57 28).toInt64) + ((6151 : Int64) * x2.toInt64)) + ((101 : Int64) * x3.toInt64)) + (1 : Int64)) * (((((7919 : Int64) * (M 57 28).toInt64) + ((6151 : Int64) * x2.toInt64)) + ((101 : Int64) * x3.toInt64)) + (1 : Int64))) / (65521 : Int64) * (65521 : Int64)) - (((((((7919 : Int64) * (M 57 28).toInt64) + ((6151 : Int64) * x2.toInt64)) + ((101 : Int64) * x3.toInt64)) + (1 : Int64)) * (((((7919 : Int64) * (M 57 28).toInt64) + ((6151 : Int64) * x2.toInt64)) + ((101 : Int64) * x3.toInt64)) + (1 : Int64))) - ((((((7919 : Int64) * (M 57 28).toInt64) + ((6151 : Int64) * x2.toInt64)) + ((101 : Int64) * x3.toInt64)) + (1 : Int64)) * (((((7919 : Int64) * (M 57 28).toInt64) + ((6151 : Int64) * x2.toInt64)) + ((101 : Int64) * x3.toInt64)) + (1 : Int64))) / (65521 : Int64) * (65521 : Int64)) / (7 : Int64) * (7 : Int64))).toInt32)]) rfl ?_
    exact h
set_option maxHeartbeats 4000000 in
set_option maxRecDepth 20000 in
theorem bX10_lengthOn_80 {X : CX} {Q : State → Prop} {M : Mem} {x1 x2 x3 x4 : Int32} (C : Ok0 X mX10_lengthOn (TTc ++ TTm))
    (h : (vp_in x3 4 ∧ (vp_in x2 30 ∧ RetOK X Q (some (.int ((((M 58 x3.toNatClampNeg) + (M 59 x2.toNatClampNeg)) + x4) - (3 : Int32)))) (M, (gj gm), TTc ++ TTm)))) :
    WW X Q 80 [(0, .ref 57), (1, .int x1), (2, .int x2), (3, .int x3), (4, .int x4)] [] (M, (gj gm), TTc ++ TTm) := by
  refine ww_aload_n C.1 dX10_lengthOn_80 0 rfl rfl ?_
  refine wt_getR C.1 dX10_lengthOn_81 flRX10_7 tm57 rfl gm57_0 ?_
  refine ww_iload_n C.1 dX10_lengthOn_84 3 rfl rfl ?_
  refine wt_iald C.1 dX10_lengthOn_85 tm58 h.1 ?_
  replace h := h.2
  refine ww_aload_n C.1 dX10_lengthOn_86 0 rfl rfl ?_
  refine wt_getR C.1 dX10_lengthOn_87 flRX10_17 tm57 rfl gm57_2 ?_
  refine ww_iload_n C.1 dX10_lengthOn_90 2 rfl rfl ?_
  refine wt_iald C.1 dX10_lengthOn_91 tm59 h.1 ?_
  replace h := h.2
  refine ww_iadd C.1 dX10_lengthOn_92 ?_
  refine ww_iload C.1 dX10_lengthOn_93 4 rfl ?_
  refine ww_iadd C.1 dX10_lengthOn_95 ?_
  refine ww_iconst C.1 (v := (3 : Int32)) dX10_lengthOn_96 (by decide) ?_
  refine ww_isub C.1 dX10_lengthOn_97 ?_
  refine ww_iret C.1 dX10_lengthOn_98 rfl ?_
  exact h
set_option maxHeartbeats 4000000 in
set_option maxRecDepth 20000 in
theorem bX10_bed_0 {X : CX} {Q : State → Prop} {M : Mem} {x1 x2 : Int32} (C : Ok0 X mX10_bed (TTc ++ TTm))
    (h : ((x1 < (0 : Int32) → RetOK X Q (some (.int (-1 : Int32))) (M, (gj gm), TTc ++ TTm)) ∧ (¬ x1 < (0 : Int32) → ((((M 57 1) - (1 : Int32)) < x1 → RetOK X Q (some (.int (-1 : Int32))) (M, (gj gm), TTc ++ TTm)) ∧ (¬ ((M 57 1) - (1 : Int32)) < x1 → ((x2 < (0 : Int32) → RetOK X Q (some (.int (-1 : Int32))) (M, (gj gm), TTc ++ TTm)) ∧ (¬ x2 < (0 : Int32) → (((29 : Int32) < x2 → RetOK X Q (some (.int (-1 : Int32))) (M, (gj gm), TTc ++ TTm)) ∧ (¬ (29 : Int32) < x2 → WpI mX10_lengthOn [.ref 57, .int x1, .int x2] M (gj gm) (TTc ++ TTm) (fun r M' => WW X Q 21 [(0, .ref 57), (1, .int x1), (2, .int x2)] [.int r] (M', (gj gm), TTc ++ TTm))))))))))) :
    WW X Q 0 [(0, .ref 57), (1, .int x1), (2, .int x2)] [] (M, (gj gm), TTc ++ TTm) := by
  refine ww_aload_n C.1 dX10_bed_0 0 rfl rfl ?_
  refine ww_iload_n C.1 dX10_bed_1 1 rfl rfl ?_
  refine ww_vI C fX10_isBed (And.intro (by decide) (by decide)) mlRX10_193 dX10_bed_2 tm57 (by decide) rfl (As := [.int x1]) (rest := []) rfl rfl rfl (Nat.le_of_ble_eq_true rfl) (WpI.of (L0 := [(0, .ref 57), (1, .int x1)]) rfl rfl (Nat.le_of_ble_eq_true rfl) fun X1 Q1 C1 k1 => ?_)
  refine ww_iload_n C1.1 dX10_isBed_0 1 rfl rfl ?_
  refine ww_i2l C1.1 dX10_isBed_1 rfl ?_
  refine ww_lconst C1.1 (v := 0) dX10_isBed_2 (by decide) ?_
  refine ww_aload_n C1.1 dX10_isBed_3 0 rfl rfl ?_
  refine wt_getI C1.1 dX10_isBed_4 flRX10_13 tm57 rfl ?_
  refine ww_iconst C1.1 (v := (1 : Int32)) dX10_isBed_7 (by decide) ?_
  refine ww_isub C1.1 dX10_isBed_8 ?_
  refine ww_i2l C1.1 dX10_isBed_9 rfl ?_
  refine ww_sI C1 fX10_in (And.intro (by decide) (by decide)) mlRX10_101 dX10_isBed_10 (As := [.long x1.toInt64, .long (0 : Int64), .long ((M 57 1) - (1 : Int32)).toInt64]) (rest := []) rfl rfl rfl (Nat.le_of_ble_eq_true rfl) (WpI.of (L0 := [(0, .long x1.toInt64), (2, .long (0 : Int64)), (4, .long ((M 57 1) - (1 : Int32)).toInt64)]) rfl rfl (Nat.le_of_ble_eq_true rfl) fun X2 Q2 C2 k2 => ?_)
  refine ww_lload_n C2.1 dX10_in_0 0 rfl rfl ?_
  refine ww_lload_n C2.1 dX10_in_1 1 rfl rfl ?_
  refine ww_lcmp C2.1 dX10_in_2 ?_
  refine ww_if_lt (x := (lg_cmp x1.toInt64 (0 : Int64))) C2.1 (tgt := 17) dX10_in_3 (by decide) (fun hh => ?_) (fun hh => ?_)
  · replace h := h.1 ((in_lt (a := x1) (b := (0 : Int32)) (by first | rfl | decide) (by first | rfl | decide)).mp hh)
    refine ww_iconst C2.1 (v := (0 : Int32)) dX10_in_17 (by decide) ?_
    refine ww_zret C2.1 dX10_in_18 rfl (Or.inl rfl) ?_
    refine k2 _ _ ?_
    refine ww_zret C1.1 dX10_isBed_13 rfl (Or.inl rfl) ?_
    refine k1 _ _ ?_
    refine ww_if_eq (x := (0 : Int32)) C.1 (tgt := 24) dX10_bed_5 (by decide) (fun _ => ?_) (fun hh => absurd hh (by decide))
    refine ww_iconst C.1 (v := (-1 : Int32)) dX10_bed_24 (by decide) ?_
    refine ww_iret C.1 dX10_bed_25 rfl ?_
    exact h
  · replace h := h.2 (fun z => hh ((in_lt (a := x1) (b := (0 : Int32)) (by first | rfl | decide) (by first | rfl | decide)).mpr z))
    refine ww_lload_n C2.1 dX10_in_6 0 rfl rfl ?_
    refine ww_lload C2.1 dX10_in_7 2 rfl ?_
    refine ww_lcmp C2.1 dX10_in_9 ?_
    refine ww_if_gt (x := (lg_cmp x1.toInt64 ((M 57 1) - (1 : Int32)).toInt64)) C2.1 (tgt := 17) dX10_in_10 (by decide) (fun hh => ?_) (fun hh => ?_)
    · replace h := h.1 ((in_gt (a := x1) (b := ((M 57 1) - (1 : Int32))) (by first | rfl | decide) (by first | rfl | decide)).mp hh)
      refine ww_iconst C2.1 (v := (0 : Int32)) dX10_in_17 (by decide) ?_
      refine ww_zret C2.1 dX10_in_18 rfl (Or.inl rfl) ?_
      refine k2 _ _ ?_
      refine ww_zret C1.1 dX10_isBed_13 rfl (Or.inl rfl) ?_
      refine k1 _ _ ?_
      refine ww_if_eq (x := (0 : Int32)) C.1 (tgt := 24) dX10_bed_5 (by decide) (fun _ => ?_) (fun hh => absurd hh (by decide))
      refine ww_iconst C.1 (v := (-1 : Int32)) dX10_bed_24 (by decide) ?_
      refine ww_iret C.1 dX10_bed_25 rfl ?_
      exact h
    · replace h := h.2 (fun z => hh ((in_gt (a := x1) (b := ((M 57 1) - (1 : Int32))) (by first | rfl | decide) (by first | rfl | decide)).mpr z))
      refine ww_iconst C2.1 (v := (1 : Int32)) dX10_in_13 (by decide) ?_
      refine ww_goto C2.1 (tgt := 18) dX10_in_14 (by decide) ?_
      refine ww_zret C2.1 dX10_in_18 rfl (Or.inr rfl) ?_
      refine k2 _ _ ?_
      refine ww_zret C1.1 dX10_isBed_13 rfl (Or.inr rfl) ?_
      refine k1 _ _ ?_
      refine ww_if_eq (x := (1 : Int32)) C.1 (tgt := 24) dX10_bed_5 (by decide) (fun hh => absurd hh (by decide)) (fun _ => ?_)
      refine ww_iload_n C.1 dX10_bed_8 2 rfl rfl ?_
      refine ww_sI C fX10_isNight (And.intro (by decide) (by decide)) mlRX10_196 dX10_bed_9 (As := [.int x2]) (rest := []) rfl rfl rfl (Nat.le_of_ble_eq_true rfl) (WpI.of (L0 := [(0, .int x2)]) rfl rfl (Nat.le_of_ble_eq_true rfl) fun X3 Q3 C3 k3 => ?_)
      refine ww_iload_n C3.1 dX10_isNight_0 0 rfl rfl ?_
      refine ww_i2l C3.1 dX10_isNight_1 rfl ?_
      refine ww_lconst C3.1 (v := 0) dX10_isNight_2 (by decide) ?_
      refine ww_ldc2 C3.1 kcRX10_105 dX10_isNight_3 ?_
      refine ww_sI C3 fX10_in (And.intro (by decide) (by decide)) mlRX10_101 dX10_isNight_6 (As := [.long x2.toInt64, .long (0 : Int64), .long (29 : Int64)]) (rest := []) rfl rfl rfl (Nat.le_of_ble_eq_true rfl) (WpI.of (L0 := [(0, .long x2.toInt64), (2, .long (0 : Int64)), (4, .long (29 : Int64))]) rfl rfl (Nat.le_of_ble_eq_true rfl) fun X4 Q4 C4 k4 => ?_)
      refine ww_lload_n C4.1 dX10_in_0 0 rfl rfl ?_
      refine ww_lload_n C4.1 dX10_in_1 1 rfl rfl ?_
      refine ww_lcmp C4.1 dX10_in_2 ?_
      refine ww_if_lt (x := (lg_cmp x2.toInt64 (0 : Int64))) C4.1 (tgt := 17) dX10_in_3 (by decide) (fun hh => ?_) (fun hh => ?_)
      · replace h := h.1 ((in_lt (a := x2) (b := (0 : Int32)) (by first | rfl | decide) (by first | rfl | decide)).mp hh)
        refine ww_iconst C4.1 (v := (0 : Int32)) dX10_in_17 (by decide) ?_
        refine ww_zret C4.1 dX10_in_18 rfl (Or.inl rfl) ?_
        refine k4 _ _ ?_
        refine ww_zret C3.1 dX10_isNight_9 rfl (Or.inl rfl) ?_
        refine k3 _ _ ?_
        refine ww_if_eq (x := (0 : Int32)) C.1 (tgt := 24) dX10_bed_12 (by decide) (fun _ => ?_) (fun hh => absurd hh (by decide))
        refine ww_iconst C.1 (v := (-1 : Int32)) dX10_bed_24 (by decide) ?_
        refine ww_iret C.1 dX10_bed_25 rfl ?_
        exact h
      · replace h := h.2 (fun z => hh ((in_lt (a := x2) (b := (0 : Int32)) (by first | rfl | decide) (by first | rfl | decide)).mpr z))
        refine ww_lload_n C4.1 dX10_in_6 0 rfl rfl ?_
        refine ww_lload C4.1 dX10_in_7 2 rfl ?_
        refine ww_lcmp C4.1 dX10_in_9 ?_
        refine ww_if_gt (x := (lg_cmp x2.toInt64 (29 : Int64))) C4.1 (tgt := 17) dX10_in_10 (by decide) (fun hh => ?_) (fun hh => ?_)
        · replace h := h.1 ((in_gt (a := x2) (b := (29 : Int32)) (by first | rfl | decide) (by first | rfl | decide)).mp hh)
          refine ww_iconst C4.1 (v := (0 : Int32)) dX10_in_17 (by decide) ?_
          refine ww_zret C4.1 dX10_in_18 rfl (Or.inl rfl) ?_
          refine k4 _ _ ?_
          refine ww_zret C3.1 dX10_isNight_9 rfl (Or.inl rfl) ?_
          refine k3 _ _ ?_
          refine ww_if_eq (x := (0 : Int32)) C.1 (tgt := 24) dX10_bed_12 (by decide) (fun _ => ?_) (fun hh => absurd hh (by decide))
          refine ww_iconst C.1 (v := (-1 : Int32)) dX10_bed_24 (by decide) ?_
          refine ww_iret C.1 dX10_bed_25 rfl ?_
          exact h
        · replace h := h.2 (fun z => hh ((in_gt (a := x2) (b := (29 : Int32)) (by first | rfl | decide) (by first | rfl | decide)).mpr z))
          refine ww_iconst C4.1 (v := (1 : Int32)) dX10_in_13 (by decide) ?_
          refine ww_goto C4.1 (tgt := 18) dX10_in_14 (by decide) ?_
          refine ww_zret C4.1 dX10_in_18 rfl (Or.inr rfl) ?_
          refine k4 _ _ ?_
          refine ww_zret C3.1 dX10_isNight_9 rfl (Or.inr rfl) ?_
          refine k3 _ _ ?_
          refine ww_if_eq (x := (1 : Int32)) C.1 (tgt := 24) dX10_bed_12 (by decide) (fun hh => absurd hh (by decide)) (fun _ => ?_)
          refine ww_aload_n C.1 dX10_bed_15 0 rfl rfl ?_
          refine ww_iload_n C.1 dX10_bed_16 1 rfl rfl ?_
          refine ww_iload_n C.1 dX10_bed_17 2 rfl rfl ?_
          refine ww_vI C fX10_lengthOn (And.intro (by decide) (by decide)) mlRX10_199 dX10_bed_18 tm57 (by decide) rfl (As := [.int x1, .int x2]) (rest := []) rfl rfl rfl (Nat.le_of_ble_eq_true rfl) ?_
          exact h
set_option maxHeartbeats 4000000 in
set_option maxRecDepth 20000 in
theorem bX10_bed_21 {X : CX} {Q : State → Prop} {M : Mem} {x1 x2 s0 : Int32} (C : Ok0 X mX10_bed (TTc ++ TTm))
    (h : RetOK X Q (some (.int s0)) (M, (gj gm), TTc ++ TTm)) :
    WW X Q 21 [(0, .ref 57), (1, .int x1), (2, .int x2)] [.int s0] (M, (gj gm), TTc ++ TTm) := by
  refine ww_goto C.1 (tgt := 25) dX10_bed_21 (by decide) ?_
  refine ww_iret C.1 dX10_bed_25 rfl ?_
  exact h
set_option maxHeartbeats 4000000 in
set_option maxRecDepth 20000 in
theorem bX10_inchesOn_0 {X : CX} {Q : State → Prop} {M : Mem} {x1 x2 : Int32} (C : Ok0 X mX10_inchesOn (TTc ++ TTm))
    (h : (vp_in x1 7 ∧ ((¬ (M 61 x1.toNatClampNeg) = (4 : Int32) → (vp_in x1 7 ∧ (vp_in ((7 : Int32) + x1) 21 ∧ RetOK X Q (some (.int (((M 60 x1.toNatClampNeg) + (M 64 ((7 : Int32) + x1).toNatClampNeg)) + (0 : Int32)))) (M, (gj gm), TTc ++ TTm)))) ∧ ((M 61 x1.toNatClampNeg) = (4 : Int32) → (vp_in ((14 : Int32) + x1) 21 ∧ ((x2 ≤ (M 64 ((14 : Int32) + x1).toNatClampNeg) → (vp_in x1 7 ∧ (vp_in ((7 : Int32) + x1) 21 ∧ RetOK X Q (some (.int (((M 60 x1.toNatClampNeg) + (M 64 ((7 : Int32) + x1).toNatClampNeg)) + (0 : Int32)))) (M, (gj gm), TTc ++ TTm)))) ∧ (¬ x2 ≤ (M 64 ((14 : Int32) + x1).toNatClampNeg) → (vp_in ((14 : Int32) + x1) 21 ∧ (vp_in x1 7 ∧ (vp_in ((7 : Int32) + x1) 21 ∧ RetOK X Q (some (.int (((M 60 x1.toNatClampNeg) + (M 64 ((7 : Int32) + x1).toNatClampNeg)) + (x2 - (M 64 ((14 : Int32) + x1).toNatClampNeg))))) (M, (gj gm), TTc ++ TTm))))))))))) :
    WW X Q 0 [(0, .ref 57), (1, .int x1), (2, .int x2)] [] (M, (gj gm), TTc ++ TTm) := by
  refine ww_aload_n C.1 dX10_inchesOn_0 0 rfl rfl ?_
  refine wt_getR C.1 dX10_inchesOn_1 flRX10_23 tm57 rfl gm57_5 ?_
  refine ww_iload_n C.1 dX10_inchesOn_4 1 rfl rfl ?_
  refine wt_iald C.1 dX10_inchesOn_5 tm61 h.1 ?_
  replace h := h.2
  refine ww_iconst C.1 (v := (4 : Int32)) dX10_inchesOn_6 (by decide) ?_
  refine ww_icmp_ne (x := (M 61 x1.toNatClampNeg)) (y := (4 : Int32)) C.1 (tgt := 37) dX10_inchesOn_7 (by decide) (fun hh => ?_) (fun hh => ?_)
  · replace h := h.1 hh
    refine ww_iconst C.1 (v := (0 : Int32)) dX10_inchesOn_37 (by decide) ?_
    refine ww_istore_n C.1 dX10_inchesOn_38 rfl (by decide) [1, 2, 3, 0] (L' := [(0, .ref 57), (1, .int x1), (2, .int x2), (3, .int (0 : Int32))]) rfl ?_
    refine ww_aload_n C.1 dX10_inchesOn_39 0 rfl rfl ?_
    refine wt_getR C.1 dX10_inchesOn_40 flRX10_20 tm57 rfl gm57_4 ?_
    refine ww_iload_n C.1 dX10_inchesOn_43 1 rfl rfl ?_
    refine wt_iald C.1 dX10_inchesOn_44 tm60 h.1 ?_
    replace h := h.2
    refine ww_aload_n C.1 dX10_inchesOn_45 0 rfl rfl ?_
    refine wt_getR C.1 dX10_inchesOn_46 flRX10_38 tm57 rfl gm57_11 ?_
    refine ww_bipush C.1 (v := (7 : Int32)) dX10_inchesOn_49 (by decide) ?_
    refine ww_iload_n C.1 dX10_inchesOn_51 1 rfl rfl ?_
    refine ww_iadd C.1 dX10_inchesOn_52 ?_
    refine wt_iald C.1 dX10_inchesOn_53 tm64 h.1 ?_
    replace h := h.2
    refine ww_iadd C.1 dX10_inchesOn_54 ?_
    refine ww_iload_n C.1 dX10_inchesOn_55 3 rfl rfl ?_
    refine ww_iadd C.1 dX10_inchesOn_56 ?_
    refine ww_iret C.1 dX10_inchesOn_57 rfl ?_
    exact h
  · replace h := h.2 hh
    refine ww_iload_n C.1 dX10_inchesOn_10 2 rfl rfl ?_
    refine ww_aload_n C.1 dX10_inchesOn_11 0 rfl rfl ?_
    refine wt_getR C.1 dX10_inchesOn_12 flRX10_38 tm57 rfl gm57_11 ?_
    refine ww_bipush C.1 (v := (14 : Int32)) dX10_inchesOn_15 (by decide) ?_
    refine ww_iload_n C.1 dX10_inchesOn_17 1 rfl rfl ?_
    refine ww_iadd C.1 dX10_inchesOn_18 ?_
    refine wt_iald C.1 dX10_inchesOn_19 tm64 h.1 ?_
    replace h := h.2
    refine ww_icmp_le (x := x2) (y := (M 64 ((14 : Int32) + x1).toNatClampNeg)) C.1 (tgt := 37) dX10_inchesOn_20 (by decide) (fun hh => ?_) (fun hh => ?_)
    · replace h := h.1 hh
      refine ww_iconst C.1 (v := (0 : Int32)) dX10_inchesOn_37 (by decide) ?_
      refine ww_istore_n C.1 dX10_inchesOn_38 rfl (by decide) [1, 2, 3, 0] (L' := [(0, .ref 57), (1, .int x1), (2, .int x2), (3, .int (0 : Int32))]) rfl ?_
      refine ww_aload_n C.1 dX10_inchesOn_39 0 rfl rfl ?_
      refine wt_getR C.1 dX10_inchesOn_40 flRX10_20 tm57 rfl gm57_4 ?_
      refine ww_iload_n C.1 dX10_inchesOn_43 1 rfl rfl ?_
      refine wt_iald C.1 dX10_inchesOn_44 tm60 h.1 ?_
      replace h := h.2
      refine ww_aload_n C.1 dX10_inchesOn_45 0 rfl rfl ?_
      refine wt_getR C.1 dX10_inchesOn_46 flRX10_38 tm57 rfl gm57_11 ?_
      refine ww_bipush C.1 (v := (7 : Int32)) dX10_inchesOn_49 (by decide) ?_
      refine ww_iload_n C.1 dX10_inchesOn_51 1 rfl rfl ?_
      refine ww_iadd C.1 dX10_inchesOn_52 ?_
      refine wt_iald C.1 dX10_inchesOn_53 tm64 h.1 ?_
      replace h := h.2
      refine ww_iadd C.1 dX10_inchesOn_54 ?_
      refine ww_iload_n C.1 dX10_inchesOn_55 3 rfl rfl ?_
      refine ww_iadd C.1 dX10_inchesOn_56 ?_
      refine ww_iret C.1 dX10_inchesOn_57 rfl ?_
      exact h
    · replace h := h.2 hh
      refine ww_iload_n C.1 dX10_inchesOn_23 2 rfl rfl ?_
      refine ww_aload_n C.1 dX10_inchesOn_24 0 rfl rfl ?_
      refine wt_getR C.1 dX10_inchesOn_25 flRX10_38 tm57 rfl gm57_11 ?_
      refine ww_bipush C.1 (v := (14 : Int32)) dX10_inchesOn_28 (by decide) ?_
      refine ww_iload_n C.1 dX10_inchesOn_30 1 rfl rfl ?_
      refine ww_iadd C.1 dX10_inchesOn_31 ?_
      refine wt_iald C.1 dX10_inchesOn_32 tm64 h.1 ?_
      replace h := h.2
      refine ww_isub C.1 dX10_inchesOn_33 ?_
      refine ww_goto C.1 (tgt := 38) dX10_inchesOn_34 (by decide) ?_
      refine ww_istore_n C.1 dX10_inchesOn_38 rfl (by decide) [1, 2, 3, 0] (L' := [(0, .ref 57), (1, .int x1), (2, .int x2), (3, .int (x2 - (M 64 ((14 : Int32) + x1).toNatClampNeg)))]) rfl ?_
      refine ww_aload_n C.1 dX10_inchesOn_39 0 rfl rfl ?_
      refine wt_getR C.1 dX10_inchesOn_40 flRX10_20 tm57 rfl gm57_4 ?_
      refine ww_iload_n C.1 dX10_inchesOn_43 1 rfl rfl ?_
      refine wt_iald C.1 dX10_inchesOn_44 tm60 h.1 ?_
      replace h := h.2
      refine ww_aload_n C.1 dX10_inchesOn_45 0 rfl rfl ?_
      refine wt_getR C.1 dX10_inchesOn_46 flRX10_38 tm57 rfl gm57_11 ?_
      refine ww_bipush C.1 (v := (7 : Int32)) dX10_inchesOn_49 (by decide) ?_
      refine ww_iload_n C.1 dX10_inchesOn_51 1 rfl rfl ?_
      refine ww_iadd C.1 dX10_inchesOn_52 ?_
      refine wt_iald C.1 dX10_inchesOn_53 tm64 h.1 ?_
      replace h := h.2
      refine ww_iadd C.1 dX10_inchesOn_54 ?_
      refine ww_iload_n C.1 dX10_inchesOn_55 3 rfl rfl ?_
      refine ww_iadd C.1 dX10_inchesOn_56 ?_
      refine ww_iret C.1 dX10_inchesOn_57 rfl ?_
      exact h
set_option maxHeartbeats 4000000 in
set_option maxRecDepth 20000 in
theorem bX10_harmBy_0 {X : CX} {Q : State → Prop} {M : Mem} {x1 x2 : Int32} (C : Ok0 X mX10_harmBy (TTc ++ TTm))
    (h : (vp_in x1 7 ∧ (((0 : Int32) ≤ x2 → WW X Q 19 [(0, .ref 57), (1, .int x1), (2, .int x2), (3, .int (M 61 x1.toNatClampNeg)), (4, .int x2)] [] (M, (gj gm), TTc ++ TTm)) ∧ (¬ (0 : Int32) ≤ x2 → WW X Q 19 [(0, .ref 57), (1, .int x1), (2, .int x2), (3, .int (M 61 x1.toNatClampNeg)), (4, .int (-x2))] [] (M, (gj gm), TTc ++ TTm))))) :
    WW X Q 0 [(0, .ref 57), (1, .int x1), (2, .int x2)] [] (M, (gj gm), TTc ++ TTm) := by
  refine ww_aload_n C.1 dX10_harmBy_0 0 rfl rfl ?_
  refine wt_getR C.1 dX10_harmBy_1 flRX10_23 tm57 rfl gm57_5 ?_
  refine ww_iload_n C.1 dX10_harmBy_4 1 rfl rfl ?_
  refine wt_iald C.1 dX10_harmBy_5 tm61 h.1 ?_
  replace h := h.2
  refine ww_istore_n C.1 dX10_harmBy_6 rfl (by decide) [1, 2, 3, 0] (L' := [(0, .ref 57), (1, .int x1), (2, .int x2), (3, .int (M 61 x1.toNatClampNeg))]) rfl ?_
  refine ww_iload_n C.1 dX10_harmBy_7 2 rfl rfl ?_
  refine ww_if_ge (x := x2) C.1 (tgt := 16) dX10_harmBy_8 (by decide) (fun hh => ?_) (fun hh => ?_)
  · replace h := h.1 hh
    refine ww_iload_n C.1 dX10_harmBy_16 2 rfl rfl ?_
    refine ww_istore C.1 dX10_harmBy_17 (by decide) [1, 2, 3, 4, 0] (L' := [(0, .ref 57), (1, .int x1), (2, .int x2), (3, .int (M 61 x1.toNatClampNeg)), (4, .int x2)]) rfl ?_
    exact h
  · replace h := h.2 hh
    refine ww_iload_n C.1 dX10_harmBy_11 2 rfl rfl ?_
    refine ww_ineg C.1 dX10_harmBy_12 ?_
    refine ww_goto C.1 (tgt := 17) dX10_harmBy_13 (by decide) ?_
    refine ww_istore C.1 dX10_harmBy_17 (by decide) [1, 2, 3, 4, 0] (L' := [(0, .ref 57), (1, .int x1), (2, .int x2), (3, .int (M 61 x1.toNatClampNeg)), (4, .int (-x2))]) rfl ?_
    exact h
set_option maxHeartbeats 4000000 in
set_option maxRecDepth 20000 in
theorem bX10_harmBy_19 {X : CX} {Q : State → Prop} {M : Mem} {x1 x2 x3 x4 : Int32} (C : Ok0 X mX10_harmBy (TTc ++ TTm))
    (h : ((¬ x3 = (1 : Int32) → ((¬ x3 = (2 : Int32) → ((x3 = (3 : Int32) → ((x4 ≤ (2 : Int32) → RetOK X Q (some (.int (0 : Int32))) (M, (gj gm), TTc ++ TTm)) ∧ (¬ x4 ≤ (2 : Int32) → RetOK X Q (some (.int (x4 - (2 : Int32)))) (M, (gj gm), TTc ++ TTm)))) ∧ (¬ x3 = (3 : Int32) → RetOK X Q (some (.int x4)) (M, (gj gm), TTc ++ TTm)))) ∧ (x3 = (2 : Int32) → (((0 : Int32) ≤ x2 → ((x3 = (3 : Int32) → ((x4 ≤ (2 : Int32) → RetOK X Q (some (.int (0 : Int32))) (M, (gj gm), TTc ++ TTm)) ∧ (¬ x4 ≤ (2 : Int32) → RetOK X Q (some (.int (x4 - (2 : Int32)))) (M, (gj gm), TTc ++ TTm)))) ∧ (¬ x3 = (3 : Int32) → RetOK X Q (some (.int x4)) (M, (gj gm), TTc ++ TTm)))) ∧ (¬ (0 : Int32) ≤ x2 → RetOK X Q (some (.int ((2 : Int32) * x4))) (M, (gj gm), TTc ++ TTm)))))) ∧ (x3 = (1 : Int32) → ((x2 ≤ (0 : Int32) → ((¬ x3 = (2 : Int32) → ((x3 = (3 : Int32) → ((x4 ≤ (2 : Int32) → RetOK X Q (some (.int (0 : Int32))) (M, (gj gm), TTc ++ TTm)) ∧ (¬ x4 ≤ (2 : Int32) → RetOK X Q (some (.int (x4 - (2 : Int32)))) (M, (gj gm), TTc ++ TTm)))) ∧ (¬ x3 = (3 : Int32) → RetOK X Q (some (.int x4)) (M, (gj gm), TTc ++ TTm)))) ∧ (x3 = (2 : Int32) → (((0 : Int32) ≤ x2 → ((x3 = (3 : Int32) → ((x4 ≤ (2 : Int32) → RetOK X Q (some (.int (0 : Int32))) (M, (gj gm), TTc ++ TTm)) ∧ (¬ x4 ≤ (2 : Int32) → RetOK X Q (some (.int (x4 - (2 : Int32)))) (M, (gj gm), TTc ++ TTm)))) ∧ (¬ x3 = (3 : Int32) → RetOK X Q (some (.int x4)) (M, (gj gm), TTc ++ TTm)))) ∧ (¬ (0 : Int32) ≤ x2 → RetOK X Q (some (.int ((2 : Int32) * x4))) (M, (gj gm), TTc ++ TTm)))))) ∧ (¬ x2 ≤ (0 : Int32) → ((x2 ≤ (6 : Int32) → RetOK X Q (some (.int (0 : Int32))) (M, (gj gm), TTc ++ TTm)) ∧ (¬ x2 ≤ (6 : Int32) → RetOK X Q (some (.int (x2 - (6 : Int32)))) (M, (gj gm), TTc ++ TTm)))))))) :
    WW X Q 19 [(0, .ref 57), (1, .int x1), (2, .int x2), (3, .int x3), (4, .int x4)] [] (M, (gj gm), TTc ++ TTm) := by
  refine ww_iload_n C.1 dX10_harmBy_19 3 rfl rfl ?_
  refine ww_iconst C.1 (v := (1 : Int32)) dX10_harmBy_20 (by decide) ?_
  refine ww_icmp_ne (x := x3) (y := (1 : Int32)) C.1 (tgt := 43) dX10_harmBy_21 (by decide) (fun hh => ?_) (fun hh => ?_)
  · replace h := h.1 hh
    refine ww_iload_n C.1 dX10_harmBy_43 3 rfl rfl ?_
    refine ww_iconst C.1 (v := (2 : Int32)) dX10_harmBy_44 (by decide) ?_
    refine ww_icmp_ne (x := x3) (y := (2 : Int32)) C.1 (tgt := 57) dX10_harmBy_45 (by decide) (fun hh => ?_) (fun hh => ?_)
    · replace h := h.1 hh
      refine ww_iload_n C.1 dX10_harmBy_57 3 rfl rfl ?_
      refine ww_iconst C.1 (v := (3 : Int32)) dX10_harmBy_58 (by decide) ?_
      refine ww_icmp_eq (x := x3) (y := (3 : Int32)) C.1 (tgt := 67) dX10_harmBy_59 (by decide) (fun hh => ?_) (fun hh => ?_)
      · replace h := h.1 hh
        refine ww_iload C.1 dX10_harmBy_67 4 rfl ?_
        refine ww_iconst C.1 (v := (2 : Int32)) dX10_harmBy_69 (by decide) ?_
        refine ww_icmp_le (x := x4) (y := (2 : Int32)) C.1 (tgt := 80) dX10_harmBy_70 (by decide) (fun hh => ?_) (fun hh => ?_)
        · replace h := h.1 hh
          refine ww_iconst C.1 (v := (0 : Int32)) dX10_harmBy_80 (by decide) ?_
          refine ww_iret C.1 dX10_harmBy_81 rfl ?_
          exact h
        · replace h := h.2 hh
          refine ww_iload C.1 dX10_harmBy_73 4 rfl ?_
          refine ww_iconst C.1 (v := (2 : Int32)) dX10_harmBy_75 (by decide) ?_
          refine ww_isub C.1 dX10_harmBy_76 ?_
          refine ww_goto C.1 (tgt := 81) dX10_harmBy_77 (by decide) ?_
          refine ww_iret C.1 dX10_harmBy_81 rfl ?_
          exact h
      · replace h := h.2 hh
        refine ww_iload C.1 dX10_harmBy_62 4 rfl ?_
        refine ww_goto C.1 (tgt := 81) dX10_harmBy_64 (by decide) ?_
        refine ww_iret C.1 dX10_harmBy_81 rfl ?_
        exact h
    · replace h := h.2 hh
      refine ww_iload_n C.1 dX10_harmBy_48 2 rfl rfl ?_
      refine ww_if_ge (x := x2) C.1 (tgt := 57) dX10_harmBy_49 (by decide) (fun hh => ?_) (fun hh => ?_)
      · replace h := h.1 hh
        refine ww_iload_n C.1 dX10_harmBy_57 3 rfl rfl ?_
        refine ww_iconst C.1 (v := (3 : Int32)) dX10_harmBy_58 (by decide) ?_
        refine ww_icmp_eq (x := x3) (y := (3 : Int32)) C.1 (tgt := 67) dX10_harmBy_59 (by decide) (fun hh => ?_) (fun hh => ?_)
        · replace h := h.1 hh
          refine ww_iload C.1 dX10_harmBy_67 4 rfl ?_
          refine ww_iconst C.1 (v := (2 : Int32)) dX10_harmBy_69 (by decide) ?_
          refine ww_icmp_le (x := x4) (y := (2 : Int32)) C.1 (tgt := 80) dX10_harmBy_70 (by decide) (fun hh => ?_) (fun hh => ?_)
          · replace h := h.1 hh
            refine ww_iconst C.1 (v := (0 : Int32)) dX10_harmBy_80 (by decide) ?_
            refine ww_iret C.1 dX10_harmBy_81 rfl ?_
            exact h
          · replace h := h.2 hh
            refine ww_iload C.1 dX10_harmBy_73 4 rfl ?_
            refine ww_iconst C.1 (v := (2 : Int32)) dX10_harmBy_75 (by decide) ?_
            refine ww_isub C.1 dX10_harmBy_76 ?_
            refine ww_goto C.1 (tgt := 81) dX10_harmBy_77 (by decide) ?_
            refine ww_iret C.1 dX10_harmBy_81 rfl ?_
            exact h
        · replace h := h.2 hh
          refine ww_iload C.1 dX10_harmBy_62 4 rfl ?_
          refine ww_goto C.1 (tgt := 81) dX10_harmBy_64 (by decide) ?_
          refine ww_iret C.1 dX10_harmBy_81 rfl ?_
          exact h
      · replace h := h.2 hh
        refine ww_iconst C.1 (v := (2 : Int32)) dX10_harmBy_52 (by decide) ?_
        refine ww_iload C.1 dX10_harmBy_53 4 rfl ?_
        refine ww_imul C.1 dX10_harmBy_55 ?_
        refine ww_iret C.1 dX10_harmBy_56 rfl ?_
        exact h
  · replace h := h.2 hh
    refine ww_iload_n C.1 dX10_harmBy_24 2 rfl rfl ?_
    refine ww_if_le (x := x2) C.1 (tgt := 43) dX10_harmBy_25 (by decide) (fun hh => ?_) (fun hh => ?_)
    · replace h := h.1 hh
      refine ww_iload_n C.1 dX10_harmBy_43 3 rfl rfl ?_
      refine ww_iconst C.1 (v := (2 : Int32)) dX10_harmBy_44 (by decide) ?_
      refine ww_icmp_ne (x := x3) (y := (2 : Int32)) C.1 (tgt := 57) dX10_harmBy_45 (by decide) (fun hh => ?_) (fun hh => ?_)
      · replace h := h.1 hh
        refine ww_iload_n C.1 dX10_harmBy_57 3 rfl rfl ?_
        refine ww_iconst C.1 (v := (3 : Int32)) dX10_harmBy_58 (by decide) ?_
        refine ww_icmp_eq (x := x3) (y := (3 : Int32)) C.1 (tgt := 67) dX10_harmBy_59 (by decide) (fun hh => ?_) (fun hh => ?_)
        · replace h := h.1 hh
          refine ww_iload C.1 dX10_harmBy_67 4 rfl ?_
          refine ww_iconst C.1 (v := (2 : Int32)) dX10_harmBy_69 (by decide) ?_
          refine ww_icmp_le (x := x4) (y := (2 : Int32)) C.1 (tgt := 80) dX10_harmBy_70 (by decide) (fun hh => ?_) (fun hh => ?_)
          · replace h := h.1 hh
            refine ww_iconst C.1 (v := (0 : Int32)) dX10_harmBy_80 (by decide) ?_
            refine ww_iret C.1 dX10_harmBy_81 rfl ?_
            exact h
          · replace h := h.2 hh
            refine ww_iload C.1 dX10_harmBy_73 4 rfl ?_
            refine ww_iconst C.1 (v := (2 : Int32)) dX10_harmBy_75 (by decide) ?_
            refine ww_isub C.1 dX10_harmBy_76 ?_
            refine ww_goto C.1 (tgt := 81) dX10_harmBy_77 (by decide) ?_
            refine ww_iret C.1 dX10_harmBy_81 rfl ?_
            exact h
        · replace h := h.2 hh
          refine ww_iload C.1 dX10_harmBy_62 4 rfl ?_
          refine ww_goto C.1 (tgt := 81) dX10_harmBy_64 (by decide) ?_
          refine ww_iret C.1 dX10_harmBy_81 rfl ?_
          exact h
      · replace h := h.2 hh
        refine ww_iload_n C.1 dX10_harmBy_48 2 rfl rfl ?_
        refine ww_if_ge (x := x2) C.1 (tgt := 57) dX10_harmBy_49 (by decide) (fun hh => ?_) (fun hh => ?_)
        · replace h := h.1 hh
          refine ww_iload_n C.1 dX10_harmBy_57 3 rfl rfl ?_
          refine ww_iconst C.1 (v := (3 : Int32)) dX10_harmBy_58 (by decide) ?_
          refine ww_icmp_eq (x := x3) (y := (3 : Int32)) C.1 (tgt := 67) dX10_harmBy_59 (by decide) (fun hh => ?_) (fun hh => ?_)
          · replace h := h.1 hh
            refine ww_iload C.1 dX10_harmBy_67 4 rfl ?_
            refine ww_iconst C.1 (v := (2 : Int32)) dX10_harmBy_69 (by decide) ?_
            refine ww_icmp_le (x := x4) (y := (2 : Int32)) C.1 (tgt := 80) dX10_harmBy_70 (by decide) (fun hh => ?_) (fun hh => ?_)
            · replace h := h.1 hh
              refine ww_iconst C.1 (v := (0 : Int32)) dX10_harmBy_80 (by decide) ?_
              refine ww_iret C.1 dX10_harmBy_81 rfl ?_
              exact h
            · replace h := h.2 hh
              refine ww_iload C.1 dX10_harmBy_73 4 rfl ?_
              refine ww_iconst C.1 (v := (2 : Int32)) dX10_harmBy_75 (by decide) ?_
              refine ww_isub C.1 dX10_harmBy_76 ?_
              refine ww_goto C.1 (tgt := 81) dX10_harmBy_77 (by decide) ?_
              refine ww_iret C.1 dX10_harmBy_81 rfl ?_
              exact h
          · replace h := h.2 hh
            refine ww_iload C.1 dX10_harmBy_62 4 rfl ?_
            refine ww_goto C.1 (tgt := 81) dX10_harmBy_64 (by decide) ?_
            refine ww_iret C.1 dX10_harmBy_81 rfl ?_
            exact h
        · replace h := h.2 hh
          refine ww_iconst C.1 (v := (2 : Int32)) dX10_harmBy_52 (by decide) ?_
          refine ww_iload C.1 dX10_harmBy_53 4 rfl ?_
          refine ww_imul C.1 dX10_harmBy_55 ?_
          refine ww_iret C.1 dX10_harmBy_56 rfl ?_
          exact h
    · replace h := h.2 hh
      refine ww_iload_n C.1 dX10_harmBy_28 2 rfl rfl ?_
      refine ww_bipush C.1 (v := (6 : Int32)) dX10_harmBy_29 (by decide) ?_
      refine ww_icmp_le (x := x2) (y := (6 : Int32)) C.1 (tgt := 41) dX10_harmBy_31 (by decide) (fun hh => ?_) (fun hh => ?_)
      · replace h := h.1 hh
        refine ww_iconst C.1 (v := (0 : Int32)) dX10_harmBy_41 (by decide) ?_
        refine ww_iret C.1 dX10_harmBy_42 rfl ?_
        exact h
      · replace h := h.2 hh
        refine ww_iload_n C.1 dX10_harmBy_34 2 rfl rfl ?_
        refine ww_bipush C.1 (v := (6 : Int32)) dX10_harmBy_35 (by decide) ?_
        refine ww_isub C.1 dX10_harmBy_37 ?_
        refine ww_goto C.1 (tgt := 42) dX10_harmBy_38 (by decide) ?_
        refine ww_iret C.1 dX10_harmBy_42 rfl ?_
        exact h
set_option maxHeartbeats 4000000 in
set_option maxRecDepth 20000 in
theorem bX10_harmOf_0 {X : CX} {Q : State → Prop} {M : Mem} {x1 x2 x3 : Int32} (C : Ok0 X mX10_harmOf (TTc ++ TTm))
    (h : WpI mX10_inchesOn [.ref 57, .int x1, .int x3] M (gj gm) (TTc ++ TTm) (fun r M' => WW X Q 8 [(0, .ref 57), (1, .int x1), (2, .int x2), (3, .int x3)] [.int r, .int x1, .ref 57] (M', (gj gm), TTc ++ TTm))) :
    WW X Q 0 [(0, .ref 57), (1, .int x1), (2, .int x2), (3, .int x3)] [] (M, (gj gm), TTc ++ TTm) := by
  refine ww_aload_n C.1 dX10_harmOf_0 0 rfl rfl ?_
  refine ww_iload_n C.1 dX10_harmOf_1 1 rfl rfl ?_
  refine ww_aload_n C.1 dX10_harmOf_2 0 rfl rfl ?_
  refine ww_iload_n C.1 dX10_harmOf_3 1 rfl rfl ?_
  refine ww_iload_n C.1 dX10_harmOf_4 3 rfl rfl ?_
  refine ww_vI C fX10_inchesOn (And.intro (by decide) (by decide)) mlRX10_203 dX10_harmOf_5 tm57 (by decide) rfl (As := [.int x1, .int x3]) (rest := [.int x1, .ref 57]) rfl rfl rfl (Nat.le_of_ble_eq_true rfl) ?_
  exact h
set_option maxHeartbeats 4000000 in
set_option maxRecDepth 20000 in
theorem bX10_harmOf_8 {X : CX} {Q : State → Prop} {M : Mem} {x1 x2 x3 s1 s2 : Int32} (C : Ok0 X mX10_harmOf (TTc ++ TTm))
    (h : WpI mX10_lengthOn [.ref 57, .int x2, .int x3] M (gj gm) (TTc ++ TTm) (fun r M' => WW X Q 14 [(0, .ref 57), (1, .int x1), (2, .int x2), (3, .int x3)] [.int r, .int s2, .int s1, .ref 57] (M', (gj gm), TTc ++ TTm))) :
    WW X Q 8 [(0, .ref 57), (1, .int x1), (2, .int x2), (3, .int x3)] [.int s2, .int s1, .ref 57] (M, (gj gm), TTc ++ TTm) := by
  refine ww_aload_n C.1 dX10_harmOf_8 0 rfl rfl ?_
  refine ww_iload_n C.1 dX10_harmOf_9 2 rfl rfl ?_
  refine ww_iload_n C.1 dX10_harmOf_10 3 rfl rfl ?_
  refine ww_vI C fX10_lengthOn (And.intro (by decide) (by decide)) mlRX10_199 dX10_harmOf_11 tm57 (by decide) rfl (As := [.int x2, .int x3]) (rest := [.int s2, .int s1, .ref 57]) rfl rfl rfl (Nat.le_of_ble_eq_true rfl) ?_
  exact h
set_option maxHeartbeats 4000000 in
set_option maxRecDepth 20000 in
theorem bX10_harmOf_14 {X : CX} {Q : State → Prop} {M : Mem} {x1 x2 x3 s1 s2 s3 : Int32} (C : Ok0 X mX10_harmOf (TTc ++ TTm))
    (h : WpI mX10_harmBy [.ref 57, .int s1, .int (s2 - s3)] M (gj gm) (TTc ++ TTm) (fun r M' => WW X Q 18 [(0, .ref 57), (1, .int x1), (2, .int x2), (3, .int x3)] [.int r] (M', (gj gm), TTc ++ TTm))) :
    WW X Q 14 [(0, .ref 57), (1, .int x1), (2, .int x2), (3, .int x3)] [.int s3, .int s2, .int s1, .ref 57] (M, (gj gm), TTc ++ TTm) := by
  refine ww_isub C.1 dX10_harmOf_14 ?_
  refine ww_vI C fX10_harmBy (And.intro (by decide) (by decide)) mlRX10_206 dX10_harmOf_15 tm57 (by decide) rfl (As := [.int s1, .int (s2 - s3)]) (rest := []) rfl rfl rfl (Nat.le_of_ble_eq_true rfl) ?_
  exact h
set_option maxHeartbeats 4000000 in
set_option maxRecDepth 20000 in
theorem bX10_harmOf_18 {X : CX} {Q : State → Prop} {M : Mem} {x1 x2 x3 s0 : Int32} (C : Ok0 X mX10_harmOf (TTc ++ TTm))
    (h : RetOK X Q (some (.int s0)) (M, (gj gm), TTc ++ TTm)) :
    WW X Q 18 [(0, .ref 57), (1, .int x1), (2, .int x2), (3, .int x3)] [.int s0] (M, (gj gm), TTc ++ TTm) := by
  refine ww_iret C.1 dX10_harmOf_18 rfl ?_
  exact h
set_option maxHeartbeats 4000000 in
set_option maxRecDepth 20000 in
theorem bX10_harm_0 {X : CX} {Q : State → Prop} {M : Mem} {x1 x2 x3 : Int32} (C : Ok0 X mX10_harm (TTc ++ TTm))
    (h : ((x1 < (0 : Int32) → RetOK X Q (some (.int (-1 : Int32))) (M, (gj gm), TTc ++ TTm)) ∧ (¬ x1 < (0 : Int32) → ((((M 57 7) - (1 : Int32)) < x1 → RetOK X Q (some (.int (-1 : Int32))) (M, (gj gm), TTc ++ TTm)) ∧ (¬ ((M 57 7) - (1 : Int32)) < x1 → ((x2 < (0 : Int32) → RetOK X Q (some (.int (-1 : Int32))) (M, (gj gm), TTc ++ TTm)) ∧ (¬ x2 < (0 : Int32) → ((((M 57 1) - (1 : Int32)) < x2 → RetOK X Q (some (.int (-1 : Int32))) (M, (gj gm), TTc ++ TTm)) ∧ (¬ ((M 57 1) - (1 : Int32)) < x2 → ((x3 < (0 : Int32) → RetOK X Q (some (.int (-1 : Int32))) (M, (gj gm), TTc ++ TTm)) ∧ (¬ x3 < (0 : Int32) → (((29 : Int32) < x3 → RetOK X Q (some (.int (-1 : Int32))) (M, (gj gm), TTc ++ TTm)) ∧ (¬ (29 : Int32) < x3 → WpI mX10_harmOf [.ref 57, .int x1, .int x2, .int x3] M (gj gm) (TTc ++ TTm) (fun r M' => WW X Q 30 [(0, .ref 57), (1, .int x1), (2, .int x2), (3, .int x3)] [.int r] (M', (gj gm), TTc ++ TTm))))))))))))))) :
    WW X Q 0 [(0, .ref 57), (1, .int x1), (2, .int x2), (3, .int x3)] [] (M, (gj gm), TTc ++ TTm) := by
  refine ww_aload_n C.1 dX10_harm_0 0 rfl rfl ?_
  refine ww_iload_n C.1 dX10_harm_1 1 rfl rfl ?_
  refine ww_vI C fX10_isGuest (And.intro (by decide) (by decide)) mlRX10_209 dX10_harm_2 tm57 (by decide) rfl (As := [.int x1]) (rest := []) rfl rfl rfl (Nat.le_of_ble_eq_true rfl) (WpI.of (L0 := [(0, .ref 57), (1, .int x1)]) rfl rfl (Nat.le_of_ble_eq_true rfl) fun X1 Q1 C1 k1 => ?_)
  refine ww_iload_n C1.1 dX10_isGuest_0 1 rfl rfl ?_
  refine ww_i2l C1.1 dX10_isGuest_1 rfl ?_
  refine ww_lconst C1.1 (v := 0) dX10_isGuest_2 (by decide) ?_
  refine ww_aload_n C1.1 dX10_isGuest_3 0 rfl rfl ?_
  refine wt_getI C1.1 dX10_isGuest_4 flRX10_29 tm57 rfl ?_
  refine ww_iconst C1.1 (v := (1 : Int32)) dX10_isGuest_7 (by decide) ?_
  refine ww_isub C1.1 dX10_isGuest_8 ?_
  refine ww_i2l C1.1 dX10_isGuest_9 rfl ?_
  refine ww_sI C1 fX10_in (And.intro (by decide) (by decide)) mlRX10_101 dX10_isGuest_10 (As := [.long x1.toInt64, .long (0 : Int64), .long ((M 57 7) - (1 : Int32)).toInt64]) (rest := []) rfl rfl rfl (Nat.le_of_ble_eq_true rfl) (WpI.of (L0 := [(0, .long x1.toInt64), (2, .long (0 : Int64)), (4, .long ((M 57 7) - (1 : Int32)).toInt64)]) rfl rfl (Nat.le_of_ble_eq_true rfl) fun X2 Q2 C2 k2 => ?_)
  refine ww_lload_n C2.1 dX10_in_0 0 rfl rfl ?_
  refine ww_lload_n C2.1 dX10_in_1 1 rfl rfl ?_
  refine ww_lcmp C2.1 dX10_in_2 ?_
  refine ww_if_lt (x := (lg_cmp x1.toInt64 (0 : Int64))) C2.1 (tgt := 17) dX10_in_3 (by decide) (fun hh => ?_) (fun hh => ?_)
  · replace h := h.1 ((in_lt (a := x1) (b := (0 : Int32)) (by first | rfl | decide) (by first | rfl | decide)).mp hh)
    refine ww_iconst C2.1 (v := (0 : Int32)) dX10_in_17 (by decide) ?_
    refine ww_zret C2.1 dX10_in_18 rfl (Or.inl rfl) ?_
    refine k2 _ _ ?_
    refine ww_zret C1.1 dX10_isGuest_13 rfl (Or.inl rfl) ?_
    refine k1 _ _ ?_
    refine ww_if_eq (x := (0 : Int32)) C.1 (tgt := 33) dX10_harm_5 (by decide) (fun _ => ?_) (fun hh => absurd hh (by decide))
    refine ww_iconst C.1 (v := (-1 : Int32)) dX10_harm_33 (by decide) ?_
    refine ww_iret C.1 dX10_harm_34 rfl ?_
    exact h
  · replace h := h.2 (fun z => hh ((in_lt (a := x1) (b := (0 : Int32)) (by first | rfl | decide) (by first | rfl | decide)).mpr z))
    refine ww_lload_n C2.1 dX10_in_6 0 rfl rfl ?_
    refine ww_lload C2.1 dX10_in_7 2 rfl ?_
    refine ww_lcmp C2.1 dX10_in_9 ?_
    refine ww_if_gt (x := (lg_cmp x1.toInt64 ((M 57 7) - (1 : Int32)).toInt64)) C2.1 (tgt := 17) dX10_in_10 (by decide) (fun hh => ?_) (fun hh => ?_)
    · replace h := h.1 ((in_gt (a := x1) (b := ((M 57 7) - (1 : Int32))) (by first | rfl | decide) (by first | rfl | decide)).mp hh)
      refine ww_iconst C2.1 (v := (0 : Int32)) dX10_in_17 (by decide) ?_
      refine ww_zret C2.1 dX10_in_18 rfl (Or.inl rfl) ?_
      refine k2 _ _ ?_
      refine ww_zret C1.1 dX10_isGuest_13 rfl (Or.inl rfl) ?_
      refine k1 _ _ ?_
      refine ww_if_eq (x := (0 : Int32)) C.1 (tgt := 33) dX10_harm_5 (by decide) (fun _ => ?_) (fun hh => absurd hh (by decide))
      refine ww_iconst C.1 (v := (-1 : Int32)) dX10_harm_33 (by decide) ?_
      refine ww_iret C.1 dX10_harm_34 rfl ?_
      exact h
    · replace h := h.2 (fun z => hh ((in_gt (a := x1) (b := ((M 57 7) - (1 : Int32))) (by first | rfl | decide) (by first | rfl | decide)).mpr z))
      refine ww_iconst C2.1 (v := (1 : Int32)) dX10_in_13 (by decide) ?_
      refine ww_goto C2.1 (tgt := 18) dX10_in_14 (by decide) ?_
      refine ww_zret C2.1 dX10_in_18 rfl (Or.inr rfl) ?_
      refine k2 _ _ ?_
      refine ww_zret C1.1 dX10_isGuest_13 rfl (Or.inr rfl) ?_
      refine k1 _ _ ?_
      refine ww_if_eq (x := (1 : Int32)) C.1 (tgt := 33) dX10_harm_5 (by decide) (fun hh => absurd hh (by decide)) (fun _ => ?_)
      refine ww_aload_n C.1 dX10_harm_8 0 rfl rfl ?_
      refine ww_iload_n C.1 dX10_harm_9 2 rfl rfl ?_
      refine ww_vI C fX10_isBed (And.intro (by decide) (by decide)) mlRX10_193 dX10_harm_10 tm57 (by decide) rfl (As := [.int x2]) (rest := []) rfl rfl rfl (Nat.le_of_ble_eq_true rfl) (WpI.of (L0 := [(0, .ref 57), (1, .int x2)]) rfl rfl (Nat.le_of_ble_eq_true rfl) fun X3 Q3 C3 k3 => ?_)
      refine ww_iload_n C3.1 dX10_isBed_0 1 rfl rfl ?_
      refine ww_i2l C3.1 dX10_isBed_1 rfl ?_
      refine ww_lconst C3.1 (v := 0) dX10_isBed_2 (by decide) ?_
      refine ww_aload_n C3.1 dX10_isBed_3 0 rfl rfl ?_
      refine wt_getI C3.1 dX10_isBed_4 flRX10_13 tm57 rfl ?_
      refine ww_iconst C3.1 (v := (1 : Int32)) dX10_isBed_7 (by decide) ?_
      refine ww_isub C3.1 dX10_isBed_8 ?_
      refine ww_i2l C3.1 dX10_isBed_9 rfl ?_
      refine ww_sI C3 fX10_in (And.intro (by decide) (by decide)) mlRX10_101 dX10_isBed_10 (As := [.long x2.toInt64, .long (0 : Int64), .long ((M 57 1) - (1 : Int32)).toInt64]) (rest := []) rfl rfl rfl (Nat.le_of_ble_eq_true rfl) (WpI.of (L0 := [(0, .long x2.toInt64), (2, .long (0 : Int64)), (4, .long ((M 57 1) - (1 : Int32)).toInt64)]) rfl rfl (Nat.le_of_ble_eq_true rfl) fun X4 Q4 C4 k4 => ?_)
      refine ww_lload_n C4.1 dX10_in_0 0 rfl rfl ?_
      refine ww_lload_n C4.1 dX10_in_1 1 rfl rfl ?_
      refine ww_lcmp C4.1 dX10_in_2 ?_
      refine ww_if_lt (x := (lg_cmp x2.toInt64 (0 : Int64))) C4.1 (tgt := 17) dX10_in_3 (by decide) (fun hh => ?_) (fun hh => ?_)
      · replace h := h.1 ((in_lt (a := x2) (b := (0 : Int32)) (by first | rfl | decide) (by first | rfl | decide)).mp hh)
        refine ww_iconst C4.1 (v := (0 : Int32)) dX10_in_17 (by decide) ?_
        refine ww_zret C4.1 dX10_in_18 rfl (Or.inl rfl) ?_
        refine k4 _ _ ?_
        refine ww_zret C3.1 dX10_isBed_13 rfl (Or.inl rfl) ?_
        refine k3 _ _ ?_
        refine ww_if_eq (x := (0 : Int32)) C.1 (tgt := 33) dX10_harm_13 (by decide) (fun _ => ?_) (fun hh => absurd hh (by decide))
        refine ww_iconst C.1 (v := (-1 : Int32)) dX10_harm_33 (by decide) ?_
        refine ww_iret C.1 dX10_harm_34 rfl ?_
        exact h
      · replace h := h.2 (fun z => hh ((in_lt (a := x2) (b := (0 : Int32)) (by first | rfl | decide) (by first | rfl | decide)).mpr z))
        refine ww_lload_n C4.1 dX10_in_6 0 rfl rfl ?_
        refine ww_lload C4.1 dX10_in_7 2 rfl ?_
        refine ww_lcmp C4.1 dX10_in_9 ?_
        refine ww_if_gt (x := (lg_cmp x2.toInt64 ((M 57 1) - (1 : Int32)).toInt64)) C4.1 (tgt := 17) dX10_in_10 (by decide) (fun hh => ?_) (fun hh => ?_)
        · replace h := h.1 ((in_gt (a := x2) (b := ((M 57 1) - (1 : Int32))) (by first | rfl | decide) (by first | rfl | decide)).mp hh)
          refine ww_iconst C4.1 (v := (0 : Int32)) dX10_in_17 (by decide) ?_
          refine ww_zret C4.1 dX10_in_18 rfl (Or.inl rfl) ?_
          refine k4 _ _ ?_
          refine ww_zret C3.1 dX10_isBed_13 rfl (Or.inl rfl) ?_
          refine k3 _ _ ?_
          refine ww_if_eq (x := (0 : Int32)) C.1 (tgt := 33) dX10_harm_13 (by decide) (fun _ => ?_) (fun hh => absurd hh (by decide))
          refine ww_iconst C.1 (v := (-1 : Int32)) dX10_harm_33 (by decide) ?_
          refine ww_iret C.1 dX10_harm_34 rfl ?_
          exact h
        · replace h := h.2 (fun z => hh ((in_gt (a := x2) (b := ((M 57 1) - (1 : Int32))) (by first | rfl | decide) (by first | rfl | decide)).mpr z))
          refine ww_iconst C4.1 (v := (1 : Int32)) dX10_in_13 (by decide) ?_
          refine ww_goto C4.1 (tgt := 18) dX10_in_14 (by decide) ?_
          refine ww_zret C4.1 dX10_in_18 rfl (Or.inr rfl) ?_
          refine k4 _ _ ?_
          refine ww_zret C3.1 dX10_isBed_13 rfl (Or.inr rfl) ?_
          refine k3 _ _ ?_
          refine ww_if_eq (x := (1 : Int32)) C.1 (tgt := 33) dX10_harm_13 (by decide) (fun hh => absurd hh (by decide)) (fun _ => ?_)
          refine ww_iload_n C.1 dX10_harm_16 3 rfl rfl ?_
          refine ww_sI C fX10_isNight (And.intro (by decide) (by decide)) mlRX10_196 dX10_harm_17 (As := [.int x3]) (rest := []) rfl rfl rfl (Nat.le_of_ble_eq_true rfl) (WpI.of (L0 := [(0, .int x3)]) rfl rfl (Nat.le_of_ble_eq_true rfl) fun X5 Q5 C5 k5 => ?_)
          refine ww_iload_n C5.1 dX10_isNight_0 0 rfl rfl ?_
          refine ww_i2l C5.1 dX10_isNight_1 rfl ?_
          refine ww_lconst C5.1 (v := 0) dX10_isNight_2 (by decide) ?_
          refine ww_ldc2 C5.1 kcRX10_105 dX10_isNight_3 ?_
          refine ww_sI C5 fX10_in (And.intro (by decide) (by decide)) mlRX10_101 dX10_isNight_6 (As := [.long x3.toInt64, .long (0 : Int64), .long (29 : Int64)]) (rest := []) rfl rfl rfl (Nat.le_of_ble_eq_true rfl) (WpI.of (L0 := [(0, .long x3.toInt64), (2, .long (0 : Int64)), (4, .long (29 : Int64))]) rfl rfl (Nat.le_of_ble_eq_true rfl) fun X6 Q6 C6 k6 => ?_)
          refine ww_lload_n C6.1 dX10_in_0 0 rfl rfl ?_
          refine ww_lload_n C6.1 dX10_in_1 1 rfl rfl ?_
          refine ww_lcmp C6.1 dX10_in_2 ?_
          refine ww_if_lt (x := (lg_cmp x3.toInt64 (0 : Int64))) C6.1 (tgt := 17) dX10_in_3 (by decide) (fun hh => ?_) (fun hh => ?_)
          · replace h := h.1 ((in_lt (a := x3) (b := (0 : Int32)) (by first | rfl | decide) (by first | rfl | decide)).mp hh)
            refine ww_iconst C6.1 (v := (0 : Int32)) dX10_in_17 (by decide) ?_
            refine ww_zret C6.1 dX10_in_18 rfl (Or.inl rfl) ?_
            refine k6 _ _ ?_
            refine ww_zret C5.1 dX10_isNight_9 rfl (Or.inl rfl) ?_
            refine k5 _ _ ?_
            refine ww_if_eq (x := (0 : Int32)) C.1 (tgt := 33) dX10_harm_20 (by decide) (fun _ => ?_) (fun hh => absurd hh (by decide))
            refine ww_iconst C.1 (v := (-1 : Int32)) dX10_harm_33 (by decide) ?_
            refine ww_iret C.1 dX10_harm_34 rfl ?_
            exact h
          · replace h := h.2 (fun z => hh ((in_lt (a := x3) (b := (0 : Int32)) (by first | rfl | decide) (by first | rfl | decide)).mpr z))
            refine ww_lload_n C6.1 dX10_in_6 0 rfl rfl ?_
            refine ww_lload C6.1 dX10_in_7 2 rfl ?_
            refine ww_lcmp C6.1 dX10_in_9 ?_
            refine ww_if_gt (x := (lg_cmp x3.toInt64 (29 : Int64))) C6.1 (tgt := 17) dX10_in_10 (by decide) (fun hh => ?_) (fun hh => ?_)
            · replace h := h.1 ((in_gt (a := x3) (b := (29 : Int32)) (by first | rfl | decide) (by first | rfl | decide)).mp hh)
              refine ww_iconst C6.1 (v := (0 : Int32)) dX10_in_17 (by decide) ?_
              refine ww_zret C6.1 dX10_in_18 rfl (Or.inl rfl) ?_
              refine k6 _ _ ?_
              refine ww_zret C5.1 dX10_isNight_9 rfl (Or.inl rfl) ?_
              refine k5 _ _ ?_
              refine ww_if_eq (x := (0 : Int32)) C.1 (tgt := 33) dX10_harm_20 (by decide) (fun _ => ?_) (fun hh => absurd hh (by decide))
              refine ww_iconst C.1 (v := (-1 : Int32)) dX10_harm_33 (by decide) ?_
              refine ww_iret C.1 dX10_harm_34 rfl ?_
              exact h
            · replace h := h.2 (fun z => hh ((in_gt (a := x3) (b := (29 : Int32)) (by first | rfl | decide) (by first | rfl | decide)).mpr z))
              refine ww_iconst C6.1 (v := (1 : Int32)) dX10_in_13 (by decide) ?_
              refine ww_goto C6.1 (tgt := 18) dX10_in_14 (by decide) ?_
              refine ww_zret C6.1 dX10_in_18 rfl (Or.inr rfl) ?_
              refine k6 _ _ ?_
              refine ww_zret C5.1 dX10_isNight_9 rfl (Or.inr rfl) ?_
              refine k5 _ _ ?_
              refine ww_if_eq (x := (1 : Int32)) C.1 (tgt := 33) dX10_harm_20 (by decide) (fun hh => absurd hh (by decide)) (fun _ => ?_)
              refine ww_aload_n C.1 dX10_harm_23 0 rfl rfl ?_
              refine ww_iload_n C.1 dX10_harm_24 1 rfl rfl ?_
              refine ww_iload_n C.1 dX10_harm_25 2 rfl rfl ?_
              refine ww_iload_n C.1 dX10_harm_26 3 rfl rfl ?_
              refine ww_vI C fX10_harmOf (And.intro (by decide) (by decide)) mlRX10_212 dX10_harm_27 tm57 (by decide) rfl (As := [.int x1, .int x2, .int x3]) (rest := []) rfl rfl rfl (Nat.le_of_ble_eq_true rfl) ?_
              exact h
set_option maxHeartbeats 4000000 in
set_option maxRecDepth 20000 in
theorem bX10_harm_30 {X : CX} {Q : State → Prop} {M : Mem} {x1 x2 x3 s0 : Int32} (C : Ok0 X mX10_harm (TTc ++ TTm))
    (h : RetOK X Q (some (.int s0)) (M, (gj gm), TTc ++ TTm)) :
    WW X Q 30 [(0, .ref 57), (1, .int x1), (2, .int x2), (3, .int x3)] [.int s0] (M, (gj gm), TTc ++ TTm) := by
  refine ww_goto C.1 (tgt := 34) dX10_harm_30 (by decide) ?_
  refine ww_iret C.1 dX10_harm_34 rfl ?_
  exact h
set_option maxHeartbeats 4000000 in
set_option maxRecDepth 20000 in
theorem bX10_placeOf_0 {X : CX} {Q : State → Prop} {M : Mem} {x1 : Int32} (C : Ok0 X mX10_placeOf (TTc ++ TTm))
    (h : WW X Q 2 [(0, .ref 57), (1, .int x1), (2, .int (0 : Int32))] [] (M, (gj gm), TTc ++ TTm)) :
    WW X Q 0 [(0, .ref 57), (1, .int x1)] [] (M, (gj gm), TTc ++ TTm) := by
  refine ww_iconst C.1 (v := (0 : Int32)) dX10_placeOf_0 (by decide) ?_
  refine ww_istore_n C.1 dX10_placeOf_1 rfl (by decide) [1, 2, 0] (L' := [(0, .ref 57), (1, .int x1), (2, .int (0 : Int32))]) rfl ?_
  exact h
set_option maxHeartbeats 4000000 in
set_option maxRecDepth 20000 in
theorem bX10_placeOf_2 {X : CX} {Q : State → Prop} {M : Mem} {x1 x2 : Int32} (C : Ok0 X mX10_placeOf (TTc ++ TTm))
    (h : (vp_in x2 21 ∧ (((M 64 x2.toNatClampNeg) = x1 → RetOK X Q (some (.int x2)) (M, (gj gm), TTc ++ TTm)) ∧ (¬ (M 64 x2.toNatClampNeg) = x1 → WW X Q 2 [(0, .ref 57), (1, .int x1), (2, .int (x2 + (1 : Int32)))] [] (M, (gj gm), TTc ++ TTm))))) :
    WW X Q 2 [(0, .ref 57), (1, .int x1), (2, .int x2)] [] (M, (gj gm), TTc ++ TTm) := by
  refine ww_aload_n C.1 dX10_placeOf_2 0 rfl rfl ?_
  refine wt_getR C.1 dX10_placeOf_3 flRX10_38 tm57 rfl gm57_11 ?_
  refine ww_iload_n C.1 dX10_placeOf_6 2 rfl rfl ?_
  refine wt_iald C.1 dX10_placeOf_7 tm64 h.1 ?_
  replace h := h.2
  refine ww_iload_n C.1 dX10_placeOf_8 1 rfl rfl ?_
  refine ww_icmp_eq (x := (M 64 x2.toNatClampNeg)) (y := x1) C.1 (tgt := 18) dX10_placeOf_9 (by decide) (fun hh => ?_) (fun hh => ?_)
  · replace h := h.1 hh
    refine ww_iload_n C.1 dX10_placeOf_18 2 rfl rfl ?_
    refine ww_iret C.1 dX10_placeOf_19 rfl ?_
    exact h
  · replace h := h.2 hh
    refine ww_iinc C.1 (v := (x2 + (1 : Int32))) dX10_placeOf_12 2 rfl (by rfl) (by decide) [1, 2, 0] (L' := [(0, .ref 57), (1, .int x1), (2, .int (x2 + (1 : Int32)))]) rfl ?_
    refine ww_goto C.1 (tgt := 2) dX10_placeOf_15 (by decide) ?_
    exact h
set_option maxHeartbeats 4000000 in
set_option maxRecDepth 20000 in
theorem bX10_guest_0 {X : CX} {Q : State → Prop} {M : Mem} {x1 x2 : Int32} (C : Ok0 X mX10_guest (TTc ++ TTm))
    (h : ((x1 < (0 : Int32) → RetOK X Q (some (.int (-1 : Int32))) (M, (gj gm), TTc ++ TTm)) ∧ (¬ x1 < (0 : Int32) → ((((M 57 7) - (1 : Int32)) < x1 → RetOK X Q (some (.int (-1 : Int32))) (M, (gj gm), TTc ++ TTm)) ∧ (¬ ((M 57 7) - (1 : Int32)) < x1 → ((x2 = (0 : Int32) → (vp_in x1 7 ∧ RetOK X Q (some (.int (M 60 x1.toNatClampNeg))) (M, (gj gm), TTc ++ TTm))) ∧ (¬ x2 = (0 : Int32) → ((x2 = (1 : Int32) → (vp_in ((14 : Int32) + x1) 21 ∧ RetOK X Q (some (.int (M 64 ((14 : Int32) + x1).toNatClampNeg))) (M, (gj gm), TTc ++ TTm))) ∧ (¬ x2 = (1 : Int32) → ((x2 = (2 : Int32) → (vp_in x1 7 ∧ RetOK X Q (some (.int (M 61 x1.toNatClampNeg))) (M, (gj gm), TTc ++ TTm))) ∧ (¬ x2 = (2 : Int32) → ((x2 = (3 : Int32) → (vp_in ((7 : Int32) + x1) 21 ∧ RetOK X Q (some (.int ((M 64 ((7 : Int32) + x1).toNatClampNeg) + (100 : Int32)))) (M, (gj gm), TTc ++ TTm))) ∧ (¬ x2 = (3 : Int32) → ((x2 = (4 : Int32) → (vp_in x1 7 ∧ RetOK X Q (some (.int (M 62 x1.toNatClampNeg))) (M, (gj gm), TTc ++ TTm))) ∧ (¬ x2 = (4 : Int32) → ((x2 = (5 : Int32) → WpI mX10_placeOf [.ref 57, .int x1] M (gj gm) (TTc ++ TTm) (fun r M' => WW X Q 97 [(0, .ref 57), (1, .int x1), (2, .int x2)] [.int r] (M', (gj gm), TTc ++ TTm))) ∧ (¬ x2 = (5 : Int32) → RetOK X Q (some (.int (-1 : Int32))) (M, (gj gm), TTc ++ TTm)))))))))))))))))) :
    WW X Q 0 [(0, .ref 57), (1, .int x1), (2, .int x2)] [] (M, (gj gm), TTc ++ TTm) := by
  refine ww_aload_n C.1 dX10_guest_0 0 rfl rfl ?_
  refine ww_iload_n C.1 dX10_guest_1 1 rfl rfl ?_
  refine ww_vI C fX10_isGuest (And.intro (by decide) (by decide)) mlRX10_209 dX10_guest_2 tm57 (by decide) rfl (As := [.int x1]) (rest := []) rfl rfl rfl (Nat.le_of_ble_eq_true rfl) (WpI.of (L0 := [(0, .ref 57), (1, .int x1)]) rfl rfl (Nat.le_of_ble_eq_true rfl) fun X1 Q1 C1 k1 => ?_)
  refine ww_iload_n C1.1 dX10_isGuest_0 1 rfl rfl ?_
  refine ww_i2l C1.1 dX10_isGuest_1 rfl ?_
  refine ww_lconst C1.1 (v := 0) dX10_isGuest_2 (by decide) ?_
  refine ww_aload_n C1.1 dX10_isGuest_3 0 rfl rfl ?_
  refine wt_getI C1.1 dX10_isGuest_4 flRX10_29 tm57 rfl ?_
  refine ww_iconst C1.1 (v := (1 : Int32)) dX10_isGuest_7 (by decide) ?_
  refine ww_isub C1.1 dX10_isGuest_8 ?_
  refine ww_i2l C1.1 dX10_isGuest_9 rfl ?_
  refine ww_sI C1 fX10_in (And.intro (by decide) (by decide)) mlRX10_101 dX10_isGuest_10 (As := [.long x1.toInt64, .long (0 : Int64), .long ((M 57 7) - (1 : Int32)).toInt64]) (rest := []) rfl rfl rfl (Nat.le_of_ble_eq_true rfl) (WpI.of (L0 := [(0, .long x1.toInt64), (2, .long (0 : Int64)), (4, .long ((M 57 7) - (1 : Int32)).toInt64)]) rfl rfl (Nat.le_of_ble_eq_true rfl) fun X2 Q2 C2 k2 => ?_)
  refine ww_lload_n C2.1 dX10_in_0 0 rfl rfl ?_
  refine ww_lload_n C2.1 dX10_in_1 1 rfl rfl ?_
  refine ww_lcmp C2.1 dX10_in_2 ?_
  refine ww_if_lt (x := (lg_cmp x1.toInt64 (0 : Int64))) C2.1 (tgt := 17) dX10_in_3 (by decide) (fun hh => ?_) (fun hh => ?_)
  · replace h := h.1 ((in_lt (a := x1) (b := (0 : Int32)) (by first | rfl | decide) (by first | rfl | decide)).mp hh)
    refine ww_iconst C2.1 (v := (0 : Int32)) dX10_in_17 (by decide) ?_
    refine ww_zret C2.1 dX10_in_18 rfl (Or.inl rfl) ?_
    refine k2 _ _ ?_
    refine ww_zret C1.1 dX10_isGuest_13 rfl (Or.inl rfl) ?_
    refine k1 _ _ ?_
    refine ww_if_ne (x := (0 : Int32)) C.1 (tgt := 10) dX10_guest_5 (by decide) (fun hh => absurd hh (by decide)) (fun _ => ?_)
    refine ww_iconst C.1 (v := (-1 : Int32)) dX10_guest_8 (by decide) ?_
    refine ww_iret C.1 dX10_guest_9 rfl ?_
    exact h
  · replace h := h.2 (fun z => hh ((in_lt (a := x1) (b := (0 : Int32)) (by first | rfl | decide) (by first | rfl | decide)).mpr z))
    refine ww_lload_n C2.1 dX10_in_6 0 rfl rfl ?_
    refine ww_lload C2.1 dX10_in_7 2 rfl ?_
    refine ww_lcmp C2.1 dX10_in_9 ?_
    refine ww_if_gt (x := (lg_cmp x1.toInt64 ((M 57 7) - (1 : Int32)).toInt64)) C2.1 (tgt := 17) dX10_in_10 (by decide) (fun hh => ?_) (fun hh => ?_)
    · replace h := h.1 ((in_gt (a := x1) (b := ((M 57 7) - (1 : Int32))) (by first | rfl | decide) (by first | rfl | decide)).mp hh)
      refine ww_iconst C2.1 (v := (0 : Int32)) dX10_in_17 (by decide) ?_
      refine ww_zret C2.1 dX10_in_18 rfl (Or.inl rfl) ?_
      refine k2 _ _ ?_
      refine ww_zret C1.1 dX10_isGuest_13 rfl (Or.inl rfl) ?_
      refine k1 _ _ ?_
      refine ww_if_ne (x := (0 : Int32)) C.1 (tgt := 10) dX10_guest_5 (by decide) (fun hh => absurd hh (by decide)) (fun _ => ?_)
      refine ww_iconst C.1 (v := (-1 : Int32)) dX10_guest_8 (by decide) ?_
      refine ww_iret C.1 dX10_guest_9 rfl ?_
      exact h
    · replace h := h.2 (fun z => hh ((in_gt (a := x1) (b := ((M 57 7) - (1 : Int32))) (by first | rfl | decide) (by first | rfl | decide)).mpr z))
      refine ww_iconst C2.1 (v := (1 : Int32)) dX10_in_13 (by decide) ?_
      refine ww_goto C2.1 (tgt := 18) dX10_in_14 (by decide) ?_
      refine ww_zret C2.1 dX10_in_18 rfl (Or.inr rfl) ?_
      refine k2 _ _ ?_
      refine ww_zret C1.1 dX10_isGuest_13 rfl (Or.inr rfl) ?_
      refine k1 _ _ ?_
      refine ww_if_ne (x := (1 : Int32)) C.1 (tgt := 10) dX10_guest_5 (by decide) (fun _ => ?_) (fun hh => absurd hh (by decide))
      refine ww_iload_n C.1 dX10_guest_10 2 rfl rfl ?_
      by_cases hc0 : x2 = (0 : Int32)
      · replace h := h.1 hc0
        refine ww_tableIn (x := x2) C.1 (tgt := 48) dX10_guest_11 (by rw [hc0]; decide) (by rw [hc0]; decide) (by rw [hc0]; rfl) (by decide) ?_
        refine ww_aload_n C.1 dX10_guest_48 0 rfl rfl ?_
        refine wt_getR C.1 dX10_guest_49 flRX10_20 tm57 rfl gm57_4 ?_
        refine ww_iload_n C.1 dX10_guest_52 1 rfl rfl ?_
        refine wt_iald C.1 dX10_guest_53 tm60 h.1 ?_
        replace h := h.2
        refine ww_iret C.1 dX10_guest_54 rfl ?_
        exact h
      · replace h := h.2 hc0
        by_cases hc1 : x2 = (1 : Int32)
        · replace h := h.1 hc1
          refine ww_tableIn (x := x2) C.1 (tgt := 55) dX10_guest_11 (by rw [hc1]; decide) (by rw [hc1]; decide) (by rw [hc1]; rfl) (by decide) ?_
          refine ww_aload_n C.1 dX10_guest_55 0 rfl rfl ?_
          refine wt_getR C.1 dX10_guest_56 flRX10_38 tm57 rfl gm57_11 ?_
          refine ww_bipush C.1 (v := (14 : Int32)) dX10_guest_59 (by decide) ?_
          refine ww_iload_n C.1 dX10_guest_61 1 rfl rfl ?_
          refine ww_iadd C.1 dX10_guest_62 ?_
          refine wt_iald C.1 dX10_guest_63 tm64 h.1 ?_
          replace h := h.2
          refine ww_iret C.1 dX10_guest_64 rfl ?_
          exact h
        · replace h := h.2 hc1
          by_cases hc2 : x2 = (2 : Int32)
          · replace h := h.1 hc2
            refine ww_tableIn (x := x2) C.1 (tgt := 65) dX10_guest_11 (by rw [hc2]; decide) (by rw [hc2]; decide) (by rw [hc2]; rfl) (by decide) ?_
            refine ww_aload_n C.1 dX10_guest_65 0 rfl rfl ?_
            refine wt_getR C.1 dX10_guest_66 flRX10_23 tm57 rfl gm57_5 ?_
            refine ww_iload_n C.1 dX10_guest_69 1 rfl rfl ?_
            refine wt_iald C.1 dX10_guest_70 tm61 h.1 ?_
            replace h := h.2
            refine ww_iret C.1 dX10_guest_71 rfl ?_
            exact h
          · replace h := h.2 hc2
            by_cases hc3 : x2 = (3 : Int32)
            · replace h := h.1 hc3
              refine ww_tableIn (x := x2) C.1 (tgt := 72) dX10_guest_11 (by rw [hc3]; decide) (by rw [hc3]; decide) (by rw [hc3]; rfl) (by decide) ?_
              refine ww_aload_n C.1 dX10_guest_72 0 rfl rfl ?_
              refine wt_getR C.1 dX10_guest_73 flRX10_38 tm57 rfl gm57_11 ?_
              refine ww_bipush C.1 (v := (7 : Int32)) dX10_guest_76 (by decide) ?_
              refine ww_iload_n C.1 dX10_guest_78 1 rfl rfl ?_
              refine ww_iadd C.1 dX10_guest_79 ?_
              refine wt_iald C.1 dX10_guest_80 tm64 h.1 ?_
              replace h := h.2
              refine ww_bipush C.1 (v := (100 : Int32)) dX10_guest_81 (by decide) ?_
              refine ww_iadd C.1 dX10_guest_83 ?_
              refine ww_iret C.1 dX10_guest_84 rfl ?_
              exact h
            · replace h := h.2 hc3
              by_cases hc4 : x2 = (4 : Int32)
              · replace h := h.1 hc4
                refine ww_tableIn (x := x2) C.1 (tgt := 85) dX10_guest_11 (by rw [hc4]; decide) (by rw [hc4]; decide) (by rw [hc4]; rfl) (by decide) ?_
                refine ww_aload_n C.1 dX10_guest_85 0 rfl rfl ?_
                refine wt_getR C.1 dX10_guest_86 flRX10_26 tm57 rfl gm57_6 ?_
                refine ww_iload_n C.1 dX10_guest_89 1 rfl rfl ?_
                refine wt_iald C.1 dX10_guest_90 tm62 h.1 ?_
                replace h := h.2
                refine ww_iret C.1 dX10_guest_91 rfl ?_
                exact h
              · replace h := h.2 hc4
                by_cases hc5 : x2 = (5 : Int32)
                · replace h := h.1 hc5
                  refine ww_tableIn (x := x2) C.1 (tgt := 92) dX10_guest_11 (by rw [hc5]; decide) (by rw [hc5]; decide) (by rw [hc5]; rfl) (by decide) ?_
                  refine ww_aload_n C.1 dX10_guest_92 0 rfl rfl ?_
                  refine ww_iload_n C.1 dX10_guest_93 1 rfl rfl ?_
                  refine ww_vI C fX10_placeOf (And.intro (by decide) (by decide)) mlRX10_216 dX10_guest_94 tm57 (by decide) rfl (As := [.int x1]) (rest := []) rfl rfl rfl (Nat.le_of_ble_eq_true rfl) ?_
                  exact h
                · replace h := h.2 hc5
                  refine ww_tableOut (x := x2) C.1 (tgt := 98) dX10_guest_11 (by have e0 := lv_neT hc0 (a := 0) (by decide); have e1 := lv_neT hc1 (a := 1) (by decide); have e2 := lv_neT hc2 (a := 2) (by decide); have e3 := lv_neT hc3 (a := 3) (by decide); have e4 := lv_neT hc4 (a := 4) (by decide); have e5 := lv_neT hc5 (a := 5) (by decide); omega) (by decide) ?_
                  refine ww_iconst C.1 (v := (-1 : Int32)) dX10_guest_98 (by decide) ?_
                  refine ww_iret C.1 dX10_guest_99 rfl ?_
                  exact h
set_option maxHeartbeats 4000000 in
set_option maxRecDepth 20000 in
theorem bX10_guest_97 {X : CX} {Q : State → Prop} {M : Mem} {x1 x2 s0 : Int32} (C : Ok0 X mX10_guest (TTc ++ TTm))
    (h : RetOK X Q (some (.int s0)) (M, (gj gm), TTc ++ TTm)) :
    WW X Q 97 [(0, .ref 57), (1, .int x1), (2, .int x2)] [.int s0] (M, (gj gm), TTc ++ TTm) := by
  refine ww_iret C.1 dX10_guest_97 rfl ?_
  exact h
set_option maxHeartbeats 4000000 in
set_option maxRecDepth 20000 in
theorem bX10_isWaiting_0 {X : CX} {Q : State → Prop} {M : Mem} {x1 x2 : Int32} (C : Ok0 X mX10_isWaiting (TTc ++ TTm))
    (h : (vp_in x1 7 ∧ (((0 : Int32) ≤ (M 72 x1.toNatClampNeg) → RetOK X Q (some (.int (0 : Int32))) (M, (gj gm), TTc ++ TTm)) ∧ (¬ (0 : Int32) ≤ (M 72 x1.toNatClampNeg) → (vp_in ((14 : Int32) + x1) 21 ∧ ((x2 < (M 64 ((14 : Int32) + x1).toNatClampNeg) → RetOK X Q (some (.int (0 : Int32))) (M, (gj gm), TTc ++ TTm)) ∧ (¬ x2 < (M 64 ((14 : Int32) + x1).toNatClampNeg) → RetOK X Q (some (.int (1 : Int32))) (M, (gj gm), TTc ++ TTm)))))))) :
    WW X Q 0 [(0, .ref 57), (1, .int x1), (2, .int x2)] [] (M, (gj gm), TTc ++ TTm) := by
  refine ww_aload_n C.1 dX10_isWaiting_0 0 rfl rfl ?_
  refine wt_getR C.1 dX10_isWaiting_1 flRX10_65 tm57 rfl gm57_29 ?_
  refine ww_iload_n C.1 dX10_isWaiting_4 1 rfl rfl ?_
  refine wt_iald C.1 dX10_isWaiting_5 tm72 h.1 ?_
  replace h := h.2
  refine ww_if_ge (x := (M 72 x1.toNatClampNeg)) C.1 (tgt := 26) dX10_isWaiting_6 (by decide) (fun hh => ?_) (fun hh => ?_)
  · replace h := h.1 hh
    refine ww_iconst C.1 (v := (0 : Int32)) dX10_isWaiting_26 (by decide) ?_
    refine ww_zret C.1 dX10_isWaiting_27 rfl (Or.inl rfl) ?_
    exact h
  · replace h := h.2 hh
    refine ww_aload_n C.1 dX10_isWaiting_9 0 rfl rfl ?_
    refine wt_getR C.1 dX10_isWaiting_10 flRX10_38 tm57 rfl gm57_11 ?_
    refine ww_bipush C.1 (v := (14 : Int32)) dX10_isWaiting_13 (by decide) ?_
    refine ww_iload_n C.1 dX10_isWaiting_15 1 rfl rfl ?_
    refine ww_iadd C.1 dX10_isWaiting_16 ?_
    refine wt_iald C.1 dX10_isWaiting_17 tm64 h.1 ?_
    replace h := h.2
    refine ww_iload_n C.1 dX10_isWaiting_18 2 rfl rfl ?_
    refine ww_icmp_gt (x := (M 64 ((14 : Int32) + x1).toNatClampNeg)) (y := x2) C.1 (tgt := 26) dX10_isWaiting_19 (by decide) (fun hh => ?_) (fun hh => ?_)
    · replace h := h.1 hh
      refine ww_iconst C.1 (v := (0 : Int32)) dX10_isWaiting_26 (by decide) ?_
      refine ww_zret C.1 dX10_isWaiting_27 rfl (Or.inl rfl) ?_
      exact h
    · replace h := h.2 hh
      refine ww_iconst C.1 (v := (1 : Int32)) dX10_isWaiting_22 (by decide) ?_
      refine ww_goto C.1 (tgt := 27) dX10_isWaiting_23 (by decide) ?_
      refine ww_zret C.1 dX10_isWaiting_27 rfl (Or.inr rfl) ?_
      exact h
set_option maxHeartbeats 4000000 in
set_option maxRecDepth 20000 in
theorem bX10_lieDown_0 {X : CX} {Q : State → Prop} {M : Mem} {x1 x2 x3 x4 : Int32} (C : Ok0 X mX10_lieDown (TTc ++ TTm))
    (h : (vp_in x1 7 ∧ (vp_in x1 7 ∧ WpI mX10_harmOf [.ref 57, .int x1, .int x2, .int x3] (wr (wr M 72 x1.toNatClampNeg x3) 73 x1.toNatClampNeg x2) (gj gm) (TTc ++ TTm) (fun r M' => WW X Q 26 [(0, .ref 57), (1, .int x1), (2, .int x2), (3, .int x3), (4, .int x4)] [.int r, .int x1, .ref 74] (M', (gj gm), TTc ++ TTm))))) :
    WW X Q 0 [(0, .ref 57), (1, .int x1), (2, .int x2), (3, .int x3), (4, .int x4)] [] (M, (gj gm), TTc ++ TTm) := by
  refine ww_aload_n C.1 dX10_lieDown_0 0 rfl rfl ?_
  refine wt_getR C.1 dX10_lieDown_1 flRX10_65 tm57 rfl gm57_29 ?_
  refine ww_iload_n C.1 dX10_lieDown_4 1 rfl rfl ?_
  refine ww_iload_n C.1 dX10_lieDown_5 3 rfl rfl ?_
  refine wt_iast C.1 dX10_lieDown_6 tm72 h.1 ?_
  replace h := h.2
  refine ww_aload_n C.1 dX10_lieDown_7 0 rfl rfl ?_
  refine wt_getR C.1 dX10_lieDown_8 flRX10_68 tm57 rfl gm57_30 ?_
  refine ww_iload_n C.1 dX10_lieDown_11 1 rfl rfl ?_
  refine ww_iload_n C.1 dX10_lieDown_12 2 rfl rfl ?_
  refine wt_iast C.1 dX10_lieDown_13 tm73 h.1 ?_
  replace h := h.2
  refine ww_aload_n C.1 dX10_lieDown_14 0 rfl rfl ?_
  refine wt_getR C.1 dX10_lieDown_15 flRX10_71 tm57 rfl gm57_31 ?_
  refine ww_iload_n C.1 dX10_lieDown_18 1 rfl rfl ?_
  refine ww_aload_n C.1 dX10_lieDown_19 0 rfl rfl ?_
  refine ww_iload_n C.1 dX10_lieDown_20 1 rfl rfl ?_
  refine ww_iload_n C.1 dX10_lieDown_21 2 rfl rfl ?_
  refine ww_iload_n C.1 dX10_lieDown_22 3 rfl rfl ?_
  refine ww_vI C fX10_harmOf (And.intro (by decide) (by decide)) mlRX10_212 dX10_lieDown_23 tm57 (by decide) rfl (As := [.int x1, .int x2, .int x3]) (rest := [.int x1, .ref 74]) rfl rfl rfl (Nat.le_of_ble_eq_true rfl) ?_
  exact h
set_option maxHeartbeats 4000000 in
set_option maxRecDepth 20000 in
theorem bX10_lieDown_26 {X : CX} {Q : State → Prop} {M : Mem} {x1 x2 x3 x4 s1 s2 : Int32} (C : Ok0 X mX10_lieDown (TTc ++ TTm))
    (h : (vp_in s1 7 ∧ (vp_in x1 7 ∧ RetOK X Q (none) ((wr (wr M 74 s1.toNatClampNeg s2) 75 x1.toNatClampNeg x4), (gj gm), TTc ++ TTm)))) :
    WW X Q 26 [(0, .ref 57), (1, .int x1), (2, .int x2), (3, .int x3), (4, .int x4)] [.int s2, .int s1, .ref 74] (M, (gj gm), TTc ++ TTm) := by
  refine wt_iast C.1 dX10_lieDown_26 tm74 h.1 ?_
  replace h := h.2
  refine ww_aload_n C.1 dX10_lieDown_27 0 rfl rfl ?_
  refine wt_getR C.1 dX10_lieDown_28 flRX10_74 tm57 rfl gm57_32 ?_
  refine ww_iload_n C.1 dX10_lieDown_31 1 rfl rfl ?_
  refine ww_iload C.1 dX10_lieDown_32 4 rfl ?_
  refine wt_iast C.1 dX10_lieDown_34 tm75 h.1 ?_
  replace h := h.2
  refine ww_vret C.1 dX10_lieDown_35 rfl ?_
  exact h
set_option maxHeartbeats 4000000 in
set_option maxRecDepth 20000 in
theorem bX10_give_0 {X : CX} {Q : State → Prop} {M : Mem} {x1 x2 : Int32} (C : Ok0 X mX10_give (TTc ++ TTm))
    (h : WW X Q 11 [(0, .ref 57), (1, .int x1), (2, .int x2), (3, .int (-4 : Int32)), (4, .int ((M 57 7) - (1 : Int32)))] [] (M, (gj gm), TTc ++ TTm)) :
    WW X Q 0 [(0, .ref 57), (1, .int x1), (2, .int x2)] [] (M, (gj gm), TTc ++ TTm) := by
  refine ww_bipush C.1 (v := (-4 : Int32)) dX10_give_0 (by decide) ?_
  refine ww_istore_n C.1 dX10_give_2 rfl (by decide) [1, 2, 3, 0] (L' := [(0, .ref 57), (1, .int x1), (2, .int x2), (3, .int (-4 : Int32))]) rfl ?_
  refine ww_aload_n C.1 dX10_give_3 0 rfl rfl ?_
  refine wt_getI C.1 dX10_give_4 flRX10_29 tm57 rfl ?_
  refine ww_iconst C.1 (v := (1 : Int32)) dX10_give_7 (by decide) ?_
  refine ww_isub C.1 dX10_give_8 ?_
  refine ww_istore C.1 dX10_give_9 (by decide) [1, 2, 3, 4, 0] (L' := [(0, .ref 57), (1, .int x1), (2, .int x2), (3, .int (-4 : Int32)), (4, .int ((M 57 7) - (1 : Int32)))]) rfl ?_
  exact h
set_option maxHeartbeats 4000000 in
set_option maxRecDepth 20000 in
theorem bX10_give_11 {X : CX} {Q : State → Prop} {M : Mem} {x1 x2 x3 x4 : Int32} (C : Ok0 X mX10_give (TTc ++ TTm))
    (h : ((x4 < (0 : Int32) → (((0 : Int32) ≤ x3 → (vp_in x3 7 ∧ (vp_in x3 7 ∧ WW X Q 76 [(0, .ref 57), (1, .int x1), (2, .int x2), (3, .int x3), (4, .int (-4 : Int32)), (5, .int ((M 57 7) - (1 : Int32)))] [] ((wr M 76 x3.toNatClampNeg ((M 76 x3.toNatClampNeg) + (1 : Int32))), (gj gm), TTc ++ TTm)))) ∧ (¬ (0 : Int32) ≤ x3 → RetOK X Q (none) (M, (gj gm), TTc ++ TTm)))) ∧ (¬ x4 < (0 : Int32) → (vp_in x4 21 ∧ (vp_in (M 64 x4.toNatClampNeg) 7 ∧ (((0 : Int32) ≤ (M 72 (M 64 x4.toNatClampNeg).toNatClampNeg) → WW X Q 11 [(0, .ref 57), (1, .int x1), (2, .int x2), (3, .int x3), (4, .int (x4 + (-1 : Int32)))] [] (M, (gj gm), TTc ++ TTm)) ∧ (¬ (0 : Int32) ≤ (M 72 (M 64 x4.toNatClampNeg).toNatClampNeg) → (vp_in ((14 : Int32) + (M 64 x4.toNatClampNeg)) 21 ∧ ((x2 < (M 64 ((14 : Int32) + (M 64 x4.toNatClampNeg)).toNatClampNeg) → WW X Q 11 [(0, .ref 57), (1, .int x1), (2, .int x2), (3, .int x3), (4, .int (x4 + (-1 : Int32)))] [] (M, (gj gm), TTc ++ TTm)) ∧ (¬ x2 < (M 64 ((14 : Int32) + (M 64 x4.toNatClampNeg)).toNatClampNeg) → (vp_in x4 21 ∧ WW X Q 11 [(0, .ref 57), (1, .int x1), (2, .int x2), (3, .int (M 64 x4.toNatClampNeg)), (4, .int (x4 + (-1 : Int32)))] [] (M, (gj gm), TTc ++ TTm)))))))))))) :
    WW X Q 11 [(0, .ref 57), (1, .int x1), (2, .int x2), (3, .int x3), (4, .int x4)] [] (M, (gj gm), TTc ++ TTm) := by
  refine ww_iload C.1 dX10_give_11 4 rfl ?_
  refine ww_if_lt (x := x4) C.1 (tgt := 49) dX10_give_13 (by decide) (fun hh => ?_) (fun hh => ?_)
  · replace h := h.1 hh
    refine ww_iload_n C.1 dX10_give_49 3 rfl rfl ?_
    refine ww_if_ge (x := x3) C.1 (tgt := 54) dX10_give_50 (by decide) (fun hh => ?_) (fun hh => ?_)
    · replace h := h.1 hh
      refine ww_aload_n C.1 dX10_give_54 0 rfl rfl ?_
      refine wt_getR C.1 dX10_give_55 flRX10_77 tm57 rfl gm57_33 ?_
      refine ww_iload_n C.1 dX10_give_58 3 rfl rfl ?_
      refine ww_dup2 C.1 dX10_give_59 rfl rfl ?_
      refine wt_iald C.1 dX10_give_60 tm76 h.1 ?_
      replace h := h.2
      refine ww_iconst C.1 (v := (1 : Int32)) dX10_give_61 (by decide) ?_
      refine ww_iadd C.1 dX10_give_62 ?_
      refine wt_iast C.1 dX10_give_63 tm76 h.1 ?_
      replace h := h.2
      refine ww_bipush C.1 (v := (-4 : Int32)) dX10_give_64 (by decide) ?_
      refine ww_istore C.1 dX10_give_66 (by decide) [1, 2, 3, 4, 0] (L' := [(0, .ref 57), (1, .int x1), (2, .int x2), (3, .int x3), (4, .int (-4 : Int32))]) rfl ?_
      refine ww_aload_n C.1 dX10_give_68 0 rfl rfl ?_
      refine wt_getI C.1 dX10_give_69 flRX10_29 tm57 rfl ?_
      refine ww_iconst C.1 (v := (1 : Int32)) dX10_give_72 (by decide) ?_
      refine ww_isub C.1 dX10_give_73 ?_
      refine ww_istore C.1 dX10_give_74 (by decide) [1, 2, 3, 4, 5, 0] (L' := [(0, .ref 57), (1, .int x1), (2, .int x2), (3, .int x3), (4, .int (-4 : Int32)), (5, .int ((M 57 7) - (1 : Int32)))]) rfl ?_
      exact h
    · replace h := h.2 hh
      refine ww_vret C.1 dX10_give_53 rfl ?_
      exact h
  · replace h := h.2 hh
    refine ww_aload_n C.1 dX10_give_16 0 rfl rfl ?_
    refine ww_aload_n C.1 dX10_give_17 0 rfl rfl ?_
    refine wt_getR C.1 dX10_give_18 flRX10_38 tm57 rfl gm57_11 ?_
    refine ww_iload C.1 dX10_give_21 4 rfl ?_
    refine wt_iald C.1 dX10_give_23 tm64 h.1 ?_
    replace h := h.2
    refine ww_iload_n C.1 dX10_give_24 2 rfl rfl ?_
    refine ww_vI C fX10_isWaiting (And.intro (by decide) (by decide)) mlRX10_220 dX10_give_25 tm57 (by decide) rfl (As := [.int (M 64 x4.toNatClampNeg), .int x2]) (rest := []) rfl rfl rfl (Nat.le_of_ble_eq_true rfl) (WpI.of (L0 := [(0, .ref 57), (1, .int (M 64 x4.toNatClampNeg)), (2, .int x2)]) rfl rfl (Nat.le_of_ble_eq_true rfl) fun X1 Q1 C1 k1 => ?_)
    refine ww_aload_n C1.1 dX10_isWaiting_0 0 rfl rfl ?_
    refine wt_getR C1.1 dX10_isWaiting_1 flRX10_65 tm57 rfl gm57_29 ?_
    refine ww_iload_n C1.1 dX10_isWaiting_4 1 rfl rfl ?_
    refine wt_iald C1.1 dX10_isWaiting_5 tm72 h.1 ?_
    replace h := h.2
    refine ww_if_ge (x := (M 72 (M 64 x4.toNatClampNeg).toNatClampNeg)) C1.1 (tgt := 26) dX10_isWaiting_6 (by decide) (fun hh => ?_) (fun hh => ?_)
    · replace h := h.1 hh
      refine ww_iconst C1.1 (v := (0 : Int32)) dX10_isWaiting_26 (by decide) ?_
      refine ww_zret C1.1 dX10_isWaiting_27 rfl (Or.inl rfl) ?_
      refine k1 _ _ ?_
      refine ww_if_eq (x := (0 : Int32)) C.1 (tgt := 41) dX10_give_28 (by decide) (fun _ => ?_) (fun hh => absurd hh (by decide))
      refine ww_iload_n C.1 dX10_give_41 3 rfl rfl ?_
      refine ww_istore_n C.1 dX10_give_42 rfl (by decide) [1, 2, 3, 0, 4] (L' := [(0, .ref 57), (1, .int x1), (2, .int x2), (3, .int x3), (4, .int x4)]) rfl ?_
      refine ww_iinc C.1 (v := (x4 + (-1 : Int32))) dX10_give_43 4 rfl (by rfl) (by decide) [1, 2, 3, 4, 0] (L' := [(0, .ref 57), (1, .int x1), (2, .int x2), (3, .int x3), (4, .int (x4 + (-1 : Int32)))]) rfl ?_
      refine ww_goto C.1 (tgt := 11) dX10_give_46 (by decide) ?_
      exact h
    · replace h := h.2 hh
      refine ww_aload_n C1.1 dX10_isWaiting_9 0 rfl rfl ?_
      refine wt_getR C1.1 dX10_isWaiting_10 flRX10_38 tm57 rfl gm57_11 ?_
      refine ww_bipush C1.1 (v := (14 : Int32)) dX10_isWaiting_13 (by decide) ?_
      refine ww_iload_n C1.1 dX10_isWaiting_15 1 rfl rfl ?_
      refine ww_iadd C1.1 dX10_isWaiting_16 ?_
      refine wt_iald C1.1 dX10_isWaiting_17 tm64 h.1 ?_
      replace h := h.2
      refine ww_iload_n C1.1 dX10_isWaiting_18 2 rfl rfl ?_
      refine ww_icmp_gt (x := (M 64 ((14 : Int32) + (M 64 x4.toNatClampNeg)).toNatClampNeg)) (y := x2) C1.1 (tgt := 26) dX10_isWaiting_19 (by decide) (fun hh => ?_) (fun hh => ?_)
      · replace h := h.1 hh
        refine ww_iconst C1.1 (v := (0 : Int32)) dX10_isWaiting_26 (by decide) ?_
        refine ww_zret C1.1 dX10_isWaiting_27 rfl (Or.inl rfl) ?_
        refine k1 _ _ ?_
        refine ww_if_eq (x := (0 : Int32)) C.1 (tgt := 41) dX10_give_28 (by decide) (fun _ => ?_) (fun hh => absurd hh (by decide))
        refine ww_iload_n C.1 dX10_give_41 3 rfl rfl ?_
        refine ww_istore_n C.1 dX10_give_42 rfl (by decide) [1, 2, 3, 0, 4] (L' := [(0, .ref 57), (1, .int x1), (2, .int x2), (3, .int x3), (4, .int x4)]) rfl ?_
        refine ww_iinc C.1 (v := (x4 + (-1 : Int32))) dX10_give_43 4 rfl (by rfl) (by decide) [1, 2, 3, 4, 0] (L' := [(0, .ref 57), (1, .int x1), (2, .int x2), (3, .int x3), (4, .int (x4 + (-1 : Int32)))]) rfl ?_
        refine ww_goto C.1 (tgt := 11) dX10_give_46 (by decide) ?_
        exact h
      · replace h := h.2 hh
        refine ww_iconst C1.1 (v := (1 : Int32)) dX10_isWaiting_22 (by decide) ?_
        refine ww_goto C1.1 (tgt := 27) dX10_isWaiting_23 (by decide) ?_
        refine ww_zret C1.1 dX10_isWaiting_27 rfl (Or.inr rfl) ?_
        refine k1 _ _ ?_
        refine ww_if_eq (x := (1 : Int32)) C.1 (tgt := 41) dX10_give_28 (by decide) (fun hh => absurd hh (by decide)) (fun _ => ?_)
        refine ww_aload_n C.1 dX10_give_31 0 rfl rfl ?_
        refine wt_getR C.1 dX10_give_32 flRX10_38 tm57 rfl gm57_11 ?_
        refine ww_iload C.1 dX10_give_35 4 rfl ?_
        refine wt_iald C.1 dX10_give_37 tm64 h.1 ?_
        replace h := h.2
        refine ww_goto C.1 (tgt := 42) dX10_give_38 (by decide) ?_
        refine ww_istore_n C.1 dX10_give_42 rfl (by decide) [1, 2, 3, 0, 4] (L' := [(0, .ref 57), (1, .int x1), (2, .int x2), (3, .int (M 64 x4.toNatClampNeg)), (4, .int x4)]) rfl ?_
        refine ww_iinc C.1 (v := (x4 + (-1 : Int32))) dX10_give_43 4 rfl (by rfl) (by decide) [1, 2, 3, 4, 0] (L' := [(0, .ref 57), (1, .int x1), (2, .int x2), (3, .int (M 64 x4.toNatClampNeg)), (4, .int (x4 + (-1 : Int32)))]) rfl ?_
        refine ww_goto C.1 (tgt := 11) dX10_give_46 (by decide) ?_
        exact h
set_option maxHeartbeats 4000000 in
set_option maxRecDepth 20000 in
theorem bX10_give_76 {X : CX} {Q : State → Prop} {M : Mem} {x1 x2 x3 x4 x5 : Int32} (C : Ok0 X mX10_give (TTc ++ TTm))
    (h : ((x5 < (0 : Int32) → ((x4 < (0 : Int32) → WW X Q 208 [(0, .ref 57), (1, .int x1), (2, .int x2), (3, .int x3), (4, .int x4), (5, .int (0 : Int32))] [] (M, (gj gm), TTc ++ TTm)) ∧ (¬ x4 < (0 : Int32) → WpI mX10_harmOf [.ref 57, .int x4, .int x1, .int x2] M (gj gm) (TTc ++ TTm) (fun r M' => WW X Q 191 [(0, .ref 57), (1, .int x1), (2, .int x2), (3, .int x3), (4, .int x4), (5, .int x5)] [.int r] (M', (gj gm), TTc ++ TTm))))) ∧ (¬ x5 < (0 : Int32) → ((x5 = x3 → WW X Q 134 [(0, .ref 57), (1, .int x1), (2, .int x2), (3, .int x3), (4, .int x4), (5, .int x5), (6, .int (0 : Int32))] [] (M, (gj gm), TTc ++ TTm)) ∧ (¬ x5 = x3 → (vp_in x5 7 ∧ (((0 : Int32) ≤ (M 72 x5.toNatClampNeg) → WW X Q 134 [(0, .ref 57), (1, .int x1), (2, .int x2), (3, .int x3), (4, .int x4), (5, .int x5), (6, .int (0 : Int32))] [] (M, (gj gm), TTc ++ TTm)) ∧ (¬ (0 : Int32) ≤ (M 72 x5.toNatClampNeg) → (vp_in ((14 : Int32) + x5) 21 ∧ ((x2 < (M 64 ((14 : Int32) + x5).toNatClampNeg) → WW X Q 134 [(0, .ref 57), (1, .int x1), (2, .int x2), (3, .int x3), (4, .int x4), (5, .int x5), (6, .int (0 : Int32))] [] (M, (gj gm), TTc ++ TTm)) ∧ (¬ x2 < (M 64 ((14 : Int32) + x5).toNatClampNeg) → (((M 57 10) = (2 : Int32) → WW X Q 134 [(0, .ref 57), (1, .int x1), (2, .int x2), (3, .int x3), (4, .int x4), (5, .int x5), (6, .int (1 : Int32))] [] (M, (gj gm), TTc ++ TTm)) ∧ (¬ (M 57 10) = (2 : Int32) → ((¬ (M 57 10) = (1 : Int32) → WW X Q 134 [(0, .ref 57), (1, .int x1), (2, .int x2), (3, .int x3), (4, .int x4), (5, .int x5), (6, .int (0 : Int32))] [] (M, (gj gm), TTc ++ TTm)) ∧ ((M 57 10) = (1 : Int32) → (vp_in x3 7 ∧ ((¬ (((M 62 x3.toNatClampNeg) >>> (x5 &&& 31)) &&& (1 : Int32)) = (1 : Int32) → WW X Q 134 [(0, .ref 57), (1, .int x1), (2, .int x2), (3, .int x3), (4, .int x4), (5, .int x5), (6, .int (0 : Int32))] [] (M, (gj gm), TTc ++ TTm)) ∧ ((((M 62 x3.toNatClampNeg) >>> (x5 &&& 31)) &&& (1 : Int32)) = (1 : Int32) → WW X Q 134 [(0, .ref 57), (1, .int x1), (2, .int x2), (3, .int x3), (4, .int x4), (5, .int x5), (6, .int (1 : Int32))] [] (M, (gj gm), TTc ++ TTm))))))))))))))))))) :
    WW X Q 76 [(0, .ref 57), (1, .int x1), (2, .int x2), (3, .int x3), (4, .int x4), (5, .int x5)] [] (M, (gj gm), TTc ++ TTm) := by
  refine ww_iload C.1 dX10_give_76 5 rfl ?_
  refine ww_if_lt (x := x5) C.1 (tgt := 178) dX10_give_78 (by decide) (fun hh => ?_) (fun hh => ?_)
  · replace h := h.1 hh
    refine ww_iload C.1 dX10_give_178 4 rfl ?_
    refine ww_if_lt (x := x4) C.1 (tgt := 205) dX10_give_180 (by decide) (fun hh => ?_) (fun hh => ?_)
    · replace h := h.1 hh
      refine ww_iconst C.1 (v := (0 : Int32)) dX10_give_205 (by decide) ?_
      refine ww_istore C.1 dX10_give_206 (by decide) [1, 2, 3, 4, 5, 0] (L' := [(0, .ref 57), (1, .int x1), (2, .int x2), (3, .int x3), (4, .int x4), (5, .int (0 : Int32))]) rfl ?_
      exact h
    · replace h := h.2 hh
      refine ww_aload_n C.1 dX10_give_183 0 rfl rfl ?_
      refine ww_iload C.1 dX10_give_184 4 rfl ?_
      refine ww_iload_n C.1 dX10_give_186 1 rfl rfl ?_
      refine ww_iload_n C.1 dX10_give_187 2 rfl rfl ?_
      refine ww_vI C fX10_harmOf (And.intro (by decide) (by decide)) mlRX10_212 dX10_give_188 tm57 (by decide) rfl (As := [.int x4, .int x1, .int x2]) (rest := []) rfl rfl rfl (Nat.le_of_ble_eq_true rfl) ?_
      exact h
  · replace h := h.2 hh
    refine ww_iload C.1 dX10_give_81 5 rfl ?_
    refine ww_iload_n C.1 dX10_give_83 3 rfl rfl ?_
    refine ww_icmp_eq (x := x5) (y := x3) C.1 (tgt := 131) dX10_give_84 (by decide) (fun hh => ?_) (fun hh => ?_)
    · replace h := h.1 hh
      refine ww_iconst C.1 (v := (0 : Int32)) dX10_give_131 (by decide) ?_
      refine ww_istore C.1 dX10_give_132 (by decide) [1, 2, 3, 4, 5, 6, 0] (L' := [(0, .ref 57), (1, .int x1), (2, .int x2), (3, .int x3), (4, .int x4), (5, .int x5), (6, .int (0 : Int32))]) rfl ?_
      exact h
    · replace h := h.2 hh
      refine ww_aload_n C.1 dX10_give_87 0 rfl rfl ?_
      refine ww_iload C.1 dX10_give_88 5 rfl ?_
      refine ww_iload_n C.1 dX10_give_90 2 rfl rfl ?_
      refine ww_vI C fX10_isWaiting (And.intro (by decide) (by decide)) mlRX10_220 dX10_give_91 tm57 (by decide) rfl (As := [.int x5, .int x2]) (rest := []) rfl rfl rfl (Nat.le_of_ble_eq_true rfl) (WpI.of (L0 := [(0, .ref 57), (1, .int x5), (2, .int x2)]) rfl rfl (Nat.le_of_ble_eq_true rfl) fun X1 Q1 C1 k1 => ?_)
      refine ww_aload_n C1.1 dX10_isWaiting_0 0 rfl rfl ?_
      refine wt_getR C1.1 dX10_isWaiting_1 flRX10_65 tm57 rfl gm57_29 ?_
      refine ww_iload_n C1.1 dX10_isWaiting_4 1 rfl rfl ?_
      refine wt_iald C1.1 dX10_isWaiting_5 tm72 h.1 ?_
      replace h := h.2
      refine ww_if_ge (x := (M 72 x5.toNatClampNeg)) C1.1 (tgt := 26) dX10_isWaiting_6 (by decide) (fun hh => ?_) (fun hh => ?_)
      · replace h := h.1 hh
        refine ww_iconst C1.1 (v := (0 : Int32)) dX10_isWaiting_26 (by decide) ?_
        refine ww_zret C1.1 dX10_isWaiting_27 rfl (Or.inl rfl) ?_
        refine k1 _ _ ?_
        refine ww_if_eq (x := (0 : Int32)) C.1 (tgt := 131) dX10_give_94 (by decide) (fun _ => ?_) (fun hh => absurd hh (by decide))
        refine ww_iconst C.1 (v := (0 : Int32)) dX10_give_131 (by decide) ?_
        refine ww_istore C.1 dX10_give_132 (by decide) [1, 2, 3, 4, 5, 6, 0] (L' := [(0, .ref 57), (1, .int x1), (2, .int x2), (3, .int x3), (4, .int x4), (5, .int x5), (6, .int (0 : Int32))]) rfl ?_
        exact h
      · replace h := h.2 hh
        refine ww_aload_n C1.1 dX10_isWaiting_9 0 rfl rfl ?_
        refine wt_getR C1.1 dX10_isWaiting_10 flRX10_38 tm57 rfl gm57_11 ?_
        refine ww_bipush C1.1 (v := (14 : Int32)) dX10_isWaiting_13 (by decide) ?_
        refine ww_iload_n C1.1 dX10_isWaiting_15 1 rfl rfl ?_
        refine ww_iadd C1.1 dX10_isWaiting_16 ?_
        refine wt_iald C1.1 dX10_isWaiting_17 tm64 h.1 ?_
        replace h := h.2
        refine ww_iload_n C1.1 dX10_isWaiting_18 2 rfl rfl ?_
        refine ww_icmp_gt (x := (M 64 ((14 : Int32) + x5).toNatClampNeg)) (y := x2) C1.1 (tgt := 26) dX10_isWaiting_19 (by decide) (fun hh => ?_) (fun hh => ?_)
        · replace h := h.1 hh
          refine ww_iconst C1.1 (v := (0 : Int32)) dX10_isWaiting_26 (by decide) ?_
          refine ww_zret C1.1 dX10_isWaiting_27 rfl (Or.inl rfl) ?_
          refine k1 _ _ ?_
          refine ww_if_eq (x := (0 : Int32)) C.1 (tgt := 131) dX10_give_94 (by decide) (fun _ => ?_) (fun hh => absurd hh (by decide))
          refine ww_iconst C.1 (v := (0 : Int32)) dX10_give_131 (by decide) ?_
          refine ww_istore C.1 dX10_give_132 (by decide) [1, 2, 3, 4, 5, 6, 0] (L' := [(0, .ref 57), (1, .int x1), (2, .int x2), (3, .int x3), (4, .int x4), (5, .int x5), (6, .int (0 : Int32))]) rfl ?_
          exact h
        · replace h := h.2 hh
          refine ww_iconst C1.1 (v := (1 : Int32)) dX10_isWaiting_22 (by decide) ?_
          refine ww_goto C1.1 (tgt := 27) dX10_isWaiting_23 (by decide) ?_
          refine ww_zret C1.1 dX10_isWaiting_27 rfl (Or.inr rfl) ?_
          refine k1 _ _ ?_
          refine ww_if_eq (x := (1 : Int32)) C.1 (tgt := 131) dX10_give_94 (by decide) (fun hh => absurd hh (by decide)) (fun _ => ?_)
          refine ww_aload_n C.1 dX10_give_97 0 rfl rfl ?_
          refine wt_getI C.1 dX10_give_98 flRX10_35 tm57 rfl ?_
          refine ww_iconst C.1 (v := (2 : Int32)) dX10_give_101 (by decide) ?_
          refine ww_icmp_eq (x := (M 57 10)) (y := (2 : Int32)) C.1 (tgt := 127) dX10_give_102 (by decide) (fun hh => ?_) (fun hh => ?_)
          · replace h := h.1 hh
            refine ww_iconst C.1 (v := (1 : Int32)) dX10_give_127 (by decide) ?_
            refine ww_goto C.1 (tgt := 132) dX10_give_128 (by decide) ?_
            refine ww_istore C.1 dX10_give_132 (by decide) [1, 2, 3, 4, 5, 6, 0] (L' := [(0, .ref 57), (1, .int x1), (2, .int x2), (3, .int x3), (4, .int x4), (5, .int x5), (6, .int (1 : Int32))]) rfl ?_
            exact h
          · replace h := h.2 hh
            refine ww_aload_n C.1 dX10_give_105 0 rfl rfl ?_
            refine wt_getI C.1 dX10_give_106 flRX10_35 tm57 rfl ?_
            refine ww_iconst C.1 (v := (1 : Int32)) dX10_give_109 (by decide) ?_
            refine ww_icmp_ne (x := (M 57 10)) (y := (1 : Int32)) C.1 (tgt := 131) dX10_give_110 (by decide) (fun hh => ?_) (fun hh => ?_)
            · replace h := h.1 hh
              refine ww_iconst C.1 (v := (0 : Int32)) dX10_give_131 (by decide) ?_
              refine ww_istore C.1 dX10_give_132 (by decide) [1, 2, 3, 4, 5, 6, 0] (L' := [(0, .ref 57), (1, .int x1), (2, .int x2), (3, .int x3), (4, .int x4), (5, .int x5), (6, .int (0 : Int32))]) rfl ?_
              exact h
            · replace h := h.2 hh
              refine ww_aload_n C.1 dX10_give_113 0 rfl rfl ?_
              refine wt_getR C.1 dX10_give_114 flRX10_26 tm57 rfl gm57_6 ?_
              refine ww_iload_n C.1 dX10_give_117 3 rfl rfl ?_
              refine wt_iald C.1 dX10_give_118 tm62 h.1 ?_
              replace h := h.2
              refine ww_iload C.1 dX10_give_119 5 rfl ?_
              refine ww_sI C fX10_has (And.intro (by decide) (by decide)) mlRX10_224 dX10_give_121 (As := [.int (M 62 x3.toNatClampNeg), .int x5]) (rest := []) rfl rfl rfl (Nat.le_of_ble_eq_true rfl) (WpI.of (L0 := [(0, .int (M 62 x3.toNatClampNeg)), (1, .int x5)]) rfl rfl (Nat.le_of_ble_eq_true rfl) fun X2 Q2 C2 k2 => ?_)
              refine ww_iload_n C2.1 dX10_has_0 0 rfl rfl ?_
              refine ww_iload_n C2.1 dX10_has_1 1 rfl rfl ?_
              refine ww_ishr C2.1 dX10_has_2 ?_
              refine ww_iconst C2.1 (v := (1 : Int32)) dX10_has_3 (by decide) ?_
              refine ww_iand C2.1 dX10_has_4 ?_
              refine ww_iconst C2.1 (v := (1 : Int32)) dX10_has_5 (by decide) ?_
              refine ww_icmp_ne (x := (((M 62 x3.toNatClampNeg) >>> (x5 &&& 31)) &&& (1 : Int32))) (y := (1 : Int32)) C2.1 (tgt := 13) dX10_has_6 (by decide) (fun hh => ?_) (fun hh => ?_)
              · replace h := h.1 hh
                refine ww_iconst C2.1 (v := (0 : Int32)) dX10_has_13 (by decide) ?_
                refine ww_zret C2.1 dX10_has_14 rfl (Or.inl rfl) ?_
                refine k2 _ _ ?_
                refine ww_if_eq (x := (0 : Int32)) C.1 (tgt := 131) dX10_give_124 (by decide) (fun _ => ?_) (fun hh => absurd hh (by decide))
                refine ww_iconst C.1 (v := (0 : Int32)) dX10_give_131 (by decide) ?_
                refine ww_istore C.1 dX10_give_132 (by decide) [1, 2, 3, 4, 5, 6, 0] (L' := [(0, .ref 57), (1, .int x1), (2, .int x2), (3, .int x3), (4, .int x4), (5, .int x5), (6, .int (0 : Int32))]) rfl ?_
                exact h
              · replace h := h.2 hh
                refine ww_iconst C2.1 (v := (1 : Int32)) dX10_has_9 (by decide) ?_
                refine ww_goto C2.1 (tgt := 14) dX10_has_10 (by decide) ?_
                refine ww_zret C2.1 dX10_has_14 rfl (Or.inr rfl) ?_
                refine k2 _ _ ?_
                refine ww_if_eq (x := (1 : Int32)) C.1 (tgt := 131) dX10_give_124 (by decide) (fun hh => absurd hh (by decide)) (fun _ => ?_)
                refine ww_iconst C.1 (v := (1 : Int32)) dX10_give_127 (by decide) ?_
                refine ww_goto C.1 (tgt := 132) dX10_give_128 (by decide) ?_
                refine ww_istore C.1 dX10_give_132 (by decide) [1, 2, 3, 4, 5, 6, 0] (L' := [(0, .ref 57), (1, .int x1), (2, .int x2), (3, .int x3), (4, .int x4), (5, .int x5), (6, .int (1 : Int32))]) rfl ?_
                exact h
set_option maxHeartbeats 4000000 in
set_option maxRecDepth 20000 in
theorem bX10_give_134 {X : CX} {Q : State → Prop} {M : Mem} {x1 x2 x3 x4 x5 x6 : Int32} (C : Ok0 X mX10_give (TTc ++ TTm))
    (h : ((x6 = (0 : Int32) → WW X Q 172 [(0, .ref 57), (1, .int x1), (2, .int x2), (3, .int x3), (4, .int x4), (5, .int x5), (6, .int x6)] [] (M, (gj gm), TTc ++ TTm)) ∧ (¬ x6 = (0 : Int32) → ((x4 < (0 : Int32) → WW X Q 172 [(0, .ref 57), (1, .int x1), (2, .int x2), (3, .int x3), (4, .int x5), (5, .int x5), (6, .int x6)] [] (M, (gj gm), TTc ++ TTm)) ∧ (¬ x4 < (0 : Int32) → WpI mX10_harmOf [.ref 57, .int x5, .int x1, .int x2] M (gj gm) (TTc ++ TTm) (fun r M' => WW X Q 152 [(0, .ref 57), (1, .int x1), (2, .int x2), (3, .int x3), (4, .int x4), (5, .int x5), (6, .int x6)] [.int r] (M', (gj gm), TTc ++ TTm))))))) :
    WW X Q 134 [(0, .ref 57), (1, .int x1), (2, .int x2), (3, .int x3), (4, .int x4), (5, .int x5), (6, .int x6)] [] (M, (gj gm), TTc ++ TTm) := by
  refine ww_iload C.1 dX10_give_134 6 rfl ?_
  refine ww_if_eq (x := x6) C.1 (tgt := 168) dX10_give_136 (by decide) (fun hh => ?_) (fun hh => ?_)
  · replace h := h.1 hh
    refine ww_iload C.1 dX10_give_168 4 rfl ?_
    refine ww_istore C.1 dX10_give_170 (by decide) [1, 2, 3, 4, 0, 5, 6] (L' := [(0, .ref 57), (1, .int x1), (2, .int x2), (3, .int x3), (4, .int x4), (5, .int x5), (6, .int x6)]) rfl ?_
    exact h
  · replace h := h.2 hh
    refine ww_iload C.1 dX10_give_139 4 rfl ?_
    refine ww_if_lt (x := x4) C.1 (tgt := 163) dX10_give_141 (by decide) (fun hh => ?_) (fun hh => ?_)
    · replace h := h.1 hh
      refine ww_iload C.1 dX10_give_163 5 rfl ?_
      refine ww_goto C.1 (tgt := 170) dX10_give_165 (by decide) ?_
      refine ww_istore C.1 dX10_give_170 (by decide) [1, 2, 3, 4, 0, 5, 6] (L' := [(0, .ref 57), (1, .int x1), (2, .int x2), (3, .int x3), (4, .int x5), (5, .int x5), (6, .int x6)]) rfl ?_
      exact h
    · replace h := h.2 hh
      refine ww_aload_n C.1 dX10_give_144 0 rfl rfl ?_
      refine ww_iload C.1 dX10_give_145 5 rfl ?_
      refine ww_iload_n C.1 dX10_give_147 1 rfl rfl ?_
      refine ww_iload_n C.1 dX10_give_148 2 rfl rfl ?_
      refine ww_vI C fX10_harmOf (And.intro (by decide) (by decide)) mlRX10_212 dX10_give_149 tm57 (by decide) rfl (As := [.int x5, .int x1, .int x2]) (rest := []) rfl rfl rfl (Nat.le_of_ble_eq_true rfl) ?_
      exact h
set_option maxHeartbeats 4000000 in
set_option maxRecDepth 20000 in
theorem bX10_give_172 {X : CX} {Q : State → Prop} {M : Mem} {x1 x2 x3 x4 x5 x6 : Int32} (C : Ok0 X mX10_give (TTc ++ TTm))
    (h : WW X Q 76 [(0, .ref 57), (1, .int x1), (2, .int x2), (3, .int x3), (4, .int x4), (5, .int (x5 + (-1 : Int32)))] [] (M, (gj gm), TTc ++ TTm)) :
    WW X Q 172 [(0, .ref 57), (1, .int x1), (2, .int x2), (3, .int x3), (4, .int x4), (5, .int x5), (6, .int x6)] [] (M, (gj gm), TTc ++ TTm) := by
  refine ww_iinc C.1 (v := (x5 + (-1 : Int32))) dX10_give_172 5 rfl (by rfl) (by decide) [1, 2, 3, 4, 5, 0, 6] (L' := [(0, .ref 57), (1, .int x1), (2, .int x2), (3, .int x3), (4, .int x4), (5, .int (x5 + (-1 : Int32))), (6, .int x6)]) rfl ?_
  refine ww_goto C.1 (tgt := 76) dX10_give_175 (by decide) ?_
  refine ww_loc [0, 1, 2, 3, 4, 5] (L' := [(0, .ref 57), (1, .int x1), (2, .int x2), (3, .int x3), (4, .int x4), (5, .int (x5 + (-1 : Int32)))]) rfl ?_
  exact h
set_option maxHeartbeats 4000000 in
set_option maxRecDepth 20000 in
theorem bX10_give_208 {X : CX} {Q : State → Prop} {M : Mem} {x1 x2 x3 x4 x5 : Int32} (C : Ok0 X mX10_give (TTc ++ TTm))
    (h : ((x5 = (0 : Int32) → ((x5 = (0 : Int32) → WpV mX10_lieDown [.ref 57, .int x3, .int x1, .int x2, .int (-4 : Int32)] M (gj gm) (TTc ++ TTm) (fun M' => WW X Q 236 [(0, .ref 57), (1, .int x1), (2, .int x2), (3, .int x3), (4, .int x4), (5, .int x5)] [] (M', (gj gm), TTc ++ TTm))) ∧ (¬ x5 = (0 : Int32) → WpV mX10_lieDown [.ref 57, .int x3, .int x1, .int x2, .int x3] M (gj gm) (TTc ++ TTm) (fun M' => WW X Q 236 [(0, .ref 57), (1, .int x1), (2, .int x2), (3, .int x3), (4, .int x4), (5, .int x5)] [] (M', (gj gm), TTc ++ TTm))))) ∧ (¬ x5 = (0 : Int32) → ((x5 = (0 : Int32) → WpV mX10_lieDown [.ref 57, .int x4, .int x1, .int x2, .int (-4 : Int32)] M (gj gm) (TTc ++ TTm) (fun M' => WW X Q 236 [(0, .ref 57), (1, .int x1), (2, .int x2), (3, .int x3), (4, .int x4), (5, .int x5)] [] (M', (gj gm), TTc ++ TTm))) ∧ (¬ x5 = (0 : Int32) → WpV mX10_lieDown [.ref 57, .int x4, .int x1, .int x2, .int x3] M (gj gm) (TTc ++ TTm) (fun M' => WW X Q 236 [(0, .ref 57), (1, .int x1), (2, .int x2), (3, .int x3), (4, .int x4), (5, .int x5)] [] (M', (gj gm), TTc ++ TTm))))))) :
    WW X Q 208 [(0, .ref 57), (1, .int x1), (2, .int x2), (3, .int x3), (4, .int x4), (5, .int x5)] [] (M, (gj gm), TTc ++ TTm) := by
  refine ww_aload_n C.1 dX10_give_208 0 rfl rfl ?_
  refine ww_iload C.1 dX10_give_209 5 rfl ?_
  refine ww_if_eq (x := x5) C.1 (tgt := 219) dX10_give_211 (by decide) (fun hh => ?_) (fun hh => ?_)
  · replace h := h.1 hh
    refine ww_iload_n C.1 dX10_give_219 3 rfl rfl ?_
    refine ww_iload_n C.1 dX10_give_220 1 rfl rfl ?_
    refine ww_iload_n C.1 dX10_give_221 2 rfl rfl ?_
    refine ww_iload C.1 dX10_give_222 5 rfl ?_
    refine ww_if_eq (x := x5) C.1 (tgt := 231) dX10_give_224 (by decide) (fun hh => ?_) (fun hh => ?_)
    · replace h := h.1 hh
      refine ww_bipush C.1 (v := (-4 : Int32)) dX10_give_231 (by decide) ?_
      refine ww_vV C fX10_lieDown (And.intro (by decide) (by decide)) mlRX10_227 dX10_give_233 tm57 (by decide) rfl (As := [.int x3, .int x1, .int x2, .int (-4 : Int32)]) (rest := []) rfl rfl rfl (Nat.le_of_ble_eq_true rfl) ?_
      exact h
    · replace h := h.2 hh
      refine ww_iload_n C.1 dX10_give_227 3 rfl rfl ?_
      refine ww_goto C.1 (tgt := 233) dX10_give_228 (by decide) ?_
      refine ww_vV C fX10_lieDown (And.intro (by decide) (by decide)) mlRX10_227 dX10_give_233 tm57 (by decide) rfl (As := [.int x3, .int x1, .int x2, .int x3]) (rest := []) rfl rfl rfl (Nat.le_of_ble_eq_true rfl) ?_
      exact h
  · replace h := h.2 hh
    refine ww_iload C.1 dX10_give_214 4 rfl ?_
    refine ww_goto C.1 (tgt := 220) dX10_give_216 (by decide) ?_
    refine ww_iload_n C.1 dX10_give_220 1 rfl rfl ?_
    refine ww_iload_n C.1 dX10_give_221 2 rfl rfl ?_
    refine ww_iload C.1 dX10_give_222 5 rfl ?_
    refine ww_if_eq (x := x5) C.1 (tgt := 231) dX10_give_224 (by decide) (fun hh => ?_) (fun hh => ?_)
    · replace h := h.1 hh
      refine ww_bipush C.1 (v := (-4 : Int32)) dX10_give_231 (by decide) ?_
      refine ww_vV C fX10_lieDown (And.intro (by decide) (by decide)) mlRX10_227 dX10_give_233 tm57 (by decide) rfl (As := [.int x4, .int x1, .int x2, .int (-4 : Int32)]) (rest := []) rfl rfl rfl (Nat.le_of_ble_eq_true rfl) ?_
      exact h
    · replace h := h.2 hh
      refine ww_iload_n C.1 dX10_give_227 3 rfl rfl ?_
      refine ww_goto C.1 (tgt := 233) dX10_give_228 (by decide) ?_
      refine ww_vV C fX10_lieDown (And.intro (by decide) (by decide)) mlRX10_227 dX10_give_233 tm57 (by decide) rfl (As := [.int x4, .int x1, .int x2, .int x3]) (rest := []) rfl rfl rfl (Nat.le_of_ble_eq_true rfl) ?_
      exact h
set_option maxHeartbeats 4000000 in
set_option maxRecDepth 20000 in
theorem bX10_give_191 {X : CX} {Q : State → Prop} {M : Mem} {x1 x2 x3 x4 x5 s0 : Int32} (C : Ok0 X mX10_give (TTc ++ TTm))
    (h : WpI mX10_harmOf [.ref 57, .int x3, .int x1, .int x2] M (gj gm) (TTc ++ TTm) (fun r M' => WW X Q 198 [(0, .ref 57), (1, .int x1), (2, .int x2), (3, .int x3), (4, .int x4), (5, .int x5)] [.int r, .int s0] (M', (gj gm), TTc ++ TTm))) :
    WW X Q 191 [(0, .ref 57), (1, .int x1), (2, .int x2), (3, .int x3), (4, .int x4), (5, .int x5)] [.int s0] (M, (gj gm), TTc ++ TTm) := by
  refine ww_aload_n C.1 dX10_give_191 0 rfl rfl ?_
  refine ww_iload_n C.1 dX10_give_192 3 rfl rfl ?_
  refine ww_iload_n C.1 dX10_give_193 1 rfl rfl ?_
  refine ww_iload_n C.1 dX10_give_194 2 rfl rfl ?_
  refine ww_vI C fX10_harmOf (And.intro (by decide) (by decide)) mlRX10_212 dX10_give_195 tm57 (by decide) rfl (As := [.int x3, .int x1, .int x2]) (rest := [.int s0]) rfl rfl rfl (Nat.le_of_ble_eq_true rfl) ?_
  exact h
set_option maxHeartbeats 4000000 in
set_option maxRecDepth 20000 in
theorem bX10_give_152 {X : CX} {Q : State → Prop} {M : Mem} {x1 x2 x3 x4 x5 x6 s0 : Int32} (C : Ok0 X mX10_give (TTc ++ TTm))
    (h : WpI mX10_harmOf [.ref 57, .int x4, .int x1, .int x2] M (gj gm) (TTc ++ TTm) (fun r M' => WW X Q 160 [(0, .ref 57), (1, .int x1), (2, .int x2), (3, .int x3), (4, .int x4), (5, .int x5), (6, .int x6)] [.int r, .int s0] (M', (gj gm), TTc ++ TTm))) :
    WW X Q 152 [(0, .ref 57), (1, .int x1), (2, .int x2), (3, .int x3), (4, .int x4), (5, .int x5), (6, .int x6)] [.int s0] (M, (gj gm), TTc ++ TTm) := by
  refine ww_aload_n C.1 dX10_give_152 0 rfl rfl ?_
  refine ww_iload C.1 dX10_give_153 4 rfl ?_
  refine ww_iload_n C.1 dX10_give_155 1 rfl rfl ?_
  refine ww_iload_n C.1 dX10_give_156 2 rfl rfl ?_
  refine ww_vI C fX10_harmOf (And.intro (by decide) (by decide)) mlRX10_212 dX10_give_157 tm57 (by decide) rfl (As := [.int x4, .int x1, .int x2]) (rest := [.int s0]) rfl rfl rfl (Nat.le_of_ble_eq_true rfl) ?_
  exact h
set_option maxHeartbeats 4000000 in
set_option maxRecDepth 20000 in
theorem bX10_give_236 {X : CX} {Q : State → Prop} {M : Mem} {x1 x2 x3 x4 x5 : Int32} (C : Ok0 X mX10_give (TTc ++ TTm))
    (h : RetOK X Q (none) (M, (gj gm), TTc ++ TTm)) :
    WW X Q 236 [(0, .ref 57), (1, .int x1), (2, .int x2), (3, .int x3), (4, .int x4), (5, .int x5)] [] (M, (gj gm), TTc ++ TTm) := by
  refine ww_vret C.1 dX10_give_236 rfl ?_
  exact h
set_option maxHeartbeats 4000000 in
set_option maxRecDepth 20000 in
theorem bX10_give_198 {X : CX} {Q : State → Prop} {M : Mem} {x1 x2 x3 x4 x5 s0 s1 : Int32} (C : Ok0 X mX10_give (TTc ++ TTm))
    (h : ((s1 ≤ s0 → WW X Q 208 [(0, .ref 57), (1, .int x1), (2, .int x2), (3, .int x3), (4, .int x4), (5, .int (0 : Int32))] [] (M, (gj gm), TTc ++ TTm)) ∧ (¬ s1 ≤ s0 → WW X Q 208 [(0, .ref 57), (1, .int x1), (2, .int x2), (3, .int x3), (4, .int x4), (5, .int (1 : Int32))] [] (M, (gj gm), TTc ++ TTm)))) :
    WW X Q 198 [(0, .ref 57), (1, .int x1), (2, .int x2), (3, .int x3), (4, .int x4), (5, .int x5)] [.int s1, .int s0] (M, (gj gm), TTc ++ TTm) := by
  refine ww_icmp_ge (x := s0) (y := s1) C.1 (tgt := 205) dX10_give_198 (by decide) (fun hh => ?_) (fun hh => ?_)
  · replace h := h.1 hh
    refine ww_iconst C.1 (v := (0 : Int32)) dX10_give_205 (by decide) ?_
    refine ww_istore C.1 dX10_give_206 (by decide) [1, 2, 3, 4, 5, 0] (L' := [(0, .ref 57), (1, .int x1), (2, .int x2), (3, .int x3), (4, .int x4), (5, .int (0 : Int32))]) rfl ?_
    exact h
  · replace h := h.2 hh
    refine ww_iconst C.1 (v := (1 : Int32)) dX10_give_201 (by decide) ?_
    refine ww_goto C.1 (tgt := 206) dX10_give_202 (by decide) ?_
    refine ww_istore C.1 dX10_give_206 (by decide) [1, 2, 3, 4, 5, 0] (L' := [(0, .ref 57), (1, .int x1), (2, .int x2), (3, .int x3), (4, .int x4), (5, .int (1 : Int32))]) rfl ?_
    exact h
set_option maxHeartbeats 4000000 in
set_option maxRecDepth 20000 in
theorem bX10_give_160 {X : CX} {Q : State → Prop} {M : Mem} {x1 x2 x3 x4 x5 x6 s0 s1 : Int32} (C : Ok0 X mX10_give (TTc ++ TTm))
    (h : ((s1 < s0 → WW X Q 172 [(0, .ref 57), (1, .int x1), (2, .int x2), (3, .int x3), (4, .int x4), (5, .int x5), (6, .int x6)] [] (M, (gj gm), TTc ++ TTm)) ∧ (¬ s1 < s0 → WW X Q 172 [(0, .ref 57), (1, .int x1), (2, .int x2), (3, .int x3), (4, .int x5), (5, .int x5), (6, .int x6)] [] (M, (gj gm), TTc ++ TTm)))) :
    WW X Q 160 [(0, .ref 57), (1, .int x1), (2, .int x2), (3, .int x3), (4, .int x4), (5, .int x5), (6, .int x6)] [.int s1, .int s0] (M, (gj gm), TTc ++ TTm) := by
  refine ww_icmp_gt (x := s0) (y := s1) C.1 (tgt := 168) dX10_give_160 (by decide) (fun hh => ?_) (fun hh => ?_)
  · replace h := h.1 hh
    refine ww_iload C.1 dX10_give_168 4 rfl ?_
    refine ww_istore C.1 dX10_give_170 (by decide) [1, 2, 3, 4, 0, 5, 6] (L' := [(0, .ref 57), (1, .int x1), (2, .int x2), (3, .int x3), (4, .int x4), (5, .int x5), (6, .int x6)]) rfl ?_
    exact h
  · replace h := h.2 hh
    refine ww_iload C.1 dX10_give_163 5 rfl ?_
    refine ww_goto C.1 (tgt := 170) dX10_give_165 (by decide) ?_
    refine ww_istore C.1 dX10_give_170 (by decide) [1, 2, 3, 4, 0, 5, 6] (L' := [(0, .ref 57), (1, .int x1), (2, .int x2), (3, .int x3), (4, .int x5), (5, .int x5), (6, .int x6)]) rfl ?_
    exact h
set_option maxHeartbeats 4000000 in
set_option maxRecDepth 20000 in
theorem bX10_stay_0 {X : CX} {Q : State → Prop} {M : Mem} {x1 : Int32} (C : Ok0 X mX10_stay (TTc ++ TTm))
    (h : WW X Q 2 [(0, .ref 57), (1, .int x1), (2, .int (0 : Int32))] [] (M, (gj gm), TTc ++ TTm)) :
    WW X Q 0 [(0, .ref 57), (1, .int x1)] [] (M, (gj gm), TTc ++ TTm) := by
  refine ww_iconst C.1 (v := (0 : Int32)) dX10_stay_0 (by decide) ?_
  refine ww_istore_n C.1 dX10_stay_1 rfl (by decide) [1, 2, 0] (L' := [(0, .ref 57), (1, .int x1), (2, .int (0 : Int32))]) rfl ?_
  exact h
set_option maxHeartbeats 4000000 in
set_option maxRecDepth 20000 in
theorem bX10_stay_2 {X : CX} {Q : State → Prop} {M : Mem} {x1 x2 : Int32} (C : Ok0 X mX10_stay (TTc ++ TTm))
    (h : (((M 57 7) ≤ x2 → WW X Q 41 [(0, .ref 57), (1, .int x1), (2, .int (0 : Int32))] [] (M, (gj gm), TTc ++ TTm)) ∧ (¬ (M 57 7) ≤ x2 → (vp_in x2 7 ∧ (vp_in x2 7 ∧ (vp_in x2 7 ∧ WW X Q 2 [(0, .ref 57), (1, .int x1), (2, .int (x2 + (1 : Int32)))] [] ((wr (wr (wr M 72 x2.toNatClampNeg (-4 : Int32)) 74 x2.toNatClampNeg (50 : Int32)) 76 x2.toNatClampNeg (0 : Int32)), (gj gm), TTc ++ TTm))))))) :
    WW X Q 2 [(0, .ref 57), (1, .int x1), (2, .int x2)] [] (M, (gj gm), TTc ++ TTm) := by
  refine ww_iload_n C.1 dX10_stay_2 2 rfl rfl ?_
  refine ww_aload_n C.1 dX10_stay_3 0 rfl rfl ?_
  refine wt_getI C.1 dX10_stay_4 flRX10_29 tm57 rfl ?_
  refine ww_icmp_ge (x := x2) (y := (M 57 7)) C.1 (tgt := 39) dX10_stay_7 (by decide) (fun hh => ?_) (fun hh => ?_)
  · replace h := h.1 hh
    refine ww_iconst C.1 (v := (0 : Int32)) dX10_stay_39 (by decide) ?_
    refine ww_istore_n C.1 dX10_stay_40 rfl (by decide) [1, 2, 0] (L' := [(0, .ref 57), (1, .int x1), (2, .int (0 : Int32))]) rfl ?_
    exact h
  · replace h := h.2 hh
    refine ww_aload_n C.1 dX10_stay_10 0 rfl rfl ?_
    refine wt_getR C.1 dX10_stay_11 flRX10_65 tm57 rfl gm57_29 ?_
    refine ww_iload_n C.1 dX10_stay_14 2 rfl rfl ?_
    refine ww_bipush C.1 (v := (-4 : Int32)) dX10_stay_15 (by decide) ?_
    refine wt_iast C.1 dX10_stay_17 tm72 h.1 ?_
    replace h := h.2
    refine ww_aload_n C.1 dX10_stay_18 0 rfl rfl ?_
    refine wt_getR C.1 dX10_stay_19 flRX10_71 tm57 rfl gm57_31 ?_
    refine ww_iload_n C.1 dX10_stay_22 2 rfl rfl ?_
    refine ww_bipush C.1 (v := (50 : Int32)) dX10_stay_23 (by decide) ?_
    refine wt_iast C.1 dX10_stay_25 tm74 h.1 ?_
    replace h := h.2
    refine ww_aload_n C.1 dX10_stay_26 0 rfl rfl ?_
    refine wt_getR C.1 dX10_stay_27 flRX10_77 tm57 rfl gm57_33 ?_
    refine ww_iload_n C.1 dX10_stay_30 2 rfl rfl ?_
    refine ww_iconst C.1 (v := (0 : Int32)) dX10_stay_31 (by decide) ?_
    refine wt_iast C.1 dX10_stay_32 tm76 h.1 ?_
    replace h := h.2
    refine ww_iinc C.1 (v := (x2 + (1 : Int32))) dX10_stay_33 2 rfl (by rfl) (by decide) [1, 2, 0] (L' := [(0, .ref 57), (1, .int x1), (2, .int (x2 + (1 : Int32)))]) rfl ?_
    refine ww_goto C.1 (tgt := 2) dX10_stay_36 (by decide) ?_
    exact h
set_option maxHeartbeats 4000000 in
set_option maxRecDepth 20000 in
theorem bX10_stay_41 {X : CX} {Q : State → Prop} {M : Mem} {x1 x2 : Int32} (C : Ok0 X mX10_stay (TTc ++ TTm))
    (h : (((30 : Int32) ≤ x2 → WW X Q 76 [(0, .ref 57), (1, .int x1), (2, .int (0 : Int32)), (3, .int (0 : Int32))] [] (M, (gj gm), TTc ++ TTm)) ∧ (¬ (30 : Int32) ≤ x2 → WW X Q 49 [(0, .ref 57), (1, .int x1), (2, .int x2), (3, .int (0 : Int32))] [] (M, (gj gm), TTc ++ TTm)))) :
    WW X Q 41 [(0, .ref 57), (1, .int x1), (2, .int x2)] [] (M, (gj gm), TTc ++ TTm) := by
  refine ww_iload_n C.1 dX10_stay_41 2 rfl rfl ?_
  refine ww_bipush C.1 (v := (30 : Int32)) dX10_stay_42 (by decide) ?_
  refine ww_icmp_ge (x := x2) (y := (30 : Int32)) C.1 (tgt := 72) dX10_stay_44 (by decide) (fun hh => ?_) (fun hh => ?_)
  · replace h := h.1 hh
    refine ww_iconst C.1 (v := (0 : Int32)) dX10_stay_72 (by decide) ?_
    refine ww_istore_n C.1 dX10_stay_73 rfl (by decide) [1, 2, 0] (L' := [(0, .ref 57), (1, .int x1), (2, .int (0 : Int32))]) rfl ?_
    refine ww_iconst C.1 (v := (0 : Int32)) dX10_stay_74 (by decide) ?_
    refine ww_istore_n C.1 dX10_stay_75 rfl (by decide) [1, 2, 3, 0] (L' := [(0, .ref 57), (1, .int x1), (2, .int (0 : Int32)), (3, .int (0 : Int32))]) rfl ?_
    exact h
  · replace h := h.2 hh
    refine ww_iconst C.1 (v := (0 : Int32)) dX10_stay_47 (by decide) ?_
    refine ww_istore_n C.1 dX10_stay_48 rfl (by decide) [1, 2, 3, 0] (L' := [(0, .ref 57), (1, .int x1), (2, .int x2), (3, .int (0 : Int32))]) rfl ?_
    exact h
set_option maxHeartbeats 4000000 in
set_option maxRecDepth 20000 in
theorem bX10_stay_49 {X : CX} {Q : State → Prop} {M : Mem} {x1 x2 x3 : Int32} (C : Ok0 X mX10_stay (TTc ++ TTm))
    (h : ((x1 ≤ x3 → WW X Q 41 [(0, .ref 57), (1, .int x1), (2, .int (x2 + (1 : Int32)))] [] (M, (gj gm), TTc ++ TTm)) ∧ (¬ x1 ≤ x3 → WpV mX10_give [.ref 57, .int x3, .int x2] M (gj gm) (TTc ++ TTm) (fun M' => WW X Q 60 [(0, .ref 57), (1, .int x1), (2, .int x2), (3, .int x3)] [] (M', (gj gm), TTc ++ TTm))))) :
    WW X Q 49 [(0, .ref 57), (1, .int x1), (2, .int x2), (3, .int x3)] [] (M, (gj gm), TTc ++ TTm) := by
  refine ww_iload_n C.1 dX10_stay_49 3 rfl rfl ?_
  refine ww_iload_n C.1 dX10_stay_50 1 rfl rfl ?_
  refine ww_icmp_ge (x := x3) (y := x1) C.1 (tgt := 66) dX10_stay_51 (by decide) (fun hh => ?_) (fun hh => ?_)
  · replace h := h.1 hh
    refine ww_iinc C.1 (v := (x2 + (1 : Int32))) dX10_stay_66 2 rfl (by rfl) (by decide) [1, 2, 0, 3] (L' := [(0, .ref 57), (1, .int x1), (2, .int (x2 + (1 : Int32))), (3, .int x3)]) rfl ?_
    refine ww_goto C.1 (tgt := 41) dX10_stay_69 (by decide) ?_
    refine ww_loc [0, 1, 2] (L' := [(0, .ref 57), (1, .int x1), (2, .int (x2 + (1 : Int32)))]) rfl ?_
    exact h
  · replace h := h.2 hh
    refine ww_aload_n C.1 dX10_stay_54 0 rfl rfl ?_
    refine ww_iload_n C.1 dX10_stay_55 3 rfl rfl ?_
    refine ww_iload_n C.1 dX10_stay_56 2 rfl rfl ?_
    refine ww_vV C fX10_give (And.intro (by decide) (by decide)) mlRX10_231 dX10_stay_57 tm57 (by decide) rfl (As := [.int x3, .int x2]) (rest := []) rfl rfl rfl (Nat.le_of_ble_eq_true rfl) ?_
    exact h
set_option maxHeartbeats 4000000 in
set_option maxRecDepth 20000 in
theorem bX10_stay_76 {X : CX} {Q : State → Prop} {M : Mem} {x1 x2 x3 : Int32} (C : Ok0 X mX10_stay (TTc ++ TTm))
    (h : (((M 57 7) ≤ x3 → RetOK X Q (some (.int x2)) (M, (gj gm), TTc ++ TTm)) ∧ (¬ (M 57 7) ≤ x3 → (vp_in x3 7 ∧ WW X Q 76 [(0, .ref 57), (1, .int x1), (2, .int (x2 + (M 74 x3.toNatClampNeg))), (3, .int (x3 + (1 : Int32)))] [] (M, (gj gm), TTc ++ TTm))))) :
    WW X Q 76 [(0, .ref 57), (1, .int x1), (2, .int x2), (3, .int x3)] [] (M, (gj gm), TTc ++ TTm) := by
  refine ww_iload_n C.1 dX10_stay_76 3 rfl rfl ?_
  refine ww_aload_n C.1 dX10_stay_77 0 rfl rfl ?_
  refine wt_getI C.1 dX10_stay_78 flRX10_29 tm57 rfl ?_
  refine ww_icmp_ge (x := x3) (y := (M 57 7)) C.1 (tgt := 99) dX10_stay_81 (by decide) (fun hh => ?_) (fun hh => ?_)
  · replace h := h.1 hh
    refine ww_iload_n C.1 dX10_stay_99 2 rfl rfl ?_
    refine ww_iret C.1 dX10_stay_100 rfl ?_
    exact h
  · replace h := h.2 hh
    refine ww_iload_n C.1 dX10_stay_84 2 rfl rfl ?_
    refine ww_aload_n C.1 dX10_stay_85 0 rfl rfl ?_
    refine wt_getR C.1 dX10_stay_86 flRX10_71 tm57 rfl gm57_31 ?_
    refine ww_iload_n C.1 dX10_stay_89 3 rfl rfl ?_
    refine wt_iald C.1 dX10_stay_90 tm74 h.1 ?_
    replace h := h.2
    refine ww_iadd C.1 dX10_stay_91 ?_
    refine ww_istore_n C.1 dX10_stay_92 rfl (by decide) [1, 2, 0, 3] (L' := [(0, .ref 57), (1, .int x1), (2, .int (x2 + (M 74 x3.toNatClampNeg))), (3, .int x3)]) rfl ?_
    refine ww_iinc C.1 (v := (x3 + (1 : Int32))) dX10_stay_93 3 rfl (by rfl) (by decide) [1, 2, 3, 0] (L' := [(0, .ref 57), (1, .int x1), (2, .int (x2 + (M 74 x3.toNatClampNeg))), (3, .int (x3 + (1 : Int32)))]) rfl ?_
    refine ww_goto C.1 (tgt := 76) dX10_stay_96 (by decide) ?_
    exact h
set_option maxHeartbeats 4000000 in
set_option maxRecDepth 20000 in
theorem bX10_stay_60 {X : CX} {Q : State → Prop} {M : Mem} {x1 x2 x3 : Int32} (C : Ok0 X mX10_stay (TTc ++ TTm))
    (h : WW X Q 49 [(0, .ref 57), (1, .int x1), (2, .int x2), (3, .int (x3 + (1 : Int32)))] [] (M, (gj gm), TTc ++ TTm)) :
    WW X Q 60 [(0, .ref 57), (1, .int x1), (2, .int x2), (3, .int x3)] [] (M, (gj gm), TTc ++ TTm) := by
  refine ww_iinc C.1 (v := (x3 + (1 : Int32))) dX10_stay_60 3 rfl (by rfl) (by decide) [1, 2, 3, 0] (L' := [(0, .ref 57), (1, .int x1), (2, .int x2), (3, .int (x3 + (1 : Int32)))]) rfl ?_
  refine ww_goto C.1 (tgt := 49) dX10_stay_63 (by decide) ?_
  exact h
set_option maxHeartbeats 4000000 in
set_option maxRecDepth 20000 in
theorem bX10_lies_0 {X : CX} {Q : State → Prop} {M : Mem} {x1 x2 : Int32} (C : Ok0 X mX10_lies (TTc ++ TTm))
    (h : ((x1 < (0 : Int32) → RetOK X Q (some (.int (-1 : Int32))) (M, (gj gm), TTc ++ TTm)) ∧ (¬ x1 < (0 : Int32) → ((((M 57 7) - (1 : Int32)) < x1 → RetOK X Q (some (.int (-1 : Int32))) (M, (gj gm), TTc ++ TTm)) ∧ (¬ ((M 57 7) - (1 : Int32)) < x1 → ((x2 < (0 : Int32) → RetOK X Q (some (.int (-1 : Int32))) (M, (gj gm), TTc ++ TTm)) ∧ (¬ x2 < (0 : Int32) → (((4 : Int32) < x2 → RetOK X Q (some (.int (-1 : Int32))) (M, (gj gm), TTc ++ TTm)) ∧ (¬ (4 : Int32) < x2 → WpI mX10_stay [.ref 57, .int (M 57 1)] M (gj gm) (TTc ++ TTm) (fun r M' => WW X Q 30 [(0, .ref 57), (1, .int x1), (2, .int x2)] [.int r] (M', (gj gm), TTc ++ TTm))))))))))) :
    WW X Q 0 [(0, .ref 57), (1, .int x1), (2, .int x2)] [] (M, (gj gm), TTc ++ TTm) := by
  refine ww_aload_n C.1 dX10_lies_0 0 rfl rfl ?_
  refine ww_iload_n C.1 dX10_lies_1 1 rfl rfl ?_
  refine ww_vI C fX10_isGuest (And.intro (by decide) (by decide)) mlRX10_209 dX10_lies_2 tm57 (by decide) rfl (As := [.int x1]) (rest := []) rfl rfl rfl (Nat.le_of_ble_eq_true rfl) (WpI.of (L0 := [(0, .ref 57), (1, .int x1)]) rfl rfl (Nat.le_of_ble_eq_true rfl) fun X1 Q1 C1 k1 => ?_)
  refine ww_iload_n C1.1 dX10_isGuest_0 1 rfl rfl ?_
  refine ww_i2l C1.1 dX10_isGuest_1 rfl ?_
  refine ww_lconst C1.1 (v := 0) dX10_isGuest_2 (by decide) ?_
  refine ww_aload_n C1.1 dX10_isGuest_3 0 rfl rfl ?_
  refine wt_getI C1.1 dX10_isGuest_4 flRX10_29 tm57 rfl ?_
  refine ww_iconst C1.1 (v := (1 : Int32)) dX10_isGuest_7 (by decide) ?_
  refine ww_isub C1.1 dX10_isGuest_8 ?_
  refine ww_i2l C1.1 dX10_isGuest_9 rfl ?_
  refine ww_sI C1 fX10_in (And.intro (by decide) (by decide)) mlRX10_101 dX10_isGuest_10 (As := [.long x1.toInt64, .long (0 : Int64), .long ((M 57 7) - (1 : Int32)).toInt64]) (rest := []) rfl rfl rfl (Nat.le_of_ble_eq_true rfl) (WpI.of (L0 := [(0, .long x1.toInt64), (2, .long (0 : Int64)), (4, .long ((M 57 7) - (1 : Int32)).toInt64)]) rfl rfl (Nat.le_of_ble_eq_true rfl) fun X2 Q2 C2 k2 => ?_)
  refine ww_lload_n C2.1 dX10_in_0 0 rfl rfl ?_
  refine ww_lload_n C2.1 dX10_in_1 1 rfl rfl ?_
  refine ww_lcmp C2.1 dX10_in_2 ?_
  refine ww_if_lt (x := (lg_cmp x1.toInt64 (0 : Int64))) C2.1 (tgt := 17) dX10_in_3 (by decide) (fun hh => ?_) (fun hh => ?_)
  · replace h := h.1 ((in_lt (a := x1) (b := (0 : Int32)) (by first | rfl | decide) (by first | rfl | decide)).mp hh)
    refine ww_iconst C2.1 (v := (0 : Int32)) dX10_in_17 (by decide) ?_
    refine ww_zret C2.1 dX10_in_18 rfl (Or.inl rfl) ?_
    refine k2 _ _ ?_
    refine ww_zret C1.1 dX10_isGuest_13 rfl (Or.inl rfl) ?_
    refine k1 _ _ ?_
    refine ww_if_eq (x := (0 : Int32)) C.1 (tgt := 20) dX10_lies_5 (by decide) (fun _ => ?_) (fun hh => absurd hh (by decide))
    refine ww_iconst C.1 (v := (-1 : Int32)) dX10_lies_20 (by decide) ?_
    refine ww_iret C.1 dX10_lies_21 rfl ?_
    exact h
  · replace h := h.2 (fun z => hh ((in_lt (a := x1) (b := (0 : Int32)) (by first | rfl | decide) (by first | rfl | decide)).mpr z))
    refine ww_lload_n C2.1 dX10_in_6 0 rfl rfl ?_
    refine ww_lload C2.1 dX10_in_7 2 rfl ?_
    refine ww_lcmp C2.1 dX10_in_9 ?_
    refine ww_if_gt (x := (lg_cmp x1.toInt64 ((M 57 7) - (1 : Int32)).toInt64)) C2.1 (tgt := 17) dX10_in_10 (by decide) (fun hh => ?_) (fun hh => ?_)
    · replace h := h.1 ((in_gt (a := x1) (b := ((M 57 7) - (1 : Int32))) (by first | rfl | decide) (by first | rfl | decide)).mp hh)
      refine ww_iconst C2.1 (v := (0 : Int32)) dX10_in_17 (by decide) ?_
      refine ww_zret C2.1 dX10_in_18 rfl (Or.inl rfl) ?_
      refine k2 _ _ ?_
      refine ww_zret C1.1 dX10_isGuest_13 rfl (Or.inl rfl) ?_
      refine k1 _ _ ?_
      refine ww_if_eq (x := (0 : Int32)) C.1 (tgt := 20) dX10_lies_5 (by decide) (fun _ => ?_) (fun hh => absurd hh (by decide))
      refine ww_iconst C.1 (v := (-1 : Int32)) dX10_lies_20 (by decide) ?_
      refine ww_iret C.1 dX10_lies_21 rfl ?_
      exact h
    · replace h := h.2 (fun z => hh ((in_gt (a := x1) (b := ((M 57 7) - (1 : Int32))) (by first | rfl | decide) (by first | rfl | decide)).mpr z))
      refine ww_iconst C2.1 (v := (1 : Int32)) dX10_in_13 (by decide) ?_
      refine ww_goto C2.1 (tgt := 18) dX10_in_14 (by decide) ?_
      refine ww_zret C2.1 dX10_in_18 rfl (Or.inr rfl) ?_
      refine k2 _ _ ?_
      refine ww_zret C1.1 dX10_isGuest_13 rfl (Or.inr rfl) ?_
      refine k1 _ _ ?_
      refine ww_if_eq (x := (1 : Int32)) C.1 (tgt := 20) dX10_lies_5 (by decide) (fun hh => absurd hh (by decide)) (fun _ => ?_)
      refine ww_iload_n C.1 dX10_lies_8 2 rfl rfl ?_
      refine ww_i2l C.1 dX10_lies_9 rfl ?_
      refine ww_lconst C.1 (v := 0) dX10_lies_10 (by decide) ?_
      refine ww_ldc2 C.1 kcRX10_143 dX10_lies_11 ?_
      refine ww_sI C fX10_in (And.intro (by decide) (by decide)) mlRX10_101 dX10_lies_14 (As := [.long x2.toInt64, .long (0 : Int64), .long (4 : Int64)]) (rest := []) rfl rfl rfl (Nat.le_of_ble_eq_true rfl) (WpI.of (L0 := [(0, .long x2.toInt64), (2, .long (0 : Int64)), (4, .long (4 : Int64))]) rfl rfl (Nat.le_of_ble_eq_true rfl) fun X3 Q3 C3 k3 => ?_)
      refine ww_lload_n C3.1 dX10_in_0 0 rfl rfl ?_
      refine ww_lload_n C3.1 dX10_in_1 1 rfl rfl ?_
      refine ww_lcmp C3.1 dX10_in_2 ?_
      refine ww_if_lt (x := (lg_cmp x2.toInt64 (0 : Int64))) C3.1 (tgt := 17) dX10_in_3 (by decide) (fun hh => ?_) (fun hh => ?_)
      · replace h := h.1 ((in_lt (a := x2) (b := (0 : Int32)) (by first | rfl | decide) (by first | rfl | decide)).mp hh)
        refine ww_iconst C3.1 (v := (0 : Int32)) dX10_in_17 (by decide) ?_
        refine ww_zret C3.1 dX10_in_18 rfl (Or.inl rfl) ?_
        refine k3 _ _ ?_
        refine ww_if_ne (x := (0 : Int32)) C.1 (tgt := 22) dX10_lies_17 (by decide) (fun hh => absurd hh (by decide)) (fun _ => ?_)
        refine ww_iconst C.1 (v := (-1 : Int32)) dX10_lies_20 (by decide) ?_
        refine ww_iret C.1 dX10_lies_21 rfl ?_
        exact h
      · replace h := h.2 (fun z => hh ((in_lt (a := x2) (b := (0 : Int32)) (by first | rfl | decide) (by first | rfl | decide)).mpr z))
        refine ww_lload_n C3.1 dX10_in_6 0 rfl rfl ?_
        refine ww_lload C3.1 dX10_in_7 2 rfl ?_
        refine ww_lcmp C3.1 dX10_in_9 ?_
        refine ww_if_gt (x := (lg_cmp x2.toInt64 (4 : Int64))) C3.1 (tgt := 17) dX10_in_10 (by decide) (fun hh => ?_) (fun hh => ?_)
        · replace h := h.1 ((in_gt (a := x2) (b := (4 : Int32)) (by first | rfl | decide) (by first | rfl | decide)).mp hh)
          refine ww_iconst C3.1 (v := (0 : Int32)) dX10_in_17 (by decide) ?_
          refine ww_zret C3.1 dX10_in_18 rfl (Or.inl rfl) ?_
          refine k3 _ _ ?_
          refine ww_if_ne (x := (0 : Int32)) C.1 (tgt := 22) dX10_lies_17 (by decide) (fun hh => absurd hh (by decide)) (fun _ => ?_)
          refine ww_iconst C.1 (v := (-1 : Int32)) dX10_lies_20 (by decide) ?_
          refine ww_iret C.1 dX10_lies_21 rfl ?_
          exact h
        · replace h := h.2 (fun z => hh ((in_gt (a := x2) (b := (4 : Int32)) (by first | rfl | decide) (by first | rfl | decide)).mpr z))
          refine ww_iconst C3.1 (v := (1 : Int32)) dX10_in_13 (by decide) ?_
          refine ww_goto C3.1 (tgt := 18) dX10_in_14 (by decide) ?_
          refine ww_zret C3.1 dX10_in_18 rfl (Or.inr rfl) ?_
          refine k3 _ _ ?_
          refine ww_if_ne (x := (1 : Int32)) C.1 (tgt := 22) dX10_lies_17 (by decide) (fun _ => ?_) (fun hh => absurd hh (by decide))
          refine ww_aload_n C.1 dX10_lies_22 0 rfl rfl ?_
          refine ww_aload_n C.1 dX10_lies_23 0 rfl rfl ?_
          refine wt_getI C.1 dX10_lies_24 flRX10_13 tm57 rfl ?_
          refine ww_vI C fX10_stay (And.intro (by decide) (by decide)) mlRX10_235 dX10_lies_27 tm57 (by decide) rfl (As := [.int (M 57 1)]) (rest := []) rfl rfl rfl (Nat.le_of_ble_eq_true rfl) ?_
          exact h
set_option maxHeartbeats 4000000 in
set_option maxRecDepth 20000 in
theorem bX10_lies_30 {X : CX} {Q : State → Prop} {M : Mem} {x1 x2 s0 : Int32} (C : Ok0 X mX10_lies (TTc ++ TTm))
    (h : (vp_in x1 7 ∧ (((0 : Int32) ≤ (M 72 x1.toNatClampNeg) → ((¬ x2 = (0 : Int32) → ((¬ x2 = (1 : Int32) → ((¬ x2 = (2 : Int32) → ((¬ x2 = (3 : Int32) → (vp_in x1 7 ∧ RetOK X Q (some (.int (M 76 x1.toNatClampNeg))) (M, (gj gm), TTc ++ TTm))) ∧ (x2 = (3 : Int32) → (vp_in x1 7 ∧ RetOK X Q (some (.int (M 75 x1.toNatClampNeg))) (M, (gj gm), TTc ++ TTm))))) ∧ (x2 = (2 : Int32) → (vp_in x1 7 ∧ RetOK X Q (some (.int (M 74 x1.toNatClampNeg))) (M, (gj gm), TTc ++ TTm))))) ∧ (x2 = (1 : Int32) → (vp_in x1 7 ∧ RetOK X Q (some (.int (M 73 x1.toNatClampNeg))) (M, (gj gm), TTc ++ TTm))))) ∧ (x2 = (0 : Int32) → (vp_in x1 7 ∧ RetOK X Q (some (.int (M 72 x1.toNatClampNeg))) (M, (gj gm), TTc ++ TTm))))) ∧ (¬ (0 : Int32) ≤ (M 72 x1.toNatClampNeg) → RetOK X Q (some (.int (-4 : Int32))) (M, (gj gm), TTc ++ TTm))))) :
    WW X Q 30 [(0, .ref 57), (1, .int x1), (2, .int x2)] [.int s0] (M, (gj gm), TTc ++ TTm) := by
  refine ww_pop C.1 dX10_lies_30 rfl ?_
  refine ww_aload_n C.1 dX10_lies_31 0 rfl rfl ?_
  refine wt_getR C.1 dX10_lies_32 flRX10_65 tm57 rfl gm57_29 ?_
  refine ww_iload_n C.1 dX10_lies_35 1 rfl rfl ?_
  refine wt_iald C.1 dX10_lies_36 tm72 h.1 ?_
  replace h := h.2
  refine ww_if_ge (x := (M 72 x1.toNatClampNeg)) C.1 (tgt := 43) dX10_lies_37 (by decide) (fun hh => ?_) (fun hh => ?_)
  · replace h := h.1 hh
    refine ww_iload_n C.1 dX10_lies_43 2 rfl rfl ?_
    refine ww_if_ne (x := x2) C.1 (tgt := 56) dX10_lies_44 (by decide) (fun hh => ?_) (fun hh => ?_)
    · replace h := h.1 hh
      refine ww_iload_n C.1 dX10_lies_56 2 rfl rfl ?_
      refine ww_iconst C.1 (v := (1 : Int32)) dX10_lies_57 (by decide) ?_
      refine ww_icmp_ne (x := x2) (y := (1 : Int32)) C.1 (tgt := 70) dX10_lies_58 (by decide) (fun hh => ?_) (fun hh => ?_)
      · replace h := h.1 hh
        refine ww_iload_n C.1 dX10_lies_70 2 rfl rfl ?_
        refine ww_iconst C.1 (v := (2 : Int32)) dX10_lies_71 (by decide) ?_
        refine ww_icmp_ne (x := x2) (y := (2 : Int32)) C.1 (tgt := 84) dX10_lies_72 (by decide) (fun hh => ?_) (fun hh => ?_)
        · replace h := h.1 hh
          refine ww_iload_n C.1 dX10_lies_84 2 rfl rfl ?_
          refine ww_iconst C.1 (v := (3 : Int32)) dX10_lies_85 (by decide) ?_
          refine ww_icmp_ne (x := x2) (y := (3 : Int32)) C.1 (tgt := 98) dX10_lies_86 (by decide) (fun hh => ?_) (fun hh => ?_)
          · replace h := h.1 hh
            refine ww_aload_n C.1 dX10_lies_98 0 rfl rfl ?_
            refine wt_getR C.1 dX10_lies_99 flRX10_77 tm57 rfl gm57_33 ?_
            refine ww_iload_n C.1 dX10_lies_102 1 rfl rfl ?_
            refine wt_iald C.1 dX10_lies_103 tm76 h.1 ?_
            replace h := h.2
            refine ww_iret C.1 dX10_lies_104 rfl ?_
            exact h
          · replace h := h.2 hh
            refine ww_aload_n C.1 dX10_lies_89 0 rfl rfl ?_
            refine wt_getR C.1 dX10_lies_90 flRX10_74 tm57 rfl gm57_32 ?_
            refine ww_iload_n C.1 dX10_lies_93 1 rfl rfl ?_
            refine wt_iald C.1 dX10_lies_94 tm75 h.1 ?_
            replace h := h.2
            refine ww_goto C.1 (tgt := 104) dX10_lies_95 (by decide) ?_
            refine ww_iret C.1 dX10_lies_104 rfl ?_
            exact h
        · replace h := h.2 hh
          refine ww_aload_n C.1 dX10_lies_75 0 rfl rfl ?_
          refine wt_getR C.1 dX10_lies_76 flRX10_71 tm57 rfl gm57_31 ?_
          refine ww_iload_n C.1 dX10_lies_79 1 rfl rfl ?_
          refine wt_iald C.1 dX10_lies_80 tm74 h.1 ?_
          replace h := h.2
          refine ww_goto C.1 (tgt := 104) dX10_lies_81 (by decide) ?_
          refine ww_iret C.1 dX10_lies_104 rfl ?_
          exact h
      · replace h := h.2 hh
        refine ww_aload_n C.1 dX10_lies_61 0 rfl rfl ?_
        refine wt_getR C.1 dX10_lies_62 flRX10_68 tm57 rfl gm57_30 ?_
        refine ww_iload_n C.1 dX10_lies_65 1 rfl rfl ?_
        refine wt_iald C.1 dX10_lies_66 tm73 h.1 ?_
        replace h := h.2
        refine ww_goto C.1 (tgt := 104) dX10_lies_67 (by decide) ?_
        refine ww_iret C.1 dX10_lies_104 rfl ?_
        exact h
    · replace h := h.2 hh
      refine ww_aload_n C.1 dX10_lies_47 0 rfl rfl ?_
      refine wt_getR C.1 dX10_lies_48 flRX10_65 tm57 rfl gm57_29 ?_
      refine ww_iload_n C.1 dX10_lies_51 1 rfl rfl ?_
      refine wt_iald C.1 dX10_lies_52 tm72 h.1 ?_
      replace h := h.2
      refine ww_goto C.1 (tgt := 104) dX10_lies_53 (by decide) ?_
      refine ww_iret C.1 dX10_lies_104 rfl ?_
      exact h
  · replace h := h.2 hh
    refine ww_bipush C.1 (v := (-4 : Int32)) dX10_lies_40 (by decide) ?_
    refine ww_iret C.1 dX10_lies_42 rfl ?_
    exact h
set_option maxHeartbeats 4000000 in
set_option maxRecDepth 20000 in
theorem bX10_who_0 {X : CX} {Q : State → Prop} {M : Mem} {x1 x2 : Int32} (C : Ok0 X mX10_who (TTc ++ TTm))
    (h : ((x1 < (0 : Int32) → RetOK X Q (some (.int (-1 : Int32))) (M, (gj gm), TTc ++ TTm)) ∧ (¬ x1 < (0 : Int32) → ((((M 57 1) - (1 : Int32)) < x1 → RetOK X Q (some (.int (-1 : Int32))) (M, (gj gm), TTc ++ TTm)) ∧ (¬ ((M 57 1) - (1 : Int32)) < x1 → ((x2 < (0 : Int32) → RetOK X Q (some (.int (-1 : Int32))) (M, (gj gm), TTc ++ TTm)) ∧ (¬ x2 < (0 : Int32) → (((29 : Int32) < x2 → RetOK X Q (some (.int (-1 : Int32))) (M, (gj gm), TTc ++ TTm)) ∧ (¬ (29 : Int32) < x2 → WpI mX10_stay [.ref 57, .int (M 57 1)] M (gj gm) (TTc ++ TTm) (fun r M' => WW X Q 25 [(0, .ref 57), (1, .int x1), (2, .int x2)] [.int r] (M', (gj gm), TTc ++ TTm))))))))))) :
    WW X Q 0 [(0, .ref 57), (1, .int x1), (2, .int x2)] [] (M, (gj gm), TTc ++ TTm) := by
  refine ww_aload_n C.1 dX10_who_0 0 rfl rfl ?_
  refine ww_iload_n C.1 dX10_who_1 1 rfl rfl ?_
  refine ww_vI C fX10_isBed (And.intro (by decide) (by decide)) mlRX10_193 dX10_who_2 tm57 (by decide) rfl (As := [.int x1]) (rest := []) rfl rfl rfl (Nat.le_of_ble_eq_true rfl) (WpI.of (L0 := [(0, .ref 57), (1, .int x1)]) rfl rfl (Nat.le_of_ble_eq_true rfl) fun X1 Q1 C1 k1 => ?_)
  refine ww_iload_n C1.1 dX10_isBed_0 1 rfl rfl ?_
  refine ww_i2l C1.1 dX10_isBed_1 rfl ?_
  refine ww_lconst C1.1 (v := 0) dX10_isBed_2 (by decide) ?_
  refine ww_aload_n C1.1 dX10_isBed_3 0 rfl rfl ?_
  refine wt_getI C1.1 dX10_isBed_4 flRX10_13 tm57 rfl ?_
  refine ww_iconst C1.1 (v := (1 : Int32)) dX10_isBed_7 (by decide) ?_
  refine ww_isub C1.1 dX10_isBed_8 ?_
  refine ww_i2l C1.1 dX10_isBed_9 rfl ?_
  refine ww_sI C1 fX10_in (And.intro (by decide) (by decide)) mlRX10_101 dX10_isBed_10 (As := [.long x1.toInt64, .long (0 : Int64), .long ((M 57 1) - (1 : Int32)).toInt64]) (rest := []) rfl rfl rfl (Nat.le_of_ble_eq_true rfl) (WpI.of (L0 := [(0, .long x1.toInt64), (2, .long (0 : Int64)), (4, .long ((M 57 1) - (1 : Int32)).toInt64)]) rfl rfl (Nat.le_of_ble_eq_true rfl) fun X2 Q2 C2 k2 => ?_)
  refine ww_lload_n C2.1 dX10_in_0 0 rfl rfl ?_
  refine ww_lload_n C2.1 dX10_in_1 1 rfl rfl ?_
  refine ww_lcmp C2.1 dX10_in_2 ?_
  refine ww_if_lt (x := (lg_cmp x1.toInt64 (0 : Int64))) C2.1 (tgt := 17) dX10_in_3 (by decide) (fun hh => ?_) (fun hh => ?_)
  · replace h := h.1 ((in_lt (a := x1) (b := (0 : Int32)) (by first | rfl | decide) (by first | rfl | decide)).mp hh)
    refine ww_iconst C2.1 (v := (0 : Int32)) dX10_in_17 (by decide) ?_
    refine ww_zret C2.1 dX10_in_18 rfl (Or.inl rfl) ?_
    refine k2 _ _ ?_
    refine ww_zret C1.1 dX10_isBed_13 rfl (Or.inl rfl) ?_
    refine k1 _ _ ?_
    refine ww_if_eq (x := (0 : Int32)) C.1 (tgt := 15) dX10_who_5 (by decide) (fun _ => ?_) (fun hh => absurd hh (by decide))
    refine ww_iconst C.1 (v := (-1 : Int32)) dX10_who_15 (by decide) ?_
    refine ww_iret C.1 dX10_who_16 rfl ?_
    exact h
  · replace h := h.2 (fun z => hh ((in_lt (a := x1) (b := (0 : Int32)) (by first | rfl | decide) (by first | rfl | decide)).mpr z))
    refine ww_lload_n C2.1 dX10_in_6 0 rfl rfl ?_
    refine ww_lload C2.1 dX10_in_7 2 rfl ?_
    refine ww_lcmp C2.1 dX10_in_9 ?_
    refine ww_if_gt (x := (lg_cmp x1.toInt64 ((M 57 1) - (1 : Int32)).toInt64)) C2.1 (tgt := 17) dX10_in_10 (by decide) (fun hh => ?_) (fun hh => ?_)
    · replace h := h.1 ((in_gt (a := x1) (b := ((M 57 1) - (1 : Int32))) (by first | rfl | decide) (by first | rfl | decide)).mp hh)
      refine ww_iconst C2.1 (v := (0 : Int32)) dX10_in_17 (by decide) ?_
      refine ww_zret C2.1 dX10_in_18 rfl (Or.inl rfl) ?_
      refine k2 _ _ ?_
      refine ww_zret C1.1 dX10_isBed_13 rfl (Or.inl rfl) ?_
      refine k1 _ _ ?_
      refine ww_if_eq (x := (0 : Int32)) C.1 (tgt := 15) dX10_who_5 (by decide) (fun _ => ?_) (fun hh => absurd hh (by decide))
      refine ww_iconst C.1 (v := (-1 : Int32)) dX10_who_15 (by decide) ?_
      refine ww_iret C.1 dX10_who_16 rfl ?_
      exact h
    · replace h := h.2 (fun z => hh ((in_gt (a := x1) (b := ((M 57 1) - (1 : Int32))) (by first | rfl | decide) (by first | rfl | decide)).mpr z))
      refine ww_iconst C2.1 (v := (1 : Int32)) dX10_in_13 (by decide) ?_
      refine ww_goto C2.1 (tgt := 18) dX10_in_14 (by decide) ?_
      refine ww_zret C2.1 dX10_in_18 rfl (Or.inr rfl) ?_
      refine k2 _ _ ?_
      refine ww_zret C1.1 dX10_isBed_13 rfl (Or.inr rfl) ?_
      refine k1 _ _ ?_
      refine ww_if_eq (x := (1 : Int32)) C.1 (tgt := 15) dX10_who_5 (by decide) (fun hh => absurd hh (by decide)) (fun _ => ?_)
      refine ww_iload_n C.1 dX10_who_8 2 rfl rfl ?_
      refine ww_sI C fX10_isNight (And.intro (by decide) (by decide)) mlRX10_196 dX10_who_9 (As := [.int x2]) (rest := []) rfl rfl rfl (Nat.le_of_ble_eq_true rfl) (WpI.of (L0 := [(0, .int x2)]) rfl rfl (Nat.le_of_ble_eq_true rfl) fun X3 Q3 C3 k3 => ?_)
      refine ww_iload_n C3.1 dX10_isNight_0 0 rfl rfl ?_
      refine ww_i2l C3.1 dX10_isNight_1 rfl ?_
      refine ww_lconst C3.1 (v := 0) dX10_isNight_2 (by decide) ?_
      refine ww_ldc2 C3.1 kcRX10_105 dX10_isNight_3 ?_
      refine ww_sI C3 fX10_in (And.intro (by decide) (by decide)) mlRX10_101 dX10_isNight_6 (As := [.long x2.toInt64, .long (0 : Int64), .long (29 : Int64)]) (rest := []) rfl rfl rfl (Nat.le_of_ble_eq_true rfl) (WpI.of (L0 := [(0, .long x2.toInt64), (2, .long (0 : Int64)), (4, .long (29 : Int64))]) rfl rfl (Nat.le_of_ble_eq_true rfl) fun X4 Q4 C4 k4 => ?_)
      refine ww_lload_n C4.1 dX10_in_0 0 rfl rfl ?_
      refine ww_lload_n C4.1 dX10_in_1 1 rfl rfl ?_
      refine ww_lcmp C4.1 dX10_in_2 ?_
      refine ww_if_lt (x := (lg_cmp x2.toInt64 (0 : Int64))) C4.1 (tgt := 17) dX10_in_3 (by decide) (fun hh => ?_) (fun hh => ?_)
      · replace h := h.1 ((in_lt (a := x2) (b := (0 : Int32)) (by first | rfl | decide) (by first | rfl | decide)).mp hh)
        refine ww_iconst C4.1 (v := (0 : Int32)) dX10_in_17 (by decide) ?_
        refine ww_zret C4.1 dX10_in_18 rfl (Or.inl rfl) ?_
        refine k4 _ _ ?_
        refine ww_zret C3.1 dX10_isNight_9 rfl (Or.inl rfl) ?_
        refine k3 _ _ ?_
        refine ww_if_ne (x := (0 : Int32)) C.1 (tgt := 17) dX10_who_12 (by decide) (fun hh => absurd hh (by decide)) (fun _ => ?_)
        refine ww_iconst C.1 (v := (-1 : Int32)) dX10_who_15 (by decide) ?_
        refine ww_iret C.1 dX10_who_16 rfl ?_
        exact h
      · replace h := h.2 (fun z => hh ((in_lt (a := x2) (b := (0 : Int32)) (by first | rfl | decide) (by first | rfl | decide)).mpr z))
        refine ww_lload_n C4.1 dX10_in_6 0 rfl rfl ?_
        refine ww_lload C4.1 dX10_in_7 2 rfl ?_
        refine ww_lcmp C4.1 dX10_in_9 ?_
        refine ww_if_gt (x := (lg_cmp x2.toInt64 (29 : Int64))) C4.1 (tgt := 17) dX10_in_10 (by decide) (fun hh => ?_) (fun hh => ?_)
        · replace h := h.1 ((in_gt (a := x2) (b := (29 : Int32)) (by first | rfl | decide) (by first | rfl | decide)).mp hh)
          refine ww_iconst C4.1 (v := (0 : Int32)) dX10_in_17 (by decide) ?_
          refine ww_zret C4.1 dX10_in_18 rfl (Or.inl rfl) ?_
          refine k4 _ _ ?_
          refine ww_zret C3.1 dX10_isNight_9 rfl (Or.inl rfl) ?_
          refine k3 _ _ ?_
          refine ww_if_ne (x := (0 : Int32)) C.1 (tgt := 17) dX10_who_12 (by decide) (fun hh => absurd hh (by decide)) (fun _ => ?_)
          refine ww_iconst C.1 (v := (-1 : Int32)) dX10_who_15 (by decide) ?_
          refine ww_iret C.1 dX10_who_16 rfl ?_
          exact h
        · replace h := h.2 (fun z => hh ((in_gt (a := x2) (b := (29 : Int32)) (by first | rfl | decide) (by first | rfl | decide)).mpr z))
          refine ww_iconst C4.1 (v := (1 : Int32)) dX10_in_13 (by decide) ?_
          refine ww_goto C4.1 (tgt := 18) dX10_in_14 (by decide) ?_
          refine ww_zret C4.1 dX10_in_18 rfl (Or.inr rfl) ?_
          refine k4 _ _ ?_
          refine ww_zret C3.1 dX10_isNight_9 rfl (Or.inr rfl) ?_
          refine k3 _ _ ?_
          refine ww_if_ne (x := (1 : Int32)) C.1 (tgt := 17) dX10_who_12 (by decide) (fun _ => ?_) (fun hh => absurd hh (by decide))
          refine ww_aload_n C.1 dX10_who_17 0 rfl rfl ?_
          refine ww_aload_n C.1 dX10_who_18 0 rfl rfl ?_
          refine wt_getI C.1 dX10_who_19 flRX10_13 tm57 rfl ?_
          refine ww_vI C fX10_stay (And.intro (by decide) (by decide)) mlRX10_235 dX10_who_22 tm57 (by decide) rfl (As := [.int (M 57 1)]) (rest := []) rfl rfl rfl (Nat.le_of_ble_eq_true rfl) ?_
          exact h
set_option maxHeartbeats 4000000 in
set_option maxRecDepth 20000 in
theorem bX10_who_32 {X : CX} {Q : State → Prop} {M : Mem} {x1 x2 x3 x4 : Int32} (C : Ok0 X mX10_who (TTc ++ TTm))
    (h : (((M 57 7) ≤ x4 → RetOK X Q (some (.int x3)) (M, (gj gm), TTc ++ TTm)) ∧ (¬ (M 57 7) ≤ x4 → (vp_in x4 7 ∧ ((¬ (M 72 x4.toNatClampNeg) = x2 → WW X Q 32 [(0, .ref 57), (1, .int x1), (2, .int x2), (3, .int x3), (4, .int (x4 + (1 : Int32)))] [] (M, (gj gm), TTc ++ TTm)) ∧ ((M 72 x4.toNatClampNeg) = x2 → (vp_in x4 7 ∧ ((¬ (M 73 x4.toNatClampNeg) = x1 → WW X Q 32 [(0, .ref 57), (1, .int x1), (2, .int x2), (3, .int x3), (4, .int (x4 + (1 : Int32)))] [] (M, (gj gm), TTc ++ TTm)) ∧ ((M 73 x4.toNatClampNeg) = x1 → WW X Q 32 [(0, .ref 57), (1, .int x1), (2, .int x2), (3, .int x4), (4, .int (x4 + (1 : Int32)))] [] (M, (gj gm), TTc ++ TTm)))))))))) :
    WW X Q 32 [(0, .ref 57), (1, .int x1), (2, .int x2), (3, .int x3), (4, .int x4)] [] (M, (gj gm), TTc ++ TTm) := by
  refine ww_iload C.1 dX10_who_32 4 rfl ?_
  refine ww_aload_n C.1 dX10_who_34 0 rfl rfl ?_
  refine wt_getI C.1 dX10_who_35 flRX10_29 tm57 rfl ?_
  refine ww_icmp_ge (x := x4) (y := (M 57 7)) C.1 (tgt := 76) dX10_who_38 (by decide) (fun hh => ?_) (fun hh => ?_)
  · replace h := h.1 hh
    refine ww_iload_n C.1 dX10_who_76 3 rfl rfl ?_
    refine ww_iret C.1 dX10_who_77 rfl ?_
    exact h
  · replace h := h.2 hh
    refine ww_aload_n C.1 dX10_who_41 0 rfl rfl ?_
    refine wt_getR C.1 dX10_who_42 flRX10_65 tm57 rfl gm57_29 ?_
    refine ww_iload C.1 dX10_who_45 4 rfl ?_
    refine wt_iald C.1 dX10_who_47 tm72 h.1 ?_
    replace h := h.2
    refine ww_iload_n C.1 dX10_who_48 2 rfl rfl ?_
    refine ww_icmp_ne (x := (M 72 x4.toNatClampNeg)) (y := x2) C.1 (tgt := 68) dX10_who_49 (by decide) (fun hh => ?_) (fun hh => ?_)
    · replace h := h.1 hh
      refine ww_iload_n C.1 dX10_who_68 3 rfl rfl ?_
      refine ww_istore_n C.1 dX10_who_69 rfl (by decide) [1, 2, 3, 0, 4] (L' := [(0, .ref 57), (1, .int x1), (2, .int x2), (3, .int x3), (4, .int x4)]) rfl ?_
      refine ww_iinc C.1 (v := (x4 + (1 : Int32))) dX10_who_70 4 rfl (by rfl) (by decide) [1, 2, 3, 4, 0] (L' := [(0, .ref 57), (1, .int x1), (2, .int x2), (3, .int x3), (4, .int (x4 + (1 : Int32)))]) rfl ?_
      refine ww_goto C.1 (tgt := 32) dX10_who_73 (by decide) ?_
      exact h
    · replace h := h.2 hh
      refine ww_aload_n C.1 dX10_who_52 0 rfl rfl ?_
      refine wt_getR C.1 dX10_who_53 flRX10_68 tm57 rfl gm57_30 ?_
      refine ww_iload C.1 dX10_who_56 4 rfl ?_
      refine wt_iald C.1 dX10_who_58 tm73 h.1 ?_
      replace h := h.2
      refine ww_iload_n C.1 dX10_who_59 1 rfl rfl ?_
      refine ww_icmp_ne (x := (M 73 x4.toNatClampNeg)) (y := x1) C.1 (tgt := 68) dX10_who_60 (by decide) (fun hh => ?_) (fun hh => ?_)
      · replace h := h.1 hh
        refine ww_iload_n C.1 dX10_who_68 3 rfl rfl ?_
        refine ww_istore_n C.1 dX10_who_69 rfl (by decide) [1, 2, 3, 0, 4] (L' := [(0, .ref 57), (1, .int x1), (2, .int x2), (3, .int x3), (4, .int x4)]) rfl ?_
        refine ww_iinc C.1 (v := (x4 + (1 : Int32))) dX10_who_70 4 rfl (by rfl) (by decide) [1, 2, 3, 4, 0] (L' := [(0, .ref 57), (1, .int x1), (2, .int x2), (3, .int x3), (4, .int (x4 + (1 : Int32)))]) rfl ?_
        refine ww_goto C.1 (tgt := 32) dX10_who_73 (by decide) ?_
        exact h
      · replace h := h.2 hh
        refine ww_iload C.1 dX10_who_63 4 rfl ?_
        refine ww_goto C.1 (tgt := 69) dX10_who_65 (by decide) ?_
        refine ww_istore_n C.1 dX10_who_69 rfl (by decide) [1, 2, 3, 0, 4] (L' := [(0, .ref 57), (1, .int x1), (2, .int x2), (3, .int x4), (4, .int x4)]) rfl ?_
        refine ww_iinc C.1 (v := (x4 + (1 : Int32))) dX10_who_70 4 rfl (by rfl) (by decide) [1, 2, 3, 4, 0] (L' := [(0, .ref 57), (1, .int x1), (2, .int x2), (3, .int x4), (4, .int (x4 + (1 : Int32)))]) rfl ?_
        refine ww_goto C.1 (tgt := 32) dX10_who_73 (by decide) ?_
        exact h
set_option maxHeartbeats 4000000 in
set_option maxRecDepth 20000 in
theorem bX10_who_25 {X : CX} {Q : State → Prop} {M : Mem} {x1 x2 s0 : Int32} (C : Ok0 X mX10_who (TTc ++ TTm))
    (h : WW X Q 32 [(0, .ref 57), (1, .int x1), (2, .int x2), (3, .int (-4 : Int32)), (4, .int (0 : Int32))] [] (M, (gj gm), TTc ++ TTm)) :
    WW X Q 25 [(0, .ref 57), (1, .int x1), (2, .int x2)] [.int s0] (M, (gj gm), TTc ++ TTm) := by
  refine ww_pop C.1 dX10_who_25 rfl ?_
  refine ww_bipush C.1 (v := (-4 : Int32)) dX10_who_26 (by decide) ?_
  refine ww_istore_n C.1 dX10_who_28 rfl (by decide) [1, 2, 3, 0] (L' := [(0, .ref 57), (1, .int x1), (2, .int x2), (3, .int (-4 : Int32))]) rfl ?_
  refine ww_iconst C.1 (v := (0 : Int32)) dX10_who_29 (by decide) ?_
  refine ww_istore C.1 dX10_who_30 (by decide) [1, 2, 3, 4, 0] (L' := [(0, .ref 57), (1, .int x1), (2, .int x2), (3, .int (-4 : Int32)), (4, .int (0 : Int32))]) rfl ?_
  exact h
set_option maxHeartbeats 4000000 in
set_option maxRecDepth 20000 in
theorem bX10_unharmed_0 {X : CX} {Q : State → Prop} {M : Mem} (C : Ok0 X mX10_unharmed (TTc ++ TTm))
    (h : WW X Q 4 [(0, .ref 57), (1, .int (0 : Int32)), (2, .int (0 : Int32))] [] (M, (gj gm), TTc ++ TTm)) :
    WW X Q 0 [(0, .ref 57)] [] (M, (gj gm), TTc ++ TTm) := by
  refine ww_iconst C.1 (v := (0 : Int32)) dX10_unharmed_0 (by decide) ?_
  refine ww_istore_n C.1 dX10_unharmed_1 rfl (by decide) [1, 0] (L' := [(0, .ref 57), (1, .int (0 : Int32))]) rfl ?_
  refine ww_iconst C.1 (v := (0 : Int32)) dX10_unharmed_2 (by decide) ?_
  refine ww_istore_n C.1 dX10_unharmed_3 rfl (by decide) [1, 2, 0] (L' := [(0, .ref 57), (1, .int (0 : Int32)), (2, .int (0 : Int32))]) rfl ?_
  exact h
set_option maxHeartbeats 4000000 in
set_option maxRecDepth 20000 in
theorem bX10_unharmed_4 {X : CX} {Q : State → Prop} {M : Mem} {x1 x2 : Int32} (C : Ok0 X mX10_unharmed (TTc ++ TTm))
    (h : (((M 57 7) ≤ x2 → RetOK X Q (some (.int x1)) (M, (gj gm), TTc ++ TTm)) ∧ (¬ (M 57 7) ≤ x2 → (vp_in x2 7 ∧ (((M 72 x2.toNatClampNeg) < (0 : Int32) → WW X Q 4 [(0, .ref 57), (1, .int (x1 + (0 : Int32))), (2, .int (x2 + (1 : Int32)))] [] (M, (gj gm), TTc ++ TTm)) ∧ (¬ (M 72 x2.toNatClampNeg) < (0 : Int32) → (vp_in x2 7 ∧ ((¬ (M 74 x2.toNatClampNeg) = (0 : Int32) → WW X Q 4 [(0, .ref 57), (1, .int (x1 + (0 : Int32))), (2, .int (x2 + (1 : Int32)))] [] (M, (gj gm), TTc ++ TTm)) ∧ ((M 74 x2.toNatClampNeg) = (0 : Int32) → WW X Q 4 [(0, .ref 57), (1, .int (x1 + (1 : Int32))), (2, .int (x2 + (1 : Int32)))] [] (M, (gj gm), TTc ++ TTm)))))))))) :
    WW X Q 4 [(0, .ref 57), (1, .int x1), (2, .int x2)] [] (M, (gj gm), TTc ++ TTm) := by
  refine ww_iload_n C.1 dX10_unharmed_4 2 rfl rfl ?_
  refine ww_aload_n C.1 dX10_unharmed_5 0 rfl rfl ?_
  refine wt_getI C.1 dX10_unharmed_6 flRX10_29 tm57 rfl ?_
  refine ww_icmp_ge (x := x2) (y := (M 57 7)) C.1 (tgt := 44) dX10_unharmed_9 (by decide) (fun hh => ?_) (fun hh => ?_)
  · replace h := h.1 hh
    refine ww_iload_n C.1 dX10_unharmed_44 1 rfl rfl ?_
    refine ww_iret C.1 dX10_unharmed_45 rfl ?_
    exact h
  · replace h := h.2 hh
    refine ww_iload_n C.1 dX10_unharmed_12 1 rfl rfl ?_
    refine ww_aload_n C.1 dX10_unharmed_13 0 rfl rfl ?_
    refine wt_getR C.1 dX10_unharmed_14 flRX10_65 tm57 rfl gm57_29 ?_
    refine ww_iload_n C.1 dX10_unharmed_17 2 rfl rfl ?_
    refine wt_iald C.1 dX10_unharmed_18 tm72 h.1 ?_
    replace h := h.2
    refine ww_if_lt (x := (M 72 x2.toNatClampNeg)) C.1 (tgt := 35) dX10_unharmed_19 (by decide) (fun hh => ?_) (fun hh => ?_)
    · replace h := h.1 hh
      refine ww_iconst C.1 (v := (0 : Int32)) dX10_unharmed_35 (by decide) ?_
      refine ww_iadd C.1 dX10_unharmed_36 ?_
      refine ww_istore_n C.1 dX10_unharmed_37 rfl (by decide) [1, 0, 2] (L' := [(0, .ref 57), (1, .int (x1 + (0 : Int32))), (2, .int x2)]) rfl ?_
      refine ww_iinc C.1 (v := (x2 + (1 : Int32))) dX10_unharmed_38 2 rfl (by rfl) (by decide) [1, 2, 0] (L' := [(0, .ref 57), (1, .int (x1 + (0 : Int32))), (2, .int (x2 + (1 : Int32)))]) rfl ?_
      refine ww_goto C.1 (tgt := 4) dX10_unharmed_41 (by decide) ?_
      exact h
    · replace h := h.2 hh
      refine ww_aload_n C.1 dX10_unharmed_22 0 rfl rfl ?_
      refine wt_getR C.1 dX10_unharmed_23 flRX10_71 tm57 rfl gm57_31 ?_
      refine ww_iload_n C.1 dX10_unharmed_26 2 rfl rfl ?_
      refine wt_iald C.1 dX10_unharmed_27 tm74 h.1 ?_
      replace h := h.2
      refine ww_if_ne (x := (M 74 x2.toNatClampNeg)) C.1 (tgt := 35) dX10_unharmed_28 (by decide) (fun hh => ?_) (fun hh => ?_)
      · replace h := h.1 hh
        refine ww_iconst C.1 (v := (0 : Int32)) dX10_unharmed_35 (by decide) ?_
        refine ww_iadd C.1 dX10_unharmed_36 ?_
        refine ww_istore_n C.1 dX10_unharmed_37 rfl (by decide) [1, 0, 2] (L' := [(0, .ref 57), (1, .int (x1 + (0 : Int32))), (2, .int x2)]) rfl ?_
        refine ww_iinc C.1 (v := (x2 + (1 : Int32))) dX10_unharmed_38 2 rfl (by rfl) (by decide) [1, 2, 0] (L' := [(0, .ref 57), (1, .int (x1 + (0 : Int32))), (2, .int (x2 + (1 : Int32)))]) rfl ?_
        refine ww_goto C.1 (tgt := 4) dX10_unharmed_41 (by decide) ?_
        exact h
      · replace h := h.2 hh
        refine ww_iconst C.1 (v := (1 : Int32)) dX10_unharmed_31 (by decide) ?_
        refine ww_goto C.1 (tgt := 36) dX10_unharmed_32 (by decide) ?_
        refine ww_iadd C.1 dX10_unharmed_36 ?_
        refine ww_istore_n C.1 dX10_unharmed_37 rfl (by decide) [1, 0, 2] (L' := [(0, .ref 57), (1, .int (x1 + (1 : Int32))), (2, .int x2)]) rfl ?_
        refine ww_iinc C.1 (v := (x2 + (1 : Int32))) dX10_unharmed_38 2 rfl (by rfl) (by decide) [1, 2, 0] (L' := [(0, .ref 57), (1, .int (x1 + (1 : Int32))), (2, .int (x2 + (1 : Int32)))]) rfl ?_
        refine ww_goto C.1 (tgt := 4) dX10_unharmed_41 (by decide) ?_
        exact h
set_option maxHeartbeats 4000000 in
set_option maxRecDepth 20000 in
theorem bX10_all_0 {X : CX} {Q : State → Prop} {M : Mem} {x1 : Int32} (C : Ok0 X mX10_all (TTc ++ TTm))
    (h : ((x1 < (0 : Int32) → RetOK X Q (some (.int (-1 : Int32))) (M, (gj gm), TTc ++ TTm)) ∧ (¬ x1 < (0 : Int32) → (((3 : Int32) < x1 → RetOK X Q (some (.int (-1 : Int32))) (M, (gj gm), TTc ++ TTm)) ∧ (¬ (3 : Int32) < x1 → WpI mX10_stay [.ref 57, .int (M 57 1)] M (gj gm) (TTc ++ TTm) (fun r M' => WW X Q 22 [(0, .ref 57), (1, .int x1)] [.int r] (M', (gj gm), TTc ++ TTm))))))) :
    WW X Q 0 [(0, .ref 57), (1, .int x1)] [] (M, (gj gm), TTc ++ TTm) := by
  refine ww_iload_n C.1 dX10_all_0 1 rfl rfl ?_
  refine ww_i2l C.1 dX10_all_1 rfl ?_
  refine ww_lconst C.1 (v := 0) dX10_all_2 (by decide) ?_
  refine ww_ldc2 C.1 kcRX10_238 dX10_all_3 ?_
  refine ww_sI C fX10_in (And.intro (by decide) (by decide)) mlRX10_101 dX10_all_6 (As := [.long x1.toInt64, .long (0 : Int64), .long (3 : Int64)]) (rest := []) rfl rfl rfl (Nat.le_of_ble_eq_true rfl) (WpI.of (L0 := [(0, .long x1.toInt64), (2, .long (0 : Int64)), (4, .long (3 : Int64))]) rfl rfl (Nat.le_of_ble_eq_true rfl) fun X1 Q1 C1 k1 => ?_)
  refine ww_lload_n C1.1 dX10_in_0 0 rfl rfl ?_
  refine ww_lload_n C1.1 dX10_in_1 1 rfl rfl ?_
  refine ww_lcmp C1.1 dX10_in_2 ?_
  refine ww_if_lt (x := (lg_cmp x1.toInt64 (0 : Int64))) C1.1 (tgt := 17) dX10_in_3 (by decide) (fun hh => ?_) (fun hh => ?_)
  · replace h := h.1 ((in_lt (a := x1) (b := (0 : Int32)) (by first | rfl | decide) (by first | rfl | decide)).mp hh)
    refine ww_iconst C1.1 (v := (0 : Int32)) dX10_in_17 (by decide) ?_
    refine ww_zret C1.1 dX10_in_18 rfl (Or.inl rfl) ?_
    refine k1 _ _ ?_
    refine ww_if_ne (x := (0 : Int32)) C.1 (tgt := 14) dX10_all_9 (by decide) (fun hh => absurd hh (by decide)) (fun _ => ?_)
    refine ww_iconst C.1 (v := (-1 : Int32)) dX10_all_12 (by decide) ?_
    refine ww_iret C.1 dX10_all_13 rfl ?_
    exact h
  · replace h := h.2 (fun z => hh ((in_lt (a := x1) (b := (0 : Int32)) (by first | rfl | decide) (by first | rfl | decide)).mpr z))
    refine ww_lload_n C1.1 dX10_in_6 0 rfl rfl ?_
    refine ww_lload C1.1 dX10_in_7 2 rfl ?_
    refine ww_lcmp C1.1 dX10_in_9 ?_
    refine ww_if_gt (x := (lg_cmp x1.toInt64 (3 : Int64))) C1.1 (tgt := 17) dX10_in_10 (by decide) (fun hh => ?_) (fun hh => ?_)
    · replace h := h.1 ((in_gt (a := x1) (b := (3 : Int32)) (by first | rfl | decide) (by first | rfl | decide)).mp hh)
      refine ww_iconst C1.1 (v := (0 : Int32)) dX10_in_17 (by decide) ?_
      refine ww_zret C1.1 dX10_in_18 rfl (Or.inl rfl) ?_
      refine k1 _ _ ?_
      refine ww_if_ne (x := (0 : Int32)) C.1 (tgt := 14) dX10_all_9 (by decide) (fun hh => absurd hh (by decide)) (fun _ => ?_)
      refine ww_iconst C.1 (v := (-1 : Int32)) dX10_all_12 (by decide) ?_
      refine ww_iret C.1 dX10_all_13 rfl ?_
      exact h
    · replace h := h.2 (fun z => hh ((in_gt (a := x1) (b := (3 : Int32)) (by first | rfl | decide) (by first | rfl | decide)).mpr z))
      refine ww_iconst C1.1 (v := (1 : Int32)) dX10_in_13 (by decide) ?_
      refine ww_goto C1.1 (tgt := 18) dX10_in_14 (by decide) ?_
      refine ww_zret C1.1 dX10_in_18 rfl (Or.inr rfl) ?_
      refine k1 _ _ ?_
      refine ww_if_ne (x := (1 : Int32)) C.1 (tgt := 14) dX10_all_9 (by decide) (fun _ => ?_) (fun hh => absurd hh (by decide))
      refine ww_aload_n C.1 dX10_all_14 0 rfl rfl ?_
      refine ww_aload_n C.1 dX10_all_15 0 rfl rfl ?_
      refine wt_getI C.1 dX10_all_16 flRX10_13 tm57 rfl ?_
      refine ww_vI C fX10_stay (And.intro (by decide) (by decide)) mlRX10_235 dX10_all_19 tm57 (by decide) rfl (As := [.int (M 57 1)]) (rest := []) rfl rfl rfl (Nat.le_of_ble_eq_true rfl) ?_
      exact h
set_option maxHeartbeats 4000000 in
set_option maxRecDepth 20000 in
theorem bX10_all_31 {X : CX} {Q : State → Prop} {M : Mem} {x1 x2 x3 x4 x5 : Int32} (C : Ok0 X mX10_all (TTc ++ TTm))
    (h : (((M 57 7) ≤ x5 → ((¬ x1 = (0 : Int32) → ((¬ x1 = (1 : Int32) → ((¬ x1 = (2 : Int32) → RetOK X Q (some (.int x4)) (M, (gj gm), TTc ++ TTm)) ∧ (x1 = (2 : Int32) → WpI mX10_unharmed [.ref 57] M (gj gm) (TTc ++ TTm) (fun r M' => WW X Q 126 [(0, .ref 57), (1, .int x1), (2, .int x2), (3, .int x3), (4, .int x4), (5, .int x5)] [.int r] (M', (gj gm), TTc ++ TTm))))) ∧ (x1 = (1 : Int32) → RetOK X Q (some (.int x3)) (M, (gj gm), TTc ++ TTm)))) ∧ (x1 = (0 : Int32) → RetOK X Q (some (.int x2)) (M, (gj gm), TTc ++ TTm)))) ∧ (¬ (M 57 7) ≤ x5 → (vp_in x5 7 ∧ (((M 72 x5.toNatClampNeg) < (0 : Int32) → (vp_in x5 7 ∧ (((M 72 x5.toNatClampNeg) < (0 : Int32) → WW X Q 31 [(0, .ref 57), (1, .int x1), (2, .int x2), (3, .int (x3 + (0 : Int32))), (4, .int x4), (5, .int (x5 + (1 : Int32)))] [] (M, (gj gm), TTc ++ TTm)) ∧ (¬ (M 72 x5.toNatClampNeg) < (0 : Int32) → (vp_in x5 7 ∧ (((M 74 x5.toNatClampNeg) ≤ x4 → WW X Q 31 [(0, .ref 57), (1, .int x1), (2, .int x2), (3, .int (x3 + (0 : Int32))), (4, .int x4), (5, .int (x5 + (1 : Int32)))] [] (M, (gj gm), TTc ++ TTm)) ∧ (¬ (M 74 x5.toNatClampNeg) ≤ x4 → (vp_in x5 7 ∧ WW X Q 31 [(0, .ref 57), (1, .int x1), (2, .int x2), (3, .int (x3 + (0 : Int32))), (4, .int (M 74 x5.toNatClampNeg)), (5, .int (x5 + (1 : Int32)))] [] (M, (gj gm), TTc ++ TTm))))))))) ∧ (¬ (M 72 x5.toNatClampNeg) < (0 : Int32) → (vp_in x5 7 ∧ (((M 72 x5.toNatClampNeg) < (0 : Int32) → WW X Q 31 [(0, .ref 57), (1, .int x1), (2, .int x2), (3, .int (x3 + (1 : Int32))), (4, .int x4), (5, .int (x5 + (1 : Int32)))] [] (M, (gj gm), TTc ++ TTm)) ∧ (¬ (M 72 x5.toNatClampNeg) < (0 : Int32) → (vp_in x5 7 ∧ (((M 74 x5.toNatClampNeg) ≤ x4 → WW X Q 31 [(0, .ref 57), (1, .int x1), (2, .int x2), (3, .int (x3 + (1 : Int32))), (4, .int x4), (5, .int (x5 + (1 : Int32)))] [] (M, (gj gm), TTc ++ TTm)) ∧ (¬ (M 74 x5.toNatClampNeg) ≤ x4 → (vp_in x5 7 ∧ WW X Q 31 [(0, .ref 57), (1, .int x1), (2, .int x2), (3, .int (x3 + (1 : Int32))), (4, .int (M 74 x5.toNatClampNeg)), (5, .int (x5 + (1 : Int32)))] [] (M, (gj gm), TTc ++ TTm)))))))))))))) :
    WW X Q 31 [(0, .ref 57), (1, .int x1), (2, .int x2), (3, .int x3), (4, .int x4), (5, .int x5)] [] (M, (gj gm), TTc ++ TTm) := by
  refine ww_iload C.1 dX10_all_31 5 rfl ?_
  refine ww_aload_n C.1 dX10_all_33 0 rfl rfl ?_
  refine wt_getI C.1 dX10_all_34 flRX10_29 tm57 rfl ?_
  refine ww_icmp_ge (x := x5) (y := (M 57 7)) C.1 (tgt := 100) dX10_all_37 (by decide) (fun hh => ?_) (fun hh => ?_)
  · replace h := h.1 hh
    refine ww_iload_n C.1 dX10_all_100 1 rfl rfl ?_
    refine ww_if_ne (x := x1) C.1 (tgt := 108) dX10_all_101 (by decide) (fun hh => ?_) (fun hh => ?_)
    · replace h := h.1 hh
      refine ww_iload_n C.1 dX10_all_108 1 rfl rfl ?_
      refine ww_iconst C.1 (v := (1 : Int32)) dX10_all_109 (by decide) ?_
      refine ww_icmp_ne (x := x1) (y := (1 : Int32)) C.1 (tgt := 117) dX10_all_110 (by decide) (fun hh => ?_) (fun hh => ?_)
      · replace h := h.1 hh
        refine ww_iload_n C.1 dX10_all_117 1 rfl rfl ?_
        refine ww_iconst C.1 (v := (2 : Int32)) dX10_all_118 (by decide) ?_
        refine ww_icmp_ne (x := x1) (y := (2 : Int32)) C.1 (tgt := 129) dX10_all_119 (by decide) (fun hh => ?_) (fun hh => ?_)
        · replace h := h.1 hh
          refine ww_iload C.1 dX10_all_129 4 rfl ?_
          refine ww_iret C.1 dX10_all_131 rfl ?_
          exact h
        · replace h := h.2 hh
          refine ww_aload_n C.1 dX10_all_122 0 rfl rfl ?_
          refine ww_vI C fX10_unharmed (And.intro (by decide) (by decide)) mlRX10_240 dX10_all_123 tm57 (by decide) rfl (As := []) (rest := []) rfl rfl rfl (Nat.le_of_ble_eq_true rfl) ?_
          exact h
      · replace h := h.2 hh
        refine ww_iload_n C.1 dX10_all_113 3 rfl rfl ?_
        refine ww_goto C.1 (tgt := 131) dX10_all_114 (by decide) ?_
        refine ww_iret C.1 dX10_all_131 rfl ?_
        exact h
    · replace h := h.2 hh
      refine ww_iload_n C.1 dX10_all_104 2 rfl rfl ?_
      refine ww_goto C.1 (tgt := 131) dX10_all_105 (by decide) ?_
      refine ww_iret C.1 dX10_all_131 rfl ?_
      exact h
  · replace h := h.2 hh
    refine ww_iload_n C.1 dX10_all_40 3 rfl rfl ?_
    refine ww_aload_n C.1 dX10_all_41 0 rfl rfl ?_
    refine wt_getR C.1 dX10_all_42 flRX10_65 tm57 rfl gm57_29 ?_
    refine ww_iload C.1 dX10_all_45 5 rfl ?_
    refine wt_iald C.1 dX10_all_47 tm72 h.1 ?_
    replace h := h.2
    refine ww_if_lt (x := (M 72 x5.toNatClampNeg)) C.1 (tgt := 55) dX10_all_48 (by decide) (fun hh => ?_) (fun hh => ?_)
    · replace h := h.1 hh
      refine ww_iconst C.1 (v := (0 : Int32)) dX10_all_55 (by decide) ?_
      refine ww_iadd C.1 dX10_all_56 ?_
      refine ww_istore_n C.1 dX10_all_57 rfl (by decide) [1, 2, 3, 0, 4, 5] (L' := [(0, .ref 57), (1, .int x1), (2, .int x2), (3, .int (x3 + (0 : Int32))), (4, .int x4), (5, .int x5)]) rfl ?_
      refine ww_aload_n C.1 dX10_all_58 0 rfl rfl ?_
      refine wt_getR C.1 dX10_all_59 flRX10_65 tm57 rfl gm57_29 ?_
      refine ww_iload C.1 dX10_all_62 5 rfl ?_
      refine wt_iald C.1 dX10_all_64 tm72 h.1 ?_
      replace h := h.2
      refine ww_if_lt (x := (M 72 x5.toNatClampNeg)) C.1 (tgt := 90) dX10_all_65 (by decide) (fun hh => ?_) (fun hh => ?_)
      · replace h := h.1 hh
        refine ww_iload C.1 dX10_all_90 4 rfl ?_
        refine ww_istore C.1 dX10_all_92 (by decide) [1, 2, 3, 4, 0, 5] (L' := [(0, .ref 57), (1, .int x1), (2, .int x2), (3, .int (x3 + (0 : Int32))), (4, .int x4), (5, .int x5)]) rfl ?_
        refine ww_iinc C.1 (v := (x5 + (1 : Int32))) dX10_all_94 5 rfl (by rfl) (by decide) [1, 2, 3, 4, 5, 0] (L' := [(0, .ref 57), (1, .int x1), (2, .int x2), (3, .int (x3 + (0 : Int32))), (4, .int x4), (5, .int (x5 + (1 : Int32)))]) rfl ?_
        refine ww_goto C.1 (tgt := 31) dX10_all_97 (by decide) ?_
        exact h
      · replace h := h.2 hh
        refine ww_aload_n C.1 dX10_all_68 0 rfl rfl ?_
        refine wt_getR C.1 dX10_all_69 flRX10_71 tm57 rfl gm57_31 ?_
        refine ww_iload C.1 dX10_all_72 5 rfl ?_
        refine wt_iald C.1 dX10_all_74 tm74 h.1 ?_
        replace h := h.2
        refine ww_iload C.1 dX10_all_75 4 rfl ?_
        refine ww_icmp_le (x := (M 74 x5.toNatClampNeg)) (y := x4) C.1 (tgt := 90) dX10_all_77 (by decide) (fun hh => ?_) (fun hh => ?_)
        · replace h := h.1 hh
          refine ww_iload C.1 dX10_all_90 4 rfl ?_
          refine ww_istore C.1 dX10_all_92 (by decide) [1, 2, 3, 4, 0, 5] (L' := [(0, .ref 57), (1, .int x1), (2, .int x2), (3, .int (x3 + (0 : Int32))), (4, .int x4), (5, .int x5)]) rfl ?_
          refine ww_iinc C.1 (v := (x5 + (1 : Int32))) dX10_all_94 5 rfl (by rfl) (by decide) [1, 2, 3, 4, 5, 0] (L' := [(0, .ref 57), (1, .int x1), (2, .int x2), (3, .int (x3 + (0 : Int32))), (4, .int x4), (5, .int (x5 + (1 : Int32)))]) rfl ?_
          refine ww_goto C.1 (tgt := 31) dX10_all_97 (by decide) ?_
          exact h
        · replace h := h.2 hh
          refine ww_aload_n C.1 dX10_all_80 0 rfl rfl ?_
          refine wt_getR C.1 dX10_all_81 flRX10_71 tm57 rfl gm57_31 ?_
          refine ww_iload C.1 dX10_all_84 5 rfl ?_
          refine wt_iald C.1 dX10_all_86 tm74 h.1 ?_
          replace h := h.2
          refine ww_goto C.1 (tgt := 92) dX10_all_87 (by decide) ?_
          refine ww_istore C.1 dX10_all_92 (by decide) [1, 2, 3, 4, 0, 5] (L' := [(0, .ref 57), (1, .int x1), (2, .int x2), (3, .int (x3 + (0 : Int32))), (4, .int (M 74 x5.toNatClampNeg)), (5, .int x5)]) rfl ?_
          refine ww_iinc C.1 (v := (x5 + (1 : Int32))) dX10_all_94 5 rfl (by rfl) (by decide) [1, 2, 3, 4, 5, 0] (L' := [(0, .ref 57), (1, .int x1), (2, .int x2), (3, .int (x3 + (0 : Int32))), (4, .int (M 74 x5.toNatClampNeg)), (5, .int (x5 + (1 : Int32)))]) rfl ?_
          refine ww_goto C.1 (tgt := 31) dX10_all_97 (by decide) ?_
          exact h
    · replace h := h.2 hh
      refine ww_iconst C.1 (v := (1 : Int32)) dX10_all_51 (by decide) ?_
      refine ww_goto C.1 (tgt := 56) dX10_all_52 (by decide) ?_
      refine ww_iadd C.1 dX10_all_56 ?_
      refine ww_istore_n C.1 dX10_all_57 rfl (by decide) [1, 2, 3, 0, 4, 5] (L' := [(0, .ref 57), (1, .int x1), (2, .int x2), (3, .int (x3 + (1 : Int32))), (4, .int x4), (5, .int x5)]) rfl ?_
      refine ww_aload_n C.1 dX10_all_58 0 rfl rfl ?_
      refine wt_getR C.1 dX10_all_59 flRX10_65 tm57 rfl gm57_29 ?_
      refine ww_iload C.1 dX10_all_62 5 rfl ?_
      refine wt_iald C.1 dX10_all_64 tm72 h.1 ?_
      replace h := h.2
      refine ww_if_lt (x := (M 72 x5.toNatClampNeg)) C.1 (tgt := 90) dX10_all_65 (by decide) (fun hh => ?_) (fun hh => ?_)
      · replace h := h.1 hh
        refine ww_iload C.1 dX10_all_90 4 rfl ?_
        refine ww_istore C.1 dX10_all_92 (by decide) [1, 2, 3, 4, 0, 5] (L' := [(0, .ref 57), (1, .int x1), (2, .int x2), (3, .int (x3 + (1 : Int32))), (4, .int x4), (5, .int x5)]) rfl ?_
        refine ww_iinc C.1 (v := (x5 + (1 : Int32))) dX10_all_94 5 rfl (by rfl) (by decide) [1, 2, 3, 4, 5, 0] (L' := [(0, .ref 57), (1, .int x1), (2, .int x2), (3, .int (x3 + (1 : Int32))), (4, .int x4), (5, .int (x5 + (1 : Int32)))]) rfl ?_
        refine ww_goto C.1 (tgt := 31) dX10_all_97 (by decide) ?_
        exact h
      · replace h := h.2 hh
        refine ww_aload_n C.1 dX10_all_68 0 rfl rfl ?_
        refine wt_getR C.1 dX10_all_69 flRX10_71 tm57 rfl gm57_31 ?_
        refine ww_iload C.1 dX10_all_72 5 rfl ?_
        refine wt_iald C.1 dX10_all_74 tm74 h.1 ?_
        replace h := h.2
        refine ww_iload C.1 dX10_all_75 4 rfl ?_
        refine ww_icmp_le (x := (M 74 x5.toNatClampNeg)) (y := x4) C.1 (tgt := 90) dX10_all_77 (by decide) (fun hh => ?_) (fun hh => ?_)
        · replace h := h.1 hh
          refine ww_iload C.1 dX10_all_90 4 rfl ?_
          refine ww_istore C.1 dX10_all_92 (by decide) [1, 2, 3, 4, 0, 5] (L' := [(0, .ref 57), (1, .int x1), (2, .int x2), (3, .int (x3 + (1 : Int32))), (4, .int x4), (5, .int x5)]) rfl ?_
          refine ww_iinc C.1 (v := (x5 + (1 : Int32))) dX10_all_94 5 rfl (by rfl) (by decide) [1, 2, 3, 4, 5, 0] (L' := [(0, .ref 57), (1, .int x1), (2, .int x2), (3, .int (x3 + (1 : Int32))), (4, .int x4), (5, .int (x5 + (1 : Int32)))]) rfl ?_
          refine ww_goto C.1 (tgt := 31) dX10_all_97 (by decide) ?_
          exact h
        · replace h := h.2 hh
          refine ww_aload_n C.1 dX10_all_80 0 rfl rfl ?_
          refine wt_getR C.1 dX10_all_81 flRX10_71 tm57 rfl gm57_31 ?_
          refine ww_iload C.1 dX10_all_84 5 rfl ?_
          refine wt_iald C.1 dX10_all_86 tm74 h.1 ?_
          replace h := h.2
          refine ww_goto C.1 (tgt := 92) dX10_all_87 (by decide) ?_
          refine ww_istore C.1 dX10_all_92 (by decide) [1, 2, 3, 4, 0, 5] (L' := [(0, .ref 57), (1, .int x1), (2, .int x2), (3, .int (x3 + (1 : Int32))), (4, .int (M 74 x5.toNatClampNeg)), (5, .int x5)]) rfl ?_
          refine ww_iinc C.1 (v := (x5 + (1 : Int32))) dX10_all_94 5 rfl (by rfl) (by decide) [1, 2, 3, 4, 5, 0] (L' := [(0, .ref 57), (1, .int x1), (2, .int x2), (3, .int (x3 + (1 : Int32))), (4, .int (M 74 x5.toNatClampNeg)), (5, .int (x5 + (1 : Int32)))]) rfl ?_
          refine ww_goto C.1 (tgt := 31) dX10_all_97 (by decide) ?_
          exact h
set_option maxHeartbeats 4000000 in
set_option maxRecDepth 20000 in
theorem bX10_all_22 {X : CX} {Q : State → Prop} {M : Mem} {x1 s0 : Int32} (C : Ok0 X mX10_all (TTc ++ TTm))
    (h : WW X Q 31 [(0, .ref 57), (1, .int x1), (2, .int s0), (3, .int (0 : Int32)), (4, .int (0 : Int32)), (5, .int (0 : Int32))] [] (M, (gj gm), TTc ++ TTm)) :
    WW X Q 22 [(0, .ref 57), (1, .int x1)] [.int s0] (M, (gj gm), TTc ++ TTm) := by
  refine ww_istore_n C.1 dX10_all_22 rfl (by decide) [1, 2, 0] (L' := [(0, .ref 57), (1, .int x1), (2, .int s0)]) rfl ?_
  refine ww_iconst C.1 (v := (0 : Int32)) dX10_all_23 (by decide) ?_
  refine ww_istore_n C.1 dX10_all_24 rfl (by decide) [1, 2, 3, 0] (L' := [(0, .ref 57), (1, .int x1), (2, .int s0), (3, .int (0 : Int32))]) rfl ?_
  refine ww_iconst C.1 (v := (0 : Int32)) dX10_all_25 (by decide) ?_
  refine ww_istore C.1 dX10_all_26 (by decide) [1, 2, 3, 4, 0] (L' := [(0, .ref 57), (1, .int x1), (2, .int s0), (3, .int (0 : Int32)), (4, .int (0 : Int32))]) rfl ?_
  refine ww_iconst C.1 (v := (0 : Int32)) dX10_all_28 (by decide) ?_
  refine ww_istore C.1 dX10_all_29 (by decide) [1, 2, 3, 4, 5, 0] (L' := [(0, .ref 57), (1, .int x1), (2, .int s0), (3, .int (0 : Int32)), (4, .int (0 : Int32)), (5, .int (0 : Int32))]) rfl ?_
  exact h
set_option maxHeartbeats 4000000 in
set_option maxRecDepth 20000 in
theorem bX10_all_126 {X : CX} {Q : State → Prop} {M : Mem} {x1 x2 x3 x4 x5 s0 : Int32} (C : Ok0 X mX10_all (TTc ++ TTm))
    (h : RetOK X Q (some (.int s0)) (M, (gj gm), TTc ++ TTm)) :
    WW X Q 126 [(0, .ref 57), (1, .int x1), (2, .int x2), (3, .int x3), (4, .int x4), (5, .int x5)] [.int s0] (M, (gj gm), TTc ++ TTm) := by
  refine ww_goto C.1 (tgt := 131) dX10_all_126 (by decide) ?_
  refine ww_iret C.1 dX10_all_131 rfl ?_
  exact h
