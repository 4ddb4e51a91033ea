/-! the law: lay, the loop -/
section L96
variable {X : CX} {Q : State → Prop} {nm : String} {Ln : Nat} {xv : Nat → Int32} {M : Mem}
theorem gm_far : ∀ k j a, 57 ≤ k → gm k j = some a → 57 ≤ a := by
  intro k j a hk h
  unfold gm at h
  by_cases e : k = 57
  · rw [if_pos e] at h
    have key : ∀ j, j < 44 → ∀ a, GGm.getD j none = some a → 57 ≤ a := by
      intro j hj a ha
      have h2 : ∀ j, j < 44 → (GGm.getD j none).all (fun a => Nat.ble 57 a) = true := by decide +kernel
      have := h2 j hj
      rw [ha] at this
      exact Nat.le_of_ble_eq_true this
    by_cases hj : j < 44
    · exact key j hj a h
    · rw [List.getD_eq_getElem?_getD, List.getElem?_eq_none (show GGm.length ≤ j by have : GGm.length = 44 := rfl; omega)] at h
      cases h
  · rw [if_neg e] at h
    cases h
set_option maxHeartbeats 4000000 in
theorem lw_c3 {i : Nat} (C : LK X nm Ln xv) (hI : Inv M) (kk : ∀ M2, Inv M2 → WW X Q 962 [(0, .retAddr 0), (1, .ref 0), (2, .ref 57), (3, .int (nI i))] [] (M2, gj gm, TTc ++ TTm)) : WW X Q 225 [(0, .retAddr 0), (1, .ref 0), (2, .ref 57), (3, .int (nI i))] [] (M, gj gm, TTc ++ TTm) := by
  obtain ⟨V, R, L, t, n, kn, h⟩ := hI
  obtain ⟨tx, tc, tm⟩ := h.2.2.2.2.1
  have z27 : M 57 27 = 0 := (congrFun (congrFun h.1.2.1 9) 4).trans h.1.2.2.2.2.1
  have z28 : M 57 28 = -1 := (congrFun (congrFun h.1.2.1 9) 5).trans h.1.2.2.2.2.2.1
  refine ww_aload_n C.1.1 dL_law_225 1 rfl rfl ?_
  refine ww_callV (As := []) (rest := []) C.1.1 (c_lay (G2 := gm) (T2 := TTm) tx tc h.2.2.2.2.2.1.2.1 h.2.2.2.2.2.1.2.2) fX9_lay (And.intro nL nL) mlRL_27 dL_law_226 (tc0 TTm) (by decide) rfl rfl rfl rfl nL (lk_room C) (Or.inl rfl) ?_
  rintro v w' (⟨no, rfl, M1, rfl, f7, g5, g6⟩ | ⟨ok, hv, M1, rfl, ly⟩)
  · show WW X Q 229 _ [.int (-2)] (M1, gj gm, TTc ++ TTm)
    refine ww_aload_n C.1.1 dL_law_229 2 rfl rfl ?_
    have e57 : M1 57 = M 57 := f7.1 57 (by omega) (by omega) (by omega)
    have tm1 : TM t n M1 := ⟨by rw [e57]; exact tm.1, fun p hp => by rw [f7.1 65 (by omega) (by omega) (by omega)]; exact tm.2 p hp⟩
    refine ww_callV (As := []) (rest := [.int (-2)]) C.1.1 (m_lay tx tm1 (by rw [e57]; exact z27) (by rw [e57]; exact z28)) fX10_lay (And.intro nL nL) mlRL_30 dL_law_230 tm57 (by decide) rfl rfl rfl rfl nL (lk_room C) (Or.inl rfl) ?_
    rintro v w' ⟨r2, M2, rfl, rfl, hr⟩
    rcases hr with ⟨-, rfl, f8⟩ | ⟨ok, -⟩
    · exact ww_icmp_eq C.1.1 (tgt := 962) dL_law_233 (by decide) (fun _ => kk _ (inv_fail h f7 g5 g6 f8)) (fun z => absurd rfl z)
    · exact absurd ok no
  · subst hv
    have key : ∀ g : Int32, g = nI (prs t n 200 0 d0).2.2.1 → WW X Q 229 [(0, .retAddr 0), (1, .ref 0), (2, .ref 57), (3, .int (nI i))] [.int g] (M1, gz 45 33 gm, TTc ++ TTm) := by
      intro g hg
      refine ww_perm (π := pi2) (G' := gj gm) pi2_i (ptT TTm) (fun k j => ?_) (fun k hk2 => ?_) (fun q hq => ?_) (fun v hv => ?_) ?_
      · rw [← gz_id, pgz gm_far]
        rfl
      · have : (TTc ++ TTm).length = 84 := rfl
        have : (xT X).length = 0 := by rw [C.1.2.1]; rfl
        exact pi2_o (by omega)
      · simp only [List.mem_cons, List.not_mem_nil, or_false] at hq
        rcases hq with rfl | rfl | rfl | rfl
        · trivial
        · exact pi2_o (by omega)
        · exact pi2_o (by omega)
        · trivial
      · rcases List.mem_singleton.mp hv with rfl
        trivial
      refine ww_aload_n C.1.1 dL_law_229 2 rfl rfl ?_
      have e57 : (fun k => M1 (pi2 k)) 57 = M 57 := by
        show M1 (pi2 57) = M 57
        rw [pi2_o (by omega)]
        exact ly.2.2.2.2.2.2 57 (by omega) (by omega) (by omega) (by omega) (by omega) (by omega) (by omega)
      have e65 : (fun k => M1 (pi2 k)) 65 = M 65 := by
        show M1 (pi2 65) = M 65
        rw [pi2_o (by omega)]
        exact ly.2.2.2.2.2.2 65 (by omega) (by omega) (by omega) (by omega) (by omega) (by omega) (by omega)
      have tm1 : TM t n (fun k => M1 (pi2 k)) := ⟨by rw [e57]; exact tm.1, fun p hp => by rw [e65]; exact tm.2 p hp⟩
      refine ww_callV (As := []) (rest := [.int g]) C.1.1 (m_lay tx tm1 ((congrFun e57 27).trans z27) ((congrFun e57 28).trans z28)) fX10_lay (And.intro nL nL) mlRL_30 dL_law_230 tm57 (by decide) rfl rfl rfl rfl nL (lk_room C) (Or.inl rfl) ?_
      rintro v w' ⟨r2, M2, rfl, rfl, hr⟩
      rcases hr with ⟨no, -⟩ | ⟨-, hr2, lm⟩
      · exact absurd ok no
      · exact ww_icmp_eq C.1.1 (tgt := 962) dL_law_233 (by decide) (fun _ => kk _ (inv_lay h ok ly lm)) (fun z => absurd (hg.trans hr2.symm) z)
    exact key _ rfl
set_option maxHeartbeats 4000000 in
theorem lw_loop (C : LK X nm Ln xv) (fin : ∀ i M, WW X Q 968 [(0, .retAddr 0), (1, .ref 0), (2, .ref 57), (3, .int i)] [] (M, gj gm, TTc ++ TTm)) : ∀ m i (M : Mem), Ln ≤ i + m → i ≤ 300 → Inv M → WW X Q 18 [(0, .retAddr 0), (1, .ref 0), (2, .ref 57), (3, .int (nI i))] [] (M, gj gm, TTc ++ TTm) := by
  have h256 := C.2.2.2.2
  have i4 : (4 : Int32).toInt = 4 := by decide
  have e4 : (nI Ln - 4).toInt = (Ln : Int) - 4 := by rw [fb_subI (by rw [nti (by omega), i4]; omega) (by rw [nti (by omega), i4]; omega), nti (by omega), i4]
  have head : ∀ i (M : Mem), i ≤ 300 → (¬ i + 4 ≤ Ln → WW X Q 968 [(0, .retAddr 0), (1, .ref 0), (2, .ref 57), (3, .int (nI i))] [] (M, gj gm, TTc ++ TTm)) → (i + 4 ≤ Ln → WW X Q 26 [(0, .retAddr 0), (1, .ref 0), (2, .ref 57), (3, .int (nI i))] [] (M, gj gm, TTc ++ TTm)) → WW X Q 18 [(0, .retAddr 0), (1, .ref 0), (2, .ref 57), (3, .int (nI i))] [] (M, gj gm, TTc ++ TTm) := by
    intro i M h300 no yes
    refine ww_iload_n C.1.1 dL_law_18 3 rfl rfl ?_
    refine ww_aloadX_n C.1.1 dL_law_19 0 rfl rfl ?_
    refine ww_slen C dL_law_20 ?_
    refine ww_iconst C.1.1 (v := (4 : Int32)) dL_law_21 (by decide) ?_
    refine ww_isub C.1.1 dL_law_22 ?_
    refine ww_icmp_gt C.1.1 (tgt := 968) dL_law_23 (by decide) (fun z => no ?_) (fun z => yes ?_)
    · rw [fa_lt, e4, nti (by omega)] at z
      omega
    · rw [fa_lt, e4, nti (by omega)] at z
      omega
  intro m
  induction m with
  | zero =>
    intro i M hm h300 hI
    exact head i M h300 (fun _ => fin _ _) (fun z => absurd z (by omega))
  | succ m ih =>
    intro i M hm h300 hI
    refine head i M h300 (fun _ => fin _ _) (fun hi4 => ?_)
    have back : ∀ M2, Inv M2 → WW X Q 962 [(0, .retAddr 0), (1, .ref 0), (2, .ref 57), (3, .int (nI i))] [] (M2, gj gm, TTc ++ TTm) := by
      intro M2 hI2
      refine ww_iinc C.1.1 (v := nI i + (4 : Int32)) dL_law_962 3 rfl (by rfl) (show 3 < 4 by decide) [1, 2, 3, 0] (L' := [(0, .retAddr 0), (1, .ref 0), (2, .ref 57), (3, .int (nI i + (4 : Int32)))]) rfl ?_
      refine ww_goto C.1.1 (tgt := 18) dL_law_965 (by decide) ?_
      rw [show nI i + (4 : Int32) = nI (i + 4) from nI_add i 4]
      exact ih (i + 4) M2 (by omega) (by omega) hI2
    refine ww_aloadX_n C.1.1 dL_law_26 0 rfl rfl ?_
    refine ww_iload_n C.1.1 dL_law_27 3 rfl rfl ?_
    refine ww_sld C dL_law_28 (j := i) rfl (by omega) ?_
    refine ww_bipush C.1.1 (v := (31 : Int32)) dL_law_29 (by decide) ?_
    refine ww_iand C.1.1 dL_law_31 ?_
    obtain ⟨k, hk, ek⟩ := pk_andE (xv i) (m := 31) 5 (by decide)
    rw [ek]
    have hk : k < 32 := hk
    rcases k with _ | _ | _ | _ | _ | _ | _ | _ | _ | _ | _ | _ | _ | _ | _ | _ | _ | _ | _ | _ | _ | _ | _ | _ | _ | _ | _ | _ | _ | _ | _ | _ | k
    · exact ww_tableIn (x := nI 0) C.1.1 (off := 144) (tgt := 176) dL_law_32 (by decide) (by decide) (by rfl) (by decide) (lw_c0 C hi4 (s_write hI _) back)
    · exact ww_tableIn (x := nI 1) C.1.1 (off := 167) (tgt := 199) dL_law_32 (by decide) (by decide) (by rfl) (by decide) (lw_c1 C hi4 (s_wipe hI) back)
    · exact ww_tableIn (x := nI 2) C.1.1 (off := 180) (tgt := 212) dL_law_32 (by decide) (by decide) (by rfl) (by decide) (lw_c2 C hi4 (s_fault hI) back)
    · exact ww_tableIn (x := nI 3) C.1.1 (off := 193) (tgt := 225) dL_law_32 (by decide) (by decide) (by rfl) (by decide) (lw_c3 C hI back)
    · exact ww_tableIn (x := nI 4) C.1.1 (off := 206) (tgt := 238) dL_law_32 (by decide) (by decide) (by rfl) (by decide) (lw_c4 C hi4 (s_bed hI _ _) back)
    · exact ww_tableIn (x := nI 5) C.1.1 (off := 239) (tgt := 271) dL_law_32 (by decide) (by decide) (by rfl) (by decide) (lw_c5 C hi4 (s_guest hI _ _) back)
    · exact ww_tableIn (x := nI 6) C.1.1 (off := 272) (tgt := 304) dL_law_32 (by decide) (by decide) (by rfl) (by decide) (lw_c6 C hi4 (s_harm hI _ _ _) back)
    · exact ww_tableIn (x := nI 7) C.1.1 (off := 315) (tgt := 347) dL_law_32 (by decide) (by decide) (by rfl) (by decide) (lw_c7 C hi4 (s_lies hI _ _) back)
    · exact ww_tableIn (x := nI 8) C.1.1 (off := 348) (tgt := 380) dL_law_32 (by decide) (by decide) (by rfl) (by decide) (lw_c8 C hi4 (s_who hI _ _) back)
    · exact ww_tableIn (x := nI 9) C.1.1 (off := 381) (tgt := 413) dL_law_32 (by decide) (by decide) (by rfl) (by decide) (lw_c9 C hi4 (s_all hI _) back)
    · exact ww_tableIn (x := nI 10) C.1.1 (off := 404) (tgt := 436) dL_law_32 (by decide) (by decide) (by rfl) (by decide) (lw_c10 C hi4 (s_move hI _ _) back)
    · exact ww_tableIn (x := nI 11) C.1.1 (off := 437) (tgt := 469) dL_law_32 (by decide) (by decide) (by rfl) (by decide) (lw_c11 C hi4 (s_wear hI _ _) back)
    · exact ww_tableIn (x := nI 12) C.1.1 (off := 470) (tgt := 502) dL_law_32 (by decide) (by decide) (by rfl) (by decide) (lw_c12 C hi4 (s_come hI _ _) back)
    · exact ww_tableIn (x := nI 13) C.1.1 (off := 503) (tgt := 535) dL_law_32 (by decide) (by decide) (by rfl) (by decide) (lw_c13 C hi4 (s_undo hI) back)
    · exact ww_tableIn (x := nI 14) C.1.1 (off := 516) (tgt := 548) dL_law_32 (by decide) (by decide) (by rfl) (by decide) (lw_c14 C hi4 (s_order hI _) back)
    · exact ww_tableIn (x := nI 15) C.1.1 (off := 539) (tgt := 571) dL_law_32 (by decide) (by decide) (by rfl) (by decide) (lw_c15 C hi4 (s_cushion hI _) back)
    · exact ww_tableIn (x := nI 16) C.1.1 (off := 562) (tgt := 594) dL_law_32 (by decide) (by decide) (by rfl) (by decide) (lw_c16 C hi4 (s_length hI _ _) back)
    · exact ww_tableIn (x := nI 17) C.1.1 (off := 595) (tgt := 627) dL_law_32 (by decide) (by decide) (by rfl) (by decide) (lw_c17 C hi4 (s_law hI) back)
    · exact ww_tableIn (x := nI 18) C.1.1 (off := 608) (tgt := 640) dL_law_32 (by decide) (by decide) (by rfl) (by decide) (lw_c18 C hi4 (s_pairs hI _) back)
    · exact ww_tableIn (x := nI 19) C.1.1 (off := 631) (tgt := 663) dL_law_32 (by decide) (by decide) (by rfl) (by decide) (lw_c19 C hi4 (s_later hI _ _) back)
    · exact ww_tableIn (x := nI 20) C.1.1 (off := 664) (tgt := 696) dL_law_32 (by decide) (by decide) (by rfl) (by decide) (lw_c20 C hi4 (s_rival hI) back)
    · exact ww_tableIn (x := nI 21) C.1.1 (off := 677) (tgt := 709) dL_law_32 (by decide) (by decide) (by rfl) (by decide) (lw_c21 C hi4 (s_fewest hI _) back)
    · exact ww_tableIn (x := nI 22) C.1.1 (off := 700) (tgt := 732) dL_law_32 (by decide) (by decide) (by rfl) (by decide) (lw_c22 C hi4 (s_turned hI) back)
    · exact ww_tableIn (x := nI 23) C.1.1 (off := 713) (tgt := 745) dL_law_32 (by decide) (by decide) (by rfl) (by decide) (lw_c23 C hi4 (s_left hI _ _ _) back)
    · exact ww_tableIn (x := nI 24) C.1.1 (off := 756) (tgt := 788) dL_law_32 (by decide) (by decide) (by rfl) (by decide) (lw_c24 C hi4 (s_sweep hI) back)
    · exact ww_tableIn (x := nI 25) C.1.1 (off := 769) (tgt := 801) dL_law_32 (by decide) (by decide) (by rfl) (by decide) (lw_c25 C hi4 (s_slept hI _) back)
    · exact ww_tableIn (x := nI 26) C.1.1 (off := 792) (tgt := 824) dL_law_32 (by decide) (by decide) (by rfl) (by decide) (lw_c26 C hi4 (s_sure hI _) back)
    · exact ww_tableIn (x := nI 27) C.1.1 (off := 815) (tgt := 847) dL_law_32 (by decide) (by decide) (by rfl) (by decide) (lw_c27 C hi4 (s_found hI _ _) back)
    · exact ww_tableIn (x := nI 28) C.1.1 (off := 848) (tgt := 880) dL_law_32 (by decide) (by decide) (by rfl) (by decide) (lw_c28 C hi4 (s_year hI _ _) back)
    · exact ww_tableIn (x := nI 29) C.1.1 (off := 881) (tgt := 913) dL_law_32 (by decide) (by decide) (by rfl) (by decide) (lw_c29 C hi4 (s_keep hI) back)
    · exact ww_tableIn (x := nI 30) C.1.1 (off := 894) (tgt := 926) dL_law_32 (by decide) (by decide) (by rfl) (by decide) (lw_c30 C hi4 (s_back hI) back)
    · exact ww_tableIn (x := nI 31) C.1.1 (off := 907) (tgt := 939) dL_law_32 (by decide) (by decide) (by rfl) (by decide) (lw_c31 C hi4 (s_count hI _) back)
    · omega
end L96
