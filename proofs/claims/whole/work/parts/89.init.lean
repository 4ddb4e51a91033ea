/-! the class's constructor -/
def t0 : Nat → Int32 := nrm 42 chF
theorem t0_ok : TX t0 42 := ⟨by omega, fun p hp => nrm_out (by omega)⟩
/-- the first inn -/
def dI : Dt := (prs t0 42 200 0 d0).2
theorem dI_n : (prs t0 42 200 0 d0).1 = -4 ∧ dI.2.1 = 3 ∧ dI.2.2.1 = 2 ∧ dI.2.2.2.1 = 0 ∧ dI.2.2.2.2 = 0 ∧ dI.1 9 0 = 1 := by decide +kernel
theorem dI_v : dI.1 0 0 = 66 ∧ dI.1 0 1 = 60 ∧ dI.1 0 2 = 75 ∧ dI.1 3 0 = 6 ∧ dI.1 6 0 = 60 ∧ dI.1 6 1 = 72 := by decide +kernel
theorem dI_z : (∀ i, i < 3 → dI.1 1 i = 0 ∧ dI.1 2 i = 0) ∧ (dI.1 3 1 = 0 ∧ dI.1 3 2 = 0) ∧ ∀ i, i < 30 → dI.1 7 i = 0 := by decide +kernel
theorem dI_ok : DOK dI := prs_ok d0_ok
theorem ch_nar : ∀ i, i < 42 → vp_nar .char (chF i) = chF i := by decide +kernel
def M9 : Mem := wr (wr (fun _ _ => 0) 34 6 (-1 : Int32)) 46 6 (-1 : Int32)
/-- behind the class's constructor -/
def AfC (M : Mem) : Prop := CD M dI ∧ M 1 2 = 0 ∧ M 10 3 = 0 ∧ M 14 3 = 0 ∧ M 24 4 = 0 ∧ M 29 3 = 0 ∧ M 34 5 = 0 ∧ M 34 6 = -1 ∧ ∀ k, 57 ≤ k → M k = fun _ => 0
theorem tk57 : TTa.take 57 = TTc ++ [] := by decide
section I9
variable {K Vv : Nat}
theorem c_putz {M : Mem} {ga gb : Nat} {G2 : Grf} {T2 : List (Nat × Nat)} {k : Nat} {x : Int32} (hn : M 1 2 = nI k) (hk2 : k < 200) (hx : vp_nar .char x = x) : WpI mX7_put [.ref 1, .int x] M (gz ga gb G2) (TTc ++ T2) (fun r M' => r = 1 ∧ M' = wr (wr M 2 k x) 1 2 (nI (k + 1))) := by
  refine WpI.of rfl rfl nL fun X Q C hk => bX7_putz_0 C ?_
  rw [hn, ncl (by omega), nI_1, hx]
  exact ⟨fun _ => ⟨nin (by omega) (by omega), hk _ _ ⟨rfl, rfl⟩⟩, fun z => absurd ((nlt (b := 200) (by omega) (by omega)).mpr hk2) z⟩
theorem c_init : WpS K Vv mX9_init 56 704 [.ref 0] (fun _ _ => 0, fun _ _ => none, TTa.take 1) (fun v w' => v = none ∧ ∃ M', w' = (M', gz 45 33 gE, TTc ++ []) ∧ AfC M') := by
  refine WpS.of rfl nL rfl ?_ ?_
  · rintro v w' ⟨rfl, M', rfl, -⟩
    exact ⟨rfl, show (TTc ++ []).length = (TTa.take 1).length + 56 by decide, show slT (TTc ++ []) = slT (TTa.take 1) + 704 by decide⟩
  intro X Q C0 h1 h2 h3 eb hs h67 hk
  have C : Okn X mX9_init (TTa.take 1) 56 704 := ⟨C0, h3, h1, h2⟩
  show WW X Q 0 [(0, .ref 0)] [] (fun _ _ => 0, fun _ _ => none, TTa.take 1)
  refine i9_pre (fun _ _ _ => rfl) (fun _ _ _ => rfl) C ?_
  rw [tk57]
  show WW X Q 100 [(0, .ref 0)] [] (M9, gX9, TTc ++ [])
  rw [gX9_eq, ← gz_id]
  refine ww_perm (π := pi2) (G' := gz 45 33 gE) pi2_i (ptT []) (fun k j => ?_) (fun k hk2 => ?_) (fun q hq => ?_) (fun v hv => absurd hv List.not_mem_nil) ?_
  · rw [pgz (fun k j a _ h => by cases h)]; rfl
  · have : (TTc ++ ([] : List (Nat × Nat))).length = 57 := rfl
    have : (xT X).length = 1 := by rw [h3]; rfl
    exact pi2_o (by omega)
  · rcases List.mem_singleton.mp hq with rfl
    exact pi2_o (by omega)
  have rm : ∀ w : Wd, w.2.2 = TTc ++ [] → w.2.2.length ≤ (xT X).length + (xR X).cells ∧ slT w.2.2 ≤ slT (xT X) + (xR X).slots := fun w e => by
    rw [e, h1, h2, h3]
    exact ⟨show (TTc ++ ([] : List (Nat × Nat))).length ≤ (TTa.take 1).length + 56 by decide, show slT (TTc ++ []) ≤ slT (TTa.take 1) + 704 by decide⟩
  -- the walk behind it
  have loop : ∀ m i (M1 : Mem), i + m = 42 → M1 1 2 = nI i → (∀ j, j < i → M1 2 j = chF j) → (∀ c, c ≠ 1 → c ≠ 2 → M1 c = M9 (pi2 c)) → WW X Q 102 [(0, .ref 0), (1, .int (nI i))] [] (M1, gz 45 33 gE, TTc ++ []) := by
    intro m
    induction m with
    | zero =>
      intro i M1 hi h12 h2j fr
      have ei : i = 42 := by omega
      subst ei
      refine ww_iload_n C0 dX9_init_102 1 rfl rfl ?_
      refine ww_ldcS C0 eb rfl h67 dX9_init_103 ?_
      refine ww_strV (As := []) (rest := [.int (nI 42)]) C0 eb hs (fun l => j_length) rfl fJ0_length_8abf5 (And.intro nL nL) mlRX9_67 dX9_init_105 rfl (fun _ => rfl) rfl nL (rm _ rfl) ?_
      refine ww_icmp_ge C0 (tgt := 131) dX9_init_108 (by decide) (fun _ => ?_) (fun z => absurd (by decide) z)
      refine ww_aload_n C0 dX9_init_131 0 rfl rfl ?_
      refine wt_getR C0 dX9_init_132 flRX9_10 (tc0 []) rfl rfl ?_
      refine ww_aload_n C0 dX9_init_135 0 rfl rfl ?_
      refine wt_getR C0 dX9_init_136 flRX9_58 (tc0 []) rfl rfl ?_
      have tc : TC t0 42 M1 := ⟨h12, fun p hp => by rw [h2j p hp]; exact (nrm_in hp).symm⟩
      refine ww_callV (As := [.ref 45]) (rest := []) C0 (c_readInto (ga := 45) (gb := 33) (G2 := gE) (T2 := []) t0_ok tc (by rw [fr 46 (by omega) (by omega)]; rfl) (by rw [fr 46 (by omega) (by omega)]; rfl)) fX7_readInto (And.intro nL nL) mlRX9_81 dX9_init_139 (tc1 []) (by decide) rfl rfl rfl rfl nL (rm _ rfl) (Or.inl rfl) ?_
      rintro v w' ⟨r, M2, rfl, rfl, -, cd, f7⟩
      refine ww_pop C0 dX9_init_142 rfl ?_
      refine ww_aload_n C0 dX9_init_143 0 rfl rfl ?_
      refine wt_getR C0 dX9_init_144 flRX9_10 (tc0 []) rfl rfl ?_
      refine ww_iconst C0 (v := (0 : Int32)) dX9_init_147 (by decide) ?_
      refine wt_putI C0 dX9_init_148 flRX9_85 (tc1 []) rfl ?_
      refine ww_vret C0 dX9_init_151 rfl (hk _ _ ⟨rfl, _, rfl, ?_⟩)
      have g : ∀ c, c ≠ 1 → c ≠ 2 → c ≠ 3 → (c < 45 ∨ 56 < c) → (wr M2 1 2 0) c = M9 (pi2 c) := fun c c1 c2 c3 c4 => by rw [wr_ne c1, f7.1 c c1 c3 c4, fr c c1 c2]
      refine ⟨CD.cong cd (fun c c1 c2 => by rw [wr_ne (by omega)]), wr_at, ?_, ?_, ?_, ?_, ?_, ?_, fun k hk => ?_⟩
      · rw [g 10 (by omega) (by omega) (by omega) (by omega)]; rfl
      · rw [g 14 (by omega) (by omega) (by omega) (by omega)]; rfl
      · rw [g 24 (by omega) (by omega) (by omega) (by omega)]; rfl
      · rw [g 29 (by omega) (by omega) (by omega) (by omega)]; rfl
      · rw [g 34 (by omega) (by omega) (by omega) (by omega)]; rfl
      · rw [g 34 (by omega) (by omega) (by omega) (by omega)]; rfl
      · rw [g k (by omega) (by omega) (by omega) (by omega), pi2_o (by omega)]
        unfold M9
        rw [wr_ne (by omega), wr_ne (by omega)]
    | succ m ih =>
      intro i M1 hi h12 h2j fr
      have hi42 : i < 42 := by omega
      refine ww_iload_n C0 dX9_init_102 1 rfl rfl ?_
      refine ww_ldcS C0 eb rfl h67 dX9_init_103 ?_
      refine ww_strV (As := []) (rest := [.int (nI i)]) C0 eb hs (fun l => j_length) rfl fJ0_length_8abf5 (And.intro nL nL) mlRX9_67 dX9_init_105 rfl (fun _ => rfl) rfl nL (rm _ rfl) ?_
      refine ww_icmp_ge C0 (tgt := 131) dX9_init_108 (by decide) (fun z => absurd ((nle (a := 42) (by omega) (by omega)).mp z) (by omega)) (fun _ => ?_)
      refine ww_aload_n C0 dX9_init_111 0 rfl rfl ?_
      refine wt_getR C0 dX9_init_112 flRX9_10 (tc0 []) rfl rfl ?_
      refine ww_ldcS C0 eb rfl h67 dX9_init_115 ?_
      refine ww_iload_n C0 dX9_init_117 1 rfl rfl ?_
      refine ww_strV (As := [.int (nI i)]) (rest := [.ref 1]) C0 eb hs (fun l => j_charAt hi42) rfl fJ0_charAt_5068e (And.intro nL nL) mlRX9_73 dX9_init_118 rfl (fun _ => rfl) rfl nL (rm _ rfl) ?_
      refine ww_callV (As := [.int (chF i)]) (rest := []) C0 (c_putz (ga := 45) (gb := 33) (G2 := gE) (T2 := []) h12 (by omega) (ch_nar i hi42)) fX7_put (And.intro nL nL) mlRX9_77 dX9_init_121 (tc1 []) (by decide) rfl rfl rfl rfl nL (rm _ rfl) (Or.inl rfl) ?_
      rintro v w' ⟨r, M2, rfl, rfl, rfl, rfl⟩
      refine ww_pop C0 dX9_init_124 rfl ?_
      refine ww_iinc C0 (v := nI i + (1 : Int32)) dX9_init_125 1 rfl (by rfl) (by decide) [1, 0] (L' := [(0, .ref 0), (1, .int (nI i + (1 : Int32)))]) rfl ?_
      refine ww_goto C0 (tgt := 102) dX9_init_128 (by decide) ?_
      rw [nI_1]
      refine ih (i + 1) _ (by omega) wr_at (fun j hj => ?_) (fun c c1 c2 => by rw [wr_ne c1, wr_ne c2]; exact fr c c1 c2)
      rw [wr_ne (by omega)]
      by_cases e : j = i
      · subst e; rw [wr_at]
      · rw [wr_no e]; exact h2j j (by omega)
  refine ww_iconst C0 (v := (0 : Int32)) dX9_init_100 (by decide) ?_
  refine ww_istore_n C0 dX9_init_101 rfl (by decide) [1, 0] (L' := [(0, .ref 0), (1, .int (0 : Int32))]) rfl ?_
  exact loop 42 0 _ (by omega) rfl (fun j hj => absurd hj (Nat.not_lt_zero j)) (fun _ _ _ => rfl)
end I9
