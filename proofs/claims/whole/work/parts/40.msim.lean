/-! the reference: what the inn is, out of its cells; harm; a night -/
def vM (op : Int32) (M : Mem) : Mem := fun c => match c with
  | 0 => nrm (M 57 7).toNatClampNeg (M 60)
  | 1 => nrm (M 57 7).toNatClampNeg (fun i => M 64 (14 + i))
  | 2 => nrm (M 57 7).toNatClampNeg (M 61)
  | 3 => nrm (M 57 7).toNatClampNeg (M 62)
  | 4 => nrm (M 57 7).toNatClampNeg (fun i => M 64 (7 + i))
  | 5 => nrm (M 57 7).toNatClampNeg (M 64)
  | 6 => nrm (M 57 1).toNatClampNeg (M 58)
  | 7 => nrm 30 (M 59)
  | 8 => nrm (M 57 9).toNatClampNeg (M 63)
  | 9 => fun j => match j with
    | 0 => M 57 7
    | 1 => M 57 1
    | 2 => M 57 9
    | 3 => M 57 10
    | 4 => M 57 27
    | 5 => M 57 28
    | 6 => op
    | _ => 0
  | _ => fun _ => 0
theorem vM_cong {op : Int32} {M M' : Mem} (h : Fr 72 76 M M') : vM op M' = vM op M := by
  unfold vM
  rw [h 57 (by omega), h 58 (by omega), h 59 (by omega), h 60 (by omega), h 61 (by omega), h 62 (by omega), h 63 (by omega), h 64 (by omega)]
section MS
variable {M : Mem} {op : Int32}
theorem n7 (i : Nat) : (7 : Int32) + nI i = nI (7 + i) := nI_add 7 i
theorem n14 (i : Nat) : (14 : Int32) + nI i = nI (14 + i) := nI_add 14 i
theorem m_harmBy {V : Mem} (e : vM op M = V) (h : VOK V) {i : Nat} (hi : i < ngV V) (o : Int32) : WpI mX10_harmBy [.ref 57, .int (nI i), .int o] M (gj gm) (TTc ++ TTm) (fun r M' => r = hK (V 2 i) o ∧ M' = M) := by
  have h7 := h.1.2.2
  have hcl : (nI i).toNatClampNeg = i := ncl (by omega)
  have e2 : M 61 i = V 2 i := by rw [← e]; exact (nrm_in (by rw [← e] at hi; exact hi)).symm
  refine WpI.of rfl rfl nL fun X Q C hk => bX10_harmBy_0 C ⟨nin (by omega) (by omega), ?_⟩
  rw [hcl, e2]
  generalize V 2 i = k at hk ⊢
  refine ⟨fun h => bX10_harmBy_19 C ?_, fun h => bX10_harmBy_19 C ?_⟩
  · replace hk : ∀ r, r = hK k o → RetOK X Q (some (.int r)) (M, gj gm, TTc ++ TTm) := fun r e => hk r M ⟨e, rfl⟩
    rw [hK_a h] at hk
    clear C
    by_cases h1 : k = 1
    · subst h1
      by_cases h0 : 0 < o
      · have h0' := i_nle.mpr h0
        by_cases h6 : 6 < o
        · have h6' := i_nle.mpr h6
          simp [h0, h6, h0', h6'] at hk ⊢
          exact hk
        · have h6' := i_nlt.mp h6
          simp [h0, h6, h0', h6'] at hk ⊢
          exact hk
      · have h0' := i_nlt.mp h0
        simp [h0, h0'] at hk ⊢
        exact hk
    · by_cases h3 : k = 3
      · subst h3
        by_cases h2 : 2 < o
        · have h2' := i_nle.mpr h2
          simp [h2, h2'] at hk ⊢
          exact hk
        · have h2' := i_nlt.mp h2
          simp [h2, h2'] at hk ⊢
          exact hk
      · simp [h1, h3, h] at hk ⊢
        exact ⟨fun _ => hk, fun _ => hk⟩
  · have h' := i_nle.mp h
    replace hk : ∀ r, r = hK k o → RetOK X Q (some (.int r)) (M, gj gm, TTc ++ TTm) := fun r e => hk r M ⟨e, rfl⟩
    rw [hK_b h'] at hk
    clear C
    have h0 : o ≤ 0 := i_lt_le h'
    by_cases h1 : k = 2
    · subst h1
      simp [h] at hk ⊢
      exact hk
    · by_cases h3 : k = 3
      · subst h3
        by_cases h2 : 2 < -o
        · have h2' := i_nle.mpr h2
          simp [h2, h2'] at hk ⊢
          exact hk
        · have h2' := i_nlt.mp h2
          simp [h2, h2'] at hk ⊢
          exact hk
      · simp [h1, h3, h0] at hk ⊢
        exact ⟨fun _ => hk, fun _ => hk⟩
theorem m_inchesOn {V : Mem} (e : vM op M = V) (h : VOK V) {i n : Nat} (hi : i < ngV V) (hn : n < 100) : WpI mX10_inchesOn [.ref 57, .int (nI i), .int (nI n)] M (gj gm) (TTc ++ TTm) (fun r M' => r = V 0 i + V 4 i + grS V i n ∧ M' = M) := by
  have h7 := h.1.2.2
  have hcl : (nI i).toNatClampNeg = i := ncl (by omega)
  have hc7 : (nI (7 + i)).toNatClampNeg = 7 + i := ncl (by omega)
  have hc14 : (nI (14 + i)).toNatClampNeg = 14 + i := ncl (by omega)
  have i7 : vp_in (nI i) 7 := nin (by omega) (by omega)
  have i21 : vp_in (nI (7 + i)) 21 := nin (by omega) (by omega)
  have j21 : vp_in (nI (14 + i)) 21 := nin (by omega) (by omega)
  have e0 : M 60 i = V 0 i := by rw [← e]; exact (nrm_in (by rw [← e] at hi; exact hi)).symm
  have e1 : M 64 (14 + i) = V 1 i := by rw [← e]; exact (nrm_in (f := fun i => M 64 (14 + i)) (by rw [← e] at hi; exact hi)).symm
  have e2 : M 61 i = V 2 i := by rw [← e]; exact (nrm_in (by rw [← e] at hi; exact hi)).symm
  have e4 : M 64 (7 + i) = V 4 i := by rw [← e]; exact (nrm_in (f := fun i => M 64 (7 + i)) (by rw [← e] at hi; exact hi)).symm
  refine WpI.of rfl rfl nL fun X Q C hk => bX10_inchesOn_0 C ?_
  rw [n7, n14, hcl, hc7, hc14, e0, e1, e2, e4]
  refine ⟨i7, fun q => ⟨i7, i21, hk _ _ ⟨?_, rfl⟩⟩, fun q => ⟨j21, fun q2 => ⟨i7, i21, hk _ _ ⟨?_, rfl⟩⟩, fun q2 => ⟨j21, i7, i21, hk _ _ ⟨?_, rfl⟩⟩⟩⟩
  · unfold grS; rw [if_neg (fun z => q z.1)]
  · unfold grS; rw [if_neg (fun z => i_nlt.mpr q2 z.2)]
  · unfold grS; rw [if_pos ⟨q, i_nle.mp q2⟩]
theorem m_lengthOn {V : Mem} (e : vM op M = V) (h : VOK V) {b n : Nat} (hb : b < nbV V) (hn : n < 30) : WpI mX10_lengthOn [.ref 57, .int (nI b), .int (nI n)] M (gj gm) (TTc ++ TTm) (fun r M' => r = lenS V b n ∧ M' = M) := by
  obtain ⟨-, ⟨hbe, hb1, hb4⟩, -, -, -, -, -, -, -, -, ht, hy⟩ := id h
  have et : M 57 27 = V 9 4 := by rw [← e]; rfl
  have ey : M 57 28 = V 9 5 := by rw [← e]; rfl
  have es : M 57 1 = nI (nbV V) := by rw [← hbe, ← e]; rfl
  have el : ∀ k, k < nbV V → M 58 k = V 6 k := fun k hk => by rw [← e]; exact (nrm_in (by rw [← e] at hk; exact hk)).symm
  have ef : M 59 n = V 7 n := by rw [← e]; exact (nrm_in hn).symm
  have hcn : (nI n).toNatClampNeg = n := ncl (by omega)
  refine WpI.of rfl rfl nL fun X Q C hk => ?_
  have mid : ∀ k : Nat, k = lyS V b n → WW X Q 27 [(0, .ref 57), (1, .int (nI b)), (2, .int (nI n)), (3, .int (nI k))] [] (M, gj gm, TTc ++ TTm) := by
    intro k hk2
    have hkb : k < nbV V := by rw [hk2]; unfold lyS; split <;> (try split) <;> omega
    have hck : (nI k).toNatClampNeg = k := ncl (by omega)
    refine bX10_lengthOn_27 C ⟨fun q => ?_, fun q => ?_⟩
    · refine bX10_lengthOn_80 C ⟨nin (by omega) (by omega), nin (by omega) (by omega), hk _ _ ⟨?_, rfl⟩⟩
      have y1 : V 9 5 = -1 := by
        rcases hy with y | ⟨y, -⟩
        · exact y
        · rw [ey, fa_lt] at q
          have e0 : (0 : Int32).toInt = 0 := by decide
          have := y.1
          omega
      unfold lenS
      rw [if_pos y1, hck, hcn, el k hkb, ef, hk2]
      grind
    · refine bX10_lengthOn_80 C ⟨nin (by omega) (by omega), nin (by omega) (by omega), hk _ _ ⟨?_, rfl⟩⟩
      have y1 : ¬ V 9 5 = -1 := by
        intro z
        rw [ey, z] at q
        exact q (by decide)
      have t0 : V 9 4 = 0 := by
        rcases hy with y | ⟨-, y⟩
        · exact absurd y y1
        · exact y
      have kb : k = b := by
        rw [hk2]
        unfold lyS
        rw [if_neg (fun z => absurd (t0.symm.trans z.1) (by decide))]
      subst kb
      have hd : lenS V k n = V 6 (lyS V k n) + V 7 n + (drw (V 9 5) (nI n) (nI k) - 3) := by unfold lenS; rw [if_neg y1]
      rw [hd, ← hk2, hck, hcn, el k hkb, ef, ey]
      show V 6 k + V 7 n + drw (V 9 5) (nI n) (nI k) - 3 = _
      grind
  refine bX10_lengthOn_0 C ⟨fun q => mid b ?_, fun q => ⟨fun q2 => mid b ?_, fun q2 => ⟨?_, ?_⟩⟩⟩
  · unfold lyS
    rw [if_neg (fun z => by rw [et, z.1] at q; exact absurd q (by decide))]
  · unfold lyS
    rw [if_neg (fun z => q2 (by rw [irem2 (by omega), z.2]; rfl))]
  · rw [es, show (0 : Int32) = nI 0 from rfl, neq (by omega) (by omega)]; omega
  · have q3 : n % 2 = 1 := by
      rw [irem2 (by omega)] at q2
      exact (neq (b := 1) (by omega) (by omega)).mp q2
    have t1 : V 9 4 = 1 := by
      rcases ht with z | z
      · rw [et, z] at q; exact absurd rfl q
      · exact z
    rw [nI_1, es, pk_rem (by omega) (by omega) (by omega)]
    refine mid _ ?_
    unfold lyS
    rw [if_pos ⟨t1, q3⟩]
    by_cases z : b + 1 = nbV V
    · rw [if_pos z, z, Nat.mod_self]
    · rw [if_neg z, Nat.mod_eq_of_lt (by omega)]
theorem m_harmOf {V : Mem} (e : vM op M = V) (h : VOK V) {i b n : Nat} (hi : i < ngV V) (hb : b < nbV V) (hn : n < 30) : WpI mX10_harmOf [.ref 57, .int (nI i), .int (nI b), .int (nI n)] M (gj gm) (TTc ++ TTm) (fun r M' => r = hS V i b n ∧ M' = M) := by
  refine WpI.of rfl rfl nL fun X Q C hk => bX10_harmOf_0 C ((m_inchesOn e h hi (by omega)).to ?_)
  refine bX10_harmOf_8 C ((m_lengthOn e h hb hn).to ?_)
  refine bX10_harmOf_14 C ((m_harmBy e h hi _).to ?_)
  exact bX10_harmOf_18 C (hk _ _ ⟨rfl, rfl⟩)
def SimM (M V σ : Mem) : Prop := ∀ i, i < ngV V → M 72 i = σ 0 i ∧ M 74 i = σ 2 i ∧ M 76 i = σ 4 i ∧ (0 ≤ σ 0 i → M 73 i = σ 1 i ∧ M 75 i = σ 3 i)
theorem m_lieDown {V : Mem} (e : vM op M = V) (h : VOK V) {i b n : Nat} (hi : i < ngV V) (hb : b < nbV V) (hn : n < 30) (nam : Int32) : WpV mX10_lieDown [.ref 57, .int (nI i), .int (nI b), .int (nI n), .int nam] M (gj gm) (TTc ++ TTm) (fun M' => M' = wr (wr (wr (wr M 72 i (nI n)) 73 i (nI b)) 74 i (hS V i b n)) 75 i nam) := by
  have h7 := h.1.2.2
  have hcl : (nI i).toNatClampNeg = i := ncl (by omega)
  have i7 : vp_in (nI i) 7 := nin (by omega) (by omega)
  refine WpV.of rfl rfl nL fun X Q C hk => bX10_lieDown_0 C ⟨i7, i7, ?_⟩
  rw [hcl]
  refine (m_harmOf ((vM_cong ((Fr.rfl'.wr (by omega) (by omega)).wr (by omega) (by omega))).trans e) h hi hb hn).to ?_
  refine bX10_lieDown_26 C ⟨i7, i7, hk _ ?_⟩
  rw [hcl]
end MS
