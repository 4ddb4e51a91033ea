/-! the class: what the inn is, out of its cells -/
def vC (M : Mem) : Mem := fun c => match c with
  | 0 => nrm (M 37 6).toNatClampNeg (M 38)
  | 1 => nrm (M 37 6).toNatClampNeg (M 39)
  | 2 => nrm (M 37 6).toNatClampNeg (M 40)
  | 3 => nrm (M 37 6).toNatClampNeg (M 41)
  | 4 => nrm (M 37 6).toNatClampNeg (M 42)
  | 5 => nrm (M 37 6).toNatClampNeg (M 43)
  | 6 => nrm (M 34 2).toNatClampNeg (M 35)
  | 7 => nrm 30 (M 36)
  | 8 => nrm (M 33 3).toNatClampNeg (M 44)
  | 9 => fun j => match j with
    | 0 => M 37 6
    | 1 => M 34 2
    | 2 => M 33 3
    | 3 => M 33 4
    | 4 => M 34 5
    | 5 => M 34 6
    | 6 => M 34 4
    | _ => 0
  | _ => fun _ => 0
/-- M' is M but for the cells from a to b -/
def Fr (a b : Nat) (M M' : Mem) : Prop := ∀ c, (c < a ∨ b < c) → M' c = M c
theorem Fr.rfl' {a b : Nat} {M : Mem} : Fr a b M M := fun _ _ => rfl
theorem Fr.trans {a b : Nat} {M M' M'' : Mem} (h : Fr a b M M') (h2 : Fr a b M' M'') : Fr a b M M'' := fun c hc => (h2 c hc).trans (h c hc)
theorem Fr.wr {a b c j : Nat} {M M' : Mem} {v : Int32} (h : Fr a b M M') (h1 : a ≤ c) (h2 : c ≤ b) : Fr a b M (wr M' c j v) := fun k hk => by rw [wr_ne (by omega)]; exact h k hk
theorem vC_cong {M M' : Mem} (h : Fr 4 9 M M') : vC M' = vC M := by
  have e : ∀ c, 10 ≤ c → M' c = M c := fun c hc => h c (by omega)
  unfold vC
  rw [e 37 (by omega), e 38 (by omega), e 39 (by omega), e 40 (by omega), e 41 (by omega), e 42 (by omega), e 43 (by omega), e 34 (by omega), e 35 (by omega), e 36 (by omega), e 33 (by omega), e 44 (by omega)]
section CL
variable {M : Mem} {G2 : Grf} {T2 : List (Nat × Nat)}
theorem gr_max {V : Mem} (h : VOK V) {i n : Nat} (hi : i < ngV V) (hn : n < 100) (h4 : V 2 i = 4) : (if (0 : Int32) < nI n - V 1 i then nI n - V 1 i else 0) = grS V i n := by
  obtain ⟨-, -, -, -, hg, -⟩ := h
  obtain ⟨-, hc, -⟩ := hg i hi
  unfold rgI at hc
  have en : (nI n).toInt = n := nti (by omega)
  have e0 : (0 : Int32).toInt = 0 := by decide
  have es : (nI n - V 1 i).toInt = (nI n).toInt - (V 1 i).toInt := fb_subI (by omega) (by omega)
  unfold grS
  by_cases q : V 1 i < nI n
  · rw [if_pos (by rw [fa_lt, es]; rw [fa_lt] at q; omega), if_pos ⟨h4, q⟩]
  · rw [if_neg (by rw [fa_lt, es]; rw [fa_lt] at q; omega), if_neg (fun z => q z.2)]
theorem c_harmAt {V : Mem} (e : vC M = V) (h : VOK V) {i n : Nat} (hi : i < ngV V) (hn : n < 100) (bl : Int32) : WpI mX5_harmAt [.ref 37, .int (nI i), .int (nI n), .int bl] M (gj G2) (TTc ++ T2) (fun r M' => r = hK (V 2 i) (V 0 i + V 4 i + grS V i n - bl) ∧ M' = M) := by
  have h7 := h.1.2.2
  have hs : M 37 6 = nI (ngV V) := by rw [← h.1.1, ← e]; rfl
  have hcl : (nI i).toNatClampNeg = i := ncl (by omega)
  have hin : vp_in (nI i) 7 := nin (by omega) (by omega)
  have e0 : M 38 i = V 0 i := by rw [← e]; exact (nrm_in (by rw [← e] at hi; exact hi)).symm
  have e1 : M 39 i = V 1 i := by rw [← e]; exact (nrm_in (by rw [← e] at hi; exact hi)).symm
  have e2 : M 40 i = V 2 i := by rw [← e]; exact (nrm_in (by rw [← e] at hi; exact hi)).symm
  have e4 : M 42 i = V 4 i := by rw [← e]; exact (nrm_in (by rw [← e] at hi; exact hi)).symm
  refine WpI.of rfl rfl nL fun X Q C hk => bX5_harmAt_0 C ⟨fun q => absurd q (nn0 (by omega)), fun _ => ⟨fun q => absurd q ?_, fun _ => ⟨hin, fun q => ⟨hin, hin, hin, ?_⟩, fun q => ⟨hin, ?_⟩⟩⟩⟩
  · rw [hs, nle (by omega) (by omega)]; omega
  · refine (c_harmBy _ _).to ?_
    refine bX5_harmAt_65 C (hk _ _ ⟨?_, rfl⟩)
    rw [hcl, e2] at q
    have : grS V i n = 0 := by unfold grS; rw [if_neg (fun z => q z.1)]
    rw [hcl, e0, e2, e4, this]
  · rw [hcl, e2] at q
    refine (c_max _ _).to ?_
    refine bX5_harmAt_32 C ⟨hin, hin, hin, (c_harmBy _ _).to ?_⟩
    refine bX5_harmAt_65 C (hk _ _ ⟨?_, rfl⟩)
    rw [hcl, e0, e1, e2, e4, gr_max h hi hn q]
theorem c_drawn (b n : Int32) : WpI mX0_drawn [.ref 34, .int b, .int n] M (gj G2) (TTc ++ T2) (fun r M' => r = drw (M 34 6) n b - 3 ∧ M' = M) := by
  refine WpI.of rfl rfl nL fun X Q C hk => bX0_drawn_0 C (hk _ _ ⟨rfl, rfl⟩)
theorem irem2 {n : Nat} (hn : n < 1000) : nI n - nI n / 2 * 2 = nI (n % 2) := pk_rem (a := n) (d := 2) (by omega) (by omega) (by omega)
theorem c_lengthOn {V : Mem} (e : vC M = V) (h : VOK V) {b n : Nat} (hb : b < nbV V) (hn : n < 30) : WpI mX0_lengthOn [.ref 34, .int (nI b), .int (nI n)] M (gj G2) (TTc ++ T2) (fun r M' => r = lenS V b n ∧ M' = M) := by
  obtain ⟨-, ⟨hbe, hb1, hb4⟩, -, -, -, -, -, -, -, -, ht, hy⟩ := id h
  have et : M 34 5 = V 9 4 := by rw [← e]; rfl
  have ey : M 34 6 = V 9 5 := by rw [← e]; rfl
  have es : M 34 2 = nI (nbV V) := by rw [← hbe, ← e]; rfl
  have el : ∀ k, k < nbV V → M 35 k = V 6 k := fun k hk => by rw [← e]; exact (nrm_in (by rw [← e] at hk; exact hk)).symm
  have ef : M 36 n = V 7 n := by rw [← e]; exact (nrm_in hn).symm
  refine WpI.of rfl rfl nL fun X Q C hk => ?_
  have last : ∀ k : Nat, k = lyS V b n → WW X Q 32 [(0, .ref 34), (1, .int (nI b)), (2, .int (nI n)), (3, .int (nI k))] [] (M, gj G2, TTc ++ T2) := by
    intro k hk2
    have hkb : k < nbV V := by rw [hk2]; unfold lyS; split <;> (try split) <;> omega
    have hck : (nI k).toNatClampNeg = k := ncl (by omega)
    have hcn : (nI n).toNatClampNeg = n := ncl (by omega)
    refine bX0_lengthOn_32 C ⟨fun q => absurd q (nn0 (by omega)), fun _ => ⟨fun q => absurd q ?_, fun _ => ⟨nin (by omega) (by omega), ?_⟩⟩⟩
    · rw [es, nle (by omega) (by omega)]; omega
    refine bX0_lengthOn_52 C ⟨fun q => absurd q (nn0 (by omega)), fun _ => ⟨fun q => absurd q ?_, fun _ => ⟨nin (by omega) (by omega), ?_⟩⟩⟩
    · show ¬ nI 29 < nI n
      rw [nlt (by omega) (by omega)]; omega
    rw [hck, hcn, el k hkb, ef, hk2]
    refine bX0_lengthOn_74 C ⟨fun q => ?_, fun q => hk _ _ ⟨?_, rfl⟩⟩
    · refine (c_drawn _ _).to (bX0_lengthOn_95 C (hk _ _ ⟨?_, rfl⟩))
      rw [ey] at q ⊢
      unfold lenS
      rw [if_neg q]
    · rw [ey] at q
      unfold lenS
      rw [if_pos q]
  have mid : ∀ k : Nat, k = b ∨ (k = b + 1 ∧ V 9 4 = 1 ∧ n % 2 = 1) → (k = b → ¬ (V 9 4 = 1 ∧ n % 2 = 1)) → WW X Q 22 [(0, .ref 34), (1, .int (nI b)), (2, .int (nI n)), (3, .int (nI k))] [] (M, gj G2, TTc ++ T2) := by
    intro k hk1 hk2
    refine bX0_lengthOn_22 C ⟨fun q => last k ?_, fun q => ?_⟩
    · rw [es, neq (by omega) (by omega)] at q
      rcases hk1 with e1 | ⟨e1, e2⟩
      · unfold lyS; rw [if_neg (hk2 e1), e1]
      · unfold lyS; rw [if_pos e2, if_neg (by omega), e1]
    · rw [es, neq (by omega) (by omega)] at q
      refine last 0 ?_
      rcases hk1 with e1 | ⟨e1, e2⟩
      · omega
      · unfold lyS; rw [if_pos e2, if_pos (by omega)]
  refine bX0_lengthOn_0 C ⟨fun q => mid b (Or.inl rfl) (fun _ z => ?_), fun q => ⟨fun q2 => mid b (Or.inl rfl) (fun _ z => q2 ?_), fun q2 => ?_⟩⟩
  · rw [et, z.1] at q; exact absurd q (by decide)
  · rw [irem2 (by omega), z.2]; rfl
  · rw [nI_1]
    have q3 : n % 2 = 1 := by
      rw [irem2 (by omega)] at q2
      exact (neq (b := 1) (by omega) (by omega)).mp q2
    refine mid (b + 1) (Or.inr ⟨rfl, ?_, q3⟩) (fun z => by omega)
    rcases ht with z | z
    · rw [et, z] at q; exact absurd rfl q
    · exact z
theorem c_hereBy {V : Mem} (e : vC M = V) (h : VOK V) {n : Nat} : WpI mX5_hereBy [.ref 37, .int (nI n)] M (gj G2) (TTc ++ T2) (fun r M' => r = bO (ngV V) (fun i => decide (V 1 i ≤ nI n)) ∧ M' = M) := by
  have h7 := h.1.2.2
  have hs : M 37 6 = nI (ngV V) := by rw [← h.1.1, ← e]; rfl
  have e1 : ∀ i, i < ngV V → M 39 i = V 1 i := fun i hi => by rw [← e]; exact (nrm_in (by rw [← e] at hi; exact hi)).symm
  refine WpI.of rfl rfl nL fun X Q C hk => bX5_hereBy_0 C ?_
  have loop : ∀ k i, i + k = ngV V → WW X Q 4 [(0, .ref 37), (1, .int (nI n)), (2, .int (bO i (fun i => decide (V 1 i ≤ nI n)))), (3, .int (nI i))] [] (M, gj G2, TTc ++ T2) := by
    intro k
    induction k with
    | zero =>
      intro i hi
      refine bX5_hereBy_4 C ⟨fun _ => hk _ _ ⟨by rw [← hi]; rfl, rfl⟩, fun q => absurd ?_ q⟩
      rw [hs, nle (by omega) (by omega)]; omega
    | succ k ih =>
      intro i hi
      have hcl : (nI i).toNatClampNeg = i := ncl (by omega)
      have := ih (i + 1) (by omega)
      refine bX5_hereBy_4 C ⟨fun q => absurd q ?_, fun _ => ⟨nin (by omega) (by omega), fun q => ?_, fun q => ?_⟩⟩
      · rw [hs, nle (by omega) (by omega)]; omega
      · rw [hcl, e1 i (by omega)] at q
        rw [nI_1]
        unfold bO at this
        rw [if_neg (by simp [i_nle.mpr q])] at this
        exact this
      · rw [hcl, e1 i (by omega)] at q
        rw [nI_1]
        unfold bO at this
        rw [if_pos (by simp [i_nlt.mp q])] at this
        exact this
  exact loop (ngV V) 0 (by omega)
end CL
