/-! questions: all, year, who -/
def unhS (σ : Mem) (n : Nat) : Nat := cnt (fun i => lies σ i && decide (σ 2 i = 0)) n
def grtS (σ : Mem) : Nat → Int32
  | 0 => 0
  | n + 1 => if 0 ≤ σ 0 n ∧ grtS σ n < σ 2 n then σ 2 n else grtS σ n
def allQ (V : Mem) (w : Int32) : Int32 := gd 4 w fun w => if w = 0 then allS V else if w = 1 then nI (cnt (lies (simN V 30).1) (ngV V)) else if w = 2 then nI (unhS (simN V 30).1 (ngV V)) else grtS (simN V 30).1 (ngV V)
def yearQ (V : Mem) (z w : Int32) : Int32 := gd 10000 z fun z => gd 2 w fun w => if w = 0 then allS (wr V 9 5 (nI z)) else nI (unhS (simN (wr V 9 5 (nI z)) 30).1 (ngV V))
def o2i : Option Nat → Int32
  | some i => nI i
  | none => -4
def whoP (σ : Mem) (b n i : Nat) : Bool := lies σ i && decide (σ 1 i = nI b) && decide (σ 0 i = nI n)
def whoQ (V : Mem) (b n : Int32) : Int32 := gd (nbV V) b fun b => gd 30 n fun n => o2i (fstP (whoP (simN V 30).1 b n) (ngV V))
theorem vok_year {V : Mem} (h : VB V) {z : Nat} (hz : z < 10000) : VOK (wr V 9 5 (nI z)) := by
  obtain ⟨⟨h1, h2, h3, h4, h5, h6, h7, h8, h9, h10, h11, h12⟩, -, ht, -⟩ := h
  exact ⟨h1, h2, h3, h4, h5, h6, h7, h8, h9, h10, h11, Or.inr ⟨rg_n (by omega) (by omega) (by omega), ht⟩⟩
/-- no two lie in one bed on one night -/
def UP (V σ : Mem) (n k : Nat) : Prop := (∀ i, i < ngV V → 0 ≤ σ 0 i → ∃ m b, σ 0 i = nI m ∧ σ 1 i = nI b ∧ m < 30 ∧ b < 4 ∧ (m < n ∨ (m = n ∧ b < k))) ∧ ∀ i j, i < ngV V → j < ngV V → 0 ≤ σ 0 i → 0 ≤ σ 0 j → σ 0 i = σ 0 j → σ 1 i = σ 1 j → i = j
theorem UP.give {V : Mem} {s : Mem × Nat} {n k : Nat} (h : VOK V) (hn : n < 30) (hk : k < 4) (u : UP V s.1 n k) : UP V (giveS V s k n).1 n (k + 1) := by
  rcases clS_spec (V := V) (σ := s.1) (n := n) h with ⟨hc, -⟩ | ⟨p, hc, hp, hr, hw, -⟩
  · rw [giveS_none hc]
    refine ⟨fun i hi hl => ?_, u.2⟩
    obtain ⟨m, b, a1, a2, a3, a4, a5⟩ := u.1 i hi hl
    exact ⟨m, b, a1, a2, a3, a4, by omega⟩
  · rw [giveS_some hc]
    obtain ⟨hw1, hw2⟩ := whoS_spec (V := V) (σ := s.1) (b := k) (n := n) hr hw
    generalize hwe : (whoS V s.1 k n (rwN V p)).1 = w at *
    generalize (whoS V s.1 k n (rwN V p)).2 = nam
    have old : ∀ i, i < ngV V → 0 ≤ s.1 0 i → ¬ (s.1 0 i = nI n ∧ s.1 1 i = nI k) := by
      rintro i hi hl ⟨z1, z2⟩
      obtain ⟨m, b, a1, a2, a3, a4, a5⟩ := u.1 i hi hl
      rw [a1, neq (by omega) (by omega)] at z1
      rw [a2, neq (by omega) (by omega)] at z2
      omega
    refine ⟨fun i hi hl => ?_, fun i j hi hj hl1 hl2 e0 e1 => ?_⟩
    · show ∃ m b, lieS V _ w k n nam 0 i = nI m ∧ lieS V _ w k n nam 1 i = nI b ∧ _
      replace hl : 0 ≤ lieS V _ w k n nam 0 i := hl
      rw [lieS_0] at hl
      rw [lieS_0, lieS_1]
      by_cases e : i = w
      · rw [if_pos e, if_pos e]
        exact ⟨n, k, rfl, rfl, hn, hk, by omega⟩
      · rw [if_neg e, if_neg e]
        rw [if_neg e] at hl
        obtain ⟨m, b, a1, a2, a3, a4, a5⟩ := u.1 i hi hl
        exact ⟨m, b, a1, a2, a3, a4, by omega⟩
    · replace hl1 : 0 ≤ lieS V _ w k n nam 0 i := hl1
      replace hl2 : 0 ≤ lieS V _ w k n nam 0 j := hl2
      replace e0 : lieS V _ w k n nam 0 i = lieS V _ w k n nam 0 j := e0
      replace e1 : lieS V _ w k n nam 1 i = lieS V _ w k n nam 1 j := e1
      rw [lieS_0] at hl1 hl2
      rw [lieS_0, lieS_0] at e0
      rw [lieS_1, lieS_1] at e1
      by_cases e : i = w
      · by_cases e' : j = w
        · omega
        · rw [if_pos e, if_neg e'] at e0 e1
          rw [if_neg e'] at hl2
          exact absurd ⟨e0.symm, e1.symm⟩ (old j hj hl2)
      · by_cases e' : j = w
        · rw [if_neg e, if_pos e'] at e0 e1
          rw [if_neg e] at hl1
          exact absurd ⟨e0, e1⟩ (old i hi hl1)
        · rw [if_neg e, if_neg e'] at e0 e1
          rw [if_neg e] at hl1
          rw [if_neg e'] at hl2
          exact u.2 i j hi hj hl1 hl2 e0 e1
theorem UP.beds {V : Mem} {n : Nat} (h : VOK V) (hn : n < 30) : ∀ {k : Nat} {s : Mem × Nat}, k ≤ 4 → UP V s.1 n 0 → UP V (bedS V n k s).1 n k
  | 0, _, _, u => u
  | k + 1, s, hk, u => UP.give h hn (by omega) (UP.beds h hn (k := k) (by omega) u)
theorem UP.sim {V : Mem} (h : VOK V) : ∀ {n : Nat}, n ≤ 30 → UP V (simN V n).1 n 0
  | 0, _ => ⟨fun i _ z => absurd z m4.2, fun i j _ _ z => absurd z m4.2⟩
  | n + 1, hn => by
    have u := UP.beds h (n := n) (by omega) (k := opV V) (by have := h.2.2.1.2; have := h.2.1.2.2; omega) (UP.sim h (n := n) (by omega))
    refine ⟨fun i hi hl => ?_, u.2⟩
    obtain ⟨m, b, a1, a2, a3, a4, a5⟩ := u.1 i hi hl
    exact ⟨m, b, a1, a2, a3, a4, by omega⟩
section Q3C
variable {M V : Mem} {G2 : Grf} {T2 : List (Nat × Nat)}
theorem c_unharmed {s : Mem × Nat} (hg : M 37 6 = nI (ngV V)) (h7 : ngV V ≤ 7) (hs : SimC M V s) : WpI mX3_unharmed [.ref 4, .ref 37] M (gj G2) (TTc ++ T2) (fun r M' => r = nI (unhS s.1 (ngV V)) ∧ M' = M) := by
  refine WpI.of rfl rfl nL fun X Q C hk => bX3_unharmed_0 C ?_
  have loop : ∀ k i, i + k = ngV V → WW X Q 4 [(0, .ref 4), (1, .ref 37), (2, .int (nI (unhS s.1 i))), (3, .int (nI i))] [] (M, gj G2, TTc ++ T2) := by
    intro k
    induction k with
    | zero =>
      intro i hi
      refine bX3_unharmed_4 C ⟨fun _ => hk _ _ ⟨?_, rfl⟩, fun q => absurd ?_ q⟩
      · rw [show i = ngV V by omega]
      · rw [hg, show i = ngV V by omega]; exact i_le_rfl _
    | succ k ih =>
      intro i hi
      have st := ih (i + 1) (by omega)
      have su : unhS s.1 (i + 1) = unhS s.1 i + (if (lies s.1 i && decide (s.1 2 i = 0)) = true then 1 else 0) := rfl
      refine bX3_unharmed_4 C ⟨fun q => absurd q ?_, fun _ => ?_⟩
      · rw [hg, nle (by omega) (by omega)]; omega
      rw [hs.1, hasL h7 (by omega), nI_1, nI_1, ncl (by omega)]
      refine ⟨fun q => ?_, fun q => ⟨nin (by omega) (by omega), ?_⟩⟩
      · rw [su, if_neg (by simp [lies, q])] at st
        exact st
      · rw [(hs.2.2.1 i (by omega) q).2.2.1]
        refine ⟨fun q2 => ?_, fun q2 => ?_⟩
        · rw [su, if_neg (by simp [q2])] at st
          exact st
        · rw [su, if_pos (by simp [lies, q, q2])] at st
          exact st
  exact loop (ngV V) 0 (by omega)
theorem c_greatest {s : Mem × Nat} (hg : M 37 6 = nI (ngV V)) (h7 : ngV V ≤ 7) (hs : SimC M V s) : WpI mX3_greatest [.ref 4, .ref 37] M (gj G2) (TTc ++ T2) (fun r M' => r = grtS s.1 (ngV V) ∧ M' = M) := by
  refine WpI.of rfl rfl nL fun X Q C hk => bX3_greatest_0 C ?_
  have loop : ∀ k i, i + k = ngV V → WW X Q 4 [(0, .ref 4), (1, .ref 37), (2, .int (grtS s.1 i)), (3, .int (nI i))] [] (M, gj G2, TTc ++ T2) := by
    intro k
    induction k with
    | zero =>
      intro i hi
      refine bX3_greatest_4 C ⟨fun _ => hk _ _ ⟨?_, rfl⟩, fun q => absurd ?_ q⟩
      · rw [show i = ngV V by omega]
      · rw [hg, show i = ngV V by omega]; exact i_le_rfl _
    | succ k ih =>
      intro i hi
      have st := ih (i + 1) (by omega)
      have su : grtS s.1 (i + 1) = if 0 ≤ s.1 0 i ∧ grtS s.1 i < s.1 2 i then s.1 2 i else grtS s.1 i := rfl
      refine bX3_greatest_4 C ⟨fun q => absurd q ?_, fun _ => ?_⟩
      · rw [hg, nle (by omega) (by omega)]; omega
      rw [hs.1, hasL h7 (by omega), nI_1, ncl (by omega)]
      refine ⟨fun q => ?_, fun q => ⟨nin (by omega) (by omega), ?_⟩⟩
      · rw [su, if_neg (fun z => q z.1)] at st
        exact st
      · rw [(hs.2.2.1 i (by omega) q).2.2.1]
        refine (c_max _ _).to (bX3_greatest_30 C ?_)
        rw [nI_1]
        by_cases q2 : grtS s.1 i < s.1 2 i
        · rw [su, if_pos ⟨q, q2⟩] at st
          rw [if_pos q2]
          exact st
        · rw [su, if_neg (fun z => q2 z.2)] at st
          rw [if_neg q2]
          exact st
  exact loop (ngV V) 0 (by omega)
theorem c_all (e : vC M = V) (h : VB V) (w : Int32) : WpI mX9_all [.ref 0, .int w] M (gj G2) (TTc ++ T2) (fun r M' => r = allQ V w ∧ FC M M') := by
  have h7 := h.1.1.2.2
  refine WpI.of rfl rfl nL fun X Q C hk => bX9_all_0 C (g_m (n := 4) (by omega) (by omega) rfl (fun q => hk _ _ ⟨gd_lo q, FC.r⟩) (fun q => hk _ _ ⟨gd_hi q, FC.r⟩) fun w hw ew => ?_)
  subst ew
  unfold allQ at hk
  rw [gd_in hw (by omega)] at hk
  refine (c_passAll e h.1).imp ?_
  rintro M' ⟨hf, hs⟩
  have e' := (vC_cong hf).trans e
  have hg := rc_g e' h.1
  refine bX9_all_24 C ?_
  rcases w with _ | _ | _ | _ | w
  · exact ⟨fun _ => (c_total e' h.1 hs (SI.sim h.1 (by omega))).to (bX9_all_66 C (hk _ _ ⟨rfl, hf.fc⟩)), fun q => absurd rfl q⟩
  · refine ⟨fun q => absurd q (by decide), fun _ => ⟨fun _ => (c_bitCount _).to (bX9_all_77 C (hk _ _ ⟨?_, hf.fc⟩)), fun q => absurd rfl q⟩⟩
    rw [hs.1, bc_bO h7]
    rfl
  · exact ⟨fun q => absurd q (by decide), fun _ => ⟨fun q => absurd q (by decide), fun _ => ⟨fun _ => (c_unharmed hg h7 hs).to (bX9_all_92 C (hk _ _ ⟨rfl, hf.fc⟩)), fun q => absurd rfl q⟩⟩⟩
  · exact ⟨fun q => absurd q (by decide), fun _ => ⟨fun q => absurd q (by decide), fun _ => ⟨fun q => absurd q (by decide), fun _ => (c_greatest hg h7 hs).to (bX9_all_107 C (hk _ _ ⟨rfl, hf.fc⟩))⟩⟩⟩
  · omega
theorem c_year (e : vC M = V) (h : VB V) (z w : Int32) : WpI mX9_year [.ref 0, .int z, .int w] M (gj G2) (TTc ++ T2) (fun r M' => r = yearQ V z w ∧ FC M M') := by
  have h7 := h.1.1.2.2
  have ey : M 34 6 = -1 := by rw [← h.2.2.2.1, ← e]; rfl
  refine WpI.of rfl rfl nL fun X Q C hk => bX9_year_0 C (g_m (n := 10000) (by omega) (by omega) rfl (fun q => hk _ _ ⟨gd_lo q, FC.r⟩) (fun q => hk _ _ ⟨gd_hi q, FC.r⟩) fun z hz ez => ?_)
  subst ez
  unfold yearQ at hk
  rw [gd_in hz (by omega)] at hk
  refine g_m (n := 2) (by omega) (by omega) rfl (fun q => hk _ _ ⟨gd_lo q, FC.r⟩) (fun q => hk _ _ ⟨gd_hi q, FC.r⟩) fun w hw ew => ?_
  subst ew
  rw [gd_in hw (by omega)] at hk
  have hv := vok_year h hz
  have e2 : vC (wr M 34 6 (nI z)) = wr V 9 5 (nI z) := by rw [vC_year, e]
  refine (c_passAll e2 hv).imp ?_
  rintro M' ⟨hf, hs⟩
  have hf' := fr_rw (y := -1) hf
  rw [← ey, wr_self, ey] at hf'
  have hs' : SimC (wr M' 34 6 (-1)) (wr V 9 5 (nI z)) (simN (wr V 9 5 (nI z)) 30) := hs
  have e' : vC (wr M' 34 6 (-1)) = V := (vC_cong hf').trans e
  have hg := rc_g e' h.1
  have hx : SimC (wr M' 34 6 (-1)) V (simN (wr V 9 5 (nI z)) 30) := hs
  refine bX9_year_46 C ⟨fun q => (c_unharmed hg h7 hx).to (bX9_year_92 C (hk _ _ ⟨?_, hf'.fc⟩)), fun q => (c_total e' h.1 hx (SI.sim hv (by omega))).to (bX9_year_75 C (hk _ _ ⟨?_, hf'.fc⟩))⟩
  · rw [if_neg (fun z => q (by rw [z]; rfl))]
  · rw [if_pos ((neq (b := 0) (by omega) (by omega)).mp q)]; rfl
theorem c_who (e : vC M = V) (h : VB V) (b n : Int32) : WpI mX9_who [.ref 0, .int b, .int n] M (gj G2) (TTc ++ T2) (fun r M' => r = whoQ V b n ∧ FC M M') := by
  have h4 := h.1.2.1.2.2
  have h7 := h.1.1.2.2
  refine WpI.of rfl rfl nL fun X Q C hk => bX9_who_0 C (g_c (by omega) (rc_b e h.1) (fun q => hk _ _ ⟨gd_lo q, FC.r⟩) (fun q => hk _ _ ⟨gd_hi q, FC.r⟩) fun b hb eb => ?_)
  subst eb
  unfold whoQ at hk
  rw [gd_in hb (by omega)] at hk
  refine g_m (n := 30) (by omega) (by omega) rfl (fun q => hk _ _ ⟨gd_lo q, FC.r⟩) (fun q => hk _ _ ⟨gd_hi q, FC.r⟩) fun n hn en => ?_
  subst en
  rw [gd_in hn (by omega)] at hk
  refine (c_passAll e h.1).imp ?_
  rintro M' ⟨hf, hs⟩
  have hg := rc_g ((vC_cong hf).trans e) h.1
  refine bX9_who_36 C ?_
  have loop : ∀ k i, i + k = ngV V → (∀ j, j < i → whoP (simN V 30).1 b n j = false) → WW X Q 38 [(0, .ref 0), (1, .int (nI b)), (2, .int (nI n)), (3, .int (nI i))] [] (M', gj G2, TTc ++ T2) := by
    intro k
    induction k with
    | zero =>
      intro i hi hno
      refine bX9_who_38 C ⟨fun _ => hk _ _ ⟨?_, hf.fc⟩, fun q => absurd ?_ q⟩
      · rw [fstP_no (fun j hj => hno j (by omega))]; rfl
      · rw [hg, show i = ngV V by omega]; exact i_le_rfl _
    | succ k ih =>
      intro i hi hno
      have st : whoP (simN V 30).1 b n i = false → WW X Q 38 [(0, .ref 0), (1, .int (nI b)), (2, .int (nI n)), (3, .int (nI (i + 1)))] [] (M', gj G2, TTc ++ T2) := fun z => ih (i + 1) (by omega) (fun j hj => by
        by_cases e : j = i
        · rw [e]; exact z
        · exact hno j (by omega))
      refine bX9_who_38 C ⟨fun q => absurd q ?_, fun _ => ?_⟩
      · rw [hg, nle (by omega) (by omega)]; omega
      rw [hs.1, hasL h7 (by omega), nI_1, ncl (by omega)]
      refine ⟨fun q => st (by simp [whoP, lies, q]), fun q => ⟨nin (by omega) (by omega), ?_⟩⟩
      obtain ⟨a0, a1, -⟩ := hs.2.2.1 i (by omega) q
      rw [a0, a1]
      refine ⟨fun q2 => st (by simp [whoP, q2]), fun q2 => ⟨nin (by omega) (by omega), fun q3 => st (by simp [whoP, q3]), fun q3 => hk _ _ ⟨?_, hf.fc⟩⟩⟩
      have hl : (0 : Int32) ≤ nI n := i_nlt.mp (nn0 (by omega))
      rw [fstP_eq (p := i) (by omega) (by simp [whoP, lies, q2, q3, hl]) hno]
      rfl
  exact loop (ngV V) 0 (by omega) (fun j hj => absurd hj (by omega))
end Q3C
section Q3M
variable {M V : Mem}
theorem m_unharmed {σ : Mem} (hg : M 57 7 = nI (ngV V)) (h7 : ngV V ≤ 7) (hs : SimM M V σ) : WpI mX10_unharmed [.ref 57] M (gj gm) (TTc ++ TTm) (fun r M' => r = nI (unhS σ (ngV V)) ∧ M' = M) := by
  refine WpI.of rfl rfl nL fun X Q C hk => bX10_unharmed_0 C ?_
  have loop : ∀ k i, i + k = ngV V → WW X Q 4 [(0, .ref 57), (1, .int (nI (unhS σ i))), (2, .int (nI i))] [] (M, gj gm, TTc ++ TTm) := by
    intro k
    induction k with
    | zero =>
      intro i hi
      refine bX10_unharmed_4 C ⟨fun _ => hk _ _ ⟨?_, rfl⟩, fun q => absurd ?_ q⟩
      · rw [show i = ngV V by omega]
      · rw [hg, show i = ngV V by omega]; exact i_le_rfl _
    | succ k ih =>
      intro i hi
      have st := ih (i + 1) (by omega)
      have su : unhS σ (i + 1) = unhS σ i + (if (lies σ i && decide (σ 2 i = 0)) = true then 1 else 0) := rfl
      obtain ⟨a0, a2, -⟩ := hs i (by omega)
      have z0 : nI (unhS σ i) + 0 = nI (unhS σ i) := by grind
      refine bX10_unharmed_4 C ⟨fun q => absurd q ?_, fun _ => ⟨nin (by omega) (by omega), ?_⟩⟩
      · rw [hg, nle (by omega) (by omega)]; omega
      rw [nI_1, nI_1, ncl (by omega), a0, a2, z0]
      refine ⟨fun q => ?_, fun q => ⟨nin (by omega) (by omega), fun q2 => ?_, fun q2 => ?_⟩⟩
      · rw [su, if_neg (by simp [lies, i_nle.mpr q])] at st
        exact st
      · rw [su, if_neg (by simp [q2])] at st
        exact st
      · rw [su, if_pos (by simp [lies, i_nlt.mp q, q2])] at st
        exact st
  exact loop (ngV V) 0 (by omega)
theorem m_all (e : vM (M 57 1) M = V) (h : VB V) (w : Int32) : WpI mX10_all [.ref 57, .int w] M (gj gm) (TTc ++ TTm) (fun r M' => r = allQ V w ∧ FM M M') := by
  have h7 := h.1.1.2.2
  refine WpI.of rfl rfl nL fun X Q C hk => bX10_all_0 C (g_m (n := 4) (by omega) (by omega) rfl (fun q => hk _ _ ⟨gd_lo q, FM.r⟩) (fun q => hk _ _ ⟨gd_hi q, FM.r⟩) fun w hw ew => ?_)
  subst ew
  unfold allQ at hk
  rw [gd_in hw (by omega)] at hk
  refine (m_stayA e h.1).imp ?_
  rintro r M' ⟨hf, hs, rfl⟩
  have hg := rm_g ((vM_cong hf).trans e) h.1
  refine bX10_all_22 C ?_
  have loop : ∀ k i, i + k = ngV V → WW X Q 31 [(0, .ref 57), (1, .int (nI w)), (2, .int (allS V)), (3, .int (nI (cnt (lies (simN V 30).1) i))), (4, .int (grtS (simN V 30).1 i)), (5, .int (nI i))] [] (M', gj gm, TTc ++ TTm) := by
    intro k
    induction k with
    | zero =>
      intro i hi
      have e3 : i = ngV V := by omega
      subst e3
      refine bX10_all_31 C ⟨fun _ => ?_, fun q => absurd ?_ q⟩
      · rcases w with _ | _ | _ | _ | w
        · exact ⟨fun q => absurd rfl q, fun _ => hk _ _ ⟨rfl, hf.fm⟩⟩
        · exact ⟨fun _ => ⟨fun q => absurd rfl q, fun _ => hk _ _ ⟨rfl, hf.fm⟩⟩, fun q => absurd q (by decide)⟩
        · exact ⟨fun _ => ⟨fun _ => ⟨fun q => absurd rfl q, fun _ => (m_unharmed hg h7 hs).to (bX10_all_126 C (hk _ _ ⟨rfl, hf.fm⟩))⟩, fun q => absurd q (by decide)⟩, fun q => absurd q (by decide)⟩
        · exact ⟨fun _ => ⟨fun _ => ⟨fun _ => hk _ _ ⟨rfl, hf.fm⟩, fun q => absurd q (by decide)⟩, fun q => absurd q (by decide)⟩, fun q => absurd q (by decide)⟩
        · omega
      · rw [hg]; exact i_le_rfl _
    | succ k ih =>
      intro i hi
      have st := ih (i + 1) (by omega)
      have su : grtS (simN V 30).1 (i + 1) = if 0 ≤ (simN V 30).1 0 i ∧ grtS (simN V 30).1 i < (simN V 30).1 2 i then (simN V 30).1 2 i else grtS (simN V 30).1 i := rfl
      have sc : cnt (lies (simN V 30).1) (i + 1) = cnt (lies (simN V 30).1) i + (if lies (simN V 30).1 i = true then 1 else 0) := rfl
      obtain ⟨a0, a2, -⟩ := hs i (by omega)
      have z0 : nI (cnt (lies (simN V 30).1) i) + 0 = nI (cnt (lies (simN V 30).1) i) := by grind
      have i7 : vp_in (nI i) 7 := nin (by omega) (by omega)
      refine bX10_all_31 C ⟨fun q => absurd q ?_, fun _ => ⟨i7, ?_⟩⟩
      · rw [hg, nle (by omega) (by omega)]; omega
      rw [nI_1, nI_1, ncl (by omega), a0, a2, z0]
      refine ⟨fun q => ⟨i7, fun _ => ?_, fun q2 => absurd q q2⟩, fun q => ⟨i7, fun q2 => absurd q2 q, fun _ => ⟨i7, fun q2 => ?_, fun q2 => ⟨i7, ?_⟩⟩⟩⟩
      · rw [sc, if_neg (by simp [lies, i_nle.mpr q]), su, if_neg (fun z => i_nle.mpr q z.1)] at st
        exact st
      · rw [sc, if_pos (by simp [lies, i_nlt.mp q]), su, if_neg (fun z => i_nlt.mpr q2 z.2)] at st
        exact st
      · rw [sc, if_pos (by simp [lies, i_nlt.mp q]), su, if_pos ⟨i_nlt.mp q, i_nle.mp q2⟩] at st
        exact st
  exact loop (ngV V) 0 (by omega)
theorem m_year (e : vM (M 57 1) M = V) (h : VB V) (z w : Int32) : WpI mX10_year [.ref 57, .int z, .int w] M (gj gm) (TTc ++ TTm) (fun r M' => r = yearQ V z w ∧ FM M M') := by
  have h7 := h.1.1.2.2
  have ey : M 57 28 = -1 := by rw [← h.2.2.2.1, ← e]; rfl
  refine WpI.of rfl rfl nL fun X Q C hk => bX10_year_0 C (g_m (n := 10000) (by omega) (by omega) rfl (fun q => hk _ _ ⟨gd_lo q, FM.r⟩) (fun q => hk _ _ ⟨gd_hi q, FM.r⟩) fun z hz ez => ?_)
  subst ez
  unfold yearQ at hk
  rw [gd_in hz (by omega)] at hk
  refine g_m (n := 2) (by omega) (by omega) rfl (fun q => hk _ _ ⟨gd_lo q, FM.r⟩) (fun q => hk _ _ ⟨gd_hi q, FM.r⟩) fun w hw ew => ?_
  subst ew
  rw [gd_in hw (by omega)] at hk
  have hv := vok_year h hz
  have e2 : vM ((wr M 57 28 (nI z)) 57 1) (wr M 57 28 (nI z)) = wr V 9 5 (nI z) := by rw [vM_year]; exact congrArg (fun x => wr x 9 5 (nI z)) e
  refine (m_stayA e2 hv).imp ?_
  rintro r M' ⟨hf, hs, rfl⟩
  have hf' := fr_rw (y := -1) hf
  rw [← ey, wr_self, ey] at hf'
  have hg := rm_g ((vM_cong hf').trans e) h.1
  have hx : SimM (wr M' 57 28 (-1)) V (simN (wr V 9 5 (nI z)) 30).1 := hs
  refine bX10_year_37 C ⟨fun q => (m_unharmed hg h7 hx).to (bX10_year_55 C (hk _ _ ⟨?_, hf'.fm⟩)), fun q => hk _ _ ⟨?_, hf'.fm⟩⟩
  · rw [if_neg (fun z => q (by rw [z]; rfl))]
  · rw [if_pos ((neq (b := 0) (by omega) (by omega)).mp q)]
theorem m_who (e : vM (M 57 1) M = V) (h : VB V) (b n : Int32) : WpI mX10_who [.ref 57, .int b, .int n] M (gj gm) (TTc ++ TTm) (fun r M' => r = whoQ V b n ∧ FM M M') := by
  have h4 := h.1.2.1.2
  have h7 := h.1.1.2.2
  refine WpI.of rfl rfl nL fun X Q C hk => bX10_who_0 C (g_m h4.1 (by omega) (by rw [rm_b e h.1]) (fun q => hk _ _ ⟨gd_lo q, FM.r⟩) (fun q => hk _ _ ⟨gd_hi q, FM.r⟩) fun b hb eb => ?_)
  subst eb
  unfold whoQ at hk
  rw [gd_in hb (by omega)] at hk
  refine g_m (n := 30) (by omega) (by omega) rfl (fun q => hk _ _ ⟨gd_lo q, FM.r⟩) (fun q => hk _ _ ⟨gd_hi q, FM.r⟩) fun n hn en => ?_
  subst en
  rw [gd_in hn (by omega)] at hk
  refine (m_stayA e h.1).imp ?_
  rintro r M' ⟨hf, hs, rfl⟩
  have hg := rm_g ((vM_cong hf).trans e) h.1
  have up := UP.sim h.1 (n := 30) (by omega)
  refine bX10_who_25 C ?_
  have loop : ∀ k i, i + k = ngV V → WW X Q 32 [(0, .ref 57), (1, .int (nI b)), (2, .int (nI n)), (3, .int (o2i (fstP (whoP (simN V 30).1 b n) i))), (4, .int (nI i))] [] (M', gj gm, TTc ++ TTm) := by
    intro k
    induction k with
    | zero =>
      intro i hi
      have e3 : i = ngV V := by omega
      subst e3
      refine bX10_who_32 C ⟨fun _ => hk _ _ ⟨rfl, hf.fm⟩, fun q => absurd ?_ q⟩
      rw [hg]; exact i_le_rfl _
    | succ k ih =>
      intro i hi
      have st := ih (i + 1) (by omega)
      have nst : whoP (simN V 30).1 b n i = false → WW X Q 32 [(0, .ref 57), (1, .int (nI b)), (2, .int (nI n)), (3, .int (o2i (fstP (whoP (simN V 30).1 b n) i))), (4, .int (nI (i + 1)))] [] (M', gj gm, TTc ++ TTm) := by
        intro z
        have : fstP (whoP (simN V 30).1 b n) (i + 1) = fstP (whoP (simN V 30).1 b n) i := by
          show (match fstP (whoP (simN V 30).1 b n) i with | some p => some p | none => if whoP (simN V 30).1 b n i then some i else none) = _
          rw [z]
          cases fstP (whoP (simN V 30).1 b n) i <;> rfl
        rw [this] at st
        exact st
      obtain ⟨a0, a2, -, a13⟩ := hs i (by omega)
      have i7 : vp_in (nI i) 7 := nin (by omega) (by omega)
      refine bX10_who_32 C ⟨fun q => absurd q ?_, fun _ => ⟨i7, ?_⟩⟩
      · rw [hg, nle (by omega) (by omega)]; omega
      rw [nI_1, ncl (by omega), a0]
      refine ⟨fun q => nst (by simp [whoP, q]), fun q => ⟨i7, ?_⟩⟩
      have hl : 0 ≤ (simN V 30).1 0 i := by rw [q]; exact i_nlt.mp (nn0 (by omega))
      rw [(a13 hl).1]
      refine ⟨fun q2 => nst (by simp [whoP, q2]), fun q2 => ?_⟩
      have : fstP (whoP (simN V 30).1 b n) (i + 1) = some i := by
        refine fstP_eq (by omega) (by rw [q] at hl; simp [whoP, lies, hl, q, q2]) (fun j hj => ?_)
        by_cases z : whoP (simN V 30).1 b n j = true
        · simp [whoP, lies] at z
          exact absurd (up.2 j i (by omega) (by omega) z.1.1 hl (by rw [z.2, q]) (by rw [z.1.2, q2])) (by omega)
        · simpa using z
      rw [this] at st
      exact st
  exact loop (ngV V) 0 (by omega)
end Q3M
