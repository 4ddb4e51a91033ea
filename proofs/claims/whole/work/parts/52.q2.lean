/-! questions: law, length, later, turned -/
def lawF (V : Mem) (k : Nat) : Int32 := allS (wr V 9 3 (nI k))
def lawQ (V : Mem) : Int32 := nI (bst (lawF V) 3)
def lenF (V : Mem) (b k : Nat) : Int32 := allS (wr V 6 b (nI (40 + k)))
def lengthQ (V : Mem) (b w : Int32) : Int32 := gd (nbV V) b fun b => gd 2 w fun w => if w = 0 then nI (40 + bst (lenF V b) 60) else lenF V b (bst (lenF V b) 60)
def turnedQ (V : Mem) : Int32 := allS (wr V 9 4 1)
theorem vok_law {V : Mem} (h : VOK V) {k : Nat} (hk : k < 3) : VOK (wr V 9 3 (nI k)) := by
  obtain ⟨h1, h2, h3, h4, h5, h6, h7, h8, h9, h10, h11, h12⟩ := h
  refine ⟨h1, h2, h3, h4, h5, h6, h7, h8, h9, ?_, h11, h12⟩
  show nI k = 0 ∨ nI k = 1 ∨ nI k = 2
  rcases k with _ | _ | _ | k
  · exact Or.inl rfl
  · exact Or.inr (Or.inl rfl)
  · exact Or.inr (Or.inr rfl)
  · omega
theorem vok_turn {V : Mem} (h : VB V) : VOK (wr V 9 4 1) := by
  obtain ⟨⟨h1, h2, h3, h4, h5, h6, h7, h8, h9, h10, h11, h12⟩, -, -, hy, -⟩ := h
  exact ⟨h1, h2, h3, h4, h5, h6, h7, h8, h9, h10, Or.inr rfl, Or.inl hy⟩
theorem rg_n {a : Nat} {x y : Int} (h1 : x ≤ a) (h2 : (a : Int) ≤ y) (h3 : a < 1000000) : rgI (nI a) x y := by
  unfold rgI
  rw [nti h3]
  omega
theorem vok_len {V : Mem} (h : VOK V) {b : Nat} {x : Int32} (hx : rgI x 40 99) : VOK (wr V 6 b x) := by
  obtain ⟨h1, h2, h3, h4, h5, h6, h7, h8, h9, h10, h11, h12⟩ := h
  refine ⟨h1, h2, h3, h4, h5, h6, fun k hk => ?_, h8, h9, h10, h11, h12⟩
  rw [wr_eq]
  unfold upd
  split
  · exact hx
  · exact h7 k hk
theorem vok_worn {V : Mem} (h : VOK V) {i : Nat} {x : Int32} (hx : rgI x (-9) 9) : VOK (wr V 4 i x) := by
  obtain ⟨h1, h2, h3, h4, h5, h6, h7, h8, h9, h10, h11, h12⟩ := h
  refine ⟨h1, h2, h3, h4, fun k hk => ?_, h6, h7, h8, h9, h10, h11, h12⟩
  obtain ⟨a, b, c, d, f⟩ := h5 k hk
  refine ⟨a, b, c, ?_, f⟩
  rw [wr_eq]
  unfold upd
  split
  · exact hx
  · exact d
theorem vok_come {V : Mem} (h : VOK V) {i : Nat} {x : Int32} (hx : rgI x 0 18) : VOK (wr V 1 i x) := by
  obtain ⟨h1, h2, h3, h4, h5, h6, h7, h8, h9, h10, h11, h12⟩ := h
  refine ⟨h1, h2, h3, h4, fun k hk => ?_, h6, h7, h8, h9, h10, h11, h12⟩
  obtain ⟨a, b, c, d, f⟩ := h5 k hk
  refine ⟨a, ?_, c, d, f⟩
  rw [wr_eq]
  unfold upd
  split
  · exact hx
  · exact b
def ACg (f g : Nat → Int32) (k : Nat) (l b : Int32) : Prop := (k = 0 ∧ l = 1000000) ∨ ∃ j, IsB f k j ∧ l = f j ∧ b = g j
theorem ACg.z {f g : Nat → Int32} {b : Int32} : ACg f g 0 1000000 b := Or.inl ⟨rfl, rfl⟩
theorem ACg.keep {f g : Nat → Int32} {k : Nat} {l b r : Int32} (h : ACg f g k l b) (hf : rgI (f k) 0 100000) (hr : r = f k ∨ (l ≤ r ∧ l ≤ f k)) (q : l ≤ r) : ACg f g (k + 1) l b := by
  have hl : l ≤ f k := by
    rcases hr with e | e
    · rw [← e]; exact q
    · exact e.2
  rcases h with ⟨-, e⟩ | ⟨j, h1, h2, h3⟩
  · rw [e, fa_le] at hl
    have e9 : (1000000 : Int32).toInt = 1000000 := by decide
    unfold rgI at hf
    omega
  · exact Or.inr ⟨j, h1.a (h2 ▸ hl), h2, h3⟩
theorem ACg.new {f g : Nat → Int32} {k : Nat} {l b r : Int32} (h : ACg f g k l b) (hr : r = f k ∨ (l ≤ r ∧ l ≤ f k)) (q : ¬ l ≤ r) : ACg f g (k + 1) r (g k) := by
  have hl : r = f k := by
    rcases hr with e | e
    · exact e
    · exact absurd e.1 q
  subst hl
  rcases h with ⟨e, -⟩ | ⟨j, h1, h2, -⟩
  · subst e
    exact Or.inr ⟨0, IsB.z, rfl, rfl⟩
  · exact Or.inr ⟨k, h1.b (h2 ▸ i_nle.mp q), rfl, rfl⟩
theorem ACg.fin {f g : Nat → Int32} {k : Nat} {l b : Int32} (h : ACg f g k l b) (hk : 0 < k) : b = g (bst f k) ∧ l = f (bst f k) := by
  rcases h with ⟨e, -⟩ | ⟨j, h1, h2, h3⟩
  · omega
  · rw [bst_eq h1]; exact ⟨h3, h2⟩
def AMg (f g : Nat → Int32) (k : Nat) (b l : Int32) : Prop := (k = 0 ∧ l = -1) ∨ ∃ j, IsB f k j ∧ l = f j ∧ 0 ≤ l ∧ b = g j
theorem AMg.z {f g : Nat → Int32} {b : Int32} : AMg f g 0 b (-1) := Or.inl ⟨rfl, rfl⟩
/-- the reference's step in one: what it asks after ALL of the next -/
theorem AMg.step {f g : Nat → Int32} {k : Nat} {b l : Int32} (h : AMg f g k b l) (hf : rgI (f k) 0 100000) (hg : ∀ j, j < k → g j ≠ g k) {P : Int32 → Int32 → Prop} (hp : ∀ b' l', AMg f g (k + 1) b' l' → P b' l') :
    ((l < 0 → ((¬ g k = g k → P (g k) l) ∧ (g k = g k → P (g k) (f k)))) ∧ (¬ l < 0 → ((l ≤ f k → ((¬ b = g k → P b l) ∧ (b = g k → P b (f k)))) ∧ (¬ l ≤ f k → ((¬ g k = g k → P (g k) l) ∧ (g k = g k → P (g k) (f k))))))) := by
  refine ⟨fun q => ⟨fun z => absurd rfl z, fun _ => hp _ _ ?_⟩, fun q => ⟨fun q2 => ⟨fun z => hp _ _ ?_, fun z => ?_⟩, fun q2 => ⟨fun z => absurd rfl z, fun _ => hp _ _ ?_⟩⟩⟩
  · rcases h with ⟨e, -⟩ | ⟨j, h1, h2, h3, -⟩
    · subst e
      exact Or.inr ⟨0, IsB.z, rfl, rg_0 hf, rfl⟩
    · exact absurd q (i_nlt.mpr h3)
  · rcases h with ⟨-, e⟩ | ⟨j, h1, h2, h3, h4⟩
    · rw [e] at q
      exact absurd (by decide) q
    · exact Or.inr ⟨j, h1.a (h2 ▸ q2), h2, h3, h4⟩
  · rcases h with ⟨-, e⟩ | ⟨j, h1, h2, h3, h4⟩
    · rw [e] at q
      exact absurd (by decide) q
    · exact absurd (h4.symm.trans z) (hg j h1.1)
  · rcases h with ⟨-, e⟩ | ⟨j, h1, h2, h3, h4⟩
    · rw [e] at q
      exact absurd (by decide) q
    · exact Or.inr ⟨k, h1.b (h2 ▸ i_nle.mp q2), rfl, rg_0 hf, rfl⟩
theorem AMg.fin {f g : Nat → Int32} {k : Nat} {b l : Int32} (h : AMg f g k b l) (hk : 0 < k) : b = g (bst f k) ∧ l = f (bst f k) := by
  rcases h with ⟨e, -⟩ | ⟨j, h1, h2, -, h3⟩
  · omega
  · rw [bst_eq h1]; exact ⟨h3, h2⟩
section Q2C
variable {M V : Mem} {G2 : Grf} {T2 : List (Nat × Nat)}
theorem c_turned (e : vC M = V) (h : VB V) : WpI mX9_turned [.ref 0] M (gj G2) (TTc ++ T2) (fun r M' => r = turnedQ V ∧ FC M M') := by
  have hv := vok_turn h
  have e2 : vC (wr M 34 5 1) = wr V 9 4 1 := by rw [vC_turn, e]
  have et : M 34 5 = 0 := by rw [← h.2.2.1, ← e]; rfl
  refine WpI.of rfl rfl nL fun X Q C hk => bX9_turned_0 C ((c_sumBelow e2 hv _).imp ?_)
  rintro r M' ⟨hf, hr⟩
  refine bX9_turned_17 C (hk _ _ ⟨?_, ?_⟩)
  · rcases hr with a | ⟨-, a⟩
    · exact a
    · have := all_rg hv
      rw [fa_le] at a
      have e9 : (1000000 : Int32).toInt = 1000000 := by decide
      unfold rgI at this
      omega
  · have := fr_rw (y := 0) hf
    rw [← et, wr_self] at this
    rw [← et]
    exact this.fc
theorem c_law (e : vC M = V) (h : VB V) : WpI mX9_law [.ref 0] M (gj G2) (TTc ++ T2) (fun r M' => r = lawQ V ∧ FC M M') := by
  refine WpI.of rfl rfl nL fun X Q C hk => bX9_law_0 C ?_
  have loop : ∀ k j (M1 : Mem) (l x b : Int32), j + k = 3 → Fr 4 9 (wr M 33 4 x) M1 → ACg (lawF V) nI j l b → WW X Q 16 [(0, .ref 0), (1, .int (M 33 4)), (2, .int l), (3, .int b), (4, .int (nI j))] [] (M1, gj G2, TTc ++ T2) := by
    intro k
    induction k with
    | zero =>
      intro j M1 l x b hj hf ha
      have e3 : j = 3 := by omega
      subst e3
      refine bX9_law_16 C ⟨fun _ => hk _ _ ⟨(ha.fin (by omega)).1, ?_⟩, fun q => absurd (i_le_rfl _) q⟩
      have := fr_rw (y := M 33 4) hf
      rw [wr_self] at this
      exact this.fc
    | succ k ih =>
      intro j M1 l x b hj hf ha
      have hv := vok_law h.1 (k := j) (by omega)
      have hf2 := fr_rw (y := nI j) hf
      have e2 : vC (wr M1 33 4 (nI j)) = wr V 9 3 (nI j) := by rw [vC_cong hf2, vC_law, e]
      refine bX9_law_16 C ⟨fun q => absurd q ?_, fun _ => (c_sumBelow e2 hv l).imp ?_⟩
      · show ¬ nI 3 ≤ nI j
        rw [nle (by omega) (by omega)]; omega
      rintro r M2 ⟨hf3, hr⟩
      refine bX9_law_36 C ?_
      rw [nI_1]
      exact ⟨fun q => ih (j + 1) M2 l (nI j) b (by omega) (hf2.trans hf3) (ha.keep (all_rg hv) hr q), fun q => ih (j + 1) M2 r (nI j) (nI j) (by omega) (hf2.trans hf3) (ha.new hr q)⟩
  exact loop 3 0 M _ (M 33 4) _ (by omega) (by rw [wr_self]; exact Fr.rfl') ACg.z
theorem c_length (e : vC M = V) (h : VB V) (b w : Int32) : WpI mX9_length [.ref 0, .int b, .int w] M (gj G2) (TTc ++ T2) (fun r M' => r = lengthQ V b w ∧ FC M M') := by
  have h4 := h.1.2.1.2.2
  refine WpI.of rfl rfl nL fun X Q C hk => bX9_length_0 C (g_c (by omega) (rc_b e h.1) (fun q => hk _ _ ⟨gd_lo q, FC.r⟩) (fun q => hk _ _ ⟨gd_hi q, FC.r⟩) fun b hb eb => ?_)
  subst eb
  unfold lengthQ at hk
  rw [gd_in hb (by omega)] at hk
  refine g_m (n := 2) (by omega) (by omega) rfl (fun q => hk _ _ ⟨gd_lo q, FC.r⟩) (fun q => hk _ _ ⟨gd_hi q, FC.r⟩) fun w hw ew => ?_
  subst ew
  rw [gd_in hw (by omega)] at hk
  have i4 : vp_in (nI b) 4 := nin (by omega) (by omega)
  have hcl : (nI b).toNatClampNeg = b := ncl (by omega)
  rw [hcl]
  have loop : ∀ k j (M1 : Mem) (l x c : Int32), j + k = 60 → Fr 4 9 (wr M 35 b x) M1 → ACg (lenF V b) (fun k => nI (40 + k)) j l c → WW X Q 49 [(0, .ref 0), (1, .int (nI b)), (2, .int (nI w)), (3, .int (M 35 b)), (4, .int l), (5, .int c), (6, .int (nI (40 + j)))] [] (M1, gj G2, TTc ++ T2) := by
    intro k
    induction k with
    | zero =>
      intro j M1 l x c hj hf ha
      have e3 : j = 60 := by omega
      subst e3
      obtain ⟨f1, f2⟩ := ha.fin (by omega)
      have hf' := fr_rw (y := M 35 b) hf
      rw [wr_self] at hf'
      refine bX9_length_49 C ⟨fun _ => ⟨i4, ?_⟩, fun q => absurd (by decide) q⟩
      rw [hcl]
      refine ⟨fun q => hk _ _ ⟨?_, hf'.fc⟩, fun q => hk _ _ ⟨?_, hf'.fc⟩⟩
      · rw [if_neg (fun z => q (by rw [z]; rfl)), f2]
      · rw [if_pos ((neq (b := 0) (by omega) (by omega)).mp q), f1]
    | succ k ih =>
      intro j M1 l x c hj hf ha
      have hv := vok_len h.1 (b := b) (x := nI (40 + j)) (rg_n (by omega) (by omega) (by omega))
      have hf2 := fr_rw (y := nI (40 + j)) hf
      have e2 : vC (wr M1 35 b (nI (40 + j))) = wr V 6 b (nI (40 + j)) := by
        rw [vC_cong hf2, vC_len (by rw [rc_b e h.1, ncl (by omega)]; exact hb), e]
      refine bX9_length_49 C ⟨fun q => absurd q ?_, fun _ => ⟨i4, ?_⟩⟩
      · show ¬ nI 99 < nI (40 + j)
        rw [nlt (by omega) (by omega)]; omega
      rw [hcl]
      refine (c_sumBelow e2 hv l).imp ?_
      rintro r M2 ⟨hf3, hr⟩
      refine bX9_length_76 C ?_
      rw [nI_1]
      exact ⟨fun q => ih (j + 1) M2 l (nI (40 + j)) c (by omega) (hf2.trans hf3) (ha.keep (all_rg hv) hr q), fun q => ih (j + 1) M2 r (nI (40 + j)) (nI (40 + j)) (by omega) (hf2.trans hf3) (ha.new (g := fun k => nI (40 + k)) hr q)⟩
  exact ⟨i4, loop 60 0 M _ (M 35 b) _ (by omega) (by rw [wr_self]; exact Fr.rfl') ACg.z⟩
end Q2C
section Q2M
variable {M V : Mem}
theorem m_turned (e : vM (M 57 1) M = V) (h : VB V) : WpI mX10_turned [.ref 57] M (gj gm) (TTc ++ TTm) (fun r M' => r = turnedQ V ∧ FM M M') := by
  have hv := vok_turn h
  have e2 : vM ((wr M 57 27 1) 57 1) (wr M 57 27 1) = wr V 9 4 1 := by rw [vM_turn]; exact congrArg (fun x => wr x 9 4 1) e
  have et : M 57 27 = 0 := by rw [← h.2.2.1, ← e]; rfl
  refine WpI.of rfl rfl nL fun X Q C hk => bX10_turned_0 C ((m_stayA e2 hv).imp ?_)
  rintro r M' ⟨hf, -, hr⟩
  refine bX10_turned_13 C (hk _ _ ⟨hr, ?_⟩)
  have := fr_rw (y := 0) hf
  rw [← et, wr_self] at this
  rw [← et]
  exact this.fm
theorem m_law (e : vM (M 57 1) M = V) (h : VB V) : WpI mX10_law [.ref 57] M (gj gm) (TTc ++ TTm) (fun r M' => r = lawQ V ∧ FM M M') := by
  refine WpI.of rfl rfl nL fun X Q C hk => bX10_law_0 C ?_
  have loop : ∀ k j (M1 : Mem) (l x b : Int32), j + k = 3 → Fr 72 76 (wr M 57 10 x) M1 → AMg (lawF V) nI j b l → WW X Q 12 [(0, .ref 57), (1, .int (M 57 10)), (2, .int b), (3, .int l), (4, .int (nI j))] [] (M1, gj gm, TTc ++ TTm) := by
    intro k
    induction k with
    | zero =>
      intro j M1 l x b hj hf ha
      have e3 : j = 3 := by omega
      subst e3
      refine bX10_law_12 C ⟨fun _ => hk _ _ ⟨(ha.fin (by omega)).1, ?_⟩, fun q => absurd (i_le_rfl _) q⟩
      have := fr_rw (y := M 57 10) hf
      rw [wr_self] at this
      exact this.fm
    | succ k ih =>
      intro j M1 l x b hj hf ha
      have hv := vok_law h.1 (k := j) (by omega)
      have hf2 := fr_rw (y := nI j) hf
      have e1 : (wr M1 57 10 (nI j)) 57 1 = M 57 1 := by rw [hf2 57 (by omega)]; rfl
      have e2 : vM ((wr M1 57 10 (nI j)) 57 1) (wr M1 57 10 (nI j)) = wr V 9 3 (nI j) := by rw [e1, vM_cong hf2, vM_law, e]
      refine bX10_law_12 C ⟨fun q => absurd q ?_, fun _ => (m_stayA e2 hv).imp ?_⟩
      · show ¬ nI 3 ≤ nI j
        rw [nle (by omega) (by omega)]; omega
      rintro r M2 ⟨hf3, -, rfl⟩
      refine bX10_law_32 C ?_
      rw [nI_1]
      exact ha.step (all_rg hv) (fun i hi z => absurd ((neq (by omega) (by omega)).mp z) (by omega)) (fun b' l' a => ih (j + 1) M2 l' (nI j) b' (by omega) (hf2.trans hf3) a)
  exact loop 3 0 M _ (M 57 10) _ (by omega) (by rw [wr_self]; exact Fr.rfl') AMg.z
theorem m_length (e : vM (M 57 1) M = V) (h : VB V) (b w : Int32) : WpI mX10_length [.ref 57, .int b, .int w] M (gj gm) (TTc ++ TTm) (fun r M' => r = lengthQ V b w ∧ FM M M') := by
  have h4 := h.1.2.1.2
  refine WpI.of rfl rfl nL fun X Q C hk => bX10_length_0 C (g_m h4.1 (by omega) (by rw [rm_b e h.1]) (fun q => hk _ _ ⟨gd_lo q, FM.r⟩) (fun q => hk _ _ ⟨gd_hi q, FM.r⟩) fun b hb eb => ?_)
  subst eb
  unfold lengthQ at hk
  rw [gd_in hb (by omega)] at hk
  refine g_m (n := 2) (by omega) (by omega) rfl (fun q => hk _ _ ⟨gd_lo q, FM.r⟩) (fun q => hk _ _ ⟨gd_hi q, FM.r⟩) fun w hw ew => ?_
  subst ew
  rw [gd_in hw (by omega)] at hk
  have i4 : vp_in (nI b) 4 := nin (by omega) (by omega)
  have hcl : (nI b).toNatClampNeg = b := ncl (by omega)
  rw [hcl]
  have loop : ∀ k j (M1 : Mem) (l x c : Int32), j + k = 60 → Fr 72 76 (wr M 58 b x) M1 → AMg (lenF V b) (fun k => nI (40 + k)) j c l → WW X Q 37 [(0, .ref 57), (1, .int (nI b)), (2, .int (nI w)), (3, .int (M 58 b)), (4, .int c), (5, .int l), (6, .int (nI (40 + j)))] [] (M1, gj gm, TTc ++ TTm) := by
    intro k
    induction k with
    | zero =>
      intro j M1 l x c hj hf ha
      have e3 : j = 60 := by omega
      subst e3
      obtain ⟨f1, f2⟩ := ha.fin (by omega)
      have hf' := fr_rw (y := M 58 b) hf
      rw [wr_self] at hf'
      refine bX10_length_37 C ⟨fun _ => ⟨i4, ?_⟩, fun q => absurd (by decide) q⟩
      rw [hcl]
      refine ⟨fun q => hk _ _ ⟨?_, hf'.fm⟩, fun q => hk _ _ ⟨?_, hf'.fm⟩⟩
      · rw [if_neg (fun z => q (by rw [z]; rfl)), f2]
      · rw [if_pos ((neq (b := 0) (by omega) (by omega)).mp q), f1]
    | succ k ih =>
      intro j M1 l x c hj hf ha
      have hv := vok_len h.1 (b := b) (x := nI (40 + j)) (rg_n (by omega) (by omega) (by omega))
      have hf2 := fr_rw (y := nI (40 + j)) hf
      have e1 : (wr M1 58 b (nI (40 + j))) 57 1 = M 57 1 := by rw [hf2 57 (by omega)]; rfl
      have e2 : vM ((wr M1 58 b (nI (40 + j))) 57 1) (wr M1 58 b (nI (40 + j))) = wr V 6 b (nI (40 + j)) := by
        rw [e1, vM_cong hf2, vM_len (by rw [rm_b e h.1, ncl (by omega)]; exact hb), e]
      refine bX10_length_37 C ⟨fun q => absurd q ?_, fun _ => ⟨i4, ?_⟩⟩
      · show ¬ nI 99 < nI (40 + j)
        rw [nlt (by omega) (by omega)]; omega
      rw [hcl]
      refine (m_stayA e2 hv).imp ?_
      rintro r M2 ⟨hf3, -, rfl⟩
      refine bX10_length_60 C ?_
      rw [nI_1]
      exact ha.step (g := fun k => nI (40 + k)) (all_rg hv) (fun i hi z => absurd ((neq (by omega) (by omega)).mp z) (by omega)) (fun b' l' a => ih (j + 1) M2 l' (nI (40 + j)) b' (by omega) (hf2.trans hf3) a)
  exact ⟨i4, loop 60 0 M _ (M 58 b) _ (by omega) (by rw [wr_self]; exact Fr.rfl') AMg.z⟩
end Q2M
