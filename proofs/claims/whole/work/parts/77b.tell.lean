/-! the class: tell, clear, readInto -/
def TlP (c : Int32) (l : List Int32) (d : Dt) (M : Mem) (r : Int32) (M' : Mem) : Prop := (r = 0 ∧ stp c l d = none ∧ M' = M) ∨ (r = 1 ∧ ∃ d', stp c l d = some d' ∧ CD M' d' ∧ Fr 45 56 M M')
def F7 (M M' : Mem) : Prop := (∀ c, c ≠ 1 → c ≠ 3 → (c < 45 ∨ 56 < c) → M' c = M c) ∧ M' 1 2 = M 1 2
section C77b
variable {M : Mem} {ga gb : Nat} {G2 : Grf} {T2 : List (Nat × Nat)} {t : Nat → Int32} {n : Nat} {d : Dt}
theorem c_tell1 (h : CD M d) (hd : DOK d) (c a y z : Int32) : WpI mX2_tell [.ref 45, .int c, .int 1, .int a, .int y, .int z] M (gz ga gb G2) (TTc ++ T2) (TlP c [a] d M) := by
  refine WpI.of rfl rfl nL fun X Q C hk => bX2_tellz_0 C ?_
  have no : stp c [a] d = none → RetOK X Q (some (.int 0)) (M, gz ga gb G2, TTc ++ T2) := fun q => hk _ _ (Or.inl ⟨rfl, q, rfl⟩)
  have fin : ∀ r M', TlP c [a] d M r M' → ((r = 0 → RetOK X Q (some (.int 0)) (M', gz ga gb G2, TTc ++ T2)) ∧ (¬ r = 0 → RetOK X Q (some (.int 1)) (M', gz ga gb G2, TTc ++ T2))) := by
    rintro r M' (⟨rfl, b, rfl⟩ | ⟨rfl, b⟩)
    · exact ⟨fun _ => hk _ _ (Or.inl ⟨rfl, b, rfl⟩), fun z => absurd rfl z⟩
    · exact ⟨fun z => absurd z (by decide), fun _ => hk _ _ (Or.inr ⟨rfl, b⟩)⟩
  refine ⟨fun e1 => ?_, fun n1 => ⟨fun e2 => ?_, fun n2 => ⟨fun e3 => ?_, fun n3 => ⟨fun e4 => ?_, fun n4 => ⟨fun e5 => ?_, fun n5 => ⟨fun e6 => ?_, fun n6 => no (stp_o1 n1 n5 n6)⟩⟩⟩⟩⟩⟩
  · subst e1
    refine ⟨fun q => absurd rfl q, fun _ => ⟨fun q => no ?_, fun q => ⟨fun q2 => no ?_, fun q2 => (c_badd h hd a).imp ?_⟩⟩⟩
    · rw [stp_98, if_neg (fun z => absurd q (i_nlt.mpr z.1))]
    · rw [stp_98, if_neg (fun z => absurd q2 (i_nlt.mpr z.2.1))]
    · rintro r M' (⟨a1, a2, a3⟩ | ⟨a1, a2, a3, a4⟩)
      · refine bX2_tellz_104 C (fin r M' (Or.inl ⟨a2, ?_, a3⟩))
        rw [stp_98, if_neg (fun z => a1 z.2.2)]
      · refine bX2_tellz_104 C (fin r M' (Or.inr ⟨a2, _, ?_, a3, a4⟩))
        rw [stp_98, if_pos ⟨i_nlt.mp q, i_nlt.mp q2, a1⟩]
  · subst e2
    exact ⟨fun _ => no (stp_o1 (by decide) (by decide) (by decide)), fun q => absurd q (by decide)⟩
  · subst e3
    exact ⟨fun _ => no (stp_o1 (by decide) (by decide) (by decide)), fun q => absurd q (by decide)⟩
  · subst e4
    exact ⟨fun _ => no (stp_o1 (by decide) (by decide) (by decide)), fun q => absurd q (by decide)⟩
  · subst e5
    refine ⟨fun q => absurd rfl q, fun _ => ⟨fun q => no ?_, fun q => ⟨fun q2 => no ?_, fun q2 => hk _ _ (Or.inr ⟨rfl, (wr d.1 9 0 a, d.2.1, d.2.2.1, d.2.2.2.1, d.2.2.2.2), ?_, ?_, Fr.rfl'.wr (by omega) (by omega)⟩)⟩⟩⟩
    · rw [stp_107, if_neg (fun z => absurd q (i_nlt.mpr z.1))]
    · rw [stp_107, if_neg (fun z => absurd q2 (i_nlt.mpr z.2))]
    · rw [stp_107, if_pos ⟨i_nlt.mp q, i_nlt.mp q2⟩]
    · obtain ⟨⟨e1, e2, e3, e4, e5, e6, e7, e8⟩, hg, hb, hf, hr⟩ := h
      exact ⟨⟨e1, e2, e3, e4, e5, rfl, e7, e8⟩, hg, hb, hf, hr⟩
  · subst e6
    refine ⟨fun q => absurd rfl q, fun _ => ⟨fun q => no ?_, fun q => ⟨fun q2 => no ?_, fun q2 => (c_radd h hd a).imp ?_⟩⟩⟩
    · rw [stp_114, if_neg (fun z => absurd q (i_nlt.mpr z.1))]
    · rw [stp_114, if_neg (fun z => absurd q2 (i_nlt.mpr z.2.1))]
    · rintro r M' (⟨a1, a2, a3⟩ | ⟨a1, a2, a3, a4⟩)
      · refine bX2_tellz_269 C (fin r M' (Or.inl ⟨a2, ?_, a3⟩))
        rw [stp_114, if_neg (fun z => a1 z.2.2)]
      · refine bX2_tellz_269 C (fin r M' (Or.inr ⟨a2, _, ?_, a3, a4⟩))
        rw [stp_114, if_pos ⟨i_nlt.mp q, i_nlt.mp q2, a1⟩]
theorem c_tell2 (h : CD M d) (hd : DOK d) (c a y z : Int32) : WpI mX2_tell [.ref 45, .int c, .int 2, .int a, .int y, .int z] M (gz ga gb G2) (TTc ++ T2) (TlP c [a, y] d M) := by
  refine WpI.of rfl rfl nL fun X Q C hk => bX2_tellz_0 C ?_
  have no : stp c [a, y] d = none → RetOK X Q (some (.int 0)) (M, gz ga gb G2, TTc ++ T2) := fun q => hk _ _ (Or.inl ⟨rfl, q, rfl⟩)
  have fin : ∀ r M', TlP c [a, y] d M r M' → ((r = 0 → RetOK X Q (some (.int 0)) (M', gz ga gb G2, TTc ++ T2)) ∧ (¬ r = 0 → RetOK X Q (some (.int 1)) (M', gz ga gb G2, TTc ++ T2))) := by
    rintro r M' (⟨rfl, b, rfl⟩ | ⟨rfl, b⟩)
    · exact ⟨fun _ => hk _ _ (Or.inl ⟨rfl, b, rfl⟩), fun z => absurd rfl z⟩
    · exact ⟨fun z => absurd z (by decide), fun _ => hk _ _ (Or.inr ⟨rfl, b⟩)⟩
  refine ⟨fun e1 => ?_, fun n1 => ⟨fun e2 => ?_, fun n2 => ⟨fun e3 => ?_, fun n3 => ⟨fun e4 => ?_, fun n4 => ⟨fun e5 => ?_, fun n5 => ⟨fun e6 => ?_, fun n6 => no (stp_o2 n2 n4)⟩⟩⟩⟩⟩⟩
  · subst e1
    exact ⟨fun _ => no (stp_o2 (by decide) (by decide)), fun q => absurd q (by decide)⟩
  · subst e2
    refine ⟨fun q => absurd rfl q, fun _ => ⟨fun q => no ?_, fun q => ⟨fun q2 => no ?_, fun q2 => ⟨fun q3 => no ?_, fun q3 => ⟨fun q4 => no ?_, fun q4 => ?_⟩⟩⟩⟩⟩
    · rw [stp_102, if_neg (fun z => absurd q (i_nlt.mpr z.1))]
    · rw [stp_102, if_neg (fun z => absurd q2 (i_nlt.mpr z.2.1))]
    · rw [stp_102, if_neg (fun z => absurd q3 (i_nlt.mpr z.2.2.1))]
    · rw [stp_102, if_neg (fun z => absurd q4 (i_nlt.mpr z.2.2.2.1))]
    obtain ⟨i, hi, ei⟩ := ix_of' (x := a) (n := 30) (by omega) q q2
    subst ei
    refine (c_fadd h hd hi y).imp ?_
    rintro r M' (⟨a1, a2, a3⟩ | ⟨a1, a2, a3, a4⟩)
    · refine bX2_tellz_146 C (fin r M' (Or.inl ⟨a2, ?_, a3⟩))
      rw [stp_102, if_neg (fun z => a1 z.2.2.2.2)]
    · refine bX2_tellz_146 C (fin r M' (Or.inr ⟨a2, _, ?_, a3, a4⟩))
      rw [stp_102, if_pos ⟨i_nlt.mp q, i_nlt.mp q2, i_nlt.mp q3, i_nlt.mp q4, a1⟩, ncl (by omega)]
  · subst e3
    exact ⟨fun _ => no (stp_o2 (by decide) (by decide)), fun q => absurd q (by decide)⟩
  · subst e4
    refine ⟨fun q => absurd rfl q, fun _ => (c_befriend h hd a y).imp ?_⟩
    rintro r M' (⟨a1, a2, a3⟩ | ⟨a1, a2, a3, a4⟩)
    · refine bX2_tellz_224 C (fin r M' (Or.inl ⟨a2, ?_, a3⟩))
      rw [stp_104, if_neg a1]
    · refine bX2_tellz_224 C (fin r M' (Or.inr ⟨a2, _, ?_, a3, a4⟩))
      rw [stp_104, if_pos a1]
  · subst e5
    exact ⟨fun _ => no (stp_o2 (by decide) (by decide)), fun q => absurd q (by decide)⟩
  · subst e6
    exact ⟨fun _ => no (stp_o2 (by decide) (by decide)), fun q => absurd q (by decide)⟩
theorem c_tell3 (h : CD M d) (hd : DOK d) (c a y z : Int32) : WpI mX2_tell [.ref 45, .int c, .int 3, .int a, .int y, .int z] M (gz ga gb G2) (TTc ++ T2) (TlP c [a, y, z] d M) := by
  refine WpI.of rfl rfl nL fun X Q C hk => bX2_tellz_0 C ?_
  have no : stp c [a, y, z] d = none → RetOK X Q (some (.int 0)) (M, gz ga gb G2, TTc ++ T2) := fun q => hk _ _ (Or.inl ⟨rfl, q, rfl⟩)
  have fin : ∀ r M', TlP c [a, y, z] d M r M' → ((r = 0 → RetOK X Q (some (.int 0)) (M', gz ga gb G2, TTc ++ T2)) ∧ (¬ r = 0 → RetOK X Q (some (.int 1)) (M', gz ga gb G2, TTc ++ T2))) := by
    rintro r M' (⟨rfl, b, rfl⟩ | ⟨rfl, b⟩)
    · exact ⟨fun _ => hk _ _ (Or.inl ⟨rfl, b, rfl⟩), fun z => absurd rfl z⟩
    · exact ⟨fun z => absurd z (by decide), fun _ => hk _ _ (Or.inr ⟨rfl, b⟩)⟩
  refine ⟨fun e1 => ?_, fun n1 => ⟨fun e2 => ?_, fun n2 => ⟨fun e3 => ?_, fun n3 => ⟨fun e4 => ?_, fun n4 => ⟨fun e5 => ?_, fun n5 => ⟨fun e6 => ?_, fun n6 => no (stp_o3 n3)⟩⟩⟩⟩⟩⟩
  · subst e1
    exact ⟨fun _ => no (stp_o3 (by decide)), fun q => absurd q (by decide)⟩
  · subst e2
    exact ⟨fun _ => no (stp_o3 (by decide)), fun q => absurd q (by decide)⟩
  · subst e3
    refine ⟨fun q => absurd rfl q, fun _ => ⟨fun q => no ?_, fun q => ⟨fun q2 => no ?_, fun q2 => ⟨fun q3 => no ?_, fun q3 => ⟨fun q4 => no ?_, fun q4 => ⟨fun q5 => no ?_, fun q5 => ⟨fun q6 => no ?_, fun q6 => (c_gadd h hd a y z).imp ?_⟩⟩⟩⟩⟩⟩⟩
    · rw [stp_103, if_neg (fun z => absurd q (i_nlt.mpr z.1))]
    · rw [stp_103, if_neg (fun z => absurd q2 (i_nlt.mpr z.2.1))]
    · rw [stp_103, if_neg (fun z => absurd q3 (i_nlt.mpr z.2.2.1))]
    · rw [stp_103, if_neg (fun z => absurd q4 (i_nlt.mpr z.2.2.2.1))]
    · rw [stp_103, if_neg (fun z => absurd q5 (i_nlt.mpr z.2.2.2.2.1))]
    · rw [stp_103, if_neg (fun z => absurd q6 (i_nlt.mpr z.2.2.2.2.2.1))]
    · rintro r M' (⟨a1, a2, a3⟩ | ⟨a1, a2, a3, a4⟩)
      · refine bX2_tellz_200 C (fin r M' (Or.inl ⟨a2, ?_, a3⟩))
        rw [stp_103, if_neg (fun z => a1 z.2.2.2.2.2.2)]
      · refine bX2_tellz_200 C (fin r M' (Or.inr ⟨a2, _, ?_, a3, a4⟩))
        rw [stp_103, if_pos ⟨i_nlt.mp q, i_nlt.mp q2, i_nlt.mp q3, i_nlt.mp q4, i_nlt.mp q5, i_nlt.mp q6, a1⟩]
  · subst e4
    exact ⟨fun _ => no (stp_o3 (by decide)), fun q => absurd q (by decide)⟩
  · subst e5
    exact ⟨fun _ => no (stp_o3 (by decide)), fun q => absurd q (by decide)⟩
  · subst e6
    exact ⟨fun _ => no (stp_o3 (by decide)), fun q => absurd q (by decide)⟩
theorem c_bclear : WpV mX0_clear [.ref 46] M (gz ga gb G2) (TTc ++ T2) (fun M' => (∀ c, c ≠ 46 → c ≠ 48 → M' c = M c) ∧ M' 46 = upd (upd (upd (M 46) 2 0) 4 0) 3 0 ∧ ∀ i, i < 30 → M' 48 i = 0) := by
  refine WpV.of rfl rfl nL fun X Q C hk => bX0_clearz_0 C ?_
  have loop : ∀ m j (M1 : Mem), j + m = 30 → (∀ c, c ≠ 46 → c ≠ 48 → M1 c = M c) → M1 46 = upd (upd (upd (M 46) 2 0) 4 0) 3 0 → (∀ i, i < j → M1 48 i = 0) → WW X Q 17 [(0, .ref 46), (1, .int (nI j))] [] (M1, gz ga gb G2, TTc ++ T2) := by
    intro m
    induction m with
    | zero =>
      intro j M1 hj h1 h2 h3
      have ej : j = 30 := by omega
      subst ej
      exact bX0_clearz_17 C ⟨fun _ => hk _ ⟨h1, h2, h3⟩, fun z => absurd (by decide) z⟩
    | succ m ih =>
      intro j M1 hj h1 h2 h3
      refine bX0_clearz_17 C ⟨fun z => absurd ((nle (a := 30) (by omega) (by omega)).mp z) (by omega), fun _ => ⟨nin (by omega) (by omega), ?_⟩⟩
      rw [nI_1, ncl (by omega)]
      refine ih (j + 1) _ (by omega) (fun c c1 c2 => by rw [wr_ne c2]; exact h1 c c1 c2) (by rw [wr_ne (by omega)]; exact h2) (fun i hi => ?_)
      by_cases e : i = j
      · rw [e, wr_at]
      · rw [wr_no e]; exact h3 i (by omega)
  refine loop 30 0 _ (by omega) (fun c c1 c2 => by rw [wr_ne c1, wr_ne c1, wr_ne c1]) ?_ (fun i hi => absurd hi (by omega))
  rw [wr_eq, wr_eq, wr_eq]
theorem c_clear (h5 : M 46 5 = 0) (h6 : M 46 6 = -1) : WpV mX2_clear [.ref 45] M (gz ga gb G2) (TTc ++ T2) (fun M' => CD M' d0 ∧ Fr 45 56 M M') := by
  refine WpV.of rfl rfl nL fun X Q C hk => bX2_clearz_0 C (c_bclear.imp ?_)
  rintro M' ⟨f1, f2, f3⟩
  refine bX2_clearz_7 C (hk _ ⟨⟨⟨rfl, ?_, ?_, ?_, rfl, rfl, ?_, ?_⟩, fun i hi => absurd hi (Nat.not_lt_zero i), fun i hi => absurd hi (Nat.not_lt_zero i), f3, fun i hi => absurd hi (Nat.not_lt_zero i)⟩, ((Fr.wr (M' := M') (fun c hc => f1 c (by omega) (by omega)) (by omega) (by omega)).wr (by omega) (by omega)).wr (by omega) (by omega)⟩)
  · show M' 46 2 = nI 0
    rw [f2]; rfl
  · show M' 46 4 = nI 0
    rw [f2]; rfl
  · show M' 46 3 = nI 0
    rw [f2]; rfl
  · show M' 46 5 = 0
    rw [f2]; exact h5
  · show M' 46 6 = -1
    rw [f2]; exact h6
theorem c_readInto (ht : TX t n) (hc : TC t n M) (h5 : M 46 5 = 0) (h6 : M 46 6 = -1) : WpI mX7_readInto [.ref 1, .ref 45] M (gz ga gb G2) (TTc ++ T2) (fun r M' => r = (prs t n 200 0 d0).1 ∧ CD M' (prs t n 200 0 d0).2 ∧ F7 M M') := by
  have hn := ht.1
  refine WpI.of rfl rfl nL fun X Q C hk => bX7_readIntoz_0 C ((c_clear h5 h6).imp ?_)
  rintro M0 ⟨cd0, fr0⟩
  refine bX7_readIntoz_4 C ?_
  generalize hZ : prs t n 200 0 d0 = Z at hk
  have loop : ∀ f k p (d : Dt) (M1 : Mem), k + f = 200 → p ≤ 200 → CD M1 d → DOK d → F7 M M1 → Z = prs t n f p d → WW X Q 8 [(0, .ref 1), (1, .ref 45), (2, .int (nI p)), (3, .int (nI k))] [] (M1, gz ga gb G2, TTc ++ T2) := by
    intro f
    induction f with
    | zero =>
      intro k p d M1 hk2 hp cd dk f7 ep
      have ek : k = 200 := by omega
      subst ek
      refine bX7_readIntoz_8 C ⟨fun _ => hk _ _ ?_, fun z => absurd (by decide) z⟩
      rw [ep]
      exact ⟨rfl, cd, f7⟩
    | succ f ih =>
      intro k p d M1 hk2 hp cd dk f7 ep
      have tc1 : TC t n M1 := ⟨f7.2.trans hc.1, fun p hp => by rw [f7.1 2 (by omega) (by omega) (by omega)]; exact hc.2 p hp⟩
      refine bX7_readIntoz_8 C ⟨fun z => absurd ((nle (a := 200) (by omega) (by omega)).mp z) (by omega), fun _ => ?_⟩
      rw [tc1.1, nI_1]
      refine ⟨fun z => ?_, fun z => ?_⟩
      · have z' := (nle (by omega) (by omega)).mp z
        refine hk _ _ ?_
        rw [ep, prs, if_neg (by omega)]
        exact ⟨rfl, cd, f7⟩
      have hpn : p < n := by rw [nle (by omega) (by omega)] at z; omega
      rw [prs, if_pos hpn] at ep
      refine (c_readNumbers ht tc1 (p := p + 1) (by omega)).imp ?_
      rintro r M2 ⟨g1, g2, g3⟩
      have cd2 : CD M2 d := cd.cong (fun c c1 c2 => g1 c (by omega) (by omega))
      have f72 : F7 M M2 := ⟨fun c c1 c3 hc => (g1 c c1 c3).trans (f7.1 c c1 c3 hc), g2.trans f7.2⟩
      rcases g3 with ⟨a, rfl⟩ | ⟨l, e, a, rfl, b, c⟩
      · refine bX7_readIntoz_30 C ⟨fun _ => hk _ _ ?_, fun z => absurd rfl z⟩
        rw [ep, a]
        exact ⟨rfl, cd2, f72⟩
      rw [a] at ep
      dsimp only at ep
      have he := rdR_e ht a
      have tc2 : TC t n M2 := ⟨f72.2.trans hc.1, fun p hp => by rw [f72.1 2 (by omega) (by omega) (by omega)]; exact hc.2 p hp⟩
      refine bX7_readIntoz_30 C ⟨fun z => absurd z (nI_nm (by omega)), fun _ => (c_letterAt ht tc2 (p := p) (by omega)).imp ?_⟩
      intro r M3 hrm
      obtain ⟨hr0, hm0⟩ := hrm
      subst hm0 hr0
      refine bX7_readIntoz_44 C ?_
      have tl : WpI mX2_tell [.ref 45, .int (t p), .int (M3 1 3), .int (M3 3 0), .int (M3 3 1), .int (M3 3 2)] M3 (gz ga gb G2) (TTc ++ T2) (TlP (t p) l d M3) := by
        match l, b, c, he with
        | [], _, _, he => exact absurd he.1 (by simp)
        | [x], b, c, _ =>
          rw [b, show M3 3 0 = x from c 0 (by simp)]
          exact c_tell1 cd2 dk _ _ _ _
        | [x, y], b, c, _ =>
          rw [b, show M3 3 0 = x from c 0 (by simp), show M3 3 1 = y from c 1 (by simp)]
          exact c_tell2 cd2 dk _ _ _ _
        | [x, y, z], b, c, _ =>
          rw [b, show M3 3 0 = x from c 0 (by simp), show M3 3 1 = y from c 1 (by simp), show M3 3 2 = z from c 2 (by simp)]
          exact c_tell3 cd2 dk _ _ _ _
        | _ :: _ :: _ :: _ :: _, _, _, he => exact absurd he.2.1 (by simp)
      refine tl.imp ?_
      rintro r M4 (⟨rfl, s, rfl⟩ | ⟨rfl, d', s, cd4, f4⟩)
      · refine bX7_readIntoz_69 C ⟨fun z => absurd rfl z, fun _ => hk _ _ ?_⟩
        rw [ep, s]
        exact ⟨rfl, cd2, f72⟩
      · refine bX7_readIntoz_69 C ⟨fun _ => ?_, fun z => absurd z (by decide)⟩
        rw [s] at ep
        rw [nI_1]
        exact ih (k + 1) e d' M4 (by omega) (by omega) cd4 (stp_ok dk s) ⟨fun c c1 c3 hc => (f4 c hc).trans (f72.1 c c1 c3 hc), by rw [f4 1 (by omega)]; exact f72.2⟩ ep
  exact loop 200 0 0 d0 M0 (by omega) (by omega) cd0 d0_ok ⟨fun c _ _ hc => fr0 c hc, by rw [fr0 1 (by omega)]⟩ hZ.symm
end C77b
