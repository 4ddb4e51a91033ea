/-! fault and lay -/
def dV (d : Dt) : Mem := fun c => match c with
  | 0 => nrm d.2.1 (d.1 0)
  | 1 => nrm d.2.1 (d.1 1)
  | 2 => nrm d.2.1 (d.1 2)
  | 3 => nrm d.2.1 (d.1 3)
  | 4 => nrm d.2.1 (fun _ => 0)
  | 5 => nrm d.2.1 (fun i => nI i)
  | 6 => nrm d.2.2.1 (d.1 6)
  | 7 => nrm 30 (d.1 7)
  | 8 => nrm d.2.2.2.2 (d.1 8)
  | 9 => fun j => match j with
    | 0 => nI d.2.1
    | 1 => nI d.2.2.1
    | 2 => nI d.2.2.2.2
    | 3 => d.1 9 0
    | 4 => 0
    | 5 => -1
    | 6 => nI d.2.2.1
    | _ => 0
  | _ => fun _ => 0
theorem dV_ok {d : Dt} (h : DOK d) (hg : 0 < d.2.1) (hb : 0 < d.2.2.1) : VB (dV d) := by
  obtain ⟨⟨a1, a2, a3, a4⟩, b1, b2, b3, b4, b5, b6⟩ := h
  have eg : ngV (dV d) = d.2.1 := ncl (by omega)
  have eb : nbV (dV d) = d.2.2.1 := ncl (by omega)
  have er : nrV (dV d) = d.2.2.2.2 := ncl (by omega)
  have eo : opV (dV d) = d.2.2.1 := ncl (by omega)
  refine ⟨⟨⟨by rw [eg]; rfl, by omega, by omega⟩, ⟨by rw [eb]; rfl, by omega, by omega⟩, ⟨by rw [eo]; rfl, by omega⟩, ⟨by rw [er]; rfl, by omega⟩, fun i hi => ?_, fun i j hi hj e => ?_, fun b hb => ?_, fun n hn => ?_, fun k hk => ?_, b6, Or.inl rfl, Or.inl rfl⟩, by omega, rfl, rfl, fun i hi => ?_⟩
  · rw [eg] at hi
    refine ⟨?_, ?_, ?_, ?_, i, by omega, ?_⟩
    · show rgI (nrm d.2.1 (d.1 0) i) 40 99
      rw [nrm_in hi]; exact (b2 i hi).1
    · show rgI (nrm d.2.1 (d.1 1) i) 0 18
      rw [nrm_in hi]; exact rg_w (b2 i hi).2.1 (by omega)
    · show rgI (nrm d.2.1 (d.1 2) i) 0 4
      rw [nrm_in hi]; exact (b2 i hi).2.2
    · show rgI (nrm d.2.1 (fun _ => 0) i) (-9) 9
      rw [nrm_in hi]; unfold rgI; decide
    · exact nrm_in hi
  · rw [eg] at hi hj
    have e' : nrm d.2.1 (fun i => nI i) i = nrm d.2.1 (fun i => nI i) j := e
    rw [nrm_in hi, nrm_in hj] at e'
    exact (neq (by omega) (by omega)).mp e'
  · rw [eb] at hb
    show rgI (nrm d.2.2.1 (d.1 6) b) 40 99
    rw [nrm_in hb]; exact b3 b hb
  · show rgI (nrm 30 (d.1 7) n) 0 36
    rw [nrm_in hn]; exact rg_w (b4 n hn) (by omega)
  · rw [er] at hk
    show rgI (nrm d.2.2.2.2 (d.1 8) k) 40 99
    rw [nrm_in hk]; exact b5 k hk
  · rw [eg] at hi
    show rgI (nrm d.2.1 (d.1 1) i) 0 9
    rw [nrm_in hi]; exact (b2 i hi).2.1
/-- the text lies well: what lay makes of it -/
def okL (t : Nat → Int32) (n : Nat) : Prop := (prs t n 200 0 d0).1 = -4 ∧ 0 < (prs t n 200 0 d0).2.2.2.1 ∧ 0 < (prs t n 200 0 d0).2.2.1
theorem n4 : ∀ {p : Nat}, p < 1000000 → ¬ nI p = -4 := fun {p} h z => by
  have := congrArg Int32.toInt z
  rw [nti h, show (-4 : Int32).toInt = -4 by decide] at this
  omega
section M80
variable {M : Mem} {t : Nat → Int32} {n : Nat} {d : Dt}
theorem m_fault (ht : TX t n) (hc : TM t n M) : WpI mX10_fault [.ref 57] M (gj gm) (TTc ++ TTm) (fun r M' => r = (prs t n 200 0 d0).1 ∧ (r = -4 → RD M' (prs t n 200 0 d0).2) ∧ F8 M M') := by
  have hn := ht.1
  generalize hZ : prs t n 200 0 d0 = Z
  refine WpI.of rfl rfl nL fun X Q C hk => bX10_fault_0 C ?_
  have loop : ∀ f p (d : Dt) (x : Int32) (M1 : Mem), p ≤ n → n ≤ p + f → M1 57 14 = nI p → RD M1 d → DOK d → F8 M M1 → Z = prs t n f p d → WW X Q 72 [(0, .ref 57), (1, .int x)] [] (M1, gj gm, TTc ++ TTm) := by
    intro f
    induction f with
    | zero =>
      intro p d x M1 hp hf h14 rd dk f8 ep
      have tm := hc.f f8
      refine bX10_fault_72 C ⟨fun _ => hk _ _ ?_, fun z => ?_⟩
      · rw [ep]; exact ⟨rfl, fun _ => rd, f8⟩
      · rw [tm.1, h14, nle (by omega) (by omega)] at z
        omega
    | succ f ih =>
      intro p d x M1 hp hf h14 rd dk f8 ep
      have tm := hc.f f8
      refine bX10_fault_72 C ?_
      rw [tm.1, h14]
      refine ⟨fun z => hk _ _ ?_, fun z => ?_⟩
      · have z' := (nle (by omega) (by omega)).mp z
        rw [ep, prs, if_neg (by omega)]; exact ⟨rfl, fun _ => rd, f8⟩
      have hpn : p < n := by rw [nle (by omega) (by omega)] at z; omega
      rw [prs, if_pos hpn] at ep
      refine (m_readItem ht tm rd dk h14 hpn).imp ?_
      rintro x M2 ⟨g8, ⟨rfl, a⟩ | ⟨rfl, l, e, d', a, b, c, e14⟩⟩
      · refine bX10_fault_92 C ⟨fun z => absurd rfl z, fun _ => hk _ _ ⟨?_, fun z => absurd z (n4 (by omega)), f8.t g8⟩⟩
        rw [ep]
        cases hr : rdR t 3 (p + 1) with
        | none => rfl
        | some w =>
          obtain ⟨l, e⟩ := w
          dsimp only
          rw [a l e hr]
      · refine bX10_fault_92 C ⟨fun _ => ?_, fun z => absurd z (by decide)⟩
        rw [a] at ep
        dsimp only at ep
        rw [b] at ep
        have he := rdR_e ht a
        exact ih e d' _ M2 (by omega) (by omega) e14 c (stp_ok dk b) (f8.t g8) ep
  have l2 : ∀ m j (M1 : Mem), j + m = 7 → F8 M M1 → M1 57 14 = nI 0 → (M1 57 23 = nI 0 ∧ M1 57 18 = nI 0 ∧ M1 57 20 = nI 0 ∧ M1 57 25 = nI 0 ∧ M1 57 26 = 1) → (∀ i, i < 30 → M1 68 i = 0) → (∀ i, i < j → M1 70 i = 0) → WW X Q 53 [(0, .ref 57), (1, .int (nI j))] [] (M1, gj gm, TTc ++ TTm) := by
    intro m
    induction m with
    | zero =>
      intro j M1 hj f8 h14 hz h68 h70
      have ej : j = 7 := by omega
      subst ej
      refine bX10_fault_53 C ⟨fun _ => loop 200 0 d0 _ M1 (by omega) (by omega) h14 ⟨hz, fun i hi => absurd hi (Nat.not_lt_zero i), h70, fun i hi => absurd hi (Nat.not_lt_zero i), h68, fun i hi => absurd hi (Nat.not_lt_zero i)⟩ d0_ok f8 hZ.symm, fun z => absurd (by decide) z⟩
    | succ m ih =>
      intro j M1 hj f8 h14 hz h68 h70
      refine bX10_fault_53 C ⟨fun z => absurd ((nle (a := 7) (by omega) (by omega)).mp z) (by omega), fun _ => ⟨nin (by omega) (by omega), ?_⟩⟩
      rw [nI_1, ncl (by omega)]
      refine ih (j + 1) _ (by omega) (f8_a f8 (by omega) (by omega)) h14 hz h68 (fun i hi => ?_)
      by_cases e : i = j
      · rw [e, wr_at]
      · rw [wr_no e]; exact h70 i (by omega)
  have l1 : ∀ m j (M1 : Mem), j + m = 30 → F8 M M1 → M1 57 14 = nI 0 → (M1 57 23 = nI 0 ∧ M1 57 18 = nI 0 ∧ M1 57 20 = nI 0 ∧ M1 57 25 = nI 0 ∧ M1 57 26 = 1) → (∀ i, i < j → M1 68 i = 0) → WW X Q 32 [(0, .ref 57), (1, .int (nI j))] [] (M1, gj gm, TTc ++ TTm) := by
    intro m
    induction m with
    | zero =>
      intro j M1 hj f8 h14 hz h68
      have ej : j = 30 := by omega
      subst ej
      exact bX10_fault_32 C ⟨fun _ => l2 7 0 M1 (by omega) f8 h14 hz h68 (fun i hi => absurd hi (Nat.not_lt_zero i)), fun z => absurd (by decide) z⟩
    | succ m ih =>
      intro j M1 hj f8 h14 hz h68
      refine bX10_fault_32 C ⟨fun z => absurd ((nle (a := 30) (by omega) (by omega)).mp z) (by omega), fun _ => ⟨nin (by omega) (by omega), ?_⟩⟩
      rw [nI_1, ncl (by omega)]
      refine ih (j + 1) _ (by omega) (f8_a f8 (by omega) (by omega)) h14 hz (fun i hi => ?_)
      by_cases e : i = j
      · rw [e, wr_at]
      · rw [wr_no e]; exact h68 i (by omega)
  exact l1 30 0 _ (by omega) (f8_b (f8_b (f8_b (f8_b (f8_b (f8_b F8.r (by omega) (by omega)) (by omega) (by omega)) (by omega) (by omega)) (by omega) (by omega)) (by omega) (by omega)) (by omega) (by omega)) rfl ⟨rfl, rfl, rfl, rfl, rfl⟩ (fun i hi => absurd hi (Nat.not_lt_zero i))
/-- behind the reference's lay -/
def LyM (M M' : Mem) (d : Dt) : Prop := vM (M' 57 1) M' = dV d ∧ M' 57 35 = 0 ∧ M' 57 39 = 0 ∧ M' 57 43 = 0 ∧ M' 57 3 = nI d.2.2.2.1 ∧ M' 57 13 = M 57 13 ∧ ∀ c, (c < 57 ∨ c = 65 ∨ 71 < c) → M' c = M c
theorem m_lay (ht : TX t n) (hc : TM t n M) (h27 : M 57 27 = 0) (h28 : M 57 28 = -1) : WpI mX10_lay [.ref 57] M (gj gm) (TTc ++ TTm) (fun r M' => (¬ okL t n ∧ r = -2 ∧ F8 M M') ∨ (okL t n ∧ r = nI (prs t n 200 0 d0).2.2.1 ∧ LyM M M' (prs t n 200 0 d0).2)) := by
  have hn := ht.1
  have dk := prs_ok (t := t) (n := n) (f := 200) (p := 0) d0_ok
  unfold okL
  refine WpI.of rfl rfl nL fun X Q C hk => bX10_lay_0 C ((m_fault ht hc).imp ?_)
  generalize prs t n 200 0 d0 = Z at *
  rintro r M1 ⟨rfl, rd, f8⟩
  refine bX10_lay_4 C ⟨fun z => hk _ _ (Or.inl ⟨fun y => z y.1, rfl, f8⟩), fun z => ?_⟩
  have rd := rd z
  obtain ⟨⟨r1, r2, r3, r4, r5⟩, rg, r70, rb, rf, rr⟩ := rd
  obtain ⟨dg, db, df, dr⟩ := dk.1
  rw [r1, r2, r3, r4, r5]
  refine ⟨fun z2 => hk _ _ (Or.inl ⟨fun y => ?_, rfl, f8⟩), fun z2 => ⟨fun z3 => ?_, fun z3 => hk _ _ (Or.inl ⟨fun y => ?_, rfl, f8⟩)⟩⟩
  · have := (neq (b := 0) (by omega) (by omega)).mp z2
    omega
  rotate_left
  · have := (neq (b := 0) (by omega) (by omega)).mp z3
    omega
  have hb : 0 < Z.2.2.2.1 := by
    rcases Nat.eq_zero_or_pos Z.2.2.2.1 with y | y
    · rw [y] at z2; exact absurd rfl z2
    · exact y
  have hg : 0 < Z.2.2.1 := by
    rcases Nat.eq_zero_or_pos Z.2.2.1 with y | y
    · rw [y] at z3; exact absurd rfl z3
    · exact y
  -- the cells that are read stay; 57 has the new numbers
  have l3 : ∀ m j (M2 : Mem), j + m = 7 → (∀ c, (c < 57 ∨ c = 65 ∨ 65 < c) → M2 c = M1 c) → M2 57 = (wr (wr (wr (wr (wr M1 57 1 (nI Z.2.2.2.1)) 57 7 (nI Z.2.2.1)) 57 3 (nI Z.2.2.2.2.1)) 57 9 (nI Z.2.2.2.2.2)) 57 10 (Z.2.1 9 0)) 57 → (∀ i, i < 4 → M2 58 i = M1 67 i ∧ M2 63 i = M1 71 i) → (∀ i, i < 30 → M2 59 i = M1 68 i) → (∀ i, i < j → M2 60 i = M1 69 (3 * i) ∧ M2 61 i = M1 69 (3 * i + 2) ∧ M2 62 i = M1 70 i ∧ M2 64 i = nI i ∧ M2 64 (7 + i) = 0 ∧ M2 64 (14 + i) = M1 69 (3 * i + 1)) → WW X Q 131 [(0, .ref 57), (1, .int (nI j))] [] (M2, gj gm, TTc ++ TTm) := by
    intro m
    induction m with
    | zero =>
      intro j M2 hj fc e57 h58 h59 h60
      have ej : j = 7 := by omega
      subst ej
      refine bX10_lay_131 C ⟨fun _ => hk _ _ (Or.inr ⟨⟨z, hb, hg⟩, ?_, ?_, rfl, rfl, rfl, ?_, ?_, fun c c1 => ?_⟩), fun z => absurd (by decide) z⟩
      · rw [e57]; rfl
      · have g57 : ∀ j, j ≠ 35 → j ≠ 39 → j ≠ 43 → (wr (wr (wr M2 57 35 0) 57 39 0) 57 43 0) 57 j = M2 57 j := fun j j1 j2 j3 => by rw [wr_no j3, wr_no j2, wr_no j1]
        have gc : ∀ c, c ≠ 57 → (wr (wr (wr M2 57 35 0) 57 39 0) 57 43 0) c = M2 c := fun c c1 => by rw [wr_ne c1, wr_ne c1, wr_ne c1]
        have a1 : M2 57 1 = nI Z.2.2.2.1 := by rw [e57]; rfl
        have a7 : M2 57 7 = nI Z.2.2.1 := by rw [e57]; rfl
        have a9 : M2 57 9 = nI Z.2.2.2.2.2 := by rw [e57]; rfl
        have a10 : M2 57 10 = Z.2.1 9 0 := by rw [e57]; rfl
        have a27 : M2 57 27 = 0 := by rw [e57]; show M1 57 27 = 0; rw [f8.2 27 (by omega)]; exact h27
        have a28 : M2 57 28 = -1 := by rw [e57]; show M1 57 28 = -1; rw [f8.2 28 (by omega)]; exact h28
        generalize wr (wr (wr M2 57 35 0) 57 39 0) 57 43 0 = M3 at *
        have b1 := (g57 1 (by omega) (by omega) (by omega)).trans a1
        have b7 := (g57 7 (by omega) (by omega) (by omega)).trans a7
        have b9 := (g57 9 (by omega) (by omega) (by omega)).trans a9
        have b10 := (g57 10 (by omega) (by omega) (by omega)).trans a10
        have b27 := (g57 27 (by omega) (by omega) (by omega)).trans a27
        have b28 := (g57 28 (by omega) (by omega) (by omega)).trans a28
        unfold vM dV
        rw [b1, b7, b9, b10, b27, b28, ncl (by omega), ncl (by omega), ncl (by omega), gc 58 (by omega), gc 59 (by omega), gc 60 (by omega), gc 61 (by omega), gc 62 (by omega), gc 63 (by omega), gc 64 (by omega)]
        funext c
        rcases c with _ | _ | _ | _ | _ | _ | _ | _ | _ | _ | c
        · exact nrm_cong (fun i hi => (h60 i (by omega)).1.trans (rg i hi).1)
        · exact nrm_cong (fun i hi => (h60 i (by omega)).2.2.2.2.2.trans (rg i hi).2.1)
        · exact nrm_cong (fun i hi => (h60 i (by omega)).2.1.trans (rg i hi).2.2)
        · exact nrm_cong (fun i hi => (h60 i (by omega)).2.2.1.trans (r70 i (by omega)))
        · exact nrm_cong (fun i hi => (h60 i (by omega)).2.2.2.2.1)
        · exact nrm_cong (fun i hi => (h60 i (by omega)).2.2.2.1)
        · exact nrm_cong (fun i hi => (h58 i (by omega)).1.trans (rb i hi))
        · exact nrm_cong (fun i hi => (h59 i hi).trans (rf i hi))
        · exact nrm_cong (fun i hi => (h58 i (by omega)).2.trans (rr i hi))
        · rfl
        · rfl
      · show M2 57 3 = _
        rw [e57]; rfl
      · show M2 57 13 = _
        rw [e57]; show M1 57 13 = _; exact f8.2 13 (by omega)
      · rw [wr_ne (by omega), wr_ne (by omega), wr_ne (by omega), fc c (by omega)]
        exact f8.1 c (by omega) (by omega)
    | succ m ih =>
      intro j M2 hj fc e57 h58 h59 h60
      have t0 : 3 * nI j = nI (3 * j) := pk_mul 3 _
      have t2 : nI (3 * j) + 2 = nI (3 * j + 2) := nI_add _ 2
      have t7 : 7 + nI j = nI (7 + j) := nI_add 7 j
      have t14 : 14 + nI j = nI (14 + j) := nI_add 14 j
      refine bX10_lay_131 C ⟨fun z => absurd ((nle (a := 7) (by omega) (by omega)).mp z) (by omega), fun _ => ?_⟩
      rw [t0, t2, t7, t14, nI_1, nI_1, ncl (by omega), ncl (by omega), ncl (by omega), ncl (by omega), ncl (by omega), ncl (by omega), fc 69 (by omega), fc 70 (by omega)]
      refine ⟨nin (by omega) (by omega), nin (by omega) (by omega), nin (by omega) (by omega), nin (by omega) (by omega), nin (by omega) (by omega), nin (by omega) (by omega), nin (by omega) (by omega), nin (by omega) (by omega), nin (by omega) (by omega), nin (by omega) (by omega), ih (j + 1) _ (by omega) (fun c c1 => by rw [wr_ne (by omega), wr_ne (by omega), wr_ne (by omega), wr_ne (by omega), wr_ne (by omega), wr_ne (by omega)]; exact fc c c1) e57 h58 h59 (fun i hi => ?_)⟩
      show upd (M2 60) j (M1 69 (3 * j)) i = _ ∧ upd (M2 61) j (M1 69 (3 * j + 2)) i = _ ∧ upd (M2 62) j (M1 70 j) i = _ ∧ upd (upd (upd (M2 64) j (nI j)) (7 + j) 0) (14 + j) (M1 69 (3 * j + 1)) i = _ ∧ upd (upd (upd (M2 64) j (nI j)) (7 + j) 0) (14 + j) (M1 69 (3 * j + 1)) (7 + i) = _ ∧ upd (upd (upd (M2 64) j (nI j)) (7 + j) 0) (14 + j) (M1 69 (3 * j + 1)) (14 + i) = _
      by_cases e : i = j
      · subst e
        rw [pk_us, pk_us, pk_us, pk_un (by omega), pk_un (by omega), pk_us, pk_un (by omega), pk_us, pk_us]
        exact ⟨rfl, rfl, rfl, rfl, rfl, rfl⟩
      · rw [pk_un e, pk_un e, pk_un e, pk_un (by omega), pk_un (by omega), pk_un (by omega), pk_un (by omega), pk_un (by omega), pk_un (by omega), pk_un (by omega), pk_un (by omega), pk_un (by omega)]
        exact h60 i (by omega)
  have l2 : ∀ m j (M2 : Mem), j + m = 30 → (∀ c, (c < 57 ∨ c = 65 ∨ 65 < c) → M2 c = M1 c) → M2 57 = (wr (wr (wr (wr (wr M1 57 1 (nI Z.2.2.2.1)) 57 7 (nI Z.2.2.1)) 57 3 (nI Z.2.2.2.2.1)) 57 9 (nI Z.2.2.2.2.2)) 57 10 (Z.2.1 9 0)) 57 → (∀ i, i < 4 → M2 58 i = M1 67 i ∧ M2 63 i = M1 71 i) → (∀ i, i < j → M2 59 i = M1 68 i) → WW X Q 105 [(0, .ref 57), (1, .int (nI j))] [] (M2, gj gm, TTc ++ TTm) := by
    intro m
    induction m with
    | zero =>
      intro j M2 hj fc e57 h58 h59
      have ej : j = 30 := by omega
      subst ej
      exact bX10_lay_105 C ⟨fun _ => l3 7 0 M2 (by omega) fc e57 h58 h59 (fun i hi => absurd hi (Nat.not_lt_zero i)), fun z => absurd (by decide) z⟩
    | succ m ih =>
      intro j M2 hj fc e57 h58 h59
      refine bX10_lay_105 C ⟨fun z => absurd ((nle (a := 30) (by omega) (by omega)).mp z) (by omega), fun _ => ?_⟩
      rw [nI_1, ncl (by omega), fc 68 (by omega)]
      refine ⟨nin (by omega) (by omega), nin (by omega) (by omega), ih (j + 1) _ (by omega) (fun c c1 => by rw [wr_ne (by omega)]; exact fc c c1) e57 h58 (fun i hi => ?_)⟩
      by_cases e : i = j
      · rw [e, wr_at]
      · rw [wr_no e]; exact h59 i (by omega)
  have l1 : ∀ m j (M2 : Mem), j + m = 4 → (∀ c, (c < 57 ∨ c = 65 ∨ 65 < c) → M2 c = M1 c) → M2 57 = (wr (wr (wr (wr (wr M1 57 1 (nI Z.2.2.2.1)) 57 7 (nI Z.2.2.1)) 57 3 (nI Z.2.2.2.2.1)) 57 9 (nI Z.2.2.2.2.2)) 57 10 (Z.2.1 9 0)) 57 → (∀ i, i < j → M2 58 i = M1 67 i ∧ M2 63 i = M1 71 i) → WW X Q 68 [(0, .ref 57), (1, .int (nI j))] [] (M2, gj gm, TTc ++ TTm) := by
    intro m
    induction m with
    | zero =>
      intro j M2 hj fc e57 h58
      have ej : j = 4 := by omega
      subst ej
      exact bX10_lay_68 C ⟨fun _ => l2 30 0 M2 (by omega) fc e57 h58 (fun i hi => absurd hi (Nat.not_lt_zero i)), fun z => absurd (by decide) z⟩
    | succ m ih =>
      intro j M2 hj fc e57 h58
      refine bX10_lay_68 C ⟨fun z => absurd ((nle (a := 4) (by omega) (by omega)).mp z) (by omega), fun _ => ?_⟩
      rw [nI_1, ncl (by omega), fc 67 (by omega), fc 71 (by omega)]
      refine ⟨nin (by omega) (by omega), nin (by omega) (by omega), nin (by omega) (by omega), nin (by omega) (by omega), ih (j + 1) _ (by omega) (fun c c1 => by rw [wr_ne (by omega), wr_ne (by omega)]; exact fc c c1) e57 (fun i hi => ?_)⟩
      show upd (M2 58) j (M1 67 j) i = _ ∧ upd (M2 63) j (M1 71 j) i = _
      by_cases e : i = j
      · subst e; rw [pk_us, pk_us]; exact ⟨rfl, rfl⟩
      · rw [pk_un e, pk_un e]; exact h58 i (by omega)
  exact l1 4 0 _ (by omega) (fun c c1 => by rw [wr_ne (by omega), wr_ne (by omega), wr_ne (by omega), wr_ne (by omega), wr_ne (by omega)]) rfl (fun i hi => absurd hi (Nat.not_lt_zero i))
end M80
