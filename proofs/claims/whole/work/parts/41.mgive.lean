/-! the reference: a bed given, all nights -/
theorem nI_m1 (k : Nat) : nI k + -1 = nI k - 1 := by grind
theorem nI_p1 (k : Nat) : nI (k + 1) - 1 = nI k := nI_pred k
theorem z_m1 : nI 0 - 1 < 0 := by decide
section MG
variable {M : Mem} {op : Int32}
theorem SimM.step {V σ : Mem} {p b n : Nat} (h : VOK V) (hs : SimM M V σ) (hp : p < ngV V) {w : Nat} {nam : Int32} :
    SimM (wr (wr (wr (wr (wr M 76 (rwN V p) (M 76 (rwN V p) + 1)) 72 w (nI n)) 73 w (nI b)) 74 w (hS V w b n)) 75 w nam) V (lieS V (wr σ 4 (rwN V p) (σ 4 (rwN V p) + 1)) w b n nam) := by
  intro i hi
  obtain ⟨h1, h2, h3, h4⟩ := hs i hi
  have e2 := (hs (rwN V p) (rwN_lt h hp).1).2.2.1
  rw [lieS_0, lieS_1, lieS_2, lieS_3, lieS_4]
  by_cases q : i = w
  · subst q
    refine ⟨by simp [wr, upd], by simp [wr, upd], ?_, fun _ => ⟨by simp [wr, upd], by simp [wr, upd]⟩⟩
    simp [wr, e2]
    unfold upd
    split
    · rfl
    · exact h3
  · refine ⟨by simp [wr, upd, q, h1], by simp [wr, upd, q, h2], ?_, fun z => ?_⟩
    · simp [wr, e2]
      unfold upd
      split
      · rfl
      · exact h3
    · rw [if_neg q] at z
      have := h4 (by simpa [wr] using z)
      simp [wr, upd, q, this]
theorem m_give {V : Mem} (e : vM op M = V) (h : VOK V) {s : Mem × Nat} (hs : SimM M V s.1) {b n : Nat} (hb : b < nbV V) (hn : n < 30) : WpV mX10_give [.ref 57, .int (nI b), .int (nI n)] M (gj gm) (TTc ++ TTm) (fun M' => Fr 72 76 M M' ∧ SimM M' V (giveS V s b n).1) := by
  have h7 := h.1.2.2
  have hg : M 57 7 = nI (ngV V) := by rw [← h.1.1, ← e]; rfl
  have e5 : ∀ p, p < ngV V → M 64 p = nI (rwN V p) := fun p hp => by rw [← (rwN_lt h hp).2, ← e]; exact (nrm_in (by rw [← e] at hp; exact hp)).symm
  have e1 : ∀ i, i < ngV V → M 64 (14 + i) = V 1 i := fun i hi => by rw [← e]; exact (nrm_in (f := fun i => M 64 (14 + i)) (by rw [← e] at hi; exact hi)).symm
  have e3 : ∀ i, i < ngV V → M 62 i = V 3 i := fun i hi => by rw [← e]; exact (nrm_in (by rw [← e] at hi; exact hi)).symm
  have el : M 57 10 = V 9 3 := by rw [← e]; rfl
  have e72 : ∀ i, i < ngV V → M 72 i = s.1 0 i := fun i hi => (hs i hi).1
  refine WpV.of rfl rfl nL fun X Q C hk => bX10_give_0 C ?_
  -- behind the choice of the called one
  have named : ∀ p, clS V s.1 n = some p → p < ngV V → rwN V p < ngV V → wtS V s.1 n (rwN V p) = true → WW X Q 76 [(0, .ref 57), (1, .int (nI b)), (2, .int (nI n)), (3, .int (nI (rwN V p))), (4, .int (-4)), (5, .int (nI (ngV V) - 1))] [] (wr M 76 (rwN V p) (M 76 (rwN V p) + 1), gj gm, TTc ++ TTm) := by
    intro p hcl hp hr hw
    have hf : Fr 72 76 M (wr M 76 (rwN V p) (M 76 (rwN V p) + 1)) := Fr.rfl'.wr (by omega) (by omega)
    have eV := (vM_cong hf).trans e
    generalize hc : rwN V p = c at *
    have hlast : giveS V s b n = (lieS V (wr s.1 4 c (s.1 4 c + 1)) (whoS V s.1 b n c).1 b n (whoS V s.1 b n c).2, max s.2 p) := by rw [giveS_some hcl, hc]
    have fin : ∀ w nam, (whoS V s.1 b n c).1 = w → (whoS V s.1 b n c).2 = nam → w < ngV V → WpV mX10_lieDown [.ref 57, .int (nI w), .int (nI b), .int (nI n), .int nam] (wr M 76 c (M 76 c + 1)) (gj gm) (TTc ++ TTm) (fun M' => Fr 72 76 M M' ∧ SimM M' V (giveS V s b n).1) := by
      intro w nam ew en hwn
      refine (m_lieDown eV h hwn hb hn nam).imp ?_
      rintro M2 rfl
      refine ⟨(((hf.wr (by omega) (by omega)).wr (by omega) (by omega)).wr (by omega) (by omega)).wr (by omega) (by omega), ?_⟩
      have := SimM.step (b := b) (n := n) (w := w) (nam := nam) h hs hp
      rw [hc] at this
      rw [hlast]
      dsimp only
      rw [ew, en]
      exact this
    have end236 : ∀ M2 x4 x5, (Fr 72 76 M M2 ∧ SimM M2 V (giveS V s b n).1) → WW X Q 236 [(0, .ref 57), (1, .int (nI b)), (2, .int (nI n)), (3, .int (nI c)), (4, .int x4), (5, .int x5)] [] (M2, gj gm, TTc ++ TTm) := fun M2 x4 x5 hh => bX10_give_236 C (hk _ hh)
    have self : ∀ x4, (whoS V s.1 b n c).1 = c → (whoS V s.1 b n c).2 = -4 → WW X Q 208 [(0, .ref 57), (1, .int (nI b)), (2, .int (nI n)), (3, .int (nI c)), (4, .int x4), (5, .int 0)] [] (wr M 76 c (M 76 c + 1), gj gm, TTc ++ TTm) := by
      intro x4 ew en
      refine bX10_give_208 C ⟨fun _ => ⟨fun _ => (fin c (-4) ew en hr).imp (fun M2 hh => end236 M2 _ _ hh), fun q => absurd rfl q⟩, fun q => absurd rfl q⟩
    have other : ∀ j, (whoS V s.1 b n c).1 = j → (whoS V s.1 b n c).2 = nI c → j < ngV V → WW X Q 208 [(0, .ref 57), (1, .int (nI b)), (2, .int (nI n)), (3, .int (nI c)), (4, .int (nI j)), (5, .int 1)] [] (wr M 76 c (M 76 c + 1), gj gm, TTc ++ TTm) := by
      intro j ew en hj
      refine bX10_give_208 C ⟨fun q => absurd q (by decide), fun _ => ⟨fun q => absurd q (by decide), fun _ => (fin j (nI c) ew en hj).imp (fun M2 hh => end236 M2 _ _ hh)⟩⟩
    have w64 : (wr M 76 c (M 76 c + 1)) 64 = M 64 := rfl
    have w72 : (wr M 76 c (M 76 c + 1)) 72 = M 72 := rfl
    have w62 : (wr M 76 c (M 76 c + 1)) 62 = M 62 := rfl
    have w57 : (wr M 76 c (M 76 c + 1)) 57 = M 57 := rfl
    have loop : ∀ j x4, j ≤ ngV V → ((x4 = -4 ∧ ∀ k, j ≤ k → k < ngV V → mayS V s.1 n c k = false) ∨ (∃ t, j ≤ t ∧ t < ngV V ∧ x4 = nI t ∧ mayS V s.1 n c t = true ∧ (∀ k, j ≤ k → k < ngV V → mayS V s.1 n c k = true → hS V t b n ≤ hS V k b n) ∧ ∀ k, j ≤ k → k < t → mayS V s.1 n c k = true → hS V t b n < hS V k b n)) → WW X Q 76 [(0, .ref 57), (1, .int (nI b)), (2, .int (nI n)), (3, .int (nI c)), (4, .int x4), (5, .int (nI j - 1))] [] (wr M 76 c (M 76 c + 1), gj gm, TTc ++ TTm) := by
      intro j
      induction j with
      | zero =>
        intro x4 _ hx
        refine bX10_give_76 C ⟨fun _ => ⟨fun q => ?_, fun q => ?_⟩, fun q => absurd z_m1 q⟩
        · rcases hx with ⟨rfl, hno⟩ | ⟨t, -, ht, rfl, -⟩
          · have : nmS V s.1 b n c = none := bestP_no (fun k hk2 => hno k (by omega) hk2)
            refine self _ ?_ ?_ <;> (unfold whoS; rw [this])
          · exact absurd q (nn0 (by omega))
        · rcases hx with ⟨rfl, -⟩ | ⟨t, -, ht, rfl, hm, hle, hlt⟩
          · exact absurd m4.1 q
          · have hbest : nmS V s.1 b n c = some t := bestP_eq ⟨ht, hm, fun k hk2 => hle k (by omega) hk2, fun k hk2 => hlt k (by omega) hk2⟩
            refine (m_harmOf eV h ht hb hn).to (bX10_give_191 C ((m_harmOf eV h hr hb hn).to (bX10_give_198 C ⟨fun z => ?_, fun z => ?_⟩)))
            · refine self _ ?_ ?_ <;> (unfold whoS; rw [hbest]; dsimp only; rw [if_neg (i_nlt.mpr z)])
            · refine other t ?_ ?_ ht <;> (unfold whoS; rw [hbest]; dsimp only; rw [if_pos (i_nle.mp z)])
      | succ j ih =>
        intro x4 hj hx
        rw [nI_p1]
        have hcj : (nI j).toNatClampNeg = j := ncl (by omega)
        have hcj2 : (nI (14 + j)).toNatClampNeg = 14 + j := ncl (by omega)
        have hcc : (nI c).toNatClampNeg = c := ncl (by omega)
        have next : ∀ x4 x6, ((x4 = -4 ∧ ∀ k, j ≤ k → k < ngV V → mayS V s.1 n c k = false) ∨ (∃ t, j ≤ t ∧ t < ngV V ∧ x4 = nI t ∧ mayS V s.1 n c t = true ∧ (∀ k, j ≤ k → k < ngV V → mayS V s.1 n c k = true → hS V t b n ≤ hS V k b n) ∧ ∀ k, j ≤ k → k < t → mayS V s.1 n c k = true → hS V t b n < hS V k b n)) → WW X Q 172 [(0, .ref 57), (1, .int (nI b)), (2, .int (nI n)), (3, .int (nI c)), (4, .int x4), (5, .int (nI j)), (6, .int x6)] [] (wr M 76 c (M 76 c + 1), gj gm, TTc ++ TTm) := by
          intro x4 x6 hx2
          refine bX10_give_172 C ?_
          rw [nI_m1]
          exact ih x4 (by omega) hx2
        have no : mayS V s.1 n c j = false → WW X Q 134 [(0, .ref 57), (1, .int (nI b)), (2, .int (nI n)), (3, .int (nI c)), (4, .int x4), (5, .int (nI j)), (6, .int 0)] [] (wr M 76 c (M 76 c + 1), gj gm, TTc ++ TTm) := by
          intro hm
          refine bX10_give_134 C ⟨fun _ => next _ _ ?_, fun q => absurd rfl q⟩
          rcases hx with ⟨rfl, hno⟩ | ⟨t, h1, h2, h3, h4, h5, h6⟩
          · refine Or.inl ⟨rfl, fun k h1 h2 => ?_⟩
            rcases Nat.lt_or_ge j k with g | g
            · exact hno k g h2
            · rw [show k = j by omega]; exact hm
          · refine Or.inr ⟨t, by omega, h2, h3, h4, fun k g1 g2 g3 => ?_, fun k g1 g2 g3 => ?_⟩
            · rcases Nat.lt_or_ge j k with g | g
              · exact h5 k g g2 g3
              · rw [show k = j by omega, hm] at g3; cases g3
            · rcases Nat.lt_or_ge j k with g | g
              · exact h6 k g g2 g3
              · rw [show k = j by omega, hm] at g3; cases g3
        have yes : mayS V s.1 n c j = true → WW X Q 134 [(0, .ref 57), (1, .int (nI b)), (2, .int (nI n)), (3, .int (nI c)), (4, .int x4), (5, .int (nI j)), (6, .int 1)] [] (wr M 76 c (M 76 c + 1), gj gm, TTc ++ TTm) := by
          intro hm
          refine bX10_give_134 C ⟨fun q => absurd q (by decide), fun _ => ⟨fun q => next _ _ ?_, fun q => ?_⟩⟩
          · rcases hx with ⟨rfl, hno⟩ | ⟨t, h1, h2, h3, -⟩
            · refine Or.inr ⟨j, by omega, by omega, rfl, hm, fun k g1 g2 g3 => ?_, fun k g1 g2 => by omega⟩
              rcases Nat.lt_or_ge j k with g | g
              · rw [hno k g g2] at g3; cases g3
              · rw [show k = j by omega]; exact i_le_rfl _
            · rw [h3] at q; exact absurd q (nn0 (by omega))
          · rcases hx with ⟨rfl, -⟩ | ⟨t, h1, h2, rfl, h4, h5, h6⟩
            · exact absurd m4.1 q
            · refine (m_harmOf eV h (show j < ngV V by omega) hb hn).to (bX10_give_152 C ((m_harmOf eV h h2 hb hn).to (bX10_give_160 C ⟨fun z => next _ _ ?_, fun z => next _ _ ?_⟩)))
              · refine Or.inr ⟨t, by omega, h2, rfl, h4, fun k g1 g2 g3 => ?_, fun k g1 g2 g3 => ?_⟩
                · rcases Nat.lt_or_ge j k with g | g
                  · exact h5 k g g2 g3
                  · rw [show k = j by omega]; exact i_lt_le z
                · rcases Nat.lt_or_ge j k with g | g
                  · exact h6 k g g2 g3
                  · rw [show k = j by omega]; exact z
              · have z' := i_nlt.mp z
                refine Or.inr ⟨j, by omega, by omega, rfl, hm, fun k g1 g2 g3 => ?_, fun k g1 g2 => by omega⟩
                rcases Nat.lt_or_ge j k with g | g
                · exact i_le_trans z' (h5 k g g2 g3)
                · rw [show k = j by omega]; exact i_le_rfl _
        refine bX10_give_76 C ⟨fun q => absurd q (nn0 (by omega)), fun _ => ?_⟩
        rw [w64, w72, w62, w57, n14, hcj, hcj2, hcc, e72 j (by omega), e1 j (by omega), e3 c hr, el]
        have hmay : mayS V s.1 n c j = (decide (j ≠ c) && wtS V s.1 n j && (decide (V 9 3 = 2) || (decide (V 9 3 = 1) && bt (V 3 c) j))) := rfl
        have hwt : wtS V s.1 n j = (decide (s.1 0 j < 0) && decide (V 1 j ≤ nI n)) := rfl
        refine ⟨fun q => no ?_, fun q => ⟨nin (by omega) (by omega), fun q2 => no ?_, fun q2 => ⟨nin (by omega) (by omega), fun q3 => no ?_, fun q3 => ⟨fun q4 => yes ?_, fun q4 => ⟨fun q5 => no ?_, fun q5 => ⟨nin (by omega) (by omega), fun q6 => no ?_, fun q6 => yes ?_⟩⟩⟩⟩⟩⟩
        · rw [hmay, (neq (by omega) (by omega)).mp q]; simp
        · rw [hmay, hwt, decide_eq_false (i_nlt.mpr q2)]; simp
        · rw [hmay, hwt, decide_eq_false (i_nle.mpr q3)]; simp
        · have qc : j ≠ c := fun z => q (by rw [z])
          rw [hmay, hwt, decide_eq_true (i_nle.mp q2), decide_eq_true (i_nlt.mp q3), decide_eq_true q4, decide_eq_true qc]; rfl
        · rw [hmay, decide_eq_false q4, decide_eq_false q5]; simp
        · rw [bit_1 _ (by omega)] at q6
          have q6' : bt (V 3 c) j = false := by cases hh : bt (V 3 c) j with | false => rfl | true => exact absurd hh q6
          rw [hmay, decide_eq_false q4, q6']; simp
        · rw [bit_1 _ (by omega)] at q6
          have qc : j ≠ c := fun z => q (by rw [z])
          rw [hmay, hwt, decide_eq_true (i_nle.mp q2), decide_eq_true (i_nlt.mp q3), decide_eq_true q5, decide_eq_true qc, q6]
          simp
    exact loop (ngV V) (-4) (Nat.le_refl _) (Or.inl ⟨rfl, fun k h1 h2 => by omega⟩)
  have called : ∀ j x3, j ≤ ngV V → ((x3 = -4 ∧ ∀ p, j ≤ p → p < ngV V → wtS V s.1 n (rwN V p) = false) ∨ (∃ p, j ≤ p ∧ p < ngV V ∧ x3 = nI (rwN V p) ∧ wtS V s.1 n (rwN V p) = true ∧ ∀ q, j ≤ q → q < p → wtS V s.1 n (rwN V q) = false)) → WW X Q 11 [(0, .ref 57), (1, .int (nI b)), (2, .int (nI n)), (3, .int x3), (4, .int (nI j - 1))] [] (M, gj gm, TTc ++ TTm) := by
    intro j
    induction j with
    | zero =>
      intro x3 _ hx
      refine bX10_give_11 C ⟨fun _ => ⟨fun q => ?_, fun q => ?_⟩, fun q => absurd z_m1 q⟩
      · rcases hx with ⟨rfl, -⟩ | ⟨p, -, hp, rfl, hw, hlo⟩
        · exact absurd q m4.2
        · have hr := (rwN_lt h hp).1
          have hcr : (nI (rwN V p)).toNatClampNeg = rwN V p := ncl (by omega)
          rw [hcr, hg]
          exact ⟨nin (by omega) (by omega), nin (by omega) (by omega), named p (fstP_eq hp hw (fun q hq => hlo q (by omega) hq)) hp hr hw⟩
      · rcases hx with ⟨rfl, hno⟩ | ⟨p, -, hp, rfl, -⟩
        · refine hk _ ⟨Fr.rfl', ?_⟩
          rw [giveS_none (fstP_no (fun p hp => hno p (by omega) hp))]
          exact hs
        · exact absurd (nI_pos' (by have := (rwN_lt h hp).1; omega)) q
    | succ j ih =>
      intro x3 hj hx
      rw [nI_p1]
      have hp : j < ngV V := by omega
      have hr := (rwN_lt h hp).1
      have hcj : (nI j).toNatClampNeg = j := ncl (by omega)
      have hcr : (nI (rwN V j)).toNatClampNeg = rwN V j := ncl (by omega)
      have hcr2 : (nI (14 + rwN V j)).toNatClampNeg = 14 + rwN V j := ncl (by omega)
      have no : wtS V s.1 n (rwN V j) = false → WW X Q 11 [(0, .ref 57), (1, .int (nI b)), (2, .int (nI n)), (3, .int x3), (4, .int (nI j - 1))] [] (M, gj gm, TTc ++ TTm) := by
        intro hw
        refine ih x3 (by omega) ?_
        rcases hx with ⟨rfl, hno⟩ | ⟨p, h1, h2, h3, h4, h5⟩
        · refine Or.inl ⟨rfl, fun p g1 g2 => ?_⟩
          rcases Nat.lt_or_ge j p with g | g
          · exact hno p g g2
          · rw [show p = j by omega]; exact hw
        · refine Or.inr ⟨p, by omega, h2, h3, h4, fun q g1 g2 => ?_⟩
          rcases Nat.lt_or_ge j q with g | g
          · exact h5 q g g2
          · rw [show q = j by omega]; exact hw
      refine bX10_give_11 C ⟨fun q => absurd q (nn0 (by omega)), fun _ => ?_⟩
      rw [hcj, e5 j hp, n14, hcr, hcr2, e72 _ hr, e1 _ hr, nI_m1]
      have hwt : wtS V s.1 n (rwN V j) = (decide (s.1 0 (rwN V j) < 0) && decide (V 1 (rwN V j) ≤ nI n)) := rfl
      refine ⟨nin (by omega) (by omega), nin (by omega) (by omega), fun q => no ?_, fun q => ⟨nin (by omega) (by omega), fun q2 => no ?_, fun q2 => ⟨nin (by omega) (by omega), ih _ (by omega) (Or.inr ⟨j, by omega, hp, rfl, ?_, fun q g1 g2 => by omega⟩)⟩⟩⟩
      · rw [hwt, decide_eq_false (i_nlt.mpr q)]; simp
      · rw [hwt, decide_eq_false (i_nle.mpr q2)]; simp
      · rw [hwt, decide_eq_true (i_nle.mp q), decide_eq_true (i_nlt.mp q2)]; rfl
  rw [hg]
  exact called (ngV V) (-4) (Nat.le_refl _) (Or.inl ⟨rfl, fun p h1 h2 => by omega⟩)
theorem m_stay {V : Mem} {rooms : Nat} (e : vM (nI rooms) M = V) (h : VOK V) : WpI mX10_stay [.ref 57, .int (nI rooms)] M (gj gm) (TTc ++ TTm) (fun r M' => Fr 72 76 M M' ∧ SimM M' V (simN V 30).1 ∧ r = allS V) := by
  have h7 := h.1.2.2
  have hob := h.2.2.1.2
  have hb4 := h.2.1.2.2
  have eop : opV V = (nI rooms).toNatClampNeg := by rw [← e]; rfl
  have hrm : nI rooms = nI (opV V) := by rw [← h.2.2.1.1, ← e]; rfl
  rw [hrm] at e ⊢
  have es : ∀ M1 : Mem, Fr 72 76 M M1 → M1 57 7 = nI (ngV V) := fun M1 hf => by rw [hf 57 (by omega), ← h.1.1, ← e]; rfl
  refine WpI.of rfl rfl nL fun X Q C hk => bX10_stay_0 C ?_
  have sum : ∀ k i (M1 : Mem), i + k = ngV V → Fr 72 76 M M1 → SimM M1 V (simN V 30).1 → WW X Q 76 [(0, .ref 57), (1, .int (nI (opV V))), (2, .int (sumI ((simN V 30).1 2) i)), (3, .int (nI i))] [] (M1, gj gm, TTc ++ TTm) := by
    intro k
    induction k with
    | zero =>
      intro i M1 hi hf hs
      refine bX10_stay_76 C ⟨fun _ => hk _ _ ⟨hf, hs, ?_⟩, fun q => absurd ?_ q⟩
      · unfold allS; rw [← hi]; rfl
      · rw [es M1 hf, nle (by omega) (by omega)]; omega
    | succ k ih =>
      intro i M1 hi hf hs
      have hcl : (nI i).toNatClampNeg = i := ncl (by omega)
      refine bX10_stay_76 C ⟨fun q => absurd q ?_, fun _ => ⟨nin (by omega) (by omega), ?_⟩⟩
      · rw [es M1 hf, nle (by omega) (by omega)]; omega
      rw [hcl, (hs i (by omega)).2.1, nI_1]
      exact ih (i + 1) M1 (by omega) hf hs
  have nights : ∀ k n (M1 : Mem), n + k = 30 → Fr 72 76 M M1 → SimM M1 V (simN V n).1 → WW X Q 41 [(0, .ref 57), (1, .int (nI (opV V))), (2, .int (nI n))] [] (M1, gj gm, TTc ++ TTm) := by
    intro k
    induction k with
    | zero =>
      intro n M1 hn hf hs
      have e30 : n = 30 := by omega
      subst e30
      exact bX10_stay_41 C ⟨fun _ => sum (ngV V) 0 M1 (by omega) hf hs, fun q => absurd (i_le_rfl _) q⟩
    | succ k ih =>
      intro n M1 hn hf hs
      refine bX10_stay_41 C ⟨fun q => absurd q ?_, fun _ => ?_⟩
      · show ¬ nI 30 ≤ nI n
        rw [nle (by omega) (by omega)]; omega
      have beds : ∀ k2 b (M2 : Mem), b + k2 = opV V → Fr 72 76 M M2 → SimM M2 V (bedS V n b (simN V n)).1 → WW X Q 49 [(0, .ref 57), (1, .int (nI (opV V))), (2, .int (nI n)), (3, .int (nI b))] [] (M2, gj gm, TTc ++ TTm) := by
        intro k2
        induction k2 with
        | zero =>
          intro b M2 hb hf2 hs2
          refine bX10_stay_49 C ⟨fun _ => ?_, fun q => absurd ?_ q⟩
          · rw [nI_1]
            refine ih (n + 1) M2 (by omega) hf2 ?_
            show SimM M2 V (bedS V n (opV V) (simN V n)).1
            rw [← hb]
            exact hs2
          · rw [nle (by omega) (by omega)]; omega
        | succ k2 ih2 =>
          intro b M2 hb hf2 hs2
          refine bX10_stay_49 C ⟨fun q => absurd q ?_, fun _ => ?_⟩
          · rw [nle (by omega) (by omega)]; omega
          refine (m_give (s := bedS V n b (simN V n)) ((vM_cong hf2).trans e) h hs2 (by omega) (by omega)).imp ?_
          rintro M3 ⟨hf3, hs3⟩
          refine bX10_stay_60 C ?_
          rw [nI_1]
          exact ih2 (b + 1) M3 (by omega) (hf2.trans hf3) hs3
      exact beds (opV V) 0 M1 (by omega) hf hs
  have clear : ∀ k i (M1 : Mem), i + k = ngV V → Fr 72 76 M M1 → (∀ j, j < i → M1 72 j = -4 ∧ M1 74 j = 50 ∧ M1 76 j = 0) → WW X Q 2 [(0, .ref 57), (1, .int (nI (opV V))), (2, .int (nI i))] [] (M1, gj gm, TTc ++ TTm) := by
    intro k
    induction k with
    | zero =>
      intro i M1 hi hf hc
      refine bX10_stay_2 C ⟨fun _ => nights 30 0 M1 (by omega) hf (fun j hj => ?_), fun q => absurd ?_ q⟩
      · obtain ⟨a, b, c⟩ := hc j (by omega)
        exact ⟨a, b, c, fun z => absurd z m4.2⟩
      · rw [es M1 hf, nle (by omega) (by omega)]; omega
    | succ k ih =>
      intro i M1 hi hf hc
      have hcl : (nI i).toNatClampNeg = i := ncl (by omega)
      refine bX10_stay_2 C ⟨fun q => absurd q ?_, fun _ => ⟨nin (by omega) (by omega), nin (by omega) (by omega), nin (by omega) (by omega), ?_⟩⟩
      · rw [es M1 hf, nle (by omega) (by omega)]; omega
      rw [hcl, nI_1]
      refine ih (i + 1) _ (by omega) (((hf.wr (by omega) (by omega)).wr (by omega) (by omega)).wr (by omega) (by omega)) (fun j hj => ?_)
      by_cases q : j = i
      · simp [wr, upd, q]
      · have := hc j (by omega)
        simp [wr, upd, q, this]
  exact clear (ngV V) 0 M (by omega) Fr.rfl' (fun j hj => absurd hj (Nat.not_lt_zero j))
end MG
