/-! a move in the row, and back -/
def shf (f : Nat → Int32) (p q : Nat) : Nat → Int32 := fun i => if i = q then f p else if p ≤ i ∧ i < q then f (i + 1) else if q < i ∧ i ≤ p then f (i - 1) else f i
def mvV (V : Mem) (p q : Nat) : Mem := wrA V 5 (shf (V 5) p q)
theorem shf_back {f : Nat → Int32} {p q : Nat} : shf (shf f p q) q p = f := by
  funext i
  unfold shf
  by_cases e1 : i = p
  · subst e1
    rw [if_pos rfl, if_pos rfl]
  · rw [if_neg e1]
    by_cases e2 : q ≤ i ∧ i < p
    · rw [if_pos e2, if_neg (by omega), if_neg (by omega), if_pos (by omega), Nat.add_sub_cancel]
    · rw [if_neg e2]
      by_cases e3 : p < i ∧ i ≤ q
      · rw [if_pos e3, if_neg (by omega), if_pos (by omega), Nat.sub_add_cancel (by omega)]
      · rw [if_neg e3, if_neg (by omega), if_neg (by omega), if_neg (by omega)]
theorem row_shf {n p q : Nat} {f : Nat → Int32} (h : RowOK n f) (hp : p < n) (hq : q < n) : RowOK n (shf f p q) := by
  have key : ∀ i, ∃ j, (i < n → j < n) ∧ shf f p q i = f j ∧ ((i = q ∧ j = p) ∨ (i ≠ q ∧ p ≤ i ∧ i < q ∧ j = i + 1) ∨ (i ≠ q ∧ q < i ∧ i ≤ p ∧ j + 1 = i) ∨ (i ≠ q ∧ ¬ (p ≤ i ∧ i < q) ∧ ¬ (q < i ∧ i ≤ p) ∧ j = i)) := by
    intro i
    unfold shf
    by_cases e1 : i = q
    · exact ⟨p, fun _ => hp, if_pos e1, Or.inl ⟨e1, rfl⟩⟩
    · rw [if_neg e1]
      by_cases e2 : p ≤ i ∧ i < q
      · exact ⟨i + 1, fun _ => by omega, if_pos e2, Or.inr (Or.inl ⟨e1, e2.1, e2.2, rfl⟩)⟩
      · rw [if_neg e2]
        by_cases e3 : q < i ∧ i ≤ p
        · exact ⟨i - 1, fun _ => by omega, if_pos e3, Or.inr (Or.inr (Or.inl ⟨e1, e3.1, e3.2, by omega⟩))⟩
        · exact ⟨i, fun h => h, if_neg e3, Or.inr (Or.inr (Or.inr ⟨e1, e2, e3, rfl⟩))⟩
  refine ⟨fun i hi => ?_, fun i j hi hj e => ?_⟩
  · obtain ⟨k, h1, h2, -⟩ := key i
    rw [h2]
    exact h.1 k (h1 hi)
  · obtain ⟨a, a1, a2, a3⟩ := key i
    obtain ⟨b, b1, b2, b3⟩ := key j
    rw [a2, b2] at e
    have := h.2 a b (a1 hi) (b1 hj) e
    omega
theorem vok_mv {V : Mem} (h : VOK V) {p q : Nat} (hp : p < ngV V) (hq : q < ngV V) : VOK (mvV V p q) := vok_row h (fun c hc => wrA_ne hc) (by unfold mvV; rw [wrA_eq]; exact row_shf h.row hp hq)
theorem vb_of {V V' : Mem} (h : VB V) (h2 : VOK V') (h9 : V' 9 = V 9) (h1 : V' 1 = V 1) : VB V' := by
  obtain ⟨-, a, b, c, d⟩ := h
  refine ⟨h2, ?_, ?_, ?_, ?_⟩
  · unfold opV nbV; rw [h9]; exact a
  · rw [h9]; exact b
  · rw [h9]; exact c
  · intro i hi
    unfold ngV at hi
    rw [h9] at hi
    rw [h1]
    exact d i hi
theorem vb_mv {V : Mem} (h : VB V) {p q : Nat} (hp : p < ngV V) (hq : q < ngV V) : VB (mvV V p q) := vb_of h (vok_mv h.1 hp hq) rfl rfl
theorem vb_worn {V : Mem} (h : VB V) {i : Nat} {x : Int32} (hx : rgI x (-9) 9) : VB (wr V 4 i x) := vb_of h (vok_worn h.1 hx) rfl rfl
theorem vb_come {V : Mem} (h : VB V) {i : Nat} {x : Int32} (hx : rgI x 0 9) : VB (wr V 1 i x) := by
  have hv := vok_come h.1 (i := i) (x := x) (by unfold rgI at *; omega)
  obtain ⟨-, a, b, c, d⟩ := h
  refine ⟨hv, a, b, c, fun k hk => ?_⟩
  rw [wr_eq]
  by_cases e : k = i
  · rw [e, pk_us]; exact hx
  · rw [pk_un e]; exact d k hk
theorem pl_mv {V : Mem} (h : VOK V) {g q : Nat} (hg : g < ngV V) (hq : q < ngV V) : plS (mvV V (plS V g) q) g = q := by
  have p := plS_spec h hg
  have hv := vok_mv h p.1 hq
  refine ((plS_spec hv (i := g) hg).2.2.2 q hq ?_).symm
  show (wrA V 5 (shf (V 5) (plS V g) q)) 5 q = nI g
  rw [wrA_eq]
  unfold shf
  rw [if_pos rfl, p.2.2.1]
theorem mv_back {V : Mem} (h : VOK V) {g q : Nat} (hg : g < ngV V) (hq : q < ngV V) : mvV (mvV V (plS V g) q) (plS (mvV V (plS V g) q) g) (plS V g) = V := by
  rw [pl_mv h hg hq]
  unfold mvV
  rw [wrA_eq, shf_back]
  funext c
  by_cases e : c = 5
  · subst e; rw [wrA_eq]
  · rw [wrA_ne e, wrA_ne e]
theorem nrm_out {n : Nat} {f : Nat → Int32} {i : Nat} (h : ¬ i < n) : nrm n f i = 0 := if_neg h
theorem nrm_shf {n p q : Nat} {f : Nat → Int32} (hp : p < n) (hq : q < n) : nrm n (shf f p q) = shf (nrm n f) p q := by
  funext i
  by_cases hi : i < n
  · rw [nrm_in hi]
    unfold shf
    by_cases e1 : i = q
    · rw [if_pos e1, if_pos e1, nrm_in hp]
    · rw [if_neg e1, if_neg e1]
      by_cases e2 : p ≤ i ∧ i < q
      · rw [if_pos e2, if_pos e2, nrm_in (by omega)]
      · rw [if_neg e2, if_neg e2]
        by_cases e3 : q < i ∧ i ≤ p
        · rw [if_pos e3, if_pos e3, nrm_in (by omega)]
        · rw [if_neg e3, if_neg e3, nrm_in hi]
  · rw [nrm_out hi]
    unfold shf
    rw [if_neg (by omega), if_neg (by omega), if_neg (by omega), nrm_out hi]
theorem vC_mv {M V : Mem} (e : vC M = V) (h : VOK V) {p q : Nat} (hp : p < ngV V) (hq : q < ngV V) : vC (wrA M 43 (shf (M 43) p q)) = mvV V p q := by
  have hg : (M 37 6).toNatClampNeg = ngV V := by rw [rc_g e h, ncl (by have := h.1.2.2; omega)]
  have e5 : V 5 = nrm (ngV V) (M 43) := by rw [← hg, ← e]; rfl
  funext c
  by_cases ec : c = 5
  · subst ec
    show nrm (M 37 6).toNatClampNeg (shf (M 43) p q) = mvV V p q 5
    unfold mvV
    rw [wrA_eq, hg, nrm_shf hp hq, ← e5]
  · unfold mvV
    rw [wrA_ne ec, ← e]
    rcases c with _ | _ | _ | _ | _ | _ | _ | _ | _ | _ | c <;> first | rfl | exact absurd rfl ec
theorem vM_mv {M V : Mem} {op : Int32} (e : vM op M = V) (h : VOK V) {p q : Nat} (hp : p < ngV V) (hq : q < ngV V) : vM op (wrA M 64 (shf (M 64) p q)) = mvV V p q := by
  have h7 := h.1.2.2
  have hg : (M 57 7).toNatClampNeg = ngV V := by rw [rm_g e h, ncl (by omega)]
  have e5 : V 5 = nrm (ngV V) (M 64) := by rw [← hg, ← e]; rfl
  have far : ∀ i, 7 ≤ i → shf (M 64) p q i = M 64 i := fun i hi => by
    unfold shf
    rw [if_neg (by omega), if_neg (by omega), if_neg (by omega)]
  funext c
  by_cases ec : c = 5
  · subst ec
    show nrm (M 57 7).toNatClampNeg (shf (M 64) p q) = mvV V p q 5
    unfold mvV
    rw [wrA_eq, hg, nrm_shf hp hq, ← e5]
  · unfold mvV
    rw [wrA_ne ec, ← e]
    rcases c with _ | _ | _ | _ | _ | _ | _ | _ | _ | _ | c <;> first | rfl | exact absurd rfl ec | skip
    · exact nrm_cong (fun i hi => far (14 + i) (by omega))
    · exact nrm_cong (fun i hi => far (7 + i) (by omega))
section C59
variable {M V L : Mem} {G2 : Grf} {T2 : List (Nat × Nat)}
theorem c_shift (e : vC M = V) (h : VOK V) {p q : Nat} (hp : p < ngV V) (hq : q < ngV V) : WpV mX5_shift [.ref 37, .int (nI p), .int (nI q)] M (gj G2) (TTc ++ T2) (fun M' => M' = wrA M 43 (shf (M 43) p q)) := by
  have h7 := h.1.2.2
  have hg := rc_g e h
  refine WpV.of rfl rfl nL fun X Q C hk => bX5_shift_0 C ⟨fun z => absurd z (nn0 (by omega)), fun _ => ⟨fun z => absurd z ?_, fun _ => ⟨fun z => absurd z (nn0 (by omega)), fun _ => ⟨fun z => absurd z ?_, fun _ => ⟨nin (by omega) (by omega), ?_⟩⟩⟩⟩⟩
  · rw [hg, nle (by omega) (by omega)]; omega
  · rw [hg, nle (by omega) (by omega)]; omega
  rw [ncl (by omega)]
  -- backward part
  have down : ∀ m j, q + m = j → j ≤ p → WW X Q 58 [(0, .ref 37), (1, .int (nI p)), (2, .int (nI q)), (3, .int (M 43 p)), (4, .int (nI j))] [] (wrA M 43 (fun i => if j < i ∧ i ≤ p then M 43 (i - 1) else M 43 i), gj G2, TTc ++ T2) := by
    intro m
    induction m with
    | zero =>
      intro j hj hjp
      have ej : j = q := by omega
      subst ej
      refine bX5_shift_58 C ⟨fun _ => ⟨nin (by omega) (by omega), hk _ ?_⟩, fun z => absurd (i_le_rfl _) z⟩
      rw [ncl (by omega), wrA_upd]
      congr 1
      funext i
      unfold upd shf
      by_cases e1 : i = j
      · rw [if_pos e1, if_pos e1]
      · rw [if_neg e1, if_neg e1, if_neg (show ¬ (p ≤ i ∧ i < j) by omega)]
    | succ m ih =>
      intro j hj hjp
      refine bX5_shift_58 C ⟨fun z => absurd z ?_, fun _ => ?_⟩
      · rw [nle (by omega) (by omega)]; omega
      obtain ⟨j', rfl⟩ : ∃ j', j = j' + 1 := ⟨j - 1, by omega⟩
      rw [nI_m1, nI_p1, ncl (by omega), ncl (by omega), wrA_eq, wrA_upd]
      have := ih j' (by omega) (by omega)
      refine ⟨nin (by omega) (by omega), nin (by omega) (by omega), ?_⟩
      have ef : upd (fun i => if j' + 1 < i ∧ i ≤ p then M 43 (i - 1) else M 43 i) (j' + 1) (if j' + 1 < j' ∧ j' ≤ p then M 43 (j' - 1) else M 43 j') = fun i => if j' < i ∧ i ≤ p then M 43 (i - 1) else M 43 i := by
        funext i
        unfold upd
        by_cases e1 : i = j' + 1
        · rw [if_pos e1, if_neg (by omega), if_pos (by omega), e1, Nat.add_sub_cancel]
        · rw [if_neg e1]
          show (if j' + 1 < i ∧ i ≤ p then M 43 (i - 1) else M 43 i) = _
          by_cases e2 : j' + 1 < i ∧ i ≤ p
          · rw [if_pos e2, if_pos (by omega)]
          · rw [if_neg e2, if_neg (by omega)]
      rw [ef]
      exact this
  -- forward part
  have up : ∀ m j, j + m = q → p ≤ j → WW X Q 27 [(0, .ref 37), (1, .int (nI p)), (2, .int (nI q)), (3, .int (M 43 p)), (4, .int (nI j))] [] (wrA M 43 (fun i => if p ≤ i ∧ i < j then M 43 (i + 1) else M 43 i), gj G2, TTc ++ T2) := by
    intro m
    induction m with
    | zero =>
      intro j hj hjp
      have ej : j = q := by omega
      subst ej
      refine bX5_shift_27 C ⟨fun _ => bX5_shift_58 C ⟨fun _ => ⟨nin (by omega) (by omega), hk _ ?_⟩, fun z => absurd ?_ z⟩, fun z => absurd (i_le_rfl _) z⟩
      · rw [ncl (by omega), wrA_upd]
        congr 1
        funext i
        unfold upd shf
        by_cases e1 : i = j
        · rw [if_pos e1, if_pos e1]
        · rw [if_neg e1, if_neg e1, if_neg (show ¬ (j < i ∧ i ≤ p) by omega)]
      · rw [nle (by omega) (by omega)]; exact hjp
    | succ m ih =>
      intro j hj hjp
      refine bX5_shift_27 C ⟨fun z => absurd z ?_, fun _ => ?_⟩
      · rw [nle (by omega) (by omega)]; omega
      rw [nI_1, ncl (by omega), ncl (by omega), wrA_eq, wrA_upd]
      refine ⟨nin (by omega) (by omega), nin (by omega) (by omega), ?_⟩
      have ef : upd (fun i => if p ≤ i ∧ i < j then M 43 (i + 1) else M 43 i) j (if p ≤ j + 1 ∧ j + 1 < j then M 43 (j + 1 + 1) else M 43 (j + 1)) = fun i => if p ≤ i ∧ i < j + 1 then M 43 (i + 1) else M 43 i := by
        funext i
        unfold upd
        by_cases e1 : i = j
        · rw [if_pos e1, if_neg (by omega), if_pos (by omega), e1]
        · rw [if_neg e1]
          show (if p ≤ i ∧ i < j then M 43 (i + 1) else M 43 i) = _
          by_cases e2 : p ≤ i ∧ i < j
          · rw [if_pos e2, if_pos (by omega)]
          · rw [if_neg e2, if_neg (by omega)]
      rw [ef]
      exact ih (j + 1) (by omega) (by omega)
  by_cases hpq : p ≤ q
  · have := up (q - p) p (by omega) (by omega)
    rw [show (fun i => if p ≤ i ∧ i < p then M 43 (i + 1) else M 43 i) = M 43 by funext i; rw [if_neg (by omega)], wrA_self] at this
    exact this
  · have := down (p - q) p (by omega) (by omega)
    rw [show (fun i => if p < i ∧ i ≤ p then M 43 (i - 1) else M 43 i) = M 43 by funext i; rw [if_neg (by omega)], wrA_self] at this
    refine bX5_shift_27 C ⟨fun _ => this, fun z => absurd ?_ z⟩
    rw [nle (by omega) (by omega)]; omega
theorem c_move (e : vC M = V) (h : VB V) (el : lgC M = L) (hl : LOK L) (i c : Int32) : WpI mX9_move [.ref 0, .int i, .int c] M (gj G2) (TTc ++ T2) (fun r M' => (¬ (okI (ngV V) i ∧ okI (ngV V) c) ∧ r = -1 ∧ M' = M) ∨ ∃ k q, k < ngV V ∧ i = nI k ∧ q < ngV V ∧ c = nI q ∧ r = nI (plS V k) ∧ NtC (wrA M 43 (shf (M 43) (plS V k) q)) M' (pushL L 0 (nI k) (nI (plS V k)))) := by
  have h7 := h.1.1.2.2
  refine WpI.of rfl rfl nL fun X Q C hk => bX9_move_0 C (g_c (by omega) (rc_g e h.1) (fun q => hk _ _ (Or.inl ⟨fun z => no_lo (by omega) q z.1, rfl, rfl⟩)) (fun q => hk _ _ (Or.inl ⟨fun z => no_hi (by omega) q z.1, rfl, rfl⟩)) fun k hk7 ek => g_c (by omega) (rc_g e h.1) (fun q => hk _ _ (Or.inl ⟨fun z => no_lo (by omega) q z.2, rfl, rfl⟩)) (fun q => hk _ _ (Or.inl ⟨fun z => no_hi (by omega) q z.2, rfl, rfl⟩)) fun q hq7 eq => ?_)
  subst ek
  subst eq
  have hp := (plS_spec h.1 hk7).1
  refine (c_placeOf e h.1 hk7).to (bX9_move_41 C ((c_shift e h.1 hp hq7).imp ?_))
  rintro M1 rfl
  refine bX9_move_54 C ((c_noteChange (M := wrA M 43 (shf (M 43) (plS V k) q)) el hl _ _ _).imp ?_)
  intro M' hN
  exact bX9_move_61 C (hk _ _ (Or.inr ⟨k, q, hk7, rfl, hq7, rfl, rfl, hN⟩))
end C59
section M59
variable {M V : Mem} {n : Nat}
theorem m_move (e : vM (M 57 1) M = V) (h : VB V) (hn : M 57 35 = nI n) (h8 : n ≤ 8) (i c : Int32) : WpI mX10_move [.ref 57, .int i, .int c] M (gj gm) (TTc ++ TTm) (fun r M' => (¬ (okI (ngV V) i ∧ okI (ngV V) c) ∧ r = -1 ∧ M' = M) ∨ ∃ k q, k < ngV V ∧ i = nI k ∧ q < ngV V ∧ c = nI q ∧ r = nI (plS V k) ∧ ∃ M1, NtM n M M1 ∧ M' = wrA M1 64 (shf (M1 64) (plS V k) q)) := by
  have h7 := h.1.1.2
  refine WpI.of rfl rfl nL fun X Q C hk => bX10_move_0 C (g_m h7.1 (by omega) (by rw [rm_g e h.1]) (fun q => hk _ _ (Or.inl ⟨fun z => no_lo (by omega) q z.1, rfl, rfl⟩)) (fun q => hk _ _ (Or.inl ⟨fun z => no_hi (by omega) q z.1, rfl, rfl⟩)) fun k hk7 ek => g_m h7.1 (by omega) (by rw [rm_g e h.1]) (fun q => hk _ _ (Or.inl ⟨fun z => no_lo (by omega) q z.2, rfl, rfl⟩)) (fun q => hk _ _ (Or.inl ⟨fun z => no_hi (by omega) q z.2, rfl, rfl⟩)) fun q hq7 eq => ?_)
  subst ek
  subst eq
  have pk := plS_spec h.1 hk7
  have hp := pk.1
  refine (m_note hn h8).imp ?_
  intro M1 hN
  have e1 : vM (M 57 1) M1 = V := by
    rw [← e]
    unfold vM
    rw [hN.2.1, hN.1 58 (by omega) (by omega), hN.1 59 (by omega) (by omega), hN.1 60 (by omega) (by omega), hN.1 61 (by omega) (by omega), hN.1 62 (by omega) (by omega), hN.1 63 (by omega) (by omega), hN.1 64 (by omega) (by omega)]
    rfl
  have ek : M1 64 (plS V k) = nI k := by rw [rm_5 e1 hp, pk.2.2.1]
  refine bX10_move_30 C ((m_placeOf e1 h.1 hk7).to (bX10_move_35 C ?_))
  replace hk : RetOK X Q (some (.int (nI (plS V k)))) (wrA M1 64 (shf (M1 64) (plS V k) q), gj gm, TTc ++ TTm) := hk _ _ (Or.inr ⟨k, q, hk7, rfl, hq7, rfl, rfl, M1, hN, rfl⟩)
  generalize plS V k = p at *
  have down : ∀ m j, q + m = j → j ≤ p → WW X Q 70 [(0, .ref 57), (1, .int (nI k)), (2, .int (nI q)), (3, .int (nI p)), (4, .int (nI j))] [] (wrA M1 64 (fun i => if j < i ∧ i ≤ p then M1 64 (i - 1) else M1 64 i), gj gm, TTc ++ TTm) := by
    intro m
    induction m with
    | zero =>
      intro j hj hjp
      have ej : j = q := by omega
      subst ej
      refine bX10_move_70 C ⟨fun _ => ⟨nin (by omega) (by omega), ?_⟩, fun z => absurd (i_le_rfl _) z⟩
      rw [ncl (by omega), wrA_upd, ← ek]
      have ef : upd (fun i => if j < i ∧ i ≤ p then M1 64 (i - 1) else M1 64 i) j (M1 64 p) = shf (M1 64) p j := by
        funext i
        unfold upd shf
        by_cases e1 : i = j
        · rw [if_pos e1, if_pos e1]
        · rw [if_neg e1, if_neg e1, if_neg (show ¬ (p ≤ i ∧ i < j) by omega)]
      rw [ef]
      exact hk
    | succ m ih =>
      intro j hj hjp
      refine bX10_move_70 C ⟨fun z => absurd z ?_, fun _ => ?_⟩
      · rw [nle (by omega) (by omega)]; omega
      obtain ⟨j', rfl⟩ : ∃ j', j = j' + 1 := ⟨j - 1, by omega⟩
      rw [nI_m1, nI_p1, ncl (by omega), ncl (by omega), wrA_eq, wrA_upd]
      have := ih j' (by omega) (by omega)
      refine ⟨nin (by omega) (by omega), nin (by omega) (by omega), ?_⟩
      have ef : upd (fun i => if j' + 1 < i ∧ i ≤ p then M1 64 (i - 1) else M1 64 i) (j' + 1) (if j' + 1 < j' ∧ j' ≤ p then M1 64 (j' - 1) else M1 64 j') = fun i => if j' < i ∧ i ≤ p then M1 64 (i - 1) else M1 64 i := by
        funext i
        unfold upd
        by_cases e1 : i = j' + 1
        · rw [if_pos e1, if_neg (by omega), if_pos (by omega), e1, Nat.add_sub_cancel]
        · rw [if_neg e1]
          show (if j' + 1 < i ∧ i ≤ p then M1 64 (i - 1) else M1 64 i) = _
          by_cases e2 : j' + 1 < i ∧ i ≤ p
          · rw [if_pos e2, if_pos (by omega)]
          · rw [if_neg e2, if_neg (by omega)]
      rw [ef]
      exact this
  have up : ∀ m j, j + m = q → p ≤ j → WW X Q 39 [(0, .ref 57), (1, .int (nI k)), (2, .int (nI q)), (3, .int (nI p)), (4, .int (nI j))] [] (wrA M1 64 (fun i => if p ≤ i ∧ i < j then M1 64 (i + 1) else M1 64 i), gj gm, TTc ++ TTm) := by
    intro m
    induction m with
    | zero =>
      intro j hj hjp
      have ej : j = q := by omega
      subst ej
      refine bX10_move_39 C ⟨fun _ => bX10_move_70 C ⟨fun _ => ⟨nin (by omega) (by omega), ?_⟩, fun z => absurd ?_ z⟩, fun z => absurd (i_le_rfl _) z⟩
      · rw [ncl (by omega), wrA_upd, ← ek]
        have ef : upd (fun i => if p ≤ i ∧ i < j then M1 64 (i + 1) else M1 64 i) j (M1 64 p) = shf (M1 64) p j := by
          funext i
          unfold upd shf
          by_cases e1 : i = j
          · rw [if_pos e1, if_pos e1]
          · rw [if_neg e1, if_neg e1, if_neg (show ¬ (j < i ∧ i ≤ p) by omega)]
        rw [ef]
        exact hk
      · rw [nle (by omega) (by omega)]; exact hjp
    | succ m ih =>
      intro j hj hjp
      refine bX10_move_39 C ⟨fun z => absurd z ?_, fun _ => ?_⟩
      · rw [nle (by omega) (by omega)]; omega
      rw [nI_1, ncl (by omega), ncl (by omega), wrA_eq, wrA_upd]
      refine ⟨nin (by omega) (by omega), nin (by omega) (by omega), ?_⟩
      have ef : upd (fun i => if p ≤ i ∧ i < j then M1 64 (i + 1) else M1 64 i) j (if p ≤ j + 1 ∧ j + 1 < j then M1 64 (j + 1 + 1) else M1 64 (j + 1)) = fun i => if p ≤ i ∧ i < j + 1 then M1 64 (i + 1) else M1 64 i := by
        funext i
        unfold upd
        by_cases e1 : i = j
        · rw [if_pos e1, if_neg (by omega), if_pos (by omega), e1]
        · rw [if_neg e1]
          show (if p ≤ i ∧ i < j then M1 64 (i + 1) else M1 64 i) = _
          by_cases e2 : p ≤ i ∧ i < j
          · rw [if_pos e2, if_pos (by omega)]
          · rw [if_neg e2, if_neg (by omega)]
      rw [ef]
      exact ih (j + 1) (by omega) (by omega)
  by_cases hpq : p ≤ q
  · have := up (q - p) p (by omega) (by omega)
    rw [show (fun i => if p ≤ i ∧ i < p then M1 64 (i + 1) else M1 64 i) = M1 64 by funext i; rw [if_neg (by omega)], wrA_self] at this
    exact this
  · have := down (p - q) p (by omega) (by omega)
    rw [show (fun i => if p < i ∧ i ≤ p then M1 64 (i - 1) else M1 64 i) = M1 64 by funext i; rw [if_neg (by omega)], wrA_self] at this
    refine bX10_move_39 C ⟨fun _ => this, fun z => absurd ?_ z⟩
    rw [nle (by omega) (by omega)]; omega
end M59
