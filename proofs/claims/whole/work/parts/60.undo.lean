/-! undo: the chain of what was -/
def tbV (V : Mem) (w : Int32) (g : Nat) (o : Int32) : Mem := if w = 0 then mvV V (plS V g) o.toNatClampNeg else if w = 1 then wr V 4 g o else wr V 1 g o
def vS (V : Mem) (f : Nat → Int32) : Mem := fun c => if c = 1 then nrm (ngV V) (fun i => f (14 + i)) else if c = 4 then nrm (ngV V) (fun i => f (7 + i)) else if c = 5 then nrm (ngV V) f else V c
def SN (V : Mem) (n : Nat) (A : Mem) (k : Nat) : Mem := if k < n then vS V (A k) else V
def CH (V : Mem) (n : Nat) (L A : Mem) : Prop := ∀ k, k < n → VB (SN V n A k) ∧ ∃ g, g < ngV V ∧ L 1 k = nI g ∧ (L 0 k = 0 → okI (ngV V) (L 2 k)) ∧ tbV (SN V n A (k + 1)) (L 0 k) g (L 2 k) = SN V n A k
theorem vS_cong {V V' : Mem} {f f' : Nat → Int32} (h7 : ngV V ≤ 7) (hc : ∀ c, c ≠ 1 → c ≠ 4 → c ≠ 5 → V' c = V c) (hf : ∀ j, j < 21 → f' j = f j) : vS V' f' = vS V f := by
  have hg : ngV V' = ngV V := by unfold ngV; rw [hc 9 (by omega) (by omega) (by omega)]
  funext c
  unfold vS
  rw [hg]
  split
  · exact nrm_cong (fun i hi => hf _ (by omega))
  · split
    · exact nrm_cong (fun i hi => hf _ (by omega))
    · split
      · exact nrm_cong (fun i hi => hf _ (by omega))
      · exact hc c (by assumption) (by assumption) (by assumption)
theorem vS_vM {M V : Mem} {op : Int32} (e : vM op M = V) : vS V (M 64) = V := by
  have hg : ngV V = (M 57 7).toNatClampNeg := by rw [← e]; rfl
  funext c
  unfold vS
  split
  · rename_i q; rw [q, hg, ← e]; rfl
  · split
    · rename_i q; rw [q, hg, ← e]; rfl
    · split
      · rename_i q; rw [q, hg, ← e]; rfl
      · rfl
theorem CH.push {V V' L A : Mem} {s : Nat → Int32} {w o : Int32} {g : Nat} (h7 : ngV V ≤ 7) (h : CH V (nlL L) L A) (h8 : nlL L ≤ 8) (hv : VB V) (hs : vS V s = V) (hc : ∀ c, c ≠ 1 → c ≠ 4 → c ≠ 5 → V' c = V c) (hg : g < ngV V) (ho : w = 0 → okI (ngV V) o) (ht : tbV V' w g o = V) : CH V' (nlL L - dL (nlL L) + 1) (pushL L w (nI g) o) (pushA (nlL L) A s) := by
  have eg : ngV V' = ngV V := by unfold ngV; rw [hc 9 (by omega) (by omega) (by omega)]
  generalize hn : nlL L = n at *
  have dn : dL n ≤ n := by unfold dL; split <;> omega
  have sn : ∀ k, k + dL n ≤ n → SN V' (n - dL n + 1) (pushA n A s) k = SN V n A (k + dL n) := by
    intro k hk
    unfold SN
    rw [if_pos (by omega)]
    by_cases a : k + dL n < n
    · rw [if_pos a]
      refine vS_cong h7 hc (fun j hj => ?_)
      unfold pushA
      rw [if_pos hj, if_pos a]
    · rw [if_neg a]
      refine (vS_cong (f := s) h7 hc (fun j hj => ?_)).trans hs
      unfold pushA
      rw [if_pos hj, if_neg a, if_pos (by omega)]
  have p0 : ∀ k, pushL L w (nI g) o 0 k = pshF n (L 0) w k := fun k => by rw [← hn]; rfl
  have p1 : ∀ k, pushL L w (nI g) o 1 k = pshF n (L 1) (nI g) k := fun k => by rw [← hn]; rfl
  have p2 : ∀ k, pushL L w (nI g) o 2 k = pshF n (L 2) o k := fun k => by rw [← hn]; rfl
  intro k hk
  rw [p0, p1, p2, eg]
  unfold pshF
  by_cases a : k + dL n < n
  · rw [if_pos a, if_pos a, if_pos a, sn k (by omega), sn (k + 1) (by omega), show k + 1 + dL n = k + dL n + 1 by omega]
    exact h (k + dL n) a
  · have a2 : k + dL n = n := by omega
    rw [if_neg a, if_pos a2, if_neg a, if_pos a2, if_neg a, if_pos a2, sn k (by omega), a2]
    have e1 : SN V n A n = V := if_neg (by omega)
    have e2 : SN V' (n - dL n + 1) (pushA n A s) (k + 1) = V' := if_neg (by omega)
    rw [e1, e2]
    exact ⟨hv, g, hg, rfl, ho, ht⟩
def popL (L : Mem) : Mem := fun c => match c with
  | 0 => nrm (nlL L - 1) (L 0)
  | 1 => nrm (nlL L - 1) (L 1)
  | 2 => nrm (nlL L - 1) (L 2)
  | _ => fun _ => nI (nlL L - 1)
theorem vS_c {V : Mem} {f : Nat → Int32} {c : Nat} (h1 : c ≠ 1) (h4 : c ≠ 4) (h5 : c ≠ 5) : vS V f c = V c := by unfold vS; rw [if_neg h1, if_neg h4, if_neg h5]
theorem CH.pop {V L A A' : Mem} {n : Nat} (h7 : ngV V ≤ 7) (h : CH V (n + 1) L A) (hn : nlL L = n + 1) (ha : ∀ k j, k < n → j < 21 → A' k j = A k j) : CH (vS V (A n)) n (popL L) A' := by
  have eg : ngV (vS V (A n)) = ngV V := by unfold ngV; rw [vS_c (by omega) (by omega) (by omega)]
  have sn : ∀ k, k ≤ n → SN (vS V (A n)) n A' k = SN V (n + 1) A k := by
    intro k hk
    unfold SN
    rw [if_pos (show k < n + 1 by omega)]
    by_cases a : k < n
    · rw [if_pos a]
      exact vS_cong h7 (fun c a b d => vS_c a b d) (fun j hj => ha k j a hj)
    · rw [if_neg a, show k = n by omega]
  intro k hk
  obtain ⟨b1, g, b2, b3, b4, b5⟩ := h k (by omega)
  have q0 : popL L 0 k = L 0 k := by show nrm (nlL L - 1) (L 0) k = _; rw [hn]; exact nrm_in hk
  have q1 : popL L 1 k = L 1 k := by show nrm (nlL L - 1) (L 1) k = _; rw [hn]; exact nrm_in hk
  have q2 : popL L 2 k = L 2 k := by show nrm (nlL L - 1) (L 2) k = _; rw [hn]; exact nrm_in hk
  rw [q0, q1, q2, eg, sn k (by omega), sn (k + 1) (by omega)]
  exact ⟨b1, g, b2, b3, b4, b5⟩
section C60
variable {M V L : Mem} {G2 : Grf} {T2 : List (Nat × Nat)}
theorem lg_pop (el : lgC M = L) (hl : LOK L) {n : Nat} (hn : nlL L = n + 1) {M' : Mem} (h10 : M' 10 = upd (M 10) 3 (nI n)) (h1 : M' 11 = M 11) (h2 : M' 12 = M 12) (h3 : M' 13 = M 13) : lgC M' = popL L := by
  have h8 := hl.2
  have hn2 : (M 10 3).toNatClampNeg = n + 1 := by rw [← hn, ← el]; rfl
  have en : (M' 10 3).toNatClampNeg = n := by rw [h10, pk_us, ncl (by omega)]
  have sub : ∀ f : Nat → Int32, nrm n f = nrm n (nrm (n + 1) f) := fun f => nrm_cong (fun i hi => (nrm_in (by omega)).symm)
  have e0 : L 0 = nrm (n + 1) (M 11) := by rw [← hn2, ← el]; rfl
  have e1 : L 1 = nrm (n + 1) (M 12) := by rw [← hn2, ← el]; rfl
  have e2 : L 2 = nrm (n + 1) (M 13) := by rw [← hn2, ← el]; rfl
  funext c
  rcases c with _ | _ | _ | c
  · show nrm (M' 10 3).toNatClampNeg (M' 11) = nrm (nlL L - 1) (L 0)
    rw [en, h1, hn, e0, sub]; rfl
  · show nrm (M' 10 3).toNatClampNeg (M' 12) = nrm (nlL L - 1) (L 1)
    rw [en, h2, hn, e1, sub]; rfl
  · show nrm (M' 10 3).toNatClampNeg (M' 13) = nrm (nlL L - 1) (L 2)
    rw [en, h3, hn, e2, sub]; rfl
  · funext j
    show M' 10 3 = nI (nlL L - 1)
    rw [h10, pk_us, hn]
    rfl
theorem c_takeBack (e : vC M = V) (h : VOK V) (el : lgC M = L) (hl : LOK L) {n g : Nat} (hn : nlL L = n + 1) (hg : g < ngV V) (hg2 : L 1 n = nI g) (ho : L 0 n = 0 → okI (ngV V) (L 2 n)) : WpV mX1_takeBack [.ref 10, .ref 37] M (gj G2) (TTc ++ T2) (fun M' => vC M' = tbV V (L 0 n) g (L 2 n) ∧ lgC M' = popL L ∧ ∀ c, c ≠ 10 → c ≠ 39 → c ≠ 42 → c ≠ 43 → M' c = M c) := by
  have h7 := h.1.2.2
  have h8 := hl.2
  have em : M 10 3 = nI (n + 1) := by rw [← hn, ← hl.1, ← el]; rfl
  have hn2 : (M 10 3).toNatClampNeg = n + 1 := by rw [← hn, ← el]; rfl
  have hgn : (M 37 6).toNatClampNeg = ngV V := by rw [rc_g e h, ncl (by omega)]
  have l0 : M 11 n = L 0 n := by rw [← el]; exact (nrm_in (by rw [hn2]; omega)).symm
  have l1 : M 12 n = nI g := by rw [← hg2, ← el]; exact (nrm_in (by rw [hn2]; omega)).symm
  have l2 : M 13 n = L 2 n := by rw [← el]; exact (nrm_in (by rw [hn2]; omega)).symm
  have vn : vp_in (nI n) 8 := nin (by omega) (by omega)
  have vg : vp_in (nI g) 7 := nin (by omega) (by omega)
  refine WpV.of rfl rfl nL fun X Q C hk => bX1_takeBack_0 C ?_
  rw [em, nI_p1, ncl (by omega), l0, l1, l2, ncl (by omega)]
  have ev : vC (wr M 10 3 (nI n)) = V := e
  refine ⟨fun _ => ⟨vn, fun q => absurd q (nn0 (by omega)), fun _ => ⟨fun q => absurd q ?_, fun _ => ⟨vn, fun q => ?_, fun q => ⟨fun q2 => ⟨vn, vg, hk _ ⟨?_, ?_, ?_⟩⟩, fun q2 => ⟨vn, vg, hk _ ⟨?_, ?_, ?_⟩⟩⟩⟩⟩⟩, fun q => absurd ?_ q⟩
  · rw [rc_g e h, nle (by omega) (by omega)]; omega
  · obtain ⟨t, ht, et⟩ := ho q
    have p := plS_spec h hg
    refine (c_placeOf ev h hg).to (bX1_takeBack_78 C ?_)
    have e13 : (wr M 10 3 (nI n)) 13 ((wr M 10 3 (nI n)) 10 3).toNatClampNeg = nI t := by
      rw [wr_eq, pk_us, ncl (by omega), wr_ne (by omega), l2, et]
    rw [e13]
    refine ⟨by rw [wr_eq, pk_us]; exact vn, (c_shift ev h p.1 ht).imp ?_⟩
    rintro M' rfl
    refine bX1_takeBack_90 C (hk _ ⟨?_, lg_pop el hl hn rfl rfl rfl rfl, fun c c1 c2 c3 c4 => by rw [wrA_ne c4, wr_ne c1]⟩)
    rw [vC_mv ev h p.1 ht]
    unfold tbV
    rw [if_pos q, et, ncl (by omega)]
  · have : vC (wr (wr M 10 3 (nI n)) 42 g (L 2 n)) = wr (vC (wr M 10 3 (nI n))) 4 g (L 2 n) := vC_worn (by show g < (M 37 6).toNatClampNeg; rw [hgn]; exact hg)
    rw [this, ev]
    unfold tbV
    rw [if_neg q, if_pos q2]
  · exact lg_pop el hl hn rfl rfl rfl rfl
  · intro c c1 c2 c3 c4
    rw [wr_ne c3, wr_ne c1]
  · have : vC (wr (wr M 10 3 (nI n)) 39 g (L 2 n)) = wr (vC (wr M 10 3 (nI n))) 1 g (L 2 n) := vC_come (by show g < (M 37 6).toNatClampNeg; rw [hgn]; exact hg)
    rw [this, ev]
    unfold tbV
    rw [if_neg q, if_neg q2]
  · exact lg_pop el hl hn rfl rfl rfl rfl
  · intro c c1 c2 c3 c4
    rw [wr_ne c2, wr_ne c1]
  · exact (nlt (a := 0) (by omega) (by omega)).mpr (by omega)
theorem c_undo {A : Mem} (e : vC M = V) (h : VB V) (el : lgC M = L) (hl : LOK L) (ch : CH V (nlL L) L A) : WpI mX9_undo [.ref 0] M (gj G2) (TTc ++ T2) (fun r M' => (nlL L = 0 ∧ r = -2 ∧ M' = M) ∨ ∃ n, nlL L = n + 1 ∧ r = nI n ∧ vC M' = vS V (A n) ∧ lgC M' = popL L ∧ (∀ c, c ≠ 10 → c ≠ 29 → c ≠ 39 → c ≠ 42 → c ≠ 43 → M' c = M c) ∧ M' 29 = upd (M 29) 3 0) := by
  have h8 := hl.2
  have em : M 10 3 = nI (nlL L) := by rw [← hl.1, ← el]; rfl
  refine WpI.of rfl rfl nL fun X Q C hk => bX9_undo_0 C ⟨fun q => ?_, fun q => hk _ _ (Or.inl ⟨?_, rfl, rfl⟩)⟩
  · obtain ⟨n, hn⟩ : ∃ n, nlL L = n + 1 := ⟨nlL L - 1, by
      have : nlL L ≠ 0 := fun z => q (by rw [em, z]; rfl)
      omega⟩
    rw [hn] at ch
    obtain ⟨-, g, hg, hg2, ho, ht⟩ := ch n (by omega)
    have e1 : SN V (n + 1) A (n + 1) = V := if_neg (by omega)
    have e2 : SN V (n + 1) A n = vS V (A n) := if_pos (by omega)
    rw [e1, e2] at ht
    refine (c_takeBack e h.1 el hl hn hg hg2 ho).imp ?_
    rintro M1 ⟨v1, l1, f1⟩
    refine bX9_undo_27 C (hk _ _ (Or.inr ⟨n, hn, ?_, v1.trans ht, l1, fun c c1 c2 c3 c4 c5 => by rw [wr_ne c2]; exact f1 c c1 c3 c4 c5, ?_⟩))
    · have t := congrFun (congrFun l1 3) 0
      replace t : M1 10 3 = nI (nlL L - 1) := t
      rw [t, hn]
      rfl
    · rw [wr_eq, f1 29 (by omega) (by omega) (by omega) (by omega)]
  · rw [em] at q
    exact (neq (b := 0) (by omega) (by omega)).mp q
end C60
section M60
variable {M V : Mem} {n : Nat}
theorem m_undo (e : vM (M 57 1) M = V) (h : VB V) (hn : M 57 35 = nI n) (h8 : n ≤ 8) : WpI mX10_undo [.ref 57] M (gj gm) (TTc ++ TTm) (fun r M' => (n = 0 ∧ r = -2 ∧ M' = M) ∨ ∃ k, n = k + 1 ∧ r = nI k ∧ vM (M' 57 1) M' = vS V (spA M k) ∧ (∀ c, c ≠ 57 → c ≠ 64 → M' c = M c) ∧ M' 57 = upd (M 57) 35 (nI k)) := by
  have h7 := h.1.1.2.2
  refine WpI.of rfl rfl nL fun X Q C hk => bX10_undo_0 C ⟨fun q => ?_, fun q => hk _ _ (Or.inl ⟨?_, rfl, rfl⟩)⟩
  · obtain ⟨k, rfl⟩ : ∃ k, n = k + 1 := ⟨n - 1, by
      have : n ≠ 0 := fun z => q (by rw [hn, z]; rfl)
      omega⟩
    rw [hn, nI_p1]
    have loop : ∀ m j (M1 : Mem), j + m = 21 → (∀ c, c ≠ 64 → M1 c = (wr M 57 35 (nI k)) c) → (∀ i, i < j → M1 64 i = M 77 (21 * k + i)) → WW X Q 22 [(0, .ref 57), (1, .int (nI j))] [] (M1, gj gm, TTc ++ TTm) := by
      intro m
      induction m with
      | zero =>
        intro j M1 hj h1 h2
        have ej : j = 21 := by omega
        subst ej
        have e35 : M1 57 35 = nI k := by rw [h1 57 (by omega), wr_eq, pk_us]
        have e57 : M1 57 = upd (M 57) 35 (nI k) := by rw [h1 57 (by omega), wr_eq]
        refine bX10_undo_22 C ⟨fun _ => hk _ _ (Or.inr ⟨k, rfl, e35, ?_, fun c c1 c2 => by rw [h1 c c2, wr_ne c1], e57⟩), fun z => absurd (by decide) z⟩
        have s64 : ∀ i, i < 21 → M1 64 i = spA M k i := fun i hi => by
          rw [h2 i hi]
          unfold spA
          rw [hn, ncl (by omega), if_pos ⟨by omega, hi⟩]
        have ob : M1 57 1 = M 57 1 := by rw [e57]; rfl
        have og : (M1 57 7).toNatClampNeg = ngV V := by rw [e57]; show (M 57 7).toNatClampNeg = _; rw [rm_g e h.1, ncl (by omega)]
        rw [ob]
        funext c
        unfold vS
        by_cases c1 : c = 1
        · rw [if_pos c1, c1]
          show nrm (M1 57 7).toNatClampNeg (fun i => M1 64 (14 + i)) = _
          rw [og]
          exact nrm_cong (fun i hi => s64 _ (by omega))
        · rw [if_neg c1]
          by_cases c4 : c = 4
          · rw [if_pos c4, c4]
            show nrm (M1 57 7).toNatClampNeg (fun i => M1 64 (7 + i)) = _
            rw [og]
            exact nrm_cong (fun i hi => s64 _ (by omega))
          · rw [if_neg c4]
            by_cases c5 : c = 5
            · rw [if_pos c5, c5]
              show nrm (M1 57 7).toNatClampNeg (M1 64) = _
              rw [og]
              exact nrm_cong (fun i hi => s64 _ (by omega))
            · rw [if_neg c5, ← e]
              unfold vM
              rw [e57, h1 58 (by omega), h1 59 (by omega), h1 60 (by omega), h1 61 (by omega), h1 62 (by omega), h1 63 (by omega)]
              rcases c with _ | _ | _ | _ | _ | _ | _ | _ | _ | _ | c <;> first | rfl | exact absurd rfl c1 | exact absurd rfl c4 | exact absurd rfl c5
      | succ m ih =>
        intro j M1 hj h1 h2
        have e35 : M1 57 35 = nI k := by rw [h1 57 (by omega), wr_eq, pk_us]
        refine bX10_undo_22 C ⟨fun z => absurd z ?_, fun _ => ?_⟩
        · show ¬ nI 21 ≤ nI j
          rw [nle (by omega) (by omega)]; omega
        rw [e35, show (21 : Int32) = nI 21 from rfl, pk_mul, nI_add, nI_1, ncl (by omega), ncl (by omega)]
        refine ⟨nin (by omega) (by omega), nin (by omega) (by omega), ih (j + 1) _ (by omega) (fun c hc => by rw [wr_ne hc, h1 c hc]) (fun i hi => ?_)⟩
        rw [wr_eq]
        by_cases e2 : i = j
        · subst e2; rw [pk_us, h1 77 (by omega), wr_ne (by omega)]
        · rw [pk_un e2, h2 i (by omega)]
    exact loop 21 0 _ (by omega) (fun _ _ => rfl) (fun i hi => absurd hi (by omega))
  · rw [hn] at q
    exact (neq (b := 0) (by omega) (by omega)).mp q
end M60
