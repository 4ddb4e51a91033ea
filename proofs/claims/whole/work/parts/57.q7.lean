/-! questions: pairs -/
def RowOK (n : Nat) (f : Nat → Int32) : Prop := (∀ i, i < n → ∃ k, k < n ∧ f i = nI k) ∧ ∀ i j, i < n → j < n → f i = f j → i = j
theorem VOK.row {V : Mem} (h : VOK V) : RowOK (ngV V) (V 5) := ⟨fun i hi => (h.2.2.2.2.1 i hi).2.2.2.2, h.2.2.2.2.2.1⟩
theorem vok_row {V V' : Mem} (h : VOK V) (hc : ∀ c, c ≠ 5 → V' c = V c) (hr : RowOK (ngV V) (V' 5)) : VOK V' := by
  have e : V' = wrA V 5 (V' 5) := by
    funext c
    unfold wrA
    split
    · rename_i q; rw [q]
    · rename_i q; exact hc c q
  rw [e]
  generalize V' 5 = f at hr
  obtain ⟨h1, h2, h3, h4, h5, h6, h7, h8, h9, h10, h11, h12⟩ := h
  refine ⟨h1, h2, h3, h4, fun i hi => ?_, hr.2, h7, h8, h9, h10, h11, h12⟩
  obtain ⟨a, b, c, d, -⟩ := h5 i hi
  exact ⟨a, b, c, d, hr.1 i hi⟩
theorem RowOK.swap {n p q : Nat} {f : Nat → Int32} (h : RowOK n f) (hp : p < n) (hq : q < n) : RowOK n (upd (upd f p (f q)) q (f p)) := by
  have key : ∀ i, ∃ j, (i < n → j < n) ∧ upd (upd f p (f q)) q (f p) i = f j ∧ j = (if i = q then p else if i = p then q else i) := by
    intro i
    unfold upd
    by_cases e1 : i = q
    · exact ⟨p, fun _ => hp, by simp [e1], by simp [e1]⟩
    · by_cases e2 : i = p
      · exact ⟨q, fun _ => hq, by rw [if_neg e1, if_pos e2], by rw [if_neg e1, if_pos e2]⟩
      · exact ⟨i, fun h => h, by simp [e1, e2], by simp [e1, e2]⟩
  refine ⟨fun i hi => ?_, fun i j hi hj e => ?_⟩
  · obtain ⟨k, h1, h2, -⟩ := key i
    rw [h2]
    exact h.1 k (h1 hi)
  · obtain ⟨a, a1, a2, a3⟩ := key i
    obtain ⟨b, b1, b2, b3⟩ := key j
    rw [a2, b2] at e
    have := h.2 a b (a1 hi) (b1 hj) e
    rw [a3, b3] at this
    split at this <;> split at this <;> (try split at this) <;> (try split at this) <;> omega
def swV (V : Mem) (i j : Nat) : Mem := wr (wr V 5 (plS V i) (nI j)) 5 (plS V j) (nI i)
theorem swV_5 {V : Mem} (h : VOK V) {i j : Nat} (hi : i < ngV V) (hj : j < ngV V) : swV V i j 5 = upd (upd (V 5) (plS V i) (V 5 (plS V j))) (plS V j) (V 5 (plS V i)) := by
  rw [(plS_spec h hi).2.2.1, (plS_spec h hj).2.2.1]
  unfold swV
  rw [wr_eq, wr_eq]
theorem vok_sw {V : Mem} (h : VOK V) {i j : Nat} (hi : i < ngV V) (hj : j < ngV V) : VOK (swV V i j) := by
  refine vok_row h (fun c hc => by unfold swV; rw [wr_ne hc, wr_ne hc]) ?_
  rw [swV_5 h hi hj]
  exact h.row.swap (plS_spec h hi).1 (plS_spec h hj).1
theorem pl_ne {V : Mem} (h : VOK V) {i j : Nat} (hi : i < ngV V) (hj : j < ngV V) (hne : i ≠ j) : plS V i ≠ plS V j := by
  intro e
  have a := (plS_spec h hi).2.1
  have b := (plS_spec h hj).2.1
  rw [e] at a
  exact hne (a.symm.trans b)
theorem sw_pl {V : Mem} (h : VOK V) {i j : Nat} (hi : i < ngV V) (hj : j < ngV V) (hne : i ≠ j) : plS (swV V i j) i = plS V j ∧ plS (swV V i j) j = plS V i := by
  have hv := vok_sw h hi hj
  have e5 : swV V i j 5 = upd (upd (V 5) (plS V i) (nI j)) (plS V j) (nI i) := by unfold swV; rw [wr_eq, wr_eq]
  have hp := pl_ne h hi hj hne
  refine ⟨((plS_spec hv (i := i) hi).2.2.2 (plS V j) (plS_spec h hj).1 ?_).symm, ((plS_spec hv (i := j) hj).2.2.2 (plS V i) (plS_spec h hi).1 ?_).symm⟩
  · rw [e5, pk_us]
  · rw [e5, pk_un hp, pk_us]
def prB (V : Mem) (i j : Nat) : Bool := lies (simN V 30).1 i && lies (simN V 30).1 j && (lies (simN (swV V i j) 30).1 i && lies (simN (swV V i j) 30).1 j && decide ((simN (swV V i j) 30).1 2 i < (simN V 30).1 2 i) && decide ((simN (swV V i j) 30).1 2 j < (simN V 30).1 2 j))
def pst (s : Nat × Int32) (b : Bool) (i j : Nat) : Nat × Int32 := if b then (s.1 + 1, if s.2 = -4 then 10 * nI i + nI j else s.2) else s
def prJ (V : Mem) (i : Nat) : Nat → Nat × Int32 → Nat × Int32
  | 0, s => s
  | m + 1, s => pst (prJ V i m s) (prB V i (i + 1 + m)) i (i + 1 + m)
def prI (V : Mem) : Nat → Nat × Int32
  | 0 => (0, -4)
  | i + 1 => prJ V i (ngV V - (i + 1)) (prI V i)
def pairsQ (V : Mem) (w : Int32) : Int32 := gd 2 w fun w => if w = 0 then nI (prI V (ngV V)).1 else (prI V (ngV V)).2
def PI (b : Nat) (s : Nat × Int32) : Prop := s.1 ≤ b ∧ ((s.1 = 0 ∧ s.2 = -4) ∨ (0 < s.1 ∧ s.2 ≠ -4))
theorem PI.step {b i j : Nat} {s : Nat × Int32} {t : Bool} (h : PI b s) (hi : i < 10) (hj : j < 10) : PI (b + 1) (pst s t i j) := by
  unfold pst
  have ne : (10 * nI i + nI j : Int32) ≠ -4 := by
    rw [show (10 : Int32) = nI 10 from rfl, pk_mul, nI_add]
    intro z
    exact absurd (show nI (10 * i + j) < 0 by rw [z]; decide) (nn0 (by omega))
  split
  · refine ⟨by have := h.1; show s.1 + 1 ≤ b + 1; omega, Or.inr ⟨Nat.succ_pos _, ?_⟩⟩
    show (if s.2 = -4 then _ else s.2) ≠ -4
    split
    · exact ne
    · assumption
  · exact ⟨by have := h.1; omega, h.2⟩
theorem PI.j {V : Mem} {b i : Nat} {s : Nat × Int32} (h : PI b s) (h7 : ngV V ≤ 7) : ∀ m, i + 1 + m ≤ ngV V → PI (b + m) (prJ V i m s)
  | 0, _ => h
  | m + 1, hm => (PI.j h h7 m (by omega)).step (by omega) (by omega)
theorem PI.i {V : Mem} (h7 : ngV V ≤ 7) : ∀ i, i ≤ ngV V → PI (7 * i) (prI V i)
  | 0, _ => ⟨Nat.le_refl _, Or.inl ⟨rfl, rfl⟩⟩
  | i + 1, hi => by
    have := (PI.i h7 i (by omega)).j (V := V) (i := i) h7 (ngV V - (i + 1)) (by omega)
    exact ⟨by have := this.1; show (prJ V i (ngV V - (i + 1)) (prI V i)).1 ≤ _; omega, this.2⟩
section Q7C
variable {M V : Mem} {G2 : Grf} {T2 : List (Nat × Nat)}
theorem c_swapPlaces (e : vC M = V) (h : VOK V) {i j : Nat} (hi : i < ngV V) (hj : j < ngV V) : WpV mX5_swapPlaces [.ref 37, .int (nI i), .int (nI j)] M (gj G2) (TTc ++ T2) (fun M' => M' = wr (wr M 43 (plS V i) (nI j)) 43 (plS V j) (nI i)) := by
  have h7 := h.1.2.2
  have p1 := (plS_spec h hi).1
  have p2 := (plS_spec h hj).1
  refine WpV.of rfl rfl nL fun X Q C hk => bX5_swapPlaces_0 C ((c_placeOf e h hi).to (bX5_swapPlaces_5 C ((c_placeOf e h hj).to (bX5_swapPlaces_11 C ⟨nin (by omega) (by omega), nin (by omega) (by omega), hk _ ?_⟩))))
  rw [ncl (by omega), ncl (by omega)]
theorem vC_sw (e : vC M = V) (h : VOK V) {i j : Nat} (hi : i < ngV V) (hj : j < ngV V) : vC (wr (wr M 43 (plS V i) (nI j)) 43 (plS V j) (nI i)) = swV V i j := by
  have h7 := h.1.2.2
  have hg : (M 37 6).toNatClampNeg = ngV V := by rw [rc_g e h, ncl (by omega)]
  rw [vC_row (by show _ < (M 37 6).toNatClampNeg; rw [hg]; exact (plS_spec h hj).1), vC_row (by rw [hg]; exact (plS_spec h hi).1), e]
  rfl
/-- exchanged twice is as it was -/
theorem sw_back {A B : Mem} {c p q : Nat} {x y : Int32} (hp : p ≠ q) (h1 : B c = upd (upd (A c) p y) q x) (hx : A c p = x) (hy : A c q = y) (ho : ∀ k, k ≠ c → B k = A k) : wr (wr B c q y) c p x = A := by
  funext k
  by_cases e : k = c
  · subst e
    rw [wr_eq, wr_eq, h1]
    funext m
    by_cases e1 : m = p
    · subst e1; rw [pk_us, hx]
    · rw [pk_un e1]
      by_cases e2 : m = q
      · subst e2; rw [pk_us, hy]
      · rw [pk_un e2, pk_un e2, pk_un e1]
  · rw [wr_ne e, wr_ne e, ho k e]
theorem c_wouldSwap (e : vC M = V) (h : VOK V) {i j : Nat} (hi : i < ngV V) (hj : j < ngV V) (hne : i ≠ j) (li : lies (simN V 30).1 i = true) (lj : lies (simN V 30).1 j = true) (hh : ∀ k, k < ngV V → 0 ≤ (simN V 30).1 0 k → M 32 k = (simN V 30).1 2 k) : WpI mX9_wouldSwap [.ref 0, .int (nI i), .int (nI j)] M (gj G2) (TTc ++ T2) (fun r M' => r = (if prB V i j = true then 1 else 0) ∧ Fr 4 9 M M') := by
  have h7 := h.1.2.2
  have hv := vok_sw h hi hj
  have e1 := vC_sw e h hi hj
  obtain ⟨sp1, sp2⟩ := sw_pl h hi hj hne
  refine WpI.of rfl rfl nL fun X Q C hk => bX9_wouldSwap_0 C ((c_swapPlaces e h hi hj).imp ?_)
  rintro M1 rfl
  refine bX9_wouldSwap_12 C ((c_passAll e1 hv).imp ?_)
  rintro M2 ⟨hf2, hs⟩
  refine bX9_wouldSwap_25 C ((c_swapPlaces ((vC_cong hf2).trans e1) hv (i := i) (j := j) hi hj).imp ?_)
  rintro M3 rfl
  have hf : Fr 4 9 M (wr (wr M2 43 (plS (swV V i j) i) (nI j)) 43 (plS (swV V i j) j) (nI i)) := by
    intro c hc
    rw [sp1, sp2]
    by_cases ec : c = 43
    · subst ec
      have pi := (plS_spec h hi)
      have pj := (plS_spec h hj)
      have := sw_back (A := M) (B := fun k => if k = 43 then M2 43 else M k) (c := 43) (p := plS V i) (q := plS V j) (x := nI i) (y := nI j) (pl_ne h hi hj hne) (by
        show M2 43 = _
        rw [hf2 43 (by omega), wr_eq, wr_eq]) (by rw [rc_5 e pi.1, pi.2.2.1]) (by rw [rc_5 e pj.1, pj.2.2.1]) (fun k hk => if_neg hk)
      have t := congrFun this 43
      rw [wr_eq, wr_eq] at t
      rw [wr_eq, wr_eq]
      exact t
    · rw [wr_ne ec, wr_ne ec, hf2 c hc, wr_ne ec, wr_ne ec]
  have e32 : (wr (wr M2 43 (plS (swV V i j) i) (nI j)) 43 (plS (swV V i j) j) (nI i)) 32 = M 32 := hf 32 (by omega)
  have hs' : SimC (wr (wr M2 43 (plS (swV V i j) i) (nI j)) 43 (plS (swV V i j) j) (nI i)) (swV V i j) (simN (swV V i j) 30) := hs
  refine bX9_wouldSwap_37 C ?_
  have hio : i < ngV (swV V i j) := hi
  have hjo : j < ngV (swV V i j) := hj
  have zi : 0 ≤ (simN V 30).1 0 i := by simpa [lies] using li
  have zj : 0 ≤ (simN V 30).1 0 j := by simpa [lies] using lj
  have i7 : vp_in (nI i) 7 := nin (by omega) (by omega)
  have j7 : vp_in (nI j) 7 := nin (by omega) (by omega)
  rw [hs'.1, hasL (V := swV V i j) h7 hio, hasL (V := swV V i j) h7 hjo, ncl (by omega), ncl (by omega), e32, hh i hi zi, hh j hj zj]
  refine ⟨fun q => hk _ _ ⟨?_, hf⟩, fun q => ⟨fun q2 => hk _ _ ⟨?_, hf⟩, fun q2 => ⟨i7, i7, ?_⟩⟩⟩
  · rw [if_neg (by simp [prB, li, lj, lies, q])]
  · rw [if_neg (by simp [prB, li, lj, lies, q2])]
  rw [(hs'.2.2.1 i hio q).2.2.1, (hs'.2.2.1 j hjo q2).2.2.1]
  refine ⟨fun q3 => hk _ _ ⟨?_, hf⟩, fun q3 => ⟨j7, j7, fun q4 => hk _ _ ⟨?_, hf⟩, fun q4 => hk _ _ ⟨?_, hf⟩⟩⟩
  · rw [if_neg (by simp [prB, i_nlt.mpr q3])]
  · rw [if_neg (by simp [prB, i_nlt.mpr q4])]
  · rw [if_pos (by simp [prB, lies, zi, zj, q, q2, i_nle.mp q3, i_nle.mp q4])]
theorem c_noteHarmsNow (e : vC M = V) (h : VOK V) : WpI mX9_noteHarmsNow [.ref 0] M (gj G2) (TTc ++ T2) (fun r M' => r = bO (ngV V) (lies (simN V 30).1) ∧ FC M M' ∧ ∀ k, k < ngV V → 0 ≤ (simN V 30).1 0 k → M' 32 k = (simN V 30).1 2 k) := by
  have h7 := h.1.2.2
  refine WpI.of rfl rfl nL fun X Q C hk => bX9_noteHarmsNow_0 C ((c_passAll e h).imp ?_)
  rintro M1 ⟨hf, hs⟩
  refine bX9_noteHarmsNow_13 C (hk _ _ ⟨hs.1, fun c hc => ?_, fun k hk2 hl => ?_⟩)
  · have : c ≠ 32 := fun z => hc (by unfold sC; omega)
    show (if c = 32 then _ else M1 c) = M c
    rw [if_neg this]
    exact hf.fc c hc
  · show va_cpy (M1 7) (M1 32) 0 0 7 k = _
    rw [sb_cpy0 (by omega), (hs.2.2.1 k hk2 hl).2.2.1]
theorem c_pairs (e : vC M = V) (h : VB V) (w : Int32) : WpI mX9_pairs [.ref 0, .int w] M (gj G2) (TTc ++ T2) (fun r M' => r = pairsQ V w ∧ FC M M') := by
  have h7 := h.1.1.2.2
  refine WpI.of rfl rfl nL fun X Q C hk => bX9_pairs_0 C (g_m (n := 2) (by omega) (by omega) rfl (fun q => hk _ _ ⟨gd_lo q, FC.r⟩) (fun q => hk _ _ ⟨gd_hi q, FC.r⟩) fun w hw ew => ?_)
  subst ew
  unfold pairsQ at hk
  rw [gd_in hw (by omega)] at hk
  refine (c_noteHarmsNow e h.1).imp ?_
  rintro r M0 ⟨rfl, hf0, hh0⟩
  have e0 := (vC_fc hf0).trans e
  refine bX9_pairs_15 C ?_
  have outer : ∀ k i (M1 : Mem), i + k = ngV V → Fr 4 9 M0 M1 → WW X Q 25 [(0, .ref 0), (1, .int (nI w)), (2, .int (bO (ngV V) (lies (simN V 30).1))), (3, .int (nI (prI V i).1)), (4, .int (prI V i).2), (5, .int (nI i))] [] (M1, gj G2, TTc ++ T2) := by
    intro k
    induction k with
    | zero =>
      intro i M1 hi hf
      have e3 : i = ngV V := by omega
      subst e3
      refine bX9_pairs_25 C ⟨fun _ => ⟨fun q => hk _ _ ⟨?_, hf0.t hf.fc⟩, fun q => hk _ _ ⟨?_, hf0.t hf.fc⟩⟩, fun q => absurd ?_ q⟩
      · rw [if_neg (fun z => q (by rw [z]; rfl))]
      · rw [if_pos ((neq (b := 0) (by omega) (by omega)).mp q)]
      · rw [rc_g ((vC_cong hf).trans e0) h.1]; exact i_le_rfl _
    | succ k ih =>
      intro i M1 hi hf
      refine bX9_pairs_25 C ⟨fun q => absurd q ?_, fun _ => ?_⟩
      · rw [rc_g ((vC_cong hf).trans e0) h.1, nle (by omega) (by omega)]; omega
      have inner : ∀ k m (M2 : Mem), i + 1 + m + k = ngV V → Fr 4 9 M0 M2 → WW X Q 46 [(0, .ref 0), (1, .int (nI w)), (2, .int (bO (ngV V) (lies (simN V 30).1))), (3, .int (nI (prJ V i m (prI V i)).1)), (4, .int (prJ V i m (prI V i)).2), (5, .int (nI i)), (6, .int (nI (i + 1 + m)))] [] (M2, gj G2, TTc ++ T2) := by
        intro k
        induction k with
        | zero =>
          intro m M2 hm hf2
          refine bX9_pairs_46 C ⟨fun _ => ?_, fun q => absurd ?_ q⟩
          · rw [nI_1]
            have := ih (i + 1) M2 (by omega) hf2
            unfold prI at this
            rw [show ngV V - (i + 1) = m by omega] at this
            exact this
          · rw [rc_g ((vC_cong hf2).trans e0) h.1, show i + 1 + m = ngV V by omega]; exact i_le_rfl _
        | succ k ih2 =>
          intro m M2 hm hf2
          have e2 := (vC_cong hf2).trans e0
          have st : ∀ M3, Fr 4 9 M0 M3 → _ := fun M3 hf3 => ih2 (m + 1) M3 (by omega) hf3
          have su : prJ V i (m + 1) (prI V i) = pst (prJ V i m (prI V i)) (prB V i (i + 1 + m)) i (i + 1 + m) := rfl
          have no : prB V i (i + 1 + m) = false → ∀ M3, Fr 4 9 M0 M3 → WW X Q 46 [(0, .ref 0), (1, .int (nI w)), (2, .int (bO (ngV V) (lies (simN V 30).1))), (3, .int (nI (prJ V i m (prI V i)).1)), (4, .int (prJ V i m (prI V i)).2), (5, .int (nI i)), (6, .int (nI (i + 1 + m + 1)))] [] (M3, gj G2, TTc ++ T2) := by
            intro z M3 hf3
            have := st M3 hf3
            rw [su, z] at this
            exact this
          refine bX9_pairs_46 C ⟨fun q => absurd q ?_, fun _ => ?_⟩
          · rw [rc_g e2 h.1, nle (by omega) (by omega)]; omega
          rw [nI_1, hasL h7 (by omega), hasL h7 (by omega)]
          refine ⟨fun q => no (by simp [prB, lies, q]) M2 hf2, fun q => ⟨fun q2 => no (by simp [prB, lies, q2]) M2 hf2, fun q2 => (c_wouldSwap e2 h.1 (i := i) (j := i + 1 + m) (by omega) (by omega) (by omega) (by simp [lies, q]) (by simp [lies, q2]) (fun k hk2 hl => by rw [hf2 32 (by omega)]; exact hh0 k hk2 hl)).imp ?_⟩⟩
          rintro r M3 ⟨rfl, hf3⟩
          refine bX9_pairs_87 C ?_
          rw [nI_1, nI_1]
          by_cases z : prB V i (i + 1 + m) = true
          · rw [if_pos z]
            have := st M3 (hf2.trans hf3)
            rw [su, z] at this
            unfold pst at this
            rw [if_pos rfl] at this
            refine ⟨fun q => absurd q (by decide), fun _ => ⟨fun q3 => ?_, fun q3 => ?_⟩⟩
            · rw [if_neg q3] at this
              exact this
            · rw [if_pos q3] at this
              exact this
          · rw [if_neg z]
            exact ⟨fun _ => no (by simpa using z) M3 (hf2.trans hf3), fun q => absurd rfl q⟩
      rw [nI_1]
      exact inner (ngV V - (i + 1)) 0 M1 (by omega) hf
  exact outer (ngV V) 0 M0 (by omega) Fr.rfl'
end Q7C
section Q7M
variable {M V : Mem}
theorem m_exchange {a b : Nat} (ha : a < 21) (hb : b < 21) : WpV mX10_exchange [.ref 57, .int (nI a), .int (nI b)] M (gj gm) (TTc ++ TTm) (fun M' => M' = wr (wr M 64 a (M 64 b)) 64 b (M 64 a)) := by
  have va : vp_in (nI a) 21 := nin ha (by omega)
  have vb : vp_in (nI b) 21 := nin hb (by omega)
  refine WpV.of rfl rfl nL fun X Q C hk => bX10_exchange_0 C ⟨va, vb, va, vb, hk _ ?_⟩
  rw [ncl (by omega), ncl (by omega)]
theorem vM_sw {op : Int32} (e : vM op M = V) (h : VOK V) {i j : Nat} (hi : i < ngV V) (hj : j < ngV V) : vM op (wr (wr M 64 (plS V i) (nI j)) 64 (plS V j) (nI i)) = swV V i j := by
  have h7 := h.1.2.2
  have hg : (M 57 7).toNatClampNeg = ngV V := by rw [rm_g e h, ncl (by omega)]
  rw [vM_row (by show _ < (M 57 7).toNatClampNeg; rw [hg]; exact (plS_spec h hj).1) (by show (M 57 7).toNatClampNeg ≤ 7; omega), vM_row (by rw [hg]; exact (plS_spec h hi).1) (by omega), e]
  rfl
theorem m_pairs (e : vM (M 57 1) M = V) (h : VB V) (w : Int32) : WpI mX10_pairs [.ref 57, .int w] M (gj gm) (TTc ++ TTm) (fun r M' => r = pairsQ V w ∧ FM M M') := by
  have h7 := h.1.1.2.2
  refine WpI.of rfl rfl nL fun X Q C hk => bX10_pairs_0 C (g_m (n := 2) (by omega) (by omega) rfl (fun q => hk _ _ ⟨gd_lo q, FM.r⟩) (fun q => hk _ _ ⟨gd_hi q, FM.r⟩) fun w hw ew => ?_)
  subst ew
  unfold pairsQ at hk
  rw [gd_in hw (by omega)] at hk
  refine (m_stayA e h.1).imp ?_
  rintro r MS ⟨hfS, hsS, rfl⟩
  refine bX10_pairs_20 C ?_
  -- the double loop, from any state that keeps the harms of now in cell 78
  have main : ∀ M0 : Mem, FM M M0 → (∀ k, k < ngV V → M0 78 k = if 0 ≤ (simN V 30).1 0 k then (simN V 30).1 2 k else -4) → WW X Q 71 [(0, .ref 57), (1, .int (nI w)), (2, .int 0), (3, .int (-4)), (4, .int 0)] [] (M0, gj gm, TTc ++ TTm) := by
    intro M0 hf0 hh0
    have e0 := (vM_fm hf0).trans e
    have hb0 : M0 57 1 = M 57 1 := by rw [hf0 57 (by unfold sM; omega)]
    have outer : ∀ k i (M1 : Mem), i + k = ngV V → Fr 72 76 M0 M1 → WW X Q 71 [(0, .ref 57), (1, .int (nI w)), (2, .int (nI (prI V i).1)), (3, .int (prI V i).2), (4, .int (nI i))] [] (M1, gj gm, TTc ++ TTm) := by
      intro k
      induction k with
      | zero =>
        intro i M1 hi hf
        have e3 : i = ngV V := by omega
        subst e3
        refine bX10_pairs_71 C ⟨fun _ => ⟨fun q => hk _ _ ⟨?_, hf0.t hf.fm⟩, fun q => hk _ _ ⟨?_, hf0.t hf.fm⟩⟩, fun q => absurd ?_ q⟩
        · rw [if_neg (fun z => q (by rw [z]; rfl))]
        · rw [if_pos ((neq (b := 0) (by omega) (by omega)).mp q)]
        · rw [rm_g ((vM_cong hf).trans e0) h.1]; exact i_le_rfl _
      | succ k ih =>
        intro i M1 hi hf
        refine bX10_pairs_71 C ⟨fun q => absurd q ?_, fun _ => ?_⟩
        · rw [rm_g ((vM_cong hf).trans e0) h.1, nle (by omega) (by omega)]; omega
        have inner : ∀ k m (M2 : Mem), i + 1 + m + k = ngV V → Fr 72 76 M0 M2 → WW X Q 86 [(0, .ref 57), (1, .int (nI w)), (2, .int (nI (prJ V i m (prI V i)).1)), (3, .int (prJ V i m (prI V i)).2), (4, .int (nI i)), (5, .int (nI (i + 1 + m)))] [] (M2, gj gm, TTc ++ TTm) := by
          intro k
          induction k with
          | zero =>
            intro m M2 hm hf2
            refine bX10_pairs_86 C ⟨fun _ => ?_, fun q => absurd ?_ q⟩
            · rw [nI_1]
              have := ih (i + 1) M2 (by omega) hf2
              unfold prI at this
              rw [show ngV V - (i + 1) = m by omega] at this
              exact this
            · rw [rm_g ((vM_cong hf2).trans e0) h.1, show i + 1 + m = ngV V by omega]; exact i_le_rfl _
          | succ k ih2 =>
            intro m M2 hm hf2
            have e2 := (vM_cong hf2).trans e0
            have hi' : i < ngV V := by omega
            have hj' : i + 1 + m < ngV V := by omega
            have ps : PI 100 (prJ V i m (prI V i)) := by
              have a := (PI.i h7 i (by omega)).j (V := V) (i := i) h7 m (by omega)
              exact ⟨by have := a.1; omega, a.2⟩
            have su : prJ V i (m + 1) (prI V i) = pst (prJ V i m (prI V i)) (prB V i (i + 1 + m)) i (i + 1 + m) := rfl
            have st : ∀ M3, Fr 72 76 M0 M3 → _ := fun M3 hf3 => ih2 (m + 1) M3 (by omega) hf3
            rw [su] at st
            refine bX10_pairs_86 C ⟨fun q => absurd q ?_, fun _ => ?_⟩
            · rw [rm_g e2 h.1, nle (by omega) (by omega)]; omega
            refine (m_placeOf e2 h.1 hi').to (bX10_pairs_101 C ((m_placeOf e2 h.1 hj').to (bX10_pairs_109 C ?_)))
            have pi := plS_spec h.1 hi'
            have pj := plS_spec h.1 hj'
            generalize hJ : i + 1 + m = j at *
            have hne := pl_ne h.1 hi' hj' (by omega)
            refine (m_exchange (by omega) (by omega)).imp ?_
            rintro M3 rfl
            rw [rm_5 e2 pi.1, rm_5 e2 pj.1, pi.2.2.1, pj.2.2.1]
            have e3 := vM_sw e2 h.1 hi' hj'
            have hv := vok_sw h.1 hi' hj'
            have eb : (wr (wr M2 64 (plS V i) (nI j)) 64 (plS V j) (nI i)) 57 1 = M 57 1 := by
              show M2 57 1 = _
              rw [hf2 57 (by omega), hb0]
            refine bX10_pairs_119 C ((m_stayA (by rw [eb]; exact e3) hv).imp ?_)
            rintro r M4 ⟨hf4, hs4, rfl⟩
            refine bX10_pairs_127 C ((m_exchange (by omega) (by omega)).imp ?_)
            rintro M5 rfl
            have v64 : M4 64 = upd (upd (M2 64) (plS V i) (nI j)) (plS V j) (nI i) := by rw [hf4 64 (by omega), wr_eq, wr_eq]
            have va : M4 64 (plS V i) = nI j := by rw [v64, pk_un hne, pk_us]
            have vb : M4 64 (plS V j) = nI i := by rw [v64, pk_us]
            rw [va, vb]
            have hf5 : Fr 72 76 M0 (wr (wr M4 64 (plS V i) (nI i)) 64 (plS V j) (nI j)) := by
              intro c hc
              by_cases ec : c = 64
              · subst ec
                rw [wr_eq, wr_eq, v64, ← hf2 64 (by omega)]
                funext x
                by_cases x1 : x = plS V j
                · subst x1; rw [pk_us, rm_5 e2 pj.1, pj.2.2.1]
                · rw [pk_un x1]
                  by_cases x2 : x = plS V i
                  · subst x2; rw [pk_us, rm_5 e2 pi.1, pi.2.2.1]
                  · rw [pk_un x2, pk_un x1, pk_un x2]
              · rw [wr_ne ec, wr_ne ec, hf4 c hc, wr_ne ec, wr_ne ec, hf2 c hc]
            have s5 : SimM (wr (wr M4 64 (plS V i) (nI i)) 64 (plS V j) (nI j)) (swV V i j) (simN (swV V i j) 30).1 := hs4
            have st5 := st _ hf5
            have si := SI.sim hv (n := 30) (by omega)
            obtain ⟨a0, a2, -⟩ := s5 i hi'
            obtain ⟨b0, b2, -⟩ := s5 j hj'
            have ri := rg_0 (si.rg (i := i) hi')
            have rj := rg_0 (si.rg (i := j) hj')
            have h5i : (wr (wr M4 64 (plS V i) (nI i)) 64 (plS V j) (nI j)) 78 i = if 0 ≤ (simN V 30).1 0 i then (simN V 30).1 2 i else -4 := by rw [hf5 78 (by omega)]; exact hh0 i hi'
            have h5j : (wr (wr M4 64 (plS V i) (nI i)) 64 (plS V j) (nI j)) 78 j = if 0 ≤ (simN V 30).1 0 j then (simN V 30).1 2 j else -4 := by rw [hf5 78 (by omega)]; exact hh0 j hj'
            have no : prB V i j = false → WW X Q 86 [(0, .ref 57), (1, .int (nI w)), (2, .int (nI (prJ V i m (prI V i)).1 + 0)), (3, .int (prJ V i m (prI V i)).2), (4, .int (nI i)), (5, .int (nI (j + 1)))] [] (wr (wr M4 64 (plS V i) (nI i)) 64 (plS V j) (nI j), gj gm, TTc ++ TTm) := by
              intro z
              have t := st5
              rw [z, show i + 1 + (m + 1) = j + 1 by omega] at t
              rw [show nI (prJ V i m (prI V i)).1 + 0 = nI (prJ V i m (prI V i)).1 by grind]
              exact t
            have i7 : vp_in (nI i) 7 := nin (by omega) (by omega)
            have j7 : vp_in (nI j) 7 := nin (by omega) (by omega)
            have m4' : ∀ x : Int32, 0 ≤ x → ¬ x < -4 := by
              intro x hx
              rw [fa_le] at hx
              rw [fa_lt]
              have z0 : (0 : Int32).toInt = 0 := by decide
              have z4 : (-4 : Int32).toInt = -4 := by decide
              omega
            refine bX10_pairs_136 C ?_
            rw [nI_1, nI_1, ncl (by omega), ncl (by omega), a0, a2, b0, b2, h5i, h5j]
            refine ⟨i7, fun q => no (by simp [prB, lies, i_nle.mpr q]), fun q => ⟨j7, fun q2 => no (by simp [prB, lies, i_nle.mpr q2]), fun q2 => ⟨i7, i7, fun q3 => no ?_, fun q3 => ⟨j7, j7, fun q4 => no ?_, fun q4 => ?_⟩⟩⟩⟩
            · by_cases y : 0 ≤ (simN V 30).1 0 i
              · rw [if_pos y] at q3
                simp [prB, i_nlt.mpr q3]
              · simp [prB, lies, y]
            · by_cases y : 0 ≤ (simN V 30).1 0 j
              · rw [if_pos y] at q4
                simp [prB, i_nlt.mpr q4]
              · simp [prB, lies, y]
            · have yi : 0 ≤ (simN V 30).1 0 i := by
                apply Classical.byContradiction
                intro y
                rw [if_neg y] at q3
                exact m4' _ ri (i_nle.mp q3)
              have yj : 0 ≤ (simN V 30).1 0 j := by
                apply Classical.byContradiction
                intro y
                rw [if_neg y] at q4
                exact m4' _ rj (i_nle.mp q4)
              rw [if_pos yi] at q3
              rw [if_pos yj] at q4
              have z : prB V i j = true := by simp [prB, lies, yi, yj, i_nlt.mp q, i_nlt.mp q2, i_nle.mp q3, i_nle.mp q4]
              have t := st5
              rw [z, show i + 1 + (m + 1) = j + 1 by omega] at t
              unfold pst at t
              rw [if_pos rfl] at t
              have p1 := ps.1
              refine ⟨fun q5 => ?_, fun q5 => ?_⟩
              · rcases ps.2 with ⟨y, -⟩ | ⟨-, y⟩
                · exact absurd (by rw [y]; rfl) q5
                · rw [if_neg y] at t
                  exact t
              · rcases ps.2 with ⟨-, y⟩ | ⟨y, -⟩
                · rw [if_pos y] at t
                  exact t
                · have := (neq (b := 0) (by omega) (by omega)).mp q5
                  omega
        rw [nI_1]
        exact inner (ngV V - (i + 1)) 0 M1 (by omega) hf
    exact outer (ngV V) 0 M0 (by omega) Fr.rfl'
  have note : ∀ k i (M1 : Mem), i + k = ngV V → (∀ c, c ≠ 78 → M1 c = MS c) → (∀ k, k < i → M1 78 k = if 0 ≤ (simN V 30).1 0 k then (simN V 30).1 2 k else -4) → WW X Q 23 [(0, .ref 57), (1, .int (nI w)), (2, .int (nI i))] [] (M1, gj gm, TTc ++ TTm) := by
    intro k
    induction k with
    | zero =>
      intro i M1 hi hc hh
      refine bX10_pairs_23 C ⟨fun _ => main M1 (hfS.fm.t (fun c hx => hc c (fun z => hx (by unfold sM; omega)))) (fun k hk2 => hh k (by omega)), fun q => absurd ?_ q⟩
      rw [hc 57 (by omega), rm_g ((vM_cong hfS).trans e) h.1, show i = ngV V by omega]; exact i_le_rfl _
    | succ k ih =>
      intro i M1 hi hc hh
      have i7 : vp_in (nI i) 7 := nin (by omega) (by omega)
      obtain ⟨a0, a2, -⟩ := hsS i (by omega)
      have nx : ∀ x : Int32, x = (if 0 ≤ (simN V 30).1 0 i then (simN V 30).1 2 i else -4) → WW X Q 23 [(0, .ref 57), (1, .int (nI w)), (2, .int (nI (i + 1)))] [] (wr M1 78 i x, gj gm, TTc ++ TTm) := by
        intro x hx
        refine ih (i + 1) _ (by omega) (fun c hc2 => by rw [wr_ne hc2, hc c hc2]) (fun k hk2 => ?_)
        rw [wr_eq]
        by_cases e1 : k = i
        · subst e1; rw [pk_us, hx]
        · rw [pk_un e1]; exact hh k (by omega)
      refine bX10_pairs_23 C ⟨fun q => absurd q ?_, fun _ => ⟨i7, ?_⟩⟩
      · rw [hc 57 (by omega), rm_g ((vM_cong hfS).trans e) h.1, nle (by omega) (by omega)]; omega
      rw [ncl (by omega), nI_1, hc 72 (by omega), hc 74 (by omega), a0, a2]
      refine ⟨fun q => ⟨i7, i7, nx _ ?_⟩, fun q => ⟨i7, nx _ ?_⟩⟩
      · rw [if_pos q]
      · rw [if_neg q]
  exact note (ngV V) 0 MS (by omega) (fun _ _ => rfl) (fun k hk2 => absurd hk2 (by omega))
end Q7M
