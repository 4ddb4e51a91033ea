/-! questions: bed, guest, harm, lies, who, all -/
def plS (V : Mem) (i : Nat) : Nat := (fstP (fun p => decide (rwN V p = i)) (ngV V)).getD 0
def bedQ (V : Mem) (b n : Int32) : Int32 := gd (nbV V) b fun b => gd 30 n fun n => lenS V b n
def guestQ (V : Mem) (i w : Int32) : Int32 := gd (ngV V) i fun i => if w = 0 then V 0 i else if w = 1 then V 1 i else if w = 2 then V 2 i else if w = 3 then V 4 i + 100 else if w = 4 then V 3 i else if w = 5 then nI (plS V i) else -1
def harmQ (V : Mem) (i b n : Int32) : Int32 := gd (ngV V) i fun i => gd (nbV V) b fun b => gd 30 n fun n => hS V i b n
def liesQ (V : Mem) (i w : Int32) : Int32 := gd (ngV V) i fun i => gd 5 w fun w => if 0 ≤ (simN V 30).1 0 i then (simN V 30).1 w i else -4
/-- a row is a row of all: every guest has a place -/
theorem row_on {n : Nat} {f : Nat → Nat} (h1 : ∀ i, i < n → f i < n) (h2 : ∀ i j, i < n → j < n → f i = f j → i = j) (k : Nat) (hk : k < n) : ∃ p, p < n ∧ f p = k := by
  apply Classical.byContradiction
  intro hno
  have hm : ∀ p, p < n → f p ≠ k := fun p hp e => hno ⟨p, hp, e⟩
  obtain ⟨m, rfl⟩ : ∃ m, n = m + 1 := ⟨n - 1, by omega⟩
  have pg : ∀ (m : Nat) (g : Nat → Nat), (∀ i, i < m + 1 → g i < m) → ∃ i j, i < m + 1 ∧ j < m + 1 ∧ i ≠ j ∧ g i = g j := by
    intro m
    induction m with
    | zero => intro g hg; exact absurd (hg 0 (by omega)) (by omega)
    | succ m ih =>
      intro g hg
      by_cases hx : ∃ i, i < m + 1 ∧ g i = g (m + 1)
      · obtain ⟨i, hi, e⟩ := hx
        exact ⟨i, m + 1, by omega, by omega, by omega, e⟩
      · have hx' : ∀ i, i < m + 1 → g i ≠ g (m + 1) := fun i hi e => hx ⟨i, hi, e⟩
        obtain ⟨i, j, hi, hj, hne, e⟩ := ih (fun i => if g i < g (m + 1) then g i else g i - 1) (fun i hi => by
          have := hg i (by omega)
          have := hg (m + 1) (by omega)
          have := hx' i hi
          show (if g i < g (m + 1) then g i else g i - 1) < m
          split <;> omega)
        refine ⟨i, j, by omega, by omega, hne, ?_⟩
        have a := hx' i hi
        have b := hx' j hj
        replace e : (if g i < g (m + 1) then g i else g i - 1) = (if g j < g (m + 1) then g j else g j - 1) := e
        split at e <;> split at e <;> omega
  obtain ⟨i, j, hi, hj, hne, e⟩ := pg m (fun i => if f i < k then f i else f i - 1) (fun i hi => by
    have := h1 i hi
    have := hm i hi
    show (if f i < k then f i else f i - 1) < m
    split <;> omega)
  have a := hm i hi
  have b := hm j hj
  replace e : (if f i < k then f i else f i - 1) = (if f j < k then f j else f j - 1) := e
  apply hne
  apply h2 i j hi hj
  split at e <;> split at e <;> omega
theorem rw_inj {V : Mem} (h : VOK V) {i j : Nat} (hi : i < ngV V) (hj : j < ngV V) (e : rwN V i = rwN V j) : i = j := by
  have a := (rwN_lt h hi).2
  have b := (rwN_lt h hj).2
  exact h.2.2.2.2.2.1 i j hi hj (by rw [a, b, e])
theorem plS_spec {V : Mem} (h : VOK V) {i : Nat} (hi : i < ngV V) : plS V i < ngV V ∧ rwN V (plS V i) = i ∧ V 5 (plS V i) = nI i ∧ ∀ q, q < ngV V → V 5 q = nI i → q = plS V i := by
  have h7 := h.1.2.2
  obtain ⟨p, hp, e⟩ := row_on (n := ngV V) (f := rwN V) (fun j hj => (rwN_lt h hj).1) (fun a b ha hb => rw_inj h ha hb) i hi
  have : fstP (fun p => decide (rwN V p = i)) (ngV V) = some p := by
    refine fstP_eq hp (by simp [e]) (fun q hq => ?_)
    by_cases z : rwN V q = i
    · exact absurd (rw_inj h (by omega) hp (z.trans e.symm)) (by omega)
    · simp [z]
  have e2 : plS V i = p := by unfold plS; rw [this]; rfl
  rw [e2]
  refine ⟨hp, e, by rw [(rwN_lt h hp).2, e], fun q hq z => rw_inj h hq hp ?_⟩
  rw [e]
  rw [(rwN_lt h hq).2, neq (by have := (rwN_lt h hq).1; omega) (by omega)] at z
  exact z
section Q1C
variable {M V : Mem} {G2 : Grf} {T2 : List (Nat × Nat)}
theorem c_placeOf (e : vC M = V) (h : VOK V) {i : Nat} (hi : i < ngV V) : WpI mX5_placeOf [.ref 37, .int (nI i)] M (gj G2) (TTc ++ T2) (fun r M' => r = nI (plS V i) ∧ M' = M) := by
  have h7 := h.1.2.2
  obtain ⟨hp, -, hv, hu⟩ := plS_spec h hi
  refine WpI.of rfl rfl nL fun X Q C hk => bX5_placeOf_0 C ?_
  have loop : ∀ k p, p + k = plS V i → WW X Q 2 [(0, .ref 37), (1, .int (nI i)), (2, .int (nI p))] [] (M, gj G2, TTc ++ T2) := by
    intro k
    induction k with
    | zero =>
      intro p hp2
      have e2 : p = plS V i := by omega
      subst e2
      refine bX5_placeOf_2 C ⟨fun q => absurd q ?_, fun _ => ⟨nin (by omega) (by omega), fun q => absurd ?_ q, fun _ => hk _ _ ⟨rfl, rfl⟩⟩⟩
      · rw [rc_g e h, nle (by omega) (by omega)]; omega
      · rw [ncl (by omega), rc_5 e hp, hv]
    | succ k ih =>
      intro p hp2
      refine bX5_placeOf_2 C ⟨fun q => absurd q ?_, fun _ => ⟨nin (by omega) (by omega), fun q => ?_, fun q => ?_⟩⟩
      · rw [rc_g e h, nle (by omega) (by omega)]; omega
      · rw [nI_1]; exact ih (p + 1) (by omega)
      · rw [ncl (by omega), rc_5 e (by omega)] at q
        exact absurd (hu p (by omega) q) (by omega)
  exact loop (plS V i) 0 (by omega)
theorem c_bed (e : vC M = V) (h : VB V) (b n : Int32) : WpI mX9_bed [.ref 0, .int b, .int n] M (gj G2) (TTc ++ T2) (fun r M' => r = bedQ V b n ∧ FC M M') := by
  have h4 := h.1.2.1.2.2
  refine WpI.of rfl rfl nL fun X Q C hk => bX9_bed_0 C (g_c (by omega) (rc_b e h.1) (fun q => hk _ _ ⟨gd_lo q, FC.r⟩) (fun q => hk _ _ ⟨gd_hi q, FC.r⟩) fun b' hb eb => ?_)
  subst eb
  refine g_m (n := 30) (by omega) (by omega) rfl (fun q => hk _ _ ⟨?_, FC.r⟩) (fun q => hk _ _ ⟨?_, FC.r⟩) fun n' hn en => ?_
  · unfold bedQ; rw [gd_in hb (by omega)]; exact gd_lo q
  · unfold bedQ; rw [gd_in hb (by omega)]; exact gd_hi q
  subst en
  refine (c_lengthOn e h.1 hb hn).to (bX9_bed_33 C (hk _ _ ⟨?_, FC.r⟩))
  unfold bedQ; rw [gd_in hb (by omega), gd_in hn (by omega)]
theorem c_harm (e : vC M = V) (h : VB V) (i b n : Int32) : WpI mX9_harm [.ref 0, .int i, .int b, .int n] M (gj G2) (TTc ++ T2) (fun r M' => r = harmQ V i b n ∧ FC M M') := by
  have h4 := h.1.2.1.2.2
  have h7 := h.1.1.2.2
  refine WpI.of rfl rfl nL fun X Q C hk => bX9_harm_0 C (g_c (by omega) (rc_g e h.1) (fun q => hk _ _ ⟨gd_lo q, FC.r⟩) (fun q => hk _ _ ⟨gd_hi q, FC.r⟩) fun i' hi ei => ?_)
  subst ei
  unfold harmQ at hk
  rw [gd_in hi (by omega)] at hk
  refine g_c (by omega) (rc_b e h.1) (fun q => hk _ _ ⟨gd_lo q, FC.r⟩) (fun q => hk _ _ ⟨gd_hi q, FC.r⟩) fun b' hb eb => ?_
  subst eb
  rw [gd_in hb (by omega)] at hk
  refine g_m (n := 30) (by omega) (by omega) rfl (fun q => hk _ _ ⟨gd_lo q, FC.r⟩) (fun q => hk _ _ ⟨gd_hi q, FC.r⟩) fun n' hn en => ?_
  subst en
  rw [gd_in hn (by omega)] at hk
  refine (c_lengthOn e h.1 hb hn).to (bX9_harm_58 C ((c_harmAt e h.1 hi (by omega) _).to (bX9_harm_61 C (hk _ _ ⟨rfl, FC.r⟩))))
theorem c_guest (e : vC M = V) (h : VB V) (i w : Int32) : WpI mX9_guest [.ref 0, .int i, .int w] M (gj G2) (TTc ++ T2) (fun r M' => r = guestQ V i w ∧ FC M M') := by
  have h7 := h.1.1.2.2
  refine WpI.of rfl rfl nL fun X Q C hk => bX9_guest_0 C (g_c (by omega) (rc_g e h.1) (fun q => hk _ _ ⟨gd_lo q, FC.r⟩) (fun q => hk _ _ ⟨gd_hi q, FC.r⟩) fun i' hi ei => ?_)
  subst ei
  unfold guestQ at hk
  rw [gd_in hi (by omega)] at hk
  have i7 : vp_in (nI i') 7 := nin (by omega) (by omega)
  rw [ncl (by omega), rc_0 e hi, rc_1 e hi, rc_2 e hi, rc_3 e hi, rc_4 e hi]
  refine ⟨fun q => ⟨i7, hk _ _ ⟨by rw [if_pos q], FC.r⟩⟩, fun q => ?_⟩
  rw [if_neg q] at hk
  refine ⟨fun q => ⟨i7, hk _ _ ⟨by rw [if_pos q], FC.r⟩⟩, fun q => ?_⟩
  rw [if_neg q] at hk
  refine ⟨fun q => ⟨i7, hk _ _ ⟨by rw [if_pos q], FC.r⟩⟩, fun q => ?_⟩
  rw [if_neg q] at hk
  refine ⟨fun q => ⟨i7, hk _ _ ⟨by rw [if_pos q], FC.r⟩⟩, fun q => ?_⟩
  rw [if_neg q] at hk
  refine ⟨fun q => ⟨i7, hk _ _ ⟨by rw [if_pos q], FC.r⟩⟩, fun q => ?_⟩
  rw [if_neg q] at hk
  refine ⟨fun q => ?_, fun q => hk _ _ ⟨by rw [if_neg q], FC.r⟩⟩
  rw [if_pos q] at hk
  exact (c_placeOf e h.1 hi).to (bX9_guest_99 C (hk _ _ ⟨rfl, FC.r⟩))
theorem hasL {σ : Mem} {i : Nat} (hn : ngV V ≤ 7) (hi : i < ngV V) : ((bO (ngV V) (lies σ) >>> (nI i &&& 31)) &&& 1) = 1 ↔ 0 ≤ σ 0 i := by
  rw [bit_1 _ (by omega), bt_bO (by omega) (by omega)]
  unfold lies
  simp [hi]
theorem c_lies (e : vC M = V) (h : VB V) (i w : Int32) : WpI mX9_lies [.ref 0, .int i, .int w] M (gj G2) (TTc ++ T2) (fun r M' => r = liesQ V i w ∧ FC M M') := by
  have h7 := h.1.1.2.2
  refine WpI.of rfl rfl nL fun X Q C hk => bX9_lies_0 C (g_c (by omega) (rc_g e h.1) (fun q => hk _ _ ⟨gd_lo q, FC.r⟩) (fun q => hk _ _ ⟨gd_hi q, FC.r⟩) fun i' hi ei => ?_)
  subst ei
  unfold liesQ at hk
  rw [gd_in hi (by omega)] at hk
  refine g_m (n := 5) (by omega) (by omega) rfl (fun q => hk _ _ ⟨gd_lo q, FC.r⟩) (fun q => hk _ _ ⟨gd_hi q, FC.r⟩) fun w' hw ew => ?_
  subst ew
  rw [gd_in hw (by omega)] at hk
  refine (c_passAll e h.1).imp ?_
  rintro M' ⟨hf, hs⟩
  have i7 : vp_in (nI i') 7 := nin (by omega) (by omega)
  refine bX9_lies_38 C ?_
  rw [hs.1, hasL h7 hi, ncl (by omega)]
  refine ⟨fun q => hk _ _ ⟨by rw [if_neg q], hf.fc⟩, fun q => ?_⟩
  rw [if_pos q] at hk
  obtain ⟨a0, a1, a2, a3⟩ := hs.2.2.1 i' hi q
  have a4 := hs.2.1 i' hi
  rw [a0, a1, a2, a3, a4]
  rcases w' with _ | _ | _ | _ | _ | w'
  · exact ⟨fun _ => ⟨i7, hk _ _ ⟨rfl, hf.fc⟩⟩, fun q => absurd rfl q⟩
  · exact ⟨fun q => absurd q (by decide), fun _ => ⟨fun _ => ⟨i7, hk _ _ ⟨rfl, hf.fc⟩⟩, fun q => absurd rfl q⟩⟩
  · exact ⟨fun q => absurd q (by decide), fun _ => ⟨fun q => absurd q (by decide), fun _ => ⟨fun _ => ⟨i7, hk _ _ ⟨rfl, hf.fc⟩⟩, fun q => absurd rfl q⟩⟩⟩
  · exact ⟨fun q => absurd q (by decide), fun _ => ⟨fun q => absurd q (by decide), fun _ => ⟨fun q => absurd q (by decide), fun _ => ⟨fun _ => ⟨i7, hk _ _ ⟨rfl, hf.fc⟩⟩, fun q => absurd rfl q⟩⟩⟩⟩
  · exact ⟨fun q => absurd q (by decide), fun _ => ⟨fun q => absurd q (by decide), fun _ => ⟨fun q => absurd q (by decide), fun _ => ⟨fun q => absurd q (by decide), fun _ => ⟨i7, hk _ _ ⟨rfl, hf.fc⟩⟩⟩⟩⟩⟩
  · omega
end Q1C
section Q1M
variable {M V : Mem}
theorem m_placeOf {op : Int32} (e : vM op M = V) (h : VOK V) {i : Nat} (hi : i < ngV V) : WpI mX10_placeOf [.ref 57, .int (nI i)] M (gj gm) (TTc ++ TTm) (fun r M' => r = nI (plS V i) ∧ M' = M) := by
  have h7 := h.1.2.2
  obtain ⟨hp, -, hv, hu⟩ := plS_spec h hi
  refine WpI.of rfl rfl nL fun X Q C hk => bX10_placeOf_0 C ?_
  have loop : ∀ k p, p + k = plS V i → WW X Q 2 [(0, .ref 57), (1, .int (nI i)), (2, .int (nI p))] [] (M, gj gm, TTc ++ TTm) := by
    intro k
    induction k with
    | zero =>
      intro p hp2
      have e2 : p = plS V i := by omega
      subst e2
      refine bX10_placeOf_2 C ⟨nin (by omega) (by omega), fun q => hk _ _ ⟨rfl, rfl⟩, fun q => absurd ?_ q⟩
      rw [ncl (by omega), rm_5 e hp, hv]
    | succ k ih =>
      intro p hp2
      refine bX10_placeOf_2 C ⟨nin (by omega) (by omega), fun q => ?_, fun q => ?_⟩
      · rw [ncl (by omega), rm_5 e (by omega)] at q
        exact absurd (hu p (by omega) q) (by omega)
      · rw [nI_1]; exact ih (p + 1) (by omega)
  exact loop (plS V i) 0 (by omega)
theorem m_bed (e : vM (M 57 1) M = V) (h : VB V) (b n : Int32) : WpI mX10_bed [.ref 57, .int b, .int n] M (gj gm) (TTc ++ TTm) (fun r M' => r = bedQ V b n ∧ FM M M') := by
  have h4 := h.1.2.1.2
  refine WpI.of rfl rfl nL fun X Q C hk => bX10_bed_0 C (g_m h4.1 (by omega) (by rw [rm_b e h.1]) (fun q => hk _ _ ⟨gd_lo q, FM.r⟩) (fun q => hk _ _ ⟨gd_hi q, FM.r⟩) fun b' hb eb => ?_)
  subst eb
  unfold bedQ at hk
  rw [gd_in hb (by omega)] at hk
  refine g_m (n := 30) (by omega) (by omega) rfl (fun q => hk _ _ ⟨gd_lo q, FM.r⟩) (fun q => hk _ _ ⟨gd_hi q, FM.r⟩) fun n' hn en => ?_
  subst en
  rw [gd_in hn (by omega)] at hk
  exact (m_lengthOn e h.1 hb hn).to (bX10_bed_21 C (hk _ _ ⟨rfl, FM.r⟩))
theorem m_harm (e : vM (M 57 1) M = V) (h : VB V) (i b n : Int32) : WpI mX10_harm [.ref 57, .int i, .int b, .int n] M (gj gm) (TTc ++ TTm) (fun r M' => r = harmQ V i b n ∧ FM M M') := by
  have h4 := h.1.2.1.2
  have h7 := h.1.1.2
  refine WpI.of rfl rfl nL fun X Q C hk => bX10_harm_0 C (g_m h7.1 (by omega) (by rw [rm_g e h.1]) (fun q => hk _ _ ⟨gd_lo q, FM.r⟩) (fun q => hk _ _ ⟨gd_hi q, FM.r⟩) fun i' hi ei => ?_)
  subst ei
  unfold harmQ at hk
  rw [gd_in hi (by omega)] at hk
  refine g_m h4.1 (by omega) (by rw [rm_b e h.1]) (fun q => hk _ _ ⟨gd_lo q, FM.r⟩) (fun q => hk _ _ ⟨gd_hi q, FM.r⟩) fun b' hb eb => ?_
  subst eb
  rw [gd_in hb (by omega)] at hk
  refine g_m (n := 30) (by omega) (by omega) rfl (fun q => hk _ _ ⟨gd_lo q, FM.r⟩) (fun q => hk _ _ ⟨gd_hi q, FM.r⟩) fun n' hn en => ?_
  subst en
  rw [gd_in hn (by omega)] at hk
  exact (m_harmOf e h.1 hi hb hn).to (bX10_harm_30 C (hk _ _ ⟨rfl, FM.r⟩))
theorem m_guest (e : vM (M 57 1) M = V) (h : VB V) (i w : Int32) : WpI mX10_guest [.ref 57, .int i, .int w] M (gj gm) (TTc ++ TTm) (fun r M' => r = guestQ V i w ∧ FM M M') := by
  have h7 := h.1.1.2
  refine WpI.of rfl rfl nL fun X Q C hk => bX10_guest_0 C (g_m h7.1 (by omega) (by rw [rm_g e h.1]) (fun q => hk _ _ ⟨gd_lo q, FM.r⟩) (fun q => hk _ _ ⟨gd_hi q, FM.r⟩) fun i' hi ei => ?_)
  subst ei
  unfold guestQ at hk
  rw [gd_in hi (by omega)] at hk
  have i7 : vp_in (nI i') 7 := nin (by omega) (by omega)
  have j7 : vp_in (nI (7 + i')) 21 := nin (by omega) (by omega)
  have j14 : vp_in (nI (14 + i')) 21 := nin (by omega) (by omega)
  rw [n7, n14, ncl (by omega), ncl (by omega), ncl (by omega), rm_0 e hi, rm_1 e hi, rm_2 e hi, rm_3 e hi, rm_4 e hi]
  refine ⟨fun q => ⟨i7, hk _ _ ⟨by rw [if_pos q], FM.r⟩⟩, fun q => ?_⟩
  rw [if_neg q] at hk
  refine ⟨fun q => ⟨j14, hk _ _ ⟨by rw [if_pos q], FM.r⟩⟩, fun q => ?_⟩
  rw [if_neg q] at hk
  refine ⟨fun q => ⟨i7, hk _ _ ⟨by rw [if_pos q], FM.r⟩⟩, fun q => ?_⟩
  rw [if_neg q] at hk
  refine ⟨fun q => ⟨j7, hk _ _ ⟨by rw [if_pos q], FM.r⟩⟩, fun q => ?_⟩
  rw [if_neg q] at hk
  refine ⟨fun q => ⟨i7, hk _ _ ⟨by rw [if_pos q], FM.r⟩⟩, fun q => ?_⟩
  rw [if_neg q] at hk
  refine ⟨fun q => ?_, fun q => hk _ _ ⟨by rw [if_neg q], FM.r⟩⟩
  rw [if_pos q] at hk
  exact (m_placeOf e h.1 hi).to (bX10_guest_97 C (hk _ _ ⟨rfl, FM.r⟩))
/-- all nights with all beds -/
theorem m_stayA (e : vM (M 57 1) M = V) (h : VOK V) : WpI mX10_stay [.ref 57, .int (M 57 1)] M (gj gm) (TTc ++ TTm) (fun r M' => Fr 72 76 M M' ∧ SimM M' V (simN V 30).1 ∧ r = allS V) := by
  have e2 := rm_b e h
  rw [e2] at e ⊢
  exact m_stay e h
theorem m_lies (e : vM (M 57 1) M = V) (h : VB V) (i w : Int32) : WpI mX10_lies [.ref 57, .int i, .int w] M (gj gm) (TTc ++ TTm) (fun r M' => r = liesQ V i w ∧ FM M M') := by
  have h7 := h.1.1.2
  refine WpI.of rfl rfl nL fun X Q C hk => bX10_lies_0 C (g_m h7.1 (by omega) (by rw [rm_g e h.1]) (fun q => hk _ _ ⟨gd_lo q, FM.r⟩) (fun q => hk _ _ ⟨gd_hi q, FM.r⟩) fun i' hi ei => ?_)
  subst ei
  unfold liesQ at hk
  rw [gd_in hi (by omega)] at hk
  refine g_m (n := 5) (by omega) (by omega) rfl (fun q => hk _ _ ⟨gd_lo q, FM.r⟩) (fun q => hk _ _ ⟨gd_hi q, FM.r⟩) fun w' hw ew => ?_
  subst ew
  rw [gd_in hw (by omega)] at hk
  refine (m_stayA e h.1).imp ?_
  rintro r M' ⟨hf, hs, -⟩
  have i7 : vp_in (nI i') 7 := nin (by omega) (by omega)
  refine bX10_lies_30 C ?_
  obtain ⟨a0, a2, a4, a13⟩ := hs i' hi
  rw [ncl (by omega), a0]
  refine ⟨i7, fun q => ?_, fun q => hk _ _ ⟨by rw [if_neg q], hf.fm⟩⟩
  rw [if_pos q] at hk
  obtain ⟨a1, a3⟩ := a13 q
  rw [a1, a2, a3, a4]
  rcases w' with _ | _ | _ | _ | _ | w'
  · exact ⟨fun q => absurd rfl q, fun _ => ⟨i7, hk _ _ ⟨rfl, hf.fm⟩⟩⟩
  · exact ⟨fun _ => ⟨fun q => absurd rfl q, fun _ => ⟨i7, hk _ _ ⟨rfl, hf.fm⟩⟩⟩, fun q => absurd q (by decide)⟩
  · exact ⟨fun _ => ⟨fun _ => ⟨fun q => absurd rfl q, fun _ => ⟨i7, hk _ _ ⟨rfl, hf.fm⟩⟩⟩, fun q => absurd q (by decide)⟩, fun q => absurd q (by decide)⟩
  · exact ⟨fun _ => ⟨fun _ => ⟨fun _ => ⟨fun q => absurd rfl q, fun _ => ⟨i7, hk _ _ ⟨rfl, hf.fm⟩⟩⟩, fun q => absurd q (by decide)⟩, fun q => absurd q (by decide)⟩, fun q => absurd q (by decide)⟩
  · exact ⟨fun _ => ⟨fun _ => ⟨fun _ => ⟨fun _ => ⟨i7, hk _ _ ⟨rfl, hf.fm⟩⟩, fun q => absurd q (by decide)⟩, fun q => absurd q (by decide)⟩, fun q => absurd q (by decide)⟩, fun q => absurd q (by decide)⟩
  · omega
end Q1M
