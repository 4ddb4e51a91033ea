/-! questions: fewest, found, rival -/
def allP (P : Nat → Bool) : Nat → Bool
  | 0 => true
  | n + 1 => allP P n && P n
def anyP (P : Nat → Bool) : Nat → Bool
  | 0 => false
  | n + 1 => anyP P n || P n
theorem allP_f {P : Nat → Bool} {i : Nat} (h : P i = false) : ∀ {n : Nat}, i < n → allP P n = false
  | 0, hi => absurd hi (by omega)
  | n + 1, hi => by
    unfold allP
    by_cases e : i = n
    · rw [← e, h]; simp
    · rw [allP_f h (show i < n by omega)]; rfl
theorem allP_t {P : Nat → Bool} : ∀ {n : Nat}, (∀ i, i < n → P i = true) → allP P n = true
  | 0, _ => rfl
  | n + 1, h => by unfold allP; rw [allP_t (fun i hi => h i (by omega)), h n (by omega)]; rfl
def byP (σ : Mem) (n i : Nat) : Bool := lies σ i && decide (σ 0 i ≤ nI n)
def fewV (V : Mem) (k : Nat) : Mem := wr V 9 6 (nI (k + 1))
def fewP (V : Mem) (n k : Nat) : Bool := allP (byP (simN (fewV V k) 30).1 n) (ngV V)
def fewestQ (V : Mem) (n : Int32) : Int32 := gd 30 n fun n => match fstP (fewP V n) (nbV V) with
  | some k => nI (k + 1)
  | none => -4
theorem vok_few {V : Mem} (h : VOK V) {k : Nat} (hk : k < nbV V) : VOK (fewV V k) := by
  obtain ⟨h1, h2, h3, h4, h5, h6, h7, h8, h9, h10, h11, h12⟩ := h
  have e : opV (fewV V k) = k + 1 := by
    show (nI (k + 1)).toNatClampNeg = k + 1
    exact ncl (by omega)
  refine ⟨h1, h2, ⟨?_, ?_⟩, h4, h5, h6, h7, h8, h9, h10, h11, h12⟩
  · rw [e]; rfl
  · rw [e]; exact hk
def fndC (e : Int32) : Nat → Int32
  | 0 => 1000
  | k + 1 => fndC e k * e / 1000
def absS (x : Int32) : Int32 := if 0 ≤ x then x else -x
def eachS (V : Mem) (i x : Nat) : Int32 := if 0 < 1000 - 10 * nI x * absS (V 4 i) then 1000 - 10 * nI x * absS (V 4 i) else 0
def lastS (σ : Mem) (i : Nat) : Nat := if 0 ≤ σ 0 i then (σ 0 i).toNatClampNeg else 29
def foundQ (V : Mem) (i x : Int32) : Int32 := gd (ngV V) i fun i => gd 11 x fun x => fndC (eachS V i x) (lastS (simN V 30).1 i + 1 - (V 1 i).toNatClampNeg)
theorem rg_nat {x : Int32} {b : Nat} (h : rgI x 0 b) (hb : b < 999999) : x = nI x.toNatClampNeg ∧ x.toNatClampNeg ≤ b := by
  obtain ⟨i, hi, e⟩ := ix_of (x := x) (n := b + 1) (by omega) (i_nlt.mpr (rg_0 h)) (by
    rw [fa_le, nti (by omega)]
    unfold rgI at h
    omega)
  subst e
  rw [ncl (by omega)]
  exact ⟨rfl, by omega⟩
def rivH (V : Mem) (i k : Nat) : Int32 := hK (V 2 i) (V 0 i + V 4 i + grS V i (V 1 i).toNatClampNeg - V 8 k)
def rivR (V : Mem) (i k : Nat) : Bool := decide (rivH V i k < (simN V 30).1 2 i)
def rivP (V : Mem) (i : Nat) : Bool := anyP (rivR V i) (nrV V)
def rivalQ (V : Mem) : Int32 := bO (ngV V) (rivP V)
def lrS (V : Mem) (i : Nat) : Nat → Int32
  | 0 => 1000000
  | k + 1 => if rivH V i k < lrS V i k then rivH V i k else lrS V i k
theorem lr_any {V : Mem} (h : VOK V) {i : Nat} (hi : i < ngV V) : ∀ {k : Nat}, lrS V i k < (simN V 30).1 2 i ↔ anyP (rivR V i) k = true
  | 0 => by
    refine ⟨fun q => ?_, fun q => by cases q⟩
    have := (SI.sim h (n := 30) (by omega)).rg hi
    have e9 : (1000000 : Int32).toInt = 1000000 := by decide
    replace q : (1000000 : Int32) < (simN V 30).1 2 i := q
    rw [fa_lt] at q
    unfold rgI at this
    omega
  | k + 1 => by
    have ih := lr_any h hi (k := k)
    unfold lrS anyP
    rw [Bool.or_eq_true, ← ih]
    unfold rivR
    rw [decide_eq_true_iff]
    split
    · rename_i q
      rw [fa_lt, fa_lt]
      rw [fa_lt] at q
      omega
    · rename_i q
      rw [fa_lt, fa_lt]
      rw [fa_lt] at q
      omega
theorem i_or0 (x : Int32) : x ||| 0 = x := by
  apply b_ext
  intro i hi
  rw [b_or, b_0]
  simp
section Q5C
variable {M V : Mem} {G2 : Grf} {T2 : List (Nat × Nat)}
theorem c_allLainBy {s : Mem × Nat} (hg : M 37 6 = nI (ngV V)) (h7 : ngV V ≤ 7) (hs : SimC M V s) (n : Nat) : WpI mX3_allLainBy [.ref 4, .ref 37, .int (nI n)] M (gj G2) (TTc ++ T2) (fun r M' => r = (if allP (byP s.1 n) (ngV V) = true then 1 else 0) ∧ M' = M) := by
  refine WpI.of rfl rfl nL fun X Q C hk => bX3_allLainBy_0 C ?_
  have loop : ∀ k i, i + k = ngV V → (∀ j, j < i → byP s.1 n j = true) → WW X Q 2 [(0, .ref 4), (1, .ref 37), (2, .int (nI n)), (3, .int (nI i))] [] (M, gj G2, TTc ++ T2) := by
    intro k
    induction k with
    | zero =>
      intro i hi ha
      refine bX3_allLainBy_2 C ⟨fun _ => hk _ _ ⟨?_, rfl⟩, fun q => absurd ?_ q⟩
      · rw [allP_t (fun j hj => ha j (by omega)), if_pos rfl]
      · rw [hg, show i = ngV V by omega]; exact i_le_rfl _
    | succ k ih =>
      intro i hi ha
      refine bX3_allLainBy_2 C ⟨fun q => absurd q ?_, fun _ => ?_⟩
      · rw [hg, nle (by omega) (by omega)]; omega
      rw [hs.1, hasL h7 (by omega), nI_1, ncl (by omega)]
      refine ⟨fun q => hk _ _ ⟨?_, rfl⟩, fun q => ⟨nin (by omega) (by omega), ?_⟩⟩
      · rw [allP_f (i := i) (by simp [byP, lies, q]) (by omega)]; rfl
      · rw [(hs.2.2.1 i (by omega) q).1]
        refine ⟨fun q2 => ih (i + 1) (by omega) (fun j hj => ?_), fun q2 => hk _ _ ⟨?_, rfl⟩⟩
        · by_cases e : j = i
          · rw [e]; simp [byP, lies, q, q2]
          · exact ha j (by omega)
        · rw [allP_f (i := i) (by simp [byP, q2]) (by omega)]; rfl
  exact loop (ngV V) 0 (by omega) (fun j hj => absurd hj (by omega))
theorem c_fewest (e : vC M = V) (h : VB V) (n : Int32) : WpI mX9_fewest [.ref 0, .int n] M (gj G2) (TTc ++ T2) (fun r M' => r = fewestQ V n ∧ FC M M') := by
  have h4 := h.1.2.1.2.2
  have h7 := h.1.1.2.2
  have hb := rc_b e h.1
  have ho : M 34 4 = nI (nbV V) := by rw [← h.2.1, ← h.1.2.2.1.1, ← e]; rfl
  refine WpI.of rfl rfl nL fun X Q C hk => bX9_fewest_0 C (g_m (n := 30) (by omega) (by omega) rfl (fun q => hk _ _ ⟨gd_lo q, FC.r⟩) (fun q => hk _ _ ⟨gd_hi q, FC.r⟩) fun n hn en => ?_)
  subst en
  unfold fewestQ at hk
  rw [gd_in hn (by omega)] at hk
  have fr : ∀ (M1 : Mem) (x : Int32), Fr 4 9 (wr M 34 4 x) M1 → M1 34 2 = nI (nbV V) ∧ FC M (wr M1 34 4 (M1 34 2)) := by
    intro M1 x hf
    have e1 : M1 34 2 = nI (nbV V) := by rw [hf 34 (by omega), ← hb]; rfl
    have := fr_rw (y := M 34 4) hf
    rw [wr_self, ho] at this
    rw [e1]
    exact ⟨rfl, this.fc⟩
  have loop : ∀ k j (M1 : Mem) (x : Int32), j + k = nbV V → Fr 4 9 (wr M 34 4 x) M1 → (∀ i, i < j → fewP V n i = false) → WW X Q 14 [(0, .ref 0), (1, .int (nI n)), (2, .int (-4)), (3, .int (nI (j + 1)))] [] (M1, gj G2, TTc ++ T2) := by
    intro k
    induction k with
    | zero =>
      intro j M1 x hj hf ha
      obtain ⟨e1, f1⟩ := fr M1 x hf
      refine bX9_fewest_14 C ⟨fun _ => hk _ _ ⟨?_, f1⟩, fun q => absurd ?_ q⟩
      · rw [fstP_no (fun i hi => ha i (by omega))]
      · rw [e1, nlt (by omega) (by omega)]; omega
    | succ k ih =>
      intro j M1 x hj hf ha
      obtain ⟨e1, f1⟩ := fr M1 x hf
      have hv := vok_few h.1 (k := j) (by omega)
      have hf2 := fr_rw (y := nI (j + 1)) hf
      have e2 : vC (wr M1 34 4 (nI (j + 1))) = fewV V j := by rw [vC_cong hf2, vC_open, e]; rfl
      refine bX9_fewest_14 C ⟨fun q => absurd q ?_, fun _ => ⟨fun q => absurd rfl q, fun _ => (c_passAll e2 hv).imp ?_⟩⟩
      · rw [e1, nlt (by omega) (by omega)]; omega
      rintro M2 ⟨hf3, hs⟩
      have hf4 := hf2.trans hf3
      obtain ⟨e3, f3⟩ := fr M2 _ hf4
      have hg : M2 37 6 = nI (ngV V) := by rw [hf4 37 (by omega), ← rc_g e h.1]; rfl
      refine bX9_fewest_58 C ((c_allLainBy (V := fewV V j) (s := simN (fewV V j) 30) hg h7 hs n).to (bX9_fewest_73 C ⟨fun q => ?_, fun q => ?_⟩))
      · replace q : (if fewP V n j = true then (1 : Int32) else 0) = 0 := q
        rw [nI_1]
        refine ih (j + 1) M2 _ (by omega) hf4 (fun i hi => ?_)
        by_cases z : i = j
        · rw [z]
          by_cases y : fewP V n j = true
          · rw [if_pos y] at q
            exact absurd q (by decide)
          · simpa using y
        · exact ha i (by omega)
      · replace q : ¬ (if fewP V n j = true then (1 : Int32) else 0) = 0 := q
        have y : fewP V n j = true := by
          by_cases y : fewP V n j = true
          · exact y
          · rw [if_neg y] at q
            exact absurd rfl q
        rw [fstP_eq (p := j) (by omega) y ha] at hk
        refine bX9_fewest_14 C ⟨fun _ => hk _ _ ⟨rfl, f3⟩, fun _ => ⟨fun _ => hk _ _ ⟨rfl, f3⟩, fun z => ?_⟩⟩
        exact absurd (show nI (j + 1) < 0 by rw [z]; decide) (nn0 (by omega))
  exact loop (nbV V) 0 M (M 34 4) (by omega) (by rw [wr_self]; exact Fr.rfl') (fun i hi => absurd hi (by omega))
theorem c_abs (x : Int32) : WpI mJ9_abs_0f7a4 [.int x] M (gj G2) (TTc ++ T2) (fun r M' => r = absS x ∧ M' = M) := by
  refine WpI.ofF rfl (by decide +kernel) nL fun X Q C hk => bJ9_abs_0f7a4_0 C ⟨fun q => hk _ _ ⟨?_, rfl⟩, fun q => hk _ _ ⟨?_, rfl⟩⟩
  · unfold absS; rw [if_pos q]
  · unfold absS; rw [if_neg q]
theorem c_found (e : vC M = V) (h : VB V) (i x : Int32) : WpI mX9_found [.ref 0, .int i, .int x] M (gj G2) (TTc ++ T2) (fun r M' => r = foundQ V i x ∧ FC M M') := by
  have h7 := h.1.1.2.2
  refine WpI.of rfl rfl nL fun X Q C hk => bX9_found_0 C (g_c (by omega) (rc_g e h.1) (fun q => hk _ _ ⟨gd_lo q, FC.r⟩) (fun q => hk _ _ ⟨gd_hi q, FC.r⟩) fun i hi ei => ?_)
  subst ei
  unfold foundQ at hk
  rw [gd_in hi (by omega)] at hk
  refine g_m (n := 11) (by omega) (by omega) rfl (fun q => hk _ _ ⟨gd_lo q, FC.r⟩) (fun q => hk _ _ ⟨gd_hi q, FC.r⟩) fun x hx ex => ?_
  subst ex
  rw [gd_in hx (by omega)] at hk
  have i7 : vp_in (nI i) 7 := nin (by omega) (by omega)
  have hcl : (nI i).toNatClampNeg = i := ncl (by omega)
  refine (c_passAll e h.1).imp ?_
  rintro M' ⟨hf, hs⟩
  have e' := (vC_cong hf).trans e
  have sl := SI.sim h.1 (n := 30) (by omega)
  obtain ⟨ec, hc⟩ := rg_nat (b := 9) (h.2.2.2.2 i hi) (by omega)
  have loop : ∀ k n (L : Nat), L < 30 → L = lastS (simN V 30).1 i → (V 1 i).toNatClampNeg ≤ n → n < 60 → L + 1 - n = k → (n ≤ L + 1 ∨ n = (V 1 i).toNatClampNeg) → WW X Q 114 [(0, .ref 0), (1, .int (nI i)), (2, .int (nI x)), (3, .int (nI L)), (4, .int (eachS V i x)), (5, .int (fndC (eachS V i x) (n - (V 1 i).toNatClampNeg))), (6, .int (nI n))] [] (M', gj G2, TTc ++ T2) := by
    intro k
    induction k with
    | zero =>
      intro n L hL eL h1 h2 h3 h4
      refine bX9_found_114 C ⟨fun _ => hk _ _ ⟨?_, hf.fc⟩, fun q => absurd ?_ q⟩
      · rw [← eL, show L + 1 - (V 1 i).toNatClampNeg = n - (V 1 i).toNatClampNeg by omega]
      · rw [nlt (by omega) (by omega)]; omega
    | succ k ih =>
      intro n L hL eL h1 h2 h3 h4
      refine bX9_found_114 C ⟨fun q => absurd q ?_, fun _ => ?_⟩
      · rw [nlt (by omega) (by omega)]; omega
      have := ih (n + 1) L hL eL (by omega) (by omega) (by omega) (Or.inl (by omega))
      rw [show n + 1 - (V 1 i).toNatClampNeg = (n - (V 1 i).toNatClampNeg) + 1 by omega] at this
      rw [nI_1]
      exact this
  have mid : ∀ L : Nat, L < 30 → L = lastS (simN V 30).1 i → WW X Q 88 [(0, .ref 0), (1, .int (nI i)), (2, .int (nI x)), (3, .int (nI L))] [.int (absS (V 4 i)), .int (10 * nI x), .int 1000, .int 0] (M', gj G2, TTc ++ T2) := by
    intro L hL eL
    refine bX9_found_88 C ((c_max _ _).to (bX9_found_93 C ⟨i7, ?_⟩))
    rw [hcl, rc_1 e' hi]
    have := loop (L + 1 - (V 1 i).toNatClampNeg) (V 1 i).toNatClampNeg L hL eL (by omega) (by omega) rfl (Or.inr rfl)
    rw [Nat.sub_self, ← ec] at this
    exact this
  refine bX9_found_39 C ?_
  rw [hs.1, hasL h7 hi, hcl, rc_4 e' hi]
  refine ⟨fun q => ⟨i7, (c_abs _).to (mid 29 (by omega) ?_)⟩, fun q => ⟨i7, i7, (c_abs _).to ?_⟩⟩
  · unfold lastS; rw [if_neg q]
  · obtain ⟨m, hm, em, -⟩ := sl.lies hi q
    rw [(hs.2.2.1 i hi q).1, em]
    refine mid m hm ?_
    unfold lastS
    rw [if_pos q, em, ncl (by omega)]
theorem c_leastAtRival (e : vC M = V) (h : VOK V) {i : Nat} (hi : i < ngV V) : WpI mX2_leastAtRival [.ref 33, .int (nI i)] M (gj G2) (TTc ++ T2) (fun r M' => r = lrS V i (nrV V) ∧ M' = M) := by
  have h7 := h.1.2.2
  have h4 := h.2.2.2.1.2
  have hcl : (nI i).toNatClampNeg = i := ncl (by omega)
  obtain ⟨ec, hc⟩ := rg_nat (b := 18) ((h.2.2.2.2.1 i hi).2.1) (by omega)
  refine WpI.of rfl rfl nL fun X Q C hk => bX2_leastAtRival_0 C ⟨fun q => absurd q (nn0 (by omega)), fun _ => ⟨fun q => absurd q ?_, fun _ => ⟨nin (by omega) (by omega), ?_⟩⟩⟩
  · rw [rc_g e h, nle (by omega) (by omega)]; omega
  rw [hcl, rc_1 e hi]
  have loop : ∀ k j, j + k = nrV V → WW X Q 31 [(0, .ref 33), (1, .int (nI i)), (2, .int (lrS V i j)), (3, .int (V 1 i)), (4, .int (nI j))] [] (M, gj G2, TTc ++ T2) := by
    intro k
    induction k with
    | zero =>
      intro j hj
      refine bX2_leastAtRival_31 C ⟨fun _ => hk _ _ ⟨?_, rfl⟩, fun q => absurd ?_ q⟩
      · rw [show j = nrV V by omega]
      · rw [rc_r e h, show j = nrV V by omega]; exact i_le_rfl _
    | succ k ih =>
      intro j hj
      refine bX2_leastAtRival_31 C ⟨fun q => absurd q ?_, fun _ => ⟨nin (by omega) (by omega), ?_⟩⟩
      · rw [rc_r e h, nle (by omega) (by omega)]; omega
      rw [ncl (by omega), rc_8 e (by omega)]
      have hh := c_harmAt (G2 := G2) (T2 := T2) e h hi (n := (V 1 i).toNatClampNeg) (by omega) (V 8 j)
      rw [← ec] at hh
      refine hh.to (bX2_leastAtRival_57 C ((c_min _ _).to (bX2_leastAtRival_60 C ?_)))
      rw [nI_1]
      exact ih (j + 1) (by omega)
  exact loop (nrV V) 0 (by omega)
theorem c_rival (e : vC M = V) (h : VB V) : WpI mX9_rival [.ref 0] M (gj G2) (TTc ++ T2) (fun r M' => r = rivalQ V ∧ FC M M') := by
  have h7 := h.1.1.2.2
  refine WpI.of rfl rfl nL fun X Q C hk => bX9_rival_0 C ((c_passAll e h.1).imp ?_)
  rintro M' ⟨hf, hs⟩
  have e' := (vC_cong hf).trans e
  have hg := rc_g e' h.1
  have sl := SI.sim h.1 (n := 30) (by omega)
  refine bX9_rival_13 C ?_
  have loop : ∀ k i, i + k = ngV V → WW X Q 17 [(0, .ref 0), (1, .int (bO (ngV V) (fun j => decide (j < i) && rivP V j))), (2, .int (nI i))] [] (M', gj G2, TTc ++ T2) := by
    intro k
    induction k with
    | zero =>
      intro i hi
      refine bX9_rival_17 C ⟨fun _ => hk _ _ ⟨?_, hf.fc⟩, fun q => absurd ?_ q⟩
      · exact bO_cong (fun j hj => by simp [show j < i by omega])
      · rw [hg, show i = ngV V by omega]; exact i_le_rfl _
    | succ k ih =>
      intro i hi
      have st := ih (i + 1) (by omega)
      have tail : WW X Q 65 [(0, .ref 0), (1, .int (bO (ngV V) (fun j => decide (j < i) && rivP V j))), (2, .int (nI i)), (3, .int ((simN V 30).1 2 i))] [.int (lrS V i (nrV V))] (M', gj G2, TTc ++ T2) := by
        refine bX9_rival_65 C ?_
        rw [nI_1, bO_add (by omega) (by omega)]
        refine ⟨fun q => ?_, fun q => ?_⟩
        · have z : rivP V i = false := by
            by_cases z : rivP V i = true
            · exact absurd ((lr_any h.1 (i := i) (by omega)).mpr z) (i_nlt.mpr q)
            · simpa using z
          rw [bO_cong (q := fun j => decide (j < i) && rivP V j) (fun j hj => by
            by_cases y : j = i
            · subst y; simp [z]
            · by_cases y2 : j < i
              · simp [y2, show j < i + 1 by omega]
              · simp [y2, show ¬ j < i + 1 by omega])] at st
          exact st
        · have z : rivP V i = true := (lr_any h.1 (i := i) (by omega)).mp (i_nle.mp q)
          rw [bO_cong (q := fun j => (decide (j < i) && rivP V j) || decide (j = i)) (fun j hj => by
            by_cases y : j = i
            · subst y; simp [z]
            · by_cases y2 : j < i
              · simp [y, y2, show j < i + 1 by omega]
              · simp [y, y2, show ¬ j < i + 1 by omega])] at st
          exact st
      refine bX9_rival_17 C ⟨fun q => absurd q ?_, fun _ => ?_⟩
      · rw [hg, nle (by omega) (by omega)]; omega
      rw [hs.1, hasL h7 (by omega), ncl (by omega)]
      refine ⟨fun q => (c_leastAtRival e' h.1 (by omega)).to ?_, fun q => ⟨nin (by omega) (by omega), (c_leastAtRival e' h.1 (by omega)).to ?_⟩⟩
      · rw [(sl.not (by omega) q).2] at tail
        exact tail
      · rw [(hs.2.2.1 i (by omega) q).2.2.1]
        exact tail
  have := loop (ngV V) 0 (by omega)
  rw [(bO_zero (by omega)).mpr (fun j hj => by simp)] at this
  exact this
end Q5C
section Q5M
variable {M V : Mem}
theorem m_fewest (e : vM (M 57 1) M = V) (h : VB V) (n : Int32) : WpI mX10_fewest [.ref 57, .int n] M (gj gm) (TTc ++ TTm) (fun r M' => r = fewestQ V n ∧ FM M M') := by
  have h4 := h.1.2.1.2.2
  have h7 := h.1.1.2.2
  refine WpI.of rfl rfl nL fun X Q C hk => bX10_fewest_0 C (g_m (n := 30) (by omega) (by omega) rfl (fun q => hk _ _ ⟨gd_lo q, FM.r⟩) (fun q => hk _ _ ⟨gd_hi q, FM.r⟩) fun n hn en => ?_)
  subst en
  unfold fewestQ at hk
  rw [gd_in hn (by omega)] at hk
  have loop : ∀ k j (M1 : Mem), j + k = nbV V → Fr 72 76 M M1 → (∀ i, i < j → fewP V n i = false) → WW X Q 11 [(0, .ref 57), (1, .int (nI n)), (2, .int (nI (j + 1)))] [] (M1, gj gm, TTc ++ TTm) := by
    intro k
    induction k with
    | zero =>
      intro j M1 hj hf ha
      have e1 := rm_b ((vM_cong hf).trans e) h.1
      refine bX10_fewest_11 C ⟨fun _ => hk _ _ ⟨?_, hf.fm⟩, fun q => absurd ?_ q⟩
      · rw [fstP_no (fun i hi => ha i (by omega))]
      · rw [e1, nlt (by omega) (by omega)]; omega
    | succ k ih =>
      intro j M1 hj hf ha
      have e0 := (vM_cong hf).trans e
      have e1 := rm_b e0 h.1
      have hv := vok_few h.1 (k := j) (by omega)
      have e2 : vM (nI (j + 1)) M1 = fewV V j := by rw [vM_open (op := M 57 1), e0]; rfl
      refine bX10_fewest_11 C ⟨fun q => absurd q ?_, fun _ => (m_stay e2 hv).imp ?_⟩
      · rw [e1, nlt (by omega) (by omega)]; omega
      rintro r M2 ⟨hf3, hs, -⟩
      have hf4 := hf.trans hf3
      have hg := rm_g ((vM_cong hf4).trans e) h.1
      refine bX10_fewest_24 C ?_
      have inner : ∀ k i, i + k = ngV V → WW X Q 30 [(0, .ref 57), (1, .int (nI n)), (2, .int (nI (j + 1))), (3, .int (if allP (byP (simN (fewV V j) 30).1 n) i = true then 1 else 0)), (4, .int (nI i))] [] (M2, gj gm, TTc ++ TTm) := by
        intro k
        induction k with
        | zero =>
          intro i hi
          have e3 : i = ngV V := by omega
          subst e3
          refine bX10_fewest_30 C ⟨fun _ => ⟨fun q => ?_, fun q => ?_⟩, fun q => absurd ?_ q⟩
          · replace q : (if fewP V n j = true then (1 : Int32) else 0) = 0 := q
            rw [nI_1]
            refine ih (j + 1) M2 (by omega) hf4 (fun i hi => ?_)
            by_cases z : i = j
            · rw [z]
              by_cases y : fewP V n j = true
              · rw [if_pos y] at q
                exact absurd q (by decide)
              · simpa using y
            · exact ha i (by omega)
          · replace q : ¬ (if fewP V n j = true then (1 : Int32) else 0) = 0 := q
            have y : fewP V n j = true := by
              by_cases y : fewP V n j = true
              · exact y
              · rw [if_neg y] at q
                exact absurd rfl q
            rw [fstP_eq (p := j) (by omega) y ha] at hk
            exact hk _ _ ⟨rfl, hf4.fm⟩
          · rw [hg]; exact i_le_rfl _
        | succ k ih2 =>
          intro i hi
          have st := ih2 (i + 1) (by omega)
          have su : allP (byP (simN (fewV V j) 30).1 n) (i + 1) = (allP (byP (simN (fewV V j) 30).1 n) i && byP (simN (fewV V j) 30).1 n i) := rfl
          rw [su] at st
          obtain ⟨a0, -⟩ := hs i (by show i < ngV V; omega)
          refine bX10_fewest_30 C ⟨fun q => absurd q ?_, fun _ => ?_⟩
          · rw [hg, nle (by omega) (by omega)]; omega
          rw [nI_1, ncl (by omega), a0]
          by_cases y : allP (byP (simN (fewV V j) 30).1 n) i = true
          · rw [if_pos y]
            rw [y] at st
            refine ⟨fun q => absurd q (by decide), fun _ => ⟨nin (by omega) (by omega), fun q => ?_, fun q => ⟨fun q2 => ?_, fun q2 => ?_⟩⟩⟩
            · rw [if_neg (by simp [byP, lies, i_nle.mpr q])] at st
              exact st
            · rw [if_neg (by simp [byP, i_nle.mpr q2])] at st
              exact st
            · rw [if_pos (by simp [byP, lies, i_nlt.mp q, i_nlt.mp q2])] at st
              exact st
          · rw [if_neg y]
            rw [if_neg (by simp [y])] at st
            exact ⟨fun _ => st, fun q => absurd rfl q⟩
      exact inner (ngV V) 0 (by omega)
  exact loop (nbV V) 0 M (by omega) Fr.rfl' (fun i hi => absurd hi (by omega))
theorem m_found (e : vM (M 57 1) M = V) (h : VB V) (i x : Int32) : WpI mX10_found [.ref 57, .int i, .int x] M (gj gm) (TTc ++ TTm) (fun r M' => r = foundQ V i x ∧ FM M M') := by
  have h7 := h.1.1.2
  refine WpI.of rfl rfl nL fun X Q C hk => bX10_found_0 C (g_m h7.1 (by omega) (by rw [rm_g e h.1]) (fun q => hk _ _ ⟨gd_lo q, FM.r⟩) (fun q => hk _ _ ⟨gd_hi q, FM.r⟩) fun i hi ei => ?_)
  subst ei
  unfold foundQ at hk
  rw [gd_in hi (by omega)] at hk
  refine g_m (n := 11) (by omega) (by omega) rfl (fun q => hk _ _ ⟨gd_lo q, FM.r⟩) (fun q => hk _ _ ⟨gd_hi q, FM.r⟩) fun x hx ex => ?_
  subst ex
  rw [gd_in hx (by omega)] at hk
  have i7 : vp_in (nI i) 7 := nin (by omega) (by omega)
  have j7 : vp_in (nI (7 + i)) 21 := nin (by omega) (by omega)
  have j14 : vp_in (nI (14 + i)) 21 := nin (by omega) (by omega)
  have hcl : (nI i).toNatClampNeg = i := ncl (by omega)
  have hc7 : (nI (7 + i)).toNatClampNeg = 7 + i := ncl (by omega)
  have hc14 : (nI (14 + i)).toNatClampNeg = 14 + i := ncl (by omega)
  refine (m_stayA e h.1).imp ?_
  rintro r M' ⟨hf, hs, rfl⟩
  have e' := (vM_cong hf).trans e
  have sl := SI.sim h.1 (n := 30) (by omega)
  obtain ⟨ec, hc⟩ := rg_nat (b := 9) (h.2.2.2.2 i hi) (by omega)
  have loop : ∀ k n (L : Nat) (a : Int32), L < 30 → L = lastS (simN V 30).1 i → (V 1 i).toNatClampNeg ≤ n → n < 60 → L + 1 - n = k → (n ≤ L + 1 ∨ n = (V 1 i).toNatClampNeg) → WW X Q 130 [(0, .ref 57), (1, .int (nI i)), (2, .int (nI x)), (3, .int (nI L)), (4, .int a), (5, .int (eachS V i x)), (6, .int (fndC (eachS V i x) (n - (V 1 i).toNatClampNeg))), (7, .int (nI n))] [] (M', gj gm, TTc ++ TTm) := by
    intro k
    induction k with
    | zero =>
      intro n L a hL eL h1 h2 h3 h4
      refine bX10_found_130 C ⟨fun _ => hk _ _ ⟨?_, hf.fm⟩, fun q => absurd ?_ q⟩
      · rw [← eL, show L + 1 - (V 1 i).toNatClampNeg = n - (V 1 i).toNatClampNeg by omega]
      · rw [nlt (by omega) (by omega)]; omega
    | succ k ih =>
      intro n L a hL eL h1 h2 h3 h4
      refine bX10_found_130 C ⟨fun q => absurd q ?_, fun _ => ?_⟩
      · rw [nlt (by omega) (by omega)]; omega
      have := ih (n + 1) L a hL eL (by omega) (by omega) (by omega) (Or.inl (by omega))
      rw [show n + 1 - (V 1 i).toNatClampNeg = (n - (V 1 i).toNatClampNeg) + 1 by omega] at this
      rw [nI_1]
      exact this
  have mid : ∀ L : Nat, L < 30 → L = lastS (simN V 30).1 i → WW X Q 88 [(0, .ref 57), (1, .int (nI i)), (2, .int (nI x)), (3, .int (nI L)), (4, .int (absS (V 4 i)))] [] (M', gj gm, TTc ++ TTm) := by
    intro L hL eL
    have fin : WW X Q 114 [(0, .ref 57), (1, .int (nI i)), (2, .int (nI x)), (3, .int (nI L)), (4, .int (absS (V 4 i))), (5, .int (eachS V i x))] [] (M', gj gm, TTc ++ TTm) := by
      refine bX10_found_114 C ?_
      rw [n14, hc14, rm_1 e' hi]
      have := loop (L + 1 - (V 1 i).toNatClampNeg) (V 1 i).toNatClampNeg L (absS (V 4 i)) hL eL (by omega) (by omega) rfl (Or.inr rfl)
      rw [Nat.sub_self, ← ec] at this
      exact ⟨j14, this⟩
    refine bX10_found_88 C ⟨fun q => ?_, fun q => ?_⟩
    · unfold eachS at fin
      by_cases z : 0 < 1000 - 10 * nI x * absS (V 4 i)
      · rw [if_pos z] at fin
        exact fin
      · rw [if_neg z] at fin
        have : 1000 - 10 * nI x * absS (V 4 i) = 0 := by
          rw [fa_lt] at z
          rw [fa_le] at q
          rw [fa_eq]
          omega
        rw [this]
        exact fin
    · unfold eachS at fin
      rw [if_neg (fun z => q (i_lt_le z))] at fin
      exact fin
  have top : ∀ L : Nat, L < 30 → L = lastS (simN V 30).1 i → WW X Q 52 [(0, .ref 57), (1, .int (nI i)), (2, .int (nI x)), (3, .int (nI L))] [] (M', gj gm, TTc ++ TTm) := by
    intro L hL eL
    have := mid L hL eL
    unfold absS at this
    refine bX10_found_52 C ?_
    rw [n7, hc7, rm_4 e' hi]
    refine ⟨j7, fun q => ⟨j7, ?_⟩, fun q => ⟨j7, ?_⟩⟩
    · rw [if_pos q] at this
      exact this
    · rw [if_neg q] at this
      exact this
  refine bX10_found_30 C ?_
  obtain ⟨a0, -⟩ := hs i hi
  rw [hcl, a0]
  refine ⟨i7, fun q => ⟨i7, ?_⟩, fun q => top 29 (by omega) ?_⟩
  · obtain ⟨m, hm, em, -⟩ := sl.lies hi q
    rw [em]
    refine top m hm ?_
    unfold lastS
    rw [if_pos q, em, ncl (by omega)]
  · unfold lastS; rw [if_neg q]
theorem m_rival (e : vM (M 57 1) M = V) (h : VB V) : WpI mX10_rival [.ref 57] M (gj gm) (TTc ++ TTm) (fun r M' => r = rivalQ V ∧ FM M M') := by
  have h7 := h.1.1.2.2
  have h4 := h.1.2.2.2.1.2
  refine WpI.of rfl rfl nL fun X Q C hk => bX10_rival_0 C ((m_stayA e h.1).imp ?_)
  rintro r M' ⟨hf, hs, rfl⟩
  have e' := (vM_cong hf).trans e
  have hg := rm_g e' h.1
  refine bX10_rival_8 C ?_
  have loop : ∀ k i, i + k = ngV V → WW X Q 13 [(0, .ref 57), (1, .int (bO (ngV V) (fun j => decide (j < i) && rivP V j))), (2, .int (nI i))] [] (M', gj gm, TTc ++ TTm) := by
    intro k
    induction k with
    | zero =>
      intro i hi
      refine bX10_rival_13 C ⟨fun _ => hk _ _ ⟨?_, hf.fm⟩, fun q => absurd ?_ q⟩
      · exact bO_cong (fun j hj => by simp [show j < i by omega])
      · rw [hg, show i = ngV V by omega]; exact i_le_rfl _
    | succ k ih =>
      intro i hi
      have st := ih (i + 1) (by omega)
      obtain ⟨ec, hc⟩ := rg_nat (b := 9) (h.2.2.2.2 i (by omega)) (by omega)
      obtain ⟨a0, a2, -⟩ := hs i (by omega)
      refine bX10_rival_13 C ⟨fun q => absurd q ?_, fun _ => ?_⟩
      · rw [hg, nle (by omega) (by omega)]; omega
      have inner : ∀ k m, m + k = nrV V → WW X Q 23 [(0, .ref 57), (1, .int (bO (ngV V) (fun j => (decide (j < i) && rivP V j) || (decide (j = i) && anyP (rivR V i) m)))), (2, .int (nI i)), (3, .int (nI m))] [] (M', gj gm, TTc ++ TTm) := by
        intro k
        induction k with
        | zero =>
          intro m hm
          have e3 : m = nrV V := by omega
          subst e3
          refine bX10_rival_23 C ⟨fun _ => ?_, fun q => absurd ?_ q⟩
          · rw [nI_1]
            rw [bO_cong (q := fun j => (decide (j < i) && rivP V j) || (decide (j = i) && anyP (rivR V i) (nrV V))) (fun j hj => by
              by_cases y : j = i
              · subst y; simp [rivP]
              · by_cases y2 : j < i
                · simp [y, y2, show j < i + 1 by omega]
                · simp [y, y2, show ¬ j < i + 1 by omega])] at st
            exact st
          · rw [rm_r e' h.1]; exact i_le_rfl _
        | succ k ih2 =>
          intro m hm
          have st2 := ih2 (m + 1) (by omega)
          refine bX10_rival_23 C ⟨fun q => absurd q ?_, fun _ => ?_⟩
          · rw [rm_r e' h.1, nle (by omega) (by omega)]; omega
          rw [n14, ncl (by omega), rm_1 e' (by omega)]
          refine ⟨nin (by omega) (by omega), ?_⟩
          have hh := m_inchesOn e' h.1 (i := i) (by omega) (n := (V 1 i).toNatClampNeg) (by omega)
          rw [← ec] at hh
          refine hh.to (bX10_rival_47 C ⟨nin (by omega) (by omega), ?_⟩)
          rw [ncl (by omega), rm_8 e' (by omega)]
          refine (m_harmBy e' h.1 (by omega) _).to (bX10_rival_57 C ⟨nin (by omega) (by omega), ?_⟩)
          rw [ncl (by omega), a2, nI_1, bO_add (by omega) (by omega), i_or0]
          have su : anyP (rivR V i) (m + 1) = (anyP (rivR V i) m || rivR V i m) := rfl
          refine ⟨fun q => ?_, fun q => ?_⟩
          · have z : rivR V i m = false := by unfold rivR rivH; exact decide_eq_false (i_nlt.mpr q)
            rw [su, z, Bool.or_false] at st2
            exact st2
          · have z : rivR V i m = true := by unfold rivR rivH; exact decide_eq_true (i_nle.mp q)
            rw [su, z, Bool.or_true] at st2
            rw [bO_cong (q := fun j => ((decide (j < i) && rivP V j) || (decide (j = i) && anyP (rivR V i) m)) || decide (j = i)) (fun j hj => by
              by_cases y : j = i
              · simp [y]
              · simp [y])] at st2
            exact st2
      have := inner (nrV V) 0 (by omega)
      rw [bO_cong (q := fun j => decide (j < i) && rivP V j) (fun j hj => by simp [anyP])] at this
      exact this
  have := loop (ngV V) 0 (by omega)
  rw [(bO_zero (by omega)).mpr (fun j hj => by simp)] at this
  exact this
end Q5M
