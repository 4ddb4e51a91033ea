theorem fb_holes : ∀ (m n : Nat) (f : Nat → Nat), (∀ i, i < n → f i < m) → (∀ i j, i < j → j < n → f i ≠ f j) → n ≤ m := by
  intro m
  induction m with
  | zero =>
    intro n f h1 _
    rcases Nat.eq_zero_or_pos n with h | h
    · omega
    · exact absurd (h1 0 h) (Nat.not_lt_zero _)
  | succ m ih =>
    intro n f h1 h2
    by_cases hx : ∃ i, i < n ∧ f i = m
    · obtain ⟨a, ha, hfa⟩ := hx
      have hg := ih (n - 1) (fun i => if i < a then f i else f (i + 1)) (by
        intro i hi
        by_cases q : i < a
        · simp only [if_pos q]
          have b1 := h1 i (by omega)
          have b2 := h2 i a q ha
          omega
        · simp only [if_neg q]
          have b1 := h1 (i + 1) (by omega)
          have b2 := h2 a (i + 1) (by omega) (by omega)
          omega) (by
        intro i j hij hj
        by_cases q : i < a
        · by_cases r : j < a
          · simp only [if_pos q, if_pos r]
            exact h2 i j hij (by omega)
          · simp only [if_pos q, if_neg r]
            exact h2 i (j + 1) (by omega) (by omega)
        · have r : ¬ j < a := by omega
          simp only [if_neg q, if_neg r]
          exact h2 (i + 1) (j + 1) (by omega) (by omega))
      omega
    · have hg := ih n f (fun i hi => by
        have b1 := h1 i hi
        have b2 : f i ≠ m := fun e => hx ⟨i, hi, e⟩
        omega) h2
      omega
/-- two of them in one place -/
theorem fb_twice {m n : Nat} {f : Nat → Nat} (h : ∀ i, i < n → f i < m) (hm : m < n) : ∃ i j, i < j ∧ j < n ∧ f i = f j := by
  refine Classical.byContradiction fun hx => ?_
  have := fb_holes m n f h (fun i j hij hj e => hx ⟨i, j, hij, hj, e⟩)
  omega
/-- as many as places, none twice: each place is taken -/
theorem fb_onto {n : Nat} {f : Nat → Nat} (h : ∀ i, i < n → f i < n) (h2 : ∀ i j, i < j → j < n → f i ≠ f j) {y : Nat} (hy : y < n) : ∃ i, i < n ∧ f i = y := by
  refine Classical.byContradiction fun hx => ?_
  have hne : ∀ i, i < n → f i ≠ y := fun i hi e => hx ⟨i, hi, e⟩
  have := fb_holes (n - 1) n (fun i => if f i < y then f i else f i - 1) (by
    intro i hi
    have b1 := h i hi
    have b2 := hne i hi
    by_cases q : f i < y
    · simp only [if_pos q]; omega
    · simp only [if_neg q]; omega) (by
    intro i j hij hj
    have b1 := hne i (by omega)
    have b2 := hne j hj
    have b3 := h2 i j hij hj
    by_cases q : f i < y
    · by_cases r : f j < y
      · simp only [if_pos q, if_pos r]; exact b3
      · simp only [if_pos q, if_neg r]; omega
    · by_cases r : f j < y
      · simp only [if_neg q, if_pos r]; omega
      · simp only [if_neg q, if_neg r]; omega)
  omega
/-! the class: the nights -/
theorem rwN_onto {V : Mem} (h : VOK V) {y : Nat} (hy : y < ngV V) : ∃ p, p < ngV V ∧ rwN V p = y :=
  fb_onto (fun i hi => (rwN_lt h hi).1) (fun i j hij hj e => by
    have a := (rwN_lt h (show i < ngV V by omega)).2
    have b := (rwN_lt h hj).2
    have := h.2.2.2.2.2.1 i j (by omega) hj (by rw [a, b, e])
    omega) hy
theorem give_idle {V : Mem} {s : Mem × Nat} {b n : Nat} (h : VOK V) (ha : ∀ i, i < ngV V → wtS V s.1 n i = false) : giveS V s b n = s :=
  giveS_none (fstP_no fun p hp => ha _ (rwN_lt h hp).1)
theorem beds_idle {V : Mem} {n b : Nat} {s : Mem × Nat} (h : VOK V) (ha : ∀ i, i < ngV V → wtS V (bedS V n b s).1 n i = false) : ∀ k, bedS V n (b + k) s = bedS V n b s
  | 0 => rfl
  | k + 1 => by
    show giveS V (bedS V n (b + k) s) (b + k) n = _
    rw [beds_idle h ha k, give_idle h ha]
def SimC (M V : Mem) (s : Mem × Nat) : Prop := M 4 5 = bO (ngV V) (lies s.1) ∧ (∀ i, i < ngV V → M 9 i = s.1 4 i) ∧ (∀ i, i < ngV V → 0 ≤ s.1 0 i → M 5 i = s.1 0 i ∧ M 6 i = s.1 1 i ∧ M 7 i = s.1 2 i ∧ M 8 i = s.1 3 i) ∧ M 4 6 = lsum s.1 (ngV V) ∧ M 4 7 = nI s.2
theorem lsum_lie {V σ : Mem} {w b n : Nat} {nam x : Int32} {c : Nat} (hw : w < ngV V) (hn : n < 30) (h0 : σ 0 w < 0) : lsum (lieS V (wr σ 4 c x) w b n nam) (ngV V) = lsum σ (ngV V) + hS V w b n := by
  unfold lsum
  have e : (fun i => if 0 ≤ lieS V (wr σ 4 c x) w b n nam 0 i then lieS V (wr σ 4 c x) w b n nam 2 i else 0) = upd (fun i => if 0 ≤ σ 0 i then σ 2 i else 0) w (hS V w b n) := by
    funext i
    rw [lieS_0, lieS_2]
    unfold upd
    by_cases q : i = w
    · simp only [if_pos q]
      rw [if_pos (nI_pos' (by omega))]
    · simp only [if_neg q]
      simp [wr]
  rw [e, sumI_upd hw, if_neg (i_nle.mpr h0)]
  grind
theorem wt_lie {V σ : Mem} {w b n c : Nat} {nam x : Int32} (hn : n < 30) (i : Nat) : wtS V (lieS V (wr σ 4 c x) w b n nam) n i = (wtS V σ n i && !decide (i = w)) := by
  unfold wtS
  rw [lieS_0]
  by_cases q : i = w
  · simp [q, nI_pos (show n < 2 ^ 31 by omega)]
  · simp [q, wr]
section CP
variable {M : Mem} {G2 : Grf} {T2 : List (Nat × Nat)}
theorem SimC.step {V : Mem} {s : Mem × Nat} {p b n : Nat} (h : VOK V) (hs : SimC M V s) (hn : n < 30) (hp : p < ngV V) (hw : wtS V s.1 n (rwN V p) = true) {w : Nat} {nam hx : Int32} (ew : (whoS V s.1 b n (rwN V p)).1 = w) (en : (whoS V s.1 b n (rwN V p)).2 = nam) (eh : hS V w b n = hx) :
    SimC (wr (wr (wr (wr (wr (wr (wr (wr M 4 7 (nI (max s.2 p))) 9 (rwN V p) (M 9 (rwN V p) + 1)) 5 w (nI n)) 6 w (nI b)) 7 w hx) 8 w nam) 4 6 (M 4 6 + hx)) 4 5 (M 4 5 ||| ((1 : Int32) <<< (nI w &&& 31)))) V (lieS V (wr s.1 4 (rwN V p) (s.1 4 (rwN V p) + 1)) w b n nam, max s.2 p) := by
  obtain ⟨h1, h2, h3, h4, h5⟩ := hs
  have h7 := h.1.2.2
  have hww := whoS_spec (b := b) (rwN_lt h hp).1 hw
  rw [ew] at hww
  have hw0 : s.1 0 w < 0 := by
    have := hww.2
    unfold wtS at this
    simp only [Bool.and_eq_true, decide_eq_true_eq] at this
    exact this.1
  subst eh
  refine ⟨?_, fun i hi => ?_, fun i hi hl => ?_, ?_, ?_⟩
  · show wr _ 4 5 _ 4 5 = _
    rw [wr_eq]
    simp only [upd, if_true]
    rw [h1, bO_add (by omega) hww.1]
    apply bO_cong
    intro i hi
    unfold lies
    rw [lieS_0]
    by_cases q : i = w
    · simp [q, nI_pos' (show n < 2 ^ 31 by omega)]
    · simp [q, wr]
  · have e1 := h2 i hi
    have e2 := h2 (rwN V p) (rwN_lt h hp).1
    show _ = lieS V (wr s.1 4 (rwN V p) (s.1 4 (rwN V p) + 1)) w b n nam 4 i
    rw [lieS_4]
    simp [wr, e2]
    unfold upd
    split
    · rfl
    · exact e1
  · have hl' : 0 ≤ lieS V (wr s.1 4 (rwN V p) (s.1 4 (rwN V p) + 1)) w b n nam 0 i := hl
    show _ = lieS V (wr s.1 4 (rwN V p) (s.1 4 (rwN V p) + 1)) w b n nam 0 i ∧ _ = lieS V (wr s.1 4 (rwN V p) (s.1 4 (rwN V p) + 1)) w b n nam 1 i ∧ _ = lieS V (wr s.1 4 (rwN V p) (s.1 4 (rwN V p) + 1)) w b n nam 2 i ∧ _ = lieS V (wr s.1 4 (rwN V p) (s.1 4 (rwN V p) + 1)) w b n nam 3 i
    rw [lieS_0] at hl'
    rw [lieS_0, lieS_1, lieS_2, lieS_3]
    by_cases q : i = w
    · subst q
      simp [wr, upd]
    · rw [if_neg q] at hl'
      have := h3 i hi (by simpa [wr] using hl')
      simp [wr, upd, q, this]
  · show wr _ 4 5 _ 4 6 = lsum (lieS V (wr s.1 4 (rwN V p) (s.1 4 (rwN V p) + 1)) w b n nam) (ngV V)
    rw [lsum_lie hww.1 hn hw0]
    simp [wr, upd, h4]
  · simp [wr, upd]
theorem c_fillBeds {V : Mem} (e : vC M = V) (h : VOK V) {s : Mem × Nat} (hs : SimC M V s) (hd : s.2 < ngV V) {n : Nat} (hn : n < 30) : WpV mX3_fillBeds [.ref 4, .ref 33, .int (nI n)] M (gj G2) (TTc ++ T2) (fun M' => Fr 4 9 M M' ∧ SimC M' V (bedS V n (opV V) s)) := by
  obtain ⟨⟨hg0, hg1, hg7⟩, ⟨-, -, hb4⟩, ⟨ho, hob⟩, -⟩ := id h
  refine WpV.of rfl rfl nL fun X Q C hk => bX3_fillBeds_0 C ?_
  refine (c_hereBy e h).to (bX3_fillBeds_8 C ?_)
  have e0 : bO (ngV V) (fun i => decide (V 1 i ≤ nI n)) &&& (M 4 5 ^^^ -1) = bO (ngV V) (wtS V s.1 n) := by
    rw [hs.1, bO_and (by omega)]
    apply bO_cong
    intro i hi
    unfold wtS lies
    by_cases q : 0 ≤ s.1 0 i
    · simp [q, i_nlt.mpr q]
    · simp [q, i_nle.mp q, Bool.and_comm]
  rw [e0]
  have loop : ∀ k b (M1 : Mem), b + k = opV V → Fr 4 9 M M1 → SimC M1 V (bedS V n b s) → WW X Q 19 [(0, .ref 4), (1, .ref 33), (2, .int (nI n)), (3, .int (bO (ngV V) (wtS V (bedS V n b s).1 n))), (4, .int (nI b))] [] (M1, gj G2, TTc ++ T2) := by
    intro k
    induction k with
    | zero =>
      intro b M1 hb hf hsim
      have e1 := (vC_cong hf).trans e
      have eo : M1 34 4 = nI (opV V) := by rw [← ho, ← e1]; rfl
      refine bX3_fillBeds_19 C ⟨fun _ => hk _ ⟨hf, ?_⟩, fun q => absurd ?_ q⟩
      · rw [← hb]; exact hsim
      · rw [eo, nle (by omega) (by omega)]; omega
    | succ k ih =>
      intro b M1 hb hf hsim
      have e1 := (vC_cong hf).trans e
      have eo : M1 34 4 = nI (opV V) := by rw [← ho, ← e1]; rfl
      have hbb : b < nbV V := by omega
      refine bX3_fillBeds_19 C ⟨fun q => absurd q ?_, fun _ => ⟨fun q => hk _ ⟨hf, ?_⟩, fun q => ?_⟩⟩
      · rw [eo, nle (by omega) (by omega)]; omega
      · rw [bO_zero (by omega)] at q
        have := beds_idle (k := k + 1) (s := s) (b := b) (n := n) h q
        rw [← hb, this]
        exact hsim
      · have hex : ∃ i, i < ngV V ∧ wtS V (bedS V n b s).1 n i = true := by
          refine Classical.byContradiction fun z => q ?_
          rw [bO_zero (by omega)]
          intro i hi
          cases hh : wtS V (bedS V n b s).1 n i with
          | false => rfl
          | true => exact absurd ⟨i, hi, hh⟩ z
        have hdb := (dp_beds h (n := n) (k := b) hd).1
        rcases clS_spec (σ := (bedS V n b s).1) (n := n) h with ⟨-, q2⟩ | ⟨p, ecl, hp, hr, hw, hlo⟩
        · obtain ⟨i, hi, hi2⟩ := hex
          obtain ⟨p, hp, rfl⟩ := rwN_onto h hi
          rw [q2 p hp] at hi2
          cases hi2
        have hlast : bedS V n (b + 1) s = giveS V (bedS V n b s) b n := rfl
        rw [giveS_some ecl] at hlast
        refine (c_callFirst e1 h hp hw hlo hsim.2.2.2.2 hdb).imp ?_
        rintro r M2 ⟨rfl, rfl⟩
        have hf2 : Fr 4 9 M (wr (wr M1 4 7 (nI (max (bedS V n b s).2 p))) 9 (rwN V p) (M1 9 (rwN V p) + 1)) := (hf.wr (by omega) (by omega)).wr (by omega) (by omega)
        have e2 := (vC_cong hf2).trans e
        refine bX3_fillBeds_44 C ((c_lengthOn e2 h hbb hn).to ?_)
        refine bX3_fillBeds_56 C ((c_bestOf (σ := (bedS V n b s).1) e2 h hr hbb hn).to ?_)
        have hww := whoS_spec (b := b) hr hw
        have hcl : (nI (whoS V (bedS V n b s).1 b n (rwN V p)).1).toNatClampNeg = (whoS V (bedS V n b s).1 b n (rwN V p)).1 := ncl (by omega)
        have es : ∀ M3 : Mem, vC M3 = V → M3 37 6 = nI (ngV V) := fun M3 e3 => by rw [← hg0, ← e3]; rfl
        refine bX3_fillBeds_69 C ⟨fun z => absurd z (nn0 (by omega)), fun _ => ⟨fun z => absurd z ?_, fun _ => ⟨nin (by omega) (by omega), nin (by omega) (by omega), ?_⟩⟩⟩
        · rw [es _ e2, nle (by omega) (by omega)]; omega
        rw [hcl]
        generalize ew : (whoS V (bedS V n b s).1 b n (rwN V p)).1 = w at *
        have enm := whoS_nam (V := V) (σ := (bedS V n b s).1) (b := b) (n := n) (c := rwN V p)
        rw [ew] at enm
        have hf3 := (hf2.wr (c := 5) (j := w) (v := nI n) (by omega) (by omega)).wr (c := 6) (j := w) (v := nI b) (by omega) (by omega)
        have e3 := (vC_cong hf3).trans e
        refine (c_harmAt e3 h hww.1 (by omega) _).to ?_
        show WW X Q 119 _ [.int (hS V w b n), .int (nI w), .ref 7] _
        have hfin : ∀ nam, (whoS V (bedS V n b s).1 b n (rwN V p)).2 = nam → WW X Q 19 [(0, .ref 4), (1, .ref 33), (2, .int (nI n)), (3, .int (bO (ngV V) (wtS V (bedS V n b s).1 n) &&& (((1 : Int32) <<< (nI w &&& 31)) ^^^ -1))), (4, .int (nI b + 1))] [] (wr (wr (wr (wr (wr (wr (wr (wr M1 4 7 (nI (max (bedS V n b s).2 p))) 9 (rwN V p) (M1 9 (rwN V p) + 1)) 5 w (nI n)) 6 w (nI b)) 7 w (hS V w b n)) 8 w nam) 4 6 (M1 4 6 + hS V w b n)) 4 5 (M1 4 5 ||| ((1 : Int32) <<< (nI w &&& 31))), gj G2, TTc ++ T2) := by
          intro nam hnam
          rw [bO_del (by omega) hww.1, nI_1]
          have hst := SimC.step (b := b) h hsim hn hp hw ew hnam rfl
          rw [hnam] at hlast
          rw [← hlast] at hst
          have hwt : (fun i => wtS V (bedS V n b s).1 n i && !decide (i = w)) = wtS V (bedS V n (b + 1) s).1 n := by
            funext i
            rw [hlast]
            exact (wt_lie hn i).symm
          rw [hwt]
          exact ih (b + 1) _ (by omega) ((((hf3.wr (by omega) (by omega)).wr (by omega) (by omega)).wr (by omega) (by omega)).wr (by omega) (by omega)) hst
        have hex2 : ∀ nam : Int32, wr (wr (wr (wr (wr (wr (wr (wr M1 4 7 (nI (max (bedS V n b s).2 p))) 9 (rwN V p) (M1 9 (rwN V p) + 1)) 5 w (nI n)) 6 w (nI b)) 7 (nI w).toNatClampNeg (hS V w b n)) 8 (nI w).toNatClampNeg nam) 4 6 ((wr (wr (wr (wr M1 4 7 (nI (max (bedS V n b s).2 p))) 9 (rwN V p) (M1 9 (rwN V p) + 1)) 5 w (nI n)) 6 w (nI b)) 4 6 + (upd ((wr (wr (wr (wr M1 4 7 (nI (max (bedS V n b s).2 p))) 9 (rwN V p) (M1 9 (rwN V p) + 1)) 5 w (nI n)) 6 w (nI b)) 7) (nI w).toNatClampNeg (hS V w b n)) (nI w).toNatClampNeg)) 4 5 ((wr (wr (wr (wr M1 4 7 (nI (max (bedS V n b s).2 p))) 9 (rwN V p) (M1 9 (rwN V p) + 1)) 5 w (nI n)) 6 w (nI b)) 4 5 ||| ((1 : Int32) <<< (nI w &&& 31))) = wr (wr (wr (wr (wr (wr (wr (wr M1 4 7 (nI (max (bedS V n b s).2 p))) 9 (rwN V p) (M1 9 (rwN V p) + 1)) 5 w (nI n)) 6 w (nI b)) 7 w (hS V w b n)) 8 w nam) 4 6 (M1 4 6 + hS V w b n)) 4 5 (M1 4 5 ||| ((1 : Int32) <<< (nI w &&& 31))) := by
          intro nam
          rw [hcl]
          simp [wr, upd]
        refine bX3_fillBeds_119 C ⟨nin (by omega) (by omega), fun z => ⟨nin (by omega) (by omega), nin (by omega) (by omega), ?_⟩, fun z => ⟨nin (by omega) (by omega), nin (by omega) (by omega), ?_⟩⟩
        · rw [hex2]
          refine hfin _ ?_
          rw [enm, if_neg (fun y => z (by rw [y]))]
        · rw [hex2]
          refine hfin _ ?_
          rw [enm, if_pos ((neq (by omega) (by omega)).mp z)]
  exact loop (opV V) 0 M (by omega) Fr.rfl' hs
end CP
