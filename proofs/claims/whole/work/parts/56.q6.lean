/-! questions: cushion, slept -/
def cuX (k : Nat) : Int32 := nI (k % 19) - 9
def cuF (V : Mem) (k : Nat) : Int32 := allS (wr V 4 (k / 19) (cuX k))
def cushionQ (V : Mem) (w : Int32) : Int32 := gd 3 w fun w => if w = 0 then nI (bst (cuF V) (19 * ngV V) / 19) else if w = 1 then cuX (bst (cuF V) (19 * ngV V)) + 100 else cuF V (bst (cuF V) (19 * ngV V))
theorem cu_ti {c : Nat} (h : c < 1000) : (nI c - 9).toInt = (c : Int) - 9 := pk_sub_toInt (a := c) (b := 9) (by omega) (by omega)
theorem cu_rg (k : Nat) : rgI (cuX k) (-9) 9 := by
  unfold rgI cuX
  rw [cu_ti (by omega)]
  omega
def nlR (R : Mem) : Nat := (R 3 0).toNatClampNeg
def ROK (V R : Mem) : Prop := (R 3 0 = nI (nlR R) ∧ nlR R ≤ 6) ∧ ∀ k, k < nlR R → (∃ b, b < nbV V ∧ R 0 k = nI b) ∧ (∃ n, n < 30 ∧ R 1 k = nI n) ∧ rgI (R 2 k) 0 99
def rC (M : Mem) : Mem := fun c => match c with
  | 0 => nrm (M 24 4).toNatClampNeg (M 25)
  | 1 => nrm (M 24 4).toNatClampNeg (M 26)
  | 2 => nrm (M 24 4).toNatClampNeg (M 27)
  | _ => fun _ => M 24 4
def rM (M : Mem) : Mem := fun c => match c with
  | 0 => nrm (M 57 39).toNatClampNeg (fun k => M 80 (3 * k))
  | 1 => nrm (M 57 39).toNatClampNeg (fun k => M 80 (3 * k + 1))
  | 2 => nrm (M 57 39).toNatClampNeg (fun k => M 80 (3 * k + 2))
  | _ => fun _ => M 57 39
def slpP (V R : Mem) (k i : Nat) : Bool := decide (V 1 i ≤ R 1 k) && decide (hS V i (R 0 k).toNatClampNeg (R 1 k).toNatClampNeg = R 2 k)
def slpS (V R : Mem) (k : Nat) : Int32 := bO (ngV V) (slpP V R k)
def sleptQ (V R : Mem) (k : Int32) : Int32 := gd (nlR R) k fun k => slpS V R k
theorem bO_step {n i : Nat} {p : Nat → Bool} {b : Bool} (h : p i = b) : bO n (fun j => decide (j < i + 1) && p j) = bO n (fun j => (decide (j < i) && p j) || (decide (j = i) && b)) := bO_cong (fun j hj => by
  by_cases y : j = i
  · subst y; simp [h]
  · by_cases y2 : j < i
    · simp [y, y2, show j < i + 1 by omega]
    · simp [y, y2, show ¬ j < i + 1 by omega])
theorem bO_st0 {n i : Nat} {p : Nat → Bool} (h : p i = false) : bO n (fun j => decide (j < i + 1) && p j) = bO n (fun j => decide (j < i) && p j) := by
  rw [bO_step h]
  exact bO_cong (fun j hj => by simp)
theorem bO_st1 {n i : Nat} {p : Nat → Bool} (hn : n ≤ 31) (hi : i < n) (h : p i = true) : bO n (fun j => decide (j < i + 1) && p j) = bO n (fun j => decide (j < i) && p j) ||| ((1 : Int32) <<< (nI i &&& 31)) := by
  rw [bO_step h, bO_add hn hi]
  exact bO_cong (fun j hj => by simp)
theorem bO_beg {n : Nat} {p : Nat → Bool} (hn : n ≤ 31) : bO n (fun j => decide (j < 0) && p j) = 0 := (bO_zero hn).mpr (fun j hj => by simp)
theorem bO_end {n i : Nat} {p : Nat → Bool} (h : i = n) : bO n (fun j => decide (j < i) && p j) = bO n p := bO_cong (fun j hj => by simp [show j < i by omega])
section Q6C
variable {M V R : Mem} {G2 : Grf} {T2 : List (Nat × Nat)}
theorem c_cushion (e : vC M = V) (h : VB V) (w : Int32) : WpI mX9_cushion [.ref 0, .int w] M (gj G2) (TTc ++ T2) (fun r M' => r = cushionQ V w ∧ FC M M') := by
  have h7 := h.1.1.2
  have hgn : (M 37 6).toNatClampNeg = ngV V := by rw [rc_g e h.1, ncl (by omega)]
  refine WpI.of rfl rfl nL fun X Q C hk => bX9_cushion_0 C (g_m (n := 3) (by omega) (by omega) rfl (fun q => hk _ _ ⟨gd_lo q, FC.r⟩) (fun q => hk _ _ ⟨gd_hi q, FC.r⟩) fun w hw ew => ?_)
  subst ew
  unfold cushionQ at hk
  rw [gd_in hw (by omega)] at hk
  have outer : ∀ k i (M1 : Mem) (l b1 b2 : Int32), i + k = ngV V → Fr 4 9 M M1 → ACg (cuF V) (fun k => nI (k / 19)) (19 * i) l b1 → ACg (cuF V) cuX (19 * i) l b2 → WW X Q 22 [(0, .ref 0), (1, .int (nI w)), (2, .int l), (3, .int b1), (4, .int b2), (5, .int (nI i))] [] (M1, gj G2, TTc ++ T2) := by
    intro k
    induction k with
    | zero =>
      intro i M1 l b1 b2 hi hf a1 a2
      have e3 : i = ngV V := by omega
      subst e3
      have hg := rc_g ((vC_cong hf).trans e) h.1
      obtain ⟨f1, fl⟩ := a1.fin (by omega)
      obtain ⟨f2, -⟩ := a2.fin (by omega)
      refine bX9_cushion_22 C ⟨fun _ => ?_, fun q => absurd ?_ q⟩
      · rcases w with _ | _ | _ | w
        · exact ⟨fun _ => hk _ _ ⟨by rw [f1]; rfl, hf.fc⟩, fun q => absurd rfl q⟩
        · exact ⟨fun q => absurd q (by decide), fun _ => ⟨fun _ => hk _ _ ⟨by rw [f2]; rfl, hf.fc⟩, fun q => absurd rfl q⟩⟩
        · exact ⟨fun q => absurd q (by decide), fun _ => ⟨fun q => absurd q (by decide), fun _ => hk _ _ ⟨by rw [fl]; rfl, hf.fc⟩⟩⟩
        · omega
      · rw [hg]; exact i_le_rfl _
    | succ k ih =>
      intro i M1 l b1 b2 hi hf a1 a2
      have hg := rc_g ((vC_cong hf).trans e) h.1
      have i7 : vp_in (nI i) 7 := nin (by omega) (by omega)
      have hcl : (nI i).toNatClampNeg = i := ncl (by omega)
      refine bX9_cushion_22 C ⟨fun q => absurd q ?_, fun _ => ⟨i7, ?_⟩⟩
      · rw [hg, nle (by omega) (by omega)]; omega
      rw [hcl, hf 42 (by omega)]
      have inner : ∀ k c (M2 : Mem) (x l b1 b2 : Int32), c + k = 19 → Fr 4 9 (wr M 42 i x) M2 → ACg (cuF V) (fun k => nI (k / 19)) (19 * i + c) l b1 → ACg (cuF V) cuX (19 * i + c) l b2 → WW X Q 56 [(0, .ref 0), (1, .int (nI w)), (2, .int l), (3, .int b1), (4, .int b2), (5, .int (nI i)), (6, .int (M 42 i)), (7, .int (nI c - 9))] [] (M2, gj G2, TTc ++ T2) := by
        intro k
        induction k with
        | zero =>
          intro c M2 x l b1 b2 hc hf2 a1 a2
          have e3 : c = 19 := by omega
          subst e3
          refine bX9_cushion_56 C ⟨fun _ => ⟨i7, ?_⟩, fun q => absurd (by decide) q⟩
          rw [hcl, nI_1]
          have := fr_rw (y := M 42 i) hf2
          rw [wr_self] at this
          exact ih (i + 1) _ l b1 b2 (by omega) this a1 a2
        | succ k ih2 =>
          intro c M2 x l b1 b2 hc hf2 a1 a2
          have ed : (19 * i + c) / 19 = i := by omega
          have em : cuX (19 * i + c) = nI c - 9 := by unfold cuX; rw [show (19 * i + c) % 19 = c by omega]
          have hv := vok_worn h.1 (i := i) (cu_rg (19 * i + c))
          rw [em] at hv
          have hf3 := fr_rw (y := nI c - 9) hf2
          have e2 : vC (wr M2 42 i (nI c - 9)) = wr V 4 i (nI c - 9) := by rw [vC_cong hf3, vC_worn (by rw [hgn]; omega), e]
          have ef : cuF V (19 * i + c) = allS (wr V 4 i (nI c - 9)) := by unfold cuF; rw [ed, em]
          refine bX9_cushion_56 C ⟨fun q => absurd q ?_, fun _ => ⟨i7, ?_⟩⟩
          · rw [fa_lt, cu_ti (by omega)]
            have : (9 : Int32).toInt = 9 := by decide
            omega
          rw [hcl]
          refine (c_sumBelow e2 hv l).imp ?_
          rintro r M3 ⟨hf4, hr⟩
          rw [← ef] at hr
          have hrg : rgI (cuF V (19 * i + c)) 0 100000 := by rw [ef]; exact all_rg hv
          have nx : nI c - 9 + 1 = nI (c + 1) - 9 := by rw [← nI_1]; grind
          refine bX9_cushion_83 C ?_
          rw [nx]
          refine ⟨fun q => ih2 (c + 1) M3 _ l b1 b2 (by omega) (hf3.trans hf4) (a1.keep hrg hr q) (a2.keep hrg hr q), fun q => ?_⟩
          have n1 := a1.new hr q
          have n2 := a2.new hr q
          rw [ed] at n1
          rw [em] at n2
          exact ih2 (c + 1) M3 _ r _ _ (by omega) (hf3.trans hf4) n1 n2
      exact inner 19 0 M1 (M 42 i) l b1 b2 (by omega) (by rw [wr_self]; exact hf) a1 a2
  exact outer (ngV V) 0 M _ _ _ (by omega) Fr.rfl' ACg.z ACg.z
theorem c_sleepersOf (e : vC M = V) (h : VOK V) (er : rC M = R) (hr : ROK V R) {k : Nat} (hk6 : k < nlR R) : WpI mX6_sleepersOf [.ref 24, .ref 33, .int (nI k)] M (gj G2) (TTc ++ T2) (fun r M' => r = slpS V R k ∧ M' = M) := by
  have h7 := h.1.2.2
  obtain ⟨⟨b, hb, eb⟩, ⟨n, hn, en⟩, -⟩ := hr.2 k hk6
  have h6 := hr.1.2
  have hcl : (nI k).toNatClampNeg = k := ncl (by omega)
  have k6 : vp_in (nI k) 6 := nin (by omega) (by omega)
  have r0 : M 25 k = nI b := by rw [← eb, ← er]; exact (nrm_in (by rw [← er] at hk6; exact hk6)).symm
  have r1 : M 26 k = nI n := by rw [← en, ← er]; exact (nrm_in (by rw [← er] at hk6; exact hk6)).symm
  have r2 : M 27 k = R 2 k := by rw [← er]; exact (nrm_in (by rw [← er] at hk6; exact hk6)).symm
  have hbn : (nI b).toNatClampNeg = b := ncl (by have := h.2.1.2.2; omega)
  have hnn : (nI n).toNatClampNeg = n := ncl (by omega)
  refine WpI.of rfl rfl nL fun X Q C hk => bX6_sleepersOf_0 C ?_
  rw [hcl, r0, r1]
  refine ⟨k6, k6, (c_lengthOn e h hb hn).to (bX6_sleepersOf_19 C ?_)⟩
  rw [hcl, r1]
  refine ⟨k6, (c_hereBy e h).to (bX6_sleepersOf_33 C ?_)⟩
  have loop : ∀ m i, i + m = ngV V → WW X Q 41 [(0, .ref 24), (1, .ref 33), (2, .int (nI k)), (3, .int (lenS V b n)), (4, .int (bO (ngV V) (fun i => decide (V 1 i ≤ nI n)))), (5, .int (bO (ngV V) (fun j => decide (j < i) && slpP V R k j))), (6, .int (nI i))] [] (M, gj G2, TTc ++ T2) := by
    intro m
    induction m with
    | zero =>
      intro i hi
      refine bX6_sleepersOf_41 C ⟨fun _ => hk _ _ ⟨bO_end (by omega), rfl⟩, fun q => absurd ?_ q⟩
      rw [rc_g e h, show i = ngV V by omega]; exact i_le_rfl _
    | succ m ih =>
      intro i hi
      have st := ih (i + 1) (by omega)
      refine bX6_sleepersOf_41 C ⟨fun q => absurd q ?_, fun _ => ?_⟩
      · rw [rc_g e h, nle (by omega) (by omega)]; omega
      rw [bit_1 _ (by omega), bt_bO (by omega) (by omega), nI_1, hcl, r1]
      refine ⟨fun q => ?_, fun q => ⟨k6, (c_harmAt e h (by omega) (by omega) _).to (bX6_sleepersOf_79 C ?_)⟩⟩
      · have : ¬ V 1 i ≤ nI n := fun z => q (by simp [z, show i < ngV V by omega])
        rw [bO_st0 (by simp [slpP, en, this])] at st
        exact st
      · have q' : V 1 i ≤ nI n := by simp at q; exact q.2
        rw [hcl, r2, nI_1]
        refine ⟨k6, fun q2 => ?_, fun q2 => ?_⟩
        · rw [bO_st0 (by
            have : ¬ hS V i b n = R 2 k := q2
            simp [slpP, en, eb, hbn, hnn, this])] at st
          exact st
        · rw [bO_st1 (by omega) (by omega) (by
            have : hS V i b n = R 2 k := q2
            simp [slpP, en, eb, hbn, hnn, this, q'])] at st
          exact st
  have := loop (ngV V) 0 (by omega)
  rw [bO_beg (by omega)] at this
  exact this
theorem c_slept (e : vC M = V) (h : VB V) (er : rC M = R) (hr : ROK V R) (k : Int32) : WpI mX9_slept [.ref 0, .int k] M (gj G2) (TTc ++ T2) (fun r M' => r = sleptQ V R k ∧ FC M M') := by
  have h6 := hr.1.2
  refine WpI.of rfl rfl nL fun X Q C hk => bX9_slept_0 C (g_c (n := nlR R) (by omega) ?_ (fun q => hk _ _ ⟨gd_lo q, FC.r⟩) (fun q => hk _ _ ⟨gd_hi q, FC.r⟩) fun k hk6 ek => ?_)
  · rw [← hr.1.1, ← er]; rfl
  subst ek
  unfold sleptQ at hk
  rw [gd_in hk6 (by omega)] at hk
  exact (c_sleepersOf e h.1 er hr hk6).to (bX9_slept_23 C (hk _ _ ⟨rfl, FC.r⟩))
end Q6C
section Q6M
variable {M V R : Mem}
theorem m_cushion (e : vM (M 57 1) M = V) (h : VB V) (w : Int32) : WpI mX10_cushion [.ref 57, .int w] M (gj gm) (TTc ++ TTm) (fun r M' => r = cushionQ V w ∧ FM M M') := by
  have h7 := h.1.1.2
  have hgn : (M 57 7).toNatClampNeg = ngV V := by rw [rm_g e h.1, ncl (by omega)]
  refine WpI.of rfl rfl nL fun X Q C hk => bX10_cushion_0 C (g_m (n := 3) (by omega) (by omega) rfl (fun q => hk _ _ ⟨gd_lo q, FM.r⟩) (fun q => hk _ _ ⟨gd_hi q, FM.r⟩) fun w hw ew => ?_)
  subst ew
  unfold cushionQ at hk
  rw [gd_in hw (by omega)] at hk
  have d19 : ∀ k, k < 1000 → nI k / 19 = nI (k / 19) := fun k hk => pk_div (d := 19) (by omega) (by omega) (by omega)
  have m19 : ∀ k, k < 1000 → nI k - nI k / 19 * 19 - 9 = cuX k := fun k hk => by
    unfold cuX
    rw [← pk_rem (a := k) (d := 19) (by omega) (by omega) (by omega)]
    rfl
  have loop : ∀ k j (M1 : Mem) (b l : Int32), j + k = 19 * ngV V → Fr 72 76 M M1 → AMg (cuF V) nI j b l → WW X Q 21 [(0, .ref 57), (1, .int (nI w)), (2, .int b), (3, .int l), (4, .int (nI j))] [] (M1, gj gm, TTc ++ TTm) := by
    intro k
    induction k with
    | zero =>
      intro j M1 b l hj hf a1
      have e3 : j = 19 * ngV V := by omega
      subst e3
      have hg := rm_g ((vM_cong hf).trans e) h.1
      obtain ⟨f1, fl⟩ := a1.fin (by omega)
      have hb : bst (cuF V) (19 * ngV V) < 19 * ngV V := (bst_lt (by omega)).1
      refine bX10_cushion_21 C ⟨fun _ => ?_, fun q => absurd ?_ q⟩
      · rw [f1, fl, m19 _ (by omega), d19 _ (by omega)]
        rcases w with _ | _ | _ | w
        · exact ⟨fun q => absurd rfl q, fun _ => hk _ _ ⟨rfl, hf.fm⟩⟩
        · exact ⟨fun _ => ⟨fun q => absurd rfl q, fun _ => hk _ _ ⟨rfl, hf.fm⟩⟩, fun q => absurd q (by decide)⟩
        · exact ⟨fun _ => ⟨fun _ => hk _ _ ⟨rfl, hf.fm⟩, fun q => absurd q (by decide)⟩, fun q => absurd q (by decide)⟩
        · omega
      · rw [hg, show (19 : Int32) = nI 19 from rfl, pk_mul]; exact i_le_rfl _
    | succ k ih =>
      intro j M1 b l hj hf a1
      have hg := rm_g ((vM_cong hf).trans e) h.1
      have hi : j / 19 < ngV V := by omega
      have hcl : (nI (7 + j / 19)).toNatClampNeg = 7 + j / 19 := ncl (by omega)
      have j7 : vp_in (nI (7 + j / 19)) 21 := nin (by omega) (by omega)
      have hv := vok_worn h.1 (i := j / 19) (cu_rg j)
      refine bX10_cushion_21 C ⟨fun q => absurd q ?_, fun _ => ?_⟩
      · rw [hg, show (19 : Int32) = nI 19 from rfl, pk_mul, nle (by omega) (by omega)]; omega
      rw [m19 _ (by omega), d19 _ (by omega), n7, hcl]
      refine ⟨j7, j7, ?_⟩
      have e1 : (wr M1 64 (7 + j / 19) (cuX j)) 57 1 = M 57 1 := by show M1 57 1 = _; rw [hf 57 (by omega)]
      have e2 : vM ((wr M1 64 (7 + j / 19) (cuX j)) 57 1) (wr M1 64 (7 + j / 19) (cuX j)) = wr V 4 (j / 19) (cuX j) := by
        have e0 := (vM_cong hf).trans e
        rw [e1, vM_worn (by rw [hg, ncl (by omega)]; exact hi) (by rw [hg, ncl (by omega)]; omega), e0]
      refine (m_stayA e2 hv).imp ?_
      rintro r M2 ⟨hf2, -, rfl⟩
      refine bX10_cushion_77 C ?_
      rw [d19 _ (by omega), n7, hcl, nI_1]
      have hf3 : Fr 72 76 M (wr M2 64 (7 + j / 19) (M1 64 (7 + j / 19))) := by
        have := fr_rw (y := M1 64 (7 + j / 19)) hf2
        rw [wr_self] at this
        exact hf.trans this
      exact ⟨j7, a1.step (all_rg hv) (fun i hi z => absurd ((neq (by omega) (by omega)).mp z) (by omega)) (fun b' l' a => ih (j + 1) _ b' l' (by omega) hf3 a)⟩
  exact loop (19 * ngV V) 0 M _ _ (by omega) Fr.rfl' AMg.z
theorem m_sleptBy (e : vM (M 57 1) M = V) (h : VOK V) (er : rM M = R) (hr : ROK V R) {k : Nat} (hk6 : k < nlR R) : WpI mX10_sleptBy [.ref 57, .int (nI k)] M (gj gm) (TTc ++ TTm) (fun r M' => r = slpS V R k ∧ M' = M) := by
  have h7 := h.1.2.2
  obtain ⟨⟨b, hb, eb⟩, ⟨n, hn, en⟩, -⟩ := hr.2 k hk6
  have h6 := hr.1.2
  have r0 : M 80 (3 * k) = nI b := by rw [← eb, ← er]; exact (nrm_in (f := fun k => M 80 (3 * k)) (by rw [← er] at hk6; exact hk6)).symm
  have r1 : M 80 (3 * k + 1) = nI n := by rw [← en, ← er]; exact (nrm_in (f := fun k => M 80 (3 * k + 1)) (by rw [← er] at hk6; exact hk6)).symm
  have r2 : M 80 (3 * k + 2) = R 2 k := by rw [← er]; exact (nrm_in (f := fun k => M 80 (3 * k + 2)) (by rw [← er] at hk6; exact hk6)).symm
  have hbn : (nI b).toNatClampNeg = b := ncl (by have := h.2.1.2.2; omega)
  have hnn : (nI n).toNatClampNeg = n := ncl (by omega)
  have t0 : 3 * nI k = nI (3 * k) := pk_mul 3 k
  have t1 : nI (3 * k) + 1 = nI (3 * k + 1) := nI_1 _
  have t2 : nI (3 * k) + 2 = nI (3 * k + 2) := nI_add _ 2
  have c0 : (nI (3 * k)).toNatClampNeg = 3 * k := ncl (by omega)
  have c1 : (nI (3 * k + 1)).toNatClampNeg = 3 * k + 1 := ncl (by omega)
  have c2 : (nI (3 * k + 2)).toNatClampNeg = 3 * k + 2 := ncl (by omega)
  have v0 : vp_in (nI (3 * k)) 18 := nin (by omega) (by omega)
  have v1 : vp_in (nI (3 * k + 1)) 18 := nin (by omega) (by omega)
  have v2 : vp_in (nI (3 * k + 2)) 18 := nin (by omega) (by omega)
  refine WpI.of rfl rfl nL fun X Q C hk => bX10_sleptBy_0 C ?_
  have loop : ∀ m i, i + m = ngV V → WW X Q 4 [(0, .ref 57), (1, .int (nI k)), (2, .int (bO (ngV V) (fun j => decide (j < i) && slpP V R k j))), (3, .int (nI i))] [] (M, gj gm, TTc ++ TTm) := by
    intro m
    induction m with
    | zero =>
      intro i hi
      refine bX10_sleptBy_4 C ⟨fun _ => hk _ _ ⟨bO_end (by omega), rfl⟩, fun q => absurd ?_ q⟩
      rw [rm_g e h, show i = ngV V by omega]; exact i_le_rfl _
    | succ m ih =>
      intro i hi
      have st := ih (i + 1) (by omega)
      refine bX10_sleptBy_4 C ⟨fun q => absurd q ?_, fun _ => ?_⟩
      · rw [rm_g e h, nle (by omega) (by omega)]; omega
      rw [n14, t0, t1, c0, c1, ncl (by omega), r0, r1, rm_1 e (by omega), nI_1, i_or0]
      refine ⟨nin (by omega) (by omega), v1, fun q => ?_, fun q => ⟨v0, v1, (m_harmOf e h (by omega) hb hn).to (bX10_sleptBy_57 C ?_)⟩⟩
      · rw [bO_st0 (by simp [slpP, en, i_nle.mpr q])] at st
        exact st
      · have q' : V 1 i ≤ nI n := i_nlt.mp q
        rw [t0, t2, c2, r2, nI_1, i_or0]
        refine ⟨v2, fun q2 => ?_, fun q2 => ?_⟩
        · rw [bO_st0 (by simp [slpP, en, eb, hbn, hnn, q2])] at st
          exact st
        · rw [bO_st1 (by omega) (by omega) (by simp [slpP, en, eb, hbn, hnn, q2, q'])] at st
          exact st
  have := loop (ngV V) 0 (by omega)
  rw [bO_beg (by omega)] at this
  exact this
theorem rk_0 (er : rM M = R) (hr : ROK V R) : M 57 39 = nI (nlR R) := by rw [← hr.1.1, ← er]; rfl
theorem m_slept (e : vM (M 57 1) M = V) (h : VB V) (er : rM M = R) (hr : ROK V R) (k : Int32) : WpI mX10_slept [.ref 57, .int k] M (gj gm) (TTc ++ TTm) (fun r M' => r = sleptQ V R k ∧ FM M M') := by
  have h6 := hr.1.2
  by_cases z : nlR R = 0
  · have e0 := rk_0 er hr
    rw [z] at e0
    refine WpI.of rfl rfl nL fun X Q C hk => bX10_slept_0 C ⟨fun q => hk _ _ ⟨gd_lo q, FM.r⟩, fun q => ⟨fun q2 => hk _ _ ⟨?_, FM.r⟩, fun q2 => absurd ?_ q2⟩⟩
    · refine gd_hi ?_
      rw [z]
      exact i_nlt.mp q
    · rw [e0]
      exact i_lt_trans z_m1 (i_nlt.mp q)
  · refine WpI.of rfl rfl nL fun X Q C hk => bX10_slept_0 C (g_m (n := nlR R) (by omega) (by omega) (by rw [rk_0 er hr]) (fun q => hk _ _ ⟨gd_lo q, FM.r⟩) (fun q => hk _ _ ⟨gd_hi q, FM.r⟩) fun k hk6 ek => ?_)
    subst ek
    unfold sleptQ at hk
    rw [gd_in hk6 (by omega)] at hk
    exact (m_sleptBy e h.1 er hr hk6).to (bX10_slept_21 C (hk _ _ ⟨rfl, FM.r⟩))
end Q6M
