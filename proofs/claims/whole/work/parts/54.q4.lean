/-! questions: later, fewest, found, rival -/
def latV (V : Mem) (i k : Nat) : Mem := wr V 1 i (V 1 i + nI k)
def latW (V : Mem) (i k : Nat) : Bool := lies (simN (latV V i k) 30).1 i
def latH (V : Mem) (i k : Nat) : Int32 := (simN (latV V i k) 30).1 2 i
def laterQ (V : Mem) (i w : Int32) : Int32 := gd (ngV V) i fun i => gd 2 w fun w => match bestP (latW V i) (latH V i) 10 with
  | none => -4
  | some k => if w = 0 then nI k else latH V i k
theorem rgI_add {x : Int32} {k : Nat} {a b : Int} (h : rgI x 0 a) (h2 : a + k ≤ b) (h3 : a + k < 1000000) (h4 : k < 1000000) : rgI (x + nI k) 0 b := by
  unfold rgI at *
  rw [fb_addI (by rw [nti h4]; omega) (by rw [nti h4]; omega), nti h4]
  omega
theorem vok_lat {V : Mem} (h : VB V) {i k : Nat} (hi : i < ngV V) (hk : k < 10) : VOK (latV V i k) := vok_come h.1 (rgI_add (h.2.2.2.2 i hi) (by omega) (by omega) (by omega))
/-- the search of the best among those that will do, class and reference -/
def LC (W : Nat → Bool) (h : Nat → Int32) (k : Nat) (l b : Int32) : Prop := (bestP W h k = none ∧ l = 1000000 ∧ b = -4) ∨ ∃ j, j < k ∧ bestP W h k = some j ∧ l = h j ∧ b = nI j
theorem LC.no {W : Nat → Bool} {h : Nat → Int32} {k : Nat} {l b : Int32} (a : LC W h k l b) (w : W k = false) : LC W h (k + 1) l b := by
  rcases a with ⟨a1, a2⟩ | ⟨j, a0, a1, a2⟩
  · exact Or.inl ⟨by simp [bestP, a1, w], a2⟩
  · exact Or.inr ⟨j, by omega, by simp [bestP, a1, w], a2⟩
theorem LC.keep {W : Nat → Bool} {h : Nat → Int32} {k : Nat} {l b : Int32} (a : LC W h k l b) (hr : rgI (h k) 0 100000) (q : l ≤ h k) : LC W h (k + 1) l b := by
  rcases a with ⟨-, a1, -⟩ | ⟨j, a0, a1, a2, a3⟩
  · rw [a1, fa_le] at q
    have e9 : (1000000 : Int32).toInt = 1000000 := by decide
    unfold rgI at hr
    omega
  · exact Or.inr ⟨j, by omega, by simp [bestP, a1, i_nlt.mpr (a2 ▸ q)], a2, a3⟩
theorem LC.new {W : Nat → Bool} {h : Nat → Int32} {k : Nat} {l b : Int32} (a : LC W h k l b) (w : W k = true) (q : ¬ l ≤ h k) : LC W h (k + 1) (h k) (nI k) := by
  rcases a with ⟨a1, -⟩ | ⟨j, a0, a1, a2, a3⟩
  · exact Or.inr ⟨k, by omega, by simp [bestP, a1, w], rfl, rfl⟩
  · exact Or.inr ⟨k, by omega, by simp [bestP, a1, w, i_nle.mp (a2 ▸ q)], rfl, rfl⟩
def LM (W : Nat → Bool) (h : Nat → Int32) (k : Nat) (b l : Int32) : Prop := (bestP W h k = none ∧ b = -4) ∨ ∃ j, j < k ∧ bestP W h k = some j ∧ l = h j ∧ b = nI j
theorem LM.no {W : Nat → Bool} {h : Nat → Int32} {k : Nat} {l b : Int32} (a : LM W h k b l) (w : W k = false) : LM W h (k + 1) b l := by
  rcases a with ⟨a1, a2⟩ | ⟨j, a0, a1, a2⟩
  · exact Or.inl ⟨by simp [bestP, a1, w], a2⟩
  · exact Or.inr ⟨j, by omega, by simp [bestP, a1, w], a2⟩
theorem LM.one {W : Nat → Bool} {h : Nat → Int32} {k : Nat} {l b : Int32} (a : LM W h k b l) (hk : k < 1000) (w : W k = true) (q : b < 0) : LM W h (k + 1) (nI k) (h k) := by
  rcases a with ⟨a1, -⟩ | ⟨j, a0, a1, a2, a3⟩
  · exact Or.inr ⟨k, by omega, by simp [bestP, a1, w], rfl, rfl⟩
  · rw [a3] at q
    exact absurd q (nn0 (by omega))
theorem LM.keep {W : Nat → Bool} {h : Nat → Int32} {k : Nat} {l b : Int32} (a : LM W h k b l) (q0 : ¬ b < 0) (q : l ≤ h k) : LM W h (k + 1) b l := by
  rcases a with ⟨-, a1⟩ | ⟨j, a0, a1, a2, a3⟩
  · rw [a1] at q0
    exact absurd (by decide) q0
  · exact Or.inr ⟨j, by omega, by simp [bestP, a1, i_nlt.mpr (a2 ▸ q)], a2, a3⟩
theorem LM.new {W : Nat → Bool} {h : Nat → Int32} {k : Nat} {l b : Int32} (a : LM W h k b l) (w : W k = true) (q0 : ¬ b < 0) (q : ¬ l ≤ h k) : LM W h (k + 1) (nI k) (h k) := by
  rcases a with ⟨-, a1⟩ | ⟨j, a0, a1, a2, a3⟩
  · rw [a1] at q0
    exact absurd (by decide) q0
  · exact Or.inr ⟨k, by omega, by simp [bestP, a1, w, i_nle.mp (a2 ▸ q)], rfl, rfl⟩
theorem rg_big {x : Int32} (h : rgI x 0 214) : rgI x 0 100000 := by unfold rgI at *; omega
section Q4C
variable {M V : Mem} {G2 : Grf} {T2 : List (Nat × Nat)}
theorem c_later (e : vC M = V) (h : VB V) (i w : Int32) : WpI mX9_later [.ref 0, .int i, .int w] M (gj G2) (TTc ++ T2) (fun r M' => r = laterQ V i w ∧ FC M M') := by
  have h7 := h.1.1.2.2
  refine WpI.of rfl rfl nL fun X Q C hk => bX9_later_0 C (g_c (by omega) (rc_g e h.1) (fun q => hk _ _ ⟨gd_lo q, FC.r⟩) (fun q => hk _ _ ⟨gd_hi q, FC.r⟩) fun i hi ei => ?_)
  subst ei
  unfold laterQ at hk
  rw [gd_in hi (by omega)] at hk
  refine g_m (n := 2) (by omega) (by omega) rfl (fun q => hk _ _ ⟨gd_lo q, FC.r⟩) (fun q => hk _ _ ⟨gd_hi q, FC.r⟩) fun w hw ew => ?_
  subst ew
  rw [gd_in hw (by omega)] at hk
  have i7 : vp_in (nI i) 7 := nin (by omega) (by omega)
  have hcl : (nI i).toNatClampNeg = i := ncl (by omega)
  rw [hcl]
  have loop : ∀ k j (M1 : Mem) (l x b : Int32), j + k = 10 → Fr 4 9 (wr M 39 i x) M1 → LC (latW V i) (latH V i) j l b → WW X Q 49 [(0, .ref 0), (1, .int (nI i)), (2, .int (nI w)), (3, .int (M 39 i)), (4, .int l), (5, .int b), (6, .int (nI j))] [] (M1, gj G2, TTc ++ T2) := by
    intro k
    induction k with
    | zero =>
      intro j M1 l x b hj hf ha
      have e3 : j = 10 := by omega
      subst e3
      have hf' := fr_rw (y := M 39 i) hf
      rw [wr_self] at hf'
      refine bX9_later_49 C ⟨fun _ => ⟨i7, ?_⟩, fun q => absurd (by decide) q⟩
      rw [hcl]
      rcases ha with ⟨a1, a2, a3⟩ | ⟨k, a0, a1, a2, a3⟩
      · rw [a1] at hk
        exact ⟨fun q => absurd a3 q, fun _ => hk _ _ ⟨rfl, hf'.fc⟩⟩
      · rw [a1] at hk
        refine ⟨fun _ => ⟨fun q => hk _ _ ⟨?_, hf'.fc⟩, fun q => hk _ _ ⟨?_, hf'.fc⟩⟩, fun q => ?_⟩
        · show l = if w = 0 then nI k else latH V i k
          rw [if_neg (fun z => q (by rw [z]; rfl)), a2]
        · show b = if w = 0 then nI k else latH V i k
          rw [if_pos ((neq (b := 0) (by omega) (by omega)).mp q), a3]
        · rw [a3] at q
          exact absurd (show nI k < 0 by rw [q]; decide) (nn0 (by omega))
    | succ k ih =>
      intro j M1 l x b hj hf ha
      have hv := vok_lat h hi (k := j) (by omega)
      have hf2 := fr_rw (y := M 39 i + nI j) hf
      have e2 : vC (wr M1 39 i (M 39 i + nI j)) = latV V i j := by
        rw [vC_cong hf2, vC_come (by rw [rc_g e h.1, ncl (by omega)]; exact hi), e, rc_1 e hi]
        rfl
      refine bX9_later_49 C ⟨fun q => absurd q ?_, fun _ => ⟨i7, ?_⟩⟩
      · show ¬ nI 9 < nI j
        rw [nlt (by omega) (by omega)]; omega
      rw [hcl]
      refine (c_passAll e2 hv).imp ?_
      rintro M2 ⟨hf3, hs⟩
      refine bX9_later_85 C ?_
      have hil : i < ngV (latV V i j) := hi
      rw [hs.1, hasL (V := latV V i j) h7 hi, nI_1, hcl]
      refine ⟨fun q => ih (j + 1) M2 l _ b (by omega) (hf2.trans hf3) (ha.no (by unfold latW lies; exact decide_eq_false q)), fun q => ⟨i7, ?_⟩⟩
      have hw : latW V i j = true := by unfold latW lies; exact decide_eq_true q
      rw [(hs.2.2.1 i hi q).2.2.1]
      exact ⟨fun q2 => ih (j + 1) M2 l _ b (by omega) (hf2.trans hf3) (ha.keep (rg_big ((SI.sim hv (n := 30) (by omega)).rg hi)) q2), fun q2 => ⟨i7, ih (j + 1) M2 _ _ _ (by omega) (hf2.trans hf3) (ha.new hw q2)⟩⟩
  exact ⟨i7, loop 10 0 M _ (M 39 i) _ (by omega) (by rw [wr_self]; exact Fr.rfl') (Or.inl ⟨rfl, rfl, rfl⟩)⟩
end Q4C
section Q4M
variable {M V : Mem}
theorem m_later (e : vM (M 57 1) M = V) (h : VB V) (i w : Int32) : WpI mX10_later [.ref 57, .int i, .int w] M (gj gm) (TTc ++ TTm) (fun r M' => r = laterQ V i w ∧ FM M M') := by
  have h7 := h.1.1.2
  refine WpI.of rfl rfl nL fun X Q C hk => bX10_later_0 C (g_m h7.1 (by omega) (by rw [rm_g e h.1]) (fun q => hk _ _ ⟨gd_lo q, FM.r⟩) (fun q => hk _ _ ⟨gd_hi q, FM.r⟩) fun i hi ei => ?_)
  subst ei
  unfold laterQ at hk
  rw [gd_in hi (by omega)] at hk
  refine g_m (n := 2) (by omega) (by omega) rfl (fun q => hk _ _ ⟨gd_lo q, FM.r⟩) (fun q => hk _ _ ⟨gd_hi q, FM.r⟩) fun w hw ew => ?_
  subst ew
  rw [gd_in hw (by omega)] at hk
  have i7 : vp_in (nI i) 7 := nin (by omega) (by omega)
  have j14 : vp_in (nI (14 + i)) 21 := nin (by omega) (by omega)
  have hcl : (nI i).toNatClampNeg = i := ncl (by omega)
  have hcl2 : (nI (14 + i)).toNatClampNeg = 14 + i := ncl (by omega)
  rw [n14, hcl2]
  have hgn : (M 57 7).toNatClampNeg = ngV V := by rw [rm_g e h.1, ncl (by omega)]
  have loop : ∀ k j (M1 : Mem) (l x b : Int32), j + k = 10 → Fr 72 76 (wr M 64 (14 + i) x) M1 → LM (latW V i) (latH V i) j b l → WW X Q 40 [(0, .ref 57), (1, .int (nI i)), (2, .int (nI w)), (3, .int (M 64 (14 + i))), (4, .int b), (5, .int l), (6, .int (nI j))] [] (M1, gj gm, TTc ++ TTm) := by
    intro k
    induction k with
    | zero =>
      intro j M1 l x b hj hf ha
      have e3 : j = 10 := by omega
      subst e3
      have hf' := fr_rw (y := M 64 (14 + i)) hf
      rw [wr_self] at hf'
      refine bX10_later_40 C ⟨fun _ => ?_, fun q => absurd (by decide) q⟩
      rw [n14, hcl2]
      refine ⟨j14, ?_⟩
      rcases ha with ⟨a1, a3⟩ | ⟨k, a0, a1, a2, a3⟩
      · rw [a1] at hk
        exact ⟨fun q => absurd q (by rw [a3]; decide), fun _ => hk _ _ ⟨rfl, hf'.fm⟩⟩
      · rw [a1] at hk
        refine ⟨fun _ => ⟨fun q => hk _ _ ⟨?_, hf'.fm⟩, fun q => hk _ _ ⟨?_, hf'.fm⟩⟩, fun q => ?_⟩
        · show l = if w = 0 then nI k else latH V i k
          rw [if_neg (fun z => q (by rw [z]; rfl)), a2]
        · show b = if w = 0 then nI k else latH V i k
          rw [if_pos ((neq (b := 0) (by omega) (by omega)).mp q), a3]
        · rw [a3] at q
          exact absurd (i_nlt.mp (nn0 (by omega))) q
    | succ k ih =>
      intro j M1 l x b hj hf ha
      have hv := vok_lat h hi (k := j) (by omega)
      have hf2 := fr_rw (y := M 64 (14 + i) + nI j) hf
      have e1 : (wr M1 64 (14 + i) (M 64 (14 + i) + nI j)) 57 1 = M 57 1 := by rw [hf2 57 (by omega)]; rfl
      have e2 : vM ((wr M1 64 (14 + i) (M 64 (14 + i) + nI j)) 57 1) (wr M1 64 (14 + i) (M 64 (14 + i) + nI j)) = latV V i j := by
        rw [e1, vM_cong hf2, vM_come (by rw [hgn]; exact hi) (by rw [hgn]; omega), e, rm_1 e hi]
        rfl
      refine bX10_later_40 C ⟨fun q => absurd q ?_, fun _ => ?_⟩
      · show ¬ nI 10 ≤ nI j
        rw [nle (by omega) (by omega)]; omega
      rw [n14, hcl2]
      refine ⟨j14, (m_stayA e2 hv).imp ?_⟩
      rintro r M2 ⟨hf3, hs, -⟩
      refine bX10_later_68 C ⟨i7, ?_⟩
      obtain ⟨a0, a2, -⟩ := hs i hi
      rw [nI_1, hcl, a0, a2]
      refine ⟨fun q => ih (j + 1) M2 l _ b (by omega) (hf2.trans hf3) (ha.no (by unfold latW lies; exact decide_eq_false (i_nle.mpr q))), fun q => ?_⟩
      have hw : latW V i j = true := by unfold latW lies; exact decide_eq_true (i_nlt.mp q)
      exact ⟨fun q2 => ⟨i7, ih (j + 1) M2 _ _ _ (by omega) (hf2.trans hf3) (ha.one (by omega) hw q2)⟩, fun q2 => ⟨i7, fun q3 => ih (j + 1) M2 l _ b (by omega) (hf2.trans hf3) (ha.keep q2 q3), fun q3 => ⟨i7, ih (j + 1) M2 _ _ _ (by omega) (hf2.trans hf3) (ha.new hw q2 q3)⟩⟩⟩
  exact ⟨j14, loop 10 0 M _ (M 64 (14 + i)) _ (by omega) (by rw [wr_self]; exact Fr.rfl') (Or.inl ⟨rfl, rfl⟩)⟩
end Q4M
