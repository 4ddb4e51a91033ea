/-! the class: order -/
section C74
variable {M V : Mem} {G2 : Grf} {T2 : List (Nat × Nat)}
def sQ (c : Nat) : Prop := (4 ≤ c ∧ c ≤ 9) ∨ (29 ≤ c ∧ c ≤ 31)
def FQ (n : Nat) (M M' : Mem) : Prop := (∀ c, ¬ sQ c → c ≠ 43 → M' c = M c) ∧ ∀ i, n ≤ i → M' 43 i = M 43 i
theorem vC_fq {M' : Mem} (e : vC M = V) (h : VOK V) (hf : FQ (ngV V) M M') (hr : RowOK (ngV V) (M' 43)) : vC M' = rowV V (toN (M' 43)) := by
  have h7 := h.1.2.2
  have hg : (M 37 6).toNatClampNeg = ngV V := by rw [rc_g e h, ncl (by omega)]
  have o : ∀ c, 33 ≤ c → c ≠ 43 → M' c = M c := fun c hc c2 => hf.1 c (by unfold sQ; omega) c2
  unfold rowV
  funext c
  by_cases ec : c = 5
  · subst ec
    rw [wrA_eq]
    show nrm (M' 37 6).toNatClampNeg (M' 43) = _
    rw [o 37 (by omega) (by omega), hg]
    exact nrm_cong (fun i hi => (row_n hr h7 hi).1)
  · rw [wrA_ne ec, ← e]
    unfold vC
    rw [o 37 (by omega) (by omega), o 38 (by omega) (by omega), o 39 (by omega) (by omega), o 40 (by omega) (by omega), o 41 (by omega) (by omega), o 42 (by omega) (by omega), o 34 (by omega) (by omega), o 35 (by omega) (by omega), o 36 (by omega) (by omega), o 33 (by omega) (by omega), o 44 (by omega) (by omega)]
    rcases c with _ | _ | _ | _ | _ | _ | _ | _ | _ | _ | c <;> first | rfl | exact absurd rfl ec
theorem row_two {V : Mem} {f g : Nat → Nat} : wrA (rowV V f) 5 (nrm (ngV V) (fun i => nI (g i))) = rowV V g := by
  unfold rowV
  exact wrA_wrA
/-- the rows from f to what it lets fall -/
theorem blk {V : Mem} (h : VOK V) {f g : Nat → Nat} (hf : PM (ngV V) f) (hg : PM (ngV V) g) {n : Nat} {bd : Int32} (hn : n ≤ 30) (ha : ∀ i, i < (simN (rowV V f) n).2 + 1 → i < ngV V → g i = f i) (hs : bd ≤ lsum (simN (rowV V f) n).1 (ngV V) ∨ simN (rowV V f) n = simN (rowV V f) 30) : (simN (rowV V f) n = simN (rowV V f) 30 ∧ rowF V g = rowF V f) ∨ bd ≤ rowF V g := by
  have hv := vok_rowV h hf
  have hd := dp_sim hv n
  have := all_pref (V := rowV V f) (f := nrm (ngV V) (fun i => nI (g i))) hv (by rw [row_two]; exact vok_rowV h hg) hn (fun q hq => by
    have hq2 : q < ngV V := by
      have : (simN (rowV V f) n).2 < ngV V := hd
      omega
    unfold rowV
    rw [wrA_eq, nrm_in hq2, nrm_in hq2, ha q (by omega) hq2]) hs
  rw [row_two] at this
  exact this
/-- what a search leaves -/
def OrdC (V M M' : Mem) : Prop := ∃ b, IsO (ngV V) (rowF V) b ∧ M' 29 2 = rowF V b ∧ (∀ i, i < ngV V → M' 30 i = nI (b i)) ∧ M' 29 3 = 1 ∧ ∀ c, ¬ sQ c → M' c = M c
theorem c_search (e : vC M = V) (h : VB V) : WpV mX4_search [.ref 29, .ref 33, .ref 4] M (gj G2) (TTc ++ T2) (fun M' => OrdC V M M') := by
  have h7 := h.1.1.2.2
  have h1 := h.1.1.2.1
  have hg := rc_g e h.1
  refine WpV.of rfl rfl nL fun X Q C hk => bX4_search_0 C ?_
  -- setting back
  have fin : ∀ (M1 : Mem) (b : Nat → Nat), FQ (ngV V) M M1 → (∀ i, i < 7 → M1 31 i = M 43 i) → IsO (ngV V) (rowF V) b → M1 29 2 = rowF V b → (∀ i, i < ngV V → M1 30 i = nI (b i)) → OrdC V M (wr (wrA M1 43 (va_cpy (M1 31) (M1 43) 0 0 7)) 29 3 1) := by
    intro M1 b hf a1 hb hl a3
    refine ⟨b, hb, ?_, fun i hi => ?_, ?_, fun c hc => ?_⟩
    · rw [wr_eq, pk_un (by omega), wrA_ne (by omega)]; exact hl
    · rw [wr_ne (by omega), wrA_ne (by omega)]; exact a3 i hi
    · rw [wr_eq, pk_us]
    · rw [wr_ne (fun z => hc (by unfold sQ; omega))]
      by_cases ec : c = 43
      · subst ec
        rw [wrA_eq]
        funext i
        by_cases hi : i < 7
        · rw [sb_cpy0 hi, a1 i hi]
        · rw [pk_cpy_out (by omega)]; exact hf.2 i (by omega)
      · rw [wrA_ne ec]; exact hf.1 c hc ec
  have search : ∀ r k (M1 : Mem), FQ (ngV V) M M1 → (∀ i, i < 7 → M1 31 i = M 43 i) → RowOK (ngV V) (M1 43) → k ≤ rkR (ngV V) (toN (M1 43)) → 5040 - k ≤ r → ((M1 29 2 = 1000000 ∧ ∀ g, PM (ngV V) g → ¬ ltR (ngV V) g (toN (M1 43))) ∨ ∃ b, SB (ngV V) (rowF V) (fun g => ltR (ngV V) g (toN (M1 43))) b ∧ M1 29 2 = rowF V b ∧ ∀ i, i < ngV V → M1 30 i = nI (b i)) → WW X Q 59 [(0, .ref 29), (1, .ref 33), (2, .ref 4), (3, .ref 37), (4, .int 1), (5, .int (nI k))] [] (M1, gj G2, TTc ++ T2) := by
    intro r
    induction r with
    | zero =>
      intro k M1 hf a1 hr hk2 hm
      have := rk_lt (row_pm hr h7) h7
      omega
    | succ r ih =>
      intro k M1 hf a1 hr hk2 hm st
      have pm := row_pm hr h7
      have k5 : k < 5040 := by have := rk_lt pm h7; omega
      have ev := vC_fq e h.1 hf hr
      have hv := vok_rowV h.1 pm
      refine bX4_search_59 C ⟨fun z => absurd z ?_, fun _ => ⟨fun z => absurd z (by decide), fun _ => (c_pass ev hv _).imp ?_⟩⟩
      · show ¬ nI 5040 ≤ nI k
        rw [nle (by omega) (by omega)]; omega
      rintro M2 ⟨hf2, n, hn, hs, hcut⟩
      have ev2 := (vC_cong hf2).trans ev
      have f2 : FQ (ngV V) M M2 := ⟨fun c hc c2 => by rw [hf2 c (by unfold sQ at hc; omega)]; exact hf.1 c hc c2, fun i hi => by rw [hf2 43 (by omega)]; exact hf.2 i hi⟩
      have e43 : M2 43 = M1 43 := hf2 43 (by omega)
      have b1 : ∀ i, i < 7 → M2 31 i = M 43 i := fun i hi => by rw [hf2 31 (by omega)]; exact a1 i hi
      have e29 : M2 29 = M1 29 := hf2 29 (by omega)
      have e30 : M2 30 = M1 30 := hf2 30 (by omega)
      have d7 : M2 4 7 = nI (simN (rowV V (toN (M1 43))) n).2 := hs.2.2.2.2
      have dn : (simN (rowV V (toN (M1 43))) n).2 < ngV V := dp_sim hv n
      rw [hs.2.2.2.1] at hcut
      replace hcut : M1 29 2 ≤ lsum (simN (rowV V (toN (M1 43))) n).1 (ngV V) ∨ simN (rowV V (toN (M1 43))) n = simN (rowV V (toN (M1 43))) 30 := hcut
      have si := SI.sim hv hn
      refine bX4_search_81 C ((c_total ev2 hv hs si).to (bX4_search_86 C ?_))
      have ls : (lsum (simN (rowV V (toN (M1 43))) n).1 (ngV V)).toInt ≤ (sumI ((simN (rowV V (toN (M1 43))) n).1 2) (ngV V)).toInt := lsum_le hv (n := n) (m := 0) (by omega)
      have sr : rgI (sumI ((simN (rowV V (toN (M1 43))) n).1 2) (ngV V)) 0 1498 := by
        have a := sumI_rg (f := (simN (rowV V (toN (M1 43))) n).1 2) (c := 214) (n := ngV V) (by omega) (by omega) h7 (fun i hi => si.rg hi)
        unfold rgI at *
        omega
      rw [e29, d7, e43]
      have es : sumI ((simN (rowV V (toN (M1 43))) n).1 2) (ngV (rowV V (toN (M1 43)))) = sumI ((simN (rowV V (toN (M1 43))) n).1 2) (ngV V) := rfl
      rw [es]
      generalize hS : sumI ((simN (rowV V (toN (M1 43))) n).1 2) (ngV V) = S at *
      have full : simN (rowV V (toN (M1 43))) n = simN (rowV V (toN (M1 43))) 30 → S = rowF V (toN (M1 43)) := fun z => by rw [← hS, z]; rfl
      -- on to the next
      have next : ∀ (M3 : Mem) (b : Nat → Nat), FQ (ngV V) M M3 → (∀ i, i < 7 → M3 31 i = M 43 i) → M3 43 = M1 43 → PM (ngV V) b → M3 29 2 = rowF V b → (∀ i, i < ngV V → M3 30 i = nI (b i)) → (∀ φ, LfR (ngV V) ((simN (rowV V (toN (M1 43))) n).2 + 1) (M1 43) φ → SB (ngV V) (rowF V) (fun g => ¬ ltR (ngV V) (toN φ) g) b) → WpI mX4_toNextRow [.ref 37, .int (nI (simN (rowV V (toN (M1 43))) n).2)] M3 (gj G2) (TTc ++ T2) (fun r M' => WW X Q 126 [(0, .ref 29), (1, .ref 33), (2, .ref 4), (3, .ref 37), (4, .int 1), (5, .int (nI k)), (6, .int S)] [.int r] (M', gj G2, TTc ++ T2)) := by
        intro M3 b f3 c1 c43 hpb hl c30 hb
        have g3 : M3 37 6 = nI (ngV V) := by rw [f3.1 37 (by unfold sQ; omega) (by omega), hg]
        refine (c_toNextRow g3 h1 h7 (by rw [c43]; exact hr) dn).imp ?_
        rintro r' M4 ⟨φ, hL, hc⟩
        rw [c43] at hL
        have sb := hb φ hL
        have out : ∀ i, ngV V ≤ i → φ i = M 43 i := fun i hi => by rw [hL.2.1 i (Or.inr hi), ← c43]; exact f3.2 i hi
        refine bX4_search_126 C ?_
        rw [nI_1]
        rcases hc with ⟨rfl, rfl, hl2⟩ | ⟨rfl, ψ, hx, rfl⟩
        · have done : OrdC V M (wr (wrA (wrA M3 43 φ) 43 (va_cpy ((wrA M3 43 φ) 31) ((wrA M3 43 φ) 43) 0 0 7)) 29 3 1) := fin (wrA M3 43 φ) b ⟨fun c hc c2 => by rw [wrA_ne c2]; exact f3.1 c hc c2, fun i hi => by rw [wrA_eq]; exact out i hi⟩ (fun i hi => by rw [wrA_ne (by omega)]; exact c1 i hi) (sb.fin (fun g hg2 => last_row hL.1 h7 hl2 hg2)) (by rw [wrA_ne (by omega)]; exact hl) (fun i hi => by rw [wrA_ne (by omega)]; exact c30 i hi)
          exact bX4_search_59 C ⟨fun _ => hk _ done, fun _ => ⟨fun _ => hk _ done, fun z => absurd rfl z⟩⟩
        · obtain ⟨n1, n2, n3, n4⟩ := nx_row hL.1 h7 hx
          have pφ := row_pm hL.1 h7
          have rkφ : rkR (ngV V) (toN (M1 43)) ≤ rkR (ngV V) (toN φ) := by
            rcases lt_tri (f := toN (M1 43)) (g := toN φ) (ngV V) with z | z | z
            · exact Nat.le_of_eq (ho_eq z)
            · exact Nat.le_of_lt (rk_mono pm z)
            · exact absurd z ((lf_row h7 hL pm).2.2 (fun i hi => by unfold toN; rw [hL.2.1 i (Or.inl hi)]))
          refine ih (k + 1) _ ⟨fun c hc c2 => by rw [wrA_ne c2]; exact f3.1 c hc c2, fun i hi => by rw [wrA_eq, n4 i hi]; exact out i hi⟩ (fun i hi => by rw [wrA_ne (by omega)]; exact c1 i hi) (by rw [wrA_eq]; exact n1) ?_ (by omega) (Or.inr ⟨b, ?_, by rw [wrA_ne (by omega)]; exact hl, fun i hi => by rw [wrA_ne (by omega)]; exact c30 i hi⟩)
          · rw [wrA_eq]
            have := rk_mono pφ n2
            omega
          · rw [wrA_eq]
            refine sb.keep ?_ (fun g hg2 hp => Or.inl (fun z => n3 g hg2 z hp))
            rcases lt_tri (f := b) (g := toN φ) (ngV V) with z | z | z
            · obtain ⟨p, hp, u, v⟩ := n2
              exact ⟨p, hp, fun q hq => (z q (by omega)).trans (u q hq), by rw [z p hp]; exact v⟩
            · exact lt_tr z n2
            · exact absurd z sb.2.1
      -- a row not after what is let fall: seen, or alike
      have split : ∀ φ, LfR (ngV V) ((simN (rowV V (toN (M1 43))) n).2 + 1) (M1 43) φ → ∀ g, PM (ngV V) g → ¬ ltR (ngV V) (toN φ) g → ltR (ngV V) g (toN (M1 43)) ∨ (((simN (rowV V (toN (M1 43))) n = simN (rowV V (toN (M1 43))) 30 ∧ rowF V g = rowF V (toN (M1 43))) ∨ M1 29 2 ≤ rowF V g) ∧ ¬ ltR (ngV V) g (toN (M1 43))) := by
        intro φ hL g hg2 hn2
        rcases lt_tri (f := g) (g := toN (M1 43)) (ngV V) with z | z | z
        · exact Or.inr ⟨blk h.1 pm hg2 hn (fun i _ hi => z i hi) hcut, fun w => by obtain ⟨p, hp, -, c⟩ := w; rw [z p hp] at c; omega⟩
        · exact Or.inl z
        · exact Or.inr ⟨blk h.1 pm hg2 hn (fun i hi hi2 => (lf_row h7 hL hg2).2.1 z hn2 i hi hi2) hcut, fun w => lt_irr z w⟩
      have selfP : ∀ φ, LfR (ngV V) ((simN (rowV V (toN (M1 43))) n).2 + 1) (M1 43) φ → ¬ ltR (ngV V) (toN φ) (toN (M1 43)) := fun φ hL => (lf_row h7 hL pm).2.2 (fun i hi => by unfold toN; rw [hL.2.1 i (Or.inl hi)])
      refine ⟨fun z => ?_, fun z => ?_⟩
      · rcases st with ⟨lm, -⟩ | ⟨b, hb, hl, c30⟩
        · exfalso
          rw [lm, fa_le, show (1000000 : Int32).toInt = 1000000 by decide] at z
          unfold rgI at sr
          omega
        · refine next M2 b f2 b1 e43 hb.1 (by rw [e29]; exact hl) (fun i hi => by rw [e30]; exact c30 i hi) (fun φ hL => hb.keep (fun y => ?_) (fun g hg2 y => ?_))
          · exact selfP φ hL (lt_tr y hb.2.1)
          · rcases split φ hL g hg2 y with w | ⟨w, w2⟩
            · exact Or.inl w
            · refine Or.inr ⟨?_, fun u => w2 (lt_tr u hb.2.1)⟩
              rcases w with ⟨w0, w1⟩ | w1
              · rw [w1, ← full w0, ← hl]; exact z
              · rw [← hl]; exact w1
      · have zl := i_nle.mp z
        have cpl : simN (rowV V (toN (M1 43))) n = simN (rowV V (toN (M1 43))) 30 := by
          rcases hcut with y | y
          · exfalso
            rw [fa_le] at y
            rw [fa_lt] at zl
            omega
          · exact y
        have eS := full cpl
        refine next _ (toN (M1 43)) ⟨fun c hc c2 => ?_, fun i hi => ?_⟩ (fun i hi => ?_) ?_ pm ?_ (fun i hi => ?_) (fun φ hL => SB.new (P := fun g => ltR (ngV V) g (toN (M1 43))) pm (selfP φ hL) (fun g hg2 y => ?_) (fun g hg2 y => ?_))
        · rw [wrA_ne (fun w => hc (by unfold sQ; omega)), wr_ne (fun w => hc (by unfold sQ; omega))]; exact f2.1 c hc c2
        · rw [wrA_ne (by omega), wr_ne (by omega)]; exact f2.2 i hi
        · rw [wrA_ne (by omega), wr_ne (by omega)]; exact b1 i hi
        · rw [wrA_ne (by omega), wr_ne (by omega)]; exact e43
        · rw [wrA_ne (by omega), wr_eq, pk_us]; exact eS
        · rw [wrA_eq, sb_cpy0 (by omega)]
          exact (row_n hr h7 hi).1
        · rcases st with ⟨-, none⟩ | ⟨b, hb, hl, -⟩
          · exact absurd y (none g hg2)
          · rw [← eS]
            exact i_lt_trans zl (hl ▸ hb.2.2.1 g hg2 y)
        · rcases split φ hL g hg2 y with w | ⟨w, w2⟩
          · exact Or.inl w
          · refine Or.inr ⟨?_, w2⟩
            rcases w with ⟨-, w1⟩ | w1
            · rw [w1]; exact i_le_rfl _
            · rw [← eS]; exact i_lt_le (i_lt_trans zl w1)
  have init : ∀ r p (M1 : Mem), p + r = ngV V → FQ (ngV V) M M1 → (∀ i, i < 7 → M1 31 i = M 43 i) → (∀ i, i < p → M1 43 i = nI i) → WW X Q 23 [(0, .ref 29), (1, .ref 33), (2, .ref 4), (3, .ref 37), (4, .int (nI p))] [] (M1, gj G2, TTc ++ T2) := by
    intro r
    induction r with
    | zero =>
      intro p M1 hp hf a1 a3
      have ep : p = ngV V := by omega
      subst ep
      have hr : RowOK (ngV V) (M1 43) := ⟨fun i hi => ⟨i, hi, a3 i hi⟩, fun i j hi hj ee => by
        rw [a3 i hi, a3 j hj] at ee
        exact (neq (by omega) (by omega)).mp ee⟩
      have idr : ∀ i, i < ngV V → toN (M1 43) i = i := fun i hi => by unfold toN; rw [a3 i hi, ncl (by omega)]
      refine bX4_search_23 C ⟨fun _ => ?_, fun z => absurd ?_ z⟩
      · exact search 5040 0 _ ⟨fun c hc c2 => by rw [wr_ne (fun w => hc (by unfold sQ; omega))]; exact hf.1 c hc c2, fun i hi => by rw [wr_ne (by omega)]; exact hf.2 i hi⟩ (fun i hi => by rw [wr_ne (by omega)]; exact a1 i hi) (by rw [wr_ne (by omega)]; exact hr) (Nat.zero_le _) (by omega) (Or.inl ⟨by rw [wr_eq, pk_us], fun g hg2 => by rw [wr_ne (by omega)]; exact id_first hg2 idr⟩)
      · rw [hf.1 37 (by unfold sQ; omega) (by omega), hg]; exact i_le_rfl _
    | succ r ih =>
      intro p M1 hp hf a1 a3
      refine bX4_search_23 C ⟨fun z => absurd z ?_, fun _ => ⟨nin (by omega) (by omega), ?_⟩⟩
      · rw [hf.1 37 (by unfold sQ; omega) (by omega), hg, nle (by omega) (by omega)]; omega
      rw [ncl (by omega), nI_1]
      refine ih (p + 1) _ (by omega) ⟨fun c hc c2 => by rw [wr_ne c2]; exact hf.1 c hc c2, fun i hi => by rw [wr_eq, pk_un (by omega)]; exact hf.2 i hi⟩ (fun i hi => by rw [wr_ne (by omega)]; exact a1 i hi) (fun i hi => ?_)
      rw [wr_eq]
      by_cases e2 : i = p
      · rw [e2, pk_us]
      · rw [pk_un e2]; exact a3 i (by omega)
  exact init (ngV V) 0 _ (by omega) ⟨fun c hc c2 => by rw [wrA_ne (fun w => hc (by unfold sQ; omega))], fun i hi => by rw [wrA_ne (by omega)]⟩ (fun i hi => by rw [wrA_eq]; exact sb_cpy0 hi) (fun i hi => absurd hi (by omega))
end C74
