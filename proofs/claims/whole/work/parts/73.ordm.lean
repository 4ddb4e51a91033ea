/-! the reference: order -/
def OrdP (V : Mem) (x r : Int32) : Prop := ∃ b, IsO (ngV V) (rowF V) b ∧ ((x = -1 ∧ r = rowF V b) ∨ ∃ k, k < ngV V ∧ x = nI k ∧ r = nI (b k))
def okO (V : Mem) (x : Int32) : Prop := x = -1 ∨ okI (ngV V) x
section M73
variable {M V : Mem}
/-- the world of the search: only the row, and what is scratch, has changed -/
def FO (M M' : Mem) : Prop := (∀ c, ¬ sM c → c ≠ 64 → M' c = M c) ∧ ∀ i, 7 ≤ i → M' 64 i = M 64 i
theorem vM_fo {M' : Mem} (e : vM (M 57 1) M = V) (h : VOK V) (hf : FO M M') (hr : RowOK (ngV V) (M' 64)) : vM (M' 57 1) M' = rowV V (toN (M' 64)) := by
  have h7 := h.1.2.2
  have hg : (M 57 7).toNatClampNeg = ngV V := by rw [rm_g e h, ncl (by omega)]
  have o : ∀ c, c < 64 → M' c = M c := fun c hc => hf.1 c (by unfold sM; omega) (by omega)
  rw [o 57 (by omega)]
  unfold rowV
  funext c
  by_cases ec : c = 5
  · subst ec
    rw [wrA_eq]
    show nrm (M' 57 7).toNatClampNeg (M' 64) = _
    rw [o 57 (by omega), hg]
    exact nrm_cong (fun i hi => (row_n hr h7 hi).1)
  · rw [wrA_ne ec, ← e]
    unfold vM
    rw [o 57 (by omega), o 58 (by omega), o 59 (by omega), o 60 (by omega), o 61 (by omega), o 62 (by omega), o 63 (by omega)]
    rcases c with _ | _ | _ | _ | _ | _ | _ | _ | _ | _ | c <;> first | rfl | exact absurd rfl ec | skip
    · exact nrm_cong (fun i hi => hf.2 (14 + i) (by omega))
    · exact nrm_cong (fun i hi => hf.2 (7 + i) (by omega))
theorem m_order (e : vM (M 57 1) M = V) (h : VB V) (x : Int32) : WpI mX10_order [.ref 57, .int x] M (gj gm) (TTc ++ TTm) (fun r M' => ((¬ okO V x ∧ r = -1) ∨ (okO V x ∧ OrdP V x r)) ∧ FM M M') := by
  have h7 := h.1.1.2.2
  have h1 := h.1.1.2.1
  have hg := rm_g e h.1
  have m1 : (-1 : Int32).toInt = -1 := by decide
  refine WpI.of rfl rfl nL fun X Q C hk => bX10_order_0 C ⟨fun q => hk _ _ ⟨Or.inl ⟨fun z => ?_, rfl⟩, FM.r⟩, fun q => ⟨fun q2 => hk _ _ ⟨Or.inl ⟨fun z => ?_, rfl⟩, FM.r⟩, fun q2 => ?_⟩⟩
  · rw [fa_lt, m1] at q
    rcases z with z | ⟨i, hi, z⟩
    · rw [z, m1] at q; omega
    · rw [z, nti (by omega)] at q; omega
  · rw [hg, fa_lt, show nI (ngV V) - 1 = nI (ngV V) - nI 1 from rfl, pk_sub_toInt (by omega) (by omega)] at q2
    rcases z with z | ⟨i, hi, z⟩
    · rw [z, m1] at q2; omega
    · rw [z, nti (by omega)] at q2; omega
  have ok : okO V x := by
    rw [fa_lt, m1] at q
    rw [hg, fa_lt, show nI (ngV V) - 1 = nI (ngV V) - nI 1 from rfl, pk_sub_toInt (by omega) (by omega)] at q2
    by_cases z : x = -1
    · exact Or.inl z
    · have z2 : x.toInt ≠ -1 := fun y => z (by rw [fa_eq, m1]; exact y)
      exact Or.inr (ix_of (x := x) (n := ngV V) (by omega) (by rw [fa_lt, show (0 : Int32).toInt = 0 by decide]; omega) (by rw [fa_le, nti (by omega)]; omega))
  -- setting back
  have back : ∀ (b : Nat → Nat) (l y : Int32), IsO (ngV V) (rowF V) b → l = rowF V b → ∀ r p (M1 : Mem), p + r = 7 → FO M M1 → (∀ i, i < 7 → M1 78 i = M 64 i) → (∀ i, i < p → M1 64 i = M 64 i) → (∀ i, i < ngV V → M1 79 i = nI (b i)) → WW X Q 148 [(0, .ref 57), (1, .int x), (2, .int l), (3, .int y), (4, .int (nI p))] [] (M1, gj gm, TTc ++ TTm) := by
    intro b l y hb hl r
    induction r with
    | zero =>
      intro p M1 hp hf a1 a2 a3
      have ep : p = 7 := by omega
      subst ep
      have fm : FM M M1 := fun c hc => by
        by_cases ec : c = 64
        · subst ec
          funext i
          by_cases hi : i < 7
          · exact a2 i hi
          · exact hf.2 i (by omega)
        · exact hf.1 c hc ec
      refine bX10_order_148 C ⟨fun _ => ⟨fun z => ?_, fun z => hk _ _ ⟨Or.inr ⟨ok, b, hb, Or.inl ⟨?_, hl⟩⟩, fm⟩⟩, fun z => absurd (by decide) z⟩
      · rcases ok with y | ⟨k, hk2, y⟩
        · rw [y] at z
          exact absurd z (by decide)
        · subst y
          rw [ncl (by omega), a3 k hk2]
          exact ⟨nin (by omega) (by omega), hk _ _ ⟨Or.inr ⟨Or.inr ⟨k, hk2, rfl⟩, b, hb, Or.inr ⟨k, hk2, rfl, rfl⟩⟩, fm⟩⟩
      · rcases ok with y | ⟨k, hk2, y⟩
        · exact y
        · rw [y] at z
          exact absurd (i_nlt.mp (nn0 (by omega))) z
    | succ r ih =>
      intro p M1 hp hf a1 a2 a3
      refine bX10_order_148 C ⟨fun z => absurd z ?_, fun _ => ⟨nin (by omega) (by omega), nin (by omega) (by omega), ?_⟩⟩
      · show ¬ nI 7 ≤ nI p
        rw [nle (by omega) (by omega)]; omega
      rw [ncl (by omega), nI_1, a1 p (by omega)]
      refine ih (p + 1) _ (by omega) ⟨fun c hc c2 => by rw [wr_ne c2]; exact hf.1 c hc c2, fun i hi => by rw [wr_eq, pk_un (by omega)]; exact hf.2 i hi⟩ (fun i hi => by rw [wr_ne (by omega)]; exact a1 i hi) (fun i hi => ?_) (fun i hi => by rw [wr_ne (by omega)]; exact a3 i hi)
      rw [wr_eq]
      by_cases e2 : i = p
      · rw [e2, pk_us]
      · rw [pk_un e2]; exact a2 i (by omega)
  -- the search
  have search : ∀ r (M1 : Mem) (l : Int32), FO M M1 → (∀ i, i < 7 → M1 78 i = M 64 i) → RowOK (ngV V) (M1 64) → 5040 - rkR (ngV V) (toN (M1 64)) ≤ r → ((l < 0 ∧ ∀ g, PM (ngV V) g → ¬ ltR (ngV V) g (toN (M1 64))) ∨ (0 ≤ l ∧ ∃ b, SB (ngV V) (rowF V) (fun g => ltR (ngV V) g (toN (M1 64))) b ∧ l = rowF V b ∧ ∀ i, i < ngV V → M1 79 i = nI (b i))) → WW X Q 57 [(0, .ref 57), (1, .int x), (2, .int l), (3, .int 1)] [] (M1, gj gm, TTc ++ TTm) := by
    intro r
    induction r with
    | zero =>
      intro M1 l hf a1 hr hm
      have := rk_lt (row_pm hr h7) h7
      omega
    | succ r ih =>
      intro M1 l hf a1 hr hm st
      have pm := row_pm hr h7
      have ev := vM_fo e h.1 hf hr
      have hv := vok_rowV h.1 pm
      refine bX10_order_57 C ⟨fun z => absurd z (by decide), fun _ => (m_stayA ev hv).imp ?_⟩
      rintro r0 M2 ⟨hf2, -, rfl⟩
      have f2 : FO M M2 := ⟨fun c hc c2 => by rw [hf2 c (by unfold sM at hc; omega)]; exact hf.1 c hc c2, fun i hi => by rw [hf2 64 (by omega)]; exact hf.2 i hi⟩
      have e64 : M2 64 = M1 64 := hf2 64 (by omega)
      have b1 : ∀ i, i < 7 → M2 78 i = M 64 i := fun i hi => by rw [hf2 78 (by omega)]; exact a1 i hi
      have er : allS (rowV V (toN (M1 64))) = rowF V (toN (M1 64)) := rfl
      rw [er]
      have rg0 := rg_0 (all_rg hv)
      -- on to the next, whatever the best is
      have next : ∀ (M3 : Mem) (l v y w : Int32) (b : Nat → Nat), FO M M3 → (∀ i, i < 7 → M3 78 i = M 64 i) → M3 64 = M1 64 → l = rowF V b → SB (ngV V) (rowF V) (fun g => ¬ ltR (ngV V) (toN (M1 64)) g) b → (∀ i, i < ngV V → M3 79 i = nI (b i)) → WpI mX10_nextRow [.ref 57] M3 (gj gm) (TTc ++ TTm) (fun r M' => WW X Q 141 [(0, .ref 57), (1, .int x), (2, .int l), (3, .int 1), (4, .int v), (5, .int y), (6, .int w)] [.int r] (M', gj gm, TTc ++ TTm)) := by
        intro M3 l v y w b f3 c1 c64 hl hb c79
        have g3 : M3 57 7 = nI (ngV V) := by rw [f3.1 57 (by unfold sM; omega) (by omega), hg]
        refine (m_nextRow g3 h1 h7).imp ?_
        rintro r' M4 (⟨rfl, rfl, hl2⟩ | ⟨rfl, ψ, hx, rfl⟩)
        · rw [c64] at hl2
          refine bX10_order_141 C (bX10_order_57 C ⟨fun _ => ?_, fun z => absurd rfl z⟩)
          exact back b l 0 (hb.fin (fun g hg2 => last_row hr h7 hl2 hg2)) hl 7 0 M4 (by omega) f3 c1 (fun i hi => absurd hi (by omega)) c79
        · rw [c64] at hx
          obtain ⟨n1, n2, n3, n4⟩ := nx_row hr h7 hx
          refine bX10_order_141 C ?_
          have pp : PM (ngV V) (toN ψ) := row_pm n1 h7
          refine ih _ l ⟨fun c hc c2 => by rw [wrA_ne c2]; exact f3.1 c hc c2, fun i hi => by rw [wrA_eq, n4 i (by omega), ← c64]; exact f3.2 i hi⟩ (fun i hi => by rw [wrA_ne (by omega)]; exact c1 i hi) (by rw [wrA_eq]; exact n1) ?_ (Or.inr ⟨?_, b, ?_, hl, fun i hi => by rw [wrA_ne (by omega)]; exact c79 i hi⟩)
          · rw [wrA_eq]
            have := rk_mono pm n2
            have := rk_lt pp h7
            omega
          · rw [hl]
            exact rg_0 (all_rg (vok_rowV h.1 hb.1))
          · rw [wrA_eq]
            refine hb.keep ?_ (fun g hg2 hp => Or.inl (fun z => n3 g hg2 z hp))
            have nb := hb.2.1
            rcases lt_tri (f := b) (g := toN (M1 64)) (ngV V) with z | z | z
            · obtain ⟨p, hp, u, v⟩ := n2
              exact ⟨p, hp, fun q hq => (z q (by omega)).trans (u q hq), by rw [z p hp]; exact v⟩
            · exact lt_tr z n2
            · exact absurd z nb
      -- the best kept
      have keep : ∀ (b : Nat → Nat) (v : Int32) (p : Nat), l = rowF V b → SB (ngV V) (rowF V) (fun g => ¬ ltR (ngV V) (toN (M1 64)) g) b → (∀ i, i < ngV V → M2 79 i = nI (b i)) → p = 0 → WW X Q 103 [(0, .ref 57), (1, .int x), (2, .int l), (3, .int 1), (4, .int v), (5, .int 0), (6, .int (nI p))] [] (M2, gj gm, TTc ++ TTm) := by
        intro b v p hl hb c79 hp
        subst hp
        exact bX10_order_103 C ⟨fun _ => next M2 l v 0 _ b f2 b1 e64 hl hb c79, fun _ => ⟨fun _ => next M2 l v 0 _ b f2 b1 e64 hl hb c79, fun z => absurd rfl z⟩⟩
      -- a new best
      have copy : SB (ngV V) (rowF V) (fun g => ¬ ltR (ngV V) (toN (M1 64)) g) (toN (M1 64)) → ∀ r p (M3 : Mem), p + r = ngV V → FO M M3 → (∀ i, i < 7 → M3 78 i = M 64 i) → M3 64 = M1 64 → (∀ i, i < p → M3 79 i = nI (toN (M1 64) i)) → WW X Q 103 [(0, .ref 57), (1, .int x), (2, .int (rowF V (toN (M1 64)))), (3, .int 1), (4, .int (rowF V (toN (M1 64)))), (5, .int 1), (6, .int (nI p))] [] (M3, gj gm, TTc ++ TTm) := by
        intro hb r
        induction r with
        | zero =>
          intro p M3 hp f3 c1 c64 c79
          have go := next M3 (rowF V (toN (M1 64))) (rowF V (toN (M1 64))) 1 (nI p) (toN (M1 64)) f3 c1 c64 rfl hb (fun i hi => c79 i (by omega))
          refine bX10_order_103 C ⟨fun _ => go, fun z => absurd ?_ z⟩
          rw [f3.1 57 (by unfold sM; omega) (by omega), hg, show p = ngV V by omega]; exact i_le_rfl _
        | succ r ih3 =>
          intro p M3 hp f3 c1 c64 c79
          refine bX10_order_103 C ⟨fun z => absurd z ?_, fun _ => ⟨fun z => absurd z (by decide), fun _ => ⟨nin (by omega) (by omega), nin (by omega) (by omega), ?_⟩⟩⟩
          · rw [f3.1 57 (by unfold sM; omega) (by omega), hg, nle (by omega) (by omega)]; omega
          rw [ncl (by omega), nI_1]
          refine ih3 (p + 1) _ (by omega) ⟨fun c hc c2 => by rw [wr_ne (fun y => hc (by unfold sM; omega))]; exact f3.1 c hc c2, fun i hi => by rw [wr_ne (by omega)]; exact f3.2 i hi⟩ (fun i hi => by rw [wr_ne (by omega)]; exact c1 i hi) (by rw [wr_ne (by omega)]; exact c64) (fun i hi => ?_)
          rw [wr_eq]
          by_cases e2 : i = p
          · rw [e2, pk_us, c64]; exact (row_n hr h7 (by omega)).1
          · rw [pk_un e2]; exact c79 i (by omega)
      have seenSplit : ∀ g, PM (ngV V) g → ¬ ltR (ngV V) (toN (M1 64)) g → ltR (ngV V) g (toN (M1 64)) ∨ rowF V g = rowF V (toN (M1 64)) ∧ ¬ ltR (ngV V) g (toN (M1 64)) := by
        intro g hg2 z
        rcases lt_tri (f := g) (g := toN (M1 64)) (ngV V) with y | y | y
        · exact Or.inr ⟨by unfold rowF; rw [rowV_cong y], fun w => by obtain ⟨p, hp, -, c⟩ := w; rw [y p hp] at c; omega⟩
        · exact Or.inl y
        · exact absurd y z
      have newSB : (∀ g, PM (ngV V) g → ltR (ngV V) g (toN (M1 64)) → rowF V (toN (M1 64)) < rowF V g) → SB (ngV V) (rowF V) (fun g => ¬ ltR (ngV V) (toN (M1 64)) g) (toN (M1 64)) := fun hs => SB.new (P := fun g => ltR (ngV V) g (toN (M1 64))) pm (fun z => lt_irr z z) hs (fun g hg2 z => by
        rcases seenSplit g hg2 z with y | ⟨y1, y2⟩
        · exact Or.inl y
        · exact Or.inr ⟨by rw [y1]; exact i_le_rfl _, y2⟩)
      rcases st with ⟨ln, none⟩ | ⟨lp, b, hb, hl, c79⟩
      · have hb := newSB (fun g hg2 z => absurd z (none g hg2))
        exact bX10_order_69 C ⟨fun _ => copy hb (ngV V) 0 M2 (by omega) f2 b1 e64 (fun i hi => absurd hi (by omega)), fun z => absurd ln z⟩
      · refine bX10_order_69 C ⟨fun z => absurd z (i_nlt.mpr lp), fun _ => ⟨fun z => ?_, fun z => ?_⟩⟩
        · refine keep b _ 0 hl (hb.keep (fun y => lt_irr y hb.2.1) (fun g hg2 y => ?_)) (fun i hi => by rw [hf2 79 (by omega)]; exact c79 i hi) rfl
          rcases seenSplit g hg2 y with w | ⟨w1, w2⟩
          · exact Or.inl w
          · refine Or.inr ⟨by rw [w1, ← hl]; exact z, fun u => w2 (lt_tr u hb.2.1)⟩
        · have hb2 := newSB (fun g hg2 y => i_lt_trans (hl ▸ i_nle.mp z) (hb.2.2.1 g hg2 y))
          exact copy hb2 (ngV V) 0 M2 (by omega) f2 b1 e64 (fun i hi => absurd hi (by omega))
  have init : ∀ r p (M1 : Mem), p + r = 7 → FO M M1 → (∀ i, i < p → M1 78 i = M 64 i) → (∀ i, p ≤ i → M1 64 i = M 64 i) → (∀ i, i < p → M1 64 i = nI i) → WW X Q 22 [(0, .ref 57), (1, .int x), (2, .int (nI p))] [] (M1, gj gm, TTc ++ TTm) := by
    intro r
    induction r with
    | zero =>
      intro p M1 hp hf a1 a2 a3
      have ep : p = 7 := by omega
      subst ep
      have hr : RowOK (ngV V) (M1 64) := ⟨fun i hi => ⟨i, hi, a3 i (by omega)⟩, fun i j hi hj ee => by
        rw [a3 i (by omega), a3 j (by omega)] at ee
        exact (neq (by omega) (by omega)).mp ee⟩
      have idr : ∀ i, i < ngV V → toN (M1 64) i = i := fun i hi => by unfold toN; rw [a3 i (by omega), ncl (by omega)]
      refine bX10_order_22 C ⟨fun _ => ?_, fun z => absurd (by decide) z⟩
      exact search 5040 M1 _ hf a1 hr (by omega) (Or.inl ⟨by decide, fun g hg2 => id_first hg2 idr⟩)
    | succ r ih =>
      intro p M1 hp hf a1 a2 a3
      refine bX10_order_22 C ⟨fun z => absurd z ?_, fun _ => ⟨nin (by omega) (by omega), nin (by omega) (by omega), nin (by omega) (by omega), ?_⟩⟩
      · show ¬ nI 7 ≤ nI p
        rw [nle (by omega) (by omega)]; omega
      rw [ncl (by omega), nI_1]
      refine ih (p + 1) _ (by omega) ⟨fun c hc c2 => by rw [wr_ne c2, wr_ne (fun y => hc (by unfold sM; omega))]; exact hf.1 c hc c2, fun i hi => by rw [wr_eq, pk_un (by omega), wr_ne (by omega)]; exact hf.2 i hi⟩ (fun i hi => ?_) (fun i hi => ?_) (fun i hi => ?_)
      · rw [wr_ne (by omega), wr_eq]
        by_cases e2 : i = p
        · rw [e2, pk_us]; exact a2 p (Nat.le_refl _)
        · rw [pk_un e2]; exact a1 i (by omega)
      · rw [wr_eq, pk_un (by omega), wr_ne (by omega)]; exact a2 i (by omega)
      · rw [wr_eq, wr_ne (by omega)]
        by_cases e2 : i = p
        · rw [e2, pk_us]
        · rw [pk_un e2]; exact a3 i (by omega)
  exact init 7 0 M (by omega) ⟨fun _ _ _ => rfl, fun _ _ => rfl⟩ (fun i hi => absurd hi (by omega)) (fun _ _ => rfl) (fun i hi => absurd hi (by omega))
end M73
