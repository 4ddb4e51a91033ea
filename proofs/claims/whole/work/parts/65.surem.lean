/-! sure: the reference -/
section M65
variable {M V R : Mem}
theorem rM_81 {M' : Mem} (h : Fr 81 82 M M') : rM M' = rM M := by
  unfold rM
  rw [h 57 (by omega), h 80 (by omega)]
theorem Fr.fm81 {M' : Mem} (h : Fr 81 82 M M') : FM M M' := fun c hc => h c (by unfold sM at hc; omega)
theorem mk_out {l i : Nat} (h7 : ngV V ≤ 7) (hi : i < 32) (hn : ngV V ≤ i) : mkS V R l i = false := by
  unfold mkS slpS
  rw [bt_bO (by omega) hi]
  simp [show ¬ i < ngV V by omega]
theorem m_waysWith (e : vM (M 57 1) M = V) (h : VOK V) (er : rM M = R) (hr : ROK V R) {p q : Int32} {m : Nat → Nat → Bool} (hm : ∀ l, l < nlR R → ∀ i, i < 7 → bt (if nI l = p then (if q < 0 then slpS V R l else slpS V R l &&& ((1 : Int32) <<< (q &&& 31))) else slpS V R l) i = m l i) (ho : ∀ l i, i < 7 → ngV V ≤ i → m l i = false) : WpI mX10_waysWith [.ref 57, .int p, .int q] M (gj gm) (TTc ++ TTm) (fun r M' => r = nI (tot m (nlR R)) ∧ Fr 81 82 M M') := by
  have h6 := hr.1.2
  have h7 := h.1.2.2
  have em : M 57 39 = nI (nlR R) := rk_0 er hr
  refine WpI.of rfl rfl nL fun X Q C hk => bX10_waysWith_0 C ?_
  have sum : ∀ r s (M1 : Mem), s + r = 128 → Fr 81 82 M M1 → (∀ t, t < 128 → M1 81 t = nI (Wy m (nlR R) t)) → WW X Q 213 [(0, .ref 57), (1, .int p), (2, .int q), (3, .int (nI (sumN (Wy m (nlR R)) s))), (4, .int (nI s))] [] (M1, gj gm, TTc ++ TTm) := by
    intro r
    induction r with
    | zero =>
      intro s M1 hs hf a
      have es : s = 128 := by omega
      subst es
      exact bX10_waysWith_213 C ⟨fun _ => hk _ _ ⟨rfl, hf⟩, fun z => absurd (by decide) z⟩
    | succ r ih =>
      intro s M1 hs hf a
      have st := ih (s + 1) M1 (by omega) hf a
      have su : sumN (Wy m (nlR R)) (s + 1) = sumN (Wy m (nlR R)) s + Wy m (nlR R) s := rfl
      rw [su, ← nI_add] at st
      refine bX10_waysWith_213 C ⟨fun z => absurd z ?_, fun _ => ⟨nin (by omega) (by omega), ?_⟩⟩
      · show ¬ nI 128 ≤ nI s
        rw [nle (by omega) (by omega)]; omega
      rw [ncl (by omega), nI_1, a s (by omega)]
      exact st
  have rows : ∀ r l (M1 : Mem), l + r = nlR R → Fr 81 82 M M1 → (∀ t, t < 128 → M1 81 t = nI (Wy m l t)) → WW X Q 32 [(0, .ref 57), (1, .int p), (2, .int q), (3, .int (nI l))] [] (M1, gj gm, TTc ++ TTm) := by
    intro r
    induction r with
    | zero =>
      intro l M1 hl hf a
      have el : l = nlR R := by omega
      subst el
      exact bX10_waysWith_32 C ⟨fun _ => sum 128 0 M1 (by omega) hf a, fun z => absurd (by rw [hf 57 (by omega), em]; exact i_le_rfl _) z⟩
    | succ r ih =>
      intro l M1 hl hf a
      have e1 : vM (M1 57 1) M1 = V := by rw [hf 57 (by omega)]; exact (vM_fm hf.fm81).trans e
      have r1 : rM M1 = R := (rM_81 hf).trans er
      have hml := hm l (by omega)
      refine bX10_waysWith_32 C ⟨fun z => absurd z ?_, fun _ => (m_sleptBy e1 h r1 hr (k := l) (by omega)).to (bX10_waysWith_45 C ?_)⟩
      · rw [hf 57 (by omega), em, nle (by omega) (by omega)]; omega
      have body : ∀ y : Int32, (∀ i, i < 7 → bt y i = m l i) → WW X Q 72 [(0, .ref 57), (1, .int p), (2, .int q), (3, .int (nI l)), (4, .int y), (5, .int 0)] [] (M1, gj gm, TTc ++ TTm) := by
        intro y hy
        -- copying back
        have copy : ∀ r s (M2 : Mem), s + r = 128 → Fr 81 82 M M2 → (∀ t, t < 128 → M2 82 t = nI (Wy m (l + 1) t)) → (∀ t, t < s → M2 81 t = nI (Wy m (l + 1) t)) → WW X Q 174 [(0, .ref 57), (1, .int p), (2, .int q), (3, .int (nI l)), (4, .int y), (5, .int (nI s))] [] (M2, gj gm, TTc ++ TTm) := by
          intro r
          induction r with
          | zero =>
            intro s M2 hs hf2 a2 b2
            have es : s = 128 := by omega
            subst es
            refine bX10_waysWith_174 C ⟨fun _ => ?_, fun z => absurd (by decide) z⟩
            rw [nI_1]
            exact ih (l + 1) M2 (by omega) hf2 b2
          | succ r ih2 =>
            intro s M2 hs hf2 a2 b2
            refine bX10_waysWith_174 C ⟨fun z => absurd z ?_, fun _ => ⟨nin (by omega) (by omega), nin (by omega) (by omega), ?_⟩⟩
            · show ¬ nI 128 ≤ nI s
              rw [nle (by omega) (by omega)]; omega
            rw [ncl (by omega), nI_1, a2 s (by omega)]
            refine ih2 (s + 1) _ (by omega) (hf2.wr (by omega) (by omega)) (fun t ht => by rw [wr_ne (by omega), a2 t ht]) (fun t ht => ?_)
            rw [wr_eq]
            by_cases z : t = s
            · rw [z, pk_us]
            · rw [pk_un z, b2 t (by omega)]
        -- from each set to those of one more
        have push : ∀ r s (M2 : Mem), s + r = 128 → Fr 81 82 M M2 → (∀ t, t < 128 → M2 81 t = nI (Wy m l t)) → (∀ t, t < 128 → M2 82 t = nI (ptN (m l) (Wy m l) t s 0)) → WW X Q 97 [(0, .ref 57), (1, .int p), (2, .int q), (3, .int (nI l)), (4, .int y), (5, .int (nI s))] [] (M2, gj gm, TTc ++ TTm) := by
          intro r
          induction r with
          | zero =>
            intro s M2 hs hf2 a2 b2
            have es : s = 128 := by omega
            subst es
            exact bX10_waysWith_97 C ⟨fun _ => copy 128 0 M2 (by omega) hf2 (fun t ht => by rw [b2 t ht, pt_end ht]; rfl) (fun t ht => absurd ht (by omega)), fun z => absurd (by decide) z⟩
          | succ r ih2 =>
            intro s M2 hs hf2 a2 b2
            have hs' : s < 128 := by omega
            refine bX10_waysWith_97 C ⟨fun z => absurd z ?_, fun _ => ?_⟩
            · show ¬ nI 128 ≤ nI s
              rw [nle (by omega) (by omega)]; omega
            have inner : ∀ r i (M3 : Mem), i + r = ngV V → Fr 81 82 M M3 → (∀ t, t < 128 → M3 81 t = nI (Wy m l t)) → (∀ t, t < 128 → M3 82 t = nI (ptN (m l) (Wy m l) t s i)) → WW X Q 108 [(0, .ref 57), (1, .int p), (2, .int q), (3, .int (nI l)), (4, .int y), (5, .int (nI s)), (6, .int (nI i))] [] (M3, gj gm, TTc ++ TTm) := by
              intro r
              induction r with
              | zero =>
                intro i M3 hi hf3 a3 b3
                refine bX10_waysWith_108 C ⟨fun _ => ?_, fun z => absurd ?_ z⟩
                · rw [nI_1]
                  refine ih2 (s + 1) M3 (by omega) hf3 a3 (fun t ht => ?_)
                  rw [b3 t ht, pt_skip (a := i) ht (by omega) (fun j hj1 hj2 => Or.inr (Or.inl (ho l j hj2 (by omega))))]
                · rw [hf3 57 (by omega), rm_g e h, show i = ngV V by omega]; exact i_le_rfl _
              | succ r ih3 =>
                intro i M3 hi hf3 a3 b3
                have hi' : i < 7 := by omega
                refine bX10_waysWith_108 C ⟨fun z => absurd z ?_, fun _ => ?_⟩
                · rw [hf3 57 (by omega), rm_g e h, nle (by omega) (by omega)]; omega
                rw [bit_1 _ (by omega), bit_1 _ (by omega), hy i hi', fB3 s hs' i hi', nI_1]
                refine ⟨fun z => ih3 (i + 1) M3 (by omega) hf3 a3 (fun t ht => ?_), fun z => ⟨fun z2 => ?_, fun z2 => ih3 (i + 1) M3 (by omega) hf3 a3 (fun t ht => ?_)⟩⟩
                · rw [b3 t ht, pt_miss ht hi' (Or.inr (Or.inl (by simpa using z)))]
                · obtain ⟨c1, c2, c3, c4⟩ := fB1 s hs' i hi' (by simpa using z2)
                  rw [c4, ncl (by omega), ncl (by omega)]
                  refine ⟨nin c1 (by omega), nin hs' (by omega), nin c1 (by omega), ih3 (i + 1) _ (by omega) (hf3.wr (by omega) (by omega)) (fun t ht => by rw [wr_ne (by omega), a3 t ht]) (fun t ht => ?_)⟩
                  rw [wr_eq]
                  by_cases z3 : t = s + 2 ^ i
                  · subst z3
                    rw [pk_us, b3 _ ht, a3 s hs', nI_add, pt_hit hs' hi' (by simpa using z2) z]
                  · rw [pk_un z3, b3 t ht, pt_miss ht hi' (Or.inr (Or.inr (Or.inl z3)))]
                · rw [b3 t ht, pt_miss ht hi' (Or.inl z2)]
            exact inner (ngV V) 0 M2 (by omega) hf2 a2 b2
        have zero : ∀ r s (M2 : Mem), s + r = 128 → Fr 81 82 M M2 → (∀ t, t < 128 → M2 81 t = nI (Wy m l t)) → (∀ t, t < s → M2 82 t = 0) → WW X Q 72 [(0, .ref 57), (1, .int p), (2, .int q), (3, .int (nI l)), (4, .int y), (5, .int (nI s))] [] (M2, gj gm, TTc ++ TTm) := by
          intro r
          induction r with
          | zero =>
            intro s M2 hs hf2 a2 b2
            have es : s = 128 := by omega
            subst es
            exact bX10_waysWith_72 C ⟨fun _ => push 128 0 M2 (by omega) hf2 a2 (fun t ht => by rw [b2 t ht, pt_0]; rfl), fun z => absurd (by decide) z⟩
          | succ r ih2 =>
            intro s M2 hs hf2 a2 b2
            refine bX10_waysWith_72 C ⟨fun z => absurd z ?_, fun _ => ⟨nin (by omega) (by omega), ?_⟩⟩
            · show ¬ nI 128 ≤ nI s
              rw [nle (by omega) (by omega)]; omega
            rw [ncl (by omega), nI_1]
            refine ih2 (s + 1) _ (by omega) (hf2.wr (by omega) (by omega)) (fun t ht => by rw [wr_ne (by omega), a2 t ht]) (fun t ht => ?_)
            rw [wr_eq]
            by_cases z : t = s
            · rw [z, pk_us]
            · rw [pk_un z, b2 t (by omega)]
        exact zero 128 0 M1 (by omega) hf a (fun t ht => absurd ht (by omega))
      refine ⟨fun z => ?_, fun z => ⟨fun z2 => ?_, fun z2 => ?_⟩⟩
      · rw [if_neg z] at hml
        exact body _ hml
      · rw [if_pos z, if_pos z2] at hml
        exact body _ hml
      · rw [if_pos z, if_neg z2] at hml
        exact body _ hml
  have init : ∀ r s (M1 : Mem), s + r = 128 → Fr 81 82 M M1 → (∀ t, t < s → M1 81 t = nI (Wy m 0 t)) → WW X Q 2 [(0, .ref 57), (1, .int p), (2, .int q), (3, .int (nI s))] [] (M1, gj gm, TTc ++ TTm) := by
    intro r
    induction r with
    | zero =>
      intro s M1 hs hf a
      have es : s = 128 := by omega
      subst es
      exact bX10_waysWith_2 C ⟨fun _ => rows (nlR R) 0 M1 (by omega) hf a, fun z => absurd (by decide) z⟩
    | succ r ih =>
      intro s M1 hs hf a
      have go : ∀ x : Int32, x = nI (Wy m 0 s) → WW X Q 2 [(0, .ref 57), (1, .int p), (2, .int q), (3, .int (nI (s + 1)))] [] (wr M1 81 s x, gj gm, TTc ++ TTm) := by
        intro x hx
        refine ih (s + 1) _ (by omega) (hf.wr (by omega) (by omega)) (fun t ht => ?_)
        rw [wr_eq]
        by_cases z : t = s
        · rw [z, pk_us, hx]
        · rw [pk_un z, a t (by omega)]
      have v := nin (a := s) (n := 128) (by omega) (by omega)
      refine bX10_waysWith_2 C ⟨fun z => absurd z ?_, fun _ => ?_⟩
      · show ¬ nI 128 ≤ nI s
        rw [nle (by omega) (by omega)]; omega
      rw [ncl (by omega), nI_1]
      refine ⟨fun z => ⟨v, go _ ?_⟩, fun z => ⟨v, go _ ?_⟩⟩
      · have : s ≠ 0 := fun y => z (by rw [y]; rfl)
        unfold Wy
        rw [if_neg this]
        rfl
      · have : s = 0 := (neq (b := 0) (by omega) (by omega)).mp z
        unfold Wy
        rw [if_pos this]
        rfl
  exact init 128 0 M (by omega) Fr.rfl' (fun t ht => absurd ht (by omega))
theorem mm_all {l : Nat} (h : nlR R ≤ 6) (hl : l < nlR R) (i : Nat) : bt (if nI l = (-4 : Int32) then (if (-4 : Int32) < 0 then slpS V R l else slpS V R l &&& ((1 : Int32) <<< ((-4 : Int32) &&& 31))) else slpS V R l) i = mkS V R l i := by
  rw [if_neg (fun z => absurd (show nI l < 0 by rw [z]; decide) (nn0 (by omega)))]
  rfl
theorem mm_pin {l k g : Nat} (h : nlR R ≤ 6) (hl : l < nlR R) (hk : k < nlR R) (hg : g < 7) {i : Nat} (hi : i < 7) : bt (if nI l = nI k then (if nI g < 0 then slpS V R l else slpS V R l &&& ((1 : Int32) <<< (nI g &&& 31))) else slpS V R l) i = pin (mkS V R) k g l i := by
  rw [if_neg (nn0 (a := g) (by omega))]
  exact mk_pin h hl hk hg hi
theorem m_sure (e : vM (M 57 1) M = V) (h : VB V) (er : rM M = R) (hr : ROK V R) (x : Int32) : WpI mX10_sure [.ref 57, .int x] M (gj gm) (TTc ++ TTm) (fun r M' => r = sureQ V R x ∧ FM M M') := by
  have h7 := h.1.1.2.2
  have h6 := hr.1.2
  have em : M 57 39 = nI (nlR R) := rk_0 er hr
  have m1 : (-1 : Int32).toInt = -1 := by decide
  have z0 : (0 : Int32).toInt = 0 := by decide
  have tl : allW V R < 2 ^ 31 := tot_lt h6
  refine WpI.of rfl rfl nL fun X Q C hk => bX10_sure_0 C ⟨fun q => hk _ _ ⟨?_, FM.r⟩, fun q => ⟨fun q2 => hk _ _ ⟨?_, FM.r⟩, fun q2 => (m_waysWith e h.1 er hr (fun l hl i hi => mm_all h6 hl i) (fun l i hi hn => mk_out h7 (by omega) hn)).imp ?_⟩⟩
  · unfold sureQ
    rw [fa_lt, m1] at q
    rw [if_neg (fun z => by rw [z, m1] at q; omega)]
    exact gd_lo (by rw [fa_lt, z0]; omega)
  · unfold sureQ
    rw [em, fa_lt, show nI (nlR R) - 1 = nI (nlR R) - nI 1 from rfl, pk_sub_toInt (by omega) (by omega)] at q2
    rw [fa_lt, m1] at q
    have hx : (0 : Int) ≤ x.toInt := by omega
    rw [if_neg (fun z => by rw [z, m1] at hx; omega)]
    exact gd_hi (by rw [fa_le, nti (by omega)]; omega)
  rintro r M1 ⟨rfl, hf1⟩
  refine bX10_sure_28 C ⟨fun q3 => ?_, fun q3 => hk _ _ ⟨?_, hf1.fm81⟩⟩
  · rw [em, fa_lt, show nI (nlR R) - 1 = nI (nlR R) - nI 1 from rfl, pk_sub_toInt (by omega) (by omega)] at q2
    obtain ⟨k, hk6, ek⟩ := ix_of (x := x) (n := nlR R) (by omega) (i_nlt.mpr q3) (by rw [fa_le, nti (by omega)]; omega)
    subst ek
    unfold sureQ at hk
    rw [if_neg (fun z => absurd (show nI k < 0 by rw [z]; decide) (nn0 (by omega))), gd_in hk6 (by omega)] at hk
    have loop : ∀ r i (M2 : Mem), i + r = ngV V → Fr 81 82 M M2 → WW X Q 41 [(0, .ref 57), (1, .int (nI k)), (2, .int (nI (allW V R))), (3, .int (if allW V R = 0 then -4 else o2i (fstP (surP V R k) i))), (4, .int (nI i))] [] (M2, gj gm, TTc ++ TTm) := by
      intro r
      induction r with
      | zero =>
        intro i M2 hi hf
        have ei : i = ngV V := by omega
        subst ei
        refine bX10_sure_41 C ⟨fun _ => hk _ _ ⟨rfl, hf.fm81⟩, fun z => absurd ?_ z⟩
        rw [hf 57 (by omega), rm_g e h.1]; exact i_le_rfl _
      | succ r ih =>
        intro i M2 hi hf
        have st : ∀ M3, Fr 81 82 M M3 → _ := fun M3 hf3 => ih (i + 1) M3 (by omega) hf3
        have e2 : vM (M2 57 1) M2 = V := by rw [hf 57 (by omega)]; exact (vM_fm hf.fm81).trans e
        have r2 : rM M2 = R := (rM_81 hf).trans er
        refine bX10_sure_41 C ⟨fun z => absurd z ?_, fun _ => ⟨fun z => hk _ _ ⟨?_, hf.fm81⟩, fun z => (m_waysWith e2 h.1 r2 hr (fun l hl j hj => mm_pin h6 hl hk6 (g := i) (by omega) hj) (fun l j hj hn => by unfold pin; rw [mk_out h7 (by omega) hn]; rfl)).imp ?_⟩⟩
        · rw [hf 57 (by omega), rm_g e h.1, nle (by omega) (by omega)]; omega
        · have : allW V R ≤ 0 := (nI_leI (b := 0) tl (by omega)).mp z
          unfold sureS
          rw [if_pos (by omega), if_pos (by omega)]
        · rintro r M3 ⟨rfl, hf3⟩
          have nz : ¬ allW V R = 0 := fun y => z (by rw [y]; exact i_le_rfl _)
          have tl2 : tot (pin (mkS V R) k i) (nlR R) < 2 ^ 31 := tot_lt h6
          have st3 := st M3 (hf.trans hf3)
          rw [if_neg nz] at st3 ⊢
          refine bX10_sure_61 C ?_
          rw [nI_eq tl2 tl, nI_1]
          refine ⟨fun y => ?_, fun y => ?_⟩
          · have s0 : surP V R k i = false := by unfold surP; exact decide_eq_false y
            have : fstP (surP V R k) (i + 1) = fstP (surP V R k) i := by
              show (match fstP (surP V R k) i with | some p => some p | none => if surP V R k i then some i else none) = _
              rw [s0]
              cases fstP (surP V R k) i <;> rfl
            rw [this] at st3
            exact st3
          · have : fstP (surP V R k) (i + 1) = some i := by
              refine fstP_eq (by omega) (by unfold surP; exact decide_eq_true y) (fun j hj => ?_)
              by_cases s0 : surP V R k j = true
              · have yj : tot (pin (mkS V R) k j) (nlR R) = allW V R := by unfold surP at s0; exact of_decide_eq_true s0
                have := tot_one (m := mkS V R) hk6 (by show 0 < allW V R; omega) (show j < 7 by omega) (show i < 7 by omega) yj y
                omega
              · simpa using s0
            rw [this] at st3
            exact st3
    have := loop (ngV V) 0 M1 (by omega) hf1
    rw [show (if allW V R = 0 then (-4 : Int32) else o2i (fstP (surP V R k) 0)) = -4 by split <;> rfl] at this
    exact this
  · have ex : x = -1 := by
      rw [fa_lt, m1] at q
      rw [fa_le, z0] at q3
      rw [fa_eq, m1]
      omega
    unfold sureQ
    rw [if_pos ex]
    rfl
end M65
