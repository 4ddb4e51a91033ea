/-! the calls that change something -/
section S92
variable {M V V' R L M1 M2 : Mem} {t : Nat → Int32} {n kn : Nat}
theorem vS_nb (hc : ∀ c, c ≠ 1 → c ≠ 4 → c ≠ 5 → V' c = V c) : nbV V' = nbV V := by unfold nbV; rw [hc 9 (by omega) (by omega) (by omega)]
theorem rok_c (h : ROK V R) (hc : ∀ c, c ≠ 1 → c ≠ 4 → c ≠ 5 → V' c = V c) : ROK V' R := by
  unfold ROK
  rw [vS_nb hc]
  exact h
theorem I4.v (h : I4 V kn M) (h7 : ngV V ≤ 7) (hc : ∀ c, c ≠ 1 → c ≠ 4 → c ≠ 5 → V' c = V c) : I4 V' kn M := ⟨h.1, h.2.1, h.2.2.1, fun k hk => by
  rw [vS_cong h7 hc (fun _ _ => rfl), vS_cong (f := kM M k) h7 hc (fun _ _ => rfl)]
  exact h.2.2.2 k hk⟩
theorem lok_push {w g o : Int32} (h : LOK L) : LOK (pushL L w g o) ∧ nlL (pushL L w g o) = nlL L - dL (nlL L) + 1 := by
  have h8 := h.2
  have hd : nlL L - dL (nlL L) + 1 ≤ 8 := by
    unfold dL
    split <;> omega
  have e : nlL (pushL L w g o) = nlL L - dL (nlL L) + 1 := by
    show (nI (nlL L - dL (nlL L) + 1)).toNatClampNeg = _
    exact ncl (by omega)
  exact ⟨⟨by rw [e]; rfl, by rw [e]; exact hd⟩, e⟩
/-- a change noted on both sides -/
theorem chg {w o : Int32} {g : Nat} (h : InvP V R L t n kn M) (hv : VB V') (hc : ∀ c, c ≠ 1 → c ≠ 4 → c ≠ 5 → V' c = V c) (hg : g < ngV V) (ho : w = 0 → okI (ngV V) o) (ht : tbV V' w g o = V)
    (a1 : vC M2 = V') (a2 : lgC M2 = pushL L w (nI g) o) (a3 : M2 29 3 = 0) (b1 : vM (M2 57 1) M2 = V') (b2 : M2 57 35 = nI (nlL L - dL (nlL L) + 1)) (b3 : spA M2 = pushA (nlL L) (spA M) (M 64))
    (f : ∀ c, c = 1 ∨ c = 2 ∨ c = 14 ∨ (16 ≤ c ∧ c ≤ 27) ∨ c = 34 ∨ c = 46 ∨ c = 65 ∨ c = 80 ∨ c = 83 → M2 c = M c) (f57 : ∀ j, j ≠ 35 → M2 57 j = M 57 j) : Inv M2 := by
  obtain ⟨i1, i2, i3, i4, i5, i6, -⟩ := h
  have h7 := i1.2.2.1.1.2.2
  obtain ⟨lk, ln⟩ := lok_push (w := w) (g := nI g) (o := o) i3.2.1
  refine ⟨V', R, pushL L w (nI g) o, t, n, kn, ⟨a1, b1, hv⟩, ?_, ⟨a2, lk, by rw [ln]; exact b2, ?_⟩, ?_, ?_, ?_, Or.inl a3⟩
  · have := i2.c (M' := M2) (fun c _ _ => f c (by omega)) (f57 39 (by omega)) (f 80 (by omega))
    exact ⟨this.1, this.2.1, rok_c this.2.2 hc⟩
  · rw [ln, b3]
    exact CH.push h7 i3.2.2.2 i3.2.1.2 i1.2.2 (vS_vM i1.2.1) hc hg ho ht
  · exact (i4.c (by rw [f 14 (by omega)]) (f57 43 (by omega)) (fun c _ _ => f c (by omega)) (f 83 (by omega))).v h7 hc
  · exact i5.c (by rw [f 1 (by omega)]) (f 2 (by omega)) (f57 13 (by omega)) (f 65 (by omega))
  · exact i6.c (by rw [f 34 (by omega)]) (f57 3 (by omega)) (by rw [f 46 (by omega)]) (by rw [f 46 (by omega)])
/-- the class's half of a change leaves the reference as it was -/
theorem NtC.m (h : InvP V R L t n kn M) {M0 Lg : Mem} (hm : ∀ c, c < 33 ∨ 44 < c ∨ c = 34 → M0 c = M c) (hn : NtC M0 M1 Lg) : (∀ c, (c < 10 ∨ (13 < c ∧ c < 29) ∨ (29 < c ∧ c < 33) ∨ 44 < c ∨ c = 34) → M1 c = M c) ∧ (∀ c, 33 ≤ c → M1 c = M0 c) ∧ lgC M1 = Lg ∧ M1 29 3 = 0 := by
  obtain ⟨Mx, fx, lx, rfl⟩ := hn
  refine ⟨fun c hc => ?_, fun c hc => ?_, ?_, wr_at⟩
  · rw [wr_ne (by omega), fx c (by omega)]
    exact hm c (by omega)
  · rw [wr_ne (by omega)]
    exact fx c (by omega)
  · rw [lgC_cg (M := Mx) (fun c _ _ => wr_ne (by omega))]
    exact lx
theorem s_wear (h : Inv M) (i c : Int32) : StepOK mX9_wear mX10_wear [.int i, .int c] M := by
  obtain ⟨V, R, L, t, n, kn, h⟩ := h
  have hv := h.1.2.2
  have h7 := hv.1.1.2.2
  refine (c_wear h.1.1 hv h.2.2.1.1 h.2.2.1.2.1 i c).imp ?_
  rintro r M1 (⟨a, rfl, rfl⟩ | ⟨k, hk, rfl, hc, rfl, nt⟩)
  · refine (m_wear h.1.2.1 hv h.2.2.1.2.2.1 h.2.2.1.2.1.2 i c).imp ?_
    rintro r2 M2 (⟨-, rfl, rfl⟩ | ⟨k, hk, rfl, hc, -⟩)
    · exact ⟨rfl, h.i⟩
    · exact absurd ⟨⟨k, hk, rfl⟩, hc⟩ a
  · obtain ⟨g1, g2, g3, g4⟩ := nt.m h (fun c hc => wr_ne (by omega))
    have e1 : vM (M1 57 1) M1 = V := by
      rw [vM_cg (M := M) (fun c _ _ => g1 c (by omega)) (fun j _ _ => by rw [g1 57 (by omega)])]
      exact h.1.2.1
    have n1 : M1 57 35 = nI (nlL L) := by rw [g1 57 (by omega)]; exact h.2.2.1.2.2.1
    refine (m_wear e1 hv n1 h.2.2.1.2.1.2 (nI k) c).imp ?_
    rintro r2 M2 (⟨a, -⟩ | ⟨k2, hk2, ek, -, rfl, Mx, ⟨x1, x2, x3⟩, rfl⟩)
    · exact absurd ⟨⟨k, hk, rfl⟩, hc⟩ a
    have ek2 : k2 = k := ((neq (by omega) (by omega)).mp ek).symm
    subst ek2
    refine ⟨rfl, chg (V' := wr V 4 k2 c) (w := 1) (o := V 4 k2) h (vb_worn hv hc) (fun c c1 c4 c5 => wr_ne c4) hk (fun z => absurd z (by decide)) (by unfold tbV; rw [if_neg (by decide), if_pos rfl, wr_wr, wr_self]) ?_ ?_ ?_ ?_ ?_ ?_ (fun c hc => ?_) (fun j hj => ?_)⟩
    · have e0 : vC (wr M 42 k2 c) = wr V 4 k2 c := by
        rw [vC_worn (by rw [rc_g h.1.1 hv.1, ncl (by omega)]; exact hk), h.1.1]
      rw [vC_cg (M := wr M 42 k2 c) (fun c c1 c2 => by rw [wr_ne (by omega), x1 c (by omega) (by omega), g2 c (by omega)])]
      exact e0
    · rw [lgC_cg (M := M1) (fun c c1 c2 => by rw [wr_ne (by omega), x1 c (by omega) (by omega)])]
      exact g3
    · rw [wr_ne (by omega), x1 29 (by omega) (by omega)]; exact g4
    · have eo : (wr Mx 64 (7 + k2) c) 57 1 = M1 57 1 := by rw [wr_ne (by omega), x2]; rfl
      have ex : vM (M1 57 1) Mx = V := by
        rw [← e1]
        have : Mx 57 1 = M1 57 1 := by rw [x2]; rfl
        rw [← this]
        rw [vM_cg (M := M1) (M' := Mx) (fun c _ _ => x1 c (by omega) (by omega)) (fun j j1 j2 => by rw [x2, pk_un (by omega)])]
        rw [this]
      rw [eo, vM_worn (by rw [rm_g ex hv.1, ncl (by omega)]; exact hk) (by rw [rm_g ex hv.1, ncl (by omega)]; exact h7), ex]
    · rw [wr_ne (by omega), x2, pk_us]
    · rw [spA_cg (M := Mx) (by rw [wr_ne (by omega)]) (wr_ne (by omega)), x3, spA_cg (M := M) (by rw [g1 57 (by omega)]) (g1 77 (by omega)), g1 64 (by omega)]
    · rw [wr_ne (by omega), x1 c (by omega) (by omega), g1 c (by omega)]
    · rw [wr_ne (by omega), x2, pk_un hj, g1 57 (by omega)]
theorem s_come (h : Inv M) (i c : Int32) : StepOK mX9_come mX10_come [.int i, .int c] M := by
  obtain ⟨V, R, L, t, n, kn, h⟩ := h
  have hv := h.1.2.2
  have h7 := hv.1.1.2.2
  refine (c_come h.1.1 hv h.2.2.1.1 h.2.2.1.2.1 i c).imp ?_
  rintro r M1 (⟨a, rfl, rfl⟩ | ⟨k, hk, rfl, hc, rfl, nt⟩)
  · refine (m_come h.1.2.1 hv h.2.2.1.2.2.1 h.2.2.1.2.1.2 i c).imp ?_
    rintro r2 M2 (⟨-, rfl, rfl⟩ | ⟨k, hk, rfl, hc, -⟩)
    · exact ⟨rfl, h.i⟩
    · exact absurd ⟨⟨k, hk, rfl⟩, hc⟩ a
  · obtain ⟨g1, g2, g3, g4⟩ := nt.m h (fun c hc => wr_ne (by omega))
    have e1 : vM (M1 57 1) M1 = V := by
      rw [vM_cg (M := M) (fun c _ _ => g1 c (by omega)) (fun j _ _ => by rw [g1 57 (by omega)])]
      exact h.1.2.1
    have n1 : M1 57 35 = nI (nlL L) := by rw [g1 57 (by omega)]; exact h.2.2.1.2.2.1
    refine (m_come e1 hv n1 h.2.2.1.2.1.2 (nI k) c).imp ?_
    rintro r2 M2 (⟨a, -⟩ | ⟨k2, hk2, ek, -, rfl, Mx, ⟨x1, x2, x3⟩, rfl⟩)
    · exact absurd ⟨⟨k, hk, rfl⟩, hc⟩ a
    have ek2 : k2 = k := ((neq (by omega) (by omega)).mp ek).symm
    subst ek2
    refine ⟨rfl, chg (V' := wr V 1 k2 c) (w := 2) (o := V 1 k2) h (vb_come hv hc) (fun c c1 c4 c5 => wr_ne c1) hk (fun z => absurd z (by decide)) (by unfold tbV; rw [if_neg (by decide), if_neg (by decide), wr_wr, wr_self]) ?_ ?_ ?_ ?_ ?_ ?_ (fun c hc => ?_) (fun j hj => ?_)⟩
    · have e0 : vC (wr M 39 k2 c) = wr V 1 k2 c := by
        rw [vC_come (by rw [rc_g h.1.1 hv.1, ncl (by omega)]; exact hk), h.1.1]
      rw [vC_cg (M := wr M 39 k2 c) (fun c c1 c2 => by rw [wr_ne (by omega), x1 c (by omega) (by omega), g2 c (by omega)])]
      exact e0
    · rw [lgC_cg (M := M1) (fun c c1 c2 => by rw [wr_ne (by omega), x1 c (by omega) (by omega)])]
      exact g3
    · rw [wr_ne (by omega), x1 29 (by omega) (by omega)]; exact g4
    · have eo : (wr Mx 64 (14 + k2) c) 57 1 = M1 57 1 := by rw [wr_ne (by omega), x2]; rfl
      have ex : vM (M1 57 1) Mx = V := by
        rw [← e1]
        have : Mx 57 1 = M1 57 1 := by rw [x2]; rfl
        rw [← this]
        rw [vM_cg (M := M1) (M' := Mx) (fun c _ _ => x1 c (by omega) (by omega)) (fun j j1 j2 => by rw [x2, pk_un (by omega)])]
        rw [this]
      rw [eo, vM_come (by rw [rm_g ex hv.1, ncl (by omega)]; exact hk) (by rw [rm_g ex hv.1, ncl (by omega)]; exact h7), ex]
    · rw [wr_ne (by omega), x2, pk_us]
    · rw [spA_cg (M := Mx) (by rw [wr_ne (by omega)]) (wr_ne (by omega)), x3, spA_cg (M := M) (by rw [g1 57 (by omega)]) (g1 77 (by omega)), g1 64 (by omega)]
    · rw [wr_ne (by omega), x1 c (by omega) (by omega), g1 c (by omega)]
    · rw [wr_ne (by omega), x2, pk_un hj, g1 57 (by omega)]
theorem s_move (h : Inv M) (i c : Int32) : StepOK mX9_move mX10_move [.int i, .int c] M := by
  obtain ⟨V, R, L, t, n, kn, h⟩ := h
  have hv := h.1.2.2
  have h7 := hv.1.1.2.2
  refine (c_move h.1.1 hv h.2.2.1.1 h.2.2.1.2.1 i c).imp ?_
  rintro r M1 (⟨a, rfl, rfl⟩ | ⟨k, q, hk, rfl, hq, rfl, rfl, nt⟩)
  · refine (m_move h.1.2.1 hv h.2.2.1.2.2.1 h.2.2.1.2.1.2 i c).imp ?_
    rintro r2 M2 (⟨-, rfl, rfl⟩ | ⟨k, q, hk, rfl, hq, rfl, -⟩)
    · exact ⟨rfl, h.i⟩
    · exact absurd ⟨⟨k, hk, rfl⟩, ⟨q, hq, rfl⟩⟩ a
  · obtain ⟨g1, g2, g3, g4⟩ := nt.m h (fun c hc => wrA_ne (by omega))
    have e1 : vM (M1 57 1) M1 = V := by
      rw [vM_cg (M := M) (fun c _ _ => g1 c (by omega)) (fun j _ _ => by rw [g1 57 (by omega)])]
      exact h.1.2.1
    have n1 : M1 57 35 = nI (nlL L) := by rw [g1 57 (by omega)]; exact h.2.2.1.2.2.1
    refine (m_move e1 hv n1 h.2.2.1.2.1.2 (nI k) (nI q)).imp ?_
    rintro r2 M2 (⟨a, -⟩ | ⟨k2, q2, hk2, ek, hq2, eq, rfl, Mx, ⟨x1, x2, x3⟩, rfl⟩)
    · exact absurd ⟨⟨k, hk, rfl⟩, ⟨q, hq, rfl⟩⟩ a
    have ek2 : k2 = k := ((neq (by omega) (by omega)).mp ek).symm
    have eq2 : q2 = q := ((neq (by omega) (by omega)).mp eq).symm
    subst ek2
    subst eq2
    have hp : plS V k2 < ngV V := (plS_spec hv.1 hk).1
    refine ⟨rfl, chg (V' := mvV V (plS V k2) q2) (w := 0) (o := nI (plS V k2)) h (vb_mv hv hp hq) (fun c c1 c4 c5 => wrA_ne c5) hk (fun _ => ⟨plS V k2, hp, rfl⟩) ?_ ?_ ?_ ?_ ?_ ?_ ?_ (fun c hc => ?_) (fun j hj => ?_)⟩
    · unfold tbV
      rw [if_pos rfl, ncl (by omega)]
      exact mv_back hv.1 hk hq
    · rw [vC_cg (M := wrA M 43 (shf (M 43) (plS V k2) q2)) (fun c c1 c2 => by rw [wrA_ne (by omega), x1 c (by omega) (by omega), g2 c (by omega)])]
      exact vC_mv h.1.1 hv.1 hp hq
    · rw [lgC_cg (M := M1) (fun c c1 c2 => by rw [wrA_ne (by omega), x1 c (by omega) (by omega)])]
      exact g3
    · rw [wrA_ne (by omega), x1 29 (by omega) (by omega)]; exact g4
    · have eo : (wrA Mx 64 (shf (Mx 64) (plS V k2) q2)) 57 1 = M1 57 1 := by rw [wrA_ne (by omega), x2]; rfl
      have ex : vM (M1 57 1) Mx = V := by
        rw [← e1]
        have : Mx 57 1 = M1 57 1 := by rw [x2]; rfl
        rw [← this]
        rw [vM_cg (M := M1) (M' := Mx) (fun c _ _ => x1 c (by omega) (by omega)) (fun j j1 j2 => by rw [x2, pk_un (by omega)])]
        rw [this]
      rw [eo]
      exact vM_mv ex hv.1 hp hq
    · rw [wrA_ne (by omega), x2, pk_us]
    · rw [spA_cg (M := Mx) (by rw [wrA_ne (by omega)]) (wrA_ne (by omega)), x3, spA_cg (M := M) (by rw [g1 57 (by omega)]) (g1 77 (by omega)), g1 64 (by omega)]
    · rw [wrA_ne (by omega), x1 c (by omega) (by omega), g1 c (by omega)]
    · rw [wrA_ne (by omega), x2, pk_un hj, g1 57 (by omega)]
end S92
