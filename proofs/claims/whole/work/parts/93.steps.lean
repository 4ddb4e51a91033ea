/-! undo, keep, back, left, sweep, write, wipe, count, order, fault -/
section S93
variable {M V V' R L M1 M2 : Mem} {t : Nat → Int32} {n kn : Nat}
theorem s_undo (h : Inv M) : StepOK mX9_undo mX10_undo [] M := by
  obtain ⟨V, R, L, t, n, kn, h⟩ := h
  have hv := h.1.2.2
  have h7 := hv.1.1.2.2
  refine (c_undo h.1.1 hv h.2.2.1.1 h.2.2.1.2.1 h.2.2.1.2.2.2).imp ?_
  rintro r M1 (⟨a, rfl, rfl⟩ | ⟨k, hk, rfl, a1, a2, a3, a4⟩)
  · refine (m_undo h.1.2.1 hv h.2.2.1.2.2.1 h.2.2.1.2.1.2).imp ?_
    rintro r2 M2 (⟨-, rfl, rfl⟩ | ⟨k, hk, -⟩)
    · exact ⟨rfl, h.i⟩
    · omega
  · have e57 : M1 57 = M 57 := a3 57 (by omega) (by omega) (by omega) (by omega) (by omega)
    have e1 : vM (M1 57 1) M1 = V := by
      rw [vM_cg (M := M) (fun c _ _ => a3 c (by omega) (by omega) (by omega) (by omega) (by omega)) (fun j _ _ => by rw [e57])]
      exact h.1.2.1
    have n1 : M1 57 35 = nI (nlL L) := by rw [e57]; exact h.2.2.1.2.2.1
    refine (m_undo e1 hv n1 h.2.2.1.2.1.2).imp ?_
    rintro r2 M2 (⟨z, -⟩ | ⟨k2, hk2, rfl, b1, b2, b3⟩)
    · omega
    have ek : k2 = k := by omega
    subst ek
    have esp : spA M1 = spA M := spA_cg (by rw [e57]) (a3 77 (by omega) (by omega) (by omega) (by omega) (by omega))
    rw [esp] at b1
    have h8 := h.2.2.1.2.1.2
    have hc : ∀ c, c ≠ 1 → c ≠ 4 → c ≠ 5 → vS V (spA M k2) c = V c := fun c c1 c4 c5 => vS_c c1 c4 c5
    have ch := h.2.2.1.2.2.2
    rw [hk] at ch
    have hvb : VB (vS V (spA M k2)) := by
      have := (ch k2 (by omega)).1
      unfold SN at this
      rw [if_pos (by omega)] at this
      exact this
    have nl : nlL (popL L) = k2 := by
      show (nI (nlL L - 1)).toNatClampNeg = _
      rw [hk]
      exact ncl (by omega)
    have f : ∀ c, c ≠ 10 → c ≠ 29 → c ≠ 39 → c ≠ 42 → c ≠ 43 → c ≠ 57 → c ≠ 64 → M2 c = M c := fun c c1 c2 c3 c4 c5 c6 c7 => (b2 c c6 c7).trans (a3 c c1 c2 c3 c4 c5)
    have f57 : ∀ j, j ≠ 35 → M2 57 j = M 57 j := fun j hj => by rw [b3, pk_un hj, e57]
    refine ⟨rfl, vS V (spA M k2), R, popL L, t, n, kn, ⟨?_, b1, hvb⟩, ?_, ⟨?_, ⟨?_, ?_⟩, ?_, ?_⟩, ?_, ?_, ?_, Or.inl ?_⟩
    · rw [vC_cg (M := M1) (fun c _ _ => b2 c (by omega) (by omega))]
      exact a1
    · have := h.2.1.c (M' := M2) (fun c _ _ => f c (by omega) (by omega) (by omega) (by omega) (by omega) (by omega) (by omega)) (f57 39 (by omega)) (f 80 (by omega) (by omega) (by omega) (by omega) (by omega) (by omega) (by omega))
      exact ⟨this.1, this.2.1, rok_c this.2.2 hc⟩
    · rw [lgC_cg (M := M1) (fun c _ _ => b2 c (by omega) (by omega))]
      exact a2
    · rw [nl]
      show nI (nlL L - 1) = nI k2
      rw [hk]
      rfl
    · rw [nl]; omega
    · rw [b3, pk_us, nl]
    · rw [nl]
      refine CH.pop h7 ch hk (fun a j ha hj => ?_)
      unfold spA
      rw [b3, pk_us, ncl (by omega), if_pos ⟨ha, hj⟩, if_pos ⟨by rw [h.2.2.1.2.2.1, ncl (by omega)]; omega, hj⟩, f 77 (by omega) (by omega) (by omega) (by omega) (by omega) (by omega) (by omega)]
    · exact (h.2.2.2.1.c (by rw [f 14 (by omega) (by omega) (by omega) (by omega) (by omega) (by omega) (by omega)]) (f57 43 (by omega)) (fun c _ _ => f c (by omega) (by omega) (by omega) (by omega) (by omega) (by omega) (by omega)) (f 83 (by omega) (by omega) (by omega) (by omega) (by omega) (by omega) (by omega))).v h7 hc
    · exact h.2.2.2.2.1.c (by rw [f 1 (by omega) (by omega) (by omega) (by omega) (by omega) (by omega) (by omega)]) (f 2 (by omega) (by omega) (by omega) (by omega) (by omega) (by omega) (by omega)) (f57 13 (by omega)) (f 65 (by omega) (by omega) (by omega) (by omega) (by omega) (by omega) (by omega))
    · exact h.2.2.2.2.2.1.c (by rw [f 34 (by omega) (by omega) (by omega) (by omega) (by omega) (by omega) (by omega)]) (f57 3 (by omega)) (by rw [f 46 (by omega) (by omega) (by omega) (by omega) (by omega) (by omega) (by omega)]) (by rw [f 46 (by omega) (by omega) (by omega) (by omega) (by omega) (by omega) (by omega)])
    · rw [b2 29 (by omega) (by omega), a4, pk_us]
theorem s_keep (h : Inv M) : StepOK mX9_keep mX10_keep [] M := by
  obtain ⟨V, R, L, t, n, kn, h⟩ := h
  have hv := h.1.2.2
  have h7 := hv.1.1.2.2
  obtain ⟨k1, k2, k3, k4⟩ := h.2.2.2.1
  refine (c_keep h.1.1 hv k1 k3).imp ?_
  rintro r M1 (⟨a, rfl, rfl⟩ | ⟨a, rfl, a1, a2, a3, a4⟩)
  · refine (m_keep k2 k3).imp ?_
    rintro r2 M2 (⟨-, rfl, rfl⟩ | ⟨z, -⟩)
    · exact ⟨rfl, h.i⟩
    · omega
  · refine (m_keep (M := M1) (n := kn) (by rw [a4 57 (by omega)]; exact k2) k3).imp ?_
    rintro r2 M2 (⟨z, -⟩ | ⟨-, rfl, b1, b2, b3, b4⟩)
    · omega
    have f : ∀ c, (c < 14 ∨ 23 < c) → c ≠ 57 → c ≠ 83 → M2 c = M c := fun c c1 c2 c3 => (b4 c c2 c3).trans (a4 c c1)
    have f57 : ∀ j, j ≠ 43 → M2 57 j = M 57 j := fun j hj => by rw [b1, pk_un hj, a4 57 (by omega)]
    refine ⟨rfl, V, R, L, t, n, kn + 1, h.1.c (fun c _ _ => f c (by omega) (by omega) (by omega)) (fun c _ _ => f c (by omega) (by omega) (by omega)) (fun j _ _ => f57 j (by omega)), h.2.1.c (fun c _ _ => f c (by omega) (by omega) (by omega)) (f57 39 (by omega)) (f 80 (by omega) (by omega) (by omega)), h.2.2.1.c (fun c _ _ => f c (by omega) (by omega) (by omega)) (f57 35 (by omega)) (f 77 (by omega) (by omega) (by omega)), ⟨?_, ?_, by omega, fun k hk => ?_⟩, h.2.2.2.2.1.c (by rw [f 1 (by omega) (by omega) (by omega)]) (f 2 (by omega) (by omega) (by omega)) (f57 13 (by omega)) (f 65 (by omega) (by omega) (by omega)), h.2.2.2.2.2.1.c (by rw [f 34 (by omega) (by omega) (by omega)]) (f57 3 (by omega)) (by rw [f 46 (by omega) (by omega) (by omega)]) (by rw [f 46 (by omega) (by omega) (by omega)]), h.2.2.2.2.2.2.c (f 29 (by omega) (by omega) (by omega)) (f 30 (by omega) (by omega) (by omega))⟩
    · rw [b4 14 (by omega) (by omega)]; exact a1
    · rw [b1, pk_us]
    · have e1 : kC M2 k = kC M1 k := kC_cg (fun c _ _ => b4 c (by omega) (by omega)) (by omega)
      by_cases ek : k = kn
      · subst ek
        have e2 : vS V (kM M2 k) = V := by
          rw [vS_cong (V := V) (V' := V) (f := M 64) h7 (fun _ _ _ _ => rfl) (fun j hj => by rw [b3 j hj, a4 64 (by omega)])]
          exact vS_vM h.1.2.1
        rw [e1, a3, e2]
        exact ⟨rfl, hv⟩
      · have e3 : vS V (kM M2 k) = vS V (kM M k) := vS_cong h7 (fun _ _ _ _ => rfl) (fun j hj => by
          rw [b2 k j (by omega) hj]
          unfold kM
          rw [a4 83 (by omega)])
        rw [e1, a2 k (by omega), e3]
        exact k4 k (by omega)
theorem s_back (h : Inv M) : StepOK mX9_back mX10_back [] M := by
  obtain ⟨V, R, L, t, n, kn, h⟩ := h
  have hv := h.1.2.2
  have h7 := hv.1.1.2.2
  obtain ⟨k1, k2, k3, k4⟩ := h.2.2.2.1
  refine (c_back h.1.1 hv k1 k3).imp ?_
  rintro r M1 (⟨a, rfl, rfl⟩ | ⟨k, rfl, rfl, a1, a2, a3, a4, a5⟩)
  · refine (m_back h.1.2.1 hv k2 k3).imp ?_
    rintro r2 M2 (⟨-, rfl, rfl⟩ | ⟨k, z, -⟩)
    · exact ⟨rfl, h.i⟩
    · omega
  · have e57 : M1 57 = M 57 := a5 57 (by omega) (by omega) (by omega) (by omega) (by omega) (by omega)
    have e1 : vM (M1 57 1) M1 = V := by
      rw [vM_cg (M := M) (fun c _ _ => a5 c (by omega) (by omega) (by omega) (by omega) (by omega) (by omega)) (fun j _ _ => by rw [e57])]
      exact h.1.2.1
    refine (m_back e1 hv (by rw [e57]; exact k2) k3).imp ?_
    rintro r2 M2 (⟨z, -⟩ | ⟨k2', z, rfl, b1, b2, b3⟩)
    · omega
    have ek : k2' = k := by omega
    subst ek
    have f : ∀ c, c ≠ 10 → c ≠ 14 → c ≠ 29 → c ≠ 39 → c ≠ 42 → c ≠ 43 → c ≠ 57 → c ≠ 64 → M2 c = M c := fun c c1 c2 c3 c4 c5 c6 c7 c8 => (b3 c c7 c8).trans (a5 c c1 c2 c3 c4 c5 c6)
    have f57 : ∀ j, j ≠ 35 → j ≠ 43 → M2 57 j = M 57 j := fun j hj hj2 => by rw [b2, pk_un hj, pk_un hj2, e57]
    have hc : ∀ c, c ≠ 1 → c ≠ 4 → c ≠ 5 → vS V (kC M k2') c = V c := fun c c1 c4 c5 => vS_c c1 c4 c5
    obtain ⟨q1, q2⟩ := k4 k2' (by omega)
    have m10 : M2 10 3 = 0 := by rw [b3 10 (by omega) (by omega), a3, pk_us]
    have nl : nlL (lgC M2) = 0 := by
      show (M2 10 3).toNatClampNeg = 0
      rw [m10]; rfl
    refine ⟨rfl, vS V (kC M k2'), R, lgC M2, t, n, k2', ⟨?_, ?_, q2⟩, ?_, ⟨rfl, ⟨?_, by omega⟩, ?_, ?_⟩, ?_, ?_, ?_, Or.inl ?_⟩
    · rw [vC_cg (M := M1) (fun c _ _ => b3 c (by omega) (by omega))]
      exact a1
    · rw [b1, q1, kM_cg (M := M) (a5 83 (by omega) (by omega) (by omega) (by omega) (by omega) (by omega))]
    · have := h.2.1.c (M' := M2) (fun c _ _ => f c (by omega) (by omega) (by omega) (by omega) (by omega) (by omega) (by omega) (by omega)) (f57 39 (by omega) (by omega)) (f 80 (by omega) (by omega) (by omega) (by omega) (by omega) (by omega) (by omega) (by omega))
      exact ⟨this.1, this.2.1, rok_c this.2.2 hc⟩
    · rw [nl]; exact m10
    · rw [b2, pk_us, nl]; rfl
    · rw [nl]; exact fun k hk => absurd hk (Nat.not_lt_zero k)
    · have i4 : I4 V k2' M2 := ⟨by rw [b3 14 (by omega) (by omega), a2, pk_us], by rw [b2, pk_un (by omega), pk_us], by omega, fun k hk => by
        rw [kC_cg (M := M) (fun c _ _ => f c (by omega) (by omega) (by omega) (by omega) (by omega) (by omega) (by omega) (by omega)) (by omega), kM_cg (M := M) (f 83 (by omega) (by omega) (by omega) (by omega) (by omega) (by omega) (by omega) (by omega))]
        exact k4 k (by omega)⟩
      exact i4.v h7 hc
    · exact h.2.2.2.2.1.c (by rw [f 1 (by omega) (by omega) (by omega) (by omega) (by omega) (by omega) (by omega) (by omega)]) (f 2 (by omega) (by omega) (by omega) (by omega) (by omega) (by omega) (by omega) (by omega)) (f57 13 (by omega) (by omega)) (f 65 (by omega) (by omega) (by omega) (by omega) (by omega) (by omega) (by omega) (by omega))
    · exact h.2.2.2.2.2.1.c (by rw [f 34 (by omega) (by omega) (by omega) (by omega) (by omega) (by omega) (by omega) (by omega)]) (f57 3 (by omega) (by omega)) (by rw [f 46 (by omega) (by omega) (by omega) (by omega) (by omega) (by omega) (by omega) (by omega)]) (by rw [f 46 (by omega) (by omega) (by omega) (by omega) (by omega) (by omega) (by omega) (by omega)])
    · rw [b3 29 (by omega) (by omega), a4, pk_us]
theorem s_left (h : Inv M) (b x y : Int32) : StepOK mX9_left mX10_left [.int b, .int x, .int y] M := by
  obtain ⟨V, R, L, t, n, kn, h⟩ := h
  have hv := h.1.2.2
  refine (c_left h.1.1 hv h.2.1.1 h.2.1.2.2 b x y).imp ?_
  rintro r M1 (⟨a, rfl, rfl⟩ | ⟨a, a1, rfl, rfl⟩ | ⟨a, a1, rfl, a2, a3⟩)
  · refine (m_left h.1.2.1 hv h.2.1.2.1 h.2.1.2.2 b x y).imp ?_
    rintro r2 M2 (⟨-, rfl, rfl⟩ | ⟨z, -⟩ | ⟨z, -⟩)
    · exact ⟨rfl, h.i⟩
    · exact absurd z a
    · exact absurd z a
  · refine (m_left h.1.2.1 hv h.2.1.2.1 h.2.1.2.2 b x y).imp ?_
    rintro r2 M2 (⟨z, -⟩ | ⟨-, -, rfl, rfl⟩ | ⟨-, z, -⟩)
    · exact absurd a z
    · exact ⟨rfl, h.i⟩
    · omega
  · have e57 : M1 57 = M 57 := a3 57 (by omega)
    have e1 : vM (M1 57 1) M1 = V := by
      rw [vM_cg (M := M) (fun c _ _ => a3 c (by omega)) (fun j _ _ => by rw [e57])]
      exact h.1.2.1
    have e2 : rM M1 = R := by rw [rM_cg (M := M) (by rw [e57]) (a3 80 (by omega))]; exact h.2.1.2.1
    refine (m_left e1 hv e2 h.2.1.2.2 b x y).imp ?_
    rintro r2 M2 (⟨z, -⟩ | ⟨-, z, -⟩ | ⟨-, -, rfl, b1, b2, b3⟩)
    · exact absurd a z
    · omega
    have f : ∀ c, (c < 24 ∨ 27 < c) → c ≠ 57 → c ≠ 80 → M2 c = M c := fun c c1 c2 c3 => (b3 c c2 c3).trans (a3 c c1)
    have f57 : ∀ j, j ≠ 39 → M2 57 j = M 57 j := fun j hj => by rw [b2, pk_un hj, e57]
    obtain ⟨⟨b', hb, rfl⟩, ⟨x', hx, rfl⟩, ⟨y', hy, rfl⟩⟩ := a
    refine ⟨rfl, V, addR R (nI b') (nI x') (nI y'), L, t, n, kn, h.1.c (fun c _ _ => f c (by omega) (by omega) (by omega)) (fun c _ _ => f c (by omega) (by omega) (by omega)) (fun j _ _ => f57 j (by omega)), ⟨?_, b1, ROK.add h.2.1.2.2 a1 hb hx ?_⟩, h.2.2.1.c (fun c _ _ => f c (by omega) (by omega) (by omega)) (f57 35 (by omega)) (f 77 (by omega) (by omega) (by omega)), h.2.2.2.1.c (by rw [f 14 (by omega) (by omega) (by omega)]) (f57 43 (by omega)) (fun c _ _ => f c (by omega) (by omega) (by omega)) (f 83 (by omega) (by omega) (by omega)), h.2.2.2.2.1.c (by rw [f 1 (by omega) (by omega) (by omega)]) (f 2 (by omega) (by omega) (by omega)) (f57 13 (by omega)) (f 65 (by omega) (by omega) (by omega)), h.2.2.2.2.2.1.c (by rw [f 34 (by omega) (by omega) (by omega)]) (f57 3 (by omega)) (by rw [f 46 (by omega) (by omega) (by omega)]) (by rw [f 46 (by omega) (by omega) (by omega)]), h.2.2.2.2.2.2.c (f 29 (by omega) (by omega) (by omega)) (f 30 (by omega) (by omega) (by omega))⟩
    · rw [rC_cg (M := M1) (fun c _ _ => b3 c (by omega) (by omega))]
      exact a2
    · unfold rgI
      rw [nti (by omega)]
      omega
theorem s_sweep (h : Inv M) : StepOK mX9_sweep mX10_sweep [] M := by
  obtain ⟨V, R, L, t, n, kn, h⟩ := h
  refine c_sweep.imp ?_
  rintro r M1 ⟨rfl, rfl⟩
  refine m_sweep.imp ?_
  rintro r2 M2 ⟨rfl, rfl⟩
  have e0 : M 24 4 = R 3 0 := by rw [← h.2.1.1]; rfl
  have e1 : M 57 39 = R 3 0 := by rw [← h.2.1.2.1]; rfl
  refine ⟨by rw [wr_ne (by omega), e0, e1], V, fun _ _ => 0, L, t, n, kn, h.1.c (fun c _ _ => by rw [wr_ne (by omega), wr_ne (by omega)]) (fun c _ _ => by rw [wr_ne (by omega), wr_ne (by omega)]) (fun j _ _ => by rw [wr_no (by omega), wr_ne (by omega)]), ⟨?_, ?_, ⟨rfl, by unfold nlR; decide⟩, fun k hk => absurd hk (Nat.not_lt_zero k)⟩, h.2.2.1.c (fun c _ _ => by rw [wr_ne (by omega), wr_ne (by omega)]) (by rw [wr_no (by omega), wr_ne (by omega)]) (by rw [wr_ne (by omega), wr_ne (by omega)]), h.2.2.2.1.c (by rw [wr_ne (by omega), wr_ne (by omega)]) (by rw [wr_no (by omega), wr_ne (by omega)]) (fun c _ _ => by rw [wr_ne (by omega), wr_ne (by omega)]) (by rw [wr_ne (by omega), wr_ne (by omega)]), h.2.2.2.2.1.c (by rw [wr_ne (by omega), wr_ne (by omega)]) (by rw [wr_ne (by omega), wr_ne (by omega)]) (by rw [wr_no (by omega), wr_ne (by omega)]) (by rw [wr_ne (by omega), wr_ne (by omega)]), h.2.2.2.2.2.1.c (by rw [wr_ne (by omega), wr_ne (by omega)]) (by rw [wr_no (by omega), wr_ne (by omega)]) (by rw [wr_ne (by omega), wr_ne (by omega)]) (by rw [wr_ne (by omega), wr_ne (by omega)]), h.2.2.2.2.2.2.c (by rw [wr_ne (by omega), wr_ne (by omega)]) (by rw [wr_ne (by omega), wr_ne (by omega)])⟩
  · have z : (wr (wr M 24 4 0) 57 39 0) 24 4 = 0 := by rw [wr_ne (by omega), wr_at]
    unfold rC
    rw [z]
    funext c
    rcases c with _ | _ | _ | c
    · exact funext fun i => nrm_out (Nat.not_lt_zero i)
    · exact funext fun i => nrm_out (Nat.not_lt_zero i)
    · exact funext fun i => nrm_out (Nat.not_lt_zero i)
    · rfl
  · have z : (wr (wr M 24 4 0) 57 39 0) 57 39 = 0 := wr_at
    unfold rM
    rw [z]
    funext c
    rcases c with _ | _ | _ | c
    · exact funext fun i => nrm_out (Nat.not_lt_zero i)
    · exact funext fun i => nrm_out (Nat.not_lt_zero i)
    · exact funext fun i => nrm_out (Nat.not_lt_zero i)
    · rfl
/-- another text, nothing else -/
theorem txt (h : InvP V R L t n kn M) {t' : Nat → Int32} {n' : Nat} (i5 : I5 t' n' M2) (f : ∀ c, c ≠ 1 → c ≠ 2 → c ≠ 57 → c ≠ 65 → M2 c = M c) (f57 : ∀ j, j ≠ 13 → M2 57 j = M 57 j) : Inv M2 :=
  ⟨V, R, L, t', n', kn, h.1.c (fun c _ _ => f c (by omega) (by omega) (by omega) (by omega)) (fun c _ _ => f c (by omega) (by omega) (by omega) (by omega)) (fun j _ _ => f57 j (by omega)), h.2.1.c (fun c _ _ => f c (by omega) (by omega) (by omega) (by omega)) (f57 39 (by omega)) (f 80 (by omega) (by omega) (by omega) (by omega)), h.2.2.1.c (fun c _ _ => f c (by omega) (by omega) (by omega) (by omega)) (f57 35 (by omega)) (f 77 (by omega) (by omega) (by omega) (by omega)), h.2.2.2.1.c (by rw [f 14 (by omega) (by omega) (by omega) (by omega)]) (f57 43 (by omega)) (fun c _ _ => f c (by omega) (by omega) (by omega) (by omega)) (f 83 (by omega) (by omega) (by omega) (by omega)), i5, h.2.2.2.2.2.1.c (by rw [f 34 (by omega) (by omega) (by omega) (by omega)]) (f57 3 (by omega)) (by rw [f 46 (by omega) (by omega) (by omega) (by omega)]) (by rw [f 46 (by omega) (by omega) (by omega) (by omega)]), h.2.2.2.2.2.2.c (f 29 (by omega) (by omega) (by omega) (by omega)) (f 30 (by omega) (by omega) (by omega) (by omega))⟩
theorem s_write (h : Inv M) (x : Int32) : StepOK mX9_write mX10_write [.int x] M := by
  obtain ⟨V, R, L, t, n, kn, h⟩ := h
  obtain ⟨tx, tc, tm⟩ := h.2.2.2.2.1
  refine (c_write tc.1 tx.1 x).imp ?_
  rintro r M1 (⟨a, rfl, rfl⟩ | ⟨a, a1, rfl, rfl⟩ | ⟨a, a1, rfl, rfl⟩)
  · refine (m_write tm.1 tx.1 x).imp ?_
    rintro r2 M2 (⟨-, rfl, rfl⟩ | ⟨z, -⟩ | ⟨z, -⟩)
    · exact ⟨rfl, h.i⟩
    · exact absurd z a
    · exact absurd z a
  · refine (m_write tm.1 tx.1 x).imp ?_
    rintro r2 M2 (⟨z, -⟩ | ⟨-, -, rfl, rfl⟩ | ⟨-, z, -⟩)
    · exact absurd a z
    · exact ⟨rfl, h.i⟩
    · omega
  · refine (m_write (M := wr (wr M 2 n x) 1 2 (nI (n + 1))) (n := n) (by rw [wr_ne (by omega), wr_ne (by omega)]; exact tm.1) tx.1 x).imp ?_
    rintro r2 M2 (⟨z, -⟩ | ⟨-, z, -⟩ | ⟨-, -, rfl, rfl⟩)
    · exact absurd a z
    · omega
    refine ⟨rfl, txt (t' := upd t n x) (n' := n + 1) h ⟨⟨by omega, fun p hp => by rw [pk_un (by omega)]; exact tx.2 p (by omega)⟩, ⟨?_, fun p hp => ?_⟩, ⟨wr_at, fun p hp => ?_⟩⟩ (fun c c1 c2 c3 c4 => by rw [wr_ne c3, wr_ne c4, wr_ne c1, wr_ne c2]) (fun j hj => by rw [wr_no hj, wr_ne (by omega), wr_ne (by omega), wr_ne (by omega)])⟩
    · rw [wr_ne (by omega), wr_ne (by omega), wr_at]
    · rw [wr_ne (by omega), wr_ne (by omega), wr_ne (by omega), wr_eq]
      exact upd_ap tc.2 p hp
    · rw [wr_ne (by omega), wr_eq, wr_ne (by omega), wr_ne (by omega)]
      exact upd_ap tm.2 p hp
theorem s_wipe (h : Inv M) : StepOK mX9_wipe mX10_wipe [] M := by
  obtain ⟨V, R, L, t, n, kn, h⟩ := h
  obtain ⟨tx, tc, tm⟩ := h.2.2.2.2.1
  refine c_wipe.imp ?_
  rintro r M1 ⟨rfl, rfl⟩
  refine m_wipe.imp ?_
  rintro r2 M2 ⟨rfl, rfl⟩
  refine ⟨by rw [wr_ne (by omega), tc.1, tm.1], txt (t' := fun _ => 0) (n' := 0) h ⟨⟨by omega, fun _ _ => rfl⟩, ⟨?_, fun p hp => absurd hp (Nat.not_lt_zero p)⟩, ⟨?_, fun p hp => absurd hp (Nat.not_lt_zero p)⟩⟩ (fun c c1 c2 c3 c4 => by rw [wr_ne c3, wr_ne c1]) (fun j hj => by rw [wr_no hj, wr_ne (by omega)])⟩
  · rw [wr_ne (by omega), wr_at]; rfl
  · rw [wr_at]; rfl
theorem cnt_cg {a b : Nat → Int32} (h : ∀ k, k < 9 → a k = b k) (x : Int32) : cntQ a x = cntQ b x := by
  unfold cntQ
  rw [h 0 (by omega), h 1 (by omega), h 2 (by omega), h 3 (by omega), h 4 (by omega), h 5 (by omega), h 6 (by omega), h 7 (by omega), h 8 (by omega)]
theorem s_count (h : Inv M) (x : Int32) : StepOK mX9_count mX10_count [.int x] M := by
  obtain ⟨V, R, L, t, n, kn, h⟩ := h
  have hv := h.1.2.2.1
  refine (c_count x).imp ?_
  rintro r M1 ⟨rfl, rfl⟩
  refine (m_count x).imp ?_
  rintro r2 M2 ⟨rfl, rfl⟩
  refine ⟨(cnt_cg (fun k hk => ?_) x).symm, h.i⟩
  rcases k with _ | _ | _ | _ | _ | _ | _ | _ | _ | k
  · exact (rc_b h.1.1 hv).trans (rm_b h.1.2.1 hv).symm
  · exact (rc_g h.1.1 hv).trans (rm_g h.1.2.1 hv).symm
  · exact h.2.2.2.2.2.1.1
  · exact (rc_r h.1.1 hv).trans (rm_r h.1.2.1 hv).symm
  · exact (congrFun (congrFun h.1.1 9) 3).trans (congrFun (congrFun h.1.2.1 9) 3).symm
  · exact (congrFun (congrFun h.2.1.1 3) 0).trans (congrFun (congrFun h.2.1.2.1 3) 0).symm
  · exact ((congrFun (congrFun h.2.2.1.1 3) 0).trans h.2.2.1.2.1.1).trans h.2.2.1.2.2.1.symm
  · exact h.2.2.2.1.1.trans h.2.2.2.1.2.1.symm
  · exact h.2.2.2.2.1.2.1.1.trans h.2.2.2.2.1.2.2.1.symm
  · omega
theorem s_order (h : Inv M) (x : Int32) : StepOK mX9_order mX10_order [.int x] M := by
  obtain ⟨V, R, L, t, n, kn, h⟩ := h
  have hv := h.1.2.2
  have h7 := hv.1.1.2.2
  refine (c_order h.1.1 hv h.2.2.2.2.2.2 x).imp ?_
  rintro r M1 (⟨a, rfl, rfl⟩ | ⟨a, a1, ko, a2⟩)
  · refine (m_order h.1.2.1 hv x).imp ?_
    rintro r2 M2 ⟨⟨-, rfl⟩ | ⟨z, -⟩, f⟩
    · exact ⟨rfl, (h.fm f).i⟩
    · exact absurd z a
  · have h1 : InvP V R L t n kn M1 := by
      have cc : ∀ c, (10 ≤ c ∧ c ≤ 27) ∨ (33 ≤ c ∧ c ≤ 71) ∨ c = 1 ∨ c = 2 ∨ c = 77 ∨ c = 80 ∨ c = 83 → M1 c = M c := fun k hk => a2 k (by unfold sQ; omega)
      have e57 := cc 57 (by omega)
      exact ⟨h.1.c (fun c _ _ => cc c (by omega)) (fun c _ _ => cc c (by omega)) (fun j _ _ => by rw [e57]), h.2.1.c (fun c _ _ => cc c (by omega)) (by rw [e57]) (cc 80 (by omega)), h.2.2.1.c (fun c _ _ => cc c (by omega)) (by rw [e57]) (cc 77 (by omega)), h.2.2.2.1.c (by rw [cc 14 (by omega)]) (by rw [e57]) (fun c _ _ => cc c (by omega)) (cc 83 (by omega)), h.2.2.2.2.1.c (by rw [cc 1 (by omega)]) (cc 2 (by omega)) (by rw [e57]) (cc 65 (by omega)), h.2.2.2.2.2.1.c (by rw [cc 34 (by omega)]) (by rw [e57]) (by rw [cc 46 (by omega)]) (by rw [cc 46 (by omega)]), ko⟩
    refine (m_order h1.1.2.1 hv x).imp ?_
    rintro r2 M2 ⟨⟨z, -⟩ | ⟨-, b1⟩, f⟩
    · exact absurd a z
    refine ⟨?_, (h1.fm f).i⟩
    obtain ⟨b, hb, hr⟩ := a1
    obtain ⟨c, hc, hr2⟩ := b1
    obtain ⟨o1, o2⟩ := hb.one hc
    rcases hr with ⟨x1, rfl⟩ | ⟨k, hk, x1, rfl⟩
    · rcases hr2 with ⟨-, rfl⟩ | ⟨k, hk, x2, rfl⟩
      · exact o2.symm
      · rw [x2] at x1
        exact absurd x1 (nI_nm (by omega))
    · rcases hr2 with ⟨x2, -⟩ | ⟨k2, hk2, x2, rfl⟩
      · rw [x1] at x2
        exact absurd x2 (nI_nm (by omega))
      · rw [x1] at x2
        have : k = k2 := (neq (by omega) (by omega)).mp x2
        subst this
        rw [o1 k hk]
theorem s_fault (h : Inv M) : StepOK mX9_fault mX10_fault [] M := by
  obtain ⟨V, R, L, t, n, kn, h⟩ := h
  obtain ⟨tx, tc, tm⟩ := h.2.2.2.2.1
  refine (c_fault tx tc h.2.2.2.2.2.1.2.1 h.2.2.2.2.2.1.2.2).imp ?_
  rintro r M1 ⟨rfl, f1, g5, g6⟩
  have tm1 : TM t n M1 := ⟨by rw [f1.1 57 (by omega) (by omega) (by omega)]; exact tm.1, fun p hp => by rw [f1.1 65 (by omega) (by omega) (by omega)]; exact tm.2 p hp⟩
  refine (m_fault tx tm1).imp ?_
  rintro r2 M2 ⟨rfl, -, f2⟩
  have f : ∀ c, c ≠ 1 → c ≠ 3 → (c < 45 ∨ 56 < c) → c ≠ 57 → (c < 66 ∨ 71 < c) → M2 c = M c := fun c c1 c3 c4 c5 c6 => (f2.1 c c5 c6).trans (f1.1 c c1 c3 c4)
  have f57 : ∀ j, (j < 14 ∨ 26 < j) → M2 57 j = M 57 j := fun j hj => by rw [f2.2 j hj, f1.1 57 (by omega) (by omega) (by omega)]
  have f1' : M2 1 2 = M 1 2 := by rw [f2.1 1 (by omega) (by omega)]; exact f1.2
  exact ⟨rfl, V, R, L, t, n, kn, h.1.c (fun c _ _ => f c (by omega) (by omega) (by omega) (by omega) (by omega)) (fun c _ _ => f c (by omega) (by omega) (by omega) (by omega) (by omega)) (fun j _ _ => f57 j (by omega)), h.2.1.c (fun c _ _ => f c (by omega) (by omega) (by omega) (by omega) (by omega)) (f57 39 (by omega)) (f 80 (by omega) (by omega) (by omega) (by omega) (by omega)), h.2.2.1.c (fun c _ _ => f c (by omega) (by omega) (by omega) (by omega) (by omega)) (f57 35 (by omega)) (f 77 (by omega) (by omega) (by omega) (by omega) (by omega)), h.2.2.2.1.c (by rw [f 14 (by omega) (by omega) (by omega) (by omega) (by omega)]) (f57 43 (by omega)) (fun c _ _ => f c (by omega) (by omega) (by omega) (by omega) (by omega)) (f 83 (by omega) (by omega) (by omega) (by omega) (by omega)), h.2.2.2.2.1.c f1' (f 2 (by omega) (by omega) (by omega) (by omega) (by omega)) (f57 13 (by omega)) (f 65 (by omega) (by omega) (by omega) (by omega) (by omega)), ⟨by rw [f 34 (by omega) (by omega) (by omega) (by omega) (by omega), f57 3 (by omega)]; exact h.2.2.2.2.2.1.1, by rw [f2.1 46 (by omega) (by omega)]; exact g5, by rw [f2.1 46 (by omega) (by omega)]; exact g6⟩, h.2.2.2.2.2.2.c (f 29 (by omega) (by omega) (by omega) (by omega) (by omega)) (f 30 (by omega) (by omega) (by omega) (by omega) (by omega))⟩
end S93
