/-! a new inn: lay, and the two constructors -/
section S94
variable {M V R L M1 M2 : Mem} {t : Nat → Int32} {n kn : Nat} {d : Dt}
theorem inv_new (dk : DOK d) (hg : 0 < d.2.1) (hb : 0 < d.2.2.1) (i5 : I5 t n M2) (e1 : vC M2 = dV d) (e2 : vM (M2 57 1) M2 = dV d) (a1 : M2 10 3 = 0) (a2 : M2 57 35 = 0) (a3 : M2 14 3 = 0) (a4 : M2 57 43 = 0) (a5 : M2 24 4 = 0) (a6 : M2 57 39 = 0) (i6 : I6 M2) (a7 : M2 29 3 = 0) : Inv M2 := by
  have nl : nlL (lgC M2) = 0 := by
    show (M2 10 3).toNatClampNeg = 0
    rw [a1]; rfl
  refine ⟨dV d, fun _ _ => 0, lgC M2, t, n, 0, ⟨e1, e2, dV_ok dk hg hb⟩, ⟨?_, ?_, ⟨rfl, by unfold nlR; decide⟩, fun k hk => absurd hk (Nat.not_lt_zero k)⟩, ⟨rfl, ⟨?_, by omega⟩, ?_, ?_⟩, ⟨a3, a4, by omega, fun k hk => absurd hk (Nat.not_lt_zero k)⟩, i5, i6, Or.inl a7⟩
  · unfold rC
    rw [a5]
    funext c
    rcases c with _ | _ | _ | c
    · exact funext fun i => nrm_out (Nat.not_lt_zero i)
    · exact funext fun i => nrm_out (Nat.not_lt_zero i)
    · exact funext fun i => nrm_out (Nat.not_lt_zero i)
    · rfl
  · unfold rM
    rw [a6]
    funext c
    rcases c with _ | _ | _ | c
    · exact funext fun i => nrm_out (Nat.not_lt_zero i)
    · exact funext fun i => nrm_out (Nat.not_lt_zero i)
    · exact funext fun i => nrm_out (Nat.not_lt_zero i)
    · rfl
  · rw [nl]; exact a1
  · rw [nl]; exact a2
  · rw [nl]; exact fun k hk => absurd hk (Nat.not_lt_zero k)
theorem pi_up {c : Nat} (h1 : 33 ≤ c) (h2 : c ≤ 44) : pi2 c = c + 12 := by unfold pi2; rw [if_pos ⟨h1, h2⟩]
theorem pi_dn {c : Nat} (h1 : 45 ≤ c) (h2 : c ≤ 56) : pi2 c = c - 12 := by unfold pi2; rw [if_neg (by omega), if_pos ⟨h1, h2⟩]
theorem vC_new (h : CD M d) (dk : DOK d) (e : ∀ c, 33 ≤ c → c ≤ 44 → M2 c = M (c + 12)) : vC M2 = dV d := by
  obtain ⟨⟨e1, e2, e3, e4, e5, e6, e7, e8⟩, hg, hb, hf, hr⟩ := h
  obtain ⟨b1, b2, b3, b4⟩ := dk.1
  have q37 : M2 37 = M 49 := e 37 (by omega) (by omega)
  have q34 : M2 34 = M 46 := e 34 (by omega) (by omega)
  have q33 : M2 33 = M 45 := e 33 (by omega) (by omega)
  have q38 : M2 38 = M 50 := e 38 (by omega) (by omega)
  have q39 : M2 39 = M 51 := e 39 (by omega) (by omega)
  have q40 : M2 40 = M 52 := e 40 (by omega) (by omega)
  have q41 : M2 41 = M 53 := e 41 (by omega) (by omega)
  have q42 : M2 42 = M 54 := e 42 (by omega) (by omega)
  have q43 : M2 43 = M 55 := e 43 (by omega) (by omega)
  have q35 : M2 35 = M 47 := e 35 (by omega) (by omega)
  have q36 : M2 36 = M 48 := e 36 (by omega) (by omega)
  have q44 : M2 44 = M 56 := e 44 (by omega) (by omega)
  unfold vC dV
  rw [q37, q34, q33, q38, q39, q40, q41, q42, q43, q35, q36, q44, e1, e2, e3, e5, e6, e7, e8, ncl (by omega), ncl (by omega), ncl (by omega)]
  funext c
  rcases c with _ | _ | _ | _ | _ | _ | _ | _ | _ | _ | c
  · exact nrm_cong (fun i hi => (hg i hi).1)
  · exact nrm_cong (fun i hi => (hg i hi).2.1)
  · exact nrm_cong (fun i hi => (hg i hi).2.2.1)
  · exact nrm_cong (fun i hi => (hg i hi).2.2.2.1)
  · exact nrm_cong (fun i hi => (hg i hi).2.2.2.2.1)
  · exact nrm_cong (fun i hi => (hg i hi).2.2.2.2.2)
  · exact nrm_cong (fun i hi => hb i hi)
  · exact nrm_cong (fun i hi => hf i hi)
  · exact nrm_cong (fun i hi => hr i hi)
  · rfl
  · rfl
/-- behind both lays -/
theorem inv_lay (h : InvP V R L t n kn M) (ok : okL t n) (c : LyC M M1 (prs t n 200 0 d0).2) (m : LyM (fun k => M1 (pi2 k)) M2 (prs t n 200 0 d0).2) : Inv M2 := by
  have dk := prs_ok (t := t) (n := n) (f := 200) (p := 0) d0_ok
  obtain ⟨-, ok1, ok2⟩ := ok
  generalize prs t n 200 0 d0 = Z at *
  obtain ⟨cd, c10, c14, c24, c29, c1, cf⟩ := c
  obtain ⟨m1, m35, m39, m43, m3, m13, mf⟩ := m
  have lo : ∀ c, c < 33 → M2 c = M1 c := fun c hc => by
    rw [mf c (by omega)]
    show M1 (pi2 c) = M1 c
    rw [pi2_o (by omega)]
  have up : ∀ c, 33 ≤ c → c ≤ 44 → M2 c = M1 (c + 12) := fun c h1 h2 => by
    rw [mf c (by omega)]
    show M1 (pi2 c) = _
    rw [pi_up h1 h2]
  have dn : ∀ c, 45 ≤ c → c ≤ 56 → M2 c = M1 (c - 12) := fun c h1 h2 => by
    rw [mf c (by omega)]
    show M1 (pi2 c) = _
    rw [pi_dn h1 h2]
  have hi : ∀ c, 56 < c → (fun k => M1 (pi2 k)) c = M1 c := fun c hc => by
    show M1 (pi2 c) = M1 c
    rw [pi2_o (by omega)]
  obtain ⟨tx, tc, tm⟩ := h.2.2.2.2.1
  refine inv_new (t := t) (n := n) dk ok2 ok1 ⟨tx, ⟨?_, fun p hp => ?_⟩, ⟨?_, fun p hp => ?_⟩⟩ (vC_new cd dk up) m1 ?_ m35 ?_ m43 ?_ m39 ⟨?_, ?_, ?_⟩ ?_
  · rw [lo 1 (by omega), c1]; exact tc.1
  · rw [lo 2 (by omega), cf 2 (by omega) (by omega) (by omega) (by omega) (by omega) (by omega) (by omega)]; exact tc.2 p hp
  · rw [m13]
    show M1 (pi2 57) 13 = _
    rw [pi2_o (by omega), cf 57 (by omega) (by omega) (by omega) (by omega) (by omega) (by omega) (by omega)]
    exact tm.1
  · rw [mf 65 (by omega), hi 65 (by omega), cf 65 (by omega) (by omega) (by omega) (by omega) (by omega) (by omega) (by omega)]
    exact tm.2 p hp
  · rw [lo 10 (by omega)]; exact c10
  · rw [lo 14 (by omega)]; exact c14
  · rw [lo 24 (by omega)]; exact c24
  · rw [m3, up 34 (by omega) (by omega)]; exact cd.1.2.2.2.1
  · rw [dn 46 (by omega) (by omega), cf 34 (by omega) (by omega) (by omega) (by omega) (by omega) (by omega) (by omega)]
    exact (congrFun (congrFun h.1.1 9) 4).trans h.1.2.2.2.2.1
  · rw [dn 46 (by omega) (by omega), cf 34 (by omega) (by omega) (by omega) (by omega) (by omega) (by omega) (by omega)]
    exact (congrFun (congrFun h.1.1 9) 5).trans h.1.2.2.2.2.2.1
  · rw [lo 29 (by omega)]; exact c29
theorem inv_fail (h : InvP V R L t n kn M) (f1 : F7 M M1) (g5 : M1 46 5 = 0) (g6 : M1 46 6 = -1) (f2 : F8 M1 M2) : Inv M2 := by
  have f : ∀ c, c ≠ 1 → c ≠ 3 → (c < 45 ∨ 56 < c) → c ≠ 57 → (c < 66 ∨ 71 < c) → M2 c = M c := fun c c1 c3 c4 c5 c6 => (f2.1 c c5 c6).trans (f1.1 c c1 c3 c4)
  have f57 : ∀ j, (j < 14 ∨ 26 < j) → M2 57 j = M 57 j := fun j hj => by rw [f2.2 j hj, f1.1 57 (by omega) (by omega) (by omega)]
  have f1' : M2 1 2 = M 1 2 := by rw [f2.1 1 (by omega) (by omega)]; exact f1.2
  exact ⟨V, R, L, t, n, kn, h.1.c (fun c _ _ => f c (by omega) (by omega) (by omega) (by omega) (by omega)) (fun c _ _ => f c (by omega) (by omega) (by omega) (by omega) (by omega)) (fun j _ _ => f57 j (by omega)), h.2.1.c (fun c _ _ => f c (by omega) (by omega) (by omega) (by omega) (by omega)) (f57 39 (by omega)) (f 80 (by omega) (by omega) (by omega) (by omega) (by omega)), h.2.2.1.c (fun c _ _ => f c (by omega) (by omega) (by omega) (by omega) (by omega)) (f57 35 (by omega)) (f 77 (by omega) (by omega) (by omega) (by omega) (by omega)), h.2.2.2.1.c (by rw [f 14 (by omega) (by omega) (by omega) (by omega) (by omega)]) (f57 43 (by omega)) (fun c _ _ => f c (by omega) (by omega) (by omega) (by omega) (by omega)) (f 83 (by omega) (by omega) (by omega) (by omega) (by omega)), h.2.2.2.2.1.c f1' (f 2 (by omega) (by omega) (by omega) (by omega) (by omega)) (f57 13 (by omega)) (f 65 (by omega) (by omega) (by omega) (by omega) (by omega)), ⟨by rw [f 34 (by omega) (by omega) (by omega) (by omega) (by omega), f57 3 (by omega)]; exact h.2.2.2.2.2.1.1, by rw [f2.1 46 (by omega) (by omega)]; exact g5, by rw [f2.1 46 (by omega) (by omega)]; exact g6⟩, h.2.2.2.2.2.2.c (f 29 (by omega) (by omega) (by omega) (by omega) (by omega)) (f 30 (by omega) (by omega) (by omega) (by omega) (by omega))⟩
/-- behind the two constructors -/
theorem inv_start (c : AfC M1) (m : AfM M2) (f : ∀ c, c < 57 → M2 c = M1 (pi2 c)) : Inv M2 := by
  obtain ⟨cd, c1, c10, c14, c24, c29, c345, c346, -⟩ := c
  obtain ⟨m1, m35, m39, m43, m3, m13⟩ := m
  have lo : ∀ c, c < 33 → M2 c = M1 c := fun c hc => by rw [f c (by omega), pi2_o (by omega)]
  have up : ∀ c, 33 ≤ c → c ≤ 44 → M2 c = M1 (c + 12) := fun c h1 h2 => by rw [f c (by omega), pi_up h1 h2]
  have dn : ∀ c, 45 ≤ c → c ≤ 56 → M2 c = M1 (c - 12) := fun c h1 h2 => by rw [f c (by omega), pi_dn h1 h2]
  obtain ⟨-, n1, n2, n3, n4, n5⟩ := dI_n
  refine inv_new (d := dI) (t := fun _ => 0) (n := 0) dI_ok (by omega) (by omega) ⟨⟨by omega, fun _ _ => rfl⟩, ⟨?_, fun p hp => absurd hp (Nat.not_lt_zero p)⟩, ⟨m13, fun p hp => absurd hp (Nat.not_lt_zero p)⟩⟩ (vC_new cd dI_ok up) m1 ?_ m35 ?_ m43 ?_ m39 ⟨?_, ?_, ?_⟩ ?_
  · rw [lo 1 (by omega)]; exact c1
  · rw [lo 10 (by omega)]; exact c10
  · rw [lo 14 (by omega)]; exact c14
  · rw [lo 24 (by omega)]; exact c24
  · rw [m3, up 34 (by omega) (by omega), cd.1.2.2.2.1, n3]; rfl
  · rw [dn 46 (by omega) (by omega)]; exact c345
  · rw [dn 46 (by omega) (by omega)]; exact c346
  · rw [lo 29 (by omega)]; exact c29
end S94
