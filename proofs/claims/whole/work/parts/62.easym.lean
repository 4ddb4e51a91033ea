/-! the reference: count, wipe, write, sweep, left, keep, back -/
section M62
variable {M V R : Mem} {n : Nat}
theorem m_count (x : Int32) : WpI mX10_count [.ref 57, .int x] M (gj gm) (TTc ++ TTm) (fun r M' => r = cntQ (cnM M) x ∧ M' = M) := by
  refine WpI.of rfl rfl nL fun X Q C hk => bX10_count_0 C ?_
  unfold cntQ at hk
  refine ⟨fun q => hk _ _ ⟨by rw [if_pos q]; rfl, rfl⟩, fun q => ?_⟩
  rw [if_neg q] at hk
  refine ⟨fun q => hk _ _ ⟨by rw [if_pos q]; rfl, rfl⟩, fun q => ?_⟩
  rw [if_neg q] at hk
  refine ⟨fun q => hk _ _ ⟨by rw [if_pos q]; rfl, rfl⟩, fun q => ?_⟩
  rw [if_neg q] at hk
  refine ⟨fun q => hk _ _ ⟨by rw [if_pos q]; rfl, rfl⟩, fun q => ?_⟩
  rw [if_neg q] at hk
  refine ⟨fun q => hk _ _ ⟨by rw [if_pos q]; rfl, rfl⟩, fun q => ?_⟩
  rw [if_neg q] at hk
  refine ⟨fun q => hk _ _ ⟨by rw [if_pos q]; rfl, rfl⟩, fun q => ?_⟩
  rw [if_neg q] at hk
  refine ⟨fun q => hk _ _ ⟨by rw [if_pos q]; rfl, rfl⟩, fun q => ?_⟩
  rw [if_neg q] at hk
  refine ⟨fun q => hk _ _ ⟨by rw [if_pos q]; rfl, rfl⟩, fun q => ?_⟩
  rw [if_neg q] at hk
  exact ⟨fun q => hk _ _ ⟨by rw [if_pos q]; rfl, rfl⟩, fun q => hk _ _ ⟨by rw [if_neg q], rfl⟩⟩
theorem m_wipe : WpI mX10_wipe [.ref 57] M (gj gm) (TTc ++ TTm) (fun r M' => r = M 57 13 ∧ M' = wr M 57 13 0) := by
  refine WpI.of rfl rfl nL fun X Q C hk => bX10_wipe_0 C (hk _ _ ⟨rfl, rfl⟩)
theorem m_sweep : WpI mX10_sweep [.ref 57] M (gj gm) (TTc ++ TTm) (fun r M' => r = M 57 39 ∧ M' = wr M 57 39 0) := by
  refine WpI.of rfl rfl nL fun X Q C hk => bX10_sweep_0 C (hk _ _ ⟨rfl, rfl⟩)
theorem m_write (hn : M 57 13 = nI n) (h2 : n ≤ 200) (x : Int32) : WpI mX10_write [.ref 57, .int x] M (gj gm) (TTc ++ TTm) (fun r M' => (¬ rgI x 32 126 ∧ r = -1 ∧ M' = M) ∨ (rgI x 32 126 ∧ n = 200 ∧ r = -3 ∧ M' = M) ∨ (rgI x 32 126 ∧ n < 200 ∧ r = nI (n + 1) ∧ M' = wr (wr M 65 n x) 57 13 (nI (n + 1)))) := by
  refine WpI.of rfl rfl nL fun X Q C hk => bX10_write_0 C ⟨fun q => hk _ _ (Or.inl ⟨fun z => ?_, rfl, rfl⟩), fun q => ⟨fun q2 => hk _ _ (Or.inl ⟨fun z => ?_, rfl, rfl⟩), fun q2 => ?_⟩⟩
  · have := z.1
    rw [fa_lt, show (32 : Int32).toInt = 32 by decide] at q
    omega
  · have := z.2
    rw [fa_lt, show (126 : Int32).toInt = 126 by decide] at q2
    omega
  have hx := rg_c (x := x) (p := 32) (q := 126) (by decide) (by decide) q q2
  rw [hn, ncl (by omega), nI_1]
  refine ⟨fun q => ?_, fun q => hk _ _ (Or.inr (Or.inl ⟨hx, (neq (b := 200) (by omega) (by omega)).mp q, rfl, rfl⟩))⟩
  have q' : n < 200 := by
    have : n ≠ 200 := fun z => q (by rw [z]; rfl)
    omega
  exact ⟨nin q' (by omega), hk _ _ (Or.inr (Or.inr ⟨hx, q', rfl, rfl⟩))⟩
theorem m_left (e : vM (M 57 1) M = V) (h : VB V) (er : rM M = R) (hr : ROK V R) (b n x : Int32) : WpI mX10_left [.ref 57, .int b, .int n, .int x] M (gj gm) (TTc ++ TTm) (fun r M' => (¬ okLf V b n x ∧ r = -1 ∧ M' = M) ∨ (okLf V b n x ∧ nlR R = 6 ∧ r = -3 ∧ M' = M) ∨ (okLf V b n x ∧ nlR R < 6 ∧ r = nI (nlR R + 1) ∧ rM M' = addR R b n x ∧ M' 57 = upd (M 57) 39 (nI (nlR R + 1)) ∧ ∀ c, c ≠ 57 → c ≠ 80 → M' c = M c)) := by
  have h4 := h.1.2.1.2
  have h6 := hr.1.2
  have em : M 57 39 = nI (nlR R) := rk_0 er hr
  have hn2 : (M 57 39).toNatClampNeg = nlR R := by rw [← er]; rfl
  have e0 : R 0 = nrm (nlR R) (fun k => M 80 (3 * k)) := by rw [← hn2, ← er]; rfl
  have e1 : R 1 = nrm (nlR R) (fun k => M 80 (3 * k + 1)) := by rw [← hn2, ← er]; rfl
  have e2 : R 2 = nrm (nlR R) (fun k => M 80 (3 * k + 2)) := by rw [← hn2, ← er]; rfl
  refine WpI.of rfl rfl nL fun X Q C hk => bX10_left_0 C (g_m h4.1 (by omega) (by rw [rm_b e h.1]) (fun q => hk _ _ (Or.inl ⟨fun z => no_lo (by omega) q z.1, rfl, rfl⟩)) (fun q => hk _ _ (Or.inl ⟨fun z => no_hi (by omega) q z.1, rfl, rfl⟩)) fun b' hb eb => g_m (n := 30) (by omega) (by omega) rfl (fun q => hk _ _ (Or.inl ⟨fun z => no_lo (by omega) q z.2.1, rfl, rfl⟩)) (fun q => hk _ _ (Or.inl ⟨fun z => no_hi (by omega) q z.2.1, rfl, rfl⟩)) fun n' hn en => g_m (n := 100) (by omega) (by omega) rfl (fun q => hk _ _ (Or.inl ⟨fun z => no_lo (by omega) q z.2.2, rfl, rfl⟩)) (fun q => hk _ _ (Or.inl ⟨fun z => no_hi (by omega) q z.2.2, rfl, rfl⟩)) fun x' hx ex => ?_)
  have ok : okLf V b n x := ⟨⟨b', hb, eb⟩, ⟨n', hn, en⟩, ⟨x', hx, ex⟩⟩
  rw [em]
  refine ⟨fun q => ?_, fun q => hk _ _ (Or.inr (Or.inl ⟨ok, (neq (b := 6) (by omega) (by omega)).mp q, rfl, rfl⟩))⟩
  have q' : nlR R < 6 := by
    have : nlR R ≠ 6 := fun z => q (by rw [z]; rfl)
    omega
  have t0 : 3 * nI (nlR R) = nI (3 * nlR R) := pk_mul 3 _
  have t2 : nI (3 * nlR R) + 2 = nI (3 * nlR R + 2) := nI_add _ 2
  rw [t0, t2, nI_1, nI_1, ncl (by omega), ncl (by omega), ncl (by omega)]
  refine ⟨nin (by omega) (by omega), nin (by omega) (by omega), nin (by omega) (by omega), hk _ _ (Or.inr (Or.inr ⟨ok, q', rfl, ?_, ?_, fun c c1 c2 => ?_⟩))⟩
  · have en2 : (nI (nlR R + 1)).toNatClampNeg = nlR R + 1 := ncl (by omega)
    funext c
    rcases c with _ | _ | _ | c
    · show nrm (nI (nlR R + 1)).toNatClampNeg (fun k => upd (upd (upd (M 80) (3 * nlR R) b) (3 * nlR R + 1) n) (3 * nlR R + 2) x (3 * k)) = upd (R 0) (nlR R) b
      rw [en2, e0, ← nrm_app]
      refine nrm_cong (fun i hi => ?_)
      rw [pk_un (by omega), pk_un (by omega)]
      by_cases ei : i = nlR R
      · subst ei; rw [pk_us, pk_us]
      · rw [pk_un (by omega), pk_un ei]
    · show nrm (nI (nlR R + 1)).toNatClampNeg (fun k => upd (upd (upd (M 80) (3 * nlR R) b) (3 * nlR R + 1) n) (3 * nlR R + 2) x (3 * k + 1)) = upd (R 1) (nlR R) n
      rw [en2, e1, ← nrm_app]
      refine nrm_cong (fun i hi => ?_)
      rw [pk_un (by omega)]
      by_cases ei : i = nlR R
      · subst ei; rw [pk_us, pk_us]
      · rw [pk_un (by omega), pk_un (by omega), pk_un ei]
    · show nrm (nI (nlR R + 1)).toNatClampNeg (fun k => upd (upd (upd (M 80) (3 * nlR R) b) (3 * nlR R + 1) n) (3 * nlR R + 2) x (3 * k + 2)) = upd (R 2) (nlR R) x
      rw [en2, e2, ← nrm_app]
      refine nrm_cong (fun i hi => ?_)
      by_cases ei : i = nlR R
      · subst ei; rw [pk_us, pk_us]
      · rw [pk_un (by omega), pk_un (by omega), pk_un (by omega), pk_un ei]
    · rfl
  · rw [wr_eq, wr_ne (by omega), wr_ne (by omega), wr_ne (by omega)]
  · rw [wr_ne c1, wr_ne c2, wr_ne c2, wr_ne c2]
theorem m_keep (hn : M 57 43 = nI n) (h2 : n ≤ 2) : WpI mX10_keep [.ref 57] M (gj gm) (TTc ++ TTm) (fun r M' => (n = 2 ∧ r = -3 ∧ M' = M) ∨ (n < 2 ∧ r = nI (n + 1) ∧ M' 57 = upd (M 57) 43 (nI (n + 1)) ∧ (∀ k j, k < n → j < 21 → kM M' k j = kM M k j) ∧ (∀ j, j < 21 → kM M' n j = M 64 j) ∧ ∀ c, c ≠ 57 → c ≠ 83 → M' c = M c)) := by
  refine WpI.of rfl rfl nL fun X Q C hk => bX10_keep_0 C ⟨fun q => ?_, fun q => hk _ _ (Or.inl ⟨?_, rfl, rfl⟩)⟩
  · have q' : n < 2 := by
      have : n ≠ 2 := fun z => q (by rw [hn, z]; rfl)
      omega
    have loop : ∀ m j (M1 : Mem), j + m = 21 → (∀ c, c ≠ 83 → M1 c = M c) → (∀ i, i < 21 * n → M1 83 i = M 83 i) → (∀ i, i < j → M1 83 (21 * n + i) = M 64 i) → WW X Q 13 [(0, .ref 57), (1, .int (nI j))] [] (M1, gj gm, TTc ++ TTm) := by
      intro m
      induction m with
      | zero =>
        intro j M1 hj h1 h3 h4
        have ej : j = 21 := by omega
        subst ej
        have e35 : M1 57 43 = nI n := by rw [h1 57 (by omega), hn]
        refine bX10_keep_13 C ⟨fun _ => ?_, fun z => absurd (by decide) z⟩
        rw [e35, nI_1]
        refine hk _ _ (Or.inr ⟨q', rfl, ?_, fun k j hk2 hj2 => ?_, fun j hj2 => ?_, fun c c1 c2 => ?_⟩)
        · rw [wr_eq, h1 57 (by omega)]
        · show (wr M1 57 43 (nI (n + 1))) 83 (21 * k + j) = M 83 (21 * k + j)
          rw [wr_ne (by omega), h3 _ (by omega)]
        · show (wr M1 57 43 (nI (n + 1))) 83 (21 * n + j) = M 64 j
          rw [wr_ne (by omega), h4 j hj2]
        · rw [wr_ne c1, h1 c c2]
      | succ m ih =>
        intro j M1 hj h1 h3 h4
        have e35 : M1 57 43 = nI n := by rw [h1 57 (by omega), hn]
        refine bX10_keep_13 C ⟨fun z => absurd z ?_, fun _ => ?_⟩
        · show ¬ nI 21 ≤ nI j
          rw [nle (by omega) (by omega)]; omega
        rw [e35, show (21 : Int32) = nI 21 from rfl, pk_mul, nI_add, nI_1, ncl (by omega), ncl (by omega)]
        refine ⟨nin (by omega) (by omega), nin (by omega) (by omega), ih (j + 1) _ (by omega) (fun c hc => by rw [wr_ne hc, h1 c hc]) (fun i hi => ?_) (fun i hi => ?_)⟩
        · rw [wr_eq, pk_un (by omega), h3 i hi]
        · rw [wr_eq]
          by_cases e2 : i = j
          · subst e2; rw [pk_us, h1 64 (by omega)]
          · rw [pk_un (by omega), h4 i (by omega)]
    exact loop 21 0 M (by omega) (fun _ _ => rfl) (fun _ _ => rfl) (fun i hi => absurd hi (by omega))
  · rw [hn] at q
    exact (neq (b := 2) (by omega) (by omega)).mp q
theorem m_back (e : vM (M 57 1) M = V) (h : VB V) (hn : M 57 43 = nI n) (h2 : n ≤ 2) : WpI mX10_back [.ref 57] M (gj gm) (TTc ++ TTm) (fun r M' => (n = 0 ∧ r = -2 ∧ M' = M) ∨ ∃ k, n = k + 1 ∧ r = nI k ∧ vM (M' 57 1) M' = vS V (kM M k) ∧ M' 57 = upd (upd (M 57) 43 (nI k)) 35 0 ∧ ∀ c, c ≠ 57 → c ≠ 64 → M' c = M c) := by
  have h7 := h.1.1.2.2
  refine WpI.of rfl rfl nL fun X Q C hk => bX10_back_0 C ⟨fun q => ?_, fun q => hk _ _ (Or.inl ⟨?_, rfl, rfl⟩)⟩
  · obtain ⟨k, rfl⟩ : ∃ k, n = k + 1 := ⟨n - 1, by
      have : n ≠ 0 := fun z => q (by rw [hn, z]; rfl)
      omega⟩
    rw [hn, nI_p1]
    have loop : ∀ m j (M1 : Mem), j + m = 21 → (∀ c, c ≠ 64 → M1 c = (wr M 57 43 (nI k)) c) → (∀ i, i < j → M1 64 i = M 83 (21 * k + i)) → WW X Q 22 [(0, .ref 57), (1, .int (nI j))] [] (M1, gj gm, TTc ++ TTm) := by
      intro m
      induction m with
      | zero =>
        intro j M1 hj h1 h3
        have ej : j = 21 := by omega
        subst ej
        have e35 : M1 57 43 = nI k := by rw [h1 57 (by omega), wr_eq, pk_us]
        have e57 : M1 57 = upd (M 57) 43 (nI k) := by rw [h1 57 (by omega), wr_eq]
        have f57 : (wr M1 57 35 0) 57 = upd (upd (M 57) 43 (nI k)) 35 0 := by rw [wr_eq, e57]
        refine bX10_back_22 C ⟨fun _ => hk _ _ (Or.inr ⟨k, rfl, e35, ?_, f57, fun c c1 c2 => by rw [wr_ne c1, h1 c c2, wr_ne c1]⟩), fun z => absurd (by decide) z⟩
        have s64 : ∀ i, i < 21 → (wr M1 57 35 0) 64 i = kM M k i := fun i hi => by
          rw [wr_ne (by omega), h3 i hi]
          rfl
        have ob : (wr M1 57 35 0) 57 1 = M 57 1 := by rw [f57]; rfl
        have og : ((wr M1 57 35 0) 57 7).toNatClampNeg = ngV V := by rw [f57]; show (M 57 7).toNatClampNeg = _; rw [rm_g e h.1, ncl (by omega)]
        have oc : ∀ c, c ≠ 57 → c ≠ 64 → (wr M1 57 35 0) c = M c := fun c c1 c2 => by rw [wr_ne c1, h1 c c2, wr_ne c1]
        rw [ob]
        generalize wr M1 57 35 0 = M2 at *
        funext c
        unfold vS
        by_cases c1 : c = 1
        · rw [if_pos c1, c1]
          show nrm (M2 57 7).toNatClampNeg (fun i => M2 64 (14 + i)) = _
          rw [og]
          exact nrm_cong (fun i hi => s64 _ (by omega))
        · rw [if_neg c1]
          by_cases c4 : c = 4
          · rw [if_pos c4, c4]
            show nrm (M2 57 7).toNatClampNeg (fun i => M2 64 (7 + i)) = _
            rw [og]
            exact nrm_cong (fun i hi => s64 _ (by omega))
          · rw [if_neg c4]
            by_cases c5 : c = 5
            · rw [if_pos c5, c5]
              show nrm (M2 57 7).toNatClampNeg (M2 64) = _
              rw [og]
              exact nrm_cong (fun i hi => s64 _ (by omega))
            · rw [if_neg c5, ← e]
              unfold vM
              rw [f57, oc 58 (by omega) (by omega), oc 59 (by omega) (by omega), oc 60 (by omega) (by omega), oc 61 (by omega) (by omega), oc 62 (by omega) (by omega), oc 63 (by omega) (by omega)]
              rcases c with _ | _ | _ | _ | _ | _ | _ | _ | _ | _ | c <;> first | rfl | exact absurd rfl c1 | exact absurd rfl c4 | exact absurd rfl c5
      | succ m ih =>
        intro j M1 hj h1 h3
        have e35 : M1 57 43 = nI k := by rw [h1 57 (by omega), wr_eq, pk_us]
        refine bX10_back_22 C ⟨fun z => absurd z ?_, fun _ => ?_⟩
        · show ¬ nI 21 ≤ nI j
          rw [nle (by omega) (by omega)]; omega
        rw [e35, show (21 : Int32) = nI 21 from rfl, pk_mul, nI_add, nI_1, ncl (by omega), ncl (by omega)]
        refine ⟨nin (by omega) (by omega), nin (by omega) (by omega), ih (j + 1) _ (by omega) (fun c hc => by rw [wr_ne hc, h1 c hc]) (fun i hi => ?_)⟩
        rw [wr_eq]
        by_cases e2 : i = j
        · subst e2; rw [pk_us, h1 83 (by omega), wr_ne (by omega)]
        · rw [pk_un e2, h3 i (by omega)]
    exact loop 21 0 _ (by omega) (fun _ _ => rfl) (fun i hi => absurd hi (by omega))
  · rw [hn] at q
    exact (neq (b := 0) (by omega) (by omega)).mp q
end M62
