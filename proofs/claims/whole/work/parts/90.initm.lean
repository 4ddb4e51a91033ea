/-! the reference's constructor -/
theorem tk84 : TTa.take 84 = TTc ++ TTm := by decide
def AfM (M : Mem) : Prop := vM (M 57 1) M = dV dI ∧ M 57 35 = 0 ∧ M 57 39 = 0 ∧ M 57 43 = 0 ∧ M 57 3 = 0 ∧ M 57 13 = 0
def M10 (M : Mem) : Mem := (wr (wr (wr (wr (wr (wr (wr (wr (wr (wr M 57 1 (2 : Int32)) 57 7 (3 : Int32)) 57 10 (1 : Int32)) 57 28 (-1 : Int32)) 58 0 (60 : Int32)) 58 1 (72 : Int32)) 60 0 (66 : Int32)) 60 1 (60 : Int32)) 60 2 (75 : Int32)) 62 0 (6 : Int32))
theorem afM_of {M M1 : Mem} (hz : ∀ k, 57 ≤ k → M k = fun _ => 0) (fr : ∀ c, c ≠ 64 → M1 c = M10 M c) (h64 : ∀ i, i < 7 → M1 64 i = nI i) (h64z : ∀ i, 7 ≤ i → M1 64 i = 0) : AfM M1 := by
  have z57 := hz 57 (by omega)
  have z58 := hz 58 (by omega)
  have z59 := hz 59 (by omega)
  have z60 := hz 60 (by omega)
  have z61 := hz 61 (by omega)
  have z62 := hz 62 (by omega)
  have z63 := hz 63 (by omega)
  have e57 : M1 57 = upd (upd (upd (upd (fun _ => 0) 1 2) 7 3) 10 1) 28 (-1) := by rw [fr 57 (by omega), ← z57]; rfl
  have e58 : M1 58 = upd (upd (fun _ => 0) 0 60) 1 72 := by rw [fr 58 (by omega), ← z58]; rfl
  have e59 : M1 59 = fun _ => 0 := by rw [fr 59 (by omega), ← z59]; rfl
  have e60 : M1 60 = upd (upd (upd (fun _ => 0) 0 66) 1 60) 2 75 := by rw [fr 60 (by omega), ← z60]; rfl
  have e61 : M1 61 = fun _ => 0 := by rw [fr 61 (by omega), ← z61]; rfl
  have e62 : M1 62 = upd (fun _ => 0) 0 6 := by rw [fr 62 (by omega), ← z62]; rfl
  have e63 : M1 63 = fun _ => 0 := by rw [fr 63 (by omega), ← z63]; rfl
  obtain ⟨-, n1, n2, n3, n4, n5⟩ := dI_n
  obtain ⟨v1, v2, v3, v4, v5, v6⟩ := dI_v
  obtain ⟨w1, w2, w3⟩ := dI_z
  refine ⟨?_, by rw [e57]; rfl, by rw [e57]; rfl, by rw [e57]; rfl, by rw [e57]; rfl, by rw [e57]; rfl⟩
  unfold vM dV
  rw [e57, e58, e59, e60, e61, e62, e63, n1, n2, n4, n5]
  funext c
  rcases c with _ | _ | _ | _ | _ | _ | _ | _ | _ | _ | c
  · refine nrm_cong (n := 3) (fun i hi => ?_)
    rcases i with _ | _ | _ | i
    · exact v1.symm
    · exact v2.symm
    · exact v3.symm
    · omega
  · exact nrm_cong (n := 3) (fun i hi => by rw [h64z _ (by omega)]; exact (w1 i hi).1.symm)
  · exact nrm_cong (n := 3) (fun i hi => (w1 i hi).2.symm)
  · refine nrm_cong (n := 3) (fun i hi => ?_)
    rcases i with _ | _ | _ | i
    · exact v4.symm
    · exact w2.1.symm
    · exact w2.2.symm
    · omega
  · exact nrm_cong (n := 3) (fun i hi => by rw [h64z _ (by omega)])
  · exact nrm_cong (n := 3) (fun i hi => h64 i (by omega))
  · refine nrm_cong (n := 2) (fun i hi => ?_)
    rcases i with _ | _ | i
    · exact v5.symm
    · exact v6.symm
    · omega
  · exact nrm_cong (n := 30) (fun i hi => (w3 i hi).symm)
  · exact nrm_cong (n := 0) (fun i hi => absurd hi (Nat.not_lt_zero i))
  · funext j
    rcases j with _ | _ | _ | _ | _ | _ | _ | j <;> rfl
  · rfl
theorem m_init {M : Mem} (hz : ∀ k, 57 ≤ k → M k = fun _ => 0) : WpM mX10_init 26 882 [.ref 57] (M, gj gE, TTa.take 58) (fun v w' => v = none ∧ ∃ M', w' = (M', gj gm, TTc ++ TTm) ∧ AfM M' ∧ ∀ c, c < 57 → M' c = M c) := by
  refine WpM.of rfl nL ?_ ?_
  · rintro v w' ⟨rfl, M', rfl, -⟩
    exact ⟨fun x hx => (by cases hx), show (TTc ++ TTm).length = (TTa.take 58).length + 26 by decide, show slT (TTc ++ TTm) = slT (TTa.take 58) + 882 by decide⟩
  intro X Q C0 h1 h2 h3 hk
  have C : Okn X mX10_init (TTa.take 58) 26 882 := ⟨C0, h3, h1, h2⟩
  show WW X Q 0 [(0, .ref 57)] [] (M, gj gE, TTa.take 58)
  refine i10_pre (fun k h _ => hz k (by omega)) (fun k h _ => funext fun j => gj_out (Or.inl (by omega))) C ?_
  rw [tk84]
  show WW X Q 279 [(0, .ref 57)] [] (M10 M, gX10, TTc ++ TTm)
  rw [gX10_eq]
  have loop : ∀ m i (M1 : Mem), i + m = 7 → (∀ c, c ≠ 64 → M1 c = M10 M c) → (∀ j, j < i → M1 64 j = nI j) → (∀ j, i ≤ j → M1 64 j = 0) → WW X Q 281 [(0, .ref 57), (1, .int (nI i))] [] (M1, gj gm, TTc ++ TTm) := by
    intro m
    induction m with
    | zero =>
      intro i M1 hi fr a b
      have ei : i = 7 := by omega
      subst ei
      refine ww_iload_n C0 dX10_init_281 1 rfl rfl ?_
      refine ww_bipush C0 (v := (7 : Int32)) dX10_init_282 (by decide) ?_
      refine ww_icmp_ge C0 (tgt := 300) dX10_init_284 (by decide) (fun _ => ?_) (fun z => absurd (by decide) z)
      refine ww_vret C0 dX10_init_300 rfl (hk _ _ ⟨rfl, _, rfl, afM_of hz fr a b, fun c hc => ?_⟩)
      rw [fr c (by omega)]
      unfold M10
      rw [wr_ne (by omega), wr_ne (by omega), wr_ne (by omega), wr_ne (by omega), wr_ne (by omega), wr_ne (by omega), wr_ne (by omega), wr_ne (by omega), wr_ne (by omega), wr_ne (by omega)]
    | succ m ih =>
      intro i M1 hi fr a b
      refine ww_iload_n C0 dX10_init_281 1 rfl rfl ?_
      refine ww_bipush C0 (v := (7 : Int32)) dX10_init_282 (by decide) ?_
      refine ww_icmp_ge C0 (tgt := 300) dX10_init_284 (by decide) (fun z => absurd ((nle (a := 7) (by omega) (by omega)).mp z) (by omega)) (fun _ => ?_)
      refine ww_aload_n C0 dX10_init_287 0 rfl rfl ?_
      refine wt_getR C0 dX10_init_288 flRX10_38 tm57 rfl rfl ?_
      refine ww_iload_n C0 dX10_init_291 1 rfl rfl ?_
      refine ww_iload_n C0 dX10_init_292 1 rfl rfl ?_
      refine wt_iast C0 dX10_init_293 tm64 (nin (by omega) (by omega)) ?_
      refine ww_iinc C0 (v := nI i + (1 : Int32)) dX10_init_294 1 rfl (by rfl) (by decide) [1, 0] (L' := [(0, .ref 57), (1, .int (nI i + (1 : Int32)))]) rfl ?_
      refine ww_goto C0 (tgt := 281) dX10_init_297 (by decide) ?_
      rw [nI_1, ncl (by omega)]
      refine ih (i + 1) _ (by omega) (fun c hc => by rw [wr_ne hc]; exact fr c hc) (fun j hj => ?_) (fun j hj => ?_)
      · by_cases e : j = i
        · subst e; rw [wr_at]
        · rw [wr_no e]; exact a j (by omega)
      · rw [wr_no (by omega)]; exact b j (by omega)
  refine ww_iconst C0 (v := (0 : Int32)) dX10_init_279 (by decide) ?_
  refine ww_istore_n C0 dX10_init_280 rfl (by decide) [1, 0] (L' := [(0, .ref 57), (1, .int (0 : Int32))]) rfl ?_
  refine loop 7 0 _ (by omega) (fun _ _ => rfl) (fun j hj => absurd hj (Nat.not_lt_zero j)) (fun j _ => ?_)
  show M 64 j = 0
  rw [hz 64 (by omega)]
