/-! count, wipe, write, sweep, left, keep, back -/
def cntQ (a : Nat → Int32) (x : Int32) : Int32 := if x = 0 then a 0 else if x = 1 then a 1 else if x = 2 then a 2 else if x = 3 then a 3 else if x = 4 then a 4 else if x = 5 then a 5 else if x = 6 then a 6 else if x = 7 then a 7 else if x = 8 then a 8 else -1
def cnC (M : Mem) : Nat → Int32
  | 0 => M 34 2
  | 1 => M 37 6
  | 2 => M 34 3
  | 3 => M 33 3
  | 4 => M 33 4
  | 5 => M 24 4
  | 6 => M 10 3
  | 7 => M 14 3
  | _ => M 1 2
def cnM (M : Mem) : Nat → Int32
  | 0 => M 57 1
  | 1 => M 57 7
  | 2 => M 57 3
  | 3 => M 57 9
  | 4 => M 57 10
  | 5 => M 57 39
  | 6 => M 57 35
  | 7 => M 57 43
  | _ => M 57 13
theorem nar_ok : ∀ k, k < 127 → vp_nar .char ((nI k).toUInt32 % 65536).toInt32 = nI k := by decide +kernel
def addR (R : Mem) (b n h : Int32) : Mem := fun c => match c with
  | 0 => upd (R 0) (nlR R) b
  | 1 => upd (R 1) (nlR R) n
  | 2 => upd (R 2) (nlR R) h
  | _ => fun _ => nI (nlR R + 1)
theorem nrm_app {n : Nat} {f : Nat → Int32} {x : Int32} : nrm (n + 1) (upd f n x) = upd (nrm n f) n x := by
  funext i
  by_cases e : i = n
  · subst e
    rw [pk_us, nrm_in (by omega), pk_us]
  · rw [pk_un e]
    by_cases h : i < n
    · rw [nrm_in (by omega), nrm_in h, pk_un e]
    · rw [nrm_out h, nrm_out (by omega)]
theorem ROK.add {V R : Mem} (h : ROK V R) (h6 : nlR R < 6) {b n : Nat} {x : Int32} (hb : b < nbV V) (hn : n < 30) (hx : rgI x 0 99) : ROK V (addR R (nI b) (nI n) x) := by
  have e : nlR (addR R (nI b) (nI n) x) = nlR R + 1 := by
    show (nI (nlR R + 1)).toNatClampNeg = _
    exact ncl (by omega)
  refine ⟨⟨by rw [e]; rfl, by rw [e]; omega⟩, fun k hk => ?_⟩
  rw [e] at hk
  by_cases ek : k = nlR R
  · subst ek
    refine ⟨⟨b, hb, ?_⟩, ⟨n, hn, ?_⟩, ?_⟩
    · exact pk_us
    · exact pk_us
    · show rgI (upd (R 2) (nlR R) x (nlR R)) 0 99
      rw [pk_us]; exact hx
  · obtain ⟨⟨b', a1, a2⟩, ⟨n', b1, b2⟩, c⟩ := h.2 k (by omega)
    refine ⟨⟨b', a1, ?_⟩, ⟨n', b1, ?_⟩, ?_⟩
    · exact (pk_un ek).trans a2
    · exact (pk_un ek).trans b2
    · show rgI (upd (R 2) (nlR R) x k) 0 99
      rw [pk_un ek]; exact c
def kC (M : Mem) (k : Nat) : Nat → Int32 := fun j => if j < 7 then M (16 + k) j else if j < 14 then M (19 + k) (j - 7) else M (22 + k) (j - 14)
def kM (M : Mem) (k : Nat) : Nat → Int32 := fun j => M 83 (21 * k + j)
theorem vS_of {V : Mem} {f g1 g4 g5 : Nat → Int32} (h7 : ngV V ≤ 7) (h1 : ∀ i, i < 7 → f (14 + i) = g1 i) (h4 : ∀ i, i < 7 → f (7 + i) = g4 i) (h5 : ∀ i, i < 7 → f i = g5 i) : vS V f = fun c => if c = 1 then nrm (ngV V) g1 else if c = 4 then nrm (ngV V) g4 else if c = 5 then nrm (ngV V) g5 else V c := by
  funext c
  unfold vS
  split
  · exact nrm_cong (fun i hi => h1 i (by omega))
  · split
    · exact nrm_cong (fun i hi => h4 i (by omega))
    · split
      · exact nrm_cong (fun i hi => h5 i (by omega))
      · rfl
section C61
variable {M V R : Mem} {G2 : Grf} {T2 : List (Nat × Nat)} {n : Nat}
theorem c_count (x : Int32) : WpI mX9_count [.ref 0, .int x] M (gj G2) (TTc ++ T2) (fun r M' => r = cntQ (cnC M) x ∧ M' = M) := by
  refine WpI.of rfl rfl nL fun X Q C hk => bX9_count_0 C ?_
  unfold cntQ at hk
  refine ⟨fun q => hk _ _ ⟨by rw [if_pos q]; rfl, rfl⟩, fun q => ?_⟩
  rw [if_neg q] at hk
  refine ⟨fun q => hk _ _ ⟨by rw [if_pos q]; rfl, rfl⟩, fun q => ?_⟩
  rw [if_neg q] at hk
  refine ⟨fun q => hk _ _ ⟨by rw [if_pos q]; rfl, rfl⟩, fun q => ?_⟩
  rw [if_neg q] at hk
  refine ⟨fun q => hk _ _ ⟨by rw [if_pos q]; rfl, rfl⟩, fun q => ?_⟩
  rw [if_neg q] at hk
  refine ⟨fun q => hk _ _ ⟨by rw [if_pos q]; rfl, rfl⟩, fun q => ?_⟩
  rw [if_neg q] at hk
  refine ⟨fun q => hk _ _ ⟨by rw [if_pos q]; rfl, rfl⟩, fun q => ?_⟩
  rw [if_neg q] at hk
  refine ⟨fun q => hk _ _ ⟨by rw [if_pos q]; rfl, rfl⟩, fun q => ?_⟩
  rw [if_neg q] at hk
  refine ⟨fun q => hk _ _ ⟨by rw [if_pos q]; rfl, rfl⟩, fun q => ?_⟩
  rw [if_neg q] at hk
  exact ⟨fun q => hk _ _ ⟨by rw [if_pos q]; rfl, rfl⟩, fun q => hk _ _ ⟨by rw [if_neg q], rfl⟩⟩
theorem c_wipe : WpI mX9_wipe [.ref 0] M (gj G2) (TTc ++ T2) (fun r M' => r = M 1 2 ∧ M' = wr M 1 2 0) := by
  refine WpI.of rfl rfl nL fun X Q C hk => bX9_wipe_0 C (hk _ _ ⟨rfl, rfl⟩)
theorem c_write (hn : M 1 2 = nI n) (h2 : n ≤ 200) (x : Int32) : WpI mX9_write [.ref 0, .int x] M (gj G2) (TTc ++ T2) (fun r M' => (¬ rgI x 32 126 ∧ r = -1 ∧ M' = M) ∨ (rgI x 32 126 ∧ n = 200 ∧ r = -3 ∧ M' = M) ∨ (rgI x 32 126 ∧ n < 200 ∧ r = nI (n + 1) ∧ M' = wr (wr M 2 n x) 1 2 (nI (n + 1)))) := by
  refine WpI.of rfl rfl nL fun X Q C hk => bX9_write_0 C ⟨fun q => hk _ _ (Or.inl ⟨fun z => ?_, rfl, rfl⟩), fun q => ⟨fun q2 => hk _ _ (Or.inl ⟨fun z => ?_, rfl, rfl⟩), fun q2 => ?_⟩⟩
  · have := z.1
    rw [fa_lt, show (32 : Int32).toInt = 32 by decide] at q
    omega
  · have := z.2
    rw [fa_lt, show (126 : Int32).toInt = 126 by decide] at q2
    omega
  have hx := rg_c (x := x) (p := 32) (q := 126) (by decide) (by decide) q q2
  obtain ⟨ex, hx2⟩ := rg_nat (x := x) (b := 126) (by unfold rgI at *; omega) (by omega)
  have put : WpI mX7_put [.ref 1, .int (x.toUInt32 % 65536).toInt32] M (gj G2) (TTc ++ T2) (fun r M' => (n = 200 ∧ r = 0 ∧ M' = M) ∨ (n < 200 ∧ r = 1 ∧ M' = wr (wr M 2 n x) 1 2 (nI (n + 1)))) := by
    refine WpI.of rfl rfl nL fun X Q C hk => bX7_put_0 C ?_
    have nar := nar_ok x.toNatClampNeg (by omega)
    rw [← ex] at nar
    rw [nar, hn, ncl (by omega), nI_1]
    refine ⟨fun q => ?_, fun q => hk _ _ (Or.inl ⟨?_, rfl, rfl⟩)⟩
    · have q' : n < 200 := (nlt (b := 200) (by omega) (by omega)).mp q
      exact ⟨nin q' (by omega), hk _ _ (Or.inr ⟨q', rfl, rfl⟩)⟩
    · have : ¬ n < 200 := fun z => q ((nlt (b := 200) (by omega) (by omega)).mpr z)
      omega
  refine put.imp ?_
  rintro r M' (⟨a, rfl, rfl⟩ | ⟨a, rfl, rfl⟩)
  · exact bX9_write_22 C ⟨fun _ => hk _ _ (Or.inr (Or.inl ⟨hx, a, rfl, rfl⟩)), fun q => absurd rfl q⟩
  · exact bX9_write_22 C ⟨fun q => absurd q (by decide), fun _ => hk _ _ (Or.inr (Or.inr ⟨hx, a, rfl, rfl⟩))⟩
theorem c_sweep : WpI mX9_sweep [.ref 0] M (gj G2) (TTc ++ T2) (fun r M' => r = M 24 4 ∧ M' = wr M 24 4 0) := by
  refine WpI.of rfl rfl nL fun X Q C hk => bX9_sweep_0 C (hk _ _ ⟨rfl, rfl⟩)
def okLf (V : Mem) (b n x : Int32) : Prop := okI (nbV V) b ∧ okI 30 n ∧ okI 100 x
theorem c_left (e : vC M = V) (h : VB V) (er : rC M = R) (hr : ROK V R) (b n x : Int32) : WpI mX9_left [.ref 0, .int b, .int n, .int x] M (gj G2) (TTc ++ T2) (fun r M' => (¬ okLf V b n x ∧ r = -1 ∧ M' = M) ∨ (okLf V b n x ∧ nlR R = 6 ∧ r = -3 ∧ M' = M) ∨ (okLf V b n x ∧ nlR R < 6 ∧ r = nI (nlR R + 1) ∧ rC M' = addR R b n x ∧ Fr 24 27 M M')) := by
  have h4 := h.1.2.1.2.2
  have h6 := hr.1.2
  have em : M 24 4 = nI (nlR R) := by rw [← hr.1.1, ← er]; rfl
  have hn2 : (M 24 4).toNatClampNeg = nlR R := by rw [← er]; rfl
  have e0 : R 0 = nrm (nlR R) (M 25) := by rw [← hn2, ← er]; rfl
  have e1 : R 1 = nrm (nlR R) (M 26) := by rw [← hn2, ← er]; rfl
  have e2 : R 2 = nrm (nlR R) (M 27) := by rw [← hn2, ← er]; rfl
  refine WpI.of rfl rfl nL fun X Q C hk => bX9_left_0 C (g_c (by omega) (rc_b e h.1) (fun q => hk _ _ (Or.inl ⟨fun z => no_lo (by omega) q z.1, rfl, rfl⟩)) (fun q => hk _ _ (Or.inl ⟨fun z => no_hi (by omega) q z.1, rfl, rfl⟩)) fun b' hb eb => g_m (n := 30) (by omega) (by omega) rfl (fun q => hk _ _ (Or.inl ⟨fun z => no_lo (by omega) q z.2.1, rfl, rfl⟩)) (fun q => hk _ _ (Or.inl ⟨fun z => no_hi (by omega) q z.2.1, rfl, rfl⟩)) fun n' hn en => g_m (n := 100) (by omega) (by omega) rfl (fun q => hk _ _ (Or.inl ⟨fun z => no_lo (by omega) q z.2.2, rfl, rfl⟩)) (fun q => hk _ _ (Or.inl ⟨fun z => no_hi (by omega) q z.2.2, rfl, rfl⟩)) fun x' hx ex => ?_)
  have ok : okLf V b n x := ⟨⟨b', hb, eb⟩, ⟨n', hn, en⟩, ⟨x', hx, ex⟩⟩
  have add : WpI mX6_add [.ref 24, .int b, .int n, .int x] M (gj G2) (TTc ++ T2) (fun r M' => (nlR R = 6 ∧ r = 0 ∧ M' = M) ∨ (nlR R < 6 ∧ r = 1 ∧ rC M' = addR R b n x ∧ Fr 24 27 M M')) := by
    refine WpI.of rfl rfl nL fun X Q C hk => bX6_add_0 C ?_
    rw [em, ncl (by omega), nI_1]
    refine ⟨fun q => ?_, fun q => hk _ _ (Or.inl ⟨?_, rfl, rfl⟩)⟩
    · have q' : nlR R < 6 := (nlt (b := 6) (by omega) (by omega)).mp q
      have v := nin q' (by omega)
      refine ⟨v, v, v, hk _ _ (Or.inr ⟨q', rfl, ?_, (((Fr.rfl'.wr (by omega) (by omega)).wr (by omega) (by omega)).wr (by omega) (by omega)).wr (by omega) (by omega)⟩)⟩
      funext c
      have en : (nI (nlR R + 1)).toNatClampNeg = nlR R + 1 := ncl (by omega)
      rcases c with _ | _ | _ | c
      · show nrm (nI (nlR R + 1)).toNatClampNeg (upd (M 25) (nlR R) b) = upd (R 0) (nlR R) b
        rw [en, nrm_app, e0]
      · show nrm (nI (nlR R + 1)).toNatClampNeg (upd (M 26) (nlR R) n) = upd (R 1) (nlR R) n
        rw [en, nrm_app, e1]
      · show nrm (nI (nlR R + 1)).toNatClampNeg (upd (M 27) (nlR R) x) = upd (R 2) (nlR R) x
        rw [en, nrm_app, e2]
      · rfl
    · have : ¬ nlR R < 6 := fun z => q ((nlt (b := 6) (by omega) (by omega)).mpr z)
      omega
  refine add.imp ?_
  rintro r M' (⟨a, rfl, rfl⟩ | ⟨a, rfl, a2, a3⟩)
  · exact bX9_left_43 C ⟨fun _ => hk _ _ (Or.inr (Or.inl ⟨ok, a, rfl, rfl⟩)), fun q => absurd rfl q⟩
  · refine bX9_left_43 C ⟨fun q => absurd q (by decide), fun _ => hk _ _ (Or.inr (Or.inr ⟨ok, a, ?_, a2, a3⟩))⟩
    exact congrFun (congrFun a2 3) 0
theorem c_keep (e : vC M = V) (h : VB V) (hn : M 14 3 = nI n) (h2 : n ≤ 2) : WpI mX9_keep [.ref 0] M (gj G2) (TTc ++ T2) (fun r M' => (n = 2 ∧ r = -3 ∧ M' = M) ∨ (n < 2 ∧ r = nI (n + 1) ∧ M' 14 3 = nI (n + 1) ∧ (∀ k, k < n → kC M' k = kC M k) ∧ vS V (kC M' n) = V ∧ Fr 14 23 M M')) := by
  have h7 := h.1.1.2.2
  have hgn : (M 37 6).toNatClampNeg = ngV V := by rw [rc_g e h.1, ncl (by omega)]
  have fin : ∀ f : Nat → Int32, (∀ i, i < 7 → f (14 + i) = M 39 i) → (∀ i, i < 7 → f (7 + i) = M 42 i) → (∀ i, i < 7 → f i = M 43 i) → vS V f = V := by
    intro f h1 h4 h5
    rw [vS_of h7 h1 h4 h5]
    funext c
    split
    · rename_i q; rw [q, ← hgn, ← e]; rfl
    · split
      · rename_i q; rw [q, ← hgn, ← e]; rfl
      · split
        · rename_i q; rw [q, ← hgn, ← e]; rfl
        · rfl
  have put : WpI mX8_put [.ref 14, .ref 37] M (gj G2) (TTc ++ T2) (fun r M' => (n = 2 ∧ r = 0 ∧ M' = M) ∨ (n < 2 ∧ r = 1 ∧ M' 14 3 = nI (n + 1) ∧ (∀ k, k < n → kC M' k = kC M k) ∧ vS V (kC M' n) = V ∧ Fr 14 23 M M')) := by
    refine WpI.of rfl rfl nL fun X Q C hk => bX8_put_0 C ?_
    rcases (show n = 0 ∨ n = 1 ∨ n = 2 by omega) with rfl | rfl | rfl
    · refine ⟨fun _ => ⟨fun _ => hk _ _ (Or.inr ⟨by omega, rfl, ?_, fun k hk => absurd hk (by omega), ?_, ?_⟩), fun q => absurd (by rw [hn]; rfl) q⟩, fun q => absurd (by rw [hn]; decide) q⟩
      · rw [wr_eq, pk_us, hn]; rfl
      · refine fin _ (fun i hi => ?_) (fun i hi => ?_) (fun i hi => ?_)
        · unfold kC
          rw [if_neg (by omega), if_neg (by omega), show 14 + i - 14 = i by omega]
          exact sb_cpy0 hi
        · unfold kC
          rw [if_neg (by omega), if_pos (by omega), show 7 + i - 7 = i by omega]
          exact sb_cpy0 hi
        · unfold kC
          rw [if_pos hi]
          exact sb_cpy0 hi
      · intro c hc
        rw [wr_ne (by omega), wrA_ne (by omega), wrA_ne (by omega), wrA_ne (by omega)]
    · refine ⟨fun _ => ⟨fun q => absurd q (by rw [hn]; decide), fun _ => ⟨hn, hk _ _ (Or.inr ⟨by omega, rfl, ?_, fun k hk => ?_, ?_, ?_⟩)⟩⟩, fun q => absurd (by rw [hn]; decide) q⟩
      · rw [wr_eq, pk_us, hn]; rfl
      · rw [show k = 0 by omega]
        rfl
      · refine fin _ (fun i hi => ?_) (fun i hi => ?_) (fun i hi => ?_)
        · unfold kC
          rw [if_neg (by omega), if_neg (by omega), show 14 + i - 14 = i by omega]
          exact sb_cpy0 hi
        · unfold kC
          rw [if_neg (by omega), if_pos (by omega), show 7 + i - 7 = i by omega]
          exact sb_cpy0 hi
        · unfold kC
          rw [if_pos hi]
          exact sb_cpy0 hi
      · intro c hc
        rw [wr_ne (by omega), wrA_ne (by omega), wrA_ne (by omega), wrA_ne (by omega)]
    · exact ⟨fun q => absurd q (by rw [hn]; decide), fun _ => hk _ _ (Or.inl ⟨rfl, rfl, rfl⟩)⟩
  refine WpI.of rfl rfl nL fun X Q C hk => bX9_keep_0 C (put.imp ?_)
  rintro r M' (⟨a, rfl, rfl⟩ | ⟨a, rfl, a2, a3⟩)
  · exact bX9_keep_14 C ⟨fun _ => hk _ _ (Or.inl ⟨a, rfl, rfl⟩), fun q => absurd rfl q⟩
  · exact bX9_keep_14 C ⟨fun q => absurd q (by decide), fun _ => hk _ _ (Or.inr ⟨a, a2, a2, a3⟩)⟩
theorem c_back (e : vC M = V) (h : VB V) (hn : M 14 3 = nI n) (h2 : n ≤ 2) : WpI mX9_back [.ref 0] M (gj G2) (TTc ++ T2) (fun r M' => (n = 0 ∧ r = -2 ∧ M' = M) ∨ ∃ k, n = k + 1 ∧ r = nI k ∧ vC M' = vS V (kC M k) ∧ M' 14 = upd (M 14) 3 (nI k) ∧ M' 10 = upd (M 10) 3 0 ∧ M' 29 = upd (M 29) 3 0 ∧ ∀ c, c ≠ 10 → c ≠ 14 → c ≠ 29 → c ≠ 39 → c ≠ 42 → c ≠ 43 → M' c = M c) := by
  have h7 := h.1.1.2.2
  have hgn : (M 37 6).toNatClampNeg = ngV V := by rw [rc_g e h.1, ncl (by omega)]
  have take : ∀ k, n = k + 1 → WpV mX8_takeInto [.ref 14, .ref 37] M (gj G2) (TTc ++ T2) (fun M' => vC M' = vS V (kC M k) ∧ M' 14 = upd (M 14) 3 (nI k) ∧ ∀ c, c ≠ 14 → c ≠ 39 → c ≠ 42 → c ≠ 43 → M' c = M c) := by
    intro k hk1
    have key : ∀ M' : Mem, (∀ i, i < 7 → M' 39 i = kC M k (14 + i)) → (∀ i, i < 7 → M' 42 i = kC M k (7 + i)) → (∀ i, i < 7 → M' 43 i = kC M k i) → (∀ c, c ≠ 14 → c ≠ 39 → c ≠ 42 → c ≠ 43 → M' c = M c) → vC M' = vS V (kC M k) := by
      intro M' a1 a4 a5 ac
      have og : (M' 37 6).toNatClampNeg = ngV V := by rw [ac 37 (by omega) (by omega) (by omega) (by omega)]; exact hgn
      funext c
      unfold vS
      by_cases c1 : c = 1
      · rw [if_pos c1, c1]
        show nrm (M' 37 6).toNatClampNeg (M' 39) = _
        rw [og]
        exact nrm_cong (fun i hi => a1 i (by omega))
      · rw [if_neg c1]
        by_cases c4 : c = 4
        · rw [if_pos c4, c4]
          show nrm (M' 37 6).toNatClampNeg (M' 42) = _
          rw [og]
          exact nrm_cong (fun i hi => a4 i (by omega))
        · rw [if_neg c4]
          by_cases c5 : c = 5
          · rw [if_pos c5, c5]
            show nrm (M' 37 6).toNatClampNeg (M' 43) = _
            rw [og]
            exact nrm_cong (fun i hi => a5 i (by omega))
          · rw [if_neg c5, ← e]
            have ff : ∀ c, c ≠ 14 → c ≠ 39 → c ≠ 42 → c ≠ 43 → M' c = M c := ac
            unfold vC
            rw [ff 37 (by omega) (by omega) (by omega) (by omega), ff 38 (by omega) (by omega) (by omega) (by omega), ff 40 (by omega) (by omega) (by omega) (by omega), ff 41 (by omega) (by omega) (by omega) (by omega), ff 34 (by omega) (by omega) (by omega) (by omega), ff 35 (by omega) (by omega) (by omega) (by omega), ff 36 (by omega) (by omega) (by omega) (by omega), ff 33 (by omega) (by omega) (by omega) (by omega), ff 44 (by omega) (by omega) (by omega) (by omega)]
            rcases c with _ | _ | _ | _ | _ | _ | _ | _ | _ | _ | c <;> first | rfl | exact absurd rfl c1 | exact absurd rfl c4 | exact absurd rfl c5
    refine WpV.of rfl rfl nL fun X Q C hk => bX8_takeInto_0 C ?_
    rw [hn, hk1, nI_p1]
    have kz : ∀ j, kC M k j = if j < 7 then M (16 + k) j else if j < 14 then M (19 + k) (j - 7) else M (22 + k) (j - 14) := fun j => rfl
    rcases (show k = 0 ∨ k = 1 by omega) with rfl | rfl
    · refine ⟨fun _ => ⟨fun _ => hk _ ⟨key _ (fun i hi => ?_) (fun i hi => ?_) (fun i hi => ?_) ?_, ?_, ?_⟩, fun q => absurd rfl q⟩, fun q => absurd (by decide) q⟩
      · rw [kz, if_neg (by omega), if_neg (by omega), show 14 + i - 14 = i by omega]
        exact sb_cpy0 hi
      · rw [kz, if_neg (by omega), if_pos (by omega), show 7 + i - 7 = i by omega]
        exact sb_cpy0 hi
      · rw [kz, if_pos hi]
        exact sb_cpy0 hi
      · intro c c1 c2 c3 c4
        rw [wrA_ne c2, wrA_ne c3, wrA_ne c4, wr_ne c1]
      · rw [wrA_ne (by omega), wrA_ne (by omega), wrA_ne (by omega), wr_eq]
      · intro c c1 c2 c3 c4
        rw [wrA_ne c2, wrA_ne c3, wrA_ne c4, wr_ne c1]
    · refine ⟨fun _ => ⟨fun q => absurd q (by decide), fun _ => ⟨rfl, hk _ ⟨key _ (fun i hi => ?_) (fun i hi => ?_) (fun i hi => ?_) ?_, ?_, ?_⟩⟩⟩, fun q => absurd (by decide) q⟩
      · rw [kz, if_neg (by omega), if_neg (by omega), show 14 + i - 14 = i by omega]
        exact sb_cpy0 hi
      · rw [kz, if_neg (by omega), if_pos (by omega), show 7 + i - 7 = i by omega]
        exact sb_cpy0 hi
      · rw [kz, if_pos hi]
        exact sb_cpy0 hi
      · intro c c1 c2 c3 c4
        rw [wrA_ne c2, wrA_ne c3, wrA_ne c4, wr_ne c1]
      · rw [wrA_ne (by omega), wrA_ne (by omega), wrA_ne (by omega), wr_eq]
      · intro c c1 c2 c3 c4
        rw [wrA_ne c2, wrA_ne c3, wrA_ne c4, wr_ne c1]
  refine WpI.of rfl rfl nL fun X Q C hk => bX9_back_0 C ⟨fun q => ?_, fun q => hk _ _ (Or.inl ⟨?_, rfl, rfl⟩)⟩
  · obtain ⟨k, hk1⟩ : ∃ k, n = k + 1 := ⟨n - 1, by
      have : n ≠ 0 := fun z => q (by rw [hn, z]; rfl)
      omega⟩
    refine (take k hk1).imp ?_
    rintro M' ⟨a1, a2, a3⟩
    refine bX9_back_27 C (hk _ _ (Or.inr ⟨k, hk1, ?_, a1, ?_, ?_, ?_, fun c c1 c2 c3 c4 c5 c6 => ?_⟩))
    · rw [a2, pk_us]
    · rw [wr_ne (by omega), wr_ne (by omega), a2]
    · rw [wr_ne (by omega), wr_eq, a3 10 (by omega) (by omega) (by omega) (by omega)]
    · rw [wr_eq, wr_ne (by omega), a3 29 (by omega) (by omega) (by omega) (by omega)]
    · rw [wr_ne c3, wr_ne c1, a3 c c2 c4 c5 c6]
  · rw [hn] at q
    exact (neq (b := 0) (by omega) (by omega)).mp q
end C61
