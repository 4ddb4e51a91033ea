/-! the class: a night -/
section CN
variable {M : Mem} {G2 : Grf} {T2 : List (Nat × Nat)}
theorem c_namable {V : Mem} (e : vC M = V) (h : VOK V) {i : Nat} (hi : i < ngV V) : WpI mX2_namable [.ref 33, .int (nI i)] M (gj G2) (TTc ++ T2) (fun r M' => r = (if V 9 3 = 2 then ((1 : Int32) <<< (nI i &&& 31)) ^^^ -1 else if V 9 3 = 1 then V 3 i else 0) ∧ M' = M) := by
  have h7 := h.1.2.2
  have hs : M 37 6 = nI (ngV V) := by rw [← h.1.1, ← e]; rfl
  have hcl : (nI i).toNatClampNeg = i := ncl (by omega)
  have e3 : M 41 i = V 3 i := by rw [← e]; exact (nrm_in (by rw [← e] at hi; exact hi)).symm
  have el : M 33 4 = V 9 3 := by rw [← e]; rfl
  refine WpI.of rfl rfl nL fun X Q C hk => bX2_namable_0 C ⟨fun q => ⟨fun q2 => hk _ _ ⟨?_, rfl⟩, fun q2 => ⟨fun z => absurd z (nn0 (by omega)), fun _ => ⟨fun z => absurd z ?_, fun _ => ⟨nin (by omega) (by omega), hk _ _ ⟨?_, rfl⟩⟩⟩⟩⟩, fun q => hk _ _ ⟨?_, rfl⟩⟩
  · rw [el] at q q2; rw [if_neg q, if_neg q2]
  · rw [hs, nle (by omega) (by omega)]; omega
  · rw [el] at q q2; rw [if_neg q, if_pos q2, hcl, e3]
  · rw [el] at q; rw [if_pos q]
theorem c_callFirst {V : Mem} (e : vC M = V) (h : VOK V) {W : Nat → Bool} {d p : Nat} (hp : p < ngV V) (hw : W (rwN V p) = true) (hq : ∀ q, q < p → W (rwN V q) = false) (hd : M 4 7 = nI d) (hd2 : d < ngV V) : WpI mX3_callFirst [.ref 4, .ref 37, .int (bO (ngV V) W)] M (gj G2) (TTc ++ T2) (fun r M' => r = nI (rwN V p) ∧ M' = wr (wr M 4 7 (nI (max d p))) 9 (rwN V p) (M 9 (rwN V p) + 1)) := by
  have h7 := h.1.2.2
  have hs : M 37 6 = nI (ngV V) := by rw [← h.1.1, ← e]; rfl
  have e5 : ∀ i, i < ngV V → M 43 i = nI (rwN V i) := fun i hi => by rw [← (rwN_lt h hi).2, ← e]; exact (nrm_in (by rw [← e] at hi; exact hi)).symm
  refine WpI.of rfl rfl nL fun X Q C hk => bX3_callFirst_0 C ?_
  have loop : ∀ k i, i + k = p → WW X Q 2 [(0, .ref 4), (1, .ref 37), (2, .int (bO (ngV V) W)), (3, .int (nI i))] [] (M, gj G2, TTc ++ T2) := by
    intro k
    induction k with
    | zero =>
      intro i hi
      have hip : i = p := by omega
      subst hip
      have hr := (rwN_lt h hp).1
      have hcl : (nI i).toNatClampNeg = i := ncl (by omega)
      have hcr : (nI (rwN V i)).toNatClampNeg = rwN V i := ncl (by omega)
      refine bX3_callFirst_2 C ⟨fun z => absurd z ?_, fun _ => ⟨nin (by omega) (by omega), ?_⟩⟩
      · rw [hs, nle (by omega) (by omega)]; omega
      rw [hcl, e5 i hp]
      refine ⟨fun z => absurd z (nn0 (by omega)), fun _ => ⟨fun z => absurd z ?_, fun _ => ⟨fun z => absurd ?_ z, fun _ => ?_⟩⟩⟩
      · rw [hs, nle (by omega) (by omega)]; omega
      · rw [bit_1 _ (by omega), bt_bO (by omega) (by omega), hw]; simp [hr]
      · refine (c_max _ _).to ?_
        refine bX3_callFirst_45 C ⟨nin (by omega) (by omega), nin (by omega) (by omega), hk _ _ ⟨rfl, ?_⟩⟩
        rw [hcr, hd]
        have : (if nI d < nI i then nI i else nI d) = nI (max d i) := by
          by_cases q : d < i
          · rw [if_pos ((nlt (by omega) (by omega)).mpr q), Nat.max_eq_right (by omega)]
          · rw [if_neg (fun z => q ((nlt (by omega) (by omega)).mp z)), Nat.max_eq_left (by omega)]
        rw [this]
    | succ k ih =>
      intro i hi
      have hr := (rwN_lt h (show i < ngV V by omega)).1
      have hcl : (nI i).toNatClampNeg = i := ncl (by omega)
      have := ih (i + 1) (by omega)
      rw [← nI_1] at this
      refine bX3_callFirst_2 C ⟨fun z => absurd z ?_, fun _ => ⟨nin (by omega) (by omega), ?_⟩⟩
      · rw [hs, nle (by omega) (by omega)]; omega
      rw [hcl, e5 i (by omega)]
      refine ⟨fun _ => this, fun _ => ⟨fun _ => this, fun _ => ⟨fun _ => this, fun z => absurd z ?_⟩⟩⟩
      rw [bit_1 _ (by omega), bt_bO (by omega) (by omega), hq i (by omega)]; simp
  exact loop p 0 (by omega)
/-- the best of those that can be named, or the caller -/
def bwS (W : Nat → Bool) (h : Nat → Int32) (c i : Nat) : Nat := match bestP W h i with
  | some j => if h j < h c then j else c
  | none => c
theorem bwS_step {W : Nat → Bool} {h : Nat → Int32} {c i : Nat} : bwS W h c (i + 1) = if W i = true ∧ h i < h (bwS W h c i) then i else bwS W h c i := by
  unfold bwS
  rcases bestP_spec W h i with ⟨e, -⟩ | ⟨j, e, hb⟩
  · by_cases q : W i = true
    · have e2 : bestP W h (i + 1) = some i := by simp [bestP, e, q]
      rw [e, e2]
      simp [q]
    · have e2 : bestP W h (i + 1) = none := by simp [bestP, e, q]
      rw [e, e2]
      simp [q]
  · by_cases q : W i = true ∧ h i < h j
    · have e2 : bestP W h (i + 1) = some i := by simp [bestP, e, q.1, q.2]
      rw [e, e2]
      dsimp only
      by_cases q2 : h j < h c
      · have q3 := i_lt_trans q.2 (i_lt_le q2)
        simp [q2, q.1, q.2, q3]
      · simp [q2, q.1]
    · have e2 : bestP W h (i + 1) = some j := by
        simp only [bestP, e]
        rw [if_neg]
        intro z
        simp only [Bool.and_eq_true, decide_eq_true_eq] at z
        exact q z
      rw [e, e2]
      dsimp only
      by_cases q2 : h j < h c
      · simp only [if_pos q2]
        rw [if_neg q]
      · simp only [if_neg q2]
        rw [if_neg (fun z => q ⟨z.1, i_lt_trans z.2 (i_nlt.mp q2)⟩)]
theorem bwS_le {W : Nat → Bool} {h : Nat → Int32} {c i : Nat} : h (bwS W h c i) ≤ h c := by
  unfold bwS
  split
  · split
    · exact i_lt_le (by assumption)
    · exact i_le_rfl _
  · exact i_le_rfl _
theorem bwS_lt {W : Nat → Bool} {h : Nat → Int32} {c i n : Nat} (hc : c < n) (hi : i ≤ n) : bwS W h c i < n := by
  unfold bwS
  rcases bestP_spec W h i with ⟨e, -⟩ | ⟨j, e, hb⟩
  · rw [e]; exact hc
  · rw [e]
    dsimp only
    split
    · exact Nat.lt_of_lt_of_le hb.1 hi
    · exact hc
theorem whoS_bw {V σ : Mem} {b n c : Nat} : (whoS V σ b n c).1 = bwS (mayS V σ n c) (fun j => hS V j b n) c (ngV V) := by
  unfold whoS bwS nmS
  rcases bestP_spec (mayS V σ n c) (fun j => hS V j b n) (ngV V) with ⟨e, -⟩ | ⟨j, e, hb⟩
  · rw [e]
  · rw [e]
    dsimp only
    split <;> rfl
theorem whoS_nam {V σ : Mem} {b n c : Nat} : (whoS V σ b n c).2 = if (whoS V σ b n c).1 = c then -4 else nI c := by
  unfold whoS nmS
  rcases bestP_spec (mayS V σ n c) (fun j => hS V j b n) (ngV V) with ⟨e, -⟩ | ⟨j, e, hb⟩
  · rw [e]; simp
  · rw [e]
    dsimp only
    split
    · have : j ≠ c := by
        have := hb.2.1
        unfold mayS at this
        simp only [Bool.and_eq_true, decide_eq_true_eq] at this
        exact this.1.1
      simp [this]
    · simp
theorem c_bestOf {V σ : Mem} (e : vC M = V) (h : VOK V) {b n c : Nat} (hc : c < ngV V) (hb : b < nbV V) (hn : n < 30) : WpI mX3_bestOf [.ref 4, .ref 33, .int (nI c), .int (bO (ngV V) (wtS V σ n)), .int (nI n), .int (lenS V b n)] M (gj G2) (TTc ++ T2) (fun r M' => r = nI (whoS V σ b n c).1 ∧ M' = M) := by
  have h7 := h.1.2.2
  have hs : M 37 6 = nI (ngV V) := by rw [← h.1.1, ← e]; rfl
  refine WpI.of rfl rfl nL fun X Q C hk => bX3_bestOf_0 C ?_
  refine (c_namable e h hc).to ?_
  refine bX3_bestOf_5 C ?_
  refine (c_harmAt e h hc (by omega) _).to ?_
  refine bX3_bestOf_24 C ?_
  generalize hN : (if V 9 3 = 2 then ((1 : Int32) <<< (nI c &&& 31)) ^^^ -1 else if V 9 3 = 1 then V 3 c else 0) = N
  have hmay : ∀ j, j < ngV V → j ≠ c → (bt N j && wtS V σ n j) = mayS V σ n c j := by
    intro j hj hjc
    unfold mayS
    rw [← hN]
    have h1 : ¬ (2 : Int32) = 1 := by decide
    by_cases q : V 9 3 = 2
    · rw [if_pos q, b_xor, bt_sh (by omega) (by omega), b_m1 j (by omega)]
      simp [hjc, q]
    · rw [if_neg q]
      by_cases q2 : V 9 3 = 1
      · rw [if_pos q2]
        simp [hjc, q2, Bool.and_comm]
      · rw [if_neg q2, b_0]
        simp [q, q2]
  rw [bO_andx (by omega)]
  have loop : ∀ k i, i + k = ngV V → WW X Q 29 [(0, .ref 4), (1, .ref 33), (2, .int (nI c)), (3, .int (bO (ngV V) (wtS V σ n))), (4, .int (nI n)), (5, .int (lenS V b n)), (6, .int (bO (ngV V) (fun i => bt N i && wtS V σ n i))), (7, .int (nI (bwS (mayS V σ n c) (fun j => hS V j b n) c i))), (8, .int (hS V (bwS (mayS V σ n c) (fun j => hS V j b n) c i) b n)), (9, .int (nI i))] [] (M, gj G2, TTc ++ T2) := by
    intro k
    induction k with
    | zero =>
      intro i hi
      refine bX3_bestOf_29 C ⟨fun _ => hk _ _ ⟨?_, rfl⟩, fun q => absurd ?_ q⟩
      · rw [whoS_bw, ← hi]; rfl
      · rw [hs, nle (by omega) (by omega)]; omega
    | succ k ih =>
      intro i hi
      have hn1 := ih (i + 1) (by omega)
      rw [← nI_1, bwS_step] at hn1
      refine bX3_bestOf_29 C ⟨fun q => absurd q ?_, fun _ => ?_⟩
      · rw [hs, nle (by omega) (by omega)]; omega
      rw [bit_1 _ (by omega), bt_bO (by omega) (by omega)]
      refine ⟨fun q => ?_, fun q => ?_⟩
      · have q2 : ¬ mayS V σ n c i = true := by
          by_cases ic : i = c
          · unfold mayS; simp [ic]
          · rw [← hmay i (by omega) ic]
            intro z
            exact q (by simp [z, show i < ngV V by omega])
        rw [if_neg (fun z => q2 z.1)] at hn1
        exact hn1
      · refine (c_harmAt e h (by omega) (by omega) _).to ?_
        have q2 : (bt N i && wtS V σ n i) = true := by
          simp only [Bool.and_eq_true, decide_eq_true_eq] at q ⊢
          exact q.2
        show WW X Q 64 _ [.int (hS V i b n)] _
        refine bX3_bestOf_64 C ⟨fun z => ?_, fun z => ?_⟩
        · rw [if_neg (fun y => i_nlt.mpr z y.2)] at hn1
          exact hn1
        · have z' := i_nle.mp z
          have ic : i ≠ c := by
            intro ic
            subst ic
            exact absurd (bwS_le (W := mayS V σ n i) (h := fun j => hS V j b n) (c := i) (i := i)) z
          rw [if_pos ⟨by rw [← hmay i (by omega) ic]; exact q2, z'⟩] at hn1
          exact hn1
  exact loop (ngV V) 0 (by omega)
end CN
