/-! frames, guards, readings, the first of the least -/
def sC (c : Nat) : Prop := (4 ≤ c ∧ c ≤ 9) ∨ c = 28 ∨ c = 32
def FC (M M' : Mem) : Prop := ∀ c, ¬ sC c → M' c = M c
def sM (c : Nat) : Prop := (72 ≤ c ∧ c ≤ 76) ∨ c = 78 ∨ c = 79 ∨ c = 81 ∨ c = 82
def FM (M M' : Mem) : Prop := ∀ c, ¬ sM c → M' c = M c
theorem FC.r {M : Mem} : FC M M := fun _ _ => rfl
theorem FM.r {M : Mem} : FM M M := fun _ _ => rfl
theorem FC.t {M M' M'' : Mem} (h : FC M M') (h2 : FC M' M'') : FC M M'' := fun c hc => (h2 c hc).trans (h c hc)
theorem FM.t {M M' M'' : Mem} (h : FM M M') (h2 : FM M' M'') : FM M M'' := fun c hc => (h2 c hc).trans (h c hc)
theorem Fr.fc {M M' : Mem} (h : Fr 4 9 M M') : FC M M' := fun c hc => h c (by unfold sC at hc; omega)
theorem Fr.fm {M M' : Mem} (h : Fr 72 76 M M') : FM M M' := fun c hc => h c (by unfold sM at hc; omega)
theorem vC_fc {M M' : Mem} (h : FC M M') : vC M' = vC M := by
  have e : ∀ c, 33 ≤ c → M' c = M c := fun c hc => h c (by unfold sC; omega)
  unfold vC
  rw [e 37 (by omega), e 38 (by omega), e 39 (by omega), e 40 (by omega), e 41 (by omega), e 42 (by omega), e 43 (by omega), e 34 (by omega), e 35 (by omega), e 36 (by omega), e 33 (by omega), e 44 (by omega)]
theorem vM_fm {op : Int32} {M M' : Mem} (h : FM M M') : vM op M' = vM op M := by
  have e : ∀ c, c < 72 → M' c = M c := fun c hc => h c (by unfold sM; omega)
  unfold vM
  rw [e 57 (by omega), e 58 (by omega), e 59 (by omega), e 60 (by omega), e 61 (by omega), e 62 (by omega), e 63 (by omega), e 64 (by omega)]
theorem upd_upd {f : Nat → Int32} {j : Nat} {x y : Int32} : upd (upd f j x) j y = upd f j y := by
  funext i
  unfold upd
  split <;> rfl
theorem upd_self {f : Nat → Int32} {j : Nat} : upd f j (f j) = f := by
  funext i
  unfold upd
  split
  · rename_i h; rw [h]
  · rfl
theorem wr_self {M : Mem} {c j : Nat} : wr M c j (M c j) = M := by
  funext k
  by_cases e : k = c
  · subst e; rw [wr_eq, upd_self]
  · rw [wr_ne e]
theorem wr_wr {M : Mem} {c j : Nat} {x y : Int32} : wr (wr M c j x) c j y = wr M c j y := by
  funext k
  by_cases e : k = c
  · subst e; rw [wr_eq, wr_eq, wr_eq, upd_upd]
  · rw [wr_ne e, wr_ne e, wr_ne e]
theorem fr_rw {a b c j : Nat} {M M' : Mem} {x y : Int32} (h : Fr a b (wr M c j x) M') : Fr a b (wr M c j y) (wr M' c j y) := fun k hk => by
  have := h k hk
  by_cases e : k = c
  · subst e
    rw [wr_eq, wr_eq, this, wr_eq, upd_upd]
  · rw [wr_ne e, wr_ne e, this, wr_ne e]
/-! guards -/
def gd (n : Nat) (x : Int32) (f : Nat → Int32) : Int32 := if x < 0 then -1 else if nI n ≤ x then -1 else f x.toNatClampNeg
theorem gd_lo {n : Nat} {x : Int32} {f : Nat → Int32} (h : x < 0) : -1 = gd n x f := by unfold gd; rw [if_pos h]
theorem gd_hi {n : Nat} {x : Int32} {f : Nat → Int32} (h : nI n ≤ x) : -1 = gd n x f := by unfold gd; rw [if_pos h]; split <;> rfl
theorem gd_in {n i : Nat} {f : Nat → Int32} (h : i < n) (hn : n < 1000000) : gd n (nI i) f = f i := by
  unfold gd
  rw [if_neg (nn0 (by omega)), if_neg (by rw [nle (by omega) (by omega)]; omega), ncl (by omega)]
theorem g_c {n : Nat} {x c : Int32} (hn : n < 1000000) (hc : c = nI n) {A B C : Prop} (lo : x < 0 → A) (hi : nI n ≤ x → B) (h : ∀ i, i < n → x = nI i → C) : (x < 0 → A) ∧ (¬ x < 0 → ((c ≤ x → B) ∧ (¬ c ≤ x → C))) := by
  subst hc
  refine ⟨lo, fun q => ⟨hi, fun q2 => ?_⟩⟩
  obtain ⟨i, h1, h2⟩ := ix_of hn q q2
  exact h i h1 h2
theorem g_m {n : Nat} {x c : Int32} (h1 : 1 ≤ n) (hn : n < 1000000) (hc : c = nI n - 1) {A B C : Prop} (lo : x < 0 → A) (hi : nI n ≤ x → B) (h : ∀ i, i < n → x = nI i → C) : (x < 0 → A) ∧ (¬ x < 0 → ((c < x → B) ∧ (¬ c < x → C))) := by
  subst hc
  refine ⟨lo, fun q => ⟨fun q2 => hi ?_, fun q2 => ?_⟩⟩
  · obtain ⟨k, rfl⟩ : ∃ k, n = k + 1 := ⟨n - 1, by omega⟩
    rw [nI_p1, fa_lt, nti (by omega)] at q2
    rw [fa_le, nti (by omega)]
    omega
  · obtain ⟨i, h1, h2⟩ := ix_of' hn q q2
    exact h i h1 h2
/-! readings of a sound inn -/
def VB (V : Mem) : Prop := VOK V ∧ opV V = nbV V ∧ V 9 4 = 0 ∧ V 9 5 = -1 ∧ ∀ i, i < ngV V → rgI (V 1 i) 0 9
section RD
variable {M V : Mem} {op : Int32}
theorem rc_g (e : vC M = V) (h : VOK V) : M 37 6 = nI (ngV V) := by rw [← h.1.1, ← e]; rfl
theorem rc_b (e : vC M = V) (h : VOK V) : M 34 2 = nI (nbV V) := by rw [← h.2.1.1, ← e]; rfl
theorem rc_r (e : vC M = V) (h : VOK V) : M 33 3 = nI (nrV V) := by rw [← h.2.2.2.1.1, ← e]; rfl
theorem rc_0 (e : vC M = V) {i : Nat} (hi : i < ngV V) : M 38 i = V 0 i := by rw [← e]; exact (nrm_in (by rw [← e] at hi; exact hi)).symm
theorem rc_1 (e : vC M = V) {i : Nat} (hi : i < ngV V) : M 39 i = V 1 i := by rw [← e]; exact (nrm_in (by rw [← e] at hi; exact hi)).symm
theorem rc_2 (e : vC M = V) {i : Nat} (hi : i < ngV V) : M 40 i = V 2 i := by rw [← e]; exact (nrm_in (by rw [← e] at hi; exact hi)).symm
theorem rc_3 (e : vC M = V) {i : Nat} (hi : i < ngV V) : M 41 i = V 3 i := by rw [← e]; exact (nrm_in (by rw [← e] at hi; exact hi)).symm
theorem rc_4 (e : vC M = V) {i : Nat} (hi : i < ngV V) : M 42 i = V 4 i := by rw [← e]; exact (nrm_in (by rw [← e] at hi; exact hi)).symm
theorem rc_5 (e : vC M = V) {i : Nat} (hi : i < ngV V) : M 43 i = V 5 i := by rw [← e]; exact (nrm_in (by rw [← e] at hi; exact hi)).symm
theorem rc_6 (e : vC M = V) {i : Nat} (hi : i < nbV V) : M 35 i = V 6 i := by rw [← e]; exact (nrm_in (by rw [← e] at hi; exact hi)).symm
theorem rc_8 (e : vC M = V) {i : Nat} (hi : i < nrV V) : M 44 i = V 8 i := by rw [← e]; exact (nrm_in (by rw [← e] at hi; exact hi)).symm
theorem rm_g (e : vM op M = V) (h : VOK V) : M 57 7 = nI (ngV V) := by rw [← h.1.1, ← e]; rfl
theorem rm_b (e : vM op M = V) (h : VOK V) : M 57 1 = nI (nbV V) := by rw [← h.2.1.1, ← e]; rfl
theorem rm_r (e : vM op M = V) (h : VOK V) : M 57 9 = nI (nrV V) := by rw [← h.2.2.2.1.1, ← e]; rfl
theorem rm_0 (e : vM op M = V) {i : Nat} (hi : i < ngV V) : M 60 i = V 0 i := by rw [← e]; exact (nrm_in (by rw [← e] at hi; exact hi)).symm
theorem rm_1 (e : vM op M = V) {i : Nat} (hi : i < ngV V) : M 64 (14 + i) = V 1 i := by rw [← e]; exact (nrm_in (f := fun i => M 64 (14 + i)) (by rw [← e] at hi; exact hi)).symm
theorem rm_2 (e : vM op M = V) {i : Nat} (hi : i < ngV V) : M 61 i = V 2 i := by rw [← e]; exact (nrm_in (by rw [← e] at hi; exact hi)).symm
theorem rm_3 (e : vM op M = V) {i : Nat} (hi : i < ngV V) : M 62 i = V 3 i := by rw [← e]; exact (nrm_in (by rw [← e] at hi; exact hi)).symm
theorem rm_4 (e : vM op M = V) {i : Nat} (hi : i < ngV V) : M 64 (7 + i) = V 4 i := by rw [← e]; exact (nrm_in (f := fun i => M 64 (7 + i)) (by rw [← e] at hi; exact hi)).symm
theorem rm_5 (e : vM op M = V) {i : Nat} (hi : i < ngV V) : M 64 i = V 5 i := by rw [← e]; exact (nrm_in (by rw [← e] at hi; exact hi)).symm
theorem rm_6 (e : vM op M = V) {i : Nat} (hi : i < nbV V) : M 58 i = V 6 i := by rw [← e]; exact (nrm_in (by rw [← e] at hi; exact hi)).symm
theorem rm_8 (e : vM op M = V) {i : Nat} (hi : i < nrV V) : M 63 i = V 8 i := by rw [← e]; exact (nrm_in (by rw [← e] at hi; exact hi)).symm
theorem vM_nb (e : vM (M 57 1) M = V) (h : VOK V) : vM (nI (nbV V)) M = V := by rw [← rm_b e h]; exact e
end RD
/-! one number changed -/
section WV
variable {M : Mem} {op x : Int32} {j : Nat}
theorem vC_law : vC (wr M 33 4 x) = wr (vC M) 9 3 x := by
  funext c k
  by_cases e : c = 9
  · subst e
    rw [wr_eq]
    unfold upd
    rcases k with _ | _ | _ | _ | _ | _ | _ | k <;> rfl
  · rw [wr_ne e]
    rcases c with _ | _ | _ | _ | _ | _ | _ | _ | _ | _ | c <;> first | rfl | exact absurd rfl e
theorem vC_open : vC (wr M 34 4 x) = wr (vC M) 9 6 x := by
  funext c k
  by_cases e : c = 9
  · subst e
    rw [wr_eq]
    unfold upd
    rcases k with _ | _ | _ | _ | _ | _ | _ | k <;> rfl
  · rw [wr_ne e]
    rcases c with _ | _ | _ | _ | _ | _ | _ | _ | _ | _ | c <;> first | rfl | exact absurd rfl e
theorem vC_turn : vC (wr M 34 5 x) = wr (vC M) 9 4 x := by
  funext c k
  by_cases e : c = 9
  · subst e
    rw [wr_eq]
    unfold upd
    rcases k with _ | _ | _ | _ | _ | _ | _ | k <;> rfl
  · rw [wr_ne e]
    rcases c with _ | _ | _ | _ | _ | _ | _ | _ | _ | _ | c <;> first | rfl | exact absurd rfl e
theorem vC_year : vC (wr M 34 6 x) = wr (vC M) 9 5 x := by
  funext c k
  by_cases e : c = 9
  · subst e
    rw [wr_eq]
    unfold upd
    rcases k with _ | _ | _ | _ | _ | _ | _ | k <;> rfl
  · rw [wr_ne e]
    rcases c with _ | _ | _ | _ | _ | _ | _ | _ | _ | _ | c <;> first | rfl | exact absurd rfl e
theorem vM_law : vM op (wr M 57 10 x) = wr (vM op M) 9 3 x := by
  funext c k
  by_cases e : c = 9
  · subst e
    rw [wr_eq]
    unfold upd
    rcases k with _ | _ | _ | _ | _ | _ | _ | k <;> rfl
  · rw [wr_ne e]
    rcases c with _ | _ | _ | _ | _ | _ | _ | _ | _ | _ | c <;> first | rfl | exact absurd rfl e
theorem vM_turn : vM op (wr M 57 27 x) = wr (vM op M) 9 4 x := by
  funext c k
  by_cases e : c = 9
  · subst e
    rw [wr_eq]
    unfold upd
    rcases k with _ | _ | _ | _ | _ | _ | _ | k <;> rfl
  · rw [wr_ne e]
    rcases c with _ | _ | _ | _ | _ | _ | _ | _ | _ | _ | c <;> first | rfl | exact absurd rfl e
theorem vM_year : vM op (wr M 57 28 x) = wr (vM op M) 9 5 x := by
  funext c k
  by_cases e : c = 9
  · subst e
    rw [wr_eq]
    unfold upd
    rcases k with _ | _ | _ | _ | _ | _ | _ | k <;> rfl
  · rw [wr_ne e]
    rcases c with _ | _ | _ | _ | _ | _ | _ | _ | _ | _ | c <;> first | rfl | exact absurd rfl e
theorem vM_open {y : Int32} : vM y M = wr (vM op M) 9 6 y := by
  funext c k
  by_cases e : c = 9
  · subst e
    rw [wr_eq]
    unfold upd
    rcases k with _ | _ | _ | _ | _ | _ | _ | k <;> rfl
  · rw [wr_ne e]
    rcases c with _ | _ | _ | _ | _ | _ | _ | _ | _ | _ | c <;> first | rfl | exact absurd rfl e
theorem wr_of {A B : Mem} {c j : Nat} {x : Int32} (h1 : A c = upd (B c) j x) (h2 : ∀ k, k ≠ c → A k = B k) : A = wr B c j x := by
  funext k
  by_cases e : k = c
  · subst e; rw [wr_eq, h1]
  · rw [wr_ne e, h2 k e]
theorem vC_len (hj : j < (M 34 2).toNatClampNeg) : vC (wr M 35 j x) = wr (vC M) 6 j x := by
  refine wr_of (nrm_upd hj) (fun c e => ?_)
  rcases c with _ | _ | _ | _ | _ | _ | _ | _ | _ | _ | c <;> first | rfl | exact absurd rfl e
theorem vC_worn (hj : j < (M 37 6).toNatClampNeg) : vC (wr M 42 j x) = wr (vC M) 4 j x := by
  refine wr_of (nrm_upd hj) (fun c e => ?_)
  rcases c with _ | _ | _ | _ | _ | _ | _ | _ | _ | _ | c <;> first | rfl | exact absurd rfl e
theorem vC_come (hj : j < (M 37 6).toNatClampNeg) : vC (wr M 39 j x) = wr (vC M) 1 j x := by
  refine wr_of (nrm_upd hj) (fun c e => ?_)
  rcases c with _ | _ | _ | _ | _ | _ | _ | _ | _ | _ | c <;> first | rfl | exact absurd rfl e
theorem vC_row (hj : j < (M 37 6).toNatClampNeg) : vC (wr M 43 j x) = wr (vC M) 5 j x := by
  refine wr_of (nrm_upd hj) (fun c e => ?_)
  rcases c with _ | _ | _ | _ | _ | _ | _ | _ | _ | _ | c <;> first | rfl | exact absurd rfl e
theorem vM_len (hj : j < (M 57 1).toNatClampNeg) : vM op (wr M 58 j x) = wr (vM op M) 6 j x := by
  refine wr_of (nrm_upd hj) (fun c e => ?_)
  rcases c with _ | _ | _ | _ | _ | _ | _ | _ | _ | _ | c <;> first | rfl | exact absurd rfl e
theorem nrm_far {n a b : Nat} {f : Nat → Int32} (h : ∀ i, i < n → a + i ≠ b) : nrm n (fun i => upd f b x (a + i)) = nrm n (fun i => f (a + i)) := nrm_cong (fun i hi => by unfold upd; rw [if_neg (h i hi)])
theorem nrm_near {n a j : Nat} {f : Nat → Int32} (hj : j < n) : nrm n (fun i => upd f (a + j) x (a + i)) = upd (nrm n (fun i => f (a + i))) j x := by
  rw [← nrm_upd hj]
  refine nrm_cong (fun i hi => ?_)
  unfold upd
  by_cases e : i = j
  · subst e; simp
  · rw [if_neg (by omega), if_neg e]
theorem vM_worn (hj : j < (M 57 7).toNatClampNeg) (h7 : (M 57 7).toNatClampNeg ≤ 7) : vM op (wr M 64 (7 + j) x) = wr (vM op M) 4 j x := by
  refine wr_of (nrm_near hj) (fun c e => ?_)
  rcases c with _ | _ | _ | _ | _ | _ | _ | _ | _ | _ | c <;> first | rfl | exact absurd rfl e | skip
  · exact nrm_far (a := 14) (fun i hi => by have hi' : i < (M 57 7).toNatClampNeg := hi; omega)
  · exact nrm_cong (fun i hi => by have hi' : i < (M 57 7).toNatClampNeg := hi; show upd (M 64) (7 + j) x i = _; unfold upd; rw [if_neg (by omega)])
theorem vM_come (hj : j < (M 57 7).toNatClampNeg) (h7 : (M 57 7).toNatClampNeg ≤ 7) : vM op (wr M 64 (14 + j) x) = wr (vM op M) 1 j x := by
  refine wr_of (nrm_near hj) (fun c e => ?_)
  rcases c with _ | _ | _ | _ | _ | _ | _ | _ | _ | _ | c <;> first | rfl | exact absurd rfl e | skip
  · exact nrm_far (a := 7) (fun i hi => by have hi' : i < (M 57 7).toNatClampNeg := hi; omega)
  · exact nrm_cong (fun i hi => by have hi' : i < (M 57 7).toNatClampNeg := hi; show upd (M 64) (14 + j) x i = _; unfold upd; rw [if_neg (by omega)])
theorem vM_row (hj : j < (M 57 7).toNatClampNeg) (h7 : (M 57 7).toNatClampNeg ≤ 7) : vM op (wr M 64 j x) = wr (vM op M) 5 j x := by
  refine wr_of (nrm_upd hj) (fun c e => ?_)
  rcases c with _ | _ | _ | _ | _ | _ | _ | _ | _ | _ | c <;> first | rfl | exact absurd rfl e | skip
  · exact nrm_far (a := 14) (fun i hi => by have hi' : i < (M 57 7).toNatClampNeg := hi; omega)
  · exact nrm_far (a := 7) (fun i hi => by have hi' : i < (M 57 7).toNatClampNeg := hi; omega)
end WV
/-! the first of the least -/
def bst (f : Nat → Int32) (n : Nat) : Nat := (bestP (fun _ => true) f n).getD 0
def IsB (f : Nat → Int32) (n j : Nat) : Prop := IsBest (fun _ => true) f n j
theorem bst_eq {f : Nat → Int32} {n j : Nat} (h : IsB f n j) : bst f n = j := by
  have : bestP (fun _ => true) f n = some j := bestP_eq h
  unfold bst
  rw [this]
  rfl
theorem bst_lt {f : Nat → Int32} {n : Nat} (h : 0 < n) : bst f n < n ∧ IsB f n (bst f n) := by
  rcases bestP_spec (fun _ => true) f n with ⟨-, h2⟩ | ⟨j, h1, h2⟩
  · exact absurd (h2 0 h) (by simp)
  · rw [bst_eq h2]
    exact ⟨h2.1, h2⟩
theorem IsB.z {f : Nat → Int32} : IsB f 1 0 := ⟨by omega, rfl, fun k hk _ => by rw [show k = 0 by omega]; exact i_le_rfl _, fun k hk _ => absurd hk (by omega)⟩
theorem IsB.a {f : Nat → Int32} {k j : Nat} (h : IsB f k j) (h2 : f j ≤ f k) : IsB f (k + 1) j := by
  refine ⟨Nat.lt_succ_of_lt h.1, rfl, fun i hi _ => ?_, h.2.2.2⟩
  by_cases e : i = k
  · rw [e]; exact h2
  · exact h.2.2.1 i (by omega) rfl
theorem IsB.b {f : Nat → Int32} {k j : Nat} (h : IsB f k j) (h2 : f k < f j) : IsB f (k + 1) k := by
  refine ⟨by omega, rfl, fun i hi _ => ?_, fun i hi _ => ?_⟩
  · by_cases e : i = k
    · rw [e]; exact i_le_rfl _
    · exact i_lt_le (i_lt_trans h2 (h.2.2.1 i (by omega) rfl))
  · exact i_lt_trans h2 (h.2.2.1 i (by omega) rfl)
/-- the class's search: the least so far, and the first that has it -/
def AC (f : Nat → Int32) (k : Nat) (l : Int32) (b : Nat) : Prop := (k = 0 ∧ l = 1000000) ∨ (IsB f k b ∧ l = f b)
theorem AC.z {f : Nat → Int32} {b : Nat} : AC f 0 1000000 b := Or.inl ⟨rfl, rfl⟩
theorem AC.keep {f : Nat → Int32} {k b : Nat} {l r : Int32} (h : AC f k l b) (hf : rgI (f k) 0 100000) (hr : r = f k ∨ (l ≤ r ∧ l ≤ f k)) (q : l ≤ r) : AC f (k + 1) l b := by
  have hl : l ≤ f k := by
    rcases hr with e | e
    · rw [← e]; exact q
    · exact e.2
  rcases h with ⟨-, e⟩ | ⟨h1, h2⟩
  · rw [e, fa_le] at hl
    have e9 : (1000000 : Int32).toInt = 1000000 := by decide
    unfold rgI at hf
    omega
  · exact Or.inr ⟨h1.a (h2 ▸ hl), h2⟩
theorem AC.new {f : Nat → Int32} {k b : Nat} {l r : Int32} (h : AC f k l b) (hr : r = f k ∨ (l ≤ r ∧ l ≤ f k)) (q : ¬ l ≤ r) : AC f (k + 1) r k := by
  have hl : r = f k := by
    rcases hr with e | e
    · exact e
    · exact absurd e.1 q
  subst hl
  rcases h with ⟨e, -⟩ | ⟨h1, h2⟩
  · subst e
    exact Or.inr ⟨IsB.z, rfl⟩
  · exact Or.inr ⟨h1.b (h2 ▸ i_nle.mp q), rfl⟩
theorem AC.fin {f : Nat → Int32} {k b : Nat} {l : Int32} (h : AC f k l b) (hk : 0 < k) : b = bst f k ∧ l = f (bst f k) := by
  rcases h with ⟨e, -⟩ | ⟨h1, h2⟩
  · omega
  · rw [bst_eq h1]; exact ⟨rfl, h2⟩
def AM (f : Nat → Int32) (k : Nat) (l : Int32) (b : Nat) : Prop := (k = 0 ∧ l = -1) ∨ (IsB f k b ∧ l = f b ∧ 0 ≤ l)
theorem AM.z {f : Nat → Int32} {b : Nat} : AM f 0 (-1) b := Or.inl ⟨rfl, rfl⟩
theorem rg_0 {x : Int32} {c : Int} (h : rgI x 0 c) : 0 ≤ x := by rw [fa_le]; exact h.1
theorem AM.one {f : Nat → Int32} {k b : Nat} {l : Int32} (h : AM f k l b) (hf : rgI (f k) 0 100000) (q : l < 0) : AM f (k + 1) (f k) k := by
  rcases h with ⟨e, -⟩ | ⟨-, -, h2⟩
  · subst e
    exact Or.inr ⟨IsB.z, rfl, rg_0 hf⟩
  · exact absurd q (i_nlt.mpr h2)
theorem AM.keep {f : Nat → Int32} {k b : Nat} {l : Int32} (h : AM f k l b) (q0 : ¬ l < 0) (q : l ≤ f k) : AM f (k + 1) l b ∧ b < k := by
  rcases h with ⟨-, e⟩ | ⟨h1, h2, h3⟩
  · rw [e] at q0
    exact absurd (by decide) q0
  · exact ⟨Or.inr ⟨h1.a (h2 ▸ q), h2, h3⟩, h1.1⟩
theorem AM.new {f : Nat → Int32} {k b : Nat} {l : Int32} (h : AM f k l b) (hf : rgI (f k) 0 100000) (q0 : ¬ l < 0) (q : ¬ l ≤ f k) : AM f (k + 1) (f k) k := by
  rcases h with ⟨-, e⟩ | ⟨h1, h2, h3⟩
  · rw [e] at q0
    exact absurd (by decide) q0
  · exact Or.inr ⟨h1.b (h2 ▸ i_nle.mp q), rfl, rg_0 hf⟩
theorem AM.fin {f : Nat → Int32} {k b : Nat} {l : Int32} (h : AM f k l b) (hk : 0 < k) : b = bst f k ∧ l = f (bst f k) := by
  rcases h with ⟨e, -⟩ | ⟨h1, h2, -⟩
  · omega
  · rw [bst_eq h1]; exact ⟨rfl, h2⟩
theorem all_rg {V : Mem} (h : VOK V) : rgI (allS V) 0 100000 := by
  have := allS_rg h
  unfold rgI at *
  omega
