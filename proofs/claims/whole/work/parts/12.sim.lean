/-! ranges of harm; what stays so night by night -/
theorem lrem_eq_mod (x y : Int64) : x - (x / y) * y = x % y := by
  apply Int64.toInt_inj.mp
  have h1 := Int64.le_toInt (x % y)
  have h2 := Int64.toInt_lt (x % y)
  rw [Int64.toInt_sub, Int64.toInt_mul, Int64.toInt_div, Int.bmod_mul_bmod, Int.sub_bmod_bmod, Int.mul_comm (x.toInt.tdiv y.toInt), ← Int.tmod_def, ← Int64.toInt_mod]
  exact Int.bmod_eq_of_le_mul_two (by omega) (by omega)
theorem lrem_rg (x : Int64) : -6 ≤ (x - x / 7 * 7).toInt ∧ (x - x / 7 * 7).toInt ≤ 6 := by
  rw [lrem_eq_mod, Int64.toInt_mod]
  have h7 : (7 : Int64).toInt = 7 := by decide
  rw [h7]
  have h4 : -7 < x.toInt.tmod 7 ∧ x.toInt.tmod 7 < 7 := ⟨Int.lt_tmod_of_pos _ (by omega), Int.tmod_lt_of_pos _ (by omega)⟩
  omega
theorem drw_rg (y n b : Int32) : rgI (drw y n b) (-6) 6 := by
  unfold drw rgI
  dsimp only
  generalize (_ : Int64) - _ * 65521 = r
  have h := lrem_rg r
  rw [Int64.toInt_toInt32, fb_bmod (by omega) (by omega)]
  exact h
theorem l3 : (3 : Int32).toInt = 3 := by decide
theorem lenS_rg {V : Mem} (h : VOK V) {b n : Nat} (hb : b < nbV V) (hn : n < 30) : rgI (lenS V b n) 31 138 := by
  obtain ⟨-, ⟨-, h1, h4⟩, -, -, -, -, hl, hf, -⟩ := h
  have hly : lyS V b n < nbV V := by unfold lyS; split <;> (try split) <;> omega
  have a := hl _ hly
  have f := hf n hn
  have d := drw_rg (V 9 5) (nI n) (nI b)
  unfold lenS
  unfold rgI at *
  split
  · rw [fb_addI (by omega) (by omega)]; omega
  · have e1 : (drw (V 9 5) (nI n) (nI b) - 3).toInt = (drw (V 9 5) (nI n) (nI b)).toInt - 3 := by rw [fb_subI (by rw [l3]; omega) (by rw [l3]; omega), l3]
    have e2 : (V 6 (lyS V b n) + V 7 n).toInt = (V 6 (lyS V b n)).toInt + (V 7 n).toInt := fb_addI (by omega) (by omega)
    rw [fb_addI (by omega) (by omega)]
    omega
theorem grS_rg {V : Mem} (h : VOK V) {i n : Nat} (hi : i < ngV V) (hn : n < 30) : rgI (grS V i n) 0 29 := by
  obtain ⟨-, -, -, -, hg, -⟩ := h
  obtain ⟨-, hc, -⟩ := hg i hi
  unfold grS
  unfold rgI at *
  have e0 : (0 : Int32).toInt = 0 := by decide
  have en : (nI n).toInt = n := nti (by omega)
  split
  · rename_i q
    have q2 := (fa_lt _ _).mp q.2
    rw [fb_subI (by omega) (by omega)]
    omega
  · rw [e0]; omega
theorem hK_rg {k o : Int32} (h1 : -107 ≤ o.toInt) (h2 : o.toInt ≤ 106) : rgI (hK k o) 0 214 := by
  have e0 : (0 : Int32).toInt = 0 := by decide
  have e2 : (2 : Int32).toInt = 2 := by decide
  have e6 : (6 : Int32).toInt = 6 := by decide
  have en : (-o).toInt = -o.toInt := fb_negI (by omega)
  have ea : (if o < 0 then -o else o).toInt = if o.toInt < 0 then -o.toInt else o.toInt := by
    by_cases q : o < 0
    · rw [if_pos q, if_pos (by rw [fa_lt] at q; omega), en]
    · rw [if_neg q, if_neg (by rw [fa_lt] at q; omega)]
  unfold hK rgI
  generalize (if o < 0 then -o else o) = a at ea ⊢
  have ha : 0 ≤ a.toInt ∧ a.toInt ≤ 107 := by rw [ea]; split <;> omega
  split
  · rename_i q
    have q2 := (fa_lt _ _).mp q.2
    split
    · rename_i q3
      have q3 := (fa_lt _ _).mp q3
      rw [fb_subI (by omega) (by omega)]; omega
    · omega
  · split
    · rename_i q
      have q2 := (fa_lt _ _).mp q.2
      rw [fb_mulI (by rw [e2, en]; omega) (by rw [e2, en]; omega), e2, en]; omega
    · split
      · split
        · rename_i q3
          have q3 := (fa_lt _ _).mp q3
          rw [fb_subI (by omega) (by omega)]; omega
        · omega
      · omega
theorem hS_rg {V : Mem} (h : VOK V) {i b n : Nat} (hi : i < ngV V) (hb : b < nbV V) (hn : n < 30) : rgI (hS V i b n) 0 214 := by
  have a := lenS_rg h hb hn
  have g := grS_rg h hi hn
  obtain ⟨-, -, -, -, hg, -⟩ := h
  obtain ⟨h1, -, -, h4, -⟩ := hg i hi
  unfold rgI at a g h1 h4
  have e1 : (V 0 i + V 4 i).toInt = (V 0 i).toInt + (V 4 i).toInt := fb_addI (by omega) (by omega)
  have e2 : (V 0 i + V 4 i + grS V i n).toInt = (V 0 i + V 4 i).toInt + (grS V i n).toInt := fb_addI (by omega) (by omega)
  have e3 : (V 0 i + V 4 i + grS V i n - lenS V b n).toInt = (V 0 i + V 4 i + grS V i n).toInt - (lenS V b n).toInt := fb_subI (by omega) (by omega)
  exact hK_rg (by omega) (by omega)
/-! what holds of the nights -/
def SI (V σ : Mem) : Prop := ∀ i, i < ngV V → (σ 0 i = -4 ∧ σ 2 i = 50) ∨ (∃ m, m < 30 ∧ σ 0 i = nI m ∧ rgI (σ 2 i) 0 214)
theorem m4 : (-4 : Int32) < 0 ∧ ¬ (0 : Int32) ≤ -4 := by decide
theorem SI.lies {V σ : Mem} (h : SI V σ) {i : Nat} (hi : i < ngV V) (hl : 0 ≤ σ 0 i) : ∃ m, m < 30 ∧ σ 0 i = nI m ∧ rgI (σ 2 i) 0 214 := by
  rcases h i hi with ⟨e, -⟩ | q
  · rw [e] at hl; exact absurd hl m4.2
  · exact q
theorem SI.not {V σ : Mem} (h : SI V σ) {i : Nat} (hi : i < ngV V) (hl : ¬ 0 ≤ σ 0 i) : σ 0 i = -4 ∧ σ 2 i = 50 := by
  rcases h i hi with q | ⟨m, h1, h2, -⟩
  · exact q
  · rw [h2] at hl; exact absurd (nI_pos' (by omega)) hl
theorem rwN_lt {V : Mem} (h : VOK V) {p : Nat} (hp : p < ngV V) : rwN V p < ngV V ∧ V 5 p = nI (rwN V p) := by
  obtain ⟨⟨-, -, h7⟩, -, -, -, hg, -⟩ := h
  obtain ⟨k, hk, e⟩ := (hg p hp).2.2.2.2
  have : rwN V p = k := by unfold rwN; rw [e]; exact ncl (by omega)
  rw [this]
  exact ⟨hk, e⟩
theorem clS_spec {V σ : Mem} {n : Nat} (h : VOK V) : (clS V σ n = none ∧ ∀ p, p < ngV V → wtS V σ n (rwN V p) = false) ∨ ∃ p, clS V σ n = some p ∧ p < ngV V ∧ rwN V p < ngV V ∧ wtS V σ n (rwN V p) = true ∧ ∀ q, q < p → wtS V σ n (rwN V q) = false := by
  rcases fstP_spec (fun p => wtS V σ n (rwN V p)) (ngV V) with q | ⟨p, h1, h2, h3, h4⟩
  · exact Or.inl q
  · exact Or.inr ⟨p, h1, h2, (rwN_lt h h2).1, h3, h4⟩
theorem whoS_spec {V σ : Mem} {b n c : Nat} (hc : c < ngV V) (hw : wtS V σ n c = true) : (whoS V σ b n c).1 < ngV V ∧ wtS V σ n (whoS V σ b n c).1 = true := by
  unfold whoS
  rcases bestP_spec (mayS V σ n c) (fun j => hS V j b n) (ngV V) with ⟨e, -⟩ | ⟨j, e, h1, h2, -⟩
  · unfold nmS; rw [e]; exact ⟨hc, hw⟩
  · unfold nmS; rw [e]
    dsimp only
    split
    · refine ⟨h1, ?_⟩
      unfold mayS at h2
      simp only [Bool.and_eq_true] at h2
      exact h2.1.2
    · exact ⟨hc, hw⟩
theorem lieS_0 {V σ : Mem} {i b n : Nat} {nam : Int32} (j : Nat) : lieS V σ i b n nam 0 j = if j = i then nI n else σ 0 j := by simp [lieS, wr, upd]
theorem lieS_1 {V σ : Mem} {i b n : Nat} {nam : Int32} (j : Nat) : lieS V σ i b n nam 1 j = if j = i then nI b else σ 1 j := by simp [lieS, wr, upd]
theorem lieS_2 {V σ : Mem} {i b n : Nat} {nam : Int32} (j : Nat) : lieS V σ i b n nam 2 j = if j = i then hS V i b n else σ 2 j := by simp [lieS, wr, upd]
theorem lieS_3 {V σ : Mem} {i b n : Nat} {nam : Int32} (j : Nat) : lieS V σ i b n nam 3 j = if j = i then nam else σ 3 j := by simp [lieS, wr, upd]
theorem lieS_4 {V σ : Mem} {i b n : Nat} {nam : Int32} (j : Nat) : lieS V σ i b n nam 4 j = σ 4 j := by simp [lieS, wr]
theorem giveS_none {V : Mem} {s : Mem × Nat} {b n : Nat} (h : clS V s.1 n = none) : giveS V s b n = s := by unfold giveS; rw [h]
theorem giveS_some {V : Mem} {s : Mem × Nat} {b n p : Nat} (h : clS V s.1 n = some p) : giveS V s b n = (lieS V (wr s.1 4 (rwN V p) (s.1 4 (rwN V p) + 1)) (whoS V s.1 b n (rwN V p)).1 b n (whoS V s.1 b n (rwN V p)).2, max s.2 p) := by unfold giveS; rw [h]
theorem SI.give {V : Mem} {s : Mem × Nat} {b n : Nat} (h : VOK V) (hs : SI V s.1) (hb : b < nbV V) (hn : n < 30) : SI V (giveS V s b n).1 := by
  rcases clS_spec (σ := s.1) (n := n) h with ⟨e, -⟩ | ⟨p, e, hp, hr, hw, -⟩
  · rw [giveS_none e]; exact hs
  · rw [giveS_some e]
    intro i hi
    dsimp only
    rw [lieS_0, lieS_2]
    by_cases q : i = (whoS V s.1 b n (rwN V p)).1
    · rw [if_pos q, if_pos q]
      exact Or.inr ⟨n, hn, rfl, hS_rg h (whoS_spec hr hw).1 hb hn⟩
    · rw [if_neg q, if_neg q]
      exact hs i hi
theorem SI.beds {V : Mem} {n : Nat} (h : VOK V) (hn : n < 30) : ∀ {k : Nat} {s : Mem × Nat}, k ≤ nbV V → SI V s.1 → SI V (bedS V n k s).1
  | 0, _, _, hs => hs
  | k + 1, _, hk, hs => SI.give h (SI.beds h hn (Nat.le_of_succ_le hk) hs) hk hn
theorem SI.sim {V : Mem} (h : VOK V) : ∀ {n : Nat}, n ≤ 30 → SI V (simN V n).1
  | 0, _ => fun i _ => Or.inl ⟨rfl, rfl⟩
  | n + 1, hn => SI.beds h (by omega) h.2.2.1.2 (SI.sim h (by omega))
theorem dp_give {V : Mem} {s : Mem × Nat} {b n : Nat} (h : VOK V) (hs : s.2 < ngV V) : (giveS V s b n).2 < ngV V ∧ s.2 ≤ (giveS V s b n).2 := by
  rcases clS_spec (σ := s.1) (n := n) h with ⟨e, -⟩ | ⟨p, e, hp, hr, hw, -⟩
  · rw [giveS_none e]; exact ⟨hs, Nat.le_refl _⟩
  · rw [giveS_some e]
    show max s.2 p < ngV V ∧ s.2 ≤ max s.2 p
    omega
theorem dp_beds {V : Mem} {n : Nat} (h : VOK V) : ∀ {k : Nat} {s : Mem × Nat}, s.2 < ngV V → (bedS V n k s).2 < ngV V ∧ s.2 ≤ (bedS V n k s).2
  | 0, _, hs => ⟨hs, Nat.le_refl _⟩
  | k + 1, s, hs => by
    have ih := dp_beds h (n := n) (k := k) hs
    have := dp_give h (s := bedS V n k s) (b := k) (n := n) ih.1
    exact ⟨this.1, Nat.le_trans ih.2 this.2⟩
theorem dp_sim {V : Mem} (h : VOK V) : ∀ n, (simN V n).2 < ngV V
  | 0 => h.1.2.1
  | n + 1 => (dp_beds h (dp_sim h n)).1
/-- once all lie, nothing changes -/
theorem give_done {V : Mem} {s : Mem × Nat} {b n : Nat} (h : VOK V) (ha : ∀ i, i < ngV V → 0 ≤ s.1 0 i) : giveS V s b n = s := by
  apply giveS_none
  apply fstP_no
  intro p hp
  have := ha _ (rwN_lt h hp).1
  unfold wtS
  rw [decide_eq_false (by rw [fa_le] at this; rw [fa_lt]; omega)]
  rfl
theorem beds_done {V : Mem} {n : Nat} (h : VOK V) : ∀ {k : Nat} {s : Mem × Nat}, (∀ i, i < ngV V → 0 ≤ s.1 0 i) → bedS V n k s = s
  | 0, _, _ => rfl
  | k + 1, s, ha => by
    show giveS V (bedS V n k s) k n = s
    rw [beds_done h ha, give_done h ha]
theorem sim_done {V : Mem} (h : VOK V) {n : Nat} (ha : ∀ i, i < ngV V → 0 ≤ (simN V n).1 0 i) : ∀ m, simN V (n + m) = simN V n
  | 0 => rfl
  | m + 1 => by
    show bedS V (n + m) (opV V) (simN V (n + m)) = _
    rw [sim_done h ha m, beds_done h ha]
/-- those who lie go on lying as they do -/
theorem give_keep {V : Mem} {s : Mem × Nat} {b n i : Nat} (h : VOK V) (hi : 0 ≤ s.1 0 i) : (giveS V s b n).1 0 i = s.1 0 i ∧ (giveS V s b n).1 1 i = s.1 1 i ∧ (giveS V s b n).1 2 i = s.1 2 i ∧ (giveS V s b n).1 3 i = s.1 3 i := by
  rcases clS_spec (σ := s.1) (n := n) h with ⟨e, -⟩ | ⟨p, e, hp, hr, hw, -⟩
  · rw [giveS_none e]; exact ⟨rfl, rfl, rfl, rfl⟩
  · have hne : i ≠ (whoS V s.1 b n (rwN V p)).1 := by
      intro q
      have := (whoS_spec (b := b) hr hw).2
      rw [← q] at this
      unfold wtS at this
      simp only [Bool.and_eq_true, decide_eq_true_eq] at this
      rw [fa_le] at hi
      have := (fa_lt _ _).mp this.1
      omega
    rw [giveS_some e]
    dsimp only
    rw [lieS_0, lieS_1, lieS_2, lieS_3, if_neg hne, if_neg hne, if_neg hne, if_neg hne]
    simp [wr]
