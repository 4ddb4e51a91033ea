/-! questions: law, length, later, turned -/
def lawF (V : Mem) (k : Nat) : Int32 := allS (wr V 9 3 (nI k))
def lawQ (V : Mem) : Int32 := nI (bst (lawF V) 3)
def lenF (V : Mem) (b k : Nat) : Int32 := allS (wr V 6 b (nI (40 + k)))
def lengthQ (V : Mem) (b w : Int32) : Int32 := gd (nbV V) b fun b => gd 2 w fun w => if w = 0 then nI (40 + bst (lenF V b) 60) else lenF V b (bst (lenF V b) 60)
def turnedQ (V : Mem) : Int32 := allS (wr V 9 4 1)
theorem vok_law {V : Mem} (h : VOK V) {k : Nat} (hk : k < 3) : VOK (wr V 9 3 (nI k)) := by
  obtain ⟨h1, h2, h3, h4, h5, h6, h7, h8, h9, h10, h11, h12⟩ := h
  refine ⟨h1, h2, h3, h4, h5, h6, h7, h8, h9, ?_, h11, h12⟩
  show nI k = 0 ∨ nI k = 1 ∨ nI k = 2
  rcases k with _ | _ | _ | k
  · exact Or.inl rfl
  · exact Or.inr (Or.inl rfl)
  · exact Or.inr (Or.inr rfl)
  · omega
theorem vok_turn {V : Mem} (h : VB V) : VOK (wr V 9 4 1) := by
  obtain ⟨⟨h1, h2, h3, h4, h5, h6, h7, h8, h9, h10, h11, h12⟩, -, -, hy, -⟩ := h
  exact ⟨h1, h2, h3, h4, h5, h6, h7, h8, h9, h10, Or.inr rfl, Or.inl hy⟩
theorem rg_n {a : Nat} {x y : Int} (h1 : x ≤ a) (h2 : (a : Int) ≤ y) (h3 : a < 1000000) : rgI (nI a) x y := by
  unfold rgI
  rw [nti h3]
  omega
theorem vok_len {V : Mem} (h : VOK V) {b : Nat} {x : Int32} (hx : rgI x 40 99) : VOK (wr V 6 b x) := by
  obtain ⟨h1, h2, h3, h4, h5, h6, h7, h8, h9, h10, h11, h12⟩ := h
  refine ⟨h1, h2, h3, h4, h5, h6, fun k hk => ?_, h8, h9, h10, h11, h12⟩
  rw [wr_eq]
  unfold upd
  split
  · exact hx
  · exact h7 k hk
theorem vok_worn {V : Mem} (h : VOK V) {i : Nat} {x : Int32} (hx : rgI x (-9) 9) : VOK (wr V 4 i x) := by
  obtain ⟨h1, h2, h3, h4, h5, h6, h7, h8, h9, h10, h11, h12⟩ := h
  refine ⟨h1, h2, h3, h4, fun k hk => ?_, h6, h7, h8, h9, h10, h11, h12⟩
  obtain ⟨a, b, c, d, f⟩ := h5 k hk
  refine ⟨a, b, c, ?_, f⟩
  rw [wr_eq]
  unfold upd
  split
  · exact hx
  · exact d
theorem vok_come {V : Mem} (h : VOK V) {i : Nat} {x : Int32} (hx : rgI x 0 18) : VOK (wr V 1 i x) := by
  obtain ⟨h1, h2, h3, h4, h5, h6, h7, h8, h9, h10, h11, h12⟩ := h
  refine ⟨h1, h2, h3, h4, fun k hk => ?_, h6, h7, h8, h9, h10, h11, h12⟩
  obtain ⟨a, b, c, d, f⟩ := h5 k hk
  refine ⟨a, ?_, c, d, f⟩
  rw [wr_eq]
  unfold upd
  split
  · exact hx
  · exact b
section Q2C
variable {M V : Mem} {G2 : Grf} {T2 : List (Nat × Nat)}
theorem c_turned (e : vC M = V) (h : VB V) : WpI mX9_turned [.ref 0] M (gj G2) (TTc ++ T2) (fun r M' => r = turnedQ V ∧ FC M M') := by
  have hv := vok_turn h
  have e2 : vC (wr M 34 5 1) = wr V 9 4 1 := by rw [vC_turn, e]
  have et : M 34 5 = 0 := by rw [← h.2.2.1, ← e]; rfl
  refine WpI.of rfl rfl nL fun X Q C hk => bX9_turned_0 C ((c_sumBelow e2 hv _).imp ?_)
  rintro r M' ⟨hf, hr⟩
  refine bX9_turned_17 C (hk _ _ ⟨?_, ?_⟩)
  · rcases hr with a | ⟨-, a⟩
    · exact a
    · have := all_rg hv
      rw [fa_le] at a
      have e9 : (2147483647 : Int32).toInt = 2147483647 := by decide
      unfold rgI at this
      omega
  · have := fr_rw (y := 0) hf
    rw [← et, wr_self] at this
    rw [← et]
    exact this.fc
theorem c_law (e : vC M = V) (h : VB V) : WpI mX9_law [.ref 0] M (gj G2) (TTc ++ T2) (fun r M' => r = lawQ V ∧ FC M M') := by
  refine WpI.of rfl rfl nL fun X Q C hk => bX9_law_0 C ?_
  have loop : ∀ k j (M1 : Mem) (l x b : Int32) (bN : Nat), j + k = 3 → Fr 4 9 (wr M 33 4 x) M1 → AC (lawF V) j l bN → (0 < j → b = nI bN) → WW X Q 16 [(0, .ref 0), (1, .int (M 33 4)), (2, .int l), (3, .int b), (4, .int (nI j))] [] (M1, gj G2, TTc ++ T2) := by
    intro k
    induction k with
    | zero =>
      intro j M1 l x b bN hj hf ha hb
      have e3 : j = 3 := by omega
      subst e3
      refine bX9_law_16 C ⟨fun _ => hk _ _ ⟨?_, ?_⟩, fun q => absurd (i_le_rfl _) q⟩
      · rw [hb (by omega), (ha.fin (by omega)).1]; rfl
      · have := fr_rw (y := M 33 4) hf
        rw [wr_self] at this
        exact this.fc
    | succ k ih =>
      intro j M1 l x b bN hj hf ha hb
      have hv := vok_law h.1 (k := j) (by omega)
      have hf2 := fr_rw (y := nI j) hf
      have e2 : vC (wr M1 33 4 (nI j)) = wr V 9 3 (nI j) := by rw [vC_cong hf2, vC_law, e]
      refine bX9_law_16 C ⟨fun q => absurd q ?_, fun _ => (c_sumBelow e2 hv l).imp ?_⟩
      · show ¬ nI 3 ≤ nI j
        rw [nle (by omega) (by omega)]; omega
      rintro r M2 ⟨hf3, hr⟩
      refine bX9_law_36 C ?_
      rw [nI_1]
      refine ⟨fun q => ih (j + 1) M2 l (nI j) b bN (by omega) (hf2.trans hf3) (ha.keep (all_rg hv) hr q) (fun _ => ?_), fun q => ih (j + 1) M2 r (nI j) (nI j) j (by omega) (hf2.trans hf3) (ha.new hr q) (fun _ => rfl)⟩
      rcases Nat.eq_zero_or_pos j with z | z
      · subst z
        rcases ha with ⟨-, a⟩ | ⟨a, -⟩
        · have w := AC.keep (f := lawF V) (Or.inl ⟨rfl, a⟩ : AC (lawF V) 0 l bN) (all_rg hv) hr q
          have w0 : bN = 0 := by
            rcases w with ⟨z, -⟩ | ⟨z, -⟩
            · omega
            · have := z.1; omega
          exfalso
          rcases hr with z | z
          · rw [a, z, fa_le] at q
            have := all_rg hv
            have e9 : (2147483647 : Int32).toInt = 2147483647 := by decide
            unfold rgI at this
            omega
          · have z2 := z.2
            rw [a, fa_le] at z2
            have := all_rg hv
            have e9 : (2147483647 : Int32).toInt = 2147483647 := by decide
            unfold rgI at this
            omega
        · exact absurd a.1 (by omega)
      · exact hb z
  exact loop 3 0 M _ (M 33 4) _ 0 (by omega) (by rw [wr_self]; exact Fr.rfl') AC.z (fun z => absurd z (by omega))
end Q2C
