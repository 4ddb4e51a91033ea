/-! the class: order, with what is known -/
def KO (V M : Mem) : Prop := M 29 3 = 0 ∨ (M 29 3 = 1 ∧ ∃ b, IsO (ngV V) (rowF V) b ∧ M 29 2 = rowF V b ∧ ∀ i, i < ngV V → M 30 i = nI (b i))
section C75
variable {M V : Mem} {G2 : Grf} {T2 : List (Nat × Nat)}
theorem c_order (e : vC M = V) (h : VB V) (ko : KO V M) (x : Int32) : WpI mX9_order [.ref 0, .int x] M (gj G2) (TTc ++ T2) (fun r M' => (¬ okO V x ∧ r = -1 ∧ M' = M) ∨ (okO V x ∧ OrdP V x r ∧ KO V M' ∧ ∀ c, ¬ sQ c → M' c = M c)) := by
  have h7 := h.1.1.2.2
  have hg := rc_g e h.1
  refine WpI.of rfl rfl nL fun X Q C hk => bX9_order_0 C ?_
  -- the answer out of a world where it is known
  have ans : ∀ (M' : Mem), M' 29 3 = 1 → (∃ b, IsO (ngV V) (rowF V) b ∧ M' 29 2 = rowF V b ∧ ∀ i, i < ngV V → M' 30 i = nI (b i)) → (∀ c, ¬ sQ c → M' c = M c) → okO V x → ((¬ x = -1 → (vp_in x 7 ∧ RetOK X Q (some (.int (M' 30 x.toNatClampNeg))) (M', gj G2, TTc ++ T2))) ∧ (x = -1 → RetOK X Q (some (.int (M' 29 2))) (M', gj G2, TTc ++ T2))) := by
    rintro M' k1 ⟨b, hb, hl, c30⟩ hf ok
    have ko' : KO V M' := Or.inr ⟨k1, b, hb, hl, c30⟩
    refine ⟨fun z => ?_, fun z => hk _ _ (Or.inr ⟨ok, ⟨b, hb, Or.inl ⟨z, hl⟩⟩, ko', hf⟩)⟩
    rcases ok with y | ⟨k, hk2, y⟩
    · exact absurd y z
    · subst y
      rw [ncl (by omega)]
      exact ⟨nin (by omega) (by omega), hk _ _ (Or.inr ⟨Or.inr ⟨k, hk2, rfl⟩, ⟨b, hb, Or.inr ⟨k, hk2, rfl, c30 k hk2⟩⟩, ko', hf⟩)⟩
  have go : okO V x → ((¬ M 29 3 = 0 → ((¬ x = -1 → (vp_in x 7 ∧ RetOK X Q (some (.int (M 30 x.toNatClampNeg))) (M, gj G2, TTc ++ T2))) ∧ (x = -1 → RetOK X Q (some (.int (M 29 2))) (M, gj G2, TTc ++ T2)))) ∧ (M 29 3 = 0 → WpV mX4_search [.ref 29, .ref 33, .ref 4] M (gj G2) (TTc ++ T2) (fun M' => WW X Q 46 [(0, .ref 0), (1, .int x)] [] (M', gj G2, TTc ++ T2)))) := by
    intro ok
    refine ⟨fun z => ?_, fun z => (c_search e h).imp ?_⟩
    · rcases ko with y | ⟨y, hb⟩
      · exact absurd y z
      · exact ans M y hb (fun _ _ => rfl) ok
    · rintro M' ⟨b, hb, hl, c30, k1, hf⟩
      exact bX9_order_46 C (ans M' k1 ⟨b, hb, hl, c30⟩ hf ok)
  refine ⟨fun z => go (Or.inl z), fun z => g_c (by omega) hg (fun q => hk _ _ (Or.inl ⟨fun y => ?_, rfl, rfl⟩)) (fun q => hk _ _ (Or.inl ⟨fun y => ?_, rfl, rfl⟩)) fun k hk2 ek => go (Or.inr ⟨k, hk2, ek⟩)⟩
  · rcases y with y | y
    · exact z y
    · exact no_lo (by omega) q y
  · rcases y with y | y
    · exact z y
    · exact no_hi (by omega) q y
end C75
