/-! the reference: the next row -/
/-- a stretch from a to b, turned round t times from its ends -/
def rvF (a b t : Nat) (f : Nat → Int32) : Nat → Int32 := fun i => if (a ≤ i ∧ i < a + t) ∨ (b < i + t ∧ i ≤ b) then f (a + b - i) else f i
theorem rv_0 {a b : Nat} {f : Nat → Int32} : rvF a b 0 f = f := by
  funext i
  unfold rvF
  rw [if_neg (by omega)]
theorem rv_step {a b t : Nat} {f : Nat → Int32} (h : a + t < b - t) (hb : t ≤ b) : upd (upd (rvF a b t f) (a + t) (rvF a b t f (b - t))) (b - t) (rvF a b t f (a + t)) = rvF a b (t + 1) f := by
  have x1 : rvF a b t f (b - t) = f (b - t) := by unfold rvF; rw [if_neg (by omega)]
  have x2 : rvF a b t f (a + t) = f (a + t) := by unfold rvF; rw [if_neg (by omega)]
  rw [x1, x2]
  funext i
  by_cases e1 : i = b - t
  · subst e1
    rw [pk_us]
    unfold rvF
    rw [if_pos (by omega), show a + b - (b - t) = a + t by omega]
  · rw [pk_un e1]
    by_cases e2 : i = a + t
    · subst e2
      rw [pk_us]
      unfold rvF
      rw [if_pos (by omega), show a + b - (a + t) = b - t by omega]
    · rw [pk_un e2]
      unfold rvF
      by_cases e3 : (a ≤ i ∧ i < a + t) ∨ (b < i + t ∧ i ≤ b)
      · rw [if_pos e3, if_pos (by omega)]
      · rw [if_neg e3, if_neg (by omega)]
theorem rv_end {a b t i : Nat} {f : Nat → Int32} (h : b ≤ a + t + t) (h0 : a + t + t ≤ b + 1) : rvF a b t f i = if a ≤ i ∧ i ≤ b then f (a + b - i) else f i := by
  unfold rvF
  by_cases e : (a ≤ i ∧ i < a + t) ∨ (b < i + t ∧ i ≤ b)
  · rw [if_pos e]
    by_cases e2 : a ≤ i ∧ i ≤ b
    · rw [if_pos e2]
    · exfalso
      rcases e with e | e <;> omega
  · rw [if_neg e]
    by_cases e2 : a ≤ i ∧ i ≤ b
    · rw [if_pos e2, show a + b - i = i by omega]
    · rw [if_neg e2]
/-- what the next row is, out of a row in numbers -/
def NxR (n : Nat) (φ : Nat → Int32) (ψ : Nat → Int32) : Prop := ∃ p q, p < q ∧ q < n ∧ (∀ i, p + 1 ≤ i → i + 1 < n → ¬ φ i ≤ φ (i + 1)) ∧ φ p ≤ φ q ∧ (∀ i, q < i → i < n → ¬ φ p ≤ φ i) ∧ ∀ i, ψ i = if i < p then φ i else if i = p then φ q else if i < n then (if n + p - i = q then φ p else φ (n + p - i)) else φ i
section M69
variable {M : Mem} {n : Nat}
theorem m_nextRow (hn : M 57 7 = nI n) (h1 : 1 ≤ n) (h7 : n ≤ 7) : WpI mX10_nextRow [.ref 57] M (gj gm) (TTc ++ TTm) (fun r M' => (r = 0 ∧ M' = M ∧ ∀ i, i + 1 < n → ¬ M 64 i ≤ M 64 (i + 1)) ∨ (r = 1 ∧ ∃ ψ, NxR n (M 64) ψ ∧ M' = wrA M 64 ψ)) := by
  refine WpI.of rfl rfl nL fun X Q C hk => bX10_nextRow_0 C ?_
  obtain ⟨n', rfl⟩ : ∃ n', n = n' + 1 := ⟨n - 1, by omega⟩
  have e2 : M 57 7 - 2 = nI n' - 1 := by rw [hn, ← nI_1]; grind
  rw [e2]
  -- turning round
  have turn : ∀ p q, p < q → q < n' + 1 → (∀ i, p + 1 ≤ i → i + 1 < n' + 1 → ¬ M 64 i ≤ M 64 (i + 1)) → M 64 p ≤ M 64 q → (∀ i, q < i → i < n' + 1 → ¬ M 64 p ≤ M 64 i) → ∀ r t, t + r = n' → p + 1 + t + t ≤ n' + 1 → WW X Q 86 [(0, .ref 57), (1, .int (nI p)), (2, .int (nI q)), (3, .int (nI (n' - t))), (4, .int (nI (p + 1 + t)))] [] (wrA M 64 (rvF (p + 1) n' t (upd (upd (M 64) p (M 64 q)) q (M 64 p))), gj gm, TTc ++ TTm) := by
    intro p q hpq hq c1 c2 c3 r
    induction r with
    | zero =>
      intro t ht h0
      exact absurd h0 (by omega)
    | succ r ih =>
      intro t ht h0
      refine bX10_nextRow_86 C ⟨fun z => hk _ _ (Or.inr ⟨rfl, _, ⟨p, q, hpq, hq, c1, c2, c3, fun i => ?_⟩, rfl⟩), fun z => ?_⟩
      · rw [nle (by omega) (by omega)] at z
        rw [rv_end (by omega) (by omega)]
        by_cases a : p + 1 ≤ i ∧ i ≤ n'
        · rw [if_pos a, if_neg (by omega), if_neg (by omega), if_pos (by omega), show p + 1 + n' - i = n' + 1 + p - i by omega]
          by_cases b : n' + 1 + p - i = q
          · rw [if_pos b, b, pk_us]
          · rw [if_neg b, pk_un b, pk_un (by omega)]
        · rw [if_neg a]
          by_cases b : i < p
          · rw [if_pos b, pk_un (by omega), pk_un (by omega)]
          · rw [if_neg b]
            by_cases d : i = p
            · rw [if_pos d, d, pk_un (by omega), pk_us]
            · rw [if_neg d, if_neg (by omega), pk_un (by omega), pk_un d]
      · rw [nle (by omega) (by omega)] at z
        refine (m_exchange (by omega) (by omega)).imp ?_
        rintro M' rfl
        refine bX10_nextRow_99 C ?_
        obtain ⟨w, hw⟩ : ∃ w, n' - t = w + 1 := ⟨n' - t - 1, by omega⟩
        rw [wrA_eq, wrA_upd, wrA_upd, rv_step (by omega) (by omega), hw, nI_1, nI_m1, nI_p1]
        have := ih (t + 1) (by omega) (by omega)
        rw [show n' - (t + 1) = w by omega, show p + 1 + (t + 1) = p + 1 + t + 1 by omega] at this
        exact this
  -- the least greater
  have seek : ∀ p, p < n' → (∀ i, p + 1 ≤ i → i + 1 < n' + 1 → ¬ M 64 i ≤ M 64 (i + 1)) → M 64 p ≤ M 64 (p + 1) → ∀ r j, p + 1 + r = j → j ≤ n' → (∀ i, j < i → i < n' + 1 → ¬ M 64 p ≤ M 64 i) → WW X Q 47 [(0, .ref 57), (1, .int (nI p)), (2, .int (nI j))] [] (M, gj gm, TTc ++ TTm) := by
    intro p hp c1 c2 r
    have found : ∀ j, p < j → j < n' + 1 → M 64 p ≤ M 64 j → (∀ i, j < i → i < n' + 1 → ¬ M 64 p ≤ M 64 i) → WpV mX10_exchange [.ref 57, .int (nI p), .int (nI j)] M (gj gm) (TTc ++ TTm) (fun M' => WW X Q 74 [(0, .ref 57), (1, .int (nI p)), (2, .int (nI j))] [] (M', gj gm, TTc ++ TTm)) := by
      intro j h1 h2 h3 h4
      refine (m_exchange (by omega) (by omega)).imp ?_
      rintro M' rfl
      refine bX10_nextRow_74 C ?_
      have t0 := turn p j h1 h2 c1 h3 h4 n' 0 (by omega) (by omega)
      rw [rv_0] at t0
      have em : wr (wr M 64 p (M 64 j)) 64 j (M 64 p) = wrA M 64 (upd (upd (M 64) p (M 64 j)) j (M 64 p)) := by
        funext c
        by_cases e : c = 64
        · subst e; rw [wr_eq, wr_eq, wrA_eq]
        · rw [wr_ne e, wr_ne e, wrA_ne e]
      rw [em, wrA_ne (by omega), hn, nI_p1, nI_1]
      exact t0
    induction r with
    | zero =>
      intro j hj hjn ha
      subst hj
      refine bX10_nextRow_47 C ?_
      rw [ncl (by omega), ncl (by omega)]
      exact ⟨nin (by omega) (by omega), nin (by omega) (by omega), fun z => found _ (by omega) (by omega) z ha, fun z => absurd c2 z⟩
    | succ r ih =>
      intro j hj hjn ha
      refine bX10_nextRow_47 C ?_
      rw [ncl (by omega), ncl (by omega)]
      refine ⟨nin (by omega) (by omega), nin (by omega) (by omega), fun z => found _ (by omega) (by omega) z ha, fun z => ?_⟩
      obtain ⟨j', rfl⟩ : ∃ j', j = j' + 1 := ⟨j - 1, by omega⟩
      rw [nI_m1, nI_p1]
      refine ih j' (by omega) (by omega) (fun i hi hi2 => ?_)
      by_cases e : i = j' + 1
      · rw [e]; exact z
      · exact ha i (by omega) hi2
  -- where it rises last
  have look : ∀ m, m ≤ n' → (∀ i, m ≤ i → i + 1 < n' + 1 → ¬ M 64 i ≤ M 64 (i + 1)) → WW X Q 7 [(0, .ref 57), (1, .int (nI m - 1))] [] (M, gj gm, TTc ++ TTm) := by
    intro m
    induction m with
    | zero =>
      intro _ ha
      refine bX10_nextRow_7 C ⟨fun _ => ⟨fun z => absurd z (by decide), fun _ => hk _ _ (Or.inl ⟨rfl, rfl, fun i hi => ha i (by omega) hi⟩)⟩, fun z => absurd z_m1 z⟩
    | succ m ih =>
      intro hm ha
      rw [nI_p1]
      refine bX10_nextRow_7 C ⟨fun z => absurd z (nn0 (by omega)), fun _ => ?_⟩
      rw [nI_1, ncl (by omega), ncl (by omega)]
      refine ⟨nin (by omega) (by omega), nin (by omega) (by omega), fun z => ⟨fun _ => ?_, fun y => absurd (i_nlt.mp (nn0 (by omega))) y⟩, fun z => ?_⟩
      · rw [hn, nI_p1]
        exact seek m (by omega) ha z (n' - (m + 1)) n' (by omega) (Nat.le_refl _) (fun i hi hi2 => absurd hi2 (by omega))
      · rw [nI_m1]
        refine ih (by omega) (fun i hi hi2 => ?_)
        by_cases e : i = m
        · rw [e]; exact z
        · exact ha i (by omega) hi2
  exact look n' (Nat.le_refl _) (fun i hi hi2 => absurd hi2 (by omega))
end M69
