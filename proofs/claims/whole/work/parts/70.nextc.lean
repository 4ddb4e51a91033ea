/-! the class: let fall, turn round, the next row -/
section C70
variable {M : Mem} {n : Nat} {G2 : Grf} {T2 : List (Nat × Nat)}
theorem c_swap (hn : M 37 6 = nI n) (h7 : n ≤ 7) {p q : Nat} (hp : p < n) (hq : q < n) : WpV mX4_swap [.ref 37, .int (nI p), .int (nI q)] M (gj G2) (TTc ++ T2) (fun M' => M' = wrA M 43 (upd (upd (M 43) p (M 43 q)) q (M 43 p))) := by
  have vp : vp_in (nI p) 7 := nin (by omega) (by omega)
  have vq : vp_in (nI q) 7 := nin (by omega) (by omega)
  refine WpV.of rfl rfl nL fun X Q C hk => bX4_swap_0 C ⟨fun z => absurd z (nn0 (by omega)), fun _ => ⟨fun z => absurd z ?_, fun _ => ⟨fun z => absurd z (nn0 (by omega)), fun _ => ⟨fun z => absurd z ?_, fun _ => ⟨vp, vq, vp, vq, hk _ ?_⟩⟩⟩⟩⟩
  · rw [hn, nle (by omega) (by omega)]; omega
  · rw [hn, nle (by omega) (by omega)]; omega
  · rw [ncl (by omega), ncl (by omega)]
    funext c
    by_cases e : c = 43
    · subst e; rw [wr_eq, wr_eq, wrA_eq]
    · rw [wr_ne e, wr_ne e, wrA_ne e]
theorem wrA_wrA {c : Nat} {f g : Nat → Int32} : wrA (wrA M c f) c g = wrA M c g := by
  funext k
  unfold wrA
  split <;> rfl
theorem c_turnRound (hn : M 37 6 = nI (n + 1)) (h7 : n + 1 ≤ 7) {a : Nat} (ha : a ≤ n) : WpV mX4_turnRound [.ref 37, .int (nI a)] M (gj G2) (TTc ++ T2) (fun M' => M' = wrA M 43 (fun i => if a ≤ i ∧ i ≤ n then M 43 (a + n - i) else M 43 i)) := by
  refine WpV.of rfl rfl nL fun X Q C hk => bX4_turnRound_0 C ?_
  rw [hn, nI_p1]
  have loop : ∀ r t, t + r = n + 1 → a + t + t ≤ n + 1 → WW X Q 9 [(0, .ref 37), (1, .int (nI a)), (2, .int (nI (a + t))), (3, .int (nI (n - t)))] [] (wrA M 43 (rvF a n t (M 43)), gj G2, TTc ++ T2) := by
    intro r
    induction r with
    | zero =>
      intro t ht h0
      exact absurd h0 (by omega)
    | succ r ih =>
      intro t ht h0
      refine bX4_turnRound_9 C ⟨fun z => hk _ ?_, fun z => ?_⟩
      · rw [nle (by omega) (by omega)] at z
        congr 1
        funext i
        exact rv_end (by omega) (by omega)
      · rw [nle (by omega) (by omega)] at z
        refine (c_swap (n := n + 1) (by rw [wrA_ne (by omega)]; exact hn) h7 (by omega) (by omega)).imp ?_
        rintro M' rfl
        refine bX4_turnRound_20 C ?_
        obtain ⟨w, hw⟩ : ∃ w, n - t = w + 1 := ⟨n - t - 1, by omega⟩
        rw [wrA_eq, wrA_wrA, rv_step (by omega) (by omega), hw, nI_1, nI_m1, nI_p1]
        have := ih (t + 1) (by omega) (by omega)
        rw [show n - (t + 1) = w by omega, show a + (t + 1) = a + t + 1 by omega] at this
        exact this
  have := loop (n + 1) 0 (by omega) (by omega)
  rw [rv_0, wrA_self] at this
  exact this
/-- let fall from a on -/
def LfR (n a : Nat) (φ ψ : Nat → Int32) : Prop := RowOK n ψ ∧ (∀ i, (i < a ∨ n ≤ i) → ψ i = φ i) ∧ ∀ i j, a ≤ i → i < j → j < n → ¬ ψ i < ψ j
theorem c_letFall (hn : M 37 6 = nI n) (h7 : n ≤ 7) (hr : RowOK n (M 43)) {a : Nat} (ha : a ≤ n) : WpV mX4_letFall [.ref 37, .int (nI a)] M (gj G2) (TTc ++ T2) (fun M' => ∃ ψ, LfR n a (M 43) ψ ∧ M' = wrA M 43 ψ) := by
  refine WpV.of rfl rfl nL fun X Q C hk => bX4_letFall_0 C ((c_max _ _).to (bX4_letFall_5 C ?_))
  have em : (if (0 : Int32) < nI a then nI a else 0) = nI a := by
    by_cases z : a = 0
    · subst z; rfl
    · have : (0 : Int32) < nI a := (nlt (a := 0) (b := a) (by omega) (by omega)).mpr (by omega)
      rw [if_pos this]
  rw [em]
  have outer : ∀ r p (ψ : Nat → Int32), p + r = n → a ≤ p → RowOK n ψ → (∀ i, (i < a ∨ n ≤ i) → ψ i = M 43 i) → (∀ i j, a ≤ i → i < p → i < j → j < n → ¬ ψ i < ψ j) → WW X Q 6 [(0, .ref 37), (1, .int (nI a)), (2, .int (nI p))] [] (wrA M 43 ψ, gj G2, TTc ++ T2) := by
    intro r
    induction r with
    | zero =>
      intro p ψ hp hap c1 c2 c3
      refine bX4_letFall_6 C ⟨fun _ => hk _ ⟨ψ, ⟨c1, c2, fun i j h1 h2 h3 => c3 i j h1 (by omega) h2 h3⟩, rfl⟩, fun z => absurd ?_ z⟩
      rw [wrA_ne (by omega), hn, show p = n by omega]; exact i_le_rfl _
    | succ r ih =>
      intro p ψ hp hap c1 c2 c3
      refine bX4_letFall_6 C ⟨fun z => absurd z ?_, fun _ => ?_⟩
      · rw [wrA_ne (by omega), hn, nle (by omega) (by omega)]; omega
      have inner : ∀ r q (ψ : Nat → Int32), q + r = n → p < q → RowOK n ψ → (∀ i, (i < a ∨ n ≤ i) → ψ i = M 43 i) → (∀ i j, a ≤ i → i < p → i < j → j < n → ¬ ψ i < ψ j) → (∀ j, p < j → j < q → ¬ ψ p < ψ j) → WW X Q 18 [(0, .ref 37), (1, .int (nI a)), (2, .int (nI p)), (3, .int (nI q))] [] (wrA M 43 ψ, gj G2, TTc ++ T2) := by
        intro r
        induction r with
        | zero =>
          intro q ψ hq hpq c1 c2 c3 c4
          refine bX4_letFall_18 C ⟨fun _ => ?_, fun z => absurd ?_ z⟩
          · rw [nI_1]
            refine ih (p + 1) ψ (by omega) (by omega) c1 c2 (fun i j h1 h2 h3 h4 => ?_)
            by_cases e : i = p
            · rw [e]; exact c4 j (by omega) (by omega)
            · exact c3 i j h1 (by omega) h3 h4
          · rw [wrA_ne (by omega), hn, show q = n by omega]; exact i_le_rfl _
        | succ r ih2 =>
          intro q ψ hq hpq c1 c2 c3 c4
          refine bX4_letFall_18 C ⟨fun z => absurd z ?_, fun _ => ?_⟩
          · rw [wrA_ne (by omega), hn, nle (by omega) (by omega)]; omega
          rw [ncl (by omega), ncl (by omega), wrA_eq, nI_1]
          refine ⟨nin (by omega) (by omega), nin (by omega) (by omega), fun z => ih2 (q + 1) ψ (by omega) (by omega) c1 c2 c3 (fun j h1 h2 => ?_), fun z => (c_swap (by rw [wrA_ne (by omega)]; exact hn) h7 (by omega) (by omega)).imp ?_⟩
          · by_cases e : j = q
            · rw [e]; exact i_nlt.mpr z
            · exact c4 j h1 (by omega)
          · rintro M' rfl
            refine bX4_letFall_47 C ?_
            rw [nI_1, wrA_eq, wrA_wrA]
            have zl := i_nle.mp z
            refine ih2 (q + 1) _ (by omega) (by omega) (c1.swap (by omega) (by omega)) (fun i hi => ?_) (fun i j h1 h2 h3 h4 => ?_) (fun j h1 h2 => ?_)
            · rw [pk_un (by omega), pk_un (by omega)]; exact c2 i hi
            · rw [pk_un (show i ≠ q by omega), pk_un (show i ≠ p by omega)]
              by_cases e1 : j = q
              · subst e1; rw [pk_us]; exact c3 i p h1 h2 h2 (by omega)
              · rw [pk_un e1]
                by_cases e2 : j = p
                · subst e2; rw [pk_us]; exact c3 i q h1 h2 (by omega) (by omega)
                · rw [pk_un e2]; exact c3 i j h1 h2 h3 h4
            · rw [pk_un (show p ≠ q by omega), pk_us]
              by_cases e1 : j = q
              · subst e1
                rw [pk_us]
                exact i_nlt.mpr (i_lt_le zl)
              · rw [pk_un e1, pk_un (by omega)]
                exact i_nlt.mpr (i_le_trans (i_nlt.mp (c4 j h1 (by omega))) (i_lt_le zl))
      rw [nI_1]
      refine inner (n - (p + 1)) (p + 1) ψ (by omega) (by omega) c1 c2 c3 (fun j h1 h2 => absurd h2 (by omega))
  have := outer (n - a) a (M 43) (by omega) (Nat.le_refl _) hr (fun _ _ => rfl) (fun i j h1 h2 => absurd h2 (by omega))
  rw [wrA_self] at this
  exact this
theorem c_toNextRow (hn : M 37 6 = nI n) (h1 : 1 ≤ n) (h7 : n ≤ 7) (hr : RowOK n (M 43)) {d : Nat} (hd : d < n) : WpI mX4_toNextRow [.ref 37, .int (nI d)] M (gj G2) (TTc ++ T2) (fun r M' => ∃ φ, LfR n (d + 1) (M 43) φ ∧ ((r = 0 ∧ M' = wrA M 43 φ ∧ ∀ i, i + 1 < n → ¬ φ i ≤ φ (i + 1)) ∨ (r = 1 ∧ ∃ ψ, NxR n φ ψ ∧ M' = wrA M 43 ψ))) := by
  refine WpI.of rfl rfl nL fun X Q C hk => bX4_toNextRow_0 C ?_
  rw [nI_1]
  refine (c_letFall hn h7 hr (a := d + 1) (by omega)).imp ?_
  rintro M0 ⟨φ, hL, rfl⟩
  replace hk := fun r M' hh => hk r M' ⟨φ, hL, hh⟩
  obtain ⟨n', rfl⟩ : ∃ n', n = n' + 1 := ⟨n - 1, by omega⟩
  refine bX4_toNextRow_7 C ?_
  have e2 : (wrA M 43 φ) 37 6 - 2 = nI n' - 1 := by rw [wrA_ne (by omega), hn, ← nI_1]; grind
  have hn' : (wrA M 43 φ) 37 6 = nI (n' + 1) := by rw [wrA_ne (by omega)]; exact hn
  rw [e2]
  have seek : ∀ p, p < n' → (∀ i, p + 1 ≤ i → i + 1 < n' + 1 → ¬ φ i ≤ φ (i + 1)) → φ p ≤ φ (p + 1) → ∀ r j, p + 1 + r = j → j ≤ n' → (∀ i, j < i → i < n' + 1 → ¬ φ p ≤ φ i) → WW X Q 54 [(0, .ref 37), (1, .int (nI d)), (2, .int (nI p)), (3, .int (nI j))] [] (wrA M 43 φ, gj G2, TTc ++ T2) := by
    intro p hp c1 c2 r
    have found : ∀ j, p < j → j < n' + 1 → φ p ≤ φ j → (∀ i, j < i → i < n' + 1 → ¬ φ p ≤ φ i) → WpV mX4_swap [.ref 37, .int (nI p), .int (nI j)] (wrA M 43 φ) (gj G2) (TTc ++ T2) (fun M' => WW X Q 86 [(0, .ref 37), (1, .int (nI d)), (2, .int (nI p)), (3, .int (nI j))] [] (M', gj G2, TTc ++ T2)) := by
      intro j h1 h2 h3 h4
      refine (c_swap hn' h7 (by omega) h2).imp ?_
      rintro M' rfl
      refine bX4_toNextRow_86 C ?_
      rw [nI_1, wrA_eq, wrA_wrA]
      refine (c_turnRound (n := n') (by rw [wrA_ne (by omega)]; exact hn) h7 (by omega)).imp ?_
      rintro M' rfl
      rw [wrA_eq, wrA_wrA]
      refine bX4_toNextRow_93 C (hk _ _ (Or.inr ⟨rfl, _, ⟨p, j, h1, h2, c1, h3, h4, fun i => ?_⟩, rfl⟩))
      show (if p + 1 ≤ i ∧ i ≤ n' then upd (upd φ p (φ j)) j (φ p) (p + 1 + n' - i) else upd (upd φ p (φ j)) j (φ p) i) = _
      by_cases a : p + 1 ≤ i ∧ i ≤ n'
      · rw [if_pos a, if_neg (by omega), if_neg (by omega), if_pos (by omega), show p + 1 + n' - i = n' + 1 + p - i by omega]
        by_cases b : n' + 1 + p - i = j
        · rw [if_pos b, b, pk_us]
        · rw [if_neg b, pk_un b, pk_un (by omega)]
      · rw [if_neg a]
        by_cases b : i < p
        · rw [if_pos b, pk_un (by omega), pk_un (by omega)]
        · rw [if_neg b]
          by_cases d : i = p
          · rw [if_pos d, d, pk_un (by omega), pk_us]
          · rw [if_neg d, if_neg (by omega), pk_un (by omega), pk_un d]
    induction r with
    | zero =>
      intro j hj hjn ha
      subst hj
      refine bX4_toNextRow_54 C ⟨fun z => absurd z ?_, fun _ => ?_⟩
      · rw [nle (by omega) (by omega)]; omega
      rw [ncl (by omega), ncl (by omega), wrA_eq]
      exact ⟨nin (by omega) (by omega), nin (by omega) (by omega), fun z => found _ (by omega) (by omega) z ha, fun z => absurd c2 z⟩
    | succ r ih =>
      intro j hj hjn ha
      refine bX4_toNextRow_54 C ⟨fun z => absurd z ?_, fun _ => ?_⟩
      · rw [nle (by omega) (by omega)]; omega
      rw [ncl (by omega), ncl (by omega), wrA_eq]
      refine ⟨nin (by omega) (by omega), nin (by omega) (by omega), fun z => found _ (by omega) (by omega) z ha, fun z => ?_⟩
      obtain ⟨j', rfl⟩ : ∃ j', j = j' + 1 := ⟨j - 1, by omega⟩
      rw [nI_m1, nI_p1]
      refine ih j' (by omega) (by omega) (fun i hi hi2 => ?_)
      by_cases e : i = j' + 1
      · rw [e]; exact z
      · exact ha i (by omega) hi2
  have look : ∀ m, m ≤ n' → (∀ i, m ≤ i → i + 1 < n' + 1 → ¬ φ i ≤ φ (i + 1)) → WW X Q 14 [(0, .ref 37), (1, .int (nI d)), (2, .int (nI m - 1))] [] (wrA M 43 φ, gj G2, TTc ++ T2) := by
    intro m
    induction m with
    | zero =>
      intro _ ha
      refine bX4_toNextRow_14 C ⟨fun _ => ⟨fun z => absurd z (by decide), fun _ => hk _ _ (Or.inl ⟨rfl, rfl, fun i hi => ha i (by omega) hi⟩)⟩, fun z => absurd z_m1 z⟩
    | succ m ih =>
      intro hm ha
      rw [nI_p1]
      refine bX4_toNextRow_14 C ⟨fun z => absurd z (nn0 (by omega)), fun _ => ?_⟩
      rw [nI_1, ncl (by omega), ncl (by omega), wrA_eq]
      refine ⟨nin (by omega) (by omega), nin (by omega) (by omega), fun z => ⟨fun _ => ?_, fun y => absurd (i_nlt.mp (nn0 (by omega))) y⟩, fun z => ?_⟩
      · rw [hn', nI_p1]
        exact seek m (by omega) ha z (n' - (m + 1)) n' (by omega) (Nat.le_refl _) (fun i hi hi2 => absurd hi2 (by omega))
      · rw [nI_m1]
        refine ih (by omega) (fun i hi hi2 => ?_)
        by_cases e : i = m
        · rw [e]; exact z
        · exact ha i (by omega) hi2
  exact look n' (Nat.le_refl _) (fun i hi hi2 => absurd hi2 (by omega))
end C70
