/-! rows in their order -/
def PM (n : Nat) (f : Nat → Nat) : Prop := (∀ i, i < n → f i < n) ∧ ∀ i j, i < n → j < n → f i = f j → i = j
def ltR (n : Nat) (f g : Nat → Nat) : Prop := ∃ p, p < n ∧ (∀ q, q < p → f q = g q) ∧ f p < g p
theorem lt_irr {n : Nat} {f g : Nat → Nat} (h : ltR n f g) (h2 : ltR n g f) : False := by
  obtain ⟨p, hp, a, b⟩ := h
  obtain ⟨q, hq, c, d⟩ := h2
  rcases Nat.lt_trichotomy p q with z | z | z
  · have := c p z; omega
  · subst z; omega
  · have := a q z; omega
theorem lt_tr {n : Nat} {f g h : Nat → Nat} (h1 : ltR n f g) (h2 : ltR n g h) : ltR n f h := by
  obtain ⟨p, hp, a, b⟩ := h1
  obtain ⟨q, hq, c, d⟩ := h2
  rcases Nat.lt_trichotomy p q with z | z | z
  · exact ⟨p, hp, fun r hr => (a r hr).trans (c r (by omega)), by rw [← c p z]; exact b⟩
  · subst z
    exact ⟨p, hp, fun r hr => (a r hr).trans (c r hr), by omega⟩
  · exact ⟨q, hq, fun r hr => (a r (by omega)).trans (c r hr), by rw [a q z]; exact d⟩
theorem lt_tri {f g : Nat → Nat} : ∀ n, (∀ i, i < n → f i = g i) ∨ ltR n f g ∨ ltR n g f
  | 0 => Or.inl (fun i hi => absurd hi (by omega))
  | n + 1 => by
    rcases lt_tri n with h | ⟨p, hp, a, b⟩ | ⟨p, hp, a, b⟩
    · rcases Nat.lt_trichotomy (f n) (g n) with z | z | z
      · exact Or.inr (Or.inl ⟨n, by omega, h, z⟩)
      · refine Or.inl (fun i hi => ?_)
        by_cases e : i = n
        · rw [e]; exact z
        · exact h i (by omega)
      · exact Or.inr (Or.inr ⟨n, by omega, fun q hq => (h q hq).symm, z⟩)
    · exact Or.inr (Or.inl ⟨p, by omega, a, b⟩)
    · exact Or.inr (Or.inr ⟨p, by omega, a, b⟩)
def fallF (n a : Nat) (f : Nat → Nat) : Prop := ∀ i j, a ≤ i → i < j → j < n → f j < f i
theorem fall_of {n a : Nat} {f : Nat → Nat} (h : ∀ i, a ≤ i → i + 1 < n → f (i + 1) < f i) : fallF n a f := by
  intro i j hi hij hj
  obtain ⟨d, rfl⟩ : ∃ d, j = i + 1 + d := ⟨j - (i + 1), by omega⟩
  clear hij
  induction d with
  | zero => exact h i hi (by omega)
  | succ d ih =>
    have := ih (by omega)
    have := h (i + 1 + d) (by omega) (by omega)
    show f (i + 1 + d + 1) < f i
    omega
/-- nothing greater has the same beginning, where the rest falls -/
theorem fall_last {n a : Nat} {f h : Nat → Nat} (hf : PM n f) (hh : PM n h) (fa : fallF n a f) (e : ∀ q, q < a → h q = f q) : ¬ ltR n f h := by
  rintro ⟨t, ht, b, c⟩
  have ta : a ≤ t := by
    apply Classical.byContradiction
    intro z
    have := e t (by omega)
    omega
  obtain ⟨j, hj, ej⟩ := row_on hf.1 hf.2 (h t) (hh.1 t ht)
  rcases Nat.lt_trichotomy j t with z | z | z
  · have := b j z
    have := hh.2 j t hj ht (by omega)
    omega
  · subst z; omega
  · have := fa t j ta z hj
    omega
/-- the next row: place p gets the least greater of the falling rest, the rest turned round -/
def nxF (n p q : Nat) (f : Nat → Nat) : Nat → Nat := fun i => if i < p then f i else if i = p then f q else if n + p - i = q then f p else f (n + p - i)
theorem nx_spec {n p q : Nat} {f g : Nat → Nat} (hf : PM n f) (hpq : p < q) (hq : q < n) (fa : fallF n (p + 1) f) (h1 : f p < f q) (h2 : ∀ i, q < i → i < n → f i < f p) (hg : ∀ i, i < n → g i = nxF n p q f i) : PM n g ∧ ltR n f g ∧ ∀ h, PM n h → ltR n f h → ¬ ltR n h g := by
  have g0 : ∀ i, i < p → g i = f i := fun i hi => by rw [hg i (by omega)]; unfold nxF; rw [if_pos hi]
  have gp : g p = f q := by rw [hg p (by omega)]; unfold nxF; rw [if_neg (by omega), if_pos rfl]
  have g1 : ∀ i, p < i → i < n → g i = if n + p - i = q then f p else f (n + p - i) := fun i hi hn => by rw [hg i hn]; unfold nxF; rw [if_neg (by omega), if_neg (by omega)]
  have key : ∀ i, i < n → ∃ k, k < n ∧ g i = f k ∧ ((i < p ∧ k = i) ∨ (i = p ∧ k = q) ∨ (p < i ∧ n + p - i = q ∧ k = p) ∨ (p < i ∧ n + p - i ≠ q ∧ k = n + p - i)) := by
    intro i hi
    rcases Nat.lt_trichotomy i p with z | z | z
    · exact ⟨i, hi, g0 i z, Or.inl ⟨z, rfl⟩⟩
    · exact ⟨q, hq, by rw [z, gp], Or.inr (Or.inl ⟨z, rfl⟩)⟩
    · by_cases y : n + p - i = q
      · exact ⟨p, by omega, by rw [g1 i z hi, if_pos y], Or.inr (Or.inr (Or.inl ⟨z, y, rfl⟩))⟩
      · exact ⟨n + p - i, by omega, by rw [g1 i z hi, if_neg y], Or.inr (Or.inr (Or.inr ⟨z, y, rfl⟩))⟩
  have pg : PM n g := by
    refine ⟨fun i hi => ?_, fun i j hi hj e => ?_⟩
    · obtain ⟨k, hk, ek, -⟩ := key i hi
      rw [ek]
      exact hf.1 k hk
    · obtain ⟨k, hk, ek, ck⟩ := key i hi
      obtain ⟨l, hl, el, cl⟩ := key j hj
      have := hf.2 k l hk hl (by rw [← ek, ← el, e])
      omega
  -- the rest of g rises
  have rise : ∀ i j, p < i → i < j → j < n → g i < g j := by
    intro i j hi hij hj
    rw [g1 i hi (by omega), g1 j (by omega) hj]
    by_cases y : n + p - i = q
    · rw [if_pos y, if_neg (by omega)]
      have := fa (n + p - j) q (by omega) (by omega) hq
      omega
    · rw [if_neg y]
      by_cases y2 : n + p - j = q
      · rw [if_pos y2]
        exact h2 _ (by omega) (by omega)
      · rw [if_neg y2]
        exact fa _ _ (by omega) (by omega) (by omega)
  refine ⟨pg, ⟨p, by omega, fun r hr => (g0 r hr).symm, by rw [gp]; exact h1⟩, ?_⟩
  rintro h hh ⟨t, ht, ft, fl⟩ ⟨r, hr, hg2, hl⟩
  rcases Nat.lt_trichotomy r p with z | z | z
  · -- r < p
    have er := g0 r z
    rcases Nat.lt_trichotomy t r with y | y | y
    · have a := hg2 t y
      have b := g0 t (by omega)
      omega
    · subst y; omega
    · have := ft r y
      omega
  · subst z
    rcases Nat.lt_trichotomy t r with y | y | y
    · have a := hg2 t y
      have b := g0 t y
      omega
    · subst y
      rw [gp] at hl
      obtain ⟨j, hj, ej⟩ := row_on hf.1 hf.2 (h t) (hh.1 t ht)
      have jt : t < j := by
        rcases Nat.lt_trichotomy j t with x | x | x
        · have a := hg2 j x
          have b := g0 j x
          have := hh.2 j t hj ht (by omega)
          omega
        · subst x; omega
        · exact x
      rcases Nat.lt_trichotomy j q with x | x | x
      · have := fa j q (by omega) x hq
        omega
      · subst x; omega
      · have := h2 j x hj
        omega
    · -- agrees with f to p
      have ep := ft r y
      refine fall_last (a := r + 1) hf hh fa (fun x hx => ?_) ⟨t, ht, ft, fl⟩
      by_cases ex : x = r
      · rw [ex]; exact ep.symm
      · exact (hg2 x (by omega)).trans (g0 x (by omega))
  · -- r > p
    obtain ⟨j, hj, ej⟩ := row_on pg.1 pg.2 (h r) (hh.1 r hr)
    rcases Nat.lt_trichotomy j r with x | x | x
    · have a := hg2 j x
      have := hh.2 j r hj hr (by omega)
      omega
    · subst x; omega
    · have := rise r j z x hj
      omega
/-- the one row that a search ends with -/
def IsO (n : Nat) (F : (Nat → Nat) → Int32) (b : Nat → Nat) : Prop := PM n b ∧ (∀ g, PM n g → F b ≤ F g) ∧ ∀ g, PM n g → ltR n g b → F b < F g
theorem IsO.one {n : Nat} {F : (Nat → Nat) → Int32} {b c : Nat → Nat} (hb : IsO n F b) (hc : IsO n F c) : (∀ i, i < n → b i = c i) ∧ F b = F c := by
  have e : F b = F c := by
    have a1 := hb.2.1 c hc.1
    have a2 := hc.2.1 b hb.1
    rw [fa_le] at a1 a2
    rw [fa_eq]
    omega
  refine ⟨?_, e⟩
  rcases lt_tri (f := b) (g := c) n with h | h | h
  · exact h
  · have := hc.2.2 b hb.1 h
    rw [e] at this
    exact absurd this (i_lt_irr _)
  · have := hb.2.2 c hc.1 h
    rw [e] at this
    exact absurd this (i_lt_irr _)
