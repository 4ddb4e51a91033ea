/-! rows in numbers and rows in Nat -/
def toN (φ : Nat → Int32) : Nat → Nat := fun i => (φ i).toNatClampNeg
theorem row_n {n : Nat} {φ : Nat → Int32} (h : RowOK n φ) (h7 : n ≤ 7) {i : Nat} (hi : i < n) : φ i = nI (toN φ i) ∧ toN φ i < n := by
  obtain ⟨k, hk, e⟩ := h.1 i hi
  have : toN φ i = k := by unfold toN; rw [e, ncl (by omega)]
  rw [this]
  exact ⟨e, hk⟩
theorem row_pm {n : Nat} {φ : Nat → Int32} (h : RowOK n φ) (h7 : n ≤ 7) : PM n (toN φ) := ⟨fun i hi => (row_n h h7 hi).2, fun i j hi hj e => h.2 i j hi hj (by rw [(row_n h h7 hi).1, (row_n h h7 hj).1, e])⟩
theorem row_le {n : Nat} {φ : Nat → Int32} (h : RowOK n φ) (h7 : n ≤ 7) {i j : Nat} (hi : i < n) (hj : j < n) : φ i ≤ φ j ↔ toN φ i ≤ toN φ j := by
  have a := row_n h h7 hi
  have b := row_n h h7 hj
  rw [a.1, b.1, nle (by omega) (by omega)]
theorem row_lt {n : Nat} {φ : Nat → Int32} (h : RowOK n φ) (h7 : n ≤ 7) {i j : Nat} (hi : i < n) (hj : j < n) : φ i < φ j ↔ toN φ i < toN φ j := by
  have a := row_n h h7 hi
  have b := row_n h h7 hj
  rw [a.1, b.1, nlt (by omega) (by omega)]
theorem pm_row {n : Nat} {f : Nat → Nat} (h : PM n f) (h7 : n ≤ 7) : RowOK n (fun i => nI (f i)) := ⟨fun i hi => ⟨f i, h.1 i hi, rfl⟩, fun i j hi hj e => h.2 i j hi hj ((neq (by have := h.1 i hi; omega) (by have := h.1 j hj; omega)).mp e)⟩
theorem nx_row {n : Nat} {φ ψ : Nat → Int32} (h : RowOK n φ) (h7 : n ≤ 7) (hx : NxR n φ ψ) : RowOK n ψ ∧ ltR n (toN φ) (toN ψ) ∧ (∀ g, PM n g → ltR n (toN φ) g → ¬ ltR n g (toN ψ)) ∧ ∀ i, n ≤ i → ψ i = φ i := by
  obtain ⟨p, q, hpq, hq, c1, c2, c3, c4⟩ := hx
  have hg : ∀ i, i < n → toN ψ i = nxF n p q (toN φ) i := by
    intro i hi
    show (ψ i).toNatClampNeg = _
    rw [c4 i]
    unfold nxF
    split
    · rfl
    · split
      · rfl
      · split <;> rfl
  have sp := nx_spec (g := toN ψ) (row_pm h h7) hpq hq (fall_of (fun i h1 h2 => by
    have := c1 i h1 h2
    rw [row_le h h7 (by omega) h2] at this
    omega)) (by
    have := (row_le h h7 (by omega) hq).mp c2
    have ne : toN φ p ≠ toN φ q := fun z => by
      have := (row_pm h h7).2 p q (by omega) hq z
      omega
    omega) (fun i h1 h2 => by
    have := c3 i h1 h2
    rw [row_le h h7 (by omega) h2] at this
    omega) hg
  refine ⟨⟨fun i hi => ?_, fun i j hi hj e => sp.1.2 i j hi hj (by unfold toN; rw [e])⟩, sp.2.1, sp.2.2, fun i hi => ?_⟩
  · have : ∃ k, k < n ∧ ψ i = φ k := by
      rw [c4 i]
      split
      · exact ⟨i, hi, rfl⟩
      · split
        · exact ⟨q, hq, rfl⟩
        · split
          · exact ⟨p, by omega, rfl⟩
          · exact ⟨n + p - i, by omega, rfl⟩
    obtain ⟨k, hk, e⟩ := this
    rw [e]
    exact h.1 k hk
  · rw [c4 i, if_neg (by omega), if_neg (by omega), if_neg (by omega)]
theorem last_row {n : Nat} {φ : Nat → Int32} (h : RowOK n φ) (h7 : n ≤ 7) (hl : ∀ i, i + 1 < n → ¬ φ i ≤ φ (i + 1)) {g : Nat → Nat} (hg : PM n g) : ¬ ltR n (toN φ) g := fall_last (a := 0) (row_pm h h7) hg (fall_of (fun i _ h2 => by
  have := hl i h2
  rw [row_le h h7 (by omega) h2] at this
  omega)) (fun q hq => absurd hq (by omega))
/-- between a row and what it lets fall, all have its beginning -/
theorem lf_row {n a : Nat} {φ ψ : Nat → Int32} (h7 : n ≤ 7) (h : LfR n a φ ψ) {g : Nat → Nat} (hg : PM n g) : (∀ i, i < a → i < n → toN ψ i = toN φ i) ∧ (ltR n (toN φ) g → ¬ ltR n (toN ψ) g → ∀ i, i < a → i < n → g i = toN φ i) ∧ ((∀ i, i < a → g i = toN ψ i) → ¬ ltR n (toN ψ) g) := by
  have pre : ∀ i, i < a → toN ψ i = toN φ i := fun i hi => by unfold toN; rw [h.2.1 i (Or.inl hi)]
  refine ⟨fun i hi _ => pre i hi, fun h1 h2 i hi hin => ?_, fun he => ?_⟩
  · obtain ⟨p, hp, b, c⟩ := h1
    apply Classical.byContradiction
    intro z
    have pa : p ≤ i := by
      apply Classical.byContradiction
      intro y
      exact z (b i (by omega)).symm
    exact h2 ⟨p, hp, fun r hr => by rw [pre r (by omega)]; exact b r hr, by rw [pre p (by omega)]; exact c⟩
  · exact fall_last (a := a) (row_pm h.1 h7) hg (fun i j h1 h2 h3 => by
      have := h.2.2 i j h1 h2 h3
      rw [row_lt h.1 h7 (by omega) h3] at this
      have ne : toN ψ i ≠ toN ψ j := fun y => by
        have := (row_pm h.1 h7).2 i j (by omega) h3 y
        omega
      omega) he
