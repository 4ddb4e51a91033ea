/-! ways: the mathematics -/
def sumN (f : Nat → Nat) : Nat → Nat
  | 0 => 0
  | n + 1 => sumN f n + f n
theorem sumN_cong {f g : Nat → Nat} : ∀ {n : Nat}, (∀ i, i < n → f i = g i) → sumN f n = sumN g n
  | 0, _ => rfl
  | n + 1, h => by unfold sumN; rw [sumN_cong (fun i hi => h i (by omega)), h n (by omega)]
theorem sumN_one {f g : Nat → Nat} {j : Nat} : ∀ {n : Nat}, j < n → (∀ i, i < n → i ≠ j → g i = f i) → sumN g n + f j = sumN f n + g j
  | 0, hj, _ => absurd hj (by omega)
  | n + 1, hj, h => by
    unfold sumN
    by_cases e : j = n
    · subst e
      rw [sumN_cong (f := g) (g := f) (fun i hi => h i (by omega) (by omega))]
      omega
    · have := sumN_one (n := n) (show j < n by omega) (fun i hi ne => h i (by omega) ne)
      rw [h n (by omega) (by omega)]
      omega
theorem sumN_ne {f : Nat → Nat} : ∀ {n : Nat}, sumN f n ≠ 0 → ∃ i, i < n ∧ f i ≠ 0
  | 0, h => absurd rfl h
  | n + 1, h => by
    by_cases e : f n = 0
    · unfold sumN at h
      rw [e, Nat.add_zero] at h
      obtain ⟨i, h1, h2⟩ := sumN_ne h
      exact ⟨i, by omega, h2⟩
    · exact ⟨n, by omega, e⟩
theorem sumN_z {f : Nat → Nat} {n : Nat} (h : ∀ i, i < n → f i = 0) : sumN f n = 0 := by
  apply Classical.byContradiction
  intro z
  obtain ⟨i, h1, h2⟩ := sumN_ne z
  exact h2 (h i h1)
theorem sumN_le {f : Nat → Nat} {b : Nat} : ∀ {n : Nat}, (∀ i, i < n → f i ≤ b) → sumN f n ≤ n * b
  | 0, _ => by unfold sumN; omega
  | n + 1, h => by
    have a := sumN_le (n := n) (fun i hi => h i (by omega))
    have c := h n (by omega)
    unfold sumN
    rw [Nat.succ_mul]
    omega
theorem sumN_add {f g : Nat → Nat} : ∀ {n : Nat}, sumN (fun i => f i + g i) n = sumN f n + sumN g n
  | 0 => rfl
  | n + 1 => by
    have := sumN_add (f := f) (g := g) (n := n)
    unfold sumN
    omega
theorem sumN_comm {f : Nat → Nat → Nat} {m : Nat} : ∀ {n : Nat}, sumN (fun i => sumN (f i) m) n = sumN (fun j => sumN (fun i => f i j) n) m
  | 0 => (sumN_z (fun j _ => rfl)).symm
  | n + 1 => by
    have ih := sumN_comm (f := f) (m := m) (n := n)
    show sumN (fun i => sumN (f i) m) n + sumN (f n) m = sumN (fun j => sumN (fun i => f i j) n + f n j) m
    rw [sumN_add, ih]
theorem sumN_ge {f : Nat → Nat} {i : Nat} : ∀ {n : Nat}, i < n → f i ≤ sumN f n
  | 0, h => absurd h (by omega)
  | n + 1, h => by
    unfold sumN
    by_cases e : i = n
    · subst e; omega
    · have := sumN_ge (f := f) (n := n) (show i < n by omega)
      omega
theorem sumN_two {f : Nat → Nat} {i j : Nat} : ∀ {n : Nat}, i < j → j < n → f i + f j ≤ sumN f n
  | 0, _, h => absurd h (by omega)
  | n + 1, hij, h => by
    unfold sumN
    by_cases e : j = n
    · subst e
      have := sumN_ge (f := f) hij
      omega
    · have := sumN_two (f := f) (n := n) hij (by omega)
      omega
def Wy (m : Nat → Nat → Bool) : Nat → Nat → Nat
  | 0, s => if s = 0 then 1 else 0
  | l + 1, t => sumN (fun i => if (t.testBit i && m l i) = true then Wy m l (t - 2 ^ i) else 0) 7
def tot (m : Nat → Nat → Bool) (n : Nat) : Nat := sumN (Wy m n) 128
def pcN (s : Nat) : Nat := cnt (fun i => s.testBit i) 7
theorem fB1 : ∀ s, s < 128 → ∀ i, i < 7 → s.testBit i = false → s + 2 ^ i < 128 ∧ (s + 2 ^ i).testBit i = true ∧ pcN (s + 2 ^ i) = pcN s + 1 ∧ nI s ||| ((1 : Int32) <<< (nI i &&& 31)) = nI (s + 2 ^ i) := by decide +kernel
theorem fB2 : ∀ t, t < 128 → ∀ i, i < 7 → t.testBit i = true → 2 ^ i ≤ t ∧ (t - 2 ^ i).testBit i = false := by decide +kernel
theorem fB3 : ∀ s, s < 128 → ∀ i, i < 7 → bt (nI s) i = s.testBit i := by decide +kernel
theorem Wy_pc {m : Nat → Nat → Bool} : ∀ {l s : Nat}, s < 128 → Wy m l s ≠ 0 → pcN s = l
  | 0, s, _, h => by
    have : s = 0 := by
      apply Classical.byContradiction
      intro z
      exact h (if_neg z)
    subst this
    decide
  | l + 1, s, hs, h => by
    obtain ⟨i, hi, h2⟩ := sumN_ne h
    by_cases q : (s.testBit i && m l i) = true
    · have h3 : Wy m l (s - 2 ^ i) ≠ 0 := fun z => h2 (by show (if (s.testBit i && m l i) = true then Wy m l (s - 2 ^ i) else 0) = 0; rw [if_pos q, z])
      have q1 : s.testBit i = true := by simp at q; exact q.1
      obtain ⟨b1, b2⟩ := fB2 s hs i hi q1
      have ih := Wy_pc (m := m) (l := l) (s := s - 2 ^ i) (Nat.lt_of_le_of_lt (Nat.sub_le _ _) hs) h3
      obtain ⟨-, -, c, -⟩ := fB1 (s - 2 ^ i) (Nat.lt_of_le_of_lt (Nat.sub_le _ _) hs) i hi b2
      rw [Nat.sub_add_cancel b1] at c
      omega
    · exact absurd (by show (if (s.testBit i && m l i) = true then Wy m l (s - 2 ^ i) else 0) = 0; rw [if_neg q]) h2
theorem Wy_le {m : Nat → Nat → Bool} : ∀ {l s : Nat}, Wy m l s ≤ 7 ^ l
  | 0, s => by
    unfold Wy
    split <;> omega
  | l + 1, s => by
    have : Wy m (l + 1) s ≤ 7 * 7 ^ l := sumN_le (fun i hi => by
      split
      · exact Wy_le
      · exact Nat.zero_le _)
    rw [Nat.pow_succ]
    omega
theorem tot_pc {m : Nat → Nat → Bool} {n : Nat} : sumN (fun s => if pcN s = n then Wy m n s else 0) 128 = tot m n := sumN_cong (fun s hs => by
  by_cases q : pcN s = n
  · rw [if_pos q]
  · rw [if_neg q]
    apply Classical.byContradiction
    intro z
    exact q (Wy_pc hs (Ne.symm z)))
/-- what has come to t when the sets below s, and of s the guests below i, are passed -/
def ptN (m : Nat → Bool) (w : Nat → Nat) (t s i : Nat) : Nat := sumN (fun j => if (t.testBit j && m j && (decide (t - 2 ^ j < s) || (decide (t - 2 ^ j = s) && decide (j < i)))) = true then w (t - 2 ^ j) else 0) 7
theorem pt_0 {m : Nat → Bool} {w : Nat → Nat} {t : Nat} : ptN m w t 0 0 = 0 := sumN_z (fun j hj => by rw [if_neg (by simp)])
theorem pt_next {m : Nat → Bool} {w : Nat → Nat} {t s : Nat} : ptN m w t s 7 = ptN m w t (s + 1) 0 := sumN_cong (fun j hj => by
  have e : (decide (t - 2 ^ j < s) || (decide (t - 2 ^ j = s) && decide (j < 7))) = (decide (t - 2 ^ j < s + 1) || (decide (t - 2 ^ j = s + 1) && decide (j < 0))) := by
    by_cases a : t - 2 ^ j < s
    · simp [a, show t - 2 ^ j < s + 1 by omega]
    · by_cases b : t - 2 ^ j = s
      · simp [b, hj]
      · simp [a, b, show ¬ t - 2 ^ j < s + 1 by omega]
  rw [e])
theorem pt_end {m : Nat → Bool} {w : Nat → Nat} {t : Nat} (ht : t < 128) : ptN m w t 128 0 = sumN (fun j => if (t.testBit j && m j) = true then w (t - 2 ^ j) else 0) 7 := sumN_cong (fun j hj => by
  have : t - 2 ^ j < 128 := Nat.lt_of_le_of_lt (Nat.sub_le _ _) ht
  simp [this])
theorem pt_hit {m : Nat → Bool} {w : Nat → Nat} {s i : Nat} (hs : s < 128) (hi : i < 7) (hb : s.testBit i = false) (hm : m i = true) : ptN m w (s + 2 ^ i) s (i + 1) = ptN m w (s + 2 ^ i) s i + w s := by
  obtain ⟨-, b, -⟩ := fB1 s hs i hi hb
  have es : s + 2 ^ i - 2 ^ i = s := by omega
  have := sumN_one (j := i) (n := 7) hi (f := fun j => if ((s + 2 ^ i).testBit j && m j && (decide (s + 2 ^ i - 2 ^ j < s) || (decide (s + 2 ^ i - 2 ^ j = s) && decide (j < i)))) = true then w (s + 2 ^ i - 2 ^ j) else 0) (g := fun j => if ((s + 2 ^ i).testBit j && m j && (decide (s + 2 ^ i - 2 ^ j < s) || (decide (s + 2 ^ i - 2 ^ j = s) && decide (j < i + 1)))) = true then w (s + 2 ^ i - 2 ^ j) else 0) (fun j hj ne => by
    have : decide (j < i + 1) = decide (j < i) := by
      by_cases a : j < i
      · simp [a, show j < i + 1 by omega]
      · simp [a, show ¬ j < i + 1 by omega]
    rw [this])
  have f0 : (if ((s + 2 ^ i).testBit i && m i && (decide (s + 2 ^ i - 2 ^ i < s) || (decide (s + 2 ^ i - 2 ^ i = s) && decide (i < i)))) = true then w (s + 2 ^ i - 2 ^ i) else 0) = 0 := by rw [es, if_neg (by simp)]
  have g0 : (if ((s + 2 ^ i).testBit i && m i && (decide (s + 2 ^ i - 2 ^ i < s) || (decide (s + 2 ^ i - 2 ^ i = s) && decide (i < i + 1)))) = true then w (s + 2 ^ i - 2 ^ i) else 0) = w s := by rw [es, if_pos (by rw [b, hm]; simp)]
  replace this : ptN m w (s + 2 ^ i) s (i + 1) + (if ((s + 2 ^ i).testBit i && m i && (decide (s + 2 ^ i - 2 ^ i < s) || (decide (s + 2 ^ i - 2 ^ i = s) && decide (i < i)))) = true then w (s + 2 ^ i - 2 ^ i) else 0) = ptN m w (s + 2 ^ i) s i + (if ((s + 2 ^ i).testBit i && m i && (decide (s + 2 ^ i - 2 ^ i < s) || (decide (s + 2 ^ i - 2 ^ i = s) && decide (i < i + 1)))) = true then w (s + 2 ^ i - 2 ^ i) else 0) := this
  rw [f0, g0] at this
  omega
theorem pt_miss {m : Nat → Bool} {w : Nat → Nat} {t s i : Nat} (ht : t < 128) (hi : i < 7) (h : s.testBit i = true ∨ m i = false ∨ t ≠ s + 2 ^ i ∨ w s = 0) : ptN m w t s (i + 1) = ptN m w t s i := sumN_cong (fun j hj => by
  by_cases e : j = i
  · subst e
    by_cases q : t.testBit j = true ∧ m j = true ∧ t - 2 ^ j = s
    · obtain ⟨q1, q2, q3⟩ := q
      obtain ⟨b1, b2⟩ := fB2 t ht j hj q1
      rcases h with h | h | h | h
      · rw [q3, h] at b2; cases b2
      · rw [h] at q2; cases q2
      · exact absurd (by omega) h
      · rw [q3, h]; split <;> split <;> rfl
    · have : ¬ (t.testBit j && m j && (decide (t - 2 ^ j = s))) = true := fun z => q (by simp at z; exact ⟨z.1.1, z.1.2, z.2⟩)
      by_cases a : t.testBit j = true ∧ m j = true
      · have b : ¬ t - 2 ^ j = s := fun z => q ⟨a.1, a.2, z⟩
        simp [b]
      · have : (t.testBit j && m j) = false := by
          by_cases z : (t.testBit j && m j) = true
          · simp at z; exact absurd z a
          · simpa using z
        rw [this]
        rfl
  · have : decide (j < i + 1) = decide (j < i) := by
      by_cases a : j < i
      · simp [a, show j < i + 1 by omega]
      · simp [a, show ¬ j < i + 1 by omega]
    rw [this])
/-- the one of row k pinned to guest i -/
def pin (m : Nat → Nat → Bool) (k i : Nat) : Nat → Nat → Bool := fun l j => m l j && (decide (l ≠ k) || decide (j = i))
theorem pin_lo {m : Nat → Nat → Bool} {k i : Nat} : ∀ {l s : Nat}, l ≤ k → Wy (pin m k i) l s = Wy m l s
  | 0, _, _ => rfl
  | l + 1, s, h => sumN_cong (fun j hj => by
    have : pin m k i l j = m l j := by unfold pin; simp [show l ≠ k by omega]
    rw [this, pin_lo (by omega)])
theorem sumN_if {c : Bool} {f : Nat → Nat} {n : Nat} : sumN (fun i => if c = true then f i else 0) n = if c = true then sumN f n else 0 := by
  cases c
  · exact sumN_z (fun i _ => rfl)
  · rfl
theorem pin_sum {m : Nat → Nat → Bool} {k : Nat} : ∀ {l s : Nat}, k < l → sumN (fun i => Wy (pin m k i) l s) 7 = Wy m l s
  | 0, _, h => absurd h (by omega)
  | l + 1, s, h => by
    have sw : sumN (fun i => Wy (pin m k i) (l + 1) s) 7 = sumN (fun j => sumN (fun i => if (s.testBit j && pin m k i l j) = true then Wy (pin m k i) l (s - 2 ^ j) else 0) 7) 7 := sumN_comm (f := fun i j => if (s.testBit j && pin m k i l j) = true then Wy (pin m k i) l (s - 2 ^ j) else 0)
    rw [sw]
    refine sumN_cong (fun j hj => ?_)
    by_cases e : l = k
    · subst e
      have := sumN_one (j := j) (n := 7) hj (f := fun _ => 0) (g := fun i => if (s.testBit j && pin m l i l j) = true then Wy (pin m l i) l (s - 2 ^ j) else 0) (fun i hi ne => by
        have : pin m l i l j = false := by unfold pin; simp [Ne.symm ne]
        rw [this]
        simp)
      have z : sumN (fun _ => 0) 7 = 0 := rfl
      rw [z] at this
      have p : pin m l j l j = m l j := by unfold pin; simp
      replace this : sumN (fun i => if (s.testBit j && pin m l i l j) = true then Wy (pin m l i) l (s - 2 ^ j) else 0) 7 + 0 = 0 + (if (s.testBit j && pin m l j l j) = true then Wy (pin m l j) l (s - 2 ^ j) else 0) := this
      rw [p, pin_lo (Nat.le_refl _)] at this
      omega
    · have : ∀ i, pin m k i l j = m l j := fun i => by unfold pin; simp [e]
      have ih := pin_sum (m := m) (k := k) (l := l) (s := s - 2 ^ j) (by omega)
      rw [← ih, ← sumN_if]
      exact sumN_cong (fun i hi => by rw [this i])
theorem tot_sum {m : Nat → Nat → Bool} {k n : Nat} (h : k < n) : sumN (fun i => tot (pin m k i) n) 7 = tot m n := by
  unfold tot
  rw [sumN_comm (f := fun i s => Wy (pin m k i) n s)]
  exact sumN_cong (fun s hs => pin_sum h)
/-- at most one is sure -/
theorem tot_one {m : Nat → Nat → Bool} {k n i j : Nat} (h : k < n) (h0 : 0 < tot m n) (hi : i < 7) (hj : j < 7) (ei : tot (pin m k i) n = tot m n) (ej : tot (pin m k j) n = tot m n) : i = j := by
  have s := tot_sum (m := m) h
  rcases Nat.lt_trichotomy i j with q | q | q
  · have := sumN_two (f := fun i => tot (pin m k i) n) q hj
    replace this : tot (pin m k i) n + tot (pin m k j) n ≤ sumN (fun i => tot (pin m k i) n) 7 := this
    omega
  · exact q
  · have := sumN_two (f := fun i => tot (pin m k i) n) q hi
    replace this : tot (pin m k j) n + tot (pin m k i) n ≤ sumN (fun i => tot (pin m k i) n) 7 := this
    omega
theorem tot_lt {m : Nat → Nat → Bool} {n : Nat} (h : n ≤ 6) : tot m n < 2 ^ 31 := by
  have a : tot m n ≤ 128 * 7 ^ n := sumN_le (fun s _ => Wy_le)
  have b : 7 ^ n ≤ 7 ^ 6 := Nat.pow_le_pow_right (by omega) h
  omega
