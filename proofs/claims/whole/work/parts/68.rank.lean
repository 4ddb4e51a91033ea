/-! how many rows come before: at most 5040 -/
theorem cnt_mono {P R : Nat → Bool} : ∀ {n : Nat}, (∀ v, v < n → P v = true → R v = true) → cnt P n ≤ cnt R n
  | 0, _ => Nat.le_refl _
  | n + 1, h => by
    have ih := cnt_mono (P := P) (R := R) (n := n) (fun v hv => h v (by omega))
    show cnt P n + (if P n = true then 1 else 0) ≤ cnt R n + (if R n = true then 1 else 0)
    by_cases e : P n = true
    · rw [if_pos e, if_pos (h n (by omega) e)]; omega
    · rw [if_neg e]; omega
theorem cnt_ins {P : Nat → Bool} {k : Nat} (hp : P k = false) : ∀ {n : Nat}, k < n → cnt (fun v => P v || decide (v = k)) n = cnt P n + 1
  | 0, h => absurd h (by omega)
  | n + 1, h => by
    show cnt (fun v => P v || decide (v = k)) n + (if (P n || decide (n = k)) = true then 1 else 0) = cnt P n + (if P n = true then 1 else 0) + 1
    by_cases e : n = k
    · subst e
      rw [cnt_cong (q := P) (fun i hi => by simp [show i ≠ n by omega]), hp]
      simp
    · rw [cnt_ins hp (n := n) (by omega)]
      by_cases q : P n = true
      · simp [q]
      · simp [q, e]
theorem cnt_disj {P R : Nat → Bool} : ∀ {n : Nat}, (∀ v, v < n → P v = true → R v = false) → cnt P n + cnt R n ≤ n
  | 0, _ => Nat.le_refl _
  | n + 1, h => by
    have ih := cnt_disj (P := P) (R := R) (n := n) (fun v hv => h v (by omega))
    show cnt P n + (if P n = true then 1 else 0) + (cnt R n + (if R n = true then 1 else 0)) ≤ n + 1
    by_cases e : P n = true
    · rw [if_pos e, if_neg (by rw [h n (by omega) e]; simp)]; omega
    · rw [if_neg e]
      split <;> omega
theorem any_t {P : Nat → Bool} {i : Nat} (h : P i = true) : ∀ {n : Nat}, i < n → anyP P n = true
  | 0, hi => absurd hi (by omega)
  | n + 1, hi => by
    unfold anyP
    by_cases e : i = n
    · rw [← e, h]; simp
    · rw [any_t h (show i < n by omega)]; rfl
theorem any_f {P : Nat → Bool} : ∀ {n : Nat}, (∀ i, i < n → P i = false) → anyP P n = false
  | 0, _ => rfl
  | n + 1, h => by unfold anyP; rw [any_f (fun i hi => h i (by omega)), h n (by omega)]; rfl
theorem any_cong {P R : Nat → Bool} : ∀ {n : Nat}, (∀ i, i < n → P i = R i) → anyP P n = anyP R n
  | 0, _ => rfl
  | n + 1, h => by unfold anyP; rw [any_cong (fun i hi => h i (by omega)), h n (by omega)]
def usd (f : Nat → Nat) (m v : Nat) : Bool := anyP (fun q => decide (v = f q)) m
theorem usd_cnt {n : Nat} {f : Nat → Nat} (hf : PM n f) : ∀ {m : Nat}, m ≤ n → cnt (usd f m) n = m
  | 0, _ => by
    have : ∀ k, cnt (usd f 0) k = 0 := by
      intro k
      induction k with
      | zero => rfl
      | succ k ih => show cnt (usd f 0) k + (if usd f 0 k = true then 1 else 0) = 0; rw [ih]; rfl
    exact this n
  | m + 1, hm => by
    have ih := usd_cnt hf (m := m) (by omega)
    have e : cnt (usd f (m + 1)) n = cnt (fun v => usd f m v || decide (v = f m)) n := rfl
    rw [e, cnt_ins (P := usd f m) (any_f (fun q hq => decide_eq_false (fun z => by
      have := hf.2 m q (by omega) (by omega) z
      omega))) (hf.1 m (by omega)), ih]
def digR (n : Nat) (f : Nat → Nat) (i : Nat) : Nat := cnt (fun v => decide (v < f i) && !usd f i v) n
theorem dig_le {n : Nat} {f : Nat → Nat} (hf : PM n f) {i : Nat} (hi : i < n) : digR n f i + (i + 1) ≤ n := by
  have a := cnt_disj (P := fun v => decide (v < f i) && !usd f i v) (R := usd f (i + 1)) (n := n) (fun v hv h => by
    simp at h
    show (usd f i v || decide (v = f i)) = false
    simp [h.2, show v ≠ f i by omega])
  rw [usd_cnt hf (by omega)] at a
  exact a
theorem dig_lt {n : Nat} {f g : Nat → Nat} (hf : PM n f) {p : Nat} (hp : p < n) (he : ∀ q, q < p → f q = g q) (hl : f p < g p) : digR n f p < digR n g p := by
  have eu : ∀ v, usd f p v = usd g p v := fun v => any_cong (fun q hq => by rw [he q hq])
  have nu : usd f p (f p) = false := any_f (fun q hq => decide_eq_false (fun z => by
    have := hf.2 p q hp (by omega) z
    omega))
  have a := cnt_ins (P := fun v => decide (v < f p) && !usd f p v) (k := f p) (by simp) (n := n) (hf.1 p hp)
  have b := cnt_mono (P := fun v => (decide (v < f p) && !usd f p v) || decide (v = f p)) (R := fun v => decide (v < g p) && !usd g p v) (n := n) (fun v hv h => by
    simp at h
    rcases h with ⟨h1, h2⟩ | h1
    · have : usd g p v = false := by rw [← eu v]; exact h2
      simp [this, show v < g p by omega]
    · subst h1
      have : usd g p (f p) = false := by rw [← eu]; exact nu
      simp [this, hl])
  unfold digR
  omega
theorem dig_eq {n : Nat} {f g : Nat → Nat} {i : Nat} (he : ∀ q, q ≤ i → f q = g q) : digR n f i = digR n g i := by
  unfold digR
  refine cnt_cong (fun v hv => ?_)
  have eu : usd f i v = usd g i v := any_cong (fun q hq => by rw [he q (by omega)])
  rw [eu, he i (Nat.le_refl _)]
def hoR (n : Nat) (f : Nat → Nat) : Nat → Nat
  | 0 => 0
  | i + 1 => hoR n f i * (n - i) + digR n f i
def boR (n : Nat) : Nat → Nat
  | 0 => 1
  | i + 1 => boR n i * (n - i)
def rkR (n : Nat) (f : Nat → Nat) : Nat := hoR n f n
theorem ho_lt {n : Nat} {f : Nat → Nat} (hf : PM n f) : ∀ {i : Nat}, i ≤ n → hoR n f i < boR n i
  | 0, _ => by show 0 < 1; omega
  | i + 1, hi => by
    have ih := ho_lt hf (i := i) (by omega)
    have d := dig_le hf (i := i) (by omega)
    show hoR n f i * (n - i) + digR n f i < boR n i * (n - i)
    have : (hoR n f i + 1) * (n - i) ≤ boR n i * (n - i) := Nat.mul_le_mul_right _ ih
    rw [Nat.succ_mul] at this
    omega
theorem bo_7 : ∀ n, n ≤ 7 → boR n n ≤ 5040 := by decide +kernel
theorem rk_lt {n : Nat} {f : Nat → Nat} (hf : PM n f) (hn : n ≤ 7) : rkR n f < 5040 := Nat.lt_of_lt_of_le (ho_lt hf (Nat.le_refl _)) (bo_7 n hn)
theorem ho_eq {n : Nat} {f g : Nat → Nat} : ∀ {i : Nat}, (∀ q, q < i → f q = g q) → hoR n f i = hoR n g i
  | 0, _ => rfl
  | i + 1, h => by
    show hoR n f i * (n - i) + digR n f i = hoR n g i * (n - i) + digR n g i
    rw [ho_eq (fun q hq => h q (by omega)), dig_eq (fun q hq => h q (by omega))]
theorem ho_mono {n : Nat} {f g : Nat → Nat} (hf : PM n f) {p : Nat} (hp : p < n) (he : ∀ q, q < p → f q = g q) (hl : f p < g p) : ∀ m, p + 1 + m ≤ n → hoR n f (p + 1 + m) < hoR n g (p + 1 + m)
  | 0, _ => by
    show hoR n f p * (n - p) + digR n f p < hoR n g p * (n - p) + digR n g p
    rw [ho_eq he]
    have := dig_lt hf hp he hl
    omega
  | m + 1, h => by
    have ih := ho_mono hf hp he hl m (by omega)
    have d := dig_le hf (i := p + 1 + m) (by omega)
    show hoR n f (p + 1 + m) * (n - (p + 1 + m)) + digR n f (p + 1 + m) < hoR n g (p + 1 + m) * (n - (p + 1 + m)) + digR n g (p + 1 + m)
    have : (hoR n f (p + 1 + m) + 1) * (n - (p + 1 + m)) ≤ hoR n g (p + 1 + m) * (n - (p + 1 + m)) := Nat.mul_le_mul_right _ ih
    rw [Nat.succ_mul] at this
    omega
theorem rk_mono {n : Nat} {f g : Nat → Nat} (hf : PM n f) (h : ltR n f g) : rkR n f < rkR n g := by
  obtain ⟨p, hp, he, hl⟩ := h
  have := ho_mono hf hp he hl (n - (p + 1)) (by omega)
  rw [show p + 1 + (n - (p + 1)) = n by omega] at this
  exact this
