/-! what the inn is, as numbers: V 0 inches, 1 nights of coming, 2 kinds, 3 friends, 4 worn, 5 the row, 6 lengths, 7 feasts, 8 the rival's; V 9: guests, beds, rival's beds, law, turning, year, open beds -/
def nrm (n : Nat) (f : Nat → Int32) : Nat → Int32 := fun i => if i < n then f i else 0
theorem nrm_in {n : Nat} {f : Nat → Int32} {i : Nat} (h : i < n) : nrm n f i = f i := if_pos h
theorem nrm_cong {n : Nat} {f g : Nat → Int32} (h : ∀ i, i < n → f i = g i) : nrm n f = nrm n g := by
  funext i
  unfold nrm
  split
  · exact h i (by assumption)
  · rfl
theorem nrm_upd {n : Nat} {f : Nat → Int32} {k : Nat} {v : Int32} (h : k < n) : nrm n (upd f k v) = upd (nrm n f) k v := by
  funext i
  unfold nrm upd
  by_cases e : i = k
  · subst e; simp [h]
  · simp [e]
def ngV (V : Mem) : Nat := (V 9 0).toNatClampNeg
def nbV (V : Mem) : Nat := (V 9 1).toNatClampNeg
def nrV (V : Mem) : Nat := (V 9 2).toNatClampNeg
def opV (V : Mem) : Nat := (V 9 6).toNatClampNeg
def rgI (x : Int32) (a b : Int) : Prop := a ≤ x.toInt ∧ x.toInt ≤ b
def VOK (V : Mem) : Prop :=
  (V 9 0 = nI (ngV V) ∧ 1 ≤ ngV V ∧ ngV V ≤ 7) ∧ (V 9 1 = nI (nbV V) ∧ 1 ≤ nbV V ∧ nbV V ≤ 4) ∧ (V 9 6 = nI (opV V) ∧ opV V ≤ nbV V) ∧ (V 9 2 = nI (nrV V) ∧ nrV V ≤ 4) ∧
  (∀ i, i < ngV V → rgI (V 0 i) 40 99 ∧ rgI (V 1 i) 0 18 ∧ rgI (V 2 i) 0 4 ∧ rgI (V 4 i) (-9) 9 ∧ ∃ k, k < ngV V ∧ V 5 i = nI k) ∧
  (∀ i j, i < ngV V → j < ngV V → V 5 i = V 5 j → i = j) ∧
  (∀ b, b < nbV V → rgI (V 6 b) 40 99) ∧ (∀ n, n < 30 → rgI (V 7 n) 0 36) ∧ (∀ k, k < nrV V → rgI (V 8 k) 40 99) ∧
  (V 9 3 = 0 ∨ V 9 3 = 1 ∨ V 9 3 = 2) ∧ (V 9 4 = 0 ∨ V 9 4 = 1) ∧ (V 9 5 = -1 ∨ (rgI (V 9 5) 0 9999 ∧ V 9 4 = 0))
/-! harm -/
def hK (k o : Int32) : Int32 :=
  if k = 1 ∧ 0 < o then (if 6 < o then o - 6 else 0)
  else if k = 2 ∧ o < 0 then 2 * (-o)
  else if k = 3 then (if 2 < (if o < 0 then -o else o) then (if o < 0 then -o else o) - 2 else 0)
  else (if o < 0 then -o else o)
def drw (y n b : Int32) : Int32 :=
  let q : Int64 := 7919 * y.toInt64 + 6151 * n.toInt64 + 101 * b.toInt64 + 1
  let r : Int64 := q * q - q * q / 65521 * 65521
  (r - r / 7 * 7).toInt32
def lyS (V : Mem) (b n : Nat) : Nat := if V 9 4 = 1 ∧ n % 2 = 1 then (if b + 1 = nbV V then 0 else b + 1) else b
def lenS (V : Mem) (b n : Nat) : Int32 := if V 9 5 = -1 then V 6 (lyS V b n) + V 7 n else V 6 (lyS V b n) + V 7 n + (drw (V 9 5) (nI n) (nI b) - 3)
def grS (V : Mem) (i n : Nat) : Int32 := if V 2 i = 4 ∧ V 1 i < nI n then nI n - V 1 i else 0
def hS (V : Mem) (i b n : Nat) : Int32 := hK (V 2 i) (V 0 i + V 4 i + grS V i n - lenS V b n)
/-! nights: σ 0 the night on which he lies (-4: not yet), 1 the bed, 2 harm (50), 3 who named him, 4 how often called; beside it the deepest place looked at -/
def wtS (V σ : Mem) (n i : Nat) : Bool := decide (σ 0 i < 0) && decide (V 1 i ≤ nI n)
def rwN (V : Mem) (p : Nat) : Nat := (V 5 p).toNatClampNeg
def clS (V σ : Mem) (n : Nat) : Option Nat := fstP (fun p => wtS V σ n (rwN V p)) (ngV V)
def mayS (V σ : Mem) (n c j : Nat) : Bool := decide (j ≠ c) && wtS V σ n j && (decide (V 9 3 = 2) || (decide (V 9 3 = 1) && bt (V 3 c) j))
def nmS (V σ : Mem) (b n c : Nat) : Option Nat := bestP (mayS V σ n c) (fun j => hS V j b n) (ngV V)
def whoS (V σ : Mem) (b n c : Nat) : Nat × Int32 := match nmS V σ b n c with
  | some j => if hS V j b n < hS V c b n then (j, nI c) else (c, -4)
  | none => (c, -4)
def lieS (V σ : Mem) (i b n : Nat) (nam : Int32) : Mem := wr (wr (wr (wr σ 0 i (nI n)) 1 i (nI b)) 2 i (hS V i b n)) 3 i nam
def giveS (V : Mem) (s : Mem × Nat) (b n : Nat) : Mem × Nat := match clS V s.1 n with
  | none => s
  | some p => (lieS V (wr s.1 4 (rwN V p) (s.1 4 (rwN V p) + 1)) (whoS V s.1 b n (rwN V p)).1 b n (whoS V s.1 b n (rwN V p)).2, max s.2 p)
def bedS (V : Mem) (n : Nat) : Nat → Mem × Nat → Mem × Nat
  | 0, s => s
  | b + 1, s => giveS V (bedS V n b s) b n
def sg0 : Mem := fun k _ => match k with
  | 0 => -4
  | 2 => 50
  | _ => 0
def simN (V : Mem) : Nat → Mem × Nat
  | 0 => (sg0, 0)
  | n + 1 => bedS V n (opV V) (simN V n)
def sumI (f : Nat → Int32) : Nat → Int32
  | 0 => 0
  | n + 1 => sumI f n + f n
def allS (V : Mem) : Int32 := sumI ((simN V 30).1 2) (ngV V)
theorem sumI_cong {f g : Nat → Int32} : ∀ {n : Nat}, (∀ i, i < n → f i = g i) → sumI f n = sumI g n
  | 0, _ => rfl
  | n + 1, h => by unfold sumI; rw [sumI_cong (fun i hi => h i (Nat.lt_succ_of_lt hi)), h n (Nat.lt_succ_self n)]
theorem sumI_out {f : Nat → Int32} {k : Nat} {v : Int32} : ∀ {n : Nat}, n ≤ k → sumI (upd f k v) n = sumI f n := fun h => sumI_cong (fun i hi => by unfold upd; rw [if_neg (by omega)])
theorem sumI_upd {f : Nat → Int32} {k : Nat} {v : Int32} : ∀ {n : Nat}, k < n → sumI (upd f k v) n = sumI f n - f k + v
  | 0, h => absurd h (Nat.not_lt_zero k)
  | n + 1, h => by
    unfold sumI
    by_cases e : k = n
    · subst e
      rw [sumI_out (Nat.le_refl k)]
      have : upd f k v k = v := by simp [upd]
      rw [this]
      grind
    · rw [sumI_upd (show k < n by omega)]
      have : upd f k v n = f n := by unfold upd; rw [if_neg (by omega)]
      rw [this]
      grind
theorem sumI_rg {f : Nat → Int32} {c : Int} (hc : 0 ≤ c) (hc2 : c ≤ 1000) : ∀ {n : Nat}, n ≤ 7 → (∀ i, i < n → rgI (f i) 0 c) → rgI (sumI f n) 0 (n * c)
  | 0, _, _ => by constructor <;> simp [sumI]
  | n + 1, hn, h => by
    have ih := sumI_rg hc hc2 (n := n) (by omega) (fun i hi => h i (by omega))
    have h1 := h n (by omega)
    unfold sumI
    unfold rgI at *
    have e : ((n + 1 : Nat) : Int) * c = n * c + c := by rw [Int.natCast_add, Int.add_mul]; simp
    have b : (n : Int) * c ≤ 7 * 1000 := Int.mul_le_mul (by omega) hc2 hc (by omega)
    rw [e, fb_addI (by omega) (by omega)]
    omega
/-- the sum of those that lie -/
def lsum (σ : Mem) (n : Nat) : Int32 := sumI (fun i => if 0 ≤ σ 0 i then σ 2 i else 0) n
def lies (σ : Mem) (i : Nat) : Bool := decide (0 ≤ σ 0 i)
theorem total_eq {σ : Mem} : ∀ {n : Nat}, (∀ i, i < n → ¬ 0 ≤ σ 0 i → σ 2 i = 50) → lsum σ n + 50 * (nI n - nI (cnt (lies σ) n)) = sumI (σ 2) n
  | 0, _ => by unfold lsum sumI cnt; decide
  | n + 1, h => by
    have ih := total_eq (σ := σ) (n := n) (fun i hi => h i (by omega))
    unfold lsum at *
    unfold sumI cnt
    rw [← ih]
    by_cases e : 0 ≤ σ 0 n
    · have : lies σ n = true := by simp [lies, e]
      rw [if_pos e, this, if_pos rfl, ← nI_1, ← nI_1]
      grind
    · have : lies σ n = false := by simp [lies, e]
      rw [if_neg e, this, if_neg (by simp), h n (by omega) e, Nat.add_zero, ← nI_1]
      grind
