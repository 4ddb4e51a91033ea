/-! order: rows that agree as far as the nights look are alike -/
theorem row_wt {V σ : Mem} {n : Nat} (h : VOK V) (ha : ∀ p, p < ngV V → wtS V σ n (rwN V p) = false) {i : Nat} (hi : i < ngV V) : wtS V σ n i = false := by
  obtain ⟨p, hp, e⟩ := row_on (n := ngV V) (f := rwN V) (fun j hj => (rwN_lt h hj).1) (fun a b ha hb => rw_inj h ha hb) i hi
  rw [← e]
  exact ha p hp
theorem give_pref {V : Mem} {f : Nat → Int32} (h : VOK V) (h' : VOK (wrA V 5 f)) {d : Nat} (hag : ∀ q, q ≤ d → f q = V 5 q) {s : Mem × Nat} {b n : Nat} (hd : (giveS V s b n).2 ≤ d) : giveS (wrA V 5 f) s b n = giveS V s b n := by
  have er : ∀ q, q ≤ d → rwN (wrA V 5 f) q = rwN V q := fun q hq => by
    show (f q).toNatClampNeg = (V 5 q).toNatClampNeg
    rw [hag q hq]
  rcases clS_spec (V := V) (σ := s.1) (n := n) h with ⟨hc, hn⟩ | ⟨p, hc, hp, hr, hw, hb⟩
  · have : clS (wrA V 5 f) s.1 n = none := fstP_no (fun q hq => row_wt h hn (rwN_lt h' hq).1)
    rw [giveS_none hc, giveS_none this]
  · rw [giveS_some hc] at hd
    have pd : p ≤ d := by
      have : max s.2 p ≤ d := hd
      omega
    have : clS (wrA V 5 f) s.1 n = some p := by
      refine fstP_eq hp ?_ (fun q hq => ?_)
      · show wtS V s.1 n (rwN (wrA V 5 f) p) = true
        rw [er p pd]
        exact hw
      · show wtS V s.1 n (rwN (wrA V 5 f) q) = false
        rw [er q (by omega)]
        exact hb q hq
    rw [giveS_some hc, giveS_some this, er p pd]
    rfl
theorem beds_pref {V : Mem} {f : Nat → Int32} (h : VOK V) (h' : VOK (wrA V 5 f)) {d n : Nat} (hag : ∀ q, q ≤ d → f q = V 5 q) {s : Mem × Nat} (hs : s.2 < ngV V) : ∀ {k : Nat}, (bedS V n k s).2 ≤ d → bedS (wrA V 5 f) n k s = bedS V n k s
  | 0, _ => rfl
  | k + 1, hd => by
    have a := dp_beds (n := n) h (k := k) hs
    have g := dp_give (s := bedS V n k s) (b := k) (n := n) h a.1
    have ih := beds_pref h h' hag hs (n := n) (k := k) (by
      have : (giveS V (bedS V n k s) k n).2 ≤ d := hd
      omega)
    show giveS (wrA V 5 f) (bedS (wrA V 5 f) n k s) k n = giveS V (bedS V n k s) k n
    rw [ih]
    exact give_pref h h' hag hd
theorem sim_pref {V : Mem} {f : Nat → Int32} (h : VOK V) (h' : VOK (wrA V 5 f)) {d : Nat} (hag : ∀ q, q ≤ d → f q = V 5 q) : ∀ {n : Nat}, (simN V n).2 ≤ d → simN (wrA V 5 f) n = simN V n
  | 0, _ => rfl
  | n + 1, hd => by
    have a := dp_sim h n
    have g := dp_beds (n := n) h (k := opV V) a
    have ih := sim_pref h h' hag (n := n) (by
      have : (bedS V n (opV V) (simN V n)).2 ≤ d := hd
      omega)
    show bedS (wrA V 5 f) n (opV V) (simN (wrA V 5 f) n) = bedS V n (opV V) (simN V n)
    rw [ih]
    exact beds_pref h h' hag a hd
/-- a row that agrees with one passed, whole or cut at a bound, as far as was looked: the same sum, or not below the bound either -/
theorem all_pref {V : Mem} {f : Nat → Int32} (h : VOK V) (h' : VOK (wrA V 5 f)) {n : Nat} {bd : Int32} (hn : n ≤ 30) (hag : ∀ q, q ≤ (simN V n).2 → f q = V 5 q) (hs : bd ≤ lsum (simN V n).1 (ngV V) ∨ simN V n = simN V 30) : (simN V n = simN V 30 ∧ allS (wrA V 5 f) = allS V) ∨ bd ≤ allS (wrA V 5 f) := by
  have e := sim_pref h h' hag (n := n) (Nat.le_refl _)
  rcases hs with q | q
  · right
    have := lsum_le h' (n := n) (m := 30 - n) (by omega)
    rw [show n + (30 - n) = 30 by omega, e] at this
    rw [fa_le] at q ⊢
    replace this : (lsum (simN V n).1 (ngV V)).toInt ≤ (allS (wrA V 5 f)).toInt := this
    omega
  · left
    refine ⟨q, ?_⟩
    rw [q] at hag
    have e2 := sim_pref h h' hag (n := 30) (Nat.le_refl _)
    unfold allS
    rw [e2]
    rfl
