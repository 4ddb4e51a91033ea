/-! the text, read: the mathematics -/
def fg (t : Nat → Int32) (p : Nat) : Bool := decide (48 ≤ t p) && decide (t p ≤ 57)
def rdN (t : Nat → Int32) (p : Nat) : Option (Int32 × Nat) := if fg t p = true then (if fg t (p + 1) = true then some (10 * (t p - 48) + t (p + 1) - 48, p + 2) else some (t p - 48, p + 1)) else none
def rdR (t : Nat → Int32) : Nat → Nat → Option (List Int32 × Nat)
  | 0, _ => none
  | f + 1, p => match rdN t p with
    | none => none
    | some (v, q) => if t q = 59 then some ([v], q + 1) else if t q = 44 then (match rdR t f (q + 1) with
      | none => none
      | some (l, e) => some (v :: l, e)) else none
def TX (t : Nat → Int32) (n : Nat) : Prop := n ≤ 200 ∧ ∀ p, n ≤ p → t p = 0
theorem TX.lt {t : Nat → Int32} {n p : Nat} (h : TX t n) (q : ¬ t p = 0) : p < n := by
  rcases Nat.lt_or_ge p n with z | z
  · exact z
  · exact absurd (h.2 p z) q
theorem fg_iff {t : Nat → Int32} {p : Nat} : fg t p = true ↔ 48 ≤ t p ∧ t p ≤ 57 := by unfold fg; simp
theorem TX.fg {t : Nat → Int32} {n p : Nat} (h : TX t n) (q : fg t p = true) : p < n := by
  refine h.lt (fun z => ?_)
  have := (fg_iff.mp q).1
  rw [z] at this
  exact absurd this (by decide)
theorem rdN_q {t : Nat → Int32} {n p q : Nat} {v : Int32} (h : TX t n) (e : rdN t p = some (v, q)) : p < n ∧ p + 1 ≤ q ∧ q ≤ p + 2 ∧ q ≤ n := by
  unfold rdN at e
  by_cases h1 : fg t p = true
  · have a := h.fg h1
    rw [if_pos h1] at e
    by_cases h2 : fg t (p + 1) = true
    · have b := h.fg h2
      rw [if_pos h2] at e
      cases e
      omega
    · rw [if_neg h2] at e
      cases e
      omega
  · rw [if_neg h1] at e
    cases e
theorem rdR_e {t : Nat → Int32} {n : Nat} (h : TX t n) : ∀ {f p : Nat} {l : List Int32} {e : Nat}, rdR t f p = some (l, e) → 1 ≤ l.length ∧ l.length ≤ f ∧ p + 2 ≤ e ∧ e ≤ n
  | 0, p, l, e, q => by cases q
  | f + 1, p, l, e, q => by
    unfold rdR at q
    cases hr : rdN t p with
    | none => rw [hr] at q; cases q
    | some w =>
      obtain ⟨v, k⟩ := w
      rw [hr] at q
      dsimp only at q
      have a := rdN_q h hr
      by_cases h1 : t k = 59
      · rw [if_pos h1] at q
        cases q
        have : k < n := h.lt (by rw [h1]; decide)
        simp only [List.length_singleton]
        omega
      · rw [if_neg h1] at q
        by_cases h2 : t k = 44
        · rw [if_pos h2] at q
          cases hs : rdR t f (k + 1) with
          | none => rw [hs] at q; cases q
          | some w2 =>
            obtain ⟨l2, e2⟩ := w2
            rw [hs] at q
            cases q
            have b := rdR_e h hs
            simp only [List.length_cons]
            omega
        · rw [if_neg h2] at q
          cases q
/-! what the reference reads: just r numbers -/
def rfR (t : Nat → Int32) : Nat → Nat → Option (List Int32 × Nat)
  | 0, p => some ([], p)
  | r + 1, p => match rdN t p with
    | none => none
    | some (v, q) => if t q = (if r = 0 then 59 else 44) then (match rfR t r (q + 1) with
      | none => none
      | some (l, e) => some (v :: l, e)) else none
theorem rfR_iff {t : Nat → Int32} : ∀ {r f p : Nat} {l : List Int32} {e : Nat}, r < f → (rfR t (r + 1) p = some (l, e) ↔ rdR t f p = some (l, e) ∧ l.length = r + 1)
  | r, 0, p, l, e, h => absurd h (Nat.not_lt_zero r)
  | 0, f + 1, p, l, e, h => by
    unfold rfR rdR
    cases hr : rdN t p with
    | none => simp
    | some w =>
      obtain ⟨v, k⟩ := w
      dsimp only
      rw [if_pos rfl]
      by_cases h1 : t k = 59
      · rw [if_pos h1, if_pos h1]
        constructor
        · intro q; cases q; exact ⟨rfl, rfl⟩
        · rintro ⟨q, -⟩; cases q; rfl
      · rw [if_neg h1, if_neg h1]
        constructor
        · intro q; cases q
        · rintro ⟨q, q2⟩
          exfalso
          by_cases h2 : t k = 44
          · rw [if_pos h2] at q
            cases hs : rdR t f (k + 1) with
            | none => rw [hs] at q; cases q
            | some w2 =>
              rw [hs] at q
              cases q
              have : w2.1.length = 0 := by simpa using q2
              cases f with
              | zero => cases hs
              | succ f =>
                unfold rdR at hs
                cases hr2 : rdN t (k + 1) with
                | none => rw [hr2] at hs; cases hs
                | some w3 =>
                  obtain ⟨v3, k3⟩ := w3
                  rw [hr2] at hs
                  dsimp only at hs
                  by_cases z1 : t k3 = 59
                  · rw [if_pos z1] at hs; cases hs; cases this
                  · rw [if_neg z1] at hs
                    by_cases z2 : t k3 = 44
                    · rw [if_pos z2] at hs
                      cases hs2 : rdR t f (k3 + 1) with
                      | none => rw [hs2] at hs; cases hs
                      | some w4 => rw [hs2] at hs; cases hs; cases this
                    · rw [if_neg z2] at hs; cases hs
          · rw [if_neg h2] at q
            cases q
  | r + 1, f + 1, p, l, e, h => by
    unfold rfR rdR
    cases hr : rdN t p with
    | none => simp
    | some w =>
      obtain ⟨v, k⟩ := w
      dsimp only
      rw [if_neg (Nat.succ_ne_zero r)]
      by_cases h1 : t k = 59
      · rw [if_pos h1, if_neg (by rw [h1]; decide)]
        constructor
        · intro q; cases q
        · rintro ⟨q, q2⟩; cases q; simp at q2
      · rw [if_neg h1]
        by_cases h2 : t k = 44
        · rw [if_pos h2, if_pos h2]
          constructor
          · intro q
            cases hs : rfR t (r + 1) (k + 1) with
            | none => rw [hs] at q; cases q
            | some w2 =>
              obtain ⟨l2, e2⟩ := w2
              rw [hs] at q
              cases q
              have a := (rfR_iff (r := r) (f := f) (by omega)).mp hs
              rw [a.1]
              exact ⟨rfl, by rw [List.length_cons, a.2]⟩
          · rintro ⟨q, q2⟩
            cases hs : rdR t f (k + 1) with
            | none => rw [hs] at q; cases q
            | some w2 =>
              obtain ⟨l2, e2⟩ := w2
              rw [hs] at q
              cases q
              have a := (rfR_iff (r := r) (f := f) (by omega)).mpr ⟨hs, by simpa using q2⟩
              rw [a]
        · rw [if_neg h2, if_neg h2]
          constructor
          · intro q; cases q
          · rintro ⟨q, -⟩; cases q
/-! the draft: inches, nights, kinds, friends (0 to 3), lengths 6, feasts 7, the rival's 8, the law 9 0; guests, beds, feasts, rival's beds -/
abbrev Dt : Type := Mem × Nat × Nat × Nat × Nat
def stp (c : Int32) (l : List Int32) (d : Dt) : Option Dt := match l with
  | [a] => if c = 98 then (if 40 ≤ a ∧ a ≤ 99 ∧ d.2.2.1 < 4 then some (wr d.1 6 d.2.2.1 a, d.2.1, d.2.2.1 + 1, d.2.2.2.1, d.2.2.2.2) else none)
    else if c = 107 then (if 0 ≤ a ∧ a ≤ 2 then some (wr d.1 9 0 a, d.2.1, d.2.2.1, d.2.2.2.1, d.2.2.2.2) else none)
    else if c = 114 then (if 40 ≤ a ∧ a ≤ 99 ∧ d.2.2.2.2 < 4 then some (wr d.1 8 d.2.2.2.2 a, d.2.1, d.2.2.1, d.2.2.2.1, d.2.2.2.2 + 1) else none)
    else none
  | [a, b] => if c = 102 then (if 0 ≤ a ∧ a ≤ 29 ∧ 0 ≤ b ∧ b ≤ 9 ∧ d.2.2.2.1 < 4 then some (wr d.1 7 a.toNatClampNeg (d.1 7 a.toNatClampNeg + b), d.2.1, d.2.2.1, d.2.2.2.1 + 1, d.2.2.2.2) else none)
    else if c = 104 then (if 0 ≤ a ∧ a < nI d.2.1 ∧ 0 ≤ b ∧ b < nI d.2.1 ∧ ¬ a = b then some (wr d.1 3 a.toNatClampNeg (d.1 3 a.toNatClampNeg ||| ((1 : Int32) <<< (b &&& 31))), d.2.1, d.2.2.1, d.2.2.2.1, d.2.2.2.2) else none)
    else none
  | [a, b, k] => if c = 103 then (if 40 ≤ a ∧ a ≤ 99 ∧ 0 ≤ b ∧ b ≤ 9 ∧ 0 ≤ k ∧ k ≤ 4 ∧ d.2.1 < 7 then some (wr (wr (wr d.1 0 d.2.1 a) 1 d.2.1 b) 2 d.2.1 k, d.2.1 + 1, d.2.2.1, d.2.2.2.1, d.2.2.2.2) else none) else none
  | _ => none
def prs (t : Nat → Int32) (n : Nat) : Nat → Nat → Dt → Int32 × Dt
  | 0, _, d => (-4, d)
  | f + 1, p, d => if p < n then (match rdR t 3 (p + 1) with
      | none => (nI p, d)
      | some (l, e) => match stp (t p) l d with
        | none => (nI p, d)
        | some d' => prs t n f e d')
    else (-4, d)
def d0 : Dt := (fun c _ => if c = 9 then 1 else 0, 0, 0, 0, 0)
def DOK (d : Dt) : Prop := (d.2.1 ≤ 7 ∧ d.2.2.1 ≤ 4 ∧ d.2.2.2.1 ≤ 4 ∧ d.2.2.2.2 ≤ 4) ∧ (∀ i, d.2.1 ≤ i → d.1 3 i = 0) ∧ (∀ i, i < d.2.1 → rgI (d.1 0 i) 40 99 ∧ rgI (d.1 1 i) 0 9 ∧ rgI (d.1 2 i) 0 4) ∧ (∀ i, i < d.2.2.1 → rgI (d.1 6 i) 40 99) ∧ (∀ i, i < 30 → rgI (d.1 7 i) 0 (9 * d.2.2.2.1)) ∧ (∀ i, i < d.2.2.2.2 → rgI (d.1 8 i) 40 99) ∧ (d.1 9 0 = 0 ∨ d.1 9 0 = 1 ∨ d.1 9 0 = 2)
theorem d0_ok : DOK d0 := by
  refine ⟨⟨by decide, by decide, by decide, by decide⟩, fun i _ => rfl, fun i h => absurd h (Nat.not_lt_zero i), fun i h => absurd h (Nat.not_lt_zero i), fun i _ => ?_, fun i h => absurd h (Nat.not_lt_zero i), Or.inr (Or.inl rfl)⟩
  show rgI 0 0 0
  unfold rgI
  decide
theorem i40 : (40 : Int32).toInt = 40 := by decide
theorem i99 : (99 : Int32).toInt = 99 := by decide
theorem rg_of {x a b : Int32} {p q : Int} (h1 : a ≤ x) (h2 : x ≤ b) (ha : a.toInt = p) (hb : b.toInt = q) : rgI x p q := by
  rw [fa_le] at h1 h2
  unfold rgI
  omega
theorem wr_at {M : Mem} {c j : Nat} {v : Int32} : wr M c j v c j = v := by rw [wr_eq, upd, if_pos rfl]
theorem wr_no {M : Mem} {c j i : Nat} {v : Int32} (h : i ≠ j) : wr M c j v c i = M c i := by rw [wr_eq, upd, if_neg h]
theorem rg_w {x : Int32} {a b c : Int} (h : rgI x a b) (hb : b ≤ c) : rgI x a c := ⟨h.1, by have := h.2; omega⟩
theorem stp_ok {c : Int32} {l : List Int32} {d d' : Dt} (h : DOK d) (e : stp c l d = some d') : DOK d' := by
  obtain ⟨D, g, b, f, r⟩ := d
  obtain ⟨⟨a1, a2, a3, a4⟩, b1, b2, b3, b4, b5, b6⟩ := h
  dsimp only at a1 a2 a3 a4 b1 b2 b3 b4 b5 b6
  match l, e with
  | [a], e =>
    unfold stp at e
    dsimp only at e
    by_cases c1 : c = 98
    · rw [if_pos c1] at e
      by_cases q : 40 ≤ a ∧ a ≤ 99 ∧ b < 4
      · rw [if_pos q] at e
        cases e
        refine ⟨⟨a1, q.2.2, a3, a4⟩, b1, b2, fun i hi => ?_, b4, b5, b6⟩
        dsimp only at hi ⊢
        by_cases ei : i = b
        · subst ei; rw [wr_at]; exact rg_of q.1 q.2.1 i40 i99
        · rw [wr_no ei]; exact b3 i (by omega)
      · rw [if_neg q] at e; cases e
    · rw [if_neg c1] at e
      by_cases c2 : c = 107
      · rw [if_pos c2] at e
        by_cases q : 0 ≤ a ∧ a ≤ 2
        · rw [if_pos q] at e
          cases e
          refine ⟨⟨a1, a2, a3, a4⟩, b1, b2, b3, b4, b5, ?_⟩
          dsimp only
          rw [wr_at]
          have z := rg_of q.1 q.2 (show (0 : Int32).toInt = 0 by decide) (show (2 : Int32).toInt = 2 by decide)
          obtain ⟨k, hk⟩ := rg_nat (x := a) (b := 2) z (by omega)
          rw [k]
          rcases (show a.toNatClampNeg = 0 ∨ a.toNatClampNeg = 1 ∨ a.toNatClampNeg = 2 by omega) with q | q | q
          · exact Or.inl (by rw [q]; rfl)
          · exact Or.inr (Or.inl (by rw [q]; rfl))
          · exact Or.inr (Or.inr (by rw [q]; rfl))
        · rw [if_neg q] at e; cases e
      · rw [if_neg c2] at e
        by_cases c3 : c = 114
        · rw [if_pos c3] at e
          by_cases q : 40 ≤ a ∧ a ≤ 99 ∧ r < 4
          · rw [if_pos q] at e
            cases e
            refine ⟨⟨a1, a2, a3, q.2.2⟩, b1, b2, b3, b4, fun i hi => ?_, b6⟩
            dsimp only at hi ⊢
            by_cases ei : i = r
            · subst ei; rw [wr_at]; exact rg_of q.1 q.2.1 i40 i99
            · rw [wr_no ei]; exact b5 i (by omega)
          · rw [if_neg q] at e; cases e
        · rw [if_neg c3] at e; cases e
  | [a, y], e =>
    unfold stp at e
    dsimp only at e
    by_cases c1 : c = 102
    · rw [if_pos c1] at e
      by_cases q : 0 ≤ a ∧ a ≤ 29 ∧ 0 ≤ y ∧ y ≤ 9 ∧ f < 4
      · rw [if_pos q] at e
        cases e
        refine ⟨⟨a1, a2, q.2.2.2.2, a4⟩, b1, b2, b3, fun i hi => ?_, b5, b6⟩
        dsimp only
        have z := rg_of q.2.2.1 q.2.2.2.1 (show (0 : Int32).toInt = 0 by decide) (show (9 : Int32).toInt = 9 by decide)
        have w := b4 i hi
        by_cases ei : i = a.toNatClampNeg
        · rw [← ei, wr_at]
          unfold rgI at *
          rw [fb_addI (by omega) (by omega)]
          omega
        · rw [wr_no ei]
          exact rg_w w (by omega)
      · rw [if_neg q] at e; cases e
    · rw [if_neg c1] at e
      by_cases c2 : c = 104
      · rw [if_pos c2] at e
        by_cases q : 0 ≤ a ∧ a < nI g ∧ 0 ≤ y ∧ y < nI g ∧ ¬ a = y
        · rw [if_pos q] at e
          cases e
          refine ⟨⟨a1, a2, a3, a4⟩, fun i hi => ?_, b2, b3, b4, b5, b6⟩
          dsimp only at hi ⊢
          obtain ⟨k, hk, ek⟩ := ix_of (n := g) (by omega) (i_nlt.mpr q.1) (i_nle.mpr q.2.1)
          subst ek
          rw [ncl (by omega), wr_no (by omega)]
          exact b1 i hi
        · rw [if_neg q] at e; cases e
      · rw [if_neg c2] at e; cases e
  | [a, y, k], e =>
    unfold stp at e
    dsimp only at e
    by_cases c1 : c = 103
    · rw [if_pos c1] at e
      by_cases q : 40 ≤ a ∧ a ≤ 99 ∧ 0 ≤ y ∧ y ≤ 9 ∧ 0 ≤ k ∧ k ≤ 4 ∧ g < 7
      · rw [if_pos q] at e
        cases e
        refine ⟨⟨q.2.2.2.2.2.2, a2, a3, a4⟩, fun i hi => ?_, fun i hi => ?_, b3, b4, b5, b6⟩
        · exact b1 i (by dsimp only at hi; omega)
        · dsimp only at hi ⊢
          by_cases ei : i = g
          · subst ei
            rw [wr_ne (by omega), wr_ne (by omega), wr_at, wr_ne (by omega), wr_at, wr_at]
            exact ⟨rg_of q.1 q.2.1 i40 i99, rg_of q.2.2.1 q.2.2.2.1 (show (0 : Int32).toInt = 0 by decide) (show (9 : Int32).toInt = 9 by decide), rg_of q.2.2.2.2.1 q.2.2.2.2.2.1 (show (0 : Int32).toInt = 0 by decide) (show (4 : Int32).toInt = 4 by decide)⟩
          · rw [wr_ne (by omega), wr_ne (by omega), wr_no ei, wr_ne (by omega), wr_no ei, wr_no ei]
            exact b2 i (by omega)
      · rw [if_neg q] at e; cases e
    · rw [if_neg c1] at e; cases e
  | [], e => cases e
  | _ :: _ :: _ :: _ :: _, e => cases e
theorem prs_ok {t : Nat → Int32} {n : Nat} : ∀ {f p : Nat} {d : Dt}, DOK d → DOK (prs t n f p d).2
  | 0, _, _, h => h
  | f + 1, p, d, h => by
    unfold prs
    split
    · cases hr : rdR t 3 (p + 1) with
      | none => exact h
      | some w =>
        obtain ⟨l, e⟩ := w
        dsimp only
        cases hs : stp (t p) l d with
        | none => exact h
        | some d' => exact prs_ok (stp_ok h hs)
    · exact h
