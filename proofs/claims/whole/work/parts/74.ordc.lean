/-! the class: order -/
section C74
variable {M V : Mem} {G2 : Grf} {T2 : List (Nat × Nat)}
def sQ (c : Nat) : Prop := (4 ≤ c ∧ c ≤ 9) ∨ (29 ≤ c ∧ c ≤ 31)
def FQ (n : Nat) (M M' : Mem) : Prop := (∀ c, ¬ sQ c → c ≠ 43 → M' c = M c) ∧ ∀ i, n ≤ i → M' 43 i = M 43 i
theorem vC_fq {M' : Mem} (e : vC M = V) (h : VOK V) (hf : FQ (ngV V) M M') (hr : RowOK (ngV V) (M' 43)) : vC M' = rowV V (toN (M' 43)) := by
  have h7 := h.1.2.2
  have hg : (M 37 6).toNatClampNeg = ngV V := by rw [rc_g e h, ncl (by omega)]
  have o : ∀ c, 33 ≤ c → c ≠ 43 → M' c = M c := fun c hc c2 => hf.1 c (by unfold sQ; omega) c2
  unfold rowV
  funext c
  by_cases ec : c = 5
  · subst ec
    rw [wrA_eq]
    show nrm (M' 37 6).toNatClampNeg (M' 43) = _
    rw [o 37 (by omega) (by omega), hg]
    exact nrm_cong (fun i hi => (row_n hr h7 hi).1)
  · rw [wrA_ne ec, ← e]
    unfold vC
    rw [o 37 (by omega) (by omega), o 38 (by omega) (by omega), o 39 (by omega) (by omega), o 40 (by omega) (by omega), o 41 (by omega) (by omega), o 42 (by omega) (by omega), o 34 (by omega) (by omega), o 35 (by omega) (by omega), o 36 (by omega) (by omega), o 33 (by omega) (by omega), o 44 (by omega) (by omega)]
    rcases c with _ | _ | _ | _ | _ | _ | _ | _ | _ | _ | c <;> first | rfl | exact absurd rfl ec
theorem row_two {V : Mem} {f g : Nat → Nat} : wrA (rowV V f) 5 (nrm (ngV V) (fun i => nI (g i))) = rowV V g := by
  unfold rowV
  exact wrA_wrA
/-- the rows from f to what it lets fall -/
theorem blk {V : Mem} (h : VOK V) {f g : Nat → Nat} (hf : PM (ngV V) f) (hg : PM (ngV V) g) {n : Nat} {bd : Int32} (hn : n ≤ 30) (ha : ∀ i, i < (simN (rowV V f) n).2 + 1 → i < ngV V → g i = f i) (hs : bd ≤ lsum (simN (rowV V f) n).1 (ngV V) ∨ simN (rowV V f) n = simN (rowV V f) 30) : (simN (rowV V f) n = simN (rowV V f) 30 ∧ rowF V g = rowF V f) ∨ bd ≤ rowF V g := by
  have hv := vok_rowV h hf
  have hd := dp_sim hv n
  have := all_pref (V := rowV V f) (f := nrm (ngV V) (fun i => nI (g i))) hv (by rw [row_two]; exact vok_rowV h hg) hn (fun q hq => by
    have hq2 : q < ngV V := by
      have : (simN (rowV V f) n).2 < ngV V := hd
      omega
    unfold rowV
    rw [wrA_eq, nrm_in hq2, nrm_in hq2, ha q (by omega) hq2]) hs
  rw [row_two] at this
  exact this
end C74
