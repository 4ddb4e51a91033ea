/-! the reference: order -/
def OrdP (V : Mem) (x r : Int32) : Prop := ∃ b, IsO (ngV V) (rowF V) b ∧ ((x = -1 ∧ r = rowF V b) ∨ ∃ k, k < ngV V ∧ x = nI k ∧ r = nI (b k))
def okO (V : Mem) (x : Int32) : Prop := x = -1 ∨ okI (ngV V) x
section M73
variable {M V : Mem}
/-- the world of the search: only the row, and what is scratch, has changed -/
def FO (M M' : Mem) : Prop := (∀ c, ¬ sM c → c ≠ 64 → M' c = M c) ∧ ∀ i, 7 ≤ i → M' 64 i = M 64 i
theorem vM_fo {M' : Mem} (e : vM (M 57 1) M = V) (h : VOK V) (hf : FO M M') (hr : RowOK (ngV V) (M' 64)) : vM (M' 57 1) M' = rowV V (toN (M' 64)) := by
  have h7 := h.1.2.2
  have hg : (M 57 7).toNatClampNeg = ngV V := by rw [rm_g e h, ncl (by omega)]
  have o : ∀ c, c < 64 → M' c = M c := fun c hc => hf.1 c (by unfold sM; omega) (by omega)
  rw [o 57 (by omega)]
  unfold rowV
  funext c
  by_cases ec : c = 5
  · subst ec
    rw [wrA_eq]
    show nrm (M' 57 7).toNatClampNeg (M' 64) = _
    rw [o 57 (by omega), hg]
    exact nrm_cong (fun i hi => (row_n hr h7 hi).1)
  · rw [wrA_ne ec, ← e]
    unfold vM
    rw [o 57 (by omega), o 58 (by omega), o 59 (by omega), o 60 (by omega), o 61 (by omega), o 62 (by omega), o 63 (by omega)]
    rcases c with _ | _ | _ | _ | _ | _ | _ | _ | _ | _ | c <;> first | rfl | exact absurd rfl ec | skip
    · exact nrm_cong (fun i hi => hf.2 (14 + i) (by omega))
    · exact nrm_cong (fun i hi => hf.2 (7 + i) (by omega))
end M73
