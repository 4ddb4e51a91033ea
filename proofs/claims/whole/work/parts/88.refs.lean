/-! the references that the constructor lays are the table's -/
def gE : Grf := fun _ _ => none
def gX9 : Grf := (wrG (wrG (wrG (wrG (wrG (wrG (wrG (wrG (wrG (wrG (wrG (wrG (wrG (wrG (wrG (wrG (wrG (wrG (wrG (wrG (wrG (wrG (wrG (wrG (wrG (wrG (wrG (wrG (wrG (wrG (wrG (wrG (wrG (wrG (wrG (wrG (wrG (wrG (wrG (wrG (wrG (wrG (wrG (wrG (wrG (wrG (wrG (wrG (wrG (wrG (wrG (wrG (wrG (wrG (wrG (wrG gE 1 0 (some 2)) 1 1 (some 3)) 0 0 (some 1)) 4 0 (some 5)) 4 1 (some 6)) 4 2 (some 7)) 4 3 (some 8)) 4 4 (some 9)) 0 1 (some 4)) 10 0 (some 11)) 10 1 (some 12)) 10 2 (some 13)) 0 2 (some 10)) 15 0 (some 16)) 15 1 (some 17)) 14 0 (some 15)) 18 0 (some 19)) 18 1 (some 20)) 14 1 (some 18)) 21 0 (some 22)) 21 1 (some 23)) 14 2 (some 21)) 0 3 (some 14)) 24 0 (some 25)) 24 1 (some 26)) 24 2 (some 27)) 24 3 (some 28)) 0 4 (some 24)) 29 0 (some 30)) 29 1 (some 31)) 0 5 (some 29)) 0 6 (some 32)) 34 0 (some 35)) 34 1 (some 36)) 33 0 (some 34)) 37 0 (some 38)) 37 1 (some 39)) 37 2 (some 40)) 37 3 (some 41)) 37 4 (some 42)) 37 5 (some 43)) 33 1 (some 37)) 33 2 (some 44)) 0 7 (some 33)) 46 0 (some 47)) 46 1 (some 48)) 45 0 (some 46)) 49 0 (some 50)) 49 1 (some 51)) 49 2 (some 52)) 49 3 (some 53)) 49 4 (some 54)) 49 5 (some 55)) 45 1 (some 49)) 45 2 (some 56)) 0 8 (some 45))
set_option maxRecDepth 20000 in
theorem gX9_in : ∀ k, k < 57 → ∀ j, j < 9 → gX9 k j = gj gE k j := by decide +kernel
set_option maxRecDepth 20000 in
theorem gX9_out {k j : Nat} (h : 57 ≤ k ∨ 9 ≤ j) : gX9 k j = none := by
  unfold gX9 wrG
  exact (if_neg (by omega)).trans ((if_neg (by omega)).trans ((if_neg (by omega)).trans ((if_neg (by omega)).trans ((if_neg (by omega)).trans ((if_neg (by omega)).trans ((if_neg (by omega)).trans ((if_neg (by omega)).trans ((if_neg (by omega)).trans ((if_neg (by omega)).trans ((if_neg (by omega)).trans ((if_neg (by omega)).trans ((if_neg (by omega)).trans ((if_neg (by omega)).trans ((if_neg (by omega)).trans ((if_neg (by omega)).trans ((if_neg (by omega)).trans ((if_neg (by omega)).trans ((if_neg (by omega)).trans ((if_neg (by omega)).trans ((if_neg (by omega)).trans ((if_neg (by omega)).trans ((if_neg (by omega)).trans ((if_neg (by omega)).trans ((if_neg (by omega)).trans ((if_neg (by omega)).trans ((if_neg (by omega)).trans ((if_neg (by omega)).trans ((if_neg (by omega)).trans ((if_neg (by omega)).trans ((if_neg (by omega)).trans ((if_neg (by omega)).trans ((if_neg (by omega)).trans ((if_neg (by omega)).trans ((if_neg (by omega)).trans ((if_neg (by omega)).trans ((if_neg (by omega)).trans ((if_neg (by omega)).trans ((if_neg (by omega)).trans ((if_neg (by omega)).trans ((if_neg (by omega)).trans ((if_neg (by omega)).trans ((if_neg (by omega)).trans ((if_neg (by omega)).trans ((if_neg (by omega)).trans ((if_neg (by omega)).trans ((if_neg (by omega)).trans ((if_neg (by omega)).trans ((if_neg (by omega)).trans ((if_neg (by omega)).trans ((if_neg (by omega)).trans ((if_neg (by omega)).trans ((if_neg (by omega)).trans ((if_neg (by omega)).trans ((if_neg (by omega)).trans ((if_neg (by omega)).trans (rfl))))))))))))))))))))))))))))))))))))))))))))))))))))))))
theorem gj_out {k j : Nat} (h : 57 ≤ k ∨ 9 ≤ j) : gj gE k j = none := by
  unfold gj
  by_cases hk : k < 57
  · rw [if_pos hk]
    have hl : ∀ k, k < 57 → (GGc.getD k []).length ≤ 9 := by decide +kernel
    have := hl k hk
    rw [List.getD_eq_getElem?_getD, List.getElem?_eq_none (by omega)]
    rfl
  · rw [if_neg hk]; rfl
theorem gX9_eq : gX9 = gj gE := by
  funext k j
  by_cases h : k < 57 ∧ j < 9
  · exact gX9_in k h.1 j h.2
  · rw [gX9_out (by omega), gj_out (by omega)]
def gX10 : Grf := (wrG (wrG (wrG (wrG (wrG (wrG (wrG (wrG (wrG (wrG (wrG (wrG (wrG (wrG (wrG (wrG (wrG (wrG (wrG (wrG (wrG (wrG (wrG (wrG (wrG (wrG (gj gE) 57 0 (some 58)) 57 2 (some 59)) 57 4 (some 60)) 57 5 (some 61)) 57 6 (some 62)) 57 8 (some 63)) 57 11 (some 64)) 57 12 (some 65)) 57 16 (some 66)) 57 17 (some 67)) 57 19 (some 68)) 57 21 (some 69)) 57 22 (some 70)) 57 24 (some 71)) 57 29 (some 72)) 57 30 (some 73)) 57 31 (some 74)) 57 32 (some 75)) 57 33 (some 76)) 57 34 (some 77)) 57 36 (some 78)) 57 37 (some 79)) 57 38 (some 80)) 57 40 (some 81)) 57 41 (some 82)) 57 42 (some 83))
set_option maxRecDepth 20000 in
theorem gX10_in : ∀ j, j < 44 → gX10 57 j = gm 57 j := by decide +kernel
set_option maxRecDepth 20000 in
theorem gX10_out {j : Nat} (h : 44 ≤ j) : gX10 57 j = none := by
  unfold gX10 wrG
  exact (if_neg (by omega)).trans ((if_neg (by omega)).trans ((if_neg (by omega)).trans ((if_neg (by omega)).trans ((if_neg (by omega)).trans ((if_neg (by omega)).trans ((if_neg (by omega)).trans ((if_neg (by omega)).trans ((if_neg (by omega)).trans ((if_neg (by omega)).trans ((if_neg (by omega)).trans ((if_neg (by omega)).trans ((if_neg (by omega)).trans ((if_neg (by omega)).trans ((if_neg (by omega)).trans ((if_neg (by omega)).trans ((if_neg (by omega)).trans ((if_neg (by omega)).trans ((if_neg (by omega)).trans ((if_neg (by omega)).trans ((if_neg (by omega)).trans ((if_neg (by omega)).trans ((if_neg (by omega)).trans ((if_neg (by omega)).trans ((if_neg (by omega)).trans ((if_neg (by omega)).trans (rfl))))))))))))))))))))))))))
set_option maxRecDepth 20000 in
theorem gX10_ne {k j : Nat} (h : k ≠ 57) : gX10 k j = gj gE k j := by
  unfold gX10 wrG
  exact (if_neg (fun z => h z.1)).trans ((if_neg (fun z => h z.1)).trans ((if_neg (fun z => h z.1)).trans ((if_neg (fun z => h z.1)).trans ((if_neg (fun z => h z.1)).trans ((if_neg (fun z => h z.1)).trans ((if_neg (fun z => h z.1)).trans ((if_neg (fun z => h z.1)).trans ((if_neg (fun z => h z.1)).trans ((if_neg (fun z => h z.1)).trans ((if_neg (fun z => h z.1)).trans ((if_neg (fun z => h z.1)).trans ((if_neg (fun z => h z.1)).trans ((if_neg (fun z => h z.1)).trans ((if_neg (fun z => h z.1)).trans ((if_neg (fun z => h z.1)).trans ((if_neg (fun z => h z.1)).trans ((if_neg (fun z => h z.1)).trans ((if_neg (fun z => h z.1)).trans ((if_neg (fun z => h z.1)).trans ((if_neg (fun z => h z.1)).trans ((if_neg (fun z => h z.1)).trans ((if_neg (fun z => h z.1)).trans ((if_neg (fun z => h z.1)).trans ((if_neg (fun z => h z.1)).trans ((if_neg (fun z => h z.1)).trans (rfl))))))))))))))))))))))))))
theorem gX10_eq : gX10 = gj gm := by
  funext k j
  by_cases hk : k = 57
  · subst hk
    by_cases h : j < 44
    · exact (gX10_in j h).trans rfl
    · rw [gX10_out (by omega)]
      show none = gm 57 j
      unfold gm
      rw [if_pos rfl, List.getD_eq_getElem?_getD, List.getElem?_eq_none (show GGm.length ≤ j by have : GGm.length = 44 := rfl; omega)]
      rfl
  · rw [gX10_ne hk]
    unfold gj
    by_cases h : k < 57
    · rw [if_pos h, if_pos h]
    · rw [if_neg h, if_neg h]
      unfold gm gE
      rw [if_neg hk]
