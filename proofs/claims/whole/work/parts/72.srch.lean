/-! the search, in general: P = the rows seen, b the first of the least of them -/
def SB (n : Nat) (F : (Nat → Nat) → Int32) (P : (Nat → Nat) → Prop) (b : Nat → Nat) : Prop := PM n b ∧ P b ∧ (∀ g, PM n g → P g → F b ≤ F g) ∧ ∀ g, PM n g → P g → ltR n g b → F b < F g
theorem SB.keep {n : Nat} {F : (Nat → Nat) → Int32} {P P' : (Nat → Nat) → Prop} {b : Nat → Nat} (h : SB n F P b) (hb : P' b) (hp : ∀ g, PM n g → P' g → P g ∨ (F b ≤ F g ∧ ¬ ltR n g b)) : SB n F P' b := by
  obtain ⟨a1, a2, a3, a4⟩ := h
  refine ⟨a1, hb, fun g hg hp2 => ?_, fun g hg hp2 hl => ?_⟩
  · rcases hp g hg hp2 with q | q
    · exact a3 g hg q
    · exact q.1
  · rcases hp g hg hp2 with q | q
    · exact a4 g hg q hl
    · exact absurd hl q.2
theorem SB.new {n : Nat} {F : (Nat → Nat) → Int32} {P P' : (Nat → Nat) → Prop} {f : Nat → Nat} (hf : PM n f) (hP : P' f) (hs : ∀ g, PM n g → P g → F f < F g) (hp : ∀ g, PM n g → P' g → P g ∨ (F f ≤ F g ∧ ¬ ltR n g f)) : SB n F P' f := by
  refine ⟨hf, hP, fun g hg hp2 => ?_, fun g hg hp2 hl => ?_⟩
  · rcases hp g hg hp2 with q | q
    · exact i_lt_le (hs g hg q)
    · exact q.1
  · rcases hp g hg hp2 with q | q
    · exact hs g hg q
    · exact absurd hl q.2
theorem SB.fin {n : Nat} {F : (Nat → Nat) → Int32} {P : (Nat → Nat) → Prop} {b : Nat → Nat} (h : SB n F P b) (hp : ∀ g, PM n g → P g) : IsO n F b := ⟨h.1, fun g hg => h.2.2.1 g hg (hp g hg), fun g hg hl => h.2.2.2 g hg (hp g hg) hl⟩
/-- nothing is before the row 0 1 2 .. -/
theorem id_first {n : Nat} {g : Nat → Nat} (hg : PM n g) {f : Nat → Nat} (hf : ∀ i, i < n → f i = i) : ¬ ltR n g f := by
  rintro ⟨p, hp, a, b⟩
  rw [hf p hp] at b
  have := a (g p) b
  rw [hf (g p) (by omega)] at this
  have := hg.2 (g p) p (by omega) hp this
  omega
/-- F of a row: ALL with it -/
def rowV (V : Mem) (f : Nat → Nat) : Mem := wrA V 5 (nrm (ngV V) (fun i => nI (f i)))
def rowF (V : Mem) (f : Nat → Nat) : Int32 := allS (rowV V f)
theorem rowV_cong {V : Mem} {f g : Nat → Nat} (h : ∀ i, i < ngV V → f i = g i) : rowV V f = rowV V g := by
  unfold rowV
  rw [nrm_cong (g := fun i => nI (g i)) (fun i hi => by show nI (f i) = nI (g i); rw [h i hi])]
theorem vok_rowV {V : Mem} (h : VOK V) {f : Nat → Nat} (hf : PM (ngV V) f) : VOK (rowV V f) := by
  refine vok_row h (fun c hc => wrA_ne hc) ?_
  unfold rowV
  rw [wrA_eq]
  have r := pm_row hf h.1.2.2
  refine ⟨fun i hi => ?_, fun i j hi hj e => ?_⟩
  · rw [nrm_in hi]; exact r.1 i hi
  · rw [nrm_in hi, nrm_in hj] at e; exact r.2 i j hi hj e
