/-! what holds between two calls -/
def I1 (V M : Mem) : Prop := vC M = V ∧ vM (M 57 1) M = V ∧ VB V
def I2 (V R M : Mem) : Prop := rC M = R ∧ rM M = R ∧ ROK V R
def I3 (V L M : Mem) : Prop := lgC M = L ∧ LOK L ∧ M 57 35 = nI (nlL L) ∧ CH V (nlL L) L (spA M)
def I4 (V : Mem) (kn : Nat) (M : Mem) : Prop := M 14 3 = nI kn ∧ M 57 43 = nI kn ∧ kn ≤ 2 ∧ ∀ k, k < kn → vS V (kC M k) = vS V (kM M k) ∧ VB (vS V (kC M k))
def I5 (t : Nat → Int32) (n : Nat) (M : Mem) : Prop := TX t n ∧ TC t n M ∧ TM t n M
def I6 (M : Mem) : Prop := M 34 3 = M 57 3 ∧ M 46 5 = 0 ∧ M 46 6 = -1
def InvP (V R L : Mem) (t : Nat → Int32) (n kn : Nat) (M : Mem) : Prop := I1 V M ∧ I2 V R M ∧ I3 V L M ∧ I4 V kn M ∧ I5 t n M ∧ I6 M ∧ KO V M
def Inv (M : Mem) : Prop := ∃ V R L t n kn, InvP V R L t n kn M
abbrev StepOK (mdX mdM : MD) (as : List Value) (M : Mem) : Prop := WpI mdX (.ref 0 :: as) M (gj gm) (TTc ++ TTm) (fun r M1 => WpI mdM (.ref 57 :: as) M1 (gj gm) (TTc ++ TTm) (fun r2 M2 => r2 = r ∧ Inv M2))
section IC
variable {V R L M M' : Mem} {t : Nat → Int32} {n kn : Nat}
theorem vC_cg (c1 : ∀ c, 33 ≤ c → c ≤ 44 → M' c = M c) : vC M' = vC M := by
  unfold vC
  rw [c1 33 (by omega) (by omega), c1 34 (by omega) (by omega), c1 35 (by omega) (by omega), c1 36 (by omega) (by omega), c1 37 (by omega) (by omega), c1 38 (by omega) (by omega), c1 39 (by omega) (by omega), c1 40 (by omega) (by omega), c1 41 (by omega) (by omega), c1 42 (by omega) (by omega), c1 43 (by omega) (by omega), c1 44 (by omega) (by omega)]
theorem vM_cg (c2 : ∀ c, 58 ≤ c → c ≤ 64 → M' c = M c) (c3 : ∀ j, (j < 13 ∨ (26 < j ∧ j < 35)) → j ≠ 3 → M' 57 j = M 57 j) : vM (M' 57 1) M' = vM (M 57 1) M := by
  unfold vM
  rw [c3 1 (by omega) (by omega), c3 7 (by omega) (by omega), c3 9 (by omega) (by omega), c3 10 (by omega) (by omega), c3 27 (by omega) (by omega), c3 28 (by omega) (by omega), c2 58 (by omega) (by omega), c2 59 (by omega) (by omega), c2 60 (by omega) (by omega), c2 61 (by omega) (by omega), c2 62 (by omega) (by omega), c2 63 (by omega) (by omega), c2 64 (by omega) (by omega)]
theorem I1.c (h : I1 V M) (c1 : ∀ c, 33 ≤ c → c ≤ 44 → M' c = M c) (c2 : ∀ c, 58 ≤ c → c ≤ 64 → M' c = M c) (c3 : ∀ j, (j < 13 ∨ (26 < j ∧ j < 35)) → j ≠ 3 → M' 57 j = M 57 j) : I1 V M' := ⟨(vC_cg c1).trans h.1, (vM_cg c2 c3).trans h.2.1, h.2.2⟩
theorem rC_cg (c1 : ∀ c, 24 ≤ c → c ≤ 27 → M' c = M c) : rC M' = rC M := by
  unfold rC
  rw [c1 24 (by omega) (by omega), c1 25 (by omega) (by omega), c1 26 (by omega) (by omega), c1 27 (by omega) (by omega)]
theorem rM_cg (c2 : M' 57 39 = M 57 39) (c3 : M' 80 = M 80) : rM M' = rM M := by
  unfold rM
  rw [c2, c3]
theorem I2.c (h : I2 V R M) (c1 : ∀ c, 24 ≤ c → c ≤ 27 → M' c = M c) (c2 : M' 57 39 = M 57 39) (c3 : M' 80 = M 80) : I2 V R M' := ⟨(rC_cg c1).trans h.1, (rM_cg c2 c3).trans h.2.1, h.2.2⟩
theorem lgC_cg (c1 : ∀ c, 10 ≤ c → c ≤ 13 → M' c = M c) : lgC M' = lgC M := by
  unfold lgC
  rw [c1 10 (by omega) (by omega), c1 11 (by omega) (by omega), c1 12 (by omega) (by omega), c1 13 (by omega) (by omega)]
theorem spA_cg (c2 : M' 57 35 = M 57 35) (c3 : M' 77 = M 77) : spA M' = spA M := by
  unfold spA
  rw [c2, c3]
theorem I3.c (h : I3 V L M) (c1 : ∀ c, 10 ≤ c → c ≤ 13 → M' c = M c) (c2 : M' 57 35 = M 57 35) (c3 : M' 77 = M 77) : I3 V L M' := ⟨(lgC_cg c1).trans h.1, h.2.1, c2.trans h.2.2.1, by rw [spA_cg c2 c3]; exact h.2.2.2⟩
theorem kC_cg (c1 : ∀ c, 16 ≤ c → c ≤ 23 → M' c = M c) {k : Nat} (hk : k < 2) : kC M' k = kC M k := by
  unfold kC
  rw [c1 (16 + k) (by omega) (by omega), c1 (19 + k) (by omega) (by omega), c1 (22 + k) (by omega) (by omega)]
theorem kM_cg (c : M' 83 = M 83) (k : Nat) : kM M' k = kM M k := by unfold kM; rw [c]
theorem I4.c (h : I4 V kn M) (c0 : M' 14 3 = M 14 3) (c1 : M' 57 43 = M 57 43) (c2 : ∀ c, 16 ≤ c → c ≤ 23 → M' c = M c) (c3 : M' 83 = M 83) : I4 V kn M' := ⟨c0.trans h.1, c1.trans h.2.1, h.2.2.1, fun k hk => by
  have := h.2.2.1
  rw [kC_cg c2 (by omega), kM_cg c3]
  exact h.2.2.2 k hk⟩
theorem I5.c (h : I5 t n M) (c0 : M' 1 2 = M 1 2) (c1 : M' 2 = M 2) (c2 : M' 57 13 = M 57 13) (c3 : M' 65 = M 65) : I5 t n M' := ⟨h.1, ⟨c0.trans h.2.1.1, by rw [c1]; exact h.2.1.2⟩, ⟨c2.trans h.2.2.1, by rw [c3]; exact h.2.2.2⟩⟩
theorem I6.c (h : I6 M) (c0 : M' 34 3 = M 34 3) (c1 : M' 57 3 = M 57 3) (c2 : M' 46 5 = M 46 5) (c3 : M' 46 6 = M 46 6) : I6 M' := ⟨by rw [c0, c1]; exact h.1, c2.trans h.2.1, c3.trans h.2.2⟩
theorem KO.c (h : KO V M) (c0 : M' 29 = M 29) (c1 : M' 30 = M 30) : KO V M' := by
  unfold KO at *
  rw [c0, c1]
  exact h
/-- the same but for cells that do not count -/
theorem InvP.c (h : InvP V R L t n kn M) (c : ∀ c, ¬ sC c → ¬ sM c → c ≠ 31 → M' c = M c) : InvP V R L t n kn M' := by
  have cc : ∀ c, (10 ≤ c ∧ c ≤ 27) ∨ (29 ≤ c ∧ c ≤ 30) ∨ (33 ≤ c ∧ c ≤ 71) ∨ c = 1 ∨ c = 2 ∨ c = 77 ∨ c = 80 ∨ c = 83 → M' c = M c := fun k hk => c k (by unfold sC; omega) (by unfold sM; omega) (by omega)
  have e57 := cc 57 (by omega)
  exact ⟨h.1.c (fun c _ _ => cc c (by omega)) (fun c _ _ => cc c (by omega)) (fun j _ _ => by rw [e57]), h.2.1.c (fun c _ _ => cc c (by omega)) (by rw [e57]) (cc 80 (by omega)), h.2.2.1.c (fun c _ _ => cc c (by omega)) (by rw [e57]) (cc 77 (by omega)), h.2.2.2.1.c (by rw [cc 14 (by omega)]) (by rw [e57]) (fun c _ _ => cc c (by omega)) (cc 83 (by omega)), h.2.2.2.2.1.c (by rw [cc 1 (by omega)]) (cc 2 (by omega)) (by rw [e57]) (cc 65 (by omega)), h.2.2.2.2.2.1.c (by rw [cc 34 (by omega)]) (by rw [e57]) (by rw [cc 46 (by omega)]) (by rw [cc 46 (by omega)]), h.2.2.2.2.2.2.c (cc 29 (by omega)) (cc 30 (by omega))⟩
theorem InvP.fc (h : InvP V R L t n kn M) (f : FC M M') : InvP V R L t n kn M' := h.c (fun c c1 _ _ => f c c1)
theorem InvP.fm (h : InvP V R L t n kn M) (f : FM M M') : InvP V R L t n kn M' := h.c (fun c _ c2 _ => f c c2)
theorem InvP.i (h : InvP V R L t n kn M) : Inv M := ⟨V, R, L, t, n, kn, h⟩
theorem stepQ {mdX mdM : MD} {as : List Value} {q : Int32} (h : InvP V R L t n kn M) (hc : WpI mdX (.ref 0 :: as) M (gj gm) (TTc ++ TTm) (fun r M' => r = q ∧ FC M M')) (hm : ∀ M1, InvP V R L t n kn M1 → WpI mdM (.ref 57 :: as) M1 (gj gm) (TTc ++ TTm) (fun r M' => r = q ∧ FM M1 M')) : StepOK mdX mdM as M := by
  refine hc.imp ?_
  rintro r M1 ⟨rfl, f1⟩
  have h1 := h.fc f1
  refine (hm M1 h1).imp ?_
  rintro r2 M2 ⟨rfl, f2⟩
  exact ⟨rfl, (h1.fm f2).i⟩
end IC
section ST
variable {M : Mem}
theorem s_bed (h : Inv M) (a b : Int32) : StepOK mX9_bed mX10_bed [.int a, .int b] M := by
  obtain ⟨V, R, L, t, n, kn, h⟩ := h
  exact stepQ h (c_bed h.1.1 h.1.2.2 a b) (fun M1 h1 => m_bed h1.1.2.1 h1.1.2.2 a b)
theorem s_guest (h : Inv M) (a b : Int32) : StepOK mX9_guest mX10_guest [.int a, .int b] M := by
  obtain ⟨V, R, L, t, n, kn, h⟩ := h
  exact stepQ h (c_guest h.1.1 h.1.2.2 a b) (fun M1 h1 => m_guest h1.1.2.1 h1.1.2.2 a b)
theorem s_harm (h : Inv M) (a b c : Int32) : StepOK mX9_harm mX10_harm [.int a, .int b, .int c] M := by
  obtain ⟨V, R, L, t, n, kn, h⟩ := h
  exact stepQ h (c_harm h.1.1 h.1.2.2 a b c) (fun M1 h1 => m_harm h1.1.2.1 h1.1.2.2 a b c)
theorem s_lies (h : Inv M) (a b : Int32) : StepOK mX9_lies mX10_lies [.int a, .int b] M := by
  obtain ⟨V, R, L, t, n, kn, h⟩ := h
  exact stepQ h (c_lies h.1.1 h.1.2.2 a b) (fun M1 h1 => m_lies h1.1.2.1 h1.1.2.2 a b)
theorem s_who (h : Inv M) (a b : Int32) : StepOK mX9_who mX10_who [.int a, .int b] M := by
  obtain ⟨V, R, L, t, n, kn, h⟩ := h
  exact stepQ h (c_who h.1.1 h.1.2.2 a b) (fun M1 h1 => m_who h1.1.2.1 h1.1.2.2 a b)
theorem s_all (h : Inv M) (a : Int32) : StepOK mX9_all mX10_all [.int a] M := by
  obtain ⟨V, R, L, t, n, kn, h⟩ := h
  exact stepQ h (c_all h.1.1 h.1.2.2 a) (fun M1 h1 => m_all h1.1.2.1 h1.1.2.2 a)
theorem s_cushion (h : Inv M) (a : Int32) : StepOK mX9_cushion mX10_cushion [.int a] M := by
  obtain ⟨V, R, L, t, n, kn, h⟩ := h
  exact stepQ h (c_cushion h.1.1 h.1.2.2 a) (fun M1 h1 => m_cushion h1.1.2.1 h1.1.2.2 a)
theorem s_length (h : Inv M) (a b : Int32) : StepOK mX9_length mX10_length [.int a, .int b] M := by
  obtain ⟨V, R, L, t, n, kn, h⟩ := h
  exact stepQ h (c_length h.1.1 h.1.2.2 a b) (fun M1 h1 => m_length h1.1.2.1 h1.1.2.2 a b)
theorem s_law (h : Inv M) : StepOK mX9_law mX10_law [] M := by
  obtain ⟨V, R, L, t, n, kn, h⟩ := h
  exact stepQ h (c_law h.1.1 h.1.2.2) (fun M1 h1 => m_law h1.1.2.1 h1.1.2.2)
theorem s_pairs (h : Inv M) (a : Int32) : StepOK mX9_pairs mX10_pairs [.int a] M := by
  obtain ⟨V, R, L, t, n, kn, h⟩ := h
  exact stepQ h (c_pairs h.1.1 h.1.2.2 a) (fun M1 h1 => m_pairs h1.1.2.1 h1.1.2.2 a)
theorem s_later (h : Inv M) (a b : Int32) : StepOK mX9_later mX10_later [.int a, .int b] M := by
  obtain ⟨V, R, L, t, n, kn, h⟩ := h
  exact stepQ h (c_later h.1.1 h.1.2.2 a b) (fun M1 h1 => m_later h1.1.2.1 h1.1.2.2 a b)
theorem s_rival (h : Inv M) : StepOK mX9_rival mX10_rival [] M := by
  obtain ⟨V, R, L, t, n, kn, h⟩ := h
  exact stepQ h (c_rival h.1.1 h.1.2.2) (fun M1 h1 => m_rival h1.1.2.1 h1.1.2.2)
theorem s_fewest (h : Inv M) (a : Int32) : StepOK mX9_fewest mX10_fewest [.int a] M := by
  obtain ⟨V, R, L, t, n, kn, h⟩ := h
  exact stepQ h (c_fewest h.1.1 h.1.2.2 a) (fun M1 h1 => m_fewest h1.1.2.1 h1.1.2.2 a)
theorem s_turned (h : Inv M) : StepOK mX9_turned mX10_turned [] M := by
  obtain ⟨V, R, L, t, n, kn, h⟩ := h
  exact stepQ h (c_turned h.1.1 h.1.2.2) (fun M1 h1 => m_turned h1.1.2.1 h1.1.2.2)
theorem s_slept (h : Inv M) (a : Int32) : StepOK mX9_slept mX10_slept [.int a] M := by
  obtain ⟨V, R, L, t, n, kn, h⟩ := h
  exact stepQ h (c_slept h.1.1 h.1.2.2 h.2.1.1 h.2.1.2.2 a) (fun M1 h1 => m_slept h1.1.2.1 h1.1.2.2 h1.2.1.2.1 h1.2.1.2.2 a)
theorem s_sure (h : Inv M) (a : Int32) : StepOK mX9_sure mX10_sure [.int a] M := by
  obtain ⟨V, R, L, t, n, kn, h⟩ := h
  exact stepQ h (c_sure h.1.1 h.1.2.2 h.2.1.1 h.2.1.2.2 a) (fun M1 h1 => m_sure h1.1.2.1 h1.1.2.2 h1.2.1.2.1 h1.2.1.2.2 a)
theorem s_found (h : Inv M) (a b : Int32) : StepOK mX9_found mX10_found [.int a, .int b] M := by
  obtain ⟨V, R, L, t, n, kn, h⟩ := h
  exact stepQ h (c_found h.1.1 h.1.2.2 a b) (fun M1 h1 => m_found h1.1.2.1 h1.1.2.2 a b)
theorem s_year (h : Inv M) (a b : Int32) : StepOK mX9_year mX10_year [.int a, .int b] M := by
  obtain ⟨V, R, L, t, n, kn, h⟩ := h
  exact stepQ h (c_year h.1.1 h.1.2.2 a b) (fun M1 h1 => m_year h1.1.2.1 h1.1.2.2 a b)
end ST
