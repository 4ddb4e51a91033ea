/-! changes: the class's log, the reference's snapshots -/
def lgC (M : Mem) : Mem := fun c => match c with
  | 0 => nrm (M 10 3).toNatClampNeg (M 11)
  | 1 => nrm (M 10 3).toNatClampNeg (M 12)
  | 2 => nrm (M 10 3).toNatClampNeg (M 13)
  | _ => fun _ => M 10 3
def nlL (L : Mem) : Nat := (L 3 0).toNatClampNeg
def LOK (L : Mem) : Prop := L 3 0 = nI (nlL L) ∧ nlL L ≤ 8
def dL (n : Nat) : Nat := if n = 8 then 1 else 0
def pshF (n : Nat) (f : Nat → Int32) (x : Int32) : Nat → Int32 := fun k => if k + dL n < n then f (k + dL n) else if k + dL n = n then x else 0
def pushL (L : Mem) (w g o : Int32) : Mem := fun c => match c with
  | 0 => pshF (nlL L) (L 0) w
  | 1 => pshF (nlL L) (L 1) g
  | 2 => pshF (nlL L) (L 2) o
  | _ => fun _ => nI (nlL L - dL (nlL L) + 1)
theorem psh_a {n : Nat} {f : Nat → Int32} {x : Int32} (h : n < 8) : nrm (n + 1) (upd f n x) = pshF n (nrm n f) x := by
  funext k
  have d : dL n = 0 := if_neg (show ¬ n = 8 by omega)
  unfold nrm upd pshF
  rw [d]
  simp only [Nat.add_zero]
  by_cases e1 : k < n
  · rw [if_pos (by omega), if_neg (by omega), if_pos e1, if_pos e1]
  · by_cases e2 : k = n
    · rw [if_pos (by omega), if_pos e2, if_neg e1, if_pos e2]
    · rw [if_neg (by omega), if_neg e1, if_neg e2]
theorem psh_b {f g : Nat → Int32} {x : Int32} (h : ∀ k, k < 7 → g k = f (k + 1)) : nrm 8 (upd g 7 x) = pshF 8 (nrm 8 f) x := by
  funext k
  have d : dL 8 = 1 := rfl
  unfold nrm upd pshF
  rw [d]
  show (if k < 8 then (if k = 7 then x else g k) else 0) = (if k + 1 < 8 then (if k + 1 < 8 then f (k + 1) else 0) else if k + 1 = 8 then x else 0)
  by_cases e1 : k < 7
  · rw [if_pos (by omega), if_neg (by omega), if_pos (by omega), if_pos (by omega), h k e1]
  · by_cases e2 : k = 7
    · rw [if_pos (by omega), if_pos e2, if_neg (by omega), if_pos (by omega)]
    · rw [if_neg (by omega), if_neg (by omega), if_neg (by omega)]
def okI (n : Nat) (x : Int32) : Prop := ∃ i, i < n ∧ x = nI i
theorem no_lo {n : Nat} {x : Int32} (hn : n < 1000000) (h : x < 0) : ¬ okI n x := by
  rintro ⟨i, hi, rfl⟩
  exact nn0 (by omega) h
theorem no_hi {n : Nat} {x : Int32} (hn : n < 1000000) (h : nI n ≤ x) : ¬ okI n x := by
  rintro ⟨i, hi, rfl⟩
  rw [nle hn (by omega)] at h
  omega
theorem wrA_upd {M : Mem} {c j : Nat} {f : Nat → Int32} {x : Int32} : wr (wrA M c f) c j x = wrA M c (upd f j x) := by
  funext k
  unfold wr wrA
  split
  · rw [if_pos rfl]
  · rfl
theorem wrA_self {M : Mem} {c : Nat} : wrA M c (M c) = M := by
  funext k
  unfold wrA
  split
  · rename_i h; rw [h]
  · rfl
theorem wrA_at {M : Mem} {c : Nat} {f : Nat → Int32} : wrA M c f c = f := by unfold wrA; rw [if_pos rfl]
theorem wrA_no {M : Mem} {c k : Nat} {f : Nat → Int32} (h : k ≠ c) : wrA M c f k = M k := by unfold wrA; rw [if_neg h]
section C58
variable {M V L : Mem} {G2 : Grf} {T2 : List (Nat × Nat)}
theorem c_dropOldest : WpV mX1_dropOldest [.ref 10] M (gj G2) (TTc ++ T2) (fun M' => Fr 10 13 M M' ∧ M' 10 3 = nI 7 ∧ (∀ k, k < 7 → M' 11 k = M 11 (k + 1)) ∧ (∀ k, k < 7 → M' 12 k = M 12 (k + 1)) ∧ ∀ k, k < 7 → M' 13 k = M 13 (k + 1)) := by
  refine WpV.of rfl rfl nL fun X Q C hk => bX1_dropOldest_0 C ?_
  have loop : ∀ m k (M1 : Mem), k + m = 7 → Fr 10 13 M M1 → (∀ j, j < k → M1 11 j = M 11 (j + 1) ∧ M1 12 j = M 12 (j + 1) ∧ M1 13 j = M 13 (j + 1)) → (∀ j, k < j → M1 11 j = M 11 j ∧ M1 12 j = M 12 j ∧ M1 13 j = M 13 j) → WW X Q 2 [(0, .ref 10), (1, .int (nI (k + 1)))] [] (M1, gj G2, TTc ++ T2) := by
    intro m
    induction m with
    | zero =>
      intro k M1 hm hf h1 h2
      have e : k = 7 := by omega
      subst e
      refine bX1_dropOldest_2 C ⟨fun _ => hk _ ⟨hf.wr (by omega) (by omega), rfl, fun k hk => (h1 k hk).1, fun k hk => (h1 k hk).2.1, fun k hk => (h1 k hk).2.2⟩, fun q => absurd (by decide) q⟩
    | succ m ih =>
      intro k M1 hm hf h1 h2
      have a : vp_in (nI (k + 1)) 8 := nin (by omega) (by omega)
      have b : vp_in (nI k) 8 := nin (by omega) (by omega)
      refine bX1_dropOldest_2 C ⟨fun q => absurd q ?_, fun _ => ?_⟩
      · show ¬ nI 8 ≤ nI (k + 1)
        rw [nle (by omega) (by omega)]; omega
      rw [nI_p1, nI_1, ncl (by omega), ncl (by omega)]
      refine ⟨a, b, a, b, a, b, ih (k + 1) _ (by omega) (((hf.wr (by omega) (by omega)).wr (by omega) (by omega)).wr (by omega) (by omega)) (fun j hj => ?_) (fun j hj => ?_)⟩
      · obtain ⟨x1, x2, x3⟩ := h2 (k + 1) (by omega)
        by_cases e : j = k
        · subst e
          refine ⟨?_, ?_, ?_⟩
          · show upd (M1 11) j (M1 11 (j + 1)) j = _; rw [pk_us, x1]
          · show upd (M1 12) j (M1 12 (j + 1)) j = _; rw [pk_us, x2]
          · show upd (M1 13) j (M1 13 (j + 1)) j = _; rw [pk_us, x3]
        · obtain ⟨y1, y2, y3⟩ := h1 j (by omega)
          refine ⟨?_, ?_, ?_⟩
          · show upd (M1 11) k (M1 11 (k + 1)) j = _; rw [pk_un e, y1]
          · show upd (M1 12) k (M1 12 (k + 1)) j = _; rw [pk_un e, y2]
          · show upd (M1 13) k (M1 13 (k + 1)) j = _; rw [pk_un e, y3]
      · obtain ⟨y1, y2, y3⟩ := h2 j (by omega)
        have e : j ≠ k := by omega
        refine ⟨?_, ?_, ?_⟩
        · show upd (M1 11) k (M1 11 (k + 1)) j = _; rw [pk_un e, y1]
        · show upd (M1 12) k (M1 12 (k + 1)) j = _; rw [pk_un e, y2]
        · show upd (M1 13) k (M1 13 (k + 1)) j = _; rw [pk_un e, y3]
  exact loop 7 0 M (by omega) Fr.rfl' (fun j hj => absurd hj (by omega)) (fun j _ => ⟨rfl, rfl, rfl⟩)
theorem c_push (el : lgC M = L) (hl : LOK L) (w g o : Int32) : WpV mX1_push [.ref 10, .int w, .int g, .int o] M (gj G2) (TTc ++ T2) (fun M' => Fr 10 13 M M' ∧ lgC M' = pushL L w g o) := by
  have hn : M 10 3 = nI (nlL L) := by rw [← hl.1, ← el]; rfl
  have hn2 : (M 10 3).toNatClampNeg = nlL L := by rw [← el]; rfl
  have h8 := hl.2
  refine WpV.of rfl rfl nL fun X Q C hk => bX1_push_0 C ⟨fun q => ?_, fun q => (c_dropOldest).imp ?_⟩
  · rw [hn] at q
    have q8 : nlL L < 8 := (nlt (b := 8) (by omega) (by omega)).mp q
    have vi : vp_in (M 10 3) 8 := by rw [hn]; exact nin q8 (by omega)
    refine ⟨vi, vi, vi, hk _ ⟨(((Fr.rfl'.wr (by omega) (by omega)).wr (by omega) (by omega)).wr (by omega) (by omega)).wr (by omega) (by omega), ?_⟩⟩
    have en : (M 10 3 + 1).toNatClampNeg = nlL L + 1 := by rw [hn, nI_1, ncl (by omega)]
    have e0 : L 0 = nrm (nlL L) (M 11) := by rw [← hn2, ← el]; rfl
    have e1 : L 1 = nrm (nlL L) (M 12) := by rw [← hn2, ← el]; rfl
    have e2 : L 2 = nrm (nlL L) (M 13) := by rw [← hn2, ← el]; rfl
    funext c
    rcases c with _ | _ | _ | c
    · show nrm (M 10 3 + 1).toNatClampNeg (upd (M 11) (M 10 3).toNatClampNeg w) = pshF (nlL L) (L 0) w
      rw [en, hn2, psh_a q8, e0]
    · show nrm (M 10 3 + 1).toNatClampNeg (upd (M 12) (M 10 3).toNatClampNeg g) = pshF (nlL L) (L 1) g
      rw [en, hn2, psh_a q8, e1]
    · show nrm (M 10 3 + 1).toNatClampNeg (upd (M 13) (M 10 3).toNatClampNeg o) = pshF (nlL L) (L 2) o
      rw [en, hn2, psh_a q8, e2]
    · funext j
      show M 10 3 + 1 = nI (nlL L - dL (nlL L) + 1)
      unfold dL
      rw [if_neg (by omega), hn, nI_1]
      rfl
  · rintro M1 ⟨hf, h7, d1, d2, d3⟩
    have q8 : nlL L = 8 := by
      rw [hn] at q
      have : ¬ nlL L < 8 := fun z => q ((nlt (b := 8) (by omega) (by omega)).mpr z)
      omega
    have vi : vp_in (M1 10 3) 8 := by rw [h7]; exact nin (by omega) (by omega)
    have e0 : L 0 = nrm 8 (M 11) := by rw [← q8, ← hn2, ← el]; rfl
    have e1 : L 1 = nrm 8 (M 12) := by rw [← q8, ← hn2, ← el]; rfl
    have e2 : L 2 = nrm 8 (M 13) := by rw [← q8, ← hn2, ← el]; rfl
    refine bX1_push_13 C ⟨vi, vi, vi, hk _ ⟨(((hf.wr (by omega) (by omega)).wr (by omega) (by omega)).wr (by omega) (by omega)).wr (by omega) (by omega), ?_⟩⟩
    have en : (M1 10 3 + 1).toNatClampNeg = 8 := by rw [h7]; decide
    have e7 : (M1 10 3).toNatClampNeg = 7 := by rw [h7]; decide
    funext c
    rcases c with _ | _ | _ | c
    · show nrm (M1 10 3 + 1).toNatClampNeg (upd (M1 11) (M1 10 3).toNatClampNeg w) = pshF (nlL L) (L 0) w
      rw [en, e7, psh_b d1, e0, q8]
    · show nrm (M1 10 3 + 1).toNatClampNeg (upd (M1 12) (M1 10 3).toNatClampNeg g) = pshF (nlL L) (L 1) g
      rw [en, e7, psh_b d2, e1, q8]
    · show nrm (M1 10 3 + 1).toNatClampNeg (upd (M1 13) (M1 10 3).toNatClampNeg o) = pshF (nlL L) (L 2) o
      rw [en, e7, psh_b d3, e2, q8]
    · funext j
      show M1 10 3 + 1 = nI (nlL L - dL (nlL L) + 1)
      rw [q8, h7]
      rfl
/-- a change noted: the log has it, no order is known -/
def NtC (M M' L : Mem) : Prop := ∃ M1, Fr 10 13 M M1 ∧ lgC M1 = L ∧ M' = wr M1 29 3 0
theorem c_noteChange (el : lgC M = L) (hl : LOK L) (w g o : Int32) : WpV mX9_noteChange [.ref 0, .int w, .int g, .int o] M (gj G2) (TTc ++ T2) (fun M' => NtC M M' (pushL L w g o)) := by
  refine WpV.of rfl rfl nL fun X Q C hk => bX9_noteChange_0 C ((c_push el hl w g o).imp ?_)
  rintro M1 ⟨hf, e⟩
  exact bX9_noteChange_10 C (hk _ ⟨M1, hf, e, rfl⟩)
theorem rg_c {x : Int32} {a b : Int32} {p q : Int} (ha : a.toInt = p) (hb : b.toInt = q) (h1 : ¬ x < a) (h2 : ¬ b < x) : rgI x p q := by
  rw [fa_lt] at h1 h2
  unfold rgI
  omega
theorem c_wear (e : vC M = V) (h : VB V) (el : lgC M = L) (hl : LOK L) (i c : Int32) : WpI mX9_wear [.ref 0, .int i, .int c] M (gj G2) (TTc ++ T2) (fun r M' => (¬ (okI (ngV V) i ∧ rgI c (-9) 9) ∧ r = -1 ∧ M' = M) ∨ ∃ k, k < ngV V ∧ i = nI k ∧ rgI c (-9) 9 ∧ r = V 4 k + 100 ∧ NtC (wr M 42 k c) M' (pushL L 1 (nI k) (V 4 k))) := by
  have h7 := h.1.1.2.2
  refine WpI.of rfl rfl nL fun X Q C hk => bX9_wear_0 C (g_c (by omega) (rc_g e h.1) (fun q => hk _ _ (Or.inl ⟨fun z => no_lo (by omega) q z.1, rfl, rfl⟩)) (fun q => hk _ _ (Or.inl ⟨fun z => no_hi (by omega) q z.1, rfl, rfl⟩)) fun k hk7 ek => ⟨fun q => hk _ _ (Or.inl ⟨fun z => ?_, rfl, rfl⟩), fun q => ⟨fun q2 => hk _ _ (Or.inl ⟨fun z => ?_, rfl, rfl⟩), fun q2 => ?_⟩⟩)
  · have := z.2.1
    rw [fa_lt, show (-9 : Int32).toInt = -9 by decide] at q
    omega
  · have := z.2.2
    rw [fa_lt, show (9 : Int32).toInt = 9 by decide] at q2
    omega
  subst ek
  have i7 : vp_in (nI k) 7 := nin (by omega) (by omega)
  have hc := rg_c (x := c) (p := -9) (q := 9) (by decide) (by decide) q q2
  rw [ncl (by omega)]
  refine ⟨i7, i7, (c_noteChange (M := wr M 42 k c) el hl _ _ _).imp ?_⟩
  intro M' hN
  rw [rc_4 e hk7] at hN
  refine bX9_wear_60 C (hk _ _ (Or.inr ⟨k, hk7, rfl, hc, by rw [rc_4 e hk7], hN⟩))
theorem c_come (e : vC M = V) (h : VB V) (el : lgC M = L) (hl : LOK L) (i c : Int32) : WpI mX9_come [.ref 0, .int i, .int c] M (gj G2) (TTc ++ T2) (fun r M' => (¬ (okI (ngV V) i ∧ rgI c 0 9) ∧ r = -1 ∧ M' = M) ∨ ∃ k, k < ngV V ∧ i = nI k ∧ rgI c 0 9 ∧ r = V 1 k ∧ NtC (wr M 39 k c) M' (pushL L 2 (nI k) (V 1 k))) := by
  have h7 := h.1.1.2.2
  refine WpI.of rfl rfl nL fun X Q C hk => bX9_come_0 C (g_c (by omega) (rc_g e h.1) (fun q => hk _ _ (Or.inl ⟨fun z => no_lo (by omega) q z.1, rfl, rfl⟩)) (fun q => hk _ _ (Or.inl ⟨fun z => no_hi (by omega) q z.1, rfl, rfl⟩)) fun k hk7 ek => ⟨fun q => hk _ _ (Or.inl ⟨fun z => ?_, rfl, rfl⟩), fun q => ⟨fun q2 => hk _ _ (Or.inl ⟨fun z => ?_, rfl, rfl⟩), fun q2 => ?_⟩⟩)
  · have := z.2.1
    rw [fa_lt, show (0 : Int32).toInt = 0 by decide] at q
    omega
  · have := z.2.2
    rw [fa_lt, show (9 : Int32).toInt = 9 by decide] at q2
    omega
  subst ek
  have i7 : vp_in (nI k) 7 := nin (by omega) (by omega)
  have hc := rg_c (x := c) (p := 0) (q := 9) (by decide) (by decide) q q2
  rw [ncl (by omega)]
  refine ⟨i7, i7, (c_noteChange (M := wr M 39 k c) el hl _ _ _).imp ?_⟩
  intro M' hN
  rw [rc_1 e hk7] at hN
  refine bX9_come_59 C (hk _ _ (Or.inr ⟨k, hk7, rfl, hc, by rw [rc_1 e hk7], hN⟩))
end C58
/-! the reference's snapshots -/
def spA (M : Mem) : Mem := fun k j => if k < (M 57 35).toNatClampNeg ∧ j < 21 then M 77 (21 * k + j) else 0
def pushA (n : Nat) (A : Mem) (s : Nat → Int32) : Mem := fun k j => if j < 21 then (if k + dL n < n then A (k + dL n) j else if k + dL n = n then s j else 0) else 0
/-- a change noted by the reference -/
def NtM (n : Nat) (M M' : Mem) : Prop := (∀ c, c ≠ 57 → c ≠ 77 → M' c = M c) ∧ M' 57 = upd (M 57) 35 (nI (n - dL n + 1)) ∧ spA M' = pushA n (spA M) (M 64)
section M58
variable {M V : Mem} {n : Nat}
theorem m_note (hn : M 57 35 = nI n) (h8 : n ≤ 8) : WpV mX10_note [.ref 57] M (gj gm) (TTc ++ TTm) (fun M' => NtM n M M') := by
  refine WpV.of rfl rfl nL fun X Q C hk => ?_
  -- the copy of st to the place of the newest, n' behind the shift
  have tail : ∀ (M0 : Mem), (∀ c, c ≠ 57 → c ≠ 77 → M0 c = M c) → M0 57 = upd (M 57) 35 (nI (n - dL n)) → (∀ k j, k + dL n < n → j < 21 → M0 77 (21 * k + j) = M 77 (21 * (k + dL n) + j)) → WW X Q 51 [(0, .ref 57), (1, .int 0)] [] (M0, gj gm, TTc ++ TTm) := by
    intro M0 c0 c57 c77
    have hd : n - dL n ≤ 7 := by unfold dL; split <;> omega
    have dn : dL n ≤ n := by unfold dL; split <;> omega
    have e35 : M0 57 35 = nI (n - dL n) := by rw [c57, pk_us]
    have loop : ∀ m j (M1 : Mem), j + m = 21 → (∀ c, c ≠ 77 → M1 c = M0 c) → (∀ i, i < 21 * (n - dL n) → M1 77 i = M0 77 i) → (∀ i, i < j → M1 77 (21 * (n - dL n) + i) = M 64 i) → WW X Q 51 [(0, .ref 57), (1, .int (nI j))] [] (M1, gj gm, TTc ++ TTm) := by
      intro m
      induction m with
      | zero =>
        intro j M1 hj h1 h2 h3
        have ej : j = 21 := by omega
        subst ej
        refine bX10_note_51 C ⟨fun _ => hk _ ⟨fun c hc hc2 => ?_, ?_, ?_⟩, fun q => absurd (by decide) q⟩
        · rw [wr_ne hc, h1 c hc2, c0 c hc hc2]
        · rw [wr_eq, h1 57 (by omega), e35, nI_1, c57, upd_upd]
        · have e2 : (wr M1 57 35 (M1 57 35 + 1)) 57 35 = nI (n - dL n + 1) := by rw [wr_eq, pk_us, h1 57 (by omega), e35, nI_1]
          funext k i
          show (if k < ((wr M1 57 35 (M1 57 35 + 1)) 57 35).toNatClampNeg ∧ i < 21 then M1 77 (21 * k + i) else 0) = if i < 21 then (if k + dL n < n then spA M (k + dL n) i else if k + dL n = n then M 64 i else 0) else 0
          rw [e2, ncl (by omega)]
          by_cases hi : i < 21
          · rw [if_pos hi]
            by_cases a1 : k + dL n < n
            · rw [if_pos ⟨by omega, hi⟩, if_pos a1, h2 _ (by omega), c77 k i a1 hi]
              unfold spA
              rw [hn, ncl (by omega), if_pos ⟨a1, hi⟩]
            · rw [if_neg a1]
              by_cases a2 : k + dL n = n
              · rw [if_pos ⟨by omega, hi⟩, if_pos a2, show k = n - dL n by omega, h3 i hi]
              · rw [if_neg (fun z => by have := z.1; omega), if_neg a2]
          · rw [if_neg hi, if_neg (fun z => hi z.2)]
      | succ m ih =>
        intro j M1 hj h1 h2 h3
        have e1 : M1 57 35 = nI (n - dL n) := by rw [h1 57 (by omega), e35]
        refine bX10_note_51 C ⟨fun q => absurd q ?_, fun _ => ?_⟩
        · show ¬ nI 21 ≤ nI j
          rw [nle (by omega) (by omega)]; omega
        rw [e1, show (21 : Int32) = nI 21 from rfl, pk_mul, nI_add, nI_1, ncl (by omega), ncl (by omega)]
        refine ⟨nin (by omega) (by omega), nin (by omega) (by omega), ih (j + 1) _ (by omega) (fun c hc => by rw [wr_ne hc, h1 c hc]) (fun i hi => ?_) (fun i hi => ?_)⟩
        · rw [wr_eq, pk_un (by omega), h2 i hi]
        · rw [wr_eq]
          by_cases e2 : i = j
          · subst e2; rw [pk_us, h1 64 (by omega), c0 64 (by omega) (by omega)]
          · rw [pk_un (by omega), h3 i (by omega)]
    exact loop 21 0 M0 (by omega) (fun _ _ => rfl) (fun _ _ => rfl) (fun i hi => absurd hi (by omega))
  refine bX10_note_0 C ⟨fun q => tail M (fun _ _ _ => rfl) ?_ ?_, fun q => ?_⟩
  · have : n ≠ 8 := fun z => q (by rw [hn, z]; rfl)
    unfold dL
    rw [if_neg this, Nat.sub_zero, ← hn, upd_self]
  · have : n ≠ 8 := fun z => q (by rw [hn, z]; rfl)
    intro k j _ _
    unfold dL
    rw [if_neg this]
    rfl
  · have e8 : n = 8 := by
      rw [hn] at q
      exact (neq (b := 8) (by omega) (by omega)).mp q
    subst e8
    have loop : ∀ m j (M1 : Mem), j + m = 147 → (∀ c, c ≠ 77 → M1 c = M c) → (∀ i, i < j → M1 77 i = M 77 (i + 21)) → (∀ i, j ≤ i → M1 77 i = M 77 i) → WW X Q 11 [(0, .ref 57), (1, .int (nI j))] [] (M1, gj gm, TTc ++ TTm) := by
      intro m
      induction m with
      | zero =>
        intro j M1 hj h1 h2 h3
        have ej : j = 147 := by omega
        subst ej
        refine bX10_note_11 C ⟨fun _ => tail _ (fun c hc hc2 => by rw [wr_ne hc, h1 c hc2]) ?_ ?_, fun q => absurd (by decide) q⟩
        · rw [wr_eq, h1 57 (by omega), hn]
          rfl
        · intro k i hk2 hi
          have d : dL 8 = 1 := rfl
          rw [d] at hk2 ⊢
          rw [wr_ne (by omega), h2 _ (by omega), show 21 * k + i + 21 = 21 * (k + 1) + i by omega]
      | succ m ih =>
        intro j M1 hj h1 h2 h3
        refine bX10_note_11 C ⟨fun q => absurd q ?_, fun _ => ?_⟩
        · show ¬ nI 147 ≤ nI j
          rw [nle (by omega) (by omega)]; omega
        rw [show (21 : Int32) = nI 21 from rfl, nI_add, nI_1, ncl (by omega), ncl (by omega)]
        refine ⟨nin (by omega) (by omega), nin (by omega) (by omega), ih (j + 1) _ (by omega) (fun c hc => by rw [wr_ne hc, h1 c hc]) (fun i hi => ?_) (fun i hi => ?_)⟩
        · rw [wr_eq]
          by_cases e2 : i = j
          · subst e2; rw [pk_us, h3 _ (by omega)]
          · rw [pk_un e2, h2 i (by omega)]
        · rw [wr_eq, pk_un (by omega), h3 i (by omega)]
    exact loop 147 0 M (by omega) (fun _ _ => rfl) (fun i hi => absurd hi (by omega)) (fun _ _ => rfl)
theorem m_wear (e : vM (M 57 1) M = V) (h : VB V) (hn : M 57 35 = nI n) (h8 : n ≤ 8) (i c : Int32) : WpI mX10_wear [.ref 57, .int i, .int c] M (gj gm) (TTc ++ TTm) (fun r M' => (¬ (okI (ngV V) i ∧ rgI c (-9) 9) ∧ r = -1 ∧ M' = M) ∨ ∃ k, k < ngV V ∧ i = nI k ∧ rgI c (-9) 9 ∧ r = V 4 k + 100 ∧ ∃ M1, NtM n M M1 ∧ M' = wr M1 64 (7 + k) c) := by
  have h7 := h.1.1.2
  refine WpI.of rfl rfl nL fun X Q C hk => bX10_wear_0 C (g_m h7.1 (by omega) (by rw [rm_g e h.1]) (fun q => hk _ _ (Or.inl ⟨fun z => no_lo (by omega) q z.1, rfl, rfl⟩)) (fun q => hk _ _ (Or.inl ⟨fun z => no_hi (by omega) q z.1, rfl, rfl⟩)) fun k hk7 ek => ⟨fun q => hk _ _ (Or.inl ⟨fun z => ?_, rfl, rfl⟩), fun q => ⟨fun q2 => hk _ _ (Or.inl ⟨fun z => ?_, rfl, rfl⟩), fun q2 => ?_⟩⟩)
  · have := z.2.1
    rw [fa_lt, show (-9 : Int32).toInt = -9 by decide] at q
    omega
  · have := z.2.2
    rw [fa_lt, show (9 : Int32).toInt = 9 by decide] at q2
    omega
  subst ek
  have hc := rg_c (x := c) (p := -9) (q := 9) (by decide) (by decide) q q2
  refine (m_note hn h8).imp ?_
  intro M1 hN
  refine bX10_wear_28 C ?_
  rw [n7, ncl (by omega)]
  have v := nin (a := 7 + k) (n := 21) (by omega) (by omega)
  exact ⟨v, v, hk _ _ (Or.inr ⟨k, hk7, rfl, hc, by rw [hN.1 64 (by omega) (by omega), rm_4 e hk7], M1, hN, rfl⟩)⟩
theorem m_come (e : vM (M 57 1) M = V) (h : VB V) (hn : M 57 35 = nI n) (h8 : n ≤ 8) (i c : Int32) : WpI mX10_come [.ref 57, .int i, .int c] M (gj gm) (TTc ++ TTm) (fun r M' => (¬ (okI (ngV V) i ∧ rgI c 0 9) ∧ r = -1 ∧ M' = M) ∨ ∃ k, k < ngV V ∧ i = nI k ∧ rgI c 0 9 ∧ r = V 1 k ∧ ∃ M1, NtM n M M1 ∧ M' = wr M1 64 (14 + k) c) := by
  have h7 := h.1.1.2
  refine WpI.of rfl rfl nL fun X Q C hk => bX10_come_0 C (g_m h7.1 (by omega) (by rw [rm_g e h.1]) (fun q => hk _ _ (Or.inl ⟨fun z => no_lo (by omega) q z.1, rfl, rfl⟩)) (fun q => hk _ _ (Or.inl ⟨fun z => no_hi (by omega) q z.1, rfl, rfl⟩)) fun k hk7 ek => ⟨fun q => hk _ _ (Or.inl ⟨fun z => ?_, rfl, rfl⟩), fun q => ⟨fun q2 => hk _ _ (Or.inl ⟨fun z => ?_, rfl, rfl⟩), fun q2 => ?_⟩⟩)
  · have := z.2.1
    rw [fa_lt, show (0 : Int32).toInt = 0 by decide] at q
    omega
  · have := z.2.2
    rw [fa_lt, show (9 : Int32).toInt = 9 by decide] at q2
    omega
  subst ek
  have hc := rg_c (x := c) (p := 0) (q := 9) (by decide) (by decide) q q2
  refine (m_note hn h8).imp ?_
  intro M1 hN
  refine bX10_come_26 C ?_
  rw [n14, ncl (by omega)]
  have v := nin (a := 14 + k) (n := 21) (by omega) (by omega)
  exact ⟨v, v, hk _ _ (Or.inr ⟨k, hk7, rfl, hc, by rw [hN.1 64 (by omega) (by omega), rm_1 e hk7], M1, hN, rfl⟩)⟩
end M58
