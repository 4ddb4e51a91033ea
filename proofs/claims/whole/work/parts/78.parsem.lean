/-! the reference: the text, read -/
def RD (M : Mem) (d : Dt) : Prop := (M 57 23 = nI d.2.1 ∧ M 57 18 = nI d.2.2.1 ∧ M 57 20 = nI d.2.2.2.1 ∧ M 57 25 = nI d.2.2.2.2 ∧ M 57 26 = d.1 9 0) ∧ (∀ i, i < d.2.1 → M 69 (3 * i) = d.1 0 i ∧ M 69 (3 * i + 1) = d.1 1 i ∧ M 69 (3 * i + 2) = d.1 2 i) ∧ (∀ i, i < 7 → M 70 i = d.1 3 i) ∧ (∀ i, i < d.2.2.1 → M 67 i = d.1 6 i) ∧ (∀ i, i < 30 → M 68 i = d.1 7 i) ∧ (∀ i, i < d.2.2.2.2 → M 71 i = d.1 8 i)
def TM (t : Nat → Int32) (n : Nat) (M : Mem) : Prop := M 57 13 = nI n ∧ ∀ p, p < n → M 65 p = t p
def F8 (M M' : Mem) : Prop := (∀ c, c ≠ 57 → (c < 66 ∨ 71 < c) → M' c = M c) ∧ ∀ j, (j < 14 ∨ 26 < j) → M' 57 j = M 57 j
theorem F8.r {M : Mem} : F8 M M := ⟨fun _ _ _ => rfl, fun _ _ => rfl⟩
theorem F8.t {M M' M'' : Mem} (h : F8 M M') (h2 : F8 M' M'') : F8 M M'' := ⟨fun c c1 c2 => (h2.1 c c1 c2).trans (h.1 c c1 c2), fun j hj => (h2.2 j hj).trans (h.2 j hj)⟩
theorem f8_a {M M' : Mem} {c j : Nat} {v : Int32} (h : F8 M M') (h1 : 66 ≤ c) (h2 : c ≤ 71) : F8 M (wr M' c j v) := ⟨fun k k1 k2 => by rw [wr_ne (by omega)]; exact h.1 k k1 k2, fun j hj => by rw [wr_ne (by omega)]; exact h.2 j hj⟩
theorem f8_b {M M' : Mem} {j : Nat} {v : Int32} (h : F8 M M') (h1 : 14 ≤ j) (h2 : j ≤ 26) : F8 M (wr M' 57 j v) := ⟨fun k k1 k2 => by rw [wr_ne k1]; exact h.1 k k1 k2, fun i hi => by rw [wr_no (by omega)]; exact h.2 i hi⟩
theorem TM.f {t : Nat → Int32} {n : Nat} {M M' : Mem} (h : TM t n M) (f : F8 M M') : TM t n M' := ⟨by rw [f.2 13 (by omega)]; exact h.1, fun p hp => by rw [f.1 65 (by omega) (by omega)]; exact h.2 p hp⟩
theorem i_10 (x : Int32) : 10 * 0 + x - 48 = x - 48 := by grind
section M78
variable {M : Mem} {t : Nat → Int32} {n : Nat} {d : Dt}
/-- what a number's reading changes: the place and one number -/
def NmP (M M' : Mem) (k q : Nat) (v : Int32) : Prop := M' = wr (wr M 57 14 (nI q)) 66 k v
theorem wr_cm {M : Mem} {c j c' j' : Nat} {x y : Int32} (h : c ≠ c') : wr (wr M c j x) c' j' y = wr (wr M c' j' y) c j x := by
  funext k
  by_cases e : k = c
  · subst e; rw [wr_ne h, wr_eq, wr_eq, wr_ne h]
  · by_cases e2 : k = c'
    · subst e2; rw [wr_eq, wr_ne e, wr_ne e, wr_eq]
    · rw [wr_ne e2, wr_ne e, wr_ne e, wr_ne e2]
theorem m_readNumber (ht : TX t n) (hc : TM t n M) {p k : Nat} (hp : M 57 14 = nI p) (hpn : p ≤ n) (hk3 : k < 3) : WpI mX10_readNumber [.ref 57, .int (nI k)] M (gj gm) (TTc ++ TTm) (fun r M' => F8 M M' ∧ (∀ c, c ≠ 57 → c ≠ 66 → M' c = M c) ∧ ((rdN t p = none ∧ r = 0) ∨ ∃ v q, rdN t p = some (v, q) ∧ r = 1 ∧ M' = wr (wr M 57 14 (nI q)) 66 k v)) := by
  have hn := ht.1
  refine WpI.of rfl rfl nL fun X Q C hk => bX10_readNumber_0 C ?_
  rw [hp]
  -- the end: nothing more is read
  have stop : ∀ (q : Nat) (x3 : Int32) (M1 : Mem), M1 57 14 = nI q → q < 1000 → (p < q → RetOK X Q (some (.int 1)) (wr M1 66 k x3, gj gm, TTc ++ TTm)) → (p = q → RetOK X Q (some (.int 0)) (wr M1 66 k x3, gj gm, TTc ++ TTm)) → p ≤ q → (vp_in (nI k) 3 ∧ ((M1 57 14 ≤ nI p → RetOK X Q (some (.int 0)) (wr M1 66 (nI k).toNatClampNeg x3, gj gm, TTc ++ TTm)) ∧ (¬ M1 57 14 ≤ nI p → RetOK X Q (some (.int 1)) (wr M1 66 (nI k).toNatClampNeg x3, gj gm, TTc ++ TTm)))) := by
    intro q x3 M1 e hq a b hpq
    rw [ncl (by omega), e, nle (by omega) (by omega)]
    exact ⟨nin (by omega) (by omega), fun z => b (by omega), fun z => a (by omega)⟩
  have tst : ∀ (q : Nat) (x3 : Int32) (M1 : Mem), M1 57 14 = nI q → TM t n M1 → p ≤ q → q ≤ p + 2 → (¬ (q < p + 2 ∧ fg t q = true) → (p < q → RetOK X Q (some (.int 1)) (wr M1 66 k x3, gj gm, TTc ++ TTm)) ∧ (p = q → RetOK X Q (some (.int 0)) (wr M1 66 k x3, gj gm, TTc ++ TTm))) → (q < p + 2 → fg t q = true → WW X Q 7 [(0, .ref 57), (1, .int (nI k)), (2, .int (nI p)), (3, .int (10 * x3 + t q - 48))] [] (wr M1 57 14 (nI (q + 1)), gj gm, TTc ++ TTm)) → WW X Q 7 [(0, .ref 57), (1, .int (nI k)), (2, .int (nI p)), (3, .int x3)] [] (M1, gj gm, TTc ++ TTm) := by
    intro q x3 M1 e tm hpq hq2 no yes
    have st : ¬ (q < p + 2 ∧ fg t q = true) → (vp_in (nI k) 3 ∧ ((M1 57 14 ≤ nI p → RetOK X Q (some (.int 0)) (wr M1 66 (nI k).toNatClampNeg x3, gj gm, TTc ++ TTm)) ∧ (¬ M1 57 14 ≤ nI p → RetOK X Q (some (.int 1)) (wr M1 66 (nI k).toNatClampNeg x3, gj gm, TTc ++ TTm)))) := fun z => stop q x3 M1 e (by omega) (no z).1 (no z).2 hpq
    refine bX10_readNumber_7 C ⟨fun z => st (fun y => ?_), fun z => ⟨fun z2 => st (fun y => ?_), fun z2 => ?_⟩⟩
    · rw [tm.1, e, nle (by omega) (by omega)] at z
      have := ht.fg y.2
      omega
    · rw [e, show nI p + 2 = nI (p + 2) from nI_add p 2, nle (by omega) (by omega)] at z2
      omega
    rw [tm.1, e, nle (by omega) (by omega)] at z
    rw [e, show nI p + 2 = nI (p + 2) from nI_add p 2, nle (by omega) (by omega)] at z2
    have et : M1 65 (M1 57 14).toNatClampNeg = t q := by rw [e, ncl (by omega)]; exact tm.2 q (by omega)
    have vi : vp_in (M1 57 14) 200 := by rw [e]; exact nin (by omega) (by omega)
    rw [et]
    refine ⟨vi, fun z3 => st (fun y => absurd z3 (i_nlt.mpr (fg_iff.mp y.2).1)), fun z3 => ⟨fun z4 => st (fun y => absurd z4 (i_nlt.mpr (fg_iff.mp y.2).2)), fun z4 => ⟨vi, ?_⟩⟩⟩
    rw [e, nI_1]
    exact yes (by omega) (fg_iff.mpr ⟨i_nlt.mp z3, i_nlt.mp z4⟩)
  refine tst p 0 M hp hc (by omega) (by omega) (fun z => ⟨fun y => absurd y (by omega), fun _ => hk _ _ ⟨f8_a F8.r (by omega) (by omega), fun c c1 c2 => wr_ne c2, Or.inl ⟨?_, rfl⟩⟩⟩) (fun z1 g1 => ?_)
  · unfold rdN
    rw [if_neg (fun y => z ⟨by omega, y⟩)]
  rw [i_10]
  have e1 : (wr M 57 14 (nI (p + 1))) 57 14 = nI (p + 1) := wr_at
  have fA : F8 M (wr M 57 14 (nI (p + 1))) := f8_b F8.r (by omega) (by omega)
  refine tst (p + 1) _ _ e1 (hc.f fA) (by omega) (by omega) (fun z => ⟨fun _ => hk _ _ ⟨f8_a fA (by omega) (by omega), fun c c1 c2 => by rw [wr_ne c2, wr_ne c1], Or.inr ⟨_, p + 1, ?_, rfl, rfl⟩⟩, fun y => absurd y (by omega)⟩) (fun z2 g2 => ?_)
  · unfold rdN
    rw [if_pos g1, if_neg (fun y => z ⟨by omega, y⟩)]
  rw [wr_wr]
  have e2 : (wr M 57 14 (nI (p + 2))) 57 14 = nI (p + 2) := wr_at
  have fB : F8 M (wr M 57 14 (nI (p + 2))) := f8_b F8.r (by omega) (by omega)
  refine tst (p + 2) _ _ e2 (hc.f fB) (by omega) (by omega) (fun z => ⟨fun _ => hk _ _ ⟨f8_a fB (by omega) (by omega), fun c c1 c2 => by rw [wr_ne c2, wr_ne c1], Or.inr ⟨_, p + 2, ?_, rfl, rfl⟩⟩, fun y => absurd y (by omega)⟩) (fun z3 => absurd z3 (by omega))
  unfold rdN
  rw [if_pos g1, if_pos g2]
theorem m_readNumbers (ht : TX t n) (hc : TM t n M) {p r : Nat} (hp : M 57 14 = nI p) (hpn : p ≤ n) (hr : r < 3) : WpI mX10_readNumbers [.ref 57, .int (nI (r + 1))] M (gj gm) (TTc ++ TTm) (fun x M' => F8 M M' ∧ (∀ c, c ≠ 57 → c ≠ 66 → M' c = M c) ∧ ((rfR t (r + 1) p = none ∧ x = 0) ∨ ∃ l e, rfR t (r + 1) p = some (l, e) ∧ x = 1 ∧ M' 57 = upd (M 57) 14 (nI e) ∧ ∀ i, i < l.length → M' 66 i = l.getD i 0)) := by
  have hn := ht.1
  refine WpI.of rfl rfl nL fun X Q C hk => bX10_readNumbers_0 C ?_
  have loop : ∀ m k q (M1 : Mem), k + m = r + 1 → q ≤ n → M1 57 = upd (M 57) 14 (nI q) → F8 M M1 → (∀ c, c ≠ 57 → c ≠ 66 → M1 c = M c) → (∀ x M', F8 M M' → (∀ c, c ≠ 57 → c ≠ 66 → M' c = M c) → ((rfR t m q = none ∧ x = 0) ∨ ∃ l e, rfR t m q = some (l, e) ∧ x = 1 ∧ M' 57 = upd (M 57) 14 (nI e) ∧ (∀ i, i < k → M' 66 i = M1 66 i) ∧ ∀ i, i < l.length → M' 66 (k + i) = l.getD i 0) → RetOK X Q (some (.int x)) (M', gj gm, TTc ++ TTm)) → WW X Q 2 [(0, .ref 57), (1, .int (nI (r + 1))), (2, .int (nI k))] [] (M1, gj gm, TTc ++ TTm) := by
    intro m
    induction m with
    | zero =>
      intro k q M1 hk2 hq e57 f8 fc fin
      refine bX10_readNumbers_2 C ⟨fun _ => fin _ _ f8 fc (Or.inr ⟨[], q, rfl, rfl, e57, fun _ _ => rfl, fun i hi => absurd hi (by simp)⟩), fun z => absurd ((nle (by omega) (by omega)).mpr (by omega)) z⟩
    | succ m ih =>
      intro k q M1 hk2 hq e57 f8 fc fin
      have p1 : M1 57 14 = nI q := by rw [e57, pk_us]
      refine bX10_readNumbers_2 C ⟨fun z => absurd ((nle (by omega) (by omega)).mp z) (by omega), fun _ => (m_readNumber ht (hc.f f8) p1 hq (k := k) (by omega)).imp ?_⟩
      rintro x M2 ⟨g8, gc, ⟨a, rfl⟩ | ⟨v, q', a, rfl, rfl⟩⟩
      · exact bX10_readNumbers_12 C ⟨fun z => absurd rfl z, fun _ => fin _ _ (f8.t g8) (fun c c1 c2 => (gc c c1 c2).trans (fc c c1 c2)) (Or.inl ⟨by rw [rfR, a], rfl⟩)⟩
      have un : rfR t (m + 1) q = if t q' = (if m = 0 then 59 else 44) then (match rfR t m (q' + 1) with
            | none => none
            | some (l, e) => some (v :: l, e)) else none := by
          rw [rfR, a]
          rfl
      have hq' := rdN_q ht a
      have h8 := f8.t g8
      have hcc : ∀ c, c ≠ 57 → c ≠ 66 → (wr (wr M1 57 14 (nI q')) 66 k v) c = M c := fun c c1 c2 => (gc c c1 c2).trans (fc c c1 c2)
      have tm := hc.f h8
      have p2 : (wr (wr M1 57 14 (nI q')) 66 k v) 57 14 = nI q' := by rw [wr_ne (by omega), wr_at]
      have e2 : (wr (wr M1 57 14 (nI q')) 66 k v) 57 = upd (M 57) 14 (nI q') := by rw [wr_ne (by omega), wr_eq, e57, upd_upd]
      have v2 : (wr (wr M1 57 14 (nI q')) 66 k v) 66 k = v := wr_at
      have o2 : ∀ i, i < k → (wr (wr M1 57 14 (nI q')) 66 k v) 66 i = M1 66 i := fun i hi => by rw [wr_no (by omega), wr_ne (by omega)]
      generalize wr (wr M1 57 14 (nI q')) 66 k v = M2 at *
      have bad : ¬ t q' = (if m = 0 then 59 else 44) → RetOK X Q (some (.int 0)) (M2, gj gm, TTc ++ TTm) := fun z => fin _ _ h8 hcc (Or.inl ⟨by rw [un, if_neg z], rfl⟩)
      have out : nI n ≤ nI q' → RetOK X Q (some (.int 0)) (M2, gj gm, TTc ++ TTm) := fun z => bad (fun y => by
        have z' := (nle (by omega) (by omega)).mp z
        rw [ht.2 q' z'] at y
        split at y
        · exact absurd y (by decide)
        · exact absurd y (by decide))
      have good : q' < n → t q' = (if m = 0 then 59 else 44) → WW X Q 2 [(0, .ref 57), (1, .int (nI (r + 1))), (2, .int (nI k + 1))] [] (wr M2 57 14 (nI q' + 1), gj gm, TTc ++ TTm) := by
        intro z1 z2
        rw [nI_1, nI_1]
        rw [if_pos z2] at un
        refine ih (k + 1) (q' + 1) _ (by omega) (by omega) (by rw [wr_eq, e2, upd_upd]) (f8_b h8 (by omega) (by omega)) (fun c c1 c2 => by rw [wr_ne c1]; exact hcc c c1 c2) (fun x M' b1 b2 b3 => fin x M' b1 b2 ?_)
        rcases b3 with ⟨b, c⟩ | ⟨l, e, b, c, d1, d2, d3⟩
        · exact Or.inl ⟨by rw [un, b], c⟩
        · refine Or.inr ⟨v :: l, e, by rw [un, b], c, d1, fun i hi => ?_, fun i hi => ?_⟩
          · rw [d2 i (by omega), wr_ne (by omega)]; exact o2 i hi
          · cases i with
            | zero => rw [Nat.add_zero, d2 k (by omega), wr_ne (by omega)]; exact v2
            | succ i =>
              have := d3 i (by simpa using hi)
              rw [show k + (i + 1) = k + 1 + i by omega, this]
              rfl
      have e1 : nI (r + 1) - 1 = nI r := nI_p1 r
      refine bX10_readNumbers_12 C ⟨fun _ => ?_, fun z => absurd z (by decide)⟩
      rw [e1, p2, tm.1, ncl (by omega)]
      refine ⟨fun z => ?_, fun z => ?_⟩
      · have km : ¬ m = 0 := fun y => z (by rw [show k = r by omega])
        rw [if_neg km] at bad good
        refine ⟨out, fun z2 => ?_⟩
        have z3 : q' < n := by rw [nle (by omega) (by omega)] at z2; omega
        rw [tm.2 q' z3]
        exact ⟨nin (by omega) (by omega), good z3, bad⟩
      · have km : m = 0 := by
          have := (neq (by omega) (by omega)).mp z
          omega
        rw [if_pos km] at bad good
        refine ⟨out, fun z2 => ?_⟩
        have z3 : q' < n := by rw [nle (by omega) (by omega)] at z2; omega
        rw [tm.2 q' z3]
        exact ⟨nin (by omega) (by omega), good z3, bad⟩
  refine loop (r + 1) 0 p M (by omega) hpn (by rw [← hp, upd_self]) F8.r (fun _ _ _ => rfl) (fun x M' b1 b2 b3 => hk _ _ ⟨b1, b2, ?_⟩)
  rcases b3 with b3 | ⟨l, e, b, c, d1, d2, d3⟩
  · exact Or.inl b3
  · exact Or.inr ⟨l, e, b, c, d1, fun i hi => by rw [← d3 i hi, Nat.zero_add]⟩
end M78
