/-! the class: the text, read into the draft -/
def CD (M : Mem) (d : Dt) : Prop := (M 49 6 = nI d.2.1 ∧ M 46 2 = nI d.2.2.1 ∧ M 46 4 = nI d.2.2.1 ∧ M 46 3 = nI d.2.2.2.1 ∧ M 45 3 = nI d.2.2.2.2 ∧ M 45 4 = d.1 9 0 ∧ M 46 5 = 0 ∧ M 46 6 = -1) ∧ (∀ i, i < d.2.1 → M 50 i = d.1 0 i ∧ M 51 i = d.1 1 i ∧ M 52 i = d.1 2 i ∧ M 53 i = d.1 3 i ∧ M 54 i = 0 ∧ M 55 i = nI i) ∧ (∀ i, i < d.2.2.1 → M 47 i = d.1 6 i) ∧ (∀ i, i < 30 → M 48 i = d.1 7 i) ∧ (∀ i, i < d.2.2.2.2 → M 56 i = d.1 8 i)
theorem CD.cong {M M' : Mem} {d : Dt} (h : CD M d) (e : ∀ c, 45 ≤ c → c ≤ 56 → M' c = M c) : CD M' d := by
  unfold CD at *
  rw [e 45 (by omega) (by omega), e 46 (by omega) (by omega), e 47 (by omega) (by omega), e 48 (by omega) (by omega), e 49 (by omega) (by omega), e 50 (by omega) (by omega), e 51 (by omega) (by omega), e 52 (by omega) (by omega), e 53 (by omega) (by omega), e 54 (by omega) (by omega), e 55 (by omega) (by omega), e 56 (by omega) (by omega)]
  exact h
def TC (t : Nat → Int32) (n : Nat) (M : Mem) : Prop := M 1 2 = nI n ∧ ∀ p, p < n → M 2 p = t p
theorem stp_98 {a : Int32} {d : Dt} : stp 98 [a] d = (if 40 ≤ a ∧ a ≤ 99 ∧ d.2.2.1 < 4 then some (wr d.1 6 d.2.2.1 a, d.2.1, d.2.2.1 + 1, d.2.2.2.1, d.2.2.2.2) else none) := by unfold stp; dsimp only; rw [if_pos rfl]
theorem stp_107 {a : Int32} {d : Dt} : stp 107 [a] d = (if 0 ≤ a ∧ a ≤ 2 then some (wr d.1 9 0 a, d.2.1, d.2.2.1, d.2.2.2.1, d.2.2.2.2) else none) := by unfold stp; dsimp only; rw [if_neg (by decide), if_pos rfl]
theorem stp_114 {a : Int32} {d : Dt} : stp 114 [a] d = (if 40 ≤ a ∧ a ≤ 99 ∧ d.2.2.2.2 < 4 then some (wr d.1 8 d.2.2.2.2 a, d.2.1, d.2.2.1, d.2.2.2.1, d.2.2.2.2 + 1) else none) := by unfold stp; dsimp only; rw [if_neg (by decide), if_neg (by decide), if_pos rfl]
theorem stp_o1 {c a : Int32} {d : Dt} (h1 : ¬ c = 98) (h2 : ¬ c = 107) (h3 : ¬ c = 114) : stp c [a] d = none := (if_neg h1).trans ((if_neg h2).trans (if_neg h3))
theorem stp_102 {a b : Int32} {d : Dt} : stp 102 [a, b] d = (if 0 ≤ a ∧ a ≤ 29 ∧ 0 ≤ b ∧ b ≤ 9 ∧ d.2.2.2.1 < 4 then some (wr d.1 7 a.toNatClampNeg (d.1 7 a.toNatClampNeg + b), d.2.1, d.2.2.1, d.2.2.2.1 + 1, d.2.2.2.2) else none) := by unfold stp; dsimp only; rw [if_pos rfl]
theorem stp_104 {a b : Int32} {d : Dt} : stp 104 [a, b] d = (if 0 ≤ a ∧ a < nI d.2.1 ∧ 0 ≤ b ∧ b < nI d.2.1 ∧ ¬ a = b then some (wr d.1 3 a.toNatClampNeg (d.1 3 a.toNatClampNeg ||| ((1 : Int32) <<< (b &&& 31))), d.2.1, d.2.2.1, d.2.2.2.1, d.2.2.2.2) else none) := by unfold stp; dsimp only; rw [if_neg (by decide), if_pos rfl]
theorem stp_o2 {c a b : Int32} {d : Dt} (h1 : ¬ c = 102) (h2 : ¬ c = 104) : stp c [a, b] d = none := (if_neg h1).trans (if_neg h2)
theorem stp_103 {a b k : Int32} {d : Dt} : stp 103 [a, b, k] d = (if 40 ≤ a ∧ a ≤ 99 ∧ 0 ≤ b ∧ b ≤ 9 ∧ 0 ≤ k ∧ k ≤ 4 ∧ d.2.1 < 7 then some (wr (wr (wr d.1 0 d.2.1 a) 1 d.2.1 b) 2 d.2.1 k, d.2.1 + 1, d.2.2.1, d.2.2.2.1, d.2.2.2.2) else none) := by unfold stp; dsimp only; rw [if_pos rfl]
theorem stp_o3 {c a b k : Int32} {d : Dt} (h1 : ¬ c = 103) : stp c [a, b, k] d = none := if_neg h1
theorem upd_ap {f g : Nat → Int32} {n : Nat} {a : Int32} (h : ∀ i, i < n → f i = g i) : ∀ i, i < n + 1 → upd f n a i = upd g n a i := fun i hi => by
  by_cases e : i = n
  · rw [e, pk_us, pk_us]
  · rw [pk_un e, pk_un e]; exact h i (by omega)
theorem upd_in {f g : Nat → Int32} {n k : Nat} {a b : Int32} (h : ∀ i, i < n → f i = g i) (hab : k < n → a = b) : ∀ i, i < n → upd f k a i = upd g k b i := fun i hi => by
  by_cases e : i = k
  · subst e; rw [pk_us, pk_us]; exact hab hi
  · rw [pk_un e, pk_un e]; exact h i hi
theorem nI_nm {e : Nat} (h : e < 1000000) : ¬ nI e = -1 := fun z => by
  have := congrArg Int32.toInt z
  rw [nti h, show (-1 : Int32).toInt = -1 by decide] at this
  omega
section C77
variable {M : Mem} {ga gb : Nat} {G2 : Grf} {T2 : List (Nat × Nat)} {t : Nat → Int32} {n : Nat} {d : Dt}
theorem c_letterAt (ht : TX t n) (hc : TC t n M) {p : Nat} (hp : p < 100000) : WpI mX7_letterAt [.ref 1, .int (nI p)] M (gz ga gb G2) (TTc ++ T2) (fun r M' => r = t p ∧ M' = M) := by
  have hn := ht.1
  refine WpI.of rfl rfl nL fun X Q C hk => bX7_letterAtz_0 C ⟨fun q => absurd q (nn0 (by omega)), fun _ => ?_⟩
  rw [hc.1, ncl (by omega)]
  refine ⟨fun q => hk _ _ ⟨(ht.2 p ((nle (by omega) (by omega)).mp q)).symm, rfl⟩, fun q => ?_⟩
  have hpn : p < n := by rw [nle (by omega) (by omega)] at q; omega
  exact ⟨fun q2 => absurd ((nle (a := 200) (by omega) (by omega)).mp q2) (by omega), fun _ => ⟨nin (by omega) (by omega), hk _ _ ⟨hc.2 p hpn, rfl⟩⟩⟩
theorem c_isFigure (ht : TX t n) (hc : TC t n M) {p : Nat} (hp : p < 100000) : WpI mX7_isFigure [.ref 1, .int (nI p)] M (gz ga gb G2) (TTc ++ T2) (fun r M' => r = (if fg t p = true then 1 else 0) ∧ M' = M) := by
  refine WpI.of rfl rfl nL fun X Q C hk => bX7_isFigurez_0 C ((c_letterAt ht hc hp).imp ?_)
  rintro r M' ⟨rfl, rfl⟩
  refine bX7_isFigurez_5 C ⟨fun q => hk _ _ ⟨?_, rfl⟩, fun q => ⟨fun q2 => hk _ _ ⟨?_, rfl⟩, fun q2 => hk _ _ ⟨?_, rfl⟩⟩⟩
  · rw [if_neg (fun z => absurd q (i_nlt.mpr (fg_iff.mp z).1))]
  · rw [if_neg (fun z => absurd q2 (i_nlt.mpr (fg_iff.mp z).2))]
  · rw [if_pos (fg_iff.mpr ⟨i_nlt.mp q, i_nlt.mp q2⟩)]
theorem c_readNumbers (ht : TX t n) (hc : TC t n M) {p : Nat} (hp : p ≤ 1000) : WpI mX7_readNumbers [.ref 1, .int (nI p)] M (gz ga gb G2) (TTc ++ T2) (fun r M' => (∀ c, c ≠ 1 → c ≠ 3 → M' c = M c) ∧ M' 1 2 = M 1 2 ∧ ((rdR t 3 p = none ∧ r = -1) ∨ ∃ l e, rdR t 3 p = some (l, e) ∧ r = nI e ∧ M' 1 3 = nI l.length ∧ ∀ i, i < l.length → M' 3 i = l.getD i 0)) := by
  have hn := ht.1
  refine WpI.of rfl rfl nL fun X Q C hk => bX7_readNumbersz_0 C ?_
  have loop : ∀ f k q (M1 : Mem), k + f = 3 → q ≤ 1000 → (∀ c, c ≠ 1 → c ≠ 3 → M1 c = M c) → M1 1 2 = M 1 2 → (∀ r M', (∀ c, c ≠ 1 → c ≠ 3 → M' c = M c) → M' 1 2 = M 1 2 → ((rdR t f q = none ∧ r = -1) ∨ ∃ l e, rdR t f q = some (l, e) ∧ r = nI e ∧ M' 1 3 = nI (k + l.length) ∧ (∀ i, i < k → M' 3 i = M1 3 i) ∧ ∀ i, i < l.length → M' 3 (k + i) = l.getD i 0) → RetOK X Q (some (.int r)) (M', gz ga gb G2, TTc ++ T2)) → WW X Q 4 [(0, .ref 1), (1, .int (nI p)), (2, .int (nI q)), (3, .int (nI k))] [] (M1, gz ga gb G2, TTc ++ T2) := by
    intro f
    induction f with
    | zero =>
      intro k q M1 hk3 hq h1 h2 fin
      have e3 : k = 3 := by omega
      subst e3
      exact bX7_readNumbersz_4 C ⟨fun _ => fin _ _ h1 h2 (Or.inl ⟨rfl, rfl⟩), fun z => absurd (by decide) z⟩
    | succ f ih =>
      intro k q M1 hk3 hq h1 h2 fin
      have tcOf : ∀ M3 : Mem, (∀ c, c ≠ 1 → c ≠ 3 → M3 c = M c) → M3 1 2 = M 1 2 → TC t n M3 := fun M3 f1 f2 => ⟨f2.trans hc.1, fun p hp => by rw [f1 2 (by omega) (by omega)]; exact hc.2 p hp⟩
      have hc1 : TC t n M1 := tcOf M1 h1 h2
      refine bX7_readNumbersz_4 C ⟨fun z => absurd z ?_, fun _ => (c_isFigure ht hc1 (p := q) (by omega)).imp ?_⟩
      · show ¬ nI 3 ≤ nI k
        rw [nle (by omega) (by omega)]; omega
      intro r M' hrm
      obtain ⟨hr0, hm0⟩ := hrm
      subst hm0 hr0
      rcases Bool.eq_false_or_eq_true (fg t q) with g1 | g1
      rotate_left
      · rw [if_neg (by rw [g1]; decide)]
        exact bX7_readNumbersz_14 C ⟨fun z => absurd rfl z, fun _ => fin _ _ h1 h2 (Or.inl ⟨by unfold rdR rdN; rw [if_neg (by rw [g1]; decide)], rfl⟩)⟩
      rw [if_pos g1]
      refine bX7_readNumbersz_14 C ⟨fun _ => (c_letterAt ht hc1 (p := q) (by omega)).imp ?_, fun z => absurd z (by decide)⟩
      intro r M' hrm
      obtain ⟨hr0, hm0⟩ := hrm
      subst hm0 hr0
      have tail : ∀ v q' (M3 : Mem), rdN t q = some (v, q') → q' ≤ q + 2 → (∀ c, c ≠ 1 → c ≠ 3 → M3 c = M c) → M3 1 2 = M 1 2 → M3 1 3 = nI (k + 1) → M3 3 k = v → (∀ i, i < k → M3 3 i = M' 3 i) → WpI mX7_letterAt [.ref 1, .int (nI q')] M3 (gz ga gb G2) (TTc ++ T2) (fun r M' => WW X Q 83 [(0, .ref 1), (1, .int (nI p)), (2, .int (nI q')), (3, .int (nI k))] [.int r] (M', gz ga gb G2, TTc ++ T2)) := by
        intro v q' M3 hr hq' f1 f2 f3 f4 f5
        have hc3 := tcOf M3 f1 f2
        refine (c_letterAt ht hc3 (p := q') (by omega)).imp ?_
        rintro r M4 ⟨rfl, rfl⟩
        have un : rdR t (f + 1) q = if t q' = 59 then some ([v], q' + 1) else if t q' = 44 then (match rdR t f (q' + 1) with
            | none => none
            | some (l, e) => some (v :: l, e)) else none := by
          rw [rdR, hr]
          rfl
        refine bX7_readNumbersz_83 C ⟨fun z => (c_letterAt ht hc3 (p := q') (by omega)).imp ?_, fun z => ?_⟩
        · rintro r M5 ⟨rfl, rfl⟩
          rw [if_neg z] at un
          refine bX7_readNumbersz_97 C ⟨fun z2 => ?_, fun z2 => fin _ _ f1 f2 (Or.inl ⟨by rw [un, if_neg z2], rfl⟩)⟩
          rw [if_pos z2] at un
          rw [nI_1, nI_1]
          have hqn : q' < n := ht.lt (by rw [z2]; decide)
          refine ih (k + 1) (q' + 1) _ (by omega) (by omega) f1 f2 (fun r M' g1 g2 g3 => fin r M' g1 g2 ?_)
          rcases g3 with ⟨a, b⟩ | ⟨l, e, a, b, c, d1, d2⟩
          · exact Or.inl ⟨by rw [un, a], b⟩
          · refine Or.inr ⟨v :: l, e, by rw [un, a], b, ?_, fun i hi => (d1 i (by omega)).trans (f5 i hi), fun i hi => ?_⟩
            · rw [c, List.length_cons, show k + 1 + l.length = k + (l.length + 1) by omega]
            · cases i with
              | zero => exact (d1 k (by omega)).trans f4
              | succ i =>
                have := d2 i (by simpa using hi)
                rw [show k + (i + 1) = k + 1 + i by omega, this]
                rfl
        · rw [if_pos z] at un
          rw [nI_1]
          exact fin _ _ f1 f2 (Or.inr ⟨[v], q' + 1, un, rfl, f3, f5, fun i hi => by
            have e0 : i = 0 := by simpa using hi
            subst e0
            exact f4⟩)
      refine bX7_readNumbersz_29 C ⟨nin (by omega) (by omega), ?_⟩
      rw [nI_1, ncl (by omega)]
      have f1 : ∀ v, ∀ c, c ≠ 1 → c ≠ 3 → wr M' 3 k v c = M c := fun v c c1 c3 => by rw [wr_ne c3]; exact h1 c c1 c3
      have hc2 : TC t n (wr M' 3 k (t q - 48)) := tcOf _ (f1 _) (by rw [wr_ne (by omega)]; exact h2)
      refine (c_isFigure ht hc2 (p := q + 1) (by omega)).imp ?_
      rintro r M2 ⟨rfl, rfl⟩
      by_cases g2 : fg t (q + 1) = true
      · rw [if_pos g2]
        refine bX7_readNumbersz_41 C ⟨fun z => absurd z (by decide), fun _ => ⟨nin (by omega) (by omega), (c_letterAt ht hc2 (p := q + 1) (by omega)).imp ?_⟩⟩
        rintro r M2 ⟨rfl, rfl⟩
        refine bX7_readNumbersz_63 C ⟨nin (by omega) (by omega), ?_⟩
        rw [nI_1, nI_1, ncl (by omega), wr_at]
        refine tail _ (q + 2) _ (by unfold rdN; rw [if_pos g1, if_pos g2]) (by omega) (fun c c1 c3 => by rw [wr_ne c1, wr_ne c3, wr_ne c3]; exact h1 c c1 c3) ?_ ?_ ?_ ?_
        · rw [wr_no (by omega), wr_ne (by omega), wr_ne (by omega)]; exact h2
        · rw [wr_at]
        · rw [wr_ne (by omega), wr_at]
        · intro i hi
          rw [wr_ne (by omega), wr_no (by omega), wr_no (by omega)]
      · rw [if_neg g2]
        refine bX7_readNumbersz_41 C ⟨fun _ => ?_, fun z => absurd rfl z⟩
        rw [nI_1]
        refine tail _ (q + 1) _ (by unfold rdN; rw [if_pos g1, if_neg g2]) (by omega) (fun c c1 c3 => by rw [wr_ne c1, wr_ne c3]; exact h1 c c1 c3) ?_ ?_ ?_ ?_
        · rw [wr_no (by omega), wr_ne (by omega)]; exact h2
        · rw [wr_at]
        · rw [wr_ne (by omega), wr_at]
        · intro i hi
          rw [wr_ne (by omega), wr_no (by omega)]
  refine loop 3 0 p M rfl hp (fun _ _ _ => rfl) rfl (fun r M' g1 g2 g3 => hk _ _ ⟨g1, g2, ?_⟩)
  rcases g3 with g3 | ⟨l, e, a, b, c, d1, d2⟩
  · exact Or.inl g3
  · exact Or.inr ⟨l, e, a, b, by rw [c, Nat.zero_add], fun i hi => by rw [← d2 i hi, Nat.zero_add]⟩
theorem c_badd (h : CD M d) (hd : DOK d) (a : Int32) : WpI mX0_add [.ref 46, .int a] M (gz ga gb G2) (TTc ++ T2) (fun r M' => (¬ d.2.2.1 < 4 ∧ r = 0 ∧ M' = M) ∨ (d.2.2.1 < 4 ∧ r = 1 ∧ CD M' (wr d.1 6 d.2.2.1 a, d.2.1, d.2.2.1 + 1, d.2.2.2.1, d.2.2.2.2) ∧ Fr 45 56 M M')) := by
  obtain ⟨⟨e1, e2, e3, e4, e5, e6, e7, e8⟩, hg, hb, hf, hr⟩ := h
  have h4 := hd.1.2.1
  refine WpI.of rfl rfl nL fun X Q C hk => bX0_addz_0 C ?_
  rw [e2, ncl (by omega), nI_1]
  refine ⟨fun q => ?_, fun q => hk _ _ (Or.inl ⟨fun z => q ((nlt (b := 4) (by omega) (by omega)).mpr z), rfl, rfl⟩)⟩
  have q' := (nlt (b := 4) (by omega) (by omega)).mp q
  exact ⟨nin (by omega) (by omega), hk _ _ (Or.inr ⟨q', rfl, ⟨⟨e1, rfl, rfl, e4, e5, e6, e7, e8⟩, hg, upd_ap hb, hf, hr⟩, ((Fr.rfl'.wr (by omega) (by omega)).wr (by omega) (by omega)).wr (by omega) (by omega)⟩)⟩
theorem c_radd (h : CD M d) (hd : DOK d) (a : Int32) : WpI mX2_addRival [.ref 45, .int a] M (gz ga gb G2) (TTc ++ T2) (fun r M' => (¬ d.2.2.2.2 < 4 ∧ r = 0 ∧ M' = M) ∨ (d.2.2.2.2 < 4 ∧ r = 1 ∧ CD M' (wr d.1 8 d.2.2.2.2 a, d.2.1, d.2.2.1, d.2.2.2.1, d.2.2.2.2 + 1) ∧ Fr 45 56 M M')) := by
  obtain ⟨⟨e1, e2, e3, e4, e5, e6, e7, e8⟩, hg, hb, hf, hr⟩ := h
  have h4 := hd.1.2.2.2
  refine WpI.of rfl rfl nL fun X Q C hk => bX2_addRivalz_0 C ?_
  rw [e5, ncl (by omega), nI_1]
  refine ⟨fun q => ?_, fun q => hk _ _ (Or.inl ⟨fun z => q ((nlt (b := 4) (by omega) (by omega)).mpr z), rfl, rfl⟩)⟩
  have q' := (nlt (b := 4) (by omega) (by omega)).mp q
  exact ⟨nin (by omega) (by omega), hk _ _ (Or.inr ⟨q', rfl, ⟨⟨e1, e2, e3, e4, rfl, e6, e7, e8⟩, hg, hb, hf, upd_ap hr⟩, (Fr.rfl'.wr (by omega) (by omega)).wr (by omega) (by omega)⟩)⟩
theorem c_fadd (h : CD M d) (hd : DOK d) {k : Nat} (hk30 : k < 30) (a : Int32) : WpI mX0_addFeast [.ref 46, .int (nI k), .int a] M (gz ga gb G2) (TTc ++ T2) (fun r M' => (¬ d.2.2.2.1 < 4 ∧ r = 0 ∧ M' = M) ∨ (d.2.2.2.1 < 4 ∧ r = 1 ∧ CD M' (wr d.1 7 k (d.1 7 k + a), d.2.1, d.2.2.1, d.2.2.2.1 + 1, d.2.2.2.2) ∧ Fr 45 56 M M')) := by
  obtain ⟨⟨e1, e2, e3, e4, e5, e6, e7, e8⟩, hg, hb, hf, hr⟩ := h
  have h4 := hd.1.2.2.1
  refine WpI.of rfl rfl nL fun X Q C hk => bX0_addFeastz_0 C ?_
  rw [e4, ncl (by omega), nI_1]
  refine ⟨fun q => hk _ _ (Or.inl ⟨?_, rfl, rfl⟩), fun q => ⟨fun z => absurd z (nn0 (by omega)), fun _ => ⟨fun z => absurd ((nlt (a := 29) (by omega) (by omega)).mp z) (by omega), fun _ => ?_⟩⟩⟩
  · have := (nle (a := 4) (by omega) (by omega)).mp q
    omega
  have q' : d.2.2.2.1 < 4 := by
    rcases Nat.lt_or_ge d.2.2.2.1 4 with z | z
    · exact z
    · exact absurd ((nle (a := 4) (by omega) (by omega)).mpr z) q
  exact ⟨nin (by omega) (by omega), nin (by omega) (by omega), hk _ _ (Or.inr ⟨q', rfl, ⟨⟨e1, e2, e3, rfl, e5, e6, e7, e8⟩, hg, hb, upd_in hf (fun _ => by rw [hf k hk30]), hr⟩, (Fr.rfl'.wr (by omega) (by omega)).wr (by omega) (by omega)⟩)⟩
theorem c_gadd (h : CD M d) (hd : DOK d) (a b k : Int32) : WpI mX5_add [.ref 49, .int a, .int b, .int k] M (gz ga gb G2) (TTc ++ T2) (fun r M' => (¬ d.2.1 < 7 ∧ r = 0 ∧ M' = M) ∨ (d.2.1 < 7 ∧ r = 1 ∧ CD M' (wr (wr (wr d.1 0 d.2.1 a) 1 d.2.1 b) 2 d.2.1 k, d.2.1 + 1, d.2.2.1, d.2.2.2.1, d.2.2.2.2) ∧ Fr 45 56 M M')) := by
  obtain ⟨⟨e1, e2, e3, e4, e5, e6, e7, e8⟩, hg, hb, hf, hr⟩ := h
  have h4 := hd.1.1
  have h3 := hd.2.1
  refine WpI.of rfl rfl nL fun X Q C hk => bX5_addz_0 C ?_
  rw [e1, ncl (by omega), nI_1]
  refine ⟨fun q => ?_, fun q => hk _ _ (Or.inl ⟨fun z => q ((nlt (b := 7) (by omega) (by omega)).mpr z), rfl, rfl⟩)⟩
  have q' := (nlt (b := 7) (by omega) (by omega)).mp q
  have v := nin q' (by omega)
  refine ⟨v, v, v, v, v, v, hk _ _ (Or.inr ⟨q', rfl, ⟨⟨rfl, e2, e3, e4, e5, e6, e7, e8⟩, fun i hi => ⟨?_, ?_, ?_, ?_, ?_, ?_⟩, hb, hf, hr⟩, ((((((Fr.rfl'.wr (by omega) (by omega)).wr (by omega) (by omega)).wr (by omega) (by omega)).wr (by omega) (by omega)).wr (by omega) (by omega)).wr (by omega) (by omega)).wr (by omega) (by omega)⟩)⟩
  · exact upd_ap (fun i hi => (hg i hi).1) i hi
  · exact upd_ap (fun i hi => (hg i hi).2.1) i hi
  · exact upd_ap (fun i hi => (hg i hi).2.2.1) i hi
  · show upd (M 53) d.2.1 0 i = d.1 3 i
    by_cases e : i = d.2.1
    · rw [e, pk_us]; exact (h3 _ (Nat.le_refl _)).symm
    · rw [pk_un e]; exact (hg i (by dsimp only at hi; omega)).2.2.2.1
  · show upd (M 54) d.2.1 0 i = 0
    by_cases e : i = d.2.1
    · rw [e, pk_us]
    · rw [pk_un e]; exact (hg i (by dsimp only at hi; omega)).2.2.2.2.1
  · show upd (M 55) d.2.1 (nI d.2.1) i = nI i
    by_cases e : i = d.2.1
    · rw [e, pk_us]
    · rw [pk_un e]; exact (hg i (by dsimp only at hi; omega)).2.2.2.2.2
theorem c_befriend (h : CD M d) (hd : DOK d) (a b : Int32) : WpI mX5_befriend [.ref 49, .int a, .int b] M (gz ga gb G2) (TTc ++ T2) (fun r M' => (¬ (0 ≤ a ∧ a < nI d.2.1 ∧ 0 ≤ b ∧ b < nI d.2.1 ∧ ¬ a = b) ∧ r = 0 ∧ M' = M) ∨ ((0 ≤ a ∧ a < nI d.2.1 ∧ 0 ≤ b ∧ b < nI d.2.1 ∧ ¬ a = b) ∧ r = 1 ∧ CD M' (wr d.1 3 a.toNatClampNeg (d.1 3 a.toNatClampNeg ||| ((1 : Int32) <<< (b &&& 31))), d.2.1, d.2.2.1, d.2.2.2.1, d.2.2.2.2) ∧ Fr 45 56 M M')) := by
  obtain ⟨⟨e1, e2, e3, e4, e5, e6, e7, e8⟩, hg, hb, hf, hr⟩ := h
  have h4 := hd.1.1
  refine WpI.of rfl rfl nL fun X Q C hk => bX5_befriendz_0 C ?_
  rw [e1]
  refine ⟨fun q => hk _ _ (Or.inl ⟨fun z => absurd q (i_nlt.mpr z.1), rfl, rfl⟩), fun q => ⟨fun q2 => hk _ _ (Or.inl ⟨fun z => absurd q2 (i_nle.mpr z.2.1), rfl, rfl⟩), fun q2 => ⟨fun q3 => hk _ _ (Or.inl ⟨fun z => absurd q3 (i_nlt.mpr z.2.2.1), rfl, rfl⟩), fun q3 => ⟨fun q4 => hk _ _ (Or.inl ⟨fun z => absurd q4 (i_nle.mpr z.2.2.2.1), rfl, rfl⟩), fun q4 => ⟨fun q5 => ?_, fun q5 => hk _ _ (Or.inl ⟨fun z => z.2.2.2.2 q5, rfl, rfl⟩)⟩⟩⟩⟩⟩
  have all := And.intro (i_nlt.mp q) (And.intro (i_nle.mp q2) (And.intro (i_nlt.mp q3) (And.intro (i_nle.mp q4) q5)))
  obtain ⟨i, hi, ei⟩ := ix_of (n := d.2.1) (by omega) q q2
  have v : vp_in a 7 := by rw [ei]; exact nin (by omega) (by omega)
  refine ⟨v, v, hk _ _ (Or.inr ⟨all, rfl, ⟨⟨e1, e2, e3, e4, e5, e6, e7, e8⟩, fun j hj => ⟨(hg j hj).1, (hg j hj).2.1, (hg j hj).2.2.1, ?_, (hg j hj).2.2.2.2⟩, hb, hf, hr⟩, Fr.rfl'.wr (by omega) (by omega)⟩)⟩
  rw [ei, ncl (by omega)]
  exact upd_in (fun j hj => (hg j hj).2.2.2.1) (fun _ => by rw [(hg i hi).2.2.2.1]) j hj
end C77
