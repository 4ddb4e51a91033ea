/-! sure: the class -/
theorem pt_run {m : Nat → Bool} {w : Nat → Nat} {t s a : Nat} (ht : t < 128) : ∀ b, a ≤ b → b ≤ 7 → (∀ i, a ≤ i → i < b → s.testBit i = true ∨ m i = false ∨ t ≠ s + 2 ^ i ∨ w s = 0) → ptN m w t s b = ptN m w t s a
  | 0, h1, _, _ => by rw [show a = 0 by omega]
  | b + 1, h1, h2, h => by
    by_cases e : a = b + 1
    · rw [e]
    · rw [pt_miss ht (by omega) (h b (by omega) (by omega)), pt_run ht b (by omega) (by omega) (fun i hi hb => h i hi (by omega))]
theorem pt_skip {m : Nat → Bool} {w : Nat → Nat} {t s a : Nat} (ht : t < 128) (ha : a ≤ 7) (h : ∀ i, a ≤ i → i < 7 → s.testBit i = true ∨ m i = false ∨ t ≠ s + 2 ^ i ∨ w s = 0) : ptN m w t (s + 1) 0 = ptN m w t s a := by
  rw [← pt_next, pt_run ht 7 ha (Nat.le_refl _) h]
def mkS (V R : Mem) : Nat → Nat → Bool := fun l i => bt (slpS V R l) i
def allW (V R : Mem) : Nat := tot (mkS V R) (nlR R)
def surP (V R : Mem) (k i : Nat) : Bool := decide (tot (pin (mkS V R) k i) (nlR R) = allW V R)
def sureS (V R : Mem) (k : Nat) : Int32 := if allW V R = 0 then -4 else o2i (fstP (surP V R k) (ngV V))
def sureQ (V R : Mem) (x : Int32) : Int32 := if x = -1 then nI (allW V R) else gd (nlR R) x fun k => sureS V R k
theorem nsb {s i : Nat} (hs : s < 128) (hi : i < 7) (x : Int32) : (((x &&& (nI s ^^^ -1)) >>> (nI i &&& 31)) &&& 1) = 1 ↔ bt x i = true ∧ s.testBit i = false := by
  rw [bit_1 _ (by omega), b_and, b_xor, b_m1 i (by omega), fB3 s hs i hi]
  cases bt x i <;> cases s.testBit i <;> simp
section C64
variable {M V R : Mem} {G2 : Grf} {T2 : List (Nat × Nat)}
theorem c_addOne {k : Nat} {x : Int32} {m : Nat → Bool} {w : Nat → Nat} (hk7 : k < 100) (hm : ∀ i, i < 7 → bt x i = m i) (hw : ∀ s, s < 128 → w s < 1000000) (h0 : ∀ s, s < 128 → pcN s = k → M 28 s = nI (w s)) (h1 : ∀ s, s < 128 → k < pcN s → M 28 s = 0) : WpV mX6_addOne [.ref 24, .int (nI k), .int x] M (gj G2) (TTc ++ T2) (fun M' => Fr 28 28 M M' ∧ (∀ t, t < 128 → pcN t = k + 1 → M' 28 t = nI (sumN (fun j => if (t.testBit j && m j) = true then w (t - 2 ^ j) else 0) 7)) ∧ ∀ t, t < 128 → k + 1 < pcN t → M' 28 t = 0) := by
  refine WpV.of rfl rfl nL fun X Q C hk => bX6_addOne_0 C ?_
  have outer : ∀ r s (M1 : Mem), s + r = 128 → Fr 28 28 M M1 → (∀ t, t < 128 → pcN t ≠ k + 1 → M1 28 t = M 28 t) → (∀ t, t < 128 → pcN t = k + 1 → M1 28 t = nI (ptN m w t s 0)) → WW X Q 2 [(0, .ref 24), (1, .int (nI k)), (2, .int x), (3, .int (nI s))] [] (M1, gj G2, TTc ++ T2) := by
    intro r
    induction r with
    | zero =>
      intro s M1 hs hf a b
      have es : s = 128 := by omega
      subst es
      refine bX6_addOne_2 C ⟨fun _ => hk _ ⟨hf, fun t ht hp => ?_, fun t ht hp => ?_⟩, fun q => absurd (by decide) q⟩
      · rw [b t ht hp, pt_end ht]
      · rw [a t ht (by omega)]
        exact h1 t ht (by omega)
    | succ r ih =>
      intro s M1 hs hf a b
      have hs' : s < 128 := by omega
      refine bX6_addOne_2 C ⟨fun q => absurd q ?_, fun _ => (c_bitCount _).to (bX6_addOne_13 C ?_)⟩
      · show ¬ nI 128 ≤ nI s
        rw [nle (by omega) (by omega)]; omega
      have bc : bcI (nI s) = nI (pcN s) := bc_128 s hs'
      have pl : pcN s ≤ 7 := cnt_le _ 7
      rw [bc, nI_1, ncl (by omega)]
      refine ⟨fun q => ih (s + 1) M1 (by omega) hf a (fun t ht hp => ?_), fun q => ?_⟩
      · rw [b t ht hp, pt_skip ht (Nat.zero_le _) (fun i _ hi => ?_)]
        by_cases z : s.testBit i = true
        · exact Or.inl z
        · refine Or.inr (Or.inr (Or.inl (fun y => ?_)))
          obtain ⟨-, -, c, -⟩ := fB1 s hs' i hi (by simpa using z)
          rw [← y] at c
          exact q (by rw [show pcN s = k by omega])
      · have pk : pcN s = k := (neq (by omega) (by omega)).mp q
        refine ⟨nin hs' (by omega), fun q2 => ih (s + 1) M1 (by omega) hf a (fun t ht hp => ?_), fun _ => ?_⟩
        · rw [b t ht hp, pt_skip ht (Nat.zero_le _) (fun i _ hi => Or.inr (Or.inr (Or.inr ?_)))]
          rw [a s hs' (by omega), h0 s hs' pk] at q2
          have := (nle (b := 0) (hw s hs') (by omega)).mp q2
          omega
        · have inner : ∀ r i (M2 : Mem), i + r = 7 → Fr 28 28 M M2 → (∀ t, t < 128 → pcN t ≠ k + 1 → M2 28 t = M 28 t) → (∀ t, t < 128 → pcN t = k + 1 → M2 28 t = nI (ptN m w t s i)) → WW X Q 29 [(0, .ref 24), (1, .int (nI k)), (2, .int x), (3, .int (nI s)), (4, .int (nI i))] [] (M2, gj G2, TTc ++ T2) := by
            intro r
            induction r with
            | zero =>
              intro i M2 hi hf2 a2 b2
              have ei : i = 7 := by omega
              subst ei
              refine bX6_addOne_29 C ⟨fun _ => ?_, fun q => absurd (by decide) q⟩
              rw [nI_1]
              exact ih (s + 1) M2 (by omega) hf2 a2 (fun t ht hp => by rw [b2 t ht hp, pt_next])
            | succ r ih2 =>
              intro i M2 hi hf2 a2 b2
              have hi' : i < 7 := by omega
              refine bX6_addOne_29 C ⟨fun q => absurd q ?_, fun _ => ?_⟩
              · show ¬ nI 7 ≤ nI i
                rw [nle (by omega) (by omega)]; omega
              rw [nsb hs' hi', hm i hi', nI_1]
              refine ⟨fun q => ih2 (i + 1) M2 (by omega) hf2 a2 (fun t ht hp => ?_), fun q => ?_⟩
              · rw [b2 t ht hp, pt_miss ht hi' ?_]
                by_cases z : s.testBit i = true
                · exact Or.inl z
                · refine Or.inr (Or.inl ?_)
                  by_cases y : m i = true
                  · exact absurd ⟨y, by simpa using z⟩ q
                  · simpa using y
              · obtain ⟨c1, c2, c3, c4⟩ := fB1 s hs' i hi' q.2
                rw [c4, ncl (by omega), ncl (by omega)]
                refine ⟨nin c1 (by omega), nin hs' (by omega), nin c1 (by omega), ih2 (i + 1) _ (by omega) (hf2.wr (by omega) (by omega)) (fun t ht hp => ?_) (fun t ht hp => ?_)⟩
                · rw [wr_eq, pk_un (fun z => hp (by rw [z]; omega)), a2 t ht hp]
                · rw [wr_eq]
                  by_cases z : t = s + 2 ^ i
                  · subst z
                    rw [pk_us, b2 _ ht hp, a2 s hs' (by omega), h0 s hs' pk, nI_add, pt_hit hs' hi' q.2 q.1]
                  · rw [pk_un z, b2 t ht hp, pt_miss ht hi' (Or.inr (Or.inr (Or.inl z)))]
          exact inner 7 0 M1 (by omega) hf a b
  exact outer 128 0 M (by omega) Fr.rfl' (fun _ _ _ => rfl) (fun t ht hp => by rw [pt_0, h1 t ht (by omega)]; rfl)
theorem rC_28 {M' : Mem} (h : Fr 28 28 M M') : rC M' = rC M := by
  unfold rC
  rw [h 24 (by omega), h 25 (by omega), h 26 (by omega), h 27 (by omega)]
theorem Fr.fc28 {M' : Mem} (h : Fr 28 28 M M') : FC M M' := fun c hc => h c (by unfold sC at hc; omega)
theorem c_ways (e : vC M = V) (h : VOK V) (er : rC M = R) (hr : ROK V R) {p q : Int32} {m : Nat → Nat → Bool} (hm : ∀ l, l < nlR R → ∀ i, i < 7 → bt (if nI l = p then slpS V R l &&& q else slpS V R l) i = m l i) : WpI mX6_ways [.ref 24, .ref 33, .int p, .int q] M (gj G2) (TTc ++ T2) (fun r M' => r = nI (tot m (nlR R)) ∧ Fr 28 28 M M') := by
  have h6 := hr.1.2
  have em : M 24 4 = nI (nlR R) := by rw [← hr.1.1, ← er]; rfl
  refine WpI.of rfl rfl nL fun X Q C hk => bX6_ways_0 C ?_
  have sum : ∀ r s (M1 : Mem), s + r = 128 → Fr 28 28 M M1 → (∀ t, t < 128 → pcN t = nlR R → M1 28 t = nI (Wy m (nlR R) t)) → WW X Q 86 [(0, .ref 24), (1, .ref 33), (2, .int p), (3, .int q), (4, .int (nI (sumN (fun s => if pcN s = nlR R then Wy m (nlR R) s else 0) s))), (5, .int (nI s))] [] (M1, gj G2, TTc ++ T2) := by
    intro r
    induction r with
    | zero =>
      intro s M1 hs hf a
      have es : s = 128 := by omega
      subst es
      exact bX6_ways_86 C ⟨fun _ => hk _ _ ⟨by rw [tot_pc], hf⟩, fun z => absurd (by decide) z⟩
    | succ r ih =>
      intro s M1 hs hf a
      have st := ih (s + 1) M1 (by omega) hf a
      have su : sumN (fun s => if pcN s = nlR R then Wy m (nlR R) s else 0) (s + 1) = sumN (fun s => if pcN s = nlR R then Wy m (nlR R) s else 0) s + (if pcN s = nlR R then Wy m (nlR R) s else 0) := rfl
      rw [su] at st
      refine bX6_ways_86 C ⟨fun z => absurd z ?_, fun _ => (c_bitCount _).to (bX6_ways_99 C ?_)⟩
      · show ¬ nI 128 ≤ nI s
        rw [nle (by omega) (by omega)]; omega
      have bc : bcI (nI s) = nI (pcN s) := bc_128 s (by omega)
      have pl : pcN s ≤ 7 := cnt_le _ 7
      rw [bc, nI_1, ncl (by omega), hf 24 (by omega), em, neq (by omega) (by omega)]
      refine ⟨fun z => ?_, fun z => ⟨nin (by omega) (by omega), ?_⟩⟩
      · rw [if_neg z] at st
        exact st
      · rw [if_pos z, ← nI_add] at st
        rw [a s (by omega) z]
        exact st
  have rows : ∀ r l (M1 : Mem), l + r = nlR R → Fr 28 28 M M1 → (∀ t, t < 128 → pcN t = l → M1 28 t = nI (Wy m l t)) → (∀ t, t < 128 → l < pcN t → M1 28 t = 0) → WW X Q 35 [(0, .ref 24), (1, .ref 33), (2, .int p), (3, .int q), (4, .int (nI l))] [] (M1, gj G2, TTc ++ T2) := by
    intro r
    induction r with
    | zero =>
      intro l M1 hl hf a b
      have el : l = nlR R := by omega
      subst el
      exact bX6_ways_35 C ⟨fun _ => sum 128 0 M1 (by omega) hf a, fun z => absurd (by rw [hf 24 (by omega), em]; exact i_le_rfl _) z⟩
    | succ r ih =>
      intro l M1 hl hf a b
      have e1 : vC M1 = V := (vC_fc hf.fc28).trans e
      have r1 : rC M1 = R := (rC_28 hf).trans er
      refine bX6_ways_35 C ⟨fun z => absurd z ?_, fun _ => (c_sleepersOf e1 h r1 hr (k := l) (by omega)).to (bX6_ways_51 C ?_)⟩
      · rw [hf 24 (by omega), em, nle (by omega) (by omega)]; omega
      have hml := hm l (by omega)
      have bd : ∀ s, s < 128 → Wy m l s < 1000000 := fun s _ => by
        have a1 : Wy m l s ≤ 7 ^ l := Wy_le
        have a2 : 7 ^ l ≤ 7 ^ 6 := Nat.pow_le_pow_right (by omega) (by omega)
        omega
      have fin : ∀ M2, (Fr 28 28 M1 M2 ∧ (∀ t, t < 128 → pcN t = l + 1 → M2 28 t = nI (sumN (fun j => if (t.testBit j && m l j) = true then Wy m l (t - 2 ^ j) else 0) 7)) ∧ ∀ t, t < 128 → l + 1 < pcN t → M2 28 t = 0) → WW X Q 74 [(0, .ref 24), (1, .ref 33), (2, .int p), (3, .int q), (4, .int (nI l)), (5, .int (slpS V R l))] [] (M2, gj G2, TTc ++ T2) := by
        rintro M2 ⟨f2, a2, b2⟩
        refine bX6_ways_74 C ?_
        rw [nI_1]
        exact ih (l + 1) M2 (by omega) (hf.trans f2) a2 b2
      refine ⟨fun z => ?_, fun z => ?_⟩
      · rw [if_neg z] at hml
        exact (c_addOne (by omega) hml bd a b).imp fin
      · rw [if_pos z] at hml
        exact (c_addOne (by omega) hml bd a b).imp fin
  have init : ∀ r s (M1 : Mem), s + r = 128 → Fr 28 28 M M1 → (∀ t, t < s → M1 28 t = 0) → WW X Q 3 [(0, .ref 24), (1, .ref 33), (2, .int p), (3, .int q), (4, .int (nI s))] [] (M1, gj G2, TTc ++ T2) := by
    intro r
    induction r with
    | zero =>
      intro s M1 hs hf a
      have es : s = 128 := by omega
      subst es
      refine bX6_ways_3 C ⟨fun _ => rows (nlR R) 0 _ (by omega) (hf.wr (by omega) (by omega)) (fun t ht hp => ?_) (fun t ht hp => ?_), fun z => absurd (by decide) z⟩
      · rw [wr_eq]
        have t0 : ∀ t, t < 128 → pcN t = 0 → t = 0 := by decide +kernel
        rw [t0 t ht hp, pk_us]
        rfl
      · rw [wr_eq, pk_un (fun z => by subst z; exact absurd hp (by decide)), a t ht]
    | succ r ih =>
      intro s M1 hs hf a
      refine bX6_ways_3 C ⟨fun z => absurd z ?_, fun _ => ⟨nin (by omega) (by omega), ?_⟩⟩
      · show ¬ nI 128 ≤ nI s
        rw [nle (by omega) (by omega)]; omega
      rw [ncl (by omega), nI_1]
      refine ih (s + 1) _ (by omega) (hf.wr (by omega) (by omega)) (fun t ht => ?_)
      rw [wr_eq]
      by_cases z : t = s
      · rw [z, pk_us]
      · rw [pk_un z, a t (by omega)]
  exact init 128 0 M (by omega) Fr.rfl' (fun t ht => absurd ht (by omega))
theorem mk_all {l : Nat} (h : nlR R ≤ 6) (hl : l < nlR R) (i : Nat) : bt (if nI l = (-4 : Int32) then slpS V R l &&& 0 else slpS V R l) i = mkS V R l i := by
  rw [if_neg (fun z => absurd (show nI l < 0 by rw [z]; decide) (nn0 (by omega)))]
  rfl
theorem mk_pin {l k g : Nat} (h : nlR R ≤ 6) (hl : l < nlR R) (hk : k < nlR R) (hg : g < 7) {i : Nat} (hi : i < 7) : bt (if nI l = nI k then slpS V R l &&& ((1 : Int32) <<< (nI g &&& 31)) else slpS V R l) i = pin (mkS V R) k g l i := by
  unfold pin mkS
  by_cases e : l = k
  · subst e
    rw [if_pos rfl, b_and, bt_sh (by omega) (by omega)]
    simp
  · rw [if_neg (fun z => e ((neq (by omega) (by omega)).mp z))]
    simp [e]
theorem c_sure (e : vC M = V) (h : VB V) (er : rC M = R) (hr : ROK V R) (x : Int32) : WpI mX9_sure [.ref 0, .int x] M (gj G2) (TTc ++ T2) (fun r M' => r = sureQ V R x ∧ FC M M') := by
  have h7 := h.1.1.2.2
  have h6 := hr.1.2
  have em : M 24 4 = nI (nlR R) := by rw [← hr.1.1, ← er]; rfl
  refine WpI.of rfl rfl nL fun X Q C hk => bX9_sure_0 C ⟨fun z => ?_, fun z => (c_ways e h.1 er hr (fun l hl i hi => mk_all h6 hl i)).imp ?_⟩
  · unfold sureQ at hk
    rw [if_neg z] at hk
    refine g_c (n := nlR R) (by omega) em (fun q => hk _ _ ⟨gd_lo q, FC.r⟩) (fun q => hk _ _ ⟨gd_hi q, FC.r⟩) fun k hk6 ek => ?_
    subst ek
    rw [gd_in hk6 (by omega)] at hk
    have only : WpI mX6_onlySleeperOf [.ref 24, .ref 33, .int (nI k)] M (gj G2) (TTc ++ T2) (fun r M' => r = sureS V R k ∧ Fr 28 28 M M') := by
      refine WpI.of rfl rfl nL fun X Q C hk => bX6_onlySleeperOf_0 C ((c_ways e h.1 er hr (fun l hl i hi => mk_all h6 hl i)).imp ?_)
      rintro r M1 ⟨rfl, hf1⟩
      refine bX6_onlySleeperOf_8 C ?_
      have loop : ∀ r i (M2 : Mem), i + r = ngV V → Fr 28 28 M M2 → (∀ j, j < i → surP V R k j = false) → WW X Q 12 [(0, .ref 24), (1, .ref 33), (2, .int (nI k)), (3, .int (nI (allW V R))), (4, .int (nI i))] [] (M2, gj G2, TTc ++ T2) := by
        intro r
        induction r with
        | zero =>
          intro i M2 hi hf ha
          refine bX6_onlySleeperOf_12 C ⟨fun _ => hk _ _ ⟨?_, hf⟩, fun z => absurd ?_ z⟩
          · unfold sureS
            split
            · rfl
            · rw [fstP_no (fun j hj => ha j (by omega))]; rfl
          · rw [hf 37 (by omega), rc_g e h.1, show i = ngV V by omega]; exact i_le_rfl _
        | succ r ih =>
          intro i M2 hi hf ha
          have e2 : vC M2 = V := (vC_fc hf.fc28).trans e
          have r2 : rC M2 = R := (rC_28 hf).trans er
          have tl : allW V R < 2 ^ 31 := tot_lt h6
          refine bX6_onlySleeperOf_12 C ⟨fun z => absurd z ?_, fun _ => ⟨fun z => hk _ _ ⟨?_, hf⟩, fun z => (c_ways e2 h.1 r2 hr (fun l hl j hj => mk_pin h6 hl hk6 (by omega) hj)).imp ?_⟩⟩
          · rw [rc_g e2 h.1, nle (by omega) (by omega)]; omega
          · unfold sureS
            have : allW V R ≤ 0 := (nI_leI (b := 0) tl (by omega)).mp z
            rw [if_pos (by omega)]
          · rintro r M3 ⟨rfl, hf3⟩
            have nz : ¬ allW V R = 0 := fun y => z (by rw [y]; exact i_le_rfl _)
            have tl2 : tot (pin (mkS V R) k i) (nlR R) < 2 ^ 31 := tot_lt h6
            refine bX6_onlySleeperOf_38 C ?_
            rw [nI_eq tl2 tl, nI_1]
            refine ⟨fun y => ih (i + 1) M3 (by omega) (hf.trans hf3) (fun j hj => ?_), fun y => hk _ _ ⟨?_, hf.trans hf3⟩⟩
            · by_cases ej : j = i
              · rw [ej]; unfold surP; exact decide_eq_false y
              · exact ha j (by omega)
            · unfold sureS
              rw [if_neg nz, fstP_eq (p := i) (by omega) (by unfold surP; exact decide_eq_true y) ha]
              rfl
      exact loop (ngV V) 0 M1 (by omega) hf1 (fun j hj => absurd hj (by omega))
    refine only.imp ?_
    rintro r M1 ⟨rfl, hf⟩
    exact bX9_sure_43 C (hk _ _ ⟨rfl, hf.fc28⟩)
  · rintro r M1 ⟨rfl, hf⟩
    refine bX9_sure_19 C (hk _ _ ⟨?_, hf.fc28⟩)
    unfold sureQ
    rw [if_pos z]
    rfl
end C64
