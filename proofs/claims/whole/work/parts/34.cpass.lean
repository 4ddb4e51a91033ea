/-! the class: all nights, their sum -/
def bcI (x : Int32) : Int32 :=
  let a := x - ((x.toUInt32 >>> ((1 : Int32).toUInt32 &&& Int32.toUInt32 31)).toInt32 &&& 1431655765)
  let b := (a &&& 858993459) + ((a.toUInt32 >>> ((2 : Int32).toUInt32 &&& Int32.toUInt32 31)).toInt32 &&& 858993459)
  let c := (b + (b.toUInt32 >>> ((4 : Int32).toUInt32 &&& Int32.toUInt32 31)).toInt32) &&& 252645135
  let d := c + (c.toUInt32 >>> ((8 : Int32).toUInt32 &&& Int32.toUInt32 31)).toInt32
  (d + (d.toUInt32 >>> ((16 : Int32).toUInt32 &&& Int32.toUInt32 31)).toInt32) &&& 63
theorem bc_128 : ∀ m, m < 128 → bcI (nI m) = nI (cnt (fun i => m.testBit i) 7) := by decide +kernel
theorem bO_nat {n : Nat} {p : Nat → Bool} (hn : n ≤ 7) : ∃ m, m < 128 ∧ bO n p = nI m ∧ ∀ i, i < 7 → m.testBit i = (decide (i < n) && p i) := by
  have hb : ∀ i, (bO n p).toBitVec.toNat.testBit i = if i < 32 then (decide (i < n) && p i) else false := by
    intro i
    by_cases hi : i < 32
    · rw [if_pos hi]
      have := bt_bO (n := n) (p := p) (i := i) (by omega) hi
      unfold bt at this
      rw [BitVec.testBit_toNat]
      exact this
    · rw [if_neg hi, BitVec.testBit_toNat, BitVec.getLsbD_of_ge _ _ (by omega)]
  refine ⟨(bO n p).toBitVec.toNat, ?_, ?_, fun i hi => by rw [hb i, if_pos (by omega)]⟩
  · apply Nat.lt_pow_two_of_testBit (n := 7)
    intro i hi
    rw [hb i]
    split
    · simp [show ¬ i < n by omega]
    · rfl
  · apply Int32.toBitVec_inj.mp
    show (bO n p).toBitVec = BitVec.ofNat 32 (bO n p).toBitVec.toNat
    rw [BitVec.ofNat_toNat, BitVec.setWidth_eq]
theorem cnt_pad {p : Nat → Bool} {n : Nat} : ∀ {m : Nat}, n ≤ m → cnt (fun i => decide (i < n) && p i) m = cnt p n
  | 0, h => by rw [show n = 0 by omega]; rfl
  | m + 1, h => by
    by_cases e : n = m + 1
    · subst e
      exact cnt_cong (fun i hi => by simp [hi])
    · have ih := cnt_pad (p := p) (n := n) (m := m) (by omega)
      show cnt (fun i => decide (i < n) && p i) m + (if (decide (m < n) && p m) = true then 1 else 0) = cnt p n
      rw [ih, decide_eq_false (show ¬ m < n by omega)]
      rfl
theorem bc_bO {n : Nat} {p : Nat → Bool} (hn : n ≤ 7) : bcI (bO n p) = nI (cnt p n) := by
  obtain ⟨m, h1, h2, h3⟩ := bO_nat (p := p) hn
  rw [h2, bc_128 m h1, cnt_cong (q := fun i => decide (i < n) && p i) h3, cnt_pad hn]
theorem sumI_le {f g : Nat → Int32} {c : Int} (hc : 0 ≤ c) (hc2 : c ≤ 1000) : ∀ {n : Nat}, n ≤ 7 → (∀ i, i < n → rgI (f i) 0 c) → (∀ i, i < n → rgI (g i) 0 c) → (∀ i, i < n → (f i).toInt ≤ (g i).toInt) → (sumI f n).toInt ≤ (sumI g n).toInt
  | 0, _, _, _, _ => Int.le_refl _
  | n + 1, hn, hf, hg, h => by
    have ih := sumI_le hc hc2 (n := n) (by omega) (fun i hi => hf i (by omega)) (fun i hi => hg i (by omega)) (fun i hi => h i (by omega))
    have a := sumI_rg hc hc2 (n := n) (by omega) (fun i hi => hf i (by omega))
    have b := sumI_rg hc hc2 (n := n) (by omega) (fun i hi => hg i (by omega))
    have f1 := hf n (by omega)
    have g1 := hg n (by omega)
    have h1 := h n (by omega)
    unfold rgI at *
    have b' : (n : Int) * c ≤ 7 * 1000 := Int.mul_le_mul (by omega) hc2 hc (by omega)
    unfold sumI
    rw [fb_addI (by omega) (by omega), fb_addI (by omega) (by omega)]
    omega
theorem beds_keep {V : Mem} {n i : Nat} (h : VOK V) : ∀ {k : Nat} {s : Mem × Nat}, 0 ≤ s.1 0 i → (bedS V n k s).1 0 i = s.1 0 i ∧ (bedS V n k s).1 2 i = s.1 2 i
  | 0, _, _ => ⟨rfl, rfl⟩
  | k + 1, s, hi => by
    have ih := beds_keep h (n := n) (k := k) hi
    have g := give_keep (s := bedS V n k s) (b := k) (n := n) (i := i) h (by rw [ih.1]; exact hi)
    exact ⟨g.1.trans ih.1, g.2.2.1.trans ih.2⟩
theorem sim_keep {V : Mem} {n i : Nat} (h : VOK V) (hi : 0 ≤ (simN V n).1 0 i) : ∀ m, (simN V (n + m)).1 0 i = (simN V n).1 0 i ∧ (simN V (n + m)).1 2 i = (simN V n).1 2 i
  | 0 => ⟨rfl, rfl⟩
  | m + 1 => by
    have ih := sim_keep h hi m
    have g := beds_keep (n := n + m) (k := opV V) (s := simN V (n + m)) (i := i) h (by rw [ih.1]; exact hi)
    exact ⟨g.1.trans ih.1, g.2.trans ih.2⟩
theorem SI.rg {V σ : Mem} (h : SI V σ) {i : Nat} (hi : i < ngV V) : rgI (σ 2 i) 0 214 := by
  rcases h i hi with ⟨-, e⟩ | ⟨m, -, -, e⟩
  · rw [e]; constructor <;> decide
  · exact e
theorem rg0 : rgI (0 : Int32) 0 214 := by constructor <;> decide
theorem lsum_le {V : Mem} (h : VOK V) {n m : Nat} (hm : n + m ≤ 30) : (lsum (simN V n).1 (ngV V)).toInt ≤ (sumI ((simN V (n + m)).1 2) (ngV V)).toInt := by
  have s1 := SI.sim h (n := n) (by omega)
  have s2 := SI.sim h (n := n + m) hm
  refine sumI_le (c := 214) (by omega) (by omega) h.1.2.2 (fun i hi => ?_) (fun i hi => s2.rg hi) (fun i hi => ?_)
  · split
    · exact s1.rg hi
    · exact rg0
  · split
    · rename_i q
      rw [(sim_keep h q m).2]
      exact Int.le_refl _
    · have := (s2.rg hi).1
      have e0 : (0 : Int32).toInt = 0 := by decide
      omega
theorem allS_rg {V : Mem} (h : VOK V) : rgI (allS V) 0 1498 := by
  have a := sumI_rg (f := (simN V 30).1 2) (c := 214) (by omega) (by omega) h.1.2.2 (fun i hi => (SI.sim h (n := 30) (by omega)).rg hi)
  have := h.1.2.2
  unfold rgI at *
  unfold allS
  omega
section CPs
variable {M : Mem} {G2 : Grf} {T2 : List (Nat × Nat)}
theorem c_bitCount (x : Int32) : WpI mJ6_bitCount_0f7a4 [.int x] M (gj G2) (TTc ++ T2) (fun r M' => r = bcI x ∧ M' = M) := by
  refine WpI.ofF rfl (by decide +kernel) nL fun X Q C hk => bJ6_bitCount_0f7a4_0 C (hk _ _ ⟨rfl, rfl⟩)
theorem c_everyone {V : Mem} (e : vC M = V) (h : VOK V) : WpI mX5_everyone [.ref 37] M (gj G2) (TTc ++ T2) (fun r M' => r = bO (ngV V) (fun _ => true) ∧ M' = M) := by
  have hs : M 37 6 = nI (ngV V) := by rw [← h.1.1, ← e]; rfl
  refine WpI.of rfl rfl nL fun X Q C hk => bX5_everyone_0 C (hk _ _ ⟨?_, rfl⟩)
  rw [hs, bO_all _ h.1.2.2]
theorem c_pass {V : Mem} (e : vC M = V) (h : VOK V) (bd : Int32) : WpV mX3_pass [.ref 4, .ref 33, .int bd] M (gj G2) (TTc ++ T2) (fun M' => Fr 4 9 M M' ∧ ∃ n, n ≤ 30 ∧ SimC M' V (simN V n) ∧ (bd ≤ M' 4 6 ∨ simN V n = simN V 30)) := by
  have h7 := h.1.2.2
  refine WpV.of rfl rfl nL fun X Q C hk => bX3_pass_0 C ?_
  have nights : ∀ k n (M1 : Mem), n + k = 30 → Fr 4 9 M M1 → SimC M1 V (simN V n) → WW X Q 47 [(0, .ref 4), (1, .ref 33), (2, .int bd), (3, .int (bO (ngV V) (fun _ => true))), (4, .int (nI n))] [] (M1, gj G2, TTc ++ T2) := by
    intro k
    induction k with
    | zero =>
      intro n M1 hn hf hs
      have e30 : n = 30 := by omega
      subst e30
      refine bX3_pass_47 C ⟨fun _ => hk _ ⟨hf, 30, by omega, hs, Or.inr rfl⟩, fun q => absurd (i_le_rfl _) q⟩
    | succ k ih =>
      intro n M1 hn hf hs
      have e1 := (vC_cong hf).trans e
      refine bX3_pass_47 C ⟨fun q => absurd q ?_, fun _ => ⟨fun q => hk _ ⟨hf, n, by omega, hs, Or.inr ?_⟩, fun _ => ⟨fun q => hk _ ⟨hf, n, by omega, hs, Or.inl q⟩, fun _ => ?_⟩⟩⟩
      · show ¬ nI 30 ≤ nI n
        rw [nle (by omega) (by omega)]; omega
      · rw [hs.1, bO_inj (by omega)] at q
        have := sim_done h (n := n) (fun i hi => by simpa [lies] using q i hi) (30 - n)
        rw [show n + (30 - n) = 30 by omega] at this
        exact this.symm
      · refine (c_fillBeds e1 h hs (dp_sim h n) (by omega)).imp ?_
        rintro M2 ⟨hf2, hs2⟩
        refine bX3_pass_77 C ?_
        rw [nI_1]
        exact ih (n + 1) M2 (by omega) (hf.trans hf2) hs2
  have clear : ∀ k i (M1 : Mem), i + k = 7 → Fr 4 9 M M1 → M1 4 5 = 0 → M1 4 6 = 0 → M1 4 7 = 0 → (∀ j, j < i → M1 9 j = 0) → WW X Q 17 [(0, .ref 4), (1, .ref 33), (2, .int bd), (3, .int (nI i))] [] (M1, gj G2, TTc ++ T2) := by
    intro k
    induction k with
    | zero =>
      intro i M1 hi hf a5 a6 a7 hc
      have e7 : i = 7 := by omega
      subst e7
      refine bX3_pass_17 C ⟨fun _ => ?_, fun q => absurd (i_le_rfl _) q⟩
      refine (c_everyone ((vC_cong hf).trans e) h).to (bX3_pass_43 C ?_)
      refine nights 30 0 M1 (by omega) hf ⟨?_, fun j hj => hc j (by omega), fun j hj z => absurd z m4.2, ?_, a7⟩
      · rw [a5]
        exact ((bO_zero (by omega)).mpr (fun j hj => by unfold lies; exact decide_eq_false m4.2)).symm
      · rw [a6]
        have : ∀ n, lsum (simN V 0).1 n = 0 := by
          intro n
          induction n with
          | zero => rfl
          | succ n ih =>
            have z : lsum (simN V 0).1 (n + 1) = lsum (simN V 0).1 n + (if (0 : Int32) ≤ -4 then (50 : Int32) else 0) := rfl
            rw [z, ih, if_neg m4.2]
            rfl
        exact (this _).symm
    | succ k ih =>
      intro i M1 hi hf a5 a6 a7 hc
      have hcl : (nI i).toNatClampNeg = i := ncl (by omega)
      refine bX3_pass_17 C ⟨fun q => absurd q ?_, fun _ => ⟨nin (by omega) (by omega), ?_⟩⟩
      · show ¬ nI 7 ≤ nI i
        rw [nle (by omega) (by omega)]; omega
      rw [hcl, nI_1]
      refine ih (i + 1) _ (by omega) (hf.wr (by omega) (by omega)) a5 a6 a7 (fun j hj => ?_)
      rw [wr_eq]
      unfold upd
      split
      · rfl
      · exact hc j (by omega)
  exact clear 7 0 _ (by omega) (((Fr.rfl'.wr (by omega) (by omega)).wr (by omega) (by omega)).wr (by omega) (by omega)) rfl rfl rfl (fun j hj => absurd hj (Nat.not_lt_zero j))
theorem c_total {V : Mem} (e : vC M = V) (h : VOK V) {s : Mem × Nat} (hs : SimC M V s) (hi : SI V s.1) : WpI mX3_total [.ref 4, .ref 37] M (gj G2) (TTc ++ T2) (fun r M' => r = sumI (s.1 2) (ngV V) ∧ M' = M) := by
  have hg : M 37 6 = nI (ngV V) := by rw [← h.1.1, ← e]; rfl
  refine WpI.of rfl rfl nL fun X Q C hk => bX3_total_0 C ((c_bitCount _).to (bX3_total_17 C (hk _ _ ⟨?_, rfl⟩)))
  rw [hs.1, bc_bO h.1.2.2, hs.2.2.2.1, hg]
  exact total_eq (fun i hi2 q => (hi.not hi2 q).2)
/-- every answer of a whole run of nights -/
theorem c_passAll {V : Mem} (e : vC M = V) (h : VOK V) : WpV mX3_pass [.ref 4, .ref 33, .int 1000000] M (gj G2) (TTc ++ T2) (fun M' => Fr 4 9 M M' ∧ SimC M' V (simN V 30)) := by
  refine (c_pass e h _).imp ?_
  rintro M' ⟨hf, n, hn, hs, q | q⟩
  · have := lsum_le h (n := n) (m := 30 - n) (by omega)
    rw [show n + (30 - n) = 30 by omega] at this
    have a := allS_rg h
    unfold rgI allS at a
    rw [fa_le, hs.2.2.2.1] at q
    have e9 : (1000000 : Int32).toInt = 1000000 := by decide
    omega
  · rw [q] at hs
    exact ⟨hf, hs⟩
theorem c_sumBelow {V : Mem} (e : vC M = V) (h : VOK V) (bd : Int32) : WpI mX9_sumBelow [.ref 0, .int bd] M (gj G2) (TTc ++ T2) (fun r M' => Fr 4 9 M M' ∧ ((r = allS V) ∨ (bd ≤ r ∧ bd ≤ allS V))) := by
  refine WpI.of rfl rfl nL fun X Q C hk => bX9_sumBelow_0 C ((c_pass e h bd).imp ?_)
  rintro M' ⟨hf, n, hn, hs, q⟩
  refine bX9_sumBelow_12 C ((c_total ((vC_cong hf).trans e) h hs (SI.sim h hn)).to (bX9_sumBelow_26 C (hk _ _ ⟨hf, ?_⟩)))
  rcases q with q | q
  · refine Or.inr ⟨?_, ?_⟩
    · have := lsum_le h (n := n) (m := 0) (by omega)
      rw [hs.2.2.2.1] at q
      rw [fa_le] at q ⊢
      rw [Nat.add_zero] at this
      omega
    · have := lsum_le h (n := n) (m := 30 - n) (by omega)
      rw [show n + (30 - n) = 30 by omega] at this
      rw [hs.2.2.2.1] at q
      rw [fa_le] at q ⊢
      unfold allS
      omega
  · left
    rw [q]
    rfl
end CPs
