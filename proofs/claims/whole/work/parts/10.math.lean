def bt (x : Int32) (i : Nat) : Bool := x.toBitVec.getLsbD i
theorem b_ext {x y : Int32} (h : ∀ i, i < 32 → bt x i = bt y i) : x = y := Int32.toBitVec_inj.mp (BitVec.eq_of_getLsbD_eq (fun i hi => h i hi))
theorem b_or (x y : Int32) (i : Nat) : bt (x ||| y) i = (bt x i || bt y i) := by unfold bt; rw [Int32.toBitVec_or, BitVec.getLsbD_or]
theorem b_and (x y : Int32) (i : Nat) : bt (x &&& y) i = (bt x i && bt y i) := by unfold bt; rw [Int32.toBitVec_and, BitVec.getLsbD_and]
theorem b_xor (x y : Int32) (i : Nat) : bt (x ^^^ y) i = (bt x i ^^ bt y i) := by unfold bt; rw [Int32.toBitVec_xor, BitVec.getLsbD_xor]
theorem b_big {x : Int32} {i : Nat} (h : 32 ≤ i) : bt x i = false := BitVec.getLsbD_of_ge _ _ h
theorem b_255 (i : Nat) : bt 255 i = decide (i < 8) := by
  rcases Nat.lt_or_ge i 32 with h | h
  · exact (by decide +kernel : ∀ i, i < 32 → bt 255 i = decide (i < 8)) i h
  · rw [b_big h, decide_eq_false (by omega)]
theorem b_65535 (i : Nat) : bt 65535 i = decide (i < 16) := by
  rcases Nat.lt_or_ge i 32 with h | h
  · exact (by decide +kernel : ∀ i, i < 32 → bt 65535 i = decide (i < 16)) i h
  · rw [b_big h, decide_eq_false (by omega)]
theorem b_m1 : ∀ i, i < 32 → bt (-1) i = true := by decide +kernel
theorem b_0 (i : Nat) : bt 0 i = false := BitVec.getLsbD_zero
theorem s_l : ∀ n, n < 32 → ((nI n &&& 31).toBitVec.smod 32).toNat = n := by decide +kernel
theorem s_u : ∀ n, n < 32 → (((nI n).toUInt32 &&& Int32.toUInt32 31).toBitVec % 32).toNat = n := by decide +kernel
theorem b_shl (n : Nat) (hn : n < 32) (x : Int32) {i : Nat} (hi : i < 32) : bt (x <<< (nI n &&& 31)) i = (decide (n ≤ i) && bt x (i - n)) := by
  unfold bt
  rw [Int32.toBitVec_shiftLeft]
  show (x.toBitVec <<< ((nI n &&& 31).toBitVec.smod 32).toNat).getLsbD i = _
  rw [s_l n hn, BitVec.getLsbD_shiftLeft]
  rcases Nat.lt_or_ge i n with h | h
  · simp [h, Nat.not_le.mpr h]
  · simp [hi, h, Nat.not_lt.mpr h]
theorem b_ushr (n : Nat) (hn : n < 32) (x : Int32) (i : Nat) : bt ((x.toUInt32 >>> ((nI n).toUInt32 &&& Int32.toUInt32 31)).toInt32) i = bt x (n + i) := by
  show (x.toUInt32 >>> ((nI n).toUInt32 &&& Int32.toUInt32 31)).toBitVec.getLsbD i = x.toUInt32.toBitVec.getLsbD (n + i)
  rw [UInt32.toBitVec_shiftRight]
  show (x.toUInt32.toBitVec >>> (((nI n).toUInt32 &&& Int32.toUInt32 31).toBitVec % 32).toNat).getLsbD i = _
  rw [s_u n hn, BitVec.getLsbD_ushiftRight]
theorem b_sshr (n : Nat) (hn : n < 32) (x : Int32) {i : Nat} (hi : i < 32) : bt (x >>> (nI n &&& 31)) i = if n + i < 32 then bt x (n + i) else bt x 31 := by
  unfold bt
  rw [Int32.toBitVec_shiftRight]
  show (x.toBitVec.sshiftRight ((nI n &&& 31).toBitVec.smod 32).toNat).getLsbD i = _
  rw [s_l n hn, BitVec.getLsbD_sshiftRight, BitVec.msb_eq_getLsbD_last]
  simp [hi]
theorem b_shl8 (x : Int32) {i : Nat} (hi : i < 32) : bt (x <<< ((8 : Int32) &&& 31)) i = (decide (8 ≤ i) && bt x (i - 8)) := b_shl 8 (by omega) x hi
theorem b_shl16 (x : Int32) {i : Nat} (hi : i < 32) : bt (x <<< ((16 : Int32) &&& 31)) i = (decide (16 ≤ i) && bt x (i - 16)) := b_shl 16 (by omega) x hi
theorem b_shl24 (x : Int32) {i : Nat} (hi : i < 32) : bt (x <<< ((24 : Int32) &&& 31)) i = (decide (24 ≤ i) && bt x (i - 24)) := b_shl 24 (by omega) x hi
theorem b_sshr8 (x : Int32) {i : Nat} (hi : i < 32) : bt (x >>> ((8 : Int32) &&& 31)) i = if 8 + i < 32 then bt x (8 + i) else bt x 31 := b_sshr 8 (by omega) x hi
/-! ===== nI under and, xor, >>>, one bit, 65535 ===== -/
theorem fb_rng (x : Int32) : -2147483648 ≤ x.toInt ∧ x.toInt < 2147483648 := by
  have h1 := Int32.le_toInt x
  have h2 := Int32.toInt_lt x
  omega
theorem fb_bmod {z : Int} (h1 : -2147483648 ≤ z) (h2 : z < 2147483648) : z.bmod (2 ^ 32) = z := by
  rw [Int.bmod_eq_of_le (by omega) (by omega)]
theorem fb_addI {x y : Int32} (h1 : -2147483648 ≤ x.toInt + y.toInt) (h2 : x.toInt + y.toInt < 2147483648) : (x + y).toInt = x.toInt + y.toInt := by
  rw [Int32.toInt_add, fb_bmod h1 h2]
theorem fb_subI {x y : Int32} (h1 : -2147483648 ≤ x.toInt - y.toInt) (h2 : x.toInt - y.toInt < 2147483648) : (x - y).toInt = x.toInt - y.toInt := by
  rw [Int32.toInt_sub, fb_bmod h1 h2]
theorem fb_mulI {x y : Int32} (h1 : -2147483648 ≤ x.toInt * y.toInt) (h2 : x.toInt * y.toInt < 2147483648) : (x * y).toInt = x.toInt * y.toInt := by
  rw [Int32.toInt_mul, fb_bmod h1 h2]
theorem fb_negI {x : Int32} (h : x.toInt ≠ -2147483648) : (-x).toInt = -x.toInt := by
  have := fb_rng x
  rw [Int32.toInt_neg, fb_bmod (by omega) (by omega)]
theorem fa_lt (a b : Int32) : a < b ↔ a.toInt < b.toInt := Int32.lt_iff_toInt_lt
theorem fa_le (a b : Int32) : a ≤ b ↔ a.toInt ≤ b.toInt := Int32.le_iff_toInt_le
theorem fa_eq (a b : Int32) : a = b ↔ a.toInt = b.toInt := Int32.toInt_inj.symm
/-! small numbers -/
theorem nlt {a b : Nat} (ha : a < 1000000) (hb : b < 1000000) : nI a < nI b ↔ a < b := nI_ltI (by omega) (by omega)
theorem nle {a b : Nat} (ha : a < 1000000) (hb : b < 1000000) : nI a ≤ nI b ↔ a ≤ b := nI_leI (by omega) (by omega)
theorem neq {a b : Nat} (ha : a < 1000000) (hb : b < 1000000) : nI a = nI b ↔ a = b := nI_eq (by omega) (by omega)
theorem ncl {a : Nat} (ha : a < 1000000) : (nI a).toNatClampNeg = a := nI_clamp (by omega)
theorem nti {a : Nat} (ha : a < 1000000) : (nI a).toInt = (a : Int) := nI_toInt (by omega)
theorem nn0 {a : Nat} (ha : a < 1000000) : ¬ nI a < 0 := nI_pos (by omega)
theorem nin {a n : Nat} (h : a < n) (hn : n < 1000000) : vp_in (nI a) n := vp_in_nI h (by omega)
/-- an index that the class or the reference has found to be within -/
theorem ix_of {x : Int32} {n : Nat} (hn : n < 1000000) (h0 : ¬ x < 0) (h : ¬ nI n ≤ x) : ∃ i, i < n ∧ x = nI i := by
  rcases pk_ix x (n := n) (by omega) with q | q | ⟨j, hj, e⟩
  · exact absurd q h0
  · exact absurd q h
  · exact ⟨j, hj, e⟩
theorem ix_of' {x : Int32} {n : Nat} (hn : n < 1000000) (h0 : ¬ x < 0) (h : ¬ nI n - 1 < x) : ∃ i, i < n ∧ x = nI i := by
  refine ix_of hn h0 (fun q => h ?_)
  rw [fa_lt]
  rw [fa_le, nti hn] at q
  have h1 : (1 : Int32).toInt = 1 := by decide
  rw [fb_subI (by rw [nti hn, h1]; omega) (by rw [nti hn, h1]; omega), nti hn, h1]
  omega
/-! the first, and the best -/
def fstP (P : Nat → Bool) : Nat → Option Nat
  | 0 => none
  | n + 1 => match fstP P n with
    | some p => some p
    | none => if P n then some n else none
theorem fstP_spec (P : Nat → Bool) : ∀ n, (fstP P n = none ∧ ∀ q, q < n → P q = false) ∨ ∃ p, fstP P n = some p ∧ p < n ∧ P p = true ∧ ∀ q, q < p → P q = false
  | 0 => Or.inl ⟨rfl, fun q h => absurd h (Nat.not_lt_zero q)⟩
  | n + 1 => by
    rcases fstP_spec P n with ⟨h, h2⟩ | ⟨p, h, h1, h2, h3⟩
    · by_cases hp : P n = true
      · exact Or.inr ⟨n, by simp [fstP, h, hp], by omega, hp, h2⟩
      · refine Or.inl ⟨by simp [fstP, h, hp], fun q hq => ?_⟩
        rcases Nat.lt_or_ge q n with g | g
        · exact h2 q g
        · rw [show q = n by omega]; simpa using hp
    · exact Or.inr ⟨p, by simp [fstP, h], by omega, h2, h3⟩
theorem fstP_eq {P : Nat → Bool} {n p : Nat} (h1 : p < n) (h2 : P p = true) (h3 : ∀ q, q < p → P q = false) : fstP P n = some p := by
  rcases fstP_spec P n with ⟨-, h⟩ | ⟨p', h, a, b, c⟩
  · rw [h p h1] at h2; cases h2
  · rcases Nat.lt_trichotomy p p' with g | g | g
    · rw [c p g] at h2; cases h2
    · rw [g]; exact h
    · rw [h3 p' g] at b; cases b
theorem fstP_no {P : Nat → Bool} {n : Nat} (h : ∀ q, q < n → P q = false) : fstP P n = none := by
  rcases fstP_spec P n with ⟨h, -⟩ | ⟨p', -, a, b, -⟩
  · exact h
  · rw [h p' a] at b; cases b
theorem fstP_cong {P R : Nat → Bool} : ∀ {n : Nat}, (∀ q, q < n → P q = R q) → fstP P n = fstP R n
  | 0, _ => rfl
  | n + 1, h => by simp only [fstP, fstP_cong (fun q hq => h q (Nat.lt_succ_of_lt hq)), h n (Nat.lt_succ_self n)]
def bestP (W : Nat → Bool) (h : Nat → Int32) : Nat → Option Nat
  | 0 => none
  | n + 1 => match bestP W h n with
    | none => if W n then some n else none
    | some j => if W n && decide (h n < h j) then some n else some j
def IsBest (W : Nat → Bool) (h : Nat → Int32) (n j : Nat) : Prop := j < n ∧ W j = true ∧ (∀ k, k < n → W k = true → h j ≤ h k) ∧ ∀ k, k < j → W k = true → h j < h k
theorem i_nlt {a b : Int32} : ¬ a < b ↔ b ≤ a := by rw [fa_lt, fa_le]; omega
theorem i_nle {a b : Int32} : ¬ a ≤ b ↔ b < a := by rw [fa_lt, fa_le]; omega
theorem i_lt_le {a b : Int32} (h : a < b) : a ≤ b := by rw [fa_lt] at h; rw [fa_le]; omega
theorem i_lt_trans {a b c : Int32} (h : a < b) (h2 : b ≤ c) : a < c := by rw [fa_lt] at *; rw [fa_le] at h2; omega
theorem i_le_lt {a b c : Int32} (h : a ≤ b) (h2 : b < c) : a < c := by rw [fa_lt] at *; rw [fa_le] at h; omega
theorem i_le_trans {a b c : Int32} (h : a ≤ b) (h2 : b ≤ c) : a ≤ c := by rw [fa_le] at *; omega
theorem i_le_rfl (a : Int32) : a ≤ a := by rw [fa_le]; omega
theorem i_lt_irr (a : Int32) : ¬ a < a := by rw [fa_lt]; omega
theorem bestP_spec (W : Nat → Bool) (h : Nat → Int32) : ∀ n, (bestP W h n = none ∧ ∀ q, q < n → W q = false) ∨ ∃ j, bestP W h n = some j ∧ IsBest W h n j
  | 0 => Or.inl ⟨rfl, fun q h => absurd h (Nat.not_lt_zero q)⟩
  | n + 1 => by
    rcases bestP_spec W h n with ⟨e, h2⟩ | ⟨j, e, h1, h2, h3, h4⟩
    · by_cases hp : W n = true
      · refine Or.inr ⟨n, by simp [bestP, e, hp], by omega, hp, fun k hk hw => ?_, fun k hk hw => ?_⟩
        · rcases Nat.lt_or_ge k n with g | g
          · rw [h2 k g] at hw; cases hw
          · rw [show k = n by omega]; exact i_le_rfl _
        · rw [h2 k hk] at hw; cases hw
      · refine Or.inl ⟨by simp [bestP, e, hp], fun q hq => ?_⟩
        rcases Nat.lt_or_ge q n with g | g
        · exact h2 q g
        · rw [show q = n by omega]; simpa using hp
    · by_cases hp : W n = true ∧ h n < h j
      · refine Or.inr ⟨n, by simp [bestP, e, hp.1, hp.2], by omega, hp.1, fun k hk hw => ?_, fun k hk hw => ?_⟩
        · rcases Nat.lt_or_ge k n with g | g
          · exact i_lt_le (i_lt_trans hp.2 (h3 k g hw))
          · rw [show k = n by omega]; exact i_le_rfl _
        · exact i_lt_trans hp.2 (h3 k hk hw)
      · refine Or.inr ⟨j, ?_, by omega, h2, fun k hk hw => ?_, h4⟩
        · simp only [bestP, e]
          rw [if_neg]
          intro q
          simp only [Bool.and_eq_true, decide_eq_true_eq] at q
          exact hp q
        · rcases Nat.lt_or_ge k n with g | g
          · exact h3 k g hw
          · have ek : k = n := by omega
            subst ek
            exact i_nlt.mp (fun q => hp ⟨hw, q⟩)
theorem IsBest.one {W : Nat → Bool} {h : Nat → Int32} {n i j : Nat} (a : IsBest W h n i) (b : IsBest W h n j) : i = j := by
  obtain ⟨a1, a2, a3, a4⟩ := a
  obtain ⟨b1, b2, b3, b4⟩ := b
  rcases Nat.lt_trichotomy i j with g | g | g
  · exact absurd (i_lt_trans (b4 i g a2) (a3 j b1 b2)) (i_lt_irr _)
  · exact g
  · exact absurd (i_lt_trans (a4 j g b2) (b3 i a1 a2)) (i_lt_irr _)
theorem bestP_eq {W : Nat → Bool} {h : Nat → Int32} {n j : Nat} (hb : IsBest W h n j) : bestP W h n = some j := by
  rcases bestP_spec W h n with ⟨-, q⟩ | ⟨i, e, b⟩
  · have := q j hb.1; rw [hb.2.1] at this; cases this
  · rw [e, b.one hb]
theorem bestP_no {W : Nat → Bool} {h : Nat → Int32} {n : Nat} (hb : ∀ q, q < n → W q = false) : bestP W h n = none := by
  rcases bestP_spec W h n with ⟨e, -⟩ | ⟨i, -, b⟩
  · exact e
  · have := hb i b.1; rw [b.2.1] at this; cases this
theorem bestP_cong {W W' : Nat → Bool} {h h' : Nat → Int32} : ∀ {n : Nat}, (∀ q, q < n → W q = W' q) → (∀ q, q < n → h q = h' q) → bestP W h n = bestP W' h' n
  | 0, _, _ => rfl
  | n + 1, a, b => by
    have ih := bestP_cong (fun q hq => a q (Nat.lt_succ_of_lt hq)) (fun q hq => b q (Nat.lt_succ_of_lt hq)) (n := n)
    simp only [bestP, ih, a n (Nat.lt_succ_self n)]
    rcases bestP_spec W' h' n with ⟨e, -⟩ | ⟨i, e, q⟩
    · rw [e]
    · rw [e]
      simp only [b n (Nat.lt_succ_self n), b i (Nat.lt_succ_of_lt q.1)]
/-! sets of guests as bits -/
def bO (n : Nat) (p : Nat → Bool) : Int32 := match n with
  | 0 => 0
  | k + 1 => if p k then bO k p ||| ((1 : Int32) <<< (nI k &&& 31)) else bO k p
theorem bt_1 (i : Nat) : bt 1 i = decide (i = 0) := by
  rcases Nat.lt_or_ge i 32 with h | h
  · exact (by decide +kernel : ∀ i, i < 32 → bt 1 i = decide (i = 0)) i h
  · rw [b_big h, decide_eq_false (by omega)]
theorem bt_sh {k i : Nat} (hk : k < 32) (hi : i < 32) : bt ((1 : Int32) <<< (nI k &&& 31)) i = decide (i = k) := by
  rw [b_shl k hk 1 hi, bt_1]
  by_cases h : i = k
  · subst h; simp
  · by_cases h2 : k ≤ i
    · have : i - k ≠ 0 := by omega
      simp [h, h2, this]
    · simp [h, h2]
theorem bt_bO : ∀ {n : Nat} {p : Nat → Bool} {i : Nat}, n ≤ 32 → i < 32 → bt (bO n p) i = (decide (i < n) && p i)
  | 0, p, i, _, hi => by
    show bt 0 i = _
    rw [b_0]; simp
  | n + 1, p, i, hn, hi => by
    have ih := bt_bO (n := n) (p := p) (i := i) (by omega) hi
    unfold bO
    by_cases hp : p n = true
    · rw [if_pos hp, b_or, ih, bt_sh (by omega) hi]
      by_cases e : i = n
      · subst e; simp [hp]
      · have : (i < n + 1) ↔ (i < n) := by omega
        simp [e, this]
    · rw [if_neg hp, ih]
      by_cases e : i = n
      · subst e; simp at hp; simp [hp]
      · have : (i < n + 1) ↔ (i < n) := by omega
        simp [this]
theorem bO_cong {n : Nat} {p q : Nat → Bool} (h : ∀ i, i < n → p i = q i) : bO n p = bO n q := by
  induction n with
  | zero => rfl
  | succ n ih =>
    unfold bO
    rw [ih (fun i hi => h i (by omega)), h n (by omega)]
/-- one bit, as both programs ask for it -/
theorem bit_1 (x : Int32) {i : Nat} (hi : i < 32) : ((x >>> (nI i &&& 31)) &&& 1) = 1 ↔ bt x i = true := by
  have h0 : ∀ j, j < 32 → bt ((x >>> (nI i &&& 31)) &&& 1) j = (decide (j = 0) && bt x i) := by
    intro j hj
    rw [b_and, bt_1, b_sshr i hi x hj]
    by_cases e : j = 0
    · subst e; simp [hi]
    · simp [e]
  constructor
  · intro h
    have := h0 0 (by omega)
    rw [h, bt_1] at this
    simpa using this.symm
  · intro h
    apply b_ext
    intro j hj
    rw [h0 j hj, h, bt_1]
    simp
theorem bO_and {n : Nat} {p q : Nat → Bool} (hn : n ≤ 31) : bO n p &&& (bO n q ^^^ -1) = bO n (fun i => p i && !q i) := by
  apply b_ext
  intro j hj
  rw [b_and, b_xor, b_m1 j hj, bt_bO (by omega) hj, bt_bO (by omega) hj, bt_bO (by omega) hj]
  by_cases h : j < n <;> simp [h]
theorem bO_andx {n : Nat} {p : Nat → Bool} {x : Int32} (hn : n ≤ 31) : x &&& bO n p = bO n (fun i => bt x i && p i) := by
  apply b_ext
  intro j hj
  rw [b_and, bt_bO (by omega) hj, bt_bO (by omega) hj]
  by_cases h : j < n <;> simp [h]
theorem bO_add {n k : Nat} {p : Nat → Bool} (hn : n ≤ 31) (hk : k < n) : bO n p ||| ((1 : Int32) <<< (nI k &&& 31)) = bO n (fun i => p i || decide (i = k)) := by
  apply b_ext
  intro j hj
  rw [b_or, bt_bO (by omega) hj, bt_bO (by omega) hj, bt_sh (by omega) hj]
  by_cases h : j = k
  · subst h; simp [hk]
  · simp [h]
theorem bO_del {n k : Nat} {p : Nat → Bool} (hn : n ≤ 31) (hk : k < n) : bO n p &&& (((1 : Int32) <<< (nI k &&& 31)) ^^^ -1) = bO n (fun i => p i && !decide (i = k)) := by
  apply b_ext
  intro j hj
  rw [b_and, b_xor, b_m1 j hj, bt_bO (by omega) hj, bt_bO (by omega) hj, bt_sh (by omega) hj]
  simp [Bool.and_assoc]
theorem bO_inj {n : Nat} {p q : Nat → Bool} (hn : n ≤ 31) : bO n p = bO n q ↔ ∀ i, i < n → p i = q i := by
  constructor
  · intro h i hi
    have h1 := bt_bO (n := n) (p := p) (i := i) (by omega) (by omega)
    have h2 := bt_bO (n := n) (p := q) (i := i) (by omega) (by omega)
    rw [h, h2] at h1
    simpa [hi] using h1.symm
  · exact bO_cong
theorem bO_zero {n : Nat} {p : Nat → Bool} (hn : n ≤ 31) : bO n p = 0 ↔ ∀ i, i < n → p i = false := by
  have h0 : bO n (fun _ => false) = 0 := by
    apply b_ext
    intro j hj
    rw [bt_bO (by omega) hj, b_0]; simp
  rw [← h0, bO_inj hn]
theorem bO_all : ∀ n, n ≤ 7 → ((1 : Int32) <<< (nI n &&& 31)) - 1 = bO n (fun _ => true) := by decide +kernel
def cnt (p : Nat → Bool) : Nat → Nat
  | 0 => 0
  | n + 1 => cnt p n + (if p n then 1 else 0)
theorem cnt_le (p : Nat → Bool) : ∀ n, cnt p n ≤ n
  | 0 => Nat.le_refl 0
  | n + 1 => by have := cnt_le p n; unfold cnt; split <;> omega
theorem cnt_cong {p q : Nat → Bool} : ∀ {n : Nat}, (∀ i, i < n → p i = q i) → cnt p n = cnt q n
  | 0, _ => rfl
  | n + 1, h => by unfold cnt; rw [cnt_cong (fun i hi => h i (Nat.lt_succ_of_lt hi)), h n (Nat.lt_succ_self n)]
