/-! the reference: an item, fault -/
theorem stp_l1 {c : Int32} {l : List Int32} {d : Dt} (hc : c = 98 ∨ c = 107 ∨ c = 114) (hl : l.length ≠ 0 + 1) : stp c l d = none := by
  match l, hl with
  | [], _ => rfl
  | [_], hl => exact absurd rfl hl
  | [_, _], _ => rcases hc with rfl | rfl | rfl <;> exact stp_o2 (by decide) (by decide)
  | [_, _, _], _ => rcases hc with rfl | rfl | rfl <;> exact stp_o3 (by decide)
  | _ :: _ :: _ :: _ :: _, _ => rfl
theorem stp_l2 {c : Int32} {l : List Int32} {d : Dt} (hc : c = 102 ∨ c = 104) (hl : l.length ≠ 1 + 1) : stp c l d = none := by
  match l, hl with
  | [], _ => rfl
  | [_], _ => rcases hc with rfl | rfl <;> exact stp_o1 (by decide) (by decide) (by decide)
  | [_, _], hl => exact absurd rfl hl
  | [_, _, _], _ => rcases hc with rfl | rfl <;> exact stp_o3 (by decide)
  | _ :: _ :: _ :: _ :: _, _ => rfl
theorem stp_l3 {c : Int32} {l : List Int32} {d : Dt} (hc : c = 103) (hl : l.length ≠ 2 + 1) : stp c l d = none := by
  match l, hl with
  | [], _ => rfl
  | [_], _ => rw [hc]; exact stp_o1 (by decide) (by decide) (by decide)
  | [_, _], _ => rw [hc]; exact stp_o2 (by decide) (by decide)
  | [_, _, _], hl => exact absurd rfl hl
  | _ :: _ :: _ :: _ :: _, _ => rfl
theorem stp_no {c : Int32} {l : List Int32} {d : Dt} (h1 : ¬ c = 103) (h2 : ¬ c = 102) (h3 : ¬ c = 104) (h4 : ¬ c = 98) (h5 : ¬ c = 107) (h6 : ¬ c = 114) : stp c l d = none := by
  match l with
  | [] => rfl
  | [_] => exact stp_o1 h4 h5 h6
  | [_, _] => exact stp_o2 h2 h3
  | [_, _, _] => exact stp_o3 h1
  | _ :: _ :: _ :: _ :: _ => rfl
/-- an item read: what it gives -/
def ItP (t : Nat → Int32) (p : Nat) (d : Dt) (M : Mem) (x : Int32) (M' : Mem) : Prop := F8 M M' ∧ ((x = 0 ∧ ∀ l e, rdR t 3 (p + 1) = some (l, e) → stp (t p) l d = none) ∨ (x = 1 ∧ ∃ l e d', rdR t 3 (p + 1) = some (l, e) ∧ stp (t p) l d = some d' ∧ RD M' d' ∧ M' 57 14 = nI e))
section M79
variable {M : Mem} {t : Nat → Int32} {n : Nat} {d : Dt}
theorem m_readItem (ht : TX t n) (hc : TM t n M) (rd : RD M d) (dk : DOK d) {p : Nat} (hp : M 57 14 = nI p) (hpn : p < n) : WpI mX10_readItem [.ref 57] M (gj gm) (TTc ++ TTm) (ItP t p d M) := by
  have hn := ht.1
  refine WpI.of rfl rfl nL fun X Q C hk => bX10_readItem_0 C ?_
  rw [hp, ncl (by omega), hc.2 p hpn, nI_1]
  -- behind the numbers
  have i88 : ∀ l e (M' : Mem), rdR t 3 (p + 1) = some (l, e) → (t p = 98 ∨ t p = 107 ∨ t p = 114 → l.length = 0 + 1) → (t p = 102 ∨ t p = 104 → l.length = 1 + 1) → (t p = 103 → l.length = 2 + 1) → (t p = 103 ∨ t p = 102 ∨ t p = 104 ∨ t p = 98 ∨ t p = 107 ∨ t p = 114) → F8 M M' → (∀ c, c ≠ 57 → c ≠ 66 → M' c = M c) → M' 57 14 = nI e → (∀ j, j ≠ 14 → j ≠ 15 → M' 57 j = M 57 j) → (∀ i, i < l.length → M' 66 i = l.getD i 0) → WW X Q 88 [(0, .ref 57), (1, .int (t p))] [.int 1] (M', gj gm, TTc ++ TTm) := by
    intro l e M' hr l1 l2 l3 six f8 fc h14 fj nums
    obtain ⟨⟨r1, r2, r3, r4, r5⟩, rg, r70, rb, rf, rr⟩ := rd
    obtain ⟨dg, db, df, dr⟩ := dk.1
    rw [← fj 23 (by omega) (by omega)] at r1
    rw [← fj 18 (by omega) (by omega)] at r2
    rw [← fj 20 (by omega) (by omega)] at r3
    rw [← fj 25 (by omega) (by omega)] at r4
    rw [← fj 26 (by omega) (by omega)] at r5
    rw [← fc 69 (by omega) (by omega)] at rg
    rw [← fc 70 (by omega) (by omega)] at r70
    rw [← fc 67 (by omega) (by omega)] at rb
    rw [← fc 68 (by omega) (by omega)] at rf
    rw [← fc 71 (by omega) (by omega)] at rr
    have bad : ∀ M2, F8 M M2 → stp (t p) l d = none → RetOK X Q (some (.int 0)) (M2, gj gm, TTc ++ TTm) := fun M2 f z => hk _ _ ⟨f, Or.inl ⟨rfl, fun l' e' h' => by rw [hr] at h'; cases h'; exact z⟩⟩
    have good : ∀ M2 d', F8 M M2 → stp (t p) l d = some d' → RD M2 d' → M2 57 14 = nI e → RetOK X Q (some (.int 1)) (M2, gj gm, TTc ++ TTm) := fun M2 d' f z a b => hk _ _ ⟨f, Or.inr ⟨rfl, l, e, d', hr, z, a, b⟩⟩
    refine bX10_readItem_88 C ⟨fun _ => ⟨fun n98 => ⟨fun n102 => ⟨fun n103 => ⟨fun n104 => ⟨fun n107 => ?_, fun e107 => ?_⟩, fun e104 => ?_⟩, fun e103 => ?_⟩, fun e102 => ?_⟩, fun e98 => ?_⟩, fun z => absurd z (by decide)⟩
    · have ec : t p = 114 := by
        rcases six with z | z | z | z | z | z
        · exact absurd z n103
        · exact absurd z n102
        · exact absurd z n104
        · exact absurd z n98
        · exact absurd z n107
        · exact z
      match l, l1 (Or.inr (Or.inr ec)), nums with
      | [a], _, nums =>
        rw [show M' 66 0 = a from nums 0 (by simp)]
        rw [ec] at bad good
        rw [stp_114] at bad good
        have f0 := f8_b (j := 25) (v := M' 57 25 + 0) (f8_a (c := 71) (j := 0) (v := M' 71 0) f8 (by omega) (by omega)) (by omega) (by omega)
        refine ⟨fun q => bad _ f0 (if_neg (fun z => absurd q (i_nlt.mpr z.1))), fun q => ⟨fun q2 => bad _ f0 (if_neg (fun z => absurd q2 (i_nlt.mpr z.2.1))), fun q2 => ⟨fun q3 => bad _ f0 (if_neg (fun z => ?_)), fun q3 => ?_⟩⟩⟩
        · rw [r4] at q3
          have := (nle (a := 4) (by omega) (by omega)).mp q3
          omega
        rw [r4] at q3 ⊢
        have q4 : d.2.2.2.2 < 4 := by
          rcases Nat.lt_or_ge d.2.2.2.2 4 with z | z
          · exact z
          · exact absurd ((nle (a := 4) (by omega) (by omega)).mpr z) q3
        rw [ncl (by omega), nI_1]
        exact ⟨nin (by omega) (by omega), good _ _ (f8_b (f8_a f8 (by omega) (by omega)) (by omega) (by omega)) (if_pos ⟨i_nlt.mp q, i_nlt.mp q2, q4⟩) ⟨⟨r1, r2, r3, rfl, r5⟩, rg, r70, rb, rf, upd_ap rr⟩ h14⟩
    · match l, l1 (Or.inr (Or.inl e107)), nums with
      | [a], _, nums =>
        rw [show M' 66 0 = a from nums 0 (by simp)]
        rw [e107] at bad good
        rw [stp_107] at bad good
        have f0 := f8_b (j := 26) (v := M' 57 26) f8 (by omega) (by omega)
        exact ⟨fun q => bad _ f0 (if_neg (fun z => absurd q (i_nlt.mpr z.1))), fun q => ⟨fun q2 => bad _ f0 (if_neg (fun z => absurd q2 (i_nlt.mpr z.2))), fun q2 => good _ _ (f8_b f8 (by omega) (by omega)) (if_pos ⟨i_nlt.mp q, i_nlt.mp q2⟩) ⟨⟨r1, r2, r3, r4, rfl⟩, rg, r70, rb, rf, rr⟩ h14⟩⟩
    · match l, l2 (Or.inr e104), nums with
      | [a, b], _, nums =>
        rw [show M' 66 0 = a from nums 0 (by simp), show M' 66 1 = b from nums 1 (by simp)]
        rw [e104] at bad good
        rw [stp_104] at bad good
        have f0 := f8_a (c := 70) (j := 0) (v := M' 70 0 ||| 0) f8 (by omega) (by omega)
        rw [r1]
        have hm : ∀ x : Int32, x < nI d.2.1 → ¬ nI d.2.1 - 1 < x := fun x hx z => by
          rw [fa_lt] at z hx
          rw [fb_subI (by rw [nti (by omega), show (1 : Int32).toInt = 1 by decide]; omega) (by rw [nti (by omega), show (1 : Int32).toInt = 1 by decide]; omega), show (1 : Int32).toInt = 1 by decide] at z
          omega
        have hm2 : ∀ x : Int32, ¬ nI d.2.1 - 1 < x → x < nI d.2.1 := fun x z => by
          rw [fa_lt, fb_subI (by rw [nti (by omega), show (1 : Int32).toInt = 1 by decide]; omega) (by rw [nti (by omega), show (1 : Int32).toInt = 1 by decide]; omega), show (1 : Int32).toInt = 1 by decide] at z
          rw [fa_lt]
          omega
        refine ⟨fun q => bad _ f0 (if_neg (fun z => absurd q (i_nlt.mpr z.1))), fun q => ⟨fun q2 => bad _ f0 (if_neg (fun z => hm _ z.2.1 q2)), fun q2 => ⟨fun q3 => bad _ f0 (if_neg (fun z => absurd q3 (i_nlt.mpr z.2.2.1))), fun q3 => ⟨fun q4 => bad _ f0 (if_neg (fun z => hm _ z.2.2.2.1 q4)), fun q4 => ⟨fun q5 => bad _ f0 (if_neg (fun z => z.2.2.2.2 q5)), fun q5 => ?_⟩⟩⟩⟩⟩
        obtain ⟨i, hi, ei⟩ := ix_of' (n := d.2.1) (by omega) q q2
        have v : vp_in a 7 := by rw [ei]; exact nin (by omega) (by omega)
        refine ⟨v, v, good _ _ (f8_a f8 (by omega) (by omega)) (if_pos ⟨i_nlt.mp q, hm2 _ q2, i_nlt.mp q3, hm2 _ q4, q5⟩) ⟨⟨r1, r2, r3, r4, r5⟩, rg, ?_, rb, rf, rr⟩ h14⟩
        rw [ei, ncl (by omega)]
        exact upd_in r70 (fun _ => by rw [r70 i (by omega)])
    · match l, l3 e103, nums with
      | [a, b, k], _, nums =>
        rw [show M' 66 0 = a from nums 0 (by simp), show M' 66 1 = b from nums 1 (by simp), show M' 66 2 = k from nums 2 (by simp)]
        rw [e103] at bad good
        rw [stp_103] at bad good
        have no : (¬ (40 ≤ a ∧ a ≤ 99 ∧ 0 ≤ b ∧ b ≤ 9 ∧ 0 ≤ k ∧ k ≤ 4 ∧ d.2.1 < 7)) → WW X Q 363 [(0, .ref 57), (1, .int (t p)), (2, .int a), (3, .int b), (4, .int 0), (5, .int 0)] [] (M', gj gm, TTc ++ TTm) := fun z => by
          have fx := bad _ (f8_b (j := 23) (v := M' 57 23 + 0) f8 (by omega) (by omega)) (if_neg z)
          exact bX10_readItem_363 C ⟨fun y => absurd y (by decide), fun _ => ⟨fun _ => ⟨fun _ => ⟨Or.inl rfl, fx⟩, fun y => absurd rfl y⟩, fun y => absurd rfl y⟩⟩
        refine ⟨fun q => no (fun z => absurd q (i_nlt.mpr z.1)), fun q => ⟨fun q2 => no (fun z => absurd q2 (i_nlt.mpr z.2.1)), fun q2 => ⟨fun q3 => no (fun z => absurd q3 (i_nlt.mpr z.2.2.1)), fun q3 => ⟨fun q4 => no (fun z => absurd q4 (i_nlt.mpr z.2.2.2.1)), fun q4 => ⟨fun q5 => no (fun z => absurd q5 (i_nlt.mpr z.2.2.2.2.1)), fun q5 => ⟨fun q6 => no (fun z => absurd q6 (i_nlt.mpr z.2.2.2.2.2.1)), fun q6 => ⟨fun q7 => no (fun z => ?_), fun q7 => ?_⟩⟩⟩⟩⟩⟩⟩
        · rw [r1] at q7
          have := (nle (a := 7) (by omega) (by omega)).mp q7
          omega
        rw [r1] at q7
        have q8 : d.2.1 < 7 := by
          rcases Nat.lt_or_ge d.2.1 7 with z | z
          · exact z
          · exact absurd ((nle (a := 7) (by omega) (by omega)).mpr z) q7
        -- three numbers are kept
        have e3 : ∀ (j : Nat) (M2 : Mem), M2 57 23 = nI d.2.1 → (3 * M2 57 23 + nI j) = nI (3 * d.2.1 + j) := fun j M2 h => by rw [h, show (3 : Int32) * nI d.2.1 = nI (3 * d.2.1) from pk_mul 3 _, nI_add]
        have n0 : M' 66 0 = a := nums 0 (by simp)
        have n1 : M' 66 1 = b := nums 1 (by simp)
        have n2 : M' 66 2 = k := nums 2 (by simp)
        have stepG : ∀ (j : Nat) (M2 : Mem), j < 3 → M2 57 23 = nI d.2.1 → WW X Q 363 [(0, .ref 57), (1, .int (t p)), (2, .int a), (3, .int b), (4, .int 1), (5, .int (nI (j + 1)))] [] (wr M2 69 (3 * d.2.1 + j) (M2 66 j), gj gm, TTc ++ TTm) → WW X Q 363 [(0, .ref 57), (1, .int (t p)), (2, .int a), (3, .int b), (4, .int 1), (5, .int (nI j))] [] (M2, gj gm, TTc ++ TTm) := by
          intro j M2 hj h23 kx
          refine bX10_readItem_363 C ⟨fun y => absurd ((nle (a := 3) (by omega) (by omega)).mp y) (by omega), fun _ => ⟨fun y => absurd y (by decide), fun _ => ?_⟩⟩
          rw [e3 j M2 h23, ncl (by omega), ncl (by omega), nI_1]
          exact ⟨nin (by omega) (by omega), nin (by omega) (by omega), kx⟩
        refine stepG 0 M' (by omega) r1 (stepG 1 _ (by omega) r1 (stepG 2 _ (by omega) r1 ?_))
        have o0 : (wr M' 69 (3 * d.2.1 + 0) (M' 66 0)) 66 1 = b := n1
        rw [n0]
        have e2 : (wr (wr M' 69 (3 * d.2.1 + 0) a) 69 (3 * d.2.1 + 1) ((wr M' 69 (3 * d.2.1 + 0) a) 66 1)) 66 2 = k := n2
        have e1 : (wr M' 69 (3 * d.2.1 + 0) a) 66 1 = b := n1
        rw [e2, e1]
        refine bX10_readItem_363 C ⟨fun _ => ⟨fun y => absurd y (by decide), fun _ => ⟨Or.inr rfl, ?_⟩⟩, fun y => absurd (by decide) y⟩
        refine good _ _ (f8_b (f8_a (f8_a (f8_a f8 (by omega) (by omega)) (by omega) (by omega)) (by omega) (by omega)) (by omega) (by omega)) (if_pos ⟨i_nlt.mp q, i_nlt.mp q2, i_nlt.mp q3, i_nlt.mp q4, i_nlt.mp q5, i_nlt.mp q6, q8⟩) ⟨⟨?_, r2, r3, r4, r5⟩, fun i hi => ?_, r70, rb, rf, rr⟩ h14
        · rw [wr_at]
          show M' 57 23 + 1 = nI (d.2.1 + 1)
          rw [r1, nI_1]
        · show (upd (upd (upd (M' 69) (3 * d.2.1 + 0) a) (3 * d.2.1 + 1) b) (3 * d.2.1 + 2) k) (3 * i) = upd (d.1 0) d.2.1 a i ∧ (upd (upd (upd (M' 69) (3 * d.2.1 + 0) a) (3 * d.2.1 + 1) b) (3 * d.2.1 + 2) k) (3 * i + 1) = upd (d.1 1) d.2.1 b i ∧ (upd (upd (upd (M' 69) (3 * d.2.1 + 0) a) (3 * d.2.1 + 1) b) (3 * d.2.1 + 2) k) (3 * i + 2) = upd (d.1 2) d.2.1 k i
          dsimp only at hi
          by_cases ei : i = d.2.1
          · subst ei
            rw [pk_un (by omega), pk_un (by omega), show 3 * d.2.1 = 3 * d.2.1 + 0 from rfl, pk_us, pk_us, pk_un (by omega), pk_us, pk_us, pk_us, pk_us]
            exact ⟨rfl, rfl, rfl⟩
          · rw [pk_un (by omega), pk_un (by omega), pk_un (by omega), pk_un ei, pk_un (by omega), pk_un (by omega), pk_un (by omega), pk_un ei, pk_un (by omega), pk_un (by omega), pk_un (by omega), pk_un ei]
            exact rg i (by omega)
    · match l, l2 (Or.inl e102), nums with
      | [a, b], _, nums =>
        rw [show M' 66 0 = a from nums 0 (by simp), show M' 66 1 = b from nums 1 (by simp)]
        rw [e102] at bad good
        rw [stp_102] at bad good
        have f0 := f8_b (j := 20) (v := M' 57 20 + 0) (f8_a (c := 68) (j := 0) (v := M' 68 0 + 0) f8 (by omega) (by omega)) (by omega) (by omega)
        refine ⟨fun q => bad _ f0 (if_neg (fun z => absurd q (i_nlt.mpr z.1))), fun q => ⟨fun q2 => bad _ f0 (if_neg (fun z => absurd q2 (i_nlt.mpr z.2.1))), fun q2 => ⟨fun q3 => bad _ f0 (if_neg (fun z => absurd q3 (i_nlt.mpr z.2.2.1))), fun q3 => ⟨fun q4 => bad _ f0 (if_neg (fun z => absurd q4 (i_nlt.mpr z.2.2.2.1))), fun q4 => ⟨fun q5 => bad _ f0 (if_neg (fun z => ?_)), fun q5 => ?_⟩⟩⟩⟩⟩
        · rw [r3] at q5
          have := (nle (a := 4) (by omega) (by omega)).mp q5
          omega
        rw [r3] at q5 ⊢
        have q6 : d.2.2.2.1 < 4 := by
          rcases Nat.lt_or_ge d.2.2.2.1 4 with z | z
          · exact z
          · exact absurd ((nle (a := 4) (by omega) (by omega)).mpr z) q5
        obtain ⟨i, hi, ei⟩ := ix_of' (x := a) (n := 30) (by omega) q q2
        have v : vp_in a 30 := by rw [ei]; exact nin (by omega) (by omega)
        rw [nI_1]
        refine ⟨v, v, good _ _ (f8_b (f8_a f8 (by omega) (by omega)) (by omega) (by omega)) (if_pos ⟨i_nlt.mp q, i_nlt.mp q2, i_nlt.mp q3, i_nlt.mp q4, q6⟩) ⟨⟨r1, r2, rfl, r4, r5⟩, rg, r70, rb, ?_, rr⟩ h14⟩
        rw [ei, ncl (by omega)]
        exact upd_in rf (fun _ => by rw [rf i (by omega)])
    · match l, l1 (Or.inl e98), nums with
      | [a], _, nums =>
        rw [show M' 66 0 = a from nums 0 (by simp)]
        rw [e98] at bad good
        rw [stp_98] at bad good
        have f0 := f8_b (j := 18) (v := M' 57 18 + 0) (f8_a (c := 67) (j := 0) (v := M' 67 0) f8 (by omega) (by omega)) (by omega) (by omega)
        refine ⟨fun q => bad _ f0 (if_neg (fun z => absurd q (i_nlt.mpr z.1))), fun q => ⟨fun q2 => bad _ f0 (if_neg (fun z => absurd q2 (i_nlt.mpr z.2.1))), fun q2 => ⟨fun q3 => bad _ f0 (if_neg (fun z => ?_)), fun q3 => ?_⟩⟩⟩
        · rw [r2] at q3
          have := (nle (a := 4) (by omega) (by omega)).mp q3
          omega
        rw [r2] at q3 ⊢
        have q4 : d.2.2.1 < 4 := by
          rcases Nat.lt_or_ge d.2.2.1 4 with z | z
          · exact z
          · exact absurd ((nle (a := 4) (by omega) (by omega)).mpr z) q3
        rw [ncl (by omega), nI_1]
        exact ⟨nin (by omega) (by omega), good _ _ (f8_b (f8_a f8 (by omega) (by omega)) (by omega) (by omega)) (if_pos ⟨i_nlt.mp q, i_nlt.mp q2, q4⟩) ⟨⟨r1, rfl, r3, r4, r5⟩, rg, r70, upd_ap rb, rf, rr⟩ h14⟩
  -- the numbers
  have rn : ∀ r, r < 3 → (∀ l : List Int32, l.length ≠ r + 1 → stp (t p) l d = none) → (t p = 98 ∨ t p = 107 ∨ t p = 114 → r = 0) → (t p = 102 ∨ t p = 104 → r = 1) → (t p = 103 → r = 2) → (t p = 103 ∨ t p = 102 ∨ t p = 104 ∨ t p = 98 ∨ t p = 107 ∨ t p = 114) → WpI mX10_readNumbers [.ref 57, .int (nI (r + 1))] (wr (wr M 57 14 (nI (p + 1))) 57 15 (nI (r + 1))) (gj gm) (TTc ++ TTm) (fun r M' => WW X Q 88 [(0, .ref 57), (1, .int (t p))] [.int r] (M', gj gm, TTc ++ TTm)) := by
    intro r hr3 hl c1 c2 c3 six
    have f0 : F8 M (wr (wr M 57 14 (nI (p + 1))) 57 15 (nI (r + 1))) := f8_b (f8_b F8.r (by omega) (by omega)) (by omega) (by omega)
    refine (m_readNumbers ht (hc.f f0) (p := p + 1) (by rw [wr_no (by omega), wr_at]) (by omega) hr3).imp ?_
    rintro x M' ⟨g8, gc, ⟨a, rfl⟩ | ⟨l, e, a, rfl, b1, b2⟩⟩
    · refine bX10_readItem_88 C ⟨fun z => absurd rfl z, fun _ => hk _ _ ⟨f0.t g8, Or.inl ⟨rfl, fun l e h => ?_⟩⟩⟩
      refine hl l (fun z => ?_)
      rw [(rfR_iff (f := 3) hr3).mpr ⟨h, z⟩] at a
      cases a
    · have a2 := (rfR_iff (f := 3) hr3).mp a
      refine i88 l e M' a2.1 (fun z => by rw [a2.2, c1 z]) (fun z => by rw [a2.2, c2 z]) (fun z => by rw [a2.2, c3 z]) six (f0.t g8) (fun c c1 c2 => by rw [gc c c1 c2, wr_ne c1, wr_ne c1]) (by rw [b1, pk_us]) (fun j j1 j2 => ?_) b2
      rw [b1, pk_un j1, wr_no j2, wr_no j1]
  have vi : vp_in (nI p) 200 := nin (by omega) (by omega)
  refine ⟨vi, fun n103 => ⟨fun e102 => rn 1 (by omega) (fun l hl => stp_l2 (Or.inl e102) hl) (fun z => ?_) (fun _ => rfl) (fun z => absurd z n103) (Or.inr (Or.inl e102)), fun n102 => ⟨fun n104 => ⟨fun e98 => rn 0 (by omega) (fun l hl => stp_l1 (Or.inl e98) hl) (fun _ => rfl) (fun z => ?_) (fun z => absurd z n103) (Or.inr (Or.inr (Or.inr (Or.inl e98)))), fun n98 => ⟨fun e107 => rn 0 (by omega) (fun l hl => stp_l1 (Or.inr (Or.inl e107)) hl) (fun _ => rfl) (fun z => ?_) (fun z => absurd z n103) (Or.inr (Or.inr (Or.inr (Or.inr (Or.inl e107))))), fun n107 => ⟨fun n114 => hk _ _ ⟨f8_b (f8_b F8.r (by omega) (by omega)) (by omega) (by omega), Or.inl ⟨rfl, fun l e h => stp_no n103 n102 n104 n98 n107 n114⟩⟩, fun e114 => rn 0 (by omega) (fun l hl => stp_l1 (Or.inr (Or.inr e114)) hl) (fun _ => rfl) (fun z => ?_) (fun z => absurd z n103) (Or.inr (Or.inr (Or.inr (Or.inr (Or.inr e114)))))⟩⟩⟩, fun e104 => rn 1 (by omega) (fun l hl => stp_l2 (Or.inr e104) hl) (fun z => ?_) (fun _ => rfl) (fun z => absurd z n103) (Or.inr (Or.inr (Or.inl e104)))⟩⟩, fun e103 => rn 2 (by omega) (fun l hl => stp_l3 e103 hl) (fun z => ?_) (fun z => ?_) (fun _ => rfl) (Or.inl e103)⟩
  · rw [e102] at z; revert z; decide
  · rcases z with z | z
    · exact absurd z n102
    · exact absurd z n104
  · rcases z with z | z
    · exact absurd z n102
    · exact absurd z n104
  · rcases z with z | z
    · exact absurd z n102
    · exact absurd z n104
  · rw [e104] at z; revert z; decide
  · rw [e103] at z; revert z; decide
  · rw [e103] at z; revert z; decide
end M79
