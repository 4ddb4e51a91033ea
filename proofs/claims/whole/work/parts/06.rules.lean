/-! methods that make no cells: contracts over ints alone -/
def Ok0 (X : CX) (md : MD) (T : List (Nat × Nat)) : Prop := Ok X md ∧ xT X = T
abbrev Mem : Type := Nat → Nat → Int32
abbrev Grf : Type := Nat → Nat → Option Nat
def WpI (md : MD) (args : List Value) (M : Mem) (G : Grf) (T : List (Nat × Nat)) (P : Int32 → Mem → Prop) : Prop := WpM md 0 0 args (M, G, T) (fun v w' => ∃ (r : Int32) (M' : Mem), v = some (.int r) ∧ w' = (M', G, T) ∧ P r M')
def WpV (md : MD) (args : List Value) (M : Mem) (G : Grf) (T : List (Nat × Nat)) (P : Mem → Prop) : Prop := WpM md 0 0 args (M, G, T) (fun v w' => ∃ M' : Mem, v = none ∧ w' = (M', G, T) ∧ P M')
section SPEC
variable {X : CX} {md md' : MD} {Q : State → Prop} {pc : Nat} {L : List (Nat × Value)} {S rest As args : List Value} {M : Mem} {G : Grf} {T : List (Nat × Nat)} {idx n a ci N : Nat}
theorem WpI.of {P : Int32 → Mem → Prop} {L0 : List (Nat × Value)} (hL : lv_args 0 args = L0) (hy : plainName md.1.cls = true) (hn : (lg_sl args).length ≤ md.2.2.1) (body : ∀ (X : CX) (Q : State → Prop), Ok0 X md T → (∀ r M', P r M' → RetOK X Q (some (.int r)) (M', G, T)) → WW X Q 0 L0 [] (M, G, T)) : WpI md args M G T P := by
  subst hL
  refine WpM.of hy hn ?_ ?_
  · rintro v w' ⟨r, M', rfl, rfl, h⟩
    exact ⟨fun x hx => by cases hx; rfl, rfl, rfl⟩
  · intro X Q C h1 h2 h3 hk
    exact body X Q ⟨C, h3⟩ (fun r M' h => hk _ _ ⟨r, M', rfl, rfl, h⟩)
theorem WpV.of {P : Mem → Prop} {L0 : List (Nat × Value)} (hL : lv_args 0 args = L0) (hy : plainName md.1.cls = true) (hn : (lg_sl args).length ≤ md.2.2.1) (body : ∀ (X : CX) (Q : State → Prop), Ok0 X md T → (∀ M', P M' → RetOK X Q none (M', G, T)) → WW X Q 0 L0 [] (M, G, T)) : WpV md args M G T P := by
  subst hL
  refine WpM.of hy hn ?_ ?_
  · rintro v w' ⟨M', rfl, rfl, h⟩
    exact ⟨fun x hx => (by cases hx), rfl, rfl⟩
  · intro X Q C h1 h2 h3 hk
    exact body X Q ⟨C, h3⟩ (fun M' h => hk _ _ ⟨M', rfl, rfl, h⟩)
theorem WpI.imp {P P' : Int32 → Mem → Prop} (h : WpI md args M G T P) (hi : ∀ r M', P r M' → P' r M') : WpI md args M G T P' := WpM.imp h (fun v w' ⟨r, M', h1, h2, h3⟩ => ⟨r, M', h1, h2, hi r M' h3⟩)
theorem WpV.imp {P P' : Mem → Prop} (h : WpV md args M G T P) (hi : ∀ M', P M' → P' M') : WpV md args M G T P' := WpM.imp h (fun v w' ⟨M', h1, h2, h3⟩ => ⟨M', h1, h2, hi M' h3⟩)
theorem ok0_f (C : Ok0 X md T) : (T.length + 0 ≤ (xT X).length + (xR X).cells) ∧ slT T + 0 ≤ slT (xT X) + (xR X).slots := by rw [C.2]; exact ⟨Nat.le_add_right _ _, Nat.le_add_right _ _⟩
theorem ww_vI (C : Ok0 X md T) (f : MFV md' n) (r : RM md md') (hl : Cond.methodLink md.1.cls idx md'.1 ∈ GW) (d : decode md.2.1 pc = .ok (.invokevirtual idx, 3)) (hT : T[a]? = some (ci, N)) (hci : ci < 11) {Tc : u_T} (hcl : vwCl[ci]? = some (md'.1.cls, Tc, N)) (hS : S = As.reverse ++ .ref a :: rest) (hn : As.length = n) (hx : As.all nxv = true) (hc : (rest.map fun v => v.category).sum ≤ 8)
    (hm : WpI md' (.ref a :: As) M G T (fun r M' => WW X Q (pc + 3) L (.int r :: rest) (M', G, T))) : WW X Q pc L S (M, G, T) := by
  refine ww_callV C.1 hm f r hl d hT hci hcl hS hn hx hc (ok0_f C) (Or.inl rfl) ?_
  rintro v w' ⟨r, M', rfl, rfl, h⟩
  exact h
theorem ww_vV (C : Ok0 X md T) (f : MFV md' n) (r : RM md md') (hl : Cond.methodLink md.1.cls idx md'.1 ∈ GW) (d : decode md.2.1 pc = .ok (.invokevirtual idx, 3)) (hT : T[a]? = some (ci, N)) (hci : ci < 11) {Tc : u_T} (hcl : vwCl[ci]? = some (md'.1.cls, Tc, N)) (hS : S = As.reverse ++ .ref a :: rest) (hn : As.length = n) (hx : As.all nxv = true) (hc : (rest.map fun v => v.category).sum ≤ 8)
    (hm : WpV md' (.ref a :: As) M G T (fun M' => WW X Q (pc + 3) L rest (M', G, T))) : WW X Q pc L S (M, G, T) := by
  refine ww_callV C.1 hm f r hl d hT hci hcl hS hn hx hc (ok0_f C) (Or.inl rfl) ?_
  rintro v w' ⟨M', rfl, rfl, h⟩
  exact h
theorem ww_sI (C : Ok0 X md T) (f : MFS md' n) (r : RM md md') (hl : Cond.methodLink md.1.cls idx md'.1 ∈ GW) (d : decode md.2.1 pc = .ok (.invokestatic idx, 3)) (hS : S = As.reverse ++ rest) (hn : As.length = n) (hx : As.all nxv = true) (hc : (rest.map fun v => v.category).sum ≤ 8)
    (hm : WpI md' As M G T (fun r M' => WW X Q (pc + 3) L (.int r :: rest) (M', G, T))) : WW X Q pc L S (M, G, T) := by
  refine ww_callS C.1 hm f r hl d hS hn hx hc (ok0_f C) (Or.inl rfl) ?_
  rintro v w' ⟨r, M', rfl, rfl, h⟩
  exact h
theorem ww_sV (C : Ok0 X md T) (f : MFS md' n) (r : RM md md') (hl : Cond.methodLink md.1.cls idx md'.1 ∈ GW) (d : decode md.2.1 pc = .ok (.invokestatic idx, 3)) (hS : S = As.reverse ++ rest) (hn : As.length = n) (hx : As.all nxv = true) (hc : (rest.map fun v => v.category).sum ≤ 8)
    (hm : WpV md' As M G T (fun M' => WW X Q (pc + 3) L rest (M', G, T))) : WW X Q pc L S (M, G, T) := by
  refine ww_callS C.1 hm f r hl d hS hn hx hc (ok0_f C) (Or.inl rfl) ?_
  rintro v w' ⟨M', rfl, rfl, h⟩
  exact h
theorem ww_nI (C : Ok0 X md T) {host : String} (f : MFS md' n) (r : RM md md') (hl : (md.1.cls, idx, md'.1, host) ∈ NW) (d : decode md.2.1 pc = .ok (.invokestatic idx, 3)) (hS : S = As.reverse ++ rest) (hn : As.length = n) (hx : As.all nxv = true) (hc : (rest.map fun v => v.category).sum ≤ 8)
    (hm : WpI md' As M G T (fun r M' => WW X Q (pc + 3) L (.int r :: rest) (M', G, T))) : WW X Q pc L S (M, G, T) := by
  refine ww_callSN C.1 hm f r hl d hS hn hx hc (ok0_f C) (Or.inl rfl) ?_
  rintro v w' ⟨r, M', rfl, rfl, h⟩
  exact h
theorem ww_acopy {w : Wd} (C : Ok X md) {a0 a1 n0 n1 : Nat} {sp dp n : Int32} (hl : Cond.methodLink md.1.cls idx arraycopyName ∈ GW) (hnat : Cond.native arraycopyName ∈ GW) (hst : Cond.static arraycopyName ∈ GW) (hini : Cond.initialized "java/lang/System" ∈ GW) (d : decode md.2.1 pc = .ok (.invokestatic idx, 3)) (h0 : w.2.2[a0]? = some (20, n0)) (h1 : w.2.2[a1]? = some (20, n1)) (c1 : ¬ sp < 0) (c2 : ¬ dp < 0) (c3 : ¬ n < 0) (c4 : sp.toNatClampNeg + n.toNatClampNeg ≤ n0) (c5 : dp.toNatClampNeg + n.toNatClampNeg ≤ n1) (hfr : 1 ≤ md.2.2.2.2.1) (hlo : (rest.map fun v => v.category).sum + (nativeFrameWords "java/lang/System" "arraycopy" 5 + 11) ≤ md.2.2.2.2.2)
    (k : WW X Q (pc + 3) L rest (wrA w.1 a1 (va_cpy (w.1 a0) (w.1 a1) sp.toNatClampNeg dp.toNatClampNeg n.toNatClampNeg), w.2.1, w.2.2)) : WW X Q pc L (.int n :: .int dp :: .ref a1 :: .int sp :: .ref a0 :: rest) w := by
  intro ads H locs ls cells slots hl' hR
  refine va_copyi (D := xD X) (cl := vwCl) (ty := .int) C.1 C.2.1 hl'.1.symm C.own (C.hts _ hl) (C.hts _ hnat) (C.hts _ hst) (C.hts _ hini) C.K hR.1 hR.2.1 hR.2.2.1 a0 a1 0 0 (wl_get h0) (wl_get h1) rfl rfl rfl c1 c2 c3 c4 c5 (fun _ _ => rfl) (by rw [C.fr]; exact hfr) (by rw [C.lo, sum_cat]; exact hlo) d (fun H1 locs1 hP hD hS => k ads H1 locs1 ls cells slots hl' (hR.putM h1 (fun q hq => wrA_ne hq) ?_ hP hD hS))
  rw [ce_ints, show (wrA w.1 a1 (va_cpy (w.1 a0) (w.1 a1) sp.toNatClampNeg dp.toNatClampNeg n.toNatClampNeg), w.2.1, w.2.2).1 a1 = va_cpy (w.1 a0) (w.1 a1) sp.toNatClampNeg dp.toNatClampNeg n.toNatClampNeg from wrA_eq]
end SPEC
