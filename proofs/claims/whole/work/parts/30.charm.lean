/-! the class: harm, lengths -/
/-! a library's method that the machine has no entry for -/
theorem WpM.ofF {md : MD} {w : Wd} {mc ms : Nat} {args : List Value} {P : Option Value → Wd → Prop} (hy : plainFor md.1 = true) (hn : (lg_sl args).length ≤ md.2.2.1) (hP : ∀ v w', P v w' → (∀ x, v = some x → nxv x = true) ∧ w'.2.2.length = w.2.2.length + mc ∧ slT w'.2.2 = slT w.2.2 + ms)
    (body : ∀ (X : CX) (Q : State → Prop), Ok X md → (xR X).cells = mc → (xR X).slots = ms → xT X = w.2.2 → (∀ v w', P v w' → RetOK X Q v w') → WW X Q 0 (lv_args 0 args) [] w) : WpM md mc ms args w P := by
  intro l D cA ads sz
  refine va_MetF (cc := md.2.1) (maxL := md.2.2.1) (ret := md.2.2.2.1) hy rfl ?_
  intro p e s m av below meth c s₁ B hml hv
  obtain ⟨rfl, hsz, hPw, hK, hD, hG, hE⟩ := hv
  have hts := atoms_spec (ws := wsM md) B.pre
  subst hsz
  have hlen := hn
  rw [← lg_len 0 ads] at hlen
  have hl := lv_entry (args.map (tv 0 ads)) hlen
  rw [lg_entry_eq]
  rw [lv_args_map, ← hml] at hl
  refine body (p, l, e, (headSpec (wsM md) (rmM md mc ms)).room, s, m, (args.map (tv 0 ads)).toArray, below, meth, c, D, cA, va_A (wl cA ads w) s.heap.size, 0, ads, w.2.2) _ ⟨B.exec, B.bytes, hml, B.returns, findClass_of_methodNamed B.named, fun w hw => hts w (List.mem_cons_of_mem _ hw), B.notSynchronized, hK, fun q h => Or.inr h, rfl, rfl, (name_of_methodNamed B.named B.method).1, hE⟩ rfl rfl rfl (fun v w' hpv => ?_) ads s.heap [] _ 0 0 (by rw [← hml]; exact hl) ⟨hPw, hD.self, va_S.rf, fun _ _ => rfl, rfl, rfl, hG⟩
  intro ads' H locs cells slots hR
  obtain ⟨h1, h2, h3⟩ := hP v w' hpv
  refine ⟨_, mc, ms, _, rfl, ?_, ?_, hR.2.2.1.2.2, fun t ht hW => ⟨⟨v, ads', w', rfl, h1, hpv, hR.2.2.2.1, h2, h3, hR.2.2.2.2.2.2, by rw [ht]; exact hR.1, hR.2.1⟩, hR.2.2.1.F ht⟩⟩
  · have := hR.2.2.2.2.1
    have h9 : w.2.2.length + cells = w'.2.2.length := this
    omega
  · have := hR.2.2.2.2.2.1
    have h9 : slT w.2.2 + slots = slT w'.2.2 := this
    omega
theorem WpI.ofF {md : MD} {args : List Value} {M : Mem} {G : Grf} {T : List (Nat × Nat)} {P : Int32 → Mem → Prop} {L0 : List (Nat × Value)} (hL : lv_args 0 args = L0) (hy : plainFor md.1 = true) (hn : (lg_sl args).length ≤ md.2.2.1) (body : ∀ (X : CX) (Q : State → Prop), Ok0 X md T → (∀ r M', P r M' → RetOK X Q (some (.int r)) (M', G, T)) → WW X Q 0 L0 [] (M, G, T)) : WpI md args M G T P := by
  subst hL
  refine WpM.ofF hy hn ?_ ?_
  · rintro v w' ⟨r, M', rfl, rfl, h⟩
    exact ⟨fun x hx => by cases hx; rfl, rfl, rfl⟩
  · intro X Q C h1 h2 h3 hk
    exact body X Q ⟨C, h3⟩ (fun r M' h => hk _ _ ⟨r, M', rfl, rfl, h⟩)
theorem WpI.to {md : MD} {args : List Value} {M : Mem} {G : Grf} {T : List (Nat × Nat)} {P : Int32 → Mem → Prop} {v : Int32} (h : WpI md args M G T (fun r M' => r = v ∧ M' = M)) (hp : P v M) : WpI md args M G T P := h.imp (by rintro r M' ⟨rfl, rfl⟩; exact hp)
theorem nL {a b : Nat} (h : Nat.ble a b = true := by rfl) : a ≤ b := Nat.le_of_ble_eq_true h
section CH
variable {M : Mem} {G2 : Grf} {T2 : List (Nat × Nat)}
theorem c_max (x y : Int32) : WpI mJ9_max_7cf53 [.int x, .int y] M (gj G2) (TTc ++ T2) (fun r M' => r = (if x < y then y else x) ∧ M' = M) := by
  refine WpI.ofF rfl (by decide +kernel) nL fun X Q C hk => bJ9_max_7cf53_0 C ⟨fun h => hk _ _ ⟨by rw [if_pos h], rfl⟩, fun h => hk _ _ ⟨by rw [if_neg h], rfl⟩⟩
theorem c_min (x y : Int32) : WpI mJ9_min_7cf53 [.int x, .int y] M (gj G2) (TTc ++ T2) (fun r M' => r = (if y < x then y else x) ∧ M' = M) := by
  refine WpI.ofF rfl (by decide +kernel) nL fun X Q C hk => bJ9_min_7cf53_0 C ⟨fun h => hk _ _ ⟨by rw [if_pos h], rfl⟩, fun h => hk _ _ ⟨by rw [if_neg h], rfl⟩⟩
theorem hK_a {k o : Int32} (h : 0 ≤ o) : hK k o = if k = 1 ∧ 0 < o then (if 6 < o then o - 6 else 0) else if k = 3 then (if 2 < o then o - 2 else 0) else o := by
  have h' := i_nlt.mpr h
  simp [hK, h']
theorem hK_b {k o : Int32} (h : o < 0) : hK k o = if k = 2 then 2 * (-o) else if k = 3 then (if 2 < -o then -o - 2 else 0) else -o := by
  have h' : ¬ 0 < o := i_nlt.mpr (i_lt_le h)
  simp [hK, h, h']
theorem c_harmBy (k o : Int32) : WpI mX5_harmBy [.int k, .int o] M (gj G2) (TTc ++ T2) (fun r M' => r = hK k o ∧ M' = M) := by
  refine WpI.of rfl rfl nL fun X Q C hk => bX5_harmBy_0 C ⟨fun h => bX5_harmBy_11 C ?_, fun h => bX5_harmBy_11 C ?_⟩
  · replace hk : ∀ r, r = hK k o → RetOK X Q (some (.int r)) (M, gj G2, TTc ++ T2) := fun r e => hk r M ⟨e, rfl⟩
    rw [hK_a h] at hk
    clear C
    by_cases h1 : k = 1
    · subst h1
      by_cases h0 : 0 < o
      · have h0' := i_nle.mpr h0
        by_cases h6 : 6 < o
        · have h6' := i_nle.mpr h6
          simp [h0, h6, h0', h6'] at hk ⊢
          exact hk
        · have h6' := i_nlt.mp h6
          simp [h0, h6, h0', h6'] at hk ⊢
          exact hk
      · have h0' := i_nlt.mp h0
        simp [h0, h0'] at hk ⊢
        exact hk
    · by_cases h3 : k = 3
      · subst h3
        by_cases h2 : 2 < o
        · have h2' := i_nle.mpr h2
          simp [h2, h2'] at hk ⊢
          exact hk
        · have h2' := i_nlt.mp h2
          simp [h2, h2'] at hk ⊢
          exact hk
      · simp [h1, h3, h] at hk ⊢
        exact ⟨fun _ => hk, fun _ => hk⟩
  · have h' := i_nle.mp h
    replace hk : ∀ r, r = hK k o → RetOK X Q (some (.int r)) (M, gj G2, TTc ++ T2) := fun r e => hk r M ⟨e, rfl⟩
    rw [hK_b h'] at hk
    clear C
    have h0 : o ≤ 0 := i_lt_le h'
    by_cases h1 : k = 2
    · subst h1
      simp [h] at hk ⊢
      exact hk
    · by_cases h3 : k = 3
      · subst h3
        by_cases h2 : 2 < -o
        · have h2' := i_nle.mpr h2
          simp [h2, h2'] at hk ⊢
          exact hk
        · have h2' := i_nlt.mp h2
          simp [h2, h2'] at hk ⊢
          exact hk
      · simp [h1, h3, h0] at hk ⊢
        exact ⟨fun _ => hk, fun _ => hk⟩
end CH
