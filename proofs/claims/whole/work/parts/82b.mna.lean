/-! rows of rows; calls of constructors -/
theorem vr_outer (c : ClassId) (N h0 : Nat) : ∀ i : Nat, Jvm.Free.Multi.outerC c N h0 i = arrV c N (fun j => va_rf (if j < i then some (h0 + 1 + j) else none))
  | 0 => by
    show ({ cls := c, slots := Array.replicate N .null, vm := .none } : Cell) = _
    rw [arrV_new]
    refine congrArg (arrV c N) (funext fun j => ?_)
    simp [va_rf]
  | i + 1 => by
    show (Jvm.Free.Multi.outerC c N h0 i).setSlot i (.ref (h0 + 1 + i)) = _
    rw [vr_outer c N h0 i, arrV_store]
    refine congrArg (arrV c N) (funext fun j => ?_)
    by_cases e : j = i
    · subst e
      simp [updV, va_rf]
    · by_cases h : j < i
      · simp [updV, e, h, Nat.lt_succ_of_lt h]
      · simp [updV, e, h, show ¬ j < i + 1 by omega]
def ad3 (ads : Nat → Nat) (n q : Nat) : Nat → Nat := fun k => if k = n then q else if k = n + 1 then q + 1 else if k = n + 2 then q + 2 else ads k
section MNA
variable {X : CX} {md md' : MD} {Q : State → Prop} {pc : Nat} {L : List (Nat × Value)} {S As rest : List Value} {M : Mem} {G : Grf} {T T0 T' : List (Nat × Nat)} {mc ms : Nat} {w : Wd} {P : Option Value → Wd → Prop} {idx n a mc0 ms0 : Nat}
theorem ww_mna (C : Okn X md T0 mc ms) (hcl : Cond.classLink md.1.cls idx ("[" ++ (FieldType.array .int).toString) ∈ GW) (harr : Cond.arrayClass .int ∈ GW) (d : decode md.2.1 pc = .ok (.multianewarray idx 2, 4)) (hn : T.length = n) (hM : ∀ k, n ≤ k → k < n + 3 → M k = fun _ => 0) (hG : ∀ k, n ≤ k → k < n + 3 → G k = fun _ => none) (hT : T ++ [(22, 2), (20, 7), (20, 7)] = T') (hL : (L.all fun q => refsLt n q.2) = true) (hS : S.all (refsLt n) = true) (hf : (n + 3 ≤ T0.length + mc) ∧ slT T + 16 ≤ slT T0 + ms) (k : WW X Q (pc + 4) L (.ref n :: S) (M, wrG (wrG G n 0 (some (n + 1))) n 1 (some (n + 2)), T')) : WW X Q pc L (.int 7 :: .int 2 :: S) (M, G, T) := by
  obtain ⟨C, eT, ec, es⟩ := C
  subst hn
  subst hT
  subst eT
  intro ads H locs ls cells slots hl hR T1 hT1 Xs
  have hx : (xT X).length + cells = T.length := hR.2.2.2.2.1
  have hy : slT (xT X) + slots = slT T := hR.2.2.2.2.2.1
  have hov : (Cond.arrayOver (.array .int)).before (xa X) (xs X) = true := C.ex.2
  have n2 : (2 : Int32).toNatClampNeg = 2 := by decide
  have n7 : (7 : Int32).toNatClampNeg = 7 := by decide
  obtain ⟨vm₁, cA, comp, -, fA, fC, -, -, X', step⟩ := Xs.multianewarray2F C.1 C.own (C.hts _ hcl) hov (C.hts _ harr) (g := F0 (xm X) pc ls ((Value.int 7 :: Value.int 2 :: S).map (tv (xb X) ads))) rfl (by rw [C.2.1]; exact d) (n := 2) (k := 7) (rest := S.map (tv (xb X) ads)) rfl (by decide) (by decide) (by decide) (by decide) (by decide) rfl rfl (by rw [n2, ec]; omega) (by rw [n2, n7, es]; omega)
  have hc1 : comp = (xC X).1 := Option.some.inj (fC.symm.trans (C.K.2 0 _ rfl).2)
  have hc2 : cA = (xC X).2.2 := Option.some.inj (fA.symm.trans (C.K.2 2 _ rfl).2)
  rw [n2, n7] at X' step
  generalize hF : Jvm.Free.Multi.fill (T1.setVm vm₁) cA comp 2 7 (defaultValue .int) 2 = F at X' step
  have hTh : (T1.setVm vm₁).heap = H := hT1
  obtain ⟨f1, f2, -, -⟩ := Jvm.Free.Multi.fill_facts (T1.setVm vm₁) cA comp 2 7 (defaultValue .int) 2
  rw [hF, hTh] at f1 f2
  have hold : ∀ x : Nat, x < H.size → F.heap[x]? = H[x]? := fun x hx => by
    have := Jvm.Free.Multi.fill_old (T1.setVm vm₁) cA comp 2 7 (defaultValue .int) (a := x) (by rw [hTh]; exact hx) 2
    rw [hF, hTh] at this
    exact this
  have hrow : ∀ j : Nat, j < 2 → F.heap[H.size + 1 + j]? = some (vp_cell (xC X).1 (7, .inl (fun _ => 0))) := fun j hj => by
    have := Jvm.Free.Multi.fill_inner (T1.setVm vm₁) cA comp 2 7 (defaultValue .int) 2 j hj
    rw [hF, hTh] at this
    rw [this, hc1]
    show some (({ cls := (xC X).1, slots := Array.replicate 7 (Value.int 0), vm := .none } : Cell)) = _
    rw [arrV_new]
    rfl
  rw [vr_outer, hc2] at f2
  have h0 : H.size ≤ F.heap.size := by rw [f1]; omega
  have ha : ∀ k, k < T.length → ad3 ads T.length H.size k = ads k := fun k hk => by unfold ad3; rw [if_neg (by omega), if_neg (by omega), if_neg (by omega)]
  have e0 : ad3 ads T.length H.size T.length = H.size := if_pos rfl
  have e1 : ad3 ads T.length H.size (T.length + 1) = H.size + 1 := by unfold ad3; rw [if_neg (by omega), if_pos rfl]
  have e2 : ad3 ads T.length H.size (T.length + 2) = H.size + 2 := by unfold ad3; rw [if_neg (by omega), if_neg (by omega), if_pos rfl]
  let ws2 : va_W := [(H.size, .inl ((xC X).2.2, 2, .inr (.inr (.inr (.inr (fun j => if j < 2 then some (H.size + 1 + j) else none)))))), (H.size + 1, .inl ((xC X).1, 7, .inl (fun _ => 0))), (H.size + 2, .inl ((xC X).1, 7, .inl (fun _ => 0)))]
  have hP2 : va_P (xD X) vwCl ws2 F.heap := fun i q hq => by
    rcases i with _ | _ | _ | i
    · cases hq; exact f2
    · cases hq; exact hrow 0 (by omega)
    · cases hq; exact hrow 1 (by omega)
    · simp [ws2] at hq
  have hP : va_P (xD X) vwCl (wl (xC X) ads (M, G, T) ++ ws2) F.heap := (hR.1.kept (fun k9 x hx => hold x.1 ((hR.1 k9 x hx).lt))).app hP2
  have hge : ∀ i q, ws2[i]? = some q → q.1 = H.size + i ∧ i < 3 := fun i q hq => by
    rcases i with _ | _ | _ | i
    · cases hq; exact ⟨rfl, by omega⟩
    · cases hq; exact ⟨rfl, by omega⟩
    · cases hq; exact ⟨rfl, by omega⟩
    · simp [ws2] at hq
  have hA : ∀ q, H.size ≤ q → xA X q := fun q hq => C.hA q (Nat.le_trans hR.2.2.1.1 hq)
  have hD : va_D (xA X) (wl (xC X) ads (M, G, T) ++ ws2) := va_D.app hR.2.1 ⟨fun i j p q hp hq epq => by have := (hge i p hp).1; have := (hge j q hq).1; omega, fun i q hq => hA _ (by have := (hge i q hq).1; omega)⟩ (fun i j p q hp hq epq => by
    have h1 := (hR.1 i p hp).lt
    have h2 := (hge j q hq).1
    omega)
  have hS2 : va_S (xA X) (xs X).heap F.heap locs := ⟨Nat.le_trans hR.2.2.1.1 h0, fun x h1 h2 => (hold x (Nat.lt_of_lt_of_le h1 hR.2.2.1.1)).trans (hR.2.2.1.2.1 x h1 h2), hR.2.2.1.2.2⟩
  have gk : ∀ k j, k ≠ T.length → wrG (wrG G T.length 0 (some (T.length + 1))) T.length 1 (some (T.length + 2)) k j = G k j := fun k j hk => by unfold wrG; rw [if_neg (fun z => hk z.1), if_neg (fun z => hk z.1)]
  have g0 : ∀ j, wrG (wrG G T.length 0 (some (T.length + 1))) T.length 1 (some (T.length + 2)) T.length j = if j < 2 then some (T.length + 1 + j) else none := fun j => by
    unfold wrG
    rcases j with _ | _ | j
    · simp
    · simp
    · simp [hG T.length (by omega) (by omega)]
  have rl := rl_ext (T2 := [(22, 2), (20, 7), (20, 7)]) (G' := wrG (wrG G T.length 0 (some (T.length + 1))) T.length 1 (some (T.length + 2))) (ads' := ad3 ads T.length H.size) (ws2 := ws2) hR (fun k hk => by
      simp at hk
      unfold ad3
      rw [if_neg (by omega), if_neg (by omega), if_neg (by omega)]) (fun k j hk => gk k j (by omega)) (fun k j a hk h => ?_) ?_ hP hD hS2
  · have k2 := k (ad3 ads T.length H.size) F.heap locs ls (cells + 3) (slots + 16) (by rw [map_ext ha hL]; exact hl) rl F rfl X'
    rw [List.map_cons, map_extS ha hS] at k2
    have e9 : tv (xb X) (ad3 ads T.length H.size) (.ref T.length) = .ref H.size := congrArg Value.ref e0
    rw [e9] at k2
    obtain ⟨t, a1, b1⟩ := k2
    refine ⟨t, step t ?_, b1⟩
    rw [hT1]
    exact a1
  · by_cases z : k = T.length
    · subst z
      rw [g0] at h
      split at h
      · cases h; simp only [List.length_cons, List.length_nil]; omega
      · cases h
    · rw [gk k j z] at h
      have : a < T.length := hR.2.2.2.2.2.2 k j a h
      simp only [List.length_cons, List.length_nil]
      omega
  · show ws2 = [(ad3 ads T.length H.size (0 + T.length), ce (xC X) (ad3 ads T.length H.size) (M, wrG (wrG G T.length 0 (some (T.length + 1))) T.length 1 (some (T.length + 2)), T ++ [(22, 2), (20, 7), (20, 7)]) (0 + T.length) (22, 2)), (ad3 ads T.length H.size (0 + 1 + T.length), ce (xC X) (ad3 ads T.length H.size) (M, wrG (wrG G T.length 0 (some (T.length + 1))) T.length 1 (some (T.length + 2)), T ++ [(22, 2), (20, 7), (20, 7)]) (0 + 1 + T.length) (20, 7)), (ad3 ads T.length H.size (0 + 1 + 1 + T.length), ce (xC X) (ad3 ads T.length H.size) (M, wrG (wrG G T.length 0 (some (T.length + 1))) T.length 1 (some (T.length + 2)), T ++ [(22, 2), (20, 7), (20, 7)]) (0 + 1 + 1 + T.length) (20, 7))]
    rw [show 0 + T.length = T.length by omega, show 0 + 1 + T.length = T.length + 1 by omega, show 0 + 1 + 1 + T.length = T.length + 2 by omega, e0, e1, e2, ce_rows, ce_ints, ce_ints]
    have r : (fun j => ((M, wrG (wrG G T.length 0 (some (T.length + 1))) T.length 1 (some (T.length + 2)), T ++ [(22, 2), (20, 7), (20, 7)]) : Wd).2.1 T.length j |>.map (ad3 ads T.length H.size)) = fun j => if j < 2 then some (H.size + 1 + j) else none := funext fun j => by
      show (wrG (wrG G T.length 0 (some (T.length + 1))) T.length 1 (some (T.length + 2)) T.length j).map _ = _
      rw [g0]
      rcases j with _ | _ | j
      · show some (ad3 ads T.length H.size (T.length + 1)) = _
        rw [e1]; rfl
      · show some (ad3 ads T.length H.size (T.length + 2)) = _
        rw [e2]; rfl
      · rw [if_neg (by omega), if_neg (by omega)]
        rfl
    rw [r]
    show _ = [_, (H.size + 1, Sum.inl ((xC X).1, 7, Sum.inl (M (T.length + 1)))), (H.size + 2, Sum.inl ((xC X).1, 7, Sum.inl (M (T.length + 2))))]
    rw [hM (T.length + 1) (by omega) (by omega), hM (T.length + 2) (by omega) (by omega)]
theorem ww_callI (C : Okn X md T0 mc0 ms0) {host : String} (hm : WpM md' mc ms (.ref a :: As) w P) (f : MFI md' n) (r : RM md md') (hl : (md.1.cls, idx, md'.1, host) ∈ NW) (d : decode md.2.1 pc = .ok (.invokespecial idx, 3)) (hS : S = As.reverse ++ .ref a :: rest) (hn : As.length = n) (hx : As.all nxv = true) (hc : (rest.map fun v => v.category).sum ≤ 8)
    (hf : w.2.2.length + mc ≤ T0.length + mc0 ∧ slT w.2.2 + ms ≤ slT T0 + ms0) (hLS : (L.all fun q => refsLt w.2.2.length q.2) = true ∧ rest.all (refsLt w.2.2.length) = true) (k : ∀ v w', P v w' → WW X Q (pc + 3) L (v.toList ++ rest) w') : WW X Q pc L S w := by
  obtain ⟨C, eT, ec, es⟩ := C
  subst hS
  subst eT
  intro ads H locs ls cells slots hl' hR
  have e0 : As.map (tv 0 ads) = As.map (tv (xb X) ads) := map_nx hx
  have hM := hm X.2.1 (xD X) (xC X) ads H.size
  rw [List.map_cons, e0] at hM
  have hr : md'.2.2.2.1 = none := f.2.2.2
  have cw := callN_M (mc := mc) (ms := ms) C f.1 r hl
  rw [hr] at cw
  refine ww_back C (Or.inr hLS) k hl' hR (va_runIN (As := As.map (tv (xb X) ads)) (b := ads a) (host := host) ⟨C.1, C.2.1, rfl, C.own, C.hts⟩ hM ⟨cw, f.2.2.1, C.hts _ f.2.1⟩ ⟨PB.blind, fun U hU hW => hR.pre C hU hW⟩ rfl (by rw [List.length_map]; exact hn) hl'.1 (by simp [tv]) (lv_room (by rw [sum_cat]; exact hc)) d ⟨?_, ?_⟩)
  · have := hR.2.2.2.2.1; omega
  · have := hR.2.2.2.2.2.1; omega
theorem ww_callJ (C : Okn X md T0 mc0 ms0) (hm : WpM md' mc ms (.ref a :: As) w P) (f : MFI md' n) (r : RM md md') (hl : Cond.methodLink md.1.cls idx md'.1 ∈ GW) (d : decode md.2.1 pc = .ok (.invokespecial idx, 3)) (hS : S = As.reverse ++ .ref a :: rest) (hn : As.length = n) (hx : As.all nxv = true) (hc : (rest.map fun v => v.category).sum ≤ 8)
    (hf : w.2.2.length + mc ≤ T0.length + mc0 ∧ slT w.2.2 + ms ≤ slT T0 + ms0) (hLS : (L.all fun q => refsLt w.2.2.length q.2) = true ∧ rest.all (refsLt w.2.2.length) = true) (k : ∀ v w', P v w' → WW X Q (pc + 3) L (v.toList ++ rest) w') : WW X Q pc L S w := by
  obtain ⟨C, eT, ec, es⟩ := C
  subst hS
  subst eT
  intro ads H locs ls cells slots hl' hR
  have e0 : As.map (tv 0 ads) = As.map (tv (xb X) ads) := map_nx hx
  have hM := hm X.2.1 (xD X) (xC X) ads H.size
  rw [List.map_cons, e0] at hM
  have hr : md'.2.2.2.1 = none := f.2.2.2
  have cw := callB_M (mc := mc) (ms := ms) C f.1 r hl
  rw [hr] at cw
  refine ww_back C (Or.inr hLS) k hl' hR (va_runI (As := As.map (tv (xb X) ads)) (b := ads a) ⟨C.1, C.2.1, rfl, C.own, C.hts⟩ hM ⟨cw, f.2.2.1, C.hts _ f.2.1⟩ ⟨PB.blind, fun U hU hW => hR.pre C hU hW⟩ rfl (by rw [List.length_map]; exact hn) hl'.1 (by simp [tv]) (lv_room (by rw [sum_cat]; exact hc)) d ⟨?_, ?_⟩)
  · have := hR.2.2.2.2.1; omega
  · have := hR.2.2.2.2.2.1; omega
end MNA
