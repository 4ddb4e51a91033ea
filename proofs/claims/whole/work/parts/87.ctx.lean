/-! contracts of those that read the one text; the class's two inns under other numbers -/
def tx67 : String := "b60;b72;g66,0,0;g60,0,0;g75,0,0;h0,1;h0,2;"
def PBS (K Vv : Nat) (D : va_G) (cA : ClassId × ClassId × ClassId) (ads : Nat → Nat) (w : Wd) (sz : Nat) (U : State) : Prop := PB D cA ads w sz U ∧ SS K Vv (va_A (wl cA ads w) sz) U U.heap ∧ vk_R RX9 65 tx67 K U
def WpS (K Vv : Nat) (md : MD) (mc ms : Nat) (args : List Value) (w : Wd) (P : Option Value → Wd → Prop) : Prop :=
  ∀ (l : Launch) (D : va_G) (cA : ClassId × ClassId × ClassId) (ads : Nat → Nat) (sz : Nat), Met l md.1 (wsM md) (rmM md mc ms) (va_Pc (args.map (tv 0 ads)) (PBS K Vv D cA ads w sz)) (QM D cA ads w sz mc ms P) mc ms (va_A (wl cA ads w) sz)
theorem PBS.blind {K Vv : Nat} {D : va_G} {cA : ClassId × ClassId × ClassId} {ads : Nat → Nat} {w : Wd} {sz : Nat} {av : List Value} : FrameBlind (va_Pc av (PBS K Vv D cA ads w sz)) := by
  intro a U g mk q
  obtain ⟨q0, q1, q2, q3⟩ := q
  exact ⟨q0, (PB.blind (av := a.toList) a U g mk ⟨by simp, q1⟩).2, SS.moved (u := U) (U := U.calling g mk a) (Vm.Alike.refl U.vm) q2, q3.same rfl⟩
section WS
variable {X : CX} {md md' : MD} {Q : State → Prop} {pc : Nat} {L : List (Nat × Value)} {S As rest : List Value} {M : Mem} {G G' : Grf} {T T0 : List (Nat × Nat)} {mc ms : Nat} {w : Wd} {P : Option Value → Wd → Prop} {idx n a mc0 ms0 K Vv : Nat}
theorem WpS.of {args : List Value} (hy : plainName md.1.cls = true) (hn : (lg_sl args).length ≤ md.2.2.1) (hx : args.all nxv = true) (hP : ∀ v w', P v w' → v = none ∧ w'.2.2.length = w.2.2.length + mc ∧ slT w'.2.2 = slT w.2.2 + ms)
    (body : ∀ (X : CX) (Q : State → Prop), Ok X md → (xR X).cells = mc → (xR X).slots = ms → xT X = w.2.2 → xb X = K → SS K Vv (xA X) (xs X) (xs X).heap → vk_R RX9 65 tx67 K (xs X) → (∀ v w', P v w' → RetOK X Q v w') → WW X Q 0 (lv_args 0 args) [] w) : WpS K Vv md mc ms args w P := by
  intro l D cA ads sz
  refine Met.ofW (cc := md.2.1) (maxL := md.2.2.1) (ret := md.2.2.2.1) hy rfl ?_
  intro p e s m av below meth c s₁ B hml hv
  obtain ⟨rfl, ⟨hsz, hPw, hK, hD, hG, hE⟩, hS, hR67⟩ := hv
  have hts := atoms_spec (ws := wsM md) B.pre
  subst hsz
  have hlen := hn
  rw [← lg_len 0 ads] at hlen
  have hl := lv_entry (args.map (tv 0 ads)) hlen
  rw [lg_entry_eq]
  rw [map_nx (b := 0) (b' := K) (ads := ads) hx] at hl ⊢
  rw [lv_args_map, ← hml] at hl
  refine body (p, l, e, (headSpec (wsM md) (rmM md mc ms)).room, s, m, (args.map (tv K ads)).toArray, below, meth, c, D, cA, va_A (wl cA ads w) s.heap.size, K, ads, w.2.2) _ ⟨B.exec, B.bytes, hml, B.returns, findClass_of_methodNamed B.named, fun w hw => ?_, B.notSynchronized, hK, fun q h => Or.inr h, rfl, rfl, (name_of_methodNamed B.named B.method).1, hE⟩ rfl rfl rfl rfl hS hR67 (fun v w' hpv => ?_) ads s.heap [] _ 0 0 (by rw [← hml]; exact hl) ⟨hPw, hD.self, va_S.rf, fun _ _ => rfl, rfl, rfl, hG⟩
  · have := hts w (List.mem_cons_of_mem _ hw)
    rw [map_nx (b := 0) (b' := K) (ads := ads) hx] at this
    exact this
  intro ads' H locs cells slots hR
  obtain ⟨h1, h2, h3⟩ := hP v w' hpv
  subst h1
  refine ⟨_, mc, ms, _, rfl, ?_, ?_, hR.2.2.1.2.2, fun t ht hW => ⟨⟨none, ads', w', rfl, fun x hx => (by cases hx), hpv, hR.2.2.2.1, h2, h3, hR.2.2.2.2.2.2, by rw [ht]; exact hR.1, hR.2.1⟩, hR.2.2.1.F ht⟩⟩
  · have := hR.2.2.2.2.1
    have h9 : w.2.2.length + cells = w'.2.2.length := this
    omega
  · have := hR.2.2.2.2.2.1
    have h9 : slT w.2.2 + slots = slT w'.2.2 := this
    omega
theorem ww_callJS (C : Okn X md T0 mc0 ms0) (hs : SS K Vv (xA X) (xs X) (xs X).heap) (h67 : vk_R RX9 65 tx67 K (xs X)) (hm : WpS K Vv md' mc ms (.ref a :: As) w P) (f : MFI md' n) (r : RM md md') (hl : Cond.methodLink md.1.cls idx md'.1 ∈ GW) (d : decode md.2.1 pc = .ok (.invokespecial idx, 3)) (hS : S = As.reverse ++ .ref a :: rest) (hn : As.length = n) (hx : As.all nxv = true) (hc : (rest.map fun v => v.category).sum ≤ 8)
    (hf : w.2.2.length + mc ≤ T0.length + mc0 ∧ slT w.2.2 + ms ≤ slT T0 + ms0) (hLS : (L.all fun q => refsLt w.2.2.length q.2) = true ∧ rest.all (refsLt w.2.2.length) = true) (k : ∀ v w', P v w' → WW X Q (pc + 3) L (v.toList ++ rest) w') : WW X Q pc L S w := by
  obtain ⟨C, eT, ec, es⟩ := C
  subst hS
  subst eT
  intro ads H locs ls cells slots hl' hR
  have e0 : As.map (tv 0 ads) = As.map (tv (xb X) ads) := map_nx hx
  have hM := hm X.2.1 (xD X) (xC X) ads H.size
  rw [List.map_cons, e0] at hM
  have hr : md'.2.2.2.1 = none := f.2.2.2
  have cw := callB_M (mc := mc) (ms := ms) C f.1 r hl
  rw [hr] at cw
  have hfree : ∀ q, va_A (wl (xC X) ads w) H.size q → xA X q := by
    intro q h
    rcases h with ⟨i, e, h⟩ | h
    · exact hR.2.1.2 i (q, e) h
    · exact C.hA q (Nat.le_trans hR.2.2.1.1 h)
  refine ww_back C (Or.inr hLS) k hl' hR (va_runI (As := As.map (tv (xb X) ads)) (b := ads a) ⟨C.1, C.2.1, rfl, C.own, C.hts⟩ hM ⟨cw, f.2.2.1, C.hts _ f.2.1⟩ ⟨PBS.blind, fun U hU hW => ⟨rfl, (hR.pre C (av := []) hU hW).2, ?_, h67.warm hW⟩⟩ rfl (by rw [List.length_map]; exact hn) hl'.1 (by simp [tv]) (lv_room (by rw [sum_cat]; exact hc)) d ⟨?_, ?_⟩)
  · rw [hU]
    exact ((hs.kept hR.2.2.1.2.1).narrow hfree).moved hW.alike
  · have := hR.2.2.2.2.1; omega
  · have := hR.2.2.2.2.2.1; omega
theorem ww_ldcS (C : Ok X md) (eb : xb X = K) (ho : md.1.cls = RX9) (h67 : vk_R RX9 65 tx67 K (xs X)) (d : decode md.2.1 pc = .ok (.ldc 65, 2)) (k : WW X Q (pc + 2) L (.retAddr 0 :: S) w) : WW X Q pc L S w := by
  intro ads H locs ls cells slots hl hR
  have own := C.own
  rw [ho] at own
  refine va_ldcS C.1 C.2.1 own h67 d ?_
  have := k ads H locs ls cells slots hl hR
  rw [List.map_cons, show tv (xb X) ads (.retAddr 0) = .ref K from congrArg Value.ref eb] at this
  exact this
theorem ww_strV (C : Ok X md) {r : Int32} (eb : xb X = K) (hs : SS K Vv (xA X) (xs X) (xs X).heap) (hM : ∀ l, MJ l md' K Vv (.ref K :: As) (some (.int r))) (hcls : md'.1.cls = "java/lang/String") (f : MFV md' n) (hr : RM md md') (hl : Cond.methodLink md.1.cls idx md'.1 ∈ GW) (d : decode md.2.1 pc = .ok (.invokevirtual idx, 3)) (hS : S = As.reverse ++ .retAddr 0 :: rest) (hA : ∀ ads, As.map (tv (xb X) ads) = As) (hn : As.length = n) (hc : (rest.map fun v => v.category).sum ≤ 8) (hf : w.2.2.length ≤ (xT X).length + (xR X).cells ∧ slT w.2.2 ≤ slT (xT X) + (xR X).slots) (k : WW X Q (pc + 3) L (.int r :: rest) w) : WW X Q pc L S w := by
  subst hS
  intro ads H locs ls cells slots hl' hR
  have hx := hR.2.2.2.2.1
  have hy := hR.2.2.2.2.2.1
  refine j_callV (As := As) (rest := rest.map (tv (xb X) ads)) C.1 C.2.1 C.own C.hts (hM _) hcls f ⟨by rw [C.fr]; exact hr.1, by rw [C.lo]; exact hr.2⟩ hl hs hR.2.2.1 hl'.1 hn (by rw [sum_cat]; exact hc) ⟨by omega, by omega⟩ ?_ d (k ads H locs ls cells slots hl' hR)
  rw [List.map_append, List.map_cons, List.map_reverse, hA, show tv (xb X) ads (.retAddr 0) = .ref K from congrArg Value.ref eb]
theorem ww_congG (h : ∀ k, G' k = G k) (k : WW X Q pc L S (M, G', T)) : WW X Q pc L S (M, G, T) := by
  have e : G' = G := funext h
  subst e
  exact k
end WS
/-! the two inns -/
theorem pgl : ∀ k, k < 57 → k ≠ 0 → (GGc.getD k []).map (Option.map pi2) = GGc.getD (pi2 k) [] := by decide +kernel
theorem pg0 (j : Nat) (h7 : j ≠ 7) (h8 : j ≠ 8) : ((GGc.getD 0 []).getD j none).map pi2 = (GGc.getD 0 []).getD j none := by
  rcases j with _ | _ | _ | _ | _ | _ | _ | _ | _ | j <;> first | rfl | exact absurd rfl h7 | exact absurd rfl h8
theorem pi2_lt {k : Nat} : pi2 k < 57 ↔ k < 57 := by unfold pi2; split <;> (try split) <;> omega
theorem pi2_0 {k : Nat} : pi2 k = 0 ↔ k = 0 := by unfold pi2; split <;> (try split) <;> omega
theorem pgz {G2 : Grf} {ga gb : Nat} (h2 : ∀ k j a, 57 ≤ k → G2 k j = some a → 57 ≤ a) (k j : Nat) : (gz ga gb G2 k j).map pi2 = gz (pi2 ga) (pi2 gb) G2 (pi2 k) j := by
  unfold gz
  by_cases h7 : k = 0 ∧ j = 7
  · rw [if_pos h7, if_pos ⟨pi2_0.mpr h7.1, h7.2⟩]; rfl
  · have h7' : ¬ (pi2 k = 0 ∧ j = 7) := fun z => h7 ⟨pi2_0.mp z.1, z.2⟩
    rw [if_neg h7, if_neg h7']
    by_cases h8 : k = 0 ∧ j = 8
    · rw [if_pos h8, if_pos ⟨pi2_0.mpr h8.1, h8.2⟩]; rfl
    · have h8' : ¬ (pi2 k = 0 ∧ j = 8) := fun z => h8 ⟨pi2_0.mp z.1, z.2⟩
      rw [if_neg h8, if_neg h8']
      unfold gj
      by_cases hk : k < 57
      · rw [if_pos hk, if_pos (pi2_lt.mpr hk)]
        by_cases k0 : k = 0
        · subst k0
          exact pg0 j (fun z => h7 ⟨rfl, z⟩) (fun z => h8 ⟨rfl, z⟩)
        · rw [← pgl k hk k0]
          generalize GGc.getD k [] = l
          rw [List.getD_eq_getElem?_getD, List.getD_eq_getElem?_getD, List.getElem?_map]
          cases l[j]? with
          | none => rfl
          | some o => rfl
      · rw [if_neg hk, if_neg (fun z => hk (pi2_lt.mp z)), pi2_o (k := k) (by omega)]
        cases e : G2 k j with
        | none => rfl
        | some a =>
          show some (pi2 a) = some a
          rw [pi2_o (by have := h2 k j a (by omega) e; omega)]
theorem ptT (T2 : List (Nat × Nat)) (k : Nat) : (TTc ++ T2)[pi2 k]? = (TTc ++ T2)[k]? := by
  by_cases hk : k < 57
  · have h : ∀ k, k < 57 → TTc[pi2 k]? = TTc[k]? := by decide +kernel
    rw [List.getElem?_append_left (show pi2 k < TTc.length from pi2_lt.mpr hk), List.getElem?_append_left (show k < TTc.length from hk)]
    exact h k hk
  · rw [pi2_o (by omega)]
