/-! contracts over the numbered world; calls; answers -/
theorem ao_vm {u U : State} (h : u.vm = U.vm) (e : (Cond.arrayOver (.array .int)).before #[] u = true) : (Cond.arrayOver (.array .int)).before #[] U = true := by
  have e1 : (Cond.arrayOver (.array .int)).before #[] (u.setVm U.vm) = (Cond.arrayOver (.array .int)).before #[] (U.setVm U.vm) := rfl
  have h1 : u.setVm U.vm = u := by rw [← h]; rfl
  have h2 : U.setVm U.vm = U := rfl
  rw [h1, h2] at e1
  rw [← e1]
  exact e
theorem Ex.same {u U : State} (h : u.vm = U.vm) (e : Ex u) : Ex U := ⟨fun q hq => va_Nw.same rfl h (e.1 q hq), ao_vm h e.2⟩
theorem Ex.warm {s U : State} (hW : s.WarmedH U.vm) (e : Ex s) : Ex U := ⟨fun q hq => va_Nw.warmM hW (e.1 q hq), ao_vm (rfl : (s.setVm U.vm).vm = U.vm) (by rw [Cond.arrayOver_setVmC hW.alike]; exact e.2)⟩
def PB (D : va_G) (cA : ClassId × ClassId × ClassId) (ads : Nat → Nat) (w : Wd) (sz : Nat) (U : State) : Prop := U.heap.size = sz ∧ va_P D vwCl (wl cA ads w) U.heap ∧ va_K D vwCl (tysA cA) U ∧ va_D (fun _ => True) (wl cA ads w) ∧ Gwf w ∧ Ex U
def QM (D : va_G) (cA : ClassId × ClassId × ClassId) (ads : Nat → Nat) (w : Wd) (sz mc ms : Nat) (P : Option Value → Wd → Prop) : Array Value → State → Outcome → State → Prop := fun _ st o t =>
  (∃ (v : Option Value) (ads' : Nat → Nat) (w' : Wd), o = .returned (v.map (tv 0 ads')) ∧ (∀ x, v = some x → nxv x = true) ∧ P v w' ∧ (∀ k, (k < w.2.2.length ∨ w'.2.2.length ≤ k) → ads' k = ads k) ∧ w'.2.2.length = w.2.2.length + mc ∧ slT w'.2.2 = slT w.2.2 + ms ∧ Gwf w' ∧ va_P D vwCl (wl cA ads' w') t.heap ∧ va_D (va_A (wl cA ads w) sz) (wl cA ads' w')) ∧ va_F (va_A (wl cA ads w) sz) st t
/-- the method's contract: from the world w, with these arguments, it comes back with P of its answer and the world behind it; mc cells of ms slots are new -/
def WpM (md : MD) (mc ms : Nat) (args : List Value) (w : Wd) (P : Option Value → Wd → Prop) : Prop :=
  ∀ (l : Launch) (D : va_G) (cA : ClassId × ClassId × ClassId) (ads : Nat → Nat) (sz : Nat), Met l md.1 (wsM md) (rmM md mc ms) (va_Pc (args.map (tv 0 ads)) (PB D cA ads w sz)) (QM D cA ads w sz mc ms P) mc ms (va_A (wl cA ads w) sz)
theorem PB.blind {D : va_G} {cA : ClassId × ClassId × ClassId} {ads : Nat → Nat} {w : Wd} {sz : Nat} {av : List Value} : FrameBlind (va_Pc av (PB D cA ads w sz)) := by
  intro a U g mk q
  obtain ⟨q0, q1, qP, qK, qD, qG, qE⟩ := q
  exact ⟨q0, q1, qP, va_K.moved (u := U) (U := U.calling g mk a) (Vm.Alike.refl U.vm) qK, qD, qG, qE.same rfl⟩
def refsLt (n : Nat) (v : Value) : Bool := match v with
  | .ref a => decide (a < n)
  | _ => true
theorem tv_cong {b n : Nat} {ads ads' : Nat → Nat} (h : ∀ k, k < n → ads' k = ads k) {v : Value} (hv : refsLt n v = true) : tv b ads' v = tv b ads v := by
  cases v with
  | ref a => exact congrArg Value.ref (h a (by simpa [refsLt] using hv))
  | _ => rfl
theorem tv_nx {b b' : Nat} {ads : Nat → Nat} {v : Value} (h : nxv v = true) : tv b ads v = tv b' ads v := by
  cases v with
  | retAddr a => simp [nxv] at h
  | _ => rfl
theorem map_nx {b b' : Nat} {ads : Nat → Nat} {vs : List Value} (h : vs.all nxv = true) : vs.map (tv b ads) = vs.map (tv b' ads) := by
  apply List.map_congr_left
  intro v hv
  exact tv_nx (List.all_eq_true.mp h v hv)
section CALL
variable {X : CX} {md md' : MD} {Q : State → Prop} {pc : Nat} {L : List (Nat × Value)} {S rest As : List Value} {w : Wd} {mc ms idx n a : Nat} {P : Option Value → Wd → Prop}
/-- behind a call: whatever way it was entered -/
theorem ww_back (C : Ok X md) (hLS : mc = 0 ∨ ((L.all fun q => refsLt w.2.2.length q.2) = true ∧ rest.all (refsLt w.2.2.length) = true))
    (k : ∀ v w', P v w' → WW X Q (pc + 3) L (v.toList ++ rest) w') {ads : Nat → Nat} {H : Heap} {locs : List Loc} {ls : Array Slot} {cells slots : Nat} {a : Array Value} {st0 : List Value} (hl : lv_has ls (xc X).maxLocals (L.map (tq (xb X) ads))) (hR : Rl X ads w H locs cells slots)
    (hr : va_Run X.1 X.2.1 X.2.2.1 (xR X) (xs X) (xm X) (xa X) (xw X) (xh X) (xc X) H locs cells slots mc ms (F0 (xm X) pc ls st0) (rest.map (tv (xb X) ads)) (QM (xD X) (xC X) ads w H.size mc ms P a) (va_A (wl (xC X) ads w) H.size)) :
    W X.1 X.2.1 X.2.2.1 (xR X) (xs X) (xm X) (xa X) (xw X) (xh X) (xc X) H locs cells slots Q (F0 (xm X) pc ls st0) := by
  intro T hT Z
  obtain ⟨v, st₀, t, T', L', h0, Z', hL, e1, e2, ⟨⟨v', ads', w', hv, hnx, hP, hx, hn, hs, hG, hPw, hD⟩, hz, hk⟩, st⟩ := hr T hT Z
  have hfree : ∀ q, va_A (wl (xC X) ads w) H.size q → xA X q := by
    intro q h
    rcases h with ⟨i, e, h⟩ | h
    · exact hR.2.1.2 i (q, e) h
    · exact C.hA q (Nat.le_trans hR.2.2.1.1 h)
  rw [h0] at hz hk
  have hnT : (xT X).length ≤ w.2.2.length := by have := hR.2.2.2.2.1; omega
  have hle : w.2.2.length ≤ w'.2.2.length := by omega
  have hR' : Rl X ads' w' T'.heap (locs ++ L') (cells + mc) (slots + ms) := by
    refine ⟨by rw [e1]; exact hPw, hD.weaken (fun i q _ h => hfree q.1 h), ⟨Nat.le_trans hR.2.2.1.1 (by rw [e1]; exact hz), fun q h1 h2 => ?_, fun q hq => ?_⟩, fun i hi => ?_, ?_, ?_, hG⟩
    · rw [e1, hk q (Nat.lt_of_lt_of_le h1 hR.2.2.1.1) (fun z => h2 (hfree q z))]
      exact hR.2.2.1.2.1 q h1 h2
    · rcases List.mem_append.mp hq with h | h
      · exact hR.2.2.1.2.2 q h
      · exact hfree _ (hL q h)
    · rcases hi with hi | hi
      · rw [hx i (Or.inl (by omega)), hR.2.2.2.1 i (Or.inl hi)]
      · rw [hx i (Or.inr hi), hR.2.2.2.1 i (Or.inr (by omega))]
    · have := hR.2.2.2.2.1; omega
    · have := hR.2.2.2.2.2.1; omega
  have hall : (∀ q ∈ L, tv (xb X) ads' q.2 = tv (xb X) ads q.2) ∧ ∀ u ∈ rest, tv (xb X) ads' u = tv (xb X) ads u := by
    rcases hLS with rfl | ⟨h1, h2⟩
    · have he : ads' = ads := funext fun i => hx i (by omega)
      subst he
      exact ⟨fun _ _ => rfl, fun _ _ => rfl⟩
    · exact ⟨fun q hq => tv_cong (fun i hi => hx i (Or.inl hi)) (List.all_eq_true.mp h1 q hq), fun u hu => tv_cong (fun i hi => hx i (Or.inl hi)) (List.all_eq_true.mp h2 u hu)⟩
  have hLe : L.map (tq (xb X) ads') = L.map (tq (xb X) ads) := List.map_congr_left fun q hq => by
    show (q.1, tv (xb X) ads' q.2) = (q.1, tv (xb X) ads q.2)
    rw [hall.1 q hq]
  have hSe : rest.map (tv (xb X) ads') = rest.map (tv (xb X) ads) := List.map_congr_left hall.2
  have hvv : v = v'.map (tv 0 ads') := by injection hv
  have hst : v.toList ++ rest.map (tv (xb X) ads) = (v'.toList ++ rest).map (tv (xb X) ads') := by
    rw [List.map_append, hSe, hvv]
    cases v' with
    | none => rfl
    | some x => exact congrArg (fun z => z :: rest.map (tv (xb X) ads)) (tv_nx (hnx x rfl))
  obtain ⟨t2, a1, b1⟩ := k v' w' hP ads' T'.heap (locs ++ L') ls (cells + mc) (slots + ms) (by rw [hLe]; exact hl) hR' T' rfl Z'
  refine ⟨t2, st t2 ?_, b1⟩
  rw [hst]
  exact a1
/-- what a callee's words and room ask -/
def MF (md' : MD) (n : Nat) : Prop := Cond.code md'.1 md'.2.1 md'.2.2.1 md'.2.2.2.1 ∈ GW ∧ Cond.initialized md'.1.cls ∈ GW ∧ (md'.1.cls ≠ "java/lang/invoke/MethodHandle" ∧ md'.1.cls ≠ "java/lang/invoke/VarHandle") ∧ (parseMethodDescriptor md'.1.desc).map (fun d => d.parameters.length) = some n
def MFV (md' : MD) (n : Nat) : Prop := MF md' n ∧ Cond.instanceMethod md'.1 ∈ GW ∧ Cond.selects md'.1.cls md'.1 md'.1 ∈ GW
def MFS (md' : MD) (n : Nat) : Prop := MF md' n ∧ Cond.static md'.1 ∈ GW
def MFI (md' : MD) (n : Nat) : Prop := MF md' n ∧ Cond.instanceMethod md'.1 ∈ GW ∧ md'.1.name = "<init>" ∧ md'.2.2.2.1 = none
def RM (md md' : MD) : Prop := md'.2.2.2.2.1 + 1 ≤ md.2.2.2.2.1 ∧ 8 + (md'.2.2.1 + 11) + md'.2.2.2.2.2 ≤ md.2.2.2.2.2
theorem wsM_good (h : Cond.code md'.1 md'.2.1 md'.2.2.1 md'.2.2.2.1 ∈ GW) : GoodIn GW (wsM md') := fun w hw => by
  rcases List.mem_cons.mp hw with rfl | hw
  · exact GW_good _ h
  · exact GW_good _ hw
theorem callB_M (C : Ok X md) (f : MF md' n) (r : RM md md') (hl : Cond.methodLink md.1.cls idx md'.1 ∈ GW) : CallB (xR X) (xs X) (xa X) md.1.cls idx md'.1 md'.2.1 md'.2.2.1 md'.2.2.2.1 (wsM md') (rmM md' mc ms) mc ms n :=
  callB_of n C.hts (wsM_good f.1) rfl rfl rfl (C.hts _ f.2.1) (C.hts _ hl) ⟨f.2.2.1.1, f.2.2.1.2, f.2.2.2⟩ ⟨by rw [C.fr]; exact r.1, by rw [C.lo]; exact r.2⟩
theorem callN_M (C : Ok X md) {host : String} (f : MF md' n) (r : RM md md') (hl : (md.1.cls, idx, md'.1, host) ∈ NW) : va_CN (xR X) (xs X) (xa X) md.1.cls idx md'.1 host md'.2.1 md'.2.2.1 md'.2.2.2.1 (wsM md') (rmM md' mc ms) mc ms n :=
  va_cnB n C.hts (wsM_good f.1) rfl rfl rfl (C.ex.1 _ hl) (C.hts _ f.2.1) ⟨f.2.2.1.1, f.2.2.1.2, f.2.2.2⟩ ⟨by rw [C.fr]; exact r.1, by rw [C.lo]; exact r.2⟩
theorem Rl.pre (C : Ok X md) {ads : Nat → Nat} {H : Heap} {locs : List Loc} {cells slots : Nat} (hR : Rl X ads w H locs cells slots) {av : List Value} {U : State} (hU : U.heap = H) (hW : (xs X).WarmedH U.vm) : va_Pc av (PB (xD X) (xC X) ads w H.size) av.toArray U :=
  ⟨rfl, by rw [hU], by rw [hU]; exact hR.1, va_K.moved hW.alike C.K, hR.2.1.weaken (fun _ _ _ _ => trivial), hR.2.2.2.2.2.2, C.ex.warm hW⟩
theorem sum_cat (b : Nat) (ads : Nat → Nat) (vs : List Value) : ((vs.map (tv b ads)).map fun v => v.category).sum = (vs.map fun v => v.category).sum := by
  rw [List.map_map]
  exact congrArg List.sum (List.map_congr_left fun v _ => tv_cat b ads v)
/-- an object's method -/
theorem ww_callV (C : Ok X md) (hm : WpM md' mc ms (.ref a :: As) w P) (f : MFV md' n) (r : RM md md') (hl : Cond.methodLink md.1.cls idx md'.1 ∈ GW) (d : decode md.2.1 pc = .ok (.invokevirtual idx, 3)) {ci N : Nat} {T : u_T} (hT : w.2.2[a]? = some (ci, N)) (hci : ci < 11) (hcl : vwCl[ci]? = some (md'.1.cls, T, N)) (hS : S = As.reverse ++ .ref a :: rest) (hn : As.length = n) (hx : As.all nxv = true) (hc : (rest.map fun v => v.category).sum ≤ 8)
    (hf : w.2.2.length + mc ≤ (xT X).length + (xR X).cells ∧ slT w.2.2 + ms ≤ slT (xT X) + (xR X).slots) (hLS : mc = 0 ∨ ((L.all fun q => refsLt w.2.2.length q.2) = true ∧ rest.all (refsLt w.2.2.length) = true)) (k : ∀ v w', P v w' → WW X Q (pc + 3) L (v.toList ++ rest) w') : WW X Q pc L S w := by
  subst hS
  intro ads H locs ls cells slots hl' hR
  have he := wl_get (cA := xC X) (ads := ads) hT
  rw [ce_obj hci] at he
  have e0 : As.map (tv 0 ads) = As.map (tv (xb X) ads) := map_nx hx
  have hM := hm X.2.1 (xD X) (xC X) ads H.size
  rw [List.map_cons, e0] at hM
  refine ww_back C hLS k hl' hR (va_runV (As := As.map (tv (xb X) ads)) (b := ads a) (C := md'.1.cls) ⟨C.1, C.2.1, rfl, C.own, C.hts⟩ hM ⟨callB_M C f.1 r hl, C.hts _ f.2.1, C.hts _ f.2.2⟩ ⟨PB.blind, va_recv C.K hR.1 hcl he, fun U hU hW => hR.pre C hU hW⟩ rfl (by rw [List.length_map]; exact hn) hl'.1 (by simp [tv]) (lv_room (by rw [sum_cat]; exact hc)) d ⟨?_, ?_⟩)
  · have := hR.2.2.2.2.1; omega
  · have := hR.2.2.2.2.2.1; omega
/-- a class's method -/
theorem ww_callS (C : Ok X md) (hm : WpM md' mc ms As w P) (f : MFS md' n) (r : RM md md') (hl : Cond.methodLink md.1.cls idx md'.1 ∈ GW) (d : decode md.2.1 pc = .ok (.invokestatic idx, 3)) (hS : S = As.reverse ++ rest) (hn : As.length = n) (hx : As.all nxv = true) (hc : (rest.map fun v => v.category).sum ≤ 8)
    (hf : w.2.2.length + mc ≤ (xT X).length + (xR X).cells ∧ slT w.2.2 + ms ≤ slT (xT X) + (xR X).slots) (hLS : mc = 0 ∨ ((L.all fun q => refsLt w.2.2.length q.2) = true ∧ rest.all (refsLt w.2.2.length) = true)) (k : ∀ v w', P v w' → WW X Q (pc + 3) L (v.toList ++ rest) w') : WW X Q pc L S w := by
  subst hS
  intro ads H locs ls cells slots hl' hR
  have e0 : As.map (tv 0 ads) = As.map (tv (xb X) ads) := map_nx hx
  have hM := hm X.2.1 (xD X) (xC X) ads H.size
  rw [e0] at hM
  refine ww_back C hLS k hl' hR (va_runS (As := As.map (tv (xb X) ads)) ⟨C.1, C.2.1, rfl, C.own, C.hts⟩ hM ⟨callB_M C f.1 r hl, C.hts _ f.2⟩ ⟨PB.blind, fun U hU hW => hR.pre C hU hW⟩ rfl (by rw [List.length_map]; exact hn) hl'.1 (by simp) (lv_room (by rw [sum_cat]; exact hc)) d ⟨?_, ?_⟩)
  · have := hR.2.2.2.2.1; omega
  · have := hR.2.2.2.2.2.1; omega
/-- a nest mate's private class method -/
theorem ww_callSN (C : Ok X md) {host : String} (hm : WpM md' mc ms As w P) (f : MFS md' n) (r : RM md md') (hl : (md.1.cls, idx, md'.1, host) ∈ NW) (d : decode md.2.1 pc = .ok (.invokestatic idx, 3)) (hS : S = As.reverse ++ rest) (hn : As.length = n) (hx : As.all nxv = true) (hc : (rest.map fun v => v.category).sum ≤ 8)
    (hf : w.2.2.length + mc ≤ (xT X).length + (xR X).cells ∧ slT w.2.2 + ms ≤ slT (xT X) + (xR X).slots) (hLS : mc = 0 ∨ ((L.all fun q => refsLt w.2.2.length q.2) = true ∧ rest.all (refsLt w.2.2.length) = true)) (k : ∀ v w', P v w' → WW X Q (pc + 3) L (v.toList ++ rest) w') : WW X Q pc L S w := by
  subst hS
  intro ads H locs ls cells slots hl' hR
  have e0 : As.map (tv 0 ads) = As.map (tv (xb X) ads) := map_nx hx
  have hM := hm X.2.1 (xD X) (xC X) ads H.size
  rw [e0] at hM
  refine ww_back C hLS k hl' hR (va_runSN (As := As.map (tv (xb X) ads)) (host := host) ⟨C.1, C.2.1, rfl, C.own, C.hts⟩ hM ⟨callN_M C f.1 r hl, C.hts _ f.2, trivial⟩ ⟨PB.blind, fun U hU hW => hR.pre C hU hW⟩ rfl (by rw [List.length_map]; exact hn) hl'.1 (by simp) (lv_room (by rw [sum_cat]; exact hc)) d ⟨?_, ?_⟩)
  · have := hR.2.2.2.2.1; omega
  · have := hR.2.2.2.2.2.1; omega
end CALL
section RET
variable {X : CX} {md : MD} {Q : State → Prop} {pc : Nat} {L : List (Nat × Value)} {w : Wd}
def RetOK (X : CX) (Q : State → Prop) (v : Option Value) (w : Wd) : Prop := ∀ (ads : Nat → Nat) (H : Heap) (locs : List Loc) (cells slots : Nat), Rl X ads w H locs cells slots → ∃ (Qc : Array Value → State → Outcome → State → Prop) (mc ms : Nat) (free : Addr → Prop), Q = MQ (xw X) Qc (xa X) (xs X) mc ms free ∧ cells ≤ mc ∧ slots ≤ ms ∧ (∀ q ∈ locs, free q.base) ∧ ∀ t : State, t.heap = H → (xs X).WarmedH t.vm → Qc (xa X) (xs X) (.returned (v.map (tv (xb X) ads))) t
theorem ww_iret (C : Ok X md) {x : Int32} (d : decode md.2.1 pc = .ok (.ireturn, 1)) (hr : md.2.2.2.1 = some .int) (h : RetOK X Q (some (.int x)) w) : WW X Q pc L [.int x] w := by
  intro ads H locs ls cells slots hl hR
  obtain ⟨Qc, mc, ms, free, rfl, h1, h2, h3, h4⟩ := h ads H locs cells slots hR
  refine W.widen h1 h2 ?_
  exact W.iret C.1 C.2.1 (C.2.2.2.1.trans hr) h4 h3 d (hlocks := C.2.2.2.2.2.2.1)
theorem ww_zret (C : Ok X md) {x : Int32} (d : decode md.2.1 pc = .ok (.ireturn, 1)) (hr : md.2.2.2.1 = some .boolean) (hx : x = 0 ∨ x = 1) (h : RetOK X Q (some (.int x)) w) : WW X Q pc L [.int x] w := by
  intro ads H locs ls cells slots hl hR
  obtain ⟨Qc, mc, ms, free, rfl, h1, h2, h3, h4⟩ := h ads H locs cells slots hR
  refine W.widen h1 h2 ?_
  exact W.zret (ty := .boolean) C.1 C.2.1 (C.2.2.2.1.trans hr) (by rcases hx with rfl | rfl <;> rfl) h4 h3 d (hlocks := C.2.2.2.2.2.2.1)
theorem ww_vret (C : Ok X md) (d : decode md.2.1 pc = .ok (.return_, 1)) (hr : md.2.2.2.1 = none) (h : RetOK X Q none w) : WW X Q pc L [] w := by
  intro ads H locs ls cells slots hl hR
  obtain ⟨Qc, mc, ms, free, rfl, h1, h2, h3, h4⟩ := h ads H locs cells slots hR
  refine W.widen h1 h2 ?_
  exact W.vret C.1 C.2.1 (C.2.2.2.1.trans hr) h4 h3 d (hlocks := C.2.2.2.2.2.2.1)
theorem lg_len (b : Nat) (ads : Nat → Nat) (vs : List Value) : (lg_sl (vs.map (tv b ads))).length = (lg_sl vs).length := by
  unfold lg_sl
  induction vs with
  | nil => rfl
  | cons v vs ih =>
    simp only [List.map_cons, List.flatMap_cons, List.length_append, ih, tv_cat]
    split <;> rfl
theorem lv_args_map (b : Nat) (ads : Nat → Nat) : ∀ (vs : List Value) (i : Nat), lv_args i (vs.map (tv b ads)) = (lv_args i vs).map (tq b ads)
  | [], _ => rfl
  | v :: vs, i => by
    show (i, tv b ads v) :: lv_args (if (tv b ads v).category = 2 then i + 2 else i + 1) (vs.map (tv b ads)) = _
    rw [tv_cat, lv_args_map b ads vs]
    rfl
/-- a contract out of a walk of the body -/
theorem WpM.of {mc ms : Nat} {args : List Value} {P : Option Value → Wd → Prop} (hy : plainName md.1.cls = true) (hn : (lg_sl args).length ≤ md.2.2.1) (hP : ∀ v w', P v w' → (∀ x, v = some x → nxv x = true) ∧ w'.2.2.length = w.2.2.length + mc ∧ slT w'.2.2 = slT w.2.2 + ms)
    (body : ∀ (X : CX) (Q : State → Prop), Ok X md → (xR X).cells = mc → (xR X).slots = ms → xT X = w.2.2 → (∀ v w', P v w' → RetOK X Q v w') → WW X Q 0 (lv_args 0 args) [] w) : WpM md mc ms args w P := by
  intro l D cA ads sz
  refine Met.ofW (cc := md.2.1) (maxL := md.2.2.1) (ret := md.2.2.2.1) hy rfl ?_
  intro p e s m av below meth c s₁ B hml hv
  obtain ⟨rfl, hsz, hPw, hK, hD, hG, hE⟩ := hv
  have hts := atoms_spec (ws := wsM md) B.pre
  subst hsz
  have hlen := hn
  rw [← lg_len 0 ads] at hlen
  have hl := lv_entry (args.map (tv 0 ads)) hlen
  rw [lg_entry_eq]
  rw [lv_args_map, ← hml] at hl
  refine body (p, l, e, (headSpec (wsM md) (rmM md mc ms)).room, s, m, (args.map (tv 0 ads)).toArray, below, meth, c, D, cA, va_A (wl cA ads w) s.heap.size, 0, ads, w.2.2) _ ⟨B.exec, B.bytes, hml, B.returns, findClass_of_methodNamed B.named, fun w hw => hts w (List.mem_cons_of_mem _ hw), B.notSynchronized, hK, fun q h => Or.inr h, rfl, rfl, (name_of_methodNamed B.named B.method).1, hE⟩ rfl rfl rfl (fun v w' hpv => ?_) ads s.heap [] _ 0 0 (by rw [← hml]; exact hl) ⟨hPw, hD.self, va_S.rf, fun _ _ => rfl, rfl, rfl, hG⟩
  intro ads' H locs cells slots hR
  obtain ⟨h1, h2, h3⟩ := hP v w' hpv
  refine ⟨_, mc, ms, _, rfl, ?_, ?_, hR.2.2.1.2.2, fun t ht hW => ⟨⟨v, ads', w', rfl, h1, hpv, hR.2.2.2.1, h2, h3, hR.2.2.2.2.2.2, by rw [ht]; exact hR.1, hR.2.1⟩, hR.2.2.1.F ht⟩⟩
  · have := hR.2.2.2.2.1
    have h9 : w.2.2.length + cells = w'.2.2.length := this
    omega
  · have := hR.2.2.2.2.2.1
    have h9 : slT w.2.2 + slots = slT w'.2.2 := this
    omega
theorem WpM.imp {mc ms : Nat} {args : List Value} {P P' : Option Value → Wd → Prop} (h : WpM md mc ms args w P) (hi : ∀ v w', P v w' → P' v w') : WpM md mc ms args w P' := by
  intro l D cA ads sz
  have hM := h l D cA ads sz
  intro p e ha hc hk s m args below hf hap hp htr
  obtain ⟨kk, o, h1, h2, h3, ⟨⟨⟨v, ads', w', a1, a2, a3, a4⟩, hF⟩, hL⟩⟩ := hM p e ha hc hk s m args below hf hap hp htr
  exact ⟨kk, o, h1, h2, h3, ⟨⟨⟨v, ads', w', a1, a2, hi _ _ a3, a4⟩, hF⟩, hL⟩⟩
end RET
