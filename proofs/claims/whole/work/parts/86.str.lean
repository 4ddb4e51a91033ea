/-! the JDK's string methods, over the class's one text -/
def SS (K Vv : Nat) (A : Nat → Prop) (U : State) (H : Heap) : Prop := vk_S 1 [42] [byF] (fun _ => K) (fun _ => Vv) A U H ∧ va_Z "java/lang/String" "COMPACT_STRINGS" "Z" (.int 1) A U H ∧ va_Zq "jdk/internal/util/Preconditions" "SIOOBE_FORMATTER" "Ljava/util/function/BiFunction;" A U H
theorem SS.moved {K Vv : Nat} {A : Nat → Prop} {u U : State} {H : Heap} (hvm : u.vm.Alike U.vm) (h : SS K Vv A u H) : SS K Vv A U H := ⟨h.1.moved hvm, va_Z.moved hvm h.2.1, va_Zq.moved hvm h.2.2⟩
theorem SS.kept {K Vv : Nat} {A : Nat → Prop} {U : State} {H H1 : Heap} (h : SS K Vv A U H) (hq : ∀ a : Nat, a < H.size → ¬ A a → H1[a]? = H[a]?) : SS K Vv A U H1 := ⟨h.1.kept hq, h.2.1.kept hq, h.2.2.kept hq⟩
theorem SS.narrow {K Vv : Nat} {A B : Nat → Prop} {U : State} {H : Heap} (h : SS K Vv A U H) (hAB : ∀ q, B q → A q) : SS K Vv B U H := ⟨h.1.narrow hAB, h.2.1.narrow hAB, h.2.2.narrow hAB⟩
def JS (K Vv : Nat) (U : State) : Prop := SS K Vv (fun _ => False) U U.heap
def JQ (r : Option Value) : Array Value → State → Outcome → State → Prop := fun _ st o t => o = .returned r ∧ t.heap = st.heap
def MJ (l : Launch) (md : MD) (K Vv : Nat) (args : List Value) (r : Option Value) : Prop := Met l md.1 (wsM md) (rmM md 0 0) (va_Pc args (JS K Vv)) (JQ r) 0 0 (fun _ => False)
theorem JS.blind {K Vv : Nat} {av : List Value} : FrameBlind (va_Pc av (JS K Vv)) := by
  intro a U g mk q
  obtain ⟨q0, q1⟩ := q
  exact ⟨q0, SS.moved (u := U) (U := U.calling g mk a) (Vm.Alike.refl U.vm) q1⟩
section JB
variable {p : Program} {l : Launch} {e : Env} {R : Room} {s : State} {m : MethodId} {args : Array Value} {below : List Frame} {meth : Method} {c : Code} {H : Heap} {locs : List Loc} {cells slots : Nat} {Q : State → Prop}
variable {cc : ByteArray} {pc K Vv n idx : Nat} {ls : Array Slot} {rest st0 As : List Value} {r : Option Value} {a : Array Value} {md' : MD} {own : String} {A : Nat → Prop}
theorem j_back (hr : va_Run p l e R s m args below meth c H locs cells slots 0 0 (F0 m pc ls st0) rest (JQ r a) (fun _ => False)) (k : W p l e R s m args below meth c H locs cells slots Q (F0 m (pc + 3) ls (r.toList ++ rest))) : W p l e R s m args below meth c H locs cells slots Q (F0 m pc ls st0) := by
  intro T hT Z
  obtain ⟨v, st₀, t, T', L', h0, Z', hL, e1, e2, ⟨hv, hh⟩, st⟩ := hr T hT Z
  have eL : L' = [] := List.eq_nil_iff_forall_not_mem.mpr (fun q hq => hL q hq)
  subst eL
  rw [List.append_nil] at Z'
  have ev : v = r := by injection hv
  subst ev
  obtain ⟨t2, a1, b1⟩ := k T' (by rw [e1, hh, h0]) Z'
  exact ⟨t2, st t2 a1, b1⟩
/-- what the callee asks, in any heap in which the text stands -/
theorem js_pre (hs : SS K Vv A s s.heap) (hS : va_S A s.heap H locs) {av : List Value} {U : State} (hU : U.heap = H) (hW : s.WarmedH U.vm) : va_Pc av (JS K Vv) av.toArray U := by
  refine ⟨rfl, ?_⟩
  unfold JS
  rw [hU]
  exact ((hs.kept hS.2.1).narrow (fun _ h => h.elim)).moved hW.alike
theorem j_callV (hx : p.tables.exec = Jvm.exec) (hb : c.code = cc) (ho : s.vm.findClass own = some m.cls) (hts : ∀ w ∈ GW, w.before args s = true) (hM : MJ l md' K Vv (.ref K :: As) r) (hcls : md'.1.cls = "java/lang/String") (f : MFV md' n) (hR : md'.2.2.2.2.1 + 1 ≤ R.frames ∧ 8 + (md'.2.2.1 + 11) + md'.2.2.2.2.2 ≤ R.locals) (hl : Cond.methodLink own idx md'.1 ∈ GW) (hs : SS K Vv A s s.heap) (hS : va_S A s.heap H locs) (hsz : ls.size = c.maxLocals) (hn : As.length = n) (hc : (rest.map fun v => v.category).sum ≤ 8) (hf : cells + 0 ≤ R.cells ∧ slots + 0 ≤ R.slots) (hst : st0 = As.reverse ++ .ref K :: rest) (d : decode cc pc = .ok (.invokevirtual idx, 3)) (k : W p l e R s m args below meth c H locs cells slots Q (F0 m (pc + 3) ls (r.toList ++ rest))) : W p l e R s m args below meth c H locs cells slots Q (F0 m pc ls st0) := by
  have cb : CallB R s args own idx md'.1 md'.2.1 md'.2.2.1 md'.2.2.2.1 (wsM md') (rmM md' 0 0) 0 0 n := callB_of n hts (wsM_good f.1.1) rfl rfl rfl (hts _ f.1.2.1) (hts _ hl) ⟨f.1.2.2.1.1, f.1.2.2.1.2, f.1.2.2.2⟩ hR
  refine j_back (a := (Value.ref K :: As).toArray) (va_runV (As := As) (b := K) (C := md'.1.cls) ⟨hx, hb, rfl, ho, hts⟩ hM ⟨cb, hts _ f.2.1, hts _ f.2.2⟩ ⟨JS.blind, ?_, fun U hU hW => js_pre hs hS hU hW⟩ rfl hn hsz hst (lv_room hc) d hf) k
  rw [hcls]
  exact vk_recv (i := 0) hs.1 (by decide) hS
theorem j_callS (hx : p.tables.exec = Jvm.exec) (hb : c.code = cc) (ho : s.vm.findClass own = some m.cls) (hts : ∀ w ∈ GW, w.before args s = true) (hM : MJ l md' K Vv As r) (f : MFS md' n) (hR : md'.2.2.2.2.1 + 1 ≤ R.frames ∧ 8 + (md'.2.2.1 + 11) + md'.2.2.2.2.2 ≤ R.locals) (hl : Cond.methodLink own idx md'.1 ∈ GW) (hs : SS K Vv A s s.heap) (hS : va_S A s.heap H locs) (hsz : ls.size = c.maxLocals) (hn : As.length = n) (hc : (rest.map fun v => v.category).sum ≤ 8) (hf : cells + 0 ≤ R.cells ∧ slots + 0 ≤ R.slots) (hst : st0 = As.reverse ++ rest) (d : decode cc pc = .ok (.invokestatic idx, 3)) (k : W p l e R s m args below meth c H locs cells slots Q (F0 m (pc + 3) ls (r.toList ++ rest))) : W p l e R s m args below meth c H locs cells slots Q (F0 m pc ls st0) := by
  have cb : CallB R s args own idx md'.1 md'.2.1 md'.2.2.1 md'.2.2.2.1 (wsM md') (rmM md' 0 0) 0 0 n := callB_of n hts (wsM_good f.1.1) rfl rfl rfl (hts _ f.1.2.1) (hts _ hl) ⟨f.1.2.2.1.1, f.1.2.2.1.2, f.1.2.2.2⟩ hR
  exact j_back (a := As.toArray) (va_runS (As := As) ⟨hx, hb, rfl, ho, hts⟩ hM ⟨cb, hts _ f.2⟩ ⟨JS.blind, fun U hU hW => js_pre hs hS hU hW⟩ rfl hn hsz hst (lv_room hc) d hf) k
/-- a contract out of a walk -/
theorem MJ.of {md : MD} {av : List Value} {L0 : List (Nat × Value)} (hL : lv_args 0 av = L0) (hy : plainFor md.1 = true) (hn : (lg_sl av).length ≤ md.2.2.1)
    (body : ∀ (p : Program) (e : Env) (s : State) (m : MethodId) (below : List Frame) (meth : Method) (c : Code) (R : Room) (ls : Array Slot), p.tables.exec = Jvm.exec → c.code = md.2.1 → s.vm.findClass md.1.cls = some m.cls → (∀ w ∈ GW, w.before av.toArray s = true) → meth.sig.returnType = md.2.2.2.1 → meth.locks = false → JS K Vv s → R.frames = md.2.2.2.2.1 → R.locals = md.2.2.2.2.2 → lv_has ls c.maxLocals L0 → c.maxLocals = md.2.2.1 → W p l e R s m av.toArray below meth c s.heap [] 0 0 (MQ below (JQ r) av.toArray s 0 0 (fun _ => False)) (F0 m 0 ls [])) : MJ l md K Vv av r := by
  subst hL
  refine va_MetF (cc := md.2.1) (maxL := md.2.2.1) (ret := md.2.2.2.1) hy rfl ?_
  intro p e s m av' below meth c s₁ B hml hv
  obtain ⟨rfl, hs⟩ := hv
  have hts := atoms_spec (ws := wsM md) B.pre
  have hl := lv_entry av hn
  rw [lg_entry_eq]
  rw [← hml] at hl
  exact body p e s m below meth c _ _ B.exec B.bytes (findClass_of_methodNamed B.named) (fun w hw => hts w (List.mem_cons_of_mem _ hw)) B.returns B.notSynchronized hs rfl rfl (by rw [← hml]; exact hl) hml
end JB
section JM
variable {l : Launch} {K Vv : Nat}
theorem js_S {s : State} : va_S (fun _ => False) s.heap s.heap [] := va_S.rf
theorem j_coder : MJ l mJ0_coder_7d493 K Vv [.ref K] (some (.int 0)) := by
  refine MJ.of (L0 := [(0, .ref K)]) rfl (by decide +kernel) nL ?_
  intro p e s m below meth c R ls hx hb ho hts hr hk hs fr lo hl ml
  refine va_gets hx hb hs.2.1 js_S ho (hts _ fjRJ0_38) (fun _ h => h) dJ0_coder_7d493_0 ?_
  refine lv_if_eq hx hb (tgt := 13) dJ0_coder_7d493_3 (by decide) (fun z => absurd z (by decide)) (fun _ => ?_)
  refine lv_aload_n hx hb dJ0_coder_7d493_6 rfl (lv_at hl 0 rfl) ?_
  refine vk_getf hx hb (hs.1.1 0 (by decide)).2.1 js_S ho (hts _ fjRJ0_15) (fun _ h => h) dJ0_coder_7d493_7 ?_
  refine lv_goto hx hb (tgt := 14) dJ0_coder_7d493_10 (by decide) ?_
  exact W.zret (ty := .byte) hx hb hr rfl (fun t ht hW => ⟨rfl, ht⟩) (fun q h => absurd h List.not_mem_nil) dJ0_coder_7d493_14 (hlocks := hk)
theorem j_isLatin1 : MJ l mJ0_isLatin1_aae02 K Vv [.ref K] (some (.int 1)) := by
  refine MJ.of (L0 := [(0, .ref K)]) rfl (by decide +kernel) nL ?_
  intro p e s m below meth c R ls hx hb ho hts hr hk hs fr lo hl ml
  refine va_gets hx hb hs.2.1 js_S ho (hts _ fjRJ0_38) (fun _ h => h) dJ0_isLatin1_aae02_0 ?_
  refine lv_if_eq hx hb (tgt := 17) dJ0_isLatin1_aae02_3 (by decide) (fun z => absurd z (by decide)) (fun _ => ?_)
  refine lv_aload_n hx hb dJ0_isLatin1_aae02_6 rfl (lv_at hl 0 rfl) ?_
  refine vk_getf hx hb (hs.1.1 0 (by decide)).2.1 js_S ho (hts _ fjRJ0_15) (fun _ h => h) dJ0_isLatin1_aae02_7 ?_
  refine lv_if_ne hx hb (tgt := 17) dJ0_isLatin1_aae02_10 (by decide) (fun z => absurd rfl z) (fun _ => ?_)
  refine lv_iconst hx hb (v := (1 : Int32)) dJ0_isLatin1_aae02_13 (by decide) ?_
  refine lv_goto hx hb (tgt := 18) dJ0_isLatin1_aae02_14 (by decide) ?_
  exact W.zret (ty := .boolean) hx hb hr rfl (fun t ht hW => ⟨rfl, ht⟩) (fun q h => absurd h List.not_mem_nil) dJ0_isLatin1_aae02_18 (hlocks := hk)
theorem j_length : MJ l mJ0_length_8abf5 K Vv [.ref K] (some (.int 42)) := by
  refine MJ.of (L0 := [(0, .ref K)]) rfl (by decide +kernel) nL ?_
  intro p e s m below meth c R ls hx hb ho hts hr hk hs fr lo hl ml
  refine lv_aload_n hx hb dJ0_length_8abf5_0 rfl (lv_at hl 0 rfl) ?_
  refine vk_getf hx hb (hs.1.1 0 (by decide)).2.2.1 js_S ho (hts _ fjRJ0_9) (fun _ h => h) dJ0_length_8abf5_1 ?_
  refine va_tlen hx hb (hs.1.1 0 (by decide)).2.2.2 js_S (v := 42) (by decide) dJ0_length_8abf5_4 ?_
  refine lv_aload_n hx hb dJ0_length_8abf5_5 rfl (lv_at hl 0 rfl) ?_
  refine j_callV (As := []) (rest := [.int 42]) hx hb ho hts j_coder rfl fJ0_coder_7d493 ⟨by rw [fr]; exact nL, by rw [lo]; exact nL⟩ mlRJ0_335 hs js_S (hl.1) rfl (by decide) ⟨Nat.zero_le _, Nat.zero_le _⟩ rfl dJ0_length_8abf5_6 ?_
  refine lv_ishr hx hb dJ0_length_8abf5_9 ?_
  exact W.iret hx hb hr (fun t ht hW => ⟨rfl, ht⟩) (fun q h => absurd h List.not_mem_nil) dJ0_length_8abf5_10 (hlocks := hk)
theorem j_pre {i : Nat} (hi : i < 42) {v : Value} (hv : v.category = 1) : MJ l mJ3_checkIndex_8e157 K Vv [.int (nI i), .int 42, v] (some (.int (nI i))) := by
  refine MJ.of (L0 := [(0, .int (nI i)), (1, .int 42), (2, v)]) rfl (by decide +kernel) (by unfold lg_sl; cases v <;> first | exact nL | (cases hv)) ?_
  intro p e s m below meth c R ls hx hb ho hts hr hk hs fr lo hl ml
  refine lv_iload_n hx hb dJ3_checkIndex_8e157_0 rfl (lv_at hl 0 rfl) ?_
  refine lv_if_lt hx hb (tgt := 9) dJ3_checkIndex_8e157_1 (by decide) (fun z => absurd z (nn0 (by omega))) (fun _ => ?_)
  refine lv_iload_n hx hb dJ3_checkIndex_8e157_4 rfl (lv_at hl 0 rfl) ?_
  refine lv_iload_n hx hb dJ3_checkIndex_8e157_5 rfl (lv_at hl 1 rfl) ?_
  refine lv_icmp_lt hx hb (tgt := 16) dJ3_checkIndex_8e157_6 (by decide) (fun _ => ?_) (fun z => absurd ((nlt (b := 42) (by omega) (by omega)).mpr hi) z)
  refine lv_iload_n hx hb dJ3_checkIndex_8e157_16 rfl (lv_at hl 0 rfl) ?_
  exact W.iret hx hb hr (fun t ht hW => ⟨rfl, ht⟩) (fun q h => absurd h List.not_mem_nil) dJ3_checkIndex_8e157_17 (hlocks := hk)
theorem j_check {i : Nat} (hi : i < 42) : MJ l mJ0_checkIndex_df160 K Vv [.int (nI i), .int 42] none := by
  refine MJ.of (L0 := [(0, .int (nI i)), (1, .int 42)]) rfl (by decide +kernel) nL ?_
  intro p e s m below meth c R ls hx hb ho hts hr hk hs fr lo hl ml
  refine lv_iload_n hx hb dJ0_checkIndex_df160_0 rfl (lv_at hl 0 rfl) ?_
  refine lv_iload_n hx hb dJ0_checkIndex_df160_1 rfl (lv_at hl 1 rfl) ?_
  have go : ∀ v : Value, v.category = 1 → va_Z "jdk/internal/util/Preconditions" "SIOOBE_FORMATTER" "Ljava/util/function/BiFunction;" v (fun _ => False) s s.heap → W p l e R s m #[.int (nI i), .int 42] below meth c s.heap [] 0 0 (MQ below (JQ none) #[.int (nI i), .int 42] s 0 0 (fun _ => False)) (F0 m 2 ls [.int 42, .int (nI i)]) := by
    intro v hv hz
    refine va_gets hx hb hz js_S ho (hts _ fjRJ0_1053) (fun _ h => h) dJ0_checkIndex_df160_2 ?_
    refine j_callS (As := [.int (nI i), .int 42, v]) (rest := []) hx hb ho hts (j_pre hi hv) fJ3_checkIndex_8e157 ⟨by rw [fr]; exact nL, by rw [lo]; exact nL⟩ mlRJ0_1059 hs js_S (hl.1) rfl (by decide) ⟨Nat.zero_le _, Nat.zero_le _⟩ rfl dJ0_checkIndex_df160_5 ?_
    refine lv_pop hx hb dJ0_checkIndex_df160_8 rfl ?_
    exact W.vret hx hb hr (fun t ht hW => ⟨rfl, ht⟩) (fun q h => absurd h List.not_mem_nil) dJ0_checkIndex_df160_9 (hlocks := hk)
  rcases hs.2.2 with h | ⟨q, h⟩
  · exact go _ rfl h
  · exact go _ rfl h
def chF (i : Nat) : Int32 := byF.getD i 0
theorem ch_ok : ∀ i, i < 42 → ((chF i &&& 255).toUInt32 % 65536).toInt32 = chF i ∧ narrow .char (.int (chF i)) = .int (chF i) := by
  have h : ∀ i, i < 42 → ((chF i &&& 255).toUInt32 % 65536).toInt32 = chF i ∧ ((chF i).toUInt32 % 65536).toInt32 = chF i := by decide +kernel
  intro i hi
  refine ⟨(h i hi).1, ?_⟩
  exact congrArg Value.int (h i hi).2
theorem j_charL {i : Nat} (hi : i < 42) : MJ l mJ1_charAt_3b067 K Vv [.ref Vv, .int (nI i)] (some (.int (chF i))) := by
  refine MJ.of (L0 := [(0, .ref Vv), (1, .int (nI i))]) rfl (by decide +kernel) nL ?_
  intro p e s m below meth c R ls hx hb ho hts hr hk hs fr lo hl ml
  refine lv_iload_n hx hb dJ1_charAt_3b067_0 rfl (lv_at hl 1 rfl) ?_
  refine lv_aload_n hx hb dJ1_charAt_3b067_1 rfl (lv_at hl 0 rfl) ?_
  refine va_tlen hx hb (hs.1.1 0 (by decide)).2.2.2 js_S (v := 42) (by decide) dJ1_charAt_3b067_2 ?_
  refine j_callS (As := [.int (nI i), .int 42]) (rest := []) hx hb ho hts (j_check hi) fJ0_checkIndex_df160 ⟨by rw [fr]; exact nL, by rw [lo]; exact nL⟩ mlRJ1_9 hs js_S (hl.1) rfl (by decide) ⟨Nat.zero_le _, Nat.zero_le _⟩ rfl dJ1_charAt_3b067_3 ?_
  refine lv_aload_n hx hb dJ1_charAt_3b067_6 rfl (lv_at hl 0 rfl) ?_
  refine lv_iload_n hx hb dJ1_charAt_3b067_7 rfl (lv_at hl 1 rfl) ?_
  refine va_tb hx hb (hs.1.1 0 (by decide)).2.2.2 js_S (nin (n := 42) hi (by omega)) (v := .int (chF i)) (by rw [ncl (by omega)]; rfl) dJ1_charAt_3b067_8 ?_
  refine lv_sipush hx hb (v := (255 : Int32)) dJ1_charAt_3b067_9 (by decide) ?_
  refine lv_iand hx hb dJ1_charAt_3b067_12 ?_
  refine lv_i2c hx hb dJ1_charAt_3b067_13 (ch_ok i hi).1 ?_
  exact W.zret (ty := .char) hx hb hr (ch_ok i hi).2 (fun t ht hW => ⟨rfl, ht⟩) (fun q h => absurd h List.not_mem_nil) dJ1_charAt_3b067_14 (hlocks := hk)
theorem j_charAt {i : Nat} (hi : i < 42) : MJ l mJ0_charAt_5068e K Vv [.ref K, .int (nI i)] (some (.int (chF i))) := by
  refine MJ.of (L0 := [(0, .ref K), (1, .int (nI i))]) rfl (by decide +kernel) nL ?_
  intro p e s m below meth c R ls hx hb ho hts hr hk hs fr lo hl ml
  refine lv_aload_n hx hb dJ0_charAt_5068e_0 rfl (lv_at hl 0 rfl) ?_
  refine j_callV (As := []) (rest := []) hx hb ho hts j_isLatin1 rfl fJ0_isLatin1_aae02 ⟨by rw [fr]; exact nL, by rw [lo]; exact nL⟩ mlRJ0_492 hs js_S (hl.1) rfl (by decide) ⟨Nat.zero_le _, Nat.zero_le _⟩ rfl dJ0_charAt_5068e_1 ?_
  refine lv_if_eq hx hb (tgt := 16) dJ0_charAt_5068e_4 (by decide) (fun z => absurd z (by decide)) (fun _ => ?_)
  refine lv_aload_n hx hb dJ0_charAt_5068e_7 rfl (lv_at hl 0 rfl) ?_
  refine vk_getf hx hb (hs.1.1 0 (by decide)).2.2.1 js_S ho (hts _ fjRJ0_9) (fun _ h => h) dJ0_charAt_5068e_8 ?_
  refine lv_iload_n hx hb dJ0_charAt_5068e_11 rfl (lv_at hl 1 rfl) ?_
  refine j_callS (As := [.ref Vv, .int (nI i)]) (rest := []) hx hb ho hts (j_charL hi) fJ1_charAt_3b067 ⟨by rw [fr]; exact nL, by rw [lo]; exact nL⟩ mlRJ0_495 hs js_S (hl.1) rfl (by decide) ⟨Nat.zero_le _, Nat.zero_le _⟩ rfl dJ0_charAt_5068e_12 ?_
  exact W.zret (ty := .char) hx hb hr (ch_ok i hi).2 (fun t ht hW => ⟨rfl, ht⟩) (fun q h => absurd h List.not_mem_nil) dJ0_charAt_5068e_15 (hlocks := hk)
end JM
