/-! the start -/
theorem inst0 : Cond.instantiable RX0 7 ∈ GW := wqG11 (i := 1) rfl rfl
theorem inst1 : Cond.instantiable RX1 4 ∈ GW := wqG6 (i := 8) rfl rfl
theorem inst2 : Cond.instantiable RX2 5 ∈ GW := wqG10 (i := 15) rfl rfl
theorem inst3 : Cond.instantiable RX3 8 ∈ GW := wqG4 (i := 10) rfl rfl
theorem inst4 : Cond.instantiable RX4 4 ∈ GW := wqG9 (i := 13) rfl rfl
theorem inst5 : Cond.instantiable RX5 7 ∈ GW := wqG12 (i := 17) rfl rfl
theorem inst6 : Cond.instantiable RX6 5 ∈ GW := wqG8 (i := 10) rfl rfl
theorem inst7 : Cond.instantiable RX7 4 ∈ GW := wqG3 (i := 8) rfl rfl
theorem inst8 : Cond.instantiable RX8 4 ∈ GW := wqG7 (i := 8) rfl rfl
theorem inst9 : Cond.instantiable RX9 9 ∈ GW := wqG3 (i := 0) rfl rfl
theorem inst10 : Cond.instantiable RX10 44 ∈ GW := wqG41 (i := 9) rfl rfl
theorem clRL_7 : Cond.classLink RL 7 RX9 ∈ GW := wqG2 (i := 19) rfl rfl
theorem clRL_10 : Cond.classLink RL 10 RX10 ∈ GW := wqG41 (i := 8) rfl rfl
theorem ini9 : Cond.initialized RX9 ∈ GW := wqG2 (i := 1) rfl rfl
theorem ini10 : Cond.initialized RX10 ∈ GW := wqG2 (i := 15) rfl rfl
theorem iniRJ0 : Cond.initialized RJ0 ∈ GW := wqG2 (i := 11) rfl rfl
theorem iniRJ3 : Cond.initialized RJ3 ∈ GW := wqG2 (i := 13) rfl rfl
theorem ao_in : Cond.arrayOver (.array .int) ∈ lw_tbl := wqM7 _ (List.mem_of_getElem? (i := 14) rfl)
/-! THE CLAIM OUT OF ONE WALK OF THE LAW'S BODY. Your part is whole_start (and what it stands on); all else here is the same for every law, but numbers. -/
def R_law : String := "BedsThatFitLaw"
def lw_P (b : Addr) (xs : List Int32) (args : Array Value) (s : State) : Prop := args = #[.ref b] ∧ s.IntsAt b xs ∧ xs.length ≤ 256 ∧ (Jvm.Cond.and given_1 narrow_1).before args s = true
def lw_Q (_ : Array Value) (s : State) (o : Outcome) (t : State) : Prop := o = .returned (some (.int 1)) ∧ Framed s o t [] 600000 7302250
def lw_Z (below : List Frame) (a : Array Value) (s : State) : State → Prop := fun t => ∃ o, t.status = .running ∧ Ended t below o ∧ lw_Q a s o t
/-- the law's own end, with 1 on the stack, nothing written that was there before, its room as the claim has it -/
theorem lw_ret {p : Program} {l : Launch} {e : Env} {s : State} {m : MethodId} {below : List Frame} {meth : Method} {c : Code} {b : Nat} (hx : p.tables.exec = Jvm.exec) (hb : c.code = code) (hr : meth.sig.returnType = ret) (hlocks : meth.locks = false) {pc : Nat} {H : Heap} {ls : Array Slot} (hdg : decode code pc = .ok (.ireturn, 1)) : W p l e room_1 s m #[Value.ref b] below meth c H [] 600000 7302250 (lw_Z below #[Value.ref b] s) (F0 m pc ls [.int 1]) := by
  intro T hT X
  obtain ⟨fs, hret, hrun, hended, hW, hframe⟩ := X.leave (v := some (.int 1)) (hlocks := hlocks) (fun h => by rw [hr] at h; cases h)
  have hmeth' : T.vm.method? m = some meth := X.method'
  refine ⟨T.setFrames fs, ?_, .returned (some (.int 1)), hrun, hended, rfl, ⟨_, rfl⟩, hW, hframe⟩
  jvm_step X.here [X.here.top, hx, hb, hdg, hmeth', hr, ret, narrow_b1]
  (try refine ⟨rfl, ?_⟩); (try refine ⟨rfl, ?_⟩)
  first | (intro acts; rw [hret _ acts rfl rfl rfl]) | rw [hret _ _ rfl rfl rfl]
  exact Steps.refl _
/-- what holds at the law's entry: the machine, the code, the tables' words (any of lw_tbl by 'hts w (by decide +kernel)'), the script of L ints xs at the cell b, what the Statement gives of the start (any of its parts by flat_of_before) -/
def lw_At (p : Program) (s : State) (m : MethodId) (meth : Method) (c : Code) (b L : Nat) (xs : Nat → Int32) : Prop :=
  p.tables.exec = Jvm.exec ∧ c.code = code ∧ meth.sig.returnType = ret ∧ c.maxLocals = 4 ∧ s.vm.findClass R_law = some m.cls ∧ (∀ w ∈ lw_tbl, w.before #[Value.ref b] s = true) ∧ va_X b L xs s s.heap ∧ b < s.heap.size ∧ meth.locks = false ∧ (Jvm.Cond.and given_1 narrow_1).before #[Value.ref b] s = true
abbrev xS (X : CX) : State := xs X
/-- the text of the class, at the start -/
theorem str_start {s : State} {b : Nat} (hts : ∀ w ∈ lw_tbl, w.before #[Value.ref b] s = true) (hGW : ∀ w ∈ GW, w.before #[Value.ref b] s = true) (hgv : (Jvm.Cond.and given_1 narrow_1).before #[Value.ref b] s = true) : ∃ K Vv, SS K Vv (fun q => s.heap.size ≤ q) s s.heap ∧ vk_R RX9 65 tx67 K s := by
  have hfl := flat_of_before _ hgv
  have hA : ∀ a : Nat, a < s.heap.size → ¬ (fun q => s.heap.size ≤ q) a := fun a h => Nat.not_le.mpr h
  have mel : ∀ j, j < 42 → (Cond.eq (.elem (.field (.string "BedsThatFit" 65) "java/lang/String" "value" "[B") (.int (Int32.ofNat j))) (.int (byF.getD j 0))) ∈ flatC (Jvm.Cond.and given_1 narrow_1) := by decide +kernel
  obtain ⟨adK, adV, hS1, hev⟩ := vk_Sof (args := #[Value.ref b]) (s := s) (N := 1) (tm := fun _ => Term.string "BedsThatFit" 65) (len := [42]) (byt := [byF]) (A := fun q => s.heap.size ≤ q) (fun i hi => by rw [show i = 0 by omega]; decide) (fun i hi => hfl _ (by decide +kernel)) (fun i hi => hfl _ (by decide +kernel)) (fun i hi => hfl _ (by decide +kernel)) (fun i hi => by rw [show i = 0 by omega]; exact hfl _ (by decide +kernel)) (fun i hi j hj => by
    rw [show i = 0 by omega] at hj ⊢
    exact hfl _ (mel j hj)) (fun i j hi hj hij => absurd (show i = j by omega) hij) hA
  refine ⟨adK 0, adV 0, ⟨⟨fun i hi => ?_, fun i j hi hj _ => by omega⟩, ?_, ?_⟩, ?_⟩
  · rw [show i = 0 by omega]; exact hS1.1 0 (by omega)
  · exact va_Zof (hts _ ls_COMPACT_STRINGS) (hGW _ iniRJ0) (va_eqt (hfl _ (by decide +kernel))) hA
  · exact va_Zqof (hts _ ls_SIOOBE_FORMATTER) (hGW _ iniRJ3) (hfl _ (by decide +kernel)) hA
  · exact vk_R.of (hts _ sr_67) (hev 0 (by omega))
theorem ex_start {s : State} {b : Nat} (hts : ∀ w ∈ lw_tbl, w.before #[Value.ref b] s = true) : Ex s := by
  refine ⟨fun q hq => ?_, hts _ ao_in⟩
  obtain ⟨w, hw, he⟩ := List.mem_filterMap.mp hq
  cases w <;> first | (cases he; exact va_Nw.of rfl (hts _ hw)) | (cases he)
theorem kn_start {s : State} {b : Nat} (hts : ∀ w ∈ lw_tbl, w.before #[Value.ref b] s = true) (hGW : ∀ w ∈ GW, w.before #[Value.ref b] s = true) : ∃ (D : va_G) (cA : ClassId × ClassId × ClassId), va_K D vwCl (tysA cA) s := by
  have hk : ∀ k : Nat, ∃ q : ClassId × (Nat → Nat), ∀ u, vwCl[k]? = some u → u_Kn s u.1 u.2.1 u.2.2 q.1 q.2 := by
    intro k
    rcases k with _ | _ | _ | _ | _ | _ | _ | _ | _ | _ | _ | k
    · obtain ⟨c0, i0, h0⟩ := u_known hGW inG0 (hGW _ inst0)
      exact ⟨(c0, i0), fun u hu => by cases hu; exact h0⟩
    · obtain ⟨c0, i0, h0⟩ := u_known hGW inG1 (hGW _ inst1)
      exact ⟨(c0, i0), fun u hu => by cases hu; exact h0⟩
    · obtain ⟨c0, i0, h0⟩ := u_known hGW inG2 (hGW _ inst2)
      exact ⟨(c0, i0), fun u hu => by cases hu; exact h0⟩
    · obtain ⟨c0, i0, h0⟩ := u_known hGW inG3 (hGW _ inst3)
      exact ⟨(c0, i0), fun u hu => by cases hu; exact h0⟩
    · obtain ⟨c0, i0, h0⟩ := u_known hGW inG4 (hGW _ inst4)
      exact ⟨(c0, i0), fun u hu => by cases hu; exact h0⟩
    · obtain ⟨c0, i0, h0⟩ := u_known hGW inG5 (hGW _ inst5)
      exact ⟨(c0, i0), fun u hu => by cases hu; exact h0⟩
    · obtain ⟨c0, i0, h0⟩ := u_known hGW inG6 (hGW _ inst6)
      exact ⟨(c0, i0), fun u hu => by cases hu; exact h0⟩
    · obtain ⟨c0, i0, h0⟩ := u_known hGW inG7 (hGW _ inst7)
      exact ⟨(c0, i0), fun u hu => by cases hu; exact h0⟩
    · obtain ⟨c0, i0, h0⟩ := u_known hGW inG8 (hGW _ inst8)
      exact ⟨(c0, i0), fun u hu => by cases hu; exact h0⟩
    · obtain ⟨c0, i0, h0⟩ := u_known hGW inG9 (hGW _ inst9)
      exact ⟨(c0, i0), fun u hu => by cases hu; exact h0⟩
    · obtain ⟨c0, i0, h0⟩ := u_known hGW inG10 (hGW _ inst10)
      exact ⟨(c0, i0), fun u hu => by cases hu; exact h0⟩
    · exact ⟨(0, fun _ => 0), fun u hu => by simp at hu⟩
  obtain ⟨D, hD⟩ := Classical.axiomOfChoice hk
  obtain ⟨cI, kI, oI, a1, a2, a3⟩ := Cond.arrayClass_spec (hGW _ acInt)
  obtain ⟨cC, kC, oC, b1, b2, b3⟩ := Cond.arrayClass_spec (hGW _ acChar)
  obtain ⟨cR0, cR, kR, r1, -, r2, r3, r4⟩ := Jvm.Stand.arrayOver_specB (hts _ ao_in)
  refine ⟨(fun k => (D k).1, fun k => (D k).2), (cI, cC, cR), fun c q hq => hD c q hq, fun k q hq => ?_⟩
  rcases k with _ | _ | _ | k
  · cases hq
    exact ⟨fun n z => ⟨fun k h => (by cases h), kI, a2, oI, a3⟩, a1⟩
  · cases hq
    exact ⟨fun n z => ⟨fun k h => (by cases h), kC, b2, oC, b3⟩, b1⟩
  · cases hq
    exact ⟨fun n z => ⟨fun k h => (by cases h), kR, r2, cR0, r3⟩, r4⟩
  · simp [tysA] at hq
set_option maxHeartbeats 4000000 in
set_option maxRecDepth 20000 in
/-- from the entry, for every script of at most 256 ints, the law comes to its end with true -/
theorem whole_start {p : Program} {e : Env} {s : State} {m : MethodId} {below : List Frame} {meth : Method} {c : Code} (l : Launch) {b L : Nat} {xs : Nat → Int32} (hL : L ≤ 256) (C0 : lw_At p s m meth c b L xs) : W p l e room_1 s m #[Value.ref b] below meth c s.heap [] 0 0 (lw_Z below #[Value.ref b] s) (entryFrame m ([Value.ref b] : List Value).toArray 4) := by
  obtain ⟨hx, hb, hr, hml, hown, hts, hX, hbl, hlocks, hgv⟩ := id C0
  have hGW : ∀ w ∈ GW, w.before #[Value.ref b] s = true := fun w hw => hts w (List.mem_filter.mp hw).1
  obtain ⟨K, Vv, hs, h67⟩ := str_start hts hGW hgv
  obtain ⟨D, cA, hK⟩ := kn_start hts hGW
  have hE := ex_start hts
  have hent := lv_entry ([.ref b]) (n := 4) nL
  rw [lg_entry_eq]
  generalize (lg_sl ([.ref b]) ++ List.replicate (4 - (lg_sl ([.ref b])).length) Slot.unset).toArray = ls0 at hent ⊢
  have hent : lv_has ls0 4 [(0, .ref b)] := hent
  generalize hXX : ((p, l, e, room_1, s, m, #[Value.ref b], below, meth, c, D, cA, (fun q => s.heap.size ≤ q), b, (fun _ => 0), []) : CX) = X
  have ok : Ok X (mLw meth.name) := by
    rw [← hXX]
    exact ⟨hx, hb, hml, hr, hown, hGW, hlocks, hK, fun q h => h, rfl, rfl, rfl, hE⟩
  have C : Okn X (mLw meth.name) [] 600000 7302250 := by
    refine ⟨ok, ?_, ?_, ?_⟩ <;> (rw [← hXX]; try rfl)
  have lk : LK X meth.name L xs := by
    refine ⟨C, ?_, ?_, ?_, hL⟩
    · rw [← hXX]; exact hX
    · rw [← hXX]; exact hbl
    · rw [← hXX]; exact Nat.not_le.mpr hbl
  have hsX : SS K Vv (xA X) (xS X) (xS X).heap := by rw [← hXX]; exact hs
  have h67X : vk_R RX9 65 tx67 K (xS X) := by rw [← hXX]; exact h67
  have xT0 : xT X = [] := by rw [← hXX]
  have fin : ∀ i M, WW X (lw_Z below #[Value.ref b] s) 968 [(0, .retAddr 0), (1, .ref 0), (2, .ref 57), (3, .int i)] [] (M, gj gm, TTc ++ TTm) := by
    intro i M
    refine ww_iconst C.1 (v := (1 : Int32)) dL_law_968 (by decide) ?_
    subst hXX
    intro ads H locs ls cells slots hl hR
    have e84 : (TTc ++ TTm).length = 84 := rfl
    have h1 : 0 + cells = (TTc ++ TTm).length := hR.2.2.2.2.1
    have h2 : 0 + slots = slT (TTc ++ TTm) := hR.2.2.2.2.2.1
    have e1639 : slT (TTc ++ TTm) = 1639 := by decide
    refine va_forget (fun q hq => hR.2.2.1.2.2 q hq) ?_
    exact W.widen (k := 600000) (n := 7302250) (by omega) (by omega) (lw_ret hx hb hr hlocks dL_law_969)
  have start : WW X (lw_Z below #[Value.ref b] s) 0 [(0, .retAddr 0)] [] (fun _ _ => 0, fun _ _ => none, []) := by
    refine ww_new C (ci := 9) (n := 0) (T' := TTa.take 1) (by decide) rfl inG9 tyX9_ok dfX9 clRL_7 inst9 ini9 dL_law_0 rfl rfl rfl rfl rfl rfl ⟨nL, nL⟩ ?_
    refine ww_dup C.1 dL_law_3 rfl ?_
    refine ww_callJS C hsX h67X c_init fX9_init (And.intro nL nL) mlRL_9 dL_law_4 (As := []) (rest := [.ref 0]) rfl rfl rfl nL ⟨nL, nL⟩ ⟨rfl, rfl⟩ ?_
    rintro v w' ⟨rfl, M1, rfl, af⟩
    show WW X _ 7 [(0, .retAddr 0)] [.ref 0] (M1, gz 45 33 gE, TTc ++ [])
    refine ww_astore_n C.1 dL_law_7 rfl (show 1 < 4 by decide) [1, 0] (L' := [(0, .retAddr 0), (1, .ref 0)]) rfl ?_
    refine ww_perm (π := pi2) (G' := gj gE) pi2_i (ptT []) (fun k j => ?_) (fun k hk2 => ?_) (fun q hq => ?_) (fun v hv => absurd hv List.not_mem_nil) ?_
    · rw [← gz_id, pgz (fun k j a _ h => by cases h)]
      rfl
    · have : (TTc ++ ([] : List (Nat × Nat))).length = 57 := rfl
      have : (xT X).length = 0 := by rw [xT0]; rfl
      exact pi2_o (by omega)
    · simp only [List.mem_cons, List.not_mem_nil, or_false] at hq
      rcases hq with rfl | rfl
      · trivial
      · exact pi2_o (by omega)
    have hz : ∀ k, 57 ≤ k → (fun k => M1 (pi2 k)) k = fun _ => 0 := fun k hk => by
      show M1 (pi2 k) = _
      rw [pi2_o (by omega)]
      exact af.2.2.2.2.2.2.2.2 k hk
    refine ww_new C (ci := 10) (n := 57) (T' := TTa.take 58) (by decide) rfl inG10 tyX10_ok dfX10 clRL_10 inst10 ini10 dL_law_8 rfl (hz 57 (by omega)) (funext fun j => gj_out (Or.inl (by omega))) (by decide) rfl rfl ⟨nL, nL⟩ ?_
    refine ww_dup C.1 dL_law_11 rfl ?_
    refine ww_callJ C (m_init hz) fX10_init (And.intro nL nL) mlRL_12 dL_law_12 (As := []) (rest := [.ref 57]) rfl rfl rfl nL ⟨nL, nL⟩ ⟨rfl, rfl⟩ ?_
    rintro v w' ⟨rfl, M2, rfl, am, f⟩
    show WW X _ 15 [(0, .retAddr 0), (1, .ref 0)] [.ref 57] (M2, gj gm, TTc ++ TTm)
    refine ww_astore_n C.1 dL_law_15 rfl (show 2 < 4 by decide) [1, 2, 0] (L' := [(0, .retAddr 0), (1, .ref 0), (2, .ref 57)]) rfl ?_
    refine ww_iconst C.1 (v := (0 : Int32)) dL_law_16 (by decide) ?_
    refine ww_istore_n C.1 dL_law_17 rfl (show 3 < 4 by decide) [1, 2, 3, 0] (L' := [(0, .retAddr 0), (1, .ref 0), (2, .ref 57), (3, .int (0 : Int32))]) rfl ?_
    exact lw_loop lk fin 256 0 M2 (by omega) (by omega) (inv_start af am (fun c hc => f c hc))
  subst hXX
  exact start (fun _ => 0) s.heap [] ls0 0 0 (by rw [← hml] at hent; exact hent) ⟨fun k q h => by simp [wl] at h, ⟨fun i j p q h => by simp [wl] at h, fun k q h => by simp [wl] at h⟩, va_S.rf, fun _ _ => rfl, rfl, rfl, fun k j a h => by cases h⟩
set_option maxHeartbeats 4000000 in
theorem lw_walk (l : Launch) (b : Addr) (xs : List Int32) : MetFree l x (headSpec (Jvm.Cond.code x code maxLocals ret :: tables_1) room_1) (lw_P b xs) (fun _ _ _ _ _ => True) lw_Q := by
  refine MetFree.of_bodyS (code := code) (maxLocals := maxLocals) (ret := ret) (by decide) ?_ ?_
  · intro args s m h hn
    obtain ⟨meth, c, h1, h2, h3, h4, h5, h6, -, -⟩ := Cond.code_spec hn (atoms_spec (ws := Jvm.Cond.code x code maxLocals ret :: tables_1) h _ List.mem_cons_self)
    exact ⟨meth, c, h1, h2, h3, h4, h5, h6⟩
  · intro p e s m args below meth c s₁ B hml0 hP _
    obtain ⟨rfl, hx, hbd, hgv⟩ := hP
    obtain ⟨scr, harrAt, hlist, hof, hsmall⟩ := hx
    obtain ⟨hcb, hkn, -, -⟩ := State.arrayAt?_spec harrAt
    have hown : s.vm.findClass R_law = some m.cls := findClass_of_methodNamed B.named
    have hts0 : ∀ c ∈ (Jvm.Cond.code x code maxLocals ret :: tables_1), c.before #[Value.ref b] s = true := atoms_spec (ws := Jvm.Cond.code x code maxLocals ret :: tables_1) B.pre
    have hts : ∀ w ∈ lw_tbl, w.before #[Value.ref b] s = true := k2_hts_sels lw_privs (fun w hw => hts0 w (List.mem_cons_of_mem _ hw)) lw_privs_ok
    have hml : c.maxLocals = 4 := B.maxLocals_eq (hts0 _ List.mem_cons_self)
    have X₀ : Stand p l e room_1 s m #[Value.ref b] below meth c s₁ [] 0 0 := Stand.of_body B
    have hh0 : s₁.heap = s.heap := by rw [B.state]; rfl
    have hsz : scr.slots.size = xs.length := by rw [← Array.length_toList, hlist, List.length_map]
    have hval : ∀ j : Nat, j < xs.length → scr.slots[j]? = some (.int (xs.getD j 0)) := fun j hj => by
      rw [← Array.getElem?_toList, hlist]
      simp [hj]
    have hbl : b < s.heap.size := (Array.getElem?_eq_some_iff.mp hcb).1
    have hX : va_X b xs.length (fun j => xs.getD j 0) s s.heap := ⟨scr, hcb, hof, hkn, hsz, hval⟩
    have K : W p l e room_1 s m #[Value.ref b] below meth c s₁.heap [] 0 0 (lw_Z below #[Value.ref b] s) (entryFrame m ([Value.ref b] : List Value).toArray 4) := by
      rw [hh0]
      exact whole_start l hbd ⟨B.exec, B.bytes, B.returns, hml, hown, hts, hX, hbl, B.notSynchronized, hgv⟩
    obtain ⟨t, a1, o, b1, b2, b3⟩ := K s₁ rfl X₀
    exact ⟨t, o, a1, b1, b2, b3⟩
theorem lw_pre_spec {args : Array Value} {s : State} (h : (Jvm.Cond.and given_1 narrow_1).before args s = true) (hr : rest_1_c.before args s = true) : ∃ (b : Addr) (xs : List Int32), lw_P b xs args s := by
  have hs := flat_of_before _ h
  have hq := flat_of_before _ hr
  have hc : (Cond.count 1).before args s = true := hs _ (by decide +kernel)
  have harr : (Cond.arrayOf (.arg 0) .int).before args s = true := hs _ (by decide +kernel)
  have hle : (Cond.le (.length (.arg 0)) (.int 256)).before args s = true := hs _ (by decide +kernel)
  have hlen : (Cond.isInt (.length (.arg 0))).before args s = true := hq _ (by decide +kernel)
  have hall : (Cond.all (.arg 0) (.isInt (.elem (.arg 0) (.index 0)))).before args s = true := hq _ (by decide +kernel)
  obtain ⟨b, xs, hb, hx⟩ := State.ints_of_pre rfl harr hlen hall
  have hsm : xs.length < 2 ^ 31 := hx.choose_spec.2.2.2
  have hev : (Term.length (.arg 0)).eval args s none [] s = some (.int xs.length.toInt32) := hx.length_eval hb
  have hv := Cond.le_ints hev (show (Term.int 256).eval args s none [] s = some (.int 256) from rfl)
  have hd : xs.length.toInt32 ≤ 256 := by
    simpa [Cond.before, Cond.holds, hv] using hle
  have hN : xs.length ≤ 256 := (Int32.ofNat_le_ofNat hsm (by decide)).mp (show Int32.ofNat xs.length ≤ Int32.ofNat 256 from hd)
  exact ⟨b, xs, Cond.one_arg hc (show args[0]? = some (.ref b) from hb), hx, hN, h⟩
theorem lw_comes (l : Launch) : Comes l x (Jvm.Cond.code x code maxLocals ret :: tables_1) room_1 (fun tb e args s => Calls_1 tb e args s ∧ rest_1 tb e args s ∧ Pre_1 tb e args s)
    (fun _ _ args s o t => lw_Q args s o t) := by
  intro p e ha hc hk s m args below hf hfit hheap happ hpre
  obtain ⟨b, xs, hP⟩ := lw_pre_spec hpre.2.2 hpre.2.1
  obtain ⟨k, o, h1, h2, h3, hQ⟩ := lw_walk l b xs p e ha hc hk s m args below hf ((Spec.applies_iff_loose hf).mp happ).1 hP trivial
  exact ⟨k, o, h1, h2, h3, hQ⟩
theorem lw_frame {s t : State} {o : Outcome} {args : Array Value} (h : Framed s o t [] 600000 7302250) :
    Framed s o t (fieldLocs frame_1_writes args s ++ arrayLocs frame_1_arrays args s ++ staticLocs frame_1_statics s) 600000 7302250 := h
theorem lw_limb (L : Cond) (hL : ∀ (args : Array Value) (s t : State), L.after args s (.returned (some (.int 1))) t = true) :
    ArmFor flags0 classFile x code maxLocals ret World_1 tables_1 room_1 Calls_1 rest_1 Pre_1
      (fun tb e a s o t => postC L tb e a s o t ∧ Framed s o t (fieldLocs frame_1_writes a s ++ arrayLocs frame_1_arrays a s ++ staticLocs frame_1_statics s) 600000 7302250) := by
  intro l _ _ _ p e ha hc hk s m args below hf hfit hheap happ hpre
  obtain ⟨k, o, h1, h2, h3, rfl, hF⟩ := lw_comes l p e ha hc hk s m args below hf hfit hheap happ hpre
  exact ⟨k, _, h1, h2, h3, hL args s _, lw_frame hF⟩
theorem i_vc : Claimed_1_1 ∧ Claimed_1_2 := ⟨lw_limb limb_1_1 (fun args s t => by simp [limb_1_1, Cond.after, Cond.holds, Cond.value]), lw_limb limb_1_2 (fun args s t => Cond.after_iff.mpr (by
  first | (rw [show limb_1_2 = Cond.eq .result (.int 1) from rfl, Cond.eq_ints (x := 1) (y := 1) rfl rfl]; simp; done) | (simp [limb_1_2, Cond.value, Term.eval]; done)))⟩
