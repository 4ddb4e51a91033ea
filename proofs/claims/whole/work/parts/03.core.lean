/-! the world as numbers: what each cell holds (M ints, G references, T kinds and lengths); cells are numbered by making, addresses are 'ads' of numbers -/
abbrev Wd : Type := (Nat → Nat → Int32) × (Nat → Nat → Option Nat) × List (Nat × Nat)
def rfB (ci j : Nat) : Bool := match tyOf ci j with
  | .array _ => true
  | .object _ => true
  | _ => false
/-- a value of the numbered world as the machine has it; a retAddr stands for the one thing outside (b) -/
def tv (b : Nat) (ads : Nat → Nat) : Value → Value
  | .ref k => .ref (ads k)
  | .retAddr _ => .ref b
  | v => v
def nxv : Value → Bool
  | .retAddr _ => false
  | _ => true
def fv (ads : Nat → Nat) (w : Wd) (k ci j : Nat) : Value := if rfB ci j then va_rf ((w.2.1 k j).map ads) else .int (w.1 k j)
def ce (cA : ClassId × ClassId × ClassId) (ads : Nat → Nat) (w : Wd) (k : Nat) (t : Nat × Nat) : va_E :=
  if t.1 < 11 then .inr (t.1, (List.range t.2).map (fv ads w k t.1))
  else if t.1 = 20 then .inl (cA.1, t.2, .inl (w.1 k))
  else if t.1 = 21 then .inl (cA.2.1, t.2, .inl (w.1 k))
  else .inl (cA.2.2, t.2, .inr (.inr (.inr (.inr (fun j => (w.2.1 k j).map ads)))))
def wl (cA : ClassId × ClassId × ClassId) (ads : Nat → Nat) (w : Wd) : va_W := w.2.2.mapIdx (fun k t => (ads k, ce cA ads w k t))
theorem wl_get {cA : ClassId × ClassId × ClassId} {ads : Nat → Nat} {w : Wd} {k : Nat} {t : Nat × Nat} (h : w.2.2[k]? = some t) : (wl cA ads w)[k]? = some (ads k, ce cA ads w k t) := by
  unfold wl
  rw [List.getElem?_mapIdx, h]
  rfl
theorem wl_len {cA : ClassId × ClassId × ClassId} {ads : Nat → Nat} {w : Wd} : (wl cA ads w).length = w.2.2.length := by
  unfold wl
  rw [List.length_mapIdx]
theorem wl_get' {cA : ClassId × ClassId × ClassId} {ads : Nat → Nat} {w : Wd} {k : Nat} {q : Nat × va_E} (h : (wl cA ads w)[k]? = some q) : ∃ t, w.2.2[k]? = some t ∧ q = (ads k, ce cA ads w k t) := by
  unfold wl at h
  rw [List.getElem?_mapIdx] at h
  cases hT : w.2.2[k]? with
  | none => rw [hT] at h; cases h
  | some t => rw [hT] at h; cases h; exact ⟨t, rfl, rfl⟩
theorem ce_cong {cA : ClassId × ClassId × ClassId} {ads : Nat → Nat} {w w' : Wd} {k : Nat} {t : Nat × Nat} (hM : w'.1 k = w.1 k) (hG : w'.2.1 k = w.2.1 k) : ce cA ads w' k t = ce cA ads w k t := by
  unfold ce fv
  rw [hM, hG]
theorem wl_set {cA : ClassId × ClassId × ClassId} {ads : Nat → Nat} {w w' : Wd} {c : Nat} {t : Nat × Nat} (hT : w'.2.2 = w.2.2) (ht : w.2.2[c]? = some t) (hM : ∀ k, k ≠ c → w'.1 k = w.1 k) (hG : ∀ k, k ≠ c → w'.2.1 k = w.2.1 k) : wl cA ads w' = (wl cA ads w).set c (ads c, ce cA ads w' c t) := by
  apply List.ext_getElem?
  intro k
  by_cases hk : k = c
  · subst hk
    have hl : k < (wl cA ads w).length := by rw [wl_len]; exact (List.getElem?_eq_some_iff.mp ht).1
    rw [List.getElem?_set_self hl, wl_get (w := w') (by rw [hT]; exact ht)]
  · rw [List.getElem?_set_ne (Ne.symm hk)]
    unfold wl
    rw [List.getElem?_mapIdx, List.getElem?_mapIdx, hT]
    cases hq : w.2.2[k]? with
    | none => rfl
    | some t' =>
      show some (ads k, ce cA ads w' k t') = some (ads k, ce cA ads w k t')
      rw [ce_cong (hM k hk) (hG k hk)]
def wr (M : Nat → Nat → Int32) (c j : Nat) (v : Int32) : Nat → Nat → Int32 := fun k => if k = c then upd (M c) j v else M k
def wrG (G : Nat → Nat → Option Nat) (c j : Nat) (v : Option Nat) : Nat → Nat → Option Nat := fun k i => if k = c ∧ i = j then v else G k i
def wrA (M : Nat → Nat → Int32) (c : Nat) (f : Nat → Int32) : Nat → Nat → Int32 := fun k => if k = c then f else M k
theorem wr_ne {M : Nat → Nat → Int32} {c j k : Nat} {v : Int32} (h : k ≠ c) : wr M c j v k = M k := if_neg h
theorem wr_eq {M : Nat → Nat → Int32} {c j : Nat} {v : Int32} : wr M c j v c = upd (M c) j v := if_pos rfl
theorem wrA_ne {M : Nat → Nat → Int32} {c k : Nat} {f : Nat → Int32} (h : k ≠ c) : wrA M c f k = M k := if_neg h
theorem wrA_eq {M : Nat → Nat → Int32} {c : Nat} {f : Nat → Int32} : wrA M c f c = f := if_pos rfl
def slT (T : List (Nat × Nat)) : Nat := (T.map (·.2)).sum
/-! the words -/
def GW : List Cond := lw_tbl.filter goodWord
theorem GW_in {i : Nat} {w : Cond} (h : lw_tbl[i]? = some w) (g : goodWord w = true) : w ∈ GW := List.mem_filter.mpr ⟨List.mem_of_getElem? h, g⟩
theorem GW_good : GoodIn GW GW := fun w h => ⟨h, good_of_word (List.mem_filter.mp h).2⟩
def NW : List (String × Nat × MethodName × String) := lw_tbl.filterMap (fun w => match w with
  | .methodLinkNest a i x h => some (a, i, x, h)
  | _ => none)
def Ex (s : State) : Prop := (∀ q ∈ NW, va_Nw (.methodLinkNest q.1 q.2.1 q.2.2.1 q.2.2.2) s) ∧ va_Nw (.arrayOver (.array .int)) s
/-- a method: name, code, locals, answer's type, frames and words that it needs -/
abbrev MD : Type := MethodName × ByteArray × Nat × Option FieldType × Nat × Nat
def wsM (md : MD) : List Cond := Cond.code md.1 md.2.1 md.2.2.1 md.2.2.2.1 :: GW
def rmM (md : MD) (mc ms : Nat) : Room := { frames := md.2.2.2.2.1, cells := mc, slots := ms, locals := md.2.2.2.2.2 }
/-- p l e R s m args below meth c; classes' numbers; arrays' classes; what may change; the thing outside; addresses and cells at the start -/
abbrev CX : Type := Program × Launch × Env × Room × State × MethodId × Array Value × List Frame × Method × Code × va_G × (ClassId × ClassId × ClassId) × (Nat → Prop) × Nat × (Nat → Nat) × List (Nat × Nat)
abbrev xR (X : CX) : Room := X.2.2.2.1
abbrev xs (X : CX) : State := X.2.2.2.2.1
abbrev xm (X : CX) : MethodId := X.2.2.2.2.2.1
abbrev xa (X : CX) : Array Value := X.2.2.2.2.2.2.1
abbrev xw (X : CX) : List Frame := X.2.2.2.2.2.2.2.1
abbrev xh (X : CX) : Method := X.2.2.2.2.2.2.2.2.1
abbrev xc (X : CX) : Code := X.2.2.2.2.2.2.2.2.2.1
abbrev xD (X : CX) : va_G := X.2.2.2.2.2.2.2.2.2.2.1
abbrev xC (X : CX) : ClassId × ClassId × ClassId := X.2.2.2.2.2.2.2.2.2.2.2.1
abbrev xA (X : CX) : Nat → Prop := X.2.2.2.2.2.2.2.2.2.2.2.2.1
abbrev xb (X : CX) : Nat := X.2.2.2.2.2.2.2.2.2.2.2.2.2.1
abbrev x0 (X : CX) : Nat → Nat := X.2.2.2.2.2.2.2.2.2.2.2.2.2.2.1
abbrev xT (X : CX) : List (Nat × Nat) := X.2.2.2.2.2.2.2.2.2.2.2.2.2.2.2
abbrev tysA (cA : ClassId × ClassId × ClassId) : List (ClassId × FieldType) := [(cA.1, .int), (cA.2.1, .char), (cA.2.2, .array .int)]
def Ok (X : CX) (md : MD) : Prop := X.1.tables.exec = Jvm.exec ∧ (xc X).code = md.2.1 ∧ (xc X).maxLocals = md.2.2.1 ∧ (xh X).sig.returnType = md.2.2.2.1 ∧ (xs X).vm.findClass md.1.cls = some (xm X).cls ∧ (∀ w ∈ GW, w.before (xa X) (xs X) = true) ∧ (xh X).locks = false ∧ va_K (xD X) vwCl (tysA (xC X)) (xs X) ∧ (∀ q, (xs X).heap.size ≤ q → xA X q) ∧ (xR X).frames = md.2.2.2.2.1 ∧ (xR X).locals = md.2.2.2.2.2 ∧ (xh X).name = md.1.name ∧ Ex (xs X)
def Gwf (w : Wd) : Prop := ∀ k j a, w.2.1 k j = some a → a < w.2.2.length
def Rl (X : CX) (ads : Nat → Nat) (w : Wd) (H : Heap) (locs : List Loc) (cells slots : Nat) : Prop :=
  va_P (xD X) vwCl (wl (xC X) ads w) H ∧ va_D (xA X) (wl (xC X) ads w) ∧ va_S (xA X) (xs X).heap H locs ∧ (∀ k, (k < (xT X).length ∨ w.2.2.length ≤ k) → ads k = x0 X k) ∧ (xT X).length + cells = w.2.2.length ∧ slT (xT X) + slots = slT w.2.2 ∧ Gwf w
abbrev tq (b : Nat) (ads : Nat → Nat) (q : Nat × Value) : Nat × Value := (q.1, tv b ads q.2)
def WW (X : CX) (Q : State → Prop) (pc : Nat) (L : List (Nat × Value)) (S : List Value) (w : Wd) : Prop :=
  ∀ (ads : Nat → Nat) (H : Heap) (locs : List Loc) (ls : Array Slot) (cells slots : Nat), lv_has ls (xc X).maxLocals (L.map (tq (xb X) ads)) → Rl X ads w H locs cells slots →
    W X.1 X.2.1 X.2.2.1 (xR X) (xs X) (xm X) (xa X) (xw X) (xh X) (xc X) H locs cells slots Q (F0 (xm X) pc ls (S.map (tv (xb X) ads)))
theorem tv_cat (b : Nat) (ads : Nat → Nat) (v : Value) : (tv b ads v).category = v.category := by cases v <;> rfl
theorem tq_filter (b : Nat) (ads : Nat → Nat) (f g : Nat → Nat → Bool) (L : List (Nat × Value)) : (L.map (tq b ads)).filter (fun q => f q.1 q.2.category) = (L.filter (fun q => f q.1 q.2.category)).map (tq b ads) := by
  induction L with
  | nil => rfl
  | cons q L ih =>
    simp only [List.map_cons, List.filter_cons, tv_cat, ih]
    split <;> rfl
theorem tq_pick (b : Nat) (ads : Nat → Nat) (L : List (Nat × Value)) (ks : List Nat) : lv_pick (L.map (tq b ads)) ks = (lv_pick L ks).map (tq b ads) := by
  unfold lv_pick
  induction ks with
  | nil => rfl
  | cons k ks ih =>
    rw [List.filterMap_cons, List.filterMap_cons, List.getElem?_map]
    cases L[k]? with
    | none => exact ih
    | some q => exact congrArg (fun z => tq b ads q :: z) ih
section RULES
variable {X : CX} {md : MD} {Q : State → Prop} {pc : Nat} {L L' : List (Nat × Value)} {S : List Value} {w : Wd}
theorem ww_at {ls : Array Slot} {nL b : Nat} {ads : Nat → Nat} (h : lv_has ls nL (L.map (tq b ads))) (j : Nat) {i : Nat} {v : Value} (hj : L[j]? = some (i, v)) : ls[i]? = some (.val (tv b ads v)) :=
  lv_at h j (by rw [List.getElem?_map, hj]; rfl)
theorem ww_loc (ks : List Nat) (h : lv_pick L ks = L') (k : WW X Q pc L' S w) : WW X Q pc L S w := by
  intro ads H locs ls cells slots hl hr
  exact k ads H locs ls cells slots (lv_sub hl ks (by rw [tq_pick, h])) hr
theorem ww_iconst (C : Ok X md) {n : Int} {v : Int32} (d : decode md.2.1 pc = .ok (.iconst n, 1)) (hv : Int32.ofInt n = v) (k : WW X Q (pc + 1) L (.int v :: S) w) : WW X Q pc L S w := by
  intro ads H locs ls cells slots hl hr
  exact lv_iconst C.1 C.2.1 d hv (k ads H locs ls cells slots hl hr)
theorem ww_bipush (C : Ok X md) {n : Int} {v : Int32} (d : decode md.2.1 pc = .ok (.bipush n, 2)) (hv : (Int8.ofInt n).toInt32 = v) (k : WW X Q (pc + 2) L (.int v :: S) w) : WW X Q pc L S w := by
  intro ads H locs ls cells slots hl hr
  exact lv_bipush C.1 C.2.1 d hv (k ads H locs ls cells slots hl hr)
theorem ww_sipush (C : Ok X md) {n : Int} {v : Int32} (d : decode md.2.1 pc = .ok (.sipush n, 3)) (hv : (Int16.ofInt n).toInt32 = v) (k : WW X Q (pc + 3) L (.int v :: S) w) : WW X Q pc L S w := by
  intro ads H locs ls cells slots hl hr
  exact lv_sipush C.1 C.2.1 d hv (k ads H locs ls cells slots hl hr)
theorem ww_lconst (C : Ok X md) {n : Fin 2} {v : Int64} (d : decode md.2.1 pc = .ok (.lconst n, 1)) (hv : Int64.ofNat (n : Nat) = v) (k : WW X Q (pc + 1) L (.long v :: S) w) : WW X Q pc L S w := by
  intro ads H locs ls cells slots hl hr
  exact lv_lconst C.1 C.2.1 d hv (k ads H locs ls cells slots hl hr)
theorem ww_ldc (C : Ok X md) {index : Nat} {v : Int32} (hc : Cond.constant md.1.cls index v ∈ GW) (d : decode md.2.1 pc = .ok (.ldc index, 2)) (k : WW X Q (pc + 2) L (.int v :: S) w) : WW X Q pc L S w := by
  intro ads H locs ls cells slots hl hr
  exact lv_ldc C.1 C.2.1 C.2.2.2.2.1 (C.2.2.2.2.2.1 _ hc) d (k ads H locs ls cells slots hl hr)
theorem ww_ldcw (C : Ok X md) {index : Nat} {v : Int32} (hc : Cond.constant md.1.cls index v ∈ GW) (d : decode md.2.1 pc = .ok (.ldc_w index, 3)) (k : WW X Q (pc + 3) L (.int v :: S) w) : WW X Q pc L S w := by
  intro ads H locs ls cells slots hl hr
  exact lv_ldcw C.1 C.2.1 C.2.2.2.2.1 (C.2.2.2.2.2.1 _ hc) d (k ads H locs ls cells slots hl hr)
theorem ww_ldc2 (C : Ok X md) {index : Nat} {v : Int64} (hc : Cond.constantLong md.1.cls index v ∈ GW) (d : decode md.2.1 pc = .ok (.ldc2_w index, 3)) (k : WW X Q (pc + 3) L (.long v :: S) w) : WW X Q pc L S w := by
  intro ads H locs ls cells slots hl hr
  exact lv_ldc2 C.1 C.2.1 C.2.2.2.2.1 (C.2.2.2.2.2.1 _ hc) d (k ads H locs ls cells slots hl hr)
theorem ww_iload_n (C : Ok X md) {n : Fin 4} {i : Nat} {x : Int32} (d : decode md.2.1 pc = .ok (.iload_n n, 1)) (j : Nat) (hj : L[j]? = some (i, .int x)) (hi : (n : Nat) = i) (k : WW X Q (pc + 1) L (.int x :: S) w) : WW X Q pc L S w := by
  intro ads H locs ls cells slots hl hr
  exact lv_iload_n C.1 C.2.1 d hi (ww_at hl j hj) (k ads H locs ls cells slots hl hr)
theorem ww_iload (C : Ok X md) {i : Nat} {x : Int32} (d : decode md.2.1 pc = .ok (.iload i, 2)) (j : Nat) (hj : L[j]? = some (i, .int x)) (k : WW X Q (pc + 2) L (.int x :: S) w) : WW X Q pc L S w := by
  intro ads H locs ls cells slots hl hr
  exact lv_iload C.1 C.2.1 d (ww_at hl j hj) (k ads H locs ls cells slots hl hr)
theorem ww_lload_n (C : Ok X md) {n : Fin 4} {i : Nat} {x : Int64} (d : decode md.2.1 pc = .ok (.lload_n n, 1)) (j : Nat) (hj : L[j]? = some (i, .long x)) (hi : (n : Nat) = i) (k : WW X Q (pc + 1) L (.long x :: S) w) : WW X Q pc L S w := by
  intro ads H locs ls cells slots hl hr
  exact lv_lload_n C.1 C.2.1 d hi (ww_at hl j hj) (k ads H locs ls cells slots hl hr)
theorem ww_lload (C : Ok X md) {i : Nat} {x : Int64} (d : decode md.2.1 pc = .ok (.lload i, 2)) (j : Nat) (hj : L[j]? = some (i, .long x)) (k : WW X Q (pc + 2) L (.long x :: S) w) : WW X Q pc L S w := by
  intro ads H locs ls cells slots hl hr
  exact lv_lload C.1 C.2.1 d (ww_at hl j hj) (k ads H locs ls cells slots hl hr)
theorem ww_aload_n (C : Ok X md) {n : Fin 4} {i a : Nat} (d : decode md.2.1 pc = .ok (.aload_n n, 1)) (j : Nat) (hj : L[j]? = some (i, .ref a)) (hi : (n : Nat) = i) (k : WW X Q (pc + 1) L (.ref a :: S) w) : WW X Q pc L S w := by
  intro ads H locs ls cells slots hl hr
  exact lv_aload_n C.1 C.2.1 d hi (ww_at hl j hj) (k ads H locs ls cells slots hl hr)
theorem ww_aloadX_n (C : Ok X md) {n : Fin 4} {i a : Nat} (d : decode md.2.1 pc = .ok (.aload_n n, 1)) (j : Nat) (hj : L[j]? = some (i, .retAddr a)) (hi : (n : Nat) = i) (k : WW X Q (pc + 1) L (.retAddr a :: S) w) : WW X Q pc L S w := by
  intro ads H locs ls cells slots hl hr
  exact lv_aload_n C.1 C.2.1 d hi (ww_at hl j hj) (k ads H locs ls cells slots hl hr)
theorem ww_istore_n (C : Ok X md) {n : Fin 4} {i : Nat} {x : Int32} (d : decode md.2.1 pc = .ok (.istore_n n, 1)) (hi : (n : Nat) = i) (hn : i < md.2.2.1) (ks : List Nat) (h : lv_pick ((i, Value.int x) :: L.filter (fun q => !(q.1 == i) && !(q.1 + 1 == i && q.2.category == 2))) ks = L') (k : WW X Q (pc + 1) L' S w) : WW X Q pc L (.int x :: S) w := by
  intro ads H locs ls cells slots hl hr
  refine lv_istore_n (lv' := ((i, Value.int x) :: L.filter (fun q => !(q.1 == i) && !(q.1 + 1 == i && q.2.category == 2))).map (tq (xb X) ads)) C.1 C.2.1 d hi hl (by rw [C.2.2.1]; exact hn) ?_ (fun ls' hl' => ?_)
  · rw [List.map_cons, tq_filter (xb X) ads (fun a c => !(a == i) && !(a + 1 == i && c == 2)) (fun _ _ => true)]; rfl
  · exact k ads H locs ls' cells slots (lv_sub hl' ks (by rw [tq_pick, h])) hr
theorem ww_istore (C : Ok X md) {i : Nat} {x : Int32} (d : decode md.2.1 pc = .ok (.istore i, 2)) (hn : i < md.2.2.1) (ks : List Nat) (h : lv_pick ((i, Value.int x) :: L.filter (fun q => !(q.1 == i) && !(q.1 + 1 == i && q.2.category == 2))) ks = L') (k : WW X Q (pc + 2) L' S w) : WW X Q pc L (.int x :: S) w := by
  intro ads H locs ls cells slots hl hr
  refine lv_istore (lv' := ((i, Value.int x) :: L.filter (fun q => !(q.1 == i) && !(q.1 + 1 == i && q.2.category == 2))).map (tq (xb X) ads)) C.1 C.2.1 d hl (by rw [C.2.2.1]; exact hn) ?_ (fun ls' hl' => ?_)
  · rw [List.map_cons, tq_filter (xb X) ads (fun a c => !(a == i) && !(a + 1 == i && c == 2)) (fun _ _ => true)]; rfl
  · exact k ads H locs ls' cells slots (lv_sub hl' ks (by rw [tq_pick, h])) hr
theorem ww_lstore_n (C : Ok X md) {n : Fin 4} {i : Nat} {x : Int64} (d : decode md.2.1 pc = .ok (.lstore_n n, 1)) (hi : (n : Nat) = i) (hn : i + 1 < md.2.2.1) (ks : List Nat) (h : lv_pick ((i, Value.long x) :: L.filter (fun q => !(q.1 == i) && (!(q.1 == i + 1) && !(q.1 + 1 == i && q.2.category == 2)))) ks = L') (k : WW X Q (pc + 1) L' S w) : WW X Q pc L (.long x :: S) w := by
  intro ads H locs ls cells slots hl hr
  refine lv_lstore_n (lv' := ((i, Value.long x) :: L.filter (fun q => !(q.1 == i) && (!(q.1 == i + 1) && !(q.1 + 1 == i && q.2.category == 2)))).map (tq (xb X) ads)) C.1 C.2.1 d hi hl (by rw [C.2.2.1]; exact hn) ?_ (fun ls' hl' => ?_)
  · rw [List.map_cons, tq_filter (xb X) ads (fun a c => !(a == i) && (!(a == i + 1) && !(a + 1 == i && c == 2))) (fun _ _ => true)]; rfl
  · exact k ads H locs ls' cells slots (lv_sub hl' ks (by rw [tq_pick, h])) hr
theorem ww_lstore (C : Ok X md) {i : Nat} {x : Int64} (d : decode md.2.1 pc = .ok (.lstore i, 2)) (hn : i + 1 < md.2.2.1) (ks : List Nat) (h : lv_pick ((i, Value.long x) :: L.filter (fun q => !(q.1 == i) && (!(q.1 == i + 1) && !(q.1 + 1 == i && q.2.category == 2)))) ks = L') (k : WW X Q (pc + 2) L' S w) : WW X Q pc L (.long x :: S) w := by
  intro ads H locs ls cells slots hl hr
  refine lv_lstore (lv' := ((i, Value.long x) :: L.filter (fun q => !(q.1 == i) && (!(q.1 == i + 1) && !(q.1 + 1 == i && q.2.category == 2)))).map (tq (xb X) ads)) C.1 C.2.1 d hl (by rw [C.2.2.1]; exact hn) ?_ (fun ls' hl' => ?_)
  · rw [List.map_cons, tq_filter (xb X) ads (fun a c => !(a == i) && (!(a == i + 1) && !(a + 1 == i && c == 2))) (fun _ _ => true)]; rfl
  · exact k ads H locs ls' cells slots (lv_sub hl' ks (by rw [tq_pick, h])) hr
theorem ww_astore_n (C : Ok X md) {n : Fin 4} {i a : Nat} (d : decode md.2.1 pc = .ok (.astore_n n, 1)) (hi : (n : Nat) = i) (hn : i < md.2.2.1) (ks : List Nat) (h : lv_pick ((i, Value.ref a) :: L.filter (fun q => !(q.1 == i) && !(q.1 + 1 == i && q.2.category == 2))) ks = L') (k : WW X Q (pc + 1) L' S w) : WW X Q pc L (.ref a :: S) w := by
  intro ads H locs ls cells slots hl hr
  refine lv_astore_n (lv' := ((i, Value.ref a) :: L.filter (fun q => !(q.1 == i) && !(q.1 + 1 == i && q.2.category == 2))).map (tq (xb X) ads)) C.1 C.2.1 d hi hl (by rw [C.2.2.1]; exact hn) ?_ (fun ls' hl' => ?_)
  · rw [List.map_cons, tq_filter (xb X) ads (fun a c => !(a == i) && !(a + 1 == i && c == 2)) (fun _ _ => true)]; rfl
  · exact k ads H locs ls' cells slots (lv_sub hl' ks (by rw [tq_pick, h])) hr
theorem ww_iinc (C : Ok X md) {i : Nat} {n : Int} {x v : Int32} (d : decode md.2.1 pc = .ok (.iinc i n, 3)) (j : Nat) (hj : L[j]? = some (i, .int x)) (hv : x + Int32.ofInt n = v) (hn : i < md.2.2.1) (ks : List Nat) (h : lv_pick ((i, Value.int v) :: L.filter (fun q => !(q.1 == i) && !(q.1 + 1 == i && q.2.category == 2))) ks = L') (k : WW X Q (pc + 3) L' S w) : WW X Q pc L S w := by
  intro ads H locs ls cells slots hl hr
  refine lv_iinc (k := j) (lv' := ((i, Value.int v) :: L.filter (fun q => !(q.1 == i) && !(q.1 + 1 == i && q.2.category == 2))).map (tq (xb X) ads)) C.1 C.2.1 d hl (x := x) (by rw [List.getElem?_map, hj]; rfl) hv (by rw [C.2.2.1]; exact hn) ?_ (fun ls' hl' => ?_)
  · rw [List.map_cons, tq_filter (xb X) ads (fun a c => !(a == i) && !(a + 1 == i && c == 2)) (fun _ _ => true)]; rfl
  · exact k ads H locs ls' cells slots (lv_sub hl' ks (by rw [tq_pick, h])) hr
theorem ww_iadd (C : Ok X md) {x y : Int32} (d : decode md.2.1 pc = .ok (.iadd, 1))  (k : WW X Q (pc + 1) L (.int (x + y) :: S) w) : WW X Q pc L (.int y :: .int x :: S) w := by
  intro ads H locs ls cells slots hl hr
  exact lv_iadd C.1 C.2.1 d  (k ads H locs ls cells slots hl hr)
theorem ww_isub (C : Ok X md) {x y : Int32} (d : decode md.2.1 pc = .ok (.isub, 1))  (k : WW X Q (pc + 1) L (.int (x - y) :: S) w) : WW X Q pc L (.int y :: .int x :: S) w := by
  intro ads H locs ls cells slots hl hr
  exact lv_isub C.1 C.2.1 d  (k ads H locs ls cells slots hl hr)
theorem ww_imul (C : Ok X md) {x y : Int32} (d : decode md.2.1 pc = .ok (.imul, 1))  (k : WW X Q (pc + 1) L (.int (x * y) :: S) w) : WW X Q pc L (.int y :: .int x :: S) w := by
  intro ads H locs ls cells slots hl hr
  exact lv_imul C.1 C.2.1 d  (k ads H locs ls cells slots hl hr)
theorem ww_iand (C : Ok X md) {x y : Int32} (d : decode md.2.1 pc = .ok (.iand, 1))  (k : WW X Q (pc + 1) L (.int (x &&& y) :: S) w) : WW X Q pc L (.int y :: .int x :: S) w := by
  intro ads H locs ls cells slots hl hr
  exact lv_iand C.1 C.2.1 d  (k ads H locs ls cells slots hl hr)
theorem ww_ior (C : Ok X md) {x y : Int32} (d : decode md.2.1 pc = .ok (.ior, 1))  (k : WW X Q (pc + 1) L (.int (x ||| y) :: S) w) : WW X Q pc L (.int y :: .int x :: S) w := by
  intro ads H locs ls cells slots hl hr
  exact lv_ior C.1 C.2.1 d  (k ads H locs ls cells slots hl hr)
theorem ww_ixor (C : Ok X md) {x y : Int32} (d : decode md.2.1 pc = .ok (.ixor, 1))  (k : WW X Q (pc + 1) L (.int (x ^^^ y) :: S) w) : WW X Q pc L (.int y :: .int x :: S) w := by
  intro ads H locs ls cells slots hl hr
  exact lv_ixor C.1 C.2.1 d  (k ads H locs ls cells slots hl hr)
theorem ww_ishl (C : Ok X md) {x y : Int32} (d : decode md.2.1 pc = .ok (.ishl, 1))  (k : WW X Q (pc + 1) L (.int (x <<< (y &&& 31)) :: S) w) : WW X Q pc L (.int y :: .int x :: S) w := by
  intro ads H locs ls cells slots hl hr
  exact lv_ishl C.1 C.2.1 d  (k ads H locs ls cells slots hl hr)
theorem ww_ishr (C : Ok X md) {x y : Int32} (d : decode md.2.1 pc = .ok (.ishr, 1))  (k : WW X Q (pc + 1) L (.int (x >>> (y &&& 31)) :: S) w) : WW X Q pc L (.int y :: .int x :: S) w := by
  intro ads H locs ls cells slots hl hr
  exact lv_ishr C.1 C.2.1 d  (k ads H locs ls cells slots hl hr)
theorem ww_idiv (C : Ok X md) {x y : Int32} (d : decode md.2.1 pc = .ok (.idiv, 1)) (hne : ¬ y = 0) (k : WW X Q (pc + 1) L (.int (x / y) :: S) w) : WW X Q pc L (.int y :: .int x :: S) w := by
  intro ads H locs ls cells slots hl hr
  exact lv_idiv C.1 C.2.1 d hne (k ads H locs ls cells slots hl hr)
theorem ww_irem (C : Ok X md) {x y : Int32} (d : decode md.2.1 pc = .ok (.irem, 1)) (hne : ¬ y = 0) (k : WW X Q (pc + 1) L (.int (x - x / y * y) :: S) w) : WW X Q pc L (.int y :: .int x :: S) w := by
  intro ads H locs ls cells slots hl hr
  exact lv_irem C.1 C.2.1 d hne (k ads H locs ls cells slots hl hr)
theorem ww_ineg (C : Ok X md) {x : Int32} (d : decode md.2.1 pc = .ok (.ineg, 1))  (k : WW X Q (pc + 1) L (.int (-x) :: S) w) : WW X Q pc L (.int x :: S) w := by
  intro ads H locs ls cells slots hl hr
  exact lv_ineg C.1 C.2.1 d  (k ads H locs ls cells slots hl hr)
theorem ww_ladd (C : Ok X md) {x y : Int64} (d : decode md.2.1 pc = .ok (.ladd, 1))  (k : WW X Q (pc + 1) L (.long (x + y) :: S) w) : WW X Q pc L (.long y :: .long x :: S) w := by
  intro ads H locs ls cells slots hl hr
  exact lv_ladd C.1 C.2.1 d  (k ads H locs ls cells slots hl hr)
theorem ww_lsub (C : Ok X md) {x y : Int64} (d : decode md.2.1 pc = .ok (.lsub, 1))  (k : WW X Q (pc + 1) L (.long (x - y) :: S) w) : WW X Q pc L (.long y :: .long x :: S) w := by
  intro ads H locs ls cells slots hl hr
  exact lv_lsub C.1 C.2.1 d  (k ads H locs ls cells slots hl hr)
theorem ww_lmul (C : Ok X md) {x y : Int64} (d : decode md.2.1 pc = .ok (.lmul, 1))  (k : WW X Q (pc + 1) L (.long (x * y) :: S) w) : WW X Q pc L (.long y :: .long x :: S) w := by
  intro ads H locs ls cells slots hl hr
  exact lv_lmul C.1 C.2.1 d  (k ads H locs ls cells slots hl hr)
theorem ww_lrem (C : Ok X md) {x y : Int64} (d : decode md.2.1 pc = .ok (.lrem, 1)) (hne : ¬ y = 0) (k : WW X Q (pc + 1) L (.long (x - x / y * y) :: S) w) : WW X Q pc L (.long y :: .long x :: S) w := by
  intro ads H locs ls cells slots hl hr
  exact lv_lrem C.1 C.2.1 d hne (k ads H locs ls cells slots hl hr)
theorem ww_i2l (C : Ok X md) {x : Int32} {v : Int64} (d : decode md.2.1 pc = .ok (.i2l, 1)) (hv : x.toInt64 = v) (k : WW X Q (pc + 1) L (.long v :: S) w) : WW X Q pc L (.int x :: S) w := by
  intro ads H locs ls cells slots hl hr
  exact lv_i2l C.1 C.2.1 d hv (k ads H locs ls cells slots hl hr)
theorem ww_l2i (C : Ok X md) {x : Int64} {v : Int32} (d : decode md.2.1 pc = .ok (.l2i, 1)) (hv : x.toInt32 = v) (k : WW X Q (pc + 1) L (.int v :: S) w) : WW X Q pc L (.long x :: S) w := by
  intro ads H locs ls cells slots hl hr
  exact lv_l2i C.1 C.2.1 d hv (k ads H locs ls cells slots hl hr)
theorem ww_i2c (C : Ok X md) {x v : Int32} (d : decode md.2.1 pc = .ok (.i2c, 1)) (hv : (x.toUInt32 % 65536).toInt32 = v) (k : WW X Q (pc + 1) L (.int v :: S) w) : WW X Q pc L (.int x :: S) w := by
  intro ads H locs ls cells slots hl hr
  exact lv_i2c C.1 C.2.1 d hv (k ads H locs ls cells slots hl hr)
theorem ww_iushr (C : Ok X md) {x y v : Int32} (d : decode md.2.1 pc = .ok (.iushr, 1)) (hv : (x.toUInt32 >>> (y.toUInt32 &&& Int32.toUInt32 31)).toInt32 = v) (k : WW X Q (pc + 1) L (.int v :: S) w) : WW X Q pc L (.int y :: .int x :: S) w := by
  intro ads H locs ls cells slots hl hr
  exact lv_iushr C.1 C.2.1 d hv (k ads H locs ls cells slots hl hr)
theorem ww_lcmp (C : Ok X md) {x y : Int64} (d : decode md.2.1 pc = .ok (.lcmp, 1)) (k : WW X Q (pc + 1) L (.int (lg_cmp x y) :: S) w) : WW X Q pc L (.long y :: .long x :: S) w := by
  intro ads H locs ls cells slots hl hr
  exact W.lcmp C.1 C.2.1 d (k ads H locs ls cells slots hl hr)
theorem ww_dup (C : Ok X md) {v : Value} (d : decode md.2.1 pc = .ok (.dup, 1)) (hv : v.category = 1) (k : WW X Q (pc + 1) L (v :: v :: S) w) : WW X Q pc L (v :: S) w := by
  intro ads H locs ls cells slots hl hr
  exact lv_dup C.1 C.2.1 d (by rw [tv_cat]; exact hv) (k ads H locs ls cells slots hl hr)
theorem ww_pop (C : Ok X md) {v : Value} (d : decode md.2.1 pc = .ok (.pop, 1)) (hv : v.category = 1) (k : WW X Q (pc + 1) L S w) : WW X Q pc L (v :: S) w := by
  intro ads H locs ls cells slots hl hr
  exact lv_pop C.1 C.2.1 d (by rw [tv_cat]; exact hv) (k ads H locs ls cells slots hl hr)
theorem ww_dup2 (C : Ok X md) {u v : Value} (d : decode md.2.1 pc = .ok (.dup2, 1)) (hu : u.category = 1) (hv : v.category = 1) (k : WW X Q (pc + 1) L (u :: v :: u :: v :: S) w) : WW X Q pc L (u :: v :: S) w := by
  intro ads H locs ls cells slots hl hr
  exact lv_dup2_11 C.1 C.2.1 d (by rw [tv_cat]; exact hu) (by rw [tv_cat]; exact hv) (k ads H locs ls cells slots hl hr)
theorem ww_goto (C : Ok X md) {off : Int} {tgt : Nat} (d : decode md.2.1 pc = .ok (.goto off, 3)) (ht : (pc : Int) + off = (tgt : Int)) (k : WW X Q tgt L S w) : WW X Q pc L S w := by
  intro ads H locs ls cells slots hl hr
  exact lv_goto C.1 C.2.1 d ht (k ads H locs ls cells slots hl hr)
theorem ww_if_eq (C : Ok X md) {x : Int32} {off : Int} {tgt : Nat} (d : decode md.2.1 pc = .ok (.ifCond .eq off, 3)) (ht : (pc : Int) + off = (tgt : Int)) (kt : x = 0 → WW X Q tgt L S w) (kf : ¬ x = 0 → WW X Q (pc + 3) L S w) : WW X Q pc L (.int x :: S) w := by
  intro ads H locs ls cells slots hl hr
  exact lv_if_eq C.1 C.2.1 d ht (fun h => kt h ads H locs ls cells slots hl hr) (fun h => kf h ads H locs ls cells slots hl hr)
theorem ww_icmp_eq (C : Ok X md) {x y : Int32} {off : Int} {tgt : Nat} (d : decode md.2.1 pc = .ok (.if_icmp .eq off, 3)) (ht : (pc : Int) + off = (tgt : Int)) (kt : x = y → WW X Q tgt L S w) (kf : ¬ x = y → WW X Q (pc + 3) L S w) : WW X Q pc L (.int y :: .int x :: S) w := by
  intro ads H locs ls cells slots hl hr
  exact lv_icmp_eq C.1 C.2.1 d ht (fun h => kt h ads H locs ls cells slots hl hr) (fun h => kf h ads H locs ls cells slots hl hr)
theorem ww_if_ne (C : Ok X md) {x : Int32} {off : Int} {tgt : Nat} (d : decode md.2.1 pc = .ok (.ifCond .ne off, 3)) (ht : (pc : Int) + off = (tgt : Int)) (kt : ¬ x = 0 → WW X Q tgt L S w) (kf : x = 0 → WW X Q (pc + 3) L S w) : WW X Q pc L (.int x :: S) w := by
  intro ads H locs ls cells slots hl hr
  exact lv_if_ne C.1 C.2.1 d ht (fun h => kt h ads H locs ls cells slots hl hr) (fun h => kf h ads H locs ls cells slots hl hr)
theorem ww_icmp_ne (C : Ok X md) {x y : Int32} {off : Int} {tgt : Nat} (d : decode md.2.1 pc = .ok (.if_icmp .ne off, 3)) (ht : (pc : Int) + off = (tgt : Int)) (kt : ¬ x = y → WW X Q tgt L S w) (kf : x = y → WW X Q (pc + 3) L S w) : WW X Q pc L (.int y :: .int x :: S) w := by
  intro ads H locs ls cells slots hl hr
  exact lv_icmp_ne C.1 C.2.1 d ht (fun h => kt h ads H locs ls cells slots hl hr) (fun h => kf h ads H locs ls cells slots hl hr)
theorem ww_if_lt (C : Ok X md) {x : Int32} {off : Int} {tgt : Nat} (d : decode md.2.1 pc = .ok (.ifCond .lt off, 3)) (ht : (pc : Int) + off = (tgt : Int)) (kt : x < 0 → WW X Q tgt L S w) (kf : ¬ x < 0 → WW X Q (pc + 3) L S w) : WW X Q pc L (.int x :: S) w := by
  intro ads H locs ls cells slots hl hr
  exact lv_if_lt C.1 C.2.1 d ht (fun h => kt h ads H locs ls cells slots hl hr) (fun h => kf h ads H locs ls cells slots hl hr)
theorem ww_icmp_lt (C : Ok X md) {x y : Int32} {off : Int} {tgt : Nat} (d : decode md.2.1 pc = .ok (.if_icmp .lt off, 3)) (ht : (pc : Int) + off = (tgt : Int)) (kt : x < y → WW X Q tgt L S w) (kf : ¬ x < y → WW X Q (pc + 3) L S w) : WW X Q pc L (.int y :: .int x :: S) w := by
  intro ads H locs ls cells slots hl hr
  exact lv_icmp_lt C.1 C.2.1 d ht (fun h => kt h ads H locs ls cells slots hl hr) (fun h => kf h ads H locs ls cells slots hl hr)
theorem ww_if_ge (C : Ok X md) {x : Int32} {off : Int} {tgt : Nat} (d : decode md.2.1 pc = .ok (.ifCond .ge off, 3)) (ht : (pc : Int) + off = (tgt : Int)) (kt : 0 ≤ x → WW X Q tgt L S w) (kf : ¬ 0 ≤ x → WW X Q (pc + 3) L S w) : WW X Q pc L (.int x :: S) w := by
  intro ads H locs ls cells slots hl hr
  exact lv_if_ge C.1 C.2.1 d ht (fun h => kt h ads H locs ls cells slots hl hr) (fun h => kf h ads H locs ls cells slots hl hr)
theorem ww_icmp_ge (C : Ok X md) {x y : Int32} {off : Int} {tgt : Nat} (d : decode md.2.1 pc = .ok (.if_icmp .ge off, 3)) (ht : (pc : Int) + off = (tgt : Int)) (kt : y ≤ x → WW X Q tgt L S w) (kf : ¬ y ≤ x → WW X Q (pc + 3) L S w) : WW X Q pc L (.int y :: .int x :: S) w := by
  intro ads H locs ls cells slots hl hr
  exact lv_icmp_ge C.1 C.2.1 d ht (fun h => kt h ads H locs ls cells slots hl hr) (fun h => kf h ads H locs ls cells slots hl hr)
theorem ww_if_gt (C : Ok X md) {x : Int32} {off : Int} {tgt : Nat} (d : decode md.2.1 pc = .ok (.ifCond .gt off, 3)) (ht : (pc : Int) + off = (tgt : Int)) (kt : 0 < x → WW X Q tgt L S w) (kf : ¬ 0 < x → WW X Q (pc + 3) L S w) : WW X Q pc L (.int x :: S) w := by
  intro ads H locs ls cells slots hl hr
  exact lv_if_gt C.1 C.2.1 d ht (fun h => kt h ads H locs ls cells slots hl hr) (fun h => kf h ads H locs ls cells slots hl hr)
theorem ww_icmp_gt (C : Ok X md) {x y : Int32} {off : Int} {tgt : Nat} (d : decode md.2.1 pc = .ok (.if_icmp .gt off, 3)) (ht : (pc : Int) + off = (tgt : Int)) (kt : y < x → WW X Q tgt L S w) (kf : ¬ y < x → WW X Q (pc + 3) L S w) : WW X Q pc L (.int y :: .int x :: S) w := by
  intro ads H locs ls cells slots hl hr
  exact lv_icmp_gt C.1 C.2.1 d ht (fun h => kt h ads H locs ls cells slots hl hr) (fun h => kf h ads H locs ls cells slots hl hr)
theorem ww_if_le (C : Ok X md) {x : Int32} {off : Int} {tgt : Nat} (d : decode md.2.1 pc = .ok (.ifCond .le off, 3)) (ht : (pc : Int) + off = (tgt : Int)) (kt : x ≤ 0 → WW X Q tgt L S w) (kf : ¬ x ≤ 0 → WW X Q (pc + 3) L S w) : WW X Q pc L (.int x :: S) w := by
  intro ads H locs ls cells slots hl hr
  exact lv_if_le C.1 C.2.1 d ht (fun h => kt h ads H locs ls cells slots hl hr) (fun h => kf h ads H locs ls cells slots hl hr)
theorem ww_icmp_le (C : Ok X md) {x y : Int32} {off : Int} {tgt : Nat} (d : decode md.2.1 pc = .ok (.if_icmp .le off, 3)) (ht : (pc : Int) + off = (tgt : Int)) (kt : x ≤ y → WW X Q tgt L S w) (kf : ¬ x ≤ y → WW X Q (pc + 3) L S w) : WW X Q pc L (.int y :: .int x :: S) w := by
  intro ads H locs ls cells slots hl hr
  exact lv_icmp_le C.1 C.2.1 d ht (fun h => kt h ads H locs ls cells slots hl hr) (fun h => kf h ads H locs ls cells slots hl hr)
theorem ww_tableOut (C : Ok X md) {dflt lo hi : Int} {offs : Array Int} {len : Nat} {x : Int32} {tgt : Nat} (d : decode md.2.1 pc = .ok (.tableswitch dflt lo hi offs, len)) (h : x.toInt < lo ∨ hi < x.toInt) (ht : (pc : Int) + dflt = (tgt : Int)) (k : WW X Q tgt L S w) : WW X Q pc L (.int x :: S) w := by
  intro ads H locs ls cells slots hl hr
  exact lv_tableOut C.1 C.2.1 d h ht (k ads H locs ls cells slots hl hr)
theorem ww_tableIn (C : Ok X md) {dflt lo hi : Int} {offs : Array Int} {len : Nat} {x : Int32} {off : Int} {tgt : Nat} (d : decode md.2.1 pc = .ok (.tableswitch dflt lo hi offs, len)) (h1 : ¬ x.toInt < lo) (h2 : ¬ hi < x.toInt) (ho : offs[(x.toInt - lo).toNat]? = some off) (ht : (pc : Int) + off = (tgt : Int)) (k : WW X Q tgt L S w) : WW X Q pc L (.int x :: S) w := by
  intro ads H locs ls cells slots hl hr
  exact lv_tableIn C.1 C.2.1 d h1 h2 ho ht (k ads H locs ls cells slots hl hr)
theorem ww_lookup (C : Ok X md) {dflt : Int} {ps : Array (Int × Int)} {len : Nat} {x : Int32} {off : Int} {tgt : Nat} (d : decode md.2.1 pc = .ok (.lookupswitch dflt ps, len)) (hp : (ps.toList.zip (ps.toList.drop 1)).all (fun (a, next) => a.1 < next.1) = true) (ho : Op.lookupswitch.offset ps.toList dflt x.toInt = off) (ht : (pc : Int) + off = (tgt : Int)) (k : WW X Q tgt L S w) : WW X Q pc L (.int x :: S) w := by
  intro ads H locs ls cells slots hl hr
  exact lv_lookup C.1 C.2.1 d hp ho ht (k ads H locs ls cells slots hl hr)
end RULES
