/-! fields, arrays, new cells, calls, answers -/
def FL (own : String) (idx ci N j : Nat) (fin : Bool) (ty : FieldType) : Prop := ∃ (C : String) (T : u_T), ci < 11 ∧ vwCl[ci]? = some (C, T, N) ∧ j < N ∧ (∀ w ∈ u_ws C T N, w ∈ GW) ∧ Cond.fieldLink own idx (T j).1 (T j).2.1 (T j).2.2.1 ∈ GW ∧ (∀ k, k < N → parseFieldDescriptor (T k).2.2.1 = some (tyOf ci k)) ∧ (∀ a, a < N → ∀ b, b < N → a ≠ b → (T a).2.1 ≠ (T b).2.1) ∧ (T j).2.2.2 = fin ∧ tyOf ci j = ty
theorem ce_obj {cA : ClassId × ClassId × ClassId} {ads : Nat → Nat} {w : Wd} {k ci N : Nat} (h : ci < 11) : ce cA ads w k (ci, N) = .inr (ci, (List.range N).map (fv ads w k ci)) := if_pos h
theorem ce_ints {cA : ClassId × ClassId × ClassId} {ads : Nat → Nat} {w : Wd} {k n : Nat} : ce cA ads w k (20, n) = .inl (cA.1, n, .inl (w.1 k)) := rfl
theorem ce_chars {cA : ClassId × ClassId × ClassId} {ads : Nat → Nat} {w : Wd} {k n : Nat} : ce cA ads w k (21, n) = .inl (cA.2.1, n, .inl (w.1 k)) := rfl
theorem ce_rows {cA : ClassId × ClassId × ClassId} {ads : Nat → Nat} {w : Wd} {k n : Nat} : ce cA ads w k (22, n) = .inl (cA.2.2, n, .inr (.inr (.inr (.inr (fun j => (w.2.1 k j).map ads))))) := rfl
theorem range_at {α : Type} {f : Nat → α} {N j : Nat} (h : j < N) : ((List.range N).map f)[j]? = some (f j) := by
  rw [List.getElem?_map, List.getElem?_range h]
  rfl
theorem range_set {α : Type} {f g : Nat → α} {N j : Nat} {v : α} (hj : g j = v) (ho : ∀ k, k ≠ j → g k = f k) : ((List.range N).map f).set j v = (List.range N).map g := by
  apply List.ext_getElem?
  intro k
  by_cases hk : k = j
  · subst hk
    by_cases hl : k < N
    · rw [List.getElem?_set_self (by simpa using hl), range_at hl, hj]
    · rw [List.getElem?_eq_none (by simpa using hl), List.getElem?_eq_none (by simpa using hl)]
  · rw [List.getElem?_set_ne (Ne.symm hk)]
    by_cases hl : k < N
    · rw [range_at hl, range_at hl, ho k hk]
    · rw [List.getElem?_eq_none (by simpa using hl), List.getElem?_eq_none (by simpa using hl)]
section HEAP
variable {X : CX} {md : MD} {Q : State → Prop} {pc : Nat} {L L' : List (Nat × Value)} {S : List Value} {w : Wd}
theorem Ok.hts (C : Ok X md) : ∀ w ∈ GW, w.before (xa X) (xs X) = true := C.2.2.2.2.2.1
theorem Ok.K (C : Ok X md) : va_K (xD X) vwCl (tysA (xC X)) (xs X) := C.2.2.2.2.2.2.2.1
theorem Ok.hA (C : Ok X md) : ∀ q, (xs X).heap.size ≤ q → xA X q := C.2.2.2.2.2.2.2.2.1
theorem Ok.own (C : Ok X md) : (xs X).vm.findClass md.1.cls = some (xm X).cls := C.2.2.2.2.1
theorem Ok.fr (C : Ok X md) : (xR X).frames = md.2.2.2.2.1 := C.2.2.2.2.2.2.2.2.2.1
theorem Ok.lo (C : Ok X md) : (xR X).locals = md.2.2.2.2.2 := C.2.2.2.2.2.2.2.2.2.2.1
theorem Ok.nm (C : Ok X md) : (xh X).name = md.1.name := C.2.2.2.2.2.2.2.2.2.2.2.1
theorem Ok.ex (C : Ok X md) : Ex (xs X) := C.2.2.2.2.2.2.2.2.2.2.2.2
theorem ww_getI (C : Ok X md) {idx ci N j a : Nat} {fin : Bool} {ty : FieldType} (d : decode md.2.1 pc = .ok (.getfield idx, 3)) (f : FL md.1.cls idx ci N j fin ty) (hT : w.2.2[a]? = some (ci, N)) (hr : rfB ci j = false) (k : WW X Q (pc + 3) L (.int (w.1 a j) :: S) w) : WW X Q pc L (.ref a :: S) w := by
  obtain ⟨Cn, T, h11, hc, hj, hin, hlk, hty, hnm, hf, hy⟩ := f
  intro ads H locs ls cells slots hl hR
  have he := wl_get (cA := xC X) (ads := ads) hT
  rw [ce_obj h11] at he
  refine va_get (D := xD X) (cl := vwCl) C.1 C.2.1 C.hts hin C.own C.K hR.1 a he hc j hj (C.hts _ hlk) (fun _ h => h) (v := .int (w.1 a j)) ?_ d (k ads H locs ls cells slots hl hR)
  rw [range_at hj]
  unfold fv
  rw [hr]
  rfl
theorem ww_getR (C : Ok X md) {idx ci N j a r : Nat} {fin : Bool} {ty : FieldType} (d : decode md.2.1 pc = .ok (.getfield idx, 3)) (f : FL md.1.cls idx ci N j fin ty) (hT : w.2.2[a]? = some (ci, N)) (hr : rfB ci j = true) (hg : w.2.1 a j = some r) (k : WW X Q (pc + 3) L (.ref r :: S) w) : WW X Q pc L (.ref a :: S) w := by
  obtain ⟨Cn, T, h11, hc, hj, hin, hlk, hty, hnm, hf, hy⟩ := f
  intro ads H locs ls cells slots hl hR
  have he := wl_get (cA := xC X) (ads := ads) hT
  rw [ce_obj h11] at he
  refine va_get (D := xD X) (cl := vwCl) C.1 C.2.1 C.hts hin C.own C.K hR.1 a he hc j hj (C.hts _ hlk) (fun _ h => h) (v := .ref (ads r)) ?_ d (k ads H locs ls cells slots hl hR)
  rw [range_at hj]
  unfold fv
  rw [hr, hg]
  rfl
theorem Rl.putM {ads : Nat → Nat} {H H1 : Heap} {locs locs1 : List Loc} {cells slots : Nat} {M' : Nat → Nat → Int32} {c : Nat} {t : Nat × Nat} (hR : Rl X ads w H locs cells slots) (ht : w.2.2[c]? = some t) (hM : ∀ k, k ≠ c → M' k = w.1 k) {e : Nat × va_E} (he : e = (ads c, ce (xC X) ads (M', w.2.1, w.2.2) c t)) (hP : va_P (xD X) vwCl ((wl (xC X) ads w).set c e) H1) (hD : va_D (xA X) ((wl (xC X) ads w).set c e)) (hS : va_S (xA X) (xs X).heap H1 locs1) : Rl X ads (M', w.2.1, w.2.2) H1 locs1 cells slots := by
  have hw := wl_set (cA := xC X) (ads := ads) (w := w) (w' := (M', w.2.1, w.2.2)) rfl ht hM (fun _ _ => rfl)
  rw [he, ← hw] at hP hD
  exact ⟨hP, hD, hS, hR.2.2.2⟩
theorem fv_wr {ads : Nat → Nat} {a ci j N : Nat} {x : Int32} (hr : rfB ci j = false) : ((List.range N).map (fv ads w a ci)).set j (.int x) = (List.range N).map (fv ads (wr w.1 a j x, w.2.1, w.2.2) a ci) := by
  apply range_set
  · simp [fv, hr, wr, upd]
  · intro q hq
    simp [fv, wr, upd, hq]
theorem ww_putI (C : Ok X md) {idx ci N j a : Nat} {x : Int32} (d : decode md.2.1 pc = .ok (.putfield idx, 3)) (f : FL md.1.cls idx ci N j false .int) (hT : w.2.2[a]? = some (ci, N)) (hr : rfB ci j = false) (k : WW X Q (pc + 3) L S (wr w.1 a j x, w.2.1, w.2.2)) : WW X Q pc L (.int x :: .ref a :: S) w := by
  obtain ⟨Cn, T, h11, hc, hj, hin, hlk, hty, hnm, hf, hy⟩ := f
  intro ads H locs ls cells slots hl hR
  have he := wl_get (cA := xC X) (ads := ads) hT
  rw [ce_obj h11] at he
  refine va_put (D := xD X) (cl := vwCl) (v := .int x) (ty := .int) C.1 C.2.1 C.hts hin (tyOf ci) hty hnm C.own C.K hR.1 hR.2.1 hR.2.2.1 a he hc j hj (C.hts _ hlk) (fun _ h => h) hf (by rw [hty j hj, hy]) rfl rfl (by simpa using hj) d (fun H1 locs1 hP hD hS => k ads H1 locs1 ls cells slots hl (hR.putM hT (fun q hq => wr_ne hq) ?_ hP hD hS))
  rw [ce_obj h11, fv_wr hr]
theorem ww_putZ (C : Ok X md) {idx ci N j a : Nat} {x : Int32} (d : decode md.2.1 pc = .ok (.putfield idx, 3)) (f : FL md.1.cls idx ci N j false .boolean) (hT : w.2.2[a]? = some (ci, N)) (hr : rfB ci j = false) (hx : x = 0 ∨ x = 1) (k : WW X Q (pc + 3) L S (wr w.1 a j x, w.2.1, w.2.2)) : WW X Q pc L (.int x :: .ref a :: S) w := by
  obtain ⟨Cn, T, h11, hc, hj, hin, hlk, hty, hnm, hf, hy⟩ := f
  intro ads H locs ls cells slots hl hR
  have he := wl_get (cA := xC X) (ads := ads) hT
  rw [ce_obj h11] at he
  refine va_put (D := xD X) (cl := vwCl) (v := .int x) (ty := .boolean) C.1 C.2.1 C.hts hin (tyOf ci) hty hnm C.own C.K hR.1 hR.2.1 hR.2.2.1 a he hc j hj (C.hts _ hlk) (fun _ h => h) hf (by rw [hty j hj, hy]) (by rcases hx with rfl | rfl <;> rfl) (by rcases hx with rfl | rfl <;> rfl) (by simpa using hj) d (fun H1 locs1 hP hD hS => k ads H1 locs1 ls cells slots hl (hR.putM hT (fun q hq => wr_ne hq) ?_ hP hD hS))
  rw [ce_obj h11, fv_wr hr]
theorem Rl.putG {ads : Nat → Nat} {H H1 : Heap} {locs locs1 : List Loc} {cells slots : Nat} {c j r : Nat} {t : Nat × Nat} (hR : Rl X ads w H locs cells slots) (ht : w.2.2[c]? = some t) (hr : r < w.2.2.length) {e : Nat × va_E} (he : e = (ads c, ce (xC X) ads (w.1, wrG w.2.1 c j (some r), w.2.2) c t)) (hP : va_P (xD X) vwCl ((wl (xC X) ads w).set c e) H1) (hD : va_D (xA X) ((wl (xC X) ads w).set c e)) (hS : va_S (xA X) (xs X).heap H1 locs1) : Rl X ads (w.1, wrG w.2.1 c j (some r), w.2.2) H1 locs1 cells slots := by
  have hw := wl_set (cA := xC X) (ads := ads) (w := w) (w' := (w.1, wrG w.2.1 c j (some r), w.2.2)) rfl ht (fun _ _ => rfl) (fun k hk => funext fun i => if_neg (fun z => hk z.1))
  rw [he, ← hw] at hP hD
  refine ⟨hP, hD, hS, hR.2.2.2.1, hR.2.2.2.2.1, hR.2.2.2.2.2.1, fun k i a ha => ?_⟩
  unfold wrG at ha
  dsimp only at ha
  split at ha
  · cases ha; exact hr
  · exact hR.2.2.2.2.2.2 k i a ha
theorem fv_wrG {ads : Nat → Nat} {a ci j r N : Nat} (hr : rfB ci j = true) : ((List.range N).map (fv ads w a ci)).set j (.ref (ads r)) = (List.range N).map (fv ads (w.1, wrG w.2.1 a j (some r), w.2.2) a ci) := by
  apply range_set
  · unfold fv wrG; rw [hr]; simp [va_rf]
  · intro q hq
    unfold fv wrG
    simp [hq]
theorem ww_putR (C : Ok X md) {idx ci N j a r : Nat} {ty : FieldType} (d : decode md.2.1 pc = .ok (.putfield idx, 3)) (f : FL md.1.cls idx ci N j false ty) (hn : ∀ q, narrow ty (.ref q) = .ref q ∧ fits ty (.ref q) = true) (hT : w.2.2[a]? = some (ci, N)) (hr : rfB ci j = true) (hlt : r < w.2.2.length) (k : WW X Q (pc + 3) L S (w.1, wrG w.2.1 a j (some r), w.2.2)) : WW X Q pc L (.ref r :: .ref a :: S) w := by
  obtain ⟨Cn, T, h11, hc, hj, hin, hlk, hty, hnm, hf, hy⟩ := f
  intro ads H locs ls cells slots hl hR
  have he := wl_get (cA := xC X) (ads := ads) hT
  rw [ce_obj h11] at he
  refine va_put (D := xD X) (cl := vwCl) (v := .ref (ads r)) (ty := ty) C.1 C.2.1 C.hts hin (tyOf ci) hty hnm C.own C.K hR.1 hR.2.1 hR.2.2.1 a he hc j hj (C.hts _ hlk) (fun _ h => h) hf (by rw [hty j hj, hy]) (hn _).1 (hn _).2 (by simpa using hj) d (fun H1 locs1 hP hD hS => k ads H1 locs1 ls cells slots hl (hR.putG hT hlt ?_ hP hD hS))
  rw [ce_obj h11, fv_wrG hr]
theorem ww_putRF (C : Ok X md) {idx ci N j a r : Nat} {ty : FieldType} (d : decode md.2.1 pc = .ok (.putfield idx, 3)) (f : FL md.1.cls idx ci N j true ty) (hi : md.1.name = "<init>") (hdecl : ∀ (C : String) (T : u_T), vwCl[ci]? = some (C, T, N) → (T j).1 = md.1.cls) (hn : ∀ q, narrow ty (.ref q) = .ref q ∧ fits ty (.ref q) = true) (hT : w.2.2[a]? = some (ci, N)) (hr : rfB ci j = true) (hlt : r < w.2.2.length) (k : WW X Q (pc + 3) L S (w.1, wrG w.2.1 a j (some r), w.2.2)) : WW X Q pc L (.ref r :: .ref a :: S) w := by
  obtain ⟨Cn, T, h11, hc, hj, hin, hlk, hty, hnm, hf, hy⟩ := f
  intro ads H locs ls cells slots hl hR
  have he := wl_get (cA := xC X) (ads := ads) hT
  rw [ce_obj h11] at he
  refine va_putF (D := xD X) (cl := vwCl) (v := .ref (ads r)) (ty := ty) C.1 C.2.1 C.hts hin (tyOf ci) hty hnm C.own C.K hR.1 hR.2.1 hR.2.2.1 a he hc j hj (C.hts _ hlk) (fun _ h => h) hf (by rw [C.nm]; exact hi) (hdecl _ _ hc) (by rw [hty j hj, hy]) (hn _).1 (hn _).2 (by simpa using hj) d (fun H1 locs1 hP hD hS => k ads H1 locs1 ls cells slots hl (hR.putG hT hlt ?_ hP hD hS))
  rw [ce_obj h11, fv_wrG hr]
theorem ww_iald (C : Ok X md) {a n : Nat} {i : Int32} (d : decode md.2.1 pc = .ok (.iaload, 1)) (hT : w.2.2[a]? = some (20, n)) (hi : vp_in i n) (k : WW X Q (pc + 1) L (.int (w.1 a i.toNatClampNeg) :: S) w) : WW X Q pc L (.int i :: .ref a :: S) w := by
  intro ads H locs ls cells slots hl hR
  exact va_iald (D := xD X) (cl := vwCl) C.1 C.2.1 C.K hR.1 a 0 (wl_get hT) rfl hi d (k ads H locs ls cells slots hl hR)
theorem ww_cald (C : Ok X md) {a n : Nat} {i : Int32} (d : decode md.2.1 pc = .ok (.caload, 1)) (hT : w.2.2[a]? = some (21, n)) (hi : vp_in i n) (k : WW X Q (pc + 1) L (.int (w.1 a i.toNatClampNeg) :: S) w) : WW X Q pc L (.int i :: .ref a :: S) w := by
  intro ads H locs ls cells slots hl hR
  exact va_cald (D := xD X) (cl := vwCl) C.1 C.2.1 C.K hR.1 a 1 (wl_get hT) rfl hi d (k ads H locs ls cells slots hl hR)
theorem ww_iast (C : Ok X md) {a n : Nat} {i x : Int32} (d : decode md.2.1 pc = .ok (.iastore, 1)) (hT : w.2.2[a]? = some (20, n)) (hi : vp_in i n) (k : WW X Q (pc + 1) L S (wr w.1 a i.toNatClampNeg x, w.2.1, w.2.2)) : WW X Q pc L (.int x :: .int i :: .ref a :: S) w := by
  intro ads H locs ls cells slots hl hR
  refine va_iast (D := xD X) (cl := vwCl) C.1 C.2.1 C.K hR.1 hR.2.1 hR.2.2.1 a 0 (wl_get hT) rfl hi d (fun H1 locs1 hP hD hS => k ads H1 locs1 ls cells slots hl (hR.putM hT (fun q hq => wr_ne hq) ?_ hP hD hS))
  rw [ce_ints, show (wr w.1 a i.toNatClampNeg x, w.2.1, w.2.2).1 a = upd (w.1 a) i.toNatClampNeg x from wr_eq]
theorem ww_cast (C : Ok X md) {a n : Nat} {i x : Int32} (d : decode md.2.1 pc = .ok (.castore, 1)) (hT : w.2.2[a]? = some (21, n)) (hi : vp_in i n) (k : WW X Q (pc + 1) L S (wr w.1 a i.toNatClampNeg (vp_nar .char x), w.2.1, w.2.2)) : WW X Q pc L (.int x :: .int i :: .ref a :: S) w := by
  intro ads H locs ls cells slots hl hR
  refine va_cast (D := xD X) (cl := vwCl) C.1 C.2.1 C.K hR.1 hR.2.1 hR.2.2.1 a 1 (wl_get hT) rfl hi d (fun H1 locs1 hP hD hS => k ads H1 locs1 ls cells slots hl (hR.putM hT (fun q hq => wr_ne hq) ?_ hP hD hS))
  rw [ce_chars, show (wr w.1 a i.toNatClampNeg (vp_nar .char x), w.2.1, w.2.2).1 a = upd (w.1 a) i.toNatClampNeg (vp_nar .char x) from wr_eq]
theorem ww_alen {tg : Nat} (C : Ok X md) {a n : Nat} {v : Int32} (d : decode md.2.1 pc = .ok (.arraylength, 1)) (hT : w.2.2[a]? = some (tg, n)) (ht : tg = 20 ∨ tg = 21) (hv : Int32.ofNat n = v) (k : WW X Q (pc + 1) L (.int v :: S) w) : WW X Q pc L (.ref a :: S) w := by
  intro ads H locs ls cells slots hl hR
  rcases ht with rfl | rfl
  · exact va_alen (D := xD X) (cl := vwCl) C.1 C.2.1 C.K hR.1 a 0 (wl_get hT) rfl hv d (k ads H locs ls cells slots hl hR)
  · exact va_alen (D := xD X) (cl := vwCl) C.1 C.2.1 C.K hR.1 a 1 (wl_get hT) rfl hv d (k ads H locs ls cells slots hl hR)
theorem ww_aald (C : Ok X md) {a n r : Nat} {i : Int32} (d : decode md.2.1 pc = .ok (.aaload, 1)) (hT : w.2.2[a]? = some (22, n)) (hi : vp_in i n) (hg : w.2.1 a i.toNatClampNeg = some r) (k : WW X Q (pc + 1) L (.ref r :: S) w) : WW X Q pc L (.int i :: .ref a :: S) w := by
  intro ads H locs ls cells slots hl hR
  have hc : H[ads a]? = some (vp_cell (xC X).2.2 (n, .inr (.inr (.inr (.inr (fun j => (w.2.1 a j).map ads)))))) := hR.1 a _ (wl_get hT)
  rw [vp_cell_q] at hc
  have hlt : i.toNatClampNeg < n := Nat.lt_of_not_le (fun h => hi (Or.inr h))
  refine W.aald (ty := .array .int) (v := .ref (ads r)) C.1 C.2.1 hc ((C.K.2 2 _ rfl).1 n _) rfl (fun h => by cases h) ?_ ?_ rfl rfl d (k ads H locs ls cells slots hl hR)
  · intro h
    refine hi (h.imp id (fun q => ?_))
    simpa [arrV] using q
  · simp [arrV, hlt, hg, va_rf]
end HEAP
