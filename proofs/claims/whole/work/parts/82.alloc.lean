/-! new cells -/
def adn (ads : Nat → Nat) (n q : Nat) : Nat → Nat := fun k => if k = n then q else ads k
def Okn (X : CX) (md : MD) (T0 : List (Nat × Nat)) (mc ms : Nat) : Prop := Ok X md ∧ xT X = T0 ∧ (xR X).cells = mc ∧ (xR X).slots = ms
def dfB (ci j : Nat) : Bool := match tyOf ci j with
  | .int => true
  | .boolean => true
  | .char => true
  | .array _ => true
  | .object _ => true
  | _ => false
theorem df_ok {ci j : Nat} (h : dfB ci j = true) : defaultValue (tyOf ci j) = if rfB ci j then .null else .int 0 := by
  unfold dfB at h
  unfold rfB
  cases e : tyOf ci j <;> rw [e] at h <;> first | rfl | (simp at h)
theorem slT_app (T T' : List (Nat × Nat)) : slT (T ++ T') = slT T + slT T' := by unfold slT; rw [List.map_append, List.sum_append]
theorem map_lt {ads ads' : Nat → Nat} {n : Nat} (h : ∀ k, k < n → ads' k = ads k) {o : Option Nat} (ho : ∀ a, o = some a → a < n) : o.map ads' = o.map ads := by
  cases o with
  | none => rfl
  | some a => exact congrArg some (h a (ho a rfl))
theorem ce_lt {cA : ClassId × ClassId × ClassId} {ads ads' : Nat → Nat} {w w' : Wd} {k n : Nat} {t : Nat × Nat} (h : ∀ k, k < n → ads' k = ads k) (hM : w'.1 k = w.1 k) (hG : w'.2.1 k = w.2.1 k) (ho : ∀ j a, w.2.1 k j = some a → a < n) : ce cA ads' w' k t = ce cA ads w k t := by
  have e : ∀ j, (w'.2.1 k j).map ads' = (w.2.1 k j).map ads := fun j => by rw [hG]; exact map_lt h (ho j)
  unfold ce fv
  rw [hM]
  simp only [e]
theorem wl_ext {cA : ClassId × ClassId × ClassId} {ads ads' : Nat → Nat} {M : Mem} {G G' : Grf} {T T2 : List (Nat × Nat)} (h : ∀ k, k < T.length → ads' k = ads k) (hg : ∀ k j, k < T.length → G' k j = G k j) (hG : Gwf (M, G, T)) : wl cA ads' (M, G', T ++ T2) = wl cA ads (M, G, T) ++ T2.mapIdx (fun i t => (ads' (i + T.length), ce cA ads' (M, G', T ++ T2) (i + T.length) t)) := by
  apply List.ext_getElem?
  intro k
  rcases Nat.lt_or_ge k T.length with hk | hk
  · rw [List.getElem?_append_left (by rw [wl_len]; exact hk)]
    have e1 : (T ++ T2)[k]? = some T[k] := by rw [List.getElem?_append_left hk, List.getElem?_eq_getElem hk]
    have e2 : T[k]? = some T[k] := List.getElem?_eq_getElem hk
    rw [wl_get (w := (M, G', T ++ T2)) e1, wl_get (w := (M, G, T)) e2, h k hk, ce_lt (w := (M, G, T)) (w' := (M, G', T ++ T2)) h rfl (funext fun j => hg k j hk) (fun j a ha => hG k j a ha)]
  · rw [List.getElem?_append_right (by rw [wl_len]; exact hk), wl_len]
    unfold wl
    show ((T ++ T2).mapIdx _)[k]? = _
    rw [List.getElem?_mapIdx, List.getElem?_mapIdx, List.getElem?_append_right hk]
    show Option.map _ T2[k - T.length]? = Option.map _ T2[k - T.length]?
    cases T2[k - T.length]? with
    | none => rfl
    | some t =>
      show some _ = some _
      rw [Nat.sub_add_cancel hk]
section NEW
variable {X : CX} {md : MD} {Q : State → Prop} {pc : Nat} {L : List (Nat × Value)} {S : List Value} {M : Mem} {G G' : Grf} {T T0 T' T2 : List (Nat × Nat)} {mc ms : Nat}
theorem rl_ext {ads ads' : Nat → Nat} {H H1 : Heap} {locs : List Loc} {cells slots : Nat} {ws2 : va_W} (hR : Rl X ads (M, G, T) H locs cells slots) (h : ∀ k, (k < T.length ∨ T.length + T2.length ≤ k) → ads' k = ads k) (hg : ∀ k j, k < T.length → G' k j = G k j) (hG : ∀ k j a, T.length ≤ k → G' k j = some a → a < T.length + T2.length)
    (he : ws2 = T2.mapIdx (fun i t => (ads' (i + T.length), ce (xC X) ads' (M, G', T ++ T2) (i + T.length) t))) (hP : va_P (xD X) vwCl (wl (xC X) ads (M, G, T) ++ ws2) H1) (hD : va_D (xA X) (wl (xC X) ads (M, G, T) ++ ws2)) (hS : va_S (xA X) (xs X).heap H1 locs) : Rl X ads' (M, G', T ++ T2) H1 locs (cells + T2.length) (slots + slT T2) := by
  have hx := hR.2.2.2.2.1
  have hy := hR.2.2.2.2.2.1
  have hw := wl_ext (cA := xC X) (ads := ads) (ads' := ads') (M := M) (G := G) (G' := G') (T := T) (T2 := T2) (fun k hk => h k (Or.inl hk)) hg hR.2.2.2.2.2.2
  rw [he, ← hw] at hP hD
  refine ⟨hP, hD, hS, fun k hk => ?_, ?_, ?_, fun k j a ha => ?_⟩
  · have hk' : k < (xT X).length ∨ T.length + T2.length ≤ k := by
      rcases hk with hk | hk
      · exact Or.inl hk
      · refine Or.inr ?_
        have : (T ++ T2).length ≤ k := hk
        rw [List.length_append] at this
        exact this
    have hx' : (xT X).length + cells = T.length := hx
    rw [h k (by omega)]
    exact hR.2.2.2.1 k (hk'.imp id (fun z => by show T.length ≤ k; omega))
  · show (xT X).length + (cells + T2.length) = (T ++ T2).length
    rw [List.length_append]
    have : (xT X).length + cells = T.length := hx
    omega
  · show slT (xT X) + (slots + slT T2) = slT (T ++ T2)
    rw [slT_app]
    have : slT (xT X) + slots = slT T := hy
    omega
  · show a < (T ++ T2).length
    rw [List.length_append]
    rcases Nat.lt_or_ge k T.length with z | z
    · have e : G' k j = some a := ha
      rw [hg k j z] at e
      have : a < T.length := hR.2.2.2.2.2.2 k j a e
      omega
    · exact hG k j a z ha
theorem map_ext {b n : Nat} {ads ads' : Nat → Nat} (h : ∀ k, k < n → ads' k = ads k) (hL : (L.all fun q => refsLt n q.2) = true) : L.map (tq b ads') = L.map (tq b ads) := List.map_congr_left fun q hq => by
  show (q.1, tv b ads' q.2) = (q.1, tv b ads q.2)
  rw [tv_cong h (List.all_eq_true.mp hL q hq)]
theorem map_extS {b n : Nat} {ads ads' : Nat → Nat} (h : ∀ k, k < n → ads' k = ads k) (hS : S.all (refsLt n) = true) : S.map (tv b ads') = S.map (tv b ads) := List.map_congr_left fun v hv => tv_cong h (List.all_eq_true.mp hS v hv)
theorem ww_new (C : Okn X md T0 mc ms) {idx ci N n : Nat} {Cn : String} {Tt : u_T} (h11 : ci < 11) (hc : vwCl[ci]? = some (Cn, Tt, N)) (hin : ∀ w ∈ u_ws Cn Tt N, w ∈ GW) (hty : ∀ k, k < N → parseFieldDescriptor (Tt k).2.2.1 = some (tyOf ci k)) (hdf : ∀ j, j < N → dfB ci j = true) (hcl : Cond.classLink md.1.cls idx Cn ∈ GW) (hinst : Cond.instantiable Cn N ∈ GW) (hini : Cond.initialized Cn ∈ GW) (d : decode md.2.1 pc = .ok (.new idx, 3)) (hn : T.length = n) (hM : M n = fun _ => 0) (hG : G n = fun _ => none) (hT : T ++ [(ci, N)] = T') (hL : (L.all fun q => refsLt n q.2) = true) (hS : S.all (refsLt n) = true) (hf : (n + 1 ≤ T0.length + mc) ∧ slT T + N ≤ slT T0 + ms) (k : WW X Q (pc + 3) L (.ref n :: S) (M, G, T')) : WW X Q pc L S (M, G, T) := by
  obtain ⟨C, eT, ec, es⟩ := C
  subst hn
  subst hT
  subst eT
  intro ads H locs ls cells slots hl hR
  have hx : (xT X).length + cells = T.length := hR.2.2.2.2.1
  have hy : slT (xT X) + slots = slT T := hR.2.2.2.2.2.1
  refine va_new (D := xD X) (cl := vwCl) C.1 C.2.1 C.hts hin (tyOf ci) hty C.own (C.hts _ hcl) (C.hts _ hinst) (C.hts _ hini) C.K hR.1 hR.2.1 hR.2.2.1 C.hA hc (fs := (List.range N).map (fun j => if rfB ci j then .null else .int 0)) (fun j hj => ?_) (by rw [ec]; omega) (by rw [es]; omega) d (fun q H1 hP hD hS2 => ?_)
  · rw [df_ok (hdf j hj)]
    unfold vp_V
    rw [List.getD_eq_getElem?_getD, range_at hj]
    rfl
  · have ha : ∀ k, k < T.length → adn ads T.length q k = ads k := fun k hk => if_neg (by omega)
    have e0 : adn ads T.length q T.length = q := if_pos rfl
    have k2 := k (adn ads T.length q) H1 locs ls (cells + 1) (slots + N) (by rw [map_ext ha hL]; exact hl) (rl_ext (T2 := [(ci, N)]) hR (fun k hk => if_neg (by simp at hk; omega)) (fun _ _ _ => rfl) (fun k j a hk ha2 => ?_) ?_ hP hD hS2)
    · rw [List.map_cons, map_extS ha hS] at k2
      have e1 : tv (xb X) (adn ads T.length q) (.ref T.length) = .ref q := congrArg Value.ref e0
      rw [e1] at k2
      exact k2
    · rcases Nat.lt_or_ge T.length k with z | z
      · have := hR.2.2.2.2.2.2 k j a ha2
        have : a < T.length := this
        simp only [List.length_singleton]
        omega
      · have ek : k = T.length := by omega
        rw [ek, hG] at ha2
        cases ha2
    · show [_] = [(adn ads T.length q (0 + T.length), ce (xC X) (adn ads T.length q) (M, G, T ++ [(ci, N)]) (0 + T.length) (ci, N))]
      rw [Nat.zero_add, e0, ce_obj h11]
      have e3 : fv (adn ads T.length q) (M, G, T ++ [(ci, N)]) T.length ci = fun j => if rfB ci j then .null else .int 0 := funext fun j => by
        show (if rfB ci j then va_rf ((G T.length j).map _) else .int (M T.length j)) = _
        rw [hG, hM]
        rfl
      rw [e3]
theorem ra_one {s : State} {a b : ClassId} (h1 : va_RA s a .int) (h2 : va_RA s b .int) : a = b := Option.some.inj ((show s.vm.findClass ("[" ++ FieldType.int.toString) = some a from h1).symm.trans h2)
theorem ra_two {s : State} {a b : ClassId} (h1 : va_RA s a .char) (h2 : va_RA s b .char) : a = b := Option.some.inj ((show s.vm.findClass ("[" ++ FieldType.char.toString) = some a from h1).symm.trans h2)
theorem ww_newI (C : Okn X md T0 mc ms) {x : Int32} {N n : Nat} (harr : Cond.arrayClass .int ∈ GW) (d : decode md.2.1 pc = .ok (.newarray .int, 2)) (hx0 : ¬ x < 0) (hN : x.toNatClampNeg = N) (hby : N * 4 ≤ 536870912) (hn : T.length = n) (hM : M n = fun _ => 0) (hG : G n = fun _ => none) (hT : T ++ [(20, N)] = T') (hL : (L.all fun q => refsLt n q.2) = true) (hS : S.all (refsLt n) = true) (hf : (n + 1 ≤ T0.length + mc) ∧ slT T + N ≤ slT T0 + ms) (k : WW X Q (pc + 2) L (.ref n :: S) (M, G, T')) : WW X Q pc L (.int x :: S) (M, G, T) := by
  obtain ⟨C, eT, ec, es⟩ := C
  subst hn
  subst hT
  subst eT
  intro ads H locs ls cells slots hl hR
  have hx : (xT X).length + cells = T.length := hR.2.2.2.2.1
  have hy : slT (xT X) + slots = slT T := hR.2.2.2.2.2.1
  refine va_newa (D := xD X) (cl := vwCl) (atype := .int) (ty := .int) C.1 C.2.1 (C.hts _ harr) rfl C.K hR.1 hR.2.1 hR.2.2.1 C.hA (a0 := (N, .inl (fun _ => 0))) (fun _ => rfl) hx0 hN hby (by rw [ec]; omega) (by rw [es]; omega) d (fun q cA H1 hK hP hD hS2 => ?_)
  have hcA : cA = (xC X).1 := ra_one (hK.2 3 _ rfl).2 (C.K.2 0 _ rfl).2
  subst hcA
  have ha : ∀ k, k < T.length → adn ads T.length q k = ads k := fun k hk => if_neg (by omega)
  have e0 : adn ads T.length q T.length = q := if_pos rfl
  have k2 := k (adn ads T.length q) H1 locs ls (cells + 1) (slots + N) (by rw [map_ext ha hL]; exact hl) (rl_ext (T2 := [(20, N)]) hR (fun k hk => if_neg (by simp at hk; omega)) (fun _ _ _ => rfl) (fun k j a hk ha2 => ?_) ?_ hP hD hS2)
  · rw [List.map_cons, map_extS ha hS] at k2
    have e1 : tv (xb X) (adn ads T.length q) (.ref T.length) = .ref q := congrArg Value.ref e0
    rw [e1] at k2
    exact k2
  · rcases Nat.lt_or_ge T.length k with z | z
    · have := hR.2.2.2.2.2.2 k j a ha2
      have : a < T.length := this
      simp only [List.length_singleton]
      omega
    · have ek : k = T.length := by omega
      rw [ek, hG] at ha2
      cases ha2
  · show [_] = [(adn ads T.length q (0 + T.length), ce (xC X) (adn ads T.length q) (M, G, T ++ [(20, N)]) (0 + T.length) (20, N))]
    rw [Nat.zero_add, e0, ce_ints]
    show _ = [(q, Sum.inl ((xC X).1, N, Sum.inl (M T.length)))]
    rw [hM]
theorem ww_newC (C : Okn X md T0 mc ms) {x : Int32} {N n : Nat} (harr : Cond.arrayClass .char ∈ GW) (d : decode md.2.1 pc = .ok (.newarray .char, 2)) (hx0 : ¬ x < 0) (hN : x.toNatClampNeg = N) (hby : N * 2 ≤ 536870912) (hn : T.length = n) (hM : M n = fun _ => 0) (hG : G n = fun _ => none) (hT : T ++ [(21, N)] = T') (hL : (L.all fun q => refsLt n q.2) = true) (hS : S.all (refsLt n) = true) (hf : (n + 1 ≤ T0.length + mc) ∧ slT T + N ≤ slT T0 + ms) (k : WW X Q (pc + 2) L (.ref n :: S) (M, G, T')) : WW X Q pc L (.int x :: S) (M, G, T) := by
  obtain ⟨C, eT, ec, es⟩ := C
  subst hn
  subst hT
  subst eT
  intro ads H locs ls cells slots hl hR
  have hx : (xT X).length + cells = T.length := hR.2.2.2.2.1
  have hy : slT (xT X) + slots = slT T := hR.2.2.2.2.2.1
  refine va_newa (D := xD X) (cl := vwCl) (atype := .char) (ty := .char) C.1 C.2.1 (C.hts _ harr) rfl C.K hR.1 hR.2.1 hR.2.2.1 C.hA (a0 := (N, .inl (fun _ => 0))) (fun _ => rfl) hx0 hN hby (by rw [ec]; omega) (by rw [es]; omega) d (fun q cA H1 hK hP hD hS2 => ?_)
  have hcA : cA = (xC X).2.1 := ra_two (hK.2 3 _ rfl).2 (C.K.2 1 _ rfl).2
  subst hcA
  have ha : ∀ k, k < T.length → adn ads T.length q k = ads k := fun k hk => if_neg (by omega)
  have e0 : adn ads T.length q T.length = q := if_pos rfl
  have k2 := k (adn ads T.length q) H1 locs ls (cells + 1) (slots + N) (by rw [map_ext ha hL]; exact hl) (rl_ext (T2 := [(21, N)]) hR (fun k hk => if_neg (by simp at hk; omega)) (fun _ _ _ => rfl) (fun k j a hk ha2 => ?_) ?_ hP hD hS2)
  · rw [List.map_cons, map_extS ha hS] at k2
    have e1 : tv (xb X) (adn ads T.length q) (.ref T.length) = .ref q := congrArg Value.ref e0
    rw [e1] at k2
    exact k2
  · rcases Nat.lt_or_ge T.length k with z | z
    · have := hR.2.2.2.2.2.2 k j a ha2
      have : a < T.length := this
      simp only [List.length_singleton]
      omega
    · have ek : k = T.length := by omega
      rw [ek, hG] at ha2
      cases ha2
  · show [_] = [(adn ads T.length q (0 + T.length), ce (xC X) (adn ads T.length q) (M, G, T ++ [(21, N)]) (0 + T.length) (21, N))]
    rw [Nat.zero_add, e0, ce_chars]
    show _ = [(q, Sum.inl ((xC X).2.1, N, Sum.inl (M T.length)))]
    rw [hM]
theorem ww_objI {w : Wd} (C : Ok X md) {idx a : Nat} (hl : Cond.methodLink md.1.cls idx Lib.objectInit ∈ GW) (hi : Cond.instanceMethod Lib.objectInit ∈ GW) (hc : Cond.code Lib.objectInit ⟨#[0xb1]⟩ 1 none ∈ GW) (d : decode md.2.1 pc = .ok (.invokespecial idx, 3)) (hfr : 1 ≤ md.2.2.2.2.1) (hlo : (S.map fun v => v.category).sum + 12 ≤ md.2.2.2.2.2) (k : WW X Q (pc + 3) L S w) : WW X Q pc L (.ref a :: S) w := by
  intro ads H locs ls cells slots hl' hR
  refine W.objInit C.1 C.2.1 C.own (C.hts _ hl) (C.hts _ hi) (C.hts _ hc) (g := F0 (xm X) pc ls ((Value.ref a :: S).map (tv (xb X) ads))) rfl hl'.1 (a := ads a) (rest := S.map (tv (xb X) ads)) rfl d (by rw [C.fr]; exact hfr) ?_ (k ads H locs ls cells slots hl' hR)
  rw [C.lo, sum_cat]
  show 2 * 0 + _ + 12 ≤ _
  omega
end NEW
