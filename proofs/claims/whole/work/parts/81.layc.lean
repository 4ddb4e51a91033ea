/-! the class: fault and lay; the two inns change places -/
def LyC (M M' : Mem) (d : Dt) : Prop := CD M' d ∧ M' 10 3 = 0 ∧ M' 14 3 = 0 ∧ M' 24 4 = 0 ∧ M' 29 3 = 0 ∧ M' 1 2 = M 1 2 ∧ ∀ c, c ≠ 1 → c ≠ 3 → c ≠ 10 → c ≠ 14 → c ≠ 24 → c ≠ 29 → (c < 45 ∨ 56 < c) → M' c = M c
theorem nx_i {r : Int32} {v : Option Value} (h : v = some (.int r)) : ∀ x, v = some x → nxv x = true := fun x hx => by rw [h] at hx; cases hx; rfl
section C81
variable {M : Mem} {G2 : Grf} {T2 : List (Nat × Nat)} {t : Nat → Int32} {n : Nat} {d : Dt}
theorem c_readIntoJ (ht : TX t n) (hc : TC t n M) (h5 : M 46 5 = 0) (h6 : M 46 6 = -1) : WpI mX7_readInto [.ref 1, .ref 45] M (gj G2) (TTc ++ T2) (fun r M' => r = (prs t n 200 0 d0).1 ∧ CD M' (prs t n 200 0 d0).2 ∧ F7 M M') := by
  have h := c_readInto (ga := 33) (gb := 45) (G2 := G2) (T2 := T2) ht hc h5 h6
  rw [gz_id] at h
  exact h
theorem c_fault (ht : TX t n) (hc : TC t n M) (h5 : M 46 5 = 0) (h6 : M 46 6 = -1) : WpI mX9_fault [.ref 0] M (gj G2) (TTc ++ T2) (fun r M' => r = (prs t n 200 0 d0).1 ∧ F7 M M' ∧ M' 46 5 = 0 ∧ M' 46 6 = -1) := by
  refine WpI.of rfl rfl nL fun X Q C hk => bX9_fault_0 C ((c_readIntoJ ht hc h5 h6).imp ?_)
  rintro r M' ⟨e, cd, f⟩
  exact bX9_fault_11 C (hk _ _ ⟨e, f, cd.1.2.2.2.2.2.2.1, cd.1.2.2.2.2.2.2.2⟩)
theorem c_canOpen (h : CD M d) (hd : DOK d) : WpI mX2_canOpen [.ref 45] M (gj G2) (TTc ++ T2) (fun r M' => M' = M ∧ ((r = 0 ∧ ¬ (0 < d.2.2.1 ∧ 0 < d.2.1)) ∨ (r = 1 ∧ 0 < d.2.2.1 ∧ 0 < d.2.1))) := by
  obtain ⟨a1, a2, -, -⟩ := hd.1
  refine WpI.of rfl rfl nL fun X Q C hk => bX2_canOpen_0 C ?_
  rw [h.1.1, h.1.2.1]
  have z0 : ∀ k, k ≤ 7 → (nI k ≤ 0 ↔ k = 0) := fun k hk => by
    have := nle (a := k) (b := 0) (by omega) (by omega)
    rw [show (0 : Int32) = nI 0 from rfl, this]
    omega
  rw [z0 _ (by omega), z0 _ (by omega)]
  exact ⟨fun z => hk _ _ ⟨rfl, Or.inl ⟨rfl, by omega⟩⟩, fun z => ⟨fun z2 => hk _ _ ⟨rfl, Or.inl ⟨rfl, by omega⟩⟩, fun z2 => hk _ _ ⟨rfl, Or.inr ⟨rfl, by omega, by omega⟩⟩⟩⟩
theorem c_lay (ht : TX t n) (hc : TC t n M) (h5 : M 46 5 = 0) (h6 : M 46 6 = -1) : WpM mX9_lay 0 0 [.ref 0] (M, gj G2, TTc ++ T2) (fun v w' => (¬ okL t n ∧ v = some (.int (-2)) ∧ ∃ M', w' = (M', gj G2, TTc ++ T2) ∧ F7 M M' ∧ M' 46 5 = 0 ∧ M' 46 6 = -1) ∨ (okL t n ∧ v = some (.int (nI (prs t n 200 0 d0).2.2.1)) ∧ ∃ M', w' = (M', gz 45 33 G2, TTc ++ T2) ∧ LyC M M' (prs t n 200 0 d0).2)) := by
  have dk := prs_ok (t := t) (n := n) (f := 200) (p := 0) d0_ok
  have rj := c_readIntoJ (G2 := G2) (T2 := T2) ht hc h5 h6
  unfold okL
  generalize prs t n 200 0 d0 = Z at *
  refine WpM.of rfl nL ?_ ?_
  · rintro v w' (⟨-, hv, M', rfl, -⟩ | ⟨-, hv, M', rfl, -⟩)
    · exact ⟨nx_i hv, (Nat.add_zero _).symm, (Nat.add_zero _).symm⟩
    · exact ⟨nx_i hv, (Nat.add_zero _).symm, (Nat.add_zero _).symm⟩
  intro X Q C h1 h2 h3 hk
  have C0 : Ok0 X mX9_lay (TTc ++ T2) := ⟨C, h3⟩
  show WW X Q 0 [(0, .ref 0)] [] (M, gj G2, TTc ++ T2)
  refine bX9_lay_0 C0 (rj.imp ?_)
  rintro r M' ⟨rfl, cd, f⟩
  have k5 := cd.1.2.2.2.2.2.2.1
  have k6 := cd.1.2.2.2.2.2.2.2
  refine bX9_lay_11 C0 ⟨fun z => hk _ _ (Or.inl ⟨fun y => z y.1, rfl, M', rfl, f, k5, k6⟩), fun z => (c_canOpen cd dk).imp ?_⟩
  rintro r M2 ⟨rfl, ⟨rfl, a⟩ | ⟨rfl, a⟩⟩
  · exact bX9_lay_23 C0 ⟨fun y => absurd rfl y, fun _ => hk _ _ (Or.inl ⟨fun y => a y.2, rfl, _, rfl, f, k5, k6⟩)⟩
  · refine bX9_lay_23 C0 ⟨fun _ => ?_, fun y => absurd y (by decide)⟩
    rw [gz_sw, cd.1.1]
    exact hk _ _ (Or.inr ⟨⟨z, a⟩, rfl, _, rfl, cd, rfl, rfl, rfl, rfl, f.2, fun c c1 c3 c10 c14 c24 c29 hc => by
      rw [wr_ne c29, wr_ne c24, wr_ne c14, wr_ne c10]
      exact f.1 c c1 c3 hc⟩)
end C81
/-! cells under other numbers -/
def pi2 (k : Nat) : Nat := if 33 ≤ k ∧ k ≤ 44 then k + 12 else if 45 ≤ k ∧ k ≤ 56 then k - 12 else k
theorem pi2_i (k : Nat) : pi2 (pi2 k) = k := by unfold pi2; split <;> split <;> (try split) <;> omega
theorem pi2_o {k : Nat} (h : k < 33 ∨ 56 < k) : pi2 k = k := by unfold pi2; rw [if_neg (by omega), if_neg (by omega)]
def fxv (π : Nat → Nat) : Value → Prop
  | .ref a => π a = a
  | _ => True
section PERM
variable {X : CX} {Q : State → Prop} {pc : Nat} {L : List (Nat × Value)} {S : List Value} {M : Mem} {G G' : Grf} {T : List (Nat × Nat)} {π : Nat → Nat}
theorem tv_fx {b : Nat} {ads : Nat → Nat} {v : Value} (h : fxv π v) : tv b (fun k => ads (π k)) v = tv b ads v := by
  cases v with
  | ref a => exact congrArg (fun z => Value.ref (ads z)) h
  | _ => rfl
theorem wl_perm {cA : ClassId × ClassId × ClassId} {ads : Nat → Nat} (hT : ∀ k, T[π k]? = T[k]?) (hG : ∀ k j, (G' k j).map π = G (π k) j) (k : Nat) : (wl cA (fun k => ads (π k)) (fun k => M (π k), G', T))[k]? = (wl cA ads (M, G, T))[π k]? := by
  unfold wl
  rw [List.getElem?_mapIdx, List.getElem?_mapIdx]
  show Option.map _ T[k]? = Option.map _ T[π k]?
  rw [hT]
  cases T[k]? with
  | none => rfl
  | some u =>
    show some (ads (π k), ce cA (fun k => ads (π k)) (fun k => M (π k), G', T) k u) = some (ads (π k), ce cA ads (M, G, T) (π k) u)
    have e : ∀ j, (G' k j).map (fun k => ads (π k)) = (G (π k) j).map ads := fun j => by rw [← hG, Option.map_map]; rfl
    have e2 : ce cA (fun k => ads (π k)) (fun k => M (π k), G', T) k u = ce cA ads (M, G, T) (π k) u := by
      unfold ce fv
      dsimp only
      simp only [e]
    rw [e2]
theorem ww_perm (hπ : ∀ k, π (π k) = k) (hT : ∀ k, T[π k]? = T[k]?) (hG : ∀ k j, (G' k j).map π = G (π k) j) (hx : ∀ k, (k < (xT X).length ∨ T.length ≤ k) → π k = k) (hL : ∀ q ∈ L, fxv π q.2) (hS : ∀ v ∈ S, fxv π v) (k : WW X Q pc L S (fun k => M (π k), G', T)) : WW X Q pc L S (M, G, T) := by
  intro ads H locs ls cells slots hl hR
  have eL : L.map (tq (xb X) (fun k => ads (π k))) = L.map (tq (xb X) ads) := List.map_congr_left fun q hq => by
    show (q.1, tv (xb X) (fun k => ads (π k)) q.2) = (q.1, tv (xb X) ads q.2)
    rw [tv_fx (hL q hq)]
  have eS : S.map (tv (xb X) (fun k => ads (π k))) = S.map (tv (xb X) ads) := List.map_congr_left fun v hv => tv_fx (hS v hv)
  rw [← eS]
  have e := wl_perm (cA := xC X) (ads := ads) (M := M) hT hG
  refine k (fun k => ads (π k)) H locs ls cells slots (by rw [eL]; exact hl) ⟨fun i q hq => ?_, ⟨fun i j p q hp hq epq => ?_, fun i q hq => ?_⟩, hR.2.2.1, fun k hk => ?_, hR.2.2.2.2.1, hR.2.2.2.2.2.1, fun i j a ha => ?_⟩
  · rw [e] at hq; exact hR.1 _ q hq
  · rw [e] at hp hq
    have := hR.2.1.1 _ _ p q hp hq epq
    rw [← hπ i, this, hπ]
  · rw [e] at hq; exact hR.2.1.2 _ q hq
  · show ads (π k) = x0 X k
    rw [hx k hk]
    exact hR.2.2.2.1 k hk
  · have h1 : G (π i) j = some (π a) := by
      have h2 := hG i j
      have h3 : G' i j = some a := ha
      rw [h3] at h2
      exact h2.symm
    have h2 : π a < T.length := hR.2.2.2.2.2.2 _ _ _ h1
    have h3 : T[π a]? = T[a]? := hT a
    rw [List.getElem?_eq_getElem h2] at h3
    exact (List.getElem?_eq_some_iff.mp h3.symm).1
end PERM
