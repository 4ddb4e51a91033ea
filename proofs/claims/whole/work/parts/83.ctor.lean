/-! the constructors -/
def TTa : List (Nat × Nat) := TTc ++ TTm
theorem wrG_ne {G : Grf} {c j k : Nat} {v : Option Nat} (h : k ≠ c) : wrG G c j v k = G k := funext fun _ => if_neg (fun z => h z.1)
theorem oiI : Cond.instanceMethod Lib.objectInit ∈ GW := wqG3 (i := 5) rfl rfl
theorem oiC : Cond.code Lib.objectInit ⟨#[0xb1]⟩ 1 none ∈ GW := wqG3 (i := 6) rfl rfl
theorem acInt : Cond.arrayClass .int ∈ GW := wqG4 (i := 8) rfl rfl
theorem acChar : Cond.arrayClass .char ∈ GW := wqG4 (i := 7) rfl rfl
section PUTF
variable {X : CX} {md : MD} {Q : State → Prop} {pc : Nat} {L : List (Nat × Value)} {S : List Value} {M : Mem} {G : Grf} {T : List (Nat × Nat)}
theorem wt_putRF (C : Ok X md) {idx ci N j a r : Nat} {ty : FieldType} (d : decode md.2.1 pc = .ok (.putfield idx, 3)) (f : FL md.1.cls idx ci N j true ty) (hi : md.1.name = "<init>") (hdecl : ∀ (C : String) (T : u_T), vwCl[ci]? = some (C, T, N) → (T j).1 = md.1.cls) (hn : ∀ q, narrow ty (.ref q) = .ref q ∧ fits ty (.ref q) = true) (hT : T[a]? = some (ci, N)) (hr : rfB ci j = true) (hlt : r < T.length) (k : WW X Q (pc + 3) L S (M, wrG G a j (some r), T)) : WW X Q pc L (.ref r :: .ref a :: S) (M, G, T) := ww_putRF C d f hi hdecl hn hT hr hlt k
end PUTF
theorem dfX0 : ∀ j, j < 7 → dfB 0 j = true := by decide
theorem dfX1 : ∀ j, j < 4 → dfB 1 j = true := by decide
theorem dfX2 : ∀ j, j < 5 → dfB 2 j = true := by decide
theorem dfX3 : ∀ j, j < 8 → dfB 3 j = true := by decide
theorem dfX4 : ∀ j, j < 4 → dfB 4 j = true := by decide
theorem dfX5 : ∀ j, j < 7 → dfB 5 j = true := by decide
theorem dfX6 : ∀ j, j < 5 → dfB 6 j = true := by decide
theorem dfX7 : ∀ j, j < 4 → dfB 7 j = true := by decide
theorem dfX8 : ∀ j, j < 4 → dfB 8 j = true := by decide
theorem dfX9 : ∀ j, j < 9 → dfB 9 j = true := by decide
theorem dfX10 : ∀ j, j < 44 → dfB 10 j = true := by decide
set_option maxHeartbeats 4000000 in
set_option maxRecDepth 20000 in
theorem iX7_init_1 {M : Mem} {G : Grf} (hM : ∀ k, 2 ≤ k → k < 4 → M k = fun _ => 0) (hG : ∀ k, 2 ≤ k → k < 4 → G k = fun _ => none) : WpM mX7_init 2 203 [.ref 1] (M, G, TTa.take 2) (fun v w' => v = none ∧ w' = (M, (wrG (wrG G 1 0 (some 2)) 1 1 (some 3)), TTa.take 4)) := by
  refine WpM.of rfl nL ?_ ?_
  · rintro v w' ⟨rfl, rfl⟩
    exact ⟨fun x hx => (by cases hx), show (TTa.take 4).length = (TTa.take 2).length + 2 by decide, show slT (TTa.take 4) = slT (TTa.take 2) + 203 by decide⟩
  intro X Q C0 h1 h2 h3 hk
  have C : Okn X mX7_init (TTa.take 2) 2 203 := ⟨C0, h3, h1, h2⟩
  show WW X Q 0 [(0, .ref 1)] [] (M, G, TTa.take 2)
  refine ww_aload_n C.1 dX7_init_0 0 rfl rfl ?_
  refine ww_objI C.1 mlRX7_3 oiI oiC dX7_init_1 (by decide) (by decide) ?_
  refine ww_aload_n C.1 dX7_init_4 0 rfl rfl ?_
  refine ww_sipush C.1 (v := (200 : Int32)) dX7_init_5 (by decide) ?_
  refine ww_newC C (N := 200) (n := 2) (T' := TTa.take 3) acChar dX7_init_8 (by decide) (by decide) (by decide) rfl (hM 2 (by decide) (by decide)) (hG 2 (by decide) (by decide)) rfl rfl rfl ⟨nL, nL⟩ ?_
  refine wt_putRF C.1 dX7_init_10 flRX7_9 rfl (fun _ _ h => by cases h; rfl) (fun _ => ⟨rfl, rfl⟩) rfl rfl nL ?_
  refine ww_aload_n C.1 dX7_init_13 0 rfl rfl ?_
  refine ww_iconst C.1 (v := (3 : Int32)) dX7_init_14 (by decide) ?_
  refine ww_newI C (N := 3) (n := 3) (T' := TTa.take 4) acInt dX7_init_15 (by decide) (by decide) (by decide) rfl (hM 3 (by decide) (by decide)) ((wrG_ne (by decide)).trans (hG 3 (by decide) (by decide))) rfl rfl rfl ⟨nL, nL⟩ ?_
  refine wt_putRF C.1 dX7_init_17 flRX7_15 rfl (fun _ _ h => by cases h; rfl) (fun _ => ⟨rfl, rfl⟩) rfl rfl nL ?_
  exact ww_vret C.1 dX7_init_20 rfl (hk _ _ ⟨rfl, rfl⟩)
set_option maxHeartbeats 4000000 in
set_option maxRecDepth 20000 in
theorem iX3_init_4 {M : Mem} {G : Grf} (hM : ∀ k, 5 ≤ k → k < 10 → M k = fun _ => 0) (hG : ∀ k, 5 ≤ k → k < 10 → G k = fun _ => none) : WpM mX3_init 5 35 [.ref 4] (M, G, TTa.take 5) (fun v w' => v = none ∧ w' = (M, (wrG (wrG (wrG (wrG (wrG G 4 0 (some 5)) 4 1 (some 6)) 4 2 (some 7)) 4 3 (some 8)) 4 4 (some 9)), TTa.take 10)) := by
  refine WpM.of rfl nL ?_ ?_
  · rintro v w' ⟨rfl, rfl⟩
    exact ⟨fun x hx => (by cases hx), show (TTa.take 10).length = (TTa.take 5).length + 5 by decide, show slT (TTa.take 10) = slT (TTa.take 5) + 35 by decide⟩
  intro X Q C0 h1 h2 h3 hk
  have C : Okn X mX3_init (TTa.take 5) 5 35 := ⟨C0, h3, h1, h2⟩
  show WW X Q 0 [(0, .ref 4)] [] (M, G, TTa.take 5)
  refine ww_aload_n C.1 dX3_init_0 0 rfl rfl ?_
  refine ww_objI C.1 mlRX3_3 oiI oiC dX3_init_1 (by decide) (by decide) ?_
  refine ww_aload_n C.1 dX3_init_4 0 rfl rfl ?_
  refine ww_bipush C.1 (v := (7 : Int32)) dX3_init_5 (by decide) ?_
  refine ww_newI C (N := 7) (n := 5) (T' := TTa.take 6) acInt dX3_init_7 (by decide) (by decide) (by decide) rfl (hM 5 (by decide) (by decide)) (hG 5 (by decide) (by decide)) rfl rfl rfl ⟨nL, nL⟩ ?_
  refine wt_putRF C.1 dX3_init_9 flRX3_9 rfl (fun _ _ h => by cases h; rfl) (fun _ => ⟨rfl, rfl⟩) rfl rfl nL ?_
  refine ww_aload_n C.1 dX3_init_12 0 rfl rfl ?_
  refine ww_bipush C.1 (v := (7 : Int32)) dX3_init_13 (by decide) ?_
  refine ww_newI C (N := 7) (n := 6) (T' := TTa.take 7) acInt dX3_init_15 (by decide) (by decide) (by decide) rfl (hM 6 (by decide) (by decide)) ((wrG_ne (by decide)).trans (hG 6 (by decide) (by decide))) rfl rfl rfl ⟨nL, nL⟩ ?_
  refine wt_putRF C.1 dX3_init_17 flRX3_15 rfl (fun _ _ h => by cases h; rfl) (fun _ => ⟨rfl, rfl⟩) rfl rfl nL ?_
  refine ww_aload_n C.1 dX3_init_20 0 rfl rfl ?_
  refine ww_bipush C.1 (v := (7 : Int32)) dX3_init_21 (by decide) ?_
  refine ww_newI C (N := 7) (n := 7) (T' := TTa.take 8) acInt dX3_init_23 (by decide) (by decide) (by decide) rfl (hM 7 (by decide) (by decide)) ((wrG_ne (by decide)).trans ((wrG_ne (by decide)).trans (hG 7 (by decide) (by decide)))) rfl rfl rfl ⟨nL, nL⟩ ?_
  refine wt_putRF C.1 dX3_init_25 flRX3_18 rfl (fun _ _ h => by cases h; rfl) (fun _ => ⟨rfl, rfl⟩) rfl rfl nL ?_
  refine ww_aload_n C.1 dX3_init_28 0 rfl rfl ?_
  refine ww_bipush C.1 (v := (7 : Int32)) dX3_init_29 (by decide) ?_
  refine ww_newI C (N := 7) (n := 8) (T' := TTa.take 9) acInt dX3_init_31 (by decide) (by decide) (by decide) rfl (hM 8 (by decide) (by decide)) ((wrG_ne (by decide)).trans ((wrG_ne (by decide)).trans ((wrG_ne (by decide)).trans (hG 8 (by decide) (by decide))))) rfl rfl rfl ⟨nL, nL⟩ ?_
  refine wt_putRF C.1 dX3_init_33 flRX3_21 rfl (fun _ _ h => by cases h; rfl) (fun _ => ⟨rfl, rfl⟩) rfl rfl nL ?_
  refine ww_aload_n C.1 dX3_init_36 0 rfl rfl ?_
  refine ww_bipush C.1 (v := (7 : Int32)) dX3_init_37 (by decide) ?_
  refine ww_newI C (N := 7) (n := 9) (T' := TTa.take 10) acInt dX3_init_39 (by decide) (by decide) (by decide) rfl (hM 9 (by decide) (by decide)) ((wrG_ne (by decide)).trans ((wrG_ne (by decide)).trans ((wrG_ne (by decide)).trans ((wrG_ne (by decide)).trans (hG 9 (by decide) (by decide)))))) rfl rfl rfl ⟨nL, nL⟩ ?_
  refine wt_putRF C.1 dX3_init_41 flRX3_24 rfl (fun _ _ h => by cases h; rfl) (fun _ => ⟨rfl, rfl⟩) rfl rfl nL ?_
  exact ww_vret C.1 dX3_init_44 rfl (hk _ _ ⟨rfl, rfl⟩)
set_option maxHeartbeats 4000000 in
set_option maxRecDepth 20000 in
theorem iX1_init_10 {M : Mem} {G : Grf} (hM : ∀ k, 11 ≤ k → k < 14 → M k = fun _ => 0) (hG : ∀ k, 11 ≤ k → k < 14 → G k = fun _ => none) : WpM mX1_init 3 24 [.ref 10] (M, G, TTa.take 11) (fun v w' => v = none ∧ w' = (M, (wrG (wrG (wrG G 10 0 (some 11)) 10 1 (some 12)) 10 2 (some 13)), TTa.take 14)) := by
  refine WpM.of rfl nL ?_ ?_
  · rintro v w' ⟨rfl, rfl⟩
    exact ⟨fun x hx => (by cases hx), show (TTa.take 14).length = (TTa.take 11).length + 3 by decide, show slT (TTa.take 14) = slT (TTa.take 11) + 24 by decide⟩
  intro X Q C0 h1 h2 h3 hk
  have C : Okn X mX1_init (TTa.take 11) 3 24 := ⟨C0, h3, h1, h2⟩
  show WW X Q 0 [(0, .ref 10)] [] (M, G, TTa.take 11)
  refine ww_aload_n C.1 dX1_init_0 0 rfl rfl ?_
  refine ww_objI C.1 mlRX1_3 oiI oiC dX1_init_1 (by decide) (by decide) ?_
  refine ww_aload_n C.1 dX1_init_4 0 rfl rfl ?_
  refine ww_bipush C.1 (v := (8 : Int32)) dX1_init_5 (by decide) ?_
  refine ww_newI C (N := 8) (n := 11) (T' := TTa.take 12) acInt dX1_init_7 (by decide) (by decide) (by decide) rfl (hM 11 (by decide) (by decide)) (hG 11 (by decide) (by decide)) rfl rfl rfl ⟨nL, nL⟩ ?_
  refine wt_putRF C.1 dX1_init_9 flRX1_9 rfl (fun _ _ h => by cases h; rfl) (fun _ => ⟨rfl, rfl⟩) rfl rfl nL ?_
  refine ww_aload_n C.1 dX1_init_12 0 rfl rfl ?_
  refine ww_bipush C.1 (v := (8 : Int32)) dX1_init_13 (by decide) ?_
  refine ww_newI C (N := 8) (n := 12) (T' := TTa.take 13) acInt dX1_init_15 (by decide) (by decide) (by decide) rfl (hM 12 (by decide) (by decide)) ((wrG_ne (by decide)).trans (hG 12 (by decide) (by decide))) rfl rfl rfl ⟨nL, nL⟩ ?_
  refine wt_putRF C.1 dX1_init_17 flRX1_15 rfl (fun _ _ h => by cases h; rfl) (fun _ => ⟨rfl, rfl⟩) rfl rfl nL ?_
  refine ww_aload_n C.1 dX1_init_20 0 rfl rfl ?_
  refine ww_bipush C.1 (v := (8 : Int32)) dX1_init_21 (by decide) ?_
  refine ww_newI C (N := 8) (n := 13) (T' := TTa.take 14) acInt dX1_init_23 (by decide) (by decide) (by decide) rfl (hM 13 (by decide) (by decide)) ((wrG_ne (by decide)).trans ((wrG_ne (by decide)).trans (hG 13 (by decide) (by decide)))) rfl rfl rfl ⟨nL, nL⟩ ?_
  refine wt_putRF C.1 dX1_init_25 flRX1_18 rfl (fun _ _ h => by cases h; rfl) (fun _ => ⟨rfl, rfl⟩) rfl rfl nL ?_
  exact ww_vret C.1 dX1_init_28 rfl (hk _ _ ⟨rfl, rfl⟩)
set_option maxHeartbeats 4000000 in
set_option maxRecDepth 20000 in
theorem iX8_init_14 {M : Mem} {G : Grf} (hM : ∀ k, 15 ≤ k → k < 24 → M k = fun _ => 0) (hG : ∀ k, 15 ≤ k → k < 24 → G k = fun _ => none) : WpM mX8_init 9 48 [.ref 14] (M, G, TTa.take 15) (fun v w' => v = none ∧ w' = (M, (wrG (wrG (wrG (wrG (wrG (wrG (wrG (wrG (wrG G 15 0 (some 16)) 15 1 (some 17)) 14 0 (some 15)) 18 0 (some 19)) 18 1 (some 20)) 14 1 (some 18)) 21 0 (some 22)) 21 1 (some 23)) 14 2 (some 21)), TTa.take 24)) := by
  refine WpM.of rfl nL ?_ ?_
  · rintro v w' ⟨rfl, rfl⟩
    exact ⟨fun x hx => (by cases hx), show (TTa.take 24).length = (TTa.take 15).length + 9 by decide, show slT (TTa.take 24) = slT (TTa.take 15) + 48 by decide⟩
  intro X Q C0 h1 h2 h3 hk
  have C : Okn X mX8_init (TTa.take 15) 9 48 := ⟨C0, h3, h1, h2⟩
  show WW X Q 0 [(0, .ref 14)] [] (M, G, TTa.take 15)
  refine ww_aload_n C.1 dX8_init_0 0 rfl rfl ?_
  refine ww_objI C.1 mlRX8_3 oiI oiC dX8_init_1 (by decide) (by decide) ?_
  refine ww_aload_n C.1 dX8_init_4 0 rfl rfl ?_
  refine ww_iconst C.1 (v := (2 : Int32)) dX8_init_5 (by decide) ?_
  refine ww_bipush C.1 (v := (7 : Int32)) dX8_init_6 (by decide) ?_
  refine ww_mna C (n := 15) (T' := TTa.take 18) (wqG7 (i := 13) rfl rfl) acInt dX8_init_8 rfl (fun k h1 h2 => hM k (by omega) (by omega)) (fun k h1 h2 => hG k (by omega) (by omega)) rfl rfl rfl ⟨nL, nL⟩ ?_
  refine wt_putRF C.1 dX8_init_12 flRX8_11 rfl (fun _ _ h => by cases h; rfl) (fun _ => ⟨rfl, rfl⟩) rfl rfl nL ?_
  refine ww_aload_n C.1 dX8_init_15 0 rfl rfl ?_
  refine ww_iconst C.1 (v := (2 : Int32)) dX8_init_16 (by decide) ?_
  refine ww_bipush C.1 (v := (7 : Int32)) dX8_init_17 (by decide) ?_
  refine ww_mna C (n := 18) (T' := TTa.take 21) (wqG7 (i := 13) rfl rfl) acInt dX8_init_19 rfl (fun k h1 h2 => hM k (by omega) (by omega)) (fun k h1 h2 => (wrG_ne (by omega)).trans ((wrG_ne (by omega)).trans ((wrG_ne (by omega)).trans (hG k (by omega) (by omega))))) rfl rfl rfl ⟨nL, nL⟩ ?_
  refine wt_putRF C.1 dX8_init_23 flRX8_16 rfl (fun _ _ h => by cases h; rfl) (fun _ => ⟨rfl, rfl⟩) rfl rfl nL ?_
  refine ww_aload_n C.1 dX8_init_26 0 rfl rfl ?_
  refine ww_iconst C.1 (v := (2 : Int32)) dX8_init_27 (by decide) ?_
  refine ww_bipush C.1 (v := (7 : Int32)) dX8_init_28 (by decide) ?_
  refine ww_mna C (n := 21) (T' := TTa.take 24) (wqG7 (i := 13) rfl rfl) acInt dX8_init_30 rfl (fun k h1 h2 => hM k (by omega) (by omega)) (fun k h1 h2 => (wrG_ne (by omega)).trans ((wrG_ne (by omega)).trans ((wrG_ne (by omega)).trans ((wrG_ne (by omega)).trans ((wrG_ne (by omega)).trans ((wrG_ne (by omega)).trans (hG k (by omega) (by omega)))))))) rfl rfl rfl ⟨nL, nL⟩ ?_
  refine wt_putRF C.1 dX8_init_34 flRX8_19 rfl (fun _ _ h => by cases h; rfl) (fun _ => ⟨rfl, rfl⟩) rfl rfl nL ?_
  exact ww_vret C.1 dX8_init_37 rfl (hk _ _ ⟨rfl, rfl⟩)
set_option maxHeartbeats 4000000 in
set_option maxRecDepth 20000 in
theorem iX6_init_24 {M : Mem} {G : Grf} (hM : ∀ k, 25 ≤ k → k < 29 → M k = fun _ => 0) (hG : ∀ k, 25 ≤ k → k < 29 → G k = fun _ => none) : WpM mX6_init 4 146 [.ref 24] (M, G, TTa.take 25) (fun v w' => v = none ∧ w' = (M, (wrG (wrG (wrG (wrG G 24 0 (some 25)) 24 1 (some 26)) 24 2 (some 27)) 24 3 (some 28)), TTa.take 29)) := by
  refine WpM.of rfl nL ?_ ?_
  · rintro v w' ⟨rfl, rfl⟩
    exact ⟨fun x hx => (by cases hx), show (TTa.take 29).length = (TTa.take 25).length + 4 by decide, show slT (TTa.take 29) = slT (TTa.take 25) + 146 by decide⟩
  intro X Q C0 h1 h2 h3 hk
  have C : Okn X mX6_init (TTa.take 25) 4 146 := ⟨C0, h3, h1, h2⟩
  show WW X Q 0 [(0, .ref 24)] [] (M, G, TTa.take 25)
  refine ww_aload_n C.1 dX6_init_0 0 rfl rfl ?_
  refine ww_objI C.1 mlRX6_3 oiI oiC dX6_init_1 (by decide) (by decide) ?_
  refine ww_aload_n C.1 dX6_init_4 0 rfl rfl ?_
  refine ww_bipush C.1 (v := (6 : Int32)) dX6_init_5 (by decide) ?_
  refine ww_newI C (N := 6) (n := 25) (T' := TTa.take 26) acInt dX6_init_7 (by decide) (by decide) (by decide) rfl (hM 25 (by decide) (by decide)) (hG 25 (by decide) (by decide)) rfl rfl rfl ⟨nL, nL⟩ ?_
  refine wt_putRF C.1 dX6_init_9 flRX6_9 rfl (fun _ _ h => by cases h; rfl) (fun _ => ⟨rfl, rfl⟩) rfl rfl nL ?_
  refine ww_aload_n C.1 dX6_init_12 0 rfl rfl ?_
  refine ww_bipush C.1 (v := (6 : Int32)) dX6_init_13 (by decide) ?_
  refine ww_newI C (N := 6) (n := 26) (T' := TTa.take 27) acInt dX6_init_15 (by decide) (by decide) (by decide) rfl (hM 26 (by decide) (by decide)) ((wrG_ne (by decide)).trans (hG 26 (by decide) (by decide))) rfl rfl rfl ⟨nL, nL⟩ ?_
  refine wt_putRF C.1 dX6_init_17 flRX6_15 rfl (fun _ _ h => by cases h; rfl) (fun _ => ⟨rfl, rfl⟩) rfl rfl nL ?_
  refine ww_aload_n C.1 dX6_init_20 0 rfl rfl ?_
  refine ww_bipush C.1 (v := (6 : Int32)) dX6_init_21 (by decide) ?_
  refine ww_newI C (N := 6) (n := 27) (T' := TTa.take 28) acInt dX6_init_23 (by decide) (by decide) (by decide) rfl (hM 27 (by decide) (by decide)) ((wrG_ne (by decide)).trans ((wrG_ne (by decide)).trans (hG 27 (by decide) (by decide)))) rfl rfl rfl ⟨nL, nL⟩ ?_
  refine wt_putRF C.1 dX6_init_25 flRX6_18 rfl (fun _ _ h => by cases h; rfl) (fun _ => ⟨rfl, rfl⟩) rfl rfl nL ?_
  refine ww_aload_n C.1 dX6_init_28 0 rfl rfl ?_
  refine ww_sipush C.1 (v := (128 : Int32)) dX6_init_29 (by decide) ?_
  refine ww_newI C (N := 128) (n := 28) (T' := TTa.take 29) acInt dX6_init_32 (by decide) (by decide) (by decide) rfl (hM 28 (by decide) (by decide)) ((wrG_ne (by decide)).trans ((wrG_ne (by decide)).trans ((wrG_ne (by decide)).trans (hG 28 (by decide) (by decide))))) rfl rfl rfl ⟨nL, nL⟩ ?_
  refine wt_putRF C.1 dX6_init_34 flRX6_21 rfl (fun _ _ h => by cases h; rfl) (fun _ => ⟨rfl, rfl⟩) rfl rfl nL ?_
  exact ww_vret C.1 dX6_init_37 rfl (hk _ _ ⟨rfl, rfl⟩)
set_option maxHeartbeats 4000000 in
set_option maxRecDepth 20000 in
theorem iX4_init_29 {M : Mem} {G : Grf} (hM : ∀ k, 30 ≤ k → k < 32 → M k = fun _ => 0) (hG : ∀ k, 30 ≤ k → k < 32 → G k = fun _ => none) : WpM mX4_init 2 14 [.ref 29] (M, G, TTa.take 30) (fun v w' => v = none ∧ w' = (M, (wrG (wrG G 29 0 (some 30)) 29 1 (some 31)), TTa.take 32)) := by
  refine WpM.of rfl nL ?_ ?_
  · rintro v w' ⟨rfl, rfl⟩
    exact ⟨fun x hx => (by cases hx), show (TTa.take 32).length = (TTa.take 30).length + 2 by decide, show slT (TTa.take 32) = slT (TTa.take 30) + 14 by decide⟩
  intro X Q C0 h1 h2 h3 hk
  have C : Okn X mX4_init (TTa.take 30) 2 14 := ⟨C0, h3, h1, h2⟩
  show WW X Q 0 [(0, .ref 29)] [] (M, G, TTa.take 30)
  refine ww_aload_n C.1 dX4_init_0 0 rfl rfl ?_
  refine ww_objI C.1 mlRX4_3 oiI oiC dX4_init_1 (by decide) (by decide) ?_
  refine ww_aload_n C.1 dX4_init_4 0 rfl rfl ?_
  refine ww_bipush C.1 (v := (7 : Int32)) dX4_init_5 (by decide) ?_
  refine ww_newI C (N := 7) (n := 30) (T' := TTa.take 31) acInt dX4_init_7 (by decide) (by decide) (by decide) rfl (hM 30 (by decide) (by decide)) (hG 30 (by decide) (by decide)) rfl rfl rfl ⟨nL, nL⟩ ?_
  refine wt_putRF C.1 dX4_init_9 flRX4_9 rfl (fun _ _ h => by cases h; rfl) (fun _ => ⟨rfl, rfl⟩) rfl rfl nL ?_
  refine ww_aload_n C.1 dX4_init_12 0 rfl rfl ?_
  refine ww_bipush C.1 (v := (7 : Int32)) dX4_init_13 (by decide) ?_
  refine ww_newI C (N := 7) (n := 31) (T' := TTa.take 32) acInt dX4_init_15 (by decide) (by decide) (by decide) rfl (hM 31 (by decide) (by decide)) ((wrG_ne (by decide)).trans (hG 31 (by decide) (by decide))) rfl rfl rfl ⟨nL, nL⟩ ?_
  refine wt_putRF C.1 dX4_init_17 flRX4_15 rfl (fun _ _ h => by cases h; rfl) (fun _ => ⟨rfl, rfl⟩) rfl rfl nL ?_
  exact ww_vret C.1 dX4_init_20 rfl (hk _ _ ⟨rfl, rfl⟩)
set_option maxHeartbeats 4000000 in
set_option maxRecDepth 20000 in
theorem iX0_init_34 {M : Mem} {G : Grf} (hM : ∀ k, 35 ≤ k → k < 37 → M k = fun _ => 0) (hG : ∀ k, 35 ≤ k → k < 37 → G k = fun _ => none) : WpM mX0_init 2 34 [.ref 34] (M, G, TTa.take 35) (fun v w' => v = none ∧ w' = ((wr M 34 6 (-1 : Int32)), (wrG (wrG G 34 0 (some 35)) 34 1 (some 36)), TTa.take 37)) := by
  refine WpM.of rfl nL ?_ ?_
  · rintro v w' ⟨rfl, rfl⟩
    exact ⟨fun x hx => (by cases hx), show (TTa.take 37).length = (TTa.take 35).length + 2 by decide, show slT (TTa.take 37) = slT (TTa.take 35) + 34 by decide⟩
  intro X Q C0 h1 h2 h3 hk
  have C : Okn X mX0_init (TTa.take 35) 2 34 := ⟨C0, h3, h1, h2⟩
  show WW X Q 0 [(0, .ref 34)] [] (M, G, TTa.take 35)
  refine ww_aload_n C.1 dX0_init_0 0 rfl rfl ?_
  refine ww_objI C.1 mlRX0_3 oiI oiC dX0_init_1 (by decide) (by decide) ?_
  refine ww_aload_n C.1 dX0_init_4 0 rfl rfl ?_
  refine ww_iconst C.1 (v := (4 : Int32)) dX0_init_5 (by decide) ?_
  refine ww_newI C (N := 4) (n := 35) (T' := TTa.take 36) acInt dX0_init_6 (by decide) (by decide) (by decide) rfl (hM 35 (by decide) (by decide)) (hG 35 (by decide) (by decide)) rfl rfl rfl ⟨nL, nL⟩ ?_
  refine wt_putRF C.1 dX0_init_8 flRX0_9 rfl (fun _ _ h => by cases h; rfl) (fun _ => ⟨rfl, rfl⟩) rfl rfl nL ?_
  refine ww_aload_n C.1 dX0_init_11 0 rfl rfl ?_
  refine ww_bipush C.1 (v := (30 : Int32)) dX0_init_12 (by decide) ?_
  refine ww_newI C (N := 30) (n := 36) (T' := TTa.take 37) acInt dX0_init_14 (by decide) (by decide) (by decide) rfl (hM 36 (by decide) (by decide)) ((wrG_ne (by decide)).trans (hG 36 (by decide) (by decide))) rfl rfl rfl ⟨nL, nL⟩ ?_
  refine wt_putRF C.1 dX0_init_16 flRX0_15 rfl (fun _ _ h => by cases h; rfl) (fun _ => ⟨rfl, rfl⟩) rfl rfl nL ?_
  refine ww_aload_n C.1 dX0_init_19 0 rfl rfl ?_
  refine ww_iconst C.1 (v := (-1 : Int32)) dX0_init_20 (by decide) ?_
  refine wt_putI C.1 dX0_init_21 flRX0_18 rfl rfl ?_
  exact ww_vret C.1 dX0_init_24 rfl (hk _ _ ⟨rfl, rfl⟩)
set_option maxHeartbeats 4000000 in
set_option maxRecDepth 20000 in
theorem iX5_init_37 {M : Mem} {G : Grf} (hM : ∀ k, 38 ≤ k → k < 44 → M k = fun _ => 0) (hG : ∀ k, 38 ≤ k → k < 44 → G k = fun _ => none) : WpM mX5_init 6 42 [.ref 37] (M, G, TTa.take 38) (fun v w' => v = none ∧ w' = (M, (wrG (wrG (wrG (wrG (wrG (wrG G 37 0 (some 38)) 37 1 (some 39)) 37 2 (some 40)) 37 3 (some 41)) 37 4 (some 42)) 37 5 (some 43)), TTa.take 44)) := by
  refine WpM.of rfl nL ?_ ?_
  · rintro v w' ⟨rfl, rfl⟩
    exact ⟨fun x hx => (by cases hx), show (TTa.take 44).length = (TTa.take 38).length + 6 by decide, show slT (TTa.take 44) = slT (TTa.take 38) + 42 by decide⟩
  intro X Q C0 h1 h2 h3 hk
  have C : Okn X mX5_init (TTa.take 38) 6 42 := ⟨C0, h3, h1, h2⟩
  show WW X Q 0 [(0, .ref 37)] [] (M, G, TTa.take 38)
  refine ww_aload_n C.1 dX5_init_0 0 rfl rfl ?_
  refine ww_objI C.1 mlRX5_3 oiI oiC dX5_init_1 (by decide) (by decide) ?_
  refine ww_aload_n C.1 dX5_init_4 0 rfl rfl ?_
  refine ww_bipush C.1 (v := (7 : Int32)) dX5_init_5 (by decide) ?_
  refine ww_newI C (N := 7) (n := 38) (T' := TTa.take 39) acInt dX5_init_7 (by decide) (by decide) (by decide) rfl (hM 38 (by decide) (by decide)) (hG 38 (by decide) (by decide)) rfl rfl rfl ⟨nL, nL⟩ ?_
  refine wt_putRF C.1 dX5_init_9 flRX5_9 rfl (fun _ _ h => by cases h; rfl) (fun _ => ⟨rfl, rfl⟩) rfl rfl nL ?_
  refine ww_aload_n C.1 dX5_init_12 0 rfl rfl ?_
  refine ww_bipush C.1 (v := (7 : Int32)) dX5_init_13 (by decide) ?_
  refine ww_newI C (N := 7) (n := 39) (T' := TTa.take 40) acInt dX5_init_15 (by decide) (by decide) (by decide) rfl (hM 39 (by decide) (by decide)) ((wrG_ne (by decide)).trans (hG 39 (by decide) (by decide))) rfl rfl rfl ⟨nL, nL⟩ ?_
  refine wt_putRF C.1 dX5_init_17 flRX5_15 rfl (fun _ _ h => by cases h; rfl) (fun _ => ⟨rfl, rfl⟩) rfl rfl nL ?_
  refine ww_aload_n C.1 dX5_init_20 0 rfl rfl ?_
  refine ww_bipush C.1 (v := (7 : Int32)) dX5_init_21 (by decide) ?_
  refine ww_newI C (N := 7) (n := 40) (T' := TTa.take 41) acInt dX5_init_23 (by decide) (by decide) (by decide) rfl (hM 40 (by decide) (by decide)) ((wrG_ne (by decide)).trans ((wrG_ne (by decide)).trans (hG 40 (by decide) (by decide)))) rfl rfl rfl ⟨nL, nL⟩ ?_
  refine wt_putRF C.1 dX5_init_25 flRX5_18 rfl (fun _ _ h => by cases h; rfl) (fun _ => ⟨rfl, rfl⟩) rfl rfl nL ?_
  refine ww_aload_n C.1 dX5_init_28 0 rfl rfl ?_
  refine ww_bipush C.1 (v := (7 : Int32)) dX5_init_29 (by decide) ?_
  refine ww_newI C (N := 7) (n := 41) (T' := TTa.take 42) acInt dX5_init_31 (by decide) (by decide) (by decide) rfl (hM 41 (by decide) (by decide)) ((wrG_ne (by decide)).trans ((wrG_ne (by decide)).trans ((wrG_ne (by decide)).trans (hG 41 (by decide) (by decide))))) rfl rfl rfl ⟨nL, nL⟩ ?_
  refine wt_putRF C.1 dX5_init_33 flRX5_21 rfl (fun _ _ h => by cases h; rfl) (fun _ => ⟨rfl, rfl⟩) rfl rfl nL ?_
  refine ww_aload_n C.1 dX5_init_36 0 rfl rfl ?_
  refine ww_bipush C.1 (v := (7 : Int32)) dX5_init_37 (by decide) ?_
  refine ww_newI C (N := 7) (n := 42) (T' := TTa.take 43) acInt dX5_init_39 (by decide) (by decide) (by decide) rfl (hM 42 (by decide) (by decide)) ((wrG_ne (by decide)).trans ((wrG_ne (by decide)).trans ((wrG_ne (by decide)).trans ((wrG_ne (by decide)).trans (hG 42 (by decide) (by decide)))))) rfl rfl rfl ⟨nL, nL⟩ ?_
  refine wt_putRF C.1 dX5_init_41 flRX5_24 rfl (fun _ _ h => by cases h; rfl) (fun _ => ⟨rfl, rfl⟩) rfl rfl nL ?_
  refine ww_aload_n C.1 dX5_init_44 0 rfl rfl ?_
  refine ww_bipush C.1 (v := (7 : Int32)) dX5_init_45 (by decide) ?_
  refine ww_newI C (N := 7) (n := 43) (T' := TTa.take 44) acInt dX5_init_47 (by decide) (by decide) (by decide) rfl (hM 43 (by decide) (by decide)) ((wrG_ne (by decide)).trans ((wrG_ne (by decide)).trans ((wrG_ne (by decide)).trans ((wrG_ne (by decide)).trans ((wrG_ne (by decide)).trans (hG 43 (by decide) (by decide))))))) rfl rfl rfl ⟨nL, nL⟩ ?_
  refine wt_putRF C.1 dX5_init_49 flRX5_27 rfl (fun _ _ h => by cases h; rfl) (fun _ => ⟨rfl, rfl⟩) rfl rfl nL ?_
  exact ww_vret C.1 dX5_init_52 rfl (hk _ _ ⟨rfl, rfl⟩)
set_option maxHeartbeats 4000000 in
set_option maxRecDepth 20000 in
theorem iX2_init_33 {M : Mem} {G : Grf} (hM : ∀ k, 34 ≤ k → k < 45 → M k = fun _ => 0) (hG : ∀ k, 34 ≤ k → k < 45 → G k = fun _ => none) : WpM mX2_init 11 94 [.ref 33] (M, G, TTa.take 34) (fun v w' => v = none ∧ w' = ((wr M 34 6 (-1 : Int32)), (wrG (wrG (wrG (wrG (wrG (wrG (wrG (wrG (wrG (wrG (wrG G 34 0 (some 35)) 34 1 (some 36)) 33 0 (some 34)) 37 0 (some 38)) 37 1 (some 39)) 37 2 (some 40)) 37 3 (some 41)) 37 4 (some 42)) 37 5 (some 43)) 33 1 (some 37)) 33 2 (some 44)), TTa.take 45)) := by
  refine WpM.of rfl nL ?_ ?_
  · rintro v w' ⟨rfl, rfl⟩
    exact ⟨fun x hx => (by cases hx), show (TTa.take 45).length = (TTa.take 34).length + 11 by decide, show slT (TTa.take 45) = slT (TTa.take 34) + 94 by decide⟩
  intro X Q C0 h1 h2 h3 hk
  have C : Okn X mX2_init (TTa.take 34) 11 94 := ⟨C0, h3, h1, h2⟩
  show WW X Q 0 [(0, .ref 33)] [] (M, G, TTa.take 34)
  refine ww_aload_n C.1 dX2_init_0 0 rfl rfl ?_
  refine ww_objI C.1 mlRX2_3 oiI oiC dX2_init_1 (by decide) (by decide) ?_
  refine ww_aload_n C.1 dX2_init_4 0 rfl rfl ?_
  refine ww_new C (ci := 0) (n := 34) (T' := TTa.take 35) (by decide) rfl inG0 tyX0_ok dfX0 (wqG11 (i := 0) rfl rfl) (wqG11 (i := 1) rfl rfl) (wqG2 (i := 9) rfl rfl) dX2_init_5 rfl (hM 34 (by decide) (by decide)) (hG 34 (by decide) (by decide)) rfl rfl rfl ⟨nL, nL⟩ ?_
  refine ww_dup C.1 dX2_init_8 rfl ?_
  refine ww_callI C (iX0_init_34 (fun k h1 h2 => hM k (by omega) (by omega)) (fun k h1 h2 => hG k (by omega) (by omega))) fX0_init (And.intro (by decide) (by decide)) nlRX2_11 dX2_init_9 (As := []) (rest := [.ref 34, .ref 33]) rfl rfl rfl nL ⟨nL, nL⟩ ⟨rfl, rfl⟩ ?_
  rintro v w' ⟨rfl, rfl⟩
  show WW X Q 12 [(0, .ref 33)] [.ref 34, .ref 33] ((wr M 34 6 (-1 : Int32)), (wrG (wrG G 34 0 (some 35)) 34 1 (some 36)), TTa.take 37)
  refine wt_putRF C.1 dX2_init_12 flRX2_12 rfl (fun _ _ h => by cases h; rfl) (fun _ => ⟨rfl, rfl⟩) rfl rfl nL ?_
  refine ww_aload_n C.1 dX2_init_15 0 rfl rfl ?_
  refine ww_new C (ci := 5) (n := 37) (T' := TTa.take 38) (by decide) rfl inG5 tyX5_ok dfX5 (wqG12 (i := 16) rfl rfl) (wqG12 (i := 17) rfl rfl) (wqG2 (i := 10) rfl rfl) dX2_init_16 rfl ((wr_ne (by decide)).trans (hM 37 (by decide) (by decide))) ((wrG_ne (by decide)).trans ((wrG_ne (by decide)).trans ((wrG_ne (by decide)).trans (hG 37 (by decide) (by decide))))) rfl rfl rfl ⟨nL, nL⟩ ?_
  refine ww_dup C.1 dX2_init_19 rfl ?_
  refine ww_callI C (iX5_init_37 (fun k h1 h2 => (wr_ne (by omega)).trans (hM k (by omega) (by omega))) (fun k h1 h2 => (wrG_ne (by omega)).trans ((wrG_ne (by omega)).trans ((wrG_ne (by omega)).trans (hG k (by omega) (by omega)))))) fX5_init (And.intro (by decide) (by decide)) nlRX2_20 dX2_init_20 (As := []) (rest := [.ref 37, .ref 33]) rfl rfl rfl nL ⟨nL, nL⟩ ⟨rfl, rfl⟩ ?_
  rintro v w' ⟨rfl, rfl⟩
  show WW X Q 23 [(0, .ref 33)] [.ref 37, .ref 33] ((wr M 34 6 (-1 : Int32)), (wrG (wrG (wrG (wrG (wrG (wrG (wrG (wrG (wrG G 34 0 (some 35)) 34 1 (some 36)) 33 0 (some 34)) 37 0 (some 38)) 37 1 (some 39)) 37 2 (some 40)) 37 3 (some 41)) 37 4 (some 42)) 37 5 (some 43)), TTa.take 44)
  refine wt_putRF C.1 dX2_init_23 flRX2_21 rfl (fun _ _ h => by cases h; rfl) (fun _ => ⟨rfl, rfl⟩) rfl rfl nL ?_
  refine ww_aload_n C.1 dX2_init_26 0 rfl rfl ?_
  refine ww_iconst C.1 (v := (4 : Int32)) dX2_init_27 (by decide) ?_
  refine ww_newI C (N := 4) (n := 44) (T' := TTa.take 45) acInt dX2_init_28 (by decide) (by decide) (by decide) rfl ((wr_ne (by decide)).trans (hM 44 (by decide) (by decide))) ((wrG_ne (by decide)).trans ((wrG_ne (by decide)).trans ((wrG_ne (by decide)).trans ((wrG_ne (by decide)).trans ((wrG_ne (by decide)).trans ((wrG_ne (by decide)).trans ((wrG_ne (by decide)).trans ((wrG_ne (by decide)).trans ((wrG_ne (by decide)).trans ((wrG_ne (by decide)).trans (hG 44 (by decide) (by decide)))))))))))) rfl rfl rfl ⟨nL, nL⟩ ?_
  refine wt_putRF C.1 dX2_init_30 flRX2_25 rfl (fun _ _ h => by cases h; rfl) (fun _ => ⟨rfl, rfl⟩) rfl rfl nL ?_
  exact ww_vret C.1 dX2_init_33 rfl (hk _ _ ⟨rfl, rfl⟩)
set_option maxHeartbeats 4000000 in
set_option maxRecDepth 20000 in
theorem iX0_init_46 {M : Mem} {G : Grf} (hM : ∀ k, 47 ≤ k → k < 49 → M k = fun _ => 0) (hG : ∀ k, 47 ≤ k → k < 49 → G k = fun _ => none) : WpM mX0_init 2 34 [.ref 46] (M, G, TTa.take 47) (fun v w' => v = none ∧ w' = ((wr M 46 6 (-1 : Int32)), (wrG (wrG G 46 0 (some 47)) 46 1 (some 48)), TTa.take 49)) := by
  refine WpM.of rfl nL ?_ ?_
  · rintro v w' ⟨rfl, rfl⟩
    exact ⟨fun x hx => (by cases hx), show (TTa.take 49).length = (TTa.take 47).length + 2 by decide, show slT (TTa.take 49) = slT (TTa.take 47) + 34 by decide⟩
  intro X Q C0 h1 h2 h3 hk
  have C : Okn X mX0_init (TTa.take 47) 2 34 := ⟨C0, h3, h1, h2⟩
  show WW X Q 0 [(0, .ref 46)] [] (M, G, TTa.take 47)
  refine ww_aload_n C.1 dX0_init_0 0 rfl rfl ?_
  refine ww_objI C.1 mlRX0_3 oiI oiC dX0_init_1 (by decide) (by decide) ?_
  refine ww_aload_n C.1 dX0_init_4 0 rfl rfl ?_
  refine ww_iconst C.1 (v := (4 : Int32)) dX0_init_5 (by decide) ?_
  refine ww_newI C (N := 4) (n := 47) (T' := TTa.take 48) acInt dX0_init_6 (by decide) (by decide) (by decide) rfl (hM 47 (by decide) (by decide)) (hG 47 (by decide) (by decide)) rfl rfl rfl ⟨nL, nL⟩ ?_
  refine wt_putRF C.1 dX0_init_8 flRX0_9 rfl (fun _ _ h => by cases h; rfl) (fun _ => ⟨rfl, rfl⟩) rfl rfl nL ?_
  refine ww_aload_n C.1 dX0_init_11 0 rfl rfl ?_
  refine ww_bipush C.1 (v := (30 : Int32)) dX0_init_12 (by decide) ?_
  refine ww_newI C (N := 30) (n := 48) (T' := TTa.take 49) acInt dX0_init_14 (by decide) (by decide) (by decide) rfl (hM 48 (by decide) (by decide)) ((wrG_ne (by decide)).trans (hG 48 (by decide) (by decide))) rfl rfl rfl ⟨nL, nL⟩ ?_
  refine wt_putRF C.1 dX0_init_16 flRX0_15 rfl (fun _ _ h => by cases h; rfl) (fun _ => ⟨rfl, rfl⟩) rfl rfl nL ?_
  refine ww_aload_n C.1 dX0_init_19 0 rfl rfl ?_
  refine ww_iconst C.1 (v := (-1 : Int32)) dX0_init_20 (by decide) ?_
  refine wt_putI C.1 dX0_init_21 flRX0_18 rfl rfl ?_
  exact ww_vret C.1 dX0_init_24 rfl (hk _ _ ⟨rfl, rfl⟩)
set_option maxHeartbeats 4000000 in
set_option maxRecDepth 20000 in
theorem iX5_init_49 {M : Mem} {G : Grf} (hM : ∀ k, 50 ≤ k → k < 56 → M k = fun _ => 0) (hG : ∀ k, 50 ≤ k → k < 56 → G k = fun _ => none) : WpM mX5_init 6 42 [.ref 49] (M, G, TTa.take 50) (fun v w' => v = none ∧ w' = (M, (wrG (wrG (wrG (wrG (wrG (wrG G 49 0 (some 50)) 49 1 (some 51)) 49 2 (some 52)) 49 3 (some 53)) 49 4 (some 54)) 49 5 (some 55)), TTa.take 56)) := by
  refine WpM.of rfl nL ?_ ?_
  · rintro v w' ⟨rfl, rfl⟩
    exact ⟨fun x hx => (by cases hx), show (TTa.take 56).length = (TTa.take 50).length + 6 by decide, show slT (TTa.take 56) = slT (TTa.take 50) + 42 by decide⟩
  intro X Q C0 h1 h2 h3 hk
  have C : Okn X mX5_init (TTa.take 50) 6 42 := ⟨C0, h3, h1, h2⟩
  show WW X Q 0 [(0, .ref 49)] [] (M, G, TTa.take 50)
  refine ww_aload_n C.1 dX5_init_0 0 rfl rfl ?_
  refine ww_objI C.1 mlRX5_3 oiI oiC dX5_init_1 (by decide) (by decide) ?_
  refine ww_aload_n C.1 dX5_init_4 0 rfl rfl ?_
  refine ww_bipush C.1 (v := (7 : Int32)) dX5_init_5 (by decide) ?_
  refine ww_newI C (N := 7) (n := 50) (T' := TTa.take 51) acInt dX5_init_7 (by decide) (by decide) (by decide) rfl (hM 50 (by decide) (by decide)) (hG 50 (by decide) (by decide)) rfl rfl rfl ⟨nL, nL⟩ ?_
  refine wt_putRF C.1 dX5_init_9 flRX5_9 rfl (fun _ _ h => by cases h; rfl) (fun _ => ⟨rfl, rfl⟩) rfl rfl nL ?_
  refine ww_aload_n C.1 dX5_init_12 0 rfl rfl ?_
  refine ww_bipush C.1 (v := (7 : Int32)) dX5_init_13 (by decide) ?_
  refine ww_newI C (N := 7) (n := 51) (T' := TTa.take 52) acInt dX5_init_15 (by decide) (by decide) (by decide) rfl (hM 51 (by decide) (by decide)) ((wrG_ne (by decide)).trans (hG 51 (by decide) (by decide))) rfl rfl rfl ⟨nL, nL⟩ ?_
  refine wt_putRF C.1 dX5_init_17 flRX5_15 rfl (fun _ _ h => by cases h; rfl) (fun _ => ⟨rfl, rfl⟩) rfl rfl nL ?_
  refine ww_aload_n C.1 dX5_init_20 0 rfl rfl ?_
  refine ww_bipush C.1 (v := (7 : Int32)) dX5_init_21 (by decide) ?_
  refine ww_newI C (N := 7) (n := 52) (T' := TTa.take 53) acInt dX5_init_23 (by decide) (by decide) (by decide) rfl (hM 52 (by decide) (by decide)) ((wrG_ne (by decide)).trans ((wrG_ne (by decide)).trans (hG 52 (by decide) (by decide)))) rfl rfl rfl ⟨nL, nL⟩ ?_
  refine wt_putRF C.1 dX5_init_25 flRX5_18 rfl (fun _ _ h => by cases h; rfl) (fun _ => ⟨rfl, rfl⟩) rfl rfl nL ?_
  refine ww_aload_n C.1 dX5_init_28 0 rfl rfl ?_
  refine ww_bipush C.1 (v := (7 : Int32)) dX5_init_29 (by decide) ?_
  refine ww_newI C (N := 7) (n := 53) (T' := TTa.take 54) acInt dX5_init_31 (by decide) (by decide) (by decide) rfl (hM 53 (by decide) (by decide)) ((wrG_ne (by decide)).trans ((wrG_ne (by decide)).trans ((wrG_ne (by decide)).trans (hG 53 (by decide) (by decide))))) rfl rfl rfl ⟨nL, nL⟩ ?_
  refine wt_putRF C.1 dX5_init_33 flRX5_21 rfl (fun _ _ h => by cases h; rfl) (fun _ => ⟨rfl, rfl⟩) rfl rfl nL ?_
  refine ww_aload_n C.1 dX5_init_36 0 rfl rfl ?_
  refine ww_bipush C.1 (v := (7 : Int32)) dX5_init_37 (by decide) ?_
  refine ww_newI C (N := 7) (n := 54) (T' := TTa.take 55) acInt dX5_init_39 (by decide) (by decide) (by decide) rfl (hM 54 (by decide) (by decide)) ((wrG_ne (by decide)).trans ((wrG_ne (by decide)).trans ((wrG_ne (by decide)).trans ((wrG_ne (by decide)).trans (hG 54 (by decide) (by decide)))))) rfl rfl rfl ⟨nL, nL⟩ ?_
  refine wt_putRF C.1 dX5_init_41 flRX5_24 rfl (fun _ _ h => by cases h; rfl) (fun _ => ⟨rfl, rfl⟩) rfl rfl nL ?_
  refine ww_aload_n C.1 dX5_init_44 0 rfl rfl ?_
  refine ww_bipush C.1 (v := (7 : Int32)) dX5_init_45 (by decide) ?_
  refine ww_newI C (N := 7) (n := 55) (T' := TTa.take 56) acInt dX5_init_47 (by decide) (by decide) (by decide) rfl (hM 55 (by decide) (by decide)) ((wrG_ne (by decide)).trans ((wrG_ne (by decide)).trans ((wrG_ne (by decide)).trans ((wrG_ne (by decide)).trans ((wrG_ne (by decide)).trans (hG 55 (by decide) (by decide))))))) rfl rfl rfl ⟨nL, nL⟩ ?_
  refine wt_putRF C.1 dX5_init_49 flRX5_27 rfl (fun _ _ h => by cases h; rfl) (fun _ => ⟨rfl, rfl⟩) rfl rfl nL ?_
  exact ww_vret C.1 dX5_init_52 rfl (hk _ _ ⟨rfl, rfl⟩)
set_option maxHeartbeats 4000000 in
set_option maxRecDepth 20000 in
theorem iX2_init_45 {M : Mem} {G : Grf} (hM : ∀ k, 46 ≤ k → k < 57 → M k = fun _ => 0) (hG : ∀ k, 46 ≤ k → k < 57 → G k = fun _ => none) : WpM mX2_init 11 94 [.ref 45] (M, G, TTa.take 46) (fun v w' => v = none ∧ w' = ((wr M 46 6 (-1 : Int32)), (wrG (wrG (wrG (wrG (wrG (wrG (wrG (wrG (wrG (wrG (wrG G 46 0 (some 47)) 46 1 (some 48)) 45 0 (some 46)) 49 0 (some 50)) 49 1 (some 51)) 49 2 (some 52)) 49 3 (some 53)) 49 4 (some 54)) 49 5 (some 55)) 45 1 (some 49)) 45 2 (some 56)), TTa.take 57)) := by
  refine WpM.of rfl nL ?_ ?_
  · rintro v w' ⟨rfl, rfl⟩
    exact ⟨fun x hx => (by cases hx), show (TTa.take 57).length = (TTa.take 46).length + 11 by decide, show slT (TTa.take 57) = slT (TTa.take 46) + 94 by decide⟩
  intro X Q C0 h1 h2 h3 hk
  have C : Okn X mX2_init (TTa.take 46) 11 94 := ⟨C0, h3, h1, h2⟩
  show WW X Q 0 [(0, .ref 45)] [] (M, G, TTa.take 46)
  refine ww_aload_n C.1 dX2_init_0 0 rfl rfl ?_
  refine ww_objI C.1 mlRX2_3 oiI oiC dX2_init_1 (by decide) (by decide) ?_
  refine ww_aload_n C.1 dX2_init_4 0 rfl rfl ?_
  refine ww_new C (ci := 0) (n := 46) (T' := TTa.take 47) (by decide) rfl inG0 tyX0_ok dfX0 (wqG11 (i := 0) rfl rfl) (wqG11 (i := 1) rfl rfl) (wqG2 (i := 9) rfl rfl) dX2_init_5 rfl (hM 46 (by decide) (by decide)) (hG 46 (by decide) (by decide)) rfl rfl rfl ⟨nL, nL⟩ ?_
  refine ww_dup C.1 dX2_init_8 rfl ?_
  refine ww_callI C (iX0_init_46 (fun k h1 h2 => hM k (by omega) (by omega)) (fun k h1 h2 => hG k (by omega) (by omega))) fX0_init (And.intro (by decide) (by decide)) nlRX2_11 dX2_init_9 (As := []) (rest := [.ref 46, .ref 45]) rfl rfl rfl nL ⟨nL, nL⟩ ⟨rfl, rfl⟩ ?_
  rintro v w' ⟨rfl, rfl⟩
  show WW X Q 12 [(0, .ref 45)] [.ref 46, .ref 45] ((wr M 46 6 (-1 : Int32)), (wrG (wrG G 46 0 (some 47)) 46 1 (some 48)), TTa.take 49)
  refine wt_putRF C.1 dX2_init_12 flRX2_12 rfl (fun _ _ h => by cases h; rfl) (fun _ => ⟨rfl, rfl⟩) rfl rfl nL ?_
  refine ww_aload_n C.1 dX2_init_15 0 rfl rfl ?_
  refine ww_new C (ci := 5) (n := 49) (T' := TTa.take 50) (by decide) rfl inG5 tyX5_ok dfX5 (wqG12 (i := 16) rfl rfl) (wqG12 (i := 17) rfl rfl) (wqG2 (i := 10) rfl rfl) dX2_init_16 rfl ((wr_ne (by decide)).trans (hM 49 (by decide) (by decide))) ((wrG_ne (by decide)).trans ((wrG_ne (by decide)).trans ((wrG_ne (by decide)).trans (hG 49 (by decide) (by decide))))) rfl rfl rfl ⟨nL, nL⟩ ?_
  refine ww_dup C.1 dX2_init_19 rfl ?_
  refine ww_callI C (iX5_init_49 (fun k h1 h2 => (wr_ne (by omega)).trans (hM k (by omega) (by omega))) (fun k h1 h2 => (wrG_ne (by omega)).trans ((wrG_ne (by omega)).trans ((wrG_ne (by omega)).trans (hG k (by omega) (by omega)))))) fX5_init (And.intro (by decide) (by decide)) nlRX2_20 dX2_init_20 (As := []) (rest := [.ref 49, .ref 45]) rfl rfl rfl nL ⟨nL, nL⟩ ⟨rfl, rfl⟩ ?_
  rintro v w' ⟨rfl, rfl⟩
  show WW X Q 23 [(0, .ref 45)] [.ref 49, .ref 45] ((wr M 46 6 (-1 : Int32)), (wrG (wrG (wrG (wrG (wrG (wrG (wrG (wrG (wrG G 46 0 (some 47)) 46 1 (some 48)) 45 0 (some 46)) 49 0 (some 50)) 49 1 (some 51)) 49 2 (some 52)) 49 3 (some 53)) 49 4 (some 54)) 49 5 (some 55)), TTa.take 56)
  refine wt_putRF C.1 dX2_init_23 flRX2_21 rfl (fun _ _ h => by cases h; rfl) (fun _ => ⟨rfl, rfl⟩) rfl rfl nL ?_
  refine ww_aload_n C.1 dX2_init_26 0 rfl rfl ?_
  refine ww_iconst C.1 (v := (4 : Int32)) dX2_init_27 (by decide) ?_
  refine ww_newI C (N := 4) (n := 56) (T' := TTa.take 57) acInt dX2_init_28 (by decide) (by decide) (by decide) rfl ((wr_ne (by decide)).trans (hM 56 (by decide) (by decide))) ((wrG_ne (by decide)).trans ((wrG_ne (by decide)).trans ((wrG_ne (by decide)).trans ((wrG_ne (by decide)).trans ((wrG_ne (by decide)).trans ((wrG_ne (by decide)).trans ((wrG_ne (by decide)).trans ((wrG_ne (by decide)).trans ((wrG_ne (by decide)).trans ((wrG_ne (by decide)).trans (hG 56 (by decide) (by decide)))))))))))) rfl rfl rfl ⟨nL, nL⟩ ?_
  refine wt_putRF C.1 dX2_init_30 flRX2_25 rfl (fun _ _ h => by cases h; rfl) (fun _ => ⟨rfl, rfl⟩) rfl rfl nL ?_
  exact ww_vret C.1 dX2_init_33 rfl (hk _ _ ⟨rfl, rfl⟩)
