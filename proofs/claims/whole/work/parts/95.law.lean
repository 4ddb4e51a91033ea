/-! the law: its calls -/
abbrev mLw (nm : String) : MD := (⟨RL, nm, "([I)Z"⟩, cL_law, 4, some .boolean, 9, 352)
def LK (X : CX) (nm : String) (Ln : Nat) (xv : Nat → Int32) : Prop := Okn X (mLw nm) [] 600000 7302250 ∧ va_X (xb X) Ln xv (xs X) (xs X).heap ∧ xb X < (xs X).heap.size ∧ ¬ xA X (xb X) ∧ Ln ≤ 256
section LW
variable {X : CX} {Q : State → Prop} {nm : String} {Ln pc : Nat} {xv : Nat → Int32} {L : List (Nat × Value)} {S : List Value} {w : Wd}
theorem ww_sld (C : LK X nm Ln xv) {x : Int32} (d : decode cL_law pc = .ok (.iaload, 1)) {j : Nat} (hx : x = nI j) (hj : j < Ln) (k : WW X Q (pc + 1) L (.int (xv j) :: S) w) : WW X Q pc L (.int x :: .retAddr 0 :: S) w := by
  subst hx
  have h256 := C.2.2.2.2
  intro ads H locs ls cells slots hl hR
  have k2 := k ads H locs ls cells slots hl hR
  refine va_sld C.1.1.1 C.1.1.2.1 C.2.1 C.2.2.1 C.2.2.2.1 hR.2.2.1 (nin hj (by omega)) d ?_
  rw [ncl (by omega)]
  exact k2
theorem ww_slen (C : LK X nm Ln xv) (d : decode cL_law pc = .ok (.arraylength, 1)) (k : WW X Q (pc + 1) L (.int (nI Ln) :: S) w) : WW X Q pc L (.retAddr 0 :: S) w := by
  intro ads H locs ls cells slots hl hR
  exact va_slen C.1.1.1 C.1.1.2.1 C.2.1 C.2.2.1 C.2.2.2.1 hR.2.2.1 d (k ads H locs ls cells slots hl hR)
theorem lk_room (C : LK X nm Ln xv) : (TTc ++ TTm).length + 0 ≤ (xT X).length + (xR X).cells ∧ slT (TTc ++ TTm) + 0 ≤ slT (xT X) + (xR X).slots := by
  rw [C.1.2.1, C.1.2.2.1, C.1.2.2.2]
  exact ⟨nL, nL⟩
end LW
set_option maxHeartbeats 4000000 in
theorem lw_c0 {X : CX} {Q : State → Prop} {nm : String} {Ln i : Nat} {xv : Nat → Int32} {M : Mem} (C : LK X nm Ln xv) (hi : i + 4 ≤ Ln) (h : StepOK mX9_write mX10_write [.int (xv (i + 1))] M) (kk : ∀ M2, Inv M2 → WW X Q 962 [(0, .retAddr 0), (1, .ref 0), (2, .ref 57), (3, .int (nI i))] [] (M2, gj gm, TTc ++ TTm)) : WW X Q 176 [(0, .retAddr 0), (1, .ref 0), (2, .ref 57), (3, .int (nI i))] [] (M, gj gm, TTc ++ TTm) := by
  refine ww_aload_n C.1.1 dL_law_176 1 rfl rfl ?_
  refine ww_aloadX_n C.1.1 dL_law_177 0 rfl rfl ?_
  refine ww_iload_n C.1.1 dL_law_178 3 rfl rfl ?_
  refine ww_iconst C.1.1 (v := (1 : Int32)) dL_law_179 (by decide) ?_
  refine ww_iadd C.1.1 dL_law_180 ?_
  refine ww_sld C dL_law_181 (j := i + 1) (nI_add i 1) (by omega) ?_
  refine ww_callV (As := [.int (xv (i + 1))]) (rest := []) C.1.1 h fX9_write (And.intro nL nL) mlRL_13 dL_law_182 (tc0 TTm) (by decide) rfl rfl rfl rfl nL (lk_room C) (Or.inl rfl) ?_
  rintro v w' ⟨r, M1, rfl, rfl, h1⟩
  show WW X Q 185 _ [.int r] (M1, gj gm, TTc ++ TTm)
  refine ww_aload_n C.1.1 dL_law_185 2 rfl rfl ?_
  refine ww_aloadX_n C.1.1 dL_law_186 0 rfl rfl ?_
  refine ww_iload_n C.1.1 dL_law_187 3 rfl rfl ?_
  refine ww_iconst C.1.1 (v := (1 : Int32)) dL_law_188 (by decide) ?_
  refine ww_iadd C.1.1 dL_law_189 ?_
  refine ww_sld C dL_law_190 (j := i + 1) (nI_add i 1) (by omega) ?_
  refine ww_callV (As := [.int (xv (i + 1))]) (rest := [.int r]) C.1.1 h1 fX10_write (And.intro nL nL) mlRL_17 dL_law_191 tm57 (by decide) rfl rfl rfl rfl nL (lk_room C) (Or.inl rfl) ?_
  rintro v w' ⟨r2, M2, rfl, rfl, rfl, hI⟩
  exact ww_icmp_eq C.1.1 (tgt := 962) dL_law_194 (by decide) (fun _ => kk _ hI) (fun z => absurd rfl z)
set_option maxHeartbeats 4000000 in
theorem lw_c1 {X : CX} {Q : State → Prop} {nm : String} {Ln i : Nat} {xv : Nat → Int32} {M : Mem} (C : LK X nm Ln xv) (hi : i + 4 ≤ Ln) (h : StepOK mX9_wipe mX10_wipe [] M) (kk : ∀ M2, Inv M2 → WW X Q 962 [(0, .retAddr 0), (1, .ref 0), (2, .ref 57), (3, .int (nI i))] [] (M2, gj gm, TTc ++ TTm)) : WW X Q 199 [(0, .retAddr 0), (1, .ref 0), (2, .ref 57), (3, .int (nI i))] [] (M, gj gm, TTc ++ TTm) := by
  refine ww_aload_n C.1.1 dL_law_199 1 rfl rfl ?_
  refine ww_callV (As := []) (rest := []) C.1.1 h fX9_wipe (And.intro nL nL) mlRL_18 dL_law_200 (tc0 TTm) (by decide) rfl rfl rfl rfl nL (lk_room C) (Or.inl rfl) ?_
  rintro v w' ⟨r, M1, rfl, rfl, h1⟩
  show WW X Q 203 _ [.int r] (M1, gj gm, TTc ++ TTm)
  refine ww_aload_n C.1.1 dL_law_203 2 rfl rfl ?_
  refine ww_callV (As := []) (rest := [.int r]) C.1.1 h1 fX10_wipe (And.intro nL nL) mlRL_22 dL_law_204 tm57 (by decide) rfl rfl rfl rfl nL (lk_room C) (Or.inl rfl) ?_
  rintro v w' ⟨r2, M2, rfl, rfl, rfl, hI⟩
  exact ww_icmp_eq C.1.1 (tgt := 962) dL_law_207 (by decide) (fun _ => kk _ hI) (fun z => absurd rfl z)
set_option maxHeartbeats 4000000 in
theorem lw_c2 {X : CX} {Q : State → Prop} {nm : String} {Ln i : Nat} {xv : Nat → Int32} {M : Mem} (C : LK X nm Ln xv) (hi : i + 4 ≤ Ln) (h : StepOK mX9_fault mX10_fault [] M) (kk : ∀ M2, Inv M2 → WW X Q 962 [(0, .retAddr 0), (1, .ref 0), (2, .ref 57), (3, .int (nI i))] [] (M2, gj gm, TTc ++ TTm)) : WW X Q 212 [(0, .retAddr 0), (1, .ref 0), (2, .ref 57), (3, .int (nI i))] [] (M, gj gm, TTc ++ TTm) := by
  refine ww_aload_n C.1.1 dL_law_212 1 rfl rfl ?_
  refine ww_callV (As := []) (rest := []) C.1.1 h fX9_fault (And.intro nL nL) mlRL_23 dL_law_213 (tc0 TTm) (by decide) rfl rfl rfl rfl nL (lk_room C) (Or.inl rfl) ?_
  rintro v w' ⟨r, M1, rfl, rfl, h1⟩
  show WW X Q 216 _ [.int r] (M1, gj gm, TTc ++ TTm)
  refine ww_aload_n C.1.1 dL_law_216 2 rfl rfl ?_
  refine ww_callV (As := []) (rest := [.int r]) C.1.1 h1 fX10_fault (And.intro nL nL) mlRL_26 dL_law_217 tm57 (by decide) rfl rfl rfl rfl nL (lk_room C) (Or.inl rfl) ?_
  rintro v w' ⟨r2, M2, rfl, rfl, rfl, hI⟩
  exact ww_icmp_eq C.1.1 (tgt := 962) dL_law_220 (by decide) (fun _ => kk _ hI) (fun z => absurd rfl z)
set_option maxHeartbeats 4000000 in
theorem lw_c4 {X : CX} {Q : State → Prop} {nm : String} {Ln i : Nat} {xv : Nat → Int32} {M : Mem} (C : LK X nm Ln xv) (hi : i + 4 ≤ Ln) (h : StepOK mX9_bed mX10_bed [.int (xv (i + 1)), .int (xv (i + 2))] M) (kk : ∀ M2, Inv M2 → WW X Q 962 [(0, .retAddr 0), (1, .ref 0), (2, .ref 57), (3, .int (nI i))] [] (M2, gj gm, TTc ++ TTm)) : WW X Q 238 [(0, .retAddr 0), (1, .ref 0), (2, .ref 57), (3, .int (nI i))] [] (M, gj gm, TTc ++ TTm) := by
  refine ww_aload_n C.1.1 dL_law_238 1 rfl rfl ?_
  refine ww_aloadX_n C.1.1 dL_law_239 0 rfl rfl ?_
  refine ww_iload_n C.1.1 dL_law_240 3 rfl rfl ?_
  refine ww_iconst C.1.1 (v := (1 : Int32)) dL_law_241 (by decide) ?_
  refine ww_iadd C.1.1 dL_law_242 ?_
  refine ww_sld C dL_law_243 (j := i + 1) (nI_add i 1) (by omega) ?_
  refine ww_aloadX_n C.1.1 dL_law_244 0 rfl rfl ?_
  refine ww_iload_n C.1.1 dL_law_245 3 rfl rfl ?_
  refine ww_iconst C.1.1 (v := (2 : Int32)) dL_law_246 (by decide) ?_
  refine ww_iadd C.1.1 dL_law_247 ?_
  refine ww_sld C dL_law_248 (j := i + 2) (nI_add i 2) (by omega) ?_
  refine ww_callV (As := [.int (xv (i + 1)), .int (xv (i + 2))]) (rest := []) C.1.1 h fX9_bed (And.intro nL nL) mlRL_31 dL_law_249 (tc0 TTm) (by decide) rfl rfl rfl rfl nL (lk_room C) (Or.inl rfl) ?_
  rintro v w' ⟨r, M1, rfl, rfl, h1⟩
  show WW X Q 252 _ [.int r] (M1, gj gm, TTc ++ TTm)
  refine ww_aload_n C.1.1 dL_law_252 2 rfl rfl ?_
  refine ww_aloadX_n C.1.1 dL_law_253 0 rfl rfl ?_
  refine ww_iload_n C.1.1 dL_law_254 3 rfl rfl ?_
  refine ww_iconst C.1.1 (v := (1 : Int32)) dL_law_255 (by decide) ?_
  refine ww_iadd C.1.1 dL_law_256 ?_
  refine ww_sld C dL_law_257 (j := i + 1) (nI_add i 1) (by omega) ?_
  refine ww_aloadX_n C.1.1 dL_law_258 0 rfl rfl ?_
  refine ww_iload_n C.1.1 dL_law_259 3 rfl rfl ?_
  refine ww_iconst C.1.1 (v := (2 : Int32)) dL_law_260 (by decide) ?_
  refine ww_iadd C.1.1 dL_law_261 ?_
  refine ww_sld C dL_law_262 (j := i + 2) (nI_add i 2) (by omega) ?_
  refine ww_callV (As := [.int (xv (i + 1)), .int (xv (i + 2))]) (rest := [.int r]) C.1.1 h1 fX10_bed (And.intro nL nL) mlRL_35 dL_law_263 tm57 (by decide) rfl rfl rfl rfl nL (lk_room C) (Or.inl rfl) ?_
  rintro v w' ⟨r2, M2, rfl, rfl, rfl, hI⟩
  exact ww_icmp_eq C.1.1 (tgt := 962) dL_law_266 (by decide) (fun _ => kk _ hI) (fun z => absurd rfl z)
set_option maxHeartbeats 4000000 in
theorem lw_c5 {X : CX} {Q : State → Prop} {nm : String} {Ln i : Nat} {xv : Nat → Int32} {M : Mem} (C : LK X nm Ln xv) (hi : i + 4 ≤ Ln) (h : StepOK mX9_guest mX10_guest [.int (xv (i + 1)), .int (xv (i + 2))] M) (kk : ∀ M2, Inv M2 → WW X Q 962 [(0, .retAddr 0), (1, .ref 0), (2, .ref 57), (3, .int (nI i))] [] (M2, gj gm, TTc ++ TTm)) : WW X Q 271 [(0, .retAddr 0), (1, .ref 0), (2, .ref 57), (3, .int (nI i))] [] (M, gj gm, TTc ++ TTm) := by
  refine ww_aload_n C.1.1 dL_law_271 1 rfl rfl ?_
  refine ww_aloadX_n C.1.1 dL_law_272 0 rfl rfl ?_
  refine ww_iload_n C.1.1 dL_law_273 3 rfl rfl ?_
  refine ww_iconst C.1.1 (v := (1 : Int32)) dL_law_274 (by decide) ?_
  refine ww_iadd C.1.1 dL_law_275 ?_
  refine ww_sld C dL_law_276 (j := i + 1) (nI_add i 1) (by omega) ?_
  refine ww_aloadX_n C.1.1 dL_law_277 0 rfl rfl ?_
  refine ww_iload_n C.1.1 dL_law_278 3 rfl rfl ?_
  refine ww_iconst C.1.1 (v := (2 : Int32)) dL_law_279 (by decide) ?_
  refine ww_iadd C.1.1 dL_law_280 ?_
  refine ww_sld C dL_law_281 (j := i + 2) (nI_add i 2) (by omega) ?_
  refine ww_callV (As := [.int (xv (i + 1)), .int (xv (i + 2))]) (rest := []) C.1.1 h fX9_guest (And.intro nL nL) mlRL_36 dL_law_282 (tc0 TTm) (by decide) rfl rfl rfl rfl nL (lk_room C) (Or.inl rfl) ?_
  rintro v w' ⟨r, M1, rfl, rfl, h1⟩
  show WW X Q 285 _ [.int r] (M1, gj gm, TTc ++ TTm)
  refine ww_aload_n C.1.1 dL_law_285 2 rfl rfl ?_
  refine ww_aloadX_n C.1.1 dL_law_286 0 rfl rfl ?_
  refine ww_iload_n C.1.1 dL_law_287 3 rfl rfl ?_
  refine ww_iconst C.1.1 (v := (1 : Int32)) dL_law_288 (by decide) ?_
  refine ww_iadd C.1.1 dL_law_289 ?_
  refine ww_sld C dL_law_290 (j := i + 1) (nI_add i 1) (by omega) ?_
  refine ww_aloadX_n C.1.1 dL_law_291 0 rfl rfl ?_
  refine ww_iload_n C.1.1 dL_law_292 3 rfl rfl ?_
  refine ww_iconst C.1.1 (v := (2 : Int32)) dL_law_293 (by decide) ?_
  refine ww_iadd C.1.1 dL_law_294 ?_
  refine ww_sld C dL_law_295 (j := i + 2) (nI_add i 2) (by omega) ?_
  refine ww_callV (As := [.int (xv (i + 1)), .int (xv (i + 2))]) (rest := [.int r]) C.1.1 h1 fX10_guest (And.intro nL nL) mlRL_39 dL_law_296 tm57 (by decide) rfl rfl rfl rfl nL (lk_room C) (Or.inl rfl) ?_
  rintro v w' ⟨r2, M2, rfl, rfl, rfl, hI⟩
  exact ww_icmp_eq C.1.1 (tgt := 962) dL_law_299 (by decide) (fun _ => kk _ hI) (fun z => absurd rfl z)
set_option maxHeartbeats 4000000 in
theorem lw_c6 {X : CX} {Q : State → Prop} {nm : String} {Ln i : Nat} {xv : Nat → Int32} {M : Mem} (C : LK X nm Ln xv) (hi : i + 4 ≤ Ln) (h : StepOK mX9_harm mX10_harm [.int (xv (i + 1)), .int (xv (i + 2)), .int (xv (i + 3))] M) (kk : ∀ M2, Inv M2 → WW X Q 962 [(0, .retAddr 0), (1, .ref 0), (2, .ref 57), (3, .int (nI i))] [] (M2, gj gm, TTc ++ TTm)) : WW X Q 304 [(0, .retAddr 0), (1, .ref 0), (2, .ref 57), (3, .int (nI i))] [] (M, gj gm, TTc ++ TTm) := by
  refine ww_aload_n C.1.1 dL_law_304 1 rfl rfl ?_
  refine ww_aloadX_n C.1.1 dL_law_305 0 rfl rfl ?_
  refine ww_iload_n C.1.1 dL_law_306 3 rfl rfl ?_
  refine ww_iconst C.1.1 (v := (1 : Int32)) dL_law_307 (by decide) ?_
  refine ww_iadd C.1.1 dL_law_308 ?_
  refine ww_sld C dL_law_309 (j := i + 1) (nI_add i 1) (by omega) ?_
  refine ww_aloadX_n C.1.1 dL_law_310 0 rfl rfl ?_
  refine ww_iload_n C.1.1 dL_law_311 3 rfl rfl ?_
  refine ww_iconst C.1.1 (v := (2 : Int32)) dL_law_312 (by decide) ?_
  refine ww_iadd C.1.1 dL_law_313 ?_
  refine ww_sld C dL_law_314 (j := i + 2) (nI_add i 2) (by omega) ?_
  refine ww_aloadX_n C.1.1 dL_law_315 0 rfl rfl ?_
  refine ww_iload_n C.1.1 dL_law_316 3 rfl rfl ?_
  refine ww_iconst C.1.1 (v := (3 : Int32)) dL_law_317 (by decide) ?_
  refine ww_iadd C.1.1 dL_law_318 ?_
  refine ww_sld C dL_law_319 (j := i + 3) (nI_add i 3) (by omega) ?_
  refine ww_callV (As := [.int (xv (i + 1)), .int (xv (i + 2)), .int (xv (i + 3))]) (rest := []) C.1.1 h fX9_harm (And.intro nL nL) mlRL_40 dL_law_320 (tc0 TTm) (by decide) rfl rfl rfl rfl nL (lk_room C) (Or.inl rfl) ?_
  rintro v w' ⟨r, M1, rfl, rfl, h1⟩
  show WW X Q 323 _ [.int r] (M1, gj gm, TTc ++ TTm)
  refine ww_aload_n C.1.1 dL_law_323 2 rfl rfl ?_
  refine ww_aloadX_n C.1.1 dL_law_324 0 rfl rfl ?_
  refine ww_iload_n C.1.1 dL_law_325 3 rfl rfl ?_
  refine ww_iconst C.1.1 (v := (1 : Int32)) dL_law_326 (by decide) ?_
  refine ww_iadd C.1.1 dL_law_327 ?_
  refine ww_sld C dL_law_328 (j := i + 1) (nI_add i 1) (by omega) ?_
  refine ww_aloadX_n C.1.1 dL_law_329 0 rfl rfl ?_
  refine ww_iload_n C.1.1 dL_law_330 3 rfl rfl ?_
  refine ww_iconst C.1.1 (v := (2 : Int32)) dL_law_331 (by decide) ?_
  refine ww_iadd C.1.1 dL_law_332 ?_
  refine ww_sld C dL_law_333 (j := i + 2) (nI_add i 2) (by omega) ?_
  refine ww_aloadX_n C.1.1 dL_law_334 0 rfl rfl ?_
  refine ww_iload_n C.1.1 dL_law_335 3 rfl rfl ?_
  refine ww_iconst C.1.1 (v := (3 : Int32)) dL_law_336 (by decide) ?_
  refine ww_iadd C.1.1 dL_law_337 ?_
  refine ww_sld C dL_law_338 (j := i + 3) (nI_add i 3) (by omega) ?_
  refine ww_callV (As := [.int (xv (i + 1)), .int (xv (i + 2)), .int (xv (i + 3))]) (rest := [.int r]) C.1.1 h1 fX10_harm (And.intro nL nL) mlRL_44 dL_law_339 tm57 (by decide) rfl rfl rfl rfl nL (lk_room C) (Or.inl rfl) ?_
  rintro v w' ⟨r2, M2, rfl, rfl, rfl, hI⟩
  exact ww_icmp_eq C.1.1 (tgt := 962) dL_law_342 (by decide) (fun _ => kk _ hI) (fun z => absurd rfl z)
set_option maxHeartbeats 4000000 in
theorem lw_c7 {X : CX} {Q : State → Prop} {nm : String} {Ln i : Nat} {xv : Nat → Int32} {M : Mem} (C : LK X nm Ln xv) (hi : i + 4 ≤ Ln) (h : StepOK mX9_lies mX10_lies [.int (xv (i + 1)), .int (xv (i + 2))] M) (kk : ∀ M2, Inv M2 → WW X Q 962 [(0, .retAddr 0), (1, .ref 0), (2, .ref 57), (3, .int (nI i))] [] (M2, gj gm, TTc ++ TTm)) : WW X Q 347 [(0, .retAddr 0), (1, .ref 0), (2, .ref 57), (3, .int (nI i))] [] (M, gj gm, TTc ++ TTm) := by
  refine ww_aload_n C.1.1 dL_law_347 1 rfl rfl ?_
  refine ww_aloadX_n C.1.1 dL_law_348 0 rfl rfl ?_
  refine ww_iload_n C.1.1 dL_law_349 3 rfl rfl ?_
  refine ww_iconst C.1.1 (v := (1 : Int32)) dL_law_350 (by decide) ?_
  refine ww_iadd C.1.1 dL_law_351 ?_
  refine ww_sld C dL_law_352 (j := i + 1) (nI_add i 1) (by omega) ?_
  refine ww_aloadX_n C.1.1 dL_law_353 0 rfl rfl ?_
  refine ww_iload_n C.1.1 dL_law_354 3 rfl rfl ?_
  refine ww_iconst C.1.1 (v := (2 : Int32)) dL_law_355 (by decide) ?_
  refine ww_iadd C.1.1 dL_law_356 ?_
  refine ww_sld C dL_law_357 (j := i + 2) (nI_add i 2) (by omega) ?_
  refine ww_callV (As := [.int (xv (i + 1)), .int (xv (i + 2))]) (rest := []) C.1.1 h fX9_lies (And.intro nL nL) mlRL_45 dL_law_358 (tc0 TTm) (by decide) rfl rfl rfl rfl nL (lk_room C) (Or.inl rfl) ?_
  rintro v w' ⟨r, M1, rfl, rfl, h1⟩
  show WW X Q 361 _ [.int r] (M1, gj gm, TTc ++ TTm)
  refine ww_aload_n C.1.1 dL_law_361 2 rfl rfl ?_
  refine ww_aloadX_n C.1.1 dL_law_362 0 rfl rfl ?_
  refine ww_iload_n C.1.1 dL_law_363 3 rfl rfl ?_
  refine ww_iconst C.1.1 (v := (1 : Int32)) dL_law_364 (by decide) ?_
  refine ww_iadd C.1.1 dL_law_365 ?_
  refine ww_sld C dL_law_366 (j := i + 1) (nI_add i 1) (by omega) ?_
  refine ww_aloadX_n C.1.1 dL_law_367 0 rfl rfl ?_
  refine ww_iload_n C.1.1 dL_law_368 3 rfl rfl ?_
  refine ww_iconst C.1.1 (v := (2 : Int32)) dL_law_369 (by decide) ?_
  refine ww_iadd C.1.1 dL_law_370 ?_
  refine ww_sld C dL_law_371 (j := i + 2) (nI_add i 2) (by omega) ?_
  refine ww_callV (As := [.int (xv (i + 1)), .int (xv (i + 2))]) (rest := [.int r]) C.1.1 h1 fX10_lies (And.intro nL nL) mlRL_48 dL_law_372 tm57 (by decide) rfl rfl rfl rfl nL (lk_room C) (Or.inl rfl) ?_
  rintro v w' ⟨r2, M2, rfl, rfl, rfl, hI⟩
  exact ww_icmp_eq C.1.1 (tgt := 962) dL_law_375 (by decide) (fun _ => kk _ hI) (fun z => absurd rfl z)
set_option maxHeartbeats 4000000 in
theorem lw_c8 {X : CX} {Q : State → Prop} {nm : String} {Ln i : Nat} {xv : Nat → Int32} {M : Mem} (C : LK X nm Ln xv) (hi : i + 4 ≤ Ln) (h : StepOK mX9_who mX10_who [.int (xv (i + 1)), .int (xv (i + 2))] M) (kk : ∀ M2, Inv M2 → WW X Q 962 [(0, .retAddr 0), (1, .ref 0), (2, .ref 57), (3, .int (nI i))] [] (M2, gj gm, TTc ++ TTm)) : WW X Q 380 [(0, .retAddr 0), (1, .ref 0), (2, .ref 57), (3, .int (nI i))] [] (M, gj gm, TTc ++ TTm) := by
  refine ww_aload_n C.1.1 dL_law_380 1 rfl rfl ?_
  refine ww_aloadX_n C.1.1 dL_law_381 0 rfl rfl ?_
  refine ww_iload_n C.1.1 dL_law_382 3 rfl rfl ?_
  refine ww_iconst C.1.1 (v := (1 : Int32)) dL_law_383 (by decide) ?_
  refine ww_iadd C.1.1 dL_law_384 ?_
  refine ww_sld C dL_law_385 (j := i + 1) (nI_add i 1) (by omega) ?_
  refine ww_aloadX_n C.1.1 dL_law_386 0 rfl rfl ?_
  refine ww_iload_n C.1.1 dL_law_387 3 rfl rfl ?_
  refine ww_iconst C.1.1 (v := (2 : Int32)) dL_law_388 (by decide) ?_
  refine ww_iadd C.1.1 dL_law_389 ?_
  refine ww_sld C dL_law_390 (j := i + 2) (nI_add i 2) (by omega) ?_
  refine ww_callV (As := [.int (xv (i + 1)), .int (xv (i + 2))]) (rest := []) C.1.1 h fX9_who (And.intro nL nL) mlRL_49 dL_law_391 (tc0 TTm) (by decide) rfl rfl rfl rfl nL (lk_room C) (Or.inl rfl) ?_
  rintro v w' ⟨r, M1, rfl, rfl, h1⟩
  show WW X Q 394 _ [.int r] (M1, gj gm, TTc ++ TTm)
  refine ww_aload_n C.1.1 dL_law_394 2 rfl rfl ?_
  refine ww_aloadX_n C.1.1 dL_law_395 0 rfl rfl ?_
  refine ww_iload_n C.1.1 dL_law_396 3 rfl rfl ?_
  refine ww_iconst C.1.1 (v := (1 : Int32)) dL_law_397 (by decide) ?_
  refine ww_iadd C.1.1 dL_law_398 ?_
  refine ww_sld C dL_law_399 (j := i + 1) (nI_add i 1) (by omega) ?_
  refine ww_aloadX_n C.1.1 dL_law_400 0 rfl rfl ?_
  refine ww_iload_n C.1.1 dL_law_401 3 rfl rfl ?_
  refine ww_iconst C.1.1 (v := (2 : Int32)) dL_law_402 (by decide) ?_
  refine ww_iadd C.1.1 dL_law_403 ?_
  refine ww_sld C dL_law_404 (j := i + 2) (nI_add i 2) (by omega) ?_
  refine ww_callV (As := [.int (xv (i + 1)), .int (xv (i + 2))]) (rest := [.int r]) C.1.1 h1 fX10_who (And.intro nL nL) mlRL_52 dL_law_405 tm57 (by decide) rfl rfl rfl rfl nL (lk_room C) (Or.inl rfl) ?_
  rintro v w' ⟨r2, M2, rfl, rfl, rfl, hI⟩
  exact ww_icmp_eq C.1.1 (tgt := 962) dL_law_408 (by decide) (fun _ => kk _ hI) (fun z => absurd rfl z)
set_option maxHeartbeats 4000000 in
theorem lw_c9 {X : CX} {Q : State → Prop} {nm : String} {Ln i : Nat} {xv : Nat → Int32} {M : Mem} (C : LK X nm Ln xv) (hi : i + 4 ≤ Ln) (h : StepOK mX9_all mX10_all [.int (xv (i + 1))] M) (kk : ∀ M2, Inv M2 → WW X Q 962 [(0, .retAddr 0), (1, .ref 0), (2, .ref 57), (3, .int (nI i))] [] (M2, gj gm, TTc ++ TTm)) : WW X Q 413 [(0, .retAddr 0), (1, .ref 0), (2, .ref 57), (3, .int (nI i))] [] (M, gj gm, TTc ++ TTm) := by
  refine ww_aload_n C.1.1 dL_law_413 1 rfl rfl ?_
  refine ww_aloadX_n C.1.1 dL_law_414 0 rfl rfl ?_
  refine ww_iload_n C.1.1 dL_law_415 3 rfl rfl ?_
  refine ww_iconst C.1.1 (v := (1 : Int32)) dL_law_416 (by decide) ?_
  refine ww_iadd C.1.1 dL_law_417 ?_
  refine ww_sld C dL_law_418 (j := i + 1) (nI_add i 1) (by omega) ?_
  refine ww_callV (As := [.int (xv (i + 1))]) (rest := []) C.1.1 h fX9_all (And.intro nL nL) mlRL_53 dL_law_419 (tc0 TTm) (by decide) rfl rfl rfl rfl nL (lk_room C) (Or.inl rfl) ?_
  rintro v w' ⟨r, M1, rfl, rfl, h1⟩
  show WW X Q 422 _ [.int r] (M1, gj gm, TTc ++ TTm)
  refine ww_aload_n C.1.1 dL_law_422 2 rfl rfl ?_
  refine ww_aloadX_n C.1.1 dL_law_423 0 rfl rfl ?_
  refine ww_iload_n C.1.1 dL_law_424 3 rfl rfl ?_
  refine ww_iconst C.1.1 (v := (1 : Int32)) dL_law_425 (by decide) ?_
  refine ww_iadd C.1.1 dL_law_426 ?_
  refine ww_sld C dL_law_427 (j := i + 1) (nI_add i 1) (by omega) ?_
  refine ww_callV (As := [.int (xv (i + 1))]) (rest := [.int r]) C.1.1 h1 fX10_all (And.intro nL nL) mlRL_56 dL_law_428 tm57 (by decide) rfl rfl rfl rfl nL (lk_room C) (Or.inl rfl) ?_
  rintro v w' ⟨r2, M2, rfl, rfl, rfl, hI⟩
  exact ww_icmp_eq C.1.1 (tgt := 962) dL_law_431 (by decide) (fun _ => kk _ hI) (fun z => absurd rfl z)
set_option maxHeartbeats 4000000 in
theorem lw_c10 {X : CX} {Q : State → Prop} {nm : String} {Ln i : Nat} {xv : Nat → Int32} {M : Mem} (C : LK X nm Ln xv) (hi : i + 4 ≤ Ln) (h : StepOK mX9_move mX10_move [.int (xv (i + 1)), .int (xv (i + 2))] M) (kk : ∀ M2, Inv M2 → WW X Q 962 [(0, .retAddr 0), (1, .ref 0), (2, .ref 57), (3, .int (nI i))] [] (M2, gj gm, TTc ++ TTm)) : WW X Q 436 [(0, .retAddr 0), (1, .ref 0), (2, .ref 57), (3, .int (nI i))] [] (M, gj gm, TTc ++ TTm) := by
  refine ww_aload_n C.1.1 dL_law_436 1 rfl rfl ?_
  refine ww_aloadX_n C.1.1 dL_law_437 0 rfl rfl ?_
  refine ww_iload_n C.1.1 dL_law_438 3 rfl rfl ?_
  refine ww_iconst C.1.1 (v := (1 : Int32)) dL_law_439 (by decide) ?_
  refine ww_iadd C.1.1 dL_law_440 ?_
  refine ww_sld C dL_law_441 (j := i + 1) (nI_add i 1) (by omega) ?_
  refine ww_aloadX_n C.1.1 dL_law_442 0 rfl rfl ?_
  refine ww_iload_n C.1.1 dL_law_443 3 rfl rfl ?_
  refine ww_iconst C.1.1 (v := (2 : Int32)) dL_law_444 (by decide) ?_
  refine ww_iadd C.1.1 dL_law_445 ?_
  refine ww_sld C dL_law_446 (j := i + 2) (nI_add i 2) (by omega) ?_
  refine ww_callV (As := [.int (xv (i + 1)), .int (xv (i + 2))]) (rest := []) C.1.1 h fX9_move (And.intro nL nL) mlRL_57 dL_law_447 (tc0 TTm) (by decide) rfl rfl rfl rfl nL (lk_room C) (Or.inl rfl) ?_
  rintro v w' ⟨r, M1, rfl, rfl, h1⟩
  show WW X Q 450 _ [.int r] (M1, gj gm, TTc ++ TTm)
  refine ww_aload_n C.1.1 dL_law_450 2 rfl rfl ?_
  refine ww_aloadX_n C.1.1 dL_law_451 0 rfl rfl ?_
  refine ww_iload_n C.1.1 dL_law_452 3 rfl rfl ?_
  refine ww_iconst C.1.1 (v := (1 : Int32)) dL_law_453 (by decide) ?_
  refine ww_iadd C.1.1 dL_law_454 ?_
  refine ww_sld C dL_law_455 (j := i + 1) (nI_add i 1) (by omega) ?_
  refine ww_aloadX_n C.1.1 dL_law_456 0 rfl rfl ?_
  refine ww_iload_n C.1.1 dL_law_457 3 rfl rfl ?_
  refine ww_iconst C.1.1 (v := (2 : Int32)) dL_law_458 (by decide) ?_
  refine ww_iadd C.1.1 dL_law_459 ?_
  refine ww_sld C dL_law_460 (j := i + 2) (nI_add i 2) (by omega) ?_
  refine ww_callV (As := [.int (xv (i + 1)), .int (xv (i + 2))]) (rest := [.int r]) C.1.1 h1 fX10_move (And.intro nL nL) mlRL_60 dL_law_461 tm57 (by decide) rfl rfl rfl rfl nL (lk_room C) (Or.inl rfl) ?_
  rintro v w' ⟨r2, M2, rfl, rfl, rfl, hI⟩
  exact ww_icmp_eq C.1.1 (tgt := 962) dL_law_464 (by decide) (fun _ => kk _ hI) (fun z => absurd rfl z)
set_option maxHeartbeats 4000000 in
theorem lw_c11 {X : CX} {Q : State → Prop} {nm : String} {Ln i : Nat} {xv : Nat → Int32} {M : Mem} (C : LK X nm Ln xv) (hi : i + 4 ≤ Ln) (h : StepOK mX9_wear mX10_wear [.int (xv (i + 1)), .int (xv (i + 2))] M) (kk : ∀ M2, Inv M2 → WW X Q 962 [(0, .retAddr 0), (1, .ref 0), (2, .ref 57), (3, .int (nI i))] [] (M2, gj gm, TTc ++ TTm)) : WW X Q 469 [(0, .retAddr 0), (1, .ref 0), (2, .ref 57), (3, .int (nI i))] [] (M, gj gm, TTc ++ TTm) := by
  refine ww_aload_n C.1.1 dL_law_469 1 rfl rfl ?_
  refine ww_aloadX_n C.1.1 dL_law_470 0 rfl rfl ?_
  refine ww_iload_n C.1.1 dL_law_471 3 rfl rfl ?_
  refine ww_iconst C.1.1 (v := (1 : Int32)) dL_law_472 (by decide) ?_
  refine ww_iadd C.1.1 dL_law_473 ?_
  refine ww_sld C dL_law_474 (j := i + 1) (nI_add i 1) (by omega) ?_
  refine ww_aloadX_n C.1.1 dL_law_475 0 rfl rfl ?_
  refine ww_iload_n C.1.1 dL_law_476 3 rfl rfl ?_
  refine ww_iconst C.1.1 (v := (2 : Int32)) dL_law_477 (by decide) ?_
  refine ww_iadd C.1.1 dL_law_478 ?_
  refine ww_sld C dL_law_479 (j := i + 2) (nI_add i 2) (by omega) ?_
  refine ww_callV (As := [.int (xv (i + 1)), .int (xv (i + 2))]) (rest := []) C.1.1 h fX9_wear (And.intro nL nL) mlRL_61 dL_law_480 (tc0 TTm) (by decide) rfl rfl rfl rfl nL (lk_room C) (Or.inl rfl) ?_
  rintro v w' ⟨r, M1, rfl, rfl, h1⟩
  show WW X Q 483 _ [.int r] (M1, gj gm, TTc ++ TTm)
  refine ww_aload_n C.1.1 dL_law_483 2 rfl rfl ?_
  refine ww_aloadX_n C.1.1 dL_law_484 0 rfl rfl ?_
  refine ww_iload_n C.1.1 dL_law_485 3 rfl rfl ?_
  refine ww_iconst C.1.1 (v := (1 : Int32)) dL_law_486 (by decide) ?_
  refine ww_iadd C.1.1 dL_law_487 ?_
  refine ww_sld C dL_law_488 (j := i + 1) (nI_add i 1) (by omega) ?_
  refine ww_aloadX_n C.1.1 dL_law_489 0 rfl rfl ?_
  refine ww_iload_n C.1.1 dL_law_490 3 rfl rfl ?_
  refine ww_iconst C.1.1 (v := (2 : Int32)) dL_law_491 (by decide) ?_
  refine ww_iadd C.1.1 dL_law_492 ?_
  refine ww_sld C dL_law_493 (j := i + 2) (nI_add i 2) (by omega) ?_
  refine ww_callV (As := [.int (xv (i + 1)), .int (xv (i + 2))]) (rest := [.int r]) C.1.1 h1 fX10_wear (And.intro nL nL) mlRL_64 dL_law_494 tm57 (by decide) rfl rfl rfl rfl nL (lk_room C) (Or.inl rfl) ?_
  rintro v w' ⟨r2, M2, rfl, rfl, rfl, hI⟩
  exact ww_icmp_eq C.1.1 (tgt := 962) dL_law_497 (by decide) (fun _ => kk _ hI) (fun z => absurd rfl z)
set_option maxHeartbeats 4000000 in
theorem lw_c12 {X : CX} {Q : State → Prop} {nm : String} {Ln i : Nat} {xv : Nat → Int32} {M : Mem} (C : LK X nm Ln xv) (hi : i + 4 ≤ Ln) (h : StepOK mX9_come mX10_come [.int (xv (i + 1)), .int (xv (i + 2))] M) (kk : ∀ M2, Inv M2 → WW X Q 962 [(0, .retAddr 0), (1, .ref 0), (2, .ref 57), (3, .int (nI i))] [] (M2, gj gm, TTc ++ TTm)) : WW X Q 502 [(0, .retAddr 0), (1, .ref 0), (2, .ref 57), (3, .int (nI i))] [] (M, gj gm, TTc ++ TTm) := by
  refine ww_aload_n C.1.1 dL_law_502 1 rfl rfl ?_
  refine ww_aloadX_n C.1.1 dL_law_503 0 rfl rfl ?_
  refine ww_iload_n C.1.1 dL_law_504 3 rfl rfl ?_
  refine ww_iconst C.1.1 (v := (1 : Int32)) dL_law_505 (by decide) ?_
  refine ww_iadd C.1.1 dL_law_506 ?_
  refine ww_sld C dL_law_507 (j := i + 1) (nI_add i 1) (by omega) ?_
  refine ww_aloadX_n C.1.1 dL_law_508 0 rfl rfl ?_
  refine ww_iload_n C.1.1 dL_law_509 3 rfl rfl ?_
  refine ww_iconst C.1.1 (v := (2 : Int32)) dL_law_510 (by decide) ?_
  refine ww_iadd C.1.1 dL_law_511 ?_
  refine ww_sld C dL_law_512 (j := i + 2) (nI_add i 2) (by omega) ?_
  refine ww_callV (As := [.int (xv (i + 1)), .int (xv (i + 2))]) (rest := []) C.1.1 h fX9_come (And.intro nL nL) mlRL_65 dL_law_513 (tc0 TTm) (by decide) rfl rfl rfl rfl nL (lk_room C) (Or.inl rfl) ?_
  rintro v w' ⟨r, M1, rfl, rfl, h1⟩
  show WW X Q 516 _ [.int r] (M1, gj gm, TTc ++ TTm)
  refine ww_aload_n C.1.1 dL_law_516 2 rfl rfl ?_
  refine ww_aloadX_n C.1.1 dL_law_517 0 rfl rfl ?_
  refine ww_iload_n C.1.1 dL_law_518 3 rfl rfl ?_
  refine ww_iconst C.1.1 (v := (1 : Int32)) dL_law_519 (by decide) ?_
  refine ww_iadd C.1.1 dL_law_520 ?_
  refine ww_sld C dL_law_521 (j := i + 1) (nI_add i 1) (by omega) ?_
  refine ww_aloadX_n C.1.1 dL_law_522 0 rfl rfl ?_
  refine ww_iload_n C.1.1 dL_law_523 3 rfl rfl ?_
  refine ww_iconst C.1.1 (v := (2 : Int32)) dL_law_524 (by decide) ?_
  refine ww_iadd C.1.1 dL_law_525 ?_
  refine ww_sld C dL_law_526 (j := i + 2) (nI_add i 2) (by omega) ?_
  refine ww_callV (As := [.int (xv (i + 1)), .int (xv (i + 2))]) (rest := [.int r]) C.1.1 h1 fX10_come (And.intro nL nL) mlRL_68 dL_law_527 tm57 (by decide) rfl rfl rfl rfl nL (lk_room C) (Or.inl rfl) ?_
  rintro v w' ⟨r2, M2, rfl, rfl, rfl, hI⟩
  exact ww_icmp_eq C.1.1 (tgt := 962) dL_law_530 (by decide) (fun _ => kk _ hI) (fun z => absurd rfl z)
set_option maxHeartbeats 4000000 in
theorem lw_c13 {X : CX} {Q : State → Prop} {nm : String} {Ln i : Nat} {xv : Nat → Int32} {M : Mem} (C : LK X nm Ln xv) (hi : i + 4 ≤ Ln) (h : StepOK mX9_undo mX10_undo [] M) (kk : ∀ M2, Inv M2 → WW X Q 962 [(0, .retAddr 0), (1, .ref 0), (2, .ref 57), (3, .int (nI i))] [] (M2, gj gm, TTc ++ TTm)) : WW X Q 535 [(0, .retAddr 0), (1, .ref 0), (2, .ref 57), (3, .int (nI i))] [] (M, gj gm, TTc ++ TTm) := by
  refine ww_aload_n C.1.1 dL_law_535 1 rfl rfl ?_
  refine ww_callV (As := []) (rest := []) C.1.1 h fX9_undo (And.intro nL nL) mlRL_69 dL_law_536 (tc0 TTm) (by decide) rfl rfl rfl rfl nL (lk_room C) (Or.inl rfl) ?_
  rintro v w' ⟨r, M1, rfl, rfl, h1⟩
  show WW X Q 539 _ [.int r] (M1, gj gm, TTc ++ TTm)
  refine ww_aload_n C.1.1 dL_law_539 2 rfl rfl ?_
  refine ww_callV (As := []) (rest := [.int r]) C.1.1 h1 fX10_undo (And.intro nL nL) mlRL_72 dL_law_540 tm57 (by decide) rfl rfl rfl rfl nL (lk_room C) (Or.inl rfl) ?_
  rintro v w' ⟨r2, M2, rfl, rfl, rfl, hI⟩
  exact ww_icmp_eq C.1.1 (tgt := 962) dL_law_543 (by decide) (fun _ => kk _ hI) (fun z => absurd rfl z)
set_option maxHeartbeats 4000000 in
theorem lw_c14 {X : CX} {Q : State → Prop} {nm : String} {Ln i : Nat} {xv : Nat → Int32} {M : Mem} (C : LK X nm Ln xv) (hi : i + 4 ≤ Ln) (h : StepOK mX9_order mX10_order [.int (xv (i + 1))] M) (kk : ∀ M2, Inv M2 → WW X Q 962 [(0, .retAddr 0), (1, .ref 0), (2, .ref 57), (3, .int (nI i))] [] (M2, gj gm, TTc ++ TTm)) : WW X Q 548 [(0, .retAddr 0), (1, .ref 0), (2, .ref 57), (3, .int (nI i))] [] (M, gj gm, TTc ++ TTm) := by
  refine ww_aload_n C.1.1 dL_law_548 1 rfl rfl ?_
  refine ww_aloadX_n C.1.1 dL_law_549 0 rfl rfl ?_
  refine ww_iload_n C.1.1 dL_law_550 3 rfl rfl ?_
  refine ww_iconst C.1.1 (v := (1 : Int32)) dL_law_551 (by decide) ?_
  refine ww_iadd C.1.1 dL_law_552 ?_
  refine ww_sld C dL_law_553 (j := i + 1) (nI_add i 1) (by omega) ?_
  refine ww_callV (As := [.int (xv (i + 1))]) (rest := []) C.1.1 h fX9_order (And.intro nL nL) mlRL_73 dL_law_554 (tc0 TTm) (by decide) rfl rfl rfl rfl nL (lk_room C) (Or.inl rfl) ?_
  rintro v w' ⟨r, M1, rfl, rfl, h1⟩
  show WW X Q 557 _ [.int r] (M1, gj gm, TTc ++ TTm)
  refine ww_aload_n C.1.1 dL_law_557 2 rfl rfl ?_
  refine ww_aloadX_n C.1.1 dL_law_558 0 rfl rfl ?_
  refine ww_iload_n C.1.1 dL_law_559 3 rfl rfl ?_
  refine ww_iconst C.1.1 (v := (1 : Int32)) dL_law_560 (by decide) ?_
  refine ww_iadd C.1.1 dL_law_561 ?_
  refine ww_sld C dL_law_562 (j := i + 1) (nI_add i 1) (by omega) ?_
  refine ww_callV (As := [.int (xv (i + 1))]) (rest := [.int r]) C.1.1 h1 fX10_order (And.intro nL nL) mlRL_76 dL_law_563 tm57 (by decide) rfl rfl rfl rfl nL (lk_room C) (Or.inl rfl) ?_
  rintro v w' ⟨r2, M2, rfl, rfl, rfl, hI⟩
  exact ww_icmp_eq C.1.1 (tgt := 962) dL_law_566 (by decide) (fun _ => kk _ hI) (fun z => absurd rfl z)
set_option maxHeartbeats 4000000 in
theorem lw_c15 {X : CX} {Q : State → Prop} {nm : String} {Ln i : Nat} {xv : Nat → Int32} {M : Mem} (C : LK X nm Ln xv) (hi : i + 4 ≤ Ln) (h : StepOK mX9_cushion mX10_cushion [.int (xv (i + 1))] M) (kk : ∀ M2, Inv M2 → WW X Q 962 [(0, .retAddr 0), (1, .ref 0), (2, .ref 57), (3, .int (nI i))] [] (M2, gj gm, TTc ++ TTm)) : WW X Q 571 [(0, .retAddr 0), (1, .ref 0), (2, .ref 57), (3, .int (nI i))] [] (M, gj gm, TTc ++ TTm) := by
  refine ww_aload_n C.1.1 dL_law_571 1 rfl rfl ?_
  refine ww_aloadX_n C.1.1 dL_law_572 0 rfl rfl ?_
  refine ww_iload_n C.1.1 dL_law_573 3 rfl rfl ?_
  refine ww_iconst C.1.1 (v := (1 : Int32)) dL_law_574 (by decide) ?_
  refine ww_iadd C.1.1 dL_law_575 ?_
  refine ww_sld C dL_law_576 (j := i + 1) (nI_add i 1) (by omega) ?_
  refine ww_callV (As := [.int (xv (i + 1))]) (rest := []) C.1.1 h fX9_cushion (And.intro nL nL) mlRL_77 dL_law_577 (tc0 TTm) (by decide) rfl rfl rfl rfl nL (lk_room C) (Or.inl rfl) ?_
  rintro v w' ⟨r, M1, rfl, rfl, h1⟩
  show WW X Q 580 _ [.int r] (M1, gj gm, TTc ++ TTm)
  refine ww_aload_n C.1.1 dL_law_580 2 rfl rfl ?_
  refine ww_aloadX_n C.1.1 dL_law_581 0 rfl rfl ?_
  refine ww_iload_n C.1.1 dL_law_582 3 rfl rfl ?_
  refine ww_iconst C.1.1 (v := (1 : Int32)) dL_law_583 (by decide) ?_
  refine ww_iadd C.1.1 dL_law_584 ?_
  refine ww_sld C dL_law_585 (j := i + 1) (nI_add i 1) (by omega) ?_
  refine ww_callV (As := [.int (xv (i + 1))]) (rest := [.int r]) C.1.1 h1 fX10_cushion (And.intro nL nL) mlRL_80 dL_law_586 tm57 (by decide) rfl rfl rfl rfl nL (lk_room C) (Or.inl rfl) ?_
  rintro v w' ⟨r2, M2, rfl, rfl, rfl, hI⟩
  exact ww_icmp_eq C.1.1 (tgt := 962) dL_law_589 (by decide) (fun _ => kk _ hI) (fun z => absurd rfl z)
set_option maxHeartbeats 4000000 in
theorem lw_c16 {X : CX} {Q : State → Prop} {nm : String} {Ln i : Nat} {xv : Nat → Int32} {M : Mem} (C : LK X nm Ln xv) (hi : i + 4 ≤ Ln) (h : StepOK mX9_length mX10_length [.int (xv (i + 1)), .int (xv (i + 2))] M) (kk : ∀ M2, Inv M2 → WW X Q 962 [(0, .retAddr 0), (1, .ref 0), (2, .ref 57), (3, .int (nI i))] [] (M2, gj gm, TTc ++ TTm)) : WW X Q 594 [(0, .retAddr 0), (1, .ref 0), (2, .ref 57), (3, .int (nI i))] [] (M, gj gm, TTc ++ TTm) := by
  refine ww_aload_n C.1.1 dL_law_594 1 rfl rfl ?_
  refine ww_aloadX_n C.1.1 dL_law_595 0 rfl rfl ?_
  refine ww_iload_n C.1.1 dL_law_596 3 rfl rfl ?_
  refine ww_iconst C.1.1 (v := (1 : Int32)) dL_law_597 (by decide) ?_
  refine ww_iadd C.1.1 dL_law_598 ?_
  refine ww_sld C dL_law_599 (j := i + 1) (nI_add i 1) (by omega) ?_
  refine ww_aloadX_n C.1.1 dL_law_600 0 rfl rfl ?_
  refine ww_iload_n C.1.1 dL_law_601 3 rfl rfl ?_
  refine ww_iconst C.1.1 (v := (2 : Int32)) dL_law_602 (by decide) ?_
  refine ww_iadd C.1.1 dL_law_603 ?_
  refine ww_sld C dL_law_604 (j := i + 2) (nI_add i 2) (by omega) ?_
  refine ww_callV (As := [.int (xv (i + 1)), .int (xv (i + 2))]) (rest := []) C.1.1 h fX9_length (And.intro nL nL) mlRL_81 dL_law_605 (tc0 TTm) (by decide) rfl rfl rfl rfl nL (lk_room C) (Or.inl rfl) ?_
  rintro v w' ⟨r, M1, rfl, rfl, h1⟩
  show WW X Q 608 _ [.int r] (M1, gj gm, TTc ++ TTm)
  refine ww_aload_n C.1.1 dL_law_608 2 rfl rfl ?_
  refine ww_aloadX_n C.1.1 dL_law_609 0 rfl rfl ?_
  refine ww_iload_n C.1.1 dL_law_610 3 rfl rfl ?_
  refine ww_iconst C.1.1 (v := (1 : Int32)) dL_law_611 (by decide) ?_
  refine ww_iadd C.1.1 dL_law_612 ?_
  refine ww_sld C dL_law_613 (j := i + 1) (nI_add i 1) (by omega) ?_
  refine ww_aloadX_n C.1.1 dL_law_614 0 rfl rfl ?_
  refine ww_iload_n C.1.1 dL_law_615 3 rfl rfl ?_
  refine ww_iconst C.1.1 (v := (2 : Int32)) dL_law_616 (by decide) ?_
  refine ww_iadd C.1.1 dL_law_617 ?_
  refine ww_sld C dL_law_618 (j := i + 2) (nI_add i 2) (by omega) ?_
  refine ww_callV (As := [.int (xv (i + 1)), .int (xv (i + 2))]) (rest := [.int r]) C.1.1 h1 fX10_length (And.intro nL nL) mlRL_84 dL_law_619 tm57 (by decide) rfl rfl rfl rfl nL (lk_room C) (Or.inl rfl) ?_
  rintro v w' ⟨r2, M2, rfl, rfl, rfl, hI⟩
  exact ww_icmp_eq C.1.1 (tgt := 962) dL_law_622 (by decide) (fun _ => kk _ hI) (fun z => absurd rfl z)
set_option maxHeartbeats 4000000 in
theorem lw_c17 {X : CX} {Q : State → Prop} {nm : String} {Ln i : Nat} {xv : Nat → Int32} {M : Mem} (C : LK X nm Ln xv) (hi : i + 4 ≤ Ln) (h : StepOK mX9_law mX10_law [] M) (kk : ∀ M2, Inv M2 → WW X Q 962 [(0, .retAddr 0), (1, .ref 0), (2, .ref 57), (3, .int (nI i))] [] (M2, gj gm, TTc ++ TTm)) : WW X Q 627 [(0, .retAddr 0), (1, .ref 0), (2, .ref 57), (3, .int (nI i))] [] (M, gj gm, TTc ++ TTm) := by
  refine ww_aload_n C.1.1 dL_law_627 1 rfl rfl ?_
  refine ww_callV (As := []) (rest := []) C.1.1 h fX9_law (And.intro nL nL) mlRL_85 dL_law_628 (tc0 TTm) (by decide) rfl rfl rfl rfl nL (lk_room C) (Or.inl rfl) ?_
  rintro v w' ⟨r, M1, rfl, rfl, h1⟩
  show WW X Q 631 _ [.int r] (M1, gj gm, TTc ++ TTm)
  refine ww_aload_n C.1.1 dL_law_631 2 rfl rfl ?_
  refine ww_callV (As := []) (rest := [.int r]) C.1.1 h1 fX10_law (And.intro nL nL) mlRL_88 dL_law_632 tm57 (by decide) rfl rfl rfl rfl nL (lk_room C) (Or.inl rfl) ?_
  rintro v w' ⟨r2, M2, rfl, rfl, rfl, hI⟩
  exact ww_icmp_eq C.1.1 (tgt := 962) dL_law_635 (by decide) (fun _ => kk _ hI) (fun z => absurd rfl z)
set_option maxHeartbeats 4000000 in
theorem lw_c18 {X : CX} {Q : State → Prop} {nm : String} {Ln i : Nat} {xv : Nat → Int32} {M : Mem} (C : LK X nm Ln xv) (hi : i + 4 ≤ Ln) (h : StepOK mX9_pairs mX10_pairs [.int (xv (i + 1))] M) (kk : ∀ M2, Inv M2 → WW X Q 962 [(0, .retAddr 0), (1, .ref 0), (2, .ref 57), (3, .int (nI i))] [] (M2, gj gm, TTc ++ TTm)) : WW X Q 640 [(0, .retAddr 0), (1, .ref 0), (2, .ref 57), (3, .int (nI i))] [] (M, gj gm, TTc ++ TTm) := by
  refine ww_aload_n C.1.1 dL_law_640 1 rfl rfl ?_
  refine ww_aloadX_n C.1.1 dL_law_641 0 rfl rfl ?_
  refine ww_iload_n C.1.1 dL_law_642 3 rfl rfl ?_
  refine ww_iconst C.1.1 (v := (1 : Int32)) dL_law_643 (by decide) ?_
  refine ww_iadd C.1.1 dL_law_644 ?_
  refine ww_sld C dL_law_645 (j := i + 1) (nI_add i 1) (by omega) ?_
  refine ww_callV (As := [.int (xv (i + 1))]) (rest := []) C.1.1 h fX9_pairs (And.intro nL nL) mlRL_89 dL_law_646 (tc0 TTm) (by decide) rfl rfl rfl rfl nL (lk_room C) (Or.inl rfl) ?_
  rintro v w' ⟨r, M1, rfl, rfl, h1⟩
  show WW X Q 649 _ [.int r] (M1, gj gm, TTc ++ TTm)
  refine ww_aload_n C.1.1 dL_law_649 2 rfl rfl ?_
  refine ww_aloadX_n C.1.1 dL_law_650 0 rfl rfl ?_
  refine ww_iload_n C.1.1 dL_law_651 3 rfl rfl ?_
  refine ww_iconst C.1.1 (v := (1 : Int32)) dL_law_652 (by decide) ?_
  refine ww_iadd C.1.1 dL_law_653 ?_
  refine ww_sld C dL_law_654 (j := i + 1) (nI_add i 1) (by omega) ?_
  refine ww_callV (As := [.int (xv (i + 1))]) (rest := [.int r]) C.1.1 h1 fX10_pairs (And.intro nL nL) mlRL_92 dL_law_655 tm57 (by decide) rfl rfl rfl rfl nL (lk_room C) (Or.inl rfl) ?_
  rintro v w' ⟨r2, M2, rfl, rfl, rfl, hI⟩
  exact ww_icmp_eq C.1.1 (tgt := 962) dL_law_658 (by decide) (fun _ => kk _ hI) (fun z => absurd rfl z)
set_option maxHeartbeats 4000000 in
theorem lw_c19 {X : CX} {Q : State → Prop} {nm : String} {Ln i : Nat} {xv : Nat → Int32} {M : Mem} (C : LK X nm Ln xv) (hi : i + 4 ≤ Ln) (h : StepOK mX9_later mX10_later [.int (xv (i + 1)), .int (xv (i + 2))] M) (kk : ∀ M2, Inv M2 → WW X Q 962 [(0, .retAddr 0), (1, .ref 0), (2, .ref 57), (3, .int (nI i))] [] (M2, gj gm, TTc ++ TTm)) : WW X Q 663 [(0, .retAddr 0), (1, .ref 0), (2, .ref 57), (3, .int (nI i))] [] (M, gj gm, TTc ++ TTm) := by
  refine ww_aload_n C.1.1 dL_law_663 1 rfl rfl ?_
  refine ww_aloadX_n C.1.1 dL_law_664 0 rfl rfl ?_
  refine ww_iload_n C.1.1 dL_law_665 3 rfl rfl ?_
  refine ww_iconst C.1.1 (v := (1 : Int32)) dL_law_666 (by decide) ?_
  refine ww_iadd C.1.1 dL_law_667 ?_
  refine ww_sld C dL_law_668 (j := i + 1) (nI_add i 1) (by omega) ?_
  refine ww_aloadX_n C.1.1 dL_law_669 0 rfl rfl ?_
  refine ww_iload_n C.1.1 dL_law_670 3 rfl rfl ?_
  refine ww_iconst C.1.1 (v := (2 : Int32)) dL_law_671 (by decide) ?_
  refine ww_iadd C.1.1 dL_law_672 ?_
  refine ww_sld C dL_law_673 (j := i + 2) (nI_add i 2) (by omega) ?_
  refine ww_callV (As := [.int (xv (i + 1)), .int (xv (i + 2))]) (rest := []) C.1.1 h fX9_later (And.intro nL nL) mlRL_93 dL_law_674 (tc0 TTm) (by decide) rfl rfl rfl rfl nL (lk_room C) (Or.inl rfl) ?_
  rintro v w' ⟨r, M1, rfl, rfl, h1⟩
  show WW X Q 677 _ [.int r] (M1, gj gm, TTc ++ TTm)
  refine ww_aload_n C.1.1 dL_law_677 2 rfl rfl ?_
  refine ww_aloadX_n C.1.1 dL_law_678 0 rfl rfl ?_
  refine ww_iload_n C.1.1 dL_law_679 3 rfl rfl ?_
  refine ww_iconst C.1.1 (v := (1 : Int32)) dL_law_680 (by decide) ?_
  refine ww_iadd C.1.1 dL_law_681 ?_
  refine ww_sld C dL_law_682 (j := i + 1) (nI_add i 1) (by omega) ?_
  refine ww_aloadX_n C.1.1 dL_law_683 0 rfl rfl ?_
  refine ww_iload_n C.1.1 dL_law_684 3 rfl rfl ?_
  refine ww_iconst C.1.1 (v := (2 : Int32)) dL_law_685 (by decide) ?_
  refine ww_iadd C.1.1 dL_law_686 ?_
  refine ww_sld C dL_law_687 (j := i + 2) (nI_add i 2) (by omega) ?_
  refine ww_callV (As := [.int (xv (i + 1)), .int (xv (i + 2))]) (rest := [.int r]) C.1.1 h1 fX10_later (And.intro nL nL) mlRL_96 dL_law_688 tm57 (by decide) rfl rfl rfl rfl nL (lk_room C) (Or.inl rfl) ?_
  rintro v w' ⟨r2, M2, rfl, rfl, rfl, hI⟩
  exact ww_icmp_eq C.1.1 (tgt := 962) dL_law_691 (by decide) (fun _ => kk _ hI) (fun z => absurd rfl z)
set_option maxHeartbeats 4000000 in
theorem lw_c20 {X : CX} {Q : State → Prop} {nm : String} {Ln i : Nat} {xv : Nat → Int32} {M : Mem} (C : LK X nm Ln xv) (hi : i + 4 ≤ Ln) (h : StepOK mX9_rival mX10_rival [] M) (kk : ∀ M2, Inv M2 → WW X Q 962 [(0, .retAddr 0), (1, .ref 0), (2, .ref 57), (3, .int (nI i))] [] (M2, gj gm, TTc ++ TTm)) : WW X Q 696 [(0, .retAddr 0), (1, .ref 0), (2, .ref 57), (3, .int (nI i))] [] (M, gj gm, TTc ++ TTm) := by
  refine ww_aload_n C.1.1 dL_law_696 1 rfl rfl ?_
  refine ww_callV (As := []) (rest := []) C.1.1 h fX9_rival (And.intro nL nL) mlRL_97 dL_law_697 (tc0 TTm) (by decide) rfl rfl rfl rfl nL (lk_room C) (Or.inl rfl) ?_
  rintro v w' ⟨r, M1, rfl, rfl, h1⟩
  show WW X Q 700 _ [.int r] (M1, gj gm, TTc ++ TTm)
  refine ww_aload_n C.1.1 dL_law_700 2 rfl rfl ?_
  refine ww_callV (As := []) (rest := [.int r]) C.1.1 h1 fX10_rival (And.intro nL nL) mlRL_100 dL_law_701 tm57 (by decide) rfl rfl rfl rfl nL (lk_room C) (Or.inl rfl) ?_
  rintro v w' ⟨r2, M2, rfl, rfl, rfl, hI⟩
  exact ww_icmp_eq C.1.1 (tgt := 962) dL_law_704 (by decide) (fun _ => kk _ hI) (fun z => absurd rfl z)
set_option maxHeartbeats 4000000 in
theorem lw_c21 {X : CX} {Q : State → Prop} {nm : String} {Ln i : Nat} {xv : Nat → Int32} {M : Mem} (C : LK X nm Ln xv) (hi : i + 4 ≤ Ln) (h : StepOK mX9_fewest mX10_fewest [.int (xv (i + 1))] M) (kk : ∀ M2, Inv M2 → WW X Q 962 [(0, .retAddr 0), (1, .ref 0), (2, .ref 57), (3, .int (nI i))] [] (M2, gj gm, TTc ++ TTm)) : WW X Q 709 [(0, .retAddr 0), (1, .ref 0), (2, .ref 57), (3, .int (nI i))] [] (M, gj gm, TTc ++ TTm) := by
  refine ww_aload_n C.1.1 dL_law_709 1 rfl rfl ?_
  refine ww_aloadX_n C.1.1 dL_law_710 0 rfl rfl ?_
  refine ww_iload_n C.1.1 dL_law_711 3 rfl rfl ?_
  refine ww_iconst C.1.1 (v := (1 : Int32)) dL_law_712 (by decide) ?_
  refine ww_iadd C.1.1 dL_law_713 ?_
  refine ww_sld C dL_law_714 (j := i + 1) (nI_add i 1) (by omega) ?_
  refine ww_callV (As := [.int (xv (i + 1))]) (rest := []) C.1.1 h fX9_fewest (And.intro nL nL) mlRL_101 dL_law_715 (tc0 TTm) (by decide) rfl rfl rfl rfl nL (lk_room C) (Or.inl rfl) ?_
  rintro v w' ⟨r, M1, rfl, rfl, h1⟩
  show WW X Q 718 _ [.int r] (M1, gj gm, TTc ++ TTm)
  refine ww_aload_n C.1.1 dL_law_718 2 rfl rfl ?_
  refine ww_aloadX_n C.1.1 dL_law_719 0 rfl rfl ?_
  refine ww_iload_n C.1.1 dL_law_720 3 rfl rfl ?_
  refine ww_iconst C.1.1 (v := (1 : Int32)) dL_law_721 (by decide) ?_
  refine ww_iadd C.1.1 dL_law_722 ?_
  refine ww_sld C dL_law_723 (j := i + 1) (nI_add i 1) (by omega) ?_
  refine ww_callV (As := [.int (xv (i + 1))]) (rest := [.int r]) C.1.1 h1 fX10_fewest (And.intro nL nL) mlRL_104 dL_law_724 tm57 (by decide) rfl rfl rfl rfl nL (lk_room C) (Or.inl rfl) ?_
  rintro v w' ⟨r2, M2, rfl, rfl, rfl, hI⟩
  exact ww_icmp_eq C.1.1 (tgt := 962) dL_law_727 (by decide) (fun _ => kk _ hI) (fun z => absurd rfl z)
set_option maxHeartbeats 4000000 in
theorem lw_c22 {X : CX} {Q : State → Prop} {nm : String} {Ln i : Nat} {xv : Nat → Int32} {M : Mem} (C : LK X nm Ln xv) (hi : i + 4 ≤ Ln) (h : StepOK mX9_turned mX10_turned [] M) (kk : ∀ M2, Inv M2 → WW X Q 962 [(0, .retAddr 0), (1, .ref 0), (2, .ref 57), (3, .int (nI i))] [] (M2, gj gm, TTc ++ TTm)) : WW X Q 732 [(0, .retAddr 0), (1, .ref 0), (2, .ref 57), (3, .int (nI i))] [] (M, gj gm, TTc ++ TTm) := by
  refine ww_aload_n C.1.1 dL_law_732 1 rfl rfl ?_
  refine ww_callV (As := []) (rest := []) C.1.1 h fX9_turned (And.intro nL nL) mlRL_105 dL_law_733 (tc0 TTm) (by decide) rfl rfl rfl rfl nL (lk_room C) (Or.inl rfl) ?_
  rintro v w' ⟨r, M1, rfl, rfl, h1⟩
  show WW X Q 736 _ [.int r] (M1, gj gm, TTc ++ TTm)
  refine ww_aload_n C.1.1 dL_law_736 2 rfl rfl ?_
  refine ww_callV (As := []) (rest := [.int r]) C.1.1 h1 fX10_turned (And.intro nL nL) mlRL_108 dL_law_737 tm57 (by decide) rfl rfl rfl rfl nL (lk_room C) (Or.inl rfl) ?_
  rintro v w' ⟨r2, M2, rfl, rfl, rfl, hI⟩
  exact ww_icmp_eq C.1.1 (tgt := 962) dL_law_740 (by decide) (fun _ => kk _ hI) (fun z => absurd rfl z)
set_option maxHeartbeats 4000000 in
theorem lw_c23 {X : CX} {Q : State → Prop} {nm : String} {Ln i : Nat} {xv : Nat → Int32} {M : Mem} (C : LK X nm Ln xv) (hi : i + 4 ≤ Ln) (h : StepOK mX9_left mX10_left [.int (xv (i + 1)), .int (xv (i + 2)), .int (xv (i + 3))] M) (kk : ∀ M2, Inv M2 → WW X Q 962 [(0, .retAddr 0), (1, .ref 0), (2, .ref 57), (3, .int (nI i))] [] (M2, gj gm, TTc ++ TTm)) : WW X Q 745 [(0, .retAddr 0), (1, .ref 0), (2, .ref 57), (3, .int (nI i))] [] (M, gj gm, TTc ++ TTm) := by
  refine ww_aload_n C.1.1 dL_law_745 1 rfl rfl ?_
  refine ww_aloadX_n C.1.1 dL_law_746 0 rfl rfl ?_
  refine ww_iload_n C.1.1 dL_law_747 3 rfl rfl ?_
  refine ww_iconst C.1.1 (v := (1 : Int32)) dL_law_748 (by decide) ?_
  refine ww_iadd C.1.1 dL_law_749 ?_
  refine ww_sld C dL_law_750 (j := i + 1) (nI_add i 1) (by omega) ?_
  refine ww_aloadX_n C.1.1 dL_law_751 0 rfl rfl ?_
  refine ww_iload_n C.1.1 dL_law_752 3 rfl rfl ?_
  refine ww_iconst C.1.1 (v := (2 : Int32)) dL_law_753 (by decide) ?_
  refine ww_iadd C.1.1 dL_law_754 ?_
  refine ww_sld C dL_law_755 (j := i + 2) (nI_add i 2) (by omega) ?_
  refine ww_aloadX_n C.1.1 dL_law_756 0 rfl rfl ?_
  refine ww_iload_n C.1.1 dL_law_757 3 rfl rfl ?_
  refine ww_iconst C.1.1 (v := (3 : Int32)) dL_law_758 (by decide) ?_
  refine ww_iadd C.1.1 dL_law_759 ?_
  refine ww_sld C dL_law_760 (j := i + 3) (nI_add i 3) (by omega) ?_
  refine ww_callV (As := [.int (xv (i + 1)), .int (xv (i + 2)), .int (xv (i + 3))]) (rest := []) C.1.1 h fX9_left (And.intro nL nL) mlRL_109 dL_law_761 (tc0 TTm) (by decide) rfl rfl rfl rfl nL (lk_room C) (Or.inl rfl) ?_
  rintro v w' ⟨r, M1, rfl, rfl, h1⟩
  show WW X Q 764 _ [.int r] (M1, gj gm, TTc ++ TTm)
  refine ww_aload_n C.1.1 dL_law_764 2 rfl rfl ?_
  refine ww_aloadX_n C.1.1 dL_law_765 0 rfl rfl ?_
  refine ww_iload_n C.1.1 dL_law_766 3 rfl rfl ?_
  refine ww_iconst C.1.1 (v := (1 : Int32)) dL_law_767 (by decide) ?_
  refine ww_iadd C.1.1 dL_law_768 ?_
  refine ww_sld C dL_law_769 (j := i + 1) (nI_add i 1) (by omega) ?_
  refine ww_aloadX_n C.1.1 dL_law_770 0 rfl rfl ?_
  refine ww_iload_n C.1.1 dL_law_771 3 rfl rfl ?_
  refine ww_iconst C.1.1 (v := (2 : Int32)) dL_law_772 (by decide) ?_
  refine ww_iadd C.1.1 dL_law_773 ?_
  refine ww_sld C dL_law_774 (j := i + 2) (nI_add i 2) (by omega) ?_
  refine ww_aloadX_n C.1.1 dL_law_775 0 rfl rfl ?_
  refine ww_iload_n C.1.1 dL_law_776 3 rfl rfl ?_
  refine ww_iconst C.1.1 (v := (3 : Int32)) dL_law_777 (by decide) ?_
  refine ww_iadd C.1.1 dL_law_778 ?_
  refine ww_sld C dL_law_779 (j := i + 3) (nI_add i 3) (by omega) ?_
  refine ww_callV (As := [.int (xv (i + 1)), .int (xv (i + 2)), .int (xv (i + 3))]) (rest := [.int r]) C.1.1 h1 fX10_left (And.intro nL nL) mlRL_112 dL_law_780 tm57 (by decide) rfl rfl rfl rfl nL (lk_room C) (Or.inl rfl) ?_
  rintro v w' ⟨r2, M2, rfl, rfl, rfl, hI⟩
  exact ww_icmp_eq C.1.1 (tgt := 962) dL_law_783 (by decide) (fun _ => kk _ hI) (fun z => absurd rfl z)
set_option maxHeartbeats 4000000 in
theorem lw_c24 {X : CX} {Q : State → Prop} {nm : String} {Ln i : Nat} {xv : Nat → Int32} {M : Mem} (C : LK X nm Ln xv) (hi : i + 4 ≤ Ln) (h : StepOK mX9_sweep mX10_sweep [] M) (kk : ∀ M2, Inv M2 → WW X Q 962 [(0, .retAddr 0), (1, .ref 0), (2, .ref 57), (3, .int (nI i))] [] (M2, gj gm, TTc ++ TTm)) : WW X Q 788 [(0, .retAddr 0), (1, .ref 0), (2, .ref 57), (3, .int (nI i))] [] (M, gj gm, TTc ++ TTm) := by
  refine ww_aload_n C.1.1 dL_law_788 1 rfl rfl ?_
  refine ww_callV (As := []) (rest := []) C.1.1 h fX9_sweep (And.intro nL nL) mlRL_113 dL_law_789 (tc0 TTm) (by decide) rfl rfl rfl rfl nL (lk_room C) (Or.inl rfl) ?_
  rintro v w' ⟨r, M1, rfl, rfl, h1⟩
  show WW X Q 792 _ [.int r] (M1, gj gm, TTc ++ TTm)
  refine ww_aload_n C.1.1 dL_law_792 2 rfl rfl ?_
  refine ww_callV (As := []) (rest := [.int r]) C.1.1 h1 fX10_sweep (And.intro nL nL) mlRL_116 dL_law_793 tm57 (by decide) rfl rfl rfl rfl nL (lk_room C) (Or.inl rfl) ?_
  rintro v w' ⟨r2, M2, rfl, rfl, rfl, hI⟩
  exact ww_icmp_eq C.1.1 (tgt := 962) dL_law_796 (by decide) (fun _ => kk _ hI) (fun z => absurd rfl z)
set_option maxHeartbeats 4000000 in
theorem lw_c25 {X : CX} {Q : State → Prop} {nm : String} {Ln i : Nat} {xv : Nat → Int32} {M : Mem} (C : LK X nm Ln xv) (hi : i + 4 ≤ Ln) (h : StepOK mX9_slept mX10_slept [.int (xv (i + 1))] M) (kk : ∀ M2, Inv M2 → WW X Q 962 [(0, .retAddr 0), (1, .ref 0), (2, .ref 57), (3, .int (nI i))] [] (M2, gj gm, TTc ++ TTm)) : WW X Q 801 [(0, .retAddr 0), (1, .ref 0), (2, .ref 57), (3, .int (nI i))] [] (M, gj gm, TTc ++ TTm) := by
  refine ww_aload_n C.1.1 dL_law_801 1 rfl rfl ?_
  refine ww_aloadX_n C.1.1 dL_law_802 0 rfl rfl ?_
  refine ww_iload_n C.1.1 dL_law_803 3 rfl rfl ?_
  refine ww_iconst C.1.1 (v := (1 : Int32)) dL_law_804 (by decide) ?_
  refine ww_iadd C.1.1 dL_law_805 ?_
  refine ww_sld C dL_law_806 (j := i + 1) (nI_add i 1) (by omega) ?_
  refine ww_callV (As := [.int (xv (i + 1))]) (rest := []) C.1.1 h fX9_slept (And.intro nL nL) mlRL_117 dL_law_807 (tc0 TTm) (by decide) rfl rfl rfl rfl nL (lk_room C) (Or.inl rfl) ?_
  rintro v w' ⟨r, M1, rfl, rfl, h1⟩
  show WW X Q 810 _ [.int r] (M1, gj gm, TTc ++ TTm)
  refine ww_aload_n C.1.1 dL_law_810 2 rfl rfl ?_
  refine ww_aloadX_n C.1.1 dL_law_811 0 rfl rfl ?_
  refine ww_iload_n C.1.1 dL_law_812 3 rfl rfl ?_
  refine ww_iconst C.1.1 (v := (1 : Int32)) dL_law_813 (by decide) ?_
  refine ww_iadd C.1.1 dL_law_814 ?_
  refine ww_sld C dL_law_815 (j := i + 1) (nI_add i 1) (by omega) ?_
  refine ww_callV (As := [.int (xv (i + 1))]) (rest := [.int r]) C.1.1 h1 fX10_slept (And.intro nL nL) mlRL_120 dL_law_816 tm57 (by decide) rfl rfl rfl rfl nL (lk_room C) (Or.inl rfl) ?_
  rintro v w' ⟨r2, M2, rfl, rfl, rfl, hI⟩
  exact ww_icmp_eq C.1.1 (tgt := 962) dL_law_819 (by decide) (fun _ => kk _ hI) (fun z => absurd rfl z)
set_option maxHeartbeats 4000000 in
theorem lw_c26 {X : CX} {Q : State → Prop} {nm : String} {Ln i : Nat} {xv : Nat → Int32} {M : Mem} (C : LK X nm Ln xv) (hi : i + 4 ≤ Ln) (h : StepOK mX9_sure mX10_sure [.int (xv (i + 1))] M) (kk : ∀ M2, Inv M2 → WW X Q 962 [(0, .retAddr 0), (1, .ref 0), (2, .ref 57), (3, .int (nI i))] [] (M2, gj gm, TTc ++ TTm)) : WW X Q 824 [(0, .retAddr 0), (1, .ref 0), (2, .ref 57), (3, .int (nI i))] [] (M, gj gm, TTc ++ TTm) := by
  refine ww_aload_n C.1.1 dL_law_824 1 rfl rfl ?_
  refine ww_aloadX_n C.1.1 dL_law_825 0 rfl rfl ?_
  refine ww_iload_n C.1.1 dL_law_826 3 rfl rfl ?_
  refine ww_iconst C.1.1 (v := (1 : Int32)) dL_law_827 (by decide) ?_
  refine ww_iadd C.1.1 dL_law_828 ?_
  refine ww_sld C dL_law_829 (j := i + 1) (nI_add i 1) (by omega) ?_
  refine ww_callV (As := [.int (xv (i + 1))]) (rest := []) C.1.1 h fX9_sure (And.intro nL nL) mlRL_121 dL_law_830 (tc0 TTm) (by decide) rfl rfl rfl rfl nL (lk_room C) (Or.inl rfl) ?_
  rintro v w' ⟨r, M1, rfl, rfl, h1⟩
  show WW X Q 833 _ [.int r] (M1, gj gm, TTc ++ TTm)
  refine ww_aload_n C.1.1 dL_law_833 2 rfl rfl ?_
  refine ww_aloadX_n C.1.1 dL_law_834 0 rfl rfl ?_
  refine ww_iload_n C.1.1 dL_law_835 3 rfl rfl ?_
  refine ww_iconst C.1.1 (v := (1 : Int32)) dL_law_836 (by decide) ?_
  refine ww_iadd C.1.1 dL_law_837 ?_
  refine ww_sld C dL_law_838 (j := i + 1) (nI_add i 1) (by omega) ?_
  refine ww_callV (As := [.int (xv (i + 1))]) (rest := [.int r]) C.1.1 h1 fX10_sure (And.intro nL nL) mlRL_124 dL_law_839 tm57 (by decide) rfl rfl rfl rfl nL (lk_room C) (Or.inl rfl) ?_
  rintro v w' ⟨r2, M2, rfl, rfl, rfl, hI⟩
  exact ww_icmp_eq C.1.1 (tgt := 962) dL_law_842 (by decide) (fun _ => kk _ hI) (fun z => absurd rfl z)
set_option maxHeartbeats 4000000 in
theorem lw_c27 {X : CX} {Q : State → Prop} {nm : String} {Ln i : Nat} {xv : Nat → Int32} {M : Mem} (C : LK X nm Ln xv) (hi : i + 4 ≤ Ln) (h : StepOK mX9_found mX10_found [.int (xv (i + 1)), .int (xv (i + 2))] M) (kk : ∀ M2, Inv M2 → WW X Q 962 [(0, .retAddr 0), (1, .ref 0), (2, .ref 57), (3, .int (nI i))] [] (M2, gj gm, TTc ++ TTm)) : WW X Q 847 [(0, .retAddr 0), (1, .ref 0), (2, .ref 57), (3, .int (nI i))] [] (M, gj gm, TTc ++ TTm) := by
  refine ww_aload_n C.1.1 dL_law_847 1 rfl rfl ?_
  refine ww_aloadX_n C.1.1 dL_law_848 0 rfl rfl ?_
  refine ww_iload_n C.1.1 dL_law_849 3 rfl rfl ?_
  refine ww_iconst C.1.1 (v := (1 : Int32)) dL_law_850 (by decide) ?_
  refine ww_iadd C.1.1 dL_law_851 ?_
  refine ww_sld C dL_law_852 (j := i + 1) (nI_add i 1) (by omega) ?_
  refine ww_aloadX_n C.1.1 dL_law_853 0 rfl rfl ?_
  refine ww_iload_n C.1.1 dL_law_854 3 rfl rfl ?_
  refine ww_iconst C.1.1 (v := (2 : Int32)) dL_law_855 (by decide) ?_
  refine ww_iadd C.1.1 dL_law_856 ?_
  refine ww_sld C dL_law_857 (j := i + 2) (nI_add i 2) (by omega) ?_
  refine ww_callV (As := [.int (xv (i + 1)), .int (xv (i + 2))]) (rest := []) C.1.1 h fX9_found (And.intro nL nL) mlRL_125 dL_law_858 (tc0 TTm) (by decide) rfl rfl rfl rfl nL (lk_room C) (Or.inl rfl) ?_
  rintro v w' ⟨r, M1, rfl, rfl, h1⟩
  show WW X Q 861 _ [.int r] (M1, gj gm, TTc ++ TTm)
  refine ww_aload_n C.1.1 dL_law_861 2 rfl rfl ?_
  refine ww_aloadX_n C.1.1 dL_law_862 0 rfl rfl ?_
  refine ww_iload_n C.1.1 dL_law_863 3 rfl rfl ?_
  refine ww_iconst C.1.1 (v := (1 : Int32)) dL_law_864 (by decide) ?_
  refine ww_iadd C.1.1 dL_law_865 ?_
  refine ww_sld C dL_law_866 (j := i + 1) (nI_add i 1) (by omega) ?_
  refine ww_aloadX_n C.1.1 dL_law_867 0 rfl rfl ?_
  refine ww_iload_n C.1.1 dL_law_868 3 rfl rfl ?_
  refine ww_iconst C.1.1 (v := (2 : Int32)) dL_law_869 (by decide) ?_
  refine ww_iadd C.1.1 dL_law_870 ?_
  refine ww_sld C dL_law_871 (j := i + 2) (nI_add i 2) (by omega) ?_
  refine ww_callV (As := [.int (xv (i + 1)), .int (xv (i + 2))]) (rest := [.int r]) C.1.1 h1 fX10_found (And.intro nL nL) mlRL_128 dL_law_872 tm57 (by decide) rfl rfl rfl rfl nL (lk_room C) (Or.inl rfl) ?_
  rintro v w' ⟨r2, M2, rfl, rfl, rfl, hI⟩
  exact ww_icmp_eq C.1.1 (tgt := 962) dL_law_875 (by decide) (fun _ => kk _ hI) (fun z => absurd rfl z)
set_option maxHeartbeats 4000000 in
theorem lw_c28 {X : CX} {Q : State → Prop} {nm : String} {Ln i : Nat} {xv : Nat → Int32} {M : Mem} (C : LK X nm Ln xv) (hi : i + 4 ≤ Ln) (h : StepOK mX9_year mX10_year [.int (xv (i + 1)), .int (xv (i + 2))] M) (kk : ∀ M2, Inv M2 → WW X Q 962 [(0, .retAddr 0), (1, .ref 0), (2, .ref 57), (3, .int (nI i))] [] (M2, gj gm, TTc ++ TTm)) : WW X Q 880 [(0, .retAddr 0), (1, .ref 0), (2, .ref 57), (3, .int (nI i))] [] (M, gj gm, TTc ++ TTm) := by
  refine ww_aload_n C.1.1 dL_law_880 1 rfl rfl ?_
  refine ww_aloadX_n C.1.1 dL_law_881 0 rfl rfl ?_
  refine ww_iload_n C.1.1 dL_law_882 3 rfl rfl ?_
  refine ww_iconst C.1.1 (v := (1 : Int32)) dL_law_883 (by decide) ?_
  refine ww_iadd C.1.1 dL_law_884 ?_
  refine ww_sld C dL_law_885 (j := i + 1) (nI_add i 1) (by omega) ?_
  refine ww_aloadX_n C.1.1 dL_law_886 0 rfl rfl ?_
  refine ww_iload_n C.1.1 dL_law_887 3 rfl rfl ?_
  refine ww_iconst C.1.1 (v := (2 : Int32)) dL_law_888 (by decide) ?_
  refine ww_iadd C.1.1 dL_law_889 ?_
  refine ww_sld C dL_law_890 (j := i + 2) (nI_add i 2) (by omega) ?_
  refine ww_callV (As := [.int (xv (i + 1)), .int (xv (i + 2))]) (rest := []) C.1.1 h fX9_year (And.intro nL nL) mlRL_129 dL_law_891 (tc0 TTm) (by decide) rfl rfl rfl rfl nL (lk_room C) (Or.inl rfl) ?_
  rintro v w' ⟨r, M1, rfl, rfl, h1⟩
  show WW X Q 894 _ [.int r] (M1, gj gm, TTc ++ TTm)
  refine ww_aload_n C.1.1 dL_law_894 2 rfl rfl ?_
  refine ww_aloadX_n C.1.1 dL_law_895 0 rfl rfl ?_
  refine ww_iload_n C.1.1 dL_law_896 3 rfl rfl ?_
  refine ww_iconst C.1.1 (v := (1 : Int32)) dL_law_897 (by decide) ?_
  refine ww_iadd C.1.1 dL_law_898 ?_
  refine ww_sld C dL_law_899 (j := i + 1) (nI_add i 1) (by omega) ?_
  refine ww_aloadX_n C.1.1 dL_law_900 0 rfl rfl ?_
  refine ww_iload_n C.1.1 dL_law_901 3 rfl rfl ?_
  refine ww_iconst C.1.1 (v := (2 : Int32)) dL_law_902 (by decide) ?_
  refine ww_iadd C.1.1 dL_law_903 ?_
  refine ww_sld C dL_law_904 (j := i + 2) (nI_add i 2) (by omega) ?_
  refine ww_callV (As := [.int (xv (i + 1)), .int (xv (i + 2))]) (rest := [.int r]) C.1.1 h1 fX10_year (And.intro nL nL) mlRL_132 dL_law_905 tm57 (by decide) rfl rfl rfl rfl nL (lk_room C) (Or.inl rfl) ?_
  rintro v w' ⟨r2, M2, rfl, rfl, rfl, hI⟩
  exact ww_icmp_eq C.1.1 (tgt := 962) dL_law_908 (by decide) (fun _ => kk _ hI) (fun z => absurd rfl z)
set_option maxHeartbeats 4000000 in
theorem lw_c29 {X : CX} {Q : State → Prop} {nm : String} {Ln i : Nat} {xv : Nat → Int32} {M : Mem} (C : LK X nm Ln xv) (hi : i + 4 ≤ Ln) (h : StepOK mX9_keep mX10_keep [] M) (kk : ∀ M2, Inv M2 → WW X Q 962 [(0, .retAddr 0), (1, .ref 0), (2, .ref 57), (3, .int (nI i))] [] (M2, gj gm, TTc ++ TTm)) : WW X Q 913 [(0, .retAddr 0), (1, .ref 0), (2, .ref 57), (3, .int (nI i))] [] (M, gj gm, TTc ++ TTm) := by
  refine ww_aload_n C.1.1 dL_law_913 1 rfl rfl ?_
  refine ww_callV (As := []) (rest := []) C.1.1 h fX9_keep (And.intro nL nL) mlRL_133 dL_law_914 (tc0 TTm) (by decide) rfl rfl rfl rfl nL (lk_room C) (Or.inl rfl) ?_
  rintro v w' ⟨r, M1, rfl, rfl, h1⟩
  show WW X Q 917 _ [.int r] (M1, gj gm, TTc ++ TTm)
  refine ww_aload_n C.1.1 dL_law_917 2 rfl rfl ?_
  refine ww_callV (As := []) (rest := [.int r]) C.1.1 h1 fX10_keep (And.intro nL nL) mlRL_136 dL_law_918 tm57 (by decide) rfl rfl rfl rfl nL (lk_room C) (Or.inl rfl) ?_
  rintro v w' ⟨r2, M2, rfl, rfl, rfl, hI⟩
  exact ww_icmp_eq C.1.1 (tgt := 962) dL_law_921 (by decide) (fun _ => kk _ hI) (fun z => absurd rfl z)
set_option maxHeartbeats 4000000 in
theorem lw_c30 {X : CX} {Q : State → Prop} {nm : String} {Ln i : Nat} {xv : Nat → Int32} {M : Mem} (C : LK X nm Ln xv) (hi : i + 4 ≤ Ln) (h : StepOK mX9_back mX10_back [] M) (kk : ∀ M2, Inv M2 → WW X Q 962 [(0, .retAddr 0), (1, .ref 0), (2, .ref 57), (3, .int (nI i))] [] (M2, gj gm, TTc ++ TTm)) : WW X Q 926 [(0, .retAddr 0), (1, .ref 0), (2, .ref 57), (3, .int (nI i))] [] (M, gj gm, TTc ++ TTm) := by
  refine ww_aload_n C.1.1 dL_law_926 1 rfl rfl ?_
  refine ww_callV (As := []) (rest := []) C.1.1 h fX9_back (And.intro nL nL) mlRL_137 dL_law_927 (tc0 TTm) (by decide) rfl rfl rfl rfl nL (lk_room C) (Or.inl rfl) ?_
  rintro v w' ⟨r, M1, rfl, rfl, h1⟩
  show WW X Q 930 _ [.int r] (M1, gj gm, TTc ++ TTm)
  refine ww_aload_n C.1.1 dL_law_930 2 rfl rfl ?_
  refine ww_callV (As := []) (rest := [.int r]) C.1.1 h1 fX10_back (And.intro nL nL) mlRL_140 dL_law_931 tm57 (by decide) rfl rfl rfl rfl nL (lk_room C) (Or.inl rfl) ?_
  rintro v w' ⟨r2, M2, rfl, rfl, rfl, hI⟩
  exact ww_icmp_eq C.1.1 (tgt := 962) dL_law_934 (by decide) (fun _ => kk _ hI) (fun z => absurd rfl z)
set_option maxHeartbeats 4000000 in
theorem lw_c31 {X : CX} {Q : State → Prop} {nm : String} {Ln i : Nat} {xv : Nat → Int32} {M : Mem} (C : LK X nm Ln xv) (hi : i + 4 ≤ Ln) (h : StepOK mX9_count mX10_count [.int (xv (i + 1))] M) (kk : ∀ M2, Inv M2 → WW X Q 962 [(0, .retAddr 0), (1, .ref 0), (2, .ref 57), (3, .int (nI i))] [] (M2, gj gm, TTc ++ TTm)) : WW X Q 939 [(0, .retAddr 0), (1, .ref 0), (2, .ref 57), (3, .int (nI i))] [] (M, gj gm, TTc ++ TTm) := by
  refine ww_aload_n C.1.1 dL_law_939 1 rfl rfl ?_
  refine ww_aloadX_n C.1.1 dL_law_940 0 rfl rfl ?_
  refine ww_iload_n C.1.1 dL_law_941 3 rfl rfl ?_
  refine ww_iconst C.1.1 (v := (1 : Int32)) dL_law_942 (by decide) ?_
  refine ww_iadd C.1.1 dL_law_943 ?_
  refine ww_sld C dL_law_944 (j := i + 1) (nI_add i 1) (by omega) ?_
  refine ww_callV (As := [.int (xv (i + 1))]) (rest := []) C.1.1 h fX9_count (And.intro nL nL) mlRL_141 dL_law_945 (tc0 TTm) (by decide) rfl rfl rfl rfl nL (lk_room C) (Or.inl rfl) ?_
  rintro v w' ⟨r, M1, rfl, rfl, h1⟩
  show WW X Q 948 _ [.int r] (M1, gj gm, TTc ++ TTm)
  refine ww_aload_n C.1.1 dL_law_948 2 rfl rfl ?_
  refine ww_aloadX_n C.1.1 dL_law_949 0 rfl rfl ?_
  refine ww_iload_n C.1.1 dL_law_950 3 rfl rfl ?_
  refine ww_iconst C.1.1 (v := (1 : Int32)) dL_law_951 (by decide) ?_
  refine ww_iadd C.1.1 dL_law_952 ?_
  refine ww_sld C dL_law_953 (j := i + 1) (nI_add i 1) (by omega) ?_
  refine ww_callV (As := [.int (xv (i + 1))]) (rest := [.int r]) C.1.1 h1 fX10_count (And.intro nL nL) mlRL_144 dL_law_954 tm57 (by decide) rfl rfl rfl rfl nL (lk_room C) (Or.inl rfl) ?_
  rintro v w' ⟨r2, M2, rfl, rfl, rfl, hI⟩
  exact ww_icmp_eq C.1.1 (tgt := 962) dL_law_957 (by decide) (fun _ => kk _ hI) (fun z => absurd rfl z)
