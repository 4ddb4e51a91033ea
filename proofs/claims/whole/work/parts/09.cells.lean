/-! the cells: x (BedsThatFit) and what it holds are 0 to 56, m (the reference) and what it holds 57 to 83 -/
def TTc : List (Nat × Nat) := [(9, 9), (7, 4), (21, 200), (20, 3), (3, 8), (20, 7), (20, 7), (20, 7), (20, 7), (20, 7), (1, 4), (20, 8), (20, 8), (20, 8), (8, 4), (22, 2), (20, 7), (20, 7), (22, 2), (20, 7), (20, 7), (22, 2), (20, 7), (20, 7), (6, 5), (20, 6), (20, 6), (20, 6), (20, 128), (4, 4), (20, 7), (20, 7), (20, 7), (2, 5), (0, 7), (20, 4), (20, 30), (5, 7), (20, 7), (20, 7), (20, 7), (20, 7), (20, 7), (20, 7), (20, 4), (2, 5), (0, 7), (20, 4), (20, 30), (5, 7), (20, 7), (20, 7), (20, 7), (20, 7), (20, 7), (20, 7), (20, 4)]
def TTm : List (Nat × Nat) := [(10, 44), (20, 4), (20, 30), (20, 7), (20, 7), (20, 7), (20, 4), (20, 21), (20, 200), (20, 3), (20, 4), (20, 30), (20, 21), (20, 7), (20, 4), (20, 7), (20, 7), (20, 7), (20, 7), (20, 7), (20, 168), (20, 7), (20, 7), (20, 18), (20, 128), (20, 128), (20, 42)]
def GGc : List (List (Option Nat)) := [[some 1, some 4, some 10, some 14, some 24, some 29, some 32, some 33, some 45], [some 2, some 3], [], [], [some 5, some 6, some 7, some 8, some 9], [], [], [], [], [], [some 11, some 12, some 13], [], [], [], [some 15, some 18, some 21], [some 16, some 17], [], [], [some 19, some 20], [], [], [some 22, some 23], [], [], [some 25, some 26, some 27, some 28], [], [], [], [], [some 30, some 31], [], [], [], [some 34, some 37, some 44], [some 35, some 36], [], [], [some 38, some 39, some 40, some 41, some 42, some 43], [], [], [], [], [], [], [], [some 46, some 49, some 56], [some 47, some 48], [], [], [some 50, some 51, some 52, some 53, some 54, some 55], [], [], [], [], [], [], []]
def gj (G2 : Nat → Nat → Option Nat) : Nat → Nat → Option Nat := fun k j => if k < 57 then (GGc.getD k []).getD j none else G2 k j
def GGm : List (Option Nat) := [some 58, none, some 59, none, some 60, some 61, some 62, none, some 63, none, none, some 64, some 65, none, none, none, some 66, some 67, none, some 68, none, some 69, some 70, none, some 71, none, none, none, none, some 72, some 73, some 74, some 75, some 76, some 77, none, some 78, some 79, some 80, none, some 81, some 82, some 83, none]
def gm : Nat → Nat → Option Nat := fun k j => if k = 57 then GGm.getD j none else none
theorem tc0 (T2 : List (Nat × Nat)) : (TTc ++ T2)[0]? = some (9, 9) := rfl
theorem tc1 (T2 : List (Nat × Nat)) : (TTc ++ T2)[1]? = some (7, 4) := rfl
theorem tc2 (T2 : List (Nat × Nat)) : (TTc ++ T2)[2]? = some (21, 200) := rfl
theorem tc3 (T2 : List (Nat × Nat)) : (TTc ++ T2)[3]? = some (20, 3) := rfl
theorem tc4 (T2 : List (Nat × Nat)) : (TTc ++ T2)[4]? = some (3, 8) := rfl
theorem tc5 (T2 : List (Nat × Nat)) : (TTc ++ T2)[5]? = some (20, 7) := rfl
theorem tc6 (T2 : List (Nat × Nat)) : (TTc ++ T2)[6]? = some (20, 7) := rfl
theorem tc7 (T2 : List (Nat × Nat)) : (TTc ++ T2)[7]? = some (20, 7) := rfl
theorem tc8 (T2 : List (Nat × Nat)) : (TTc ++ T2)[8]? = some (20, 7) := rfl
theorem tc9 (T2 : List (Nat × Nat)) : (TTc ++ T2)[9]? = some (20, 7) := rfl
theorem tc10 (T2 : List (Nat × Nat)) : (TTc ++ T2)[10]? = some (1, 4) := rfl
theorem tc11 (T2 : List (Nat × Nat)) : (TTc ++ T2)[11]? = some (20, 8) := rfl
theorem tc12 (T2 : List (Nat × Nat)) : (TTc ++ T2)[12]? = some (20, 8) := rfl
theorem tc13 (T2 : List (Nat × Nat)) : (TTc ++ T2)[13]? = some (20, 8) := rfl
theorem tc14 (T2 : List (Nat × Nat)) : (TTc ++ T2)[14]? = some (8, 4) := rfl
theorem tc15 (T2 : List (Nat × Nat)) : (TTc ++ T2)[15]? = some (22, 2) := rfl
theorem tc16 (T2 : List (Nat × Nat)) : (TTc ++ T2)[16]? = some (20, 7) := rfl
theorem tc17 (T2 : List (Nat × Nat)) : (TTc ++ T2)[17]? = some (20, 7) := rfl
theorem tc18 (T2 : List (Nat × Nat)) : (TTc ++ T2)[18]? = some (22, 2) := rfl
theorem tc19 (T2 : List (Nat × Nat)) : (TTc ++ T2)[19]? = some (20, 7) := rfl
theorem tc20 (T2 : List (Nat × Nat)) : (TTc ++ T2)[20]? = some (20, 7) := rfl
theorem tc21 (T2 : List (Nat × Nat)) : (TTc ++ T2)[21]? = some (22, 2) := rfl
theorem tc22 (T2 : List (Nat × Nat)) : (TTc ++ T2)[22]? = some (20, 7) := rfl
theorem tc23 (T2 : List (Nat × Nat)) : (TTc ++ T2)[23]? = some (20, 7) := rfl
theorem tc24 (T2 : List (Nat × Nat)) : (TTc ++ T2)[24]? = some (6, 5) := rfl
theorem tc25 (T2 : List (Nat × Nat)) : (TTc ++ T2)[25]? = some (20, 6) := rfl
theorem tc26 (T2 : List (Nat × Nat)) : (TTc ++ T2)[26]? = some (20, 6) := rfl
theorem tc27 (T2 : List (Nat × Nat)) : (TTc ++ T2)[27]? = some (20, 6) := rfl
theorem tc28 (T2 : List (Nat × Nat)) : (TTc ++ T2)[28]? = some (20, 128) := rfl
theorem tc29 (T2 : List (Nat × Nat)) : (TTc ++ T2)[29]? = some (4, 4) := rfl
theorem tc30 (T2 : List (Nat × Nat)) : (TTc ++ T2)[30]? = some (20, 7) := rfl
theorem tc31 (T2 : List (Nat × Nat)) : (TTc ++ T2)[31]? = some (20, 7) := rfl
theorem tc32 (T2 : List (Nat × Nat)) : (TTc ++ T2)[32]? = some (20, 7) := rfl
theorem tc33 (T2 : List (Nat × Nat)) : (TTc ++ T2)[33]? = some (2, 5) := rfl
theorem tc34 (T2 : List (Nat × Nat)) : (TTc ++ T2)[34]? = some (0, 7) := rfl
theorem tc35 (T2 : List (Nat × Nat)) : (TTc ++ T2)[35]? = some (20, 4) := rfl
theorem tc36 (T2 : List (Nat × Nat)) : (TTc ++ T2)[36]? = some (20, 30) := rfl
theorem tc37 (T2 : List (Nat × Nat)) : (TTc ++ T2)[37]? = some (5, 7) := rfl
theorem tc38 (T2 : List (Nat × Nat)) : (TTc ++ T2)[38]? = some (20, 7) := rfl
theorem tc39 (T2 : List (Nat × Nat)) : (TTc ++ T2)[39]? = some (20, 7) := rfl
theorem tc40 (T2 : List (Nat × Nat)) : (TTc ++ T2)[40]? = some (20, 7) := rfl
theorem tc41 (T2 : List (Nat × Nat)) : (TTc ++ T2)[41]? = some (20, 7) := rfl
theorem tc42 (T2 : List (Nat × Nat)) : (TTc ++ T2)[42]? = some (20, 7) := rfl
theorem tc43 (T2 : List (Nat × Nat)) : (TTc ++ T2)[43]? = some (20, 7) := rfl
theorem tc44 (T2 : List (Nat × Nat)) : (TTc ++ T2)[44]? = some (20, 4) := rfl
theorem tc45 (T2 : List (Nat × Nat)) : (TTc ++ T2)[45]? = some (2, 5) := rfl
theorem tc46 (T2 : List (Nat × Nat)) : (TTc ++ T2)[46]? = some (0, 7) := rfl
theorem tc47 (T2 : List (Nat × Nat)) : (TTc ++ T2)[47]? = some (20, 4) := rfl
theorem tc48 (T2 : List (Nat × Nat)) : (TTc ++ T2)[48]? = some (20, 30) := rfl
theorem tc49 (T2 : List (Nat × Nat)) : (TTc ++ T2)[49]? = some (5, 7) := rfl
theorem tc50 (T2 : List (Nat × Nat)) : (TTc ++ T2)[50]? = some (20, 7) := rfl
theorem tc51 (T2 : List (Nat × Nat)) : (TTc ++ T2)[51]? = some (20, 7) := rfl
theorem tc52 (T2 : List (Nat × Nat)) : (TTc ++ T2)[52]? = some (20, 7) := rfl
theorem tc53 (T2 : List (Nat × Nat)) : (TTc ++ T2)[53]? = some (20, 7) := rfl
theorem tc54 (T2 : List (Nat × Nat)) : (TTc ++ T2)[54]? = some (20, 7) := rfl
theorem tc55 (T2 : List (Nat × Nat)) : (TTc ++ T2)[55]? = some (20, 7) := rfl
theorem tc56 (T2 : List (Nat × Nat)) : (TTc ++ T2)[56]? = some (20, 4) := rfl
theorem tm57 : (TTc ++ TTm)[57]? = some (10, 44) := rfl
theorem tm58 : (TTc ++ TTm)[58]? = some (20, 4) := rfl
theorem tm59 : (TTc ++ TTm)[59]? = some (20, 30) := rfl
theorem tm60 : (TTc ++ TTm)[60]? = some (20, 7) := rfl
theorem tm61 : (TTc ++ TTm)[61]? = some (20, 7) := rfl
theorem tm62 : (TTc ++ TTm)[62]? = some (20, 7) := rfl
theorem tm63 : (TTc ++ TTm)[63]? = some (20, 4) := rfl
theorem tm64 : (TTc ++ TTm)[64]? = some (20, 21) := rfl
theorem tm65 : (TTc ++ TTm)[65]? = some (20, 200) := rfl
theorem tm66 : (TTc ++ TTm)[66]? = some (20, 3) := rfl
theorem tm67 : (TTc ++ TTm)[67]? = some (20, 4) := rfl
theorem tm68 : (TTc ++ TTm)[68]? = some (20, 30) := rfl
theorem tm69 : (TTc ++ TTm)[69]? = some (20, 21) := rfl
theorem tm70 : (TTc ++ TTm)[70]? = some (20, 7) := rfl
theorem tm71 : (TTc ++ TTm)[71]? = some (20, 4) := rfl
theorem tm72 : (TTc ++ TTm)[72]? = some (20, 7) := rfl
theorem tm73 : (TTc ++ TTm)[73]? = some (20, 7) := rfl
theorem tm74 : (TTc ++ TTm)[74]? = some (20, 7) := rfl
theorem tm75 : (TTc ++ TTm)[75]? = some (20, 7) := rfl
theorem tm76 : (TTc ++ TTm)[76]? = some (20, 7) := rfl
theorem tm77 : (TTc ++ TTm)[77]? = some (20, 168) := rfl
theorem tm78 : (TTc ++ TTm)[78]? = some (20, 7) := rfl
theorem tm79 : (TTc ++ TTm)[79]? = some (20, 7) := rfl
theorem tm80 : (TTc ++ TTm)[80]? = some (20, 18) := rfl
theorem tm81 : (TTc ++ TTm)[81]? = some (20, 128) := rfl
theorem tm82 : (TTc ++ TTm)[82]? = some (20, 128) := rfl
theorem tm83 : (TTc ++ TTm)[83]? = some (20, 42) := rfl
theorem gg1_0 (G2 : Nat → Nat → Option Nat) : gj G2 1 0 = some 2 := rfl
theorem gg1_1 (G2 : Nat → Nat → Option Nat) : gj G2 1 1 = some 3 := rfl
theorem gg0_0 (G2 : Nat → Nat → Option Nat) : gj G2 0 0 = some 1 := rfl
theorem gg4_0 (G2 : Nat → Nat → Option Nat) : gj G2 4 0 = some 5 := rfl
theorem gg4_1 (G2 : Nat → Nat → Option Nat) : gj G2 4 1 = some 6 := rfl
theorem gg4_2 (G2 : Nat → Nat → Option Nat) : gj G2 4 2 = some 7 := rfl
theorem gg4_3 (G2 : Nat → Nat → Option Nat) : gj G2 4 3 = some 8 := rfl
theorem gg4_4 (G2 : Nat → Nat → Option Nat) : gj G2 4 4 = some 9 := rfl
theorem gg0_1 (G2 : Nat → Nat → Option Nat) : gj G2 0 1 = some 4 := rfl
theorem gg10_0 (G2 : Nat → Nat → Option Nat) : gj G2 10 0 = some 11 := rfl
theorem gg10_1 (G2 : Nat → Nat → Option Nat) : gj G2 10 1 = some 12 := rfl
theorem gg10_2 (G2 : Nat → Nat → Option Nat) : gj G2 10 2 = some 13 := rfl
theorem gg0_2 (G2 : Nat → Nat → Option Nat) : gj G2 0 2 = some 10 := rfl
theorem gg15_0 (G2 : Nat → Nat → Option Nat) : gj G2 15 0 = some 16 := rfl
theorem gg15_1 (G2 : Nat → Nat → Option Nat) : gj G2 15 1 = some 17 := rfl
theorem gg14_0 (G2 : Nat → Nat → Option Nat) : gj G2 14 0 = some 15 := rfl
theorem gg18_0 (G2 : Nat → Nat → Option Nat) : gj G2 18 0 = some 19 := rfl
theorem gg18_1 (G2 : Nat → Nat → Option Nat) : gj G2 18 1 = some 20 := rfl
theorem gg14_1 (G2 : Nat → Nat → Option Nat) : gj G2 14 1 = some 18 := rfl
theorem gg21_0 (G2 : Nat → Nat → Option Nat) : gj G2 21 0 = some 22 := rfl
theorem gg21_1 (G2 : Nat → Nat → Option Nat) : gj G2 21 1 = some 23 := rfl
theorem gg14_2 (G2 : Nat → Nat → Option Nat) : gj G2 14 2 = some 21 := rfl
theorem gg0_3 (G2 : Nat → Nat → Option Nat) : gj G2 0 3 = some 14 := rfl
theorem gg24_0 (G2 : Nat → Nat → Option Nat) : gj G2 24 0 = some 25 := rfl
theorem gg24_1 (G2 : Nat → Nat → Option Nat) : gj G2 24 1 = some 26 := rfl
theorem gg24_2 (G2 : Nat → Nat → Option Nat) : gj G2 24 2 = some 27 := rfl
theorem gg24_3 (G2 : Nat → Nat → Option Nat) : gj G2 24 3 = some 28 := rfl
theorem gg0_4 (G2 : Nat → Nat → Option Nat) : gj G2 0 4 = some 24 := rfl
theorem gg29_0 (G2 : Nat → Nat → Option Nat) : gj G2 29 0 = some 30 := rfl
theorem gg29_1 (G2 : Nat → Nat → Option Nat) : gj G2 29 1 = some 31 := rfl
theorem gg0_5 (G2 : Nat → Nat → Option Nat) : gj G2 0 5 = some 29 := rfl
theorem gg0_6 (G2 : Nat → Nat → Option Nat) : gj G2 0 6 = some 32 := rfl
theorem gg34_0 (G2 : Nat → Nat → Option Nat) : gj G2 34 0 = some 35 := rfl
theorem gg34_1 (G2 : Nat → Nat → Option Nat) : gj G2 34 1 = some 36 := rfl
theorem gg33_0 (G2 : Nat → Nat → Option Nat) : gj G2 33 0 = some 34 := rfl
theorem gg37_0 (G2 : Nat → Nat → Option Nat) : gj G2 37 0 = some 38 := rfl
theorem gg37_1 (G2 : Nat → Nat → Option Nat) : gj G2 37 1 = some 39 := rfl
theorem gg37_2 (G2 : Nat → Nat → Option Nat) : gj G2 37 2 = some 40 := rfl
theorem gg37_3 (G2 : Nat → Nat → Option Nat) : gj G2 37 3 = some 41 := rfl
theorem gg37_4 (G2 : Nat → Nat → Option Nat) : gj G2 37 4 = some 42 := rfl
theorem gg37_5 (G2 : Nat → Nat → Option Nat) : gj G2 37 5 = some 43 := rfl
theorem gg33_1 (G2 : Nat → Nat → Option Nat) : gj G2 33 1 = some 37 := rfl
theorem gg33_2 (G2 : Nat → Nat → Option Nat) : gj G2 33 2 = some 44 := rfl
theorem gg0_7 (G2 : Nat → Nat → Option Nat) : gj G2 0 7 = some 33 := rfl
theorem gg46_0 (G2 : Nat → Nat → Option Nat) : gj G2 46 0 = some 47 := rfl
theorem gg46_1 (G2 : Nat → Nat → Option Nat) : gj G2 46 1 = some 48 := rfl
theorem gg45_0 (G2 : Nat → Nat → Option Nat) : gj G2 45 0 = some 46 := rfl
theorem gg49_0 (G2 : Nat → Nat → Option Nat) : gj G2 49 0 = some 50 := rfl
theorem gg49_1 (G2 : Nat → Nat → Option Nat) : gj G2 49 1 = some 51 := rfl
theorem gg49_2 (G2 : Nat → Nat → Option Nat) : gj G2 49 2 = some 52 := rfl
theorem gg49_3 (G2 : Nat → Nat → Option Nat) : gj G2 49 3 = some 53 := rfl
theorem gg49_4 (G2 : Nat → Nat → Option Nat) : gj G2 49 4 = some 54 := rfl
theorem gg49_5 (G2 : Nat → Nat → Option Nat) : gj G2 49 5 = some 55 := rfl
theorem gg45_1 (G2 : Nat → Nat → Option Nat) : gj G2 45 1 = some 49 := rfl
theorem gg45_2 (G2 : Nat → Nat → Option Nat) : gj G2 45 2 = some 56 := rfl
theorem gg0_8 (G2 : Nat → Nat → Option Nat) : gj G2 0 8 = some 45 := rfl
theorem gm57_0 : gj gm 57 0 = some 58 := rfl
theorem gm57_2 : gj gm 57 2 = some 59 := rfl
theorem gm57_4 : gj gm 57 4 = some 60 := rfl
theorem gm57_5 : gj gm 57 5 = some 61 := rfl
theorem gm57_6 : gj gm 57 6 = some 62 := rfl
theorem gm57_8 : gj gm 57 8 = some 63 := rfl
theorem gm57_11 : gj gm 57 11 = some 64 := rfl
theorem gm57_12 : gj gm 57 12 = some 65 := rfl
theorem gm57_16 : gj gm 57 16 = some 66 := rfl
theorem gm57_17 : gj gm 57 17 = some 67 := rfl
theorem gm57_19 : gj gm 57 19 = some 68 := rfl
theorem gm57_21 : gj gm 57 21 = some 69 := rfl
theorem gm57_22 : gj gm 57 22 = some 70 := rfl
theorem gm57_24 : gj gm 57 24 = some 71 := rfl
theorem gm57_29 : gj gm 57 29 = some 72 := rfl
theorem gm57_30 : gj gm 57 30 = some 73 := rfl
theorem gm57_31 : gj gm 57 31 = some 74 := rfl
theorem gm57_32 : gj gm 57 32 = some 75 := rfl
theorem gm57_33 : gj gm 57 33 = some 76 := rfl
theorem gm57_34 : gj gm 57 34 = some 77 := rfl
theorem gm57_36 : gj gm 57 36 = some 78 := rfl
theorem gm57_37 : gj gm 57 37 = some 79 := rfl
theorem gm57_38 : gj gm 57 38 = some 80 := rfl
theorem gm57_40 : gj gm 57 40 = some 81 := rfl
theorem gm57_41 : gj gm 57 41 = some 82 := rfl
theorem gm57_42 : gj gm 57 42 = some 83 := rfl
theorem vp_lit {i : Int32} {n : Nat} (h1 : ¬ i < 0) (h2 : i.toNatClampNeg < n) : vp_in i n := fun h => h.elim h1 (fun q => Nat.not_le.mpr h2 q)
theorem w_lt (a b : Int32) : a.toInt64 < b.toInt64 ↔ a < b := by
  rw [Int64.lt_iff_toInt_lt, Int32.lt_iff_toInt_lt, Int32.toInt_toInt64, Int32.toInt_toInt64]
theorem in_lt {a b : Int32} {x y : Int64} (hx : a.toInt64 = x) (hy : b.toInt64 = y) : lg_cmp x y < 0 ↔ a < b := by rw [lg_cmp_lt, ← hx, ← hy, w_lt]
theorem in_gt {a b : Int32} {x y : Int64} (hx : a.toInt64 = x) (hy : b.toInt64 = y) : 0 < lg_cmp x y ↔ b < a := by rw [lg_cmp_gt, ← hx, ← hy, w_lt]
section TRI
variable {X : CX} {md : MD} {Q : State → Prop} {pc : Nat} {L : List (Nat × Value)} {S rest : List Value} {M : Mem} {G : Grf} {T : List (Nat × Nat)}
theorem wt_getI (C : Ok X md) {idx ci N j a : Nat} {fin : Bool} {ty : FieldType} (d : decode md.2.1 pc = .ok (.getfield idx, 3)) (f : FL md.1.cls idx ci N j fin ty) (hT : T[a]? = some (ci, N)) (hr : rfB ci j = false) (k : WW X Q (pc + 3) L (.int (M a j) :: S) (M, G, T)) : WW X Q pc L (.ref a :: S) (M, G, T) := ww_getI C d f hT hr k
theorem wt_getR (C : Ok X md) {idx ci N j a r : Nat} {fin : Bool} {ty : FieldType} (d : decode md.2.1 pc = .ok (.getfield idx, 3)) (f : FL md.1.cls idx ci N j fin ty) (hT : T[a]? = some (ci, N)) (hr : rfB ci j = true) (hg : G a j = some r) (k : WW X Q (pc + 3) L (.ref r :: S) (M, G, T)) : WW X Q pc L (.ref a :: S) (M, G, T) := ww_getR C d f hT hr hg k
theorem wt_putI (C : Ok X md) {idx ci N j a : Nat} {x : Int32} (d : decode md.2.1 pc = .ok (.putfield idx, 3)) (f : FL md.1.cls idx ci N j false .int) (hT : T[a]? = some (ci, N)) (hr : rfB ci j = false) (k : WW X Q (pc + 3) L S (wr M a j x, G, T)) : WW X Q pc L (.int x :: .ref a :: S) (M, G, T) := ww_putI C d f hT hr k
theorem wt_putZ (C : Ok X md) {idx ci N j a : Nat} {x : Int32} (d : decode md.2.1 pc = .ok (.putfield idx, 3)) (f : FL md.1.cls idx ci N j false .boolean) (hT : T[a]? = some (ci, N)) (hr : rfB ci j = false) (hx : x = 0 ∨ x = 1) (k : WW X Q (pc + 3) L S (wr M a j x, G, T)) : WW X Q pc L (.int x :: .ref a :: S) (M, G, T) := ww_putZ C d f hT hr hx k
theorem wt_putR (C : Ok X md) {idx ci N j a r : Nat} {ty : FieldType} (d : decode md.2.1 pc = .ok (.putfield idx, 3)) (f : FL md.1.cls idx ci N j false ty) (hn : ∀ q, narrow ty (.ref q) = .ref q ∧ fits ty (.ref q) = true) (hT : T[a]? = some (ci, N)) (hr : rfB ci j = true) (hlt : r < T.length) (k : WW X Q (pc + 3) L S (M, wrG G a j (some r), T)) : WW X Q pc L (.ref r :: .ref a :: S) (M, G, T) := ww_putR C d f hn hT hr hlt k
theorem wt_iald (C : Ok X md) {a n : Nat} {i : Int32} (d : decode md.2.1 pc = .ok (.iaload, 1)) (hT : T[a]? = some (20, n)) (hi : vp_in i n) (k : WW X Q (pc + 1) L (.int (M a i.toNatClampNeg) :: S) (M, G, T)) : WW X Q pc L (.int i :: .ref a :: S) (M, G, T) := ww_iald C d hT hi k
theorem wt_cald (C : Ok X md) {a n : Nat} {i : Int32} (d : decode md.2.1 pc = .ok (.caload, 1)) (hT : T[a]? = some (21, n)) (hi : vp_in i n) (k : WW X Q (pc + 1) L (.int (M a i.toNatClampNeg) :: S) (M, G, T)) : WW X Q pc L (.int i :: .ref a :: S) (M, G, T) := ww_cald C d hT hi k
theorem wt_iast (C : Ok X md) {a n : Nat} {i x : Int32} (d : decode md.2.1 pc = .ok (.iastore, 1)) (hT : T[a]? = some (20, n)) (hi : vp_in i n) (k : WW X Q (pc + 1) L S (wr M a i.toNatClampNeg x, G, T)) : WW X Q pc L (.int x :: .int i :: .ref a :: S) (M, G, T) := ww_iast C d hT hi k
theorem wt_cast (C : Ok X md) {a n : Nat} {i x : Int32} (d : decode md.2.1 pc = .ok (.castore, 1)) (hT : T[a]? = some (21, n)) (hi : vp_in i n) (k : WW X Q (pc + 1) L S (wr M a i.toNatClampNeg (vp_nar .char x), G, T)) : WW X Q pc L (.int x :: .int i :: .ref a :: S) (M, G, T) := ww_cast C d hT hi k
theorem wt_alen {tg : Nat} (C : Ok X md) {a n : Nat} {v : Int32} (d : decode md.2.1 pc = .ok (.arraylength, 1)) (hT : T[a]? = some (tg, n)) (ht : tg = 20 ∨ tg = 21) (hv : Int32.ofNat n = v) (k : WW X Q (pc + 1) L (.int v :: S) (M, G, T)) : WW X Q pc L (.ref a :: S) (M, G, T) := ww_alen C d hT ht hv k
theorem wt_aald (C : Ok X md) {a n r : Nat} {i : Int32} (d : decode md.2.1 pc = .ok (.aaload, 1)) (hT : T[a]? = some (22, n)) (hi : vp_in i n) (hg : G a i.toNatClampNeg = some r) (k : WW X Q (pc + 1) L (.ref r :: S) (M, G, T)) : WW X Q pc L (.int i :: .ref a :: S) (M, G, T) := ww_aald C d hT hi hg k
theorem wt_acopy (C : Ok X md) {idx a0 a1 n0 n1 : Nat} {sp dp n : Int32} (hl : Cond.methodLink md.1.cls idx arraycopyName ∈ GW) (hnat : Cond.native arraycopyName ∈ GW) (hst : Cond.static arraycopyName ∈ GW) (hini : Cond.initialized "java/lang/System" ∈ GW) (d : decode md.2.1 pc = .ok (.invokestatic idx, 3)) (h0 : T[a0]? = some (20, n0)) (h1 : T[a1]? = some (20, n1)) (c1 : ¬ sp < 0) (c2 : ¬ dp < 0) (c3 : ¬ n < 0) (c4 : sp.toNatClampNeg + n.toNatClampNeg ≤ n0) (c5 : dp.toNatClampNeg + n.toNatClampNeg ≤ n1) (hfr : 1 ≤ md.2.2.2.2.1) (hlo : (rest.map fun v => v.category).sum + (nativeFrameWords "java/lang/System" "arraycopy" 5 + 11) ≤ md.2.2.2.2.2)
    (k : WW X Q (pc + 3) L rest (wrA M a1 (va_cpy (M a0) (M a1) sp.toNatClampNeg dp.toNatClampNeg n.toNatClampNeg), G, T)) : WW X Q pc L (.int n :: .int dp :: .ref a1 :: .int sp :: .ref a0 :: rest) (M, G, T) := ww_acopy C hl hnat hst hini d h0 h1 c1 c2 c3 c4 c5 hfr hlo k
end TRI
