/-! The constructors. -/
theorem kCnt {t : List QRow} {N : Int} {M : QMem} {E : List (Int × Int × Int)} : 0 ≤ (kH t N M E).1.1 := Int.natCast_nonneg _
theorem kCnt2 {t : List QRow} : (0 : Int) ≤ (t.length : Int) := Int.natCast_nonneg _
theorem kLen {p s : List QRow} {r : QRow} {N : Int} {M : QMem} {E : List (Int × Int × Int)} {c v : Int} (hc : (p.length : Int) = c) (hv : v = c + 1 + (s.length : Int)) : (kH (p ++ (r :: s)) N M E).1.1 = v := by
  show ((p ++ (r :: s)).length : Int) = v
  rw [List.length_append]; show ((p.length + (s.length + 1) : Nat) : Int) = v; omega
theorem kSh_at2 {p s q : List QRow} {r : QRow} {c : Int} (hc : (p.length : Int) = c) : kSh ((p ++ (r :: s)) ++ q) c = r.1 := by
  rw [List.append_assoc]; exact kSh_at hc
theorem kPut2 {p s q : List QRow} {sh : Nat × Int} {l : List Int} {N : Int} {M : QMem} {E : List (Int × Int × Int)} {c x v : Int} (j : Nat) (hc : (p.length : Int) = c) (hj : j < l.length) (hx : x = v) : qputf (kH ((p ++ ((sh, l) :: s)) ++ q) N M E) 2 c (j : Int) x = kH (p ++ ((sh, l.set j v) :: (s ++ q))) N M E := by
  rw [List.append_assoc, hx]; exact kPut j hc hj
theorem kObj {X : QX} {d mc ms : Nat} {y : MethodName} {P : Int → QH → Prop} {p s : List QRow} {r : QRow} {N : Int} {M : QMem} {E : List (Int × Int × Int)} {k : Nat} {n c v : Int} (w : List Int) (hw : ∀ j : Nat, qnth w j (-1) = -1) (hc : (p.length : Int) = c) (hv : v = c + 1 + (s.length : Int)) (hE : ∀ e ∈ E, e.1 < v) (hN : N ≤ v) (hq : QC X d mc ms 0 y [(2, v)] (kH ((p ++ (r :: s)) ++ [((k, n), w)]) N M E) P) : QC X d mc ms 0 y ((2, (kH (p ++ (r :: s)) N M E).1.1) :: []) (qnew (kH (p ++ (r :: s)) N M E) k n) P := by
  have hl : ((p ++ (r :: s)).length : Int) = v := kLen (N := N) (M := M) (E := E) hc hv
  rw [kLen hc hv]
  exact QC.heq (kNew w hw (by rw [hl]; exact hE) (by rw [hl]; exact hN)) hq
section Ctor
variable {X : QX} {d : Nat} {post : Int → QH → Prop} {p : List QRow} {c N : Int} {M : QMem} {E : List (Int × Int × Int)}
def trLaw (c : Int) : List QRow := ((2, 3), [c + 1, c + 2, -1]) :: ([] ++ [((100, 900), [])] ++ [((100, 32), [])])
theorem k_Law (hc : (p.length : Int) = c) (hE : ∀ e ∈ E, e.1 < c + 1) (hN : N ≤ c) (hp : post 0 (kH (p ++ trLaw c) N M (E))) : QC X (d + 1) 2 932 0 yX2_init [(2, c)] (kH (p ++ [((2, 3), [-1, -1, -1])]) N M E) post := by
  have hc0 : 0 ≤ c := (by omega)
  refine QC.of qmX2_init_ok rfl ?_
  refine qwp_ok qmX2_init_ok.1 [(13, [0])] 12 ⟨hc0, (by decide), (by decide), kCnt, kAdd_sh hc, ?_⟩
  refine QR.heq (kAdd 0 [] (c + 1) kNil hc (show c + 1 = c + 1 + ((0 : Nat) : Int) by omega) (by show 0 < 3; decide) (kE hE (by omega)) (by omega)) ?_
  refine qwp_ok qmX2_init_ok.1 [(21, [0])] 12 ⟨(by decide), (by decide), kCnt, kAdd_sh hc, ?_⟩
  refine QR.heq (kAdd 1 [] (c + 2) kNil hc (show c + 2 = c + 1 + ((1 : Nat) : Int) by omega) (by show 1 < 3; decide) (kE hE (by omega)) (by omega)) ?_
  exact qwp_ok qmX2_init_ok.1 [] 3 hp
def trState (c : Int) : List QRow := ((6, 12), [c + 1, c + 2, c + 3, c + 4, c + 5, c + 6, -1, c + 7, c + 8, c + 9, -1, -1]) :: ([] ++ [((100, 6), [])] ++ [((100, 6), [])] ++ [((100, 96), [])] ++ [((100, 96), [])] ++ [((100, 36), [])] ++ [((100, 36), [])] ++ [((100, 8), [])] ++ [((100, 8), [])] ++ [((100, 8), [])])
theorem k_State (hc : (p.length : Int) = c) (hE : ∀ e ∈ E, e.1 < c + 1) (hN : N ≤ c) (hp : post 0 (kH (p ++ trState c) N M (E))) : QC X (d + 1) 9 300 0 yX6_init [(2, c)] (kH (p ++ [((6, 12), [-1, -1, -1, -1, -1, -1, -1, -1, -1, -1, -1, -1])]) N M E) post := by
  have hc0 : 0 ≤ c := (by omega)
  refine QC.of qmX6_init_ok rfl ?_
  refine qwp_ok qmX6_init_ok.1 [(12, [0])] 12 ⟨hc0, (by decide), (by decide), kCnt, kAdd_sh hc, ?_⟩
  refine QR.heq (kAdd 0 [] (c + 1) kNil hc (show c + 1 = c + 1 + ((0 : Nat) : Int) by omega) (by show 0 < 12; decide) (kE hE (by omega)) (by omega)) ?_
  refine qwp_ok qmX6_init_ok.1 [(20, [0])] 12 ⟨(by decide), (by decide), kCnt, kAdd_sh hc, ?_⟩
  refine QR.heq (kAdd 1 [] (c + 2) kNil hc (show c + 2 = c + 1 + ((1 : Nat) : Int) by omega) (by show 1 < 12; decide) (kE hE (by omega)) (by omega)) ?_
  refine qwp_ok qmX6_init_ok.1 [(28, [0])] 12 ⟨(by decide), (by decide), kCnt, kAdd_sh hc, ?_⟩
  refine QR.heq (kAdd 2 [] (c + 3) kNil hc (show c + 3 = c + 1 + ((2 : Nat) : Int) by omega) (by show 2 < 12; decide) (kE hE (by omega)) (by omega)) ?_
  refine qwp_ok qmX6_init_ok.1 [(36, [0])] 12 ⟨(by decide), (by decide), kCnt, kAdd_sh hc, ?_⟩
  refine QR.heq (kAdd 3 [] (c + 4) kNil hc (show c + 4 = c + 1 + ((3 : Nat) : Int) by omega) (by show 3 < 12; decide) (kE hE (by omega)) (by omega)) ?_
  refine qwp_ok qmX6_init_ok.1 [(44, [0])] 12 ⟨(by decide), (by decide), kCnt, kAdd_sh hc, ?_⟩
  refine QR.heq (kAdd 4 [] (c + 5) kNil hc (show c + 5 = c + 1 + ((4 : Nat) : Int) by omega) (by show 4 < 12; decide) (kE hE (by omega)) (by omega)) ?_
  refine qwp_ok qmX6_init_ok.1 [(52, [0])] 12 ⟨(by decide), (by decide), kCnt, kAdd_sh hc, ?_⟩
  refine QR.heq (kAdd 5 [] (c + 6) kNil hc (show c + 6 = c + 1 + ((5 : Nat) : Int) by omega) (by show 5 < 12; decide) (kE hE (by omega)) (by omega)) ?_
  refine qwp_ok qmX6_init_ok.1 [(60, [0])] 12 ⟨(by decide), (by decide), kCnt, kAdd_sh hc, ?_⟩
  refine QR.heq (kAdd 7 [] (c + 7) kNil hc (show c + 7 = c + 1 + ((6 : Nat) : Int) by omega) (by show 7 < 12; decide) (kE hE (by omega)) (by omega)) ?_
  refine qwp_ok qmX6_init_ok.1 [(68, [0])] 12 ⟨(by decide), (by decide), kCnt, kAdd_sh hc, ?_⟩
  refine QR.heq (kAdd 8 [] (c + 8) kNil hc (show c + 8 = c + 1 + ((7 : Nat) : Int) by omega) (by show 8 < 12; decide) (kE hE (by omega)) (by omega)) ?_
  refine qwp_ok qmX6_init_ok.1 [(76, [0])] 12 ⟨(by decide), (by decide), kCnt, kAdd_sh hc, ?_⟩
  refine QR.heq (kAdd 9 [] (c + 9) kNil hc (show c + 9 = c + 1 + ((8 : Nat) : Int) by omega) (by show 9 < 12; decide) (kE hE (by omega)) (by omega)) ?_
  exact qwp_ok qmX6_init_ok.1 [] 3 hp
def trTokens (c : Int) : List QRow := ((7, 8), [c + 1, c + 2, c + 3, -1, -1, -1, -1, -1]) :: ([] ++ [((100, 901), [])] ++ [((100, 901), [])] ++ [((100, 901), [])])
theorem k_Tokens (hc : (p.length : Int) = c) (hE : ∀ e ∈ E, e.1 < c + 1) (hN : N ≤ c) (hp : post 0 (kH (p ++ trTokens c) N M (E))) : QC X (d + 1) 3 2703 0 yX7_init [(2, c)] (kH (p ++ [((7, 8), [-1, -1, -1, -1, -1, -1, -1, -1])]) N M E) post := by
  have hc0 : 0 ≤ c := (by omega)
  refine QC.of qmX7_init_ok rfl ?_
  refine qwp_ok qmX7_init_ok.1 [(13, [0])] 12 ⟨hc0, (by decide), (by decide), kCnt, kAdd_sh hc, ?_⟩
  refine QR.heq (kAdd 0 [] (c + 1) kNil hc (show c + 1 = c + 1 + ((0 : Nat) : Int) by omega) (by show 0 < 8; decide) (kE hE (by omega)) (by omega)) ?_
  refine qwp_ok qmX7_init_ok.1 [(22, [0])] 12 ⟨(by decide), (by decide), kCnt, kAdd_sh hc, ?_⟩
  refine QR.heq (kAdd 1 [] (c + 2) kNil hc (show c + 2 = c + 1 + ((1 : Nat) : Int) by omega) (by show 1 < 8; decide) (kE hE (by omega)) (by omega)) ?_
  refine qwp_ok qmX7_init_ok.1 [(31, [0])] 12 ⟨(by decide), (by decide), kCnt, kAdd_sh hc, ?_⟩
  refine QR.heq (kAdd 2 [] (c + 3) kNil hc (show c + 3 = c + 1 + ((2 : Nat) : Int) by omega) (by show 2 < 8; decide) (kE hE (by omega)) (by omega)) ?_
  exact qwp_ok qmX7_init_ok.1 [] 3 hp
def trTray (c : Int) : List QRow := ((8, 3), [c + 1, -1, -1]) :: ([] ++ [((101, 40), [])])
theorem k_Tray (hc : (p.length : Int) = c) (hE : ∀ e ∈ E, e.1 < c + 1) (hN : N ≤ c) (hp : post 0 (kH (p ++ trTray c) N M ((c, 2, -1) :: E))) : QC X (d + 1) 1 40 0 yX8_init [(2, c)] (kH (p ++ [((8, 3), [-1, -1, -1])]) N M E) post := by
  have hc0 : 0 ≤ c := (by omega)
  refine QC.of qmX8_init_ok rfl ?_
  refine qwp_ok qmX8_init_ok.1 [(12, [0])] 12 ⟨hc0, (by decide), (by decide), kCnt, kAdd_sh hc, ?_⟩
  refine QR.heq (kAdd 0 [] (c + 1) kNil hc (show c + 1 = c + 1 + ((0 : Nat) : Int) by omega) (by show 0 < 3; decide) (kE hE (by omega)) (by omega)) ?_
  refine qwp_ok qmX8_init_ok.1 [(17, [0])] 12 ⟨congrArg Prod.fst (kSh_at hc), ?_⟩
  refine QR.heq (kNum (a := c) (j := 2) (x := -1) hN) ?_
  have hE1 := kE.cons (j := 2) (v := -1) hE (show c < c + 1 by omega)
  exact qwp_ok qmX8_init_ok.1 [] 3 hp
def trWays (c : Int) : List QRow := ((9, 17), [c + 1, c + 2, c + 3, c + 4, c + 5, c + 6, c + 7, c + 8, c + 9, -1, -1, -1, -1, -1, -1, -1, -1]) :: ([] ++ [((100, 36), [])] ++ [((100, 36), [])] ++ [((101, 36), [])] ++ [((101, 36), [])] ++ [((100, 36), [])] ++ [((101, 36), [])] ++ [((101, 36), [])] ++ [((100, 36), [])] ++ [((100, 144), [])])
theorem k_Ways (hc : (p.length : Int) = c) (hE : ∀ e ∈ E, e.1 < c + 1) (hN : N ≤ c) (hp : post 0 (kH (p ++ trWays c) N M ((c, 10, 1) :: E))) : QC X (d + 1) 9 432 0 yX9_init [(2, c)] (kH (p ++ [((9, 17), [-1, -1, -1, -1, -1, -1, -1, -1, -1, -1, -1, -1, -1, -1, -1, -1, -1])]) N M E) post := by
  have hc0 : 0 ≤ c := (by omega)
  refine QC.of qmX9_init_ok rfl ?_
  refine qwp_ok qmX9_init_ok.1 [(12, [0])] 12 ⟨hc0, (by decide), (by decide), kCnt, kAdd_sh hc, ?_⟩
  refine QR.heq (kAdd 0 [] (c + 1) kNil hc (show c + 1 = c + 1 + ((0 : Nat) : Int) by omega) (by show 0 < 17; decide) (kE hE (by omega)) (by omega)) ?_
  refine qwp_ok qmX9_init_ok.1 [(20, [0])] 12 ⟨(by decide), (by decide), kCnt, kAdd_sh hc, ?_⟩
  refine QR.heq (kAdd 1 [] (c + 2) kNil hc (show c + 2 = c + 1 + ((1 : Nat) : Int) by omega) (by show 1 < 17; decide) (kE hE (by omega)) (by omega)) ?_
  refine qwp_ok qmX9_init_ok.1 [(28, [0])] 12 ⟨(by decide), (by decide), kCnt, kAdd_sh hc, ?_⟩
  refine QR.heq (kAdd 2 [] (c + 3) kNil hc (show c + 3 = c + 1 + ((2 : Nat) : Int) by omega) (by show 2 < 17; decide) (kE hE (by omega)) (by omega)) ?_
  refine qwp_ok qmX9_init_ok.1 [(36, [0])] 12 ⟨(by decide), (by decide), kCnt, kAdd_sh hc, ?_⟩
  refine QR.heq (kAdd 3 [] (c + 4) kNil hc (show c + 4 = c + 1 + ((3 : Nat) : Int) by omega) (by show 3 < 17; decide) (kE hE (by omega)) (by omega)) ?_
  refine qwp_ok qmX9_init_ok.1 [(44, [0])] 12 ⟨(by decide), (by decide), kCnt, kAdd_sh hc, ?_⟩
  refine QR.heq (kAdd 4 [] (c + 5) kNil hc (show c + 5 = c + 1 + ((4 : Nat) : Int) by omega) (by show 4 < 17; decide) (kE hE (by omega)) (by omega)) ?_
  refine qwp_ok qmX9_init_ok.1 [(52, [0])] 12 ⟨(by decide), (by decide), kCnt, kAdd_sh hc, ?_⟩
  refine QR.heq (kAdd 5 [] (c + 6) kNil hc (show c + 6 = c + 1 + ((5 : Nat) : Int) by omega) (by show 5 < 17; decide) (kE hE (by omega)) (by omega)) ?_
  refine qwp_ok qmX9_init_ok.1 [(60, [0])] 12 ⟨(by decide), (by decide), kCnt, kAdd_sh hc, ?_⟩
  refine QR.heq (kAdd 6 [] (c + 7) kNil hc (show c + 7 = c + 1 + ((6 : Nat) : Int) by omega) (by show 6 < 17; decide) (kE hE (by omega)) (by omega)) ?_
  refine qwp_ok qmX9_init_ok.1 [(68, [0])] 12 ⟨(by decide), (by decide), kCnt, kAdd_sh hc, ?_⟩
  refine QR.heq (kAdd 7 [] (c + 8) kNil hc (show c + 8 = c + 1 + ((7 : Nat) : Int) by omega) (by show 7 < 17; decide) (kE hE (by omega)) (by omega)) ?_
  refine qwp_ok qmX9_init_ok.1 [(77, [0])] 12 ⟨(by decide), (by decide), kCnt, kAdd_sh hc, ?_⟩
  refine QR.heq (kAdd 8 [] (c + 9) kNil hc (show c + 9 = c + 1 + ((8 : Nat) : Int) by omega) (by show 8 < 17; decide) (kE hE (by omega)) (by omega)) ?_
  refine qwp_ok qmX9_init_ok.1 [(82, [0])] 12 ⟨congrArg Prod.fst (kSh_at hc), ?_⟩
  refine QR.heq (kNum (a := c) (j := 10) (x := 1) hN) ?_
  have hE1 := kE.cons (j := 10) (v := 1) hE (show c < c + 1 by omega)
  exact qwp_ok qmX9_init_ok.1 [] 3 hp
def trPiles (c : Int) : List QRow := ((4, 4), [c + 1, c + 2, c + 3, -1]) :: ([] ++ [((100, 6), [])] ++ [((100, 36), [])] ++ [((100, 64), [])])
theorem k_Piles (hc : (p.length : Int) = c) (hE : ∀ e ∈ E, e.1 < c + 1) (hN : N ≤ c) (hp : post 0 (kH (p ++ trPiles c) N M (E))) : QC X (d + 1) 3 106 0 yX4_init [(2, c)] (kH (p ++ [((4, 4), [-1, -1, -1, -1])]) N M E) post := by
  have hc0 : 0 ≤ c := (by omega)
  refine QC.of qmX4_init_ok rfl ?_
  refine qwp_ok qmX4_init_ok.1 [(12, [0])] 12 ⟨hc0, (by decide), (by decide), kCnt, kAdd_sh hc, ?_⟩
  refine QR.heq (kAdd 0 [] (c + 1) kNil hc (show c + 1 = c + 1 + ((0 : Nat) : Int) by omega) (by show 0 < 4; decide) (kE hE (by omega)) (by omega)) ?_
  refine qwp_ok qmX4_init_ok.1 [(20, [0])] 12 ⟨(by decide), (by decide), kCnt, kAdd_sh hc, ?_⟩
  refine QR.heq (kAdd 1 [] (c + 2) kNil hc (show c + 2 = c + 1 + ((1 : Nat) : Int) by omega) (by show 1 < 4; decide) (kE hE (by omega)) (by omega)) ?_
  refine qwp_ok qmX4_init_ok.1 [(28, [0])] 12 ⟨(by decide), (by decide), kCnt, kAdd_sh hc, ?_⟩
  refine QR.heq (kAdd 2 [] (c + 3) kNil hc (show c + 3 = c + 1 + ((2 : Nat) : Int) by omega) (by show 2 < 4; decide) (kE hE (by omega)) (by omega)) ?_
  exact qwp_ok qmX4_init_ok.1 [] 3 hp
def trLand (c : Int) : List QRow := ((1, 12), [-1, -1, -1, -1, -1, -1, -1, c + 1, c + 2, c + 3, c + 4, c + 7]) :: ([] ++ [((100, 36), [])] ++ [((100, 6), [])] ++ [((100, 6), [])] ++ trLaw (c + 4) ++ trLaw (c + 7))
theorem k_Land (hc : (p.length : Int) = c) (hE : ∀ e ∈ E, e.1 < c + 1) (hN : N ≤ c) (hp : post 0 (kH (p ++ trLand c) N M ((c, 1, 2) :: (c, 0, 2) :: E))) : QC X (d + 2) 9 1918 0 yX1_init [(2, c)] (kH (p ++ [((1, 12), [-1, -1, -1, -1, -1, -1, -1, -1, -1, -1, -1, -1])]) N M E) post := by
  have hc0 : 0 ≤ c := (by omega)
  refine QC.of qmX1_init_ok rfl ?_
  refine qwp_ok qmX1_init_ok.1 [(9, [0])] 12 ⟨hc0, congrArg Prod.fst (kSh_at hc), ?_⟩
  refine QR.heq (kNum (a := c) (j := 0) (x := 2) hN) ?_
  have hE1 := kE.cons (j := 0) (v := 2) hE (show c < c + 1 by omega)
  refine qwp_ok qmX1_init_ok.1 [(14, [0])] 12 ⟨congrArg Prod.fst (kSh_at hc), ?_⟩
  refine QR.heq (kNum (a := c) (j := 1) (x := 2) hN) ?_
  have hE2 := kE.cons (j := 1) (v := 2) hE1 (show c < c + 1 by omega)
  refine qwp_ok qmX1_init_ok.1 [(22, [0])] 12 ⟨(by decide), (by decide), kCnt, kAdd_sh hc, ?_⟩
  refine QR.heq (kAdd 7 [] (c + 1) kNil hc (show c + 1 = c + 1 + ((0 : Nat) : Int) by omega) (by show 7 < 12; decide) (kE hE2 (by omega)) (by omega)) ?_
  refine qwp_ok qmX1_init_ok.1 [(30, [0])] 12 ⟨(by decide), (by decide), kCnt, kAdd_sh hc, ?_⟩
  refine QR.heq (kAdd 8 [] (c + 2) kNil hc (show c + 2 = c + 1 + ((1 : Nat) : Int) by omega) (by show 8 < 12; decide) (kE hE2 (by omega)) (by omega)) ?_
  refine qwp_ok qmX1_init_ok.1 [(38, [0])] 12 ⟨(by decide), (by decide), kCnt, kAdd_sh hc, ?_⟩
  refine QR.heq (kAdd 9 [] (c + 3) kNil hc (show c + 3 = c + 1 + ((2 : Nat) : Int) by omega) (by show 9 < 12; decide) (kE hE2 (by omega)) (by omega)) ?_
  refine qwp_ok qmX1_init_ok.1 [(49, [0])] 12 ⟨kCnt2, kCnt2, kObj [-1, -1, -1] (kRep 3) hc (show c + 4 = c + 1 + ((3 : Nat) : Int) by omega) (kE hE2 (by omega)) (by omega) (k_Law (kLen (N := N) (M := M) (E := E) hc (show c + 4 = c + 1 + ((3 : Nat) : Int) by omega)) (kE hE2 (by omega)) (by omega) ⟨congrArg Prod.fst (kSh_at2 hc), ?_⟩)⟩
  refine QR.heq (kPut2 10 hc (by show 10 < 12; decide) (kLen (N := N) (M := M) (E := E) hc (show c + 4 = c + 1 + ((3 : Nat) : Int) by omega))) ?_
  refine qwp_ok qmX1_init_ok.1 [(60, [0])] 12 ⟨kCnt2, kCnt2, kObj [-1, -1, -1] (kRep 3) hc (show c + 7 = c + 1 + ((6 : Nat) : Int) by omega) (kE hE2 (by omega)) (by omega) (k_Law (kLen (N := N) (M := M) (E := E) hc (show c + 7 = c + 1 + ((6 : Nat) : Int) by omega)) (kE hE2 (by omega)) (by omega) ⟨congrArg Prod.fst (kSh_at2 hc), ?_⟩)⟩
  refine QR.heq (kPut2 11 hc (by show 11 < 12; decide) (kLen (N := N) (M := M) (E := E) hc (show c + 7 = c + 1 + ((6 : Nat) : Int) by omega))) ?_
  exact qwp_ok qmX1_init_ok.1 [] 3 hp
def trImage (c : Int) : List QRow := ((0, 3), [-1, c + 1, c + 11]) :: ([] ++ trLand (c + 1) ++ trState (c + 11))
theorem k_Image (hc : (p.length : Int) = c) (hE : ∀ e ∈ E, e.1 < c + 1) (hN : N ≤ c) (hp : post 0 (kH (p ++ trImage c) N M ((c + 1, 1, 2) :: (c + 1, 0, 2) :: E))) : QC X (d + 3) 20 2242 0 yX0_init [(2, c)] (kH (p ++ [((0, 3), [-1, -1, -1])]) N M E) post := by
  have hc0 : 0 ≤ c := (by omega)
  refine QC.of qmX0_init_ok rfl ?_
  refine qwp_ok qmX0_init_ok.1 [(15, [0])] 12 ⟨hc0, kCnt2, kCnt2, kObj [-1, -1, -1, -1, -1, -1, -1, -1, -1, -1, -1, -1] (kRep 12) hc (show c + 1 = c + 1 + ((0 : Nat) : Int) by omega) (kE hE (by omega)) (by omega) (k_Land (kLen (N := N) (M := M) (E := E) hc (show c + 1 = c + 1 + ((0 : Nat) : Int) by omega)) (kE hE (by omega)) (by omega) ⟨congrArg Prod.fst (kSh_at2 hc), ?_⟩)⟩
  refine QR.heq (kPut2 1 hc (by show 1 < 3; decide) (kLen (N := N) (M := M) (E := E) hc (show c + 1 = c + 1 + ((0 : Nat) : Int) by omega))) ?_
  have hE1 : ∀ e ∈ (c + 1, 1, 2) :: (c + 1, 0, 2) :: E, e.1 < c + 11 := kE.cons (kE.cons (kE hE (by omega)) (by omega)) (by omega)
  refine qwp_ok qmX0_init_ok.1 [(26, [0])] 12 ⟨kCnt2, kCnt2, kObj [-1, -1, -1, -1, -1, -1, -1, -1, -1, -1, -1, -1] (kRep 12) hc (show c + 11 = c + 1 + ((10 : Nat) : Int) by omega) (kE hE1 (by omega)) (by omega) (k_State (kLen (N := N) (M := M) (E := E) hc (show c + 11 = c + 1 + ((10 : Nat) : Int) by omega)) (kE hE1 (by omega)) (by omega) ⟨congrArg Prod.fst (kSh_at2 hc), ?_⟩)⟩
  refine QR.heq (kPut2 2 hc (by show 2 < 3; decide) (kLen (N := N) (M := M) (E := E) hc (show c + 11 = c + 1 + ((10 : Nat) : Int) by omega))) ?_
  exact qwp_ok qmX0_init_ok.1 [] 3 hp
end Ctor
