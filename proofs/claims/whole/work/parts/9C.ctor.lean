theorem QR.top {X : QX} {d : Nat} {mx : Nat × Nat} {m : QMeth} {post : Int → QH → Prop} {cs : Nat × Nat} {pc k : Nat} {lv : List (Nat × QV)} {st : List QV} {h : QH} {a b : Int} (e : a = b) (g : QR X d mx m post cs pc lv ((k, b) :: st) h) : QR X d mx m post cs pc lv ((k, a) :: st) h := e ▸ g
theorem kSh_1 {p s : List QRow} {r r1 : QRow} {c : Int} (hc : (p.length : Int) = c) : kSh (p ++ (r :: (r1 :: s))) (c + 1) = r1.1 := by
  have e : p ++ (r :: (r1 :: s)) = (p ++ [r]) ++ (r1 :: s) := List.append_cons p r (r1 :: s)
  rw [e]; exact kSh_at (by rw [List.length_append]; show ((p.length + 1 : Nat) : Int) = c + 1; omega)
theorem kRf_1 {p s : List QRow} {r r1 : QRow} {c : Int} (hc : (p.length : Int) = c) (j : Nat) : kRf (p ++ (r :: (r1 :: s))) (c + 1) (j : Int) = qnth r1.2 j (-1) := by
  have e : p ++ (r :: (r1 :: s)) = (p ++ [r]) ++ (r1 :: s) := List.append_cons p r (r1 :: s)
  rw [e]; exact kRf_at (by rw [List.length_append]; show ((p.length + 1 : Nat) : Int) = c + 1; omega) j
theorem kSh_2 {p s q : List QRow} {r r1 : QRow} {c : Int} (hc : (p.length : Int) = c) : kSh ((p ++ (r :: (r1 :: s))) ++ q) (c + 1) = r1.1 := by
  rw [List.append_assoc]; exact kSh_1 hc
theorem kLt {t : List QRow} {a i n : Int} {k : Nat} (h : kSh t a = (k, n)) (hi : i < n) : i < (kSh t a).2 := by rw [h]; exact hi
theorem kPutA {p s q : List QRow} {r : QRow} {sh : Nat × Int} {l : List Int} {N : Int} {M : QMem} {E : List (Int × Int × Int)} {c x v : Int} (j : Nat) (hc : (p.length : Int) = c) (hj : j < l.length) (hx : x = v) : qputf (kH ((p ++ (r :: ((sh, l) :: s))) ++ q) N M E) 2 (c + 1) (j : Int) x = kH (p ++ (r :: ((sh, l.set j v) :: (s ++ q)))) N M E := by
  have e : ∀ z : List QRow, p ++ (r :: z) = (p ++ [r]) ++ z := fun z => List.append_cons p r z
  rw [List.append_assoc, hx]
  show qputf (kH (p ++ (r :: ((sh, l) :: (s ++ q)))) N M E) 2 (c + 1) (j : Int) v = _
  rw [e ((sh, l) :: (s ++ q)), e ((sh, l.set j v) :: (s ++ q))]
  have hc1 : ((p ++ [r]).length : Int) = c + 1 := by rw [List.length_append]; show ((p.length + 1 : Nat) : Int) = c + 1; omega
  exact kPut j hc1 hj
section Ctor2
variable {X : QX} {d : Nat} {post : Int → QH → Prop} {p : List QRow} {c N : Int} {M : QMem} {E : List (Int × Int × Int)}
def trReader (c : Int) : List QRow := ((5, 6), [-1, -1, c + 1, c + 11, c + 1 + 4, -1]) :: ([] ++ trLand (c + 1) ++ trTokens (c + 11))
theorem k_Reader (hc : (p.length : Int) = c) (hE : ∀ e ∈ E, e.1 < c + 1) (hN : N ≤ c) (hp : post 0 (kH (p ++ trReader c) N M ((c + 1, 1, 2) :: (c + 1, 0, 2) :: (c, 1, -1) :: E))) : QC X (d + 3) 14 4641 0 yX5_init [(2, c)] (kH (p ++ [((5, 6), [-1, -1, -1, -1, -1, -1])]) N M E) post := by
  have hc0 : 0 ≤ c := (by omega)
  refine QC.of qmX5_init_ok rfl ?_
  refine qwp_ok qmX5_init_ok.1 [(9, [0])] 12 ⟨hc0, congrArg Prod.fst (kSh_at hc), ?_⟩
  refine QR.heq (kNum (a := c) (j := 1) (x := -1) hN) ?_
  have hE1 := kE.cons (j := 1) (v := -1) hE (show c < c + 1 by omega)
  refine qwp_ok qmX5_init_ok.1 [(20, [0])] 12 ⟨kCnt2, kCnt2, kObj [-1, -1, -1, -1, -1, -1, -1, -1, -1, -1, -1, -1] (kRep 12) hc (show c + 1 = c + 1 + ((0 : Nat) : Int) by omega) (kE hE1 (by omega)) (by omega) (k_Land (kLen (N := N) (M := M) (E := E) hc (show c + 1 = c + 1 + ((0 : Nat) : Int) by omega)) (kE hE1 (by omega)) (by omega) ⟨congrArg Prod.fst (kSh_at2 hc), ?_⟩)⟩
  refine QR.heq (kPut2 2 hc (by show 2 < 6; decide) (kLen (N := N) (M := M) (E := E) hc (show c + 1 = c + 1 + ((0 : Nat) : Int) by omega))) ?_
  have hE2 : ∀ e ∈ (c + 1, 1, 2) :: (c + 1, 0, 2) :: (c, 1, -1) :: E, e.1 < c + 11 := kE.cons (kE.cons (kE hE1 (by omega)) (by omega)) (by omega)
  refine qwp_ok qmX5_init_ok.1 [(31, [0])] 12 ⟨kCnt2, kCnt2, kObj [-1, -1, -1, -1, -1, -1, -1, -1] (kRep 8) hc (show c + 11 = c + 1 + ((10 : Nat) : Int) by omega) (kE hE2 (by omega)) (by omega) (k_Tokens (kLen (N := N) (M := M) (E := E) hc (show c + 11 = c + 1 + ((10 : Nat) : Int) by omega)) (kE hE2 (by omega)) (by omega) ⟨congrArg Prod.fst (kSh_at2 hc), ?_⟩)⟩
  refine QR.heq (kPut2 3 hc (by show 3 < 6; decide) (kLen (N := N) (M := M) (E := E) hc (show c + 11 = c + 1 + ((10 : Nat) : Int) by omega))) ?_
  refine qwp_ok qmX5_init_ok.1 [(36, [0])] 6 ⟨congrArg Prod.fst (kSh_at hc), ?_⟩
  refine QR.top (b := c + 1) (kRf_at hc 2) ?_
  refine qwp_ok qmX5_init_ok.1 [(39, [0])] 6 ⟨congrArg Prod.fst (kSh_1 hc), ?_⟩
  refine QR.top (b := c + 1 + 4) (kRf_1 hc 10) ?_
  refine qwp_ok qmX5_init_ok.1 [(42, [0])] 6 ⟨congrArg Prod.fst (kSh_at hc), ?_⟩
  refine QR.heq (kPut 4 hc (by show 4 < 6; decide)) ?_
  exact qwp_ok qmX5_init_ok.1 [] 3 hp
def trPast (c : Int) : List QRow := ((3, 3), [c + 1, -1, -1]) :: (((104, 10), [c + 2, c + 12, c + 22, c + 32, c + 42, c + 52, c + 62, c + 72, c + 82, c + 92]) :: ([] ++ trState (c + 2) ++ trState (c + 12) ++ trState (c + 22) ++ trState (c + 32) ++ trState (c + 42) ++ trState (c + 52) ++ trState (c + 62) ++ trState (c + 72) ++ trState (c + 82) ++ trState (c + 92)))
theorem k_Past0 {l : List Int} {s : List QRow} {r : QRow} (hr : r = ((3, 3), [c + 1, -1, -1])) (hc : (p.length : Int) = c) (hE : ∀ e ∈ E, e.1 < c + 1) (hN : N ≤ c) (hl : l.length = 10) (hs : (s.length : Int) = 0) (k : QR X (d + 2) (101, 3130) qmX3_init post (11, 322) 15 [(0, (2, c)), (1, (0, 1))] [] (kH (p ++ (r :: (((104, 10), l.set 0 (c + 2)) :: (s ++ trState (c + 2))))) N M E)) : QR X (d + 2) (101, 3130) qmX3_init post (1, 10) 15 [(0, (2, c)), (1, (0, 0))] [] (kH (p ++ (r :: (((104, 10), l) :: s))) N M E) := by
  subst hr
  refine qwp_ok qmX3_init_ok.1 [(25, [0, 1])] 8 ⟨i32 (by decide) (by decide), i32 (by decide) (by decide), fun z => absurd z (by decide), fun _ => ⟨congrArg Prod.fst (kSh_at hc), ?_⟩⟩
  refine QR.top (b := c + 1) (kRf_at hc 0) ?_
  refine qwp_ok qmX3_init_ok.1 [(15, [0, 1])] 12 ⟨kCnt2, kCnt2, kObj [-1, -1, -1, -1, -1, -1, -1, -1, -1, -1, -1, -1] (kRep 12) hc (show c + 2 = c + 1 + ((s.length + 1 : Nat) : Int) by omega) (kE hE (by omega)) (by omega) (k_State (kLen (N := N) (M := M) (E := E) hc (show c + 2 = c + 1 + ((s.length + 1 : Nat) : Int) by omega)) (kE hE (by omega)) (by omega) ⟨Or.inl ⟨congrArg Prod.fst (kSh_2 hc), congrArg Prod.fst (kSh_at rfl)⟩, (by decide), kLt (kSh_2 hc) (by decide), ?_⟩)⟩
  refine QR.heq (kPutA 0 hc (by rw [hl]; decide) (kLen (N := N) (M := M) (E := E) hc (show c + 2 = c + 1 + ((s.length + 1 : Nat) : Int) by omega))) ?_
  exact k
theorem k_Past1 {l : List Int} {s : List QRow} {r : QRow} (hr : r = ((3, 3), [c + 1, -1, -1])) (hc : (p.length : Int) = c) (hE : ∀ e ∈ E, e.1 < c + 1) (hN : N ≤ c) (hl : l.length = 10) (hs : (s.length : Int) = 10) (k : QR X (d + 2) (101, 3130) qmX3_init post (21, 634) 15 [(0, (2, c)), (1, (0, 2))] [] (kH (p ++ (r :: (((104, 10), l.set 1 (c + 12)) :: (s ++ trState (c + 12))))) N M E)) : QR X (d + 2) (101, 3130) qmX3_init post (11, 322) 15 [(0, (2, c)), (1, (0, 1))] [] (kH (p ++ (r :: (((104, 10), l) :: s))) N M E) := by
  subst hr
  refine qwp_ok qmX3_init_ok.1 [(25, [0, 1])] 8 ⟨i32 (by decide) (by decide), i32 (by decide) (by decide), fun z => absurd z (by decide), fun _ => ⟨congrArg Prod.fst (kSh_at hc), ?_⟩⟩
  refine QR.top (b := c + 1) (kRf_at hc 0) ?_
  refine qwp_ok qmX3_init_ok.1 [(15, [0, 1])] 12 ⟨kCnt2, kCnt2, kObj [-1, -1, -1, -1, -1, -1, -1, -1, -1, -1, -1, -1] (kRep 12) hc (show c + 12 = c + 1 + ((s.length + 1 : Nat) : Int) by omega) (kE hE (by omega)) (by omega) (k_State (kLen (N := N) (M := M) (E := E) hc (show c + 12 = c + 1 + ((s.length + 1 : Nat) : Int) by omega)) (kE hE (by omega)) (by omega) ⟨Or.inl ⟨congrArg Prod.fst (kSh_2 hc), congrArg Prod.fst (kSh_at rfl)⟩, (by decide), kLt (kSh_2 hc) (by decide), ?_⟩)⟩
  refine QR.heq (kPutA 1 hc (by rw [hl]; decide) (kLen (N := N) (M := M) (E := E) hc (show c + 12 = c + 1 + ((s.length + 1 : Nat) : Int) by omega))) ?_
  exact k
theorem k_Past2 {l : List Int} {s : List QRow} {r : QRow} (hr : r = ((3, 3), [c + 1, -1, -1])) (hc : (p.length : Int) = c) (hE : ∀ e ∈ E, e.1 < c + 1) (hN : N ≤ c) (hl : l.length = 10) (hs : (s.length : Int) = 20) (k : QR X (d + 2) (101, 3130) qmX3_init post (31, 946) 15 [(0, (2, c)), (1, (0, 3))] [] (kH (p ++ (r :: (((104, 10), l.set 2 (c + 22)) :: (s ++ trState (c + 22))))) N M E)) : QR X (d + 2) (101, 3130) qmX3_init post (21, 634) 15 [(0, (2, c)), (1, (0, 2))] [] (kH (p ++ (r :: (((104, 10), l) :: s))) N M E) := by
  subst hr
  refine qwp_ok qmX3_init_ok.1 [(25, [0, 1])] 8 ⟨i32 (by decide) (by decide), i32 (by decide) (by decide), fun z => absurd z (by decide), fun _ => ⟨congrArg Prod.fst (kSh_at hc), ?_⟩⟩
  refine QR.top (b := c + 1) (kRf_at hc 0) ?_
  refine qwp_ok qmX3_init_ok.1 [(15, [0, 1])] 12 ⟨kCnt2, kCnt2, kObj [-1, -1, -1, -1, -1, -1, -1, -1, -1, -1, -1, -1] (kRep 12) hc (show c + 22 = c + 1 + ((s.length + 1 : Nat) : Int) by omega) (kE hE (by omega)) (by omega) (k_State (kLen (N := N) (M := M) (E := E) hc (show c + 22 = c + 1 + ((s.length + 1 : Nat) : Int) by omega)) (kE hE (by omega)) (by omega) ⟨Or.inl ⟨congrArg Prod.fst (kSh_2 hc), congrArg Prod.fst (kSh_at rfl)⟩, (by decide), kLt (kSh_2 hc) (by decide), ?_⟩)⟩
  refine QR.heq (kPutA 2 hc (by rw [hl]; decide) (kLen (N := N) (M := M) (E := E) hc (show c + 22 = c + 1 + ((s.length + 1 : Nat) : Int) by omega))) ?_
  exact k
theorem k_Past3 {l : List Int} {s : List QRow} {r : QRow} (hr : r = ((3, 3), [c + 1, -1, -1])) (hc : (p.length : Int) = c) (hE : ∀ e ∈ E, e.1 < c + 1) (hN : N ≤ c) (hl : l.length = 10) (hs : (s.length : Int) = 30) (k : QR X (d + 2) (101, 3130) qmX3_init post (41, 1258) 15 [(0, (2, c)), (1, (0, 4))] [] (kH (p ++ (r :: (((104, 10), l.set 3 (c + 32)) :: (s ++ trState (c + 32))))) N M E)) : QR X (d + 2) (101, 3130) qmX3_init post (31, 946) 15 [(0, (2, c)), (1, (0, 3))] [] (kH (p ++ (r :: (((104, 10), l) :: s))) N M E) := by
  subst hr
  refine qwp_ok qmX3_init_ok.1 [(25, [0, 1])] 8 ⟨i32 (by decide) (by decide), i32 (by decide) (by decide), fun z => absurd z (by decide), fun _ => ⟨congrArg Prod.fst (kSh_at hc), ?_⟩⟩
  refine QR.top (b := c + 1) (kRf_at hc 0) ?_
  refine qwp_ok qmX3_init_ok.1 [(15, [0, 1])] 12 ⟨kCnt2, kCnt2, kObj [-1, -1, -1, -1, -1, -1, -1, -1, -1, -1, -1, -1] (kRep 12) hc (show c + 32 = c + 1 + ((s.length + 1 : Nat) : Int) by omega) (kE hE (by omega)) (by omega) (k_State (kLen (N := N) (M := M) (E := E) hc (show c + 32 = c + 1 + ((s.length + 1 : Nat) : Int) by omega)) (kE hE (by omega)) (by omega) ⟨Or.inl ⟨congrArg Prod.fst (kSh_2 hc), congrArg Prod.fst (kSh_at rfl)⟩, (by decide), kLt (kSh_2 hc) (by decide), ?_⟩)⟩
  refine QR.heq (kPutA 3 hc (by rw [hl]; decide) (kLen (N := N) (M := M) (E := E) hc (show c + 32 = c + 1 + ((s.length + 1 : Nat) : Int) by omega))) ?_
  exact k
theorem k_Past4 {l : List Int} {s : List QRow} {r : QRow} (hr : r = ((3, 3), [c + 1, -1, -1])) (hc : (p.length : Int) = c) (hE : ∀ e ∈ E, e.1 < c + 1) (hN : N ≤ c) (hl : l.length = 10) (hs : (s.length : Int) = 40) (k : QR X (d + 2) (101, 3130) qmX3_init post (51, 1570) 15 [(0, (2, c)), (1, (0, 5))] [] (kH (p ++ (r :: (((104, 10), l.set 4 (c + 42)) :: (s ++ trState (c + 42))))) N M E)) : QR X (d + 2) (101, 3130) qmX3_init post (41, 1258) 15 [(0, (2, c)), (1, (0, 4))] [] (kH (p ++ (r :: (((104, 10), l) :: s))) N M E) := by
  subst hr
  refine qwp_ok qmX3_init_ok.1 [(25, [0, 1])] 8 ⟨i32 (by decide) (by decide), i32 (by decide) (by decide), fun z => absurd z (by decide), fun _ => ⟨congrArg Prod.fst (kSh_at hc), ?_⟩⟩
  refine QR.top (b := c + 1) (kRf_at hc 0) ?_
  refine qwp_ok qmX3_init_ok.1 [(15, [0, 1])] 12 ⟨kCnt2, kCnt2, kObj [-1, -1, -1, -1, -1, -1, -1, -1, -1, -1, -1, -1] (kRep 12) hc (show c + 42 = c + 1 + ((s.length + 1 : Nat) : Int) by omega) (kE hE (by omega)) (by omega) (k_State (kLen (N := N) (M := M) (E := E) hc (show c + 42 = c + 1 + ((s.length + 1 : Nat) : Int) by omega)) (kE hE (by omega)) (by omega) ⟨Or.inl ⟨congrArg Prod.fst (kSh_2 hc), congrArg Prod.fst (kSh_at rfl)⟩, (by decide), kLt (kSh_2 hc) (by decide), ?_⟩)⟩
  refine QR.heq (kPutA 4 hc (by rw [hl]; decide) (kLen (N := N) (M := M) (E := E) hc (show c + 42 = c + 1 + ((s.length + 1 : Nat) : Int) by omega))) ?_
  exact k
theorem k_Past5 {l : List Int} {s : List QRow} {r : QRow} (hr : r = ((3, 3), [c + 1, -1, -1])) (hc : (p.length : Int) = c) (hE : ∀ e ∈ E, e.1 < c + 1) (hN : N ≤ c) (hl : l.length = 10) (hs : (s.length : Int) = 50) (k : QR X (d + 2) (101, 3130) qmX3_init post (61, 1882) 15 [(0, (2, c)), (1, (0, 6))] [] (kH (p ++ (r :: (((104, 10), l.set 5 (c + 52)) :: (s ++ trState (c + 52))))) N M E)) : QR X (d + 2) (101, 3130) qmX3_init post (51, 1570) 15 [(0, (2, c)), (1, (0, 5))] [] (kH (p ++ (r :: (((104, 10), l) :: s))) N M E) := by
  subst hr
  refine qwp_ok qmX3_init_ok.1 [(25, [0, 1])] 8 ⟨i32 (by decide) (by decide), i32 (by decide) (by decide), fun z => absurd z (by decide), fun _ => ⟨congrArg Prod.fst (kSh_at hc), ?_⟩⟩
  refine QR.top (b := c + 1) (kRf_at hc 0) ?_
  refine qwp_ok qmX3_init_ok.1 [(15, [0, 1])] 12 ⟨kCnt2, kCnt2, kObj [-1, -1, -1, -1, -1, -1, -1, -1, -1, -1, -1, -1] (kRep 12) hc (show c + 52 = c + 1 + ((s.length + 1 : Nat) : Int) by omega) (kE hE (by omega)) (by omega) (k_State (kLen (N := N) (M := M) (E := E) hc (show c + 52 = c + 1 + ((s.length + 1 : Nat) : Int) by omega)) (kE hE (by omega)) (by omega) ⟨Or.inl ⟨congrArg Prod.fst (kSh_2 hc), congrArg Prod.fst (kSh_at rfl)⟩, (by decide), kLt (kSh_2 hc) (by decide), ?_⟩)⟩
  refine QR.heq (kPutA 5 hc (by rw [hl]; decide) (kLen (N := N) (M := M) (E := E) hc (show c + 52 = c + 1 + ((s.length + 1 : Nat) : Int) by omega))) ?_
  exact k
theorem k_Past6 {l : List Int} {s : List QRow} {r : QRow} (hr : r = ((3, 3), [c + 1, -1, -1])) (hc : (p.length : Int) = c) (hE : ∀ e ∈ E, e.1 < c + 1) (hN : N ≤ c) (hl : l.length = 10) (hs : (s.length : Int) = 60) (k : QR X (d + 2) (101, 3130) qmX3_init post (71, 2194) 15 [(0, (2, c)), (1, (0, 7))] [] (kH (p ++ (r :: (((104, 10), l.set 6 (c + 62)) :: (s ++ trState (c + 62))))) N M E)) : QR X (d + 2) (101, 3130) qmX3_init post (61, 1882) 15 [(0, (2, c)), (1, (0, 6))] [] (kH (p ++ (r :: (((104, 10), l) :: s))) N M E) := by
  subst hr
  refine qwp_ok qmX3_init_ok.1 [(25, [0, 1])] 8 ⟨i32 (by decide) (by decide), i32 (by decide) (by decide), fun z => absurd z (by decide), fun _ => ⟨congrArg Prod.fst (kSh_at hc), ?_⟩⟩
  refine QR.top (b := c + 1) (kRf_at hc 0) ?_
  refine qwp_ok qmX3_init_ok.1 [(15, [0, 1])] 12 ⟨kCnt2, kCnt2, kObj [-1, -1, -1, -1, -1, -1, -1, -1, -1, -1, -1, -1] (kRep 12) hc (show c + 62 = c + 1 + ((s.length + 1 : Nat) : Int) by omega) (kE hE (by omega)) (by omega) (k_State (kLen (N := N) (M := M) (E := E) hc (show c + 62 = c + 1 + ((s.length + 1 : Nat) : Int) by omega)) (kE hE (by omega)) (by omega) ⟨Or.inl ⟨congrArg Prod.fst (kSh_2 hc), congrArg Prod.fst (kSh_at rfl)⟩, (by decide), kLt (kSh_2 hc) (by decide), ?_⟩)⟩
  refine QR.heq (kPutA 6 hc (by rw [hl]; decide) (kLen (N := N) (M := M) (E := E) hc (show c + 62 = c + 1 + ((s.length + 1 : Nat) : Int) by omega))) ?_
  exact k
theorem k_Past7 {l : List Int} {s : List QRow} {r : QRow} (hr : r = ((3, 3), [c + 1, -1, -1])) (hc : (p.length : Int) = c) (hE : ∀ e ∈ E, e.1 < c + 1) (hN : N ≤ c) (hl : l.length = 10) (hs : (s.length : Int) = 70) (k : QR X (d + 2) (101, 3130) qmX3_init post (81, 2506) 15 [(0, (2, c)), (1, (0, 8))] [] (kH (p ++ (r :: (((104, 10), l.set 7 (c + 72)) :: (s ++ trState (c + 72))))) N M E)) : QR X (d + 2) (101, 3130) qmX3_init post (71, 2194) 15 [(0, (2, c)), (1, (0, 7))] [] (kH (p ++ (r :: (((104, 10), l) :: s))) N M E) := by
  subst hr
  refine qwp_ok qmX3_init_ok.1 [(25, [0, 1])] 8 ⟨i32 (by decide) (by decide), i32 (by decide) (by decide), fun z => absurd z (by decide), fun _ => ⟨congrArg Prod.fst (kSh_at hc), ?_⟩⟩
  refine QR.top (b := c + 1) (kRf_at hc 0) ?_
  refine qwp_ok qmX3_init_ok.1 [(15, [0, 1])] 12 ⟨kCnt2, kCnt2, kObj [-1, -1, -1, -1, -1, -1, -1, -1, -1, -1, -1, -1] (kRep 12) hc (show c + 72 = c + 1 + ((s.length + 1 : Nat) : Int) by omega) (kE hE (by omega)) (by omega) (k_State (kLen (N := N) (M := M) (E := E) hc (show c + 72 = c + 1 + ((s.length + 1 : Nat) : Int) by omega)) (kE hE (by omega)) (by omega) ⟨Or.inl ⟨congrArg Prod.fst (kSh_2 hc), congrArg Prod.fst (kSh_at rfl)⟩, (by decide), kLt (kSh_2 hc) (by decide), ?_⟩)⟩
  refine QR.heq (kPutA 7 hc (by rw [hl]; decide) (kLen (N := N) (M := M) (E := E) hc (show c + 72 = c + 1 + ((s.length + 1 : Nat) : Int) by omega))) ?_
  exact k
theorem k_Past8 {l : List Int} {s : List QRow} {r : QRow} (hr : r = ((3, 3), [c + 1, -1, -1])) (hc : (p.length : Int) = c) (hE : ∀ e ∈ E, e.1 < c + 1) (hN : N ≤ c) (hl : l.length = 10) (hs : (s.length : Int) = 80) (k : QR X (d + 2) (101, 3130) qmX3_init post (91, 2818) 15 [(0, (2, c)), (1, (0, 9))] [] (kH (p ++ (r :: (((104, 10), l.set 8 (c + 82)) :: (s ++ trState (c + 82))))) N M E)) : QR X (d + 2) (101, 3130) qmX3_init post (81, 2506) 15 [(0, (2, c)), (1, (0, 8))] [] (kH (p ++ (r :: (((104, 10), l) :: s))) N M E) := by
  subst hr
  refine qwp_ok qmX3_init_ok.1 [(25, [0, 1])] 8 ⟨i32 (by decide) (by decide), i32 (by decide) (by decide), fun z => absurd z (by decide), fun _ => ⟨congrArg Prod.fst (kSh_at hc), ?_⟩⟩
  refine QR.top (b := c + 1) (kRf_at hc 0) ?_
  refine qwp_ok qmX3_init_ok.1 [(15, [0, 1])] 12 ⟨kCnt2, kCnt2, kObj [-1, -1, -1, -1, -1, -1, -1, -1, -1, -1, -1, -1] (kRep 12) hc (show c + 82 = c + 1 + ((s.length + 1 : Nat) : Int) by omega) (kE hE (by omega)) (by omega) (k_State (kLen (N := N) (M := M) (E := E) hc (show c + 82 = c + 1 + ((s.length + 1 : Nat) : Int) by omega)) (kE hE (by omega)) (by omega) ⟨Or.inl ⟨congrArg Prod.fst (kSh_2 hc), congrArg Prod.fst (kSh_at rfl)⟩, (by decide), kLt (kSh_2 hc) (by decide), ?_⟩)⟩
  refine QR.heq (kPutA 8 hc (by rw [hl]; decide) (kLen (N := N) (M := M) (E := E) hc (show c + 82 = c + 1 + ((s.length + 1 : Nat) : Int) by omega))) ?_
  exact k
theorem k_Past9 {l : List Int} {s : List QRow} {r : QRow} (hr : r = ((3, 3), [c + 1, -1, -1])) (hc : (p.length : Int) = c) (hE : ∀ e ∈ E, e.1 < c + 1) (hN : N ≤ c) (hl : l.length = 10) (hs : (s.length : Int) = 90) (k : QR X (d + 2) (101, 3130) qmX3_init post (101, 3130) 15 [(0, (2, c)), (1, (0, 10))] [] (kH (p ++ (r :: (((104, 10), l.set 9 (c + 92)) :: (s ++ trState (c + 92))))) N M E)) : QR X (d + 2) (101, 3130) qmX3_init post (91, 2818) 15 [(0, (2, c)), (1, (0, 9))] [] (kH (p ++ (r :: (((104, 10), l) :: s))) N M E) := by
  subst hr
  refine qwp_ok qmX3_init_ok.1 [(25, [0, 1])] 8 ⟨i32 (by decide) (by decide), i32 (by decide) (by decide), fun z => absurd z (by decide), fun _ => ⟨congrArg Prod.fst (kSh_at hc), ?_⟩⟩
  refine QR.top (b := c + 1) (kRf_at hc 0) ?_
  refine qwp_ok qmX3_init_ok.1 [(15, [0, 1])] 12 ⟨kCnt2, kCnt2, kObj [-1, -1, -1, -1, -1, -1, -1, -1, -1, -1, -1, -1] (kRep 12) hc (show c + 92 = c + 1 + ((s.length + 1 : Nat) : Int) by omega) (kE hE (by omega)) (by omega) (k_State (kLen (N := N) (M := M) (E := E) hc (show c + 92 = c + 1 + ((s.length + 1 : Nat) : Int) by omega)) (kE hE (by omega)) (by omega) ⟨Or.inl ⟨congrArg Prod.fst (kSh_2 hc), congrArg Prod.fst (kSh_at rfl)⟩, (by decide), kLt (kSh_2 hc) (by decide), ?_⟩)⟩
  refine QR.heq (kPutA 9 hc (by rw [hl]; decide) (kLen (N := N) (M := M) (E := E) hc (show c + 92 = c + 1 + ((s.length + 1 : Nat) : Int) by omega))) ?_
  exact k
theorem k_Past (hc : (p.length : Int) = c) (hE : ∀ e ∈ E, e.1 < c + 1) (hN : N ≤ c) (hp : post 0 (kH (p ++ trPast c) N M (E))) : QC X (d + 2) 101 3130 0 yX3_init [(2, c)] (kH (p ++ [((3, 3), [-1, -1, -1])]) N M E) post := by
  have hc0 : 0 ≤ c := (by omega)
  refine QC.of qmX3_init_ok rfl ?_
  refine qwp_ok qmX3_init_ok.1 [(13, [0])] 12 ⟨hc0, (by decide), (by decide), kCnt, kAdd_sh hc, ?_⟩
  refine QR.heq (kAdd 0 [-1, -1, -1, -1, -1, -1, -1, -1, -1, -1] (c + 1) (kRep 10) hc (show c + 1 = c + 1 + ((0 : Nat) : Int) by omega) (by show 0 < 3; decide) (kE hE (by omega)) (by omega)) ?_
  refine qwp_ok qmX3_init_ok.1 [(15, [0, 1])] 4 ?_
  refine k_Past0 rfl hc hE hN rfl rfl ?_
  refine k_Past1 rfl hc hE hN rfl rfl ?_
  refine k_Past2 rfl hc hE hN rfl rfl ?_
  refine k_Past3 rfl hc hE hN rfl rfl ?_
  refine k_Past4 rfl hc hE hN rfl rfl ?_
  refine k_Past5 rfl hc hE hN rfl rfl ?_
  refine k_Past6 rfl hc hE hN rfl rfl ?_
  refine k_Past7 rfl hc hE hN rfl rfl ?_
  refine k_Past8 rfl hc hE hN rfl rfl ?_
  refine k_Past9 rfl hc hE hN rfl rfl ?_
  exact qwp_ok qmX3_init_ok.1 [] 6 ⟨i32 (by decide) (by decide), i32 (by decide) (by decide), fun _ => hp, fun z => absurd (by decide) z⟩
end Ctor2
