/-- the rows, once RibbonRoads is made -/
def kT3 : List QRow := [((10, 11), [1, -1, 2, 17, 27, 37, 47, 149, 150, 151, 161]),
  ((102, 900), []),
  ((5, 6), [-1, -1, 3, 13, 7, -1]),
  ((1, 12), [-1, -1, -1, -1, -1, -1, -1, 4, 5, 6, 7, 10]),
  ((100, 36), []),
  ((100, 6), []),
  ((100, 6), []),
  ((2, 3), [8, 9, -1]),
  ((100, 900), []),
  ((100, 32), []),
  ((2, 3), [11, 12, -1]),
  ((100, 900), []),
  ((100, 32), []),
  ((7, 8), [14, 15, 16, -1, -1, -1, -1, -1]),
  ((100, 901), []),
  ((100, 901), []),
  ((100, 901), []),
  ((1, 12), [-1, -1, -1, -1, -1, -1, -1, 18, 19, 20, 21, 24]),
  ((100, 36), []),
  ((100, 6), []),
  ((100, 6), []),
  ((2, 3), [22, 23, -1]),
  ((100, 900), []),
  ((100, 32), []),
  ((2, 3), [25, 26, -1]),
  ((100, 900), []),
  ((100, 32), []),
  ((6, 12), [28, 29, 30, 31, 32, 33, -1, 34, 35, 36, -1, -1]),
  ((100, 6), []),
  ((100, 6), []),
  ((100, 96), []),
  ((100, 96), []),
  ((100, 36), []),
  ((100, 36), []),
  ((100, 8), []),
  ((100, 8), []),
  ((100, 8), []),
  ((6, 12), [38, 39, 40, 41, 42, 43, -1, 44, 45, 46, -1, -1]),
  ((100, 6), []),
  ((100, 6), []),
  ((100, 96), []),
  ((100, 96), []),
  ((100, 36), []),
  ((100, 36), []),
  ((100, 8), []),
  ((100, 8), []),
  ((100, 8), []),
  ((3, 3), [48, -1, -1]),
  ((104, 10), [49, 59, 69, 79, 89, 99, 109, 119, 129, 139]),
  ((6, 12), [50, 51, 52, 53, 54, 55, -1, 56, 57, 58, -1, -1]),
  ((100, 6), []),
  ((100, 6), []),
  ((100, 96), []),
  ((100, 96), []),
  ((100, 36), []),
  ((100, 36), []),
  ((100, 8), []),
  ((100, 8), []),
  ((100, 8), []),
  ((6, 12), [60, 61, 62, 63, 64, 65, -1, 66, 67, 68, -1, -1]),
  ((100, 6), []),
  ((100, 6), []),
  ((100, 96), []),
  ((100, 96), []),
  ((100, 36), []),
  ((100, 36), []),
  ((100, 8), []),
  ((100, 8), []),
  ((100, 8), []),
  ((6, 12), [70, 71, 72, 73, 74, 75, -1, 76, 77, 78, -1, -1]),
  ((100, 6), []),
  ((100, 6), []),
  ((100, 96), []),
  ((100, 96), []),
  ((100, 36), []),
  ((100, 36), []),
  ((100, 8), []),
  ((100, 8), []),
  ((100, 8), []),
  ((6, 12), [80, 81, 82, 83, 84, 85, -1, 86, 87, 88, -1, -1]),
  ((100, 6), []),
  ((100, 6), []),
  ((100, 96), []),
  ((100, 96), []),
  ((100, 36), []),
  ((100, 36), []),
  ((100, 8), []),
  ((100, 8), []),
  ((100, 8), []),
  ((6, 12), [90, 91, 92, 93, 94, 95, -1, 96, 97, 98, -1, -1]),
  ((100, 6), []),
  ((100, 6), []),
  ((100, 96), []),
  ((100, 96), []),
  ((100, 36), []),
  ((100, 36), []),
  ((100, 8), []),
  ((100, 8), []),
  ((100, 8), []),
  ((6, 12), [100, 101, 102, 103, 104, 105, -1, 106, 107, 108, -1, -1]),
  ((100, 6), []),
  ((100, 6), []),
  ((100, 96), []),
  ((100, 96), []),
  ((100, 36), []),
  ((100, 36), []),
  ((100, 8), []),
  ((100, 8), []),
  ((100, 8), []),
  ((6, 12), [110, 111, 112, 113, 114, 115, -1, 116, 117, 118, -1, -1]),
  ((100, 6), []),
  ((100, 6), []),
  ((100, 96), []),
  ((100, 96), []),
  ((100, 36), []),
  ((100, 36), []),
  ((100, 8), []),
  ((100, 8), []),
  ((100, 8), []),
  ((6, 12), [120, 121, 122, 123, 124, 125, -1, 126, 127, 128, -1, -1]),
  ((100, 6), []),
  ((100, 6), []),
  ((100, 96), []),
  ((100, 96), []),
  ((100, 36), []),
  ((100, 36), []),
  ((100, 8), []),
  ((100, 8), []),
  ((100, 8), []),
  ((6, 12), [130, 131, 132, 133, 134, 135, -1, 136, 137, 138, -1, -1]),
  ((100, 6), []),
  ((100, 6), []),
  ((100, 96), []),
  ((100, 96), []),
  ((100, 36), []),
  ((100, 36), []),
  ((100, 8), []),
  ((100, 8), []),
  ((100, 8), []),
  ((6, 12), [140, 141, 142, 143, 144, 145, -1, 146, 147, 148, -1, -1]),
  ((100, 6), []),
  ((100, 6), []),
  ((100, 96), []),
  ((100, 96), []),
  ((100, 36), []),
  ((100, 36), []),
  ((100, 8), []),
  ((100, 8), []),
  ((100, 8), []),
  ((105, 4), [165, 167, 169, 171]),
  ((106, 2), [173, 194]),
  ((9, 17), [152, 153, 154, 155, 156, 157, 158, 159, 160, -1, -1, -1, -1, -1, -1, -1, -1]),
  ((100, 36), []),
  ((100, 36), []),
  ((101, 36), []),
  ((101, 36), []),
  ((100, 36), []),
  ((101, 36), []),
  ((101, 36), []),
  ((100, 36), []),
  ((100, 144), []),
  ((4, 4), [162, 163, 164, -1]),
  ((100, 6), []),
  ((100, 36), []),
  ((100, 64), []),
  ((8, 3), [166, -1, -1]),
  ((101, 40), []),
  ((8, 3), [168, -1, -1]),
  ((101, 40), []),
  ((8, 3), [170, -1, -1]),
  ((101, 40), []),
  ((8, 3), [172, -1, -1]),
  ((101, 40), []),
  ((0, 3), [-1, 174, 184]),
  ((1, 12), [-1, -1, -1, -1, -1, -1, -1, 175, 176, 177, 178, 181]),
  ((100, 36), []),
  ((100, 6), []),
  ((100, 6), []),
  ((2, 3), [179, 180, -1]),
  ((100, 900), []),
  ((100, 32), []),
  ((2, 3), [182, 183, -1]),
  ((100, 900), []),
  ((100, 32), []),
  ((6, 12), [185, 186, 187, 188, 189, 190, -1, 191, 192, 193, -1, -1]),
  ((100, 6), []),
  ((100, 6), []),
  ((100, 96), []),
  ((100, 96), []),
  ((100, 36), []),
  ((100, 36), []),
  ((100, 8), []),
  ((100, 8), []),
  ((100, 8), []),
  ((0, 3), [-1, 195, 205]),
  ((1, 12), [-1, -1, -1, -1, -1, -1, -1, 196, 197, 198, 199, 202]),
  ((100, 36), []),
  ((100, 6), []),
  ((100, 6), []),
  ((2, 3), [200, 201, -1]),
  ((100, 900), []),
  ((100, 32), []),
  ((2, 3), [203, 204, -1]),
  ((100, 900), []),
  ((100, 32), []),
  ((6, 12), [206, 207, 208, 209, 210, 211, -1, 212, 213, 214, -1, -1]),
  ((100, 6), []),
  ((100, 6), []),
  ((100, 96), []),
  ((100, 96), []),
  ((100, 36), []),
  ((100, 36), []),
  ((100, 8), []),
  ((100, 8), []),
  ((100, 8), [])]
abbrev QCt (X : QX) (d rk : Nat) (y : MethodName) (as : List QV) (M : QMem) (post : Int → QMem → Prop) : Prop := QC X d 0 0 rk y as (kS kT3, M) (qk (kS kT3) post)
abbrev QRt (X : QX) (d : Nat) (m : QMeth) (post : Int → QMem → Prop) (pc : Nat) (lv : List (Nat × QV)) (st : List QV) (M : QMem) : Prop := QR X d (0, 0) m (qk (kS kT3) post) (0, 0) pc lv st (kS kT3, M)
theorem uJ7_fill_53178_0 {X : QX} {d : Nat} {post : Int → QMem → Prop} {M : QMem} {v0 v1 : Int} (t : (100 ≤ ((kS kT3).2.1 v0).1 ∧ ((kS kT3).2.1 v0).1 ≤ 106) ∧ (QRt X d qmJ7_fill_53178 post 5 [(0, (2, v0)), (1, (0, v1)), (2, (0, 0)), (3, (0, ((kS kT3).2.1 v0).2))] [] M)) : QRt X d qmJ7_fill_53178 post 0 [(0, (2, v0)), (1, (0, v1))] [] M := qwp_ok qmJ7_fill_53178_ok.1 [(5, [0, 1, 2, 3])] 17 (⟨t.1, t.2⟩)
theorem uJ7_fill_53178_5 {X : QX} {d : Nat} {post : Int → QMem → Prop} {M : QMem} {v0 v1 v2 v3 : Int} (t : in32 v2 ∧ in32 v3 ∧ (v3 ≤ v2 → (post 0 M)) ∧ (¬ v3 ≤ v2 → (((kS kT3).2.1 v0).1 = 100 ∧ ((0 : Int) ≤ v2 ∧ (v2 < ((kS kT3).2.1 v0).2 ∧ (QRt X d qmJ7_fill_53178 post 5 [(0, (2, v0)), (1, (0, v1)), (2, (0, v2 + 1)), (3, (0, v3))] [] (qup M v0 v2 v1))))))) : QRt X d qmJ7_fill_53178 post 5 [(0, (2, v0)), (1, (0, v1)), (2, (0, v2)), (3, (0, v3))] [] M := qwp_ok qmJ7_fill_53178_ok.1 [(5, [0, 1, 2, 3])] 17 (⟨t.1, t.2.1, fun z1 => ⟨_, rfl, (t.2.2.1 z1)⟩, fun z1 => ⟨(t.2.2.2 z1).1, ⟨(t.2.2.2 z1).2.1, ⟨(t.2.2.2 z1).2.2.1, (t.2.2.2 z1).2.2.2⟩⟩⟩⟩)
theorem uX6_begin_0 {X : QX} {d : Nat} {post : Int → QMem → Prop} {M : QMem} (t : QCt X d 0 yJ7_fill_53178 [(2, 28), (0, 0)] M (fun _ M1 => QCt X d 0 yJ7_fill_53178 [(2, 32), (0, (-1))] (qcpy M1 20 29 0 0 6) (fun _ M2 => QCt X d 0 yJ7_fill_53178 [(2, 33), (0, (-1))] M2 (fun _ M3 => post 0 (qup (qup (qup M3 27 6 0) 27 10 ((qup M3 27 6 0) 17 5)) 27 11 ((qup (qup M3 27 6 0) 27 10 ((qup M3 27 6 0) 17 5)) 17 6)))))) : QRt X (d + 1) qmX6_begin post 0 [(0, (2, 27)), (1, (2, 17))] [] M := qwp_ok qmX6_begin_ok.1 [] 34 (⟨rfl, QC.mono t (fun _ h1 u1 => by obtain ⟨M1, rfl, u1⟩ := u1; exact ⟨rfl, ⟨rfl, ⟨rfl, ⟨rfl, ⟨(show (0 : Int) ≤ 0 by decide), ⟨(show (0 : Int) ≤ 0 by decide), ⟨(show (0 : Int) ≤ 6 by decide), ⟨(show (0 : Int) + 6 ≤ 6 by decide), ⟨(show (0 : Int) + 6 ≤ 6 by decide), ⟨rfl, QC.mono u1 (fun _ h2 u2 => by obtain ⟨M2, rfl, u2⟩ := u2; exact ⟨rfl, QC.mono u2 (fun _ h3 u3 => by obtain ⟨M3, rfl, u3⟩ := u3; exact ⟨rfl, ⟨rfl, ⟨rfl, ⟨rfl, ⟨rfl, ⟨_, rfl, u3⟩⟩⟩⟩⟩⟩)⟩)⟩⟩⟩⟩⟩⟩⟩⟩⟩⟩)⟩)
section Beg
variable {X : QX} {d : Nat} {post : Int → QMem → Prop} {M : QMem}
theorem u_fill {a v n : Int} (hs : (kS kT3).2.1 a = (100, n)) (h0 : 0 ≤ n) (h1 : n ≤ 100000) (hp : ∀ M1 : QMem, (∀ c, c ≠ a → M1 c = M c) → (∀ j, 0 ≤ j → j < n → M1 a j = v) → post 0 M1) : QCt X d 0 yJ7_fill_53178 [(2, a), (0, v)] M post := by
  refine QC.of qmJ7_fill_53178_ok rfl (uJ7_fill_53178_0 ?_)
  rw [hs]
  refine ⟨⟨show 100 ≤ 100 by decide, show 100 ≤ 106 by decide⟩, ?_⟩
  have key : ∀ i : Int, ∀ M1 : QMem, 0 ≤ i ∧ i ≤ n ∧ (∀ c, c ≠ a → M1 c = M c) ∧ (∀ j, 0 ≤ j → j < i → M1 a j = v) → QRt X d qmJ7_fill_53178 post 5 [(0, (2, a)), (1, (0, v)), (2, (0, i)), (3, (0, n))] [] M1 := by
    refine int_up n (fun i hi M1 h => ?_) (fun i hi ih M1 h => ?_)
    · exact uJ7_fill_53178_5 ⟨(i32 (by omega) (by omega)), (i32 (by omega) (by omega)), fun _ => hp M1 h.2.2.1 (fun j j0 j1 => h.2.2.2 j j0 (by omega)), fun z => absurd hi (by omega)⟩
    · refine uJ7_fill_53178_5 ⟨(i32 (by omega) (by omega)), (i32 (by omega) (by omega)), fun z => absurd hi (by omega), fun _ => ?_⟩
      rw [hs]
      refine ⟨rfl, (by omega), (by omega), ih _ ⟨(by omega), (by omega), fun c hc => ?_, fun j j0 j1 => ?_⟩⟩
      · rw [qup_row hc]; exact h.2.2.1 c hc
      · rw [qup_at]; split
        · rfl
        · exact h.2.2.2 j j0 (by omega)
  exact key 0 M ⟨(by omega), (by omega), fun c _ => rfl, fun j j0 j1 => (by omega)⟩
theorem u_begin (hp : ∀ M1 : QMem, (∀ a, a < 27 ∨ 36 < a → M1 a = M a) → (∀ e, 0 ≤ e → e < 6 → M1 28 e = 0 ∧ M1 29 e = M 20 e) → (∀ k, 0 ≤ k → k < 36 → M1 32 k = -1 ∧ M1 33 k = -1) → M1 27 6 = 0 → M1 27 10 = M 17 5 → M1 27 11 = M 17 6 → post 0 M1) : QCt X (d + 1) 0 yX6_begin [(2, 27), (2, 17)] M post := by
  refine QC.of qmX6_begin_ok rfl (uX6_begin_0 (u_fill (n := 6) rfl (by decide) (by decide) (fun M1 m1 v1 => ?_)))
  have c0 : ∀ a, a ≠ 29 → qcpy M1 20 29 0 0 6 a = M1 a := fun a ha => by
    funext j; show (if _ then _ else _) = _; rw [if_neg (fun z => ha z.1)]
  have c1 : ∀ q, 0 ≤ q → q < 6 → qcpy M1 20 29 0 0 6 29 q = M 20 q := fun q q0 q1 => by
    show (if _ then _ else _) = _
    rw [if_pos ⟨rfl, q0, (by omega)⟩, m1 20 (by decide)]; congr 1; omega
  generalize qcpy M1 20 29 0 0 6 = M2 at *
  refine u_fill (n := 36) rfl (by decide) (by decide) (fun M3 m3 v3 => u_fill (n := 36) rfl (by decide) (by decide) (fun M4 m4 v4 => ?_))
  have e5 : (qup M4 27 6 0) 17 5 = M 17 5 := by rw [qup_row (by decide), m4 17 (by decide), m3 17 (by decide), c0 17 (by decide), m1 17 (by decide)]
  rw [e5]
  have e6 : (qup (qup M4 27 6 0) 27 10 (M 17 5)) 17 6 = M 17 6 := by rw [qup_row (by decide), qup_row (by decide), m4 17 (by decide), m3 17 (by decide), c0 17 (by decide), m1 17 (by decide)]
  rw [e6]
  have k : ∀ a, a ≠ 27 → (qup (qup (qup M4 27 6 0) 27 10 (M 17 5)) 27 11 (M 17 6)) a = M4 a := fun a ha => by rw [qup_row ha, qup_row ha, qup_row ha]
  have k27 : ∀ j, (qup (qup (qup M4 27 6 0) 27 10 (M 17 5)) 27 11 (M 17 6)) 27 j = if j = 11 then M 17 6 else if j = 10 then M 17 5 else if j = 6 then 0 else M4 27 j := fun j => by rw [qup_at, qup_at, qup_at]
  generalize qup (qup (qup M4 27 6 0) 27 10 (M 17 5)) 27 11 (M 17 6) = M5 at *
  refine hp M5 (fun a ha => by rw [k a (by omega), m4 a (by omega), m3 a (by omega), c0 a (by omega), m1 a (by omega)]) (fun e e0 e1 => ⟨?_, ?_⟩) (fun q q0 q1 => ⟨?_, ?_⟩) ?_ ?_ ?_
  · rw [k 28 (by omega), m4 28 (by omega), m3 28 (by omega), c0 28 (by omega)]; exact v1 e e0 e1
  · rw [k 29 (by omega), m4 29 (by omega), m3 29 (by omega)]; exact c1 e e0 e1
  · rw [k 32 (by omega), m4 32 (by omega)]; exact v3 q q0 q1
  · rw [k 33 (by omega)]; exact v4 q q0 q1
  · rw [k27]; rfl
  · rw [k27]; rfl
  · rw [k27]; rfl
end Beg
section RR
variable {X : QX} {d : Nat} {post : Int → QH → Prop} {M : QMem} {E : List (Int × Int × Int)}
theorem k_RR0 {s : List QRow} (hs : (s.length : Int) = 0) (hE : ∀ e ∈ E, e.1 < 1) (k : QR X (d + 6) (214, 16461) qmX10_init post (1, 900) 13 [(0, (2, 0))] [] (kH ([] ++ (((10, 11), [1, -1, -1, -1, -1, -1, -1, -1, -1, -1, -1]) :: (s ++ [((102, 900), [])]))) 0 M E)) : QR X (d + 6) (214, 16461) qmX10_init post (0, 0) 0 [(0, (2, 0))] [] (kH ([] ++ (((10, 11), [-1, -1, -1, -1, -1, -1, -1, -1, -1, -1, -1]) :: s)) 0 M E) := by
  have hc : (([] : List QRow).length : Int) = 0 := rfl
  refine qwp_ok qmX10_init_ok.1 [(13, [0])] 12 ⟨(by decide), (by decide), (by decide), kCnt, kAdd_sh hc, ?_⟩
  refine QR.heq (kAdd 0 [] 1 kNil hc (show 1 = 0 + 1 + (s.length : Int) by omega) (by show 0 < 11; decide) hE (by omega)) ?_
  exact k
theorem k_RR1 {s : List QRow} (hs : (s.length : Int) = 1) (hE : ∀ e ∈ E, e.1 < 2) (k : QR X (d + 6) (214, 16461) qmX10_init post (16, 5547) 24 [(0, (2, 0))] [] (kH ([] ++ (((10, 11), [1, -1, 2, -1, -1, -1, -1, -1, -1, -1, -1]) :: (s ++ trReader 2))) 0 M ((2 + 1, 1, 2) :: (2 + 1, 0, 2) :: (2, 1, -1) :: E))) : QR X (d + 6) (214, 16461) qmX10_init post (1, 900) 13 [(0, (2, 0))] [] (kH ([] ++ (((10, 11), [1, -1, -1, -1, -1, -1, -1, -1, -1, -1, -1]) :: s)) 0 M E) := by
  have hc : (([] : List QRow).length : Int) = 0 := rfl
  refine qwp_ok qmX10_init_ok.1 [(24, [0])] 12 ⟨kCnt2, kCnt2, kObj [-1, -1, -1, -1, -1, -1] (kRep 6) hc (show 2 = 0 + 1 + (s.length : Int) by omega) hE (by omega) (k_Reader (kLen (N := 0) (M := M) (E := E) hc (show 2 = 0 + 1 + (s.length : Int) by omega)) (kE hE (by omega)) (by omega) ⟨congrArg Prod.fst (kSh_at2 hc), ?_⟩)⟩
  refine QR.heq (kPut2 2 hc (by show 2 < 11; decide) (kLen (N := 0) (M := M) (E := E) hc (show 2 = 0 + 1 + (s.length : Int) by omega))) ?_
  exact k
theorem k_RR2 {s : List QRow} (hs : (s.length : Int) = 16) (hE : ∀ e ∈ E, e.1 < 17) (k : QR X (d + 6) (214, 16461) qmX10_init post (26, 7477) 35 [(0, (2, 0))] [] (kH ([] ++ (((10, 11), [1, -1, 2, 17, -1, -1, -1, -1, -1, -1, -1]) :: (s ++ trLand 17))) 0 M ((17, 1, 2) :: (17, 0, 2) :: E))) : QR X (d + 6) (214, 16461) qmX10_init post (16, 5547) 24 [(0, (2, 0))] [] (kH ([] ++ (((10, 11), [1, -1, 2, -1, -1, -1, -1, -1, -1, -1, -1]) :: s)) 0 M E) := by
  have hc : (([] : List QRow).length : Int) = 0 := rfl
  refine qwp_ok qmX10_init_ok.1 [(35, [0])] 12 ⟨kCnt2, kCnt2, kObj [-1, -1, -1, -1, -1, -1, -1, -1, -1, -1, -1, -1] (kRep 12) hc (show 17 = 0 + 1 + (s.length : Int) by omega) hE (by omega) (k_Land (kLen (N := 0) (M := M) (E := E) hc (show 17 = 0 + 1 + (s.length : Int) by omega)) (kE hE (by omega)) (by omega) ⟨congrArg Prod.fst (kSh_at2 hc), ?_⟩)⟩
  refine QR.heq (kPut2 3 hc (by show 3 < 11; decide) (kLen (N := 0) (M := M) (E := E) hc (show 17 = 0 + 1 + (s.length : Int) by omega))) ?_
  exact k
theorem k_RR3 {s : List QRow} (hs : (s.length : Int) = 26) (hE : ∀ e ∈ E, e.1 < 27) (k : QR X (d + 6) (214, 16461) qmX10_init post (36, 7789) 46 [(0, (2, 0))] [] (kH ([] ++ (((10, 11), [1, -1, 2, 17, 27, -1, -1, -1, -1, -1, -1]) :: (s ++ trState 27))) 0 M (E))) : QR X (d + 6) (214, 16461) qmX10_init post (26, 7477) 35 [(0, (2, 0))] [] (kH ([] ++ (((10, 11), [1, -1, 2, 17, -1, -1, -1, -1, -1, -1, -1]) :: s)) 0 M E) := by
  have hc : (([] : List QRow).length : Int) = 0 := rfl
  refine qwp_ok qmX10_init_ok.1 [(46, [0])] 12 ⟨kCnt2, kCnt2, kObj [-1, -1, -1, -1, -1, -1, -1, -1, -1, -1, -1, -1] (kRep 12) hc (show 27 = 0 + 1 + (s.length : Int) by omega) hE (by omega) (k_State (kLen (N := 0) (M := M) (E := E) hc (show 27 = 0 + 1 + (s.length : Int) by omega)) (kE hE (by omega)) (by omega) ⟨congrArg Prod.fst (kSh_at2 hc), ?_⟩)⟩
  refine QR.heq (kPut2 4 hc (by show 4 < 11; decide) (kLen (N := 0) (M := M) (E := E) hc (show 27 = 0 + 1 + (s.length : Int) by omega))) ?_
  exact k
theorem k_RR4 {s : List QRow} (hs : (s.length : Int) = 36) (hE : ∀ e ∈ E, e.1 < 37) (k : QR X (d + 6) (214, 16461) qmX10_init post (46, 8101) 57 [(0, (2, 0))] [] (kH ([] ++ (((10, 11), [1, -1, 2, 17, 27, 37, -1, -1, -1, -1, -1]) :: (s ++ trState 37))) 0 M (E))) : QR X (d + 6) (214, 16461) qmX10_init post (36, 7789) 46 [(0, (2, 0))] [] (kH ([] ++ (((10, 11), [1, -1, 2, 17, 27, -1, -1, -1, -1, -1, -1]) :: s)) 0 M E) := by
  have hc : (([] : List QRow).length : Int) = 0 := rfl
  refine qwp_ok qmX10_init_ok.1 [(57, [0])] 12 ⟨kCnt2, kCnt2, kObj [-1, -1, -1, -1, -1, -1, -1, -1, -1, -1, -1, -1] (kRep 12) hc (show 37 = 0 + 1 + (s.length : Int) by omega) hE (by omega) (k_State (kLen (N := 0) (M := M) (E := E) hc (show 37 = 0 + 1 + (s.length : Int) by omega)) (kE hE (by omega)) (by omega) ⟨congrArg Prod.fst (kSh_at2 hc), ?_⟩)⟩
  refine QR.heq (kPut2 5 hc (by show 5 < 11; decide) (kLen (N := 0) (M := M) (E := E) hc (show 37 = 0 + 1 + (s.length : Int) by omega))) ?_
  exact k
theorem k_RR5 {s : List QRow} (hs : (s.length : Int) = 46) (hE : ∀ e ∈ E, e.1 < 47) (k : QR X (d + 6) (214, 16461) qmX10_init post (148, 11234) 68 [(0, (2, 0))] [] (kH ([] ++ (((10, 11), [1, -1, 2, 17, 27, 37, 47, -1, -1, -1, -1]) :: (s ++ trPast 47))) 0 M (E))) : QR X (d + 6) (214, 16461) qmX10_init post (46, 8101) 57 [(0, (2, 0))] [] (kH ([] ++ (((10, 11), [1, -1, 2, 17, 27, 37, -1, -1, -1, -1, -1]) :: s)) 0 M E) := by
  have hc : (([] : List QRow).length : Int) = 0 := rfl
  refine qwp_ok qmX10_init_ok.1 [(68, [0])] 12 ⟨kCnt2, kCnt2, kObj [-1, -1, -1] (kRep 3) hc (show 47 = 0 + 1 + (s.length : Int) by omega) hE (by omega) (k_Past (kLen (N := 0) (M := M) (E := E) hc (show 47 = 0 + 1 + (s.length : Int) by omega)) (kE hE (by omega)) (by omega) ⟨congrArg Prod.fst (kSh_at2 hc), ?_⟩)⟩
  refine QR.heq (kPut2 6 hc (by show 6 < 11; decide) (kLen (N := 0) (M := M) (E := E) hc (show 47 = 0 + 1 + (s.length : Int) by omega))) ?_
  exact k
theorem k_RR6 {s : List QRow} (hs : (s.length : Int) = 148) (hE : ∀ e ∈ E, e.1 < 149) (k : QR X (d + 6) (214, 16461) qmX10_init post (149, 11238) 76 [(0, (2, 0))] [] (kH ([] ++ (((10, 11), [1, -1, 2, 17, 27, 37, 47, 149, -1, -1, -1]) :: (s ++ [((105, 4), [-1, -1, -1, -1])]))) 0 M E)) : QR X (d + 6) (214, 16461) qmX10_init post (148, 11234) 68 [(0, (2, 0))] [] (kH ([] ++ (((10, 11), [1, -1, 2, 17, 27, 37, 47, -1, -1, -1, -1]) :: s)) 0 M E) := by
  have hc : (([] : List QRow).length : Int) = 0 := rfl
  refine qwp_ok qmX10_init_ok.1 [(76, [0])] 12 ⟨(by decide), (by decide), kCnt, kAdd_sh hc, ?_⟩
  refine QR.heq (kAdd 7 [-1, -1, -1, -1] 149 (kRep 4) hc (show 149 = 0 + 1 + (s.length : Int) by omega) (by show 7 < 11; decide) hE (by omega)) ?_
  exact k
theorem k_RR7 {s : List QRow} (hs : (s.length : Int) = 149) (hE : ∀ e ∈ E, e.1 < 150) (k : QR X (d + 6) (214, 16461) qmX10_init post (150, 11240) 84 [(0, (2, 0))] [] (kH ([] ++ (((10, 11), [1, -1, 2, 17, 27, 37, 47, 149, 150, -1, -1]) :: (s ++ [((106, 2), [-1, -1])]))) 0 M E)) : QR X (d + 6) (214, 16461) qmX10_init post (149, 11238) 76 [(0, (2, 0))] [] (kH ([] ++ (((10, 11), [1, -1, 2, 17, 27, 37, 47, 149, -1, -1, -1]) :: s)) 0 M E) := by
  have hc : (([] : List QRow).length : Int) = 0 := rfl
  refine qwp_ok qmX10_init_ok.1 [(84, [0])] 12 ⟨(by decide), (by decide), kCnt, kAdd_sh hc, ?_⟩
  refine QR.heq (kAdd 8 [-1, -1] 150 (kRep 2) hc (show 150 = 0 + 1 + (s.length : Int) by omega) (by show 8 < 11; decide) hE (by omega)) ?_
  exact k
theorem k_RR8 {s : List QRow} (hs : (s.length : Int) = 150) (hE : ∀ e ∈ E, e.1 < 151) (k : QR X (d + 6) (214, 16461) qmX10_init post (160, 11689) 95 [(0, (2, 0))] [] (kH ([] ++ (((10, 11), [1, -1, 2, 17, 27, 37, 47, 149, 150, 151, -1]) :: (s ++ trWays 151))) 0 M ((151, 10, 1) :: E))) : QR X (d + 6) (214, 16461) qmX10_init post (150, 11240) 84 [(0, (2, 0))] [] (kH ([] ++ (((10, 11), [1, -1, 2, 17, 27, 37, 47, 149, 150, -1, -1]) :: s)) 0 M E) := by
  have hc : (([] : List QRow).length : Int) = 0 := rfl
  refine qwp_ok qmX10_init_ok.1 [(95, [0])] 12 ⟨kCnt2, kCnt2, kObj [-1, -1, -1, -1, -1, -1, -1, -1, -1, -1, -1, -1, -1, -1, -1, -1, -1] (kRep 17) hc (show 151 = 0 + 1 + (s.length : Int) by omega) hE (by omega) (k_Ways (kLen (N := 0) (M := M) (E := E) hc (show 151 = 0 + 1 + (s.length : Int) by omega)) (kE hE (by omega)) (by omega) ⟨congrArg Prod.fst (kSh_at2 hc), ?_⟩)⟩
  refine QR.heq (kPut2 9 hc (by show 9 < 11; decide) (kLen (N := 0) (M := M) (E := E) hc (show 151 = 0 + 1 + (s.length : Int) by omega))) ?_
  exact k
theorem k_RR9 {s : List QRow} (hs : (s.length : Int) = 160) (hE : ∀ e ∈ E, e.1 < 161) (k : QR X (d + 6) (214, 16461) qmX10_init post (164, 11799) 106 [(0, (2, 0))] [] (kH ([] ++ (((10, 11), [1, -1, 2, 17, 27, 37, 47, 149, 150, 151, 161]) :: (s ++ trPiles 161))) 0 M (E))) : QR X (d + 6) (214, 16461) qmX10_init post (160, 11689) 95 [(0, (2, 0))] [] (kH ([] ++ (((10, 11), [1, -1, 2, 17, 27, 37, 47, 149, 150, 151, -1]) :: s)) 0 M E) := by
  have hc : (([] : List QRow).length : Int) = 0 := rfl
  refine qwp_ok qmX10_init_ok.1 [(106, [0])] 12 ⟨kCnt2, kCnt2, kObj [-1, -1, -1, -1] (kRep 4) hc (show 161 = 0 + 1 + (s.length : Int) by omega) hE (by omega) (k_Piles (kLen (N := 0) (M := M) (E := E) hc (show 161 = 0 + 1 + (s.length : Int) by omega)) (kE hE (by omega)) (by omega) ⟨congrArg Prod.fst (kSh_at2 hc), ?_⟩)⟩
  refine QR.heq (kPut2 10 hc (by show 10 < 11; decide) (kLen (N := 0) (M := M) (E := E) hc (show 161 = 0 + 1 + (s.length : Int) by omega))) ?_
  exact k
theorem kLenM {s S1 : List QRow} {r a : QRow} {N : Int} {M : QMem} {E : List (Int × Int × Int)} {v : Int} (hv : v = 2 + (S1.length : Int) + (s.length : Int)) : (kH ([] ++ (r :: (S1 ++ (a :: s)))) N M E).1.1 = v := by
  show (([] ++ (r :: (S1 ++ (a :: s)))).length : Int) = v
  rw [List.nil_append, List.length_cons, List.length_append, List.length_cons]; omega
theorem kSh_m {s S1 q : List QRow} {r a : QRow} {v : Int} (hv : 1 + (S1.length : Int) = v) : kSh (([] ++ (r :: (S1 ++ (a :: s)))) ++ q) v = a.1 := by
  have e : ([] ++ (r :: (S1 ++ (a :: s)))) ++ q = (r :: S1) ++ (a :: (s ++ q)) := by simp
  rw [e]; exact kSh_at (by rw [List.length_cons]; omega)
theorem kPutM {s S1 q : List QRow} {r : QRow} {sh : Nat × Int} {l : List Int} {N : Int} {M : QMem} {E : List (Int × Int × Int)} {x v w : Int} (j : Nat) (hv : 1 + (S1.length : Int) = v) (hj : j < l.length) (hx : x = w) : qputf (kH (([] ++ (r :: (S1 ++ ((sh, l) :: s)))) ++ q) N M E) 2 v (j : Int) x = kH ([] ++ (r :: (S1 ++ ((sh, l.set j w) :: (s ++ q))))) N M E := by
  have e : ([] ++ (r :: (S1 ++ ((sh, l) :: s)))) ++ q = (r :: S1) ++ ((sh, l) :: (s ++ q)) := by simp
  rw [e, hx]; exact kPut j (by rw [List.length_cons]; omega) hj
theorem kObjM {X : QX} {d mc ms : Nat} {y : MethodName} {Q : Int → QH → Prop} {s S1 : List QRow} {r a : QRow} {N : Int} {M : QMem} {E : List (Int × Int × Int)} {k : Nat} {n v : Int} (w : List Int) (hw : ∀ j : Nat, qnth w j (-1) = -1) (hv : v = 2 + (S1.length : Int) + (s.length : Int)) (hE : ∀ e ∈ E, e.1 < v) (hN : N ≤ v) (hq : QC X d mc ms 0 y [(2, v)] (kH (([] ++ (r :: (S1 ++ (a :: s)))) ++ [((k, n), w)]) N M E) Q) : QC X d mc ms 0 y ((2, (kH ([] ++ (r :: (S1 ++ (a :: s)))) N M E).1.1) :: []) (qnew (kH ([] ++ (r :: (S1 ++ (a :: s)))) N M E) k n) Q := by
  have hl : (([] ++ (r :: (S1 ++ (a :: s)))).length : Int) = v := kLenM (N := N) (M := M) (E := E) hv
  rw [kLenM hv]
  exact QC.heq (kNew w hw (by rw [hl]; exact hE) (by rw [hl]; exact hN)) hq
theorem k_Trays0 {l : List Int} {s S1 : List QRow} (hS : (S1.length : Int) = 148) (hs : (s.length : Int) = 15) (hl : l.length = 4) (hE : ∀ e ∈ E, e.1 < 165) (k : QR X (d + 6) (214, 16461) qmX10_init post (166, 11842) 108 [(0, (2, 0)), (1, (0, 1))] [] (kH ([] ++ (((10, 11), [1, -1, 2, 17, 27, 37, 47, 149, 150, 151, 161]) :: (S1 ++ (((105, 4), l.set 0 165) :: (s ++ trTray 165))))) 0 M ((165, 2, -1) :: E))) : QR X (d + 6) (214, 16461) qmX10_init post (164, 11799) 108 [(0, (2, 0)), (1, (0, 0))] [] (kH ([] ++ (((10, 11), [1, -1, 2, 17, 27, 37, 47, 149, 150, 151, 161]) :: (S1 ++ (((105, 4), l) :: s)))) 0 M E) := by
  have h1 : 1 + (S1.length : Int) = 149 := (by omega)
  refine qwp_ok qmX10_init_ok.1 [(117, [0, 1])] 8 ⟨i32 (by decide) (by decide), i32 (by decide) (by decide), fun z => absurd z (by decide), fun _ => ⟨rfl, ?_⟩⟩
  refine QR.top (b := 149) rfl ?_
  refine qwp_ok qmX10_init_ok.1 [(108, [0, 1])] 12 ⟨kCnt2, kCnt2, kObjM [-1, -1, -1] (kRep 3) (show (165 : Int) = 2 + (S1.length : Int) + (s.length : Int) by omega) hE (by omega) (k_Tray (kLenM (N := 0) (M := M) (E := E) (show (165 : Int) = 2 + (S1.length : Int) + (s.length : Int) by omega)) (kE hE (by omega)) (by omega) ⟨Or.inr (Or.inl ⟨congrArg Prod.fst (kSh_m h1), congrArg Prod.fst (kSh_at rfl)⟩), (by decide), kLt (kSh_m h1) (by decide), ?_⟩)⟩
  refine QR.heq (kPutM 0 h1 (by rw [hl]; decide) (kLenM (N := 0) (M := M) (E := E) (show (165 : Int) = 2 + (S1.length : Int) + (s.length : Int) by omega))) ?_
  exact k
theorem k_Trays1 {l : List Int} {s S1 : List QRow} (hS : (S1.length : Int) = 148) (hs : (s.length : Int) = 17) (hl : l.length = 4) (hE : ∀ e ∈ E, e.1 < 167) (k : QR X (d + 6) (214, 16461) qmX10_init post (168, 11885) 108 [(0, (2, 0)), (1, (0, 2))] [] (kH ([] ++ (((10, 11), [1, -1, 2, 17, 27, 37, 47, 149, 150, 151, 161]) :: (S1 ++ (((105, 4), l.set 1 167) :: (s ++ trTray 167))))) 0 M ((167, 2, -1) :: E))) : QR X (d + 6) (214, 16461) qmX10_init post (166, 11842) 108 [(0, (2, 0)), (1, (0, 1))] [] (kH ([] ++ (((10, 11), [1, -1, 2, 17, 27, 37, 47, 149, 150, 151, 161]) :: (S1 ++ (((105, 4), l) :: s)))) 0 M E) := by
  have h1 : 1 + (S1.length : Int) = 149 := (by omega)
  refine qwp_ok qmX10_init_ok.1 [(117, [0, 1])] 8 ⟨i32 (by decide) (by decide), i32 (by decide) (by decide), fun z => absurd z (by decide), fun _ => ⟨rfl, ?_⟩⟩
  refine QR.top (b := 149) rfl ?_
  refine qwp_ok qmX10_init_ok.1 [(108, [0, 1])] 12 ⟨kCnt2, kCnt2, kObjM [-1, -1, -1] (kRep 3) (show (167 : Int) = 2 + (S1.length : Int) + (s.length : Int) by omega) hE (by omega) (k_Tray (kLenM (N := 0) (M := M) (E := E) (show (167 : Int) = 2 + (S1.length : Int) + (s.length : Int) by omega)) (kE hE (by omega)) (by omega) ⟨Or.inr (Or.inl ⟨congrArg Prod.fst (kSh_m h1), congrArg Prod.fst (kSh_at rfl)⟩), (by decide), kLt (kSh_m h1) (by decide), ?_⟩)⟩
  refine QR.heq (kPutM 1 h1 (by rw [hl]; decide) (kLenM (N := 0) (M := M) (E := E) (show (167 : Int) = 2 + (S1.length : Int) + (s.length : Int) by omega))) ?_
  exact k
theorem k_Trays2 {l : List Int} {s S1 : List QRow} (hS : (S1.length : Int) = 148) (hs : (s.length : Int) = 19) (hl : l.length = 4) (hE : ∀ e ∈ E, e.1 < 169) (k : QR X (d + 6) (214, 16461) qmX10_init post (170, 11928) 108 [(0, (2, 0)), (1, (0, 3))] [] (kH ([] ++ (((10, 11), [1, -1, 2, 17, 27, 37, 47, 149, 150, 151, 161]) :: (S1 ++ (((105, 4), l.set 2 169) :: (s ++ trTray 169))))) 0 M ((169, 2, -1) :: E))) : QR X (d + 6) (214, 16461) qmX10_init post (168, 11885) 108 [(0, (2, 0)), (1, (0, 2))] [] (kH ([] ++ (((10, 11), [1, -1, 2, 17, 27, 37, 47, 149, 150, 151, 161]) :: (S1 ++ (((105, 4), l) :: s)))) 0 M E) := by
  have h1 : 1 + (S1.length : Int) = 149 := (by omega)
  refine qwp_ok qmX10_init_ok.1 [(117, [0, 1])] 8 ⟨i32 (by decide) (by decide), i32 (by decide) (by decide), fun z => absurd z (by decide), fun _ => ⟨rfl, ?_⟩⟩
  refine QR.top (b := 149) rfl ?_
  refine qwp_ok qmX10_init_ok.1 [(108, [0, 1])] 12 ⟨kCnt2, kCnt2, kObjM [-1, -1, -1] (kRep 3) (show (169 : Int) = 2 + (S1.length : Int) + (s.length : Int) by omega) hE (by omega) (k_Tray (kLenM (N := 0) (M := M) (E := E) (show (169 : Int) = 2 + (S1.length : Int) + (s.length : Int) by omega)) (kE hE (by omega)) (by omega) ⟨Or.inr (Or.inl ⟨congrArg Prod.fst (kSh_m h1), congrArg Prod.fst (kSh_at rfl)⟩), (by decide), kLt (kSh_m h1) (by decide), ?_⟩)⟩
  refine QR.heq (kPutM 2 h1 (by rw [hl]; decide) (kLenM (N := 0) (M := M) (E := E) (show (169 : Int) = 2 + (S1.length : Int) + (s.length : Int) by omega))) ?_
  exact k
theorem k_Trays3 {l : List Int} {s S1 : List QRow} (hS : (S1.length : Int) = 148) (hs : (s.length : Int) = 21) (hl : l.length = 4) (hE : ∀ e ∈ E, e.1 < 171) (k : QR X (d + 6) (214, 16461) qmX10_init post (172, 11971) 108 [(0, (2, 0)), (1, (0, 4))] [] (kH ([] ++ (((10, 11), [1, -1, 2, 17, 27, 37, 47, 149, 150, 151, 161]) :: (S1 ++ (((105, 4), l.set 3 171) :: (s ++ trTray 171))))) 0 M ((171, 2, -1) :: E))) : QR X (d + 6) (214, 16461) qmX10_init post (170, 11928) 108 [(0, (2, 0)), (1, (0, 3))] [] (kH ([] ++ (((10, 11), [1, -1, 2, 17, 27, 37, 47, 149, 150, 151, 161]) :: (S1 ++ (((105, 4), l) :: s)))) 0 M E) := by
  have h1 : 1 + (S1.length : Int) = 149 := (by omega)
  refine qwp_ok qmX10_init_ok.1 [(117, [0, 1])] 8 ⟨i32 (by decide) (by decide), i32 (by decide) (by decide), fun z => absurd z (by decide), fun _ => ⟨rfl, ?_⟩⟩
  refine QR.top (b := 149) rfl ?_
  refine qwp_ok qmX10_init_ok.1 [(108, [0, 1])] 12 ⟨kCnt2, kCnt2, kObjM [-1, -1, -1] (kRep 3) (show (171 : Int) = 2 + (S1.length : Int) + (s.length : Int) by omega) hE (by omega) (k_Tray (kLenM (N := 0) (M := M) (E := E) (show (171 : Int) = 2 + (S1.length : Int) + (s.length : Int) by omega)) (kE hE (by omega)) (by omega) ⟨Or.inr (Or.inl ⟨congrArg Prod.fst (kSh_m h1), congrArg Prod.fst (kSh_at rfl)⟩), (by decide), kLt (kSh_m h1) (by decide), ?_⟩)⟩
  refine QR.heq (kPutM 3 h1 (by rw [hl]; decide) (kLenM (N := 0) (M := M) (E := E) (show (171 : Int) = 2 + (S1.length : Int) + (s.length : Int) by omega))) ?_
  exact k
theorem k_Imgs0 {l : List Int} {s S1 : List QRow} (hS : (S1.length : Int) = 149) (hs : (s.length : Int) = 22) (hl : l.length = 2) (hE : ∀ e ∈ E, e.1 < 173) (k : QR X (d + 6) (214, 16461) qmX10_init post (193, 14216) 134 [(0, (2, 0)), (1, (0, 1))] [] (kH ([] ++ (((10, 11), [1, -1, 2, 17, 27, 37, 47, 149, 150, 151, 161]) :: (S1 ++ (((106, 2), l.set 0 173) :: (s ++ trImage 173))))) 0 M ((173 + 1, 1, 2) :: (173 + 1, 0, 2) :: E))) : QR X (d + 6) (214, 16461) qmX10_init post (172, 11971) 134 [(0, (2, 0)), (1, (0, 0))] [] (kH ([] ++ (((10, 11), [1, -1, 2, 17, 27, 37, 47, 149, 150, 151, 161]) :: (S1 ++ (((106, 2), l) :: s)))) 0 M E) := by
  have h1 : 1 + (S1.length : Int) = 150 := (by omega)
  refine qwp_ok qmX10_init_ok.1 [(143, [0, 1])] 8 ⟨i32 (by decide) (by decide), i32 (by decide) (by decide), fun z => absurd z (by decide), fun _ => ⟨rfl, ?_⟩⟩
  refine QR.top (b := 150) rfl ?_
  refine qwp_ok qmX10_init_ok.1 [(134, [0, 1])] 12 ⟨kCnt2, kCnt2, kObjM [-1, -1, -1] (kRep 3) (show (173 : Int) = 2 + (S1.length : Int) + (s.length : Int) by omega) hE (by omega) (k_Image (kLenM (N := 0) (M := M) (E := E) (show (173 : Int) = 2 + (S1.length : Int) + (s.length : Int) by omega)) (kE hE (by omega)) (by omega) ⟨Or.inr (Or.inr ⟨congrArg Prod.fst (kSh_m h1), congrArg Prod.fst (kSh_at rfl)⟩), (by decide), kLt (kSh_m h1) (by decide), ?_⟩)⟩
  refine QR.heq (kPutM 0 h1 (by rw [hl]; decide) (kLenM (N := 0) (M := M) (E := E) (show (173 : Int) = 2 + (S1.length : Int) + (s.length : Int) by omega))) ?_
  exact k
theorem k_Imgs1 {l : List Int} {s S1 : List QRow} (hS : (S1.length : Int) = 149) (hs : (s.length : Int) = 43) (hl : l.length = 2) (hE : ∀ e ∈ E, e.1 < 194) (k : QR X (d + 6) (214, 16461) qmX10_init post (214, 16461) 134 [(0, (2, 0)), (1, (0, 2))] [] (kH ([] ++ (((10, 11), [1, -1, 2, 17, 27, 37, 47, 149, 150, 151, 161]) :: (S1 ++ (((106, 2), l.set 1 194) :: (s ++ trImage 194))))) 0 M ((194 + 1, 1, 2) :: (194 + 1, 0, 2) :: E))) : QR X (d + 6) (214, 16461) qmX10_init post (193, 14216) 134 [(0, (2, 0)), (1, (0, 1))] [] (kH ([] ++ (((10, 11), [1, -1, 2, 17, 27, 37, 47, 149, 150, 151, 161]) :: (S1 ++ (((106, 2), l) :: s)))) 0 M E) := by
  have h1 : 1 + (S1.length : Int) = 150 := (by omega)
  refine qwp_ok qmX10_init_ok.1 [(143, [0, 1])] 8 ⟨i32 (by decide) (by decide), i32 (by decide) (by decide), fun z => absurd z (by decide), fun _ => ⟨rfl, ?_⟩⟩
  refine QR.top (b := 150) rfl ?_
  refine qwp_ok qmX10_init_ok.1 [(134, [0, 1])] 12 ⟨kCnt2, kCnt2, kObjM [-1, -1, -1] (kRep 3) (show (194 : Int) = 2 + (S1.length : Int) + (s.length : Int) by omega) hE (by omega) (k_Image (kLenM (N := 0) (M := M) (E := E) (show (194 : Int) = 2 + (S1.length : Int) + (s.length : Int) by omega)) (kE hE (by omega)) (by omega) ⟨Or.inr (Or.inr ⟨congrArg Prod.fst (kSh_m h1), congrArg Prod.fst (kSh_at rfl)⟩), (by decide), kLt (kSh_m h1) (by decide), ?_⟩)⟩
  refine QR.heq (kPutM 1 h1 (by rw [hl]; decide) (kLenM (N := 0) (M := M) (E := E) (show (194 : Int) = 2 + (S1.length : Int) + (s.length : Int) by omega))) ?_
  exact k
end RR
