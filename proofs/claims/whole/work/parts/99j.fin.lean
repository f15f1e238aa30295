section Raw
variable {X : QX} {x : Int} {d : Nat} {post : Int → QMem → Prop} {M : QMem} {b c : Int}
theorem c_rawCopy (hb : cLP b c) (s4 : 0 ≤ M (c + 4) 2 ∧ M (c + 4) 2 ≤ 900) (s7 : 0 ≤ M (c + 7) 2 ∧ M (c + 7) 2 ≤ 900) (hp : ∀ M1 : QMem, (∀ a, a < b ∨ b + 9 < a → M1 a = M a) → (∀ j, 0 ≤ j → j ≤ 6 → M1 b j = M c j) → (∀ k, 0 ≤ k → k < 36 → M1 (b + 1) k = M (c + 1) k) → (∀ e, 0 ≤ e → e < 6 → M1 (b + 2) e = M (c + 2) e ∧ M1 (b + 3) e = M (c + 3) e) → (M1 (b + 4) 2 = M (c + 4) 2 ∧ ∀ i, 0 ≤ i → i < M (c + 4) 2 → M1 (b + 5) i = M (c + 5) i) → (M1 (b + 7) 2 = M (c + 7) 2 ∧ ∀ i, 0 ≤ i → i < M (c + 7) 2 → M1 (b + 8) i = M (c + 8) i) → post 0 M1) : QCm X x (d + 2) 0 yX1_copyOf [(2, b), (2, c)] M post := by
  have hd : c + 9 < b ∨ b + 9 < c := by rcases hb with ⟨rfl, rfl⟩ | ⟨rfl, rfl⟩ | ⟨rfl, rfl⟩ | ⟨rfl, rfl⟩ | ⟨rfl, rfl⟩ <;> decide
  have hw4 : cWP (b + 4) (c + 4) := by rcases hb with ⟨rfl, rfl⟩ | ⟨rfl, rfl⟩ | ⟨rfl, rfl⟩ | ⟨rfl, rfl⟩ | ⟨rfl, rfl⟩ <;> (unfold cWP; decide)
  have hw7 : cWP (b + 7) (c + 7) := by rcases hb with ⟨rfl, rfl⟩ | ⟨rfl, rfl⟩ | ⟨rfl, rfl⟩ | ⟨rfl, rfl⟩ | ⟨rfl, rfl⟩ <;> (unfold cWP; decide)
  have cp : ∀ (N : QMem) (i n : Int), 1 ≤ i → i ≤ 9 → (∀ a, a < b ∨ b + 9 < a → N a = M a) → (∀ a, a < b ∨ b + 9 < a → qcpy N (c + i) (b + i) 0 0 n a = M a) ∧ (∀ a, a ≠ b + i → qcpy N (c + i) (b + i) 0 0 n a = N a) ∧ (∀ q, 0 ≤ q → q < n → qcpy N (c + i) (b + i) 0 0 n (b + i) q = M (c + i) q) := by
    intro N i n i0 i1 ho
    have k : ∀ a, a ≠ b + i → qcpy N (c + i) (b + i) 0 0 n a = N a := fun a ha => by
      funext j; show (if _ then _ else _) = _; rw [if_neg (fun z => ha z.1)]
    refine ⟨fun a ha => (k a (by omega)).trans (ho a ha), k, fun q q0 q1 => ?_⟩
    show (if _ then _ else _) = _
    rw [if_pos ⟨rfl, q0, (by omega)⟩, ho (c + i) (by omega)]; congr 1; omega
  have up : ∀ (N : QMem) (i : Int), (∀ a, a < b ∨ b + 9 < a → N a = M a) → (∀ a, a < b ∨ b + 9 < a → qup N b i (N c i) a = M a) ∧ (∀ a, a ≠ b → qup N b i (N c i) a = N a) ∧ qup N b i (N c i) b i = M c i ∧ ∀ j, j ≠ i → qup N b i (N c i) b j = N b j := by
    intro N i ho
    refine ⟨fun a ha => (qup_row (by omega)).trans (ho a ha), fun a ha => qup_row ha, ?_, fun j hj => ?_⟩
    · rw [qup_at, if_pos rfl, ho c (by omega)]
    · rw [qup_at, if_neg hj]
  refine QC.of qmX1_copyOf_ok rfl ?_
  refine TX1_copyOf_0 hb ?_
  obtain ⟨o1, k1, v1, w1⟩ := up M 0 (fun _ _ => rfl)
  generalize qup M b 0 (M c 0) = N1 at *
  refine TX1_copyOf_8 hb ?_
  obtain ⟨o2, k2, v2, w2⟩ := up N1 1 o1
  generalize qup N1 b 1 (N1 c 1) = N2 at *
  refine TX1_copyOf_16 hb ?_
  obtain ⟨o3, k3, v3, w3⟩ := up N2 2 o2
  generalize qup N2 b 2 (N2 c 2) = N3 at *
  refine TX1_copyOf_24 hb ?_
  obtain ⟨o4, k4, v4, w4⟩ := up N3 3 o3
  generalize qup N3 b 3 (N3 c 3) = N4 at *
  refine TX1_copyOf_32 hb ?_
  obtain ⟨o5, k5, v5, w5⟩ := up N4 4 o4
  generalize qup N4 b 4 (N4 c 4) = N5 at *
  refine TX1_copyOf_40 hb ?_
  obtain ⟨o6, k6, v6, w6⟩ := up N5 5 o5
  generalize qup N5 b 5 (N5 c 5) = N6 at *
  refine TX1_copyOf_48 hb ?_
  obtain ⟨o7, k7, v7, w7⟩ := up N6 6 o6
  generalize qup N6 b 6 (N6 c 6) = N7 at *
  refine TX1_copyOf_56 hb ?_
  obtain ⟨o8, k8, v8⟩ := cp N7 1 36 (by decide) (by decide) o7
  generalize qcpy N7 (c + 1) (b + 1) 0 0 36 = N8 at *
  refine TX1_copyOf_71 hb ?_
  obtain ⟨o9, k9, v9⟩ := cp N8 2 6 (by decide) (by decide) o8
  generalize qcpy N8 (c + 2) (b + 2) 0 0 6 = N9 at *
  refine TX1_copyOf_86 hb ?_
  obtain ⟨o10, k10, v10⟩ := cp N9 3 6 (by decide) (by decide) o9
  generalize qcpy N9 (c + 3) (b + 3) 0 0 6 = N10 at *
  have g0 : N10 b 0 = M c 0 := by rw [k10 b (by omega), k9 b (by omega), k8 b (by omega), w7 0 (by decide), w6 0 (by decide), w5 0 (by decide), w4 0 (by decide), w3 0 (by decide), w2 0 (by decide), v1]
  have g1 : N10 b 1 = M c 1 := by rw [k10 b (by omega), k9 b (by omega), k8 b (by omega), w7 1 (by decide), w6 1 (by decide), w5 1 (by decide), w4 1 (by decide), w3 1 (by decide), v2]
  have g2 : N10 b 2 = M c 2 := by rw [k10 b (by omega), k9 b (by omega), k8 b (by omega), w7 2 (by decide), w6 2 (by decide), w5 2 (by decide), w4 2 (by decide), v3]
  have g3 : N10 b 3 = M c 3 := by rw [k10 b (by omega), k9 b (by omega), k8 b (by omega), w7 3 (by decide), w6 3 (by decide), w5 3 (by decide), v4]
  have g4 : N10 b 4 = M c 4 := by rw [k10 b (by omega), k9 b (by omega), k8 b (by omega), w7 4 (by decide), w6 4 (by decide), v5]
  have g5 : N10 b 5 = M c 5 := by rw [k10 b (by omega), k9 b (by omega), k8 b (by omega), w7 5 (by decide), v6]
  have g6 : N10 b 6 = M c 6 := by rw [k10 b (by omega), k9 b (by omega), k8 b (by omega), v7]
  have f1 : N10 (b + 1) = N8 (b + 1) := by rw [k10 _ (by omega), k9 _ (by omega)]
  have f2 : N10 (b + 2) = N9 (b + 2) := by rw [k10 _ (by omega)]
  refine TX1_copyOf_101 hb (c_lawCopy hw4 (by rw [o10 _ (by omega)]; exact s4) (fun P1 p1 p2 p3 => c_lawCopy hw7 (by rw [p1 _ (by omega) (by omega), o10 _ (by omega)]; exact s7) (fun P2 q1 q2 q3 => ?_)))
  rw [o10 _ (by omega)] at p2 p3
  rw [o10 _ (by omega)] at p3
  rw [p1 (c + 7) (by omega) (by omega), o10 _ (by omega)] at q2 q3
  rw [p1 _ (by omega) (by omega), o10 _ (by omega)] at q3
  have r : ∀ a, a ≠ b + 4 → a ≠ b + 5 → a ≠ b + 7 → a ≠ b + 8 → P2 a = N10 a := fun a a1 a2 a3 a4 => by rw [q1 a (by omega) (by omega), p1 a (by omega) (by omega)]
  refine hp P2 (fun a ha => by rw [r a (by omega) (by omega) (by omega) (by omega)]; exact o10 a ha) (fun j j0 j1 => ?_) (fun k k0 k1 => ?_) (fun e e0 e1 => ⟨?_, ?_⟩) ⟨?_, fun i i0 i1 => ?_⟩ ⟨q2, fun i i0 i1 => ?_⟩
  · rw [r b (by omega) (by omega) (by omega) (by omega)]
    have : j = 0 ∨ j = 1 ∨ j = 2 ∨ j = 3 ∨ j = 4 ∨ j = 5 ∨ j = 6 := (by omega)
    rcases this with rfl | rfl | rfl | rfl | rfl | rfl | rfl
    · exact g0
    · exact g1
    · exact g2
    · exact g3
    · exact g4
    · exact g5
    · exact g6
  · rw [r _ (by omega) (by omega) (by omega) (by omega), f1, v8 k k0 k1]
  · rw [r _ (by omega) (by omega) (by omega) (by omega), f2, v9 e e0 e1]
  · rw [r _ (by omega) (by omega) (by omega) (by omega), v10 e e0 e1]
  · rw [q1 (b + 4) (by omega) (by omega)]; exact p2
  · rw [q1 (b + 5) (by omega) (by omega)]
    have := p3 i i0 i1
    rw [show b + 4 + 1 = b + 5 by omega, show c + 4 + 1 = c + 5 by omega] at this; exact this
  · have := q3 i i0 i1
    rw [show b + 7 + 1 = b + 8 by omega, show c + 7 + 1 = c + 8 by omega] at this; exact this
theorem c_beginS (hp : ∀ M1 : QMem, (∀ a, a < 27 ∨ 36 < a → M1 a = M a) → (∀ e, 0 ≤ e → e < 6 → M1 28 e = 0 ∧ M1 29 e = M 20 e) → (∀ k, 0 ≤ k → k < 36 → M1 32 k = -1 ∧ M1 33 k = -1) → M1 27 6 = 0 → M1 27 10 = M 17 5 → M1 27 11 = M 17 6 → post 0 M1) : QCm X x (d + 1) 0 yX6_begin [(2, 27), (2, 17)] M post := by
  refine QC.of qmX6_begin_ok rfl (TX6_begin_0 (j_fill (n := 6) rfl (by decide) (by decide) (fun M1 m1 v1 => ?_)))
  have c0 : ∀ a, a ≠ 29 → qcpy M1 20 29 0 0 6 a = M1 a := fun a ha => by
    funext j; show (if _ then _ else _) = _; rw [if_neg (fun z => ha z.1)]
  have c1 : ∀ q, 0 ≤ q → q < 6 → qcpy M1 20 29 0 0 6 29 q = M 20 q := fun q q0 q1 => by
    show (if _ then _ else _) = _
    rw [if_pos ⟨rfl, q0, (by omega)⟩, m1 20 (by decide)]; congr 1; omega
  generalize qcpy M1 20 29 0 0 6 = M2 at *
  refine j_fill (n := 36) rfl (by decide) (by decide) (fun M3 m3 v3 => j_fill (n := 36) rfl (by decide) (by decide) (fun M4 m4 v4 => ?_))
  have e5 : (qup M4 27 6 0) 17 5 = M 17 5 := by rw [qup_row (by decide), m4 17 (by decide), m3 17 (by decide), c0 17 (by decide), m1 17 (by decide)]
  rw [e5]
  have e6 : (qup (qup M4 27 6 0) 27 10 (M 17 5)) 17 6 = M 17 6 := by rw [qup_row (by decide), qup_row (by decide), m4 17 (by decide), m3 17 (by decide), c0 17 (by decide), m1 17 (by decide)]
  rw [e6]
  have k : ∀ a, a ≠ 27 → (qup (qup (qup M4 27 6 0) 27 10 (M 17 5)) 27 11 (M 17 6)) a = M4 a := fun a ha => by rw [qup_row ha, qup_row ha, qup_row ha]
  have k27 : ∀ j, (qup (qup (qup M4 27 6 0) 27 10 (M 17 5)) 27 11 (M 17 6)) 27 j = if j = 11 then M 17 6 else if j = 10 then M 17 5 else if j = 6 then 0 else M4 27 j := fun j => by rw [qup_at, qup_at, qup_at]
  generalize qup (qup (qup M4 27 6 0) 27 10 (M 17 5)) 27 11 (M 17 6) = M5 at *
  refine hp M5 (fun a ha => by rw [k a (by omega), m4 a (by omega), m3 a (by omega), c0 a (by omega), m1 a (by omega)]) (fun e e0 e1 => ⟨?_, ?_⟩) (fun q q0 q1 => ⟨?_, ?_⟩) ?_ ?_ ?_
  · rw [k 28 (by omega), m4 28 (by omega), m3 28 (by omega), c0 28 (by omega)]; exact v1 e e0 e1
  · rw [k 29 (by omega), m4 29 (by omega), m3 29 (by omega)]; exact c1 e e0 e1
  · rw [k 32 (by omega), m4 32 (by omega)]; exact v3 q q0 q1
  · rw [k 33 (by omega)]; exact v4 q q0 q1
  · rw [k27]; rfl
  · rw [k27]; rfl
  · rw [k27]; rfl
end Raw
theorem fin_ok {A : Int → Int} {L : Int → List Int} {B : Int → Int} {F : QMem} (ok : pOk A L) (r : rRd A L F) (hz : F 219 3474 ≤ 900) (hB : ∀ j, 0 ≤ j → j < 4375 → B j = F 219 j) : rLandOk B ∧ rStOk B ∧ (∀ j, 0 ≤ j → j < 3474 → j < 4 ∨ 10 ≤ j → B j = A j) ∧ ∀ l, l = 0 ∨ l = 1 → (L l = [] ∧ B (4 + l) = 0) ∨ (B (4 + l) = 1 ∧ B (8 + l) = ((L l).length : Int) ∧ ∀ q : Nat, q < (L l).length → rCode B l q = (L l).getD q 0) := by
  have e : ∀ j, 0 ≤ j → j < 3474 → j < 4 ∨ 10 ≤ j → B j = A j := fun j j0 j1 j2 => by rw [hB j j0 (by omega)]; exact r.1 j j0 j1 j2
  have lw : ∀ l, l = 0 ∨ l = 1 → (L l = [] ∧ B (4 + l) = 0) ∨ (B (4 + l) = 1 ∧ B (8 + l) = ((L l).length : Int) ∧ (0 ≤ B (6 + l) ∧ B (6 + l) + B (8 + l) ≤ 900) ∧ lOk l (L l) ∧ ∀ q : Nat, q < (L l).length → rCode B l q = (L l).getD q 0) := fun l hl => by
    rw [hB (4 + l) (by omega) (by omega), hB (8 + l) (by omega) (by omega)]
    rcases r.2.1 l hl with z | ⟨z1, z2, z3, z4, z5, z6⟩
    · exact Or.inl z
    · refine Or.inr ⟨z2, z3, ?_, ?_, fun q hq => ?_⟩
      · rw [hB (6 + l) (by omega) (by omega)]; omega
      · rcases ok.2.2.2.2.2.2.2.2 l hl with y | y
        · exact absurd y z1
        · exact y
      · unfold rCode
        rw [hB (6 + l) (by omega) (by omega), hB _ (by omega) (by omega)]; exact z6 q hq
  obtain ⟨p1, p2, p3, p4, p5, p6, p7, p8, p9⟩ := ok
  have hc := rSt_zero p1 p2
  have e1 := e 1 (by omega) (by omega) (by omega)
  have e2 := e 2 (by omega) (by omega) (by omega)
  have e3 := e 3 (by omega) (by omega) (by omega)
  have zr : ∀ j, (60 ≤ j ∧ j < 258) ∨ (330 ≤ j ∧ j < 3474) → B j = 0 := fun j hj => by rw [e j (by omega) (by omega) (by omega)]; exact p7 j hj
  have mi : ∀ j, 258 ≤ j → j < 330 → B j = -1 := fun j j0 j1 => by rw [e j (by omega) (by omega) (by omega)]; exact p8 j j0 j1
  refine ⟨⟨by rw [e1]; exact p1, by rw [e2]; exact p2, by rw [e3]; exact p3, fun l hl => ?_, fun h4 i hi => ?_, fun k k0 k1 => by rw [e _ (by omega) (by omega) (by omega)]; exact p4 k k0 k1, fun q q0 q1 => ?_⟩, ⟨by rw [e 52 (by omega) (by omega) (by omega)]; exact p6, ⟨fun q q0 q1 => ?_, fun q q0 q1 => ?_, fun q q0 q1 => ?_, fun q i q0 q1 i0 i1 => ?_, fun q i j q0 q1 i0 i1 j1 => ?_⟩, fun q q0 q1 => ?_, ⟨?_, fun t t0 t1 => ?_, fun t u t0 t1 u1 => ?_⟩⟩, e, fun l hl => ?_⟩
  · rcases lw l hl with z | ⟨z1, z2, z3, z4, z5⟩
    · exact Or.inl z.2
    · have ln : (B (8 + l)).toNat = (L l).length := by rw [z2]; omega
      have up : ∀ i : Nat, i < (L l).length → rCode B l i = lFn (L l) i := fun i hi => by rw [z5 i hi]; unfold lFn; rw [Int.toNat_natCast]
      refine Or.inr ⟨z1, z3.1, by rw [z2]; have := z4.1.1; omega, z3.2, ?_, ?_⟩
      · rw [ln]; exact lawOk_upto up z4.2.1
      · rw [ln, lawHi_upto up _ (Nat.le_refl _)]; exact z4.2.2.1
  · rcases lw 0 (Or.inl rfl) with z | ⟨z1, z2, z3, z4, z5⟩
    · have : B 4 = 0 := z.2
      omega
    · have z2' : B 8 = ((L 0).length : Int) := z2
      rw [z5 i (by omega)]; exact z4.2.2.2 rfl i (by omega)
  · rw [e3] at q1
    rw [e _ (by omega) (by omega) (by omega), e1, e2]; exact (p5 q q0 q1).1
  · rw [zr _ (by omega)]; decide
  · rw [e3] at q1
    have h := (p5 q q0 q1).2
    have : rTook B q = 0 := by unfold rTook; rw [zr (60 + q) (by omega)]; rfl
    rw [this, e _ (by omega) (by omega) (by omega)]; omega
  · rw [zr (66 + q) (by omega), zr (162 + q) (by omega), e1, e2]; omega
  · rw [zr _ (by omega)] at i1; omega
  · rw [zr _ (by omega)] at j1; omega
  · rw [mi (294 + q) (by omega) (by omega), mi (258 + q) (by omega) (by omega), e3]; omega
  · rw [zr _ (by omega)]; decide
  · rw [zr _ (by omega)] at t1; omega
  · rw [zr _ (by omega)] at u1; omega
  · rcases lw l hl with z | ⟨z1, z2, z3, z4, z5⟩
    · exact Or.inl z
    · exact Or.inr ⟨z1, z2, z5⟩
/-- the class's new land, taken over -/
def cp17 (N M : QMem) : Prop := (∀ j, 0 ≤ j → j ≤ 6 → M 17 j = N 3 j) ∧ (∀ k, 0 ≤ k → k < 36 → M 18 k = N 4 k) ∧ (∀ e, 0 ≤ e → e < 6 → M 19 e = N 5 e ∧ M 20 e = N 6 e) ∧ ∀ l, l = 0 ∨ l = 1 → M (21 + 3 * l) 2 = N (7 + 3 * l) 2 ∧ ∀ i, 0 ≤ i → i < N (7 + 3 * l) 2 → M (22 + 3 * l) i = N (8 + 3 * l) i
theorem cp17.congr {N M M1 : QMem} (h : cp17 N M) (e : ∀ a, 17 ≤ a → a ≤ 26 → M1 a = M a) : cp17 N M1 := by
  unfold cp17
  rw [e 17 (by omega) (by omega), e 18 (by omega) (by omega), e 19 (by omega) (by omega), e 20 (by omega) (by omega)]
  refine ⟨h.1, h.2.1, h.2.2.1, fun l hl => ?_⟩
  rw [e (21 + 3 * l) (by omega) (by omega), e (22 + 3 * l) (by omega) (by omega)]; exact h.2.2.2 l hl
theorem fin_land {A : Int → Int} {L : Int → List Int} {B : Int → Int} {F N M : QMem} (ok : pOk A L) (r : rRd A L F) (hz : F 219 3474 ≤ 900) (hB : ∀ j, 0 ≤ j → j < 4375 → B j = F 219 j) (c : cRd A L N) (p : cp17 N M) : cLand B 17 M := by
  obtain ⟨_, _, e, lw⟩ := fin_ok ok r hz hB
  obtain ⟨⟨r0, r1, r2, r3, r4, r5, r6⟩, s2, s3, s4⟩ := c
  have a3 := ok.2.2.1
  have hc := rSt_zero ok.1 ok.2.1
  have e1 := e 1 (by omega) (by omega) (by omega)
  have e2 := e 2 (by omega) (by omega) (by omega)
  have e3 := e 3 (by omega) (by omega) (by omega)
  have hh : ∀ q, rHome B q ↔ rHome A q := rHome_cg e3 (fun q q0 q1 => e _ (by omega) (by omega) (by omega))
  refine ⟨⟨?_, ?_, ?_, ?_, ?_⟩, fun k k0 k1 => ?_, fun q q0 q1 => ?_, fun l hl => ?_⟩
  · rw [p.1 0 (by omega) (by omega), r0, e1]
  · rw [p.1 1 (by omega) (by omega), r1, e2]
  · rw [p.1 2 (by omega) (by omega), r2, e3]
  · rw [p.1 3 (by omega) (by omega), r3, e1, e2]
    exact (rSum_congr (fun j hj => e _ (by omega) (by omega) (by omega))).symm
  · rw [p.1 4 (by omega) (by omega), r4, e 0 (by omega) (by omega) (by omega)]
  · rw [hh, e _ (by omega) (by omega) (by omega), show (17 : Int) + 1 = 18 from rfl, p.2.1 k k0 k1]; exact s2 k k0 k1
  · rw [e3] at q1
    rw [show (17 : Int) + 2 = 19 from rfl, (p.2.2.1 q q0 (by omega)).1, e _ (by omega) (by omega) (by omega)]; exact (s3 q q0 q1).1
  · have pl := p.2.2.2 l hl
    have sl := s4 l hl
    rw [show (17 : Int) + 4 + 3 * l = 21 + 3 * l by omega, show (21 : Int) + 3 * l + 1 = 22 + 3 * l by omega, pl.1, sl.1]
    rcases lw l hl with z | ⟨z1, z2, z3⟩
    · refine ⟨fun _ => by rw [z.1]; rfl, fun y => absurd y (by omega)⟩
    · refine ⟨fun y => absurd y (by omega), fun _ => ⟨z2.symm, fun i hi => ?_⟩⟩
      rw [pl.2 i (by omega) (by rw [sl.1]; omega), sl.2 i (by omega), z3 i (by omega)]
theorem fin_st {A : Int → Int} {L : Int → List Int} {B : Int → Int} {F N M : QMem} (ok : pOk A L) (r : rRd A L F) (hz : F 219 3474 ≤ 900) (hB : ∀ j, 0 ≤ j → j < 4375 → B j = F 219 j) (c : cRd A L N) (p : cp17 N M) (h1 : ∀ e, 0 ≤ e → e < 6 → M 28 e = 0 ∧ M 29 e = M 20 e) (h2 : ∀ k, 0 ≤ k → k < 36 → M 32 k = -1 ∧ M 33 k = -1) (h3 : M 27 6 = 0) (h4 : M 27 10 = M 17 5) (h5 : M 27 11 = M 17 6) : cSt B 27 M := by
  obtain ⟨_, _, e, lw⟩ := fin_ok ok r hz hB
  obtain ⟨⟨r0, r1, r2, r3, r4, r5, r6⟩, s2, s3, s4⟩ := c
  obtain ⟨_, _, p3, _, _, _, p7, p8, _⟩ := ok
  have e3 := e 3 (by omega) (by omega) (by omega)
  have zr : ∀ j, (60 ≤ j ∧ j < 258) ∨ (330 ≤ j ∧ j < 3474) → B j = 0 := fun j hj => by rw [e j (by omega) (by omega) (by omega)]; exact p7 j hj
  have mi : ∀ j, 258 ≤ j → j < 330 → B j = -1 := fun j j0 j1 => by rw [e j (by omega) (by omega) (by omega)]; exact p8 j j0 j1
  refine ⟨fun q q0 q1 => ?_, fun q q0 q1 => ?_, fun q i q0 q1 i0 i1 => ?_, fun q q0 q1 => ?_, fun t t0 t1 => ?_, ?_, ?_, ?_⟩
  · rw [zr _ (by omega)]; exact (h1 q q0 q1).1
  · rw [e3] at q1
    rw [show (27 : Int) + 2 = 29 from rfl, (h1 q q0 (by omega)).2, (p.2.2.1 q q0 (by omega)).2, (s3 q q0 q1).2, e _ (by omega) (by omega) (by omega)]
  · rw [zr _ (by omega)] at i1; omega
  · rw [mi (294 + q) (by omega) (by omega), mi (258 + q) (by omega) (by omega)]; exact h2 q q0 q1
  · rw [zr _ (by omega)] at t1; omega
  · rw [zr _ (by omega)]; exact h3
  · rw [h4, p.1 5 (by omega) (by omega), r5, e 52 (by omega) (by omega) (by omega)]
  · rw [h5, p.1 6 (by omega) (by omega), r6, e 53 (by omega) (by omega) (by omega)]
