/-- a byte of a number, and of five -/
def fB (v i : Int) : Int := qi2b (qi2b (qushr v (24 - 8 * i)))
def fV (a b c e f i : Int) : Int := if i < 4 then a else if i < 8 then b else if i < 12 then c else if i < 16 then e else f
section Feed75
variable {X : QX} {x : Int} {d : Nat} {post : Int → QMem → Prop} {M : QMem} {cont : Int → Int → QMem → Prop}
theorem c_putOnTape {v : Int} (h : 0 ≤ M 0 1 ∧ M 0 1 + 4 ≤ 900) (hp : ∀ M1 : QMem, M1 0 1 = M 0 1 + 4 → (∀ a, a ≠ 0 → a ≠ 1 → M1 a = M a) → (∀ j, M1 1 j = if M 0 1 ≤ j ∧ j < M 0 1 + 4 then fB v (j - M 0 1) else M 1 j) → post 0 M1) : QCm X x d 0 yX10_putOnTape [(2, 0), (0, v)] M post := by
  have key : ∀ i : Int, ∀ M1 : QMem, (0 ≤ i ∧ i ≤ 4) ∧ M1 0 1 = M 0 1 + i ∧ (∀ a, a ≠ 0 → a ≠ 1 → M1 a = M a) ∧ (∀ j, M1 1 j = if M 0 1 ≤ j ∧ j < M 0 1 + i then fB v (j - M 0 1) else M 1 j) → QRm X x d qmX10_putOnTape post 3 [(0, (2, 0)), (1, (0, v)), (2, (0, 24 - 8 * i))] [] M1 := by
    refine int_up 4 (fun i hi M1 g => ?_) (fun i hi ih M1 g => ?_)
    · obtain ⟨g0, g1, g2, g3⟩ := g
      have i4 : i = 4 := by omega
      subst i4
      exact TX10_putOnTape_3 ⟨(i32 (by omega) (by omega)), fun _ => hp M1 g1 g2 g3, fun z => absurd (by decide) z⟩
    · obtain ⟨g0, g1, g2, g3⟩ := g
      refine TX10_putOnTape_3 ⟨(i32 (by omega) (by omega)), fun z => absurd z (by omega), fun _ => ⟨(i32 (by omega) (by omega)), fun z => absurd z (by omega), fun _ => ⟨(by omega), (by omega), ?_⟩⟩⟩
      rw [show 24 - 8 * i + -8 = 24 - 8 * (i + 1) by omega]
      refine ih _ ⟨⟨(by omega), (by omega)⟩, ?_, fun a a0 a1 => ?_, fun j => ?_⟩
      · rw [qup_at, if_pos rfl, qup_row (by decide), g1]; omega
      · rw [qup_row a0, qup_row a1]; exact g2 a a0 a1
      · rw [qup_row (by decide), qup_at, g3 j, g1]
        by_cases z : j = M 0 1 + i
        · rw [if_pos z, if_pos ⟨(by omega), (by omega)⟩, z, fB, show M 0 1 + i - M 0 1 = i by omega]
        · rw [if_neg z]
          by_cases y : M 0 1 ≤ j ∧ j < M 0 1 + i
          · rw [if_pos y, if_pos ⟨(by omega), (by omega)⟩]
          · rw [if_neg y, if_neg (by omega)]
  refine QC.of qmX10_putOnTape_ok rfl (TX10_putOnTape_0 ?_)
  exact key 0 M ⟨⟨(by omega), (by omega)⟩, (Int.add_zero _).symm, fun _ _ _ => rfl, fun j => by rw [if_neg (by omega)]⟩
theorem Rel.fed {M M1 : QMem} (hR : Rel M) (k : ∀ a, a ≠ 0 → a ≠ 1 → a ≠ 215 → a ≠ 218 → M1 a = M a) (k5 : M1 215 13 = M 215 13 ∧ M1 215 14 = M 215 14 ∧ M1 215 24 = M 215 24) (h : pTape M1) : Rel M1 := by
  obtain ⟨h1, h2, h3, h4, h5, h6, h7⟩ := hR
  unfold Rel
  rw [k 216 (by omega) (by omega) (by omega) (by omega)]
  refine ⟨⟨h1.1, h1.2.1, h1.2.2.1.congr (fun a ha => k a (by omega) (by omega) (by omega) (by omega)), h1.2.2.2.congr (fun a a0 a1 => k a (by omega) (by omega) (by omega) (by omega))⟩, h2.congr (fun a ha => k a (by omega) (by omega) (by omega) (by omega)), h, ⟨?_, ?_⟩, ?_, h6.congr (fun a ha => k a (by omega) (by omega) (by omega) (by omega)), ?_⟩
  · rw [k 2 (by omega) (by omega) (by omega) (by omega), k5.1]; exact h4.1
  · rw [k 2 (by omega) (by omega) (by omega) (by omega), k5.2.1]; exact h4.2
  · intro t t0 t1
    rw [k 228 (by omega) (by omega) (by omega) (by omega), k 229 (by omega) (by omega) (by omega) (by omega), k 230 (by omega) (by omega) (by omega) (by omega), k (165 + 2 * t) (by omega) (by omega) (by omega) (by omega), k (165 + 2 * t + 1) (by omega) (by omega) (by omega) (by omega)]
    exact h5 t t0 t1
  · rw [k5.2.2]; exact h7
theorem m_feed_loop {a b c e f T : Int} (hT : 0 ≤ T ∧ T + 20 ≤ 900) (hp : ∀ M1 : QMem, M1 215 5 = T + 20 → (∀ r, r ≠ 215 → r ≠ 218 → M1 r = M r) → (∀ j, j ≠ 5 → M1 215 j = M 215 j) → (∀ j, M1 218 j = if T ≤ j ∧ j < T + 20 then qand (qshr (fV a b c e f (j - T)) (24 - 8 * ((j - T).tmod 4))) 255 else M 218 j) → post (T + 20) M1) : ∀ i : Int, ∀ M1 : QMem, (0 ≤ i ∧ i ≤ 20) ∧ M1 215 5 = T + i ∧ (∀ r, r ≠ 215 → r ≠ 218 → M1 r = M r) ∧ (∀ j, j ≠ 5 → M1 215 j = M 215 j) ∧ (∀ j, M1 218 j = if T ≤ j ∧ j < T + i then qand (qshr (fV a b c e f (j - T)) (24 - 8 * ((j - T).tmod 4))) 255 else M 218 j) → QRm X x d qmX11_feed post 24 [(0, (2, 215)), (1, (0, a)), (2, (0, b)), (3, (0, c)), (4, (0, e)), (5, (0, f)), (6, (0, i))] [] M1 := by
  refine int_up 20 (fun i hi M1 g => ?_) (fun i hi ih M1 g => ?_)
  · obtain ⟨g0, g1, g2, g3, g4⟩ := g
    have i4 : i = 20 := by omega
    subst i4
    refine TX11_feed_24 ⟨(i32 (by omega) (by omega)), fun _ => ?_, fun z => absurd (by decide) z⟩
    rw [g1]; exact hp M1 g1 g2 g3 g4
  · obtain ⟨g0, g1, g2, g3, g4⟩ := g
    have key : ∀ w : Int, w = fV a b c e f i → (0 : Int) ≤ M1 215 5 ∧ (M1 215 5 < 900 ∧ (QRm X x d qmX11_feed post 24 [(0, (2, 215)), (1, (0, a)), (2, (0, b)), (3, (0, c)), (4, (0, e)), (5, (0, f)), (6, (0, i + 1))] [] (qup (qup M1 218 (M1 215 5) (qand (qshr w (24 - (8 * (i.tmod 4)))) 255)) 215 5 (((qup M1 218 (M1 215 5) (qand (qshr w (24 - (8 * (i.tmod 4)))) 255)) 215 5) + 1)))) := by
      intro w hw
      refine ⟨(by omega), (by omega), ih _ ⟨⟨(by omega), (by omega)⟩, ?_, fun r r0 r1 => ?_, fun j hj => ?_, fun j => ?_⟩⟩
      · rw [qup_at, if_pos rfl, qup_row (by decide), g1]; omega
      · rw [qup_row r0, qup_row r1]; exact g2 r r0 r1
      · rw [qup_at, if_neg hj, qup_row (by decide)]; exact g3 j hj
      · rw [qup_row (by decide), qup_at, g4 j, g1]
        by_cases z : j = T + i
        · rw [if_pos z, if_pos ⟨(by omega), (by omega)⟩, z, show T + i - T = i by omega, hw]
        · rw [if_neg z]
          by_cases y : T ≤ j ∧ j < T + i
          · rw [if_pos y, if_pos ⟨(by omega), (by omega)⟩]
          · rw [if_neg y, if_neg (by omega)]
    refine TX11_feed_24 ⟨(i32 (by omega) (by omega)), fun z => absurd z (by omega), fun _ => ⟨fun z1 => ⟨fun z2 => ⟨fun z3 => ⟨fun z4 => key _ ?_, fun z4 => key _ ?_⟩, fun z3 => key _ ?_⟩, fun z2 => key _ ?_⟩, fun z1 => key _ ?_⟩⟩
    · rw [fV, if_neg (by omega), if_neg (by omega), if_neg (by omega), if_neg (by omega)]
    · rw [fV, if_neg (by omega), if_neg (by omega), if_neg (by omega), if_pos (by omega)]
    · rw [fV, if_neg (by omega), if_neg (by omega), if_pos (by omega)]
    · rw [fV, if_neg (by omega), if_pos (by omega)]
    · rw [fV, if_pos (by omega)]
theorem rel_feed (hR : Rel M) {a b c e f : Int} (hp : ∀ v M3, Rel M3 → cont v v M3) : QCm X x (d + 8) 1 yX10_feed [(2, 0), (0, a), (0, b), (0, c), (0, e), (0, f)] M (fun x1 M1 => QCm X x (d + 8) 1 yX11_feed [(2, 215), (0, a), (0, b), (0, c), (0, e), (0, f)] M1 (fun x2 M2 => cont x1 x2 M2)) := by
  have hT := hR.2.2.1
  have t5 := hT.2.1
  have t0 := hT.1
  have R0 := hR.keep (gT M)
  refine QC.of qmX10_feed_ok rfl (TX10_feed_0 ⟨(i32 (by omega) (by omega)), fun z => ?_, fun z => ?_⟩)
  rotate_left
  · refine QC.of qmX11_feed_ok rfl (TX11_feed_0 ?_)
    rw [(gT M).2.2.1, t5]
    exact ⟨(i32 (by omega) (by omega)), fun y => absurd y z, fun _ => hp _ _ R0⟩
  refine c_putOnTape (by omega) (fun M1 a1 a2 a3 => ?_)
  refine c_putOnTape (by omega) (fun M2 b1 b2 b3 => ?_)
  refine c_putOnTape (by omega) (fun M3 c1 c2 c3 => ?_)
  refine c_putOnTape (by omega) (fun M4 d1 d2 d3 => ?_)
  refine c_putOnTape (by omega) (fun M5 e1 e2 e3 => ?_)
  have r : ∀ r, r ≠ 0 → r ≠ 1 → M5 r = M r := fun r r0 r1 => by rw [e2 r r0 r1, d2 r r0 r1, c2 r r0 r1, b2 r r0 r1, a2 r r0 r1]
  have q1 : M5 0 1 = M 0 1 + 20 := by omega
  have q3 : ∀ j, M5 1 j = if M 0 1 ≤ j ∧ j < M 0 1 + 20 then fB (fV a b c e f (j - M 0 1)) ((j - M 0 1).tmod 4) else M 1 j := by
    intro j
    rw [e3 j, d3 j, c3 j, b3 j, a3 j, d1, c1, b1, a1]
    by_cases y : M 0 1 ≤ j ∧ j < M 0 1 + 20
    · rw [if_pos y]
      obtain ⟨n, hn⟩ := Int.eq_ofNat_of_zero_le (show 0 ≤ j - M 0 1 by omega)
      have tm : (j - M 0 1).tmod 4 = (j - M 0 1) % 4 := Int.tmod_eq_emod_of_nonneg (by omega)
      rw [tm]
      by_cases y4 : M 0 1 + 16 ≤ j
      · rw [if_pos ⟨(by omega), (by omega)⟩, fV, if_neg (by omega), if_neg (by omega), if_neg (by omega), if_neg (by omega)]; exact congrArg _ (by omega)
      rw [if_neg (by omega)]
      by_cases y3 : M 0 1 + 12 ≤ j
      · rw [if_pos ⟨(by omega), (by omega)⟩, fV, if_neg (by omega), if_neg (by omega), if_neg (by omega), if_pos (by omega)]; exact congrArg _ (by omega)
      rw [if_neg (by omega)]
      by_cases y2 : M 0 1 + 8 ≤ j
      · rw [if_pos ⟨(by omega), (by omega)⟩, fV, if_neg (by omega), if_neg (by omega), if_pos (by omega)]; exact congrArg _ (by omega)
      rw [if_neg (by omega)]
      by_cases y1 : M 0 1 + 4 ≤ j
      · rw [if_pos ⟨(by omega), (by omega)⟩, fV, if_neg (by omega), if_pos (by omega)]; exact congrArg _ (by omega)
      rw [if_neg (by omega), if_pos ⟨(by omega), (by omega)⟩, fV, if_pos (by omega)]; exact congrArg _ (by omega)
    · rw [if_neg y, if_neg (by omega), if_neg (by omega), if_neg (by omega), if_neg (by omega), if_neg (by omega)]
  refine QC.of qmX11_feed_ok rfl (TX11_feed_0 ?_)
  have s5 : (qup M5 215 0 0) 215 5 = M 0 1 := by rw [qup_at, if_neg (by decide), r 215 (by omega) (by omega), t5]
  rw [s5, q1]
  refine ⟨(i32 (by omega) (by omega)), fun _ => ?_, fun y => absurd z y⟩
  refine m_feed_loop (M := qup M5 215 0 0) (T := M 0 1) (by omega) (fun M6 f1 f2 f3 f4 => hp _ _ ?_) 0 _ ⟨⟨(by omega), (by omega)⟩, by rw [s5, Int.add_zero], fun _ _ _ => rfl, fun _ _ => rfl, fun j => by rw [if_neg (by omega)]⟩
  have w : ∀ a, a ≠ 215 → a ≠ 218 → M6 a = M5 a := fun a a1 a2 => by rw [f2 a a1 a2, qup_row a1]
  have w5 : ∀ j, j ≠ 5 → j ≠ 0 → M6 215 j = M 215 j := fun j j5 j0 => by rw [f3 j j5, qup_at, if_neg j0, r 215 (by omega) (by omega)]
  refine hR.fed (fun a a0 a1 a2 a3 => by rw [w a a2 a3, r a a0 a1]) ⟨w5 13 (by omega) (by omega), w5 14 (by omega) (by omega), w5 24 (by omega) (by omega)⟩ ⟨?_, ?_, fun j j0 j1 => ?_⟩
  · rw [w 0 (by omega) (by omega), q1]; omega
  · rw [w 0 (by omega) (by omega), q1, f1]
  · rw [w 1 (by omega) (by omega), q3 j, f4 j]
    by_cases y : M 0 1 ≤ j ∧ j < M 0 1 + 20
    · rw [if_pos y, if_pos y]
      have tm : (j - M 0 1).tmod 4 = (j - M 0 1) % 4 := Int.tmod_eq_emod_of_nonneg (by omega)
      rw [tm]
      exact fed _ ⟨(by omega), (by omega)⟩
    · rw [if_neg y, if_neg y, qup_row (by decide), r 218 (by omega) (by omega)]
      exact hT.2.2 j j0 j1
end Feed75
