section Lists92
variable {X : QX} {x : Int} {d : Nat} {post : Int → QMem → Prop} {M : QMem} {cont : Int → Int → QMem → Prop} {A : Int → Int}
/-- a way is laid into a tray on both sides -/
theorem rel_lists (hR : Rel M) {t e k : Int} (ht : in32 t) (he : in32 e) (hk : in32 k) (hp : ∀ v M3, Rel M3 → cont v v M3) : QCm X x (d + 8) 1 yX10_lists [(2, 0), (0, t), (0, e), (0, k)] M (fun x1 M1 => QCm X x (d + 8) 1 yX11_lists [(2, 215), (0, t), (0, e), (0, k)] M1 (fun x2 M2 => cont x1 x2 M2)) := by
  have R0 := hR.keep (gT M)
  have e0 := (gT M).all
  have a3 := hR.1.1.2.2.1
  have hcl := hR.1.1.cells
  have hTr := hR.2.2.2.2.1
  have r0 : ∀ a, a ≠ 215 → (qup M 215 0 0) a = M a := fun a ha => qup_row ha
  have no : ¬ ((0 ≤ t ∧ t < 4) ∧ (0 ≤ e ∧ e < M 216 3) ∧ 0 ≤ k ∧ k < M 216 1 * M 216 2) → QCm X x (d + 8) 1 yX11_lists [(2, 215), (0, t), (0, e), (0, k)] M (fun x2 M2 => cont (-2) x2 M2) := fun z =>
    QC.of qmX11_lists_ok rfl (TX11_lists_0 ⟨ht, m_within ht.to64 (i64 (by omega) (by omega)) (i64 (by omega) (by omega)) (fun a => ⟨fun q => absurd q (by decide), fun _ => ⟨(i32 (by omega) (by omega)), he, n_isDrum R0 he (fun y => ⟨fun q => absurd q (by decide), fun _ => ⟨(i32 (by omega) (by omega)), hk, n_isCell R0 hk (fun y2 => absurd ⟨⟨a.1, by omega⟩, by rw [e0] at y; exact y, by rw [e0] at y2; exact y2⟩ z) (fun _ => ⟨fun _ => hp _ _ R0, fun q => absurd rfl q⟩)⟩⟩) (fun _ => ⟨fun _ => hp _ _ R0, fun q => absurd rfl q⟩)⟩⟩) (fun _ => ⟨fun _ => hp _ _ R0, fun q => absurd rfl q⟩)⟩)
  refine QC.of qmX10_lists_ok rfl (TX10_lists_0 (c_isTray ht (fun a => ⟨fun z => absurd z (by decide), fun _ => ⟨(i32 (by omega) (by omega)), k_hasDrum hR he (fun b => ⟨fun z => absurd z (by decide), fun _ => ⟨(i32 (by omega) (by omega)), k_hasCell hR hk (fun c => ⟨fun z => absurd z (by decide), fun _ => ⟨(i32 (by omega) (by omega)), a.1, a.2, ?_⟩⟩) (fun c => ⟨fun _ => no (fun z => c z.2.2), fun z => absurd rfl z⟩)⟩⟩) (fun b => ⟨fun _ => no (fun z => b z.2.1), fun z => absurd rfl z⟩)⟩⟩) (fun a => ⟨fun _ => no (fun z => a z.1), fun z => absurd rfl z⟩)))
  have q := qS_tray x a
  rw [q.1]
  -- how the reference begins
  have start : ∀ (N : QMem) (V : Int), (qup N 215 0 0) 216 = M 216 → QCm X x (d + 7) 1 yX11_noTray [(2, 215), (0, t)] (qup N 215 0 0) (fun x4 M4 => (x4 = 0 → (QCm X x (d + 7) 1 yX11_laysWay [(2, 215), (0, e), (0, k)] M4 (fun x5 M5 => (x5 = (-1) → (cont V (-5) M5)) ∧ (¬ x5 = (-1) → in32 x5 ∧ ((0 : Int) ≤ t ∧ (t < 4 ∧ (in32 (M5 229 t) ∧ (M5 229 t ≤ x5 → (QRm X x (d + 8) qmX11_lists (fun x2 M2 => cont V x2 M2) 97 [(0, (2, 215)), (1, (0, t)), (2, (0, e)), (6, (0, M5 229 t)), (7, (0, 0))] [] M5)) ∧ (¬ M5 229 t ≤ x5 → (QRm X x (d + 8) qmX11_lists (fun x2 M2 => cont V x2 M2) 97 [(0, (2, 215)), (1, (0, t)), (2, (0, e)), (6, (0, x5)), (7, (0, 0))] [] M5))))))))) ∧ (¬ x4 = 0 → in32 x4 ∧ (cont V x4 M4))) → QCm X x (d + 8) 1 yX11_lists [(2, 215), (0, t), (0, e), (0, k)] N (fun x2 M2 => cont V x2 M2) := fun N V en h =>
    QC.of qmX11_lists_ok rfl (TX11_lists_0 ⟨ht, m_within ht.to64 (i64 (by omega) (by omega)) (i64 (by omega) (by omega)) (fun _ => ⟨fun z => absurd z (by decide), fun _ => ⟨(i32 (by omega) (by omega)), he, m_isDrum he.to64 (by rw [en]; exact a3) (fun y => ⟨fun z => absurd z (by decide), fun _ => ⟨(i32 (by omega) (by omega)), hk, m_isCell hk.to64 (by rw [en]; omega) (fun y2 => ⟨fun z => absurd z (by decide), fun _ => ⟨(i32 (by omega) (by omega)), h⟩⟩) (fun z => absurd (by rw [en]; exact c) z)⟩⟩) (fun z => absurd (by rw [en]; exact b) z)⟩⟩) (fun z => absurd ⟨a.1, by omega⟩ z)⟩)
  refine ⟨q.2.1, c_isMissing hTr a (fun m => ⟨fun z => absurd z (by decide), fun _ => ⟨(i32 (by omega) (by omega)), ?_⟩⟩) (fun m => ⟨fun _ => c_findShort hR.1 b (fun M1 k1 f1 s1 l1 => ?_), fun z => absurd rfl z⟩)⟩
  · refine start M (-6) e0 (m_noTray ht R0.2.2.2.2.1.b (fun z => absurd a z) (fun _ _ => ⟨fun z => absurd z (by decide), fun _ => ⟨(i32 (by omega) (by omega)), hp _ _ R0⟩⟩) (fun _ z => absurd (by rw [r0 228 (by omega)]; exact m) z))
  obtain ⟨n4, nS, nW⟩ := hTr.w a m
  have so : (0 ≤ M 228 t ∧ M 228 t ≤ 3) ∧ M (165 + 2 * t) 1 = M 228 t := by
    rcases hTr t a.1 a.2 with z | z
    · exact absurd z.1 m
    · exact ⟨z.1, z.2.1⟩
  have h6 := hR.1.2.1.2.1.1 e b.1 (by omega)
  have nm := (l1.num (by omega) k c.1 c.2)
  obtain ⟨R1, e1, r1, w1⟩ := vRel hR k1
  have kk : ∀ a, (a < 151 ∨ 160 < a) → a ≠ 220 → a ≠ 221 → a ≠ 23 → a ≠ 26 → M1 a = M a := k1
  have t228 : M1 228 = M 228 := kk 228 (by omega) (by omega) (by omega) (by omega) (by omega)
  have t229 : M1 229 = M 229 := kk 229 (by omega) (by omega) (by omega) (by omega) (by omega)
  have tS : M1 (165 + 2 * t) = M (165 + 2 * t) := kk _ (by omega) (by omega) (by omega) (by omega) (by omega)
  have l2 := l1.congr (M1 := qup M1 215 0 0) (fun b b0 b1 => w1 b (by omega))
  refine QC.of qmX9_comesTo_ok rfl (TX9_comesTo_0 ⟨c.1, (by omega), fun z => ⟨fun _ => ?_, fun y => absurd rfl y⟩, fun z => ⟨(i32 (by omega) (by omega)), fun y => absurd y (by decide), fun _ => ⟨(i32 (by omega) (by omega)), c.1, (by omega), ?_⟩⟩⟩)
  · refine start M1 (-5) e1 (m_noTray ht R1.2.2.2.2.1.b (fun z => absurd a z) (fun _ y => absurd (by rw [w1 228 (by omega), t228] at y; exact y) m) (fun _ _ => ⟨fun _ => ?_, fun y => absurd rfl y⟩))
    exact n_laysWay e1 hR.1.1 hR.1.2.1 b c r1 l2 (fun _ M2 k2 _ => ⟨fun _ => hp _ _ (R1.keep k2.gK), fun y => absurd rfl y⟩) (fun y _ => absurd (by rw [w1 152 (by omega)]; exact z) y)
  have tb : ∀ i, 0 ≤ i → i < M1 153 k → 1 ≤ 1 + ql2i (qland (qlushr (M1 155 k) (2 * (M1 153 k - 1 - i))) 3) ∧ 1 + ql2i (qland (qlushr (M1 155 k) (2 * (M1 153 k - 1 - i))) 3) ≤ 4 := fun i i0 i1 => by
    rcases l1 k c.1 c.2 with w | ⟨ts, w⟩
    · exact absurd w.1 z
    · rw [vTurn (by omega) w ⟨i0, i1⟩]
      exact wOk_getD ts _ i.toNat w.1.1.1 (by have := w.2.2.1; omega)
  -- the numbers
  generalize hF : (fun i : Int => rCut (((e * 1000) + 10) + (1 + ql2i (qland (qlushr (M1 155 k) (2 * (M1 153 k - 1 - i))) 3))) (M 228 t)) = F
  have fin : ∀ n : Int, (0 ≤ n ∧ n ≤ M 229 t) → n ≤ M1 153 k → n = (if M 229 t ≤ M1 153 k then M 229 t else M1 153 k) → ∀ M2 : QMem, (∀ a, a ≠ 165 + 2 * t + 1 → M2 a = M1 a) → (∀ j, M2 (165 + 2 * t + 1) j = if 0 ≤ j ∧ j < n then F j else M (165 + 2 * t + 1) j) → QCm X x (d + 8) 1 yX11_lists [(2, 215), (0, t), (0, e), (0, k)] M2 (fun x2 M2 => cont n x2 M2) := by
    intro n nb n2 nd M2 g1 g2
    -- Rel holds where the tray is as it was
    have RX : ∀ N : QMem, (∀ a, a ≠ 215 → a ≠ 220 → a ≠ 221 → a ≠ 23 → a ≠ 26 → a ≠ 223 → a ≠ 224 → a ≠ 225 → a ≠ 226 → a ≠ 230 → N a = M2 a) → (∀ j, j ≠ 0 → j ≠ 26 → N 215 j = M2 215 j) → (∀ j, N 230 j = if 40 * t ≤ j ∧ j < 40 * t + n then F (j - 40 * t) else M 230 j) → Rel N := by
      intro N h1 h2 h3
      have gx : gK M (fun a => if a = 165 + 2 * t + 1 then M (165 + 2 * t + 1) else if a = 230 then M 230 else N a) := by
        have n215 : ∀ j, j ≠ 0 → j ≠ 26 → N 215 j = M 215 j := fun j j0 j1 => by rw [h2 j j0 j1, g1 215 (by omega), kk 215 (by omega) (by omega) (by omega) (by omega) (by omega)]
        refine ⟨fun b q1 q2 q3 => ?_, ⟨?_, ?_⟩, ?_, ?_, ?_, ?_⟩
        · show (if b = 165 + 2 * t + 1 then M (165 + 2 * t + 1) else if b = 230 then M 230 else N b) = M b
          by_cases z1 : b = 165 + 2 * t + 1
          · rw [if_pos z1, z1]
          · rw [if_neg z1]
            by_cases z2 : b = 230
            · rw [if_pos z2, z2]
            · rw [if_neg z2, h1 b (by omega) (by omega) (by omega) (by omega) (by omega) (by omega) (by omega) (by omega) (by omega) z2, g1 b z1, kk b (by omega) (by omega) (by omega) (by omega) (by omega)]
        · show (if (2 : Int) = 165 + 2 * t + 1 then M (165 + 2 * t + 1) else if (2 : Int) = 230 then M 230 else N 2) 0 = M 2 0
          rw [if_neg (by omega), if_neg (by decide), h1 2 (by omega) (by omega) (by omega) (by omega) (by omega) (by omega) (by omega) (by omega) (by omega) (by omega), g1 2 (by omega), kk 2 (by omega) (by omega) (by omega) (by omega) (by omega)]
        · show (if (2 : Int) = 165 + 2 * t + 1 then M (165 + 2 * t + 1) else if (2 : Int) = 230 then M 230 else N 2) 1 = M 2 1
          rw [if_neg (by omega), if_neg (by decide), h1 2 (by omega) (by omega) (by omega) (by omega) (by omega) (by omega) (by omega) (by omega) (by omega) (by omega), g1 2 (by omega), kk 2 (by omega) (by omega) (by omega) (by omega) (by omega)]
        all_goals show (if (215 : Int) = 165 + 2 * t + 1 then M (165 + 2 * t + 1) else if (215 : Int) = 230 then M 230 else N 215) _ = M 215 _
        all_goals rw [if_neg (by omega), if_neg (by decide)]
        · exact n215 5 (by omega) (by omega)
        · exact n215 13 (by omega) (by omega)
        · exact n215 14 (by omega) (by omega)
        · exact n215 24 (by omega) (by omega)
      have RM := hR.keep gx
      have nt : N (165 + 2 * t + 1) = M2 (165 + 2 * t + 1) := h1 _ (by omega) (by omega) (by omega) (by omega) (by omega) (by omega) (by omega) (by omega) (by omega) (by omega)
      have nu : ∀ b, 165 ≤ b → b ≤ 172 → b ≠ 165 + 2 * t + 1 → N b = M b := fun b b0 b1 b2 => by rw [h1 b (by omega) (by omega) (by omega) (by omega) (by omega) (by omega) (by omega) (by omega) (by omega) (by omega), g1 b b2, kk b (by omega) (by omega) (by omega) (by omega) (by omega)]
      have n228 : N 228 = M 228 := by rw [h1 228 (by omega) (by omega) (by omega) (by omega) (by omega) (by omega) (by omega) (by omega) (by omega) (by omega), g1 228 (by omega), t228]
      have n229 : N 229 = M 229 := by rw [h1 229 (by omega) (by omega) (by omega) (by omega) (by omega) (by omega) (by omega) (by omega) (by omega) (by omega), g1 229 (by omega), t229]
      refine RM.withTray (fun b b1 b2 b3 => ?_) ⟨?_, ?_, ?_, ?_⟩ (fun u u0 u1 => ?_)
      · show N b = (if b = 165 + 2 * t + 1 then M (165 + 2 * t + 1) else if b = 230 then M 230 else N b)
        rw [if_neg (by omega), if_neg (by omega)]
      all_goals try (show N 215 _ = (if (215 : Int) = 165 + 2 * t + 1 then M (165 + 2 * t + 1) else if (215 : Int) = 230 then M 230 else N 215) _; rw [if_neg (by omega), if_neg (by decide)])
      rw [n228, n229, nu (165 + 2 * u) (by omega) (by omega) (by omega)]
      by_cases z1 : u = t
      · subst z1
        rcases hTr u u0 u1 with w | w
        · exact absurd w.1 m
        · refine Or.inr ⟨w.1, w.2.1, w.2.2.1, w.2.2.2.1, fun j j0 j1 => ?_⟩
          rw [nt, g2 j, h3 (40 * u + j)]
          by_cases z2 : j < n
          · rw [if_pos ⟨by omega, by omega⟩, if_pos ⟨j0, z2⟩, show 40 * u + j - 40 * u = j by omega, ← hF]
            have := tb j j0 (by omega)
            exact ⟨rCut_in (i64 (by omega) (by omega)), rfl⟩
          · rw [if_neg (by omega), if_neg (by omega)]; exact w.2.2.2.2 j j0 j1
      · rcases hTr u u0 u1 with w | w
        · exact Or.inl w
        · refine Or.inr ⟨w.1, w.2.1, w.2.2.1, w.2.2.2.1, fun j j0 j1 => ?_⟩
          have := w.2.2.1
          rw [nu (165 + 2 * u + 1) (by omega) (by omega) (by omega), h3 (40 * u + j), if_neg (by omega)]; exact w.2.2.2.2 j j0 j1
    have x2 : ∀ b, b ≠ 215 → (qup M2 215 0 0) b = M2 b := fun b hb => qup_row hb
    have y2 : (qup M2 215 0 0) 216 = M 216 := by rw [x2 216 (by omega), g1 216 (by omega), ← w1 216 (by omega), e1]
    have lx : vLab (M 216) e 1 (16 - M 216 (60 + e)) (qup M2 215 0 0) := l1.congr (fun b b0 b1 => by rw [x2 b (by omega), g1 b (by omega)])
    have rx : (qup M2 215 0 0) 215 24 = -1 := by rw [qup_at, if_neg (by decide), g1 215 (by omega), ← r1, qup_at, if_neg (by decide)]
    have x228 : (qup M2 215 0 0) 228 = M 228 := by rw [x2 228 (by omega), g1 228 (by omega), t228]
    have p2 : ∀ b, 152 ≤ b → b ≤ 155 → (qup M2 215 0 0) b = M1 b := fun b b0 b1 => by rw [x2 b (by omega), g1 b (by omega)]
    refine start M2 n y2 (m_noTray ht (by rw [x228]; exact hTr.b) (fun w => absurd a w) (fun _ w => absurd (by rw [x228] at w; exact w) m) (fun _ _ => ⟨fun _ => ?_, fun w => absurd rfl w⟩))
    refine n_laysWay y2 hR.1.1 hR.1.2.1 b c rx lx (fun w => absurd (by rw [p2 152 (by omega) (by omega)] at w; exact w) z) (fun _ nb3 M5 k5 _ t5 => ?_)
    rw [p2 153 (by omega) (by omega), p2 155 (by omega) (by omega)] at t5
    rw [p2 153 (by omega) (by omega)] at nb3 ⊢
    have m5 : ∀ b, b ≠ 215 → b ≠ 220 → b ≠ 221 → b ≠ 23 → b ≠ 26 → b ≠ 223 → b ≠ 224 → b ≠ 225 → b ≠ 226 → M5 b = M2 b := fun b c0 c1 c2 c3 c4 c5 c6 c7 c8 => by rw [k5.1 b c0 c1 c2 c3 c4 c5 c6 c7 c8, x2 b c0]
    have f229 : M5 229 = M 229 := by rw [m5 229 (by omega) (by omega) (by omega) (by omega) (by omega) (by omega) (by omega) (by omega) (by omega), g1 229 (by omega), t229]
    have f228 : M5 228 = M 228 := by rw [m5 228 (by omega) (by omega) (by omega) (by omega) (by omega) (by omega) (by omega) (by omega) (by omega), g1 228 (by omega), t228]
    have f230 : M5 230 = M 230 := by rw [m5 230 (by omega) (by omega) (by omega) (by omega) (by omega) (by omega) (by omega) (by omega) (by omega), g1 230 (by omega), kk 230 (by omega) (by omega) (by omega) (by omega) (by omega)]
    have key : ∀ i : Int, ∀ N : QMem, (0 ≤ i ∧ i ≤ n) ∧ (∀ a, a ≠ 230 → N a = M5 a) ∧ (∀ j, N 230 j = if 40 * t ≤ j ∧ j < 40 * t + i then F (j - 40 * t) else M 230 j) → QRm X x (d + 8) qmX11_lists (fun x2 M2 => cont n x2 M2) 97 [(0, (2, 215)), (1, (0, t)), (2, (0, e)), (6, (0, n)), (7, (0, i))] [] N := by
      refine int_up n (fun i hi N g => ?_) (fun i hi ih N g => ?_)
      · obtain ⟨g0, g4, g5⟩ := g
        refine TX11_lists_97 ⟨(i32 (by omega) (by omega)), (i32 (by omega) (by omega)), fun _ => hp _ _ (RX N (fun b c0 c1 c2 c3 c4 c5 c6 c7 c8 c9 => by rw [g4 b c9]; exact m5 b c0 c1 c2 c3 c4 c5 c6 c7 c8) (fun j j0 j1 => ?_) ?_), fun w => absurd hi w⟩
        · rw [g4 215 (by omega), k5.2 j j0 j1, qup_at, if_neg j0]
        · rw [show n = i by omega]; exact g5
      · obtain ⟨g0, g4, g5⟩ := g
        have ti := t5 i g0.1 (by omega)
        refine TX11_lists_97 ?_
        rw [g4 226 (by omega), g4 228 (by omega), f228]
        refine ⟨(i32 (by omega) (by omega)), (i32 (by omega) (by omega)), fun w => absurd hi (by omega), fun _ => ⟨(by omega), (by omega), (i32 (by omega) (by omega)), a.1, a.2, m_cut (i32 (by omega) (by omega)) ⟨(by omega), (by omega), ih _ ⟨⟨(by omega), (by omega)⟩, fun b b0 => by rw [qup_row b0]; exact g4 b b0, fun j => ?_⟩⟩⟩⟩
        rw [qup_at, g5 j]
        by_cases z1 : j = 40 * t + i
        · rw [if_pos z1, if_pos ⟨(by omega), (by omega)⟩, z1, show 40 * t + i - 40 * t = i by omega, ← hF]
          show rCut (1000 * e + 10 + M5 226 i) (M 228 t) = rCut (e * 1000 + 10 + (1 + ql2i (qland (qlushr (M1 155 k) (2 * (M1 153 k - 1 - i))) 3))) (M 228 t)
          rw [ti.1, Int.mul_comm]
        · rw [if_neg z1]
          by_cases z2 : 40 * t ≤ j ∧ j < 40 * t + i
          · rw [if_pos z2, if_pos ⟨(by omega), (by omega)⟩]
          · rw [if_neg z2, if_neg (by omega)]
    have key0 := key 0 M5 ⟨⟨(by omega), nb.1⟩, fun _ _ => rfl, fun j => by rw [if_neg (by omega), f230]⟩
    rw [f229]
    refine ⟨fun w => absurd w (by omega), fun _ => ⟨(i32 (by omega) (by omega)), a.1, a.2, (i32 (by omega) (by omega)), fun w => ?_, fun w => ?_⟩⟩
    · rw [if_pos w] at nd; rw [← nd]; exact key0
    · rw [if_neg w] at nd; rw [← nd]; exact key0
  -- the class
  have go : ∀ n : Int, (0 ≤ n ∧ n ≤ M 229 t) → n ≤ M1 153 k → n = (if M 229 t ≤ M1 153 k then M 229 t else M1 153 k) → QRm X x (d + 8) qmX10_lists (fun x1 M1 => QCm X x (d + 8) 1 yX11_lists [(2, 215), (0, t), (0, e), (0, k)] M1 (fun x2 M2 => cont x1 x2 M2)) 104 [(0, (2, 0)), (2, (0, e)), (3, (0, k)), (4, (2, 165 + 2 * t)), (5, (0, n)), (6, (0, 0))] [] M1 := by
    intro n nb n2 nd
    have key : ∀ i : Int, ∀ M2 : QMem, (0 ≤ i ∧ i ≤ n) ∧ (∀ a, a ≠ 165 + 2 * t + 1 → M2 a = M1 a) ∧ (∀ j, M2 (165 + 2 * t + 1) j = if 0 ≤ j ∧ j < i then F j else M (165 + 2 * t + 1) j) → QRm X x (d + 8) qmX10_lists (fun x1 M1 => QCm X x (d + 8) 1 yX11_lists [(2, 215), (0, t), (0, e), (0, k)] M1 (fun x2 M2 => cont x1 x2 M2)) 104 [(0, (2, 0)), (2, (0, e)), (3, (0, k)), (4, (2, 165 + 2 * t)), (5, (0, n)), (6, (0, i))] [] M2 := by
      refine int_up n (fun i hi M2 g => ?_) (fun i hi ih M2 g => ?_)
      · obtain ⟨g0, g1, g2⟩ := g
        refine TX10_lists_104 ⟨(i32 (by omega) (by omega)), (i32 (by omega) (by omega)), fun _ => fin n nb n2 nd M2 g1 ?_, fun w => absurd hi w⟩
        rw [show n = i by omega]; exact g2
      · obtain ⟨g0, g1, g2⟩ := g
        have ti := tb i g0.1 (by omega)
        refine TX10_lists_104 ⟨(i32 (by omega) (by omega)), (i32 (by omega) (by omega)), fun w => absurd hi (by omega), fun _ => v_turnOf ⟨c.1, (by omega)⟩ (i32 (by omega) (by omega)) (by rw [g1 153 (by omega)]; exact nm.2.1) (fun _ _ => ?_) (fun w => absurd w (by rw [g1 153 (by omega)]; omega))⟩
        rw [g1 153 (by omega), g1 155 (by omega)]
        refine QC.of qmX6_deedOver_ok rfl (TX6_deedOver_0 ⟨(i32 (by omega) (by omega)), q.2.1, c_put (s := M 228 t) (n := M 229 t) q.2.2 ?_ ?_ so.1 n4.2 ⟨g0.1, (by omega)⟩ ?_⟩)
        · rw [g1 (165 + 2 * t) (by omega), tS]; exact so.2
        · rw [g1 (165 + 2 * t) (by omega), tS]; exact nS
        · refine ih _ ⟨⟨(by omega), (by omega)⟩, fun b b0 => by rw [qup_row b0]; exact g1 b b0, fun j => ?_⟩
          rw [qup_at, g2 j]
          by_cases z1 : j = i
          · rw [if_pos z1, if_pos ⟨(by omega), (by omega)⟩, z1, ← hF]
          · rw [if_neg z1]
            by_cases z2 : 0 ≤ j ∧ j < i
            · rw [if_pos z2, if_pos ⟨(by omega), (by omega)⟩]
            · rw [if_neg z2, if_neg (by omega)]
    exact key 0 M1 ⟨⟨(by omega), nb.1⟩, fun _ _ => rfl, fun j => by rw [if_neg (by omega), kk _ (by omega) (by omega) (by omega) (by omega) (by omega)]⟩
  rw [tS, nS]
  refine j_min (i32 (by omega) (by omega)) (i32 (by omega) (by omega)) (fun w => go _ (by omega) (by omega) ?_) (fun w => go _ (by omega) (Int.le_refl _) ?_)
  · rw [if_pos (by omega)]
  · by_cases u : M 229 t ≤ M1 153 k
    · rw [if_pos u]; omega
    · rw [if_neg u]
end Lists92
