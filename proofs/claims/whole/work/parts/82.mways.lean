/-- what is open to a drum, and what a cell costs, to the reference -/
def wOp (A : Int → Int) (e r k : Int) : Prop := k ≠ r ∧ rOpen A e k ∧ rLets A e k
def wPr (A : Int → Int) (e y k : Int) : Int := if y = 0 then rLie A k else rCost A e k
theorem wPr_b (A : Int → Int) (e y : Int) : ∀ k, 0 ≤ wPr A e y k ∧ wPr A e y k ≤ 99 := fun k => by
  have h1 := rLie_b A k
  have h2 := rCost_b A e k
  rw [wPr]; split <;> omega
/-- what the reference's searches leave as it was -/
def wK (M M1 : QMem) : Prop := (∀ a, a ≠ 215 → a ≠ 220 → a ≠ 221 → a ≠ 23 → a ≠ 26 → a ≠ 223 → a ≠ 224 → a ≠ 225 → a ≠ 226 → M1 a = M a) ∧ ∀ j, j ≠ 0 → j ≠ 26 → M1 215 j = M 215 j
theorem wK.refl (M : QMem) : wK M M := ⟨fun _ _ _ _ _ _ _ _ _ _ => rfl, fun _ _ _ => rfl⟩
theorem wK.trans {M M1 M2 : QMem} (h : wK M M1) (g : wK M1 M2) : wK M M2 := ⟨fun a b0 b1 b2 b3 b4 b5 b6 b7 b8 => (g.1 a b0 b1 b2 b3 b4 b5 b6 b7 b8).trans (h.1 a b0 b1 b2 b3 b4 b5 b6 b7 b8), fun j j0 j1 => (g.2 j j0 j1).trans (h.2 j j0 j1)⟩
theorem wK.gK {M M1 : QMem} (h : wK M M1) : gK M M1 := ⟨fun a q1 q2 q3 => h.1 a (by omega) (by omega) (by omega) (by omega) (by omega) (by omega) (by omega) (by omega) (by omega), ⟨by rw [h.1 2 (by omega) (by omega) (by omega) (by omega) (by omega) (by omega) (by omega) (by omega) (by omega)], by rw [h.1 2 (by omega) (by omega) (by omega) (by omega) (by omega) (by omega) (by omega) (by omega) (by omega)]⟩, h.2 5 (by omega) (by omega), h.2 13 (by omega) (by omega), h.2 14 (by omega) (by omega), h.2 24 (by omega) (by omega)⟩
theorem wK.all {M M1 : QMem} (h : wK M M1) : M1 216 = M 216 := h.1 216 (by omega) (by omega) (by omega) (by omega) (by omega) (by omega) (by omega) (by omega) (by omega)
theorem wK.lK {M M1 : QMem} (h : lK M M1) : wK M M1 := ⟨fun a _ b1 b2 b3 b4 _ _ _ _ => h a b1 b2 b3 b4, fun j _ _ => by rw [h 215 (by omega) (by omega) (by omega) (by omega)]⟩
theorem wK.row {M : QMem} {a i v : Int} (ha : a = 223 ∨ a = 224 ∨ a = 225 ∨ a = 226) : wK M (qup M a i v) := ⟨fun b _ _ _ _ _ _ _ _ _ => by rw [qup_row (by omega)], fun j _ _ => by rw [qup_row (by omega)]⟩
theorem wK.fld {M : QMem} {v : Int} : wK M (qup M 215 26 v) := ⟨fun b b0 _ _ _ _ _ _ _ _ => by rw [qup_row b0], fun j _ j1 => by rw [qup_at, if_neg j1]⟩
theorem wK.thr {M : QMem} {v : Int} : wK M (qup M 215 0 v) := ⟨fun b b0 _ _ _ _ _ _ _ _ => by rw [qup_row b0], fun j j0 _ => by rw [qup_at, if_neg j0]⟩
/-- the open cells and their prices stand in their rows -/
def wRow (A : Int → Int) (e r y n : Int) (M : QMem) : Prop := ∀ k, 0 ≤ k → k < n → (wOp A e r k → M 224 k = 1) ∧ (¬ wOp A e r k → M 224 k = 0) ∧ M 225 k = wPr A e y k
section MWays82
variable {X : QX} {x : Int} {d : Nat} {post : Int → QMem → Prop} {M : QMem} {cont : Int → Int → QMem → Prop} {A : Int → Int}
theorem m_laysOpen (hA : M 216 = A) (hL : rLandOk A) (hS : rStOk A) {e y : Int} (he : 0 ≤ e ∧ e < 6) (hy : y = 0 ∨ y = 1) (hr : in32 (M 215 24)) (hp : ∀ M1, wK M M1 → wRow A e (M 215 24) y (A 1 * A 2) M1 → post 0 M1) : QCm X x (d + 3) 0 yX11_laysOpen [(2, 215), (0, e), (0, y)] M post := by
  have hcl := hL.cells
  have a3 := hL.2.2.1
  have key : ∀ i : Int, ∀ M1 : QMem, (0 ≤ i ∧ i ≤ A 1 * A 2) ∧ wK M M1 ∧ wRow A e (M 215 24) y i M1 → QRm X x (d + 3) qmX11_laysOpen post 2 [(0, (2, 215)), (1, (0, e)), (2, (0, y)), (3, (0, i))] [] M1 := by
    refine int_up (A 1 * A 2) (fun i hi M1 g => ?_) (fun i hi ih M1 g => ?_)
    · obtain ⟨g0, g1, g2⟩ := g
      have e1 : M1 216 = A := by rw [g1.all, hA]
      refine TX11_laysOpen_2 (m_cells ?_)
      rw [e1]
      refine ⟨(i32 (by omega) (by omega)), (i32 (by omega) (by omega)), fun _ => hp M1 g1 ?_, fun z => absurd hi z⟩
      rw [show A 1 * A 2 = i by omega]; exact g2
    · obtain ⟨g0, g1, g2⟩ := g
      have e1 : M1 216 = A := by rw [g1.all, hA]
      have er : M1 215 24 = M 215 24 := g1.2 24 (by omega) (by omega)
      have kc := hS.2.2.1 i g0.1 (by omega)
      have price : ∀ (o : Int) (M2 : QMem), wK M M2 → (∀ a, a ≠ 215 → a ≠ 220 → a ≠ 221 → a ≠ 23 → a ≠ 26 → M2 a = M1 a) → (wOp A e (M 215 24) i → o = 1) → (¬ wOp A e (M 215 24) i → o = 0) → ((y = 0 → (QCm X x (d + 2) 1 yX11_lieOn [(2, 215), (0, i)] (qup M2 224 i o) (fun x2 M3 => QRm X x (d + 3) qmX11_laysOpen post 2 [(0, (2, 215)), (1, (0, e)), (2, (0, y)), (3, (0, i + 1))] [] (qup M3 225 i x2)))) ∧ (¬ y = 0 → in32 y ∧ (QCm X x (d + 2) 1 yX11_costOf [(2, 215), (0, e), (0, i)] (qup M2 224 i o) (fun x3 M3 => QRm X x (d + 3) qmX11_laysOpen post 2 [(0, (2, 215)), (1, (0, e)), (2, (0, y)), (3, (0, i + 1))] [] (qup M3 225 i x3))))) := by
        intro o M2 k2 r2 o1 o2
        have e2 : (qup M2 224 i o) 216 = A := by rw [qup_row (by decide), k2.all, hA]
        have fin : ∀ (M3 : QMem) (v : Int), lK (qup M2 224 i o) M3 → v = wPr A e y i → QRm X x (d + 3) qmX11_laysOpen post 2 [(0, (2, 215)), (1, (0, e)), (2, (0, y)), (3, (0, i + 1))] [] (qup M3 225 i v) := by
          intro M3 v k3 hv
          have r4 : ∀ k, M3 224 k = if k = i then o else M1 224 k := fun k => by rw [k3 224 (by omega) (by omega) (by omega) (by omega), qup_at, r2 224 (by omega) (by omega) (by omega) (by omega) (by omega)]
          have r5 : ∀ k, M3 225 k = M1 225 k := fun k => by rw [k3 225 (by omega) (by omega) (by omega) (by omega), qup_row (by decide), r2 225 (by omega) (by omega) (by omega) (by omega) (by omega)]
          refine ih _ ⟨⟨(by omega), (by omega)⟩, (k2.trans (wK.row (Or.inr (Or.inl rfl)))).trans ((wK.lK k3).trans (wK.row (Or.inr (Or.inr (Or.inl rfl))))), fun k k0 k1 => ?_⟩
          rw [qup_row (by decide), qup_at, r4 k, r5 k]
          by_cases z : k = i
          · rw [if_pos z, if_pos z, z]; exact ⟨o1, o2, hv⟩
          · rw [if_neg z, if_neg z]; exact g2 k k0 (by omega)
        refine ⟨fun z => m_lieOn ⟨g0.1, (by omega)⟩ (by rw [e2]; exact (i32 (by omega) (by omega))) (by rw [e2]; exact (i32 (by omega) (by omega))) (fin _ _ (lK.refl _) ?_), fun z => ⟨(i32 (by omega) (by omega)), m_costOf (by rw [e2]; exact hL) (by rw [e2]; exact hS) ⟨g0.1, (by omega)⟩ he (fun M3 k3 => fin M3 _ k3 ?_)⟩⟩
        · rw [e2, wPr, if_pos z]
        · rw [e2, wPr, if_neg z]
      refine TX11_laysOpen_2 (m_cells ?_)
      rw [e1, er]
      refine ⟨(i32 (by omega) (by omega)), (i32 (by omega) (by omega)), fun z => absurd hi (by omega), fun _ => ⟨fun z => ⟨g0.1, (by omega), price 0 M1 g1 (fun _ _ _ _ _ _ => rfl) (fun q => absurd z q.1) (fun _ => rfl)⟩, fun z => ⟨hr, m_isOpen (by rw [e1]; exact hL) (by rw [e1]; exact hS) ⟨g0.1, (by omega)⟩ he (fun o => ⟨fun q => absurd q (by decide), fun _ => ⟨(i32 (by omega) (by omega)), m_lets (by rw [e1]; exact hL) (by rw [e1]; exact hS) ⟨g0.1, (by omega)⟩ he (fun l M2 k2 => ⟨fun q => absurd q (by decide), fun _ => ⟨(i32 (by omega) (by omega)), g0.1, (by omega), price 1 M2 (g1.trans (wK.lK k2)) (fun a _ b1 b2 b3 b4 => k2 a b1 b2 b3 b4) (fun _ => rfl) (fun q => absurd ⟨z, ?_, ?_⟩ q)⟩⟩) (fun l M2 k2 => ⟨fun _ => ⟨g0.1, (by omega), price 0 M2 (g1.trans (wK.lK k2)) (fun a _ b1 b2 b3 b4 => k2 a b1 b2 b3 b4) (fun q => absurd q.2.2 ?_) (fun _ => rfl)⟩, fun q => absurd rfl q⟩)⟩⟩) (fun o => ⟨fun _ => ⟨g0.1, (by omega), price 0 M1 g1 (fun _ _ _ _ _ _ => rfl) (fun q => absurd q.2.1 ?_) (fun _ => rfl)⟩, fun q => absurd rfl q⟩)⟩⟩⟩
      · rw [e1] at l; exact l
      · rw [e1] at o; exact o
      · rw [e1] at o; exact o
      · rw [e1] at l; exact l
  exact QC.of qmX11_laysOpen_ok rfl (TX11_laysOpen_0 (key 0 M ⟨⟨(by omega), (by omega)⟩, wK.refl M, fun k k0 k1 => absurd k1 (by omega)⟩))
/-- the least stand in their row -/
def wLst (A : Int → Int) (e r y to n : Int) (M : QMem) : Prop := ∀ j k, 0 ≤ j → j ≤ n → 0 ≤ k → k < A 1 * A 2 → M 223 (36 * j + k) = wL (rBeside A) (wOp A e r) (wPr A e y) to j.toNat k
theorem m_laysLeast (hA : M 216 = A) (hL : rLandOk A) (hS : rStOk A) {e y to : Int} (he : 0 ≤ e ∧ e < A 3) (hy : y = 0 ∨ y = 1) (ht : in32 to) (hr : in32 (M 215 24)) (hp : ∀ M1, wK M M1 → wRow A e (M 215 24) y (A 1 * A 2) M1 → wLst A e (M 215 24) y to (16 - A (60 + e)) M1 → post 0 M1) : QCm X x (d + 4) 0 yX11_laysLeast [(2, 215), (0, e), (0, to), (0, y)] M post := by
  have hcl := hL.cells
  have a3 := hL.2.2.1
  have h6 := hS.2.1.1 e he.1 (by omega)
  generalize hR : M 215 24 = r at *
  have hpr := wPr_b A e y
  -- the rows behind row n
  have key3 : ∀ n : Int, ∀ M1 : QMem, (1 ≤ n ∧ n ≤ 17 - A (60 + e)) ∧ wK M M1 ∧ wRow A e r y (A 1 * A 2) M1 ∧ wLst A e r y to (n - 1) M1 → QRm X x (d + 4) qmX11_laysLeast post 45 [(0, (2, 215)), (1, (0, e)), (4, (0, n))] [] M1 := by
    refine int_up (17 - A (60 + e)) (fun n hn M1 g => ?_) (fun n hn ih M1 g => ?_)
    · obtain ⟨g0, g1, g2, g3⟩ := g
      have e1 : M1 216 = A := by rw [g1.all, hA]
      refine TX11_laysLeast_45 (QC.of qmX11_leftOf_ok rfl (TX11_leftOf_0 ?_))
      rw [e1]
      refine ⟨(by omega), (by omega), (i32 (by omega) (by omega)), (i32 (by omega) (by omega)), fun _ => hp M1 g1 g2 ?_, fun z => absurd hn (by omega)⟩
      rw [show 16 - A (60 + e) = n - 1 by omega]; exact g3
    · obtain ⟨g0, g1, g2, g3⟩ := g
      have e1 : M1 216 = A := by rw [g1.all, hA]
      refine TX11_laysLeast_45 (QC.of qmX11_leftOf_ok rfl (TX11_leftOf_0 ?_))
      rw [e1]
      refine ⟨(by omega), (by omega), (i32 (by omega) (by omega)), (i32 (by omega) (by omega)), fun z => absurd hn (by omega), fun _ => ?_⟩
      have key4 : ∀ i : Int, ∀ M2 : QMem, (0 ≤ i ∧ i ≤ A 1 * A 2) ∧ wK M M2 ∧ wRow A e r y (A 1 * A 2) M2 ∧ wLst A e r y to (n - 1) M2 ∧ (∀ k, 0 ≤ k → k < i → M2 223 (36 * n + k) = wL (rBeside A) (wOp A e r) (wPr A e y) to n.toNat k) → QRm X x (d + 4) qmX11_laysLeast post 58 [(0, (2, 215)), (1, (0, e)), (4, (0, n)), (5, (0, i))] [] M2 := by
        refine int_up (A 1 * A 2) (fun i hi M2 q => ?_) (fun i hi ih2 M2 q => ?_)
        · obtain ⟨q0, q1, q2, q3, q4⟩ := q
          have e2 : M2 216 = A := by rw [q1.all, hA]
          refine TX11_laysLeast_58 (m_cells ?_)
          rw [e2]
          refine ⟨(i32 (by omega) (by omega)), (i32 (by omega) (by omega)), fun _ => ih M2 ⟨⟨(by omega), (by omega)⟩, q1, q2, fun j k j0 j1 k0 k1 => ?_⟩, fun z => absurd hi z⟩
          by_cases z : j ≤ n - 1
          · exact q3 j k j0 z k0 k1
          · rw [show j = n by omega]; exact q4 k k0 (by omega)
        · obtain ⟨q0, q1, q2, q3, q4⟩ := q
          have e2 : M2 216 = A := by rw [q1.all, hA]
          refine TX11_laysLeast_58 (m_cells ?_)
          rw [e2]
          refine ⟨(i32 (by omega) (by omega)), (i32 (by omega) (by omega)), fun z => absurd hi (by omega), fun _ => ?_⟩
          have en : wL (rBeside A) (wOp A e r) (wPr A e y) to n.toNat i = wM (rBeside A) (wOp A e r) (wPr A e y) (wL (rBeside A) (wOp A e r) (wPr A e y) to (n - 1).toNat) i 4 := by
            rw [show n.toNat = (n - 1).toNat + 1 by omega]; rfl
          have key5 : ∀ t : Int, 1 ≤ t ∧ t ≤ 5 → QRm X x (d + 4) qmX11_laysLeast post 75 [(0, (2, 215)), (1, (0, e)), (4, (0, n)), (5, (0, i)), (6, (0, wM (rBeside A) (wOp A e r) (wPr A e y) (wL (rBeside A) (wOp A e r) (wPr A e y) to (n - 1).toNat) i (t - 1).toNat)), (7, (0, t))] [] M2 := by
            refine int_up 5 (fun t ht w => ?_) (fun t ht ih3 w => ?_)
            · refine TX11_laysLeast_75 ⟨(i32 (by omega) (by omega)), fun _ => ⟨(by omega), (by omega), ih2 _ ⟨⟨(by omega), (by omega)⟩, q1.trans (wK.row (Or.inl rfl)), fun k k0 k1 => ?_, fun j k j0 j1 k0 k1 => ?_, fun k k0 k1 => ?_⟩⟩, fun z => absurd ht (by omega)⟩
              · rw [qup_row (by decide), qup_row (by decide)]; exact q2 k k0 k1
              · rw [qup_at, if_neg (by omega)]; exact q3 j k j0 j1 k0 k1
              · rw [qup_at]
                by_cases z : k = i
                · rw [if_pos (by rw [z]), z, en, show (t - 1).toNat = 4 by omega]
                · rw [if_neg (by omega)]; exact q4 k k0 (by omega)
            · have nxt := ih3 ⟨(by omega), (by omega)⟩
              rw [show (t + 1 - 1).toNat = (t - 1).toNat + 1 by omega] at nxt
              have et : (((t - 1).toNat : Nat) : Int) + 1 = t := by omega
              have hB := rBeside_b (t := t) hL (k := i) ⟨q0.1, hi⟩
              refine TX11_laysLeast_75 ⟨(i32 (by omega) (by omega)), fun z => absurd ht (by omega), fun _ => m_beside ⟨q0.1, (by omega)⟩ (i32 (by omega) (by omega)) (by rw [e2]; exact hL.1) (by rw [e2]; exact hL.2.1) ?_⟩
              rw [e2]
              refine ⟨fun z => ?_, fun z => ⟨(i32 (by omega) (by omega)), (by omega), (by omega), fun c => ?_, fun c => ?_⟩⟩
              · rw [wM_no (by rw [et]; exact fun u => u.1 z)] at nxt; exact nxt
              · have no : ¬ wOp A e r (rBeside A i t) := fun u => by
                  rw [(q2 _ (by omega) hB.2).1 u] at c; exact absurd c (by decide)
                rw [wM_no (by rw [et]; exact fun u => no u.2)] at nxt; exact nxt
              · have yes : wOp A e r (rBeside A i t) := by
                  apply Classical.byContradiction
                  intro u; exact c ((q2 _ (by omega) hB.2).2.1 u)
                have c1 := (q2 _ (by omega) hB.2).1 yes
                have p1 := (q2 _ (by omega) hB.2).2.2
                have l1 := q3 (n - 1) (rBeside A i t) (by omega) (by omega) (by omega) hB.2
                rw [c1, p1, l1]
                rw [wM_yes (by rw [et]; exact ⟨z, yes⟩), et] at nxt
                have b1 := hpr (rBeside A i t)
                have b2 := wL_top (nx := rBeside A) (op := wOp A e r) (pr := wPr A e y) (to := to) (n - 1).toNat (rBeside A i t)
                have b3 := wL_low (nx := rBeside A) (op := wOp A e r) (to := to) hpr (n - 1).toNat (rBeside A i t)
                have b4 := (wM_le (nx := rBeside A) (op := wOp A e r) (pr := wPr A e y) (f := wL (rBeside A) (wOp A e r) (wPr A e y) to (n - 1).toNat) (k := i) (t - 1).toNat).1
                have b5 : 0 ≤ wM (rBeside A) (wOp A e r) (wPr A e y) (wL (rBeside A) (wOp A e r) (wPr A e y) to (n - 1).toNat) i (t - 1).toNat := by
                  rcases wM_is (nx := rBeside A) (op := wOp A e r) (pr := wPr A e y) (f := wL (rBeside A) (wOp A e r) (wPr A e y) to (n - 1).toNat) (k := i) (t - 1).toNat with u | ⟨u, u0, u1, u2⟩
                  · omega
                  · have := hpr (rBeside A i (u + 1))
                    have := wL_low (nx := rBeside A) (op := wOp A e r) (to := to) hpr (n - 1).toNat (rBeside A i (u + 1))
                    omega
                refine ⟨(i32 (by omega) (by omega)), (by omega), (by omega), (i32 (by omega) (by omega)), (i32 (by omega) (by omega)), fun u => ?_, fun u => ?_⟩
                · rw [if_pos u] at nxt; exact nxt
                · rw [if_neg u] at nxt; exact nxt
          exact key5 1 ⟨(by omega), (by omega)⟩
      exact key4 0 M1 ⟨⟨(by omega), (by omega)⟩, g1, g2, g3, fun k k0 k1 => absurd k1 (by omega)⟩
  refine QC.of qmX11_laysLeast_ok rfl (TX11_laysLeast_0 (m_laysOpen hA hL hS ⟨he.1, (by omega)⟩ hy (by rw [hR]; exact hr) (fun M1 k1 w1 => ?_)))
  rw [hR] at w1
  have key2 : ∀ i : Int, ∀ M2 : QMem, (0 ≤ i ∧ i ≤ 36) ∧ wK M M2 ∧ wRow A e r y (A 1 * A 2) M2 ∧ (∀ k, 0 ≤ k → k < i → M2 223 k = if k = to then 0 else 268435456) → QRm X x (d + 4) qmX11_laysLeast post 9 [(0, (2, 215)), (1, (0, e)), (2, (0, to)), (4, (0, i))] [] M2 := by
    refine int_up 36 (fun i hi M2 q => ?_) (fun i hi ih2 M2 q => ?_)
    · obtain ⟨q0, q1, q2, q3⟩ := q
      refine TX11_laysLeast_9 ⟨(i32 (by omega) (by omega)), fun _ => key3 1 M2 ⟨⟨(by omega), (by omega)⟩, q1, q2, fun j k j0 j1 k0 k1 => ?_⟩, fun z => absurd hi z⟩
      have : j = 0 := (by omega)
      subst this
      rw [show 36 * 0 + k = k by omega, q3 k k0 (by omega)]; rfl
    · obtain ⟨q0, q1, q2, q3⟩ := q
      have go : ∀ v : Int, v = (if i = to then 0 else 268435456) → QRm X x (d + 4) qmX11_laysLeast post 9 [(0, (2, 215)), (1, (0, e)), (2, (0, to)), (4, (0, i + 1))] [] (qup M2 223 i v) := fun v hv => by
        refine ih2 _ ⟨⟨(by omega), (by omega)⟩, q1.trans (wK.row (Or.inl rfl)), fun k k0 k1 => ?_, fun k k0 k1 => ?_⟩
        · rw [qup_row (by decide), qup_row (by decide)]; exact q2 k k0 k1
        · rw [qup_at]
          by_cases z : k = i
          · rw [if_pos z, z]; exact hv
          · rw [if_neg z]; exact q3 k k0 (by omega)
      exact TX11_laysLeast_9 ⟨(i32 (by omega) (by omega)), fun z => absurd hi (by omega), fun _ => ⟨fun z => ⟨(by omega), (by omega), go 0 (by rw [if_pos z])⟩, fun z => ⟨ht, (by omega), (by omega), go _ (by rw [if_neg z])⟩⟩⟩
  exact key2 0 M1 ⟨⟨(by omega), (by omega)⟩, k1, w1, fun k k0 k1 => absurd k1 (by omega)⟩
theorem m_cellsBy (hA : M 216 = A) (hL : rLandOk A) (hS : rStOk A) {e : Int} (he : 0 ≤ e ∧ e < A 3) (hb : ∀ j, 0 ≤ j → j ≤ 16 - A (60 + e) → 0 ≤ M 223 (36 * j + rEnd A e) ∧ M 223 (36 * j + rEnd A e) ≤ 268435456) (hp : ∀ v, wBy (fun j => M 223 (36 * j + rEnd A e)) (16 - A (60 + e)) v → post v M) : QCm X x (d + 1) 1 yX11_cellsBy [(2, 215), (0, e)] M post := by
  have hcl := hL.cells
  have a3 := hL.2.2.1
  have h6 := hS.2.1.1 e he.1 (by omega)
  have hE := rEnd_b hL hS.2.1 he.1 he.2
  have key : ∀ n : Int, ∀ v : Int, (0 ≤ n ∧ n ≤ 17 - A (60 + e)) ∧ wBy (fun j => M 223 (36 * j + rEnd A e)) (n - 1) v → QRm X x (d + 1) qmX11_cellsBy post 4 [(0, (2, 215)), (1, (0, e)), (2, (0, v)), (3, (0, n))] [] M := by
    refine int_up (17 - A (60 + e)) (fun n hn v g => ?_) (fun n hn ih v g => ?_)
    · refine TX11_cellsBy_4 (QC.of qmX11_leftOf_ok rfl (TX11_leftOf_0 ?_))
      rw [hA]
      refine ⟨(by omega), (by omega), (i32 (by omega) (by omega)), (i32 (by omega) (by omega)), fun _ => hp v ?_, fun z => absurd hn (by omega)⟩
      rw [show 16 - A (60 + e) = n - 1 by omega]; exact g.2
    · obtain ⟨g0, g1⟩ := g
      have hbn := hb n g0.1 (by omega)
      refine TX11_cellsBy_4 (QC.of qmX11_leftOf_ok rfl (TX11_leftOf_0 ?_))
      rw [hA]
      refine ⟨(by omega), (by omega), (i32 (by omega) (by omega)), (i32 (by omega) (by omega)), fun z => absurd hn (by omega), fun _ => m_endOf ⟨he.1, (by omega)⟩ (by rw [hA]; exact h6) ?_⟩
      rw [hA]
      refine ⟨(by omega), (by omega), (i32 (by omega) (by omega)), fun z => ih v ⟨⟨(by omega), (by omega)⟩, ?_⟩, fun z => ⟨fun c => ih n ⟨⟨(by omega), (by omega)⟩, ?_⟩, fun c => ?_⟩⟩
      · rw [show n + 1 - 1 = n by omega]
        rcases g1 with ⟨w1, w2⟩ | ⟨w1, w2, w3⟩
        · refine Or.inl ⟨w1, fun i i0 i1 => ?_⟩
          by_cases q : i = n
          · rw [q]; exact z
          · exact w2 i i0 (by omega)
        · refine Or.inr ⟨⟨w1.1, (by omega)⟩, w2, fun i i0 i1 i2 => ?_⟩
          by_cases q : i = n
          · rw [q] at i2
            have i2' : M 223 (36 * n + rEnd A e) < 268435456 := i2
            omega
          · exact w3 i i0 (by omega) i2
      · rw [show n + 1 - 1 = n by omega]
        rcases g1 with ⟨w1, w2⟩ | ⟨w1, w2, w3⟩
        · refine Or.inr ⟨⟨(by omega), (by omega)⟩, Int.not_le.1 z, fun i i0 i1 i2 => ?_⟩
          by_cases q : i = n
          · rw [q]; exact ⟨Int.le_refl _, fun u => absurd u (by omega)⟩
          · have u1 : 268435456 ≤ M 223 (36 * i + rEnd A e) := w2 i i0 (by omega)
            have u2 : M 223 (36 * i + rEnd A e) < 268435456 := i2
            omega
        · omega
      · rcases g1 with ⟨w1, w2⟩ | ⟨w1, w2, w3⟩
        · exact absurd w1 c
        have hbv := hb v w1.1 (by omega)
        refine ⟨(i32 (by omega) (by omega)), m_endOf ⟨he.1, (by omega)⟩ (by rw [hA]; exact h6) ?_⟩
        rw [hA]
        refine ⟨(by omega), (by omega), (i32 (by omega) (by omega)), fun u => ih v ⟨⟨(by omega), (by omega)⟩, ?_⟩, fun u => ih n ⟨⟨(by omega), (by omega)⟩, ?_⟩⟩
        · rw [show n + 1 - 1 = n by omega]
          refine Or.inr ⟨⟨w1.1, (by omega)⟩, w2, fun i i0 i1 i2 => ?_⟩
          by_cases q : i = n
          · rw [q]; exact ⟨u, fun u2 => absurd u2 (by omega)⟩
          · exact w3 i i0 (by omega) i2
        · rw [show n + 1 - 1 = n by omega]
          refine Or.inr ⟨⟨(by omega), (by omega)⟩, Int.not_le.1 z, fun i i0 i1 i2 => ?_⟩
          by_cases q : i = n
          · rw [q]; exact ⟨Int.le_refl _, fun u => absurd u (by omega)⟩
          · have := (w3 i i0 (by omega) i2).1
            have this' : M 223 (36 * v + rEnd A e) ≤ M 223 (36 * i + rEnd A e) := this
            have : M 223 (36 * n + rEnd A e) < M 223 (36 * i + rEnd A e) := by omega
            exact ⟨Int.le_of_lt this, fun _ => this⟩
  exact QC.of qmX11_cellsBy_ok rfl (TX11_cellsBy_0 (key 0 (-1) ⟨⟨(by omega), (by omega)⟩, Or.inl ⟨rfl, fun i i0 i1 => absurd i1 (by omega)⟩⟩))
theorem m_search (hA : M 216 = A) (hL : rLandOk A) (hS : rStOk A) {e y to : Int} (he : 0 ≤ e ∧ e < A 3) (hl : wLst A e (M 215 24) y to (16 - A (60 + e)) M) (hn : (∀ us, ¬ wIs (rBeside A) (wOp A e (M 215 24)) (rEnd A e) to (16 - A (60 + e)) us) → post (-1) M) (hy : ∀ v, (0 ≤ v ∧ v ≤ 16 - A (60 + e)) → wL (rBeside A) (wOp A e (M 215 24)) (wPr A e y) to v.toNat (rEnd A e) < 268435456 → wBest (rBeside A) (wOp A e (M 215 24)) (wPr A e y) (rEnd A e) to (16 - A (60 + e)) (wG (rBeside A) (wOp A e (M 215 24)) (wPr A e y) to v.toNat (rEnd A e)) → post v M) : QCm X x (d + 1) 1 yX11_cellsBy [(2, 215), (0, e)] M post := by
  have h6 := hS.2.1.1 e he.1 (by have := hL.2.2.1; omega)
  have hE := rEnd_b hL hS.2.1 he.1 he.2
  have hpr := wPr_b A e y
  refine m_cellsBy hA hL hS he (fun j j0 j1 => ?_) (fun v hv => ?_)
  · rw [hl j _ j0 j1 hE.1 hE.2]
    exact ⟨wL_low hpr _ _, wL_top _ _⟩
  · have hv' : wBy (fun j => wL (rBeside A) (wOp A e (M 215 24)) (wPr A e y) to j.toNat (rEnd A e)) (16 - A (60 + e)) v := by
      rcases hv with ⟨w1, w2⟩ | ⟨w1, w2, w3⟩
      · exact Or.inl ⟨w1, fun i i0 i1 => by have : 268435456 ≤ M 223 (36 * i + rEnd A e) := w2 i i0 i1; rw [hl i _ i0 i1 hE.1 hE.2] at this; exact this⟩
      · refine Or.inr ⟨w1, by have w2' : M 223 (36 * v + rEnd A e) < 268435456 := w2; rw [hl v _ w1.1 w1.2 hE.1 hE.2] at w2'; exact w2', fun i i0 i1 i2 => ?_⟩
        have : M 223 (36 * v + rEnd A e) ≤ M 223 (36 * i + rEnd A e) ∧ (i < v → M 223 (36 * v + rEnd A e) < M 223 (36 * i + rEnd A e)) := w3 i i0 i1 (by show M 223 (36 * i + rEnd A e) < 268435456; rw [hl i _ i0 i1 hE.1 hE.2]; exact i2)
        rw [hl i _ i0 i1 hE.1 hE.2, hl v _ w1.1 w1.2 hE.1 hE.2] at this
        exact this
    rcases wBy_best hpr (by omega) hv' with ⟨q1, q2⟩ | ⟨q1, q2, q3⟩
    · rw [q1]; exact hn q2
    · exact hy v q1 q2 q3
theorem m_leastFor (hA : M 216 = A) (hL : rLandOk A) (hS : rStOk A) {e y to : Int} (he : 0 ≤ e ∧ e < A 3) (hy : y = 0 ∨ y = 1) (ht : in32 to) (hr : in32 (M 215 24)) (hn : (∀ us, ¬ wIs (rBeside A) (wOp A e (M 215 24)) (rEnd A e) to (16 - A (60 + e)) us) → ∀ M1, wK M M1 → post (-1) M1) (hp : ∀ ts, wBest (rBeside A) (wOp A e (M 215 24)) (wPr A e y) (rEnd A e) to (16 - A (60 + e)) ts → ∀ M1, wK M M1 → post (wCost (rBeside A) (wPr A e y) (rEnd A e) ts) M1) : QCm X x (d + 5) 1 yX11_leastFor [(2, 215), (0, e), (0, to), (0, y)] M post := by
  have h6 := hS.2.1.1 e he.1 (by have := hL.2.2.1; omega)
  have hE := rEnd_b hL hS.2.1 he.1 he.2
  have hcl := hL.cells
  refine QC.of qmX11_leastFor_ok rfl (TX11_leastFor_0 (m_laysLeast hA hL hS he hy ht hr (fun M1 k1 w1 l1 => ?_)))
  have e1 : M1 216 = A := by rw [k1.all, hA]
  have er : M1 215 24 = M 215 24 := k1.2 24 (by omega) (by omega)
  refine m_search e1 hL hS he (y := y) (to := to) (by rw [er]; exact l1) (fun q => ⟨fun _ => hn (by rw [er] at q; exact q) M1 k1, fun z => absurd rfl z⟩) (fun v v0 v1 v2 => ⟨fun z => absurd z (by omega), fun _ => ⟨(i32 (by omega) (by omega)), m_endOf ⟨he.1, (by have := hL.2.2.1; omega)⟩ (by rw [e1]; exact h6) ?_⟩⟩)
  rw [e1]
  rw [er] at v1 v2
  rw [l1 v _ v0.1 v0.2 hE.1 hE.2]
  have g := wG_is (op := wOp A e (M 215 24)) (to := to) (wPr_b A e y) v.toNat (rEnd A e) v1
  have := hp _ v2 M1 k1
  rw [g.2.2.2] at this
  exact ⟨(by omega), (by omega), this⟩
/-- a set of cells: its bits -/
def wSet (S : Int) (p : Int → Prop) : Prop := in64 S ∧ ∀ k : Nat, k < 64 → (bt S k = true ↔ p k)
theorem wSet_eq {S T : Int} {p q : Int → Prop} (h1 : wSet S p) (h2 : wSet T q) (h : ∀ k : Nat, k < 64 → (p k ↔ q k)) : S = T := ext64 h1.1 h2.1 (fun k hk => by
  rw [Bool.eq_iff_iff, h1.2 k hk, h2.2 k hk]; exact h k hk)
theorem wSet_put {S j : Int} {p : Int → Prop} (h : wSet S p) (hj : 0 ≤ j ∧ j < 64) : wSet (qlor S (qlshl 1 j)) (fun k => p k ∨ k = j) := ⟨qlor_in _ _, fun k hk => by
  rw [put_l S hj hk, Bool.or_eq_true, h.2 k hk, decide_eq_true_iff]⟩
theorem wSet_0 : wSet 0 (fun _ => False) := ⟨⟨by decide, by decide⟩, fun k _ => by rw [bt_0]; exact ⟨fun z => absurd z (by decide), False.elim⟩⟩
theorem wSet.iff {S : Int} {p q : Int → Prop} (h1 : wSet S p) (h : ∀ k : Nat, k < 64 → (p k ↔ q k)) : wSet S q := ⟨h1.1, fun k hk => (h1.2 k hk).trans (h k hk)⟩
theorem getD_snoc_lt : ∀ (l : List Int) (t : Int) (j : Nat), j < l.length → (l ++ [t]).getD j 0 = l.getD j 0
  | [], _, _, h => absurd h (by simp)
  | _ :: _, _, 0, _ => rfl
  | _ :: l, t, j + 1, h => getD_snoc_lt l t j (by simpa using h)
theorem getD_snoc_eq : ∀ (l : List Int) (t : Int), (l ++ [t]).getD l.length 0 = t
  | [], _ => rfl
  | _ :: l, t => getD_snoc_eq l t
theorem m_isNext (hA : M 216 = A) (hL : rLandOk A) {e y to r n k t : Int} (hw : wRow A e r y (A 1 * A 2) M) (hn : 1 ≤ n ∧ n ≤ 16) (hl : wLst A e r y to n M) (hk : 0 ≤ k ∧ k < A 1 * A 2) (ht : 1 ≤ t ∧ t ≤ 5) (h1 : wNx (rBeside A) (wOp A e r) (wPr A e y) to (n - 1).toNat k t → post 1 M) (h0 : ¬ wNx (rBeside A) (wOp A e r) (wPr A e y) to (n - 1).toNat k t → post 0 M) : QCm X x (d + 1) 1 yX11_isNext [(2, 215), (0, k), (0, t), (0, n)] M post := by
  have hcl := hL.cells
  have hpr := wPr_b A e y
  have hB := rBeside_b (t := t) hL hk
  refine QC.of qmX11_isNext_ok rfl (TX11_isNext_0 (m_beside ⟨hk.1, (by omega)⟩ (i32 (by omega) (by omega)) (by rw [hA]; exact hL.1) (by rw [hA]; exact hL.2.1) ?_))
  rw [hA]
  refine ⟨fun z => h0 (fun q => q.1 z), fun z => ⟨(i32 (by omega) (by omega)), (by omega), (by omega), fun c => h0 (fun q => ?_), fun c => ?_⟩⟩
  · rw [(hw _ (by omega) hB.2).1 q.2.1] at c; exact absurd c (by decide)
  · have yes : wOp A e r (rBeside A k t) := by
      apply Classical.byContradiction
      intro u; exact c ((hw _ (by omega) hB.2).2.1 u)
    have b1 := hpr (rBeside A k t)
    have b2 := wL_top (nx := rBeside A) (op := wOp A e r) (pr := wPr A e y) (to := to) (n - 1).toNat (rBeside A k t)
    have b3 := wL_low (nx := rBeside A) (op := wOp A e r) (to := to) hpr (n - 1).toNat (rBeside A k t)
    have b4 := wL_top (nx := rBeside A) (op := wOp A e r) (pr := wPr A e y) (to := to) n.toNat k
    have b5 := wL_low (nx := rBeside A) (op := wOp A e r) (to := to) hpr n.toNat k
    rw [(hw _ (by omega) hB.2).1 yes, (hw _ (by omega) hB.2).2.2, hl (n - 1) _ (by omega) (by omega) (by omega) hB.2, hl n _ (by omega) (by omega) hk.1 hk.2]
    refine ⟨(i32 (by omega) (by omega)), (by omega), (by omega), (by omega), (by omega), fun u => h1 ⟨z, yes, ?_⟩, fun u => ⟨(i32 (by omega) (by omega)), (i32 (by omega) (by omega)), h0 (fun q => u ?_)⟩⟩
    · rw [show (n - 1).toNat + 1 = n.toNat by omega]; exact u
    · have := q.2.2
      rw [show (n - 1).toNat + 1 = n.toNat by omega] at this; exact this
theorem m_laysWay (hA : M 216 = A) (hL : rLandOk A) (hS : rStOk A) {e to : Int} (he : 0 ≤ e ∧ e < A 3) (ht : in32 to) (hr : in32 (M 215 24)) (hn : (∀ us, ¬ wIs (rBeside A) (wOp A e (M 215 24)) (rEnd A e) to (16 - A (60 + e)) us) → ∀ M1, wK M M1 → M1 215 26 = 0 → post (-1) M1) (hp : ∀ ts, wBest (rBeside A) (wOp A e (M 215 24)) (wPr A e 1) (rEnd A e) to (16 - A (60 + e)) ts → ∀ M1, wK M M1 → wSet (M1 215 26) (wHas (rBeside A) (rEnd A e) ts) → (∀ i : Nat, i < ts.length → M1 226 i = ts.getD i 0) → post ts.length M1) : QCm X x (d + 5) 1 yX11_laysWay [(2, 215), (0, e), (0, to)] M post := by
  have hcl := hL.cells
  have a3 := hL.2.2.1
  have h6 := hS.2.1.1 e he.1 (by omega)
  have hE := rEnd_b hL hS.2.1 he.1 he.2
  have hpr := wPr_b A e 1
  refine QC.of qmX11_laysWay_ok rfl (TX11_laysWay_0 (m_laysLeast hA hL hS he (Or.inr rfl) ht hr (fun M1 k1 w1 l1 => ?_)))
  have e1 : M1 216 = A := by rw [k1.all, hA]
  have er : M1 215 24 = M 215 24 := k1.2 24 (by omega) (by omega)
  generalize hR : M 215 24 = r at *
  refine m_search e1 hL hS he (y := 1) (to := to) (by rw [er]; exact l1) (fun q => m_endOf ⟨he.1, (by omega)⟩ (by rw [e1]; exact h6) ?_) (fun v v0 v1 v2 => m_endOf ⟨he.1, (by omega)⟩ (by rw [e1]; exact h6) ?_)
  · rw [er] at q
    refine TX11_laysWay_28 ⟨(i32 (by omega) (by omega)), (i32 (by omega) (by omega)), fun _ => hn q _ (k1.trans wK.fld) ?_, fun z => absurd (by decide) z⟩
    · rw [qup_at, if_pos rfl]
  rw [er] at v1 v2
  rw [e1]
  have key : ∀ i : Int, ∀ (M2 : QMem) (h : Int) (P : List Int), ((0 ≤ i ∧ i ≤ v) ∧ wK M M2 ∧ M2 223 = M1 223 ∧ M2 224 = M1 224 ∧ M2 225 = M1 225) ∧ (0 ≤ h ∧ h < A 1 * A 2) ∧ wEnd (rBeside A) (rEnd A e) P = h ∧ (P.length : Int) = i ∧ P ++ wG (rBeside A) (wOp A e r) (wPr A e 1) to (v - i).toNat h = wG (rBeside A) (wOp A e r) (wPr A e 1) to v.toNat (rEnd A e) ∧ wL (rBeside A) (wOp A e r) (wPr A e 1) to (v - i).toNat h < 268435456 ∧ wSet (M2 215 26) (wHas (rBeside A) (rEnd A e) P) ∧ (∀ j : Nat, j < P.length → M2 226 j = P.getD j 0) → QRm X x (d + 5) qmX11_laysWay post 28 [(0, (2, 215)), (3, (0, v)), (4, (0, h)), (5, (0, i))] [] M2 := by
    refine int_up v (fun i hi M2 h P g => ?_) (fun i hi ih M2 h P g => ?_)
    · obtain ⟨⟨g0, g1, _, _, _⟩, g3, g4, g5, g6, g7, g8, g9⟩ := g
      refine TX11_laysWay_28 ⟨(i32 (by omega) (by omega)), (i32 (by omega) (by omega)), fun _ => ?_, fun z => absurd hi z⟩
      rw [show (v - i).toNat = 0 by omega] at g6
      have g6' : P ++ [] = wG (rBeside A) (wOp A e r) (wPr A e 1) to v.toNat (rEnd A e) := g6
      rw [List.append_nil] at g6'
      rw [← g6'] at v2
      have := hp P v2 M2 g1 g8 g9
      rw [g5, show i = v by omega] at this
      exact this
    · obtain ⟨⟨g0, g1, g23, g24, g25⟩, g3, g4, g5, g6, g7, g8, g9⟩ := g
      have e2 : M2 216 = A := by rw [g1.all, hA]
      refine TX11_laysWay_28 ⟨(i32 (by omega) (by omega)), (i32 (by omega) (by omega)), fun z => absurd hi (by omega), fun _ => ?_⟩
      have en : (v - i).toNat = (v - i - 1).toNat + 1 := by omega
      rw [en] at g6 g7
      obtain ⟨tb, tn, tf⟩ := wT_is (wNx_of hpr g7)
      have hB := rBeside_b (t := wT (rBeside A) (wOp A e r) (wPr A e 1) to (v - i - 1).toNat h) hL g3
      have key2 : ∀ t : Int, 1 ≤ t ∧ t ≤ wT (rBeside A) (wOp A e r) (wPr A e 1) to (v - i - 1).toNat h → QRm X x (d + 5) qmX11_laysWay post 43 [(0, (2, 215)), (3, (0, v)), (4, (0, h)), (5, (0, i)), (6, (0, v - i)), (7, (0, t))] [] M2 := by
        refine int_up (wT (rBeside A) (wOp A e r) (wPr A e 1) to (v - i - 1).toNat h) (fun t ht2 q => ?_) (fun t ht2 ih2 q => ?_)
        · have te : t = wT (rBeside A) (wOp A e r) (wPr A e 1) to (v - i - 1).toNat h := (by omega)
          refine TX11_laysWay_43 (m_isNext e2 hL (e := e) (y := 1) (to := to) (r := r) (fun k k0 k1 => by rw [g24, g25]; exact w1 k k0 k1) ⟨(by omega), (by omega)⟩ (fun j k j0 j1 k0 k1 => by rw [g23]; exact l1 j k j0 (by omega) k0 k1) g3 ⟨(by omega), (by omega)⟩ (fun _ => ⟨fun z => absurd z (by decide), fun _ => ⟨(i32 (by omega) (by omega)), (by omega), (by omega), m_beside ⟨g3.1, (by omega)⟩ (i32 (by omega) (by omega)) (by rw [qup_row (by decide), e2]; exact hL.1) (by rw [qup_row (by decide), e2]; exact hL.2.1) ?_⟩⟩) (fun z => absurd (by rw [te]; exact tn) z))
          rw [qup_row (by decide), e2, te]
          have nn := tn.1
          refine ih _ _ (P ++ [wT (rBeside A) (wOp A e r) (wPr A e 1) to (v - i - 1).toNat h]) ⟨⟨⟨(by omega), (by omega)⟩, (g1.trans (wK.row (Or.inr (Or.inr (Or.inr rfl))))).trans wK.fld, ?_, ?_, ?_⟩, ⟨(by omega), hB.2⟩, ?_, ?_, ?_, ?_, ?_, ?_⟩
          · rw [qup_row (by decide), qup_row (by decide)]; exact g23
          · rw [qup_row (by decide), qup_row (by decide)]; exact g24
          · rw [qup_row (by decide), qup_row (by decide)]; exact g25
          · rw [wEnd_snoc, g4]
          · rw [List.length_append]; show ((P.length + 1 : Nat) : Int) = _; omega
          · rw [List.append_assoc, show (v - (i + 1)).toNat = (v - i - 1).toNat by omega]; exact g6
          · have t2 := tn.2.2
            have := hpr (rBeside A h (wT (rBeside A) (wOp A e r) (wPr A e 1) to (v - i - 1).toNat h))
            rw [show (v - (i + 1)).toNat = (v - i - 1).toNat by omega]
            omega
          · rw [qup_at, if_pos rfl, qup_row (by decide)]
            refine (wSet_put g8 ⟨(by omega), (by omega)⟩).iff (fun k _ => ?_)
            rw [wHas_snoc, g4]
            exact ⟨fun z => z.elim Or.inl (fun y => Or.inr y.symm), fun z => z.elim Or.inl (fun y => Or.inr y.symm)⟩
          · intro j hj
            rw [List.length_append] at hj
            have hj' : j < P.length + 1 := hj
            rw [qup_row (by decide), qup_at]
            by_cases z : j = P.length
            · rw [if_pos (by omega), z, getD_snoc_eq]
            · rw [if_neg (by omega), getD_snoc_lt P _ j (by omega)]; exact g9 j (by omega)
        · refine TX11_laysWay_43 (m_isNext e2 hL (e := e) (y := 1) (to := to) (r := r) (fun k k0 k1 => by rw [g24, g25]; exact w1 k k0 k1) ⟨(by omega), (by omega)⟩ (fun j k j0 j1 k0 k1 => by rw [g23]; exact l1 j k j0 (by omega) k0 k1) g3 ⟨(by omega), (by omega)⟩ (fun z => absurd z (tf t q.1 ht2)) (fun z => ⟨fun _ => ih2 ⟨(by omega), (by omega)⟩, fun y => absurd rfl y⟩))
      exact key2 1 ⟨(by omega), (by omega)⟩
  refine key 0 _ (rEnd A e) [] ⟨⟨⟨(by omega), (by omega)⟩, k1.trans wK.fld, ?_, ?_, ?_⟩, hE, rfl, rfl, ?_, ?_, ?_, fun j hj => absurd hj (by simp)⟩
  · rw [qup_row (by decide)]
  · rw [qup_row (by decide)]
  · rw [qup_row (by decide)]
  · rw [show (v - 0).toNat = v.toNat by omega]; rfl
  · rw [show (v - 0).toNat = v.toNat by omega]; exact v1
  · rw [qup_at, if_pos rfl]; exact wSet_0
end MWays82
