/-- what the class's searches leave as it was -/
def vK (M M1 : QMem) : Prop := ∀ a, a < 151 ∨ 160 < a → a ≠ 220 → a ≠ 221 → a ≠ 23 → a ≠ 26 → M1 a = M a
theorem vK.refl (M : QMem) : vK M M := fun _ _ _ _ _ _ => rfl
theorem vK.trans {M M1 M2 : QMem} (h : vK M M1) (g : vK M1 M2) : vK M M2 := fun a b0 b1 b2 b3 b4 => (g a b0 b1 b2 b3 b4).trans (h a b0 b1 b2 b3 b4)
theorem vK.gK {M M1 : QMem} (h : vK M M1) : gK M M1 := gK.of_rows (fun a q1 q2 q3 => h a (by omega) (by omega) (by omega) q2 q3)
theorem vK.lK {M M1 : QMem} (h : lK M M1) : vK M M1 := fun a _ b1 b2 b3 b4 => h a b1 b2 b3 b4
theorem vK.row {M : QMem} {a i v : Int} (ha : 151 ≤ a ∧ a ≤ 160) : vK M (qup M a i v) := fun b b0 _ _ _ _ => by rw [qup_row (by omega)]
def vFld (A : Int → Int) (e : Int) (M : QMem) : Prop := M 151 9 = A 1 * A 2 ∧ M 151 10 = A 1 ∧ M 151 11 = rEnd A e ∧ M 151 12 = 16 - A (60 + e)
def vSets (A : Int → Int) (e n : Int) (M : QMem) : Prop := wSet (M 151 13) (fun k => k < n ∧ wOp A e (-1) k) ∧ wSet (M 151 14) (fun k => k < n ∧ wOp A e (-1) k ∧ 0 < rLie A k) ∧ wSet (M 151 15) (fun k => k < n ∧ rBeside A k 2 = -1) ∧ wSet (M 151 16) (fun k => k < n ∧ rBeside A k 4 = -1) ∧ ∀ k t, 0 ≤ k → k < n → 1 ≤ t → t ≤ 4 → M 160 (k * 4 + t - 1) = rBeside A k t
theorem vFld.congr {A : Int → Int} {e : Int} {M M1 : QMem} (h : vFld A e M) (k : ∀ j, 9 ≤ j → j ≤ 12 → M1 151 j = M 151 j) : vFld A e M1 := by
  unfold vFld; rw [k 9 (by omega) (by omega), k 10 (by omega) (by omega), k 11 (by omega) (by omega), k 12 (by omega) (by omega)]; exact h
theorem qlor_0 {v : Int} (h : in64 v) : qlor v 0 = v := ext64 (qlor_in _ _) h (fun k hk => by rw [bl_or _ _ hk, bt_0, Bool.or_false])
theorem wSet_yes {S n : Int} {p : Int → Prop} (h : wSet S (fun k => k < n ∧ p k)) (hn : 0 ≤ n ∧ n < 64) (z : p n) : wSet (qlor S (qlshl 1 n)) (fun k => k < n + 1 ∧ p k) := (wSet_put h hn).iff (fun k _ => ⟨fun y => by
  rcases y with y | y
  · exact ⟨by omega, y.2⟩
  · rw [y]; exact ⟨by omega, z⟩, fun y => by
  by_cases q : (k : Int) = n
  · exact Or.inr q
  · exact Or.inl ⟨by omega, y.2⟩⟩)
theorem wSet_no {S n : Int} {p : Int → Prop} (h : wSet S (fun k => k < n ∧ p k)) (z : ¬ p n) : wSet S (fun k => k < n + 1 ∧ p k) := h.iff (fun k _ => ⟨fun y => ⟨by omega, y.2⟩, fun y => by
  by_cases q : (k : Int) = n
  · rw [q] at y; exact absurd y.2 z
  · exact ⟨by omega, y.2⟩⟩)
theorem wSet.bt {S : Int} {p : Int → Prop} (h : wSet S p) {k : Int} (hk : 0 ≤ k ∧ k < 64) : (bt S k.toNat = true ↔ p k) := by
  have := h.2 k.toNat (by omega)
  rw [show ((k.toNat : Nat) : Int) = k by omega] at this; exact this
section CWays83
variable {X : QX} {x : Int} {d : Nat} {post : Int → QMem → Prop} {M : QMem} {cont : Int → Int → QMem → Prop} {A : Int → Int}
theorem v_isIn {v k : Int} (hk : -1 ≤ k ∧ k < 64) (ht : 0 ≤ k → bt v k.toNat = true → post 1 M) (hf : k = -1 ∨ bt v k.toNat = false → post 0 M) : QCm X x d 1 yX9_isIn [(1, v), (0, k)] M post := by
  refine QC.of qmX9_isIn_ok rfl (TX9_isIn_0 ⟨(i32 (by omega) (by omega)), fun z => hf (Or.inl (by omega)), fun z => ?_⟩)
  rw [ask_u v ⟨(by omega), hk.2⟩]
  refine ⟨fun y => ht (by omega) ?_, fun y => ⟨by split <;> exact ⟨by decide, by decide⟩, hf (Or.inr ?_)⟩⟩
  · apply Classical.byContradiction
    intro q; rw [if_neg q] at y; exact absurd y (by decide)
  · cases q : bt v k.toNat with
    | false => rfl
    | true => rw [if_pos q] at y; exact absurd rfl y
theorem v_leadOf {k t : Int} (hk : 0 ≤ k ∧ k < 36) (ht : 1 ≤ t ∧ t ≤ 4) (hp : post (M 160 (k * 4 + t - 1)) M) : QCm X x d 1 yX9_leadOf [(2, 151), (0, k), (0, t)] M post :=
  QC.of qmX9_leadOf_ok rfl (TX9_leadOf_0 ⟨(i32 (by omega) (by omega)), fun z => absurd z (by omega), fun _ => ⟨fun z => absurd z (by omega), fun _ => ⟨(by omega), (by omega), hp⟩⟩⟩)
theorem c_begin (h : cOk A 27 M) {e : Int} (he : 0 ≤ e ∧ e < A 3) (hp : ∀ M1, vK M M1 → vFld A e M1 → vSets A e (A 1 * A 2) M1 → post 0 M1) : QCm X x (d + 4) 0 yX9_begin [(2, 151), (2, 17), (2, 27), (0, e)] M post := by
  have hcl := h.1.cells
  have a3 := h.1.2.2.1
  have h6 := h.2.1.2.1.1 e he.1 (by omega)
  have ec : M 17 0 * M 17 1 = A 1 * A 2 := by rw [h.2.2.1.1.1, h.2.2.1.1.2.1]
  have ew : M 17 0 = A 1 := h.2.2.1.1.1
  have hw := h.1.1
  have cong : ∀ M1 : QMem, vK M M1 → cOk A 27 M1 := fun M1 k => ⟨h.1, h.2.1, h.2.2.1.congr (fun a ha => k a (by omega) (by omega) (by omega) (by omega) (by omega)), h.2.2.2.congr (fun a a0 a1 => k a (by omega) (by omega) (by omega) (by omega) (by omega))⟩
  have key : ∀ i : Int, ∀ M1 : QMem, (0 ≤ i ∧ i ≤ A 1 * A 2) ∧ vK M M1 ∧ vFld A e M1 ∧ vSets A e i M1 → QRm X x (d + 4) qmX9_begin post 66 [(0, (2, 151)), (1, (2, 17)), (2, (2, 27)), (3, (0, e)), (4, (0, i))] [] M1 := by
    refine int_up (A 1 * A 2) (fun i hi M1 g => ?_) (fun i hi ih M1 g => ?_)
    · obtain ⟨g0, g1, g2, g3⟩ := g
      refine TX9_begin_66 ?_
      rw [g2.1]
      refine ⟨(i32 (by omega) (by omega)), (i32 (by omega) (by omega)), fun _ => hp M1 g1 g2 ?_, fun z => absurd hi z⟩
      rw [show A 1 * A 2 = i by omega]; exact g3
    · obtain ⟨g0, g1, g2, g3⟩ := g
      refine TX9_begin_66 ?_
      rw [g2.1]
      refine ⟨(i32 (by omega) (by omega)), (i32 (by omega) (by omega)), fun z => absurd hi (by omega), fun _ => ?_⟩
      have i64' : 0 ≤ i ∧ i < 64 := ⟨g0.1, (by omega)⟩
      -- what stands behind the edges
      have tail : ∀ M2 : QMem, vK M M2 → vFld A e M2 → wSet (M2 151 13) (fun k => k < i ∧ wOp A e (-1) k) → wSet (M2 151 14) (fun k => k < i ∧ wOp A e (-1) k ∧ 0 < rLie A k) → wSet (M2 151 15) (fun k => k < i + 1 ∧ rBeside A k 2 = -1) → wSet (M2 151 16) (fun k => k < i + 1 ∧ rBeside A k 4 = -1) → (∀ k t, 0 ≤ k → k < i + 1 → 1 ≤ t → t ≤ 4 → M2 160 (k * 4 + t - 1) = rBeside A k t) → QCm X x (d + 3) 1 yX6_lying [(2, 27), (0, i)] M2 (fun x3 M3 => QCm X x (d + 3) 1 yX6_isOpen [(2, 27), (2, 17), (0, e), (0, i)] M3 (fun x4 M4 => (x4 = 0 → (QRm X x (d + 4) qmX9_begin post 66 [(0, (2, 151)), (1, (2, 17)), (2, (2, 27)), (3, (0, e)), (4, (0, i + 1))] [] M4)) ∧ (¬ x4 = 0 → in32 x4 ∧ (QCm X x (d + 3) 1 yX1_mayLie [(2, 17), (0, e), (0, i), (0, M4 27 10), (0, x3)] M4 (fun x5 M5 => (x5 = 0 → (QRm X x (d + 4) qmX9_begin post 66 [(0, (2, 151)), (1, (2, 17)), (2, (2, 27)), (3, (0, e)), (4, (0, i + 1))] [] M5)) ∧ (¬ x5 = 0 → in32 x5 ∧ (in32 x3 ∧ (x3 ≤ 0 → (QRm X x (d + 4) qmX9_begin post 66 [(0, (2, 151)), (1, (2, 17)), (2, (2, 27)), (3, (0, e)), (4, (0, i + 1))] [] (qup (qup M5 151 13 (qlor (M5 151 13) (qlshl 1 i))) 151 14 (qlor ((qup M5 151 13 (qlor (M5 151 13) (qlshl 1 i))) 151 14) 0)))) ∧ (¬ x3 ≤ 0 → (QRm X x (d + 4) qmX9_begin post 66 [(0, (2, 151)), (1, (2, 17)), (2, (2, 27)), (3, (0, e)), (4, (0, i + 1))] [] (qup (qup M5 151 13 (qlor (M5 151 13) (qlshl 1 i))) 151 14 (qlor ((qup M5 151 13 (qlor (M5 151 13) (qlshl 1 i))) 151 14) (qlshl 1 i)))))))))))) := by
        intro M2 k2 f2 s13 s14 s15 s16 sl
        have c2 := cong M2 k2
        have hwet : M2 27 10 = A 52 := c2.2.2.2.2.2.2.2.2.2.1
        have no : ¬ wOp A e (-1) i → ∀ M3 : QMem, (∀ a, 151 ≤ a → a ≤ 160 → M3 a = M2 a) → vK M M3 → QRm X x (d + 4) qmX9_begin post 66 [(0, (2, 151)), (1, (2, 17)), (2, (2, 27)), (3, (0, e)), (4, (0, i + 1))] [] M3 := by
          intro z M3 r3 k3
          refine ih M3 ⟨⟨(by omega), (by omega)⟩, k3, f2.congr (fun j _ _ => by rw [r3 151 (by omega) (by omega)]), ?_⟩
          unfold vSets
          rw [r3 151 (by omega) (by omega), r3 160 (by omega) (by omega)]
          exact ⟨wSet_no s13 z, wSet_no s14 (fun y => z y.1), s15, s16, sl⟩
        refine c_lying (Or.inl rfl) h.2.1 a3.2 c2.2.2.2 ⟨g0.1, (by omega)⟩ (c_isOpen (Or.inl rfl) c2 ⟨he.1, (by omega)⟩ ⟨(by omega), hi⟩ (fun _ o => ⟨fun z => absurd z (by decide), fun _ => ⟨(i32 (by omega) (by omega)), ?_⟩⟩) (fun o => ⟨fun _ => no (fun y => ?_) M2 (fun _ _ _ => rfl) k2, fun z => absurd rfl z⟩))
        · rw [hwet]
          refine c_mayLie h.1 h.2.1.1 c2.2.2.1 ⟨g0.1, (by omega)⟩ ⟨he.1, (by omega)⟩ (fun l M5 k5 => ⟨fun z => absurd z (by decide), fun _ => ⟨(i32 (by omega) (by omega)), ?_⟩⟩) (fun l M5 k5 => ⟨fun _ => no (fun y => l y.2.2) M5 (fun a a0 a1 => k5 a (by omega) (by omega) (by omega) (by omega)) (k2.trans (vK.lK k5)), fun z => absurd rfl z⟩)
          have r1 : M5 151 = M2 151 := k5 151 (by omega) (by omega) (by omega) (by omega)
          have r2 : M5 160 = M2 160 := k5 160 (by omega) (by omega) (by omega) (by omega)
          have yes : wOp A e (-1) i := ⟨(by omega), o, l⟩
          have lb := rLie_b A i
          have fin : ∀ v : Int, wSet v (fun k => k < i + 1 ∧ wOp A e (-1) k ∧ 0 < rLie A k) → QRm X x (d + 4) qmX9_begin post 66 [(0, (2, 151)), (1, (2, 17)), (2, (2, 27)), (3, (0, e)), (4, (0, i + 1))] [] (qup (qup M5 151 13 (qlor (M5 151 13) (qlshl 1 i))) 151 14 v) := fun v hv => by
            refine ih _ ⟨⟨(by omega), (by omega)⟩, (k2.trans (vK.lK k5)).trans ((vK.row ⟨by decide, by decide⟩).trans (vK.row ⟨by decide, by decide⟩)), f2.congr (fun j j0 j1 => ?_), ?_, ?_, ?_, ?_, ?_⟩
            · rw [qup_at, if_neg (by omega), qup_at, if_neg (by omega), r1]
            · rw [qup_at, if_neg (by decide), qup_at, if_pos rfl, r1]; exact wSet_yes s13 i64' yes
            · rw [qup_at, if_pos rfl]; exact hv
            · rw [qup_at, if_neg (by decide), qup_at, if_neg (by decide), r1]; exact s15
            · rw [qup_at, if_neg (by decide), qup_at, if_neg (by decide), r1]; exact s16
            · rw [qup_row (by decide), qup_row (by decide), r2]; exact sl
          refine ⟨(i32 (by omega) (by omega)), fun z => fin _ ?_, fun z => fin _ ?_⟩
          · rw [qup_at, if_neg (by decide), r1, qlor_0 s14.1]; exact wSet_no s14 (fun y => absurd y.2 (by omega))
          · rw [qup_at, if_neg (by decide), r1]; exact wSet_yes s14 i64' ⟨yes, (by omega)⟩
        · rcases o with o | o
          · omega
          · exact o y.2.1
      have key2 : ∀ t : Int, ∀ M2 : QMem, (1 ≤ t ∧ t ≤ 5) ∧ vK M M2 ∧ M2 151 = M1 151 ∧ (∀ k u, 0 ≤ k → k < i → 1 ≤ u → u ≤ 4 → M2 160 (k * 4 + u - 1) = rBeside A k u) ∧ (∀ u, 1 ≤ u → u < t → M2 160 (i * 4 + u - 1) = rBeside A i u) → QRm X x (d + 4) qmX9_begin post 78 [(0, (2, 151)), (1, (2, 17)), (2, (2, 27)), (3, (0, e)), (4, (0, i)), (5, (0, t))] [] M2 := by
        refine int_up 5 (fun t ht M2 q => ?_) (fun t ht ih2 M2 q => ?_)
        · obtain ⟨q0, q1, q2, q3, q4⟩ := q
          have sl : ∀ k u, 0 ≤ k → k < i + 1 → 1 ≤ u → u ≤ 4 → M2 160 (k * 4 + u - 1) = rBeside A k u := fun k u k0 k1 u0 u1 => by
            by_cases z : k = i
            · rw [z]; exact q4 u u0 (by omega)
            · exact q3 k u k0 (by omega) u0 u1
          have f2 : vFld A e M2 := g2.congr (fun j _ _ => by rw [q2])
          have b2 := rBeside_b (t := 2) h.1 (k := i) ⟨g0.1, hi⟩
          have b4 := rBeside_b (t := 4) h.1 (k := i) ⟨g0.1, hi⟩
          have go : ∀ v15 v16 : Int, wSet v15 (fun k => k < i + 1 ∧ rBeside A k 2 = -1) → wSet v16 (fun k => k < i + 1 ∧ rBeside A k 4 = -1) → vK M (qup (qup M2 151 15 v15) 151 16 v16) ∧ vFld A e (qup (qup M2 151 15 v15) 151 16 v16) ∧ wSet ((qup (qup M2 151 15 v15) 151 16 v16) 151 13) (fun k => k < i ∧ wOp A e (-1) k) ∧ wSet ((qup (qup M2 151 15 v15) 151 16 v16) 151 14) (fun k => k < i ∧ wOp A e (-1) k ∧ 0 < rLie A k) ∧ wSet ((qup (qup M2 151 15 v15) 151 16 v16) 151 15) (fun k => k < i + 1 ∧ rBeside A k 2 = -1) ∧ wSet ((qup (qup M2 151 15 v15) 151 16 v16) 151 16) (fun k => k < i + 1 ∧ rBeside A k 4 = -1) ∧ (∀ k t, 0 ≤ k → k < i + 1 → 1 ≤ t → t ≤ 4 → (qup (qup M2 151 15 v15) 151 16 v16) 160 (k * 4 + t - 1) = rBeside A k t) := by
            intro v15 v16 h15 h16
            refine ⟨q1.trans ((vK.row ⟨by decide, by decide⟩).trans (vK.row ⟨by decide, by decide⟩)), f2.congr (fun j j0 j1 => by rw [qup_at, if_neg (by omega), qup_at, if_neg (by omega)]), ?_, ?_, ?_, ?_, ?_⟩
            · rw [qup_at, if_neg (by decide), qup_at, if_neg (by decide), q2]; exact g3.1
            · rw [qup_at, if_neg (by decide), qup_at, if_neg (by decide), q2]; exact g3.2.1
            · rw [qup_at, if_neg (by decide), qup_at, if_pos rfl]; exact h15
            · rw [qup_at, if_pos rfl]; exact h16
            · rw [qup_row (by decide), qup_row (by decide)]; exact sl
          have s15 := g3.2.2.1
          have s16 := g3.2.2.2.1
          rw [← q2] at s15 s16
          refine TX9_begin_78 ⟨(i32 (by omega) (by omega)), fun _ => v_leadOf ⟨g0.1, (by omega)⟩ ⟨by decide, by decide⟩ ?_, fun z => absurd ht (by omega)⟩
          rw [sl i 2 g0.1 (by omega) (by decide) (by decide)]
          refine ⟨fun z => v_leadOf ⟨g0.1, (by omega)⟩ ⟨by decide, by decide⟩ ?_, fun z => ⟨(i32 (by omega) (by omega)), v_leadOf ⟨g0.1, (by omega)⟩ ⟨by decide, by decide⟩ ?_⟩⟩
          all_goals rw [qup_row (b := 160) (by decide), sl i 4 g0.1 (by omega) (by decide) (by decide), qup_at (j := 16), if_neg (by decide)]
          · have w15 := wSet_yes s15 i64' z
            refine ⟨fun y => ?_, fun y => ⟨(i32 (by omega) (by omega)), ?_⟩⟩
            · obtain ⟨u1, u2, u3, u4, u5, u6, u7⟩ := go _ _ w15 (wSet_yes s16 i64' y)
              exact tail _ u1 u2 u3 u4 u5 u6 u7
            · rw [qlor_0 s16.1]
              obtain ⟨u1, u2, u3, u4, u5, u6, u7⟩ := go _ _ w15 (wSet_no s16 y)
              exact tail _ u1 u2 u3 u4 u5 u6 u7
          · have w15 := wSet_no s15 z
            rw [qlor_0 s15.1]
            refine ⟨fun y => ?_, fun y => ⟨(i32 (by omega) (by omega)), ?_⟩⟩
            · obtain ⟨u1, u2, u3, u4, u5, u6, u7⟩ := go _ _ w15 (wSet_yes s16 i64' y)
              exact tail _ u1 u2 u3 u4 u5 u6 u7
            · rw [qlor_0 s16.1]
              obtain ⟨u1, u2, u3, u4, u5, u6, u7⟩ := go _ _ w15 (wSet_no s16 y)
              exact tail _ u1 u2 u3 u4 u5 u6 u7
        · obtain ⟨q0, q1, q2, q3, q4⟩ := q
          refine TX9_begin_78 ⟨(i32 (by omega) (by omega)), fun z => absurd ht (by omega), fun _ => c_beside h.1 (cong M2 q1).2.2.1 ⟨g0.1, hi⟩ ⟨(by omega), (by omega)⟩ ⟨(by omega), (by omega), ih2 _ ⟨⟨(by omega), (by omega)⟩, q1.trans (vK.row ⟨by decide, by decide⟩), ?_, fun k u k0 k1 u0 u1 => ?_, fun u u0 u1 => ?_⟩⟩⟩
          · rw [qup_row (by decide)]; exact q2
          · rw [qup_at, if_neg (by omega)]; exact q3 k u k0 k1 u0 u1
          · rw [qup_at]
            by_cases z : u = t
            · rw [if_pos (by rw [z]), z]
            · rw [if_neg (by omega)]; exact q4 u u0 (by omega)
      exact key2 1 M1 ⟨⟨(by omega), (by omega)⟩, g1, rfl, g3.2.2.2.2, fun u u0 u1 => absurd u1 (by omega)⟩
  refine QC.of qmX9_begin_ok rfl (TX9_begin_0 (c_cells (Or.inl rfl) (by rw [ec]; omega) ?_))
  rw [ec, qup_row (b := 17) (by decide), ew]
  have mx : ∀ Q : Int → QMem → Prop, Q (A 1) (qup M 151 9 (A 1 * A 2)) → QCm X x (d + 3) 1 yJ9_max_7cf53 [(0, 1), (0, A 1)] (qup M 151 9 (A 1 * A 2)) Q := fun Q hQ => j_max ⟨by decide, by decide⟩ (i32 (by omega) (by omega)) (fun _ => hQ) (fun z => absurd (by omega) z)
  refine mx _ ?_
  have k1 : vK M (qup (qup M 151 9 (A 1 * A 2)) 151 10 (A 1)) := (vK.row ⟨by decide, by decide⟩).trans (vK.row ⟨by decide, by decide⟩)
  have c1 := cong _ k1
  refine c_endOf (Or.inl rfl) h.1 h.2.1.2.1 c1.2.2.1 c1.2.2.2 he ⟨he.1, (by omega), ?_⟩
  have l0 : (qup (qup (qup M 151 9 (A 1 * A 2)) 151 10 (A 1)) 151 11 (rEnd A e)) 28 e = A (60 + e) := by
    rw [qup_row (by decide), qup_row (by decide), qup_row (by decide)]; exact h.2.2.2.1 e he.1 (by omega)
  rw [l0]
  refine key 0 _ ⟨⟨(by omega), (by omega)⟩, ?_, ⟨?_, ?_, ?_, ?_⟩, ?_, ?_, ?_, ?_, fun k t k0 k1 => absurd k1 (by omega)⟩
  · intro a b0 _ _ _ _
    rw [qup_row (by omega), qup_row (by omega), qup_row (by omega), qup_row (by omega), qup_row (by omega), qup_row (by omega), qup_row (by omega), qup_row (by omega)]
  · rw [qup_at, if_neg (by decide), qup_at, if_neg (by decide), qup_at, if_neg (by decide), qup_at, if_neg (by decide), qup_at, if_neg (by decide), qup_at, if_neg (by decide), qup_at, if_neg (by decide), qup_at, if_pos rfl]
  · rw [qup_at, if_neg (by decide), qup_at, if_neg (by decide), qup_at, if_neg (by decide), qup_at, if_neg (by decide), qup_at, if_neg (by decide), qup_at, if_neg (by decide), qup_at, if_pos rfl]
  · rw [qup_at, if_neg (by decide), qup_at, if_neg (by decide), qup_at, if_neg (by decide), qup_at, if_neg (by decide), qup_at, if_neg (by decide), qup_at, if_pos rfl]
  · rw [qup_at, if_neg (by decide), qup_at, if_neg (by decide), qup_at, if_neg (by decide), qup_at, if_neg (by decide), qup_at, if_pos rfl]
  · rw [qup_at, if_neg (by decide), qup_at, if_neg (by decide), qup_at, if_neg (by decide), qup_at, if_pos rfl]
    exact wSet_0.iff (fun k _ => ⟨False.elim, fun z => absurd z.1 (by omega)⟩)
  · rw [qup_at, if_neg (by decide), qup_at, if_neg (by decide), qup_at, if_pos rfl]
    exact wSet_0.iff (fun k _ => ⟨False.elim, fun z => absurd z.1 (by omega)⟩)
  · rw [qup_at, if_neg (by decide), qup_at, if_pos rfl]
    exact wSet_0.iff (fun k _ => ⟨False.elim, fun z => absurd z.1 (by omega)⟩)
  · rw [qup_at, if_pos rfl]
    exact wSet_0.iff (fun k _ => ⟨False.elim, fun z => absurd z.1 (by omega)⟩)
end CWays83
