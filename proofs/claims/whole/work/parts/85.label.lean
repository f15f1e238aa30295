/-- what the search knows of a cell by walks of at most n cells -/
def vGood (A : Int → Int) (e y n : Int) (M : QMem) (k : Int) (ts : List Int) : Prop := wBest (rBeside A) (wOp A e (-1)) (wPr A e y) (rEnd A e) k n ts ∧ M 152 k = wCost (rBeside A) (wPr A e y) (rEnd A e) ts ∧ M 153 k = ts.length ∧ wSet (M 154 k) (wHas (rBeside A) (rEnd A e) ts) ∧ M 155 k = wNum ts
def vNone (A : Int → Int) (e n : Int) (M : QMem) (k : Int) : Prop := M 152 k = -1 ∧ M 153 k = 0 ∧ M 154 k = 0 ∧ M 155 k = 0 ∧ ∀ us, ¬ wIs (rBeside A) (wOp A e (-1)) (rEnd A e) k n us
def vLab (A : Int → Int) (e y n : Int) (M : QMem) : Prop := ∀ k, 0 ≤ k → k < A 1 * A 2 → vNone A e n M k ∨ ∃ ts, vGood A e y n M k ts
def vEdge (A : Int → Int) (n : Int) (M : QMem) (E : Int) : Prop := ∀ k, 0 ≤ k → k < A 1 * A 2 → (bt E k.toNat = true ↔ M 152 k ≠ -1 ∧ M 153 k = n)
theorem wEnd_in {A : Int → Int} (hL : rLandOk A) {op : Int → Prop} : ∀ (ts : List Int) (k : Int), 0 ≤ k ∧ k < A 1 * A 2 → wOk (rBeside A) op k ts → 0 ≤ wEnd (rBeside A) k ts ∧ wEnd (rBeside A) k ts < A 1 * A 2
  | [], _, h, _ => h
  | t :: ts, k, h, w => by
    have b := rBeside_b (t := t) hL h
    have := w.2.1
    exact wEnd_in hL ts (rBeside A k t) ⟨by omega, b.2⟩ w.2.2.2
theorem pow4_le : ∀ n : Nat, n < 17 → (4 : Int) ^ n ≤ 4294967296 := by decide +kernel
theorem vLab.num {A : Int → Int} {e y n : Int} {M : QMem} (hn : n ≤ 16) (h : vLab A e y n M) : ∀ k, 0 ≤ k → k < A 1 * A 2 → (-1 ≤ M 152 k ∧ M 152 k ≤ 10000) ∧ (0 ≤ M 153 k ∧ M 153 k ≤ 16) ∧ 0 ≤ M 155 k ∧ M 155 k ≤ 1099511627776 := by
  intro k k0 k1
  rcases h k k0 k1 with ⟨h1, h2, _, h3, _⟩ | ⟨ts, h1, h2, h3, _, h5⟩
  · rw [h1, h2, h3]; omega
  · have c := wCost_b (nx := rBeside A) (wPr_b A e y) ts (rEnd A e)
    have l := h1.1.2.2
    have b := wNum_b ts _ h1.1.1
    have p := pow4_le ts.length (by omega)
    rw [h2, h3, h5]; omega
section Label85
variable {X : QX} {x : Int} {d : Nat} {post : Int → QMem → Prop} {M : QMem} {cont : Int → Int → QMem → Prop} {A : Int → Int}
theorem lab_step (hL : rLandOk A) {e y n E F : Int} {M1 : QMem} (hs : 0 ≤ rEnd A e ∧ rEnd A e < A 1 * A 2) (hc : ∀ k, 0 ≤ k → k < A 1 * A 2 → wOp A e (-1) k → M 159 k = wPr A e y k) (hn : 0 ≤ n) (h : vLab A e y n M) (hE : vEdge A n M E) (hF : ∀ j, 0 ≤ j → j < A 1 * A 2 → (bt F j.toNat = false ∧ (∀ k t, ¬ vB A e M E k t j) ∧ M1 152 j = M 152 j ∧ M1 153 j = M 153 j ∧ M1 154 j = M 154 j ∧ M1 155 j = M 155 j) ∨ (bt F j.toNat = true ∧ ∃ k0 t0, vB A e M E k0 t0 j ∧ M1 152 j = M 152 k0 + M 159 j ∧ M1 153 j = n + 1 ∧ M1 154 j = qlor (M 154 k0) (qlshl 1 j) ∧ M1 155 j = M 155 k0 * 4 + t0 - 1 ∧ ∀ k t, vB A e M E k t j → M1 152 j < M 152 k + M 159 j ∨ (M1 152 j = M 152 k + M 159 j ∧ M1 155 j ≤ M 155 k * 4 + t - 1))) : vLab A e y (n + 1) M1 ∧ vEdge A (n + 1) M1 F := by
  have hcl := hL.cells
  have hpr := wPr_b A e y
  obtain ⟨lb, hlb⟩ : ∃ lb : Int → List Int, ∀ j, (0 ≤ j ∧ j < A 1 * A 2) → M 152 j ≠ -1 → vGood A e y n M j (lb j) := by
    refine Classical.axiomOfChoice (r := fun j ts => (0 ≤ j ∧ j < A 1 * A 2) → M 152 j ≠ -1 → vGood A e y n M j ts) (fun j => ?_)
    by_cases c : (0 ≤ j ∧ j < A 1 * A 2) ∧ M 152 j ≠ -1
    · rcases h j c.1.1 c.1.2 with q | ⟨ts, q⟩
      · exact absurd q.1 c.2
      · exact ⟨ts, fun _ _ => q⟩
    · exact ⟨[], fun a b => absurd ⟨a, b⟩ c⟩
  have hall : ∀ j, (((0 ≤ j ∧ j < A 1 * A 2) ∧ M 152 j ≠ -1) ∧ wBest (rBeside A) (wOp A e (-1)) (wPr A e y) (rEnd A e) j n (lb j)) ∨ (¬ ((0 ≤ j ∧ j < A 1 * A 2) ∧ M 152 j ≠ -1) ∧ ∀ us, ¬ wIs (rBeside A) (wOp A e (-1)) (rEnd A e) j n us) := fun j => by
    by_cases c : 0 ≤ j ∧ j < A 1 * A 2
    · rcases h j c.1 c.2 with q | ⟨ts, q⟩
      · exact Or.inr ⟨fun z => z.2 q.1, q.2.2.2.2⟩
      · have ne : M 152 j ≠ -1 := by
          have := wCost_b (nx := rBeside A) hpr ts (rEnd A e)
          rw [q.2.1]; omega
        exact Or.inl ⟨⟨c, ne⟩, (hlb j c ne).1⟩
    · exact Or.inr ⟨fun z => c z.1, fun us u => c (by rw [← u.2.1]; exact wEnd_in hL us _ hs u.1)⟩
  have edge : ∀ j t k, ((0 ≤ j ∧ j < A 1 * A 2) ∧ M 152 j ≠ -1) → ((lb j).length : Int) = n → 1 ≤ t → t ≤ 4 → rBeside A j t = k → wOp A e (-1) k → (M 152 k = -1 ∨ M 152 j + M 159 k < M 152 k) → vB A e M E j t k := fun j t k a b t0 t1 bk o c => ⟨a.1, (hE j a.1.1 a.1.2).2 ⟨a.2, by rw [(hlb j a.1 a.2).2.2.1]; exact b⟩, ⟨t0, t1⟩, bk, o, c⟩
  have cst : ∀ j t k, ((0 ≤ j ∧ j < A 1 * A 2) ∧ M 152 j ≠ -1) → rBeside A j t = k → (0 ≤ k ∧ k < A 1 * A 2) → wOp A e (-1) k → wCost (rBeside A) (wPr A e y) (rEnd A e) (lb j ++ [t]) = M 152 j + M 159 k := fun j t k a bk kb o => by
    have gj := hlb j a.1 a.2
    rw [wCost_snoc, gj.1.1.2.1, bk, ← gj.2.1, hc k kb.1 kb.2 o]
  refine ⟨fun k k0 k1 => ?_, fun k k0 k1 => ?_⟩
  · rcases hF k k0 k1 with ⟨f1, f2, f3, f4, f5, f6⟩ | ⟨f1, j0, t0, f2, f3, f4, f5, f6, f7⟩
    · rcases hall k with ⟨q1, q2⟩ | ⟨q1, q2⟩
      · have gk := hlb k q1.1 q1.2
        refine Or.inr ⟨lb k, wBest_step hn hall ⟨q2.1.1, q2.1.2.1, by have := q2.1.2.2; omega⟩ (fun _ => Or.inr ⟨rfl, Or.inr ⟨rfl, Int.le_refl _⟩⟩) (fun j t a b t0 t1 bk kn o => Or.inr ⟨lb k, q1, rfl, ?_⟩), by rw [f3]; exact gk.2.1, by rw [f4]; exact gk.2.2.1, by rw [f5]; exact gk.2.2.2.1, by rw [f6]; exact gk.2.2.2.2⟩
        rw [cst j t k a bk ⟨k0, k1⟩ o, ← gk.2.1]
        rcases Int.lt_or_le (M 152 j + M 159 k) (M 152 k) with z | z
        · exact absurd (edge j t k a b t0 t1 bk o (Or.inr z)) (f2 j t)
        · exact z
      · have e1 : M 152 k = -1 := by
          apply Classical.byContradiction
          intro z; exact q1 ⟨⟨k0, k1⟩, z⟩
        rcases h k k0 k1 with w | ⟨ts, w⟩
        · refine Or.inl ⟨by rw [f3]; exact e1, by rw [f4]; exact w.2.1, by rw [f5]; exact w.2.2.1, by rw [f6]; exact w.2.2.2.1, wNone_step hn hall q1 (fun j t a b t0 t1 bk kn o => f2 j t (edge j t k a b t0 t1 bk o (Or.inl e1)))⟩
        · exact absurd w.1.1 (q2 ts)
    · obtain ⟨b1, b2, b3, b4, b5, b6⟩ := f2
      have ej := (hE j0 b1.1 b1.2).1 b2
      have aj : (0 ≤ j0 ∧ j0 < A 1 * A 2) ∧ M 152 j0 ≠ -1 := ⟨b1, ej.1⟩
      have gj := hlb j0 b1 ej.1
      have cj := cst j0 t0 k aj b4 ⟨k0, k1⟩ b5
      have lj : ((lb j0).length : Int) = n := by rw [← gj.2.2.1]; exact ej.2
      have kn : k ≠ -1 := (by omega)
      have okj : wOk (rBeside A) (wOp A e (-1)) (rEnd A e) (lb j0 ++ [t0]) := (wOk_snoc _ _).2 ⟨gj.1.1.1, b3, by rw [gj.1.1.2.1, b4]; exact kn, by rw [gj.1.1.2.1, b4]; exact b5⟩
      have ll : ((lb j0 ++ [t0]).length : Int) = n + 1 := by rw [List.length_append, show [t0].length = 1 from rfl]; omega
      refine Or.inr ⟨lb j0 ++ [t0], wBest_step hn hall ⟨okj, by rw [wEnd_snoc, gj.1.1.2.1, b4], by omega⟩ (fun q => Or.inl ?_) (fun j t a b t0' t1' bk _ o => ?_), ?_, ?_, ?_, ?_⟩
      · rw [cj, ← (hlb k q.1 q.2).2.1]
        rcases b6 with z | z
        · exact absurd z q.2
        · exact z
      · by_cases z : M 152 k = -1 ∨ M 152 j + M 159 k < M 152 k
        · have := f7 j t (edge j t k a b t0' t1' bk o z)
          have lj' : ((lb j ++ [t]).length : Int) = n + 1 := by rw [List.length_append, show [t].length = 1 from rfl]; omega
          have gj' := hlb j a.1 a.2
          refine Or.inl ?_
          unfold wLe
          rw [cj, cst j t k a bk ⟨k0, k1⟩ o, wNum_snoc, wNum_snoc, ← gj.2.2.2.2, ← gj'.2.2.2.2]
          omega
        · have ke : (0 ≤ k ∧ k < A 1 * A 2) ∧ M 152 k ≠ -1 := ⟨⟨k0, k1⟩, fun q => z (Or.inl q)⟩
          refine Or.inr ⟨lb k, ke, rfl, ?_⟩
          rw [← (hlb k ke.1 ke.2).2.1, cst j t k a bk ⟨k0, k1⟩ o]
          omega
      · rw [f3, cj]
      · rw [f4, ll]
      · rw [f5]
        refine (wSet_put gj.2.2.2.1 ⟨k0, (by omega)⟩).iff (fun c _ => ?_)
        rw [wHas_snoc, gj.1.1.2.1, b4]
        exact ⟨fun z => z.elim Or.inl (fun q => Or.inr q.symm), fun z => z.elim Or.inl (fun q => Or.inr q.symm)⟩
      · rw [f6, wNum_snoc, ← gj.2.2.2.2]; omega
  · rcases hF k k0 k1 with ⟨f1, f2, f3, f4, f5, f6⟩ | ⟨f1, j0, t0, f2, f3, f4, f5, f6, f7⟩
    · rw [f1, f3, f4]
      refine ⟨fun z => absurd z (by decide), fun z => ?_⟩
      have g := hlb k ⟨k0, k1⟩ z.1
      have := g.1.1.2.2
      have := g.2.2.1
      omega
    · rw [f1, f3, f4]
      refine ⟨fun _ => ⟨?_, rfl⟩, fun _ => rfl⟩
      obtain ⟨b1, b2, b3, b4, b5, b6⟩ := f2
      have ej := (hE j0 b1.1 b1.2).1 b2
      have g := hlb j0 b1 ej.1
      have c1 := wCost_b (nx := rBeside A) hpr (lb j0) (rEnd A e)
      have c2 := hpr k
      rw [hc k k0 k1 b5, g.2.1]; omega
theorem lab_stay (hL : rLandOk A) {e y n : Int} (hs : 0 ≤ rEnd A e ∧ rEnd A e < A 1 * A 2) (hc : ∀ k, 0 ≤ k → k < A 1 * A 2 → wOp A e (-1) k → M 159 k = wPr A e y k) (hn : 0 ≤ n) (h : vLab A e y n M) (hl : ∀ k, 0 ≤ k → k < A 1 * A 2 → M 152 k ≠ -1 → M 153 k < n) : ∀ m : Nat, vLab A e y (n + m) M := by
  intro m
  induction m with
  | zero => rw [show n + ((0 : Nat) : Int) = n by omega]; exact h
  | succ m ih =>
    have := (lab_step (F := 0) (E := 0) hL hs hc (by omega) ih (fun k k0 k1 => by
      rw [bt_0]
      refine ⟨fun z => absurd z (by decide), fun z => ?_⟩
      have := hl k k0 k1 z.1
      omega) (fun j j0 j1 => Or.inl ⟨bt_0 _, fun k t b => by have := b.2.1; rw [bt_0] at this; exact absurd this (by decide), rfl, rfl, rfl, rfl⟩)).1
    rw [show n + ((m + 1 : Nat) : Int) = n + m + 1 by omega]; exact this
theorem c_find (hL : rLandOk A) (hS : rStOk A) {e y : Int} (he : 0 ≤ e ∧ e < A 3) (hf : vFld A e M) (hv : vSets A e (A 1 * A 2) M) (hc : ∀ k, 0 ≤ k → k < A 1 * A 2 → wOp A e (-1) k → M 159 k = wPr A e y k) (hp : ∀ M1, (∀ a, a < 152 ∨ 158 < a → M1 a = M a) → vLab A e y (16 - A (60 + e)) M1 → post 0 M1) : QCm X x (d + 3) 0 yX9_find [(2, 151)] M post := by
  have hcl := hL.cells
  have a3 := hL.2.2.1
  have h6 := hS.2.1.1 e he.1 (by omega)
  have hE := rEnd_b hL hS.2.1 he.1 he.2
  have hpr := wPr_b A e y
  have key : ∀ i : Int, ∀ (E : Int) (M1 : QMem), (1 ≤ i ∧ i ≤ 17 - A (60 + e)) ∧ in64 E ∧ (∀ a, a < 152 ∨ 158 < a → M1 a = M a) ∧ vLab A e y (i - 1) M1 ∧ vEdge A (i - 1) M1 E → QRm X x (d + 3) qmX9_find post 51 [(0, (2, 151)), (1, (1, E)), (3, (0, i))] [] M1 := by
    refine int_up (17 - A (60 + e)) (fun i hi E M1 g => ?_) (fun i hi ih E M1 g => ?_)
    · obtain ⟨g0, gE, g1, g2, g3⟩ := g
      refine TX9_find_51 ?_
      rw [g1 151 (by omega), hf.2.2.2]
      refine ⟨(i32 (by omega) (by omega)), (i32 (by omega) (by omega)), fun _ => hp M1 g1 ?_, fun z => absurd hi (by omega)⟩
      rw [show 16 - A (60 + e) = i - 1 by omega]; exact g2
    · obtain ⟨g0, gE, g1, g2, g3⟩ := g
      have c1 : ∀ k, 0 ≤ k → k < A 1 * A 2 → wOp A e (-1) k → M1 159 k = wPr A e y k := fun k k0 k1 o => by rw [g1 159 (by omega)]; exact hc k k0 k1 o
      refine TX9_find_51 ?_
      rw [g1 151 (by omega), hf.2.2.2]
      refine ⟨(i32 (by omega) (by omega)), (i32 (by omega) (by omega)), fun z => absurd hi (by omega), fun _ => ⟨fun z => hp M1 g1 ?_, fun z => ⟨gE, ?_⟩⟩⟩
      · have := lab_stay hL hE c1 (by omega) g2 (fun k k0 k1 w => by
          have e0 := (g3 k k0 k1).2
          rw [z, bt_0] at e0
          have : M1 153 k ≠ i - 1 := fun q => absurd (e0 ⟨w, q⟩) (by decide)
          have b : M1 153 k ≤ i - 1 := by
            rcases g2 k k0 k1 with q | ⟨ts, q⟩
            · exact absurd q.1 w
            · have := q.1.1.2.2
              have := q.2.2.1
              omega
          omega) (16 - A (60 + e) - (i - 1)).toNat
        rw [show i - 1 + (((16 - A (60 + e) - (i - 1)).toNat : Nat) : Int) = 16 - A (60 + e) by omega] at this
        exact this
      · have nm := g2.num (by omega)
        refine c_findNext hL (e := e) (by rw [g1 151 (by omega)]; exact hf.1) (by rw [g1 151 (by omega)]; exact hv.1) (fun k t k0 k1 t0 t1 => by rw [g1 160 (by omega)]; exact hv.2.2.2.2 k t k0 k1 t0 t1) ⟨fun k k0 k1 => ⟨(nm k k0 k1).1, (nm k k0 k1).2.2⟩, fun k k0 k1 o => ?_⟩ (fun k k0 k1 b => ?_) (fun F M2 r2 hF iF => ?_)
        · rw [c1 k k0 k1 o]; exact hpr k
        · have := ((g3 k k0 k1).1 b).1
          have := (nm k k0 k1).1
          omega
        · have st := lab_step (n := i - 1) hL hE c1 (by omega) g2 g3 (fun j j0 j1 => by rw [show i - 1 + 1 = i by omega]; exact hF j j0 j1)
          refine ih F M2 ⟨⟨(by omega), (by omega)⟩, iF, fun a ha => by rw [r2 a ha, g1 a ha], ?_, ?_⟩
          · rw [show i + 1 - 1 = i - 1 + 1 by omega]; exact st.1
          · rw [show i + 1 - 1 = i - 1 + 1 by omega]; exact st.2
  refine QC.of qmX9_find_ok rfl (TX9_find_0 (j_fill (n := 36) rfl (by decide) (by decide) (fun M1 f1 v1 => j_fill (n := 36) rfl (by decide) (by decide) (fun M2 f2 v2 => j_lfill (n := 36) rfl (by decide) (by decide) (fun M3 f3 v3 => j_lfill (n := 36) rfl (by decide) (by decide) (fun M4 f4 v4 => ?_))))))
  have s11 : M4 151 11 = rEnd A e := by rw [f4 151 (by omega), f3 151 (by omega), f2 151 (by omega), f1 151 (by omega)]; exact hf.2.2.1
  rw [qup_row (b := 151) (by decide), s11]
  refine ⟨(by omega), (by omega), key 1 _ _ ⟨⟨(by omega), (by omega)⟩, qlshl_in _ _, fun a ha => ?_, fun k k0 k1 => ?_, fun k k0 k1 => ?_⟩⟩
  · rw [qup_row (by omega), f4 a (by omega), f3 a (by omega), f2 a (by omega), f1 a (by omega)]
  · rw [show (1 : Int) - 1 = 0 from rfl]
    have w2 : (qup M4 152 (rEnd A e) 0) 152 k = if k = rEnd A e then 0 else -1 := by
      rw [qup_at]
      split
      · rfl
      · rw [f4 152 (by omega), f3 152 (by omega), f2 152 (by omega), v1 k k0 (by omega)]
    have w3 : (qup M4 152 (rEnd A e) 0) 153 k = 0 := by rw [qup_row (by decide), f4 153 (by omega), f3 153 (by omega), v2 k k0 (by omega)]
    have w4 : (qup M4 152 (rEnd A e) 0) 154 k = 0 := by rw [qup_row (by decide), f4 154 (by omega), v3 k k0 (by omega)]
    have w5 : (qup M4 152 (rEnd A e) 0) 155 k = 0 := by rw [qup_row (by decide), v4 k k0 (by omega)]
    have nil : ∀ us : List Int, (us.length : Int) ≤ 0 → us = [] := fun us hu => List.length_eq_zero_iff.1 (by omega)
    by_cases z : k = rEnd A e
    · rw [if_pos z] at w2
      refine Or.inr ⟨[], ⟨⟨True.intro, z.symm, Int.le_refl 0⟩, fun us hu => ?_⟩, w2, w3, ?_, w5⟩
      · rw [nil us hu.2.2]; exact Or.inr ⟨rfl, Or.inr ⟨rfl, Int.le_refl _⟩⟩
      · rw [w4]; exact wSet_0.iff (fun _ _ => Iff.rfl)
    · rw [if_neg z] at w2
      refine Or.inl ⟨w2, w3, w4, w5, fun us hu => z ?_⟩
      have := hu.2.1
      rw [nil us hu.2.2] at this
      exact this.symm
  · rw [bit_l ⟨(by omega), (by omega)⟩ (by omega), qup_at, qup_row (by decide), f4 153 (by omega), f3 153 (by omega), v2 k k0 (by omega), decide_eq_true_iff, show ((k.toNat : Nat) : Int) = k by omega]
    by_cases z : k = rEnd A e
    · rw [if_pos z]; exact ⟨fun _ => ⟨by decide, rfl⟩, fun _ => z⟩
    · rw [if_neg z, f4 152 (by omega), f3 152 (by omega), f2 152 (by omega), v1 k k0 (by omega)]
      exact ⟨fun q => absurd q z, fun q => absurd rfl q.1⟩
theorem c_findShort (h : cOk A 27 M) {e : Int} (he : 0 ≤ e ∧ e < A 3) (hp : ∀ M1, vK M M1 → vFld A e M1 → vSets A e (A 1 * A 2) M1 → vLab A e 1 (16 - A (60 + e)) M1 → post 0 M1) : QCm X x (d + 5) 0 yX9_findShort [(2, 151), (2, 17), (2, 27), (0, e)] M post := by
  have hcl := h.1.cells
  have a3 := h.1.2.2.1
  have cong : ∀ M1 : QMem, vK M M1 → cOk A 27 M1 := fun M1 k => ⟨h.1, h.2.1, h.2.2.1.congr (fun a ha => k a (by omega) (by omega) (by omega) (by omega) (by omega)), h.2.2.2.congr (fun a a0 a1 => k a (by omega) (by omega) (by omega) (by omega) (by omega))⟩
  refine QC.of qmX9_findShort_ok rfl (TX9_findShort_0 (c_begin h he (fun M1 k1 f1 s1 => ?_)))
  have key : ∀ i : Int, ∀ M2 : QMem, (0 ≤ i ∧ i ≤ A 1 * A 2) ∧ vK M M2 ∧ M2 151 = M1 151 ∧ M2 160 = M1 160 ∧ (∀ k, 0 ≤ k → k < i → wOp A e (-1) k → M2 159 k = wPr A e 1 k) → QRm X x (d + 5) qmX9_findShort post 10 [(0, (2, 151)), (1, (2, 17)), (2, (2, 27)), (3, (0, e)), (4, (0, i))] [] M2 := by
    refine int_up (A 1 * A 2) (fun i hi M2 g => ?_) (fun i hi ih M2 g => ?_)
    · obtain ⟨g0, g1, g2, g3, g4⟩ := g
      have f2 : vFld A e M2 := f1.congr (fun j _ _ => by rw [g2])
      have s2 : vSets A e (A 1 * A 2) M2 := by unfold vSets; rw [g2, g3]; exact s1
      refine TX9_findShort_10 ?_
      rw [g2, f1.1]
      refine ⟨(i32 (by omega) (by omega)), (i32 (by omega) (by omega)), fun _ => c_find h.1 h.2.1 (y := 1) he f2 s2 (fun k k0 k1 o => g4 k k0 (by omega) o) (fun M3 r3 l3 => hp M3 (g1.trans (fun a b0 _ _ _ _ => r3 a (by omega))) (f2.congr (fun j _ _ => by rw [r3 151 (by omega)])) ?_ l3), fun z => absurd hi z⟩
      unfold vSets; rw [r3 151 (by omega), r3 160 (by omega)]; exact s2
    · obtain ⟨g0, g1, g2, g3, g4⟩ := g
      have wet : M2 27 10 = A 52 := (cong M2 g1).2.2.2.2.2.2.2.2.2.1
      have go : ∀ (M3 : QMem) (v : Int), lK M2 M3 → (wOp A e (-1) i → v = wPr A e 1 i) → QRm X x (d + 5) qmX9_findShort post 10 [(0, (2, 151)), (1, (2, 17)), (2, (2, 27)), (3, (0, e)), (4, (0, i + 1))] [] (qup M3 159 i v) := fun M3 v k3 hv => by
        refine ih _ ⟨⟨(by omega), (by omega)⟩, (g1.trans (vK.lK k3)).trans (vK.row ⟨by decide, by decide⟩), ?_, ?_, fun k k0 k1 o => ?_⟩
        · rw [qup_row (by decide), k3 151 (by omega) (by omega) (by omega) (by omega)]; exact g2
        · rw [qup_row (by decide), k3 160 (by omega) (by omega) (by omega) (by omega)]; exact g3
        · rw [qup_at]
          by_cases z : k = i
          · rw [if_pos z, z]; rw [z] at o; exact hv o
          · rw [if_neg z, k3 159 (by omega) (by omega) (by omega) (by omega)]; exact g4 k k0 (by omega) o
      refine TX9_findShort_10 ?_
      rw [g2, f1.1]
      refine ⟨(i32 (by omega) (by omega)), (i32 (by omega) (by omega)), fun z => absurd hi (by omega), fun _ => v_isIn ⟨(by omega), (by omega)⟩ (fun _ b => ⟨fun z => absurd z (by decide), fun _ => ⟨(i32 (by omega) (by omega)), ?_⟩⟩) (fun b => ⟨fun _ => ⟨(by omega), (by omega), go M2 0 (lK.refl _) (fun o => ?_)⟩, fun z => absurd rfl z⟩)⟩
      · rw [wet]
        exact c_yardsFor h.1 h.2.1.1 (cong M2 g1).2.2.1 ⟨g0.1, (by omega)⟩ ⟨he.1, (by omega)⟩ (fun M3 k3 => ⟨(by omega), (by omega), go M3 _ k3 (fun _ => by rw [wPr, if_neg (by decide)])⟩)
      · rcases b with b | b
        · omega
        · rw [(s1.1.bt (k := i) ⟨g0.1, (by omega)⟩).2 ⟨hi, o⟩] at b; exact absurd b (by decide)
  exact key 0 M1 ⟨⟨(by omega), (by omega)⟩, k1, rfl, rfl, fun k k0 k1 => absurd k1 (by omega)⟩
theorem c_findLeastCrossed (h : cOk A 27 M) {e : Int} (he : 0 ≤ e ∧ e < A 3) (hp : ∀ M1, vK M M1 → vLab A e 0 (16 - A (60 + e)) M1 → post 0 M1) : QCm X x (d + 5) 0 yX9_findLeastCrossed [(2, 151), (2, 17), (2, 27), (0, e)] M post := by
  have hcl := h.1.cells
  refine QC.of qmX9_findLeastCrossed_ok rfl (TX9_findLeastCrossed_0 (c_begin h he (fun M1 k1 f1 s1 => ?_)))
  have key : ∀ i : Int, ∀ M2 : QMem, (0 ≤ i ∧ i ≤ A 1 * A 2) ∧ vK M M2 ∧ M2 151 = M1 151 ∧ M2 160 = M1 160 ∧ (∀ k, 0 ≤ k → k < i → wOp A e (-1) k → M2 159 k = wPr A e 0 k) → QRm X x (d + 5) qmX9_findLeastCrossed post 10 [(0, (2, 151)), (4, (0, i))] [] M2 := by
    refine int_up (A 1 * A 2) (fun i hi M2 g => ?_) (fun i hi ih M2 g => ?_)
    · obtain ⟨g0, g1, g2, g3, g4⟩ := g
      have f2 : vFld A e M2 := f1.congr (fun j _ _ => by rw [g2])
      have s2 : vSets A e (A 1 * A 2) M2 := by unfold vSets; rw [g2, g3]; exact s1
      refine TX9_findLeastCrossed_10 ?_
      rw [g2, f1.1]
      exact ⟨(i32 (by omega) (by omega)), (i32 (by omega) (by omega)), fun _ => c_find h.1 h.2.1 (y := 0) he f2 s2 (fun k k0 k1 o => g4 k k0 (by omega) o) (fun M3 r3 l3 => hp M3 (g1.trans (fun a b0 _ _ _ _ => r3 a (by omega))) l3), fun z => absurd hi z⟩
    · obtain ⟨g0, g1, g2, g3, g4⟩ := g
      have go : ∀ v : Int, (wOp A e (-1) i → v = wPr A e 0 i) → QRm X x (d + 5) qmX9_findLeastCrossed post 10 [(0, (2, 151)), (4, (0, i + 1))] [] (qup M2 159 i v) := fun v hv => by
        refine ih _ ⟨⟨(by omega), (by omega)⟩, g1.trans (vK.row ⟨by decide, by decide⟩), ?_, ?_, fun k k0 k1 o => ?_⟩
        · rw [qup_row (by decide)]; exact g2
        · rw [qup_row (by decide)]; exact g3
        · rw [qup_at]
          by_cases z : k = i
          · rw [if_pos z, z]; rw [z] at o; exact hv o
          · rw [if_neg z]; exact g4 k k0 (by omega) o
      have lb := rLie_b A i
      refine TX9_findLeastCrossed_10 ?_
      rw [g2, f1.1]
      refine ⟨(i32 (by omega) (by omega)), (i32 (by omega) (by omega)), fun z => absurd hi (by omega), fun _ => v_isIn ⟨(by omega), (by omega)⟩ (fun _ b => ⟨fun z => absurd z (by decide), fun _ => ⟨(i32 (by omega) (by omega)), (by omega), (by omega), go 1 (fun o => ?_)⟩⟩) (fun b => ⟨fun _ => ⟨(by omega), (by omega), go 0 (fun o => ?_)⟩, fun z => absurd rfl z⟩)⟩
      · have q := (s1.2.1.bt (k := i) ⟨g0.1, (by omega)⟩).1 b
        have n2 := o.2.1.2.2.1
        have := q.2.2
        rw [wPr, if_pos rfl]; omega
      · rw [wPr, if_pos rfl]
        rcases Int.lt_or_le 0 (rLie A i) with q | q
        · rcases b with b | b
          · omega
          · rw [(s1.2.1.bt (k := i) ⟨g0.1, (by omega)⟩).2 ⟨hi, o, q⟩] at b; exact absurd b (by decide)
        · omega
  exact key 0 M1 ⟨⟨(by omega), (by omega)⟩, k1, rfl, rfl, fun k k0 k1 => absurd k1 (by omega)⟩
end Label85
