section Qry67
variable {X : QX} {x : Int} {d : Nat} {post : Int → QMem → Prop} {M : QMem} {cont : Int → Int → QMem → Prop}
theorem gT (M : QMem) : gK M (qup M 215 0 0) := gK.thrown M (by decide)
theorem Rel.cells (hR : Rel M) : M 17 0 * M 17 1 = M 216 1 * M 216 2 := by rw [hR.1.2.2.1.1.1, hR.1.2.2.1.1.2.1]
theorem k_hasCell (hR : Rel M) {k : Int} (hk : in32 k) (ht : 0 ≤ k ∧ k < M 216 1 * M 216 2 → post 1 M) (hf : ¬ (0 ≤ k ∧ k < M 216 1 * M 216 2) → post 0 M) : QCm X x (d + 2) 1 yX1_hasCell [(2, 17), (0, k)] M post := by
  have ec := hR.cells
  have hcl := hR.1.1.cells
  exact c_hasCell (Or.inl rfl) hk (by rw [ec]; omega) (by rw [ec]; exact ht) (by rw [ec]; exact hf)
theorem k_hasDrum (hR : Rel M) {k : Int} (hk : in32 k) (ht : 0 ≤ k ∧ k < M 216 3 → post 1 M) (hf : ¬ (0 ≤ k ∧ k < M 216 3) → post 0 M) : QCm X x d 1 yX1_hasDrum [(2, 17), (0, k)] M post := by
  have ed : M 17 2 = M 216 3 := hR.1.2.2.1.1.2.2.1
  exact c_hasDrum hk (by rw [ed]; exact hR.1.1.2.2.1) (by rw [ed]; exact ht) (by rw [ed]; exact hf)
theorem n_isCell (hR : Rel M) {k : Int} (hk : in32 k) (ht : 0 ≤ k ∧ k < M 216 1 * M 216 2 → post 1 M) (hf : ¬ (0 ≤ k ∧ k < M 216 1 * M 216 2) → post 0 M) : QCm X x (d + 1) 1 yX11_isCell [(2, 215), (1, k)] M post := by
  have hcl := hR.1.1.cells
  exact m_isCell hk.to64 (by omega) ht hf
theorem n_isDrum (hR : Rel M) {k : Int} (hk : in32 k) (ht : 0 ≤ k ∧ k < M 216 3 → post 1 M) (hf : ¬ (0 ≤ k ∧ k < M 216 3) → post 0 M) : QCm X x (d + 1) 1 yX11_isDrum [(2, 215), (1, k)] M post := m_isDrum hk.to64 hR.1.1.2.2.1 ht hf
theorem n_goerOn (hR : Rel M) {k : Int} (hk : in32 k) (ht : ∀ t, 0 ≤ t → t < M 216 330 → rOn (M 216) k t → (∀ u, 0 ≤ u → u < t → ¬ rOn (M 216) k u) → post t M) (hf : (∀ u, 0 ≤ u → u < M 216 330 → ¬ rOn (M 216) k u) → post (-1) M) : QCm X x (d + 1) 1 yX11_goerOn [(2, 215), (0, k)] M post := by
  have hcl := hR.1.1.cells
  have a3 := hR.1.1.2.2.1
  have hS := hR.1.2.1
  refine m_goerOn hk hS.2.2.2.1 (fun t t0 t1 => ?_) (fun i i0 i1 => ?_) ht hf
  · have h := hS.2.2.2.2.1 t t0 t1
    exact ⟨(i32 (by omega) (by omega)), (by omega), (by omega)⟩
  · have := hS.2.1.2.2.1 i i0 i1; exact (i32 (by omega) (by omega))
theorem rel_fault (hR : Rel M) {w : Int} (hw : in32 w) (hp : ∀ v M3, Rel M3 → cont v v M3) : QCm X x (d + 8) 1 yX10_fault [(2, 0), (0, w)] M (fun x1 M1 => QCm X x (d + 8) 1 yX11_fault [(2, 215), (0, w)] M1 (fun x2 M2 => cont x1 x2 M2)) := by
  have R0 := hR.keep (gT M)
  have f1 : (qup M 215 0 0) 215 13 = M 2 0 := (gT M).2.2.2.1.trans hR.2.2.2.1.1.symm
  have f2 : (qup M 215 0 0) 215 14 = M 2 1 := (gT M).2.2.2.2.1.trans hR.2.2.2.1.2.symm
  refine QC.of qmX10_fault_ok rfl (TX10_fault_0 ⟨fun z => ?_, fun z => ⟨hw, fun y => ?_, fun y => ?_⟩⟩)
  all_goals refine QC.of qmX11_fault_ok rfl (TX11_fault_0 ?_)
  all_goals rw [f1, f2]
  · exact ⟨fun _ => hp _ _ R0, fun q => absurd z q⟩
  · exact ⟨fun q => absurd q z, fun _ => ⟨hw, fun _ => hp _ _ R0, fun q => absurd y q⟩⟩
  · exact ⟨fun q => absurd q z, fun _ => ⟨hw, fun q => absurd q y, fun _ => hp _ _ R0⟩⟩
theorem rel_cell (hR : Rel M) {k w : Int} (hk : in32 k) (hw : in32 w) (hp : ∀ v M3, Rel M3 → cont v v M3) : QCm X x (d + 8) 1 yX10_cell [(2, 0), (0, k), (0, w)] M (fun x1 M1 => QCm X x (d + 8) 1 yX11_cell [(2, 215), (0, k), (0, w)] M1 (fun x2 M2 => cont x1 x2 M2)) := by
  have R0 := hR.keep (gT M)
  have e0 := (gT M).all
  have hcl := hR.1.1.cells
  have a3 := hR.1.1.2.2.1
  refine QC.of qmX10_cell_ok rfl (TX10_cell_0 (k_hasCell hR hk (fun a => ⟨fun z => absurd z (by decide), fun _ => ⟨(i32 (by omega) (by omega)), hw, ?_⟩⟩) (fun a => ⟨fun _ => ?_, fun z => absurd rfl z⟩)))
  rotate_left
  · exact QC.of qmX11_cell_ok rfl (TX11_cell_0 ⟨hk, n_isCell R0 hk (fun y => absurd (by rw [e0] at y; exact y) a) (fun _ => ⟨fun _ => hp _ _ R0, fun z => absurd rfl z⟩)⟩)
  have k36 : 0 ≤ k ∧ k < 36 := (by omega)
  have kc := hR.1.2.1.2.2.1 k k36.1 k36.2
  have hu := hR.1.2.2.2.2.2.2.1 k k36.1 k36.2
  have hki := hR.1.2.2.1.2.1 k k36.1 k36.2
  have hrk := hR.1.1.2.2.2.2.2.1 k k36.1 k36.2
  have ref : ∀ V : Int, (w = 0 → (M 216 (10 + k) = 1 → V = 1) ∧ (M 216 (10 + k) ≠ 1 → (rHome (M 216) k → V = 2) ∧ (¬ rHome (M 216) k → V = 0))) → (w = 1 → V = rLie (M 216) k) → (w = 2 → V = M 216 (294 + k)) → (w = 3 → V = M 216 (258 + k)) → (w = 4 → (∀ t, 0 ≤ t → t < M 216 330 → rOn (M 216) k t → (∀ u, 0 ≤ u → u < t → ¬ rOn (M 216) k u) → V = t) ∧ ((∀ u, 0 ≤ u → u < M 216 330 → ¬ rOn (M 216) k u) → V = -1)) → (w < 0 ∨ 4 < w → V = -2) → QCm X x (d + 8) 1 yX11_cell [(2, 215), (0, k), (0, w)] M (fun x2 M2 => cont V x2 M2) := by
    intro V v0 v1 v2 v3 v4 v5
    refine QC.of qmX11_cell_ok rfl (TX11_cell_0 ⟨hk, n_isCell R0 hk (fun _ => ⟨fun z => absurd z (by decide), fun _ => ⟨(i32 (by omega) (by omega)), hw, fun c => ?_, fun c => ?_, fun c => ?_, fun c => ?_, fun c => ?_, fun c => ?_⟩⟩) (fun y => absurd (by rw [e0]; exact a) y)⟩)
    · rw [e0]
      refine ⟨(by omega), (by omega), fun r => ?_, fun r => ⟨(i32 (by omega) (by omega)), m_isHome (i32 (by omega) (by omega)) (by rw [e0]; exact a3) (fun e e1 e2 => ?_) (fun q => ⟨fun z => absurd z (by decide), fun _ => ⟨(i32 (by omega) (by omega)), ?_⟩⟩) (fun q => ⟨fun _ => ?_, fun z => absurd rfl z⟩)⟩⟩
      · rw [(v0 c).1 r]; exact hp _ _ R0
      · rw [e0] at e2
        have := hR.1.1.2.2.2.2.2.2 e e1 e2
        rw [e0]; exact (i32 (by omega) (by omega))
      · rw [e0] at q
        rw [((v0 c).2 r).1 q]; exact hp _ _ R0
      · rw [e0] at q
        rw [((v0 c).2 r).2 q]; exact hp _ _ R0
    · refine m_lieOn k36 (by rw [e0]; exact (i32 (by omega) (by omega))) (by rw [e0]; exact (i32 (by omega) (by omega))) ?_
      rw [e0, v1 c]; exact hp _ _ R0
    · rw [e0, v2 c]; exact ⟨(by omega), (by omega), hp _ _ R0⟩
    · rw [e0, v3 c]; exact ⟨(by omega), (by omega), hp _ _ R0⟩
    · refine n_goerOn R0 hk (fun t t0 t1 t2 t3 => ?_) (fun t2 => ?_)
      · rw [e0] at t1 t2 t3
        rw [(v4 c).1 t t0 t1 t2 t3]; exact hp _ _ R0
      · rw [e0] at t2
        rw [(v4 c).2 t2]; exact hp _ _ R0
    · rw [v5 c]; exact hp _ _ R0
  refine ⟨fun c => ⟨(by omega), (by omega), ref _ (fun _ => hki) ?_ ?_ ?_ ?_ ?_⟩, fun c => c_lying (Or.inl rfl) hR.1.2.1 a3.2 hR.1.2.2.2 k36 (ref _ ?_ (fun _ => rfl) ?_ ?_ ?_ ?_), fun c => ⟨(by omega), (by omega), ref _ ?_ ?_ (fun _ => hu.1) ?_ ?_ ?_⟩, fun c => ⟨(by omega), (by omega), ref _ ?_ ?_ ?_ (fun _ => hu.2) ?_ ?_⟩, fun c => c_travellerOn (Or.inl rfl) hR.1.1 hR.1.2.1 hR.1.2.2.2 hk (fun t t0 t1 t2 t3 => ref _ ?_ ?_ ?_ ?_ (fun _ => ⟨fun u u0 u1 u2 u3 => hR.1.2.1.2.2.2.at t0 t1 u0 u1 t2 u2, fun h => absurd t2 (h t t0 t1)⟩) ?_) (fun h => ref _ ?_ ?_ ?_ ?_ (fun _ => ⟨fun u u0 u1 u2 u3 => absurd u2 (h u u0 u1), fun _ => rfl⟩) ?_), fun c => ref _ ?_ ?_ ?_ ?_ ?_ (fun _ => rfl)⟩
  all_goals (intro q; exfalso; omega)
theorem rel_drum (hR : Rel M) {e w : Int} (hk : in32 e) (hw : in32 w) (hp : ∀ v M3, Rel M3 → cont v v M3) : QCm X x (d + 8) 1 yX10_drum [(2, 0), (0, e), (0, w)] M (fun x1 M1 => QCm X x (d + 8) 1 yX11_drum [(2, 215), (0, e), (0, w)] M1 (fun x2 M2 => cont x1 x2 M2)) := by
  have R0 := hR.keep (gT M)
  have e0 := (gT M).all
  have a3 := hR.1.1.2.2.1
  refine QC.of qmX10_drum_ok rfl (TX10_drum_0 (k_hasDrum hR hk (fun a => ⟨fun z => absurd z (by decide), fun _ => ⟨(i32 (by omega) (by omega)), hw, ?_⟩⟩) (fun a => ⟨fun _ => ?_, fun z => absurd rfl z⟩)))
  rotate_left
  · exact QC.of qmX11_drum_ok rfl (TX11_drum_0 ⟨hk, n_isDrum R0 hk (fun y => absurd (by rw [e0] at y; exact y) a) (fun _ => ⟨fun _ => hp _ _ R0, fun z => absurd rfl z⟩)⟩)
  have hl := hR.1.2.1.2.1.1 e a.1 (by omega)
  have ref : ∀ V : Int, (w = 0 → V = M 216 (46 + e)) → (w = 1 → V = M 216 (54 + e)) → (w = 2 → V = M 216 (60 + e)) → (w = 3 → V = rEnd (M 216) e) → (w = 4 → V = rTook (M 216) e) → (w < 0 ∨ 4 < w → V = -2) → QCm X x (d + 8) 1 yX11_drum [(2, 215), (0, e), (0, w)] M (fun x2 M2 => cont V x2 M2) := by
    intro V v0 v1 v2 v3 v4 v5
    refine QC.of qmX11_drum_ok rfl (TX11_drum_0 ⟨hk, n_isDrum R0 hk (fun _ => ⟨fun z => absurd z (by decide), fun _ => ⟨(i32 (by omega) (by omega)), hw, fun c => ?_, fun c => ?_, fun c => ?_, fun c => ?_, fun c => ?_, fun c => ?_⟩⟩) (fun y => absurd (by rw [e0]; exact a) y)⟩)
    · rw [e0, v0 c]; exact ⟨(by omega), (by omega), hp _ _ R0⟩
    · rw [e0, v1 c]; exact ⟨(by omega), (by omega), hp _ _ R0⟩
    · rw [e0, v2 c]; exact ⟨(by omega), (by omega), hp _ _ R0⟩
    · refine m_endOf (by omega) (by rw [e0]; exact hl) ?_
      rw [e0, v3 c]; exact hp _ _ R0
    · refine m_tookBy (by rw [e0]; exact hR.1.2.1.2.1) (by omega) ?_
      rw [e0, v4 c]; exact hp _ _ R0
    · rw [v5 c]; exact hp _ _ R0
  have d0 : M 19 e = M 216 (46 + e) := hR.1.2.2.1.2.2.1 e a.1 a.2
  have d1 : M 29 e = M 216 (54 + e) := hR.1.2.2.2.2.1 e a.1 a.2
  have d2 : M 28 e = M 216 (60 + e) := hR.1.2.2.2.1 e a.1 (by omega)
  refine ⟨fun c => ⟨(by omega), (by omega), ref _ (fun _ => d0) ?_ ?_ ?_ ?_ ?_⟩, fun c => ⟨(by omega), (by omega), ref _ ?_ (fun _ => d1) ?_ ?_ ?_ ?_⟩, fun c => ⟨(by omega), (by omega), ref _ ?_ ?_ (fun _ => d2) ?_ ?_ ?_⟩, fun c => c_endOf (Or.inl rfl) hR.1.1 hR.1.2.1.2.1 hR.1.2.2.1 hR.1.2.2.2 a (ref _ ?_ ?_ ?_ (fun _ => rfl) ?_ ?_), fun c => c_yardsLying (Or.inl rfl) hR.1.2.1.2.1 hR.1.2.2.2 (by omega) (ref _ ?_ ?_ ?_ ?_ (fun _ => rfl) ?_), fun c => ref _ ?_ ?_ ?_ ?_ ?_ (fun _ => rfl)⟩
  all_goals (intro q; exfalso; omega)
theorem rel_lies (hR : Rel M) {e i : Int} (hk : in32 e) (hi : in32 i) (hp : ∀ v M3, Rel M3 → cont v v M3) : QCm X x (d + 8) 1 yX10_lies [(2, 0), (0, e), (0, i)] M (fun x1 M1 => QCm X x (d + 8) 1 yX11_lies [(2, 215), (0, e), (0, i)] M1 (fun x2 M2 => cont x1 x2 M2)) := by
  have R0 := hR.keep (gT M)
  have e0 := (gT M).all
  have a3 := hR.1.1.2.2.1
  refine QC.of qmX10_lies_ok rfl (TX10_lies_0 (k_hasDrum hR hk (fun a => ⟨fun z => absurd z (by decide), fun _ => ⟨(i32 (by omega) (by omega)), hi, ?_⟩⟩) (fun a => ⟨fun _ => ?_, fun z => absurd rfl z⟩)))
  rotate_left
  · exact QC.of qmX11_lies_ok rfl (TX11_lies_0 ⟨hk, n_isDrum R0 hk (fun y => absurd (by rw [e0] at y; exact y) a) (fun _ => ⟨fun _ => hp _ _ R0, fun z => absurd rfl z⟩)⟩)
  have hl := hR.1.2.1.2.1.1 e a.1 (by omega)
  have ref : ∀ V : Int, (0 ≤ i → i < M 216 (60 + e) → V = M 216 (66 + 16 * e + i)) → (0 ≤ i → M 216 (60 + e) ≤ i → V = -1) → (i < 0 → V = -3) → QCm X x (d + 8) 1 yX11_lies [(2, 215), (0, e), (0, i)] M (fun x2 M2 => cont V x2 M2) := by
    intro V v0 v1 v2
    refine QC.of qmX11_lies_ok rfl (TX11_lies_0 ⟨hk, n_isDrum R0 hk (fun _ => ⟨fun z => absurd z (by decide), fun _ => ⟨(i32 (by omega) (by omega)), hi, fun c => ?_, fun c => ?_⟩⟩) (fun y => absurd (by rw [e0]; exact a) y)⟩)
    · rw [e0]
      refine ⟨(by omega), (by omega), (i32 (by omega) (by omega)), fun q => ?_, fun q => ⟨(by omega), (by omega), ?_⟩⟩
      · rw [v1 c q]; exact hp _ _ R0
      · rw [v0 c (by omega)]; exact hp _ _ R0
    · rw [v2 (by omega)]; exact hp _ _ R0
  refine ⟨fun c => c_cellOf (Or.inl rfl) hR.1.2.1.2.1 hR.1.2.2.2 (by omega) hi (fun q => ref _ (fun _ _ => rfl) (fun _ q2 => absurd q2 (by omega)) (fun q2 => absurd q2 (by omega))) (fun q => ref _ (fun _ q2 => absurd q2 (by omega)) (fun _ _ => rfl) (fun q2 => absurd q2 (by omega))), fun c => ref _ (fun q2 => absurd q2 (by omega)) (fun q2 => absurd q2 (by omega)) (fun _ => rfl)⟩
theorem rel_traveller (hR : Rel M) {t w : Int} (hk : in32 t) (hw : in32 w) (hp : ∀ v M3, Rel M3 → cont v v M3) : QCm X x (d + 8) 1 yX10_traveller [(2, 0), (0, t), (0, w)] M (fun x1 M1 => QCm X x (d + 8) 1 yX11_traveller [(2, 215), (0, t), (0, w)] M1 (fun x2 M2 => cont x1 x2 M2)) := by
  have R0 := hR.keep (gT M)
  have e0 := (gT M).all
  have hT := hR.1.2.1.2.2.2.1
  refine QC.of qmX10_traveller_ok rfl (TX10_traveller_0 (c_hasTraveller (Or.inl rfl) hR.1.2.1.2.2.2 hR.1.2.2.2 hk (fun a => ⟨fun z => absurd z (by decide), fun _ => ⟨(i32 (by omega) (by omega)), hw, ?_⟩⟩) (fun a => ⟨fun _ => ?_, fun z => absurd rfl z⟩)))
  rotate_left
  · exact QC.of qmX11_traveller_ok rfl (TX11_traveller_0 ⟨hk, m_isGoer hk.to64 (by rw [e0]; exact hT) (fun y => absurd (by rw [e0] at y; exact y) a) (fun _ => ⟨fun _ => hp _ _ R0, fun z => absurd rfl z⟩)⟩)
  have gg := hR.1.2.1.2.2.2.2.1 t a.1 a.2
  have hq := hR.1.2.2.2.2.2.2.2.1 t a.1 a.2
  have ref : ∀ V : Int, (w = 0 → V = M 216 (331 + t)) → (w = 1 → V = if M 216 (347 + t) = 1 then -1 else M 216 (339 + t)) → (w = 2 → V = M 216 (347 + t)) → (w = 3 → V = M 216 (355 + t)) → (w < 0 ∨ 3 < w → V = -2) → QCm X x (d + 8) 1 yX11_traveller [(2, 215), (0, t), (0, w)] M (fun x2 M2 => cont V x2 M2) := by
    intro V v0 v1 v2 v3 v4
    refine QC.of qmX11_traveller_ok rfl (TX11_traveller_0 ⟨hk, m_isGoer hk.to64 (by rw [e0]; exact hT) (fun _ => ⟨fun z => absurd z (by decide), fun _ => ⟨(i32 (by omega) (by omega)), hw, fun c => ?_, fun c => ?_, fun c => ?_, fun c => ?_, fun c => ?_⟩⟩) (fun y => absurd (by rw [e0]; exact a) y)⟩)
    · rw [e0, v0 c]; exact ⟨(by omega), (by omega), hp _ _ R0⟩
    · rw [e0, v1 c]
      refine ⟨(by omega), (by omega), fun q => ?_, fun q => ⟨(i32 (by omega) (by omega)), (by omega), (by omega), ?_⟩⟩
      · rw [if_pos q]; exact hp _ _ R0
      · rw [if_neg q]; exact hp _ _ R0
    · rw [e0, v2 c]; exact ⟨(by omega), (by omega), hp _ _ R0⟩
    · rw [e0, v3 c]; exact ⟨(by omega), (by omega), hp _ _ R0⟩
    · rw [v4 c]; exact hp _ _ R0
  have d0 : M 34 t = M 216 (331 + t) := hq.1
  have d1 : M 35 t = if M 216 (347 + t) = 1 then -2 else M 216 (339 + t) := hq.2.1
  have d2 : M 36 t = M 216 (355 + t) := hq.2.2
  rw [d0, d1, d2]
  have b8 : in32 (if M 216 (347 + t) = 1 then -2 else M 216 (339 + t)) := by split <;> exact (i32 (by omega) (by omega))
  refine ⟨fun c => ⟨(by omega), (by omega), ref _ (fun _ => rfl) ?_ ?_ ?_ ?_⟩, fun c => ⟨(by omega), (by omega), j_max b8 ⟨by decide, by decide⟩ (fun q => ref _ ?_ (fun _ => ?_) ?_ ?_ ?_) (fun q => ref _ ?_ (fun _ => ?_) ?_ ?_ ?_)⟩, fun c => c_hasArrived (Or.inl rfl) hR.1.2.1.2.2.2 hR.1.2.2.2 a (fun q => ⟨fun z => absurd z (by decide), fun _ => ⟨(i32 (by omega) (by omega)), ref _ ?_ ?_ (fun _ => q.symm) ?_ ?_⟩⟩) (fun q => ⟨fun _ => ref _ ?_ ?_ (fun _ => q.symm) ?_ ?_, fun z => absurd rfl z⟩), fun c => ⟨(by omega), (by omega), ref _ ?_ ?_ ?_ (fun _ => rfl) ?_⟩, fun c => ref _ ?_ ?_ ?_ ?_ (fun _ => rfl)⟩
  all_goals first | (intro q'; exfalso; omega) | skip
  · split at q
    · rename_i z; rw [if_pos z]
    · omega
  · split at q
    · exact absurd (by decide) q
    · rename_i z; rw [if_neg z, if_neg z]
theorem rel_takes (hR : Rel M) {e k : Int} (he : in32 e) (hk : in32 k) (hp : ∀ v M3, Rel M3 → cont v v M3) : QCm X x (d + 8) 1 yX10_takes [(2, 0), (0, e), (0, k)] M (fun x1 M1 => QCm X x (d + 8) 1 yX11_takes [(2, 215), (0, e), (0, k)] M1 (fun x2 M2 => cont x1 x2 M2)) := by
  have R0 := hR.keep (gT M)
  have e0 := (gT M).all
  have a3 := hR.1.1.2.2.1
  have hcl := hR.1.1.cells
  have no : ¬ ((0 ≤ e ∧ e < M 216 3) ∧ 0 ≤ k ∧ k < M 216 1 * M 216 2) → QCm X x (d + 8) 1 yX11_takes [(2, 215), (0, e), (0, k)] M (fun x2 M2 => cont (-2) x2 M2) := fun z =>
    QC.of qmX11_takes_ok rfl (TX11_takes_0 ⟨he, n_isDrum R0 he (fun y => ⟨fun q => absurd q (by decide), fun _ => ⟨(i32 (by omega) (by omega)), hk, n_isCell R0 hk (fun y2 => absurd ⟨by rw [e0] at y; exact y, by rw [e0] at y2; exact y2⟩ z) (fun _ => ⟨fun _ => hp _ _ R0, fun q => absurd rfl q⟩)⟩⟩) (fun _ => ⟨fun _ => hp _ _ R0, fun q => absurd rfl q⟩)⟩)
  refine QC.of qmX10_takes_ok rfl (TX10_takes_0 (k_hasDrum hR he (fun a => ⟨fun z => absurd z (by decide), fun _ => ⟨(i32 (by omega) (by omega)), k_hasCell hR hk (fun c => ⟨fun z => absurd z (by decide), fun _ => ⟨(i32 (by omega) (by omega)), ?_⟩⟩) (fun c => ⟨fun _ => no (fun z => c z.2), fun z => absurd rfl z⟩)⟩⟩) (fun a => ⟨fun _ => no (fun z => a z.1), fun z => absurd rfl z⟩)))
  have w0 : M 27 10 = M 216 52 := hR.1.2.2.2.2.2.2.2.2.2.1
  rw [w0]
  refine c_yardsFor hR.1.1 hR.1.2.1.1 hR.1.2.2.1 (by omega) (by omega) (fun M1 k1 => ?_)
  have g1 : gK M (qup M1 215 0 0) := k1.gK.trans (gT M1)
  have R1 := hR.keep g1
  have e1 := g1.all
  refine QC.of qmX11_takes_ok rfl (TX11_takes_0 ⟨he, n_isDrum R1 he (fun y => ⟨fun q => absurd q (by decide), fun _ => ⟨(i32 (by omega) (by omega)), hk, n_isCell R1 hk (fun y2 => ⟨fun q => absurd q (by decide), fun _ => ⟨(i32 (by omega) (by omega)), ?_⟩⟩) (fun q => absurd (by rw [e1]; exact c) q)⟩⟩) (fun q => absurd (by rw [e1]; exact a) q)⟩)
  refine m_costOf R1.1.1 R1.1.2.1 (by omega) (by omega) (fun M2 k2 => ?_)
  rw [e1]
  exact hp _ _ (R1.keep k2.gK)
end Qry67
