/-- a step that would better a cell -/
def vB (A : Int → Int) (e : Int) (M : QMem) (E k t j : Int) : Prop := (0 ≤ k ∧ k < A 1 * A 2) ∧ bt E k.toNat = true ∧ (1 ≤ t ∧ t ≤ 4) ∧ rBeside A k t = j ∧ wOp A e (-1) j ∧ (M 152 j = -1 ∨ M 152 k + M 159 j < M 152 j)
/-- the best of those seen -/
def vC (A : Int → Int) (e : Int) (M N : QMem) (E F : Int) (P : Int → Int → Prop) (j : Int) : Prop := (bt F j.toNat = false ∧ ∀ k t, P k t → ¬ vB A e M E k t j) ∨ (bt F j.toNat = true ∧ ∃ k0 t0, vB A e M E k0 t0 j ∧ N 156 j = M 152 k0 + M 159 j ∧ N 157 j = qlor (M 154 k0) (qlshl 1 j) ∧ N 158 j = M 155 k0 * 4 + t0 - 1 ∧ ∀ k t, P k t → vB A e M E k t j → N 156 j < M 152 k + M 159 j ∨ (N 156 j = M 152 k + M 159 j ∧ N 158 j ≤ M 155 k * 4 + t - 1))
theorem vC.mono {A : Int → Int} {e : Int} {M N : QMem} {E F : Int} {P Q : Int → Int → Prop} {j : Int} (h : vC A e M N E F P j) (hq : ∀ k t, Q k t → vB A e M E k t j → P k t) : vC A e M N E F Q j := by
  rcases h with ⟨h1, h2⟩ | ⟨h1, k0, t0, h2, h3, h4, h5, h6⟩
  · exact Or.inl ⟨h1, fun k t q b => h2 k t (hq k t q b) b⟩
  · exact Or.inr ⟨h1, k0, t0, h2, h3, h4, h5, fun k t q b => h6 k t (hq k t q b) b⟩
/-- what numbers stand in the rows -/
def vNum (A : Int → Int) (e : Int) (M : QMem) : Prop := (∀ k, 0 ≤ k → k < A 1 * A 2 → (-1 ≤ M 152 k ∧ M 152 k ≤ 10000) ∧ 0 ≤ M 155 k ∧ M 155 k ≤ 1099511627776) ∧ ∀ k, 0 ≤ k → k < A 1 * A 2 → wOp A e (-1) k → 0 ≤ M 159 k ∧ M 159 k ≤ 99
section Find84
variable {X : QX} {x : Int} {d : Nat} {post : Int → QMem → Prop} {M : QMem} {cont : Int → Int → QMem → Prop} {A : Int → Int}
theorem v_withTurn {v t : Int} (ht : in32 t) (hp : post (v * 4 + t - 1) M) : QCm X x d 2 yX9_withTurn [(1, v), (0, t)] M post := QC.of qmX9_withTurn_ok rfl (TX9_withTurn_0 ⟨ht, hp⟩)
theorem v_betters {k t j F : Int} (hk : 0 ≤ k ∧ k < 36) (hj : 0 ≤ j ∧ j < 36) (ht : 1 ≤ t ∧ t ≤ 4) (b1 : 0 ≤ M 152 k ∧ M 152 k ≤ 10000) (b2 : -1 ≤ M 152 j ∧ M 152 j ≤ 10000) (b3 : 0 ≤ M 159 j ∧ M 159 j ≤ 99) (b4 : 0 ≤ M 155 k ∧ M 155 k ≤ 1099511627776) (b5 : bt F j.toNat = true → (0 ≤ M 156 j ∧ M 156 j ≤ 20000) ∧ in64 (M 158 j)) (h1 : (M 152 j = -1 ∨ M 152 k + M 159 j < M 152 j) → (bt F j.toNat = false ∨ M 152 k + M 159 j < M 156 j ∨ (M 152 k + M 159 j = M 156 j ∧ M 155 k * 4 + t - 1 < M 158 j)) → post 1 M) (h0 : ¬ (M 152 j = -1 ∨ M 152 k + M 159 j < M 152 j) ∨ (bt F j.toNat = true ∧ (M 156 j < M 152 k + M 159 j ∨ (M 156 j = M 152 k + M 159 j ∧ M 158 j ≤ M 155 k * 4 + t - 1))) → post 0 M) : QCm X x (d + 1) 1 yX9_betters [(2, 151), (0, k), (0, t), (0, j), (1, F)] M post := by
  refine QC.of qmX9_betters_ok rfl (TX9_betters_0 ⟨hk.1, hk.2, hj.1, hj.2, fun z => ?_, fun z => ⟨(i32 (by omega) (by omega)), (i32 (by omega) (by omega)), fun y => ?_, fun y => h0 (Or.inl (by omega))⟩⟩)
  · refine v_isIn ⟨(by omega), (by omega)⟩ (fun _ b => ⟨fun q => absurd q (by decide), fun _ => ?_⟩) (fun b => ⟨fun _ => h1 (Or.inl z) (Or.inl ?_), fun q => absurd rfl q⟩)
    · have b6 := b5 b
      refine ⟨(i32 (by omega) (by omega)), (i32 (by omega) (by omega)), (i32 (by omega) (by omega)), fun q => ⟨fun w => v_withTurn (i32 (by omega) (by omega)) ⟨(i64 (by omega) (by omega)), b6.2, fun u => h0 (Or.inr ⟨b, Or.inr ⟨(by omega), u⟩⟩), fun u => h1 (Or.inl z) (Or.inr (Or.inr ⟨w, (by omega)⟩))⟩, fun w => h0 (Or.inr ⟨b, Or.inl (by omega)⟩)⟩, fun q => h1 (Or.inl z) (Or.inr (Or.inl (by omega)))⟩
    · rcases b with b | b
      · omega
      · exact b
  · refine v_isIn ⟨(by omega), (by omega)⟩ (fun _ b => ⟨fun q => absurd q (by decide), fun _ => ?_⟩) (fun b => ⟨fun _ => h1 (Or.inr y) (Or.inl ?_), fun q => absurd rfl q⟩)
    · have b6 := b5 b
      refine ⟨(i32 (by omega) (by omega)), (i32 (by omega) (by omega)), fun q => ⟨fun w => v_withTurn (i32 (by omega) (by omega)) ⟨(i64 (by omega) (by omega)), b6.2, fun u => h0 (Or.inr ⟨b, Or.inr ⟨(by omega), u⟩⟩), fun u => h1 (Or.inr y) (Or.inr (Or.inr ⟨w, (by omega)⟩))⟩, fun w => h0 (Or.inr ⟨b, Or.inl (by omega)⟩)⟩, fun q => h1 (Or.inr y) (Or.inr (Or.inl (by omega)))⟩
    · rcases b with b | b
      · omega
      · exact b
theorem c_findNext (hL : rLandOk A) {e st E : Int} (hf : M 151 9 = A 1 * A 2) (ho : wSet (M 151 13) (fun k => k < A 1 * A 2 ∧ wOp A e (-1) k)) (hl : ∀ k t, 0 ≤ k → k < A 1 * A 2 → 1 ≤ t → t ≤ 4 → M 160 (k * 4 + t - 1) = rBeside A k t) (hn : vNum A e M) (hE : ∀ k, 0 ≤ k → k < A 1 * A 2 → bt E k.toNat = true → 0 ≤ M 152 k) (hp : ∀ F M1, (∀ a, a < 152 ∨ 158 < a → M1 a = M a) → (∀ j, 0 ≤ j → j < A 1 * A 2 → (bt F j.toNat = false ∧ (∀ k t, ¬ vB A e M E k t j) ∧ M1 152 j = M 152 j ∧ M1 153 j = M 153 j ∧ M1 154 j = M 154 j ∧ M1 155 j = M 155 j) ∨ (bt F j.toNat = true ∧ ∃ k0 t0, vB A e M E k0 t0 j ∧ M1 152 j = M 152 k0 + M 159 j ∧ M1 153 j = st ∧ M1 154 j = qlor (M 154 k0) (qlshl 1 j) ∧ M1 155 j = M 155 k0 * 4 + t0 - 1 ∧ ∀ k t, vB A e M E k t j → M1 152 j < M 152 k + M 159 j ∨ (M1 152 j = M 152 k + M 159 j ∧ M1 155 j ≤ M 155 k * 4 + t - 1))) → in64 F → post F M1) : QCm X x (d + 2) 2 yX9_findNext [(2, 151), (0, st), (1, E)] M post := by
  have hcl := hL.cells
  -- the found ones are laid into the rows
  have key3 : ∀ (F : Int) (N : QMem), in64 F → (∀ a, a < 156 ∨ 158 < a → N a = M a) → (∀ j, 0 ≤ j → j < A 1 * A 2 → vC A e M N E F (fun _ _ => True) j) → ∀ i : Int, ∀ M1 : QMem, (0 ≤ i ∧ i ≤ A 1 * A 2) ∧ (∀ a, a < 152 ∨ 155 < a → M1 a = N a) ∧ (∀ j, (j < 0 ∨ i ≤ j) ∨ bt F j.toNat = false → M1 152 j = M 152 j ∧ M1 153 j = M 153 j ∧ M1 154 j = M 154 j ∧ M1 155 j = M 155 j) ∧ (∀ j, 0 ≤ j → j < i → bt F j.toNat = true → M1 152 j = N 156 j ∧ M1 153 j = st ∧ M1 154 j = N 157 j ∧ M1 155 j = N 158 j) → QRm X x (d + 2) qmX9_findNext post 154 [(0, (2, 151)), (1, (0, st)), (4, (1, F)), (6, (0, i))] [] M1 := by
    intro F N hF hN hC
    refine int_up (A 1 * A 2) (fun i hi M1 g => ?_) (fun i hi ih M1 g => ?_)
    · obtain ⟨g0, g1, g2, g3⟩ := g
      refine TX9_findNext_154 ?_
      rw [g1 151 (by omega), hN 151 (by omega), hf]
      refine ⟨(i32 (by omega) (by omega)), (i32 (by omega) (by omega)), fun _ => hp F M1 (fun a ha => by rw [g1 a (by omega), hN a (by omega)]) (fun j j0 j1 => ?_) hF, fun z => absurd hi z⟩
      rcases hC j j0 j1 with ⟨h1, h2⟩ | ⟨h1, k0, t0, h2, h3, h4, h5, h6⟩
      · exact Or.inl ⟨h1, fun k t => h2 k t True.intro, g2 j (Or.inr h1)⟩
      · obtain ⟨w1, w2, w3, w4⟩ := g3 j j0 (by omega) h1
        refine Or.inr ⟨h1, k0, t0, h2, by rw [w1, h3], w2, by rw [w3, h4], by rw [w4, h5], fun k t b => ?_⟩
        rw [w1, w4]; exact h6 k t True.intro b
    · obtain ⟨g0, g1, g2, g3⟩ := g
      refine TX9_findNext_154 ?_
      rw [g1 151 (by omega), hN 151 (by omega), hf]
      refine ⟨(i32 (by omega) (by omega)), (i32 (by omega) (by omega)), fun z => absurd hi (by omega), fun _ => v_isIn ⟨(by omega), (by omega)⟩ (fun _ b => ⟨fun z => absurd z (by decide), fun _ => ⟨(i32 (by omega) (by omega)), (by omega), (by omega), ?_⟩⟩) (fun b => ⟨fun _ => ih M1 ⟨⟨(by omega), (by omega)⟩, g1, fun j hj => g2 j ?_, fun j j0 j1 j2 => g3 j j0 ?_ j2⟩, fun z => absurd rfl z⟩)⟩
      · have e1 : M1 156 = N 156 := g1 156 (by omega)
        have e2 : M1 157 = N 157 := g1 157 (by omega)
        have e3 : M1 158 = N 158 := g1 158 (by omega)
        rw [qup_row (b := 157) (a := 152) (by decide), qup_row (b := 158) (a := 154) (by decide), qup_row (b := 158) (a := 152) (by decide), e1, e2, e3]
        have r2 : ∀ {j a b c : Int}, j ≠ i → (qup (qup (qup (qup M1 152 i a) 154 i b) 155 i c) 153 i st) 152 j = M1 152 j := fun ne => by rw [qup_row (by decide), qup_row (by decide), qup_row (by decide), qup_at, if_neg ne]
        have r3 : ∀ {j a b c : Int}, j ≠ i → (qup (qup (qup (qup M1 152 i a) 154 i b) 155 i c) 153 i st) 153 j = M1 153 j := fun ne => by rw [qup_at, if_neg ne, qup_row (by decide), qup_row (by decide), qup_row (by decide)]
        have r4 : ∀ {j a b c : Int}, j ≠ i → (qup (qup (qup (qup M1 152 i a) 154 i b) 155 i c) 153 i st) 154 j = M1 154 j := fun ne => by rw [qup_row (by decide), qup_row (by decide), qup_at, if_neg ne, qup_row (by decide)]
        have r5 : ∀ {j a b c : Int}, j ≠ i → (qup (qup (qup (qup M1 152 i a) 154 i b) 155 i c) 153 i st) 155 j = M1 155 j := fun ne => by rw [qup_row (by decide), qup_at, if_neg ne, qup_row (by decide), qup_row (by decide)]
        refine ih _ ⟨⟨(by omega), (by omega)⟩, fun a ha => ?_, fun j hj => ?_, fun j j0 j1 j2 => ?_⟩
        · rw [qup_row (by omega), qup_row (by omega), qup_row (by omega), qup_row (by omega)]; exact g1 a ha
        · have ne : j ≠ i := by
            rintro rfl
            rcases hj with hj | hj
            · omega
            · rw [b] at hj; exact absurd hj (by decide)
          rw [r2 ne, r3 ne, r4 ne, r5 ne]
          refine g2 j ?_
          rcases hj with hj | hj
          · exact Or.inl (by omega)
          · exact Or.inr hj
        · by_cases ne : j = i
          · rw [qup_row (by decide), qup_row (by decide), qup_row (by decide), qup_at, if_pos ne, qup_at, if_pos ne, qup_row (by decide), qup_row (by decide), qup_at, if_pos ne, qup_row (by decide), qup_at, if_pos ne, ne]
            exact ⟨rfl, rfl, rfl, rfl⟩
          · rw [r2 ne, r3 ne, r4 ne, r5 ne]
            exact g3 j j0 (by omega) j2
      · by_cases z : j = i
        · refine Or.inr ?_
          rcases b with b | b
          · omega
          · rw [z]; exact b
        · rcases hj with hj | hj
          · exact Or.inl (by omega)
          · exact Or.inr hj
      · by_cases z : j = i
        · rcases b with b | b
          · omega
          · rw [z, b] at j2; exact absurd j2 (by decide)
        · omega
  -- the steps are seen one by one
  have key1 : ∀ i : Int, ∀ (F : Int) (N : QMem), (0 ≤ i ∧ i ≤ A 1 * A 2) ∧ in64 F ∧ (∀ a, a < 156 ∨ 158 < a → N a = M a) ∧ (∀ j, 0 ≤ j → j < A 1 * A 2 → vC A e M N E F (fun k _ => k < i) j) → QRm X x (d + 2) qmX9_findNext post 6 [(0, (2, 151)), (1, (0, st)), (2, (1, E)), (4, (1, F)), (6, (0, i))] [] N := by
    refine int_up (A 1 * A 2) (fun i hi F N g => ?_) (fun i hi ih F N g => ?_)
    · obtain ⟨g0, gF, g1, g2⟩ := g
      refine TX9_findNext_6 ?_
      rw [g1 151 (by omega), hf]
      refine ⟨(i32 (by omega) (by omega)), (i32 (by omega) (by omega)), fun _ => key3 F N gF g1 (fun j j0 j1 => (g2 j j0 j1).mono (fun k t _ b => by have := b.1.2; omega)) 0 N ⟨⟨(by omega), (by omega)⟩, fun _ _ => rfl, fun j _ => by rw [g1 152 (by omega), g1 153 (by omega), g1 154 (by omega), g1 155 (by omega)]; exact ⟨rfl, rfl, rfl, rfl⟩, fun j j0 j1 => absurd j1 (by omega)⟩, fun z => absurd hi z⟩
    · obtain ⟨g0, gF, g1, g2⟩ := g
      refine TX9_findNext_6 ?_
      rw [g1 151 (by omega), hf]
      refine ⟨(i32 (by omega) (by omega)), (i32 (by omega) (by omega)), fun z => absurd hi (by omega), fun _ => ?_⟩
      have key2 : ∀ t : Int, ∀ (F : Int) (N : QMem), (1 ≤ t ∧ t ≤ 5) ∧ in64 F ∧ (∀ a, a < 156 ∨ 158 < a → N a = M a) ∧ (∀ j, 0 ≤ j → j < A 1 * A 2 → vC A e M N E F (fun k u => k < i ∨ (k = i ∧ u < t)) j) → QRm X x (d + 2) qmX9_findNext post 18 [(0, (2, 151)), (1, (0, st)), (2, (1, E)), (4, (1, F)), (6, (0, i)), (7, (0, t))] [] N := by
        refine int_up 5 (fun t ht F N q => ?_) (fun t ht ih2 F N q => ?_)
        · obtain ⟨q0, qF, q1, q2⟩ := q
          exact TX9_findNext_18 ⟨(i32 (by omega) (by omega)), fun _ => ih F N ⟨⟨(by omega), (by omega)⟩, qF, q1, fun j j0 j1 => (q2 j j0 j1).mono (fun k u w b => by have := b.2.2.1; omega)⟩, fun z => absurd ht (by omega)⟩
        · obtain ⟨q0, qF, q1, q2⟩ := q
          have e1 : N 151 = M 151 := q1 151 (by omega)
          have e2 : N 152 = M 152 := q1 152 (by omega)
          have e4 : N 154 = M 154 := q1 154 (by omega)
          have e5 : N 155 = M 155 := q1 155 (by omega)
          have e9 : N 159 = M 159 := q1 159 (by omega)
          have e6 : N 160 = M 160 := q1 160 (by omega)
          have hB := rBeside_b (t := t) hL (k := i) ⟨g0.1, hi⟩
          refine TX9_findNext_18 ⟨(i32 (by omega) (by omega)), fun z => absurd ht (by omega), fun _ => v_isIn ⟨(by omega), (by omega)⟩ (fun _ b => ⟨fun z => absurd z (by decide), fun _ => ⟨(i32 (by omega) (by omega)), v_leadOf ⟨g0.1, (by omega)⟩ ⟨(by omega), (by omega)⟩ ?_⟩⟩) (fun b => ⟨fun _ => ih F N ⟨⟨(by omega), (by omega)⟩, qF, q1, fun j j0 j1 => (q2 j j0 j1).mono (fun k u w bb => ?_)⟩, fun z => absurd rfl z⟩)⟩
          · rw [e6, hl i t g0.1 hi (by omega) (by omega), e1]
            have skip : (∀ j, 0 ≤ j → j < A 1 * A 2 → vB A e M E i t j → bt F j.toNat = true ∧ (N 156 j < M 152 i + M 159 j ∨ (N 156 j = M 152 i + M 159 j ∧ N 158 j ≤ M 155 i * 4 + t - 1))) → QRm X x (d + 2) qmX9_findNext post 18 [(0, (2, 151)), (1, (0, st)), (2, (1, E)), (4, (1, F)), (6, (0, i)), (7, (0, t + 1))] [] N := fun s => by
              refine ih2 F N ⟨⟨(by omega), (by omega)⟩, qF, q1, fun j j0 j1 => ?_⟩
              have s' := s j j0 j1
              rcases q2 j j0 j1 with ⟨h1, h2⟩ | ⟨h1, k0, t0, h2, h3, h4, h5, h6⟩
              · refine Or.inl ⟨h1, fun k u w bb => ?_⟩
                by_cases c : k = i ∧ u = t
                · rw [c.1, c.2] at bb
                  rw [(s' bb).1] at h1; exact absurd h1 (by decide)
                · exact h2 k u (by omega) bb
              · refine Or.inr ⟨h1, k0, t0, h2, h3, h4, h5, fun k u w bb => ?_⟩
                by_cases c : k = i ∧ u = t
                · rw [c.1, c.2] at bb ⊢
                  exact (s' bb).2
                · exact h6 k u (by omega) bb
            generalize hj : rBeside A i t = j0 at *
            refine v_isIn ⟨hB.1, (by omega)⟩ (fun p b2 => ⟨fun z => absurd z (by decide), fun _ => ⟨(i32 (by omega) (by omega)), ?_⟩⟩) (fun b2 => ⟨fun _ => skip (fun j z0 z1 bb => ?_), fun z => absurd rfl z⟩)
            · have op := (ho.bt (k := j0) ⟨p, (by omega)⟩).1 b2
              have n1 := hn.1 i g0.1 hi
              have n2 := hn.1 j0 p hB.2
              have n3 := hn.2 j0 p hB.2 op.2
              have nE := hE i g0.1 hi b
              refine v_betters (d := d) ⟨g0.1, (by omega)⟩ ⟨p, (by omega)⟩ ⟨(by omega), (by omega)⟩ (by rw [e2]; exact ⟨nE, n1.1.2⟩) (by rw [e2]; exact n2.1) (by rw [e9]; exact n3) (by rw [e5]; exact n1.2) (fun bf => ?_) (fun c1 c2 => ⟨fun z => absurd z (by decide), fun _ => ⟨(i32 (by omega) (by omega)), g0.1, (by omega), p, (by omega), ?_⟩⟩) (fun c => ⟨fun _ => skip (fun j z0 z1 bb => ?_), fun z => absurd rfl z⟩)
              · rcases q2 j0 p hB.2 with ⟨h1, h2⟩ | ⟨h1, k0, t0, h2, h3, h4, h5, h6⟩
                · rw [bf] at h1; exact absurd h1 (by decide)
                · have n4 := hn.1 k0 h2.1.1 h2.1.2
                  have n5 := hE k0 h2.1.1 h2.1.2 h2.2.1
                  have n6 := h2.2.2.1
                  rw [h3, h5]; exact ⟨⟨(by omega), (by omega)⟩, (i64 (by omega) (by omega))⟩
              · rw [e2, e9] at c1
                rw [e2, e9, e5] at c2
                rw [qup_row (b := 155) (a := 157) (by decide), qup_row (b := 155) (a := 156) (by decide), qup_row (b := 154) (a := 156) (by decide), e2, e9, e4, e5]
                refine v_withTurn (i32 (by omega) (by omega)) ?_
                have vb : vB A e M E i t j0 := ⟨⟨g0.1, hi⟩, b, ⟨(by omega), (by omega)⟩, hj, op.2, c1⟩
                refine ih2 _ _ ⟨⟨(by omega), (by omega)⟩, qlor_in _ _, fun a ha => ?_, fun j z0 z1 => ?_⟩
                · rw [qup_row (by omega), qup_row (by omega), qup_row (by omega)]; exact q1 a ha
                · have bj := put_l F (j := j0) ⟨p, (by omega)⟩ (k := j.toNat) (by omega)
                  by_cases ne : j = j0
                  · subst ne
                    refine Or.inr ⟨?_, i, t, vb, ?_, ?_, ?_, fun k u w bb => ?_⟩
                    · rw [bj, decide_eq_true (by omega), Bool.or_true]
                    · rw [qup_row (by decide), qup_row (by decide), qup_at, if_pos rfl]
                    · rw [qup_row (by decide), qup_at, if_pos rfl]
                    · rw [qup_at, if_pos rfl]
                    · rw [qup_row (by decide), qup_row (by decide), qup_at, if_pos rfl, qup_at, if_pos rfl]
                      by_cases c : k = i ∧ u = t
                      · rw [c.1, c.2]; exact Or.inr ⟨rfl, Int.le_refl _⟩
                      · rcases q2 j z0 z1 with ⟨h1, h2⟩ | ⟨h1, k0, t0, h2, h3, h4, h5, h6⟩
                        · exact absurd bb (h2 k u (by omega))
                        · have := h6 k u (by omega) bb
                          rcases c2 with c2 | c2
                          · rw [h1] at c2; exact absurd c2 (by decide)
                          · omega
                  · have bj' : bt (qlor F (qlshl 1 j0)) j.toNat = bt F j.toNat := by rw [bj, decide_eq_false (by omega), Bool.or_false]
                    have r6 : ∀ v w u : Int, (qup (qup (qup N 156 j0 v) 157 j0 w) 158 j0 u) 156 j = N 156 j := fun v w u => by rw [qup_row (by decide), qup_row (by decide), qup_at, if_neg ne]
                    have r7 : ∀ v w u : Int, (qup (qup (qup N 156 j0 v) 157 j0 w) 158 j0 u) 157 j = N 157 j := fun v w u => by rw [qup_row (by decide), qup_at, if_neg ne, qup_row (by decide)]
                    have r8 : ∀ v w u : Int, (qup (qup (qup N 156 j0 v) 157 j0 w) 158 j0 u) 158 j = N 158 j := fun v w u => by rw [qup_at, if_neg ne, qup_row (by decide), qup_row (by decide)]
                    unfold vC
                    rw [bj', r6, r7, r8]
                    exact (q2 j z0 z1).mono (fun k u w bb => by
                      by_cases c : k = i ∧ u = t
                      · rw [c.1, c.2] at bb
                        exact absurd (bb.2.2.2.1.symm.trans hj) ne
                      · omega)
              · rw [e2, e9, e5] at c
                have jj : j = j0 := bb.2.2.2.1.symm.trans hj
                subst jj
                rcases c with c | c
                · exact absurd bb.2.2.2.2.2 c
                · exact c
            · have jj : j = j0 := bb.2.2.2.1.symm.trans hj
              subst jj
              rcases b2 with b2 | b2
              · omega
              · rw [(ho.bt (k := j) ⟨z0, (by omega)⟩).2 ⟨z1, bb.2.2.2.2.1⟩] at b2
                exact absurd b2 (by decide)
          · rcases b with b | b
            · omega
            · by_cases c : k = i
              · have := bb.2.1
                rw [c, b] at this; exact absurd this (by decide)
              · omega
      exact key2 1 F N ⟨⟨(by omega), (by omega)⟩, gF, g1, fun j j0 j1 => (g2 j j0 j1).mono (fun k u w b => by have := b.2.2.1; omega)⟩
  refine QC.of qmX9_findNext_ok rfl (TX9_findNext_0 (key1 0 0 M ⟨⟨(by omega), (by omega)⟩, ⟨by decide, by decide⟩, fun _ _ => rfl, fun j j0 j1 => Or.inl ⟨bt_0 _, fun k t w b => ?_⟩⟩))
  have := b.1.1; omega
end Find84
