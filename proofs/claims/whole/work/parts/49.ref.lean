theorem rOff_ok {A : Int → Int} {e : Int} (hL : rLandOk A) (hS : rStOk A) (he : 0 ≤ e ∧ e < A 3) (hl : 1 ≤ A (60 + e)) (hu : A (294 + A (66 + 16 * e + A (60 + e) - 1)) = e) (hg : ∀ t, 0 ≤ t → t < A 330 → A (331 + t) = e → A (347 + t) = 0 → A (339 + t) < A (60 + e) - 1) : rStOk (rOff A e) := by
  have a3 := hL.2.2.1
  have hcl := hL.cells
  have e6 : 0 ≤ e ∧ e < 6 := ⟨he.1, (by omega)⟩
  have hl2 := hS.2.1.1 e he.1 (by omega)
  obtain ⟨hw, ⟨hr1, hr2, hr3, hr4, hr5⟩, hcel, hg1, hg2, hg3⟩ := hS
  have krng := (hr3 (16 * e + A (60 + e) - 1) (by omega) (by omega)).1
  rw [show 66 + (16 * e + A (60 + e) - 1) = 66 + 16 * e + A (60 + e) - 1 by omega] at krng
  generalize hLL : A (60 + e) = L at *
  generalize hkk : A (66 + 16 * e + L - 1) = k at *
  have k36 : 0 ≤ k ∧ k < 36 := ⟨krng.1, (by omega)⟩
  have l16 : 1 ≤ L ∧ L ≤ 16 := (by omega)
  have r := fun (j : Int) (hj : j < 54 ∨ 330 ≤ j) => rOff_rest (A := A) (e := e) e6 hLL hkk k36 l16 hj
  have kc := hcel k k36.1 k36.2
  refine ⟨by rw [r 52 (by omega)]; exact hw, ⟨fun f f0 f1 => ?_, fun f f0 f1 => ?_, fun i i0 i1 => ?_, fun f i f0 f1 i0 i1 => ?_, fun f i j f0 f1 i0 ij j1 => ?_⟩, fun q q0 q1 => ?_, ?_, fun t t0 t1 => ?_, fun t u t0 tu u1 q => ?_⟩
  · rw [rOff_len e6 hLL hkk k36 l16 ⟨f0, f1⟩]
    have := hr1 f f0 f1
    split <;> omega
  · rw [r 3 (by omega)] at f1
    have hh := hr2 f f0 f1
    rw [rOff_yard e6 hLL hkk k36 l16 ⟨f0, (by omega)⟩, rTook, rOff_len e6 hLL hkk k36 l16 ⟨f0, (by omega)⟩]
    by_cases z : f = e
    · subst z
      rw [if_pos rfl, if_pos rfl]
      have s1 : rSum (rOff A f) (162 + 16 * f) (L - 1).toNat = rSum A (162 + 16 * f) (L - 1).toNat := rSum_congr (fun i hi => by
        rw [Int.add_assoc, rOff_took e6 hLL hkk k36 l16 (by omega), if_neg (by omega)])
      have s2 : rTook A f = rSum A (162 + 16 * f) (L - 1).toNat + A (162 + 16 * f + L - 1) := by
        rw [rTook, hLL, show L.toNat = (L - 1).toNat + 1 by omega, rSum, show ((L - 1).toNat : Int) = L - 1 by omega]
        congr 2; omega
      have tk := (hr3 (16 * f + L - 1) (by omega) (by omega)).2
      rw [show 162 + (16 * f + L - 1) = 162 + 16 * f + L - 1 by omega] at tk
      rw [s1]; omega
    · rw [if_neg z, if_neg z]
      have hlf := hr1 f f0 (by omega)
      have s1 : rSum (rOff A e) (162 + 16 * f) (A (60 + f)).toNat = rTook A f := rSum_congr (fun i hi => by
        rw [Int.add_assoc, rOff_took e6 hLL hkk k36 l16 (by omega), if_neg (by omega)])
      rw [s1]; exact hh
  · have := hr3 i i0 i1
    rw [rOff_lies e6 hLL hkk k36 l16 ⟨i0, i1⟩, rOff_took e6 hLL hkk k36 l16 ⟨i0, i1⟩, r 1 (by omega), r 2 (by omega)]
    split <;> omega
  · rw [rOff_len e6 hLL hkk k36 l16 ⟨f0, f1⟩] at i1
    have hlf := hr1 f f0 f1
    have i2 : i < A (60 + f) ∧ (f = e → i < L - 1) := by
      split at i1
      · rename_i y; subst y; omega
      · exact ⟨i1, fun z => absurd z (by omega)⟩
    rw [Int.add_assoc, rOff_lies e6 hLL hkk k36 l16 (by omega), if_neg (by omega)]
    have old := hr4 f i f0 f1 i0 i2.1
    have rng := (hr3 (16 * f + i) (by omega) (by omega)).1
    rw [Int.add_assoc] at old
    rw [rOff_up e6 hLL hkk k36 l16 hu ⟨rng.1, (by omega)⟩, rOff_low e6 hLL hkk k36 l16 ⟨rng.1, (by omega)⟩]
    by_cases y : A (66 + (16 * f + i)) = k
    · rw [if_pos y, if_pos y]
      rw [y, hu] at old
      rcases old with z | z
      · subst z
        have := hr5 e i (L - 1) f0 f1 i0 (i2.2 rfl) (by omega)
        rw [Int.add_assoc, y, show 66 + 16 * e + (L - 1) = 66 + 16 * e + L - 1 by omega, hkk] at this
        exact absurd rfl this
      · exact Or.inl z
    · rw [if_neg y, if_neg y]; exact old
  · rw [rOff_len e6 hLL hkk k36 l16 ⟨f0, f1⟩] at j1
    have hlf := hr1 f f0 f1
    have j2 : j < A (60 + f) ∧ (f = e → j < L - 1) := by
      split at j1
      · rename_i y; subst y; omega
      · exact ⟨j1, fun z => absurd z (by omega)⟩
    rw [Int.add_assoc, Int.add_assoc, rOff_lies e6 hLL hkk k36 l16 (by omega), rOff_lies e6 hLL hkk k36 l16 (by omega), if_neg (by omega), if_neg (by omega), ← Int.add_assoc, ← Int.add_assoc]
    exact hr5 f i j f0 f1 i0 ij j2.1
  · rw [rOff_up e6 hLL hkk k36 l16 hu ⟨q0, q1⟩, rOff_low e6 hLL hkk k36 l16 ⟨q0, q1⟩, r 3 (by omega)]
    have hq := hcel q q0 q1
    by_cases z : q = k
    · rw [if_pos z, if_pos z]; exact ⟨(by omega), (by omega), fun y => absurd rfl y⟩
    · rw [if_neg z, if_neg z]; exact hq
  · rw [r 330 (by omega)]; exact hg1
  · rw [r 330 (by omega)] at t1
    have g := hg2 t t0 t1
    rw [r (331 + t) (by omega), r (347 + t) (by omega), r (339 + t) (by omega), r 3 (by omega), rOff_len e6 hLL hkk k36 l16 (by omega)]
    refine ⟨g.1, g.2.1, g.2.2.1, fun z => ?_⟩
    have := g.2.2.2 z
    split
    · rename_i y; exact hg t t0 t1 y z
    · exact this
  · rw [r 330 (by omega)] at u1
    have same : ∀ s, 0 ≤ s → s < A 330 → (rOn (rOff A e) q s ↔ rOn A q s) := by
      intro s s0 s1
      have g := hg2 s s0 s1
      have hlf := hr1 (A (331 + s)) (by omega) (by omega)
      unfold rOn
      rw [r (331 + s) (by omega), r (347 + s) (by omega), r (339 + s) (by omega)]
      have ni : A (347 + s) = 0 → 0 ≤ A (339 + s) → rOff A e (66 + 16 * A (331 + s) + A (339 + s)) = A (66 + 16 * A (331 + s) + A (339 + s)) := by
        intro i0 i1
        have al := g.2.2.2 i0
        rw [Int.add_assoc, rOff_lies e6 hLL hkk k36 l16 (by omega), if_neg]
        intro y
        have z : A (331 + s) = e := by omega
        have := hg s s0 s1 z i0
        omega
      exact ⟨fun h => ⟨h.1, h.2.1, (ni h.1 h.2.1).symm.trans h.2.2⟩, fun h => ⟨h.1, h.2.1, (ni h.1 h.2.1).trans h.2.2⟩⟩
    rw [same t t0 (by omega), same u (by omega) u1]
    exact hg3 t u t0 tu u1 q
/-- a state hangs on its own numbers and the land's measures alone -/
theorem rStOk.congr' {A B : Int → Int} (h : rStOk A) (hwB : 0 ≤ B 52 ∧ B 52 ≤ 9) (he : ∀ j, (1 ≤ j ∧ j ≤ 3) ∨ (54 ≤ j ∧ j < 355) → B j = A j) (hL : rLandOk A) : rStOk B := by
  have h3 := hL.2.2.1
  have hcl := hL.cells
  obtain ⟨hw, ⟨hr1, hr2, hr3, hr4, hr5⟩, hcel, hg1, hg2, hg3⟩ := h
  have e1 := he 1 (by omega)
  have e2 := he 2 (by omega)
  have e3 := he 3 (by omega)
  have cb : A 1 * A 2 = B 1 * B 2 := by rw [e1, e2]
  refine ⟨hwB, ⟨fun f f0 f1 => by rw [he (60 + f) (by omega)]; exact hr1 f f0 f1, fun f f0 f1 => ?_, fun i i0 i1 => by rw [he (66 + i) (by omega), he (162 + i) (by omega), e1, e2]; exact hr3 i i0 i1, fun f i f0 f1 i0 i1 => ?_, fun f i j f0 f1 i0 ij j1 => ?_⟩, fun q q0 q1 => by rw [he (294 + q) (by omega), he (258 + q) (by omega), e3]; exact hcel q q0 q1, by rw [he 330 (by omega)]; exact hg1, fun t t0 t1 => ?_, fun t u t0 tu u1 q => ?_⟩
  · rw [e3] at f1
    have hlf := hr1 f f0 (by omega)
    rw [he (54 + f) (by omega), rTook, he (60 + f) (by omega), rSum_congr (fun i hi => he _ (by omega))]; exact hr2 f f0 f1
  · rw [he (60 + f) (by omega)] at i1
    have hlf := hr1 f f0 (by omega)
    have rng := (hr3 (16 * f + i) (by omega) (by omega)).1
    rw [← Int.add_assoc] at rng
    rw [he (66 + 16 * f + i) (by omega), he (294 + A (66 + 16 * f + i)) (by omega), he (258 + A (66 + 16 * f + i)) (by omega)]; exact hr4 f i f0 f1 i0 i1
  · rw [he (60 + f) (by omega)] at j1
    have hlf := hr1 f f0 (by omega)
    rw [he (66 + 16 * f + i) (by omega), he (66 + 16 * f + j) (by omega)]; exact hr5 f i j f0 f1 i0 ij j1
  · rw [he 330 (by omega)] at t1
    have g := hg2 t t0 t1
    rw [he (331 + t) (by omega), he (347 + t) (by omega), he (339 + t) (by omega), e3, he (60 + A (331 + t)) (by omega)]; exact g
  · rw [he 330 (by omega)] at u1
    have same : ∀ s, 0 ≤ s → s < A 330 → (rOn B q s ↔ rOn A q s) := by
      intro s s0 s1
      have g := hg2 s s0 s1
      unfold rOn
      rw [he (331 + s) (by omega), he (347 + s) (by omega), he (339 + s) (by omega)]
      have ni : A (347 + s) = 0 → 0 ≤ A (339 + s) → B (66 + 16 * A (331 + s) + A (339 + s)) = A (66 + 16 * A (331 + s) + A (339 + s)) := fun i0 i1 => he _ (by omega)
      exact ⟨fun h => ⟨h.1, h.2.1, (ni h.1 h.2.1).symm.trans h.2.2⟩, fun h => ⟨h.1, h.2.1, (ni h.1 h.2.1).trans h.2.2⟩⟩
    rw [same t t0 (by omega), same u (by omega) u1]
    exact hg3 t u t0 tu u1 q
theorem rStOk.congr {A B : Int → Int} (h : rStOk A) (he : ∀ j, (1 ≤ j ∧ j ≤ 3) ∨ j = 52 ∨ (54 ≤ j ∧ j < 355) → B j = A j) (hL : rLandOk A) : rStOk B := h.congr' (by rw [he 52 (by omega)]; exact h.1) (fun j hj => he j (by omega)) hL
