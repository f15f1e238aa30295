theorem kN_ne {a : Int} : ∀ {E : List (Int × Int × Int)}, (∀ e ∈ E, e.1 ≠ a) → ∀ j, kN E a j = 0
  | [], _, _ => rfl
  | e :: r, h, j => by
    show (if a = e.1 ∧ j = e.2.1 then e.2.2 else kN r a j) = 0
    rw [if_neg (fun z => h e List.mem_cons_self z.1.symm)]
    exact kN_ne (fun e' he' => h e' (List.mem_cons_of_mem _ he')) j
theorem pOk.start : pOk a0L l0L := by
  have u : ∀ j, j ≠ 1 → j ≠ 2 → a0L j = if 258 ≤ j ∧ j < 330 then -1 else 0 := fun j j1 j2 => by unfold a0L; rw [if_neg (by omega)]
  have u1 : a0L 1 = 2 := rfl
  have u2 : a0L 2 = 2 := rfl
  have u3 : a0L 3 = 0 := rfl
  refine ⟨by rw [u1]; decide, by rw [u2]; decide, by rw [u3]; decide, fun q q0 q1 => by rw [u _ (by omega) (by omega), if_neg (by omega)]; exact Or.inl rfl, fun q q0 q1 => by omega, by rw [u 52 (by omega) (by omega), if_neg (by omega)]; decide, fun q hq => by rw [u q (by omega) (by omega), if_neg (by omega)], fun q q0 q1 => by rw [u q (by omega) (by omega), if_pos (by omega)], fun l hl => Or.inl rfl⟩
theorem rel_start {M1 M2 : QMem} (h1 : ∀ a, 0 ≤ a → a < 27 ∨ 36 < a → M1 a = kN kE10 a) (h2 : ∀ e, 0 ≤ e → e < 6 → M1 28 e = 0 ∧ M1 29 e = kN kE10 20 e) (h3 : ∀ k, 0 ≤ k → k < 36 → M1 32 k = -1 ∧ M1 33 k = -1) (h4 : M1 27 6 = 0) (h5 : M1 27 10 = kN kE10 17 5) (h6 : M1 27 11 = kN kE10 17 6) (g1 : ∀ a, a ≠ 216 → M2 a = kM 215 M1 kE11 a) (g2 : ∀ j, 0 ≤ j → j < 4375 → M2 216 j = a0L j) : Rel M2 := by
  have lo : ∀ a, 0 ≤ a → a < 27 ∨ (36 < a ∧ a < 215) → M2 a = kN kE10 a := fun a a0 a1 => by
    rw [g1 a (by omega), ← h1 a a0 (by omega)]; funext j; unfold kM; rw [if_neg (by omega)]
  have mi : ∀ a, 27 ≤ a → a ≤ 36 → M2 a = M1 a := fun a a0 a1 => by
    rw [g1 a (by omega)]; funext j; unfold kM; rw [if_neg (by omega)]
  have hi : ∀ a, 215 ≤ a → a ≠ 216 → M2 a = kN kE11 a := fun a a0 a1 => by
    rw [g1 a a1]; funext j; unfold kM; rw [if_pos a0]
  have a3 : a0L 3 = 0 := rfl
  have rr : rRd a0L l0L (fun _ => M2 216) := ⟨fun j j0 j1 _ => g2 j j0 (by omega), fun l hl => Or.inl ⟨rfl, by
    show M2 216 (4 + l) = 0
    rw [g2 _ (by omega) (by omega)]
    rcases hl with rfl | rfl <;> rfl⟩, by
    show 0 ≤ M2 216 3474
    rw [g2 3474 (by omega) (by omega)]; decide⟩
  have hz : (fun _ : Int => M2 216) 219 3474 ≤ 900 := by
    show M2 216 3474 ≤ 900
    rw [g2 3474 (by omega) (by omega)]; decide
  have hB : ∀ j, 0 ≤ j → j < 4375 → M2 216 j = (fun _ : Int => M2 216) 219 j := fun _ _ _ => rfl
  have nh : ∀ q, ¬ rHome a0L q := fun q => by
    rintro ⟨e, e0, e1, e2⟩
    omega
  have cr : cRd a0L l0L (fun a => M2 (a + 14)) := by
    refine ⟨⟨?_, ?_, ?_, ?_, ?_, ?_, ?_⟩, fun q q0 q1 => ?_, fun q q0 q1 => ?_, fun l hl => ?_⟩
    · show M2 17 0 = _; rw [lo 17 (by omega) (by omega)]; decide +kernel
    · show M2 17 1 = _; rw [lo 17 (by omega) (by omega)]; decide +kernel
    · show M2 17 2 = _; rw [lo 17 (by omega) (by omega)]; decide +kernel
    · show M2 17 3 = _; rw [lo 17 (by omega) (by omega)]; decide +kernel
    · show M2 17 4 = _; rw [lo 17 (by omega) (by omega)]; decide +kernel
    · show M2 17 5 = _; rw [lo 17 (by omega) (by omega)]; decide +kernel
    · show M2 17 6 = _; rw [lo 17 (by omega) (by omega)]; decide +kernel
    · have a1 : a0L (10 + q) = 0 := by unfold a0L; rw [if_neg (by omega), if_neg (by omega)]
      refine ⟨fun z => absurd z (by omega), fun _ => ⟨fun z => absurd z (nh q), fun _ => ?_⟩⟩
      show M2 18 q = 0
      rw [lo 18 (by omega) (by omega)]; exact kN_ne (by decide +kernel) q
    · omega
    · refine ⟨?_, fun q hq => absurd hq (Nat.not_lt_zero _)⟩
      rcases hl with rfl | rfl
      · show M2 21 2 = 0; rw [lo 21 (by omega) (by omega)]; exact kN_ne (by decide +kernel) 2
      · show M2 24 2 = 0; rw [lo 24 (by omega) (by omega)]; exact kN_ne (by decide +kernel) 2
  have p7 : cp17 (fun a => M2 (a + 14)) M2 := ⟨fun j _ _ => rfl, fun k _ _ => rfl, fun e _ _ => ⟨rfl, rfl⟩, fun l hl => by
    rcases hl with rfl | rfl
    · exact ⟨rfl, fun _ _ _ => rfl⟩
    · exact ⟨rfl, fun _ _ _ => rfl⟩⟩
  obtain ⟨w1, w2, w3, w4⟩ := fin_ok pOk.start rr hz hB
  have b363 : M2 216 363 = 0 := by rw [g2 363 (by omega) (by omega)]; rfl
  refine ⟨⟨w1, w2, fin_land pOk.start rr hz hB cr p7, fin_st pOk.start rr hz hB cr p7 (fun e e0 e1 => ?_) (fun k k0 k1 => ?_) ?_ ?_ ?_⟩, ⟨?_, ?_, ?_, fun i i0 i1 => ?_⟩, ⟨?_, ?_, fun j j0 j1 => ?_⟩, ⟨?_, ?_⟩, fun t t0 t1 => ?_, fun i hi' => ?_, ?_⟩
  · rw [mi 28 (by omega) (by omega), mi 29 (by omega) (by omega), lo 20 (by omega) (by omega)]; exact h2 e e0 e1
  · rw [mi 32 (by omega) (by omega), mi 33 (by omega) (by omega)]; exact h3 k k0 k1
  · rw [mi 27 (by omega) (by omega)]; exact h4
  · rw [mi 27 (by omega) (by omega), lo 17 (by omega) (by omega)]; exact h5
  · rw [mi 27 (by omega) (by omega), lo 17 (by omega) (by omega)]; exact h6
  · rw [b363]; decide
  · rw [b363, lo 47 (by omega) (by omega)]; exact kN_ne (by decide +kernel) 2
  · rw [lo 47 (by omega) (by omega), kN_ne (by decide +kernel) 1]; decide
  · rw [b363] at i1; omega
  · rw [lo 0 (by omega) (by omega), kN_ne (by decide +kernel) 1]; decide
  · rw [lo 0 (by omega) (by omega), hi 215 (by omega) (by omega), kN_ne (E := kE10) (by decide +kernel) 1]; decide +kernel
  · rw [lo 1 (by omega) (by omega), hi 218 (by omega) (by omega), kN_ne (E := kE10) (by decide +kernel) j, kN_ne (E := kE11) (by decide +kernel) j]; decide
  · rw [lo 2 (by omega) (by omega), hi 215 (by omega) (by omega)]; decide +kernel
  · rw [lo 2 (by omega) (by omega), hi 215 (by omega) (by omega)]; decide +kernel
  · refine Or.inl ?_
    have : t = 0 ∨ t = 1 ∨ t = 2 ∨ t = 3 := (by omega)
    rcases this with rfl | rfl | rfl | rfl
    · rw [hi 228 (by omega) (by omega), lo (165 + 2 * 0) (by omega) (by omega)]; decide +kernel
    · rw [hi 228 (by omega) (by omega), lo (165 + 2 * 1) (by omega) (by omega)]; decide +kernel
    · rw [hi 228 (by omega) (by omega), lo (165 + 2 * 2) (by omega) (by omega)]; decide +kernel
    · rw [hi 228 (by omega) (by omega), lo (165 + 2 * 3) (by omega) (by omega)]; decide +kernel
  · have z0 : M2 217 i = 0 := by rw [hi 217 (by omega) (by omega)]; exact kN_ne (by decide +kernel) i
    have z1 : M2 (173 + 21 * i) 0 = 0 := by
      rcases hi' with rfl | rfl
      · rw [lo (173 + 21 * 0) (by omega) (by omega)]; exact kN_ne (by decide +kernel) 0
      · rw [lo (173 + 21 * 1) (by omega) (by omega)]; exact kN_ne (by decide +kernel) 0
    exact ⟨z0.trans z1.symm, Or.inl z0, fun z => absurd z (by omega)⟩
  · rw [hi 215 (by omega) (by omega)]; decide +kernel
