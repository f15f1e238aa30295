theorem qS_kept (x : Int) {n : Int} (h : 0 ≤ n ∧ n < 10) : (qS x).2.2 48 n = 49 + 10 * n ∧ ((qS x).2.1 (49 + 10 * n)).1 = 6 := by
  have : n = 0 ∨ n = 1 ∨ n = 2 ∨ n = 3 ∨ n = 4 ∨ n = 5 ∨ n = 6 ∨ n = 7 ∨ n = 8 ∨ n = 9 := by omega
  rcases this with rfl | rfl | rfl | rfl | rfl | rfl | rfl | rfl | rfl | rfl <;> exact ⟨rfl, rfl⟩
theorem cPair_to {n : Int} (h : 0 ≤ n ∧ n < 10) : cPair (49 + 10 * n) 27 := by unfold cPair; omega
theorem cPair_from {n : Int} (h : 0 ≤ n ∧ n < 10) : cPair 27 (49 + 10 * n) := by unfold cPair; omega
/-- the class did a deed and kept what was -/
def dC (A B : Int → Int) (M M2 : QMem) : Prop := M2 47 1 = (M 47 1 + 1) % 10 ∧ M2 47 2 = (if M 47 2 + 1 < 10 then M 47 2 + 1 else 10) ∧ cSt A (49 + 10 * M 47 1) M2 ∧ cSt B 27 M2 ∧ ∀ a, a ≠ 47 → a < 49 + 10 * M 47 1 ∨ 49 + 10 * M 47 1 + 9 < a → a < 27 ∨ 36 < a → a ≠ 23 → a ≠ 26 → a ≠ 220 → a ≠ 221 → M2 a = M a
/-- the reference did a deed and kept what was -/
def dR (A B : Int → Int) (M2 M3 : QMem) : Prop := (∃ W : Int → Int, (∀ j, 0 ≤ j → j < 311 → W j = A (52 + j)) ∧ M3 216 = rNote B W) ∧ (∀ a, a ≠ 215 → a ≠ 216 → a ≠ 220 → a ≠ 221 → a ≠ 222 → a ≠ 23 → a ≠ 26 → M3 a = M2 a) ∧ M3 215 5 = M2 215 5 ∧ M3 215 13 = M2 215 13 ∧ M3 215 14 = M2 215 14 ∧ M3 215 24 = M2 215 24
theorem rNote_low {B W : Int → Int} (hN : 0 ≤ B 363) {j : Int} (hj : j < 363) : rNote B W j = B j := by
  simp only [rNote]; repeat' split
  all_goals first | rfl | (exfalso; omega)
theorem rNote_high {B W : Int → Int} (hN : B 363 ≤ 10) {j : Int} (hj : 3474 ≤ j) : rNote B W j = B j := by
  simp only [rNote]; repeat' split
  all_goals first | rfl | (exfalso; omega)
theorem Rel.deed {M M2 M3 : QMem} {B : Int → Int} (hR : Rel M) (hB : rGood (M 216) B) (hc : dC (M 216) B M M2) (hr : dR (M 216) B M2 M3) : Rel M3 := by
  obtain ⟨h1, h2, h3, h4, h5, h6, h7⟩ := hR
  obtain ⟨c1, c2, c3, c4, c5⟩ := hc
  obtain ⟨⟨W, w1, w2⟩, r1, r2, r3, r4, r5⟩ := hr
  have hN := h2.1
  have hn := h2.2.2.1
  have b363 : B 363 = M 216 363 := hB.2 363 (by omega)
  have low : ∀ j, j < 363 → rNote B W j = B j := fun j hj => rNote_low (by omega) hj
  have high : ∀ j, 3474 ≤ j → rNote B W j = M 216 j := fun j hj => (rNote_high (by omega) hj).trans (hB.2 j (by omega))
  have lB := hB.land h1.1
  have fr : ∀ a, a ≠ 47 → a < 49 + 10 * M 47 1 ∨ 49 + 10 * M 47 1 + 9 < a → a < 27 ∨ 36 < a → a ≠ 23 → a ≠ 26 → a ≠ 220 → a ≠ 221 → a ≠ 215 → a ≠ 216 → a ≠ 222 → M3 a = M a := fun a a1 a2 a3 a4 a5 a6 a7 a8 a9 a10 => (r1 a a8 a9 a6 a7 a10 a4 a5).trans (c5 a a1 a2 a3 a4 a5 a6 a7)
  have landEq : ∀ j, (0 ≤ j ∧ j < 52) ∨ 3475 ≤ j → rNote B W j = M 216 j := fun j hj => by
    rcases hj with z | z
    · rw [low j (by omega)]; exact hB.2 j (by omega)
    · exact high j (by omega)
  have a3 := h1.1.2.2.1
  unfold Rel
  rw [w2]
  refine ⟨⟨h1.1.congr landEq, hB.1.congr (fun j hj => low j (by omega)) lB, (h1.2.2.1.congr (fun a ha => fr a (by omega) (by omega) (by omega) (by omega) (by omega) (by omega) (by omega) (by omega) (by omega) (by omega))).land_eq h1.1 landEq, ?_⟩, ?_, ⟨?_, ?_, ?_⟩, ⟨?_, ?_⟩, ?_, ?_, ?_⟩
  · refine (c4.of_eq lB.2.2.1.2 hB.1.2.1.1 hB.1.2.2.2.1.2 (fun j hj => low j (by omega))).congr (fun a a0 a1 => r1 a (by omega) (by omega) (by omega) (by omega) (by omega) (by omega) (by omega))
  · refine h2.note h1 hB w1 ?_ ?_ (c3.congr (fun a a0 a1 => r1 a (by omega) (by omega) (by omega) (by omega) (by omega) (by omega) (by omega))) (fun a ha hb => fr a (by omega) hb (by omega) (by omega) (by omega) (by omega) (by omega) (by omega) (by omega) (by omega))
    · rw [r1 47 (by omega) (by omega) (by omega) (by omega) (by omega) (by omega) (by omega)]; exact c1
    · rw [r1 47 (by omega) (by omega) (by omega) (by omega) (by omega) (by omega) (by omega)]; exact c2
  · rw [fr 0 (by omega) (by omega) (by omega) (by omega) (by omega) (by omega) (by omega) (by omega) (by omega) (by omega)]; exact h3.1
  · rw [fr 0 (by omega) (by omega) (by omega) (by omega) (by omega) (by omega) (by omega) (by omega) (by omega) (by omega), r2, c5 215 (by omega) (by omega) (by omega) (by omega) (by omega) (by omega) (by omega)]; exact h3.2.1
  · rw [fr 1 (by omega) (by omega) (by omega) (by omega) (by omega) (by omega) (by omega) (by omega) (by omega) (by omega), fr 218 (by omega) (by omega) (by omega) (by omega) (by omega) (by omega) (by omega) (by omega) (by omega) (by omega)]; exact h3.2.2
  · rw [fr 2 (by omega) (by omega) (by omega) (by omega) (by omega) (by omega) (by omega) (by omega) (by omega) (by omega), r3, c5 215 (by omega) (by omega) (by omega) (by omega) (by omega) (by omega) (by omega)]; exact h4.1
  · rw [fr 2 (by omega) (by omega) (by omega) (by omega) (by omega) (by omega) (by omega) (by omega) (by omega) (by omega), r4, c5 215 (by omega) (by omega) (by omega) (by omega) (by omega) (by omega) (by omega)]; exact h4.2
  · exact h5.congr (fun a ha => fr a (by omega) (by omega) (by omega) (by omega) (by omega) (by omega) (by omega) (by omega) (by omega) (by omega))
  · exact (h6.congr (fun a ha => fr a (by omega) (by omega) (by omega) (by omega) (by omega) (by omega) (by omega) (by omega) (by omega) (by omega))).of_eq (fun j hj => high j (by omega))
  · rw [r5, c5 215 (by omega) (by omega) (by omega) (by omega) (by omega) (by omega) (by omega)]; exact h7
section Deed58
variable {X : QX} {x : Int} {d : Nat} {post : Int → QMem → Prop} {M : QMem}
/-- but for row 47 and a kept state, all is as it was -/
abbrev kK (n : Int) (M M1 : QMem) : Prop := ∀ a, a ≠ 47 → a < 49 + 10 * n ∨ 49 + 10 * n + 9 < a → M1 a = M a
theorem c_keep {A : Int → Int} (h : cOk A 27 M) (hn : 0 ≤ M 47 1 ∧ M 47 1 < 10) (hs : 0 ≤ M 47 2 ∧ M 47 2 ≤ 10) (hp : ∀ M1, kK (M 47 1) M M1 → M1 47 1 = (M 47 1 + 1) % 10 → M1 47 2 = (if M 47 2 + 1 < 10 then M 47 2 + 1 else 10) → cSt A (49 + 10 * M 47 1) M1 → post 0 M1) : QCm X x (d + 2) 0 yX3_keep [(2, 47), (2, 27)] M post := by
  have q := qS_kept x hn
  have a3 := h.1.2.2.1
  refine QC.of qmX3_keep_ok rfl (TX3_keep_0 ?_)
  rw [q.1]
  refine ⟨(by omega), (by omega), q.2, c_copyOf (cPair_to hn) h.2.2.2 h.2.1.2.1.1 a3.2 h.2.1.2.2.2.1.2 (fun M1 m1 m2 => ?_)⟩
  have e47 : M1 47 = M 47 := m1 47 (by omega)
  have tm : (M 47 1 + 1).tmod 10 = (M 47 1 + 1) % 10 := Int.tmod_eq_emod_of_nonneg (by omega)
  simp only [qup_at, e47, Int.reduceEq, if_false, tm]
  have fin : ∀ v : Int, v = (if M 47 2 + 1 < 10 then M 47 2 + 1 else 10) → post 0 (qup (qup M1 47 1 ((M 47 1 + 1) % 10)) 47 2 v) := fun v hv => by
    refine hp _ (fun a a1 a2 => ?_) ?_ ?_ (m2.congr (fun a a0 a1 => ?_))
    · rw [qup_row a1, qup_row a1]; exact m1 a a2
    · rw [qup_at, if_neg (by decide), qup_at, if_pos rfl]
    · rw [qup_at, if_pos rfl]; exact hv
    · rw [qup_row (by omega), qup_row (by omega)]
  refine ⟨(i32 (by omega) (by omega)), j_min (i32 (by omega) (by omega)) (i32 (by omega) (by omega)) (fun z => fin _ ?_) (fun z => fin _ ?_)⟩
  · rw [if_neg (by omega)]
  · split <;> omega
theorem dC.of {A B : Int → Int} {M1 M2 : QMem} (hn : 0 ≤ M 47 1 ∧ M 47 1 < 10) (m1 : kK (M 47 1) M M1) (m2 : M1 47 1 = (M 47 1 + 1) % 10) (m3 : M1 47 2 = (if M 47 2 + 1 < 10 then M 47 2 + 1 else 10)) (m4 : cSt A (49 + 10 * M 47 1) M1) (s : sK 27 M1 M2) (hc : cSt B 27 M2) : dC A B M M2 := by
  have e47 := s 47 (by omega) (by omega) (by omega) (by omega) (by omega)
  refine ⟨by rw [e47]; exact m2, by rw [e47]; exact m3, m4.congr (fun a a0 a1 => s a (by omega) (by omega) (by omega) (by omega) (by omega)), hc, fun a a1 a2 a3 a4 a5 a6 a7 => ?_⟩
  rw [s a (by omega) (by omega) (by omega) (by omega) (by omega)]; exact m1 a a1 a2
theorem oK.sK {b : Int} {M M1 : QMem} (h : oK b M M1) : sK b M M1 := fun a q _ _ _ _ => h a q
theorem cOk.kept {A : Int → Int} {M M1 : QMem} (h : cOk A 27 M) (hn : 0 ≤ M 47 1 ∧ M 47 1 < 10) (m1 : kK (M 47 1) M M1) : cOk A 27 M1 := ⟨h.1, h.2.1, h.2.2.1.congr (fun a ha => m1 a (by omega) (by omega)), h.2.2.2.congr (fun a a0 a1 => m1 a (by omega) (by omega))⟩
/-- the reference keeps, does, notes -/
theorem dR.of {A B : Int → Int} {M2 Ma Mb Mc M3 : QMem} (g : gK M2 Ma) (gr : ∀ a, a ≠ 215 → a ≠ 220 → a ≠ 221 → a ≠ 23 → a ≠ 26 → Ma a = M2 a) (ea : M2 216 = A) (k1 : ∀ a, a ≠ 222 → Mb a = Ma a) (k2 : ∀ j, 0 ≤ j → j < 311 → Mb 222 j = Ma 216 (52 + j)) (o1 : rK Mb Mc) (o2 : Mc 216 = B) (n1 : ∀ a, a ≠ 216 → M3 a = Mc a) (n2 : M3 216 = rNote (Mc 216) (Mc 222)) : dR A B M2 M3 := by
  have e5 : M3 215 = Ma 215 := by rw [n1 215 (by omega), o1 215 (by omega) (by omega) (by omega) (by omega) (by omega), k1 215 (by omega)]
  refine ⟨⟨Mc 222, fun j j0 j1 => ?_, by rw [n2, o2]⟩, fun a a1 a2 a3 a4 a5 a6 a7 => ?_, ?_, ?_, ?_, ?_⟩
  · rw [o1 222 (by omega) (by omega) (by omega) (by omega) (by omega), k2 j j0 j1, g.all, ea]
  · rw [n1 a a2, o1 a a2 a3 a4 a6 a7, k1 a a5]; exact gr a a1 a3 a4 a6 a7
  · rw [e5]; exact g.2.2.1
  · rw [e5]; exact g.2.2.2.1
  · rw [e5]; exact g.2.2.2.2.1
  · rw [e5]; exact g.2.2.2.2.2
theorem dR_thrown {M2 Ma : QMem} {j v : Int} (h : lK (qup M2 215 j v) Ma) : ∀ a, a ≠ 215 → a ≠ 220 → a ≠ 221 → a ≠ 23 → a ≠ 26 → Ma a = M2 a := fun a a1 a2 a3 a4 a5 => (h a a2 a3 a4 a5).trans (qup_row a1)
end Deed58
