/-- a state that was kept, an image -/
def rSlot (A : Int → Int) (i : Int) : Int → Int := fun j => if 52 ≤ j ∧ j < 363 then A (j + 312 + 311 * i) else A j
def rImg (A : Int → Int) (i : Int) : Int → Int := fun j => A (j + 4375 * (i + 1))
def cPast (A : Int → Int) (M : QMem) : Prop := (0 ≤ A 363 ∧ A 363 ≤ 10) ∧ M 47 2 = A 363 ∧ (0 ≤ M 47 1 ∧ M 47 1 < 10) ∧ ∀ i, 0 ≤ i → i < A 363 → rStOk (rSlot A i) ∧ cSt (rSlot A i) (49 + 10 * ((M 47 1 - A 363 + i) % 10)) M
def pTape (M : QMem) : Prop := (0 ≤ M 0 1 ∧ M 0 1 ≤ 900) ∧ M 215 5 = M 0 1 ∧ ∀ j, 0 ≤ j → j < 900 → (-128 ≤ M 1 j ∧ M 1 j ≤ 127) ∧ M 218 j = if M 1 j < 0 then M 1 j + 256 else M 1 j
def pTray (M : QMem) : Prop := ∀ t, 0 ≤ t → t < 4 → (M 228 t = -1 ∧ M (165 + 2 * t) 2 = -1) ∨ ((0 ≤ M 228 t ∧ M 228 t ≤ 3) ∧ M (165 + 2 * t) 1 = M 228 t ∧ (0 ≤ M 229 t ∧ M 229 t ≤ 40) ∧ M (165 + 2 * t) 2 = M 229 t ∧ ∀ i, 0 ≤ i → i < M 229 t → in64 (M 230 (40 * t + i)) ∧ M (165 + 2 * t + 1) i = M 230 (40 * t + i))
def pImg (A : Int → Int) (M : QMem) : Prop := ∀ i, i = 0 ∨ i = 1 → M 217 i = M (173 + 21 * i) 0 ∧ (M 217 i = 0 ∨ M 217 i = 1) ∧ (M 217 i = 1 → rLandOk (rImg A i) ∧ rStOk (rImg A i) ∧ cLand (rImg A i) (174 + 21 * i) M ∧ cSt (rImg A i) (184 + 21 * i) M)
/-- class and reference are alike -/
def Rel (M : QMem) : Prop := cOk (M 216) 27 M ∧ cPast (M 216) M ∧ pTape M ∧ (M 2 0 = M 215 13 ∧ M 2 1 = M 215 14) ∧ pTray M ∧ pImg (M 216) M ∧ M 215 24 = -1
/-- the numbers that a state is made of -/
theorem cSt.of_eq {A B : Int → Int} {b : Int} {M : QMem} (h : cSt A b M) (h3 : A 3 ≤ 6) (hl : ∀ e, 0 ≤ e → e < 6 → 0 ≤ A (60 + e) ∧ A (60 + e) ≤ 16) (hT : A 330 ≤ 8) (he : ∀ j, j = 3 ∨ (52 ≤ j ∧ j < 363) → B j = A j) : cSt B b M := by
  refine ⟨fun f f0 f1 => ?_, fun f f0 f1 => ?_, fun f i f0 f1 i0 i1 => ?_, fun q q0 q1 => ?_, fun t t0 t1 => ?_, ?_, ?_, ?_⟩
  · rw [he _ (by omega)]; exact h.1 f f0 f1
  · rw [he 3 (by omega)] at f1
    rw [he _ (by omega)]; exact h.2.1 f f0 f1
  · rw [he _ (by omega)] at i1
    have := hl f f0 f1
    rw [he _ (by omega), he _ (by omega)]; exact h.2.2.1 f i f0 f1 i0 i1
  · rw [he _ (by omega), he _ (by omega)]; exact h.2.2.2.1 q q0 q1
  · rw [he 330 (by omega)] at t1
    rw [he _ (by omega), he _ (by omega), he _ (by omega), he _ (by omega)]; exact h.2.2.2.2.1 t t0 t1
  · rw [he _ (by omega)]; exact h.2.2.2.2.2.1
  · rw [he _ (by omega)]; exact h.2.2.2.2.2.2.1
  · rw [he _ (by omega)]; exact h.2.2.2.2.2.2.2
theorem cPast.congr {A : Int → Int} {M M1 : QMem} (h : cPast A M) (he : ∀ a, 47 ≤ a ∧ a ≤ 148 → M1 a = M a) : cPast A M1 := by
  unfold cPast
  rw [he 47 (by omega)]
  refine ⟨h.1, h.2.1, h.2.2.1, fun i i0 i1 => ?_⟩
  have := h.2.2.2 i i0 i1
  exact ⟨this.1, this.2.congr (fun a a0 a1 => he a (by omega))⟩
theorem pTray.congr {M M1 : QMem} (h : pTray M) (he : ∀ a, (165 ≤ a ∧ a ≤ 172) ∨ (228 ≤ a ∧ a ≤ 230) → M1 a = M a) : pTray M1 := fun t t0 t1 => by
  rw [he 228 (by omega), he 229 (by omega), he 230 (by omega), he (165 + 2 * t) (by omega), he (165 + 2 * t + 1) (by omega)]; exact h t t0 t1
theorem pImg.congr {A : Int → Int} {M M1 : QMem} (h : pImg A M) (he : ∀ a, (173 ≤ a ∧ a ≤ 214) ∨ a = 217 → M1 a = M a) : pImg A M1 := fun i hi => by
  rw [he 217 (by omega), he (173 + 21 * i) (by omega)]
  have := h i hi
  exact ⟨this.1, this.2.1, fun z => ⟨(this.2.2 z).1, (this.2.2 z).2.1, (this.2.2 z).2.2.1.congr (fun a ha => he a (by omega)), (this.2.2 z).2.2.2.congr (fun a a0 a1 => he a (by omega))⟩⟩
theorem pImg.of_eq {A B : Int → Int} {M : QMem} (h : pImg A M) (he : ∀ j, 4375 ≤ j → B j = A j) : pImg B M := fun i hi => by
  have g := h i hi
  refine ⟨g.1, g.2.1, fun z => ?_⟩
  obtain ⟨g1, g2, g3, g4⟩ := g.2.2 z
  have e : ∀ j, 0 ≤ j → rImg B i j = rImg A i j := fun j hj => he _ (by omega)
  have a3 := g1.2.2.1
  exact ⟨g1.congr (fun j hj => e j (by omega)), g2.congr (fun j hj => e j (by omega)) g1, g3.land_eq g1 (fun j hj => e j (by omega)), g4.of_eq a3.2 g2.2.1.1 g2.2.2.2.1.2 (fun j hj => e j (by omega))⟩
/-- what no query touches -/
def gK (M M1 : QMem) : Prop := (∀ a, a ≤ 1 ∨ (17 ≤ a ∧ a ≤ 36) ∨ (47 ≤ a ∧ a ≤ 148) ∨ (165 ≤ a ∧ a ≤ 214) ∨ (216 ≤ a ∧ a ≤ 218) ∨ 228 ≤ a → a ≠ 23 → a ≠ 26 → M1 a = M a) ∧ (M1 2 0 = M 2 0 ∧ M1 2 1 = M 2 1) ∧ M1 215 5 = M 215 5 ∧ M1 215 13 = M 215 13 ∧ M1 215 14 = M 215 14 ∧ M1 215 24 = M 215 24
theorem gK.refl (M : QMem) : gK M M := ⟨fun _ _ _ _ => rfl, ⟨rfl, rfl⟩, rfl, rfl, rfl, rfl⟩
theorem gK.trans {M M1 M2 : QMem} (h : gK M M1) (g : gK M1 M2) : gK M M2 := ⟨fun a q1 q2 q3 => (g.1 a q1 q2 q3).trans (h.1 a q1 q2 q3), ⟨g.2.1.1.trans h.2.1.1, g.2.1.2.trans h.2.1.2⟩, g.2.2.1.trans h.2.2.1, g.2.2.2.1.trans h.2.2.2.1, g.2.2.2.2.1.trans h.2.2.2.2.1, g.2.2.2.2.2.trans h.2.2.2.2.2⟩
theorem gK.of_rows {M M1 : QMem} (h : ∀ a, a ≤ 2 ∨ (17 ≤ a ∧ a ≤ 36) ∨ (47 ≤ a ∧ a ≤ 148) ∨ (165 ≤ a ∧ a ≤ 218) ∨ 228 ≤ a → a ≠ 23 → a ≠ 26 → M1 a = M a) : gK M M1 := by
  have e2 := h 2 (by omega) (by omega) (by omega)
  have e5 := h 215 (by omega) (by omega) (by omega)
  exact ⟨fun a q1 q2 q3 => h a (by omega) q2 q3, ⟨by rw [e2], by rw [e2]⟩, by rw [e5], by rw [e5], by rw [e5], by rw [e5]⟩
theorem lK.gK {M M1 : QMem} (h : lK M M1) : gK M M1 := gK.of_rows (fun a q1 q2 q3 => h a (by omega) (by omega) q2 q3)
theorem gK.thrown (M : QMem) {j v : Int} (hj : j ≠ 5 ∧ j ≠ 13 ∧ j ≠ 14 ∧ j ≠ 24) : gK M (qup M 215 j v) := by
  refine ⟨fun a q1 q2 q3 => qup_row (by omega), ⟨by rw [qup_row (by decide)], by rw [qup_row (by decide)]⟩, ?_, ?_, ?_, ?_⟩
  all_goals rw [qup_at, if_neg (by omega)]
theorem gK.all {M M1 : QMem} (h : gK M M1) : M1 216 = M 216 := h.1 216 (by omega) (by omega) (by omega)
theorem cOk.of_gK {A : Int → Int} {M M1 : QMem} (h : cOk A 27 M) (k : gK M M1) : cOk A 27 M1 := ⟨h.1, h.2.1, h.2.2.1.congr (fun a ha => k.1 a (by omega) (by omega) (by omega)), h.2.2.2.congr (fun a a0 a1 => k.1 a (by omega) (by omega) (by omega))⟩
theorem Rel.keep {M M1 : QMem} (h : Rel M) (k : gK M M1) : Rel M1 := by
  obtain ⟨h1, h2, h3, h4, h5, h6, h7⟩ := h
  unfold Rel
  rw [k.all]
  refine ⟨h1.of_gK k, h2.congr (fun a ha => k.1 a (by omega) (by omega) (by omega)), ⟨?_, ?_, ?_⟩, ⟨?_, ?_⟩, h5.congr (fun a ha => k.1 a (by omega) (by omega) (by omega)), h6.congr (fun a ha => k.1 a (by omega) (by omega) (by omega)), ?_⟩
  · rw [k.1 0 (by omega) (by omega) (by omega)]; exact h3.1
  · rw [k.1 0 (by omega) (by omega) (by omega), k.2.2.1]; exact h3.2.1
  · rw [k.1 1 (by omega) (by omega) (by omega), k.1 218 (by omega) (by omega) (by omega)]; exact h3.2.2
  · rw [k.2.1.1, k.2.2.2.1]; exact h4.1
  · rw [k.2.1.2, k.2.2.2.2.1]; exact h4.2
  · rw [k.2.2.2.2.2]; exact h7
theorem rSlot_congr {A B : Int → Int} {i : Int} (he : ∀ j, j < 52 ∨ 363 ≤ j → B j = A j) (hi : 0 ≤ i) : ∀ j, rSlot B i j = if 52 ≤ j ∧ j < 363 then rSlot A i j else B j := by
  intro j
  unfold rSlot
  split
  · rw [he _ (by omega)]
  · rfl
/-- a deed was done, and can be undone -/
theorem cPast.note {A B W : Int → Int} {M M1 : QMem} (h : cPast A M) (hOk : cOk A 27 M) (hB : rGood A B) (hW : ∀ j, 0 ≤ j → j < 311 → W j = A (52 + j)) (h1 : M1 47 1 = (M 47 1 + 1) % 10) (h2 : M1 47 2 = if M 47 2 + 1 < 10 then M 47 2 + 1 else 10) (hc : cSt A (49 + 10 * M 47 1) M1) (he : ∀ a, 49 ≤ a ∧ a ≤ 148 → a < 49 + 10 * M 47 1 ∨ 49 + 10 * M 47 1 + 9 < a → M1 a = M a) : cPast (rNote B W) M1 := by
  obtain ⟨hN, hs, hn, hk⟩ := h
  have b363 : B 363 = A 363 := hB.2 363 (by omega)
  have a3 := hOk.1.2.2.1
  have hlen := hOk.2.1.2.1.1
  have hT := hOk.2.1.2.2.2.1
  have n363 : rNote B W 363 = if A 363 + 1 < 10 then A 363 + 1 else 10 := by
    show (if B 363 = 10 then (if 364 ≤ (363 : Int) ∧ (363 : Int) < 3163 then B (363 + 311) else if 3163 ≤ (363 : Int) ∧ (363 : Int) < 3474 then W (363 - 3163) else B 363) else if 364 + 311 * B 363 ≤ 363 ∧ 363 < 364 + 311 * B 363 + 311 then W (363 - (364 + 311 * B 363)) else if (363 : Int) = 363 then B 363 + 1 else B 363) = _
    rw [b363]
    by_cases y : A 363 = 10
    · rw [if_pos y, if_neg (by decide), if_neg (by decide)]; split <;> omega
    · rw [if_neg y, if_neg (by omega), if_pos rfl]; split <;> omega
  have nlow : ∀ j, j < 52 → rNote B W j = A j := fun j hj => by
    have := hB.2 j (by omega)
    simp only [rNote, b363]
    repeat' split
    all_goals first | omega | exact this
  -- the slots
  have new : ∀ i, i = (if A 363 + 1 < 10 then A 363 else 9) → ∀ j, j < 363 → rSlot (rNote B W) i j = A j := by
    intro i hi j hj
    unfold rSlot
    by_cases z : 52 ≤ j
    · rw [if_pos ⟨z, hj⟩, show A j = W (j - 52) by rw [hW _ (by omega) (by omega)]; congr 1; omega]
      simp only [rNote, b363]
      by_cases y : A 363 = 10
      · rw [if_pos y, if_neg (by split at hi <;> omega), if_pos (by split at hi <;> omega)]
        congr 1
        split at hi <;> omega
      · rw [if_neg y, if_pos (by split at hi <;> omega)]
        congr 1
        split at hi <;> omega
    · rw [if_neg (fun q => z q.1)]; exact nlow j (by omega)
  have old : ∀ i, 0 ≤ i → i < (if A 363 + 1 < 10 then A 363 else 9) → ∀ j, j < 363 → rSlot (rNote B W) i j = rSlot A (if A 363 = 10 then i + 1 else i) j := by
    intro i i0 i1 j hj
    unfold rSlot
    by_cases z : 52 ≤ j
    · rw [if_pos ⟨z, hj⟩, if_pos ⟨z, hj⟩]
      simp only [rNote, b363]
      by_cases y : A 363 = 10
      · rw [if_pos y, if_pos y, if_pos (by split at i1 <;> omega), hB.2 _ (by split at i1 <;> omega)]
        congr 1; omega
      · rw [if_neg y, if_neg y, if_neg (by split at i1 <;> omega), if_neg (by omega), hB.2 _ (by omega)]
    · rw [if_neg (fun q => z q.1), if_neg (fun q => z q.1)]; exact nlow j (by omega)
  have hNb : (0 ≤ rNote B W 363 ∧ rNote B W 363 ≤ 10) := by rw [n363]; split <;> omega
  refine ⟨hNb, by rw [h2, n363, hs], by rw [h1]; omega, fun i i0 i1 => ?_⟩
  rw [n363] at i1
  by_cases z : i = (if A 363 + 1 < 10 then A 363 else 9)
  · have e := new i z
    have pos : (M1 47 1 - rNote B W 363 + i) % 10 = M 47 1 := by
      rw [h1, n363, z]
      split <;> omega
    rw [pos]
    exact ⟨hOk.2.1.congr (fun j hj => e j (by omega)) hOk.1, hc.of_eq a3.2 hlen hT.2 (fun j hj => e j (by omega))⟩
  · have i2 : i < (if A 363 + 1 < 10 then A 363 else 9) := by split <;> split at i1 <;> split at z <;> omega
    have e := old i i0 i2
    have g := hk (if A 363 = 10 then i + 1 else i) (by split <;> omega) (by split <;> split at i2 <;> omega)
    have pos : (M1 47 1 - rNote B W 363 + i) % 10 = (M 47 1 - A 363 + (if A 363 = 10 then i + 1 else i)) % 10 := by
      rw [h1, n363]
      split <;> split <;> omega
    have ne : (M 47 1 - A 363 + (if A 363 = 10 then i + 1 else i)) % 10 ≠ M 47 1 := by
      split at i2 <;> split <;> omega
    have sl3 : rSlot A (if A 363 = 10 then i + 1 else i) 3 = A 3 := by unfold rSlot; rw [if_neg (by omega)]
    have sLand : rLandOk (rSlot A (if A 363 = 10 then i + 1 else i)) := hOk.1.congr (fun j hj => by unfold rSlot; rw [if_neg (by omega)])
    rw [pos]
    refine ⟨g.1.congr (fun j hj => e j (by omega)) sLand, ?_⟩
    refine (g.2.of_eq (by rw [sl3]; exact a3.2) g.1.2.1.1 g.1.2.2.2.1.2 (fun j hj => e j (by omega))).congr (fun a a0 a1 => he a (by omega) (by omega))
