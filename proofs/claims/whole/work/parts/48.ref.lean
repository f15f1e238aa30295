section Lays
variable {A : Int → Int} {e k c o : Int}
theorem rLays_len (he : 0 ≤ e ∧ e < 6) (hk : 0 ≤ k ∧ k < 36) (hl : 0 ≤ A (60 + e) ∧ A (60 + e) < 16) {f : Int} (hf : 0 ≤ f ∧ f < 6) : rLays A e k c o (60 + f) = if f = e then A (60 + e) + 1 else A (60 + f) := by
  simp only [rLays]; repeat' split
  all_goals first | rfl | (exfalso; omega)
theorem rLays_yard (he : 0 ≤ e ∧ e < 6) (hk : 0 ≤ k ∧ k < 36) (hl : 0 ≤ A (60 + e) ∧ A (60 + e) < 16) {f : Int} (hf : 0 ≤ f ∧ f < 6) : rLays A e k c o (54 + f) = if f = e then A (54 + e) - c else A (54 + f) := by
  simp only [rLays]; repeat' split
  all_goals first | rfl | (exfalso; omega)
theorem rLays_lies (he : 0 ≤ e ∧ e < 6) (hk : 0 ≤ k ∧ k < 36) (hl : 0 ≤ A (60 + e) ∧ A (60 + e) < 16) {i : Int} (hi : 0 ≤ i ∧ i < 96) : rLays A e k c o (66 + i) = if i = 16 * e + A (60 + e) then k else A (66 + i) := by
  simp only [rLays]; repeat' split
  all_goals first | rfl | (exfalso; omega)
theorem rLays_took (he : 0 ≤ e ∧ e < 6) (hk : 0 ≤ k ∧ k < 36) (hl : 0 ≤ A (60 + e) ∧ A (60 + e) < 16) {i : Int} (hi : 0 ≤ i ∧ i < 96) : rLays A e k c o (162 + i) = if i = 16 * e + A (60 + e) then c else A (162 + i) := by
  simp only [rLays]; repeat' split
  all_goals first | rfl | (exfalso; omega)
theorem rLays_low (he : 0 ≤ e ∧ e < 6) (hk : 0 ≤ k ∧ k < 36) (hl : 0 ≤ A (60 + e) ∧ A (60 + e) < 16) {q : Int} (hq : 0 ≤ q ∧ q < 36) : rLays A e k c o (258 + q) = if q = k then (if o ≠ 0 ∨ A (294 + k) = -1 then A (294 + k) else e) else A (258 + q) := by
  simp only [rLays]; repeat' split
  all_goals first | rfl | (exfalso; omega)
theorem rLays_up (he : 0 ≤ e ∧ e < 6) (hk : 0 ≤ k ∧ k < 36) (hl : 0 ≤ A (60 + e) ∧ A (60 + e) < 16) {q : Int} (hq : 0 ≤ q ∧ q < 36) : rLays A e k c o (294 + q) = if q = k then (if o ≠ 0 ∨ A (294 + k) = -1 then e else A (294 + k)) else A (294 + q) := by
  simp only [rLays]; repeat' split
  all_goals first | rfl | (exfalso; omega)
theorem rLays_rest (he : 0 ≤ e ∧ e < 6) (hk : 0 ≤ k ∧ k < 36) (hl : 0 ≤ A (60 + e) ∧ A (60 + e) < 16) {j : Int} (hj : j < 54 ∨ 330 ≤ j) : rLays A e k c o j = A j := by
  simp only [rLays]; repeat' split
  all_goals first | rfl | (exfalso; omega)
end Lays
section Off
variable {A : Int → Int} {e k L : Int}
theorem rOff_len (he : 0 ≤ e ∧ e < 6) (hL : A (60 + e) = L) (hkk : A (66 + 16 * e + L - 1) = k) (hk : 0 ≤ k ∧ k < 36) (hl : 1 ≤ L ∧ L ≤ 16) {f : Int} (hf : 0 ≤ f ∧ f < 6) : rOff A e (60 + f) = if f = e then L - 1 else A (60 + f) := by
  simp only [rOff, hL, hkk]; repeat' split
  all_goals first | rfl | (exfalso; omega)
theorem rOff_yard (he : 0 ≤ e ∧ e < 6) (hL : A (60 + e) = L) (hkk : A (66 + 16 * e + L - 1) = k) (hk : 0 ≤ k ∧ k < 36) (hl : 1 ≤ L ∧ L ≤ 16) {f : Int} (hf : 0 ≤ f ∧ f < 6) : rOff A e (54 + f) = if f = e then A (54 + e) + A (162 + 16 * e + L - 1) else A (54 + f) := by
  simp only [rOff, hL, hkk]; repeat' split
  all_goals first | rfl | (exfalso; omega)
theorem rOff_lies (he : 0 ≤ e ∧ e < 6) (hL : A (60 + e) = L) (hkk : A (66 + 16 * e + L - 1) = k) (hk : 0 ≤ k ∧ k < 36) (hl : 1 ≤ L ∧ L ≤ 16) {i : Int} (hi : 0 ≤ i ∧ i < 96) : rOff A e (66 + i) = if i = 16 * e + L - 1 then 0 else A (66 + i) := by
  simp only [rOff, hL, hkk]; repeat' split
  all_goals first | rfl | (exfalso; omega)
theorem rOff_took (he : 0 ≤ e ∧ e < 6) (hL : A (60 + e) = L) (hkk : A (66 + 16 * e + L - 1) = k) (hk : 0 ≤ k ∧ k < 36) (hl : 1 ≤ L ∧ L ≤ 16) {i : Int} (hi : 0 ≤ i ∧ i < 96) : rOff A e (162 + i) = if i = 16 * e + L - 1 then 0 else A (162 + i) := by
  simp only [rOff, hL, hkk]; repeat' split
  all_goals first | rfl | (exfalso; omega)
theorem rOff_low (he : 0 ≤ e ∧ e < 6) (hL : A (60 + e) = L) (hkk : A (66 + 16 * e + L - 1) = k) (hk : 0 ≤ k ∧ k < 36) (hl : 1 ≤ L ∧ L ≤ 16) {q : Int} (hq : 0 ≤ q ∧ q < 36) : rOff A e (258 + q) = if q = k then -1 else A (258 + q) := by
  simp only [rOff, hL, hkk]; repeat' split
  all_goals first | rfl | (exfalso; omega)
theorem rOff_up (he : 0 ≤ e ∧ e < 6) (hL : A (60 + e) = L) (hkk : A (66 + 16 * e + L - 1) = k) (hk : 0 ≤ k ∧ k < 36) (hl : 1 ≤ L ∧ L ≤ 16) (hu : A (294 + k) = e) {q : Int} (hq : 0 ≤ q ∧ q < 36) : rOff A e (294 + q) = if q = k then A (258 + k) else A (294 + q) := by
  simp only [rOff, hL, hkk]
  rw [if_neg (by omega), if_neg (by omega)]
  by_cases z : q = k
  · rw [if_pos (by omega), if_pos hu, if_pos z]
  · rw [if_neg (by omega), if_neg (by omega), if_neg (by omega), if_neg (by omega), if_neg z]
theorem rOff_rest (he : 0 ≤ e ∧ e < 6) (hL : A (60 + e) = L) (hkk : A (66 + 16 * e + L - 1) = k) (hk : 0 ≤ k ∧ k < 36) (hl : 1 ≤ L ∧ L ≤ 16) {j : Int} (hj : j < 54 ∨ 330 ≤ j) : rOff A e j = A j := by
  simp only [rOff, hL, hkk]; repeat' split
  all_goals first | rfl | (exfalso; omega)
end Off
theorem rSum_congr {A B : Int → Int} {o : Int} : ∀ {n : Nat}, (∀ i : Nat, i < n → B (o + i) = A (o + i)) → rSum B o n = rSum A o n
  | 0, _ => rfl
  | n + 1, h => by rw [rSum, rSum, rSum_congr (fun i hi => h i (by omega)), h n (by omega)]
theorem lawHi_congr {c c' : Int → Int} (h : ∀ i : Nat, c' i = c i) : ∀ n, lawHi c' n = lawHi c n
  | 0 => rfl
  | n + 1 => by rw [lawHi, lawHi, h n, lawHi_congr h n]
theorem lawTy_congr {c c' : Int → Int} (h : ∀ i : Nat, c' i = c i) : ∀ n, lawTy c' n = lawTy c n
  | 0 => rfl
  | n + 1 => by rw [lawTy, lawTy, h n, lawHi_congr h n, lawTy_congr h n]
theorem lawSt_congr {c c' w : Int → Int} (h : ∀ i : Nat, c' i = c i) : ∀ n, lawSt c' w n = lawSt c w n
  | 0 => rfl
  | n + 1 => by rw [lawSt, lawSt, h n, lawSt_congr h n]
theorem lawOk_congr {c c' : Int → Int} (h : ∀ i : Nat, c' i = c i) {n : Nat} (hc : lawOk c n) : lawOk c' n := fun i hi => by
  rw [h i, lawHi_congr h, lawTy_congr h]; exact hc i hi
/-- what a land is hangs on its own numbers alone -/
theorem rLandOk.congr {A B : Int → Int} (h : rLandOk A) (he : ∀ j, (0 ≤ j ∧ j < 52) ∨ 3475 ≤ j → B j = A j) : rLandOk B := by
  have hc : ∀ l, l = 0 ∨ l = 1 → 0 ≤ A (6 + l) → ∀ i : Nat, rCode B l i = rCode A l i := fun l hl h0 i => by
    rw [rCode, rCode, he (6 + l) (by omega), he _ (by omega)]
  obtain ⟨h1, h2, h3, h4, h5, h6, h7⟩ := h
  refine ⟨by rw [he 1 (by omega)]; exact h1, by rw [he 2 (by omega)]; exact h2, by rw [he 3 (by omega)]; exact h3, fun l hl => ?_, fun h i hi => ?_, fun k k0 k1 => ?_, fun e e0 e1 => ?_⟩
  · rw [he (4 + l) (by omega)]
    rcases h4 l hl with z | ⟨z, ok⟩
    · exact Or.inl z
    · refine Or.inr ⟨z, ?_⟩
      unfold rLawOk
      rw [he (6 + l) (by omega), he (8 + l) (by omega), lawHi_congr (hc l hl ok.1)]
      exact ⟨ok.1, ok.2.1, ok.2.2.1, lawOk_congr (hc l hl ok.1) ok.2.2.2.1, ok.2.2.2.2⟩
  · rw [he 4 (by omega)] at h
    rw [he 8 (by omega)] at hi
    rcases h4 0 (Or.inl rfl) with z | ⟨z, ok⟩
    · have : A 4 = 0 := z
      omega
    · rw [hc 0 (Or.inl rfl) ok.1]; exact h5 h i hi
  · rw [he (10 + k) (by omega)]; exact h6 k k0 k1
  · rw [he 3 (by omega)] at e1
    rw [he (46 + e) (by omega), he 1 (by omega), he 2 (by omega)]; exact h7 e e0 e1
theorem rLays_ok {A : Int → Int} {e k c o : Int} (hL : rLandOk A) (hS : rStOk A) (he : 0 ≤ e ∧ e < A 3) (hk : 0 ≤ k ∧ k < A 1 * A 2) (ho : rOpen A e k) (hl : A (60 + e) ≠ 16) (hc : 1 ≤ c ∧ c ≤ 99) (hy : c ≤ A (54 + e)) : rStOk (rLays A e k c o) := by
  have a3 := hL.2.2.1
  have hcl := hL.cells
  have e6 : 0 ≤ e ∧ e < 6 := ⟨he.1, (by omega)⟩
  have k36 : 0 ≤ k ∧ k < 36 := ⟨hk.1, (by omega)⟩
  have l16 : 0 ≤ A (60 + e) ∧ A (60 + e) < 16 := by have := hS.2.1.1 e he.1 (by omega); omega
  have r := fun (j : Int) (hj : j < 54 ∨ 330 ≤ j) => rLays_rest (A := A) (e := e) (k := k) (c := c) (o := o) e6 k36 l16 hj
  obtain ⟨hw, ⟨hr1, hr2, hr3, hr4, hr5⟩, hcel, hg1, hg2, hg3⟩ := hS
  have kc := hcel k k36.1 k36.2
  have lo : A (258 + k) = -1 := by
    have h3 := ho.2.2.1
    rw [rLie] at h3
    by_cases z : A (258 + k) = -1
    · exact z
    · rw [if_neg (kc.2.2 z).1, if_neg z] at h3; exact absurd rfl h3
  have hup := ho.2.2.2
  refine ⟨by rw [r 52 (by omega)]; exact hw, ⟨fun f f0 f1 => ?_, fun f f0 f1 => ?_, fun i i0 i1 => ?_, fun f i f0 f1 i0 i1 => ?_, fun f i j f0 f1 i0 ij j1 => ?_⟩, fun q q0 q1 => ?_, ?_, fun t t0 t1 => ?_, fun t u t0 tu u1 q => ?_⟩
  · rw [rLays_len e6 k36 l16 ⟨f0, f1⟩]
    have := hr1 f f0 f1
    split <;> omega
  · rw [r 3 (by omega)] at f1
    have hh := hr2 f f0 f1
    rw [rLays_yard e6 k36 l16 ⟨f0, (by omega)⟩, rTook, rLays_len e6 k36 l16 ⟨f0, (by omega)⟩]
    by_cases z : f = e
    · subst z
      rw [if_pos rfl, if_pos rfl, show (A (60 + f) + 1).toNat = (A (60 + f)).toNat + 1 by omega, rSum, show ((A (60 + f)).toNat : Int) = A (60 + f) by omega]
      have s1 : rSum (rLays A f k c o) (162 + 16 * f) (A (60 + f)).toNat = rTook A f := rSum_congr (fun i hi => by
        rw [Int.add_assoc, rLays_took e6 k36 l16 (by omega), if_neg (by omega)])
      have s2 : rLays A f k c o (162 + 16 * f + A (60 + f)) = c := by rw [Int.add_assoc, rLays_took e6 k36 l16 (by omega), if_pos rfl]
      rw [s1, s2]; omega
    · rw [if_neg z, if_neg z]
      have hlf := hr1 f f0 (by omega)
      have s1 : rSum (rLays A e k c o) (162 + 16 * f) (A (60 + f)).toNat = rTook A f := rSum_congr (fun i hi => by
        rw [Int.add_assoc, rLays_took e6 k36 l16 (by omega), if_neg (by omega)])
      rw [s1]; exact hh
  · have := hr3 i i0 i1
    rw [rLays_lies e6 k36 l16 ⟨i0, i1⟩, rLays_took e6 k36 l16 ⟨i0, i1⟩, r 1 (by omega), r 2 (by omega)]
    split <;> omega
  · rw [rLays_len e6 k36 l16 ⟨f0, f1⟩] at i1
    have hlf := hr1 f f0 f1
    have hi : 16 * f + i < 96 := by split at i1 <;> omega
    rw [Int.add_assoc, rLays_lies e6 k36 l16 ⟨(by omega), hi⟩]
    by_cases z : 16 * f + i = 16 * e + A (60 + e)
    · have ef : f = e := by split at i1 <;> omega
      rw [if_pos z, rLays_up e6 k36 l16 k36, rLays_low e6 k36 l16 k36, if_pos rfl, if_pos rfl, ef]
      by_cases y : o ≠ 0 ∨ A (294 + k) = -1
      · rw [if_pos y]; exact Or.inl rfl
      · rw [if_neg y, if_neg y]; exact Or.inr rfl
    · rw [if_neg z]
      have i2 : i < A (60 + f) := by
        split at i1
        · rename_i y; subst y; omega
        · exact i1
      have old := hr4 f i f0 f1 i0 i2
      have rng := (hr3 (16 * f + i) (by omega) hi).1
      rw [Int.add_assoc] at old
      rw [rLays_up e6 k36 l16 ⟨rng.1, (by omega)⟩, rLays_low e6 k36 l16 ⟨rng.1, (by omega)⟩]
      by_cases y : A (66 + (16 * f + i)) = k
      · rw [if_pos y, if_pos y]
        rw [y, lo] at old
        have u : A (294 + k) = f := by omega
        by_cases w : o ≠ 0 ∨ A (294 + k) = -1
        · rw [if_pos w, if_pos w]; exact Or.inr u
        · rw [if_neg w, if_neg w]; exact Or.inl u
      · rw [if_neg y, if_neg y]; exact old
  · rw [rLays_len e6 k36 l16 ⟨f0, f1⟩] at j1
    have hlf := hr1 f f0 f1
    have hj : 16 * f + j < 96 := by split at j1 <;> omega
    rw [Int.add_assoc, Int.add_assoc, rLays_lies e6 k36 l16 ⟨(by omega), (by omega)⟩, rLays_lies e6 k36 l16 ⟨(by omega), hj⟩]
    have ni : 16 * f + i ≠ 16 * e + A (60 + e) := by split at j1 <;> omega
    rw [if_neg ni]
    by_cases z : 16 * f + j = 16 * e + A (60 + e)
    · have ef : f = e := by split at j1 <;> omega
      subst ef
      rw [if_pos z]
      intro y
      have old := hr4 f i f0 f1 i0 (by omega)
      rw [Int.add_assoc, y, lo] at old
      omega
    · rw [if_neg z, ← Int.add_assoc, ← Int.add_assoc]
      have j2 : j < A (60 + f) := by
        split at j1
        · rename_i y; subst y; omega
        · exact j1
      exact hr5 f i j f0 f1 i0 ij j2
  · rw [rLays_up e6 k36 l16 ⟨q0, q1⟩, rLays_low e6 k36 l16 ⟨q0, q1⟩, r 3 (by omega)]
    have hq := hcel q q0 q1
    by_cases z : q = k
    · rw [if_pos z, if_pos z]
      by_cases w : o ≠ 0 ∨ A (294 + k) = -1
      · rw [if_pos w, if_pos w]; exact ⟨(by omega), (by omega), fun _ => ⟨(by omega), fun y => hup y.symm⟩⟩
      · rw [if_neg w, if_neg w]; exact ⟨(by omega), (by omega), fun _ => ⟨fun y => w (Or.inr y), hup⟩⟩
    · rw [if_neg z, if_neg z]; exact hq
  · rw [r 330 (by omega)]; exact hg1
  · rw [r 330 (by omega)] at t1
    have g := hg2 t t0 t1
    rw [r (331 + t) (by omega), r (347 + t) (by omega), r (339 + t) (by omega), r 3 (by omega), rLays_len e6 k36 l16 (by omega)]
    refine ⟨g.1, g.2.1, g.2.2.1, fun z => ?_⟩
    have := g.2.2.2 z
    split
    · rename_i y; rw [y] at this; omega
    · exact this
  · rw [r 330 (by omega)] at u1
    have gt := hg2 t t0 (by omega)
    have gu := hg2 u (by omega) u1
    have same : ∀ s, 0 ≤ s → s < A 330 → (rOn (rLays A e k c o) q s ↔ rOn A q s) := by
      intro s s0 s1
      have g := hg2 s s0 s1
      unfold rOn
      rw [r (331 + s) (by omega), r (347 + s) (by omega), r (339 + s) (by omega)]
      refine ⟨fun h => ⟨h.1, h.2.1, ?_⟩, fun h => ⟨h.1, h.2.1, ?_⟩⟩
      · have h3 := h.2.2
        have al := g.2.2.2 h.1
        have hlf := hr1 (A (331 + s)) (by omega) (by omega)
        rw [Int.add_assoc, rLays_lies e6 k36 l16 (by omega), if_neg, ← Int.add_assoc] at h3
        · exact h3
        · intro y
          have : A (331 + s) = e := by omega
          rw [this] at al y; omega
      · have h3 := h.2.2
        have al := g.2.2.2 h.1
        have hlf := hr1 (A (331 + s)) (by omega) (by omega)
        rw [Int.add_assoc, rLays_lies e6 k36 l16 (by omega), if_neg, ← Int.add_assoc]
        · exact h3
        · intro y
          have : A (331 + s) = e := by omega
          rw [this] at al y; omega
    rw [same t t0 (by omega), same u (by omega) u1]
    exact hg3 t u t0 tu u1 q
