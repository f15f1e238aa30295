/-- a land of the class's is the reference's -/
def cLand (A : Int → Int) (b : Int) (M : QMem) : Prop := (M b 0 = A 1 ∧ M b 1 = A 2 ∧ M b 2 = A 3 ∧ M b 3 = rSum A 10 (A 1 * A 2).toNat ∧ M b 4 = A 0) ∧ (∀ k, 0 ≤ k → k < 36 → (A (10 + k) = 1 → M (b + 1) k = 1) ∧ (A (10 + k) ≠ 1 → (rHome A k → M (b + 1) k = 2) ∧ (¬ rHome A k → M (b + 1) k = 0))) ∧ (∀ e, 0 ≤ e → e < A 3 → M (b + 2) e = A (46 + e)) ∧ (∀ l, l = 0 ∨ l = 1 → (A (4 + l) = 0 → M (b + 4 + 3 * l) 2 = 0) ∧ (A (4 + l) = 1 → M (b + 4 + 3 * l) 2 = A (8 + l) ∧ ∀ i : Nat, (i : Int) < A (8 + l) → M (b + 4 + 3 * l + 1) i = cCode (rCode A l i)))
/-- a state of the class's is the reference's -/
def cSt (A : Int → Int) (b : Int) (M : QMem) : Prop := (∀ e, 0 ≤ e → e < 6 → M (b + 1) e = A (60 + e)) ∧ (∀ e, 0 ≤ e → e < A 3 → M (b + 2) e = A (54 + e)) ∧ (∀ e i, 0 ≤ e → e < 6 → 0 ≤ i → i < A (60 + e) → M (b + 3) (16 * e + i) = A (66 + 16 * e + i) ∧ M (b + 4) (16 * e + i) = A (162 + 16 * e + i)) ∧ (∀ k, 0 ≤ k → k < 36 → M (b + 5) k = A (294 + k) ∧ M (b + 6) k = A (258 + k)) ∧ (∀ t, 0 ≤ t → t < A 330 → M (b + 7) t = A (331 + t) ∧ M (b + 8) t = (if A (347 + t) = 1 then -2 else A (339 + t)) ∧ M (b + 9) t = A (355 + t)) ∧ M b 6 = A 330 ∧ M b 10 = A 52 ∧ M b 11 = A 53
theorem cLand.congr {A : Int → Int} {b : Int} {M M1 : QMem} (h : cLand A b M) (he : ∀ a, a = b ∨ a = b + 1 ∨ a = b + 2 ∨ a = b + 4 ∨ a = b + 5 ∨ a = b + 7 ∨ a = b + 8 → M1 a = M a) : cLand A b M1 := by
  refine ⟨?_, fun k k0 k1 => ?_, fun e e0 e1 => ?_, fun l hl => ?_⟩
  · rw [he b (by omega)]; exact h.1
  · rw [he (b + 1) (by omega)]; exact h.2.1 k k0 k1
  · rw [he (b + 2) (by omega)]; exact h.2.2.1 e e0 e1
  · rw [he (b + 4 + 3 * l) (by omega), he (b + 4 + 3 * l + 1) (by omega)]; exact h.2.2.2 l hl
theorem cSt.congr {A : Int → Int} {b : Int} {M M1 : QMem} (h : cSt A b M) (he : ∀ a, b ≤ a → a ≤ b + 9 → M1 a = M a) : cSt A b M1 := by
  unfold cSt
  rw [he b (by omega) (by omega), he (b + 1) (by omega) (by omega), he (b + 2) (by omega) (by omega), he (b + 3) (by omega) (by omega), he (b + 4) (by omega) (by omega), he (b + 5) (by omega) (by omega), he (b + 6) (by omega) (by omega), he (b + 7) (by omega) (by omega), he (b + 8) (by omega) (by omega), he (b + 9) (by omega) (by omega)]
  exact h
def cOk (A : Int → Int) (b : Int) (M : QMem) : Prop := rLandOk A ∧ rStOk A ∧ cLand A 17 M ∧ cSt A b M
theorem cOk.keep {A : Int → Int} {b : Int} {M M1 : QMem} (hb : b = 27 ∨ b = 37) (h : cOk A b M) (hk : lK M M1) : cOk A b M1 := ⟨h.1, h.2.1, h.2.2.1.congr (fun a ha => hk a (by omega) (by omega) (by omega) (by omega)), h.2.2.2.congr (fun a a0 a1 => hk a (by omega) (by omega) (by omega) (by omega))⟩
section Cls51
variable {X : QX} {x : Int} {d : Nat} {post : Int → QMem → Prop} {M : QMem}
theorem c_cells {b : Int} (hb : b = 17 ∨ b = 3) (h : 0 ≤ M b 0 * M b 1 ∧ M b 0 * M b 1 ≤ 36) (hp : post (M b 0 * M b 1) M) : QCm X x (d + 1) 1 yX1_cells [(2, b)] M post :=
  QC.of qmX1_cells_ok rfl (TX1_cells_0 hb (j_min (i32 (by omega) (by omega)) (i32 (by omega) (by omega)) (fun z => absurd z (by omega)) (fun _ => hp)))
theorem c_hasCell {b k : Int} (hb : b = 17 ∨ b = 3) (hk : in32 k) (h : 0 ≤ M b 0 * M b 1 ∧ M b 0 * M b 1 ≤ 36) (ht : 0 ≤ k ∧ k < M b 0 * M b 1 → post 1 M) (hf : ¬ (0 ≤ k ∧ k < M b 0 * M b 1) → post 0 M) : QCm X x (d + 2) 1 yX1_hasCell [(2, b), (0, k)] M post :=
  QC.of qmX1_hasCell_ok rfl (TX1_hasCell_0 hb ⟨hk, fun a => hf (by omega), fun a => c_cells hb h ⟨(i32 (by omega) (by omega)), fun z => hf (by omega), fun z => ht (by omega)⟩⟩)
theorem c_hasDrum {v : Int} (hv : in32 v) (h : 0 ≤ M 17 2 ∧ M 17 2 ≤ 6) (ht : 0 ≤ v ∧ v < M 17 2 → post 1 M) (hf : ¬ (0 ≤ v ∧ v < M 17 2) → post 0 M) : QCm X x d 1 yX1_hasDrum [(2, 17), (0, v)] M post :=
  QC.of qmX1_hasDrum_ok rfl (TX1_hasDrum_0 ⟨hv, fun a => hf (by omega), fun a => ⟨(i32 (by omega) (by omega)), fun z => hf (by omega), fun z => ⟨fun y => absurd y (by omega), fun _ => ht (by omega)⟩⟩⟩)
theorem c_column {k : Int} (hk : in32 k) (h : 2 ≤ M 17 0 ∧ M 17 0 ≤ 6) (hp : post (k.tmod (M 17 0)) M) : QCm X x d 1 yX1_column [(2, 17), (0, k)] M post :=
  QC.of qmX1_column_ok rfl (TX1_column_0 ⟨(i32 (by omega) (by omega)), fun _ => ⟨hk, (by omega), hp⟩, fun z => absurd (show 1 ≤ M 17 0 by omega) z⟩)
theorem c_row {k : Int} (hk : in32 k) (h : 2 ≤ M 17 0 ∧ M 17 0 ≤ 6) (hp : post (k.tdiv (M 17 0)) M) : QCm X x d 1 yX1_row [(2, 17), (0, k)] M post :=
  QC.of qmX1_row_ok rfl (TX1_row_0 ⟨(i32 (by omega) (by omega)), fun _ => ⟨hk, (by omega), hp⟩, fun z => absurd (show 1 ≤ M 17 0 by omega) z⟩)
theorem c_beside {A : Int → Int} (hL : rLandOk A) (hC : cLand A 17 M) {k t : Int} (hk : 0 ≤ k ∧ k < A 1 * A 2) (ht : 1 ≤ t ∧ t ≤ 4) (hp : post (rBeside A k t) M) : QCm X x (d + 1) 1 yX1_beside [(2, 17), (0, k), (0, t)] M post := by
  have hcl := hL.cells
  have a1 := hL.1
  have a2 := hL.2.1
  obtain ⟨⟨c0, c1, _⟩, _⟩ := hC
  have b1 := td_b (k := k) (w := A 1) hk.1 (by omega)
  have b2 := tm_b (k := k) (w := A 1) hk.1 (by omega)
  have hw : 2 ≤ M 17 0 ∧ M 17 0 ≤ 6 := by rw [c0]; exact a1
  refine QC.of qmX1_beside_ok rfl (TX1_beside_0 ⟨(i32 (by omega) (by omega)), fun z => c_row (i32 (by omega) (by omega)) hw ?_, fun z => c_column (i32 (by omega) (by omega)) hw ?_, fun z => c_row (i32 (by omega) (by omega)) hw ?_, fun z => c_column (i32 (by omega) (by omega)) hw ?_, fun z => absurd z (by omega)⟩)
  all_goals rw [rBeside] at hp
  all_goals rw [c0]
  · rw [if_pos z] at hp
    refine ⟨(i32 (by omega) (by omega)), fun y => ?_, fun y => ?_⟩
    · rw [if_pos (by omega)] at hp; exact hp
    · rw [if_neg (by omega)] at hp; exact hp
  · rw [if_neg (by omega), if_pos z] at hp
    refine ⟨(i32 (by omega) (by omega)), (i32 (by omega) (by omega)), fun y => ?_, fun y => ?_⟩
    · rw [if_pos (by omega)] at hp; exact hp
    · rw [if_neg (by omega)] at hp; exact hp
  · rw [if_neg (by omega), if_neg (by omega), if_pos z] at hp
    rw [c1]
    have b4 : k.tdiv (A 1) < A 2 := by
      by_cases h : k.tdiv (A 1) < A 2
      · exact h
      · have := Int.mul_le_mul_of_nonneg_left (show A 2 ≤ k.tdiv (A 1) by omega) (show 0 ≤ A 1 by omega)
        have b3 := tdm (k := k) (w := A 1)
        omega
    refine ⟨(i32 (by omega) (by omega)), (i32 (by omega) (by omega)), fun y => ?_, fun y => ?_⟩
    · rw [if_pos (by omega)] at hp; exact hp
    · rw [if_neg (by omega)] at hp; exact hp
  · rw [if_neg (by omega), if_neg (by omega), if_neg (by omega)] at hp
    refine ⟨(i32 (by omega) (by omega)), fun y => ?_, fun y => ?_⟩
    · rw [if_pos (by omega)] at hp; exact hp
    · rw [if_neg (by omega)] at hp; exact hp
theorem c_isTold {b : Int} (hb : b = 21 ∨ b = 24) (h : 0 ≤ M b 2 ∧ M b 2 ≤ 900) (ht : 0 < M b 2 → post 1 M) (hf : M b 2 = 0 → post 0 M) : QCm X x d 1 yX2_isTold [(2, b)] M post :=
  QC.of qmX2_isTold_ok rfl (TX2_isTold_0 hb ⟨(i32 (by omega) (by omega)), fun z => hf (by omega), fun z => ht (by omega)⟩)
theorem c_told {A : Int → Int} (hL : rLandOk A) (hC : cLand A 17 M) {l : Int} (hl : l = 0 ∨ l = 1) (ht : A (4 + l) = 1 → 0 < M (21 + 3 * l) 2 → post 1 M) (hf : A (4 + l) = 0 → post 0 M) : QCm X x d 1 yX2_isTold [(2, 21 + 3 * l)] M post := by
  have hc := hC.2.2.2 l hl
  have e : (17 : Int) + 4 + 3 * l = 21 + 3 * l := by omega
  rw [e] at hc
  rcases hL.2.2.2.1 l hl with z | ⟨z, ok⟩
  · have := hc.1 z
    exact c_isTold (by omega) (by omega) (fun y => absurd y (by omega)) (fun _ => hf z)
  · have := (hc.2 z).1
    have := ok.2.1
    have := ok.2.2.1
    have := ok.1
    exact c_isTold (by omega) (by omega) (fun y => ht z y) (fun y => absurd y (by omega))
theorem c_yardsFor {A : Int → Int} (hL : rLandOk A) (hw : 0 ≤ A 52 ∧ A 52 ≤ 9) (hC : cLand A 17 M) {e k : Int} (hk : 0 ≤ k ∧ k < 36) (he : 0 ≤ e ∧ e < 6) (hp : ∀ M1, lK M M1 → post (rCost A e k) M1) : QCm X x (d + 2) 1 yX1_yardsFor [(2, 17), (0, e), (0, k), (0, A 52)] M post := by
  have a1 := hL.1
  have hw0 : 2 ≤ M 17 0 ∧ M 17 0 ≤ 6 := by rw [hC.1.1]; exact a1
  refine QC.of qmX1_yardsFor_ok rfl (TX1_yardsFor_0 ?_)
  refine c_told (l := 0) hL hC (Or.inl rfl) (fun a a' => ⟨fun z => absurd z (by decide), fun _ => ⟨(i32 (by omega) (by omega)), c_column (i32 (by omega) (by omega)) hw0 (c_row (i32 (by omega) (by omega)) hw0 ?_)⟩⟩) (fun a => ⟨fun _ => ?_, fun z => absurd rfl z⟩)
  · have a0 : A 4 = 1 := a
    rcases hL.2.2.2.1 0 (Or.inl rfl) with z | ⟨_, ok⟩
    · exact absurd z (by omega)
    have hc := (hC.2.2.2 0 (Or.inl rfl)).2 a
    have o2 := ok.2.1
    have o3 := ok.2.2.1
    have o1 := ok.1
    have g8 : (8 : Int) + 0 = 8 := rfl
    have hn : ((A 8).toNat : Int) = A 8 := Int.toNat_of_nonneg (by rw [g8] at o2; omega)
    refine c_value (b := 21) (n := (A 8).toNat) (c := rCode A 0) (w := rWord A e k) (Or.inl rfl) ?_ ?_ (fun i hi => hc.2 i ?_) ok.2.2.2.1 ok.2.2.2.2 (rWord_b hk a1 hw he) ⟨?_, ?_, rfl, rfl⟩ (Or.inr (fun i hi => hL.2.2.2.2.1 a0 i ?_)) (fun M1 h1 => ?_)
    · rw [hn]; exact hc.1
    · rw [g8] at o2 o3; omega
    · rw [g8]; omega
    · rw [hC.1.1]; rfl
    · rw [hC.1.1]; rfl
    · omega
    · have hb := rLaw_b hL hw (Or.inl rfl) (show A (4 + 0) ≠ 0 by rw [show (4 : Int) + 0 = 4 from rfl]; omega) hk he
      have hb2 := hb.2
      have hb1 := hb.1
      have h := hp M1 (fun a q1 q2 q3 q4 => h1 a (by omega))
      rw [rCost, if_neg (by omega)] at h
      have hv : (lawSt (rCode A 0) (rWord A e k) (A 8).toNat).1 0 = rLaw A 0 e k := rfl
      rw [hv]
      refine j_min ⟨by decide, by decide⟩ hb (fun p => j_max ⟨by decide, by decide⟩ hb (fun q => ?_) (fun q => ?_)) (fun p => j_max ⟨by decide, by decide⟩ ⟨by decide, by decide⟩ (fun q => ?_) (fun q => absurd (by decide) q))
      · rw [if_neg (by omega), if_neg (by omega)] at h; exact h
      · by_cases y : rLaw A 0 e k < 1
        · rw [if_pos y] at h; exact h
        · rw [if_neg y, if_neg (by omega), show rLaw A 0 e k = 1 by omega] at h; exact h
      · rw [if_neg (by omega)] at h
        by_cases y : 99 < rLaw A 0 e k
        · rw [if_pos y] at h; exact h
        · rw [if_neg y, show rLaw A 0 e k = 99 by omega] at h; exact h
  · have h := hp M (lK.refl M); rw [rCost, if_pos (show A 4 = 0 from a)] at h; exact h
theorem c_mayLie {A : Int → Int} (hL : rLandOk A) (hw : 0 ≤ A 52 ∧ A 52 ≤ 9) (hC : cLand A 17 M) {e k : Int} (hk : 0 ≤ k ∧ k < 36) (he : 0 ≤ e ∧ e < 6) (ht : rLets A e k → ∀ M1, lK M M1 → post 1 M1) (hf : ¬ rLets A e k → ∀ M1, lK M M1 → post 0 M1) : QCm X x (d + 2) 1 yX1_mayLie [(2, 17), (0, e), (0, k), (0, A 52), (0, rLie A k)] M post := by
  have a1 := hL.1
  have hw0 : 2 ≤ M 17 0 ∧ M 17 0 ≤ 6 := by rw [hC.1.1]; exact a1
  refine QC.of qmX1_mayLie_ok rfl (TX1_mayLie_0 ?_)
  refine c_told (l := 1) hL hC (Or.inr rfl) (fun a a' => ⟨fun z => absurd z (by decide), fun _ => ⟨(i32 (by omega) (by omega)), c_column (i32 (by omega) (by omega)) hw0 (c_row (i32 (by omega) (by omega)) hw0 ?_)⟩⟩) (fun a => ⟨fun _ => ht (Or.inl a) M (lK.refl M), fun z => absurd rfl z⟩)
  have a0 : A 5 = 1 := a
  rcases hL.2.2.2.1 1 (Or.inr rfl) with z | ⟨_, ok⟩
  · exact absurd z (show ¬ A 5 = 0 by omega)
  have hc := (hC.2.2.2 1 (Or.inr rfl)).2 a
  have o2 : 1 ≤ A 9 := ok.2.1
  have o3 : A 7 + A 9 ≤ 900 := ok.2.2.1
  have o1 : 0 ≤ A 7 := ok.1
  have hn : ((A 9).toNat : Int) = A 9 := Int.toNat_of_nonneg (by omega)
  refine c_value (b := 24) (n := (A 9).toNat) (c := rCode A 1) (w := rWord A e k) (Or.inr rfl) ?_ (by omega) (fun i hi => hc.2 i (show (i : Int) < A 9 by omega)) ok.2.2.2.1 ok.2.2.2.2 (rWord_b hk a1 hw he) ⟨?_, ?_, rfl, rfl⟩ (Or.inl rfl) (fun M1 h1 => ?_)
  · rw [hn]; exact hc.1
  · rw [hC.1.1]; rfl
  · rw [hC.1.1]; rfl
  · have hb := rLaw_b hL hw (Or.inr rfl) (show A 5 ≠ 0 by omega) hk he
    refine ⟨fun y => ht (Or.inr y) M1 (fun a q1 q2 q3 q4 => h1 a (by omega)), fun y => ⟨hb, hf (fun z => z.elim (fun z => by omega) y) M1 (fun a q1 q2 q3 q4 => h1 a (by omega))⟩⟩
theorem c_lying {A : Int → Int} {b : Int} (hb : b = 27 ∨ b = 37) (hS : rStOk A) (h3 : A 3 ≤ 6) (hC : cSt A b M) {k : Int} (hk : 0 ≤ k ∧ k < 36) (hp : post (rLie A k) M) : QCm X x d 1 yX6_lying [(2, b), (0, k)] M post := by
  have hc := hS.2.2.1 k hk.1 hk.2
  have hu := hC.2.2.2.1 k hk.1 hk.2
  refine QC.of qmX6_lying_ok rfl (TX6_lying_0 hb ?_)
  rw [hu.1, hu.2]
  refine ⟨(by omega), (by omega), fun a => ?_, fun a => ⟨(i32 (by omega) (by omega)), fun c => ?_, fun c => ⟨(i32 (by omega) (by omega)), ?_⟩⟩⟩
  · rw [rLie, if_pos a] at hp; exact hp
  · rw [rLie, if_neg a, if_pos c] at hp; exact hp
  · rw [rLie, if_neg a, if_neg c] at hp; exact hp
theorem c_cellOf {A : Int → Int} {b : Int} (hb : b = 27 ∨ b = 37) (hS : rRib A) (hC : cSt A b M) {e i : Int} (he : 0 ≤ e ∧ e < 6) (hi : in32 i) (h1 : 0 ≤ i ∧ i < A (60 + e) → post (A (66 + 16 * e + i)) M) (h2 : ¬ (0 ≤ i ∧ i < A (60 + e)) → post (-1) M) : QCm X x d 1 yX6_cellOf [(2, b), (0, e), (0, i)] M post := by
  have hl := hS.1 e he.1 he.2
  refine QC.of qmX6_cellOf_ok rfl (TX6_cellOf_0 hb ?_)
  rw [hC.1 e he.1 he.2]
  refine ⟨hi, fun a => h2 (by omega), fun a => ⟨(by omega), (by omega), (i32 (by omega) (by omega)), fun c => h2 (by omega), fun c => ⟨fun z => absurd z (by omega), fun _ => ⟨(by omega), (by omega), ?_⟩⟩⟩⟩
  rw [Int.mul_comm e 16, (hC.2.2.1 e i he.1 he.2 (by omega) (by omega)).1]; exact h1 (by omega)
theorem c_endOf {A : Int → Int} {b : Int} (hb : b = 27 ∨ b = 37) (hL : rLandOk A) (hS : rRib A) (hC : cLand A 17 M) (hD : cSt A b M) {e : Int} (he : 0 ≤ e ∧ e < A 3) (hp : post (rEnd A e) M) : QCm X x (d + 1) 1 yX6_endOf [(2, b), (2, 17), (0, e)] M post := by
  have a3 := hL.2.2.1
  have hl := hS.1 e he.1 (by omega)
  refine QC.of qmX6_endOf_ok rfl (TX6_endOf_0 hb ?_)
  rw [hD.1 e he.1 (by omega), show M 19 e = A (46 + e) from hC.2.2.1 e he.1 he.2]
  refine ⟨(by omega), (by omega), (i32 (by omega) (by omega)), fun a => ?_, fun a => c_cellOf hb hS hD (by omega) (i32 (by omega) (by omega)) (fun z => ?_) (fun z => absurd (show 0 ≤ A (60 + e) - 1 ∧ A (60 + e) - 1 < A (60 + e) by omega) z)⟩
  · rw [rEnd, if_pos (by omega)] at hp; exact hp
  · rw [rEnd, if_neg (by omega)] at hp
    rw [show 66 + 16 * e + (A (60 + e) - 1) = 66 + 16 * e + A (60 + e) - 1 by omega]; exact hp
end Cls51
