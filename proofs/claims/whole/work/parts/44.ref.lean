/-- the land is as a text that was read tells it -/
def rLandOk (A : Int → Int) : Prop := (2 ≤ A 1 ∧ A 1 ≤ 6) ∧ (2 ≤ A 2 ∧ A 2 ≤ 6) ∧ (0 ≤ A 3 ∧ A 3 ≤ 6) ∧ (∀ l, l = 0 ∨ l = 1 → A (4 + l) = 0 ∨ (A (4 + l) = 1 ∧ rLawOk A l)) ∧ (A 4 = 1 → ∀ i : Nat, (i : Int) < A 8 → rCode A 0 i ≠ 1004) ∧ (∀ k, 0 ≤ k → k < 36 → A (10 + k) = 0 ∨ A (10 + k) = 1) ∧ (∀ e, 0 ≤ e → e < A 3 → 0 ≤ A (46 + e) ∧ A (46 + e) < A 1 * A 2)
/-- how many yards the first n cells of a ribbon took -/
def rSum (A : Int → Int) (o : Int) : Nat → Int
  | 0 => 0
  | n + 1 => rSum A o n + A (o + n)
def rTook (A : Int → Int) (e : Int) : Int := rSum A (162 + 16 * e) (A (60 + e)).toNat
/-- ribbons and travellers are as deeds leave them -/
def rRib (A : Int → Int) : Prop := (∀ e, 0 ≤ e → e < 6 → 0 ≤ A (60 + e) ∧ A (60 + e) ≤ 16) ∧ (∀ e, 0 ≤ e → e < A 3 → 0 ≤ A (54 + e) ∧ A (54 + e) + rTook A e ≤ 999) ∧ (∀ i, 0 ≤ i → i < 96 → (0 ≤ A (66 + i) ∧ A (66 + i) < A 1 * A 2) ∧ 0 ≤ A (162 + i) ∧ A (162 + i) ≤ 99) ∧ (∀ e i, 0 ≤ e → e < 6 → 0 ≤ i → i < A (60 + e) → A (294 + A (66 + 16 * e + i)) = e ∨ A (258 + A (66 + 16 * e + i)) = e) ∧ (∀ e i j, 0 ≤ e → e < 6 → 0 ≤ i → i < j → j < A (60 + e) → A (66 + 16 * e + i) ≠ A (66 + 16 * e + j))
def rCel (A : Int → Int) : Prop := ∀ k, 0 ≤ k → k < 36 → (-1 ≤ A (294 + k) ∧ A (294 + k) < A 3) ∧ (-1 ≤ A (258 + k) ∧ A (258 + k) < A 3) ∧ (A (258 + k) ≠ -1 → A (294 + k) ≠ -1 ∧ A (294 + k) ≠ A (258 + k))
def rGo (A : Int → Int) : Prop := (0 ≤ A 330 ∧ A 330 ≤ 8) ∧ (∀ t, 0 ≤ t → t < A 330 → (0 ≤ A (331 + t) ∧ A (331 + t) < A 3) ∧ (A (347 + t) = 0 ∨ A (347 + t) = 1) ∧ (-1 ≤ A (339 + t) ∧ A (339 + t) < 16) ∧ (A (347 + t) = 0 → A (339 + t) < A (60 + A (331 + t)))) ∧ (∀ t u, 0 ≤ t → t < u → u < A 330 → ∀ k, rOn A k t → ¬ rOn A k u)
def rStOk (A : Int → Int) : Prop := (0 ≤ A 52 ∧ A 52 ≤ 9) ∧ rRib A ∧ rCel A ∧ rGo A
theorem rSt_zero {A : Int → Int} (h : 2 ≤ A 1 ∧ A 1 ≤ 6) (h' : 2 ≤ A 2 ∧ A 2 ≤ 6) : 4 ≤ A 1 * A 2 ∧ A 1 * A 2 ≤ 36 := by
  have a := Int.mul_le_mul h.1 h'.1 (by decide) (by omega)
  have b := Int.mul_le_mul h.2 h'.2 (by omega) (by decide)
  exact ⟨by omega, by omega⟩
theorem rLandOk.cells {A : Int → Int} (h : rLandOk A) : 4 ≤ A 1 * A 2 ∧ A 1 * A 2 ≤ 36 := rSt_zero h.1 h.2.1
theorem rSum_nonneg {A : Int → Int} {o : Int} : ∀ n : Nat, (∀ i : Nat, i < n → 0 ≤ A (o + i)) → 0 ≤ rSum A o n
  | 0, _ => by rw [rSum]; omega
  | n + 1, h => by
    have := rSum_nonneg n (fun i hi => h i (by omega))
    have := h n (by omega)
    rw [rSum]; omega
theorem rRib.took {A : Int → Int} (h : rRib A) {e : Int} (e0 : 0 ≤ e) (e1 : e < 6) : 0 ≤ rTook A e := by
  refine rSum_nonneg _ (fun i hi => ?_)
  have := h.1 e e0 e1
  have := (h.2.2.1 (16 * e + i) (by omega) (by omega)).2.1
  rw [← Int.add_assoc] at this; exact this
theorem rEnd_b {A : Int → Int} (hL : rLandOk A) (hR : rRib A) {e : Int} (e0 : 0 ≤ e) (e1 : e < A 3) : 0 ≤ rEnd A e ∧ rEnd A e < A 1 * A 2 := by
  have a1 := hL.2.2.1
  have a2 := hR.1 e e0 (by omega)
  rw [rEnd]
  split
  · exact hL.2.2.2.2.2.2 e e0 e1
  · have := (hR.2.2.1 (16 * e + A (60 + e) - 1) (by omega) (by omega)).1
    rw [show 66 + (16 * e + A (60 + e) - 1) = 66 + 16 * e + A (60 + e) - 1 by omega] at this; exact this
theorem tdm {k w : Int} : w * k.tdiv w + k.tmod w = k := Int.mul_tdiv_add_tmod k w
theorem rBeside_b {A : Int → Int} (hL : rLandOk A) {k t : Int} (hk : 0 ≤ k ∧ k < A 1 * A 2) : -1 ≤ rBeside A k t ∧ rBeside A k t < A 1 * A 2 := by
  have a1 := hL.1
  have a2 := hL.2.1
  have b1 := td_b (k := k) (w := A 1) hk.1 (by omega)
  have b2 := tm_b (k := k) (w := A 1) hk.1 (by omega)
  have b3 := tdm (k := k) (w := A 1)
  have b4 : k.tdiv (A 1) < A 2 := by
    by_cases h : k.tdiv (A 1) < A 2
    · exact h
    · have := Int.mul_le_mul_of_nonneg_left (show A 2 ≤ k.tdiv (A 1) by omega) (show 0 ≤ A 1 by omega)
      omega
  have b5 : k.tdiv (A 1) ≠ 0 → A 1 ≤ A 1 * k.tdiv (A 1) := fun h => by
    have := Int.mul_le_mul_of_nonneg_left (show 1 ≤ k.tdiv (A 1) by omega) (show 0 ≤ A 1 by omega)
    omega
  have b6 : k.tdiv (A 1) ≠ A 2 - 1 → A 1 * k.tdiv (A 1) + A 1 ≤ A 1 * A 2 - A 1 := fun h => by
    have := Int.mul_le_mul_of_nonneg_left (show k.tdiv (A 1) + 1 ≤ A 2 - 1 by omega) (show 0 ≤ A 1 by omega)
    rw [Int.mul_add, Int.mul_sub] at this
    omega
  have b7 : A 1 * k.tdiv (A 1) + A 1 ≤ A 1 * A 2 := by
    have := Int.mul_le_mul_of_nonneg_left (show k.tdiv (A 1) + 1 ≤ A 2 by omega) (show 0 ≤ A 1 by omega)
    rw [Int.mul_add] at this
    omega
  rw [rBeside]
  repeat' split
  all_goals (try omega)
/-- what a cell takes -/
def rCost (A : Int → Int) (e k : Int) : Int := if A 4 = 0 then 1 else if rLaw A 0 e k < 1 then 1 else if 99 < rLaw A 0 e k then 99 else rLaw A 0 e k
def rLets (A : Int → Int) (e k : Int) : Prop := A 5 = 0 ∨ rLaw A 1 e k = 1
def rOpen (A : Int → Int) (e k : Int) : Prop := A (10 + k) ≠ 1 ∧ ¬ rHome A k ∧ rLie A k ≠ 2 ∧ A (294 + k) ≠ e
theorem rCost_b (A : Int → Int) (e k : Int) : 1 ≤ rCost A e k ∧ rCost A e k ≤ 99 := by
  rw [rCost]
  repeat' split
  all_goals omega
/-- but for the rows where laws are reckoned, all is as it was -/
def lK (M M1 : QMem) : Prop := ∀ a, a ≠ 220 → a ≠ 221 → a ≠ 23 → a ≠ 26 → M1 a = M a
theorem lK.refl (M : QMem) : lK M M := fun _ _ _ _ _ => rfl
theorem lK.trans {M M1 M2 : QMem} (h : lK M M1) (h2 : lK M1 M2) : lK M M2 := fun a a1 a2 a3 a4 => (h2 a a1 a2 a3 a4).trans (h a a1 a2 a3 a4)
theorem rLaw_b {A : Int → Int} (hL : rLandOk A) (hw : 0 ≤ A 52 ∧ A 52 ≤ 9) {l e k : Int} (hl : l = 0 ∨ l = 1) (ht : A (4 + l) ≠ 0) (hk : 0 ≤ k ∧ k < 36) (he : 0 ≤ e ∧ e < 6) : in32 (rLaw A l e k) := by
  rcases hL.2.2.2.1 l hl with z | ⟨_, z⟩
  · exact absurd z ht
  have := (lawSt_b z.2.2.2.1 (rWord_b hk hL.1 hw he) _ (Nat.le_refl _) 0 (by omega) (by rw [z.2.2.2.2]; omega)).2
  exact i32 (by rw [rLaw]; omega) (by rw [rLaw]; omega)
section Ref44
variable {X : QX} {x : Int} {d : Nat} {post : Int → QMem → Prop} {M : QMem}
theorem m_costOf (hL : rLandOk (M 216)) (hS : rStOk (M 216)) {e k : Int} (hk : 0 ≤ k ∧ k < 36) (he : 0 ≤ e ∧ e < 6) (hp : ∀ M1, lK M M1 → post (rCost (M 216) e k) M1) : QCm X x (d + 2) 1 yX11_costOf [(2, 215), (0, e), (0, k)] M post := by
  have hc := hS.2.2.1 k hk.1 hk.2
  have a3 := hL.2.2.1
  refine QC.of qmX11_costOf_ok rfl (TX11_costOf_0 ⟨fun a => ?_, fun a => ⟨?_, ?_⟩⟩)
  · have := hp M (lK.refl M); rw [rCost, if_pos a] at this; exact this
  · rcases hL.2.2.2.1 0 (Or.inl rfl) with z | z
    · exact absurd z a
    · exact i32 (by have := z.1; simp only [Int.add_zero] at this; omega) (by have := z.1; simp only [Int.add_zero] at this; omega)
  · rcases hL.2.2.2.1 0 (Or.inl rfl) with z | ⟨_, z⟩
    · exact absurd z a
    refine m_reckons (Or.inl rfl) hk hL.1 hS.1 he (i32 (by omega) (by omega)) (i32 (by omega) (by omega)) z (fun M1 h1 => ?_)
    have h := hp M1 (fun b b1 b2 _ _ => h1 b b1 b2)
    rw [rCost, if_neg a] at h
    refine ⟨rLaw_b hL hS.1 (Or.inl rfl) a hk he, fun b => ⟨fun c => ?_, fun c => ?_⟩, fun b => ?_⟩
    · rw [if_neg (by omega), if_neg (by omega)] at h; exact h
    · rw [if_neg (by omega), if_pos (by omega)] at h; exact h
    · rw [if_pos (by omega)] at h; exact h
theorem m_lets (hL : rLandOk (M 216)) (hS : rStOk (M 216)) {e k : Int} (hk : 0 ≤ k ∧ k < 36) (he : 0 ≤ e ∧ e < 6) (ht : rLets (M 216) e k → ∀ M1, lK M M1 → post 1 M1) (hf : ¬ rLets (M 216) e k → ∀ M1, lK M M1 → post 0 M1) : QCm X x (d + 2) 1 yX11_lets [(2, 215), (0, e), (0, k)] M post := by
  have hc := hS.2.2.1 k hk.1 hk.2
  have a3 := hL.2.2.1
  refine QC.of qmX11_lets_ok rfl (TX11_lets_0 ⟨fun a => ht (Or.inl a) M (lK.refl M), fun a => ⟨?_, ?_⟩⟩)
  · rcases hL.2.2.2.1 1 (Or.inr rfl) with z | z
    · exact absurd z a
    · have z1 : M 216 5 = 1 := z.1
      exact (i32 (by omega) (by omega))
  · rcases hL.2.2.2.1 1 (Or.inr rfl) with z | ⟨_, z⟩
    · exact absurd z a
    refine m_reckons (Or.inr rfl) hk hL.1 hS.1 he (i32 (by omega) (by omega)) (i32 (by omega) (by omega)) z (fun M1 h1 => ⟨fun b => ?_, fun b => ⟨rLaw_b hL hS.1 (Or.inr rfl) a hk he, ?_⟩⟩)
    · exact ht (Or.inr b) M1 (fun b b1 b2 _ _ => h1 b b1 b2)
    · exact hf (fun z => z.elim a b) M1 (fun b b1 b2 _ _ => h1 b b1 b2)
theorem m_isOpen (hL : rLandOk (M 216)) (hS : rStOk (M 216)) {e k : Int} (hk : 0 ≤ k ∧ k < 36) (he : 0 ≤ e ∧ e < 6) (ht : rOpen (M 216) e k → post 1 M) (hf : ¬ rOpen (M 216) e k → post 0 M) : QCm X x (d + 2) 1 yX11_isOpen [(2, 215), (0, e), (0, k)] M post := by
  have hc := hS.2.2.1 k hk.1 hk.2
  have a3 := hL.2.2.1
  have hl := rLie_b (M 216) k
  have hr := hL.2.2.2.2.2.1 k hk.1 hk.2
  have hcl := hL.cells
  refine QC.of qmX11_isOpen_ok rfl (TX11_isOpen_0 ⟨(by omega), (by omega), fun a => hf (fun z => z.1 a), fun a => ⟨(i32 (by omega) (by omega)), ?_⟩⟩)
  refine m_isHome (i32 (by omega) (by omega)) hL.2.2.1 (fun e e0 e1 => ?_) (fun b => ⟨fun z => (by omega), fun _ => ⟨(i32 (by omega) (by omega)), hf (fun z => z.2.1 b)⟩⟩) (fun b => ⟨fun _ => ?_, fun z => absurd rfl z⟩)
  · have := hL.2.2.2.2.2.2 e e0 e1; exact (i32 (by omega) (by omega))
  refine m_lieOn hk (i32 (by omega) (by omega)) (i32 (by omega) (by omega)) ⟨fun c => hf (fun z => z.2.2.1 c), fun c => ⟨(i32 (by omega) (by omega)), (by omega), (by omega), fun q => hf (fun z => z.2.2.2 q), fun q => ⟨(i32 (by omega) (by omega)), (i32 (by omega) (by omega)), ht ⟨a, b, c, q⟩⟩⟩⟩
theorem m_tookBy (hS : rRib (M 216)) {e : Int} (he : 0 ≤ e ∧ e < 6) (hp : post (rTook (M 216) e) M) : QCm X x d 1 yX11_tookBy [(2, 215), (0, e)] M post := by
  have a := hS.1 e he.1 he.2
  have key : ∀ i : Int, 0 ≤ i ∧ i ≤ M 216 (60 + e) → QRm X x d qmX11_tookBy post 4 [(0, (2, 215)), (1, (0, e)), (2, (0, rSum (M 216) (162 + 16 * e) i.toNat)), (3, (0, i))] [] M := by
    refine int_up (M 216 (60 + e)) (fun i hi h => ?_) (fun i hi ih h => ?_)
    · refine TX11_tookBy_4 ⟨(by omega), (by omega), (i32 (by omega) (by omega)), (i32 (by omega) (by omega)), fun _ => ?_, fun z => absurd hi (by omega)⟩
      rw [show i = M 216 (60 + e) by omega]; exact hp
    · refine TX11_tookBy_4 ⟨(by omega), (by omega), (i32 (by omega) (by omega)), (i32 (by omega) (by omega)), fun z => absurd hi (by omega), fun _ => ⟨(by omega), (by omega), ?_⟩⟩
      have := ih ⟨(by omega), (by omega)⟩
      rw [show (i + 1).toNat = i.toNat + 1 by omega, rSum, show ((i.toNat : Nat) : Int) = i by omega] at this
      exact this
  exact QC.of qmX11_tookBy_ok rfl (TX11_tookBy_0 (key 0 ⟨(by omega), (by omega)⟩))
end Ref44
