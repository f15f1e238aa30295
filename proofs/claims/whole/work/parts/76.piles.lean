/-- which lie over one, how often one over another -/
def pOvN (A : Int → Int) (e : Int) : Nat → Int
  | 0 => 0
  | n + 1 => if A (258 + n) = e then qor (pOvN A e n) (qshl 1 (A (294 + n))) else pOvN A e n
def pOv (A : Int → Int) (e : Int) : Int := pOvN A e (A 1 * A 2).toNat
noncomputable def pTm (A : Int → Int) (a e : Int) : Int := rCnt (fun k => A (294 + k) = a ∧ A (258 + k) = e) (A 1 * A 2).toNat
theorem pOvN_b {A : Int → Int} (h3 : A 3 ≤ 6) (hS : rCel A) {e : Int} (he : e ≠ -1) : ∀ n : Nat, n ≤ 36 → 0 ≤ pOvN A e n ∧ pOvN A e n < 64 := by
  intro n
  induction n with
  | zero => exact fun _ => by rw [pOvN]; exact ⟨by decide, by decide⟩
  | succ n ih =>
    intro hn
    have g := ih (by omega)
    have c := hS n (by omega) (by omega)
    rw [pOvN]
    split
    · rename_i z
      have c2 := c.2.2 (by omega)
      exact (s_or g (s_bit ⟨(by omega), (by omega)⟩)).1
    · exact g
theorem pOv_b {A : Int → Int} (hL : rLandOk A) (hS : rCel A) {e : Int} (he : e ≠ -1) : 0 ≤ pOv A e ∧ pOv A e < 64 := by
  have := hL.cells
  exact pOvN_b hL.2.2.1.2 hS he _ (by omega)
/-- the first that is free in a set -/
def pFree (A : Int → Int) (s e : Int) : Prop := bt s e.toNat = true ∧ qand (pOv A e) s = 0
noncomputable def pFst (A : Int → Int) (s : Int) : Int := by
  classical
  exact if pFree A s 0 then 0 else if pFree A s 1 then 1 else if pFree A s 2 then 2 else if pFree A s 3 then 3 else if pFree A s 4 then 4 else if pFree A s 5 then 5 else -1
theorem pFst_spec (A : Int → Int) (s : Int) : (pFst A s = -1 ∧ ∀ e, 0 ≤ e → e < 6 → ¬ pFree A s e) ∨ ((0 ≤ pFst A s ∧ pFst A s < 6) ∧ pFree A s (pFst A s) ∧ ∀ f, 0 ≤ f → f < pFst A s → ¬ pFree A s f) := by
  rw [pFst]
  split
  · rename_i h0; exact Or.inr ⟨⟨(by omega), (by omega)⟩, h0, fun f f0 f1 => absurd f1 (by omega)⟩
  rename_i h0
  split
  · rename_i h1
    refine Or.inr ⟨⟨(by omega), (by omega)⟩, h1, fun f f0 f1 => ?_⟩
    have : f = 0 := (by omega)
    rw [this]; exact h0
  rename_i h1
  split
  · rename_i h2
    refine Or.inr ⟨⟨(by omega), (by omega)⟩, h2, fun f f0 f1 => ?_⟩
    have : f = 0 ∨ f = 1 := (by omega)
    rcases this with rfl | rfl <;> assumption
  rename_i h2
  split
  · rename_i h3
    refine Or.inr ⟨⟨(by omega), (by omega)⟩, h3, fun f f0 f1 => ?_⟩
    have : f = 0 ∨ f = 1 ∨ f = 2 := (by omega)
    rcases this with rfl | rfl | rfl <;> assumption
  rename_i h3
  split
  · rename_i h4
    refine Or.inr ⟨⟨(by omega), (by omega)⟩, h4, fun f f0 f1 => ?_⟩
    have : f = 0 ∨ f = 1 ∨ f = 2 ∨ f = 3 := (by omega)
    rcases this with rfl | rfl | rfl | rfl <;> assumption
  rename_i h4
  split
  · rename_i h5
    refine Or.inr ⟨⟨(by omega), (by omega)⟩, h5, fun f f0 f1 => ?_⟩
    have : f = 0 ∨ f = 1 ∨ f = 2 ∨ f = 3 ∨ f = 4 := (by omega)
    rcases this with rfl | rfl | rfl | rfl | rfl <;> assumption
  rename_i h5
  refine Or.inl ⟨rfl, fun f f0 f1 => ?_⟩
  have : f = 0 ∨ f = 1 ∨ f = 2 ∨ f = 3 ∨ f = 4 ∨ f = 5 := (by omega)
  rcases this with rfl | rfl | rfl | rfl | rfl | rfl <;> assumption
theorem pFst_of {A : Int → Int} {s e : Int} (he : 0 ≤ e ∧ e < 6) (h : pFree A s e) (hn : ∀ f, 0 ≤ f → f < e → ¬ pFree A s f) : pFst A s = e := by
  rcases pFst_spec A s with g | g
  · exact absurd h (g.2 e he.1 he.2)
  · rcases Int.lt_trichotomy (pFst A s) e with q | q | q
    · exact absurd g.2.1 (hn _ g.1.1 q)
    · exact q
    · exact absurd h (g.2.2 e he.1 q)
theorem pFst_no {A : Int → Int} {s : Int} (hn : ∀ f, 0 ≤ f → f < 6 → ¬ pFree A s f) : pFst A s = -1 := by
  rcases pFst_spec A s with g | g
  · exact g.1
  · exact absurd g.2.1 (hn _ g.1.1 g.1.2)
/-- what is left when those that can be have been taken in one by one -/
noncomputable def pSt (A : Int → Int) : Nat → Int
  | 0 => pLy A
  | n + 1 => if pFst A (pSt A n) = -1 then pSt A n else qand (pSt A n) (qxor (qshl 1 (pFst A (pSt A n))) (-1))
theorem pSt_next {A : Int → Int} {n : Nat} (h : pFst A (pSt A n) ≠ -1) : pSt A (n + 1) = qand (pSt A n) (qxor (qshl 1 (pFst A (pSt A n))) (-1)) := by rw [pSt, if_neg h]
def pSub (A : Int → Int) (s : Int) : Prop := (0 ≤ s ∧ s < 64) ∧ ∀ k : Nat, k < 6 → bt s k = true → (k : Int) < A 3
theorem pSub.less {A : Int → Int} {s e : Int} (h : pSub A s) (he : 0 ≤ e ∧ e < 6) : pSub A (qand s (qxor (qshl 1 e) (-1))) := by
  refine ⟨s_less h.1 he, fun k hk z => ?_⟩
  rw [off_i s (by omega) (by omega), Bool.and_eq_true] at z
  exact h.2 k hk z.1
theorem pLy_sub {A : Int → Int} (h : 0 ≤ A 3 ∧ A 3 ≤ 6) : pSub A (pLy A) := by
  have g := pLy_b h
  exact ⟨g.1, fun k hk z => by rw [g.2 k hk] at z; exact (of_decide_eq_true z).1⟩
theorem pSt_sub {A : Int → Int} (h : 0 ≤ A 3 ∧ A 3 ≤ 6) : ∀ n, pSub A (pSt A n) := by
  intro n
  induction n with
  | zero => exact pLy_sub h
  | succ n ih =>
    rw [pSt]
    split
    · exact ih
    · rename_i z
      rcases pFst_spec A (pSt A n) with g | g
      · exact absurd g.1 z
      · exact ih.less g.1
theorem pSt_crd {A : Int → Int} (h : 0 ≤ A 3 ∧ A 3 ≤ 6) : ∀ n : Nat, (∀ j, j < n → pFst A (pSt A j) ≠ -1) → crd (pSt A n) = crd (pLy A) - n := by
  intro n
  induction n with
  | zero => exact fun _ => by rw [pSt]; omega
  | succ n ih =>
    intro g
    have z := g n (by omega)
    rw [pSt, if_neg z]
    rcases pFst_spec A (pSt A n) with q | q
    · exact absurd q.1 z
    · rw [crd_less (pSt_sub h n).1 q.1 q.2.1.1, ih (fun j hj => g j (by omega))]; omega
theorem pSt_stop {A : Int → Int} {m : Nat} (h : pFst A (pSt A m) = -1) : ∀ n, m ≤ n → pSt A n = pSt A m := by
  intro n
  induction n with
  | zero => intro hm; rw [show m = 0 by omega]
  | succ n ih =>
    intro hm
    rcases Nat.lt_or_ge n m with q | q
    · rw [show n + 1 = m by omega]
    · rw [pSt, if_pos (by rw [ih q]; exact h), ih q]
theorem pFst_0 (A : Int → Int) : pFst A 0 = -1 := pFst_no (fun f _ _ g => by have := g.1; rw [bt_0] at this; exact absurd this (by decide))
theorem pSt_6 {A : Int → Int} (h : 0 ≤ A 3 ∧ A 3 ≤ 6) : pFst A (pSt A 6) = -1 := by
  by_cases g : ∀ j, j < 6 → pFst A (pSt A j) ≠ -1
  · have c := pSt_crd h 6 g
    have b := crd_b (pLy_sub h).1
    have b6 := crd_b (pSt_sub h 6).1
    rw [b6.2 (by omega)]; exact pFst_0 A
  · have : ∃ j, j < 6 ∧ pFst A (pSt A j) = -1 := by
      apply Classical.byContradiction
      intro q
      exact g (fun j hj z => q ⟨j, hj, z⟩)
    obtain ⟨j, hj, z⟩ := this
    rw [pSt_stop z 6 (by omega)]; exact z
section Piles76
variable {X : QX} {x : Int} {d : Nat} {post : Int → QMem → Prop} {M : QMem} {cont : Int → Int → QMem → Prop}
theorem m_aboveOf (hL : rLandOk (M 216)) (hS : rStOk (M 216)) {e : Int} (he : 0 ≤ e ∧ e < 6) (hp : post (pOv (M 216) e) M) : QCm X x (d + 1) 1 yX11_aboveOf [(2, 215), (0, e)] M post := by
  have hcl := hL.cells
  have a3 := hL.2.2.1
  have key : ∀ i : Int, 0 ≤ i ∧ i ≤ M 216 1 * M 216 2 → QRm X x (d + 1) qmX11_aboveOf post 4 [(0, (2, 215)), (1, (0, e)), (2, (0, pOvN (M 216) e i.toNat)), (3, (0, i))] [] M := by
    refine int_up (M 216 1 * M 216 2) (fun i hi g => ?_) (fun i hi ih g => ?_)
    · refine TX11_aboveOf_4 (m_cells ⟨(i32 (by omega) (by omega)), (i32 (by omega) (by omega)), fun _ => ?_, fun z => absurd hi (by omega)⟩)
      rw [show i = M 216 1 * M 216 2 by omega]; exact hp
    · have kc := hS.2.2.1 i g.1 (by omega)
      have b := pOvN_b a3.2 hS.2.2.1 (e := e) (by omega) i.toNat (by omega)
      have := ih ⟨(by omega), (by omega)⟩
      have ei : ((i.toNat : Nat) : Int) = i := by omega
      rw [show (i + 1).toNat = i.toNat + 1 by omega, pOvN, ei] at this
      refine TX11_aboveOf_4 (m_cells ⟨(i32 (by omega) (by omega)), (i32 (by omega) (by omega)), fun z => absurd hi (by omega), fun _ => ⟨(by omega), (by omega), fun z => ⟨(by omega), (by omega), ?_⟩, fun z => ⟨(i32 (by omega) (by omega)), (i32 (by omega) (by omega)), ?_⟩⟩⟩)
      · rw [if_pos z] at this; exact this
      · rw [if_neg z] at this
        rw [qor_0 (i32 (by omega) (by omega))]; exact this
  exact QC.of qmX11_aboveOf_ok rfl (TX11_aboveOf_0 (key 0 ⟨(by omega), (by omega)⟩))
theorem m_firstOf (hL : rLandOk (M 216)) (hS : rStOk (M 216)) {s : Int} (hs : pSub (M 216) s) (hp : post (pFst (M 216) s) M) : QCm X x (d + 2) 1 yX11_firstOf [(2, 215), (0, s)] M post := by
  have a3 := hL.2.2.1
  have s6 := hs.1
  have key : ∀ i : Int, (0 ≤ i ∧ i ≤ M 216 3) ∧ (∀ f, 0 ≤ f → f < i → ¬ pFree (M 216) s f) → QRm X x (d + 2) qmX11_firstOf post 2 [(0, (2, 215)), (1, (0, s)), (2, (0, i))] [] M := by
    refine int_up (M 216 3) (fun i hi g => ?_) (fun i hi ih g => ?_)
    · refine TX11_firstOf_2 ⟨(i32 (by omega) (by omega)), (i32 (by omega) (by omega)), fun _ => ?_, fun z => absurd hi (by omega)⟩
      rw [pFst_no (fun f f0 f1 q => ?_)] at hp
      · exact hp
      · by_cases z : f < i
        · exact g.2 f f0 z q
        · have := hs.2 f.toNat (by omega) q.1
          omega
    · have nx : ¬ pFree (M 216) s i → QRm X x (d + 2) qmX11_firstOf post 2 [(0, (2, 215)), (1, (0, s)), (2, (0, i + 1))] [] M := fun q => ih ⟨⟨(by omega), (by omega)⟩, fun f f0 f1 => by
        by_cases z : f < i
        · exact g.2 f f0 z
        · rw [show f = i by omega]; exact q⟩
      refine TX11_firstOf_2 ⟨(i32 (by omega) (by omega)), (i32 (by omega) (by omega)), fun z => absurd hi (by omega), fun _ => ⟨(i32 (by omega) (by omega)), m_isIn ⟨(by omega), (by omega)⟩ (fun b => ⟨fun z => absurd z (by decide), fun _ => ⟨(i32 (by omega) (by omega)), m_aboveOf hL hS ⟨(by omega), (by omega)⟩ ⟨fun z => ?_, fun z => ⟨qand_in _ _, nx (fun q => z q.2)⟩⟩⟩⟩) (fun b => ⟨fun _ => nx (fun q => by rw [q.1] at b; exact absurd b (by decide)), fun z => absurd rfl z⟩)⟩⟩
      rw [pFst_of ⟨(by omega), (by omega)⟩ ⟨b, z⟩ g.2] at hp
      exact hp
  exact QC.of qmX11_firstOf_ok rfl (TX11_firstOf_0 (key 0 ⟨⟨(by omega), (by omega)⟩, fun f f0 f1 => absurd f1 (by omega)⟩))
/-- what Piles holds when it has looked -/
def pLook (A : Int → Int) (M : QMem) : Prop := M 161 3 = pLy A ∧ (∀ e, 0 ≤ e → e < 6 → M 162 e = pOv A e) ∧ ∀ a e, 0 ≤ a → a < 6 → 0 ≤ e → e < 6 → M 163 (a * 6 + e) = pTm A a e
theorem c_lookAt {A : Int → Int} (h : cOk A 27 M) (hp : ∀ M1, (∀ a, a ≠ 161 → a ≠ 162 → a ≠ 163 → M1 a = M a) → pLook A M1 → post 0 M1) : QCm X x (d + 2) 0 yX4_lookAt [(2, 161), (2, 17), (2, 27)] M post := by
  have hcl := h.1.cells
  have a3 := h.1.2.2.1
  have ec : M 17 0 * M 17 1 = A 1 * A 2 := by rw [h.2.2.1.1.1, h.2.2.1.1.2.1]
  have ed : M 17 2 = A 3 := h.2.2.1.1.2.2.1
  have cong : ∀ M1 : QMem, (∀ a, a ≠ 161 → a ≠ 162 → a ≠ 163 → M1 a = M a) → cSt A 27 M1 := fun M1 k => h.2.2.2.congr (fun a a0 a1 => k a (by omega) (by omega) (by omega))
  have key2 : ∀ i : Int, ∀ M1 : QMem, (0 ≤ i ∧ i ≤ A 1 * A 2) ∧ (∀ a, a ≠ 161 → a ≠ 162 → a ≠ 163 → M1 a = M a) ∧ M1 161 3 = pLy A ∧ (∀ e, 0 ≤ e → e < 6 → M1 162 e = pOvN A e i.toNat) ∧ (∀ a e, 0 ≤ a → a < 6 → 0 ≤ e → e < 6 → M1 163 (a * 6 + e) = rCnt (fun k => A (294 + k) = a ∧ A (258 + k) = e) i.toNat) → QRm X x (d + 2) qmX4_lookAt post 70 [(0, (2, 161)), (1, (2, 17)), (2, (2, 27)), (3, (0, i))] [] M1 := by
    refine int_up (A 1 * A 2) (fun i hi M1 g => ?_) (fun i hi ih M1 g => ?_)
    · obtain ⟨g0, g1, g2, g3, g4⟩ := g
      have ec1 : M1 17 0 * M1 17 1 = A 1 * A 2 := by rw [g1 17 (by omega) (by omega) (by omega)]; exact ec
      refine TX4_lookAt_70 (c_cells (Or.inl rfl) (by rw [ec1]; omega) ?_)
      rw [ec1]
      refine ⟨(i32 (by omega) (by omega)), (i32 (by omega) (by omega)), fun _ => hp M1 g1 ⟨g2, ?_, ?_⟩, fun z => absurd hi (by omega)⟩
      · intro e e0 e1; rw [g3 e e0 e1, show i = A 1 * A 2 by omega]; rfl
      · intro a e a0 a1 e0 e1; rw [g4 a e a0 a1 e0 e1, show i = A 1 * A 2 by omega]; rfl
    · obtain ⟨g0, g1, g2, g3, g4⟩ := g
      have ec1 : M1 17 0 * M1 17 1 = A 1 * A 2 := by rw [g1 17 (by omega) (by omega) (by omega)]; exact ec
      have kc := h.2.1.2.2.1 i g0.1 (by omega)
      have st := cong M1 g1
      have hu := st.2.2.2.1 i g0.1 (by omega)
      have u1 : M1 32 i = A (294 + i) := hu.1
      have u2 : M1 33 i = A (258 + i) := hu.2
      have ei : ((i.toNat : Nat) : Int) = i := by omega
      have et : (i + 1).toNat = i.toNat + 1 := by omega
      refine TX4_lookAt_70 (c_cells (Or.inl rfl) (by rw [ec1]; omega) ?_)
      rw [ec1]
      refine ⟨(i32 (by omega) (by omega)), (i32 (by omega) (by omega)), fun z => absurd hi (by omega), fun _ => c_lying (Or.inl rfl) h.2.1 a3.2 st ⟨g0.1, (by omega)⟩ ⟨fun z => ?_, fun z => ⟨?_, ?_⟩⟩⟩
      · have n1 : A (294 + i) ≠ -1 := by intro y; rw [rLie, if_pos y] at z; exact absurd z (by decide)
        have n2 : A (258 + i) ≠ -1 := by intro y; rw [rLie, if_neg n1, if_pos y] at z; exact absurd z (by decide)
        rw [qup_row (b := 32) (a := 162) (by decide), qup_row (b := 33) (a := 162) (by decide), qup_row (b := 163) (a := 162) (by decide), u1, u2]
        refine ⟨g0.1, (by omega), (by omega), (by omega), (by omega), (by omega), ih _ ⟨⟨(by omega), (by omega)⟩, fun a b1 b2 b3 => ?_, ?_, fun e e0 e1 => ?_, fun a e b0 b1 e0 e1 => ?_⟩⟩
        · rw [qup_row b3, qup_row b2]; exact g1 a b1 b2 b3
        · rw [qup_row (by decide), qup_row (by decide)]; exact g2
        · rw [qup_row (by decide), qup_at, et, pOvN, ei]
          by_cases y : e = A (258 + i)
          · rw [if_pos y, if_pos y.symm, ← y, g3 e e0 e1]
          · rw [if_neg y, if_neg (fun q => y q.symm), g3 e e0 e1]
        · rw [qup_at, et]
          by_cases y : A (294 + i) = a ∧ A (258 + i) = e
          · rw [if_pos (by rw [y.1, y.2]), rCnt_yes (by rw [ei]; exact y), y.1, y.2, g4 a e b0 b1 e0 e1]
          · rw [if_neg (fun q => y ⟨(by omega), (by omega)⟩), qup_row (by decide), rCnt_no (by rw [ei]; exact y), g4 a e b0 b1 e0 e1]
      · rw [rLie]; repeat' split
        all_goals exact ⟨by decide, by decide⟩
      · have n2 : A (258 + i) = -1 := by
          apply Classical.byContradiction
          intro y
          rw [rLie, if_neg (kc.2.2 y).1, if_neg y] at z
          exact z rfl
        refine ih _ ⟨⟨(by omega), (by omega)⟩, g1, g2, fun e e0 e1 => ?_, fun a e b0 b1 e0 e1 => ?_⟩
        · rw [et, pOvN, ei, if_neg (by omega), g3 e e0 e1]
        · rw [et, rCnt_no (by rw [ei]; omega), g4 a e b0 b1 e0 e1]
  have key1 : ∀ i : Int, ∀ M1 : QMem, (0 ≤ i ∧ i ≤ A 3) ∧ (∀ a, a ≠ 161 → a ≠ 162 → a ≠ 163 → M1 a = M a) ∧ M1 161 3 = pLyN A i.toNat ∧ (∀ e, 0 ≤ e → e < 6 → M1 162 e = 0) ∧ (∀ j, 0 ≤ j → j < 36 → M1 163 j = 0) → QRm X x (d + 2) qmX4_lookAt post 23 [(0, (2, 161)), (1, (2, 17)), (2, (2, 27)), (3, (0, i))] [] M1 := by
    refine int_up (A 3) (fun i hi M1 g => ?_) (fun i hi ih M1 g => ?_)
    · obtain ⟨g0, g1, g2, g3, g4⟩ := g
      have ed1 : M1 17 2 = A 3 := by rw [g1 17 (by omega) (by omega) (by omega)]; exact ed
      refine TX4_lookAt_23 ?_
      rw [ed1]
      refine ⟨(i32 (by omega) (by omega)), (i32 (by omega) (by omega)), fun _ => key2 0 M1 ⟨⟨(by omega), (by omega)⟩, g1, ?_, fun e e0 e1 => ?_, fun a e b0 b1 e0 e1 => ?_⟩, fun z => absurd hi (by omega)⟩
      · rw [g2, show i = A 3 by omega]; rfl
      · rw [g3 e e0 e1]; rfl
      · rw [g4 _ (by omega) (by omega)]; rfl
    · obtain ⟨g0, g1, g2, g3, g4⟩ := g
      have ed1 : M1 17 2 = A 3 := by rw [g1 17 (by omega) (by omega) (by omega)]; exact ed
      have st := cong M1 g1
      have h6 := h.2.1.2.1.1 i g0.1 (by omega)
      have hm : M1 28 i = A (60 + i) := st.1 i g0.1 (by omega)
      have ei : ((i.toNat : Nat) : Int) = i := by omega
      have et : (i + 1).toNat = i.toNat + 1 := by omega
      have hb := pLyN_b A i.toNat (by omega)
      refine TX4_lookAt_23 ?_
      rw [ed1, hm, g2]
      refine ⟨(i32 (by omega) (by omega)), (i32 (by omega) (by omega)), fun z => absurd hi (by omega), fun _ => ⟨fun z => absurd z (by omega), fun _ => ⟨(by omega), (by omega), (i32 (by omega) (by omega)), fun z => ?_, fun z => ?_⟩⟩⟩
      all_goals refine ih _ ⟨⟨(by omega), (by omega)⟩, fun a b1 b2 b3 => by rw [qup_row b1]; exact g1 a b1 b2 b3, ?_, fun e e0 e1 => by rw [qup_row (by decide)]; exact g3 e e0 e1, fun j j0 j1 => by rw [qup_row (by decide)]; exact g4 j j0 j1⟩
      · rw [qup_at, if_pos rfl, et, pLyN, ei, if_pos z, qor_0 (i32 (by omega) (by omega))]
      · rw [qup_at, if_pos rfl, et, pLyN, ei, if_neg z]
  refine QC.of qmX4_lookAt_ok rfl (TX4_lookAt_0 (j_fill (n := 6) rfl (by decide) (by decide) (fun M1 f1 f2 => j_fill (n := 36) rfl (by decide) (by decide) (fun M2 f3 f4 => key1 0 _ ⟨⟨(by omega), (by omega)⟩, fun a b1 b2 b3 => ?_, ?_, fun e e0 e1 => ?_, fun j j0 j1 => ?_⟩))))
  · rw [qup_row b1, f3 a b3, f1 a b2]
  · rw [qup_at, if_pos rfl]; rfl
  · rw [qup_row (by decide), f3 162 (by omega), f2 e e0 e1]
  · rw [qup_row (by decide), f4 j j0 j1]
theorem c_firstFree {A : Int → Int} (hL : pLook A M) {s : Int} (hs : 0 ≤ s ∧ s < 64) (hp : post (pFst A s) M) : QCm X x d 1 yX4_firstFree [(2, 161), (0, s)] M post := by
  have key : ∀ i : Int, (0 ≤ i ∧ i ≤ 6) ∧ (∀ f, 0 ≤ f → f < i → ¬ pFree A s f) → QRm X x d qmX4_firstFree post 2 [(0, (2, 161)), (1, (0, s)), (2, (0, i))] [] M := by
    refine int_up 6 (fun i hi g => ?_) (fun i hi ih g => ?_)
    · refine TX4_firstFree_2 ⟨(i32 (by omega) (by omega)), fun _ => ?_, fun z => absurd hi (by omega)⟩
      rw [pFst_no (fun f f0 f1 => g.2 f f0 (by omega))] at hp
      exact hp
    · have nx : ¬ pFree A s i → QRm X x d qmX4_firstFree post 2 [(0, (2, 161)), (1, (0, s)), (2, (0, i + 1))] [] M := fun q => ih ⟨⟨(by omega), (by omega)⟩, fun f f0 f1 => by
        by_cases z : f < i
        · exact g.2 f f0 z
        · rw [show f = i by omega]; exact q⟩
      refine TX4_firstFree_2 ?_
      rw [ask_i s ⟨(by omega), (by omega)⟩, hL.2.1 i g.1.1 hi]
      refine ⟨(i32 (by omega) (by omega)), fun z => absurd z (by omega), fun _ => ⟨fun z => ⟨(by omega), (by omega), fun y => ?_, fun y => ⟨qand_in _ _, nx (fun q => y q.2)⟩⟩, fun z => ⟨by split <;> exact ⟨by decide, by decide⟩, nx (fun q => z (if_pos q.1))⟩⟩⟩
      have b : bt s i.toNat = true := by
        apply Classical.byContradiction
        intro q; rw [if_neg q] at z; exact absurd z (by decide)
      rw [pFst_of ⟨(by omega), (by omega)⟩ ⟨b, y⟩ g.2] at hp
      exact hp
  exact QC.of qmX4_firstFree_ok rfl (TX4_firstFree_0 (key 0 ⟨⟨(by omega), (by omega)⟩, fun f f0 f1 => absurd f1 (by omega)⟩))
theorem look_gK {M M1 : QMem} (h : ∀ a, a ≠ 161 → a ≠ 162 → a ≠ 163 → M1 a = M a) : gK M M1 := gK.of_rows (fun a q1 q2 q3 => h a (by omega) (by omega) (by omega))
theorem rel_above (hR : Rel M) {e : Int} (he : in32 e) (hp : ∀ v M3, Rel M3 → cont v v M3) : QCm X x (d + 8) 1 yX10_above [(2, 0), (0, e)] M (fun x1 M1 => QCm X x (d + 8) 1 yX11_above [(2, 215), (0, e)] M1 (fun x2 M2 => cont x1 x2 M2)) := by
  have R0 := hR.keep (gT M)
  have e0 := (gT M).all
  have a3 := hR.1.1.2.2.1
  refine QC.of qmX10_above_ok rfl (TX10_above_0 (k_hasDrum hR he (fun a => ⟨fun z => absurd z (by decide), fun _ => ⟨(i32 (by omega) (by omega)), c_lookAt hR.1 (fun M1 k1 l1 => ⟨(by omega), (by omega), ?_⟩)⟩⟩) (fun a => ⟨fun _ => ?_, fun z => absurd rfl z⟩)))
  rotate_left
  · exact QC.of qmX11_above_ok rfl (TX11_above_0 ⟨he, n_isDrum R0 he (fun y => absurd (by rw [e0] at y; exact y) a) (fun _ => ⟨fun _ => hp _ _ R0, fun z => absurd rfl z⟩)⟩)
  have g1 : gK M (qup M1 215 0 0) := (look_gK k1).trans (gT M1)
  have R1 := hR.keep g1
  have e1 := g1.all
  refine QC.of qmX11_above_ok rfl (TX11_above_0 ⟨he, n_isDrum R1 he (fun y => ⟨fun q => absurd q (by decide), fun _ => ⟨(i32 (by omega) (by omega)), m_aboveOf R1.1.1 R1.1.2.1 ⟨(by omega), (by omega)⟩ ?_⟩⟩) (fun q => absurd (by rw [e1]; exact a) q)⟩)
  rw [e1, l1.2.1 e a.1 (by omega)]
  exact hp _ _ R1
theorem rel_order (hR : Rel M) {i : Int} (hi : in32 i) (hp : ∀ v M3, Rel M3 → cont v v M3) : QCm X x (d + 8) 1 yX10_order [(2, 0), (0, i)] M (fun x1 M1 => QCm X x (d + 8) 1 yX11_order [(2, 215), (0, i)] M1 (fun x2 M2 => cont x1 x2 M2)) := by
  have R0 := hR.keep (gT M)
  have a3 := hR.1.1.2.2.1
  refine QC.of qmX10_order_ok rfl (TX10_order_0 ⟨hi, fun z => ?_, fun z => ?_⟩)
  rotate_left
  · exact QC.of qmX11_order_ok rfl (TX11_order_0 ⟨hi, fun y => absurd y z, fun _ => hp _ _ R0⟩)
  refine c_lookAt hR.1 (fun M1 k1 l1 => ?_)
  have g1 : gK M (qup M1 215 0 0) := (look_gK k1).trans (gT M1)
  have R1 := hR.keep g1
  have e1 := g1.all
  generalize hA : M 216 = A at *
  generalize hM : qup M1 215 0 0 = N at *
  have ss := pSt_sub a3
  have hi2 : i ≤ 2147483647 := hi.2
  -- the reference
  have ref : ∀ V : Int, (i < 6 → V = pFst A (pSt A i.toNat)) → (6 ≤ i → V = -1) → QCm X x (d + 8) 1 yX11_order [(2, 215), (0, i)] M1 (fun x2 M2 => cont V x2 M2) := by
    intro V v1 v2
    have fin : ∀ k : Int, 0 ≤ k ∧ k ≤ i → (∀ j, j < k.toNat → pFst A (pSt A j) ≠ -1) → (k = i ∨ pFst A (pSt A k.toNat) = -1) → ((i < 6 → (QCm X x (d + 7) 1 yX11_lying [(2, 215)] N (fun x1 M1 => QCm X x (d + 7) 1 yX11_bitsOf [(0, x1)] M1 (fun x2 M2 => QCm X x (d + 7) 1 yX11_bitsOf [(0, pSt A k.toNat)] M2 (fun x3 M3 => in32 (x2 - x3) ∧ (i ≤ x2 - x3 → (QCm X x (d + 7) 1 yX11_firstOf [(2, 215), (0, pSt A k.toNat)] M3 (fun x4 M4 => cont V x4 M4))) ∧ (¬ i ≤ x2 - x3 → (cont V (-1) M3))))))) ∧ (¬ i < 6 → (cont V (-1) N))) := by
      intro k hk hj hs
      refine ⟨fun c => m_lying R1.1.1.2.2.1 R1.1.2.1.2.1 (m_bitsOf (m_bitsOf ?_)), fun c => by rw [v2 (by omega)]; exact hp _ _ R1⟩
      rw [e1, pSt_crd a3 _ hj]
      have b := crd_b (pLy_sub a3).1
      refine ⟨(i32 (by omega) (by omega)), fun q => m_firstOf R1.1.1 R1.1.2.1 (by rw [e1]; exact ss _) ?_, fun q => ?_⟩
      · have : k = i := (by omega)
        rw [e1, v1 c, this]; exact hp _ _ R1
      · rw [v1 c]
        rcases hs with y | y
        · exact absurd (by omega) q
        · rw [pSt_stop y i.toNat (by omega), y]; exact hp _ _ R1
    have key : ∀ k : Int, (0 ≤ k ∧ k ≤ i) ∧ (∀ j, j < k.toNat → pFst A (pSt A j) ≠ -1) → QRm X x (d + 8) qmX11_order (fun x2 M2 => cont V x2 M2) 19 [(0, (2, 215)), (1, (0, i)), (2, (0, pSt A k.toNat)), (3, (0, k))] [] N := by
      refine int_up i (fun k hk g => ?_) (fun k hk ih g => ?_)
      · exact TX11_order_19 ⟨(i32 (by omega) (by omega)), hi, fun _ => fin k g.1 g.2 (Or.inl (by omega)), fun y => absurd hk y⟩
      · refine TX11_order_19 ⟨(i32 (by omega) (by omega)), hi, fun y => absurd hk (by omega), fun _ => m_firstOf R1.1.1 R1.1.2.1 (by rw [e1]; exact ss _) ?_⟩
        rw [e1]
        refine ⟨fun y => fin k g.1 g.2 (Or.inr y), fun y => ⟨?_, m_firstOf R1.1.1 R1.1.2.1 (by rw [e1]; exact ss _) ?_⟩⟩
        · rcases pFst_spec A (pSt A k.toNat) with q | q
          · exact absurd q.1 y
          · exact (i32 (by omega) (by omega))
        · rw [e1]
          have := ih ⟨⟨(by omega), (by omega)⟩, fun j hj => by
            rcases Nat.lt_or_ge j k.toNat with q | q
            · exact g.2 j q
            · rw [show j = k.toNat by omega]; exact y⟩
          rw [show (k + 1).toNat = k.toNat + 1 by omega, pSt_next y] at this
          exact this
    refine QC.of qmX11_order_ok rfl (TX11_order_0 ?_)
    rw [hM]
    refine ⟨hi, fun _ => m_lying R1.1.1.2.2.1 R1.1.2.1.2.1 ?_, fun y => absurd z y⟩
    rw [e1]
    exact key 0 ⟨⟨(by omega), z⟩, fun j hj => absurd hj (by omega)⟩
  -- the class
  have key : ∀ k : Int, (0 ≤ k ∧ k ≤ i ∧ k ≤ 6) ∧ (∀ j, j < k.toNat → pFst A (pSt A j) ≠ -1) → QRm X x (d + 8) qmX10_order (fun x1 M1 => QCm X x (d + 8) 1 yX11_order [(2, 215), (0, i)] M1 (fun x2 M2 => cont x1 x2 M2)) 42 [(0, (2, 0)), (1, (0, i)), (2, (0, pSt A k.toNat)), (3, (0, pFst A (pSt A k.toNat))), (4, (0, k))] [] M1 := by
    refine int_up 6 (fun k hk g => ?_) (fun k hk ih g => ?_)
    · have k6 : k = 6 := (by omega)
      have : pFst A (pSt A k.toNat) = -1 := by rw [k6]; exact pSt_6 a3
      refine TX10_order_42 ⟨(i32 (by omega) (by omega)), hi, fun _ => ref _ (fun y => absurd y (by omega)) (fun _ => this), fun y => ⟨fun _ => ref _ (fun y => absurd y (by omega)) (fun _ => this), fun y2 => absurd hk y2⟩⟩
    · refine TX10_order_42 ⟨(i32 (by omega) (by omega)), hi, fun y => ref _ (fun _ => by rw [show k = i by omega]) (fun y2 => absurd hk (by omega)), fun y => ⟨fun y2 => absurd hk (by omega), fun _ => ⟨fun y2 => ref _ (fun _ => by rw [pSt_stop y2 i.toNat (by omega)]) (fun _ => y2), fun y2 => ⟨?_, c_firstFree l1 ?_ ?_⟩⟩⟩⟩
      · rcases pFst_spec A (pSt A k.toNat) with q | q
        · exact absurd q.1 y2
        · exact (i32 (by omega) (by omega))
      · rcases pFst_spec A (pSt A k.toNat) with q | q
        · exact absurd q.1 y2
        · exact s_less (ss _).1 q.1
      · have := ih ⟨⟨(by omega), (by omega), (by omega)⟩, fun j hj => by
          rcases Nat.lt_or_ge j k.toNat with q | q
          · exact g.2 j q
          · rw [show j = k.toNat by omega]; exact y2⟩
        rw [show (k + 1).toNat = k.toNat + 1 by omega, pSt_next y2] at this
        exact this
  rw [l1.1]
  exact c_firstFree l1 (pLy_sub a3).1 (key 0 ⟨⟨(by omega), z, (by omega)⟩, fun j hj => absurd hj (by omega)⟩)
theorem rel_stuck (hR : Rel M) (hp : ∀ v M3, Rel M3 → cont v v M3) : QCm X x (d + 8) 1 yX10_stuck [(2, 0)] M (fun x1 M1 => QCm X x (d + 8) 1 yX11_stuck [(2, 215)] M1 (fun x2 M2 => cont x1 x2 M2)) := by
  have a3 := hR.1.1.2.2.1
  refine QC.of qmX10_stuck_ok rfl (TX10_stuck_0 (c_lookAt hR.1 (fun M1 k1 l1 => ?_)))
  have g1 : gK M (qup M1 215 0 0) := (look_gK k1).trans (gT M1)
  have R1 := hR.keep g1
  have e1 := g1.all
  generalize hA : M 216 = A at *
  generalize hM : qup M1 215 0 0 = N at *
  have ss := pSt_sub a3
  have ref : QCm X x (d + 8) 1 yX11_stuck [(2, 215)] M1 (fun x2 M2 => cont (pSt A 6) x2 M2) := by
    have key : ∀ k : Int, 0 ≤ k ∧ k ≤ 6 → QRm X x (d + 8) qmX11_stuck (fun x2 M2 => cont (pSt A 6) x2 M2) 10 [(0, (2, 215)), (1, (0, pSt A k.toNat))] [] N := by
      refine int_up 6 (fun k hk g => ?_) (fun k hk ih g => ?_)
      · refine TX11_stuck_10 (m_firstOf R1.1.1 R1.1.2.1 (by rw [e1]; exact ss _) ?_)
        rw [e1, show k = 6 by omega]
        exact ⟨fun _ => hp _ _ R1, fun y => absurd (pSt_6 a3) y⟩
      · refine TX11_stuck_10 (m_firstOf R1.1.1 R1.1.2.1 (by rw [e1]; exact ss _) ?_)
        rw [e1]
        refine ⟨fun y => ?_, fun y => ⟨?_, m_firstOf R1.1.1 R1.1.2.1 (by rw [e1]; exact ss _) ?_⟩⟩
        · rw [pSt_stop y 6 (by omega)]; exact hp _ _ R1
        · rcases pFst_spec A (pSt A k.toNat) with q | q
          · exact absurd q.1 y
          · exact (i32 (by omega) (by omega))
        · rw [e1]
          have := ih ⟨(by omega), (by omega)⟩
          rw [show (k + 1).toNat = k.toNat + 1 by omega, pSt_next y] at this
          exact this
    refine QC.of qmX11_stuck_ok rfl (TX11_stuck_0 ?_)
    rw [hM]
    refine m_lying R1.1.1.2.2.1 R1.1.2.1.2.1 ?_
    rw [e1]
    exact key 0 ⟨(by omega), (by omega)⟩
  have key : ∀ k : Int, 0 ≤ k ∧ k ≤ 6 → QRm X x (d + 8) qmX10_stuck (fun x1 M1 => QCm X x (d + 8) 1 yX11_stuck [(2, 215)] M1 (fun x2 M2 => cont x1 x2 M2)) 34 [(0, (2, 0)), (1, (0, pSt A k.toNat)), (2, (0, pFst A (pSt A k.toNat))), (3, (0, k))] [] M1 := by
    refine int_up 6 (fun k hk g => ?_) (fun k hk ih g => ?_)
    · refine TX10_stuck_34 ⟨(i32 (by omega) (by omega)), fun _ => ?_, fun y2 => absurd hk y2⟩
      rw [show k = 6 by omega]; exact ref
    · refine TX10_stuck_34 ⟨(i32 (by omega) (by omega)), fun y2 => absurd hk (by omega), fun _ => ⟨fun y2 => ?_, fun y2 => ⟨?_, c_firstFree l1 ?_ ?_⟩⟩⟩
      · rw [← pSt_stop y2 6 (by omega)]; exact ref
      · rcases pFst_spec A (pSt A k.toNat) with q | q
        · exact absurd q.1 y2
        · exact (i32 (by omega) (by omega))
      · rcases pFst_spec A (pSt A k.toNat) with q | q
        · exact absurd q.1 y2
        · exact s_less (ss _).1 q.1
      · have := ih ⟨(by omega), (by omega)⟩
        rw [show (k + 1).toNat = k.toNat + 1 by omega, pSt_next y2] at this
        exact this
  rw [l1.1]
  exact c_firstFree l1 (pLy_sub a3).1 (key 0 ⟨(by omega), (by omega)⟩)
end Piles76
