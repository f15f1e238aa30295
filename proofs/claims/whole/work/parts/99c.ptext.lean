/-- no word 'lies' in a law of yards -/
theorem pz_no4 {kd vl : Nat → Int} (hv : ∀ i, kd i = 23 → 0 ≤ vl i ∧ vl i ≤ 999) : ∀ (f sel k i : Nat), sel ≤ 9 → ∀ c ∈ (pz kd vl 0 f sel k i).2.2, c ≠ 1004 := by
  intro f
  induction f with
  | zero => intro sel k i _ c hc; exact absurd hc List.not_mem_nil
  | succ f ih =>
    intro sel k i hs
    have two : ∀ a b : Nat, a ≤ 9 → b ≤ 9 → ∀ c ∈ (if (pz kd vl 0 f a k i).1 ≠ 0 then pz kd vl 0 f a k i else ((pz kd vl 0 f b k (pz kd vl 0 f a k i).2.1).1, (pz kd vl 0 f b k (pz kd vl 0 f a k i).2.1).2.1, (pz kd vl 0 f a k i).2.2 ++ (pz kd vl 0 f b k (pz kd vl 0 f a k i).2.1).2.2) : Int × Nat × List Int).2.2, c ≠ 1004 := by
      intro a b ha hb c hc
      split at hc
      · exact ih _ _ _ ha c hc
      · rcases List.mem_append.1 hc with q | q
        · exact ih _ _ _ ha c q
        · exact ih _ _ _ hb c q
    have rest : ∀ (a b : Nat) (v : Int), a ≤ 9 → b ≤ 9 → v ≠ 1004 → ∀ c ∈ (if (pz kd vl 0 f a k (i + 1)).1 ≠ 0 then pz kd vl 0 f a k (i + 1) else ((pz kd vl 0 f b k (pz kd vl 0 f a k (i + 1)).2.1).1, (pz kd vl 0 f b k (pz kd vl 0 f a k (i + 1)).2.1).2.1, (pz kd vl 0 f a k (i + 1)).2.2 ++ v :: (pz kd vl 0 f b k (pz kd vl 0 f a k (i + 1)).2.1).2.2) : Int × Nat × List Int).2.2, c ≠ 1004 := by
      intro a b v ha hb hv0 c hc
      split at hc
      · exact ih _ _ _ ha c hc
      · rcases List.mem_append.1 hc with q | q
        · exact ih _ _ _ ha c q
        · rcases List.mem_cons.1 q with q | q
          · rw [q]; exact hv0
          · exact ih _ _ _ hb c q
    have nil : ∀ c ∈ ((0, i, []) : Int × Nat × List Int).2.2, c ≠ 1004 := fun c hc => absurd hc List.not_mem_nil
    have fl : ∀ (w : Int) (j : Nat), ∀ c ∈ (pFl kd w j).2.2, c ≠ 1004 := fun w j c hc => absurd hc List.not_mem_nil
    have : sel = 0 ∨ sel = 1 ∨ sel = 2 ∨ sel = 3 ∨ sel = 4 ∨ sel = 5 ∨ sel = 6 ∨ sel = 7 ∨ sel = 8 ∨ sel = 9 := (by omega)
    rcases this with rfl | rfl | rfl | rfl | rfl | rfl | rfl | rfl | rfl | rfl
    · have e : pz kd vl 0 (f + 1) 0 k i = (if kd i = 23 then (0, i + 1, [vl i]) else if pWd 0 (kd i) ≠ -1 then (0, i + 1, [1000 + pWd 0 (kd i)]) else if kd i = 35 then (if k = 6 then pFl kd 4 i else (if (pz kd vl 0 f 3 (k + 1) (i + 1)).1 ≠ 0 then pz kd vl 0 f 3 (k + 1) (i + 1) else if kd (pz kd vl 0 f 3 (k + 1) (i + 1)).2.1 = 36 then (0, (pz kd vl 0 f 3 (k + 1) (i + 1)).2.1 + 1, (pz kd vl 0 f 3 (k + 1) (i + 1)).2.2) else pFl kd 2 (pz kd vl 0 f 3 (k + 1) (i + 1)).2.1)) else pFl kd 2 i) := rfl
      rw [e]
      intro c hc
      by_cases a1 : kd i = 23
      · rw [if_pos a1] at hc
        have := List.mem_singleton.1 hc
        have := hv i a1
        omega
      rw [if_neg a1] at hc
      by_cases a2 : pWd 0 (kd i) ≠ -1
      · rw [if_pos a2] at hc
        have h1 := List.mem_singleton.1 hc
        have : pWd 0 (kd i) ≠ 4 := by
          unfold pWd
          repeat' split
          all_goals first | decide | omega
        omega
      rw [if_neg a2] at hc
      by_cases a3 : kd i = 35
      · rw [if_pos a3] at hc
        by_cases a4 : k = 6
        · rw [if_pos a4] at hc; exact fl _ _ c hc
        rw [if_neg a4] at hc
        by_cases a5 : (pz kd vl 0 f 3 (k + 1) (i + 1)).1 ≠ 0
        · rw [if_pos a5] at hc; exact ih _ _ _ (by decide) c hc
        rw [if_neg a5] at hc
        by_cases a6 : kd (pz kd vl 0 f 3 (k + 1) (i + 1)).2.1 = 36
        · rw [if_pos a6] at hc; exact ih 3 (k + 1) (i + 1) (by decide) c hc
        · rw [if_neg a6] at hc; exact fl _ _ c hc
      · rw [if_neg a3] at hc; exact fl _ _ c hc
    · exact two 0 2 (by decide) (by decide)
    · have e : pz kd vl 0 (f + 1) 2 k i = (if kd i = 34 then (let r := pz kd vl 0 f 0 k (i + 1); if r.1 ≠ 0 then r else (let s := pz kd vl 0 f 2 k r.2.1; (s.1, s.2.1, r.2.2 ++ 3002 :: s.2.2))) else (0, i, [])) := rfl
      rw [e]
      by_cases a : kd i = 34
      · rw [if_pos a]; exact rest 0 2 3002 (by decide) (by decide) (by decide)
      · rw [if_neg a]; exact nil
    · exact two 1 4 (by decide) (by decide)
    · have e : pz kd vl 0 (f + 1) 4 k i = (if kd i = 32 then (let r := pz kd vl 0 f 1 k (i + 1); if r.1 ≠ 0 then r else (let s := pz kd vl 0 f 4 k r.2.1; (s.1, s.2.1, r.2.2 ++ 3000 :: s.2.2))) else if kd i = 33 then (let r := pz kd vl 0 f 1 k (i + 1); if r.1 ≠ 0 then r else (let s := pz kd vl 0 f 4 k r.2.1; (s.1, s.2.1, r.2.2 ++ 3001 :: s.2.2))) else (0, i, [])) := rfl
      rw [e]
      by_cases a : kd i = 32
      · rw [if_pos a]; exact rest 1 4 3000 (by decide) (by decide) (by decide)
      · rw [if_neg a]
        by_cases a2 : kd i = 33
        · rw [if_pos a2]; exact rest 1 4 3001 (by decide) (by decide) (by decide)
        · rw [if_neg a2]; exact nil
    · have e : pz kd vl 0 (f + 1) 5 k i = (if kd i = 13 then (if k = 6 then pFl kd 4 i else (if (pz kd vl 0 f 5 (k + 1) (i + 1)).1 ≠ 0 then pz kd vl 0 f 5 (k + 1) (i + 1) else (0, (pz kd vl 0 f 5 (k + 1) (i + 1)).2.1, (pz kd vl 0 f 5 (k + 1) (i + 1)).2.2 ++ [3006]))) else if kd i = 37 then (if k = 6 then pFl kd 4 i else (if (pz kd vl 0 f 8 (k + 1) (i + 1)).1 ≠ 0 then pz kd vl 0 f 8 (k + 1) (i + 1) else if kd (pz kd vl 0 f 8 (k + 1) (i + 1)).2.1 = 38 then (0, (pz kd vl 0 f 8 (k + 1) (i + 1)).2.1 + 1, (pz kd vl 0 f 8 (k + 1) (i + 1)).2.2) else pFl kd 2 (pz kd vl 0 f 8 (k + 1) (i + 1)).2.1)) else (if (pz kd vl 0 f 3 k i).1 ≠ 0 then pz kd vl 0 f 3 k i else if kd (pz kd vl 0 f 3 k i).2.1 = 39 ∨ kd (pz kd vl 0 f 3 k i).2.1 = 40 ∨ kd (pz kd vl 0 f 3 k i).2.1 = 41 then (if (pz kd vl 0 f 3 k ((pz kd vl 0 f 3 k i).2.1 + 1)).1 ≠ 0 then pz kd vl 0 f 3 k ((pz kd vl 0 f 3 k i).2.1 + 1) else (0, (pz kd vl 0 f 3 k ((pz kd vl 0 f 3 k i).2.1 + 1)).2.1, (pz kd vl 0 f 3 k i).2.2 ++ (pz kd vl 0 f 3 k ((pz kd vl 0 f 3 k i).2.1 + 1)).2.2 ++ [kd (pz kd vl 0 f 3 k i).2.1 - 39 + 3003])) else pFl kd 2 (pz kd vl 0 f 3 k i).2.1)) := rfl
      rw [e]
      intro c hc
      by_cases a1 : kd i = 13
      · rw [if_pos a1] at hc
        by_cases a4 : k = 6
        · rw [if_pos a4] at hc; exact fl _ _ c hc
        rw [if_neg a4] at hc
        by_cases a5 : (pz kd vl 0 f 5 (k + 1) (i + 1)).1 ≠ 0
        · rw [if_pos a5] at hc; exact ih _ _ _ (by decide) c hc
        rw [if_neg a5] at hc
        rcases List.mem_append.1 hc with q | q
        · exact ih 5 (k + 1) (i + 1) (by decide) c q
        · have := List.mem_singleton.1 q
          omega
      rw [if_neg a1] at hc
      by_cases a2 : kd i = 37
      · rw [if_pos a2] at hc
        by_cases a4 : k = 6
        · rw [if_pos a4] at hc; exact fl _ _ c hc
        rw [if_neg a4] at hc
        by_cases a5 : (pz kd vl 0 f 8 (k + 1) (i + 1)).1 ≠ 0
        · rw [if_pos a5] at hc; exact ih _ _ _ (by decide) c hc
        rw [if_neg a5] at hc
        by_cases a6 : kd (pz kd vl 0 f 8 (k + 1) (i + 1)).2.1 = 38
        · rw [if_pos a6] at hc; exact ih 8 (k + 1) (i + 1) (by decide) c hc
        · rw [if_neg a6] at hc; exact fl _ _ c hc
      rw [if_neg a2] at hc
      by_cases a5 : (pz kd vl 0 f 3 k i).1 ≠ 0
      · rw [if_pos a5] at hc; exact ih _ _ _ (by decide) c hc
      rw [if_neg a5] at hc
      by_cases a6 : kd (pz kd vl 0 f 3 k i).2.1 = 39 ∨ kd (pz kd vl 0 f 3 k i).2.1 = 40 ∨ kd (pz kd vl 0 f 3 k i).2.1 = 41
      · rw [if_pos a6] at hc
        by_cases a7 : (pz kd vl 0 f 3 k ((pz kd vl 0 f 3 k i).2.1 + 1)).1 ≠ 0
        · rw [if_pos a7] at hc; exact ih _ _ _ (by decide) c hc
        rw [if_neg a7] at hc
        rcases List.mem_append.1 hc with q | q
        · rcases List.mem_append.1 q with q | q
          · exact ih 3 k i (by decide) c q
          · exact ih 3 k _ (by decide) c q
        · have := List.mem_singleton.1 q
          omega
      · rw [if_neg a6] at hc; exact fl _ _ c hc
    · exact two 5 7 (by decide) (by decide)
    · have e : pz kd vl 0 (f + 1) 7 k i = (if kd i = 11 then (let r := pz kd vl 0 f 5 k (i + 1); if r.1 ≠ 0 then r else (let s := pz kd vl 0 f 7 k r.2.1; (s.1, s.2.1, r.2.2 ++ 3007 :: s.2.2))) else (0, i, [])) := rfl
      rw [e]
      by_cases a : kd i = 11
      · rw [if_pos a]; exact rest 5 7 3007 (by decide) (by decide) (by decide)
      · rw [if_neg a]; exact nil
    · exact two 6 9 (by decide) (by decide)
    · have e : pz kd vl 0 (f + 1) 9 k i = (if kd i = 12 then (let r := pz kd vl 0 f 6 k (i + 1); if r.1 ≠ 0 then r else (let s := pz kd vl 0 f 9 k r.2.1; (s.1, s.2.1, r.2.2 ++ 3008 :: s.2.2))) else (0, i, [])) := rfl
      rw [e]
      by_cases a : kd i = 12
      · rw [if_pos a]; exact rest 6 9 3008 (by decide) (by decide) (by decide)
      · rw [if_neg a]; exact nil
/-! A text read, line by line: fault, place, the land's numbers, its laws. -/
abbrev QL : Type := Int × Nat × (Int → Int) × (Int → List Int)
def nOk (kd vl : Nat → Int) (lo hi : Int) (i : Nat) : Bool := decide (kd i = 23 ∧ lo ≤ vl i ∧ vl i ≤ hi)
theorem nOk_iff {kd vl : Nat → Int} {lo hi : Int} {i : Nat} : nOk kd vl lo hi i = true ↔ kd i = 23 ∧ lo ≤ vl i ∧ vl i ≤ hi := by unfold nOk; exact decide_eq_true_iff
def nW (kd : Nat → Int) (i : Nat) : Int := if kd i = 23 then 3 else 2
theorem nW_b (kd : Nat → Int) (i : Nat) : 1 ≤ nW kd i ∧ nW kd i ≤ 4 := by unfold nW; split <;> decide
noncomputable def pOcc (A : Int → Int) (k : Int) : Bool := @decide (A (10 + k) = 1 ∨ rHome A k) (Classical.propDecidable _)
theorem pOcc_iff {A : Int → Int} {k : Int} : pOcc A k = true ↔ (A (10 + k) = 1 ∨ rHome A k) := by unfold pOcc; exact @decide_eq_true_iff _ (Classical.propDecidable _)
def cAt (vl : Nat → Int) (A : Int → Int) (i : Nat) : Int := A 1 * vl (i + 1) + vl i
noncomputable def pCell (kd vl : Nat → Int) (A : Int → Int) (i : Nat) : Int × Nat × List Int := if nOk kd vl 0 (A 1 - 1) i = true then (if nOk kd vl 0 (A 2 - 1) (i + 1) = true then (if pOcc A (cAt vl A i) = true then pFl kd 3 (i + 1) else (0, i + 2, [])) else pFl kd (nW kd (i + 1)) (i + 1)) else pFl kd (nW kd i) i
def lup (L : Int → List Int) (l : Int) (c : List Int) : Int → List Int := fun q => if q = l then c else L q
def toQL (r : Int × Nat × List Int) (A : Int → Int) (L : Int → List Int) : QL := (r.1, r.2.1, A, L)
def pLw (kd vl : Nat → Int) (f i : Nat) : Int × Nat × List Int := pz kd vl (kd i - 4) f (if kd i = 4 then 3 else 8) 0 (i + 2)
noncomputable def pLine (kd vl : Nat → Int) (f : Nat) (A : Int → Int) (L : Int → List Int) (i : Nat) : QL :=
  if kd i = 1 then (if (pCell kd vl A (i + 1)).1 ≠ 0 then toQL (pCell kd vl A (i + 1)) A L else (0, i + 3, aup A (10 + cAt vl A (i + 1)) 1, L))
  else if kd i = 2 then (if A 3 = 6 then toQL (pFl kd 4 i) A L else if (pCell kd vl A (i + 1)).1 ≠ 0 then toQL (pCell kd vl A (i + 1)) A L else if kd (i + 3) ≠ 3 then toQL (pFl kd 2 (i + 3)) A L else if nOk kd vl 0 999 (i + 4) = true then (0, i + 5, aup (aup (aup A (46 + A 3) (cAt vl A (i + 1))) (54 + A 3) (vl (i + 4))) 3 (A 3 + 1), L) else toQL (pFl kd (nW kd (i + 4)) (i + 4)) A L)
  else if kd i = 4 ∨ kd i = 5 then (if kd (i + 1) ≠ 31 then toQL (pFl kd 2 (i + 1)) A L else if (pLw kd vl f i).1 ≠ 0 then toQL (pLw kd vl f i) A L else (0, (pLw kd vl f i).2.1, A, lup L (kd i - 4) (pLw kd vl f i).2.2))
  else if kd i = 6 then (if nOk kd vl 0 9 (i + 1) = true then (0, i + 2, aup A 52 (vl (i + 1)), L) else toQL (pFl kd (nW kd (i + 1)) (i + 1)) A L)
  else if kd i = 7 then (if nOk kd vl 0 999 (i + 1) = true then (0, i + 2, aup A 53 (vl (i + 1)), L) else toQL (pFl kd (nW kd (i + 1)) (i + 1)) A L)
  else toQL (pFl kd 2 i) A L
noncomputable def pLns (kd vl : Nat → Int) (f : Nat) : Nat → (Int → Int) → (Int → List Int) → Nat → QL
  | 0 => fun A L i => (9, i, A, L)
  | g + 1 => fun A L i => if kd i = 24 then (0, i, A, L) else if (pLine kd vl f A L i).1 ≠ 0 then pLine kd vl f A L i else if kd (pLine kd vl f A L i).2.1 = 30 then pLns kd vl f g (aup (pLine kd vl f A L i).2.2.1 0 ((pLine kd vl f A L i).2.2.1 0 + 1)) (pLine kd vl f A L i).2.2.2 ((pLine kd vl f A L i).2.1 + 1) else toQL (pFl kd 2 (pLine kd vl f A L i).2.1) A L
def lFn (c : List Int) : Int → Int := fun i => c.getD i.toNat 0
def lOk (l : Int) (c : List Int) : Prop := (1 ≤ c.length ∧ c.length ≤ 900) ∧ lawOk (lFn c) c.length ∧ lawHi (lFn c) c.length = 1 ∧ (l = 0 → ∀ q : Nat, q < c.length → c.getD q 0 ≠ 1004)
/-- a land as far as it was read -/
def pOk (A : Int → Int) (L : Int → List Int) : Prop := (2 ≤ A 1 ∧ A 1 ≤ 6) ∧ (2 ≤ A 2 ∧ A 2 ≤ 6) ∧ (0 ≤ A 3 ∧ A 3 ≤ 6) ∧ (∀ k, 0 ≤ k → k < 36 → A (10 + k) = 0 ∨ A (10 + k) = 1) ∧ (∀ e, 0 ≤ e → e < A 3 → (0 ≤ A (46 + e) ∧ A (46 + e) < A 1 * A 2) ∧ 0 ≤ A (54 + e) ∧ A (54 + e) ≤ 999) ∧ (0 ≤ A 52 ∧ A 52 ≤ 9) ∧ (∀ j, (60 ≤ j ∧ j < 258) ∨ (330 ≤ j ∧ j < 3474) → A j = 0) ∧ (∀ j, 258 ≤ j → j < 330 → A j = -1) ∧ ∀ l, l = 0 ∨ l = 1 → L l = [] ∨ lOk l (L l)
theorem cAt_b {vl : Nat → Int} {A : Int → Int} {i : Nat} (h1 : 2 ≤ A 1 ∧ A 1 ≤ 6) (h2 : 2 ≤ A 2 ∧ A 2 ≤ 6) (hx : 0 ≤ vl i ∧ vl i ≤ A 1 - 1) (hy : 0 ≤ vl (i + 1) ∧ vl (i + 1) ≤ A 2 - 1) : 0 ≤ cAt vl A i ∧ cAt vl A i < A 1 * A 2 ∧ A 1 * A 2 ≤ 36 := by
  have c := rSt_zero h1 h2
  have a := Int.mul_le_mul_of_nonneg_left hy.2 (show 0 ≤ A 1 by omega)
  have a0 := Int.mul_nonneg (show 0 ≤ A 1 by omega) hy.1
  rw [Int.mul_sub, Int.mul_one] at a
  unfold cAt
  exact ⟨(by omega), (by omega), c.2⟩
theorem pCell_ok {kd vl : Nat → Int} {A : Int → Int} {i T : Nat} (tk : tkOk kd vl T) (hi : i ≤ T) (h1 : 2 ≤ A 1 ∧ A 1 ≤ 6) (h2 : 2 ≤ A 2 ∧ A 2 ≤ 6) : ((pCell kd vl A i).1 = 0 → i + 2 ≤ T ∧ (0 ≤ vl i ∧ vl i ≤ A 1 - 1) ∧ (0 ≤ vl (i + 1) ∧ vl (i + 1) ≤ A 2 - 1) ∧ kd i = 23 ∧ kd (i + 1) = 23 ∧ A (10 + cAt vl A i) ≠ 1 ∧ ¬ rHome A (cAt vl A i)) ∧ ((pCell kd vl A i).1 ≠ 0 → (1 ≤ (pCell kd vl A i).1 ∧ (pCell kd vl A i).1 ≤ 4) ∧ (pCell kd vl A i).2.1 ≤ T) := by
  have fl : ∀ (w : Int) (j : Nat), 1 ≤ w ∧ w ≤ 4 → (pFl kd w j).1 ≠ 0 ∧ 1 ≤ (pFl kd w j).1 ∧ (pFl kd w j).1 ≤ 4 := fun w j hw => by
    show (if kd j = 25 then (1 : Int) else w) ≠ 0 ∧ 1 ≤ (if kd j = 25 then (1 : Int) else w) ∧ (if kd j = 25 then (1 : Int) else w) ≤ 4
    split <;> omega
  unfold pCell
  by_cases a1 : nOk kd vl 0 (A 1 - 1) i = true
  · rw [if_pos a1]
    have b1 := nOk_iff.1 a1
    have l1 := tk.lt hi (by omega) (by omega)
    by_cases a2 : nOk kd vl 0 (A 2 - 1) (i + 1) = true
    · rw [if_pos a2]
      have b2 := nOk_iff.1 a2
      have l2 := tk.lt (show i + 1 ≤ T by omega) (by omega) (by omega)
      by_cases a3 : pOcc A (cAt vl A i) = true
      · rw [if_pos a3]
        exact ⟨fun z => absurd z (fl 3 (i + 1) (by decide)).1, fun _ => ⟨(fl 3 (i + 1) (by decide)).2, l1⟩⟩
      · rw [if_neg a3]
        have b3 := fun z => a3 (pOcc_iff.2 z)
        exact ⟨fun _ => ⟨l2, b1.2, b2.2, b1.1, b2.1, fun z => b3 (Or.inl z), fun z => b3 (Or.inr z)⟩, fun z => absurd rfl z⟩
    · rw [if_neg a2]
      exact ⟨fun z => absurd z (fl _ (i + 1) (nW_b kd _)).1, fun _ => ⟨(fl _ (i + 1) (nW_b kd _)).2, l1⟩⟩
  · rw [if_neg a1]
    exact ⟨fun z => absurd z (fl _ i (nW_b kd _)).1, fun _ => ⟨(fl _ i (nW_b kd _)).2, hi⟩⟩
theorem pLw_ok {kd vl : Nat → Int} {f i T : Nat} (tk : tkOk kd vl T) (hlen : (pLw kd vl f i).2.2.length ≤ 900) (hk : kd i = 4 ∨ kd i = 5) (h0 : (pLw kd vl f i).1 = 0) : lOk (kd i - 4) (pLw kd vl f i).2.2 := by
  have hs : (if kd i = 4 then 3 else 8) ≤ 9 := by split <;> decide
  have ht := pz_ty (m := kd i - 4) tk.2.2.2 f (if kd i = 4 then 3 else 8) 0 (i + 2) hs (by decide) h0 (lFn (pLw kd vl f i).2.2) 0 0 (fun q hq => by
    show (pLw kd vl f i).2.2.getD ((0 + q : Nat) : Int).toNat 0 = _
    rw [show ((0 + q : Nat) : Int).toNat = q by omega]; rfl) (by decide) (by split <;> decide) (by split <;> rfl) (fun z => by split at z <;> omega)
  have ht2 : tyG (lFn (pLw kd vl f i).2.2) 0 (0 + (pLw kd vl f i).2.2.length) 0 (5 ≤ (if kd i = 4 then 3 else 8)) := ht
  rw [Nat.zero_add] at ht2
  refine ⟨⟨?_, hlen⟩, fun j hj => ht2.1 j (by omega) hj, ht2.2.1, fun z q hq => ?_⟩
  · have := ht2.2.1
    by_cases z : (pLw kd vl f i).2.2.length = 0
    · rw [z] at this
      have : (0 : Int) = 0 + 1 := this
      omega
    · omega
  · have e4 : kd i = 4 := (by omega)
    have : pLw kd vl f i = pz kd vl 0 f 3 0 (i + 2) := by unfold pLw; rw [if_pos e4, e4]; rfl
    rw [this] at hq ⊢
    refine pz_no4 tk.2.2.2 f 3 0 (i + 2) (by decide) _ ?_
    rw [List.getD_eq_getElem?_getD, List.getElem?_eq_getElem hq]
    exact List.getElem_mem hq
theorem pLine_ok {kd vl : Nat → Int} {f i T : Nat} {A : Int → Int} {L : Int → List Int} (tk : tkOk kd vl T) (hT : T ≤ 900) (hi : i ≤ T) (hf : 12 * T + 20 < f) (h24 : kd i ≠ 24) (h : pOk A L) : ((pLine kd vl f A L i).1 = 0 → i + 1 ≤ (pLine kd vl f A L i).2.1 ∧ (pLine kd vl f A L i).2.1 ≤ T ∧ pOk (pLine kd vl f A L i).2.2.1 (pLine kd vl f A L i).2.2.2) ∧ ((pLine kd vl f A L i).1 ≠ 0 → (1 ≤ (pLine kd vl f A L i).1 ∧ (pLine kd vl f A L i).1 ≤ 4) ∧ (pLine kd vl f A L i).2.1 ≤ T) := by
  have fl : ∀ (w : Int) (j : Nat), 1 ≤ w ∧ w ≤ 4 → j ≤ T → ((toQL (pFl kd w j) A L).1 = 0 → i + 1 ≤ (toQL (pFl kd w j) A L).2.1 ∧ (toQL (pFl kd w j) A L).2.1 ≤ T ∧ pOk (toQL (pFl kd w j) A L).2.2.1 (toQL (pFl kd w j) A L).2.2.2) ∧ ((toQL (pFl kd w j) A L).1 ≠ 0 → (1 ≤ (toQL (pFl kd w j) A L).1 ∧ (toQL (pFl kd w j) A L).1 ≤ 4) ∧ (toQL (pFl kd w j) A L).2.1 ≤ T) := fun w j hw hj => by
    have q : (pFl kd w j).1 ≠ 0 ∧ 1 ≤ (pFl kd w j).1 ∧ (pFl kd w j).1 ≤ 4 := by
      show (if kd j = 25 then (1 : Int) else w) ≠ 0 ∧ 1 ≤ (if kd j = 25 then (1 : Int) else w) ∧ (if kd j = 25 then (1 : Int) else w) ≤ 4
      split <;> omega
    exact ⟨fun z => absurd z q.1, fun _ => ⟨q.2, hj⟩⟩
  have bad : ∀ r : Int × Nat × List Int, r.1 ≠ 0 → (1 ≤ r.1 ∧ r.1 ≤ 4) ∧ r.2.1 ≤ T → ((toQL r A L).1 = 0 → i + 1 ≤ (toQL r A L).2.1 ∧ (toQL r A L).2.1 ≤ T ∧ pOk (toQL r A L).2.2.1 (toQL r A L).2.2.2) ∧ ((toQL r A L).1 ≠ 0 → (1 ≤ (toQL r A L).1 ∧ (toQL r A L).1 ≤ 4) ∧ (toQL r A L).2.1 ≤ T) := fun r z q => ⟨fun y => absurd y z, fun _ => q⟩
  have good : ∀ (j : Nat) (B : Int → Int) (K : Int → List Int), i + 1 ≤ j → j ≤ T → pOk B K → (((0, j, B, K) : QL).1 = 0 → i + 1 ≤ ((0, j, B, K) : QL).2.1 ∧ ((0, j, B, K) : QL).2.1 ≤ T ∧ pOk ((0, j, B, K) : QL).2.2.1 ((0, j, B, K) : QL).2.2.2) ∧ (((0, j, B, K) : QL).1 ≠ 0 → (1 ≤ ((0, j, B, K) : QL).1 ∧ ((0, j, B, K) : QL).1 ≤ 4) ∧ ((0, j, B, K) : QL).2.1 ≤ T) := fun j B K q1 q2 q3 => ⟨fun _ => ⟨q1, q2, q3⟩, fun z => absurd rfl z⟩
  obtain ⟨p1, p2, p3, p4, p5, p6, p7, p8, p9⟩ := h
  unfold pLine
  by_cases a1 : kd i = 1
  · rw [if_pos a1]
    have l1 := tk.lt hi (by omega) (by omega)
    have cc := pCell_ok (A := A) tk (show i + 1 ≤ T by omega) p1 p2
    by_cases a2 : (pCell kd vl A (i + 1)).1 ≠ 0
    · rw [if_pos a2]; exact bad _ a2 (cc.2 a2)
    · rw [if_neg a2]
      have c1 := cc.1 (Classical.byContradiction a2)
      have cb := cAt_b p1 p2 c1.2.1 c1.2.2.1
      refine good _ _ _ (by omega) (by omega) ?_
      generalize cAt vl A (i + 1) = k at *
      have e : ∀ j, j ≠ 10 + k → aup A (10 + k) 1 j = A j := fun j hj => aup_ne hj
      refine ⟨by rw [e 1 (by omega)]; exact p1, by rw [e 2 (by omega)]; exact p2, by rw [e 3 (by omega)]; exact p3, fun q q0 q1 => ?_, fun q q0 q1 => ?_, by rw [e 52 (by omega)]; exact p6, fun j hj => by rw [e j (by omega)]; exact p7 j hj, fun j j0 j1 => by rw [e j (by omega)]; exact p8 j j0 j1, p9⟩
      · by_cases z : q = k
        · rw [z, aup_self]; exact Or.inr rfl
        · rw [e _ (by omega)]; exact p4 q q0 q1
      · rw [e 3 (by omega)] at q1
        rw [e (46 + q) (by omega), e (54 + q) (by omega), e 1 (by omega), e 2 (by omega)]; exact p5 q q0 q1
  rw [if_neg a1]
  by_cases a2 : kd i = 2
  · rw [if_pos a2]
    have l1 := tk.lt hi (by omega) (by omega)
    by_cases a3 : A 3 = 6
    · rw [if_pos a3]; exact fl 4 i (by decide) hi
    rw [if_neg a3]
    have cc := pCell_ok (A := A) tk (show i + 1 ≤ T by omega) p1 p2
    by_cases a4 : (pCell kd vl A (i + 1)).1 ≠ 0
    · rw [if_pos a4]; exact bad _ a4 (cc.2 a4)
    rw [if_neg a4]
    have c1 := cc.1 (Classical.byContradiction a4)
    have cb := cAt_b p1 p2 c1.2.1 c1.2.2.1
    by_cases a5 : kd (i + 3) ≠ 3
    · rw [if_pos a5]; exact fl 2 (i + 3) (by decide) (by omega)
    rw [if_neg a5]
    have a5' : kd (i + 3) = 3 := Classical.byContradiction a5
    have l3 := tk.lt (show i + 3 ≤ T by omega) (by omega) (by omega)
    by_cases a6 : nOk kd vl 0 999 (i + 4) = true
    · rw [if_pos a6]
      have b6 := nOk_iff.1 a6
      have l4 := tk.lt (show i + 4 ≤ T by omega) (by omega) (by omega)
      refine good _ _ _ (by omega) (by omega) ?_
      generalize cAt vl A (i + 1) = k at *
      generalize vl (i + 4) = y at *
      have e3 : (aup (aup (aup A (46 + A 3) k) (54 + A 3) y) 3 (A 3 + 1)) 3 = A 3 + 1 := aup_self _ _ _
      have eh : (aup (aup (aup A (46 + A 3) k) (54 + A 3) y) 3 (A 3 + 1)) (46 + A 3) = k := by rw [aup_ne (by omega), aup_ne (by omega), aup_self]
      have ey : (aup (aup (aup A (46 + A 3) k) (54 + A 3) y) 3 (A 3 + 1)) (54 + A 3) = y := by rw [aup_ne (by omega), aup_self]
      have e : ∀ j, j ≠ 3 → j ≠ 46 + A 3 → j ≠ 54 + A 3 → (aup (aup (aup A (46 + A 3) k) (54 + A 3) y) 3 (A 3 + 1)) j = A j := fun j j1 j2 j3 => by rw [aup_ne j1, aup_ne j3, aup_ne j2]
      generalize aup (aup (aup A (46 + A 3) k) (54 + A 3) y) 3 (A 3 + 1) = B at *
      refine ⟨by rw [e 1 (by omega) (by omega) (by omega)]; exact p1, by rw [e 2 (by omega) (by omega) (by omega)]; exact p2, by rw [e3]; omega, fun q q0 q1 => ?_, fun q q0 q1 => ?_, by rw [e 52 (by omega) (by omega) (by omega)]; exact p6, fun j hj => by rw [e j (by omega) (by omega) (by omega)]; exact p7 j hj, fun j j0 j1 => by rw [e j (by omega) (by omega) (by omega)]; exact p8 j j0 j1, p9⟩
      · rw [e _ (by omega) (by omega) (by omega)]; exact p4 q q0 q1
      · rw [e3] at q1
        rw [e 1 (by omega) (by omega) (by omega), e 2 (by omega) (by omega) (by omega)]
        by_cases z : q = A 3
        · rw [z, eh, ey]; exact ⟨⟨cb.1, cb.2.1⟩, b6.2⟩
        · rw [e (46 + q) (by omega) (by omega) (by omega), e (54 + q) (by omega) (by omega) (by omega)]; exact p5 q q0 (by omega)
    · rw [if_neg a6]; exact fl _ (i + 4) (nW_b kd _) (by omega)
  rw [if_neg a2]
  by_cases a3 : kd i = 4 ∨ kd i = 5
  · rw [if_pos a3]
    have l1 := tk.lt hi (by omega) (by omega)
    by_cases a4 : kd (i + 1) ≠ 31
    · rw [if_pos a4]; exact fl 2 (i + 1) (by decide) (by omega)
    rw [if_neg a4]
    have a4' : kd (i + 1) = 31 := Classical.byContradiction a4
    have l2 := tk.lt (show i + 1 ≤ T by omega) (by omega) (by omega)
    have hs : (if kd i = 4 then 3 else 8) ≤ 9 := by split <;> decide
    have hr : pRes T (i + 2) (pStp (if kd i = 4 then 3 else 8)) (pLw kd vl f i) := pz_res (m := kd i - 4) tk f (if kd i = 4 then 3 else 8) 0 (i + 2) hs (by omega) (by
      have : pRk (if kd i = 4 then 3 else 8) ≤ 6 := by split <;> decide
      omega)
    by_cases a5 : (pLw kd vl f i).1 ≠ 0
    · rw [if_pos a5]
      refine bad _ a5 ?_
      rcases hr with q | q
      · exact absurd q.1 a5
      · exact ⟨q.1, q.2.2⟩
    · rw [if_neg a5]
      have a5' : (pLw kd vl f i).1 = 0 := Classical.byContradiction a5
      rcases hr with q | q
      · refine good _ _ _ (by omega) (by omega) ⟨p1, p2, p3, p4, p5, p6, p7, p8, fun l hl => ?_⟩
        unfold lup
        by_cases z : l = kd i - 4
        · rw [if_pos z, z]; exact Or.inr (pLw_ok tk (by omega) a3 a5')
        · rw [if_neg z]; exact p9 l hl
      · exact absurd a5' (by omega)
  rw [if_neg a3]
  have one : ∀ (j v : Int), (j = 52 ∧ 0 ≤ v ∧ v ≤ 9) ∨ j = 53 → pOk (aup A j v) L := fun j v hj => by
    have e : ∀ q, q ≠ j → aup A j v q = A q := fun q hq => aup_ne hq
    refine ⟨by rw [e 1 (by omega)]; exact p1, by rw [e 2 (by omega)]; exact p2, by rw [e 3 (by omega)]; exact p3, fun q q0 q1 => by rw [e _ (by omega)]; exact p4 q q0 q1, fun q q0 q1 => ?_, ?_, fun q hq => by rw [e q (by omega)]; exact p7 q hq, fun q q0 q1 => by rw [e q (by omega)]; exact p8 q q0 q1, p9⟩
    · rw [e 3 (by omega)] at q1
      rw [e (46 + q) (by omega), e (54 + q) (by omega), e 1 (by omega), e 2 (by omega)]; exact p5 q q0 q1
    · by_cases z : j = 52
      · subst z; rw [aup_self]; omega
      · rw [e 52 (fun y => z y.symm)]; exact p6
  by_cases a4 : kd i = 6
  · rw [if_pos a4]
    have l1 := tk.lt hi (by omega) (by omega)
    by_cases a6 : nOk kd vl 0 9 (i + 1) = true
    · rw [if_pos a6]
      have b6 := nOk_iff.1 a6
      have l4 := tk.lt (show i + 1 ≤ T by omega) (by omega) (by omega)
      exact good _ _ _ (by omega) (by omega) (one 52 _ (Or.inl ⟨rfl, b6.2⟩))
    · rw [if_neg a6]; exact fl _ (i + 1) (nW_b kd _) (by omega)
  rw [if_neg a4]
  by_cases a5 : kd i = 7
  · rw [if_pos a5]
    have l1 := tk.lt hi (by omega) (by omega)
    by_cases a6 : nOk kd vl 0 999 (i + 1) = true
    · rw [if_pos a6]
      have b6 := nOk_iff.1 a6
      have l4 := tk.lt (show i + 1 ≤ T by omega) (by omega) (by omega)
      exact good _ _ _ (by omega) (by omega) (one 53 _ (Or.inr rfl))
    · rw [if_neg a6]; exact fl _ (i + 1) (nW_b kd _) (by omega)
  rw [if_neg a5]; exact fl 2 i (by decide) hi
