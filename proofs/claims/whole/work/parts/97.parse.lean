/-- what a token says as an atom -/
def pWd (m k : Int) : Int := if k = 8 then 0 else if k = 9 then 1 else if k = 6 then 2 else if k = 2 then 3 else if k = 10 then (if m = 1 then 4 else -1) else -1
def pFl (kd : Nat → Int) (w : Int) (i : Nat) : Int × Nat × List Int := (if kd i = 25 then 1 else w, i, [])
/-- laws read: 0 atom, 1 term, 2 its rest, 3 sum, 4 its rest, 5 unit, 6 both, 7 its rest, 8 truth, 9 its rest; answers fault, place, codes -/
def pz (kd vl : Nat → Int) (m : Int) : Nat → Nat → Nat → Nat → Int × Nat × List Int
  | 0 => fun _ _ i => (9, i, [])
  | f + 1 => fun sel k i =>
    let two := fun (a b : Nat) => (let r := pz kd vl m f a k i; if r.1 ≠ 0 then r else (let s := pz kd vl m f b k r.2.1; (s.1, s.2.1, r.2.2 ++ s.2.2)))
    let rest := fun (a b : Nat) (c : Int) => (let r := pz kd vl m f a k (i + 1); if r.1 ≠ 0 then r else (let s := pz kd vl m f b k r.2.1; (s.1, s.2.1, r.2.2 ++ c :: s.2.2)))
    match sel with
    | 0 => if kd i = 23 then (0, i + 1, [vl i]) else if pWd m (kd i) ≠ -1 then (0, i + 1, [1000 + pWd m (kd i)]) else if kd i = 35 then (if k = 6 then pFl kd 4 i else (let r := pz kd vl m f 3 (k + 1) (i + 1); if r.1 ≠ 0 then r else if kd r.2.1 = 36 then (0, r.2.1 + 1, r.2.2) else pFl kd 2 r.2.1)) else pFl kd 2 i
    | 1 => two 0 2
    | 2 => if kd i = 34 then rest 0 2 3002 else (0, i, [])
    | 3 => two 1 4
    | 4 => if kd i = 32 then rest 1 4 3000 else if kd i = 33 then rest 1 4 3001 else (0, i, [])
    | 5 => if kd i = 13 then (if k = 6 then pFl kd 4 i else (let r := pz kd vl m f 5 (k + 1) (i + 1); if r.1 ≠ 0 then r else (0, r.2.1, r.2.2 ++ [3006]))) else if kd i = 37 then (if k = 6 then pFl kd 4 i else (let r := pz kd vl m f 8 (k + 1) (i + 1); if r.1 ≠ 0 then r else if kd r.2.1 = 38 then (0, r.2.1 + 1, r.2.2) else pFl kd 2 r.2.1)) else (let r := pz kd vl m f 3 k i; if r.1 ≠ 0 then r else if kd r.2.1 = 39 ∨ kd r.2.1 = 40 ∨ kd r.2.1 = 41 then (let s := pz kd vl m f 3 k (r.2.1 + 1); if s.1 ≠ 0 then s else (0, s.2.1, r.2.2 ++ s.2.2 ++ [kd r.2.1 - 39 + 3003])) else pFl kd 2 r.2.1)
    | 6 => two 5 7
    | 7 => if kd i = 11 then rest 5 7 3007 else (0, i, [])
    | 8 => two 6 9
    | 9 => if kd i = 12 then rest 6 9 3008 else (0, i, [])
    | _ => (9, i, [])
def pRk (sel : Nat) : Nat := [1, 2, 0, 3, 0, 4, 5, 0, 6, 0].getD sel 0
def tkOk (kd vl : Nat → Int) (T : Nat) : Prop := (kd T = 24 ∨ kd T = 25) ∧ (∀ i, i < T → kd i ≠ 24 ∧ kd i ≠ 25) ∧ (∀ i, 0 ≤ kd i ∧ kd i ≤ 41) ∧ ∀ i, kd i = 23 → 0 ≤ vl i ∧ vl i ≤ 999
theorem tkOk.lt {kd vl : Nat → Int} {T i : Nat} (h : tkOk kd vl T) (hi : i ≤ T) (h1 : kd i ≠ 24) (h2 : kd i ≠ 25) : i < T := by
  rcases Nat.lt_or_ge i T with q | q
  · exact q
  · have : i = T := (by omega)
    rw [this] at h1 h2
    rcases h.1 with z | z
    · exact absurd z h1
    · exact absurd z h2
/-- what an answer is like -/
def pRes (T i : Nat) (s : Nat) (r : Int × Nat × List Int) : Prop := (r.1 = 0 ∧ i + s ≤ r.2.1 ∧ r.2.1 ≤ T ∧ r.2.2.length ≤ r.2.1 - i) ∨ ((1 ≤ r.1 ∧ r.1 ≤ 4) ∧ i ≤ r.2.1 ∧ r.2.1 ≤ T)
def pStp (sel : Nat) : Nat := [1, 1, 0, 1, 0, 1, 1, 0, 1, 0].getD sel 0
theorem pFl_res {kd : Nat → Int} {w : Int} {T i j s : Nat} (hw : 1 ≤ w ∧ w ≤ 4) (hi : i ≤ j ∧ j ≤ T) : pRes T i s (pFl kd w j) := by
  refine Or.inr ⟨?_, hi.1, hi.2⟩
  show 1 ≤ (if kd j = 25 then (1 : Int) else w) ∧ (if kd j = 25 then (1 : Int) else w) ≤ 4
  split <;> omega
theorem pz_res {kd vl : Nat → Int} {m : Int} {T : Nat} (h : tkOk kd vl T) : ∀ (f sel k i : Nat), sel ≤ 9 → i ≤ T → 12 * (T - i) + pRk sel < f → pRes T i (pStp sel) (pz kd vl m f sel k i) := by
  intro f
  induction f with
  | zero => intro sel k i _ _ hf; exact absurd hf (by omega)
  | succ f ih =>
    intro sel k i hs hi hf
    have two : ∀ a b : Nat, a ≤ 9 → b ≤ 9 → pStp a = 1 → pStp b = 0 → pRk b = 0 → pRk a < pRk sel → pStp sel = 1 → pRes T i (pStp sel) (let r := pz kd vl m f a k i; if r.1 ≠ 0 then r else (let s := pz kd vl m f b k r.2.1; (s.1, s.2.1, r.2.2 ++ s.2.2))) := fun a b ha hb sa sb rb ra ss => by
      have r := ih a k i ha hi (by omega)
      rw [sa] at r
      show pRes T i (pStp sel) (if (pz kd vl m f a k i).1 ≠ 0 then _ else _)
      generalize pz kd vl m f a k i = r' at *
      rcases r with ⟨r1, r2, r3, r4⟩ | ⟨r1, r2, r3⟩
      · rw [if_neg (fun z => z r1)]
        have s := ih b k r'.2.1 hb r3 (by omega)
        rw [sb] at s
        show pRes T i (pStp sel) ((pz kd vl m f b k r'.2.1).1, (pz kd vl m f b k r'.2.1).2.1, r'.2.2 ++ (pz kd vl m f b k r'.2.1).2.2)
        generalize pz kd vl m f b k r'.2.1 = s' at *
        rcases s with ⟨s1, s2, s3, s4⟩ | ⟨s1, s2, s3⟩
        · refine Or.inl ⟨s1, ?_, s3, ?_⟩
          · show i + pStp sel ≤ s'.2.1; omega
          · show (r'.2.2 ++ s'.2.2).length ≤ s'.2.1 - i
            rw [List.length_append]; omega
        · exact Or.inr ⟨s1, by show i ≤ s'.2.1; omega, s3⟩
      · rw [if_pos (by omega)]; exact Or.inr ⟨r1, r2, r3⟩
    have rest : ∀ (a b : Nat) (c : Int), a ≤ 9 → b ≤ 9 → pStp a = 1 → pStp b = 0 → pRk b = 0 → pRk a ≤ 11 → i < T → pStp sel = 0 → pRes T i (pStp sel) (let r := pz kd vl m f a k (i + 1); if r.1 ≠ 0 then r else (let s := pz kd vl m f b k r.2.1; (s.1, s.2.1, r.2.2 ++ c :: s.2.2))) := fun a b c ha hb sa sb rb ra hl ss => by
      have r := ih a k (i + 1) ha (by omega) (by omega)
      rw [sa] at r
      show pRes T i (pStp sel) (if (pz kd vl m f a k (i + 1)).1 ≠ 0 then _ else _)
      generalize pz kd vl m f a k (i + 1) = r' at *
      rcases r with ⟨r1, r2, r3, r4⟩ | ⟨r1, r2, r3⟩
      · rw [if_neg (fun z => z r1)]
        have s := ih b k r'.2.1 hb r3 (by omega)
        rw [sb] at s
        show pRes T i (pStp sel) ((pz kd vl m f b k r'.2.1).1, (pz kd vl m f b k r'.2.1).2.1, r'.2.2 ++ c :: (pz kd vl m f b k r'.2.1).2.2)
        generalize pz kd vl m f b k r'.2.1 = s' at *
        rcases s with ⟨s1, s2, s3, s4⟩ | ⟨s1, s2, s3⟩
        · refine Or.inl ⟨s1, ?_, s3, ?_⟩
          · show i + pStp sel ≤ s'.2.1; omega
          · show (r'.2.2 ++ c :: s'.2.2).length ≤ s'.2.1 - i
            rw [List.length_append, List.length_cons]; omega
        · exact Or.inr ⟨s1, by show i ≤ s'.2.1; omega, s3⟩
      · rw [if_pos (by omega)]; exact Or.inr ⟨r1, by omega, r3⟩
    have fl : ∀ (w : Int) (j s : Nat), 1 ≤ w ∧ w ≤ 4 → i ≤ j ∧ j ≤ T → pRes T i s (pFl kd w j) := fun w j s hw hj => pFl_res hw hj
    have : sel = 0 ∨ sel = 1 ∨ sel = 2 ∨ sel = 3 ∨ sel = 4 ∨ sel = 5 ∨ sel = 6 ∨ sel = 7 ∨ sel = 8 ∨ sel = 9 := (by omega)
    rcases this with rfl | rfl | rfl | rfl | rfl | rfl | rfl | rfl | rfl | rfl
    · show pRes T i 1 (if kd i = 23 then _ else _)
      by_cases a : kd i = 23
      · rw [if_pos a]
        have := h.lt hi (by omega) (by omega)
        exact Or.inl ⟨rfl, Nat.le_refl _, by show i + 1 ≤ T; omega, by show 1 ≤ i + 1 - i; omega⟩
      rw [if_neg a]
      by_cases c : pWd m (kd i) ≠ -1
      · rw [if_pos c]
        have := h.lt hi (fun z => c (by rw [z]; rfl)) (fun z => c (by rw [z]; rfl))
        exact Or.inl ⟨rfl, Nat.le_refl _, by show i + 1 ≤ T; omega, by show 1 ≤ i + 1 - i; omega⟩
      rw [if_neg c]
      by_cases e : kd i = 35
      · rw [if_pos e]
        have hl := h.lt hi (by omega) (by omega)
        by_cases k6 : k = 6
        · rw [if_pos k6]; exact fl 4 i 1 (by decide) ⟨Nat.le_refl _, hi⟩
        rw [if_neg k6]
        have r := ih 3 (k + 1) (i + 1) (by decide) (by omega) (by show 12 * (T - (i + 1)) + 3 < f; have : 12 * (T - i) + 1 < f + 1 := hf; omega)
        show pRes T i 1 (if (pz kd vl m f 3 (k + 1) (i + 1)).1 ≠ 0 then _ else _)
        generalize pz kd vl m f 3 (k + 1) (i + 1) = r' at *
        rcases r with ⟨r1, r2, r3, r4⟩ | ⟨r1, r2, r3⟩
        · have r2' : i + 1 + 1 ≤ r'.2.1 := r2
          rw [if_neg (fun z => z r1)]
          by_cases g : kd r'.2.1 = 36
          · rw [if_pos g]
            have := h.lt r3 (by omega) (by omega)
            exact Or.inl ⟨rfl, by show i + 1 ≤ r'.2.1 + 1; omega, by show r'.2.1 + 1 ≤ T; omega, by show r'.2.2.length ≤ r'.2.1 + 1 - i; omega⟩
          · rw [if_neg g]; exact fl 2 _ 1 (by decide) ⟨by omega, r3⟩
        · rw [if_pos (by omega)]; exact Or.inr ⟨r1, by omega, r3⟩
      · rw [if_neg e]; exact fl 2 i 1 (by decide) ⟨Nat.le_refl _, hi⟩
    · exact two 0 2 (by decide) (by decide) rfl rfl rfl (by decide) rfl
    · show pRes T i 0 (if kd i = 34 then _ else _)
      by_cases a : kd i = 34
      · rw [if_pos a]; exact rest 0 2 3002 (by decide) (by decide) rfl rfl rfl (by decide) (h.lt hi (by omega) (by omega)) rfl
      · rw [if_neg a]; exact Or.inl ⟨rfl, Nat.le_refl _, hi, Nat.zero_le _⟩
    · exact two 1 4 (by decide) (by decide) rfl rfl rfl (by decide) rfl
    · show pRes T i 0 (if kd i = 32 then _ else _)
      by_cases a : kd i = 32
      · rw [if_pos a]; exact rest 1 4 3000 (by decide) (by decide) rfl rfl rfl (by decide) (h.lt hi (by omega) (by omega)) rfl
      · rw [if_neg a]
        by_cases c : kd i = 33
        · rw [if_pos c]; exact rest 1 4 3001 (by decide) (by decide) rfl rfl rfl (by decide) (h.lt hi (by omega) (by omega)) rfl
        · rw [if_neg c]; exact Or.inl ⟨rfl, Nat.le_refl _, hi, Nat.zero_le _⟩
    · show pRes T i 1 (if kd i = 13 then _ else _)
      have hf' : 12 * (T - i) + 4 < f + 1 := hf
      by_cases a : kd i = 13
      · rw [if_pos a]
        have hl := h.lt hi (by omega) (by omega)
        by_cases k6 : k = 6
        · rw [if_pos k6]; exact fl 4 i 1 (by decide) ⟨Nat.le_refl _, hi⟩
        rw [if_neg k6]
        have r := ih 5 (k + 1) (i + 1) (by decide) (by omega) (by show 12 * (T - (i + 1)) + 4 < f; omega)
        show pRes T i 1 (if (pz kd vl m f 5 (k + 1) (i + 1)).1 ≠ 0 then _ else _)
        generalize pz kd vl m f 5 (k + 1) (i + 1) = r' at *
        rcases r with ⟨r1, r2, r3, r4⟩ | ⟨r1, r2, r3⟩
        · have r2' : i + 1 + 1 ≤ r'.2.1 := r2
          rw [if_neg (fun z => z r1)]
          refine Or.inl ⟨rfl, by show i + 1 ≤ r'.2.1; omega, r3, ?_⟩
          show (r'.2.2 ++ [3006]).length ≤ r'.2.1 - i
          rw [List.length_append, show [(3006 : Int)].length = 1 from rfl]; omega
        · rw [if_pos (by omega)]; exact Or.inr ⟨r1, by omega, r3⟩
      rw [if_neg a]
      by_cases c : kd i = 37
      · rw [if_pos c]
        have hl := h.lt hi (by omega) (by omega)
        by_cases k6 : k = 6
        · rw [if_pos k6]; exact fl 4 i 1 (by decide) ⟨Nat.le_refl _, hi⟩
        rw [if_neg k6]
        have r := ih 8 (k + 1) (i + 1) (by decide) (by omega) (by show 12 * (T - (i + 1)) + 6 < f; omega)
        show pRes T i 1 (if (pz kd vl m f 8 (k + 1) (i + 1)).1 ≠ 0 then _ else _)
        generalize pz kd vl m f 8 (k + 1) (i + 1) = r' at *
        rcases r with ⟨r1, r2, r3, r4⟩ | ⟨r1, r2, r3⟩
        · have r2' : i + 1 + 1 ≤ r'.2.1 := r2
          rw [if_neg (fun z => z r1)]
          by_cases g : kd r'.2.1 = 38
          · rw [if_pos g]
            have := h.lt r3 (by omega) (by omega)
            exact Or.inl ⟨rfl, by show i + 1 ≤ r'.2.1 + 1; omega, by show r'.2.1 + 1 ≤ T; omega, by show r'.2.2.length ≤ r'.2.1 + 1 - i; omega⟩
          · rw [if_neg g]; exact fl 2 _ 1 (by decide) ⟨by omega, r3⟩
        · rw [if_pos (by omega)]; exact Or.inr ⟨r1, by omega, r3⟩
      rw [if_neg c]
      have r := ih 3 k i (by decide) hi (by show 12 * (T - i) + 3 < f; omega)
      show pRes T i 1 (if (pz kd vl m f 3 k i).1 ≠ 0 then _ else _)
      generalize pz kd vl m f 3 k i = r' at *
      rcases r with ⟨r1, r2, r3, r4⟩ | ⟨r1, r2, r3⟩
      · have r2' : i + 1 ≤ r'.2.1 := r2
        rw [if_neg (fun z => z r1)]
        by_cases g : kd r'.2.1 = 39 ∨ kd r'.2.1 = 40 ∨ kd r'.2.1 = 41
        · rw [if_pos g]
          have hl := h.lt r3 (by omega) (by omega)
          have s := ih 3 k (r'.2.1 + 1) (by decide) (by omega) (by show 12 * (T - (r'.2.1 + 1)) + 3 < f; omega)
          show pRes T i 1 (if (pz kd vl m f 3 k (r'.2.1 + 1)).1 ≠ 0 then _ else _)
          generalize pz kd vl m f 3 k (r'.2.1 + 1) = s' at *
          rcases s with ⟨s1, s2, s3, s4⟩ | ⟨s1, s2, s3⟩
          · have s2' : r'.2.1 + 1 + 1 ≤ s'.2.1 := s2
            rw [if_neg (fun z => z s1)]
            refine Or.inl ⟨rfl, by show i + 1 ≤ s'.2.1; omega, s3, ?_⟩
            show (r'.2.2 ++ s'.2.2 ++ [kd r'.2.1 - 39 + 3003]).length ≤ s'.2.1 - i
            rw [List.length_append, List.length_append, show [kd r'.2.1 - 39 + 3003].length = 1 from rfl]; omega
          · rw [if_pos (by omega)]; exact Or.inr ⟨s1, by omega, s3⟩
        · rw [if_neg g]; exact fl 2 _ 1 (by decide) ⟨by omega, r3⟩
      · rw [if_pos (by omega)]; exact Or.inr ⟨r1, r2, r3⟩
    · exact two 5 7 (by decide) (by decide) rfl rfl rfl (by decide) rfl
    · show pRes T i 0 (if kd i = 11 then _ else _)
      by_cases a : kd i = 11
      · rw [if_pos a]; exact rest 5 7 3007 (by decide) (by decide) rfl rfl rfl (by decide) (h.lt hi (by omega) (by omega)) rfl
      · rw [if_neg a]; exact Or.inl ⟨rfl, Nat.le_refl _, hi, Nat.zero_le _⟩
    · exact two 6 9 (by decide) (by decide) rfl rfl rfl (by decide) rfl
    · show pRes T i 0 (if kd i = 12 then _ else _)
      by_cases a : kd i = 12
      · rw [if_pos a]; exact rest 6 9 3008 (by decide) (by decide) rfl rfl rfl (by decide) (h.lt hi (by omega) (by omega)) rfl
      · rw [if_neg a]; exact Or.inl ⟨rfl, Nat.le_refl _, hi, Nat.zero_le _⟩
