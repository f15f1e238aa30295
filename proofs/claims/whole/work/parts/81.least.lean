/-- the least from a cell on, by how many cells -/
noncomputable def wM (nx : Int → Int → Int) (op : Int → Prop) (pr f : Int → Int) (k : Int) : Nat → Int := by
  classical
  exact fun n => Nat.rec (motive := fun _ => Int) 268435456 (fun t b => if nx k (t + 1) ≠ -1 ∧ op (nx k (t + 1)) then (if b ≤ f (nx k (t + 1)) + pr (nx k (t + 1)) then b else f (nx k (t + 1)) + pr (nx k (t + 1))) else b) n
noncomputable def wL (nx : Int → Int → Int) (op : Int → Prop) (pr : Int → Int) (to : Int) : Nat → Int → Int
  | 0 => fun k => if k = to then 0 else 268435456
  | n + 1 => fun k => wM nx op pr (wL nx op pr to n) k 4
section Least81
variable {nx : Int → Int → Int} {op : Int → Prop} {pr f : Int → Int} {to : Int}
theorem wM_yes {k : Int} {t : Nat} (h : nx k (t + 1) ≠ -1 ∧ op (nx k (t + 1))) : wM nx op pr f k (t + 1) = if wM nx op pr f k t ≤ f (nx k (t + 1)) + pr (nx k (t + 1)) then wM nx op pr f k t else f (nx k (t + 1)) + pr (nx k (t + 1)) := by
  exact if_pos h
theorem wM_no {k : Int} {t : Nat} (h : ¬ (nx k (t + 1) ≠ -1 ∧ op (nx k (t + 1)))) : wM nx op pr f k (t + 1) = wM nx op pr f k t := by
  exact if_neg h
theorem wM_le {k : Int} : ∀ (n : Nat), wM nx op pr f k n ≤ 268435456 ∧ ∀ t : Nat, t < n → nx k (t + 1) ≠ -1 ∧ op (nx k (t + 1)) → wM nx op pr f k n ≤ f (nx k (t + 1)) + pr (nx k (t + 1)) := by
  intro n
  induction n with
  | zero => exact ⟨Int.le_refl _, fun t ht => absurd ht (by omega)⟩
  | succ n ih =>
    by_cases h : nx k (n + 1) ≠ -1 ∧ op (nx k (n + 1))
    · rw [wM_yes h]
      refine ⟨by split <;> omega, fun t ht q => ?_⟩
      by_cases e : t = n
      · rw [e]; split <;> omega
      · have := ih.2 t (by omega) q
        split <;> omega
    · rw [wM_no h]
      refine ⟨ih.1, fun t ht q => ?_⟩
      by_cases e : t = n
      · rw [e] at q; exact absurd q h
      · exact ih.2 t (by omega) q
theorem wM_is {k : Int} : ∀ (n : Nat), wM nx op pr f k n = 268435456 ∨ ∃ t : Nat, t < n ∧ (nx k (t + 1) ≠ -1 ∧ op (nx k (t + 1))) ∧ wM nx op pr f k n = f (nx k (t + 1)) + pr (nx k (t + 1)) := by
  intro n
  induction n with
  | zero => exact Or.inl rfl
  | succ n ih =>
    have old : wM nx op pr f k n = 268435456 ∨ ∃ t : Nat, t < n + 1 ∧ (nx k (t + 1) ≠ -1 ∧ op (nx k (t + 1))) ∧ wM nx op pr f k n = f (nx k (t + 1)) + pr (nx k (t + 1)) := by
      rcases ih with q | ⟨t, t0, t1, t2⟩
      · exact Or.inl q
      · exact Or.inr ⟨t, (by omega), t1, t2⟩
    by_cases h : nx k (n + 1) ≠ -1 ∧ op (nx k (n + 1))
    · rw [wM_yes h]
      by_cases c : wM nx op pr f k n ≤ f (nx k (n + 1)) + pr (nx k (n + 1))
      · rw [if_pos c]; exact old
      · rw [if_neg c]; exact Or.inr ⟨n, (by omega), h, rfl⟩
    · rw [wM_no h]; exact old
theorem wL_top (n : Nat) (k : Int) : wL nx op pr to n k ≤ 268435456 := by
  cases n with
  | zero => show (if k = to then (0 : Int) else 268435456) ≤ _; split <;> omega
  | succ n => exact (wM_le 4).1
theorem wL_low (hp : ∀ k, 0 ≤ pr k ∧ pr k ≤ 99) : ∀ (n : Nat) (k : Int), 0 ≤ wL nx op pr to n k := by
  intro n
  induction n with
  | zero => intro k; show 0 ≤ (if k = to then (0 : Int) else 268435456); split <;> omega
  | succ n ih =>
    intro k
    rcases wM_is (nx := nx) (op := op) (pr := pr) (f := wL nx op pr to n) (k := k) 4 with q | ⟨t, t0, t1, t2⟩
    · show 0 ≤ wM nx op pr (wL nx op pr to n) k 4
      rw [q]; omega
    · show 0 ≤ wM nx op pr (wL nx op pr to n) k 4
      have := ih (nx k (t + 1))
      have := hp (nx k (t + 1))
      rw [t2]; omega
theorem wL_le : ∀ (n : Nat) (k : Int) (ts : List Int), wOk nx op k ts → wEnd nx k ts = to → ts.length = n → wL nx op pr to n k ≤ wCost nx pr k ts := by
  intro n
  induction n with
  | zero =>
    intro k ts h1 h2 h3
    have : ts = [] := List.length_eq_zero_iff.1 h3
    subst this
    have : k = to := h2
    show (if k = to then (0 : Int) else 268435456) ≤ 0
    rw [if_pos this]; omega
  | succ n ih =>
    intro k ts h1 h2 h3
    cases ts with
    | nil => exact absurd h3 (by simp)
    | cons t ts =>
      have l := ih (nx k t) ts h1.2.2.2 h2 (by simpa using h3)
      have t1 := h1.1
      have m := (wM_le (nx := nx) (op := op) (pr := pr) (f := wL nx op pr to n) (k := k) 4).2 (t - 1).toNat (by omega)
      rw [show (((t - 1).toNat : Nat) : Int) + 1 = t by omega] at m
      have := m ⟨h1.2.1, h1.2.2.1⟩
      show wM nx op pr (wL nx op pr to n) k 4 ≤ pr (nx k t) + wCost nx pr (nx k t) ts
      omega
theorem wL_is (hp : ∀ k, 0 ≤ pr k ∧ pr k ≤ 99) : ∀ (n : Nat) (k : Int), wL nx op pr to n k < 268435456 → ∃ ts, wOk nx op k ts ∧ wEnd nx k ts = to ∧ ts.length = n ∧ wCost nx pr k ts = wL nx op pr to n k := by
  intro n
  induction n with
  | zero =>
    intro k h
    have e : k = to := by
      apply Classical.byContradiction
      intro z
      have : wL nx op pr to 0 k = 268435456 := if_neg z
      omega
    exact ⟨[], True.intro, e, rfl, (if_pos e).symm⟩
  | succ n ih =>
    intro k h
    rcases wM_is (nx := nx) (op := op) (pr := pr) (f := wL nx op pr to n) (k := k) 4 with q | ⟨t, t0, t1, t2⟩
    · have : wL nx op pr to (n + 1) k = 268435456 := q
      omega
    · have e : wL nx op pr to (n + 1) k = wL nx op pr to n (nx k (t + 1)) + pr (nx k (t + 1)) := t2
      have := hp (nx k (t + 1))
      obtain ⟨ts, a1, a2, a3, a4⟩ := ih (nx k (t + 1)) (by omega)
      refine ⟨((t : Int) + 1) :: ts, ⟨⟨(by omega), (by omega)⟩, t1.1, t1.2, a1⟩, a2, by simp [a3], ?_⟩
      show pr (nx k (t + 1)) + wCost nx pr (nx k (t + 1)) ts = _
      rw [a4, e]; omega
/-- the first turn of a least walk, and the walk -/
def wNx (nx : Int → Int → Int) (op : Int → Prop) (pr : Int → Int) (to : Int) (n : Nat) (k t : Int) : Prop := nx k t ≠ -1 ∧ op (nx k t) ∧ wL nx op pr to n (nx k t) + pr (nx k t) = wL nx op pr to (n + 1) k
noncomputable def wT (nx : Int → Int → Int) (op : Int → Prop) (pr : Int → Int) (to : Int) (n : Nat) (k : Int) : Int := by
  classical
  exact if wNx nx op pr to n k 1 then 1 else if wNx nx op pr to n k 2 then 2 else if wNx nx op pr to n k 3 then 3 else 4
noncomputable def wG (nx : Int → Int → Int) (op : Int → Prop) (pr : Int → Int) (to : Int) : Nat → Int → List Int
  | 0 => fun _ => []
  | n + 1 => fun k => wT nx op pr to n k :: wG nx op pr to n (nx k (wT nx op pr to n k))
theorem wT_is {n : Nat} {k : Int} (h : ∃ t, (1 ≤ t ∧ t ≤ 4) ∧ wNx nx op pr to n k t) : (1 ≤ wT nx op pr to n k ∧ wT nx op pr to n k ≤ 4) ∧ wNx nx op pr to n k (wT nx op pr to n k) ∧ ∀ t, 1 ≤ t → t < wT nx op pr to n k → ¬ wNx nx op pr to n k t := by
  obtain ⟨t, t0, t1⟩ := h
  rw [wT]
  split
  · rename_i h1
    exact ⟨⟨(by omega), (by omega)⟩, h1, fun t t0 t1 => absurd t1 (by omega)⟩
  rename_i h1
  split
  · rename_i h2
    refine ⟨⟨(by omega), (by omega)⟩, h2, fun t t0 t1 => ?_⟩
    rw [show t = 1 by omega]; exact h1
  rename_i h2
  split
  · rename_i h3
    refine ⟨⟨(by omega), (by omega)⟩, h3, fun t t0 t1 => ?_⟩
    have : t = 1 ∨ t = 2 := (by omega)
    rcases this with rfl | rfl <;> assumption
  rename_i h3
  refine ⟨⟨(by omega), (by omega)⟩, ?_, fun t t0 t1 => ?_⟩
  · have : t = 1 ∨ t = 2 ∨ t = 3 ∨ t = 4 := (by omega)
    rcases this with rfl | rfl | rfl | rfl
    · exact absurd t1 h1
    · exact absurd t1 h2
    · exact absurd t1 h3
    · exact t1
  · have : t = 1 ∨ t = 2 ∨ t = 3 := (by omega)
    rcases this with rfl | rfl | rfl <;> assumption
theorem wNx_of (hp : ∀ k, 0 ≤ pr k ∧ pr k ≤ 99) {n : Nat} {k : Int} (h : wL nx op pr to (n + 1) k < 268435456) : ∃ t, (1 ≤ t ∧ t ≤ 4) ∧ wNx nx op pr to n k t := by
  rcases wM_is (nx := nx) (op := op) (pr := pr) (f := wL nx op pr to n) (k := k) 4 with q | ⟨t, t0, t1, t2⟩
  · have : wL nx op pr to (n + 1) k = 268435456 := q
    omega
  · exact ⟨t + 1, ⟨(by omega), (by omega)⟩, t1.1, t1.2, t2.symm⟩
theorem wG_is (hp : ∀ k, 0 ≤ pr k ∧ pr k ≤ 99) : ∀ (n : Nat) (k : Int), wL nx op pr to n k < 268435456 → wOk nx op k (wG nx op pr to n k) ∧ wEnd nx k (wG nx op pr to n k) = to ∧ (wG nx op pr to n k).length = n ∧ wCost nx pr k (wG nx op pr to n k) = wL nx op pr to n k := by
  intro n
  induction n with
  | zero =>
    intro k h
    have e : k = to := by
      apply Classical.byContradiction
      intro z
      have : wL nx op pr to 0 k = 268435456 := if_neg z
      omega
    exact ⟨True.intro, e, rfl, (if_pos e).symm⟩
  | succ n ih =>
    intro k h
    obtain ⟨a, b, _⟩ := wT_is (wNx_of hp h)
    have := hp (nx k (wT nx op pr to n k))
    have b2 := b.2.2
    obtain ⟨c1, c2, c3, c4⟩ := ih (nx k (wT nx op pr to n k)) (by omega)
    refine ⟨⟨a, b.1, b.2.1, c1⟩, c2, ?_, ?_⟩
    · show (wG nx op pr to n (nx k (wT nx op pr to n k))).length + 1 = n + 1
      rw [c3]
    · show pr (nx k (wT nx op pr to n k)) + wCost nx pr (nx k (wT nx op pr to n k)) (wG nx op pr to n (nx k (wT nx op pr to n k))) = _
      rw [c4]; omega
theorem wG_first (hp : ∀ k, 0 ≤ pr k ∧ pr k ≤ 99) : ∀ (n : Nat) (k : Int) (us : List Int), wL nx op pr to n k < 268435456 → wOk nx op k us → wEnd nx k us = to → us.length = n → wCost nx pr k us = wL nx op pr to n k → wNum (wG nx op pr to n k) ≤ wNum us := by
  intro n
  induction n with
  | zero =>
    intro k us h h1 h2 h3 h4
    have : us = [] := List.length_eq_zero_iff.1 h3
    rw [this]; exact Int.le_refl 0
  | succ n ih =>
    intro k us h h1 h2 h3 h4
    cases us with
    | nil => exact absurd h3 (by simp)
    | cons u us =>
      obtain ⟨a, b, c⟩ := wT_is (wNx_of hp h)
      have h3' : us.length = n := by simpa using h3
      have lu := wL_le (pr := pr) n (nx k u) us h1.2.2.2 h2 h3'
      have u1 := h1.1
      have hc : pr (nx k u) + wCost nx pr (nx k u) us = wL nx op pr to (n + 1) k := h4
      have m := (wM_le (nx := nx) (op := op) (pr := pr) (f := wL nx op pr to n) (k := k) 4).2 (u - 1).toNat (by omega)
      rw [show (((u - 1).toNat : Nat) : Int) + 1 = u by omega] at m
      have m2 : wL nx op pr to (n + 1) k ≤ wL nx op pr to n (nx k u) + pr (nx k u) := m ⟨h1.2.1, h1.2.2.1⟩
      have un : wNx nx op pr to n k u := ⟨h1.2.1, h1.2.2.1, by omega⟩
      have tu : wT nx op pr to n k ≤ u := by
        rcases Int.lt_or_le u (wT nx op pr to n k) with q | q
        · exact absurd un (c u u1.1 q)
        · exact q
      have b2 := b.2.2
      have hpT := hp (nx k (wT nx op pr to n k))
      have hpu := hp (nx k u)
      obtain ⟨g1, g2, g3, g4⟩ := wG_is (nx := nx) (op := op) (to := to) hp n (nx k (wT nx op pr to n k)) (by omega)
      have gb := wNum_b (wG nx op pr to n (nx k (wT nx op pr to n k))) _ g1
      have ub := wNum_b us _ h1.2.2.2
      show (wT nx op pr to n k - 1) * (4 : Int) ^ (wG nx op pr to n (nx k (wT nx op pr to n k))).length + wNum (wG nx op pr to n (nx k (wT nx op pr to n k))) ≤ (u - 1) * (4 : Int) ^ us.length + wNum us
      by_cases e : wT nx op pr to n k = u
      · have := ih (nx k u) us (by omega) h1.2.2.2 h2 h3' (by omega)
        rw [e] at g3 ⊢
        rw [g3, h3']; omega
      · rw [g3] at gb ⊢
        rw [h3'] at ub ⊢
        generalize (4 : Int) ^ n = p at *
        generalize wNum (wG nx op pr to n (nx k (wT nx op pr to n k))) = w1 at *
        generalize wT nx op pr to n k = tt at *
        have ht : tt = 1 ∨ tt = 2 ∨ tt = 3 ∨ tt = 4 := (by omega)
        have hu : u = 1 ∨ u = 2 ∨ u = 3 ∨ u = 4 := (by omega)
        rcases ht with rfl | rfl | rfl | rfl <;> rcases hu with rfl | rfl | rfl | rfl <;> omega
/-- by how many cells the least walk goes -/
def wBy (f : Int → Int) (n v : Int) : Prop := (v = -1 ∧ ∀ i, 0 ≤ i → i ≤ n → 268435456 ≤ f i) ∨ ((0 ≤ v ∧ v ≤ n) ∧ f v < 268435456 ∧ ∀ i, 0 ≤ i → i ≤ n → f i < 268435456 → f v ≤ f i ∧ (i < v → f v < f i))
theorem wBy_best (hp : ∀ k, 0 ≤ pr k ∧ pr k ≤ 99) {s n v : Int} (hn : n ≤ 16) (h : wBy (fun i => wL nx op pr to i.toNat s) n v) : (v = -1 ∧ ∀ us, ¬ wIs nx op s to n us) ∨ ((0 ≤ v ∧ v ≤ n) ∧ wL nx op pr to v.toNat s < 268435456 ∧ wBest nx op pr s to n (wG nx op pr to v.toNat s)) := by
  rcases h with ⟨h1, h2⟩ | ⟨h1, h2, h3⟩
  · refine Or.inl ⟨h1, fun us hu => ?_⟩
    have a := wL_le (pr := pr) us.length s us hu.1 hu.2.1 rfl
    have b := wCost_b (nx := nx) hp us s
    have c : 268435456 ≤ wL nx op pr to (us.length : Int).toNat s := h2 us.length (by omega) hu.2.2
    rw [Int.toNat_natCast] at c
    have := hu.2.2
    omega
  · refine Or.inr ⟨h1, h2, ?_⟩
    have h2' : wL nx op pr to v.toNat s < 268435456 := h2
    obtain ⟨g1, g2, g3, g4⟩ := wG_is (nx := nx) (op := op) (to := to) hp v.toNat s h2'
    refine ⟨⟨g1, g2, by rw [g3]; omega⟩, fun us hu => ?_⟩
    have a := wL_le (pr := pr) us.length s us hu.1 hu.2.1 rfl
    have b := wCost_b (nx := nx) hp us s
    have hu3 := hu.2.2
    have c : wL nx op pr to (us.length : Int).toNat s < 268435456 → wL nx op pr to v.toNat s ≤ wL nx op pr to (us.length : Int).toNat s ∧ ((us.length : Int) < v → wL nx op pr to v.toNat s < wL nx op pr to (us.length : Int).toNat s) := h3 us.length (by omega) hu.2.2
    rw [Int.toNat_natCast] at c
    have c' := c (by omega)
    unfold wLe
    rw [g3, g4]
    rcases Int.lt_or_le (wL nx op pr to v.toNat s) (wCost nx pr s us) with q | q
    · exact Or.inl q
    · refine Or.inr ⟨(by omega), ?_⟩
      rcases Nat.lt_or_ge v.toNat us.length with w | w
      · exact Or.inl w
      · refine Or.inr ?_
        have e : us.length = v.toNat := by
          rcases Nat.lt_or_ge us.length v.toNat with y | y
          · have := c'.2 (by omega); omega
          · omega
        exact ⟨e.symm, wG_first hp v.toNat s us h2' hu.1 hu.2.1 e (by omega)⟩
end Least81
