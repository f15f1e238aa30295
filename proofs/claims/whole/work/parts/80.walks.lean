/-- walks over cells: nx where a turn leads, op what is open, pr what a cell costs -/
def wOk (nx : Int → Int → Int) (op : Int → Prop) : Int → List Int → Prop
  | _, [] => True
  | k, t :: ts => (1 ≤ t ∧ t ≤ 4) ∧ nx k t ≠ -1 ∧ op (nx k t) ∧ wOk nx op (nx k t) ts
def wEnd (nx : Int → Int → Int) : Int → List Int → Int
  | k, [] => k
  | k, t :: ts => wEnd nx (nx k t) ts
def wCost (nx : Int → Int → Int) (pr : Int → Int) : Int → List Int → Int
  | _, [] => 0
  | k, t :: ts => pr (nx k t) + wCost nx pr (nx k t) ts
def wHas (nx : Int → Int → Int) : Int → List Int → Int → Prop
  | _, [], _ => False
  | k, t :: ts, c => nx k t = c ∨ wHas nx (nx k t) ts c
def wNum : List Int → Int
  | [] => 0
  | t :: ts => (t - 1) * (4 : Int) ^ ts.length + wNum ts
section Walks80
variable {nx : Int → Int → Int} {op : Int → Prop} {pr : Int → Int}
theorem wOk_snoc {t : Int} : ∀ (ts : List Int) (k : Int), wOk nx op k (ts ++ [t]) ↔ wOk nx op k ts ∧ (1 ≤ t ∧ t ≤ 4) ∧ nx (wEnd nx k ts) t ≠ -1 ∧ op (nx (wEnd nx k ts) t)
  | [], k => ⟨fun h => ⟨True.intro, h.1, h.2.1, h.2.2.1⟩, fun h => ⟨h.2.1, h.2.2.1, h.2.2.2, True.intro⟩⟩
  | u :: us, k => by
    have ih := wOk_snoc (t := t) us (nx k u)
    exact ⟨fun h => ⟨⟨h.1, h.2.1, h.2.2.1, (ih.1 h.2.2.2).1⟩, (ih.1 h.2.2.2).2⟩, fun h => ⟨h.1.1, h.1.2.1, h.1.2.2.1, ih.2 ⟨h.1.2.2.2, h.2⟩⟩⟩
theorem wEnd_snoc {t : Int} : ∀ (ts : List Int) (k : Int), wEnd nx k (ts ++ [t]) = nx (wEnd nx k ts) t
  | [], _ => rfl
  | u :: us, k => wEnd_snoc us (nx k u)
theorem wCost_snoc {t : Int} : ∀ (ts : List Int) (k : Int), wCost nx pr k (ts ++ [t]) = wCost nx pr k ts + pr (nx (wEnd nx k ts) t)
  | [], k => by show pr (nx k t) + 0 = 0 + pr (nx k t); omega
  | u :: us, k => by
    have ih := wCost_snoc (t := t) us (nx k u)
    show pr (nx k u) + wCost nx pr (nx k u) (us ++ [t]) = pr (nx k u) + wCost nx pr (nx k u) us + pr (nx (wEnd nx (nx k u) us) t)
    rw [ih]; omega
theorem wHas_snoc {t c : Int} : ∀ (ts : List Int) (k : Int), wHas nx k (ts ++ [t]) c ↔ wHas nx k ts c ∨ nx (wEnd nx k ts) t = c
  | [], k => ⟨fun h => h.elim Or.inr False.elim, fun h => h.elim False.elim Or.inl⟩
  | u :: us, k => by
    have ih := wHas_snoc (t := t) (c := c) us (nx k u)
    refine ⟨fun h => ?_, fun h => ?_⟩
    · rcases h with h | h
      · exact Or.inl (Or.inl h)
      · rcases ih.1 h with h | h
        · exact Or.inl (Or.inr h)
        · exact Or.inr h
    · rcases h with (h | h) | h
      · exact Or.inl h
      · exact Or.inr (ih.2 (Or.inl h))
      · exact Or.inr (ih.2 (Or.inr h))
theorem wNum_snoc {t : Int} : ∀ (ts : List Int), wNum (ts ++ [t]) = wNum ts * 4 + (t - 1)
  | [] => by show (t - 1) * (4 : Int) ^ 0 + 0 = 0 * 4 + (t - 1); rw [Int.pow_zero]; omega
  | u :: us => by
    have ih := wNum_snoc (t := t) us
    show (u - 1) * (4 : Int) ^ (us ++ [t]).length + wNum (us ++ [t]) = ((u - 1) * (4 : Int) ^ us.length + wNum us) * 4 + (t - 1)
    rw [ih, List.length_append, show [t].length = 1 from rfl, Int.pow_succ, ← Int.mul_assoc]
    omega
theorem snoc_of : ∀ {us : List Int}, us ≠ [] → ∃ ts t, us = ts ++ [t]
  | [], h => absurd rfl h
  | [u], _ => ⟨[], u, rfl⟩
  | u :: v :: vs, _ => by
    obtain ⟨ts, t, h⟩ := snoc_of (us := v :: vs) (by simp)
    exact ⟨u :: ts, t, by rw [h]; rfl⟩
theorem wNum_b : ∀ (ts : List Int) (k : Int), wOk nx op k ts → 0 ≤ wNum ts ∧ wNum ts < (4 : Int) ^ ts.length
  | [], _, _ => ⟨Int.le_refl 0, by decide⟩
  | u :: us, k, h => by
    have ih := wNum_b us (nx k u) h.2.2.2
    have u1 := h.1
    show 0 ≤ (u - 1) * (4 : Int) ^ us.length + wNum us ∧ (u - 1) * (4 : Int) ^ us.length + wNum us < (4 : Int) ^ (us.length + 1)
    rw [Int.pow_succ]
    generalize (4 : Int) ^ us.length = p at *
    have p0 : 0 < p := by omega
    have : u = 1 ∨ u = 2 ∨ u = 3 ∨ u = 4 := by omega
    rcases this with rfl | rfl | rfl | rfl <;> omega
theorem wNum_inj : ∀ (ts us : List Int) (k : Int), wOk nx op k ts → wOk nx op k us → ts.length = us.length → wNum ts = wNum us → ts = us
  | [], [], _, _, _, _, _ => rfl
  | [], _ :: _, _, _, _, h, _ => absurd h (by simp)
  | _ :: _, [], _, _, _, h, _ => absurd h (by simp)
  | t :: ts, u :: us, k, h1, h2, hl, hn => by
    have b1 := wNum_b ts (nx k t) h1.2.2.2
    have b2 := wNum_b us (nx k u) h2.2.2.2
    have hl' : ts.length = us.length := by simpa using hl
    have hn' : (t - 1) * (4 : Int) ^ ts.length + wNum ts = (u - 1) * (4 : Int) ^ us.length + wNum us := hn
    have t1 := h1.1
    have u1 := h2.1
    rw [hl'] at b1 hn'
    have e : t = u ∧ wNum ts = wNum us := by
      generalize (4 : Int) ^ us.length = p at *
      have ht : t = 1 ∨ t = 2 ∨ t = 3 ∨ t = 4 := by omega
      have hu : u = 1 ∨ u = 2 ∨ u = 3 ∨ u = 4 := by omega
      rcases ht with rfl | rfl | rfl | rfl <;> rcases hu with rfl | rfl | rfl | rfl <;> omega
    obtain ⟨rfl, e2⟩ := e
    rw [wNum_inj ts us (nx k t) h1.2.2.2 h2.2.2.2 hl' e2]
theorem wCost_b (hp : ∀ k, 0 ≤ pr k ∧ pr k ≤ 99) : ∀ (ts : List Int) (k : Int), 0 ≤ wCost nx pr k ts ∧ wCost nx pr k ts ≤ 99 * ts.length
  | [], _ => ⟨Int.le_refl 0, Int.le_refl 0⟩
  | u :: us, k => by
    have ih := wCost_b hp us (nx k u)
    have := hp (nx k u)
    show 0 ≤ pr (nx k u) + wCost nx pr (nx k u) us ∧ pr (nx k u) + wCost nx pr (nx k u) us ≤ 99 * ((us.length + 1 : Nat) : Int)
    omega
/-- the i-th turn out of the number -/
theorem wNum_digit : ∀ (ts : List Int) (k : Int) (i : Nat), wOk nx op k ts → i < ts.length → wNum ts / (4 : Int) ^ (ts.length - 1 - i) % 4 = ts.getD i 0 - 1
  | [], _, _, _, h => absurd h (by simp)
  | t :: ts, k, 0, h, _ => by
    have b := wNum_b ts (nx k t) h.2.2.2
    have t1 := h.1
    show ((t - 1) * (4 : Int) ^ ts.length + wNum ts) / (4 : Int) ^ ((t :: ts).length - 1 - 0) % 4 = t - 1
    rw [show (t :: ts).length - 1 - 0 = ts.length by simp]
    generalize (4 : Int) ^ ts.length = p at *
    have p0 : 0 < p := by omega
    rw [Int.add_comm, Int.add_mul_ediv_right _ _ (by omega), Int.ediv_eq_zero_of_lt b.1 b.2]
    omega
  | t :: ts, k, i + 1, h, hi => by
    have hi' : i < ts.length := by simpa using hi
    have ih := wNum_digit ts (nx k t) i h.2.2.2 hi'
    show ((t - 1) * (4 : Int) ^ ts.length + wNum ts) / (4 : Int) ^ ((t :: ts).length - 1 - (i + 1)) % 4 = ts.getD i 0 - 1
    rw [show (t :: ts).length - 1 - (i + 1) = ts.length - 1 - i by simp; omega, ← ih]
    have e : (4 : Int) ^ ts.length = 4 ^ (ts.length - 1 - i) * (4 * 4 ^ i) := by
      have hw : ts.length = (ts.length - 1 - i) + (i + 1) := by omega
      have e1 : (4 : Int) ^ ts.length = (4 : Int) ^ ((ts.length - 1 - i) + (i + 1)) := congrArg (fun n => (4 : Int) ^ n) hw
      rw [e1, Int.pow_add, Int.pow_succ']
    have p0 : (0 : Int) < 4 ^ (ts.length - 1 - i) := Int.pow_pos (by decide)
    rw [e]
    generalize (4 : Int) ^ (ts.length - 1 - i) = p at *
    generalize (4 : Int) ^ i = r at *
    rw [Int.add_comm, show (t - 1) * (p * (4 * r)) = p * (4 * (r * (t - 1))) by rw [Int.mul_comm, Int.mul_assoc, Int.mul_assoc], Int.add_mul_ediv_left _ _ (by omega), Int.add_mul_emod_self_left]
/-- the best walk of at most n cells -/
def wIs (nx : Int → Int → Int) (op : Int → Prop) (s k n : Int) (ts : List Int) : Prop := wOk nx op s ts ∧ wEnd nx s ts = k ∧ (ts.length : Int) ≤ n
def wLe (nx : Int → Int → Int) (pr : Int → Int) (s : Int) (ts us : List Int) : Prop := wCost nx pr s ts < wCost nx pr s us ∨ (wCost nx pr s ts = wCost nx pr s us ∧ (ts.length < us.length ∨ (ts.length = us.length ∧ wNum ts ≤ wNum us)))
def wBest (nx : Int → Int → Int) (op : Int → Prop) (pr : Int → Int) (s k n : Int) (ts : List Int) : Prop := wIs nx op s k n ts ∧ ∀ us, wIs nx op s k n us → wLe nx pr s ts us
theorem wBest_eq {s k n : Int} {ts us : List Int} (h1 : wBest nx op pr s k n ts) (h2 : wBest nx op pr s k n us) : ts = us := by
  have a := h1.2 us h2.1
  have b := h2.2 ts h1.1
  unfold wLe at a b
  exact wNum_inj ts us s h1.1.1 h2.1.1 (by omega) (by omega)
/-- one cell more -/
theorem wBest_step {s k n : Int} (hn : 0 ≤ n) {lb : Int → List Int} {ex : Int → Prop} (h : ∀ j, (ex j ∧ wBest nx op pr s j n (lb j)) ∨ (¬ ex j ∧ ∀ us, ¬ wIs nx op s j n us)) {ts : List Int} (hw : wIs nx op s k (n + 1) ts) (old : ex k → wLe nx pr s ts (lb k)) (new : ∀ j t, ex j → ((lb j).length : Int) = n → 1 ≤ t → t ≤ 4 → nx j t = k → k ≠ -1 → op k → wLe nx pr s ts (lb j ++ [t]) ∨ ∃ us, ex k ∧ us = lb k ∧ wCost nx pr s us ≤ wCost nx pr s (lb j ++ [t])) : wBest nx op pr s k (n + 1) ts := by
  refine ⟨hw, fun us hu => ?_⟩
  by_cases c : (us.length : Int) ≤ n
  · rcases h k with q | q
    · have a := old q.1
      have b := q.2.2 us ⟨hu.1, hu.2.1, c⟩
      unfold wLe at *; omega
    · exact absurd ⟨hu.1, hu.2.1, c⟩ (q.2 us)
  · have hl := hu.2.2
    obtain ⟨p, t, rfl⟩ := snoc_of (us := us) (by intro z; rw [z] at c; exact c (by simpa using hn))
    have ho := (wOk_snoc p s).1 hu.1
    have he : nx (wEnd nx s p) t = k := (wEnd_snoc p s).symm.trans hu.2.1
    have lp : ((p ++ [t]).length : Int) = p.length + 1 := by simp
    have wp : wIs nx op s (wEnd nx s p) n p := ⟨ho.1, rfl, by omega⟩
    rcases h (wEnd nx s p) with q | q
    · generalize wEnd nx s p = j at *
      have bj := q.2.2 p wp
      have ej : wEnd nx s (lb j) = j := q.2.1.2.1
      have okj : wOk nx op s (lb j ++ [t]) := (wOk_snoc _ s).2 ⟨q.2.1.1, ho.2.1, by rw [ej]; exact ho.2.2.1, by rw [ej]; exact ho.2.2.2⟩
      have lj : ((lb j ++ [t]).length : Int) = (lb j).length + 1 := by simp
      have cj : wCost nx pr s (lb j ++ [t]) = wCost nx pr s (lb j) + pr k := by rw [wCost_snoc, ej, he]
      have nj : wNum (lb j ++ [t]) = wNum (lb j) * 4 + (t - 1) := wNum_snoc _
      have np : wNum (p ++ [t]) = wNum p * 4 + (t - 1) := wNum_snoc _
      have cp : wCost nx pr s (p ++ [t]) = wCost nx pr s p + pr k := by
        rw [wCost_snoc, wp.2.1, he]
      have qn := q.2.1.2.2
      by_cases m : ((lb j).length : Int) = n
      · rcases new j t q.1 m ho.2.1.1 ho.2.1.2 he (by rw [← he]; exact ho.2.2.1) (by rw [← he]; exact ho.2.2.2) with w | ⟨us, w1, w2, w3⟩
        · unfold wLe at *; omega
        · have a := old w1
          subst w2
          have lk : ((lb k).length : Int) ≤ n := by
            rcases h k with r | r
            · exact r.2.1.2.2
            · exact absurd w1 r.1
          unfold wLe at *; omega
      · have wj : wIs nx op s k n (lb j ++ [t]) := ⟨okj, by rw [wEnd_snoc, ej, he], by omega⟩
        rcases h k with r | r
        · have a := old r.1
          have b := r.2.2 _ wj
          have lk := r.2.1.2.2
          unfold wLe at *; omega
        · exact absurd wj (r.2 _)
    · exact absurd wp (q.2 p)
/-- no cell more: where nothing was found by the last step, nothing comes -/
theorem wNone_step {s k n : Int} (hn : 0 ≤ n) {lb : Int → List Int} {ex : Int → Prop} (h : ∀ j, (ex j ∧ wBest nx op pr s j n (lb j)) ∨ (¬ ex j ∧ ∀ us, ¬ wIs nx op s j n us)) (hk : ¬ ex k) (new : ∀ j t, ex j → ((lb j).length : Int) = n → 1 ≤ t → t ≤ 4 → nx j t = k → k ≠ -1 → op k → False) : ∀ us, ¬ wIs nx op s k (n + 1) us := by
  intro us hu
  have no : ∀ us, ¬ wIs nx op s k n us := by
    rcases h k with q | q
    · exact absurd q.1 hk
    · exact q.2
  by_cases c : (us.length : Int) ≤ n
  · exact no us ⟨hu.1, hu.2.1, c⟩
  · have hl := hu.2.2
    obtain ⟨p, t, rfl⟩ := snoc_of (us := us) (by intro z; rw [z] at c; exact c (by simpa using hn))
    have ho := (wOk_snoc p s).1 hu.1
    have he : nx (wEnd nx s p) t = k := (wEnd_snoc p s).symm.trans hu.2.1
    have lp : ((p ++ [t]).length : Int) = p.length + 1 := by simp
    have wp : wIs nx op s (wEnd nx s p) n p := ⟨ho.1, rfl, by omega⟩
    rcases h (wEnd nx s p) with q | q
    · generalize wEnd nx s p = j at *
      have ej : wEnd nx s (lb j) = j := q.2.1.2.1
      have okj : wOk nx op s (lb j ++ [t]) := (wOk_snoc _ s).2 ⟨q.2.1.1, ho.2.1, by rw [ej]; exact ho.2.2.1, by rw [ej]; exact ho.2.2.2⟩
      have lj : ((lb j ++ [t]).length : Int) = (lb j).length + 1 := by simp
      have qn := q.2.1.2.2
      by_cases m : ((lb j).length : Int) = n
      · exact new j t q.1 m ho.2.1.1 ho.2.1.2 he (by rw [← he]; exact ho.2.2.1) (by rw [← he]; exact ho.2.2.2)
      · exact no _ ⟨okj, by rw [wEnd_snoc, ej, he], by omega⟩
    · exact absurd wp (q.2 p)
end Walks80
