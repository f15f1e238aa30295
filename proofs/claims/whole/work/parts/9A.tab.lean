/-! The heap as a table of rows: what the constructors make. -/
abbrev QRow : Type := (Nat × Int) × List Int
def kD : QRow := ((999, 0), [])
def kSh (t : List QRow) : QSh := fun a => match a with | .ofNat n => (qnth t n kD).1 | .negSucc _ => (999, 0)
def kRf (t : List QRow) : QMem := fun a j => match a, j with | .ofNat n, .ofNat k => qnth (qnth t n kD).2 k (-1) | _, _ => -1
def kS (t : List QRow) : QS := ((t.length : Int), kSh t, kRf t)
def kN (E : List (Int × Int × Int)) : QMem := match E with
  | [] => fun _ _ => 0
  | e :: r => fun a j => if a = e.1 ∧ j = e.2.1 then e.2.2 else kN r a j
def kM (N : Int) (M : QMem) (E : List (Int × Int × Int)) : QMem := fun a j => if N ≤ a then kN E a j else M a j
def kH (t : List QRow) (N : Int) (M : QMem) (E : List (Int × Int × Int)) : QH := (kS t, kM N M E)
theorem qnth_app {α : Type} (d : α) : ∀ (l r : List α) (n : Nat), qnth (l ++ r) n d = if n < l.length then qnth l n d else qnth r (n - l.length) d
  | [], r, n => by show qnth r n d = if n < 0 then qnth [] n d else qnth r (n - 0) d; rw [if_neg (Nat.not_lt_zero _)]; rfl
  | a :: l, r, 0 => by show a = if 0 < l.length + 1 then a else qnth r (0 - (l.length + 1)) d; rw [if_pos (Nat.succ_pos _)]
  | a :: l, r, n + 1 => by
    show qnth (l ++ r) n d = if n + 1 < l.length + 1 then qnth l n d else qnth r (n + 1 - (l.length + 1)) d
    rw [qnth_app d l r n, Nat.add_sub_add_right]
    by_cases h : n < l.length
    · rw [if_pos h, if_pos (by omega)]
    · rw [if_neg h, if_neg (by omega)]
theorem qnth_out {α : Type} (d : α) : ∀ (l : List α) (n : Nat), l.length ≤ n → qnth l n d = d
  | [], n, _ => by cases n <;> rfl
  | a :: l, 0, h => absurd h (Nat.not_succ_le_zero _)
  | a :: l, n + 1, h => qnth_out d l n (Nat.le_of_succ_le_succ h)
theorem qnth_set {α : Type} (d x : α) : ∀ (l : List α) (j n : Nat), j < l.length → qnth (l.set j x) n d = if n = j then x else qnth l n d
  | [], j, n, h => absurd h (Nat.not_lt_zero _)
  | a :: l, 0, 0, h => by rw [if_pos rfl]; rfl
  | a :: l, 0, n + 1, h => by rw [if_neg (Nat.succ_ne_zero n)]; rfl
  | a :: l, j + 1, 0, h => by rw [if_neg (fun z => Nat.succ_ne_zero j z.symm)]; rfl
  | a :: l, j + 1, n + 1, h => by
    show qnth (l.set j x) n d = if n + 1 = j + 1 then x else qnth l n d
    rw [qnth_set d x l j n (Nat.lt_of_succ_lt_succ h)]
    by_cases z : n = j
    · rw [if_pos z, if_pos (by omega)]
    · rw [if_neg z, if_neg (by omega)]
theorem kN_no {a : Int} : ∀ {E : List (Int × Int × Int)}, (∀ e ∈ E, e.1 < a) → ∀ j, kN E a j = 0
  | [], _, _ => rfl
  | e :: r, h, j => by
    show (if a = e.1 ∧ j = e.2.1 then e.2.2 else kN r a j) = 0
    rw [if_neg (fun z => by have := h e List.mem_cons_self; omega)]
    exact kN_no (fun e' he' => h e' (List.mem_cons_of_mem _ he')) j
theorem kNew {t : List QRow} {N : Int} {M : QMem} {E : List (Int × Int × Int)} {k : Nat} {n : Int} (l : List Int) (hl : ∀ j : Nat, qnth l j (-1) = -1) (hE : ∀ e ∈ E, e.1 < (t.length : Int)) (hN : N ≤ (t.length : Int)) : qnew (kH t N M E) k n = kH (t ++ [((k, n), l)]) N M E := by
  have e1 : ((t.length : Int) + 1) = ((t ++ [((k, n), l)]).length : Int) := by rw [List.length_append]; rfl
  have e2 : (fun b : Int => if b = (t.length : Int) then (k, n) else kSh t b) = kSh (t ++ [((k, n), l)]) := by
    funext b
    match b with
    | .ofNat m =>
      show (if (m : Int) = (t.length : Int) then (k, n) else (qnth t m kD).1) = (qnth (t ++ [((k, n), l)]) m kD).1
      rw [qnth_app]
      by_cases h : m < t.length
      · rw [if_neg (by omega), if_pos h]
      · rw [if_neg h]
        by_cases z : m = t.length
        · rw [if_pos (by omega), z, Nat.sub_self]; rfl
        · rw [if_neg (by omega), qnth_out kD t m (by omega), qnth_out kD _ (m - t.length) (by show 1 ≤ _; omega)]
    | .negSucc m => rw [if_neg (by omega)]; rfl
  have e3 : (fun b j : Int => if b = (t.length : Int) then -1 else kRf t b j) = kRf (t ++ [((k, n), l)]) := by
    funext b j
    match b, j with
    | .ofNat m, .ofNat q =>
      show (if (m : Int) = (t.length : Int) then -1 else qnth (qnth t m kD).2 q (-1)) = qnth (qnth (t ++ [((k, n), l)]) m kD).2 q (-1)
      rw [qnth_app]
      by_cases h : m < t.length
      · rw [if_neg (by omega), if_pos h]
      · rw [if_neg h]
        by_cases z : m = t.length
        · rw [if_pos (by omega), z, Nat.sub_self]; exact (hl q).symm
        · rw [if_neg (by omega), qnth_out kD t m (by omega), qnth_out kD _ (m - t.length) (by show 1 ≤ _; omega)]
    | .negSucc m, j => rw [if_neg (by omega)]; cases j <;> rfl
    | .ofNat m, .negSucc q =>
      show (if (m : Int) = (t.length : Int) then (-1 : Int) else -1) = -1
      split <;> rfl
  have e4 : (fun b j : Int => if b = (t.length : Int) then 0 else kM N M E b j) = kM N M E := by
    funext b j
    by_cases z : b = (t.length : Int)
    · rw [if_pos z, z]; unfold kM; rw [if_pos hN, kN_no hE]
    · rw [if_neg z]
  show (((t.length : Int) + 1, (fun b : Int => if b = (t.length : Int) then (k, n) else kSh t b), (fun b j : Int => if b = (t.length : Int) then -1 else kRf t b j)), (fun b j : Int => if b = (t.length : Int) then 0 else kM N M E b j)) = _
  rw [e1, e2, e3, e4]; rfl
theorem kSh_at {p : List QRow} {r : QRow} {s : List QRow} {c : Int} (hc : (p.length : Int) = c) : kSh (p ++ (r :: s)) c = r.1 := by
  subst hc
  show (qnth (p ++ (r :: s)) p.length kD).1 = r.1
  rw [qnth_app, if_neg (Nat.lt_irrefl _), Nat.sub_self]; rfl
theorem kRf_at {p : List QRow} {r : QRow} {s : List QRow} {c : Int} (hc : (p.length : Int) = c) (j : Nat) : kRf (p ++ (r :: s)) c (j : Int) = qnth r.2 j (-1) := by
  subst hc
  show qnth (qnth (p ++ (r :: s)) p.length kD).2 j (-1) = _
  rw [qnth_app, if_neg (Nat.lt_irrefl _), Nat.sub_self]; rfl
theorem kPut {p s : List QRow} {sh : Nat × Int} {l : List Int} {N : Int} {M : QMem} {E : List (Int × Int × Int)} {c x : Int} (j : Nat) (hc : (p.length : Int) = c) (hj : j < l.length) : qputf (kH (p ++ ((sh, l) :: s)) N M E) 2 c (j : Int) x = kH (p ++ ((sh, l.set j x) :: s)) N M E := by
  subst hc
  have e1 : ((p ++ ((sh, l) :: s)).length : Int) = ((p ++ ((sh, l.set j x) :: s)).length : Int) := by rw [List.length_append, List.length_append]; rfl
  have e2 : kSh (p ++ ((sh, l) :: s)) = kSh (p ++ ((sh, l.set j x) :: s)) := by
    funext b
    match b with
    | .ofNat m =>
      show (qnth (p ++ ((sh, l) :: s)) m kD).1 = (qnth (p ++ ((sh, l.set j x) :: s)) m kD).1
      rw [qnth_app, qnth_app]
      by_cases h : m < p.length
      · rw [if_pos h, if_pos h]
      · rw [if_neg h, if_neg h]
        cases m - p.length <;> rfl
    | .negSucc m => rfl
  have e3 : qup (kRf (p ++ ((sh, l) :: s))) (p.length : Int) (j : Int) x = kRf (p ++ ((sh, l.set j x) :: s)) := by
    funext b q
    match b, q with
    | .ofNat m, .ofNat k =>
      show (if (m : Int) = (p.length : Int) ∧ (k : Int) = (j : Int) then x else qnth (qnth (p ++ ((sh, l) :: s)) m kD).2 k (-1)) = qnth (qnth (p ++ ((sh, l.set j x) :: s)) m kD).2 k (-1)
      rw [qnth_app, qnth_app]
      by_cases h : m < p.length
      · rw [if_neg (fun z => by have := z.1; omega), if_pos h, if_pos h]
      · rw [if_neg h, if_neg h]
        by_cases z : m = p.length
        · rw [z, Nat.sub_self]
          show (if (p.length : Int) = (p.length : Int) ∧ (k : Int) = (j : Int) then x else qnth l k (-1)) = qnth (l.set j x) k (-1)
          rw [qnth_set _ _ _ _ _ hj]
          by_cases y : k = j
          · rw [if_pos ⟨rfl, (by omega)⟩, if_pos y]
          · rw [if_neg (fun w => y (by have := w.2; omega)), if_neg y]
        · rw [if_neg (fun w => z (by have := w.1; omega))]
          obtain ⟨w, hw⟩ : ∃ w, m - p.length = w + 1 := ⟨m - p.length - 1, (by omega)⟩
          rw [hw]; rfl
    | .negSucc m, q => show (if _ then x else kRf _ _ _) = _; rw [if_neg (fun z => by have := z.1; omega)]; cases q <;> rfl
    | .ofNat m, .negSucc k => show (if _ then x else kRf _ _ _) = _; rw [if_neg (fun z => by have := z.2; omega)]; rfl
  show ((((p ++ ((sh, l) :: s)).length : Int), kSh (p ++ ((sh, l) :: s)), qup (kRf (p ++ ((sh, l) :: s))) (p.length : Int) (j : Int) x), kM N M E) = _
  rw [e1, e2, e3]; rfl
theorem kNum {t : List QRow} {N : Int} {M : QMem} {E : List (Int × Int × Int)} {a j x : Int} (hN : N ≤ a) : ((kH t N M E).1, qup (kH t N M E).2 a j x) = kH t N M ((a, j, x) :: E) := by
  have : qup (kM N M E) a j x = kM N M ((a, j, x) :: E) := by
    funext b q
    show (if b = a ∧ q = j then x else if N ≤ b then kN E b q else M b q) = if N ≤ b then (if b = a ∧ q = j then x else kN E b q) else M b q
    by_cases z : b = a ∧ q = j
    · rw [if_pos z, if_pos (by rw [z.1]; exact hN), if_pos z]
    · rw [if_neg z]
      by_cases y : N ≤ b
      · rw [if_pos y, if_pos y, if_neg z]
      · rw [if_neg y, if_neg y]
  show (kS t, qup (kM N M E) a j x) = _
  rw [this]; rfl
theorem QR.heq {X : QX} {d : Nat} {mx : Nat × Nat} {m : QMeth} {post : Int → QH → Prop} {cs : Nat × Nat} {pc : Nat} {lv : List (Nat × QV)} {st : List QV} {h h' : QH} (e : h = h') (k : QR X d mx m post cs pc lv st h') : QR X d mx m post cs pc lv st h := e ▸ k
theorem QC.heq {X : QX} {d mc ms rk : Nat} {y : MethodName} {as : List QV} {h h' : QH} {post : Int → QH → Prop} (e : h = h') (k : QC X d mc ms rk y as h' post) : QC X d mc ms rk y as h post := e ▸ k
/-- an array made, and put into a field -/
theorem kAdd {p s : List QRow} {sh : Nat × Int} {l : List Int} {N : Int} {M : QMem} {E : List (Int × Int × Int)} {k : Nat} {n c : Int} (j : Nat) (w : List Int) (v : Int) (hw : ∀ j : Nat, qnth w j (-1) = -1) (hc : (p.length : Int) = c) (hv : v = c + 1 + (s.length : Int)) (hj : j < l.length) (hE : ∀ e ∈ E, e.1 < v) (hN : N ≤ v) : qputf (qnew (kH (p ++ ((sh, l) :: s)) N M E) k n) 2 c (j : Int) (kH (p ++ ((sh, l) :: s)) N M E).1.1 = kH (p ++ ((sh, l.set j v) :: (s ++ [((k, n), w)]))) N M E := by
  have hlen : ((p ++ ((sh, l) :: s)).length : Int) = v := by rw [List.length_append]; show ((p.length + (s.length + 1) : Nat) : Int) = v; omega
  rw [kNew w hw (by rw [hlen]; exact hE) (by rw [hlen]; exact hN), List.append_assoc]
  show qputf (kH (p ++ ((sh, l) :: (s ++ [((k, n), w)]))) N M E) 2 c (j : Int) ((p ++ ((sh, l) :: s)).length : Int) = _
  rw [kPut j hc hj, hlen]
theorem kAdd_sh {p s : List QRow} {sh : Nat × Int} {l : List Int} {N : Int} {M : QMem} {E : List (Int × Int × Int)} {k : Nat} {n c : Int} (hc : (p.length : Int) = c) : ((qnew (kH (p ++ ((sh, l) :: s)) N M E) k n).1.2.1 c).1 = sh.1 := by
  have hlen : ((p ++ ((sh, l) :: s)).length : Int) = c + 1 + (s.length : Int) := by rw [List.length_append]; show ((p.length + (s.length + 1) : Nat) : Int) = _; omega
  show (if c = ((p ++ ((sh, l) :: s)).length : Int) then (k, n) else kSh (p ++ ((sh, l) :: s)) c).1 = sh.1
  rw [if_neg (by omega), kSh_at hc]
theorem kNil (j : Nat) : qnth ([] : List Int) j (-1) = -1 := by cases j <;> rfl
theorem kRep (n : Nat) : ∀ j : Nat, qnth (List.replicate n (-1 : Int)) j (-1) = -1 := by
  induction n with
  | zero => exact kNil
  | succ n ih =>
    intro j
    cases j with
    | zero => rfl
    | succ j => exact ih j
theorem kE {E : List (Int × Int × Int)} {a b : Int} (h : ∀ e ∈ E, e.1 < a) (hab : a ≤ b) : ∀ e ∈ E, e.1 < b := fun e he => by have := h e he; omega
theorem kE.cons {E : List (Int × Int × Int)} {a c j v : Int} (h : ∀ e ∈ E, e.1 < a) (hc : c < a) : ∀ e ∈ (c, j, v) :: E, e.1 < a := fun e he => by
  rcases List.mem_cons.1 he with rfl | he
  · exact hc
  · exact h e he
