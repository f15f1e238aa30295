/-- bytes -/
def isBl (c : Int) : Bool := decide (c = 10 ∨ c = 32)
def isSm (c : Int) : Bool := decide (97 ≤ c ∧ c ≤ 122)
def isDg (c : Int) : Bool := decide (48 ≤ c ∧ c ≤ 57)
def advN (P : Int → Bool) : Nat → Int → Int
  | 0 => fun p => p
  | k + 1 => fun p => if P p = true then advN P k (p + 1) else p
def adv (P : Int → Bool) (n p : Int) : Int := advN P (n - p).toNat p
theorem adv_go {P : Int → Bool} {n p : Int} (h : p < n) (z : P p = true) : adv P n p = adv P n (p + 1) := by
  unfold adv
  rw [show (n - p).toNat = (n - (p + 1)).toNat + 1 by omega]
  show (if P p = true then _ else _) = _
  rw [if_pos z]
theorem adv_stop {P : Int → Bool} {n p : Int} (h : n ≤ p ∨ P p = false) : adv P n p = p := by
  unfold adv
  by_cases c : n ≤ p
  · rw [show (n - p).toNat = 0 by omega]; rfl
  · rcases h with h | h
    · exact absurd h c
    · rw [show (n - p).toNat = (n - (p + 1)).toNat + 1 by omega]
      show (if P p = true then _ else _) = _
      rw [if_neg (by rw [h]; decide)]
theorem advN_b (P : Int → Bool) : ∀ (k : Nat) (p : Int), p ≤ advN P k p ∧ advN P k p ≤ p + k ∧ (∀ q, p ≤ q → q < advN P k p → P q = true) ∧ (advN P k p = p + k ∨ P (advN P k p) = false)
  | 0, p => ⟨Int.le_refl _, by show p ≤ p + 0; omega, fun q q0 q1 => absurd q1 (by show ¬ q < p; omega), Or.inl (by show p = p + 0; omega)⟩
  | k + 1, p => by
    have ih := advN_b P k (p + 1)
    show p ≤ (if P p = true then advN P k (p + 1) else p) ∧ (if P p = true then advN P k (p + 1) else p) ≤ p + ((k + 1 : Nat) : Int) ∧ (∀ q, p ≤ q → q < (if P p = true then advN P k (p + 1) else p) → P q = true) ∧ ((if P p = true then advN P k (p + 1) else p) = p + ((k + 1 : Nat) : Int) ∨ P (if P p = true then advN P k (p + 1) else p) = false)
    by_cases z : P p = true
    · rw [if_pos z]
      refine ⟨by omega, by omega, fun q q0 q1 => ?_, ?_⟩
      · by_cases e : q = p
        · rw [e]; exact z
        · exact ih.2.2.1 q (by omega) q1
      · rcases ih.2.2.2 with w | w
        · exact Or.inl (by omega)
        · exact Or.inr w
    · rw [if_neg z]
      refine ⟨by omega, by omega, fun q q0 q1 => absurd q1 (by omega), Or.inr ?_⟩
      cases q : P p with
      | false => rfl
      | true => exact absurd q z
theorem adv_b {P : Int → Bool} {n p : Int} (h : p ≤ n) : (p ≤ adv P n p ∧ adv P n p ≤ n) ∧ (∀ q, p ≤ q → q < adv P n p → P q = true) ∧ (adv P n p = n ∨ P (adv P n p) = false) := by
  have b := advN_b P (n - p).toNat p
  unfold adv
  refine ⟨⟨b.1, by omega⟩, b.2.2.1, ?_⟩
  rcases b.2.2.2 with w | w
  · exact Or.inl (by omega)
  · exact Or.inr w
/-- words, signs, numbers -/
def sp (b : Int → Int) (s e : Int) (j : Nat) : Prop := e - s = sl j ∧ ∀ i, 0 ≤ i → i < sl j → b (s + i) = sc j i
noncomputable def keyOf (b : Int → Int) (s e : Int) : Int := by
  classical
  exact if sp b s e 0 then 0 else if sp b s e 1 then 1 else if sp b s e 2 then 2 else if sp b s e 3 then 3 else if sp b s e 4 then 4 else if sp b s e 5 then 5 else if sp b s e 6 then 6 else if sp b s e 7 then 7 else if sp b s e 8 then 8 else if sp b s e 9 then 9 else if sp b s e 10 then 10 else if sp b s e 11 then 12 else if sp b s e 12 then 11 else if sp b s e 13 then 13 else 22
def sigOf (c : Int) : Int := if c = 59 then 30 else if c = 58 then 31 else if c = 43 then 32 else if c = 45 then 33 else if c = 42 then 34 else if c = 40 then 35 else if c = 41 then 36 else if c = 91 then 37 else if c = 93 then 38 else if c = 61 then 39 else if c = 60 then 40 else if c = 62 then 41 else 25
def nvN (b : Int → Int) (s : Int) : Nat → Int
  | 0 => 0
  | k + 1 => if k < 3 then 10 * nvN b s k + b (s + k) - 48 else nvN b s k
def tS (b : Int → Int) (n p : Int) : Int := adv (fun q => isBl (b q)) n p
def tE (b : Int → Int) (n p : Int) : Int := if n ≤ tS b n p then tS b n p else if isSm (b (tS b n p)) = true then adv (fun q => isSm (b q)) n (tS b n p) else if isDg (b (tS b n p)) = true then adv (fun q => isDg (b q)) n (tS b n p) else tS b n p + 1
noncomputable def tKd (b : Int → Int) (n p : Int) : Int := if n ≤ tS b n p then 24 else if isSm (b (tS b n p)) = true then keyOf b (tS b n p) (tE b n p) else if isDg (b (tS b n p)) = true then (if tE b n p - tS b n p ≤ 3 then 23 else 25) else sigOf (b (tS b n p))
def tV (b : Int → Int) (n p : Int) : Int := nvN b (tS b n p) (tE b n p - tS b n p).toNat
def tpos (b : Int → Int) (n : Int) : Nat → Int
  | 0 => 0
  | k + 1 => tE b n (tpos b n k)
/-- the class's names of kinds -/
def cK (k : Int) : Int := if k = 24 then 0 else if k = 25 then 1 else if k = 23 then 2 else if k = 22 then 3 else if k = 11 then 212 else if k = 12 then 211 else if k < 14 then 200 + k else sc 14 (k - 30)
theorem tok_of {b : Int → Int} {n p q : Int} (h : tS b n p = tS b n q) : tE b n p = tE b n q ∧ tKd b n p = tKd b n q ∧ tV b n p = tV b n q := by
  have e : tE b n p = tE b n q := by unfold tE; rw [h]
  exact ⟨e, by unfold tKd; rw [h, e], by unfold tV; rw [h, e]⟩
theorem tS_b {b : Int → Int} {n p : Int} (h : 0 ≤ p ∧ p ≤ n) : p ≤ tS b n p ∧ tS b n p ≤ n := (adv_b h.2).1
theorem tE_b {b : Int → Int} {n p : Int} (h : 0 ≤ p ∧ p ≤ n) : (tS b n p ≤ tE b n p ∧ tE b n p ≤ n) ∧ (tS b n p < n → tS b n p < tE b n p) := by
  have s := tS_b (b := b) h
  unfold tE
  by_cases c : n ≤ tS b n p
  · rw [if_pos c]; exact ⟨⟨Int.le_refl _, s.2⟩, fun z => absurd c (by omega)⟩
  · rw [if_neg c]
    by_cases z : isSm (b (tS b n p)) = true
    · rw [if_pos z]
      have g := adv_go (P := fun q => isSm (b q)) (n := n) (p := tS b n p) (by omega) z
      have a := adv_b (P := fun q => isSm (b q)) (n := n) (p := tS b n p + 1) (by omega)
      rw [g]; omega
    · rw [if_neg z]
      by_cases y : isDg (b (tS b n p)) = true
      · rw [if_pos y]
        have g := adv_go (P := fun q => isDg (b q)) (n := n) (p := tS b n p) (by omega) y
        have a := adv_b (P := fun q => isDg (b q)) (n := n) (p := tS b n p + 1) (by omega)
        rw [g]; omega
      · rw [if_neg y]; omega
theorem tpos_b {b : Int → Int} {n : Int} (hn : 0 ≤ n) : ∀ k, 0 ≤ tpos b n k ∧ tpos b n k ≤ n
  | 0 => ⟨Int.le_refl 0, hn⟩
  | k + 1 => by
    have ih := tpos_b (b := b) hn k
    have e := tE_b (b := b) ih
    have s := tS_b (b := b) ih
    show 0 ≤ tE b n (tpos b n k) ∧ tE b n (tpos b n k) ≤ n
    omega
theorem tpos_ge {b : Int → Int} {n : Int} (hn : 0 ≤ n) : ∀ k : Nat, (∀ i, i < k → tKd b n (tpos b n i) ≠ 24) → (k : Int) ≤ tpos b n k
  | 0, _ => Int.le_refl 0
  | k + 1, h => by
    have ih := tpos_ge hn k (fun i hi => h i (by omega))
    have pb := tpos_b (b := b) hn k
    have e := tE_b (b := b) pb
    have s := tS_b (b := b) pb
    have : tS b n (tpos b n k) < n := by
      rcases Int.lt_or_le (tS b n (tpos b n k)) n with q | q
      · exact q
      · exact absurd (by unfold tKd; rw [if_pos q]) (h k (by omega))
    show ((k + 1 : Nat) : Int) ≤ tE b n (tpos b n k)
    have := e.2 this
    omega
theorem keyOf_b (b : Int → Int) (s e : Int) : (0 ≤ keyOf b s e ∧ keyOf b s e ≤ 13) ∨ keyOf b s e = 22 := by
  unfold keyOf
  repeat' split
  all_goals omega
theorem sigOf_b (c : Int) : (30 ≤ sigOf c ∧ sigOf c ≤ 41) ∨ sigOf c = 25 := by
  unfold sigOf
  repeat' split
  all_goals omega
theorem tKd_b (b : Int → Int) (n p : Int) : 0 ≤ tKd b n p ∧ tKd b n p ≤ 41 := by
  have k := keyOf_b b (tS b n p) (tE b n p)
  have s := sigOf_b (b (tS b n p))
  unfold tKd
  repeat' split
  all_goals omega
section Lex94
variable {X : QX} {x : Int} {d : Nat} {post : Int → QMem → Prop} {M : QMem} {cont : Int → Int → QMem → Prop} {b : Int → Int}
/-- the text on the tape -/
def bOk (b : Int → Int) (M : QMem) : Prop := ∀ j, 0 ≤ j → j < 900 → (-128 ≤ M 1 j ∧ M 1 j ≤ 127) ∧ b j = if M 1 j < 0 then M 1 j + 256 else M 1 j
theorem bOk.get {M : QMem} (h : bOk b M) {j : Int} (hj : 0 ≤ j ∧ j < 900) : (0 ≤ b j ∧ b j ≤ 255) ∧ qand (M 1 j) 255 = b j := by
  have g := h j hj.1 hj.2
  refine ⟨by rw [g.2]; split <;> omega, ?_⟩
  obtain ⟨n, hn⟩ := Int.eq_ofNat_of_zero_le (show 0 ≤ M 1 j + 128 by omega)
  have := byte_and n (by omega)
  rw [show (n : Int) - 128 = M 1 j by omega] at this
  rw [this, g.2]
theorem v_isDigit {c : Int} (hc : in32 c) (h1 : isDg c = true → post 1 M) (h0 : isDg c = false → post 0 M) : QCm X x d 1 yX7_isDigit [(0, c)] M post :=
  QC.of qmX7_isDigit_ok rfl (TX7_isDigit_0 ⟨hc, fun z => h0 (decide_eq_false (by omega)), fun z => ⟨fun y => h0 (decide_eq_false (by omega)), fun y => h1 (decide_eq_true ⟨(by omega), (by omega)⟩)⟩⟩)
theorem v_isLetter {c : Int} (hc : in32 c) (h1 : isSm c = true → post 1 M) (h0 : isSm c = false → post 0 M) : QCm X x d 1 yX7_isLetter [(0, c)] M post :=
  QC.of qmX7_isLetter_ok rfl (TX7_isLetter_0 ⟨hc, fun z => h0 (decide_eq_false (by omega)), fun z => ⟨fun y => h0 (decide_eq_false (by omega)), fun y => h1 (decide_eq_true ⟨(by omega), (by omega)⟩)⟩⟩)
theorem sg_same {M : QMem} (h : bOk b M) {j : Int} (hj : 0 ≤ j ∧ j < 900) : isDg (M 1 j) = isDg (b j) ∧ isSm (M 1 j) = isSm (b j) := by
  have g := h j hj.1 hj.2
  rw [g.2]
  by_cases z : M 1 j < 0
  · rw [if_pos z]
    exact ⟨decide_eq_decide.2 (by omega), decide_eq_decide.2 (by omega)⟩
  · rw [if_neg z]; exact ⟨rfl, rfl⟩
/-- one token more -/
def tAdd (M M1 : QMem) (k p v : Int) : Prop := M1 13 3 = M 13 3 + 1 ∧ (∀ a, a ≠ 13 → a ≠ 14 → a ≠ 15 → a ≠ 16 → M1 a = M a) ∧ (∀ j, j ≠ 3 → M1 13 j = M 13 j) ∧ (∀ j, M1 14 j = if j = M 13 3 then k else M 14 j) ∧ (∀ j, M1 16 j = if j = M 13 3 then p else M 16 j) ∧ ∀ j, M1 15 j = if j = M 13 3 then v else M 15 j
theorem v_add {k p v : Int} (h : 0 ≤ M 13 3 ∧ M 13 3 < 901) (hp : ∀ M1, tAdd M M1 k p v → post 0 M1) : QCm X x d 0 yX7_add [(2, 13), (0, k), (0, p), (0, v)] M post := by
  refine QC.of qmX7_add_ok rfl (TX7_add_0 ?_)
  have e1 : (qup M 14 (M 13 3) k) 13 3 = M 13 3 := by rw [qup_row (by decide)]
  rw [e1]
  have e2 : (qup (qup M 14 (M 13 3) k) 16 (M 13 3) p) 13 3 = M 13 3 := by rw [qup_row (by decide), qup_row (by decide)]
  rw [e2]
  have e3 : (qup (qup (qup M 14 (M 13 3) k) 16 (M 13 3) p) 15 (M 13 3) v) 13 3 = M 13 3 := by rw [qup_row (by decide), qup_row (by decide), qup_row (by decide)]
  rw [e3]
  refine ⟨(i32 (by omega) (by omega)), fun z => absurd z (by omega), fun _ => ⟨(by omega), (by omega), (by omega), (by omega), (by omega), (by omega), hp _ ⟨?_, fun a a0 a1 a2 a3 => ?_, fun j hj => ?_, fun j => ?_, fun j => ?_, fun j => ?_⟩⟩⟩
  · rw [qup_at, if_pos rfl]
  · rw [qup_row a0, qup_row a2, qup_row a3, qup_row a1]
  · rw [qup_at, if_neg hj, qup_row (by decide), qup_row (by decide), qup_row (by decide)]
  · rw [qup_row (by decide), qup_row (by decide), qup_row (by decide), qup_at]
  · rw [qup_row (by decide), qup_row (by decide), qup_at, qup_row (by decide)]
  · rw [qup_row (by decide), qup_at, qup_row (by decide), qup_row (by decide)]
theorem v_spells (hb : bOk b M) {s e v : Int} {j : Nat} (hj : j < 14) (hv : v = -3 - j) (hs : 0 ≤ s ∧ s ≤ e ∧ e ≤ 900) (h1 : sp b s e j → post 1 M) (h0 : ¬ sp b s e j → post 0 M) : QCm X x (d + 5) 1 yX7_spells [(2, 1), (0, s), (0, e), (2, v)] M post := by
  have lb := sl_ok j (by omega)
  have key : ∀ i : Int, e - s = sl j → (0 ≤ i ∧ i ≤ sl j) ∧ (∀ q, 0 ≤ q → q < i → b (s + q) = sc j q) → QRm X x (d + 5) qmX7_spells post 25 [(0, (2, 1)), (1, (0, s)), (3, (2, v)), (4, (0, i))] [] M := fun i el => by
    revert i
    refine int_up (sl j) (fun i hi g => ?_) (fun i hi ih g => ?_)
    · exact TX7_spells_25 ⟨(by omega), j_length (s := j) (by omega) hv ⟨(i32 (by omega) (by omega)), (i32 (by omega) (by omega)), fun _ => h1 ⟨el, fun q q0 q1 => g.2 q q0 (by omega)⟩, fun z => absurd hi z⟩⟩
    · have bq := hb (s + i) (by omega) (by omega)
      have c := sc_ok j (by omega) i.toNat (by omega)
      rw [show ((i.toNat : Nat) : Int) = i by omega] at c
      refine TX7_spells_25 ⟨(by omega), j_length (s := j) (by omega) hv ⟨(i32 (by omega) (by omega)), (i32 (by omega) (by omega)), fun z => absurd hi (by omega), fun _ => ⟨(by omega), (by omega), j_charAt (s := j) (by omega) hv ⟨g.1.1, hi⟩ ⟨fun z => ih ⟨⟨(by omega), (by omega)⟩, fun q q0 q1 => ?_⟩, fun z => ⟨(i32 (by omega) (by omega)), (i32 (by omega) (by omega)), h0 (fun w => z ?_)⟩⟩⟩⟩⟩
      · by_cases y : q = i
        · rw [y, bq.2, if_neg (by omega)]; exact z
        · exact g.2 q q0 (by omega)
      · have := w.2 i g.1.1 hi
        rw [bq.2] at this
        split at this <;> omega
  refine QC.of qmX7_spells_ok rfl (TX7_spells_0 ⟨(i32 (by omega) (by omega)), fun z => absurd z (by omega), fun _ => ⟨(i32 (by omega) (by omega)), fun z => absurd z (by omega), fun _ => ⟨(by omega), j_length (s := j) (by omega) hv ⟨fun z => key 0 z ⟨⟨(by omega), (by omega)⟩, fun q q0 q1 => absurd q1 (by omega)⟩, fun z => ⟨(i32 (by omega) (by omega)), (i32 (by omega) (by omega)), h0 (fun w => z w.1)⟩⟩⟩⟩⟩)
theorem v_wordOf (hb : bOk b M) {s e : Int} (hs : 0 ≤ s ∧ s ≤ e ∧ e ≤ 900) (hp : post (cK (keyOf b s e)) M) : QCm X x (d + 6) 1 yX7_wordOf [(2, 1), (0, s), (0, e)] M post := by
  have go : ∀ V, keyOf b s e = V → post (cK V) M := fun V h => by rw [← h]; exact hp
  unfold keyOf at go
  refine QC.of qmX7_wordOf_ok rfl (TX7_wordOf_0 (v_spells hb (j := 0) (by decide) (by decide) hs (fun z => ⟨fun y => absurd y (by decide), fun _ => ⟨(i32 (by omega) (by omega)), go 0 (if_pos z)⟩⟩) (fun z0 => ⟨fun _ => ?_, fun y => absurd rfl y⟩)))
  rw [if_neg z0] at go
  refine TX7_wordOf_17 (v_spells hb (j := 1) (by decide) (by decide) hs (fun z => ⟨fun y => absurd y (by decide), fun _ => ⟨(i32 (by omega) (by omega)), go 1 (if_pos z)⟩⟩) (fun z0 => ⟨fun _ => ?_, fun y => absurd rfl y⟩))
  rw [if_neg z0] at go
  refine TX7_wordOf_34 (v_spells hb (j := 2) (by decide) (by decide) hs (fun z => ⟨fun y => absurd y (by decide), fun _ => ⟨(i32 (by omega) (by omega)), go 2 (if_pos z)⟩⟩) (fun z0 => ⟨fun _ => ?_, fun y => absurd rfl y⟩))
  rw [if_neg z0] at go
  refine TX7_wordOf_51 (v_spells hb (j := 3) (by decide) (by decide) hs (fun z => ⟨fun y => absurd y (by decide), fun _ => ⟨(i32 (by omega) (by omega)), go 3 (if_pos z)⟩⟩) (fun z0 => ⟨fun _ => ?_, fun y => absurd rfl y⟩))
  rw [if_neg z0] at go
  refine TX7_wordOf_68 (v_spells hb (j := 4) (by decide) (by decide) hs (fun z => ⟨fun y => absurd y (by decide), fun _ => ⟨(i32 (by omega) (by omega)), go 4 (if_pos z)⟩⟩) (fun z0 => ⟨fun _ => ?_, fun y => absurd rfl y⟩))
  rw [if_neg z0] at go
  refine TX7_wordOf_85 (v_spells hb (j := 5) (by decide) (by decide) hs (fun z => ⟨fun y => absurd y (by decide), fun _ => ⟨(i32 (by omega) (by omega)), go 5 (if_pos z)⟩⟩) (fun z0 => ⟨fun _ => ?_, fun y => absurd rfl y⟩))
  rw [if_neg z0] at go
  refine TX7_wordOf_102 (v_spells hb (j := 6) (by decide) (by decide) hs (fun z => ⟨fun y => absurd y (by decide), fun _ => ⟨(i32 (by omega) (by omega)), go 6 (if_pos z)⟩⟩) (fun z0 => ⟨fun _ => ?_, fun y => absurd rfl y⟩))
  rw [if_neg z0] at go
  refine TX7_wordOf_119 (v_spells hb (j := 7) (by decide) (by decide) hs (fun z => ⟨fun y => absurd y (by decide), fun _ => ⟨(i32 (by omega) (by omega)), go 7 (if_pos z)⟩⟩) (fun z0 => ⟨fun _ => ?_, fun y => absurd rfl y⟩))
  rw [if_neg z0] at go
  refine TX7_wordOf_136 (v_spells hb (j := 8) (by decide) (by decide) hs (fun z => ⟨fun y => absurd y (by decide), fun _ => ⟨(i32 (by omega) (by omega)), go 8 (if_pos z)⟩⟩) (fun z0 => ⟨fun _ => ?_, fun y => absurd rfl y⟩))
  rw [if_neg z0] at go
  refine TX7_wordOf_153 (v_spells hb (j := 9) (by decide) (by decide) hs (fun z => ⟨fun y => absurd y (by decide), fun _ => ⟨(i32 (by omega) (by omega)), go 9 (if_pos z)⟩⟩) (fun z0 => ⟨fun _ => ?_, fun y => absurd rfl y⟩))
  rw [if_neg z0] at go
  refine TX7_wordOf_170 (v_spells hb (j := 10) (by decide) (by decide) hs (fun z => ⟨fun y => absurd y (by decide), fun _ => ⟨(i32 (by omega) (by omega)), go 10 (if_pos z)⟩⟩) (fun z0 => ⟨fun _ => ?_, fun y => absurd rfl y⟩))
  rw [if_neg z0] at go
  refine TX7_wordOf_187 (v_spells hb (j := 11) (by decide) (by decide) hs (fun z => ⟨fun y => absurd y (by decide), fun _ => ⟨(i32 (by omega) (by omega)), go 12 (if_pos z)⟩⟩) (fun z0 => ⟨fun _ => ?_, fun y => absurd rfl y⟩))
  rw [if_neg z0] at go
  refine TX7_wordOf_204 (v_spells hb (j := 12) (by decide) (by decide) hs (fun z => ⟨fun y => absurd y (by decide), fun _ => ⟨(i32 (by omega) (by omega)), go 11 (if_pos z)⟩⟩) (fun z0 => ⟨fun _ => ?_, fun y => absurd rfl y⟩))
  rw [if_neg z0] at go
  refine TX7_wordOf_221 (v_spells hb (j := 13) (by decide) (by decide) hs (fun z => ⟨fun y => absurd y (by decide), fun _ => ⟨(i32 (by omega) (by omega)), go 13 (if_pos z)⟩⟩) (fun z0 => ⟨fun _ => ?_, fun y => absurd rfl y⟩))
  rw [if_neg z0] at go
  exact TX7_wordOf_238 (go 22 rfl)
theorem v_cutWord (hb : bOk b M) {s n : Int} (hs : 0 ≤ s ∧ s < n ∧ n ≤ 900) (hz : 0 ≤ M 13 3 ∧ M 13 3 < 901) (hp : ∀ M1, tAdd M M1 (cK (keyOf b s (adv (fun q => isSm (b q)) n s))) s 0 → post (adv (fun q => isSm (b q)) n s) M1) : QCm X x (d + 7) 1 yX7_cutWord [(2, 13), (2, 1), (0, s), (0, n)] M post := by
  have key : ∀ q : Int, (s ≤ q ∧ q ≤ n) ∧ adv (fun q => isSm (b q)) n q = adv (fun q => isSm (b q)) n s → QRm X x (d + 7) qmX7_cutWord post 3 [(0, (2, 13)), (1, (2, 1)), (2, (0, s)), (3, (0, n)), (4, (0, q))] [] M := by
    refine int_up n (fun q hq g => ?_) (fun q hq ih g => ?_)
    · have e := adv_stop (P := fun q => isSm (b q)) (n := n) (p := q) (Or.inl hq)
      rw [e] at g
      refine TX7_cutWord_3 ⟨(i32 (by omega) (by omega)), (i32 (by omega) (by omega)), fun _ => v_wordOf hb ⟨hs.1, (by omega), (by omega)⟩ (v_add hz (fun M1 h1 => ?_)), fun z => absurd hq z⟩
      rw [g.2]; rw [g.2] at h1; exact hp M1 h1
    · have bq := hb q (by omega) (by omega)
      have ss := (sg_same hb (j := q) ⟨(by omega), (by omega)⟩).2
      refine TX7_cutWord_3 ⟨(i32 (by omega) (by omega)), (i32 (by omega) (by omega)), fun z => absurd hq (by omega), fun _ => ⟨fun z => absurd z (by omega), fun _ => ⟨(by omega), (by omega), v_isLetter (i32 (by omega) (by omega)) (fun z => ⟨fun y => absurd y (by decide), fun _ => ⟨(i32 (by omega) (by omega)), ih ⟨⟨(by omega), (by omega)⟩, ?_⟩⟩⟩) (fun z => ⟨fun _ => v_wordOf hb ⟨hs.1, (by omega), (by omega)⟩ (v_add hz (fun M1 h1 => ?_)), fun y => absurd rfl y⟩)⟩⟩⟩
      · rw [← adv_go (P := fun q => isSm (b q)) hq (by show isSm (b q) = true; rw [← ss]; exact z)]; exact g.2
      · have e := adv_stop (P := fun q => isSm (b q)) (n := n) (p := q) (Or.inr (by show isSm (b q) = false; rw [← ss]; exact z))
        rw [e] at g
        rw [g.2]; rw [g.2] at h1; exact hp M1 h1
  exact QC.of qmX7_cutWord_ok rfl (TX7_cutWord_0 (key s ⟨⟨(by omega), (by omega)⟩, rfl⟩))
theorem v_cutNumber (hb : bOk b M) {s n : Int} (hs : 0 ≤ s ∧ s < n ∧ n ≤ 900) (hz : 0 ≤ M 13 3 ∧ M 13 3 < 901) (h1 : adv (fun q => isDg (b q)) n s - s ≤ 3 → ∀ M1, tAdd M M1 2 s (nvN b s (adv (fun q => isDg (b q)) n s - s).toNat) → post (adv (fun q => isDg (b q)) n s) M1) (h0 : ¬ adv (fun q => isDg (b q)) n s - s ≤ 3 → ∀ M1 v, tAdd M M1 1 s v → post n M1) : QCm X x (d + 7) 1 yX7_cutNumber [(2, 13), (2, 1), (0, s), (0, n)] M post := by
  have key : ∀ q : Int, (s ≤ q ∧ q ≤ n) ∧ adv (fun q => isDg (b q)) n q = adv (fun q => isDg (b q)) n s → QRm X x (d + 7) qmX7_cutNumber post 6 [(0, (2, 13)), (1, (2, 1)), (2, (0, s)), (3, (0, n)), (4, (0, q)), (5, (0, nvN b s (q - s).toNat))] [] M := by
    have fin : ∀ q : Int, (s ≤ q ∧ q ≤ n) → q = adv (fun q => isDg (b q)) n s → (in32 (q - s) ∧ ((3 : Int) < q - s → (QCm X x (d + 6) 0 yX7_add [(2, 13), (0, 1), (0, s), (0, nvN b s (q - s).toNat)] M (fun _ M1 => post n M1))) ∧ (¬ (3 : Int) < q - s → (QCm X x (d + 6) 0 yX7_add [(2, 13), (0, 2), (0, s), (0, nvN b s (q - s).toNat)] M (fun _ M2 => post q M2)))) := fun q qb qe => by
      rw [← qe] at h1 h0
      exact ⟨(i32 (by omega) (by omega)), fun z => v_add hz (fun M1 w => h0 (by omega) M1 _ w), fun z => v_add hz (fun M1 w => h1 (by omega) M1 w)⟩
    refine int_up n (fun q hq g => ?_) (fun q hq ih g => ?_)
    · have e := adv_stop (P := fun q => isDg (b q)) (n := n) (p := q) (Or.inl hq)
      rw [e] at g
      exact TX7_cutNumber_6 ⟨(i32 (by omega) (by omega)), (i32 (by omega) (by omega)), fun _ => fin q g.1 g.2, fun z => absurd hq z⟩
    · have bq := hb q (by omega) (by omega)
      have ss := (sg_same hb (j := q) ⟨(by omega), (by omega)⟩).1
      refine TX7_cutNumber_6 ⟨(i32 (by omega) (by omega)), (i32 (by omega) (by omega)), fun z => absurd hq (by omega), fun _ => ⟨fun z => absurd z (by omega), fun _ => ⟨(by omega), (by omega), v_isDigit (i32 (by omega) (by omega)) (fun z => ⟨fun y => absurd y (by decide), fun _ => ⟨(i32 (by omega) (by omega)), (i32 (by omega) (by omega)), fun y => ?_, fun y => ?_⟩⟩) (fun z => ⟨fun _ => fin q g.1 ?_, fun y => absurd rfl y⟩)⟩⟩⟩
      · have zz := z
        rw [ss] at zz
        have nx := ih ⟨⟨(by omega), (by omega)⟩, by rw [← adv_go (P := fun q => isDg (b q)) hq zz]; exact g.2⟩
        rw [show (q + 1 - s).toNat = (q - s).toNat + 1 by omega, nvN, if_neg (by omega)] at nx
        exact nx
      · have zz := z
        rw [ss] at zz
        have nx := ih ⟨⟨(by omega), (by omega)⟩, by rw [← adv_go (P := fun q => isDg (b q)) hq zz]; exact g.2⟩
        have pos : ¬ M 1 q < 0 := fun w => by have := of_decide_eq_true z; omega
        rw [show (q + 1 - s).toNat = (q - s).toNat + 1 by omega, nvN, if_pos (by omega), show s + ((q - s).toNat : Nat) = q by omega, bq.2, if_neg pos, Int.mul_comm] at nx
        exact nx
      · have e := adv_stop (P := fun q => isDg (b q)) (n := n) (p := q) (Or.inr (by show isDg (b q) = false; rw [← ss]; exact z))
        rw [e] at g
        exact g.2
  refine QC.of qmX7_cutNumber_ok rfl (TX7_cutNumber_0 ?_)
  have := key s ⟨⟨(by omega), (by omega)⟩, rfl⟩
  rw [show (s - s).toNat = 0 by omega] at this
  exact this
end Lex94
