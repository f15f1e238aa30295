theorem ql2i_id {a : Int} (h : in32 a) : ql2i a = a := by
  unfold ql2i
  rw [Int64.toInt_toInt32, q64 h.to64]
  exact Int.bmod_eq_of_le (by have := h.1; omega) (by have := h.2; omega)
theorem qand_in (a b : Int) : in32 (qand a b) := ⟨Int32.minValue_le_toInt _, Int32.toInt_le _⟩
theorem qor_in (a b : Int) : in32 (qor a b) := ⟨Int32.minValue_le_toInt _, Int32.toInt_le _⟩
theorem in32_mul {a b : Int} (ha : in32 a) (hb : in32 b) : in64 (a * b) := by
  have h1 : a.natAbs ≤ 2147483648 := by have := ha.1; have := ha.2; omega
  have h2 : b.natAbs ≤ 2147483648 := by have := hb.1; have := hb.2; omega
  have h3 : (a * b).natAbs ≤ 2147483648 * 2147483648 := by rw [Int.natAbs_mul]; exact Nat.mul_le_mul h1 h2
  exact ⟨by omega, by omega⟩
def rClamp (v : Int) : Int := if 1000000 < v then 1000000 else if v < -1000000 then -1000000 else v
theorem rClamp_in (v : Int) : in32 (rClamp v) := by
  unfold rClamp
  split
  · exact ⟨by decide, by decide⟩
  · split
    · exact ⟨by decide, by decide⟩
    · exact ⟨by omega, by omega⟩
/-- two values joined by a sign -/
def rBetween (c a b : Int) : Int :=
  if c = 3003 then (if a = b then 1 else 0) else if c = 3004 then (if a < b then 1 else 0) else if c = 3005 then (if b < a then 1 else 0)
  else if c = 3007 then qand a b else if c = 3008 then qor a b
  else rClamp (if c = 3000 then a + b else if c = 3001 then a - b else a * b)
theorem rBetween_in (c a b : Int) : in32 (rBetween c a b) := by
  have o0 : in32 0 := ⟨by decide, by decide⟩
  have o1 : in32 1 := ⟨by decide, by decide⟩
  unfold rBetween
  repeat' split
  all_goals first | exact o0 | exact o1 | exact qand_in _ _ | exact qor_in _ _ | exact rClamp_in _
section Ref42
variable {X : QX} {x : Int} {d : Nat} {post : Int → QMem → Prop} {M : QMem}
theorem m_clamp {v : Int} (h64 : in64 v) (hp : post (rClamp v) M) : (in64 v ∧ (v ≤ 1000000 → (((-1000000 : Int) ≤ v → (post (ql2i v) M)) ∧ (¬ (-1000000 : Int) ≤ v → (post (ql2i (-1000000)) M)))) ∧ (¬ v ≤ 1000000 → (post (ql2i 1000000) M))) := by
  refine ⟨h64, fun a => ⟨fun b => ?_, fun b => ?_⟩, fun a => ?_⟩
  · rw [ql2i_id ⟨by omega, by omega⟩]
    rw [rClamp, if_neg (by omega), if_neg (by omega)] at hp; exact hp
  · rw [ql2i_id ⟨by omega, by omega⟩]
    rw [rClamp, if_neg (by omega), if_pos (by omega)] at hp; exact hp
  · rw [ql2i_id ⟨by omega, by omega⟩]
    rw [rClamp, if_pos (by omega)] at hp; exact hp
theorem m_between {c a b : Int} (hc : in32 c) (ha : in32 a) (hb : in32 b) (hn : c ≠ 3006) (hp : post (rBetween c a b) M) : QCm X x d 1 yX11_between [(0, c), (0, a), (0, b)] M post := by
  have s1 : in64 (a + b) := ⟨by have := ha.1; have := hb.1; omega, by have := ha.2; have := hb.2; omega⟩
  have s2 : in64 (a - b) := ⟨by have := ha.1; have := hb.2; omega, by have := ha.2; have := hb.1; omega⟩
  have s3 := in32_mul ha hb
  refine QC.of qmX11_between_ok rfl (TX11_between_0 ⟨hc, fun z => ⟨fun w => ?_, fun w => ⟨ha, hb, ?_⟩⟩, fun z => ⟨ha, hb, fun w => ?_, fun w => ?_⟩, fun z => ⟨ha, hb, fun w => ?_, fun w => ?_⟩, fun z => absurd z hn, fun z => ?_, fun z => ?_, fun z => ⟨fun w => ⟨ha, hb, m_clamp s1 ?_⟩, fun w => ⟨fun u => ⟨ha, hb, m_clamp s2 ?_⟩, fun u => ⟨ha, hb, m_clamp s3 ?_⟩⟩⟩⟩)
  · simpa [rBetween, z, w] using hp
  · simpa [rBetween, z, w] using hp
  · simpa [rBetween, z, show ¬ a < b by omega] using hp
  · simpa [rBetween, z, show a < b by omega] using hp
  · simpa [rBetween, z, show ¬ b < a by omega] using hp
  · simpa [rBetween, z, show b < a by omega] using hp
  · simpa [rBetween, z] using hp
  · simpa [rBetween, z] using hp
  · simpa [rBetween, w] using hp
  · simpa [rBetween, u] using hp
  · simpa [rBetween, show ¬ c = 3003 by omega, show ¬ c = 3004 by omega, show ¬ c = 3005 by omega, show ¬ c = 3007 by omega, show ¬ c = 3008 by omega, w, u] using hp
/-- the reckoning of a law, c its parts, w its words: the stack behind i parts, and how high it is -/
def lawSt (c w : Int → Int) : Nat → (Int → Int) × Int
  | 0 => (fun _ => 0, 0)
  | i + 1 =>
    if c i < 3000 then ((fun j => if j = (lawSt c w i).2 then (if c i < 1000 then c i else w (c i - 1000)) else (lawSt c w i).1 j), (lawSt c w i).2 + 1)
    else if c i = 3006 then ((fun j => if j = (lawSt c w i).2 - 1 then 1 - (lawSt c w i).1 ((lawSt c w i).2 - 1) else (lawSt c w i).1 j), (lawSt c w i).2)
    else ((fun j => if j = (lawSt c w i).2 - 2 then rBetween (c i) ((lawSt c w i).1 ((lawSt c w i).2 - 2)) ((lawSt c w i).1 ((lawSt c w i).2 - 1)) else (lawSt c w i).1 j), (lawSt c w i).2 - 1)
/-- how high the stack is behind i parts: it doesn't hang on the words -/
def lawHi (c : Int → Int) : Nat → Int
  | 0 => 0
  | i + 1 => if c i < 3000 then lawHi c i + 1 else if c i = 3006 then lawHi c i else lawHi c i - 1
theorem lawSt_hi (c w : Int → Int) : ∀ i, (lawSt c w i).2 = lawHi c i := by
  intro i
  induction i with
  | zero => rfl
  | succ i ih =>
    rw [lawSt, lawHi]
    split
    · show _ + 1 = _; rw [ih]
    · split
      · exact ih
      · show _ - 1 = _; rw [ih]
/-- which places of the stack hold a truth -/
def lawTy (c : Int → Int) : Nat → Int → Bool
  | 0 => fun _ => false
  | i + 1 => if c i < 3000 then (fun j => if j = lawHi c i then false else lawTy c i j) else if c i = 3006 then lawTy c i else (fun j => if j = lawHi c i - 2 then decide (3003 ≤ c i) else lawTy c i j)
/-- n parts that can be reckoned -/
def lawOk (c : Int → Int) (n : Nat) : Prop := ∀ i : Nat, i < n → 0 ≤ c i ∧ c i ≤ 3008 ∧ (c i < 3000 → c i < 1005 ∧ 0 ≤ lawHi c i ∧ lawHi c i < 18) ∧ (c i = 3006 → 1 ≤ lawHi c i ∧ lawHi c i ≤ 18 ∧ lawTy c i (lawHi c i - 1) = true) ∧ (3000 ≤ c i → c i ≠ 3006 → 2 ≤ lawHi c i ∧ lawHi c i ≤ 18) ∧ (3007 ≤ c i → lawTy c i (lawHi c i - 1) = true ∧ lawTy c i (lawHi c i - 2) = true)
theorem rBetween_b {c a b : Int} (h0 : 3000 ≤ c) (h1 : c ≤ 3008) (h6 : c ≠ 3006) (hab : 3007 ≤ c → (a = 0 ∨ a = 1) ∧ (b = 0 ∨ b = 1)) : (3003 ≤ c → rBetween c a b = 0 ∨ rBetween c a b = 1) ∧ -1000000 ≤ rBetween c a b ∧ rBetween c a b ≤ 1000000 := by
  have cl : ∀ v, -1000000 ≤ rClamp v ∧ rClamp v ≤ 1000000 := by
    intro v
    unfold rClamp
    split
    · omega
    · split <;> omega
  have key : (3003 ≤ c → rBetween c a b = 0 ∨ rBetween c a b = 1) := by
    intro h3
    unfold rBetween
    split
    · split <;> simp
    · split
      · split <;> simp
      · split
        · split <;> simp
        · obtain ⟨ha, hb⟩ := hab (by omega)
          split
          · rcases ha with rfl | rfl <;> rcases hb with rfl | rfl <;> decide
          · split
            · rcases ha with rfl | rfl <;> rcases hb with rfl | rfl <;> decide
            · omega
  refine ⟨key, ?_⟩
  by_cases h3 : 3003 ≤ c
  · rcases key h3 with h | h <;> rw [h] <;> omega
  · unfold rBetween
    rw [if_neg (by omega), if_neg (by omega), if_neg (by omega), if_neg (by omega), if_neg (by omega)]
    exact cl _
theorem lawSt_b {c w : Int → Int} {n : Nat} (hc : lawOk c n) (hw : ∀ k, 0 ≤ k → k < 5 → -1000000 ≤ w k ∧ w k ≤ 1000000) : ∀ i, i ≤ n → ∀ j, 0 ≤ j → j < lawHi c i → (lawTy c i j = true → (lawSt c w i).1 j = 0 ∨ (lawSt c w i).1 j = 1) ∧ -1000000 ≤ (lawSt c w i).1 j ∧ (lawSt c w i).1 j ≤ 1000000 := by
  intro i
  induction i with
  | zero => intro _ j h0 h1; rw [lawHi] at h1; omega
  | succ i ih =>
    intro hi j h0 h1
    have ih := ih (by omega)
    obtain ⟨a1, a2, a3, a4, a5, a6⟩ := hc i (by omega)
    have e := lawSt_hi c w i
    rw [lawSt, lawTy]
    rw [lawHi] at h1
    by_cases b : c i < 3000
    · simp only [b, if_true] at h1 ⊢
      rw [e]
      by_cases hj : j = lawHi c i
      · simp only [hj, if_true]
        refine ⟨(fun z => by cases z), ?_⟩
        split
        · omega
        · exact hw (c i - 1000) (by omega) (by have := a3 b; omega)
      · simp only [hj, if_false]
        exact ih j h0 (by omega)
    · simp only [b, if_false] at h1 ⊢
      by_cases b2 : c i = 3006
      · simp only [b2, if_true] at h1 ⊢
        rw [e]
        by_cases hj : j = lawHi c i - 1
        · simp only [hj, if_true]
          obtain ⟨p1, p2, p3⟩ := a4 b2
          rcases (ih (lawHi c i - 1) (by omega) (by omega)).1 p3 with q | q <;> rw [q] <;> exact ⟨fun _ => by decide, by decide, by decide⟩
        · simp only [hj, if_false]
          exact ih j h0 h1
      · simp only [b2, if_false] at h1 ⊢
        rw [e]
        by_cases hj : j = lawHi c i - 2
        · simp only [hj, if_true]
          obtain ⟨p1, p2⟩ := a5 (by omega) b2
          obtain ⟨r1, r2⟩ := rBetween_b (c := c i) (a := (lawSt c w i).1 (lawHi c i - 2)) (b := (lawSt c w i).1 (lawHi c i - 1)) (by omega) a2 b2 (fun z => ⟨(ih _ (by omega) (by omega)).1 (a6 z).2, (ih _ (by omega) (by omega)).1 (a6 z).1⟩)
          exact ⟨fun z => r1 (of_decide_eq_true z), r2⟩
        · simp only [hj, if_false]
          exact ih j h0 (by omega)
end Ref42
