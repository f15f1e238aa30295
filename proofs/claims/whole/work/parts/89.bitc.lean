/-- how many bits a long has -/
theorem bt_nat (n k : Nat) : bt (n : Int) k = n.testBit k := by
  rw [bt, Nat.testBit_eq_decide_div_mod_eq]
  have c : ((n / 2 ^ k % 2 : Nat) : Int) = (n : Int) / (2 : Int) ^ k % 2 := by
    rw [Int.natCast_emod, Int.natCast_ediv, Int.natCast_pow]; rfl
  rw [← c]
  exact decide_eq_decide.2 ⟨fun z => by omega, fun z => by rw [z]; rfl⟩
theorem qland_nat {n m : Nat} (hn : n < 9223372036854775808) : qland (n : Int) (m : Int) = ((n &&& m : Nat) : Int) := by
  have l : n &&& m ≤ n := Nat.and_le_left
  refine ext64 (qland_in _ _) ⟨by omega, by omega⟩ (fun k hk => ?_)
  rw [bl_and _ _ hk, bt_nat, bt_nat, bt_nat, Nat.testBit_and]
theorem qlushr_nat {n : Nat} (hn : n < 9223372036854775808) {j : Nat} (hj : j < 64) : qlushr (n : Int) (j : Int) = ((n / 2 ^ j : Nat) : Int) := by
  rw [qlushr_div ⟨by omega, by omega⟩ hj, Int.natCast_ediv, Int.natCast_pow]; rfl
theorem and_lane {a b r s : Nat} (hr : r < 256) (hs : s < 256) : (256 * a + r) &&& (256 * b + s) = 256 * (a &&& b) + (r &&& s) := by
  have hrs : r &&& s < 2 ^ 8 := Nat.lt_of_le_of_lt Nat.and_le_left hr
  apply Nat.eq_of_testBit_eq
  intro j
  rw [Nat.testBit_and]
  show ((2 ^ 8 * a + r).testBit j && (2 ^ 8 * b + s).testBit j) = (2 ^ 8 * (a &&& b) + (r &&& s)).testBit j
  rw [Nat.testBit_two_pow_mul_add a (i := 8) hr j, Nat.testBit_two_pow_mul_add b (i := 8) hs j, Nat.testBit_two_pow_mul_add (a &&& b) hrs j]
  split <;> rw [Nat.testBit_and]
def mk8 (c : Nat) : Nat → Nat
  | 0 => 0
  | k + 1 => 256 * mk8 c k + c
def bs1 (k n : Nat) : Nat := n - ((n / 2) &&& mk8 85 k)
def bs2 (k n : Nat) : Nat := (n &&& mk8 51 k) + ((n / 4) &&& mk8 51 k)
def bs3 (k n : Nat) : Nat := (n + n / 16) &&& mk8 15 k
def bp1 (r : Nat) : Nat := r - ((r / 2) &&& 85)
def bp2 (r : Nat) : Nat := (r &&& 51) + ((r / 4) &&& 51)
def bp3 (r : Nat) : Nat := (r + r / 16) &&& 15
theorem bf1 : ∀ p : Nat, p < 2 → ∀ r : Nat, r < 256 → (128 * p + r / 2) &&& 85 = (r / 2) &&& 85 ∧ (r / 2) &&& 85 ≤ r := by decide +kernel
theorem bf2 : ∀ p : Nat, p < 4 → ∀ r : Nat, r < 256 → (64 * p + r / 4) &&& 51 = (r / 4) &&& 51 := by decide +kernel
theorem bf3 : ∀ p : Nat, p < 5 → ∀ r : Nat, r < 69 → (r + 16 * p + r / 16) &&& 15 = (r + r / 16) &&& 15 := by decide +kernel
theorem bf4 : ∀ r : Nat, r < 256 → bp1 r < 256 ∧ bp2 (bp1 r) < 69 ∧ bp2 (bp1 r) % 16 ≤ 4 := by decide +kernel
theorem bst1 (k a : Nat) {r : Nat} (hr : r < 256) : bs1 (k + 1) (256 * a + r) = 256 * bs1 k a + bp1 r := by
  have e : (256 * a + r) / 2 = 256 * (a / 2) + (128 * (a % 2) + r / 2) := by omega
  have f := bf1 (a % 2) (by omega) r hr
  have l : (a / 2) &&& mk8 85 k ≤ a / 2 := Nat.and_le_left
  unfold bs1 bp1
  rw [mk8, e, and_lane (by omega) (by decide), f.1]
  have := f.2
  omega
theorem bst2 (k a : Nat) {r : Nat} (hr : r < 256) : bs2 (k + 1) (256 * a + r) = 256 * bs2 k a + bp2 r := by
  have e : (256 * a + r) / 4 = 256 * (a / 4) + (64 * (a % 4) + r / 4) := by omega
  have f := bf2 (a % 4) (by omega) r hr
  unfold bs2 bp2
  rw [mk8, e, and_lane hr (by decide), and_lane (by omega) (by decide), f]
  omega
theorem bst3 (k a : Nat) {r : Nat} (hr : r < 69) (ha : a % 16 ≤ 4) : bs3 (k + 1) (256 * a + r) = 256 * bs3 k a + bp3 r := by
  have e : (256 * a + r) + (256 * a + r) / 16 = 256 * (a + a / 16) + (r + 16 * (a % 16) + r / 16) := by omega
  have f := bf3 (a % 16) (by omega) r hr
  unfold bs3 bp3
  rw [mk8, e, and_lane (by omega) (by decide), f]
theorem blow : ∀ k n : Nat, bs2 k (bs1 k n) % 16 ≤ 4
  | 0, n => by
    have : bs2 0 (bs1 0 n) = 0 := by
      show (bs1 0 n &&& 0) + (bs1 0 n / 4 &&& 0) = 0
      rw [Nat.and_zero, Nat.and_zero]
    rw [this]; decide
  | k + 1, n => by
    have e : n = 256 * (n / 256) + n % 256 := by omega
    have f := bf4 (n % 256) (by omega)
    rw [e, bst1 k _ (by omega), bst2 k _ f.1]
    omega
def bT (k n : Nat) : Nat := bs3 k (bs2 k (bs1 k n))
def bc (r : Nat) : Nat := bp3 (bp2 (bp1 r))
theorem bT_next (k a : Nat) {r : Nat} (hr : r < 256) : bT (k + 1) (256 * a + r) = 256 * bT k a + bc r := by
  have f := bf4 r hr
  unfold bT bc
  rw [bst1 k a hr, bst2 k _ f.1, bst3 k _ f.2.1 (blow k a)]
theorem bc_is : ∀ r : Nat, r < 256 → bc r ≤ 8 ∧ bc r = (if r.testBit 0 then 1 else 0) + (if r.testBit 1 then 1 else 0) + (if r.testBit 2 then 1 else 0) + (if r.testBit 3 then 1 else 0) + (if r.testBit 4 then 1 else 0) + (if r.testBit 5 then 1 else 0) + (if r.testBit 6 then 1 else 0) + (if r.testBit 7 then 1 else 0) := by decide +kernel
theorem bt_l2i (a : Int) {k : Nat} (h : k < 32) : bt (ql2i a) k = bt a k := by
  rw [ql2i, bt_i _ h, Int64.toBitVec_toInt32, BitVec.getLsbD_signExtend, if_pos (by omega), bt_l' a (by omega), decide_eq_true h]; rfl
theorem bt_127 : ∀ k : Nat, k < 32 → bt 127 k = decide (k < 7) := by decide +kernel
theorem low7 {a : Int} (ha : 0 ≤ a) : qand (ql2i a) 127 = a % 128 := by
  refine ext32 (qand_in _ _) ⟨by omega, by omega⟩ (fun k hk => ?_)
  rw [bi_and _ _ hk, bt_127 k hk]
  by_cases c : k < 7
  · rw [decide_eq_true c, Bool.and_true, bt_l2i a hk, bt, bt]
    have : k = 0 ∨ k = 1 ∨ k = 2 ∨ k = 3 ∨ k = 4 ∨ k = 5 ∨ k = 6 := by omega
    rcases this with rfl | rfl | rfl | rfl | rfl | rfl | rfl
    · exact decide_eq_decide.2 (by rw [show (2 : Int) ^ 0 = 1 from rfl]; omega)
    · exact decide_eq_decide.2 (by rw [show (2 : Int) ^ 1 = 2 from rfl]; omega)
    · exact decide_eq_decide.2 (by rw [show (2 : Int) ^ 2 = 4 from rfl]; omega)
    · exact decide_eq_decide.2 (by rw [show (2 : Int) ^ 3 = 8 from rfl]; omega)
    · exact decide_eq_decide.2 (by rw [show (2 : Int) ^ 4 = 16 from rfl]; omega)
    · exact decide_eq_decide.2 (by rw [show (2 : Int) ^ 5 = 32 from rfl]; omega)
    · exact decide_eq_decide.2 (by rw [show (2 : Int) ^ 6 = 64 from rfl]; omega)
  · rw [decide_eq_false c, Bool.and_false, bt]
    have e1 : (2 : Int) ^ k = 2 ^ (7 + (k - 7)) := congrArg (fun n => (2 : Int) ^ n) (by omega)
    have p2 := pow2_pos (k - 7)
    have hp : (128 : Int) ≤ 2 ^ k := by rw [e1, Int.pow_add, show (2 : Int) ^ 7 = 128 from rfl]; omega
    rw [Int.ediv_eq_zero_of_lt (by omega) (by omega)]; exact (decide_eq_false (by decide)).symm
theorem rCnt_add (p : Int → Prop) (n : Nat) : ∀ m : Nat, rCnt p (n + m) = rCnt p n + rCnt (fun i => p (n + i)) m := by
  intro m
  induction m with
  | zero => show rCnt p n = rCnt p n + 0; rw [Int.add_zero]
  | succ m ih =>
    have e : p ((n + m : Nat) : Int) ↔ (fun i : Int => p (n + i)) (m : Int) := by
      show p ((n + m : Nat) : Int) ↔ p ((n : Int) + m)
      rw [show ((n + m : Nat) : Int) = (n : Int) + m by omega]
    by_cases z : p ((n + m : Nat) : Int)
    · rw [show n + (m + 1) = (n + m) + 1 by omega, rCnt_yes z, rCnt_yes (p := fun i => p (n + i)) (e.1 z), ih]; omega
    · rw [show n + (m + 1) = (n + m) + 1 by omega, rCnt_no z, rCnt_no (p := fun i => p (n + i)) (fun y => z (e.2 y)), ih]
theorem rCnt_bit (b : Nat → Bool) (p : Int → Prop) (h : ∀ i : Nat, i < 8 → (p i ↔ b i = true)) : rCnt p 8 = (if b 0 then 1 else 0) + (if b 1 then 1 else 0) + (if b 2 then 1 else 0) + (if b 3 then 1 else 0) + (if b 4 then 1 else 0) + (if b 5 then 1 else 0) + (if b 6 then 1 else 0) + (if b 7 then 1 else 0) := by
  have st : ∀ n : Nat, n < 8 → rCnt p (n + 1) = rCnt p n + (if b n then 1 else 0) := fun n hn => by
    cases q : b n with
    | true => rw [rCnt_yes ((h n hn).2 q)]; rfl
    | false => rw [rCnt_no (fun z => by rw [(h n hn).1 z] at q; exact absurd q (by decide))]; exact (Int.add_zero _).symm
  rw [st 7 (by decide), st 6 (by decide), st 5 (by decide), st 4 (by decide), st 3 (by decide), st 2 (by decide), st 1 (by decide), st 0 (by decide), rCnt_zero]
  omega
theorem bc_cnt {n : Nat} (j : Nat) {p : Int → Prop} (h : ∀ i : Nat, i < 8 → (p i ↔ n.testBit (8 * j + i) = true)) : rCnt p 8 = (bc (n / 2 ^ (8 * j) % 256) : Nat) := by
  have f := (bc_is (n / 2 ^ (8 * j) % 256) (by omega)).2
  have t : ∀ i : Nat, i < 8 → (n / 2 ^ (8 * j) % 256).testBit i = n.testBit (8 * j + i) := fun i hi => by
    rw [show (256 : Nat) = 2 ^ 8 from rfl, Nat.testBit_mod_two_pow, decide_eq_true hi, Bool.true_and, Nat.testBit_div_two_pow, Nat.add_comm]
  rw [rCnt_bit (fun i => n.testBit (8 * j + i)) p h, f, t 0 (by decide), t 1 (by decide), t 2 (by decide), t 3 (by decide), t 4 (by decide), t 5 (by decide), t 6 (by decide), t 7 (by decide)]
  have c : ∀ b : Bool, ((if b then 1 else 0 : Nat) : Int) = if b then 1 else 0 := fun b => by cases b <;> rfl
  simp only [Int.natCast_add, c]
section Bitc89
variable {X : QX} {x : Int} {d : Nat} {post : Int → QMem → Prop} {M : QMem} {cont : Int → Int → QMem → Prop} {A : Int → Int}
theorem j_bitCount {v : Int} (hv : 0 ≤ v ∧ v < 68719476736) (hp : post (rCnt (fun k => bt v k.toNat = true) 36) M) : QCm X x d 1 yJ13_bitCount_95d88 [(1, v)] M post := by
  obtain ⟨n, rfl⟩ := Int.eq_ofNat_of_zero_le hv.1
  have hn : n < 68719476736 := by omega
  refine QC.of qmJ13_bitCount_95d88_ok rfl (TJ13_bitCount_95d88_0 ?_)
  have s1 : (n : Int) - qland (qlushr (n : Int) 1) 6148914691236517205 = ((bs1 8 n : Nat) : Int) := by
    have e : qlushr (n : Int) 1 = ((n / 2 : Nat) : Int) := qlushr_nat (j := 1) (by omega) (by decide)
    have e2 : qland ((n / 2 : Nat) : Int) 6148914691236517205 = ((n / 2 &&& mk8 85 8 : Nat) : Int) := qland_nat (m := mk8 85 8) (by omega)
    have l : n / 2 &&& mk8 85 8 ≤ n / 2 := Nat.and_le_left
    rw [e, e2]; unfold bs1; omega
  have b1 : bs1 8 n ≤ n := Nat.sub_le _ _
  rw [s1]
  have s2 : qland ((bs1 8 n : Nat) : Int) 3689348814741910323 + qland (qlushr ((bs1 8 n : Nat) : Int) 2) 3689348814741910323 = ((bs2 8 (bs1 8 n) : Nat) : Int) := by
    have e : qlushr ((bs1 8 n : Nat) : Int) 2 = ((bs1 8 n / 4 : Nat) : Int) := qlushr_nat (j := 2) (by omega) (by decide)
    have e1 : qland ((bs1 8 n : Nat) : Int) 3689348814741910323 = ((bs1 8 n &&& mk8 51 8 : Nat) : Int) := qland_nat (m := mk8 51 8) (by omega)
    have e2 : qland ((bs1 8 n / 4 : Nat) : Int) 3689348814741910323 = ((bs1 8 n / 4 &&& mk8 51 8 : Nat) : Int) := qland_nat (m := mk8 51 8) (by omega)
    rw [e, e1, e2]; unfold bs2; omega
  have b2 : bs2 8 (bs1 8 n) ≤ 2 * n := by
    have l1 : bs1 8 n &&& mk8 51 8 ≤ bs1 8 n := Nat.and_le_left
    have l2 : bs1 8 n / 4 &&& mk8 51 8 ≤ bs1 8 n / 4 := Nat.and_le_left
    unfold bs2; omega
  rw [s2]
  have s3 : qland (((bs2 8 (bs1 8 n) : Nat) : Int) + qlushr ((bs2 8 (bs1 8 n) : Nat) : Int) 4) 1085102592571150095 = ((bT 8 n : Nat) : Int) := by
    have e : qlushr ((bs2 8 (bs1 8 n) : Nat) : Int) 4 = ((bs2 8 (bs1 8 n) / 16 : Nat) : Int) := qlushr_nat (j := 4) (by omega) (by decide)
    have e1 : qland ((bs2 8 (bs1 8 n) + bs2 8 (bs1 8 n) / 16 : Nat) : Int) 1085102592571150095 = (((bs2 8 (bs1 8 n) + bs2 8 (bs1 8 n) / 16) &&& mk8 15 8 : Nat) : Int) := qland_nat (m := mk8 15 8) (by omega)
    rw [e, ← Int.natCast_add, e1]; rfl
  rw [s3]
  -- the bytes
  have n0 : n = 256 * (n / 256) + n % 256 := by omega
  have n1 : n / 256 = 256 * (n / 65536) + n / 256 % 256 := by omega
  have n2 : n / 65536 = 256 * (n / 16777216) + n / 65536 % 256 := by omega
  have n3 : n / 16777216 = 256 * (n / 4294967296) + n / 16777216 % 256 := by omega
  have n4 : n / 4294967296 = 256 * 0 + n / 4294967296 % 256 := by omega
  have t0 : bT 8 n = 256 * bT 7 (n / 256) + bc (n % 256) := by
    have := bT_next 7 (n / 256) (r := n % 256) (by omega)
    rw [← n0] at this; exact this
  have t1 : bT 7 (n / 256) = 256 * bT 6 (n / 65536) + bc (n / 256 % 256) := by
    have := bT_next 6 (n / 65536) (r := n / 256 % 256) (by omega)
    rw [← n1] at this; exact this
  have t2 : bT 6 (n / 65536) = 256 * bT 5 (n / 16777216) + bc (n / 65536 % 256) := by
    have := bT_next 5 (n / 16777216) (r := n / 65536 % 256) (by omega)
    rw [← n2] at this; exact this
  have t3 : bT 5 (n / 16777216) = 256 * bT 4 (n / 4294967296) + bc (n / 16777216 % 256) := by
    have := bT_next 4 (n / 4294967296) (r := n / 16777216 % 256) (by omega)
    rw [← n3] at this; exact this
  have t4 : bT 4 (n / 4294967296) = 256 * bT 3 0 + bc (n / 4294967296 % 256) := by
    have := bT_next 3 0 (r := n / 4294967296 % 256) (by omega)
    rw [← n4] at this; exact this
  have t5 : bT 3 0 = 0 := by decide +kernel
  have c0 := (bc_is (n % 256) (by omega)).1
  have c1 := (bc_is (n / 256 % 256) (by omega)).1
  have c2 := (bc_is (n / 65536 % 256) (by omega)).1
  have c3 := (bc_is (n / 16777216 % 256) (by omega)).1
  have c4 := (bc_is (n / 4294967296 % 256) (by omega)).1
  -- how many
  have cnt : rCnt (fun k => bt (n : Int) k.toNat = true) 36 = ((bc (n % 256) + bc (n / 256 % 256) + bc (n / 65536 % 256) + bc (n / 16777216 % 256) + bc (n / 4294967296 % 256) : Nat) : Int) := by
    have e40 : rCnt (fun k => bt (n : Int) k.toNat = true) (36 + 4) = rCnt (fun k => bt (n : Int) k.toNat = true) 36 := by
      rw [rCnt_add]
      have : rCnt (fun i => bt (n : Int) ((36 : Nat) + i : Int).toNat = true) 4 = 0 := rCnt_zero_iff.2 (fun i hi z => by
        rw [bt_nat, Nat.testBit_lt_two_pow] at z
        · exact absurd z (by decide)
        · have : (2 : Nat) ^ 36 ≤ 2 ^ (((36 : Nat) : Int) + i).toNat := Nat.pow_le_pow_right (by decide) (by omega)
          have e36 : (2 : Nat) ^ 36 = 68719476736 := by decide
          omega)
      omega
    rw [← e40]
    show rCnt (fun k => bt (n : Int) k.toNat = true) (8 + (8 + (8 + (8 + 8)))) = _
    rw [rCnt_add, rCnt_add, rCnt_add, rCnt_add]
    have p0 := bc_cnt (n := n) 0 (p := fun k => bt (n : Int) k.toNat = true) (fun i _ => by rw [bt_nat, show 8 * 0 + i = (i : Int).toNat by omega])
    have p1 := bc_cnt (n := n) 1 (p := fun i => bt (n : Int) (((8 : Nat) : Int) + i).toNat = true) (fun i _ => by rw [bt_nat, show 8 * 1 + i = (((8 : Nat) : Int) + (i : Int)).toNat by omega])
    have p2 := bc_cnt (n := n) 2 (p := fun i => bt (n : Int) (((8 : Nat) : Int) + (((8 : Nat) : Int) + i)).toNat = true) (fun i _ => by rw [bt_nat, show 8 * 2 + i = (((8 : Nat) : Int) + (((8 : Nat) : Int) + (i : Int))).toNat by omega])
    have p3 := bc_cnt (n := n) 3 (p := fun i => bt (n : Int) (((8 : Nat) : Int) + (((8 : Nat) : Int) + (((8 : Nat) : Int) + i))).toNat = true) (fun i _ => by rw [bt_nat, show 8 * 3 + i = (((8 : Nat) : Int) + (((8 : Nat) : Int) + (((8 : Nat) : Int) + (i : Int)))).toNat by omega])
    have p4 := bc_cnt (n := n) 4 (p := fun i => bt (n : Int) (((8 : Nat) : Int) + (((8 : Nat) : Int) + (((8 : Nat) : Int) + (((8 : Nat) : Int) + i)))).toNat = true) (fun i _ => by rw [bt_nat, show 8 * 4 + i = (((8 : Nat) : Int) + (((8 : Nat) : Int) + (((8 : Nat) : Int) + (((8 : Nat) : Int) + (i : Int))))).toNat by omega])
    rw [show n / 2 ^ (8 * 0) % 256 = n % 256 by rw [show 2 ^ (8 * 0) = 1 from rfl, Nat.div_one]] at p0
    rw [show n / 2 ^ (8 * 1) % 256 = n / 256 % 256 from rfl] at p1
    rw [show n / 2 ^ (8 * 2) % 256 = n / 65536 % 256 from rfl] at p2
    rw [show n / 2 ^ (8 * 3) % 256 = n / 16777216 % 256 from rfl] at p3
    rw [show n / 2 ^ (8 * 4) % 256 = n / 4294967296 % 256 from rfl] at p4
    rw [p0, p1, p2, p3, p4]
    omega
  rw [cnt] at hp
  generalize bc (n % 256) = k0 at *
  generalize bc (n / 256 % 256) = k1 at *
  generalize bc (n / 65536 % 256) = k2 at *
  generalize bc (n / 16777216 % 256) = k3 at *
  generalize bc (n / 4294967296 % 256) = k4 at *
  have xb : bT 8 n = 256 * (256 * (256 * (256 * (256 * 0 + k4) + k3) + k2) + k1) + k0 := by rw [t0, t1, t2, t3, t4, t5]
  generalize bT 8 n = y at *
  have d1 : (y : Int) + qlushr (y : Int) 8 = ((y + y / 256 : Nat) : Int) := by
    have e : qlushr (y : Int) 8 = ((y / 256 : Nat) : Int) := qlushr_nat (j := 8) (by omega) (by decide)
    rw [e]; omega
  rw [d1]
  have d2 : ((y + y / 256 : Nat) : Int) + qlushr ((y + y / 256 : Nat) : Int) 16 = ((y + y / 256 + (y + y / 256) / 65536 : Nat) : Int) := by
    have e : qlushr ((y + y / 256 : Nat) : Int) 16 = (((y + y / 256) / 65536 : Nat) : Int) := qlushr_nat (j := 16) (by omega) (by decide)
    rw [e]; omega
  rw [d2]
  have y1 : y / 256 = k1 + 256 * k2 + 65536 * k3 + 16777216 * k4 := by omega
  have y2 : y + y / 256 = (k0 + k1) + 256 * (k1 + k2) + 65536 * (k2 + k3) + 16777216 * (k3 + k4) + 4294967296 * k4 := by omega
  have y3 : (y + y / 256) / 65536 = (k2 + k3) + 256 * (k3 + k4) + 65536 * k4 := by omega
  have y4 : y + y / 256 + (y + y / 256) / 65536 = (k0 + k1 + k2 + k3) + 256 * (k1 + k2 + k3 + k4) + 65536 * (k2 + k3 + k4) + 16777216 * (k3 + k4) + 4294967296 * k4 := by omega
  generalize y + y / 256 + (y + y / 256) / 65536 = z at *
  have y5 : z / 4294967296 = k4 := by omega
  have d3 : (z : Int) + qlushr (z : Int) 32 = ((z + z / 4294967296 : Nat) : Int) := by
    have e : qlushr (z : Int) 32 = ((z / 4294967296 : Nat) : Int) := qlushr_nat (j := 32) (by omega) (by decide)
    rw [e]; omega
  rw [d3, low7 (by omega)]
  have fin : ((z + z / 4294967296 : Nat) : Int) % 128 = ((k0 + k1 + k2 + k3 + k4 : Nat) : Int) := by rw [y5, y4]; omega
  rw [fin]; exact hp
end Bitc89
