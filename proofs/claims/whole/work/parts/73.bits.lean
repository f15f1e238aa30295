/-- a bit of a number -/
def bt (v : Int) (k : Nat) : Bool := decide (v / (2 : Int) ^ k % 2 = 1)
theorem bt_of {w k : Nat} (h : k < w) (v : Int) : (BitVec.ofInt w v).getLsbD k = bt v k := by
  have e : ((2 ^ w : Nat) : Int) = (2 : Int) ^ k * (2 * (2 : Int) ^ (w - k - 1)) := by
    have hw : w = k + ((w - k - 1) + 1) := by omega
    have e1 : (2 : Int) ^ w = (2 : Int) ^ (k + ((w - k - 1) + 1)) := congrArg (fun n => (2 : Int) ^ n) hw
    rw [Int.natCast_pow]
    refine e1.trans ?_
    rw [Int.pow_add, Int.pow_succ']
  have p : (0 : Int) < (2 : Int) ^ k := Int.pow_pos (by decide)
  have pw : (0 : Int) < ((2 ^ w : Nat) : Int) := Int.natCast_pos.2 (Nat.two_pow_pos w)
  have m0 : 0 ≤ v % ((2 ^ w : Nat) : Int) := Int.emod_nonneg _ (Int.ne_of_gt pw)
  have hv : v = v % ((2 ^ w : Nat) : Int) + (2 : Int) ^ k * (2 * ((2 : Int) ^ (w - k - 1) * (v / ((2 ^ w : Nat) : Int)))) := by
    have h1 := Int.emod_add_mul_ediv v ((2 ^ w : Nat) : Int)
    have h2 : ((2 ^ w : Nat) : Int) * (v / ((2 ^ w : Nat) : Int)) = (2 : Int) ^ k * (2 * ((2 : Int) ^ (w - k - 1) * (v / ((2 ^ w : Nat) : Int)))) := by
      generalize v / ((2 ^ w : Nat) : Int) = q
      rw [e, Int.mul_assoc, Int.mul_assoc]
    rw [← h2]; exact h1.symm
  have t : v / (2 : Int) ^ k % 2 = v % ((2 ^ w : Nat) : Int) / (2 : Int) ^ k % 2 := by
    generalize v % ((2 ^ w : Nat) : Int) = m at *
    generalize (2 : Int) ^ (w - k - 1) * (v / ((2 ^ w : Nat) : Int)) = q at *
    rw [hv, Int.add_mul_ediv_left _ _ (Int.ne_of_gt p), Int.add_mul_emod_self_left]
  rw [← BitVec.testBit_toNat, BitVec.toNat_ofInt, Nat.testBit_eq_decide_div_mod_eq, bt, t]
  generalize v % ((2 ^ w : Nat) : Int) = m at *
  obtain ⟨n, rfl⟩ := Int.eq_ofNat_of_zero_le m0
  have c : ((n / 2 ^ k % 2 : Nat) : Int) = (n : Int) / (2 : Int) ^ k % 2 := by
    rw [Int.natCast_emod, Int.natCast_ediv, Int.natCast_pow]; rfl
  rw [Int.toNat_natCast, ← c]
  refine decide_eq_decide.2 ⟨fun z => by rw [z]; rfl, fun z => by omega⟩
theorem bt_0 (k : Nat) : bt 0 k = false := by rw [bt, Int.zero_ediv]; rfl
theorem bt_i (x : Int32) {k : Nat} (h : k < 32) : bt x.toInt k = x.toBitVec.getLsbD k := by
  rw [← bt_of h]; exact congrArg (fun b : BitVec 32 => b.getLsbD k) BitVec.ofInt_toInt
theorem bt_l (x : Int64) {k : Nat} (h : k < 64) : bt x.toInt k = x.toBitVec.getLsbD k := by
  rw [← bt_of h]; exact congrArg (fun b : BitVec 64 => b.getLsbD k) BitVec.ofInt_toInt
theorem bt_i' (v : Int) {k : Nat} (h : k < 32) : (Int32.ofInt v).toBitVec.getLsbD k = bt v k := bt_of h v
theorem bt_l' (v : Int) {k : Nat} (h : k < 64) : (Int64.ofInt v).toBitVec.getLsbD k = bt v k := bt_of h v
theorem bi_m1 {k : Nat} (h : k < 32) : bt (-1) k = true := by
  rw [← bt_of h, show BitVec.ofInt 32 (-1) = BitVec.allOnes 32 from by decide, BitVec.getLsbD_allOnes, decide_eq_true h]
theorem bl_m1 {k : Nat} (h : k < 64) : bt (-1) k = true := by
  rw [← bt_of h, show BitVec.ofInt 64 (-1) = BitVec.allOnes 64 from by decide, BitVec.getLsbD_allOnes, decide_eq_true h]
theorem bi_and (a b : Int) {k : Nat} (h : k < 32) : bt (qand a b) k = (bt a k && bt b k) := by
  rw [qand, bt_i _ h, Int32.toBitVec_and, BitVec.getLsbD_and, bt_i' a h, bt_i' b h]
theorem bi_or (a b : Int) {k : Nat} (h : k < 32) : bt (qor a b) k = (bt a k || bt b k) := by
  rw [qor, bt_i _ h, Int32.toBitVec_or, BitVec.getLsbD_or, bt_i' a h, bt_i' b h]
theorem bi_not (a : Int) {k : Nat} (h : k < 32) : bt (qxor a (-1)) k = !bt a k := by
  rw [qxor, bt_i _ h, Int32.toBitVec_xor, BitVec.getLsbD_xor, bt_i' a h, bt_i' _ h, bi_m1 h]; cases bt a k <;> rfl
theorem bl_and (a b : Int) {k : Nat} (h : k < 64) : bt (qland a b) k = (bt a k && bt b k) := by
  rw [qland, bt_l _ h, Int64.toBitVec_and, BitVec.getLsbD_and, bt_l' a h, bt_l' b h]
theorem bl_or (a b : Int) {k : Nat} (h : k < 64) : bt (qlor a b) k = (bt a k || bt b k) := by
  rw [qlor, bt_l _ h, Int64.toBitVec_or, BitVec.getLsbD_or, bt_l' a h, bt_l' b h]
theorem bl_not (a : Int) {k : Nat} (h : k < 64) : bt (qlxor a (-1)) k = !bt a k := by
  rw [qlxor, bt_l _ h, Int64.toBitVec_xor, BitVec.getLsbD_xor, bt_l' a h, bt_l' _ h, bl_m1 h]; cases bt a k <;> rfl
theorem tp_i : ∀ j : Nat, j < 32 → (Int32.ofInt 1 <<< (Int32.ofInt (j : Int) &&& 31)).toBitVec = BitVec.twoPow 32 j := by decide +kernel
theorem tp_l : ∀ j : Nat, j < 64 → (Int64.ofInt 1 <<< ((Int32.ofInt (j : Int)).toInt64 &&& 63)).toBitVec = BitVec.twoPow 64 j := by decide +kernel
theorem sh_i : ∀ j : Nat, j < 32 → ((Int32.ofInt (j : Int) &&& 31).toBitVec.smod 32).toNat = j := by decide +kernel
theorem sh_l : ∀ j : Nat, j < 64 → (((Int32.ofInt (j : Int)).toInt64 &&& 63).toBitVec.smod 64).toNat = j := by decide +kernel
theorem sh_u : ∀ j : Nat, j < 32 → (((Int32.ofInt (j : Int)).toUInt32 &&& Int32.toUInt32 31).toBitVec % 32).toNat = j := by decide +kernel
theorem sh_v : ∀ j : Nat, j < 64 → (((Int32.ofInt (j : Int)).toInt64.toUInt64 &&& Int64.toUInt64 63).toBitVec % 64).toNat = j := by decide +kernel
theorem bi_shl {j k : Nat} (hj : j < 32) (h : k < 32) : bt (qshl 1 (j : Int)) k = decide (j = k) := by
  rw [qshl, bt_i _ h, tp_i j hj, BitVec.getLsbD_twoPow, decide_eq_true hj, Bool.true_and]
theorem bl_shl {j k : Nat} (hj : j < 64) (h : k < 64) : bt (qlshl 1 (j : Int)) k = decide (j = k) := by
  rw [qlshl, bt_l _ h, tp_l j hj, BitVec.getLsbD_twoPow, decide_eq_true hj, Bool.true_and]
theorem bi_shr (a : Int) {j k : Nat} (h : j + k < 32) : bt (qshr a (j : Int)) k = bt a (j + k) := by
  rw [qshr, bt_i _ (by omega), Int32.toBitVec_shiftRight, BitVec.sshiftRight_eq']
  have e := sh_i j (by omega)
  refine (congrArg (fun s => ((Int32.ofInt a).toBitVec.sshiftRight s).getLsbD k) e).trans ?_
  show ((Int32.ofInt a).toBitVec.sshiftRight j).getLsbD k = _
  rw [BitVec.getLsbD_sshiftRight, if_pos h, decide_eq_false (by omega), bt_i' a h]; rfl
theorem bl_shr (a : Int) {j k : Nat} (h : j + k < 64) : bt (qlshr a (j : Int)) k = bt a (j + k) := by
  rw [qlshr, bt_l _ (by omega), Int64.toBitVec_shiftRight, BitVec.sshiftRight_eq']
  have e := sh_l j (by omega)
  refine (congrArg (fun s => ((Int64.ofInt a).toBitVec.sshiftRight s).getLsbD k) e).trans ?_
  show ((Int64.ofInt a).toBitVec.sshiftRight j).getLsbD k = _
  rw [BitVec.getLsbD_sshiftRight, if_pos h, decide_eq_false (by omega), bt_l' a h]; rfl
theorem bi_ushr (a : Int) {j k : Nat} (h : j + k < 32) : bt (qushr a (j : Int)) k = bt a (j + k) := by
  rw [qushr, bt_i _ (by omega)]
  have e := sh_u j (by omega)
  refine (congrArg (fun s => ((Int32.ofInt a).toBitVec >>> s).getLsbD k) e).trans ?_
  show ((Int32.ofInt a).toBitVec >>> j).getLsbD k = _
  rw [BitVec.getLsbD_ushiftRight, bt_i' a h]
theorem bl_ushr (a : Int) {j k : Nat} (h : j + k < 64) : bt (qlushr a (j : Int)) k = bt a (j + k) := by
  rw [qlushr, bt_l _ (by omega)]
  have e := sh_v j (by omega)
  refine (congrArg (fun s => ((Int64.ofInt a).toBitVec >>> s).getLsbD k) e).trans ?_
  show ((Int64.ofInt a).toBitVec >>> j).getLsbD k = _
  rw [BitVec.getLsbD_ushiftRight, bt_l' a h]
theorem ext32 {a b : Int} (ha : in32 a) (hb : in32 b) (h : ∀ k, k < 32 → bt a k = bt b k) : a = b := by
  have e : (Int32.ofInt a).toBitVec = (Int32.ofInt b).toBitVec := BitVec.eq_of_getLsbD_eq (fun i hi => by rw [bt_i' a hi, bt_i' b hi]; exact h i hi)
  rw [← q32 ha, ← q32 hb]
  exact congrArg BitVec.toInt e
theorem ext64 {a b : Int} (ha : in64 a) (hb : in64 b) (h : ∀ k, k < 64 → bt a k = bt b k) : a = b := by
  have e : (Int64.ofInt a).toBitVec = (Int64.ofInt b).toBitVec := BitVec.eq_of_getLsbD_eq (fun i hi => by rw [bt_l' a hi, bt_l' b hi]; exact h i hi)
  rw [← q64 ha, ← q64 hb]
  exact congrArg BitVec.toInt e
theorem qland_in (a b : Int) : in64 (qland a b) := ⟨Int64.minValue_le_toInt _, Int64.toInt_le _⟩
theorem qlor_in (a b : Int) : in64 (qlor a b) := ⟨Int64.minValue_le_toInt _, Int64.toInt_le _⟩
theorem qlshl_in (a b : Int) : in64 (qlshl a b) := ⟨Int64.minValue_le_toInt _, Int64.toInt_le _⟩
theorem qlxor_in (a b : Int) : in64 (qlxor a b) := ⟨Int64.minValue_le_toInt _, Int64.toInt_le _⟩
theorem qlushr_in (a b : Int) : in64 (qlushr a b) := ⟨Int64.minValue_le_toInt _, Int64.toInt_le _⟩
theorem qshl_in (a b : Int) : in32 (qshl a b) := ⟨Int32.minValue_le_toInt _, Int32.toInt_le _⟩
theorem qxor_in (a b : Int) : in32 (qxor a b) := ⟨Int32.minValue_le_toInt _, Int32.toInt_le _⟩
theorem qshr_in (a b : Int) : in32 (qshr a b) := ⟨Int32.minValue_le_toInt _, Int32.toInt_le _⟩
theorem bt_1 {k : Nat} (h : k < 64) : bt 1 k = decide (k = 0) := by
  have := bl_shl (j := 0) (by decide) h
  rw [show qlshl 1 ((0 : Nat) : Int) = 1 from by decide +kernel] at this
  rw [this]; exact decide_eq_decide.2 eq_comm
/-- the lowest bit -/
theorem qand_1 (a : Int) : qand a 1 = if bt a 0 = true then 1 else 0 := by
  refine ext32 (qand_in _ _) (by split <;> exact ⟨by decide, by decide⟩) (fun k hk => ?_)
  rw [bi_and _ _ hk, bt_1 (by omega)]
  by_cases z : k = 0
  · subst z; split <;> rename_i q
    · rw [q]; rfl
    · rw [Bool.not_eq_true] at q; rw [q]; rfl
  · rw [decide_eq_false z, Bool.and_false]; split
    · rw [bt_1 (by omega), decide_eq_false z]
    · rw [bt_0]
theorem qland_1 (a : Int) : qland a 1 = if bt a 0 = true then 1 else 0 := by
  refine ext64 (qland_in _ _) (by split <;> exact ⟨by decide, by decide⟩) (fun k hk => ?_)
  rw [bl_and _ _ hk, bt_1 (by omega)]
  by_cases z : k = 0
  · subst z; split <;> rename_i q
    · rw [q]; rfl
    · rw [Bool.not_eq_true] at q; rw [q]; rfl
  · rw [decide_eq_false z, Bool.and_false]; split
    · rw [bt_1 (by omega), decide_eq_false z]
    · rw [bt_0]
/-- a bit asked for, as the class and the reference do -/
theorem ask_i (a : Int) {j : Int} (h : 0 ≤ j ∧ j < 32) : qand (qshr a j) 1 = if bt a j.toNat = true then 1 else 0 := by
  obtain ⟨n, rfl⟩ := Int.eq_ofNat_of_zero_le h.1
  rw [qand_1, bi_shr a (by omega)]; rfl
theorem ask_l (a : Int) {j : Int} (h : 0 ≤ j ∧ j < 64) : qland (qlshr a j) 1 = if bt a j.toNat = true then 1 else 0 := by
  obtain ⟨n, rfl⟩ := Int.eq_ofNat_of_zero_le h.1
  rw [qland_1, bl_shr a (by omega)]; rfl
theorem ask_u (a : Int) {j : Int} (h : 0 ≤ j ∧ j < 64) : qland (qlushr a j) 1 = if bt a j.toNat = true then 1 else 0 := by
  obtain ⟨n, rfl⟩ := Int.eq_ofNat_of_zero_le h.1
  rw [qland_1, bl_ushr a (by omega)]; rfl
/-- one bit more, one less -/
theorem put_i (a : Int) {j : Int} (h : 0 ≤ j ∧ j < 32) {k : Nat} (hk : k < 32) : bt (qor a (qshl 1 j)) k = (bt a k || decide ((k : Int) = j)) := by
  obtain ⟨n, rfl⟩ := Int.eq_ofNat_of_zero_le h.1
  rw [bi_or _ _ hk, bi_shl (by omega) hk]
  exact congrArg (fun b => (bt a k || b)) (decide_eq_decide.2 (by omega))
theorem put_l (a : Int) {j : Int} (h : 0 ≤ j ∧ j < 64) {k : Nat} (hk : k < 64) : bt (qlor a (qlshl 1 j)) k = (bt a k || decide ((k : Int) = j)) := by
  obtain ⟨n, rfl⟩ := Int.eq_ofNat_of_zero_le h.1
  rw [bl_or _ _ hk, bl_shl (by omega) hk]
  exact congrArg (fun b => (bt a k || b)) (decide_eq_decide.2 (by omega))
theorem off_i (a : Int) {j : Int} (h : 0 ≤ j ∧ j < 32) {k : Nat} (hk : k < 32) : bt (qand a (qxor (qshl 1 j) (-1))) k = (bt a k && !decide ((k : Int) = j)) := by
  obtain ⟨n, rfl⟩ := Int.eq_ofNat_of_zero_le h.1
  rw [bi_and _ _ hk, bi_not _ hk, bi_shl (by omega) hk]
  exact congrArg (fun b => (bt a k && !b)) (decide_eq_decide.2 (by omega))
theorem off_l (a : Int) {j : Int} (h : 0 ≤ j ∧ j < 64) {k : Nat} (hk : k < 64) : bt (qland a (qlxor (qlshl 1 j) (-1))) k = (bt a k && !decide ((k : Int) = j)) := by
  obtain ⟨n, rfl⟩ := Int.eq_ofNat_of_zero_le h.1
  rw [bl_and _ _ hk, bl_not _ hk, bl_shl (by omega) hk]
  exact congrArg (fun b => (bt a k && !b)) (decide_eq_decide.2 (by omega))
theorem bit_l {j : Int} (h : 0 ≤ j ∧ j < 64) {k : Nat} (hk : k < 64) : bt (qlshl 1 j) k = decide ((k : Int) = j) := by
  obtain ⟨n, rfl⟩ := Int.eq_ofNat_of_zero_le h.1
  rw [bl_shl (by omega) hk]
  exact decide_eq_decide.2 (by omega)
theorem bit_i {j : Int} (h : 0 ≤ j ∧ j < 32) {k : Nat} (hk : k < 32) : bt (qshl 1 j) k = decide ((k : Int) = j) := by
  obtain ⟨n, rfl⟩ := Int.eq_ofNat_of_zero_le h.1
  rw [bi_shl (by omega) hk]
  exact decide_eq_decide.2 (by omega)
/-- a byte -/
theorem bt_i2b (a : Int) {k : Nat} (h : k < 8) : bt (qi2b a) k = bt a k := by
  rw [qi2b, bt_i _ (by omega), Int8.toBitVec_toInt32, Int32.toBitVec_toInt8, BitVec.getLsbD_signExtend, BitVec.getLsbD_signExtend, if_pos h, if_pos (by omega), bt_i' a (by omega), decide_eq_true h, decide_eq_true (by omega : k < 32)]; rfl
theorem bt_255 : ∀ k : Nat, k < 32 → bt 255 k = decide (k < 8) := by decide +kernel
theorem qi2b_8 (a : Int) : -128 ≤ qi2b a ∧ qi2b a ≤ 127 := by
  rw [qi2b, Int8.toInt_toInt32]
  exact ⟨Int8.le_toInt _, Int8.toInt_le _⟩
theorem byte_and : ∀ n : Nat, n < 256 → qand ((n : Int) - 128) 255 = if (n : Int) - 128 < 0 then (n : Int) - 128 + 256 else (n : Int) - 128 := by decide +kernel
theorem fed (v : Int) {s : Int} (h : 0 ≤ s ∧ s ≤ 24) : (-128 ≤ qi2b (qi2b (qushr v s)) ∧ qi2b (qi2b (qushr v s)) ≤ 127) ∧ qand (qshr v s) 255 = if qi2b (qi2b (qushr v s)) < 0 then qi2b (qi2b (qushr v s)) + 256 else qi2b (qi2b (qushr v s)) := by
  have h1 := qi2b_8 (qi2b (qushr v s))
  refine ⟨h1, ?_⟩
  have e : qand (qshr v s) 255 = qand (qi2b (qi2b (qushr v s))) 255 := by
    obtain ⟨n, rfl⟩ := Int.eq_ofNat_of_zero_le h.1
    refine ext32 (qand_in _ _) (qand_in _ _) (fun k hk => ?_)
    rw [bi_and _ _ hk, bi_and _ _ hk, bt_255 k hk]
    by_cases z : k < 8
    · rw [bt_i2b _ z, bt_i2b _ z, bi_shr v (by omega), bi_ushr v (by omega)]
    · rw [decide_eq_false z, Bool.and_false, Bool.and_false]
  rw [e]
  generalize qi2b (qi2b (qushr v s)) = b at *
  obtain ⟨n, hn⟩ := Int.eq_ofNat_of_zero_le (show 0 ≤ b + 128 by omega)
  have hb : b = (n : Int) - 128 := by omega
  have := byte_and n (by omega)
  rw [← hb] at this; exact this
