theorem q32 {x : Int} (h : in32 x) : (Int32.ofInt x).toInt = x := Int32.toInt_ofInt_of_le (by have := h.1; omega) (by have := h.2; omega)
theorem q64 {x : Int} (h : in64 x) : (Int64.ofInt x).toInt = x := Int64.toInt_ofInt_of_le (by have := h.1; omega) (by have := h.2; omega)
theorem q_lt {a b : Int} (ha : in32 a) (hb : in32 b) : Int32.ofInt a < Int32.ofInt b ↔ a < b := by rw [Int32.lt_iff_toInt_lt, q32 ha, q32 hb]
theorem q_le {a b : Int} (ha : in32 a) (hb : in32 b) : Int32.ofInt a ≤ Int32.ofInt b ↔ a ≤ b := by rw [Int32.le_iff_toInt_le, q32 ha, q32 hb]
theorem q_eq {a b : Int} (ha : in32 a) (hb : in32 b) : Int32.ofInt a = Int32.ofInt b ↔ a = b := by rw [← Int32.toInt_inj, q32 ha, q32 hb]
theorem ql_lt {a b : Int} (ha : in64 a) (hb : in64 b) : Int64.ofInt a < Int64.ofInt b ↔ a < b := by rw [Int64.lt_iff_toInt_lt, q64 ha, q64 hb]
theorem ql_eq {a b : Int} (ha : in64 a) (hb : in64 b) : Int64.ofInt a = Int64.ofInt b ↔ a = b := by rw [← Int64.toInt_inj, q64 ha, q64 hb]
theorem q_clamp {x : Int} (h : in32 x) : (Int32.ofInt x).toNatClampNeg = x.toNat := by
  show (Int32.ofInt x).toInt.toNat = x.toNat
  rw [q32 h]
def qlook (lv : List (Nat × QV)) (i : Nat) : Option QV := match lv with
  | [] => none
  | q :: r => bif q.1 == i then some q.2 else qlook r i
theorem qlook_mem {lv : List (Nat × QV)} {i : Nat} {v : QV} (h : qlook lv i = some v) : (i, v) ∈ lv := by
  induction lv with
  | nil => cases h
  | cons q r ih =>
    rw [qlook] at h
    by_cases e : q.1 = i
    · rw [show (q.1 == i) = true by simpa using e] at h
      obtain ⟨q1, q2⟩ := q
      cases h; cases e
      exact List.mem_cons_self
    · rw [show (q.1 == i) = false by simpa using e] at h
      exact List.mem_cons_of_mem _ (ih h)
theorem qlook_ls {X : QX} {ls : Array Slot} {nL : Nat} {lv : List (Nat × QV)} {i : Nat} {v : QV} (hl : lv_has ls nL (lv.map fun q => (q.1, qcv X q.2))) (h : qlook lv i = some v) : ls[i]? = some (.val (qcv X v)) := hl.2.2 (i, qcv X v) (List.mem_map.mpr ⟨(i, v), qlook_mem h, rfl⟩)
def qset (lv : List (Nat × QV)) (i : Nat) (v : QV) : List (Nat × QV) := (i, v) :: lv.filter (fun q => !(q.1 == i) && !(q.1 + 1 == i && q.2.1 == 1))
def qsetl (lv : List (Nat × QV)) (i : Nat) (v : QV) : List (Nat × QV) := (i, v) :: lv.filter (fun q => !(q.1 == i) && (!(q.1 == i + 1) && !(q.1 + 1 == i && q.2.1 == 1)))
theorem qcat (X : QX) (v : QV) : ((qcv X v).category == 2) = (v.1 == 1) := by
  obtain ⟨k, x⟩ := v
  match k with
  | 0 => rfl
  | 1 => rfl
  | k + 2 =>
    show ((qrv X x).category == 2) = _
    unfold qrv
    split
    · simp [Value.category]
    · split <;> simp [Value.category]
theorem qset_map (X : QX) (lv : List (Nat × QV)) (i : Nat) (v : QV) : (i, qcv X v) :: (lv.map fun q => (q.1, qcv X q.2)).filter (fun q => !(q.1 == i) && !(q.1 + 1 == i && q.2.category == 2)) = (qset lv i v).map fun q => (q.1, qcv X q.2) := by
  unfold qset
  rw [List.map_cons, List.filter_map]
  congr 2
  apply List.filter_congr
  intro q _
  simp only [Function.comp, qcat]
theorem qsetl_map (X : QX) (lv : List (Nat × QV)) (i : Nat) (v : QV) : (i, qcv X v) :: (lv.map fun q => (q.1, qcv X q.2)).filter (fun q => !(q.1 == i) && (!(q.1 == i + 1) && !(q.1 + 1 == i && q.2.category == 2))) = (qsetl lv i v).map fun q => (q.1, qcv X q.2) := by
  unfold qsetl
  rw [List.map_cons, List.filter_map]
  congr 2
  apply List.filter_congr
  intro q _
  simp only [Function.comp, qcat]
def qand (a b : Int) : Int := (Int32.ofInt a &&& Int32.ofInt b).toInt
def qor (a b : Int) : Int := (Int32.ofInt a ||| Int32.ofInt b).toInt
def qxor (a b : Int) : Int := (Int32.ofInt a ^^^ Int32.ofInt b).toInt
def qshl (a b : Int) : Int := (Int32.ofInt a <<< (Int32.ofInt b &&& 31)).toInt
def qshr (a b : Int) : Int := (Int32.ofInt a >>> (Int32.ofInt b &&& 31)).toInt
def qushr (a b : Int) : Int := (((Int32.ofInt a).toUInt32 >>> ((Int32.ofInt b).toUInt32 &&& Int32.toUInt32 31)).toInt32).toInt
def qland (a b : Int) : Int := (Int64.ofInt a &&& Int64.ofInt b).toInt
def qlor (a b : Int) : Int := (Int64.ofInt a ||| Int64.ofInt b).toInt
def qlxor (a b : Int) : Int := (Int64.ofInt a ^^^ Int64.ofInt b).toInt
def qlshl (a b : Int) : Int := (Int64.ofInt a <<< ((Int32.ofInt b).toInt64 &&& 63)).toInt
def qlshr (a b : Int) : Int := (Int64.ofInt a >>> ((Int32.ofInt b).toInt64 &&& 63)).toInt
def qlushr (a b : Int) : Int := (((Int64.ofInt a).toUInt64 >>> ((Int32.ofInt b).toInt64.toUInt64 &&& Int64.toUInt64 63)).toInt64).toInt
def ql2i (a : Int) : Int := ((Int64.ofInt a).toInt32).toInt
def qi2b (a : Int) : Int := ((Int32.ofInt a).toInt8.toInt32).toInt
def qi2s (a : Int) : Int := ((Int32.ofInt a).toInt16.toInt32).toInt
def qi2c (a : Int) : Int := (((Int32.ofInt a).toUInt32 % 65536).toInt32).toInt
theorem qtdiv_b {a b : Int} (hp : 0 < b) : (0 ≤ a → 0 ≤ a.tdiv b ∧ a.tdiv b ≤ a) ∧ (a ≤ 0 → a ≤ a.tdiv b ∧ a.tdiv b ≤ 0) := by
  refine ⟨fun h => ⟨Int.tdiv_nonneg h (by omega), Int.tdiv_le_self b h⟩, fun h => ?_⟩
  have h1 : 0 ≤ (-a).tdiv b := Int.tdiv_nonneg (by omega) (by omega)
  have h2 : (-a).tdiv b ≤ -a := Int.tdiv_le_self b (by omega)
  rw [Int.neg_tdiv] at h1 h2
  omega
theorem qdiv32 {a b : Int} (ha : in32 a) (hb : in32 b) (hp : 0 < b) : Int32.ofInt a / Int32.ofInt b = Int32.ofInt (a.tdiv b) := by
  have hr : in32 (a.tdiv b) := by
    obtain ⟨h1, h2⟩ := qtdiv_b (a := a) hp
    have := ha.1
    have := ha.2
    by_cases h : 0 ≤ a
    · have := h1 h; exact ⟨by omega, by omega⟩
    · have := h2 (by omega); exact ⟨by omega, by omega⟩
  rw [← Int32.toInt_inj, Int32.toInt_div, q32 ha, q32 hb, q32 hr]
  exact Int.bmod_eq_of_le (by have := hr.1; omega) (by have := hr.2; omega)
theorem qdiv64 {a b : Int} (ha : in64 a) (hb : in64 b) (hp : 0 < b) : Int64.ofInt a / Int64.ofInt b = Int64.ofInt (a.tdiv b) := by
  have hr : in64 (a.tdiv b) := by
    obtain ⟨h1, h2⟩ := qtdiv_b (a := a) hp
    have := ha.1
    have := ha.2
    by_cases h : 0 ≤ a
    · have := h1 h; exact ⟨by omega, by omega⟩
    · have := h2 (by omega); exact ⟨by omega, by omega⟩
  rw [← Int64.toInt_inj, Int64.toInt_div, q64 ha, q64 hb, q64 hr]
  exact Int.bmod_eq_of_le (by have := hr.1; omega) (by have := hr.2; omega)
theorem qcat1 (X : QX) {v : QV} (h : v.1 ≠ 1) : (qcv X v).category = 1 := by
  have e := qcat X v
  rw [show (v.1 == 1) = false by simpa using h] at e
  rcases lv_cat (qcv X v) with h | h
  · exact h
  · rw [h] at e; cases e
theorem ql_cmp {a b : Int} (ha : in64 a) (hb : in64 b) : lg_cmp (Int64.ofInt a) (Int64.ofInt b) = Int32.ofInt (if b < a then 1 else if a = b then 0 else -1) := by
  unfold lg_cmp
  by_cases h1 : b < a
  · rw [if_pos ((ql_lt hb ha).mpr h1), if_pos h1]; rfl
  · rw [if_neg (fun z => h1 ((ql_lt hb ha).mp z)), if_neg h1]
    by_cases h2 : a = b
    · rw [if_pos ((ql_eq ha hb).mpr h2), if_pos h2]; rfl
    · rw [if_neg (fun z => h2 ((ql_eq ha hb).mp z)), if_neg h2]; rfl
section QRows
variable {X : QX} {d : Nat} {mx : Nat × Nat} {m : QMeth} {post : Int → QH → Prop} {cs : Nat × Nat} {pc : Nat} {lv : List (Nat × QV)} {st : List QV} {h : QH}
theorem qs_iadd {a b : Int} (hd : decode (qmc m) pc = .ok (.iadd, 1)) (k : QR X d mx m post cs (pc + 1) lv ((0, a + b) :: st) h) : QR X d mx m post cs pc lv ((0, b) :: (0, a) :: st) h := by
  intro p e R s mi ar be me c H lo ls hR hB hH hL hl
  have k := k p e R s mi ar be me c H lo ls hR hB hH hL hl
  refine lv_iadd (x := Int32.ofInt a) (y := Int32.ofInt b) hB.1 hB.2.1 hd ?_
  rw [← Int32.ofInt_add]; exact k
theorem qs_isub {a b : Int} (hd : decode (qmc m) pc = .ok (.isub, 1)) (k : QR X d mx m post cs (pc + 1) lv ((0, a - b) :: st) h) : QR X d mx m post cs pc lv ((0, b) :: (0, a) :: st) h := by
  intro p e R s mi ar be me c H lo ls hR hB hH hL hl
  have k := k p e R s mi ar be me c H lo ls hR hB hH hL hl
  refine lv_isub (x := Int32.ofInt a) (y := Int32.ofInt b) hB.1 hB.2.1 hd ?_
  rw [← Int32.ofInt_sub]; exact k
theorem qs_imul {a b : Int} (hd : decode (qmc m) pc = .ok (.imul, 1)) (k : QR X d mx m post cs (pc + 1) lv ((0, a * b) :: st) h) : QR X d mx m post cs pc lv ((0, b) :: (0, a) :: st) h := by
  intro p e R s mi ar be me c H lo ls hR hB hH hL hl
  have k := k p e R s mi ar be me c H lo ls hR hB hH hL hl
  refine lv_imul (x := Int32.ofInt a) (y := Int32.ofInt b) hB.1 hB.2.1 hd ?_
  rw [← Int32.ofInt_mul]; exact k
theorem qs_ladd {a b : Int} (hd : decode (qmc m) pc = .ok (.ladd, 1)) (k : QR X d mx m post cs (pc + 1) lv ((1, a + b) :: st) h) : QR X d mx m post cs pc lv ((1, b) :: (1, a) :: st) h := by
  intro p e R s mi ar be me c H lo ls hR hB hH hL hl
  have k := k p e R s mi ar be me c H lo ls hR hB hH hL hl
  refine lv_ladd (x := Int64.ofInt a) (y := Int64.ofInt b) hB.1 hB.2.1 hd ?_
  rw [← Int64.ofInt_add]; exact k
theorem qs_lsub {a b : Int} (hd : decode (qmc m) pc = .ok (.lsub, 1)) (k : QR X d mx m post cs (pc + 1) lv ((1, a - b) :: st) h) : QR X d mx m post cs pc lv ((1, b) :: (1, a) :: st) h := by
  intro p e R s mi ar be me c H lo ls hR hB hH hL hl
  have k := k p e R s mi ar be me c H lo ls hR hB hH hL hl
  refine lv_lsub (x := Int64.ofInt a) (y := Int64.ofInt b) hB.1 hB.2.1 hd ?_
  rw [← Int64.ofInt_sub]; exact k
theorem qs_lmul {a b : Int} (hd : decode (qmc m) pc = .ok (.lmul, 1)) (k : QR X d mx m post cs (pc + 1) lv ((1, a * b) :: st) h) : QR X d mx m post cs pc lv ((1, b) :: (1, a) :: st) h := by
  intro p e R s mi ar be me c H lo ls hR hB hH hL hl
  have k := k p e R s mi ar be me c H lo ls hR hB hH hL hl
  refine lv_lmul (x := Int64.ofInt a) (y := Int64.ofInt b) hB.1 hB.2.1 hd ?_
  rw [← Int64.ofInt_mul]; exact k
theorem qs_iand {a b : Int} (hd : decode (qmc m) pc = .ok (.iand, 1)) (k : QR X d mx m post cs (pc + 1) lv ((0, qand a b) :: st) h) : QR X d mx m post cs pc lv ((0, b) :: (0, a) :: st) h := by
  intro p e R s mi ar be me c H lo ls hR hB hH hL hl
  have k := k p e R s mi ar be me c H lo ls hR hB hH hL hl
  refine lv_iand (x := Int32.ofInt a) (y := Int32.ofInt b) hB.1 hB.2.1 hd ?_
  simp only [List.map_cons, qcv, qand, Int32.ofInt_toInt] at k
  exact k
theorem qs_ior {a b : Int} (hd : decode (qmc m) pc = .ok (.ior, 1)) (k : QR X d mx m post cs (pc + 1) lv ((0, qor a b) :: st) h) : QR X d mx m post cs pc lv ((0, b) :: (0, a) :: st) h := by
  intro p e R s mi ar be me c H lo ls hR hB hH hL hl
  have k := k p e R s mi ar be me c H lo ls hR hB hH hL hl
  refine lv_ior (x := Int32.ofInt a) (y := Int32.ofInt b) hB.1 hB.2.1 hd ?_
  simp only [List.map_cons, qcv, qor, Int32.ofInt_toInt] at k
  exact k
theorem qs_ixor {a b : Int} (hd : decode (qmc m) pc = .ok (.ixor, 1)) (k : QR X d mx m post cs (pc + 1) lv ((0, qxor a b) :: st) h) : QR X d mx m post cs pc lv ((0, b) :: (0, a) :: st) h := by
  intro p e R s mi ar be me c H lo ls hR hB hH hL hl
  have k := k p e R s mi ar be me c H lo ls hR hB hH hL hl
  refine lv_ixor (x := Int32.ofInt a) (y := Int32.ofInt b) hB.1 hB.2.1 hd ?_
  simp only [List.map_cons, qcv, qxor, Int32.ofInt_toInt] at k
  exact k
theorem qs_ishl {a b : Int} (hd : decode (qmc m) pc = .ok (.ishl, 1)) (k : QR X d mx m post cs (pc + 1) lv ((0, qshl a b) :: st) h) : QR X d mx m post cs pc lv ((0, b) :: (0, a) :: st) h := by
  intro p e R s mi ar be me c H lo ls hR hB hH hL hl
  have k := k p e R s mi ar be me c H lo ls hR hB hH hL hl
  refine lv_ishl (x := Int32.ofInt a) (y := Int32.ofInt b) hB.1 hB.2.1 hd ?_
  simp only [List.map_cons, qcv, qshl, Int32.ofInt_toInt] at k
  exact k
theorem qs_ishr {a b : Int} (hd : decode (qmc m) pc = .ok (.ishr, 1)) (k : QR X d mx m post cs (pc + 1) lv ((0, qshr a b) :: st) h) : QR X d mx m post cs pc lv ((0, b) :: (0, a) :: st) h := by
  intro p e R s mi ar be me c H lo ls hR hB hH hL hl
  have k := k p e R s mi ar be me c H lo ls hR hB hH hL hl
  refine lv_ishr (x := Int32.ofInt a) (y := Int32.ofInt b) hB.1 hB.2.1 hd ?_
  simp only [List.map_cons, qcv, qshr, Int32.ofInt_toInt] at k
  exact k
theorem qs_iushr {a b : Int} (hd : decode (qmc m) pc = .ok (.iushr, 1)) (k : QR X d mx m post cs (pc + 1) lv ((0, qushr a b) :: st) h) : QR X d mx m post cs pc lv ((0, b) :: (0, a) :: st) h := by
  intro p e R s mi ar be me c H lo ls hR hB hH hL hl
  have k := k p e R s mi ar be me c H lo ls hR hB hH hL hl
  refine lv_iushr (x := Int32.ofInt a) (y := Int32.ofInt b) hB.1 hB.2.1 hd rfl ?_
  simp only [List.map_cons, qcv, qushr, Int32.ofInt_toInt] at k
  exact k
theorem qs_land {a b : Int} (hd : decode (qmc m) pc = .ok (.land, 1)) (k : QR X d mx m post cs (pc + 1) lv ((1, qland a b) :: st) h) : QR X d mx m post cs pc lv ((1, b) :: (1, a) :: st) h := by
  intro p e R s mi ar be me c H lo ls hR hB hH hL hl
  have k := k p e R s mi ar be me c H lo ls hR hB hH hL hl
  refine lv_land (x := Int64.ofInt a) (y := Int64.ofInt b) hB.1 hB.2.1 hd ?_
  simp only [List.map_cons, qcv, qland, Int64.ofInt_toInt] at k
  exact k
theorem qs_lor {a b : Int} (hd : decode (qmc m) pc = .ok (.lor, 1)) (k : QR X d mx m post cs (pc + 1) lv ((1, qlor a b) :: st) h) : QR X d mx m post cs pc lv ((1, b) :: (1, a) :: st) h := by
  intro p e R s mi ar be me c H lo ls hR hB hH hL hl
  have k := k p e R s mi ar be me c H lo ls hR hB hH hL hl
  refine lv_lor (x := Int64.ofInt a) (y := Int64.ofInt b) hB.1 hB.2.1 hd ?_
  simp only [List.map_cons, qcv, qlor, Int64.ofInt_toInt] at k
  exact k
theorem qs_lxor {a b : Int} (hd : decode (qmc m) pc = .ok (.lxor, 1)) (k : QR X d mx m post cs (pc + 1) lv ((1, qlxor a b) :: st) h) : QR X d mx m post cs pc lv ((1, b) :: (1, a) :: st) h := by
  intro p e R s mi ar be me c H lo ls hR hB hH hL hl
  have k := k p e R s mi ar be me c H lo ls hR hB hH hL hl
  refine lv_lxor (x := Int64.ofInt a) (y := Int64.ofInt b) hB.1 hB.2.1 hd ?_
  simp only [List.map_cons, qcv, qlxor, Int64.ofInt_toInt] at k
  exact k
theorem qs_lshl {a b : Int} (hd : decode (qmc m) pc = .ok (.lshl, 1)) (k : QR X d mx m post cs (pc + 1) lv ((1, qlshl a b) :: st) h) : QR X d mx m post cs pc lv ((0, b) :: (1, a) :: st) h := by
  intro p e R s mi ar be me c H lo ls hR hB hH hL hl
  have k := k p e R s mi ar be me c H lo ls hR hB hH hL hl
  refine lv_lshl (x := Int64.ofInt a) (y := Int32.ofInt b) hB.1 hB.2.1 hd rfl ?_
  simp only [List.map_cons, qcv, qlshl, Int64.ofInt_toInt] at k
  exact k
theorem qs_lshr {a b : Int} (hd : decode (qmc m) pc = .ok (.lshr, 1)) (k : QR X d mx m post cs (pc + 1) lv ((1, qlshr a b) :: st) h) : QR X d mx m post cs pc lv ((0, b) :: (1, a) :: st) h := by
  intro p e R s mi ar be me c H lo ls hR hB hH hL hl
  have k := k p e R s mi ar be me c H lo ls hR hB hH hL hl
  refine lv_lshr (x := Int64.ofInt a) (y := Int32.ofInt b) hB.1 hB.2.1 hd rfl ?_
  simp only [List.map_cons, qcv, qlshr, Int64.ofInt_toInt] at k
  exact k
theorem qs_lushr {a b : Int} (hd : decode (qmc m) pc = .ok (.lushr, 1)) (k : QR X d mx m post cs (pc + 1) lv ((1, qlushr a b) :: st) h) : QR X d mx m post cs pc lv ((0, b) :: (1, a) :: st) h := by
  intro p e R s mi ar be me c H lo ls hR hB hH hL hl
  have k := k p e R s mi ar be me c H lo ls hR hB hH hL hl
  refine lv_lushr (x := Int64.ofInt a) (y := Int32.ofInt b) hB.1 hB.2.1 hd rfl ?_
  simp only [List.map_cons, qcv, qlushr, Int64.ofInt_toInt] at k
  exact k
theorem qs_idiv {a b : Int} (ha : in32 a) (hb : in32 b) (hp : 0 < b) (hd : decode (qmc m) pc = .ok (.idiv, 1)) (k : QR X d mx m post cs (pc + 1) lv ((0, a.tdiv b) :: st) h) : QR X d mx m post cs pc lv ((0, b) :: (0, a) :: st) h := by
  intro p e R s mi ar be me c H lo ls hR hB hH hL hl
  have k := k p e R s mi ar be me c H lo ls hR hB hH hL hl
  refine lv_idiv (x := Int32.ofInt a) (y := Int32.ofInt b) hB.1 hB.2.1 hd (fun z => ?_) ?_
  · have z := congrArg Int32.toInt z
    rw [q32 hb] at z
    simp at z
    omega
  · rw [qdiv32 ha hb hp]; exact k
theorem qs_irem {a b : Int} (ha : in32 a) (hb : in32 b) (hp : 0 < b) (hd : decode (qmc m) pc = .ok (.irem, 1)) (k : QR X d mx m post cs (pc + 1) lv ((0, a.tmod b) :: st) h) : QR X d mx m post cs pc lv ((0, b) :: (0, a) :: st) h := by
  intro p e R s mi ar be me c H lo ls hR hB hH hL hl
  have k := k p e R s mi ar be me c H lo ls hR hB hH hL hl
  refine lv_irem (x := Int32.ofInt a) (y := Int32.ofInt b) hB.1 hB.2.1 hd (fun z => ?_) ?_
  · have z := congrArg Int32.toInt z
    rw [q32 hb] at z
    simp at z
    omega
  · rw [qdiv32 ha hb hp, ← Int32.ofInt_mul, ← Int32.ofInt_sub, show a - a.tdiv b * b = a.tmod b from by rw [Int.tmod_def, Int.mul_comm]]; exact k
theorem qs_ldiv {a b : Int} (ha : in64 a) (hb : in64 b) (hp : 0 < b) (hd : decode (qmc m) pc = .ok (.ldiv, 1)) (k : QR X d mx m post cs (pc + 1) lv ((1, a.tdiv b) :: st) h) : QR X d mx m post cs pc lv ((1, b) :: (1, a) :: st) h := by
  intro p e R s mi ar be me c H lo ls hR hB hH hL hl
  have k := k p e R s mi ar be me c H lo ls hR hB hH hL hl
  refine lv_ldiv (x := Int64.ofInt a) (y := Int64.ofInt b) hB.1 hB.2.1 hd (fun z => ?_) ?_
  · have z := congrArg Int64.toInt z
    rw [q64 hb] at z
    simp at z
    omega
  · rw [qdiv64 ha hb hp]; exact k
theorem qs_lrem {a b : Int} (ha : in64 a) (hb : in64 b) (hp : 0 < b) (hd : decode (qmc m) pc = .ok (.lrem, 1)) (k : QR X d mx m post cs (pc + 1) lv ((1, a.tmod b) :: st) h) : QR X d mx m post cs pc lv ((1, b) :: (1, a) :: st) h := by
  intro p e R s mi ar be me c H lo ls hR hB hH hL hl
  have k := k p e R s mi ar be me c H lo ls hR hB hH hL hl
  refine lv_lrem (x := Int64.ofInt a) (y := Int64.ofInt b) hB.1 hB.2.1 hd (fun z => ?_) ?_
  · have z := congrArg Int64.toInt z
    rw [q64 hb] at z
    simp at z
    omega
  · rw [qdiv64 ha hb hp, ← Int64.ofInt_mul, ← Int64.ofInt_sub, show a - a.tdiv b * b = a.tmod b from by rw [Int.tmod_def, Int.mul_comm]]; exact k
theorem qs_i2l {a : Int} (ha : in32 a) (hd : decode (qmc m) pc = .ok (.i2l, 1)) (k : QR X d mx m post cs (pc + 1) lv ((1, a) :: st) h) : QR X d mx m post cs pc lv ((0, a) :: st) h := by
  intro p e R s mi ar be me c H lo ls hR hB hH hL hl
  have k := k p e R s mi ar be me c H lo ls hR hB hH hL hl
  have e : (Int32.ofInt a).toInt64 = Int64.ofInt a := by
    rw [← Int64.toInt_inj, Int32.toInt_toInt64, q32 ha, q64 ⟨by have := ha.1; omega, by have := ha.2; omega⟩]
  exact lv_i2l (x := Int32.ofInt a) hB.1 hB.2.1 hd e k
theorem qs_l2i {a : Int} (hd : decode (qmc m) pc = .ok (.l2i, 1)) (k : QR X d mx m post cs (pc + 1) lv ((0, ql2i a) :: st) h) : QR X d mx m post cs pc lv ((1, a) :: st) h := by
  intro p e R s mi ar be me c H lo ls hR hB hH hL hl
  have k := k p e R s mi ar be me c H lo ls hR hB hH hL hl
  refine lv_l2i (x := Int64.ofInt a) hB.1 hB.2.1 hd rfl ?_
  simp only [List.map_cons, qcv, ql2i, Int32.ofInt_toInt] at k
  exact k
theorem qs_i2b {a : Int} (hd : decode (qmc m) pc = .ok (.i2b, 1)) (k : QR X d mx m post cs (pc + 1) lv ((0, qi2b a) :: st) h) : QR X d mx m post cs pc lv ((0, a) :: st) h := by
  intro p e R s mi ar be me c H lo ls hR hB hH hL hl
  have k := k p e R s mi ar be me c H lo ls hR hB hH hL hl
  refine lv_i2b (x := Int32.ofInt a) hB.1 hB.2.1 hd rfl ?_
  simp only [List.map_cons, qcv, qi2b, Int32.ofInt_toInt] at k
  exact k
theorem qs_i2s {a : Int} (hd : decode (qmc m) pc = .ok (.i2s, 1)) (k : QR X d mx m post cs (pc + 1) lv ((0, qi2s a) :: st) h) : QR X d mx m post cs pc lv ((0, a) :: st) h := by
  intro p e R s mi ar be me c H lo ls hR hB hH hL hl
  have k := k p e R s mi ar be me c H lo ls hR hB hH hL hl
  refine lv_i2s (x := Int32.ofInt a) hB.1 hB.2.1 hd rfl ?_
  simp only [List.map_cons, qcv, qi2s, Int32.ofInt_toInt] at k
  exact k
theorem qs_i2c {a : Int} (hd : decode (qmc m) pc = .ok (.i2c, 1)) (k : QR X d mx m post cs (pc + 1) lv ((0, qi2c a) :: st) h) : QR X d mx m post cs pc lv ((0, a) :: st) h := by
  intro p e R s mi ar be me c H lo ls hR hB hH hL hl
  have k := k p e R s mi ar be me c H lo ls hR hB hH hL hl
  refine lv_i2c (x := Int32.ofInt a) hB.1 hB.2.1 hd rfl ?_
  simp only [List.map_cons, qcv, qi2c, Int32.ofInt_toInt] at k
  exact k
theorem qs_iconst {n : Int} (hd : decode (qmc m) pc = .ok (.iconst n, 1)) (k : QR X d mx m post cs (pc + 1) lv ((0, n) :: st) h) : QR X d mx m post cs pc lv st h := by
  intro p e R s mi ar be me c H lo ls hR hB hH hL hl
  have k := k p e R s mi ar be me c H lo ls hR hB hH hL hl
  exact lv_iconst hB.1 hB.2.1 hd rfl k
theorem qs_bipush {n : Int} (hn : -128 ≤ n ∧ n ≤ 127) (hd : decode (qmc m) pc = .ok (.bipush n, 2)) (k : QR X d mx m post cs (pc + 2) lv ((0, n) :: st) h) : QR X d mx m post cs pc lv st h := by
  intro p e R s mi ar be me c H lo ls hR hB hH hL hl
  have k := k p e R s mi ar be me c H lo ls hR hB hH hL hl
  have e : (Int8.ofInt n).toInt32 = Int32.ofInt n := by
    rw [← Int32.toInt_inj, Int8.toInt_toInt32, Int8.toInt_ofInt_of_le (by omega) (by omega), q32 ⟨by omega, by omega⟩]
  exact lv_bipush hB.1 hB.2.1 hd e k
theorem qs_sipush {n : Int} (hn : -32768 ≤ n ∧ n ≤ 32767) (hd : decode (qmc m) pc = .ok (.sipush n, 3)) (k : QR X d mx m post cs (pc + 3) lv ((0, n) :: st) h) : QR X d mx m post cs pc lv st h := by
  intro p e R s mi ar be me c H lo ls hR hB hH hL hl
  have k := k p e R s mi ar be me c H lo ls hR hB hH hL hl
  have e : (Int16.ofInt n).toInt32 = Int32.ofInt n := by
    rw [← Int32.toInt_inj, Int16.toInt_toInt32, Int16.toInt_ofInt_of_le (by omega) (by omega), q32 ⟨by omega, by omega⟩]
  exact lv_sipush hB.1 hB.2.1 hd e k
theorem qs_lconst {n : Fin 2} (hd : decode (qmc m) pc = .ok (.lconst n, 1)) (k : QR X d mx m post cs (pc + 1) lv ((1, (n.val : Int)) :: st) h) : QR X d mx m post cs pc lv st h := by
  intro p e R s mi ar be me c H lo ls hR hB hH hL hl
  have k := k p e R s mi ar be me c H lo ls hR hB hH hL hl
  exact lv_lconst hB.1 hB.2.1 hd (by rw [Int64.ofInt_eq_ofNat]) k
theorem qs_ldc {i : Nat} {v : Int32} (hv : Cond.constant (qown (qmo m)) i v ∈ qtbl) (hd : decode (qmc m) pc = .ok (.ldc i, 2)) (k : QR X d mx m post cs (pc + 2) lv ((0, v.toInt) :: st) h) : QR X d mx m post cs pc lv st h := by
  intro p e R s mi ar be me c H lo ls hR hB hH hL hl
  have k := k p e R s mi ar be me c H lo ls hR hB hH hL hl
  simp only [List.map_cons, qcv, Int32.ofInt_toInt] at k
  exact lv_ldc hB.1 hB.2.1 hB.2.2.2.2.2.1 (hB.2.2.2.2.2.2.1 _ hv) hd k
theorem qs_ldcw {i : Nat} {v : Int32} (hv : Cond.constant (qown (qmo m)) i v ∈ qtbl) (hd : decode (qmc m) pc = .ok (.ldc_w i, 3)) (k : QR X d mx m post cs (pc + 3) lv ((0, v.toInt) :: st) h) : QR X d mx m post cs pc lv st h := by
  intro p e R s mi ar be me c H lo ls hR hB hH hL hl
  have k := k p e R s mi ar be me c H lo ls hR hB hH hL hl
  simp only [List.map_cons, qcv, Int32.ofInt_toInt] at k
  exact lv_ldcw hB.1 hB.2.1 hB.2.2.2.2.2.1 (hB.2.2.2.2.2.2.1 _ hv) hd k
theorem qs_ldc2 {i : Nat} {v : Int64} (hv : Cond.constantLong (qown (qmo m)) i v ∈ qtbl) (hd : decode (qmc m) pc = .ok (.ldc2_w i, 3)) (k : QR X d mx m post cs (pc + 3) lv ((1, v.toInt) :: st) h) : QR X d mx m post cs pc lv st h := by
  intro p e R s mi ar be me c H lo ls hR hB hH hL hl
  have k := k p e R s mi ar be me c H lo ls hR hB hH hL hl
  simp only [List.map_cons, qcv, Int64.ofInt_toInt] at k
  exact lv_ldc2 hB.1 hB.2.1 hB.2.2.2.2.2.1 (hB.2.2.2.2.2.2.1 _ hv) hd k
theorem qs_iload {i : Nat} {x : Int} (hv : qlook lv i = some (0, x)) (hd : decode (qmc m) pc = .ok (.iload i, 2)) (k : QR X d mx m post cs (pc + 2) lv ((0, x) :: st) h) : QR X d mx m post cs pc lv st h := by
  intro p e R s mi ar be me c H lo ls hR hB hH hL hl
  have k := k p e R s mi ar be me c H lo ls hR hB hH hL hl
  exact lv_iload hB.1 hB.2.1 hd (qlook_ls hl hv) k
theorem qs_iload_n {i : Fin 4} {x : Int} (hv : qlook lv i.val = some (0, x)) (hd : decode (qmc m) pc = .ok (.iload_n i, 1)) (k : QR X d mx m post cs (pc + 1) lv ((0, x) :: st) h) : QR X d mx m post cs pc lv st h := by
  intro p e R s mi ar be me c H lo ls hR hB hH hL hl
  have k := k p e R s mi ar be me c H lo ls hR hB hH hL hl
  exact lv_iload_n hB.1 hB.2.1 hd rfl (qlook_ls hl hv) k
theorem qs_lload {i : Nat} {x : Int} (hv : qlook lv i = some (1, x)) (hd : decode (qmc m) pc = .ok (.lload i, 2)) (k : QR X d mx m post cs (pc + 2) lv ((1, x) :: st) h) : QR X d mx m post cs pc lv st h := by
  intro p e R s mi ar be me c H lo ls hR hB hH hL hl
  have k := k p e R s mi ar be me c H lo ls hR hB hH hL hl
  exact lv_lload hB.1 hB.2.1 hd (qlook_ls hl hv) k
theorem qs_lload_n {i : Fin 4} {x : Int} (hv : qlook lv i.val = some (1, x)) (hd : decode (qmc m) pc = .ok (.lload_n i, 1)) (k : QR X d mx m post cs (pc + 1) lv ((1, x) :: st) h) : QR X d mx m post cs pc lv st h := by
  intro p e R s mi ar be me c H lo ls hR hB hH hL hl
  have k := k p e R s mi ar be me c H lo ls hR hB hH hL hl
  exact lv_lload_n hB.1 hB.2.1 hd rfl (qlook_ls hl hv) k
theorem qs_aload {i : Nat} {x : Int} (hv : qlook lv i = some (2, x)) (hd : decode (qmc m) pc = .ok (.aload i, 2)) (k : QR X d mx m post cs (pc + 2) lv ((2, x) :: st) h) : QR X d mx m post cs pc lv st h := by
  intro p e R s mi ar be me c H lo ls hR hB hH hL hl
  have k := k p e R s mi ar be me c H lo ls hR hB hH hL hl
  have hg := qlook_ls hl hv
  have ek : qcv X (2, x) = qrv X x := rfl
  simp only [List.map_cons] at k
  rw [ek] at k hg
  unfold qrv at k hg
  split at k
  · rename_i hc; rw [if_pos hc] at hg; exact lv_aload hB.1 hB.2.1 hd hg k
  · rename_i hc; rw [if_neg hc] at hg
    split at k
    · rename_i hc; rw [if_pos hc] at hg; exact lv_aloadN hB.1 hB.2.1 hd hg k
    · rename_i hc; rw [if_neg hc] at hg; exact lv_aload hB.1 hB.2.1 hd hg k
theorem qs_aload_n {i : Fin 4} {x : Int} (hv : qlook lv i.val = some (2, x)) (hd : decode (qmc m) pc = .ok (.aload_n i, 1)) (k : QR X d mx m post cs (pc + 1) lv ((2, x) :: st) h) : QR X d mx m post cs pc lv st h := by
  intro p e R s mi ar be me c H lo ls hR hB hH hL hl
  have k := k p e R s mi ar be me c H lo ls hR hB hH hL hl
  have hg := qlook_ls hl hv
  have ek : qcv X (2, x) = qrv X x := rfl
  simp only [List.map_cons] at k
  rw [ek] at k hg
  unfold qrv at k hg
  split at k
  · rename_i hc; rw [if_pos hc] at hg; exact lv_aload_n hB.1 hB.2.1 hd rfl hg k
  · rename_i hc; rw [if_neg hc] at hg
    split at k
    · rename_i hc; rw [if_pos hc] at hg; exact lv_aload_nN hB.1 hB.2.1 hd rfl hg k
    · rename_i hc; rw [if_neg hc] at hg; exact lv_aload_n hB.1 hB.2.1 hd rfl hg k
theorem qs_istore {i : Nat} {x : Int} (hi : i < qmL m) (hd : decode (qmc m) pc = .ok (.istore i, 2)) (k : QR X d mx m post cs (pc + 2) (qset lv i (0, x)) st h) : QR X d mx m post cs pc lv ((0, x) :: st) h := by
  intro p e R s mi ar be me c H lo ls hR hB hH hL hl
  exact lv_istore hB.1 hB.2.1 hd hl hi (qset_map X lv i (0, x)) (fun ls hl => k p e R s mi ar be me c H lo ls hR hB hH hL hl)
theorem qs_istore_n {i : Fin 4} {x : Int} (hi : i.val < qmL m) (hd : decode (qmc m) pc = .ok (.istore_n i, 1)) (k : QR X d mx m post cs (pc + 1) (qset lv i.val (0, x)) st h) : QR X d mx m post cs pc lv ((0, x) :: st) h := by
  intro p e R s mi ar be me c H lo ls hR hB hH hL hl
  exact lv_istore_n hB.1 hB.2.1 hd rfl hl hi (qset_map X lv i.val (0, x)) (fun ls hl => k p e R s mi ar be me c H lo ls hR hB hH hL hl)
theorem qs_lstore {i : Nat} {x : Int} (hi : i + 1 < qmL m) (hd : decode (qmc m) pc = .ok (.lstore i, 2)) (k : QR X d mx m post cs (pc + 2) (qsetl lv i (1, x)) st h) : QR X d mx m post cs pc lv ((1, x) :: st) h := by
  intro p e R s mi ar be me c H lo ls hR hB hH hL hl
  exact lv_lstore hB.1 hB.2.1 hd hl hi (qsetl_map X lv i (1, x)) (fun ls hl => k p e R s mi ar be me c H lo ls hR hB hH hL hl)
theorem qs_lstore_n {i : Fin 4} {x : Int} (hi : i.val + 1 < qmL m) (hd : decode (qmc m) pc = .ok (.lstore_n i, 1)) (k : QR X d mx m post cs (pc + 1) (qsetl lv i.val (1, x)) st h) : QR X d mx m post cs pc lv ((1, x) :: st) h := by
  intro p e R s mi ar be me c H lo ls hR hB hH hL hl
  exact lv_lstore_n hB.1 hB.2.1 hd rfl hl hi (qsetl_map X lv i.val (1, x)) (fun ls hl => k p e R s mi ar be me c H lo ls hR hB hH hL hl)
theorem qs_astore {i : Nat} {x : Int} (hi : i < qmL m) (hd : decode (qmc m) pc = .ok (.astore i, 2)) (k : QR X d mx m post cs (pc + 2) (qset lv i (2, x)) st h) : QR X d mx m post cs pc lv ((2, x) :: st) h := by
  intro p e R s mi ar be me c H lo ls hR hB hH hL hl
  have hq := qset_map X lv i (2, x)
  have ek : qcv X (2, x) = qrv X x := rfl
  simp only [List.map_cons]
  rw [ek] at hq ⊢
  unfold qrv at hq ⊢
  split
  · rename_i hc; rw [if_pos hc] at hq; exact lv_astore hB.1 hB.2.1 hd hl hi hq (fun ls hl => k p e R s mi ar be me c H lo ls hR hB hH hL hl)
  · rename_i hc; rw [if_neg hc] at hq
    split
    · rename_i hc; rw [if_pos hc] at hq; exact lv_astoreN hB.1 hB.2.1 hd hl hi hq (fun ls hl => k p e R s mi ar be me c H lo ls hR hB hH hL hl)
    · rename_i hc; rw [if_neg hc] at hq; exact lv_astore hB.1 hB.2.1 hd hl hi hq (fun ls hl => k p e R s mi ar be me c H lo ls hR hB hH hL hl)
theorem qs_astore_n {i : Fin 4} {x : Int} (hi : i.val < qmL m) (hd : decode (qmc m) pc = .ok (.astore_n i, 1)) (k : QR X d mx m post cs (pc + 1) (qset lv i.val (2, x)) st h) : QR X d mx m post cs pc lv ((2, x) :: st) h := by
  intro p e R s mi ar be me c H lo ls hR hB hH hL hl
  have hq := qset_map X lv i.val (2, x)
  have ek : qcv X (2, x) = qrv X x := rfl
  simp only [List.map_cons]
  rw [ek] at hq ⊢
  unfold qrv at hq ⊢
  split
  · rename_i hc; rw [if_pos hc] at hq; exact lv_astore_n hB.1 hB.2.1 hd rfl hl hi hq (fun ls hl => k p e R s mi ar be me c H lo ls hR hB hH hL hl)
  · rename_i hc; rw [if_neg hc] at hq
    split
    · rename_i hc; rw [if_pos hc] at hq; exact lv_astore_nN hB.1 hB.2.1 hd rfl hl hi hq (fun ls hl => k p e R s mi ar be me c H lo ls hR hB hH hL hl)
    · rename_i hc; rw [if_neg hc] at hq; exact lv_astore_n hB.1 hB.2.1 hd rfl hl hi hq (fun ls hl => k p e R s mi ar be me c H lo ls hR hB hH hL hl)
theorem qs_iinc {i : Nat} {n x : Int} (hi : i < qmL m) (hv : qlook lv i = some (0, x)) (hd : decode (qmc m) pc = .ok (.iinc i n, 3)) (k : QR X d mx m post cs (pc + 3) (qset lv i (0, x + n)) st h) : QR X d mx m post cs pc lv st h := by
  intro p e R s mi ar be me c H lo ls hR hB hH hL hl
  obtain ⟨k0, hk0⟩ := List.getElem?_of_mem (List.mem_map.mpr ⟨(i, ((0 : Nat), x)), qlook_mem hv, rfl⟩ : ((i, qcv X (0, x)) : Nat × Value) ∈ lv.map fun q => (q.1, qcv X q.2))
  exact lv_iinc hB.1 hB.2.1 hd hl hk0 (Int32.ofInt_add x n).symm hi (qset_map X lv i (0, x + n)) (fun ls hl => k p e R s mi ar be me c H lo ls hR hB hH hL hl)
theorem qs_dup {v : QV} (hv : v.1 ≠ 1) (hd : decode (qmc m) pc = .ok (.dup, 1)) (k : QR X d mx m post cs (pc + 1) lv (v :: v :: st) h) : QR X d mx m post cs pc lv (v :: st) h := by
  intro p e R s mi ar be me c H lo ls hR hB hH hL hl
  have k := k p e R s mi ar be me c H lo ls hR hB hH hL hl
  exact lv_dup hB.1 hB.2.1 hd (qcat1 X hv) k
theorem qs_dup2_11 {v w : QV} (hv : v.1 ≠ 1) (hw : w.1 ≠ 1) (hd : decode (qmc m) pc = .ok (.dup2, 1)) (k : QR X d mx m post cs (pc + 1) lv (v :: w :: v :: w :: st) h) : QR X d mx m post cs pc lv (v :: w :: st) h := by
  intro p e R s mi ar be me c H lo ls hR hB hH hL hl
  have k := k p e R s mi ar be me c H lo ls hR hB hH hL hl
  exact lv_dup2_11 hB.1 hB.2.1 hd (qcat1 X hv) (qcat1 X hw) k
theorem qs_dup2_2 {x : Int} (hd : decode (qmc m) pc = .ok (.dup2, 1)) (k : QR X d mx m post cs (pc + 1) lv ((1, x) :: (1, x) :: st) h) : QR X d mx m post cs pc lv ((1, x) :: st) h := by
  intro p e R s mi ar be me c H lo ls hR hB hH hL hl
  have k := k p e R s mi ar be me c H lo ls hR hB hH hL hl
  exact lv_dup2_2 hB.1 hB.2.1 hd rfl k
theorem qs_pop {v : QV} (hv : v.1 ≠ 1) (hd : decode (qmc m) pc = .ok (.pop, 1)) (k : QR X d mx m post cs (pc + 1) lv st h) : QR X d mx m post cs pc lv (v :: st) h := by
  intro p e R s mi ar be me c H lo ls hR hB hH hL hl
  have k := k p e R s mi ar be me c H lo ls hR hB hH hL hl
  exact lv_pop hB.1 hB.2.1 hd (qcat1 X hv) k
theorem qs_pop2_2 {x : Int} (hd : decode (qmc m) pc = .ok (.pop2, 1)) (k : QR X d mx m post cs (pc + 1) lv st h) : QR X d mx m post cs pc lv ((1, x) :: st) h := by
  intro p e R s mi ar be me c H lo ls hR hB hH hL hl
  have k := k p e R s mi ar be me c H lo ls hR hB hH hL hl
  exact lv_pop2_2 hB.1 hB.2.1 hd rfl k
theorem qs_goto {off : Int} {tgt : Nat} (ht : (pc : Int) + off = (tgt : Int)) (hd : decode (qmc m) pc = .ok (.goto off, 3)) (k : QR X d mx m post cs tgt lv st h) : QR X d mx m post cs pc lv st h := by
  intro p e R s mi ar be me c H lo ls hR hB hH hL hl
  exact lv_goto hB.1 hB.2.1 hd ht (k p e R s mi ar be me c H lo ls hR hB hH hL hl)
theorem qs_icmp_lt {a b off : Int} {tgt : Nat} (ha : in32 a) (hb : in32 b) (ht : (pc : Int) + off = (tgt : Int)) (hd : decode (qmc m) pc = .ok (.if_icmp .lt off, 3)) (kt : a < b → QR X d mx m post cs tgt lv st h) (kf : ¬ a < b → QR X d mx m post cs (pc + 3) lv st h) : QR X d mx m post cs pc lv ((0, b) :: (0, a) :: st) h := by
  intro p e R s mi ar be me c H lo ls hR hB hH hL hl
  exact lv_icmp_lt (x := Int32.ofInt a) (y := Int32.ofInt b) hB.1 hB.2.1 hd ht (fun z => kt ((q_lt ha hb).mp z) p e R s mi ar be me c H lo ls hR hB hH hL hl) (fun z => kf (fun w => z ((q_lt ha hb).mpr w)) p e R s mi ar be me c H lo ls hR hB hH hL hl)
theorem qs_if_lt {a off : Int} {tgt : Nat} (ha : in32 a) (ht : (pc : Int) + off = (tgt : Int)) (hd : decode (qmc m) pc = .ok (.ifCond .lt off, 3)) (kt : a < 0 → QR X d mx m post cs tgt lv st h) (kf : ¬ a < 0 → QR X d mx m post cs (pc + 3) lv st h) : QR X d mx m post cs pc lv ((0, a) :: st) h := by
  intro p e R s mi ar be me c H lo ls hR hB hH hL hl
  exact lv_if_lt (x := Int32.ofInt a) hB.1 hB.2.1 hd ht (fun z => kt ((q_lt ha (show in32 0 from ⟨by decide, by decide⟩)).mp z) p e R s mi ar be me c H lo ls hR hB hH hL hl) (fun z => kf (fun w => z ((q_lt ha (show in32 0 from ⟨by decide, by decide⟩)).mpr w)) p e R s mi ar be me c H lo ls hR hB hH hL hl)
theorem qs_icmp_le {a b off : Int} {tgt : Nat} (ha : in32 a) (hb : in32 b) (ht : (pc : Int) + off = (tgt : Int)) (hd : decode (qmc m) pc = .ok (.if_icmp .le off, 3)) (kt : a ≤ b → QR X d mx m post cs tgt lv st h) (kf : ¬ a ≤ b → QR X d mx m post cs (pc + 3) lv st h) : QR X d mx m post cs pc lv ((0, b) :: (0, a) :: st) h := by
  intro p e R s mi ar be me c H lo ls hR hB hH hL hl
  exact lv_icmp_le (x := Int32.ofInt a) (y := Int32.ofInt b) hB.1 hB.2.1 hd ht (fun z => kt ((q_le ha hb).mp z) p e R s mi ar be me c H lo ls hR hB hH hL hl) (fun z => kf (fun w => z ((q_le ha hb).mpr w)) p e R s mi ar be me c H lo ls hR hB hH hL hl)
theorem qs_if_le {a off : Int} {tgt : Nat} (ha : in32 a) (ht : (pc : Int) + off = (tgt : Int)) (hd : decode (qmc m) pc = .ok (.ifCond .le off, 3)) (kt : a ≤ 0 → QR X d mx m post cs tgt lv st h) (kf : ¬ a ≤ 0 → QR X d mx m post cs (pc + 3) lv st h) : QR X d mx m post cs pc lv ((0, a) :: st) h := by
  intro p e R s mi ar be me c H lo ls hR hB hH hL hl
  exact lv_if_le (x := Int32.ofInt a) hB.1 hB.2.1 hd ht (fun z => kt ((q_le ha (show in32 0 from ⟨by decide, by decide⟩)).mp z) p e R s mi ar be me c H lo ls hR hB hH hL hl) (fun z => kf (fun w => z ((q_le ha (show in32 0 from ⟨by decide, by decide⟩)).mpr w)) p e R s mi ar be me c H lo ls hR hB hH hL hl)
theorem qs_icmp_ge {a b off : Int} {tgt : Nat} (ha : in32 a) (hb : in32 b) (ht : (pc : Int) + off = (tgt : Int)) (hd : decode (qmc m) pc = .ok (.if_icmp .ge off, 3)) (kt : b ≤ a → QR X d mx m post cs tgt lv st h) (kf : ¬ b ≤ a → QR X d mx m post cs (pc + 3) lv st h) : QR X d mx m post cs pc lv ((0, b) :: (0, a) :: st) h := by
  intro p e R s mi ar be me c H lo ls hR hB hH hL hl
  exact lv_icmp_ge (x := Int32.ofInt a) (y := Int32.ofInt b) hB.1 hB.2.1 hd ht (fun z => kt ((q_le hb ha).mp z) p e R s mi ar be me c H lo ls hR hB hH hL hl) (fun z => kf (fun w => z ((q_le hb ha).mpr w)) p e R s mi ar be me c H lo ls hR hB hH hL hl)
theorem qs_if_ge {a off : Int} {tgt : Nat} (ha : in32 a) (ht : (pc : Int) + off = (tgt : Int)) (hd : decode (qmc m) pc = .ok (.ifCond .ge off, 3)) (kt : 0 ≤ a → QR X d mx m post cs tgt lv st h) (kf : ¬ 0 ≤ a → QR X d mx m post cs (pc + 3) lv st h) : QR X d mx m post cs pc lv ((0, a) :: st) h := by
  intro p e R s mi ar be me c H lo ls hR hB hH hL hl
  exact lv_if_ge (x := Int32.ofInt a) hB.1 hB.2.1 hd ht (fun z => kt ((q_le (show in32 0 from ⟨by decide, by decide⟩) ha).mp z) p e R s mi ar be me c H lo ls hR hB hH hL hl) (fun z => kf (fun w => z ((q_le (show in32 0 from ⟨by decide, by decide⟩) ha).mpr w)) p e R s mi ar be me c H lo ls hR hB hH hL hl)
theorem qs_icmp_gt {a b off : Int} {tgt : Nat} (ha : in32 a) (hb : in32 b) (ht : (pc : Int) + off = (tgt : Int)) (hd : decode (qmc m) pc = .ok (.if_icmp .gt off, 3)) (kt : b < a → QR X d mx m post cs tgt lv st h) (kf : ¬ b < a → QR X d mx m post cs (pc + 3) lv st h) : QR X d mx m post cs pc lv ((0, b) :: (0, a) :: st) h := by
  intro p e R s mi ar be me c H lo ls hR hB hH hL hl
  exact lv_icmp_gt (x := Int32.ofInt a) (y := Int32.ofInt b) hB.1 hB.2.1 hd ht (fun z => kt ((q_lt hb ha).mp z) p e R s mi ar be me c H lo ls hR hB hH hL hl) (fun z => kf (fun w => z ((q_lt hb ha).mpr w)) p e R s mi ar be me c H lo ls hR hB hH hL hl)
theorem qs_if_gt {a off : Int} {tgt : Nat} (ha : in32 a) (ht : (pc : Int) + off = (tgt : Int)) (hd : decode (qmc m) pc = .ok (.ifCond .gt off, 3)) (kt : 0 < a → QR X d mx m post cs tgt lv st h) (kf : ¬ 0 < a → QR X d mx m post cs (pc + 3) lv st h) : QR X d mx m post cs pc lv ((0, a) :: st) h := by
  intro p e R s mi ar be me c H lo ls hR hB hH hL hl
  exact lv_if_gt (x := Int32.ofInt a) hB.1 hB.2.1 hd ht (fun z => kt ((q_lt (show in32 0 from ⟨by decide, by decide⟩) ha).mp z) p e R s mi ar be me c H lo ls hR hB hH hL hl) (fun z => kf (fun w => z ((q_lt (show in32 0 from ⟨by decide, by decide⟩) ha).mpr w)) p e R s mi ar be me c H lo ls hR hB hH hL hl)
theorem qs_icmp_eq {a b off : Int} {tgt : Nat} (hb : ¬ a = b → in32 a ∧ in32 b) (ht : (pc : Int) + off = (tgt : Int)) (hd : decode (qmc m) pc = .ok (.if_icmp .eq off, 3)) (ke : a = b → QR X d mx m post cs tgt lv st h) (kn : ¬ a = b → QR X d mx m post cs (pc + 3) lv st h) : QR X d mx m post cs pc lv ((0, b) :: (0, a) :: st) h := by
  intro p e R s mi ar be me c H lo ls hR hB hH hL hl
  exact lv_icmp_eq (x := Int32.ofInt a) (y := Int32.ofInt b) hB.1 hB.2.1 hd ht (fun z => by
    by_cases w : a = b
    · exact ke w p e R s mi ar be me c H lo ls hR hB hH hL hl
    · exact absurd ((q_eq (hb w).1 (hb w).2).mp z) w) (fun z => kn (fun w => z (by rw [w])) p e R s mi ar be me c H lo ls hR hB hH hL hl)
theorem qs_if_eq {a off : Int} {tgt : Nat} (hb : ¬ a = 0 → in32 a ∧ in32 0) (ht : (pc : Int) + off = (tgt : Int)) (hd : decode (qmc m) pc = .ok (.ifCond .eq off, 3)) (ke : a = 0 → QR X d mx m post cs tgt lv st h) (kn : ¬ a = 0 → QR X d mx m post cs (pc + 3) lv st h) : QR X d mx m post cs pc lv ((0, a) :: st) h := by
  intro p e R s mi ar be me c H lo ls hR hB hH hL hl
  exact lv_if_eq (x := Int32.ofInt a) hB.1 hB.2.1 hd ht (fun z => by
    by_cases w : a = 0
    · exact ke w p e R s mi ar be me c H lo ls hR hB hH hL hl
    · exact absurd ((q_eq (hb w).1 (hb w).2).mp z) w) (fun z => kn (fun w => z (by rw [w]; rfl)) p e R s mi ar be me c H lo ls hR hB hH hL hl)
theorem qs_icmp_ne {a b off : Int} {tgt : Nat} (hb : ¬ a = b → in32 a ∧ in32 b) (ht : (pc : Int) + off = (tgt : Int)) (hd : decode (qmc m) pc = .ok (.if_icmp .ne off, 3)) (ke : a = b → QR X d mx m post cs (pc + 3) lv st h) (kn : ¬ a = b → QR X d mx m post cs tgt lv st h) : QR X d mx m post cs pc lv ((0, b) :: (0, a) :: st) h := by
  intro p e R s mi ar be me c H lo ls hR hB hH hL hl
  exact lv_icmp_ne (x := Int32.ofInt a) (y := Int32.ofInt b) hB.1 hB.2.1 hd ht (fun z => kn (fun w => z (by rw [w])) p e R s mi ar be me c H lo ls hR hB hH hL hl) (fun z => by
    by_cases w : a = b
    · exact ke w p e R s mi ar be me c H lo ls hR hB hH hL hl
    · exact absurd ((q_eq (hb w).1 (hb w).2).mp z) w)
theorem qs_if_ne {a off : Int} {tgt : Nat} (hb : ¬ a = 0 → in32 a ∧ in32 0) (ht : (pc : Int) + off = (tgt : Int)) (hd : decode (qmc m) pc = .ok (.ifCond .ne off, 3)) (ke : a = 0 → QR X d mx m post cs (pc + 3) lv st h) (kn : ¬ a = 0 → QR X d mx m post cs tgt lv st h) : QR X d mx m post cs pc lv ((0, a) :: st) h := by
  intro p e R s mi ar be me c H lo ls hR hB hH hL hl
  exact lv_if_ne (x := Int32.ofInt a) hB.1 hB.2.1 hd ht (fun z => kn (fun w => z (by rw [w]; rfl)) p e R s mi ar be me c H lo ls hR hB hH hL hl) (fun z => by
    by_cases w : a = 0
    · exact ke w p e R s mi ar be me c H lo ls hR hB hH hL hl
    · exact absurd ((q_eq (hb w).1 (hb w).2).mp z) w)
theorem qs_lcmp {a b : Int} (ha : in64 a) (hb : in64 b) (hd : decode (qmc m) pc = .ok (.lcmp, 1)) (k : QR X d mx m post cs (pc + 1) lv ((0, if b < a then 1 else if a = b then 0 else -1) :: st) h) : QR X d mx m post cs pc lv ((1, b) :: (1, a) :: st) h := by
  intro p e R s mi ar be me c H lo ls hR hB hH hL hl
  have k := k p e R s mi ar be me c H lo ls hR hB hH hL hl
  refine W.lcmp (x := Int64.ofInt a) (y := Int64.ofInt b) hB.1 hB.2.1 hd ?_
  rw [ql_cmp ha hb]; exact k
theorem qs_lcmp_same {a : Int} (hd : decode (qmc m) pc = .ok (.lcmp, 1)) (k : QR X d mx m post cs (pc + 1) lv ((0, 0) :: st) h) : QR X d mx m post cs pc lv ((1, a) :: (1, a) :: st) h := by
  intro p e R s mi ar be me c H lo ls hR hB hH hL hl
  have k := k p e R s mi ar be me c H lo ls hR hB hH hL hl
  refine W.lcmp (x := Int64.ofInt a) (y := Int64.ofInt a) hB.1 hB.2.1 hd ?_
  rw [show lg_cmp (Int64.ofInt a) (Int64.ofInt a) = Int32.ofInt 0 from by simp [lg_cmp]]; exact k
end QRows
