theorem bl_ushr_ge (a : Int) {j k : Nat} (hj : j < 64) (hk : k < 64) (h : 64 ≤ j + k) : bt (qlushr a (j : Int)) k = false := by
  rw [qlushr, bt_l _ hk]
  have e := sh_v j hj
  refine (congrArg (fun s => ((Int64.ofInt a).toBitVec >>> s).getLsbD k) e).trans ?_
  show ((Int64.ofInt a).toBitVec >>> j).getLsbD k = _
  rw [BitVec.getLsbD_ushiftRight]
  exact BitVec.getLsbD_of_ge _ _ h
theorem pow2_pos (k : Nat) : (0 : Int) < 2 ^ k := Int.pow_pos (by decide)
theorem bt_div {a : Int} (ha : 0 ≤ a) (j k : Nat) : bt (a / 2 ^ j) k = bt a (j + k) := by
  rw [bt, bt, Int.pow_add, Int.ediv_ediv_of_nonneg (Int.le_of_lt (pow2_pos j))]
theorem qlushr_div {a : Int} (h : 0 ≤ a ∧ a ≤ 9223372036854775807) {j : Nat} (hj : j < 64) : qlushr a (j : Int) = a / 2 ^ j := by
  have p := pow2_pos j
  have d0 : 0 ≤ a / 2 ^ j := Int.ediv_nonneg h.1 (Int.le_of_lt p)
  have d1 : a / 2 ^ j ≤ a := Int.ediv_le_self _ h.1
  refine ext64 (qlushr_in _ _) ⟨by omega, by omega⟩ (fun k hk => ?_)
  rw [bt_div h.1]
  by_cases c : j + k < 64
  · exact bl_ushr a c
  · rw [bl_ushr_ge a hj hk (by omega), bt, decide_eq_false]
    have hp : (9223372036854775808 : Int) ≤ 2 ^ (j + k) := by
      have e : j + k = 63 + (j + k - 63) := by omega
      have e1 : (2 : Int) ^ (j + k) = 2 ^ (63 + (j + k - 63)) := congrArg (fun n => (2 : Int) ^ n) e
      have p2 := pow2_pos (j + k - 63)
      rw [e1, Int.pow_add, show (2 : Int) ^ 63 = 9223372036854775808 from by decide]
      omega
    rw [Int.ediv_eq_zero_of_lt h.1 (by omega)]; decide
theorem bt_3 : ∀ k : Nat, k < 64 → bt 3 k = decide (k < 2) := by decide +kernel
theorem qland_3 {a : Int} (h : 0 ≤ a) : qland a 3 = a % 4 := by
  refine ext64 (qland_in _ _) ⟨by omega, by omega⟩ (fun k hk => ?_)
  rw [bl_and _ _ hk, bt_3 k hk]
  by_cases c : k < 2
  · rw [decide_eq_true c, Bool.and_true, bt, bt]
    have : k = 0 ∨ k = 1 := by omega
    rcases this with rfl | rfl
    · exact decide_eq_decide.2 (by rw [Int.pow_zero]; omega)
    · exact decide_eq_decide.2 (by rw [show (2 : Int) ^ 1 = 2 from rfl]; omega)
  · rw [decide_eq_false c, Bool.and_false, bt]
    have e1 : (2 : Int) ^ k = 2 ^ (2 + (k - 2)) := congrArg (fun n => (2 : Int) ^ n) (by omega)
    have p2 := pow2_pos (k - 2)
    have hp : (4 : Int) ≤ 2 ^ k := by rw [e1, Int.pow_add, show (2 : Int) ^ 2 = 4 from rfl]; omega
    rw [Int.ediv_eq_zero_of_lt (by omega) (by omega)]; exact (decide_eq_false (by decide)).symm
theorem pow24 (n : Nat) : (2 : Int) ^ (2 * n) = 4 ^ n := by
  induction n with
  | zero => rfl
  | succ n ih => rw [show 2 * (n + 1) = 2 * n + 1 + 1 by omega, Int.pow_succ, Int.pow_succ, ih, Int.pow_succ]; omega
theorem wOk_getD {nx : Int → Int → Int} {op : Int → Prop} : ∀ (ts : List Int) (k : Int) (i : Nat), wOk nx op k ts → i < ts.length → 1 ≤ ts.getD i 0 ∧ ts.getD i 0 ≤ 4
  | [], _, _, _, h => absurd h (by simp)
  | t :: _, _, 0, h, _ => h.1
  | t :: ts, k, i + 1, h, hi => wOk_getD ts (nx k t) i h.2.2.2 (by simpa using hi)
theorem rTook_nonneg {A : Int → Int} (h : rRib A) {e : Int} (he : 0 ≤ e ∧ e < 6) : 0 ≤ rTook A e := by
  have l := h.1 e he.1 he.2
  refine rSum_nonneg _ (fun i hi => ?_)
  have := (h.2.2.1 (16 * e + i) (by omega) (by omega)).2.1
  rw [show 162 + 16 * e + (i : Int) = 162 + (16 * e + i) by omega]; exact this
/-- the turn that the class reads out of a number -/
theorem vTurn {A : Int → Int} {e y n : Int} {M : QMem} {k : Int} {ts : List Int} (hn : n ≤ 16) (h : vGood A e y n M k ts) {i : Int} (hi : 0 ≤ i ∧ i < M 153 k) : 1 + ql2i (qland (qlushr (M 155 k) (2 * (M 153 k - 1 - i))) 3) = ts.getD i.toNat 0 := by
  obtain ⟨h1, h2, h3, h4, h5⟩ := h
  have l := h1.1.2.2
  have b := wNum_b ts _ h1.1.1
  have p := pow4_le ts.length (by omega)
  have dg := wNum_digit ts _ i.toNat h1.1.1 (by omega)
  have ej : 2 * (M 153 k - 1 - i) = ((2 * (ts.length - 1 - i.toNat) : Nat) : Int) := by omega
  rw [ej, h5, qlushr_div ⟨b.1, (by omega)⟩ (by omega), pow24, qland_3 (Int.ediv_nonneg b.1 (Int.le_of_lt (Int.pow_pos (by decide)))), dg]
  have o := wOk_getD ts _ i.toNat h1.1.1 (by omega)
  rw [ql2i_id (i32 (by omega) (by omega))]; omega
theorem vLab.congr {A : Int → Int} {e y n : Int} {M M1 : QMem} (h : vLab A e y n M) (k : ∀ a, 152 ≤ a → a ≤ 155 → M1 a = M a) : vLab A e y n M1 := by
  unfold vLab vNone vGood
  rw [k 152 (by omega) (by omega), k 153 (by omega) (by omega), k 154 (by omega) (by omega), k 155 (by omega) (by omega)]; exact h
section QWays86
variable {X : QX} {x : Int} {d : Nat} {post : Int → QMem → Prop} {M : QMem} {cont : Int → Int → QMem → Prop} {A : Int → Int}
/-- what the reference finds is what the class has found -/
theorem n_leastFor (hA : M 216 = A) (hL : rLandOk A) (hS : rStOk A) {e y k : Int} (he : 0 ≤ e ∧ e < A 3) (hy : y = 0 ∨ y = 1) (hk : 0 ≤ k ∧ k < A 1 * A 2) (hr : M 215 24 = -1) (hV : vLab A e y (16 - A (60 + e)) M) (hp : ∀ M1, wK M M1 → post (M 152 k) M1) : QCm X x (d + 5) 1 yX11_leastFor [(2, 215), (0, e), (0, k), (0, y)] M post := by
  have hcl := hL.cells
  refine m_leastFor hA hL hS he hy (i32 (by omega) (by omega)) (by rw [hr]; exact ⟨by decide, by decide⟩) (fun no M1 k1 => ?_) (fun ts b M1 k1 => ?_)
  · rw [hr] at no
    rcases hV k hk.1 hk.2 with q | ⟨us, q⟩
    · have := hp M1 k1; rw [q.1] at this; exact this
    · exact absurd q.1.1 (no us)
  · rw [hr] at b
    rcases hV k hk.1 hk.2 with q | ⟨us, q⟩
    · exact absurd b.1 (q.2.2.2.2 ts)
    · have := hp M1 k1
      rw [q.2.1, ← wBest_eq b q.1] at this; exact this
theorem n_laysWay (hA : M 216 = A) (hL : rLandOk A) (hS : rStOk A) {e k : Int} (he : 0 ≤ e ∧ e < A 3) (hk : 0 ≤ k ∧ k < A 1 * A 2) (hr : M 215 24 = -1) (hV : vLab A e 1 (16 - A (60 + e)) M) (hn : M 152 k = -1 → ∀ M1, wK M M1 → M1 215 26 = M 154 k → post (-1) M1) (hp : M 152 k ≠ -1 → (0 ≤ M 153 k ∧ M 153 k ≤ 16) → ∀ M1, wK M M1 → M1 215 26 = M 154 k → (∀ i, 0 ≤ i → i < M 153 k → M1 226 i = 1 + ql2i (qland (qlushr (M 155 k) (2 * (M 153 k - 1 - i))) 3) ∧ 1 ≤ M1 226 i ∧ M1 226 i ≤ 4) → post (M 153 k) M1) : QCm X x (d + 5) 1 yX11_laysWay [(2, 215), (0, e), (0, k)] M post := by
  have hcl := hL.cells
  have h6 := hS.2.1.1 e he.1 (by have := hL.2.2.1; omega)
  refine m_laysWay hA hL hS he (i32 (by omega) (by omega)) (by rw [hr]; exact ⟨by decide, by decide⟩) (fun no M1 k1 s1 => ?_) (fun ts b M1 k1 s1 t1 => ?_)
  · rw [hr] at no
    rcases hV k hk.1 hk.2 with q | ⟨us, q⟩
    · exact hn q.1 M1 k1 (by rw [s1, q.2.2.1])
    · exact absurd q.1.1 (no us)
  · rw [hr] at b
    rcases hV k hk.1 hk.2 with q | ⟨us, q⟩
    · exact absurd b.1 (q.2.2.2.2 ts)
    · have e1 := wBest_eq b q.1
      subst e1
      have ne : M 152 k ≠ -1 := by
        have := wCost_b (nx := rBeside A) (wPr_b A e 1) ts (rEnd A e)
        rw [q.2.1]; omega
      have l := q.1.1.2.2
      have := hp ne (by rw [q.2.2.1]; omega) M1 k1 (wSet_eq s1 q.2.2.2.1 (fun _ _ => Iff.rfl)) (fun i i0 i1 => by
        have ts1 := t1 i.toNat (by have := q.2.2.1; omega)
        rw [show ((i.toNat : Nat) : Int) = i by omega] at ts1
        have o := wOk_getD ts _ i.toNat q.1.1.1 (by have := q.2.2.1; omega)
        rw [vTurn (by omega) q ⟨i0, i1⟩, ts1]; exact ⟨rfl, o⟩)
      rw [q.2.2.1] at this; exact this
theorem v_turnOf {k i : Int} (hk : 0 ≤ k ∧ k < 36) (hi : in32 i) (hn : 0 ≤ M 153 k ∧ M 153 k ≤ 16) (h1 : 0 ≤ i → i < M 153 k → post (1 + ql2i (qland (qlushr (M 155 k) (2 * (M 153 k - 1 - i))) 3)) M) (h0 : i < 0 ∨ M 153 k ≤ i → post (-1) M) : QCm X x d 1 yX9_turnOf [(2, 151), (0, k), (0, i)] M post :=
  QC.of qmX9_turnOf_ok rfl (TX9_turnOf_0 ⟨hi, fun z => h0 (Or.inl z), fun z => ⟨hk.1, hk.2, (i32 (by omega) (by omega)), fun y => h1 (by omega) y, fun y => h0 (Or.inr (by omega))⟩⟩)
/-- after the class's search the reference stands where it stood -/
theorem vRel (hR : Rel M) {M1 : QMem} (k : vK M M1) : Rel (qup M1 215 0 0) ∧ (qup M1 215 0 0) 216 = M 216 ∧ (qup M1 215 0 0) 215 24 = -1 ∧ ∀ a, a ≠ 215 → (qup M1 215 0 0) a = M1 a := by
  have g := k.gK.trans (gT M1)
  have R := hR.keep g
  exact ⟨R, g.all, R.2.2.2.2.2.2, fun a ha => qup_row ha⟩
theorem rel_fewest (hR : Rel M) {e k : Int} (he : in32 e) (hk : in32 k) (hp : ∀ v M3, Rel M3 → cont v v M3) : QCm X x (d + 8) 1 yX10_fewest [(2, 0), (0, e), (0, k)] M (fun x1 M1 => QCm X x (d + 8) 1 yX11_fewest [(2, 215), (0, e), (0, k)] M1 (fun x2 M2 => cont x1 x2 M2)) := by
  have R0 := hR.keep (gT M)
  have e0 := (gT M).all
  have a3 := hR.1.1.2.2.1
  have hcl := hR.1.1.cells
  have no : ¬ ((0 ≤ e ∧ e < M 216 3) ∧ 0 ≤ k ∧ k < M 216 1 * M 216 2) → QCm X x (d + 8) 1 yX11_fewest [(2, 215), (0, e), (0, k)] M (fun x2 M2 => cont (-2) x2 M2) := fun z =>
    QC.of qmX11_fewest_ok rfl (TX11_fewest_0 ⟨he, n_isDrum R0 he (fun y => ⟨fun q => absurd q (by decide), fun _ => ⟨(i32 (by omega) (by omega)), hk, n_isCell R0 hk (fun y2 => absurd ⟨by rw [e0] at y; exact y, by rw [e0] at y2; exact y2⟩ z) (fun _ => ⟨fun _ => hp _ _ R0, fun q => absurd rfl q⟩)⟩⟩) (fun _ => ⟨fun _ => hp _ _ R0, fun q => absurd rfl q⟩)⟩)
  refine QC.of qmX10_fewest_ok rfl (TX10_fewest_0 (k_hasDrum hR he (fun a => ⟨fun z => absurd z (by decide), fun _ => ⟨(i32 (by omega) (by omega)), k_hasCell hR hk (fun c => ⟨fun z => absurd z (by decide), fun _ => ⟨(i32 (by omega) (by omega)), c_findShort hR.1 a (fun M1 k1 f1 s1 l1 => ⟨(by omega), (by omega), ?_⟩)⟩⟩) (fun c => ⟨fun _ => no (fun z => c z.2), fun z => absurd rfl z⟩)⟩⟩) (fun a => ⟨fun _ => no (fun z => a z.1), fun z => absurd rfl z⟩)))
  obtain ⟨R1, e1, r1, w1⟩ := vRel hR k1
  refine QC.of qmX11_fewest_ok rfl (TX11_fewest_0 ⟨he, n_isDrum R1 he (fun y => ⟨fun q => absurd q (by decide), fun _ => ⟨(i32 (by omega) (by omega)), hk, n_isCell R1 hk (fun y2 => ⟨fun q => absurd q (by decide), fun _ => ⟨(i32 (by omega) (by omega)), ?_⟩⟩) (fun q => absurd (by rw [e1]; exact c) q)⟩⟩) (fun q => absurd (by rw [e1]; exact a) q)⟩)
  refine n_leastFor e1 hR.1.1 hR.1.2.1 a (Or.inr rfl) c r1 (l1.congr (fun b b0 b1 => w1 b (by omega))) (fun M2 k2 => ?_)
  rw [w1 152 (by omega)]
  exact hp _ _ (R1.keep k2.gK)
theorem rel_crossings (hR : Rel M) {e k : Int} (he : in32 e) (hk : in32 k) (hp : ∀ v M3, Rel M3 → cont v v M3) : QCm X x (d + 8) 1 yX10_crossings [(2, 0), (0, e), (0, k)] M (fun x1 M1 => QCm X x (d + 8) 1 yX11_crossings [(2, 215), (0, e), (0, k)] M1 (fun x2 M2 => cont x1 x2 M2)) := by
  have R0 := hR.keep (gT M)
  have e0 := (gT M).all
  have a3 := hR.1.1.2.2.1
  have hcl := hR.1.1.cells
  have no : ¬ ((0 ≤ e ∧ e < M 216 3) ∧ 0 ≤ k ∧ k < M 216 1 * M 216 2) → QCm X x (d + 8) 1 yX11_crossings [(2, 215), (0, e), (0, k)] M (fun x2 M2 => cont (-2) x2 M2) := fun z =>
    QC.of qmX11_crossings_ok rfl (TX11_crossings_0 ⟨he, n_isDrum R0 he (fun y => ⟨fun q => absurd q (by decide), fun _ => ⟨(i32 (by omega) (by omega)), hk, n_isCell R0 hk (fun y2 => absurd ⟨by rw [e0] at y; exact y, by rw [e0] at y2; exact y2⟩ z) (fun _ => ⟨fun _ => hp _ _ R0, fun q => absurd rfl q⟩)⟩⟩) (fun _ => ⟨fun _ => hp _ _ R0, fun q => absurd rfl q⟩)⟩)
  refine QC.of qmX10_crossings_ok rfl (TX10_crossings_0 (k_hasDrum hR he (fun a => ⟨fun z => absurd z (by decide), fun _ => ⟨(i32 (by omega) (by omega)), k_hasCell hR hk (fun c => ⟨fun z => absurd z (by decide), fun _ => ⟨(i32 (by omega) (by omega)), c_findLeastCrossed hR.1 a (fun M1 k1 l1 => ⟨(by omega), (by omega), ?_⟩)⟩⟩) (fun c => ⟨fun _ => no (fun z => c z.2), fun z => absurd rfl z⟩)⟩⟩) (fun a => ⟨fun _ => no (fun z => a z.1), fun z => absurd rfl z⟩)))
  obtain ⟨R1, e1, r1, w1⟩ := vRel hR k1
  refine QC.of qmX11_crossings_ok rfl (TX11_crossings_0 ⟨he, n_isDrum R1 he (fun y => ⟨fun q => absurd q (by decide), fun _ => ⟨(i32 (by omega) (by omega)), hk, n_isCell R1 hk (fun y2 => ⟨fun q => absurd q (by decide), fun _ => ⟨(i32 (by omega) (by omega)), ?_⟩⟩) (fun q => absurd (by rw [e1]; exact c) q)⟩⟩) (fun q => absurd (by rw [e1]; exact a) q)⟩)
  refine n_leastFor e1 hR.1.1 hR.1.2.1 a (Or.inl rfl) c r1 (l1.congr (fun b b0 b1 => w1 b (by omega))) (fun M2 k2 => ?_)
  rw [w1 152 (by omega)]
  exact hp _ _ (R1.keep k2.gK)
theorem rel_way (hR : Rel M) {e k i : Int} (he : in32 e) (hk : in32 k) (hi : in32 i) (hp : ∀ v M3, Rel M3 → cont v v M3) : QCm X x (d + 8) 1 yX10_way [(2, 0), (0, e), (0, k), (0, i)] M (fun x1 M1 => QCm X x (d + 8) 1 yX11_way [(2, 215), (0, e), (0, k), (0, i)] M1 (fun x2 M2 => cont x1 x2 M2)) := by
  have R0 := hR.keep (gT M)
  have e0 := (gT M).all
  have a3 := hR.1.1.2.2.1
  have hcl := hR.1.1.cells
  have no : ¬ ((0 ≤ e ∧ e < M 216 3) ∧ 0 ≤ k ∧ k < M 216 1 * M 216 2) → QCm X x (d + 8) 1 yX11_way [(2, 215), (0, e), (0, k), (0, i)] M (fun x2 M2 => cont (-2) x2 M2) := fun z =>
    QC.of qmX11_way_ok rfl (TX11_way_0 ⟨he, n_isDrum R0 he (fun y => ⟨fun q => absurd q (by decide), fun _ => ⟨(i32 (by omega) (by omega)), hk, n_isCell R0 hk (fun y2 => absurd ⟨by rw [e0] at y; exact y, by rw [e0] at y2; exact y2⟩ z) (fun _ => ⟨fun _ => hp _ _ R0, fun q => absurd rfl q⟩)⟩⟩) (fun _ => ⟨fun _ => hp _ _ R0, fun q => absurd rfl q⟩)⟩)
  refine QC.of qmX10_way_ok rfl (TX10_way_0 (k_hasDrum hR he (fun a => ⟨fun z => absurd z (by decide), fun _ => ⟨(i32 (by omega) (by omega)), k_hasCell hR hk (fun c => ⟨fun z => absurd z (by decide), fun _ => ⟨(i32 (by omega) (by omega)), hi, fun i0 => c_findShort hR.1 a (fun M1 k1 f1 s1 l1 => ?_), fun i0 => ?_⟩⟩) (fun c => ⟨fun _ => no (fun z => c z.2), fun z => absurd rfl z⟩)⟩⟩) (fun a => ⟨fun _ => no (fun z => a z.1), fun z => absurd rfl z⟩)))
  rotate_left
  · exact QC.of qmX11_way_ok rfl (TX11_way_0 ⟨he, n_isDrum R0 he (fun y => ⟨fun q => absurd q (by decide), fun _ => ⟨(i32 (by omega) (by omega)), hk, n_isCell R0 hk (fun y2 => ⟨fun q => absurd q (by decide), fun _ => ⟨(i32 (by omega) (by omega)), hi, fun q => absurd q i0, fun _ => hp _ _ R0⟩⟩) (fun q => absurd (by rw [e0]; exact c) q)⟩⟩) (fun q => absurd (by rw [e0]; exact a) q)⟩)
  have h6 := hR.1.2.1.2.1.1 e a.1 (by omega)
  have nm := (l1.num (by omega) k c.1 c.2).2.1
  obtain ⟨R1, e1, r1, w1⟩ := vRel hR k1
  have l2 := l1.congr (M1 := qup M1 215 0 0) (fun b b0 b1 => w1 b (by omega))
  have ref : ∀ V : Int, (i < M1 153 k → V = 1 + ql2i (qland (qlushr (M1 155 k) (2 * (M1 153 k - 1 - i))) 3)) → (M1 153 k ≤ i → V = -1) → QCm X x (d + 8) 1 yX11_way [(2, 215), (0, e), (0, k), (0, i)] M1 (fun x2 M2 => cont V x2 M2) := by
    intro V v1 v2
    refine QC.of qmX11_way_ok rfl (TX11_way_0 ⟨he, n_isDrum R1 he (fun y => ⟨fun q => absurd q (by decide), fun _ => ⟨(i32 (by omega) (by omega)), hk, n_isCell R1 hk (fun y2 => ⟨fun q => absurd q (by decide), fun _ => ⟨(i32 (by omega) (by omega)), hi, fun _ => ?_, fun q => absurd i0 q⟩⟩) (fun q => absurd (by rw [e1]; exact c) q)⟩⟩) (fun q => absurd (by rw [e1]; exact a) q)⟩)
    refine n_laysWay e1 hR.1.1 hR.1.2.1 a c r1 l2 (fun z M2 k2 _ => ?_) (fun z nb M2 k2 _ t2 => ?_)
    · rw [w1 152 (by omega)] at z
      have z3 : M1 153 k = 0 := by
        rcases l1 k c.1 c.2 with q | ⟨us, q⟩
        · exact q.2.1
        · have := wCost_b (nx := rBeside (M 216)) (wPr_b (M 216) e 1) us (rEnd (M 216) e)
          have := q.2.1
          omega
      refine ⟨(i32 (by omega) (by omega)), fun _ => ?_, fun q => absurd (by omega) q⟩
      rw [v2 (by omega)]; exact hp _ _ (R1.keep k2.gK)
    · rw [w1 153 (by omega)] at nb t2 ⊢
      rw [w1 155 (by omega)] at t2
      refine ⟨(i32 (by omega) (by omega)), fun q => ?_, fun q => ⟨(by omega), (by omega), ?_⟩⟩
      · rw [v2 q]; exact hp _ _ (R1.keep k2.gK)
      · rw [(t2 i i0 (by omega)).1, v1 (by omega)]; exact hp _ _ (R1.keep k2.gK)
  exact v_turnOf ⟨c.1, (by omega)⟩ hi nm (fun _ q => ref _ (fun _ => rfl) (fun q2 => absurd q2 (by omega))) (fun q => ref _ (fun q2 => absurd q (by omega)) (fun _ => rfl))
/-- cells within the yards -/
def rRch (V : Int → Int) (Y : Int) : Nat → Int
  | 0 => 0
  | n + 1 => if V n = -1 ∨ Y < V n then rRch V Y n else qlor (rRch V Y n) (qlshl 1 n)
theorem rRch_in (V : Int → Int) (Y : Int) : ∀ n, in64 (rRch V Y n)
  | 0 => show in64 0 from ⟨by decide, by decide⟩
  | n + 1 => by
    rw [rRch]; split
    · exact rRch_in V Y n
    · exact qlor_in _ _
def rFar (V : Int → Int) (Y : Int) : Nat → Int × Int
  | 0 => (-1, -1)
  | n + 1 => if Y < V n ∨ V n ≤ (rFar V Y n).2 then rFar V Y n else (n, V n)
theorem rFar_in {V : Int → Int} {Y : Int} (hV : ∀ n : Nat, n < 36 → -1 ≤ V n ∧ V n ≤ 10000) : ∀ n : Nat, n ≤ 36 → -1 ≤ (rFar V Y n).2 ∧ (rFar V Y n).2 ≤ 10000
  | 0, _ => show (-1 : Int) ≤ -1 ∧ (-1 : Int) ≤ 10000 from ⟨by decide, by decide⟩
  | n + 1, h => by
    rw [rFar]; split
    · exact rFar_in hV n (by omega)
    · exact hV n (by omega)
theorem rel_reach (hR : Rel M) {e : Int} (he : in32 e) (hp : ∀ v M3, Rel M3 → cont v v M3) : QCm X x (d + 8) 2 yX10_reach [(2, 0), (0, e)] M (fun x1 M1 => QCm X x (d + 8) 2 yX11_reach [(2, 215), (0, e)] M1 (fun x2 M2 => cont x1 x2 M2)) := by
  have R0 := hR.keep (gT M)
  have e0 := (gT M).all
  have a3 := hR.1.1.2.2.1
  have hcl := hR.1.1.cells
  refine QC.of qmX10_reach_ok rfl (TX10_reach_0 (k_hasDrum hR he (fun a => ⟨fun z => absurd z (by decide), fun _ => ⟨(i32 (by omega) (by omega)), c_findShort hR.1 a (fun M1 k1 f1 s1 l1 => ?_)⟩⟩) (fun a => ⟨fun _ => ?_, fun z => absurd rfl z⟩)))
  rotate_left
  · exact QC.of qmX11_reach_ok rfl (TX11_reach_0 ⟨he, n_isDrum R0 he (fun y => absurd (by rw [e0] at y; exact y) a) (fun _ => ⟨fun _ => hp _ _ R0, fun z => absurd rfl z⟩)⟩)
  obtain ⟨R1, e1, r1, w1⟩ := vRel hR k1
  have h6 := hR.1.2.1.2.1.1 e a.1 (by omega)
  have yb := hR.1.2.1.2.1.2.1 e a.1 a.2
  have tk := rTook_nonneg hR.1.2.1.2.1 ⟨a.1, (by omega : e < 6)⟩
  have nm := l1.num (by omega)
  have hY : M1 29 e = M 216 (54 + e) := by rw [k1 29 (by omega) (by omega) (by omega) (by omega) (by omega)]; exact hR.1.2.2.2.2.1 e a.1 a.2
  have ec : M1 17 0 * M1 17 1 = M 216 1 * M 216 2 := by rw [k1 17 (by omega) (by omega) (by omega) (by omega) (by omega)]; exact hR.cells
  have ref : QCm X x (d + 8) 2 yX11_reach [(2, 215), (0, e)] M1 (fun x2 M2 => cont (rRch (M1 152) (M 216 (54 + e)) (M 216 1 * M 216 2).toNat) x2 M2) := by
    have key : ∀ i : Int, ∀ N : QMem, (0 ≤ i ∧ i ≤ M 216 1 * M 216 2) ∧ wK (qup M1 215 0 0) N → QRm X x (d + 8) qmX11_reach (fun x2 M2 => cont (rRch (M1 152) (M 216 (54 + e)) (M 216 1 * M 216 2).toNat) x2 M2) 23 [(0, (2, 215)), (1, (0, e)), (2, (1, rRch (M1 152) (M 216 (54 + e)) i.toNat)), (4, (0, i))] [] N := by
      refine int_up (M 216 1 * M 216 2) (fun i hi N g => ?_) (fun i hi ih N g => ?_)
      · have en : N 216 = M 216 := by rw [g.2.all, e1]
        refine TX11_reach_23 (m_cells ?_)
        rw [en]
        refine ⟨(i32 (by omega) (by omega)), (i32 (by omega) (by omega)), fun _ => ?_, fun z => absurd hi z⟩
        rw [show i = M 216 1 * M 216 2 by omega]; exact hp _ _ (R1.keep g.2.gK)
      · have en : N 216 = M 216 := by rw [g.2.all, e1]
        have er : N 215 24 = -1 := by rw [g.2.2 24 (by omega) (by omega)]; exact r1
        have rn : ∀ b, 152 ≤ b → b ≤ 155 → N b = M1 b := fun b b0 b1 => by rw [g.2.1 b (by omega) (by omega) (by omega) (by omega) (by omega) (by omega) (by omega) (by omega) (by omega)]; exact w1 b (by omega)
        have nb := nm i g.1.1 hi
        have ei : ((i.toNat : Nat) : Int) = i := by omega
        refine TX11_reach_23 (m_cells ?_)
        rw [en]
        refine ⟨(i32 (by omega) (by omega)), (i32 (by omega) (by omega)), fun z => absurd hi (by omega), fun _ => n_leastFor en hR.1.1 hR.1.2.1 a (Or.inr rfl) ⟨g.1.1, hi⟩ er (l1.congr rn) (fun N2 k2 => ?_)⟩
        have e2 : N2 216 = M 216 := by rw [k2.all, en]
        have nx := ih N2 ⟨⟨(by omega), (by omega)⟩, g.2.trans k2⟩
        rw [show (i + 1).toNat = i.toNat + 1 by omega, rRch, ei] at nx
        rw [rn 152 (by omega) (by omega), e2, qlor_0 (rRch_in _ _ _)]
        refine ⟨fun z => ?_, fun z => ⟨(i32 (by omega) (by omega)), (by omega), (by omega), (i32 (by omega) (by omega)), fun y => ?_, fun y => ?_⟩⟩
        · rw [if_pos (Or.inl z)] at nx; exact nx
        · rw [if_pos (Or.inr y)] at nx; exact nx
        · rw [if_neg (fun q => q.elim z y)] at nx; exact nx
    exact QC.of qmX11_reach_ok rfl (TX11_reach_0 ⟨he, n_isDrum R1 he (fun y => ⟨fun q => absurd q (by decide), fun _ => ⟨(i32 (by omega) (by omega)), key 0 _ ⟨⟨(by omega), (by omega)⟩, wK.refl _⟩⟩⟩) (fun q => absurd (by rw [e1]; exact a) q)⟩)
  have key : ∀ i : Int, (0 ≤ i ∧ i ≤ M 216 1 * M 216 2) → QRm X x (d + 8) qmX10_reach (fun x1 M1 => QCm X x (d + 8) 2 yX11_reach [(2, 215), (0, e)] M1 (fun x2 M2 => cont x1 x2 M2)) 36 [(0, (2, 0)), (1, (0, e)), (2, (1, rRch (M1 152) (M 216 (54 + e)) i.toNat)), (4, (0, i))] [] M1 := by
    refine int_up (M 216 1 * M 216 2) (fun i hi g => ?_) (fun i hi ih g => ?_)
    · refine TX10_reach_36 (c_cells (Or.inl rfl) (by rw [ec]; omega) ?_)
      rw [ec]
      refine ⟨(i32 (by omega) (by omega)), (i32 (by omega) (by omega)), fun _ => ?_, fun z => absurd hi z⟩
      rw [show i = M 216 1 * M 216 2 by omega]; exact ref
    · have nb := nm i g.1 hi
      have ei : ((i.toNat : Nat) : Int) = i := by omega
      have nx := ih ⟨(by omega), (by omega)⟩
      rw [show (i + 1).toNat = i.toNat + 1 by omega, rRch, ei] at nx
      refine TX10_reach_36 (c_cells (Or.inl rfl) (by rw [ec]; omega) ?_)
      rw [ec]
      refine ⟨(i32 (by omega) (by omega)), (i32 (by omega) (by omega)), fun z => absurd hi (by omega), fun _ => QC.of qmX9_comesTo_ok rfl (TX9_comesTo_0 ⟨(by omega), (by omega), fun z => ⟨fun _ => ?_, fun q => absurd rfl q⟩, fun z => ⟨(i32 (by omega) (by omega)), fun q => absurd q (by decide), fun _ => ⟨(i32 (by omega) (by omega)), (by omega), (by omega), (by omega), (by omega), (i32 (by omega) (by omega)), ?_⟩⟩⟩)⟩
      · rw [if_pos (Or.inl z)] at nx; exact nx
      · rw [hY]
        refine ⟨(i32 (by omega) (by omega)), fun y => ?_, fun y => ?_⟩
        · rw [if_pos (Or.inr y)] at nx; exact nx
        · rw [if_neg (fun q => q.elim z y)] at nx; exact nx
  exact key 0 ⟨(by omega), (by omega)⟩
theorem rel_farthest (hR : Rel M) {e : Int} (he : in32 e) (hp : ∀ v M3, Rel M3 → cont v v M3) : QCm X x (d + 8) 1 yX10_farthest [(2, 0), (0, e)] M (fun x1 M1 => QCm X x (d + 8) 1 yX11_farthest [(2, 215), (0, e)] M1 (fun x2 M2 => cont x1 x2 M2)) := by
  have R0 := hR.keep (gT M)
  have e0 := (gT M).all
  have a3 := hR.1.1.2.2.1
  have hcl := hR.1.1.cells
  refine QC.of qmX10_farthest_ok rfl (TX10_farthest_0 (k_hasDrum hR he (fun a => ⟨fun z => absurd z (by decide), fun _ => ⟨(i32 (by omega) (by omega)), c_findShort hR.1 a (fun M1 k1 f1 s1 l1 => ?_)⟩⟩) (fun a => ⟨fun _ => ?_, fun z => absurd rfl z⟩)))
  rotate_left
  · exact QC.of qmX11_farthest_ok rfl (TX11_farthest_0 ⟨he, n_isDrum R0 he (fun y => absurd (by rw [e0] at y; exact y) a) (fun _ => ⟨fun _ => hp _ _ R0, fun z => absurd rfl z⟩)⟩)
  obtain ⟨R1, e1, r1, w1⟩ := vRel hR k1
  have h6 := hR.1.2.1.2.1.1 e a.1 (by omega)
  have yb := hR.1.2.1.2.1.2.1 e a.1 a.2
  have tk := rTook_nonneg hR.1.2.1.2.1 ⟨a.1, (by omega : e < 6)⟩
  have nm := l1.num (by omega)
  have hY : M1 29 e = M 216 (54 + e) := by rw [k1 29 (by omega) (by omega) (by omega) (by omega) (by omega)]; exact hR.1.2.2.2.2.1 e a.1 a.2
  have ec : M1 17 0 * M1 17 1 = M 216 1 * M 216 2 := by rw [k1 17 (by omega) (by omega) (by omega) (by omega) (by omega)]; exact hR.cells
  have fi : ∀ i : Int, 0 ≤ i → i ≤ M 216 1 * M 216 2 → in32 (rFar (M1 152) (M 216 (54 + e)) i.toNat).2 := fun i i0 i1 => by
    have hV : ∀ j : Nat, j < i.toNat → -1 ≤ M1 152 j ∧ M1 152 j ≤ 10000 := fun j hj => (nm j (by omega) (by omega)).1
    have : ∀ n : Nat, n ≤ i.toNat → -1 ≤ (rFar (M1 152) (M 216 (54 + e)) n).2 ∧ (rFar (M1 152) (M 216 (54 + e)) n).2 ≤ 10000 := by
      intro n
      induction n with
      | zero => exact fun _ => show (-1 : Int) ≤ -1 ∧ (-1 : Int) ≤ 10000 from ⟨by decide, by decide⟩
      | succ n ihn =>
        intro hn
        rw [rFar]; split
        · exact ihn (by omega)
        · exact hV n (by omega)
    have := this i.toNat (Nat.le_refl _)
    exact (i32 (by omega) (by omega))
  have ref : QCm X x (d + 8) 1 yX11_farthest [(2, 215), (0, e)] M1 (fun x2 M2 => cont (rFar (M1 152) (M 216 (54 + e)) (M 216 1 * M 216 2).toNat).1 x2 M2) := by
    have key : ∀ i : Int, ∀ N : QMem, (0 ≤ i ∧ i ≤ M 216 1 * M 216 2) ∧ wK (qup M1 215 0 0) N → QRm X x (d + 8) qmX11_farthest (fun x2 M2 => cont (rFar (M1 152) (M 216 (54 + e)) (M 216 1 * M 216 2).toNat).1 x2 M2) 24 [(0, (2, 215)), (1, (0, e)), (2, (0, (rFar (M1 152) (M 216 (54 + e)) i.toNat).1)), (3, (0, (rFar (M1 152) (M 216 (54 + e)) i.toNat).2)), (4, (0, i))] [] N := by
      refine int_up (M 216 1 * M 216 2) (fun i hi N g => ?_) (fun i hi ih N g => ?_)
      · have en : N 216 = M 216 := by rw [g.2.all, e1]
        refine TX11_farthest_24 (m_cells ?_)
        rw [en]
        refine ⟨(i32 (by omega) (by omega)), (i32 (by omega) (by omega)), fun _ => ?_, fun z => absurd hi z⟩
        rw [show i = M 216 1 * M 216 2 by omega]; exact hp _ _ (R1.keep g.2.gK)
      · have en : N 216 = M 216 := by rw [g.2.all, e1]
        have er : N 215 24 = -1 := by rw [g.2.2 24 (by omega) (by omega)]; exact r1
        have rn : ∀ b, 152 ≤ b → b ≤ 155 → N b = M1 b := fun b b0 b1 => by rw [g.2.1 b (by omega) (by omega) (by omega) (by omega) (by omega) (by omega) (by omega) (by omega) (by omega)]; exact w1 b (by omega)
        have nb := nm i g.1.1 hi
        have ei : ((i.toNat : Nat) : Int) = i := by omega
        refine TX11_farthest_24 (m_cells ?_)
        rw [en]
        refine ⟨(i32 (by omega) (by omega)), (i32 (by omega) (by omega)), fun z => absurd hi (by omega), fun _ => n_leastFor en hR.1.1 hR.1.2.1 a (Or.inr rfl) ⟨g.1.1, hi⟩ er (l1.congr rn) (fun N2 k2 => ?_)⟩
        have e2 : N2 216 = M 216 := by rw [k2.all, en]
        have nx := ih N2 ⟨⟨(by omega), (by omega)⟩, g.2.trans k2⟩
        rw [show (i + 1).toNat = i.toNat + 1 by omega, rFar, ei] at nx
        rw [rn 152 (by omega) (by omega), e2]
        refine ⟨(i32 (by omega) (by omega)), fi i g.1.1 (by omega), fun z => ?_, fun z => ⟨(by omega), (by omega), (i32 (by omega) (by omega)), fun y => ?_, fun y => ?_⟩⟩
        · rw [if_pos (Or.inr z)] at nx; exact nx
        · rw [if_neg (fun q => q.elim (fun w => absurd y (by omega)) z)] at nx; exact nx
        · rw [if_pos (Or.inl (by omega))] at nx; exact nx
    exact QC.of qmX11_farthest_ok rfl (TX11_farthest_0 ⟨he, n_isDrum R1 he (fun y => ⟨fun q => absurd q (by decide), fun _ => ⟨(i32 (by omega) (by omega)), key 0 _ ⟨⟨(by omega), (by omega)⟩, wK.refl _⟩⟩⟩) (fun q => absurd (by rw [e1]; exact a) q)⟩)
  have key : ∀ i : Int, (0 ≤ i ∧ i ≤ M 216 1 * M 216 2) → QRm X x (d + 8) qmX10_farthest (fun x1 M1 => QCm X x (d + 8) 1 yX11_farthest [(2, 215), (0, e)] M1 (fun x2 M2 => cont x1 x2 M2)) 37 [(0, (2, 0)), (1, (0, e)), (2, (0, (rFar (M1 152) (M 216 (54 + e)) i.toNat).1)), (3, (0, (rFar (M1 152) (M 216 (54 + e)) i.toNat).2)), (4, (0, i))] [] M1 := by
    refine int_up (M 216 1 * M 216 2) (fun i hi g => ?_) (fun i hi ih g => ?_)
    · refine TX10_farthest_37 (c_cells (Or.inl rfl) (by rw [ec]; omega) ?_)
      rw [ec]
      refine ⟨(i32 (by omega) (by omega)), (i32 (by omega) (by omega)), fun _ => ?_, fun z => absurd hi z⟩
      rw [show i = M 216 1 * M 216 2 by omega]; exact ref
    · have nb := nm i g.1 hi
      have ei : ((i.toNat : Nat) : Int) = i := by omega
      have nx := ih ⟨(by omega), (by omega)⟩
      rw [show (i + 1).toNat = i.toNat + 1 by omega, rFar, ei] at nx
      refine TX10_farthest_37 (c_cells (Or.inl rfl) (by rw [ec]; omega) ?_)
      rw [ec, hY]
      refine ⟨(i32 (by omega) (by omega)), (i32 (by omega) (by omega)), fun z => absurd hi (by omega), fun _ => ⟨(by omega), (by omega), (by omega), (by omega), (i32 (by omega) (by omega)), (i32 (by omega) (by omega)), fun y => ?_, fun y => ⟨fi i g.1 (by omega), fun z => ?_, fun z => ?_⟩⟩⟩
      · rw [if_pos (Or.inl y)] at nx; exact nx
      · rw [if_pos (Or.inr z)] at nx; exact nx
      · rw [if_neg (fun q => q.elim y z)] at nx; exact nx
  exact key 0 ⟨(by omega), (by omega)⟩
end QWays86
