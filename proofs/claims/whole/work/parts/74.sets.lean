/-- sets of drums: facts held against all of them -/
theorem s_or' : ∀ n : Nat, n < 64 → ∀ m : Nat, m < 64 → 0 ≤ qor (n : Int) (m : Int) ∧ qor (n : Int) (m : Int) < 64 ∧ (n : Int) ≤ qor (n : Int) (m : Int) := by decide +kernel
theorem s_or {v w : Int} (hv : 0 ≤ v ∧ v < 64) (hw : 0 ≤ w ∧ w < 64) : (0 ≤ qor v w ∧ qor v w < 64) ∧ v ≤ qor v w := by
  obtain ⟨n, rfl⟩ := Int.eq_ofNat_of_zero_le hv.1
  obtain ⟨m, rfl⟩ := Int.eq_ofNat_of_zero_le hw.1
  have := s_or' n (by omega) m (by omega)
  exact ⟨⟨this.1, this.2.1⟩, this.2.2⟩
theorem s_bit' : ∀ n : Nat, n < 6 → 0 ≤ qshl 1 (n : Int) ∧ qshl 1 (n : Int) < 64 := by decide +kernel
theorem s_bit {e : Int} (h : 0 ≤ e ∧ e < 6) : 0 ≤ qshl 1 e ∧ qshl 1 e < 64 := by
  obtain ⟨n, rfl⟩ := Int.eq_ofNat_of_zero_le h.1
  exact s_bit' n (by omega)
theorem qor_0 {v : Int} (h : in32 v) : qor v 0 = v := ext32 (qor_in _ _) h (fun k hk => by rw [bi_or _ _ hk, bt_0, Bool.or_false])
theorem s_less' : ∀ n : Nat, n < 64 → ∀ e : Nat, e < 6 → 0 ≤ qand (n : Int) (qxor (qshl 1 (e : Int)) (-1)) ∧ qand (n : Int) (qxor (qshl 1 (e : Int)) (-1)) ≤ n := by decide +kernel
theorem s_less {v e : Int} (hv : 0 ≤ v ∧ v < 64) (he : 0 ≤ e ∧ e < 6) : 0 ≤ qand v (qxor (qshl 1 e) (-1)) ∧ qand v (qxor (qshl 1 e) (-1)) < 64 := by
  obtain ⟨n, rfl⟩ := Int.eq_ofNat_of_zero_le hv.1
  obtain ⟨m, rfl⟩ := Int.eq_ofNat_of_zero_le he.1
  have := s_less' n (by omega) m (by omega)
  omega
/-- how many -/
def crdN (v : Int) : Nat → Int
  | 0 => 0
  | n + 1 => crdN v n + qand (qshr v n) 1
def crd (v : Int) : Int := crdN v 8
theorem crd_b' : ∀ n : Nat, n < 64 → 0 ≤ crd (n : Int) ∧ crd (n : Int) ≤ 6 ∧ (crd (n : Int) = 0 → n = 0) := by decide +kernel
theorem crd_b {v : Int} (hv : 0 ≤ v ∧ v < 64) : (0 ≤ crd v ∧ crd v ≤ 6) ∧ (crd v = 0 → v = 0) := by
  obtain ⟨n, rfl⟩ := Int.eq_ofNat_of_zero_le hv.1
  have := crd_b' n (by omega)
  exact ⟨⟨this.1, this.2.1⟩, fun z => by have := this.2.2 z; omega⟩
theorem crd_less' : ∀ n : Nat, n < 64 → ∀ e : Nat, e < 6 → bt (n : Int) e = true → crd (qand (n : Int) (qxor (qshl 1 (e : Int)) (-1))) = crd (n : Int) - 1 := by decide +kernel
theorem crd_less {v e : Int} (hv : 0 ≤ v ∧ v < 64) (he : 0 ≤ e ∧ e < 6) (h : bt v e.toNat = true) : crd (qand v (qxor (qshl 1 e) (-1))) = crd v - 1 := by
  obtain ⟨n, rfl⟩ := Int.eq_ofNat_of_zero_le hv.1
  obtain ⟨m, rfl⟩ := Int.eq_ofNat_of_zero_le he.1
  exact crd_less' n (by omega) m (by omega) h
theorem crd_more' : ∀ n : Nat, n < 64 → ∀ e : Nat, e < 6 → bt (n : Int) e = false → crd (qor (n : Int) (qshl 1 (e : Int))) = crd (n : Int) + 1 ∧ (n : Int) < qor (n : Int) (qshl 1 (e : Int)) := by decide +kernel
theorem crd_more {v e : Int} (hv : 0 ≤ v ∧ v < 64) (he : 0 ≤ e ∧ e < 6) (h : bt v e.toNat = false) : crd (qor v (qshl 1 e)) = crd v + 1 ∧ v < qor v (qshl 1 e) := by
  obtain ⟨n, rfl⟩ := Int.eq_ofNat_of_zero_le hv.1
  obtain ⟨m, rfl⟩ := Int.eq_ofNat_of_zero_le he.1
  exact crd_more' n (by omega) m (by omega) h
theorem crd_up' : ∀ n : Nat, n < 64 → ∀ m : Nat, m < 64 → qor (n : Int) (m : Int) = n ∨ crd (n : Int) < crd (qor (n : Int) (m : Int)) := by decide +kernel
theorem crd_up {v w : Int} (hv : 0 ≤ v ∧ v < 64) (hw : 0 ≤ w ∧ w < 64) : qor v w = v ∨ crd v < crd (qor v w) := by
  obtain ⟨n, rfl⟩ := Int.eq_ofNat_of_zero_le hv.1
  obtain ⟨m, rfl⟩ := Int.eq_ofNat_of_zero_le hw.1
  exact crd_up' n (by omega) m (by omega)
theorem bt_high' : ∀ n : Nat, n < 64 → ∀ k : Nat, k < 32 → 6 ≤ k → bt (n : Int) k = false := by decide +kernel
theorem bt_high {v : Int} (hv : 0 ≤ v ∧ v < 64) {k : Nat} (hk : k < 32) (h : 6 ≤ k) : bt v k = false := by
  obtain ⟨n, rfl⟩ := Int.eq_ofNat_of_zero_le hv.1
  exact bt_high' n (by omega) k hk h
/-- two sets alike -/
theorem s_ext {v w : Int} (hv : 0 ≤ v ∧ v < 64) (hw : 0 ≤ w ∧ w < 64) (h : ∀ k, k < 6 → bt v k = bt w k) : v = w := by
  refine ext32 (i32 (by omega) (by omega)) (i32 (by omega) (by omega)) (fun k hk => ?_)
  by_cases z : k < 6
  · exact h k z
  · rw [bt_high hv hk (by omega), bt_high hw hk (by omega)]
/-- the drums with a ribbon that lies -/
def pLyN (A : Int → Int) : Nat → Int
  | 0 => 0
  | n + 1 => if A (60 + n) ≤ 0 then pLyN A n else qor (pLyN A n) (qshl 1 n)
def pLy (A : Int → Int) : Int := pLyN A (A 3).toNat
theorem pLyN_b (A : Int → Int) : ∀ n : Nat, n ≤ 6 → (0 ≤ pLyN A n ∧ pLyN A n < 64) ∧ ∀ k, k < 6 → bt (pLyN A n) k = decide (k < n ∧ 0 < A (60 + k)) := by
  intro n
  induction n with
  | zero => exact fun _ => ⟨by rw [pLyN]; exact ⟨by decide, by decide⟩, fun k hk => by rw [pLyN, bt_0, decide_eq_false (fun z => by omega)]⟩
  | succ n ih =>
    intro hn
    have g := ih (by omega)
    rw [pLyN]
    split
    · rename_i z
      refine ⟨g.1, fun k hk => ?_⟩
      rw [g.2 k hk]
      refine decide_eq_decide.2 ⟨fun y => ⟨(by omega), y.2⟩, fun y => ⟨?_, y.2⟩⟩
      rcases Nat.lt_or_ge k n with q | q
      · exact q
      · have : k = n := (by omega)
        rw [this] at y; exact absurd y.2 (by omega)
    · rename_i z
      refine ⟨(s_or g.1 (s_bit (e := n) (by omega))).1, fun k hk => ?_⟩
      rw [put_i _ (j := n) (by omega) (by omega), g.2 k hk, ← Bool.decide_or]
      refine decide_eq_decide.2 ⟨fun y => ?_, fun y => ?_⟩
      · rcases y with y | y
        · exact ⟨(by omega), y.2⟩
        · have : k = n := (by omega)
          rw [this]; exact ⟨(by omega), (by omega)⟩
      · rcases Nat.lt_or_ge k n with q | q
        · exact Or.inl ⟨q, y.2⟩
        · exact Or.inr (by omega)
theorem pLy_b {A : Int → Int} (h : 0 ≤ A 3 ∧ A 3 ≤ 6) : (0 ≤ pLy A ∧ pLy A < 64) ∧ ∀ k : Nat, k < 6 → bt (pLy A) k = decide ((k : Int) < A 3 ∧ 0 < A (60 + k)) := by
  have g := pLyN_b A (A 3).toNat (by omega)
  refine ⟨g.1, fun k hk => ?_⟩
  rw [pLy, g.2 k hk]
  exact decide_eq_decide.2 ⟨fun y => ⟨(by omega), y.2⟩, fun y => ⟨(by omega), y.2⟩⟩
theorem pLyN_crd (A : Int → Int) : ∀ n : Nat, n ≤ 6 → crd (pLyN A n) = rCnt (fun e => 0 < A (60 + e)) n := by
  intro n
  induction n with
  | zero => exact fun _ => by rw [pLyN, rCnt_zero]; decide +kernel
  | succ n ih =>
    intro hn
    have g := pLyN_b A n (by omega)
    rw [pLyN]
    split
    · rename_i z
      rw [rCnt_no (by omega), ih (by omega)]
    · rename_i z
      rw [rCnt_yes (by omega), (crd_more g.1 (e := n) (by omega) (by rw [Int.toNat_natCast, g.2 n (by omega), decide_eq_false (fun y => absurd y.1 (by omega))])).1, ih (by omega)]
section Sets74
variable {X : QX} {x : Int} {d : Nat} {post : Int → QMem → Prop} {M : QMem} {cont : Int → Int → QMem → Prop}
theorem m_isIn {v k : Int} (hk : 0 ≤ k ∧ k < 64) (ht : bt v k.toNat = true → post 1 M) (hf : bt v k.toNat = false → post 0 M) : QCm X x d 1 yX11_isIn [(1, v), (0, k)] M post := by
  refine QC.of qmX11_isIn_ok rfl (TX11_isIn_0 ?_)
  rw [ask_l v hk]
  refine ⟨fun z => ht ?_, fun z => ⟨by split <;> exact ⟨by decide, by decide⟩, hf ?_⟩⟩
  · by_cases y : bt v k.toNat = true
    · exact y
    · rw [if_neg y] at z; exact absurd z (by decide)
  · by_cases y : bt v k.toNat = true
    · rw [if_pos y] at z; exact absurd rfl z
    · exact Bool.not_eq_true _ ▸ y
theorem m_bitsOf {v : Int} (hp : post (crd v) M) : QCm X x d 1 yX11_bitsOf [(0, v)] M post := by
  have key : ∀ i : Int, 0 ≤ i ∧ i ≤ 8 → QRm X x d qmX11_bitsOf post 4 [(0, (0, v)), (1, (0, crdN v i.toNat)), (2, (0, i))] [] M := by
    refine int_up 8 (fun i hi g => ?_) (fun i hi ih g => ?_)
    · refine TX11_bitsOf_4 ⟨(i32 (by omega) (by omega)), fun _ => ?_, fun z => absurd hi (by omega)⟩
      rw [show i = 8 by omega]; exact hp
    · have := ih ⟨(by omega), (by omega)⟩
      rw [show (i + 1).toNat = i.toNat + 1 by omega, crdN, show ((i.toNat : Nat) : Int) = i by omega] at this
      exact TX11_bitsOf_4 ⟨(i32 (by omega) (by omega)), fun z => absurd hi (by omega), fun _ => this⟩
  exact QC.of qmX11_bitsOf_ok rfl (TX11_bitsOf_0 (key 0 ⟨(by omega), (by omega)⟩))
theorem m_lying (hL : 0 ≤ M 216 3 ∧ M 216 3 ≤ 6) (hS : rRib (M 216)) (hp : post (pLy (M 216)) M) : QCm X x d 1 yX11_lying [(2, 215)] M post := by
  have key : ∀ i : Int, 0 ≤ i ∧ i ≤ M 216 3 → QRm X x d qmX11_lying post 4 [(0, (2, 215)), (1, (0, pLyN (M 216) i.toNat)), (2, (0, i))] [] M := by
    refine int_up (M 216 3) (fun i hi g => ?_) (fun i hi ih g => ?_)
    · refine TX11_lying_4 ⟨(i32 (by omega) (by omega)), (i32 (by omega) (by omega)), fun _ => ?_, fun z => absurd hi (by omega)⟩
      rw [show i = M 216 3 by omega]; exact hp
    · have h6 := hS.1 i g.1 (by omega)
      have hb := pLyN_b (M 216) i.toNat (by omega)
      have := ih ⟨(by omega), (by omega)⟩
      have ei : ((i.toNat : Nat) : Int) = i := by omega
      rw [show (i + 1).toNat = i.toNat + 1 by omega, pLyN, ei] at this
      refine TX11_lying_4 ⟨(i32 (by omega) (by omega)), (i32 (by omega) (by omega)), fun z => absurd hi (by omega), fun _ => ⟨(by omega), (by omega), (i32 (by omega) (by omega)), fun z => ?_, fun z => ?_⟩⟩
      · rw [if_pos z] at this
        rw [qor_0 (i32 (by omega) (by omega))]; exact this
      · rw [if_neg z] at this
        exact this
  exact QC.of qmX11_lying_ok rfl (TX11_lying_0 (key 0 ⟨(by omega), (by omega)⟩))
theorem m_crossingsMany (hL : rLandOk (M 216)) (hS : rStOk (M 216)) (hp : post (rCnt (fun k => rLie (M 216) k = 2) (M 216 1 * M 216 2).toNat) M) : QCm X x (d + 1) 1 yX11_crossingsMany [(2, 215)] M post := by
  have hcl := hL.cells
  have a3 := hL.2.2.1
  have key : ∀ i : Int, 0 ≤ i ∧ i ≤ M 216 1 * M 216 2 → QRm X x (d + 1) qmX11_crossingsMany post 4 [(0, (2, 215)), (1, (0, rCnt (fun k => rLie (M 216) k = 2) i.toNat)), (2, (0, i))] [] M := by
    refine int_up (M 216 1 * M 216 2) (fun i hi g => ?_) (fun i hi ih g => ?_)
    · refine TX11_crossingsMany_4 (m_cells ⟨(i32 (by omega) (by omega)), (i32 (by omega) (by omega)), fun _ => ?_, fun z => absurd hi (by omega)⟩)
      rw [show i = M 216 1 * M 216 2 by omega]; exact hp
    · have kc := hS.2.2.1 i g.1 (by omega)
      have := ih ⟨(by omega), (by omega)⟩
      have ei : ((i.toNat : Nat) : Int) = i := by omega
      rw [show (i + 1).toNat = i.toNat + 1 by omega] at this
      refine TX11_crossingsMany_4 (m_cells ⟨(i32 (by omega) (by omega)), (i32 (by omega) (by omega)), fun z => absurd hi (by omega), fun _ => m_lieOn ⟨g.1, (by omega)⟩ (i32 (by omega) (by omega)) (i32 (by omega) (by omega)) ⟨fun z => ?_, fun z => ⟨?_, ?_⟩⟩⟩)
      · rw [rCnt_yes (by rw [ei]; exact z)] at this; exact this
      · rw [rLie]; repeat' split
        all_goals exact ⟨by decide, by decide⟩
      · rw [rCnt_no (by rw [ei]; exact z)] at this
        rw [Int.add_zero]; exact this
  exact QC.of qmX11_crossingsMany_ok rfl (TX11_crossingsMany_0 (key 0 ⟨(by omega), (by omega)⟩))
theorem m_rocksMany (hL : rLandOk (M 216)) (hp : post (rSum (M 216) 10 (M 216 1 * M 216 2).toNat) M) : QCm X x (d + 1) 1 yX11_rocksMany [(2, 215)] M post := by
  have hcl := hL.cells
  have key : ∀ i : Int, 0 ≤ i ∧ i ≤ M 216 1 * M 216 2 → QRm X x (d + 1) qmX11_rocksMany post 4 [(0, (2, 215)), (1, (0, rSum (M 216) 10 i.toNat)), (2, (0, i))] [] M := by
    refine int_up (M 216 1 * M 216 2) (fun i hi g => ?_) (fun i hi ih g => ?_)
    · refine TX11_rocksMany_4 (m_cells ⟨(i32 (by omega) (by omega)), (i32 (by omega) (by omega)), fun _ => ?_, fun z => absurd hi (by omega)⟩)
      rw [show i = M 216 1 * M 216 2 by omega]; exact hp
    · have := ih ⟨(by omega), (by omega)⟩
      have ei : ((i.toNat : Nat) : Int) = i := by omega
      rw [show (i + 1).toNat = i.toNat + 1 by omega, rSum, ei] at this
      exact TX11_rocksMany_4 (m_cells ⟨(i32 (by omega) (by omega)), (i32 (by omega) (by omega)), fun z => absurd hi (by omega), fun _ => ⟨(by omega), (by omega), this⟩⟩)
  exact QC.of qmX11_rocksMany_ok rfl (TX11_rocksMany_0 (key 0 ⟨(by omega), (by omega)⟩))
theorem m_underWay (hG : rGo (M 216)) (hp : post (rCnt (fun t => M 216 (347 + t) = 0) (M 216 330).toNat) M) : QCm X x d 1 yX11_underWay [(2, 215)] M post := by
  have hT := hG.1
  have key : ∀ i : Int, 0 ≤ i ∧ i ≤ M 216 330 → QRm X x d qmX11_underWay post 4 [(0, (2, 215)), (1, (0, rCnt (fun t => M 216 (347 + t) = 0) i.toNat)), (2, (0, i))] [] M := by
    refine int_up (M 216 330) (fun i hi g => ?_) (fun i hi ih g => ?_)
    · refine TX11_underWay_4 ⟨(i32 (by omega) (by omega)), (i32 (by omega) (by omega)), fun _ => ?_, fun z => absurd hi (by omega)⟩
      rw [show i = M 216 330 by omega]; exact hp
    · have gg := hG.2.1 i g.1 hi
      have := ih ⟨(by omega), (by omega)⟩
      have ei : ((i.toNat : Nat) : Int) = i := by omega
      rw [show (i + 1).toNat = i.toNat + 1 by omega] at this
      refine TX11_underWay_4 ⟨(i32 (by omega) (by omega)), (i32 (by omega) (by omega)), fun z => absurd hi (by omega), fun _ => ⟨(by omega), (by omega), ?_⟩⟩
      rcases gg.2.1 with y | y
      · rw [rCnt_yes (by rw [ei]; exact y)] at this
        rw [y]; exact this
      · rw [rCnt_no (by rw [ei]; omega)] at this
        rw [y, Int.sub_self, Int.add_zero]; exact this
  exact QC.of qmX11_underWay_ok rfl (TX11_underWay_0 (key 0 ⟨(by omega), (by omega)⟩))
theorem c_crossed {A : Int → Int} (h : cOk A 27 M) (hp : post (rCnt (fun k => rLie A k = 2) (A 1 * A 2).toNat) M) : QCm X x (d + 2) 1 yX6_crossed [(2, 27), (2, 17)] M post := by
  have hcl := h.1.cells
  have a3 := h.1.2.2.1
  have ec : M 17 0 * M 17 1 = A 1 * A 2 := by rw [h.2.2.1.1.1, h.2.2.1.1.2.1]
  have key : ∀ i : Int, 0 ≤ i ∧ i ≤ A 1 * A 2 → QRm X x (d + 2) qmX6_crossed post 4 [(0, (2, 27)), (1, (2, 17)), (2, (0, rCnt (fun k => rLie A k = 2) i.toNat)), (3, (0, i))] [] M := by
    refine int_up (A 1 * A 2) (fun i hi g => ?_) (fun i hi ih g => ?_)
    · refine TX6_crossed_4 (Or.inl rfl) (c_cells (Or.inl rfl) (by rw [ec]; omega) ?_)
      rw [ec]
      refine ⟨(i32 (by omega) (by omega)), (i32 (by omega) (by omega)), fun _ => ?_, fun z => absurd hi (by omega)⟩
      rw [show i = A 1 * A 2 by omega]; exact hp
    · have := ih ⟨(by omega), (by omega)⟩
      have ei : ((i.toNat : Nat) : Int) = i := by omega
      rw [show (i + 1).toNat = i.toNat + 1 by omega] at this
      refine TX6_crossed_4 (Or.inl rfl) (c_cells (Or.inl rfl) (by rw [ec]; omega) ?_)
      rw [ec]
      refine ⟨(i32 (by omega) (by omega)), (i32 (by omega) (by omega)), fun z => absurd hi (by omega), fun _ => c_lying (Or.inl rfl) h.2.1 a3.2 h.2.2.2 ⟨g.1, (by omega)⟩ ⟨fun z => ?_, fun z => ⟨?_, ?_⟩⟩⟩
      · rw [rCnt_yes (by rw [ei]; exact z)] at this; exact this
      · rw [rLie]; repeat' split
        all_goals exact ⟨by decide, by decide⟩
      · rw [rCnt_no (by rw [ei]; exact z)] at this
        rw [Int.add_zero]; exact this
  exact QC.of qmX6_crossed_ok rfl (TX6_crossed_0 (Or.inl rfl) (key 0 ⟨(by omega), (by omega)⟩))
theorem c_ribbonsLying {A : Int → Int} (h : cOk A 27 M) (hp : post (rCnt (fun e => 0 < A (60 + e)) (A 3).toNat) M) : QCm X x d 1 yX6_ribbonsLying [(2, 27), (2, 17)] M post := by
  have a3 := h.1.2.2.1
  have ed : M 17 2 = A 3 := h.2.2.1.1.2.2.1
  have key : ∀ i : Int, 0 ≤ i ∧ i ≤ A 3 → QRm X x d qmX6_ribbonsLying post 4 [(0, (2, 27)), (1, (2, 17)), (2, (0, rCnt (fun e => 0 < A (60 + e)) i.toNat)), (3, (0, i))] [] M := by
    refine int_up (A 3) (fun i hi g => ?_) (fun i hi ih g => ?_)
    · refine TX6_ribbonsLying_4 (Or.inl rfl) ?_
      rw [ed]
      refine ⟨(i32 (by omega) (by omega)), (i32 (by omega) (by omega)), fun _ => ?_, fun z => absurd hi (by omega)⟩
      rw [show i = A 3 by omega]; exact hp
    · have h6 := h.2.1.2.1.1 i g.1 (by omega)
      have hm : M (27 + 1) i = A (60 + i) := h.2.2.2.1 i g.1 (by omega)
      have := ih ⟨(by omega), (by omega)⟩
      have ei : ((i.toNat : Nat) : Int) = i := by omega
      rw [show (i + 1).toNat = i.toNat + 1 by omega] at this
      refine TX6_ribbonsLying_4 (Or.inl rfl) ?_
      rw [ed, hm]
      refine ⟨(i32 (by omega) (by omega)), (i32 (by omega) (by omega)), fun z => absurd hi (by omega), fun _ => ⟨fun z => absurd z (by omega), fun _ => ⟨(by omega), (by omega), (i32 (by omega) (by omega)), fun z => ?_, fun z => ?_⟩⟩⟩
      · rw [rCnt_no (by rw [ei]; omega)] at this
        rw [Int.add_zero]; exact this
      · rw [rCnt_yes (by rw [ei]; omega)] at this; exact this
  exact QC.of qmX6_ribbonsLying_ok rfl (TX6_ribbonsLying_0 (Or.inl rfl) (key 0 ⟨(by omega), (by omega)⟩))
theorem rel_count (hR : Rel M) {w : Int} (hw : in32 w) (hp : ∀ v M3, Rel M3 → cont v v M3) : QCm X x (d + 8) 1 yX10_count [(2, 0), (0, w)] M (fun x1 M1 => QCm X x (d + 8) 1 yX11_count [(2, 215), (0, w)] M1 (fun x2 M2 => cont x1 x2 M2)) := by
  have R0 := hR.keep (gT M)
  have e0 := (gT M).all
  have a3 := hR.1.1.2.2.1
  have ref : ∀ V : Int, (w = 0 → V = M 216 1) → (w = 1 → V = M 216 2) → (w = 2 → V = M 216 3) → (w = 3 → V = rSum (M 216) 10 (M 216 1 * M 216 2).toNat) → (w = 4 → V = rCnt (fun k => rLie (M 216) k = 2) (M 216 1 * M 216 2).toNat) → (w = 5 → V = rCnt (fun e => 0 < M 216 (60 + e)) (M 216 3).toNat) → (w = 6 → V = M 216 330) → (w = 7 → V = rCnt (fun t => M 216 (347 + t) = 0) (M 216 330).toNat) → (w = 8 → V = M 216 52) → (w = 9 → V = M 216 53) → (w = 10 → V = M 216 363) → (w = 11 → V = M 215 5) → (w = 12 → V = M 216 0) → (w < 0 ∨ 12 < w → V = -1) → QCm X x (d + 8) 1 yX11_count [(2, 215), (0, w)] M (fun x2 M2 => cont V x2 M2) := by
    intro V v0 v1 v2 v3 v4 v5 v6 v7 v8 v9 v10 v11 v12 v13
    refine QC.of qmX11_count_ok rfl (TX11_count_0 ?_)
    refine ⟨hw, fun c => ?_, fun c => ?_, fun c => ?_, fun c => ?_, fun c => ?_, fun c => ?_, fun c => ?_, fun c => ?_, fun c => ?_, fun c => ?_, fun c => ?_, fun c => ?_, fun c => ?_, fun c => ?_⟩
    · rw [e0, v0 c]; exact hp _ _ R0
    · rw [e0, v1 c]; exact hp _ _ R0
    · rw [e0, v2 c]; exact hp _ _ R0
    · refine m_rocksMany R0.1.1 ?_
      rw [e0, v3 c]; exact hp _ _ R0
    · refine m_crossingsMany R0.1.1 R0.1.2.1 ?_
      rw [e0, v4 c]; exact hp _ _ R0
    · refine m_lying R0.1.1.2.2.1 R0.1.2.1.2.1 (m_bitsOf ?_)
      rw [e0, pLy, pLyN_crd _ _ (by omega), v5 c]; exact hp _ _ R0
    · rw [e0, v6 c]; exact hp _ _ R0
    · refine m_underWay R0.1.2.1.2.2.2 ?_
      rw [e0, v7 c]; exact hp _ _ R0
    · rw [e0, v8 c]; exact hp _ _ R0
    · rw [e0, v9 c]; exact hp _ _ R0
    · rw [e0, v10 c]; exact hp _ _ R0
    · rw [(gT M).2.2.1, v11 c]; exact hp _ _ R0
    · rw [e0, v12 c]; exact hp _ _ R0
    · rw [v13 c]; exact hp _ _ R0
  have l := hR.1.2.2.1.1
  have s := hR.1.2.2.2.2.2.2.2.2
  have n1 : M 47 2 = M 216 363 := hR.2.1.2.1
  have n2 : M 0 1 = M 215 5 := hR.2.2.1.2.1.symm
  refine QC.of qmX10_count_ok rfl (TX10_count_0 ⟨hw, fun c => ref _ (fun _ => l.1) ?_ ?_ ?_ ?_ ?_ ?_ ?_ ?_ ?_ ?_ ?_ ?_ ?_, fun c => ref _ ?_ (fun _ => l.2.1) ?_ ?_ ?_ ?_ ?_ ?_ ?_ ?_ ?_ ?_ ?_ ?_, fun c => ref _ ?_ ?_ (fun _ => l.2.2.1) ?_ ?_ ?_ ?_ ?_ ?_ ?_ ?_ ?_ ?_ ?_, fun c => ref _ ?_ ?_ ?_ (fun _ => l.2.2.2.1) ?_ ?_ ?_ ?_ ?_ ?_ ?_ ?_ ?_ ?_, fun c => c_crossed hR.1 (ref _ ?_ ?_ ?_ ?_ (fun _ => rfl) ?_ ?_ ?_ ?_ ?_ ?_ ?_ ?_ ?_), fun c => c_ribbonsLying hR.1 (ref _ ?_ ?_ ?_ ?_ ?_ (fun _ => rfl) ?_ ?_ ?_ ?_ ?_ ?_ ?_ ?_), fun c => ref _ ?_ ?_ ?_ ?_ ?_ ?_ (fun _ => s.1) ?_ ?_ ?_ ?_ ?_ ?_ ?_, fun c => c_onTheWay (Or.inl rfl) hR.1.2.1.2.2.2 hR.1.2.2.2 (ref _ ?_ ?_ ?_ ?_ ?_ ?_ ?_ (fun _ => rfl) ?_ ?_ ?_ ?_ ?_ ?_), fun c => ref _ ?_ ?_ ?_ ?_ ?_ ?_ ?_ ?_ (fun _ => s.2.1) ?_ ?_ ?_ ?_ ?_, fun c => ref _ ?_ ?_ ?_ ?_ ?_ ?_ ?_ ?_ ?_ (fun _ => s.2.2) ?_ ?_ ?_ ?_, fun c => ref _ ?_ ?_ ?_ ?_ ?_ ?_ ?_ ?_ ?_ ?_ (fun _ => n1) ?_ ?_ ?_, fun c => ref _ ?_ ?_ ?_ ?_ ?_ ?_ ?_ ?_ ?_ ?_ ?_ (fun _ => n2) ?_ ?_, fun c => ref _ ?_ ?_ ?_ ?_ ?_ ?_ ?_ ?_ ?_ ?_ ?_ ?_ (fun _ => l.2.2.2.2) ?_, fun c => ref _ ?_ ?_ ?_ ?_ ?_ ?_ ?_ ?_ ?_ ?_ ?_ ?_ ?_ (fun _ => rfl)⟩)
  all_goals (intro q; exfalso; omega)
end Sets74
