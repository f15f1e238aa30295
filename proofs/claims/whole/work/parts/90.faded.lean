/-- why a faded ribbon isn't sought -/
noncomputable def rNF (M : QMem) (t e : Int) : Int := by
  classical
  exact if ¬ ((0 ≤ t ∧ t < 4) ∧ 0 ≤ e ∧ e < M 216 3) then -2 else if M 228 t = -1 then -6 else if ¬ (1 ≤ M 229 t ∧ M 229 t ≤ 6) then -4 else if (∀ i, 0 ≤ i → i < M 229 t → 0 ≤ M 230 (40 * t + i) ∧ M 230 (40 * t + i) < M 216 1 * M 216 2) then 0 else -3
theorem rNF_a {M : QMem} {t e : Int} (h : ¬ ((0 ≤ t ∧ t < 4) ∧ 0 ≤ e ∧ e < M 216 3)) : rNF M t e = -2 := by rw [rNF, if_pos h]
theorem rNF_b {M : QMem} {t e : Int} (h : (0 ≤ t ∧ t < 4) ∧ 0 ≤ e ∧ e < M 216 3) (h2 : M 228 t = -1) : rNF M t e = -6 := by rw [rNF, if_neg (fun z => z h), if_pos h2]
theorem rNF_c {M : QMem} {t e : Int} (h : (0 ≤ t ∧ t < 4) ∧ 0 ≤ e ∧ e < M 216 3) (h2 : M 228 t ≠ -1) (h3 : ¬ (1 ≤ M 229 t ∧ M 229 t ≤ 6)) : rNF M t e = -4 := by rw [rNF, if_neg (fun z => z h), if_neg h2, if_pos h3]
theorem rNF_d {M : QMem} {t e : Int} (h : (0 ≤ t ∧ t < 4) ∧ 0 ≤ e ∧ e < M 216 3) (h2 : M 228 t ≠ -1) (h3 : 1 ≤ M 229 t ∧ M 229 t ≤ 6) (h4 : ¬ ∀ i, 0 ≤ i → i < M 229 t → 0 ≤ M 230 (40 * t + i) ∧ M 230 (40 * t + i) < M 216 1 * M 216 2) : rNF M t e = -3 := by rw [rNF, if_neg (fun z => z h), if_neg h2, if_neg (fun z => z h3), if_neg h4]
theorem rNF_e {M : QMem} {t e : Int} (h : (0 ≤ t ∧ t < 4) ∧ 0 ≤ e ∧ e < M 216 3) (h2 : M 228 t ≠ -1) (h3 : 1 ≤ M 229 t ∧ M 229 t ≤ 6) (h4 : ∀ i, 0 ≤ i → i < M 229 t → 0 ≤ M 230 (40 * t + i) ∧ M 230 (40 * t + i) < M 216 1 * M 216 2) : rNF M t e = 0 := by rw [rNF, if_neg (fun z => z h), if_neg h2, if_neg (fun z => z h3), if_pos h4]
/-- it is sought only so -/
theorem rNF_0 {M : QMem} {t e : Int} (z : rNF M t e = 0) : ((0 ≤ t ∧ t < 4) ∧ 0 ≤ e ∧ e < M 216 3) ∧ M 228 t ≠ -1 ∧ (1 ≤ M 229 t ∧ M 229 t ≤ 6) ∧ ∀ i, 0 ≤ i → i < M 229 t → 0 ≤ M 230 (40 * t + i) ∧ M 230 (40 * t + i) < M 216 1 * M 216 2 := by
  by_cases a : (0 ≤ t ∧ t < 4) ∧ 0 ≤ e ∧ e < M 216 3
  · by_cases b : M 228 t = -1
    · rw [rNF_b a b] at z; exact absurd z (by decide)
    · by_cases c : 1 ≤ M 229 t ∧ M 229 t ≤ 6
      · by_cases f : ∀ i, 0 ≤ i → i < M 229 t → 0 ≤ M 230 (40 * t + i) ∧ M 230 (40 * t + i) < M 216 1 * M 216 2
        · exact ⟨a, b, c, f⟩
        · rw [rNF_d a b c f] at z; exact absurd z (by decide)
      · rw [rNF_c a b c] at z; exact absurd z (by decide)
  · rw [rNF_a a] at z; exact absurd z (by decide)
theorem rNF_b' (M : QMem) (t e : Int) : -6 ≤ rNF M t e ∧ rNF M t e ≤ 0 := by
  rw [rNF]; repeat' split
  all_goals omega
/-- the cells seen, and those to which a way comes by them -/
def rSn (f : Int → Int) : Nat → Int
  | 0 => 0
  | n + 1 => qlor (rSn f n) (qlshl 1 (ql2i (f n)))
def rFt (P : Int → Int) (S : Int) : Nat → Int
  | 0 => 0
  | n + 1 => if qland (P n) S = S then qlor (rFt P S n) (qlshl 1 n) else rFt P S n
theorem rSn_in (f : Int → Int) : ∀ n, in64 (rSn f n)
  | 0 => show in64 0 from ⟨by decide, by decide⟩
  | n + 1 => qlor_in _ _
theorem rSn_ne {f : Int → Int} {n : Nat} (hn : 1 ≤ n) (h : 0 ≤ f 0 ∧ f 0 < 36) : rSn f n ≠ 0 := by
  have : ∀ m : Nat, bt (rSn f (m + 1)) (f 0).toNat = true := by
    intro m
    induction m with
    | zero =>
      show bt (qlor 0 (qlshl 1 (ql2i (f ((0 : Nat) : Int))))) (f 0).toNat = true
      rw [ql2i_id (show in32 (f ((0 : Nat) : Int)) from ⟨by show -2147483648 ≤ f 0; omega, by show f 0 ≤ 2147483647; omega⟩), put_l 0 (j := f ((0 : Nat) : Int)) ⟨h.1, by show f 0 < 64; omega⟩ (by omega), decide_eq_true (by show (((f 0).toNat : Nat) : Int) = f 0; omega), Bool.or_true]
    | succ m ih =>
      rw [rSn, bl_or _ _ (by omega), ih]; rfl
  intro z
  have := this (n - 1)
  rw [show n - 1 + 1 = n by omega, z, bt_0] at this
  exact absurd this (by decide)
theorem rFt_set (P : Int → Int) (S : Int) : ∀ n : Nat, n ≤ 36 → wSet (rFt P S n) (fun k => k < n ∧ qland (P k) S = S)
  | 0, _ => wSet_0.iff (fun k _ => ⟨False.elim, fun z => absurd z.1 (by omega)⟩)
  | n + 1, h => by
    have ih := rFt_set P S n (by omega)
    rw [rFt]
    split
    · rename_i z
      have := wSet_yes ih (n := (n : Int)) ⟨(by omega), (by omega)⟩ z
      exact this.iff (fun k _ => by rw [show ((n + 1 : Nat) : Int) = (n : Int) + 1 by omega])
    · rename_i z
      have := wSet_no ih (n := (n : Int)) z
      exact this.iff (fun k _ => by rw [show ((n + 1 : Nat) : Int) = (n : Int) + 1 by omega])
theorem wSet_small {v : Int} {p : Int → Prop} (h : wSet v p) (hp : ∀ k : Nat, k < 64 → p k → k < 36) : 0 ≤ v ∧ v < 68719476736 := by
  have hb : ∀ k : Nat, k < 64 → 36 ≤ k → bt v k = false := fun k k0 k1 => by
    cases q : bt v k with
    | false => rfl
    | true => have := hp k k0 ((h.2 k k0).1 q); omega
  have h0 : 0 ≤ v := by
    have s := hb 63 (by decide) (by decide)
    rw [bt, show (2 : Int) ^ 63 = 9223372036854775808 from by decide] at s
    have := of_decide_eq_false s
    have i1 := h.1.1
    omega
  obtain ⟨n, rfl⟩ := Int.eq_ofNat_of_zero_le h0
  have i2 := h.1.2
  refine ⟨h0, ?_⟩
  have : n < 2 ^ 36 := Nat.lt_pow_two_of_testBit n (fun i hi => by
    by_cases c : i < 64
    · rw [← bt_nat]; exact hb i c hi
    · refine Nat.testBit_lt_two_pow ?_
      have : (2 : Nat) ^ 64 ≤ 2 ^ i := Nat.pow_le_pow_right (by decide) (by omega)
      have e64 : (2 : Nat) ^ 64 = 18446744073709551616 := by decide
      omega)
  have e36 : (2 : Nat) ^ 36 = 68719476736 := by decide
  omega
theorem rFt_small (P : Int → Int) (S : Int) {n : Nat} (hn : n ≤ 36) : 0 ≤ rFt P S n ∧ rFt P S n < 68719476736 := wSet_small (rFt_set P S n hn) (fun k _ z => by have := z.1; omega)
/-- where to look -/
def rLk (f : Int → Int) (a : Int) : Nat → Int × Int
  | 0 => (-1, -1)
  | n + 1 => if (if a - f n ≤ f n then a - f n else f n) ≤ (rLk f a n).2 then rLk f a n else (n, if a - f n ≤ f n then a - f n else f n)
section Faded90
variable {X : QX} {x : Int} {d : Nat} {post : Int → QMem → Prop} {M : QMem} {cont : Int → Int → QMem → Prop} {A : Int → Int}
theorem c_whyNotFaded (hR : Rel M) {t e : Int} (ht : in32 t) (he : in32 e) (hp : post (rNF M t e) M) : QCm X x (d + 3) 1 yX10_whyNotFaded [(2, 0), (0, t), (0, e)] M post := by
  have hTr := hR.2.2.2.2.1
  have hcl := hR.1.1.cells
  have ec := hR.cells
  refine QC.of qmX10_whyNotFaded_ok rfl (TX10_whyNotFaded_0 (c_isTray ht (fun a => ⟨fun z => absurd z (by decide), fun _ => ⟨(i32 (by omega) (by omega)), k_hasDrum hR he (fun b => ⟨fun z => absurd z (by decide), fun _ => ⟨(i32 (by omega) (by omega)), ?_⟩⟩) (fun b => ⟨fun _ => by rw [← rNF_a (M := M) (fun z => b z.2)]; exact hp, fun z => absurd rfl z⟩)⟩⟩) (fun a => ⟨fun _ => by rw [← rNF_a (M := M) (e := e) (fun z => a z.1)]; exact hp, fun z => absurd rfl z⟩)))
  have q := qS_tray x a
  rw [q.1]
  refine ⟨a.1, a.2, q.2.1, c_isMissing hTr a (fun m => ⟨fun z => absurd z (by decide), fun _ => ⟨(i32 (by omega) (by omega)), by rw [← rNF_b ⟨a, b⟩ m]; exact hp⟩⟩) (fun m => ⟨fun _ => ?_, fun z => absurd rfl z⟩)⟩
  obtain ⟨n4, nS, nW⟩ := hTr.w a m
  rw [nS]
  refine ⟨(i32 (by omega) (by omega)), fun z => by rw [← rNF_c ⟨a, b⟩ m (by omega)]; exact hp, fun z => ⟨fun y => ?_, fun y => by rw [← rNF_c ⟨a, b⟩ m (by omega)]; exact hp⟩⟩
  have tr : ∀ i, 0 ≤ i → i < M 229 t → in64 (M 230 (40 * t + i)) ∧ M (165 + 2 * t + 1) i = M 230 (40 * t + i) := by
    rcases hTr t a.1 a.2 with w | w
    · exact absurd w.1 m
    · exact w.2.2.2.2
  have key : ∀ i : Int, (0 ≤ i ∧ i ≤ M 229 t) ∧ (∀ j, 0 ≤ j → j < i → 0 ≤ M 230 (40 * t + j) ∧ M 230 (40 * t + j) < M 216 1 * M 216 2) → QRm X x (d + 3) qmX10_whyNotFaded post 62 [(0, (2, 0)), (3, (2, 165 + 2 * t)), (4, (0, i))] [] M := by
    refine int_up (M 229 t) (fun i hi g => ?_) (fun i hi ih g => ?_)
    · refine TX10_whyNotFaded_62 ⟨q.2.1, ?_⟩
      rw [nS]
      refine ⟨(i32 (by omega) (by omega)), (i32 (by omega) (by omega)), fun _ => ?_, fun w => absurd hi w⟩
      rw [← rNF_e ⟨a, b⟩ m ⟨(by omega), y⟩ (fun j j0 j1 => g.2 j j0 (by omega))]; exact hp
    · have ti := tr i g.1.1 hi
      refine TX10_whyNotFaded_62 ⟨q.2.1, ?_⟩
      rw [nS]
      refine ⟨(i32 (by omega) (by omega)), (i32 (by omega) (by omega)), fun w => absurd hi (by omega), fun _ => QC.of qmX8_number_ok rfl (TX8_number_0 q.2.2 ?_)⟩
      rw [nS, ti.2]
      have bad : ¬ (0 ≤ M 230 (40 * t + i) ∧ M 230 (40 * t + i) < M 216 1 * M 216 2) → post (-3) M := fun w => by
        rw [← rNF_d ⟨a, b⟩ m ⟨(by omega), y⟩ (fun h => w (h i g.1.1 hi))]; exact hp
      refine ⟨(i32 (by omega) (by omega)), fun w => absurd w (by omega), fun _ => ⟨(i32 (by omega) (by omega)), fun w => absurd w (by omega), fun _ => ⟨fun w => absurd w (by omega), fun _ => ⟨(by omega), (by omega), ti.1, fun w => bad (by omega), fun w => c_cells (Or.inl rfl) (by rw [ec]; omega) ?_⟩⟩⟩⟩
      rw [ec]
      refine ⟨(i32 (by omega) (by omega)), (i64 (by omega) (by omega)), fun u => ih ⟨⟨(by omega), (by omega)⟩, fun j j0 j1 => ?_⟩, fun u => bad (by omega)⟩
      by_cases z2 : j = i
      · rw [z2]; exact ⟨(by omega), u⟩
      · exact g.2 j j0 (by omega)
  exact key 0 ⟨⟨(by omega), (by omega)⟩, fun j j0 j1 => absurd j1 (by omega)⟩
theorem m_noFaded (hR : Rel M) {t e : Int} (ht : in32 t) (he : in32 e) (hp : post (rNF M t e) M) : QCm X x (d + 3) 1 yX11_noFaded [(2, 215), (0, t), (0, e)] M post := by
  have hTr := hR.2.2.2.2.1
  have hcl := hR.1.1.cells
  refine QC.of qmX11_noFaded_ok rfl (TX11_noFaded_0 ⟨ht, m_within ht.to64 (i64 (by omega) (by omega)) (i64 (by omega) (by omega)) (fun a => ⟨fun z => absurd z (by decide), fun _ => ⟨(i32 (by omega) (by omega)), he, n_isDrum hR he (fun b => ⟨fun z => absurd z (by decide), fun _ => ⟨(i32 (by omega) (by omega)), m_noTray ht hTr.b (fun z => absurd ⟨a.1, (by omega : t < 4)⟩ z) (fun a2 m => ⟨fun z => absurd z (by decide), fun _ => ⟨(i32 (by omega) (by omega)), by rw [← rNF_b ⟨a2, b⟩ m]; exact hp⟩⟩) (fun a2 m => ⟨fun _ => ⟨a2.1, a2.2, ?_⟩, fun z => absurd rfl z⟩)⟩⟩) (fun b => ⟨fun _ => by rw [← rNF_a (M := M) (fun z => b z.2)]; exact hp, fun z => absurd rfl z⟩)⟩⟩) (fun a => ⟨fun _ => by rw [← rNF_a (M := M) (e := e) (fun z => a ⟨z.1.1, by omega⟩)]; exact hp, fun z => absurd rfl z⟩)⟩)
  obtain ⟨n4, nS, nW⟩ := hTr.w a2 m
  have tr : ∀ i, 0 ≤ i → i < M 229 t → in64 (M 230 (40 * t + i)) ∧ M (165 + 2 * t + 1) i = M 230 (40 * t + i) := by
    rcases hTr t a2.1 a2.2 with w | w
    · exact absurd w.1 m
    · exact w.2.2.2.2
  refine ⟨(i32 (by omega) (by omega)), m_within (i64 (by omega) (by omega)) (i64 (by omega) (by omega)) (i64 (by omega) (by omega)) (fun y => ⟨fun z => absurd z (by decide), fun _ => ⟨(i32 (by omega) (by omega)), ?_⟩⟩) (fun y => ⟨fun _ => by rw [← rNF_c ⟨a2, b⟩ m y]; exact hp, fun z => absurd rfl z⟩)⟩
  have key : ∀ i : Int, (0 ≤ i ∧ i ≤ M 229 t) ∧ (∀ j, 0 ≤ j → j < i → 0 ≤ M 230 (40 * t + j) ∧ M 230 (40 * t + j) < M 216 1 * M 216 2) → QRm X x (d + 3) qmX11_noFaded post 59 [(0, (2, 215)), (1, (0, t)), (4, (0, i))] [] M := by
    refine int_up (M 229 t) (fun i hi g => ?_) (fun i hi ih g => ?_)
    · refine TX11_noFaded_59 ⟨a2.1, a2.2, (i32 (by omega) (by omega)), (i32 (by omega) (by omega)), fun _ => ?_, fun w => absurd hi w⟩
      rw [← rNF_e ⟨a2, b⟩ m y (fun j j0 j1 => g.2 j j0 (by omega))]; exact hp
    · have ti := tr i g.1.1 hi
      refine TX11_noFaded_59 ⟨a2.1, a2.2, (i32 (by omega) (by omega)), (i32 (by omega) (by omega)), fun w => absurd hi (by omega), fun _ => ⟨(by omega), (by omega), m_isCell ti.1 (by omega) (fun w => ⟨fun z => absurd z (by decide), fun _ => ⟨(i32 (by omega) (by omega)), ih ⟨⟨(by omega), (by omega)⟩, fun j j0 j1 => ?_⟩⟩⟩) (fun w => ⟨fun _ => ?_, fun z => absurd rfl z⟩)⟩⟩
      · by_cases z2 : j = i
        · rw [z2]; exact w
        · exact g.2 j j0 (by omega)
      · rw [← rNF_d ⟨a2, b⟩ m y (fun h => w (h i g.1.1 hi))]; exact hp
  exact key 0 ⟨⟨(by omega), (by omega)⟩, fun j j0 j1 => absurd j1 (by omega)⟩
theorem v_endsBy {A : Int → Int} (hL : rLandOk A) (hf : M 151 9 = A 1 * A 2) {S : Int} (hS : in64 S) (hp : post (rFt (M 154) S (A 1 * A 2).toNat) M) : QCm X x d 2 yX9_endsBy [(2, 151), (1, S)] M post := by
  have hcl := hL.cells
  have key : ∀ i : Int, (0 ≤ i ∧ i ≤ A 1 * A 2) → QRm X x d qmX9_endsBy post 5 [(0, (2, 151)), (1, (1, S)), (3, (1, rFt (M 154) S i.toNat)), (5, (0, i))] [] M := by
    refine int_up (A 1 * A 2) (fun i hi g => ?_) (fun i hi ih g => ?_)
    · refine TX9_endsBy_5 ?_
      rw [hf]
      refine ⟨(i32 (by omega) (by omega)), (i32 (by omega) (by omega)), fun _ => ?_, fun z => absurd hi z⟩
      rw [show i = A 1 * A 2 by omega]; exact hp
    · have nx := ih ⟨(by omega), (by omega)⟩
      rw [show (i + 1).toNat = i.toNat + 1 by omega, rFt, show ((i.toNat : Nat) : Int) = i by omega] at nx
      refine TX9_endsBy_5 ?_
      rw [hf]
      refine ⟨(i32 (by omega) (by omega)), (i32 (by omega) (by omega)), fun z => absurd hi (by omega), fun _ => ⟨(by omega), (by omega), fun z => ?_, fun z => ⟨qland_in _ _, hS, ?_⟩⟩⟩
      · rw [if_pos z] at nx; exact nx
      · rw [if_neg z] at nx; exact nx
  exact QC.of qmX9_endsBy_ok rfl (TX9_endsBy_0 (key 0 ⟨(by omega), (by omega)⟩))
/-- what the class leaves when it has sought a faded ribbon -/
def fOk (M : QMem) (t e : Int) (M1 : QMem) : Prop := vK M M1 ∧ vFld (M 216) e M1 ∧ vLab (M 216) e 1 (16 - M 216 (60 + e)) M1
theorem c_fadedCells (hR : Rel M) {t e : Int} (z : rNF M t e = 0) (hp : ∀ M1, fOk M t e M1 → post (rFt (M1 154) (rSn (fun i => M 230 (40 * t + i)) (M 229 t).toNat) (M 216 1 * M 216 2).toNat) M1) : QCm X x (d + 6) 2 yX10_fadedCells [(2, 0), (0, t), (0, e)] M post := by
  obtain ⟨⟨a, b⟩, m, nb, cs⟩ := rNF_0 z
  have hTr := hR.2.2.2.2.1
  obtain ⟨n4, nS, nW⟩ := hTr.w a m
  have q := qS_tray x a
  have tr : ∀ i, 0 ≤ i → i < M 229 t → in64 (M 230 (40 * t + i)) ∧ M (165 + 2 * t + 1) i = M 230 (40 * t + i) := by
    rcases hTr t a.1 a.2 with w | w
    · exact absurd w.1 m
    · exact w.2.2.2.2
  have key : ∀ i : Int, (0 ≤ i ∧ i ≤ M 229 t) → QRm X x (d + 6) qmX10_fadedCells post 13 [(0, (2, 0)), (2, (0, e)), (3, (2, 165 + 2 * t)), (4, (1, rSn (fun i => M 230 (40 * t + i)) i.toNat)), (6, (0, i))] [] M := by
    refine int_up (M 229 t) (fun i hi g => ?_) (fun i hi ih g => ?_)
    · refine TX10_fadedCells_13 ⟨q.2.1, ?_⟩
      rw [nS]
      refine ⟨(i32 (by omega) (by omega)), (i32 (by omega) (by omega)), fun _ => c_findShort hR.1 b (fun M1 k1 f1 s1 l1 => v_endsBy hR.1.1 f1.1 (rSn_in _ _) ?_), fun w => absurd hi w⟩
      rw [show i = M 229 t by omega]; exact hp M1 ⟨k1, f1, l1⟩
    · have ti := tr i g.1 hi
      have nx := ih ⟨(by omega), (by omega)⟩
      rw [show (i + 1).toNat = i.toNat + 1 by omega, rSn, show ((i.toNat : Nat) : Int) = i by omega] at nx
      refine TX10_fadedCells_13 ⟨q.2.1, ?_⟩
      rw [nS]
      refine ⟨(i32 (by omega) (by omega)), (i32 (by omega) (by omega)), fun w => absurd hi (by omega), fun _ => QC.of qmX8_number_ok rfl (TX8_number_0 q.2.2 ?_)⟩
      rw [nS, ti.2]
      exact ⟨(i32 (by omega) (by omega)), fun w => absurd w (by omega), fun _ => ⟨(i32 (by omega) (by omega)), fun w => absurd w (by omega), fun _ => ⟨fun w => absurd w (by omega), fun _ => ⟨(by omega), (by omega), nx⟩⟩⟩⟩
  refine QC.of qmX10_fadedCells_ok rfl (TX10_fadedCells_0 ⟨a.1, a.2, ?_⟩)
  rw [q.1]
  exact key 0 ⟨(by omega), (by omega)⟩
theorem m_fits (hR : Rel M) {t e : Int} {M1 : QMem} (z : rNF M t e = 0) (hO : fOk M t e M1) (hp : ∀ N, wK (qup M1 215 0 0) (fun a => if a = 227 then M1 227 else N a) → (∀ k, 0 ≤ k → k < M 216 1 * M 216 2 → N 227 k = M1 154 k) → post (rFt (M1 154) (rSn (fun i => M 230 (40 * t + i)) (M 229 t).toNat) (M 216 1 * M 216 2).toNat) N) : QCm X x (d + 6) 2 yX11_fits [(2, 215), (0, t), (0, e)] (qup M1 215 0 0) post := by
  obtain ⟨⟨a, b⟩, m, nb, cs⟩ := rNF_0 z
  obtain ⟨k1, f1, l1⟩ := hO
  obtain ⟨R1, e1, r1, w1⟩ := vRel hR k1
  have hL := hR.1.1
  have hS := hR.1.2.1
  have hcl := hL.cells
  have r229 : (qup M1 215 0 0) 229 = M 229 := by rw [w1 229 (by omega), k1 229 (by omega) (by omega) (by omega) (by omega) (by omega)]
  have r230 : (qup M1 215 0 0) 230 = M 230 := by rw [w1 230 (by omega), k1 230 (by omega) (by omega) (by omega) (by omega) (by omega)]
  have sne : rSn (fun i => M 230 (40 * t + i)) (M 229 t).toNat ≠ 0 := rSn_ne (by omega) (by have := cs 0 (by omega) (by omega); omega)
  have sin := rSn_in (fun i => M 230 (40 * t + i)) (M 229 t).toNat
  have key2 : ∀ i : Int, ∀ N : QMem, (0 ≤ i ∧ i ≤ M 216 1 * M 216 2) ∧ wK (qup M1 215 0 0) (fun a => if a = 227 then M1 227 else N a) ∧ (∀ k, 0 ≤ k → k < i → N 227 k = M1 154 k) → QRm X x (d + 6) qmX11_fits post 46 [(0, (2, 215)), (2, (0, e)), (3, (1, rSn (fun i => M 230 (40 * t + i)) (M 229 t).toNat)), (5, (1, rFt (M1 154) (rSn (fun i => M 230 (40 * t + i)) (M 229 t).toNat) i.toNat)), (7, (0, i))] [] N := by
    refine int_up (M 216 1 * M 216 2) (fun i hi N g => ?_) (fun i hi ih N g => ?_)
    · obtain ⟨g0, g1, g2⟩ := g
      have en : N 216 = M 216 := by
        have := g1.all
        rw [e1] at this; exact this
      refine TX11_fits_46 (m_cells ?_)
      rw [en]
      refine ⟨(i32 (by omega) (by omega)), (i32 (by omega) (by omega)), fun _ => ?_, fun w => absurd hi w⟩
      rw [show i = M 216 1 * M 216 2 by omega]; exact hp N g1 (fun k k0 k1 => g2 k k0 (by omega))
    · obtain ⟨g0, g1, g2⟩ := g
      have nr : ∀ c, c ≠ 215 → c ≠ 220 → c ≠ 221 → c ≠ 23 → c ≠ 26 → c ≠ 223 → c ≠ 224 → c ≠ 225 → c ≠ 226 → c ≠ 227 → N c = M1 c := fun c c0 c1 c2 c3 c4 c5 c6 c7 c8 c9 => by
        have := g1.1 c c0 c1 c2 c3 c4 c5 c6 c7 c8
        have this' : (if c = 227 then M1 227 else N c) = (qup M1 215 0 0) c := this
        rw [if_neg c9, w1 c c0] at this'; exact this'
      have n215 : ∀ j, j ≠ 0 → j ≠ 26 → N 215 j = (qup M1 215 0 0) 215 j := fun j j0 j1 => g1.2 j j0 j1
      have en : N 216 = M 216 := by rw [nr 216 (by omega) (by omega) (by omega) (by omega) (by omega) (by omega) (by omega) (by omega) (by omega) (by omega), ← w1 216 (by omega), e1]
      have er : N 215 24 = -1 := by rw [n215 24 (by omega) (by omega)]; exact r1
      have rn : ∀ c, 152 ≤ c → c ≤ 155 → N c = M1 c := fun c c0 c1 => nr c (by omega) (by omega) (by omega) (by omega) (by omega) (by omega) (by omega) (by omega) (by omega) (by omega)
      have nx : ∀ N2 : QMem, wK N N2 → N2 215 26 = M1 154 i → ∀ U : Int, U = rFt (M1 154) (rSn (fun i => M 230 (40 * t + i)) (M 229 t).toNat) (i.toNat + 1) → QRm X x (d + 6) qmX11_fits post 46 [(0, (2, 215)), (2, (0, e)), (3, (1, rSn (fun i => M 230 (40 * t + i)) (M 229 t).toNat)), (5, (1, U)), (7, (0, i + 1))] [] (qup N2 227 i (N2 215 26)) := fun N2 k2 s2 U hU => by
        have := ih (qup N2 227 i (N2 215 26)) ⟨⟨(by omega), (by omega)⟩, ⟨fun c c0 c1 c2 c3 c4 c5 c6 c7 c8 => ?_, fun j j0 j1 => ?_⟩, fun k k0 k1' => ?_⟩
        · rw [show (i + 1).toNat = i.toNat + 1 by omega, ← hU] at this; exact this
        · show (if c = 227 then M1 227 else (qup N2 227 i (N2 215 26)) c) = (qup M1 215 0 0) c
          by_cases c9 : c = 227
          · rw [if_pos c9, c9, w1 227 (by omega)]
          · rw [if_neg c9, qup_row c9, k2.1 c c0 c1 c2 c3 c4 c5 c6 c7 c8, nr c c0 c1 c2 c3 c4 c5 c6 c7 c8 c9, w1 c c0]
        · show (qup N2 227 i (N2 215 26)) 215 j = _
          rw [qup_row (by decide), k2.2 j j0 j1]; exact n215 j j0 j1
        · rw [qup_at]
          by_cases z2 : k = i
          · rw [if_pos z2, s2, z2]
          · rw [if_neg z2, k2.1 227 (by omega) (by omega) (by omega) (by omega) (by omega) (by omega) (by omega) (by omega) (by omega)]; exact g2 k k0 (by omega)
      refine TX11_fits_46 (m_cells ?_)
      rw [en]
      refine ⟨(i32 (by omega) (by omega)), (i32 (by omega) (by omega)), fun w => absurd hi (by omega), fun _ => n_laysWay en hL hS b ⟨g0.1, hi⟩ er (l1.congr rn) (fun y N2 k2 s2 => ⟨fun _ => ⟨(by omega), (by omega), nx N2 k2 (by rw [s2, rn 154 (by omega) (by omega)]) _ ?_⟩, fun w => absurd rfl w⟩) (fun y nb2 N2 k2 s2 _ => ⟨fun w => absurd w (by omega), fun _ => ⟨(i32 (by omega) (by omega)), (by omega), (by omega), ?_⟩⟩)⟩
      · rw [qlor_0 (rFt_set _ _ i.toNat (by omega)).1, rFt, show ((i.toNat : Nat) : Int) = i by omega, if_neg]
        have z0 : M1 154 i = 0 := by
          rw [rn 152 (by omega) (by omega)] at y
          rcases l1 i g0.1 hi with w | ⟨ts, w⟩
          · exact w.2.2.1
          · have := wCost_b (nx := rBeside (M 216)) (wPr_b (M 216) e 1) ts (rEnd (M 216) e)
            have := w.2.1
            omega
        intro w
        refine sne (w.symm.trans ?_)
        rw [z0]
        refine ext64 (qland_in _ _) ⟨by decide, by decide⟩ (fun k hk => ?_)
        rw [bl_and _ _ hk, bt_0]; rfl
      · rw [rn 154 (by omega) (by omega)] at s2
        rw [qup_row (b := 215) (a := 227) (by decide), s2]
        have nx2 := nx N2 k2 s2
        rw [s2] at nx2
        refine ⟨fun w => nx2 _ ?_, fun w => ⟨qland_in _ _, sin, nx2 _ ?_⟩⟩
        · rw [rFt, show ((i.toNat : Nat) : Int) = i by omega, if_pos w]
        · rw [qlor_0 (rFt_set _ _ i.toNat (by omega)).1, rFt, show ((i.toNat : Nat) : Int) = i by omega, if_neg w]
  have key1 : ∀ i : Int, (0 ≤ i ∧ i ≤ M 229 t) → QRm X x (d + 6) qmX11_fits post 8 [(0, (2, 215)), (1, (0, t)), (2, (0, e)), (3, (1, rSn (fun i => M 230 (40 * t + i)) i.toNat)), (5, (1, 0)), (7, (0, i))] [] (qup M1 215 0 0) := by
    refine int_up (M 229 t) (fun i hi g => ?_) (fun i hi ih g => ?_)
    · refine TX11_fits_8 ?_
      rw [r229]
      refine ⟨a.1, a.2, (i32 (by omega) (by omega)), (i32 (by omega) (by omega)), fun _ => ?_, fun w => absurd hi w⟩
      have := key2 0 (qup M1 215 0 0) ⟨⟨(by omega), (by omega)⟩, ⟨fun c c0 _ _ _ _ _ _ _ _ => ?_, fun j _ _ => rfl⟩, fun k k0 k1 => absurd k1 (by omega)⟩
      · rw [show i = M 229 t by omega]; exact this
      · show (if c = 227 then M1 227 else (qup M1 215 0 0) c) = (qup M1 215 0 0) c
        split
        · rename_i w; rw [w, w1 227 (by omega)]
        · rfl
    · have nx := ih ⟨(by omega), (by omega)⟩
      rw [show (i + 1).toNat = i.toNat + 1 by omega, rSn, show ((i.toNat : Nat) : Int) = i by omega] at nx
      refine TX11_fits_8 ?_
      rw [r229, r230]
      exact ⟨a.1, a.2, (i32 (by omega) (by omega)), (i32 (by omega) (by omega)), fun w => absurd hi (by omega), fun _ => ⟨(by omega), (by omega), nx⟩⟩
  exact QC.of qmX11_fits_ok rfl (TX11_fits_0 (key1 0 ⟨(by omega), (by omega)⟩))
/-- the relation after a search on both sides -/
theorem fRel (hR : Rel M) {t e : Int} {M1 N : QMem} (hO : fOk M t e M1) (hN : wK (qup M1 215 0 0) (fun a => if a = 227 then M1 227 else N a)) : Rel N := by
  have g := hO.1.gK.trans ((gT M1).trans hN.gK)
  refine hR.keep (g.trans ⟨fun a q1 q2 q3 => ?_, ⟨rfl, rfl⟩, rfl, rfl, rfl, rfl⟩)
  show N a = (if a = 227 then M1 227 else N a)
  rw [if_neg (by omega)]
theorem fNF (hR : Rel M) {t e : Int} {M1 : QMem} (k : vK M M1) : rNF (qup M1 215 0 0) t e = rNF M t e := by
  obtain ⟨_, e1, _, w1⟩ := vRel hR k
  unfold rNF
  rw [e1, w1 228 (by omega), w1 229 (by omega), w1 230 (by omega), k 228 (by omega) (by omega) (by omega) (by omega) (by omega), k 229 (by omega) (by omega) (by omega) (by omega) (by omega), k 230 (by omega) (by omega) (by omega) (by omega) (by omega)]
theorem rel_faded (hR : Rel M) {t e : Int} (ht : in32 t) (he : in32 e) (hp : ∀ v M3, Rel M3 → cont v v M3) : QCm X x (d + 8) 2 yX10_faded [(2, 0), (0, t), (0, e)] M (fun x1 M1 => QCm X x (d + 8) 2 yX11_faded [(2, 215), (0, t), (0, e)] M1 (fun x2 M2 => cont x1 x2 M2)) := by
  have b := rNF_b' M t e
  refine QC.of qmX10_faded_ok rfl (TX10_faded_0 (c_whyNotFaded hR ht he ⟨fun z => c_fadedCells hR z (fun M1 hO => ?_), fun z => ⟨(i32 (by omega) (by omega)), ?_⟩⟩))
  · have R1 := (vRel hR hO.1).1
    refine QC.of qmX11_faded_ok rfl (TX11_faded_0 (m_noFaded R1 ht he ?_))
    rw [fNF hR hO.1]
    exact ⟨fun _ => m_fits hR z hO (fun N hN _ => hp _ _ (fRel hR hO hN)), fun y => absurd z y⟩
  · have R1 := (vRel hR (vK.refl M)).1
    refine QC.of qmX11_faded_ok rfl (TX11_faded_0 (m_noFaded R1 ht he ?_))
    rw [fNF hR (vK.refl M)]
    exact ⟨fun y => absurd y z, fun _ => ⟨(i32 (by omega) (by omega)), hp _ _ R1⟩⟩
theorem m_manyOf {v : Int} (hp : post (rCnt (fun k => bt v k.toNat = true) 36) M) : QCm X x (d + 1) 1 yX11_manyOf [(1, v)] M post := by
  have key : ∀ i : Int, 0 ≤ i ∧ i ≤ 36 → QRm X x (d + 1) qmX11_manyOf post 4 [(0, (1, v)), (2, (0, rCnt (fun k => bt v k.toNat = true) i.toNat)), (3, (0, i))] [] M := by
    refine int_up 36 (fun i hi g => ?_) (fun i hi ih g => ?_)
    · refine TX11_manyOf_4 ⟨(i32 (by omega) (by omega)), fun _ => ?_, fun z => absurd hi z⟩
      rw [show i = 36 by omega]; exact hp
    · have nx := ih ⟨(by omega), (by omega)⟩
      rw [show (i + 1).toNat = i.toNat + 1 by omega] at nx
      refine TX11_manyOf_4 ⟨(i32 (by omega) (by omega)), fun z => absurd hi (by omega), fun _ => m_isIn ⟨(by omega), (by omega)⟩ (fun bb => ⟨fun z => absurd z (by decide), fun _ => ⟨(i32 (by omega) (by omega)), ?_⟩⟩) (fun bb => ⟨fun _ => ?_, fun z => absurd rfl z⟩)⟩
      · rw [rCnt_yes (p := fun k => bt v k.toNat = true) (n := i.toNat) (by show bt v ((i.toNat : Nat) : Int).toNat = true; rw [Int.toNat_natCast]; exact bb)] at nx; exact nx
      · rw [rCnt_no (p := fun k => bt v k.toNat = true) (n := i.toNat) (by show ¬ bt v ((i.toNat : Nat) : Int).toNat = true; rw [Int.toNat_natCast, bb]; decide)] at nx
        rw [Int.add_zero]; exact nx
  exact QC.of qmX11_manyOf_ok rfl (TX11_manyOf_0 (key 0 ⟨(by omega), (by omega)⟩))
theorem rel_manyFaded (hR : Rel M) {t e : Int} (ht : in32 t) (he : in32 e) (hp : ∀ v M3, Rel M3 → cont v v M3) : QCm X x (d + 8) 1 yX10_manyFaded [(2, 0), (0, t), (0, e)] M (fun x1 M1 => QCm X x (d + 8) 1 yX11_manyFaded [(2, 215), (0, t), (0, e)] M1 (fun x2 M2 => cont x1 x2 M2)) := by
  have b := rNF_b' M t e
  have hcl := hR.1.1.cells
  refine QC.of qmX10_manyFaded_ok rfl (TX10_manyFaded_0 (c_whyNotFaded hR ht he ⟨fun z => c_fadedCells hR z (fun M1 hO => j_bitCount (rFt_small _ _ (by omega)) ?_), fun z => ⟨(i32 (by omega) (by omega)), ?_⟩⟩))
  · have R1 := (vRel hR hO.1).1
    refine QC.of qmX11_manyFaded_ok rfl (TX11_manyFaded_0 (m_noFaded R1 ht he ?_))
    rw [fNF hR hO.1]
    exact ⟨fun _ => m_fits hR z hO (fun N hN _ => m_manyOf (hp _ _ (fRel hR hO hN))), fun y => absurd z y⟩
  · have R1 := (vRel hR (vK.refl M)).1
    refine QC.of qmX11_manyFaded_ok rfl (TX11_manyFaded_0 (m_noFaded R1 ht he ?_))
    rw [fNF hR (vK.refl M)]
    exact ⟨fun y => absurd y z, fun _ => ⟨(i32 (by omega) (by omega)), hp _ _ R1⟩⟩
end Faded90
