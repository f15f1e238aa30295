/-- how many ways of n cells over the free ones -/
def cWT (A : Int → Int) (f : Int → Int → Int) (k F : Int) : Nat → Int
  | 0 => 0
  | t + 1 => if rBeside A k (t + 1) ≠ -1 ∧ bt F (rBeside A k (t + 1)).toNat = true then cWT A f k F t + f (rBeside A k (t + 1)) (qland F (qlxor (qlshl 1 (rBeside A k (t + 1))) (-1))) else cWT A f k F t
def cW (A : Int → Int) (to : Int) : Nat → Int → Int → Int
  | 0 => fun k _ => if k = to then 1 else 0
  | n + 1 => fun k F => cWT A (cW A to n) k F 4
/-- how far apart -/
def cAp (w a b : Int) : Int := (if 0 ≤ a % w - b % w then a % w - b % w else -(a % w - b % w)) + (if 0 ≤ a / w - b / w then a / w - b / w else -(a / w - b / w))
theorem cAp_step {A : Int → Int} (hw : 2 ≤ A 1 ∧ A 1 ≤ 6) (hh : 2 ≤ A 2 ∧ A 2 ≤ 6) {k to t : Int} (hk : 0 ≤ k ∧ k < A 1 * A 2) (ht : 1 ≤ t ∧ t ≤ 4) (hn : rBeside A k t ≠ -1) : cAp (A 1) k to ≤ cAp (A 1) (rBeside A k t) to + 1 := by
  have d1 : k.tdiv (A 1) = k / A 1 := Int.tdiv_eq_ediv_of_nonneg hk.1
  have m1 : k.tmod (A 1) = k % A 1 := Int.tmod_eq_emod_of_nonneg hk.1
  have r1 : rBeside A k 1 = if k / A 1 = 0 then -1 else k - A 1 := by rw [← d1]; rfl
  have r2 : rBeside A k 2 = if k % A 1 = A 1 - 1 then -1 else k + 1 := by rw [← m1]; rfl
  have r3 : rBeside A k 3 = if k / A 1 = A 2 - 1 then -1 else k + A 1 := by rw [← d1]; rfl
  have r4 : rBeside A k 4 = if k % A 1 = 0 then -1 else k - 1 := by rw [← m1]; rfl
  have abs1 : ∀ p q r : Int, (q = p ∨ q = p - 1 ∨ q = p + 1) → (if 0 ≤ p - r then p - r else -(p - r)) ≤ (if 0 ≤ q - r then q - r else -(q - r)) + (if q = p then 0 else 1) := fun p q r h => by
    repeat' split
    all_goals omega
  have fin : ∀ j : Int, ((j % A 1 = k % A 1 ∧ (j / A 1 = k / A 1 - 1 ∨ j / A 1 = k / A 1 + 1)) ∨ (j / A 1 = k / A 1 ∧ (j % A 1 = k % A 1 - 1 ∨ j % A 1 = k % A 1 + 1))) → cAp (A 1) k to ≤ cAp (A 1) j to + 1 := fun j h => by
    unfold cAp
    have a1 := abs1 (k % A 1) (j % A 1) (to % A 1)
    have a2 := abs1 (k / A 1) (j / A 1) (to / A 1)
    rcases h with h | h
    · have b1 := a1 (Or.inl h.1)
      have b2 := a2 (Or.inr h.2)
      rw [if_pos h.1] at b1
      rw [if_neg (show ¬ j / A 1 = k / A 1 by omega)] at b2
      omega
    · have b1 := a1 (Or.inr h.2)
      have b2 := a2 (Or.inl h.1)
      rw [if_neg (show ¬ j % A 1 = k % A 1 by omega)] at b1
      rw [if_pos h.1] at b2
      omega
  have hww : A 1 = 2 ∨ A 1 = 3 ∨ A 1 = 4 ∨ A 1 = 5 ∨ A 1 = 6 := by omega
  have : t = 1 ∨ t = 2 ∨ t = 3 ∨ t = 4 := by omega
  rcases this with rfl | rfl | rfl | rfl
  · rw [r1] at hn ⊢; split at hn
    · exact absurd rfl hn
    · rename_i q; rw [if_neg q]
      refine fin _ (Or.inl ?_)
      rcases hww with z | z | z | z | z <;> rw [z] <;> omega
  · rw [r2] at hn ⊢; split at hn
    · exact absurd rfl hn
    · rename_i q; rw [if_neg q]
      refine fin _ (Or.inr ?_)
      rcases hww with z | z | z | z | z <;> rw [z] at q ⊢ <;> omega
  · rw [r3] at hn ⊢; split at hn
    · exact absurd rfl hn
    · rename_i q; rw [if_neg q]
      refine fin _ (Or.inl ?_)
      rcases hww with z | z | z | z | z <;> rw [z] <;> omega
  · rw [r4] at hn ⊢; split at hn
    · exact absurd rfl hn
    · rename_i q; rw [if_neg q]
      refine fin _ (Or.inr ?_)
      rcases hww with z | z | z | z | z <;> rw [z] at q ⊢ <;> omega
theorem cW_far {A : Int → Int} (hL : rLandOk A) {to : Int} : ∀ (n : Nat) (k F : Int), 0 ≤ k ∧ k < A 1 * A 2 → (n : Int) < cAp (A 1) k to → cW A to n k F = 0 := by
  intro n
  induction n with
  | zero =>
    intro k F hk h
    show (if k = to then (1 : Int) else 0) = 0
    rw [if_neg]
    intro z
    rw [z] at h
    unfold cAp at h
    rw [Int.sub_self, Int.sub_self, if_pos (Int.le_refl 0)] at h
    omega
  | succ n ih =>
    intro k F hk h
    have all : ∀ t : Nat, t ≤ 4 → cWT A (cW A to n) k F t = 0 := by
      intro t
      induction t with
      | zero => intro _; rfl
      | succ t iht =>
        intro ht
        rw [cWT]
        split
        · rename_i z
          have b := rBeside_b (t := t + 1) hL hk
          have s := cAp_step (to := to) hL.1 hL.2.1 hk ⟨by omega, by omega⟩ z.1
          rw [iht (by omega), ih _ _ ⟨by have := z.1; omega, b.2⟩ (by omega)]; rfl
        · exact iht (by omega)
    exact all 4 (Nat.le_refl 4)
section Many88
variable {X : QX} {x : Int} {d : Nat} {post : Int → QMem → Prop} {M : QMem} {cont : Int → Int → QMem → Prop} {A : Int → Int}
theorem v_apart {a b : Int} (hw : 2 ≤ M 151 10 ∧ M 151 10 ≤ 6) (ha : 0 ≤ a ∧ a < 36) (hb : 0 ≤ b ∧ b < 36) (hp : in32 (cAp (M 151 10) a b) → post (cAp (M 151 10) a b) M) : QCm X x (d + 1) 1 yX9_apart [(2, 151), (0, a), (0, b)] M post := by
  have da : a.tdiv (M 151 10) = a / M 151 10 := Int.tdiv_eq_ediv_of_nonneg ha.1
  have ma : a.tmod (M 151 10) = a % M 151 10 := Int.tmod_eq_emod_of_nonneg ha.1
  have db : b.tdiv (M 151 10) = b / M 151 10 := Int.tdiv_eq_ediv_of_nonneg hb.1
  have mb : b.tmod (M 151 10) = b % M 151 10 := Int.tmod_eq_emod_of_nonneg hb.1
  have b1 := td_b (k := a) (w := M 151 10) ha.1 (by omega)
  have b2 := tm_b (k := a) (w := M 151 10) ha.1 (by omega)
  have b3 := td_b (k := b) (w := M 151 10) hb.1 (by omega)
  have b4 := tm_b (k := b) (w := M 151 10) hb.1 (by omega)
  refine QC.of qmX9_apart_ok rfl (TX9_apart_0 ?_)
  rw [ma, mb]
  rw [da] at b1
  rw [ma] at b2
  rw [db] at b3
  rw [mb] at b4
  have fin : in32 (cAp (M 151 10) a b) := by
    unfold cAp
    have : -100 ≤ (if 0 ≤ a % M 151 10 - b % M 151 10 then a % M 151 10 - b % M 151 10 else -(a % M 151 10 - b % M 151 10)) ∧ (if 0 ≤ a % M 151 10 - b % M 151 10 then a % M 151 10 - b % M 151 10 else -(a % M 151 10 - b % M 151 10)) ≤ 100 := by split <;> omega
    have : -100 ≤ (if 0 ≤ a / M 151 10 - b / M 151 10 then a / M 151 10 - b / M 151 10 else -(a / M 151 10 - b / M 151 10)) ∧ (if 0 ≤ a / M 151 10 - b / M 151 10 then a / M 151 10 - b / M 151 10 else -(a / M 151 10 - b / M 151 10)) ≤ 100 := by split <;> omega
    exact (i32 (by omega) (by omega))
  have hp' := hp fin
  unfold cAp at hp'
  have two : ∀ u : Int, ∀ Q : Int → QMem → Prop, (Q (u + (if 0 ≤ a / M 151 10 - b / M 151 10 then a / M 151 10 - b / M 151 10 else -(a / M 151 10 - b / M 151 10))) M) → QCm X x d 1 yJ9_abs_0f7a4 [(0, (a.tdiv (M 151 10)) - (b.tdiv (M 151 10)))] M (fun x2 M2 => Q (u + x2) M2) := fun u Q hQ => by
    rw [da, db]
    refine j_abs (i32 (by omega) (by omega)) (fun y => ?_) (fun y => ?_)
    · rw [if_pos y] at hQ; exact hQ
    · rw [if_neg y] at hQ; exact hQ
  refine ⟨(i32 (by omega) (by omega)), (i32 (by omega) (by omega)), (by omega), (i32 (by omega) (by omega)), j_abs (i32 (by omega) (by omega)) (fun z => ⟨(i32 (by omega) (by omega)), (by omega), two _ _ ?_⟩) (fun z => ⟨(i32 (by omega) (by omega)), (by omega), two _ _ ?_⟩)⟩
  · rw [if_pos z] at hp'; exact hp'
  · rw [if_neg z] at hp'; exact hp'
theorem v_manyFrom (hL : rLandOk A) {to : Int} (hto : 0 ≤ to ∧ to < A 1 * A 2) (hw : M 151 10 = A 1) (hl : ∀ k t, 0 ≤ k → k < A 1 * A 2 → 1 ≤ t → t ≤ 4 → M 160 (k * 4 + t - 1) = rBeside A k t) : ∀ n : Nat, n ≤ 8 → ∀ (k F : Int) (post : Int → QMem → Prop), 0 ≤ k ∧ k < A 1 * A 2 → post (cW A to n k F) M → QCm X x (d + n + 2) 1 yX9_manyFrom [(2, 151), (0, k), (0, to), (0, (n : Int)), (1, F)] M post := by
  have hcl := hL.cells
  have hww := hL.1
  intro n
  induction n with
  | zero =>
    intro _ k F post hk hp
    have hp' : post (if k = to then 1 else 0) M := hp
    refine QC.of qmX9_manyFrom_ok rfl (TX9_manyFrom_0 ⟨(i32 (by omega) (by omega)), fun z => absurd z (by decide), fun _ => ⟨fun z => ?_, fun z => ⟨(i32 (by omega) (by omega)), (i32 (by omega) (by omega)), ?_⟩⟩⟩)
    · rw [if_pos z] at hp'; exact hp'
    · rw [if_neg z] at hp'; exact hp'
  | succ n ih =>
    intro hn k F post hk hp
    refine QC.of qmX9_manyFrom_ok rfl (TX9_manyFrom_0 ⟨(i32 (by omega) (by omega)), fun _ => v_apart (d := d + n + 1) (by rw [hw]; exact hww) ⟨hk.1, (by omega)⟩ ⟨hto.1, (by omega)⟩ (fun i => ?_), fun z => absurd (by omega) z⟩)
    rw [hw] at i ⊢
    refine ⟨i, fun _ => ?_, fun z => ?_⟩
    · have key : ∀ t : Int, 1 ≤ t ∧ t ≤ 5 → QRm X x (d + (n + 1) + 2) qmX9_manyFrom post 33 [(0, (2, 151)), (1, (0, k)), (2, (0, to)), (3, (0, ((n + 1 : Nat) : Int))), (4, (1, F)), (6, (0, cWT A (cW A to n) k F (t - 1).toNat)), (7, (0, t))] [] M := by
        refine int_up 5 (fun t ht g => ?_) (fun t ht ih2 g => ?_)
        · refine TX9_manyFrom_33 ⟨(i32 (by omega) (by omega)), fun _ => ?_, fun z => absurd ht (by omega)⟩
          rw [show (t - 1).toNat = 4 by omega]; exact hp
        · have nx := ih2 ⟨(by omega), (by omega)⟩
          rw [show (t + 1 - 1).toNat = (t - 1).toNat + 1 by omega, cWT, show (((t - 1).toNat : Nat) : Int) + 1 = t by omega] at nx
          have b := rBeside_b (t := t) hL hk
          refine TX9_manyFrom_33 ⟨(i32 (by omega) (by omega)), fun z => absurd ht (by omega), fun _ => v_leadOf ⟨hk.1, (by omega)⟩ ⟨(by omega), (by omega)⟩ ?_⟩
          rw [hl k t hk.1 hk.2 (by omega) (by omega)]
          refine v_isIn ⟨b.1, (by omega)⟩ (fun p bb => ⟨fun z => absurd z (by decide), fun _ => ⟨(i32 (by omega) (by omega)), ?_⟩⟩) (fun bb => ⟨fun _ => ?_, fun z => absurd rfl z⟩)
          · rw [if_pos ⟨by omega, bb⟩] at nx
            rw [show ((n + 1 : Nat) : Int) - 1 = (n : Int) by omega]
            exact ih (by omega) _ _ _ ⟨p, b.2⟩ nx
          · rw [if_neg (fun q => by
              rcases bb with bb | bb
              · exact q.1 bb
              · rw [q.2] at bb; exact absurd bb (by decide))] at nx
            exact nx
      exact key 1 ⟨(by omega), (by omega)⟩
    · rw [cW_far hL (n + 1) k F hk (by omega)] at hp
      exact hp
theorem m_waysFrom (hA : M 216 = A) (hL : rLandOk A) {e to : Int} (hr : wRow A e (-1) 1 (A 1 * A 2) M) (hto : 0 ≤ to ∧ to < A 1 * A 2) : ∀ n : Nat, n ≤ 8 → ∀ (k F G : Int) (post : Int → QMem → Prop), 0 ≤ k ∧ k < A 1 * A 2 → (∀ j : Nat, (j : Int) < A 1 * A 2 → (bt F j = true ↔ wOp A e (-1) j ∧ bt G j = false)) → post (cW A to n k F) M → QCm X x (d + n + 2) 1 yX11_waysFrom [(2, 215), (0, k), (0, to), (0, (n : Int)), (1, G)] M post := by
  have hcl := hL.cells
  intro n
  induction n with
  | zero =>
    intro _ k F G post hk hG hp
    have hp' : post (if k = to then 1 else 0) M := hp
    refine QC.of qmX11_waysFrom_ok rfl (TX11_waysFrom_0 ⟨fun _ => ⟨fun z => ?_, fun z => ⟨(i32 (by omega) (by omega)), (i32 (by omega) (by omega)), ?_⟩⟩, fun z => absurd rfl z⟩)
    · rw [if_pos z] at hp'; exact hp'
    · rw [if_neg z] at hp'; exact hp'
  | succ n ih =>
    intro hn k F G post hk hG hp
    refine QC.of qmX11_waysFrom_ok rfl (TX11_waysFrom_0 ⟨fun z => absurd z (by omega), fun _ => ⟨(i32 (by omega) (by omega)), ?_⟩⟩)
    have key : ∀ t : Int, 1 ≤ t ∧ t ≤ 5 → QRm X x (d + (n + 1) + 2) qmX11_waysFrom post 21 [(0, (2, 215)), (1, (0, k)), (2, (0, to)), (3, (0, ((n + 1 : Nat) : Int))), (4, (1, G)), (6, (0, cWT A (cW A to n) k F (t - 1).toNat)), (7, (0, t))] [] M := by
      refine int_up 5 (fun t ht g => ?_) (fun t ht ih2 g => ?_)
      · refine TX11_waysFrom_21 ⟨(i32 (by omega) (by omega)), fun _ => ?_, fun z => absurd ht (by omega)⟩
        rw [show (t - 1).toNat = 4 by omega]; exact hp
      · have nx := ih2 ⟨(by omega), (by omega)⟩
        rw [show (t + 1 - 1).toNat = (t - 1).toNat + 1 by omega, cWT, show (((t - 1).toNat : Nat) : Int) + 1 = t by omega] at nx
        have b := rBeside_b (t := t) hL hk
        refine TX11_waysFrom_21 ⟨(i32 (by omega) (by omega)), fun z => absurd ht (by omega), fun _ => m_beside ⟨hk.1, (by omega)⟩ (i32 (by omega) (by omega)) (by rw [hA]; exact hL.1) (by rw [hA]; exact hL.2.1) ?_⟩
        rw [hA]
        refine ⟨fun z => ?_, fun z => ⟨(i32 (by omega) (by omega)), (by omega), (by omega), fun c => ?_, fun c => ?_⟩⟩
        · rw [if_neg (fun q => q.1 z)] at nx; exact nx
        · have rr := hr _ (by omega : 0 ≤ rBeside A k t) b.2
          have gj := hG (rBeside A k t).toNat (by omega)
          rw [show (((rBeside A k t).toNat : Nat) : Int) = rBeside A k t by omega] at gj
          rw [if_neg (fun q => by
            have := rr.1 (gj.1 q.2).1
            omega)] at nx
          exact nx
        · have rr := hr _ (by omega : 0 ≤ rBeside A k t) b.2
          have gj := hG (rBeside A k t).toNat (by omega)
          rw [show (((rBeside A k t).toNat : Nat) : Int) = rBeside A k t by omega] at gj
          have yes : wOp A e (-1) (rBeside A k t) := by
            apply Classical.byContradiction
            intro u; exact c (rr.2.1 u)
          refine ⟨by rw [rr.1 yes]; exact ⟨by decide, by decide⟩, m_isIn ⟨(by omega), (by omega)⟩ (fun bb => ⟨fun y => absurd y (by decide), fun _ => ⟨(i32 (by omega) (by omega)), ?_⟩⟩) (fun bb => ⟨fun _ => ?_, fun y => absurd rfl y⟩)⟩
          · rw [if_neg (fun q => by
              have := (gj.1 q.2).2
              rw [bb] at this; exact absurd this (by decide))] at nx
            exact nx
          · rw [if_pos ⟨z, gj.2 ⟨yes, bb⟩⟩] at nx
            rw [show ((n + 1 : Nat) : Int) - 1 = (n : Int) by omega]
            refine ih (by omega) _ _ _ _ ⟨(by omega), b.2⟩ (fun j hj => ?_) nx
            rw [off_l F ⟨(by omega), (by omega)⟩ (by omega), put_l G ⟨(by omega), (by omega)⟩ (by omega), Bool.and_eq_true, hG j hj, Bool.not_eq_true', Bool.or_eq_false_iff]
            exact ⟨fun q => ⟨q.1.1, q.1.2, q.2⟩, fun q => ⟨⟨q.1, q.2.1⟩, q.2.2⟩⟩
    exact key 1 ⟨(by omega), (by omega)⟩
theorem rel_ways (hR : Rel M) {e k n : Int} (he : in32 e) (hk : in32 k) (hn : in32 n) (hp : ∀ v M3, Rel M3 → cont v v M3) : QCm X x (d + 16) 1 yX10_ways [(2, 0), (0, e), (0, k), (0, n)] M (fun x1 M1 => QCm X x (d + 16) 1 yX11_ways [(2, 215), (0, e), (0, k), (0, n)] M1 (fun x2 M2 => cont x1 x2 M2)) := by
  have R0 := hR.keep (gT M)
  have e0 := (gT M).all
  have a3 := hR.1.1.2.2.1
  have hcl := hR.1.1.cells
  have no : ¬ ((0 ≤ e ∧ e < M 216 3) ∧ 0 ≤ k ∧ k < M 216 1 * M 216 2) → QCm X x (d + 16) 1 yX11_ways [(2, 215), (0, e), (0, k), (0, n)] M (fun x2 M2 => cont (-2) x2 M2) := fun z =>
    QC.of qmX11_ways_ok rfl (TX11_ways_0 ⟨he, n_isDrum R0 he (fun y => ⟨fun q => absurd q (by decide), fun _ => ⟨(i32 (by omega) (by omega)), hk, n_isCell R0 hk (fun y2 => absurd ⟨by rw [e0] at y; exact y, by rw [e0] at y2; exact y2⟩ z) (fun _ => ⟨fun _ => hp _ _ R0, fun q => absurd rfl q⟩)⟩⟩) (fun _ => ⟨fun _ => hp _ _ R0, fun q => absurd rfl q⟩)⟩)
  have bad : (0 ≤ e ∧ e < M 216 3) → (0 ≤ k ∧ k < M 216 1 * M 216 2) → ¬ (0 ≤ n ∧ n ≤ 8) → QCm X x (d + 16) 1 yX11_ways [(2, 215), (0, e), (0, k), (0, n)] M (fun x2 M2 => cont (-3) x2 M2) := fun a c z =>
    QC.of qmX11_ways_ok rfl (TX11_ways_0 ⟨he, n_isDrum R0 he (fun y => ⟨fun q => absurd q (by decide), fun _ => ⟨(i32 (by omega) (by omega)), hk, n_isCell R0 hk (fun y2 => ⟨fun q => absurd q (by decide), fun _ => ⟨(i32 (by omega) (by omega)), hn, m_within hn.to64 (i64 (by omega) (by omega)) (i64 (by omega) (by omega)) (fun q => absurd q z) (fun _ => ⟨fun _ => hp _ _ R0, fun q => absurd rfl q⟩)⟩⟩) (fun q => absurd (by rw [e0]; exact c) q)⟩⟩) (fun q => absurd (by rw [e0]; exact a) q)⟩)
  refine QC.of qmX10_ways_ok rfl (TX10_ways_0 (k_hasDrum hR he (fun a => ⟨fun z => absurd z (by decide), fun _ => ⟨(i32 (by omega) (by omega)), k_hasCell hR hk (fun c => ⟨fun z => absurd z (by decide), fun _ => ⟨(i32 (by omega) (by omega)), hn, fun z => bad a c (by omega), fun z => ⟨fun y => c_begin hR.1 a (fun M1 k1 f1 s1 => ?_), fun y => bad a c (by omega)⟩⟩⟩) (fun c => ⟨fun _ => no (fun z => c z.2), fun z => absurd rfl z⟩)⟩⟩) (fun a => ⟨fun _ => no (fun z => a z.1), fun z => absurd rfl z⟩)))
  obtain ⟨R1, e1, r1, w1⟩ := vRel hR k1
  have hL := hR.1.1
  have hS := hR.1.2.1
  have h6 := hS.2.1.1 e a.1 (by omega)
  have hE := rEnd_b hL hS.2.1 a.1 a.2
  obtain ⟨m, rfl⟩ := Int.eq_ofNat_of_zero_le (show 0 ≤ n by omega)
  have ref : ∀ V : Int, ((m : Int) ≤ 16 - M 216 (60 + e) → V = cW (M 216) k m (rEnd (M 216) e) (M1 151 13)) → (¬ (m : Int) ≤ 16 - M 216 (60 + e) → V = 0) → QCm X x (d + 16) 1 yX11_ways [(2, 215), (0, e), (0, k), (0, (m : Int))] M1 (fun x2 M2 => cont V x2 M2) := by
    intro V v1 v2
    refine QC.of qmX11_ways_ok rfl (TX11_ways_0 ⟨he, n_isDrum R1 he (fun y => ⟨fun q => absurd q (by decide), fun _ => ⟨(i32 (by omega) (by omega)), hk, n_isCell R1 hk (fun y2 => ⟨fun q => absurd q (by decide), fun _ => ⟨(i32 (by omega) (by omega)), hn, m_within hn.to64 (i64 (by omega) (by omega)) (i64 (by omega) (by omega)) (fun _ => ⟨fun q => absurd q (by decide), fun _ => ⟨(i32 (by omega) (by omega)), ?_⟩⟩) (fun q => absurd ⟨(by omega), (by omega)⟩ q)⟩⟩) (fun q => absurd (by rw [e1]; exact c) q)⟩⟩) (fun q => absurd (by rw [e1]; exact a) q)⟩)
    refine m_laysOpen e1 hL hS ⟨a.1, (by omega)⟩ (Or.inr rfl) (by rw [r1]; exact ⟨by decide, by decide⟩) (fun M2 k2 wr => ?_)
    rw [r1] at wr
    have e2 : M2 216 = M 216 := by rw [k2.all, e1]
    refine QC.of qmX11_leftOf_ok rfl (TX11_leftOf_0 ?_)
    rw [e2]
    refine ⟨(by omega), (by omega), (i32 (by omega) (by omega)), fun z => m_endOf ⟨a.1, (by omega)⟩ (by rw [e2]; exact h6) ?_, fun z => by rw [v2 z]; exact hp _ _ (R1.keep k2.gK)⟩
    rw [e2]
    have en : d + 15 = (d + (13 - m)) + m + 2 := by omega
    have := m_waysFrom (X := X) (x := x) (d := d + (13 - m)) (to := k) e2 hL wr c m (by omega) (rEnd (M 216) e) (M1 151 13) 0 (fun x7 M7 => cont V x7 M7) hE (fun j hj => by
      rw [s1.1.2 j (by omega), bt_0]
      exact ⟨fun q => ⟨q.2, rfl⟩, fun q => ⟨hj, q.1⟩⟩) (by rw [v1 z]; exact hp _ _ (R1.keep k2.gK))
    rw [← en] at this
    exact this
  refine QC.of qmX9_howMany_ok rfl (TX9_howMany_0 ?_)
  rw [f1.2.2.2, f1.2.2.1]
  refine ⟨hn, (i32 (by omega) (by omega)), fun z => ?_, fun z => ref _ (fun q => absurd q z) (fun _ => rfl)⟩
  have en : d + 14 = (d + (12 - m)) + m + 2 := by omega
  have := v_manyFrom (X := X) (x := x) (d := d + (12 - m)) hL c f1.2.1 s1.2.2.2.2 m (by omega) (rEnd (M 216) e) (M1 151 13) (fun x1 M1 => QCm X x (d + 16) 1 yX11_ways [(2, 215), (0, e), (0, k), (0, (m : Int))] M1 (fun x2 M2 => cont x1 x2 M2)) hE (ref _ (fun _ => rfl) (fun q => absurd z q))
  rw [← en] at this
  exact this
end Many88
