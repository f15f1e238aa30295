/-- how many orders -/
def pOrF (A g : Int → Int) (s : Int) : Nat → Int
  | 0 => 0
  | n + 1 => if bt s n = true ∧ qand (pOv A n) s = 0 then pOrF A g s n + g (wo s n) else pOrF A g s n
def pOrN (A : Int → Int) : Nat → Int → Int
  | 0 => fun _ => 1
  | n + 1 => fun s => pOrF A (pOrN A n) s 6
def pOr (A : Int → Int) (s : Int) : Int := pOrN A (crd s).toNat s
theorem pOr_0 (A : Int → Int) : pOr A 0 = 1 := by
  rw [pOr, show crd 0 = 0 from by decide +kernel]; rfl
theorem pOrF_top {A g : Int → Int} {s : Int} (h3 : 0 ≤ A 3 ∧ A 3 ≤ 6) (hs : pSub A s) : ∀ j : Nat, (A 3).toNat + j ≤ 6 → pOrF A g s ((A 3).toNat + j) = pOrF A g s (A 3).toNat := by
  intro j
  induction j with
  | zero => intro _; rfl
  | succ j ih =>
    intro hj
    rw [show (A 3).toNat + (j + 1) = ((A 3).toNat + j) + 1 by omega, pOrF, if_neg (fun z => ?_), ih (by omega)]
    have := hs.2 _ (by omega) z.1
    omega
theorem pOrF_congr {A g g' : Int → Int} {s : Int} (h : ∀ k : Nat, k < 6 → bt s k = true → g (wo s k) = g' (wo s k)) : ∀ n : Nat, n ≤ 6 → pOrF A g s n = pOrF A g' s n := by
  intro n
  induction n with
  | zero => intro _; rfl
  | succ n ih =>
    intro hn
    rw [pOrF, pOrF, ih (by omega)]
    split
    · rename_i z; rw [h n (by omega) z.1]
    · rfl
theorem pOr_is {A : Int → Int} {s : Int} (hs : 0 ≤ s ∧ s < 64) (hn : s ≠ 0) : pOr A s = pOrF A (pOr A) s 6 := by
  have b := crd_b hs
  have c1 : crd s ≠ 0 := fun z => hn (b.2 z)
  have e : pOr A s = pOrF A (pOrN A ((crd s).toNat - 1)) s 6 := by
    rw [pOr, show (crd s).toNat = ((crd s).toNat - 1) + 1 by omega]; rfl
  rw [e]
  refine pOrF_congr (fun k hk z => ?_) 6 (Nat.le_refl 6)
  have c := crd_wo hs hk z
  rw [pOr, show (crd (wo s k)).toNat = (crd s).toNat - 1 by omega]
theorem pOrF_yes {A g : Int → Int} {s e : Int} (he : 0 ≤ e) (h : bt s e.toNat = true ∧ qand (pOv A e) s = 0) : pOrF A g s (e.toNat + 1) = pOrF A g s e.toNat + g (wo s e) := by
  rw [pOrF, show ((e.toNat : Nat) : Int) = e by omega, if_pos h]
theorem pOrF_no {A g : Int → Int} {s e : Int} (he : 0 ≤ e) (h : ¬ (bt s e.toNat = true ∧ qand (pOv A e) s = 0)) : pOrF A g s (e.toNat + 1) = pOrF A g s e.toNat := by
  rw [pOrF, show ((e.toNat : Nat) : Int) = e by omega, if_neg h]
theorem rSum_next (f : Int → Int) {e : Int} (he : 0 ≤ e) : rSum f 0 (e.toNat + 1) = rSum f 0 e.toNat + f e := by
  rw [rSum, show (0 : Int) + (e.toNat : Nat) = e by omega]
theorem rSum_upd {f g : Int → Int} {t v : Int} (h0 : 0 ≤ t) (ht : g t = f t + v) (ho : ∀ s, s ≠ t → g s = f s) : ∀ n : Nat, rSum g 0 n = rSum f 0 n + if t < n then v else 0 := by
  intro n
  induction n with
  | zero => rw [rSum, rSum, if_neg (by omega)]; rfl
  | succ n ih =>
    rw [rSum, rSum, ih]
    by_cases z : t = n
    · rw [if_neg (by omega), if_pos (by omega), show (0 : Int) + n = t by omega, ht]; omega
    · rw [ho (0 + n) (by omega)]
      by_cases y : t < n
      · rw [if_pos y, if_pos (by omega)]; omega
      · rw [if_neg y, if_neg (by omega)]; omega
theorem rSum_tail {f : Int → Int} {n : Nat} : ∀ j : Nat, (∀ i : Nat, n ≤ i → i < n + j → f i = 0) → rSum f 0 (n + j) = rSum f 0 n := by
  intro j
  induction j with
  | zero => intro _; rfl
  | succ j ih =>
    intro h
    rw [show n + (j + 1) = (n + j) + 1 by omega, rSum, ih (fun i i0 i1 => h i i0 (by omega)), show (0 : Int) + ((n + j : Nat) : Int) = ((n + j : Nat) : Int) by omega, h (n + j) (by omega) (by omega), Int.add_zero]
section Orders79
variable {X : QX} {x : Int} {d : Nat} {post : Int → QMem → Prop} {M : QMem} {cont : Int → Int → QMem → Prop}
theorem m_ordersOf (hL : rLandOk (M 216)) (hS : rStOk (M 216)) : ∀ n : Nat, ∀ s : Int, ∀ post : Int → QMem → Prop, pSub (M 216) s → crd s = n → post (pOrN (M 216) n s) M → QCm X x (d + n + 2) 1 yX11_ordersOf [(2, 215), (0, s)] M post := by
  have a3 := hL.2.2.1
  intro n
  induction n with
  | zero =>
    intro s post hs hc hp
    have s0 : s = 0 := (crd_b hs.1).2 (by omega)
    exact QC.of qmX11_ordersOf_ok rfl (TX11_ordersOf_0 ⟨fun _ => hp, fun z => absurd s0 z⟩)
  | succ n ih =>
    intro s post hs hc hp
    have s6 := hs.1
    have hn : s ≠ 0 := fun z => by rw [z, show crd 0 = 0 from by decide +kernel] at hc; omega
    have key : ∀ i : Int, (0 ≤ i ∧ i ≤ M 216 3) → QRm X x (d + (n + 1) + 2) qmX11_ordersOf post 10 [(0, (2, 215)), (1, (0, s)), (2, (0, pOrF (M 216) (pOrN (M 216) n) s i.toNat)), (3, (0, i))] [] M := by
      refine int_up (M 216 3) (fun i hi g => ?_) (fun i hi ih2 g => ?_)
      · refine TX11_ordersOf_10 ⟨(i32 (by omega) (by omega)), (i32 (by omega) (by omega)), fun _ => ?_, fun z => absurd hi z⟩
        have t := pOrF_top (A := M 216) (g := pOrN (M 216) n) a3 hs (6 - (M 216 3).toNat) (by omega)
        rw [show (M 216 3).toNat + (6 - (M 216 3).toNat) = 6 by omega] at t
        rw [show i.toNat = (M 216 3).toNat by omega, ← t]; exact hp
      · have ei : ((i.toNat : Nat) : Int) = i := by omega
        have nx := ih2 ⟨(by omega), (by omega)⟩
        rw [show (i + 1).toNat = i.toNat + 1 by omega, pOrF, ei] at nx
        refine TX11_ordersOf_10 ⟨(i32 (by omega) (by omega)), (i32 (by omega) (by omega)), fun z => absurd hi (by omega), fun _ => ⟨(i32 (by omega) (by omega)), m_isIn ⟨(by omega), (by omega)⟩ (fun b => ⟨fun z => absurd z (by decide), fun _ => ⟨(i32 (by omega) (by omega)), m_aboveOf hL hS ⟨(by omega), (by omega)⟩ ⟨fun z => ?_, fun z => ⟨qand_in _ _, ?_⟩⟩⟩⟩) (fun b => ⟨fun _ => ?_, fun z => absurd rfl z⟩)⟩⟩
        · have cw := crd_wo s6 (k := i.toNat) (by omega) b
          rw [ei] at cw
          refine ih (wo s i) _ (hs.less ⟨(by omega), (by omega)⟩) (by omega) ?_
          rw [if_pos ⟨b, z⟩] at nx; exact nx
        · rw [if_neg (fun q => z q.2)] at nx; exact nx
        · rw [if_neg (fun q => by rw [q.1] at b; exact absurd b (by decide))] at nx; exact nx
    exact QC.of qmX11_ordersOf_ok rfl (TX11_ordersOf_0 ⟨fun z => absurd z hn, fun _ => ⟨(i32 (by omega) (by omega)), key 0 ⟨(by omega), (by omega)⟩⟩⟩)
theorem c_howManyOrders {A : Int → Int} (hA : rLandOk A) (hL : pLook A M) (hp : ∀ M1, (∀ a, a ≠ 164 → M1 a = M a) → post (pOr A (pLy A)) M1) : QCm X x (d + 1) 1 yX4_howManyOrders [(2, 161)] M post := by
  have a3 := hA.2.2.1
  have L6 := (pLy_sub a3).1
  have hl : M 161 3 = pLy A := hL.1
  generalize hLv : pLy A = L at *
  have key : ∀ i : Int, ∀ M1 : QMem, (0 ≤ i ∧ i ≤ L) ∧ (∀ a, a ≠ 164 → M1 a = M a) ∧ (∀ s, 0 ≤ s → s < 64 → M1 164 s ≠ 0 → ∀ k, k < 6 → bt s k = true → bt L k = true) ∧ rSum (fun s => M1 164 s * pOr A (lf L s)) 0 64 - rSum (fun s => M1 164 s * pOr A (lf L s)) 0 i.toNat = pOr A L → QRm X x (d + 1) qmX4_howManyOrders post 17 [(0, (2, 161)), (1, (0, i))] [] M1 := by
    refine int_up L (fun i hi M1 g => ?_) (fun i hi ih M1 g => ?_)
    · obtain ⟨g0, g1, g2, g3⟩ := g
      have el : M1 161 3 = L := by rw [g1 161 (by omega)]; exact hl
      refine TX4_howManyOrders_17 ?_
      rw [el]
      refine ⟨(i32 (by omega) (by omega)), (i32 (by omega) (by omega)), fun _ => ⟨L6.1, L6.2, ?_⟩, fun z => absurd hi z⟩
      have tl := rSum_tail (f := fun s => M1 164 s * pOr A (lf L s)) (n := L.toNat + 1) (63 - L.toNat) (fun s s0 s1 => by
        by_cases z : M1 164 s = 0
        · show M1 164 s * _ = 0
          rw [z, Int.zero_mul]
        · have := sub_le L6 (s := s) ⟨(by omega), (by omega)⟩ (g2 s (by omega) (by omega) z)
          omega)
      rw [show L.toNat + 1 + (63 - L.toNat) = 64 by omega, rSum_next _ L6.1] at tl
      rw [tl, show i.toNat = L.toNat by omega] at g3
      simp only [lf_L L6, pOr_0, Int.mul_one] at g3
      have : M1 164 L = pOr A L := (by omega)
      rw [this]; exact hp M1 g1
    · obtain ⟨g0, g1, g2, g3⟩ := g
      have el : M1 161 3 = L := by rw [g1 161 (by omega)]; exact hl
      have i6 : 0 ≤ i ∧ i < 64 := ⟨g0.1, (by omega)⟩
      have lb := lf_b L6 i6
      have ln := lf_ne L6 (i := i) ⟨g0.1, hi⟩
      have et : (i + 1).toNat = i.toNat + 1 := by omega
      refine TX4_howManyOrders_17 ?_
      rw [el]
      refine ⟨(i32 (by omega) (by omega)), (i32 (by omega) (by omega)), fun z => absurd hi (by omega), fun _ => ?_⟩
      have key2 : ∀ e : Int, ∀ M2 : QMem, (0 ≤ e ∧ e ≤ 6) ∧ (∀ a, a ≠ 164 → M2 a = M a) ∧ (∀ s, 0 ≤ s → s < 64 → M2 164 s ≠ 0 → ∀ k, k < 6 → bt s k = true → bt L k = true) ∧ rSum (fun s => M2 164 s * pOr A (lf L s)) 0 64 - rSum (fun s => M2 164 s * pOr A (lf L s)) 0 (i + 1).toNat + M2 164 i * (pOrF A (pOr A) (lf L i) 6 - pOrF A (pOr A) (lf L i) e.toNat) = pOr A L → QRm X x (d + 1) qmX4_howManyOrders post 36 [(0, (2, 161)), (1, (0, i)), (2, (0, lf L i)), (3, (0, e))] [] M2 := by
        refine int_up 6 (fun e he M2 q => ?_) (fun e he ih2 M2 q => ?_)
        · obtain ⟨q0, q1, q2, q3⟩ := q
          refine TX4_howManyOrders_36 ⟨(i32 (by omega) (by omega)), fun _ => ih M2 ⟨⟨(by omega), (by omega)⟩, q1, q2, ?_⟩, fun z => absurd he z⟩
          rw [show e.toNat = 6 by omega, Int.sub_self, Int.mul_zero, Int.add_zero] at q3
          exact q3
        · obtain ⟨q0, q1, q2, q3⟩ := q
          have e6 : 0 ≤ e ∧ e < 6 := ⟨q0.1, he⟩
          have en : ((e.toNat : Nat) : Int) = e := by omega
          have ee : (e + 1).toNat = e.toNat + 1 := by omega
          have skip : ¬ (bt (lf L i) e.toNat = true ∧ qand (pOv A e) (lf L i) = 0) → QRm X x (d + 1) qmX4_howManyOrders post 36 [(0, (2, 161)), (1, (0, i)), (2, (0, lf L i)), (3, (0, e + 1))] [] M2 := fun z => by
            refine ih2 M2 ⟨⟨(by omega), (by omega)⟩, q1, q2, ?_⟩
            rw [ee, pOrF_no e6.1 z]; exact q3
          have ho : M2 162 e = pOv A e := by rw [q1 162 (by omega)]; exact hL.2.1 e e6.1 e6.2
          refine TX4_howManyOrders_36 ?_
          rw [ask_i _ ⟨(by omega), (by omega)⟩, ho]
          refine ⟨(i32 (by omega) (by omega)), fun z => absurd he (by omega), fun _ => ⟨fun y => ⟨e6.1, e6.2, fun w => ?_, fun w => ⟨qand_in _ _, skip (fun r => w r.2)⟩⟩, fun y => ⟨by split <;> exact ⟨by decide, by decide⟩, skip (fun r => y (if_pos r.1))⟩⟩⟩
          have b : bt (lf L i) e.toNat = true := by
            apply Classical.byContradiction
            intro q; rw [if_neg q] at y; exact absurd y (by decide)
          have nb := lf_bt L i (k := e.toNat) (by omega)
          rw [b] at nb
          have bL : bt L e.toNat = true := by
            cases r : bt L e.toNat with
            | true => rfl
            | false => rw [r, Bool.false_and] at nb; exact absurd nb (by decide)
          have bi : bt i e.toNat = false := by
            cases r : bt i e.toNat with
            | false => rfl
            | true => rw [r, bL] at nb; exact absurd nb (by decide)
          have cm := crd_more i6 e6 bi
          have t6 := (s_or i6 (s_bit e6)).1
          have lo := lf_or L6 i6 e6
          generalize hT : qor i (qshl 1 e) = t at *
          refine ⟨t6.1, t6.2, i6.1, i6.2, ih2 _ ⟨⟨(by omega), (by omega)⟩, fun a ha => by rw [qup_row ha]; exact q1 a ha, fun s s0 s1 s2 => ?_, ?_⟩⟩
          · rw [qup_at] at s2
            by_cases r : s = t
            · rw [if_pos r] at s2
              rw [r]
              by_cases r2 : M2 164 t = 0
              · have ki := q2 i i6.1 i6.2 (fun r3 => s2 (by rw [r2, r3]; rfl))
                intro k hk r4
                rw [← hT, put_i _ ⟨(by omega), (by omega)⟩ (by omega), Bool.or_eq_true] at r4
                rcases r4 with r4 | r4
                · exact ki k hk r4
                · have := of_decide_eq_true r4
                  rw [show k = e.toNat by omega]; exact bL
              · exact q2 t t6.1 t6.2 r2
            · rw [if_neg r] at s2; exact q2 s s0 s1 s2
          · have up := rSum_upd (f := fun s => M2 164 s * pOr A (lf L s)) (g := fun s => (qup M2 164 t (M2 164 t + M2 164 i)) 164 s * pOr A (lf L s)) (t := t) (v := M2 164 i * pOr A (lf L t)) t6.1 (by
              show (qup M2 164 t (M2 164 t + M2 164 i)) 164 t * pOr A (lf L t) = _
              rw [qup_at, if_pos rfl, Int.add_mul]) (fun s hs => by
              show (qup M2 164 t (M2 164 t + M2 164 i)) 164 s * pOr A (lf L s) = _
              rw [qup_at, if_neg hs])
            rw [up 64, up (i + 1).toNat, if_pos (by omega), if_neg (by omega), ee, pOrF_yes e6.1 ⟨b, w⟩, lo, qup_at, if_neg (by omega)]
            rw [Int.mul_sub] at q3
            rw [Int.mul_sub, Int.mul_add]
            generalize M2 164 i * pOr A (wo (lf L i) e) = z1 at *
            generalize M2 164 i * pOrF A (pOr A) (lf L i) 6 = z2 at *
            generalize M2 164 i * pOrF A (pOr A) (lf L i) e.toNat = z3 at *
            omega
      refine key2 0 M1 ⟨⟨(by omega), (by omega)⟩, g1, g2, ?_⟩
      rw [et, rSum_next _ i6.1, show pOrF A (pOr A) (lf L i) (0 : Int).toNat = 0 from rfl, Int.sub_zero, ← pOr_is lb ln]
      rw [← g3]; omega
  refine QC.of qmX4_howManyOrders_ok rfl (TX4_howManyOrders_0 (j_fill (n := 64) rfl (by decide) (by decide) (fun M1 f1 f2 => key 0 _ ⟨⟨(by omega), L6.1⟩, fun a ha => by rw [qup_row ha]; exact f1 a ha, fun s s0 s1 s2 k hk z => ?_, ?_⟩)))
  · rw [qup_at] at s2
    by_cases r : s = 0
    · rw [r, bt_0] at z; exact absurd z (by decide)
    · rw [if_neg r, f2 s s0 s1] at s2; exact absurd rfl s2
  · have tl := rSum_tail (f := fun s => (qup M1 164 0 1) 164 s * pOr A (lf L s)) (n := 1) 63 (fun s s0 s1 => by
      show (qup M1 164 0 1) 164 s * _ = 0
      rw [qup_at, if_neg (by omega), f2 s (by omega) (by omega), Int.zero_mul])
    rw [tl, rSum, show (0 : Int).toNat = 0 from rfl]
    show rSum _ 0 0 + (qup M1 164 0 1) 164 (0 + (0 : Nat)) * pOr A (lf L (0 + (0 : Nat))) - rSum _ 0 0 = _
    rw [show (0 : Int) + ((0 : Nat) : Int) = 0 from rfl, qup_at, if_pos rfl, lf_0 L6]
    omega
theorem rel_orders (hR : Rel M) (hp : ∀ v M3, Rel M3 → cont v v M3) : QCm X x (d + 10) 1 yX10_orders [(2, 0)] M (fun x1 M1 => QCm X x (d + 10) 1 yX11_orders [(2, 215)] M1 (fun x2 M2 => cont x1 x2 M2)) := by
  have a3 := hR.1.1.2.2.1
  refine QC.of qmX10_orders_ok rfl (TX10_orders_0 (c_lookAt hR.1 (fun M1 k1 l1 => c_howManyOrders hR.1.1 l1 (fun M2 k2 => ?_))))
  have g1 : gK M (qup M2 215 0 0) := (gK.of_rows (fun a q1 q2 q3 => by rw [k2 a (by omega)]; exact k1 a (by omega) (by omega) (by omega))).trans (gT M2)
  have R1 := hR.keep g1
  have e1 := g1.all
  refine QC.of qmX11_orders_ok rfl (TX11_orders_0 (m_lying R1.1.1.2.2.1 R1.1.2.1.2.1 ?_))
  rw [e1]
  have b := crd_b (pLy_sub a3).1
  have en : d + 9 = (d + (7 - (crd (pLy (M 216))).toNat)) + (crd (pLy (M 216))).toNat + 2 := by omega
  have t := m_ordersOf (X := X) (x := x) (d := d + (7 - (crd (pLy (M 216))).toNat)) R1.1.1 R1.1.2.1 (crd (pLy (M 216))).toNat (pLy (M 216)) (fun x2 M2 => cont (pOr (M 216) (pLy (M 216))) x2 M2) (by rw [e1]; exact pLy_sub a3) (by omega) (by rw [e1]; exact hp _ _ R1)
  rw [← en] at t
  exact t
end Orders79
