/-- the hour in which most are on cells -/
noncomputable def rOns (A : Int → Int) : Int := rCnt (fun t => A (347 + t) = 0 ∧ 0 ≤ A (339 + t)) (A 330).toNat
noncomputable def rBusy : Nat → (Int → Int) → Int → Int → Int → Int
  | 0, _, _, b, _ => b
  | f + 1, A, n, b, m => if m < rOns A then rBusy f (rHour A).1 (n + 1) n (rOns A) else rBusy f (rHour A).1 (n + 1) b m
theorem rOns_zero {A : Int → Int} (h : pAll A) : rOns A = 0 := rCnt_zero_iff.2 (fun i hi z => h i (by omega) (by omega) z.1)
theorem rHourN_all {A : Int → Int} (h : pAll A) : ∀ n : Nat, (n : Int) ≤ A 330 → rHourN A n = (A, 0) := by
  intro n
  induction n with
  | zero => intro _; rfl
  | succ n ih =>
    intro hn
    have e := ih (by omega)
    rw [rHourN, e, if_neg (show ¬ A (347 + n) = 0 from h n (by omega) (by omega))]
theorem pAll_next {A : Int → Int} (hS : rStOk A) (h : pAll A) : pAll (rHour A).1 := by
  have hT := hS.2.2.2.1
  have e := rHourN_all h (A 330).toNat (by omega)
  have e2 : (rHour A).1 = aup A 53 (A 53 + 1) := by rw [rHour, e]
  intro t t0 t1
  rw [e2] at t1 ⊢
  rw [aup_ne (by omega)] at t1
  rw [aup_ne (by omega)]; exact h t t0 t1
theorem rBusy_all : ∀ (f : Nat) {A : Int → Int} (n b m : Int), rLandOk A → rStOk A → pAll A → 0 ≤ m → rBusy f A n b m = b := by
  intro f
  induction f with
  | zero => intro A n b m _ _ _ _; rfl
  | succ f ih =>
    intro A n b m hL hS h hm
    have g := rHour_good hL hS
    rw [rBusy, rOns_zero h, if_neg (by omega)]
    exact ih (n + 1) b m (g.land hL) g.1 (pAll_next hS h) hm
section Time70
variable {X : QX} {x : Int} {d : Nat} {post : Int → QMem → Prop} {M : QMem} {cont : Int → Int → QMem → Prop}
theorem c_onCells {A : Int → Int} {b : Int} (hb : b = 27 ∨ b = 37) (hG : rGo A) (hC : cSt A b M) (hp : post (rOns A) M) : QCm X x d 1 yX6_onCells [(2, b)] M post := by
  have hT := hG.1
  have h6 : M b 6 = A 330 := hC.2.2.2.2.2.1
  have key : ∀ i : Int, 0 ≤ i ∧ i ≤ A 330 → QRm X x d qmX6_onCells post 4 [(0, (2, b)), (1, (0, rCnt (fun t => A (347 + t) = 0 ∧ 0 ≤ A (339 + t)) i.toNat)), (2, (0, i))] [] M := by
    refine int_up (A 330) (fun i hi g => ?_) (fun i hi ih g => ?_)
    · refine TX6_onCells_4 hb ?_
      rw [h6]
      refine ⟨(i32 (by omega) (by omega)), (i32 (by omega) (by omega)), fun _ => ?_, fun z => absurd hi (by omega)⟩
      rw [show i = A 330 by omega]; exact hp
    · have gg := hG.2.1 i g.1 hi
      have hq := hC.2.2.2.2.1 i g.1 hi
      have ei : ((i.toNat : Nat) : Int) = i := by omega
      have := ih ⟨(by omega), (by omega)⟩
      rw [show (i + 1).toNat = i.toNat + 1 by omega] at this
      refine TX6_onCells_4 hb ?_
      rw [h6, hq.2.1]
      refine ⟨(i32 (by omega) (by omega)), (i32 (by omega) (by omega)), fun z => absurd hi (by omega), fun _ => ⟨(by omega), (by omega), by split <;> exact (i32 (by omega) (by omega)), fun z => ?_, fun z => ?_⟩⟩
      · rw [rCnt_no (by rw [ei]; intro y; rw [if_neg (by omega)] at z; omega)] at this
        rw [Int.add_zero]; exact this
      · have n0 : A (347 + i) = 0 ∧ 0 ≤ A (339 + i) := by
          rcases gg.2.1 with y | y
          · rw [if_neg (by omega)] at z; exact ⟨y, (by omega)⟩
          · rw [if_pos y] at z; exact absurd (by decide) z
        rw [rCnt_yes (by rw [ei]; exact n0)] at this
        exact this
  exact QC.of qmX6_onCells_ok rfl (TX6_onCells_0 hb (key 0 ⟨(by omega), (by omega)⟩))
theorem m_goersOnCells (hS : rStOk (M 216)) (hp : post (rOns (M 216)) M) : QCm X x d 1 yX11_goersOnCells [(2, 215)] M post := by
  have hT := hS.2.2.2.1
  have key : ∀ i : Int, 0 ≤ i ∧ i ≤ M 216 330 → QRm X x d qmX11_goersOnCells post 4 [(0, (2, 215)), (1, (0, rCnt (fun t => M 216 (347 + t) = 0 ∧ 0 ≤ M 216 (339 + t)) i.toNat)), (2, (0, i))] [] M := by
    refine int_up (M 216 330) (fun i hi g => ?_) (fun i hi ih g => ?_)
    · refine TX11_goersOnCells_4 ⟨(i32 (by omega) (by omega)), (i32 (by omega) (by omega)), fun _ => ?_, fun z => absurd hi (by omega)⟩
      rw [show i = M 216 330 by omega]; exact hp
    · have gg := hS.2.2.2.2.1 i g.1 hi
      have ei : ((i.toNat : Nat) : Int) = i := by omega
      have := ih ⟨(by omega), (by omega)⟩
      rw [show (i + 1).toNat = i.toNat + 1 by omega] at this
      refine TX11_goersOnCells_4 ⟨(i32 (by omega) (by omega)), (i32 (by omega) (by omega)), fun z => absurd hi (by omega), fun _ => ⟨(by omega), (by omega), fun z => ⟨(by omega), (by omega), (i32 (by omega) (by omega)), fun y => ?_, fun y => ?_⟩, fun z => ⟨(i32 (by omega) (by omega)), ?_⟩⟩⟩
      · rw [rCnt_no (by rw [ei]; intro q; omega)] at this
        rw [Int.add_zero]; exact this
      · rw [rCnt_yes (by rw [ei]; exact ⟨z, (by omega)⟩)] at this
        exact this
      · rw [rCnt_no (by rw [ei]; intro q; exact z q.1)] at this
        rw [Int.add_zero]; exact this
  exact QC.of qmX11_goersOnCells_ok rfl (TX11_goersOnCells_0 (key 0 ⟨(by omega), (by omega)⟩))
theorem c_busiest_loop : ∀ (f : Nat) {A : Int → Int} {M : QMem} (n b m : Int), cOk A 37 M → 0 ≤ n → n + f = 100 → -1 ≤ m ∧ m ≤ 8 → (m = -1 → n = 0 ∧ b = 0) → (∀ M1, oK 37 M M1 → post (rBusy f A n b m) M1) → QRm X x (d + 4) qmX10_busiest post 17 [(0, (2, 0)), (1, (0, b)), (2, (0, m)), (3, (0, n))] [] M := by
  intro f
  induction f with
  | zero => intro A M n b m h n0 nf hm h1 hp; exact TX10_busiest_17 ⟨(i32 (by omega) (by omega)), fun _ => hp M (fun _ _ => rfl), fun z => absurd (show 99 < n by omega) z⟩
  | succ f ih =>
    intro A M n b m h n0 nf hm h1 hp
    have hT := h.2.1.2.2.2.1
    have cb := rCnt_b (fun t => A (347 + t) = 0) (A 330).toNat
    have ob : 0 ≤ rOns A ∧ rOns A ≤ (A 330).toNat := rCnt_b _ _
    have g := rHour_good h.1 h.2.1
    refine TX10_busiest_17 ⟨(i32 (by omega) (by omega)), fun z => absurd z (by omega), fun _ => c_onTheWay (Or.inr rfl) h.2.1.2.2.2 h.2.2.2 ⟨(i32 (by omega) (by omega)), fun z => ?_, fun z => ?_⟩⟩
    · have pa := pAll_iff.1 (show rCnt (fun t => A (347 + t) = 0) (A 330).toNat = 0 by omega)
      have := hp M (fun _ _ => rfl)
      by_cases y : m = -1
      · obtain ⟨y1, y2⟩ := h1 y
        rw [rBusy, rOns_zero pa, if_pos (by omega), rBusy_all f (n + 1) n 0 (g.land h.1) g.1 (pAll_next h.2.1 pa) (Int.le_refl _)] at this
        rw [show b = n by omega]; exact this
      · rw [rBusy_all (f + 1) n b m h.1 h.2.1 pa (by omega)] at this; exact this
    · refine c_onCells (Or.inr rfl) h.2.1.2.2.2 h.2.2.2 ⟨(i32 (by omega) (by omega)), (i32 (by omega) (by omega)), fun y => ?_, fun y => ?_⟩
      · refine c_passHour (Or.inr rfl) h.1 h.2.1 h.2.2.2 (fun M1 m1 m2 => ih (n + 1) b m (h.trial g (oK.sK m1) m2) (by omega) (by omega) hm (fun q => absurd q (by omega)) (fun M2 n1 => ?_))
        have := hp M2 (fun a ha => (n1 a ha).trans (m1 a ha))
        rw [rBusy, if_neg (by omega)] at this; exact this
      · refine c_passHour (Or.inr rfl) h.1 h.2.1 h.2.2.2 (fun M1 m1 m2 => ih (n + 1) n (rOns A) (h.trial g (oK.sK m1) m2) (by omega) (by omega) (by omega) (fun q => absurd q (by omega)) (fun M2 n1 => ?_))
        have := hp M2 (fun a ha => (n1 a ha).trans (m1 a ha))
        rw [rBusy, if_pos (by omega)] at this; exact this
theorem m_busiest_loop {A0 : Int → Int} : ∀ (f : Nat) {M : QMem} (n b m : Int), rLandOk (M 216) → rStOk (M 216) → rGood A0 (M 216) → 0 ≤ n → n + f = 100 → -1 ≤ m ∧ m ≤ 8 → (∀ M1, (∀ a, a ≠ 216 → M1 a = M a) → rGood A0 (M1 216) → QCm X x (d + 3) 0 yX11_isAgain [(2, 215)] M1 (fun _ M2 => post (rBusy f (M 216) n b m) M2)) → QRm X x (d + 4) qmX11_busiest post 15 [(0, (2, 215)), (1, (0, b)), (2, (0, m)), (3, (0, n))] [] M := by
  intro f
  induction f with
  | zero => intro M n b m hL hS hG n0 nf hm hp; exact TX11_busiest_15 ⟨(i32 (by omega) (by omega)), fun _ => hp M (fun _ _ => rfl) hG, fun z => absurd (show 99 < n by omega) z⟩
  | succ f ih =>
    intro M n b m hL hS hG n0 nf hm hp
    have hT := hS.2.2.2.1
    have G := rHour_good hL hS
    have ob : 0 ≤ rOns (M 216) ∧ rOns (M 216) ≤ (M 216 330).toNat := rCnt_b _ _
    refine TX11_busiest_15 ⟨(i32 (by omega) (by omega)), fun z => absurd z (by omega), fun _ => m_goersOnCells hS ⟨(i32 (by omega) (by omega)), (i32 (by omega) (by omega)), fun y => ?_, fun y => ?_⟩⟩
    · refine m_goesHour hL hS (fun M1 m1 m2 => ih (n + 1) b m (by rw [m2]; exact G.land hL) (by rw [m2]; exact G.1) (by rw [m2]; exact hG.trans G) (by omega) (by omega) hm (fun M2 n1 n2 => ?_))
      have := hp M2 (fun a ha => (n1 a ha).trans (m1 a ha)) n2
      rw [rBusy, if_neg (by omega)] at this
      rw [m2]; exact this
    · refine m_goesHour hL hS (fun M1 m1 m2 => ih (n + 1) n (rOns (M 216)) (by rw [m2]; exact G.land hL) (by rw [m2]; exact G.1) (by rw [m2]; exact hG.trans G) (by omega) (by omega) (by omega) (fun M2 n1 n2 => ?_))
      have := hp M2 (fun a ha => (n1 a ha).trans (m1 a ha)) n2
      rw [rBusy, if_pos (by omega)] at this
      rw [m2]; exact this
theorem rel_busiest (hR : Rel M) (hp : ∀ v M3, Rel M3 → cont v v M3) : QCm X x (d + 8) 1 yX10_busiest [(2, 0)] M (fun x1 M1 => QCm X x (d + 8) 1 yX11_busiest [(2, 215)] M1 (fun x2 M2 => cont x1 x2 M2)) := by
  refine QC.of qmX10_busiest_ok rfl (TX10_busiest_0 (c_trial hR.1 (fun M2 m1 K2 => c_busiest_loop (d := d + 4) 100 0 0 (-1) K2 (by omega) (by omega) (by omega) (fun _ => ⟨rfl, rfl⟩) (fun M3 m3 => ?_))))
  have g3 : gK M (qup M3 215 0 0) := ((oK.gK m1).trans (oK.gK m3)).trans (gT M3)
  have e3 := g3.all
  refine QC.of qmX11_busiest_ok rfl (TX11_busiest_0 (m_keeps (fun Mb b1 b2 => ?_)))
  have eb : Mb 216 = M 216 := (b1 216 (by omega)).trans e3
  refine m_busiest_loop (d := d + 4) (A0 := M 216) 100 0 0 (-1) (by rw [eb]; exact hR.1.1) (by rw [eb]; exact hR.1.2.1) (by rw [eb]; exact ⟨hR.1.2.1, fun _ _ => rfl⟩) (by omega) (by omega) (by omega) (fun Mc c1 c2 => ?_)
  rw [eb]
  exact m_again (A := M 216) c2 (fun j j0 j1 => by rw [c1 222 (by omega), b2 j j0 j1, e3]) (fun Md d1 d2 => hp _ _ (hR.keep (g3.again e3 b1 c1 d1 d2)))
theorem rel_wouldArrive (hR : Rel M) {e : Int} (he : in32 e) (hp : ∀ v M3, Rel M3 → cont v v M3) : QCm X x (d + 8) 1 yX10_wouldArrive [(2, 0), (0, e)] M (fun x1 M1 => QCm X x (d + 8) 1 yX11_wouldArrive [(2, 215), (0, e)] M1 (fun x2 M2 => cont x1 x2 M2)) := by
  have R0 := hR.keep (gT M)
  have e0 := (gT M).all
  have a3 := hR.1.1.2.2.1
  have hT := hR.1.2.1.2.2.2.1
  have wb := rWhyOut_b (M 216) e
  refine QC.of qmX10_wouldArrive_ok rfl (TX10_wouldArrive_0 (k_hasDrum hR he (fun a => ⟨fun z => absurd z (by decide), fun _ => ⟨(i32 (by omega) (by omega)), ?_⟩⟩) (fun a => ⟨fun _ => ?_, fun z => absurd rfl z⟩)))
  rotate_left
  · have w1 : rWhyOut (M 216) e = 1 := by rw [rWhyOut, if_pos a]
    refine QC.of qmX11_wouldArrive_ok rfl (TX11_wouldArrive_0 ⟨he, m_whyOut (by rw [e0]; exact hR.1.1) (by rw [e0]; exact hR.1.2.1) he.to64 ?_⟩)
    rw [e0, w1]
    exact ⟨fun q => absurd q (by decide), fun _ => ⟨(i32 (by omega) (by omega)), fun _ => hp _ _ R0, fun q => absurd rfl q⟩⟩
  have wn : rWhyOut (M 216) e ≠ 1 := by
    rw [rWhyOut, if_neg (fun z => z a)]
    repeat' split
    all_goals decide
  refine c_trial hR.1 (fun M2 m1 K2 => c_tryOut (Or.inr rfl) K2 he (fun z M3 s1 s2 => ⟨fun _ => ?_, fun y => absurd rfl y⟩) (fun z => ⟨fun y => absurd y z, fun _ => ⟨(i32 (by omega) (by omega)), ?_⟩⟩))
  rotate_left
  · have g2 : gK M (qup M2 215 0 0) := (oK.gK m1).trans (gT M2)
    have e2 := g2.all
    refine QC.of qmX11_wouldArrive_ok rfl (TX11_wouldArrive_0 ⟨he, m_whyOut (by rw [e2]; exact hR.1.1) (by rw [e2]; exact hR.1.2.1) he.to64 ?_⟩)
    rw [e2]
    exact ⟨fun q => absurd q z, fun _ => ⟨(i32 (by omega) (by omega)), fun q => absurd q wn, fun _ => hp _ _ (hR.keep g2)⟩⟩
  obtain ⟨z1, z2, z3⟩ := rWhyOut_zero z
  have G := rOut_good hR.1.1 hR.1.2.1 z
  have K3 := K2.trial G (oK.sK s1) s2
  have v := rOut_v (A := M 216) (e := e) (show 0 ≤ M 216 330 ∧ M 216 330 < 8 by omega)
  have t6 : M3 37 6 = M 216 330 + 1 := by
    have : M3 37 6 = rOut (M 216) e 330 := s2.2.2.2.2.2.1
    rw [this, v.1]
  rw [t6, show M 216 330 + 1 - 1 = M 216 330 by omega]
  refine c_hoursTillIn K3 (by rw [v.1]; omega) (fun M4 m4 => ?_)
  have g3 : gK M (qup M4 215 0 0) := (((oK.gK m1).trans (oK.gK s1)).trans (oK.gK m4)).trans (gT M4)
  have e3 := g3.all
  refine QC.of qmX11_wouldArrive_ok rfl (TX11_wouldArrive_0 ⟨he, m_whyOut (by rw [e3]; exact hR.1.1) (by rw [e3]; exact hR.1.2.1) he.to64 ?_⟩)
  rw [e3]
  refine ⟨fun _ => m_keeps (fun Mb b1 b2 => ?_), fun q => absurd z q⟩
  have eb : Mb 216 = M 216 := (b1 216 (by omega)).trans e3
  refine m_setsOut (by rw [eb]; omega) (fun Mo o1 o2 => ?_)
  rw [eb] at o2
  rw [o2, v.1, show M 216 330 + 1 - 1 = M 216 330 by omega]
  refine m_arrivesIn (by rw [o2]; exact G.land hR.1.1) (by rw [o2]; exact G.1) (by rw [o2, v.1]; omega) (fun Mc c1 c2 => ?_)
  rw [o2] at c2 ⊢
  have c1' : ∀ a, a ≠ 216 → Mc a = Mb a := fun a ha => (c1 a ha).trans (o1 a ha)
  exact m_again (A := M 216) (by rw [c2]; exact G.trans (rTill_good 99 (G.land hR.1.1) G.1)) (fun j j0 j1 => by rw [c1' 222 (by omega), b2 j j0 j1, e3]) (fun Md d1 d2 => hp _ _ (hR.keep (g3.again e3 b1 c1' d1 d2)))
end Time70
