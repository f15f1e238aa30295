/-- the first hour from now on in which something is so; the state then -/
noncomputable def rFirst (p : (Int → Int) → Prop) : Nat → (Int → Int) → Int → Int := by
  classical
  exact fun f => Nat.rec (motive := fun _ => (Int → Int) → Int → Int) (fun _ _ => -1) (fun _ r A n => if p A then n else r (rHour A).1 (n + 1)) f
noncomputable def rTill (p : (Int → Int) → Prop) : Nat → (Int → Int) → (Int → Int) := by
  classical
  exact fun f => Nat.rec (motive := fun _ => (Int → Int) → (Int → Int)) (fun A => A) (fun _ r A => if p A then A else r (rHour A).1) f
theorem rFirst_yes {p : (Int → Int) → Prop} {f : Nat} {A : Int → Int} {n : Int} (h : p A) : rFirst p (f + 1) A n = n := if_pos h
theorem rFirst_no {p : (Int → Int) → Prop} {f : Nat} {A : Int → Int} {n : Int} (h : ¬ p A) : rFirst p (f + 1) A n = rFirst p f (rHour A).1 (n + 1) := if_neg h
theorem rTill_yes {p : (Int → Int) → Prop} {f : Nat} {A : Int → Int} (h : p A) : rTill p (f + 1) A = A := if_pos h
theorem rTill_no {p : (Int → Int) → Prop} {f : Nat} {A : Int → Int} (h : ¬ p A) : rTill p (f + 1) A = rTill p f (rHour A).1 := if_neg h
theorem rTill_good {p : (Int → Int) → Prop} : ∀ (f : Nat) {A : Int → Int}, rLandOk A → rStOk A → rGood A (rTill p f A) := by
  intro f
  induction f with
  | zero => intro A hL hS; exact ⟨hS, fun _ _ => rfl⟩
  | succ f ih =>
    intro A hL hS
    by_cases h : p A
    · rw [rTill_yes h]; exact ⟨hS, fun _ _ => rfl⟩
    · rw [rTill_no h]
      have g := rHour_good hL hS
      exact g.trans (ih (g.land hL) g.1)
theorem rHour_T {A : Int → Int} (hL : rLandOk A) (hS : rStOk A) : (rHour A).1 330 = A 330 := (rHour_ok hL hS).2 330 (by omega) (by omega)
section Time69
variable {X : QX} {x : Int} {d : Nat} {post : Int → QMem → Prop} {M : QMem} {cont : Int → Int → QMem → Prop}
abbrev pIn (t : Int) : (Int → Int) → Prop := fun A => A (347 + t) = 1
theorem c_hoursTillIn_loop {t : Int} : ∀ (f : Nat) {A : Int → Int} {M : QMem} (n : Int), cOk A 37 M → 0 ≤ t ∧ t < A 330 → 0 ≤ n → n + f = 100 → (∀ M1, oK 37 M M1 → post (rFirst (pIn t) f A n) M1) → QRm X x (d + 4) qmX10_hoursTillIn post 2 [(0, (2, 0)), (1, (0, t)), (2, (0, n))] [] M := by
  intro f
  induction f with
  | zero => intro A M n h ht n0 nf hp; exact TX10_hoursTillIn_2 ⟨(i32 (by omega) (by omega)), fun _ => hp M (fun _ _ => rfl), fun z => absurd (show 99 < n by omega) z⟩
  | succ f ih =>
    intro A M n h ht n0 nf hp
    refine TX10_hoursTillIn_2 ⟨(i32 (by omega) (by omega)), fun z => absurd z (by omega), fun _ => c_hasArrived (Or.inr rfl) h.2.1.2.2.2 h.2.2.2 ht (fun z => ⟨fun y => absurd y (by decide), fun _ => ⟨(i32 (by omega) (by omega)), ?_⟩⟩) (fun z => ⟨fun _ => ?_, fun y => absurd rfl y⟩)⟩
    · have := hp M (fun _ _ => rfl)
      rw [rFirst_yes z] at this; exact this
    · have g := rHour_good h.1 h.2.1
      refine c_passHour (Or.inr rfl) h.1 h.2.1 h.2.2.2 (fun M1 m1 m2 => ih (n + 1) (h.trial g (oK.sK m1) m2) (by rw [rHour_T h.1 h.2.1]; exact ht) (by omega) (by omega) (fun M2 n1 => ?_))
      have := hp M2 (fun a ha => (n1 a ha).trans (m1 a ha))
      rw [rFirst_no (show ¬ pIn t A by show ¬ A (347 + t) = 1; omega)] at this; exact this
theorem c_hoursTillIn {A : Int → Int} {t : Int} (h : cOk A 37 M) (ht : 0 ≤ t ∧ t < A 330) (hp : ∀ M1, oK 37 M M1 → post (rFirst (pIn t) 100 A 0) M1) : QCm X x (d + 4) 1 yX10_hoursTillIn [(2, 0), (0, t)] M post :=
  QC.of qmX10_hoursTillIn_ok rfl (TX10_hoursTillIn_0 (c_hoursTillIn_loop 100 0 h ht (by omega) (by omega) hp))
theorem m_arrivesIn_loop {t : Int} : ∀ (f : Nat) {M : QMem} (n : Int), rLandOk (M 216) → rStOk (M 216) → 0 ≤ t ∧ t < M 216 330 → 0 ≤ n → n + f = 99 → (∀ M1, (∀ a, a ≠ 216 → M1 a = M a) → M1 216 = rTill (pIn t) f (M 216) → post (rFirst (pIn t) (f + 1) (M 216) n) M1) → QRm X x (d + 4) qmX11_arrivesIn post 2 [(0, (2, 215)), (1, (0, t)), (2, (0, n))] [] M := by
  intro f
  induction f with
  | zero =>
    intro M n hL hS ht n0 nf hp
    have hT := hS.2.2.2.1
    have g := hS.2.2.2.2.1 t ht.1 ht.2
    have := hp M (fun _ _ => rfl) rfl
    refine TX11_arrivesIn_2 ⟨(i32 (by omega) (by omega)), fun z => absurd z (by omega), fun _ => ⟨(by omega), (by omega), fun z => ?_, fun z => ⟨(i32 (by omega) (by omega)), fun _ => TX11_arrivesIn_2 ⟨(i32 (by omega) (by omega)), fun _ => ?_, fun y => absurd (show 99 < n + 1 by omega) y⟩, fun y => absurd (show 99 ≤ n by omega) y⟩⟩⟩
    · rw [rFirst_yes z] at this; exact this
    · rw [rFirst_no z] at this; exact this
  | succ f ih =>
    intro M n hL hS ht n0 nf hp
    have hT := hS.2.2.2.1
    have g := hS.2.2.2.2.1 t ht.1 ht.2
    refine TX11_arrivesIn_2 ⟨(i32 (by omega) (by omega)), fun z => absurd z (by omega), fun _ => ⟨(by omega), (by omega), fun z => ?_, fun z => ⟨(i32 (by omega) (by omega)), fun y => absurd y (by omega), fun _ => ?_⟩⟩⟩
    · have := hp M (fun _ _ => rfl) (rTill_yes z).symm
      rw [rFirst_yes z] at this; exact this
    · have G := rHour_good hL hS
      refine m_goesHour hL hS (fun M1 m1 m2 => ih (n + 1) (by rw [m2]; exact G.land hL) (by rw [m2]; exact G.1) (by rw [m2, rHour_T hL hS]; exact ht) (by omega) (by omega) (fun M2 n1 n2 => ?_))
      rw [m2] at n2 ⊢
      have := hp M2 (fun a ha => (n1 a ha).trans (m1 a ha)) (by rw [rTill_no z]; exact n2)
      rw [rFirst_no z] at this; exact this
theorem m_arrivesIn {t : Int} (hL : rLandOk (M 216)) (hS : rStOk (M 216)) (ht : 0 ≤ t ∧ t < M 216 330) (hp : ∀ M1, (∀ a, a ≠ 216 → M1 a = M a) → M1 216 = rTill (pIn t) 99 (M 216) → post (rFirst (pIn t) 100 (M 216) 0) M1) : QCm X x (d + 4) 1 yX11_arrivesIn [(2, 215), (0, t)] M post :=
  QC.of qmX11_arrivesIn_ok rfl (TX11_arrivesIn_0 (m_arrivesIn_loop 99 0 hL hS ht (by omega) (by omega) hp))
/-- kept and brought again -/
theorem gK.again {A : Int → Int} {M0 Ma Mb Mc Md : QMem} (g : gK M0 Ma) (ea : Ma 216 = A) (b1 : ∀ a, a ≠ 222 → Mb a = Ma a) (c1 : ∀ a, a ≠ 216 → Mc a = Mb a) (d1 : ∀ a, a ≠ 216 → Md a = Mc a) (d2 : Md 216 = A) : gK M0 Md := by
  refine g.trans (gK.of_rows (fun a q1 q2 q3 => ?_))
  by_cases z : a = 216
  · rw [z, d2, ea]
  · rw [d1 a z, c1 a z, b1 a (by omega)]
theorem rel_arrives (hR : Rel M) {t : Int} (hk : in32 t) (hp : ∀ v M3, Rel M3 → cont v v M3) : QCm X x (d + 8) 1 yX10_arrives [(2, 0), (0, t)] M (fun x1 M1 => QCm X x (d + 8) 1 yX11_arrives [(2, 215), (0, t)] M1 (fun x2 M2 => cont x1 x2 M2)) := by
  have R0 := hR.keep (gT M)
  have e0 := (gT M).all
  have hT := hR.1.2.1.2.2.2.1
  refine QC.of qmX10_arrives_ok rfl (TX10_arrives_0 (c_hasTraveller (Or.inl rfl) hR.1.2.1.2.2.2 hR.1.2.2.2 hk (fun a => ⟨fun z => absurd z (by decide), fun _ => ⟨(i32 (by omega) (by omega)), ?_⟩⟩) (fun a => ⟨fun _ => ?_, fun z => absurd rfl z⟩)))
  rotate_left
  · exact QC.of qmX11_arrives_ok rfl (TX11_arrives_0 ⟨hk, m_isGoer hk.to64 (by rw [e0]; exact hT) (fun y => absurd (by rw [e0] at y; exact y) a) (fun _ => ⟨fun _ => hp _ _ R0, fun z => absurd rfl z⟩)⟩)
  refine c_trial hR.1 (fun M2 m1 K2 => c_hoursTillIn K2 a (fun M3 m3 => ?_))
  have g3 : gK M (qup M3 215 0 0) := ((oK.gK m1).trans (oK.gK m3)).trans (gT M3)
  have e3 := g3.all
  refine QC.of qmX11_arrives_ok rfl (TX11_arrives_0 ⟨hk, m_isGoer hk.to64 (by rw [e3]; exact hT) (fun _ => ⟨fun z => absurd z (by decide), fun _ => ⟨(i32 (by omega) (by omega)), m_keeps (fun Mb b1 b2 => ?_)⟩⟩) (fun q => absurd (by rw [e3]; exact a) q)⟩)
  have eb : Mb 216 = M 216 := (b1 216 (by omega)).trans e3
  refine m_arrivesIn (by rw [eb]; exact hR.1.1) (by rw [eb]; exact hR.1.2.1) (by rw [eb]; exact a) (fun Mc c1 c2 => ?_)
  rw [eb] at c2 ⊢
  exact m_again (A := M 216) (by rw [c2]; exact rTill_good 99 hR.1.1 hR.1.2.1) (fun j j0 j1 => by rw [c1 222 (by omega), b2 j j0 j1, e3]) (fun Md d1 d2 => hp _ _ (hR.keep (g3.again e3 b1 c1 d1 d2)))
theorem c_waits_loop {t W : Int} : ∀ (f : Nat) {A : Int → Int} {M : QMem} (n : Int), cOk A 37 M → 0 ≤ t ∧ t < A 330 → M 36 t = W → 0 ≤ n → n + f = 99 → (∀ M1, oK 37 M M1 → post (rTill (pIn t) f A (355 + t) - W) M1) → QRm X x (d + 4) qmX10_waits post 27 [(0, (2, 0)), (1, (0, t)), (2, (0, n))] [] M := by
  intro f
  induction f with
  | zero =>
    intro A M n h ht hW n0 nf hp
    have hT := h.2.1.2.2.2.1
    have hq := h.2.2.2.2.2.2.2.1 t ht.1 ht.2
    have w9 : M 46 t = A (355 + t) := hq.2.2
    have := hp M (fun _ _ => rfl)
    refine TX10_waits_27 ⟨(i32 (by omega) (by omega)), fun _ => ⟨(by omega), (by omega), ?_⟩, fun z => absurd (show 99 ≤ n by omega) z⟩
    rw [w9, hW]; exact this
  | succ f ih =>
    intro A M n h ht hW n0 nf hp
    have hT := h.2.1.2.2.2.1
    have hq := h.2.2.2.2.2.2.2.1 t ht.1 ht.2
    have w9 : M 46 t = A (355 + t) := hq.2.2
    refine TX10_waits_27 ⟨(i32 (by omega) (by omega)), fun z => absurd z (by omega), fun _ => c_hasArrived (Or.inr rfl) h.2.1.2.2.2 h.2.2.2 ht (fun z => ⟨fun y => absurd y (by decide), fun _ => ⟨(i32 (by omega) (by omega)), (by omega), (by omega), ?_⟩⟩) (fun z => ⟨fun _ => ?_, fun y => absurd rfl y⟩)⟩
    · have := hp M (fun _ _ => rfl)
      rw [rTill_yes z] at this
      rw [w9, hW]; exact this
    · have g := rHour_good h.1 h.2.1
      refine c_passHour (Or.inr rfl) h.1 h.2.1 h.2.2.2 (fun M1 m1 m2 => ih (n + 1) (h.trial g (oK.sK m1) m2) (by rw [rHour_T h.1 h.2.1]; exact ht) (by rw [m1 36 (by omega)]; exact hW) (by omega) (by omega) (fun M2 n1 => ?_))
      have := hp M2 (fun a ha => (n1 a ha).trans (m1 a ha))
      rw [rTill_no (show ¬ pIn t A by show ¬ A (347 + t) = 1; omega)] at this; exact this
theorem rel_waits (hR : Rel M) {t : Int} (hk : in32 t) (hp : ∀ v M3, Rel M3 → cont v v M3) : QCm X x (d + 8) 1 yX10_waits [(2, 0), (0, t)] M (fun x1 M1 => QCm X x (d + 8) 1 yX11_waits [(2, 215), (0, t)] M1 (fun x2 M2 => cont x1 x2 M2)) := by
  have R0 := hR.keep (gT M)
  have e0 := (gT M).all
  have hT := hR.1.2.1.2.2.2.1
  refine QC.of qmX10_waits_ok rfl (TX10_waits_0 (c_hasTraveller (Or.inl rfl) hR.1.2.1.2.2.2 hR.1.2.2.2 hk (fun a => ⟨fun z => absurd z (by decide), fun _ => ⟨(i32 (by omega) (by omega)), ?_⟩⟩) (fun a => ⟨fun _ => ?_, fun z => absurd rfl z⟩)))
  rotate_left
  · exact QC.of qmX11_waits_ok rfl (TX11_waits_0 ⟨hk, m_isGoer hk.to64 (by rw [e0]; exact hT) (fun y => absurd (by rw [e0] at y; exact y) a) (fun _ => ⟨fun _ => hp _ _ R0, fun z => absurd rfl z⟩)⟩)
  have w0 : M 36 t = M 216 (355 + t) := (hR.1.2.2.2.2.2.2.2.1 t a.1 a.2).2.2
  refine c_trial hR.1 (fun M2 m1 K2 => c_waits_loop (d := d + 4) (W := M 216 (355 + t)) 99 0 K2 a (by rw [m1 36 (by omega)]; exact w0) (by omega) (by omega) (fun M3 m3 => ?_))
  have g3 : gK M (qup M3 215 0 0) := ((oK.gK m1).trans (oK.gK m3)).trans (gT M3)
  have e3 := g3.all
  refine QC.of qmX11_waits_ok rfl (TX11_waits_0 ⟨hk, m_isGoer hk.to64 (by rw [e3]; exact hT) (fun _ => ⟨fun z => absurd z (by decide), fun _ => ⟨(i32 (by omega) (by omega)), (by omega), (by omega), m_keeps (fun Mb b1 b2 => ?_)⟩⟩) (fun q => absurd (by rw [e3]; exact a) q)⟩)
  have eb : Mb 216 = M 216 := (b1 216 (by omega)).trans e3
  refine m_arrivesIn (by rw [eb]; exact hR.1.1) (by rw [eb]; exact hR.1.2.1) (by rw [eb]; exact a) (fun Mc c1 c2 => ?_)
  rw [eb] at c2
  rw [c2, e3]
  exact m_again (A := M 216) (by rw [c2]; exact rTill_good 99 hR.1.1 hR.1.2.1) (fun j j0 j1 => by rw [c1 222 (by omega), b2 j j0 j1, e3]) (fun Md d1 d2 => hp _ _ (hR.keep (g3.again e3 b1 c1 d1 d2)))
theorem c_onTheWay {A : Int → Int} {b : Int} (hb : b = 27 ∨ b = 37) (hG : rGo A) (hC : cSt A b M) (hp : post (rCnt (fun t => A (347 + t) = 0) (A 330).toNat) M) : QCm X x d 1 yX6_onTheWay [(2, b)] M post := by
  have hT := hG.1
  have h6 : M b 6 = A 330 := hC.2.2.2.2.2.1
  have key : ∀ i : Int, 0 ≤ i ∧ i ≤ A 330 → QRm X x d qmX6_onTheWay post 4 [(0, (2, b)), (1, (0, rCnt (fun t => A (347 + t) = 0) i.toNat)), (2, (0, i))] [] M := by
    refine int_up (A 330) (fun i hi g => ?_) (fun i hi ih g => ?_)
    · refine TX6_onTheWay_4 hb ?_
      rw [h6]
      refine ⟨(i32 (by omega) (by omega)), (i32 (by omega) (by omega)), fun _ => ?_, fun z => absurd hi (by omega)⟩
      rw [show i = A 330 by omega]; exact hp
    · have gg := hG.2.1 i g.1 hi
      have hq := hC.2.2.2.2.1 i g.1 hi
      have ei : ((i.toNat : Nat) : Int) = i := by omega
      have := ih ⟨(by omega), (by omega)⟩
      rw [show (i + 1).toNat = i.toNat + 1 by omega] at this
      refine TX6_onTheWay_4 hb ?_
      rw [h6, hq.2.1]
      refine ⟨(i32 (by omega) (by omega)), (i32 (by omega) (by omega)), fun z => absurd hi (by omega), fun _ => ⟨(by omega), (by omega), fun z => ?_, fun z => ⟨by split <;> exact (i32 (by omega) (by omega)), ?_⟩⟩⟩
      · have n0 : ¬ A (347 + i) = 0 := by
          intro y; rw [if_neg (by omega)] at z; omega
        rw [rCnt_no (by rw [ei]; exact n0)] at this
        rw [Int.add_zero]; exact this
      · have n0 : A (347 + i) = 0 := by
          rcases gg.2.1 with y | y
          · exact y
          · rw [if_pos y] at z; exact absurd rfl z
        rw [rCnt_yes (by rw [ei]; exact n0)] at this
        exact this
  exact QC.of qmX6_onTheWay_ok rfl (TX6_onTheWay_0 hb (key 0 ⟨(by omega), (by omega)⟩))
theorem rCnt_zero_iff {p : Int → Prop} : ∀ {n : Nat}, rCnt p n = 0 ↔ ∀ i : Nat, i < n → ¬ p i := by
  intro n
  induction n with
  | zero => exact ⟨fun _ i hi => absurd hi (by omega), fun _ => rfl⟩
  | succ n ih =>
    have b := rCnt_b p n
    by_cases h : p n
    · rw [rCnt_yes h]
      exact ⟨fun z => absurd z (by omega), fun z => absurd h (z n (by omega))⟩
    · rw [rCnt_no h, ih]
      refine ⟨fun z i hi => ?_, fun z i hi => z i (by omega)⟩
      by_cases y : i = n
      · rw [y]; exact h
      · exact z i (by omega)
abbrev pAll : (Int → Int) → Prop := fun A => ∀ t, 0 ≤ t → t < A 330 → A (347 + t) ≠ 0
theorem pAll_iff {A : Int → Int} : rCnt (fun t => A (347 + t) = 0) (A 330).toNat = 0 ↔ pAll A := by
  rw [rCnt_zero_iff]
  refine ⟨fun h t t0 t1 => ?_, fun h i hi => h i (by omega) (by omega)⟩
  have := h t.toNat (by omega)
  rw [show ((t.toNat : Nat) : Int) = t by omega] at this; exact this
theorem c_allIn_loop : ∀ (f : Nat) {A : Int → Int} {M : QMem} (n : Int), cOk A 37 M → 0 ≤ n → n + f = 100 → (∀ M1, oK 37 M M1 → post (rFirst pAll f A n) M1) → QRm X x (d + 4) qmX10_allIn post 13 [(0, (2, 0)), (1, (0, n))] [] M := by
  intro f
  induction f with
  | zero => intro A M n h n0 nf hp; exact TX10_allIn_13 ⟨(i32 (by omega) (by omega)), fun _ => hp M (fun _ _ => rfl), fun z => absurd (show 99 < n by omega) z⟩
  | succ f ih =>
    intro A M n h n0 nf hp
    have cb := rCnt_b (fun t => A (347 + t) = 0) (A 330).toNat
    have hT := h.2.1.2.2.2.1
    refine TX10_allIn_13 ⟨(i32 (by omega) (by omega)), fun z => absurd z (by omega), fun _ => c_onTheWay (Or.inr rfl) h.2.1.2.2.2 h.2.2.2 ⟨fun z => ?_, fun z => ⟨(i32 (by omega) (by omega)), ?_⟩⟩⟩
    · have := hp M (fun _ _ => rfl)
      rw [rFirst_yes (pAll_iff.1 z)] at this; exact this
    · have g := rHour_good h.1 h.2.1
      refine c_passHour (Or.inr rfl) h.1 h.2.1 h.2.2.2 (fun M1 m1 m2 => ih (n + 1) (h.trial g (oK.sK m1) m2) (by omega) (by omega) (fun M2 n1 => ?_))
      have := hp M2 (fun a ha => (n1 a ha).trans (m1 a ha))
      rw [rFirst_no (fun y => z (pAll_iff.2 y))] at this; exact this
theorem m_isAllIn (hS : rStOk (M 216)) (ht : pAll (M 216) → post 1 M) (hf : ¬ pAll (M 216) → post 0 M) : QCm X x d 1 yX11_isAllIn [(2, 215)] M post := by
  have hT := hS.2.2.2.1
  have key : ∀ i : Int, 0 ≤ i ∧ i ≤ M 216 330 ∧ (∀ t, 0 ≤ t → t < i → M 216 (347 + t) ≠ 0) → QRm X x d qmX11_isAllIn post 2 [(0, (2, 215)), (1, (0, i))] [] M := by
    refine int_up (M 216 330) (fun i hi g => ?_) (fun i hi ih g => ?_)
    · exact TX11_isAllIn_2 ⟨(i32 (by omega) (by omega)), (i32 (by omega) (by omega)), fun _ => ht (fun t t0 t1 => g.2.2 t t0 (by omega)), fun z => absurd hi (by omega)⟩
    · have gg := hS.2.2.2.2.1 i g.1 hi
      refine TX11_isAllIn_2 ⟨(i32 (by omega) (by omega)), (i32 (by omega) (by omega)), fun z => absurd hi (by omega), fun _ => ⟨(by omega), (by omega), fun z => hf (fun y => y i g.1 hi z), fun z => ⟨(i32 (by omega) (by omega)), ih ⟨(by omega), (by omega), fun t t0 t1 => ?_⟩⟩⟩⟩
      by_cases y : t = i
      · rw [y]; exact z
      · exact g.2.2 t t0 (by omega)
  exact QC.of qmX11_isAllIn_ok rfl (TX11_isAllIn_0 (key 0 ⟨(by omega), (by omega), fun t t0 t1 => (by omega)⟩))
/-- the reference looks on till its answer is found: V is that, or -1 -/
theorem m_allIn_loop {A0 : Int → Int} : ∀ (f : Nat) {M : QMem} (n V : Int), rLandOk (M 216) → rStOk (M 216) → rGood A0 (M 216) → 0 ≤ n → n + f = 100 → (V = -1 ∨ 0 ≤ V ∧ V ≤ 99) → (∀ M1, (∀ a, a ≠ 216 → M1 a = M a) → rGood A0 (M1 216) → QCm X x (d + 3) 0 yX11_isAgain [(2, 215)] M1 (fun _ M2 => post (if V = -1 then rFirst pAll f (M 216) n else V) M2)) → QRm X x (d + 4) qmX11_allIn post 13 [(0, (2, 215)), (1, (0, V)), (2, (0, n))] [] M := by
  intro f
  induction f with
  | zero =>
    intro M n V hL hS hG n0 nf hV hp
    refine TX11_allIn_13 ⟨(i32 (by omega) (by omega)), fun _ => ?_, fun z => absurd (show 99 < n by omega) z⟩
    have := hp M (fun _ _ => rfl) hG
    have e : (if V = -1 then rFirst pAll 0 (M 216) n else V) = V := by
      split
      · rename_i z; rw [z]; rfl
      · rfl
    rw [e] at this; exact this
  | succ f ih =>
    intro M n V hL hS hG n0 nf hV hp
    have G := rHour_good hL hS
    refine TX11_allIn_13 ⟨(i32 (by omega) (by omega)), fun z => absurd z (by omega), fun _ => ⟨fun z => m_isAllIn hS (fun y => ⟨fun q => absurd q (by decide), fun _ => ⟨(i32 (by omega) (by omega)), ?_⟩⟩) (fun y => ⟨fun _ => ?_, fun q => absurd rfl q⟩), fun z => ⟨(i32 (by omega) (by omega)), ?_⟩⟩⟩
    · refine m_goesHour hL hS (fun M1 m1 m2 => ih (n + 1) n (by rw [m2]; exact G.land hL) (by rw [m2]; exact G.1) (by rw [m2]; exact hG.trans G) (by omega) (by omega) (Or.inr (by omega)) (fun M2 n1 n2 => ?_))
      have := hp M2 (fun a ha => (n1 a ha).trans (m1 a ha)) n2
      rw [if_pos z, rFirst_yes y] at this
      rw [if_neg (by omega)]; exact this
    · refine m_goesHour hL hS (fun M1 m1 m2 => ih (n + 1) V (by rw [m2]; exact G.land hL) (by rw [m2]; exact G.1) (by rw [m2]; exact hG.trans G) (by omega) (by omega) hV (fun M2 n1 n2 => ?_))
      have := hp M2 (fun a ha => (n1 a ha).trans (m1 a ha)) n2
      rw [if_pos z, rFirst_no y] at this
      rw [if_pos z, m2]; exact this
    · have := hp M (fun _ _ => rfl) hG
      rw [if_neg z] at this; exact this
theorem rel_allIn (hR : Rel M) (hp : ∀ v M3, Rel M3 → cont v v M3) : QCm X x (d + 8) 1 yX10_allIn [(2, 0)] M (fun x1 M1 => QCm X x (d + 8) 1 yX11_allIn [(2, 215)] M1 (fun x2 M2 => cont x1 x2 M2)) := by
  refine QC.of qmX10_allIn_ok rfl (TX10_allIn_0 (c_trial hR.1 (fun M2 m1 K2 => c_allIn_loop (d := d + 4) 100 0 K2 (by omega) (by omega) (fun M3 m3 => ?_))))
  have g3 : gK M (qup M3 215 0 0) := ((oK.gK m1).trans (oK.gK m3)).trans (gT M3)
  have e3 := g3.all
  refine QC.of qmX11_allIn_ok rfl (TX11_allIn_0 (m_keeps (fun Mb b1 b2 => ?_)))
  have eb : Mb 216 = M 216 := (b1 216 (by omega)).trans e3
  refine m_allIn_loop (d := d + 4) (A0 := M 216) 100 0 (-1) (by rw [eb]; exact hR.1.1) (by rw [eb]; exact hR.1.2.1) (by rw [eb]; exact ⟨hR.1.2.1, fun _ _ => rfl⟩) (by omega) (by omega) (Or.inl rfl) (fun Mc c1 c2 => ?_)
  rw [if_pos rfl, eb]
  exact m_again (A := M 216) c2 (fun j j0 j1 => by rw [c1 222 (by omega), b2 j j0 j1, e3]) (fun Md d1 d2 => hp _ _ (hR.keep (g3.again e3 b1 c1 d1 d2)))
abbrev pFr (e : Int) : (Int → Int) → Prop := fun A => rWhyIn A e = 0
theorem c_free_loop {e : Int} (he : in32 e) : ∀ (f : Nat) {A : Int → Int} {M : QMem} (n : Int), cOk A 37 M → 0 ≤ n → n + f = 100 → (∀ M1, oK 37 M M1 → post (rFirst (pFr e) f A n) M1) → QRm X x (d + 4) qmX10_free post 43 [(0, (2, 0)), (1, (0, e)), (2, (0, n))] [] M := by
  intro f
  induction f with
  | zero => intro A M n h n0 nf hp; exact TX10_free_43 ⟨(i32 (by omega) (by omega)), fun _ => hp M (fun _ _ => rfl), fun z => absurd (show 99 < n by omega) z⟩
  | succ f ih =>
    intro A M n h n0 nf hp
    have cb := rWhyIn_b A e
    refine TX10_free_43 ⟨(i32 (by omega) (by omega)), fun z => absurd z (by omega), fun _ => c_whyNotIn (Or.inr rfl) h he ⟨fun z => ?_, fun z => ⟨(i32 (by omega) (by omega)), ?_⟩⟩⟩
    · have := hp M (fun _ _ => rfl)
      rw [rFirst_yes z] at this; exact this
    · have g := rHour_good h.1 h.2.1
      refine c_passHour (Or.inr rfl) h.1 h.2.1 h.2.2.2 (fun M1 m1 m2 => ih (n + 1) (h.trial g (oK.sK m1) m2) (by omega) (by omega) (fun M2 n1 => ?_))
      have := hp M2 (fun a ha => (n1 a ha).trans (m1 a ha))
      rw [rFirst_no z] at this; exact this
theorem m_free_loop {e : Int} (he : in32 e) {A0 : Int → Int} : ∀ (f : Nat) {M : QMem} (n V : Int), rLandOk (M 216) → rStOk (M 216) → rGood A0 (M 216) → 0 ≤ n → n + f = 100 → (V = -1 ∨ 0 ≤ V ∧ V ≤ 99) → (∀ M1, (∀ a, a ≠ 216 → M1 a = M a) → rGood A0 (M1 216) → QCm X x (d + 3) 0 yX11_isAgain [(2, 215)] M1 (fun _ M2 => post (if V = -1 then rFirst (pFr e) f (M 216) n else V) M2)) → QRm X x (d + 4) qmX11_free post 40 [(0, (2, 215)), (1, (0, e)), (2, (0, V)), (3, (0, n))] [] M := by
  intro f
  induction f with
  | zero =>
    intro M n V hL hS hG n0 nf hV hp
    refine TX11_free_40 ⟨(i32 (by omega) (by omega)), fun _ => ?_, fun z => absurd (show 99 < n by omega) z⟩
    have := hp M (fun _ _ => rfl) hG
    have e : (if V = -1 then rFirst (pFr e) 0 (M 216) n else V) = V := by
      split
      · rename_i z; rw [z]; rfl
      · rfl
    rw [e] at this; exact this
  | succ f ih =>
    intro M n V hL hS hG n0 nf hV hp
    have G := rHour_good hL hS
    have cb := rWhyIn_b (M 216) e
    refine TX11_free_40 ⟨(i32 (by omega) (by omega)), fun z => absurd z (by omega), fun _ => ⟨fun z => ⟨he, m_whyIn hL hS he.to64 ⟨fun y => ?_, fun y => ⟨(i32 (by omega) (by omega)), ?_⟩⟩⟩, fun z => ⟨(i32 (by omega) (by omega)), ?_⟩⟩⟩
    · refine m_goesHour hL hS (fun M1 m1 m2 => ih (n + 1) n (by rw [m2]; exact G.land hL) (by rw [m2]; exact G.1) (by rw [m2]; exact hG.trans G) (by omega) (by omega) (Or.inr (by omega)) (fun M2 n1 n2 => ?_))
      have := hp M2 (fun a ha => (n1 a ha).trans (m1 a ha)) n2
      rw [if_pos z, rFirst_yes y] at this
      rw [if_neg (by omega)]; exact this
    · refine m_goesHour hL hS (fun M1 m1 m2 => ih (n + 1) V (by rw [m2]; exact G.land hL) (by rw [m2]; exact G.1) (by rw [m2]; exact hG.trans G) (by omega) (by omega) hV (fun M2 n1 n2 => ?_))
      have := hp M2 (fun a ha => (n1 a ha).trans (m1 a ha)) n2
      rw [if_pos z, rFirst_no y] at this
      rw [if_pos z, m2]; exact this
    · have := hp M (fun _ _ => rfl) hG
      rw [if_neg z] at this; exact this
theorem rel_free (hR : Rel M) {e : Int} (he : in32 e) (hp : ∀ v M3, Rel M3 → cont v v M3) : QCm X x (d + 8) 1 yX10_free [(2, 0), (0, e)] M (fun x1 M1 => QCm X x (d + 8) 1 yX11_free [(2, 215), (0, e)] M1 (fun x2 M2 => cont x1 x2 M2)) := by
  have R0 := hR.keep (gT M)
  have e0 := (gT M).all
  have a3 := hR.1.1.2.2.1
  refine QC.of qmX10_free_ok rfl (TX10_free_0 (k_hasDrum hR he (fun a => ⟨fun z => absurd z (by decide), fun _ => ⟨(i32 (by omega) (by omega)), ?_⟩⟩) (fun a => ⟨fun _ => ?_, fun z => absurd rfl z⟩)))
  rotate_left
  · exact QC.of qmX11_free_ok rfl (TX11_free_0 ⟨he, n_isDrum R0 he (fun y => absurd (by rw [e0] at y; exact y) a) (fun _ => ⟨fun _ => hp _ _ R0, fun z => absurd rfl z⟩)⟩)
  have hl := hR.1.2.1.2.1.1 e a.1 (by omega)
  have l0 : M 28 e = M 216 (60 + e) := hR.1.2.2.2.1 e a.1 (by omega)
  rw [l0]
  refine ⟨(by omega), (by omega), (i32 (by omega) (by omega)), fun z => ?_, fun z => ?_⟩
  rotate_left
  · refine QC.of qmX11_free_ok rfl (TX11_free_0 ⟨he, n_isDrum R0 he (fun _ => ⟨fun q => absurd q (by decide), fun _ => ⟨(i32 (by omega) (by omega)), ?_⟩⟩) (fun q => absurd (by rw [e0]; exact a) q)⟩)
    rw [e0]
    exact ⟨(by omega), (by omega), fun _ => hp _ _ R0, fun q => absurd (show M 216 (60 + e) = 0 by omega) q⟩
  refine c_trial hR.1 (fun M2 m1 K2 => c_free_loop (d := d + 4) he 100 0 K2 (by omega) (by omega) (fun M3 m3 => ?_))
  have g3 : gK M (qup M3 215 0 0) := ((oK.gK m1).trans (oK.gK m3)).trans (gT M3)
  have e3 := g3.all
  have R3 := hR.keep g3
  refine QC.of qmX11_free_ok rfl (TX11_free_0 ⟨he, n_isDrum R3 he (fun _ => ⟨fun q => absurd q (by decide), fun _ => ⟨(i32 (by omega) (by omega)), ?_⟩⟩) (fun q => absurd (by rw [e3]; exact a) q)⟩)
  rw [e3]
  refine ⟨(by omega), (by omega), fun q => absurd q (by omega), fun _ => ⟨(i32 (by omega) (by omega)), m_keeps (fun Mb b1 b2 => ?_)⟩⟩
  have eb : Mb 216 = M 216 := (b1 216 (by omega)).trans e3
  refine m_free_loop (d := d + 4) he (A0 := M 216) 100 0 (-1) (by rw [eb]; exact hR.1.1) (by rw [eb]; exact hR.1.2.1) (by rw [eb]; exact ⟨hR.1.2.1, fun _ _ => rfl⟩) (by omega) (by omega) (Or.inl rfl) (fun Mc c1 c2 => ?_)
  rw [if_pos rfl, eb]
  exact m_again (A := M 216) c2 (fun j j0 j1 => by rw [c1 222 (by omega), b2 j j0 j1, e3]) (fun Md d1 d2 => hp _ _ (hR.keep (g3.again e3 b1 c1 d1 d2)))
end Time69
