/-- the ribbons of a crossing change places -/
def rTurn (A : Int → Int) (k : Int) : Int → Int := fun j => if j = 258 + k then A (294 + k) else if j = 294 + k then A (258 + k) else A j
theorem rTurn_at {A : Int → Int} {k j : Int} (h1 : j ≠ 258 + k) (h2 : j ≠ 294 + k) : rTurn A k j = A j := by
  unfold rTurn; rw [if_neg h1, if_neg h2]
theorem rTurn_good {A : Int → Int} {k : Int} (hL : rLandOk A) (hS : rStOk A) (hk : 0 ≤ k ∧ k < A 1 * A 2) (h2 : rLie A k = 2) : rGood A (rTurn A k) := by
  have hcl := hL.cells
  have a3 := hL.2.2.1
  have r := fun (j : Int) (hj : j < 258 ∨ 330 ≤ j) => rTurn_at (A := A) (k := k) (j := j) (by omega) (by omega)
  obtain ⟨hw, ⟨hr1, hr2, hr3, hr4, hr5⟩, hcel, hg1, hg2, hg3⟩ := hS
  have kc := hcel k hk.1 (by omega)
  have nz : A (294 + k) ≠ -1 ∧ A (258 + k) ≠ -1 := by
    rw [rLie] at h2
    split at h2
    · omega
    · split at h2
      · omega
      · rename_i z y; exact ⟨z, y⟩
  have up : ∀ q, 0 ≤ q → q < 36 → rTurn A k (294 + q) = if q = k then A (258 + k) else A (294 + q) := fun q q0 q1 => by
    unfold rTurn; rw [if_neg (by omega)]
    by_cases z : q = k
    · rw [if_pos (by omega), if_pos z]
    · rw [if_neg (by omega), if_neg z]
  have lo : ∀ q, 0 ≤ q → q < 36 → rTurn A k (258 + q) = if q = k then A (294 + k) else A (258 + q) := fun q q0 q1 => by
    unfold rTurn
    by_cases z : q = k
    · rw [if_pos (by omega), if_pos z]
    · rw [if_neg (by omega), if_neg (by omega), if_neg z]
  refine ⟨⟨by rw [r 52 (by omega)]; exact hw, ⟨fun f f0 f1 => by rw [r (60 + f) (by omega)]; exact hr1 f f0 f1, fun f f0 f1 => ?_, fun i i0 i1 => by rw [r (66 + i) (by omega), r (162 + i) (by omega), r 1 (by omega), r 2 (by omega)]; exact hr3 i i0 i1, fun f i f0 f1 i0 i1 => ?_, fun f i j f0 f1 i0 ij j1 => ?_⟩, fun q q0 q1 => ?_, by rw [r 330 (by omega)]; exact hg1, fun t t0 t1 => ?_, fun t u t0 tu u1 q => ?_⟩, fun j hj => r j (by omega)⟩
  · rw [r 3 (by omega)] at f1
    have hlf := hr1 f f0 (by omega)
    rw [r (54 + f) (by omega), rTook, r (60 + f) (by omega), rSum_congr (fun i hi => r _ (by omega))]; exact hr2 f f0 f1
  · rw [r (60 + f) (by omega)] at i1
    have hlf := hr1 f f0 (by omega)
    have rng := (hr3 (16 * f + i) (by omega) (by omega)).1
    rw [← Int.add_assoc] at rng
    have o := hr4 f i f0 f1 i0 i1
    rw [r (66 + 16 * f + i) (by omega), up _ rng.1 (by omega), lo _ rng.1 (by omega)]
    by_cases z : A (66 + 16 * f + i) = k
    · rw [if_pos z, if_pos z]; rw [z] at o; exact o.symm
    · rw [if_neg z, if_neg z]; exact o
  · rw [r (60 + f) (by omega)] at j1
    have hlf := hr1 f f0 (by omega)
    rw [r (66 + 16 * f + i) (by omega), r (66 + 16 * f + j) (by omega)]; exact hr5 f i j f0 f1 i0 ij j1
  · rw [up q q0 q1, lo q q0 q1, r 3 (by omega)]
    by_cases z : q = k
    · rw [if_pos z, if_pos z]
      have := kc.2.2 nz.2
      exact ⟨kc.2.1, kc.1, fun _ => ⟨nz.2, fun y => this.2 y.symm⟩⟩
    · rw [if_neg z, if_neg z]; exact hcel q q0 q1
  · rw [r 330 (by omega)] at t1
    have g := hg2 t t0 t1
    rw [r (331 + t) (by omega), r (347 + t) (by omega), r (339 + t) (by omega), r 3 (by omega), r (60 + A (331 + t)) (by omega)]; exact g
  · rw [r 330 (by omega)] at u1
    have same : ∀ s, 0 ≤ s → s < A 330 → (rOn (rTurn A k) q s ↔ rOn A q s) := by
      intro s s0 s1
      have g := hg2 s s0 s1
      unfold rOn
      rw [r (331 + s) (by omega), r (347 + s) (by omega), r (339 + s) (by omega)]
      have ni : A (347 + s) = 0 → 0 ≤ A (339 + s) → rTurn A k (66 + 16 * A (331 + s) + A (339 + s)) = A (66 + 16 * A (331 + s) + A (339 + s)) := fun i0 i1 => r _ (by omega)
      exact ⟨fun h => ⟨h.1, h.2.1, (ni h.1 h.2.1).symm.trans h.2.2⟩, fun h => ⟨h.1, h.2.1, (ni h.1 h.2.1).trans h.2.2⟩⟩
    rw [same t t0 (by omega), same u (by omega) u1]
    exact hg3 t u t0 tu u1 q
section Deed61
variable {X : QX} {x : Int} {d : Nat} {post : Int → QMem → Prop} {M : QMem} {cont : Int → Int → QMem → Prop}
theorem rel_turn (hR : Rel M) {k : Int} (hk : in32 k) (hp : ∀ v M3, Rel M3 → cont v v M3) : QCm X x (d + 8) 1 yX10_turn [(2, 0), (0, k)] M (fun x1 M1 => QCm X x (d + 8) 1 yX11_turn [(2, 215), (0, k)] M1 (fun x2 M2 => cont x1 x2 M2)) := by
  have hn := hR.2.1.2.2.1
  have hN := hR.2.1.1
  have hs := hR.2.1.2.1
  have a3 := hR.1.1.2.2.1
  have hcl := hR.1.1.cells
  have g : gK M (qup M 215 0 0) := gK.thrown M (by decide)
  have e2 : (qup M 215 0 0) 216 = M 216 := g.all
  have hx := hR.1.2.2.1.1
  have ec : M 17 0 * M 17 1 = M 216 1 * M 216 2 := by rw [hx.1, hx.2.1]
  refine QC.of qmX10_turn_ok rfl (TX10_turn_0 (c_hasCell (Or.inl rfl) hk (by rw [ec]; omega) (fun a => ⟨fun z => absurd z (by decide), fun _ => ⟨(i32 (by omega) (by omega)), ?_⟩⟩) (fun a => ⟨fun _ => ?_, fun z => absurd rfl z⟩)))
  · rw [ec] at a
    have k36 : 0 ≤ k ∧ k < 36 := (by omega)
    have kc := hR.1.2.1.2.2.1 k k36.1 k36.2
    have hl := rLie_b (M 216) k
    refine c_lying (Or.inl rfl) hR.1.2.1 a3.2 hR.1.2.2.2 k36 ⟨(i32 (by omega) (by omega)), fun z => ?_, fun z => ?_⟩
    · have l2 : rLie (M 216) k = 2 := (by omega)
      have G := rTurn_good hR.1.1 hR.1.2.1 a l2
      refine c_keep hR.1 hn (by rw [hs]; exact hN) (fun M2 m1 m2 m3 m4 => ?_)
      have K2 := hR.1.kept hn m1
      have hu := K2.2.2.2.2.2.2.1 k k36.1 k36.2
      have u5 : M2 32 k = M 216 (294 + k) := hu.1
      have u6 : M2 33 k = M 216 (258 + k) := hu.2
      rw [u5, u6]
      refine ⟨(by omega), (by omega), ?_⟩
      have s2 : cSt (rTurn (M 216) k) 27 (qup (qup M2 33 k (M 216 (294 + k))) 32 k (M 216 (258 + k))) := by
        have r := fun (j : Int) (hj : j < 258 ∨ 330 ≤ j) => rTurn_at (A := M 216) (k := k) (j := j) (by omega) (by omega)
        have c := K2.2.2.2
        have hT := hR.1.2.1.2.2.2.1
        refine ⟨fun f f0 f1 => ?_, fun f f0 f1 => ?_, fun f i f0 f1 i0 i1 => ?_, fun q q0 q1 => ?_, fun t t0 t1 => ?_, ?_, ?_, ?_⟩
        · rw [qup_row (by decide), qup_row (by decide), r _ (by omega)]; exact c.1 f f0 f1
        · rw [r 3 (by omega)] at f1
          rw [qup_row (by decide), qup_row (by decide), r _ (by omega)]; exact c.2.1 f f0 f1
        · rw [r _ (by omega)] at i1
          have := hR.1.2.1.2.1.1 f f0 f1
          rw [qup_row (by decide), qup_row (by decide), qup_row (by decide), qup_row (by decide), r _ (by omega), r _ (by omega)]; exact c.2.2.1 f i f0 f1 i0 i1
        · have cq := c.2.2.2.1 q q0 q1
          show qup (qup M2 33 k (M 216 (294 + k))) 32 k (M 216 (258 + k)) 32 q = _ ∧ qup (qup M2 33 k (M 216 (294 + k))) 32 k (M 216 (258 + k)) 33 q = _
          rw [qup_at, qup_row (show (33 : Int) ≠ 32 by decide), qup_at, qup_row (show (32 : Int) ≠ 33 by decide)]
          unfold rTurn
          by_cases y : q = k
          · rw [if_pos y, if_pos y, if_neg (by omega), if_pos (by omega), if_pos (by omega)]; exact ⟨rfl, rfl⟩
          · rw [if_neg y, if_neg y, if_neg (by omega), if_neg (by omega), if_neg (by omega), if_neg (by omega)]; exact cq
        · rw [r 330 (by omega)] at t1
          rw [qup_row (by decide), qup_row (by decide), qup_row (by decide), qup_row (by decide), qup_row (by decide), qup_row (by decide), r _ (by omega), r _ (by omega), r _ (by omega), r _ (by omega)]; exact c.2.2.2.2.1 t t0 t1
        · rw [qup_row (by decide), qup_row (by decide), r _ (by omega)]; exact c.2.2.2.2.2.1
        · rw [qup_row (by decide), qup_row (by decide), r _ (by omega)]; exact c.2.2.2.2.2.2.1
        · rw [qup_row (by decide), qup_row (by decide), r _ (by omega)]; exact c.2.2.2.2.2.2.2
      generalize hM3 : qup (qup M2 33 k (M 216 (294 + k))) 32 k (M 216 (258 + k)) = M3 at s2 ⊢
      have s1 : sK 27 M2 M3 := fun a q _ _ _ _ => by rw [← hM3, qup_row (by omega), qup_row (by omega)]
      have D : dC (M 216) (rTurn (M 216) k) M M3 := dC.of hn m1 m2 m3 m4 s1 s2
      have e1 : M3 216 = M 216 := D.2.2.2.2 216 (by omega) (by omega) (by omega) (by omega) (by omega) (by omega) (by omega)
      have g : gK M3 (qup M3 215 0 0) := gK.thrown M3 (by decide)
      have e2 : (qup M3 215 0 0) 216 = M 216 := g.all.trans e1
      refine QC.of qmX11_turn_ok rfl (TX11_turn_0 ⟨hk, m_isCell hk.to64 (by rw [e2]; omega) (fun _ => ⟨fun z => absurd z (by decide), fun _ => ⟨(i32 (by omega) (by omega)), ?_⟩⟩) (fun y => absurd (by rw [e2]; exact a) y)⟩)
      refine m_lieOn k36 (by rw [e2]; exact (i32 (by omega) (by omega))) (by rw [e2]; exact (i32 (by omega) (by omega))) ?_
      rw [e2]
      refine ⟨(i32 (by omega) (by omega)), fun _ => m_keeps (fun Mb b1 b2 => ?_), fun y => absurd z y⟩
      have eb : Mb 216 = M 216 := (b1 216 (by omega)).trans e2
      rw [eb]
      refine ⟨(by omega), (by omega), (by omega), (by omega), ?_⟩
      have ec : (qup (qup Mb 216 (258 + k) (M 216 (294 + k))) 216 (294 + k) (M 216 (258 + k))) 216 = rTurn (M 216) k := by
        funext j
        rw [qup_at, qup_at, eb]
        unfold rTurn
        repeat' split
        all_goals first | rfl | (exfalso; omega)
      have c1 : rK Mb (qup (qup Mb 216 (258 + k) (M 216 (294 + k))) 216 (294 + k) (M 216 (258 + k))) := fun a a0 _ _ _ _ => by rw [qup_row a0, qup_row a0]
      generalize qup (qup Mb 216 (258 + k) (M 216 (294 + k))) 216 (294 + k) (M 216 (258 + k)) = Mc at ec c1 ⊢
      have n0 : Mc 216 363 = M 216 363 := by rw [ec]; exact G.2 363 (by omega)
      refine m_notes (by rw [n0]; exact hN) (fun Md d1 d2 => ?_)
      exact hp _ Md (hR.deed G D (dR.of g (dR_thrown (lK.refl _)) e1 b1 b2 c1 ec d1 d2))
    · refine QC.of qmX11_turn_ok rfl (TX11_turn_0 ⟨hk, m_isCell hk.to64 (by rw [e2]; omega) (fun _ => ⟨fun z => absurd z (by decide), fun _ => ⟨(i32 (by omega) (by omega)), ?_⟩⟩) (fun y => absurd (by rw [e2]; exact a) y)⟩)
      refine m_lieOn k36 (by rw [e2]; exact (i32 (by omega) (by omega))) (by rw [e2]; exact (i32 (by omega) (by omega))) ?_
      rw [e2]
      exact ⟨(i32 (by omega) (by omega)), fun y => absurd y z, fun _ => hp _ _ (hR.keep g)⟩
  · rw [ec] at a
    refine QC.of qmX11_turn_ok rfl (TX11_turn_0 ⟨hk, m_isCell hk.to64 (by rw [e2]; omega) (fun y => absurd (by rw [e2] at y; exact y) a) (fun _ => ⟨fun _ => hp _ _ (hR.keep g), fun z => absurd rfl z⟩)⟩)
theorem cSt.wet {A : Int → Int} {M : QMem} {n : Int} (c : cSt A 27 M) (h3 : A 3 ≤ 6) (hl : ∀ e, 0 ≤ e → e < 6 → 0 ≤ A (60 + e) ∧ A (60 + e) ≤ 16) (hT : A 330 ≤ 8) {b : Int} (hb : b = 27) : cSt (aup A 52 n) b (qup M b 10 n) := by
  subst hb
  have r := fun (j : Int) (hj : j ≠ 52) => aup_ne (A := A) (i := 52) (v := n) hj
  refine ⟨fun f f0 f1 => ?_, fun f f0 f1 => ?_, fun f i f0 f1 i0 i1 => ?_, fun q q0 q1 => ?_, fun t t0 t1 => ?_, ?_, ?_, ?_⟩
  · rw [qup_row (by decide), r _ (by omega)]; exact c.1 f f0 f1
  · rw [r 3 (by omega)] at f1
    rw [qup_row (by decide), r _ (by omega)]; exact c.2.1 f f0 f1
  · rw [r _ (by omega)] at i1
    rw [qup_row (by decide), qup_row (by decide), r _ (by omega), r _ (by omega)]; exact c.2.2.1 f i f0 f1 i0 i1
  · rw [qup_row (by decide), qup_row (by decide), r _ (by omega), r _ (by omega)]; exact c.2.2.2.1 q q0 q1
  · rw [r 330 (by omega)] at t1
    rw [qup_row (by decide), qup_row (by decide), qup_row (by decide), r _ (by omega), r _ (by omega), r _ (by omega), r _ (by omega)]; exact c.2.2.2.2.1 t t0 t1
  · rw [qup_at, if_neg (by decide), r _ (by omega)]; exact c.2.2.2.2.2.1
  · rw [qup_at, if_pos rfl, aup_self]
  · rw [qup_at, if_neg (by decide), r _ (by omega)]; exact c.2.2.2.2.2.2.2
theorem rel_rain (hR : Rel M) {n : Int} (hk : in32 n) (hp : ∀ v M3, Rel M3 → cont v v M3) : QCm X x (d + 8) 1 yX10_rain [(2, 0), (0, n)] M (fun x1 M1 => QCm X x (d + 8) 1 yX11_rain [(2, 215), (0, n)] M1 (fun x2 M2 => cont x1 x2 M2)) := by
  have hn := hR.2.1.2.2.1
  have hN := hR.2.1.1
  have hs := hR.2.1.2.1
  have a3 := hR.1.1.2.2.1
  have no : ¬ (0 ≤ n ∧ n ≤ 9) → QCm X x (d + 8) 1 yX11_rain [(2, 215), (0, n)] M (fun x2 M2 => cont (-3) x2 M2) := fun z =>
    QC.of qmX11_rain_ok rfl (TX11_rain_0 ⟨hk, m_within hk.to64 (i64 (by omega) (by omega)) (i64 (by omega) (by omega)) (fun y => absurd y z) (fun _ => ⟨fun _ => hp _ _ (hR.keep (gK.thrown M (by decide))), fun y => absurd rfl y⟩)⟩)
  refine QC.of qmX10_rain_ok rfl (TX10_rain_0 ⟨hk, fun z => no (by omega), fun z => ⟨fun y => ?_, fun y => no (by omega)⟩⟩)
  have G := rWet_good hR.1.1 hR.1.2.1 (show 0 ≤ n ∧ n ≤ 9 by omega)
  refine c_keep hR.1 hn (by rw [hs]; exact hN) (fun M2 m1 m2 m3 m4 => ?_)
  have K2 := hR.1.kept hn m1
  have w0 : M2 27 10 = M 216 52 := K2.2.2.2.2.2.2.2.2.2.1
  rw [w0]
  have s2 := K2.2.2.2.wet (n := n) a3.2 hR.1.2.1.2.1.1 hR.1.2.1.2.2.2.1.2 rfl
  have s1 : sK 27 M2 (qup M2 27 10 n) := fun a q _ _ _ _ => qup_row (by omega)
  generalize qup M2 27 10 n = M3 at s1 s2 ⊢
  have D : dC (M 216) (aup (M 216) 52 n) M M3 := dC.of hn m1 m2 m3 m4 s1 s2
  have e1 : M3 216 = M 216 := D.2.2.2.2 216 (by omega) (by omega) (by omega) (by omega) (by omega) (by omega) (by omega)
  have g : gK M3 (qup M3 215 0 0) := gK.thrown M3 (by decide)
  have e2 : (qup M3 215 0 0) 216 = M 216 := g.all.trans e1
  refine QC.of qmX11_rain_ok rfl (TX11_rain_0 ⟨hk, m_within hk.to64 (i64 (by omega) (by omega)) (i64 (by omega) (by omega)) (fun _ => ⟨fun z => absurd z (by decide), fun _ => ⟨(i32 (by omega) (by omega)), ?_⟩⟩) (fun q => absurd (by omega) q)⟩)
  refine m_keeps (fun Mb b1 b2 => ?_)
  have eb : Mb 216 = M 216 := (b1 216 (by omega)).trans e2
  have ec : (qup Mb 216 52 n) 216 = aup (M 216) 52 n := by rw [qup_aup, eb]
  have c1 : rK Mb (qup Mb 216 52 n) := fun a a0 _ _ _ _ => qup_row a0
  generalize qup Mb 216 52 n = Mc at ec c1 ⊢
  have n0 : Mc 216 363 = M 216 363 := by rw [ec]; exact G.2 363 (by omega)
  refine m_notes (by rw [n0]; exact hN) (fun Md d1 d2 => ?_)
  have w1 : Md 222 0 = M 216 52 := by rw [d1 222 (by decide), c1 222 (by omega) (by omega) (by omega) (by omega) (by omega), b2 0 (by omega) (by omega), e2]; rfl
  rw [w1]
  exact hp _ Md (hR.deed G D (dR.of g (dR_thrown (lK.refl _)) e1 b1 b2 c1 ec d1 d2))
/-- n hours go by -/
noncomputable def rHours : Nat → (Int → Int) → Int → (Int → Int) × Int
  | 0, A, c => (A, c)
  | n + 1, A, c => rHours n (rHour A).1 (c + (rHour A).2)
theorem rHours_good : ∀ (n : Nat) {A : Int → Int} (c : Int), rLandOk A → rStOk A → rGood A (rHours n A c).1 := by
  intro n
  induction n with
  | zero => intro A c hL hS; exact ⟨hS, fun _ _ => rfl⟩
  | succ n ih =>
    intro A c hL hS
    have g := rHour_good hL hS
    exact g.trans (ih _ (g.land hL) g.1)
theorem c_hours_loop {N : Int} (hN : 0 ≤ N ∧ N ≤ 48) : ∀ (n : Nat) {A : Int → Int} {M : QMem} (c i : Int), rLandOk A → rStOk A → cSt A 27 M → i + n = N → 0 ≤ i → (∀ M1, oK 27 M M1 → cSt (rHours n A c).1 27 M1 → post (rHours n A c).2 M1) → QRm X x (d + 4) qmX10_hours post 29 [(0, (2, 0)), (1, (0, N)), (2, (0, c)), (3, (0, i))] [] M := by
  intro n
  induction n with
  | zero => intro A M c i hL hS hC hi i0 hp; exact TX10_hours_29 ⟨(i32 (by omega) (by omega)), (i32 (by omega) (by omega)), fun _ => hp M (fun _ _ => rfl) hC, fun z => absurd (show N ≤ i by omega) z⟩
  | succ n ih =>
    intro A M c i hL hS hC hi i0 hp
    have g := rHour_good hL hS
    refine TX10_hours_29 ⟨(i32 (by omega) (by omega)), (i32 (by omega) (by omega)), fun z => absurd z (by omega), fun _ => c_passHour (Or.inl rfl) hL hS hC (fun M1 m1 m2 => ?_)⟩
    exact ih _ (i + 1) (g.land hL) g.1 m2 (by omega) (by omega) (fun M2 n1 n2 => hp M2 (fun a ha => (n1 a ha).trans (m1 a ha)) n2)
theorem m_hours_loop {N : Int} (hN : 0 ≤ N ∧ N ≤ 48) : ∀ (n : Nat) {M : QMem} (c i : Int), rLandOk (M 216) → rStOk (M 216) → i + n = N → 0 ≤ i → (∀ M1, (∀ a, a ≠ 216 → M1 a = M a) → M1 216 = (rHours n (M 216) c).1 → QCm X x (d + 3) 0 yX11_notes [(2, 215)] M1 (fun _ M2 => post (rHours n (M 216) c).2 M2)) → QRm X x (d + 4) qmX11_hours post 28 [(0, (2, 215)), (1, (0, N)), (2, (0, c)), (3, (0, i))] [] M := by
  intro n
  induction n with
  | zero => intro M c i hL hS hi i0 hp; exact TX11_hours_28 ⟨(i32 (by omega) (by omega)), (i32 (by omega) (by omega)), fun _ => hp M (fun _ _ => rfl) rfl, fun z => absurd (show N ≤ i by omega) z⟩
  | succ n ih =>
    intro M c i hL hS hi i0 hp
    have g := rHour_good hL hS
    refine TX11_hours_28 ⟨(i32 (by omega) (by omega)), (i32 (by omega) (by omega)), fun z => absurd z (by omega), fun _ => m_goesHour hL hS (fun M1 m1 m2 => ?_)⟩
    refine ih _ (i + 1) (by rw [m2]; exact g.land hL) (by rw [m2]; exact g.1) (by omega) (by omega) (fun M2 n1 n2 => ?_)
    rw [m2] at n2 ⊢
    exact hp M2 (fun a ha => (n1 a ha).trans (m1 a ha)) n2
theorem rel_hours (hR : Rel M) {n : Int} (hk : in32 n) (hp : ∀ v M3, Rel M3 → cont v v M3) : QCm X x (d + 8) 1 yX10_hours [(2, 0), (0, n)] M (fun x1 M1 => QCm X x (d + 8) 1 yX11_hours [(2, 215), (0, n)] M1 (fun x2 M2 => cont x1 x2 M2)) := by
  have hn := hR.2.1.2.2.1
  have hN := hR.2.1.1
  have hs := hR.2.1.2.1
  have no : ¬ (1 ≤ n ∧ n ≤ 48) → QCm X x (d + 8) 1 yX11_hours [(2, 215), (0, n)] M (fun x2 M2 => cont (-3) x2 M2) := fun z =>
    QC.of qmX11_hours_ok rfl (TX11_hours_0 ⟨hk, m_within hk.to64 (i64 (by omega) (by omega)) (i64 (by omega) (by omega)) (fun y => absurd y z) (fun _ => ⟨fun _ => hp _ _ (hR.keep (gK.thrown M (by decide))), fun y => absurd rfl y⟩)⟩)
  refine QC.of qmX10_hours_ok rfl (TX10_hours_0 ⟨hk, fun z => no (by omega), fun z => ⟨fun y => ?_, fun y => no (by omega)⟩⟩)
  have G := rHours_good n.toNat 0 hR.1.1 hR.1.2.1
  refine c_keep hR.1 hn (by rw [hs]; exact hN) (fun M2 m1 m2 m3 m4 => ?_)
  have K2 := hR.1.kept hn m1
  refine c_hours_loop (d := d + 4) (by omega) n.toNat 0 0 hR.1.1 hR.1.2.1 K2.2.2.2 (by omega) (by omega) (fun M3 s0 s2 => ?_)
  have D : dC (M 216) (rHours n.toNat (M 216) 0).1 M M3 := dC.of hn m1 m2 m3 m4 (oK.sK s0) s2
  have e1 : M3 216 = M 216 := D.2.2.2.2 216 (by omega) (by omega) (by omega) (by omega) (by omega) (by omega) (by omega)
  have g : gK M3 (qup M3 215 0 0) := gK.thrown M3 (by decide)
  have e2 : (qup M3 215 0 0) 216 = M 216 := g.all.trans e1
  refine QC.of qmX11_hours_ok rfl (TX11_hours_0 ⟨hk, m_within hk.to64 (i64 (by omega) (by omega)) (i64 (by omega) (by omega)) (fun _ => ⟨fun z => absurd z (by decide), fun _ => ⟨(i32 (by omega) (by omega)), ?_⟩⟩) (fun q => absurd (by omega) q)⟩)
  refine m_keeps (fun Mb b1 b2 => ?_)
  have eb : Mb 216 = M 216 := (b1 216 (by omega)).trans e2
  refine m_hours_loop (d := d + 4) (by omega) n.toNat 0 0 (by rw [eb]; exact hR.1.1) (by rw [eb]; exact hR.1.2.1) (by omega) (by omega) (fun Mc c0 ec => ?_)
  rw [eb] at ec ⊢
  have c1 : rK Mb Mc := fun a a0 _ _ _ _ => c0 a a0
  have n0 : Mc 216 363 = M 216 363 := by rw [ec]; exact G.2 363 (by omega)
  refine m_notes (by rw [n0]; exact hN) (fun Md d1 d2 => ?_)
  exact hp _ Md (hR.deed G D (dR.of g (dR_thrown (lK.refl _)) e1 b1 b2 c1 ec d1 d2))
end Deed61
