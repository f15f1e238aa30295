section Tell65
variable {X : QX} {x : Int} {d : Nat} {post : Int → QMem → Prop} {M : QMem} {cont : Int → Int → QMem → Prop}
theorem dR.of' {A B : Int → Int} {M2 Ma Mb Mc M3 : QMem} (g : gK M2 Ma) (gr : ∀ a, a ≠ 215 → a ≠ 220 → a ≠ 221 → a ≠ 23 → a ≠ 26 → Ma a = M2 a) (ea : M2 216 = A) (k1 : ∀ a, a ≠ 222 → Mb a = Ma a) (k2 : ∀ j, 0 ≤ j → j < 311 → Mb 222 j = Ma 216 (52 + j)) (o1 : tK Mb Mc) (o2 : Mc 216 = B) (n1 : ∀ a, a ≠ 216 → M3 a = Mc a) (n2 : M3 216 = rNote (Mc 216) (Mc 222)) : dR A B M2 M3 := by
  have e5 : ∀ j, j ≠ 19 → j ≠ 20 → M3 215 j = Ma 215 j := fun j j1 j2 => by rw [n1 215 (by omega), o1.2 j j1 j2, k1 215 (by omega)]
  refine ⟨⟨Mc 222, fun j j0 j1 => ?_, by rw [n2, o2]⟩, fun a a1 a2 a3 a4 a5 a6 a7 => ?_, ?_, ?_, ?_, ?_⟩
  · rw [o1.1 222 (by omega) (by omega) (by omega) (by omega) (by omega) (by omega), k2 j j0 j1, g.all, ea]
  · rw [n1 a a2, o1.1 a a1 a2 a3 a4 a6 a7, k1 a a5]; exact gr a a1 a3 a4 a6 a7
  · rw [e5 5 (by omega) (by omega)]; exact g.2.2.1
  · rw [e5 13 (by omega) (by omega)]; exact g.2.2.2.1
  · rw [e5 14 (by omega) (by omega)]; exact g.2.2.2.2.1
  · rw [e5 24 (by omega) (by omega)]; exact g.2.2.2.2.2
/-- what the trial became is taken over, if something was done -/
theorem c_takeOver {A B : Int → Int} (hR : Rel M) (hA : M 216 = A) (g : rGood A B) (hc : cSt B 37 M) {c : Int} (h4 : 0 ≤ c ∧ c ≤ 40) (h0 : c = 0 → post 0 M) (h1 : c ≠ 0 → ∀ M1, dC A B M M1 → post 0 M1) : QCm X x (d + 3) 0 yX10_takeOverTrial [(2, 0), (0, c)] M post := by
  subst hA
  have hn := hR.2.1.2.2.1
  have hN := hR.2.1.1
  have hs := hR.2.1.2.1
  have lB := g.land hR.1.1
  refine QC.of qmX10_takeOverTrial_ok rfl (TX10_takeOverTrial_0 ⟨(i32 (by omega) (by omega)), fun z => h0 (by omega), fun z => c_keep hR.1 hn (by rw [hs]; exact hN) (fun M2 m1 m2 m3 m4 => ?_)⟩)
  refine c_copyOf (Or.inr (Or.inl ⟨rfl, rfl⟩)) (hc.congr (fun a a0 a1 => m1 a (by omega) (by omega))) g.1.2.1.1 lB.2.2.1.2 g.1.2.2.2.1.2 (fun M3 s1 s2 => h1 (by omega) M3 (dC.of hn m1 m2 m3 m4 (oK.sK s1) s2))
theorem rel_perform (hR : Rel M) {t : Int} (ht : in32 t) (hp : ∀ v M3, Rel M3 → cont v v M3) : QCm X x (d + 8) 1 yX10_perform [(2, 0), (0, t)] M (fun x1 M1 => QCm X x (d + 8) 1 yX11_perform [(2, 215), (0, t)] M1 (fun x2 M2 => cont x1 x2 M2)) := by
  have a3 := hR.1.1.2.2.1
  have hTr := hR.2.2.2.2.1
  have g0 : ∀ {M M5}, gK M M5 → gK M (qup M5 215 0 0) := fun h => h.trans (gK.thrown _ (by decide))
  have R0 := hR.keep (g0 (gK.refl M))
  refine QC.of qmX10_perform_ok rfl (TX10_perform_0 (c_isTray ht (fun a => ⟨fun z => absurd z (by decide), fun _ => ⟨(i32 (by omega) (by omega)), ?_⟩⟩) (fun a => ⟨fun _ => ?_, fun z => absurd rfl z⟩)))
  rotate_left
  · exact QC.of qmX11_perform_ok rfl (TX11_perform_0 (m_noTray ht R0.2.2.2.2.1.b (fun _ => ⟨fun q => absurd q (by decide), fun _ => ⟨(i32 (by omega) (by omega)), hp _ _ R0⟩⟩) (fun q => absurd q a) (fun q => absurd q a)))
  have q := qS_tray x a
  rw [q.1]
  have r0 : ∀ a, a ≠ 215 → (qup M 215 0 0) a = M a := fun a ha => qup_row ha
  refine ⟨(by omega), (by omega), q.2.1, c_isMissing hTr a (fun m => ⟨fun z => absurd z (by decide), fun _ => ⟨(i32 (by omega) (by omega)), ?_⟩⟩) (fun m => ⟨fun _ => ?_, fun z => absurd rfl z⟩)⟩
  · exact QC.of qmX11_perform_ok rfl (TX11_perform_0 (m_noTray ht R0.2.2.2.2.1.b (fun q => absurd a q) (fun _ _ => ⟨fun q => absurd q (by decide), fun _ => ⟨(i32 (by omega) (by omega)), hp _ _ R0⟩⟩) (fun _ q => absurd (by rw [r0 228 (by decide)]; exact m) q)))
  obtain ⟨n4, nS, nW⟩ := hTr.w a m
  have tv := rTells_v (fun i => M 230 (40 * t + i)) (M 229 t).toNat (M 216) 0
  have tg := rTells_good (fun i => M 230 (40 * t + i)) (M 229 t).toNat 0 hR.1.1 hR.1.2.1
  have nn : (0 : Int) + ((M 229 t).toNat : Int) = M 229 t := by omega
  rw [nn] at tv
  refine c_trial hR.1 (fun M3 m1 K3 => ?_)
  refine c_followAll (d := d) q.2.2 n4.1 n4.2 (w := fun i => M 230 (40 * t + i)) (fun i i0 i1 => (nW i i0 i1).1) K3 (by rw [m1 _ (by omega)]; exact nS) (fun i i0 i1 => by rw [m1 _ (by omega)]; exact (nW i i0 i1).2) (fun M4 s1 s2 => ?_)
  have G4 : gK M M4 := (oK.gK m1).trans s1.gK
  have R4 := hR.keep G4
  have e4 := G4.all
  generalize hB : rTells (fun i => M 230 (40 * t + i)) (M 229 t).toNat (M 216) 0 = B at *
  -- the reference, up to its end
  have ref : ∀ (M5 : QMem), M5 216 = M 216 → (∀ a, 228 ≤ a → M5 a = M a) → (∀ Mb Mc, (∀ a, a ≠ 222 → Mb a = (qup M5 215 0 0) a) → (∀ j, 0 ≤ j → j < 311 → Mb 222 j = (qup M5 215 0 0) 216 (52 + j)) → tK Mb Mc → Mc 216 = B.1 → (B.2.1 ≤ 0 → cont B.2.1 B.2.1 Mc) ∧ (¬ B.2.1 ≤ 0 → QCm X x (d + 7) 0 yX11_notes [(2, 215)] Mc (fun _ M4 => cont B.2.1 B.2.1 M4))) → QCm X x (d + 8) 1 yX11_perform [(2, 215), (0, t)] M5 (fun x2 M2 => cont B.2.1 x2 M2) := by
    intro M5 h5 f5 hq
    have e2 : (qup M5 215 0 0) 216 = M 216 := (qup_row (by decide)).trans h5
    have e28 : (qup M5 215 0 0) 228 = M 228 := (qup_row (by decide)).trans (f5 228 (by omega))
    refine QC.of qmX11_perform_ok rfl (TX11_perform_0 (m_noTray ht (fun t t0 t1 => by rw [e28]; exact hTr.b t t0 t1) (fun q => absurd a q) (fun _ q => absurd (by rw [e28] at q; exact q) m) (fun _ _ => ⟨fun _ => ?_, fun q => absurd rfl q⟩)))
    refine m_keeps (fun Mb b1 b2 => ?_)
    have eb : Mb 216 = M 216 := (b1 216 (by omega)).trans e2
    refine m_tells (d := d + 2) a n4.1 n4.2 (w := fun i => M 230 (40 * t + i)) (fun i i0 i1 => (nW i i0 i1).1) (by rw [eb]; exact hR.1.1) (by rw [eb]; exact hR.1.2.1) (by rw [b1 229 (by decide), qup_row (by decide), f5 229 (by omega)]) (fun i i0 i1 => by rw [b1 230 (by decide), qup_row (by decide), f5 230 (by omega)]) (fun Mc c1 c2 c3 => ?_)
    rw [eb, hB] at c2 ⊢
    obtain ⟨p1, p2⟩ := hq Mb Mc b1 b2 c1 c2
    exact ⟨(i32 (by omega) (by omega)), p1, p2⟩
  refine c_takeOver R4 e4 tg s2 (by omega) (fun z => ?_) (fun z M5 D => ?_)
  · have eB := tv.2.2.2.2.2 z
    refine ref M4 e4 (fun a ha => G4.1 a (by omega) (by omega) (by omega)) (fun Mb Mc b1 b2 c1 c2 => ⟨fun _ => ?_, fun y => absurd (show B.2.1 ≤ 0 by omega) y⟩)
    have k1 : gK (qup M4 215 0 0) Mb := gK.of_rows (fun a q1 q2 q3 => b1 a (by omega))
    have eb : Mb 216 = M 216 := (b1 216 (by omega)).trans ((qup_row (by decide)).trans e4)
    exact hp _ _ (hR.keep (((g0 G4).trans k1).trans (c1.gK (by rw [c2, eB, eb]))))
  · have f5 : ∀ a, a = 216 ∨ 228 ≤ a → M5 a = M4 a := fun a ha => D.2.2.2.2 a (by omega) (by have := R4.2.1.2.2.1; omega) (by omega) (by omega) (by omega) (by omega) (by omega)
    have e5 : M5 216 = M 216 := (f5 216 (by omega)).trans e4
    refine ref M5 e5 (fun a ha => (f5 a (by omega)).trans (G4.1 a (by omega) (by omega) (by omega))) (fun Mb Mc b1 b2 c1 c2 => ⟨fun y => absurd y (by omega), fun _ => ?_⟩)
    have n0 : Mc 216 363 = M 216 363 := by rw [c2]; exact tg.2 363 (by omega)
    have hN := hR.2.1.1
    refine m_notes (by rw [n0]; exact hN) (fun Md d1 d2 => ?_)
    have g5 : gK M5 (qup M5 215 0 0) := gK.thrown M5 (by decide)
    have DR : dR (M4 216) B.1 M5 Md := dR.of' g5 (dR_thrown (lK.refl _)) (e5.trans e4.symm) b1 b2 c1 c2 d1 d2
    rw [← e4] at tg D
    exact hp _ _ (R4.deed tg D DR)
theorem m_draw {v : Int} (hv : 1 ≤ v ∧ v ≤ 100) (hp : ∀ M1, (∀ a, a ≠ 215 → M1 a = M a) → (∀ j, j ≠ 20 → M1 215 j = M 215 j) → M1 215 20 = 1103515245 * M 215 20 + 12345 → post ((qushr (1103515245 * M 215 20 + 12345) 16).tmod v) M1) : QCm X x d 1 yX11_draw [(2, 215), (0, v)] M post := by
  have u := qushr16 (1103515245 * M 215 20 + 12345)
  have e : (qup M 215 20 (1103515245 * M 215 20 + 12345)) 215 20 = 1103515245 * M 215 20 + 12345 := by rw [qup_at, if_pos rfl]
  refine QC.of qmX11_draw_ok rfl (TX11_draw_0 ?_)
  rw [e]
  exact ⟨(i32 (by omega) (by omega)), (i32 (by omega) (by omega)), (by omega), hp _ (fun a ha => qup_row ha) (fun j hj => by rw [qup_at, if_neg hj]) e⟩
theorem m_drawn (hD : 1 ≤ M 216 3 ∧ M 216 3 ≤ 6) (hp : ∀ M1, tK M M1 → M1 216 = M 216 → M1 215 20 = (rDrawn (M 216 3) (M 215 20)).2 → post (rDrawn (M 216 3) (M 215 20)).1 M1) : QCm X x (d + 1) 1 yX11_drawn [(2, 215)] M post := by
  generalize hy : M 215 20 = y at *
  generalize hDD : M 216 3 = D at *
  generalize hy1 : 1103515245 * y + 12345 = y1
  generalize hy2 : 1103515245 * y1 + 12345 = y2
  generalize hy3 : 1103515245 * y2 + 12345 = y3
  generalize hy4 : 1103515245 * y3 + 12345 = y4
  have dr : rDrawn D y = if (qushr y1 16).tmod 6 = 3 then (-1, y1) else if 3 < (qushr y1 16).tmod 6 then ((if (qushr y1 16).tmod 6 = 4 then 8000 else 7000) + (qushr y2 16).tmod D, y2) else (1000 * (qushr y2 16).tmod D + 10 * (qushr y4 16).tmod 2 + (1 + (qushr y3 16).tmod 4), y4) := by
    rw [rDrawn, hy1, hy2, hy3, hy4]
  have u1 := qushr16 y1
  have t1 := tm_b (k := qushr y1 16) (w := 6) u1.1 (by decide)
  rw [dr] at hp
  refine QC.of qmX11_drawn_ok rfl (TX11_drawn_0 (m_draw ⟨by decide, by decide⟩ (fun M1 a1 a2 a3 => ?_)))
  rw [hy, hy1] at a3 ⊢
  have T1 : tK M M1 := ⟨fun a a0 _ _ _ _ _ => a1 a a0, fun j _ j2 => a2 j j2⟩
  refine ⟨fun z => ?_, fun z => ⟨(i32 (by omega) (by omega)), ?_⟩⟩
  · rw [if_pos z] at hp; exact hp M1 T1 (a1 216 (by decide)) a3
  rw [if_neg z] at hp
  rw [a1 216 (by decide), hDD]
  refine m_draw (by omega) (fun M2 b1 b2 b3 => ?_)
  rw [a3, hy2] at b3 ⊢
  have T2 : tK M M2 := T1.trans ⟨fun a a0 _ _ _ _ _ => b1 a a0, fun j _ j2 => b2 j j2⟩
  refine ⟨fun q => ?_, fun q => ?_⟩
  · rw [if_neg (by omega)] at hp
    refine m_draw ⟨by decide, by decide⟩ (fun M3 c1 c2 c3 => ?_)
    rw [b3, hy3] at c3 ⊢
    have T3 : tK M M3 := T2.trans ⟨fun a a0 _ _ _ _ _ => c1 a a0, fun j _ j2 => c2 j j2⟩
    refine m_draw ⟨by decide, by decide⟩ (fun M4 d1 d2 d3 => ?_)
    rw [c3, hy4] at d3 ⊢
    have T4 : tK M M4 := T3.trans ⟨fun a a0 _ _ _ _ _ => d1 a a0, fun j _ j2 => d2 j j2⟩
    exact hp M4 T4 (by rw [d1 216 (by decide), c1 216 (by decide), b1 216 (by decide), a1 216 (by decide)]) d3
  · rw [if_pos (by omega)] at hp
    have e2 : M2 216 = M 216 := by rw [b1 216 (by decide), a1 216 (by decide)]
    refine ⟨fun q4 => ?_, fun q4 => ?_⟩
    · rw [if_pos q4] at hp; exact hp M2 T2 e2 b3
    · rw [if_neg q4] at hp; exact hp M2 T2 e2 b3
theorem rDrawn_b {D y : Int} (hD : 1 ≤ D ∧ D ≤ 6) : -1 ≤ (rDrawn D y).1 ∧ (rDrawn D y).1 ≤ 9009 := by
  have u2 := qushr16 (1103515245 * (1103515245 * y + 12345) + 12345)
  have u3 := qushr16 (1103515245 * (1103515245 * (1103515245 * y + 12345) + 12345) + 12345)
  have u4 := qushr16 (1103515245 * (1103515245 * (1103515245 * (1103515245 * y + 12345) + 12345) + 12345) + 12345)
  have t2 := tm_b (w := D) u2.1 (by omega)
  have t3 := tm_b (w := 4) u3.1 (by decide)
  have t4 := tm_b (w := 2) u4.1 (by decide)
  rw [rDrawn]
  split
  · exact ⟨show (-1 : Int) ≤ -1 by decide, show (-1 : Int) ≤ 9009 by decide⟩
  · split
    · show -1 ≤ (if _ then _ else _) + _ ∧ (if _ then _ else _) + _ ≤ _
      split <;> omega
    · show -1 ≤ _ + _ ∧ _ + _ ≤ _
      omega
theorem m_season_loop {N : Int} (h4 : 0 ≤ N ∧ N ≤ 40) {D : Int} (hD : 1 ≤ D ∧ D ≤ 6) : ∀ (n : Nat) {M : QMem} (y c i : Int), rLandOk (M 216) → rStOk (M 216) → M 216 3 = D → M 215 20 = y → 0 ≤ i → 0 ≤ c → c ≤ i → i + n = N → (∀ M1, tK M M1 → M1 216 = (rSeason D n (M 216) y c).1 → ((rSeason D n (M 216) y c).2 ≤ 0 → post (rSeason D n (M 216) y c).2 M1) ∧ (¬ (rSeason D n (M 216) y c).2 ≤ 0 → QCm X x (d + 4) 0 yX11_notes [(2, 215)] M1 (fun _ M4 => post (rSeason D n (M 216) y c).2 M4))) → QRm X x (d + 5) qmX11_season post 46 [(0, (2, 215)), (2, (0, N)), (3, (0, c)), (4, (0, i))] [] M := by
  intro n
  induction n with
  | zero =>
    intro M y c i hL hS hA hy i0 c0 c1 hi hp
    obtain ⟨p1, p2⟩ := hp M (tK.refl M) rfl
    exact TX11_season_46 ⟨(i32 (by omega) (by omega)), (i32 (by omega) (by omega)), fun _ => ⟨(i32 (by omega) (by omega)), p1, p2⟩, fun z => absurd (show N ≤ i by omega) z⟩
  | succ n ih =>
    intro M y c i hL hS hA hy i0 c0 c1 hi hp
    have rb := rDrawn_b (y := y) hD
    have wb := rWhyNot_b (M 216) (rDrawn D y).1
    refine TX11_season_46 ⟨(i32 (by omega) (by omega)), (i32 (by omega) (by omega)), fun z => absurd z (by omega), fun _ => m_drawn (by rw [hA]; exact hD) (fun M1 t1 e1 x1 => ?_)⟩
    rw [hA, hy] at x1 ⊢
    refine ⟨(i32 (by omega) (by omega)), m_whyNot (by rw [e1]; exact hL) (by rw [e1]; exact hS) (i64 (by omega) (by omega)) (fun M2 k2 => ?_)⟩
    have e2 : M2 216 = M 216 := k2.all.trans e1
    have x2 : M2 215 20 = (rDrawn D y).2 := by rw [k2 215 (by omega) (by omega) (by omega) (by omega)]; exact x1
    have T2 := t1.trans k2.rK.tK
    rw [e1]
    rw [rSeason] at hp
    refine ⟨fun z => ?_, fun z => ⟨(i32 (by omega) (by omega)), ?_⟩⟩
    · rw [if_pos z] at hp
      have g := rDoes_good hL hS z
      refine m_does (by rw [e2]; exact hL) (by rw [e2]; exact hS) (by rw [e2]; exact z) (fun M3 k3 e3 => ?_)
      rw [e2] at e3
      refine ih (rDrawn D y).2 (c + 1) (i + 1) (by rw [e3]; exact g.land hL) (by rw [e3]; exact g.1) (by rw [e3, g.2 3 (by omega)]; exact hA) ?_ (by omega) (by omega) (by omega) (by omega) (fun M4 t4 e4 => ?_)
      · rw [k3 215 (by omega) (by omega) (by omega) (by omega) (by omega)]; exact x2
      · rw [e3] at e4 ⊢
        exact hp M4 ((T2.trans k3.tK).trans t4) e4
    · rw [if_neg z] at hp
      refine ih (rDrawn D y).2 c (i + 1) (by rw [e2]; exact hL) (by rw [e2]; exact hS) (by rw [e2]; exact hA) x2 (by omega) (by omega) (by omega) (by omega) (fun M4 t4 e4 => ?_)
      rw [e2] at e4 ⊢
      exact hp M4 (T2.trans t4) e4
theorem rel_season (hR : Rel M) {s n : Int} (hs : in32 s) (hn : in32 n) (hp : ∀ v M3, Rel M3 → cont v v M3) : QCm X x (d + 8) 1 yX10_season [(2, 0), (0, s), (0, n)] M (fun x1 M1 => QCm X x (d + 8) 1 yX11_season [(2, 215), (0, s), (0, n)] M1 (fun x2 M2 => cont x1 x2 M2)) := by
  have a3 := hR.1.1.2.2.1
  have hd : M 17 2 = M 216 3 := hR.1.2.2.1.1.2.2.1
  have g0 : ∀ {M M5}, gK M M5 → gK M (qup M5 215 0 0) := fun h => h.trans (gK.thrown _ (by decide))
  have R0 := hR.keep (g0 (gK.refl M))
  have noA : ¬ (1 ≤ n ∧ n ≤ 40) → QCm X x (d + 8) 1 yX11_season [(2, 215), (0, s), (0, n)] M (fun x2 M2 => cont (-3) x2 M2) := fun z =>
    QC.of qmX11_season_ok rfl (TX11_season_0 ⟨hn, m_within hn.to64 (i64 (by omega) (by omega)) (i64 (by omega) (by omega)) (fun y => absurd y z) (fun _ => ⟨fun _ => hp _ _ R0, fun y => absurd rfl y⟩)⟩)
  refine QC.of qmX10_season_ok rfl (TX10_season_0 ⟨hn, fun z => noA (by omega), fun z => ⟨fun y => ?_, fun y => noA (by omega)⟩⟩)
  rw [hd]
  have e0 : (qup M 215 0 0) 216 = M 216 := qup_row (by decide)
  refine ⟨(i32 (by omega) (by omega)), fun w => ?_, fun w => ?_⟩
  rotate_left
  · refine QC.of qmX11_season_ok rfl (TX11_season_0 ⟨hn, m_within hn.to64 (i64 (by omega) (by omega)) (i64 (by omega) (by omega)) (fun _ => ⟨fun q => absurd q (by decide), fun _ => ⟨(i32 (by omega) (by omega)), ?_⟩⟩) (fun q => absurd (by omega) q)⟩)
    rw [e0]
    exact ⟨fun _ => hp _ _ R0, fun q => absurd (show M 216 3 = 0 by omega) q⟩
  have tv := rSeason_v (M 216 3) n.toNat (M 216) s 0
  have tg := rSeason_good (M 216 3) n.toNat s 0 hR.1.1 hR.1.2.1
  refine c_trial hR.1 (fun M3 m1 K3 => ?_)
  have d3 : M3 17 2 = M 216 3 := K3.2.2.1.1.2.2.1
  refine QC.of qmX6_followSeason_ok rfl (TX6_followSeason_0 ?_)
  rw [d3]
  have maxD : QCm X x (d + 6) 1 yJ9_max_7cf53 [(0, 1), (0, M 216 3)] M3 (fun x1 M1 => x1 = M 216 3 ∧ M1 = M3) := j_max (i32 (by omega) (by omega)) (i32 (by omega) (by omega)) (fun _ => ⟨rfl, rfl⟩) (fun q => ⟨by omega, rfl⟩)
  refine QC.mono maxD (fun x1 h1 u1 => ?_)
  obtain ⟨M1, rfl, rfl, rfl⟩ := u1
  refine ⟨_, rfl, ?_⟩
  refine c_followSeason_loop (d := d + 1) (N := n) (by omega) (by omega) n.toNat s 0 0 K3 rfl (by omega) (by omega) (fun M4 s1 s2 => ?_)
  have G4 : gK M M4 := (oK.gK m1).trans s1.gK
  have R4 := hR.keep G4
  have e4 := G4.all
  generalize hB : rSeason (M 216 3) n.toNat (M 216) s 0 = B at *
  have ref : ∀ (M5 : QMem), M5 216 = M 216 → (∀ Mb Mc, (∀ a, a ≠ 222 → Mb a = (qup M5 215 0 0) a) → (∀ j, 0 ≤ j → j < 311 → Mb 222 j = (qup M5 215 0 0) 216 (52 + j)) → tK Mb Mc → Mc 216 = B.1 → (B.2 ≤ 0 → cont B.2 B.2 Mc) ∧ (¬ B.2 ≤ 0 → QCm X x (d + 7) 0 yX11_notes [(2, 215)] Mc (fun _ M4 => cont B.2 B.2 M4))) → QCm X x (d + 8) 1 yX11_season [(2, 215), (0, s), (0, n)] M5 (fun x2 M2 => cont B.2 x2 M2) := by
    intro M5 h5 hq
    have e2 : (qup M5 215 0 0) 216 = M 216 := (qup_row (by decide)).trans h5
    refine QC.of qmX11_season_ok rfl (TX11_season_0 ⟨hn, m_within hn.to64 (i64 (by omega) (by omega)) (i64 (by omega) (by omega)) (fun _ => ⟨fun q => absurd q (by decide), fun _ => ⟨(i32 (by omega) (by omega)), ?_⟩⟩) (fun q => absurd (by omega) q)⟩)
    rw [e2]
    refine ⟨fun q => absurd q (by omega), fun _ => ⟨(i32 (by omega) (by omega)), m_keeps (fun Mb b1 b2 => ?_)⟩⟩
    have eb : (qup Mb 215 20 s) 216 = M 216 := (qup_row (by decide)).trans ((b1 216 (by omega)).trans e2)
    refine m_season_loop (d := d + 3) (N := n) (by omega) (D := M 216 3) (by omega) n.toNat s 0 0 (by rw [eb]; exact hR.1.1) (by rw [eb]; exact hR.1.2.1) (by rw [eb]) (by rw [qup_at, if_pos rfl]) (by omega) (by omega) (by omega) (by omega) (fun Mc c1 c2 => ?_)
    rw [eb, hB] at c2 ⊢
    exact hq Mb Mc b1 b2 ((tK.up Mb (Or.inr rfl)).trans c1) c2
  refine c_takeOver R4 e4 tg s2 (by omega) (fun z => ?_) (fun z M5 D => ?_)
  · have eB := tv.2.2 z
    refine ref M4 e4 (fun Mb Mc b1 b2 c1 c2 => ⟨fun _ => ?_, fun y => absurd (show B.2 ≤ 0 by omega) y⟩)
    have k1 : gK (qup M4 215 0 0) Mb := gK.of_rows (fun a q1 q2 q3 => b1 a (by omega))
    have eb : Mb 216 = M 216 := (b1 216 (by omega)).trans ((qup_row (by decide)).trans e4)
    exact hp _ _ (hR.keep (((g0 G4).trans k1).trans (c1.gK (by rw [c2, eB, eb]))))
  · have f5 : M5 216 = M4 216 := D.2.2.2.2 216 (by omega) (by have := R4.2.1.2.2.1; omega) (by omega) (by omega) (by omega) (by omega) (by omega)
    have e5 : M5 216 = M 216 := f5.trans e4
    refine ref M5 e5 (fun Mb Mc b1 b2 c1 c2 => ⟨fun y => absurd y (by omega), fun _ => ?_⟩)
    have n0 : Mc 216 363 = M 216 363 := by rw [c2]; exact tg.2 363 (by omega)
    have hN := hR.2.1.1
    refine m_notes (by rw [n0]; exact hN) (fun Md d1 d2 => ?_)
    have g5 : gK M5 (qup M5 215 0 0) := gK.thrown M5 (by decide)
    have DR : dR (M4 216) B.1 M5 Md := dR.of' g5 (dR_thrown (lK.refl _)) (e5.trans e4.symm) b1 b2 c1 c2 d1 d2
    rw [← e4] at tg D
    exact hp _ _ (R4.deed tg D DR)
end Tell65
