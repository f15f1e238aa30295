section Tell64
variable {X : QX} {x : Int} {d : Nat} {post : Int → QMem → Prop} {M : QMem} {cont : Int → Int → QMem → Prop}
theorem tK.gK {M M1 : QMem} (h : tK M M1) (e : M1 216 = M 216) : gK M M1 := by
  refine ⟨fun a q1 q2 q3 => ?_, ?_, h.2 5 (by decide) (by decide), h.2 13 (by decide) (by decide), h.2 14 (by decide) (by decide), h.2 24 (by decide) (by decide)⟩
  · by_cases z : a = 216
    · rw [z]; exact e
    · exact h.1 a (by omega) z (by omega) (by omega) q2 q3
  · rw [h.1 2 (by omega) (by omega) (by omega) (by omega) (by omega) (by omega)]; exact ⟨rfl, rfl⟩
theorem m_judge_sum {v2 v4 : Int} {A : Int → Int} (hA : M 216 = A) (a3 : 0 ≤ A 3 ∧ A 3 ≤ 6) (hp : QRm X x (d + 1) qmX11_judge post 49 [(0, (2, 215)), (2, (0, v2)), (4, (0, v4)), (5, (0, rSum A 54 (A 3).toNat)), (6, (0, A 3))] [] M) : ∀ i : Int, 0 ≤ i ∧ i ≤ A 3 → QRm X x (d + 1) qmX11_judge post 49 [(0, (2, 215)), (2, (0, v2)), (4, (0, v4)), (5, (0, rSum A 54 i.toNat)), (6, (0, i))] [] M := by
  refine int_up (A 3) (fun i hi g => ?_) (fun i hi ih g => ?_)
  · rw [show i = A 3 by omega]; exact hp
  · refine TX11_judge_49 ?_
    rw [hA]
    refine ⟨(i32 (by omega) (by omega)), (i32 (by omega) (by omega)), fun z => absurd hi (by omega), fun _ => ⟨(by omega), (by omega), ?_⟩⟩
    have := ih ⟨(by omega), (by omega)⟩
    rw [show (i + 1).toNat = i.toNat + 1 by omega, rSum, show ((i.toNat : Nat) : Int) = i by omega] at this
    exact this
theorem rel_judge (hR : Rel M) {t w : Int} (ht : in32 t) (hw : in32 w) (hp : ∀ v M3, Rel M3 → cont v v M3) : QCm X x (d + 8) 1 yX10_judge [(2, 0), (0, t), (0, w)] M (fun x1 M1 => QCm X x (d + 8) 1 yX11_judge [(2, 215), (0, t), (0, w)] M1 (fun x2 M2 => cont x1 x2 M2)) := by
  have a3 := hR.1.1.2.2.1
  have hTr := hR.2.2.2.2.1
  have g0 : ∀ {M5}, gK M M5 → gK M (qup M5 215 0 0) := fun h => h.trans (gK.thrown _ (by decide))
  have noA : ¬ (0 ≤ w ∧ w ≤ 3) → QCm X x (d + 8) 1 yX11_judge [(2, 215), (0, t), (0, w)] M (fun x2 M2 => cont (-2) x2 M2) := fun z =>
    QC.of qmX11_judge_ok rfl (TX11_judge_0 ⟨hw, m_within hw.to64 (i64 (by omega) (by omega)) (i64 (by omega) (by omega)) (fun y => absurd y z) (fun _ => ⟨fun _ => hp _ _ (hR.keep (g0 (gK.refl M))), fun y => absurd rfl y⟩)⟩)
  have R0 := hR.keep (g0 (gK.refl M))
  have noB : ¬ (0 ≤ t ∧ t < 4) → QCm X x (d + 8) 1 yX11_judge [(2, 215), (0, t), (0, w)] M (fun x2 M2 => cont (-2) x2 M2) := fun z => by
    by_cases y : 0 ≤ w ∧ w ≤ 3
    · refine QC.of qmX11_judge_ok rfl (TX11_judge_0 ⟨hw, m_within hw.to64 (i64 (by omega) (by omega)) (i64 (by omega) (by omega)) (fun _ => ⟨fun q => absurd q (by decide), fun _ => ⟨(i32 (by omega) (by omega)), m_noTray ht R0.2.2.2.2.1.b (fun _ => ⟨fun q => absurd q (by decide), fun _ => ⟨(i32 (by omega) (by omega)), hp _ _ R0⟩⟩) (fun q => absurd q z) (fun q => absurd q z)⟩⟩) (fun q => absurd y q)⟩)
    · exact noA y
  refine QC.of qmX10_judge_ok rfl (TX10_judge_0 (c_isTray ht (fun a => ⟨fun z => absurd z (by decide), fun _ => ⟨(i32 (by omega) (by omega)), hw, fun z => noA (by omega), fun z => ⟨fun y => ?_, fun y => noA (by omega)⟩⟩⟩) (fun a => ⟨fun _ => noB a, fun z => absurd rfl z⟩)))
  have q := qS_tray x a
  have w3 : 0 ≤ w ∧ w ≤ 3 := (by omega)
  rw [q.1]
  have r0 : ∀ a, a ≠ 215 → (qup M 215 0 0) a = M a := fun a ha => qup_row ha
  refine ⟨(by omega), (by omega), q.2.1, c_isMissing hTr a (fun m => ⟨fun z => absurd z (by decide), fun _ => ⟨(i32 (by omega) (by omega)), ?_⟩⟩) (fun m => ⟨fun _ => ?_, fun z => absurd rfl z⟩)⟩
  · refine QC.of qmX11_judge_ok rfl (TX11_judge_0 ⟨hw, m_within hw.to64 (i64 (by omega) (by omega)) (i64 (by omega) (by omega)) (fun _ => ⟨fun q => absurd q (by decide), fun _ => ⟨(i32 (by omega) (by omega)), m_noTray ht R0.2.2.2.2.1.b (fun q => absurd a q) (fun _ _ => ⟨fun q => absurd q (by decide), fun _ => ⟨(i32 (by omega) (by omega)), hp _ _ R0⟩⟩) (fun _ q => absurd (by rw [r0 228 (by decide)]; exact m) q)⟩⟩) (fun q => absurd w3 q)⟩)
  obtain ⟨n4, nS, nW⟩ := hTr.w a m
  have tv := rTells_v (fun i => M 230 (40 * t + i)) (M 229 t).toNat (M 216) 0
  have tg := rTells_good (fun i => M 230 (40 * t + i)) (M 229 t).toNat 0 hR.1.1 hR.1.2.1
  have nn : (0 : Int) + ((M 229 t).toNat : Int) = M 229 t := by omega
  rw [nn] at tv
  -- the reference
  have fin : ∀ (M5 : QMem) (V : Int), gK M M5 → V = (if w = 0 then (if (rTells (fun i => M 230 (40 * t + i)) (M 229 t).toNat (M 216) 0).2.2 = 0 then -1 else (rTells (fun i => M 230 (40 * t + i)) (M 229 t).toNat (M 216) 0).2.1) else if w = 1 then (rTells (fun i => M 230 (40 * t + i)) (M 229 t).toNat (M 216) 0).2.2 else if w = 2 then rSum (rTells (fun i => M 230 (40 * t + i)) (M 229 t).toNat (M 216) 0).1 54 ((rTells (fun i => M 230 (40 * t + i)) (M 229 t).toNat (M 216) 0).1 3).toNat else (rTells (fun i => M 230 (40 * t + i)) (M 229 t).toNat (M 216) 0).1 53) → QCm X x (d + 8) 1 yX11_judge [(2, 215), (0, t), (0, w)] M5 (fun x2 M2 => cont V x2 M2) := by
    intro M5 V g5 hV
    have G := g0 g5
    have R5 := hR.keep G
    have e2 := G.all
    refine QC.of qmX11_judge_ok rfl (TX11_judge_0 ⟨hw, m_within hw.to64 (i64 (by omega) (by omega)) (i64 (by omega) (by omega)) (fun _ => ⟨fun q => absurd q (by decide), fun _ => ⟨(i32 (by omega) (by omega)), m_noTray ht R5.2.2.2.2.1.b (fun q => absurd a q) (fun _ q => absurd (by rw [← G.1 228 (by omega) (by omega) (by omega)]; exact q) m) (fun _ _ => ⟨fun _ => ?_, fun q => absurd rfl q⟩)⟩⟩) (fun q => absurd w3 q)⟩)
    refine m_keeps (fun Mb b1 b2 => ?_)
    have eb : Mb 216 = M 216 := (b1 216 (by omega)).trans e2
    refine m_tells (d := d + 2) a n4.1 n4.2 (w := fun i => M 230 (40 * t + i)) (fun i i0 i1 => (nW i i0 i1).1) (by rw [eb]; exact hR.1.1) (by rw [eb]; exact hR.1.2.1) (by rw [b1 229 (by decide), G.1 229 (by omega) (by omega) (by omega)]) (fun i i0 i1 => by rw [b1 230 (by decide), G.1 230 (by omega) (by omega) (by omega)]) (fun Mc c1 c2 c3 => ?_)
    rw [eb] at c2 c3 ⊢
    refine m_judge_sum c2 (by rw [tg.2 3 (by omega)]; exact a3) ?_ 0 ⟨(by omega), by rw [tg.2 3 (by omega)]; exact a3.1⟩
    refine TX11_judge_49 ?_
    rw [c2]
    have b3 : 0 ≤ (rTells (fun i => M 230 (40 * t + i)) (M 229 t).toNat (M 216) 0).1 3 ∧ (rTells (fun i => M 230 (40 * t + i)) (M 229 t).toNat (M 216) 0).1 3 ≤ 6 := by rw [tg.2 3 (by omega)]; exact a3
    refine ⟨(i32 (by omega) (by omega)), (i32 (by omega) (by omega)), fun _ => ?_, fun z => absurd (Int.le_refl _) z⟩
    refine m_again (A := M 216) (by rw [c2]; exact tg) (fun j j0 j1 => by rw [c1.1 222 (by omega) (by omega) (by omega) (by omega) (by omega) (by omega), b2 j j0 j1, e2]) (fun Md d1 d2 => ?_)
    have f19 : Md 215 19 = (rTells (fun i => M 230 (40 * t + i)) (M 229 t).toNat (M 216) 0).2.2 := by rw [d1 215 (by decide)]; exact c3
    have GD : gK M Md := by
      have k1 : gK (qup M5 215 0 0) Mb := gK.of_rows (fun a q1 q2 q3 => b1 a (by omega))
      have T : tK Mb Md := ⟨fun a a1 a2 a3 a4 a5 a6 => (d1 a a2).trans (c1.1 a a1 a2 a3 a4 a5 a6), fun j j1 j2 => by rw [d1 215 (by decide)]; exact c1.2 j j1 j2⟩
      exact (G.trans k1).trans (T.gK (d2.trans eb.symm))
    have RD := hR.keep GD
    rw [f19]
    refine ⟨fun z => ⟨fun z1 => ?_, fun z1 => ⟨(i32 (by omega) (by omega)), ?_⟩⟩, fun z => ⟨hw, fun z1 => ?_, fun z1 => ⟨fun z2 => ?_, fun z2 => ?_⟩⟩⟩
    · rw [hV, if_pos z, if_pos z1]; exact hp _ _ RD
    · rw [hV, if_pos z, if_neg z1]; exact hp _ _ RD
    · rw [hV, if_neg z, if_pos z1]; exact hp _ _ RD
    · rw [hV, if_neg z, if_neg z1, if_pos z2]; exact hp _ _ RD
    · rw [hV, if_neg z, if_neg z1, if_neg z2]; exact hp _ _ RD
  refine c_trial hR.1 (fun M3 m1 K3 => ?_)
  refine c_followAll (d := d) q.2.2 n4.1 n4.2 (w := fun i => M 230 (40 * t + i)) (fun i i0 i1 => (nW i i0 i1).1) K3 (by rw [m1 _ (by omega)]; exact nS) (fun i i0 i1 => by rw [m1 _ (by omega)]; exact (nW i i0 i1).2) (fun M4 s1 s2 => ?_)
  have G4 : gK M M4 := (oK.gK m1).trans s1.gK
  have K4 := K3.trial tg s1 s2
  have n2 : M4 (165 + 2 * t) 2 = M 229 t := by rw [G4.1 _ (by omega) (by omega) (by omega)]; exact nS
  rw [n2]
  refine ⟨(i32 (by omega) (by omega)), (i32 (by omega) (by omega)), fun z1 => ?_, fun z1 => ?_⟩
  · have w0 : (rTells (fun i => M 230 (40 * t + i)) (M 229 t).toNat (M 216) 0).2.2 ≠ 0 := fun q => by have := tv.2.2.2.1.1 q; omega
    refine ⟨fun c => fin M4 _ G4 ?_, fun c => ?_, fun c => c_allYards (Or.inr rfl) K4 (fin M4 _ G4 ?_), fun c => ?_⟩
    · rw [if_pos c, if_neg w0]
    · refine c_number q.2.2 n2 n4.2 (by omega) ?_
      rw [show M4 (165 + 2 * t + 1) (rTells (fun i => M 230 (40 * t + i)) (M 229 t).toNat (M 216) 0).2.1 = M 230 (40 * t + (rTells (fun i => M 230 (40 * t + i)) (M 229 t).toNat (M 216) 0).2.1) by rw [G4.1 _ (by omega) (by omega) (by omega)]; exact (nW _ (by omega) z1).2]
      have wy := tv.2.2.2.2.1 w0
      refine c_follow (d := d + 1) K4 ((nW _ (by omega) z1).1) (fun y => absurd (wy.symm.trans y) w0) (fun y M6 k6 => fin M6 _ (G4.trans k6.gK) ?_)
      rw [if_neg (by omega), if_pos c]; exact wy
    · rw [if_neg (by omega), if_neg (by omega), if_pos c]
    · have h37 : M4 37 11 = (rTells (fun i => M 230 (40 * t + i)) (M 229 t).toNat (M 216) 0).1 53 := s2.2.2.2.2.2.2.2
      rw [h37]
      refine fin M4 _ G4 ?_
      rw [if_neg (by omega), if_neg (by omega), if_neg (by omega)]
  · have w0 : (rTells (fun i => M 230 (40 * t + i)) (M 229 t).toNat (M 216) 0).2.2 = 0 := tv.2.2.2.1.2 (by omega)
    refine ⟨fun c => fin M4 _ G4 ?_, fun c => fin M4 _ G4 ?_, fun c => c_allYards (Or.inr rfl) K4 (fin M4 _ G4 ?_), fun c => ?_⟩
    · rw [if_pos c, if_pos w0]
    · rw [if_neg (by omega), if_pos c, w0]
    · rw [if_neg (by omega), if_neg (by omega), if_pos c]
    · have h37 : M4 37 11 = (rTells (fun i => M 230 (40 * t + i)) (M 229 t).toNat (M 216) 0).1 53 := s2.2.2.2.2.2.2.2
      rw [h37]
      refine fin M4 _ G4 ?_
      rw [if_neg (by omega), if_neg (by omega), if_neg (by omega)]
end Tell64
