section RelLand
variable {X : QX} {x : Int} {d : Nat} {M : QMem}
theorem rel_land {cont : Int → Int → Int → QMem → Prop} (hR : Rel M) {v : Int} (hv : in32 v) (hp : ∀ w y M3, Rel M3 → cont w w y M3) : QCx X x (d + 40) 1 yX10_land [(2, 0), (0, v)] M (fun x1 y M1 => QCm X y (d + 40) 1 yX11_land [(2, 215), (0, v)] M1 (fun x2 M2 => cont x1 x2 y M2)) := by
  have R0 := hR.keep (gT M)
  obtain ⟨h1, h2, ⟨t1, t2, t3⟩, h4, h5, h6, h7⟩ := hR
  have no : ¬ (0 ≤ v ∧ v ≤ M 0 1) → QCm X x (d + 40) 1 yX11_land [(2, 215), (0, v)] M (fun x2 M2 => cont (-3) x2 x M2) := fun z => by
    have e5 : (qup M 215 0 0) 215 5 = M 0 1 := by rw [qup_at, if_neg (by decide)]; exact t2
    refine QC.of qmX11_land_ok rfl (TX11_land_0 ?_)
    rw [e5]
    exact ⟨hv, (i32 (by omega) (by omega)), m_within hv.to64 (i64 (by omega) (by omega)) (i64 (by omega) (by omega)) (fun y => absurd y z) (fun _ => ⟨fun _ => hp _ _ _ R0, fun q => absurd rfl q⟩)⟩
  refine QC.of qmX10_land_ok rfl (TX10_land_0 ⟨hv, fun z => no (by omega), fun z => ⟨(i32 (by omega) (by omega)), fun y => ?_, fun y => no (by omega)⟩⟩)
  have hb : bOk (M 218) (qup M 0 1 0) := fun j j0 j1 => by rw [qup_row (by decide)]; exact t3 j j0 j1
  have hbb : ∀ j, 0 ≤ j → j < 900 → 0 ≤ M 218 j ∧ M 218 j ≤ 255 := fun j j0 j1 => by
    have := t3 j j0 j1
    rw [this.2]
    split <;> omega
  refine c_text (b := M 218) hb ⟨(by omega), (by omega)⟩ (fun T w y' M1 hT tk fr cf hw => ?_)
  have fr0 : ∀ a, a = 1 ∨ 17 ≤ a → M1 a = M a := fun a ha => by rw [fr a (by omega), qup_row (by omega)]
  have fr1 : M1 0 1 = 0 := by rw [fr 0 (by omega), qup_at, if_pos rfl]
  by_cases z0 : (pText (kdf (M 218) v) (vlf (M 218) v) (12 * T + 21) (T + 1)).1 ≠ 0
  · obtain ⟨c1, c2, c3⟩ := cf.2 z0
    subst c1
    refine ⟨fun _ => ?_, fun q => absurd rfl q⟩
    refine m_landGo (b := M 218) (T := T) (f := 12 * T + 21) (g := T + 1) ⟨(by omega), by rw [fr0 215 (by omega), t2]; exact y, by rw [fr0 215 (by omega), t2]; exact t1.2⟩ (fun j j0 j1 => ⟨by rw [fr0 218 (by omega)], hbb j j0 j1⟩) tk hT (by omega) (by omega) (fun M2 M3 k0 k1 k5 rf => ?_)
    obtain ⟨q1, q2, q3⟩ := rf.2.2 z0
    refine m_exitB q1 ?_
    rw [q2, q3, c2]
    refine hp _ _ _ ?_
    have g0 : ∀ a, a ≠ 215 → a ≠ 219 → (qup (qup M3 215 13 (pText (kdf (M 218) v) (vlf (M 218) v) (12 * T + 21) (T + 1)).1) 215 14 (tS (M 218) v (tpos (M 218) v (pText (kdf (M 218) v) (vlf (M 218) v) (12 * T + 21) (T + 1)).2.1))) a = M1 a := fun a a0 a1 => by rw [qup_row a0, qup_row a0, rf.1.1 a a0 a1, k0 a a0 a1]
    have g1 : ∀ j, (qup (qup M3 215 13 (pText (kdf (M 218) v) (vlf (M 218) v) (12 * T + 21) (T + 1)).1) 215 14 (tS (M 218) v (tpos (M 218) v (pText (kdf (M 218) v) (vlf (M 218) v) (12 * T + 21) (T + 1)).2.1))) 215 j = if j = 14 then (tS (M 218) v (tpos (M 218) v (pText (kdf (M 218) v) (vlf (M 218) v) (12 * T + 21) (T + 1)).2.1)) else if j = 13 then (pText (kdf (M 218) v) (vlf (M 218) v) (12 * T + 21) (T + 1)).1 else M3 215 j := fun j => by rw [qup_at, qup_at]
    generalize pText (kdf (M 218) v) (vlf (M 218) v) (12 * T + 21) (T + 1) = R at *
    generalize qup (qup M3 215 13 R.1) 215 14 (tS (M 218) v (tpos (M 218) v R.2.1)) = M4 at *
    have f0 : ∀ a, a = 1 ∨ 17 ≤ a → a ≠ 215 → a ≠ 219 → M4 a = M a := fun a a0 a1 a2 => by rw [g0 a a1 a2, fr0 a a0]
    have e5 : M4 215 5 = 0 := by rw [g1, if_neg (by decide), if_neg (by decide), rf.1.2 5 (by decide) (by decide) (by decide) (by decide) (by decide) (by decide) (by decide)]; exact k5
    have e24 : M4 215 24 = -1 := by rw [g1, if_neg (by decide), if_neg (by decide), rf.1.2 24 (by decide) (by decide) (by decide) (by decide) (by decide) (by decide) (by decide), k1 24 (by decide) (by decide) (by decide) (by decide) (by decide) (by decide) (by decide) (by decide), fr0 215 (by omega)]; exact h7
    have e0 : M4 0 1 = 0 := by rw [g0 0 (by decide) (by decide)]; exact fr1
    unfold Rel
    rw [f0 216 (by omega) (by omega) (by omega)]
    refine ⟨⟨h1.1, h1.2.1, h1.2.2.1.congr (fun a ha => f0 a (by omega) (by omega) (by omega)), h1.2.2.2.congr (fun a a0 a1 => f0 a (by omega) (by omega) (by omega))⟩, h2.congr (fun a ha => f0 a (by omega) (by omega) (by omega)), ⟨by rw [e0]; decide, by rw [e5, e0], ?_⟩, ⟨?_, ?_⟩, h5.congr (fun a ha => f0 a (by omega) (by omega) (by omega)), h6.congr (fun a ha => f0 a (by omega) (by omega) (by omega)), e24⟩
    · rw [f0 1 (by omega) (by omega) (by omega), f0 218 (by omega) (by omega) (by omega)]; exact t3
    · rw [g0 2 (by decide) (by decide), c2, g1, if_neg (by decide), if_pos rfl]
    · rw [g0 2 (by decide) (by decide), c3, g1, if_pos rfl]
  · have z1 : (pText (kdf (M 218) v) (vlf (M 218) v) (12 * T + 21) (T + 1)).1 = 0 := Classical.byContradiction z0
    obtain ⟨c1, c2, c3, ok, cr⟩ := cf.1 z1
    subst c1
    refine ⟨fun q => absurd q (by decide), fun _ => ⟨(i32 (by omega) (by omega)), ?_⟩⟩
    have lb : ∀ l, l = 0 ∨ l = 1 → 0 ≤ M1 (7 + 3 * l) 2 ∧ M1 (7 + 3 * l) 2 ≤ 900 := fun l hl => by
      rw [(cr.2.2.2 l hl).1]
      rcases ok.2.2.2.2.2.2.2.2 l hl with q | q
      · rw [q]; decide
      · have := q.1; omega
    refine c_rawCopy (b := 17) (c := 3) (Or.inl ⟨rfl, rfl⟩) (lb 0 (Or.inl rfl)) (lb 1 (Or.inr rfl)) (fun M2 a1 a2 a3 a4 a5 a6 => ?_)
    have p2 : cp17 M1 M2 := ⟨a2, a3, a4, fun l hl => by rcases hl with rfl | rfl <;> first | exact a5 | exact a6⟩
    refine c_beginS (fun M3 b1 b2 b3 b4 b5 b6 => ?_)
    refine QC.of qmX3_forget_ok rfl (TX3_forget_0 ?_)
    have d0 : ∀ a, a ≠ 47 → (qup M3 47 2 0) a = M3 a := fun a ha => qup_row ha
    have d1 : (qup M3 47 2 0) 47 2 = 0 := by rw [qup_at, if_pos rfl]
    have d2 : (qup M3 47 2 0) 47 1 = M 47 1 := by rw [qup_at, if_neg (by decide), b1 47 (by omega), a1 47 (by omega), fr0 47 (by omega)]
    generalize qup M3 47 2 0 = M4 at *
    have fr4 : ∀ a, a < 17 ∨ 36 < a → a ≠ 47 → M4 a = M1 a := fun a ha hb => by rw [d0 a hb, b1 a (by omega), a1 a (by omega)]
    have p4 : cp17 M1 M4 := p2.congr (fun a c0 c1 => by rw [d0 a (by omega), b1 a (by omega)])
    have e17 : M4 17 = M2 17 := by rw [d0 17 (by omega), b1 17 (by omega)]
    have e20 : M4 20 = M2 20 := by rw [d0 20 (by omega), b1 20 (by omega)]
    refine m_landGo (b := M 218) (T := T) (f := 12 * T + 21) (g := T + 1) ⟨(by omega), by rw [fr4 215 (by omega) (by omega), fr0 215 (by omega), t2]; exact y, by rw [fr4 215 (by omega) (by omega), fr0 215 (by omega), t2]; exact t1.2⟩ (fun j j0 j1 => ⟨by rw [fr4 218 (by omega) (by omega), fr0 218 (by omega)], hbb j j0 j1⟩) tk hT (by omega) (by omega) (fun M5 M6 k0 k1 k5 rf => ?_)
    obtain ⟨q1, q2, q3, q4⟩ := rf.2.1 z1
    refine m_exitG q1.2.2 (by rw [q1.2.1.2.2.1]; exact q2) (fun M7 o1 o2 o3 o4 o5 => ?_)
    generalize pText (kdf (M 218) v) (vlf (M 218) v) (12 * T + 21) (T + 1) = R at *
    have hB : ∀ j, 0 ≤ j → j < 4375 → M7 216 j = M6 219 j := fun j j0 j1 => by rw [o5, if_pos ⟨j0, j1⟩]
    have f7 : ∀ a, a ≠ 215 → a ≠ 216 → a ≠ 219 → M7 a = M4 a := fun a g0 g1 g2 => by rw [o1 a g0 g1, rf.1.1 a g0 g2, k0 a g0 g2]
    have f8 : ∀ a, a = 1 ∨ (36 < a ∧ a ≠ 47 ∧ a ≠ 215 ∧ a ≠ 216 ∧ a ≠ 219) → M7 a = M a := fun a ha => by rw [f7 a (by omega) (by omega) (by omega), fr4 a (by omega) (by omega), fr0 a (by omega)]
    have ans : M4 17 4 = M7 216 0 := by rw [hB 0 (by omega) (by omega), q3.1 0 (by omega) (by omega) (by omega), p4.1 4 (by omega) (by omega)]; exact cr.1.2.2.2.2.1
    rw [ans]
    refine hp _ _ _ ?_
    obtain ⟨w1, w2, w3, w4⟩ := fin_ok ok q3 q4 hB
    have p7 : cp17 M1 M7 := p4.congr (fun a g0 g1 => f7 a (by omega) (by omega) (by omega))
    have b363 : M7 216 363 = 0 := by rw [w3 363 (by omega) (by omega) (by omega)]; exact ok.2.2.2.2.2.2.1 363 (by omega)
    have r27 : ∀ a, 27 ≤ a → a ≤ 36 → M7 a = M3 a := fun a g0 g1 => by rw [f7 a (by omega) (by omega) (by omega), d0 a (by omega)]
    have r17 : M7 17 = M2 17 := by rw [f7 17 (by omega) (by omega) (by omega)]; exact e17
    have r20 : M7 20 = M2 20 := by rw [f7 20 (by omega) (by omega) (by omega)]; exact e20
    have e5 : M7 215 5 = 0 := by rw [o2 5 (by decide) (by decide), rf.1.2 5 (by decide) (by decide) (by decide) (by decide) (by decide) (by decide) (by decide)]; exact k5
    have e24 : M7 215 24 = -1 := by rw [o2 24 (by decide) (by decide), rf.1.2 24 (by decide) (by decide) (by decide) (by decide) (by decide) (by decide) (by decide), k1 24 (by decide) (by decide) (by decide) (by decide) (by decide) (by decide) (by decide) (by decide), fr4 215 (by omega) (by omega), fr0 215 (by omega)]; exact h7
    have e0 : M7 0 1 = 0 := by rw [f7 0 (by decide) (by decide) (by decide), fr4 0 (by omega) (by omega)]; exact fr1
    refine ⟨⟨w1, w2, fin_land ok q3 q4 hB cr p7, fin_st ok q3 q4 hB cr p7 (fun e g0 g1 => ?_) (fun k g0 g1 => ?_) ?_ ?_ ?_⟩, ⟨?_, ?_, ?_, fun i g0 g1 => ?_⟩, ⟨by rw [e0]; decide, by rw [e5, e0], ?_⟩, ⟨?_, ?_⟩, h5.congr (fun a ha => f8 a (by omega)), ?_, e24⟩
    · rw [r27 28 (by omega) (by omega), r27 29 (by omega) (by omega), r20]; exact b2 e g0 g1
    · rw [r27 32 (by omega) (by omega), r27 33 (by omega) (by omega)]; exact b3 k g0 g1
    · rw [r27 27 (by omega) (by omega)]; exact b4
    · rw [r27 27 (by omega) (by omega), r17]; exact b5
    · rw [r27 27 (by omega) (by omega), r17]; exact b6
    · rw [b363]; decide
    · rw [b363, f7 47 (by omega) (by omega) (by omega)]; exact d1
    · rw [f7 47 (by omega) (by omega) (by omega), d2]; exact h2.2.2.1
    · rw [b363] at g1; omega
    · rw [f8 1 (by omega), f8 218 (by omega)]; exact t3
    · rw [f7 2 (by omega) (by omega) (by omega), fr4 2 (by omega) (by omega), c2, o3]
    · rw [f7 2 (by omega) (by omega) (by omega), fr4 2 (by omega) (by omega), c3, o4]
    · refine (h6.congr (fun a ha => f8 a (by omega))).of_eq (fun j hj => ?_)
      rw [o5, if_neg (by omega), rf.1.1 216 (by decide) (by decide), k0 216 (by decide) (by decide), fr4 216 (by omega) (by omega), fr0 216 (by omega)]
end RelLand
