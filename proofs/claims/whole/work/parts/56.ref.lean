theorem qushr16 (x : Int) : 0 ≤ qushr x 16 ∧ qushr x 16 ≤ 65535 := by
  unfold qushr
  rw [show ((Int32.ofInt 16).toUInt32 &&& Int32.toUInt32 31) = 16 from by decide]
  have h : ((Int32.ofInt x).toUInt32 >>> 16).toNat < 65536 := by
    rw [UInt32.toNat_shiftRight]
    have := (Int32.ofInt x).toUInt32.toNat_lt
    rw [Nat.shiftRight_eq_div_pow]
    show _ / 2 ^ 16 < _
    omega
  generalize (Int32.ofInt x).toUInt32 >>> 16 = u at *
  have e : u.toInt32.toInt = (u.toNat : Int) := by
    show u.toBitVec.toInt = _
    rw [BitVec.toInt_eq_toNat_cond, if_pos]
    · rfl
    · show 2 * u.toNat < 2 ^ 32
      omega
  omega
/-- why a told deed can't be, and doing it -/
noncomputable def rWhyNot (A : Int → Int) (v : Int) : Int := if v = -1 then 0 else if 0 ≤ v ∧ v ≤ 5999 then (if (v.tdiv 100).tmod 10 = 0 ∧ (v.tdiv 10).tmod 10 ≤ 1 then rWhyLay A (v.tdiv 1000) (v.tmod 10) else 1) else if 6000 ≤ v ∧ v ≤ 6999 then rWhyBack A (v - 6000) else if 7000 ≤ v ∧ v ≤ 7999 then rWhyIn A (v - 7000) else if 8000 ≤ v ∧ v ≤ 8999 then rWhyOut A (v - 8000) else if 9000 ≤ v ∧ v ≤ 9009 then 0 else 1
noncomputable def rDoes (A : Int → Int) (v : Int) : Int → Int := if v = -1 then (rHour A).1 else if v < 6000 then rLay A (v.tdiv 1000) (v.tmod 10) (if (v.tdiv 10).tmod 10 = 1 then 1 else 0) else if v < 7000 then rOff A (v - 6000) else if v < 8000 then rOffs A (v - 7000) (A (60 + (v - 7000))).toNat else if v < 9000 then rOut A (v - 8000) else aup A 52 (v - 9000)
theorem rWhyNot_b (A : Int → Int) (v : Int) : 0 ≤ rWhyNot A v ∧ rWhyNot A v ≤ 4 := by
  have h1 := rWhyLay_b A (v.tdiv 1000) (v.tmod 10)
  have h2 := rWhyBack_b A (v - 6000)
  have h3 := rWhyIn_b A (v - 7000)
  have h4 := rWhyOut_b A (v - 8000)
  rw [rWhyNot]; repeat' split
  all_goals omega
theorem rWhyNot_rng {A : Int → Int} {v : Int} (h : rWhyNot A v = 0) : -1 ≤ v ∧ v ≤ 9009 := by
  rw [rWhyNot] at h
  repeat' split at h
  all_goals omega
/-- what a deed that can be leaves -/
def rGood (A B : Int → Int) : Prop := rStOk B ∧ ∀ j, j < 52 ∨ 363 ≤ j → B j = A j
theorem rLay_ok {A : Int → Int} {e t o : Int} (hL : rLandOk A) (hS : rStOk A) (h : rWhyLay A e t = 0) : rGood A (rLay A e t o) := by
  obtain ⟨⟨e1, t1⟩, z1, z2, z3, z4, z5⟩ := rWhyLay_zero h
  have a3 := hL.2.2.1
  have hcl := hL.cells
  have hE := rEnd_b hL hS.2.1 e1.1 e1.2
  have hB := rBeside_b (t := t) hL hE
  have hl := hS.2.1.1 e e1.1 (by omega)
  have hc := rCost_b A e (rBeside A (rEnd A e) t)
  exact ⟨rLays_ok hL hS e1 (by omega) z2 z3 hc z5, fun j hj => rLays_rest (by omega) (by omega) (by omega) (by omega)⟩
theorem rOff_good {A : Int → Int} {e : Int} (hL : rLandOk A) (hS : rStOk A) (h : rWhyBack A e = 0) : rGood A (rOff A e) := by
  obtain ⟨e1, z1, z2, z3⟩ := rWhyBack_zero h
  have a3 := hL.2.2.1
  have hcl := hL.cells
  have hE := rEnd_b hL hS.2.1 e1.1 e1.2
  have hl := hS.2.1.1 e e1.1 (by omega)
  have eE : rEnd A e = A (66 + 16 * e + A (60 + e) - 1) := by rw [rEnd, if_neg z1]
  refine ⟨rOff_ok hL hS e1 (by omega) (by rw [← eE]; exact z2) (fun t t0 t1 t2 t3 => ?_), fun j hj => rOff_rest (by omega) rfl eE.symm (by omega) (by omega) (by omega)⟩
  have g := hS.2.2.2.2.1 t t0 t1
  have al := g.2.2.2 t3
  rw [t2] at al
  by_cases z : A (339 + t) = A (60 + e) - 1
  · exact absurd ⟨t, t0, t1, t2, t3, (by omega), by rw [t2, z, eE]; congr 1; omega⟩ z3
  · omega
theorem rOffs_good {A : Int → Int} {e : Int} (hL : rLandOk A) (hS : rStOk A) (h : rWhyIn A e = 0) : rGood A (rOffs A e (A (60 + e)).toNat) := by
  obtain ⟨e1, z1, z2⟩ := rWhyIn_zero h
  have a3 := hL.2.2.1
  have hl := hS.2.1.1 e e1.1 (by omega)
  obtain ⟨o1, o2⟩ := rOffs_ok _ hL hS e1 (Int.toNat_of_nonneg hl.1).symm z2
  exact ⟨o1, fun j hj => o2 j (by omega)⟩
theorem rOut_good {A : Int → Int} {e : Int} (hL : rLandOk A) (hS : rStOk A) (h : rWhyOut A e = 0) : rGood A (rOut A e) := by
  obtain ⟨e1, z1, z2⟩ := rWhyOut_zero h
  have a3 := hL.2.2.1
  have hT := hS.2.2.2.1
  have hl := hS.2.1.1 e e1.1 (by omega)
  exact ⟨rOut_ok hL hS e1 (by omega) z2, fun j hj => rOut_at (by omega) (by omega) (by omega) (by omega) (by omega) (by omega)⟩
theorem rHour_good {A : Int → Int} (hL : rLandOk A) (hS : rStOk A) : rGood A (rHour A).1 := by
  obtain ⟨h1, h2⟩ := rHour_ok hL hS
  exact ⟨h1, fun j hj => h2 j (by omega) (by omega)⟩
theorem rWet_good {A : Int → Int} (hL : rLandOk A) (hS : rStOk A) {n : Int} (hn : 0 ≤ n ∧ n ≤ 9) : rGood A (aup A 52 n) :=
  ⟨hS.congr' (by rw [aup_self]; exact hn) (fun j hj => aup_ne (by omega)) hL, fun j hj => aup_ne (by omega)⟩
theorem rDoes_good {A : Int → Int} {v : Int} (hL : rLandOk A) (hS : rStOk A) (h : rWhyNot A v = 0) : rGood A (rDoes A v) := by
  rw [rWhyNot] at h
  rw [rDoes]
  by_cases z : v = -1
  · rw [if_pos z]; exact rHour_good hL hS
  rw [if_neg z] at h
  rw [if_neg z]
  by_cases z1 : 0 ≤ v ∧ v ≤ 5999
  · rw [if_pos z1] at h
    rw [if_pos (by omega)]
    split at h
    · exact rLay_ok hL hS h
    · omega
  rw [if_neg z1] at h
  by_cases z2 : 6000 ≤ v ∧ v ≤ 6999
  · rw [if_pos z2] at h
    rw [if_neg (by omega), if_pos (by omega)]; exact rOff_good hL hS h
  rw [if_neg z2] at h
  by_cases z3 : 7000 ≤ v ∧ v ≤ 7999
  · rw [if_pos z3] at h
    rw [if_neg (by omega), if_neg (by omega), if_pos (by omega)]; exact rOffs_good hL hS h
  rw [if_neg z3] at h
  by_cases z4 : 8000 ≤ v ∧ v ≤ 8999
  · rw [if_pos z4] at h
    rw [if_neg (by omega), if_neg (by omega), if_neg (by omega), if_pos (by omega)]; exact rOut_good hL hS h
  rw [if_neg z4] at h
  by_cases z5 : 9000 ≤ v ∧ v ≤ 9009
  · rw [if_neg (by omega), if_neg (by omega), if_neg (by omega), if_neg (by omega)]; exact rWet_good hL hS (by omega)
  · rw [if_neg z5] at h; omega
theorem rGood.land {A B : Int → Int} (h : rGood A B) (hL : rLandOk A) : rLandOk B := hL.congr (fun j hj => h.2 j (by omega))
theorem rGood.trans {A B C : Int → Int} (h : rGood A B) (h2 : rGood B C) : rGood A C := ⟨h2.1, fun j hj => (h2.2 j hj).trans (h.2 j hj)⟩
/-- told deeds, one behind the other, till one can't be: what is left, how many, why -/
noncomputable def rTells (w : Int → Int) : Nat → (Int → Int) → Int → (Int → Int) × Int × Int
  | 0, A, k => (A, k, 0)
  | n + 1, A, k => if rWhyNot A (w k) = 0 then rTells w n (rDoes A (w k)) (k + 1) else (A, k, rWhyNot A (w k))
theorem rTells_good (w : Int → Int) : ∀ (n : Nat) {A : Int → Int} (k : Int), rLandOk A → rStOk A → rGood A (rTells w n A k).1 := by
  intro n
  induction n with
  | zero => intro A k hL hS; exact ⟨hS, fun _ _ => rfl⟩
  | succ n ih =>
    intro A k hL hS
    rw [rTells]
    split
    · rename_i z
      have g := rDoes_good hL hS z
      exact g.trans (ih (k + 1) (g.land hL) g.1)
    · exact ⟨hS, fun _ _ => rfl⟩
/-- a drawn deed, and where the draws then are -/
def rDrawn (D x : Int) : Int × Int :=
  if (qushr (1103515245 * x + 12345) 16).tmod 6 = 3 then (-1, 1103515245 * x + 12345)
  else if 3 < (qushr (1103515245 * x + 12345) 16).tmod 6 then ((if (qushr (1103515245 * x + 12345) 16).tmod 6 = 4 then 8000 else 7000) + (qushr (1103515245 * (1103515245 * x + 12345) + 12345) 16).tmod D, 1103515245 * (1103515245 * x + 12345) + 12345)
  else (1000 * (qushr (1103515245 * (1103515245 * x + 12345) + 12345) 16).tmod D + 10 * (qushr (1103515245 * (1103515245 * (1103515245 * (1103515245 * x + 12345) + 12345) + 12345) + 12345) 16).tmod 2 + (1 + (qushr (1103515245 * (1103515245 * (1103515245 * x + 12345) + 12345) + 12345) 16).tmod 4), 1103515245 * (1103515245 * (1103515245 * (1103515245 * x + 12345) + 12345) + 12345) + 12345)
noncomputable def rSeason (D : Int) : Nat → (Int → Int) → Int → Int → (Int → Int) × Int
  | 0, A, _, c => (A, c)
  | n + 1, A, x, c => if rWhyNot A (rDrawn D x).1 = 0 then rSeason D n (rDoes A (rDrawn D x).1) (rDrawn D x).2 (c + 1) else rSeason D n A (rDrawn D x).2 c
theorem rSeason_good (D : Int) : ∀ (n : Nat) {A : Int → Int} (x c : Int), rLandOk A → rStOk A → rGood A (rSeason D n A x c).1 := by
  intro n
  induction n with
  | zero => intro A x c hL hS; exact ⟨hS, fun _ _ => rfl⟩
  | succ n ih =>
    intro A x c hL hS
    rw [rSeason]
    split
    · rename_i z
      have g := rDoes_good hL hS z
      exact g.trans (ih _ _ (g.land hL) g.1)
    · exact ih _ _ hL hS
section Ref56
variable {X : QX} {x : Int} {d : Nat} {post : Int → QMem → Prop} {M : QMem}
theorem td64 {a k : Int} (h : 0 ≤ a) (hk : 0 < k) (h2 : a ≤ 100000) : in64 (a.tdiv k) := by
  have := td_b h hk; exact (i64 (by omega) (by omega))
theorem m_whyNot (hL : rLandOk (M 216)) (hS : rStOk (M 216)) {v : Int} (hv : in64 v) (hp : ∀ M1, lK M M1 → post (rWhyNot (M 216) v) M1) : QCm X x (d + 4) 1 yX11_whyNot [(2, 215), (1, v)] M post := by
  have p0 := hp M (lK.refl M)
  unfold rWhyNot at p0 hp
  refine QC.of qmX11_whyNot_ok rfl (TX11_whyNot_0 ⟨fun z => ?_, fun z => ⟨hv, ?_⟩⟩)
  · rw [if_pos z] at p0; exact p0
  rw [if_neg z] at p0
  simp only [if_neg z] at hp
  refine m_within hv (i64 (by omega) (by omega)) (i64 (by omega) (by omega)) (fun a => ⟨fun y => absurd y (by decide), fun _ => ⟨(i32 (by omega) (by omega)), ?_⟩⟩) (fun a => ⟨fun _ => ?_, fun y => absurd rfl y⟩)
  · rw [if_pos a] at p0
    simp only [if_pos a] at hp
    have t1 := td_b (k := v) (w := 100) a.1 (by decide)
    have t2 := td_b (k := v) (w := 10) a.1 (by decide)
    have t3 := td_b (k := v) (w := 1000) a.1 (by decide)
    have t4 := tm_b (k := v) (w := 10) a.1 (by decide)
    have t5 := tm_b (k := v.tdiv 100) (w := 10) t1.1 (by decide)
    have t6 := tm_b (k := v.tdiv 10) (w := 10) t2.1 (by decide)
    refine ⟨(i64 (by omega) (by omega)), fun y => ⟨(i64 (by omega) (by omega)), (i64 (by omega) (by omega)), fun w => ?_, fun w => ?_⟩, fun y => ⟨(i64 (by omega) (by omega)), ?_⟩⟩
    · simp only [if_pos (show (v.tdiv 100).tmod 10 = 0 ∧ (v.tdiv 10).tmod 10 ≤ 1 from ⟨y, w⟩)] at hp
      exact m_whyLay hL hS (i64 (by omega) (by omega)) (i64 (by omega) (by omega)) (fun M1 h1 => hp M1 h1)
    · rw [if_neg (fun q => w q.2)] at p0; exact p0
    · rw [if_neg (fun q => y q.1)] at p0; exact p0
  rw [if_neg a] at p0
  refine m_within hv (i64 (by omega) (by omega)) (i64 (by omega) (by omega)) (fun a2 => ⟨fun y => absurd y (by decide), fun _ => ⟨(i32 (by omega) (by omega)), ?_⟩⟩) (fun a2 => ⟨fun _ => ?_, fun y => absurd rfl y⟩)
  · rw [if_pos a2] at p0; exact m_whyBack hL hS (i64 (by omega) (by omega)) p0
  rw [if_neg a2] at p0
  refine m_within hv (i64 (by omega) (by omega)) (i64 (by omega) (by omega)) (fun a3 => ⟨fun y => absurd y (by decide), fun _ => ⟨(i32 (by omega) (by omega)), ?_⟩⟩) (fun a3 => ⟨fun _ => ?_, fun y => absurd rfl y⟩)
  · rw [if_pos a3] at p0; exact m_whyIn hL hS (i64 (by omega) (by omega)) p0
  rw [if_neg a3] at p0
  refine m_within hv (i64 (by omega) (by omega)) (i64 (by omega) (by omega)) (fun a4 => ⟨fun y => absurd y (by decide), fun _ => ⟨(i32 (by omega) (by omega)), ?_⟩⟩) (fun a4 => ⟨fun _ => ?_, fun y => absurd rfl y⟩)
  · rw [if_pos a4] at p0; exact m_whyOut hL hS (i64 (by omega) (by omega)) p0
  rw [if_neg a4] at p0
  refine m_within hv (i64 (by omega) (by omega)) (i64 (by omega) (by omega)) (fun a5 => ⟨fun y => absurd y (by decide), fun _ => ⟨(i32 (by omega) (by omega)), ?_⟩⟩) (fun a5 => ⟨fun _ => ?_, fun y => absurd rfl y⟩)
  · rw [if_pos a5] at p0; exact p0
  · rw [if_neg a5] at p0; exact p0
/-- but for the numbers of the reference's state and the rows where laws are reckoned, all is as it was -/
def rK (M M1 : QMem) : Prop := ∀ a, a ≠ 216 → a ≠ 220 → a ≠ 221 → a ≠ 23 → a ≠ 26 → M1 a = M a
theorem rK.refl (M : QMem) : rK M M := fun _ _ _ _ _ _ => rfl
theorem rK.trans {M M1 M2 : QMem} (h : rK M M1) (h2 : rK M1 M2) : rK M M2 := fun a a0 a1 a2 a3 a4 => (h2 a a0 a1 a2 a3 a4).trans (h a a0 a1 a2 a3 a4)
theorem lK.rK {M M1 : QMem} (h : lK M M1) : rK M M1 := fun a _ a1 a2 a3 a4 => h a a1 a2 a3 a4
theorem lK.all {M M1 : QMem} (h : lK M M1) : M1 216 = M 216 := h 216 (by decide) (by decide) (by decide) (by decide)
theorem m_does (hL : rLandOk (M 216)) (hS : rStOk (M 216)) {v : Int} (h : rWhyNot (M 216) v = 0) (hp : ∀ M1, rK M M1 → M1 216 = rDoes (M 216) v → post 0 M1) : QCm X x (d + 4) 0 yX11_does [(2, 215), (0, v)] M post := by
  have rng := rWhyNot_rng h
  have a3 := hL.2.2.1
  have hcl := hL.cells
  have hT := hS.2.2.2.1
  unfold rDoes at hp
  unfold rWhyNot at h
  refine QC.of qmX11_does_ok rfl (TX11_does_0 ⟨fun z => ?_, fun z => ⟨(i32 (by omega) (by omega)), fun z1 => ⟨fun z2 => ⟨fun z3 => ⟨fun z4 => ?_, fun z4 => ?_⟩, fun z3 => ?_⟩, fun z2 => ?_⟩, fun z1 => ?_⟩⟩)
  · simp only [if_pos z] at hp
    exact m_goesHour hL hS (fun M1 h1 h2 => hp M1 (fun a a0 _ _ _ _ => h1 a a0) h2)
  · simp only [if_neg z, if_neg (show ¬ v < 6000 by omega), if_neg (show ¬ v < 7000 by omega), if_neg (show ¬ v < 8000 by omega), if_neg (show ¬ v < 9000 by omega)] at hp
    exact hp _ (fun a a0 _ _ _ _ => qup_row a0) (qup_aup _ _ _ _)
  · simp only [if_neg z, if_neg (show ¬ v < 6000 by omega), if_neg (show ¬ v < 7000 by omega), if_neg (show ¬ v < 8000 by omega), if_pos (show v < 9000 by omega)] at hp
    rw [if_neg z, if_neg (by omega), if_neg (by omega), if_neg (by omega), if_pos (by omega)] at h
    have w := rWhyOut_zero h
    exact m_setsOut (by omega) (fun M1 h1 h2 => hp M1 (fun a a0 _ _ _ _ => h1 a a0) h2)
  · simp only [if_neg z, if_neg (show ¬ v < 6000 by omega), if_neg (show ¬ v < 7000 by omega), if_pos (show v < 8000 by omega)] at hp
    rw [if_neg z, if_neg (by omega), if_neg (by omega), if_pos (by omega)] at h
    obtain ⟨w1, w2, w3⟩ := rWhyIn_zero h
    exact m_takesAll hL hS w1 w3 (fun M1 h1 h2 => hp M1 (fun a a0 _ _ _ _ => h1 a a0) h2)
  · simp only [if_neg z, if_neg (show ¬ v < 6000 by omega), if_pos (show v < 7000 by omega)] at hp
    rw [if_neg z, if_neg (by omega), if_pos (by omega)] at h
    obtain ⟨w1, w2, w3, w4⟩ := rWhyBack_zero h
    have hl := hS.2.1.1 (v - 6000) w1.1 (by omega)
    have hE := rEnd_b hL hS.2.1 w1.1 w1.2
    have hc := hS.2.2.1 _ hE.1 (by omega)
    rw [rEnd, if_neg w2] at hE hc
    exact m_takesOff (by omega) (by omega) (by omega) (i32 (by omega) (by omega)) (fun M1 h1 h2 => hp M1 (fun a a0 _ _ _ _ => h1 a a0) h2)
  · rw [if_neg z, if_pos (by omega)] at h
    simp only [if_neg z, if_pos (show v < 6000 by omega)] at hp
    have t2 := td_b (k := v) (w := 10) (by omega) (by decide)
    have t6 := tm_b (k := v.tdiv 10) (w := 10) t2.1 (by decide)
    split at h
    · obtain ⟨⟨e1, t1⟩, w1, w2, w3, w4, w5⟩ := rWhyLay_zero h
      refine ⟨(i32 (by omega) (by omega)), fun y => ?_, fun y => ⟨(i32 (by omega) (by omega)), ?_⟩⟩
      · simp only [if_pos y] at hp
        exact m_lays hL hS e1 t1 ⟨by decide, by decide⟩ w1 w3 (fun M1 h1 h2 => hp M1 h1 h2)
      · simp only [if_neg y] at hp
        exact m_lays hL hS e1 t1 ⟨by decide, by decide⟩ w1 w3 (fun M1 h1 h2 => hp M1 h1 h2)
    · omega
end Ref56
