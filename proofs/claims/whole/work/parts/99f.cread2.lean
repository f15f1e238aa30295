def a0L : Int → Int := fun j => if j = 1 ∨ j = 2 then 2 else if 258 ≤ j ∧ j < 330 then -1 else 0
def l0L : Int → List Int := fun _ => []
/-- a whole text -/
noncomputable def pText (kd vl : Nat → Int) (f g : Nat) : QL :=
  if kd 0 = 0 then (if nOk kd vl 2 6 1 = true then (if nOk kd vl 2 6 2 = true then (if kd 3 = 30 then pLns kd vl f g (aup (aup (aup a0L 1 (vl 1)) 2 (vl 2)) 0 1) l0L 4 else toQL (pFl kd 2 3) a0L l0L) else toQL (pFl kd (nW kd 2) 2) a0L l0L) else toQL (pFl kd (nW kd 1) 1) a0L l0L) else toQL (pFl kd 2 0) a0L l0L
def cFin (b : Int → Int) (n : Int) (r : QL) (v : Int) (M1 : QMem) : Prop := (r.1 = 0 → v = 1 ∧ M1 2 0 = 0 ∧ M1 2 1 = -1 ∧ pOk r.2.2.1 r.2.2.2 ∧ cRd r.2.2.1 r.2.2.2 M1) ∧ (r.1 ≠ 0 → v = 0 ∧ M1 2 0 = r.1 ∧ M1 2 1 = tS b n (tpos b n r.2.1))
theorem rSum_z {A : Int → Int} {o : Int} : ∀ N : Nat, (∀ i : Nat, i < N → A (o + i) = 0) → rSum A o N = 0
  | 0, _ => rfl
  | N + 1, h => by rw [rSum, rSum_z N (fun i hi => h i (by omega)), h N (by omega)]; rfl
theorem pOk.zero {A : Int → Int} {L : Int → List Int} (h : pOk A L) (v : Int) : pOk (aup A 0 v) L := by
  have u : ∀ j, j ≠ 0 → aup A 0 v j = A j := fun j hj => aup_ne hj
  obtain ⟨p1, p2, p3, p4, p5, p6, p7, p8, p9⟩ := h
  refine ⟨by rw [u 1 (by omega)]; exact p1, by rw [u 2 (by omega)]; exact p2, by rw [u 3 (by omega)]; exact p3, fun q q0 q1 => by rw [u _ (by omega)]; exact p4 q q0 q1, fun q q0 q1 => ?_, by rw [u 52 (by omega)]; exact p6, fun q hq => by rw [u q (by omega)]; exact p7 q hq, fun q q0 q1 => by rw [u q (by omega)]; exact p8 q q0 q1, p9⟩
  rw [u 3 (by omega)] at q1
  rw [u (46 + q) (by omega), u (54 + q) (by omega), u 1 (by omega), u 2 (by omega)]; exact p5 q q0 q1
theorem pOk.first {w h : Int} (hw : 2 ≤ w ∧ w ≤ 6) (hh : 2 ≤ h ∧ h ≤ 6) : pOk (aup (aup (aup a0L 1 w) 2 h) 0 1) l0L := by
  have u : ∀ j, j ≠ 0 → j ≠ 1 → j ≠ 2 → (aup (aup (aup a0L 1 w) 2 h) 0 1) j = if 258 ≤ j ∧ j < 330 then -1 else 0 := fun j j0 j1 j2 => by
    rw [aup_ne j0, aup_ne j2, aup_ne j1]; unfold a0L; rw [if_neg (by omega)]
  have u1 : (aup (aup (aup a0L 1 w) 2 h) 0 1) 1 = w := by rw [aup_ne (by decide), aup_ne (by decide), aup_self]
  have u2 : (aup (aup (aup a0L 1 w) 2 h) 0 1) 2 = h := by rw [aup_ne (by decide), aup_self]
  generalize aup (aup (aup a0L 1 w) 2 h) 0 1 = B at *
  refine ⟨by rw [u1]; exact hw, by rw [u2]; exact hh, by rw [u 3 (by omega) (by omega) (by omega), if_neg (by omega)]; decide, fun q q0 q1 => by rw [u _ (by omega) (by omega) (by omega), if_neg (by omega)]; exact Or.inl rfl, fun q q0 q1 => ?_, by rw [u 52 (by omega) (by omega) (by omega), if_neg (by omega)]; decide, fun q hq => by rw [u q (by omega) (by omega) (by omega), if_neg (by omega)], fun q q0 q1 => by rw [u q (by omega) (by omega) (by omega), if_pos (by omega)], fun l hl => Or.inl rfl⟩
  rw [u 3 (by omega) (by omega) (by omega), if_neg (by omega)] at q1
  omega
theorem cRd.line {A : Int → Int} {L : Int → List Int} {M M3 : QMem} (r : cRd A L M) (ok : pOk A L) (g3 : ∀ q, M3 3 q = if q = 4 then A 0 + 1 else M 3 q) (g : ∀ a, 4 ≤ a → a ≤ 11 → M3 a = M a) : cRd (aup A 0 (A 0 + 1)) L M3 := by
  have u : ∀ q, q ≠ 0 → aup A 0 (A 0 + 1) q = A q := fun q hq => aup_ne hq
  have hh : ∀ q, rHome (aup A 0 (A 0 + 1)) q ↔ rHome A q := rHome_cg (u 3 (by omega)) (fun e e0 e1 => u _ (by omega))
  obtain ⟨⟨r0, r1, r2, r3, r4, r5, r6⟩, s2, s3, s4⟩ := r
  refine ⟨⟨?_, ?_, ?_, ?_, ?_, ?_, ?_⟩, fun q q0 q1 => ?_, fun q q0 q1 => ?_, fun l hl => ?_⟩
  · rw [g3, if_neg (by omega), u 1 (by omega)]; exact r0
  · rw [g3, if_neg (by omega), u 2 (by omega)]; exact r1
  · rw [g3, if_neg (by omega), u 3 (by omega)]; exact r2
  · rw [g3, if_neg (by omega), u 1 (by omega), u 2 (by omega), r3]
    exact (rSum_congr (fun q hq => u _ (by omega))).symm
  · rw [g3, if_pos rfl]; exact (aup_self _ _ _).symm
  · rw [g3, if_neg (by omega), u 52 (by omega)]; exact r5
  · rw [g3, if_neg (by omega), u 53 (by omega)]; exact r6
  · rw [hh, u _ (by omega), g 4 (by omega) (by omega)]; exact s2 q q0 q1
  · rw [u 3 (by omega)] at q1
    rw [u _ (by omega), u (54 + q) (by omega), g 5 (by omega) (by omega), g 6 (by omega) (by omega)]; exact s3 q q0 q1
  · rw [g (7 + 3 * l) (by omega) (by omega), g (8 + 3 * l) (by omega) (by omega)]; exact s4 l hl
section CRead2
variable {X : QX} {x : Int} {d : Nat} {post : Int → QMem → Prop} {M : QMem} {b : Int → Int} {n : Int} {T : Nat} {i : Nat}
theorem c_lines {f : Nat} {post : Int → Int → QMem → Prop} {M0 : QMem} (hn : 0 ≤ n ∧ n ≤ 900) (hf : 12 * T + 20 < f) : ∀ (g : Nat) (x : Int) (i : Nat) (c : Int) (A : Int → Int) (L : Int → List Int) (M : QMem), i ≤ T → T < g + i → cTok b n T M → cHd M i → M 2 0 = 0 → M 2 1 = -1 → (0 ≤ c ∧ c + 4 ≤ i) → cRd A L M → pOk A L → (∀ a, a < 2 ∨ 14 ≤ a → M a = M0 a) → (∀ v y M1, (∀ a, a < 2 ∨ 14 ≤ a → M1 a = M0 a) → cFin b n (pLns (kdf b n) (vlf b n) f g A L i) v M1 → v = 0 ∨ v = 1 → post v y M1) → QRx X x (d + 37) qmX5_read post 37 [(0, (2, 2)), (3, (0, c))] [] M := by
  intro g
  induction g with
  | zero => intro x i c A L M hi hg; exact absurd hg (by omega)
  | succ g ih =>
    intro x i c A L M hi hg h h4 h20 h21 hc r ok hfr hp
    have tk := h.tk hn.1
    have t1 := h.1
    have kv : pVal (kdf b n i) := tKd_val b n (tpos b n i)
    have kb := cK_b kv
    have c24 : cK 24 = 0 := rfl
    have e : pLns (kdf b n) (vlf b n) f (g + 1) A L i = (if kdf b n i = 24 then (0, i, A, L) else if (pLine (kdf b n) (vlf b n) f A L i).1 ≠ 0 then pLine (kdf b n) (vlf b n) f A L i else if kdf b n (pLine (kdf b n) (vlf b n) f A L i).2.1 = 30 then pLns (kdf b n) (vlf b n) f g (aup (pLine (kdf b n) (vlf b n) f A L i).2.2.1 0 ((pLine (kdf b n) (vlf b n) f A L i).2.2.1 0 + 1)) (pLine (kdf b n) (vlf b n) f A L i).2.2.2 ((pLine (kdf b n) (vlf b n) f A L i).2.1 + 1) else toQL (pFl (kdf b n) 2 (pLine (kdf b n) (vlf b n) f A L i).2.1) A L) := rfl
    rw [e] at hp
    clear e
    refine TX5_read_37 ⟨(i32 (by omega) (by omega)), fun z => absurd z (by omega), fun _ => ?_⟩
    rw [c_kd h hi h4]
    refine ⟨fun z => ?_, fun z => ⟨(i32 (by omega) (by omega)), ?_⟩⟩
    · have k : kdf b n i = 24 := (cK_inj kv 24 (by unfold pVal; omega)).1 (z.trans c24.symm)
      rw [if_pos k] at hp
      exact hp _ _ _ hfr ⟨fun _ => ⟨rfl, h20, h21, ok, r⟩, fun y => absurd rfl y⟩ (Or.inr rfl)
    have k : kdf b n i ≠ 24 := fun y => z (by rw [y]; rfl)
    rw [if_neg k] at hp
    have lo := pLine_ok tk (by omega) hi hf k ok
    refine c_line (f := f) h hi h4 hn hf r ok (fun v y M1 m1 hv => ?_)
    generalize pLine (kdf b n) (vlf b n) f A L i = R at *
    have fr1 : ∀ a, a < 2 ∨ 14 ≤ a → M1 a = M0 a := fun a ha => (m1.1 a ha).trans (hfr a ha)
    by_cases z0 : R.1 ≠ 0
    · rw [if_pos z0] at hp
      obtain ⟨v0, q1, q2⟩ := m1.2.2 z0
      subst v0
      exact ⟨fun _ => hp _ _ _ fr1 ⟨fun w => absurd w z0, fun _ => ⟨rfl, q1, q2⟩⟩ (Or.inl rfl), fun w => absurd rfl w⟩
    rw [if_neg z0] at hp
    have z1 : R.1 = 0 := Classical.byContradiction z0
    obtain ⟨v0, q4, q0, q1, q13, rr⟩ := m1.2.1 z1
    obtain ⟨o1, o2, o3⟩ := lo.1 z1
    subst v0
    refine ⟨fun w => absurd w (by decide), fun _ => ⟨(i32 (by omega) (by omega)), ?_⟩⟩
    have h1 : cTok b n T M1 := h.of q13 (m1.1 14 (by omega)) (m1.1 15 (by omega)) (m1.1 16 (by omega))
    refine c_skipB (i := R.2.1) h1 o2 q4 (k := 30) (by unfold pVal; omega) (by decide +kernel) (fun w M3 m3 => ⟨fun w => absurd w (by decide), fun _ => ⟨(i32 (by omega) (by omega)), ?_⟩⟩) (fun w M3 m3 => ⟨fun _ => ?_, fun w => absurd rfl w⟩)
    · rw [if_pos w] at hp
      have l3 := tk.lt (i := R.2.1) o2 (fun y => absurd (w.symm.trans y) (by decide)) (fun y => absurd (w.symm.trans y) (by decide))
      have e34 : M3 3 4 = R.2.2.1 0 := by rw [m3.1 3 (by decide)]; exact rr.1.2.2.2.2.1
      rw [e34]
      have g0 : ∀ a, a ≠ 3 → (qup M3 3 4 (R.2.2.1 0 + 1)) a = M3 a := fun a ha => qup_row ha
      have g3 : ∀ q, (qup M3 3 4 (R.2.2.1 0 + 1)) 3 q = if q = 4 then R.2.2.1 0 + 1 else M1 3 q := fun q => by rw [qup_at, m3.1 3 (by decide)]
      generalize qup M3 3 4 (R.2.2.1 0 + 1) = M4 at *
      refine ih y (R.2.1 + 1) (c + 1) _ _ M4 l3 (by omega) ((h1.aO m3).congr (fun a a0 a1 => g0 a (by omega))) ?_ ?_ ?_ (by omega) (rr.line o3 g3 (fun a a0 a1 => by rw [g0 a (by omega), m3.1 a (by omega)])) (o3.zero _) (fun a ha => by rw [g0 a (by omega), m3.1 a (by omega), fr1 a ha]) hp
      · exact m3.2.2.2.cg (fun a a0 a1 => g0 a (by omega))
      · rw [g0 2 (by decide), m3.2.1, q0, h20]
      · rw [g0 2 (by decide), m3.2.2.1.1, q1, h21]
    · rw [if_neg w] at hp
      exact hp _ _ _ (fun a ha => by rw [m3.1 a (by omega) (by omega), fr1 a ha]) ⟨fun u => absurd u (pFl_ne (by decide)), fun _ => ⟨rfl, m3.2.1, m3.2.2⟩⟩ (Or.inl rfl)
theorem c_rdLand {f g : Nat} (h : cTok b n T M) (h4 : cHd M 0) (hn : 0 ≤ n ∧ n ≤ 900) (r : cRd a0L l0L M) (h1 : pText (kdf b n) (vlf b n) f g = pLns (kdf b n) (vlf b n) f g (aup (aup (aup a0L 1 (vlf b n 1)) 2 (vlf b n 2)) 0 1) l0L 4 → 4 ≤ T → pOk (aup (aup (aup a0L 1 (vlf b n 1)) 2 (vlf b n 2)) 0 1) l0L → ∀ M1, (∀ a, a < 2 ∨ 14 ≤ a → M1 a = M a) → M1 2 0 = M 2 0 → M1 2 1 = M 2 1 → cHd M1 4 → M1 13 3 = M 13 3 → cRd (aup (aup (aup a0L 1 (vlf b n 1)) 2 (vlf b n 2)) 0 1) l0L M1 → post 1 M1) (h0 : ∀ rr : Int × Nat × List Int, pText (kdf b n) (vlf b n) f g = toQL rr a0L l0L → rr.1 ≠ 0 → ∀ M1, (∀ a, a < 2 ∨ 14 ≤ a → M1 a = M a) → M1 2 0 = rr.1 → M1 2 1 = tS b n (tpos b n rr.2.1) → post 0 M1) : QCm X x (d + 4) 1 yX5_readLand [(2, 2)] M post := by
  have tk := h.tk hn.1
  refine QC.of qmX5_readLand_ok rfl (TX5_readLand_0 ?_)
  refine c_skipB (i := 0) h (by omega) h4 (k := 0) (by unfold pVal; omega) rfl (fun z M1 m1 => ⟨fun y => absurd y (by decide), fun _ => ⟨(i32 (by omega) (by omega)), ?_⟩⟩) (fun z M1 m1 => ⟨fun _ => h0 _ (by unfold pText; rw [if_neg z]) (pFl_ne (by decide)) M1 (fun a ha => m1.1 a (by omega) (by omega)) m1.2.1 m1.2.2, fun y => absurd rfl y⟩)
  have l0 := tk.lt (i := 0) (show 0 ≤ T by omega) (fun y => absurd (z.symm.trans y) (by decide)) (fun y => absurd (z.symm.trans y) (by decide))
  refine c_num (i := 1) (h.aO m1) l0 m1.2.2.2 hn (i32 (by omega) (by omega)) (i32 (by omega) (by omega)) (fun z1 M2 m2 => ?_) (fun z1 M2 m2 => ⟨fun _ => h0 _ (by unfold pText; rw [if_pos z, if_neg z1]) (pFl_ne (nW_b _ _).1) M2 (fun a ha => (aB.after m1 m2).1 a (by omega) (by omega)) m2.2.1 m2.2.2, fun y => absurd rfl y⟩)
  have b1 := nOk_iff.1 z1
  have l1 := tk.lt (i := 1) (show 1 ≤ T by omega) (fun y => absurd (b1.1.symm.trans y) (by decide)) (fun y => absurd (b1.1.symm.trans y) (by decide))
  have m12 := m1.trans m2
  refine ⟨fun y => absurd y (by omega), fun _ => ⟨(i32 (by omega) (by omega)), ?_⟩⟩
  refine c_num (i := 2) (h.aO m12) l1 m12.2.2.2 hn (i32 (by omega) (by omega)) (i32 (by omega) (by omega)) (fun z2 M3 m3 => ?_) (fun z2 M3 m3 => ⟨fun _ => h0 _ (by unfold pText; rw [if_pos z, if_pos z1, if_neg z2]) (pFl_ne (nW_b _ _).1) M3 (fun a ha => (aB.after m12 m3).1 a (by omega) (by omega)) m3.2.1 m3.2.2, fun y => absurd rfl y⟩)
  have b2 := nOk_iff.1 z2
  have l2 := tk.lt (i := 2) (show 2 ≤ T by omega) (fun y => absurd (b2.1.symm.trans y) (by decide)) (fun y => absurd (b2.1.symm.trans y) (by decide))
  have m13 := m12.trans m3
  refine ⟨fun y => absurd y (by omega), fun _ => ⟨(i32 (by omega) (by omega)), ?_⟩⟩
  have q0 : ∀ a, a ≠ 3 → (qup (qup (qup M3 3 0 (vlf b n 1)) 3 1 (vlf b n 2)) 3 4 1) a = M3 a := fun a ha => by rw [qup_row ha, qup_row ha, qup_row ha]
  have q3 : ∀ j, (qup (qup (qup M3 3 0 (vlf b n 1)) 3 1 (vlf b n 2)) 3 4 1) 3 j = if j = 4 then 1 else if j = 1 then vlf b n 2 else if j = 0 then vlf b n 1 else M 3 j := fun j => by rw [qup_at, qup_at, qup_at, m13.1 3 (by decide)]
  generalize qup (qup (qup M3 3 0 (vlf b n 1)) 3 1 (vlf b n 2)) 3 4 1 = M4 at *
  refine c_skipB (i := 3) ((h.aO m13).congr (fun a a0 a1 => q0 a (by omega))) l2 (m13.2.2.2.cg (fun a a0 a1 => q0 a (by omega))) (k := 30) (by unfold pVal; omega) (by decide +kernel) (fun z3 M5 m5 => ⟨Or.inr rfl, ?_⟩) (fun z3 M5 m5 => ⟨Or.inl rfl, h0 _ (by unfold pText; rw [if_pos z, if_pos z1, if_pos z2, if_neg z3]) (pFl_ne (by decide)) M5 (fun a ha => by rw [m5.1 a (by omega) (by omega), q0 a (by omega), m13.1 a (by omega)]) m5.2.1 m5.2.2⟩)
  have l3 := tk.lt (i := 3) (show 3 ≤ T by omega) (fun y => absurd (z3.symm.trans y) (by decide)) (fun y => absurd (z3.symm.trans y) (by decide))
  have rk : ∀ a, a ≠ 13 → a ≠ 3 → M5 a = M a := fun a a0 a1 => by rw [m5.1 a a0, q0 a a1, m13.1 a a0]
  have pf := pOk.first (w := vlf b n 1) (h := vlf b n 2) b1.2 b2.2
  refine h1 (by unfold pText; rw [if_pos z, if_pos z1, if_pos z2, if_pos z3]) l3 pf M5 (fun a ha => rk a (by omega) (by omega)) (by rw [m5.2.1, q0 2 (by decide), m13.2.1]) (by rw [m5.2.2.1.1, q0 2 (by decide), m13.2.2.1.1]) m5.2.2.2 (by rw [m5.2.2.1.2.2 3 (by decide), q0 13 (by decide)]; exact m13.2.2.1.2.2 3 (by decide)) ?_
  have u : ∀ j, j ≠ 0 → j ≠ 1 → j ≠ 2 → (aup (aup (aup a0L 1 (vlf b n 1)) 2 (vlf b n 2)) 0 1) j = a0L j := fun j j0 j1 j2 => by rw [aup_ne j0, aup_ne j2, aup_ne j1]
  have u0 : (aup (aup (aup a0L 1 (vlf b n 1)) 2 (vlf b n 2)) 0 1) 0 = 1 := aup_self _ _ _
  have u1 : (aup (aup (aup a0L 1 (vlf b n 1)) 2 (vlf b n 2)) 0 1) 1 = vlf b n 1 := by rw [aup_ne (by decide), aup_ne (by decide), aup_self]
  have u2 : (aup (aup (aup a0L 1 (vlf b n 1)) 2 (vlf b n 2)) 0 1) 2 = vlf b n 2 := by rw [aup_ne (by decide), aup_self]
  have hc := rSt_zero pf.1 pf.2.1
  generalize aup (aup (aup a0L 1 (vlf b n 1)) 2 (vlf b n 2)) 0 1 = B at *
  have hh : ∀ q, rHome B q ↔ rHome a0L q := rHome_cg (u 3 (by omega) (by omega) (by omega)) (fun e e0 e1 => u _ (by omega) (by omega) (by omega))
  have e3 : ∀ j, M5 3 j = if j = 4 then 1 else if j = 1 then vlf b n 2 else if j = 0 then vlf b n 1 else M 3 j := fun j => by rw [m5.1 3 (by decide), q3]
  have a10 : ∀ k, 0 ≤ k → k < 36 → a0L (10 + k) = 0 := fun k k0 k1 => by unfold a0L; rw [if_neg (by omega), if_neg (by omega)]
  obtain ⟨⟨r0, r1, r2, r3, r4, r5, r6⟩, s2, s3, s4⟩ := r
  refine ⟨⟨?_, ?_, ?_, ?_, ?_, ?_, ?_⟩, fun q q0 q1 => ?_, fun q q0 q1 => ?_, fun l hl => ?_⟩
  · rw [e3, if_neg (by decide), if_neg (by decide), if_pos rfl, u1]
  · rw [e3, if_neg (by decide), if_pos rfl, u2]
  · rw [e3, if_neg (by decide), if_neg (by decide), if_neg (by decide), u 3 (by omega) (by omega) (by omega)]; exact r2
  · rw [e3, if_neg (by decide), if_neg (by decide), if_neg (by decide), r3, rSum_z _ (fun k hk => a10 _ (by omega) (by have : (a0L 1 * a0L 2).toNat = 4 := rfl; omega))]
    exact (rSum_z _ (fun k hk => by rw [u _ (by omega) (by omega) (by omega)]; exact a10 _ (by omega) (by omega))).symm
  · rw [e3, if_pos rfl, u0]
  · rw [e3, if_neg (by decide), if_neg (by decide), if_neg (by decide), u 52 (by omega) (by omega) (by omega)]; exact r5
  · rw [e3, if_neg (by decide), if_neg (by decide), if_neg (by decide), u 53 (by omega) (by omega) (by omega)]; exact r6
  · rw [hh, u _ (by omega) (by omega) (by omega), rk 4 (by omega) (by omega)]; exact s2 q q0 q1
  · rw [u 3 (by omega) (by omega) (by omega)] at q1
    rw [u _ (by omega) (by omega) (by omega), u (54 + q) (by omega) (by omega) (by omega), rk 5 (by omega) (by omega), rk 6 (by omega) (by omega)]; exact s3 q q0 q1
  · rw [rk (7 + 3 * l) (by omega) (by omega), rk (8 + 3 * l) (by omega) (by omega)]; exact s4 l hl
theorem c_text {post : Int → Int → QMem → Prop} (hb : bOk b M) (hn : 0 ≤ n ∧ n ≤ 900) (hp : ∀ (T : Nat) v y M1, (T : Int) ≤ n → tkOk (kdf b n) (vlf b n) T → (∀ a, a < 2 ∨ 17 ≤ a → M1 a = M a) → cFin b n (pText (kdf b n) (vlf b n) (12 * T + 21) (T + 1)) v M1 → v = 0 ∨ v = 1 → post v y M1) : QCx X x (d + 37) 1 yX5_read [(2, 2), (2, 1), (0, n)] M post := by
  refine QC.of qmX5_read_ok rfl (TX5_read_0 ?_)
  have q0 : ∀ a, a ≠ 2 → (qup (qup M 2 0 0) 2 1 (-1)) a = M a := fun a ha => by rw [qup_row ha, qup_row ha]
  have q1 : (qup (qup M 2 0 0) 2 1 (-1)) 2 0 = 0 ∧ (qup (qup M 2 0 0) 2 1 (-1)) 2 1 = -1 := ⟨by rw [qup_at, if_neg (by decide), qup_at, if_pos rfl], by rw [qup_at, if_pos rfl]⟩
  generalize qup (qup M 2 0 0) 2 1 (-1) = M0 at *
  refine QC.of qmX1_clear_ok rfl (TX1_clear_0 ?_)
  have f3 : ∀ j, (qup (qup (qup (qup (qup (qup (qup M0 3 0 2) 3 1 2) 3 2 0) 3 3 0) 3 4 0) 3 5 0) 3 6 0) 3 j = if j = 6 then 0 else if j = 5 then 0 else if j = 4 then 0 else if j = 3 then 0 else if j = 2 then 0 else if j = 1 then 2 else if j = 0 then 2 else M0 3 j := fun j => by rw [qup_at, qup_at, qup_at, qup_at, qup_at, qup_at, qup_at]
  have f0 : ∀ a, a ≠ 3 → (qup (qup (qup (qup (qup (qup (qup M0 3 0 2) 3 1 2) 3 2 0) 3 3 0) 3 4 0) 3 5 0) 3 6 0) a = M0 a := fun a ha => by rw [qup_row ha, qup_row ha, qup_row ha, qup_row ha, qup_row ha, qup_row ha, qup_row ha]
  generalize qup (qup (qup (qup (qup (qup (qup M0 3 0 2) 3 1 2) 3 2 0) 3 3 0) 3 4 0) 3 5 0) 3 6 0 = M1 at *
  refine j_fill (n := 36) rfl (by decide) (by decide) (fun M2 m2 m2v => ?_)
  refine QC.of qmX2_clear_ok rfl (TX2_clear_0 (Or.inl rfl) (QC.of qmX2_clear_ok rfl (TX2_clear_0 (Or.inr rfl) ?_)))
  have g0 : ∀ a, a ≠ 7 → a ≠ 10 → (qup (qup M2 7 2 0) 10 2 0) a = M2 a := fun a a0 a1 => by rw [qup_row a1, qup_row a0]
  have g7 : (qup (qup M2 7 2 0) 10 2 0) 7 2 = 0 := by rw [qup_row (by decide), qup_at, if_pos rfl]
  have g10 : (qup (qup M2 7 2 0) 10 2 0) 10 2 = 0 := by rw [qup_at, if_pos rfl]
  generalize qup (qup M2 7 2 0) 10 2 0 = M3 at *
  have k1 : ∀ a, a ≠ 2 → a ≠ 3 → a ≠ 4 → a ≠ 7 → a ≠ 10 → M3 a = M a := fun a a0 a1 a2 a3 a4 => by rw [g0 a a3 a4, m2 a a2, f0 a a1, q0 a a0]
  refine c_cut (b := b) (fun j j0 j1 => by rw [k1 1 (by omega) (by omega) (by omega) (by omega) (by omega)]; exact hb j j0 j1) hn (fun T M4 m4 h hd => ?_)
  have k2 : ∀ a, a ≤ 12 → M4 a = M3 a := fun a ha => m4 a (by omega) (by omega) (by omega) (by omega)
  have r : cRd a0L l0L M4 := by
    have e3 : M4 3 = M1 3 := by rw [k2 3 (by omega), g0 3 (by omega) (by omega), m2 3 (by omega)]
    have h0 : ∀ q, ¬ rHome a0L q := fun q => by
      rintro ⟨e, e0, e1, e2⟩
      have : a0L 3 = 0 := rfl
      omega
    refine ⟨?_, fun q q0 q1 => ?_, fun q q0 q1 => ?_, fun l hl => ?_⟩
    · rw [e3, f3, f3, f3, f3, f3, f3, f3]; exact ⟨rfl, rfl, rfl, rfl, rfl, rfl, rfl⟩
    · rw [k2 4 (by omega), g0 4 (by omega) (by omega)]
      have a1 : a0L (10 + q) = 0 := by unfold a0L; rw [if_neg (by omega), if_neg (by omega)]
      exact ⟨fun z => absurd z (by omega), fun _ => ⟨fun z => absurd z (h0 q), fun _ => m2v q q0 q1⟩⟩
    · have : a0L 3 = 0 := rfl
      omega
    · refine ⟨?_, fun q hq => absurd hq (Nat.not_lt_zero _)⟩
      rcases hl with rfl | rfl
      · rw [k2 (7 + 3 * 0) (by omega)]; exact g7
      · rw [k2 (7 + 3 * 1) (by omega)]; exact g10
  have e2 : M4 2 = M0 2 := by rw [k2 2 (by omega), g0 2 (by omega) (by omega), m2 2 (by omega), f0 2 (by omega)]
  have kk : ∀ a, a < 2 ∨ 17 ≤ a → M4 a = M a := fun a ha => by rw [m4 a (by omega) (by omega) (by omega) (by omega), k1 a (by omega) (by omega) (by omega) (by omega) (by omega)]
  have tk := h.tk hn.1
  refine c_rdLand (f := 12 * T + 21) (g := T + 1) h hd hn r (fun et l4 pf M5 n1 n2 n3 n4 n6 n5 => ⟨fun z => absurd z (by decide), fun _ => ⟨(i32 (by omega) (by omega)), ?_⟩⟩) (fun rr et z M5 n1 n2 n3 => ⟨fun _ => ?_, fun z => absurd rfl z⟩)
  · refine c_lines (T := T) (f := 12 * T + 21) (M0 := M5) hn (by omega) (T + 1) x 4 0 _ _ M5 l4 (by omega) (h.of n6 (n1 14 (by omega)) (n1 15 (by omega)) (n1 16 (by omega))) n4 (by rw [n2, e2]; exact q1.1) (by rw [n3, e2]; exact q1.2) (by decide) n5 pf (fun _ _ => rfl) (fun v y M6 o1 o2 o3 => hp T v y M6 h.1 tk (fun a ha => by rw [o1 a (by omega), n1 a (by omega), kk a ha]) (by rw [et]; exact o2) o3)
  · refine hp T 0 x M5 h.1 tk (fun a ha => by rw [n1 a (by omega), kk a ha]) ?_ (Or.inl rfl)
    rw [et]
    exact ⟨fun y => absurd y z, fun _ => ⟨rfl, n2, n3⟩⟩
end CRead2
