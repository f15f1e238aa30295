/-- the reference's land as far as it was read -/
def rRd (A : Int → Int) (L : Int → List Int) (M : QMem) : Prop := (∀ j, 0 ≤ j → j < 3474 → j < 4 ∨ 10 ≤ j → M 219 j = A j) ∧ (∀ l, l = 0 ∨ l = 1 → (L l = [] ∧ M 219 (4 + l) = 0) ∨ (L l ≠ [] ∧ M 219 (4 + l) = 1 ∧ M 219 (8 + l) = ((L l).length : Int) ∧ 0 ≤ M 219 (6 + l) ∧ M 219 (6 + l) + ((L l).length : Int) ≤ M 219 3474 ∧ ∀ q : Nat, q < (L l).length → M 219 (3475 + M 219 (6 + l) + q) = (L l).getD q 0)) ∧ 0 ≤ M 219 3474
theorem rRd.congr {A : Int → Int} {L : Int → List Int} {M M1 : QMem} (h : rRd A L M) (e : M1 219 = M 219) : rRd A L M1 := by
  unfold rRd; rw [e]; exact h
theorem rRd.put {A : Int → Int} {L : Int → List Int} {M : QMem} (h : rRd A L M) {j v : Int} (hj : j < 4 ∨ 10 ≤ j) (hj2 : j < 3474) : rRd (aup A j v) L (qup M 219 j v) := by
  have e : ∀ q, q ≠ j → (qup M 219 j v) 219 q = M 219 q := fun q hq => by rw [qup_at, if_neg hq]
  refine ⟨fun q q0 q1 q2 => ?_, fun l hl => ?_, by rw [e 3474 (by omega)]; exact h.2.2⟩
  · rw [qup_at]
    unfold aup
    by_cases z : q = j
    · rw [if_pos z, if_pos z]
    · rw [if_neg z, if_neg z]; exact h.1 q q0 q1 q2
  · rw [e (4 + l) (by omega), e (8 + l) (by omega), e (6 + l) (by omega), e 3474 (by omega)]
    rcases h.2.1 l hl with z | ⟨z1, z2, z3, z4, z5, z6⟩
    · exact Or.inl z
    · exact Or.inr ⟨z1, z2, z3, z4, z5, fun q hq => by rw [e _ (by omega)]; exact z6 q hq⟩
/-- what the reading of a text changes -/
def gL (M M1 : QMem) : Prop := (∀ a, a ≠ 215 → a ≠ 219 → M1 a = M a) ∧ ∀ j, j ≠ 6 → j ≠ 7 → j ≠ 9 → j ≠ 10 → j ≠ 11 → j ≠ 12 → j ≠ 15 → M1 215 j = M 215 j
theorem gL.refl (M : QMem) : gL M M := ⟨fun _ _ _ => rfl, fun _ _ _ _ _ _ _ _ => rfl⟩
theorem gL.trans {M M1 M2 : QMem} (h : gL M M1) (g : gL M1 M2) : gL M M2 := ⟨fun a a0 a1 => (g.1 a a0 a1).trans (h.1 a a0 a1), fun j a0 a1 a2 a3 a4 a5 a6 => (g.2 j a0 a1 a2 a3 a4 a5 a6).trans (h.2 j a0 a1 a2 a3 a4 a5 a6)⟩
theorem gF.gL {M M1 : QMem} (h : gF M M1) : gL M M1 := ⟨h.1, fun j a0 a1 a2 a3 a4 a5 _ => h.2.1 j a0 a1 a2 a3 a4 a5⟩
theorem nK.gL {M M1 : QMem} (h : nK M M1) : gL M M1 := (gF.nK h).gL
theorem gL.put (M : QMem) (j v : Int) : gL M (qup M 219 j v) := ⟨fun a _ a1 => qup_row a1, fun q _ _ _ _ _ _ _ => by rw [qup_row (by decide)]⟩
/-- behind a line -/
def rLs (b : Int → Int) (n : Int) (r : QL) (M M1 : QMem) : Prop := gL M M1 ∧ (r.1 = 0 → rSt b n r.2.1 M1 ∧ rRd r.2.2.1 r.2.2.2 M1 ∧ M1 219 3474 ≤ r.2.1) ∧ (r.1 ≠ 0 → rBad M1 ∧ M1 215 11 = r.1 ∧ M1 215 12 = tS b n (tpos b n r.2.1))
theorem rLs.bad {b : Int → Int} {n : Int} {r : Int × Nat × List Int} {s : QL} {A : Int → Int} {L : Int → List Int} {M M0 M1 : QMem} (k : gL M0 M) (h : rRes b n M r M1) (hb : rBad M1) (e : s = toQL r A L) (z : r.1 ≠ 0) : rLs b n s M0 M1 := by
  subst e
  exact ⟨k.trans h.1.gL, fun y => absurd y z, fun _ => ⟨hb, (h.2.2 z).1, (h.2.2 z).2⟩⟩
theorem rTx.row {b : Int → Int} {n : Int} {M : QMem} (h : rTx b n M) {j v : Int} : rTx b n (qup M 219 j v) := h.congr (by rw [qup_row (by decide)]) (qup_row (by decide))
theorem rSt.row {b : Int → Int} {n : Int} {i : Nat} {M : QMem} (h : rSt b n i M) {j v : Int} : rSt b n i (qup M 219 j v) := by
  have e : (qup M 219 j v) 215 = M 215 := qup_row (by decide)
  refine ⟨h.1.row, ?_, ?_⟩
  · unfold rAt; rw [e]; exact h.2.1
  · rw [e]; exact h.2.2
section MLine
variable {X : QX} {x : Int} {d : Nat} {post : Int → QMem → Prop} {M : QMem} {b : Int → Int} {n : Int} {T : Nat} {A : Int → Int} {L : Int → List Int} {i : Nat}
theorem m_num (h : rSt b n i M) {lo up : Int} (hlo : in32 lo) (hup : in32 up) (h1 : nOk (kdf b n) (vlf b n) lo up i = true → ∀ M1, nK M M1 → rSt b n (i + 1) M1 → post (vlf b n i) M1) (h0 : ¬ nOk (kdf b n) (vlf b n) lo up i = true → ∀ v M1, rRes b n M (pFl (kdf b n) (nW (kdf b n) i) i) M1 → rBad M1 → post v M1) : QCm X x (d + 7) 1 yX11_takesN [(2, 215), (0, lo), (0, up)] M post := by
  refine QC.of qmX11_takesN_ok rfl (TX11_takesN_0 (m_is h (i32 (by omega) (by omega)) (fun z => ⟨fun y => absurd y (by decide), fun _ => ⟨(i32 (by omega) (by omega)), ?_⟩⟩) (fun z => ⟨fun _ => m_fails h (by decide) (fun M1 r1 b1 => ⟨fun y => absurd y b1.1, fun _ => ⟨b1.2, ?_⟩⟩), fun y => absurd rfl y⟩)))
  · have w3 : nW (kdf b n) i = 3 := by unfold nW; rw [if_pos z]
    have e10 : M 215 10 = vlf b n i := h.2.1.2.2.2 z
    have vb := tV_b (b := b) (n := n) (p := tpos b n i) z (tpos_b h.1.1.1 i)
    have vb' : 0 ≤ vlf b n i ∧ vlf b n i ≤ 999 := vb
    rw [e10]
    refine ⟨(i32 (by omega) (by omega)), hlo, hup, m_within (i64 (by omega) (by omega)) hlo.to64 hup.to64 (fun y => ⟨fun w => absurd w (by decide), fun _ => ⟨(i32 (by omega) (by omega)), fun _ => m_step h (fun M1 k1 s1 => by rw [e10]; exact h1 (nOk_iff.2 ⟨z, y⟩) M1 k1 s1), fun w => absurd h.2.2 w⟩⟩) (fun y => ⟨fun _ => m_fails h (by decide) (fun M1 r1 b1 => ⟨fun w => absurd w b1.1, fun _ => ⟨b1.2, h0 (fun w => y (nOk_iff.1 w).2) _ M1 (by rw [w3]; exact r1) b1⟩⟩), fun w => absurd rfl w⟩)⟩
  · have w2 : nW (kdf b n) i = 2 := by unfold nW; rw [if_neg z]
    exact h0 (fun w => z (nOk_iff.1 w).1) _ M1 (by rw [w2]; exact r1) b1
theorem s_num (h : rBad M) {lo up : Int} (hp : ∀ v, post v M) : QCm X x (d + 1) 1 yX11_takesN [(2, 215), (0, lo), (0, up)] M post :=
  QC.of qmX11_takesN_ok rfl (TX11_takesN_0 (s_is h ⟨fun _ => s_fails h ⟨fun z => absurd z h.1, fun _ => ⟨h.2, hp _⟩⟩, fun z => absurd rfl z⟩))
theorem m_isDrumIn {k : Int} (hk : in32 k) (hc : 0 ≤ M 219 3 ∧ M 219 3 ≤ 6) (hh : ∀ e, 0 ≤ e → e < M 219 3 → in32 (M 219 (46 + e))) (ht : rHome (M 219) k → post 1 M) (hf : ¬ rHome (M 219) k → post 0 M) : QCm X x d 1 yX11_isDrumIn [(2, 215), (0, k)] M post := by
  have key : ∀ i : Int, 0 ≤ i ∧ i ≤ M 219 3 ∧ (∀ e, 0 ≤ e → e < i → M 219 (46 + e) ≠ k) → QRm X x d qmX11_isDrumIn post 2 [(0, (2, 215)), (1, (0, k)), (2, (0, i))] [] M := by
    refine int_up (M 219 3) (fun i hi h => ?_) (fun i hi ih h => ?_)
    · exact TX11_isDrumIn_2 ⟨(i32 (by omega) (by omega)), (i32 (by omega) (by omega)), fun _ => hf (fun ⟨e, e0, e1, e2⟩ => h.2.2 e e0 (by omega) e2), fun z => absurd hi (by omega)⟩
    · refine TX11_isDrumIn_2 ⟨(i32 (by omega) (by omega)), (i32 (by omega) (by omega)), fun z => absurd hi (by omega), fun _ => ⟨(by omega), (by omega), fun a => ht ⟨i, (by omega), (by omega), a⟩, fun a => ⟨hh i (by omega) (by omega), hk, ih ⟨(by omega), (by omega), fun e e0 e1 => ?_⟩⟩⟩⟩
      by_cases z : e = i
      · subst z; exact a
      · exact h.2.2 e e0 (by omega)
  exact QC.of qmX11_isDrumIn_ok rfl (TX11_isDrumIn_0 (key 0 ⟨(by omega), (by omega), fun e e0 e1 => (by omega)⟩))
theorem m_cell (h : rSt b n i M) (r : rRd A L M) (ok : pOk A L) (h1 : (pCell (kdf b n) (vlf b n) A i).1 = 0 → ∀ M1, nK M M1 → rSt b n (i + 2) M1 → post (cAt (vlf b n) A i) M1) (h0 : (pCell (kdf b n) (vlf b n) A i).1 ≠ 0 → ∀ v M1, rRes b n M (pCell (kdf b n) (vlf b n) A i) M1 → rBad M1 → post v M1) : QCm X x (d + 8) 1 yX11_readCell [(2, 215)] M post := by
  have p1 := ok.1
  have p2 := ok.2.1
  have p3 := ok.2.2.1
  have e1 : M 219 1 = A 1 := r.1 1 (by omega) (by omega) (by omega)
  have e2 : M 219 2 = A 2 := r.1 2 (by omega) (by omega) (by omega)
  have e3 : M 219 3 = A 3 := r.1 3 (by omega) (by omega) (by omega)
  have fb : ∀ {N : QMem}, rBad N → (∀ v, post v N) → ∀ {lo up x1 : Int}, QCm X x (d + 7) 1 yX11_takesN [(2, 215), (0, lo), (0, up)] N (fun x3 M3 => (M3 215 11 = 0 → (post (((M3 219 1) * x3) + x1) M3)) ∧ (¬ M3 215 11 = 0 → in32 (M3 215 11) ∧ (post (-1) M3))) := fun hb hq => s_num hb (fun v => ⟨fun z => absurd z hb.1, fun _ => ⟨hb.2, hq _⟩⟩)
  refine QC.of qmX11_readCell_ok rfl (TX11_readCell_0 ?_)
  rw [e1]
  refine m_num h (i32 (by omega) (by omega)) (i32 (by omega) (by omega)) (fun a1 M1 k1 s1 => ?_) (fun a1 v M1 r1 b1 => s_is b1 ⟨fun _ => fb b1 (fun w => ?_), fun z => absurd rfl z⟩)
  rotate_left
  · have e : pCell (kdf b n) (vlf b n) A i = pFl (kdf b n) (nW (kdf b n) i) i := by unfold pCell; rw [if_neg a1]
    rw [e] at h0
    exact h0 (pFl_ne (nW_b _ _).1) w M1 r1 b1
  have b1 := nOk_iff.1 a1
  have f : M1 219 = M 219 := k1.1 219 (by decide)
  have fail : ∀ (w : Int), 1 ≤ w ∧ w ≤ 4 → pCell (kdf b n) (vlf b n) A i = pFl (kdf b n) w (i + 1) → ∀ v M2, rRes b n M1 (pFl (kdf b n) w (i + 1)) M2 → rBad M2 → post v M2 := fun w hw e v M2 r2 b2 => by
    rw [e] at h0
    exact h0 (pFl_ne hw.1) v M2 (rRes.bad (gF.nK k1) r2 (pFl_ne hw.1) rfl) b2
  have num2 : QCm X x (d + 7) 1 yX11_takesN [(2, 215), (0, 0), (0, A 2 - 1)] M1 (fun x3 M3 => (M3 215 11 = 0 → (post (((M3 219 1) * x3) + vlf b n i) M3)) ∧ (¬ M3 215 11 = 0 → in32 (M3 215 11) ∧ (post (-1) M3))) ∨ pOcc A (cAt (vlf b n) A i) = true := by
    by_cases oc : pOcc A (cAt (vlf b n) A i) = true
    · exact Or.inr oc
    refine Or.inl (m_num s1 (i32 (by omega) (by omega)) (i32 (by omega) (by omega)) (fun a2 M2 k2 s2 => ⟨fun _ => ?_, fun z => absurd s2.2.2 z⟩) (fun a2 v M2 r2 b2 => ⟨fun z => absurd z b2.1, fun _ => ⟨b2.2, fail _ (nW_b _ _) ?_ _ M2 r2 b2⟩⟩))
    · have e : pCell (kdf b n) (vlf b n) A i = (0, i + 2, []) := by unfold pCell; rw [if_pos a1, if_pos a2, if_neg oc]
      rw [e] at h1
      rw [show M2 219 1 = A 1 by rw [k2.1 219 (by decide), f]; exact e1]
      exact h1 rfl M2 (k1.trans k2) s2
    · unfold pCell; rw [if_pos a1, if_neg a2]
  refine m_is s1 (i32 (by omega) (by omega)) (fun z => ⟨fun y => absurd y (by decide), fun _ => ⟨(i32 (by omega) (by omega)), ?_⟩⟩) (fun z => ⟨fun _ => ?_, fun y => absurd rfl y⟩)
  · have vb := tV_b (b := b) (n := n) (p := tpos b n (i + 1)) z (tpos_b h.1.1.1 (i + 1))
    have vb' : 0 ≤ vlf b n (i + 1) ∧ vlf b n (i + 1) ≤ 999 := vb
    have e10 : M1 215 10 = vlf b n (i + 1) := s1.2.1.2.2.2 z
    rw [e10, f, e1, e2]
    refine ⟨(i32 (by omega) (by omega)), (i32 (by omega) (by omega)), fun y => ?_, fun y => ?_⟩
    · have a2 : ¬ nOk (kdf b n) (vlf b n) 0 (A 2 - 1) (i + 1) = true := fun w => by have := (nOk_iff.1 w).2.2; omega
      exact m_num s1 (i32 (by omega) (by omega)) (i32 (by omega) (by omega)) (fun w => absurd w a2) (fun _ v M2 r2 b2 => ⟨fun z => absurd z b2.1, fun _ => ⟨b2.2, fail _ (nW_b _ _) (by unfold pCell; rw [if_pos a1, if_neg a2]) _ M2 r2 b2⟩⟩)
    · have a2 : nOk (kdf b n) (vlf b n) 0 (A 2 - 1) (i + 1) = true := nOk_iff.2 ⟨z, (by omega), (by omega)⟩
      have cb := cAt_b (vl := vlf b n) (A := A) (i := i) p1 p2 b1.2 (nOk_iff.1 a2).2
      rw [show A 1 * vlf b n (i + 1) + vlf b n i = cAt (vlf b n) A i from rfl]
      have e5 : pOcc A (cAt (vlf b n) A i) = true → pCell (kdf b n) (vlf b n) A i = pFl (kdf b n) 3 (i + 1) := fun w => by unfold pCell; rw [if_pos a1, if_pos a2, if_pos w]
      have ak : M 219 (10 + cAt (vlf b n) A i) = A (10 + cAt (vlf b n) A i) := r.1 _ (by omega) (by omega) (by omega)
      have hH : ∀ e, 0 ≤ e → e < A 3 → M 219 (46 + e) = A (46 + e) := fun e q0 q1 => r.1 _ (by omega) (by omega) (by omega)
      have hh : rHome (M1 219) (cAt (vlf b n) A i) ↔ rHome A (cAt (vlf b n) A i) := by rw [f]; exact rHome_cg e3 hH _
      have rk := ok.2.2.2.1 (cAt (vlf b n) A i) cb.1 (by omega)
      rw [ak]
      have occ : pOcc A (cAt (vlf b n) A i) = true → QCm X x (d + 7) 0 yX11_fails [(2, 215), (0, 3)] M1 (fun _ M5 => QCm X x (d + 7) 1 yX11_takesN [(2, 215), (0, 0), (0, (M5 219 2) - 1)] M5 (fun x6 M6 => (M6 215 11 = 0 → (post (((M6 219 1) * x6) + vlf b n i) M6)) ∧ (¬ M6 215 11 = 0 → in32 (M6 215 11) ∧ (post (-1) M6)))) := fun w => m_fails s1 (by decide) (fun M5 r5 b5 => fb b5 (fun v => fail 3 (by decide) (e5 w) v M5 r5 b5))
      refine ⟨(by omega), (by omega), fun w => occ (pOcc_iff.2 (Or.inl w)), fun w => ⟨(i32 (by omega) (by omega)), ?_⟩⟩
      refine m_isDrumIn (i32 (by omega) (by omega)) (by rw [f, e3]; exact p3) (fun e q0 q1 => ?_) (fun u => ⟨fun q => absurd q (by decide), fun _ => ⟨(i32 (by omega) (by omega)), occ (pOcc_iff.2 (Or.inr (hh.1 u)))⟩⟩) (fun u => ⟨fun _ => ?_, fun q => absurd rfl q⟩)
      · rw [f, e3] at q1
        rw [f, hH e q0 q1]
        have := (ok.2.2.2.2.1 e q0 q1).1
        exact (i32 (by omega) (by omega))
      · rw [f, e2]
        rcases num2 with q | q
        · exact q
        · rcases pOcc_iff.1 q with q | q
          · exact absurd q w
          · exact absurd (hh.2 q) u
  · have a2 : ¬ nOk (kdf b n) (vlf b n) 0 (A 2 - 1) (i + 1) = true := fun w => z (nOk_iff.1 w).1
    rw [f, e2]
    exact m_num s1 (i32 (by omega) (by omega)) (i32 (by omega) (by omega)) (fun w => absurd w a2) (fun _ v M2 r2 b2 => ⟨fun z => absurd z b2.1, fun _ => ⟨b2.2, fail _ (nW_b _ _) (by unfold pCell; rw [if_pos a1, if_neg a2]) _ M2 r2 b2⟩⟩)
theorem m_rock {f : Nat} (h : rSt b n i M) (tk : tkOk (kdf b n) (vlf b n) T) (hi : i + 1 ≤ T) (r : rRd A L M) (hz : M 219 3474 ≤ i) (ok : pOk A L) (k1 : kdf b n i = 1) (hp : ∀ M1, rLs b n (pLine (kdf b n) (vlf b n) f A L i) M M1 → post 0 M1) : QCm X x (d + 9) 0 yX11_readRock [(2, 215)] M post := by
  have e : pLine (kdf b n) (vlf b n) f A L i = (if (pCell (kdf b n) (vlf b n) A (i + 1)).1 ≠ 0 then toQL (pCell (kdf b n) (vlf b n) A (i + 1)) A L else (0, i + 3, aup A (10 + cAt (vlf b n) A (i + 1)) 1, L)) := by unfold pLine; rw [if_pos k1]
  have cc := pCell_ok (A := A) tk hi ok.1 ok.2.1
  refine QC.of qmX11_readRock_ok rfl (TX11_readRock_0 (m_step h (fun M1 n1 s1 => ?_)))
  have f1 : M1 219 = M 219 := n1.1 219 (by decide)
  refine m_cell s1 (r.congr f1) ok (fun z M2 n2 s2 => ⟨fun _ => ?_, fun y => absurd s2.2.2 y⟩) (fun z v M2 r2 b2 => ⟨fun y => absurd y b2.1, fun _ => ⟨b2.2, hp M2 ?_⟩⟩)
  · have c1 := cc.1 z
    have cb := cAt_b ok.1 ok.2.1 c1.2.1 c1.2.2.1
    rw [if_neg (fun y => y z)] at e
    have f2 : M2 219 = M 219 := (n2.1 219 (by decide)).trans f1
    refine ⟨(by omega), (by omega), hp _ ?_⟩
    rw [e]
    refine ⟨(n1.gL.trans n2.gL).trans (gL.put M2 _ _), fun _ => ⟨s2.row, (r.congr f2).put (by omega) (by omega), ?_⟩, fun y => absurd rfl y⟩
    show (qup M2 219 (10 + cAt (vlf b n) A (i + 1)) 1) 219 3474 ≤ ((i + 3 : Nat) : Int)
    rw [qup_at, if_neg (by omega), f2]; omega
  · rw [if_pos z] at e
    exact rLs.bad n1.gL r2 b2 e z
theorem m_drum {f : Nat} (h : rSt b n i M) (tk : tkOk (kdf b n) (vlf b n) T) (hi : i + 1 ≤ T) (r : rRd A L M) (hz : M 219 3474 ≤ i) (ok : pOk A L) (k1 : kdf b n i = 2) (hp : ∀ M1, rLs b n (pLine (kdf b n) (vlf b n) f A L i) M M1 → post 0 M1) : QCm X x (d + 9) 0 yX11_readDrum [(2, 215)] M post := by
  have e : pLine (kdf b n) (vlf b n) f A L i = (if A 3 = 6 then toQL (pFl (kdf b n) 4 i) A L else if (pCell (kdf b n) (vlf b n) A (i + 1)).1 ≠ 0 then toQL (pCell (kdf b n) (vlf b n) A (i + 1)) A L else if kdf b n (i + 3) ≠ 3 then toQL (pFl (kdf b n) 2 (i + 3)) A L else if nOk (kdf b n) (vlf b n) 0 999 (i + 4) = true then (0, i + 5, aup (aup (aup A (46 + A 3) (cAt (vlf b n) A (i + 1))) (54 + A 3) (vlf b n (i + 4))) 3 (A 3 + 1), L) else toQL (pFl (kdf b n) (nW (kdf b n) (i + 4)) (i + 4)) A L) := by unfold pLine; rw [if_neg (by omega), if_pos k1]
  have cc := pCell_ok (A := A) tk hi ok.1 ok.2.1
  have a3 := ok.2.2.1
  have e3 : M 219 3 = A 3 := r.1 3 (by omega) (by omega) (by omega)
  refine QC.of qmX11_readDrum_ok rfl (TX11_readDrum_0 ?_)
  rw [e3]
  refine ⟨fun y6 => m_fails h (by decide) (fun M1 r1 b1 => ⟨fun y => absurd y b1.1, fun _ => ⟨b1.2, hp M1 ?_⟩⟩), fun y6 => ⟨(i32 (by omega) (by omega)), fun _ => m_step h (fun M1 n1 s1 => ?_), fun y => absurd h.2.2 y⟩⟩
  · rw [if_pos y6] at e
    exact rLs.bad (gL.refl M) r1 b1 e (pFl_ne (by decide))
  rw [if_neg y6] at e
  have f1 : M1 219 = M 219 := n1.1 219 (by decide)
  have bad : ∀ {rr : Int × Nat × List Int} {N N2 : QMem}, gL M N → rRes b n N rr N2 → rBad N2 → pLine (kdf b n) (vlf b n) f A L i = toQL rr A L → rr.1 ≠ 0 → post 0 N2 := fun g1 q1 q2 q3 q4 => hp _ (rLs.bad g1 q1 q2 q3 q4)
  refine m_cell s1 (r.congr f1) ok (fun z M2 n2 s2 => ?_) (fun z v M2 r2 b2 => ?_)
  · have c1 := cc.1 z
    have cb := cAt_b ok.1 ok.2.1 c1.2.1 c1.2.2.1
    have n12 := n1.trans n2
    have f2 : M2 219 = M 219 := n12.1 219 (by decide)
    rw [if_neg (fun y => y z)] at e
    refine m_eats s2 (i32 (by omega) (by omega)) (fun z3 M3 n3 s3 => ⟨fun y => absurd y (by decide), fun _ => ⟨(i32 (by omega) (by omega)), ?_⟩⟩) (fun z3 => ⟨fun _ => m_fails s2 (by decide) (fun M3 r3 b3 => ?_), fun y => absurd rfl y⟩)
    · rw [if_neg (fun y => y z3)] at e
      refine m_num s3 (i32 (by omega) (by omega)) (i32 (by omega) (by omega)) (fun z4 M4 n4 s4 => ⟨fun _ => ⟨(by omega), (by omega), (by omega), (by omega), hp _ ?_⟩, fun y => absurd s4.2.2 y⟩) (fun z4 v M4 r4 b4 => ⟨fun y => absurd y b4.1, fun _ => ⟨b4.2, ?_⟩⟩)
      · rw [if_pos z4] at e
        rw [e]
        have n14 := (n12.trans n3).trans n4
        have f4 : M4 219 = M 219 := n14.1 219 (by decide)
        have g3 : (qup (qup M4 219 (46 + A 3) (cAt (vlf b n) A (i + 1))) 219 (54 + A 3) (vlf b n (i + 4))) 219 3 = A 3 := by rw [qup_at, if_neg (by omega), qup_at, if_neg (by omega), f4, e3]
        rw [g3]
        refine ⟨((n14.gL.trans (gL.put M4 _ _)).trans (gL.put _ _ _)).trans (gL.put _ _ _), fun _ => ⟨s4.row.row.row, (((r.congr f4).put (by omega) (by omega)).put (by omega) (by omega)).put (by omega) (by omega), ?_⟩, fun y => absurd rfl y⟩
        show (qup (qup (qup M4 219 (46 + A 3) (cAt (vlf b n) A (i + 1))) 219 (54 + A 3) (vlf b n (i + 4))) 219 3 (A 3 + 1)) 219 3474 ≤ ((i + 5 : Nat) : Int)
        rw [qup_at, if_neg (by omega), qup_at, if_neg (by omega), qup_at, if_neg (by omega), f4]; omega
      · rw [if_neg z4] at e
        exact bad (n12.trans n3).gL r4 b4 e (pFl_ne (nW_b _ _).1)
    · rw [if_pos z3] at e
      exact s_num b3 (fun v => ⟨fun y => absurd y b3.1, fun _ => ⟨b3.2, bad n12.gL r3 b3 e (pFl_ne (by decide))⟩⟩)
  · rw [if_pos z] at e
    exact s_eats b2 ⟨fun _ => s_fails b2 (s_num b2 (fun v => ⟨fun y => absurd y b2.1, fun _ => ⟨b2.2, bad n1.gL r2 b2 e z⟩⟩)), fun y => absurd rfl y⟩
end MLine
