theorem rSum_rock {A : Int → Int} {k : Int} (hk : 0 ≤ k) (h : A (10 + k) = 0) : ∀ N : Nat, rSum (aup A (10 + k) 1) 10 N = rSum A 10 N + if k < (N : Int) then 1 else 0
  | 0 => by rw [rSum, rSum, if_neg (by omega)]; rfl
  | N + 1 => by
    rw [rSum, rSum, rSum_rock hk h N]
    by_cases z : (10 : Int) + N = 10 + k
    · rw [z, aup_self, h, if_neg (by omega), if_pos (by omega)]
    · rw [aup_ne z]
      by_cases y : k < (N : Int)
      · rw [if_pos y, if_pos (by omega)]; omega
      · rw [if_neg y, if_neg (by omega)]; omega
theorem rHome_cg {A B : Int → Int} (h3 : B 3 = A 3) (he : ∀ e, 0 ≤ e → e < A 3 → B (46 + e) = A (46 + e)) (q : Int) : rHome B q ↔ rHome A q := by
  unfold rHome
  rw [h3]
  constructor
  · rintro ⟨e, e0, e1, e2⟩; exact ⟨e, e0, e1, by rw [← he e e0 e1]; exact e2⟩
  · rintro ⟨e, e0, e1, e2⟩; exact ⟨e, e0, e1, by rw [he e e0 e1]; exact e2⟩
/-- the class's land as far as it was read -/
def cRd (A : Int → Int) (L : Int → List Int) (M : QMem) : Prop := (M 3 0 = A 1 ∧ M 3 1 = A 2 ∧ M 3 2 = A 3 ∧ M 3 3 = rSum A 10 (A 1 * A 2).toNat ∧ M 3 4 = A 0 ∧ M 3 5 = A 52 ∧ M 3 6 = A 53) ∧ (∀ k, 0 ≤ k → k < 36 → (A (10 + k) = 1 → M 4 k = 1) ∧ (A (10 + k) ≠ 1 → (rHome A k → M 4 k = 2) ∧ (¬ rHome A k → M 4 k = 0))) ∧ (∀ e, 0 ≤ e → e < A 3 → M 5 e = A (46 + e) ∧ M 6 e = A (54 + e)) ∧ ∀ l, l = 0 ∨ l = 1 → M (7 + 3 * l) 2 = ((L l).length : Int) ∧ ∀ q : Nat, q < (L l).length → M (8 + 3 * l) q = cCode ((L l).getD q 0)
theorem cRd.congr {A : Int → Int} {L : Int → List Int} {M M1 : QMem} (h : cRd A L M) (e : ∀ a, 3 ≤ a → a ≤ 11 → M1 a = M a) : cRd A L M1 := by
  unfold cRd
  rw [e 3 (by omega) (by omega), e 4 (by omega) (by omega), e 5 (by omega) (by omega), e 6 (by omega) (by omega)]
  refine ⟨h.1, h.2.1, h.2.2.1, fun l hl => ?_⟩
  rw [e (7 + 3 * l) (by omega) (by omega), e (8 + 3 * l) (by omega) (by omega)]; exact h.2.2.2 l hl
/-- of the reader only the token at hand changes; or its fault is told -/
def aO (j : Nat) (M M1 : QMem) : Prop := (∀ a, a ≠ 13 → M1 a = M a) ∧ M1 2 0 = M 2 0 ∧ (M1 2 1 = M 2 1 ∧ M1 2 5 = M 2 5 ∧ ∀ q, q < 4 → M1 13 q = M 13 q) ∧ cHd M1 j
def aB (b : Int → Int) (n : Int) (r : Int × Nat × List Int) (M M1 : QMem) : Prop := (∀ a, a ≠ 2 → a ≠ 13 → M1 a = M a) ∧ M1 2 0 = r.1 ∧ M1 2 1 = tS b n (tpos b n r.2.1)
theorem aO.of {j : Nat} {M M1 : QMem} (h : xK M M1) (g : cHd M1 j) : aO j M M1 := ⟨h.1, by rw [h.1 2 (by decide)], ⟨by rw [h.1 2 (by decide)], by rw [h.1 2 (by decide)], h.2⟩, g⟩
theorem aO.trans {i j : Nat} {M M1 M2 : QMem} (h : aO i M M1) (g : aO j M1 M2) : aO j M M2 := ⟨fun a ha => (g.1 a ha).trans (h.1 a ha), g.2.1.trans h.2.1, ⟨g.2.2.1.1.trans h.2.2.1.1, g.2.2.1.2.1.trans h.2.2.1.2.1, fun q hq => (g.2.2.1.2.2 q hq).trans (h.2.2.1.2.2 q hq)⟩, g.2.2.2⟩
theorem aB.after {b : Int → Int} {n : Int} {i : Nat} {r : Int × Nat × List Int} {M M1 M2 : QMem} (h : aO i M M1) (g : aB b n r M1 M2) : aB b n r M M2 := ⟨fun a ha hb => (g.1 a ha hb).trans (h.1 a hb), g.2.1, g.2.2⟩
theorem cHd.cg {M M1 : QMem} {i : Nat} (h : cHd M i) (e : ∀ a, 13 ≤ a → a ≤ 16 → M1 a = M a) : cHd M1 i := by
  unfold cHd
  rw [e 13 (by omega) (by omega), e 14 (by omega) (by omega), e 15 (by omega) (by omega), e 16 (by omega) (by omega)]; exact h
/-- behind a line -/
def cLs (b : Int → Int) (n : Int) (r : QL) (M : QMem) (v : Int) (M1 : QMem) : Prop := (∀ a, a < 2 ∨ 14 ≤ a → M1 a = M a) ∧ (r.1 = 0 → v = 1 ∧ cHd M1 r.2.1 ∧ M1 2 0 = M 2 0 ∧ M1 2 1 = M 2 1 ∧ M1 13 3 = M 13 3 ∧ cRd r.2.2.1 r.2.2.2 M1) ∧ (r.1 ≠ 0 → v = 0 ∧ M1 2 0 = r.1 ∧ M1 2 1 = tS b n (tpos b n r.2.1))
theorem cTok.congr {b : Int → Int} {n : Int} {T : Nat} {M M1 : QMem} (h : cTok b n T M) (e : ∀ a, 13 ≤ a → a ≤ 16 → M1 a = M a) : cTok b n T M1 := by
  unfold cTok cTk
  rw [e 13 (by omega) (by omega), e 14 (by omega) (by omega), e 15 (by omega) (by omega), e 16 (by omega) (by omega)]; exact h
theorem cTok.aO {b : Int → Int} {n : Int} {T j : Nat} {M M1 : QMem} (h : cTok b n T M) (e : aO j M M1) : cTok b n T M1 := h.of (e.2.2.1.2.2 3 (by decide)) (e.1 14 (by decide)) (e.1 15 (by decide)) (e.1 16 (by decide))
theorem cLs.bad {b : Int → Int} {n : Int} {r : Int × Nat × List Int} {s : QL} {A : Int → Int} {L : Int → List Int} {M M1 : QMem} {v : Int} (h : aB b n r M M1) (e : s = toQL r A L) (z : r.1 ≠ 0) (hv : v = 0) : cLs b n s M v M1 := by
  subst e
  exact ⟨fun a ha => h.1 a (by omega) (by omega), fun y => absurd y z, fun _ => ⟨hv, h.2.1, h.2.2⟩⟩
section CLine
variable {X : QX} {x : Int} {d : Nat} {post : Int → QMem → Prop} {M : QMem} {b : Int → Int} {n : Int} {T : Nat} {A : Int → Int} {L : Int → List Int} {i : Nat}
theorem c_failB (h : cTok b n T M) (hi : i ≤ T) (h4 : cHd M i) {w : Int} (hp : ∀ M1, aB b n (pFl (kdf b n) w i) M M1 → post 0 M1) : QCm X x d 1 yX5_fail [(2, 2), (0, w)] M post :=
  c_fail h hi h4 (hp _ ⟨fun a ha _ => by rw [qup_row ha, qup_row ha], by rw [qup_at, if_neg (by decide), qup_at, if_pos rfl], by rw [qup_at, if_pos rfl]; rfl⟩)
theorem c_skipB (h : cTok b n T M) (hi : i ≤ T) (h4 : cHd M i) {k : Int} (hk : pVal k ∧ k ≠ 24 ∧ k ≠ 25) {c : Int} (hc : c = cK k) (h1 : kdf b n i = k → ∀ M1, aO (i + 1) M M1 → post 1 M1) (h0 : kdf b n i ≠ k → ∀ M1, aB b n (pFl (kdf b n) 2 i) M M1 → post 0 M1) : QCm X x (d + 1) 1 yX5_skip [(2, 2), (0, c)] M post :=
  c_skip h hi h4 hk hc (fun z _ M1 nk h4n => h1 z M1 (aO.of nk h4n)) (fun z => h0 z _ ⟨fun a ha _ => by rw [qup_row ha, qup_row ha], by rw [qup_at, if_neg (by decide), qup_at, if_pos rfl], by rw [qup_at, if_pos rfl]; rfl⟩)
theorem c_num (h : cTok b n T M) (hi : i ≤ T) (h4 : cHd M i) (hn : 0 ≤ n ∧ n ≤ 900) {lo up : Int} (hlo : in32 lo) (hup : in32 up) (h1 : nOk (kdf b n) (vlf b n) lo up i = true → ∀ M1, aO (i + 1) M M1 → post (vlf b n i) M1) (h0 : ¬ nOk (kdf b n) (vlf b n) lo up i = true → ∀ M1, aB b n (pFl (kdf b n) (nW (kdf b n) i) i) M M1 → post (-1) M1) : QCm X x (d + 3) 1 yX5_readNumber [(2, 2), (0, lo), (0, up)] M post := by
  have kv : pVal (kdf b n i) := tKd_val b n (tpos b n i)
  have kb := cK_b kv
  refine QC.of qmX5_readNumber_ok rfl (TX5_readNumber_0 ?_)
  rw [c_kd h hi h4]
  refine ⟨fun z => ?_, fun z => ⟨(i32 (by omega) (by omega)), c_failB h hi h4 (fun M1 m1 => ?_)⟩⟩
  · have k23 : kdf b n i = 23 := (cK_inj kv 23 (by unfold pVal; omega)).1 (z.trans rfl)
    have vb := tV_b (b := b) (n := n) (p := tpos b n i) k23 (tpos_b hn.1 i)
    have t1 := h.1
    have sz := h.2.2.2.1
    have w3 : nW (kdf b n) i = 3 := by unfold nW; rw [if_pos k23]
    have ev : vlf b n i = tV b n (tpos b n i) := rfl
    have hl := h.lt hi (by show kdf b n i ≠ 24; rw [k23]; decide) (by show kdf b n i ≠ 25; rw [k23]; decide)
    rw [c_vl h hi h4 k23]
    refine ⟨(i32 (by omega) (by omega)), hlo, fun u => c_failB h hi h4 (fun M1 m1 => h0 (fun y => ?_) M1 (by rw [w3]; exact m1)), fun u => ⟨hup, fun w => c_next h hl h4 (fun Mn nk h4n => h1 (nOk_iff.2 ⟨k23, ?_, ?_⟩) Mn (aO.of nk h4n)), fun w => c_failB h hi h4 (fun M1 m1 => h0 (fun y => ?_) M1 (by rw [w3]; exact m1))⟩⟩
    · have := (nOk_iff.1 y).2.1; omega
    · omega
    · omega
    · have := (nOk_iff.1 y).2.2; omega
  · have k23 : kdf b n i ≠ 23 := fun y => z (by rw [y]; rfl)
    refine h0 (fun y => k23 (nOk_iff.1 y).1) M1 ?_
    have w2 : nW (kdf b n) i = 2 := by unfold nW; rw [if_neg k23]
    rw [w2]; exact m1
theorem c_cell (h : cTok b n T M) (hi : i ≤ T) (h4 : cHd M i) (hn : 0 ≤ n ∧ n ≤ 900) (r : cRd A L M) (ok : pOk A L) (h1 : (pCell (kdf b n) (vlf b n) A i).1 = 0 → ∀ M1, aO (i + 2) M M1 → post (cAt (vlf b n) A i) M1) (h0 : (pCell (kdf b n) (vlf b n) A i).1 ≠ 0 → ∀ M1, aB b n (pCell (kdf b n) (vlf b n) A i) M M1 → post (-1) M1) : QCm X x (d + 4) 1 yX5_readEmptyCell [(2, 2)] M post := by
  have tk := h.tk hn.1
  have p1 := ok.1
  have p2 := ok.2.1
  have e0 : M 3 0 = A 1 := r.1.1
  have e1 : M 3 1 = A 2 := r.1.2.1
  refine QC.of qmX5_readEmptyCell_ok rfl (TX5_readEmptyCell_0 ?_)
  rw [e0]
  refine c_num h hi h4 hn (i32 (by omega) (by omega)) (i32 (by omega) (by omega)) (fun a1 M1 m1 => ?_) (fun a1 M1 m1 => ⟨fun _ => ?_, fun z => absurd rfl z⟩)
  rotate_left
  · have e : pCell (kdf b n) (vlf b n) A i = pFl (kdf b n) (nW (kdf b n) i) i := by unfold pCell; rw [if_neg a1]
    rw [e] at h0
    exact h0 (pFl_ne (nW_b _ _).1) M1 m1
  have b1 := nOk_iff.1 a1
  have l1 := tk.lt hi (by omega) (by omega)
  refine ⟨fun z => absurd z (by omega), fun _ => ⟨(i32 (by omega) (by omega)), ?_⟩⟩
  rw [show M1 3 1 = A 2 by rw [m1.1 3 (by decide)]; exact e1]
  refine c_num (i := i + 1) (h.aO m1) l1 m1.2.2.2 hn (i32 (by omega) (by omega)) (i32 (by omega) (by omega)) (fun a2 M2 m2 => ?_) (fun a2 M2 m2 => ⟨fun _ => ?_, fun z => absurd rfl z⟩)
  rotate_left
  · have e : pCell (kdf b n) (vlf b n) A i = pFl (kdf b n) (nW (kdf b n) (i + 1)) (i + 1) := by unfold pCell; rw [if_pos a1, if_neg a2]
    rw [e] at h0
    exact h0 (pFl_ne (nW_b _ _).1) M2 (aB.after m1 m2)
  have b2 := nOk_iff.1 a2
  have m12 := m1.trans m2
  have cb := cAt_b (vl := vlf b n) (A := A) (i := i) p1 p2 b1.2 b2.2
  refine ⟨fun z => absurd z (by omega), fun _ => ⟨(i32 (by omega) (by omega)), ?_⟩⟩
  have f0 : M2 3 0 = A 1 := by rw [m12.1 3 (by decide)]; exact e0
  have f1 : M2 3 1 = A 2 := by rw [m12.1 3 (by decide)]; exact e1
  rw [f0, show A 1 * vlf b n (i + 1) + vlf b n i = cAt (vlf b n) A i from rfl, show M1 13 7 = tS b n (tpos b n (i + 1)) from c_pl (h.aO m1) l1 m1.2.2.2]
  have kk := r.2.1 (cAt (vlf b n) A i) cb.1 (by omega)
  have f4 : M2 4 = M 4 := m12.1 4 (by decide)
  have e3 : pCell (kdf b n) (vlf b n) A i = (if pOcc A (cAt (vlf b n) A i) = true then pFl (kdf b n) 3 (i + 1) else (0, i + 2, [])) := by unfold pCell; rw [if_pos a1, if_pos a2]
  generalize cAt (vlf b n) A i = k at *
  refine c_hasCell (Or.inr rfl) (i32 (by omega) (by omega)) (by rw [f0, f1]; exact ⟨(by omega), cb.2.2⟩) (fun _ => ⟨fun z => absurd z (by decide), fun _ => ⟨(i32 (by omega) (by omega)), cb.1, (by omega), fun z => ?_, fun z => ?_⟩⟩) (fun z => absurd ⟨cb.1, by rw [f0, f1]; exact cb.2.1⟩ z)
  · rw [f4] at z
    have no : ¬ pOcc A k = true := fun y => by
      by_cases y1 : A (10 + k) = 1
      · have := kk.1 y1; omega
      · rcases pOcc_iff.1 y with y2 | y2
        · exact y1 y2
        · have := (kk.2 y1).1 y2; omega
    rw [if_neg no] at e3
    rw [e3] at h1
    exact h1 rfl M2 m12
  · have yes : pOcc A k = true := pOcc_iff.2 (Classical.byContradiction (fun y => z (by rw [f4]; exact (kk.2 (fun q => y (Or.inl q))).2 (fun q => y (Or.inr q)))))
    rw [if_pos yes] at e3
    have kb : in32 (M2 4 k) := by
      rw [f4]
      by_cases y1 : A (10 + k) = 1
      · have := kk.1 y1; exact (i32 (by omega) (by omega))
      · by_cases y2 : rHome A k
        · have := (kk.2 y1).1 y2; exact (i32 (by omega) (by omega))
        · have := (kk.2 y1).2 y2; exact (i32 (by omega) (by omega))
    refine ⟨kb, ?_⟩
    rw [e3] at h0
    refine h0 (pFl_ne (by decide)) _ ⟨fun a a0 a1 => by rw [qup_row a0, qup_row a0, m12.1 a a1], ?_, ?_⟩
    · rw [qup_at, if_neg (by decide), qup_at, if_pos rfl]
      show (3 : Int) = if kdf b n (i + 1) = 25 then 1 else 3
      rw [if_neg (by rw [b2.1]; decide)]
    · rw [qup_at, if_pos rfl]; rfl
theorem c_rock {f : Nat} (h : cTok b n T M) (hi : i ≤ T) (h4 : cHd M i) (hn : 0 ≤ n ∧ n ≤ 900) (r : cRd A L M) (ok : pOk A L) (k1 : kdf b n i = 1) (hp : ∀ v M1, cLs b n (pLine (kdf b n) (vlf b n) f A L i) M v M1 → v = 0 ∨ v = 1 → post v M1) : QCm X x (d + 5) 1 yX5_readRock [(2, 2)] M post := by
  have tk := h.tk hn.1
  have l1 := tk.lt hi (by omega) (by omega)
  have cc := pCell_ok (A := A) tk (show i + 1 ≤ T by omega) ok.1 ok.2.1
  have e : pLine (kdf b n) (vlf b n) f A L i = (if (pCell (kdf b n) (vlf b n) A (i + 1)).1 ≠ 0 then toQL (pCell (kdf b n) (vlf b n) A (i + 1)) A L else (0, i + 3, aup A (10 + cAt (vlf b n) A (i + 1)) 1, L)) := by unfold pLine; rw [if_pos k1]
  refine QC.of qmX5_readRock_ok rfl (TX5_readRock_0 (c_next h l1 h4 (fun Mn nk h4n => ?_)))
  have m0 : aO (i + 1) M Mn := aO.of nk h4n
  refine c_cell (i := i + 1) (h.aO m0) l1 m0.2.2.2 hn (r.congr (fun a a0 a1 => m0.1 a (by omega))) ok (fun z M1 m1 => ?_) (fun z M1 m1 => ⟨fun _ => ?_, fun y => absurd rfl y⟩)
  · have c1 := cc.1 z
    have cb := cAt_b ok.1 ok.2.1 c1.2.1 c1.2.2.1
    have m2 := m0.trans m1
    rw [if_neg (fun y => y z)] at e
    generalize cAt (vlf b n) A (i + 1) = k at *
    refine ⟨fun y => absurd y (by omega), fun _ => ⟨(i32 (by omega) (by omega)), cb.1, (by omega), hp _ _ ?_ (Or.inr rfl)⟩⟩
    rw [e]
    have e3 : (qup M1 4 k 1) 3 3 = M 3 3 := by rw [qup_row (by decide), m2.1 3 (by decide)]
    rw [e3]
    have g : ∀ a, a ≠ 13 → a ≠ 3 → a ≠ 4 → (qup (qup M1 4 k 1) 3 3 (M 3 3 + 1)) a = M a := fun a a0 a1 a2 => by rw [qup_row a1, qup_row a2, m2.1 a a0]
    have g9 : ∀ a, a ≠ 3 → a ≠ 4 → (qup (qup M1 4 k 1) 3 3 (M 3 3 + 1)) a = M1 a := fun a a1 a2 => by rw [qup_row a1, qup_row a2]
    have g2 : (qup (qup M1 4 k 1) 3 3 (M 3 3 + 1)) 2 = M1 2 := by rw [qup_row (by decide), qup_row (by decide)]
    have g3 : ∀ j, (qup (qup M1 4 k 1) 3 3 (M 3 3 + 1)) 3 j = if j = 3 then M 3 3 + 1 else M 3 j := fun j => by rw [qup_at, qup_row (by decide), m2.1 3 (by decide)]
    have g4 : ∀ j, (qup (qup M1 4 k 1) 3 3 (M 3 3 + 1)) 4 j = if j = k then 1 else M 4 j := fun j => by rw [qup_row (by decide), qup_at, m2.1 4 (by decide)]
    generalize qup (qup M1 4 k 1) 3 3 (M 3 3 + 1) = M3 at *
    refine ⟨fun a ha => g a (by omega) (by omega) (by omega), fun _ => ⟨rfl, m2.2.2.2.cg (fun a a0 a1 => g9 a (by omega) (by omega)), by rw [g2]; exact m2.2.1, by rw [g2]; exact m2.2.2.1.1, by rw [g9 13 (by omega) (by omega)]; exact m2.2.2.1.2.2 3 (by decide), ?_⟩, fun y => absurd rfl y⟩
    have u : ∀ j, j ≠ 10 + k → aup A (10 + k) 1 j = A j := fun j hj => aup_ne hj
    have hh : ∀ q, rHome (aup A (10 + k) 1) q ↔ rHome A q := rHome_cg (u 3 (by omega)) (fun e e0 e1 => u _ (by omega))
    have ak : A (10 + k) = 0 := by
      rcases ok.2.2.2.1 k cb.1 (by omega) with y | y
      · exact y
      · exact absurd y c1.2.2.2.2.2.1
    show cRd (aup A (10 + k) 1) L M3
    refine ⟨⟨?_, ?_, ?_, ?_, ?_, ?_, ?_⟩, fun q q0 q1 => ?_, fun q q0 q1 => ?_, fun l hl => ?_⟩
    · rw [g3, if_neg (by decide), u 1 (by omega)]; exact r.1.1
    · rw [g3, if_neg (by decide), u 2 (by omega)]; exact r.1.2.1
    · rw [g3, if_neg (by decide), u 3 (by omega)]; exact r.1.2.2.1
    · show M3 3 3 = rSum (aup A (10 + k) 1) 10 (aup A (10 + k) 1 1 * aup A (10 + k) 1 2).toNat
      rw [g3, if_pos rfl, u 1 (by omega), u 2 (by omega), rSum_rock cb.1 ak, if_pos (by omega), r.1.2.2.2.1]
    · rw [g3, if_neg (by decide), u 0 (by omega)]; exact r.1.2.2.2.2.1
    · rw [g3, if_neg (by decide), u 52 (by omega)]; exact r.1.2.2.2.2.2.1
    · rw [g3, if_neg (by decide), u 53 (by omega)]; exact r.1.2.2.2.2.2.2
    · rw [g4, hh]
      by_cases y : q = k
      · rw [if_pos y, y, aup_self]
        exact ⟨fun _ => rfl, fun w => absurd rfl w⟩
      · rw [if_neg y, u _ (by omega)]; exact r.2.1 q q0 q1
    · have q1' : q < aup A (10 + k) 1 3 := q1
      rw [u 3 (by omega)] at q1'
      have a3 := ok.2.2.1
      rw [g 5 (by omega) (by omega) (by omega), g 6 (by omega) (by omega) (by omega), u _ (by omega), u _ (by omega)]; exact r.2.2.1 q q0 q1'
    · rw [g (7 + 3 * l) (by omega) (by omega) (by omega), g (8 + 3 * l) (by omega) (by omega) (by omega)]; exact r.2.2.2 l hl
  · rw [if_pos z] at e
    exact hp _ _ (cLs.bad (aB.after m0 m1) e z rfl) (Or.inl rfl)
theorem c_drum {f : Nat} (h : cTok b n T M) (hi : i ≤ T) (h4 : cHd M i) (hn : 0 ≤ n ∧ n ≤ 900) (r : cRd A L M) (ok : pOk A L) (k1 : kdf b n i = 2) (hp : ∀ v M1, cLs b n (pLine (kdf b n) (vlf b n) f A L i) M v M1 → v = 0 ∨ v = 1 → post v M1) : QCm X x (d + 5) 1 yX5_readDrum [(2, 2)] M post := by
  have tk := h.tk hn.1
  have l1 := tk.lt hi (by omega) (by omega)
  have a3 := ok.2.2.1
  have cc := pCell_ok (A := A) tk (show i + 1 ≤ T by omega) ok.1 ok.2.1
  have e : pLine (kdf b n) (vlf b n) f A L i = (if A 3 = 6 then toQL (pFl (kdf b n) 4 i) A L else if (pCell (kdf b n) (vlf b n) A (i + 1)).1 ≠ 0 then toQL (pCell (kdf b n) (vlf b n) A (i + 1)) A L else if kdf b n (i + 3) ≠ 3 then toQL (pFl (kdf b n) 2 (i + 3)) A L else if nOk (kdf b n) (vlf b n) 0 999 (i + 4) = true then (0, i + 5, aup (aup (aup A (46 + A 3) (cAt (vlf b n) A (i + 1))) (54 + A 3) (vlf b n (i + 4))) 3 (A 3 + 1), L) else toQL (pFl (kdf b n) (nW (kdf b n) (i + 4)) (i + 4)) A L) := by unfold pLine; rw [if_neg (by omega), if_pos k1]
  refine QC.of qmX5_readDrum_ok rfl (TX5_readDrum_0 ?_)
  rw [r.1.2.2.1]
  refine ⟨(i32 (by omega) (by omega)), fun y6 => ?_, fun y6 => c_failB h hi h4 (fun M1 m1 => ⟨Or.inl rfl, ?_⟩)⟩
  rotate_left
  · rw [if_pos (by omega)] at e
    exact hp _ _ (cLs.bad m1 e (pFl_ne (by decide)) rfl) (Or.inl rfl)
  rw [if_neg (by omega)] at e
  refine c_next h l1 h4 (fun Mn nk h4n => ?_)
  have m0 : aO (i + 1) M Mn := aO.of nk h4n
  refine c_cell (i := i + 1) (h.aO m0) l1 m0.2.2.2 hn (r.congr (fun a a0 a1 => m0.1 a (by omega))) ok (fun z M1 m1 => ?_) (fun z M1 m1 => ⟨fun _ => ?_, fun y => absurd rfl y⟩)
  rotate_left
  · rw [if_pos z] at e
    exact hp _ _ (cLs.bad (aB.after m0 m1) e z rfl) (Or.inl rfl)
  have c1 := cc.1 z
  have cb := cAt_b ok.1 ok.2.1 c1.2.1 c1.2.2.1
  have m2 := m0.trans m1
  rw [if_neg (fun y => y z)] at e
  refine ⟨fun y => absurd y (by omega), fun _ => ⟨(i32 (by omega) (by omega)), c_skipB (i := i + 3) (h.aO m2) c1.1 m2.2.2.2 (k := 3) (by unfold pVal; omega) rfl (fun z3 M2 m3 => ⟨fun y => absurd y (by decide), fun _ => ⟨(i32 (by omega) (by omega)), ?_⟩⟩) (fun z3 M2 m3 => ⟨fun _ => ?_, fun y => absurd rfl y⟩)⟩⟩
  rotate_left
  · rw [if_pos z3] at e
    exact hp _ _ (cLs.bad (aB.after m2 m3) e (pFl_ne (by decide)) rfl) (Or.inl rfl)
  rw [if_neg (fun y => y z3)] at e
  have l3 := tk.lt (i := i + 3) c1.1 (by rw [z3]; decide) (by rw [z3]; decide)
  have m4 := m2.trans m3
  refine c_num (i := i + 4) (h.aO m4) l3 m4.2.2.2 hn (i32 (by omega) (by omega)) (i32 (by omega) (by omega)) (fun z4 M3 m5 => ?_) (fun z4 M3 m5 => ⟨fun _ => ?_, fun y => absurd rfl y⟩)
  rotate_left
  · rw [if_neg z4] at e
    exact hp _ _ (cLs.bad (aB.after m4 m5) e (pFl_ne (nW_b _ _).1) rfl) (Or.inl rfl)
  rw [if_pos z4] at e
  have b4 := nOk_iff.1 z4
  have m6 := m4.trans m5
  generalize cAt (vlf b n) A (i + 1) = k at *
  generalize vlf b n (i + 4) = w at *
  have f2 : ∀ (a j v : Int), a ≠ 3 → ∀ N : QMem, N 3 2 = A 3 → (qup N a j v) 3 2 = A 3 := fun a j v ha N hN => by rw [qup_row (fun y => ha y.symm)]; exact hN
  have s1 : (qup M3 4 k 2) 3 2 = A 3 := f2 4 k 2 (by decide) M3 (by rw [m6.1 3 (by decide)]; exact r.1.2.2.1)
  rw [s1]
  have s2 : (qup (qup M3 4 k 2) 5 (A 3) k) 3 2 = A 3 := f2 5 _ _ (by decide) _ s1
  rw [s2]
  have s3 : (qup (qup (qup M3 4 k 2) 5 (A 3) k) 6 (A 3) w) 3 2 = A 3 := f2 6 _ _ (by decide) _ s2
  rw [s3]
  refine ⟨fun y => absurd y (by omega), fun _ => ⟨(i32 (by omega) (by omega)), cb.1, (by omega), a3.1, y6, a3.1, y6, hp _ _ ?_ (Or.inr rfl)⟩⟩
  rw [e]
  have g9 : ∀ a, a < 2 ∨ 7 ≤ a → (qup (qup (qup (qup M3 4 k 2) 5 (A 3) k) 6 (A 3) w) 3 2 (A 3 + 1)) a = M3 a := fun a ha => by rw [qup_row (by omega), qup_row (by omega), qup_row (by omega), qup_row (by omega)]
  have g : ∀ a, a < 2 ∨ (7 ≤ a ∧ a ≠ 13) → (qup (qup (qup (qup M3 4 k 2) 5 (A 3) k) 6 (A 3) w) 3 2 (A 3 + 1)) a = M a := fun a ha => by rw [g9 a (by omega), m6.1 a (by omega)]
  have g2 : (qup (qup (qup (qup M3 4 k 2) 5 (A 3) k) 6 (A 3) w) 3 2 (A 3 + 1)) 2 = M3 2 := by rw [qup_row (by decide), qup_row (by decide), qup_row (by decide), qup_row (by decide)]
  have g3 : ∀ j, (qup (qup (qup (qup M3 4 k 2) 5 (A 3) k) 6 (A 3) w) 3 2 (A 3 + 1)) 3 j = if j = 2 then A 3 + 1 else M 3 j := fun j => by rw [qup_at, qup_row (by decide), qup_row (by decide), qup_row (by decide), m6.1 3 (by decide)]
  have g4 : ∀ j, (qup (qup (qup (qup M3 4 k 2) 5 (A 3) k) 6 (A 3) w) 3 2 (A 3 + 1)) 4 j = if j = k then 2 else M 4 j := fun j => by rw [qup_row (by decide), qup_row (by decide), qup_row (by decide), qup_at, m6.1 4 (by decide)]
  have g5 : ∀ j, (qup (qup (qup (qup M3 4 k 2) 5 (A 3) k) 6 (A 3) w) 3 2 (A 3 + 1)) 5 j = if j = A 3 then k else M 5 j := fun j => by rw [qup_row (by decide), qup_row (by decide), qup_at, qup_row (by decide), m6.1 5 (by decide)]
  have g6 : ∀ j, (qup (qup (qup (qup M3 4 k 2) 5 (A 3) k) 6 (A 3) w) 3 2 (A 3 + 1)) 6 j = if j = A 3 then w else M 6 j := fun j => by rw [qup_row (by decide), qup_at, qup_row (by decide), qup_row (by decide), m6.1 6 (by decide)]
  generalize qup (qup (qup (qup M3 4 k 2) 5 (A 3) k) 6 (A 3) w) 3 2 (A 3 + 1) = M4 at *
  have e3 : (aup (aup (aup A (46 + A 3) k) (54 + A 3) w) 3 (A 3 + 1)) 3 = A 3 + 1 := aup_self _ _ _
  have eh : (aup (aup (aup A (46 + A 3) k) (54 + A 3) w) 3 (A 3 + 1)) (46 + A 3) = k := by rw [aup_ne (by omega), aup_ne (by omega), aup_self]
  have ey : (aup (aup (aup A (46 + A 3) k) (54 + A 3) w) 3 (A 3 + 1)) (54 + A 3) = w := by rw [aup_ne (by omega), aup_self]
  have u : ∀ j, j ≠ 3 → j ≠ 46 + A 3 → j ≠ 54 + A 3 → (aup (aup (aup A (46 + A 3) k) (54 + A 3) w) 3 (A 3 + 1)) j = A j := fun j j1 j2 j3 => by rw [aup_ne j1, aup_ne j3, aup_ne j2]
  generalize aup (aup (aup A (46 + A 3) k) (54 + A 3) w) 3 (A 3 + 1) = B at *
  have hh : ∀ q, rHome B q ↔ (rHome A q ∨ q = k) := fun q => by
    unfold rHome
    rw [e3]
    constructor
    · rintro ⟨y, y0, y1, y2⟩
      by_cases t : y = A 3
      · rw [t, eh] at y2; exact Or.inr y2.symm
      · rw [u _ (by omega) (by omega) (by omega)] at y2; exact Or.inl ⟨y, y0, (by omega), y2⟩
    · rintro (⟨y, y0, y1, y2⟩ | y)
      · exact ⟨y, y0, (by omega), by rw [u _ (by omega) (by omega) (by omega)]; exact y2⟩
      · exact ⟨A 3, (by omega), (by omega), by rw [eh]; exact y.symm⟩
  refine ⟨fun a ha => g a (by omega), fun _ => ⟨rfl, m6.2.2.2.cg (fun a a0 a1 => g9 a (by omega)), by rw [g2]; exact m6.2.1, by rw [g2]; exact m6.2.2.1.1, by rw [g9 13 (by omega)]; exact m6.2.2.1.2.2 3 (by decide), ?_⟩, fun y => absurd rfl y⟩
  show cRd B L M4
  refine ⟨⟨?_, ?_, ?_, ?_, ?_, ?_, ?_⟩, fun q q0 q1 => ?_, fun q q0 q1 => ?_, fun l hl => ?_⟩
  · rw [g3, if_neg (by decide), u 1 (by omega) (by omega) (by omega)]; exact r.1.1
  · rw [g3, if_neg (by decide), u 2 (by omega) (by omega) (by omega)]; exact r.1.2.1
  · rw [g3, if_pos rfl, e3]
  · rw [g3, if_neg (by decide), u 1 (by omega) (by omega) (by omega), u 2 (by omega) (by omega) (by omega), r.1.2.2.2.1]
    exact (rSum_congr (fun j hj => u _ (by omega) (by omega) (by omega))).symm
  · rw [g3, if_neg (by decide), u 0 (by omega) (by omega) (by omega)]; exact r.1.2.2.2.2.1
  · rw [g3, if_neg (by decide), u 52 (by omega) (by omega) (by omega)]; exact r.1.2.2.2.2.2.1
  · rw [g3, if_neg (by decide), u 53 (by omega) (by omega) (by omega)]; exact r.1.2.2.2.2.2.2
  · rw [g4, hh, u _ (by omega) (by omega) (by omega)]
    by_cases y : q = k
    · rw [if_pos y, y]
      exact ⟨fun t => absurd t c1.2.2.2.2.2.1, fun _ => ⟨fun _ => rfl, fun t => absurd (Or.inr rfl) t⟩⟩
    · rw [if_neg y]
      have t := r.2.1 q q0 q1
      exact ⟨t.1, fun s => ⟨fun v => (t.2 s).1 (v.resolve_right y), fun v => (t.2 s).2 (fun c => v (Or.inl c))⟩⟩
  · have q1' : q < B 3 := q1
    rw [e3] at q1'
    rw [g5, g6]
    by_cases y : q = A 3
    · rw [if_pos y, if_pos y, y, eh, ey]; exact ⟨rfl, rfl⟩
    · rw [if_neg y, if_neg y, u _ (by omega) (by omega) (by omega), u (54 + q) (by omega) (by omega) (by omega)]; exact r.2.2.1 q q0 (by omega)
  · rw [g (7 + 3 * l) (by omega), g (8 + 3 * l) (by omega)]; exact r.2.2.2 l hl
end CLine
