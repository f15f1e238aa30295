section MLand
variable {X : QX} {x : Int} {d : Nat} {post : Int → QMem → Prop} {M : QMem} {b : Int → Int} {n : Int} {T : Nat} {i : Nat}
theorem m_plain (hp : ∀ M1, (∀ a, a ≠ 219 → M1 a = M a) → (∀ j, 0 ≤ j → j < 4375 → M1 219 j = a0L j) → post 0 M1) : QCm X x d 0 yX11_plain [(2, 219)] M post := by
  have two : ∀ k : Int, ∀ M1 : QMem, 0 ≤ k ∧ k ≤ 36 ∧ (∀ a, a ≠ 219 → M1 a = M a) ∧ (∀ j, 0 ≤ j → j < 4375 → M1 219 j = if j = 1 ∨ j = 2 then 2 else if (258 ≤ j ∧ j < 258 + k) ∨ (294 ≤ j ∧ j < 294 + k) then -1 else 0) → QRm X x d qmX11_plain post 29 [(0, (2, 219)), (1, (0, k))] [] M1 := by
    refine int_up 36 (fun k hk M1 h => ?_) (fun k hk ih M1 h => ?_)
    · refine TX11_plain_29 ⟨(i32 (by omega) (by omega)), fun _ => hp M1 h.2.2.1 (fun j j0 j1 => ?_), fun z => absurd hk (by omega)⟩
      rw [h.2.2.2 j j0 j1, show k = 36 by omega]
      unfold a0L
      by_cases y : j = 1 ∨ j = 2
      · rw [if_pos y, if_pos y]
      · rw [if_neg y, if_neg y]
        by_cases w : 258 ≤ j ∧ j < 330
        · rw [if_pos w, if_pos (by omega)]
        · rw [if_neg w, if_neg (by omega)]
    · refine TX11_plain_29 ⟨(i32 (by omega) (by omega)), fun z => absurd hk (by omega), fun _ => ⟨rfl, (by omega), (show 258 + k < 4375 by omega), (by omega), (show 294 + k < 4375 by omega), ih _ ⟨(by omega), (by omega), fun a ha => by rw [qup_row ha, qup_row ha]; exact h.2.2.1 a ha, fun j j0 j1 => ?_⟩⟩⟩
      rw [qup_at, qup_at]
      by_cases y1 : j = 294 + k
      · rw [if_pos y1, if_neg (by omega), if_pos (by omega)]
      · rw [if_neg y1]
        by_cases y2 : j = 258 + k
        · rw [if_pos y2, if_neg (by omega), if_pos (by omega)]
        · rw [if_neg y2, h.2.2.2 j j0 j1]
          by_cases y : j = 1 ∨ j = 2
          · rw [if_pos y, if_pos y]
          · rw [if_neg y, if_neg y]
            by_cases w : (258 ≤ j ∧ j < 258 + k) ∨ (294 ≤ j ∧ j < 294 + k)
            · rw [if_pos w, if_pos (by omega)]
            · rw [if_neg w, if_neg (by omega)]
  have one : ∀ k : Int, ∀ M1 : QMem, 0 ≤ k ∧ k ≤ 4375 ∧ (∀ a, a ≠ 219 → M1 a = M a) ∧ (∀ j, 0 ≤ j → j < k → M1 219 j = 0) → QRm X x d qmX11_plain post 2 [(0, (2, 219)), (1, (0, k))] [] M1 := by
    refine int_up 4375 (fun k hk M1 h => ?_) (fun k hk ih M1 h => ?_)
    · refine TX11_plain_2 ⟨(i32 (by omega) (by omega)), fun _ => ⟨rfl, (show (1 : Int) < 4375 by decide), (show (2 : Int) < 4375 by decide), two 0 _ ⟨(by omega), (by omega), fun a ha => by rw [qup_row ha, qup_row ha]; exact h.2.2.1 a ha, fun j j0 j1 => ?_⟩⟩, fun z => absurd hk (by omega)⟩
      rw [qup_at, qup_at]
      by_cases y2 : j = 2
      · rw [if_pos y2, if_pos (Or.inr y2)]
      · rw [if_neg y2]
        by_cases y1 : j = 1
        · rw [if_pos y1, if_pos (Or.inl y1)]
        · rw [if_neg y1, if_neg (by omega), if_neg (by omega)]; exact h.2.2.2 j j0 (by omega)
    · refine TX11_plain_2 ⟨(i32 (by omega) (by omega)), fun z => absurd hk (by omega), fun _ => ⟨rfl, (by omega), (show k < 4375 by omega), ih _ ⟨(by omega), (by omega), fun a ha => by rw [qup_row ha]; exact h.2.2.1 a ha, fun j j0 j1 => ?_⟩⟩⟩
      rw [qup_at]
      by_cases y : j = k
      · rw [if_pos y]
      · rw [if_neg y]; exact h.2.2.2 j j0 (by omega)
  exact QC.of qmX11_plain_ok rfl (TX11_plain_0 (one 0 M ⟨(by omega), (by omega), fun _ _ => rfl, fun j j0 j1 => absurd j1 (by omega)⟩))
/-- a fault -/
theorem m_exitB (h : rBad M) (hp : post (-30 - M 215 11) (qup (qup M 215 13 (M 215 11)) 215 14 (M 215 12))) : QRm X x (d + 1) qmX11_land post 96 [(0, (2, 215))] [] M := by
  have q1 : (qup M 215 13 (M 215 11)) 215 11 = M 215 11 := by rw [qup_at, if_neg (by decide)]
  have q2 : (qup M 215 13 (M 215 11)) 215 12 = M 215 12 := by rw [qup_at, if_neg (by decide)]
  have q3 : ∀ w, (qup (qup M 215 13 (M 215 11)) 215 14 w) 215 11 = M 215 11 := fun w => by rw [qup_at, if_neg (by decide), q1]
  refine TX11_land_96 ⟨fun y => absurd y h.1, fun _ => ⟨h.2, ?_⟩⟩
  rw [q1, q2, q3, q3]
  exact ⟨fun y => absurd y h.1, fun _ => ⟨h.2, fun y => absurd y h.1, fun _ => ⟨h.2, hp⟩⟩⟩
/-- no fault: the land is taken over -/
theorem m_exitG (h : M 215 11 = 0) (h9 : M 215 9 = 24) (hp : ∀ M1, (∀ a, a ≠ 215 → a ≠ 216 → M1 a = M a) → (∀ j, j ≠ 13 → j ≠ 14 → M1 215 j = M 215 j) → M1 215 13 = 0 → M1 215 14 = -1 → (∀ j, M1 216 j = if 0 ≤ j ∧ j < 4375 then M 219 j else M 216 j) → post (M1 216 0) M1) : QRm X x (d + 1) qmX11_land post 96 [(0, (2, 215))] [] M := by
  have q1 : (qup M 215 13 (M 215 11)) 215 11 = M 215 11 := by rw [qup_at, if_neg (by decide)]
  have q3 : ∀ w, (qup (qup M 215 13 (M 215 11)) 215 14 w) 215 11 = M 215 11 := fun w => by rw [qup_at, if_neg (by decide), q1]
  have loop : ∀ k : Int, ∀ M1 : QMem, 0 ≤ k ∧ k ≤ 4375 ∧ (∀ a, a ≠ 215 → a ≠ 216 → M1 a = M a) ∧ (∀ j, j ≠ 13 → j ≠ 14 → M1 215 j = M 215 j) ∧ M1 215 13 = 0 ∧ M1 215 14 = -1 ∧ (∀ j, M1 216 j = if 0 ≤ j ∧ j < k then M 219 j else M 216 j) → QRm X x (d + 1) qmX11_land post 167 [(0, (2, 215)), (2, (0, k))] [] M1 := by
    refine int_up 4375 (fun k hk M1 h => ?_) (fun k hk ih M1 h => ?_)
    · refine TX11_land_167 ⟨(i32 (by omega) (by omega)), fun _ => hp M1 h.2.2.1 h.2.2.2.1 h.2.2.2.2.1 h.2.2.2.2.2.1 (fun j => ?_), fun z => absurd hk (by omega)⟩
      rw [h.2.2.2.2.2.2, show k = 4375 by omega]
    · refine TX11_land_167 ⟨(i32 (by omega) (by omega)), fun z => absurd hk (by omega), fun _ => ⟨(by omega), (by omega), (by omega), ih _ ⟨(by omega), (by omega), fun a a0 a1 => by rw [qup_row a1]; exact h.2.2.1 a a0 a1, fun j j0 j1 => by rw [qup_row (by decide)]; exact h.2.2.2.1 j j0 j1, by rw [qup_row (by decide)]; exact h.2.2.2.2.1, by rw [qup_row (by decide)]; exact h.2.2.2.2.2.1, fun j => ?_⟩⟩⟩
      rw [qup_at, h.2.2.2.2.2.2, h.2.2.1 219 (by decide) (by decide)]
      by_cases z : j = k
      · rw [if_pos z, if_pos (by omega), z]
      · rw [if_neg z]
        by_cases y : 0 ≤ j ∧ j < k
        · rw [if_pos y, if_pos (by omega)]
        · rw [if_neg y, if_neg (by omega : ¬ (0 ≤ j ∧ j < k + 1))]
  refine TX11_land_96 ⟨fun _ => ⟨fun _ => ?_, fun y => absurd h9 y⟩, fun y => absurd h y⟩
  rw [q1, q3]
  refine ⟨fun _ => ⟨fun _ => loop 0 _ ⟨(by omega), (by omega), fun a a0 a1 => by rw [qup_row a0, qup_row a0], fun j j0 j1 => by rw [qup_at, if_neg j1, qup_at, if_neg j0], by rw [qup_at, if_neg (by decide), qup_at, if_pos rfl]; exact h, by rw [qup_at, if_pos rfl], fun j => by rw [qup_row (by decide), qup_row (by decide), if_neg (by omega)]⟩, fun y => absurd h y⟩, fun y => absurd h y⟩
/-- a text is read -/
theorem m_landGo {f g : Nat} (hv : 0 ≤ n ∧ n ≤ M 215 5 ∧ M 215 5 ≤ 900) (hb : ∀ j, 0 ≤ j → j < 900 → M 218 j = b j ∧ 0 ≤ b j ∧ b j ≤ 255) (tk : tkOk (kdf b n) (vlf b n) T) (hT : (T : Int) ≤ n) (hf : 12 * T + 20 < f) (hg : T < g + 4) (hp : ∀ M0 M1, (∀ a, a ≠ 215 → a ≠ 219 → M0 a = M a) → (∀ j, j ≠ 0 → j ≠ 5 → j ≠ 6 → j ≠ 7 → j ≠ 8 → j ≠ 9 → j ≠ 10 → j ≠ 11 → M0 215 j = M 215 j) → M0 215 5 = 0 → rFin b n (pText (kdf b n) (vlf b n) f g) M0 M1 → QRm X x (d + 34) qmX11_land post 96 [(0, (2, 215))] [] M1) : QCm X x (d + 34) 1 yX11_land [(2, 215), (0, n)] M post := by
  have e5 : (qup M 215 0 0) 215 5 = M 215 5 := by rw [qup_at, if_neg (by decide)]
  refine QC.of qmX11_land_ok rfl (TX11_land_0 ?_)
  rw [e5]
  refine ⟨(i32 (by omega) (by omega)), (i32 (by omega) (by omega)), m_within (i64 (by omega) (by omega)) (i64 (by omega) (by omega)) (i64 (by omega) (by omega)) (fun _ => ⟨fun y => absurd y (by decide), fun _ => ⟨(i32 (by omega) (by omega)), ?_⟩⟩) (fun y => absurd ⟨hv.1, hv.2.1⟩ y)⟩
  have g0 : ∀ a, a ≠ 215 → (qup (qup (qup (qup (qup M 215 0 0) 215 8 n) 215 5 0) 215 7 0) 215 11 0) a = M a := fun a ha => by rw [qup_row ha, qup_row ha, qup_row ha, qup_row ha, qup_row ha]
  have g1 : ∀ j, (qup (qup (qup (qup (qup M 215 0 0) 215 8 n) 215 5 0) 215 7 0) 215 11 0) 215 j = if j = 11 then 0 else if j = 7 then 0 else if j = 5 then 0 else if j = 8 then n else if j = 0 then 0 else M 215 j := fun j => by rw [qup_at, qup_at, qup_at, qup_at, qup_at]
  generalize qup (qup (qup (qup (qup M 215 0 0) 215 8 n) 215 5 0) 215 7 0) 215 11 0 = M1 at *
  refine m_plain (fun M2 m2 v2 => ?_)
  have tx : rTx b n M2 := ⟨⟨hv.1, (by omega)⟩, by rw [m2 215 (by decide), g1]; rfl, fun j j0 j1 => by rw [m2 218 (by decide), g0 218 (by decide)]; exact hb j j0 j1⟩
  have w0 : M2 215 11 = 0 := by rw [m2 215 (by decide), g1]; rfl
  have t0 : tpos b n 0 = 0 := rfl
  refine m_next tx (p := 0) (by rw [m2 215 (by decide), g1]; rfl) ⟨(by omega), hv.1⟩ (fun M3 n3 a3 => ?_)
  have s3 : rSt b n 0 M3 := ⟨tx.nK n3, by rw [t0]; exact a3, by rw [n3.2 11 (by decide) (by decide) (by decide) (by decide)]; exact w0⟩
  have r3 : rRd a0L l0L M3 := by
    have e3 : M3 219 = M2 219 := n3.1 219 (by decide)
    refine ⟨fun j j0 j1 _ => by rw [e3]; exact v2 j j0 (by omega), fun l hl => Or.inl ⟨rfl, ?_⟩, ?_⟩
    · rw [e3, v2 _ (by omega) (by omega)]
      rcases hl with rfl | rfl <;> rfl
    · rw [e3, v2 3474 (by omega) (by omega)]; decide
  have z3 : M3 219 3474 = 0 := by rw [n3.1 219 (by decide), v2 3474 (by omega) (by omega)]; rfl
  have k0 : ∀ a, a ≠ 215 → a ≠ 219 → M3 a = M a := fun a a0 a1 => by rw [n3.1 a a0, m2 a a1, g0 a a0]
  have k1 : ∀ j, j ≠ 0 → j ≠ 5 → j ≠ 6 → j ≠ 7 → j ≠ 8 → j ≠ 9 → j ≠ 10 → j ≠ 11 → M3 215 j = M 215 j := fun j a0 a1 a2 a3 a4 a5 a6 a7 => by rw [n3.2 j a2 a3 a5 a6, m2 215 (by decide), g1, if_neg a7, if_neg a3, if_neg a1, if_neg a4, if_neg a0]
  have k5 : M3 215 5 = 0 := by rw [n3.2 5 (by decide) (by decide) (by decide) (by decide), m2 215 (by decide), g1]; rfl
  have fin := hp M3
  -- behind a fault
  have bad2 : ∀ {N : QMem} {rr : Int × Nat × List Int}, gL M3 N → rBad N → N 215 11 = rr.1 → N 215 12 = tS b n (tpos b n rr.2.1) → pText (kdf b n) (vlf b n) f g = toQL rr a0L l0L → rr.1 ≠ 0 → ∀ {v : Int}, QCm X x (d + 33) 0 yX11_ends [(2, 215)] (qup N 219 2 v) (fun _ M8 => QRm X x (d + 34) qmX11_land post 96 [(0, (2, 215))] [] M8) := fun {N rr} q1 q2 q3 q4 q5 q6 v => s_ends q2.row (fin _ k0 k1 k5 (by
    rw [q5]
    refine ⟨(q1.trans (gL.put _ _ _)).trans (gL.put _ _ _), fun y => absurd y q6, fun _ => ⟨q2.row.row, ?_, ?_⟩⟩
    · rw [qup_row (by decide), qup_row (by decide)]; exact q3
    · rw [qup_row (by decide), qup_row (by decide)]; exact q4))
  have bad1 : ∀ {N : QMem} {rr : Int × Nat × List Int}, gL M3 N → rBad N → N 215 11 = rr.1 → N 215 12 = tS b n (tpos b n rr.2.1) → pText (kdf b n) (vlf b n) f g = toQL rr a0L l0L → rr.1 ≠ 0 → ∀ {v : Int}, QCm X x (d + 33) 1 yX11_takesN [(2, 215), (0, 2), (0, 6)] (qup N 219 1 v) (fun x7 M7 => QCm X x (d + 33) 0 yX11_ends [(2, 215)] (qup M7 219 2 x7) (fun _ M8 => QRm X x (d + 34) qmX11_land post 96 [(0, (2, 215))] [] M8)) := fun {N rr} q1 q2 q3 q4 q5 q6 v => s_num q2.row (fun w => bad2 (q1.trans (gL.put _ _ _)) q2.row (by rw [qup_row (by decide)]; exact q3) (by rw [qup_row (by decide)]; exact q4) q5 q6)
  refine m_eats s3 (i32 (by omega) (by omega)) (fun z M4 n4 s4 => ⟨fun y => absurd y (by decide), fun _ => ⟨(i32 (by omega) (by omega)), ?_⟩⟩) (fun z => ⟨fun _ => m_fails s3 (by decide) (fun M4 r4 b4 => s_num b4 (fun v => ?_)), fun y => absurd rfl y⟩)
  rotate_left
  · have rb := r4.2.2 (pFl_ne (by decide))
    exact bad1 r4.1.gL b4 rb.1 rb.2 (by unfold pText; rw [if_neg z]) (pFl_ne (by decide))
  refine m_num s4 (i32 (by omega) (by omega)) (i32 (by omega) (by omega)) (fun z1 M5 n5 s5 => ?_) (fun z1 v M5 r5 b5 => ?_)
  rotate_left
  · have rb := r5.2.2 (pFl_ne (nW_b _ _).1)
    exact bad1 (n4.gL.trans r5.1.gL) b5 rb.1 rb.2 (by unfold pText; rw [if_pos z, if_neg z1]) (pFl_ne (nW_b _ _).1)
  have b1 := nOk_iff.1 z1
  refine m_num s5.row (i32 (by omega) (by omega)) (i32 (by omega) (by omega)) (fun z2 M6 n6 s6 => ?_) (fun z2 v M6 r6 b6 => ?_)
  rotate_left
  · have rb := r6.2.2 (pFl_ne (nW_b _ _).1)
    exact bad2 ((n4.gL.trans n5.gL).trans ((gL.put _ _ _).trans r6.1.gL)) b6 rb.1 rb.2 (by unfold pText; rw [if_pos z, if_pos z1, if_neg z2]) (pFl_ne (nW_b _ _).1)
  have b2 := nOk_iff.1 z2
  have g6 : gL M3 (qup M6 219 2 (vlf b n 2)) := ((n4.gL.trans n5.gL).trans ((gL.put _ _ _).trans n6.gL)).trans (gL.put _ _ _)
  have f6 : M6 219 = (qup M5 219 1 (vlf b n 1)) 219 := n6.1 219 (by decide)
  have f5 : M5 219 = M3 219 := (n4.trans n5).1 219 (by decide)
  have r6 : rRd (aup (aup a0L 1 (vlf b n 1)) 2 (vlf b n 2)) l0L (qup M6 219 2 (vlf b n 2)) := (((r3.congr f5).put (by omega) (by omega)).congr f6).put (by omega) (by omega)
  have z6 : (qup M6 219 2 (vlf b n 2)) 219 3474 = 0 := by rw [qup_at, if_neg (by omega), f6, qup_at, if_neg (by omega), f5]; exact z3
  have s7 : rSt b n 3 (qup M6 219 2 (vlf b n 2)) := s6.row
  generalize qup M6 219 2 (vlf b n 2) = M7 at *
  refine m_ends s7 (fun w M8 n8 s8 => ?_) (fun w M8 r8 b8 => ?_)
  · have f8 : M8 219 = M7 219 := n8.1 219 (by decide)
    have e0 : M8 219 0 = 0 := by rw [f8, r6.1 0 (by omega) (by omega) (by omega), aup_ne (by decide), aup_ne (by decide)]; rfl
    have l3 : 3 < T := by
      have a0 := tk.lt (i := 0) (show 0 ≤ T by omega) (fun y => absurd (z.symm.trans y) (by decide)) (fun y => absurd (z.symm.trans y) (by decide))
      have a1 := tk.lt (i := 1) (show 1 ≤ T by omega) (fun y => absurd (b1.1.symm.trans y) (by decide)) (fun y => absurd (b1.1.symm.trans y) (by decide))
      have a2 := tk.lt (i := 2) (show 2 ≤ T by omega) (fun y => absurd (b2.1.symm.trans y) (by decide)) (fun y => absurd (b2.1.symm.trans y) (by decide))
      exact tk.lt (i := 3) (show 3 ≤ T by omega) (fun y => absurd (w.symm.trans y) (by decide)) (fun y => absurd (w.symm.trans y) (by decide))
    rw [e0]
    refine m_lines (T := T) (f := f) (M0 := M3) tk hT hf g 4 (aup (aup (aup a0L 1 (vlf b n 1)) 2 (vlf b n 2)) 0 1) l0L _ l3 hg s8.row ((r6.congr f8).put (by omega) (by omega)) ?_ (pOk.first b1.2 b2.2) ((g6.trans n8.gL).trans (gL.put _ _ _)) (fun M9 m9 => fin M9 k0 k1 k5 ?_)
    · rw [qup_at, if_neg (by omega), f8, z6]; decide
    · have et : pText (kdf b n) (vlf b n) f g = pLns (kdf b n) (vlf b n) f g (aup (aup (aup a0L 1 (vlf b n 1)) 2 (vlf b n 2)) 0 1) l0L 4 := by unfold pText; rw [if_pos z, if_pos z1, if_pos z2, if_pos w]
      rw [et]; exact m9
  · have rb := r8.2.2 (pFl_ne (by decide))
    refine fin _ k0 k1 k5 ?_
    have et : pText (kdf b n) (vlf b n) f g = toQL (pFl (kdf b n) 2 3) a0L l0L := by unfold pText; rw [if_pos z, if_pos z1, if_pos z2, if_neg w]
    rw [et]
    refine ⟨(g6.trans r8.1.gL).trans (gL.put _ _ _), fun u => absurd u (pFl_ne (by decide)), fun _ => ⟨b8.row, ?_, ?_⟩⟩
    · rw [qup_row (by decide)]; exact rb.1
    · rw [qup_row (by decide)]; exact rb.2
end MLand
