section MText
variable {X : QX} {x : Int} {d : Nat} {post : Int → QMem → Prop} {M : QMem} {b : Int → Int} {n : Int} {T : Nat} {A : Int → Int} {L : Int → List Int} {i : Nat}
theorem s_readTruth (h : rBad M) {k : Int} (hp : post 0 M) : QCm X x (d + 6) 0 yX11_readTruth [(2, 215), (0, k)] M post := QC.of qmX11_readTruth_ok rfl (TX11_readTruth_0 (s_readBoth h (s_rTruth h hp)))
theorem gL.f15 (M : QMem) (v : Int) : gL M (qup M 215 15 v) := ⟨fun a a0 _ => qup_row a0, fun j _ _ _ _ _ _ a6 => by rw [qup_at, if_neg a6]⟩
theorem rBad.f15 (h : rBad M) (v : Int) : rBad (qup M 215 15 v) := by
  unfold rBad; rw [qup_at, if_neg (by decide)]; exact h
theorem rBad.row (h : rBad M) {j v : Int} : rBad (qup M 219 j v) := by
  unfold rBad; rw [qup_row (by decide)]; exact h
theorem rSt.f15 (h : rSt b n i M) (v : Int) : rSt b n i (qup M 215 15 v) := by
  have e : ∀ j, j ≠ 15 → (qup M 215 15 v) 215 j = M 215 j := fun j hj => by rw [qup_at, if_neg hj]
  refine ⟨h.1.congr (e 8 (by decide)) (qup_row (by decide)), ?_, ?_⟩
  · unfold rAt; rw [e 6 (by decide), e 7 (by decide), e 9 (by decide), e 10 (by decide)]; exact h.2.1
  · rw [e 11 (by decide)]; exact h.2.2
theorem m_sum0 {f : Nat} (h : rSt b n i M) (tk : tkOk (kdf b n) (vlf b n) T) (hT : (T : Int) ≤ n) (hi : i ≤ T) (hf : 12 * T + 20 < f) (h15 : M 215 15 = 0) (hz : 0 ≤ M 219 3474 ∧ M 219 3474 ≤ i) (hp : ∀ M1, rRes b n M (pz (kdf b n) (vlf b n) 0 f 3 0 i) M1 → post 0 M1) : QCm X x (d + 31) 0 yX11_readSum [(2, 215), (0, 0)] M post := by
  have hr := (m_read (T := T) (b := b) X x h.1.1 hT tk 0 (i32 (by omega) (by omega)) f).1 3 (by omega) (d + 3) 0 i M post (by decide) hi (by have : pRk 3 = 3 := rfl; omega) h h15 hz hp
  have hd : d + 3 + 3 * (6 - 0) + pDm 3 = d + 31 := by have : pDm 3 = 10 := rfl; omega
  rw [hd] at hr; exact hr
theorem m_truth1 {f : Nat} (h : rSt b n i M) (tk : tkOk (kdf b n) (vlf b n) T) (hT : (T : Int) ≤ n) (hi : i ≤ T) (hf : 12 * T + 20 < f) (h15 : M 215 15 = 1) (hz : 0 ≤ M 219 3474 ∧ M 219 3474 ≤ i) (hp : ∀ M1, rRes b n M (pz (kdf b n) (vlf b n) 1 f 8 0 i) M1 → post 0 M1) : QCm X x (d + 31) 0 yX11_readTruth [(2, 215), (0, 0)] M post := by
  have hr := (m_read (T := T) (b := b) X x h.1.1 hT tk 1 (i32 (by omega) (by omega)) f).1 8 (by omega) d 0 i M post (by decide) hi (by have : pRk 8 = 6 := rfl; omega) h h15 hz hp
  have hd : d + 3 * (6 - 0) + pDm 8 = d + 31 := by have : pDm 8 = 13 := rfl; omega
  rw [hd] at hr; exact hr
/-- a law was read -/
theorem m_lawR {f : Nat} {l : Int} {M2 M6 : QMem} (h2 : rSt b n (i + 2) M2) (tk : tkOk (kdf b n) (vlf b n) T) (hT : T ≤ 900) (hi : i + 2 ≤ T) (hf : 12 * T + 20 < f) (k1 : kdf b n i = 4 ∨ kdf b n i = 5) (k31 : kdf b n (i + 1) = 31) (hl : l = kdf b n i - 4) (r : rRd A L M) (hz : M 219 3474 ≤ i) (g : gL M M2) (e2 : M2 219 = M 219) (h : rRes b n M2 (pLw (kdf b n) (vlf b n) f i) M6) (hp : ∀ M1, rLs b n (pLine (kdf b n) (vlf b n) f A L i) M M1 → post 0 M1) : (M6 215 11 = 0 → ((0 : Int) ≤ 4 + l ∧ (4 + l < 4375 ∧ ((0 : Int) ≤ 6 + l ∧ (6 + l < 4375 ∧ ((0 : Int) ≤ 8 + l ∧ (8 + l < 4375 ∧ (post 0 (qup (qup (qup M6 219 (4 + l) 1) 219 (6 + l) (M 219 3474)) 219 (8 + l) (((qup (qup M6 219 (4 + l) 1) 219 (6 + l) (M 219 3474)) 219 3474) - (M 219 3474))))))))))) ∧ (¬ M6 215 11 = 0 → in32 (M6 215 11) ∧ (post 0 M6)) := by
  have e : pLine (kdf b n) (vlf b n) f A L i = (if (pLw (kdf b n) (vlf b n) f i).1 ≠ 0 then toQL (pLw (kdf b n) (vlf b n) f i) A L else (0, (pLw (kdf b n) (vlf b n) f i).2.1, A, lup L (kdf b n i - 4) (pLw (kdf b n) (vlf b n) f i).2.2)) := by unfold pLine; rw [if_neg (by omega), if_neg (by omega), if_pos k1, if_neg (fun y => y k31)]
  have hs : (if kdf b n i = 4 then 3 else 8) ≤ 9 := by split <;> decide
  have hr : pRes T (i + 2) (pStp (if kdf b n i = 4 then 3 else 8)) (pLw (kdf b n) (vlf b n) f i) := pz_res (m := kdf b n i - 4) tk f (if kdf b n i = 4 then 3 else 8) 0 (i + 2) hs (by omega) (by
      have : pRk (if kdf b n i = 4 then 3 else 8) ≤ 6 := by split <;> decide
      omega)
  by_cases z : (pLw (kdf b n) (vlf b n) f i).1 ≠ 0
  · rw [if_pos z] at e
    have hb : rBad M6 := h.rBad z (by rcases hr with q | q <;> omega)
    exact ⟨fun y => absurd y hb.1, fun _ => ⟨hb.2, hp _ (rLs.bad g h hb e z)⟩⟩
  have z0 : (pLw (kdf b n) (vlf b n) f i).1 = 0 := Classical.byContradiction z
  rw [if_neg z] at e
  obtain ⟨q1, q2, q3⟩ := h.2.1 z0
  obtain ⟨t1, t2, t3⟩ := q3
  rcases hr with hr | hr
  rotate_left
  · exact absurd z0 (by omega)
  have lo := pLw_ok (f := f) tk (by omega) k1 z0
  have hF := h.1
  generalize pLw (kdf b n) (vlf b n) f i = w at *
  rw [e2] at t1 t2 t3
  refine ⟨fun _ => ⟨(by omega), (by omega), (by omega), (by omega), (by omega), (by omega), hp _ ?_⟩, fun y => absurd q1 y⟩
  have c1 : (qup (qup M6 219 (4 + l) 1) 219 (6 + l) (M 219 3474)) 219 3474 = M6 219 3474 := by rw [qup_at, if_neg (by omega), qup_at, if_neg (by omega)]
  rw [c1, e]
  have o4 : (qup (qup (qup M6 219 (4 + l) 1) 219 (6 + l) (M 219 3474)) 219 (8 + l) (M6 219 3474 - M 219 3474)) 219 (4 + l) = 1 := by rw [qup_at, if_neg (by omega), qup_at, if_neg (by omega), qup_at, if_pos rfl]
  have o6 : (qup (qup (qup M6 219 (4 + l) 1) 219 (6 + l) (M 219 3474)) 219 (8 + l) (M6 219 3474 - M 219 3474)) 219 (6 + l) = M 219 3474 := by rw [qup_at, if_neg (by omega), qup_at, if_pos rfl]
  have o8 : (qup (qup (qup M6 219 (4 + l) 1) 219 (6 + l) (M 219 3474)) 219 (8 + l) (M6 219 3474 - M 219 3474)) 219 (8 + l) = (w.2.2.length : Int) := by rw [qup_at, if_pos rfl, t1]; omega
  have oo : ∀ j, j ≠ 4 + l → j ≠ 6 + l → j ≠ 8 + l → (qup (qup (qup M6 219 (4 + l) 1) 219 (6 + l) (M 219 3474)) 219 (8 + l) (M6 219 3474 - M 219 3474)) 219 j = M6 219 j := fun j a1 a2 a3 => by rw [qup_at, if_neg a3, qup_at, if_neg a2, qup_at, if_neg a1]
  have gg : gL M (qup (qup (qup M6 219 (4 + l) 1) 219 (6 + l) (M 219 3474)) 219 (8 + l) (M6 219 3474 - M 219 3474)) := ((g.trans hF.gL).trans (gL.put _ _ _)).trans ((gL.put _ _ _).trans (gL.put _ _ _))
  have ss : rSt b n w.2.1 (qup (qup (qup M6 219 (4 + l) 1) 219 (6 + l) (M 219 3474)) 219 (8 + l) (M6 219 3474 - M 219 3474)) := rSt.row (rSt.row (rSt.row ⟨h2.1.gF hF, q2, q1⟩))
  generalize qup (qup (qup M6 219 (4 + l) 1) 219 (6 + l) (M 219 3474)) 219 (8 + l) (M6 219 3474 - M 219 3474) = M7 at *
  have low : ∀ j, j < 3474 → M6 219 j = M 219 j := fun j hj => by rw [hF.2.2 j hj, e2]
  have N0 := r.2.2
  refine ⟨gg, fun _ => ⟨ss, ⟨fun j j0 j1 j2 => ?_, fun l' hl' => ?_, ?_⟩, ?_⟩, fun y => absurd rfl y⟩
  · rw [oo j (by omega) (by omega) (by omega), low j j1]; exact r.1 j j0 j1 j2
  · have body : ∀ K : List Int, (l' = kdf b n i - 4 → K = w.2.2) → (l' ≠ kdf b n i - 4 → K = L l') → (K = [] ∧ M7 219 (4 + l') = 0) ∨ (K ≠ [] ∧ M7 219 (4 + l') = 1 ∧ M7 219 (8 + l') = (K.length : Int) ∧ 0 ≤ M7 219 (6 + l') ∧ M7 219 (6 + l') + (K.length : Int) ≤ M7 219 3474 ∧ ∀ q : Nat, q < K.length → M7 219 (3475 + M7 219 (6 + l') + q) = K.getD q 0) := fun K h1 h2 => by
      by_cases y : l' = kdf b n i - 4
      · have y' : l' = l := (by omega)
        rw [h1 y, y', o4, o6, o8, oo 3474 (by omega) (by omega) (by omega), t1]
        refine Or.inr ⟨fun u => ?_, rfl, rfl, N0, (by omega), fun q hq => ?_⟩
        · have := lo.1.1
          rw [u] at this
          exact absurd this (by decide)
        · rw [oo _ (by omega) (by omega) (by omega)]; exact t3 q hq
      · rw [h2 y, oo (4 + l') (by omega) (by omega) (by omega), oo (6 + l') (by omega) (by omega) (by omega), oo (8 + l') (by omega) (by omega) (by omega), oo 3474 (by omega) (by omega) (by omega), low _ (by omega), low _ (by omega), low _ (by omega), t1]
        rcases r.2.1 l' hl' with u | ⟨u1, u2, u3, u4, u5, u6⟩
        · exact Or.inl u
        · refine Or.inr ⟨u1, u2, u3, u4, (by omega), fun q hq => ?_⟩
          rw [oo _ (by omega) (by omega) (by omega), t2 _ (by omega) (by omega)]; exact u6 q hq
    exact body (lup L (kdf b n i - 4) w.2.2 l') (fun y => if_pos y) (fun y => if_neg y)
  · rw [oo 3474 (by omega) (by omega) (by omega), t1]; omega
  · rw [oo 3474 (by omega) (by omega) (by omega), t1]
    show _ ≤ (w.2.1 : Int)
    omega
theorem m_law {f : Nat} (h : rSt b n i M) (tk : tkOk (kdf b n) (vlf b n) T) (hT : (T : Int) ≤ n) (hi : i + 1 ≤ T) (hf : 12 * T + 20 < f) (r : rRd A L M) (hz : M 219 3474 ≤ i) (k1 : kdf b n i = 4 ∨ kdf b n i = 5) {l : Int} (hl : l = kdf b n i - 4) (hp : ∀ M1, rLs b n (pLine (kdf b n) (vlf b n) f A L i) M M1 → post 0 M1) : QCm X x (d + 32) 0 yX11_readLaw [(2, 215), (0, l)] M post := by
  have hn := h.1.1
  refine QC.of qmX11_readLaw_ok rfl (TX11_readLaw_0 (m_step h (fun M1 n1 s1 => m_eats s1 (i32 (by omega) (by omega)) (fun z M2 n2 s2 => ⟨fun y => absurd y (by decide), fun _ => ⟨(i32 (by omega) (by omega)), ?_⟩⟩) (fun z => ⟨fun _ => m_fails s1 (by decide) (fun M3 r3 b3 => ?_), fun y => absurd rfl y⟩))))
  · have l1 := tk.lt (i := i + 1) hi (fun y => absurd (z.symm.trans y) (by decide)) (fun y => absurd (z.symm.trans y) (by decide))
    have n12 := n1.trans n2
    have f2 : M2 219 = M 219 := n12.1 219 (by decide)
    have s3 := s2.f15 (v := l)
    have g3 : gL M (qup M2 215 15 l) := n12.gL.trans (gL.f15 M2 l)
    have f3 : (qup M2 215 15 l) 219 = M 219 := (qup_row (by decide)).trans f2
    have h15 : (qup M2 215 15 l) 215 15 = l := by rw [qup_at, if_pos rfl]
    have hz3 : 0 ≤ (qup M2 215 15 l) 219 3474 ∧ (qup M2 215 15 l) 219 3474 ≤ ((i + 2 : Nat) : Int) := by rw [f3]; have := r.2.2; omega
    rw [f2]
    generalize qup M2 215 15 l = M4 at *
    have fin : ∀ M6, rRes b n M4 (pLw (kdf b n) (vlf b n) f i) M6 → _ := fun M6 h6 => m_lawR (post := post) s3 tk (by omega) l1 hf k1 z hl r hz g3 f3 h6 hp
    refine ⟨fun y => ?_, fun y => ⟨(i32 (by omega) (by omega)), ?_⟩⟩
    · have k4 : kdf b n i = 4 := (by omega)
      have el : pLw (kdf b n) (vlf b n) f i = pz (kdf b n) (vlf b n) 0 f 3 0 (i + 2) := by unfold pLw; rw [if_pos k4, k4]; rfl
      rw [el] at fin
      exact m_sum0 s3 tk hT l1 hf (h15.trans y) hz3 fin
    · have k5 : kdf b n i = 5 := (by omega)
      have el : pLw (kdf b n) (vlf b n) f i = pz (kdf b n) (vlf b n) 1 f 8 0 (i + 2) := by unfold pLw; rw [if_neg (by omega), k5]; rfl
      rw [el] at fin
      exact m_truth1 s3 tk hT l1 hf (h15.trans (by omega)) hz3 fin
  · have e : pLine (kdf b n) (vlf b n) f A L i = toQL (pFl (kdf b n) 2 (i + 1)) A L := by unfold pLine; rw [if_neg (by omega), if_neg (by omega), if_pos k1, if_pos z]
    have b4 := b3.f15 l
    have done : post 0 (qup M3 215 15 l) := by
      refine hp _ ?_
      rw [e]
      refine ⟨(n1.gL.trans r3.1.gL).trans (gL.f15 M3 l), fun y => absurd y (pFl_ne (by decide)), fun _ => ⟨b4, ?_, ?_⟩⟩
      · rw [qup_at, if_neg (by decide)]; exact (r3.2.2 (pFl_ne (by decide))).1
      · rw [qup_at, if_neg (by decide)]; exact (r3.2.2 (pFl_ne (by decide))).2
    exact ⟨fun _ => s_readSum b4 ⟨fun y => absurd y b4.1, fun _ => ⟨b4.2, done⟩⟩, fun _ => ⟨(i32 (by omega) (by omega)), s_readTruth b4 ⟨fun y => absurd y b4.1, fun _ => ⟨b4.2, done⟩⟩⟩⟩
theorem m_wetHour {f : Nat} {j up : Int} {M1 : QMem} (s1 : rSt b n (i + 1) M1) (n1 : nK M M1) (r : rRd A L M) (hz : M 219 3474 ≤ i) (hj : j = 52 ∨ j = 53) (hup : in32 up) (e1 : nOk (kdf b n) (vlf b n) 0 up (i + 1) = true → pLine (kdf b n) (vlf b n) f A L i = (0, i + 2, aup A j (vlf b n (i + 1)), L)) (e0 : ¬ nOk (kdf b n) (vlf b n) 0 up (i + 1) = true → pLine (kdf b n) (vlf b n) f A L i = toQL (pFl (kdf b n) (nW (kdf b n) (i + 1)) (i + 1)) A L) (hp : ∀ M1, rLs b n (pLine (kdf b n) (vlf b n) f A L i) M M1 → post 0 M1) : QCm X x (d + 7) 1 yX11_takesN [(2, 215), (0, 0), (0, up)] M1 (fun x8 M8 => post 0 (qup M8 219 j x8)) := by
  refine m_num s1 (i32 (by omega) (by omega)) hup (fun z M2 n2 s2 => hp _ ?_) (fun z v M2 r2 b2 => hp _ ?_)
  · have n12 := n1.trans n2
    have f2 : M2 219 = M 219 := n12.1 219 (by decide)
    rw [e1 z]
    refine ⟨n12.gL.trans (gL.put M2 _ _), fun _ => ⟨s2.row, (r.congr f2).put (by omega) (by omega), ?_⟩, fun y => absurd rfl y⟩
    show (qup M2 219 j (vlf b n (i + 1))) 219 3474 ≤ ((i + 2 : Nat) : Int)
    rw [qup_at, if_neg (by omega), f2]; omega
  · rw [e0 z]
    refine ⟨(n1.gL.trans r2.1.gL).trans (gL.put M2 _ _), fun y => absurd y (pFl_ne (nW_b _ _).1), fun _ => ⟨b2.row, ?_, ?_⟩⟩
    · rw [qup_row (by decide)]; exact (r2.2.2 (pFl_ne (nW_b _ _).1)).1
    · rw [qup_row (by decide)]; exact (r2.2.2 (pFl_ne (nW_b _ _).1)).2
theorem m_line {f : Nat} (h : rSt b n i M) (tk : tkOk (kdf b n) (vlf b n) T) (hT : (T : Int) ≤ n) (hi : i ≤ T) (hf : 12 * T + 20 < f) (r : rRd A L M) (hz : M 219 3474 ≤ i) (ok : pOk A L) (hp : ∀ M1, rLs b n (pLine (kdf b n) (vlf b n) f A L i) M M1 → post 0 M1) : QCm X x (d + 33) 0 yX11_readLine [(2, 215)] M post := by
  have lt : kdf b n i ≠ 24 → kdf b n i ≠ 25 → i + 1 ≤ T := fun a c => tk.lt hi a c
  have e9 : M 215 9 = kdf b n i := h.2.1.2.2.1
  refine QC.of qmX11_readLine_ok rfl (TX11_readLine_0 ⟨fun _ => m_is h (i32 (by omega) (by omega)) (fun z => ⟨fun y => absurd y (by decide), fun _ => ⟨(i32 (by omega) (by omega)), m_rock (f := f) h tk (lt (by omega) (by omega)) r hz ok z hp⟩⟩) (fun z1 => ⟨fun _ => ?_, fun y => absurd rfl y⟩), fun y => absurd h.2.2 y⟩)
  refine m_is h (i32 (by omega) (by omega)) (fun z => ⟨fun y => absurd y (by decide), fun _ => ⟨(i32 (by omega) (by omega)), m_drum (f := f) h tk (lt (by omega) (by omega)) r hz ok z hp⟩⟩) (fun z2 => ⟨fun _ => ?_, fun y => absurd rfl y⟩)
  refine m_is h (i32 (by omega) (by omega)) (fun z => ⟨fun y => absurd y (by decide), fun _ => ⟨(i32 (by omega) (by omega)), m_law (f := f) h tk hT (lt (by omega) (by omega)) hf r hz (Or.inl z) (by rw [e9]) hp⟩⟩) (fun z4 => ⟨fun _ => ?_, fun y => absurd rfl y⟩)
  refine m_is h (i32 (by omega) (by omega)) (fun z => ⟨fun y => absurd y (by decide), fun _ => ⟨(i32 (by omega) (by omega)), m_law (f := f) h tk hT (lt (by omega) (by omega)) hf r hz (Or.inr z) (by rw [e9]) hp⟩⟩) (fun z5 => ⟨fun _ => ?_, fun y => absurd rfl y⟩)
  refine m_eats h (i32 (by omega) (by omega)) (fun z M1 n1 s1 => ⟨fun y => absurd y (by decide), fun _ => ⟨(i32 (by omega) (by omega)), m_wetHour (f := f) s1 n1 r hz (Or.inl rfl) (i32 (by omega) (by omega)) (fun w => ?_) (fun w => ?_) hp⟩⟩) (fun z6 => ⟨fun _ => ?_, fun y => absurd rfl y⟩)
  · unfold pLine; rw [if_neg (by omega), if_neg (by omega), if_neg (by omega), if_pos z, if_pos w]
  · unfold pLine; rw [if_neg (by omega), if_neg (by omega), if_neg (by omega), if_pos z, if_neg w]
  refine m_eats h (i32 (by omega) (by omega)) (fun z M1 n1 s1 => ⟨fun y => absurd y (by decide), fun _ => ⟨(i32 (by omega) (by omega)), m_wetHour (f := f) s1 n1 r hz (Or.inr rfl) (i32 (by omega) (by omega)) (fun w => ?_) (fun w => ?_) hp⟩⟩) (fun z7 => ⟨fun _ => ?_, fun y => absurd rfl y⟩)
  · unfold pLine; rw [if_neg (by omega), if_neg (by omega), if_neg (by omega), if_neg (by omega), if_pos z, if_pos w]
  · unfold pLine; rw [if_neg (by omega), if_neg (by omega), if_neg (by omega), if_neg (by omega), if_pos z, if_neg w]
  refine m_fails h (by decide) (fun M1 r1 b1 => hp M1 ?_)
  refine rLs.bad (gL.refl M) r1 b1 (A := A) (L := L) ?_ (pFl_ne (by decide))
  unfold pLine; rw [if_neg z1, if_neg z2, if_neg (fun w => w.elim z4 z5), if_neg z6, if_neg z7]
theorem m_ends (h : rSt b n i M) (h1 : kdf b n i = 30 → ∀ M1, nK M M1 → rSt b n (i + 1) M1 → post 0 (qup M1 219 0 (M1 219 0 + 1))) (h0 : kdf b n i ≠ 30 → ∀ M1, rRes b n M (pFl (kdf b n) 2 i) M1 → rBad M1 → post 0 (qup M1 219 0 (M1 219 0 + 1))) : QCm X x (d + 8) 0 yX11_ends [(2, 215)] M post :=
  QC.of qmX11_ends_ok rfl (TX11_ends_0 (m_eats h (i32 (by omega) (by omega)) (fun z M1 n1 s1 => ⟨fun y => absurd y (by decide), fun _ => ⟨(i32 (by omega) (by omega)), h1 z M1 n1 s1⟩⟩) (fun z => ⟨fun _ => m_fails h (by decide) (fun M1 r1 b1 => h0 z M1 r1 b1), fun y => absurd rfl y⟩)))
theorem s_ends (h : rBad M) (hp : post 0 (qup M 219 0 (M 219 0 + 1))) : QCm X x (d + 2) 0 yX11_ends [(2, 215)] M post :=
  QC.of qmX11_ends_ok rfl (TX11_ends_0 (s_eats h ⟨fun _ => s_fails h hp, fun y => absurd rfl y⟩))
def rFin (b : Int → Int) (n : Int) (r : QL) (M M1 : QMem) : Prop := gL M M1 ∧ (r.1 = 0 → rSt b n r.2.1 M1 ∧ kdf b n r.2.1 = 24 ∧ rRd r.2.2.1 r.2.2.2 M1 ∧ M1 219 3474 ≤ 900) ∧ (r.1 ≠ 0 → rBad M1 ∧ M1 215 11 = r.1 ∧ M1 215 12 = tS b n (tpos b n r.2.1))
theorem m_lines {f : Nat} {M0 : QMem} (tk : tkOk (kdf b n) (vlf b n) T) (hT : (T : Int) ≤ n) (hf : 12 * T + 20 < f) : ∀ (g i : Nat) (A : Int → Int) (L : Int → List Int) (M : QMem), i ≤ T → T < g + i → rSt b n i M → rRd A L M → M 219 3474 ≤ i → pOk A L → gL M0 M → (∀ M1, rFin b n (pLns (kdf b n) (vlf b n) f g A L i) M0 M1 → QRm X x (d + 34) qmX11_land post 96 [(0, (2, 215))] [] M1) → QRm X x (d + 34) qmX11_land post 96 [(0, (2, 215))] [] M := by
  intro g
  induction g with
  | zero => intro i A L M hi hg; exact absurd hg (by omega)
  | succ g ih =>
    intro i A L M hi hg h r hz ok hfr hp
    have hn := h.1.1
    have e : pLns (kdf b n) (vlf b n) f (g + 1) A L i = (if kdf b n i = 24 then (0, i, A, L) else if (pLine (kdf b n) (vlf b n) f A L i).1 ≠ 0 then pLine (kdf b n) (vlf b n) f A L i else if kdf b n (pLine (kdf b n) (vlf b n) f A L i).2.1 = 30 then pLns (kdf b n) (vlf b n) f g (aup (pLine (kdf b n) (vlf b n) f A L i).2.2.1 0 ((pLine (kdf b n) (vlf b n) f A L i).2.2.1 0 + 1)) (pLine (kdf b n) (vlf b n) f A L i).2.2.2 ((pLine (kdf b n) (vlf b n) f A L i).2.1 + 1) else toQL (pFl (kdf b n) 2 (pLine (kdf b n) (vlf b n) f A L i).2.1) A L) := rfl
    rw [e] at hp
    clear e
    by_cases k : kdf b n i = 24
    · rw [if_pos k] at hp
      exact hp M ⟨hfr, fun _ => ⟨h, k, r, (by omega)⟩, fun y => absurd rfl y⟩
    rw [if_neg k] at hp
    have lo := pLine_ok tk (by omega) hi hf k ok
    have e9 : M 215 9 = kdf b n i := h.2.1.2.2.1
    have kb := tk.2.2.1 i
    refine TX11_land_96 ⟨fun _ => ⟨fun y => absurd (e9.symm.trans y) k, fun _ => ⟨by rw [e9]; exact (i32 (by omega) (by omega)), ?_⟩⟩, fun y => absurd h.2.2 y⟩
    refine m_line (f := f) h tk hT hi hf r hz ok (fun M1 m1 => ?_)
    generalize pLine (kdf b n) (vlf b n) f A L i = R at *
    have fr1 := hfr.trans m1.1
    by_cases z0 : R.1 ≠ 0
    · rw [if_pos z0] at hp
      obtain ⟨q1, q2, q3⟩ := m1.2.2 z0
      refine s_ends q1 (hp _ ⟨fr1.trans (gL.put _ _ _), fun y => absurd y z0, fun _ => ⟨q1.row, ?_, ?_⟩⟩)
      · rw [qup_row (by decide)]; exact q2
      · rw [qup_row (by decide)]; exact q3
    rw [if_neg z0] at hp
    have z1 : R.1 = 0 := Classical.byContradiction z0
    obtain ⟨s1, rr, hz1⟩ := m1.2.1 z1
    obtain ⟨o1, o2, o3⟩ := lo.1 z1
    refine m_ends s1 (fun w M2 n2 s2 => ?_) (fun w M2 r2 b2 => ?_)
    · rw [if_pos w] at hp
      have l3 := tk.lt (i := R.2.1) o2 (fun y => absurd (w.symm.trans y) (by decide)) (fun y => absurd (w.symm.trans y) (by decide))
      have f2 : M2 219 = M1 219 := n2.1 219 (by decide)
      have e0 : M2 219 0 = R.2.2.1 0 := by rw [f2]; exact rr.1 0 (by omega) (by omega) (by omega)
      rw [e0]
      refine ih (R.2.1 + 1) _ _ _ l3 (by omega) s2.row ((rr.congr f2).put (by omega) (by omega)) ?_ (o3.zero _) ((fr1.trans n2.gL).trans (gL.put _ _ _)) hp
      rw [qup_at, if_neg (by omega), f2]; omega
    · rw [if_neg w] at hp
      refine hp _ ⟨(fr1.trans r2.1.gL).trans (gL.put _ _ _), fun u => absurd u (pFl_ne (by decide)), fun _ => ⟨b2.row, ?_, ?_⟩⟩
      · rw [qup_row (by decide)]; exact (r2.2.2 (pFl_ne (by decide))).1
      · rw [qup_row (by decide)]; exact (r2.2.2 (pFl_ne (by decide))).2
end MText
