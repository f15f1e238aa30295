section CText
variable {X : QX} {x : Int} {d : Nat} {post : Int → QMem → Prop} {M : QMem} {b : Int → Int} {n : Int} {T : Nat} {A : Int → Int} {L : Int → List Int} {i : Nat}
theorem cLs.good {r : QL} {j : Nat} {B : Int → Int} {K : Int → List Int} {M1 : QMem} (e : r = (0, j, B, K)) (hf : ∀ a, a < 2 ∨ 14 ≤ a → M1 a = M a) (h4 : cHd M1 j) (h0 : M1 2 0 = M 2 0) (h1 : M1 2 1 = M 2 1) (h13 : M1 13 3 = M 13 3) (h : cRd B K M1) : cLs b n r M 1 M1 := by
  subst e
  exact ⟨hf, fun _ => ⟨rfl, h4, h0, h1, h13, h⟩, fun z => absurd rfl z⟩
/-- a law was read -/
theorem c_lawR {f : Nat} {W : Int} {M2 M3 : QMem} {v : Int} (r : cRd A L M) (hk : kdf b n i = 4 ∨ kdf b n i = 5) (hW : W = 7 + 3 * (kdf b n i - 4)) (k31 : kdf b n (i + 1) = 31) (g1 : ∀ a, a ≠ 2 → a ≠ 13 → a ≠ W → M2 a = M a) (g5 : M2 13 3 = M 13 3) (g2 : M2 W 2 = 0) (g3 : M2 2 0 = M 2 0) (g4 : M2 2 1 = M 2 1) (h : cRes b n W M2 (pLw (kdf b n) (vlf b n) f i) v M3) : cLs b n (pLine (kdf b n) (vlf b n) f A L i) M v M3 := by
  have e : pLine (kdf b n) (vlf b n) f A L i = (if (pLw (kdf b n) (vlf b n) f i).1 ≠ 0 then toQL (pLw (kdf b n) (vlf b n) f i) A L else (0, (pLw (kdf b n) (vlf b n) f i).2.1, A, lup L (kdf b n i - 4) (pLw (kdf b n) (vlf b n) f i).2.2)) := by unfold pLine; rw [if_neg (by omega), if_neg (by omega), if_pos hk, if_neg (fun y => y k31)]
  obtain ⟨q1, q2, q3⟩ := h
  have fr : ∀ a, a < 2 ∨ 14 ≤ a → M3 a = M a := fun a ha => by rw [q1.1 a (by omega) (by omega) (by omega) (by omega), g1 a (by omega) (by omega) (by omega)]
  by_cases z : (pLw (kdf b n) (vlf b n) f i).1 ≠ 0
  · rw [if_pos z] at e
    rw [e]
    exact ⟨fr, fun y => absurd y z, fun _ => q3 z⟩
  · rw [if_neg z] at e
    have z2 : (pLw (kdf b n) (vlf b n) f i).1 = 0 := Classical.byContradiction z
    obtain ⟨s1, s2, s3⟩ := q2 z2
    obtain ⟨t1, t2, t3, t4, t5⟩ := s3
    subst s1
    refine cLs.good e fr s2 (t4.trans g3) (t5.trans g4) ((q1.2.2.2 3 (by decide)).trans g5) ?_
    generalize pLw (kdf b n) (vlf b n) f i = w at *
    have k : ∀ a, (a ≠ 2 ∧ a ≠ 13) → a ≠ W → a ≠ W + 1 → M3 a = M a := fun a a0 a1 a2 => by rw [q1.1 a a0.1 a0.2 a1 a2, g1 a a0.1 a0.2 a1]
    refine ⟨by rw [k 3 (by omega) (by omega) (by omega)]; exact r.1, fun q q0 q1' => by rw [k 4 (by omega) (by omega) (by omega)]; exact r.2.1 q q0 q1', fun q q0 q1' => by rw [k 5 (by omega) (by omega) (by omega), k 6 (by omega) (by omega) (by omega)]; exact r.2.2.1 q q0 q1', fun l hl => ?_⟩
    unfold lup
    by_cases y : l = kdf b n i - 4
    · rw [if_pos y, show 7 + 3 * l = W by omega, show 8 + 3 * l = W + 1 by omega]
      refine ⟨by rw [t1, g2]; omega, fun q hq => ?_⟩
      have := t3 q hq
      rw [g2, Int.zero_add] at this
      exact this
    · rw [if_neg y, k (7 + 3 * l) (by omega) (by omega) (by omega), k (8 + 3 * l) (by omega) (by omega) (by omega)]; exact r.2.2.2 l hl
theorem c_sum0 {f : Nat} (h : cTok b n T M) (hi : i ≤ T) (h4 : cHd M i) (h6 : M 2 5 = 0) (hz : M 7 2 = 0) (hn : 0 ≤ n ∧ n ≤ 900) (hf : 12 * T + 20 < f) (hp : ∀ v M1, cRes b n 7 M (pz (kdf b n) (vlf b n) 0 f 3 0 i) v M1 → post v M1) : QCm X 7 (d + 34) 1 yX5_readSum [(2, 2), (0, 0)] M post := by
  have hr := (c_read (T := T) (b := b) X (L := 7) (Or.inl rfl) hn 0 (Or.inl rfl) f).1 3 (by omega) (d + 4) 0 i M post (by decide) hi (by have : pRk 3 = 3 := rfl; omega) h h4 h6 (by rw [hz]; omega) hp
  have hd : d + 4 + 4 * (6 - 0) + pDr 3 = d + 34 := by have : pDr 3 = 6 := rfl; omega
  rw [hd] at hr; exact hr
theorem c_truth1 {f : Nat} (h : cTok b n T M) (hi : i ≤ T) (h4 : cHd M i) (h6 : M 2 5 = 1) (hz : M 10 2 = 0) (hn : 0 ≤ n ∧ n ≤ 900) (hf : 12 * T + 20 < f) (hp : ∀ v M1, cRes b n 10 M (pz (kdf b n) (vlf b n) 1 f 8 0 i) v M1 → post v M1) : QCm X 10 (d + 34) 1 yX5_readTruth [(2, 2), (0, 0)] M post := by
  have hr := (c_read (T := T) (b := b) X (L := 10) (Or.inr rfl) hn 1 (Or.inr rfl) f).1 8 (by omega) d 0 i M post (by decide) hi (by have : pRk 8 = 6 := rfl; omega) h h4 h6 (by rw [hz]; omega) hp
  have hd : d + 4 * (6 - 0) + pDr 8 = d + 34 := by have : pDr 8 = 10 := rfl; omega
  rw [hd] at hr; exact hr
theorem c_takes {f : Nat} {post : Int → Int → QMem → Prop} (h : cTok b n T M) (hi : i ≤ T) (h4 : cHd M i) (hn : 0 ≤ n ∧ n ≤ 900) (hf : 12 * T + 20 < f) (r : cRd A L M) (k1 : kdf b n i = 4) (hp : ∀ v y M1, cLs b n (pLine (kdf b n) (vlf b n) f A L i) M v M1 → v = 0 ∨ v = 1 → post v y M1) : QCx X x (d + 35) 1 yX5_readTakes [(2, 2)] M post := by
  have tk := h.tk hn.1
  have l1 := tk.lt hi (by omega) (by omega)
  refine QC.of qmX5_readTakes_ok rfl (TX5_readTakes_0 (c_next h l1 h4 (fun M0 nk h4n => TX5_readTakes_18 ⟨rfl, ?_⟩)))
  have m0 : aO (i + 1) M M0 := aO.of nk h4n
  refine QC.of qmX2_clear_ok rfl (TX2_clear_0 (Or.inl rfl) ?_)
  have g9 : ∀ a, a ≠ 2 → a ≠ 7 → (qup (qup M0 7 2 0) 2 5 0) a = M0 a := fun a a0 a1 => by rw [qup_row a0, qup_row a1]
  have g1 : ∀ a, a ≠ 2 → a ≠ 7 → a ≠ 13 → (qup (qup M0 7 2 0) 2 5 0) a = M a := fun a a0 a1 a2 => by rw [g9 a a0 a1, m0.1 a a2]
  have g7 : (qup (qup M0 7 2 0) 2 5 0) 7 2 = 0 := by rw [qup_row (by decide), qup_at, if_pos rfl]
  have g2 : ∀ j, (qup (qup M0 7 2 0) 2 5 0) 2 j = if j = 5 then 0 else M0 2 j := fun j => by rw [qup_at, qup_row (by decide)]
  generalize qup (qup M0 7 2 0) 2 5 0 = M1 at *
  have t1 : cTok b n T M1 := (h.aO m0).congr (fun a a0 a1 => g9 a (by omega) (by omega))
  have t4 : cHd M1 (i + 1) := m0.2.2.2.cg (fun a a0 a1 => g9 a (by omega) (by omega))
  have t13 : M1 13 3 = M 13 3 := by rw [g9 13 (by omega) (by omega)]; exact m0.2.2.1.2.2 3 (by decide)
  have q0 : M1 2 0 = M 2 0 := by rw [g2, if_neg (by decide)]; exact m0.2.1
  have q1 : M1 2 1 = M 2 1 := by rw [g2, if_neg (by decide)]; exact m0.2.2.1.1
  have q6 : M1 2 5 = 0 := by rw [g2, if_pos rfl]
  refine c_skipB (i := i + 1) t1 l1 t4 (k := 31) (by unfold pVal; omega) (by decide +kernel) (fun z M2 m2 => ⟨fun y => absurd y (by decide), fun _ => ⟨(i32 (by omega) (by omega)), ?_⟩⟩) (fun z M2 m2 => ⟨fun _ => hp _ _ _ ?_ (Or.inl rfl), fun y => absurd rfl y⟩)
  · have l2 := tk.lt (i := i + 1) l1 (fun y => absurd (z.symm.trans y) (by decide)) (fun y => absurd (z.symm.trans y) (by decide))
    have el : pLw (kdf b n) (vlf b n) f i = pz (kdf b n) (vlf b n) 0 f 3 0 (i + 2) := by unfold pLw; rw [if_pos k1, k1]; rfl
    refine c_sum0 (i := i + 2) (f := f) (t1.aO m2) l2 m2.2.2.2 (m2.2.2.1.2.1.trans q6) (by rw [m2.1 7 (by decide)]; exact g7) hn hf (fun v M3 m3 => ?_)
    rw [← el] at m3
    have hv := (ok01 m3).2
    have res := c_lawR (M := M) (M2 := M2) r (Or.inl k1) (by rw [k1]; rfl) z (fun a a0 a1 a2 => by rw [m2.1 a a1, g1 a a0 a2 a1]) ((m2.2.2.1.2.2 3 (by decide)).trans t13) (by rw [m2.1 7 (by decide)]; exact g7) (m2.2.1.trans q0) (m2.2.2.1.1.trans q1) m3
    rcases hv with rfl | rfl
    · exact ⟨fun _ => hp _ _ _ res (Or.inl rfl), fun y => absurd rfl y⟩
    · exact ⟨fun y => absurd y (by decide), fun _ => ⟨(i32 (by omega) (by omega)), hp _ _ _ res (Or.inr rfl)⟩⟩
  · have e : pLine (kdf b n) (vlf b n) f A L i = toQL (pFl (kdf b n) 2 (i + 1)) A L := by unfold pLine; rw [if_neg (by omega), if_neg (by omega), if_pos (Or.inl k1), if_pos z]
    rw [e]
    refine ⟨fun a ha => by rw [m2.1 a (by omega) (by omega), g1 a (by omega) (by omega) (by omega)], fun y => absurd y (pFl_ne (by decide)), fun _ => ⟨rfl, m2.2.1, m2.2.2⟩⟩
theorem c_may {f : Nat} {post : Int → Int → QMem → Prop} (h : cTok b n T M) (hi : i ≤ T) (h4 : cHd M i) (hn : 0 ≤ n ∧ n ≤ 900) (hf : 12 * T + 20 < f) (r : cRd A L M) (k1 : kdf b n i = 5) (hp : ∀ v y M1, cLs b n (pLine (kdf b n) (vlf b n) f A L i) M v M1 → v = 0 ∨ v = 1 → post v y M1) : QCx X x (d + 35) 1 yX5_readMay [(2, 2)] M post := by
  have tk := h.tk hn.1
  have l1 := tk.lt hi (by omega) (by omega)
  refine QC.of qmX5_readMay_ok rfl (TX5_readMay_0 (c_next h l1 h4 (fun M0 nk h4n => TX5_readMay_18 ⟨rfl, ?_⟩)))
  have m0 : aO (i + 1) M M0 := aO.of nk h4n
  refine QC.of qmX2_clear_ok rfl (TX2_clear_0 (Or.inr rfl) ?_)
  have g9 : ∀ a, a ≠ 2 → a ≠ 10 → (qup (qup M0 10 2 0) 2 5 1) a = M0 a := fun a a0 a1 => by rw [qup_row a0, qup_row a1]
  have g1 : ∀ a, a ≠ 2 → a ≠ 10 → a ≠ 13 → (qup (qup M0 10 2 0) 2 5 1) a = M a := fun a a0 a1 a2 => by rw [g9 a a0 a1, m0.1 a a2]
  have g7 : (qup (qup M0 10 2 0) 2 5 1) 10 2 = 0 := by rw [qup_row (by decide), qup_at, if_pos rfl]
  have g2 : ∀ j, (qup (qup M0 10 2 0) 2 5 1) 2 j = if j = 5 then 1 else M0 2 j := fun j => by rw [qup_at, qup_row (by decide)]
  generalize qup (qup M0 10 2 0) 2 5 1 = M1 at *
  have t1 : cTok b n T M1 := (h.aO m0).congr (fun a a0 a1 => g9 a (by omega) (by omega))
  have t4 : cHd M1 (i + 1) := m0.2.2.2.cg (fun a a0 a1 => g9 a (by omega) (by omega))
  have t13 : M1 13 3 = M 13 3 := by rw [g9 13 (by omega) (by omega)]; exact m0.2.2.1.2.2 3 (by decide)
  have q0 : M1 2 0 = M 2 0 := by rw [g2, if_neg (by decide)]; exact m0.2.1
  have q1 : M1 2 1 = M 2 1 := by rw [g2, if_neg (by decide)]; exact m0.2.2.1.1
  have q6 : M1 2 5 = 1 := by rw [g2, if_pos rfl]
  refine c_skipB (i := i + 1) t1 l1 t4 (k := 31) (by unfold pVal; omega) (by decide +kernel) (fun z M2 m2 => ⟨fun y => absurd y (by decide), fun _ => ⟨(i32 (by omega) (by omega)), ?_⟩⟩) (fun z M2 m2 => ⟨fun _ => hp _ _ _ ?_ (Or.inl rfl), fun y => absurd rfl y⟩)
  · have l2 := tk.lt (i := i + 1) l1 (fun y => absurd (z.symm.trans y) (by decide)) (fun y => absurd (z.symm.trans y) (by decide))
    have el : pLw (kdf b n) (vlf b n) f i = pz (kdf b n) (vlf b n) 1 f 8 0 (i + 2) := by unfold pLw; rw [if_neg (by omega), k1]; rfl
    refine c_truth1 (i := i + 2) (f := f) (t1.aO m2) l2 m2.2.2.2 (m2.2.2.1.2.1.trans q6) (by rw [m2.1 10 (by decide)]; exact g7) hn hf (fun v M3 m3 => ?_)
    rw [← el] at m3
    have hv := (ok01 m3).2
    have res := c_lawR (M := M) (M2 := M2) r (Or.inr k1) (by rw [k1]; rfl) z (fun a a0 a1 a2 => by rw [m2.1 a a1, g1 a a0 a2 a1]) ((m2.2.2.1.2.2 3 (by decide)).trans t13) (by rw [m2.1 10 (by decide)]; exact g7) (m2.2.1.trans q0) (m2.2.2.1.1.trans q1) m3
    rcases hv with rfl | rfl
    · exact ⟨fun _ => hp _ _ _ res (Or.inl rfl), fun y => absurd rfl y⟩
    · exact ⟨fun y => absurd y (by decide), fun _ => ⟨(i32 (by omega) (by omega)), hp _ _ _ res (Or.inr rfl)⟩⟩
  · have e : pLine (kdf b n) (vlf b n) f A L i = toQL (pFl (kdf b n) 2 (i + 1)) A L := by unfold pLine; rw [if_neg (by omega), if_neg (by omega), if_pos (Or.inr k1), if_pos z]
    rw [e]
    refine ⟨fun a ha => by rw [m2.1 a (by omega) (by omega), g1 a (by omega) (by omega) (by omega)], fun y => absurd y (pFl_ne (by decide)), fun _ => ⟨rfl, m2.2.1, m2.2.2⟩⟩
theorem cRd.one {M3 : QMem} {j v : Int} (r : cRd A L M) (ok : pOk A L) (hj : j = 5 ∨ j = 6) (g3 : ∀ q, M3 3 q = if q = j then v else M 3 q) (g : ∀ a, 4 ≤ a → a ≤ 11 → M3 a = M a) : cRd (aup A (47 + j) v) L M3 := by
  have a3 := ok.2.2.1
  have u : ∀ q, q ≠ 47 + j → aup A (47 + j) v q = A q := fun q hq => aup_ne hq
  have hh : ∀ q, rHome (aup A (47 + j) v) q ↔ rHome A q := rHome_cg (u 3 (by omega)) (fun e e0 e1 => u _ (by omega))
  have hc := rSt_zero ok.1 ok.2.1
  obtain ⟨⟨r0, r1, r2, r3, r4, r5, r6⟩, s2, s3, s4⟩ := r
  refine ⟨⟨?_, ?_, ?_, ?_, ?_, ?_, ?_⟩, fun q q0 q1 => ?_, fun q q0 q1 => ?_, fun l hl => ?_⟩
  · rw [g3, if_neg (by omega), u 1 (by omega)]; exact r0
  · rw [g3, if_neg (by omega), u 2 (by omega)]; exact r1
  · rw [g3, if_neg (by omega), u 3 (by omega)]; exact r2
  · rw [g3, if_neg (by omega), u 1 (by omega), u 2 (by omega), r3]
    exact (rSum_congr (fun q hq => u _ (by omega))).symm
  · rw [g3, if_neg (by omega), u 0 (by omega)]; exact r4
  · rw [g3]
    rcases hj with rfl | rfl
    · rw [if_pos rfl]; exact (aup_self _ _ _).symm
    · rw [if_neg (by decide), u 52 (by decide)]; exact r5
  · rw [g3]
    rcases hj with rfl | rfl
    · rw [if_neg (by decide), u 53 (by decide)]; exact r6
    · rw [if_pos rfl]; exact (aup_self _ _ _).symm
  · rw [hh, u _ (by omega), g 4 (by omega) (by omega)]; exact s2 q q0 q1
  · rw [u 3 (by omega)] at q1
    rw [u _ (by omega), u (54 + q) (by omega), g 5 (by omega) (by omega), g 6 (by omega) (by omega)]; exact s3 q q0 q1
  · rw [g (7 + 3 * l) (by omega) (by omega), g (8 + 3 * l) (by omega) (by omega)]; exact s4 l hl
theorem c_wetHour {f : Nat} {j up : Int} (h : cTok b n T M) (hi : i ≤ T) (h4 : cHd M i) (hn : 0 ≤ n ∧ n ≤ 900) (r : cRd A L M) (ok : pOk A L) (hj : j = 5 ∨ j = 6) (hup : in32 up) (k24 : kdf b n i ≠ 24) (k25 : kdf b n i ≠ 25) (e1 : nOk (kdf b n) (vlf b n) 0 up (i + 1) = true → pLine (kdf b n) (vlf b n) f A L i = (0, i + 2, aup A (47 + j) (vlf b n (i + 1)), L)) (e0 : ¬ nOk (kdf b n) (vlf b n) 0 up (i + 1) = true → pLine (kdf b n) (vlf b n) f A L i = toQL (pFl (kdf b n) (nW (kdf b n) (i + 1)) (i + 1)) A L) (hp : ∀ v M1, cLs b n (pLine (kdf b n) (vlf b n) f A L i) M v M1 → v = 0 ∨ v = 1 → post v M1) : QCm X x (d + 3) 0 yX7_next [(2, 13)] M (fun _ M0 => QCm X x (d + 3) 1 yX5_readNumber [(2, 2), (0, 0), (0, up)] M0 (fun x1 M1 => ((qup M1 3 j x1) 3 j = (-1) → (post 0 (qup M1 3 j x1))) ∧ (¬ (qup M1 3 j x1) 3 j = (-1) → in32 ((qup M1 3 j x1) 3 j) ∧ (post 1 (qup M1 3 j x1))))) := by
  have tk := h.tk hn.1
  have l1 := tk.lt hi k24 k25
  refine c_next h l1 h4 (fun M0 nk h4n => ?_)
  have m0 : aO (i + 1) M M0 := aO.of nk h4n
  refine c_num (i := i + 1) (h.aO m0) l1 m0.2.2.2 hn (i32 (by omega) (by omega)) hup (fun z M1 m1 => ?_) (fun z M1 m1 => ?_)
  · have b1 := nOk_iff.1 z
    have vb := tk.2.2.2 (i + 1) b1.1
    have m2 := m0.trans m1
    rw [qup_at, if_pos rfl]
    refine ⟨fun y => absurd y (by omega), fun _ => ⟨(i32 (by omega) (by omega)), hp _ _ ?_ (Or.inr rfl)⟩⟩
    have g : ∀ a, a ≠ 13 → a ≠ 3 → (qup M1 3 j (vlf b n (i + 1))) a = M a := fun a a0 a1 => by rw [qup_row a1, m2.1 a a0]
    have g9 : ∀ a, a ≠ 3 → (qup M1 3 j (vlf b n (i + 1))) a = M1 a := fun a a1 => qup_row a1
    have g2 : (qup M1 3 j (vlf b n (i + 1))) 2 = M1 2 := by rw [qup_row (by decide)]
    have g3 : ∀ q, (qup M1 3 j (vlf b n (i + 1))) 3 q = if q = j then vlf b n (i + 1) else M 3 q := fun q => by rw [qup_at, m2.1 3 (by decide)]
    generalize qup M1 3 j (vlf b n (i + 1)) = M3 at *
    exact cLs.good (e1 z) (fun a ha => g a (by omega) (by omega)) (m2.2.2.2.cg (fun a a0 a1 => g9 a (by omega))) (by rw [g2]; exact m2.2.1) (by rw [g2]; exact m2.2.2.1.1) (by rw [g9 13 (by omega)]; exact m2.2.2.1.2.2 3 (by decide)) (r.one ok hj g3 (fun a a0 a1 => g a (by omega) (by omega)))
  · rw [qup_at, if_pos rfl]
    refine ⟨fun _ => hp _ _ ?_ (Or.inl rfl), fun y => absurd rfl y⟩
    have m2 := aB.after m0 m1
    rw [e0 z]
    refine ⟨fun a ha => by rw [qup_row (by omega), m2.1 a (by omega) (by omega)], fun y => absurd y (pFl_ne (nW_b _ _).1), fun _ => ⟨rfl, ?_, ?_⟩⟩
    · rw [qup_row (by decide)]; exact m2.2.1
    · rw [qup_row (by decide)]; exact m2.2.2
theorem c_line {f : Nat} {post : Int → Int → QMem → Prop} (h : cTok b n T M) (hi : i ≤ T) (h4 : cHd M i) (hn : 0 ≤ n ∧ n ≤ 900) (hf : 12 * T + 20 < f) (r : cRd A L M) (ok : pOk A L) (hp : ∀ v y M1, cLs b n (pLine (kdf b n) (vlf b n) f A L i) M v M1 → v = 0 ∨ v = 1 → post v y M1) : QCx X x (d + 36) 1 yX5_readLine [(2, 2)] M post := by
  have kv : pVal (kdf b n i) := tKd_val b n (tpos b n i)
  have kb := cK_b kv
  have inj : ∀ k : Int, (0 ≤ k ∧ k ≤ 13) → cK (kdf b n i) = cK k → kdf b n i = k := fun k hk z => (cK_inj kv k (by unfold pVal; omega)).1 z
  have c1 : cK 1 = 201 := rfl
  have c2 : cK 2 = 202 := rfl
  have c3 : cK 3 = 203 := rfl
  have c4 : cK 4 = 204 := rfl
  have c5 : cK 5 = 205 := rfl
  have c6 : cK 6 = 206 := rfl
  have c7 : cK 7 = 207 := rfl
  have no : (kdf b n i ≠ 1 ∧ kdf b n i ≠ 2 ∧ kdf b n i ≠ 4 ∧ kdf b n i ≠ 5 ∧ kdf b n i ≠ 6 ∧ kdf b n i ≠ 7) → QCm X x (d + 35) 1 yX5_fail [(2, 2), (0, 2)] M (fun x9 M9 => (x9 = 0 ∨ x9 = 1) ∧ (post x9 x M9)) := fun w => by
    have e : pLine (kdf b n) (vlf b n) f A L i = toQL (pFl (kdf b n) 2 i) A L := by unfold pLine; rw [if_neg w.1, if_neg w.2.1, if_neg (by omega), if_neg w.2.2.2.2.1, if_neg w.2.2.2.2.2]
    exact c_failB h hi h4 (fun M1 m1 => ⟨Or.inl rfl, hp _ _ _ (cLs.bad m1 e (pFl_ne (by decide)) rfl) (Or.inl rfl)⟩)
  refine QC.of qmX5_readLine_ok rfl (TX5_readLine_0 ?_)
  rw [c_kd h hi h4]
  refine ⟨(i32 (by omega) (by omega)), fun z => ?_, fun z => ?_, fun z => ?_, fun z => ?_, fun z => ?_, fun z => ?_, fun z => ?_, fun z => ?_⟩
  · exact c_rock (f := f) h hi h4 hn r ok (inj 1 (by decide) (z.trans c1.symm)) (fun v M1 m1 hv => ⟨hv, hp _ _ _ m1 hv⟩)
  · exact c_drum (f := f) h hi h4 hn r ok (inj 2 (by decide) (z.trans c2.symm)) (fun v M1 m1 hv => ⟨hv, hp _ _ _ m1 hv⟩)
  · have := inj 3 (by decide) (z.trans c3.symm)
    exact no ⟨(by omega), (by omega), (by omega), (by omega), (by omega), (by omega)⟩
  · exact c_takes (f := f) h hi h4 hn hf r (inj 4 (by decide) (z.trans c4.symm)) (fun v y M1 m1 hv => ⟨hv, hp _ _ _ m1 hv⟩)
  · exact c_may (f := f) h hi h4 hn hf r (inj 5 (by decide) (z.trans c5.symm)) (fun v y M1 m1 hv => ⟨hv, hp _ _ _ m1 hv⟩)
  · have k := inj 6 (by decide) (z.trans c6.symm)
    refine QC.of qmX5_readWet_ok rfl (TX5_readWet_0 (c_wetHour (f := f) (j := 5) (up := 9) (post := fun x7 M7 => (x7 = 0 ∨ x7 = 1) ∧ post x7 x M7) h hi h4 hn r ok (Or.inl rfl) (i32 (by omega) (by omega)) (by omega) (by omega) (fun w => ?_) (fun w => ?_) (fun v M1 m1 hv => ⟨hv, hp _ _ _ m1 hv⟩)))
    · unfold pLine; rw [if_neg (by omega), if_neg (by omega), if_neg (by omega), if_pos k, if_pos w]; rfl
    · unfold pLine; rw [if_neg (by omega), if_neg (by omega), if_neg (by omega), if_pos k, if_neg w]
  · have k := inj 7 (by decide) (z.trans c7.symm)
    refine QC.of qmX5_readHour_ok rfl (TX5_readHour_0 (c_wetHour (f := f) (j := 6) (up := 999) (post := fun x7 M7 => (x7 = 0 ∨ x7 = 1) ∧ post x7 x M7) h hi h4 hn r ok (Or.inr rfl) (i32 (by omega) (by omega)) (by omega) (by omega) (fun w => ?_) (fun w => ?_) (fun v M1 m1 hv => ⟨hv, hp _ _ _ m1 hv⟩)))
    · unfold pLine; rw [if_neg (by omega), if_neg (by omega), if_neg (by omega), if_neg (by omega), if_pos k, if_pos w]; rfl
    · unfold pLine; rw [if_neg (by omega), if_neg (by omega), if_neg (by omega), if_neg (by omega), if_pos k, if_neg w]
  · exact no ⟨fun y => by rw [y] at z; omega, fun y => by rw [y] at z; omega, fun y => by rw [y] at z; omega, fun y => by rw [y] at z; omega, fun y => by rw [y] at z; omega, fun y => by rw [y] at z; omega⟩
end CText
