theorem qi2b_in (a : Int) : in32 (qi2b a) := ⟨Int32.minValue_le_toInt _, Int32.toInt_le _⟩
theorem qi2s_in (a : Int) : in32 (qi2s a) := ⟨Int32.minValue_le_toInt _, Int32.toInt_le _⟩
theorem ql2i_in (a : Int) : in32 (ql2i a) := ⟨Int32.minValue_le_toInt _, Int32.toInt_le _⟩
/-- a number cut to a sort -/
def rCut (v s : Int) : Int := if s = 0 then qi2b (ql2i v) else if s = 1 then qi2s (ql2i v) else if s = 2 then ql2i v else v
theorem rCut_in {v s : Int} (h : in64 v) : in64 (rCut v s) := by
  rw [rCut]; repeat' split
  · exact (qi2b_in _).to64
  · exact (qi2s_in _).to64
  · exact (ql2i_in _).to64
  · exact h
theorem qS_held (x : Int) {t : Int} (h : 0 ≤ t ∧ t < 4) : (qS x).2.1 (165 + 2 * t + 1) = (101, 40) := by
  have : t = 0 ∨ t = 1 ∨ t = 2 ∨ t = 3 := by omega
  rcases this with rfl | rfl | rfl | rfl <;> rfl
theorem Rel.withTray {M M1 : QMem} (hR : Rel M) (k : ∀ a, a ≠ 215 → a < 165 ∨ 172 < a → a < 228 ∨ 230 < a → M1 a = M a) (k5 : M1 215 5 = M 215 5 ∧ M1 215 13 = M 215 13 ∧ M1 215 14 = M 215 14 ∧ M1 215 24 = M 215 24) (h : pTray M1) : Rel M1 := by
  obtain ⟨h1, h2, h3, h4, h5, h6, h7⟩ := hR
  unfold Rel
  rw [k 216 (by omega) (by omega) (by omega)]
  refine ⟨⟨h1.1, h1.2.1, h1.2.2.1.congr (fun a ha => k a (by omega) (by omega) (by omega)), h1.2.2.2.congr (fun a a0 a1 => k a (by omega) (by omega) (by omega))⟩, h2.congr (fun a ha => k a (by omega) (by omega) (by omega)), ⟨?_, ?_, ?_⟩, ⟨?_, ?_⟩, h, h6.congr (fun a ha => k a (by omega) (by omega) (by omega)), ?_⟩
  · rw [k 0 (by omega) (by omega) (by omega)]; exact h3.1
  · rw [k 0 (by omega) (by omega) (by omega), k5.1]; exact h3.2.1
  · rw [k 1 (by omega) (by omega) (by omega), k 218 (by omega) (by omega) (by omega)]; exact h3.2.2
  · rw [k 2 (by omega) (by omega) (by omega), k5.2.1]; exact h4.1
  · rw [k 2 (by omega) (by omega) (by omega), k5.2.2.1]; exact h4.2
  · rw [k5.2.2.2]; exact h7
section Tray71
variable {X : QX} {x : Int} {d : Nat} {post : Int → QMem → Prop} {M : QMem} {cont : Int → Int → QMem → Prop}
theorem m_numbers_loop {t N : Int} (ht : 0 ≤ t ∧ t < 4) (hN : 0 ≤ N ∧ N ≤ 40) (hp : ∀ M1, (∀ a, a ≠ 230 → M1 a = M a) → (∀ j, 0 ≤ j → j < N → M1 230 (40 * t + j) = 0) → (∀ j, (j < 40 * t ∨ 40 * t + 40 ≤ j) → M1 230 j = M 230 j) → post 0 M1) : ∀ i : Int, ∀ M1 : QMem, 0 ≤ i ∧ i ≤ N ∧ (∀ a, a ≠ 230 → M1 a = M a) ∧ (∀ j, 0 ≤ j → j < i → M1 230 (40 * t + j) = 0) ∧ (∀ j, (j < 40 * t ∨ 40 * t + 40 ≤ j) → M1 230 j = M 230 j) → QRm X x (d + 1) qmX11_numbers post 64 [(0, (2, 215)), (1, (0, t)), (3, (0, N)), (4, (0, i))] [] M1 := by
  refine int_up N (fun i hi M1 h => ?_) (fun i hi ih M1 h => ?_)
  · exact TX11_numbers_64 ⟨(i32 (by omega) (by omega)), (i32 (by omega) (by omega)), fun _ => hp M1 h.2.2.1 (fun j j0 j1 => h.2.2.2.1 j j0 (by omega)) h.2.2.2.2, fun z => absurd hi (by omega)⟩
  · refine TX11_numbers_64 ⟨(i32 (by omega) (by omega)), (i32 (by omega) (by omega)), fun z => absurd hi (by omega), fun _ => ⟨(by omega), (by omega), ih _ ⟨(by omega), (by omega), fun a ha => by rw [qup_row ha]; exact h.2.2.1 a ha, fun j j0 j1 => ?_, fun j hj => ?_⟩⟩⟩
    · rw [qup_at]; split
      · rfl
      · exact h.2.2.2.1 j j0 (by omega)
    · rw [qup_at, if_neg (by omega)]; exact h.2.2.2.2 j hj
theorem rel_numbers (hR : Rel M) {t s n : Int} (ht : in32 t) (hs : in32 s) (hn : in32 n) (hp : ∀ v M3, Rel M3 → cont v v M3) : QCm X x (d + 8) 1 yX10_numbers [(2, 0), (0, t), (0, s), (0, n)] M (fun x1 M1 => QCm X x (d + 8) 1 yX11_numbers [(2, 215), (0, t), (0, s), (0, n)] M1 (fun x2 M2 => cont x1 x2 M2)) := by
  have R0 := hR.keep (gT M)
  have hTr := hR.2.2.2.2.1
  have noA : ¬ ((0 ≤ t ∧ t < 4) ∧ 0 ≤ s ∧ s < 4) → QCm X x (d + 8) 1 yX11_numbers [(2, 215), (0, t), (0, s), (0, n)] M (fun x2 M2 => cont (-2) x2 M2) := fun z =>
    QC.of qmX11_numbers_ok rfl (TX11_numbers_0 ⟨ht, m_within ht.to64 (i64 (by omega) (by omega)) (i64 (by omega) (by omega)) (fun y => ⟨fun q => absurd q (by decide), fun _ => ⟨(i32 (by omega) (by omega)), hs, m_within hs.to64 (i64 (by omega) (by omega)) (i64 (by omega) (by omega)) (fun y2 => absurd (by omega) z) (fun _ => ⟨fun _ => hp _ _ R0, fun q => absurd rfl q⟩)⟩⟩) (fun _ => ⟨fun _ => hp _ _ R0, fun q => absurd rfl q⟩)⟩)
  have noB : ((0 ≤ t ∧ t < 4) ∧ 0 ≤ s ∧ s < 4) → ¬ (0 ≤ n ∧ n ≤ 40) → QCm X x (d + 8) 1 yX11_numbers [(2, 215), (0, t), (0, s), (0, n)] M (fun x2 M2 => cont (-3) x2 M2) := fun z w =>
    QC.of qmX11_numbers_ok rfl (TX11_numbers_0 ⟨ht, m_within ht.to64 (i64 (by omega) (by omega)) (i64 (by omega) (by omega)) (fun y => ⟨fun q => absurd q (by decide), fun _ => ⟨(i32 (by omega) (by omega)), hs, m_within hs.to64 (i64 (by omega) (by omega)) (i64 (by omega) (by omega)) (fun y2 => ⟨fun q => absurd q (by decide), fun _ => ⟨(i32 (by omega) (by omega)), hn, m_within hn.to64 (i64 (by omega) (by omega)) (i64 (by omega) (by omega)) (fun y3 => absurd y3 w) (fun _ => ⟨fun _ => hp _ _ R0, fun q => absurd rfl q⟩)⟩⟩) (fun q => absurd (by omega) q)⟩⟩) (fun q => absurd (by omega) q)⟩)
  refine QC.of qmX10_numbers_ok rfl (TX10_numbers_0 (c_isTray ht (fun a => ⟨fun z => absurd z (by decide), fun _ => ⟨(i32 (by omega) (by omega)), hs, fun z => noA (by omega), fun z => ⟨fun y => ⟨hn, fun w => noB (by omega) (by omega), fun w => ⟨fun w2 => ?_, fun w2 => noB (by omega) (by omega)⟩⟩, fun y => noA (by omega)⟩⟩⟩) (fun a => ⟨fun _ => noA (fun z => a z.1), fun z => absurd rfl z⟩)))
  have q := qS_tray x a
  rw [q.1]
  refine ⟨(by omega), (by omega), q.2.1, QC.of qmX8_begin_ok rfl (TX8_begin_0 q.2.2 (j_lfill (qS_held x a) (by decide) (by decide) (fun M1 f1 f2 => ?_)))⟩
  generalize hM2 : qup (qup M1 (165 + 2 * t) 1 s) (165 + 2 * t) 2 n = M2
  have c1 : M2 (165 + 2 * t) 1 = s := by rw [← hM2, qup_at, if_neg (by decide), qup_at, if_pos rfl]
  have c2 : M2 (165 + 2 * t) 2 = n := by rw [← hM2, qup_at, if_pos rfl]
  have c3 : ∀ j, 0 ≤ j → j < 40 → M2 (165 + 2 * t + 1) j = 0 := fun j j0 j1 => by rw [← hM2, qup_row (by omega), qup_row (by omega)]; exact f2 j j0 j1
  have c4 : ∀ a, a ≠ 165 + 2 * t → a ≠ 165 + 2 * t + 1 → M2 a = M a := fun a a1 a2 => by rw [← hM2, qup_row a1, qup_row a1]; exact f1 a a2
  refine QC.of qmX11_numbers_ok rfl (TX11_numbers_0 ⟨ht, m_within ht.to64 (i64 (by omega) (by omega)) (i64 (by omega) (by omega)) (fun _ => ⟨fun q => absurd q (by decide), fun _ => ⟨(i32 (by omega) (by omega)), hs, m_within hs.to64 (i64 (by omega) (by omega)) (i64 (by omega) (by omega)) (fun _ => ⟨fun q => absurd q (by decide), fun _ => ⟨(i32 (by omega) (by omega)), hn, m_within hn.to64 (i64 (by omega) (by omega)) (i64 (by omega) (by omega)) (fun _ => ⟨fun q => absurd q (by decide), fun _ => ⟨(i32 (by omega) (by omega)), (by omega), (by omega), ?_⟩⟩) (fun q => absurd (by omega) q)⟩⟩) (fun q => absurd (by omega) q)⟩⟩) (fun q => absurd (by omega) q)⟩)
  refine m_numbers_loop (M := qup (qup (qup M2 215 0 0) 228 t s) 229 t n) a (by omega) (fun M3 g1 g2 g3 => hp _ _ ?_) 0 _ ⟨(by omega), (by omega), fun _ _ => rfl, fun j j0 j1 => (by omega), fun _ _ => rfl⟩
  have r : ∀ a, a ≠ 215 → a ≠ 228 → a ≠ 229 → a ≠ 230 → M3 a = M2 a := fun a a1 a2 a3 a4 => by rw [g1 a a4, qup_row a3, qup_row a2, qup_row a1]
  have r5 : ∀ j, j ≠ 0 → M3 215 j = M 215 j := fun j hj => by rw [g1 215 (by omega), qup_row (by decide), qup_row (by decide), qup_at, if_neg hj, c4 215 (by omega) (by omega)]
  have r28 : ∀ u, M3 228 u = if u = t then s else M 228 u := fun u => by rw [g1 228 (by omega), qup_row (by decide), qup_at, qup_row (by decide), c4 228 (by omega) (by omega)]
  have r29 : ∀ u, M3 229 u = if u = t then n else M 229 u := fun u => by rw [g1 229 (by omega), qup_at, qup_row (by decide), qup_row (by decide), c4 229 (by omega) (by omega)]
  have r30 : ∀ j, (j < 40 * t ∨ 40 * t + 40 ≤ j) → M3 230 j = M 230 j := fun j hj => by rw [g3 j hj, qup_row (by decide), qup_row (by decide), qup_row (by decide), c4 230 (by omega) (by omega)]
  refine hR.withTray (fun a a1 a2 a3 => by rw [r a a1 (by omega) (by omega) (by omega)]; exact c4 a (by omega) (by omega)) ⟨r5 5 (by omega), r5 13 (by omega), r5 14 (by omega), r5 24 (by omega)⟩ (fun u u0 u1 => ?_)
  rw [r28, r29, r (165 + 2 * u) (by omega) (by omega) (by omega) (by omega), r (165 + 2 * u + 1) (by omega) (by omega) (by omega) (by omega)]
  by_cases e : u = t
  · subst e
    rw [if_pos rfl, if_pos rfl, c1, c2]
    refine Or.inr ⟨(by omega), rfl, (by omega), rfl, fun i i0 i1 => ?_⟩
    rw [g2 i i0 i1, c3 i i0 (by omega)]; exact ⟨⟨by decide, by decide⟩, rfl⟩
  · rw [if_neg e, if_neg e, c4 _ (by omega) (by omega), c4 _ (by omega) (by omega)]
    rcases hTr u u0 u1 with z | z
    · exact Or.inl z
    · refine Or.inr ⟨z.1, z.2.1, z.2.2.1, z.2.2.2.1, fun i i0 i1 => ?_⟩
      have := z.2.2.1
      rw [r30 _ (by omega)]; exact z.2.2.2.2 i i0 i1
theorem m_cut {v s : Int} (hs : in32 s) (hp : post (rCut v s) M) : QCm X x d 2 yX11_cut [(1, v), (0, s)] M post := by
  unfold rCut at hp
  refine QC.of qmX11_cut_ok rfl (TX11_cut_0 ⟨fun z => ⟨qi2b_in _, ?_⟩, fun z => ⟨hs, fun y => ⟨qi2s_in _, ?_⟩, fun y => ⟨fun w => ⟨ql2i_in _, ?_⟩, fun w => ?_⟩⟩⟩)
  · rw [if_pos z] at hp; exact hp
  · rw [if_neg z, if_pos y] at hp; exact hp
  · rw [if_neg z, if_neg y, if_pos w] at hp; exact hp
  · rw [if_neg z, if_neg y, if_neg w] at hp; exact hp
theorem c_put {b i v s n : Int} (hb : b = 165 ∨ b = 167 ∨ b = 169 ∨ b = 171) (hs : M b 1 = s) (hn : M b 2 = n) (h3 : 0 ≤ s ∧ s ≤ 3) (h4 : n ≤ 40) (hi : 0 ≤ i ∧ i < n) (hp : post (rCut v s) (qup M (b + 1) i (rCut v s))) : QCm X x d 2 yX8_put [(2, b), (0, i), (1, v)] M post := by
  refine QC.of qmX8_put_ok rfl (TX8_put_0 hb ?_)
  unfold rCut at hp
  rw [hs, hn]
  simp only [qup_at, if_true]
  refine ⟨(i32 (by omega) (by omega)), fun z => absurd z (by omega), fun _ => ⟨(i32 (by omega) (by omega)), fun z => absurd z (by omega), fun _ => ⟨fun _ => ⟨fun z => ⟨qi2b_in _, (by omega), (by omega), ?_⟩, fun z => ⟨(i32 (by omega) (by omega)), fun y => ⟨qi2s_in _, (by omega), (by omega), ?_⟩, fun y => ⟨fun w => ⟨ql2i_in _, (by omega), (by omega), ?_⟩, fun w => ⟨(by omega), (by omega), ?_⟩⟩⟩⟩, fun z => absurd (show i < 40 by omega) z⟩⟩⟩
  · rw [if_pos z] at hp; exact hp
  · rw [if_neg z, if_pos y] at hp; exact hp
  · rw [if_neg z, if_neg y, if_pos w] at hp; exact hp
  · rw [if_neg z, if_neg y, if_neg w] at hp; exact hp
/-- a number is put into a tray on both sides -/
theorem Rel.put {t i v : Int} {M M1 : QMem} (hR : Rel M) (ht : 0 ≤ t ∧ t < 4) (m : M 228 t ≠ -1) (hi : 0 ≤ i ∧ i < M 229 t) (hv : in64 v) (r : ∀ a, a ≠ 215 → a ≠ 165 + 2 * t + 1 → a ≠ 230 → M1 a = M a) (r5 : M1 215 5 = M 215 5 ∧ M1 215 13 = M 215 13 ∧ M1 215 14 = M 215 14 ∧ M1 215 24 = M 215 24) (r1 : M1 (165 + 2 * t + 1) = aup (M (165 + 2 * t + 1)) i v) (r2 : M1 230 = aup (M 230) (40 * t + i) v) : Rel M1 := by
  refine hR.withTray (fun a a1 a2 a3 => r a a1 (by omega) (by omega)) r5 (fun u u0 u1 => ?_)
  rw [r 228 (by omega) (by omega) (by omega), r 229 (by omega) (by omega) (by omega), r (165 + 2 * u) (by omega) (by omega) (by omega), r2]
  by_cases e : u = t
  · subst e
    rcases hR.2.2.2.2.1 u u0 u1 with z | z
    · exact absurd z.1 m
    · refine Or.inr ⟨z.1, z.2.1, z.2.2.1, z.2.2.2.1, fun j j0 j1 => ?_⟩
      rw [r1]
      by_cases y : j = i
      · rw [y, aup_self, aup_self]; exact ⟨hv, rfl⟩
      · rw [aup_ne y, aup_ne (by omega)]; exact z.2.2.2.2 j j0 j1
  · rw [r (165 + 2 * u + 1) (by omega) (by omega) (by omega)]
    rcases hR.2.2.2.2.1 u u0 u1 with z | z
    · exact Or.inl z
    · have hT := hR.2.2.2.2.1.w ht m
      have := z.2.2.1
      refine Or.inr ⟨z.1, z.2.1, z.2.2.1, z.2.2.2.1, fun j j0 j1 => ?_⟩
      rw [aup_ne (by omega)]; exact z.2.2.2.2 j j0 j1
theorem rel_write (hR : Rel M) {t i v : Int} (ht : in32 t) (hi : in32 i) (hv : in64 v) (hp : ∀ v M3, Rel M3 → cont v v M3) : QCm X x (d + 8) 2 yX10_write [(2, 0), (0, t), (0, i), (1, v)] M (fun x1 M1 => QCm X x (d + 8) 2 yX11_write [(2, 215), (0, t), (0, i), (1, v)] M1 (fun x2 M2 => cont x1 x2 M2)) := by
  have R0 := hR.keep (gT M)
  have hTr := hR.2.2.2.2.1
  have r0 : ∀ a, a ≠ 215 → (qup M 215 0 0) a = M a := fun a ha => qup_row ha
  refine QC.of qmX10_write_ok rfl (TX10_write_0 (c_isTray ht (fun a => ⟨fun z => absurd z (by decide), fun _ => ⟨(i32 (by omega) (by omega)), ?_⟩⟩) (fun a => ⟨fun _ => ?_, fun z => absurd rfl z⟩)))
  rotate_left
  · exact QC.of qmX11_write_ok rfl (TX11_write_0 (m_noTray ht R0.2.2.2.2.1.b (fun _ => ⟨fun q => absurd q (by decide), fun _ => ⟨(i32 (by omega) (by omega)), hp _ _ R0⟩⟩) (fun q => absurd q a) (fun q => absurd q a)))
  have q := qS_tray x a
  rw [q.1]
  refine ⟨(by omega), (by omega), q.2.1, c_isMissing hTr a (fun m => ⟨fun z => absurd z (by decide), fun _ => ⟨(i32 (by omega) (by omega)), ?_⟩⟩) (fun m => ⟨fun _ => ?_, fun z => absurd rfl z⟩)⟩
  · exact QC.of qmX11_write_ok rfl (TX11_write_0 (m_noTray ht R0.2.2.2.2.1.b (fun q => absurd a q) (fun _ _ => ⟨fun q => absurd q (by decide), fun _ => ⟨(i32 (by omega) (by omega)), hp _ _ R0⟩⟩) (fun _ q => absurd (by rw [r0 228 (by decide)]; exact m) q)))
  obtain ⟨n4, nS, nW⟩ := hTr.w a m
  have so : (0 ≤ M 228 t ∧ M 228 t ≤ 3) ∧ M (165 + 2 * t) 1 = M 228 t := by
    rcases hTr t a.1 a.2 with z | z
    · exact absurd z.1 m
    · exact ⟨z.1, z.2.1⟩
  have no : ¬ (0 ≤ i ∧ i < M 229 t) → QCm X x (d + 8) 2 yX11_write [(2, 215), (0, t), (0, i), (1, v)] M (fun x2 M2 => cont (-7) x2 M2) := fun z => by
    refine QC.of qmX11_write_ok rfl (TX11_write_0 (m_noTray ht R0.2.2.2.2.1.b (fun q => absurd a q) (fun _ q => absurd (by rw [← r0 228 (by decide)]; exact q) m) (fun _ _ => ⟨fun _ => ?_, fun q => absurd rfl q⟩)))
    rw [r0 229 (by decide)]
    exact ⟨hi, (by omega), (by omega), (i32 (by omega) (by omega)), m_within hi.to64 (i64 (by omega) (by omega)) (i64 (by omega) (by omega)) (fun q => absurd (by omega) z) (fun _ => ⟨fun _ => hp _ _ R0, fun q => absurd rfl q⟩)⟩
  rw [nS]
  refine ⟨hi, fun z => no (by omega), fun z => ⟨(i32 (by omega) (by omega)), fun y => ?_, fun y => no (by omega)⟩⟩
  refine c_put q.2.2 so.2 nS so.1 n4.2 (by omega) ?_
  generalize hM2 : qup M (165 + 2 * t + 1) i (rCut v (M 228 t)) = M2
  have c4 : ∀ a, a ≠ 165 + 2 * t + 1 → M2 a = M a := fun a a1 => by rw [← hM2, qup_row a1]
  have e0 : ∀ a, a ≠ 215 → (qup M2 215 0 0) a = M2 a := fun a ha => qup_row ha
  refine QC.of qmX11_write_ok rfl (TX11_write_0 (m_noTray ht (fun u u0 u1 => by rw [e0 228 (by omega), c4 228 (by omega)]; exact hTr.b u u0 u1) (fun q => absurd a q) (fun _ q => absurd (by rw [e0 228 (by omega), c4 228 (by omega)] at q; exact q) m) (fun _ _ => ⟨fun _ => ?_, fun q => absurd rfl q⟩)))
  rw [e0 229 (by omega), c4 229 (by omega)]
  refine ⟨hi, (by omega), (by omega), (i32 (by omega) (by omega)), m_within hi.to64 (i64 (by omega) (by omega)) (i64 (by omega) (by omega)) (fun _ => ⟨fun q => absurd q (by decide), fun _ => ⟨(i32 (by omega) (by omega)), ?_⟩⟩) (fun q => absurd (by omega) q)⟩
  rw [e0 228 (by omega), c4 228 (by omega)]
  refine m_cut (i32 (by omega) (by omega)) ?_
  simp only [qup_at, if_true]
  refine ⟨(by omega), (by omega), hp _ _ (hR.put (t := t) (i := i) a m (by omega) (rCut_in (s := M 228 t) hv) (fun b b1 b2 b3 => ?_) ⟨?_, ?_, ?_, ?_⟩ ?_ ?_)⟩
  · rw [qup_row b3, e0 b b1]; exact c4 b b2
  · rw [qup_row (by decide), qup_at, if_neg (by decide), c4 215 (by omega)]
  · rw [qup_row (by decide), qup_at, if_neg (by decide), c4 215 (by omega)]
  · rw [qup_row (by decide), qup_at, if_neg (by decide), c4 215 (by omega)]
  · rw [qup_row (by decide), qup_at, if_neg (by decide), c4 215 (by omega)]
  · rw [qup_row (by omega), e0 _ (by omega), ← hM2]; exact qup_aup _ _ _ _
  · rw [qup_aup, e0 230 (by omega), c4 230 (by omega)]
end Tray71
