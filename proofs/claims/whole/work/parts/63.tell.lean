section Tell63
variable {X : QX} {x : Int} {d : Nat} {post : Int → QMem → Prop} {M : QMem} {cont : Int → Int → QMem → Prop}
/-- but for the reference's state, its scratch and the field 19, all is as it was -/
def tK (M M1 : QMem) : Prop := (∀ a, a ≠ 215 → a ≠ 216 → a ≠ 220 → a ≠ 221 → a ≠ 23 → a ≠ 26 → M1 a = M a) ∧ ∀ j, j ≠ 19 → j ≠ 20 → M1 215 j = M 215 j
theorem tK.refl (M : QMem) : tK M M := ⟨fun _ _ _ _ _ _ _ => rfl, fun _ _ _ => rfl⟩
theorem tK.trans {M M1 M2 : QMem} (h : tK M M1) (g : tK M1 M2) : tK M M2 := ⟨fun a a1 a2 a3 a4 a5 a6 => (g.1 a a1 a2 a3 a4 a5 a6).trans (h.1 a a1 a2 a3 a4 a5 a6), fun j j1 j2 => (g.2 j j1 j2).trans (h.2 j j1 j2)⟩
theorem rK.tK {M M1 : QMem} (h : rK M M1) : tK M M1 := ⟨fun a a1 a2 a3 a4 a5 a6 => h a a2 a3 a4 a5 a6, fun j _ _ => by rw [h 215 (by decide) (by decide) (by decide) (by decide) (by decide)]⟩
theorem tK.up (M : QMem) {j v : Int} (h : j = 19 ∨ j = 20) : tK M (qup M 215 j v) := ⟨fun a a1 _ _ _ _ _ => qup_row a1, fun i i1 i2 => by rw [qup_at, if_neg (by omega)]⟩
theorem m_tells_loop {t N : Int} (ht : 0 ≤ t ∧ t < 4) (h4 : N ≤ 40) {w : Int → Int} (hw : ∀ i, 0 ≤ i → i < N → in64 (w i)) : ∀ (n : Nat) {M : QMem} (k : Int), rLandOk (M 216) → rStOk (M 216) → M 229 t = N → (∀ i, 0 ≤ i → i < N → M 230 (40 * t + i) = w i) → 0 ≤ k → k + n = N → (n = 0 → M 215 19 = 0) → (∀ M1, tK M M1 → M1 216 = (rTells w n (M 216) k).1 → M1 215 19 = (rTells w n (M 216) k).2.2 → post (rTells w n (M 216) k).2.1 M1) → QRm X x (d + 5) qmX11_tells post 7 [(0, (2, 215)), (1, (0, t)), (2, (0, k))] [] M := by
  intro n
  induction n with
  | zero =>
    intro M k hL hS hN hM k0 kn h19 hp
    refine TX11_tells_7 ?_
    rw [hN]
    refine ⟨(by omega), (by omega), (i32 (by omega) (by omega)), (i32 (by omega) (by omega)), fun _ => ?_, fun z => absurd (show N ≤ k by omega) z⟩
    rw [show N = k by omega]
    exact hp M (tK.refl M) rfl (h19 rfl)
  | succ n ih =>
    intro M k hL hS hN hM k0 kn h19 hp
    have wb := rWhyNot_b (M 216) (w k)
    refine TX11_tells_7 ?_
    rw [hN, hM k k0 (by omega)]
    refine ⟨(by omega), (by omega), (i32 (by omega) (by omega)), (i32 (by omega) (by omega)), fun z => absurd z (by omega), fun _ => ⟨(by omega), (by omega), m_whyNot hL hS (hw k k0 (by omega)) (fun M1 k1 => ?_)⟩⟩
    have e1 : M1 216 = M 216 := k1.all
    have e2 : (qup M1 215 19 (rWhyNot (M 216) (w k))) 216 = M 216 := (qup_row (by decide)).trans e1
    have f19 : (qup M1 215 19 (rWhyNot (M 216) (w k))) 215 19 = rWhyNot (M 216) (w k) := by rw [qup_at, if_pos rfl]
    have T1 : tK M (qup M1 215 19 (rWhyNot (M 216) (w k))) := k1.rK.tK.trans (tK.up M1 (Or.inl rfl))
    have e3 : (qup M1 215 19 (rWhyNot (M 216) (w k))) 230 (40 * t + k) = w k := by
      rw [T1.1 230 (by omega) (by omega) (by omega) (by omega) (by omega) (by omega)]; exact hM k k0 (by omega)
    rw [f19, e3]
    rw [rTells] at hp
    refine ⟨fun z => ?_, fun z => ⟨(i32 (by omega) (by omega)), ?_⟩⟩
    · rw [if_pos z] at hp
      have rng := rWhyNot_rng z
      rw [ql2i_id (a := w k) (i32 (by omega) (by omega))]
      have g := rDoes_good hL hS z
      refine m_does (by rw [e2]; exact hL) (by rw [e2]; exact hS) (by rw [e2]; exact z) (fun M2 k2 e4 => ?_)
      rw [e2] at e4
      have T2 := T1.trans k2.tK
      refine ih (k + 1) (by rw [e4]; exact g.land hL) (by rw [e4]; exact g.1) ?_ (fun i i0 i1 => ?_) (by omega) (by omega) (fun _ => ?_) (fun M3 m1 m2 m3 => ?_)
      · rw [T2.1 229 (by omega) (by omega) (by omega) (by omega) (by omega) (by omega)]; exact hN
      · rw [T2.1 230 (by omega) (by omega) (by omega) (by omega) (by omega) (by omega)]; exact hM i i0 i1
      · rw [k2 215 (by omega) (by omega) (by omega) (by omega) (by omega), f19]; exact z
      · rw [e4] at m2 m3 ⊢
        exact hp M3 (T2.trans m1) m2 m3
    · rw [if_neg z] at hp
      exact hp _ T1 e2 f19
theorem m_tells {t N : Int} (ht : 0 ≤ t ∧ t < 4) (h0 : 0 ≤ N) (h4 : N ≤ 40) {w : Int → Int} (hw : ∀ i, 0 ≤ i → i < N → in64 (w i)) (hL : rLandOk (M 216)) (hS : rStOk (M 216)) (hN : M 229 t = N) (hM : ∀ i, 0 ≤ i → i < N → M 230 (40 * t + i) = w i) (hp : ∀ M1, tK M M1 → M1 216 = (rTells w N.toNat (M 216) 0).1 → M1 215 19 = (rTells w N.toNat (M 216) 0).2.2 → post (rTells w N.toNat (M 216) 0).2.1 M1) : QCm X x (d + 5) 1 yX11_tells [(2, 215), (0, t)] M post := by
  have e2 : (qup M 215 19 0) 216 = M 216 := qup_row (by decide)
  refine QC.of qmX11_tells_ok rfl (TX11_tells_0 (m_tells_loop ht h4 hw N.toNat 0 (by rw [e2]; exact hL) (by rw [e2]; exact hS) (by rw [qup_row (by decide)]; exact hN) (fun i i0 i1 => by rw [qup_row (by decide)]; exact hM i i0 i1) (by omega) (by omega) (fun _ => by rw [qup_at, if_pos rfl]) (fun M1 m1 m2 m3 => ?_)))
  rw [e2] at m2 m3 ⊢
  exact hp M1 ((tK.up M (Or.inl rfl)).trans m1) m2 m3
theorem m_noTray {t : Int} (ht : in32 t) (h3 : ∀ t, 0 ≤ t → t < 4 → in32 (M 228 t)) (h1 : ¬ (0 ≤ t ∧ t < 4) → post (-2) M) (h2 : 0 ≤ t ∧ t < 4 → M 228 t = -1 → post (-6) M) (h0 : 0 ≤ t ∧ t < 4 → M 228 t ≠ -1 → post 0 M) : QCm X x (d + 1) 1 yX11_noTray [(2, 215), (0, t)] M post :=
  QC.of qmX11_noTray_ok rfl (TX11_noTray_0 ⟨ht, m_within ht.to64 (i64 (by omega) (by omega)) (i64 (by omega) (by omega)) (fun a => ⟨fun z => absurd z (by decide), fun _ => ⟨(i32 (by omega) (by omega)), (by omega), (by omega), fun z => h2 (by omega) z, fun z => ⟨h3 t (by omega) (by omega), h0 (by omega) z⟩⟩⟩) (fun a => ⟨fun _ => h1 (by omega), fun z => absurd rfl z⟩)⟩)
theorem pTray.b (h : pTray M) : ∀ t, 0 ≤ t → t < 4 → in32 (M 228 t) := fun t t0 t1 => by
  rcases h t t0 t1 with z | z
  · rw [z.1]; exact ⟨by decide, by decide⟩
  · have := z.1; exact (i32 (by omega) (by omega))
theorem c_isTray {t : Int} (ht : in32 t) (h1 : 0 ≤ t ∧ t < 4 → post 1 M) (h0 : ¬ (0 ≤ t ∧ t < 4) → post 0 M) : QCm X x d 1 yX10_isTray [(2, 0), (0, t)] M post :=
  QC.of qmX10_isTray_ok rfl (TX10_isTray_0 ⟨ht, fun z => h0 (by omega), fun z => ⟨fun y => h0 (by omega), fun y => h1 (by omega)⟩⟩)
theorem qS_tray (x : Int) {t : Int} (h : 0 ≤ t ∧ t < 4) : (qS x).2.2 149 t = 165 + 2 * t ∧ ((qS x).2.1 (165 + 2 * t)).1 = 8 ∧ (165 + 2 * t = 165 ∨ 165 + 2 * t = 167 ∨ 165 + 2 * t = 169 ∨ 165 + 2 * t = 171) := by
  have : t = 0 ∨ t = 1 ∨ t = 2 ∨ t = 3 := by omega
  rcases this with rfl | rfl | rfl | rfl
  · exact ⟨rfl, rfl, by decide⟩
  · exact ⟨rfl, rfl, by decide⟩
  · exact ⟨rfl, rfl, by decide⟩
  · exact ⟨rfl, rfl, by decide⟩
theorem c_isMissing {t : Int} (h : pTray M) (ht : 0 ≤ t ∧ t < 4) (h1 : M 228 t = -1 → post 1 M) (h0 : M 228 t ≠ -1 → post 0 M) : QCm X x d 1 yX8_isMissing [(2, 165 + 2 * t)] M post := by
  have q := qS_tray x ht
  refine QC.of qmX8_isMissing_ok rfl (TX8_isMissing_0 q.2.2 ⟨fun z => ?_, fun z => ?_⟩)
  · rcases h t ht.1 ht.2 with y | y
    · exact h1 y.1
    · have := y.2.2.1
      have := y.2.2.2.1
      omega
  · rcases h t ht.1 ht.2 with y | y
    · exact absurd y.2 z
    · have := y.2.2.1
      have := y.2.2.2.1
      have := y.1
      exact ⟨(i32 (by omega) (by omega)), h0 (by omega)⟩
theorem c_allYards {A : Int → Int} {b : Int} (hb : b = 27 ∨ b = 37) (h : cOk A b M) (hp : post (rSum A 54 (A 3).toNat) M) : QCm X x d 1 yX6_allYards [(2, b), (2, 17)] M post := by
  have a3 := h.1.2.2.1
  have hd : M 17 2 = A 3 := h.2.2.1.1.2.2.1
  have key : ∀ i : Int, 0 ≤ i ∧ i ≤ A 3 → QRm X x d qmX6_allYards post 4 [(0, (2, b)), (1, (2, 17)), (2, (0, rSum A 54 i.toNat)), (3, (0, i))] [] M := by
    refine int_up (A 3) (fun i hi g => ?_) (fun i hi ih g => ?_)
    · refine TX6_allYards_4 hb ?_
      rw [hd]
      refine ⟨(i32 (by omega) (by omega)), (i32 (by omega) (by omega)), fun _ => ?_, fun z => absurd hi (by omega)⟩
      rw [show i = A 3 by omega]; exact hp
    · refine TX6_allYards_4 hb ?_
      rw [hd]
      refine ⟨(i32 (by omega) (by omega)), (i32 (by omega) (by omega)), fun z => absurd hi (by omega), fun _ => ⟨fun z => absurd z (by omega), fun _ => ⟨(by omega), (by omega), ?_⟩⟩⟩
      have := ih ⟨(by omega), (by omega)⟩
      rw [show (i + 1).toNat = i.toNat + 1 by omega, rSum, show ((i.toNat : Nat) : Int) = i by omega] at this
      rw [h.2.2.2.2.1 i g.1 hi]; exact this
  exact QC.of qmX6_allYards_ok rfl (TX6_allYards_0 hb (key 0 ⟨(by omega), (by omega)⟩))
theorem pTray.w (h : pTray M) {t : Int} (ht : 0 ≤ t ∧ t < 4) (z : M 228 t ≠ -1) : (0 ≤ M 229 t ∧ M 229 t ≤ 40) ∧ M (165 + 2 * t) 2 = M 229 t ∧ ∀ i, 0 ≤ i → i < M 229 t → in64 (M 230 (40 * t + i)) ∧ M (165 + 2 * t + 1) i = M 230 (40 * t + i) := by
  rcases h t ht.1 ht.2 with y | y
  · exact absurd y.1 z
  · exact y.2.2
/-- the trial begins -/
theorem c_trial {A : Int → Int} (h : cOk A 27 M) (hp : ∀ M1, oK 37 M M1 → cOk A 37 M1 → post 0 M1) : QCm X x (d + 1) 0 yX6_copyOf [(2, 37), (2, 27)] M post :=
  c_copyOf (Or.inl ⟨rfl, rfl⟩) h.2.2.2 h.2.1.2.1.1 h.1.2.2.1.2 h.2.1.2.2.2.1.2 (fun M1 m1 m2 => hp M1 m1 ⟨h.1, h.2.1, h.2.2.1.congr (fun a ha => m1 a (by omega)), m2⟩)
theorem sK.gK {M M1 : QMem} (h : sK 37 M M1) : gK M M1 := gK.of_rows (fun a q1 q2 q3 => by
  by_cases z : a = 220
  · omega
  · by_cases y : a = 221
    · omega
    · exact h a (by omega) z y q2 q3)
theorem oK.gK {M M1 : QMem} (h : oK 37 M M1) : gK M M1 := (oK.sK h).gK
/-- the reference's state is again what it was -/
theorem m_again {A : Int → Int} {M1 : QMem} (g : rGood A (M1 216)) (hw : ∀ j, 0 ≤ j → j < 311 → M1 222 j = A (52 + j)) (hp : ∀ M2, (∀ a, a ≠ 216 → M2 a = M1 a) → M2 216 = A → post 0 M2) : QCm X x d 0 yX11_isAgain [(2, 215)] M1 post := m_isAgain (fun M2 m1 m2 m3 => hp M2 m1 (by
  funext j
  by_cases z : 52 ≤ j ∧ j < 363
  · have := m3 (j - 52) (by omega) (by omega)
    rw [hw _ (by omega) (by omega), show 52 + (j - 52) = j by omega] at this; exact this
  · rw [m2 j (by omega)]; exact g.2 j (by omega)))
end Tell63
