theorem rOut_at {A : Int → Int} {e : Int} (hT : 0 ≤ A 330 ∧ A 330 < 8) {j : Int} (h1 : j ≠ 330) (h2 : j ≠ 331 + A 330) (h3 : j ≠ 339 + A 330) (h4 : j ≠ 347 + A 330) (h5 : j ≠ 355 + A 330) : rOut A e j = A j := by
  simp only [rOut]
  rw [if_neg h1, if_neg h2, if_neg h3, if_neg h4, if_neg h5]
theorem rOut_v {A : Int → Int} {e : Int} (hT : 0 ≤ A 330 ∧ A 330 < 8) : rOut A e 330 = A 330 + 1 ∧ rOut A e (331 + A 330) = e ∧ rOut A e (339 + A 330) = -1 ∧ rOut A e (347 + A 330) = 0 ∧ rOut A e (355 + A 330) = 0 := by
  simp only [rOut]
  refine ⟨by rw [if_pos trivial], ?_, ?_, ?_, ?_⟩
  · rw [if_neg (by omega), if_pos trivial]
  · rw [if_neg (by omega), if_neg (by omega), if_pos trivial]
  · rw [if_neg (by omega), if_neg (by omega), if_neg (by omega), if_pos trivial]
  · rw [if_neg (by omega), if_neg (by omega), if_neg (by omega), if_neg (by omega), if_pos trivial]
theorem rOut_ok {A : Int → Int} {e : Int} (hL : rLandOk A) (hS : rStOk A) (he : 0 ≤ e ∧ e < A 3) (hl : 1 ≤ A (60 + e)) (hT : A 330 ≠ 8) : rStOk (rOut A e) := by
  have a3 := hL.2.2.1
  have hcl := hL.cells
  have T8 : 0 ≤ A 330 ∧ A 330 < 8 := by have := hS.2.2.2.1; omega
  have v := rOut_v (e := e) T8
  have r := fun (j : Int) (hj : j < 330 ∨ 363 ≤ j) => rOut_at (A := A) (e := e) (j := j) T8 (by omega) (by omega) (by omega) (by omega) (by omega)
  obtain ⟨hw, ⟨hr1, hr2, hr3, hr4, hr5⟩, hcel, hg1, hg2, hg3⟩ := hS
  have old : ∀ s, 0 ≤ s → s < A 330 → rOut A e (331 + s) = A (331 + s) ∧ rOut A e (339 + s) = A (339 + s) ∧ rOut A e (347 + s) = A (347 + s) := fun s s0 s1 => ⟨rOut_at T8 (by omega) (by omega) (by omega) (by omega) (by omega), rOut_at T8 (by omega) (by omega) (by omega) (by omega) (by omega), rOut_at T8 (by omega) (by omega) (by omega) (by omega) (by omega)⟩
  refine ⟨by rw [r 52 (by omega)]; exact hw, ⟨fun f f0 f1 => by rw [r (60 + f) (by omega)]; exact hr1 f f0 f1, fun f f0 f1 => ?_, fun i i0 i1 => by rw [r (66 + i) (by omega), r (162 + i) (by omega), r 1 (by omega), r 2 (by omega)]; exact hr3 i i0 i1, fun f i f0 f1 i0 i1 => ?_, fun f i j f0 f1 i0 ij j1 => ?_⟩, fun q q0 q1 => by rw [r (294 + q) (by omega), r (258 + q) (by omega), r 3 (by omega)]; exact hcel q q0 q1, by rw [v.1]; omega, fun t t0 t1 => ?_, fun t u t0 tu u1 q => ?_⟩
  · rw [r 3 (by omega)] at f1
    have hlf := hr1 f f0 (by omega)
    rw [r (54 + f) (by omega), rTook, r (60 + f) (by omega), rSum_congr (fun i hi => r _ (by omega))]; exact hr2 f f0 f1
  · rw [r (60 + f) (by omega)] at i1
    have hlf := hr1 f f0 (by omega)
    have rng := (hr3 (16 * f + i) (by omega) (by omega)).1
    rw [← Int.add_assoc] at rng
    rw [r (66 + 16 * f + i) (by omega), r (294 + A (66 + 16 * f + i)) (by omega), r (258 + A (66 + 16 * f + i)) (by omega)]; exact hr4 f i f0 f1 i0 i1
  · rw [r (60 + f) (by omega)] at j1
    have hlf := hr1 f f0 (by omega)
    rw [r (66 + 16 * f + i) (by omega), r (66 + 16 * f + j) (by omega)]; exact hr5 f i j f0 f1 i0 ij j1
  · rw [v.1] at t1
    rw [r 3 (by omega)]
    by_cases z : t = A 330
    · rw [z, v.2.1, v.2.2.1, v.2.2.2.1, r (60 + e) (by omega)]
      exact ⟨(by omega), Or.inl rfl, (by omega), fun _ => (by omega)⟩
    · have o := old t t0 (by omega)
      have g := hg2 t t0 (by omega)
      rw [o.1, o.2.1, o.2.2, r (60 + A (331 + t)) (by omega)]
      exact g
  · rw [v.1] at u1
    have same : ∀ s, 0 ≤ s → s < A 330 → (rOn (rOut A e) q s ↔ rOn A q s) := by
      intro s s0 s1
      have g := hg2 s s0 s1
      have o := old s s0 s1
      unfold rOn
      rw [o.1, o.2.1, o.2.2]
      have ni : A (347 + s) = 0 → 0 ≤ A (339 + s) → rOut A e (66 + 16 * A (331 + s) + A (339 + s)) = A (66 + 16 * A (331 + s) + A (339 + s)) := fun i0 i1 => r _ (by omega)
      exact ⟨fun h => ⟨h.1, h.2.1, (ni h.1 h.2.1).symm.trans h.2.2⟩, fun h => ⟨h.1, h.2.1, (ni h.1 h.2.1).trans h.2.2⟩⟩
    rw [same t t0 (by omega)]
    by_cases z : u = A 330
    · intro _ y
      have := y.2.1
      rw [z, v.2.2.1] at this
      omega
    · rw [same u (by omega) (by omega)]
      exact hg3 t u t0 tu (by omega) q
theorem rGoes_v (A : Int → Int) (t : Int) (h0 : A (347 + t) = 0) : rGoes A t (339 + t) = rStep A t (339 + t) ∧ (rGoes A t (347 + t) = 0 ∨ rGoes A t (347 + t) = 1) := by
  have r : rStep A t (347 + t) = 0 := by rw [rStep_at A t _ (by omega)]; exact h0
  rw [rGoes]; repeat' split
  · rw [aup_ne (by omega), aup_self]; exact ⟨rfl, Or.inr rfl⟩
  · rw [r]; exact ⟨rfl, Or.inl rfl⟩
  · rw [aup_ne (by omega), aup_ne (by omega), r]; exact ⟨rfl, Or.inl rfl⟩
theorem rGoes_ok {A : Int → Int} {t : Int} (hL : rLandOk A) (hS : rStOk A) (ht : 0 ≤ t ∧ t < A 330) (h0 : A (347 + t) = 0) : rStOk (rGoes A t) := by
  have a3 := hL.2.2.1
  have hcl := hL.cells
  have v := rGoes_v A t h0
  have T8 := hS.2.2.2.1
  have r := fun (j : Int) (hj : j < 339 ∨ 363 ≤ j) => rGoes_at A t j (by omega) (by omega) (by omega)
  obtain ⟨hw, ⟨hr1, hr2, hr3, hr4, hr5⟩, hcel, hg1, hg2, hg3⟩ := hS
  have gt := hg2 t ht.1 ht.2
  have old : ∀ s, 0 ≤ s → s < A 330 → s ≠ t → rGoes A t (339 + s) = A (339 + s) ∧ rGoes A t (347 + s) = A (347 + s) := fun s s0 s1 hs => ⟨rGoes_at A t _ (by omega) (by omega) (by omega), rGoes_at A t _ (by omega) (by omega) (by omega)⟩
  have at1 : -1 ≤ rStep A t (339 + t) ∧ rStep A t (339 + t) < A (60 + A (331 + t)) := by
    have := gt.2.2.2 h0
    rw [rStep]; split
    · rename_i z; rw [aup_self]; have := z.1; omega
    · omega
  have same : ∀ q s, 0 ≤ s → s < A 330 → s ≠ t → (rOn (rGoes A t) q s ↔ rOn A q s) := by
    intro q s s0 s1 hs
    have g := hg2 s s0 s1
    have o := old s s0 s1 hs
    unfold rOn
    rw [r (331 + s) (by omega), o.1, o.2]
    have ni : A (347 + s) = 0 → 0 ≤ A (339 + s) → rGoes A t (66 + 16 * A (331 + s) + A (339 + s)) = A (66 + 16 * A (331 + s) + A (339 + s)) := fun i0 i1 => r _ (by omega)
    exact ⟨fun h => ⟨h.1, h.2.1, (ni h.1 h.2.1).symm.trans h.2.2⟩, fun h => ⟨h.1, h.2.1, (ni h.1 h.2.1).trans h.2.2⟩⟩
  have me : ∀ q, rOn (rGoes A t) q t → ∀ s, 0 ≤ s → s < A 330 → s ≠ t → ¬ rOn A q s := by
    intro q h s s0 s1 hs y
    have hl := hr1 (A (331 + t)) (by omega) (by omega)
    obtain ⟨_, h2, h3⟩ := h
    rw [r (331 + t) (by omega), v.1] at h3
    rw [v.1] at h2
    rw [r (66 + 16 * A (331 + t) + rStep A t (339 + t)) (by omega)] at h3
    by_cases w : rWent A t
    · have e : rStep A t (339 + t) = A (339 + t) + 1 := by rw [rStep, if_pos w, aup_self]
      rw [e] at h3
      have := w.2 s s0 s1
      rw [h3] at this
      exact this y
    · have e : rStep A t (339 + t) = A (339 + t) := by rw [rStep, if_neg w]
      rw [e] at h2 h3
      have ot : rOn A q t := ⟨h0, h2, h3⟩
      rcases Int.lt_trichotomy s t with z | z | z
      · exact hg3 s t s0 z ht.2 q y ot
      · exact hs z
      · exact hg3 t s ht.1 z s1 q ot y
  refine ⟨by rw [r 52 (by omega)]; exact hw, ⟨fun f f0 f1 => by rw [r (60 + f) (by omega)]; exact hr1 f f0 f1, fun f f0 f1 => ?_, fun i i0 i1 => by rw [r (66 + i) (by omega), r (162 + i) (by omega), r 1 (by omega), r 2 (by omega)]; exact hr3 i i0 i1, fun f i f0 f1 i0 i1 => ?_, fun f i j f0 f1 i0 ij j1 => ?_⟩, fun q q0 q1 => by rw [r (294 + q) (by omega), r (258 + q) (by omega), r 3 (by omega)]; exact hcel q q0 q1, by rw [r 330 (by omega)]; exact hg1, fun s s0 s1 => ?_, fun s u s0 su u1 q => ?_⟩
  · rw [r 3 (by omega)] at f1
    have hlf := hr1 f f0 (by omega)
    rw [r (54 + f) (by omega), rTook, r (60 + f) (by omega), rSum_congr (fun i hi => r _ (by omega))]; exact hr2 f f0 f1
  · rw [r (60 + f) (by omega)] at i1
    have hlf := hr1 f f0 (by omega)
    have rng := (hr3 (16 * f + i) (by omega) (by omega)).1
    rw [← Int.add_assoc] at rng
    rw [r (66 + 16 * f + i) (by omega), r (294 + A (66 + 16 * f + i)) (by omega), r (258 + A (66 + 16 * f + i)) (by omega)]; exact hr4 f i f0 f1 i0 i1
  · rw [r (60 + f) (by omega)] at j1
    have hlf := hr1 f f0 (by omega)
    rw [r (66 + 16 * f + i) (by omega), r (66 + 16 * f + j) (by omega)]; exact hr5 f i j f0 f1 i0 ij j1
  · rw [r 330 (by omega)] at s1
    have g := hg2 s s0 s1
    have hl := hr1 (A (331 + s)) (by omega) (by omega)
    rw [r 3 (by omega), r (331 + s) (by omega), r (60 + A (331 + s)) (by omega)]
    by_cases z : s = t
    · subst z
      rw [v.1]
      exact ⟨g.1, v.2, (by omega), fun _ => at1.2⟩
    · have o := old s s0 s1 z
      rw [o.1, o.2]; exact g
  · rw [r 330 (by omega)] at u1
    intro h1 h2
    by_cases z : s = t
    · subst z
      rw [same q u (by omega) u1 (by omega)] at h2
      exact me q h1 u (by omega) u1 (by omega) h2
    · rw [same q s s0 (by omega) z] at h1
      by_cases y : u = t
      · subst y
        exact me q h2 s s0 (by omega) z h1
      · rw [same q u (by omega) u1 y] at h2
        exact hg3 s u s0 su u1 q h1 h2
theorem rHourN_ok {A : Int → Int} (hL : rLandOk A) (hS : rStOk A) : ∀ n : Nat, (n : Int) ≤ A 330 → rStOk (rHourN A n).1 ∧ ∀ j, j < 339 ∨ 363 ≤ j → (rHourN A n).1 j = A j := by
  intro n
  induction n with
  | zero => intro _; exact ⟨hS, fun _ _ => rfl⟩
  | succ n ih =>
    intro hn
    obtain ⟨i1, i2⟩ := ih (by omega)
    have hT := hS.2.2.2.1
    rw [rHourN]
    split
    · rename_i z
      refine ⟨rGoes_ok (hL.congr (fun j hj => i2 j (by omega))) i1 ⟨(by omega), by rw [i2 330 (by omega)]; omega⟩ z, fun j hj => ?_⟩
      show rGoes _ _ j = A j
      rw [rGoes_at _ _ _ (by omega) (by omega) (by omega)]; exact i2 j hj
    · exact ⟨i1, i2⟩
theorem rHour_ok {A : Int → Int} (hL : rLandOk A) (hS : rStOk A) : rStOk (rHour A).1 ∧ ∀ j, j ≠ 53 → j < 339 ∨ 363 ≤ j → (rHour A).1 j = A j := by
  have hT := hS.2.2.2.1
  obtain ⟨h1, h2⟩ := rHourN_ok hL hS (A 330).toNat (by omega)
  refine ⟨h1.congr (fun j hj => aup_ne (by omega)) (hL.congr (fun j hj => h2 j (by omega))), fun j j1 j2 => ?_⟩
  show aup _ _ _ j = A j
  rw [aup_ne j1]; exact h2 j j2
/-- nothing lies over a ribbon, nobody is on it -/
def rFree (A : Int → Int) (e : Int) : Prop := (∀ i, 0 ≤ i → i < A (60 + e) → A (294 + A (66 + 16 * e + i)) = e) ∧ ∀ t, 0 ≤ t → t < A 330 → A (331 + t) = e → A (347 + t) ≠ 0
theorem rFree.off {A : Int → Int} {e : Int} (hL : rLandOk A) (hS : rStOk A) (he : 0 ≤ e ∧ e < A 3) (hl : 1 ≤ A (60 + e)) (h : rFree A e) : rStOk (rOff A e) ∧ rFree (rOff A e) e ∧ rOff A e (60 + e) = A (60 + e) - 1 ∧ ∀ j, j < 54 ∨ 330 ≤ j → rOff A e j = A j := by
  have a3 := hL.2.2.1
  have hcl := hL.cells
  have hl2 := hS.2.1.1 e he.1 (by omega)
  have krng := (hS.2.1.2.2.1 (16 * e + A (60 + e) - 1) (by omega) (by omega)).1
  rw [show 66 + (16 * e + A (60 + e) - 1) = 66 + 16 * e + A (60 + e) - 1 by omega] at krng
  have hu := h.1 (A (60 + e) - 1) (by omega) (by omega)
  rw [show 66 + 16 * e + (A (60 + e) - 1) = 66 + 16 * e + A (60 + e) - 1 by omega] at hu
  have e6 : 0 ≤ e ∧ e < 6 := (by omega)
  have k36 : 0 ≤ A (66 + 16 * e + A (60 + e) - 1) ∧ A (66 + 16 * e + A (60 + e) - 1) < 36 := (by omega)
  have l16 : 1 ≤ A (60 + e) ∧ A (60 + e) ≤ 16 := (by omega)
  have hn : rOff A e (60 + e) = A (60 + e) - 1 := by rw [rOff_len e6 rfl rfl k36 l16 e6, if_pos rfl]
  have r := fun (j : Int) (hj : j < 54 ∨ 330 ≤ j) => rOff_rest (A := A) (e := e) e6 rfl rfl k36 l16 hj
  refine ⟨rOff_ok hL hS he hl hu (fun t t0 t1 t2 t3 => absurd t3 (h.2 t t0 t1 t2)), ⟨fun i i0 i1 => ?_, fun t t0 t1 t2 => ?_⟩, hn, r⟩
  · rw [hn] at i1
    have rng := (hS.2.1.2.2.1 (16 * e + i) (by omega) (by omega)).1
    rw [Int.add_assoc, rOff_lies e6 rfl rfl k36 l16 (by omega), if_neg (by omega), rOff_up e6 rfl rfl k36 l16 hu (by omega), if_neg, ← Int.add_assoc]
    · exact h.1 i i0 (by omega)
    · intro z
      have := hS.2.1.2.2.2.2 e i (A (60 + e) - 1) e6.1 e6.2 i0 (by omega) (by omega)
      rw [Int.add_assoc, z, show 66 + 16 * e + (A (60 + e) - 1) = 66 + 16 * e + A (60 + e) - 1 by omega] at this
      exact this rfl
  · rw [r 330 (by omega)] at t1
    rw [r (331 + t) (by omega)] at t2
    rw [r (347 + t) (by omega)]; exact h.2 t t0 t1 t2
theorem rOffs_ok {e : Int} : ∀ (n : Nat) {A : Int → Int}, rLandOk A → rStOk A → 0 ≤ e ∧ e < A 3 → A (60 + e) = n → rFree A e → rStOk (rOffs A e n) ∧ ∀ j, j < 54 ∨ 330 ≤ j → rOffs A e n j = A j := by
  intro n
  induction n with
  | zero => intro A hL hS he hn hF; exact ⟨hS, fun _ _ => rfl⟩
  | succ n ih =>
    intro A hL hS he hn hF
    obtain ⟨o1, o2, o3, o4⟩ := hF.off hL hS he (by omega)
    obtain ⟨p1, p2⟩ := ih (hL.congr (fun j hj => o4 j (by omega))) o1 (by rw [o4 3 (by omega)]; exact he) (by rw [o3]; omega) o2
    exact ⟨p1, fun j hj => (p2 j hj).trans (o4 j hj)⟩
section Ref49
variable {X : QX} {x : Int} {d : Nat} {post : Int → QMem → Prop} {M : QMem}
theorem m_takesAll_loop {e : Int} : ∀ (n : Nat) {M : QMem}, rLandOk (M 216) → rStOk (M 216) → 0 ≤ e ∧ e < M 216 3 → M 216 (60 + e) = n → rFree (M 216) e → (∀ M1 : QMem, (∀ a, a ≠ 216 → M1 a = M a) → M1 216 = rOffs (M 216) e n → post 0 M1) → QRm X x (d + 1) qmX11_takesAll post 0 [(0, (2, 215)), (1, (0, e))] [] M := by
  intro n
  induction n with
  | zero =>
    intro M hL hS he hn hF hp
    have a3 := hL.2.2.1
    exact TX11_takesAll_0 ⟨(by omega), (by omega), (i32 (by omega) (by omega)), fun _ => hp M (fun _ _ => rfl) rfl, fun z => absurd (show M 216 (60 + e) ≤ 0 by omega) z⟩
  | succ n ih =>
    intro M hL hS he hn hF hp
    have a3 := hL.2.2.1
    have hcl := hL.cells
    have hl2 := hS.2.1.1 e he.1 (by omega)
    have krng := (hS.2.1.2.2.1 (16 * e + M 216 (60 + e) - 1) (by omega) (by omega)).1
    rw [show 66 + (16 * e + M 216 (60 + e) - 1) = 66 + 16 * e + M 216 (60 + e) - 1 by omega] at krng
    have hc := hS.2.2.1 (M 216 (66 + 16 * e + M 216 (60 + e) - 1)) (by omega) (by omega)
    obtain ⟨o1, o2, o3, o4⟩ := hF.off hL hS he (by omega)
    refine TX11_takesAll_0 ⟨(by omega), (by omega), (i32 (by omega) (by omega)), fun z => absurd z (by omega), fun _ => ?_⟩
    refine m_takesOff (by omega) (by omega) (by omega) (i32 (by omega) (by omega)) (fun M1 h1 h2 => ?_)
    refine ih (by rw [h2]; exact hL.congr (fun j hj => o4 j (by omega))) (by rw [h2]; exact o1) (by rw [h2, o4 3 (by omega)]; exact he) (by rw [h2, o3]; omega) (by rw [h2]; exact o2) (fun M2 h3 h4 => hp M2 (fun a ha => (h3 a ha).trans (h1 a ha)) ?_)
    rw [h4, h2]; rfl
theorem m_takesAll (hL : rLandOk (M 216)) (hS : rStOk (M 216)) {e : Int} (he : 0 ≤ e ∧ e < M 216 3) (hF : rFree (M 216) e) (hp : ∀ M1 : QMem, (∀ a, a ≠ 216 → M1 a = M a) → M1 216 = rOffs (M 216) e (M 216 (60 + e)).toNat → post 0 M1) : QCm X x (d + 1) 0 yX11_takesAll [(2, 215), (0, e)] M post := by
  have a3 := hL.2.2.1
  have hl2 := hS.2.1.1 e he.1 (by omega)
  exact QC.of qmX11_takesAll_ok rfl (m_takesAll_loop _ hL hS he (Int.toNat_of_nonneg hl2.1).symm hF hp)
theorem m_goesHour (hL : rLandOk (M 216)) (hS : rStOk (M 216)) (hp : ∀ M1 : QMem, (∀ a, a ≠ 216 → M1 a = M a) → M1 216 = (rHour (M 216)).1 → post (rHour (M 216)).2 M1) : QCm X x (d + 3) 1 yX11_goesHour [(2, 215)] M post := by
  have hT := hS.2.2.2.1
  have key : ∀ i : Int, ∀ M1 : QMem, 0 ≤ i ∧ i ≤ M 216 330 ∧ (∀ a, a ≠ 216 → M1 a = M a) ∧ M1 216 = (rHourN (M 216) i.toNat).1 → QRm X x (d + 3) qmX11_goesHour post 4 [(0, (2, 215)), (1, (0, (rHourN (M 216) i.toNat).2)), (2, (0, i))] [] M1 := by
    refine int_up (M 216 330) (fun i hi M1 h => ?_) (fun i hi ih M1 h => ?_)
    · obtain ⟨o1, o2⟩ := rHourN_ok hL hS i.toNat (by omega)
      have e3 : M1 216 330 = M 216 330 := by rw [h.2.2.2, o2 330 (by omega)]
      refine TX11_goesHour_4 ⟨(i32 (by omega) (by omega)), by rw [e3]; exact (i32 (by omega) (by omega)), fun _ => ?_, fun z => absurd hi (by rw [e3] at z; omega)⟩
      rw [show i = M 216 330 by omega]
      refine hp _ (fun a ha => by rw [qup_row ha]; exact h.2.2.1 a ha) ?_
      rw [qup_aup, h.2.2.2, show i = M 216 330 by omega]; rfl
    · obtain ⟨o1, o2⟩ := rHourN_ok hL hS i.toNat (by omega)
      have e3 : M1 216 330 = M 216 330 := by rw [h.2.2.2, o2 330 (by omega)]
      have ei : ((i.toNat : Nat) : Int) = i := by omega
      have hL1 : rLandOk (M1 216) := by rw [h.2.2.2]; exact hL.congr (fun j hj => o2 j (by omega))
      have hS1 : rStOk (M1 216) := by rw [h.2.2.2]; exact o1
      have g := hS1.2.2.2.2.1 i h.1 (by rw [e3]; exact hi)
      have es : (i + 1).toNat = i.toNat + 1 := by omega
      have sN : rHourN (M 216) (i + 1).toNat = if M1 216 (347 + i) = 0 then (rGoes (M1 216) i, if rGoes (M1 216) i (347 + i) = 1 then (rHourN (M 216) i.toNat).2 + 1 else (rHourN (M 216) i.toNat).2) else rHourN (M 216) i.toNat := by
        rw [es, rHourN, ei, h.2.2.2]
      refine TX11_goesHour_4 ⟨(i32 (by omega) (by omega)), by rw [e3]; exact (i32 (by omega) (by omega)), fun z => absurd hi (by rw [e3] at z; omega), fun _ => ⟨(by omega), (by omega), fun z => ?_, fun z => ⟨by rcases g.2.1 with y | y <;> rw [y] <;> exact ⟨by decide, by decide⟩, ?_⟩⟩⟩
      · rw [if_pos z] at sN
        refine m_goes hL1 hS1 ⟨h.1, by rw [e3]; exact hi⟩ z (fun M2 h2 h3 => ?_)
        refine ⟨fun y => ⟨fun q => absurd q (by decide), fun _ => ⟨(i32 (by omega) (by omega)), ?_⟩⟩, fun y => ⟨fun _ => ?_, fun q => absurd rfl q⟩⟩
        · have := ih M2 ⟨(by omega), (by omega), fun a ha => (h2 a ha).trans (h.2.2.1 a ha), by rw [sN]; exact h3⟩
          rw [sN, if_pos y] at this; exact this
        · have := ih M2 ⟨(by omega), (by omega), fun a ha => (h2 a ha).trans (h.2.2.1 a ha), by rw [sN]; exact h3⟩
          rw [sN, if_neg y] at this; exact this
      · rw [if_neg z] at sN
        have := ih M1 ⟨(by omega), (by omega), h.2.2.1, by rw [sN]; exact h.2.2.2⟩
        rw [sN] at this; exact this
  exact QC.of qmX11_goesHour_ok rfl (TX11_goesHour_0 (key 0 M ⟨(by omega), (by omega), fun _ _ => rfl, rfl⟩))
end Ref49
