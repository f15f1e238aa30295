theorem rTells_v (w : Int → Int) : ∀ (n : Nat) (A : Int → Int) (k : Int), k ≤ (rTells w n A k).2.1 ∧ (rTells w n A k).2.1 ≤ k + n ∧ (0 ≤ (rTells w n A k).2.2 ∧ (rTells w n A k).2.2 ≤ 4) ∧ ((rTells w n A k).2.2 = 0 ↔ (rTells w n A k).2.1 = k + n) ∧ ((rTells w n A k).2.2 ≠ 0 → rWhyNot (rTells w n A k).1 (w (rTells w n A k).2.1) = (rTells w n A k).2.2) ∧ ((rTells w n A k).2.1 = k → (rTells w n A k).1 = A) := by
  intro n
  induction n with
  | zero => intro A k; exact ⟨Int.le_refl _, by show k ≤ k + 0; omega, ⟨Int.le_refl _, by show (0 : Int) ≤ 4; decide⟩, ⟨fun _ => by show k = k + 0; omega, fun _ => rfl⟩, fun z => absurd rfl z, fun _ => rfl⟩
  | succ n ih =>
    intro A k
    have wb := rWhyNot_b A (w k)
    by_cases z : rWhyNot A (w k) = 0
    · have e : rTells w (n + 1) A k = rTells w n (rDoes A (w k)) (k + 1) := by rw [rTells, if_pos z]
      obtain ⟨i1, i2, i3, i4, i5, i6⟩ := ih (rDoes A (w k)) (k + 1)
      rw [e]
      refine ⟨(by omega), (by omega), i3, ⟨fun y => by have := i4.1 y; omega, fun y => i4.2 (by omega)⟩, i5, fun y => absurd y (by omega)⟩
    · have e : rTells w (n + 1) A k = (A, k, rWhyNot A (w k)) := by rw [rTells, if_neg z]
      rw [e]
      exact ⟨Int.le_refl _, by show k ≤ k + _; omega, wb, ⟨fun y => absurd y z, fun y => absurd (show k = k + ((n + 1 : Nat) : Int) from y) (by omega)⟩, fun _ => rfl, fun _ => rfl⟩
theorem rSeason_v (D : Int) : ∀ (n : Nat) (A : Int → Int) (x c : Int), c ≤ (rSeason D n A x c).2 ∧ (rSeason D n A x c).2 ≤ c + n ∧ ((rSeason D n A x c).2 = c → (rSeason D n A x c).1 = A) := by
  intro n
  induction n with
  | zero => intro A x c; exact ⟨Int.le_refl _, by show c ≤ c + 0; omega, fun _ => rfl⟩
  | succ n ih =>
    intro A x c
    by_cases z : rWhyNot A (rDrawn D x).1 = 0
    · have e : rSeason D (n + 1) A x c = rSeason D n (rDoes A (rDrawn D x).1) (rDrawn D x).2 (c + 1) := by rw [rSeason, if_pos z]
      obtain ⟨i1, i2, i3⟩ := ih (rDoes A (rDrawn D x).1) (rDrawn D x).2 (c + 1)
      rw [e]; exact ⟨(by omega), (by omega), fun y => absurd y (by omega)⟩
    · have e : rSeason D (n + 1) A x c = rSeason D n A (rDrawn D x).2 c := by rw [rSeason, if_neg z]
      obtain ⟨i1, i2, i3⟩ := ih A (rDrawn D x).2 c
      rw [e]; exact ⟨(by omega), (by omega), i3⟩
section Tell62
variable {X : QX} {x : Int} {d : Nat} {post : Int → QMem → Prop} {M : QMem} {A : Int → Int}
theorem cSt.wetT {n : Int} (c : cSt A 37 M) (h3 : A 3 ≤ 6) (hl : ∀ e, 0 ≤ e → e < 6 → 0 ≤ A (60 + e) ∧ A (60 + e) ≤ 16) (hT : A 330 ≤ 8) : cSt (aup A 52 n) 37 (qup M 37 10 n) := by
  have r := fun (j : Int) (hj : j ≠ 52) => aup_ne (A := A) (i := 52) (v := n) hj
  refine ⟨fun f f0 f1 => ?_, fun f f0 f1 => ?_, fun f i f0 f1 i0 i1 => ?_, fun q q0 q1 => ?_, fun t t0 t1 => ?_, ?_, ?_, ?_⟩
  · rw [qup_row (by decide), r _ (by omega)]; exact c.1 f f0 f1
  · rw [r 3 (by omega)] at f1
    rw [qup_row (by decide), r _ (by omega)]; exact c.2.1 f f0 f1
  · rw [r _ (by omega)] at i1
    rw [qup_row (by decide), qup_row (by decide), r _ (by omega), r _ (by omega)]; exact c.2.2.1 f i f0 f1 i0 i1
  · rw [qup_row (by decide), qup_row (by decide), r _ (by omega), r _ (by omega)]; exact c.2.2.2.1 q q0 q1
  · rw [r 330 (by omega)] at t1
    rw [qup_row (by decide), qup_row (by decide), qup_row (by decide), r _ (by omega), r _ (by omega), r _ (by omega), r _ (by omega)]; exact c.2.2.2.2.1 t t0 t1
  · rw [qup_at, if_neg (by decide), r _ (by omega)]; exact c.2.2.2.2.2.1
  · rw [qup_at, if_pos rfl, aup_self]
  · rw [qup_at, if_neg (by decide), r _ (by omega)]; exact c.2.2.2.2.2.2.2
theorem c_follow (h : cOk A 37 M) {v : Int} (hv : in64 v) (h0 : rWhyNot A v = 0 → ∀ M1, sK 37 M M1 → cSt (rDoes A v) 37 M1 → post 0 M1) (h1 : rWhyNot A v ≠ 0 → ∀ M1, lK M M1 → post (rWhyNot A v) M1) : QCm X x (d + 6) 1 yX6_follow [(2, 37), (2, 17), (1, v)] M post := by
  have a3 := h.1.2.2.1
  unfold rWhyNot at h0 h1
  unfold rDoes at h0
  refine QC.of qmX6_follow_ok rfl (TX6_follow_0 ⟨fun z => ?_, fun z => ⟨hv, fun z1 => ?_, fun z1 => ⟨fun z2 => ?_, fun z2 => ?_⟩⟩⟩)
  · simp only [if_pos z] at h0
    exact c_passHour (Or.inr rfl) h.1 h.2.1 h.2.2.2 (fun M1 m1 m2 => h0 trivial M1 (oK.sK m1) m2)
  · have e : (if v = -1 then (0 : Int) else if 0 ≤ v ∧ v ≤ 5999 then (if (v.tdiv 100).tmod 10 = 0 ∧ (v.tdiv 10).tmod 10 ≤ 1 then rWhyLay A (v.tdiv 1000) (v.tmod 10) else 1) else if 6000 ≤ v ∧ v ≤ 6999 then rWhyBack A (v - 6000) else if 7000 ≤ v ∧ v ≤ 7999 then rWhyIn A (v - 7000) else if 8000 ≤ v ∧ v ≤ 8999 then rWhyOut A (v - 8000) else if 9000 ≤ v ∧ v ≤ 9009 then 0 else 1) = 1 := by
      rw [if_neg z, if_neg (by omega), if_neg (by omega), if_neg (by omega), if_neg (by omega), if_neg (by omega)]
    rw [e] at h1
    exact h1 (by decide) M (lK.refl M)
  · rw [ql2i_id (a := v) (i32 (by omega) (by omega))]
    have d1 : v.tdiv 10 = v / 10 := Int.tdiv_eq_ediv_of_nonneg (by omega)
    have d2 : v.tdiv 100 = v / 100 := Int.tdiv_eq_ediv_of_nonneg (by omega)
    have d3 : v.tdiv 1000 = v / 1000 := Int.tdiv_eq_ediv_of_nonneg (by omega)
    have d4 : v.tmod 10 = v % 10 := Int.tmod_eq_emod_of_nonneg (by omega)
    have d5 : (v / 10).tmod 100 = v / 10 % 100 := Int.tmod_eq_emod_of_nonneg (by omega)
    have d6 : (v / 10).tmod 10 = v / 10 % 10 := Int.tmod_eq_emod_of_nonneg (by omega)
    have d7 : (v / 100).tmod 10 = v / 100 % 10 := Int.tmod_eq_emod_of_nonneg (by omega)
    simp only [if_neg z, d1, d2, d3, d4, d5, d6, d7] at h0 h1 ⊢
    refine ⟨(i32 (by omega) (by omega)), fun q1 => ⟨fun q2 => ⟨fun q3 => ⟨fun q4 => ?_, fun q4 => ?_⟩, fun q3 => ?_⟩, fun q2 => ?_⟩, fun q1 => ?_⟩
    · simp only [if_pos (show 0 ≤ v ∧ v ≤ 5999 by omega), if_pos (show v < 6000 by omega)] at h0 h1
      have lay : ∀ o : Int, (v / 10 % 100 = 1 ∧ o = 1 ∨ v / 10 % 100 = 0 ∧ o = 0) → QCm X x (d + 5) 1 yX6_tryLaying [(2, 37), (2, 17), (0, v / 1000), (0, v % 10), (0, o)] M post := by
        intro o ho
        simp only [if_pos (show v / 100 % 10 = 0 ∧ v / 10 % 10 ≤ 1 by omega)] at h0 h1
        refine c_tryLaying (Or.inr rfl) h (i32 (by omega) (by omega)) (i32 (by omega) (by omega)) (i32 (by omega) (by omega)) (fun y M1 m1 m2 => h0 y M1 m1 ?_) h1
        have e : (if v / 10 % 10 = 1 then (1 : Int) else 0) = o := by split <;> omega
        rw [e]; exact m2
      refine ⟨(i32 (by omega) (by omega)), (i32 (by omega) (by omega)), fun q5 => ⟨fun q6 => lay 1 (by omega), fun q6 => lay 0 (by omega)⟩, fun q5 => ?_⟩
      simp only [if_neg (show ¬ (v / 100 % 10 = 0 ∧ v / 10 % 10 ≤ 1) by omega)] at h1
      exact h1 (by decide) M (lK.refl M)
    · simp only [if_neg (show ¬ (0 ≤ v ∧ v ≤ 5999) by omega), if_neg (show ¬ v < 6000 by omega), if_pos (show 6000 ≤ v ∧ v ≤ 6999 by omega), if_pos (show v < 7000 by omega)] at h0 h1
      exact c_tryBack (Or.inr rfl) h (i32 (by omega) (by omega)) (fun y M1 m1 m2 => h0 y M1 (oK.sK m1) m2) (fun y => h1 y M (lK.refl M))
    · simp only [if_neg (show ¬ (0 ≤ v ∧ v ≤ 5999) by omega), if_neg (show ¬ v < 6000 by omega), if_neg (show ¬ (6000 ≤ v ∧ v ≤ 6999) by omega), if_neg (show ¬ v < 7000 by omega), if_pos (show 7000 ≤ v ∧ v ≤ 7999 by omega), if_pos (show v < 8000 by omega)] at h0 h1
      exact c_tryIn (Or.inr rfl) h (i32 (by omega) (by omega)) (fun y M1 m1 m2 => h0 y M1 (oK.sK m1) m2) (fun y => h1 y M (lK.refl M))
    · simp only [if_neg (show ¬ (0 ≤ v ∧ v ≤ 5999) by omega), if_neg (show ¬ v < 6000 by omega), if_neg (show ¬ (6000 ≤ v ∧ v ≤ 6999) by omega), if_neg (show ¬ v < 7000 by omega), if_neg (show ¬ (7000 ≤ v ∧ v ≤ 7999) by omega), if_neg (show ¬ v < 8000 by omega), if_pos (show 8000 ≤ v ∧ v ≤ 8999 by omega), if_pos (show v < 9000 by omega)] at h0 h1
      exact c_tryOut (Or.inr rfl) h (i32 (by omega) (by omega)) (fun y M1 m1 m2 => h0 y M1 (oK.sK m1) m2) (fun y => h1 y M (lK.refl M))
    · simp only [if_neg (show ¬ (0 ≤ v ∧ v ≤ 5999) by omega), if_neg (show ¬ v < 6000 by omega), if_neg (show ¬ (6000 ≤ v ∧ v ≤ 6999) by omega), if_neg (show ¬ v < 7000 by omega), if_neg (show ¬ (7000 ≤ v ∧ v ≤ 7999) by omega), if_neg (show ¬ v < 8000 by omega), if_neg (show ¬ (8000 ≤ v ∧ v ≤ 8999) by omega), if_neg (show ¬ v < 9000 by omega), if_pos (show 9000 ≤ v ∧ v ≤ 9009 by omega)] at h0
      exact h0 trivial _ (fun a q _ _ _ _ => qup_row (by omega)) (h.2.2.2.wetT a3.2 h.2.1.2.1.1 h.2.1.2.2.2.1.2)
  · have e : (if v = -1 then (0 : Int) else if 0 ≤ v ∧ v ≤ 5999 then (if (v.tdiv 100).tmod 10 = 0 ∧ (v.tdiv 10).tmod 10 ≤ 1 then rWhyLay A (v.tdiv 1000) (v.tmod 10) else 1) else if 6000 ≤ v ∧ v ≤ 6999 then rWhyBack A (v - 6000) else if 7000 ≤ v ∧ v ≤ 7999 then rWhyIn A (v - 7000) else if 8000 ≤ v ∧ v ≤ 8999 then rWhyOut A (v - 8000) else if 9000 ≤ v ∧ v ≤ 9009 then 0 else 1) = 1 := by
      rw [if_neg z, if_neg (by omega), if_neg (by omega), if_neg (by omega), if_neg (by omega), if_neg (by omega)]
    rw [e] at h1
    exact h1 (by decide) M (lK.refl M)
/-- what a deed of the trial leaves -/
theorem cOk.trial {B : Int → Int} {M1 : QMem} (h : cOk A 37 M) (g : rGood A B) (s : sK 37 M M1) (c : cSt B 37 M1) : cOk B 37 M1 := ⟨g.land h.1, g.1, (s.land (Or.inr rfl) h.2.2.1).land_eq h.1 (fun j hj => g.2 j (by omega)), c⟩
theorem c_number {b i n : Int} (hb : b = 165 ∨ b = 167 ∨ b = 169 ∨ b = 171) (hn : M b 2 = n) (h4 : n ≤ 40) (hi : 0 ≤ i ∧ i < n) (hp : post (M (b + 1) i) M) : QCm X x d 2 yX8_number [(2, b), (0, i)] M post := by
  refine QC.of qmX8_number_ok rfl (TX8_number_0 hb ?_)
  rw [hn]
  exact ⟨(i32 (by omega) (by omega)), fun z => absurd z (by omega), fun _ => ⟨(i32 (by omega) (by omega)), fun z => absurd z (by omega), fun _ => ⟨fun z => absurd z (by omega), fun _ => ⟨(by omega), (by omega), hp⟩⟩⟩⟩
theorem c_followAll_loop {b N : Int} (hb : b = 165 ∨ b = 167 ∨ b = 169 ∨ b = 171) (h4 : N ≤ 40) {w : Int → Int} (hw : ∀ i, 0 ≤ i → i < N → in64 (w i)) : ∀ (n : Nat) {A : Int → Int} {M : QMem} (k : Int), cOk A 37 M → M b 2 = N → (∀ i, 0 ≤ i → i < N → M (b + 1) i = w i) → 0 ≤ k → k + n = N → (∀ M1, sK 37 M M1 → cSt (rTells w n A k).1 37 M1 → post (rTells w n A k).2.1 M1) → QRm X x (d + 7) qmX6_followAll post 2 [(0, (2, 37)), (1, (2, 17)), (2, (2, b)), (3, (0, k))] [] M := by
  intro n
  induction n with
  | zero =>
    intro A M k h hN hM k0 kn hp
    refine TX6_followAll_2 hb ?_
    rw [hN]
    exact ⟨(i32 (by omega) (by omega)), (i32 (by omega) (by omega)), fun _ => hp M (fun _ _ _ _ _ _ => rfl) h.2.2.2, fun z => absurd (show N ≤ k by omega) z⟩
  | succ n ih =>
    intro A M k h hN hM k0 kn hp
    have wb := rWhyNot_b A (w k)
    refine TX6_followAll_2 hb ?_
    rw [hN]
    refine ⟨(i32 (by omega) (by omega)), (i32 (by omega) (by omega)), fun z => absurd z (by omega), fun _ => c_number hb hN h4 (by omega) ?_⟩
    rw [hM k k0 (by omega)]
    rw [rTells] at hp
    refine c_follow h (hw k k0 (by omega)) (fun z M1 m1 m2 => ⟨fun _ => ?_, fun y => absurd rfl y⟩) (fun z M1 m1 => ⟨fun y => absurd y z, fun _ => ⟨(i32 (by omega) (by omega)), ?_⟩⟩)
    · rw [if_pos z] at hp
      have g := rDoes_good h.1 h.2.1 z
      refine ih (k + 1) (h.trial g m1 m2) ?_ (fun i i0 i1 => ?_) (by omega) (by omega) (fun M2 n1 n2 => hp M2 (m1.trans n1) n2)
      · rw [m1 b (by omega) (by omega) (by omega) (by omega) (by omega)]; exact hN
      · rw [m1 (b + 1) (by omega) (by omega) (by omega) (by omega) (by omega)]; exact hM i i0 i1
    · rw [if_neg z] at hp
      exact hp M1 m1.sK (h.keep (Or.inr rfl) m1).2.2.2
theorem c_followAll {b N : Int} (hb : b = 165 ∨ b = 167 ∨ b = 169 ∨ b = 171) (h0 : 0 ≤ N) (h4 : N ≤ 40) {w : Int → Int} (hw : ∀ i, 0 ≤ i → i < N → in64 (w i)) (h : cOk A 37 M) (hN : M b 2 = N) (hM : ∀ i, 0 ≤ i → i < N → M (b + 1) i = w i) (hp : ∀ M1, sK 37 M M1 → cSt (rTells w N.toNat A 0).1 37 M1 → post (rTells w N.toNat A 0).2.1 M1) : QCm X x (d + 7) 1 yX6_followAll [(2, 37), (2, 17), (2, b)] M post :=
  QC.of qmX6_followAll_ok rfl (TX6_followAll_0 hb (c_followAll_loop hb h4 hw N.toNat 0 h hN hM (by decide) (by omega) hp))
theorem c_drawn {v : Int} (hp : post (1103515245 * v + 12345) M) : QCm X x d 1 yX6_drawn [(0, v)] M post := QC.of qmX6_drawn_ok rfl (TX6_drawn_0 hp)
theorem c_followSeason_loop {N D : Int} (h4 : 0 ≤ N ∧ N ≤ 40) (hD : 1 ≤ D ∧ D ≤ 6) : ∀ (n : Nat) {A : Int → Int} {M : QMem} (y c i : Int), cOk A 37 M → A 3 = D → 0 ≤ i → i + n = N → (∀ M1, sK 37 M M1 → cSt (rSeason D n A y c).1 37 M1 → post (rSeason D n A y c).2 M1) → QRm X x (d + 6) qmX6_followSeason post 19 [(0, (2, 37)), (1, (2, 17)), (3, (0, N)), (4, (0, y)), (5, (0, c)), (6, (0, D)), (7, (0, i))] [] M := by
  intro n
  induction n with
  | zero =>
    intro A M y c i h hA i0 hi hp
    exact TX6_followSeason_19 ⟨(i32 (by omega) (by omega)), (i32 (by omega) (by omega)), fun _ => hp M (fun _ _ _ _ _ _ => rfl) h.2.2.2, fun z => absurd (show N ≤ i by omega) z⟩
  | succ n ih =>
    intro A M y c i h hA i0 hi hp
    have next : ∀ (M1 : QMem) (B : Int → Int) (y' c' : Int), rGood A B → sK 37 M M1 → cSt B 37 M1 → (∀ M2, sK 37 M M2 → cSt (rSeason D n B y' c').1 37 M2 → post (rSeason D n B y' c').2 M2) → QRm X x (d + 6) qmX6_followSeason post 177 [(0, (2, 37)), (1, (2, 17)), (3, (0, N)), (4, (0, y')), (5, (0, c')), (6, (0, D)), (7, (0, i))] [] M1 := by
      intro M1 B y' c' g m1 m2 hq
      exact TX6_followSeason_177 (ih y' c' (i + 1) (h.trial g m1 m2) (by rw [g.2 3 (by omega)]; exact hA) (by omega) (by omega) (fun M2 n1 n2 => hq M2 (m1.trans n1) n2))
    -- behind a deed that was tried
    have tried : ∀ (M1 : QMem) (v y' w : Int), (rDrawn D y) = (v, y') → w = rWhyNot A v → sK 37 M M1 → (w = 0 → cSt (rDoes A v) 37 M1) → (w ≠ 0 → cSt A 37 M1) → QRm X x (d + 6) qmX6_followSeason post 162 [(0, (2, 37)), (1, (2, 17)), (3, (0, N)), (4, (0, y')), (5, (0, c)), (6, (0, D)), (7, (0, i)), (10, (0, w))] [] M1 := by
      intro M1 v y' w hv hw m1 c0 c1
      have wb := rWhyNot_b A v
      have e1 : (rDrawn D y).1 = v := by rw [hv]
      have e2 : (rDrawn D y).2 = y' := by rw [hv]
      rw [rSeason, e1, e2] at hp
      refine TX6_followSeason_162 ⟨fun z => TX6_followSeason_174 ?_, fun z => ⟨(i32 (by omega) (by omega)), TX6_followSeason_174 ?_⟩⟩
      · have z' : rWhyNot A v = 0 := by rw [← hw]; exact z
        rw [if_pos z'] at hp
        exact next M1 _ y' (c + 1) (rDoes_good h.1 h.2.1 z') m1 (c0 z) hp
      · have z' : ¬ rWhyNot A v = 0 := by rw [← hw]; exact z
        rw [if_neg z'] at hp
        rw [Int.add_zero]
        exact next M1 _ y' c ⟨h.2.1, fun _ _ => rfl⟩ m1 (c1 z) hp
    generalize hy1 : 1103515245 * y + 12345 = y1
    generalize hy2 : 1103515245 * y1 + 12345 = y2
    generalize hy3 : 1103515245 * y2 + 12345 = y3
    generalize hy4 : 1103515245 * y3 + 12345 = y4
    have u1 := qushr16 y1
    have u2 := qushr16 y2
    have u3 := qushr16 y3
    have u4 := qushr16 y4
    have t1 := tm_b (k := qushr y1 16) (w := 6) u1.1 (by decide)
    have t2 := tm_b (k := qushr y2 16) (w := D) u2.1 (by omega)
    have t3 := tm_b (k := qushr y3 16) (w := 4) u3.1 (by decide)
    have t4 := tm_b (k := qushr y4 16) (w := 2) u4.1 (by decide)
    have dr : rDrawn D y = if (qushr y1 16).tmod 6 = 3 then (-1, y1) else if 3 < (qushr y1 16).tmod 6 then ((if (qushr y1 16).tmod 6 = 4 then 8000 else 7000) + (qushr y2 16).tmod D, y2) else (1000 * (qushr y2 16).tmod D + 10 * (qushr y4 16).tmod 2 + (1 + (qushr y3 16).tmod 4), y4) := by
      rw [rDrawn, hy1, hy2, hy3, hy4]
    refine TX6_followSeason_19 ⟨(i32 (by omega) (by omega)), (i32 (by omega) (by omega)), fun z => absurd z (by omega), fun _ => c_drawn ?_⟩
    rw [hy1]
    refine ⟨(i32 (by omega) (by omega)), fun z => ?_, fun z => ⟨(i32 (by omega) (by omega)), ?_⟩⟩
    · rw [if_pos z] at dr
      rw [rSeason, dr] at hp
      have w0 : rWhyNot A (-1) = 0 := by rw [rWhyNot, if_pos rfl]
      have e0 : rDoes A (-1) = (rHour A).1 := by rw [rDoes, if_pos rfl]
      simp only [w0, if_true, e0] at hp
      refine c_passHour (Or.inr rfl) h.1 h.2.1 h.2.2.2 (fun M1 m1 m2 => ?_)
      exact next M1 _ y1 (c + 1) (rHour_good h.1 h.2.1) (oK.sK m1) m2 hp
    rw [if_neg z] at dr
    refine TX6_followSeason_59 (c_drawn ?_)
    rw [hy2]
    refine ⟨(i32 (by omega) (by omega)), (i32 (by omega) (by omega)), (by omega), (i32 (by omega) (by omega)), fun q => ?_, fun q => ?_⟩
    · rw [if_pos (by omega)] at dr
      refine TX6_followSeason_137 ⟨fun q4 => ?_, fun q4 => ⟨(i32 (by omega) (by omega)), ?_⟩⟩
      · rw [if_pos q4] at dr
        have ev : rWhyNot A (8000 + (qushr y2 16).tmod D) = rWhyOut A ((qushr y2 16).tmod D) := by
          rw [rWhyNot, if_neg (by omega), if_neg (by omega), if_neg (by omega), if_neg (by omega), if_pos (by omega)]; congr 1; omega
        have ed : rDoes A (8000 + (qushr y2 16).tmod D) = rOut A ((qushr y2 16).tmod D) := by
          rw [rDoes, if_neg (by omega), if_neg (by omega), if_neg (by omega), if_neg (by omega), if_pos (by omega)]; congr 1; omega
        refine c_tryOut (Or.inr rfl) h (i32 (by omega) (by omega)) (fun w0 M1 m1 m2 => TX6_followSeason_160 (tried M1 _ y2 0 dr (by rw [ev, w0]) (oK.sK m1) (fun _ => by rw [ed]; exact m2) (fun y => absurd rfl y))) (fun w0 => TX6_followSeason_160 (tried M _ y2 _ dr ev.symm (fun _ _ _ _ _ _ => rfl) (fun y => absurd y w0) (fun _ => h.2.2.2)))
      · rw [if_neg q4] at dr
        have ev : rWhyNot A (7000 + (qushr y2 16).tmod D) = rWhyIn A ((qushr y2 16).tmod D) := by
          rw [rWhyNot, if_neg (by omega), if_neg (by omega), if_neg (by omega), if_pos (by omega)]; congr 1; omega
        have ed : rDoes A (7000 + (qushr y2 16).tmod D) = rOffs A ((qushr y2 16).tmod D) (A (60 + (qushr y2 16).tmod D)).toNat := by
          rw [rDoes, if_neg (by omega), if_neg (by omega), if_neg (by omega), if_pos (by omega), show 7000 + (qushr y2 16).tmod D - 7000 = (qushr y2 16).tmod D by omega]
        refine c_tryIn (Or.inr rfl) h (i32 (by omega) (by omega)) (fun w0 M1 m1 m2 => TX6_followSeason_160 (tried M1 _ y2 0 dr (by rw [ev, w0]) (oK.sK m1) (fun _ => by rw [ed]; exact m2) (fun y => absurd rfl y))) (fun w0 => TX6_followSeason_160 (tried M _ y2 _ dr ev.symm (fun _ _ _ _ _ _ => rfl) (fun y => absurd y w0) (fun _ => h.2.2.2)))
    · rw [if_neg (by omega)] at dr
      refine TX6_followSeason_82 (c_drawn ?_)
      rw [hy3]
      refine ⟨(i32 (by omega) (by omega)), c_drawn ?_⟩
      rw [hy4]
      generalize hD : (qushr y2 16).tmod D = e at *
      generalize hO : (qushr y4 16).tmod 2 = o at *
      generalize hU : (qushr y3 16).tmod 4 = u at *
      have v0 : 0 ≤ 1000 * e + 10 * o + (1 + u) := (by omega)
      have k1 : (1000 * e + 10 * o + (1 + u)).tdiv 100 = (1000 * e + 10 * o + (1 + u)) / 100 := Int.tdiv_eq_ediv_of_nonneg v0
      have k2 : (1000 * e + 10 * o + (1 + u)).tdiv 10 = (1000 * e + 10 * o + (1 + u)) / 10 := Int.tdiv_eq_ediv_of_nonneg v0
      have k3 : (1000 * e + 10 * o + (1 + u)).tdiv 1000 = e := by rw [Int.tdiv_eq_ediv_of_nonneg v0]; omega
      have k4 : (1000 * e + 10 * o + (1 + u)).tmod 10 = 1 + u := by rw [Int.tmod_eq_emod_of_nonneg v0]; omega
      have k5 : ((1000 * e + 10 * o + (1 + u)).tdiv 100).tmod 10 = 0 := by rw [k1, Int.tmod_eq_emod_of_nonneg (by omega)]; omega
      have k6 : ((1000 * e + 10 * o + (1 + u)).tdiv 10).tmod 10 = o := by rw [k2, Int.tmod_eq_emod_of_nonneg (by omega)]; omega
      have ev : rWhyNot A (1000 * e + 10 * o + (1 + u)) = rWhyLay A e (1 + u) := by
        rw [rWhyNot, if_neg (by omega), if_pos (by omega), k3, k4, k5, k6, if_pos (by omega)]
      have lay : ∀ o' : Int, o' = (if o = 1 then 1 else 0) → QRm X x (d + 6) qmX6_followSeason post 129 [(0, (2, 37)), (1, (2, 17)), (3, (0, N)), (4, (0, y4)), (5, (0, c)), (6, (0, D)), (7, (0, i))] [(0, o'), (0, 1 + u), (0, e), (2, 17), (2, 37)] M := by
        intro o' ho
        have ed : rDoes A (1000 * e + 10 * o + (1 + u)) = rLay A e (1 + u) o' := by
          rw [rDoes, if_neg (by omega), if_pos (by omega), k3, k4, k6, ho]
        have o3 : in32 o' := by rw [ho]; split <;> exact ⟨by decide, by decide⟩
        refine TX6_followSeason_129 (c_tryLaying (Or.inr rfl) h (i32 (by omega) (by omega)) (i32 (by omega) (by omega)) o3 (fun w0 M1 m1 m2 => tried M1 _ y4 0 dr (by rw [ev, w0]) m1 (fun _ => by rw [ed]; exact m2) (fun y => absurd rfl y)) (fun w0 M1 m1 => tried M1 _ y4 _ dr ev.symm m1.sK (fun y => absurd y w0) (fun _ => (h.keep (Or.inr rfl) m1).2.2.2)))
      exact ⟨(i32 (by omega) (by omega)), fun q1 => lay 1 (by rw [if_pos q1]), fun q1 => ⟨(i32 (by omega) (by omega)), lay 0 (by rw [if_neg q1])⟩⟩
end Tell62
