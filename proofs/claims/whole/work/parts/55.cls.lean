section Cls55
variable {X : QX} {x : Int} {d : Nat} {post : Int → QMem → Prop} {M : QMem} {A : Int → Int} {b : Int}
/-- but for a state, all is as it was -/
abbrev oK (b : Int) (M M1 : QMem) : Prop := ∀ a, a < b ∨ b + 9 < a → M1 a = M a
theorem c_tryIn (hb : b = 27 ∨ b = 37) (h : cOk A b M) {e : Int} (he : in32 e) (h0 : rWhyIn A e = 0 → ∀ M1, oK b M M1 → cSt (rOffs A e (A (60 + e)).toNat) b M1 → post 0 M1) (h1 : rWhyIn A e ≠ 0 → post (rWhyIn A e) M) : QCm X x (d + 3) 1 yX6_tryIn [(2, b), (2, 17), (0, e)] M post := by
  have wb := rWhyIn_b A e
  refine QC.of qmX6_tryIn_ok rfl (TX6_tryIn_0 hb (c_whyNotIn hb h he ⟨fun z => ?_, fun z => ⟨(i32 (by omega) (by omega)), h1 z⟩⟩))
  obtain ⟨z1, z2, z3⟩ := rWhyIn_zero z
  have a3 := h.1.2.2.1
  have hl := h.2.1.2.1.1 e z1.1 (by omega)
  rw [z]
  exact c_tryIn_loop hb _ h z1 (Int.toNat_of_nonneg hl.1).symm z3 (fun M1 m1 m2 => h0 z M1 m1 m2) 0 (by omega) (by omega)
theorem cSt.out {e : Int} {M1 : QMem} (hC : cSt A b M) (hT : 0 ≤ A 330 ∧ A 330 < 8) (h3 : A 3 ≤ 6) (hr : ∀ f, 0 ≤ f → f < 6 → 0 ≤ A (60 + f) ∧ A (60 + f) ≤ 16) (ho : ∀ i, 1 ≤ i → i < 7 → M1 (b + i) = M (b + i)) (r0 : M1 b = aup (M b) 6 (A 330 + 1)) (r7 : M1 (b + 7) = aup (M (b + 7)) (A 330) e) (r8 : M1 (b + 8) = aup (M (b + 8)) (A 330) (-1)) (r9 : M1 (b + 9) = aup (M (b + 9)) (A 330) 0) : cSt (rOut A e) b M1 := by
  have v := rOut_v (e := e) hT
  have r := fun (j : Int) (hj : j < 330 ∨ 363 ≤ j) => rOut_at (A := A) (e := e) (j := j) hT (by omega) (by omega) (by omega) (by omega) (by omega)
  refine ⟨fun f f0 f1 => ?_, fun f f0 f1 => ?_, fun f i f0 f1 i0 i1 => ?_, fun q q0 q1 => ?_, fun t t0 t1 => ?_, ?_, ?_, ?_⟩
  · rw [ho 1 (by omega) (by omega), r (60 + f) (by omega)]; exact hC.1 f f0 f1
  · rw [r 3 (by omega)] at f1
    rw [ho 2 (by omega) (by omega), r (54 + f) (by omega)]; exact hC.2.1 f f0 f1
  · rw [r (60 + f) (by omega)] at i1
    have := hr f f0 f1
    rw [ho 3 (by omega) (by omega), ho 4 (by omega) (by omega), r (66 + 16 * f + i) (by omega), r (162 + 16 * f + i) (by omega)]; exact hC.2.2.1 f i f0 f1 i0 i1
  · rw [ho 5 (by omega) (by omega), ho 6 (by omega) (by omega), r (294 + q) (by omega), r (258 + q) (by omega)]; exact hC.2.2.2.1 q q0 q1
  · rw [v.1] at t1
    rw [r7, r8, r9]
    by_cases z : t = A 330
    · rw [z, v.2.1, v.2.2.1, v.2.2.2.1, v.2.2.2.2, aup_self, aup_self, aup_self, if_neg (by decide)]; exact ⟨rfl, rfl, rfl⟩
    · rw [aup_ne z, aup_ne z, aup_ne z, rOut_at hT (by omega) (by omega) (by omega) (by omega) (by omega), rOut_at hT (by omega) (by omega) (by omega) (by omega) (by omega), rOut_at hT (by omega) (by omega) (by omega) (by omega) (by omega), rOut_at hT (by omega) (by omega) (by omega) (by omega) (by omega)]
      exact hC.2.2.2.2.1 t t0 (by omega)
  · rw [r0, v.1, aup_self]
  · rw [r0, r 52 (by omega), aup_ne (by decide)]; exact hC.2.2.2.2.2.2.1
  · rw [r0, r 53 (by omega), aup_ne (by decide)]; exact hC.2.2.2.2.2.2.2
theorem c_tryOut (hb : b = 27 ∨ b = 37) (h : cOk A b M) {e : Int} (he : in32 e) (h0 : rWhyOut A e = 0 → ∀ M1, oK b M M1 → cSt (rOut A e) b M1 → post 0 M1) (h1 : rWhyOut A e ≠ 0 → post (rWhyOut A e) M) : QCm X x (d + 3) 1 yX6_tryOut [(2, b), (2, 17), (0, e)] M post := by
  have wb := rWhyOut_b A e
  refine QC.of qmX6_tryOut_ok rfl (TX6_tryOut_0 hb (c_whyNotOut hb h he ⟨fun z => ?_, fun z => ⟨(i32 (by omega) (by omega)), h1 z⟩⟩))
  obtain ⟨z1, z2, z3⟩ := rWhyOut_zero z
  have hT := h.2.1.2.2.2.1
  have a3 := h.1.2.2.1
  have h6 : M b 6 = A 330 := h.2.2.2.2.2.2.2.2.1
  simp only [qbd, qb0, qb1, qup_aup, aup, Int.reduceEq, reduceIte, h6]
  rw [z]
  refine ⟨(by omega), (by omega), (by omega), (by omega), (by omega), (by omega), h0 z _ (fun a ha => ?_) (h.2.2.2.out (by omega) a3.2 h.2.1.2.1.1 (fun i i0 i1 => ?_) ?_ ?_ ?_ ?_)⟩
  · rw [qup_row (by omega), qup_row (by omega), qup_row (by omega), qup_row (by omega)]
  · rw [qup_row (by omega), qup_row (by omega), qup_row (by omega), qup_row (by omega)]
  all_goals simp only [qbd, qb0, qb1, qup_aup, aup, Int.reduceEq, reduceIte]
  all_goals (try rfl)
theorem cSt.goes {t : Int} {M1 : QMem} (hC : cSt A b M) (hT : 0 ≤ A 330 ∧ A 330 ≤ 8) (h3 : A 3 ≤ 6) (hr : ∀ f, 0 ≤ f → f < 6 → 0 ≤ A (60 + f) ∧ A (60 + f) ≤ 16) (ht : 0 ≤ t ∧ t < A 330) (ho : ∀ i, 1 ≤ i → i < 8 → M1 (b + i) = M (b + i)) (r0 : M1 b = M b) (r8 : M1 (b + 8) = aup (M (b + 8)) t (if rGoes A t (347 + t) = 1 then -2 else rGoes A t (339 + t))) (r9 : M1 (b + 9) = aup (M (b + 9)) t (rGoes A t (355 + t))) : cSt (rGoes A t) b M1 := by
  have r := fun (j : Int) (hj : j < 339 ∨ 363 ≤ j) => rGoes_at A t j (by omega) (by omega) (by omega)
  refine ⟨fun f f0 f1 => ?_, fun f f0 f1 => ?_, fun f i f0 f1 i0 i1 => ?_, fun q q0 q1 => ?_, fun s s0 s1 => ?_, ?_, ?_, ?_⟩
  · rw [ho 1 (by omega) (by omega), r (60 + f) (by omega)]; exact hC.1 f f0 f1
  · rw [r 3 (by omega)] at f1
    rw [ho 2 (by omega) (by omega), r (54 + f) (by omega)]; exact hC.2.1 f f0 f1
  · rw [r (60 + f) (by omega)] at i1
    have := hr f f0 f1
    rw [ho 3 (by omega) (by omega), ho 4 (by omega) (by omega), r (66 + 16 * f + i) (by omega), r (162 + 16 * f + i) (by omega)]; exact hC.2.2.1 f i f0 f1 i0 i1
  · rw [ho 5 (by omega) (by omega), ho 6 (by omega) (by omega), r (294 + q) (by omega), r (258 + q) (by omega)]; exact hC.2.2.2.1 q q0 q1
  · rw [r 330 (by omega)] at s1
    have hq := hC.2.2.2.2.1 s s0 s1
    rw [ho 7 (by omega) (by omega), r (331 + s) (by omega), r8, r9]
    by_cases z : s = t
    · subst z; rw [aup_self, aup_self]; exact ⟨hq.1, rfl, rfl⟩
    · rw [aup_ne z, aup_ne z, rGoes_at A t _ (by omega) (by omega) (by omega), rGoes_at A t _ (by omega) (by omega) (by omega), rGoes_at A t _ (by omega) (by omega) (by omega)]; exact hq
  · rw [r0, r 330 (by omega)]; exact hC.2.2.2.2.2.1
  · rw [r0, r 52 (by omega)]; exact hC.2.2.2.2.2.2.1
  · rw [r0, r 53 (by omega)]; exact hC.2.2.2.2.2.2.2
theorem c_goOn (hb : b = 27 ∨ b = 37) (hL : rLandOk A) (hS : rStOk A) (hC : cSt A b M) {t : Int} (ht : 0 ≤ t ∧ t < A 330) (h0 : A (347 + t) = 0) (hp : ∀ M1, oK b M M1 → cSt (rGoes A t) b M1 → post 0 M1) : QCm X x (d + 2) 0 yX6_goOn [(2, b), (0, t)] M post := by
  have a3 := hL.2.2.1
  have hcl := hL.cells
  have hT := hS.2.2.2.1
  have g := hS.2.2.2.2.1 t ht.1 ht.2
  have hq := hC.2.2.2.2.1 t ht.1 ht.2
  have al := g.2.2.2 h0
  have hl := hS.2.1.1 (A (331 + t)) (by omega) (by omega)
  have pl : M (b + 8) t = A (339 + t) := by rw [hq.2.1, if_neg (by omega)]
  have rd : M (b + 7) t = A (331 + t) := hq.1
  have wt : M (b + 9) t = A (355 + t) := hq.2.2
  have ln : M (b + 1) (A (331 + t)) = A (60 + A (331 + t)) := hC.1 _ (by omega) (by omega)
  have s7 : rStep A t (347 + t) = 0 := by rw [rStep_at A t _ (by omega)]; exact h0
  have s5 : rStep A t (355 + t) = A (355 + t) := rStep_at A t _ (by omega)
  have self8 : aup (M (b + 8)) t (A (339 + t)) = M (b + 8) := by
    funext j; rw [aup]; split
    · rename_i z; rw [z, pl]
    · rfl
  have self9 : aup (M (b + 9)) t (A (355 + t)) = M (b + 9) := by
    funext j; rw [aup]; split
    · rename_i z; rw [z, wt]
    · rfl
  -- what becomes of the two rows
  have fin : ∀ M1 : QMem, oK b M M1 → (∀ i, 1 ≤ i → i < 8 → M1 (b + i) = M (b + i)) → M1 b = M b → M1 (b + 8) = aup (M (b + 8)) t (if rGoes A t (347 + t) = 1 then -2 else rGoes A t (339 + t)) → M1 (b + 9) = aup (M (b + 9)) t (rGoes A t (355 + t)) → post 0 M1 := fun M1 m1 m2 m3 m4 m5 => hp M1 m1 (hC.goes hT a3.2 hS.2.1.1 ht m2 m3 m4 m5)
  have arr : 0 ≤ rStep A t (339 + t) ∧ rStep A t (339 + t) = A (60 + A (331 + t)) - 1 → (if rGoes A t (347 + t) = 1 then -2 else rGoes A t (339 + t)) = -2 ∧ rGoes A t (355 + t) = A (355 + t) := by
    intro z
    rw [rGoes, if_pos z, aup_self, if_pos rfl, aup_ne (by omega)]; exact ⟨rfl, s5⟩
  have goS : ¬ (0 ≤ rStep A t (339 + t) ∧ rStep A t (339 + t) = A (60 + A (331 + t)) - 1) → rWent A t → (if rGoes A t (347 + t) = 1 then -2 else rGoes A t (339 + t)) = A (339 + t) + 1 ∧ rGoes A t (355 + t) = A (355 + t) := by
    intro z w
    rw [rGoes, if_neg z, if_pos w, s7, if_neg (by decide), s5, rStep, if_pos w, aup_self]; exact ⟨rfl, rfl⟩
  have noS : ¬ (0 ≤ rStep A t (339 + t) ∧ rStep A t (339 + t) = A (60 + A (331 + t)) - 1) → ¬ rWent A t → (if rGoes A t (347 + t) = 1 then -2 else rGoes A t (339 + t)) = A (339 + t) ∧ rGoes A t (355 + t) = A (355 + t) + 1 := by
    intro z w
    rw [rGoes, if_neg z, if_neg w, aup_ne (by omega), s7, if_neg (by decide), aup_ne (by omega), aup_self, rStep, if_neg w]; exact ⟨rfl, rfl⟩
  have stN : ¬ rWent A t → rStep A t (339 + t) = A (339 + t) := fun w => by rw [rStep, if_neg w]
  have stY : rWent A t → rStep A t (339 + t) = A (339 + t) + 1 := fun w => by rw [rStep, if_pos w, aup_self]
  -- who doesn't go
  have stay : ¬ rWent A t → in32 (A (339 + t)) ∧ (A (339 + t) < 0 → post 0 (qup M (b + 9) t (A (355 + t) + 1))) ∧ (¬ A (339 + t) < 0 → (A (339 + t) = A (60 + A (331 + t)) - 1 → post 0 (qup M (b + 8) t (-2))) ∧ (¬ A (339 + t) = A (60 + A (331 + t)) - 1 → post 0 (qup M (b + 9) t (A (355 + t) + 1)))) := by
    intro w
    have wait : ¬ (0 ≤ A (339 + t) ∧ A (339 + t) = A (60 + A (331 + t)) - 1) → post 0 (qup M (b + 9) t (A (355 + t) + 1)) := by
      intro z
      have n := noS (by rw [stN w]; exact z) w
      refine fin _ (fun a ha => qup_row (by omega)) (fun i i0 i1 => qup_row (by omega)) (qup_row (by omega)) ?_ ?_
      · rw [n.1, self8]; exact qup_row (by omega)
      · rw [n.2]; exact qup_aup _ _ _ _
    refine ⟨(i32 (by omega) (by omega)), fun z => wait (by omega), fun z => ⟨fun y => ?_, fun y => wait (by omega)⟩⟩
    have n := arr (by rw [stN w]; omega)
    refine fin _ (fun a ha => qup_row (by omega)) (fun i i0 i1 => qup_row (by omega)) (qup_row (by omega)) ?_ ?_
    · rw [n.1]; exact qup_aup _ _ _ _
    · rw [n.2, self9]; exact qup_row (by omega)
  refine QC.of qmX6_goOn_ok rfl (TX6_goOn_0 hb ?_)
  rw [pl, rd, wt, ln]
  refine ⟨(by omega), (by omega), (by omega), (by omega), (i32 (by omega) (by omega)), (i32 (by omega) (by omega)), fun z => stay (fun y => by have := y.1; omega), fun z => ?_⟩
  have hh := (hS.2.1.2.2.1 (16 * A (331 + t) + (A (339 + t) + 1)) (by omega) (by omega)).1
  rw [← Int.add_assoc] at hh
  refine c_cellOf hb hS.2.1 hC (by omega) (i32 (by omega) (by omega)) (fun _ => ?_) (fun y => absurd (show 0 ≤ A (339 + t) + 1 ∧ A (339 + t) + 1 < A (60 + A (331 + t)) by omega) y)
  refine c_travellerOn hb hL hS hC (i32 (by omega) (by omega)) (fun u u0 u1 y1 y2 => ⟨fun q => absurd q (by omega), fun _ => ⟨(i32 (by omega) (by omega)), ?_⟩⟩) (fun y => ⟨fun _ => ?_, fun q => absurd rfl q⟩)
  · rw [pl, wt]; exact stay (fun y => y.2 u u0 u1 y1)
  · have w : rWent A t := ⟨(by omega), y⟩
    have sv := stY w
    simp only [qup_at, if_true]
    refine ⟨(i32 (by omega) (by omega)), fun q => absurd q (by omega), fun q => ⟨fun q1 => ?_, fun q1 => ?_⟩⟩
    · have n := arr (by rw [sv]; omega)
      refine fin _ (fun a ha => by rw [qup_row (by omega), qup_row (by omega)]) (fun i i0 i1 => by rw [qup_row (by omega), qup_row (by omega)]) (by rw [qup_row (by omega), qup_row (by omega)]) ?_ ?_
      · rw [n.1, qup_aup, qup_aup]
        funext j; unfold aup; split <;> rfl
      · rw [n.2, self9, qup_row (by omega), qup_row (by omega)]
    · have n := goS (by rw [sv]; omega) w
      refine fin _ (fun a ha => qup_row (by omega)) (fun i i0 i1 => qup_row (by omega)) (qup_row (by omega)) ?_ ?_
      · rw [n.1]; exact qup_aup _ _ _ _
      · rw [n.2, self9]; exact qup_row (by omega)
theorem c_passHour (hb : b = 27 ∨ b = 37) (hL : rLandOk A) (hS : rStOk A) (hC : cSt A b M) (hp : ∀ M1, oK b M M1 → cSt (rHour A).1 b M1 → post (rHour A).2 M1) : QCm X x (d + 3) 1 yX6_passHour [(2, b)] M post := by
  have hT := hS.2.2.2.1
  have key : ∀ i : Int, ∀ M1 : QMem, 0 ≤ i ∧ i ≤ A 330 ∧ oK b M M1 ∧ cSt (rHourN A i.toNat).1 b M1 → QRm X x (d + 3) qmX6_passHour post 4 [(0, (2, b)), (1, (0, (rHourN A i.toNat).2)), (2, (0, i))] [] M1 := by
    refine int_up (A 330) (fun i hi M1 h => ?_) (fun i hi ih M1 h => ?_)
    · obtain ⟨o1, o2⟩ := rHourN_ok hL hS i.toNat (by omega)
      have e6 : M1 b 6 = A 330 := by rw [h.2.2.2.2.2.2.2.2.1, o2 330 (by omega)]
      refine TX6_passHour_4 hb ?_
      rw [e6]
      refine ⟨(i32 (by omega) (by omega)), (i32 (by omega) (by omega)), fun _ => ?_, fun z => absurd hi (by omega)⟩
      have ei : i.toNat = (A 330).toNat := by omega
      rw [ei]
      have hh := h.2.2.2
      rw [ei] at hh o2
      refine hp _ (fun a ha => by rw [qup_row (by omega)]; exact h.2.2.1 a ha) ?_
      have r : ∀ j, j ≠ 53 → (rHour A).1 j = (rHourN A (A 330).toNat).1 j := fun j hj => aup_ne hj
      have r53 : (rHour A).1 53 = (rHourN A (A 330).toNat).1 53 + 1 := by show aup (rHourN A (A 330).toNat).1 53 ((rHourN A (A 330).toNat).1 53 + 1) 53 = _; exact aup_self _ _ _
      have a3 := hL.2.2.1
      have hlen := hS.2.1.1
      refine ⟨fun f f0 f1 => ?_, fun f f0 f1 => ?_, fun f j f0 f1 i0 i1 => ?_, fun q q0 q1 => ?_, fun s s0 s1 => ?_, ?_, ?_, ?_⟩
      · rw [qup_row (by omega), r _ (by omega)]; exact hh.1 f f0 f1
      · rw [r 3 (by omega)] at f1
        have := o2 3 (by omega)
        rw [qup_row (by omega), r _ (by omega)]; exact hh.2.1 f f0 f1
      · rw [r _ (by omega)] at i1
        rw [qup_row (by omega), qup_row (by omega), r _ (by omega), r _ (by omega)]; exact hh.2.2.1 f j f0 f1 i0 i1
      · rw [qup_row (by omega), qup_row (by omega), r _ (by omega), r _ (by omega)]; exact hh.2.2.2.1 q q0 q1
      · rw [r 330 (by omega)] at s1
        rw [qup_row (by omega), qup_row (by omega), qup_row (by omega), r _ (by omega), r _ (by omega), r _ (by omega), r _ (by omega)]; exact hh.2.2.2.2.1 s s0 s1
      · rw [qup_at, if_neg (by decide), r 330 (by omega)]; exact hh.2.2.2.2.2.1
      · rw [qup_at, if_neg (by decide), r 52 (by omega)]; exact hh.2.2.2.2.2.2.1
      · rw [qup_at, if_pos rfl, r53, hh.2.2.2.2.2.2.2]
    · obtain ⟨o1, o2⟩ := rHourN_ok hL hS i.toNat (by omega)
      have hL1 := hL.congr (B := (rHourN A i.toNat).1) (fun j hj => o2 j (by omega))
      have e6 : M1 b 6 = A 330 := by rw [h.2.2.2.2.2.2.2.2.1, o2 330 (by omega)]
      have ei : ((i.toNat : Nat) : Int) = i := by omega
      have es : (i + 1).toNat = i.toNat + 1 := by omega
      have e3 := o2 330 (by omega)
      have g := o1.2.2.2.2.1 i h.1 (by omega)
      have hq := h.2.2.2.2.2.2.2.1 i h.1 (by omega)
      have sN : rHourN A (i + 1).toNat = if (rHourN A i.toNat).1 (347 + i) = 0 then (rGoes (rHourN A i.toNat).1 i, if rGoes (rHourN A i.toNat).1 i (347 + i) = 1 then (rHourN A i.toNat).2 + 1 else (rHourN A i.toNat).2) else rHourN A i.toNat := by
        rw [es, rHourN, ei]
      refine TX6_passHour_4 hb ?_
      rw [e6, hq.2.1]
      refine ⟨(i32 (by omega) (by omega)), (i32 (by omega) (by omega)), fun z => absurd hi (by omega), fun _ => ⟨(by omega), (by omega), fun z => ?_, fun z => ⟨by split <;> exact (i32 (by omega) (by omega)), ?_⟩⟩⟩
      · have i1 : ¬ (rHourN A i.toNat).1 (347 + i) = 0 := by
          intro y; rw [if_neg (by omega)] at z; omega
        rw [if_neg i1] at sN
        have := ih M1 ⟨(by omega), (by omega), h.2.2.1, by rw [sN]; exact h.2.2.2⟩
        rw [sN] at this; exact this
      · have i0 : (rHourN A i.toNat).1 (347 + i) = 0 := by
          rcases g.2.1 with y | y
          · exact y
          · rw [if_pos y] at z; exact absurd rfl z
        rw [if_pos i0] at sN
        refine c_goOn hb hL1 o1 h.2.2.2 ⟨h.1, (by omega)⟩ i0 (fun M2 m1 m2 => ?_)
        have gv := rGoes_v (rHourN A i.toNat).1 i i0
        have gs := (rGoes_ok hL1 o1 ⟨h.1, (by omega)⟩ i0).2.2.2.2.1 i h.1 (by rw [rGoes_at _ _ _ (by omega) (by omega) (by omega)]; omega)
        have hq2 := m2.2.2.2.2.1 i h.1 (by rw [rGoes_at _ _ _ (by omega) (by omega) (by omega)]; omega)
        have nx := ih M2 ⟨(by omega), (by omega), fun a ha => (m1 a ha).trans (h.2.2.1 a ha), by rw [sN]; exact m2⟩
        rw [sN] at nx
        rw [hq2.2.1]
        refine ⟨fun y => ?_, fun y => ⟨by split <;> exact (i32 (by omega) (by omega)), ?_⟩⟩
        · have i1 : rGoes (rHourN A i.toNat).1 i (347 + i) = 1 := by
            rcases gv.2 with q | q
            · rw [if_neg (by omega)] at y; omega
            · exact q
          rw [if_pos i1] at nx; exact nx
        · have i1 : ¬ rGoes (rHourN A i.toNat).1 i (347 + i) = 1 := by
            intro q; rw [if_pos q] at y; exact y rfl
          rw [if_neg i1] at nx
          rw [Int.add_zero]; exact nx
  exact QC.of qmX6_passHour_ok rfl (TX6_passHour_0 hb (key 0 M ⟨(by omega), (by omega), fun _ _ => rfl, hC⟩))
end Cls55
