abbrev cPair (b c : Int) : Prop := (b = 37 ∧ c = 27) ∨ (b = 27 ∧ c = 37) ∨ (b = 184 ∧ c = 27) ∨ (b = 205 ∧ c = 27) ∨ (b = 27 ∧ c = 184) ∨ (b = 27 ∧ c = 205) ∨ (b = 49 ∧ c = 27) ∨ (b = 59 ∧ c = 27) ∨ (b = 69 ∧ c = 27) ∨ (b = 79 ∧ c = 27) ∨ (b = 89 ∧ c = 27) ∨ (b = 99 ∧ c = 27) ∨ (b = 109 ∧ c = 27) ∨ (b = 119 ∧ c = 27) ∨ (b = 129 ∧ c = 27) ∨ (b = 139 ∧ c = 27) ∨ (b = 27 ∧ c = 49) ∨ (b = 27 ∧ c = 59) ∨ (b = 27 ∧ c = 69) ∨ (b = 27 ∧ c = 79) ∨ (b = 27 ∧ c = 89) ∨ (b = 27 ∧ c = 99) ∨ (b = 27 ∧ c = 109) ∨ (b = 27 ∧ c = 119) ∨ (b = 27 ∧ c = 129) ∨ (b = 27 ∧ c = 139)
section Cls54
variable {X : QX} {x : Int} {d : Nat} {post : Int → QMem → Prop} {M : QMem} {A : Int → Int} {b c : Int}
theorem c_copyOf (hb : cPair b c) (hC : cSt A c M) (hl : ∀ e, 0 ≤ e → e < 6 → 0 ≤ A (60 + e) ∧ A (60 + e) ≤ 16) (h3 : A 3 ≤ 6) (hT : A 330 ≤ 8) (hp : ∀ M1 : QMem, (∀ a, a < b ∨ b + 9 < a → M1 a = M a) → cSt A b M1 → post 0 M1) : QCm X x (d + 1) 0 yX6_copyOf [(2, b), (2, c)] M post := by
  have hd : c + 9 < b ∨ b + 9 < c := by unfold cPair at hb; omega
  have cp : ∀ (N : QMem) (i n : Int), 1 ≤ i → i ≤ 9 → (∀ a, a < b ∨ b + 9 < a → N a = M a) → (∀ a, a < b ∨ b + 9 < a → qcpy N (c + i) (b + i) 0 0 n a = M a) ∧ (∀ a, a ≠ b + i → qcpy N (c + i) (b + i) 0 0 n a = N a) ∧ (∀ q, 0 ≤ q → q < n → qcpy N (c + i) (b + i) 0 0 n (b + i) q = M (c + i) q) := by
    intro N i n i0 i1 ho
    have k : ∀ a, a ≠ b + i → qcpy N (c + i) (b + i) 0 0 n a = N a := fun a ha => by
      funext j; show (if _ then _ else _) = _; rw [if_neg (fun z => ha z.1)]
    refine ⟨fun a ha => (k a (by omega)).trans (ho a ha), k, fun q q0 q1 => ?_⟩
    show (if _ then _ else _) = _
    rw [if_pos ⟨rfl, q0, (by omega)⟩, ho (c + i) (by omega)]; congr 1; omega
  have up : ∀ (N : QMem) (i : Int), (∀ a, a < b ∨ b + 9 < a → N a = M a) → (∀ a, a < b ∨ b + 9 < a → qup N b i (N c i) a = M a) ∧ (∀ a, a ≠ b → qup N b i (N c i) a = N a) ∧ qup N b i (N c i) b i = M c i ∧ ∀ j, j ≠ i → qup N b i (N c i) b j = N b j := by
    intro N i ho
    refine ⟨fun a ha => (qup_row (by omega)).trans (ho a ha), fun a ha => qup_row ha, ?_, fun j hj => ?_⟩
    · rw [qup_at, if_pos rfl, ho c (by omega)]
    · rw [qup_at, if_neg hj]
  refine QC.of qmX6_copyOf_ok rfl ?_
  refine TX6_copyOf_0 hb ?_
  obtain ⟨o1, k1, v1⟩ := cp M 1 6 (by decide) (by decide) (fun _ _ => rfl)
  generalize qcpy M (c + 1) (b + 1) 0 0 6 = N1 at *
  refine TX6_copyOf_15 hb ?_
  obtain ⟨o2, k2, v2⟩ := cp N1 2 6 (by decide) (by decide) o1
  generalize qcpy N1 (c + 2) (b + 2) 0 0 6 = N2 at *
  refine TX6_copyOf_30 hb ?_
  obtain ⟨o3, k3, v3⟩ := cp N2 3 96 (by decide) (by decide) o2
  generalize qcpy N2 (c + 3) (b + 3) 0 0 96 = N3 at *
  refine TX6_copyOf_48 hb ?_
  obtain ⟨o4, k4, v4⟩ := cp N3 4 96 (by decide) (by decide) o3
  generalize qcpy N3 (c + 4) (b + 4) 0 0 96 = N4 at *
  refine TX6_copyOf_66 hb ?_
  obtain ⟨o5, k5, v5⟩ := cp N4 5 36 (by decide) (by decide) o4
  generalize qcpy N4 (c + 5) (b + 5) 0 0 36 = N5 at *
  refine TX6_copyOf_81 hb ?_
  obtain ⟨o6, k6, v6⟩ := cp N5 6 36 (by decide) (by decide) o5
  generalize qcpy N5 (c + 6) (b + 6) 0 0 36 = N6 at *
  refine TX6_copyOf_96 hb ?_
  obtain ⟨o7, k7, v7, w7⟩ := up N6 6 o6
  generalize qup N6 b 6 (N6 c 6) = N7 at *
  refine TX6_copyOf_104 hb ?_
  obtain ⟨o8, k8, v8⟩ := cp N7 7 8 (by decide) (by decide) o7
  generalize qcpy N7 (c + 7) (b + 7) 0 0 8 = N8 at *
  refine TX6_copyOf_119 hb ?_
  obtain ⟨o9, k9, v9⟩ := cp N8 8 8 (by decide) (by decide) o8
  generalize qcpy N8 (c + 8) (b + 8) 0 0 8 = N9 at *
  refine TX6_copyOf_134 hb ?_
  obtain ⟨o10, k10, v10⟩ := cp N9 9 8 (by decide) (by decide) o9
  generalize qcpy N9 (c + 9) (b + 9) 0 0 8 = N10 at *
  refine TX6_copyOf_149 hb ?_
  obtain ⟨o11, k11, v11, w11⟩ := up N10 10 o10
  generalize qup N10 b 10 (N10 c 10) = N11 at *
  refine TX6_copyOf_157 hb ?_
  obtain ⟨o12, k12, v12, w12⟩ := up N11 11 o11
  generalize qup N11 b 11 (N11 c 11) = N12 at *
  refine TX6_copyOf_165 hb (hp N12 o12 ?_)
  have f1 : N12 (b + 1) = N1 (b + 1) := by rw [k12 (b + 1) (by omega), k11 (b + 1) (by omega), k10 (b + 1) (by omega), k9 (b + 1) (by omega), k8 (b + 1) (by omega), k7 (b + 1) (by omega), k6 (b + 1) (by omega), k5 (b + 1) (by omega), k4 (b + 1) (by omega), k3 (b + 1) (by omega), k2 (b + 1) (by omega)]
  have f2 : N12 (b + 2) = N2 (b + 2) := by rw [k12 (b + 2) (by omega), k11 (b + 2) (by omega), k10 (b + 2) (by omega), k9 (b + 2) (by omega), k8 (b + 2) (by omega), k7 (b + 2) (by omega), k6 (b + 2) (by omega), k5 (b + 2) (by omega), k4 (b + 2) (by omega), k3 (b + 2) (by omega)]
  have f3 : N12 (b + 3) = N3 (b + 3) := by rw [k12 (b + 3) (by omega), k11 (b + 3) (by omega), k10 (b + 3) (by omega), k9 (b + 3) (by omega), k8 (b + 3) (by omega), k7 (b + 3) (by omega), k6 (b + 3) (by omega), k5 (b + 3) (by omega), k4 (b + 3) (by omega)]
  have f4 : N12 (b + 4) = N4 (b + 4) := by rw [k12 (b + 4) (by omega), k11 (b + 4) (by omega), k10 (b + 4) (by omega), k9 (b + 4) (by omega), k8 (b + 4) (by omega), k7 (b + 4) (by omega), k6 (b + 4) (by omega), k5 (b + 4) (by omega)]
  have f5 : N12 (b + 5) = N5 (b + 5) := by rw [k12 (b + 5) (by omega), k11 (b + 5) (by omega), k10 (b + 5) (by omega), k9 (b + 5) (by omega), k8 (b + 5) (by omega), k7 (b + 5) (by omega), k6 (b + 5) (by omega)]
  have f6 : N12 (b + 6) = N6 (b + 6) := by rw [k12 (b + 6) (by omega), k11 (b + 6) (by omega), k10 (b + 6) (by omega), k9 (b + 6) (by omega), k8 (b + 6) (by omega), k7 (b + 6) (by omega)]
  have f7 : N12 (b + 7) = N8 (b + 7) := by rw [k12 (b + 7) (by omega), k11 (b + 7) (by omega), k10 (b + 7) (by omega), k9 (b + 7) (by omega)]
  have f8 : N12 (b + 8) = N9 (b + 8) := by rw [k12 (b + 8) (by omega), k11 (b + 8) (by omega), k10 (b + 8) (by omega)]
  have f9 : N12 (b + 9) = N10 (b + 9) := by rw [k12 (b + 9) (by omega), k11 (b + 9) (by omega)]
  have g6 : N12 b 6 = M c 6 := by rw [w12 6 (by decide), w11 6 (by decide), k10 b (by omega), k9 b (by omega), k8 b (by omega), v7]
  have g10 : N12 b 10 = M c 10 := by rw [w12 10 (by decide), v11]
  have g11 : N12 b 11 = M c 11 := v12
  refine ⟨fun e e0 e1 => ?_, fun e e0 e1 => ?_, fun e i e0 e1 i0 i1 => ?_, fun k k0 k1 => ?_, fun t t0 t1 => ?_, ?_, ?_, ?_⟩
  · rw [f1, v1 e e0 e1]; exact hC.1 e e0 e1
  · rw [f2, v2 e e0 (by omega)]; exact hC.2.1 e e0 e1
  · have := hl e e0 e1
    rw [f3, f4, v3 _ (by omega) (by omega), v4 _ (by omega) (by omega)]; exact hC.2.2.1 e i e0 e1 i0 i1
  · rw [f5, f6, v5 k k0 k1, v6 k k0 k1]; exact hC.2.2.2.1 k k0 k1
  · rw [f7, f8, f9, v8 t t0 (by omega), v9 t t0 (by omega), v10 t t0 (by omega)]; exact hC.2.2.2.2.1 t t0 t1
  · rw [g6]; exact hC.2.2.2.2.2.1
  · rw [g10]; exact hC.2.2.2.2.2.2.1
  · rw [g11]; exact hC.2.2.2.2.2.2.2
end Cls54
section Cls54b
variable {X : QX} {x : Int} {d : Nat} {post : Int → QMem → Prop} {M : QMem} {A : Int → Int} {b : Int}
theorem cSt.off {k L e : Int} {M1 : QMem} (hC : cSt A b M) (h3 : A 3 ≤ 6) (hT : A 330 ≤ 8) (e6 : 0 ≤ e ∧ e < 6) (e3 : e < A 3) (hLL : A (60 + e) = L) (hkk : A (66 + 16 * e + L - 1) = k) (k36 : 0 ≤ k ∧ k < 36) (l16 : 1 ≤ L ∧ L ≤ 16) (hu : A (294 + k) = e) (hr : ∀ f, 0 ≤ f → f < 6 → 0 ≤ A (60 + f) ∧ A (60 + f) ≤ 16)
    (r0 : M1 b = M b) (r1 : M1 (b + 1) = aup (M (b + 1)) e (L - 1)) (r2 : M1 (b + 2) = aup (M (b + 2)) e (M (b + 2) e + M (b + 4) (16 * e + (L - 1)))) (r3 : M1 (b + 3) = M (b + 3)) (r4 : M1 (b + 4) = M (b + 4))
    (r5 : M1 (b + 5) = aup (M (b + 5)) k (M (b + 6) k)) (r6 : M1 (b + 6) = aup (M (b + 6)) k (-1)) (r7 : M1 (b + 7) = M (b + 7)) (r8 : M1 (b + 8) = M (b + 8)) (r9 : M1 (b + 9) = M (b + 9)) : cSt (rOff A e) b M1 := by
  have r := fun (j : Int) (hj : j < 54 ∨ 330 ≤ j) => rOff_rest (A := A) (e := e) e6 hLL hkk k36 l16 hj
  refine ⟨fun f f0 f1 => ?_, fun f f0 f1 => ?_, fun f i f0 f1 i0 i1 => ?_, fun q q0 q1 => ?_, fun t t0 t1 => ?_, ?_, ?_, ?_⟩
  · rw [r1, rOff_len e6 hLL hkk k36 l16 ⟨f0, f1⟩, aup]
    split
    · rfl
    · exact hC.1 f f0 f1
  · rw [r 3 (by omega)] at f1
    rw [r2, rOff_yard e6 hLL hkk k36 l16 ⟨f0, (by omega)⟩, aup]
    split
    · rename_i z; subst z
      rw [hC.2.1 f f0 f1, (hC.2.2.1 f (L - 1) e6.1 e6.2 (by omega) (by omega)).2, show 162 + 16 * f + (L - 1) = 162 + 16 * f + L - 1 by omega]
    · exact hC.2.1 f f0 f1
  · rw [rOff_len e6 hLL hkk k36 l16 ⟨f0, f1⟩] at i1
    have hlf := hr f f0 f1
    have i2 : i < A (60 + f) ∧ (f = e → i < L - 1) := by
      split at i1
      · rename_i y; subst y; omega
      · exact ⟨i1, fun z => absurd z (by omega)⟩
    rw [r3, r4, Int.add_assoc, Int.add_assoc, rOff_lies e6 hLL hkk k36 l16 (by omega), rOff_took e6 hLL hkk k36 l16 (by omega), if_neg (by omega), if_neg (by omega), ← Int.add_assoc, ← Int.add_assoc]
    exact hC.2.2.1 f i f0 f1 i0 i2.1
  · have := hC.2.2.2.1 q q0 q1
    have hk := hC.2.2.2.1 k k36.1 k36.2
    rw [r5, r6, rOff_up e6 hLL hkk k36 l16 hu ⟨q0, q1⟩, rOff_low e6 hLL hkk k36 l16 ⟨q0, q1⟩, aup, aup]
    by_cases z : q = k
    · rw [if_pos z, if_pos z, if_pos z, if_pos z]; exact ⟨hk.2, rfl⟩
    · rw [if_neg z, if_neg z, if_neg z, if_neg z]; exact this
  · rw [r 330 (by omega)] at t1
    rw [r7, r8, r9, r (331 + t) (by omega), r (347 + t) (by omega), r (339 + t) (by omega), r (355 + t) (by omega)]
    exact hC.2.2.2.2.1 t t0 t1
  · rw [r0, r 330 (by omega)]; exact hC.2.2.2.2.2.1
  · rw [r0, r 52 (by omega)]; exact hC.2.2.2.2.2.2.1
  · rw [r0, r 53 (by omega)]; exact hC.2.2.2.2.2.2.2
theorem c_liftLast (hb : b = 27 ∨ b = 37) (h : cOk A b M) {e : Int} (e3 : 0 ≤ e ∧ e < A 3) (hl : A (60 + e) ≠ 0) (hu : A (294 + rEnd A e) = e) (hp : ∀ M1, (∀ a, a < b ∨ b + 9 < a → M1 a = M a) → cSt (rOff A e) b M1 → post 0 M1) : QCm X x (d + 2) 0 yX6_liftLast [(2, b), (2, 17), (0, e)] M post := by
  have a3 := h.1.2.2.1
  have hcl := h.1.cells
  have hT := h.2.1.2.2.2.1
  have e6 : 0 ≤ e ∧ e < 6 := (by omega)
  have hl2 := h.2.1.2.1.1 e e6.1 e6.2
  have hE := rEnd_b h.1 h.2.1.2.1 e3.1 e3.2
  have eE : rEnd A e = A (66 + 16 * e + A (60 + e) - 1) := by rw [rEnd, if_neg hl]
  have ln : M (b + 1) e = A (60 + e) := h.2.2.2.1 e e6.1 e6.2
  refine QC.of qmX6_liftLast_ok rfl (TX6_liftLast_0 hb ?_)
  refine c_endOf hb h.1 h.2.1.2.1 h.2.2.1 h.2.2.2 e3 ?_
  simp only [qbd, qb0, qb1, qup_aup, aup, Int.reduceEq, reduceIte, ln, Int.mul_comm e 16]
  refine ⟨(by omega), (by omega), (by omega), (by omega), (by omega), (by omega), hp _ (fun a ha => ?_) (h.2.2.2.off (k := rEnd A e) (L := A (60 + e)) a3.2 hT.2 e6 e3.2 rfl eE.symm (by omega) (by omega) hu h.2.1.2.1.1 ?_ ?_ ?_ ?_ ?_ ?_ ?_ ?_ ?_ ?_)⟩
  · rw [qup_row (by omega), qup_row (by omega), qup_row (by omega), qup_row (by omega)]
  all_goals simp only [qbd, qb0, qb1, qup_aup, aup, Int.reduceEq, reduceIte]
theorem c_tryBack (hb : b = 27 ∨ b = 37) (h : cOk A b M) {e : Int} (he : in32 e) (h0 : rWhyBack A e = 0 → ∀ M1, (∀ a, a < b ∨ b + 9 < a → M1 a = M a) → cSt (rOff A e) b M1 → post 0 M1) (h1 : rWhyBack A e ≠ 0 → post (rWhyBack A e) M) : QCm X x (d + 3) 1 yX6_tryBack [(2, b), (2, 17), (0, e)] M post := by
  have wb := rWhyBack_b A e
  refine QC.of qmX6_tryBack_ok rfl (TX6_tryBack_0 hb (c_whyNotBack hb h he ⟨fun z => ?_, fun z => ⟨(i32 (by omega) (by omega)), h1 z⟩⟩))
  obtain ⟨z1, z2, z3, z4⟩ := rWhyBack_zero z
  rw [z]
  exact c_liftLast hb h z1 z2 z3 (fun M1 m1 m2 => h0 z M1 m1 m2)
theorem rHome_congr {A B : Int → Int} (he : ∀ j, (0 ≤ j ∧ j < 52) → B j = A j) (h3 : A 3 ≤ 6) (k : Int) : rHome B k ↔ rHome A k := by
  unfold rHome
  rw [he 3 (by omega)]
  constructor
  · intro ⟨e, e0, e1, e2⟩
    exact ⟨e, e0, e1, by rw [← he (46 + e) (by omega)]; exact e2⟩
  · intro ⟨e, e0, e1, e2⟩
    exact ⟨e, e0, e1, by rw [he (46 + e) (by omega)]; exact e2⟩
/-- the land is alike where the reference's land is -/
theorem cLand.land_eq {A B : Int → Int} {c : Int} {M : QMem} (h : cLand A c M) (hL : rLandOk A) (he : ∀ j, (0 ≤ j ∧ j < 52) ∨ 3475 ≤ j → B j = A j) : cLand B c M := by
  have hcl := hL.cells
  obtain ⟨⟨h0, h1, h2, h3, h4⟩, hk, hd, hw⟩ := h
  refine ⟨⟨by rw [he 1 (by omega)]; exact h0, by rw [he 2 (by omega)]; exact h1, by rw [he 3 (by omega)]; exact h2, ?_, by rw [he 0 (by omega)]; exact h4⟩, fun k k0 k1 => ?_, fun e e0 e1 => ?_, fun l hl => ?_⟩
  · rw [he 1 (by omega), he 2 (by omega), rSum_congr (fun i hi => he _ (by omega))]; exact h3
  · rw [he (10 + k) (by omega), rHome_congr (fun j hj => he j (by omega)) hL.2.2.1.2]; exact hk k k0 k1
  · rw [he 3 (by omega)] at e1
    have a3 := hL.2.2.1
    rw [he (46 + e) (by omega)]; exact hd e e0 e1
  · rw [he (4 + l) (by omega), he (8 + l) (by omega)]
    refine ⟨(hw l hl).1, fun z => ?_⟩
    have w := (hw l hl).2 z
    refine ⟨w.1, fun i hi => ?_⟩
    rcases hL.2.2.2.1 l hl with y | ⟨y, ok⟩
    · omega
    · have o1 := ok.1
      have : rCode B l i = rCode A l i := by rw [rCode, rCode, he (6 + l) (by omega), he _ (by omega)]
      rw [this]; exact w.2 i hi
theorem c_tryIn_loop (hb : b = 27 ∨ b = 37) {e : Int} {w : Int} : ∀ (n : Nat) {A : Int → Int} {M : QMem}, cOk A b M → 0 ≤ e ∧ e < A 3 → A (60 + e) = n → rFree A e → (∀ M1, (∀ a, a < b ∨ b + 9 < a → M1 a = M a) → cSt (rOffs A e n) b M1 → post w M1) → ∀ i : Int, 0 ≤ i → i + n ≤ 16 → QRm X x (d + 3) qmX6_tryIn post 14 [(0, (2, b)), (1, (2, 17)), (2, (0, e)), (3, (0, w)), (4, (0, i))] [] M := by
  intro n
  induction n with
  | zero =>
    intro A M h he hn hF hp i i0 i1
    have a3 := h.1.2.2.1
    have ln : M (b + 1) e = A (60 + e) := h.2.2.2.1 e (by omega) (by omega)
    refine TX6_tryIn_14 hb ?_
    rw [ln, hn]
    exact ⟨(i32 (by omega) (by omega)), fun z => hp M (fun _ _ => rfl) h.2.2.2, fun z => ⟨(by omega), (by omega), ⟨by decide, by decide⟩, fun _ => hp M (fun _ _ => rfl) h.2.2.2, fun y => absurd (by decide) y⟩⟩
  | succ n ih =>
    intro A M h he hn hF hp i i0 i1
    have a3 := h.1.2.2.1
    have ln : M (b + 1) e = A (60 + e) := h.2.2.2.1 e (by omega) (by omega)
    obtain ⟨o1, o2, o3, o4⟩ := hF.off h.1 h.2.1 he (by omega)
    refine TX6_tryIn_14 hb ?_
    rw [ln]
    refine ⟨(i32 (by omega) (by omega)), fun z => absurd z (by omega), fun z => ⟨(by omega), (by omega), (i32 (by omega) (by omega)), fun y => absurd y (by omega), fun _ => ?_⟩⟩
    have hu := hF.1 (A (60 + e) - 1) (by omega) (by omega)
    rw [show 66 + 16 * e + (A (60 + e) - 1) = 66 + 16 * e + A (60 + e) - 1 by omega] at hu
    refine c_liftLast hb h he (by omega) (by rw [rEnd, if_neg (by omega)]; exact hu) (fun M1 m1 m2 => ?_)
    exact ih ⟨h.1.congr (fun j hj => o4 j (by omega)), o1, (h.2.2.1.congr (fun a ha => m1 a (by omega))).land_eq h.1 (fun j hj => o4 j (by omega)), m2⟩ (by rw [o4 3 (by omega)]; exact he) (by rw [o3]; omega) o2 (fun M2 n1 n2 => hp M2 (fun a ha => (n1 a ha).trans (m1 a ha)) n2) (i + 1) (by omega) (by omega)
end Cls54b
