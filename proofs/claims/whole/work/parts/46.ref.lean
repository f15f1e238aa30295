theorem UX11_goes_0 {X : QX} {x : Int} {d : Nat} {post : Int → QMem → Prop} {M : QMem} {v1 : Int} (t : (0 : Int) ≤ 331 + v1 ∧ (331 + v1 < 13125 ∧ ((0 : Int) ≤ 339 + v1 ∧ (339 + v1 < 13125 ∧ ((0 : Int) ≤ 60 + (M 216 (331 + v1)) ∧ (60 + (M 216 (331 + v1)) < 13125 ∧ (in32 ((M 216 (339 + v1)) + 1) ∧ in32 (M 216 (60 + (M 216 (331 + v1)))) ∧ (M 216 (60 + (M 216 (331 + v1))) ≤ (M 216 (339 + v1)) + 1 → (QRm X x (d + 1) qmX11_goes post 63 [(0, (2, 215)), (1, (0, v1)), (2, (0, M 216 (331 + v1))), (3, (0, (M 216 (339 + v1)) + 1))] [] M)) ∧ (¬ M 216 (60 + (M 216 (331 + v1))) ≤ (M 216 (339 + v1)) + 1 → ((0 : Int) ≤ (66 + (16 * (M 216 (331 + v1)))) + ((M 216 (339 + v1)) + 1) ∧ ((66 + (16 * (M 216 (331 + v1)))) + ((M 216 (339 + v1)) + 1) < 13125 ∧ (QCm X x d 1 yX11_goerOn [(2, 215), (0, M 216 ((66 + (16 * (M 216 (331 + v1)))) + ((M 216 (339 + v1)) + 1)))] M (fun x1 M1 => (x1 = (-1) → (QRm X x (d + 1) qmX11_goes post 64 [(0, (2, 215)), (1, (0, v1)), (2, (0, M 216 (331 + v1))), (3, (0, (M 216 (339 + v1)) + 1))] [(0, 1)] M1)) ∧ (¬ x1 = (-1) → in32 x1 ∧ (QRm X x (d + 1) qmX11_goes post 63 [(0, (2, 215)), (1, (0, v1)), (2, (0, M 216 (331 + v1))), (3, (0, (M 216 (339 + v1)) + 1))] [] M1)))))))))))))) : QRm X x (d + 1) qmX11_goes post 0 [(0, (2, 215)), (1, (0, v1))] [] M := qwp_ok qmX11_goes_ok.1 [(63, [0, 1, 2, 3]), (64, [0, 1, 2, 3]), (82, [0, 1, 2, 4]), (133, [0, 1, 4]), (152, [0, 1]), (171, [])] 107 (⟨rfl, ⟨rfl, ⟨t.1, ⟨t.2.1, ⟨rfl, ⟨rfl, ⟨t.2.2.1, ⟨t.2.2.2.1, ⟨rfl, ⟨rfl, ⟨t.2.2.2.2.1, ⟨t.2.2.2.2.2.1, ⟨t.2.2.2.2.2.2.1, t.2.2.2.2.2.2.2.1, fun z1 => (t.2.2.2.2.2.2.2.2.1 z1), fun z1 => ⟨rfl, ⟨rfl, ⟨(t.2.2.2.2.2.2.2.2.2 z1).1, ⟨(t.2.2.2.2.2.2.2.2.2 z1).2.1, ⟨rfl, QC.mono ((t.2.2.2.2.2.2.2.2.2 z1).2.2) (fun x1 h1 u2 => by obtain ⟨M1, rfl, u2⟩ := u2; exact ⟨fun z3 => ⟨(u2.2 z3).1, (show in32 (-1) from ⟨by decide, by decide⟩), (u2.2 z3).2⟩, fun z3 => (u2.1 z3)⟩)⟩⟩⟩⟩⟩⟩⟩⟩⟩⟩⟩⟩⟩⟩⟩⟩⟩⟩)
theorem UX11_goes_63 {X : QX} {x : Int} {d : Nat} {post : Int → QMem → Prop} {M : QMem} {v1 v2 v3 : Int} (t : QRm X x (d + 1) qmX11_goes post 64 [(0, (2, 215)), (1, (0, v1)), (2, (0, v2)), (3, (0, v3))] [(0, 0)] M) : QRm X x (d + 1) qmX11_goes post 63 [(0, (2, 215)), (1, (0, v1)), (2, (0, v2)), (3, (0, v3))] [] M := qwp_ok qmX11_goes_ok.1 [(63, [0, 1, 2, 3]), (64, [0, 1, 2, 3]), (82, [0, 1, 2, 4]), (133, [0, 1, 4]), (152, [0, 1]), (171, [])] 107 (t)
theorem UX11_goes_64 {X : QX} {x : Int} {d : Nat} {post : Int → QMem → Prop} {M : QMem} {v1 v2 v3 s0 : Int} (t : (s0 = 0 → (QRm X x (d + 1) qmX11_goes post 82 [(0, (2, 215)), (1, (0, v1)), (2, (0, v2)), (4, (0, s0))] [] M)) ∧ (¬ s0 = 0 → in32 s0 ∧ ((0 : Int) ≤ 339 + v1 ∧ (339 + v1 < 13125 ∧ (QRm X x (d + 1) qmX11_goes post 82 [(0, (2, 215)), (1, (0, v1)), (2, (0, v2)), (4, (0, s0))] [] (qup M 216 (339 + v1) v3)))))) : QRm X x (d + 1) qmX11_goes post 64 [(0, (2, 215)), (1, (0, v1)), (2, (0, v2)), (3, (0, v3))] [(0, s0)] M := qwp_ok qmX11_goes_ok.1 [(63, [0, 1, 2, 3]), (64, [0, 1, 2, 3]), (82, [0, 1, 2, 4]), (133, [0, 1, 4]), (152, [0, 1]), (171, [])] 107 (⟨fun z1 => (t.1 z1), fun z1 => ⟨(t.2 z1).1, (show in32 0 from ⟨by decide, by decide⟩), ⟨rfl, ⟨rfl, ⟨(t.2 z1).2.1, ⟨(t.2 z1).2.2.1, (t.2 z1).2.2.2⟩⟩⟩⟩⟩⟩)
theorem UX11_goes_82 {X : QX} {x : Int} {d : Nat} {post : Int → QMem → Prop} {M : QMem} {v1 v2 v4 : Int} (t : (0 : Int) ≤ 339 + v1 ∧ (339 + v1 < 13125 ∧ (in32 (M 216 (339 + v1)) ∧ (M 216 (339 + v1) < 0 → (QRm X x (d + 1) qmX11_goes post 133 [(0, (2, 215)), (1, (0, v1)), (4, (0, v4))] [] M)) ∧ (¬ M 216 (339 + v1) < 0 → ((0 : Int) ≤ 60 + v2 ∧ (60 + v2 < 13125 ∧ ((M 216 (339 + v1) = (M 216 (60 + v2)) - 1 → ((0 : Int) ≤ 347 + v1 ∧ (347 + v1 < 13125 ∧ (QRm X x (d + 1) qmX11_goes post 152 [(0, (2, 215)), (1, (0, v1))] [] (qup M 216 (347 + v1) 1))))) ∧ (¬ M 216 (339 + v1) = (M 216 (60 + v2)) - 1 → in32 ((M 216 (60 + v2)) - 1) ∧ (QRm X x (d + 1) qmX11_goes post 133 [(0, (2, 215)), (1, (0, v1)), (4, (0, v4))] [] M))))))))) : QRm X x (d + 1) qmX11_goes post 82 [(0, (2, 215)), (1, (0, v1)), (2, (0, v2)), (4, (0, v4))] [] M := qwp_ok qmX11_goes_ok.1 [(63, [0, 1, 2, 3]), (64, [0, 1, 2, 3]), (82, [0, 1, 2, 4]), (133, [0, 1, 4]), (152, [0, 1]), (171, [])] 107 (⟨rfl, ⟨rfl, ⟨t.1, ⟨t.2.1, ⟨t.2.2.1, (show in32 0 from ⟨by decide, by decide⟩), fun z1 => (t.2.2.2.1 z1), fun z1 => ⟨rfl, ⟨rfl, ⟨t.1, ⟨t.2.1, ⟨rfl, ⟨rfl, ⟨(t.2.2.2.2 z1).1, ⟨(t.2.2.2.2 z1).2.1, ⟨fun z2 => ⟨t.2.2.1, ((t.2.2.2.2 z1).2.2.2 z2).1, ((t.2.2.2.2 z1).2.2.2 z2).2⟩, fun z2 => ⟨rfl, ⟨rfl, ⟨((t.2.2.2.2 z1).2.2.1 z2).1, ⟨((t.2.2.2.2 z1).2.2.1 z2).2.1, ((t.2.2.2.2 z1).2.2.1 z2).2.2⟩⟩⟩⟩⟩⟩⟩⟩⟩⟩⟩⟩⟩⟩⟩⟩⟩⟩)
theorem UX11_goes_133 {X : QX} {x : Int} {d : Nat} {post : Int → QMem → Prop} {M : QMem} {v1 v4 : Int} (t : (v4 = 0 → ((0 : Int) ≤ 355 + v1 ∧ (355 + v1 < 13125 ∧ (QRm X x (d + 1) qmX11_goes post 152 [(0, (2, 215)), (1, (0, v1))] [] (qup M 216 (355 + v1) ((M 216 (355 + v1)) + 1)))))) ∧ (¬ v4 = 0 → in32 v4 ∧ (QRm X x (d + 1) qmX11_goes post 152 [(0, (2, 215)), (1, (0, v1))] [] M))) : QRm X x (d + 1) qmX11_goes post 133 [(0, (2, 215)), (1, (0, v1)), (4, (0, v4))] [] M := qwp_ok qmX11_goes_ok.1 [(63, [0, 1, 2, 3]), (64, [0, 1, 2, 3]), (82, [0, 1, 2, 4]), (133, [0, 1, 4]), (152, [0, 1]), (171, [])] 107 (⟨fun z1 => ⟨(t.2 z1).1, (show in32 0 from ⟨by decide, by decide⟩), (t.2 z1).2⟩, fun z1 => ⟨rfl, ⟨rfl, ⟨(t.1 z1).1, ⟨(t.1 z1).2.1, ⟨rfl, ⟨(t.1 z1).1, ⟨(t.1 z1).2.1, (t.1 z1).2.2⟩⟩⟩⟩⟩⟩⟩⟩)
theorem UX11_goes_152 {X : QX} {x : Int} {d : Nat} {post : Int → QMem → Prop} {M : QMem} {v1 : Int} (t : (0 : Int) ≤ 347 + v1 ∧ (347 + v1 < 13125 ∧ ((M 216 (347 + v1) = 1 → (QRm X x (d + 1) qmX11_goes post 171 [] [(0, 1)] M)) ∧ (¬ M 216 (347 + v1) = 1 → in32 (M 216 (347 + v1)) ∧ (QRm X x (d + 1) qmX11_goes post 171 [] [(0, 0)] M))))) : QRm X x (d + 1) qmX11_goes post 152 [(0, (2, 215)), (1, (0, v1))] [] M := qwp_ok qmX11_goes_ok.1 [(63, [0, 1, 2, 3]), (64, [0, 1, 2, 3]), (82, [0, 1, 2, 4]), (133, [0, 1, 4]), (152, [0, 1]), (171, [])] 107 (⟨rfl, ⟨rfl, ⟨t.1, ⟨t.2.1, ⟨fun z1 => ⟨(t.2.2.2 z1).1, (show in32 1 from ⟨by decide, by decide⟩), (t.2.2.2 z1).2⟩, fun z1 => (t.2.2.1 z1)⟩⟩⟩⟩⟩)
theorem UX11_goes_171 {X : QX} {x : Int} {d : Nat} {post : Int → QMem → Prop} {M : QMem} {s0 : Int} (t : (s0 = 0 ∨ s0 = 1) ∧ (post s0 M)) : QRm X x (d + 1) qmX11_goes post 171 [] [(0, s0)] M := qwp_ok qmX11_goes_ok.1 [(63, [0, 1, 2, 3]), (64, [0, 1, 2, 3]), (82, [0, 1, 2, 4]), (133, [0, 1, 4]), (152, [0, 1]), (171, [])] 107 (⟨t.1, ⟨_, rfl, t.2⟩⟩)
/-- one number of a row is changed -/
def aup (A : Int → Int) (i v : Int) : Int → Int := fun j => if j = i then v else A j
theorem qup_aup (M : QMem) (a i v : Int) : qup M a i v a = aup (M a) i v := by
  funext j; rw [qup_at]; rfl
theorem aup_self (A : Int → Int) (i v : Int) : aup A i v i = v := if_pos rfl
theorem aup_ne {A : Int → Int} {i v j : Int} (h : j ≠ i) : aup A i v j = A j := if_neg h
/-- a ribbon is laid on to cell k, which takes c -/
def rLays (A : Int → Int) (e k c o : Int) : Int → Int := fun j => if j = 66 + 16 * e + A (60 + e) then k else if j = 162 + 16 * e + A (60 + e) then c else if j = 54 + e then A (54 + e) - c else if j = 60 + e then A (60 + e) + 1 else if j = 258 + k then (if o ≠ 0 ∨ A (294 + k) = -1 then A (294 + k) else e) else if j = 294 + k then (if o ≠ 0 ∨ A (294 + k) = -1 then e else A (294 + k)) else A j
/-- the last cell of a ribbon is taken up -/
def rOff (A : Int → Int) (e : Int) : Int → Int := fun j => if j = 60 + e then A (60 + e) - 1 else if j = 54 + e then A (54 + e) + A (162 + 16 * e + A (60 + e) - 1) else if j = 294 + A (66 + 16 * e + A (60 + e) - 1) then (if A (294 + A (66 + 16 * e + A (60 + e) - 1)) = e then A (258 + A (66 + 16 * e + A (60 + e) - 1)) else A (294 + A (66 + 16 * e + A (60 + e) - 1))) else if j = 258 + A (66 + 16 * e + A (60 + e) - 1) then -1 else if j = 66 + 16 * e + A (60 + e) - 1 then 0 else if j = 162 + 16 * e + A (60 + e) - 1 then 0 else A j
def rOffs (A : Int → Int) (e : Int) : Nat → (Int → Int)
  | 0 => A
  | n + 1 => rOffs (rOff A e) e n
def rOut (A : Int → Int) (e : Int) : Int → Int := fun j => if j = 330 then A 330 + 1 else if j = 331 + A 330 then e else if j = 339 + A 330 then -1 else if j = 347 + A 330 then 0 else if j = 355 + A 330 then 0 else A j
/-- traveller t goes on -/
def rWent (A : Int → Int) (t : Int) : Prop := A (339 + t) + 1 < A (60 + A (331 + t)) ∧ ∀ u, 0 ≤ u → u < A 330 → ¬ rOn A (A (66 + 16 * A (331 + t) + (A (339 + t) + 1))) u
noncomputable def rStep (A : Int → Int) (t : Int) : Int → Int := by
  classical
  exact if rWent A t then aup A (339 + t) (A (339 + t) + 1) else A
noncomputable def rGoes (A : Int → Int) (t : Int) : Int → Int := by
  classical
  exact if 0 ≤ rStep A t (339 + t) ∧ rStep A t (339 + t) = A (60 + A (331 + t)) - 1 then aup (rStep A t) (347 + t) 1 else if rWent A t then rStep A t else aup (rStep A t) (355 + t) (A (355 + t) + 1)
noncomputable def rHourN (A : Int → Int) : Nat → (Int → Int) × Int
  | 0 => (A, 0)
  | n + 1 => if (rHourN A n).1 (347 + n) = 0 then (rGoes (rHourN A n).1 n, if rGoes (rHourN A n).1 n (347 + n) = 1 then (rHourN A n).2 + 1 else (rHourN A n).2) else rHourN A n
noncomputable def rHour (A : Int → Int) : (Int → Int) × Int := (aup (rHourN A (A 330).toNat).1 53 ((rHourN A (A 330).toNat).1 53 + 1), (rHourN A (A 330).toNat).2)
def rNote (A W : Int → Int) : Int → Int := fun j => if A 363 = 10 then (if 364 ≤ j ∧ j < 3163 then A (j + 311) else if 3163 ≤ j ∧ j < 3474 then W (j - 3163) else A j) else if 364 + 311 * A 363 ≤ j ∧ j < 364 + 311 * A 363 + 311 then W (j - (364 + 311 * A 363)) else if j = 363 then A 363 + 1 else A j
section Ref46
variable {X : QX} {x : Int} {d : Nat} {post : Int → QMem → Prop} {M : QMem}
theorem m_lays (hL : rLandOk (M 216)) (hS : rStOk (M 216)) {e t o : Int} (he : 0 ≤ e ∧ e < M 216 3) (ht : 1 ≤ t ∧ t ≤ 4) (ho : in32 o) (hk : rBeside (M 216) (rEnd (M 216) e) t ≠ -1) (hl : M 216 (60 + e) ≠ 16)
    (hp : ∀ M1 : QMem, (∀ a, a ≠ 216 → a ≠ 220 → a ≠ 221 → a ≠ 23 → a ≠ 26 → M1 a = M a) → M1 216 = rLays (M 216) e (rBeside (M 216) (rEnd (M 216) e) t) (rCost (M 216) e (rBeside (M 216) (rEnd (M 216) e) t)) o → post 0 M1) : QCm X x (d + 3) 0 yX11_lays [(2, 215), (0, e), (0, t), (0, o)] M post := by
  have a3 := hL.2.2.1
  have hcl := hL.cells
  have hll := hS.2.1.1 e he.1 (by omega)
  have hE := rEnd_b hL hS.2.1 he.1 he.2
  have hB := rBeside_b (t := t) hL hE
  refine QC.of qmX11_lays_ok rfl (TX11_lays_0 ?_)
  refine m_endOf (by omega) hll (m_beside (by omega) (i32 (by omega) (by omega)) hL.1 hL.2.1 ?_)
  generalize hkk : rBeside (M 216) (rEnd (M 216) e) t = k at *
  have hc := hS.2.2.1 k (by omega) (by omega)
  refine m_costOf hL hS (by omega) (by omega) (fun M3 h3 => ?_)
  have e3 : M3 216 = M 216 := h3 216 (by decide) (by decide) (by decide) (by decide)
  generalize hcc : rCost (M 216) e k = c at *
  generalize hA : M 216 = A at *
  simp only [qup_at, e3]
  have n1 : (54 + e = 162 + (16 * e + A (60 + e))) = False := eq_false (by omega)
  have n2 : (54 + e = 66 + (16 * e + A (60 + e))) = False := eq_false (by omega)
  have n3 : (60 + e = 54 + e) = False := eq_false (by omega)
  have n4 : (60 + e = 162 + (16 * e + A (60 + e))) = False := eq_false (by omega)
  have n5 : (60 + e = 66 + (16 * e + A (60 + e))) = False := eq_false (by omega)
  have n6 : (294 + k = 60 + e) = False := eq_false (by omega)
  have n7 : (294 + k = 54 + e) = False := eq_false (by omega)
  have n8 : (294 + k = 162 + (16 * e + A (60 + e))) = False := eq_false (by omega)
  have n9 : (294 + k = 66 + (16 * e + A (60 + e))) = False := eq_false (by omega)
  have m1 : 66 + (16 * e + A (60 + e)) = 66 + 16 * e + A (60 + e) := by omega
  have m2 : 162 + (16 * e + A (60 + e)) = 162 + 16 * e + A (60 + e) := by omega
  simp only [n1, n2, n3, n4, n5, n6, n7, n8, n9, if_false]
  refine ⟨(by omega), (by omega), (by omega), (by omega), (by omega), (by omega), (by omega), (by omega), fun z => ⟨(by omega), (by omega), fun y => ⟨(by omega), (by omega), hp _ (fun a q1 q2 q3 q4 q5 => ?_) ?_⟩, fun y => ⟨(i32 (by omega) (by omega)), (by omega), (by omega), hp _ (fun a q1 q2 q3 q4 q5 => ?_) ?_⟩⟩, fun z => ⟨ho, (by omega), (by omega), (by omega), (by omega), hp _ (fun a q1 q2 q3 q4 q5 => ?_) ?_⟩⟩
  · simp only [qup_row q1]; exact h3 a q2 q3 q4 q5
  · funext j
    simp only [qup_at, e3, rLays, m1, m2]
    repeat' split
    all_goals first | rfl | (exfalso; omega) | (subst_vars; rfl) | omega
  · simp only [qup_row q1]; exact h3 a q2 q3 q4 q5
  · funext j
    simp only [qup_at, e3, rLays, m1, m2]
    repeat' split
    all_goals first | rfl | (exfalso; omega) | (subst_vars; rfl) | omega
  · simp only [qup_row q1]; exact h3 a q2 q3 q4 q5
  · funext j
    simp only [qup_at, e3, rLays, m1, m2]
    repeat' split
    all_goals first | rfl | (exfalso; omega) | (subst_vars; rfl) | omega
theorem m_takesOff {e : Int} (he : 0 ≤ e ∧ e < 6) (hl : 0 < M 216 (60 + e) ∧ M 216 (60 + e) ≤ 16) (hk : 0 ≤ M 216 (66 + 16 * e + M 216 (60 + e) - 1) ∧ M 216 (66 + 16 * e + M 216 (60 + e) - 1) < 36) (h32 : in32 (M 216 (294 + M 216 (66 + 16 * e + M 216 (60 + e) - 1))))
    (hp : ∀ M1 : QMem, (∀ a, a ≠ 216 → M1 a = M a) → M1 216 = rOff (M 216) e → post 0 M1) : QCm X x d 0 yX11_takesOff [(2, 215), (0, e)] M post := by
  refine QC.of qmX11_takesOff_ok rfl (TX11_takesOff_0 ?_)
  generalize hA : M 216 = A at *
  simp only [qup_at, hA, if_true]
  have m1 : 66 + (16 * e + (A (60 + e) - 1)) = 66 + 16 * e + A (60 + e) - 1 := by omega
  have m2 : 162 + (16 * e + (A (60 + e) - 1)) = 162 + 16 * e + A (60 + e) - 1 := by omega
  simp only [m1, m2]
  have n1 : (66 + 16 * e + A (60 + e) - 1 = 60 + e) = False := eq_false (by omega)
  have n2 : (54 + e = 60 + e) = False := eq_false (by omega)
  have n3 : (162 + 16 * e + A (60 + e) - 1 = 60 + e) = False := eq_false (by omega)
  simp only [n1, n2, n3, if_false]
  generalize hkk : A (66 + 16 * e + A (60 + e) - 1) = k at *
  have n4 : (294 + k = 60 + e) = False := eq_false (by omega)
  have n5 : (294 + k = 54 + e) = False := eq_false (by omega)
  have n6 : (258 + k = 60 + e) = False := eq_false (by omega)
  have n7 : (258 + k = 54 + e) = False := eq_false (by omega)
  simp only [n4, n5, n6, n7, if_false]
  refine ⟨(by omega), (by omega), (by omega), (by omega), (by omega), (by omega), (by omega), (by omega), (by omega), (by omega), fun z => ⟨(by omega), (by omega), hp _ (fun a q1 => ?_) ?_⟩, fun z => ⟨h32, (i32 (by omega) (by omega)), (by omega), (by omega), hp _ (fun a q1 => ?_) ?_⟩⟩
  · simp only [qup_row q1]
  · funext j
    simp only [qup_at, hA, rOff, hkk]
    repeat' split
    all_goals first | rfl | (exfalso; omega) | (subst_vars; rfl) | omega
  · simp only [qup_row q1]
  · funext j
    simp only [qup_at, hA, rOff, hkk]
    repeat' split
    all_goals first | rfl | (exfalso; omega) | (subst_vars; rfl) | omega
theorem m_setsOut {e : Int} (hT : 0 ≤ M 216 330 ∧ M 216 330 < 8) (hp : ∀ M1 : QMem, (∀ a, a ≠ 216 → M1 a = M a) → M1 216 = rOut (M 216) e → post 0 M1) : QCm X x d 0 yX11_setsOut [(2, 215), (0, e)] M post := by
  refine QC.of qmX11_setsOut_ok rfl (TX11_setsOut_0 ⟨(by omega), (by omega), (by omega), (by omega), (by omega), (by omega), (by omega), (by omega), hp _ (fun a q1 => ?_) ?_⟩)
  · simp only [qup_row q1]
  · funext j
    simp only [qup_at, rOut]
    repeat' split
    all_goals first | rfl | (exfalso; omega)
theorem m_keeps (hp : ∀ M1 : QMem, (∀ a, a ≠ 222 → M1 a = M a) → (∀ j, 0 ≤ j → j < 311 → M1 222 j = M 216 (52 + j)) → post 0 M1) : QCm X x d 0 yX11_keeps [(2, 215)] M post := by
  have key : ∀ i : Int, ∀ M1 : QMem, 0 ≤ i ∧ i ≤ 311 ∧ (∀ a, a ≠ 222 → M1 a = M a) ∧ (∀ j, 0 ≤ j → j < i → M1 222 j = M 216 (52 + j)) → QRm X x d qmX11_keeps post 2 [(0, (2, 215)), (1, (0, i))] [] M1 := by
    refine int_up 311 (fun i hi M1 h => ?_) (fun i hi ih M1 h => ?_)
    · exact TX11_keeps_2 ⟨(i32 (by omega) (by omega)), fun _ => hp M1 h.2.2.1 (fun j j0 j1 => h.2.2.2 j j0 (by omega)), fun z => absurd hi (by omega)⟩
    · refine TX11_keeps_2 ⟨(i32 (by omega) (by omega)), fun z => absurd hi (by omega), fun _ => ⟨(by omega), (by omega), (by omega), (by omega), ih _ ⟨(by omega), (by omega), fun a ha => ?_, fun j j0 j1 => ?_⟩⟩⟩
      · rw [qup_row ha]; exact h.2.2.1 a ha
      · rw [qup_at]; split
        · rename_i z; subst z; rw [h.2.2.1 216 (by decide)]
        · exact h.2.2.2 j j0 (by omega)
  exact QC.of qmX11_keeps_ok rfl (TX11_keeps_0 (key 0 M ⟨(by omega), (by omega), fun _ _ => rfl, fun j j0 j1 => (by omega)⟩))
theorem m_isAgain (hp : ∀ M1 : QMem, (∀ a, a ≠ 216 → M1 a = M a) → (∀ j, (j < 52 ∨ 363 ≤ j) → M1 216 j = M 216 j) → (∀ j, 0 ≤ j → j < 311 → M1 216 (52 + j) = M 222 j) → post 0 M1) : QCm X x d 0 yX11_isAgain [(2, 215)] M post := by
  have key : ∀ i : Int, ∀ M1 : QMem, 0 ≤ i ∧ i ≤ 311 ∧ (∀ a, a ≠ 216 → M1 a = M a) ∧ (∀ j, (j < 52 ∨ 363 ≤ j) → M1 216 j = M 216 j) ∧ (∀ j, 0 ≤ j → j < i → M1 216 (52 + j) = M 222 j) → QRm X x d qmX11_isAgain post 2 [(0, (2, 215)), (1, (0, i))] [] M1 := by
    refine int_up 311 (fun i hi M1 h => ?_) (fun i hi ih M1 h => ?_)
    · exact TX11_isAgain_2 ⟨(i32 (by omega) (by omega)), fun _ => hp M1 h.2.2.1 h.2.2.2.1 (fun j j0 j1 => h.2.2.2.2 j j0 (by omega)), fun z => absurd hi (by omega)⟩
    · refine TX11_isAgain_2 ⟨(i32 (by omega) (by omega)), fun z => absurd hi (by omega), fun _ => ⟨(by omega), (by omega), (by omega), (by omega), ih _ ⟨(by omega), (by omega), fun a ha => ?_, fun j hj => ?_, fun j j0 j1 => ?_⟩⟩⟩
      · rw [qup_row ha]; exact h.2.2.1 a ha
      · rw [qup_at, if_neg (by omega)]; exact h.2.2.2.1 j hj
      · rw [qup_at]; split
        · rw [show j = i by omega, h.2.2.1 222 (by decide)]
        · exact h.2.2.2.2 j j0 (by omega)
  exact QC.of qmX11_isAgain_ok rfl (TX11_isAgain_0 (key 0 M ⟨(by omega), (by omega), fun _ _ => rfl, fun _ _ => rfl, fun j j0 j1 => (by omega)⟩))
theorem m_notes (hN : 0 ≤ M 216 363 ∧ M 216 363 ≤ 10) (hp : ∀ M1 : QMem, (∀ a, a ≠ 216 → M1 a = M a) → M1 216 = rNote (M 216) (M 222) → post 0 M1) : QCm X x d 0 yX11_notes [(2, 215)] M post := by
  have key2 : ∀ (N : Int) (B : Int → Int), 0 ≤ N ∧ N < 10 → ((aup (fun j => if 364 + 311 * N ≤ j ∧ j < 364 + 311 * N + 311 then M 222 (j - (364 + 311 * N)) else B j) 363 (N + 1)) = rNote (M 216) (M 222)) → B 363 = N → ∀ i : Int, ∀ M1 : QMem, 0 ≤ i ∧ i ≤ 311 ∧ (∀ a, a ≠ 216 → M1 a = M a) ∧ (∀ j, M1 216 j = if 364 + 311 * N ≤ j ∧ j < 364 + 311 * N + i then M 222 (j - (364 + 311 * N)) else B j) → QRm X x d qmX11_notes post 62 [(0, (2, 215)), (1, (0, i))] [] M1 := by
    intro N B hN hR hB
    refine int_up 311 (fun i hi M1 h => ?_) (fun i hi ih M1 h => ?_)
    · have e : M1 216 363 = N := by rw [h.2.2.2, if_neg (by omega), hB]
      refine TX11_notes_62 ⟨(i32 (by omega) (by omega)), fun _ => hp _ (fun a ha => by rw [qup_row ha]; exact h.2.2.1 a ha) ?_, fun z => absurd hi (by omega)⟩
      rw [← hR, qup_aup, e]
      congr 1
      funext j
      rw [h.2.2.2, show i = 311 by omega]
    · have e : M1 216 363 = N := by rw [h.2.2.2, if_neg (by omega), hB]
      refine TX11_notes_62 ⟨(i32 (by omega) (by omega)), fun z => absurd hi (by omega), fun _ => ⟨(by omega), (by omega), (by omega), (by omega), ih _ ⟨(by omega), (by omega), fun a ha => by rw [qup_row ha]; exact h.2.2.1 a ha, fun j => ?_⟩⟩⟩
      rw [qup_at, e, h.2.2.1 222 (by decide), h.2.2.2]
      split
      · rename_i z; rw [if_pos (by omega), z]; congr 1; omega
      · split
        · rw [if_pos (by omega)]
        · rw [if_neg (by omega)]
  refine QC.of qmX11_notes_ok rfl (TX11_notes_0 ⟨fun z => ?_, fun z => ⟨(i32 (by omega) (by omega)), ?_⟩⟩)
  · have key1 : ∀ i : Int, ∀ M1 : QMem, 0 ≤ i ∧ i ≤ 2799 ∧ (∀ a, a ≠ 216 → M1 a = M a) ∧ (∀ j, M1 216 j = if 364 ≤ j ∧ j < 364 + i then M 216 (j + 311) else M 216 j) → QRm X x d qmX11_notes post 15 [(0, (2, 215)), (1, (0, i))] [] M1 := by
      refine int_up 2799 (fun i hi M1 h => ?_) (fun i hi ih M1 h => ?_)
      · have e : M1 216 363 = 10 := by rw [h.2.2.2, if_neg (by omega), z]
        refine TX11_notes_15 ⟨(i32 (by omega) (by omega)), fun _ => ?_, fun z => absurd hi (by omega)⟩
        refine key2 9 (fun j => if j = 363 then 9 else if 364 ≤ j ∧ j < 3163 then M 216 (j + 311) else M 216 j) (by omega) ?_ rfl 0 _ ⟨(by omega), (by omega), fun a ha => by rw [qup_row ha]; exact h.2.2.1 a ha, fun j => ?_⟩
        · funext j
          unfold aup rNote
          dsimp only
          rw [if_pos z]
          repeat' split
          all_goals first | rfl | (exfalso; omega) | (congr 1; omega) | omega | (subst_vars; omega)
        · rw [qup_at, e, h.2.2.2, show i = 2799 by omega]
          repeat' split
          all_goals first | rfl | (exfalso; omega) | omega
      · refine TX11_notes_15 ⟨(i32 (by omega) (by omega)), fun z => absurd hi (by omega), fun _ => ⟨(by omega), (by omega), (by omega), (by omega), ih _ ⟨(by omega), (by omega), fun a ha => by rw [qup_row ha]; exact h.2.2.1 a ha, fun j => ?_⟩⟩⟩
        rw [qup_at, h.2.2.2, h.2.2.2]
        split
        · rename_i y; rw [if_neg (by omega), if_pos (by omega), y]; congr 1; omega
        · split
          · rw [if_pos (by omega)]
          · rw [if_neg (by omega)]
    exact key1 0 M ⟨(by omega), (by omega), fun _ _ => rfl, fun j => by rw [if_neg (by omega)]⟩
  · refine key2 (M 216 363) (M 216) (by omega) ?_ rfl 0 M ⟨(by omega), (by omega), fun _ _ => rfl, fun j => by rw [if_neg (by omega)]⟩
    funext j
    unfold aup rNote
    dsimp only
    rw [if_neg z]
    repeat' split
    all_goals first | rfl | (exfalso; omega)
end Ref46
