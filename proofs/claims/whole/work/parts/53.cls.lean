theorem qbd (M : QMem) (b i j k v : Int) : qup M (b + i) k v (b + j) = if j = i then aup (M (b + j)) k v else M (b + j) := by
  split
  · rename_i h; subst h; exact qup_aup _ _ _ _
  · exact qup_row (by omega)
theorem qb0 (M : QMem) (b i k v : Int) : qup M (b + i) k v b = if i = 0 then aup (M b) k v else M b := by
  split
  · rename_i h; subst h; rw [Int.add_zero]; exact qup_aup _ _ _ _
  · exact qup_row (by omega)
theorem qb1 (M : QMem) (b j k v : Int) : qup M b k v (b + j) = if j = 0 then aup (M b) k v else M (b + j) := by
  split
  · rename_i h; subst h; rw [Int.add_zero]; exact qup_aup _ _ _ _
  · exact qup_row (by omega)
/-- but for a state and the rows where laws are reckoned, all is as it was -/
def sK (b : Int) (M M1 : QMem) : Prop := ∀ a, a < b ∨ b + 9 < a → a ≠ 220 → a ≠ 221 → a ≠ 23 → a ≠ 26 → M1 a = M a
theorem lK.sK {b : Int} {M M1 : QMem} (h : lK M M1) : sK b M M1 := fun a _ a1 a2 a3 a4 => h a a1 a2 a3 a4
theorem sK.trans {b : Int} {M M1 M2 : QMem} (h : sK b M M1) (h2 : sK b M1 M2) : sK b M M2 := fun a q a1 a2 a3 a4 => (h2 a q a1 a2 a3 a4).trans (h a q a1 a2 a3 a4)
theorem sK.land {A : Int → Int} {b : Int} {M M1 : QMem} (hb : b = 27 ∨ b = 37) (hk : sK b M M1) (h : cLand A 17 M) : cLand A 17 M1 := h.congr (fun a ha => hk a (by omega) (by omega) (by omega) (by omega) (by omega))
theorem rWhyLay_b (A : Int → Int) (e t : Int) : 0 ≤ rWhyLay A e t ∧ rWhyLay A e t ≤ 4 := by
  rw [rWhyLay]; repeat' split
  all_goals omega
theorem rWhyBack_b (A : Int → Int) (e : Int) : 0 ≤ rWhyBack A e ∧ rWhyBack A e ≤ 4 := by
  rw [rWhyBack]; repeat' split
  all_goals omega
theorem rWhyIn_b (A : Int → Int) (e : Int) : 0 ≤ rWhyIn A e ∧ rWhyIn A e ≤ 4 := by
  rw [rWhyIn]; repeat' split
  all_goals omega
theorem rWhyOut_b (A : Int → Int) (e : Int) : 0 ≤ rWhyOut A e ∧ rWhyOut A e ≤ 4 := by
  rw [rWhyOut]; repeat' split
  all_goals omega
theorem rWhyLay_zero {A : Int → Int} {e t : Int} (h : rWhyLay A e t = 0) : ((0 ≤ e ∧ e < A 3) ∧ 1 ≤ t ∧ t ≤ 4) ∧ rBeside A (rEnd A e) t ≠ -1 ∧ rOpen A e (rBeside A (rEnd A e) t) ∧ A (60 + e) ≠ 16 ∧ rLets A e (rBeside A (rEnd A e) t) ∧ rCost A e (rBeside A (rEnd A e) t) ≤ A (54 + e) := by
  rw [rWhyLay] at h
  split at h
  · omega
  · split at h
    · omega
    · split at h
      · omega
      · split at h
        · omega
        · rename_i h1 h2 h3 h4
          exact ⟨Classical.byContradiction h1, fun z => h2 (Or.inl z), Classical.byContradiction (fun z => h2 (Or.inr (Or.inl z))), fun z => h2 (Or.inr (Or.inr z)), Classical.byContradiction h3, (by omega)⟩
theorem rWhyBack_zero {A : Int → Int} {e : Int} (h : rWhyBack A e = 0) : (0 ≤ e ∧ e < A 3) ∧ A (60 + e) ≠ 0 ∧ A (294 + rEnd A e) = e ∧ ¬ ∃ t, 0 ≤ t ∧ t < A 330 ∧ A (331 + t) = e ∧ rOn A (rEnd A e) t := by
  rw [rWhyBack] at h
  split at h
  · omega
  · split at h
    · omega
    · split at h
      · omega
      · split at h
        · omega
        · rename_i h1 h2 h3 h4
          exact ⟨Classical.byContradiction h1, h2, Classical.byContradiction h3, h4⟩
theorem rWhyIn_zero {A : Int → Int} {e : Int} (h : rWhyIn A e = 0) : (0 ≤ e ∧ e < A 3) ∧ A (60 + e) ≠ 0 ∧ rFree A e := by
  rw [rWhyIn] at h
  split at h
  · omega
  · split at h
    · omega
    · split at h
      · omega
      · split at h
        · omega
        · rename_i h1 h2 h3 h4
          exact ⟨Classical.byContradiction h1, h2, fun i i0 i1 => Classical.byContradiction (fun z => h3 ⟨i, i0, i1, z⟩), fun t t0 t1 t2 t3 => h4 ⟨t, t0, t1, t2, t3⟩⟩
theorem rWhyOut_zero {A : Int → Int} {e : Int} (h : rWhyOut A e = 0) : (0 ≤ e ∧ e < A 3) ∧ A (60 + e) ≠ 0 ∧ A 330 ≠ 8 := by
  rw [rWhyOut] at h
  split at h
  · omega
  · split at h
    · omega
    · split at h
      · omega
      · rename_i h1 h2 h3
        exact ⟨Classical.byContradiction h1, h2, h3⟩
/-- a ribbon is laid on -/
def rLay (A : Int → Int) (e t o : Int) : Int → Int := rLays A e (rBeside A (rEnd A e) t) (rCost A e (rBeside A (rEnd A e) t)) o
section Cls53
variable {X : QX} {x : Int} {d : Nat} {post : Int → QMem → Prop} {M : QMem} {A : Int → Int} {b : Int}
theorem cSt.lays {k c e o : Int} {M1 : QMem} (hC : cSt A b M) (h3 : A 3 ≤ 6) (hT : A 330 ≤ 8) (e6 : 0 ≤ e ∧ e < 6) (k36 : 0 ≤ k ∧ k < 36) (l16 : 0 ≤ A (60 + e) ∧ A (60 + e) < 16) (hr : ∀ f, 0 ≤ f → f < 6 → 0 ≤ A (60 + f) ∧ A (60 + f) ≤ 16)
    (r0 : M1 b = M b) (r1 : M1 (b + 1) = aup (M (b + 1)) e (A (60 + e) + 1)) (r2 : M1 (b + 2) = aup (M (b + 2)) e (M (b + 2) e - c)) (r3 : M1 (b + 3) = aup (M (b + 3)) (16 * e + A (60 + e)) k) (r4 : M1 (b + 4) = aup (M (b + 4)) (16 * e + A (60 + e)) c)
    (r5 : M1 (b + 5) = aup (M (b + 5)) k (if o ≠ 0 ∨ A (294 + k) = -1 then e else A (294 + k))) (r6 : M1 (b + 6) = aup (M (b + 6)) k (if o ≠ 0 ∨ A (294 + k) = -1 then A (294 + k) else e)) (r7 : M1 (b + 7) = M (b + 7)) (r8 : M1 (b + 8) = M (b + 8)) (r9 : M1 (b + 9) = M (b + 9)) : cSt (rLays A e k c o) b M1 := by
  have r := fun (j : Int) (hj : j < 54 ∨ 330 ≤ j) => rLays_rest (A := A) (e := e) (k := k) (c := c) (o := o) e6 k36 l16 hj
  refine ⟨fun f f0 f1 => ?_, fun f f0 f1 => ?_, fun f i f0 f1 i0 i1 => ?_, fun q q0 q1 => ?_, fun t t0 t1 => ?_, ?_, ?_, ?_⟩
  · rw [r1, rLays_len e6 k36 l16 ⟨f0, f1⟩, aup]
    split
    · rfl
    · exact hC.1 f f0 f1
  · rw [r 3 (by omega)] at f1
    rw [r2, rLays_yard e6 k36 l16 ⟨f0, (by omega)⟩, aup]
    split
    · rename_i z; subst z; rw [hC.2.1 f f0 f1]
    · exact hC.2.1 f f0 f1
  · rw [rLays_len e6 k36 l16 ⟨f0, f1⟩] at i1
    have hlf := hr f f0 f1
    have hi : 16 * f + i < 96 := by split at i1 <;> omega
    rw [r3, r4, Int.add_assoc, Int.add_assoc, rLays_lies e6 k36 l16 ⟨(by omega), hi⟩, rLays_took e6 k36 l16 ⟨(by omega), hi⟩, aup, aup]
    by_cases z : 16 * f + i = 16 * e + A (60 + e)
    · rw [if_pos z, if_pos z, if_pos z, if_pos z]; exact ⟨rfl, rfl⟩
    · rw [if_neg z, if_neg z, if_neg z, if_neg z, ← Int.add_assoc, ← Int.add_assoc]
      refine hC.2.2.1 f i f0 f1 i0 ?_
      split at i1
      · rename_i y; subst y; omega
      · exact i1
  · have := hC.2.2.2.1 q q0 q1
    rw [r5, r6, rLays_up e6 k36 l16 ⟨q0, q1⟩, rLays_low e6 k36 l16 ⟨q0, q1⟩, aup, aup]
    by_cases z : q = k
    · rw [if_pos z, if_pos z, if_pos z, if_pos z]; exact ⟨rfl, rfl⟩
    · rw [if_neg z, if_neg z, if_neg z, if_neg z]; exact this
  · rw [r 330 (by omega)] at t1
    rw [r7, r8, r9, r (331 + t) (by omega), r (347 + t) (by omega), r (339 + t) (by omega), r (355 + t) (by omega)]
    exact hC.2.2.2.2.1 t t0 t1
  · rw [r0, r 330 (by omega)]; exact hC.2.2.2.2.2.1
  · rw [r0, r 52 (by omega)]; exact hC.2.2.2.2.2.2.1
  · rw [r0, r 53 (by omega)]; exact hC.2.2.2.2.2.2.2
theorem c_tryLaying (hb : b = 27 ∨ b = 37) (h : cOk A b M) {e t o : Int} (he : in32 e) (ht : in32 t) (ho : in32 o) (h0 : rWhyLay A e t = 0 → ∀ M1, sK b M M1 → cSt (rLay A e t o) b M1 → post 0 M1) (h1 : rWhyLay A e t ≠ 0 → ∀ M1, lK M M1 → post (rWhyLay A e t) M1) : QCm X x (d + 5) 1 yX6_tryLaying [(2, b), (2, 17), (0, e), (0, t), (0, o)] M post := by
  have a3 := h.1.2.2.1
  have hcl := h.1.cells
  have hT := h.2.1.2.2.2.1
  have wb := rWhyLay_b A e t
  refine QC.of qmX6_tryLaying_ok rfl (TX6_tryLaying_0 hb (c_whyNotLaid hb h he ht (fun M1 k1 => ⟨fun z => ?_, fun z => ⟨(i32 (by omega) (by omega)), TX6_tryLaying_166 hb (h1 z M1 k1)⟩⟩)))
  obtain ⟨⟨e1, t1⟩, z1, z2, z3, z4, z5⟩ := rWhyLay_zero z
  have K1 := h.keep hb k1
  have hE := rEnd_b h.1 h.2.1.2.1 e1.1 e1.2
  have hB := rBeside_b (t := t) h.1 hE
  have hl := h.2.1.2.1.1 e e1.1 (by omega)
  refine c_endOf hb h.1 h.2.1.2.1 K1.2.2.1 K1.2.2.2 e1 (c_beside h.1 K1.2.2.1 hE (by omega) ?_)
  rw [K1.2.2.2.2.2.2.2.2.2.1]
  refine c_yardsFor h.1 h.2.1.1 K1.2.2.1 (by omega) (by omega) (fun M4 k4 => ?_)
  have K4 := K1.keep hb k4
  have k36 : 0 ≤ rBeside A (rEnd A e) t ∧ rBeside A (rEnd A e) t < 36 := (by omega)
  have e6 : 0 ≤ e ∧ e < 6 := (by omega)
  have l16 : 0 ≤ A (60 + e) ∧ A (60 + e) < 16 := (by omega)
  have kc := h.2.1.2.2.1 _ k36.1 k36.2
  have g0 := h0 z
  rw [rLay] at g0
  generalize hk : rBeside A (rEnd A e) t = k at *
  generalize hc : rCost A e k = c at *
  have ln : M4 (b + 1) e = A (60 + e) := K4.2.2.2.1 e e6.1 e6.2
  have up : M4 (b + 5) k = A (294 + k) := (K4.2.2.2.2.2.2.1 k k36.1 k36.2).1
  rw [ln, Int.mul_comm e 16]
  refine ⟨(by omega), (by omega), (by omega), (by omega), ?_⟩
  refine TX6_tryLaying_58 hb ?_
  simp only [qbd, qb0, qb1, qup_aup, aup, Int.reduceEq, reduceIte, ln, Int.mul_comm e 16]
  refine ⟨(by omega), (by omega), (by omega), (by omega), ?_⟩
  refine TX6_tryLaying_76 hb ?_
  simp only [qbd, qb0, qb1, qup_aup, aup, Int.reduceEq, reduceIte, ln]
  refine ⟨(by omega), (by omega), ?_⟩
  refine TX6_tryLaying_86 hb ?_
  simp only [qbd, qb0, qb1, qup_aup, aup, Int.reduceEq, reduceIte]
  refine ⟨(by omega), (by omega), ?_⟩
  refine TX6_tryLaying_97 hb ?_
  simp only [qbd, qb0, qb1, qup_aup, aup, Int.reduceEq, reduceIte, up]
  have sk : ∀ (m : QMem), (∀ a, a < b ∨ b + 9 < a → m a = M4 a) → sK b M m := fun m hm a q a1 a2 a3 a4 => (hm a q).trans (((k1.trans k4) a a1 a2 a3 a4))
  refine ⟨(by omega), (by omega), fun u => ?_, fun u => ⟨(i32 (by omega) (by omega)), fun w => ?_, fun w => ⟨ho, ?_⟩⟩⟩
  · have c1 : o ≠ 0 ∨ A (294 + k) = -1 := Or.inr u
    refine TX6_tryLaying_117 hb (TX6_tryLaying_118 hb ⟨fun _ => ?_, fun y => absurd rfl y⟩)
    simp only [qbd, qb0, qb1, qup_aup, aup, Int.reduceEq, reduceIte, up]
    refine ⟨(by omega), (by omega), TX6_tryLaying_142 hb ⟨(by omega), (by omega), TX6_tryLaying_143 hb ⟨fun _ => TX6_tryLaying_165 hb ⟨(by omega), (by omega), ?_⟩, fun y => absurd rfl y⟩⟩⟩
    rw [z]
    refine TX6_tryLaying_166 hb (g0 _ (sk _ (fun a ha => ?_)) (K4.2.2.2.lays a3.2 hT.2 e6 k36 l16 h.2.1.2.1.1 ?_ ?_ ?_ ?_ ?_ ?_ ?_ ?_ ?_ ?_))
    · rw [qup_row (by omega), qup_row (by omega), qup_row (by omega), qup_row (by omega), qup_row (by omega), qup_row (by omega)]
    all_goals simp only [qbd, qb0, qb1, qup_aup, aup, Int.reduceEq, reduceIte]
    · rw [if_pos c1]
    · rw [if_pos c1]
  · have c1 : ¬ (o ≠ 0 ∨ A (294 + k) = -1) := fun y => y.elim (fun y => y w) u
    refine TX6_tryLaying_118 hb ⟨fun y => absurd y (by decide), fun _ => ⟨(i32 (by omega) (by omega)), ?_⟩⟩
    refine TX6_tryLaying_142 hb ⟨(by omega), (by omega), TX6_tryLaying_143 hb ⟨fun y => absurd y (by decide), fun _ => ⟨(i32 (by omega) (by omega)), (by omega), (by omega), ?_⟩⟩⟩
    simp only [qbd, qb0, qb1, qup_aup, aup, Int.reduceEq, reduceIte, up]
    refine TX6_tryLaying_165 hb ⟨(by omega), (by omega), ?_⟩
    rw [z]
    refine TX6_tryLaying_166 hb (g0 _ (sk _ (fun a ha => ?_)) (K4.2.2.2.lays a3.2 hT.2 e6 k36 l16 h.2.1.2.1.1 ?_ ?_ ?_ ?_ ?_ ?_ ?_ ?_ ?_ ?_))
    · rw [qup_row (by omega), qup_row (by omega), qup_row (by omega), qup_row (by omega), qup_row (by omega), qup_row (by omega)]
    all_goals simp only [qbd, qb0, qb1, qup_aup, aup, Int.reduceEq, reduceIte]
    · rw [if_neg c1]
    · rw [if_neg c1]
  · have c1 : o ≠ 0 ∨ A (294 + k) = -1 := Or.inl w
    refine TX6_tryLaying_117 hb (TX6_tryLaying_118 hb ⟨fun _ => ?_, fun y => absurd rfl y⟩)
    simp only [qbd, qb0, qb1, qup_aup, aup, Int.reduceEq, reduceIte, up]
    refine ⟨(by omega), (by omega), TX6_tryLaying_142 hb ⟨(by omega), (by omega), TX6_tryLaying_143 hb ⟨fun _ => TX6_tryLaying_165 hb ⟨(by omega), (by omega), ?_⟩, fun y => absurd rfl y⟩⟩⟩
    rw [z]
    refine TX6_tryLaying_166 hb (g0 _ (sk _ (fun a ha => ?_)) (K4.2.2.2.lays a3.2 hT.2 e6 k36 l16 h.2.1.2.1.1 ?_ ?_ ?_ ?_ ?_ ?_ ?_ ?_ ?_ ?_))
    · rw [qup_row (by omega), qup_row (by omega), qup_row (by omega), qup_row (by omega), qup_row (by omega), qup_row (by omega)]
    all_goals simp only [qbd, qb0, qb1, qup_aup, aup, Int.reduceEq, reduceIte]
    · rw [if_pos c1]
    · rw [if_pos c1]
end Cls53
