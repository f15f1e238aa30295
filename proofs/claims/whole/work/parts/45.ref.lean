/-- why a ribbon can't be laid on -/
noncomputable def rWhyLay (A : Int → Int) (e t : Int) : Int := by
  classical
  exact if ¬ ((0 ≤ e ∧ e < A 3) ∧ 1 ≤ t ∧ t ≤ 4) then 1 else if rBeside A (rEnd A e) t = -1 ∨ ¬ rOpen A e (rBeside A (rEnd A e) t) ∨ A (60 + e) = 16 then 2 else if ¬ rLets A e (rBeside A (rEnd A e) t) then 3 else if A (54 + e) < rCost A e (rBeside A (rEnd A e) t) then 4 else 0
noncomputable def rWhyBack (A : Int → Int) (e : Int) : Int := by
  classical
  exact if ¬ (0 ≤ e ∧ e < A 3) then 1 else if A (60 + e) = 0 then 2 else if A (294 + rEnd A e) ≠ e then 3 else if ∃ t, 0 ≤ t ∧ t < A 330 ∧ A (331 + t) = e ∧ rOn A (rEnd A e) t then 4 else 0
noncomputable def rWhyIn (A : Int → Int) (e : Int) : Int := by
  classical
  exact if ¬ (0 ≤ e ∧ e < A 3) then 1 else if A (60 + e) = 0 then 2 else if ∃ i, 0 ≤ i ∧ i < A (60 + e) ∧ A (294 + A (66 + 16 * e + i)) ≠ e then 3 else if ∃ t, 0 ≤ t ∧ t < A 330 ∧ A (331 + t) = e ∧ A (347 + t) = 0 then 4 else 0
def rWhyOut (A : Int → Int) (e : Int) : Int := if ¬ (0 ≤ e ∧ e < A 3) then 1 else if A (60 + e) = 0 then 2 else if A 330 = 8 then 3 else 0
theorem rGo.at {A : Int → Int} (h : rGo A) {t u k : Int} (t0 : 0 ≤ t) (t1 : t < A 330) (u0 : 0 ≤ u) (u1 : u < A 330) (ht : rOn A k t) (hu : rOn A k u) : t = u := by
  rcases Int.lt_trichotomy t u with z | z | z
  · exact absurd hu (h.2.2 t u t0 z u1 k ht)
  · exact z
  · exact absurd ht (h.2.2 u t u0 z t1 k hu)
section Ref45
variable {X : QX} {x : Int} {d : Nat} {post : Int → QMem → Prop} {M : QMem}
theorem m_whyLay (hL : rLandOk (M 216)) (hS : rStOk (M 216)) {e t : Int} (he : in64 e) (ht : in64 t) (hp : ∀ M1, lK M M1 → post (rWhyLay (M 216) e t) M1) : QCm X x (d + 3) 1 yX11_whyLay [(2, 215), (1, e), (1, t)] M post := by
  have a3 := hL.2.2.1
  have hcl := hL.cells
  refine QC.of qmX11_whyLay_ok rfl (TX11_whyLay_0 ?_)
  refine m_isDrum he hL.2.2.1 (fun a => ⟨fun z => absurd z (by decide), fun _ => ⟨(i32 (by omega) (by omega)), ?_⟩⟩) (fun a => ⟨fun _ => ?_, fun z => absurd rfl z⟩)
  · refine m_within ht (i64 (by omega) (by omega)) (i64 (by omega) (by omega)) (fun b => ⟨fun z => absurd z (by decide), fun _ => ⟨(i32 (by omega) (by omega)), ?_⟩⟩) (fun b => ⟨fun _ => ?_, fun z => absurd rfl z⟩)
    · rw [ql2i_id (a := e) (i32 (by omega) (by omega)), ql2i_id (a := t) (i32 (by omega) (by omega))]
      have hl := hS.2.1.1 e a.1 (by omega)
      refine m_endOf (by omega) hl ?_
      have hE := rEnd_b hL hS.2.1 a.1 a.2
      refine m_beside (by omega) (i32 (by omega) (by omega)) hL.1 hL.2.1 ?_
      have hB := rBeside_b (t := t) hL hE
      have w0 : ¬ ¬ ((0 ≤ e ∧ e < M 216 3) ∧ 1 ≤ t ∧ t ≤ 4) := fun z => z ⟨a, b⟩
      refine ⟨fun c => ?_, fun c => ⟨(i32 (by omega) (by omega)), ?_⟩⟩
      · have := hp M (lK.refl M); rw [rWhyLay, if_neg w0, if_pos (Or.inl c)] at this; exact this
      refine m_isOpen hL hS (by omega) (by omega) (fun o => ⟨fun z => absurd z (by decide), fun _ => ⟨(i32 (by omega) (by omega)), (by omega), (by omega), fun l => ?_, fun l => ⟨(i32 (by omega) (by omega)), ?_⟩⟩⟩) (fun o => ⟨fun _ => ?_, fun z => absurd rfl z⟩)
      · have := hp M (lK.refl M); rw [rWhyLay, if_neg w0, if_pos (Or.inr (Or.inr l))] at this; exact this
      · have w1 : ¬ (rBeside (M 216) (rEnd (M 216) e) t = -1 ∨ ¬ rOpen (M 216) e (rBeside (M 216) (rEnd (M 216) e) t) ∨ M 216 (60 + e) = 16) := fun z => z.elim c (fun z => z.elim (fun z => z o) l)
        refine m_lets hL hS (by omega) (by omega) (fun q M1 h1 => ⟨fun z => absurd z (by decide), fun _ => ⟨(i32 (by omega) (by omega)), (by omega), (by omega), ?_⟩⟩) (fun q M1 h1 => ⟨fun _ => ?_, fun z => absurd rfl z⟩)
        · have e1 : M1 216 = M 216 := h1 216 (by decide) (by decide) (by decide) (by decide)
          refine m_costOf (by rw [e1]; exact hL) (by rw [e1]; exact hS) (by omega) (by omega) (fun M2 h2 => ?_)
          rw [e1]
          have hy := hS.2.1.2.1 e a.1 a.2
          have htk := hS.2.1.took a.1 (show e < 6 by omega)
          have hcb := rCost_b (M 216) e (rBeside (M 216) (rEnd (M 216) e) t)
          have := hp M2 (h1.trans h2)
          rw [rWhyLay, if_neg w0, if_neg w1, if_neg (fun z => z q)] at this
          refine ⟨(i32 (by omega) (by omega)), (i32 (by omega) (by omega)), fun z => ?_, fun z => ?_⟩
          · rw [if_neg (by omega)] at this; exact this
          · rw [if_pos (by omega)] at this; exact this
        · have := hp M1 h1; rw [rWhyLay, if_neg w0, if_neg w1, if_pos q] at this; exact this
      · have := hp M (lK.refl M); rw [rWhyLay, if_neg w0, if_pos (Or.inr (Or.inl o))] at this; exact this
    · have := hp M (lK.refl M); rw [rWhyLay, if_pos (fun z => b z.2)] at this; exact this
  · have := hp M (lK.refl M); rw [rWhyLay, if_pos (fun z => a z.1)] at this; exact this
theorem m_whyBack (hL : rLandOk (M 216)) (hS : rStOk (M 216)) {e : Int} (he : in64 e) (hp : post (rWhyBack (M 216) e) M) : QCm X x (d + 3) 1 yX11_whyBack [(2, 215), (1, e)] M post := by
  have a3 := hL.2.2.1
  have hcl := hL.cells
  refine QC.of qmX11_whyBack_ok rfl (TX11_whyBack_0 ?_)
  refine m_isDrum he hL.2.2.1 (fun a => ⟨fun z => absurd z (by decide), fun _ => ⟨(i32 (by omega) (by omega)), ?_⟩⟩) (fun a => ⟨fun _ => ?_, fun z => absurd rfl z⟩)
  · rw [ql2i_id (a := e) (i32 (by omega) (by omega))]
    have hl := hS.2.1.1 e a.1 (by omega)
    refine ⟨(by omega), (by omega), fun b => ?_, fun b => ⟨(i32 (by omega) (by omega)), ?_⟩⟩
    · rw [rWhyBack, if_neg (fun z => z a), if_pos b] at hp; exact hp
    refine m_endOf (by omega) hl ?_
    have hE := rEnd_b hL hS.2.1 a.1 a.2
    have hc := hS.2.2.1 (rEnd (M 216) e) (by omega) (by omega)
    refine ⟨(by omega), (by omega), fun c => ?_, fun c => ⟨(i32 (by omega) (by omega)), (i32 (by omega) (by omega)), ?_⟩⟩
    · refine m_goerOn (i32 (by omega) (by omega)) hS.2.2.2.1 (fun t t0 t1 => ?_) (fun i i0 i1 => ?_) (fun t t0 t1 h1 h2 => ?_) (fun h => ?_)
      · have h := hS.2.2.2.2.1 t t0 t1
        exact ⟨(i32 (by omega) (by omega)), (by omega), (by omega)⟩
      · have := hS.2.1.2.2.1 i i0 i1; exact (i32 (by omega) (by omega))
      · have hT := hS.2.2.2.1
        have h := hS.2.2.2.2.1 t t0 t1
        refine ⟨fun z => absurd z (by omega), fun _ => ⟨(i32 (by omega) (by omega)), (by omega), (by omega), fun q => ?_, fun q => ⟨(i32 (by omega) (by omega)), (i32 (by omega) (by omega)), ?_⟩⟩⟩
        · rw [rWhyBack, if_neg (fun z => z a), if_neg b, if_neg (fun z => z c), if_pos ⟨t, t0, t1, q, h1⟩] at hp; exact hp
        · rw [rWhyBack, if_neg (fun z => z a), if_neg b, if_neg (fun z => z c), if_neg (fun z => ?_)] at hp; exact hp
          obtain ⟨u, u0, u1, u2, u3⟩ := z
          rw [← hS.2.2.2.at t0 t1 u0 u1 h1 u3] at u2; exact q u2
      · refine ⟨fun _ => ?_, fun z => absurd rfl z⟩
        rw [rWhyBack, if_neg (fun z => z a), if_neg b, if_neg (fun z => z c), if_neg (fun z => ?_)] at hp; exact hp
        obtain ⟨u, u0, u1, u2, u3⟩ := z
        exact h u u0 u1 u3
    · rw [rWhyBack, if_neg (fun z => z a), if_neg b, if_pos c] at hp; exact hp
  · rw [rWhyBack, if_pos a] at hp; exact hp
theorem m_whyIn (hL : rLandOk (M 216)) (hS : rStOk (M 216)) {e : Int} (he : in64 e) (hp : post (rWhyIn (M 216) e) M) : QCm X x (d + 2) 1 yX11_whyIn [(2, 215), (1, e)] M post := by
  have a3 := hL.2.2.1
  have hcl := hL.cells
  have hT := hS.2.2.2.1
  refine QC.of qmX11_whyIn_ok rfl (TX11_whyIn_0 ?_)
  refine m_isDrum he hL.2.2.1 (fun a => ⟨fun z => absurd z (by decide), fun _ => ⟨(i32 (by omega) (by omega)), ?_⟩⟩) (fun a => ⟨fun _ => ?_, fun z => absurd rfl z⟩)
  · rw [ql2i_id (a := e) (i32 (by omega) (by omega))]
    have hl := hS.2.1.1 e a.1 (by omega)
    refine ⟨(by omega), (by omega), fun b => ?_, fun b => ⟨(i32 (by omega) (by omega)), ?_⟩⟩
    · rw [rWhyIn, if_neg (fun z => z a), if_pos b] at hp; exact hp
    have key2 : (¬ ∃ i, 0 ≤ i ∧ i < M 216 (60 + e) ∧ M 216 (294 + M 216 (66 + 16 * e + i)) ≠ e) → ∀ t, 0 ≤ t ∧ t ≤ M 216 330 ∧ (∀ u, 0 ≤ u → u < t → ¬ (M 216 (331 + u) = e ∧ M 216 (347 + u) = 0)) → QRm X x (d + 2) qmX11_whyIn post 83 [(0, (2, 215)), (3, (0, e)), (4, (0, t))] [] M := by
      intro hn
      rw [rWhyIn, if_neg (fun z => z a), if_neg b, if_neg hn] at hp
      refine int_up (M 216 330) (fun t hi h => ?_) (fun t hi ih h => ?_)
      · refine TX11_whyIn_83 ⟨(i32 (by omega) (by omega)), (i32 (by omega) (by omega)), fun _ => ?_, fun z => absurd hi (by omega)⟩
        rw [if_neg (fun ⟨u, u0, u1, u2⟩ => h.2.2 u u0 (by omega) u2)] at hp; exact hp
      · have hh := hS.2.2.2.2.1 t h.1 hi
        have nx : ¬ (M 216 (331 + t) = e ∧ M 216 (347 + t) = 0) → QRm X x (d + 2) qmX11_whyIn post 83 [(0, (2, 215)), (3, (0, e)), (4, (0, t + 1))] [] M := fun hn => ih ⟨(by omega), (by omega), fun u u0 u1 => by
          by_cases z : u = t
          · subst z; exact hn
          · exact h.2.2 u u0 (by omega)⟩
        refine TX11_whyIn_83 ⟨(i32 (by omega) (by omega)), (i32 (by omega) (by omega)), fun z => absurd hi (by omega), fun _ => ⟨(by omega), (by omega), fun p => ⟨(by omega), (by omega), fun q => ?_, fun q => ⟨(i32 (by omega) (by omega)), nx (fun z => q z.2)⟩⟩, fun p => ⟨(i32 (by omega) (by omega)), (i32 (by omega) (by omega)), nx (fun z => p z.1)⟩⟩⟩
        rw [if_pos ⟨t, h.1, hi, p, q⟩] at hp; exact hp
    have key1 : ∀ i, 0 ≤ i ∧ i ≤ M 216 (60 + e) ∧ (∀ j, 0 ≤ j → j < i → M 216 (294 + M 216 (66 + 16 * e + j)) = e) → QRm X x (d + 2) qmX11_whyIn post 30 [(0, (2, 215)), (3, (0, e)), (4, (0, i))] [] M := by
      refine int_up (M 216 (60 + e)) (fun i hi h => ?_) (fun i hi ih h => ?_)
      · refine TX11_whyIn_30 ⟨(by omega), (by omega), (i32 (by omega) (by omega)), (i32 (by omega) (by omega)), fun _ => key2 (fun ⟨j, j0, j1, j2⟩ => j2 (h.2.2 j j0 (by omega))) 0 ⟨(by omega), (by omega), fun u u0 u1 => (by omega)⟩, fun z => absurd hi (by omega)⟩
      · have hh := (hS.2.1.2.2.1 (16 * e + i) (by omega) (by omega)).1
        rw [← Int.add_assoc] at hh
        have hc := hS.2.2.1 (M 216 (66 + 16 * e + i)) (by omega) (by omega)
        refine TX11_whyIn_30 ⟨(by omega), (by omega), (i32 (by omega) (by omega)), (i32 (by omega) (by omega)), fun z => absurd hi (by omega), fun _ => ⟨(by omega), (by omega), (by omega), (by omega), fun p => ih ⟨(by omega), (by omega), fun j j0 j1 => ?_⟩, fun p => ⟨(i32 (by omega) (by omega)), (i32 (by omega) (by omega)), ?_⟩⟩⟩
        · by_cases z : j = i
          · subst z; exact p
          · exact h.2.2 j j0 (by omega)
        · rw [rWhyIn, if_neg (fun z => z a), if_neg b, if_pos ⟨i, h.1, hi, p⟩] at hp; exact hp
    exact key1 0 ⟨(by omega), (by omega), fun j j0 j1 => (by omega)⟩
  · rw [rWhyIn, if_pos a] at hp; exact hp
theorem m_whyOut (hL : rLandOk (M 216)) (hS : rStOk (M 216)) {e : Int} (he : in64 e) (hp : post (rWhyOut (M 216) e) M) : QCm X x (d + 2) 1 yX11_whyOut [(2, 215), (1, e)] M post := by
  have a3 := hL.2.2.1
  have hT := hS.2.2.2.1
  refine QC.of qmX11_whyOut_ok rfl (TX11_whyOut_0 ?_)
  refine m_isDrum he hL.2.2.1 (fun a => ⟨fun z => absurd z (by decide), fun _ => ⟨(i32 (by omega) (by omega)), ?_⟩⟩) (fun a => ⟨fun _ => ?_, fun z => absurd rfl z⟩)
  · rw [ql2i_id (a := e) (i32 (by omega) (by omega))]
    have hl := hS.2.1.1 e a.1 (by omega)
    refine ⟨(by omega), (by omega), fun b => ?_, fun b => ⟨(i32 (by omega) (by omega)), fun c => ?_, fun c => ⟨(i32 (by omega) (by omega)), ?_⟩⟩⟩
    · rw [rWhyOut, if_neg (fun z => z a), if_pos b] at hp; exact hp
    · rw [rWhyOut, if_neg (fun z => z a), if_neg b, if_pos c] at hp; exact hp
    · rw [rWhyOut, if_neg (fun z => z a), if_neg b, if_neg c] at hp; exact hp
  · rw [rWhyOut, if_pos a] at hp; exact hp
end Ref45
