/-- how many of the first n are so -/
noncomputable def rCnt (p : Int → Prop) : Nat → Int := by
  classical
  exact fun n => Nat.rec (motive := fun _ => Int) 0 (fun n s => s + if p n then 1 else 0) n
theorem rCnt_zero (p : Int → Prop) : rCnt p 0 = 0 := rfl
theorem rCnt_yes {p : Int → Prop} {n : Nat} (h : p n) : rCnt p (n + 1) = rCnt p n + 1 := by
  show rCnt p n + _ = _
  rw [if_pos h]
theorem rCnt_no {p : Int → Prop} {n : Nat} (h : ¬ p n) : rCnt p (n + 1) = rCnt p n := by
  show rCnt p n + _ = _
  rw [if_neg h, Int.add_zero]
theorem rCnt_b (p : Int → Prop) (n : Nat) : 0 ≤ rCnt p n ∧ rCnt p n ≤ n := by
  induction n with
  | zero => rw [rCnt_zero]; omega
  | succ n ih =>
    by_cases h : p n
    · rw [rCnt_yes h]; omega
    · rw [rCnt_no h]; omega
theorem rCnt_congr {p q : Int → Prop} {n : Nat} (h : ∀ i : Nat, i < n → (p i ↔ q i)) : rCnt p n = rCnt q n := by
  induction n with
  | zero => rfl
  | succ n ih =>
    have := ih (fun i hi => h i (by omega))
    by_cases z : p n
    · rw [rCnt_yes z, rCnt_yes ((h n (by omega)).1 z), this]
    · rw [rCnt_no z, rCnt_no (fun y => z ((h n (by omega)).2 y)), this]
section Cls52
variable {X : QX} {x : Int} {d : Nat} {post : Int → QMem → Prop} {M : QMem} {A : Int → Int} {b : Int}
theorem c_isUnder (hb : b = 27 ∨ b = 37) (hS : rStOk A) (h3 : A 3 ≤ 6) (hC : cSt A b M) {e k : Int} (he : 0 ≤ e ∧ e < 6) (hk : 0 ≤ k ∧ k < 36) (ht : A (258 + k) = e → post 1 M) (hf : A (258 + k) ≠ e → post 0 M) : QCm X x d 1 yX6_isUnder [(2, b), (0, e), (0, k)] M post := by
  have hc := hS.2.2.1 k hk.1 hk.2
  refine QC.of qmX6_isUnder_ok rfl (TX6_isUnder_0 hb ?_)
  rw [(hC.2.2.2.1 k hk.1 hk.2).2]
  exact ⟨(i32 (by omega) (by omega)), fun z => absurd z (by omega), fun _ => ⟨fun z => absurd z (by omega), fun _ => ⟨(by omega), (by omega), fun a => ht a, fun a => ⟨(i32 (by omega) (by omega)), (i32 (by omega) (by omega)), hf a⟩⟩⟩⟩
theorem c_isOpen (hb : b = 27 ∨ b = 37) (h : cOk A b M) {e k : Int} (he : 0 ≤ e ∧ e < 6) (hk : -1 ≤ k ∧ k < A 1 * A 2) (ht : k ≠ -1 → rOpen A e k → post 1 M) (hf : k = -1 ∨ ¬ rOpen A e k → post 0 M) : QCm X x (d + 3) 1 yX6_isOpen [(2, b), (2, 17), (0, e), (0, k)] M post := by
  have hcl := h.1.cells
  have a3 := h.1.2.2.1
  have hx := h.2.2.1.1
  have ec : M 17 0 * M 17 1 = A 1 * A 2 := by rw [hx.1, hx.2.1]
  refine QC.of qmX6_isOpen_ok rfl (TX6_isOpen_0 hb ?_)
  refine ⟨(i32 (by omega) (by omega)), fun a => hf (Or.inl (by omega)), fun a => ⟨fun z => absurd z (by omega), fun _ => ?_⟩⟩
  have hc := h.2.1.2.2.1 k (by omega) (by omega)
  have hu := h.2.2.2.2.2.2.1 k (by omega) (by omega)
  have hki := h.2.2.1.2.1 k (by omega) (by omega)
  have hl := rLie_b A k
  have ki : (M 18 k = 0 ↔ (A (10 + k) ≠ 1 ∧ ¬ rHome A k)) ∧ (M 18 k = 0 ∨ M 18 k = 1 ∨ M 18 k = 2) := by
    have hki' : (A (10 + k) = 1 → M 18 k = 1) ∧ (A (10 + k) ≠ 1 → (rHome A k → M 18 k = 2) ∧ (¬ rHome A k → M 18 k = 0)) := hki
    by_cases z : A (10 + k) = 1
    · have := hki'.1 z
      exact ⟨⟨fun y => absurd y (by omega), fun y => absurd z y.1⟩, (by omega)⟩
    · by_cases y : rHome A k
      · have := (hki'.2 z).1 y
        exact ⟨⟨fun q => absurd q (by omega), fun q => absurd y q.2⟩, (by omega)⟩
      · have := (hki'.2 z).2 y
        exact ⟨⟨fun _ => ⟨z, y⟩, fun _ => this⟩, Or.inl this⟩
  refine ⟨(by omega), (by omega), fun o => ?_, fun o => ⟨by rcases ki.2 with z | z | z <;> rw [z] <;> exact ⟨by decide, by decide⟩, hf (Or.inr (fun z => o (ki.1.2 ⟨z.1, z.2.1⟩)))⟩⟩
  obtain ⟨o1, o2⟩ := ki.1.1 o
  refine c_lying hb h.2.1 a3.2 h.2.2.2 (by omega) ⟨(i32 (by omega) (by omega)), fun l => hf (Or.inr (fun z => z.2.2.1 (by omega))), fun l => ?_⟩
  rw [hu.1]
  exact ⟨fun q => hf (Or.inr (fun z => z.2.2.2 q)), fun q => ⟨(i32 (by omega) (by omega)), (i32 (by omega) (by omega)), ht (by omega) ⟨o1, o2, (by omega), q⟩⟩⟩
theorem c_whyNotLaid (hb : b = 27 ∨ b = 37) (h : cOk A b M) {e t : Int} (he : in32 e) (ht : in32 t) (hp : ∀ M1, lK M M1 → post (rWhyLay A e t) M1) : QCm X x (d + 4) 1 yX6_whyNotLaid [(2, b), (2, 17), (0, e), (0, t)] M post := by
  have a3 := h.1.2.2.1
  have hcl := h.1.cells
  have hd : M 17 2 = A 3 := h.2.2.1.1.2.2.1
  refine QC.of qmX6_whyNotLaid_ok rfl (TX6_whyNotLaid_0 hb ?_)
  refine c_hasDrum he (by rw [hd]; exact a3) (fun a => ⟨fun z => absurd z (by decide), fun _ => ⟨(i32 (by omega) (by omega)), ht, fun q => ?_, fun q => ⟨fun r => ?_, fun r => ?_⟩⟩⟩) (fun a => ⟨fun _ => ?_, fun z => absurd rfl z⟩)
  · have := hp M (lK.refl M); rw [rWhyLay, if_pos (by omega)] at this; exact this
  · rw [hd] at a
    have hl := h.2.1.2.1.1 e a.1 (by omega)
    refine c_endOf hb h.1 h.2.1.2.1 h.2.2.1 h.2.2.2 a ?_
    have hE := rEnd_b h.1 h.2.1.2.1 a.1 a.2
    refine c_beside h.1 h.2.2.1 hE (by omega) ?_
    have hB := rBeside_b (t := t) h.1 hE
    have w0 : ¬ ¬ ((0 ≤ e ∧ e < A 3) ∧ 1 ≤ t ∧ t ≤ 4) := fun z => z (by omega)
    rw [h.2.2.2.1 e a.1 (by omega)]
    refine ⟨(by omega), (by omega), (i32 (by omega) (by omega)), fun l => ?_, fun l => ?_⟩
    · have := hp M (lK.refl M); rw [rWhyLay, if_neg w0, if_pos (Or.inr (Or.inr (by omega)))] at this; exact this
    refine c_isOpen hb h (by omega) hB (fun k1 o => ⟨fun z => absurd z (by decide), fun _ => ⟨(i32 (by omega) (by omega)), ?_⟩⟩) (fun o => ⟨fun _ => ?_, fun z => absurd rfl z⟩)
    · have w1 : ¬ (rBeside A (rEnd A e) t = -1 ∨ ¬ rOpen A e (rBeside A (rEnd A e) t) ∨ A (60 + e) = 16) := fun z => z.elim k1 (fun z => z.elim (fun z => z o) (by omega))
      refine c_lying hb h.2.1 a3.2 h.2.2.2 (by omega) ?_
      rw [h.2.2.2.2.2.2.2.2.2.1]
      refine c_mayLie h.1 h.2.1.1 h.2.2.1 (by omega) (by omega) (fun q M1 h1 => ⟨fun z => absurd z (by decide), fun _ => ⟨(i32 (by omega) (by omega)), ?_⟩⟩) (fun q M1 h1 => ⟨fun _ => ?_, fun z => absurd rfl z⟩)
      · have k1 := h.keep hb h1
        rw [k1.2.2.2.2.2.2.2.2.2.1]
        refine c_yardsFor h.1 h.2.1.1 k1.2.2.1 (by omega) (by omega) (fun M2 h2 => ?_)
        have k2 := k1.keep hb h2
        rw [k2.2.2.2.2.1 e a.1 a.2]
        have hy := h.2.1.2.1.2.1 e a.1 a.2
        have htk := h.2.1.2.1.took a.1 (show e < 6 by omega)
        have hcb := rCost_b A e (rBeside A (rEnd A e) t)
        have := hp M2 (h1.trans h2)
        rw [rWhyLay, if_neg w0, if_neg w1, if_neg (fun z => z q)] at this
        refine ⟨(i32 (by omega) (by omega)), (i32 (by omega) (by omega)), fun z => ?_, fun z => ?_⟩
        · rw [if_neg (by omega)] at this; exact this
        · rw [if_pos (by omega)] at this; exact this
      · have := hp M1 h1; rw [rWhyLay, if_neg w0, if_neg w1, if_pos q] at this; exact this
    · have := hp M (lK.refl M); rw [rWhyLay, if_neg w0, if_pos (o.elim Or.inl (fun z => Or.inr (Or.inl z)))] at this; exact this
  · have := hp M (lK.refl M); rw [rWhyLay, if_pos (by omega)] at this; exact this
  · have := hp M (lK.refl M); rw [hd] at a; rw [rWhyLay, if_pos (by omega)] at this; exact this
theorem rRib.inj (h : rRib A) {e i j : Int} (e0 : 0 ≤ e) (e1 : e < 6) (i0 : 0 ≤ i) (i1 : i < A (60 + e)) (j0 : 0 ≤ j) (j1 : j < A (60 + e)) (hij : A (66 + 16 * e + i) = A (66 + 16 * e + j)) : i = j := by
  rcases Int.lt_trichotomy i j with z | z | z
  · exact absurd hij (h.2.2.2.2 e i j e0 e1 i0 z j1)
  · exact z
  · exact absurd hij.symm (h.2.2.2.2 e j i e0 e1 j0 z i1)
/-- a ribbon lies under another on a cell of its own just where it isn't the upper one -/
theorem rUnder (hS : rStOk A) (h1 : rLandOk A) {e i : Int} (e0 : 0 ≤ e) (e1 : e < 6) (i0 : 0 ≤ i) (i1 : i < A (60 + e)) : A (258 + A (66 + 16 * e + i)) = e ↔ A (294 + A (66 + 16 * e + i)) ≠ e := by
  have hl := hS.2.1.1 e e0 e1
  have hcl := h1.cells
  have hh := (hS.2.1.2.2.1 (16 * e + i) (by omega) (by omega)).1
  rw [← Int.add_assoc] at hh
  have hc := hS.2.2.1 (A (66 + 16 * e + i)) (by omega) (by omega)
  have ho := hS.2.1.2.2.2.1 e i e0 e1 i0 i1
  constructor
  · intro z
    have := hc.2.2 (by omega)
    omega
  · intro z
    exact ho.resolve_left z
theorem c_whyNotBack (hb : b = 27 ∨ b = 37) (h : cOk A b M) {e : Int} (he : in32 e) (hp : post (rWhyBack A e) M) : QCm X x (d + 2) 1 yX6_whyNotBack [(2, b), (2, 17), (0, e)] M post := by
  have a3 := h.1.2.2.1
  have hcl := h.1.cells
  have hd : M 17 2 = A 3 := h.2.2.1.1.2.2.1
  have hT := h.2.1.2.2.2.1
  have h6 : M b 6 = A 330 := h.2.2.2.2.2.2.2.2.1
  refine QC.of qmX6_whyNotBack_ok rfl (TX6_whyNotBack_0 hb ?_)
  refine c_hasDrum he (by rw [hd]; exact a3) (fun a => ⟨fun z => absurd z (by decide), fun _ => ⟨(i32 (by omega) (by omega)), ?_⟩⟩) (fun a => ⟨fun _ => ?_, fun z => absurd rfl z⟩)
  · rw [hd] at a
    have hl := h.2.1.2.1.1 e a.1 (by omega)
    rw [h.2.2.2.1 e a.1 (by omega)]
    refine ⟨(by omega), (by omega), (i32 (by omega) (by omega)), fun l => ?_, fun l => ?_⟩
    · refine c_endOf hb h.1 h.2.1.2.1 h.2.2.1 h.2.2.2 a ?_
      have hE := rEnd_b h.1 h.2.1.2.1 a.1 a.2
      have eE : rEnd A e = A (66 + 16 * e + (A (60 + e) - 1)) := by rw [rEnd, if_neg (by omega)]; congr 1; omega
      have un := rUnder h.2.1 h.1 a.1 (show e < 6 by omega) (show 0 ≤ A (60 + e) - 1 by omega) (by omega)
      rw [← eE] at un
      rw [rWhyBack, if_neg (fun z => z a), if_neg (by omega)] at hp
      refine c_isUnder hb h.2.1 a3.2 h.2.2.2 (by omega) (by omega) (fun u => ⟨fun z => absurd z (by decide), fun _ => ⟨(i32 (by omega) (by omega)), ?_⟩⟩) (fun u => ⟨fun _ => ?_, fun z => absurd rfl z⟩)
      · rw [if_pos (un.1 u)] at hp; exact hp
      rw [if_neg (fun z => u (un.2 z))] at hp
      have key : ∀ t, 0 ≤ t ∧ t ≤ A 330 ∧ (∀ u, 0 ≤ u → u < t → ¬ (A (331 + u) = e ∧ rOn A (rEnd A e) u)) → QRm X x (d + 2) qmX6_whyNotBack post 40 [(0, (2, b)), (2, (0, e)), (3, (0, t))] [] M := by
        refine int_up (A 330) (fun t hi g => ?_) (fun t hi ih g => ?_)
        · refine TX6_whyNotBack_40 hb ?_
          rw [h6]
          refine ⟨(i32 (by omega) (by omega)), (i32 (by omega) (by omega)), fun _ => ?_, fun z => absurd hi (by omega)⟩
          rw [if_neg (fun ⟨u, u0, u1, u2⟩ => g.2.2 u u0 (by omega) u2)] at hp; exact hp
        · have gg := h.2.1.2.2.2.2.1 t g.1 hi
          have hq := h.2.2.2.2.2.2.2.1 t g.1 hi
          have nx : ¬ (A (331 + t) = e ∧ rOn A (rEnd A e) t) → QRm X x (d + 2) qmX6_whyNotBack post 40 [(0, (2, b)), (2, (0, e)), (3, (0, t + 1))] [] M := fun hn => ih ⟨(by omega), (by omega), fun u u0 u1 => by
            by_cases z : u = t
            · subst z; exact hn
            · exact g.2.2 u u0 (by omega)⟩
          refine TX6_whyNotBack_40 hb ?_
          rw [h6, hq.1, hq.2.1, h.2.2.2.1 e a.1 (by omega)]
          have b8 : in32 (if A (347 + t) = 1 then -2 else A (339 + t)) := by split <;> exact (i32 (by omega) (by omega))
          refine ⟨(i32 (by omega) (by omega)), (i32 (by omega) (by omega)), fun z => absurd hi (by omega), fun _ => ⟨(by omega), (by omega), fun p => ⟨(by omega), (by omega), fun q => ?_, fun q => ⟨b8, (i32 (by omega) (by omega)), nx (fun z => ?_)⟩⟩, fun p => ⟨(i32 (by omega) (by omega)), (i32 (by omega) (by omega)), nx (fun z => p z.1)⟩⟩⟩
          · have i0 : ¬ A (347 + t) = 1 := by
              intro z; rw [if_pos z] at q; omega
            rw [if_neg i0] at q
            rw [if_pos ⟨t, g.1, hi, p, (by omega), (by omega), by rw [p, q, ← eE]⟩] at hp; exact hp
          · obtain ⟨_, z1, z2, z3⟩ := z
            rw [if_neg (by omega)] at q
            rw [p, eE] at z3
            have := gg.2.2.2 z1
            rw [p] at this
            exact q (h.2.1.2.1.inj a.1 (by omega) z2 this (by omega) (by omega) z3)
      exact key 0 ⟨(by omega), (by omega), fun u u0 u1 => (by omega)⟩
    · rw [rWhyBack, if_neg (fun z => z a), if_pos (by omega)] at hp; exact hp
  · rw [hd] at a; rw [rWhyBack, if_pos a] at hp; exact hp
theorem c_whyNotIn (hb : b = 27 ∨ b = 37) (h : cOk A b M) {e : Int} (he : in32 e) (hp : post (rWhyIn A e) M) : QCm X x (d + 2) 1 yX6_whyNotIn [(2, b), (2, 17), (0, e)] M post := by
  have a3 := h.1.2.2.1
  have hcl := h.1.cells
  have hd : M 17 2 = A 3 := h.2.2.1.1.2.2.1
  have hT := h.2.1.2.2.2.1
  have h6 : M b 6 = A 330 := h.2.2.2.2.2.2.2.2.1
  refine QC.of qmX6_whyNotIn_ok rfl (TX6_whyNotIn_0 hb ?_)
  refine c_hasDrum he (by rw [hd]; exact a3) (fun a => ⟨fun z => absurd z (by decide), fun _ => ⟨(i32 (by omega) (by omega)), ?_⟩⟩) (fun a => ⟨fun _ => ?_, fun z => absurd rfl z⟩)
  · rw [hd] at a
    have hl := h.2.1.2.1.1 e a.1 (by omega)
    rw [h.2.2.2.1 e a.1 (by omega)]
    refine ⟨(by omega), (by omega), (i32 (by omega) (by omega)), fun l => ?_, fun l => ?_⟩
    · rw [rWhyIn, if_neg (fun z => z a), if_neg (by omega)] at hp
      have key2 : (¬ ∃ i, 0 ≤ i ∧ i < A (60 + e) ∧ A (294 + A (66 + 16 * e + i)) ≠ e) → ∀ t, 0 ≤ t ∧ t ≤ A 330 ∧ (∀ u, 0 ≤ u → u < t → ¬ (A (331 + u) = e ∧ A (347 + u) = 0)) → QRm X x (d + 2) qmX6_whyNotIn post 58 [(0, (2, b)), (2, (0, e)), (3, (0, t))] [] M := by
        intro hn
        rw [if_neg hn] at hp
        refine int_up (A 330) (fun t hi g => ?_) (fun t hi ih g => ?_)
        · refine TX6_whyNotIn_58 hb ?_
          rw [h6]
          refine ⟨(i32 (by omega) (by omega)), (i32 (by omega) (by omega)), fun _ => ?_, fun z => absurd hi (by omega)⟩
          rw [if_neg (fun ⟨u, u0, u1, u2⟩ => g.2.2 u u0 (by omega) u2)] at hp; exact hp
        · have gg := h.2.1.2.2.2.2.1 t g.1 hi
          have hq := h.2.2.2.2.2.2.2.1 t g.1 hi
          have nx : ¬ (A (331 + t) = e ∧ A (347 + t) = 0) → QRm X x (d + 2) qmX6_whyNotIn post 58 [(0, (2, b)), (2, (0, e)), (3, (0, t + 1))] [] M := fun hn => ih ⟨(by omega), (by omega), fun u u0 u1 => by
            by_cases z : u = t
            · subst z; exact hn
            · exact g.2.2 u u0 (by omega)⟩
          refine TX6_whyNotIn_58 hb ?_
          rw [h6, hq.1, hq.2.1]
          have b8 : in32 (if A (347 + t) = 1 then -2 else A (339 + t)) := by split <;> exact (i32 (by omega) (by omega))
          refine ⟨(i32 (by omega) (by omega)), (i32 (by omega) (by omega)), fun z => absurd hi (by omega), fun _ => ⟨(by omega), (by omega), fun p => ⟨fun q => nx (fun z => ?_), fun q => ⟨b8, ?_⟩⟩, fun p => ⟨(i32 (by omega) (by omega)), (i32 (by omega) (by omega)), nx (fun z => p z.1)⟩⟩⟩
          · rw [if_neg (by omega)] at q; omega
          · have i0 : A (347 + t) = 0 := by
              rcases gg.2.1 with z | z
              · exact z
              · rw [if_pos z] at q; exact absurd rfl q
            rw [if_pos ⟨t, g.1, hi, p, i0⟩] at hp; exact hp
      have key1 : ∀ i, 0 ≤ i ∧ i ≤ A (60 + e) ∧ (∀ j, 0 ≤ j → j < i → A (294 + A (66 + 16 * e + j)) = e) → QRm X x (d + 2) qmX6_whyNotIn post 24 [(0, (2, b)), (2, (0, e)), (3, (0, i))] [] M := by
        refine int_up (A (60 + e)) (fun i hi g => ?_) (fun i hi ih g => ?_)
        · refine TX6_whyNotIn_24 hb ?_
          rw [h.2.2.2.1 e a.1 (by omega)]
          exact ⟨(by omega), (by omega), (i32 (by omega) (by omega)), (i32 (by omega) (by omega)), fun _ => key2 (fun ⟨j, j0, j1, j2⟩ => j2 (g.2.2 j j0 (by omega))) 0 ⟨(by omega), (by omega), fun u u0 u1 => (by omega)⟩, fun z => absurd hi (by omega)⟩
        · have hh := (h.2.1.2.1.2.2.1 (16 * e + i) (by omega) (by omega)).1
          rw [← Int.add_assoc] at hh
          have un := rUnder h.2.1 h.1 a.1 (show e < 6 by omega) g.1 hi
          refine TX6_whyNotIn_24 hb ?_
          rw [h.2.2.2.1 e a.1 (by omega)]
          refine ⟨(by omega), (by omega), (i32 (by omega) (by omega)), (i32 (by omega) (by omega)), fun z => absurd hi (by omega), fun _ => c_cellOf hb h.2.1.2.1 h.2.2.2 (by omega) (i32 (by omega) (by omega)) (fun _ => ?_) (fun z => absurd ⟨g.1, hi⟩ z)⟩
          refine c_isUnder hb h.2.1 a3.2 h.2.2.2 (by omega) (by omega) (fun u => ⟨fun z => absurd z (by decide), fun _ => ⟨(i32 (by omega) (by omega)), ?_⟩⟩) (fun u => ⟨fun _ => ih ⟨(by omega), (by omega), fun j j0 j1 => ?_⟩, fun z => absurd rfl z⟩)
          · rw [if_pos ⟨i, g.1, hi, un.1 u⟩] at hp; exact hp
          · by_cases z : j = i
            · subst z
              exact Classical.byContradiction (fun q => u (un.2 q))
            · exact g.2.2 j j0 (by omega)
      exact key1 0 ⟨(by omega), (by omega), fun j j0 j1 => (by omega)⟩
    · rw [rWhyIn, if_neg (fun z => z a), if_pos (by omega)] at hp; exact hp
  · rw [hd] at a; rw [rWhyIn, if_pos a] at hp; exact hp
theorem c_whyNotOut (hb : b = 27 ∨ b = 37) (h : cOk A b M) {e : Int} (he : in32 e) (hp : post (rWhyOut A e) M) : QCm X x (d + 2) 1 yX6_whyNotOut [(2, b), (2, 17), (0, e)] M post := by
  have a3 := h.1.2.2.1
  have hd : M 17 2 = A 3 := h.2.2.1.1.2.2.1
  have hT := h.2.1.2.2.2.1
  have h6 : M b 6 = A 330 := h.2.2.2.2.2.2.2.2.1
  refine QC.of qmX6_whyNotOut_ok rfl (TX6_whyNotOut_0 hb ?_)
  refine c_hasDrum he (by rw [hd]; exact a3) (fun a => ⟨fun z => absurd z (by decide), fun _ => ⟨(i32 (by omega) (by omega)), ?_⟩⟩) (fun a => ⟨fun _ => ?_, fun z => absurd rfl z⟩)
  · rw [hd] at a
    have hl := h.2.1.2.1.1 e a.1 (by omega)
    rw [h.2.2.2.1 e a.1 (by omega), h6]
    refine ⟨(by omega), (by omega), (i32 (by omega) (by omega)), fun l => ⟨(i32 (by omega) (by omega)), fun q => ?_, fun q => ?_⟩, fun l => ?_⟩
    · rw [rWhyOut, if_neg (fun z => z a), if_neg (by omega), if_neg (by omega)] at hp; exact hp
    · rw [rWhyOut, if_neg (fun z => z a), if_neg (by omega), if_pos (by omega)] at hp; exact hp
    · rw [rWhyOut, if_neg (fun z => z a), if_pos (by omega)] at hp; exact hp
  · rw [hd] at a; rw [rWhyOut, if_pos a] at hp; exact hp
theorem c_hasTraveller (hb : b = 27 ∨ b = 37) (hG : rGo A) (hC : cSt A b M) {t : Int} (ht : in32 t) (h1 : 0 ≤ t ∧ t < A 330 → post 1 M) (h0 : ¬ (0 ≤ t ∧ t < A 330) → post 0 M) : QCm X x d 1 yX6_hasTraveller [(2, b), (0, t)] M post := by
  have hT := hG.1
  have h6 : M b 6 = A 330 := hC.2.2.2.2.2.1
  refine QC.of qmX6_hasTraveller_ok rfl (TX6_hasTraveller_0 hb ?_)
  rw [h6]
  exact ⟨ht, fun z => h0 (by omega), fun z => ⟨(i32 (by omega) (by omega)), fun y => h0 (by omega), fun y => ⟨fun q => absurd q (by omega), fun _ => h1 (by omega)⟩⟩⟩
theorem c_hasArrived (hb : b = 27 ∨ b = 37) (hG : rGo A) (hC : cSt A b M) {t : Int} (ht : 0 ≤ t ∧ t < A 330) (h1 : A (347 + t) = 1 → post 1 M) (h0 : A (347 + t) = 0 → post 0 M) : QCm X x (d + 1) 1 yX6_hasArrived [(2, b), (0, t)] M post := by
  have hT := hG.1
  have gg := hG.2.1 t ht.1 ht.2
  have hq := hC.2.2.2.2.1 t ht.1 ht.2
  refine QC.of qmX6_hasArrived_ok rfl (TX6_hasArrived_0 hb (c_hasTraveller hb hG hC (i32 (by omega) (by omega)) (fun _ => ⟨fun z => absurd z (by decide), fun _ => ⟨(i32 (by omega) (by omega)), (by omega), (by omega), ?_⟩⟩) (fun z => absurd ht z)))
  rw [hq.2.1]
  refine ⟨fun q => h1 ?_, fun q => ⟨by split <;> exact (i32 (by omega) (by omega)), h0 ?_⟩⟩
  · rcases gg.2.1 with z | z
    · rw [if_neg (by omega)] at q; omega
    · exact z
  · rcases gg.2.1 with z | z
    · exact z
    · rw [if_pos z] at q; exact absurd rfl q
theorem c_travellerOn (hb : b = 27 ∨ b = 37) (hL : rLandOk A) (hS : rStOk A) (hC : cSt A b M) {k : Int} (hk : in32 k) (ht : ∀ t, 0 ≤ t → t < A 330 → rOn A k t → (∀ u, 0 ≤ u → u < t → ¬ rOn A k u) → post t M) (hf : (∀ u, 0 ≤ u → u < A 330 → ¬ rOn A k u) → post (-1) M) : QCm X x (d + 1) 1 yX6_travellerOn [(2, b), (0, k)] M post := by
  have hT := hS.2.2.2.1
  have hcl := hL.cells
  have a3 := hL.2.2.1
  have h6 : M b 6 = A 330 := hC.2.2.2.2.2.1
  have key : ∀ i : Int, 0 ≤ i ∧ i ≤ A 330 ∧ (∀ u, 0 ≤ u → u < i → ¬ rOn A k u) → QRm X x (d + 1) qmX6_travellerOn post 2 [(0, (2, b)), (1, (0, k)), (2, (0, i))] [] M := by
    refine int_up (A 330) (fun i hi g => ?_) (fun i hi ih g => ?_)
    · refine TX6_travellerOn_2 hb ?_
      rw [h6]
      exact ⟨(i32 (by omega) (by omega)), (i32 (by omega) (by omega)), fun _ => hf (fun u u0 u1 => g.2.2 u u0 (by omega)), fun z => absurd hi (by omega)⟩
    · have gg := hS.2.2.2.2.1 i g.1 hi
      have hq := hC.2.2.2.2.1 i g.1 hi
      have nx : ¬ rOn A k i → QRm X x (d + 1) qmX6_travellerOn post 2 [(0, (2, b)), (1, (0, k)), (2, (0, i + 1))] [] M := fun hn => ih ⟨(by omega), (by omega), fun u u0 u1 => by
        by_cases z : u = i
        · subst z; exact hn
        · exact g.2.2 u u0 (by omega)⟩
      refine TX6_travellerOn_2 hb ?_
      rw [h6, hq.1, hq.2.1]
      have b8 : in32 (if A (347 + i) = 1 then -2 else A (339 + i)) := by split <;> exact (i32 (by omega) (by omega))
      refine ⟨(i32 (by omega) (by omega)), (i32 (by omega) (by omega)), fun z => absurd hi (by omega), fun _ => ⟨(by omega), (by omega), b8, fun p => nx (fun z => ?_), fun p => ?_⟩⟩
      · have z1 := z.1
        have z2 := z.2.1
        rw [if_neg (by omega)] at p; omega
      · have i0 : A (347 + i) = 0 := by
          rcases gg.2.1 with z | z
          · exact z
          · rw [if_pos z] at p; omega
        rw [if_neg (by omega)] at p ⊢
        have al := gg.2.2.2 i0
        refine c_cellOf hb hS.2.1 hC (by omega) (i32 (by omega) (by omega)) (fun _ => ⟨fun q => ht i g.1 hi ⟨i0, (by omega), q⟩ g.2.2, fun q => ⟨?_, hk, nx (fun z => q z.2.2)⟩⟩) (fun z => absurd (show 0 ≤ A (339 + i) ∧ A (339 + i) < A (60 + A (331 + i)) by omega) z)
        have hl := hS.2.1.1 (A (331 + i)) (by omega) (by omega)
        have hh := (hS.2.1.2.2.1 (16 * A (331 + i) + A (339 + i)) (by omega) (by omega)).1
        rw [← Int.add_assoc] at hh
        exact (i32 (by omega) (by omega))
  exact QC.of qmX6_travellerOn_ok rfl (TX6_travellerOn_0 hb (key 0 ⟨(by omega), (by omega), fun u u0 u1 => (by omega)⟩))
theorem c_yardsLying (hb : b = 27 ∨ b = 37) (hS : rRib A) (hC : cSt A b M) {e : Int} (he : 0 ≤ e ∧ e < 6) (hp : post (rTook A e) M) : QCm X x d 1 yX6_yardsLying [(2, b), (0, e)] M post := by
  have a := hS.1 e he.1 he.2
  have key : ∀ i : Int, 0 ≤ i ∧ i ≤ A (60 + e) → QRm X x d qmX6_yardsLying post 4 [(0, (2, b)), (1, (0, e)), (2, (0, rSum A (162 + 16 * e) i.toNat)), (3, (0, i))] [] M := by
    refine int_up (A (60 + e)) (fun i hi h => ?_) (fun i hi ih h => ?_)
    · refine TX6_yardsLying_4 hb ?_
      rw [hC.1 e he.1 he.2]
      refine ⟨(by omega), (by omega), (i32 (by omega) (by omega)), (i32 (by omega) (by omega)), fun _ => ?_, fun z => absurd hi (by omega)⟩
      rw [show i = A (60 + e) by omega]; exact hp
    · refine TX6_yardsLying_4 hb ?_
      rw [hC.1 e he.1 he.2]
      refine ⟨(by omega), (by omega), (i32 (by omega) (by omega)), (i32 (by omega) (by omega)), fun z => absurd hi (by omega), fun _ => ⟨fun z => absurd z (by omega), fun _ => ⟨(by omega), (by omega), ?_⟩⟩⟩
      have := ih ⟨(by omega), (by omega)⟩
      rw [show (i + 1).toNat = i.toNat + 1 by omega, rSum, show ((i.toNat : Nat) : Int) = i by omega] at this
      rw [Int.mul_comm e 16, (hC.2.2.1 e i he.1 he.2 (by omega) (by omega)).2]
      exact this
  exact QC.of qmX6_yardsLying_ok rfl (TX6_yardsLying_0 hb (key 0 ⟨(by omega), (by omega)⟩))
end Cls52
