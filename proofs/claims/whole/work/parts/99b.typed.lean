/-- a part of a law that can be reckoned -/
def lawC (c : Int → Int) (i : Nat) : Prop := 0 ≤ c i ∧ c i ≤ 3008 ∧ (c i < 3000 → c i < 1005 ∧ 0 ≤ lawHi c i ∧ lawHi c i < 18) ∧ (c i = 3006 → 1 ≤ lawHi c i ∧ lawHi c i ≤ 18 ∧ lawTy c i (lawHi c i - 1) = true) ∧ (3000 ≤ c i → c i ≠ 3006 → 2 ≤ lawHi c i ∧ lawHi c i ≤ 18) ∧ (3007 ≤ c i → lawTy c i (lawHi c i - 1) = true ∧ lawTy c i (lawHi c i - 2) = true)
def tyS (c : Int → Int) (p : Nat) (l : List Int) : Prop := ∀ q : Nat, q < l.length → c ((p + q : Nat) : Int) = l.getD q 0
theorem tyS.app {c : Int → Int} {p : Nat} {l r : List Int} (h : tyS c p (l ++ r)) : tyS c p l ∧ tyS c (p + l.length) r := by
  refine ⟨fun q hq => ?_, fun q hq => ?_⟩
  · have := h q (by rw [List.length_append]; omega)
    rw [getD_app, if_pos hq] at this; exact this
  · have := h (l.length + q) (by rw [List.length_append]; omega)
    rw [getD_app, if_neg (by omega), show l.length + q - l.length = q by omega] at this
    rw [show p + l.length + q = p + (l.length + q) by omega]; exact this
theorem tyS.cons {c : Int → Int} {p : Nat} {v : Int} {r : List Int} (h : tyS c p (v :: r)) : c (p : Int) = v ∧ tyS c (p + 1) r := by
  have := tyS.app (l := [v]) (r := r) h
  exact ⟨this.1 0 (by show 0 < 1; omega), this.2⟩
/-- a stretch of a law: from p to q, over a stack h high -/
def tyG (c : Int → Int) (p q : Nat) (h : Int) (tr : Prop) : Prop := (∀ i, p ≤ i → i < q → lawC c i) ∧ lawHi c q = h + 1 ∧ (∀ j, j < h → lawTy c q j = lawTy c p j) ∧ (tr → lawTy c q h = true)
theorem ty_push {c : Int → Int} {p : Nat} {h : Int} (hh : 0 ≤ h ∧ h < 18) (e : lawHi c p = h) (hc : 0 ≤ c p ∧ c p < 1005) {tr : Prop} (nt : ¬ tr) : tyG c p (p + 1) h tr := by
  refine ⟨fun i i0 i1 => ?_, ?_, fun j hj => ?_, fun z => absurd z nt⟩
  · have : i = p := (by omega)
    subst this
    refine ⟨hc.1, (by omega), fun _ => ⟨hc.2, (by omega), (by omega)⟩, fun z => absurd z (by omega), fun z => absurd z (by omega), fun z => absurd z (by omega)⟩
  · rw [lawHi, if_pos (by omega), e]
  · rw [lawTy, if_pos (by omega), e]
    show (if j = h then false else lawTy c p j) = _
    rw [if_neg (by omega)]
theorem ty_op {c : Int → Int} {p : Nat} {h : Int} (hh : 0 ≤ h ∧ h ≤ 16) (e : lawHi c p = h + 2) (hc : 3000 ≤ c p ∧ c p ≤ 3008 ∧ c p ≠ 3006) (ht : 3007 ≤ c p → lawTy c p (h + 1) = true ∧ lawTy c p h = true) : lawC c p ∧ lawHi c (p + 1) = h + 1 ∧ (∀ j, j < h → lawTy c (p + 1) j = lawTy c p j) ∧ (3003 ≤ c p → lawTy c (p + 1) h = true) := by
  refine ⟨⟨(by omega), hc.2.1, fun z => absurd z (by omega), fun z => absurd z hc.2.2, fun _ _ => by rw [e]; omega, fun z => ?_⟩, ?_, fun j hj => ?_, fun z => ?_⟩
  · rw [e, show h + 2 - 1 = h + 1 by omega, show h + 2 - 2 = h by omega]; exact ht z
  · rw [lawHi, if_neg (by omega), if_neg hc.2.2, e]; omega
  · rw [lawTy, if_neg (by omega), if_neg hc.2.2, e]
    show (if j = h + 2 - 2 then _ else lawTy c p j) = _
    rw [if_neg (by omega)]
  · rw [lawTy, if_neg (by omega), if_neg hc.2.2, e]
    show (if h = h + 2 - 2 then decide (3003 ≤ c p) else _) = _
    rw [if_pos (by omega)]; exact decide_eq_true z
def pDp (sel : Nat) : Int := [1, 2, 2, 3, 3, 4, 5, 5, 6, 6].getD sel 0
def pRs (sel : Nat) : Int := [0, 0, 1, 0, 1, 0, 0, 1, 0, 1].getD sel 0
theorem pz_ty {kd vl : Nat → Int} {m : Int} (hv : ∀ i, kd i = 23 → 0 ≤ vl i ∧ vl i ≤ 999) : ∀ (f sel k i : Nat), sel ≤ 9 → k ≤ 6 → (pz kd vl m f sel k i).1 = 0 → ∀ (c : Int → Int) (p : Nat) (h : Int), tyS c p (pz kd vl m f sel k i).2.2 → 0 ≤ h → h + pDp sel + 2 * (6 - (k : Int)) ≤ 18 → lawHi c p = h + pRs sel → (sel = 7 ∨ sel = 9 → lawTy c p h = true) → tyG c p (p + (pz kd vl m f sel k i).2.2.length) h (5 ≤ sel) := by
  intro f
  induction f with
  | zero =>
    intro sel k i _ _ h0
    have : (9 : Int) = 0 := h0
    omega
  | succ f ih =>
    intro sel k i hs hk
    have two : ∀ a b : Nat, a ≤ 9 → b ≤ 9 → pDp a ≤ pDp sel → pDp b = pDp sel → pRs a = 0 → pRs b = 1 → pRs sel = 0 → a ≠ 7 → a ≠ 9 → (5 ≤ sel ↔ 5 ≤ a) → (5 ≤ sel ↔ 5 ≤ b) → ∀ r, r = (let r := pz kd vl m f a k i; if r.1 ≠ 0 then r else (let s := pz kd vl m f b k r.2.1; (s.1, s.2.1, r.2.2 ++ s.2.2))) → r.1 = 0 → ∀ (c : Int → Int) (p : Nat) (h : Int), tyS c p r.2.2 → 0 ≤ h → h + pDp sel + 2 * (6 - (k : Int)) ≤ 18 → lawHi c p = h + pRs sel → tyG c p (p + r.2.2.length) h (5 ≤ sel) := by
      intro a b ha hb da db ra rb rs na7 na9 ta tb r er
      have er' : r = (if (pz kd vl m f a k i).1 ≠ 0 then pz kd vl m f a k i else ((pz kd vl m f b k (pz kd vl m f a k i).2.1).1, (pz kd vl m f b k (pz kd vl m f a k i).2.1).2.1, (pz kd vl m f a k i).2.2 ++ (pz kd vl m f b k (pz kd vl m f a k i).2.1).2.2)) := er
      clear er
      intro h0 c p h hS hh hd hhi
      have iA := ih a k i ha hk
      by_cases z : (pz kd vl m f a k i).1 ≠ 0
      · rw [if_pos z] at er'
        rw [er'] at h0
        exact absurd h0 z
      · have z2 : (pz kd vl m f a k i).1 = 0 := Classical.byContradiction z
        rw [if_neg z] at er'
        generalize pz kd vl m f a k i = u at *
        have iB := ih b k u.2.1 hb hk
        generalize pz kd vl m f b k u.2.1 = w at *
        subst er'
        have hS' := tyS.app hS
        have A1 := iA z2 c p h hS'.1 hh (by omega) (by omega) (fun q => by omega)
        have B1 := iB h0 c (p + u.2.2.length) h hS'.2 hh (by omega) (by rw [A1.2.1]; omega) (fun q => A1.2.2.2 (ta.1 (tb.2 (by omega))))
        show tyG c p (p + (u.2.2 ++ w.2.2).length) h (5 ≤ sel)
        rw [List.length_append, ← Nat.add_assoc]
        refine ⟨fun j j0 j1 => ?_, B1.2.1, fun j hj => (B1.2.2.1 j hj).trans (A1.2.2.1 j hj), fun q => B1.2.2.2 (tb.1 q)⟩
        by_cases q : j < p + u.2.2.length
        · exact A1.1 j j0 q
        · exact B1.1 j (by omega) j1
    have rest : ∀ (a : Nat) (v : Int), a ≤ 9 → sel = 2 ∨ sel = 4 ∨ sel = 7 ∨ sel = 9 → pDp a + 1 = pDp sel → pRs a = 0 → a ≠ 7 → a ≠ 9 → (3000 ≤ v ∧ v ≤ 3008 ∧ v ≠ 3006) → (5 ≤ sel → 5 ≤ a ∧ 3007 ≤ v) → (¬ 5 ≤ sel → v < 3003) → ∀ r, r = (let r := pz kd vl m f a k (i + 1); if r.1 ≠ 0 then r else (let s := pz kd vl m f sel k r.2.1; (s.1, s.2.1, r.2.2 ++ v :: s.2.2))) → r.1 = 0 → ∀ (c : Int → Int) (p : Nat) (h : Int), tyS c p r.2.2 → 0 ≤ h → h + pDp sel + 2 * (6 - (k : Int)) ≤ 18 → lawHi c p = h + pRs sel → (sel = 7 ∨ sel = 9 → lawTy c p h = true) → tyG c p (p + r.2.2.length) h (5 ≤ sel) := by
      intro a v ha hsel da ra na7 na9 hv0 ht1 ht2 r er
      have rs : pRs sel = 1 := by rcases hsel with q | q | q | q <;> rw [q] <;> rfl
      have er' : r = (if (pz kd vl m f a k (i + 1)).1 ≠ 0 then pz kd vl m f a k (i + 1) else ((pz kd vl m f sel k (pz kd vl m f a k (i + 1)).2.1).1, (pz kd vl m f sel k (pz kd vl m f a k (i + 1)).2.1).2.1, (pz kd vl m f a k (i + 1)).2.2 ++ v :: (pz kd vl m f sel k (pz kd vl m f a k (i + 1)).2.1).2.2)) := er
      clear er
      intro h0 c p h hS hh hd hhi hty
      have iA := ih a k (i + 1) ha hk
      by_cases z : (pz kd vl m f a k (i + 1)).1 ≠ 0
      · rw [if_pos z] at er'
        rw [er'] at h0
        exact absurd h0 z
      · have z2 : (pz kd vl m f a k (i + 1)).1 = 0 := Classical.byContradiction z
        rw [if_neg z] at er'
        generalize pz kd vl m f a k (i + 1) = u at *
        have iB := ih sel k u.2.1 hs hk
        generalize pz kd vl m f sel k u.2.1 = w at *
        subst er'
        have hS' := tyS.app hS
        have hS2 := tyS.cons hS'.2
        have A1 := iA z2 c p (h + 1) hS'.1 (by omega) (by omega) (by omega) (fun q => by omega)
        have O1 := ty_op (c := c) (p := p + u.2.2.length) (h := h) ⟨hh, by
          have : 2 ≤ pDp sel := by rcases hsel with q | q | q | q <;> rw [q] <;> decide
          omega⟩ (by rw [A1.2.1]; omega) (by rw [hS2.1]; exact hv0) (fun q => by
          rw [hS2.1] at q
          have s5 : 5 ≤ sel := Classical.byContradiction (fun y => by have := ht2 y; omega)
          refine ⟨A1.2.2.2 (ht1 s5).1, ?_⟩
          rw [A1.2.2.1 h (by omega)]; exact hty (by omega))
        have B1 := iB h0 c (p + u.2.2.length + 1) h hS2.2 hh hd (by rw [O1.2.1, rs]) (fun q => O1.2.2.2 (by rw [hS2.1]; have := (ht1 (by omega)).2; omega))
        show tyG c p (p + (u.2.2 ++ v :: w.2.2).length) h (5 ≤ sel)
        rw [List.length_append, List.length_cons, show p + (u.2.2.length + (w.2.2.length + 1)) = p + u.2.2.length + 1 + w.2.2.length by omega]
        refine ⟨fun j j0 j1 => ?_, B1.2.1, fun j hj => (B1.2.2.1 j hj).trans ((O1.2.2.1 j hj).trans (A1.2.2.1 j (by omega))), fun q => B1.2.2.2 q⟩
        by_cases q : j < p + u.2.2.length
        · exact A1.1 j j0 q
        · by_cases q2 : j = p + u.2.2.length
          · subst q2; exact O1.1
          · exact B1.1 j (by omega) j1
    have nil : ∀ (c : Int → Int) (p : Nat) (h : Int), pRs sel = 1 → lawHi c p = h + pRs sel → (5 ≤ sel → lawTy c p h = true) → tyG c p (p + 0) h (5 ≤ sel) := fun c p h e hhi hty => ⟨fun j j0 j1 => absurd j1 (by omega), by show lawHi c p = h + 1; rw [hhi, e], fun _ _ => rfl, hty⟩
    have hfl : ∀ (w : Int) (j : Nat), 1 ≤ w → (pFl kd w j).1 ≠ 0 := fun w j hw => pFl_ne hw
    have kk : ∀ z : Nat, ((z + 1 : Nat) : Int) = (z : Int) + 1 := fun z => by omega
    have : sel = 0 ∨ sel = 1 ∨ sel = 2 ∨ sel = 3 ∨ sel = 4 ∨ sel = 5 ∨ sel = 6 ∨ sel = 7 ∨ sel = 8 ∨ sel = 9 := (by omega)
    rcases this with rfl | rfl | rfl | rfl | rfl | rfl | rfl | rfl | rfl | rfl
    · have e : pz kd vl m (f + 1) 0 k i = (if kd i = 23 then (0, i + 1, [vl i]) else if pWd m (kd i) ≠ -1 then (0, i + 1, [1000 + pWd m (kd i)]) else if kd i = 35 then (if k = 6 then pFl kd 4 i else (if (pz kd vl m f 3 (k + 1) (i + 1)).1 ≠ 0 then pz kd vl m f 3 (k + 1) (i + 1) else if kd (pz kd vl m f 3 (k + 1) (i + 1)).2.1 = 36 then (0, (pz kd vl m f 3 (k + 1) (i + 1)).2.1 + 1, (pz kd vl m f 3 (k + 1) (i + 1)).2.2) else pFl kd 2 (pz kd vl m f 3 (k + 1) (i + 1)).2.1)) else pFl kd 2 i) := rfl
      rw [e]
      clear e
      by_cases a : kd i = 23
      · rw [if_pos a]
        intro _ c p h hS hh hd hhi _
        have hS' := tyS.cons (r := []) hS
        have := hv i a
        have hd' : h + 1 + 2 * (6 - (k : Int)) ≤ 18 := hd
        exact ty_push (p := p) ⟨hh, (by omega)⟩ (by rw [hhi]; show h + 0 = h; omega) (by rw [hS'.1]; omega) (by decide)
      rw [if_neg a]
      by_cases a2 : pWd m (kd i) ≠ -1
      · rw [if_pos a2]
        intro _ c p h hS hh hd hhi _
        have hS' := tyS.cons (r := []) hS
        have := pWd_b m (kd i)
        have hd' : h + 1 + 2 * (6 - (k : Int)) ≤ 18 := hd
        exact ty_push (p := p) ⟨hh, (by omega)⟩ (by rw [hhi]; show h + 0 = h; omega) (by rw [hS'.1]; omega) (by decide)
      rw [if_neg a2]
      by_cases a3 : kd i = 35
      · rw [if_pos a3]
        by_cases k6 : k = 6
        · rw [if_pos k6]; intro h0; exact absurd h0 (hfl 4 i (by decide))
        rw [if_neg k6]
        have iA := ih 3 (k + 1) (i + 1) (by decide) (by omega)
        by_cases z : (pz kd vl m f 3 (k + 1) (i + 1)).1 ≠ 0
        · rw [if_pos z]; intro h0; exact absurd h0 z
        rw [if_neg z]
        have z2 : (pz kd vl m f 3 (k + 1) (i + 1)).1 = 0 := Classical.byContradiction z
        generalize pz kd vl m f 3 (k + 1) (i + 1) = u at *
        by_cases y : kd u.2.1 = 36
        · rw [if_pos y]
          intro _ c p h hS hh hd hhi _
          have hd' : h + 1 + 2 * (6 - (k : Int)) ≤ 18 := hd
          have A1 := iA z2 c p h hS hh (by show h + 3 + 2 * (6 - ((k + 1 : Nat) : Int)) ≤ 18; rw [kk]; omega) hhi (fun q => by omega)
          exact ⟨A1.1, A1.2.1, A1.2.2.1, fun q => absurd q (by decide)⟩
        · rw [if_neg y]; intro h0; exact absurd h0 (hfl 2 _ (by decide))
      · rw [if_neg a3]; intro h0; exact absurd h0 (hfl 2 i (by decide))
    · exact fun h0 c p h hS hh hd hhi _ => two 0 2 (by decide) (by decide) (by decide) rfl rfl rfl rfl (by decide) (by decide) (by decide) (by decide) _ rfl h0 c p h hS hh hd hhi
    · have e : pz kd vl m (f + 1) 2 k i = (if kd i = 34 then (let r := pz kd vl m f 0 k (i + 1); if r.1 ≠ 0 then r else (let s := pz kd vl m f 2 k r.2.1; (s.1, s.2.1, r.2.2 ++ 3002 :: s.2.2))) else (0, i, [])) := rfl
      rw [e]
      by_cases a : kd i = 34
      · rw [if_pos a]; exact rest 0 3002 (by decide) (by decide) rfl rfl (by decide) (by decide) (by decide) (by decide) (by decide) _ rfl
      · rw [if_neg a]; exact fun _ c p h _ _ _ hhi _ => nil c p h rfl hhi (fun q => absurd q (by decide))
    · exact fun h0 c p h hS hh hd hhi _ => two 1 4 (by decide) (by decide) (by decide) rfl rfl rfl rfl (by decide) (by decide) (by decide) (by decide) _ rfl h0 c p h hS hh hd hhi
    · have e : pz kd vl m (f + 1) 4 k i = (if kd i = 32 then (let r := pz kd vl m f 1 k (i + 1); if r.1 ≠ 0 then r else (let s := pz kd vl m f 4 k r.2.1; (s.1, s.2.1, r.2.2 ++ 3000 :: s.2.2))) else if kd i = 33 then (let r := pz kd vl m f 1 k (i + 1); if r.1 ≠ 0 then r else (let s := pz kd vl m f 4 k r.2.1; (s.1, s.2.1, r.2.2 ++ 3001 :: s.2.2))) else (0, i, [])) := rfl
      rw [e]
      by_cases a : kd i = 32
      · rw [if_pos a]; exact rest 1 3000 (by decide) (by decide) rfl rfl (by decide) (by decide) (by decide) (by decide) (by decide) _ rfl
      · rw [if_neg a]
        by_cases a2 : kd i = 33
        · rw [if_pos a2]; exact rest 1 3001 (by decide) (by decide) rfl rfl (by decide) (by decide) (by decide) (by decide) (by decide) _ rfl
        · rw [if_neg a2]; exact fun _ c p h _ _ _ hhi _ => nil c p h rfl hhi (fun q => absurd q (by decide))
    · have e : pz kd vl m (f + 1) 5 k i = (if kd i = 13 then (if k = 6 then pFl kd 4 i else (if (pz kd vl m f 5 (k + 1) (i + 1)).1 ≠ 0 then pz kd vl m f 5 (k + 1) (i + 1) else (0, (pz kd vl m f 5 (k + 1) (i + 1)).2.1, (pz kd vl m f 5 (k + 1) (i + 1)).2.2 ++ [3006]))) else if kd i = 37 then (if k = 6 then pFl kd 4 i else (if (pz kd vl m f 8 (k + 1) (i + 1)).1 ≠ 0 then pz kd vl m f 8 (k + 1) (i + 1) else if kd (pz kd vl m f 8 (k + 1) (i + 1)).2.1 = 38 then (0, (pz kd vl m f 8 (k + 1) (i + 1)).2.1 + 1, (pz kd vl m f 8 (k + 1) (i + 1)).2.2) else pFl kd 2 (pz kd vl m f 8 (k + 1) (i + 1)).2.1)) else (if (pz kd vl m f 3 k i).1 ≠ 0 then pz kd vl m f 3 k i else if kd (pz kd vl m f 3 k i).2.1 = 39 ∨ kd (pz kd vl m f 3 k i).2.1 = 40 ∨ kd (pz kd vl m f 3 k i).2.1 = 41 then (if (pz kd vl m f 3 k ((pz kd vl m f 3 k i).2.1 + 1)).1 ≠ 0 then pz kd vl m f 3 k ((pz kd vl m f 3 k i).2.1 + 1) else (0, (pz kd vl m f 3 k ((pz kd vl m f 3 k i).2.1 + 1)).2.1, (pz kd vl m f 3 k i).2.2 ++ (pz kd vl m f 3 k ((pz kd vl m f 3 k i).2.1 + 1)).2.2 ++ [kd (pz kd vl m f 3 k i).2.1 - 39 + 3003])) else pFl kd 2 (pz kd vl m f 3 k i).2.1)) := rfl
      rw [e]
      clear e
      by_cases a : kd i = 13
      · rw [if_pos a]
        by_cases k6 : k = 6
        · rw [if_pos k6]; intro h0; exact absurd h0 (hfl 4 i (by decide))
        rw [if_neg k6]
        have iA := ih 5 (k + 1) (i + 1) (by decide) (by omega)
        by_cases z : (pz kd vl m f 5 (k + 1) (i + 1)).1 ≠ 0
        · rw [if_pos z]; intro h0; exact absurd h0 z
        rw [if_neg z]
        have z2 : (pz kd vl m f 5 (k + 1) (i + 1)).1 = 0 := Classical.byContradiction z
        generalize pz kd vl m f 5 (k + 1) (i + 1) = u at *
        intro _ c p h hS hh hd hhi _
        have hd' : h + 4 + 2 * (6 - (k : Int)) ≤ 18 := hd
        have hS' := tyS.app hS
        have hS2 := tyS.cons hS'.2
        have A1 := iA z2 c p h hS'.1 hh (by show h + 4 + 2 * (6 - ((k + 1 : Nat) : Int)) ≤ 18; rw [kk]; omega) hhi (fun q => by omega)
        have tt := A1.2.2.2 (by decide)
        show tyG c p (p + (u.2.2 ++ [3006]).length) h _
        rw [List.length_append, ← Nat.add_assoc]
        refine ⟨fun j j0 j1 => ?_, ?_, fun j hj => ?_, fun _ => ?_⟩
        · by_cases q : j < p + u.2.2.length
          · exact A1.1 j j0 q
          · have j1' : j < p + u.2.2.length + 1 := j1
            have : j = p + u.2.2.length := (by omega)
            subst this
            have e6 := hS2.1
            refine ⟨(by omega), (by omega), fun q => absurd q (by omega), fun _ => ?_, fun _ q => absurd e6 q, fun q => absurd q (by omega)⟩
            rw [A1.2.1, show h + 1 - 1 = h by omega]
            exact ⟨(by omega), (by omega), tt⟩
        · show lawHi c (p + u.2.2.length + 1) = _
          rw [lawHi, if_neg (by rw [hS2.1]; decide), if_pos hS2.1, A1.2.1]
        · show lawTy c (p + u.2.2.length + 1) j = _
          rw [lawTy, if_neg (by rw [hS2.1]; decide), if_pos hS2.1]; exact A1.2.2.1 j hj
        · show lawTy c (p + u.2.2.length + 1) h = _
          rw [lawTy, if_neg (by rw [hS2.1]; decide), if_pos hS2.1]; exact tt
      rw [if_neg a]
      by_cases a3 : kd i = 37
      · rw [if_pos a3]
        by_cases k6 : k = 6
        · rw [if_pos k6]; intro h0; exact absurd h0 (hfl 4 i (by decide))
        rw [if_neg k6]
        have iA := ih 8 (k + 1) (i + 1) (by decide) (by omega)
        by_cases z : (pz kd vl m f 8 (k + 1) (i + 1)).1 ≠ 0
        · rw [if_pos z]; intro h0; exact absurd h0 z
        rw [if_neg z]
        have z2 : (pz kd vl m f 8 (k + 1) (i + 1)).1 = 0 := Classical.byContradiction z
        generalize pz kd vl m f 8 (k + 1) (i + 1) = u at *
        by_cases y : kd u.2.1 = 38
        · rw [if_pos y]
          intro _ c p h hS hh hd hhi _
          have hd' : h + 4 + 2 * (6 - (k : Int)) ≤ 18 := hd
          have A1 := iA z2 c p h hS hh (by show h + 6 + 2 * (6 - ((k + 1 : Nat) : Int)) ≤ 18; rw [kk]; omega) hhi (fun q => by omega)
          exact ⟨A1.1, A1.2.1, A1.2.2.1, fun _ => A1.2.2.2 (by decide)⟩
        · rw [if_neg y]; intro h0; exact absurd h0 (hfl 2 _ (by decide))
      · rw [if_neg a3]
        have iA := ih 3 k i (by decide) hk
        by_cases z : (pz kd vl m f 3 k i).1 ≠ 0
        · rw [if_pos z]; intro h0; exact absurd h0 z
        rw [if_neg z]
        have z2 : (pz kd vl m f 3 k i).1 = 0 := Classical.byContradiction z
        generalize pz kd vl m f 3 k i = u at *
        by_cases y : kd u.2.1 = 39 ∨ kd u.2.1 = 40 ∨ kd u.2.1 = 41
        · rw [if_pos y]
          have iB := ih 3 k (u.2.1 + 1) (by decide) hk
          by_cases zz : (pz kd vl m f 3 k (u.2.1 + 1)).1 ≠ 0
          · rw [if_pos zz]; intro h0; exact absurd h0 zz
          rw [if_neg zz]
          have z3 : (pz kd vl m f 3 k (u.2.1 + 1)).1 = 0 := Classical.byContradiction zz
          generalize pz kd vl m f 3 k (u.2.1 + 1) = w at *
          intro _ c p h hS hh hd hhi _
          have hd' : h + 4 + 2 * (6 - (k : Int)) ≤ 18 := hd
          have hS1 := tyS.app hS
          have hS' := tyS.app hS1.1
          have hS2 := tyS.cons hS1.2
          have A1 := iA z2 c p h hS'.1 hh (by show h + 3 + 2 * (6 - (k : Int)) ≤ 18; omega) hhi (fun q => by omega)
          have B1 := iB z3 c (p + u.2.2.length) (h + 1) hS'.2 (by omega) (by show h + 1 + 3 + 2 * (6 - (k : Int)) ≤ 18; omega) (by rw [A1.2.1]; show h + 1 = h + 1 + 0; omega) (fun q => by omega)
          rw [List.length_append, ← Nat.add_assoc] at hS2
          have O1 := ty_op (c := c) (p := p + u.2.2.length + w.2.2.length) (h := h) ⟨hh, (by omega)⟩ (by rw [B1.2.1]; omega) (by rw [hS2.1]; omega) (fun q => by rw [hS2.1] at q; omega)
          show tyG c p (p + (u.2.2 ++ w.2.2 ++ [kd u.2.1 - 39 + 3003]).length) h _
          rw [List.length_append, List.length_append, show p + (u.2.2.length + w.2.2.length + [kd u.2.1 - 39 + 3003].length) = p + u.2.2.length + w.2.2.length + 1 by show _ + (_ + 1) = _; omega]
          refine ⟨fun j j0 j1 => ?_, O1.2.1, fun j hj => (O1.2.2.1 j hj).trans ((B1.2.2.1 j (by omega)).trans (A1.2.2.1 j hj)), fun _ => O1.2.2.2 (by rw [hS2.1]; omega)⟩
          by_cases q : j < p + u.2.2.length
          · exact A1.1 j j0 q
          · by_cases q2 : j < p + u.2.2.length + w.2.2.length
            · exact B1.1 j (by omega) q2
            · have : j = p + u.2.2.length + w.2.2.length := (by omega)
              subst this; exact O1.1
        · rw [if_neg y]; intro h0; exact absurd h0 (hfl 2 _ (by decide))
    · exact fun h0 c p h hS hh hd hhi _ => two 5 7 (by decide) (by decide) (by decide) rfl rfl rfl rfl (by decide) (by decide) (by decide) (by decide) _ rfl h0 c p h hS hh hd hhi
    · have e : pz kd vl m (f + 1) 7 k i = (if kd i = 11 then (let r := pz kd vl m f 5 k (i + 1); if r.1 ≠ 0 then r else (let s := pz kd vl m f 7 k r.2.1; (s.1, s.2.1, r.2.2 ++ 3007 :: s.2.2))) else (0, i, [])) := rfl
      rw [e]
      by_cases a : kd i = 11
      · rw [if_pos a]; exact rest 5 3007 (by decide) (by decide) rfl rfl (by decide) (by decide) (by decide) (by decide) (by decide) _ rfl
      · rw [if_neg a]; exact fun _ c p h _ _ _ hhi hty => nil c p h rfl hhi (fun _ => hty (by decide))
    · exact fun h0 c p h hS hh hd hhi _ => two 6 9 (by decide) (by decide) (by decide) rfl rfl rfl rfl (by decide) (by decide) (by decide) (by decide) _ rfl h0 c p h hS hh hd hhi
    · have e : pz kd vl m (f + 1) 9 k i = (if kd i = 12 then (let r := pz kd vl m f 6 k (i + 1); if r.1 ≠ 0 then r else (let s := pz kd vl m f 9 k r.2.1; (s.1, s.2.1, r.2.2 ++ 3008 :: s.2.2))) else (0, i, [])) := rfl
      rw [e]
      by_cases a : kd i = 12
      · rw [if_pos a]; exact rest 6 3008 (by decide) (by decide) rfl rfl (by decide) (by decide) (by decide) (by decide) (by decide) _ rfl
      · rw [if_neg a]; exact fun _ c p h _ _ _ hhi hty => nil c p h rfl hhi (fun _ => hty (by decide))
