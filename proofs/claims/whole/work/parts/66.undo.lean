/-- n deeds are undone -/
def rUndo (A : Int → Int) (n : Int) : Int → Int := fun j => if j = 363 then A 363 - n else if 52 ≤ j ∧ j < 363 then A (j + 312 + 311 * (A 363 - n)) else A j
section Undo66
variable {X : QX} {x : Int} {d : Nat} {post : Int → QMem → Prop} {M : QMem} {cont : Int → Int → QMem → Prop}
theorem qx10 : ∀ i : Fin 20, (0 ≤ (i.val : Int) - 10 → qxor ((i.val : Int) - 10) 10 ≥ 0) ∧ (¬ 0 ≤ (i.val : Int) - 10 → qxor ((i.val : Int) - 10) 10 < 0) := by decide +kernel
theorem j_floorMod {a : Int} (h : -10 ≤ a ∧ a < 10) (hp : post (a % 10) M) : QCm X x d 1 yJ9_floorMod_7cf53 [(0, a), (0, 10)] M post := by
  have q := qx10 ⟨(a + 10).toNat, by omega⟩
  have e : (((⟨(a + 10).toNat, by omega⟩ : Fin 20).val : Nat) : Int) - 10 = a := by show ((a + 10).toNat : Int) - 10 = a; omega
  rw [e] at q
  have b : in32 (qxor a 10) := ⟨Int32.minValue_le_toInt _, Int32.toInt_le _⟩
  by_cases z : 0 ≤ a
  · have t : a.tmod 10 = a % 10 := Int.tmod_eq_emod_of_nonneg z
    exact QC.of qmJ9_floorMod_7cf53_ok rfl (TJ9_floorMod_7cf53_0 ⟨(i32 (by omega) (by omega)), (i32 (by omega) (by omega)), (by omega), b, fun _ => by rw [t]; exact hp, fun y => absurd (q.1 z) y⟩)
  · have n := q.2 z
    have t0 : a.tmod 10 = -((-a) % 10) := by
      have := Int.neg_tmod (-a) 10
      rw [Int.neg_neg] at this
      rw [this, Int.tmod_eq_emod_of_nonneg (by omega)]
    refine QC.of qmJ9_floorMod_7cf53_ok rfl (TJ9_floorMod_7cf53_0 ⟨(i32 (by omega) (by omega)), (i32 (by omega) (by omega)), (by omega), b, fun y => absurd y (by omega), fun _ => ⟨fun y => ?_, fun y => ⟨?_, ?_⟩⟩⟩)
    · rw [t0] at y ⊢
      rw [show -(-a % 10) = a % 10 by omega]; exact hp
    · rw [t0]; exact (i32 (by omega) (by omega))
    · rw [t0] at y ⊢
      rw [show -(-a % 10) + 10 = a % 10 by omega]; exact hp
theorem m_undo_loop {A : Int → Int} {K : Int} (hK : 0 ≤ K ∧ K < 10) (hp : ∀ M1, (∀ a, a ≠ 216 → M1 a = M a) → (∀ j, M1 216 j = if 52 ≤ j ∧ j < 363 then A (j + 312 + 311 * K) else if j = 363 then K else A j) → post K M1) : ∀ i : Int, ∀ M1 : QMem, 0 ≤ i ∧ i ≤ 311 ∧ (∀ a, a ≠ 216 → M1 a = M a) ∧ (∀ j, M1 216 j = if 52 ≤ j ∧ j < 52 + i then A (j + 312 + 311 * K) else if j = 363 then K else A j) → QRm X x (d + 1) qmX11_undo post 46 [(0, (2, 215)), (2, (0, i))] [] M1 := by
  refine int_up 311 (fun i hi M1 h => ?_) (fun i hi ih M1 h => ?_)
  · have e : M1 216 363 = K := by rw [h.2.2.2, if_neg (by omega), if_pos rfl]
    refine TX11_undo_46 ⟨(i32 (by omega) (by omega)), fun _ => ?_, fun z => absurd hi (by omega)⟩
    rw [e]
    refine hp M1 h.2.2.1 (fun j => ?_)
    rw [h.2.2.2, show i = 311 by omega]; rfl
  · have e : M1 216 363 = K := by rw [h.2.2.2, if_neg (by omega), if_pos rfl]
    refine TX11_undo_46 ⟨(i32 (by omega) (by omega)), fun z => absurd hi (by omega), fun _ => ?_⟩
    rw [e]
    refine ⟨(by omega), (by omega), (by omega), (by omega), ih _ ⟨(by omega), (by omega), fun a ha => by rw [qup_row ha]; exact h.2.2.1 a ha, fun j => ?_⟩⟩
    rw [qup_at, h.2.2.2, h.2.2.2]
    by_cases z : j = 52 + i
    · rw [if_pos z, if_neg (by omega), if_neg (by omega), if_pos (by omega)]; congr 1; omega
    · rw [if_neg z]
      by_cases y : 52 ≤ j ∧ j < 52 + i
      · rw [if_pos y, if_pos (by omega)]
      · rw [if_neg y, if_neg (by omega : ¬ (52 ≤ j ∧ j < 52 + (i + 1)))]
theorem rel_undo (hR : Rel M) {n : Int} (hn : in32 n) (hp : ∀ v M3, Rel M3 → cont v v M3) : QCm X x (d + 8) 1 yX10_undo [(2, 0), (0, n)] M (fun x1 M1 => QCm X x (d + 8) 1 yX11_undo [(2, 215), (0, n)] M1 (fun x2 M2 => cont x1 x2 M2)) := by
  have hN := hR.2.1.1
  have hs := hR.2.1.2.1
  have hx := hR.2.1.2.2.1
  have a3 := hR.1.1.2.2.1
  have g : gK M (qup M 215 0 0) := gK.thrown M (by decide)
  have R0 := hR.keep g
  have e0 : (qup M 215 0 0) 216 = M 216 := g.all
  have no : ¬ (1 ≤ n ∧ n ≤ M 216 363) → QCm X x (d + 8) 1 yX11_undo [(2, 215), (0, n)] M (fun x2 M2 => cont (-3) x2 M2) := fun z => by
    refine QC.of qmX11_undo_ok rfl (TX11_undo_0 ⟨hn, m_within hn.to64 (i64 (by omega) (by omega)) (i64 (by omega) (by omega)) (fun y => ⟨fun q => absurd q (by decide), fun _ => ⟨(i32 (by omega) (by omega)), ?_⟩⟩) (fun _ => ⟨fun _ => hp _ _ R0, fun q => absurd rfl q⟩)⟩)
    rw [e0]
    exact ⟨(i32 (by omega) (by omega)), fun q => absurd ⟨y.1, q⟩ z, fun _ => hp _ _ R0⟩
  refine QC.of qmX10_undo_ok rfl (TX10_undo_0 ⟨hn, fun z => no (by omega), fun z => ?_⟩)
  rw [hs]
  refine ⟨(i32 (by omega) (by omega)), fun y => ?_, fun y => no (by omega)⟩
  -- the class
  refine QC.of qmX3_bringBack_ok rfl (TX3_bringBack_0 (j_floorMod (by omega) ?_))
  generalize hP : (M 47 1 - n) % 10 = p
  have p10 : 0 ≤ p ∧ p < 10 := (by omega)
  have e47 : (qup M 47 1 p) 47 1 = p := by rw [qup_at, if_pos rfl]
  rw [e47, (qS_kept x p10).1]
  obtain ⟨sO, sC⟩ := hR.2.1.2.2.2 (M 216 363 - n) (by omega) (by omega)
  rw [show (M 47 1 - M 216 363 + (M 216 363 - n)) % 10 = p by rw [← hP]; congr 1; omega] at sC
  generalize hS : rSlot (M 216) (M 216 363 - n) = S at sO sC
  have s3 : S 3 = M 216 3 := by rw [← hS]; unfold rSlot; rw [if_neg (by omega)]
  have sL : ∀ j, j < 52 ∨ 363 ≤ j → S j = M 216 j := fun j hj => by rw [← hS]; unfold rSlot; rw [if_neg (by omega)]
  refine ⟨(by omega), (by omega), c_copyOf (cPair_from p10) (sC.congr (fun a a0 a1 => qup_row (by omega))) sO.2.1.1 (by rw [s3]; exact a3.2) sO.2.2.2.1.2 (fun M2 m1 m2 => ?_)⟩
  have c47 : M2 47 = (qup M 47 1 p) 47 := m1 47 (by omega)
  have c2 : M2 47 2 = M 216 363 := by rw [c47, qup_at, if_neg (by decide)]; exact hs
  rw [c2]
  have f2 : (qup M2 47 2 (M 216 363 - n)) 47 2 = M 216 363 - n := by rw [qup_at, if_pos rfl]
  have f1 : (qup M2 47 2 (M 216 363 - n)) 47 1 = p := by rw [qup_at, if_neg (by decide), c47]; exact e47
  rw [f2]
  have fr : ∀ a, a ≠ 47 → a < 27 ∨ 36 < a → (qup M2 47 2 (M 216 363 - n)) a = M a := fun a a1 a2 => by rw [qup_row a1, m1 a (by omega), qup_row a1]
  have m3 : cSt S 27 (qup M2 47 2 (M 216 363 - n)) := m2.congr (fun a a0 a1 => qup_row (by omega))
  generalize qup M2 47 2 (M 216 363 - n) = M3 at f1 f2 fr m3
  -- the reference
  have e3 : (qup M3 215 0 0) 216 = M 216 := (qup_row (by decide)).trans (fr 216 (by omega) (by omega))
  refine QC.of qmX11_undo_ok rfl (TX11_undo_0 ⟨hn, m_within hn.to64 (i64 (by omega) (by omega)) (i64 (by omega) (by omega)) (fun _ => ⟨fun q => absurd q (by decide), fun _ => ⟨(i32 (by omega) (by omega)), ?_⟩⟩) (fun q => absurd (by omega) q)⟩)
  rw [e3]
  refine ⟨(i32 (by omega) (by omega)), fun _ => ?_, fun q => absurd y q⟩
  refine m_undo_loop (M := qup M3 215 0 0) (A := M 216) (K := M 216 363 - n) (by omega) (fun M4 h1 h2 => ?_) 0 _ ⟨(by omega), (by omega), fun a ha => qup_row ha, fun j => ?_⟩
  rotate_left
  · rw [qup_at, e3, if_neg (show ¬ (52 ≤ j ∧ j < 52 + 0) by omega)]
  have e4 : M4 216 = rUndo (M 216) n := by
    funext j; rw [h2]; unfold rUndo
    repeat' split
    all_goals first | rfl | (exfalso; omega)
  refine hp _ M4 ?_
  have q4 : ∀ a, a ≠ 215 → a ≠ 216 → M4 a = M3 a := fun a a1 a2 => (h1 a a2).trans (qup_row a1)
  have q5 : ∀ j, j ≠ 0 → M4 215 j = M 215 j := fun j hj => by rw [h1 215 (by decide), qup_at, if_neg hj, fr 215 (by omega) (by omega)]
  have fr4 : ∀ a, a ≠ 47 → a < 27 ∨ 36 < a → a ≠ 215 → a ≠ 216 → M4 a = M a := fun a a1 a2 a3 a4 => (q4 a a3 a4).trans (fr a a1 a2)
  have uS : ∀ j, j ≠ 363 → rUndo (M 216) n j = S j := fun j hj => by rw [← hS]; unfold rUndo rSlot; rw [if_neg hj]
  have uA : ∀ j, j < 52 ∨ 363 < j → rUndo (M 216) n j = M 216 j := fun j hj => by rw [uS j (by omega)]; exact sL j (by omega)
  have LS : rLandOk S := hR.1.1.congr (fun j hj => sL j (by omega))
  obtain ⟨h1', h2', h3', h4', h5', h6', h7'⟩ := hR
  unfold Rel
  rw [e4]
  refine ⟨⟨h1'.1.congr (fun j hj => uA j (by omega)), sO.congr (fun j hj => uS j (by omega)) LS, (h1'.2.2.1.congr (fun a ha => fr4 a (by omega) (by omega) (by omega) (by omega))).land_eq h1'.1 (fun j hj => uA j (by omega)), (m3.of_eq (by rw [s3]; exact a3.2) sO.2.1.1 sO.2.2.2.1.2 (fun j hj => uS j (by omega))).congr (fun a a0 a1 => q4 a (by omega) (by omega))⟩, ⟨?_, ?_, ?_, fun i i0 i1 => ?_⟩, ⟨?_, ?_, ?_⟩, ⟨?_, ?_⟩, ?_, ?_, ?_⟩
  · unfold rUndo; rw [if_pos rfl]; omega
  · rw [q4 47 (by omega) (by omega), f2]; unfold rUndo; rw [if_pos rfl]
  · rw [q4 47 (by omega) (by omega), f1]; exact p10
  · have u363 : rUndo (M 216) n 363 = M 216 363 - n := by unfold rUndo; rw [if_pos rfl]
    rw [u363] at i1
    obtain ⟨o1, o2⟩ := h2'.2.2.2 i i0 (by omega)
    have sl : ∀ j, j < 363 → rSlot (rUndo (M 216) n) i j = rSlot (M 216) i j := fun j hj => by
      unfold rSlot
      split
      · exact uA _ (by omega)
      · exact uA j (by omega)
    have L1 : rLandOk (rSlot (M 216) i) := h1'.1.congr (fun j hj => by unfold rSlot; rw [if_neg (by omega)])
    rw [q4 47 (by omega) (by omega), f1, u363]
    have pos : (p - (M 216 363 - n) + i) % 10 = (M 47 1 - M 216 363 + i) % 10 := by omega
    rw [pos]
    have L3 := L1.2.2.1
    exact ⟨o1.congr (fun j hj => sl j (by omega)) L1, (o2.of_eq L3.2 o1.2.1.1 o1.2.2.2.1.2 (fun j hj => sl j (by omega))).congr (fun a a0 a1 => fr4 a (by omega) (by omega) (by omega) (by omega))⟩
  · rw [fr4 0 (by omega) (by omega) (by omega) (by omega)]; exact h3'.1
  · rw [fr4 0 (by omega) (by omega) (by omega) (by omega), q5 5 (by omega)]; exact h3'.2.1
  · rw [fr4 1 (by omega) (by omega) (by omega) (by omega), fr4 218 (by omega) (by omega) (by omega) (by omega)]; exact h3'.2.2
  · rw [fr4 2 (by omega) (by omega) (by omega) (by omega), q5 13 (by omega)]; exact h4'.1
  · rw [fr4 2 (by omega) (by omega) (by omega) (by omega), q5 14 (by omega)]; exact h4'.2
  · exact h5'.congr (fun a ha => fr4 a (by omega) (by omega) (by omega) (by omega))
  · exact (h6'.congr (fun a ha => fr4 a (by omega) (by omega) (by omega) (by omega))).of_eq (fun j hj => uA j (by omega))
  · rw [q5 24 (by omega)]; exact h7'
end Undo66
