theorem bl_shl_gen (a : Int) {j k : Nat} (hj : j < 64) (hk : k < 64) : bt (qlshl a (j : Int)) k = (decide (j ≤ k) && bt a (k - j)) := by
  rw [qlshl, bt_l _ hk, Int64.toBitVec_shiftLeft, BitVec.shiftLeft_eq']
  have e := sh_l j hj
  refine (congrArg (fun s => ((Int64.ofInt a).toBitVec <<< s).getLsbD k) e).trans ?_
  show ((Int64.ofInt a).toBitVec <<< j).getLsbD k = _
  rw [BitVec.getLsbD_shiftLeft, decide_eq_true hk, bt_l' a (by omega)]
  by_cases c : j ≤ k
  · rw [decide_eq_true c, decide_eq_false (by omega)]; rfl
  · rw [decide_eq_false c, decide_eq_true (by omega)]; rfl
/-- one beside another -/
theorem rBeside_iff {A : Int → Int} (hw : 2 ≤ A 1 ∧ A 1 ≤ 6) (hh : 2 ≤ A 2 ∧ A 2 ≤ 6) {k j : Int} (hk : 0 ≤ k ∧ k < A 1 * A 2) (hj : 0 ≤ j ∧ j < A 1 * A 2) : (∃ t, 1 ≤ t ∧ t ≤ 4 ∧ rBeside A k t = j) ↔ (k = j + A 1 ∨ k + A 1 = j ∨ (k + 1 = j ∧ rBeside A k 2 ≠ -1) ∨ (k = j + 1 ∧ rBeside A k 4 ≠ -1)) := by
  have d1 : k.tdiv (A 1) = k / A 1 := Int.tdiv_eq_ediv_of_nonneg hk.1
  have m1 : k.tmod (A 1) = k % A 1 := Int.tmod_eq_emod_of_nonneg hk.1
  have r1 : rBeside A k 1 = if k / A 1 = 0 then -1 else k - A 1 := by rw [← d1]; rfl
  have r2 : rBeside A k 2 = if k % A 1 = A 1 - 1 then -1 else k + 1 := by rw [← m1]; rfl
  have r3 : rBeside A k 3 = if k / A 1 = A 2 - 1 then -1 else k + A 1 := by rw [← d1]; rfl
  have r4 : rBeside A k 4 = if k % A 1 = 0 then -1 else k - 1 := by rw [← m1]; rfl
  have div1 : k / A 1 = 0 ↔ k < A 1 := ⟨fun z => by
    have := Int.lt_ediv_add_one_mul_self k (show 0 < A 1 by omega)
    rw [z] at this; omega, fun z => Int.ediv_eq_zero_of_lt hk.1 z⟩
  have hww : A 1 = 2 ∨ A 1 = 3 ∨ A 1 = 4 ∨ A 1 = 5 ∨ A 1 = 6 := by omega
  have div3 : k / A 1 = A 2 - 1 ↔ A 1 * A 2 ≤ k + A 1 := by
    rcases hww with z | z | z | z | z <;> rw [z] at hk ⊢ <;> omega
  refine ⟨fun ⟨t, t0, t1, h⟩ => ?_, fun h => ?_⟩
  · have : t = 1 ∨ t = 2 ∨ t = 3 ∨ t = 4 := by omega
    rcases this with rfl | rfl | rfl | rfl
    · rw [r1] at h; split at h <;> omega
    · refine Or.inr (Or.inr (Or.inl ⟨?_, by omega⟩))
      rw [r2] at h; split at h <;> omega
    · rw [r3] at h; split at h <;> omega
    · refine Or.inr (Or.inr (Or.inr ⟨?_, by omega⟩))
      rw [r4] at h; split at h <;> omega
  · rcases h with h | h | ⟨h, h2⟩ | ⟨h, h2⟩
    · refine ⟨1, by decide, by decide, ?_⟩
      rw [r1, if_neg (fun z => by have := div1.1 z; omega)]; omega
    · refine ⟨3, by decide, by decide, ?_⟩
      rw [r3, if_neg (fun z => by have := div3.1 z; omega)]; omega
    · refine ⟨2, by decide, by decide, ?_⟩
      rw [r2] at h2 ⊢; split at h2
      · exact absurd rfl h2
      · rename_i q; rw [if_neg q]; omega
    · refine ⟨4, by decide, by decide, ?_⟩
      rw [r4] at h2 ⊢; split at h2
      · exact absurd rfl h2
      · rename_i q; rw [if_neg q]; omega
theorem wHas_op {nx : Int → Int → Int} {op : Int → Prop} {c : Int} : ∀ (ts : List Int) (k : Int), wOk nx op k ts → wHas nx k ts c → op c ∧ c ≠ -1
  | [], _, _, h => h.elim
  | t :: ts, k, w, h => by
    rcases h with h | h
    · rw [← h]; exact ⟨w.2.2.1, w.2.1⟩
    · exact wHas_op ts (nx k t) w.2.2.2 h
theorem wOk_mono {nx : Int → Int → Int} {op oq : Int → Prop} : ∀ (ts : List Int) (k : Int), wOk nx op k ts → (∀ c, op c → wHas nx k ts c → oq c) → wOk nx oq k ts
  | [], _, _, _ => True.intro
  | t :: ts, k, w, h => ⟨w.1, w.2.1, h _ w.2.2.1 (Or.inl rfl), wOk_mono ts (nx k t) w.2.2.2 (fun c o q => h c o (Or.inr q))⟩
/-- the end of a ribbon isn't open to it -/
theorem rEnd_closed {A : Int → Int} (hL : rLandOk A) (hS : rStOk A) {e : Int} (he : 0 ≤ e ∧ e < A 3) : ¬ rOpen A e (rEnd A e) := by
  have a3 := hL.2.2.1
  have h6 := hS.2.1.1 e he.1 (by omega)
  have hE := rEnd_b hL hS.2.1 he.1 he.2
  have hcl := hL.cells
  intro o
  by_cases z : A (60 + e) = 0
  · refine o.2.1 ⟨e, he.1, he.2, ?_⟩
    rw [rEnd, if_pos z]
  · have r := hS.2.1.2.2.2.1 e (A (60 + e) - 1) he.1 (by omega) (by omega) (by omega)
    have en : rEnd A e = A (66 + 16 * e + (A (60 + e) - 1)) := by rw [rEnd, if_neg z]; congr 1; omega
    rw [← en] at r
    rcases r with r | r
    · exact o.2.2.2 r
    · have c := (hS.2.2.1 (rEnd A e) hE.1 (by omega)).2.2 (by omega)
      exact o.2.2.1 (by rw [rLie, if_neg c.1, if_neg (by omega)])
section Needed87
variable {X : QX} {x : Int} {d : Nat} {post : Int → QMem → Prop} {M : QMem} {cont : Int → Int → QMem → Prop} {A : Int → Int}
theorem v_besideAll (hL : rLandOk A) {e v : Int} {p : Int → Prop} (hf : vFld A e M) (hs : vSets A e (A 1 * A 2) M) (hv : wSet v (fun k => k < A 1 * A 2 ∧ p k)) (hp : ∀ w, in64 w → (∀ j : Nat, (j : Int) < A 1 * A 2 → (bt w j = true ↔ ∃ k t, (0 ≤ k ∧ k < A 1 * A 2) ∧ p k ∧ 1 ≤ t ∧ t ≤ 4 ∧ rBeside A k t = j)) → post w M) : QCm X x d 2 yX9_besideAll [(2, 151), (1, v)] M post := by
  have hcl := hL.cells
  have hw := hL.1
  refine QC.of qmX9_besideAll_ok rfl (TX9_besideAll_0 ?_)
  rw [hf.2.1]
  obtain ⟨W, hW⟩ := Int.eq_ofNat_of_zero_le (show 0 ≤ A 1 by omega)
  refine hp _ (qlor_in _ _) (fun j hj => ?_)
  have q1 : bt (qlushr v (A 1)) j = bt v (W + j) := by rw [hW]; exact bl_ushr v (by omega)
  have q2 : bt (qlshl v (A 1)) j = (decide (W ≤ j) && bt v (j - W)) := by rw [hW]; exact bl_shl_gen v (by omega) (by omega)
  have q3 : ∀ z, bt (qlshl z 1) j = (decide (1 ≤ j) && bt z (j - 1)) := fun z => bl_shl_gen z (j := 1) (by omega) (by omega)
  have q4 : ∀ z, bt (qlushr z 1) j = bt z (1 + j) := fun z => bl_ushr z (j := 1) (by omega)
  rw [bl_or _ _ (by omega), bl_or _ _ (by omega), bl_or _ _ (by omega), q1, q2, q3, q4, bl_and _ _ (k := j - 1) (by omega), bl_and _ _ (k := 1 + j) (by omega), bl_not _ (k := j - 1) (by omega), bl_not _ (k := 1 + j) (by omega)]
  simp only [Bool.or_eq_true, Bool.and_eq_true, decide_eq_true_iff, Bool.not_eq_true']
  have hb : ∀ k : Nat, k < 64 → (bt v k = true ↔ (k : Int) < A 1 * A 2 ∧ p k) := hv.2
  have he : ∀ k : Nat, k < 64 → (k : Int) < A 1 * A 2 → (bt (M 151 15) k = false ↔ rBeside A k 2 ≠ -1) := fun k k0 k1 => by
    have := hs.2.2.1.2 k k0
    cases q : bt (M 151 15) k with
    | false => exact ⟨fun _ z => by rw [this.2 ⟨k1, z⟩] at q; exact absurd q (by decide), fun _ => rfl⟩
    | true => exact ⟨fun z => absurd z (by decide), fun z => absurd (this.1 q).2 z⟩
  have hv4 : ∀ k : Nat, k < 64 → (k : Int) < A 1 * A 2 → (bt (M 151 16) k = false ↔ rBeside A k 4 ≠ -1) := fun k k0 k1 => by
    have := hs.2.2.2.1.2 k k0
    cases q : bt (M 151 16) k with
    | false => exact ⟨fun _ z => by rw [this.2 ⟨k1, z⟩] at q; exact absurd q (by decide), fun _ => rfl⟩
    | true => exact ⟨fun z => absurd z (by decide), fun z => absurd (this.1 q).2 z⟩
  refine ⟨fun h => ?_, fun ⟨k, t, kb, pk, t0, t1, h⟩ => ?_⟩
  · have fin : ∀ k : Nat, (k : Int) < A 1 * A 2 → p k → ((k : Int) = j + A 1 ∨ (k : Int) + A 1 = j ∨ ((k : Int) + 1 = j ∧ rBeside A k 2 ≠ -1) ∨ ((k : Int) = j + 1 ∧ rBeside A k 4 ≠ -1)) → ∃ k t, (0 ≤ k ∧ k < A 1 * A 2) ∧ p k ∧ 1 ≤ t ∧ t ≤ 4 ∧ rBeside A k t = j := fun k k1 pk h => by
      obtain ⟨t, t0, t1, h⟩ := (rBeside_iff hL.1 hL.2.1 (k := k) (j := j) ⟨(by omega), k1⟩ ⟨(by omega), hj⟩).2 h
      exact ⟨k, t, ⟨(by omega), k1⟩, pk, t0, t1, h⟩
    rcases h with ((h | h) | h) | h
    · have q := (hb _ (by omega)).1 h
      exact fin _ q.1 q.2 (Or.inl (by omega))
    · have q := (hb _ (by omega)).1 h.2
      exact fin _ q.1 q.2 (Or.inr (Or.inl (by omega)))
    · have q := (hb _ (by omega)).1 h.2.1
      exact fin _ q.1 q.2 (Or.inr (Or.inr (Or.inl ⟨(by omega), (he _ (by omega) q.1).1 h.2.2⟩)))
    · have q := (hb _ (by omega)).1 h.1
      exact fin _ q.1 q.2 (Or.inr (Or.inr (Or.inr ⟨(by omega), (hv4 _ (by omega) q.1).1 h.2⟩)))
  · obtain ⟨n, rfl⟩ := Int.eq_ofNat_of_zero_le kb.1
    have bk := (hb n (by omega)).2 ⟨kb.2, pk⟩
    rcases (rBeside_iff hL.1 hL.2.1 kb ⟨(by omega), hj⟩).1 ⟨t, t0, t1, h⟩ with q | q | ⟨q, q2⟩ | ⟨q, q2⟩
    · refine Or.inl (Or.inl (Or.inl ?_))
      rw [show W + j = n by omega]; exact bk
    · refine Or.inl (Or.inl (Or.inr ⟨(by omega), ?_⟩))
      rw [show j - W = n by omega]; exact bk
    · refine Or.inl (Or.inr ⟨(by omega), ?_⟩)
      rw [show j - 1 = n by omega]; exact ⟨bk, (he n (by omega) kb.2).2 q2⟩
    · refine Or.inr ?_
      rw [show 1 + j = n by omega]; exact ⟨bk, (hv4 n (by omega) kb.2).2 q2⟩
theorem v_reachesWithout (hL : rLandOk A) (hS : rStOk A) {e k c : Int} (he : 0 ≤ e ∧ e < A 3) (hf : vFld A e M) (hs : vSets A e (A 1 * A 2) M) (hk : 0 ≤ k ∧ k < A 1 * A 2) (hc : 0 ≤ c ∧ c < A 1 * A 2) (h1 : (∃ us, wIs (rBeside A) (wOp A e c) (rEnd A e) k (16 - A (60 + e)) us) → post 1 M) (h0 : (∀ us, ¬ wIs (rBeside A) (wOp A e c) (rEnd A e) k (16 - A (60 + e)) us) → post 0 M) : QCm X x (d + 1) 1 yX9_reachesWithout [(2, 151), (0, k), (0, c)] M post := by
  have hcl := hL.cells
  have a3 := hL.2.2.1
  have h6 := hS.2.1.1 e he.1 (by omega)
  have hE := rEnd_b hL hS.2.1 he.1 he.2
  have free : ∀ j : Nat, (j : Int) < A 1 * A 2 → (bt (qland (M 151 13) (qlxor (qlshl 1 c) (-1))) j = true ↔ wOp A e c j) := fun j hj => by
    rw [off_l _ ⟨hc.1, (by omega)⟩ (by omega), Bool.and_eq_true, hs.1.2 j (by omega), Bool.not_eq_true', decide_eq_false_iff_not]
    exact ⟨fun z => ⟨z.2, z.1.2.2⟩, fun z => ⟨⟨hj, (by omega), z.2⟩, z.1⟩⟩
  have free0 : ∀ j : Nat, j < 64 → bt (qland (M 151 13) (qlxor (qlshl 1 c) (-1))) j = true → (j : Int) < A 1 * A 2 := fun j hj z => by
    rw [off_l _ ⟨hc.1, (by omega)⟩ hj, Bool.and_eq_true, hs.1.2 j hj] at z
    exact z.1.1
  generalize hF : qland (M 151 13) (qlxor (qlshl 1 c) (-1)) = F at *
  have last : ∀ (i v : Int), (0 ≤ i ∧ i ≤ 16 - A (60 + e)) → wSet v (fun j => j < A 1 * A 2 ∧ ∃ us, wIs (rBeside A) (wOp A e c) (rEnd A e) j i us) → (i = 16 - A (60 + e) ∨ bt v k.toNat = true) → QCm X x d 1 yX9_isIn [(1, v), (0, k)] M (fun x1 M1 => (x1 = 0 ∨ x1 = 1) ∧ (post x1 M1)) := fun i v ib hv hi => by
    have vb := hv.bt (k := k) ⟨hk.1, (by omega)⟩
    refine v_isIn ⟨(by omega), (by omega)⟩ (fun _ b => ⟨Or.inr rfl, h1 ?_⟩) (fun b => ⟨Or.inl rfl, h0 (fun us u => ?_)⟩)
    · obtain ⟨_, us, u⟩ := vb.1 b
      exact ⟨us, u.1, u.2.1, by have := u.2.2; omega⟩
    · rcases b with b | b
      · omega
      · rcases hi with hi | hi
        · rw [vb.2 ⟨hk.2, us, u.1, u.2.1, by have := u.2.2; omega⟩] at b; exact absurd b (by decide)
        · rw [hi] at b; exact absurd b (by decide)
  have key : ∀ i : Int, ∀ v : Int, (0 ≤ i ∧ i ≤ 16 - A (60 + e)) ∧ wSet v (fun j => j < A 1 * A 2 ∧ ∃ us, wIs (rBeside A) (wOp A e c) (rEnd A e) j i us) → QRm X x (d + 1) qmX9_reachesWithout post 24 [(0, (2, 151)), (1, (0, k)), (3, (1, F)), (5, (1, v)), (7, (0, i))] [] M := by
    refine int_up (16 - A (60 + e)) (fun i hi v g => ?_) (fun i hi ih v g => ?_)
    · refine TX9_reachesWithout_24 ?_
      rw [hf.2.2.2]
      exact ⟨(i32 (by omega) (by omega)), (i32 (by omega) (by omega)), fun _ => last i v g.1 g.2 (Or.inl (by omega)), fun z => absurd hi z⟩
    · refine TX9_reachesWithout_24 ?_
      rw [hf.2.2.2]
      refine ⟨(i32 (by omega) (by omega)), (i32 (by omega) (by omega)), fun z => absurd hi (by omega), fun _ => v_isIn ⟨(by omega), (by omega)⟩ (fun _ b => ⟨fun z => absurd z (by decide), fun _ => ⟨(i32 (by omega) (by omega)), last i v g.1 g.2 (Or.inr b)⟩⟩) (fun b => ⟨fun _ => v_besideAll hL hf hs g.2 (fun w iw hw => ih _ ⟨⟨(by omega), (by omega)⟩, qlor_in _ _, fun j hj => ?_⟩), fun z => absurd rfl z⟩)⟩
      rw [bl_or _ _ hj, bl_and _ _ hj, Bool.or_eq_true, Bool.and_eq_true, g.2.2 j hj]
      refine ⟨fun z => ?_, fun ⟨jb, us, u⟩ => ?_⟩
      · rcases z with ⟨jb, us, u⟩ | ⟨zw, zf⟩
        · exact ⟨jb, us, u.1, u.2.1, by have := u.2.2; omega⟩
        · have jb := free0 j hj zf
          obtain ⟨k', t, kb, ⟨us, u⟩, t0, t1, h⟩ := (hw j jb).1 zw
          refine ⟨jb, us ++ [t], (wOk_snoc _ _).2 ⟨u.1, ⟨t0, t1⟩, ?_, ?_⟩, ?_, ?_⟩
          · rw [u.2.1, h]; omega
          · rw [u.2.1, h]; exact (free j jb).1 zf
          · rw [wEnd_snoc, u.2.1, h]
          · have := u.2.2
            rw [List.length_append, show [t].length = 1 from rfl]; omega
      · by_cases q : (us.length : Int) ≤ i
        · exact Or.inl ⟨jb, us, u.1, u.2.1, q⟩
        · have hl := u.2.2
          obtain ⟨p, t, rfl⟩ := snoc_of (us := us) (by intro z; rw [z] at q; exact q (by simpa using g.1.1))
          have ho := (wOk_snoc p _).1 u.1
          have hh : rBeside A (wEnd (rBeside A) (rEnd A e) p) t = j := (wEnd_snoc p _).symm.trans u.2.1
          have lp : ((p ++ [t]).length : Int) = p.length + 1 := by simp
          have pin := wEnd_in hL p _ hE ho.1
          refine Or.inr ⟨(hw j jb).2 ⟨_, t, pin, ⟨p, ho.1, rfl, by omega⟩, ho.2.1.1, ho.2.1.2, hh⟩, (free j jb).2 ?_⟩
          rw [← hh]; exact ho.2.2.2
  refine QC.of qmX9_reachesWithout_ok rfl (TX9_reachesWithout_0 ?_)
  rw [hF, hf.2.2.1]
  refine key 0 _ ⟨⟨(by omega), (by omega)⟩, qlshl_in _ _, fun j hj => ?_⟩
  rw [bit_l ⟨hE.1, (by omega)⟩ hj, decide_eq_true_iff]
  refine ⟨fun z => ⟨(by omega), [], True.intro, z.symm, Int.le_refl 0⟩, fun ⟨_, us, u⟩ => ?_⟩
  have : us = [] := List.length_eq_zero_iff.1 (by have := u.2.2; omega)
  have q := u.2.1
  rw [this] at q; exact q.symm
theorem rel_needed (hR : Rel M) {e k : Int} (he : in32 e) (hk : in32 k) (hp : ∀ v M3, Rel M3 → cont v v M3) : QCm X x (d + 8) 2 yX10_needed [(2, 0), (0, e), (0, k)] M (fun x1 M1 => QCm X x (d + 8) 2 yX11_needed [(2, 215), (0, e), (0, k)] M1 (fun x2 M2 => cont x1 x2 M2)) := by
  have R0 := hR.keep (gT M)
  have e0 := (gT M).all
  have a3 := hR.1.1.2.2.1
  have hcl := hR.1.1.cells
  have no : ¬ ((0 ≤ e ∧ e < M 216 3) ∧ 0 ≤ k ∧ k < M 216 1 * M 216 2) → QCm X x (d + 8) 2 yX11_needed [(2, 215), (0, e), (0, k)] M (fun x2 M2 => cont (-2) x2 M2) := fun z =>
    QC.of qmX11_needed_ok rfl (TX11_needed_0 ⟨he, n_isDrum R0 he (fun y => ⟨fun q => absurd q (by decide), fun _ => ⟨(i32 (by omega) (by omega)), hk, n_isCell R0 hk (fun y2 => absurd ⟨by rw [e0] at y; exact y, by rw [e0] at y2; exact y2⟩ z) (fun _ => ⟨fun _ => hp _ _ R0, fun q => absurd rfl q⟩)⟩⟩) (fun _ => ⟨fun _ => hp _ _ R0, fun q => absurd rfl q⟩)⟩)
  refine QC.of qmX10_needed_ok rfl (TX10_needed_0 (k_hasDrum hR he (fun a => ⟨fun z => absurd z (by decide), fun _ => ⟨(i32 (by omega) (by omega)), k_hasCell hR hk (fun c => ⟨fun z => absurd z (by decide), fun _ => ⟨(i32 (by omega) (by omega)), c_findShort hR.1 a (fun M1 k1 f1 s1 l1 => ⟨(by omega), (by omega), ?_⟩)⟩⟩) (fun c => ⟨fun _ => no (fun z => c z.2), fun z => absurd rfl z⟩)⟩⟩) (fun a => ⟨fun _ => no (fun z => a z.1), fun z => absurd rfl z⟩)))
  obtain ⟨R1, e1, r1, w1⟩ := vRel hR k1
  have hL := hR.1.1
  have hS := hR.1.2.1
  have ec : M1 17 0 * M1 17 1 = M 216 1 * M 216 2 := by rw [k1 17 (by omega) (by omega) (by omega) (by omega) (by omega)]; exact hR.cells
  generalize hA : M 216 = A at *
  have hE := rEnd_b hL hS.2.1 a.1 a.2
  have cl := rEnd_closed hL hS a
  have h6 := hS.2.1.1 e a.1 (by omega)
  have nm := l1.num (by omega) k c.1 c.2
  -- what is needed
  generalize hP : (fun q : Int => q ≠ k ∧ q ≠ rEnd A e ∧ M1 152 k ≠ -1 ∧ ∀ us, ¬ wIs (rBeside A) (wOp A e q) (rEnd A e) k (16 - A (60 + e)) us) = P
  have ref : ∀ V : Int, wSet V (fun q => q < A 1 * A 2 ∧ P q) → QCm X x (d + 8) 2 yX11_needed [(2, 215), (0, e), (0, k)] M1 (fun x2 M2 => cont V x2 M2) := by
    intro V hV
    have done : ∀ U : Int, wSet U (fun q => q < A 1 * A 2 ∧ P q) → V = U := fun U hU => wSet_eq hV hU (fun _ _ => Iff.rfl)
    refine QC.of qmX11_needed_ok rfl (TX11_needed_0 ⟨he, n_isDrum R1 he (fun y => ⟨fun q => absurd q (by decide), fun _ => ⟨(i32 (by omega) (by omega)), hk, n_isCell R1 hk (fun y2 => ⟨fun q => absurd q (by decide), fun _ => ⟨(i32 (by omega) (by omega)), ?_⟩⟩) (fun q => absurd (by rw [e1]; exact c) q)⟩⟩) (fun q => absurd (by rw [e1]; exact a) q)⟩)
    refine n_leastFor e1 hL hS a (Or.inr rfl) c r1 (l1.congr (fun b b0 b1 => w1 b (by omega))) (fun M2 k2 => ?_)
    rw [w1 152 (by omega)]
    refine ⟨fun z => ?_, fun z => ⟨(i32 (by omega) (by omega)), ?_⟩⟩
    · rw [done 0 (wSet_0.iff (fun q _ => ⟨False.elim, fun y => by rw [← hP] at y; exact y.2.2.2.1 z⟩))]
      exact hp _ _ (R1.keep k2.gK)
    · have key : ∀ i : Int, ∀ (N : QMem) (U : Int), (0 ≤ i ∧ i ≤ A 1 * A 2) ∧ wK M2 (qup N 215 24 (-1)) ∧ (-1 ≤ N 215 24 ∧ N 215 24 < 36) ∧ wSet U (fun q => q < i ∧ P q) → QRm X x (d + 8) qmX11_needed (fun x2 M2 => cont V x2 M2) 45 [(0, (2, 215)), (1, (0, e)), (2, (0, k)), (3, (1, U)), (5, (0, i))] [] N := by
        refine int_up (A 1 * A 2) (fun i hi N U g => ?_) (fun i hi ih N U g => ?_)
        · obtain ⟨g0, g1, g2, g3⟩ := g
          have en : N 216 = A := by
            have := g1.all
            rw [qup_row (by decide)] at this
            rw [this, k2.all, e1]
          refine TX11_needed_45 (m_cells ?_)
          rw [en]
          refine ⟨(i32 (by omega) (by omega)), (i32 (by omega) (by omega)), fun _ => ?_, fun z => absurd hi z⟩
          rw [done U (by rw [show A 1 * A 2 = i by omega]; exact g3)]
          exact hp _ _ (R1.keep (k2.trans g1).gK)
        · obtain ⟨g0, g1, g2, g3⟩ := g
          have en : N 216 = A := by
            have := g1.all
            rw [qup_row (by decide)] at this
            rw [this, k2.all, e1]
          have skip : ¬ P i → QRm X x (d + 8) qmX11_needed (fun x2 M2 => cont V x2 M2) 45 [(0, (2, 215)), (1, (0, e)), (2, (0, k)), (3, (1, U)), (5, (0, i + 1))] [] N := fun np => ih N U ⟨⟨(by omega), (by omega)⟩, g1, g2, wSet_no g3 np⟩
          refine TX11_needed_45 (m_cells ?_)
          rw [en]
          refine ⟨(i32 (by omega) (by omega)), (i32 (by omega) (by omega)), fun z => absurd hi (by omega), fun _ => ⟨fun y => skip (fun q => by rw [← hP] at q; exact q.1 y), fun y => ⟨hk, m_endOf ⟨a.1, (by omega)⟩ (by rw [en]; exact h6) ?_⟩⟩⟩
          rw [en]
          refine ⟨fun y2 => skip (fun q => by rw [← hP] at q; exact q.2.1 y2), fun y2 => ⟨(i32 (by omega) (by omega)), ?_⟩⟩
          have eN : (qup N 215 24 i) 216 = A := by rw [qup_row (by decide)]; exact en
          have eR : (qup N 215 24 i) 215 24 = i := by rw [qup_at, if_pos rfl]
          have fr : ∀ N2 : QMem, wK (qup N 215 24 i) N2 → wK M2 (qup N2 215 24 (-1)) ∧ (-1 ≤ N2 215 24 ∧ N2 215 24 < 36) := fun N2 k3 => by
            refine ⟨⟨fun b b0 b1 b2 b3 b4 b5 b6 b7 b8 => ?_, fun j j0 j1 => ?_⟩, ?_⟩
            · rw [qup_row b0, k3.1 b b0 b1 b2 b3 b4 b5 b6 b7 b8, qup_row b0]
              have := g1.1 b b0 b1 b2 b3 b4 b5 b6 b7 b8
              rw [qup_row b0] at this; exact this
            · have t2 := g1.2 j j0 j1
              rw [qup_at] at t2 ⊢
              by_cases z24 : j = 24
              · rw [if_pos z24] at t2 ⊢; exact t2
              · rw [if_neg z24] at t2 ⊢
                rw [k3.2 j j0 j1, qup_at, if_neg z24]; exact t2
            · rw [k3.2 24 (by omega) (by omega), eR]; exact ⟨(by omega), (by omega)⟩
          refine m_leastFor eN hL hS a (Or.inr rfl) (i32 (by omega) (by omega)) (by rw [eR]; exact (i32 (by omega) (by omega))) (fun nw N2 k3 => ⟨fun _ => ?_, fun q => absurd rfl q⟩) (fun ts b N2 k3 => ⟨fun q => ?_, fun _ => ⟨?_, ?_⟩⟩)
          · rw [eR] at nw
            exact ih N2 _ ⟨⟨(by omega), (by omega)⟩, (fr N2 k3).1, (fr N2 k3).2, wSet_yes g3 ⟨g0.1, (by omega)⟩ (by rw [← hP]; exact ⟨y, y2, z, nw⟩)⟩
          · have := wCost_b (nx := rBeside A) (wPr_b A e 1) ts (rEnd A e)
            omega
          · have := wCost_b (nx := rBeside A) (wPr_b A e 1) ts (rEnd A e)
            have := b.1.2.2
            exact (i32 (by omega) (by omega))
          · rw [eR] at b
            rw [qlor_0 g3.1]
            exact ih N2 _ ⟨⟨(by omega), (by omega)⟩, (fr N2 k3).1, (fr N2 k3).2, wSet_no g3 (fun q => by rw [← hP] at q; exact q.2.2.2 ts b.1)⟩
      have rk : M2 215 24 = -1 := by rw [k2.2 24 (by omega) (by omega)]; exact r1
      refine key 0 M2 0 ⟨⟨(by omega), (by omega)⟩, ⟨fun b b0 _ _ _ _ _ _ _ _ => by rw [qup_row b0], fun j _ _ => ?_⟩, by rw [rk]; omega, wSet_0.iff (fun q _ => ⟨False.elim, fun y => absurd y.1 (by omega)⟩)⟩
      rw [qup_at]
      split
      · rename_i z24; rw [z24, rk]
      · rfl
  have key : ∀ i : Int, ∀ U : Int, (0 ≤ i ∧ i ≤ A 1 * A 2) ∧ wSet U (fun q => q < i ∧ P q) → QRm X x (d + 8) qmX10_needed (fun x1 M1 => QCm X x (d + 8) 2 yX11_needed [(2, 215), (0, e), (0, k)] M1 (fun x2 M2 => cont x1 x2 M2)) 66 [(0, (2, 0)), (2, (0, k)), (3, (1, U)), (5, (1, qland (M1 154 k) (qlxor (qlshl 1 k) (-1)))), (7, (0, i))] [] M1 := by
    refine int_up (A 1 * A 2) (fun i hi U g => ?_) (fun i hi ih U g => ?_)
    · refine TX10_needed_66 (c_cells (Or.inl rfl) (by rw [ec]; omega) ?_)
      rw [ec]
      refine ⟨(i32 (by omega) (by omega)), (i32 (by omega) (by omega)), fun _ => ref U ?_, fun z => absurd hi z⟩
      rw [show A 1 * A 2 = i by omega]; exact g.2
    · have bb := off_l (M1 154 k) (j := k) ⟨c.1, (by omega)⟩ (k := i.toNat) (by omega)
      rw [show ((i.toNat : Nat) : Int) = i by omega] at bb
      refine TX10_needed_66 (c_cells (Or.inl rfl) (by rw [ec]; omega) ?_)
      rw [ec, ask_u _ ⟨g.1.1, (by omega)⟩, bb]
      -- the walks to k
      have way : M1 152 k ≠ -1 → ∃ ts, vGood A e 1 (16 - A (60 + e)) M1 k ts := fun z => by
        rcases l1 k c.1 c.2 with q | q
        · exact absurd q.1 z
        · exact q
      have skip : ¬ P i → QRm X x (d + 8) qmX10_needed (fun x1 M1 => QCm X x (d + 8) 2 yX11_needed [(2, 215), (0, e), (0, k)] M1 (fun x2 M2 => cont x1 x2 M2)) 66 [(0, (2, 0)), (2, (0, k)), (3, (1, U)), (5, (1, qland (M1 154 k) (qlxor (qlshl 1 k) (-1)))), (7, (0, i + 1))] [] M1 := fun np => ih U ⟨⟨(by omega), (by omega)⟩, wSet_no g.2 np⟩
      refine ⟨(i32 (by omega) (by omega)), (i32 (by omega) (by omega)), fun z => absurd hi (by omega), fun _ => ⟨fun z => ?_, fun z => ⟨by split <;> exact ⟨by decide, by decide⟩, skip (fun q => ?_)⟩⟩⟩
      · have b : (bt (M1 154 k) i.toNat && !decide (i = k)) = true := by
          apply Classical.byContradiction
          intro q; rw [if_neg q] at z; exact absurd z (by decide)
        rw [Bool.and_eq_true, Bool.not_eq_true', decide_eq_false_iff_not] at b
        have z152 : M1 152 k ≠ -1 := fun q => by
          rcases l1 k c.1 c.2 with w | ⟨ts, w⟩
          · have b1 := b.1
            rw [w.2.2.1, bt_0] at b1; exact absurd b1 (by decide)
          · have := wCost_b (nx := rBeside A) (wPr_b A e 1) ts (rEnd A e)
            have := w.2.1
            omega
        obtain ⟨ts, w⟩ := way z152
        have op := wHas_op ts _ w.1.1.1 ((w.2.2.2.1.bt (k := i) ⟨g.1.1, (by omega)⟩).1 b.1)
        have ne : i ≠ rEnd A e := fun q => cl (by rw [← q]; exact op.1.2.1)
        refine v_reachesWithout hL hS a f1 s1 c ⟨g.1.1, hi⟩ (fun q => ⟨fun y => absurd y (by decide), fun _ => ⟨(i32 (by omega) (by omega)), skip (fun y => ?_)⟩⟩) (fun q => ⟨fun _ => ih _ ⟨⟨(by omega), (by omega)⟩, wSet_yes g.2 ⟨g.1.1, (by omega)⟩ (by rw [← hP]; exact ⟨b.2, ne, z152, q⟩)⟩, fun y => absurd rfl y⟩)
        rw [← hP] at y
        obtain ⟨us, u⟩ := q
        exact y.2.2.2 us u
      · rw [← hP] at q
        obtain ⟨ts, w⟩ := way q.2.2.1
        have nb : ¬ bt (M1 154 k) i.toNat = true := fun y => z (if_pos (by rw [y, decide_eq_false q.1]; rfl))
        refine q.2.2.2 ts ⟨wOk_mono ts _ w.1.1.1 (fun c' o hc' => ⟨fun y => nb ?_, o.2⟩), w.1.1.2.1, w.1.1.2.2⟩
        rw [y] at hc'
        exact (w.2.2.2.1.bt (k := i) ⟨g.1.1, (by omega)⟩).2 hc'
  exact key 0 0 ⟨⟨(by omega), (by omega)⟩, wSet_0.iff (fun q _ => ⟨False.elim, fun y => absurd y.1 (by omega)⟩)⟩
end Needed87
