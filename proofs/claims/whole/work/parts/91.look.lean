/-- by how many of those found a way comes by a cell -/
noncomputable def rBy (P : Int → Int) (v : Int) (n : Nat) (c : Int) : Int := rCnt (fun k => bt v k.toNat = true ∧ bt (P k) c.toNat = true) n
theorem bit_in {p c : Int} (hc : 0 ≤ c ∧ c < 64) : qland p (qlshl 1 c) = qlshl 1 c ↔ bt p c.toNat = true := by
  refine ⟨fun h => ?_, fun h => ?_⟩
  · have := congrArg (fun z => bt z c.toNat) h
    have this' : bt (qland p (qlshl 1 c)) c.toNat = bt (qlshl 1 c) c.toNat := this
    rw [bl_and _ _ (by omega), bit_l hc (by omega), decide_eq_true (by omega), Bool.and_true] at this'
    exact this'
  · refine ext64 (qland_in _ _) (qlshl_in _ _) (fun k hk => ?_)
    rw [bl_and _ _ hk, bit_l hc hk]
    by_cases z : (k : Int) = c
    · rw [decide_eq_true z, Bool.and_true, show k = c.toNat by omega]; exact h
    · rw [decide_eq_false z, Bool.and_false]
theorem rBy_is {P : Int → Int} {S : Int} {n : Nat} (hn : n ≤ 36) {c : Int} (hc : 0 ≤ c ∧ c < 64) : (0 ≤ qland (rFt P (qlshl 1 c) n) (rFt P S n) ∧ qland (rFt P (qlshl 1 c) n) (rFt P S n) < 68719476736) ∧ rCnt (fun k => bt (qland (rFt P (qlshl 1 c) n) (rFt P S n)) k.toNat = true) 36 = rBy P (rFt P S n) n c := by
  have s1 := rFt_set P (qlshl 1 c) n hn
  have s2 := rFt_set P S n hn
  have bits : ∀ k : Nat, k < 64 → (bt (qland (rFt P (qlshl 1 c) n) (rFt P S n)) k = true ↔ (k : Int) < n ∧ bt (rFt P S n) k = true ∧ bt (P k) c.toNat = true) := fun k hk => by
    rw [bl_and _ _ hk, Bool.and_eq_true, s1.2 k hk]
    show ((k : Int) < n ∧ qland (P k) (qlshl 1 c) = qlshl 1 c) ∧ bt (rFt P S n) k = true ↔ _
    rw [bit_in hc]
    exact ⟨fun z => ⟨z.1.1, z.2, z.1.2⟩, fun z => ⟨⟨z.1, z.2.2⟩, z.2.1⟩⟩
  refine ⟨wSet_small (p := fun k => k < (n : Int) ∧ bt (rFt P S n) k.toNat = true ∧ bt (P k) c.toNat = true) ⟨qland_in _ _, fun k hk => bits k hk⟩ (fun k _ z => by have := z.1; omega), ?_⟩
  rw [show 36 = n + (36 - n) by omega, rCnt_add]
  have z0 : rCnt (fun i => bt (qland (rFt P (qlshl 1 c) n) (rFt P S n)) ((n : Int) + i).toNat = true) (36 - n) = 0 := rCnt_zero_iff.2 (fun i hi z => by
    have := ((bits ((n : Int) + i).toNat (by omega)).1 z).1
    omega)
  rw [z0, Int.add_zero, rBy]
  refine rCnt_congr (fun i hi => ?_)
  rw [Int.toNat_natCast, bits i (by omega)]
  exact ⟨fun z => z.2, fun z => ⟨by omega, z⟩⟩
theorem cnt_0 {v : Int} {p : Int → Prop} (h : wSet v p) (hp : ∀ k : Nat, k < 64 → p k → k < 36) : rCnt (fun k => bt v k.toNat = true) 36 = 0 ↔ v = 0 := by
  rw [rCnt_zero_iff]
  refine ⟨fun z => ext64 h.1 ⟨by decide, by decide⟩ (fun k hk => ?_), fun z i _ => by rw [z, bt_0]; decide⟩
  rw [bt_0]
  cases q : bt v k with
  | false => rfl
  | true =>
    have := hp k hk ((h.2 k hk).1 q)
    have w := z k this
    rw [Int.toNat_natCast, q] at w
    exact absurd rfl w
theorem rLk_b {f : Int → Int} {a : Int} (ha : 0 ≤ a ∧ a ≤ 36) (hf : ∀ c : Nat, 0 ≤ f c ∧ f c ≤ 36) : ∀ n : Nat, -100 ≤ (rLk f a n).2 ∧ (rLk f a n).2 ≤ 100
  | 0 => show (-100 : Int) ≤ -1 ∧ (-1 : Int) ≤ 100 from ⟨by decide, by decide⟩
  | n + 1 => by
    have ih := rLk_b ha hf n
    have h := hf n
    have m : -100 ≤ (if a - f n ≤ f n then a - f n else f n) ∧ (if a - f n ≤ f n then a - f n else f n) ≤ 100 := by split <;> omega
    rw [rLk]
    generalize (if a - f n ≤ f n then a - f n else f n) = w at *
    by_cases c : w ≤ (rLk f a n).2
    · rw [if_pos c]; exact ih
    · rw [if_neg c]; exact m
section Look91
variable {X : QX} {x : Int} {d : Nat} {post : Int → QMem → Prop} {M : QMem} {cont : Int → Int → QMem → Prop} {A : Int → Int}
theorem rel_look (hR : Rel M) {t e : Int} (ht : in32 t) (he : in32 e) (hp : ∀ v M3, Rel M3 → cont v v M3) : QCm X x (d + 8) 1 yX10_look [(2, 0), (0, t), (0, e)] M (fun x1 M1 => QCm X x (d + 8) 1 yX11_look [(2, 215), (0, t), (0, e)] M1 (fun x2 M2 => cont x1 x2 M2)) := by
  have b := rNF_b' M t e
  have hcl := hR.1.1.cells
  refine QC.of qmX10_look_ok rfl (TX10_look_0 (c_whyNotFaded hR ht he ⟨fun z => c_fadedCells hR z (fun M1 hO => j_bitCount (rFt_small _ _ (by omega)) ?_), fun z => ⟨(i32 (by omega) (by omega)), ?_⟩⟩))
  rotate_left
  · have R1 := (vRel hR (vK.refl M)).1
    refine QC.of qmX11_look_ok rfl (TX11_look_0 (m_noFaded R1 ht he ?_))
    rw [fNF hR (vK.refl M)]
    exact ⟨fun y => absurd y z, fun _ => ⟨(i32 (by omega) (by omega)), hp _ _ R1⟩⟩
  have R1 := (vRel hR hO.1).1
  have ec : M1 17 0 * M1 17 1 = M 216 1 * M 216 2 := by rw [hO.1 17 (by omega) (by omega) (by omega) (by omega) (by omega)]; exact hR.cells
  have f9 : M1 151 9 = M 216 1 * M 216 2 := hO.2.1.1
  generalize hS : rSn (fun i => M 230 (40 * t + i)) (M 229 t).toNat = S at *
  have sv := rFt_set (M1 154) S (M 216 1 * M 216 2).toNat (by omega)
  have v0 := cnt_0 sv (fun k _ w => by have := w.1; omega)
  have cb := rCnt_b (fun k => bt (rFt (M1 154) S (M 216 1 * M 216 2).toNat) k.toNat = true) 36
  have fb : ∀ c : Nat, 0 ≤ rBy (M1 154) (rFt (M1 154) S (M 216 1 * M 216 2).toNat) (M 216 1 * M 216 2).toNat c ∧ rBy (M1 154) (rFt (M1 154) S (M 216 1 * M 216 2).toNat) (M 216 1 * M 216 2).toNat c ≤ 36 := fun c => by
    have := rCnt_b (fun k => bt (rFt (M1 154) S (M 216 1 * M 216 2).toNat) k.toNat = true ∧ bt (M1 154 k) ((c : Nat) : Int).toNat = true) (M 216 1 * M 216 2).toNat
    unfold rBy; omega
  have ai : rFt (M1 154) S (M 216 1 * M 216 2).toNat ≠ 0 → rCnt (fun k => bt (rFt (M1 154) S (M 216 1 * M 216 2).toNat) k.toNat = true) 36 ≠ 0 := fun w y => w (v0.1 y)
  have vin := sv.1
  -- the reference
  have ref : ∀ V : Int, (rFt (M1 154) S (M 216 1 * M 216 2).toNat = 0 → V = -1) → (rFt (M1 154) S (M 216 1 * M 216 2).toNat ≠ 0 → V = (rLk (rBy (M1 154) (rFt (M1 154) S (M 216 1 * M 216 2).toNat) (M 216 1 * M 216 2).toNat) (rCnt (fun k => bt (rFt (M1 154) S (M 216 1 * M 216 2).toNat) k.toNat = true) 36) (M 216 1 * M 216 2).toNat).1) → QCm X x (d + 8) 1 yX11_look [(2, 215), (0, t), (0, e)] M1 (fun x2 M2 => cont V x2 M2) := by
    intro V w0 w1
    refine QC.of qmX11_look_ok rfl (TX11_look_0 (m_noFaded R1 ht he ?_))
    rw [fNF hR hO.1]
    refine ⟨fun _ => m_fits hR z hO (fun N hN hB => m_manyOf ?_), fun y => absurd z y⟩
    have RN := fRel hR hO hN
    have en : N 216 = M 216 := by
      have := hN.all
      have e1 := (vRel hR hO.1).2.1
      rw [e1] at this; exact this
    rw [hS]
    generalize hv : rFt (M1 154) S (M 216 1 * M 216 2).toNat = v at *
    generalize ha : rCnt (fun k => bt v k.toNat = true) 36 = al at *
    have lb := rLk_b (f := rBy (M1 154) v (M 216 1 * M 216 2).toNat) (a := al) ⟨cb.1, (by omega)⟩ fb
    by_cases y : v = 0
    · refine TX11_look_42 (m_cells ?_)
      rw [en]
      refine ⟨(i32 (by omega) (by omega)), (i32 (by omega) (by omega)), fun q => absurd q (by omega), fun _ => ⟨fun _ => ?_, fun q => absurd y q⟩⟩
      rw [w0 y]; exact hp _ _ RN
    have key : ∀ i : Int, (0 ≤ i ∧ i ≤ M 216 1 * M 216 2) → QRm X x (d + 8) qmX11_look (fun x2 M2 => cont V x2 M2) 42 [(0, (2, 215)), (4, (1, v)), (6, (0, al)), (7, (0, (rLk (rBy (M1 154) v (M 216 1 * M 216 2).toNat) al i.toNat).1)), (8, (0, (rLk (rBy (M1 154) v (M 216 1 * M 216 2).toNat) al i.toNat).2)), (9, (0, i))] [] N := by
      refine int_up (M 216 1 * M 216 2) (fun i hi g => ?_) (fun i hi ih g => ?_)
      · refine TX11_look_42 (m_cells ?_)
        rw [en]
        refine ⟨(i32 (by omega) (by omega)), (i32 (by omega) (by omega)), fun _ => ?_, fun q => absurd hi q⟩
        rw [w1 y, show i = M 216 1 * M 216 2 by omega]; exact hp _ _ RN
      · have nx := ih ⟨(by omega), (by omega)⟩
        rw [show (i + 1).toNat = i.toNat + 1 by omega, rLk, show ((i.toNat : Nat) : Int) = i by omega] at nx
        have fi := fb i.toNat
        rw [show ((i.toNat : Nat) : Int) = i by omega] at fi
        have li := lb i.toNat
        refine TX11_look_42 (m_cells ?_)
        rw [en]
        refine ⟨(i32 (by omega) (by omega)), (i32 (by omega) (by omega)), fun q => absurd hi (by omega), fun _ => ⟨fun q => absurd q y, fun _ => ⟨vin, ?_⟩⟩⟩
        have key2 : ∀ j : Int, (0 ≤ j ∧ j ≤ M 216 1 * M 216 2) → QRm X x (d + 8) qmX11_look (fun x2 M2 => cont V x2 M2) 64 [(0, (2, 215)), (4, (1, v)), (6, (0, al)), (7, (0, (rLk (rBy (M1 154) v (M 216 1 * M 216 2).toNat) al i.toNat).1)), (8, (0, (rLk (rBy (M1 154) v (M 216 1 * M 216 2).toNat) al i.toNat).2)), (9, (0, i)), (10, (0, rBy (M1 154) v j.toNat i)), (11, (0, j))] [] N := by
          refine int_up (M 216 1 * M 216 2) (fun j hj q => ?_) (fun j hj ih2 q => ?_)
          · refine TX11_look_64 (m_cells ?_)
            rw [en, show j.toNat = (M 216 1 * M 216 2).toNat by omega]
            refine ⟨(i32 (by omega) (by omega)), (i32 (by omega) (by omega)), fun _ => ⟨(i32 (by omega) (by omega)), (i32 (by omega) (by omega)), fun u => ⟨(i32 (by omega) (by omega)), fun w => ?_, fun w => ?_⟩, fun u => ⟨(i32 (by omega) (by omega)), fun w => ?_, fun w => ?_⟩⟩, fun u => absurd hj u⟩
            · rw [if_pos u, if_neg (by omega)] at nx; exact nx
            · rw [if_pos u, if_pos (by omega)] at nx; exact nx
            · rw [if_neg u, if_neg (by omega)] at nx; exact nx
            · rw [if_neg u, if_pos (by omega)] at nx; exact nx
          · have nj := ih2 ⟨(by omega), (by omega)⟩
            have ej : ((j.toNat : Nat) : Int) = j := by omega
            rw [show (j + 1).toNat = j.toNat + 1 by omega, rBy] at nj
            have bj := hB j q.1 hj
            refine TX11_look_64 (m_cells ?_)
            rw [en]
            refine ⟨(i32 (by omega) (by omega)), (i32 (by omega) (by omega)), fun u => absurd hj (by omega), fun _ => m_isIn ⟨(by omega), (by omega)⟩ (fun b1 => ⟨fun u => absurd u (by decide), fun _ => ⟨(i32 (by omega) (by omega)), (by omega), (by omega), ?_⟩⟩) (fun b1 => ⟨fun _ => ?_, fun u => absurd rfl u⟩)⟩
            · rw [bj]
              refine m_isIn ⟨(by omega), (by omega)⟩ (fun b2 => ⟨fun u => absurd u (by decide), fun _ => ⟨(i32 (by omega) (by omega)), ?_⟩⟩) (fun b2 => ⟨fun _ => ?_, fun u => absurd rfl u⟩)
              · rw [rCnt_yes (p := fun k => bt v k.toNat = true ∧ bt (M1 154 k) i.toNat = true) (n := j.toNat) (by show bt v ((j.toNat : Nat) : Int).toNat = true ∧ bt (M1 154 ((j.toNat : Nat) : Int)) i.toNat = true; rw [ej]; exact ⟨b1, b2⟩)] at nj; exact nj
              · rw [rCnt_no (p := fun k => bt v k.toNat = true ∧ bt (M1 154 k) i.toNat = true) (n := j.toNat) (by show ¬ (bt v ((j.toNat : Nat) : Int).toNat = true ∧ bt (M1 154 ((j.toNat : Nat) : Int)) i.toNat = true); rw [ej, b2]; exact fun u => absurd u.2 (by decide))] at nj
                rw [Int.add_zero]; exact nj
            · rw [rCnt_no (p := fun k => bt v k.toNat = true ∧ bt (M1 154 k) i.toNat = true) (n := j.toNat) (by show ¬ (bt v ((j.toNat : Nat) : Int).toNat = true ∧ bt (M1 154 ((j.toNat : Nat) : Int)) i.toNat = true); rw [ej, b1]; exact fun u => absurd u.1 (by decide))] at nj
              rw [Int.add_zero]; exact nj
        exact key2 0 ⟨(by omega), (by omega)⟩
    exact key 0 ⟨(by omega), (by omega)⟩
  -- the class
  generalize hv : rFt (M1 154) S (M 216 1 * M 216 2).toNat = v at *
  generalize ha : rCnt (fun k => bt v k.toNat = true) 36 = al at *
  have lb := rLk_b (f := rBy (M1 154) v (M 216 1 * M 216 2).toNat) (a := al) ⟨cb.1, (by omega)⟩ fb
  refine ⟨fun y => ref _ (fun _ => rfl) (fun q => absurd y (ai q)), fun y => ⟨(i32 (by omega) (by omega)), ?_⟩⟩
  have vn : v ≠ 0 := fun q => y (v0.2 q)
  have key : ∀ i : Int, (0 ≤ i ∧ i ≤ M 216 1 * M 216 2) → QRm X x (d + 8) qmX10_look (fun x1 M1 => QCm X x (d + 8) 1 yX11_look [(2, 215), (0, t), (0, e)] M1 (fun x2 M2 => cont x1 x2 M2)) 44 [(0, (2, 0)), (4, (1, v)), (6, (0, al)), (7, (0, (rLk (rBy (M1 154) v (M 216 1 * M 216 2).toNat) al i.toNat).1)), (8, (0, (rLk (rBy (M1 154) v (M 216 1 * M 216 2).toNat) al i.toNat).2)), (9, (0, i))] [] M1 := by
    refine int_up (M 216 1 * M 216 2) (fun i hi g => ?_) (fun i hi ih g => ?_)
    · refine TX10_look_44 (c_cells (Or.inl rfl) (by rw [ec]; omega) ?_)
      rw [ec]
      refine ⟨(i32 (by omega) (by omega)), (i32 (by omega) (by omega)), fun _ => ref _ (fun q => absurd q vn) (fun _ => ?_), fun q => absurd hi q⟩
      rw [show i = M 216 1 * M 216 2 by omega]
    · have nx := ih ⟨(by omega), (by omega)⟩
      rw [show (i + 1).toNat = i.toNat + 1 by omega, rLk, show ((i.toNat : Nat) : Int) = i by omega] at nx
      have fi := fb i.toNat
      rw [show ((i.toNat : Nat) : Int) = i by omega] at fi
      have li := lb i.toNat
      have bi := rBy_is (P := M1 154) (S := S) (n := (M 216 1 * M 216 2).toNat) (by omega) (c := i) ⟨g.1, (by omega)⟩
      rw [hv] at bi
      refine TX10_look_44 (c_cells (Or.inl rfl) (by rw [ec]; omega) ?_)
      rw [ec]
      refine ⟨(i32 (by omega) (by omega)), (i32 (by omega) (by omega)), fun q => absurd hi (by omega), fun _ => v_endsBy hR.1.1 f9 (qlshl_in _ _) (j_bitCount bi.1 ?_)⟩
      rw [bi.2]
      refine j_min (i32 (by omega) (by omega)) (i32 (by omega) (by omega)) (fun u => ⟨(i32 (by omega) (by omega)), (i32 (by omega) (by omega)), fun w => ?_, fun w => ?_⟩) (fun u => ⟨(i32 (by omega) (by omega)), (i32 (by omega) (by omega)), fun w => ?_, fun w => ?_⟩)
      · rw [if_pos (show al - rBy (M1 154) v (M 216 1 * M 216 2).toNat i ≤ rBy (M1 154) v (M 216 1 * M 216 2).toNat i by omega), if_pos w] at nx; exact nx
      · rw [if_pos (show al - rBy (M1 154) v (M 216 1 * M 216 2).toNat i ≤ rBy (M1 154) v (M 216 1 * M 216 2).toNat i by omega), if_neg w] at nx; exact nx
      · by_cases q : al - rBy (M1 154) v (M 216 1 * M 216 2).toNat i ≤ rBy (M1 154) v (M 216 1 * M 216 2).toNat i
        · have e2 : al - rBy (M1 154) v (M 216 1 * M 216 2).toNat i = rBy (M1 154) v (M 216 1 * M 216 2).toNat i := by omega
          rw [if_pos q, e2, if_pos w] at nx; exact nx
        · rw [if_neg q, if_pos w] at nx; exact nx
      · by_cases q : al - rBy (M1 154) v (M 216 1 * M 216 2).toNat i ≤ rBy (M1 154) v (M 216 1 * M 216 2).toNat i
        · have e2 : al - rBy (M1 154) v (M 216 1 * M 216 2).toNat i = rBy (M1 154) v (M 216 1 * M 216 2).toNat i := by omega
          rw [if_pos q, e2, if_neg w] at nx; exact nx
        · rw [if_neg q, if_neg w] at nx; exact nx
  exact key 0 ⟨(by omega), (by omega)⟩
end Look91
