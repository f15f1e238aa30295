section Cls50
variable {X : QX} {x : Int} {d : Nat} {post : Int → QMem → Prop} {M : QMem}
theorem j_min {a b : Int} (ha : in32 a) (hb : in32 b) (h1 : b < a → post b M) (h2 : ¬ b < a → post a M) : QCm X x d 1 yJ9_min_7cf53 [(0, a), (0, b)] M post := QC.of qmJ9_min_7cf53_ok rfl (TJ9_min_7cf53_0 ⟨ha, hb, h1, h2⟩)
theorem j_max {a b : Int} (ha : in32 a) (hb : in32 b) (h1 : a < b → post b M) (h2 : ¬ a < b → post a M) : QCm X x d 1 yJ9_max_7cf53 [(0, a), (0, b)] M post := QC.of qmJ9_max_7cf53_ok rfl (TJ9_max_7cf53_0 ⟨ha, hb, h1, h2⟩)
theorem j_lmin {a b : Int} (ha : in64 a) (hb : in64 b) (h1 : b < a → post b M) (h2 : ¬ b < a → post a M) : QCm X x d 2 yJ9_min_f86c9 [(1, a), (1, b)] M post := QC.of qmJ9_min_f86c9_ok rfl (TJ9_min_f86c9_0 ⟨ha, hb, h1, h2⟩)
theorem j_lmax {a b : Int} (ha : in64 a) (hb : in64 b) (h1 : a < b → post b M) (h2 : ¬ a < b → post a M) : QCm X x d 2 yJ9_max_f86c9 [(1, a), (1, b)] M post := QC.of qmJ9_max_f86c9_ok rfl (TJ9_max_f86c9_0 ⟨ha, hb, h1, h2⟩)
theorem j_abs {a : Int} (ha : in32 a) (h1 : 0 ≤ a → post a M) (h2 : ¬ 0 ≤ a → post (-a) M) : QCm X x d 1 yJ9_abs_0f7a4 [(0, a)] M post := QC.of qmJ9_abs_0f7a4_ok rfl (TJ9_abs_0f7a4_0 ⟨ha, h1, h2⟩)
theorem j_fill {a v n : Int} (hs : (qS x).2.1 a = (100, n)) (h0 : 0 ≤ n) (h1 : n ≤ 100000) (hp : ∀ M1 : QMem, (∀ c, c ≠ a → M1 c = M c) → (∀ j, 0 ≤ j → j < n → M1 a j = v) → post 0 M1) : QCm X x d 0 yJ7_fill_53178 [(2, a), (0, v)] M post := by
  refine QC.of qmJ7_fill_53178_ok rfl (TJ7_fill_53178_0 ?_)
  rw [hs]
  refine ⟨⟨show 100 ≤ 100 by decide, show 100 ≤ 106 by decide⟩, ?_⟩
  have key : ∀ i : Int, ∀ M1 : QMem, 0 ≤ i ∧ i ≤ n ∧ (∀ c, c ≠ a → M1 c = M c) ∧ (∀ j, 0 ≤ j → j < i → M1 a j = v) → QRm X x d qmJ7_fill_53178 post 5 [(0, (2, a)), (1, (0, v)), (2, (0, i)), (3, (0, n))] [] M1 := by
    refine int_up n (fun i hi M1 h => ?_) (fun i hi ih M1 h => ?_)
    · exact TJ7_fill_53178_5 ⟨(i32 (by omega) (by omega)), (i32 (by omega) (by omega)), fun _ => hp M1 h.2.2.1 (fun j j0 j1 => h.2.2.2 j j0 (by omega)), fun z => absurd hi (by omega)⟩
    · refine TJ7_fill_53178_5 ⟨(i32 (by omega) (by omega)), (i32 (by omega) (by omega)), fun z => absurd hi (by omega), fun _ => ?_⟩
      rw [hs]
      refine ⟨rfl, (by omega), (by omega), ih _ ⟨(by omega), (by omega), fun c hc => ?_, fun j j0 j1 => ?_⟩⟩
      · rw [qup_row hc]; exact h.2.2.1 c hc
      · rw [qup_at]; split
        · rfl
        · exact h.2.2.2 j j0 (by omega)
  exact key 0 M ⟨(by omega), (by omega), fun c _ => rfl, fun j j0 j1 => (by omega)⟩
theorem j_lfill {a v n : Int} (hs : (qS x).2.1 a = (101, n)) (h0 : 0 ≤ n) (h1 : n ≤ 100000) (hp : ∀ M1 : QMem, (∀ c, c ≠ a → M1 c = M c) → (∀ j, 0 ≤ j → j < n → M1 a j = v) → post 0 M1) : QCm X x d 0 yJ7_fill_d0a16 [(2, a), (1, v)] M post := by
  refine QC.of qmJ7_fill_d0a16_ok rfl (TJ7_fill_d0a16_0 ?_)
  rw [hs]
  refine ⟨⟨show 100 ≤ 101 by decide, show 101 ≤ 106 by decide⟩, ?_⟩
  have key : ∀ i : Int, ∀ M1 : QMem, 0 ≤ i ∧ i ≤ n ∧ (∀ c, c ≠ a → M1 c = M c) ∧ (∀ j, 0 ≤ j → j < i → M1 a j = v) → QRm X x d qmJ7_fill_d0a16 post 6 [(0, (2, a)), (1, (1, v)), (3, (0, i)), (4, (0, n))] [] M1 := by
    refine int_up n (fun i hi M1 h => ?_) (fun i hi ih M1 h => ?_)
    · exact TJ7_fill_d0a16_6 ⟨(i32 (by omega) (by omega)), (i32 (by omega) (by omega)), fun _ => hp M1 h.2.2.1 (fun j j0 j1 => h.2.2.2 j j0 (by omega)), fun z => absurd hi (by omega)⟩
    · refine TJ7_fill_d0a16_6 ⟨(i32 (by omega) (by omega)), (i32 (by omega) (by omega)), fun z => absurd hi (by omega), fun _ => ?_⟩
      rw [hs]
      refine ⟨rfl, (by omega), (by omega), ih _ ⟨(by omega), (by omega), fun c hc => ?_, fun j j0 j1 => ?_⟩⟩
      · rw [qup_row hc]; exact h.2.2.1 c hc
      · rw [qup_at]; split
        · rfl
        · exact h.2.2.2 j j0 (by omega)
  exact key 0 M ⟨(by omega), (by omega), fun c _ => rfl, fun j j0 j1 => (by omega)⟩
/-- a part of a law as the class writes it -/
def cCode (c : Int) : Int := if c < 3000 then c else if c < 3003 then c - 1989 else if c < 3006 then c - 1995 else c - 2001
theorem c_clamp {v : Int} (h64 : in64 v) {b : Int} {y : Int} (hy : y = rClamp v) (hp : post y M) {m : Nat} : QCm X x m 2 yJ9_min_f86c9 [(1, 1000000), (1, v)] M (fun x1 M1 => QCm X x m 2 yJ9_max_f86c9 [(1, (-1000000)), (1, x1)] M1 (fun x2 M2 => post (ql2i x2) M2)) := by
  have o1 : in64 1000000 := ⟨by decide, by decide⟩
  have o2 : in64 (-1000000) := ⟨by decide, by decide⟩
  subst hy
  unfold rClamp at hp
  refine j_lmin o1 h64 (fun a => ?_) (fun a => ?_)
  · rw [if_neg (by omega)] at hp
    refine j_lmax o2 h64 (fun b => ?_) (fun b => ?_)
    · rw [if_neg (by omega)] at hp; rw [ql2i_id (i32 (by omega) (by omega))]; exact hp
    · split at hp
      · rw [ql2i_id ⟨by decide, by decide⟩]; exact hp
      · rw [show v = -1000000 by omega] at hp; rw [ql2i_id ⟨by decide, by decide⟩]; exact hp
  · refine j_lmax o2 o1 (fun b => ?_) (fun b => absurd (by decide) b)
    rw [ql2i_id ⟨by decide, by decide⟩]
    split at hp
    · exact hp
    · rw [if_neg (by omega), show v = 1000000 by omega] at hp; exact hp
theorem c_value_loop {b v1 v2 v3 v4 v5 : Int} (hb : b = 21 ∨ b = 24) {c w : Int → Int} {n : Nat} (hn : M b 2 = n) (h9 : n ≤ 900) (hc : ∀ i : Nat, i < n → M (b + 1) i = cCode (c i)) (ok : lawOk c n) (hi : lawHi c n = 1) (hw : ∀ k, 0 ≤ k → k < 5 → -1000000 ≤ w k ∧ w k ≤ 1000000) (hv : v1 = w 0 ∧ v2 = w 1 ∧ v3 = w 2 ∧ v4 = w 3) (h5 : v5 = w 4 ∨ ∀ i : Nat, i < n → c i ≠ 1004)
    (hp : ∀ M1 : QMem, (∀ a, a ≠ b + 2 → M1 a = M a) → post ((lawSt c w n).1 0) M1) : ∀ (m i : Nat), i + m = n → ∀ M1 : QMem, (∀ a, a ≠ b + 2 → M1 a = M a) → (∀ j, 0 ≤ j → j < lawHi c i → M1 (b + 2) j = (lawSt c w i).1 j) → QRm X x (d + 1) qmX2_value post 6 [(0, (2, b)), (1, (0, v1)), (2, (0, v2)), (3, (0, v3)), (4, (0, v4)), (5, (0, v5)), (6, (0, lawHi c i)), (7, (0, (i : Int)))] [] M1 := by
  intro m
  induction m with
  | zero =>
    intro i him M1 hf hs
    have e : i = n := by omega
    subst e
    have q1 : M1 b = M b := hf b (by omega)
    refine TX2_value_6 hb ⟨(i32 (by omega) (by omega)), ?_, fun _ => ?_, fun z => absurd (show M1 b 2 ≤ i by rw [q1]; omega) z⟩
    · rw [q1]; exact (i32 (by omega) (by omega))
    · rw [hs 0 (by omega) (by omega)]; exact hp M1 hf
  | succ m ih =>
    intro i him M1 hf hs
    have q1 : M1 b = M b := hf b (by omega)
    have q2 : M1 (b + 1) = M (b + 1) := hf (b + 1) (by omega)
    obtain ⟨o0, o1, o2, o3, o4, o5⟩ := ok i (by omega)
    have sb := lawSt_b ok hw i (by omega)
    have hci := hc i (by omega)
    refine TX2_value_6 hb ⟨(i32 (by omega) (by omega)), ?_, fun z => ?_, fun _ => ?_⟩
    · rw [q1]; exact (i32 (by omega) (by omega))
    · rw [q1] at z; exact absurd z (by omega)
    rw [q2, hci]
    refine ⟨(by omega), (by omega), ?_⟩
    have next : ∀ (M2 : QMem) (H : Int), H = lawHi c (i + 1) → (∀ a, a ≠ b + 2 → M2 a = M a) → (∀ j, 0 ≤ j → j < lawHi c (i + 1) → M2 (b + 2) j = (lawSt c w (i + 1)).1 j) → QRm X x (d + 1) qmX2_value post 361 [(0, (2, b)), (1, (0, v1)), (2, (0, v2)), (3, (0, v3)), (4, (0, v4)), (5, (0, v5)), (6, (0, H)), (7, (0, (i : Int)))] [] M2 := by
      intro M2 H hH g1 g2
      subst hH
      exact TX2_value_361 hb (ih (i + 1) (by omega) M2 g1 g2)
    by_cases k1 : c i < 3000
    · have e : cCode (c i) = c i := by rw [cCode, if_pos k1]
      obtain ⟨p1, p2, p3⟩ := o2 k1
      have hI : lawHi c (i + 1) = lawHi c i + 1 := by rw [lawHi, if_pos k1]
      have push : ∀ s0 : Int, s0 = (if c i < 1000 then c i else w (c i - 1000)) → QRm X x (d + 1) qmX2_value post 109 [(0, (2, b)), (1, (0, v1)), (2, (0, v2)), (3, (0, v3)), (4, (0, v4)), (5, (0, v5)), (6, (0, lawHi c i)), (7, (0, (i : Int)))] [(0, s0), (0, lawHi c i), (2, b + 2)] M1 := by
        intro s0 h0
        refine TX2_value_109 hb ⟨(by omega), (by omega), next _ _ hI.symm (fun a ha => ?_) (fun j j0 j1 => ?_)⟩
        · rw [qup_row ha]; exact hf a ha
        · rw [qup_at, lawSt_lit k1, ← h0]
          split
          · rfl
          · exact hs j j0 (by omega)
      rw [e]
      refine ⟨(i32 (by omega) (by omega)), fun z => absurd z (by omega), fun _ => ⟨(i32 (by omega) (by omega)), fun z => absurd z (by omega), fun _ => ⟨fun z => push _ ?_, fun z0 => ⟨fun z => push _ ?_, fun z1 => ⟨fun z => push _ ?_, fun z2 => ⟨fun z => push _ ?_, fun z3 => ⟨fun z => push _ ?_, fun z4 => push _ ?_⟩⟩⟩⟩⟩⟩⟩
      · rw [if_neg (by omega), z]; exact hv.1
      · rw [if_neg (by omega), z]; exact hv.2.1
      · rw [if_neg (by omega), z]; exact hv.2.2.1
      · rw [if_neg (by omega), z]; exact hv.2.2.2
      · rcases h5 with h | h
        · rw [if_neg (by omega), z]; exact h
        · exact absurd z (h i (by omega))
      · rw [if_pos (by omega)]
    · by_cases k2 : c i = 3006
      · have e : cCode (c i) = 1005 := by rw [k2]; rfl
        obtain ⟨p1, p2, p3⟩ := o3 k2
        have hI : lawHi c (i + 1) = lawHi c i := by rw [lawHi, if_neg k1, if_pos k2]
        rw [e]
        refine ⟨⟨by decide, by decide⟩, fun _ => ?_, fun z => absurd (by decide) z⟩
        refine TX2_value_116 hb ⟨fun _ => ⟨(i32 (by omega) (by omega)), fun z => absurd z (by omega), fun _ => ⟨(by omega), (by omega), next _ _ hI.symm (fun a ha => ?_) (fun j j0 j1 => ?_)⟩⟩, fun z => absurd rfl z⟩
        · rw [qup_row ha]; exact hf a ha
        · rw [qup_at, lawSt_not k2]
          split
          · rw [hs _ (by omega) (by omega)]
          · exact hs j j0 (by omega)
      · obtain ⟨p1, p2⟩ := o4 (by omega) k2
        have e1 : 1006 ≤ cCode (c i) ∧ cCode (c i) ≤ 1013 := by
          rw [cCode, if_neg k1]
          repeat' split
          all_goals omega
        have hI : lawHi c (i + 1) = lawHi c i - 1 := by rw [lawHi, if_neg k1, if_neg k2]
        refine ⟨(i32 (by omega) (by omega)), fun _ => ?_, fun z => absurd (show 1005 ≤ cCode (c i) by omega) z⟩
        refine TX2_value_116 hb ⟨fun z => absurd z (by omega), fun _ => ⟨(i32 (by omega) (by omega)), ?_⟩⟩
        have s2 := sb (lawHi c i - 2) (by omega) (by omega)
        have s1 := sb (lawHi c i - 1) (by omega) (by omega)
        have r2 := hs (lawHi c i - 2) (by omega) (by omega)
        have r1 := hs (lawHi c i - 1) (by omega) (by omega)
        have fin : ∀ v : Int, in64 v → rClamp v = rBetween (c i) ((lawSt c w i).1 (lawHi c i - 2)) ((lawSt c w i).1 (lawHi c i - 1)) → QRm X x (d + 1) qmX2_value post 337 [(0, (2, b)), (1, (0, v1)), (2, (0, v2)), (3, (0, v3)), (4, (0, v4)), (5, (0, v5)), (6, (0, lawHi c i - 1)), (7, (0, (i : Int))), (13, (1, v))] [] M1 := by
          intro v h64 hv
          refine TX2_value_337 hb ?_
          refine c_clamp (post := fun y M2 => (0 : Int) ≤ lawHi c i - 1 - 1 ∧ (lawHi c i - 1 - 1 < 32 ∧ (QRm X x (d + 1) qmX2_value post 361 [(0, (2, b)), (1, (0, v1)), (2, (0, v2)), (3, (0, v3)), (4, (0, v4)), (5, (0, v5)), (6, (0, lawHi c i - 1)), (7, (0, (i : Int)))] [] (qup M2 (b + 2) (lawHi c i - 1 - 1) y)))) (b := b) h64 hv.symm ⟨(by omega), (by omega), next _ _ hI.symm (fun a ha => ?_) (fun j j0 j1 => ?_)⟩
          · rw [qup_row ha]; exact hf a ha
          · rw [qup_at, lawSt_op (by omega) k2, show lawHi c i - 1 - 1 = lawHi c i - 2 by omega]
            split
            · rfl
            · exact hs j j0 (by omega)
        have z01 : ∀ v : Int, v = 0 ∨ v = 1 → in64 v ∧ rClamp v = v := by
          intro v hv
          rcases hv with rfl | rfl
          · exact ⟨⟨by decide, by decide⟩, rfl⟩
          · exact ⟨⟨by decide, by decide⟩, rfl⟩
        have f01 : ∀ v : Int, v = 0 ∨ v = 1 → v = rBetween (c i) ((lawSt c w i).1 (lawHi c i - 2)) ((lawSt c w i).1 (lawHi c i - 1)) → QRm X x (d + 1) qmX2_value post 337 [(0, (2, b)), (1, (0, v1)), (2, (0, v2)), (3, (0, v3)), (4, (0, v4)), (5, (0, v5)), (6, (0, lawHi c i - 1)), (7, (0, (i : Int))), (13, (1, v))] [] M1 := by
          intro v hv he
          exact fin v (z01 v hv).1 ((z01 v hv).2.trans he)
        refine TX2_value_152 hb ⟨(i32 (by omega) (by omega)), fun z => absurd z (by omega), fun _ => ⟨(i32 (by omega) (by omega)), fun z => absurd z (by omega), fun _ => ?_⟩⟩
        rw [show lawHi c i + (-1) - 1 = lawHi c i - 2 by omega, show lawHi c i + (-1) = lawHi c i - 1 by omega, r1, r2]
        generalize hA : (lawSt c w i).1 (lawHi c i - 2) = A at *
        generalize hB : (lawSt c w i).1 (lawHi c i - 1) = B at *
        have cc : ∀ q, cCode (c i) = q → c i = (if q = 1006 then 3007 else if q = 1007 then 3008 else if q < 1011 then q + 1995 else q + 1989) := by
          intro q hq
          rw [cCode, if_neg k1] at hq
          repeat' split at hq
          all_goals (repeat' split)
          all_goals omega
        have tf : 3007 ≤ c i → (A = 0 ∨ A = 1) ∧ (B = 0 ∨ B = 1) := fun h => ⟨s2.1 (o5 h).2, s1.1 (o5 h).1⟩
        refine ⟨(by omega), (by omega), (i32 (by omega) (by omega)), (by omega), (by omega), (i32 (by omega) (by omega)), fun z => ?_, fun z => ?_, fun z => ⟨fun y => ?_, fun y => ⟨(i64 (by omega) (by omega)), (i64 (by omega) (by omega)), ?_⟩⟩, fun z => ⟨(i64 (by omega) (by omega)), (i64 (by omega) (by omega)), fun y => ?_, fun y => ?_⟩, fun z => ⟨(i64 (by omega) (by omega)), (i64 (by omega) (by omega)), fun y => ?_, fun y => ?_⟩, fun z => ?_, fun z => ?_, fun z => ?_⟩
        · have e := cc _ z; rw [if_pos rfl] at e
          have t := tf (by omega)
          refine f01 _ ?_ ?_ <;> rcases t with ⟨rfl | rfl, rfl | rfl⟩ <;> (try rw [e]) <;> first | exact Or.inl rfl | exact Or.inr rfl | rfl
        · have e := cc _ z; rw [if_neg (by decide), if_pos rfl] at e
          have t := tf (by omega)
          refine f01 _ ?_ ?_ <;> rcases t with ⟨rfl | rfl, rfl | rfl⟩ <;> (try rw [e]) <;> first | exact Or.inl rfl | exact Or.inr rfl | rfl
        · have e : c i = 3003 := cc _ z
          exact f01 1 (Or.inr rfl) (by rw [rBetween, if_pos e, if_pos y])
        · have e : c i = 3003 := cc _ z
          exact f01 0 (Or.inl rfl) (by rw [rBetween, if_pos e, if_neg y])
        · have e : c i = 3004 := cc _ z
          exact f01 0 (Or.inl rfl) (by rw [rBetween, if_neg (by omega), if_pos e, if_neg (by omega)])
        · have e : c i = 3004 := cc _ z
          exact f01 1 (Or.inr rfl) (by rw [rBetween, if_neg (by omega), if_pos e, if_pos (by omega)])
        · have e : c i = 3005 := cc _ z
          exact f01 0 (Or.inl rfl) (by rw [rBetween, if_neg (by omega), if_neg (by omega), if_pos e, if_neg (by omega)])
        · have e : c i = 3005 := cc _ z
          exact f01 1 (Or.inr rfl) (by rw [rBetween, if_neg (by omega), if_neg (by omega), if_pos e, if_pos (by omega)])
        · have e : c i = 3000 := cc _ z
          exact fin _ (i64 (by omega) (by omega)) (by rw [rBetween, if_neg (by omega), if_neg (by omega), if_neg (by omega), if_neg (by omega), if_neg (by omega), if_pos e])
        · have e : c i = 3001 := cc _ z
          exact fin _ (i64 (by omega) (by omega)) (by rw [rBetween, if_neg (by omega), if_neg (by omega), if_neg (by omega), if_neg (by omega), if_neg (by omega), if_neg (by omega), if_pos e])
        · have e : c i = 3002 := cc 1013 (by omega)
          exact fin _ (in32_mul (i32 (by omega) (by omega)) (i32 (by omega) (by omega))) (by rw [rBetween, if_neg (by omega), if_neg (by omega), if_neg (by omega), if_neg (by omega), if_neg (by omega), if_neg (by omega), if_neg (by omega)])
theorem c_value {b v1 v2 v3 v4 v5 : Int} (hb : b = 21 ∨ b = 24) {c w : Int → Int} {n : Nat} (hn : M b 2 = n) (h9 : n ≤ 900) (hc : ∀ i : Nat, i < n → M (b + 1) i = cCode (c i)) (ok : lawOk c n) (hi : lawHi c n = 1) (hw : ∀ k, 0 ≤ k → k < 5 → -1000000 ≤ w k ∧ w k ≤ 1000000) (hv : v1 = w 0 ∧ v2 = w 1 ∧ v3 = w 2 ∧ v4 = w 3) (h5 : v5 = w 4 ∨ ∀ i : Nat, i < n → c i ≠ 1004)
    (hp : ∀ M1 : QMem, (∀ a, a ≠ b + 2 → M1 a = M a) → post ((lawSt c w n).1 0) M1) : QCm X x (d + 1) 1 yX2_value [(2, b), (0, v1), (0, v2), (0, v3), (0, v4), (0, v5)] M post :=
  QC.of qmX2_value_ok rfl (TX2_value_0 hb (c_value_loop hb hn h9 hc ok hi hw hv h5 hp n 0 (Nat.zero_add n) M (fun _ _ => rfl) (fun j j0 j1 => by rw [lawHi] at j1; omega)))
end Cls50
