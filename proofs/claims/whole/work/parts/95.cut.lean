theorem sig_no {c : Int} (h : ∀ i, 0 ≤ i → i < 12 → sc 14 i ≠ c) : sigOf c = 25 := by
  have h0 : (59 : Int) ≠ c := h 0 (by decide) (by decide)
  have h1 : (58 : Int) ≠ c := h 1 (by decide) (by decide)
  have h2 : (43 : Int) ≠ c := h 2 (by decide) (by decide)
  have h3 : (45 : Int) ≠ c := h 3 (by decide) (by decide)
  have h4 : (42 : Int) ≠ c := h 4 (by decide) (by decide)
  have h5 : (40 : Int) ≠ c := h 5 (by decide) (by decide)
  have h6 : (41 : Int) ≠ c := h 6 (by decide) (by decide)
  have h7 : (91 : Int) ≠ c := h 7 (by decide) (by decide)
  have h8 : (93 : Int) ≠ c := h 8 (by decide) (by decide)
  have h9 : (61 : Int) ≠ c := h 9 (by decide) (by decide)
  have h10 : (60 : Int) ≠ c := h 10 (by decide) (by decide)
  have h11 : (62 : Int) ≠ c := h 11 (by decide) (by decide)
  unfold sigOf
  rw [if_neg (Ne.symm h0), if_neg (Ne.symm h1), if_neg (Ne.symm h2), if_neg (Ne.symm h3), if_neg (Ne.symm h4), if_neg (Ne.symm h5), if_neg (Ne.symm h6), if_neg (Ne.symm h7), if_neg (Ne.symm h8), if_neg (Ne.symm h9), if_neg (Ne.symm h10), if_neg (Ne.symm h11)]
theorem sig_yes' : ∀ i : Nat, i < 12 → sigOf (sc 14 (i : Int)) = 30 + i ∧ cK (30 + i) = sc 14 (i : Int) := by decide +kernel
theorem sig_yes {c : Int} (h : ∃ i, 0 ≤ i ∧ i < 12 ∧ sc 14 i = c) : (30 ≤ sigOf c ∧ sigOf c ≤ 41) ∧ cK (sigOf c) = c := by
  obtain ⟨i, i0, i1, rfl⟩ := h
  obtain ⟨k, rfl⟩ := Int.eq_ofNat_of_zero_le i0
  have := sig_yes' k (by omega)
  rw [this.1]; exact ⟨by omega, this.2⟩
/-- the class's tokens are the text's -/
def cTk (b : Int → Int) (n : Int) (M : QMem) (i : Nat) : Prop := M 14 i = cK (tKd b n (tpos b n i)) ∧ M 16 i = tS b n (tpos b n i) ∧ (tKd b n (tpos b n i) = 23 → M 15 i = tV b n (tpos b n i))
def cTok (b : Int → Int) (n : Int) (T : Nat) (M : QMem) : Prop := (T : Int) ≤ n ∧ (∀ i, i < T → tKd b n (tpos b n i) ≠ 24 ∧ tKd b n (tpos b n i) ≠ 25) ∧ (tKd b n (tpos b n T) = 24 ∨ tKd b n (tpos b n T) = 25) ∧ ((T : Int) < M 13 3 ∧ M 13 3 ≤ 901) ∧ ∀ i, i ≤ T → cTk b n M i
theorem cTk.add {b : Int → Int} {n k p v : Int} {M M1 : QMem} {i : Nat} (h : cTk b n M i) (hi : (i : Int) < M 13 3) (a : tAdd M M1 k p v) : cTk b n M1 i := by
  unfold cTk
  rw [a.2.2.2.1, a.2.2.2.2.1, a.2.2.2.2.2, if_neg (by omega), if_neg (by omega), if_neg (by omega)]; exact h
/-- the token at hand -/
def cHd (M : QMem) (i : Nat) : Prop := M 13 4 = (i : Int) + 1 ∧ M 13 5 = M 14 i ∧ M 13 6 = M 15 i ∧ M 13 7 = M 16 i
/-- what taking the next token at hand leaves as it was -/
def xK (M M1 : QMem) : Prop := (∀ a, a ≠ 13 → M1 a = M a) ∧ ∀ j, j < 4 → M1 13 j = M 13 j
theorem cTok.of {b : Int → Int} {n : Int} {T : Nat} {M M1 : QMem} (h : cTok b n T M) (e3 : M1 13 3 = M 13 3) (e4 : M1 14 = M 14) (e5 : M1 15 = M 15) (e6 : M1 16 = M 16) : cTok b n T M1 := by
  unfold cTok cTk
  rw [e3, e4, e5, e6]; exact h
theorem cTok.xK {b : Int → Int} {n : Int} {T : Nat} {M M1 : QMem} (h : cTok b n T M) (k : xK M M1) : cTok b n T M1 := h.of (k.2 3 (by decide)) (k.1 14 (by decide)) (k.1 15 (by decide)) (k.1 16 (by decide))
theorem cTok.lt {b : Int → Int} {n : Int} {T : Nat} {M : QMem} (h : cTok b n T M) {i : Nat} (hi : i ≤ T) (n4 : tKd b n (tpos b n i) ≠ 24) (n5 : tKd b n (tpos b n i) ≠ 25) : i + 1 ≤ T := by
  by_cases z : i = T
  · subst z; exact absurd h.2.2.1 (fun q => q.elim n4 n5)
  · omega
section Cut95
variable {X : QX} {x : Int} {d : Nat} {post : Int → QMem → Prop} {M : QMem} {cont : Int → Int → QMem → Prop} {b : Int → Int}
theorem v_next {q : Int} (hq : M 13 4 = q) (h0 : 0 ≤ q) (h1 : q < M 13 3) (h2 : M 13 3 ≤ 901) (hp : ∀ M1, xK M M1 → M1 13 4 = q + 1 → M1 13 5 = M 14 q → M1 13 6 = M 15 q → M1 13 7 = M 16 q → post 0 M1) : QCm X x d 0 yX7_next [(2, 13)] M post := by
  subst hq
  have e5 : ∀ (N : QMem) (v : Int), (qup N 13 5 v) 13 4 = N 13 4 := fun N v => by rw [qup_at, if_neg (by decide)]
  have e6 : ∀ (N : QMem) (v : Int), (qup N 13 6 v) 13 4 = N 13 4 := fun N v => by rw [qup_at, if_neg (by decide)]
  have e7 : ∀ (N : QMem) (v : Int), (qup N 13 7 v) 13 4 = N 13 4 := fun N v => by rw [qup_at, if_neg (by decide)]
  have r5 : ∀ (N : QMem) (v : Int), (qup N 13 5 v) 15 = N 15 := fun N v => qup_row (by decide)
  have r6 : ∀ (N : QMem) (v : Int), (qup N 13 5 v) 16 = N 16 := fun N v => qup_row (by decide)
  have r7 : ∀ (N : QMem) (v : Int), (qup N 13 6 v) 16 = N 16 := fun N v => qup_row (by decide)
  refine QC.of qmX7_next_ok rfl (TX7_next_0 ?_)
  simp only [e5, e6, e7, r5, r6, r7]
  refine ⟨(i32 (by omega) (by omega)), fun z => absurd z (by omega), fun _ => ⟨(i32 (by omega) (by omega)), fun z => absurd z (by omega), fun _ => ⟨fun z => absurd z (by omega), fun _ => ⟨h0, (by omega), h0, (by omega), h0, (by omega), hp _ ⟨fun a ha => ?_, fun j hj => ?_⟩ ?_ ?_ ?_ ?_⟩⟩⟩⟩
  · rw [qup_row ha, qup_row ha, qup_row ha, qup_row ha]
  · rw [qup_at, if_neg (by omega), qup_at, if_neg (by omega), qup_at, if_neg (by omega), qup_at, if_neg (by omega)]
  · rw [qup_at, if_pos rfl]
  · rw [qup_at, if_neg (by decide), qup_at, if_neg (by decide), qup_at, if_neg (by decide), qup_at, if_pos rfl]
  · rw [qup_at, if_neg (by decide), qup_at, if_neg (by decide), qup_at, if_pos rfl]
  · rw [qup_at, if_neg (by decide), qup_at, if_pos rfl]
theorem c_next {n : Int} {T i : Nat} (h : cTok b n T M) (hl : i + 1 ≤ T) (h4 : cHd M i) (hp : ∀ M1, xK M M1 → cHd M1 (i + 1) → post 0 M1) : QCm X x d 0 yX7_next [(2, 13)] M post := by
  have sz := h.2.2.2.1
  refine v_next h4.1 (by omega) (by omega) sz.2 (fun M1 k p4 p5 p6 p7 => hp M1 k ?_)
  have ei : ((i + 1 : Nat) : Int) = (i : Int) + 1 := by omega
  unfold cHd
  rw [ei, k.1 14 (by decide), k.1 15 (by decide), k.1 16 (by decide)]
  exact ⟨p4, p5, p6, p7⟩
theorem c_cut (hb : bOk b M) {n : Int} (hn : 0 ≤ n ∧ n ≤ 900) (hp : ∀ T M1, (∀ a, a ≠ 13 → a ≠ 14 → a ≠ 15 → a ≠ 16 → M1 a = M a) → cTok b n T M1 → cHd M1 0 → post 0 M1) : QCm X x (d + 8) 0 yX7_cut [(2, 13), (2, 1), (0, n)] M post := by
  -- the end is added
  have fin : ∀ (T : Nat) (c s : Int) (M1 : QMem), (0 ≤ c ∧ c ≤ 900) → (∀ a, a ≠ 13 → a ≠ 14 → a ≠ 15 → a ≠ 16 → M1 a = M a) → (∀ j, j ≠ 3 → M1 13 j = M 13 j) → (0 ≤ M1 13 3 ∧ M1 13 3 ≤ 900) → (∀ M2, tAdd M1 M2 0 n 0 → cTok b n T M2) → QRm X x (d + 8) qmX7_cut post 10 [(0, (2, 13)), (1, (2, 1)), (2, (0, n)), (3, (0, n)), (4, (0, c))] [] M1 := fun T c s M1 hc g1 g2 gs h => by
    have go : QCm X x (d + 7) 0 yX7_add [(2, 13), (0, 0), (0, n), (0, 0)] M1 (fun _ M1 => QCm X x (d + 7) 0 yX7_next [(2, 13)] (qup M1 13 4 0) (fun _ M2 => post 0 M2)) := v_add ⟨gs.1, (by omega)⟩ (fun M2 a => by
      have ct := h M2 a
      have sz := ct.2.2.2.1
      have q3 : (qup M2 13 4 0) 13 3 = M2 13 3 := by rw [qup_at, if_neg (by decide)]
      refine v_next (q := 0) (by rw [qup_at, if_pos rfl]) (Int.le_refl 0) (by rw [q3]; omega) (by rw [q3]; exact sz.2) (fun M3 nk p4 p5 p6 p7 => ?_)
      have r : ∀ a : Int, a ≠ 13 → M3 a = M2 a := fun a ha => by rw [nk.1 a ha, qup_row ha]
      rw [qup_row (show (14 : Int) ≠ 13 by decide), ← r 14 (by decide)] at p5
      rw [qup_row (show (15 : Int) ≠ 13 by decide), ← r 15 (by decide)] at p6
      rw [qup_row (show (16 : Int) ≠ 13 by decide), ← r 16 (by decide)] at p7
      exact hp T M3 (fun q r0 r1 r2 r3 => by rw [r q r0, a.2.1 q r0 r1 r2 r3]; exact g1 q r0 r1 r2 r3) (ct.of (by rw [nk.2 3 (by decide), q3]) (r 14 (by decide)) (r 15 (by decide)) (r 16 (by decide))) ⟨p4, p5, p6, p7⟩)
    exact TX7_cut_10 ⟨(i32 (by omega) (by omega)), (i32 (by omega) (by omega)), fun _ => go, fun _ => ⟨(i32 (by omega) (by omega)), fun _ => go, fun z => absurd (Int.le_refl n) z⟩⟩
  have key : ∀ lo : Int, ∀ p, lo ≤ p → ∀ (c : Int) (k : Nat) (M1 : QMem), (0 ≤ p ∧ p ≤ n) → (0 ≤ c ∧ c ≤ p) → (k : Int) ≤ p → (∀ a, a ≠ 13 → a ≠ 14 → a ≠ 15 → a ≠ 16 → M1 a = M a) → (∀ j, j ≠ 3 → M1 13 j = M 13 j) → M1 13 3 = k → tS b n p = tS b n (tpos b n k) → (∀ i, i < k → (tKd b n (tpos b n i) ≠ 24 ∧ tKd b n (tpos b n i) ≠ 25) ∧ cTk b n M1 i) → QRm X x (d + 8) qmX7_cut post 10 [(0, (2, 13)), (1, (2, 1)), (2, (0, n)), (3, (0, p)), (4, (0, c))] [] M1 := by
    have last : ∀ (c : Int) (k : Nat) (M1 : QMem), (0 ≤ c ∧ c ≤ n) → (k : Int) ≤ n → (∀ a, a ≠ 13 → a ≠ 14 → a ≠ 15 → a ≠ 16 → M1 a = M a) → (∀ j, j ≠ 3 → M1 13 j = M 13 j) → M1 13 3 = k → tS b n n = tS b n (tpos b n k) → (∀ i, i < k → (tKd b n (tpos b n i) ≠ 24 ∧ tKd b n (tpos b n i) ≠ 25) ∧ cTk b n M1 i) → QRm X x (d + 8) qmX7_cut post 10 [(0, (2, 13)), (1, (2, 1)), (2, (0, n)), (3, (0, n)), (4, (0, c))] [] M1 := fun c k M1 hc hk g1 g2 g3 g4 g5 => by
      have sn : tS b n n = n := adv_stop (Or.inl (Int.le_refl n))
      rw [sn] at g4
      have ke : tKd b n (tpos b n k) = 24 := by unfold tKd; rw [if_pos (by omega)]
      refine fin k c 0 M1 ⟨hc.1, (by omega)⟩ g1 g2 (by rw [g3]; omega) (fun M2 a => ⟨hk, fun i hi => (g5 i hi).1, Or.inl ke, by rw [a.1, g3]; omega, fun i hi => ?_⟩)
      by_cases z : i < k
      · exact (g5 i z).2.add (by rw [g3]; omega) a
      · have ik : i = k := (by omega)
        subst ik
        unfold cTk
        rw [a.2.2.2.1, a.2.2.2.2.1, if_pos (by rw [g3]), if_pos (by rw [g3]), ke, ← g4]
        exact ⟨rfl, rfl, fun q => absurd q (by decide)⟩
    refine int_up n (fun lo hlo p hp' c k M1 pb cb kb g1 g2 g3 g4 g5 => ?_) (fun lo hlo ih p hp' c k M1 pb cb kb g1 g2 g3 g4 g5 => ?_)
    · have pn : p = n := (by omega)
      subst pn
      exact last c k M1 cb kb g1 g2 g3 g4 g5
    · by_cases plo : lo + 1 ≤ p
      · exact ih p plo c k M1 pb cb kb g1 g2 g3 g4 g5
      have hpl : p = lo := (by omega)
      have pn : p < n := (by omega)
      have hb1 : bOk b M1 := fun j j0 j1 => by rw [g1 1 (by omega) (by omega) (by omega) (by omega)]; exact hb j j0 j1
      have bp := hb1.get (j := p) ⟨pb.1, (by omega)⟩
      have sz : 0 ≤ M1 13 3 ∧ M1 13 3 < 901 := by rw [g3]; omega
      refine TX7_cut_10 ?_
      rw [bp.2]
      have blank : isBl (b p) = true → QRm X x (d + 8) qmX7_cut post 10 [(0, (2, 13)), (1, (2, 1)), (2, (0, n)), (3, (0, p + 1)), (4, (0, c + 1))] [] M1 := fun z => ih (p + 1) (by omega) (c + 1) k M1 ⟨(by omega), (by omega)⟩ ⟨(by omega), (by omega)⟩ (by omega) g1 g2 g3 (by rw [← g4]; exact (adv_go (P := fun q => isBl (b q)) pn z).symm) g5
      refine ⟨(i32 (by omega) (by omega)), (i32 (by omega) (by omega)), fun z => absurd z (by omega), fun _ => ⟨(i32 (by omega) (by omega)), fun z => absurd z (by omega), fun _ => ⟨fun z => absurd z (by omega), fun _ => ⟨pb.1, (by omega), fun z => blank (decide_eq_true (Or.inl z)), fun z => ⟨(i32 (by omega) (by omega)), fun y => blank (decide_eq_true (Or.inr y)), fun y => ?_⟩⟩⟩⟩⟩
      have nb : isBl (b p) = false := decide_eq_false (fun w => w.elim z y)
      have sp' : tS b n p = p := adv_stop (Or.inr nb)
      rw [sp'] at g4
      have nlt : ¬ n ≤ tS b n (tpos b n k) := by rw [← g4]; omega
      -- a token is added and the text goes on behind it
      have more : ∀ (e kk v : Int) (M2 : QMem), tE b n (tpos b n k) = e → (tKd b n (tpos b n k) ≠ 24 ∧ tKd b n (tpos b n k) ≠ 25) → kk = cK (tKd b n (tpos b n k)) → (tKd b n (tpos b n k) = 23 → v = tV b n (tpos b n k)) → (p < e ∧ e ≤ n) → tAdd M1 M2 kk p v → QRm X x (d + 8) qmX7_cut post 10 [(0, (2, 13)), (1, (2, 1)), (2, (0, n)), (3, (0, e)), (4, (0, c + 1))] [] M2 := fun e kk v M2 he h25 hk hv eb a => by
        refine ih e (by omega) (c + 1) (k + 1) M2 ⟨(by omega), (by omega)⟩ ⟨(by omega), (by omega)⟩ (by omega) (fun r r0 r1 r2 r3 => by rw [a.2.1 r r0 r1 r2 r3]; exact g1 r r0 r1 r2 r3) (fun j hj => by rw [a.2.2.1 j hj]; exact g2 j hj) (by rw [a.1, g3]; omega) (by rw [show tpos b n (k + 1) = tE b n (tpos b n k) from rfl, he]) (fun i hi => ?_)
        by_cases w : i < k
        · exact ⟨(g5 i w).1, (g5 i w).2.add (by rw [g3]; omega) a⟩
        · have ik : i = k := (by omega)
          subst ik
          refine ⟨h25, ?_⟩
          unfold cTk
          rw [a.2.2.2.1, a.2.2.2.2.1, a.2.2.2.2.2, if_pos (by rw [g3]), if_pos (by rw [g3]), if_pos (by rw [g3])]
          exact ⟨hk, g4, hv⟩
      -- none is: the text ends there
      have stop : ∀ (v : Int) (M2 : QMem), tKd b n (tpos b n k) = 25 → tAdd M1 M2 1 p v → QRm X x (d + 8) qmX7_cut post 10 [(0, (2, 13)), (1, (2, 1)), (2, (0, n)), (3, (0, n)), (4, (0, c + 1))] [] M2 := fun v M2 ke a => by
        refine fin k (c + 1) 0 M2 ⟨(by omega), (by omega)⟩ (fun r r0 r1 r2 r3 => by rw [a.2.1 r r0 r1 r2 r3]; exact g1 r r0 r1 r2 r3) (fun j hj => by rw [a.2.2.1 j hj]; exact g2 j hj) (by rw [a.1, g3]; omega) (fun M3 a2 => ⟨(by omega), fun i hi => (g5 i hi).1, Or.inr ke, by rw [a2.1, a.1, g3]; omega, fun i hi => ?_⟩)
        refine cTk.add ?_ (by rw [a.1, g3]; omega) a2
        by_cases w : i < k
        · exact (g5 i w).2.add (by rw [g3]; omega) a
        · have ik : i = k := (by omega)
          subst ik
          unfold cTk
          rw [a.2.2.2.1, a.2.2.2.2.1, if_pos (by rw [g3]), if_pos (by rw [g3]), ke]
          exact ⟨rfl, g4, fun q => absurd q (by decide)⟩
      refine v_isDigit (i32 (by omega) (by omega)) (fun w => ⟨fun q => absurd q (by decide), fun _ => ⟨(i32 (by omega) (by omega)), ?_⟩⟩) (fun w => ⟨fun _ => v_isLetter (i32 (by omega) (by omega)) (fun u => ⟨fun q => absurd q (by decide), fun _ => ⟨(i32 (by omega) (by omega)), ?_⟩⟩) (fun u => ⟨fun _ => ?_, fun q => absurd rfl q⟩), fun q => absurd rfl q⟩)
      · have ns : ¬ isSm (b p) = true := fun q => by
          have q1 := of_decide_eq_true q
          have q2 := of_decide_eq_true w
          omega
        have te : tE b n (tpos b n k) = adv (fun q => isDg (b q)) n p := by unfold tE; rw [if_neg nlt, ← g4, if_neg ns, if_pos w]
        have g := adv_go (P := fun q => isDg (b q)) pn w
        have ab := adv_b (P := fun q => isDg (b q)) (n := n) (p := p + 1) (by omega)
        have tk : tKd b n (tpos b n k) = if adv (fun q => isDg (b q)) n p - p ≤ 3 then 23 else 25 := by unfold tKd; rw [if_neg nlt, te, ← g4, if_neg ns, if_pos w]
        refine v_cutNumber hb1 ⟨pb.1, pn, hn.2⟩ sz (fun q M2 a => ?_) (fun q M2 v a => ?_)
        · rw [if_pos q] at tk
          refine more _ 2 _ M2 te (by rw [tk]; exact ⟨by decide, by decide⟩) (by rw [tk]; rfl) (fun _ => ?_) (by rw [g]; omega) a
          unfold tV; rw [te, ← g4]
        · rw [if_neg q] at tk
          exact stop v M2 tk a
      · have te : tE b n (tpos b n k) = adv (fun q => isSm (b q)) n p := by unfold tE; rw [if_neg nlt, ← g4, if_pos u]
        have g := adv_go (P := fun q => isSm (b q)) pn u
        have ab := adv_b (P := fun q => isSm (b q)) (n := n) (p := p + 1) (by omega)
        have tk : tKd b n (tpos b n k) = keyOf b p (adv (fun q => isSm (b q)) n p) := by unfold tKd; rw [if_neg nlt, te, ← g4, if_pos u]
        have kb2 := keyOf_b b p (adv (fun q => isSm (b q)) n p)
        refine v_cutWord hb1 ⟨pb.1, pn, hn.2⟩ sz (fun M2 a => ?_)
        exact more _ _ 0 M2 te (by rw [tk]; omega) (by rw [tk]) (fun q => by rw [tk] at q; omega) (by rw [g]; omega) a
      · have ns : ¬ isSm (b p) = true := by rw [u]; decide
        have nd : ¬ isDg (b p) = true := by rw [w]; decide
        have te : tE b n (tpos b n k) = p + 1 := by unfold tE; rw [if_neg nlt, ← g4, if_neg ns, if_neg nd]
        have tk : tKd b n (tpos b n k) = sigOf (b p) := by unfold tKd; rw [if_neg nlt, ← g4, if_neg ns, if_neg nd]
        refine j_sign bp.1 (fun h V hV => ⟨(i32 (by omega) (by omega)), fun q => absurd q (by omega), fun _ => v_add sz (fun M2 a => ?_)⟩) (fun h => ⟨(i32 (by omega) (by omega)), fun _ => v_add sz (fun M2 a => ?_), fun q => absurd (by decide) q⟩)
        · have sy := sig_yes h
          exact more _ _ 0 M2 te (by rw [tk]; omega) (by rw [tk, sy.2]) (fun q => by rw [tk] at q; omega) ⟨(by omega), (by omega)⟩ a
        · exact stop 0 M2 (by rw [tk]; exact sig_no h) a
  refine QC.of qmX7_cut_ok rfl (TX7_cut_0 (key 0 0 (Int.le_refl 0) 0 0 _ ⟨(by omega), hn.1⟩ ⟨(by omega), (by omega)⟩ (by omega) (fun a a0 _ _ _ => qup_row a0) (fun j hj => by rw [qup_at, if_neg hj]) (by rw [qup_at, if_pos rfl]; rfl) rfl (fun i hi => absurd hi (by omega))))
end Cut95
