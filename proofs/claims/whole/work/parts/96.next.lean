/-- the reference's text -/
def rTx (b : Int → Int) (n : Int) (M : QMem) : Prop := (0 ≤ n ∧ n ≤ 900) ∧ M 215 8 = n ∧ ∀ j, 0 ≤ j → j < 900 → M 218 j = b j ∧ 0 ≤ b j ∧ b j ≤ 255
theorem rTx.congr {b : Int → Int} {n : Int} {M M1 : QMem} (h : rTx b n M) (h8 : M1 215 8 = M 215 8) (h18 : M1 218 = M 218) : rTx b n M1 := by
  unfold rTx; rw [h8, h18]; exact h
def sgN (c : Int) : Nat → Int
  | 0 => 25
  | i + 1 => if c = sc 14 i then 30 + i else sgN c i
theorem sgN_12 (c : Int) : sgN c 12 = sigOf c := by
  show (if c = sc 14 11 then (30 : Int) + 11 else if c = sc 14 10 then 30 + 10 else if c = sc 14 9 then 30 + 9 else if c = sc 14 8 then 30 + 8 else if c = sc 14 7 then 30 + 7 else if c = sc 14 6 then 30 + 6 else if c = sc 14 5 then 30 + 5 else if c = sc 14 4 then 30 + 4 else if c = sc 14 3 then 30 + 3 else if c = sc 14 2 then 30 + 2 else if c = sc 14 1 then 30 + 1 else if c = sc 14 0 then 30 + 0 else 25) = _
  rw [show sc 14 11 = 62 from rfl, show sc 14 10 = 60 from rfl, show sc 14 9 = 61 from rfl, show sc 14 8 = 93 from rfl, show sc 14 7 = 91 from rfl, show sc 14 6 = 41 from rfl, show sc 14 5 = 40 from rfl, show sc 14 4 = 42 from rfl, show sc 14 3 = 45 from rfl, show sc 14 2 = 43 from rfl, show sc 14 1 = 58 from rfl, show sc 14 0 = 59 from rfl]
  unfold sigOf
  repeat' split
  all_goals omega
/-- where the words stand in the row of words -/
def kOff (n : Nat) : Int := ([1, 6, 11, 16, 22, 28, 32, 36, 41, 43, 45, 50, 54, 57, 61].getD n 61 : Int)
def kStr (n : Nat) : Nat := [0, 1, 2, 3, 4, 5, 6, 7, 8, 9, 10, 12, 11, 13].getD n 0
theorem kOff_ok : ∀ n : Nat, n < 14 → kOff (n + 1) = kOff n + sl (kStr n) + 1 ∧ 0 ≤ kOff n ∧ kOff n + sl (kStr n) < 61 ∧ kStr n < 14 ∧ sc 15 (kOff n + sl (kStr n)) = 32 := by decide +kernel
theorem kChr_ok : ∀ n : Nat, n < 14 → ∀ i : Nat, i < 5 → (i : Int) < sl (kStr n) → sc 15 (kOff n + i) = sc (kStr n) i ∧ sc (kStr n) i ≠ 32 := by decide +kernel
theorem kLen_ok : ∀ n : Nat, n < 14 → 1 ≤ sl (kStr n) ∧ sl (kStr n) ≤ 5 := by decide +kernel
section Next96
variable {X : QX} {x : Int} {d : Nat} {post : Int → QMem → Prop} {M : QMem} {cont : Int → Int → QMem → Prop} {b : Int → Int} {n : Int}
theorem m_see (h : rTx b n M) {k : Int} (hk : 0 ≤ k ∧ k ≤ 901) (h1 : k < n → post (b k) M) (h0 : n ≤ k → post (-1) M) : QCm X x d 1 yX11_see [(2, 215), (0, k)] M post := by
  have hn := h.1
  refine QC.of qmX11_see_ok rfl (TX11_see_0 ?_)
  rw [h.2.1]
  refine ⟨(i32 (by omega) (by omega)), (i32 (by omega) (by omega)), fun z => h0 z, fun z => ⟨(by omega), (by omega), ?_⟩⟩
  rw [(h.2.2 k hk.1 (by omega)).1]; exact h1 (by omega)
theorem m_isSmall {c : Int} (hc : in32 c) (h1 : isSm c = true → post 1 M) (h0 : isSm c = false → post 0 M) : QCm X x d 1 yX11_isSmall [(0, c)] M post :=
  QC.of qmX11_isSmall_ok rfl (TX11_isSmall_0 ⟨hc, fun z => h0 (decide_eq_false (by omega)), fun z => ⟨fun y => h0 (decide_eq_false (by omega)), fun y => h1 (decide_eq_true ⟨(by omega), (by omega)⟩)⟩⟩)
theorem m_isDigit {c : Int} (hc : in32 c) (h1 : isDg c = true → post 1 M) (h0 : isDg c = false → post 0 M) : QCm X x d 1 yX11_isDigit [(0, c)] M post :=
  QC.of qmX11_isDigit_ok rfl (TX11_isDigit_0 ⟨hc, fun z => h0 (decide_eq_false (by omega)), fun z => ⟨fun y => h0 (decide_eq_false (by omega)), fun y => h1 (decide_eq_true ⟨(by omega), (by omega)⟩)⟩⟩)
theorem m_word (h : rTx b n M) {s e : Int} (h6 : M 215 6 = s) (h7 : M 215 7 = e) (hs : 0 ≤ s ∧ s ≤ e ∧ e ≤ n) {w : Nat} (hw : w < 14) (h1 : sp b s e (kStr w) → post w M) (h0 : ¬ sp b s e (kStr w) → QRm X x (d + 5) qmX11_keyAt post 4 [(0, (2, 215)), (1, (0, ((w + 1 : Nat) : Int))), (2, (0, kOff (w + 1)))] [] M) : QRm X x (d + 5) qmX11_keyAt post 4 [(0, (2, 215)), (1, (0, (w : Int))), (2, (0, kOff w))] [] M := by
  have ko := kOff_ok w hw
  have kl := kLen_ok w hw
  have hn := h.1
  have ch : ∀ i : Int, 0 ≤ i → i < sl (kStr w) → sc 15 (kOff w + i) = sc (kStr w) i ∧ sc (kStr w) i ≠ 32 := fun i i0 i1 => by
    have := kChr_ok w hw i.toNat (by omega) (by omega)
    rw [show ((i.toNat : Nat) : Int) = i by omega] at this; exact this
  -- the rest of the word is passed
  have pass : ¬ sp b s e (kStr w) → ∀ i : Int, 0 ≤ i ∧ i ≤ sl (kStr w) → QRm X x (d + 5) qmX11_keyAt post 97 [(0, (2, 215)), (1, (0, (w : Int))), (2, (0, kOff w + i))] [] M := fun ns => by
    refine int_up (sl (kStr w)) (fun i hi g => ?_) (fun i hi ih g => ?_)
    · have il : i = sl (kStr w) := (by omega)
      refine TX11_keyAt_97 (j_charAt (s := 15) (by decide) (by decide) ⟨(by omega), by show _ < (61 : Int); omega⟩ ⟨fun _ => ?_, fun z => absurd (by rw [il]; exact ko.2.2.2.2) z⟩)
      have := h0 ns
      rw [ko.1] at this
      rw [il, show (w : Int) + 1 = ((w + 1 : Nat) : Int) by omega]; exact this
    · have c := ch i g.1 hi
      have sk := (sc_ok 15 (by decide) (kOff w + i).toNat (by omega))
      rw [show (((kOff w + i).toNat : Nat) : Int) = kOff w + i by omega] at sk
      refine TX11_keyAt_97 (j_charAt (s := 15) (by decide) (by decide) ⟨(by omega), by show _ < (61 : Int); omega⟩ ⟨fun z => absurd (c.1.symm.trans z) c.2, fun _ => ⟨(i32 (by omega) (by omega)), ?_⟩⟩)
      rw [show kOff w + i + 1 = kOff w + (i + 1) by omega]
      exact ih ⟨(by omega), (by omega)⟩
  have key : ∀ i : Int, (0 ≤ i ∧ i ≤ sl (kStr w)) ∧ s + i ≤ e ∧ (∀ q, 0 ≤ q → q < i → b (s + q) = sc (kStr w) q) → QRm X x (d + 5) qmX11_keyAt post 15 [(0, (2, 215)), (1, (0, (w : Int))), (2, (0, kOff w)), (3, (0, i))] [] M := by
    have p0 : ¬ sp b s e (kStr w) → QRm X x (d + 5) qmX11_keyAt post 97 [(0, (2, 215)), (1, (0, (w : Int))), (2, (0, kOff w))] [] M := fun ns => by
      have := pass ns 0 ⟨(by omega), (by omega)⟩
      rw [Int.add_zero] at this; exact this
    refine int_up (sl (kStr w)) (fun i hi g => ?_) (fun i hi ih g => ?_)
    · have il : i = sl (kStr w) := (by omega)
      have lt : kOff w + i < sl 15 := by show _ < (61 : Int); omega
      have c32 : sc 15 (kOff w + i) = 32 := by rw [il]; exact ko.2.2.2.2
      refine TX11_keyAt_15 (j_charAt (s := 15) (by decide) (by decide) ⟨(by omega), lt⟩ ⟨fun _ => j_charAt (s := 15) (by decide) (by decide) ⟨(by omega), lt⟩ ⟨fun _ => ?_, fun z => absurd c32 z⟩, fun z => absurd c32 z⟩)
      rw [h6, h7]
      exact ⟨fun z => h1 ⟨(by omega), fun q q0 q1 => g.2.2 q q0 (by omega)⟩, fun z => ⟨(i32 (by omega) (by omega)), (i32 (by omega) (by omega)), p0 (fun y => z (by have := y.1; omega))⟩⟩
    · have c := ch i g.1.1 hi
      have lt : kOff w + i < sl 15 := by show _ < (61 : Int); omega
      have sk := (sc_ok 15 (by decide) (kOff w + i).toNat (by omega))
      rw [show (((kOff w + i).toNat : Nat) : Int) = kOff w + i by omega] at sk
      have n32 : ¬ sc 15 (kOff w + i) = 32 := fun z => c.2 (c.1.symm.trans z)
      refine TX11_keyAt_15 (j_charAt (s := 15) (by decide) (by decide) ⟨(by omega), lt⟩ ⟨fun z => absurd z n32, fun _ => ⟨(i32 (by omega) (by omega)), ?_⟩⟩)
      rw [h6, h7]
      refine ⟨(i32 (by omega) (by omega)), (i32 (by omega) (by omega)), fun z => j_charAt (s := 15) (by decide) (by decide) ⟨(by omega), lt⟩ ⟨fun y => absurd y n32, fun _ => ⟨(i32 (by omega) (by omega)), p0 (fun y => ?_)⟩⟩, fun z => ⟨(by omega), (by omega), j_charAt (s := 15) (by decide) (by decide) ⟨(by omega), lt⟩ ?_⟩⟩
      · have := y.1; omega
      · have bq := h.2.2 (s + i) (by omega) (by omega)
        rw [bq.1, c.1]
        refine ⟨fun y => ih ⟨⟨(by omega), (by omega)⟩, (by omega), fun q q0 q1 => ?_⟩, fun y => ⟨(i32 (by omega) (by omega)), by rw [← c.1]; exact (i32 (by omega) (by omega)), j_charAt (s := 15) (by decide) (by decide) ⟨(by omega), lt⟩ ⟨fun u => absurd u n32, fun _ => ⟨(i32 (by omega) (by omega)), p0 (fun u => y (u.2 i g.1.1 hi))⟩⟩⟩⟩
        by_cases u : q = i
        · rw [u]; exact y
        · exact g.2.2 q q0 (by omega)
  exact TX11_keyAt_4 (j_length (s := 15) (by decide) (by decide) ⟨(i32 (by omega) (by omega)), ⟨by decide, by decide⟩, fun z => absurd z (by show ¬ (61 : Int) ≤ _; omega), fun _ => key 0 ⟨⟨(by omega), (by omega)⟩, (by omega), fun q q0 q1 => absurd q1 (by omega)⟩⟩)
theorem m_keyAt (h : rTx b n M) {s e : Int} (h6 : M 215 6 = s) (h7 : M 215 7 = e) (hs : 0 ≤ s ∧ s ≤ e ∧ e ≤ n) (hp : post (keyOf b s e) M) : QCm X x (d + 5) 1 yX11_keyAt [(2, 215)] M post := by
  have go : ∀ V, keyOf b s e = V → post V M := fun V h => by rw [← h]; exact hp
  unfold keyOf at go
  refine QC.of qmX11_keyAt_ok rfl (TX11_keyAt_0 (m_word h h6 h7 hs (w := 0) (by decide) (fun z => go 0 (if_pos z)) (fun z0 => ?_)))
  rw [if_neg (show ¬ sp b s e 0 from z0)] at go
  refine m_word h h6 h7 hs (w := 1) (by decide) (fun z => go 1 (if_pos z)) (fun z0 => ?_)
  rw [if_neg (show ¬ sp b s e 1 from z0)] at go
  refine m_word h h6 h7 hs (w := 2) (by decide) (fun z => go 2 (if_pos z)) (fun z0 => ?_)
  rw [if_neg (show ¬ sp b s e 2 from z0)] at go
  refine m_word h h6 h7 hs (w := 3) (by decide) (fun z => go 3 (if_pos z)) (fun z0 => ?_)
  rw [if_neg (show ¬ sp b s e 3 from z0)] at go
  refine m_word h h6 h7 hs (w := 4) (by decide) (fun z => go 4 (if_pos z)) (fun z0 => ?_)
  rw [if_neg (show ¬ sp b s e 4 from z0)] at go
  refine m_word h h6 h7 hs (w := 5) (by decide) (fun z => go 5 (if_pos z)) (fun z0 => ?_)
  rw [if_neg (show ¬ sp b s e 5 from z0)] at go
  refine m_word h h6 h7 hs (w := 6) (by decide) (fun z => go 6 (if_pos z)) (fun z0 => ?_)
  rw [if_neg (show ¬ sp b s e 6 from z0)] at go
  refine m_word h h6 h7 hs (w := 7) (by decide) (fun z => go 7 (if_pos z)) (fun z0 => ?_)
  rw [if_neg (show ¬ sp b s e 7 from z0)] at go
  refine m_word h h6 h7 hs (w := 8) (by decide) (fun z => go 8 (if_pos z)) (fun z0 => ?_)
  rw [if_neg (show ¬ sp b s e 8 from z0)] at go
  refine m_word h h6 h7 hs (w := 9) (by decide) (fun z => go 9 (if_pos z)) (fun z0 => ?_)
  rw [if_neg (show ¬ sp b s e 9 from z0)] at go
  refine m_word h h6 h7 hs (w := 10) (by decide) (fun z => go 10 (if_pos z)) (fun z0 => ?_)
  rw [if_neg (show ¬ sp b s e 10 from z0)] at go
  refine m_word h h6 h7 hs (w := 11) (by decide) (fun z => go 11 ?_) (fun za => ?_)
  · have : ¬ sp b s e 11 := fun y => by
      have e1 : e - s = 2 := y.1
      have e2 : e - s = 3 := z.1
      omega
    rw [if_neg this]; exact if_pos z
  refine m_word h h6 h7 hs (w := 12) (by decide) (fun z => go 12 (if_pos z)) (fun z0 => ?_)
  rw [if_neg (show ¬ sp b s e 11 from z0), if_neg (show ¬ sp b s e 12 from za)] at go
  refine m_word h h6 h7 hs (w := 13) (by decide) (fun z => go 13 (if_pos z)) (fun z0 => ?_)
  rw [if_neg (show ¬ sp b s e 13 from z0)] at go
  exact TX11_keyAt_4 (j_length (s := 15) (by decide) (by decide) ⟨by show in32 (61 : Int); exact ⟨by decide, by decide⟩, ⟨by decide, by decide⟩, fun _ => go 22 rfl, fun z => absurd (by decide) z⟩)
/-- where the reference stands in the text: at the token that begins behind p -/
def rAt (b : Int → Int) (n p : Int) (M : QMem) : Prop := M 215 6 = tS b n p ∧ M 215 7 = tE b n p ∧ M 215 9 = tKd b n p ∧ (tKd b n p = 23 → M 215 10 = tV b n p)
def nK (M M1 : QMem) : Prop := (∀ a, a ≠ 215 → M1 a = M a) ∧ ∀ j, j ≠ 6 → j ≠ 7 → j ≠ 9 → j ≠ 10 → M1 215 j = M 215 j
theorem nK.refl (M : QMem) : nK M M := ⟨fun _ _ => rfl, fun _ _ _ _ _ => rfl⟩
theorem nK.trans {M M1 M2 : QMem} (h : nK M M1) (g : nK M1 M2) : nK M M2 := ⟨fun a ha => (g.1 a ha).trans (h.1 a ha), fun j a1 a2 a3 a4 => (g.2 j a1 a2 a3 a4).trans (h.2 j a1 a2 a3 a4)⟩
theorem nK.fld {M : QMem} {j v : Int} (hj : j = 6 ∨ j = 7 ∨ j = 9 ∨ j = 10) : nK M (qup M 215 j v) := ⟨fun a ha => qup_row ha, fun i a1 a2 a3 a4 => by rw [qup_at, if_neg (by omega)]⟩
theorem rTx.nK {M M1 : QMem} (h : rTx b n M) (k : nK M M1) : rTx b n M1 := h.congr (k.2 8 (by omega) (by omega) (by omega) (by omega)) (k.1 218 (by omega))
theorem m_next (h : rTx b n M) {p : Int} (hp7 : M 215 7 = p) (hpb : 0 ≤ p ∧ p ≤ n) (hp : ∀ M1, nK M M1 → rAt b n p M1 → post 0 M1) : QCm X x (d + 6) 0 yX11_next [(2, 215)] M post := by
  have hn := h.1
  have sb := tS_b (b := b) hpb
  have eb := tE_b (b := b) hpb
  have bb : ∀ j, 0 ≤ j → j < 900 → in32 (b j) := fun j j0 j1 => by
    have := h.2.2 j j0 j1
    exact (i32 (by omega) (by omega))
  -- behind the blanks
  have main : ∀ M1 : QMem, nK M M1 → M1 215 6 = tS b n p → ∀ V : Int, (n ≤ tS b n p → V = -1) → (tS b n p < n → V = b (tS b n p)) → ¬ V = 10 → ¬ V = 32 → QRm X x (d + 6) qmX11_next post 8 [(0, (2, 215))] [] M1 := by
    intro M1 k1 h6 V v1 v2 n10 n32
    have t1 := h.nK k1
    have see : ∀ {dd : Nat} {Q : Int → QMem → Prop} {MM : QMem}, rTx b n MM → Q V MM → QCm X x dd 1 yX11_see [(2, 215), (0, tS b n p)] MM Q := fun tt hq => m_see tt ⟨(by omega), (by omega)⟩ (fun z => by rw [← v2 z]; exact hq) (fun z => by rw [← v1 z]; exact hq)
    have iV : in32 V := by
      rcases Int.lt_or_le (tS b n p) n with z | z
      · rw [v2 z]; exact bb _ (by omega) (by omega)
      · rw [v1 z]; exact ⟨by decide, by decide⟩
    refine TX11_next_8 ?_
    rw [h6]
    refine see t1 ⟨fun z => absurd z n10, fun _ => ⟨iV, ?_⟩⟩
    rw [h6]
    refine see t1 ⟨fun z => absurd z n32, fun _ => ⟨iV, ?_⟩⟩
    rw [h6]
    have k2 : nK M (qup M1 215 7 (tS b n p)) := k1.trans (nK.fld (Or.inr (Or.inl rfl)))
    have t2 := h.nK k2
    have q6 : (qup M1 215 7 (tS b n p)) 215 6 = tS b n p := by rw [qup_at, if_neg (by decide)]; exact h6
    have q7 : (qup M1 215 7 (tS b n p)) 215 7 = tS b n p := by rw [qup_at, if_pos rfl]
    rw [q6, t2.2.1]
    generalize qup M1 215 7 (tS b n p) = M2 at *
    refine ⟨(i32 (by omega) (by omega)), (i32 (by omega) (by omega)), fun z => ?_, fun z => hp _ (k2.trans (nK.fld (Or.inr (Or.inr (Or.inl rfl))))) ⟨?_, ?_, ?_, fun y => ?_⟩⟩
    rotate_left
    · rw [qup_at, if_neg (by decide)]; exact q6
    · rw [qup_at, if_neg (by decide), q7]; unfold tE; rw [if_pos (by omega)]
    · rw [qup_at, if_pos rfl]; unfold tKd; rw [if_pos (by omega)]
    · unfold tKd at y; rw [if_pos (by omega)] at y; exact absurd y (by decide)
    have nlt : ¬ n ≤ tS b n p := (by omega)
    refine see t2 (m_isSmall iV (fun sm => ⟨fun y => absurd y (by decide), fun _ => ⟨(i32 (by omega) (by omega)), ?_⟩⟩) (fun sm => ⟨fun _ => ?_, fun y => absurd rfl y⟩))
    · -- a word
      rw [v2 z] at sm
      have te : tE b n p = adv (fun q => isSm (b q)) n (tS b n p) := by unfold tE; rw [if_neg nlt, if_pos sm]
      have tk : tKd b n p = keyOf b (tS b n p) (tE b n p) := by unfold tKd; rw [if_neg nlt, if_pos sm]
      have kb := keyOf_b b (tS b n p) (tE b n p)
      have key : ∀ q : Int, ∀ N : QMem, (tS b n p ≤ q ∧ q ≤ n) ∧ nK M N ∧ N 215 6 = tS b n p ∧ N 215 7 = q ∧ adv (fun q => isSm (b q)) n q = tE b n p → QRm X x (d + 6) qmX11_next post 89 [(0, (2, 215))] [] N := by
        have fin : ∀ q : Int, ∀ N : QMem, (tS b n p ≤ q ∧ q ≤ n) → nK M N → N 215 6 = tS b n p → N 215 7 = q → q = tE b n p → QCm X x (d + 5) 1 yX11_keyAt [(2, 215)] N (fun x3 M3 => post 0 (qup M3 215 9 x3)) := fun q N qb kN n6 n7 qe => by
          subst qe
          refine m_keyAt (h.nK kN) n6 n7 ⟨(by omega), qb.1, qb.2⟩ (hp _ (kN.trans (nK.fld (Or.inr (Or.inr (Or.inl rfl))))) ⟨?_, ?_, ?_, fun y => ?_⟩)
          · rw [qup_at, if_neg (by decide)]; exact n6
          · rw [qup_at, if_neg (by decide)]; exact n7
          · rw [qup_at, if_pos rfl, tk]
          · rw [tk] at y; omega
        refine int_up n (fun q hq N g => ?_) (fun q hq ih N g => ?_)
        · obtain ⟨g0, g1, g2, g3, g4⟩ := g
          have e := adv_stop (P := fun q => isSm (b q)) (n := n) (p := q) (Or.inl hq)
          refine TX11_next_89 ?_
          rw [g3]
          exact m_see (h.nK g1) ⟨(by omega), (by omega)⟩ (fun w => absurd w (by omega)) (fun _ => m_isSmall ⟨by decide, by decide⟩ (fun w => absurd w (by decide)) (fun _ => ⟨fun _ => fin q N g0 g1 g2 g3 (by rw [← g4, e]), fun w => absurd rfl w⟩))
        · obtain ⟨g0, g1, g2, g3, g4⟩ := g
          refine TX11_next_89 ?_
          rw [g3]
          refine m_see (h.nK g1) ⟨(by omega), (by omega)⟩ (fun _ => m_isSmall (bb q (by omega) (by omega)) (fun w => ⟨fun u => absurd u (by decide), fun _ => ⟨(i32 (by omega) (by omega)), ?_⟩⟩) (fun w => ⟨fun _ => fin q N g0 g1 g2 g3 ?_, fun u => absurd rfl u⟩)) (fun w => absurd w (by omega))
          · rw [g3]
            refine ih _ ⟨⟨(by omega), (by omega)⟩, g1.trans (nK.fld (Or.inr (Or.inl rfl))), ?_, ?_, ?_⟩
            · rw [qup_at, if_neg (by decide)]; exact g2
            · rw [qup_at, if_pos rfl]
            · rw [← adv_go (P := fun q => isSm (b q)) hq w]; exact g4
          · rw [← g4]; exact (adv_stop (P := fun q => isSm (b q)) (n := n) (p := q) (Or.inr w)).symm
      exact key (tS b n p) M2 ⟨⟨(by omega), (by omega)⟩, k2, q6, q7, te.symm⟩
    · rw [q6]
      refine see t2 (m_isDigit iV (fun dg => ⟨fun y => absurd y (by decide), fun _ => ⟨(i32 (by omega) (by omega)), ?_⟩⟩) (fun dg => ⟨fun _ => ?_, fun y => absurd rfl y⟩))
      · -- a number
        rw [v2 z] at sm dg
        have ns : ¬ isSm (b (tS b n p)) = true := by rw [sm]; decide
        have te : tE b n p = adv (fun q => isDg (b q)) n (tS b n p) := by unfold tE; rw [if_neg nlt, if_neg ns, if_pos dg]
        have tk : tKd b n p = if tE b n p - tS b n p ≤ 3 then 23 else 25 := by unfold tKd; rw [if_neg nlt, if_neg ns, if_pos dg]
        have key : ∀ q : Int, ∀ N : QMem, (tS b n p ≤ q ∧ q ≤ n) ∧ nK M N ∧ N 215 6 = tS b n p ∧ N 215 7 = q ∧ N 215 10 = nvN b (tS b n p) (q - tS b n p).toNat ∧ adv (fun q => isDg (b q)) n q = tE b n p → QRm X x (d + 6) qmX11_next post 146 [(0, (2, 215))] [] N := by
          have fin : ∀ q : Int, ∀ N : QMem, (tS b n p ≤ q ∧ q ≤ n) → nK M N → N 215 6 = tS b n p → N 215 7 = q → N 215 10 = nvN b (tS b n p) (q - tS b n p).toNat → q = tE b n p → (in32 ((N 215 7) - (N 215 6)) ∧ ((N 215 7) - (N 215 6) ≤ 3 → (post 0 (qup N 215 9 23))) ∧ (¬ (N 215 7) - (N 215 6) ≤ 3 → (post 0 (qup N 215 9 25)))) := fun q N qb kN n6 n7 n10 qe => by
            subst qe
            rw [n6, n7]
            refine ⟨(i32 (by omega) (by omega)), fun w => hp _ (kN.trans (nK.fld (Or.inr (Or.inr (Or.inl rfl))))) ⟨?_, ?_, ?_, fun y => ?_⟩, fun w => hp _ (kN.trans (nK.fld (Or.inr (Or.inr (Or.inl rfl))))) ⟨?_, ?_, ?_, fun y => ?_⟩⟩
            · rw [qup_at, if_neg (by decide)]; exact n6
            · rw [qup_at, if_neg (by decide)]; exact n7
            · rw [qup_at, if_pos rfl, tk, if_pos w]
            · rw [qup_at, if_neg (by decide), n10]; rfl
            · rw [qup_at, if_neg (by decide)]; exact n6
            · rw [qup_at, if_neg (by decide)]; exact n7
            · rw [qup_at, if_pos rfl, tk, if_neg w]
            · rw [tk, if_neg w] at y; exact absurd y (by decide)
          refine int_up n (fun q hq N g => ?_) (fun q hq ih N g => ?_)
          · obtain ⟨g0, g1, g2, g3, g5, g4⟩ := g
            have e := adv_stop (P := fun q => isDg (b q)) (n := n) (p := q) (Or.inl hq)
            refine TX11_next_146 ?_
            rw [g3]
            refine m_see (h.nK g1) ⟨(by omega), (by omega)⟩ (fun w => absurd w (by omega)) (fun _ => m_isDigit ⟨by decide, by decide⟩ (fun w => absurd w (by decide)) (fun _ => ⟨fun _ => fin q N g0 g1 g2 g3 g5 (by rw [← g4, e]), fun w => absurd rfl w⟩))
          · obtain ⟨g0, g1, g2, g3, g5, g4⟩ := g
            have tN := h.nK g1
            refine TX11_next_146 ?_
            rw [g3]
            refine m_see tN ⟨(by omega), (by omega)⟩ (fun _ => m_isDigit (bb q (by omega) (by omega)) (fun w => ⟨fun u => absurd u (by decide), fun _ => ⟨(i32 (by omega) (by omega)), ?_⟩⟩) (fun w => ⟨fun _ => fin q N g0 g1 g2 g3 g5 ?_, fun u => absurd rfl u⟩)) (fun w => absurd w (by omega))
            · rw [g3, g2]
              have ga : adv (fun q => isDg (b q)) n (q + 1) = tE b n p := by rw [← adv_go (P := fun q => isDg (b q)) hq w]; exact g4
              refine ⟨(i32 (by omega) (by omega)), fun u => ?_, fun u => ?_⟩
              · refine ih _ ⟨⟨(by omega), (by omega)⟩, g1.trans (nK.fld (Or.inr (Or.inl rfl))), ?_, ?_, ?_, ga⟩
                · rw [qup_at, if_neg (by decide)]; exact g2
                · rw [qup_at, if_pos rfl]
                · rw [qup_at, if_neg (by decide), g5, show (q + 1 - tS b n p).toNat = (q - tS b n p).toNat + 1 by omega, nvN, if_neg (by omega)]
              · refine m_see tN ⟨(by omega), (by omega)⟩ (fun _ => ?_) (fun w2 => absurd w2 (by omega))
                refine ih _ ⟨⟨(by omega), (by omega)⟩, (g1.trans (nK.fld (Or.inr (Or.inr (Or.inr rfl))))).trans (nK.fld (Or.inr (Or.inl rfl))), ?_, ?_, ?_, ga⟩
                · rw [qup_at, if_neg (by decide), qup_at, if_neg (by decide)]; exact g2
                · rw [qup_at, if_pos rfl, qup_at, if_neg (by decide), g3]
                · rw [qup_at, if_neg (by decide), qup_at, if_pos rfl, g5, show (q + 1 - tS b n p).toNat = (q - tS b n p).toNat + 1 by omega, nvN, if_pos (by omega), show tS b n p + ((q - tS b n p).toNat : Nat) = q by omega]
            · rw [← g4]; exact (adv_stop (P := fun q => isDg (b q)) (n := n) (p := q) (Or.inr w)).symm
        refine key (tS b n p) _ ⟨⟨(by omega), (by omega)⟩, k2.trans (nK.fld (Or.inr (Or.inr (Or.inr rfl)))), ?_, ?_, ?_, te.symm⟩
        · rw [qup_at, if_neg (by decide)]; exact q6
        · rw [qup_at, if_neg (by decide)]; exact q7
        · rw [qup_at, if_pos rfl, Int.sub_self]; rfl
      · -- a sign
        have vv := v2 z
        rw [vv] at sm dg
        have ns : ¬ isSm (b (tS b n p)) = true := by rw [sm]; decide
        have nd : ¬ isDg (b (tS b n p)) = true := by rw [dg]; decide
        have te : tE b n p = tS b n p + 1 := by unfold tE; rw [if_neg nlt, if_neg ns, if_neg nd]
        have tk : tKd b n p = sigOf (b (tS b n p)) := by unfold tKd; rw [if_neg nlt, if_neg ns, if_neg nd]
        have sgb := sigOf_b (b (tS b n p))
        have key : ∀ i : Int, ∀ N : QMem, (0 ≤ i ∧ i ≤ 12) ∧ nK M N ∧ N 215 6 = tS b n p ∧ N 215 7 = tE b n p ∧ N 215 9 = sgN (b (tS b n p)) i.toNat → QRm X x (d + 6) qmX11_next post 254 [(0, (2, 215)), (1, (0, i))] [] N := by
          refine int_up 12 (fun i hi N g => ?_) (fun i hi ih N g => ?_)
          · obtain ⟨g0, g1, g2, g3, g4⟩ := g
            refine TX11_next_254 (j_length (s := 14) (by decide) (by decide) ⟨(i32 (by omega) (by omega)), ⟨by decide, by decide⟩, fun _ => hp N g1 ⟨g2, g3, ?_, fun y => ?_⟩, fun w => absurd hi w⟩)
            · rw [g4, show i.toNat = 12 by omega, sgN_12, tk]
            · rw [tk] at y; omega
          · obtain ⟨g0, g1, g2, g3, g4⟩ := g
            have sp2 := sg_pos i.toNat (by omega)
            rw [show ((i.toNat : Nat) : Int) = i by omega] at sp2
            refine TX11_next_254 (j_length (s := 14) (by decide) (by decide) ⟨(i32 (by omega) (by omega)), ⟨by decide, by decide⟩, fun w => absurd hi (by show ¬ _; have : (12 : Int) ≤ i := w; omega), fun _ => ?_⟩)
            rw [g2]
            refine m_see (h.nK g1) ⟨(by omega), (by omega)⟩ (fun _ => j_charAt (s := 14) (by decide) (by decide) ⟨g0.1, hi⟩ ⟨fun w => ih _ ⟨⟨(by omega), (by omega)⟩, g1.trans (nK.fld (Or.inr (Or.inr (Or.inl rfl)))), ?_, ?_, ?_⟩, fun w => ⟨bb _ (by omega) (by omega), (i32 (by omega) (by omega)), ih _ ⟨⟨(by omega), (by omega)⟩, g1, g2, g3, ?_⟩⟩⟩) (fun w => absurd w (by omega))
            · rw [qup_at, if_neg (by decide)]; exact g2
            · rw [qup_at, if_neg (by decide)]; exact g3
            · rw [qup_at, if_pos rfl, show (i + 1).toNat = i.toNat + 1 by omega, sgN, show ((i.toNat : Nat) : Int) = i by omega, if_pos w]
            · rw [g4, show (i + 1).toNat = i.toNat + 1 by omega, sgN, show ((i.toNat : Nat) : Int) = i by omega, if_neg w]
        refine key 0 _ ⟨⟨(by omega), (by omega)⟩, (k2.trans (nK.fld (Or.inr (Or.inl rfl)))).trans (nK.fld (Or.inr (Or.inr (Or.inl rfl)))), ?_, ?_, ?_⟩
        · rw [qup_at, if_neg (by decide), qup_at, if_neg (by decide)]; exact q6
        · rw [qup_at, if_neg (by decide), qup_at, if_pos rfl, q7, te]
        · rw [qup_at, if_pos rfl]; rfl
  have key : ∀ q : Int, ∀ N : QMem, (p ≤ q ∧ q ≤ n) ∧ nK M N ∧ N 215 6 = q ∧ tS b n q = tS b n p → QRm X x (d + 6) qmX11_next post 8 [(0, (2, 215))] [] N := by
    refine int_up n (fun q hq N g => ?_) (fun q hq ih N g => ?_)
    · obtain ⟨g0, g1, g2, g3⟩ := g
      have e : tS b n q = q := adv_stop (Or.inl hq)
      exact main N g1 (by rw [g2, ← g3, e]) (-1) (fun _ => rfl) (fun w => absurd w (by rw [← g3, e]; omega)) (by decide) (by decide)
    · obtain ⟨g0, g1, g2, g3⟩ := g
      by_cases bl : isBl (b q) = true
      · have nx : ∀ N2 : QMem, N2 = N → QRm X x (d + 6) qmX11_next post 8 [(0, (2, 215))] [] (qup N2 215 6 (N2 215 6 + 1)) := fun N2 e2 => by
          subst e2
          refine ih _ ⟨⟨(by omega), (by omega)⟩, g1.trans (nK.fld (Or.inl rfl)), ?_, ?_⟩
          · rw [qup_at, if_pos rfl, g2]
          · rw [← g3]; exact (adv_go (P := fun q => isBl (b q)) hq bl).symm
        refine TX11_next_8 ?_
        rw [g2]
        refine m_see (h.nK g1) ⟨(by omega), (by omega)⟩ (fun _ => ⟨fun _ => by have := nx N rfl; rw [g2] at this; rw [g2]; exact this, fun w => ⟨bb q (by omega) (by omega), ?_⟩⟩) (fun w => absurd w (by omega))
        rw [g2]
        refine m_see (h.nK g1) ⟨(by omega), (by omega)⟩ (fun _ => ⟨fun _ => by have := nx N rfl; rw [g2] at this; rw [g2]; exact this, fun u => ?_⟩) (fun w => absurd w (by omega))
        exact absurd (of_decide_eq_true bl) (fun y => y.elim w u)
      · have nb : isBl (b q) = false := by
          cases r : isBl (b q) with
          | false => rfl
          | true => exact absurd r bl
        have e : tS b n q = q := adv_stop (Or.inr nb)
        rw [e] at g3
        have nbb : ¬ (b q = 10 ∨ b q = 32) := of_decide_eq_false nb
        exact main N g1 (by rw [g2, g3]) (b q) (fun w => absurd w (by omega)) (fun _ => by rw [← g3]) (fun w => nbb (Or.inl w)) (fun w => nbb (Or.inr w))
  refine QC.of qmX11_next_ok rfl (TX11_next_0 ?_)
  rw [hp7]
  exact key p _ ⟨⟨(by omega), hpb.2⟩, nK.fld (Or.inl rfl), by rw [qup_at, if_pos rfl], rfl⟩
end Next96
