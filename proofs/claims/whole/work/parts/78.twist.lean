/-- how often those of a set lie over one -/
noncomputable def pCN (A : Int → Int) (e s : Int) : Nat → Int
  | 0 => 0
  | n + 1 => pCN A e s n + if bt s n = true then pTm A n e else 0
noncomputable def pC (A : Int → Int) (e s : Int) : Int := pCN A e s 6
theorem pTm_sum (A : Int → Int) (e : Int) : ∀ n : Nat, rCnt (fun k => A (294 + k) = 0 ∧ A (258 + k) = e) n + rCnt (fun k => A (294 + k) = 1 ∧ A (258 + k) = e) n + rCnt (fun k => A (294 + k) = 2 ∧ A (258 + k) = e) n + rCnt (fun k => A (294 + k) = 3 ∧ A (258 + k) = e) n + rCnt (fun k => A (294 + k) = 4 ∧ A (258 + k) = e) n + rCnt (fun k => A (294 + k) = 5 ∧ A (258 + k) = e) n ≤ n := by
  intro n
  induction n with
  | zero => simp only [rCnt_zero]; omega
  | succ n ih =>
    have h : ∀ a : Int, rCnt (fun k => A (294 + k) = a ∧ A (258 + k) = e) (n + 1) = rCnt (fun k => A (294 + k) = a ∧ A (258 + k) = e) n ∨ (rCnt (fun k => A (294 + k) = a ∧ A (258 + k) = e) (n + 1) = rCnt (fun k => A (294 + k) = a ∧ A (258 + k) = e) n + 1 ∧ A (294 + n) = a) := fun a => by
      by_cases z : A (294 + n) = a ∧ A (258 + n) = e
      · exact Or.inr ⟨rCnt_yes z, z.1⟩
      · exact Or.inl (rCnt_no z)
    have h0 := h 0
    have h1 := h 1
    have h2 := h 2
    have h3 := h 3
    have h4 := h 4
    have h5 := h 5
    omega
theorem pTm_0 (A : Int → Int) (a e : Int) : 0 ≤ pTm A a e := (rCnt_b _ _).1
theorem pTm_same {A : Int → Int} (hL : rLandOk A) (hS : rCel A) {e : Int} (he : 0 ≤ e) : pTm A e e = 0 := by
  have := hL.cells
  rw [pTm, rCnt_zero_iff]
  intro i hi z
  exact ((hS i (by omega) (by omega)).2.2 (by omega)).2 (by omega)
theorem pC_b {A : Int → Int} (hL : rLandOk A) (e s : Int) : 0 ≤ pC A e s ∧ pC A e s ≤ 36 := by
  have hc := hL.cells
  have := pTm_sum A e (A 1 * A 2).toNat
  have h0 := pTm_0 A 0 e
  have h1 := pTm_0 A 1 e
  have h2 := pTm_0 A 2 e
  have h3 := pTm_0 A 3 e
  have h4 := pTm_0 A 4 e
  have h5 := pTm_0 A 5 e
  have t : pTm A 0 e + pTm A 1 e + pTm A 2 e + pTm A 3 e + pTm A 4 e + pTm A 5 e ≤ 36 := by
    simp only [pTm]; omega
  have b : ∀ (c : Bool) (v : Int), 0 ≤ v → 0 ≤ (if c = true then v else 0) ∧ (if c = true then v else 0) ≤ v := fun c v hv => by
    cases c <;> simp <;> omega
  have b0 := b (bt s 0) _ h0
  have b1 := b (bt s 1) _ h1
  have b2 := b (bt s 2) _ h2
  have b3 := b (bt s 3) _ h3
  have b4 := b (bt s 4) _ h4
  have b5 := b (bt s 5) _ h5
  have e6 : pC A e s = 0 + (if bt s 0 = true then pTm A 0 e else 0) + (if bt s 1 = true then pTm A 1 e else 0) + (if bt s 2 = true then pTm A 2 e else 0) + (if bt s 3 = true then pTm A 3 e else 0) + (if bt s 4 = true then pTm A 4 e else 0) + (if bt s 5 = true then pTm A 5 e else 0) := rfl
  rw [e6]; omega
theorem pCN_ge {A : Int → Int} {e s : Int} (hs : pSub A s) : ∀ n : Nat, A 3 ≤ n → n ≤ 6 → pCN A e s 6 = pCN A e s n → True := fun _ _ _ _ => trivial
theorem pCN_top {A : Int → Int} {e s : Int} (h3 : 0 ≤ A 3 ∧ A 3 ≤ 6) (hs : pSub A s) : ∀ j : Nat, (A 3).toNat + j ≤ 6 → pCN A e s ((A 3).toNat + j) = pCN A e s (A 3).toNat := by
  intro j
  induction j with
  | zero => intro _; rfl
  | succ j ih =>
    intro hj
    rw [show (A 3).toNat + (j + 1) = ((A 3).toNat + j) + 1 by omega, pCN, if_neg (fun z => ?_), Int.add_zero, ih (by omega)]
    have := hs.2 _ (by omega) z
    omega
/-- a set without one -/
abbrev wo (s e : Int) : Int := qand s (qxor (qshl 1 e) (-1))
/-- the fewest turned, by a row of those taken in -/
noncomputable def pTwF (A g : Int → Int) (s : Int) : Nat → Int
  | 0 => if s = 0 then 0 else 268435456
  | n + 1 => if bt s n = true then (if pTwF A g s n ≤ pC A n s + g (wo s n) then pTwF A g s n else pC A n s + g (wo s n)) else pTwF A g s n
noncomputable def pTwN (A : Int → Int) : Nat → Int → Int
  | 0 => fun _ => 0
  | n + 1 => fun s => pTwF A (pTwN A n) s 6
noncomputable def pTw (A : Int → Int) (s : Int) : Int := pTwN A (crd s).toNat s
theorem pTwF_top {A g : Int → Int} {s : Int} (h3 : 0 ≤ A 3 ∧ A 3 ≤ 6) (hs : pSub A s) : ∀ j : Nat, (A 3).toNat + j ≤ 6 → pTwF A g s ((A 3).toNat + j) = pTwF A g s (A 3).toNat := by
  intro j
  induction j with
  | zero => intro _; rfl
  | succ j ih =>
    intro hj
    rw [show (A 3).toNat + (j + 1) = ((A 3).toNat + j) + 1 by omega, pTwF, if_neg (fun z => ?_), ih (by omega)]
    have := hs.2 _ (by omega) z
    omega
theorem pTwF_le {A g : Int → Int} {s : Int} : ∀ n k : Nat, k < n → bt s k = true → pTwF A g s n ≤ pC A k s + g (wo s k) := by
  intro n
  induction n with
  | zero => intro k hk; exact absurd hk (by omega)
  | succ n ih =>
    intro k hk z
    by_cases e : k = n
    · rw [pTwF, ← e, if_pos z]; split <;> omega
    · have := ih k (by omega) z
      rw [pTwF]; repeat' split
      all_goals omega
theorem pTwF_is {A g : Int → Int} {s : Int} (hn : s ≠ 0) : ∀ n : Nat, pTwF A g s n = 268435456 ∨ ∃ k : Nat, k < n ∧ bt s k = true ∧ pTwF A g s n = pC A k s + g (wo s k) := by
  intro n
  induction n with
  | zero => rw [pTwF, if_neg hn]; exact Or.inl rfl
  | succ n ih =>
    have old : pTwF A g s n = 268435456 ∨ ∃ k : Nat, k < n + 1 ∧ bt s k = true ∧ pTwF A g s n = pC A k s + g (wo s k) := by
      rcases ih with q | ⟨k, k0, k1, k2⟩
      · exact Or.inl q
      · exact Or.inr ⟨k, (by omega), k1, k2⟩
    rw [pTwF]
    by_cases z : bt s n = true
    · rw [if_pos z]
      by_cases y : pTwF A g s n ≤ pC A n s + g (wo s n)
      · rw [if_pos y]; exact old
      · rw [if_neg y]; exact Or.inr ⟨n, (by omega), z, rfl⟩
    · rw [if_neg z]; exact old
theorem some_bit' : ∀ n : Nat, n < 64 → n = 0 ∨ ∃ k : Nat, k < 6 ∧ bt (n : Int) k = true := by
  intro n hn
  by_cases h : ∃ k : Nat, k < 6 ∧ bt (n : Int) k = true
  · exact Or.inr h
  · refine Or.inl ?_
    have : (n : Int) = 0 := s_ext ⟨(by omega), (by omega)⟩ ⟨(by omega), (by omega)⟩ (fun k hk => by
      rw [bt_0]
      cases q : bt (n : Int) k with
      | false => rfl
      | true => exact absurd ⟨k, hk, q⟩ h)
    omega
theorem some_bit {s : Int} (hs : 0 ≤ s ∧ s < 64) (hn : s ≠ 0) : ∃ k : Nat, k < 6 ∧ bt s k = true := by
  obtain ⟨n, rfl⟩ := Int.eq_ofNat_of_zero_le hs.1
  rcases some_bit' n (by omega) with q | q
  · exact absurd (by omega) hn
  · exact q
theorem crd_wo {s : Int} {k : Nat} (hs : 0 ≤ s ∧ s < 64) (hk : k < 6) (z : bt s k = true) : (0 ≤ wo s k ∧ wo s k < 64) ∧ crd (wo s k) = crd s - 1 := ⟨s_less hs ⟨(by omega), (by omega)⟩, crd_less hs ⟨(by omega), (by omega)⟩ (by rw [Int.toNat_natCast]; exact z)⟩
theorem pTw_0 (A : Int → Int) : pTw A 0 = 0 := by
  rw [pTw, show crd 0 = 0 from by decide +kernel]; rfl
theorem pTwN_b {A : Int → Int} (hL : rLandOk A) : ∀ n : Nat, ∀ s : Int, (0 ≤ s ∧ s < 64) → crd s = n → 0 ≤ pTwN A n s ∧ pTwN A n s ≤ 36 * n := by
  intro n
  induction n with
  | zero => intro s _ _; exact ⟨Int.le_refl 0, Int.le_refl 0⟩
  | succ n ih =>
    intro s hs hc
    have hn : s ≠ 0 := fun z => by rw [z, show crd 0 = 0 from by decide +kernel] at hc; omega
    obtain ⟨k, hk, z⟩ := some_bit hs hn
    have c1 := crd_wo hs hk z
    have b := ih (wo s k) c1.1 (by omega)
    have b2 := pC_b hL k s
    have l := pTwF_le (A := A) (g := pTwN A n) 6 k hk z
    show 0 ≤ pTwF A (pTwN A n) s 6 ∧ pTwF A (pTwN A n) s 6 ≤ _
    rcases pTwF_is (A := A) (g := pTwN A n) hn 6 with q | ⟨j, j0, j1, j2⟩
    · have := crd_b hs; omega
    · have c2 := crd_wo hs j0 j1
      have b3 := ih (wo s j) c2.1 (by omega)
      have b4 := pC_b hL j s
      omega
theorem pTw_le {A : Int → Int} {s : Int} (hs : 0 ≤ s ∧ s < 64) {k : Nat} (hk : k < 6) (z : bt s k = true) : pTw A s ≤ pC A k s + pTw A (wo s k) := by
  have c1 := crd_wo hs hk z
  have b := crd_b c1.1
  rw [pTw, pTw, show (crd s).toNat = (crd (wo s k)).toNat + 1 by omega]
  exact pTwF_le 6 k hk z
theorem pTw_is {A : Int → Int} (hL : rLandOk A) {s : Int} (hs : 0 ≤ s ∧ s < 64) (hn : s ≠ 0) : ∃ k : Nat, k < 6 ∧ bt s k = true ∧ pTw A s = pC A k s + pTw A (wo s k) := by
  obtain ⟨k, hk, z⟩ := some_bit hs hn
  have c1 := crd_wo hs hk z
  have b := crd_b c1.1
  have bs := crd_b hs
  have es : (crd s).toNat = (crd (wo s k)).toNat + 1 := by omega
  have bb := pTwN_b hL (crd s).toNat s hs (by omega)
  have e : pTw A s = pTwF A (pTwN A (crd (wo s k)).toNat) s 6 := by rw [pTw, es]; rfl
  rcases pTwF_is (A := A) (g := pTwN A (crd (wo s k)).toNat) hn 6 with q | ⟨j, j0, j1, j2⟩
  · rw [← e, pTw] at q; omega
  · refine ⟨j, j0, j1, ?_⟩
    have c2 := crd_wo hs j0 j1
    rw [e, j2, pTw, show (crd (wo s j)).toNat = (crd (wo s k)).toNat by omega]
/-- what is left -/
abbrev lf (L s : Int) : Int := qand L (qxor s (-1))
theorem lf_b' : ∀ n : Nat, n < 64 → ∀ m : Nat, m < 64 → 0 ≤ qand (n : Int) (qxor (m : Int) (-1)) ∧ qand (n : Int) (qxor (m : Int) (-1)) < 64 := by decide +kernel
theorem lf_b {L s : Int} (hL : 0 ≤ L ∧ L < 64) (hs : 0 ≤ s ∧ s < 64) : 0 ≤ lf L s ∧ lf L s < 64 := by
  obtain ⟨n, rfl⟩ := Int.eq_ofNat_of_zero_le hL.1
  obtain ⟨m, rfl⟩ := Int.eq_ofNat_of_zero_le hs.1
  exact lf_b' n (by omega) m (by omega)
theorem lf_bt (L s : Int) {k : Nat} (hk : k < 32) : bt (lf L s) k = (bt L k && !bt s k) := by rw [bi_and _ _ hk, bi_not _ hk]
theorem lf_0 {L : Int} (hL : 0 ≤ L ∧ L < 64) : lf L 0 = L := by
  refine s_ext (lf_b hL ⟨(by omega), (by omega)⟩) hL (fun k hk => ?_)
  rw [lf_bt _ _ (by omega), bt_0]; cases bt L k <;> rfl
theorem lf_L {L : Int} (hL : 0 ≤ L ∧ L < 64) : lf L L = 0 := by
  refine s_ext (lf_b hL hL) ⟨(by omega), (by omega)⟩ (fun k hk => ?_)
  rw [lf_bt _ _ (by omega), bt_0]; cases bt L k <;> rfl
theorem lf_or {L s : Int} (hL : 0 ≤ L ∧ L < 64) (hs : 0 ≤ s ∧ s < 64) {e : Int} (he : 0 ≤ e ∧ e < 6) : lf L (qor s (qshl 1 e)) = wo (lf L s) e := by
  refine s_ext (lf_b hL (s_or hs (s_bit he)).1) (s_less (lf_b hL hs) he) (fun k hk => ?_)
  rw [lf_bt _ _ (by omega), put_i _ ⟨(by omega), (by omega)⟩ (by omega), off_i _ ⟨(by omega), (by omega)⟩ (by omega), lf_bt _ _ (by omega)]
  cases bt L k <;> cases bt s k <;> cases decide ((k : Int) = e) <;> rfl
theorem sub_le {L s : Int} (hL : 0 ≤ L ∧ L < 64) (hs : 0 ≤ s ∧ s < 64) (h : ∀ k, k < 6 → bt s k = true → bt L k = true) : s ≤ L := by
  have e : qor s L = L := by
    refine s_ext (s_or hs hL).1 hL (fun k hk => ?_)
    rw [bi_or _ _ (by omega)]
    cases hb : bt s k with
    | false => rfl
    | true => rw [h k hk hb]; rfl
  have := (s_or hs hL).2
  omega
theorem lf_ne {L i : Int} (hL : 0 ≤ L ∧ L < 64) (hi : 0 ≤ i ∧ i < L) : lf L i ≠ 0 := by
  intro z
  have := sub_le (L := i) (s := L) ⟨(by omega), (by omega)⟩ hL (fun k hk y => by
    have q := lf_bt L i (k := k) (by omega)
    rw [z, bt_0, y] at q
    cases r : bt i k with
    | true => rfl
    | false => rw [r] at q; exact absurd q (by decide))
  omega
section Twist78
variable {X : QX} {x : Int} {d : Nat} {post : Int → QMem → Prop} {M : QMem} {cont : Int → Int → QMem → Prop}
theorem m_overs (hL : rLandOk (M 216)) (hS : rStOk (M 216)) {a e : Int} (ha : in32 a) (he : in32 e) (hp : post (pTm (M 216) a e) M) : QCm X x (d + 1) 1 yX11_overs [(2, 215), (0, a), (0, e)] M post := by
  have hcl := hL.cells
  have a3 := hL.2.2.1
  have key : ∀ i : Int, 0 ≤ i ∧ i ≤ M 216 1 * M 216 2 → QRm X x (d + 1) qmX11_overs post 5 [(0, (2, 215)), (1, (0, a)), (2, (0, e)), (3, (0, rCnt (fun k => M 216 (294 + k) = a ∧ M 216 (258 + k) = e) i.toNat)), (4, (0, i))] [] M := by
    refine int_up (M 216 1 * M 216 2) (fun i hi g => ?_) (fun i hi ih g => ?_)
    · refine TX11_overs_5 (m_cells ⟨(i32 (by omega) (by omega)), (i32 (by omega) (by omega)), fun _ => ?_, fun z => absurd hi (by omega)⟩)
      rw [show i = M 216 1 * M 216 2 by omega]; exact hp
    · have kc := hS.2.2.1 i g.1 (by omega)
      have := ih ⟨(by omega), (by omega)⟩
      have ei : ((i.toNat : Nat) : Int) = i := by omega
      rw [show (i + 1).toNat = i.toNat + 1 by omega] at this
      refine TX11_overs_5 (m_cells ⟨(i32 (by omega) (by omega)), (i32 (by omega) (by omega)), fun z => absurd hi (by omega), fun _ => ⟨(by omega), (by omega), fun z => ⟨(by omega), (by omega), fun y => ?_, fun y => ⟨(i32 (by omega) (by omega)), he, ?_⟩⟩, fun z => ⟨(i32 (by omega) (by omega)), ha, ?_⟩⟩⟩)
      · rw [rCnt_yes (by rw [ei]; exact ⟨z, y⟩)] at this; exact this
      · rw [rCnt_no (by rw [ei]; exact fun q => y q.2)] at this
        rw [Int.add_zero]; exact this
      · rw [rCnt_no (by rw [ei]; exact fun q => z q.1)] at this
        rw [Int.add_zero]; exact this
  exact QC.of qmX11_overs_ok rfl (TX11_overs_0 (key 0 ⟨(by omega), (by omega)⟩))
theorem m_twistsOf (hL : rLandOk (M 216)) (hS : rStOk (M 216)) : ∀ n : Nat, ∀ s : Int, ∀ post : Int → QMem → Prop, pSub (M 216) s → crd s = n → post (pTwN (M 216) n s) M → QCm X x (d + n + 2) 1 yX11_twistsOf [(2, 215), (0, s)] M post := by
  have a3 := hL.2.2.1
  intro n
  induction n with
  | zero =>
    intro s post hs hc hp
    have s0 : s = 0 := (crd_b hs.1).2 (by omega)
    subst s0
    have key : ∀ i : Int, 0 ≤ i ∧ i ≤ M 216 3 → QRm X x (d + 2) qmX11_twistsOf post 14 [(0, (2, 215)), (1, (0, 0)), (2, (0, 0)), (3, (0, i))] [] M := by
      refine int_up (M 216 3) (fun i hi g => ?_) (fun i hi ih g => ?_)
      · exact TX11_twistsOf_14 ⟨(i32 (by omega) (by omega)), (i32 (by omega) (by omega)), fun _ => hp, fun z => absurd hi z⟩
      · exact TX11_twistsOf_14 ⟨(i32 (by omega) (by omega)), (i32 (by omega) (by omega)), fun z => absurd hi (by omega), fun _ => ⟨(i32 (by omega) (by omega)), m_isIn ⟨(by omega), (by omega)⟩ (fun b => by rw [bt_0] at b; exact absurd b (by decide)) (fun b => ⟨fun _ => ih ⟨(by omega), (by omega)⟩, fun z => absurd rfl z⟩)⟩⟩
    exact QC.of qmX11_twistsOf_ok rfl (TX11_twistsOf_0 ⟨fun _ => key 0 ⟨(by omega), (by omega)⟩, fun z => absurd rfl z⟩)
  | succ n ih =>
    intro s post hs hc hp
    have s6 := hs.1
    have hn : s ≠ 0 := fun z => by rw [z, show crd 0 = 0 from by decide +kernel] at hc; omega
    have hb := pTwN_b hL
    have c6 := crd_b s6
    have key : ∀ i : Int, (0 ≤ i ∧ i ≤ M 216 3) → QRm X x (d + (n + 1) + 2) qmX11_twistsOf post 14 [(0, (2, 215)), (1, (0, s)), (2, (0, pTwF (M 216) (pTwN (M 216) n) s i.toNat)), (3, (0, i))] [] M := by
      refine int_up (M 216 3) (fun i hi g => ?_) (fun i hi ih2 g => ?_)
      · refine TX11_twistsOf_14 ⟨(i32 (by omega) (by omega)), (i32 (by omega) (by omega)), fun _ => ?_, fun z => absurd hi z⟩
        have t := pTwF_top (A := M 216) (g := pTwN (M 216) n) a3 hs (6 - (M 216 3).toNat) (by omega)
        rw [show (M 216 3).toNat + (6 - (M 216 3).toNat) = 6 by omega] at t
        rw [show i.toNat = (M 216 3).toNat by omega, ← t]; exact hp
      · have ei : ((i.toNat : Nat) : Int) = i := by omega
        have nx := ih2 ⟨(by omega), (by omega)⟩
        rw [show (i + 1).toNat = i.toNat + 1 by omega, pTwF] at nx
        refine TX11_twistsOf_14 ⟨(i32 (by omega) (by omega)), (i32 (by omega) (by omega)), fun z => absurd hi (by omega), fun _ => ⟨(i32 (by omega) (by omega)), m_isIn ⟨(by omega), (by omega)⟩ (fun b => ⟨fun z => absurd z (by decide), fun _ => ⟨(i32 (by omega) (by omega)), ?_⟩⟩) (fun b => ⟨fun _ => ?_, fun z => absurd rfl z⟩)⟩⟩
        · rw [if_pos b, ei] at nx
          have cw := crd_wo s6 (k := i.toNat) (by omega) b
          rw [ei] at cw
          have tb := hb n (wo s i) cw.1 (by omega)
          have pb := pC_b hL i s
          have key2 : ∀ j : Int, 0 ≤ j ∧ j ≤ M 216 3 → QRm X x (d + (n + 1) + 2) qmX11_twistsOf post 42 [(0, (2, 215)), (1, (0, s)), (2, (0, pTwF (M 216) (pTwN (M 216) n) s i.toNat)), (3, (0, i)), (4, (0, pCN (M 216) i s j.toNat)), (5, (0, j))] [] M := by
            refine int_up (M 216 3) (fun j hj q => ?_) (fun j hj ih3 q => ?_)
            · have t := pCN_top (A := M 216) (e := i) a3 hs (6 - (M 216 3).toNat) (by omega)
              rw [show (M 216 3).toNat + (6 - (M 216 3).toNat) = 6 by omega] at t
              have tc : pCN (M 216) i s j.toNat = pC (M 216) i s := by rw [show j.toNat = (M 216 3).toNat by omega, ← t]; rfl
              rw [tc]
              have fb : in32 (pTwF (M 216) (pTwN (M 216) n) s i.toNat) := by
                rcases pTwF_is (A := M 216) (g := pTwN (M 216) n) hn i.toNat with y | ⟨k, k0, k1, k2⟩
                · rw [y]; exact ⟨by decide, by decide⟩
                · have c2 := crd_wo s6 (k := k) (by omega) k1
                  have b3 := hb n (wo s k) c2.1 (by omega)
                  have b4 := pC_b hL k s
                  rw [k2]; exact (i32 (by omega) (by omega))
              refine TX11_twistsOf_42 ⟨(i32 (by omega) (by omega)), (i32 (by omega) (by omega)), fun _ => ih (wo s i) _ (hs.less ⟨(by omega), (by omega)⟩) (by omega) ⟨(i32 (by omega) (by omega)), fb, fun y => ?_, fun y => ?_⟩, fun z => absurd hj z⟩
              · rw [if_pos y] at nx; exact nx
              · rw [if_neg y] at nx; exact nx
            · have nj := ih3 ⟨(by omega), (by omega)⟩
              have ej : ((j.toNat : Nat) : Int) = j := by omega
              rw [show (j + 1).toNat = j.toNat + 1 by omega, pCN, ej] at nj
              refine TX11_twistsOf_42 ⟨(i32 (by omega) (by omega)), (i32 (by omega) (by omega)), fun z => absurd hj (by omega), fun _ => ⟨fun z => ?_, fun z => ⟨(i32 (by omega) (by omega)), (i32 (by omega) (by omega)), m_isIn ⟨(by omega), (by omega)⟩ (fun b2 => ⟨fun z => absurd z (by decide), fun _ => ⟨(i32 (by omega) (by omega)), m_overs hL hS (i32 (by omega) (by omega)) (i32 (by omega) (by omega)) ?_⟩⟩) (fun b2 => ⟨fun _ => ?_, fun z => absurd rfl z⟩)⟩⟩⟩
              · rw [z, pTm_same hL hS.2.2.1 g.1] at nj
                rw [z]
                simpa using nj
              · rw [if_pos b2] at nj; exact nj
              · rw [if_neg (by rw [b2]; decide)] at nj; exact nj
          exact key2 0 ⟨(by omega), (by omega)⟩
        · rw [if_neg (by rw [b]; decide)] at nx; exact nx
    refine QC.of qmX11_twistsOf_ok rfl (TX11_twistsOf_0 ⟨fun z => absurd z hn, fun _ => ⟨(i32 (by omega) (by omega)), ?_⟩⟩)
    have := key 0 ⟨(by omega), (by omega)⟩
    rw [show (0 : Int).toNat = 0 from rfl, pTwF, if_neg hn] at this
    exact this
theorem c_timesUnder {A : Int → Int} (hL : pLook A M) {e s : Int} (he : 0 ≤ e ∧ e < 6) (hp : post (pC A e s) M) : QCm X x d 1 yX4_timesUnder [(2, 161), (0, e), (0, s)] M post := by
  have key : ∀ i : Int, 0 ≤ i ∧ i ≤ 6 → QRm X x d qmX4_timesUnder post 5 [(0, (2, 161)), (1, (0, e)), (2, (0, s)), (3, (0, pCN A e s i.toNat)), (4, (0, i))] [] M := by
    refine int_up 6 (fun i hi g => ?_) (fun i hi ih g => ?_)
    · refine TX4_timesUnder_5 ⟨(i32 (by omega) (by omega)), fun _ => ?_, fun z => absurd hi z⟩
      rw [show i = 6 by omega]; exact hp
    · have := ih ⟨(by omega), (by omega)⟩
      have ei : ((i.toNat : Nat) : Int) = i := by omega
      rw [show (i + 1).toNat = i.toNat + 1 by omega, pCN, ei] at this
      refine TX4_timesUnder_5 ?_
      rw [ask_i s ⟨(by omega), (by omega)⟩, hL.2.2 i e (by omega) (by omega) (by omega) (by omega)]
      refine ⟨(i32 (by omega) (by omega)), fun z => absurd hi (by omega), fun _ => ⟨fun z => ⟨(by omega), (by omega), ?_⟩, fun z => ⟨by split <;> exact ⟨by decide, by decide⟩, ?_⟩⟩⟩
      · have b : bt s i.toNat = true := by
          apply Classical.byContradiction
          intro q; rw [if_neg q] at z; exact absurd z (by decide)
        rw [if_pos b] at this; exact this
      · have b : ¬ bt s i.toNat = true := fun q => z (if_pos q)
        rw [if_neg b] at this; exact this
  exact QC.of qmX4_timesUnder_ok rfl (TX4_timesUnder_0 (key 0 ⟨(by omega), (by omega)⟩))
/-- what is known of the sets taken in -/
def tOk (A K : Int → Int) : Prop := ∀ s, 0 ≤ s → s < 64 → K s = 1000 ∨ ((∀ k, k < 6 → bt s k = true → bt (pLy A) k = true) ∧ (0 ≤ K s ∧ K s ≤ 36 * crd s) ∧ pTw A (pLy A) ≤ K s + pTw A (lf (pLy A) s))
theorem c_fewestTurned {A : Int → Int} (hA : rLandOk A) (hL : pLook A M) (hp : ∀ M1, (∀ a, a ≠ 164 → M1 a = M a) → post (pTw A (pLy A)) M1) : QCm X x (d + 2) 1 yX4_fewestTurned [(2, 161)] M post := by
  have a3 := hA.2.2.1
  have L6 := (pLy_sub a3).1
  have hl : M 161 3 = pLy A := hL.1
  generalize hLv : pLy A = L at *
  have cong : ∀ M1 : QMem, (∀ a, a ≠ 164 → M1 a = M a) → pLook A M1 := fun M1 k => by
    unfold pLook; rw [k 161 (by omega), k 162 (by omega), k 163 (by omega)]; exact hL
  have key : ∀ i : Int, ∀ M1 : QMem, (0 ≤ i ∧ i ≤ L) ∧ (∀ a, a ≠ 164 → M1 a = M a) ∧ tOk A (M1 164) ∧ (∃ s, (i ≤ s ∧ s < 64) ∧ M1 164 s ≠ 1000 ∧ M1 164 s + pTw A (lf L s) = pTw A L) → QRm X x (d + 2) qmX4_fewestTurned post 19 [(0, (2, 161)), (1, (0, i))] [] M1 := by
    refine int_up L (fun i hi M1 g => ?_) (fun i hi ih M1 g => ?_)
    · obtain ⟨g0, g1, g2, s, s0, s1, s2⟩ := g
      have el : M1 161 3 = L := by rw [g1 161 (by omega)]; exact hl
      refine TX4_fewestTurned_19 ?_
      rw [el]
      refine ⟨(i32 (by omega) (by omega)), (i32 (by omega) (by omega)), fun _ => ⟨L6.1, L6.2, ?_⟩, fun z => absurd hi z⟩
      have w := g2 s (by omega) s0.2
      rw [hLv] at w
      rcases w with w | w
      · exact absurd w s1
      · have := sub_le L6 (s := s) ⟨(by omega), s0.2⟩ w.1
        have es : s = L := (by omega)
        rw [es, lf_L L6, pTw_0, Int.add_zero] at s2
        rw [s2]; exact hp M1 g1
    · obtain ⟨g0, g1, g2, gs⟩ := g
      have el : M1 161 3 = L := by rw [g1 161 (by omega)]; exact hl
      have i6 : 0 ≤ i ∧ i < 64 := ⟨g0.1, (by omega)⟩
      have lb := lf_b L6 i6
      have ln := lf_ne L6 (i := i) ⟨g0.1, hi⟩
      refine TX4_fewestTurned_19 ?_
      rw [el]
      refine ⟨(i32 (by omega) (by omega)), (i32 (by omega) (by omega)), fun z => absurd hi (by omega), fun _ => ?_⟩
      have key2 : ∀ e : Int, ∀ M2 : QMem, (0 ≤ e ∧ e ≤ 6) ∧ (∀ a, a ≠ 164 → M2 a = M a) ∧ tOk A (M2 164) ∧ ((∃ s, (i < s ∧ s < 64) ∧ M2 164 s ≠ 1000 ∧ M2 164 s + pTw A (lf L s) = pTw A L) ∨ (M2 164 i ≠ 1000 ∧ M2 164 i + pTw A (lf L i) = pTw A L ∧ ∃ f : Nat, e ≤ f ∧ f < 6 ∧ bt (lf L i) f = true ∧ pTw A (lf L i) = pC A f (lf L i) + pTw A (wo (lf L i) f))) → QRm X x (d + 2) qmX4_fewestTurned post 38 [(0, (2, 161)), (1, (0, i)), (2, (0, lf L i)), (3, (0, e))] [] M2 := by
        refine int_up 6 (fun e he M2 q => ?_) (fun e he ih2 M2 q => ?_)
        · obtain ⟨q0, q1, q2, q3⟩ := q
          refine TX4_fewestTurned_38 ⟨(i32 (by omega) (by omega)), fun _ => ih M2 ⟨⟨(by omega), (by omega)⟩, q1, q2, ?_⟩, fun z => absurd he z⟩
          rcases q3 with ⟨s, s0, s1, s2⟩ | ⟨_, _, f, f0, f1, _⟩
          · exact ⟨s, ⟨(by omega), s0.2⟩, s1, s2⟩
          · exact absurd f1 (by omega)
        · obtain ⟨q0, q1, q2, q3⟩ := q
          have e6 : 0 ≤ e ∧ e < 6 := ⟨q0.1, he⟩
          have qi := q2 i i6.1 i6.2
          have skip : (M2 164 i ≠ 1000 → bt (lf L i) e.toNat = false) → QRm X x (d + 2) qmX4_fewestTurned post 38 [(0, (2, 161)), (1, (0, i)), (2, (0, lf L i)), (3, (0, e + 1))] [] M2 := fun z => by
            refine ih2 M2 ⟨⟨(by omega), (by omega)⟩, q1, q2, ?_⟩
            rcases q3 with w | ⟨w1, w2, f, f0, f1, f2, f3⟩
            · exact Or.inl w
            · refine Or.inr ⟨w1, w2, f, ?_, f1, f2, f3⟩
              rcases Int.lt_or_le e f with y | y
              · omega
              · have ef : f = e.toNat := (by omega)
                rw [ef, z w1] at f2; exact absurd f2 (by decide)
          refine TX4_fewestTurned_38 ?_
          rw [ask_i _ ⟨(by omega), (by omega)⟩]
          refine ⟨(i32 (by omega) (by omega)), fun z => absurd he (by omega), fun _ => ⟨i6.1, i6.2, fun z => skip (fun y => absurd z y), fun z => ⟨?_, fun y => ?_, fun y => ⟨by split <;> exact ⟨by decide, by decide⟩, skip (fun _ => ?_)⟩⟩⟩⟩
          · have ci := crd_b i6
            rcases qi with w | w
            · exact absurd w z
            · exact (i32 (by omega) (by omega))
          · have b : bt (lf L i) e.toNat = true := by
              apply Classical.byContradiction
              intro q; rw [if_neg q] at y; exact absurd y (by decide)
            have en : ((e.toNat : Nat) : Int) = e := by omega
            have nb := lf_bt L i (k := e.toNat) (by omega)
            rw [b] at nb
            have bL : bt L e.toNat = true := by
              cases r : bt L e.toNat with
              | true => rfl
              | false => rw [r, Bool.false_and] at nb; exact absurd nb (by decide)
            have bi : bt i e.toNat = false := by
              cases r : bt i e.toNat with
              | false => rfl
              | true => rw [r, bL] at nb; exact absurd nb (by decide)
            have cm := crd_more i6 e6 bi
            have t6 := (s_or i6 (s_bit e6)).1
            have lo := lf_or L6 i6 e6
            have pb := pC_b hA e (lf L i)
            have ci := crd_b i6
            have ct := crd_b t6
            generalize hT : qor i (qshl 1 e) = t at *
            rcases qi with w | w
            · exact absurd w z
            rw [hLv] at w
            have tl := pTw_le (A := A) lb (k := e.toNat) (by omega) b
            rw [en] at tl
            have subt : ∀ k, k < 6 → bt t k = true → bt L k = true := fun k hk r => by
              rw [← hT, put_i _ ⟨(by omega), (by omega)⟩ (by omega), Bool.or_eq_true] at r
              rcases r with r | r
              · exact w.1 k hk r
              · have := of_decide_eq_true r
                rw [show k = e.toNat by omega]; exact bL
            have qt := q2 t t6.1 t6.2
            rw [hLv] at qt
            have upd : ∀ v : Int, (v = M2 164 t ∨ v = M2 164 i + pC A e (lf L i)) → v ≤ M2 164 i + pC A e (lf L i) → (M2 164 t = 1000 ∨ v ≤ M2 164 t) → v ≠ 1000 → QRm X x (d + 2) qmX4_fewestTurned post 38 [(0, (2, 161)), (1, (0, i)), (2, (0, lf L i)), (3, (0, e + 1))] [] (qup M2 164 t v) := fun v v1 v2 v3 v4 => by
              have vt : (qup M2 164 t v) 164 t = v := by rw [qup_at, if_pos rfl]
              have vo : ∀ s, s ≠ t → (qup M2 164 t v) 164 s = M2 164 s := fun s hs => by rw [qup_at, if_neg hs]
              have ok : tOk A ((qup M2 164 t v) 164) := fun s s0 s1 => by
                by_cases r : s = t
                · rw [r, vt, hLv]
                  refine Or.inr ⟨subt, ?_, ?_⟩
                  · rcases v1 with v1 | v1
                    · rcases qt with r2 | r2
                      · rw [v1] at v4; exact absurd r2 v4
                      · rw [v1]; exact r2.2.1
                    · omega
                  · rcases v1 with v1 | v1
                    · rcases qt with r2 | r2
                      · rw [v1] at v4; exact absurd r2 v4
                      · rw [v1]; exact r2.2.2
                    · rw [lo]; omega
                · rw [vo s r]; exact q2 s s0 s1
              have okt := ok t t6.1 t6.2
              rw [vt, hLv] at okt
              have okt2 : pTw A L ≤ v + pTw A (lf L t) := by
                rcases okt with r | r
                · exact absurd r v4
                · exact r.2.2
              refine ih2 _ ⟨⟨(by omega), (by omega)⟩, fun a ha => by rw [qup_row ha]; exact q1 a ha, ok, ?_⟩
              rcases q3 with ⟨s, s0, s1, s2⟩ | ⟨w1, w2, f, f0, f1, f2, f3⟩
              · by_cases r : s = t
                · refine Or.inl ⟨t, ⟨cm.2, t6.2⟩, by rw [vt]; exact v4, ?_⟩
                  rw [vt]
                  rw [r] at s1 s2
                  rcases v3 with v3 | v3
                  · exact absurd v3 s1
                  · omega
                · exact Or.inl ⟨s, s0, by rw [vo s r]; exact s1, by rw [vo s r]; exact s2⟩
              · by_cases r : (f : Int) = e
                · refine Or.inl ⟨t, ⟨cm.2, t6.2⟩, by rw [vt]; exact v4, ?_⟩
                  rw [vt]
                  rw [r] at f3
                  rw [lo] at okt2 ⊢
                  omega
                · refine Or.inr ⟨?_, ?_, f, (by omega), f1, f2, f3⟩
                  · rw [vo i (by omega)]; exact w1
                  · rw [vo i (by omega)]; exact w2
            refine ⟨t6.1, t6.2, c_timesUnder (cong M2 q1) e6 (j_min ?_ (i32 (by omega) (by omega)) (fun r => upd _ (Or.inr rfl) (Int.le_refl _) ?_ (by omega)) (fun r => upd _ (Or.inl rfl) (by omega) (Or.inr (Int.le_refl _)) ?_))⟩
            · rcases qt with r2 | r2
              · rw [r2]; exact ⟨by decide, by decide⟩
              · exact (i32 (by omega) (by omega))
            · exact Or.inr (by omega)
            · intro r2; omega
          · cases r : bt (lf L i) e.toNat with
            | false => rfl
            | true => exact absurd (if_pos r) y
      refine key2 0 M1 ⟨⟨(by omega), (by omega)⟩, g1, g2, ?_⟩
      obtain ⟨s, s0, s1, s2⟩ := gs
      by_cases r : s = i
      · rw [r] at s1 s2
        obtain ⟨f, f0, f1, f2⟩ := pTw_is hA lb ln
        exact Or.inr ⟨s1, s2, f, (by omega), f0, f1, f2⟩
      · exact Or.inl ⟨s, ⟨(by omega), s0.2⟩, s1, s2⟩
  refine QC.of qmX4_fewestTurned_ok rfl (TX4_fewestTurned_0 (j_fill (n := 64) rfl (by decide) (by decide) (fun M1 f1 f2 => key 0 _ ⟨⟨(by omega), L6.1⟩, fun a ha => by rw [qup_row ha]; exact f1 a ha, fun s s0 s1 => ?_, 0, ⟨(by omega), (by omega)⟩, ?_, ?_⟩)))
  · rw [qup_at]
    by_cases r : s = 0
    · rw [if_pos r, r, hLv, lf_0 L6]
      refine Or.inr ⟨fun k hk z => by rw [bt_0] at z; exact absurd z (by decide), ⟨(by omega), ?_⟩, (by omega)⟩
      rw [show crd 0 = 0 from by decide +kernel]; decide
    · rw [if_neg r, f2 s s0 s1]; exact Or.inl rfl
  · rw [qup_at, if_pos rfl]; decide
  · rw [qup_at, if_pos rfl, lf_0 L6]; omega
theorem rel_twists (hR : Rel M) (hp : ∀ v M3, Rel M3 → cont v v M3) : QCm X x (d + 10) 1 yX10_twists [(2, 0)] M (fun x1 M1 => QCm X x (d + 10) 1 yX11_twists [(2, 215)] M1 (fun x2 M2 => cont x1 x2 M2)) := by
  have a3 := hR.1.1.2.2.1
  refine QC.of qmX10_twists_ok rfl (TX10_twists_0 (c_lookAt hR.1 (fun M1 k1 l1 => c_fewestTurned hR.1.1 l1 (fun M2 k2 => ?_))))
  have g1 : gK M (qup M2 215 0 0) := (gK.of_rows (fun a q1 q2 q3 => by rw [k2 a (by omega)]; exact k1 a (by omega) (by omega) (by omega))).trans (gT M2)
  have R1 := hR.keep g1
  have e1 := g1.all
  refine QC.of qmX11_twists_ok rfl (TX11_twists_0 (m_lying R1.1.1.2.2.1 R1.1.2.1.2.1 ?_))
  rw [e1]
  have b := crd_b (pLy_sub a3).1
  have en : d + 9 = (d + (7 - (crd (pLy (M 216))).toNat)) + (crd (pLy (M 216))).toNat + 2 := by omega
  have t := m_twistsOf (X := X) (x := x) (d := d + (7 - (crd (pLy (M 216))).toNat)) R1.1.1 R1.1.2.1 (crd (pLy (M 216))).toNat (pLy (M 216)) (fun x2 M2 => cont (pTw (M 216) (pLy (M 216))) x2 M2) (by rw [e1]; exact pLy_sub a3) (by omega) (by rw [e1]; exact hp _ _ R1)
  rw [← en] at t
  exact t
end Twist78
