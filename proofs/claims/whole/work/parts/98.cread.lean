theorem getD_app : ∀ (l r : List Int) (q : Nat), (l ++ r).getD q 0 = if q < l.length then l.getD q 0 else r.getD (q - l.length) 0
  | [], r, q => by rw [if_neg (by simp)]; rfl
  | _ :: _, _, 0 => rfl
  | a :: l, r, q + 1 => by
    have ih := getD_app l r q
    show (l ++ r).getD q 0 = if q + 1 < l.length + 1 then l.getD q 0 else r.getD (q + 1 - (l.length + 1)) 0
    rw [ih]
    by_cases z : q < l.length
    · rw [if_pos z, if_pos (by omega)]
    · rw [if_neg z, if_neg (by omega), show q + 1 - (l.length + 1) = q - l.length by omega]
noncomputable abbrev kdf (b : Int → Int) (n : Int) : Nat → Int := fun i => tKd b n (tpos b n i)
abbrev vlf (b : Int → Int) (n : Int) : Nat → Int := fun i => tV b n (tpos b n i)
/-- kinds that there are -/
def pVal (k : Int) : Prop := (0 ≤ k ∧ k ≤ 13) ∨ (22 ≤ k ∧ k ≤ 25) ∨ (30 ≤ k ∧ k ≤ 41)
theorem tKd_val (b : Int → Int) (n p : Int) : pVal (tKd b n p) := by
  have k := keyOf_b b (tS b n p) (tE b n p)
  have s := sigOf_b (b (tS b n p))
  unfold tKd pVal
  repeat' split
  all_goals omega
def kVb (k : Nat) : Bool := decide (k ≤ 13 ∨ (22 ≤ k ∧ k ≤ 25) ∨ 30 ≤ k)
theorem cK_inj' : ∀ k : Nat, k < 42 → ∀ j : Nat, j < 42 → (kVb k && (kVb j && decide (cK (k : Int) = cK (j : Int)))) = true → k = j := by decide +kernel
theorem cK_b' : ∀ k : Nat, k < 42 → 0 ≤ cK (k : Int) ∧ cK (k : Int) ≤ 300 := by decide +kernel
theorem cK_inj {k : Int} (hk : pVal k) (j : Int) (hj : pVal j) : cK k = cK j ↔ k = j := by
  unfold pVal at hk hj
  obtain ⟨a, rfl⟩ := Int.eq_ofNat_of_zero_le (show 0 ≤ k by omega)
  obtain ⟨c, rfl⟩ := Int.eq_ofNat_of_zero_le (show 0 ≤ j by omega)
  exact ⟨fun z => by rw [cK_inj' a (by omega) c (by omega) (by rw [show kVb a = true from decide_eq_true (by omega), show kVb c = true from decide_eq_true (by omega), decide_eq_true z]; rfl)], fun z => by rw [z]⟩
theorem cK_b {k : Int} (hk : pVal k) : 0 ≤ cK k ∧ cK k ≤ 300 := by
  unfold pVal at hk
  obtain ⟨a, rfl⟩ := Int.eq_ofNat_of_zero_le (show 0 ≤ k by omega)
  exact cK_b' a (by omega)
theorem nvN_b {b : Int → Int} {s : Int} : ∀ k : Nat, k ≤ 3 → (∀ i : Nat, i < k → isDg (b (s + i)) = true) → 0 ≤ nvN b s k ∧ nvN b s k < (10 : Int) ^ k
  | 0, _, _ => show (0 : Int) ≤ 0 ∧ (0 : Int) < 1 from ⟨by decide, by decide⟩
  | k + 1, hk, h => by
    have ih := nvN_b k (by omega) (fun i hi => h i (by omega))
    have g := of_decide_eq_true (h k (by omega))
    rw [nvN, if_pos (by omega), Int.pow_succ]
    omega
theorem tV_b {b : Int → Int} {n p : Int} (h : tKd b n p = 23) (hp : 0 ≤ p ∧ p ≤ n) : 0 ≤ tV b n p ∧ tV b n p ≤ 999 := by
  have k := keyOf_b b (tS b n p) (tE b n p)
  have s := sigOf_b (b (tS b n p))
  have sb := tS_b (b := b) hp
  unfold tKd at h
  by_cases c : n ≤ tS b n p
  · rw [if_pos c] at h; exact absurd h (by decide)
  rw [if_neg c] at h
  by_cases sm : isSm (b (tS b n p)) = true
  · rw [if_pos sm] at h; omega
  rw [if_neg sm] at h
  by_cases dg : isDg (b (tS b n p)) = true
  · rw [if_pos dg] at h
    have l3 : tE b n p - tS b n p ≤ 3 := by
      apply Classical.byContradiction
      intro z; rw [if_neg z] at h; exact absurd h (by decide)
    have te : tE b n p = adv (fun q => isDg (b q)) n (tS b n p) := by unfold tE; rw [if_neg c, if_neg sm, if_pos dg]
    have ab := adv_b (P := fun q => isDg (b q)) (n := n) (p := tS b n p) sb.2
    have nb := nvN_b (b := b) (s := tS b n p) (tE b n p - tS b n p).toNat (by omega) (fun i hi => ab.2.1 (tS b n p + i) (by omega) (by rw [← te]; omega))
    unfold tV
    have : (10 : Int) ^ (tE b n p - tS b n p).toNat ≤ 1000 := by
      have q : (tE b n p - tS b n p).toNat = 0 ∨ (tE b n p - tS b n p).toNat = 1 ∨ (tE b n p - tS b n p).toNat = 2 ∨ (tE b n p - tS b n p).toNat = 3 := by omega
      rcases q with q | q | q | q <;> rw [q] <;> decide
    omega
  · rw [if_neg dg] at h; omega
theorem cTok.tk {b : Int → Int} {n : Int} {T : Nat} {M : QMem} (hn : 0 ≤ n) (h : cTok b n T M) : tkOk (kdf b n) (vlf b n) T := ⟨h.2.2.1, h.2.1, fun i => tKd_b b n _, fun i z => tV_b z (tpos_b hn i)⟩
/-- what reading a law leaves as it was -/
def fK (L : Int) (M M1 : QMem) : Prop := (∀ a, a ≠ 2 → a ≠ 13 → a ≠ L → a ≠ L + 1 → M1 a = M a) ∧ (∀ j, j ≠ 0 → j ≠ 1 → M1 2 j = M 2 j) ∧ (∀ j, j ≠ 2 → M1 L j = M L j) ∧ ∀ j, j < 4 → M1 13 j = M 13 j
theorem fK.refl (L : Int) (M : QMem) : fK L M M := ⟨fun _ _ _ _ _ => rfl, fun _ _ _ => rfl, fun _ _ => rfl, fun _ _ => rfl⟩
theorem fK.trans {L : Int} {M M1 M2 : QMem} (h : fK L M M1) (g : fK L M1 M2) : fK L M M2 := ⟨fun a a0 a1 a2 a3 => (g.1 a a0 a1 a2 a3).trans (h.1 a a0 a1 a2 a3), fun j a0 a1 => (g.2.1 j a0 a1).trans (h.2.1 j a0 a1), fun j hj => (g.2.2.1 j hj).trans (h.2.2.1 j hj), fun j hj => (g.2.2.2 j hj).trans (h.2.2.2 j hj)⟩
theorem fK.fld {L : Int} (hL : L = 7 ∨ L = 10) {M : QMem} {j v : Int} (hj : j = 0 ∨ j = 1) : fK L M (qup M 2 j v) := ⟨fun a a0 _ _ _ => qup_row a0, fun i a0 a1 => by rw [qup_at, if_neg (by omega)], fun i _ => by rw [qup_row (by omega)], fun i _ => by rw [qup_row (by decide)]⟩
theorem fK.nx {L : Int} (hL : L = 7 ∨ L = 10) {M M1 : QMem} (h : xK M M1) : fK L M M1 := ⟨fun a _ a1 _ _ => h.1 a a1, fun j _ _ => by rw [h.1 2 (by decide)], fun j _ => by rw [h.1 L (by omega)], h.2⟩
def cLog (L : Int) (M M1 : QMem) (l : List Int) : Prop := M1 L 2 = M L 2 + l.length ∧ (∀ j, j < M L 2 → M1 (L + 1) j = M (L + 1) j) ∧ (∀ q : Nat, q < l.length → M1 (L + 1) (M L 2 + q) = cCode (l.getD q 0)) ∧ M1 2 0 = M 2 0 ∧ M1 2 1 = M 2 1
theorem cLog.refl (L : Int) (M : QMem) : cLog L M M [] := ⟨by show M L 2 = M L 2 + 0; omega, fun _ _ => rfl, fun q hq => absurd hq (by simp), rfl, rfl⟩
theorem cLog.trans {L : Int} {M M1 M2 : QMem} {l r : List Int} (h : cLog L M M1 l) (g : cLog L M1 M2 r) : cLog L M M2 (l ++ r) := by
  obtain ⟨h1, h2, h3, h4, h5⟩ := h
  obtain ⟨g1, g2, g3, g4, g5⟩ := g
  refine ⟨by rw [g1, h1, List.length_append]; omega, fun j hj => by rw [g2 j (by omega)]; exact h2 j hj, fun q hq => ?_, g4.trans h4, g5.trans h5⟩
  rw [List.length_append] at hq
  rw [getD_app]
  by_cases z : q < l.length
  · rw [if_pos z, g2 _ (by omega)]; exact h3 q z
  · rw [if_neg z, show M L 2 + (q : Int) = M1 L 2 + ((q - l.length : Nat) : Int) by omega]
    exact g3 _ (by omega)
theorem cLog.nx {L : Int} (hL : L = 7 ∨ L = 10) {M M1 : QMem} (h : xK M M1) : cLog L M M1 [] := by
  unfold cLog
  rw [h.1 L (by omega), h.1 (L + 1) (by omega), h.1 2 (by decide)]
  exact ⟨by show M L 2 = M L 2 + 0; omega, fun j _ => rfl, fun q hq => absurd hq (by simp), rfl, rfl⟩
/-- the answer r, v -/
def cRes (b : Int → Int) (n L : Int) (M : QMem) (r : Int × Nat × List Int) (v : Int) (M1 : QMem) : Prop := fK L M M1 ∧ (r.1 = 0 → v = 1 ∧ cHd M1 r.2.1 ∧ cLog L M M1 r.2.2) ∧ (r.1 ≠ 0 → v = 0 ∧ M1 2 0 = r.1 ∧ M1 2 1 = tS b n (tpos b n r.2.1))
section CRead98
variable {X : QX} {x : Int} {d : Nat} {post : Int → QMem → Prop} {M : QMem} {cont : Int → Int → QMem → Prop} {b : Int → Int} {n : Int} {T : Nat} {L : Int}
theorem cTok.fK (hL : L = 7 ∨ L = 10) {M M1 : QMem} (h : cTok b n T M) (k : fK L M M1) : cTok b n T M1 := h.of (k.2.2.2 3 (by decide)) (k.1 14 (by omega) (by omega) (by omega) (by omega)) (k.1 15 (by omega) (by omega) (by omega) (by omega)) (k.1 16 (by omega) (by omega) (by omega) (by omega))
theorem c_kd (h : cTok b n T M) {i : Nat} (hi : i ≤ T) (h4 : cHd M i) : M 13 5 = cK (kdf b n i) := h4.2.1.trans (h.2.2.2.2 i hi).1
theorem c_pl (h : cTok b n T M) {i : Nat} (hi : i ≤ T) (h4 : cHd M i) : M 13 7 = tS b n (tpos b n i) := h4.2.2.2.trans (h.2.2.2.2 i hi).2.1
theorem c_vl (h : cTok b n T M) {i : Nat} (hi : i ≤ T) (h4 : cHd M i) (z : kdf b n i = 23) : M 13 6 = tV b n (tpos b n i) := h4.2.2.1.trans ((h.2.2.2.2 i hi).2.2 z)
theorem c_fail (h : cTok b n T M) {i : Nat} (hi : i ≤ T) (h4 : cHd M i) {w : Int} (hp : post 0 (qup (qup M 2 0 (pFl (kdf b n) w i).1) 2 1 (tS b n (tpos b n i)))) : QCm X x d 1 yX5_fail [(2, 2), (0, w)] M post := by
  have kv : pVal (kdf b n i) := tKd_val b n (tpos b n i)
  have r : ∀ v : Int, (qup M 2 0 v) 13 7 = tS b n (tpos b n i) := fun v => by rw [qup_row (by decide)]; exact c_pl h hi h4
  refine QC.of qmX5_fail_ok rfl (TX5_fail_0 ?_)
  rw [r, r, c_kd h hi h4]
  refine ⟨fun z => ?_, fun z => ⟨?_, ?_⟩⟩
  · have e : (pFl (kdf b n) w i).1 = 1 := by
      show (if kdf b n i = 25 then (1 : Int) else w) = 1
      rw [if_pos ((cK_inj kv 25 (by unfold pVal; omega)).1 z)]
    rw [e] at hp; exact hp
  · have := cK_b kv; exact (i32 (by omega) (by omega))
  · have e : (pFl (kdf b n) w i).1 = w := by
      show (if kdf b n i = 25 then (1 : Int) else w) = w
      rw [if_neg (fun y => z (by rw [y]; rfl))]
    rw [e] at hp; exact hp
theorem fail_res (hL : L = 7 ∨ L = 10) {M M0 : QMem} (hk : fK L M0 M) {w : Int} {i : Nat} (hw : 1 ≤ w) : cRes b n L M0 (pFl (kdf b n) w i) 0 (qup (qup M 2 0 (pFl (kdf b n) w i).1) 2 1 (tS b n (tpos b n i))) := by
  have ne : (pFl (kdf b n) w i).1 ≠ 0 := by
    show (if kdf b n i = 25 then (1 : Int) else w) ≠ 0
    split <;> omega
  refine ⟨hk.trans ((fK.fld hL (Or.inl rfl)).trans (fK.fld hL (Or.inr rfl))), fun z => absurd z ne, fun _ => ⟨rfl, ?_, ?_⟩⟩
  · rw [qup_at, if_neg (by decide), qup_at, if_pos rfl]
  · rw [qup_at, if_pos rfl]; rfl
theorem c_skip (h : cTok b n T M) {i : Nat} (hi : i ≤ T) (h4 : cHd M i) {k : Int} (hk : pVal k ∧ k ≠ 24 ∧ k ≠ 25) {c : Int} (hc : c = cK k) (h1 : kdf b n i = k → i + 1 ≤ T → ∀ M1, xK M M1 → cHd M1 (i + 1) → post 1 M1) (h0 : kdf b n i ≠ k → post 0 (qup (qup M 2 0 (pFl (kdf b n) 2 i).1) 2 1 (tS b n (tpos b n i)))) : QCm X x (d + 1) 1 yX5_skip [(2, 2), (0, c)] M post := by
  have kv : pVal (kdf b n i) := tKd_val b n (tpos b n i)
  have kb := cK_b kv
  have cb := cK_b hk.1
  refine QC.of qmX5_skip_ok rfl (TX5_skip_0 ?_)
  rw [c_kd h hi h4]
  refine ⟨fun z => ?_, fun z => ⟨(i32 (by omega) (by omega)), (i32 (by omega) (by omega)), c_fail h hi h4 ⟨Or.inl rfl, h0 (fun y => z ?_)⟩⟩⟩
  · have zk := (cK_inj kv k hk.1).1 (z.trans hc)
    have hl := h.lt hi (by show kdf b n i ≠ 24; rw [zk]; exact hk.2.1) (by show kdf b n i ≠ 25; rw [zk]; exact hk.2.2)
    exact c_next h hl h4 (fun M1 nk h4n => h1 zk hl M1 nk h4n)
  · rw [hc]; exact (cK_inj kv k hk.1).2 y
theorem c_addL (hL : L = 7 ∨ L = 10) {c : Int} (hz : 0 ≤ M L 2 ∧ M L 2 < 900) (hp : ∀ M1, fK L M M1 → (∀ i, cHd M i → cHd M1 i) → (∀ cc, c = cCode cc → cLog L M M1 [cc]) → post 0 M1) : QCm X x d 0 yX2_add [(2, L), (0, c)] M post := by
  have rr : ∀ (a u v w : Int), a ≠ L → a ≠ L + 1 → (qup (qup M (L + 1) u v) L 2 w) a = M a := fun a u v w h1 h2 => by rw [qup_row h1, qup_row h2]
  refine QC.of qmX2_add_ok rfl (TX2_add_0 hL ⟨(i32 (by omega) (by omega)), fun z => absurd z (by omega), fun _ => ⟨hz.1, hz.2, hp _ ⟨fun a a0 a9 a1 a2 => ?_, fun j _ _ => ?_, fun j hj => ?_, fun j hj => ?_⟩ (fun i h => ?_) (fun cc hc => ⟨?_, fun j hj => ?_, fun q hq => ?_, ?_, ?_⟩)⟩⟩)
  · rw [qup_row a1, qup_row a2]
  · rw [rr 2 _ _ _ (by omega) (by omega)]
  · rw [qup_at, if_neg hj, qup_row (by omega)]
  · rw [rr 13 _ _ _ (by omega) (by omega)]
  · unfold cHd
    rw [rr 13 _ _ _ (by omega) (by omega), rr 14 _ _ _ (by omega) (by omega), rr 15 _ _ _ (by omega) (by omega), rr 16 _ _ _ (by omega) (by omega)]; exact h
  · rw [qup_at, if_pos rfl, qup_row (by omega)]; rfl
  · rw [qup_row (by omega), qup_at, if_neg (by omega)]
  · have : q = 0 := by have : q < 1 := hq; omega
    subst this
    rw [qup_row (by omega), qup_at, if_pos (by show M L 2 + 0 = M L 2; omega)]; exact hc
  · rw [rr 2 _ _ _ (by omega) (by omega)]
  · rw [rr 2 _ _ _ (by omega) (by omega)]
theorem QC.dd {X : QX} {d e mc ms rk : Nat} {y : MethodName} {as : List QV} {h : QH} {post : Int → QH → Prop} (hd : d = e) (g : QC X d mc ms rk y as h post) : QC X e mc ms rk y as h post := hd ▸ g
theorem qS_L (hL : L = 7 ∨ L = 10) : ((qS L).2.1 L).1 = 2 := by rcases hL with rfl | rfl <;> rfl
theorem ok01 {r : Int × Nat × List Int} {v : Int} {M0 M1 : QMem} (h : cRes b n L M0 r v M1) : (v = 0 ↔ r.1 ≠ 0) ∧ (v = 0 ∨ v = 1) := by
  by_cases z : r.1 = 0
  · have := (h.2.1 z).1
    rw [this]; exact ⟨⟨fun y => absurd y (by decide), fun y => absurd z y⟩, Or.inr rfl⟩
  · have := (h.2.2 z).1
    rw [this]; exact ⟨⟨fun _ => z, fun _ => rfl⟩, Or.inl rfl⟩
/-- a failing answer stands however it was come to -/
theorem cRes.bad {r s : Int × Nat × List Int} {v : Int} {M0 M1 M2 : QMem} (k : fK L M0 M1) (h : cRes b n L M1 r v M2) (z : r.1 ≠ 0) (e : s = r) : cRes b n L M0 s 0 M2 := by
  subst e
  exact ⟨k.trans h.1, fun y => absurd y z, fun _ => ⟨rfl, (h.2.2 z).2⟩⟩
theorem cRes.good {r s : Int × Nat × List Int} {v w : Int} {M0 M1 M2 : QMem} {l : List Int} (k : fK L M0 M1) (g : cLog L M0 M1 l) (h : cRes b n L M1 r v M2) (e : s = (r.1, r.2.1, l ++ r.2.2)) : cRes b n L M0 s v M2 := by
  subst e
  exact ⟨k.trans h.1, fun y => ⟨(h.2.1 y).1, (h.2.1 y).2.1, g.trans (h.2.1 y).2.2⟩, fun y => h.2.2 y⟩
/-- how deep each one's frames go -/
def pDr (sel : Nat) : Nat := [4, 5, 5, 6, 6, 8, 9, 9, 10, 10].getD sel 0
def pY (sel : Nat) : MethodName := match sel with
  | 0 => yX5_readAtom
  | 1 => yX5_readTerm
  | 3 => yX5_readSum
  | 5 => yX5_readUnit
  | 6 => yX5_readBoth
  | _ => yX5_readTruth
def pQ (sel : Nat) : QMeth := match sel with
  | 2 => qmX5_readTerm
  | 4 => qmX5_readSum
  | 7 => qmX5_readBoth
  | _ => qmX5_readTruth
theorem c_read (X : QX) (hL : L = 7 ∨ L = 10) (hn : 0 ≤ n ∧ n ≤ 900) (m : Int) (hm : m = 0 ∨ m = 1) : ∀ f : Nat,
    (∀ sel : Nat, sel = 0 ∨ sel = 1 ∨ sel = 3 ∨ sel = 5 ∨ sel = 6 ∨ sel = 8 → ∀ (d k i : Nat) (M : QMem) (post : Int → QMem → Prop), k ≤ 6 → i ≤ T → 12 * (T - i) + pRk sel < f → cTok b n T M → cHd M i → M 2 5 = m → (0 ≤ M L 2 ∧ M L 2 ≤ i) → (∀ v M1, cRes b n L M (pz (kdf b n) (vlf b n) m f sel k i) v M1 → post v M1) → QCm X L (d + 4 * (6 - k) + pDr sel) 1 (pY sel) [(2, 2), (0, (k : Int))] M post) ∧
    (∀ sel : Nat, sel = 2 ∨ sel = 4 ∨ sel = 7 ∨ sel = 9 → ∀ (d k i : Nat) (c : Int) (M : QMem) (post : Int → QMem → Prop), k ≤ 6 → i ≤ T → (0 ≤ c ∧ c < i) → 12 * (T - i) + pRk sel < f → cTok b n T M → cHd M i → M 2 5 = m → (0 ≤ M L 2 ∧ M L 2 ≤ i) → (∀ v M1, cRes b n L M (pz (kdf b n) (vlf b n) m f sel k i) v M1 → post v M1) → QRm X L (d + 4 * (6 - k) + pDr sel) (pQ sel) post 12 [(0, (2, 2)), (1, (0, (k : Int))), (2, (0, c))] [] M) := by
  intro f
  induction f with
  | zero => exact ⟨fun sel _ d k i M post _ _ hf => absurd hf (by omega), fun sel _ d k i c M post _ _ _ hf => absurd hf (by omega)⟩
  | succ f ih =>
    obtain ⟨ihA, ihB⟩ := ih
    have kv : ∀ i, pVal (kdf b n i) := fun i => tKd_val b n (tpos b n i)
    have kb : ∀ i, in32 (cK (kdf b n i)) := fun i => by have := cK_b (kv i); exact (i32 (by omega) (by omega))
    have q2 := qS_L hL
    refine ⟨?_, ?_⟩
    · intro sel hs d k i M post hk hi hf hT h4 h6 hz hp
      have hcase : sel = 0 ∨ sel = 1 ∨ sel = 3 ∨ sel = 5 ∨ sel = 6 ∨ sel = 8 := hs
      rcases hcase with rfl | rfl | rfl | rfl | rfl | rfl
      · -- atom
        have hf' : 12 * (T - i) + 1 < f + 1 := hf
        have tk := hT.tk hn.1
        have t1 := hT.1
        have e : pz (kdf b n) (vlf b n) m (f + 1) 0 k i = (if kdf b n i = 23 then (0, i + 1, [vlf b n i]) else if pWd m (kdf b n i) ≠ -1 then (0, i + 1, [1000 + pWd m (kdf b n i)]) else if kdf b n i = 35 then (if k = 6 then pFl (kdf b n) 4 i else (if (pz (kdf b n) (vlf b n) m f 3 (k + 1) (i + 1)).1 ≠ 0 then pz (kdf b n) (vlf b n) m f 3 (k + 1) (i + 1) else if kdf b n (pz (kdf b n) (vlf b n) m f 3 (k + 1) (i + 1)).2.1 = 36 then (0, (pz (kdf b n) (vlf b n) m f 3 (k + 1) (i + 1)).2.1 + 1, (pz (kdf b n) (vlf b n) m f 3 (k + 1) (i + 1)).2.2) else pFl (kdf b n) 2 (pz (kdf b n) (vlf b n) m f 3 (k + 1) (i + 1)).2.1)) else pFl (kdf b n) 2 i) := rfl
        rw [e] at hp
        clear e
        have part : ∀ p : Int, (0 ≤ p ∧ p ≤ 2000) → kdf b n i ≠ 24 → kdf b n i ≠ 25 → (∀ v M1, cRes b n L M (0, i + 1, [p]) v M1 → post v M1) → p = cCode p → ((p = (-1) → (QCm X L (d + 4 * (6 - k) + 3) 1 yX5_fail [(2, 2), (0, 2)] M (fun x7 M7 => (x7 = 0 ∨ x7 = 1) ∧ (post x7 M7)))) ∧ (¬ p = (-1) → in32 p ∧ (((qS L).2.1 L).1 = 2 ∧ (QCm X L (d + 4 * (6 - k) + 3) 0 yX2_add [(2, L), (0, p)] M (fun _ M8 => QCm X L (d + 4 * (6 - k) + 3) 0 yX7_next [(2, 13)] M8 (fun _ M9 => post 1 M9)))))) := fun p pb n4 n5 hp' pc => by
          have hl := tk.lt hi n4 n5
          refine ⟨fun z => absurd z (by omega), fun _ => ⟨(i32 (by omega) (by omega)), q2, c_addL hL ⟨hz.1, (by omega)⟩ (fun M1 k1 a4 lg => c_next (hT.fK hL k1) hl (a4 _ h4) (fun Mn nk h4n => hp' 1 Mn ⟨k1.trans (fK.nx hL nk), fun _ => ⟨rfl, h4n, ?_⟩, fun y => absurd rfl y⟩))⟩⟩
          have := (lg p pc).trans (cLog.nx hL nk)
          rw [List.append_nil] at this; exact this
        refine QC.of qmX5_readAtom_ok rfl (TX5_readAtom_0 ?_)
        rw [c_kd hT hi h4]
        refine ⟨fun z => ?_, fun z => ⟨kb i, ?_⟩⟩
        · have zk : kdf b n i = 35 := (cK_inj (kv i) 35 (by unfold pVal; omega)).1 z
          have hl := tk.lt hi (by rw [zk]; decide) (by rw [zk]; decide)
          rw [if_neg (by rw [zk]; decide), if_neg (fun u => u (by rw [zk]; rfl)), if_pos zk] at hp
          refine ⟨(i32 (by omega) (by omega)), fun k6 => ?_, fun k6 => c_fail hT hi h4 ⟨Or.inl rfl, ?_⟩⟩
          · rw [if_neg (by omega)] at hp
            have hr := pz_res (m := m) tk f 3 (k + 1) (i + 1) (by decide) hl (by show 12 * (T - (i + 1)) + 3 < f; omega)
            refine c_next hT hl h4 (fun Mn nk h4n => ?_)
            have k4 : fK L M Mn := fK.nx hL nk
            have l4 := cLog.nx hL nk
            have dp : d + 4 * (6 - k) + 3 = (d + 1) + 4 * (6 - (k + 1)) + 6 := by omega
            have A := ihA 3 (by omega) (d + 1) (k + 1) (i + 1) Mn (fun x2 M2 => (x2 = 0 → (post 0 M2)) ∧ (¬ x2 = 0 → in32 x2 ∧ (QCm X L (d + 4 * (6 - k) + 3) 1 yX5_skip [(2, 2), (0, 41)] M2 (fun x3 M3 => (x3 = 0 → (post 0 M3)) ∧ (¬ x3 = 0 → in32 x3 ∧ (post 1 M3)))))) (by omega) hl (by show 12 * (T - (i + 1)) + 3 < f; omega) (hT.fK hL k4) h4n (by rw [k4.2.1 5 (by omega) (by omega)]; exact h6) (by rw [nk.1 L (by omega)]; omega) (fun v M1 c1 => ?_)
            · show QCm X L (d + 4 * (6 - k) + 3) 1 yX5_readSum [(2, 2), (0, (k : Int) + 1)] Mn _
              have A' : QCm X L ((d + 1) + 4 * (6 - (k + 1)) + 6) 1 yX5_readSum [(2, 2), (0, ((k + 1 : Nat) : Int))] Mn _ := A
              rw [← dp] at A'
              exact A'
            · have o := ok01 c1
              refine ⟨fun y => hp 0 M1 ?_, fun y => ⟨by rcases o.2 with u | u <;> rw [u] <;> exact ⟨by decide, by decide⟩, ?_⟩⟩
              · have z1 := o.1.1 y
                rw [if_pos z1]; exact c1.bad k4 z1 rfl
              · have z1 : (pz (kdf b n) (vlf b n) m f 3 (k + 1) (i + 1)).1 = 0 := Classical.byContradiction (fun u => y (o.1.2 u))
                rw [if_neg (fun u => u z1)] at hp
                obtain ⟨_, w2, w3⟩ := c1.2.1 z1
                rcases hr with ⟨_, r2, r3, r4⟩ | ⟨r1, _⟩
                · have kk := k4.trans c1.1
                  refine c_skip (hT.fK hL kk) r3 w2 (k := 36) (by unfold pVal; omega) rfl (fun u _ Ms ns h4s => ⟨fun q => absurd q (by decide), fun _ => ⟨(i32 (by omega) (by omega)), hp 1 Ms ?_⟩⟩) (fun u => ⟨fun _ => hp 0 _ ?_, fun q => absurd rfl q⟩)
                  · rw [if_pos u]
                    refine ⟨kk.trans (fK.nx hL ns), fun _ => ⟨rfl, h4s, ?_⟩, fun q => absurd rfl q⟩
                    have := (l4.trans w3).trans (cLog.nx hL ns)
                    rw [List.nil_append, List.append_nil] at this; exact this
                  · rw [if_neg u]; exact fail_res hL kk (by decide)
                · omega
          · rw [if_pos (by omega)] at hp
            exact hp 0 _ (fail_res hL (fK.refl L M) (by decide))
        · have zk : kdf b n i ≠ 35 := fun y => z (by rw [y]; rfl)
          have eq : ∀ q : Int, pVal q → (cK (kdf b n i) = cK q ↔ kdf b n i = q) := fun q hq => cK_inj (kv i) q hq
          refine QC.of qmX5_partOf_ok rfl (TX5_partOf_0 ⟨kb i, fun y => ?_, fun y => ?_⟩)
          · have y' := (eq 23 (by unfold pVal; omega)).1 y
            rw [if_pos y'] at hp
            have vb : 0 ≤ tV b n (tpos b n i) ∧ tV b n (tpos b n i) ≤ 999 := tk.2.2.2 i y'
            rw [c_vl hT hi h4 y']
            exact part _ ⟨vb.1, by have := vb.2; omega⟩ (by rw [y']; decide) (by rw [y']; decide) hp (by unfold cCode; rw [if_pos (by omega)])
          · have y' : kdf b n i ≠ 23 := fun u => y ((eq 23 (by unfold pVal; omega)).2 u)
            rw [if_neg y'] at hp
            have word : ∀ (q w : Int), pVal q → q ≠ 24 → q ≠ 25 → kdf b n i = q → pWd m q = w → (0 ≤ w ∧ w ≤ 4) → ((1000 + w = (-1) → (QCm X L (d + 4 * (6 - k) + 3) 1 yX5_fail [(2, 2), (0, 2)] M (fun x7 M7 => (x7 = 0 ∨ x7 = 1) ∧ (post x7 M7)))) ∧ (¬ 1000 + w = (-1) → in32 (1000 + w) ∧ (((qS L).2.1 L).1 = 2 ∧ (QCm X L (d + 4 * (6 - k) + 3) 0 yX2_add [(2, L), (0, 1000 + w)] M (fun _ M8 => QCm X L (d + 4 * (6 - k) + 3) 0 yX7_next [(2, 13)] M8 (fun _ M9 => post 1 M9)))))) := fun q w pq q4 q5 hq hw wb => by
              rw [hq, hw, if_pos (by omega)] at hp
              exact part (1000 + w) ⟨by omega, by omega⟩ (by rw [hq]; exact q4) (by rw [hq]; exact q5) hp (by unfold cCode; rw [if_pos (by omega)])
            have none : pWd m (kdf b n i) = -1 → (((-1 : Int) = (-1) → (QCm X L (d + 4 * (6 - k) + 3) 1 yX5_fail [(2, 2), (0, 2)] M (fun x7 M7 => (x7 = 0 ∨ x7 = 1) ∧ (post x7 M7)))) ∧ (¬ (-1 : Int) = (-1) → in32 (-1) ∧ (((qS L).2.1 L).1 = 2 ∧ (QCm X L (d + 4 * (6 - k) + 3) 0 yX2_add [(2, L), (0, -1)] M (fun _ M8 => QCm X L (d + 4 * (6 - k) + 3) 0 yX7_next [(2, 13)] M8 (fun _ M9 => post 1 M9)))))) := fun hw => by
              rw [if_neg (fun u => u hw), if_neg zk] at hp
              exact ⟨fun _ => c_fail hT hi h4 ⟨Or.inl rfl, hp 0 _ (fail_res hL (fK.refl L M) (by decide))⟩, fun u => absurd rfl u⟩
            refine ⟨fun u => word 2 3 (by unfold pVal; omega) (by decide) (by decide) ((eq 2 (by unfold pVal; omega)).1 u) rfl (by decide), fun u2 => ⟨fun u => word 6 2 (by unfold pVal; omega) (by decide) (by decide) ((eq 6 (by unfold pVal; omega)).1 u) rfl (by decide), fun u6 => ⟨fun u => word 8 0 (by unfold pVal; omega) (by decide) (by decide) ((eq 8 (by unfold pVal; omega)).1 u) rfl (by decide), fun u8 => ⟨fun u => word 9 1 (by unfold pVal; omega) (by decide) (by decide) ((eq 9 (by unfold pVal; omega)).1 u) rfl (by decide), fun u9 => ⟨fun u => ?_, fun u => none ?_⟩⟩⟩⟩⟩
            · have uk := (eq 10 (by unfold pVal; omega)).1 u
              rw [h6]
              refine ⟨fun m0 => none ?_, fun m0 => ⟨by rcases hm with w | w <;> rw [w] <;> exact ⟨by decide, by decide⟩, word 10 4 (by unfold pVal; omega) (by decide) (by decide) uk ?_ (by decide)⟩⟩
              · rw [uk, m0]; rfl
              · rcases hm with w | w
                · exact absurd w m0
                · rw [w]; rfl
            · unfold pWd
              rw [if_neg (fun w => u8 ((eq 8 (by unfold pVal; omega)).2 w)), if_neg (fun w => u9 ((eq 9 (by unfold pVal; omega)).2 w)), if_neg (fun w => u6 ((eq 6 (by unfold pVal; omega)).2 w)), if_neg (fun w => u2 ((eq 2 (by unfold pVal; omega)).2 w)), if_neg (fun w => u ((eq 10 (by unfold pVal; omega)).2 w))]
      · -- readTerm
        have hf' : 12 * (T - i) + 2 < f + 1 := hf
        have tk := hT.tk hn.1
        have hr := pz_res (m := m) tk f 0 k i (by decide) hi (by show 12 * (T - i) + 1 < f; omega)
        have e : pz (kdf b n) (vlf b n) m (f + 1) 1 k i = (if (pz (kdf b n) (vlf b n) m f 0 k i).1 ≠ 0 then pz (kdf b n) (vlf b n) m f 0 k i else ((pz (kdf b n) (vlf b n) m f 2 k (pz (kdf b n) (vlf b n) m f 0 k i).2.1).1, (pz (kdf b n) (vlf b n) m f 2 k (pz (kdf b n) (vlf b n) m f 0 k i).2.1).2.1, (pz (kdf b n) (vlf b n) m f 0 k i).2.2 ++ (pz (kdf b n) (vlf b n) m f 2 k (pz (kdf b n) (vlf b n) m f 0 k i).2.1).2.2)) := rfl
        rw [e] at hp
        refine QC.of qmX5_readTerm_ok rfl (TX5_readTerm_0 (ihA 0 (by omega) d k i M _ hk hi (by show 12 * (T - i) + 1 < f; omega) hT h4 h6 hz (fun v M1 c1 => ?_)))
        have o := ok01 c1
        refine ⟨fun z => hp 0 M1 ?_, fun z => ⟨by rcases o.2 with y | y <;> rw [y] <;> exact ⟨by decide, by decide⟩, ?_⟩⟩
        · have z1 := o.1.1 z
          rw [if_pos z1]; exact c1.bad (fK.refl L M) z1 rfl
        · have z1 : (pz (kdf b n) (vlf b n) m f 0 k i).1 = 0 := Classical.byContradiction (fun y => z (o.1.2 y))
          rw [if_neg (fun y => y z1)] at hp
          obtain ⟨_, w2, w3⟩ := c1.2.1 z1
          rcases hr with ⟨_, r2, r3, r4⟩ | ⟨r1, _⟩
          · have r2' : i + 1 ≤ (pz (kdf b n) (vlf b n) m f 0 k i).2.1 := r2
            have w31 := w3.1
            exact ihB 2 (by omega) d k _ 0 M1 _ hk r3 ⟨(by omega), (by omega)⟩ (by show 12 * (T - _) + 0 < f; omega) (hT.fK hL c1.1) w2 (by rw [c1.1.2.1 5 (by omega) (by omega)]; exact h6) (by rw [w31]; omega) (fun v2 M2 c2 => hp v2 M2 (cRes.good (w := 0) c1.1 w3 c2 rfl))
          · omega
      · -- readSum
        have hf' : 12 * (T - i) + 3 < f + 1 := hf
        have tk := hT.tk hn.1
        have hr := pz_res (m := m) tk f 1 k i (by decide) hi (by show 12 * (T - i) + 2 < f; omega)
        have e : pz (kdf b n) (vlf b n) m (f + 1) 3 k i = (if (pz (kdf b n) (vlf b n) m f 1 k i).1 ≠ 0 then pz (kdf b n) (vlf b n) m f 1 k i else ((pz (kdf b n) (vlf b n) m f 4 k (pz (kdf b n) (vlf b n) m f 1 k i).2.1).1, (pz (kdf b n) (vlf b n) m f 4 k (pz (kdf b n) (vlf b n) m f 1 k i).2.1).2.1, (pz (kdf b n) (vlf b n) m f 1 k i).2.2 ++ (pz (kdf b n) (vlf b n) m f 4 k (pz (kdf b n) (vlf b n) m f 1 k i).2.1).2.2)) := rfl
        rw [e] at hp
        refine QC.of qmX5_readSum_ok rfl (TX5_readSum_0 (ihA 1 (by omega) d k i M _ hk hi (by show 12 * (T - i) + 2 < f; omega) hT h4 h6 hz (fun v M1 c1 => ?_)))
        have o := ok01 c1
        refine ⟨fun z => hp 0 M1 ?_, fun z => ⟨by rcases o.2 with y | y <;> rw [y] <;> exact ⟨by decide, by decide⟩, ?_⟩⟩
        · have z1 := o.1.1 z
          rw [if_pos z1]; exact c1.bad (fK.refl L M) z1 rfl
        · have z1 : (pz (kdf b n) (vlf b n) m f 1 k i).1 = 0 := Classical.byContradiction (fun y => z (o.1.2 y))
          rw [if_neg (fun y => y z1)] at hp
          obtain ⟨_, w2, w3⟩ := c1.2.1 z1
          rcases hr with ⟨_, r2, r3, r4⟩ | ⟨r1, _⟩
          · have r2' : i + 1 ≤ (pz (kdf b n) (vlf b n) m f 1 k i).2.1 := r2
            have w31 := w3.1
            exact ihB 4 (by omega) d k _ 0 M1 _ hk r3 ⟨(by omega), (by omega)⟩ (by show 12 * (T - _) + 0 < f; omega) (hT.fK hL c1.1) w2 (by rw [c1.1.2.1 5 (by omega) (by omega)]; exact h6) (by rw [w31]; omega) (fun v2 M2 c2 => hp v2 M2 (cRes.good (w := 0) c1.1 w3 c2 rfl))
          · omega
      · -- unit
        have hf' : 12 * (T - i) + 4 < f + 1 := hf
        have tk := hT.tk hn.1
        have t1 := hT.1
        have e : pz (kdf b n) (vlf b n) m (f + 1) 5 k i = (if kdf b n i = 13 then (if k = 6 then pFl (kdf b n) 4 i else (if (pz (kdf b n) (vlf b n) m f 5 (k + 1) (i + 1)).1 ≠ 0 then pz (kdf b n) (vlf b n) m f 5 (k + 1) (i + 1) else (0, (pz (kdf b n) (vlf b n) m f 5 (k + 1) (i + 1)).2.1, (pz (kdf b n) (vlf b n) m f 5 (k + 1) (i + 1)).2.2 ++ [3006]))) else if kdf b n i = 37 then (if k = 6 then pFl (kdf b n) 4 i else (if (pz (kdf b n) (vlf b n) m f 8 (k + 1) (i + 1)).1 ≠ 0 then pz (kdf b n) (vlf b n) m f 8 (k + 1) (i + 1) else if kdf b n (pz (kdf b n) (vlf b n) m f 8 (k + 1) (i + 1)).2.1 = 38 then (0, (pz (kdf b n) (vlf b n) m f 8 (k + 1) (i + 1)).2.1 + 1, (pz (kdf b n) (vlf b n) m f 8 (k + 1) (i + 1)).2.2) else pFl (kdf b n) 2 (pz (kdf b n) (vlf b n) m f 8 (k + 1) (i + 1)).2.1)) else (if (pz (kdf b n) (vlf b n) m f 3 k i).1 ≠ 0 then pz (kdf b n) (vlf b n) m f 3 k i else if kdf b n (pz (kdf b n) (vlf b n) m f 3 k i).2.1 = 39 ∨ kdf b n (pz (kdf b n) (vlf b n) m f 3 k i).2.1 = 40 ∨ kdf b n (pz (kdf b n) (vlf b n) m f 3 k i).2.1 = 41 then (if (pz (kdf b n) (vlf b n) m f 3 k ((pz (kdf b n) (vlf b n) m f 3 k i).2.1 + 1)).1 ≠ 0 then pz (kdf b n) (vlf b n) m f 3 k ((pz (kdf b n) (vlf b n) m f 3 k i).2.1 + 1) else (0, (pz (kdf b n) (vlf b n) m f 3 k ((pz (kdf b n) (vlf b n) m f 3 k i).2.1 + 1)).2.1, (pz (kdf b n) (vlf b n) m f 3 k i).2.2 ++ (pz (kdf b n) (vlf b n) m f 3 k ((pz (kdf b n) (vlf b n) m f 3 k i).2.1 + 1)).2.2 ++ [kdf b n (pz (kdf b n) (vlf b n) m f 3 k i).2.1 - 39 + 3003])) else pFl (kdf b n) 2 (pz (kdf b n) (vlf b n) m f 3 k i).2.1)) := rfl
        rw [e] at hp
        clear e
        have nest : cK (kdf b n i) = 213 ∨ cK (kdf b n i) = 91 → QCm X L (d + 4 * (6 - k) + 7) 1 yX5_readNested [(2, 2), (0, (k : Int))] M (fun x1 M1 => (x1 = 0 ∨ x1 = 1) ∧ (post x1 M1)) := fun zw => by
          have zk' : kdf b n i = 13 ∨ kdf b n i = 37 := zw.imp (cK_inj (kv i) 13 (by unfold pVal; omega)).1 (cK_inj (kv i) 37 (by unfold pVal; omega)).1
          refine QC.of qmX5_readNested_ok rfl (TX5_readNested_0 ⟨(i32 (by omega) (by omega)), fun k6 => ?_, fun k6 => c_fail hT hi h4 ⟨Or.inl rfl, Or.inl rfl, hp 0 _ ?_⟩⟩)
          rotate_left
          · rcases zk' with zk | zk
            · rw [if_pos zk, if_pos (by omega)]
              exact fail_res hL (fK.refl L M) (by decide)
            · rw [if_neg (by rw [zk]; decide), if_pos zk, if_pos (by omega)]
              exact fail_res hL (fK.refl L M) (by decide)
          rw [c_kd hT hi h4]
          refine ⟨fun w => ?_, fun w => ⟨kb i, ?_⟩⟩
          · -- a bracket
            have zk : kdf b n i = 37 := (cK_inj (kv i) 37 (by unfold pVal; omega)).1 w
            have hl := tk.lt hi (by rw [zk]; decide) (by rw [zk]; decide)
            rw [if_neg (by rw [zk]; decide), if_pos zk, if_neg (by omega)] at hp
            have hr := pz_res (m := m) tk f 8 (k + 1) (i + 1) (by decide) hl (by show 12 * (T - (i + 1)) + 6 < f; omega)
            refine c_next hT hl h4 (fun Mn nk h4n => ?_)
            have k4 : fK L M Mn := fK.nx hL nk
            have l4 := cLog.nx hL nk
            have dq : d + 4 * (6 - k) + 6 = d + 4 * (6 - (k + 1)) + 10 := by omega
            have A := ihA 8 (by omega) d (k + 1) (i + 1) Mn (fun x7 M7 => (x7 = 0 → ((0 : Int) = 0 ∨ (0 : Int) = 1) ∧ (post 0 M7)) ∧ (¬ x7 = 0 → in32 x7 ∧ (QCm X L (d + 4 * (6 - k) + 6) 1 yX5_skip [(2, 2), (0, 93)] M7 (fun x8 M8 => (x8 = 0 → ((0 : Int) = 0 ∨ (0 : Int) = 1) ∧ (post 0 M8)) ∧ (¬ x8 = 0 → in32 x8 ∧ ((1 : Int) = 0 ∨ (1 : Int) = 1) ∧ (post 1 M8)))))) (by omega) hl (by show 12 * (T - (i + 1)) + 6 < f; omega) (hT.fK hL k4) h4n (by rw [k4.2.1 5 (by omega) (by omega)]; exact h6) (by rw [nk.1 L (by omega)]; omega) (fun v M1 c1 => ?_)
            · have A' : QCm X L (d + 4 * (6 - (k + 1)) + 10) 1 yX5_readTruth [(2, 2), (0, ((k + 1 : Nat) : Int))] Mn _ := A
              rw [← dq] at A'
              exact A'
            · have o := ok01 c1
              refine ⟨fun y => ⟨Or.inl rfl, hp 0 M1 ?_⟩, fun y => ⟨by rcases o.2 with u | u <;> rw [u] <;> exact ⟨by decide, by decide⟩, ?_⟩⟩
              · have z1 := o.1.1 y
                rw [if_pos z1]; exact c1.bad k4 z1 rfl
              · have z1 : (pz (kdf b n) (vlf b n) m f 8 (k + 1) (i + 1)).1 = 0 := Classical.byContradiction (fun u => y (o.1.2 u))
                rw [if_neg (fun u => u z1)] at hp
                obtain ⟨_, w2, w3⟩ := c1.2.1 z1
                rcases hr with ⟨_, r2, r3, r4⟩ | ⟨r1, _⟩
                · have kk := k4.trans c1.1
                  refine c_skip (hT.fK hL kk) r3 w2 (k := 38) (by unfold pVal; omega) rfl (fun u _ Ms ns h4s => ⟨fun q => absurd q (by decide), fun _ => ⟨(i32 (by omega) (by omega)), Or.inr rfl, hp 1 Ms ?_⟩⟩) (fun u => ⟨fun _ => ⟨Or.inl rfl, hp 0 _ ?_⟩, fun q => absurd rfl q⟩)
                  · rw [if_pos u]
                    refine ⟨kk.trans (fK.nx hL ns), fun _ => ⟨rfl, h4s, ?_⟩, fun q => absurd rfl q⟩
                    have := (l4.trans w3).trans (cLog.nx hL ns)
                    rw [List.nil_append, List.append_nil] at this; exact this
                  · rw [if_neg u]; exact fail_res hL kk (by decide)
                · omega
          · -- not
            have zk : kdf b n i = 13 := (cK_inj (kv i) 13 (by unfold pVal; omega)).1 (zw.resolve_right w)
            have hl := tk.lt hi (by rw [zk]; decide) (by rw [zk]; decide)
            rw [if_pos zk, if_neg (by omega)] at hp
            have hr := pz_res (m := m) tk f 5 (k + 1) (i + 1) (by decide) hl (by show 12 * (T - (i + 1)) + 4 < f; omega)
            refine c_next hT hl h4 (fun Mn nk h4n => ?_)
            have k4 : fK L M Mn := fK.nx hL nk
            have l4 := cLog.nx hL nk
            have dq : d + 4 * (6 - k) + 6 = (d + 2) + 4 * (6 - (k + 1)) + 8 := by omega
            have A := ihA 5 (by omega) (d + 2) (k + 1) (i + 1) Mn (fun x4 M4 => (x4 = 0 → ((0 : Int) = 0 ∨ (0 : Int) = 1) ∧ (post 0 M4)) ∧ (¬ x4 = 0 → in32 x4 ∧ (((qS L).2.1 L).1 = 2 ∧ (QCm X L (d + 4 * (6 - k) + 6) 0 yX2_add [(2, L), (0, 1005)] M4 (fun _ M5 => ((1 : Int) = 0 ∨ (1 : Int) = 1) ∧ post 1 M5))))) (by omega) hl (by show 12 * (T - (i + 1)) + 4 < f; omega) (hT.fK hL k4) h4n (by rw [k4.2.1 5 (by omega) (by omega)]; exact h6) (by rw [nk.1 L (by omega)]; omega) (fun v M1 c1 => ?_)
            · have A' : QCm X L ((d + 2) + 4 * (6 - (k + 1)) + 8) 1 yX5_readUnit [(2, 2), (0, ((k + 1 : Nat) : Int))] Mn _ := A
              rw [← dq] at A'
              exact A'
            · have o := ok01 c1
              refine ⟨fun y => ⟨Or.inl rfl, hp 0 M1 ?_⟩, fun y => ⟨by rcases o.2 with u | u <;> rw [u] <;> exact ⟨by decide, by decide⟩, q2, ?_⟩⟩
              · have z1 := o.1.1 y
                rw [if_pos z1]; exact c1.bad k4 z1 rfl
              · have z1 : (pz (kdf b n) (vlf b n) m f 5 (k + 1) (i + 1)).1 = 0 := Classical.byContradiction (fun u => y (o.1.2 u))
                rw [if_neg (fun u => u z1)] at hp
                obtain ⟨_, w2, w3⟩ := c1.2.1 z1
                rcases hr with ⟨_, r2, r3, r4⟩ | ⟨r1, _⟩
                · have r2' : i + 1 + 1 ≤ (pz (kdf b n) (vlf b n) m f 5 (k + 1) (i + 1)).2.1 := r2
                  have w31 := w3.1
                  rw [nk.1 L (by omega)] at w31
                  refine c_addL hL (by rw [w31]; omega) (fun M2 k2 a4 lg => ⟨Or.inr rfl, hp 1 M2 ⟨(k4.trans c1.1).trans k2, fun _ => ⟨rfl, a4 _ w2, ?_⟩, fun q => absurd rfl q⟩⟩)
                  have := (l4.trans w3).trans (lg 3006 rfl)
                  rw [List.nil_append] at this; exact this
                · omega
        refine QC.of qmX5_readUnit_ok rfl (TX5_readUnit_0 ?_)
        rw [c_kd hT hi h4]
        refine ⟨fun z => nest (Or.inl z), fun z => ⟨kb i, fun w => nest (Or.inr w), fun w => ?_⟩⟩
        · -- a comparison
          have z1 : kdf b n i ≠ 13 := fun u => z (by rw [u]; rfl)
          have z2 : kdf b n i ≠ 37 := fun u => w (by rw [u]; rfl)
          rw [if_neg z1, if_neg z2] at hp
          have hr := pz_res (m := m) tk f 3 k i (by decide) hi (by show 12 * (T - i) + 3 < f; omega)
          refine QC.dd (show (d + 1) + 4 * (6 - k) + 6 = d + 4 * (6 - k) + 7 by omega) (ihA 3 (by omega) (d + 1) k i M _ hk hi (by show 12 * (T - i) + 3 < f; omega) hT h4 h6 hz (fun v M1 c1 => ?_))
          have o := ok01 c1
          refine ⟨fun y => hp 0 M1 ?_, fun y => ⟨by rcases o.2 with u | u <;> rw [u] <;> exact ⟨by decide, by decide⟩, ?_⟩⟩
          · have z1 := o.1.1 y
            rw [if_pos z1]; exact c1.bad (fK.refl L M) z1 rfl
          have z3 : (pz (kdf b n) (vlf b n) m f 3 k i).1 = 0 := Classical.byContradiction (fun u => y (o.1.2 u))
          rw [if_neg (fun u => u z3)] at hp
          obtain ⟨_, w2, w3⟩ := c1.2.1 z3
          rcases hr with ⟨_, r2, r3, r4⟩ | ⟨r1, _⟩
          rotate_left
          · omega
          generalize pz (kdf b n) (vlf b n) m f 3 k i = r at *
          have r2' : i + 1 ≤ r.2.1 := r2
          have hT1 := hT.fK hL c1.1
          have sgn : ∀ (kk code cc : Int), kdf b n r.2.1 = kk → (kk = 39 ∨ kk = 40 ∨ kk = 41) → code = kk - 39 + 3003 → cc = cCode code → ∀ Q : Int → QMem → Prop, (∀ x3 M3, (x3 = 0 → post 0 M3) → (¬ x3 = 0 → in32 x3 ∧ (QCm X L (d + 4 * (6 - k) + 7) 0 yX2_add [(2, L), (0, cc)] M3 (fun _ M4 => post 1 M4))) → Q x3 M3) → QCm X L (d + 4 * (6 - k) + 7) 0 yX7_next [(2, 13)] M1 (fun _ Mx => QCm X L (d + 4 * (6 - k) + 7) 1 yX5_readSum [(2, 2), (0, (k : Int))] Mx Q) := by
            intro kk code cc hkk kc ecode ec Q hQ
            have hl := tk.lt r3 (by rw [hkk]; omega) (by rw [hkk]; omega)
            rw [if_pos (by rw [hkk]; exact kc)] at hp
            have hs := pz_res (m := m) tk f 3 k (r.2.1 + 1) (by decide) hl (by show 12 * (T - (r.2.1 + 1)) + 3 < f; omega)
            refine c_next hT1 hl w2 (fun Mn nk h4n => ?_)
            have k5 : fK L M1 Mn := fK.nx hL nk
            have l5 := cLog.nx hL nk
            have w31 := w3.1
            refine QC.dd (show (d + 1) + 4 * (6 - k) + 6 = d + 4 * (6 - k) + 7 by omega) (ihA 3 (by omega) (d + 1) k (r.2.1 + 1) _ _ hk hl (by show 12 * (T - (r.2.1 + 1)) + 3 < f; omega) (hT1.fK hL k5) h4n (by rw [k5.2.1 5 (by omega) (by omega), c1.1.2.1 5 (by omega) (by omega)]; exact h6) (by rw [nk.1 L (by omega), w31]; omega) (fun v2 M2 c2 => hQ v2 M2 (fun u => hp 0 M2 ?_) (fun u => ?_)))
            · have z4 := (ok01 c2).1.1 u
              rw [if_pos z4]; exact c2.bad (c1.1.trans k5) z4 rfl
            · have z4 : (pz (kdf b n) (vlf b n) m f 3 k (r.2.1 + 1)).1 = 0 := Classical.byContradiction (fun q => u ((ok01 c2).1.2 q))
              rw [if_neg (fun q => q z4)] at hp
              obtain ⟨_, y2, y3⟩ := c2.2.1 z4
              refine ⟨by rcases (ok01 c2).2 with q | q <;> rw [q] <;> exact ⟨by decide, by decide⟩, ?_⟩
              rcases hs with ⟨_, s2, s3, s4⟩ | ⟨s1, _⟩
              · have s2' : r.2.1 + 1 + 1 ≤ (pz (kdf b n) (vlf b n) m f 3 k (r.2.1 + 1)).2.1 := s2
                have y31 := y3.1
                rw [nk.1 L (by omega)] at y31
                refine c_addL hL (by rw [y31, w31]; omega) (fun M3 k3 a4 lg => hp 1 M3 ⟨((c1.1.trans k5).trans c2.1).trans k3, fun _ => ⟨rfl, a4 _ y2, ?_⟩, fun q => absurd rfl q⟩)
                have := ((w3.trans l5).trans y3).trans (lg code ec)
                rw [List.append_nil] at this
                rw [hkk, ← ecode]; exact this
              · omega
          have kvr := kv r.2.1
          have eqr : ∀ q : Int, pVal q → (cK (kdf b n r.2.1) = cK q ↔ kdf b n r.2.1 = q) := fun q hq => cK_inj kvr q hq
          rw [c_kd hT1 r3 w2]
          refine ⟨fun u => ?_, fun u => ⟨kb _, fun u2 => ?_, fun u2 => ⟨fun u3 => ?_, fun u3 => c_fail hT1 r3 w2 ⟨Or.inl rfl, ?_⟩⟩⟩⟩
          · exact sgn 39 3003 1008 ((eqr 39 (by unfold pVal; omega)).1 u) (by omega) rfl rfl _ (fun x3 M3 q1 q2' => ⟨q1, fun q => ⟨(q2' q).1, fun _ => ⟨q2, (q2' q).2⟩, fun q3 => absurd u q3⟩⟩)
          · exact sgn 40 3004 1009 ((eqr 40 (by unfold pVal; omega)).1 u2) (by omega) rfl rfl _ (fun x3 M3 q1 q2' => ⟨q1, fun q => ⟨(q2' q).1, fun q3 => absurd q3 u, fun _ => ⟨fun _ => ⟨q2, (q2' q).2⟩, fun q3 => absurd u2 q3⟩⟩⟩)
          · exact sgn 41 3005 1010 ((eqr 41 (by unfold pVal; omega)).1 u3) (by omega) rfl rfl _ (fun x3 M3 q1 q2' => ⟨q1, fun q => ⟨(q2' q).1, fun q3 => absurd q3 u, fun _ => ⟨fun q3 => absurd q3 u2, fun _ => ⟨q2, (q2' q).2⟩⟩⟩⟩)
          · rw [if_neg (fun q => by
              rcases q with q | q | q
              · exact u (by rw [q]; rfl)
              · exact u2 (by rw [q]; rfl)
              · exact u3 (by rw [q]; rfl))] at hp
            exact hp 0 _ (fail_res hL c1.1 (by decide))
      · -- readBoth
        have hf' : 12 * (T - i) + 5 < f + 1 := hf
        have tk := hT.tk hn.1
        have hr := pz_res (m := m) tk f 5 k i (by decide) hi (by show 12 * (T - i) + 4 < f; omega)
        have e : pz (kdf b n) (vlf b n) m (f + 1) 6 k i = (if (pz (kdf b n) (vlf b n) m f 5 k i).1 ≠ 0 then pz (kdf b n) (vlf b n) m f 5 k i else ((pz (kdf b n) (vlf b n) m f 7 k (pz (kdf b n) (vlf b n) m f 5 k i).2.1).1, (pz (kdf b n) (vlf b n) m f 7 k (pz (kdf b n) (vlf b n) m f 5 k i).2.1).2.1, (pz (kdf b n) (vlf b n) m f 5 k i).2.2 ++ (pz (kdf b n) (vlf b n) m f 7 k (pz (kdf b n) (vlf b n) m f 5 k i).2.1).2.2)) := rfl
        rw [e] at hp
        refine QC.of qmX5_readBoth_ok rfl (TX5_readBoth_0 (ihA 5 (by omega) d k i M _ hk hi (by show 12 * (T - i) + 4 < f; omega) hT h4 h6 hz (fun v M1 c1 => ?_)))
        have o := ok01 c1
        refine ⟨fun z => hp 0 M1 ?_, fun z => ⟨by rcases o.2 with y | y <;> rw [y] <;> exact ⟨by decide, by decide⟩, ?_⟩⟩
        · have z1 := o.1.1 z
          rw [if_pos z1]; exact c1.bad (fK.refl L M) z1 rfl
        · have z1 : (pz (kdf b n) (vlf b n) m f 5 k i).1 = 0 := Classical.byContradiction (fun y => z (o.1.2 y))
          rw [if_neg (fun y => y z1)] at hp
          obtain ⟨_, w2, w3⟩ := c1.2.1 z1
          rcases hr with ⟨_, r2, r3, r4⟩ | ⟨r1, _⟩
          · have r2' : i + 1 ≤ (pz (kdf b n) (vlf b n) m f 5 k i).2.1 := r2
            have w31 := w3.1
            exact ihB 7 (by omega) d k _ 0 M1 _ hk r3 ⟨(by omega), (by omega)⟩ (by show 12 * (T - _) + 0 < f; omega) (hT.fK hL c1.1) w2 (by rw [c1.1.2.1 5 (by omega) (by omega)]; exact h6) (by rw [w31]; omega) (fun v2 M2 c2 => hp v2 M2 (cRes.good (w := 0) c1.1 w3 c2 rfl))
          · omega
      · -- readTruth
        have hf' : 12 * (T - i) + 6 < f + 1 := hf
        have tk := hT.tk hn.1
        have hr := pz_res (m := m) tk f 6 k i (by decide) hi (by show 12 * (T - i) + 5 < f; omega)
        have e : pz (kdf b n) (vlf b n) m (f + 1) 8 k i = (if (pz (kdf b n) (vlf b n) m f 6 k i).1 ≠ 0 then pz (kdf b n) (vlf b n) m f 6 k i else ((pz (kdf b n) (vlf b n) m f 9 k (pz (kdf b n) (vlf b n) m f 6 k i).2.1).1, (pz (kdf b n) (vlf b n) m f 9 k (pz (kdf b n) (vlf b n) m f 6 k i).2.1).2.1, (pz (kdf b n) (vlf b n) m f 6 k i).2.2 ++ (pz (kdf b n) (vlf b n) m f 9 k (pz (kdf b n) (vlf b n) m f 6 k i).2.1).2.2)) := rfl
        rw [e] at hp
        refine QC.of qmX5_readTruth_ok rfl (TX5_readTruth_0 (ihA 6 (by omega) d k i M _ hk hi (by show 12 * (T - i) + 5 < f; omega) hT h4 h6 hz (fun v M1 c1 => ?_)))
        have o := ok01 c1
        refine ⟨fun z => hp 0 M1 ?_, fun z => ⟨by rcases o.2 with y | y <;> rw [y] <;> exact ⟨by decide, by decide⟩, ?_⟩⟩
        · have z1 := o.1.1 z
          rw [if_pos z1]; exact c1.bad (fK.refl L M) z1 rfl
        · have z1 : (pz (kdf b n) (vlf b n) m f 6 k i).1 = 0 := Classical.byContradiction (fun y => z (o.1.2 y))
          rw [if_neg (fun y => y z1)] at hp
          obtain ⟨_, w2, w3⟩ := c1.2.1 z1
          rcases hr with ⟨_, r2, r3, r4⟩ | ⟨r1, _⟩
          · have r2' : i + 1 ≤ (pz (kdf b n) (vlf b n) m f 6 k i).2.1 := r2
            have w31 := w3.1
            exact ihB 9 (by omega) d k _ 0 M1 _ hk r3 ⟨(by omega), (by omega)⟩ (by show 12 * (T - _) + 0 < f; omega) (hT.fK hL c1.1) w2 (by rw [c1.1.2.1 5 (by omega) (by omega)]; exact h6) (by rw [w31]; omega) (fun v2 M2 c2 => hp v2 M2 (cRes.good (w := 0) c1.1 w3 c2 rfl))
          · omega
    · intro sel hs d k i c M post hk hi hc hf hT h4 h6 hz hp
      have t1' := hT.1
      have hcase : sel = 2 ∨ sel = 4 ∨ sel = 7 ∨ sel = 9 := hs
      rcases hcase with rfl | rfl | rfl | rfl
      · -- rest of readTerm
        have tk := hT.tk hn.1
        refine TX5_readTerm_12 ⟨(i32 (by omega) (by omega)), fun z => absurd z (by omega), fun _ => ?_⟩
        rw [c_kd hT hi h4]
        refine ⟨fun z => ?_, fun z => ⟨kb i, hp 1 M ?_⟩⟩
        · have zk : kdf b n i = 34 := (cK_inj (kv i) 34 (by unfold pVal; omega)).1 z
          have hl := tk.lt hi (by rw [zk]; decide) (by rw [zk]; decide)
          have hr := pz_res (m := m) tk f 0 k (i + 1) (by decide) hl (by show 12 * (T - (i + 1)) + 1 < f; have : 12 * (T - i) + 0 < f + 1 := hf; omega)
          have e : pz (kdf b n) (vlf b n) m (f + 1) 2 k i = (if kdf b n i = 34 then (if (pz (kdf b n) (vlf b n) m f 0 k (i + 1)).1 ≠ 0 then pz (kdf b n) (vlf b n) m f 0 k (i + 1) else ((pz (kdf b n) (vlf b n) m f 2 k (pz (kdf b n) (vlf b n) m f 0 k (i + 1)).2.1).1, (pz (kdf b n) (vlf b n) m f 2 k (pz (kdf b n) (vlf b n) m f 0 k (i + 1)).2.1).2.1, (pz (kdf b n) (vlf b n) m f 0 k (i + 1)).2.2 ++ 3002 :: (pz (kdf b n) (vlf b n) m f 2 k (pz (kdf b n) (vlf b n) m f 0 k (i + 1)).2.1).2.2)) else (0, i, [])) := rfl
          rw [if_pos zk] at e
          rw [e] at hp
          refine c_next hT hl h4 (fun Mn nk h4n => ?_)
          have k4 : fK L M Mn := fK.nx hL nk
          have l4 := cLog.nx hL nk
          refine ihA 0 (by omega) d k (i + 1) _ _ hk hl (by show 12 * (T - (i + 1)) + 1 < f; have : 12 * (T - i) + 0 < f + 1 := hf; omega) (hT.fK hL k4) h4n (by rw [k4.2.1 5 (by omega) (by omega)]; exact h6) (by rw [nk.1 L (by omega)]; omega) (fun v M1 c1 => ?_)
          have o := ok01 c1
          refine ⟨fun y => hp 0 M1 ?_, fun y => ⟨by rcases o.2 with u | u <;> rw [u] <;> exact ⟨by decide, by decide⟩, q2, ?_⟩⟩
          · have z1 := o.1.1 y
            rw [if_pos z1]; exact c1.bad k4 z1 rfl
          · have z1 : (pz (kdf b n) (vlf b n) m f 0 k (i + 1)).1 = 0 := Classical.byContradiction (fun u => y (o.1.2 u))
            rw [if_neg (fun u => u z1)] at hp
            obtain ⟨_, w2, w3⟩ := c1.2.1 z1
            rcases hr with ⟨_, r2, r3, r4⟩ | ⟨r1, _⟩
            · have r2' : i + 1 + 1 ≤ (pz (kdf b n) (vlf b n) m f 0 k (i + 1)).2.1 := r2
              have w31 := w3.1
              rw [nk.1 L (by omega)] at w31
              have t1 := hT.1
              refine c_addL hL (by rw [w31]; omega) (fun M2 k2 a4 lg => ?_)
              have lg2 := (l4.trans w3).trans (lg 3002 rfl)
              have lgz := lg2.1
              have kk := (k4.trans c1.1).trans k2
              refine ihB 2 (by omega) d k _ (c + 1) M2 _ hk r3 ⟨(by omega), (by omega)⟩ (by show 12 * (T - _) + 0 < f; have : 12 * (T - i) + 0 < f + 1 := hf; omega) (hT.fK hL kk) (a4 _ w2) (by rw [kk.2.1 5 (by omega) (by omega)]; exact h6) ?_ (fun v2 M3 c3 => hp v2 M3 (cRes.good (w := 0) kk lg2 c3 ?_))
              · rw [lgz, List.nil_append, List.length_append, show [(3002 : Int)].length = 1 from rfl]; omega
              · rw [List.nil_append, List.append_assoc]; rfl
            · omega
        · have zk : kdf b n i ≠ 34 := fun y => z (by rw [y]; rfl)
          have e : pz (kdf b n) (vlf b n) m (f + 1) 2 k i = (if kdf b n i = 34 then _ else (0, i, [])) := rfl
          rw [e, if_neg zk]
          exact ⟨fK.refl L M, fun _ => ⟨rfl, h4, cLog.refl L M⟩, fun y => absurd rfl y⟩
      · -- rest of sum
        have tk := hT.tk hn.1
        have hf' : 12 * (T - i) + 0 < f + 1 := hf
        have go : ∀ (kk code cc : Int), kdf b n i = kk → kk ≠ 24 → kk ≠ 25 → (∀ v M1, cRes b n L M (if (pz (kdf b n) (vlf b n) m f 1 k (i + 1)).1 ≠ 0 then pz (kdf b n) (vlf b n) m f 1 k (i + 1) else ((pz (kdf b n) (vlf b n) m f 4 k (pz (kdf b n) (vlf b n) m f 1 k (i + 1)).2.1).1, (pz (kdf b n) (vlf b n) m f 4 k (pz (kdf b n) (vlf b n) m f 1 k (i + 1)).2.1).2.1, (pz (kdf b n) (vlf b n) m f 1 k (i + 1)).2.2 ++ code :: (pz (kdf b n) (vlf b n) m f 4 k (pz (kdf b n) (vlf b n) m f 1 k (i + 1)).2.1).2.2)) v M1 → post v M1) → cc = cCode code → ∀ Q : Int → QMem → Prop, (∀ x3 M3, (x3 = 0 → post 0 M3) → (¬ x3 = 0 → in32 x3 ∧ QCm X L (d + 4 * (6 - k) + 5) 0 yX2_add [(2, L), (0, cc)] M3 (fun _ M4 => QRm X L (d + 4 * (6 - k) + 6) qmX5_readSum post 12 [(0, (2, 2)), (1, (0, (k : Int))), (2, (0, c + 1))] [] M4)) → Q x3 M3) → QCm X L (d + 4 * (6 - k) + 5) 0 yX7_next [(2, 13)] M (fun _ Mx => QCm X L (d + 4 * (6 - k) + 5) 1 yX5_readTerm [(2, 2), (0, (k : Int))] Mx Q) := by
          intro kk code cc zk k4' k5' hp ec Q hQ
          have hl := tk.lt hi (by rw [zk]; exact k4') (by rw [zk]; exact k5')
          have hr := pz_res (m := m) tk f 1 k (i + 1) (by decide) hl (by show 12 * (T - (i + 1)) + 2 < f; omega)
          refine c_next hT hl h4 (fun Mn nk h4n => ?_)
          have k4 : fK L M Mn := fK.nx hL nk
          have l4 := cLog.nx hL nk
          refine ihA 1 (by omega) d k (i + 1) _ _ hk hl (by show 12 * (T - (i + 1)) + 2 < f; omega) (hT.fK hL k4) h4n (by rw [k4.2.1 5 (by omega) (by omega)]; exact h6) (by rw [nk.1 L (by omega)]; omega) (fun v M1 c1 => ?_)
          have o := ok01 c1
          have tail : v ≠ 0 → QCm X L (d + 4 * (6 - k) + 5) 0 yX2_add [(2, L), (0, cc)] M1 (fun _ M4 => QRm X L (d + 4 * (6 - k) + 6) qmX5_readSum post 12 [(0, (2, 2)), (1, (0, (k : Int))), (2, (0, c + 1))] [] M4) := fun y => by
            have z1 : (pz (kdf b n) (vlf b n) m f 1 k (i + 1)).1 = 0 := Classical.byContradiction (fun u => y (o.1.2 u))
            rw [if_neg (fun u => u z1)] at hp
            obtain ⟨_, w2, w3⟩ := c1.2.1 z1
            rcases hr with ⟨_, r2, r3, r4⟩ | ⟨r1, _⟩
            · have r2' : i + 1 + 1 ≤ (pz (kdf b n) (vlf b n) m f 1 k (i + 1)).2.1 := r2
              have w31 := w3.1
              rw [nk.1 L (by omega)] at w31
              have t1 := hT.1
              refine c_addL hL (by rw [w31]; omega) (fun M2 k2 a4 lg => ?_)
              have lg2 := (l4.trans w3).trans (lg code ec)
              have lgz := lg2.1
              have kk2 := (k4.trans c1.1).trans k2
              refine ihB 4 (by omega) d k _ (c + 1) M2 _ hk r3 ⟨(by omega), (by omega)⟩ (by show 12 * (T - _) + 0 < f; omega) (hT.fK hL kk2) (a4 _ w2) (by rw [kk2.2.1 5 (by omega) (by omega)]; exact h6) ?_ (fun v2 M3 c3 => hp v2 M3 (cRes.good (w := 0) kk2 lg2 c3 ?_))
              · rw [lgz, List.nil_append, List.length_append, show [(code : Int)].length = 1 from rfl]; omega
              · rw [List.nil_append, List.append_assoc]; rfl
            · omega
          refine hQ v M1 (fun y => hp 0 M1 ?_) (fun y => ⟨by rcases o.2 with u | u <;> rw [u] <;> exact ⟨by decide, by decide⟩, tail y⟩)
          have z1 := o.1.1 y
          rw [if_pos z1]; exact c1.bad k4 z1 rfl
        have e : pz (kdf b n) (vlf b n) m (f + 1) 4 k i = (if kdf b n i = 32 then (if (pz (kdf b n) (vlf b n) m f 1 k (i + 1)).1 ≠ 0 then pz (kdf b n) (vlf b n) m f 1 k (i + 1) else ((pz (kdf b n) (vlf b n) m f 4 k (pz (kdf b n) (vlf b n) m f 1 k (i + 1)).2.1).1, (pz (kdf b n) (vlf b n) m f 4 k (pz (kdf b n) (vlf b n) m f 1 k (i + 1)).2.1).2.1, (pz (kdf b n) (vlf b n) m f 1 k (i + 1)).2.2 ++ 3000 :: (pz (kdf b n) (vlf b n) m f 4 k (pz (kdf b n) (vlf b n) m f 1 k (i + 1)).2.1).2.2)) else if kdf b n i = 33 then (if (pz (kdf b n) (vlf b n) m f 1 k (i + 1)).1 ≠ 0 then pz (kdf b n) (vlf b n) m f 1 k (i + 1) else ((pz (kdf b n) (vlf b n) m f 4 k (pz (kdf b n) (vlf b n) m f 1 k (i + 1)).2.1).1, (pz (kdf b n) (vlf b n) m f 4 k (pz (kdf b n) (vlf b n) m f 1 k (i + 1)).2.1).2.1, (pz (kdf b n) (vlf b n) m f 1 k (i + 1)).2.2 ++ 3001 :: (pz (kdf b n) (vlf b n) m f 4 k (pz (kdf b n) (vlf b n) m f 1 k (i + 1)).2.1).2.2)) else (0, i, [])) := rfl
        rw [e] at hp
        clear e
        refine TX5_readSum_12 ⟨(i32 (by omega) (by omega)), fun z => absurd z (by omega), fun _ => ?_⟩
        rw [c_kd hT hi h4]
        refine ⟨fun z => ?_, fun z => ⟨kb i, fun y => ?_, fun y => hp 1 M ?_⟩⟩
        · have zk : kdf b n i = 32 := (cK_inj (kv i) 32 (by unfold pVal; omega)).1 z
          rw [if_pos zk] at hp
          exact go 32 3000 1011 zk (by decide) (by decide) hp rfl _ (fun x3 M3 q1 q3 => ⟨q1, fun q => ⟨(q3 q).1, fun _ => ⟨q2, (q3 q).2⟩, fun u => absurd z u⟩⟩)
        · have zk : kdf b n i = 33 := (cK_inj (kv i) 33 (by unfold pVal; omega)).1 y
          rw [if_neg (by rw [zk]; decide), if_pos zk] at hp
          exact go 33 3001 1012 zk (by decide) (by decide) hp rfl _ (fun x3 M3 q1 q3 => ⟨q1, fun q => ⟨(q3 q).1, fun u => absurd u z, fun _ => ⟨q2, (q3 q).2⟩⟩⟩)
        · have z1 : kdf b n i ≠ 32 := fun u => z (by rw [u]; rfl)
          have z2 : kdf b n i ≠ 33 := fun u => y (by rw [u]; rfl)
          rw [if_neg z1, if_neg z2]
          exact ⟨fK.refl L M, fun _ => ⟨rfl, h4, cLog.refl L M⟩, fun y => absurd rfl y⟩
      · -- rest of readBoth
        have tk := hT.tk hn.1
        refine TX5_readBoth_12 ⟨(i32 (by omega) (by omega)), fun z => absurd z (by omega), fun _ => ?_⟩
        rw [c_kd hT hi h4]
        refine ⟨fun z => ?_, fun z => ⟨kb i, hp 1 M ?_⟩⟩
        · have zk : kdf b n i = 11 := (cK_inj (kv i) 11 (by unfold pVal; omega)).1 z
          have hl := tk.lt hi (by rw [zk]; decide) (by rw [zk]; decide)
          have hr := pz_res (m := m) tk f 5 k (i + 1) (by decide) hl (by show 12 * (T - (i + 1)) + 4 < f; have : 12 * (T - i) + 0 < f + 1 := hf; omega)
          have e : pz (kdf b n) (vlf b n) m (f + 1) 7 k i = (if kdf b n i = 11 then (if (pz (kdf b n) (vlf b n) m f 5 k (i + 1)).1 ≠ 0 then pz (kdf b n) (vlf b n) m f 5 k (i + 1) else ((pz (kdf b n) (vlf b n) m f 7 k (pz (kdf b n) (vlf b n) m f 5 k (i + 1)).2.1).1, (pz (kdf b n) (vlf b n) m f 7 k (pz (kdf b n) (vlf b n) m f 5 k (i + 1)).2.1).2.1, (pz (kdf b n) (vlf b n) m f 5 k (i + 1)).2.2 ++ 3007 :: (pz (kdf b n) (vlf b n) m f 7 k (pz (kdf b n) (vlf b n) m f 5 k (i + 1)).2.1).2.2)) else (0, i, [])) := rfl
          rw [if_pos zk] at e
          rw [e] at hp
          refine c_next hT hl h4 (fun Mn nk h4n => ?_)
          have k4 : fK L M Mn := fK.nx hL nk
          have l4 := cLog.nx hL nk
          refine ihA 5 (by omega) d k (i + 1) _ _ hk hl (by show 12 * (T - (i + 1)) + 4 < f; have : 12 * (T - i) + 0 < f + 1 := hf; omega) (hT.fK hL k4) h4n (by rw [k4.2.1 5 (by omega) (by omega)]; exact h6) (by rw [nk.1 L (by omega)]; omega) (fun v M1 c1 => ?_)
          have o := ok01 c1
          refine ⟨fun y => hp 0 M1 ?_, fun y => ⟨by rcases o.2 with u | u <;> rw [u] <;> exact ⟨by decide, by decide⟩, q2, ?_⟩⟩
          · have z1 := o.1.1 y
            rw [if_pos z1]; exact c1.bad k4 z1 rfl
          · have z1 : (pz (kdf b n) (vlf b n) m f 5 k (i + 1)).1 = 0 := Classical.byContradiction (fun u => y (o.1.2 u))
            rw [if_neg (fun u => u z1)] at hp
            obtain ⟨_, w2, w3⟩ := c1.2.1 z1
            rcases hr with ⟨_, r2, r3, r4⟩ | ⟨r1, _⟩
            · have r2' : i + 1 + 1 ≤ (pz (kdf b n) (vlf b n) m f 5 k (i + 1)).2.1 := r2
              have w31 := w3.1
              rw [nk.1 L (by omega)] at w31
              have t1 := hT.1
              refine c_addL hL (by rw [w31]; omega) (fun M2 k2 a4 lg => ?_)
              have lg2 := (l4.trans w3).trans (lg 3007 rfl)
              have lgz := lg2.1
              have kk := (k4.trans c1.1).trans k2
              refine ihB 7 (by omega) d k _ (c + 1) M2 _ hk r3 ⟨(by omega), (by omega)⟩ (by show 12 * (T - _) + 0 < f; have : 12 * (T - i) + 0 < f + 1 := hf; omega) (hT.fK hL kk) (a4 _ w2) (by rw [kk.2.1 5 (by omega) (by omega)]; exact h6) ?_ (fun v2 M3 c3 => hp v2 M3 (cRes.good (w := 0) kk lg2 c3 ?_))
              · rw [lgz, List.nil_append, List.length_append, show [(3007 : Int)].length = 1 from rfl]; omega
              · rw [List.nil_append, List.append_assoc]; rfl
            · omega
        · have zk : kdf b n i ≠ 11 := fun y => z (by rw [y]; rfl)
          have e : pz (kdf b n) (vlf b n) m (f + 1) 7 k i = (if kdf b n i = 11 then _ else (0, i, [])) := rfl
          rw [e, if_neg zk]
          exact ⟨fK.refl L M, fun _ => ⟨rfl, h4, cLog.refl L M⟩, fun y => absurd rfl y⟩
      · -- rest of readTruth
        have tk := hT.tk hn.1
        refine TX5_readTruth_12 ⟨(i32 (by omega) (by omega)), fun z => absurd z (by omega), fun _ => ?_⟩
        rw [c_kd hT hi h4]
        refine ⟨fun z => ?_, fun z => ⟨kb i, hp 1 M ?_⟩⟩
        · have zk : kdf b n i = 12 := (cK_inj (kv i) 12 (by unfold pVal; omega)).1 z
          have hl := tk.lt hi (by rw [zk]; decide) (by rw [zk]; decide)
          have hr := pz_res (m := m) tk f 6 k (i + 1) (by decide) hl (by show 12 * (T - (i + 1)) + 5 < f; have : 12 * (T - i) + 0 < f + 1 := hf; omega)
          have e : pz (kdf b n) (vlf b n) m (f + 1) 9 k i = (if kdf b n i = 12 then (if (pz (kdf b n) (vlf b n) m f 6 k (i + 1)).1 ≠ 0 then pz (kdf b n) (vlf b n) m f 6 k (i + 1) else ((pz (kdf b n) (vlf b n) m f 9 k (pz (kdf b n) (vlf b n) m f 6 k (i + 1)).2.1).1, (pz (kdf b n) (vlf b n) m f 9 k (pz (kdf b n) (vlf b n) m f 6 k (i + 1)).2.1).2.1, (pz (kdf b n) (vlf b n) m f 6 k (i + 1)).2.2 ++ 3008 :: (pz (kdf b n) (vlf b n) m f 9 k (pz (kdf b n) (vlf b n) m f 6 k (i + 1)).2.1).2.2)) else (0, i, [])) := rfl
          rw [if_pos zk] at e
          rw [e] at hp
          refine c_next hT hl h4 (fun Mn nk h4n => ?_)
          have k4 : fK L M Mn := fK.nx hL nk
          have l4 := cLog.nx hL nk
          refine ihA 6 (by omega) d k (i + 1) _ _ hk hl (by show 12 * (T - (i + 1)) + 5 < f; have : 12 * (T - i) + 0 < f + 1 := hf; omega) (hT.fK hL k4) h4n (by rw [k4.2.1 5 (by omega) (by omega)]; exact h6) (by rw [nk.1 L (by omega)]; omega) (fun v M1 c1 => ?_)
          have o := ok01 c1
          refine ⟨fun y => hp 0 M1 ?_, fun y => ⟨by rcases o.2 with u | u <;> rw [u] <;> exact ⟨by decide, by decide⟩, q2, ?_⟩⟩
          · have z1 := o.1.1 y
            rw [if_pos z1]; exact c1.bad k4 z1 rfl
          · have z1 : (pz (kdf b n) (vlf b n) m f 6 k (i + 1)).1 = 0 := Classical.byContradiction (fun u => y (o.1.2 u))
            rw [if_neg (fun u => u z1)] at hp
            obtain ⟨_, w2, w3⟩ := c1.2.1 z1
            rcases hr with ⟨_, r2, r3, r4⟩ | ⟨r1, _⟩
            · have r2' : i + 1 + 1 ≤ (pz (kdf b n) (vlf b n) m f 6 k (i + 1)).2.1 := r2
              have w31 := w3.1
              rw [nk.1 L (by omega)] at w31
              have t1 := hT.1
              refine c_addL hL (by rw [w31]; omega) (fun M2 k2 a4 lg => ?_)
              have lg2 := (l4.trans w3).trans (lg 3008 rfl)
              have lgz := lg2.1
              have kk := (k4.trans c1.1).trans k2
              refine ihB 9 (by omega) d k _ (c + 1) M2 _ hk r3 ⟨(by omega), (by omega)⟩ (by show 12 * (T - _) + 0 < f; have : 12 * (T - i) + 0 < f + 1 := hf; omega) (hT.fK hL kk) (a4 _ w2) (by rw [kk.2.1 5 (by omega) (by omega)]; exact h6) ?_ (fun v2 M3 c3 => hp v2 M3 (cRes.good (w := 0) kk lg2 c3 ?_))
              · rw [lgz, List.nil_append, List.length_append, show [(3008 : Int)].length = 1 from rfl]; omega
              · rw [List.nil_append, List.append_assoc]; rfl
            · omega
        · have zk : kdf b n i ≠ 12 := fun y => z (by rw [y]; rfl)
          have e : pz (kdf b n) (vlf b n) m (f + 1) 9 k i = (if kdf b n i = 12 then _ else (0, i, [])) := rfl
          rw [e, if_neg zk]
          exact ⟨fK.refl L M, fun _ => ⟨rfl, h4, cLog.refl L M⟩, fun y => absurd rfl y⟩
end CRead98
