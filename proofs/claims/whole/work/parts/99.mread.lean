/-- what reading a law leaves as it was in the reference -/
def gF (M M1 : QMem) : Prop := (∀ a, a ≠ 215 → a ≠ 219 → M1 a = M a) ∧ (∀ j, j ≠ 6 → j ≠ 7 → j ≠ 9 → j ≠ 10 → j ≠ 11 → j ≠ 12 → M1 215 j = M 215 j) ∧ ∀ j, j < 3474 → M1 219 j = M 219 j
theorem gF.refl (M : QMem) : gF M M := ⟨fun _ _ _ => rfl, fun _ _ _ _ _ _ _ => rfl, fun _ _ => rfl⟩
theorem gF.trans {M M1 M2 : QMem} (h : gF M M1) (g : gF M1 M2) : gF M M2 := ⟨fun a a0 a1 => (g.1 a a0 a1).trans (h.1 a a0 a1), fun j a0 a1 a2 a3 a4 a5 => (g.2.1 j a0 a1 a2 a3 a4 a5).trans (h.2.1 j a0 a1 a2 a3 a4 a5), fun j hj => (g.2.2 j hj).trans (h.2.2 j hj)⟩
theorem gF.nK {M M1 : QMem} (h : nK M M1) : gF M M1 := ⟨fun a a0 _ => h.1 a a0, fun j a0 a1 a2 a3 _ _ => h.2 j a0 a1 a2 a3, fun j _ => by rw [h.1 219 (by omega)]⟩
def rLog (M M1 : QMem) (l : List Int) : Prop := M1 219 3474 = M 219 3474 + l.length ∧ (∀ j, 3475 ≤ j → j < 3475 + M 219 3474 → M1 219 j = M 219 j) ∧ ∀ q : Nat, q < l.length → M1 219 (3475 + M 219 3474 + q) = l.getD q 0
theorem rLog.refl {M M1 : QMem} (h : M1 219 = M 219) : rLog M M1 [] := ⟨by rw [h]; show M 219 3474 = M 219 3474 + 0; omega, fun _ _ _ => by rw [h], fun q hq => absurd hq (by simp)⟩
theorem rLog.trans {M M1 M2 : QMem} {l r : List Int} (hz : 0 ≤ M 219 3474) (h : rLog M M1 l) (g : rLog M1 M2 r) : rLog M M2 (l ++ r) := by
  obtain ⟨h1, h2, h3⟩ := h
  obtain ⟨g1, g2, g3⟩ := g
  refine ⟨by rw [g1, h1, List.length_append]; omega, fun j j0 j1 => by rw [g2 j j0 (by omega)]; exact h2 j j0 j1, fun q hq => ?_⟩
  rw [List.length_append] at hq
  rw [getD_app]
  by_cases z : q < l.length
  · rw [if_pos z, g2 _ (by omega) (by omega)]; exact h3 q z
  · rw [if_neg z, show 3475 + M 219 3474 + (q : Int) = 3475 + M1 219 3474 + ((q - l.length : Nat) : Int) by omega]
    exact g3 _ (by omega)
def rRes (b : Int → Int) (n : Int) (M : QMem) (r : Int × Nat × List Int) (M1 : QMem) : Prop := gF M M1 ∧ (r.1 = 0 → M1 215 11 = 0 ∧ rAt b n (tpos b n r.2.1) M1 ∧ rLog M M1 r.2.2) ∧ (r.1 ≠ 0 → M1 215 11 = r.1 ∧ M1 215 12 = tS b n (tpos b n r.2.1))
section MRead99
variable {X : QX} {x : Int} {d : Nat} {post : Int → QMem → Prop} {M : QMem} {cont : Int → Int → QMem → Prop} {b : Int → Int} {n : Int} {T : Nat}
theorem rTx.gF {M M1 : QMem} (h : rTx b n M) (k : gF M M1) : rTx b n M1 := h.congr (k.2.1 8 (by omega) (by omega) (by omega) (by omega) (by omega) (by omega)) (k.1 218 (by omega) (by omega))
theorem rRes.bad {r s : Int × Nat × List Int} {M0 M1 M2 : QMem} (k : gF M0 M1) (h : rRes b n M1 r M2) (z : r.1 ≠ 0) (e : s = r) : rRes b n M0 s M2 := by
  subst e
  exact ⟨k.trans h.1, fun y => absurd y z, fun _ => h.2.2 z⟩
theorem rRes.good {r s : Int × Nat × List Int} {M0 M1 M2 : QMem} {l : List Int} (hz : 0 ≤ M0 219 3474) (k : gF M0 M1) (g : rLog M0 M1 l) (h : rRes b n M1 r M2) (e : s = (r.1, r.2.1, l ++ r.2.2)) : rRes b n M0 s M2 := by
  subst e
  exact ⟨k.trans h.1, fun y => ⟨(h.2.1 y).1, (h.2.1 y).2.1, rLog.trans hz g (h.2.1 y).2.2⟩, fun y => h.2.2 y⟩
/-- at a token, without a fault -/
def rSt (b : Int → Int) (n : Int) (i : Nat) (M : QMem) : Prop := rTx b n M ∧ rAt b n (tpos b n i) M ∧ M 215 11 = 0
def rBad (M : QMem) : Prop := M 215 11 ≠ 0 ∧ in32 (M 215 11)
variable {i : Nat}
theorem m_is (h : rSt b n i M) {k : Int} (hk : in32 k) (h1 : kdf b n i = k → post 1 M) (h0 : kdf b n i ≠ k → post 0 M) : QCm X x d 1 yX11_is [(2, 215), (0, k)] M post := by
  have kb := tKd_b b n (tpos b n i)
  refine QC.of qmX11_is_ok rfl (TX11_is_0 ⟨fun _ => ?_, fun z => absurd h.2.2 z⟩)
  rw [h.2.1.2.2.1]
  exact ⟨fun z => h1 z, fun z => ⟨(i32 (by omega) (by omega)), hk, h0 z⟩⟩
theorem s_is (h : rBad M) {k : Int} (h0 : post 0 M) : QCm X x d 1 yX11_is [(2, 215), (0, k)] M post := QC.of qmX11_is_ok rfl (TX11_is_0 ⟨fun z => absurd z h.1, fun _ => ⟨h.2, h0⟩⟩)
theorem m_step (h : rSt b n i M) (hp : ∀ M1, nK M M1 → rSt b n (i + 1) M1 → post 0 M1) : QCm X x (d + 6) 0 yX11_next [(2, 215)] M post := by
  have hn := h.1.1
  have pb := tpos_b (b := b) hn.1 (i + 1)
  refine m_next h.1 (p := tpos b n (i + 1)) h.2.1.2.1 pb (fun M1 k1 a1 => hp M1 k1 ⟨h.1.nK k1, a1, ?_⟩)
  rw [k1.2 11 (by omega) (by omega) (by omega) (by omega)]; exact h.2.2
theorem m_eats (h : rSt b n i M) {k : Int} (hk : in32 k) (h1 : kdf b n i = k → ∀ M1, nK M M1 → rSt b n (i + 1) M1 → post 1 M1) (h0 : kdf b n i ≠ k → post 0 M) : QCm X x (d + 7) 1 yX11_eats [(2, 215), (0, k)] M post :=
  QC.of qmX11_eats_ok rfl (TX11_eats_0 (m_is h hk (fun z => ⟨fun y => absurd y (by decide), fun _ => ⟨(i32 (by omega) (by omega)), m_step h (fun M1 k1 s1 => h1 z M1 k1 s1)⟩⟩) (fun z => ⟨fun _ => h0 z, fun y => absurd rfl y⟩)))
theorem s_eats (h : rBad M) {k : Int} (h0 : post 0 M) : QCm X x (d + 1) 1 yX11_eats [(2, 215), (0, k)] M post := QC.of qmX11_eats_ok rfl (TX11_eats_0 (s_is h ⟨fun _ => h0, fun y => absurd rfl y⟩))
theorem m_fails (h : rSt b n i M) {w : Int} (hw : 1 ≤ w ∧ w ≤ 4) (hp : ∀ M1, rRes b n M (pFl (kdf b n) w i) M1 → rBad M1 → post 0 M1) : QCm X x d 0 yX11_fails [(2, 215), (0, w)] M post := by
  have kb := tKd_b b n (tpos b n i)
  have go : ∀ v : Int, v = (pFl (kdf b n) w i).1 → post 0 (qup (qup M 215 11 v) 215 12 ((qup M 215 11 v) 215 6)) := fun v hv => by
    have ne : (pFl (kdf b n) w i).1 ≠ 0 ∧ in32 (pFl (kdf b n) w i).1 := by
      show (if kdf b n i = 25 then (1 : Int) else w) ≠ 0 ∧ in32 (if kdf b n i = 25 then (1 : Int) else w)
      split
      · exact ⟨by decide, ⟨by decide, by decide⟩⟩
      · exact ⟨(by omega), (i32 (by omega) (by omega))⟩
    subst hv
    have e11 : (qup (qup M 215 11 (pFl (kdf b n) w i).1) 215 12 ((qup M 215 11 (pFl (kdf b n) w i).1) 215 6)) 215 11 = (pFl (kdf b n) w i).1 := by rw [qup_at, if_neg (by decide), qup_at, if_pos rfl]
    refine hp _ ⟨⟨fun a a0 _ => by rw [qup_row a0, qup_row a0], fun j _ _ _ _ a4 a5 => by rw [qup_at, if_neg a5, qup_at, if_neg a4], fun j _ => by rw [qup_row (by decide), qup_row (by decide)]⟩, fun z => absurd z ne.1, fun _ => ⟨e11, ?_⟩⟩ ⟨by rw [e11]; exact ne.1, by rw [e11]; exact ne.2⟩
    rw [qup_at, if_pos rfl, qup_at, if_neg (by decide)]; exact h.2.1.1
  refine QC.of qmX11_fails_ok rfl (TX11_fails_0 ⟨fun _ => ?_, fun z => absurd h.2.2 z⟩)
  rw [h.2.1.2.2.1]
  refine ⟨fun z => go 1 ?_, fun z => ⟨(i32 (by omega) (by omega)), go w ?_⟩⟩
  · show (1 : Int) = if kdf b n i = 25 then 1 else w
    rw [if_pos z]
  · show w = if kdf b n i = 25 then 1 else w
    rw [if_neg z]
theorem s_fails (h : rBad M) {w : Int} (hp : post 0 M) : QCm X x d 0 yX11_fails [(2, 215), (0, w)] M post := QC.of qmX11_fails_ok rfl (TX11_fails_0 ⟨fun z => absurd z h.1, fun _ => ⟨h.2, hp⟩⟩)
theorem m_codes (h : M 215 11 = 0) (hz : 0 ≤ M 219 3474 ∧ M 219 3474 < 900) {c : Int} (hp : ∀ M1, gF M M1 → (∀ j, M1 215 j = M 215 j) → M1 218 = M 218 → rLog M M1 [c] → post 0 M1) : QCm X x d 0 yX11_codes [(2, 215), (0, c)] M post := by
  refine QC.of qmX11_codes_ok rfl (TX11_codes_0 ⟨fun _ => ⟨(by omega), (by omega), hp _ ⟨fun a _ a1 => by rw [qup_row a1, qup_row a1], fun j _ _ _ _ _ _ => by rw [qup_row (by decide), qup_row (by decide)], fun j hj => ?_⟩ (fun j => by rw [qup_row (by decide), qup_row (by decide)]) (by rw [qup_row (by decide), qup_row (by decide)]) ⟨?_, fun j j0 j1 => ?_, fun q hq => ?_⟩⟩, fun z => absurd h z⟩)
  · rw [qup_at, if_neg (by omega), qup_at, if_neg (by omega)]
  · rw [qup_at, if_pos rfl, qup_at, if_neg (by omega)]; rfl
  · rw [qup_at, if_neg (by omega), qup_at, if_neg (by omega)]
  · have : q = 0 := by have : q < 1 := hq; omega
    subst this
    rw [qup_at, if_neg (by show ¬ 3475 + M 219 3474 + 0 = 3474; omega), qup_at, if_pos (by show 3475 + M 219 3474 + 0 = 3475 + M 219 3474; omega)]; rfl
theorem s_codes (h : rBad M) {c : Int} (hp : post 0 M) : QCm X x d 0 yX11_codes [(2, 215), (0, c)] M post := QC.of qmX11_codes_ok rfl (TX11_codes_0 ⟨fun z => absurd z h.1, fun _ => ⟨h.2, hp⟩⟩)
theorem m_wordOf {k m : Int} (hk : in32 k) (h15 : M 215 15 = m) (hm : in32 m) (hp : post (pWd m k) M) : QCm X x d 1 yX11_wordOf [(2, 215), (0, k)] M post := by
  have go : ∀ V, pWd m k = V → post V M := fun V h => by rw [← h]; exact hp
  unfold pWd at go
  refine QC.of qmX11_wordOf_ok rfl (TX11_wordOf_0 ?_)
  rw [h15]
  refine ⟨hk, fun z => go 3 ?_, fun z => go (-1) ?_, fun z => go (-1) ?_, fun z => go (-1) ?_, fun z => go 2 ?_, fun z => go (-1) ?_, fun z => go 0 ?_, fun z => go 1 ?_, fun z => ⟨fun w => go 4 ?_, fun w => ⟨hm, go (-1) ?_⟩⟩, fun z => go (-1) ?_⟩
  all_goals first | (subst z; rw [w]; rfl) | (subst z; rw [if_neg (by decide), if_neg (by decide), if_neg (by decide), if_neg (by decide), if_pos rfl, if_neg w]) | (subst z; rfl) | skip
  rw [if_neg (by omega), if_neg (by omega), if_neg (by omega), if_neg (by omega), if_neg (by omega)]
/-- with a fault nothing is read -/
theorem s_readAtom (h : rBad M) {k : Int} (hp : post 0 M) : QCm X x (d + 1) 0 yX11_readAtom [(2, 215), (0, k)] M post := QC.of qmX11_readAtom_ok rfl (TX11_readAtom_0 (s_is h ⟨fun _ => ⟨fun z => absurd z h.1, fun _ => ⟨h.2, s_is h ⟨fun _ => s_fails h hp, fun z => absurd rfl z⟩⟩⟩, fun z => absurd rfl z⟩))
theorem s_rTerm (h : rBad M) {k : Int} (hp : post 0 M) : QRm X x (d + 2) qmX11_readTerm post 5 [(0, (2, 215)), (1, (0, k))] [] M := TX11_readTerm_5 (s_eats h ⟨fun _ => hp, fun z => absurd rfl z⟩)
theorem s_readTerm (h : rBad M) {k : Int} (hp : post 0 M) : QCm X x (d + 2) 0 yX11_readTerm [(2, 215), (0, k)] M post := QC.of qmX11_readTerm_ok rfl (TX11_readTerm_0 (s_readAtom h (s_rTerm h hp)))
theorem s_rSum (h : rBad M) {k : Int} (hp : post 0 M) : QRm X x (d + 3) qmX11_readSum post 5 [(0, (2, 215)), (1, (0, k))] [] M := TX11_readSum_5 (s_is h ⟨fun _ => s_is h ⟨fun _ => hp, fun z => absurd rfl z⟩, fun z => absurd rfl z⟩)
theorem s_readSum (h : rBad M) {k : Int} (hp : post 0 M) : QCm X x (d + 3) 0 yX11_readSum [(2, 215), (0, k)] M post := QC.of qmX11_readSum_ok rfl (TX11_readSum_0 (s_readTerm h (s_rSum h hp)))
theorem s_readUnit (h : rBad M) {k : Int} (hp : post 0 M) : QCm X x (d + 4) 0 yX11_readUnit [(2, 215), (0, k)] M post := QC.of qmX11_readUnit_ok rfl (TX11_readUnit_0 (s_is h ⟨fun _ => s_is h ⟨fun _ => s_readSum h (s_is h ⟨fun _ => s_is h ⟨fun _ => s_is h ⟨fun _ => s_is h ⟨fun _ => s_is h ⟨fun _ => s_fails h (s_readSum h (s_codes h hp)), fun z => absurd rfl z⟩, fun z => absurd rfl z⟩, fun z => absurd rfl z⟩, fun z => absurd rfl z⟩, fun z => absurd rfl z⟩), fun z => absurd rfl z⟩, fun z => absurd rfl z⟩))
theorem s_rBoth (h : rBad M) {k : Int} (hp : post 0 M) : QRm X x (d + 5) qmX11_readBoth post 5 [(0, (2, 215)), (1, (0, k))] [] M := TX11_readBoth_5 (s_eats h ⟨fun _ => hp, fun z => absurd rfl z⟩)
theorem s_readBoth (h : rBad M) {k : Int} (hp : post 0 M) : QCm X x (d + 5) 0 yX11_readBoth [(2, 215), (0, k)] M post := QC.of qmX11_readBoth_ok rfl (TX11_readBoth_0 (s_readUnit h (s_rBoth h hp)))
theorem s_rTruth (h : rBad M) {k : Int} (hp : post 0 M) : QRm X x (d + 6) qmX11_readTruth post 5 [(0, (2, 215)), (1, (0, k))] [] M := TX11_readTruth_5 (s_eats h ⟨fun _ => hp, fun z => absurd rfl z⟩)
theorem rRes.rBad {r : Int × Nat × List Int} {M0 M1 : QMem} (h : rRes b n M0 r M1) (z : r.1 ≠ 0) (hb : 0 ≤ r.1 ∧ r.1 ≤ 9) : rBad M1 := by
  have := (h.2.2 z).1
  show M1 215 11 ≠ 0 ∧ in32 (M1 215 11)
  rw [this]; exact ⟨z, (i32 (by omega) (by omega))⟩
theorem pFl_ne {kd : Nat → Int} {w : Int} {i : Nat} (hw : 1 ≤ w) : (pFl kd w i).1 ≠ 0 := by
  show (if kd i = 25 then (1 : Int) else w) ≠ 0
  split <;> omega
theorem pWd_b (m k : Int) : -1 ≤ pWd m k ∧ pWd m k ≤ 4 := by
  unfold pWd; repeat' split
  all_goals omega
def pDm (sel : Nat) : Nat := [8, 9, 9, 10, 10, 11, 12, 12, 13, 13].getD sel 0
def pYm (sel : Nat) : MethodName := match sel with
  | 0 => yX11_readAtom
  | 1 => yX11_readTerm
  | 3 => yX11_readSum
  | 5 => yX11_readUnit
  | 6 => yX11_readBoth
  | _ => yX11_readTruth
def pQm (sel : Nat) : QMeth := match sel with
  | 2 => qmX11_readTerm
  | 4 => qmX11_readSum
  | 7 => qmX11_readBoth
  | _ => qmX11_readTruth
theorem m_goesIn (h : rSt b n i M) {k : Nat} (hk : k ≤ 6) (h1 : k ≠ 6 → ∀ M1, nK M M1 → rSt b n (i + 1) M1 → post 1 M1) (h0 : k = 6 → ∀ M1, rRes b n M (pFl (kdf b n) 4 i) M1 → rBad M1 → post 0 M1) : QCm X x (d + 7) 1 yX11_goesIn [(2, 215), (0, (k : Int))] M post := by
  refine QC.of qmX11_goesIn_ok rfl (TX11_goesIn_0 ⟨fun z => m_fails h (by decide) (fun M1 r1 b1 => ⟨fun y => absurd y b1.1, fun _ => ⟨b1.2, fun y => absurd y b1.1, fun _ => h0 (by omega) M1 r1 b1⟩⟩), fun z => ⟨(i32 (by omega) (by omega)), fun _ => m_step h (fun M1 k1 s1 => ⟨fun _ => h1 (by omega) M1 k1 s1, fun y => absurd s1.2.2 y⟩), fun y => absurd h.2.2 y⟩⟩)
theorem m_read (X : QX) (x : Int) (hn : 0 ≤ n ∧ n ≤ 900) (hT : (T : Int) ≤ n) (tk : tkOk (kdf b n) (vlf b n) T) (m : Int) (hm : in32 m) : ∀ f : Nat,
    (∀ sel : Nat, sel = 0 ∨ sel = 1 ∨ sel = 3 ∨ sel = 5 ∨ sel = 6 ∨ sel = 8 → ∀ (d k i : Nat) (M : QMem) (post : Int → QMem → Prop), k ≤ 6 → i ≤ T → 12 * (T - i) + pRk sel < f → rSt b n i M → M 215 15 = m → (0 ≤ M 219 3474 ∧ M 219 3474 ≤ i) → (∀ M1, rRes b n M (pz (kdf b n) (vlf b n) m f sel k i) M1 → post 0 M1) → QCm X x (d + 3 * (6 - k) + pDm sel) 0 (pYm sel) [(2, 215), (0, (k : Int))] M post) ∧
    (∀ sel : Nat, sel = 2 ∨ sel = 4 ∨ sel = 7 ∨ sel = 9 → ∀ (d k i : Nat) (M : QMem) (post : Int → QMem → Prop), k ≤ 6 → i ≤ T → 12 * (T - i) + pRk sel < f → rSt b n i M → M 215 15 = m → (0 ≤ M 219 3474 ∧ M 219 3474 ≤ i) → (∀ M1, rRes b n M (pz (kdf b n) (vlf b n) m f sel k i) M1 → post 0 M1) → QRm X x (d + 3 * (6 - k) + pDm sel) (pQm sel) post 5 [(0, (2, 215)), (1, (0, (k : Int)))] [] M) := by
  intro f
  induction f with
  | zero => exact ⟨fun sel _ d k i M post _ _ hf => absurd hf (by omega), fun sel _ d k i M post _ _ hf => absurd hf (by omega)⟩
  | succ f ih =>
    obtain ⟨ihA, ihB⟩ := ih
    have okz : ∀ (sel k i : Nat), sel ≤ 9 → i ≤ T → 12 * (T - i) + pRk sel < f → 0 ≤ (pz (kdf b n) (vlf b n) m f sel k i).1 ∧ (pz (kdf b n) (vlf b n) m f sel k i).1 ≤ 9 := fun sel k i hs hi hf => by
      rcases pz_res (m := m) tk f sel k i hs hi hf with r | r
      · omega
      · omega
    -- the state behind an answer
    have ok : ∀ {M0 M1 : QMem} {r : Int × Nat × List Int}, rTx b n M0 → rRes b n M0 r M1 → r.1 = 0 → rSt b n r.2.1 M1 := fun t0 h z => ⟨t0.gF h.1, (h.2.1 z).2.1, (h.2.1 z).1⟩
    refine ⟨?_, ?_⟩
    · intro sel hs d k i M post hk hi hf hS h15 hz hp
      have hcase : sel = 0 ∨ sel = 1 ∨ sel = 3 ∨ sel = 5 ∨ sel = 6 ∨ sel = 8 := hs
      rcases hcase with rfl | rfl | rfl | rfl | rfl | rfl
      · -- atom
        have hf' : 12 * (T - i) + 1 < f + 1 := hf
        have e : pz (kdf b n) (vlf b n) m (f + 1) 0 k i = (if kdf b n i = 23 then (0, i + 1, [vlf b n i]) else if pWd m (kdf b n i) ≠ -1 then (0, i + 1, [1000 + pWd m (kdf b n i)]) else if kdf b n i = 35 then (if k = 6 then pFl (kdf b n) 4 i else (if (pz (kdf b n) (vlf b n) m f 3 (k + 1) (i + 1)).1 ≠ 0 then pz (kdf b n) (vlf b n) m f 3 (k + 1) (i + 1) else if kdf b n (pz (kdf b n) (vlf b n) m f 3 (k + 1) (i + 1)).2.1 = 36 then (0, (pz (kdf b n) (vlf b n) m f 3 (k + 1) (i + 1)).2.1 + 1, (pz (kdf b n) (vlf b n) m f 3 (k + 1) (i + 1)).2.2) else pFl (kdf b n) 2 (pz (kdf b n) (vlf b n) m f 3 (k + 1) (i + 1)).2.1)) else pFl (kdf b n) 2 i) := rfl
        rw [e] at hp
        clear e
        have kb : 0 ≤ kdf b n i ∧ kdf b n i ≤ 41 := tKd_b b n (tpos b n i)
        have part : ∀ p : Int, i < T → (∀ M1, rRes b n M (0, i + 1, [p]) M1 → post 0 M1) → QCm X x (d + 3 * (6 - k) + 7) 0 yX11_codes [(2, 215), (0, p)] M (fun _ M10 => QCm X x (d + 3 * (6 - k) + 7) 0 yX11_next [(2, 215)] M10 (fun _ M11 => post 0 M11)) := fun p hl hp' => by
          refine m_codes hS.2.2 ⟨hz.1, (by omega)⟩ (fun M1 g1 e1 e18 l1 => ?_)
          have s1 : rSt b n i M1 := ⟨hS.1.congr (e1 8) e18, ⟨by rw [e1]; exact hS.2.1.1, by rw [e1]; exact hS.2.1.2.1, by rw [e1]; exact hS.2.1.2.2.1, fun w => by rw [e1]; exact hS.2.1.2.2.2 w⟩, by rw [e1]; exact hS.2.2⟩
          refine m_step (d := d + 3 * (6 - k) + 1) s1 (fun M2 k2 s2 => hp' M2 ⟨g1.trans (gF.nK k2), fun _ => ⟨s2.2.2, s2.2.1, ?_⟩, fun y => absurd rfl y⟩)
          have := rLog.trans hz.1 l1 (rLog.refl (k2.1 219 (by omega)))
          rw [List.append_nil] at this; exact this
        refine QC.of qmX11_readAtom_ok rfl (TX11_readAtom_0 (m_is hS ⟨by decide, by decide⟩ (fun z => ⟨fun y => absurd y (by decide), fun _ => ⟨(i32 (by omega) (by omega)), ?_⟩⟩) (fun z => ⟨fun _ => ⟨fun _ => ?_, fun y => absurd hS.2.2 y⟩, fun y => absurd rfl y⟩)))
        · rw [if_pos z] at hp
          rw [hS.2.1.2.2.2 z]
          exact part _ (tk.lt hi (by rw [z]; decide) (by rw [z]; decide)) hp
        · rw [if_neg z] at hp
          have h9 : M 215 9 = kdf b n i := hS.2.1.2.2.1
          rw [h9]
          refine m_wordOf (i32 (by omega) (by omega)) h15 hm ⟨fun y => ?_, fun y => ⟨?_, ?_⟩⟩
          · rw [if_neg (fun u => u y)] at hp
            refine m_is hS ⟨by decide, by decide⟩ (fun zk => ⟨fun u => absurd u (by decide), fun _ => ⟨(i32 (by omega) (by omega)), ?_⟩⟩) (fun zk => ⟨fun _ => m_fails hS (by decide) (fun M1 r1 _ => hp M1 ?_), fun u => absurd rfl u⟩)
            · rw [if_pos zk] at hp
              have hl := tk.lt hi (by rw [zk]; decide) (by rw [zk]; decide)
              refine m_goesIn (d := d + 3 * (6 - k)) hS hk (fun k6 M1 k1 s1 => ⟨fun u => absurd u (by decide), fun _ => ⟨(i32 (by omega) (by omega)), ?_⟩⟩) (fun k6 M1 r1 _ => ⟨fun _ => hp M1 ?_, fun u => absurd rfl u⟩)
              · rw [if_neg k6] at hp
                have hr := pz_res (m := m) tk f 3 (k + 1) (i + 1) (by decide) hl (by show 12 * (T - (i + 1)) + 3 < f; omega)
                have g1 : gF M M1 := gF.nK k1
                have n219 : M1 219 = M 219 := k1.1 219 (by omega)
                have l1 : rLog M M1 [] := rLog.refl n219
                have dp : d + 3 * (6 - k) + 7 = d + 3 * (6 - (k + 1)) + 10 := by omega
                have AA := ihA 3 (by omega) d (k + 1) (i + 1) M1 (fun _ M6 => QCm X x (d + 3 * (6 - k) + 7) 1 yX11_eats [(2, 215), (0, 36)] M6 (fun x7 M7 => (x7 = 0 → (QCm X x (d + 3 * (6 - k) + 7) 0 yX11_fails [(2, 215), (0, 2)] M7 (fun _ M8 => post 0 M8))) ∧ (¬ x7 = 0 → in32 x7 ∧ (post 0 M7)))) (by omega) hl (by show 12 * (T - (i + 1)) + 3 < f; omega) s1 (by rw [k1.2 15 (by omega) (by omega) (by omega) (by omega)]; exact h15) (by rw [n219]; omega) (fun M2 c2 => ?_)
                · have A' : QCm X x (d + 3 * (6 - (k + 1)) + 10) 0 yX11_readSum [(2, 215), (0, ((k + 1 : Nat) : Int))] M1 _ := AA
                  rw [← dp] at A'
                  exact A'
                · by_cases z1 : (pz (kdf b n) (vlf b n) m f 3 (k + 1) (i + 1)).1 ≠ 0
                  · rw [if_pos z1] at hp
                    have bd := c2.rBad z1 (okz 3 (k + 1) (i + 1) (by decide) hl (by show 12 * (T - (i + 1)) + 3 < f; omega))
                    exact s_eats (d := d + 3 * (6 - k) + 6) bd ⟨fun _ => s_fails bd (hp M2 (c2.bad g1 z1 rfl)), fun u => absurd rfl u⟩
                  · have z2 : (pz (kdf b n) (vlf b n) m f 3 (k + 1) (i + 1)).1 = 0 := Classical.byContradiction z1
                    rw [if_neg z1] at hp
                    have st := ok s1.1 c2 z2
                    have lg := (c2.2.1 z2).2.2
                    refine m_eats (d := d + 3 * (6 - k)) st ⟨by decide, by decide⟩ (fun u M3 k3 s3 => ⟨fun w => absurd w (by decide), fun _ => ⟨(i32 (by omega) (by omega)), hp M3 ?_⟩⟩) (fun u => ⟨fun _ => m_fails st (by decide) (fun M3 r3 _ => hp M3 ?_), fun w => absurd rfl w⟩)
                    · rw [if_pos u]
                      refine ⟨(g1.trans c2.1).trans (gF.nK k3), fun _ => ⟨s3.2.2, s3.2.1, ?_⟩, fun w => absurd rfl w⟩
                      have := rLog.trans hz.1 (rLog.trans hz.1 l1 lg) (rLog.refl (k3.1 219 (by omega)))
                      rw [List.nil_append, List.append_nil] at this; exact this
                    · rw [if_neg u]
                      exact r3.bad (g1.trans c2.1) (pFl_ne (by decide)) rfl
              · rw [if_pos k6]; exact r1
            · rw [if_neg zk]; exact r1
          · have : pWd m (kdf b n i) ≠ -1 := y
            have wb := pWd_b m (kdf b n i)
            exact (i32 (by omega) (by omega))
          · rw [if_pos y] at hp
            have hl := tk.lt hi (fun u => y (by rw [u]; rfl)) (fun u => y (by rw [u]; rfl))
            rw [h9]
            exact m_wordOf (i32 (by omega) (by omega)) h15 hm (part _ hl hp)
      · -- readTerm
        have hf' : 12 * (T - i) + 2 < f + 1 := hf
        have hr := pz_res (m := m) tk f 0 k i (by decide) hi (by show 12 * (T - i) + 1 < f; omega)
        have e : pz (kdf b n) (vlf b n) m (f + 1) 1 k i = (if (pz (kdf b n) (vlf b n) m f 0 k i).1 ≠ 0 then pz (kdf b n) (vlf b n) m f 0 k i else ((pz (kdf b n) (vlf b n) m f 2 k (pz (kdf b n) (vlf b n) m f 0 k i).2.1).1, (pz (kdf b n) (vlf b n) m f 2 k (pz (kdf b n) (vlf b n) m f 0 k i).2.1).2.1, (pz (kdf b n) (vlf b n) m f 0 k i).2.2 ++ (pz (kdf b n) (vlf b n) m f 2 k (pz (kdf b n) (vlf b n) m f 0 k i).2.1).2.2)) := rfl
        rw [e] at hp
        refine QC.of qmX11_readTerm_ok rfl (TX11_readTerm_0 (ihA 0 (by omega) d k i M _ hk hi (by show 12 * (T - i) + 1 < f; omega) hS h15 hz (fun M1 c1 => ?_)))
        by_cases z1 : (pz (kdf b n) (vlf b n) m f 0 k i).1 ≠ 0
        · rw [if_pos z1] at hp
          have bd := c1.rBad z1 (okz 0 k i (by decide) hi (by show 12 * (T - i) + 1 < f; omega))
          exact s_rTerm (d := _) bd (hp M1 (c1.bad (gF.refl M) z1 rfl))
        · have z2 : (pz (kdf b n) (vlf b n) m f 0 k i).1 = 0 := Classical.byContradiction z1
          rw [if_neg z1] at hp
          have st := ok hS.1 c1 z2
          have lg := (c1.2.1 z2).2.2
          have lz := lg.1
          rcases hr with ⟨_, r2, r3, r4⟩ | ⟨r1, _⟩
          · have r2' : i + 1 ≤ (pz (kdf b n) (vlf b n) m f 0 k i).2.1 := r2
            exact ihB 2 (by omega) d k _ M1 _ hk r3 (by show 12 * (T - _) + 0 < f; omega) st (by rw [c1.1.2.1 15 (by omega) (by omega) (by omega) (by omega) (by omega) (by omega)]; exact h15) (by rw [lz]; omega) (fun M2 c2 => hp M2 (rRes.good hz.1 c1.1 lg c2 rfl))
          · omega
      · -- readSum
        have hf' : 12 * (T - i) + 3 < f + 1 := hf
        have hr := pz_res (m := m) tk f 1 k i (by decide) hi (by show 12 * (T - i) + 2 < f; omega)
        have e : pz (kdf b n) (vlf b n) m (f + 1) 3 k i = (if (pz (kdf b n) (vlf b n) m f 1 k i).1 ≠ 0 then pz (kdf b n) (vlf b n) m f 1 k i else ((pz (kdf b n) (vlf b n) m f 4 k (pz (kdf b n) (vlf b n) m f 1 k i).2.1).1, (pz (kdf b n) (vlf b n) m f 4 k (pz (kdf b n) (vlf b n) m f 1 k i).2.1).2.1, (pz (kdf b n) (vlf b n) m f 1 k i).2.2 ++ (pz (kdf b n) (vlf b n) m f 4 k (pz (kdf b n) (vlf b n) m f 1 k i).2.1).2.2)) := rfl
        rw [e] at hp
        refine QC.of qmX11_readSum_ok rfl (TX11_readSum_0 (ihA 1 (by omega) d k i M _ hk hi (by show 12 * (T - i) + 2 < f; omega) hS h15 hz (fun M1 c1 => ?_)))
        by_cases z1 : (pz (kdf b n) (vlf b n) m f 1 k i).1 ≠ 0
        · rw [if_pos z1] at hp
          have bd := c1.rBad z1 (okz 1 k i (by decide) hi (by show 12 * (T - i) + 2 < f; omega))
          exact s_rSum (d := _) bd (hp M1 (c1.bad (gF.refl M) z1 rfl))
        · have z2 : (pz (kdf b n) (vlf b n) m f 1 k i).1 = 0 := Classical.byContradiction z1
          rw [if_neg z1] at hp
          have st := ok hS.1 c1 z2
          have lg := (c1.2.1 z2).2.2
          have lz := lg.1
          rcases hr with ⟨_, r2, r3, r4⟩ | ⟨r1, _⟩
          · have r2' : i + 1 ≤ (pz (kdf b n) (vlf b n) m f 1 k i).2.1 := r2
            exact ihB 4 (by omega) d k _ M1 _ hk r3 (by show 12 * (T - _) + 0 < f; omega) st (by rw [c1.1.2.1 15 (by omega) (by omega) (by omega) (by omega) (by omega) (by omega)]; exact h15) (by rw [lz]; omega) (fun M2 c2 => hp M2 (rRes.good hz.1 c1.1 lg c2 rfl))
          · omega
      · -- unit
        have hf' : 12 * (T - i) + 4 < f + 1 := hf
        have e : pz (kdf b n) (vlf b n) m (f + 1) 5 k i = (if kdf b n i = 13 then (if k = 6 then pFl (kdf b n) 4 i else (if (pz (kdf b n) (vlf b n) m f 5 (k + 1) (i + 1)).1 ≠ 0 then pz (kdf b n) (vlf b n) m f 5 (k + 1) (i + 1) else (0, (pz (kdf b n) (vlf b n) m f 5 (k + 1) (i + 1)).2.1, (pz (kdf b n) (vlf b n) m f 5 (k + 1) (i + 1)).2.2 ++ [3006]))) else if kdf b n i = 37 then (if k = 6 then pFl (kdf b n) 4 i else (if (pz (kdf b n) (vlf b n) m f 8 (k + 1) (i + 1)).1 ≠ 0 then pz (kdf b n) (vlf b n) m f 8 (k + 1) (i + 1) else if kdf b n (pz (kdf b n) (vlf b n) m f 8 (k + 1) (i + 1)).2.1 = 38 then (0, (pz (kdf b n) (vlf b n) m f 8 (k + 1) (i + 1)).2.1 + 1, (pz (kdf b n) (vlf b n) m f 8 (k + 1) (i + 1)).2.2) else pFl (kdf b n) 2 (pz (kdf b n) (vlf b n) m f 8 (k + 1) (i + 1)).2.1)) else (if (pz (kdf b n) (vlf b n) m f 3 k i).1 ≠ 0 then pz (kdf b n) (vlf b n) m f 3 k i else if kdf b n (pz (kdf b n) (vlf b n) m f 3 k i).2.1 = 39 ∨ kdf b n (pz (kdf b n) (vlf b n) m f 3 k i).2.1 = 40 ∨ kdf b n (pz (kdf b n) (vlf b n) m f 3 k i).2.1 = 41 then (if (pz (kdf b n) (vlf b n) m f 3 k ((pz (kdf b n) (vlf b n) m f 3 k i).2.1 + 1)).1 ≠ 0 then pz (kdf b n) (vlf b n) m f 3 k ((pz (kdf b n) (vlf b n) m f 3 k i).2.1 + 1) else (0, (pz (kdf b n) (vlf b n) m f 3 k ((pz (kdf b n) (vlf b n) m f 3 k i).2.1 + 1)).2.1, (pz (kdf b n) (vlf b n) m f 3 k i).2.2 ++ (pz (kdf b n) (vlf b n) m f 3 k ((pz (kdf b n) (vlf b n) m f 3 k i).2.1 + 1)).2.2 ++ [kdf b n (pz (kdf b n) (vlf b n) m f 3 k i).2.1 - 39 + 3003])) else pFl (kdf b n) 2 (pz (kdf b n) (vlf b n) m f 3 k i).2.1)) := rfl
        rw [e] at hp
        clear e
        refine QC.of qmX11_readUnit_ok rfl (TX11_readUnit_0 (m_is hS ⟨by decide, by decide⟩ (fun z => ⟨fun y => absurd y (by decide), fun _ => ⟨(i32 (by omega) (by omega)), m_goesIn (d := d + 3 * (6 - k) + 3) hS hk (fun k6 M1 k1 s1 => ⟨fun u => absurd u (by decide), fun _ => ⟨(i32 (by omega) (by omega)), ?_⟩⟩) (fun k6 M1 r1 _ => ⟨fun _ => hp M1 ?_, fun u => absurd rfl u⟩)⟩⟩) (fun z => ⟨fun _ => m_is hS ⟨by decide, by decide⟩ (fun w => ⟨fun y => absurd y (by decide), fun _ => ⟨(i32 (by omega) (by omega)), m_goesIn (d := d + 3 * (6 - k) + 3) hS hk (fun k6 M1 k1 s1 => ⟨fun u => absurd u (by decide), fun _ => ⟨(i32 (by omega) (by omega)), ?_⟩⟩) (fun k6 M1 r1 _ => ⟨fun _ => hp M1 ?_, fun u => absurd rfl u⟩)⟩⟩) (fun w => ⟨fun _ => ?_, fun y => absurd rfl y⟩), fun y => absurd rfl y⟩)))
        · -- not
          have hl := tk.lt hi (by rw [z]; decide) (by rw [z]; decide)
          rw [if_pos z, if_neg k6] at hp
          have hr := pz_res (m := m) tk f 5 (k + 1) (i + 1) (by decide) hl (by show 12 * (T - (i + 1)) + 4 < f; omega)
          have g1 : gF M M1 := gF.nK k1
          have n219 : M1 219 = M 219 := k1.1 219 (by omega)
          have l1 : rLog M M1 [] := rLog.refl n219
          have dq : d + 3 * (6 - k) + 10 = (d + 2) + 3 * (6 - (k + 1)) + 11 := by omega
          have A := ihA 5 (by omega) (d + 2) (k + 1) (i + 1) M1 (fun _ M6 => QCm X x (d + 3 * (6 - k) + 10) 0 yX11_codes [(2, 215), (0, 3006)] M6 (fun _ M7 => post 0 M7)) (by omega) hl (by show 12 * (T - (i + 1)) + 4 < f; omega) s1 (by rw [k1.2 15 (by omega) (by omega) (by omega) (by omega)]; exact h15) (by rw [n219]; omega) (fun M2 c2 => ?_)
          · have A' : QCm X x ((d + 2) + 3 * (6 - (k + 1)) + 11) 0 yX11_readUnit [(2, 215), (0, ((k + 1 : Nat) : Int))] M1 _ := A
            rw [← dq] at A'
            exact A'
          · by_cases z1 : (pz (kdf b n) (vlf b n) m f 5 (k + 1) (i + 1)).1 ≠ 0
            · rw [if_pos z1] at hp
              have bd := c2.rBad z1 (okz 5 (k + 1) (i + 1) (by decide) hl (by show 12 * (T - (i + 1)) + 4 < f; omega))
              exact s_codes bd (hp M2 (c2.bad g1 z1 rfl))
            · have z2 : (pz (kdf b n) (vlf b n) m f 5 (k + 1) (i + 1)).1 = 0 := Classical.byContradiction z1
              rw [if_neg z1] at hp
              have st := ok s1.1 c2 z2
              have lg := (c2.2.1 z2).2.2
              have lz := lg.1
              rw [n219] at lz
              rcases hr with ⟨_, r2, r3, r4⟩ | ⟨r1, _⟩
              · have r2' : i + 1 + 1 ≤ (pz (kdf b n) (vlf b n) m f 5 (k + 1) (i + 1)).2.1 := r2
                refine m_codes st.2.2 (by rw [lz]; omega) (fun M3 g3 e3 e18 l3 => hp M3 ⟨(g1.trans c2.1).trans g3, fun _ => ⟨by rw [e3]; exact st.2.2, ⟨by rw [e3]; exact st.2.1.1, by rw [e3]; exact st.2.1.2.1, by rw [e3]; exact st.2.1.2.2.1, fun w => by rw [e3]; exact st.2.1.2.2.2 w⟩, ?_⟩, fun q => absurd rfl q⟩)
                have := rLog.trans hz.1 (rLog.trans hz.1 l1 lg) l3
                rw [List.nil_append] at this; exact this
              · omega
        · rw [if_pos z, if_pos k6]; exact r1
        · -- a bracket
          have hl := tk.lt hi (by rw [w]; decide) (by rw [w]; decide)
          rw [if_neg z, if_pos w, if_neg k6] at hp
          have hr := pz_res (m := m) tk f 8 (k + 1) (i + 1) (by decide) hl (by show 12 * (T - (i + 1)) + 6 < f; omega)
          have g1 : gF M M1 := gF.nK k1
          have n219 : M1 219 = M 219 := k1.1 219 (by omega)
          have l1 : rLog M M1 [] := rLog.refl n219
          have dq : d + 3 * (6 - k) + 10 = d + 3 * (6 - (k + 1)) + 13 := by omega
          have A := ihA 8 (by omega) d (k + 1) (i + 1) M1 (fun _ M6 => QCm X x (d + 3 * (6 - k) + 10) 1 yX11_eats [(2, 215), (0, 38)] M6 (fun x7 M7 => (x7 = 0 → (QCm X x (d + 3 * (6 - k) + 10) 0 yX11_fails [(2, 215), (0, 2)] M7 (fun _ M8 => post 0 M8))) ∧ (¬ x7 = 0 → in32 x7 ∧ (post 0 M7)))) (by omega) hl (by show 12 * (T - (i + 1)) + 6 < f; omega) s1 (by rw [k1.2 15 (by omega) (by omega) (by omega) (by omega)]; exact h15) (by rw [n219]; omega) (fun M2 c2 => ?_)
          · have A' : QCm X x (d + 3 * (6 - (k + 1)) + 13) 0 yX11_readTruth [(2, 215), (0, ((k + 1 : Nat) : Int))] M1 _ := A
            rw [← dq] at A'
            exact A'
          · by_cases z1 : (pz (kdf b n) (vlf b n) m f 8 (k + 1) (i + 1)).1 ≠ 0
            · rw [if_pos z1] at hp
              have bd := c2.rBad z1 (okz 8 (k + 1) (i + 1) (by decide) hl (by show 12 * (T - (i + 1)) + 6 < f; omega))
              exact s_eats (d := d + 3 * (6 - k) + 9) bd ⟨fun _ => s_fails bd (hp M2 (c2.bad g1 z1 rfl)), fun u => absurd rfl u⟩
            · have z2 : (pz (kdf b n) (vlf b n) m f 8 (k + 1) (i + 1)).1 = 0 := Classical.byContradiction z1
              rw [if_neg z1] at hp
              have st := ok s1.1 c2 z2
              have lg := (c2.2.1 z2).2.2
              refine m_eats (d := d + 3 * (6 - k) + 3) st ⟨by decide, by decide⟩ (fun u M3 k3 s3 => ⟨fun w => absurd w (by decide), fun _ => ⟨(i32 (by omega) (by omega)), hp M3 ?_⟩⟩) (fun u => ⟨fun _ => m_fails st (by decide) (fun M3 r3 _ => hp M3 ?_), fun w => absurd rfl w⟩)
              · rw [if_pos u]
                refine ⟨(g1.trans c2.1).trans (gF.nK k3), fun _ => ⟨s3.2.2, s3.2.1, ?_⟩, fun w => absurd rfl w⟩
                have := rLog.trans hz.1 (rLog.trans hz.1 l1 lg) (rLog.refl (k3.1 219 (by omega)))
                rw [List.nil_append, List.append_nil] at this; exact this
              · rw [if_neg u]
                exact r3.bad (g1.trans c2.1) (pFl_ne (by decide)) rfl
        · rw [if_neg z, if_pos w, if_pos k6]; exact r1
        · -- a comparison
          rw [if_neg z, if_neg w] at hp
          have hr := pz_res (m := m) tk f 3 k i (by decide) hi (by show 12 * (T - i) + 3 < f; omega)
          refine ihA 3 (by omega) d k i M _ hk hi (by show 12 * (T - i) + 3 < f; omega) hS h15 hz (fun M1 c1 => ?_)
          by_cases z1 : (pz (kdf b n) (vlf b n) m f 3 k i).1 ≠ 0
          · rw [if_pos z1] at hp
            have bd := c1.rBad z1 (okz 3 k i (by decide) hi (by show 12 * (T - i) + 3 < f; omega))
            have hpp := hp M1 (c1.bad (gF.refl M) z1 rfl)
            exact s_is bd ⟨fun _ => s_is bd ⟨fun _ => s_is bd ⟨fun _ => s_is bd ⟨fun _ => s_is bd ⟨fun _ => s_fails bd (s_readSum (d := _) bd (s_codes bd hpp)), fun z => absurd rfl z⟩, fun z => absurd rfl z⟩, fun z => absurd rfl z⟩, fun z => absurd rfl z⟩, fun z => absurd rfl z⟩
          have z3 : (pz (kdf b n) (vlf b n) m f 3 k i).1 = 0 := Classical.byContradiction z1
          rw [if_neg z1] at hp
          have st := ok hS.1 c1 z3
          have lg := (c1.2.1 z3).2.2
          have lz := lg.1
          rcases hr with ⟨_, r2, r3, r4⟩ | ⟨r1, _⟩
          rotate_left
          · omega
          generalize pz (kdf b n) (vlf b n) m f 3 k i = r at *
          have r2' : i + 1 ≤ r.2.1 := r2
          have sgn : ∀ (kk code : Int), kdf b n r.2.1 = kk → (kk = 39 ∨ kk = 40 ∨ kk = 41) → code = kk - 39 + 3003 → QCm X x (d + 3 * (6 - k) + 10) 0 yX11_next [(2, 215)] M1 (fun _ M15 => QCm X x (d + 3 * (6 - k) + 10) 0 yX11_readSum [(2, 215), (0, (k : Int))] M15 (fun _ M16 => QCm X x (d + 3 * (6 - k) + 10) 0 yX11_codes [(2, 215), (0, code)] M16 (fun _ M17 => post 0 M17))) := by
            intro kk code hkk kc ecode
            have hl := tk.lt r3 (by rw [hkk]; omega) (by rw [hkk]; omega)
            rw [if_pos (by rw [hkk]; exact kc)] at hp
            have hs := pz_res (m := m) tk f 3 k (r.2.1 + 1) (by decide) hl (by show 12 * (T - (r.2.1 + 1)) + 3 < f; omega)
            refine m_step (d := d + 3 * (6 - k) + 4) st (fun M2 k2 s2 => ?_)
            have g2 : gF M M2 := c1.1.trans (gF.nK k2)
            have n219 : M2 219 = M1 219 := k2.1 219 (by omega)
            have l2 := rLog.trans hz.1 lg (rLog.refl n219)
            rw [List.append_nil] at l2
            refine ihA 3 (by omega) d k (r.2.1 + 1) M2 _ hk hl (by show 12 * (T - (r.2.1 + 1)) + 3 < f; omega) s2 (by rw [g2.2.1 15 (by omega) (by omega) (by omega) (by omega) (by omega) (by omega)]; exact h15) (by rw [n219, lz]; omega) (fun M3 c3 => ?_)
            by_cases z4 : (pz (kdf b n) (vlf b n) m f 3 k (r.2.1 + 1)).1 ≠ 0
            · rw [if_pos z4] at hp
              have bd := c3.rBad z4 (okz 3 k (r.2.1 + 1) (by decide) hl (by show 12 * (T - (r.2.1 + 1)) + 3 < f; omega))
              exact s_codes bd (hp M3 (c3.bad g2 z4 rfl))
            · have z5 : (pz (kdf b n) (vlf b n) m f 3 k (r.2.1 + 1)).1 = 0 := Classical.byContradiction z4
              rw [if_neg z4] at hp
              have st3 := ok s2.1 c3 z5
              have lg3 := (c3.2.1 z5).2.2
              have lz3 := lg3.1
              rcases hs with ⟨_, s2', s3, s4⟩ | ⟨s1, _⟩
              · have s2'' : r.2.1 + 1 + 1 ≤ (pz (kdf b n) (vlf b n) m f 3 k (r.2.1 + 1)).2.1 := s2'
                rw [n219, lz] at lz3
                refine m_codes st3.2.2 (by rw [lz3]; omega) (fun M4 g4 e4 e18 l4 => hp M4 ⟨(g2.trans c3.1).trans g4, fun _ => ⟨by rw [e4]; exact st3.2.2, ⟨by rw [e4]; exact st3.2.1.1, by rw [e4]; exact st3.2.1.2.1, by rw [e4]; exact st3.2.1.2.2.1, fun w => by rw [e4]; exact st3.2.1.2.2.2 w⟩, ?_⟩, fun q => absurd rfl q⟩)
                rw [hkk, ← ecode]
                exact rLog.trans hz.1 (rLog.trans hz.1 l2 lg3) l4
              · omega
          have q39 : in32 (39 : Int) := ⟨by decide, by decide⟩
          have q40 : in32 (40 : Int) := ⟨by decide, by decide⟩
          have q41 : in32 (41 : Int) := ⟨by decide, by decide⟩
          by_cases u : kdf b n r.2.1 = 39
          · exact m_is st q39 (fun _ => ⟨fun y => absurd y (by decide), fun _ => ⟨(i32 (by omega) (by omega)), m_is st q39 (fun _ => ⟨fun y => absurd y (by decide), fun _ => ⟨(i32 (by omega) (by omega)), sgn 39 3003 u (by omega) rfl⟩⟩) (fun y => absurd u y)⟩⟩) (fun y => absurd u y)
          by_cases u2 : kdf b n r.2.1 = 40
          · exact m_is st q39 (fun y => absurd y u) (fun _ => ⟨fun _ => m_is st q40 (fun _ => ⟨fun y => absurd y (by decide), fun _ => ⟨(i32 (by omega) (by omega)), m_is st q39 (fun y => absurd y u) (fun _ => ⟨fun _ => m_is st q40 (fun _ => ⟨fun y => absurd y (by decide), fun _ => ⟨(i32 (by omega) (by omega)), sgn 40 3004 u2 (by omega) rfl⟩⟩) (fun y => absurd u2 y), fun y => absurd rfl y⟩)⟩⟩) (fun y => absurd u2 y), fun y => absurd rfl y⟩)
          refine m_is st q39 (fun y => absurd y u) (fun _ => ⟨fun _ => m_is st q40 (fun y => absurd y u2) (fun _ => ⟨fun _ => m_is st q39 (fun y => absurd y u) (fun _ => ⟨fun _ => m_is st q40 (fun y => absurd y u2) (fun _ => ⟨fun _ => m_is st q41 (fun u3 => ⟨fun y => absurd y (by decide), fun _ => ⟨(i32 (by omega) (by omega)), sgn 41 3005 u3 (by omega) rfl⟩⟩) (fun u3 => ⟨fun _ => m_fails st (by decide) (fun M2 r2 bd => s_readSum (d := _) bd (s_codes bd (hp M2 ?_))), fun y => absurd rfl y⟩), fun y => absurd rfl y⟩), fun y => absurd rfl y⟩), fun y => absurd rfl y⟩), fun y => absurd rfl y⟩)
          rw [if_neg (by omega)]
          exact r2.bad c1.1 (pFl_ne (by decide)) rfl
      · -- readBoth
        have hf' : 12 * (T - i) + 5 < f + 1 := hf
        have hr := pz_res (m := m) tk f 5 k i (by decide) hi (by show 12 * (T - i) + 4 < f; omega)
        have e : pz (kdf b n) (vlf b n) m (f + 1) 6 k i = (if (pz (kdf b n) (vlf b n) m f 5 k i).1 ≠ 0 then pz (kdf b n) (vlf b n) m f 5 k i else ((pz (kdf b n) (vlf b n) m f 7 k (pz (kdf b n) (vlf b n) m f 5 k i).2.1).1, (pz (kdf b n) (vlf b n) m f 7 k (pz (kdf b n) (vlf b n) m f 5 k i).2.1).2.1, (pz (kdf b n) (vlf b n) m f 5 k i).2.2 ++ (pz (kdf b n) (vlf b n) m f 7 k (pz (kdf b n) (vlf b n) m f 5 k i).2.1).2.2)) := rfl
        rw [e] at hp
        refine QC.of qmX11_readBoth_ok rfl (TX11_readBoth_0 (ihA 5 (by omega) d k i M _ hk hi (by show 12 * (T - i) + 4 < f; omega) hS h15 hz (fun M1 c1 => ?_)))
        by_cases z1 : (pz (kdf b n) (vlf b n) m f 5 k i).1 ≠ 0
        · rw [if_pos z1] at hp
          have bd := c1.rBad z1 (okz 5 k i (by decide) hi (by show 12 * (T - i) + 4 < f; omega))
          exact s_rBoth (d := _) bd (hp M1 (c1.bad (gF.refl M) z1 rfl))
        · have z2 : (pz (kdf b n) (vlf b n) m f 5 k i).1 = 0 := Classical.byContradiction z1
          rw [if_neg z1] at hp
          have st := ok hS.1 c1 z2
          have lg := (c1.2.1 z2).2.2
          have lz := lg.1
          rcases hr with ⟨_, r2, r3, r4⟩ | ⟨r1, _⟩
          · have r2' : i + 1 ≤ (pz (kdf b n) (vlf b n) m f 5 k i).2.1 := r2
            exact ihB 7 (by omega) d k _ M1 _ hk r3 (by show 12 * (T - _) + 0 < f; omega) st (by rw [c1.1.2.1 15 (by omega) (by omega) (by omega) (by omega) (by omega) (by omega)]; exact h15) (by rw [lz]; omega) (fun M2 c2 => hp M2 (rRes.good hz.1 c1.1 lg c2 rfl))
          · omega
      · -- readTruth
        have hf' : 12 * (T - i) + 6 < f + 1 := hf
        have hr := pz_res (m := m) tk f 6 k i (by decide) hi (by show 12 * (T - i) + 5 < f; omega)
        have e : pz (kdf b n) (vlf b n) m (f + 1) 8 k i = (if (pz (kdf b n) (vlf b n) m f 6 k i).1 ≠ 0 then pz (kdf b n) (vlf b n) m f 6 k i else ((pz (kdf b n) (vlf b n) m f 9 k (pz (kdf b n) (vlf b n) m f 6 k i).2.1).1, (pz (kdf b n) (vlf b n) m f 9 k (pz (kdf b n) (vlf b n) m f 6 k i).2.1).2.1, (pz (kdf b n) (vlf b n) m f 6 k i).2.2 ++ (pz (kdf b n) (vlf b n) m f 9 k (pz (kdf b n) (vlf b n) m f 6 k i).2.1).2.2)) := rfl
        rw [e] at hp
        refine QC.of qmX11_readTruth_ok rfl (TX11_readTruth_0 (ihA 6 (by omega) d k i M _ hk hi (by show 12 * (T - i) + 5 < f; omega) hS h15 hz (fun M1 c1 => ?_)))
        by_cases z1 : (pz (kdf b n) (vlf b n) m f 6 k i).1 ≠ 0
        · rw [if_pos z1] at hp
          have bd := c1.rBad z1 (okz 6 k i (by decide) hi (by show 12 * (T - i) + 5 < f; omega))
          exact s_rTruth (d := _) bd (hp M1 (c1.bad (gF.refl M) z1 rfl))
        · have z2 : (pz (kdf b n) (vlf b n) m f 6 k i).1 = 0 := Classical.byContradiction z1
          rw [if_neg z1] at hp
          have st := ok hS.1 c1 z2
          have lg := (c1.2.1 z2).2.2
          have lz := lg.1
          rcases hr with ⟨_, r2, r3, r4⟩ | ⟨r1, _⟩
          · have r2' : i + 1 ≤ (pz (kdf b n) (vlf b n) m f 6 k i).2.1 := r2
            exact ihB 9 (by omega) d k _ M1 _ hk r3 (by show 12 * (T - _) + 0 < f; omega) st (by rw [c1.1.2.1 15 (by omega) (by omega) (by omega) (by omega) (by omega) (by omega)]; exact h15) (by rw [lz]; omega) (fun M2 c2 => hp M2 (rRes.good hz.1 c1.1 lg c2 rfl))
          · omega
    · intro sel hs d k i M post hk hi hf hS h15 hz hp
      have hcase : sel = 2 ∨ sel = 4 ∨ sel = 7 ∨ sel = 9 := hs
      rcases hcase with rfl | rfl | rfl | rfl
      · -- rest of readTerm
        have hf' : 12 * (T - i) + 0 < f + 1 := hf
        have e : pz (kdf b n) (vlf b n) m (f + 1) 2 k i = (if kdf b n i = 34 then (if (pz (kdf b n) (vlf b n) m f 0 k (i + 1)).1 ≠ 0 then pz (kdf b n) (vlf b n) m f 0 k (i + 1) else ((pz (kdf b n) (vlf b n) m f 2 k (pz (kdf b n) (vlf b n) m f 0 k (i + 1)).2.1).1, (pz (kdf b n) (vlf b n) m f 2 k (pz (kdf b n) (vlf b n) m f 0 k (i + 1)).2.1).2.1, (pz (kdf b n) (vlf b n) m f 0 k (i + 1)).2.2 ++ 3002 :: (pz (kdf b n) (vlf b n) m f 2 k (pz (kdf b n) (vlf b n) m f 0 k (i + 1)).2.1).2.2)) else (0, i, [])) := rfl
        rw [e] at hp
        refine TX11_readTerm_5 (m_eats hS ⟨by decide, by decide⟩ (fun zk M1 k1 s1 => ⟨fun y => absurd y (by decide), fun _ => ⟨(i32 (by omega) (by omega)), ?_⟩⟩) (fun zk => ⟨fun _ => hp M ?_, fun y => absurd rfl y⟩))
        · have hl := tk.lt hi (by rw [zk]; decide) (by rw [zk]; decide)
          rw [if_pos zk] at hp
          have hr := pz_res (m := m) tk f 0 k (i + 1) (by decide) hl (by show 12 * (T - (i + 1)) + 1 < f; omega)
          have g1 : gF M M1 := gF.nK k1
          have n219 : M1 219 = M 219 := k1.1 219 (by omega)
          have l1 : rLog M M1 [] := rLog.refl n219
          refine ihA 0 (by omega) d k (i + 1) M1 _ hk hl (by show 12 * (T - (i + 1)) + 1 < f; omega) s1 (by rw [k1.2 15 (by omega) (by omega) (by omega) (by omega)]; exact h15) (by rw [n219]; omega) (fun M2 c2 => ?_)
          by_cases z1 : (pz (kdf b n) (vlf b n) m f 0 k (i + 1)).1 ≠ 0
          · rw [if_pos z1] at hp
            have bd := c2.rBad z1 (okz 0 k (i + 1) (by decide) hl (by show 12 * (T - (i + 1)) + 1 < f; omega))
            exact s_codes bd (s_rTerm (d := _) bd (hp M2 (c2.bad g1 z1 rfl)))
          · have z2 : (pz (kdf b n) (vlf b n) m f 0 k (i + 1)).1 = 0 := Classical.byContradiction z1
            rw [if_neg z1] at hp
            have st := ok s1.1 c2 z2
            have lg := (c2.2.1 z2).2.2
            have lz := lg.1
            rw [n219] at lz
            rcases hr with ⟨_, r2, r3, r4⟩ | ⟨r1, _⟩
            · have r2' : i + 1 + 1 ≤ (pz (kdf b n) (vlf b n) m f 0 k (i + 1)).2.1 := r2
              refine m_codes st.2.2 (by rw [lz]; omega) (fun M3 g3 e3 e18 l3 => ?_)
              have lg2 := rLog.trans hz.1 (rLog.trans hz.1 l1 lg) l3
              have lgz := lg2.1
              have gg := (g1.trans c2.1).trans g3
              have st3 : rSt b n (pz (kdf b n) (vlf b n) m f 0 k (i + 1)).2.1 M3 := ⟨st.1.congr (e3 8) e18, ⟨by rw [e3]; exact st.2.1.1, by rw [e3]; exact st.2.1.2.1, by rw [e3]; exact st.2.1.2.2.1, fun w => by rw [e3]; exact st.2.1.2.2.2 w⟩, by rw [e3]; exact st.2.2⟩
              refine ihB 2 (by omega) d k _ M3 _ hk r3 (by show 12 * (T - _) + 0 < f; omega) st3 (by rw [gg.2.1 15 (by omega) (by omega) (by omega) (by omega) (by omega) (by omega)]; exact h15) ?_ (fun M4 c4 => hp M4 (rRes.good hz.1 gg lg2 c4 ?_))
              · rw [lgz, List.nil_append, List.length_append, show [(3002 : Int)].length = 1 from rfl]; omega
              · rw [List.nil_append, List.append_assoc]; rfl
            · omega
        · rw [if_neg zk]
          exact ⟨gF.refl M, fun _ => ⟨hS.2.2, hS.2.1, rLog.refl rfl⟩, fun y => absurd rfl y⟩
      · -- rest of sum
        have hf' : 12 * (T - i) + 0 < f + 1 := hf
        have h9 : M 215 9 = kdf b n i := hS.2.1.2.2.1
        have kb : 0 ≤ kdf b n i ∧ kdf b n i ≤ 41 := tKd_b b n (tpos b n i)
        have e : pz (kdf b n) (vlf b n) m (f + 1) 4 k i = (if kdf b n i = 32 then (if (pz (kdf b n) (vlf b n) m f 1 k (i + 1)).1 ≠ 0 then pz (kdf b n) (vlf b n) m f 1 k (i + 1) else ((pz (kdf b n) (vlf b n) m f 4 k (pz (kdf b n) (vlf b n) m f 1 k (i + 1)).2.1).1, (pz (kdf b n) (vlf b n) m f 4 k (pz (kdf b n) (vlf b n) m f 1 k (i + 1)).2.1).2.1, (pz (kdf b n) (vlf b n) m f 1 k (i + 1)).2.2 ++ 3000 :: (pz (kdf b n) (vlf b n) m f 4 k (pz (kdf b n) (vlf b n) m f 1 k (i + 1)).2.1).2.2)) else if kdf b n i = 33 then (if (pz (kdf b n) (vlf b n) m f 1 k (i + 1)).1 ≠ 0 then pz (kdf b n) (vlf b n) m f 1 k (i + 1) else ((pz (kdf b n) (vlf b n) m f 4 k (pz (kdf b n) (vlf b n) m f 1 k (i + 1)).2.1).1, (pz (kdf b n) (vlf b n) m f 4 k (pz (kdf b n) (vlf b n) m f 1 k (i + 1)).2.1).2.1, (pz (kdf b n) (vlf b n) m f 1 k (i + 1)).2.2 ++ 3001 :: (pz (kdf b n) (vlf b n) m f 4 k (pz (kdf b n) (vlf b n) m f 1 k (i + 1)).2.1).2.2)) else (0, i, [])) := rfl
        rw [e] at hp
        clear e
        refine TX11_readSum_5 (m_is hS ⟨by decide, by decide⟩ (fun zk => ⟨fun y => absurd y (by decide), fun _ => ⟨(i32 (by omega) (by omega)), fun _ => m_step hS (fun M1 k1 s1 => ?_), fun y => absurd (h9.trans zk) y⟩⟩) (fun zk => ⟨fun _ => m_is hS ⟨by decide, by decide⟩ (fun zk2 => ⟨fun y => absurd y (by decide), fun _ => ⟨(i32 (by omega) (by omega)), fun y => absurd (h9.symm.trans y) zk, fun _ => ⟨by rw [h9]; exact (i32 (by omega) (by omega)), m_step hS (fun M1 k1 s1 => ?_)⟩⟩⟩) (fun zk2 => ⟨fun _ => hp M ?_, fun y => absurd rfl y⟩), fun y => absurd rfl y⟩))
        · have hl := tk.lt hi (by rw [zk]; decide) (by rw [zk]; decide)
          rw [if_pos zk] at hp
          have hr := pz_res (m := m) tk f 1 k (i + 1) (by decide) hl (by show 12 * (T - (i + 1)) + 2 < f; omega)
          have g1 : gF M M1 := gF.nK k1
          have n219 : M1 219 = M 219 := k1.1 219 (by omega)
          have l1 : rLog M M1 [] := rLog.refl n219
          refine ihA 1 (by omega) d k (i + 1) M1 _ hk hl (by show 12 * (T - (i + 1)) + 2 < f; omega) s1 (by rw [k1.2 15 (by omega) (by omega) (by omega) (by omega)]; exact h15) (by rw [n219]; omega) (fun M2 c2 => ?_)
          by_cases z1 : (pz (kdf b n) (vlf b n) m f 1 k (i + 1)).1 ≠ 0
          · rw [if_pos z1] at hp
            have bd := c2.rBad z1 (okz 1 k (i + 1) (by decide) hl (by show 12 * (T - (i + 1)) + 2 < f; omega))
            exact s_codes bd (s_rSum (d := _) bd (hp M2 (c2.bad g1 z1 rfl)))
          · have z2 : (pz (kdf b n) (vlf b n) m f 1 k (i + 1)).1 = 0 := Classical.byContradiction z1
            rw [if_neg z1] at hp
            have st := ok s1.1 c2 z2
            have lg := (c2.2.1 z2).2.2
            have lz := lg.1
            rw [n219] at lz
            rcases hr with ⟨_, r2, r3, r4⟩ | ⟨r1, _⟩
            · have r2' : i + 1 + 1 ≤ (pz (kdf b n) (vlf b n) m f 1 k (i + 1)).2.1 := r2
              refine m_codes st.2.2 (by rw [lz]; omega) (fun M3 g3 e3 e18 l3 => ?_)
              have lg2 := rLog.trans hz.1 (rLog.trans hz.1 l1 lg) l3
              have lgz := lg2.1
              have gg := (g1.trans c2.1).trans g3
              have st3 : rSt b n (pz (kdf b n) (vlf b n) m f 1 k (i + 1)).2.1 M3 := ⟨st.1.congr (e3 8) e18, ⟨by rw [e3]; exact st.2.1.1, by rw [e3]; exact st.2.1.2.1, by rw [e3]; exact st.2.1.2.2.1, fun w => by rw [e3]; exact st.2.1.2.2.2 w⟩, by rw [e3]; exact st.2.2⟩
              refine ihB 4 (by omega) d k _ M3 _ hk r3 (by show 12 * (T - _) + 0 < f; omega) st3 (by rw [gg.2.1 15 (by omega) (by omega) (by omega) (by omega) (by omega) (by omega)]; exact h15) ?_ (fun M4 c4 => hp M4 (rRes.good hz.1 gg lg2 c4 ?_))
              · rw [lgz, List.nil_append, List.length_append, show [(3000 : Int)].length = 1 from rfl]; omega
              · rw [List.nil_append, List.append_assoc]; rfl
            · omega
        · have hl := tk.lt hi (by rw [zk2]; decide) (by rw [zk2]; decide)
          rw [if_neg zk, if_pos zk2] at hp
          have hr := pz_res (m := m) tk f 1 k (i + 1) (by decide) hl (by show 12 * (T - (i + 1)) + 2 < f; omega)
          have g1 : gF M M1 := gF.nK k1
          have n219 : M1 219 = M 219 := k1.1 219 (by omega)
          have l1 : rLog M M1 [] := rLog.refl n219
          refine ihA 1 (by omega) d k (i + 1) M1 _ hk hl (by show 12 * (T - (i + 1)) + 2 < f; omega) s1 (by rw [k1.2 15 (by omega) (by omega) (by omega) (by omega)]; exact h15) (by rw [n219]; omega) (fun M2 c2 => ?_)
          by_cases z1 : (pz (kdf b n) (vlf b n) m f 1 k (i + 1)).1 ≠ 0
          · rw [if_pos z1] at hp
            have bd := c2.rBad z1 (okz 1 k (i + 1) (by decide) hl (by show 12 * (T - (i + 1)) + 2 < f; omega))
            exact s_codes bd (s_rSum (d := _) bd (hp M2 (c2.bad g1 z1 rfl)))
          · have z2 : (pz (kdf b n) (vlf b n) m f 1 k (i + 1)).1 = 0 := Classical.byContradiction z1
            rw [if_neg z1] at hp
            have st := ok s1.1 c2 z2
            have lg := (c2.2.1 z2).2.2
            have lz := lg.1
            rw [n219] at lz
            rcases hr with ⟨_, r2, r3, r4⟩ | ⟨r1, _⟩
            · have r2' : i + 1 + 1 ≤ (pz (kdf b n) (vlf b n) m f 1 k (i + 1)).2.1 := r2
              refine m_codes st.2.2 (by rw [lz]; omega) (fun M3 g3 e3 e18 l3 => ?_)
              have lg2 := rLog.trans hz.1 (rLog.trans hz.1 l1 lg) l3
              have lgz := lg2.1
              have gg := (g1.trans c2.1).trans g3
              have st3 : rSt b n (pz (kdf b n) (vlf b n) m f 1 k (i + 1)).2.1 M3 := ⟨st.1.congr (e3 8) e18, ⟨by rw [e3]; exact st.2.1.1, by rw [e3]; exact st.2.1.2.1, by rw [e3]; exact st.2.1.2.2.1, fun w => by rw [e3]; exact st.2.1.2.2.2 w⟩, by rw [e3]; exact st.2.2⟩
              refine ihB 4 (by omega) d k _ M3 _ hk r3 (by show 12 * (T - _) + 0 < f; omega) st3 (by rw [gg.2.1 15 (by omega) (by omega) (by omega) (by omega) (by omega) (by omega)]; exact h15) ?_ (fun M4 c4 => hp M4 (rRes.good hz.1 gg lg2 c4 ?_))
              · rw [lgz, List.nil_append, List.length_append, show [(3001 : Int)].length = 1 from rfl]; omega
              · rw [List.nil_append, List.append_assoc]; rfl
            · omega
        · rw [if_neg zk, if_neg zk2]
          exact ⟨gF.refl M, fun _ => ⟨hS.2.2, hS.2.1, rLog.refl rfl⟩, fun y => absurd rfl y⟩
      · -- rest of readBoth
        have hf' : 12 * (T - i) + 0 < f + 1 := hf
        have e : pz (kdf b n) (vlf b n) m (f + 1) 7 k i = (if kdf b n i = 11 then (if (pz (kdf b n) (vlf b n) m f 5 k (i + 1)).1 ≠ 0 then pz (kdf b n) (vlf b n) m f 5 k (i + 1) else ((pz (kdf b n) (vlf b n) m f 7 k (pz (kdf b n) (vlf b n) m f 5 k (i + 1)).2.1).1, (pz (kdf b n) (vlf b n) m f 7 k (pz (kdf b n) (vlf b n) m f 5 k (i + 1)).2.1).2.1, (pz (kdf b n) (vlf b n) m f 5 k (i + 1)).2.2 ++ 3007 :: (pz (kdf b n) (vlf b n) m f 7 k (pz (kdf b n) (vlf b n) m f 5 k (i + 1)).2.1).2.2)) else (0, i, [])) := rfl
        rw [e] at hp
        refine TX11_readBoth_5 (m_eats hS ⟨by decide, by decide⟩ (fun zk M1 k1 s1 => ⟨fun y => absurd y (by decide), fun _ => ⟨(i32 (by omega) (by omega)), ?_⟩⟩) (fun zk => ⟨fun _ => hp M ?_, fun y => absurd rfl y⟩))
        · have hl := tk.lt hi (by rw [zk]; decide) (by rw [zk]; decide)
          rw [if_pos zk] at hp
          have hr := pz_res (m := m) tk f 5 k (i + 1) (by decide) hl (by show 12 * (T - (i + 1)) + 4 < f; omega)
          have g1 : gF M M1 := gF.nK k1
          have n219 : M1 219 = M 219 := k1.1 219 (by omega)
          have l1 : rLog M M1 [] := rLog.refl n219
          refine ihA 5 (by omega) d k (i + 1) M1 _ hk hl (by show 12 * (T - (i + 1)) + 4 < f; omega) s1 (by rw [k1.2 15 (by omega) (by omega) (by omega) (by omega)]; exact h15) (by rw [n219]; omega) (fun M2 c2 => ?_)
          by_cases z1 : (pz (kdf b n) (vlf b n) m f 5 k (i + 1)).1 ≠ 0
          · rw [if_pos z1] at hp
            have bd := c2.rBad z1 (okz 5 k (i + 1) (by decide) hl (by show 12 * (T - (i + 1)) + 4 < f; omega))
            exact s_codes bd (s_rBoth (d := _) bd (hp M2 (c2.bad g1 z1 rfl)))
          · have z2 : (pz (kdf b n) (vlf b n) m f 5 k (i + 1)).1 = 0 := Classical.byContradiction z1
            rw [if_neg z1] at hp
            have st := ok s1.1 c2 z2
            have lg := (c2.2.1 z2).2.2
            have lz := lg.1
            rw [n219] at lz
            rcases hr with ⟨_, r2, r3, r4⟩ | ⟨r1, _⟩
            · have r2' : i + 1 + 1 ≤ (pz (kdf b n) (vlf b n) m f 5 k (i + 1)).2.1 := r2
              refine m_codes st.2.2 (by rw [lz]; omega) (fun M3 g3 e3 e18 l3 => ?_)
              have lg2 := rLog.trans hz.1 (rLog.trans hz.1 l1 lg) l3
              have lgz := lg2.1
              have gg := (g1.trans c2.1).trans g3
              have st3 : rSt b n (pz (kdf b n) (vlf b n) m f 5 k (i + 1)).2.1 M3 := ⟨st.1.congr (e3 8) e18, ⟨by rw [e3]; exact st.2.1.1, by rw [e3]; exact st.2.1.2.1, by rw [e3]; exact st.2.1.2.2.1, fun w => by rw [e3]; exact st.2.1.2.2.2 w⟩, by rw [e3]; exact st.2.2⟩
              refine ihB 7 (by omega) d k _ M3 _ hk r3 (by show 12 * (T - _) + 0 < f; omega) st3 (by rw [gg.2.1 15 (by omega) (by omega) (by omega) (by omega) (by omega) (by omega)]; exact h15) ?_ (fun M4 c4 => hp M4 (rRes.good hz.1 gg lg2 c4 ?_))
              · rw [lgz, List.nil_append, List.length_append, show [(3007 : Int)].length = 1 from rfl]; omega
              · rw [List.nil_append, List.append_assoc]; rfl
            · omega
        · rw [if_neg zk]
          exact ⟨gF.refl M, fun _ => ⟨hS.2.2, hS.2.1, rLog.refl rfl⟩, fun y => absurd rfl y⟩
      · -- rest of readTruth
        have hf' : 12 * (T - i) + 0 < f + 1 := hf
        have e : pz (kdf b n) (vlf b n) m (f + 1) 9 k i = (if kdf b n i = 12 then (if (pz (kdf b n) (vlf b n) m f 6 k (i + 1)).1 ≠ 0 then pz (kdf b n) (vlf b n) m f 6 k (i + 1) else ((pz (kdf b n) (vlf b n) m f 9 k (pz (kdf b n) (vlf b n) m f 6 k (i + 1)).2.1).1, (pz (kdf b n) (vlf b n) m f 9 k (pz (kdf b n) (vlf b n) m f 6 k (i + 1)).2.1).2.1, (pz (kdf b n) (vlf b n) m f 6 k (i + 1)).2.2 ++ 3008 :: (pz (kdf b n) (vlf b n) m f 9 k (pz (kdf b n) (vlf b n) m f 6 k (i + 1)).2.1).2.2)) else (0, i, [])) := rfl
        rw [e] at hp
        refine TX11_readTruth_5 (m_eats hS ⟨by decide, by decide⟩ (fun zk M1 k1 s1 => ⟨fun y => absurd y (by decide), fun _ => ⟨(i32 (by omega) (by omega)), ?_⟩⟩) (fun zk => ⟨fun _ => hp M ?_, fun y => absurd rfl y⟩))
        · have hl := tk.lt hi (by rw [zk]; decide) (by rw [zk]; decide)
          rw [if_pos zk] at hp
          have hr := pz_res (m := m) tk f 6 k (i + 1) (by decide) hl (by show 12 * (T - (i + 1)) + 5 < f; omega)
          have g1 : gF M M1 := gF.nK k1
          have n219 : M1 219 = M 219 := k1.1 219 (by omega)
          have l1 : rLog M M1 [] := rLog.refl n219
          refine ihA 6 (by omega) d k (i + 1) M1 _ hk hl (by show 12 * (T - (i + 1)) + 5 < f; omega) s1 (by rw [k1.2 15 (by omega) (by omega) (by omega) (by omega)]; exact h15) (by rw [n219]; omega) (fun M2 c2 => ?_)
          by_cases z1 : (pz (kdf b n) (vlf b n) m f 6 k (i + 1)).1 ≠ 0
          · rw [if_pos z1] at hp
            have bd := c2.rBad z1 (okz 6 k (i + 1) (by decide) hl (by show 12 * (T - (i + 1)) + 5 < f; omega))
            exact s_codes bd (s_rTruth (d := _) bd (hp M2 (c2.bad g1 z1 rfl)))
          · have z2 : (pz (kdf b n) (vlf b n) m f 6 k (i + 1)).1 = 0 := Classical.byContradiction z1
            rw [if_neg z1] at hp
            have st := ok s1.1 c2 z2
            have lg := (c2.2.1 z2).2.2
            have lz := lg.1
            rw [n219] at lz
            rcases hr with ⟨_, r2, r3, r4⟩ | ⟨r1, _⟩
            · have r2' : i + 1 + 1 ≤ (pz (kdf b n) (vlf b n) m f 6 k (i + 1)).2.1 := r2
              refine m_codes st.2.2 (by rw [lz]; omega) (fun M3 g3 e3 e18 l3 => ?_)
              have lg2 := rLog.trans hz.1 (rLog.trans hz.1 l1 lg) l3
              have lgz := lg2.1
              have gg := (g1.trans c2.1).trans g3
              have st3 : rSt b n (pz (kdf b n) (vlf b n) m f 6 k (i + 1)).2.1 M3 := ⟨st.1.congr (e3 8) e18, ⟨by rw [e3]; exact st.2.1.1, by rw [e3]; exact st.2.1.2.1, by rw [e3]; exact st.2.1.2.2.1, fun w => by rw [e3]; exact st.2.1.2.2.2 w⟩, by rw [e3]; exact st.2.2⟩
              refine ihB 9 (by omega) d k _ M3 _ hk r3 (by show 12 * (T - _) + 0 < f; omega) st3 (by rw [gg.2.1 15 (by omega) (by omega) (by omega) (by omega) (by omega) (by omega)]; exact h15) ?_ (fun M4 c4 => hp M4 (rRes.good hz.1 gg lg2 c4 ?_))
              · rw [lgz, List.nil_append, List.length_append, show [(3008 : Int)].length = 1 from rfl]; omega
              · rw [List.nil_append, List.append_assoc]; rfl
            · omega
        · rw [if_neg zk]
          exact ⟨gF.refl M, fun _ => ⟨hS.2.2, hS.2.1, rLog.refl rfl⟩, fun y => absurd rfl y⟩
end MRead99
