section Ref43
variable {X : QX} {x : Int} {d : Nat} {post : Int → QMem → Prop} {M : QMem}
theorem qup_row {M : QMem} {a b i v : Int} (h : b ≠ a) : qup M a i v b = M b := by
  funext j
  simp [qup, h]
theorem qup_at (M : QMem) (a i v j : Int) : qup M a i v a j = if j = i then v else M a j := by
  simp [qup]
theorem lawSt_lit {c w : Int → Int} {i : Nat} (h : c i < 3000) (j : Int) : (lawSt c w (i + 1)).1 j = if j = lawHi c i then (if c i < 1000 then c i else w (c i - 1000)) else (lawSt c w i).1 j := by
  rw [lawSt, if_pos h, ← lawSt_hi c w i]
theorem lawSt_not {c w : Int → Int} {i : Nat} (h : c i = 3006) (j : Int) : (lawSt c w (i + 1)).1 j = if j = lawHi c i - 1 then 1 - (lawSt c w i).1 (lawHi c i - 1) else (lawSt c w i).1 j := by
  rw [lawSt, if_neg (show ¬ c i < 3000 by omega), if_pos h, ← lawSt_hi c w i]
theorem lawSt_op {c w : Int → Int} {i : Nat} (h : 3000 ≤ c i) (h6 : ¬ c i = 3006) (j : Int) : (lawSt c w (i + 1)).1 j = if j = lawHi c i - 2 then rBetween (c i) ((lawSt c w i).1 (lawHi c i - 2)) ((lawSt c w i).1 (lawHi c i - 1)) else (lawSt c w i).1 j := by
  rw [lawSt, if_neg (show ¬ c i < 3000 by omega), if_neg h6, ← lawSt_hi c w i]
/-- the words of a law -/
def rWord (A : Int → Int) (e k : Int) : Int → Int := fun j => if j = 0 then k.tmod (A 1) else if j = 1 then k.tdiv (A 1) else if j = 2 then A 52 else if j = 3 then e else rLie A k
def rCode (A : Int → Int) (l : Int) : Int → Int := fun i => A (3475 + A (6 + l) + i)
/-- what a law tells -/
def rLaw (A : Int → Int) (l e k : Int) : Int := (lawSt (rCode A l) (rWord A e k) (A (8 + l)).toNat).1 0
/-- a law that is told can be reckoned -/
def rLawOk (A : Int → Int) (l : Int) : Prop := 0 ≤ A (6 + l) ∧ 1 ≤ A (8 + l) ∧ A (6 + l) + A (8 + l) ≤ 900 ∧ lawOk (rCode A l) (A (8 + l)).toNat ∧ lawHi (rCode A l) (A (8 + l)).toNat = 1
theorem rLie_b (A : Int → Int) (k : Int) : 0 ≤ rLie A k ∧ rLie A k ≤ 2 := by
  unfold rLie
  split
  · omega
  · split <;> omega
theorem rWord_b {A : Int → Int} {e k : Int} (hk : 0 ≤ k ∧ k < 36) (hw : 2 ≤ A 1 ∧ A 1 ≤ 6) (hwet : 0 ≤ A 52 ∧ A 52 ≤ 9) (he : 0 ≤ e ∧ e < 6) : ∀ j, 0 ≤ j → j < 5 → -1000000 ≤ rWord A e k j ∧ rWord A e k j ≤ 1000000 := by
  intro j _ _
  have b1 := td_b (k := k) (w := A 1) hk.1 (by omega)
  have b2 := tm_b (k := k) (w := A 1) hk.1 (by omega)
  have b3 := rLie_b A k
  unfold rWord
  repeat' split
  all_goals omega
theorem m_reckons_loop {l e k : Int} {n : Nat} (hl : l = 0 ∨ l = 1) (hk : 0 ≤ k ∧ k < 36) (hw : 2 ≤ M 216 1 ∧ M 216 1 ≤ 6) (hwet : 0 ≤ M 216 52 ∧ M 216 52 ≤ 9) (he : 0 ≤ e ∧ e < 6) (hok : rLawOk (M 216) l) (hn : (M 216 (8 + l)).toNat = n)
    (hp : ∀ M1 : QMem, (∀ a, a ≠ 220 → a ≠ 221 → M1 a = M a) → post (rLaw (M 216) l e k) M1) :
    ∀ (r i : Nat), i + r = n → ∀ M1 : QMem, (∀ a, a ≠ 220 → a ≠ 221 → M1 a = M a) → (∀ j, 0 ≤ j → j < 5 → M1 221 j = rWord (M 216) e k j) → (∀ j, 0 ≤ j → j < lawHi (rCode (M 216) l) i → M1 220 j = (lawSt (rCode (M 216) l) (rWord (M 216) e k) i).1 j) →
      QRm X x (d + 1) qmX11_reckons post 65 [(0, (2, 215)), (1, (0, l)), (4, (0, lawHi (rCode (M 216) l) i)), (5, (0, (i : Int)))] [] M1 := by
  obtain ⟨o1, o2, o3, o4, o5⟩ := hok
  have hb := rWord_b (A := M 216) hk hw hwet he
  intro r
  induction r with
  | zero =>
    intro i hi M1 hs _ hst
    have h216 : M1 216 = M 216 := hs 216 (by decide) (by decide)
    refine TX11_reckons_65 ?_
    simp only [h216]
    refine ⟨by omega, by omega, i32 (by omega) (by omega), i32 (by omega) (by omega), fun _ => ?_, fun z => absurd z (by omega)⟩
    have : M1 220 0 = rLaw (M 216) l e k := by
      rw [hst 0 (by omega) (by rw [show i = (M 216 (8 + l)).toNat by omega, o5]; omega), rLaw, show i = (M 216 (8 + l)).toNat by omega]
    rw [this]
    exact hp M1 hs
  | succ r ih =>
    intro i hi M1 hs hwd hst
    have h216 : M1 216 = M 216 := hs 216 (by decide) (by decide)
    obtain ⟨a1, a2, a3, a4, a5, a6⟩ := o4 i (by omega)
    have ce : M 216 (3475 + M 216 (6 + l) + (i : Int)) = rCode (M 216) l i := rfl
    have eh := lawSt_hi (rCode (M 216) l) (rWord (M 216) e k) i
    have sb := lawSt_b o4 hb i (by omega)
    refine TX11_reckons_65 ?_
    simp only [h216]
    rw [ce]
    refine ⟨by omega, by omega, i32 (by omega) (by omega), i32 (by omega) (by omega), fun z => absurd z (by omega), fun _ => ⟨by omega, by omega, by omega, by omega, i32 (by omega) (by omega), fun b => ⟨fun b2 => ?_, fun b2 => ?_⟩, fun b => ⟨fun b2 => ?_, fun b2 => ?_⟩⟩⟩
    · obtain ⟨p1, p2, p3⟩ := a4 b2
      refine ⟨by omega, by omega, ?_⟩
      have hI : lawHi (rCode (M 216) l) (i + 1) = lawHi (rCode (M 216) l) i := by rw [lawHi, if_neg (by omega), if_pos b2]
      have := ih (i + 1) (by omega) (qup M1 220 (lawHi (rCode (M 216) l) i - 1) (1 - M1 220 (lawHi (rCode (M 216) l) i - 1))) (fun a q1 q2 => by rw [qup_row q1]; exact hs a q1 q2) (fun j q1 q2 => by rw [qup_row (by decide)]; exact hwd j q1 q2) (fun j q1 q2 => ?_)
      · rw [hI] at this; exact this
      · rw [hI] at q2
        rw [qup_at, lawSt_not b2]
        split
        · rw [hst _ (by omega) (by omega)]
        · exact hst j q1 q2
    · obtain ⟨p1, p2⟩ := a5 b b2
      refine ⟨by omega, by omega, by omega, by omega, ?_⟩
      have s1 := (sb (lawHi (rCode (M 216) l) i - 1) (by omega) (by omega)).2
      have s2 := (sb (lawHi (rCode (M 216) l) i - 2) (by omega) (by omega)).2
      have hI : lawHi (rCode (M 216) l) (i + 1) = lawHi (rCode (M 216) l) i + (-1) := by rw [lawHi, if_neg (by omega), if_neg b2]; omega
      rw [show lawHi (rCode (M 216) l) i + (-1) - 1 = lawHi (rCode (M 216) l) i - 2 by omega, show lawHi (rCode (M 216) l) i + (-1) = lawHi (rCode (M 216) l) i - 1 by omega, hst _ (show 0 ≤ lawHi (rCode (M 216) l) i - 2 by omega) (by omega), hst _ (show 0 ≤ lawHi (rCode (M 216) l) i - 1 by omega) (by omega)]
      refine m_between (i32 (by omega) (by omega)) (i32 (by omega) (by omega)) (i32 (by omega) (by omega)) b2 ?_
      have := ih (i + 1) (by omega) (qup M1 220 (lawHi (rCode (M 216) l) i - 2) (rBetween (rCode (M 216) l i) ((lawSt (rCode (M 216) l) (rWord (M 216) e k) i).1 (lawHi (rCode (M 216) l) i - 2)) ((lawSt (rCode (M 216) l) (rWord (M 216) e k) i).1 (lawHi (rCode (M 216) l) i - 1)))) (fun a q1 q2 => by rw [qup_row q1]; exact hs a q1 q2) (fun j q1 q2 => by rw [qup_row (by decide)]; exact hwd j q1 q2) (fun j q1 q2 => ?_)
      · rw [hI, show lawHi (rCode (M 216) l) i + (-1) = lawHi (rCode (M 216) l) i - 1 by omega] at this; exact this
      · rw [hI] at q2
        rw [qup_at, lawSt_op b b2]
        split
        · rfl
        · exact hst j q1 (by omega)
    · have p1 := a3 (by omega)
      refine ⟨by omega, by omega, by omega, by omega, ?_⟩
      have hI : lawHi (rCode (M 216) l) (i + 1) = lawHi (rCode (M 216) l) i + 1 := by rw [lawHi, if_pos (by omega)]
      have := ih (i + 1) (by omega) (qup M1 220 (lawHi (rCode (M 216) l) i) (M1 221 (rCode (M 216) l i - 1000))) (fun a q1 q2 => by rw [qup_row q1]; exact hs a q1 q2) (fun j q1 q2 => by rw [qup_row (by decide)]; exact hwd j q1 q2) (fun j q1 q2 => ?_)
      · rw [hI] at this; exact this
      · rw [hI] at q2
        rw [qup_at, lawSt_lit (by omega)]
        split
        · rw [if_neg (by omega), hwd _ (by omega) (by omega)]
        · exact hst j q1 (by omega)
    · have p1 := a3 (by omega)
      refine ⟨by omega, by omega, ?_⟩
      have hI : lawHi (rCode (M 216) l) (i + 1) = lawHi (rCode (M 216) l) i + 1 := by rw [lawHi, if_pos (by omega)]
      have := ih (i + 1) (by omega) (qup M1 220 (lawHi (rCode (M 216) l) i) (rCode (M 216) l i)) (fun a q1 q2 => by rw [qup_row q1]; exact hs a q1 q2) (fun j q1 q2 => by rw [qup_row (by decide)]; exact hwd j q1 q2) (fun j q1 q2 => ?_)
      · rw [hI] at this; exact this
      · rw [hI] at q2
        rw [qup_at, lawSt_lit (by omega)]
        split
        · rw [if_pos (by omega)]
        · exact hst j q1 (by omega)
theorem m_reckons {l e k : Int} (hl : l = 0 ∨ l = 1) (hk : 0 ≤ k ∧ k < 36) (hw : 2 ≤ M 216 1 ∧ M 216 1 ≤ 6) (hwet : 0 ≤ M 216 52 ∧ M 216 52 ≤ 9) (he : 0 ≤ e ∧ e < 6) (h1 : in32 (M 216 (294 + k))) (h2 : in32 (M 216 (258 + k))) (hok : rLawOk (M 216) l)
    (hp : ∀ M1 : QMem, (∀ a, a ≠ 220 → a ≠ 221 → M1 a = M a) → post (rLaw (M 216) l e k) M1) : QCm X x (d + 1) 1 yX11_reckons [(2, 215), (0, l), (0, e), (0, k)] M post := by
  have hr : ∀ (i v : Int) (M1 : QMem), (qup M1 221 i v) 216 = M1 216 := fun i v M1 => qup_row (by decide)
  refine QC.of qmX11_reckons_ok rfl (TX11_reckons_0 ?_)
  simp only [hr]
  refine ⟨i32 (by omega) (by omega), i32 (by omega) (by omega), by omega, i32 (by omega) (by omega), by omega, ?_⟩
  refine m_lieOn hk ?_ ?_ ?_
  · simp only [hr]; exact h1
  · simp only [hr]; exact h2
  simp only [hr]
  refine m_reckons_loop hl hk hw hwet he hok rfl hp _ 0 (Nat.zero_add _) _ (fun a q1 q2 => ?_) (fun j q1 q2 => ?_) (fun j q1 q2 => ?_)
  · rw [qup_row q2, qup_row q2, qup_row q2, qup_row q2, qup_row q2]
  · rcases (show j = 0 ∨ j = 1 ∨ j = 2 ∨ j = 3 ∨ j = 4 by omega) with rfl | rfl | rfl | rfl | rfl <;> simp [qup, rWord]
  · rw [lawHi] at q2; omega
end Ref43
