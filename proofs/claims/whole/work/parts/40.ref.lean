/-! contracts of the reference's methods: small ones, which change nothing -/
theorem int_up {P : Int → Prop} (e : Int) (hx : ∀ i, e ≤ i → P i) (hs : ∀ i, i < e → P (i + 1) → P i) : ∀ i, P i := by
  have key : ∀ (n : Nat) (i : Int), (e - i).toNat = n → P i := by
    intro n
    induction n with
    | zero => intro i h; exact hx i (by omega)
    | succ n ih => intro i h; exact hs i (by omega) (ih (i + 1) (by omega))
  exact fun i => key _ i rfl
theorem i32 {x : Int} (h1 : -2147483648 ≤ x) (h2 : x ≤ 2147483647) : in32 x := ⟨h1, h2⟩
theorem i64 {x : Int} (h1 : -9223372036854775808 ≤ x) (h2 : x ≤ 9223372036854775807) : in64 x := ⟨h1, h2⟩
theorem in32.to64 {x : Int} (h : in32 x) : in64 x := ⟨by have := h.1; omega, by have := h.2; omega⟩
section Ref40
variable {X : QX} {x : Int} {d : Nat} {post : Int → QMem → Prop} {M : QMem}
theorem m_within {v lo hi : Int} (h1 : in64 v) (h2 : in64 lo) (h3 : in64 hi) (ht : lo ≤ v ∧ v ≤ hi → post 1 M) (hf : ¬ (lo ≤ v ∧ v ≤ hi) → post 0 M) : QCm X x d 1 yX11_within [(1, v), (1, lo), (1, hi)] M post :=
  QC.of qmX11_within_ok rfl (TX11_within_0 ⟨h1, h2, fun a => hf (by omega), fun a => ⟨h3, fun b => hf (by omega), fun b => ht (by omega)⟩⟩)
theorem m_cells (hp : post (M 216 1 * M 216 2) M) : QCm X x d 1 yX11_cells [(2, 215)] M post := QC.of qmX11_cells_ok rfl (TX11_cells_0 hp)
theorem m_isCell {k : Int} (hk : in64 k) (hc : 0 ≤ M 216 1 * M 216 2 ∧ M 216 1 * M 216 2 ≤ 36) (ht : 0 ≤ k ∧ k < M 216 1 * M 216 2 → post 1 M) (hf : ¬ (0 ≤ k ∧ k < M 216 1 * M 216 2) → post 0 M) : QCm X x (d + 1) 1 yX11_isCell [(2, 215), (1, k)] M post :=
  QC.of qmX11_isCell_ok rfl (TX11_isCell_0 (m_cells ⟨i32 (by omega) (by omega), m_within hk (i64 (by omega) (by omega)) (i64 (by omega) (by omega)) (fun h => ⟨Or.inr rfl, ht ⟨h.1, by omega⟩⟩) (fun h => ⟨Or.inl rfl, hf (fun z => h ⟨z.1, by omega⟩)⟩)⟩))
theorem m_isDrum {v : Int} (hv : in64 v) (hc : 0 ≤ M 216 3 ∧ M 216 3 ≤ 6) (ht : 0 ≤ v ∧ v < M 216 3 → post 1 M) (hf : ¬ (0 ≤ v ∧ v < M 216 3) → post 0 M) : QCm X x (d + 1) 1 yX11_isDrum [(2, 215), (1, v)] M post :=
  QC.of qmX11_isDrum_ok rfl (TX11_isDrum_0 ⟨i32 (by omega) (by omega), m_within hv (i64 (by omega) (by omega)) (i64 (by omega) (by omega)) (fun h => ⟨Or.inr rfl, ht ⟨h.1, by omega⟩⟩) (fun h => ⟨Or.inl rfl, hf (fun z => h ⟨z.1, by omega⟩)⟩)⟩)
theorem m_isGoer {v : Int} (hv : in64 v) (hc : 0 ≤ M 216 330 ∧ M 216 330 ≤ 8) (ht : 0 ≤ v ∧ v < M 216 330 → post 1 M) (hf : ¬ (0 ≤ v ∧ v < M 216 330) → post 0 M) : QCm X x (d + 1) 1 yX11_isGoer [(2, 215), (1, v)] M post :=
  QC.of qmX11_isGoer_ok rfl (TX11_isGoer_0 ⟨i32 (by omega) (by omega), m_within hv (i64 (by omega) (by omega)) (i64 (by omega) (by omega)) (fun h => ⟨Or.inr rfl, ht ⟨h.1, by omega⟩⟩) (fun h => ⟨Or.inl rfl, hf (fun z => h ⟨z.1, by omega⟩)⟩)⟩)
/-- how many lie on a cell -/
def rLie (A : Int → Int) (k : Int) : Int := if A (294 + k) = -1 then 0 else if A (258 + k) = -1 then 1 else 2
theorem m_lieOn {k : Int} (hk : 0 ≤ k ∧ k < 36) (h1 : in32 (M 216 (294 + k))) (h2 : in32 (M 216 (258 + k))) (hp : post (rLie (M 216) k) M) : QCm X x d 1 yX11_lieOn [(2, 215), (0, k)] M post := by
  refine QC.of qmX11_lieOn_ok rfl (TX11_lieOn_0 ⟨by omega, by omega, fun a => ?_, fun a => ⟨h1, by omega, by omega, fun b => ?_, fun b => ⟨h2, ?_⟩⟩⟩)
  · rw [rLie, if_pos a] at hp; exact hp
  · rw [rLie, if_neg a, if_pos b] at hp; exact hp
  · rw [rLie, if_neg a, if_neg b] at hp; exact hp
/-- a cell has a drum -/
def rHome (A : Int → Int) (k : Int) : Prop := ∃ e, 0 ≤ e ∧ e < A 3 ∧ A (46 + e) = k
theorem m_isHome {k : Int} (hk : in32 k) (hc : 0 ≤ M 216 3 ∧ M 216 3 ≤ 6) (hh : ∀ e, 0 ≤ e → e < M 216 3 → in32 (M 216 (46 + e))) (ht : rHome (M 216) k → post 1 M) (hf : ¬ rHome (M 216) k → post 0 M) : QCm X x d 1 yX11_isHome [(2, 215), (0, k)] M post := by
  have key : ∀ i : Int, 0 ≤ i ∧ i ≤ M 216 3 ∧ (∀ e, 0 ≤ e → e < i → M 216 (46 + e) ≠ k) → QRm X x d qmX11_isHome post 2 [(0, (2, 215)), (1, (0, k)), (2, (0, i))] [] M := by
    refine int_up (M 216 3) (fun i hi h => ?_) (fun i hi ih h => ?_)
    · exact TX11_isHome_2 ⟨i32 (by omega) (by omega), i32 (by omega) (by omega), fun _ => hf (fun ⟨e, e0, e1, e2⟩ => h.2.2 e e0 (by omega) e2), fun z => absurd hi (by omega)⟩
    · refine TX11_isHome_2 ⟨i32 (by omega) (by omega), i32 (by omega) (by omega), fun z => absurd hi (by omega), fun _ => ⟨by omega, by omega, fun a => ht ⟨i, by omega, by omega, a⟩, fun a => ⟨hh i (by omega) (by omega), hk, ih ⟨by omega, by omega, fun e e0 e1 => ?_⟩⟩⟩⟩
      by_cases z : e = i
      · subst z; exact a
      · exact h.2.2 e e0 (by omega)
  exact QC.of qmX11_isHome_ok rfl (TX11_isHome_0 (key 0 ⟨by omega, by omega, fun e e0 e1 => by omega⟩))
end Ref40
