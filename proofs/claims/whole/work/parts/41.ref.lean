theorem td_b {k w : Int} (hk : 0 ≤ k) (hw : 0 < w) : 0 ≤ k.tdiv w ∧ k.tdiv w ≤ k := ⟨Int.tdiv_nonneg hk (by omega), Int.tdiv_le_self w hk⟩
theorem tm_b {k w : Int} (hk : 0 ≤ k) (hw : 0 < w) : 0 ≤ k.tmod w ∧ k.tmod w < w := ⟨Int.tmod_nonneg w hk, Int.tmod_lt_of_pos k hw⟩
section Ref41
variable {X : QX} {x : Int} {d : Nat} {post : Int → QMem → Prop} {M : QMem}
/-- the cell beside -/
def rBeside (A : Int → Int) (k t : Int) : Int :=
  if t = 1 then (if k.tdiv (A 1) = 0 then -1 else k - A 1)
  else if t = 2 then (if k.tmod (A 1) = A 1 - 1 then -1 else k + 1)
  else if t = 3 then (if k.tdiv (A 1) = A 2 - 1 then -1 else k + A 1)
  else (if k.tmod (A 1) = 0 then -1 else k - 1)
theorem m_beside {k t : Int} (hk : 0 ≤ k ∧ k < 36) (ht : in32 t) (hw : 2 ≤ M 216 1 ∧ M 216 1 ≤ 6) (hh : 2 ≤ M 216 2 ∧ M 216 2 ≤ 6) (hp : post (rBeside (M 216) k t) M) : QCm X x d 1 yX11_beside [(2, 215), (0, k), (0, t)] M post := by
  have b1 := td_b (k := k) (w := M 216 1) hk.1 (by omega)
  have b2 := tm_b (k := k) (w := M 216 1) hk.1 (by omega)
  have i1 : in32 (k.tdiv (M 216 1)) := i32 (by omega) (by omega)
  have i2 : in32 (k.tmod (M 216 1)) := i32 (by omega) (by omega)
  refine QC.of qmX11_beside_ok rfl (TX11_beside_0 ⟨i32 (by omega) (by omega), i32 (by omega) (by omega), by omega, fun a => ⟨fun b => ?_, fun b => ⟨i1, ?_⟩⟩, fun a => ⟨ht, fun b => ⟨fun c => ?_, fun c => ⟨i2, i32 (by omega) (by omega), ?_⟩⟩, fun b => ⟨fun c => ⟨fun e => ?_, fun e => ⟨i1, i32 (by omega) (by omega), ?_⟩⟩, fun c => ⟨fun e => ?_, fun e => ⟨i2, ?_⟩⟩⟩⟩⟩)
  · simpa [rBeside, a, b] using hp
  · simpa [rBeside, a, b] using hp
  · simpa [rBeside, a, b, c] using hp
  · simpa [rBeside, a, b, c] using hp
  · simpa [rBeside, a, b, c, e] using hp
  · simpa [rBeside, a, b, c, e] using hp
  · simpa [rBeside, a, b, c, e] using hp
  · simpa [rBeside, a, b, c, e] using hp
/-- a ribbon's end -/
def rEnd (A : Int → Int) (e : Int) : Int := if A (60 + e) = 0 then A (46 + e) else A (66 + 16 * e + A (60 + e) - 1)
theorem m_endOf {e : Int} (he : 0 ≤ e ∧ e < 6) (hl : 0 ≤ M 216 (60 + e) ∧ M 216 (60 + e) ≤ 16) (hp : post (rEnd (M 216) e) M) : QCm X x d 1 yX11_endOf [(2, 215), (0, e)] M post := by
  refine QC.of qmX11_endOf_ok rfl (TX11_endOf_0 ⟨by omega, by omega, fun a => ⟨by omega, by omega, ?_⟩, fun a => ⟨i32 (by omega) (by omega), by omega, by omega, ?_⟩⟩)
  · simpa [rEnd, a] using hp
  · simpa [rEnd, a] using hp
theorem m_cellOf {t : Int} (ht : 0 ≤ t ∧ t < 8) (h1 : 0 ≤ M 216 (331 + t) ∧ M 216 (331 + t) < 6) (h2 : 0 ≤ M 216 (339 + t) ∧ M 216 (339 + t) < 16) (hp : post (M 216 (66 + 16 * M 216 (331 + t) + M 216 (339 + t))) M) : QCm X x d 1 yX11_cellOf [(2, 215), (0, t)] M post :=
  QC.of qmX11_cellOf_ok rfl (TX11_cellOf_0 ⟨by omega, by omega, by omega, by omega, by omega, by omega, hp⟩)
/-- traveller t stands on cell k -/
def rOn (A : Int → Int) (k t : Int) : Prop := A (347 + t) = 0 ∧ 0 ≤ A (339 + t) ∧ A (66 + 16 * A (331 + t) + A (339 + t)) = k
theorem m_goerOn {k : Int} (hk : in32 k) (hT : 0 ≤ M 216 330 ∧ M 216 330 ≤ 8) (h1 : ∀ t, 0 ≤ t → t < M 216 330 → in32 (M 216 (347 + t)) ∧ (0 ≤ M 216 (331 + t) ∧ M 216 (331 + t) < 6) ∧ (-1 ≤ M 216 (339 + t) ∧ M 216 (339 + t) < 16)) (h2 : ∀ i, 0 ≤ i → i < 96 → in32 (M 216 (66 + i)))
    (ht : ∀ t, 0 ≤ t → t < M 216 330 → rOn (M 216) k t → (∀ u, 0 ≤ u → u < t → ¬ rOn (M 216) k u) → post t M) (hf : (∀ u, 0 ≤ u → u < M 216 330 → ¬ rOn (M 216) k u) → post (-1) M) : QCm X x (d + 1) 1 yX11_goerOn [(2, 215), (0, k)] M post := by
  have key : ∀ i : Int, 0 ≤ i ∧ i ≤ M 216 330 ∧ (∀ u, 0 ≤ u → u < i → ¬ rOn (M 216) k u) → QRm X x (d + 1) qmX11_goerOn post 2 [(0, (2, 215)), (1, (0, k)), (2, (0, i))] [] M := by
    refine int_up (M 216 330) (fun i hi h => ?_) (fun i hi ih h => ?_)
    · exact TX11_goerOn_2 ⟨i32 (by omega) (by omega), i32 (by omega) (by omega), fun _ => hf (fun u u0 u1 => h.2.2 u u0 (by omega)), fun z => absurd hi (by omega)⟩
    · obtain ⟨c1, c2, c3⟩ := h1 i (by omega) (by omega)
      have nx : ¬ rOn (M 216) k i → ∀ u, 0 ≤ u → u < i + 1 → ¬ rOn (M 216) k u := fun hn u u0 u1 => by
        by_cases z : u = i
        · subst z; exact hn
        · exact h.2.2 u u0 (by omega)
      refine TX11_goerOn_2 ⟨i32 (by omega) (by omega), i32 (by omega) (by omega), fun z => absurd hi (by omega), fun _ => ⟨by omega, by omega, fun a => ⟨by omega, by omega, i32 (by omega) (by omega), fun b => ?_, fun b => ?_⟩, fun a => ⟨c1, ?_⟩⟩⟩
      · exact ih ⟨by omega, by omega, nx (fun z => by have := z.2.1; omega)⟩
      · refine m_cellOf (by omega) c2 (by omega) ⟨fun c => ?_, fun c => ⟨?_, hk, ?_⟩⟩
        · exact ht i (by omega) (by omega) ⟨a, by omega, c⟩ h.2.2
        · have := h2 (16 * M 216 (331 + i) + M 216 (339 + i)) (by omega) (by omega)
          rw [← Int.add_assoc] at this
          exact this
        · exact ih ⟨by omega, by omega, nx (fun z => c z.2.2)⟩
      · exact ih ⟨by omega, by omega, nx (fun z => a z.1)⟩
  exact QC.of qmX11_goerOn_ok rfl (TX11_goerOn_0 (key 0 ⟨by omega, by omega, fun u u0 u1 => by omega⟩))
end Ref41
