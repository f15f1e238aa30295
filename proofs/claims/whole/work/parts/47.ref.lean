theorem rStep_at (A : Int → Int) (t j : Int) (hj : j ≠ 339 + t) : rStep A t j = A j := by
  rw [rStep]; split
  · exact aup_ne hj
  · rfl
theorem rGoes_at (A : Int → Int) (t j : Int) (h1 : j ≠ 339 + t) (h2 : j ≠ 347 + t) (h3 : j ≠ 355 + t) : rGoes A t j = A j := by
  rw [rGoes]; repeat' split
  · rw [aup_ne h2]; exact rStep_at A t j h1
  · exact rStep_at A t j h1
  · rw [aup_ne h3]; exact rStep_at A t j h1
section Ref47
variable {X : QX} {x : Int} {d : Nat} {post : Int → QMem → Prop} {M : QMem}
theorem m_goes (hL : rLandOk (M 216)) (hS : rStOk (M 216)) {t : Int} (ht : 0 ≤ t ∧ t < M 216 330) (h0 : M 216 (347 + t) = 0)
    (hp : ∀ M1 : QMem, (∀ a, a ≠ 216 → M1 a = M a) → M1 216 = rGoes (M 216) t → (rGoes (M 216) t (347 + t) = 1 → post 1 M1) ∧ (rGoes (M 216) t (347 + t) ≠ 1 → post 0 M1)) : QCm X x (d + 2) 1 yX11_goes [(2, 215), (0, t)] M post := by
  have a3 := hL.2.2.1
  have hcl := hL.cells
  have hT := hS.2.2.2.1
  have gg := hS.2.2.2.2.1 t ht.1 ht.2
  have al := gg.2.2.2 h0
  have hl := hS.2.1.1 (M 216 (331 + t)) (by omega) (by omega)
  -- the end: what is answered
  have fin : ∀ M1 : QMem, (∀ a, a ≠ 216 → M1 a = M a) → M1 216 = rGoes (M 216) t → (M1 216 (347 + t) = 0 ∨ M1 216 (347 + t) = 1) → QRm X x (d + 2) qmX11_goes post 152 [(0, (2, 215)), (1, (0, t))] [] M1 := by
    intro M1 h1 h2 h3
    have := hp M1 h1 h2
    rw [h2] at h3
    refine UX11_goes_152 ⟨(by omega), (by omega), fun z => UX11_goes_171 ⟨Or.inr rfl, this.1 (by rw [← h2]; exact z)⟩, fun z => ⟨?_, UX11_goes_171 ⟨Or.inl rfl, this.2 (by rw [← h2]; exact z)⟩⟩⟩
    rw [h2]; rcases h3 with z | z <;> rw [z] <;> exact ⟨by decide, by decide⟩
  have mid : ∀ (M1 : QMem) (w : Int), (∀ a, a ≠ 216 → M1 a = M a) → M1 216 = rStep (M 216) t → (w = 1 ∧ rWent (M 216) t ∨ w = 0 ∧ ¬ rWent (M 216) t) → QRm X x (d + 2) qmX11_goes post 82 [(0, (2, 215)), (1, (0, t)), (2, (0, M 216 (331 + t))), (4, (0, w))] [] M1 := by
    intro M1 w h1 h2 h3
    have r1 : rStep (M 216) t (60 + M 216 (331 + t)) = M 216 (60 + M 216 (331 + t)) := rStep_at _ _ _ (by omega)
    have r2 : rStep (M 216) t (347 + t) = 0 := by rw [rStep_at _ _ _ (by omega)]; exact h0
    have r3 : rStep (M 216) t (355 + t) = M 216 (355 + t) := rStep_at _ _ _ (by omega)
    have r4 : -1 ≤ rStep (M 216) t (339 + t) ∧ rStep (M 216) t (339 + t) < 16 := by
      rw [rStep]; split
      · rename_i z; rw [aup_self]; have := z.1; omega
      · omega
    have last : ¬ (0 ≤ rStep (M 216) t (339 + t) ∧ rStep (M 216) t (339 + t) = M 216 (60 + M 216 (331 + t)) - 1) → QRm X x (d + 2) qmX11_goes post 133 [(0, (2, 215)), (1, (0, t)), (4, (0, w))] [] M1 := by
      intro hn
      refine UX11_goes_133 ⟨fun z => ⟨(by omega), (by omega), fin _ (fun a ha => by rw [qup_row ha]; exact h1 a ha) ?_ ?_⟩, fun z => ⟨(i32 (by omega) (by omega)), fin _ h1 ?_ ?_⟩⟩
      · rw [qup_aup, h2, r3, rGoes, if_neg hn, if_neg]
        rcases h3 with ⟨y, _⟩ | ⟨_, y⟩
        · omega
        · exact y
      · rw [qup_aup, aup_ne (by omega), h2, r2]; exact Or.inl rfl
      · rw [h2, rGoes, if_neg hn, if_pos]
        rcases h3 with ⟨_, y⟩ | ⟨y, _⟩
        · exact y
        · omega
      · rw [h2, r2]; exact Or.inl rfl
    refine UX11_goes_82 ?_
    rw [h2, r1]
    refine ⟨(by omega), (by omega), (i32 (by omega) (by omega)), fun z => last (fun y => by omega), fun z => ⟨(by omega), (by omega), fun y => ⟨(by omega), (by omega), fin _ (fun a ha => by rw [qup_row ha]; exact h1 a ha) ?_ ?_⟩, fun y => ⟨(i32 (by omega) (by omega)), last (fun q => y q.2)⟩⟩⟩
    · rw [qup_aup, h2, rGoes, if_pos ⟨(by omega), y⟩]
    · rw [qup_aup, aup_self]; exact Or.inr rfl
  have no : ¬ rWent (M 216) t → QRm X x (d + 2) qmX11_goes post 63 [(0, (2, 215)), (1, (0, t)), (2, (0, M 216 (331 + t))), (3, (0, M 216 (339 + t) + 1))] [] M := by
    intro hn
    refine UX11_goes_63 (UX11_goes_64 ⟨fun _ => mid M 0 (fun _ _ => rfl) ?_ (Or.inr ⟨rfl, hn⟩), fun z => absurd rfl z⟩)
    rw [rStep, if_neg hn]
  refine QC.of qmX11_goes_ok rfl (UX11_goes_0 ⟨(by omega), (by omega), (by omega), (by omega), (by omega), (by omega), (i32 (by omega) (by omega)), (i32 (by omega) (by omega)), fun z => no (fun y => by have := y.1; omega), fun z => ⟨(by omega), (by omega), ?_⟩⟩)
  have hh := (hS.2.1.2.2.1 (16 * M 216 (331 + t) + (M 216 (339 + t) + 1)) (by omega) (by omega)).1
  rw [← Int.add_assoc] at hh
  refine m_goerOn (i32 (by omega) (by omega)) hS.2.2.2.1 (fun t t0 t1 => ?_) (fun i i0 i1 => ?_) (fun u u0 u1 h1 h2 => ⟨fun y => absurd y (by omega), fun _ => ⟨(i32 (by omega) (by omega)), no (fun y => y.2 u u0 u1 h1)⟩⟩) (fun h => ⟨fun _ => UX11_goes_64 ⟨fun y => absurd y (by decide), fun _ => ⟨(i32 (by omega) (by omega)), (by omega), (by omega), mid _ 1 (fun a ha => qup_row ha) ?_ (Or.inl ⟨rfl, (by omega), h⟩)⟩⟩, fun y => absurd rfl y⟩)
  · have h := hS.2.2.2.2.1 t t0 t1
    exact ⟨(i32 (by omega) (by omega)), (by omega), (by omega)⟩
  · have := hS.2.1.2.2.1 i i0 i1; exact (i32 (by omega) (by omega))
  · rw [qup_aup, rStep, if_pos ⟨(by omega), h⟩]
end Ref47
