theorem kAs {S1 w q : List QRow} {a b : QRow} : S1 ++ [a] ++ [b] ++ w ++ q = S1 ++ (a :: (b :: (w ++ q))) := by simp
theorem kAs2 {S1 y t1 t2 t3 t4 : List QRow} {a b : QRow} : S1 ++ (a :: ((b :: y) ++ t1 ++ t2 ++ t3 ++ t4)) = (S1 ++ [a]) ++ (b :: (y ++ t1 ++ t2 ++ t3 ++ t4)) := by simp
def kE10 : List (Int × Int × Int) := [(195, 1, 2), (195, 0, 2), (174, 1, 2), (174, 0, 2), (171, 2, -1), (169, 2, -1), (167, 2, -1), (165, 2, -1), (151, 10, 1), (17, 1, 2), (17, 0, 2), (3, 1, 2), (3, 0, 2), (2, 1, -1)]
theorem k_RR {X : QX} {d : Nat} {post : Int → QH → Prop} {M : QMem} (hp : ∀ M1 : QMem, (∀ a, 0 ≤ a → a < 27 ∨ 36 < a → M1 a = kN kE10 a) → (∀ e, 0 ≤ e → e < 6 → M1 28 e = 0 ∧ M1 29 e = kN kE10 20 e) → (∀ k, 0 ≤ k → k < 36 → M1 32 k = -1 ∧ M1 33 k = -1) → M1 27 6 = 0 → M1 27 10 = kN kE10 17 5 → M1 27 11 = kN kE10 17 6 → post 0 (kS kT3, M1)) : QC X (d + 6) 214 16461 0 yX10_init [(2, 0)] (kH ([] ++ [((10, 11), [-1, -1, -1, -1, -1, -1, -1, -1, -1, -1, -1])]) 0 M []) post := by
  refine QC.of qmX10_init_ok rfl ?_
  refine k_RR0 (by decide +kernel) (by decide +kernel) ?_
  refine k_RR1 (by decide +kernel) (by decide +kernel) ?_
  refine k_RR2 (by decide +kernel) (by decide +kernel) ?_
  refine k_RR3 (by decide +kernel) (by decide +kernel) ?_
  refine k_RR4 (by decide +kernel) (by decide +kernel) ?_
  refine k_RR5 (by decide +kernel) (by decide +kernel) ?_
  refine k_RR6 (by decide +kernel) (by decide +kernel) ?_
  refine k_RR7 (by decide +kernel) (by decide +kernel) ?_
  refine k_RR8 (by decide +kernel) (by decide +kernel) ?_
  refine k_RR9 (by decide +kernel) (by decide +kernel) ?_
  refine QR.heq (congrArg (fun z => kH ([] ++ (((10, 11), [1, -1, 2, 17, 27, 37, 47, 149, 150, 151, 161]) :: z)) 0 M _) kAs) ?_
  refine qwp_ok qmX10_init_ok.1 [(108, [0, 1])] 4 ?_
  refine k_Trays0 (by decide +kernel) (by decide +kernel) (by decide +kernel) (by decide +kernel) ?_
  refine k_Trays1 (by decide +kernel) (by decide +kernel) (by decide +kernel) (by decide +kernel) ?_
  refine k_Trays2 (by decide +kernel) (by decide +kernel) (by decide +kernel) (by decide +kernel) ?_
  refine k_Trays3 (by decide +kernel) (by decide +kernel) (by decide +kernel) (by decide +kernel) ?_
  refine qwp_ok qmX10_init_ok.1 [(134, [0, 1])] 10 ⟨i32 (by decide) (by decide), i32 (by decide) (by decide), fun _ => ?_, fun z => absurd (by decide) z⟩
  refine QR.heq (congrArg (fun z => kH ([] ++ (((10, 11), [1, -1, 2, 17, 27, 37, 47, 149, 150, 151, 161]) :: z)) 0 M _) kAs2) ?_
  refine k_Imgs0 (by decide +kernel) (by decide +kernel) (by decide +kernel) (by decide +kernel) ?_
  refine k_Imgs1 (by decide +kernel) (by decide +kernel) (by decide +kernel) (by decide +kernel) ?_
  refine qwp_ok qmX10_init_ok.1 [(158, [0])] 6 ⟨i32 (by decide) (by decide), i32 (by decide) (by decide), fun _ => ?_, fun z => absurd (by decide) z⟩
  refine QR.heq (h' := kH kT3 0 M kE10) ?_ ?_
  · refine congr (congrArg (fun t => kH t 0 M) ?_) ?_
    · decide +kernel
    · decide +kernel
  refine qwp_ok qmX10_init_ok.1 [(162, [0])] 4 ⟨rfl, ?_⟩
  refine QR.top (b := 27) rfl ?_
  refine qwp_ok qmX10_init_ok.1 [(166, [0])] 4 ⟨rfl, ?_⟩
  refine QR.top (b := 17) rfl ?_
  have e : ∀ a, 0 ≤ a → kM 0 M kE10 a = kN kE10 a := fun a ha => by funext j; unfold kM; rw [if_pos ha]
  refine qwp_ok qmX10_init_ok.1 [] 6 ⟨rfl, QC.mono (u_begin (X := X) (M := kM 0 M kE10) (post := fun _ M1 => post 0 (kS kT3, M1)) (fun M1 b1 b2 b3 b4 b5 b6 => hp M1 (fun a a0 a1 => by rw [b1 a a1, e a a0]) (fun q q0 q1 => ?_) b3 b4 ?_ ?_)) (fun x h u => by obtain ⟨M2, rfl, u⟩ := u; exact u)⟩
  · rw [e 20 (by decide)] at b2; exact b2 q q0 q1
  · rw [b5, e 17 (by decide)]
  · rw [b6, e 17 (by decide)]
