def lO (b fl fa : Nat) (adK adV : Nat → Nat) : Nat → Nat := fun n => if n = 0 then b else if n ≤ 100 then adK (n - 1) else if n ≤ 199 then adV (n - 101) else if n = 200 then fl else fa
theorem q_begin {p : Program} {s : State} {m : MethodId} {meth : Method} {c : Code} (l : Launch) {b L : Nat} {xs : Nat → Int32} (hL : L ≤ 3072) (C0 : lw_At p s m meth c b L xs) : ∃ X : QX, qxl X = l ∧ qxH X = s.heap ∧ qxo X 0 = b ∧ qxL X = L ∧ QT X s := by
  obtain ⟨hx, hb, hr, hml, hown, hts, hX, hbl, hlocks, hgv, hnm⟩ := C0
  have hF : ∀ w ∈ lFl, w.before #[Value.ref b] s = true := flat_of_before _ hgv
  have hA : ∀ a : Nat, a < s.heap.size → ¬ (fun q : Nat => s.heap.size ≤ q) a := fun a h => Nat.not_le.mpr h
  obtain ⟨c0, i0, k0⟩ := u_known (C := RX0) (T := TX0) (N := 3) (n := 3) hts inX0 (hts _ lNw0)
  obtain ⟨c1, i1, k1⟩ := u_known (C := RX1) (T := TX1) (N := 12) (n := 12) hts inX1 (hts _ lNw1)
  obtain ⟨c2, i2, k2⟩ := u_known (C := RX2) (T := TX2) (N := 3) (n := 3) hts inX2 (hts _ lNw2)
  obtain ⟨c3, i3, k3⟩ := u_known (C := RX3) (T := TX3) (N := 3) (n := 3) hts inX3 (hts _ lNw3)
  obtain ⟨c4, i4, k4⟩ := u_known (C := RX4) (T := TX4) (N := 4) (n := 4) hts inX4 (hts _ lNw4)
  obtain ⟨c5, i5, k5⟩ := u_known (C := RX5) (T := TX5) (N := 6) (n := 6) hts inX5 (hts _ lNw5)
  obtain ⟨c6, i6, k6⟩ := u_known (C := RX6) (T := TX6) (N := 12) (n := 12) hts inX6 (hts _ lNw6)
  obtain ⟨c7, i7, k7⟩ := u_known (C := RX7) (T := TX7) (N := 8) (n := 8) hts inX7 (hts _ lNw7)
  obtain ⟨c8, i8, k8⟩ := u_known (C := RX8) (T := TX8) (N := 3) (n := 3) hts inX8 (hts _ lNw8)
  obtain ⟨c9, i9, k9⟩ := u_known (C := RX9) (T := TX9) (N := 17) (n := 17) hts inX9 (hts _ lNw9)
  obtain ⟨c10, i10, k10⟩ := u_known (C := RX10) (T := TX10) (N := 11) (n := 11) hts inX10 (hts _ lNw10)
  obtain ⟨c11, i11, k11⟩ := u_known (C := RX11) (T := TX11) (N := 31) (n := 31) hts inX11 (hts _ lNw11)
  obtain ⟨a0, b0, d0, e0, f0, g0⟩ := Cond.arrayClass_spec (args := #[Value.ref b]) (first := s) (o := none) (s := s) (idx := []) (hts _ (List.mem_filter.mp qarc_100).1)
  obtain ⟨a1, b1, d1, e1, f1, g1⟩ := Cond.arrayClass_spec (args := #[Value.ref b]) (first := s) (o := none) (s := s) (idx := []) (hts _ (List.mem_filter.mp qarc_101).1)
  obtain ⟨a2, b2, d2, e2, f2, g2⟩ := Cond.arrayClass_spec (args := #[Value.ref b]) (first := s) (o := none) (s := s) (idx := []) (hts _ (List.mem_filter.mp qarc_102).1)
  obtain ⟨a3, b3, d3, e3, f3, g3⟩ := Cond.arrayClass_spec (args := #[Value.ref b]) (first := s) (o := none) (s := s) (idx := []) (hts _ (List.mem_filter.mp qarc_103).1)
  obtain ⟨d4, a4, b4, e4, _, f4, g4, h4⟩ := Cond.arrayOver_spec (args := #[Value.ref b]) (first := s) (o := none) (s := s) (idx := []) (hts _ lAoRX6)
  obtain ⟨d5, a5, b5, e5, _, f5, g5, h5⟩ := Cond.arrayOver_spec (args := #[Value.ref b]) (first := s) (o := none) (s := s) (idx := []) (hts _ lAoRX8)
  obtain ⟨d6, a6, b6, e6, _, f6, g6, h6⟩ := Cond.arrayOver_spec (args := #[Value.ref b]) (first := s) (o := none) (s := s) (idx := []) (hts _ lAoRX0)
  obtain ⟨adK, adV, hS, hE⟩ := vk_Sof (args := #[Value.ref b]) (s := s) (N := 16) (tm := lTm) (len := qsn) (byt := qsb) (A := fun q : Nat => s.heap.size ≤ q) lTm_len (fun i hi => hF _ (lTm_ex i hi)) (fun i hi => hF _ (lTm_co i hi)) (fun i hi => hF _ (lTm_ar i hi)) (fun i hi => hF _ (lTm_le i hi)) (fun i hi j hj => hF _ (lTm_el i hi j hj)) (fun i j hi hj hij => (lTm_ne i hi j hj hij).imp (hF _) (hF _)) hA
  obtain ⟨v, hv, hvr⟩ := Cond.isRef_spec (hF _ lSt6)
  have hvv : v = .null ∨ ∃ a, v = .ref a := by
    cases v with
    | null => exact Or.inl rfl
    | ref a => exact Or.inr ⟨a, rfl⟩
    | _ => simp [Value.isRef] at hvr
  obtain ⟨fl, fa, hfl⟩ : ∃ fl fa : Nat, v = if fl = 0 then Value.null else Value.ref fa := by
    rcases hvv with h | ⟨a, h⟩
    · exact ⟨0, 0, by rw [h]; rfl⟩
    · exact ⟨1, a, by rw [h]; rfl⟩
  refine ⟨(l, ((fun k => match k with | 0 => c0 | 1 => c1 | 2 => c2 | 3 => c3 | 4 => c4 | 5 => c5 | 6 => c6 | 7 => c7 | 8 => c8 | 9 => c9 | 10 => c10 | _ => c11), (fun k => match k with | 0 => i0 | 1 => i1 | 2 => i2 | 3 => i3 | 4 => i4 | 5 => i5 | 6 => i6 | 7 => i7 | 8 => i8 | 9 => i9 | 10 => i10 | _ => i11)), s.heap, (fun k => match k with | 100 => a0 | 101 => a1 | 102 => a2 | 103 => a3 | 104 => a4 | 105 => a5 | _ => a6), lO b fl fa adK adV, L, xs), rfl, rfl, rfl, rfl, ⟨fun k q hq => ?_, fun k q hq => ?_⟩, ⟨hts _ lAoRX6, hts _ lAoRX8, hts _ lAoRX0⟩, hX, ⟨hbl, hL⟩, ?_, ?_, ?_, ?_⟩
  · match k, hq with
    | 0, hq => cases hq; exact k0
    | 1, hq => cases hq; exact k1
    | 2, hq => cases hq; exact k2
    | 3, hq => cases hq; exact k3
    | 4, hq => cases hq; exact k4
    | 5, hq => cases hq; exact k5
    | 6, hq => cases hq; exact k6
    | 7, hq => cases hq; exact k7
    | 8, hq => cases hq; exact k8
    | 9, hq => cases hq; exact k9
    | 10, hq => cases hq; exact k10
    | 11, hq => cases hq; exact k11
    | k + 12, hq => simp [vwCl] at hq
  · match k, hq with
    | 0, hq => cases hq; exact ⟨fun n z => ⟨fun k h => (by cases h), b0, f0, d0, g0⟩, e0⟩
    | 1, hq => cases hq; exact ⟨fun n z => ⟨fun k h => (by cases h), b1, f1, d1, g1⟩, e1⟩
    | 2, hq => cases hq; exact ⟨fun n z => ⟨fun k h => (by cases h), b2, f2, d2, g2⟩, e2⟩
    | 3, hq => cases hq; exact ⟨fun n z => ⟨fun k h => (by cases h), b3, f3, d3, g3⟩, e3⟩
    | 4, hq => cases hq; exact ⟨fun n z => ⟨fun k h => (by cases h), b4, f4, d4, g4⟩, ⟨b4, d4, f4, g4, e4, h4⟩⟩
    | 5, hq => cases hq; exact ⟨fun n z => ⟨fun k h => (by cases h), b5, f5, d5, g5⟩, ⟨b5, d5, f5, g5, e5, h5⟩⟩
    | 6, hq => cases hq; exact ⟨fun n z => ⟨fun k h => (by cases h), b6, f6, d6, g6⟩, ⟨b6, d6, f6, g6, e6, h6⟩⟩
    | k + 7, hq => simp [qtys] at hq
  · intro e he
    obtain ⟨t1, t2⟩ := lTm_tm e he
    have e1 : lO b fl fa adK adV (1 + e.2.2.2) = adK e.2.2.2 := by
      unfold lO
      rw [if_neg (by omega), if_pos (by omega)]; congr 1; omega
    show vk_R (qown e.1) e.2.1 e.2.2.1 (lO b fl fa adK adV (1 + e.2.2.2)) s
    rw [e1]
    refine vk_R.of (A := #[Value.ref b]) (hts _ (lTm_sr e he)) ?_
    rcases t2 with t2 | t2
    · rw [← t2]; exact hE _ t1
    · exact va_eqR (hF _ t2) (hE _ t1)
  · have q1 : ∀ i : Nat, i < 16 → lO b fl fa adK adV (1 + i) = adK i := fun i hi => by
      unfold lO
      rw [if_neg (by omega), if_pos (by omega)]; congr 1; omega
    have q2 : ∀ i : Nat, i < 16 → lO b fl fa adK adV (101 + i) = adV i := fun i hi => by
      unfold lO
      rw [if_neg (by omega), if_neg (by omega), if_pos (by omega)]; congr 1; omega
    refine ⟨fun i hi => ?_, fun i j hi hj hij => ?_⟩
    · have := hS.1 i hi
      show va_O "java/lang/String" (lO b fl fa adK adV (1 + i)) _ _ _ ∧ va_OF "java/lang/String" "coder" "B" (.int 0) (lO b fl fa adK adV (1 + i)) _ _ _ ∧ va_OF "java/lang/String" "value" "[B" (.ref (lO b fl fa adK adV (101 + i))) (lO b fl fa adK adV (1 + i)) _ _ _ ∧ va_T .byte (lO b fl fa adK adV (101 + i)) _ _ _ _ _
      rw [q1 i hi, q2 i hi]; exact this
    · have hij' : lO b fl fa adK adV (1 + i) = lO b fl fa adK adV (1 + j) := hij
      rw [q1 i hi, q1 j hj] at hij'
      exact hS.2 i j hi hj hij'
  · exact va_Zof (hts _ lSt1) (hts _ lSt2) (va_eqt (hF _ lSt3)) hA
  · have := va_Zof (args := #[Value.ref b]) (A := fun q : Nat => s.heap.size ≤ q) (hts _ lSt4) (hts _ lSt5) hv hA
    rw [hfl] at this
    by_cases z : fl = 0
    · subst z; exact this
    · rw [if_neg z] at this
      have e1 : lO b fl fa adK adV 200 = fl := rfl
      have e2 : lO b fl fa adK adV 201 = fa := rfl
      show va_Z _ _ _ (qrv _ (if lO b fl fa adK adV 200 = 0 then -1 else -203)) _ s s.heap
      rw [e1, if_neg z]
      exact this
