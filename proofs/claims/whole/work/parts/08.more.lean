/-- what System.arraycopy leaves, of int arrays -/
def qcpy (M : QMem) (b a sp dp n : Int) : QMem := fun c j => if c = a ∧ dp ≤ j ∧ j < dp + n then M b (sp + (j - dp)) else M c j
section QMore
variable {X : QX} {d : Nat} {mx : Nat × Nat} {m : QMeth} {post : Int → QH → Prop} {cs : Nat × Nat} {pc : Nat} {lv : List (Nat × QV)} {st : List QV} {h : QH}
def qak (t : ArrayType) : Nat := match t with
  | .int => 100 | .long => 101 | .byte => 102 | .boolean => 103 | _ => 0
theorem qs_newarray {at' : ArrayType} {n : Int} (hat : 100 ≤ qak at') (harr : Cond.arrayClass (qty (qak at')) ∈ qtbl) (hn : 0 ≤ n) (hn2 : n ≤ 100000) (h0 : 0 ≤ h.1.1) (hf : cs.1 + 1 ≤ mx.1 ∧ cs.2 + n.toNat ≤ mx.2) (hd : decode (qmc m) pc = .ok (.newarray at', 2))
    (kk : QR X d mx m post (cs.1 + 1, cs.2 + n.toNat) (pc + 2) lv ((2, h.1.1) :: st) (qnew h (qak at') n)) : QR X d mx m post cs pc lv ((0, n) :: st) h := by
  intro p e R s mi ar be me c H lo ls hR hB hH hL hl
  have hB0 := hB
  obtain ⟨hx, hb, hml, hr, hlk, hown, hts, hnme, hT⟩ := hB
  have h32 : in32 n := ⟨by omega, by omega⟩
  have hkd : qak at' ≤ 106 ∧ newarray.typeOf at' = qty (qak at') ∧ qkd (qty (qak at')) = qel (qak at') ∧ componentBytes (qty (qak at')) ≤ 8 ∧ va_RA s (qxA X (qak at')) (qty (qak at')) = (s.vm.findClass ("[" ++ (qty (qak at')).toString) = some (qxA X (qak at'))) ∧ defaultValue (qty (qak at')) = qcv X (qel (qak at'), 0) ∧ qel (qak at') ≠ 2 := by
    cases at' <;> first | exact ⟨by decide, rfl, rfl, by decide, rfl, rfl, by decide⟩ | exact absurd hat (by decide)
  obtain ⟨k1, k2, k3, k4, k5, k6, k7⟩ := hkd
  have hA := qarrof (kd := qak at') hT hat k1
  rw [k5] at hA
  refine va_newaK (n := Int32.ofInt n) (N := n.toNat) hx hb (by rw [k2]; exact hts _ harr) rfl hd rfl (fun z => ?_) (q_clamp h32) (by
      rw [k2]
      have := Nat.mul_le_mul (show n.toNat ≤ 100000 by omega) k4
      omega) (by rw [hR.2.2.1]; exact hf.1) (by rw [hR.2.2.2]; exact hf.2) rfl fun H1 cA e1 z1 o1 hAr hNm => ?_
  · have := (q_lt h32 (show in32 0 from ⟨by decide, by decide⟩)).mp z
    omega
  · rw [k2] at e1 hNm
    have hcA : cA = qxA X (qak at') := Option.some.inj (hNm.symm.trans hA.2)
    subst hcA
    have hsz : H.size = (qxH X).size + h.1.1.toNat := by have := hH.1; omega
    have hH1 : QHp X (qnew h (qak at') n) H1 := by
      refine qhp_new hH (by omega) z1 o1 (fun _ => ?_) h0
      refine ⟨fun hz => ?_, fun _ => ?_⟩
      · rw [show ((h.1.1.toNat : Nat) : Int) = h.1.1 by omega, qnew_sh] at hz
        exact absurd hz (by show ¬ qak at' < 100; omega)
      · rw [show ((h.1.1.toNat : Nat) : Int) = h.1.1 by omega, qnew_sh, ← hsz]
        refine ⟨k1, hn, by show n < _; omega, ?_⟩
        rw [e1]
        show some (arrV _ n.toNat _) = some (arrV _ n.toNat _)
        congr 2
        funext j
        rw [qnew_val, if_neg k7]
        exact k6
    have := kk p e R s mi ar be me c H1 lo ls hR hB0 hH1 hL hl
    rw [List.map_cons, qcv_ref h0, ← hsz] at this
    exact this
theorem qs_anewarray {i kd : Nat} {C : String} {n : Int} (hkd : (kd = 104 ∧ C = RX6) ∨ (kd = 105 ∧ C = RX8) ∨ (kd = 106 ∧ C = RX0)) (hcl : Cond.classLink (qown (qmo m)) i C ∈ qtbl) (hn : 0 ≤ n) (hn2 : n ≤ 100000) (h0 : 0 ≤ h.1.1) (hf : cs.1 + 1 ≤ mx.1 ∧ cs.2 + n.toNat ≤ mx.2) (hd : decode (qmc m) pc = .ok (.anewarray i, 3))
    (kk : QR X d mx m post (cs.1 + 1, cs.2 + n.toNat) (pc + 3) lv ((2, h.1.1) :: st) (qnew h kd n)) : QR X d mx m post cs pc lv ((0, n) :: st) h := by
  intro p e R s mi ar be me c H lo ls hR hB hH hL hl
  have hB0 := hB
  obtain ⟨hx, hb, hml, hr, hlk, hown, hts, hnme, hT⟩ := hB
  have h32 : in32 n := ⟨by omega, by omega⟩
  have hk : 100 ≤ kd ∧ kd ≤ 106 ∧ qty kd = .object C ∧ qel kd = 2 ∧ va_AO C s := by
    rcases hkd with ⟨rfl, rfl⟩ | ⟨rfl, rfl⟩ | ⟨rfl, rfl⟩
    · exact ⟨by decide, by decide, rfl, rfl, hT.2.1.1⟩
    · exact ⟨by decide, by decide, rfl, rfl, hT.2.1.2.1⟩
    · exact ⟨by decide, by decide, rfl, rfl, hT.2.1.2.2⟩
  obtain ⟨k0, k1, k2, k3, k4⟩ := hk
  have hA := (qarrof (kd := kd) hT k0 k1).2
  rw [k2] at hA
  obtain ⟨kA', comp', -, -, -, hA⟩ := hA
  refine W.anew (n := Int32.ofInt n) hx hb hown (hts _ hcl) (va_AO.use k4) rfl hd rfl (fun z => ?_) (by rw [q_clamp h32]; omega) (by rw [hR.2.2.1]; exact hf.1) (by rw [q_clamp h32, hR.2.2.2]; exact hf.2) fun cA kA comp f1 f2 f3 f4 => ?_
  · have := (q_lt h32 (show in32 0 from ⟨by decide, by decide⟩)).mp z
    omega
  · have hcA : cA = qxA X kd := Option.some.inj (f1.symm.trans hA)
    subst hcA
    rw [q_clamp h32]
    generalize hH1e : H.push ({ cls := qxA X kd, slots := Array.replicate n.toNat .null, vm := .none } : Cell) = H1
    have z1 : H1.size = H.size + 1 := by rw [← hH1e, Array.size_push]
    have e1 : H1[H.size]? = some (arrV (qxA X kd) n.toNat (fun _ => .null)) := by rw [← hH1e, Array.getElem?_push_size, ← arrV_new]
    have o1 : ∀ q : Nat, q < H.size → H1[q]? = H[q]? := fun q hq => by rw [← hH1e, Array.getElem?_push, if_neg (Nat.ne_of_lt hq)]
    have hsz : H.size = (qxH X).size + h.1.1.toNat := by have := hH.1; omega
    have hH1 : QHp X (qnew h kd n) H1 := by
      refine qhp_new hH (by omega) z1 o1 (fun _ => ?_) h0
      refine ⟨fun hz => ?_, fun _ => ?_⟩
      · rw [show ((h.1.1.toNat : Nat) : Int) = h.1.1 by omega, qnew_sh] at hz
        exact absurd hz (by show ¬ kd < 100; omega)
      · rw [show ((h.1.1.toNat : Nat) : Int) = h.1.1 by omega, qnew_sh, ← hsz]
        refine ⟨k1, hn, by show n < _; omega, ?_⟩
        rw [e1]
        show some (arrV _ n.toNat _) = some (arrV _ n.toNat _)
        congr 2
        funext j
        rw [qnew_val]
        show _ = qcv X (qel kd, if qel kd = 2 then -1 else 0)
        rw [k3]
        rfl
    have := kk p e R s mi ar be me c H1 lo ls hR hB0 hH1 hL hl
    rw [List.map_cons, qcv_ref h0, ← hsz] at this
    exact this
theorem qs_arraycopy {i : Nat} {a b sp dp n : Int} (hlink : Cond.methodLink (qown (qmo m)) i arraycopyName ∈ qtbl) (hnat : Cond.native arraycopyName ∈ qtbl) (hstat : Cond.static arraycopyName ∈ qtbl) (hini : Cond.initialized "java/lang/System" ∈ qtbl)
    (hsa : (h.1.2.1 a).1 = 100) (hsb : (h.1.2.1 b).1 = 100) (h1 : 0 ≤ sp) (h2 : 0 ≤ dp) (h3 : 0 ≤ n) (h4 : sp + n ≤ (h.1.2.1 b).2) (h5 : dp + n ≤ (h.1.2.1 a).2) (hdd : 1 ≤ d) (hw : qwt st ≤ 8) (hd : decode (qmc m) pc = .ok (.invokestatic i, 3))
    (kk : QR X d mx m post cs (pc + 3) lv st (h.1, qcpy h.2 b a sp dp n)) : QR X d mx m post cs pc lv ((0, n) :: (0, dp) :: (2, a) :: (0, sp) :: (2, b) :: st) h := by
  intro p e R s mi ar be me c H lo ls hR hB hH hL hl
  have hB0 := hB
  obtain ⟨a0, an, la0, la1, hca⟩ := qarr hH hsa (by decide) (by decide)
  obtain ⟨b0, bn, lb0, lb1, hcb⟩ := qarr hH hsb (by decide) (by decide)
  obtain ⟨hx, hb, hml, hr, hlk, hown, hts, hnme, hT⟩ := hB
  have i1 : in32 sp := ⟨by omega, by omega⟩
  have i2 : in32 dp := ⟨by omega, by omega⟩
  have i3 : in32 n := ⟨by omega, by omega⟩
  have nz : ∀ z : Int, in32 z → 0 ≤ z → ¬ Int32.ofInt z < 0 := fun z hz h0 q => by
    have := (q_lt hz (show in32 0 from ⟨by decide, by decide⟩)).mp q
    omega
  obtain ⟨-, k0, hk0, cm0, hkk0⟩ := (qarrof (kd := 100) hT (by decide) (by decide)).1 (h.1.2.1 b).2.toNat (fun j => qcv X (qel 100, qval h (qel 100) b j))
  obtain ⟨-, k1, hk1, cm1, hkk1⟩ := (qarrof (kd := 100) hT (by decide) (by decide)).1 (h.1.2.1 a).2.toNat (fun j => qcv X (qel 100, qval h (qel 100) a j))
  have hcs : ∀ j, j < (h.1.2.1 b).2.toNat → (arrV (qxA X 100) (h.1.2.1 b).2.toNat (fun j => qcv X (qel 100, qval h (qel 100) b j))).slots[j]? = some ((fun v : Value => v) (qcv X (0, h.2 b j))) := fun j hj => arrV_read _ _ hj
  simp only [List.map_cons]
  rw [qcv_ref a0, qcv_ref b0]
  intro T hT0 X0
  obtain ⟨vm', X', step⟩ := X0.arraycopy hx hown (hts _ hlink) (hts _ hnat) (hts _ hstat) (hts _ hini) (srcPos := Int32.ofInt sp) (destPos := Int32.ofInt dp) (n := Int32.ofInt n) (by rw [hT0]; exact hcb) (by rw [hT0]; exact hca)
    (fun _ h => by cases h) (fun _ h => by cases h) (fun h => by cases h) (fun h => by cases h) hk0 hk1 hkk0 hkk1 (by simp [refKind, qty]) (nz sp i1 h1) (nz dp i2 h2) (nz n i3 h3)
    (by rw [q32 i1, q32 i3, arrV_size]; omega)
    (by rw [q32 i2, q32 i3, arrV_size]; omega)
    (fun vm₁ _ j hj => by
      rw [q_clamp i3] at hj
      rw [Array.getD_eq_getD_getElem?, q_clamp i1, hcs _ (by omega)]
      exact ⟨rfl, trivial⟩)
    (g := F0 mi pc ls (qcv X (0, n) :: qcv X (0, dp) :: .ref ((qxH X).size + a.toNat) :: qcv X (0, sp) :: .ref ((qxH X).size + b.toNat) :: st.map (qcv X))) rfl (by rw [hml]; exact hl.1) (rest := st.map (qcv X)) rfl (by rw [hb]; exact hd) (by omega) (by
      have := lv_room (m := mi) (pc := pc) (ls := ls) (rest := ([] : List Value)) (st := st.map (qcv X)) (by rw [qwsum]; exact hw)
      have e9 : nativeFrameWords "java/lang/System" "arraycopy" 5 = 7 := by decide +kernel
      rw [e9]
      have : 2 * (F0 mi pc ls (qcv X (0, n) :: qcv X (0, dp) :: Value.ref ((qxH X).size + a.toNat) :: qcv X (0, sp) :: .ref ((qxH X).size + b.toNat) :: st.map (qcv X))).monitorRoom = 0 := rfl
      omega)
  have e1 : copied (arrV (qxA X 100) (h.1.2.1 b).2.toNat (fun j => qcv X (qel 100, qval h (qel 100) b j))) (arrV (qxA X 100) (h.1.2.1 a).2.toNat (fun j => qcv X (qel 100, qval h (qel 100) a j))) (Int32.ofInt sp) (Int32.ofInt dp) (Int32.ofInt n) = arrV (qxA X 100) (h.1.2.1 a).2.toNat (fun j => va_cpy (fun j : Nat => qcv X (0, h.2 b j)) (fun j : Nat => qcv X (0, h.2 a j)) sp.toNat dp.toNat n.toNat j) := by
    rw [← q_clamp i1, ← q_clamp i2, ← q_clamp i3]
    exact va_copiedX (fun v : Value => v) _ (qxA X 100) (fun j : Nat => qcv X (0, h.2 b j)) (fun j : Nat => qcv X (0, h.2 a j)) hcs (by rw [q_clamp i1, q_clamp i3]; omega)
  rw [e1] at X' step
  have hl9 : (qxH X).size + a.toNat < H.size := (Array.getElem?_eq_some_iff.mp hca).1
  generalize hce : arrV (qxA X 100) (h.1.2.1 a).2.toNat (fun j => va_cpy (fun j : Nat => qcv X (0, h.2 b j)) (fun j : Nat => qcv X (0, h.2 a j)) sp.toNat dp.toNat n.toNat j) = cell9 at X' step
  have hheap : ((T.setVm vm').setCell ((qxH X).size + a.toNat) cell9).heap = H.setIfInBounds ((qxH X).size + a.toNat) cell9 := by rw [← hT0]; rfl
  have oq : ∀ q : Nat, q ≠ (qxH X).size + a.toNat → (H.setIfInBounds ((qxH X).size + a.toNat) cell9)[q]? = H[q]? := fun q hq => by simp [Array.getElem?_setIfInBounds, Ne.symm hq]
  have hH1 : QHp X (h.1, qcpy h.2 b a sp dp n) (H.setIfInBounds ((qxH X).size + a.toNat) cell9) := by
    refine qhp_put hH rfl rfl ⟨a0, an⟩ (fun c hc j => ⟨rfl, by simp [qcpy, hc]⟩) (by simp) oq ⟨fun hz => ?_, fun _ => ?_⟩
    · rw [show ((a.toNat : Nat) : Int) = a by omega, hsa] at hz; omega
    · rw [show ((a.toNat : Nat) : Int) = a by omega, hsa]
      refine ⟨by decide, la0, la1, ?_⟩
      rw [show (H.setIfInBounds ((qxH X).size + a.toNat) cell9)[(qxH X).size + a.toNat]? = some cell9 by simp [Array.getElem?_setIfInBounds, hl9], ← hce]
      congr 2
      funext j
      show va_cpy (fun j : Nat => qcv X (0, h.2 b j)) (fun j : Nat => qcv X (0, h.2 a j)) sp.toNat dp.toNat n.toNat j = qcv X (0, qcpy h.2 b a sp dp n a j)
      unfold va_cpy qcpy
      by_cases hj : dp.toNat ≤ j ∧ j < dp.toNat + n.toNat
      · rw [if_pos hj, if_pos ⟨rfl, by omega, by omega⟩]
        show qcv X (0, h.2 b ((sp.toNat + (j - dp.toNat) : Nat) : Int)) = _
        rw [show ((sp.toNat + (j - dp.toNat) : Nat) : Int) = sp + ((j : Int) - dp) by omega]
      · rw [if_neg hj, if_neg (by omega)]
  obtain ⟨t, a1, b1⟩ := kk p e R s mi ar be me c _ _ ls hR hB0 hH1 (fun q hq => by
      rcases List.mem_append.mp hq with hq | hq
      · exact hL q hq
      · obtain ⟨z, -, hz⟩ := List.mem_map.mp hq
        rw [← hz]
        exact Nat.le_add_right _ _) hl _ hheap X'
  exact ⟨t, step t a1, b1⟩
/-- the law's own script -/
theorem qs_sload {i : Int} (h0 : 0 ≤ i) (hn : i < qxL X) (hd : decode (qmc m) pc = .ok (.iaload, 1)) (k : QR X d mx m post cs (pc + 1) lv ((0, (qxs X i.toNat).toInt) :: st) h) : QR X d mx m post cs pc lv ((0, i) :: (2, -2) :: st) h := by
  intro p e R s mi ar be me c H lo ls hR hB hH hL hl
  have k := k p e R s mi ar be me c H lo ls hR hB hH hL hl
  obtain ⟨hx, hb, hml, hr, hlk, hown, hts, hnme, hT⟩ := hB
  obtain ⟨-, -, ⟨scr, g1, g2, g3, g4, g5⟩, ⟨hb0, hL2⟩, -⟩ := hT
  obtain ⟨e1, e2⟩ := qin_ix (n := qxL X) h0 hn (by omega)
  simp only [List.map_cons]
  have er : qcv X (2, -2) = .ref (qxo X 0) := rfl
  rw [er]
  refine W.iald (j := Int32.ofInt i) (v := .int (qxs X i.toNat)) hx hb (by rw [hH.2.1 _ hb0]; exact g1) g2 g3 (by rw [g4]; exact e2) (by rw [e1]; exact g5 _ (by omega)) rfl rfl hd ?_
  simp only [List.map_cons, qcv, Int32.ofInt_toInt] at k
  exact k
theorem qs_slen (hd : decode (qmc m) pc = .ok (.arraylength, 1)) (k : QR X d mx m post cs (pc + 1) lv ((0, (qxL X : Int)) :: st) h) : QR X d mx m post cs pc lv ((2, -2) :: st) h := by
  intro p e R s mi ar be me c H lo ls hR hB hH hL hl
  have k := k p e R s mi ar be me c H lo ls hR hB hH hL hl
  obtain ⟨hx, hb, hml, hr, hlk, hown, hts, hnme, hT⟩ := hB
  obtain ⟨-, -, ⟨scr, g1, g2, g3, g4, g5⟩, ⟨hb0, hL2⟩, -⟩ := hT
  simp only [List.map_cons]
  have er : qcv X (2, -2) = .ref (qxo X 0) := rfl
  rw [er]
  refine W.alen (n := Int32.ofInt (qxL X)) hx hb (by rw [hH.2.1 _ hb0]; exact g1) g2 ?_ rfl rfl hd k
  rw [g4, Int32.ofInt_eq_ofNat]
/-- texts -/
theorem qs_ldcS {i : Nat} {e : Nat × String × Nat} (he : (qmo m, i, e.2.1, e.2.2) ∈ qsl) (hd : decode (qmc m) pc = .ok (.ldc i, 2)) (k : QR X d mx m post cs (pc + 2) lv ((2, -3 - (e.2.2 : Int)) :: st) h) : QR X d mx m post cs pc lv st h := by
  intro p ev R s mi ar be me c H lo ls hR hB hH hL hl
  have k := k p ev R s mi ar be me c H lo ls hR hB hH hL hl
  obtain ⟨hx, hb, hml, hr, hlk, hown, hts, hnme, hT⟩ := hB
  have hz := hT.2.2.2.2.1 _ he
  have er : qcv X (2, -3 - (e.2.2 : Int)) = .ref (qxo X (1 + e.2.2)) := by
    show qrv X _ = _
    rw [qrv, if_neg (by omega), if_neg (by omega), show (-2 - (-3 - (e.2.2 : Int))).toNat = 1 + e.2.2 by omega]
  rw [List.map_cons, er] at k
  exact va_ldcS hx hb hown hz hd k
theorem qs_strval {a : Int} (ho : qmo m = 16) (hs : -19 < a ∧ a ≤ -3) (hl9 : Cond.fieldLink RJ0 9 "java/lang/String" "value" "[B" ∈ qtbl) (hd : decode (qmc m) pc = .ok (.getfield 9, 3)) (k : QR X d mx m post cs (pc + 3) lv ((2, a - 100) :: st) h) : QR X d mx m post cs pc lv ((2, a) :: st) h := by
  intro p ev R s mi ar be me c H lo ls hR hB hH hL hl
  have k := k p ev R s mi ar be me c H lo ls hR hB hH hL hl
  obtain ⟨hx, hb, hml, hr, hlk, hown, hts, hnme, hT⟩ := hB
  rw [ho] at hown
  obtain ⟨cf, kc, fi, f, cell, h1, h2, h3, h4, h5, h6⟩ := ((hT.2.2.2.2.2.1).1 (-3 - a).toNat (by omega)).2.2.1.kept (fun q hq _ => hH.2.1 q hq)
  have er : qcv X (2, a) = .ref (qxo X (1 + (-3 - a).toNat)) := by
    show qrv X a = _
    rw [qrv, if_neg (by omega), if_neg (by omega), show (-2 - a).toNat = 1 + (-3 - a).toNat by omega]
  have er2 : qcv X (2, a - 100) = .ref (qxo X (101 + (-3 - a).toNat)) := by
    show qrv X (a - 100) = _
    rw [qrv, if_neg (by omega), if_neg (by omega), show (-2 - (a - 100)).toNat = 101 + (-3 - a).toNat by omega]
  rw [List.map_cons, er2] at k
  rw [List.map_cons, er]
  exact W.getf hx hb hown (hts _ hl9) h1 h2 h3 h4 h5 rfl rfl hd k
theorem qs_strcod {a : Int} (ho : qmo m = 16) (hs : -19 < a ∧ a ≤ -3) (hl9 : Cond.fieldLink RJ0 15 "java/lang/String" "coder" "B" ∈ qtbl) (hd : decode (qmc m) pc = .ok (.getfield 15, 3)) (k : QR X d mx m post cs (pc + 3) lv ((0, 0) :: st) h) : QR X d mx m post cs pc lv ((2, a) :: st) h := by
  intro p ev R s mi ar be me c H lo ls hR hB hH hL hl
  have k := k p ev R s mi ar be me c H lo ls hR hB hH hL hl
  obtain ⟨hx, hb, hml, hr, hlk, hown, hts, hnme, hT⟩ := hB
  rw [ho] at hown
  obtain ⟨cf, kc, fi, f, cell, h1, h2, h3, h4, h5, h6⟩ := ((hT.2.2.2.2.2.1).1 (-3 - a).toNat (by omega)).2.1.kept (fun q hq _ => hH.2.1 q hq)
  have er : qcv X (2, a) = .ref (qxo X (1 + (-3 - a).toNat)) := by
    show qrv X a = _
    rw [qrv, if_neg (by omega), if_neg (by omega), show (-2 - a).toNat = 1 + (-3 - a).toNat by omega]
  rw [List.map_cons, er]
  exact W.getf hx hb hown (hts _ hl9) h1 h2 h3 h4 h5 rfl rfl hd k
theorem qs_stat1 (ho : qmo m = 16) (hl9 : Cond.fieldLink RJ0 38 "java/lang/String" "COMPACT_STRINGS" "Z" ∈ qtbl) (hd : decode (qmc m) pc = .ok (.getstatic 38, 3)) (k : QR X d mx m post cs (pc + 3) lv ((0, 1) :: st) h) : QR X d mx m post cs pc lv st h := by
  intro p ev R s mi ar be me c H lo ls hR hB hH hL hl
  have k := k p ev R s mi ar be me c H lo ls hR hB hH hL hl
  obtain ⟨hx, hb, hml, hr, hlk, hown, hts, hnme, hT⟩ := hB
  rw [ho] at hown
  obtain ⟨cf, kf, fi, f, a, cell, h1, h2, h3, h4, h5, h6, h7, h8⟩ := hT.2.2.2.2.2.2.1.kept (fun q hq _ => hH.2.1 q hq)
  exact W.gets hx hb hown (hts _ hl9) h1 h2 h3 h4 h5 (fun e => by rw [e] at h6; cases h6) h7 rfl hd k
theorem qs_stat2 (ho : qmo m = 16) (hl9 : Cond.fieldLink RJ0 1053 "jdk/internal/util/Preconditions" "SIOOBE_FORMATTER" "Ljava/util/function/BiFunction;" ∈ qtbl) (hd : decode (qmc m) pc = .ok (.getstatic 1053, 3)) (k : QR X d mx m post cs (pc + 3) lv ((2, qfm X) :: st) h) : QR X d mx m post cs pc lv st h := by
  intro p ev R s mi ar be me c H lo ls hR hB hH hL hl
  have k := k p ev R s mi ar be me c H lo ls hR hB hH hL hl
  obtain ⟨hx, hb, hml, hr, hlk, hown, hts, hnme, hT⟩ := hB
  rw [ho] at hown
  obtain ⟨cf, kf, fi, f, a, cell, h1, h2, h3, h4, h5, h6, h7, h8⟩ := hT.2.2.2.2.2.2.2.kept (fun q hq _ => hH.2.1 q hq)
  exact W.gets hx hb hown (hts _ hl9) h1 h2 h3 h4 h5 (fun e => by rw [e] at h6; cases h6) h7 rfl hd k
theorem qslt : ∀ i, i < 16 → qsn.getD i 0 < 100 := by decide
theorem qs_strlen {a : Int} (hs : -119 < a ∧ a ≤ -103) (hd : decode (qmc m) pc = .ok (.arraylength, 1)) (k : QR X d mx m post cs (pc + 1) lv ((0, (qsn.getD (-103 - a).toNat 0 : Int)) :: st) h) : QR X d mx m post cs pc lv ((2, a) :: st) h := by
  intro p ev R s mi ar be me c H lo ls hR hB hH hL hl
  have k := k p ev R s mi ar be me c H lo ls hR hB hH hL hl
  obtain ⟨hx, hb, hml, hr, hlk, hown, hts, hnme, hT⟩ := hB
  obtain ⟨cell, h1, h2, h3, h4, h5, h6, h7⟩ := ((hT.2.2.2.2.2.1).1 (-103 - a).toNat (by omega)).2.2.2.kept (fun q hq _ => hH.2.1 q hq)
  have er : qcv X (2, a) = .ref (qxo X (101 + (-103 - a).toNat)) := by
    show qrv X a = _
    rw [qrv, if_neg (by omega), if_neg (by omega), show (-2 - a).toNat = 101 + (-103 - a).toNat by omega]
  rw [List.map_cons, er]
  refine W.alen (n := Int32.ofInt (qsn.getD (-103 - a).toNat 0 : Int)) hx hb h1 h2 ?_ rfl rfl hd k
  rw [h5, Int32.ofInt_eq_ofNat]
theorem qs_strbyte {a i : Int} (hs : -119 < a ∧ a ≤ -103) (h0 : 0 ≤ i) (hn : i < (qsn.getD (-103 - a).toNat 0 : Int)) (hd : decode (qmc m) pc = .ok (.baload, 1)) (k : QR X d mx m post cs (pc + 1) lv ((0, ((qsb.getD (-103 - a).toNat []).getD i.toNat 0).toInt) :: st) h) : QR X d mx m post cs pc lv ((0, i) :: (2, a) :: st) h := by
  intro p ev R s mi ar be me c H lo ls hR hB hH hL hl
  have k := k p ev R s mi ar be me c H lo ls hR hB hH hL hl
  obtain ⟨hx, hb, hml, hr, hlk, hown, hts, hnme, hT⟩ := hB
  obtain ⟨cell, h1, h2, h3, h4, h5, h6, h7⟩ := ((hT.2.2.2.2.2.1).1 (-103 - a).toNat (by omega)).2.2.2.kept (fun q hq _ => hH.2.1 q hq)
  have hlt := qslt (-103 - a).toNat (by omega)
  obtain ⟨e1, e2⟩ := qin_ix (n := qsn.getD (-103 - a).toNat 0) h0 hn (by omega)
  have er : qcv X (2, a) = .ref (qxo X (101 + (-103 - a).toNat)) := by
    show qrv X a = _
    rw [qrv, if_neg (by omega), if_neg (by omega), show (-2 - a).toNat = 101 + (-103 - a).toNat by omega]
  simp only [List.map_cons, qcv, Int32.ofInt_toInt] at k
  simp only [List.map_cons]
  rw [er]
  refine W.bald (j := Int32.ofInt i) (v := .int ((qsb.getD (-103 - a).toNat []).getD i.toNat 0)) hx hb h1 h2 h3 (fun z => e2 (z.imp id (fun q => by omega))) (by rw [e1]; exact h6 _ (by omega)) rfl rfl hd k
end QMore
