section QArr
variable {X : QX} {d : Nat} {mx : Nat × Nat} {m : QMeth} {post : Int → QH → Prop} {cs : Nat × Nat} {pc : Nat} {lv : List (Nat × QV)} {st : List QV} {h : QH}
theorem qs_iaload {a i : Int} (hs : (h.1.2.1 a).1 = 100) (h0 : 0 ≤ i) (hn : i < (h.1.2.1 a).2) (hd : decode (qmc m) pc = .ok (.iaload, 1)) (k : QR X d mx m post cs (pc + 1) lv ((0, h.2 a i) :: st) h) : QR X d mx m post cs pc lv ((0, i) :: (2, a) :: st) h := by
  intro p e R s mi ar be me c H lo ls hR hB hH hL hl
  have k := k p e R s mi ar be me c H lo ls hR hB hH hL hl
  obtain ⟨a0, an, l0, l1, hcell⟩ := qarr hH hs (by decide) (by decide)
  obtain ⟨hx, hb, hml, hr, hlk, hown, hts, hnme, hT⟩ := hB
  obtain ⟨e1, e2⟩ := qin_ix (n := (h.1.2.1 a).2.toNat) h0 (by omega) (by omega)
  simp only [List.map_cons]
  rw [qcv_ref a0]
  refine W.iald (j := Int32.ofInt i) (v := qcv X (0, h.2 a i)) hx hb hcell ((qarrof (kd := 100) hT (by decide) (by decide)).1 _ _) (fun q => by cases q) (by rw [arrV_size]; exact e2) ?_ rfl rfl hd k
  rw [e1, arrV_read _ _ (by omega)]
  show some (qcv X (0, qval h 0 a ((i.toNat : Nat) : Int))) = _
  rw [show ((i.toNat : Nat) : Int) = i by omega]
  rfl
theorem qs_laload {a i : Int} (hs : (h.1.2.1 a).1 = 101) (h0 : 0 ≤ i) (hn : i < (h.1.2.1 a).2) (hd : decode (qmc m) pc = .ok (.laload, 1)) (k : QR X d mx m post cs (pc + 1) lv ((1, h.2 a i) :: st) h) : QR X d mx m post cs pc lv ((0, i) :: (2, a) :: st) h := by
  intro p e R s mi ar be me c H lo ls hR hB hH hL hl
  have k := k p e R s mi ar be me c H lo ls hR hB hH hL hl
  obtain ⟨a0, an, l0, l1, hcell⟩ := qarr hH hs (by decide) (by decide)
  obtain ⟨hx, hb, hml, hr, hlk, hown, hts, hnme, hT⟩ := hB
  obtain ⟨e1, e2⟩ := qin_ix (n := (h.1.2.1 a).2.toNat) h0 (by omega) (by omega)
  simp only [List.map_cons]
  rw [qcv_ref a0]
  refine W.lald (j := Int32.ofInt i) (v := qcv X (1, h.2 a i)) hx hb hcell ((qarrof (kd := 101) hT (by decide) (by decide)).1 _ _) (fun q => by cases q) (by rw [arrV_size]; exact e2) ?_ rfl rfl hd k
  rw [e1, arrV_read _ _ (by omega)]
  show some (qcv X (1, qval h 1 a ((i.toNat : Nat) : Int))) = _
  rw [show ((i.toNat : Nat) : Int) = i by omega]
  rfl
theorem qs_baload {a i : Int} (hs : (h.1.2.1 a).1 = 102) (h0 : 0 ≤ i) (hn : i < (h.1.2.1 a).2) (hd : decode (qmc m) pc = .ok (.baload, 1)) (k : QR X d mx m post cs (pc + 1) lv ((0, h.2 a i) :: st) h) : QR X d mx m post cs pc lv ((0, i) :: (2, a) :: st) h := by
  intro p e R s mi ar be me c H lo ls hR hB hH hL hl
  have k := k p e R s mi ar be me c H lo ls hR hB hH hL hl
  obtain ⟨a0, an, l0, l1, hcell⟩ := qarr hH hs (by decide) (by decide)
  obtain ⟨hx, hb, hml, hr, hlk, hown, hts, hnme, hT⟩ := hB
  obtain ⟨e1, e2⟩ := qin_ix (n := (h.1.2.1 a).2.toNat) h0 (by omega) (by omega)
  simp only [List.map_cons]
  rw [qcv_ref a0]
  refine W.bald (j := Int32.ofInt i) (v := qcv X (0, h.2 a i)) hx hb hcell ((qarrof (kd := 102) hT (by decide) (by decide)).1 _ _) (fun q => by cases q) (by rw [arrV_size]; exact e2) ?_ rfl rfl hd k
  rw [e1, arrV_read _ _ (by omega)]
  show some (qcv X (0, qval h 0 a ((i.toNat : Nat) : Int))) = _
  rw [show ((i.toNat : Nat) : Int) = i by omega]
  rfl
theorem qs_zaload {a i : Int} (hs : (h.1.2.1 a).1 = 103) (h0 : 0 ≤ i) (hn : i < (h.1.2.1 a).2) (hd : decode (qmc m) pc = .ok (.baload, 1)) (k : QR X d mx m post cs (pc + 1) lv ((0, h.2 a i) :: st) h) : QR X d mx m post cs pc lv ((0, i) :: (2, a) :: st) h := by
  intro p e R s mi ar be me c H lo ls hR hB hH hL hl
  have k := k p e R s mi ar be me c H lo ls hR hB hH hL hl
  obtain ⟨a0, an, l0, l1, hcell⟩ := qarr hH hs (by decide) (by decide)
  obtain ⟨hx, hb, hml, hr, hlk, hown, hts, hnme, hT⟩ := hB
  obtain ⟨e1, e2⟩ := qin_ix (n := (h.1.2.1 a).2.toNat) h0 (by omega) (by omega)
  simp only [List.map_cons]
  rw [qcv_ref a0]
  refine W.zald (j := Int32.ofInt i) (v := qcv X (0, h.2 a i)) hx hb hcell ((qarrof (kd := 103) hT (by decide) (by decide)).1 _ _) (fun q => by cases q) (by rw [arrV_size]; exact e2) ?_ rfl rfl hd k
  rw [e1, arrV_read _ _ (by omega)]
  show some (qcv X (0, qval h 0 a ((i.toNat : Nat) : Int))) = _
  rw [show ((i.toNat : Nat) : Int) = i by omega]
  rfl
theorem qs_aaload {kd : Nat} {a i : Int} (hs : (h.1.2.1 a).1 = kd) (hk1 : 104 ≤ kd) (hk2 : kd ≤ 106) (h0 : 0 ≤ i) (hn : i < (h.1.2.1 a).2) (hd : decode (qmc m) pc = .ok (.aaload, 1)) (k : QR X d mx m post cs (pc + 1) lv ((2, h.1.2.2 a i) :: st) h) : QR X d mx m post cs pc lv ((0, i) :: (2, a) :: st) h := by
  intro p e R s mi ar be me c H lo ls hR hB hH hL hl
  have k := k p e R s mi ar be me c H lo ls hR hB hH hL hl
  obtain ⟨a0, an, l0, l1, hcell⟩ := qarr hH hs (by omega) (by omega)
  obtain ⟨hx, hb, hml, hr, hlk, hown, hts, hnme, hT⟩ := hB
  obtain ⟨e1, e2⟩ := qin_ix (n := (h.1.2.1 a).2.toNat) h0 (by omega) (by omega)
  simp only [List.map_cons]
  rw [qcv_ref a0]
  have hel : qel kd = 2 ∧ (qty kd).isReference = true := by
    rcases (show kd = 104 ∨ kd = 105 ∨ kd = 106 by omega) with rfl | rfl | rfl <;> exact ⟨rfl, rfl⟩
  refine W.aald (j := Int32.ofInt i) (v := qcv X (2, h.1.2.2 a i)) hx hb hcell ((qarrof (kd := kd) hT (by omega) (by omega)).1 _ _) hel.2 (fun q => by cases q) (by rw [arrV_size]; exact e2) ?_ rfl rfl hd k
  rw [e1, arrV_read _ _ (by omega), hel.1]
  show some (qcv X (2, qval h 2 a ((i.toNat : Nat) : Int))) = _
  rw [show ((i.toNat : Nat) : Int) = i by omega]
  rfl
theorem qs_alen {a : Int} (h1 : 100 ≤ (h.1.2.1 a).1) (h2 : (h.1.2.1 a).1 ≤ 106) (hd : decode (qmc m) pc = .ok (.arraylength, 1)) (k : QR X d mx m post cs (pc + 1) lv ((0, (h.1.2.1 a).2) :: st) h) : QR X d mx m post cs pc lv ((2, a) :: st) h := by
  intro p e R s mi ar be me c H lo ls hR hB hH hL hl
  have k := k p e R s mi ar be me c H lo ls hR hB hH hL hl
  obtain ⟨a0, an, l0, l1, hcell⟩ := qarr hH rfl h1 h2
  obtain ⟨hx, hb, hml, hr, hlk, hown, hts, hnme, hT⟩ := hB
  simp only [List.map_cons]
  rw [qcv_ref a0]
  refine W.alen (n := Int32.ofInt (h.1.2.1 a).2) hx hb hcell ((qarrof hT h1 h2).1 _ _) ?_ rfl rfl hd k
  rw [arrV_size]
  generalize (h.1.2.1 a).2 = z at l0
  show Int32.ofNat z.toNat = _
  rw [← Int32.ofInt_eq_ofNat, show ((z.toNat : Nat) : Int) = z by omega]
/-- a store into an array: the cell as it is then -/
theorem qhp_ast {H H1 : Heap} {kd : Nat} {a i x : Int} (hH : QHp X h H) (hs : (h.1.2.1 a).1 = kd) (hk1 : 100 ≤ kd) (hk2 : kd ≤ 106) (h0 : 0 ≤ i) (e1 : H1[(qxH X).size + a.toNat]? = some ((arrV (qxA X kd) (h.1.2.1 a).2.toNat (fun j => qcv X (qel kd, qval h (qel kd) a j))).setSlot i.toNat (qcv X (qel kd, x)))) (z : H1.size = H.size) (oq : ∀ q, q ≠ (qxH X).size + a.toNat → H1[q]? = H[q]?) : QHp X (qputf h (qel kd) a i x) H1 := by
  obtain ⟨a0, an, l0, l1, hcell⟩ := qarr hH hs hk1 hk2
  obtain ⟨s1, s2, s3⟩ := qputf_s h (qel kd) a i x
  refine qhp_put hH s1 s2 ⟨a0, an⟩ s3 z oq ⟨fun hz => ?_, fun _ => ?_⟩
  · rw [s2, show ((a.toNat : Nat) : Int) = a by omega, hs] at hz; omega
  · rw [s2, show ((a.toNat : Nat) : Int) = a by omega, hs]
    refine ⟨hk2, l0, l1, ?_⟩
    rw [e1, arrV_store]
    congr 2
    funext j
    unfold updV
    rw [qputf_val]
    by_cases hj : j = i.toNat
    · subst hj
      simp [show ((i.toNat : Nat) : Int) = i by omega]
    · have : ¬ ((j : Int) = i) := by omega
      simp [hj, this]
theorem qlocs {lo : List Loc} {b j : Nat} (hL : ∀ q ∈ lo, (qxH X).size ≤ q.base) (hb : (qxH X).size ≤ b) : ∀ q ∈ lo ++ [(⟨b, j⟩ : Loc)], (qxH X).size ≤ q.base := by
  intro q hq
  rcases List.mem_append.mp hq with hq | hq
  · exact hL q hq
  · rw [List.mem_singleton.mp hq]; exact hb
theorem qs_iastore {a i x : Int} (hs : (h.1.2.1 a).1 = 100) (h0 : 0 ≤ i) (hn : i < (h.1.2.1 a).2) (hd : decode (qmc m) pc = .ok (.iastore, 1)) (k : QR X d mx m post cs (pc + 1) lv st (h.1, qup h.2 a i x)) : QR X d mx m post cs pc lv ((0, x) :: (0, i) :: (2, a) :: st) h := by
  intro p e R s mi ar be me c H lo ls hR hB hH hL hl
  have hB0 := hB
  obtain ⟨a0, an, l0, l1, hcell⟩ := qarr hH hs (by decide) (by decide)
  obtain ⟨hx, hb, hml, hr, hlk, hown, hts, hnme, hT⟩ := hB
  obtain ⟨e1, e2⟩ := qin_ix (n := (h.1.2.1 a).2.toNat) h0 (by omega) (by omega)
  simp only [List.map_cons]
  rw [qcv_ref a0]
  refine W.iast (j := Int32.ofInt i) hx hb hcell ((qarrof (kd := 100) hT (by decide) (by decide)).1 _ _) (fun q => by cases q) (by rw [arrV_size]; exact e2) rfl rfl hd (fun H1 f1 f2 f3 => ?_)
  rw [e1] at f1
  refine k p e R s mi ar be me c H1 _ ls hR hB0 (qhp_ast (kd := 100) (x := x) hH hs (by decide) (by decide) h0 (by exact f1) f2 f3) (qlocs hL (Nat.le_add_right _ _)) hl
theorem qs_lastore {a i x : Int} (hs : (h.1.2.1 a).1 = 101) (h0 : 0 ≤ i) (hn : i < (h.1.2.1 a).2) (hd : decode (qmc m) pc = .ok (.lastore, 1)) (k : QR X d mx m post cs (pc + 1) lv st (h.1, qup h.2 a i x)) : QR X d mx m post cs pc lv ((1, x) :: (0, i) :: (2, a) :: st) h := by
  intro p e R s mi ar be me c H lo ls hR hB hH hL hl
  have hB0 := hB
  obtain ⟨a0, an, l0, l1, hcell⟩ := qarr hH hs (by decide) (by decide)
  obtain ⟨hx, hb, hml, hr, hlk, hown, hts, hnme, hT⟩ := hB
  obtain ⟨e1, e2⟩ := qin_ix (n := (h.1.2.1 a).2.toNat) h0 (by omega) (by omega)
  simp only [List.map_cons]
  rw [qcv_ref a0]
  refine W.last (j := Int32.ofInt i) hx hb hcell ((qarrof (kd := 101) hT (by decide) (by decide)).1 _ _) (fun q => by cases q) (by rw [arrV_size]; exact e2) rfl rfl hd (fun H1 f1 f2 f3 => ?_)
  rw [e1] at f1
  refine k p e R s mi ar be me c H1 _ ls hR hB0 (qhp_ast (kd := 101) (x := x) hH hs (by decide) (by decide) h0 (by exact f1) f2 f3) (qlocs hL (Nat.le_add_right _ _)) hl
theorem qnb (x : Int) : narrow .byte (.int (Int32.ofInt x)) = qcv X (qel 102, qi2b x) := by
  show narrow .byte (.int (Int32.ofInt x)) = .int (Int32.ofInt (qi2b x))
  rw [qi2b, Int32.ofInt_toInt]
  rfl
theorem qnz {x : Int} (hz : x = 0 ∨ x = 1) : narrow .boolean (.int (Int32.ofInt x)) = qcv X (qel 103, x) := by
  rcases hz with rfl | rfl <;> rfl
theorem qs_bastore {a i x : Int} (hs : (h.1.2.1 a).1 = 102) (h0 : 0 ≤ i) (hn : i < (h.1.2.1 a).2) (hd : decode (qmc m) pc = .ok (.bastore, 1)) (k : QR X d mx m post cs (pc + 1) lv st (h.1, qup h.2 a i (qi2b x))) : QR X d mx m post cs pc lv ((0, x) :: (0, i) :: (2, a) :: st) h := by
  intro p e R s mi ar be me c H lo ls hR hB hH hL hl
  have hB0 := hB
  obtain ⟨a0, an, l0, l1, hcell⟩ := qarr hH hs (by decide) (by decide)
  obtain ⟨hx, hb, hml, hr, hlk, hown, hts, hnme, hT⟩ := hB
  obtain ⟨e1, e2⟩ := qin_ix (n := (h.1.2.1 a).2.toNat) h0 (by omega) (by omega)
  simp only [List.map_cons]
  rw [qcv_ref a0]
  refine W.bast (j := Int32.ofInt i) hx hb hcell ((qarrof (kd := 102) hT (by decide) (by decide)).1 _ _) (fun q => by cases q) (by rw [arrV_size]; exact e2) rfl rfl hd (fun H1 f1 f2 f3 => ?_)
  rw [e1] at f1
  refine k p e R s mi ar be me c H1 _ ls hR hB0 (qhp_ast (kd := 102) (x := (qi2b x)) hH hs (by decide) (by decide) h0 (by rw [← qnb]; exact f1) f2 f3) (qlocs hL (Nat.le_add_right _ _)) hl
theorem qs_zastore {a i x : Int} (hz : x = 0 ∨ x = 1) (hs : (h.1.2.1 a).1 = 103) (h0 : 0 ≤ i) (hn : i < (h.1.2.1 a).2) (hd : decode (qmc m) pc = .ok (.bastore, 1)) (k : QR X d mx m post cs (pc + 1) lv st (h.1, qup h.2 a i x)) : QR X d mx m post cs pc lv ((0, x) :: (0, i) :: (2, a) :: st) h := by
  intro p e R s mi ar be me c H lo ls hR hB hH hL hl
  have hB0 := hB
  obtain ⟨a0, an, l0, l1, hcell⟩ := qarr hH hs (by decide) (by decide)
  obtain ⟨hx, hb, hml, hr, hlk, hown, hts, hnme, hT⟩ := hB
  obtain ⟨e1, e2⟩ := qin_ix (n := (h.1.2.1 a).2.toNat) h0 (by omega) (by omega)
  simp only [List.map_cons]
  rw [qcv_ref a0]
  refine W.zast (j := Int32.ofInt i) hx hb hcell ((qarrof (kd := 103) hT (by decide) (by decide)).1 _ _) (fun q => by cases q) (by rw [arrV_size]; exact e2) rfl rfl hd (fun H1 f1 f2 f3 => ?_)
  rw [e1] at f1
  refine k p e R s mi ar be me c H1 _ ls hR hB0 (qhp_ast (kd := 103) (x := x) hH hs (by decide) (by decide) h0 (by rw [← qnz hz]; exact f1) f2 f3) (qlocs hL (Nat.le_add_right _ _)) hl
theorem qs_aastore {kd ci : Nat} {a i x : Int} (hs : (h.1.2.1 a).1 = kd) (hk1 : 104 ≤ kd) (hk2 : kd ≤ 106) (hx : (h.1.2.1 x).1 = ci) (hci : (kd = 104 ∧ ci = 6) ∨ (kd = 105 ∧ ci = 8) ∨ (kd = 106 ∧ ci = 0)) (h0 : 0 ≤ i) (hn : i < (h.1.2.1 a).2) (hd : decode (qmc m) pc = .ok (.aastore, 1)) (k : QR X d mx m post cs (pc + 1) lv st ((h.1.1, h.1.2.1, qup h.1.2.2 a i x), h.2)) : QR X d mx m post cs pc lv ((2, x) :: (0, i) :: (2, a) :: st) h := by
  intro p e R s mi ar be me c H lo ls hR hB hH hL hl
  have hB0 := hB
  obtain ⟨a0, an, l0, l1, hcell⟩ := qarr hH hs (by omega) (by omega)
  obtain ⟨hxx, hb, hml, hr, hlk, hown, hts, hnme, hT⟩ := hB
  obtain ⟨e1, e2⟩ := qin_ix (n := (h.1.2.1 a).2.toNat) h0 (by omega) (by omega)
  have hcx : ci < 100 ∧ ∃ r : vw_C, vwCl[ci]? = some r ∧ qty kd = .object r.1 := by
    rcases hci with ⟨rfl, rfl⟩ | ⟨rfl, rfl⟩ | ⟨rfl, rfl⟩
    · exact ⟨by decide, _, rfl, rfl⟩
    · exact ⟨by decide, _, rfl, rfl⟩
    · exact ⟨by decide, _, rfl, rfl⟩
  obtain ⟨hc100, r, hr0, hty⟩ := hcx
  have hel : qel kd = 2 := by
    rcases (show kd = 104 ∨ kd = 105 ∨ kd = 106 by omega) with rfl | rfl | rfl <;> rfl
  have hax := hH.2.2.1 x (by omega)
  have g := (hH.2.2.2 x.toNat (by omega)).1
  rw [show ((x.toNat : Nat) : Int) = x by omega, hx] at g
  obtain ⟨r', r1, cell, q1, q2, q3, q4⟩ := g hc100
  cases r1.symm.trans hr0
  obtain ⟨kA, comp, k1, k2, k3, -⟩ : ∃ (kA : Class) (comp : ClassId), s.vm.classes[qxA X kd]? = some kA ∧ kA.kind = .array comp (.object r.1) ∧ s.vm.findClass r.1 = some comp ∧ s.vm.findClass ("[" ++ (FieldType.object r.1).toString) = some (qxA X kd) := by
    have := (qarrof (kd := kd) hT (by omega) hk2).2
    rw [hty] at this
    exact this
  have hcls := (hT.1.1 ci _ r1).2
  have hcomp : comp = (qxD X).1 ci := Option.some.inj (k3.symm.trans hcls.1)
  subst hcomp
  have hasg := va_assign hcls
  obtain ⟨-, kC, hkC, -⟩ := hcls
  simp only [List.map_cons]
  rw [qcv_ref a0, qcv_ref hax.1]
  refine W.aast (j := Int32.ofInt i) hxx hb hcell (fun q h => by cases h) (fun h => by cases h) k1 k2 rfl hkC ⟨fun z => e2 (Or.inl z), by rw [arrV_size]; exact Nat.not_le.mp fun z => e2 (Or.inr z)⟩ q1 (fun q h => by rw [q3] at h; cases h) (by rw [q2]; exact hkC) (by rw [q2]; exact hasg) rfl rfl hd (fun H1 f1 f2 f3 => ?_)
  rw [e1] at f1
  have hq := qhp_ast (kd := kd) (x := x) hH hs (by omega) hk2 h0 (by rw [f1, hel, qcv_ref hax.1]) f2 f3
  rw [hel] at hq
  exact k p e R s mi ar be me c H1 _ ls hR hB0 hq (qlocs hL (Nat.le_add_right _ _)) hl
theorem qs_ireturn {x : Int} (hr0 : qmr m = some .int) (hm : cs.1 ≤ mx.1 ∧ cs.2 ≤ mx.2) (hd : decode (qmc m) pc = .ok (.ireturn, 1)) (hp : post x h) : QR X d mx m post cs pc lv [(0, x)] h := by
  intro p e R s mi ar be me c H lo ls hR hB hH hL hl
  obtain ⟨hx, hb, hml, hr, hlk, hown, hts, hnme, hT⟩ := hB
  refine W.widen hm.1 hm.2 ?_
  exact W.iret hx hb (hr.trans hr0) (fun t ht hW => ⟨x, h, by rw [hr0]; rfl, hp, hT.moved hW, by rw [ht]; exact hH⟩) (fun q hq => hL q hq) hd hlk
theorem qs_lreturn {x : Int} (hr0 : qmr m = some .long) (hm : cs.1 ≤ mx.1 ∧ cs.2 ≤ mx.2) (hd : decode (qmc m) pc = .ok (.lreturn, 1)) (hp : post x h) : QR X d mx m post cs pc lv [(1, x)] h := by
  intro p e R s mi ar be me c H lo ls hR hB hH hL hl
  obtain ⟨hx, hb, hml, hr, hlk, hown, hts, hnme, hT⟩ := hB
  refine W.widen hm.1 hm.2 ?_
  exact W.lret hx hb (hr.trans hr0) (fun t ht hW => ⟨x, h, by rw [hr0]; rfl, hp, hT.moved hW, by rw [ht]; exact hH⟩) (fun q hq => hL q hq) hd hlk
theorem qs_zreturn {x : Int} (hr0 : qmr m = some .boolean) (hz : x = 0 ∨ x = 1) (hm : cs.1 ≤ mx.1 ∧ cs.2 ≤ mx.2) (hd : decode (qmc m) pc = .ok (.ireturn, 1)) (hp : post x h) : QR X d mx m post cs pc lv [(0, x)] h := by
  intro p e R s mi ar be me c H lo ls hR hB hH hL hl
  obtain ⟨hx, hb, hml, hr, hlk, hown, hts, hnme, hT⟩ := hB
  refine W.widen hm.1 hm.2 ?_
  exact W.zret hx hb (hr.trans hr0) (by rcases hz with rfl | rfl <;> rfl) (fun t ht hW => ⟨x, h, by rw [hr0]; rfl, hp, hT.moved hW, by rw [ht]; exact hH⟩) (fun q hq => hL q hq) hd hlk
theorem qs_creturn {x : Int} (hr0 : qmr m = some .char) (hz : 0 ≤ x ∧ x ≤ 65535) (hm : cs.1 ≤ mx.1 ∧ cs.2 ≤ mx.2) (hd : decode (qmc m) pc = .ok (.ireturn, 1)) (hp : post x h) : QR X d mx m post cs pc lv [(0, x)] h := by
  intro p e R s mi ar be me c H lo ls hR hB hH hL hl
  obtain ⟨hx, hb, hml, hr, hlk, hown, hts, hnme, hT⟩ := hB
  refine W.widen hm.1 hm.2 ?_
  refine W.zret hx hb (hr.trans hr0) ?_ (fun t ht hW => ⟨x, h, by rw [hr0]; rfl, hp, hT.moved hW, by rw [ht]; exact hH⟩) (fun q hq => hL q hq) hd hlk
  have e : Int32.ofInt x = nI x.toNat := by
    show _ = Int32.ofNat x.toNat
    rw [← Int32.ofInt_eq_ofNat, show ((x.toNat : Nat) : Int) = x by omega]
  show narrow .char (.int (Int32.ofInt x)) = .int (Int32.ofInt x)
  rw [e]
  exact (pk_charN (show x.toNat < 65536 by omega)).1
theorem qs_breturn {x : Int} (hr0 : qmr m = some .byte) (hz : -128 ≤ x ∧ x ≤ 127) (hm : cs.1 ≤ mx.1 ∧ cs.2 ≤ mx.2) (hd : decode (qmc m) pc = .ok (.ireturn, 1)) (hp : post x h) : QR X d mx m post cs pc lv [(0, x)] h := by
  intro p e R s mi ar be me c H lo ls hR hB hH hL hl
  obtain ⟨hx, hb, hml, hr, hlk, hown, hts, hnme, hT⟩ := hB
  refine W.widen hm.1 hm.2 ?_
  refine W.zret hx hb (hr.trans hr0) ?_ (fun t ht hW => ⟨x, h, by rw [hr0]; rfl, hp, hT.moved hW, by rw [ht]; exact hH⟩) (fun q hq => hL q hq) hd hlk
  have e : (Int32.ofInt x).toInt8.toInt32 = Int32.ofInt x := by
    rw [← Int32.toInt_inj, Int8.toInt_toInt32, Int32.toInt_toInt8, q32 ⟨by omega, by omega⟩]
    exact Int.bmod_eq_of_le (by omega) (by omega)
  show narrow .byte (.int (Int32.ofInt x)) = .int (Int32.ofInt x)
  have := pk_nb (Int32.ofInt x)
  rw [e] at this
  exact this
theorem qs_return (hr0 : qmr m = none) (hm : cs.1 ≤ mx.1 ∧ cs.2 ≤ mx.2) (hd : decode (qmc m) pc = .ok (.return_, 1)) (hp : post 0 h) : QR X d mx m post cs pc lv [] h := by
  intro p e R s mi ar be me c H lo ls hR hB hH hL hl
  obtain ⟨hx, hb, hml, hr, hlk, hown, hts, hnme, hT⟩ := hB
  refine W.widen hm.1 hm.2 ?_
  exact W.vret hx hb (hr.trans hr0) (fun t ht hW => ⟨0, h, by rw [hr0]; rfl, hp, hT.moved hW, by rw [ht]; exact hH⟩) (fun q hq => hL q hq) hd hlk
theorem qs_tableOut {dflt lo hi : Int} {offs : Array Int} {len : Nat} {x : Int} {tgt : Nat} (hx : in32 x) (ho : x < lo ∨ hi < x) (ht : (pc : Int) + dflt = (tgt : Int)) (hd : decode (qmc m) pc = .ok (.tableswitch dflt lo hi offs, len)) (k : QR X d mx m post cs tgt lv st h) : QR X d mx m post cs pc lv ((0, x) :: st) h := by
  intro p e R s mi ar be me c H lc ls hR hB hH hL hl
  exact lv_tableOut (x := Int32.ofInt x) hB.1 hB.2.1 hd (by rw [q32 hx]; exact ho) ht (k p e R s mi ar be me c H lc ls hR hB hH hL hl)
theorem qs_tableIn {dflt lo hi : Int} {offs : Array Int} {len : Nat} {x off : Int} {tgt : Nat} (hx : in32 x) (h1 : lo ≤ x) (h2 : x ≤ hi) (ho : offs[(x - lo).toNat]? = some off) (ht : (pc : Int) + off = (tgt : Int)) (hd : decode (qmc m) pc = .ok (.tableswitch dflt lo hi offs, len)) (k : QR X d mx m post cs tgt lv st h) : QR X d mx m post cs pc lv ((0, x) :: st) h := by
  intro p e R s mi ar be me c H lc ls hR hB hH hL hl
  exact lv_tableIn (x := Int32.ofInt x) hB.1 hB.2.1 hd (by rw [q32 hx]; omega) (by rw [q32 hx]; omega) (by rw [q32 hx]; exact ho) ht (k p e R s mi ar be me c H lc ls hR hB hH hL hl)
theorem qs_lookup {dflt : Int} {ps : Array (Int × Int)} {len : Nat} {x off : Int} {tgt : Nat} (hx : in32 x) (hp : (ps.toList.zip (ps.toList.drop 1)).all (fun (a, next) => a.1 < next.1) = true) (ho : Op.lookupswitch.offset ps.toList dflt x = off) (ht : (pc : Int) + off = (tgt : Int)) (hd : decode (qmc m) pc = .ok (.lookupswitch dflt ps, len)) (k : QR X d mx m post cs tgt lv st h) : QR X d mx m post cs pc lv ((0, x) :: st) h := by
  intro p e R s mi ar be me c H lc ls hR hB hH hL hl
  exact lv_lookup (x := Int32.ofInt x) hB.1 hB.2.1 hd hp (by rw [q32 hx]; exact ho) ht (k p e R s mi ar be me c H lc ls hR hB hH hL hl)
end QArr
