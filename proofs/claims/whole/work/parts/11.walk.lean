def qpick (lv : List (Nat × QV)) (ks : List Nat) : List (Nat × QV) := match ks with
  | [] => []
  | i :: r => (match qlook lv i with | some v => (i, v) :: qpick lv r | none => qpick lv r)
theorem qpick_sub {lv : List (Nat × QV)} : ∀ {ks : List Nat} {q : Nat × QV}, q ∈ qpick lv ks → q ∈ lv := by
  intro ks
  induction ks with
  | nil => intro q h; cases h
  | cons i r ih =>
    intro q h
    rw [qpick] at h
    split at h
    · rename_i v hv
      rcases List.mem_cons.mp h with rfl | h
      · exact qlook_mem hv
      · exact ih h
    · exact ih h
theorem QR.less {X : QX} {d : Nat} {mx : Nat × Nat} {m : QMeth} {post : Int → QH → Prop} {cs : Nat × Nat} {pc : Nat} {lv lv' : List (Nat × QV)} {st : List QV} {h : QH} (k : QR X d mx m post cs pc lv' st h) (hs : ∀ q ∈ lv', q ∈ lv) : QR X d mx m post cs pc lv st h := by
  intro p e R s mi ar be me c H lo ls hR hB hH hL hl
  refine k p e R s mi ar be me c H lo ls hR hB hH hL ⟨hl.1, hl.2.1, fun q hq => ?_⟩
  obtain ⟨z, hz, rfl⟩ := List.mem_map.mp hq
  exact hl.2.2 _ (List.mem_map.mpr ⟨z, hs z hz, rfl⟩)
/-- n steps, or up to a place where it is cut -/
def qwp (X : QX) (d : Nat) (mx : Nat × Nat) (m : QMeth) (post : Int → QH → Prop) (cut : List (Nat × List Nat)) : Nat → QGo
  | 0 => fun cs pc lv st h => QR X d mx m post cs pc lv st h
  | n + 1 => fun cs pc lv st h => qstep X d mx m post (fun cs pc lv st h => match qfnd cut pc with
    | none => qwp X d mx m post cut n cs pc lv st h
    | some ks => QR X d mx m post cs pc (qpick lv ks) st h) cs pc lv st h
theorem qwp_ok {X : QX} {d : Nat} {mx : Nat × Nat} {m : QMeth} {post : Int → QH → Prop} (hm : qmok m) (cut : List (Nat × List Nat)) : ∀ (n : Nat) {cs : Nat × Nat} {pc : Nat} {lv : List (Nat × QV)} {st : List QV} {h : QH}, qwp X d mx m post cut n cs pc lv st h → QR X d mx m post cs pc lv st h := by
  intro n
  induction n with
  | zero => intro cs pc lv st h hq; exact hq
  | succ n ih =>
    intro cs pc lv st h hq
    rw [qwp] at hq
    refine qstep_ok hm (fun cs pc lv st h hg => ?_) hq
    split at hg
    · exact ih hg
    · exact hg.less (fun q hq => qpick_sub hq)
def qargs (i : Nat) (as : List QV) : List (Nat × QV) := match as with
  | [] => []
  | v :: r => (i, v) :: qargs (bif v.1 == 1 then i + 2 else i + 1) r
theorem qargs_eq (X : QX) : ∀ (as : List QV) (i : Nat), lv_args i (as.map (qcv X)) = (qargs i as).map fun q => (q.1, qcv X q.2) := by
  intro as
  induction as with
  | nil => intro i; rfl
  | cons v r ih =>
    intro i
    rw [List.map_cons, lv_args, qargs, List.map_cons, ← ih]
    congr 2
    have e := qcat X v
    by_cases hv : v.1 = 1
    · rw [show (v.1 == 1) = true by simpa using hv] at e ⊢
      rw [if_pos (by simpa using e), cond_true]
    · rw [show (v.1 == 1) = false by simpa using hv] at e ⊢
      rw [if_neg (by simpa using e), cond_false]
theorem qsl_len (X : QX) : ∀ (as : List QV), (lg_sl (as.map (qcv X))).length = qwn as := by
  intro as
  induction as with
  | nil => rfl
  | cons v r ih =>
    rw [List.map_cons, qwn, ← ih]
    have e := qcat X v
    generalize qcv X v = w at e
    by_cases hv : v.1 = 1
    · rw [show (v.1 == 1) = true by simpa using hv] at e ⊢
      cases w <;> simp [Value.category] at e <;> simp [lg_sl, Value.category] <;> omega
    · rw [show (v.1 == 1) = false by simpa using hv] at e ⊢
      cases w <;> simp [Value.category] at e <;> simp [lg_sl, Value.category] <;> omega
/-- a method of the tables -/
def QMK (m : QMeth) : Prop := qmok m ∧ Cond.code (qmy m) (qmc m) (qmL m) (qmr m) ∈ qtbl ∧ qmL m ≤ 60 ∧ plainFor (qmy m) = true ∧ (qmy m).cls = qown (qmo m)
def qmkb (m : QMeth) (pos : Nat) : Bool := (qmi m).all (fun e => decide (decode (qmc m) e.1 = .ok e.2) && qlen m e.1 e.2.1 e.2.2) && (qrow pos (Cond.code (qmy m) (qmc m) (qmL m) (qmr m)) && (Nat.ble (qmL m) 60 && (plainFor (qmy m) && decide ((qmy m).cls = qown (qmo m)))))
theorem qmk_of {m : QMeth} (pos : Nat) (h : qmkb m pos = true) : QMK m := by
  simp only [qmkb, Bool.and_eq_true] at h
  obtain ⟨h1, h2, h3, h4, h5⟩ := h
  refine ⟨fun e he => ?_, qrow_in h2, Nat.le_of_ble_eq_true h3, h4, of_decide_eq_true h5⟩
  have := List.all_eq_true.mp h1 e he
  rw [Bool.and_eq_true] at this
  exact ⟨of_decide_eq_true this.1, this.2⟩
theorem QC.of {X : QX} {d mc ms : Nat} {m : QMeth} (hm : QMK m) {as : List QV} {h : QH} {post : Int → QH → Prop} (hw : Nat.ble (qwn as) (qmL m) = true) (k : QR X d (mc, ms) m post (0, 0) 0 (qargs 0 as) [] h) : QC X d mc ms (qrk (qmr m)) (qmy m) as h post := by
  obtain ⟨h1, h2, h3, h4, h5⟩ := hm
  refine ⟨qmc m, qmL m, qmr m, h2, h3, rfl, va_MetF (cc := qmc m) (maxL := qmL m) (ret := qmr m) h4 rfl ?_⟩
  intro p e s mi args below meth c s₁ B hml hv
  obtain ⟨rfl, hT, hH⟩ := hv
  have hts := atoms_spec (ws := Cond.code (qmy m) (qmc m) (qmL m) (qmr m) :: qtbl) B.pre
  have hown : s.vm.findClass (qmy m).cls = some mi.cls := findClass_of_methodNamed B.named
  have hl := lv_entry (as.map (qcv X)) (n := qmL m) (by rw [qsl_len]; exact Nat.le_of_ble_eq_true hw)
  rw [lg_entry_eq]
  generalize (lg_sl (as.map (qcv X)) ++ List.replicate (qmL m - (lg_sl (as.map (qcv X))).length) Slot.unset).toArray = ls at hl ⊢
  rw [qargs_eq] at hl
  exact k p e _ s mi _ below meth c s.heap [] ls ⟨Nat.le_refl _, Nat.le_refl _, rfl, rfl⟩ ⟨B.exec, B.bytes, hml, B.returns, B.notSynchronized, by rw [← h5]; exact hown, fun w hw => hts w (List.mem_cons_of_mem _ hw), (name_of_methodNamed B.named B.method).1, hT⟩ hH (fun q hq => by cases hq) hl
