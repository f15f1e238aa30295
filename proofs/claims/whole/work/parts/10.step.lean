theorem qs_ineg {X : QX} {d : Nat} {mx : Nat × Nat} {m : QMeth} {post : Int → QH → Prop} {cs : Nat × Nat} {pc : Nat} {lv : List (Nat × QV)} {st : List QV} {h : QH} {a : Int} (hd : decode (qmc m) pc = .ok (.ineg, 1)) (k : QR X d mx m post cs (pc + 1) lv ((0, -a) :: st) h) : QR X d mx m post cs pc lv ((0, a) :: st) h := by
  intro p e R s mi ar be me c H lo ls hR hB hH hL hl
  have k := k p e R s mi ar be me c H lo ls hR hB hH hL hl
  refine lv_ineg (x := Int32.ofInt a) hB.1 hB.2.1 hd ?_
  rw [← Int32.ofInt_neg]; exact k
def qget (l : List QIns) (pc : Nat) : Option (Instr × Nat) := qfnd l pc
def qtgt (pc : Nat) (off : Int) : Nat := ((pc : Int) + off).toNat
def qp1 (t : Nat) (st : List QV) (f : Int → List QV → Prop) : Prop := match st with
  | v :: r => bif v.1 == t then f v.2 r else False
  | _ => False
def qp2 (t1 t2 : Nat) (st : List QV) (f : Int → Int → List QV → Prop) : Prop := match st with
  | v :: w :: r => bif v.1 == t1 && w.1 == t2 then f v.2 w.2 r else False
  | _ => False
def qp3 (t1 t2 t3 : Nat) (st : List QV) (f : Int → Int → Int → List QV → Prop) : Prop := match st with
  | v :: w :: u :: r => bif v.1 == t1 && (w.1 == t2 && u.1 == t3) then f v.2 w.2 u.2 r else False
  | _ => False
def qpl (lv : List (Nat × QV)) (i t : Nat) (f : Int → Prop) : Prop := match qlook lv i with
  | some v => bif v.1 == t then f v.2 else False
  | none => False
theorem qp1_of {t : Nat} {st : List QV} {f : Int → List QV → Prop} (h : qp1 t st f) : ∃ x r, st = (t, x) :: r ∧ f x r := by
  unfold qp1 at h
  split at h
  · rename_i v r
    by_cases e : v.1 = t
    · rw [show (v.1 == t) = true by simpa using e] at h
      exact ⟨v.2, r, by rw [← e], h⟩
    · rw [show (v.1 == t) = false by simpa using e] at h
      exact h.elim
  · exact h.elim
theorem qp2_of {t1 t2 : Nat} {st : List QV} {f : Int → Int → List QV → Prop} (h : qp2 t1 t2 st f) : ∃ x y r, st = (t1, x) :: (t2, y) :: r ∧ f x y r := by
  unfold qp2 at h
  split at h
  · rename_i v w r
    by_cases e : v.1 = t1 ∧ w.1 = t2
    · rw [show (v.1 == t1 && w.1 == t2) = true by simpa using e] at h
      exact ⟨v.2, w.2, r, by rw [← e.1, ← e.2], h⟩
    · rw [show (v.1 == t1 && w.1 == t2) = false by simpa using e] at h
      exact h.elim
  · exact h.elim
theorem qp3_of {t1 t2 t3 : Nat} {st : List QV} {f : Int → Int → Int → List QV → Prop} (h : qp3 t1 t2 t3 st f) : ∃ x y z r, st = (t1, x) :: (t2, y) :: (t3, z) :: r ∧ f x y z r := by
  unfold qp3 at h
  split at h
  · rename_i v w u r
    by_cases e : v.1 = t1 ∧ w.1 = t2 ∧ u.1 = t3
    · rw [show (v.1 == t1 && (w.1 == t2 && u.1 == t3)) = true by simpa using e] at h
      exact ⟨v.2, w.2, u.2, r, by rw [← e.1, ← e.2.1, ← e.2.2], h⟩
    · rw [show (v.1 == t1 && (w.1 == t2 && u.1 == t3)) = false by simpa using e] at h
      exact h.elim
  · exact h.elim
theorem qpl_of {lv : List (Nat × QV)} {i t : Nat} {f : Int → Prop} (h : qpl lv i t f) : ∃ x, qlook lv i = some (t, x) ∧ f x := by
  unfold qpl at h
  split at h
  · rename_i v hv
    by_cases e : v.1 = t
    · rw [show (v.1 == t) = true by simpa using e] at h
      exact ⟨v.2, by rw [hv, ← e], h⟩
    · rw [show (v.1 == t) = false by simpa using e] at h
      exact h.elim
  · exact h.elim
theorem qbif {b : Bool} {A : Prop} (h : bif b then A else False) : b = true ∧ A := by
  cases b
  · exact h.elim
  · exact ⟨rfl, h⟩
def qbr (c : ClassFile.Cond) (a b : Int) (T F : Prop) : Prop := match c with
  | .eq => (a = b → T) ∧ (¬ a = b → in32 a ∧ in32 b ∧ F)
  | .ne => (¬ a = b → in32 a ∧ in32 b ∧ T) ∧ (a = b → F)
  | .lt => in32 a ∧ in32 b ∧ (a < b → T) ∧ (¬ a < b → F)
  | .ge => in32 a ∧ in32 b ∧ (b ≤ a → T) ∧ (¬ b ≤ a → F)
  | .gt => in32 a ∧ in32 b ∧ (b < a → T) ∧ (¬ b < a → F)
  | .le => in32 a ∧ in32 b ∧ (a ≤ b → T) ∧ (¬ a ≤ b → F)
def qbrl (c : ClassFile.Cond) (a b : Int) (T F : Prop) : Prop := match c with
  | .eq => (a = b → T) ∧ (¬ a = b → in64 a ∧ in64 b ∧ F)
  | .ne => (¬ a = b → in64 a ∧ in64 b ∧ T) ∧ (a = b → F)
  | .lt => in64 a ∧ in64 b ∧ (a < b → T) ∧ (¬ a < b → F)
  | .ge => in64 a ∧ in64 b ∧ (b ≤ a → T) ∧ (¬ b ≤ a → F)
  | .gt => in64 a ∧ in64 b ∧ (b < a → T) ∧ (¬ b < a → F)
  | .le => in64 a ∧ in64 b ∧ (a ≤ b → T) ∧ (¬ a ≤ b → F)
def qsw (x : Int) (f : Int → Prop) (lo : Int) (offs : List Int) : Prop := match offs with
  | [] => True
  | o :: r => (x = lo → f o) ∧ qsw x f (lo + 1) r
def qswl (x : Int) (f : Int → Prop) (dfl : Prop) (ps : List (Int × Int)) : Prop := match ps with
  | [] => dfl
  | p :: r => (x = p.1 → f p.2) ∧ (¬ x = p.1 → qswl x f dfl r)
def qtake (n : Nat) (st : List QV) : Option (List QV × List QV) := match n, st with
  | 0, st => some ([], st)
  | _ + 1, [] => none
  | n + 1, v :: st => match qtake n st with
    | some (as, r) => some (as ++ [v], r)
    | none => none
theorem qtake_of : ∀ {n : Nat} {st as r : List QV}, qtake n st = some (as, r) → st = as.reverse ++ r ∧ as.length = n := by
  intro n
  induction n with
  | zero => intro st as r h; rw [qtake] at h; cases h; exact ⟨rfl, rfl⟩
  | succ n ih =>
    intro st as r h
    cases st with
    | nil => rw [qtake] at h; cases h
    | cons v st =>
      rw [qtake] at h
      split at h
      · rename_i as' r' he
        cases h
        obtain ⟨e1, e2⟩ := ih he
        exact ⟨by rw [e1]; simp, by simp [e2]⟩
      · cases h
def qwn (l : List QV) : Nat := match l with
  | [] => 0
  | v :: r => (bif v.1 == 1 then 2 else 1) + qwn r
theorem qwn_eq (l : List QV) : qwn l = qwt l := by
  induction l with
  | nil => rfl
  | cons v r ih =>
    rw [qwn, ih]
    show _ = (List.map (fun v : QV => if v.1 = 1 then 2 else 1) (v :: r)).sum
    rw [List.map_cons, List.sum_cons]
    congr 1
    by_cases e : v.1 = 1
    · simp [e]
    · rw [show (v.1 == 1) = false by simpa using e, if_neg e]; rfl
def qfitc (t : FieldType) (x : Int) (A : Prop) : Prop := match t with
  | .boolean => (x = 0 ∨ x = 1) ∧ A
  | .int => A | .long => A | .object _ => A | .array _ => A
  | _ => False
theorem qfitc_of {t : FieldType} {x : Int} {A : Prop} (h : qfitc t x A) : qfit t x ∧ A := by
  cases t <;> first | exact ⟨trivial, h⟩ | exact h | exact h.elim
def qpok (m : QMeth) (ci k : Nat) : Bool := !(qtf ci k).2.2.2 || (decide ((qmy m).name = "<init>") && decide ((qtf ci k).1 = qown (qmo m)))
theorem QC.mono {X : QX} {d mc ms rk : Nat} {y : MethodName} {as : List QV} {h : QH} {post post' : Int → QH → Prop} (H : QC X d mc ms rk y as h post) (hp : ∀ x h', post x h' → post' x h') : QC X d mc ms rk y as h post' := by
  obtain ⟨cc, maxL, ret, h1, h2, h3, h4⟩ := H
  refine ⟨cc, maxL, ret, h1, h2, h3, ?_⟩
  intro p e a1 a2 a3 s m args below b1 b2 b3 b4
  obtain ⟨n, o, c1, c2, c3, ⟨x, h', c4, c5, c6⟩, c7⟩ := h4 p e a1 a2 a3 s m args below b1 b2 b3 b4
  exact ⟨n, o, c1, c2, c3, ⟨x, h', c4, hp _ _ c5, c6⟩, c7⟩
abbrev QGo : Type := Nat × Nat → Nat → List (Nat × QV) → List QV → QH → Prop
def qcallV (X : QX) (dd : Nat) (mx : Nat × Nat) (go : QGo) (cs : Nat × Nat) (pc : Nat) (lv : List (Nat × QV)) (st : List QV) (h : QH) (y : MethodName) (na ci mc ms rk : Nat) : Prop := match qtake na st with
  | some (as, st1) => qp1 2 st1 fun a r => (h.1.2.1 a).1 = ci ∧ (bif Nat.ble (qwn r) 8 && (Nat.ble (cs.1 + mc) mx.1 && Nat.ble (cs.2 + ms) mx.2) then
      QC X dd mc ms rk y ((2, a) :: as) h (fun x h' => go (cs.1 + mc, cs.2 + ms) (pc + 3) lv (qrl rk x ++ r) h') else False)
  | none => False
def qcallS (X : QX) (dd : Nat) (mx : Nat × Nat) (go : QGo) (cs : Nat × Nat) (pc : Nat) (lv : List (Nat × QV)) (st : List QV) (h : QH) (y : MethodName) (na mc ms rk : Nat) : Prop := match qtake na st with
  | some (as, r) => bif Nat.ble (qwn r) 8 && (Nat.ble (cs.1 + mc) mx.1 && Nat.ble (cs.2 + ms) mx.2) then
      QC X dd mc ms rk y as h (fun x h' => go (cs.1 + mc, cs.2 + ms) (pc + 3) lv (qrl rk x ++ r) h') else False
  | none => False
def qcallI (X : QX) (dd : Nat) (mx : Nat × Nat) (go : QGo) (cs : Nat × Nat) (pc : Nat) (lv : List (Nat × QV)) (st : List QV) (h : QH) (y : MethodName) (na mc ms : Nat) : Prop := match qtake na st with
  | some (as, st1) => qp1 2 st1 fun a r => 0 ≤ a ∧ (bif Nat.ble (qwn r) 8 && (Nat.ble (cs.1 + mc) mx.1 && Nat.ble (cs.2 + ms) mx.2) then
      QC X dd mc ms 0 y ((2, a) :: as) h (fun _ h' => go (cs.1 + mc, cs.2 + ms) (pc + 3) lv r h') else False)
  | none => False
def qcallT (X : QX) (dd : Nat) (mx : Nat × Nat) (go : QGo) (cs : Nat × Nat) (pc : Nat) (lv : List (Nat × QV)) (st : List QV) (h : QH) (y : MethodName) (na mc ms rk : Nat) : Prop := match qtake na st with
  | some (as, st1) => qp1 2 st1 fun a r => (-19 < a ∧ a ≤ -3) ∧ (bif Nat.ble (qwn r) 8 && (Nat.ble (cs.1 + mc) mx.1 && Nat.ble (cs.2 + ms) mx.2) then
      QC X dd mc ms rk y ((2, a) :: as) h (fun x h' => go (cs.1 + mc, cs.2 + ms) (pc + 3) lv (qrl rk x ++ r) h') else False)
  | none => False
def qcallO (go : QGo) (cs : Nat × Nat) (pc : Nat) (lv : List (Nat × QV)) (st : List QV) (h : QH) : Prop := qp1 2 st fun a r => 0 ≤ a ∧ (bif Nat.ble (qwn r) 8 then go cs (pc + 3) lv r h else False)
def qcallA (go : QGo) (cs : Nat × Nat) (pc : Nat) (lv : List (Nat × QV)) (st : List QV) (h : QH) : Prop := qp3 0 0 2 st fun n dp a r1 => qp2 0 2 r1 fun sp b r => (h.1.2.1 a).1 = 100 ∧ (h.1.2.1 b).1 = 100 ∧ 0 ≤ sp ∧ 0 ≤ dp ∧ 0 ≤ n ∧ sp + n ≤ (h.1.2.1 b).2 ∧ dp + n ≤ (h.1.2.1 a).2 ∧ (bif Nat.ble (qwn r) 8 then go cs (pc + 3) lv r (h.1, qcpy h.2 b a sp dp n) else False)
/-- a call -/
def qcall (X : QX) (d : Nat) (mx : Nat × Nat) (go : QGo) (cs : Nat × Nat) (pc : Nat) (lv : List (Nat × QV)) (st : List QV) (h : QH) (kd : Nat) (E : QME) : Prop := match d with
  | 0 => False
  | dd + 1 => bif kd == E.1 then (match E.1 with
    | 0 => qcallV X dd mx go cs pc lv st h E.2.1 E.2.2.1 E.2.2.2.1 E.2.2.2.2.1 E.2.2.2.2.2.1 E.2.2.2.2.2.2.1
    | 1 => qcallS X dd mx go cs pc lv st h E.2.1 E.2.2.1 E.2.2.2.2.1 E.2.2.2.2.2.1 E.2.2.2.2.2.2.1
    | 2 => qcallI X dd mx go cs pc lv st h E.2.1 E.2.2.1 E.2.2.2.2.1 E.2.2.2.2.2.1
    | 3 => qcallO go cs pc lv st h
    | 4 => qcallA go cs pc lv st h
    | 5 => qcallT X dd mx go cs pc lv st h E.2.1 E.2.2.1 E.2.2.2.2.1 E.2.2.2.2.2.1 E.2.2.2.2.2.2.1
    | _ => False) else False
/-- a call's kind may stand behind the instruction -/
def qkdOf (ins kd : Nat) : Nat := match ins with
  | 0 => bif kd == 5 then 5 else 0
  | 1 => bif kd == 4 then 4 else 1
  | _ => bif kd == 3 then 3 else 2
def qrak (ci : Nat) : Nat := match ci with
  | 6 => 104 | 8 => 105 | 0 => 106 | _ => 0
theorem qrak_of {ci : Nat} (h : 100 ≤ qrak ci) : (qrak ci = 104 ∧ qown ci = RX6) ∨ (qrak ci = 105 ∧ qown ci = RX8) ∨ (qrak ci = 106 ∧ qown ci = RX0) := by
  unfold qrak at h ⊢
  split at h
  · exact Or.inl ⟨rfl, rfl⟩
  · exact Or.inr (Or.inl ⟨rfl, rfl⟩)
  · exact Or.inr (Or.inr ⟨rfl, rfl⟩)
  · omega
theorem qarc (t : ArrayType) (h : 100 ≤ qak t) : Cond.arrayClass (qty (qak t)) ∈ qtbl := by
  cases t <;> first | exact qarc_100 | exact qarc_101 | exact qarc_102 | exact qarc_103 | exact absurd h (by decide)
theorem qnfd : ∀ ci, ci < 12 → ∀ k, k < qnf ci → qtyf ci k ≠ .float ∧ qtyf ci k ≠ .double := by decide +kernel
def qlen (m : QMeth) (pc : Nat) (ins : Instr) (len : Nat) : Bool := match ins with
  | .iadd => len == 1 && true
  | .isub => len == 1 && true
  | .imul => len == 1 && true
  | .iand => len == 1 && true
  | .ior => len == 1 && true
  | .ixor => len == 1 && true
  | .ishl => len == 1 && true
  | .ishr => len == 1 && true
  | .iushr => len == 1 && true
  | .ladd => len == 1 && true
  | .lsub => len == 1 && true
  | .lmul => len == 1 && true
  | .land => len == 1 && true
  | .lor => len == 1 && true
  | .lxor => len == 1 && true
  | .lshl => len == 1 && true
  | .lshr => len == 1 && true
  | .lushr => len == 1 && true
  | .idiv => len == 1 && true
  | .irem => len == 1 && true
  | .ldiv => len == 1 && true
  | .lrem => len == 1 && true
  | .ineg => len == 1 && true
  | .i2l => len == 1 && true
  | .l2i => len == 1 && true
  | .i2b => len == 1 && true
  | .i2s => len == 1 && true
  | .i2c => len == 1 && true
  | .iconst n => len == 1 && true
  | .bipush n => len == 2 && decide (-128 ≤ n ∧ n ≤ 127)
  | .sipush n => len == 3 && decide (-32768 ≤ n ∧ n ≤ 32767)
  | .lconst n => len == 1 && true
  | .ldc i => len == 2 && true
  | .ldc_w i => len == 3 && true
  | .ldc2_w i => len == 3 && true
  | .iload i => len == 2 && true
  | .iload_n i => len == 1 && true
  | .lload i => len == 2 && true
  | .lload_n i => len == 1 && true
  | .aload i => len == 2 && true
  | .aload_n i => len == 1 && true
  | .istore i => len == 2 && decide (i < qmL m)
  | .istore_n i => len == 1 && decide (i.val < qmL m)
  | .lstore i => len == 2 && decide (i + 1 < qmL m)
  | .lstore_n i => len == 1 && decide (i.val + 1 < qmL m)
  | .astore i => len == 2 && decide (i < qmL m)
  | .astore_n i => len == 1 && decide (i.val < qmL m)
  | .iinc i n => len == 3 && decide (i < qmL m)
  | .dup => len == 1 && true
  | .dup2 => len == 1 && true
  | .pop => len == 1 && true
  | .pop2 => len == 1 && true
  | .goto off => len == 3 && decide (0 ≤ (pc : Int) + off)
  | .if_icmp c off => len == 3 && decide (0 ≤ (pc : Int) + off)
  | .ifCond c off => len == 3 && decide (0 ≤ (pc : Int) + off)
  | .lcmp => len == 1 && true
  | .tableswitch dflt lo hi offs => (decide (0 ≤ (pc : Int) + dflt) && (decide ((offs.size : Int) = hi - lo + 1) && offs.toList.all (fun of => decide (0 ≤ (pc : Int) + of))))
  | .getfield i => len == 3 && true
  | .getstatic i => len == 3 && true
  | .lookupswitch dflt ps => (decide (0 ≤ (pc : Int) + dflt) && ((ps.toList.zip (ps.toList.drop 1)).all (fun (a, next) => a.1 < next.1) && ps.toList.all (fun of => decide (0 ≤ (pc : Int) + of.2))))
  | .putfield i => len == 3 && true
  | .iaload => len == 1 && true
  | .laload => len == 1 && true
  | .baload => len == 1 && true
  | .aaload => len == 1 && true
  | .iastore => len == 1 && true
  | .lastore => len == 1 && true
  | .bastore => len == 1 && true
  | .aastore => len == 1 && true
  | .arraylength => len == 1 && true
  | .new i => len == 3 && true
  | .newarray t => len == 2 && true
  | .anewarray i => len == 3 && true
  | .invokevirtual i => len == 3 && true
  | .invokestatic i => len == 3 && true
  | .invokespecial i => len == 3 && true
  | .ireturn => len == 1 && true
  | .lreturn => len == 1 && true
  | .return_ => len == 1 && true
  | _ => false
def qmok (m : QMeth) : Prop := ∀ e ∈ qmi m, decode (qmc m) e.1 = .ok e.2 ∧ qlen m e.1 e.2.1 e.2.2 = true
theorem qmok_get {m : QMeth} {pc len : Nat} {ins : Instr} (hm : qmok m) (h : qget (qmi m) pc = some (ins, len)) : decode (qmc m) pc = .ok (ins, len) ∧ qlen m pc ins len = true := by
  obtain ⟨a, b⟩ := hm (pc, ins, len) (qfnd_mem h)
  exact ⟨a, b⟩
theorem qtgt_of {pc : Nat} {off : Int} (h : decide (0 ≤ (pc : Int) + off) = true) : (pc : Int) + off = ((qtgt pc off : Nat) : Int) := by
  have := of_decide_eq_true h
  unfold qtgt
  omega
theorem qsw_at {x : Int} {f : Int → Prop} : ∀ {offs : List Int} {lo off : Int} {j : Nat}, x = lo + j → offs[j]? = some off → qsw x f lo offs → f off := by
  intro offs
  induction offs with
  | nil => intro lo off j _ h; simp at h
  | cons a r ih =>
    intro lo off j hx hj hs
    rw [qsw] at hs
    cases j with
    | zero => simp at hj; subst hj; exact hs.1 (by omega)
    | succ j => exact ih (lo := lo + 1) (j := j) (by omega) (by simpa using hj) hs.2
theorem qswl_at {x dflt : Int} {f : Int → Prop} {dfl : Prop} : ∀ {ps : List (Int × Int)}, qswl x f dfl ps → (Op.lookupswitch.offset ps dflt x = dflt ∧ dfl) ∨ ∃ q, q ∈ ps ∧ Op.lookupswitch.offset ps dflt x = q.2 ∧ f q.2 := by
  intro ps
  induction ps with
  | nil => intro h; exact Or.inl ⟨rfl, h⟩
  | cons a r ih =>
    intro h
    rw [qswl] at h
    rw [Op.lookupswitch.offset_cons]
    by_cases e : x = a.1
    · right
      refine ⟨a, List.mem_cons_self, ?_, h.1 e⟩
      first | rw [if_pos e] | rw [if_pos e.symm]
    · have e2 : ¬ a.1 = x := fun z => e z.symm
      first | rw [if_neg e] | rw [if_neg e2]
      rcases ih (h.2 e) with ⟨h1, h2⟩ | ⟨q, h1, h2, h3⟩
      · exact Or.inl ⟨h1, h2⟩
      · exact Or.inr ⟨q, List.mem_cons_of_mem _ h1, h2, h3⟩
def qstep (X : QX) (d : Nat) (mx : Nat × Nat) (m : QMeth) (post : Int → QH → Prop) (go : QGo) (cs : Nat × Nat) (pc : Nat) (lv : List (Nat × QV)) (st : List QV) (h : QH) : Prop := match qget (qmi m) pc with
  | none => False
  | some (ins, _) => match ins with
    | .iadd => qp2 0 0 st fun b a r => go cs (pc + 1) lv ((0, a + b) :: r) h
    | .isub => qp2 0 0 st fun b a r => go cs (pc + 1) lv ((0, a - b) :: r) h
    | .imul => qp2 0 0 st fun b a r => go cs (pc + 1) lv ((0, a * b) :: r) h
    | .iand => qp2 0 0 st fun b a r => go cs (pc + 1) lv ((0, qand a b) :: r) h
    | .ior => qp2 0 0 st fun b a r => go cs (pc + 1) lv ((0, qor a b) :: r) h
    | .ixor => qp2 0 0 st fun b a r => go cs (pc + 1) lv ((0, qxor a b) :: r) h
    | .ishl => qp2 0 0 st fun b a r => go cs (pc + 1) lv ((0, qshl a b) :: r) h
    | .ishr => qp2 0 0 st fun b a r => go cs (pc + 1) lv ((0, qshr a b) :: r) h
    | .iushr => qp2 0 0 st fun b a r => go cs (pc + 1) lv ((0, qushr a b) :: r) h
    | .ladd => qp2 1 1 st fun b a r => go cs (pc + 1) lv ((1, a + b) :: r) h
    | .lsub => qp2 1 1 st fun b a r => go cs (pc + 1) lv ((1, a - b) :: r) h
    | .lmul => qp2 1 1 st fun b a r => go cs (pc + 1) lv ((1, a * b) :: r) h
    | .land => qp2 1 1 st fun b a r => go cs (pc + 1) lv ((1, qland a b) :: r) h
    | .lor => qp2 1 1 st fun b a r => go cs (pc + 1) lv ((1, qlor a b) :: r) h
    | .lxor => qp2 1 1 st fun b a r => go cs (pc + 1) lv ((1, qlxor a b) :: r) h
    | .lshl => qp2 0 1 st fun b a r => go cs (pc + 1) lv ((1, qlshl a b) :: r) h
    | .lshr => qp2 0 1 st fun b a r => go cs (pc + 1) lv ((1, qlshr a b) :: r) h
    | .lushr => qp2 0 1 st fun b a r => go cs (pc + 1) lv ((1, qlushr a b) :: r) h
    | .idiv => qp2 0 0 st fun b a r => in32 a ∧ in32 b ∧ 0 < b ∧ go cs (pc + 1) lv ((0, a.tdiv b) :: r) h
    | .irem => qp2 0 0 st fun b a r => in32 a ∧ in32 b ∧ 0 < b ∧ go cs (pc + 1) lv ((0, a.tmod b) :: r) h
    | .ldiv => qp2 1 1 st fun b a r => in64 a ∧ in64 b ∧ 0 < b ∧ go cs (pc + 1) lv ((1, a.tdiv b) :: r) h
    | .lrem => qp2 1 1 st fun b a r => in64 a ∧ in64 b ∧ 0 < b ∧ go cs (pc + 1) lv ((1, a.tmod b) :: r) h
    | .ineg => qp1 0 st fun a r => go cs (pc + 1) lv ((0, -a) :: r) h
    | .i2l => qp1 0 st fun a r => in32 a ∧ go cs (pc + 1) lv ((1, a) :: r) h
    | .l2i => qp1 1 st fun a r => go cs (pc + 1) lv ((0, ql2i a) :: r) h
    | .i2b => qp1 0 st fun a r => go cs (pc + 1) lv ((0, qi2b a) :: r) h
    | .i2s => qp1 0 st fun a r => go cs (pc + 1) lv ((0, qi2s a) :: r) h
    | .i2c => qp1 0 st fun a r => go cs (pc + 1) lv ((0, qi2c a) :: r) h
    | .iconst n => go cs (pc + 1) lv ((0, n) :: st) h
    | .bipush n => go cs (pc + 2) lv ((0, n) :: st) h
    | .sipush n => go cs (pc + 3) lv ((0, n) :: st) h
    | .lconst n => go cs (pc + 1) lv ((1, (n.val : Int)) :: st) h
    | .ldc i => (match qfnd (qcit (qmo m)) i with | some e => go cs (pc + 2) lv ((0, e.1) :: st) h | none => (match qfnd (qslk (qmo m)) i with | some e => go cs (pc + 2) lv ((2, -3 - (e.2 : Int)) :: st) h | none => False))
    | .ldc_w i => (match qfnd (qcit (qmo m)) i with | some e => go cs (pc + 3) lv ((0, e.1) :: st) h | none => False)
    | .ldc2_w i => (match qfnd (qclt (qmo m)) i with | some e => go cs (pc + 3) lv ((1, e.1) :: st) h | none => False)
    | .iload i => qpl lv i 0 fun x => go cs (pc + 2) lv ((0, x) :: st) h
    | .iload_n i => qpl lv i.val 0 fun x => go cs (pc + 1) lv ((0, x) :: st) h
    | .lload i => qpl lv i 1 fun x => go cs (pc + 2) lv ((1, x) :: st) h
    | .lload_n i => qpl lv i.val 1 fun x => go cs (pc + 1) lv ((1, x) :: st) h
    | .aload i => qpl lv i 2 fun x => go cs (pc + 2) lv ((2, x) :: st) h
    | .aload_n i => qpl lv i.val 2 fun x => go cs (pc + 1) lv ((2, x) :: st) h
    | .istore i => qp1 0 st fun x r => go cs (pc + 2) (qset lv i (0, x)) r h
    | .istore_n i => qp1 0 st fun x r => go cs (pc + 1) (qset lv i.val (0, x)) r h
    | .lstore i => qp1 1 st fun x r => go cs (pc + 2) (qsetl lv i (1, x)) r h
    | .lstore_n i => qp1 1 st fun x r => go cs (pc + 1) (qsetl lv i.val (1, x)) r h
    | .astore i => qp1 2 st fun x r => go cs (pc + 2) (qset lv i (2, x)) r h
    | .astore_n i => qp1 2 st fun x r => go cs (pc + 1) (qset lv i.val (2, x)) r h
    | .iinc i n => qpl lv i 0 fun x => go cs (pc + 3) (qset lv i (0, x + n)) st h
    | .dup => (match st with | v :: r => (bif v.1 == 1 then False else go cs (pc + 1) lv (v :: v :: r) h) | _ => False)
    | .dup2 => (match st with | v :: r => (bif v.1 == 1 then go cs (pc + 1) lv (v :: v :: r) h else (match r with | w :: r1 => (bif w.1 == 1 then False else go cs (pc + 1) lv (v :: w :: v :: w :: r1) h) | _ => False)) | _ => False)
    | .pop => (match st with | v :: r => (bif v.1 == 1 then False else go cs (pc + 1) lv r h) | _ => False)
    | .pop2 => qp1 1 st fun _ r => go cs (pc + 1) lv r h
    | .goto off => go cs (qtgt pc off) lv st h
    | .if_icmp c off => qp2 0 0 st fun b a r => qbr c a b (go cs (qtgt pc off) lv r h) (go cs (pc + 3) lv r h)
    | .ifCond c off => qp1 0 st fun a r => qbr c a 0 (go cs (qtgt pc off) lv r h) (go cs (pc + 3) lv r h)
    | .lcmp => qp2 1 1 st fun b a r => (match qget (qmi m) (pc + 1) with | some (.ifCond c off, _) => qbrl c a b (go cs (qtgt (pc + 1) off) lv r h) (go cs (pc + 1 + 3) lv r h) | _ => False)
    | .tableswitch dflt lo hi offs => qp1 0 st fun x r => in32 x ∧ qsw x (fun of => go cs (qtgt pc of) lv r h) lo offs.toList ∧ ((x < lo ∨ hi < x) → go cs (qtgt pc dflt) lv r h)
    | .getfield i => (bif qmo m == 16 then (qp1 2 st fun a r => (-19 < a ∧ a ≤ -3) ∧ (bif i == 9 then go cs (pc + 3) lv ((2, a - 100) :: r) h else bif i == 15 then go cs (pc + 3) lv ((0, 0) :: r) h else False)) else match qfnd (qflt (qmo m)) i with | some e => qp1 2 st fun a r => (h.1.2.1 a).1 = e.1 ∧ go cs (pc + 3) lv ((qfk e.1 e.2.1, qval h (qfk e.1 e.2.1) a e.2.1) :: r) h | none => False)
    | .getstatic i => (bif qmo m == 16 then (bif i == 38 then go cs (pc + 3) lv ((0, 1) :: st) h else bif i == 1053 then go cs (pc + 3) lv ((2, qfm X) :: st) h else False) else False)
    | .lookupswitch dflt ps => qp1 0 st fun x r => in32 x ∧ qswl x (fun of => go cs (qtgt pc of) lv r h) (go cs (qtgt pc dflt) lv r h) ps.toList
    | .putfield i => (match qfnd (qflt (qmo m)) i with | some e => qp2 (qfk e.1 e.2.1) 2 st fun x a r => (h.1.2.1 a).1 = e.1 ∧ qfitc (qtyf e.1 e.2.1) x (bif qpok m e.1 e.2.1 then go cs (pc + 3) lv r (qputf h (qfk e.1 e.2.1) a e.2.1 x) else False) | none => False)
    | .iaload => (bif qmo m == 12 then (qp2 0 2 st fun i a r => a = -2 ∧ 0 ≤ i ∧ i < (qxL X : Int) ∧ go cs (pc + 1) lv ((0, (qxs X i.toNat).toInt) :: r) h) else (qp2 0 2 st fun i a r => (h.1.2.1 a).1 = 100 ∧ 0 ≤ i ∧ i < (h.1.2.1 a).2 ∧ go cs (pc + 1) lv ((0, h.2 a i) :: r) h))
    | .laload => qp2 0 2 st fun i a r => (h.1.2.1 a).1 = 101 ∧ 0 ≤ i ∧ i < (h.1.2.1 a).2 ∧ go cs (pc + 1) lv ((1, h.2 a i) :: r) h
    | .baload => (bif qmo m == 17 then (qp2 0 2 st fun i a r => (-119 < a ∧ a ≤ -103) ∧ 0 ≤ i ∧ i < (qsn.getD (-103 - a).toNat 0 : Int) ∧ go cs (pc + 1) lv ((0, ((qsb.getD (-103 - a).toNat []).getD i.toNat 0).toInt) :: r) h) else bif qmo m == 11 then (qp2 0 2 st fun i a r => (h.1.2.1 a).1 = 103 ∧ 0 ≤ i ∧ i < (h.1.2.1 a).2 ∧ go cs (pc + 1) lv ((0, h.2 a i) :: r) h) else (qp2 0 2 st fun i a r => (h.1.2.1 a).1 = 102 ∧ 0 ≤ i ∧ i < (h.1.2.1 a).2 ∧ go cs (pc + 1) lv ((0, h.2 a i) :: r) h))
    | .aaload => qp2 0 2 st fun i a r => (104 ≤ (h.1.2.1 a).1 ∧ (h.1.2.1 a).1 ≤ 106) ∧ 0 ≤ i ∧ i < (h.1.2.1 a).2 ∧ go cs (pc + 1) lv ((2, h.1.2.2 a i) :: r) h
    | .iastore => qp3 0 0 2 st fun x i a r => (h.1.2.1 a).1 = 100 ∧ 0 ≤ i ∧ i < (h.1.2.1 a).2 ∧ go cs (pc + 1) lv r (h.1, qup h.2 a i x)
    | .lastore => qp3 1 0 2 st fun x i a r => (h.1.2.1 a).1 = 101 ∧ 0 ≤ i ∧ i < (h.1.2.1 a).2 ∧ go cs (pc + 1) lv r (h.1, qup h.2 a i x)
    | .bastore => (bif qmo m == 11 then (qp3 0 0 2 st fun x i a r => (x = 0 ∨ x = 1) ∧ (h.1.2.1 a).1 = 103 ∧ 0 ≤ i ∧ i < (h.1.2.1 a).2 ∧ go cs (pc + 1) lv r (h.1, qup h.2 a i x)) else (qp3 0 0 2 st fun x i a r => (h.1.2.1 a).1 = 102 ∧ 0 ≤ i ∧ i < (h.1.2.1 a).2 ∧ go cs (pc + 1) lv r (h.1, qup h.2 a i (qi2b x))))
    | .aastore => qp3 2 0 2 st fun x i a r => (((h.1.2.1 a).1 = 104 ∧ (h.1.2.1 x).1 = 6) ∨ ((h.1.2.1 a).1 = 105 ∧ (h.1.2.1 x).1 = 8) ∨ ((h.1.2.1 a).1 = 106 ∧ (h.1.2.1 x).1 = 0)) ∧ 0 ≤ i ∧ i < (h.1.2.1 a).2 ∧ go cs (pc + 1) lv r ((h.1.1, h.1.2.1, qup h.1.2.2 a i x), h.2)
    | .arraylength => (bif qmo m == 16 || qmo m == 17 then (qp1 2 st fun a r => (-119 < a ∧ a ≤ -103) ∧ go cs (pc + 1) lv ((0, (qsn.getD (-103 - a).toNat 0 : Int)) :: r) h) else bif qmo m == 12 then (qp1 2 st fun a r => a = -2 ∧ go cs (pc + 1) lv ((0, (qxL X : Int)) :: r) h) else (qp1 2 st fun a r => (100 ≤ (h.1.2.1 a).1 ∧ (h.1.2.1 a).1 ≤ 106) ∧ go cs (pc + 1) lv ((0, (h.1.2.1 a).2) :: r) h))
    | .new i => (match qfnd (qnwt (qmo m)) i with | some e => 0 ≤ h.1.1 ∧ (bif Nat.ble (cs.1 + 1) mx.1 && Nat.ble (cs.2 + e.2.1) mx.2 then go (cs.1 + 1, cs.2 + e.2.1) (pc + 3) lv ((2, h.1.1) :: st) (qnew h e.1 e.2.1) else False) | none => False)
    | .newarray t => qp1 0 st fun n r => 0 ≤ n ∧ n ≤ 100000 ∧ 0 ≤ h.1.1 ∧ (bif Nat.ble 100 (qak t) && (Nat.ble (cs.1 + 1) mx.1 && Nat.ble (cs.2 + n.toNat) mx.2) then go (cs.1 + 1, cs.2 + n.toNat) (pc + 2) lv ((2, h.1.1) :: r) (qnew h (qak t) n) else False)
    | .anewarray i => (match qfnd (qnwt (qmo m)) i with | some e => qp1 0 st fun n r => 0 ≤ n ∧ n ≤ 100000 ∧ 0 ≤ h.1.1 ∧ (bif Nat.ble 100 (qrak e.1) && (Nat.ble (cs.1 + 1) mx.1 && Nat.ble (cs.2 + n.toNat) mx.2) then go (cs.1 + 1, cs.2 + n.toNat) (pc + 3) lv ((2, h.1.1) :: r) (qnew h (qrak e.1) n) else False) | none => False)
    | .invokevirtual i => (match qfnd (qmlt (qmo m)) i with | some E => qcall X d mx go cs pc lv st h (qkdOf 0 E.1) E | none => False)
    | .invokestatic i => (match qfnd (qmlt (qmo m)) i with | some E => qcall X d mx go cs pc lv st h (qkdOf 1 E.1) E | none => False)
    | .invokespecial i => (match qfnd (qmlt (qmo m)) i with | some E => qcall X d mx go cs pc lv st h (qkdOf 2 E.1) E | none => False)
    | .ireturn => qp1 0 st fun x r => (match r with | [] => (bif Nat.ble cs.1 mx.1 && Nat.ble cs.2 mx.2 then (match qmr m with | some .int => post x h | some .boolean => (x = 0 ∨ x = 1) ∧ post x h | some .char => (0 ≤ x ∧ x ≤ 65535) ∧ post x h | some .byte => (-128 ≤ x ∧ x ≤ 127) ∧ post x h | _ => False) else False) | _ => False)
    | .lreturn => qp1 1 st fun x r => (match r with | [] => (bif Nat.ble cs.1 mx.1 && Nat.ble cs.2 mx.2 then (match qmr m with | some .long => post x h | _ => False) else False) | _ => False)
    | .return_ => (match st with | [] => (bif Nat.ble cs.1 mx.1 && Nat.ble cs.2 mx.2 then (match qmr m with | none => post 0 h | _ => False) else False) | _ => False)
    | _ => False
section QSound
variable {X : QX} {d : Nat} {mx : Nat × Nat} {m : QMeth} {post : Int → QH → Prop} {go : QGo}
theorem qcall_invokevirtual {cs : Nat × Nat} {pc i : Nat} {lv : List (Nat × QV)} {st : List QV} {h : QH} {E : QME} (hgo : ∀ cs pc lv st h, go cs pc lv st h → QR X d mx m post cs pc lv st h) (he : qfnd (qmlt (qmo m)) i = some E) (hd : decode (qmc m) pc = .ok (.invokevirtual i, 3)) (hq : qcall X d mx go cs pc lv st h (qkdOf 0 E.1) E) : QR X d mx m post cs pc lv st h := by
  have hc := List.all_eq_true.mp (qml_all (qmo m)) _ (qfnd_mem he)
  obtain ⟨kd, y, na, ci, mc, ms, rk, ps⟩ := E
  unfold qcall at hq
  split at hq
  · exact hq.elim
  · rename_i dd
    obtain ⟨hb, hq⟩ := qbif hq
    have hkd : kd = 5 ∨ kd = 0 := by
      have hb : (qkdOf 0 kd == kd) = true := hb
      by_cases z : kd = 5
      · exact Or.inl z
      · right
        have : (kd == 5) = false := by simpa using z
        simp [qkdOf, this] at hb
        exact hb.symm
    rcases hkd with rfl | rfl
    · simp only [qmlc, Bool.and_eq_true] at hc
      obtain ⟨c1, c2, c3, c4, c5, c6⟩ := hc
      have hq : qcallT X dd mx go cs pc lv st h y na mc ms rk := hq
      unfold qcallT at hq
      split at hq
      · rename_i as st1 ht
        obtain ⟨e1, e2⟩ := qtake_of ht
        obtain ⟨a, r, rfl, h1, hq2⟩ := qp1_of hq
        obtain ⟨hb, hq3⟩ := qbif hq2
        simp only [Bool.and_eq_true] at hb
        rw [e1]
        exact qs_invokestr (dd := dd) (ci := ci) ⟨qrow_in c1, qrow_in c2, of_decide_eq_true c3, (fun z => by cases z), (fun z => by cases z), (fun z => by cases z)⟩ ⟨qrow_in c4, qrow_in c5, of_decide_eq_true c6⟩ rfl e2 h1 (by rw [← qwn_eq]; exact Nat.le_of_ble_eq_true hb.1) ⟨Nat.le_of_ble_eq_true hb.2.1, Nat.le_of_ble_eq_true hb.2.2⟩ hd (hq3.mono (fun x h' hz => hgo _ _ _ _ _ hz))
      · exact hq.elim
    · simp only [qmlc, Bool.and_eq_true] at hc
      obtain ⟨c1, c2, c3, c4, c5, c6, c7⟩ := hc
      have hq : qcallV X dd mx go cs pc lv st h y na ci mc ms rk := hq
      unfold qcallV at hq
      split at hq
      · rename_i as st1 ht
        obtain ⟨e1, e2⟩ := qtake_of ht
        obtain ⟨a, r, rfl, h1, hq2⟩ := qp1_of hq
        obtain ⟨hb, hq3⟩ := qbif hq2
        simp only [Bool.and_eq_true] at hb
        rw [e1]
        exact qs_invokevirtual (dd := dd) ⟨qrow_in c1, qrow_in c2, of_decide_eq_true c3, fun _ => ⟨qrow_in c4, qrow_in c5, _, qvw ci (of_decide_eq_true c6), of_decide_eq_true c7⟩, (fun z => by cases z), (fun z => by cases z)⟩ rfl e2 h1 (by rw [← qwn_eq]; exact Nat.le_of_ble_eq_true hb.1) ⟨Nat.le_of_ble_eq_true hb.2.1, Nat.le_of_ble_eq_true hb.2.2⟩ hd (hq3.mono (fun x h' hz => hgo _ _ _ _ _ hz))
      · exact hq.elim
theorem qcall_invokestatic {cs : Nat × Nat} {pc i : Nat} {lv : List (Nat × QV)} {st : List QV} {h : QH} {E : QME} (hgo : ∀ cs pc lv st h, go cs pc lv st h → QR X d mx m post cs pc lv st h) (he : qfnd (qmlt (qmo m)) i = some E) (hd : decode (qmc m) pc = .ok (.invokestatic i, 3)) (hq : qcall X d mx go cs pc lv st h (qkdOf 1 E.1) E) : QR X d mx m post cs pc lv st h := by
  have hc := List.all_eq_true.mp (qml_all (qmo m)) _ (qfnd_mem he)
  obtain ⟨kd, y, na, ci, mc, ms, rk, ps⟩ := E
  unfold qcall at hq
  split at hq
  · exact hq.elim
  · rename_i dd
    obtain ⟨hb, hq⟩ := qbif hq
    have hkd : kd = 4 ∨ kd = 1 := by
      have hb : (qkdOf 1 kd == kd) = true := hb
      by_cases z : kd = 4
      · exact Or.inl z
      · right
        have : (kd == 4) = false := by simpa using z
        simp [qkdOf, this] at hb
        exact hb.symm
    rcases hkd with rfl | rfl
    · simp only [qmlc, Bool.and_eq_true] at hc
      obtain ⟨c1, c2⟩ := hc
      have c2 := of_decide_eq_true c2
      subst c2
      have hq : qcallA go cs pc lv st h := hq
      unfold qcallA at hq
      obtain ⟨n, dp, a, r1, rfl, hq2⟩ := qp3_of hq
      obtain ⟨sp, b, r, rfl, h1, h2, h3, h4, h5, h6, h7, hq3⟩ := qp2_of hq2
      obtain ⟨hb, hq4⟩ := qbif hq3
      exact qs_arraycopy (qrow_in c1) qacp.1 qacp.2.1 qacp.2.2 h1 h2 h3 h4 h5 h6 h7 (by omega) (by rw [← qwn_eq]; exact Nat.le_of_ble_eq_true hb) hd (hgo _ _ _ _ _ hq4)
    · simp only [qmlc, Bool.and_eq_true] at hc
      obtain ⟨c1, c2, c3, c4⟩ := hc
      have hq : qcallS X dd mx go cs pc lv st h y na mc ms rk := hq
      unfold qcallS at hq
      split at hq
      · rename_i as r ht
        obtain ⟨e1, e2⟩ := qtake_of ht
        obtain ⟨hb, hq⟩ := qbif hq
        simp only [Bool.and_eq_true] at hb
        rw [e1]
        exact qs_invokestatic (dd := dd) (ci := ci) ⟨qrow_in c1, qrow_in c2, of_decide_eq_true c3, (fun z => by cases z), fun _ => qrow_in c4, (fun z => by cases z)⟩ rfl e2 (by rw [← qwn_eq]; exact Nat.le_of_ble_eq_true hb.1) ⟨Nat.le_of_ble_eq_true hb.2.1, Nat.le_of_ble_eq_true hb.2.2⟩ hd (hq.mono (fun x h' hz => hgo _ _ _ _ _ hz))
      · exact hq.elim
theorem qcall_invokespecial {cs : Nat × Nat} {pc i : Nat} {lv : List (Nat × QV)} {st : List QV} {h : QH} {E : QME} (hgo : ∀ cs pc lv st h, go cs pc lv st h → QR X d mx m post cs pc lv st h) (he : qfnd (qmlt (qmo m)) i = some E) (hd : decode (qmc m) pc = .ok (.invokespecial i, 3)) (hq : qcall X d mx go cs pc lv st h (qkdOf 2 E.1) E) : QR X d mx m post cs pc lv st h := by
  have hc := List.all_eq_true.mp (qml_all (qmo m)) _ (qfnd_mem he)
  obtain ⟨kd, y, na, ci, mc, ms, rk, ps⟩ := E
  unfold qcall at hq
  split at hq
  · exact hq.elim
  · rename_i dd
    obtain ⟨hb, hq⟩ := qbif hq
    have hkd : kd = 3 ∨ kd = 2 := by
      have hb : (qkdOf 2 kd == kd) = true := hb
      by_cases z : kd = 3
      · exact Or.inl z
      · right
        have : (kd == 3) = false := by simpa using z
        simp [qkdOf, this] at hb
        exact hb.symm
    rcases hkd with rfl | rfl
    · simp only [qmlc, Bool.and_eq_true] at hc
      obtain ⟨c1, c2⟩ := hc
      have c2 := of_decide_eq_true c2
      subst c2
      have hq : qcallO go cs pc lv st h := hq
      unfold qcallO at hq
      obtain ⟨a, r, rfl, h1, hq2⟩ := qp1_of hq
      obtain ⟨hb, hq3⟩ := qbif hq2
      exact qs_objinit (qrow_in c1) qobj.1 qobj.2 (by omega) h1 (by rw [← qwn_eq]; exact Nat.le_of_ble_eq_true hb) hd (hgo _ _ _ _ _ hq3)
    · simp only [qmlc, Bool.and_eq_true] at hc
      obtain ⟨c1, c2, c3, c4, c5⟩ := hc
      have hq : qcallI X dd mx go cs pc lv st h y na mc ms := hq
      unfold qcallI at hq
      split at hq
      · rename_i as st1 ht
        obtain ⟨e1, e2⟩ := qtake_of ht
        obtain ⟨a, r, rfl, h1, hq2⟩ := qp1_of hq
        obtain ⟨hb, hq3⟩ := qbif hq2
        simp only [Bool.and_eq_true] at hb
        rw [e1]
        exact qs_invokeinit (dd := dd) (ci := ci) ⟨qrow_in c1, qrow_in c2, of_decide_eq_true c3, (fun z => by cases z), (fun z => by cases z), fun _ => ⟨of_decide_eq_true c5, qrow_in c4⟩⟩ rfl e2 h1 (by rw [← qwn_eq]; exact Nat.le_of_ble_eq_true hb.1) ⟨Nat.le_of_ble_eq_true hb.2.1, Nat.le_of_ble_eq_true hb.2.2⟩ hd (hq3.mono (fun x h' hz => hgo _ _ _ _ _ hz))
      · exact hq.elim
set_option maxHeartbeats 4000000 in
theorem qstep_ok (hm : qmok m) (hgo : ∀ cs pc lv st h, go cs pc lv st h → QR X d mx m post cs pc lv st h) {cs : Nat × Nat} {pc : Nat} {lv : List (Nat × QV)} {st : List QV} {h : QH} (hq : qstep X d mx m post go cs pc lv st h) : QR X d mx m post cs pc lv st h := by
  unfold qstep at hq
  split at hq
  · exact hq.elim
  rename_i ins len hg
  obtain ⟨hd, hk⟩ := qmok_get hm hg
  split at hq
  · skip
    rw [qlen, Bool.and_eq_true] at hk
    obtain ⟨hk0, hk⟩ := hk
    rw [show len = 1 by simpa using hk0] at hd
    obtain ⟨b, a, r, rfl, hq'⟩ := qp2_of hq; exact qs_iadd hd (hgo _ _ _ _ _ hq')
  · skip
    rw [qlen, Bool.and_eq_true] at hk
    obtain ⟨hk0, hk⟩ := hk
    rw [show len = 1 by simpa using hk0] at hd
    obtain ⟨b, a, r, rfl, hq'⟩ := qp2_of hq; exact qs_isub hd (hgo _ _ _ _ _ hq')
  · skip
    rw [qlen, Bool.and_eq_true] at hk
    obtain ⟨hk0, hk⟩ := hk
    rw [show len = 1 by simpa using hk0] at hd
    obtain ⟨b, a, r, rfl, hq'⟩ := qp2_of hq; exact qs_imul hd (hgo _ _ _ _ _ hq')
  · skip
    rw [qlen, Bool.and_eq_true] at hk
    obtain ⟨hk0, hk⟩ := hk
    rw [show len = 1 by simpa using hk0] at hd
    obtain ⟨b, a, r, rfl, hq'⟩ := qp2_of hq; exact qs_iand hd (hgo _ _ _ _ _ hq')
  · skip
    rw [qlen, Bool.and_eq_true] at hk
    obtain ⟨hk0, hk⟩ := hk
    rw [show len = 1 by simpa using hk0] at hd
    obtain ⟨b, a, r, rfl, hq'⟩ := qp2_of hq; exact qs_ior hd (hgo _ _ _ _ _ hq')
  · skip
    rw [qlen, Bool.and_eq_true] at hk
    obtain ⟨hk0, hk⟩ := hk
    rw [show len = 1 by simpa using hk0] at hd
    obtain ⟨b, a, r, rfl, hq'⟩ := qp2_of hq; exact qs_ixor hd (hgo _ _ _ _ _ hq')
  · skip
    rw [qlen, Bool.and_eq_true] at hk
    obtain ⟨hk0, hk⟩ := hk
    rw [show len = 1 by simpa using hk0] at hd
    obtain ⟨b, a, r, rfl, hq'⟩ := qp2_of hq; exact qs_ishl hd (hgo _ _ _ _ _ hq')
  · skip
    rw [qlen, Bool.and_eq_true] at hk
    obtain ⟨hk0, hk⟩ := hk
    rw [show len = 1 by simpa using hk0] at hd
    obtain ⟨b, a, r, rfl, hq'⟩ := qp2_of hq; exact qs_ishr hd (hgo _ _ _ _ _ hq')
  · skip
    rw [qlen, Bool.and_eq_true] at hk
    obtain ⟨hk0, hk⟩ := hk
    rw [show len = 1 by simpa using hk0] at hd
    obtain ⟨b, a, r, rfl, hq'⟩ := qp2_of hq; exact qs_iushr hd (hgo _ _ _ _ _ hq')
  · skip
    rw [qlen, Bool.and_eq_true] at hk
    obtain ⟨hk0, hk⟩ := hk
    rw [show len = 1 by simpa using hk0] at hd
    obtain ⟨b, a, r, rfl, hq'⟩ := qp2_of hq; exact qs_ladd hd (hgo _ _ _ _ _ hq')
  · skip
    rw [qlen, Bool.and_eq_true] at hk
    obtain ⟨hk0, hk⟩ := hk
    rw [show len = 1 by simpa using hk0] at hd
    obtain ⟨b, a, r, rfl, hq'⟩ := qp2_of hq; exact qs_lsub hd (hgo _ _ _ _ _ hq')
  · skip
    rw [qlen, Bool.and_eq_true] at hk
    obtain ⟨hk0, hk⟩ := hk
    rw [show len = 1 by simpa using hk0] at hd
    obtain ⟨b, a, r, rfl, hq'⟩ := qp2_of hq; exact qs_lmul hd (hgo _ _ _ _ _ hq')
  · skip
    rw [qlen, Bool.and_eq_true] at hk
    obtain ⟨hk0, hk⟩ := hk
    rw [show len = 1 by simpa using hk0] at hd
    obtain ⟨b, a, r, rfl, hq'⟩ := qp2_of hq; exact qs_land hd (hgo _ _ _ _ _ hq')
  · skip
    rw [qlen, Bool.and_eq_true] at hk
    obtain ⟨hk0, hk⟩ := hk
    rw [show len = 1 by simpa using hk0] at hd
    obtain ⟨b, a, r, rfl, hq'⟩ := qp2_of hq; exact qs_lor hd (hgo _ _ _ _ _ hq')
  · skip
    rw [qlen, Bool.and_eq_true] at hk
    obtain ⟨hk0, hk⟩ := hk
    rw [show len = 1 by simpa using hk0] at hd
    obtain ⟨b, a, r, rfl, hq'⟩ := qp2_of hq; exact qs_lxor hd (hgo _ _ _ _ _ hq')
  · skip
    rw [qlen, Bool.and_eq_true] at hk
    obtain ⟨hk0, hk⟩ := hk
    rw [show len = 1 by simpa using hk0] at hd
    obtain ⟨b, a, r, rfl, hq'⟩ := qp2_of hq; exact qs_lshl hd (hgo _ _ _ _ _ hq')
  · skip
    rw [qlen, Bool.and_eq_true] at hk
    obtain ⟨hk0, hk⟩ := hk
    rw [show len = 1 by simpa using hk0] at hd
    obtain ⟨b, a, r, rfl, hq'⟩ := qp2_of hq; exact qs_lshr hd (hgo _ _ _ _ _ hq')
  · skip
    rw [qlen, Bool.and_eq_true] at hk
    obtain ⟨hk0, hk⟩ := hk
    rw [show len = 1 by simpa using hk0] at hd
    obtain ⟨b, a, r, rfl, hq'⟩ := qp2_of hq; exact qs_lushr hd (hgo _ _ _ _ _ hq')
  · skip
    rw [qlen, Bool.and_eq_true] at hk
    obtain ⟨hk0, hk⟩ := hk
    rw [show len = 1 by simpa using hk0] at hd
    obtain ⟨b, a, r, rfl, h1, h2, h3, hq'⟩ := qp2_of hq; exact qs_idiv h1 h2 h3 hd (hgo _ _ _ _ _ hq')
  · skip
    rw [qlen, Bool.and_eq_true] at hk
    obtain ⟨hk0, hk⟩ := hk
    rw [show len = 1 by simpa using hk0] at hd
    obtain ⟨b, a, r, rfl, h1, h2, h3, hq'⟩ := qp2_of hq; exact qs_irem h1 h2 h3 hd (hgo _ _ _ _ _ hq')
  · skip
    rw [qlen, Bool.and_eq_true] at hk
    obtain ⟨hk0, hk⟩ := hk
    rw [show len = 1 by simpa using hk0] at hd
    obtain ⟨b, a, r, rfl, h1, h2, h3, hq'⟩ := qp2_of hq; exact qs_ldiv h1 h2 h3 hd (hgo _ _ _ _ _ hq')
  · skip
    rw [qlen, Bool.and_eq_true] at hk
    obtain ⟨hk0, hk⟩ := hk
    rw [show len = 1 by simpa using hk0] at hd
    obtain ⟨b, a, r, rfl, h1, h2, h3, hq'⟩ := qp2_of hq; exact qs_lrem h1 h2 h3 hd (hgo _ _ _ _ _ hq')
  · skip
    rw [qlen, Bool.and_eq_true] at hk
    obtain ⟨hk0, hk⟩ := hk
    rw [show len = 1 by simpa using hk0] at hd
    obtain ⟨a, r, rfl, hq'⟩ := qp1_of hq; exact qs_ineg hd (hgo _ _ _ _ _ hq')
  · skip
    rw [qlen, Bool.and_eq_true] at hk
    obtain ⟨hk0, hk⟩ := hk
    rw [show len = 1 by simpa using hk0] at hd
    obtain ⟨a, r, rfl, h1, hq'⟩ := qp1_of hq; exact qs_i2l h1 hd (hgo _ _ _ _ _ hq')
  · skip
    rw [qlen, Bool.and_eq_true] at hk
    obtain ⟨hk0, hk⟩ := hk
    rw [show len = 1 by simpa using hk0] at hd
    obtain ⟨a, r, rfl, hq'⟩ := qp1_of hq; exact qs_l2i hd (hgo _ _ _ _ _ hq')
  · skip
    rw [qlen, Bool.and_eq_true] at hk
    obtain ⟨hk0, hk⟩ := hk
    rw [show len = 1 by simpa using hk0] at hd
    obtain ⟨a, r, rfl, hq'⟩ := qp1_of hq; exact qs_i2b hd (hgo _ _ _ _ _ hq')
  · skip
    rw [qlen, Bool.and_eq_true] at hk
    obtain ⟨hk0, hk⟩ := hk
    rw [show len = 1 by simpa using hk0] at hd
    obtain ⟨a, r, rfl, hq'⟩ := qp1_of hq; exact qs_i2s hd (hgo _ _ _ _ _ hq')
  · skip
    rw [qlen, Bool.and_eq_true] at hk
    obtain ⟨hk0, hk⟩ := hk
    rw [show len = 1 by simpa using hk0] at hd
    obtain ⟨a, r, rfl, hq'⟩ := qp1_of hq; exact qs_i2c hd (hgo _ _ _ _ _ hq')
  · rename_i n
    rw [qlen, Bool.and_eq_true] at hk
    obtain ⟨hk0, hk⟩ := hk
    rw [show len = 1 by simpa using hk0] at hd
    exact qs_iconst hd (hgo _ _ _ _ _ hq)
  · rename_i n
    rw [qlen, Bool.and_eq_true] at hk
    obtain ⟨hk0, hk⟩ := hk
    rw [show len = 2 by simpa using hk0] at hd
    exact qs_bipush (of_decide_eq_true hk) hd (hgo _ _ _ _ _ hq)
  · rename_i n
    rw [qlen, Bool.and_eq_true] at hk
    obtain ⟨hk0, hk⟩ := hk
    rw [show len = 3 by simpa using hk0] at hd
    exact qs_sipush (of_decide_eq_true hk) hd (hgo _ _ _ _ _ hq)
  · rename_i n
    rw [qlen, Bool.and_eq_true] at hk
    obtain ⟨hk0, hk⟩ := hk
    rw [show len = 1 by simpa using hk0] at hd
    exact qs_lconst hd (hgo _ _ _ _ _ hq)
  · rename_i i
    rw [qlen, Bool.and_eq_true] at hk
    obtain ⟨hk0, hk⟩ := hk
    rw [show len = 2 by simpa using hk0] at hd
    split at hq
    · rename_i e he
      have hc := List.all_eq_true.mp (qci_all (qmo m)) _ (qfnd_mem he)
      rw [qcic, Bool.and_eq_true] at hc
      exact qs_ldc (v := Int32.ofInt e.1) (qrow_in hc.2) hd (k := by rw [q32 (show in32 e.1 from by have h9 := of_decide_eq_true hc.1; exact h9)]; exact hgo _ _ _ _ _ hq)
    · split at hq
      · rename_i e he
        exact qs_ldcS (e := (i, e.1, e.2)) (qslk_ok _ _ (qfnd_mem he)) hd (hgo _ _ _ _ _ hq)
      · exact hq.elim
  · rename_i i
    rw [qlen, Bool.and_eq_true] at hk
    obtain ⟨hk0, hk⟩ := hk
    rw [show len = 3 by simpa using hk0] at hd
    split at hq
    · rename_i e he
      have hc := List.all_eq_true.mp (qci_all (qmo m)) _ (qfnd_mem he)
      rw [qcic, Bool.and_eq_true] at hc
      have := qs_ldcw (v := Int32.ofInt e.1) (qrow_in hc.2) hd (k := by rw [q32 (show in32 e.1 from by have h9 := of_decide_eq_true hc.1; exact h9)]; exact hgo _ _ _ _ _ hq)
      exact this
    · exact hq.elim
  · rename_i i
    rw [qlen, Bool.and_eq_true] at hk
    obtain ⟨hk0, hk⟩ := hk
    rw [show len = 3 by simpa using hk0] at hd
    split at hq
    · rename_i e he
      have hc := List.all_eq_true.mp (qcl_all (qmo m)) _ (qfnd_mem he)
      rw [qclc, Bool.and_eq_true] at hc
      exact qs_ldc2 (v := Int64.ofInt e.1) (qrow_in hc.2) hd (k := by rw [q64 (show in64 e.1 from by have h9 := of_decide_eq_true hc.1; exact h9)]; exact hgo _ _ _ _ _ hq)
    · exact hq.elim
  · rename_i i
    rw [qlen, Bool.and_eq_true] at hk
    obtain ⟨hk0, hk⟩ := hk
    rw [show len = 2 by simpa using hk0] at hd
    obtain ⟨x, h1, hq⟩ := qpl_of hq; exact qs_iload h1 hd (hgo _ _ _ _ _ hq)
  · rename_i i
    rw [qlen, Bool.and_eq_true] at hk
    obtain ⟨hk0, hk⟩ := hk
    rw [show len = 1 by simpa using hk0] at hd
    obtain ⟨x, h1, hq⟩ := qpl_of hq; exact qs_iload_n h1 hd (hgo _ _ _ _ _ hq)
  · rename_i i
    rw [qlen, Bool.and_eq_true] at hk
    obtain ⟨hk0, hk⟩ := hk
    rw [show len = 2 by simpa using hk0] at hd
    obtain ⟨x, h1, hq⟩ := qpl_of hq; exact qs_lload h1 hd (hgo _ _ _ _ _ hq)
  · rename_i i
    rw [qlen, Bool.and_eq_true] at hk
    obtain ⟨hk0, hk⟩ := hk
    rw [show len = 1 by simpa using hk0] at hd
    obtain ⟨x, h1, hq⟩ := qpl_of hq; exact qs_lload_n h1 hd (hgo _ _ _ _ _ hq)
  · rename_i i
    rw [qlen, Bool.and_eq_true] at hk
    obtain ⟨hk0, hk⟩ := hk
    rw [show len = 2 by simpa using hk0] at hd
    obtain ⟨x, h1, hq⟩ := qpl_of hq; exact qs_aload h1 hd (hgo _ _ _ _ _ hq)
  · rename_i i
    rw [qlen, Bool.and_eq_true] at hk
    obtain ⟨hk0, hk⟩ := hk
    rw [show len = 1 by simpa using hk0] at hd
    obtain ⟨x, h1, hq⟩ := qpl_of hq; exact qs_aload_n h1 hd (hgo _ _ _ _ _ hq)
  · rename_i i
    rw [qlen, Bool.and_eq_true] at hk
    obtain ⟨hk0, hk⟩ := hk
    rw [show len = 2 by simpa using hk0] at hd
    obtain ⟨x, r, rfl, hq'⟩ := qp1_of hq; exact qs_istore (of_decide_eq_true hk) hd (hgo _ _ _ _ _ hq')
  · rename_i i
    rw [qlen, Bool.and_eq_true] at hk
    obtain ⟨hk0, hk⟩ := hk
    rw [show len = 1 by simpa using hk0] at hd
    obtain ⟨x, r, rfl, hq'⟩ := qp1_of hq; exact qs_istore_n (of_decide_eq_true hk) hd (hgo _ _ _ _ _ hq')
  · rename_i i
    rw [qlen, Bool.and_eq_true] at hk
    obtain ⟨hk0, hk⟩ := hk
    rw [show len = 2 by simpa using hk0] at hd
    obtain ⟨x, r, rfl, hq'⟩ := qp1_of hq; exact qs_lstore (of_decide_eq_true hk) hd (hgo _ _ _ _ _ hq')
  · rename_i i
    rw [qlen, Bool.and_eq_true] at hk
    obtain ⟨hk0, hk⟩ := hk
    rw [show len = 1 by simpa using hk0] at hd
    obtain ⟨x, r, rfl, hq'⟩ := qp1_of hq; exact qs_lstore_n (of_decide_eq_true hk) hd (hgo _ _ _ _ _ hq')
  · rename_i i
    rw [qlen, Bool.and_eq_true] at hk
    obtain ⟨hk0, hk⟩ := hk
    rw [show len = 2 by simpa using hk0] at hd
    obtain ⟨x, r, rfl, hq'⟩ := qp1_of hq; exact qs_astore (of_decide_eq_true hk) hd (hgo _ _ _ _ _ hq')
  · rename_i i
    rw [qlen, Bool.and_eq_true] at hk
    obtain ⟨hk0, hk⟩ := hk
    rw [show len = 1 by simpa using hk0] at hd
    obtain ⟨x, r, rfl, hq'⟩ := qp1_of hq; exact qs_astore_n (of_decide_eq_true hk) hd (hgo _ _ _ _ _ hq')
  · rename_i i n
    rw [qlen, Bool.and_eq_true] at hk
    obtain ⟨hk0, hk⟩ := hk
    rw [show len = 3 by simpa using hk0] at hd
    obtain ⟨x, h1, hq⟩ := qpl_of hq; exact qs_iinc (of_decide_eq_true hk) h1 hd (hgo _ _ _ _ _ hq)
  · skip
    rw [qlen, Bool.and_eq_true] at hk
    obtain ⟨hk0, hk⟩ := hk
    rw [show len = 1 by simpa using hk0] at hd
    split at hq
    · rename_i v r
      by_cases e : v.1 = 1
      · rw [show (v.1 == 1) = true by simpa using e] at hq; exact hq.elim
      · rw [show (v.1 == 1) = false by simpa using e] at hq; exact qs_dup e hd (hgo _ _ _ _ _ hq)
    · exact hq.elim
  · skip
    rw [qlen, Bool.and_eq_true] at hk
    obtain ⟨hk0, hk⟩ := hk
    rw [show len = 1 by simpa using hk0] at hd
    split at hq
    · rename_i v r
      by_cases e : v.1 = 1
      · rw [show (v.1 == 1) = true by simpa using e] at hq
        obtain ⟨v1, v2⟩ := v
        cases e
        exact qs_dup2_2 hd (hgo _ _ _ _ _ hq)
      · rw [show (v.1 == 1) = false by simpa using e, cond_false] at hq
        split at hq
        · rename_i w r1
          by_cases e2 : w.1 = 1
          · rw [show (w.1 == 1) = true by simpa using e2] at hq; exact hq.elim
          · rw [show (w.1 == 1) = false by simpa using e2] at hq; exact qs_dup2_11 e e2 hd (hgo _ _ _ _ _ hq)
        · exact hq.elim
    · exact hq.elim
  · skip
    rw [qlen, Bool.and_eq_true] at hk
    obtain ⟨hk0, hk⟩ := hk
    rw [show len = 1 by simpa using hk0] at hd
    split at hq
    · rename_i v r
      by_cases e : v.1 = 1
      · rw [show (v.1 == 1) = true by simpa using e] at hq; exact hq.elim
      · rw [show (v.1 == 1) = false by simpa using e] at hq; exact qs_pop e hd (hgo _ _ _ _ _ hq)
    · exact hq.elim
  · skip
    rw [qlen, Bool.and_eq_true] at hk
    obtain ⟨hk0, hk⟩ := hk
    rw [show len = 1 by simpa using hk0] at hd
    obtain ⟨x, r, rfl, hq'⟩ := qp1_of hq; exact qs_pop2_2 hd (hgo _ _ _ _ _ hq')
  · rename_i off
    rw [qlen, Bool.and_eq_true] at hk
    obtain ⟨hk0, hk⟩ := hk
    rw [show len = 3 by simpa using hk0] at hd
    exact qs_goto (qtgt_of hk) hd (hgo _ _ _ _ _ hq)
  · rename_i c off
    rw [qlen, Bool.and_eq_true] at hk
    obtain ⟨hk0, hk⟩ := hk
    rw [show len = 3 by simpa using hk0] at hd
    obtain ⟨b, a, r, rfl, hq'⟩ := qp2_of hq
    have ht := qtgt_of hk
    cases c with
    | eq => exact qs_icmp_eq (fun z => ⟨(hq'.2 z).1, (hq'.2 z).2.1⟩) ht hd (fun z => hgo _ _ _ _ _ (hq'.1 z)) (fun z => hgo _ _ _ _ _ (hq'.2 z).2.2)
    | ne => exact qs_icmp_ne (fun z => ⟨(hq'.1 z).1, (hq'.1 z).2.1⟩) ht hd (fun z => hgo _ _ _ _ _ (hq'.2 z)) (fun z => hgo _ _ _ _ _ (hq'.1 z).2.2)
    | lt => exact qs_icmp_lt hq'.1 hq'.2.1 ht hd (fun z => hgo _ _ _ _ _ (hq'.2.2.1 z)) (fun z => hgo _ _ _ _ _ (hq'.2.2.2 z))
    | ge => exact qs_icmp_ge hq'.1 hq'.2.1 ht hd (fun z => hgo _ _ _ _ _ (hq'.2.2.1 z)) (fun z => hgo _ _ _ _ _ (hq'.2.2.2 z))
    | gt => exact qs_icmp_gt hq'.1 hq'.2.1 ht hd (fun z => hgo _ _ _ _ _ (hq'.2.2.1 z)) (fun z => hgo _ _ _ _ _ (hq'.2.2.2 z))
    | le => exact qs_icmp_le hq'.1 hq'.2.1 ht hd (fun z => hgo _ _ _ _ _ (hq'.2.2.1 z)) (fun z => hgo _ _ _ _ _ (hq'.2.2.2 z))
  · rename_i c off
    rw [qlen, Bool.and_eq_true] at hk
    obtain ⟨hk0, hk⟩ := hk
    rw [show len = 3 by simpa using hk0] at hd
    obtain ⟨a, r, rfl, hq'⟩ := qp1_of hq
    have ht := qtgt_of hk
    cases c with
    | eq => exact qs_if_eq (fun z => ⟨(hq'.2 z).1, (hq'.2 z).2.1⟩) ht hd (fun z => hgo _ _ _ _ _ (hq'.1 z)) (fun z => hgo _ _ _ _ _ (hq'.2 z).2.2)
    | ne => exact qs_if_ne (fun z => ⟨(hq'.1 z).1, (hq'.1 z).2.1⟩) ht hd (fun z => hgo _ _ _ _ _ (hq'.2 z)) (fun z => hgo _ _ _ _ _ (hq'.1 z).2.2)
    | lt => exact qs_if_lt hq'.1 ht hd (fun z => hgo _ _ _ _ _ (hq'.2.2.1 z)) (fun z => hgo _ _ _ _ _ (hq'.2.2.2 z))
    | ge => exact qs_if_ge hq'.1 ht hd (fun z => hgo _ _ _ _ _ (hq'.2.2.1 z)) (fun z => hgo _ _ _ _ _ (hq'.2.2.2 z))
    | gt => exact qs_if_gt hq'.1 ht hd (fun z => hgo _ _ _ _ _ (hq'.2.2.1 z)) (fun z => hgo _ _ _ _ _ (hq'.2.2.2 z))
    | le => exact qs_if_le hq'.1 ht hd (fun z => hgo _ _ _ _ _ (hq'.2.2.1 z)) (fun z => hgo _ _ _ _ _ (hq'.2.2.2 z))
  · skip
    rw [qlen, Bool.and_eq_true] at hk
    obtain ⟨hk0, hk⟩ := hk
    rw [show len = 1 by simpa using hk0] at hd
    obtain ⟨b, a, r, rfl, hq'⟩ := qp2_of hq
    split at hq'
    · rename_i c off len2 hg2
      obtain ⟨hd2, hk2⟩ := qmok_get hm hg2
      rw [qlen, Bool.and_eq_true] at hk2
      rw [show len2 = 3 by simpa using hk2.1] at hd2
      have ht := qtgt_of hk2.2
      have one : in32 1 := ⟨by decide, by decide⟩
      have neg : in32 (-1) := ⟨by decide, by decide⟩
      have zer : in32 0 := ⟨by decide, by decide⟩
      have key : ∀ (ha : in64 a) (hb : in64 b), in32 (if b < a then 1 else if a = b then 0 else -1) := fun _ _ => by
        split
        · exact one
        · split
          · exact zer
          · exact neg
      cases c with
      | eq =>
        by_cases z : a = b
        · subst z; exact qs_lcmp_same hd (qs_if_eq (fun w => absurd rfl w) ht hd2 (fun _ => hgo _ _ _ _ _ (hq'.1 rfl)) (fun w => absurd rfl w))
        · obtain ⟨ha, hb, hq'⟩ := hq'.2 z
          exact qs_lcmp ha hb hd (qs_if_eq (fun _ => ⟨key ha hb, zer⟩) ht hd2 (fun w => by (repeat' split at w) <;> omega) (fun _ => hgo _ _ _ _ _ hq'))
      | ne =>
        by_cases z : a = b
        · subst z; exact qs_lcmp_same hd (qs_if_ne (fun w => absurd rfl w) ht hd2 (fun _ => hgo _ _ _ _ _ (hq'.2 rfl)) (fun w => absurd rfl w))
        · obtain ⟨ha, hb, hq'⟩ := hq'.1 z
          exact qs_lcmp ha hb hd (qs_if_ne (fun _ => ⟨key ha hb, zer⟩) ht hd2 (fun w => by (repeat' split at w) <;> omega) (fun _ => hgo _ _ _ _ _ hq'))
      | lt => exact qs_lcmp hq'.1 hq'.2.1 hd (qs_if_lt (key hq'.1 hq'.2.1) ht hd2 (fun w => hgo _ _ _ _ _ (hq'.2.2.1 (by (repeat' split at w) <;> omega))) (fun w => hgo _ _ _ _ _ (hq'.2.2.2 (by (repeat' split at w) <;> omega))))
      | ge => exact qs_lcmp hq'.1 hq'.2.1 hd (qs_if_ge (key hq'.1 hq'.2.1) ht hd2 (fun w => hgo _ _ _ _ _ (hq'.2.2.1 (by (repeat' split at w) <;> omega))) (fun w => hgo _ _ _ _ _ (hq'.2.2.2 (by (repeat' split at w) <;> omega))))
      | gt => exact qs_lcmp hq'.1 hq'.2.1 hd (qs_if_gt (key hq'.1 hq'.2.1) ht hd2 (fun w => hgo _ _ _ _ _ (hq'.2.2.1 (by (repeat' split at w) <;> omega))) (fun w => hgo _ _ _ _ _ (hq'.2.2.2 (by (repeat' split at w) <;> omega))))
      | le => exact qs_lcmp hq'.1 hq'.2.1 hd (qs_if_le (key hq'.1 hq'.2.1) ht hd2 (fun w => hgo _ _ _ _ _ (hq'.2.2.1 (by (repeat' split at w) <;> omega))) (fun w => hgo _ _ _ _ _ (hq'.2.2.2 (by (repeat' split at w) <;> omega))))
    · exact hq'.elim
  · rename_i dflt lo hi offs
    rw [qlen] at hk
    obtain ⟨x, r, rfl, hx, h1, h2⟩ := qp1_of hq
    rw [Bool.and_eq_true, Bool.and_eq_true] at hk
    obtain ⟨hk1, hk2, hk3⟩ := hk
    by_cases hc : x < lo ∨ hi < x
    · exact qs_tableOut hx hc (qtgt_of hk1) hd (hgo _ _ _ _ _ (h2 hc))
    · have hlt : (x - lo).toNat < offs.toList.length := by
        have := of_decide_eq_true hk2
        simp only [Array.length_toList]
        omega
      obtain ⟨off, hoff⟩ : ∃ off, offs.toList[(x - lo).toNat]? = some off := ⟨_, List.getElem?_eq_getElem hlt⟩
      have hq' := qsw_at (j := (x - lo).toNat) (by omega) hoff h1
      have hin : decide (0 ≤ (pc : Int) + off) = true := List.all_eq_true.mp hk3 off (List.mem_of_getElem? hoff)
      exact qs_tableIn hx (by omega) (by omega) (by rw [← Array.getElem?_toList]; exact hoff) (qtgt_of hin) hd (hgo _ _ _ _ _ hq')
  · rename_i i
    rw [qlen, Bool.and_eq_true] at hk
    obtain ⟨hk0, hk⟩ := hk
    rw [show len = 3 by simpa using hk0] at hd
    by_cases e16 : qmo m = 16
    · rw [show (qmo m == 16) = true by simpa using e16, cond_true] at hq
      obtain ⟨a, r, rfl, hs, hq'⟩ := qp1_of hq
      by_cases e9 : i = 9
      · subst e9; exact qs_strval e16 hs qsf9 hd (hgo _ _ _ _ _ hq')
      · rw [show (i == 9) = false by simpa using e9, cond_false] at hq'
        by_cases e15 : i = 15
        · subst e15; exact qs_strcod e16 hs qsf15 hd (hgo _ _ _ _ _ hq')
        · rw [show (i == 15) = false by simpa using e15, cond_false] at hq'; exact hq'.elim
    · rw [show (qmo m == 16) = false by simpa using e16, cond_false] at hq
      split at hq
      · rename_i e he
        obtain ⟨a, r, rfl, h1, hq'⟩ := qp1_of hq
        have hc := List.all_eq_true.mp (qfl_all (qmo m)) _ (qfnd_mem he)
        rw [qflc, Bool.and_eq_true, Bool.and_eq_true] at hc
        exact qs_getfield (qvw e.1 (of_decide_eq_true hc.1)) (of_decide_eq_true hc.2.1) (qrow_in hc.2.2) h1 hd (hgo _ _ _ _ _ hq')
      · exact hq.elim
  · rename_i i
    rw [qlen, Bool.and_eq_true] at hk
    obtain ⟨hk0, hk⟩ := hk
    rw [show len = 3 by simpa using hk0] at hd
    by_cases e16 : qmo m = 16
    · rw [show (qmo m == 16) = true by simpa using e16, cond_true] at hq
      by_cases e9 : i = 38
      · subst e9; exact qs_stat1 e16 qsf38 hd (hgo _ _ _ _ _ hq)
      · rw [show (i == 38) = false by simpa using e9, cond_false] at hq
        by_cases e15 : i = 1053
        · subst e15; exact qs_stat2 e16 qsf1053 hd (hgo _ _ _ _ _ hq)
        · rw [show (i == 1053) = false by simpa using e15, cond_false] at hq; exact hq.elim
    · rw [show (qmo m == 16) = false by simpa using e16, cond_false] at hq; exact hq.elim
  · rename_i dflt ps
    rw [qlen] at hk
    obtain ⟨x, r, rfl, hx, hq'⟩ := qp1_of hq
    rw [Bool.and_eq_true, Bool.and_eq_true] at hk
    obtain ⟨hk1, hk2, hk3⟩ := hk
    rcases qswl_at (dflt := dflt) hq' with ⟨e1, hq'⟩ | ⟨off, hm9, e1, hq'⟩
    · exact qs_lookup hx hk2 e1 (qtgt_of hk1) hd (hgo _ _ _ _ _ hq')
    · exact qs_lookup hx hk2 e1 (qtgt_of (List.all_eq_true.mp hk3 _ hm9)) hd (hgo _ _ _ _ _ hq')
  · rename_i i
    rw [qlen, Bool.and_eq_true] at hk
    obtain ⟨hk0, hk⟩ := hk
    rw [show len = 3 by simpa using hk0] at hd
    split at hq
    · rename_i e he
      obtain ⟨x, a, r, rfl, h1, hq'⟩ := qp2_of hq
      have hc := List.all_eq_true.mp (qfl_all (qmo m)) _ (qfnd_mem he)
      rw [qflc, Bool.and_eq_true, Bool.and_eq_true] at hc
      obtain ⟨hf, hq'⟩ := qfitc_of hq'
      obtain ⟨ho, hq'⟩ := qbif hq'
      refine qs_putfield (qvw e.1 (of_decide_eq_true hc.1)) (of_decide_eq_true hc.2.1) (qrow_in hc.2.2) h1 hf ?_ hd (hgo _ _ _ _ _ hq')
      rw [qpok, Bool.or_eq_true, Bool.and_eq_true] at ho
      rcases ho with ho | ho
      · exact Or.inl (by simpa using ho)
      · exact Or.inr ⟨of_decide_eq_true ho.1, of_decide_eq_true ho.2⟩
    · exact hq.elim
  · skip
    rw [qlen, Bool.and_eq_true] at hk
    obtain ⟨hk0, hk⟩ := hk
    rw [show len = 1 by simpa using hk0] at hd
    by_cases e : qmo m = 12
    · rw [show (qmo m == 12) = true by simpa using e, cond_true] at hq
      obtain ⟨i, a, r, rfl, rfl, h1, h2, hq'⟩ := qp2_of hq
      exact qs_sload h1 h2 hd (hgo _ _ _ _ _ hq')
    · rw [show (qmo m == 12) = false by simpa using e, cond_false] at hq
      obtain ⟨i, a, r, rfl, h0, h1, h2, hq'⟩ := qp2_of hq
      exact qs_iaload h0 h1 h2 hd (hgo _ _ _ _ _ hq')
  · skip
    rw [qlen, Bool.and_eq_true] at hk
    obtain ⟨hk0, hk⟩ := hk
    rw [show len = 1 by simpa using hk0] at hd
    obtain ⟨i, a, r, rfl, h0, h1, h2, hq'⟩ := qp2_of hq; exact qs_laload h0 h1 h2 hd (hgo _ _ _ _ _ hq')
  · skip
    rw [qlen, Bool.and_eq_true] at hk
    obtain ⟨hk0, hk⟩ := hk
    rw [show len = 1 by simpa using hk0] at hd
    by_cases e17 : qmo m = 17
    · rw [show (qmo m == 17) = true by simpa using e17, cond_true] at hq
      obtain ⟨i, a, r, rfl, h0, h1, h2, hq'⟩ := qp2_of hq
      exact qs_strbyte h0 h1 h2 hd (hgo _ _ _ _ _ hq')
    · rw [show (qmo m == 17) = false by simpa using e17, cond_false] at hq
      by_cases e : qmo m = 11
      · rw [show (qmo m == 11) = true by simpa using e, cond_true] at hq
        obtain ⟨i, a, r, rfl, h0, h1, h2, hq'⟩ := qp2_of hq
        exact qs_zaload h0 h1 h2 hd (hgo _ _ _ _ _ hq')
      · rw [show (qmo m == 11) = false by simpa using e, cond_false] at hq
        obtain ⟨i, a, r, rfl, h0, h1, h2, hq'⟩ := qp2_of hq
        exact qs_baload h0 h1 h2 hd (hgo _ _ _ _ _ hq')
  · skip
    rw [qlen, Bool.and_eq_true] at hk
    obtain ⟨hk0, hk⟩ := hk
    rw [show len = 1 by simpa using hk0] at hd
    obtain ⟨i, a, r, rfl, h0, h1, h2, hq'⟩ := qp2_of hq; exact qs_aaload rfl h0.1 h0.2 h1 h2 hd (hgo _ _ _ _ _ hq')
  · skip
    rw [qlen, Bool.and_eq_true] at hk
    obtain ⟨hk0, hk⟩ := hk
    rw [show len = 1 by simpa using hk0] at hd
    obtain ⟨x, i, a, r, rfl, h0, h1, h2, hq'⟩ := qp3_of hq; exact qs_iastore h0 h1 h2 hd (hgo _ _ _ _ _ hq')
  · skip
    rw [qlen, Bool.and_eq_true] at hk
    obtain ⟨hk0, hk⟩ := hk
    rw [show len = 1 by simpa using hk0] at hd
    obtain ⟨x, i, a, r, rfl, h0, h1, h2, hq'⟩ := qp3_of hq; exact qs_lastore h0 h1 h2 hd (hgo _ _ _ _ _ hq')
  · skip
    rw [qlen, Bool.and_eq_true] at hk
    obtain ⟨hk0, hk⟩ := hk
    rw [show len = 1 by simpa using hk0] at hd
    by_cases e : qmo m = 11
    · rw [show (qmo m == 11) = true by simpa using e, cond_true] at hq
      obtain ⟨x, i, a, r, rfl, hz, h0, h1, h2, hq'⟩ := qp3_of hq
      exact qs_zastore hz h0 h1 h2 hd (hgo _ _ _ _ _ hq')
    · rw [show (qmo m == 11) = false by simpa using e, cond_false] at hq
      obtain ⟨x, i, a, r, rfl, h0, h1, h2, hq'⟩ := qp3_of hq
      exact qs_bastore h0 h1 h2 hd (hgo _ _ _ _ _ hq')
  · skip
    rw [qlen, Bool.and_eq_true] at hk
    obtain ⟨hk0, hk⟩ := hk
    rw [show len = 1 by simpa using hk0] at hd
    obtain ⟨x, i, a, r, rfl, h0, h1, h2, hq'⟩ := qp3_of hq; exact qs_aastore rfl (by omega) (by omega) rfl h0 h1 h2 hd (hgo _ _ _ _ _ hq')
  · skip
    rw [qlen, Bool.and_eq_true] at hk
    obtain ⟨hk0, hk⟩ := hk
    rw [show len = 1 by simpa using hk0] at hd
    by_cases e17 : (qmo m == 16 || qmo m == 17) = true
    · rw [e17, cond_true] at hq
      obtain ⟨a, r, rfl, h0, hq'⟩ := qp1_of hq
      exact qs_strlen h0 hd (hgo _ _ _ _ _ hq')
    · rw [show (qmo m == 16 || qmo m == 17) = false by simpa using e17, cond_false] at hq
      by_cases e : qmo m = 12
      · rw [show (qmo m == 12) = true by simpa using e, cond_true] at hq
        obtain ⟨a, r, rfl, rfl, hq'⟩ := qp1_of hq
        exact qs_slen hd (hgo _ _ _ _ _ hq')
      · rw [show (qmo m == 12) = false by simpa using e, cond_false] at hq
        obtain ⟨a, r, rfl, h0, hq'⟩ := qp1_of hq
        exact qs_alen h0.1 h0.2 hd (hgo _ _ _ _ _ hq')
  · rename_i i
    rw [qlen, Bool.and_eq_true] at hk
    obtain ⟨hk0, hk⟩ := hk
    rw [show len = 3 by simpa using hk0] at hd
    split at hq
    · rename_i e he
      obtain ⟨h0, hq⟩ := hq
      obtain ⟨hb, hq⟩ := qbif hq
      rw [Bool.and_eq_true] at hb
      have hc := List.all_eq_true.mp (qnw_all (qmo m)) _ (qfnd_mem he)
      simp only [qnwc, Bool.and_eq_true] at hc
      obtain ⟨c1, c2, c3, c4, c5⟩ := hc
      have c2 := of_decide_eq_true c2
      rw [c2] at hq hb
      exact qs_new (qvw e.1 (of_decide_eq_true c1)) (qrow_in c3) (qrow_in c4) (qrow_in c5) (qnfd e.1 (of_decide_eq_true c1)) h0 ⟨Nat.le_of_ble_eq_true hb.1, Nat.le_of_ble_eq_true hb.2⟩ hd (hgo _ _ _ _ _ hq)
    · exact hq.elim
  · rename_i t
    rw [qlen, Bool.and_eq_true] at hk
    obtain ⟨hk0, hk⟩ := hk
    rw [show len = 2 by simpa using hk0] at hd
    obtain ⟨n, r, rfl, h1, h2, h3, hq'⟩ := qp1_of hq
    obtain ⟨hb, hq'⟩ := qbif hq'
    rw [Bool.and_eq_true, Bool.and_eq_true] at hb
    exact qs_newarray (Nat.le_of_ble_eq_true hb.1) (qarc t (Nat.le_of_ble_eq_true hb.1)) h1 h2 h3 ⟨Nat.le_of_ble_eq_true hb.2.1, Nat.le_of_ble_eq_true hb.2.2⟩ hd (hgo _ _ _ _ _ hq')
  · rename_i i
    rw [qlen, Bool.and_eq_true] at hk
    obtain ⟨hk0, hk⟩ := hk
    rw [show len = 3 by simpa using hk0] at hd
    split at hq
    · rename_i e he
      obtain ⟨n, r, rfl, h1, h2, h3, hq'⟩ := qp1_of hq
      obtain ⟨hb, hq'⟩ := qbif hq'
      rw [Bool.and_eq_true, Bool.and_eq_true] at hb
      have hc := List.all_eq_true.mp (qnw_all (qmo m)) _ (qfnd_mem he)
      simp only [qnwc, Bool.and_eq_true] at hc
      obtain ⟨c1, c2, c3, c4, c5⟩ := hc
      exact qs_anewarray (qrak_of (Nat.le_of_ble_eq_true hb.1)) (qrow_in c3) h1 h2 h3 ⟨Nat.le_of_ble_eq_true hb.2.1, Nat.le_of_ble_eq_true hb.2.2⟩ hd (hgo _ _ _ _ _ hq')
    · exact hq.elim
  · rename_i i
    rw [qlen, Bool.and_eq_true] at hk
    obtain ⟨hk0, hk⟩ := hk
    rw [show len = 3 by simpa using hk0] at hd
    split at hq
    · rename_i E he
      exact qcall_invokevirtual hgo he hd hq
    · exact hq.elim
  · rename_i i
    rw [qlen, Bool.and_eq_true] at hk
    obtain ⟨hk0, hk⟩ := hk
    rw [show len = 3 by simpa using hk0] at hd
    split at hq
    · rename_i E he
      exact qcall_invokestatic hgo he hd hq
    · exact hq.elim
  · rename_i i
    rw [qlen, Bool.and_eq_true] at hk
    obtain ⟨hk0, hk⟩ := hk
    rw [show len = 3 by simpa using hk0] at hd
    split at hq
    · rename_i E he
      exact qcall_invokespecial hgo he hd hq
    · exact hq.elim
  · skip
    rw [qlen, Bool.and_eq_true] at hk
    obtain ⟨hk0, hk⟩ := hk
    rw [show len = 1 by simpa using hk0] at hd
    obtain ⟨x, r, rfl, hq'⟩ := qp1_of hq
    split at hq'
    · obtain ⟨hb, hq'⟩ := qbif hq'
      rw [Bool.and_eq_true] at hb
      split at hq'
      · rename_i hr; exact qs_ireturn hr ⟨Nat.le_of_ble_eq_true hb.1, Nat.le_of_ble_eq_true hb.2⟩ hd hq'
      · rename_i hr; exact qs_zreturn hr hq'.1 ⟨Nat.le_of_ble_eq_true hb.1, Nat.le_of_ble_eq_true hb.2⟩ hd hq'.2
      · rename_i hr; exact qs_creturn hr hq'.1 ⟨Nat.le_of_ble_eq_true hb.1, Nat.le_of_ble_eq_true hb.2⟩ hd hq'.2
      · rename_i hr; exact qs_breturn hr hq'.1 ⟨Nat.le_of_ble_eq_true hb.1, Nat.le_of_ble_eq_true hb.2⟩ hd hq'.2
      · exact hq'.elim
    · exact hq'.elim
  · skip
    rw [qlen, Bool.and_eq_true] at hk
    obtain ⟨hk0, hk⟩ := hk
    rw [show len = 1 by simpa using hk0] at hd
    obtain ⟨x, r, rfl, hq'⟩ := qp1_of hq
    split at hq'
    · obtain ⟨hb, hq'⟩ := qbif hq'
      rw [Bool.and_eq_true] at hb
      split at hq'
      · rename_i hr; exact qs_lreturn hr ⟨Nat.le_of_ble_eq_true hb.1, Nat.le_of_ble_eq_true hb.2⟩ hd hq'
      · exact hq'.elim
    · exact hq'.elim
  · skip
    rw [qlen, Bool.and_eq_true] at hk
    obtain ⟨hk0, hk⟩ := hk
    rw [show len = 1 by simpa using hk0] at hd
    split at hq
    · obtain ⟨hb, hq⟩ := qbif hq
      rw [Bool.and_eq_true] at hb
      split at hq
      · rename_i hr; exact qs_return hr ⟨Nat.le_of_ble_eq_true hb.1, Nat.le_of_ble_eq_true hb.2⟩ hd hq
      · exact hq.elim
    · exact hq.elim
  · exact hq.elim
end QSound
