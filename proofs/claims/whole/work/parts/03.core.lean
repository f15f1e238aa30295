/-! A SMALL MACHINE over whole numbers: values are a kind (0 int, 1 long, 2 reference) and an Int; a reference is a place (0 on: a cell that the run made, in order; -1 null; below: what was there before). -/
abbrev QV : Type := Nat × Int
abbrev QMem : Type := Int → Int → Int
abbrev QSh : Type := Int → Nat × Int
abbrev QS : Type := Int × QSh × QMem
abbrev QH : Type := QS × QMem
abbrev QIns : Type := Nat × Instr × Nat
abbrev QMeth : Type := Nat × MethodName × ByteArray × Nat × Option FieldType × List QIns
abbrev QX : Type := Launch × va_G × Heap × (Nat → ClassId) × (Nat → Nat) × Nat × (Nat → Int32)
abbrev qxl (X : QX) : Launch := X.1
abbrev qxD (X : QX) : va_G := X.2.1
abbrev qxH (X : QX) : Heap := X.2.2.1
abbrev qxA (X : QX) : Nat → ClassId := X.2.2.2.1
abbrev qxo (X : QX) : Nat → Nat := X.2.2.2.2.1
abbrev qxL (X : QX) : Nat := X.2.2.2.2.2.1
abbrev qxs (X : QX) : Nat → Int32 := X.2.2.2.2.2.2
abbrev qmo (m : QMeth) : Nat := m.1
abbrev qmy (m : QMeth) : MethodName := m.2.1
abbrev qmc (m : QMeth) : ByteArray := m.2.2.1
abbrev qmL (m : QMeth) : Nat := m.2.2.2.1
abbrev qmr (m : QMeth) : Option FieldType := m.2.2.2.2.1
abbrev qmi (m : QMeth) : List QIns := m.2.2.2.2.2
/-- of which class (by its number) a method is -/
def qown (o : Nat) : String := match o with
  | 0 => RX0 | 1 => RX1 | 2 => RX2 | 3 => RX3 | 4 => RX4 | 5 => RX5 | 6 => RX6 | 7 => RX7 | 8 => RX8 | 9 => RX9 | 10 => RX10 | 11 => RX11 | 12 => RL
  | 13 => RJ7 | 14 => RJ9 | 15 => RJ13 | 16 => RJ0 | 17 => RJ1 | _ => RJ3
def qtyf (ci : Nat) : Nat → FieldType := match ci with
  | 0 => tyX0 | 1 => tyX1 | 2 => tyX2 | 3 => tyX3 | 4 => tyX4 | 5 => tyX5 | 6 => tyX6 | 7 => tyX7 | 8 => tyX8 | 9 => tyX9 | 10 => tyX10 | _ => tyX11
def qkd (t : FieldType) : Nat := match t with
  | .long => 1 | .object _ => 2 | .array _ => 2 | _ => 0
def qfk (ci k : Nat) : Nat := qkd (qtyf ci k)
/-- kinds of arrays: 100 int, 101 long, 102 byte, 103 boolean, 104 and on references -/
def qel (k : Nat) : Nat := match k with
  | 100 => 0 | 101 => 1 | 102 => 0 | 103 => 0 | _ => 2
def qty (k : Nat) : FieldType := match k with
  | 100 => .int | 101 => .long | 102 => .byte | 103 => .boolean | 104 => .object RX6 | 105 => .object RX8 | _ => .object RX0
def qrv (X : QX) (x : Int) : Value := if 0 ≤ x then .ref ((qxH X).size + x.toNat) else if x = -1 then .null else .ref (qxo X (-2 - x).toNat)
def qcv (X : QX) (v : QV) : Value := match v.1 with
  | 0 => .int (Int32.ofInt v.2)
  | 1 => .long (Int64.ofInt v.2)
  | _ => qrv X v.2
def qval (h : QH) (kd : Nat) (a j : Int) : Int := match kd with
  | 2 => h.1.2.2 a j
  | _ => h.2 a j
def qat (X : QX) (h : QH) (a : Nat) (H : Heap) : Prop :=
  ((h.1.2.1 a).1 < 100 → ∃ r : vw_C, vwCl[(h.1.2.1 a).1]? = some r ∧ t_OB ((qxH X).size + a) ((qxD X).1 (h.1.2.1 a).1) r.2.2 ((qxD X).2 (h.1.2.1 a).1) H (fun j => qcv X (qfk (h.1.2.1 a).1 j, qval h (qfk (h.1.2.1 a).1 j) a j))) ∧
  (100 ≤ (h.1.2.1 a).1 → (h.1.2.1 a).1 ≤ 106 ∧ 0 ≤ (h.1.2.1 a).2 ∧ (h.1.2.1 a).2 < 2147483648 ∧ H[(qxH X).size + a]? = some (arrV (qxA X (h.1.2.1 a).1) (h.1.2.1 a).2.toNat (fun j => qcv X (qel (h.1.2.1 a).1, qval h (qel (h.1.2.1 a).1) a j))))
/-- the heap holds what the small one says; what was there before is as it was -/
def QHp (X : QX) (h : QH) (H : Heap) : Prop :=
  (H.size : Int) = (qxH X).size + h.1.1 ∧ (∀ q : Nat, q < (qxH X).size → H[q]? = (qxH X)[q]?) ∧ (∀ a : Int, (h.1.2.1 a).1 ≠ 999 → 0 ≤ a ∧ a < h.1.1) ∧ ∀ a : Nat, (a : Int) < h.1.1 → qat X h a H
abbrev qtys (X : QX) : List (ClassId × FieldType) := [(qxA X 100, qty 100), (qxA X 101, qty 101), (qxA X 102, qty 102), (qxA X 103, qty 103), (qxA X 104, qty 104), (qxA X 105, qty 105), (qxA X 106, qty 106)]
def qA (X : QX) : Nat → Prop := fun q => (qxH X).size ≤ q
/-- the texts: (class, pool entry, text, number) -/
def qsl : List (Nat × Nat × String × Nat) := [(7, 69, "land", 0), (7, 75, "rock", 1), (7, 77, "drum", 2), (7, 79, "yards", 3), (7, 81, "takes", 4), (7, 83, "may", 5), (7, 85, "wet", 6), (7, 87, "hour", 7), (7, 89, "x", 8), (7, 91, "y", 9), (7, 93, "lies", 10), (7, 95, "or", 11), (7, 97, "and", 12), (7, 99, "not", 13), (7, 51, ";:+-*()[]=<>", 14), (11, 77, " land rock drum yards takes may wet hour x y lies and or not ", 15), (11, 115, ";:+-*()[]=<>", 14)]
def qsn : List Nat := [4, 4, 4, 5, 5, 3, 3, 4, 1, 1, 4, 2, 3, 3, 12, 61]
def qsb : List (List Int32) := [[108, 97, 110, 100], [114, 111, 99, 107], [100, 114, 117, 109], [121, 97, 114, 100, 115], [116, 97, 107, 101, 115], [109, 97, 121], [119, 101, 116], [104, 111, 117, 114], [120], [121], [108, 105, 101, 115], [111, 114], [97, 110, 100], [110, 111, 116], [59, 58, 43, 45, 42, 40, 41, 91, 93, 61, 60, 62], [32, 108, 97, 110, 100, 32, 114, 111, 99, 107, 32, 100, 114, 117, 109, 32, 121, 97, 114, 100, 115, 32, 116, 97, 107, 101, 115, 32, 109, 97, 121, 32, 119, 101, 116, 32, 104, 111, 117, 114, 32, 120, 32, 121, 32, 108, 105, 101, 115, 32, 97, 110, 100, 32, 111, 114, 32, 110, 111, 116, 32]]
def qfm (X : QX) : Int := if qxo X 200 = 0 then -1 else -203
def QStr (X : QX) (U : State) : Prop := (∀ e ∈ qsl, vk_R (qown e.1) e.2.1 e.2.2.1 (qxo X (1 + e.2.2.2)) U) ∧ vk_S 16 qsn qsb (fun i => qxo X (1 + i)) (fun i => qxo X (101 + i)) (qA X) U (qxH X) ∧ va_Z "java/lang/String" "COMPACT_STRINGS" "Z" (.int 1) (qA X) U (qxH X) ∧ va_Z "jdk/internal/util/Preconditions" "SIOOBE_FORMATTER" "Ljava/util/function/BiFunction;" (qrv X (qfm X)) (qA X) U (qxH X)
/-- what the tables say -/
def QT (X : QX) (U : State) : Prop := va_K (qxD X) vwCl (qtys X) U ∧ (va_AO RX6 U ∧ va_AO RX8 U ∧ va_AO RX0 U) ∧ va_X (qxo X 0) (qxL X) (qxs X) U (qxH X) ∧ (qxo X 0 < (qxH X).size ∧ qxL X ≤ 3072) ∧ QStr X U
theorem QT.moved {X : QX} {u U : State} (hW : u.WarmedH U.vm) (h : QT X u) : QT X U := ⟨va_K.moved hW.alike h.1, ⟨va_AO.moved hW.alike h.2.1.1, va_AO.moved hW.alike h.2.1.2.1, va_AO.moved hW.alike h.2.1.2.2⟩, va_X.moved hW.alike h.2.2.1, h.2.2.2.1, fun e he => vk_R.warm hW (h.2.2.2.2.1 e he), vk_S.moved hW.alike h.2.2.2.2.2.1, va_Z.moved hW.alike h.2.2.2.2.2.2.1, va_Z.moved hW.alike h.2.2.2.2.2.2.2⟩
theorem QT.same {X : QX} {u U : State} (hv : U.vm = u.vm) (h : QT X u) : QT X U := by
  have ha : u.vm.Alike U.vm := by rw [hv]; exact Vm.Alike.refl u.vm
  exact ⟨va_K.moved ha h.1, ⟨va_AO.moved ha h.2.1.1, va_AO.moved ha h.2.1.2.1, va_AO.moved ha h.2.1.2.2⟩, va_X.moved ha h.2.2.1, h.2.2.2.1, fun e he => vk_R.same hv (h.2.2.2.2.1 e he), vk_S.moved ha h.2.2.2.2.2.1, va_Z.moved ha h.2.2.2.2.2.2.1, va_Z.moved ha h.2.2.2.2.2.2.2⟩
def qtbl : List Cond := lw_tbl.filter goodWord
theorem qtbl_good : GoodIn qtbl qtbl := fun w h => ⟨h, good_of_word (List.mem_filter.mp h).2⟩
theorem qin {w : Cond} (i : Nat) (h : lw_tbl[i]? = some w) (hg : goodWord w = true) : w ∈ qtbl := List.mem_filter.mpr ⟨List.mem_of_getElem? h, hg⟩
def qrk (t : Option FieldType) : Nat := match t with
  | none => 0 | some t => qkd t + 1
def qret (X : QX) (rk : Nat) (x : Int) : Option Value := match rk with
  | 0 => none | k + 1 => some (qcv X (k, x))
def QPc (X : QX) (as : List QV) (h : QH) : Array Value → State → Prop := fun v U => v = (as.map (qcv X)).toArray ∧ QT X U ∧ QHp X h U.heap
def QQc (X : QX) (rk : Nat) (post : Int → QH → Prop) : Array Value → State → Outcome → State → Prop := fun _ _ o t => ∃ (x : Int) (h : QH), o = .returned (qret X rk x) ∧ post x h ∧ QT X t ∧ QHp X h t.heap
def qroom (d mc ms : Nat) : Room := { frames := d, cells := mc, slots := ms, locals := 80 * d }
/-- a method's contract: called so, with this heap, it comes back, and 'post' holds of answer and heap -/
def QC (X : QX) (d mc ms rk : Nat) (y : MethodName) (as : List QV) (h : QH) (post : Int → QH → Prop) : Prop :=
  ∃ (cc : ByteArray) (maxL : Nat) (ret : Option FieldType), Cond.code y cc maxL ret ∈ qtbl ∧ maxL ≤ 60 ∧ qrk ret = rk ∧ Met (qxl X) y (Cond.code y cc maxL ret :: qtbl) (qroom d mc ms) (QPc X as h) (QQc X rk post) mc ms (qA X)
/-- what a method's body stands on -/
def QB (X : QX) (m : QMeth) (p : Program) (s : State) (mi : MethodId) (args : Array Value) (meth : Method) (c : Code) : Prop :=
  p.tables.exec = Jvm.exec ∧ c.code = qmc m ∧ c.maxLocals = qmL m ∧ meth.sig.returnType = qmr m ∧ meth.locks = false ∧ s.vm.findClass (qown (qmo m)) = some mi.cls ∧ (∀ w ∈ qtbl, w.before args s = true) ∧ meth.name = (qmy m).name ∧ QT X s
/-- from here the body comes to its end, and 'post' holds -/
def QR (X : QX) (d : Nat) (mx : Nat × Nat) (m : QMeth) (post : Int → QH → Prop) (cs : Nat × Nat) (pc : Nat) (lv : List (Nat × QV)) (st : List QV) (h : QH) : Prop :=
  ∀ (p : Program) (e : Env) (R : Room) (s : State) (mi : MethodId) (args : Array Value) (below : List Frame) (meth : Method) (c : Code) (H : Heap) (locs : List Loc) (ls : Array Slot),
    (d ≤ R.frames ∧ 80 * d ≤ R.locals ∧ R.cells = mx.1 ∧ R.slots = mx.2) → QB X m p s mi args meth c → QHp X h H → (∀ q ∈ locs, (qxH X).size ≤ q.base) → lv_has ls (qmL m) (lv.map fun q => (q.1, qcv X q.2)) →
    W p (qxl X) e R s mi args below meth c H locs cs.1 cs.2 (MQ below (QQc X (qrk (qmr m)) post) args s mx.1 mx.2 (qA X)) (F0 mi pc ls (st.map (qcv X)))
def in32 (x : Int) : Prop := -2147483648 ≤ x ∧ x ≤ 2147483647
def in64 (x : Int) : Prop := -9223372036854775808 ≤ x ∧ x ≤ 9223372036854775807
def qup (M : QMem) (a i x : Int) : QMem := fun b j => if b = a ∧ j = i then x else M b j
/-- a cell changes, all others stay -/
theorem qhp_put {X : QX} {h h' : QH} {H H1 : Heap} {a : Int} (hH : QHp X h H) (hn : h'.1.1 = h.1.1) (hs : h'.1.2.1 = h.1.2.1) (ha : 0 ≤ a ∧ a < h.1.1) (ho : ∀ b : Int, b ≠ a → ∀ j, h'.1.2.2 b j = h.1.2.2 b j ∧ h'.2 b j = h.2 b j) (z : H1.size = H.size) (oq : ∀ q : Nat, q ≠ (qxH X).size + a.toNat → H1[q]? = H[q]?) (hat : qat X h' a.toNat H1) : QHp X h' H1 := by
  obtain ⟨h1, h2, h3, h4⟩ := hH
  refine ⟨by rw [z, hn]; exact h1, fun q hq => ?_, by rw [hs, hn]; exact h3, fun b hb => ?_⟩
  · rw [oq q (by omega)]; exact h2 q hq
  · by_cases e : (b : Int) = a
    · have : b = a.toNat := by omega
      rw [this]; exact hat
    · have hv : ∀ kd j, qval h' kd b j = qval h kd b j := by
        intro kd j
        unfold qval
        split
        · exact (ho b e j).1
        · exact (ho b e j).2
      obtain ⟨g1, g2⟩ := h4 b (by rw [← hn]; exact hb)
      have hq : H1[(qxH X).size + b]? = H[(qxH X).size + b]? := oq _ (by omega)
      refine ⟨fun hc => ?_, fun hc => ?_⟩
      · rw [hs] at hc ⊢
        obtain ⟨r, r1, r2⟩ := g1 hc
        refine ⟨r, r1, (r2.kept hq).to (fun k _ => ?_)⟩
        rw [hv]
      · rw [hs] at hc ⊢
        obtain ⟨r1, r2, r3, r4⟩ := g2 hc
        refine ⟨r1, r2, r3, ?_⟩
        rw [hq, r4]
        congr 2
        funext j
        rw [hv]
