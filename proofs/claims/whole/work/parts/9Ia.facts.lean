def R_law : String := "RibbonRoadsLaw"
def lw_P (b : Addr) (xs : List Int32) (args : Array Value) (s : State) : Prop := args = #[.ref b] ∧ s.IntsAt b xs ∧ xs.length ≤ 3072 ∧ (Jvm.Cond.and given_1 narrow_1).before args s = true
def lw_Q (_ : Array Value) (s : State) (o : Outcome) (t : State) : Prop := o = .returned (some (.int 1)) ∧ Framed s o t [] 600000 7302250
def lw_Z (below : List Frame) (a : Array Value) (s : State) : State → Prop := fun t => ∃ o, t.status = .running ∧ Ended t below o ∧ lw_Q a s o t
def lw_At (p : Program) (s : State) (m : MethodId) (meth : Method) (c : Code) (b L : Nat) (xs : Nat → Int32) : Prop :=
  p.tables.exec = Jvm.exec ∧ c.code = code ∧ meth.sig.returnType = ret ∧ c.maxLocals = 4 ∧ s.vm.findClass R_law = some m.cls ∧ (∀ w ∈ lw_tbl, w.before #[Value.ref b] s = true) ∧ va_X b L xs s s.heap ∧ b < s.heap.size ∧ meth.locks = false ∧ (Jvm.Cond.and given_1 narrow_1).before #[Value.ref b] s = true ∧ meth.name = "law"
def lTm (i : Nat) : Term := ([.string "RibbonRoads$Tokens" 69, .string "RibbonRoads$Tokens" 75, .string "RibbonRoads$Tokens" 77, .string "RibbonRoads$Tokens" 79, .string "RibbonRoads$Tokens" 81, .string "RibbonRoads$Tokens" 83, .string "RibbonRoads$Tokens" 85, .string "RibbonRoads$Tokens" 87, .string "RibbonRoads$Tokens" 89, .string "RibbonRoads$Tokens" 91, .string "RibbonRoads$Tokens" 93, .string "RibbonRoads$Tokens" 95, .string "RibbonRoads$Tokens" 97, .string "RibbonRoads$Tokens" 99, .string "RibbonRoads$Tokens" 51, .string "RibbonRoadsModel" 77] : List Term).getD i (.int 0)
def lFl : List Cond := flatC (Jvm.Cond.and given_1 narrow_1)
theorem lTm_len : ∀ i : Nat, i < 16 → qsn.getD i 0 < 2 ^ 31 := by decide +kernel
theorem lTm_ex : ∀ i : Nat, i < 16 → Cond.exactly (lTm i) "java/lang/String" ∈ lFl := by decide +kernel
theorem lTm_co : ∀ i : Nat, i < 16 → Cond.eq (.field (lTm i) "java/lang/String" "coder" "B") (.int 0) ∈ lFl := by decide +kernel
theorem lTm_ar : ∀ i : Nat, i < 16 → Cond.arrayOf (.field (lTm i) "java/lang/String" "value" "[B") .byte ∈ lFl := by decide +kernel
theorem lTm_le : ∀ i : Nat, i < 16 → Cond.eq (.length (.field (lTm i) "java/lang/String" "value" "[B")) (.int (Int32.ofNat (qsn.getD i 0))) ∈ lFl := by decide +kernel
theorem lTm_el0 : ∀ j : Nat, j < 4 → Cond.eq (.elem (.field (lTm 0) "java/lang/String" "value" "[B") (.int (Int32.ofNat j))) (.int ((qsb.getD 0 []).getD j 0)) ∈ lFl := by decide +kernel
theorem lTm_el1 : ∀ j : Nat, j < 4 → Cond.eq (.elem (.field (lTm 1) "java/lang/String" "value" "[B") (.int (Int32.ofNat j))) (.int ((qsb.getD 1 []).getD j 0)) ∈ lFl := by decide +kernel
theorem lTm_el2 : ∀ j : Nat, j < 4 → Cond.eq (.elem (.field (lTm 2) "java/lang/String" "value" "[B") (.int (Int32.ofNat j))) (.int ((qsb.getD 2 []).getD j 0)) ∈ lFl := by decide +kernel
theorem lTm_el3 : ∀ j : Nat, j < 5 → Cond.eq (.elem (.field (lTm 3) "java/lang/String" "value" "[B") (.int (Int32.ofNat j))) (.int ((qsb.getD 3 []).getD j 0)) ∈ lFl := by decide +kernel
theorem lTm_el4 : ∀ j : Nat, j < 5 → Cond.eq (.elem (.field (lTm 4) "java/lang/String" "value" "[B") (.int (Int32.ofNat j))) (.int ((qsb.getD 4 []).getD j 0)) ∈ lFl := by decide +kernel
theorem lTm_el5 : ∀ j : Nat, j < 3 → Cond.eq (.elem (.field (lTm 5) "java/lang/String" "value" "[B") (.int (Int32.ofNat j))) (.int ((qsb.getD 5 []).getD j 0)) ∈ lFl := by decide +kernel
theorem lTm_el6 : ∀ j : Nat, j < 3 → Cond.eq (.elem (.field (lTm 6) "java/lang/String" "value" "[B") (.int (Int32.ofNat j))) (.int ((qsb.getD 6 []).getD j 0)) ∈ lFl := by decide +kernel
theorem lTm_el7 : ∀ j : Nat, j < 4 → Cond.eq (.elem (.field (lTm 7) "java/lang/String" "value" "[B") (.int (Int32.ofNat j))) (.int ((qsb.getD 7 []).getD j 0)) ∈ lFl := by decide +kernel
theorem lTm_el8 : ∀ j : Nat, j < 1 → Cond.eq (.elem (.field (lTm 8) "java/lang/String" "value" "[B") (.int (Int32.ofNat j))) (.int ((qsb.getD 8 []).getD j 0)) ∈ lFl := by decide +kernel
theorem lTm_el9 : ∀ j : Nat, j < 1 → Cond.eq (.elem (.field (lTm 9) "java/lang/String" "value" "[B") (.int (Int32.ofNat j))) (.int ((qsb.getD 9 []).getD j 0)) ∈ lFl := by decide +kernel
theorem lTm_el10 : ∀ j : Nat, j < 4 → Cond.eq (.elem (.field (lTm 10) "java/lang/String" "value" "[B") (.int (Int32.ofNat j))) (.int ((qsb.getD 10 []).getD j 0)) ∈ lFl := by decide +kernel
theorem lTm_el11 : ∀ j : Nat, j < 2 → Cond.eq (.elem (.field (lTm 11) "java/lang/String" "value" "[B") (.int (Int32.ofNat j))) (.int ((qsb.getD 11 []).getD j 0)) ∈ lFl := by decide +kernel
theorem lTm_el12 : ∀ j : Nat, j < 3 → Cond.eq (.elem (.field (lTm 12) "java/lang/String" "value" "[B") (.int (Int32.ofNat j))) (.int ((qsb.getD 12 []).getD j 0)) ∈ lFl := by decide +kernel
theorem lTm_el13 : ∀ j : Nat, j < 3 → Cond.eq (.elem (.field (lTm 13) "java/lang/String" "value" "[B") (.int (Int32.ofNat j))) (.int ((qsb.getD 13 []).getD j 0)) ∈ lFl := by decide +kernel
theorem lTm_el14 : ∀ j : Nat, j < 12 → Cond.eq (.elem (.field (lTm 14) "java/lang/String" "value" "[B") (.int (Int32.ofNat j))) (.int ((qsb.getD 14 []).getD j 0)) ∈ lFl := by decide +kernel
theorem lTm_el15a : ∀ j : Nat, j < 16 → Cond.eq (.elem (.field (lTm 15) "java/lang/String" "value" "[B") (.int (Int32.ofNat (0 + j)))) (.int ((qsb.getD 15 []).getD (0 + j) 0)) ∈ lFl := by decide +kernel
theorem lTm_el15b : ∀ j : Nat, j < 16 → Cond.eq (.elem (.field (lTm 15) "java/lang/String" "value" "[B") (.int (Int32.ofNat (16 + j)))) (.int ((qsb.getD 15 []).getD (16 + j) 0)) ∈ lFl := by decide +kernel
theorem lTm_el15c : ∀ j : Nat, j < 16 → Cond.eq (.elem (.field (lTm 15) "java/lang/String" "value" "[B") (.int (Int32.ofNat (32 + j)))) (.int ((qsb.getD 15 []).getD (32 + j) 0)) ∈ lFl := by decide +kernel
theorem lTm_el15d : ∀ j : Nat, j < 13 → Cond.eq (.elem (.field (lTm 15) "java/lang/String" "value" "[B") (.int (Int32.ofNat (48 + j)))) (.int ((qsb.getD 15 []).getD (48 + j) 0)) ∈ lFl := by decide +kernel
theorem lTm_el15 (j : Nat) (hj : j < 61) : Cond.eq (.elem (.field (lTm 15) "java/lang/String" "value" "[B") (.int (Int32.ofNat j))) (.int ((qsb.getD 15 []).getD j 0)) ∈ lFl := by
  rcases Nat.lt_or_ge j 16 with q | q
  · have := lTm_el15a j q
    rw [Nat.zero_add] at this; exact this
  rcases Nat.lt_or_ge j 32 with q2 | q2
  · have := lTm_el15b (j - 16) (by omega)
    rw [show 16 + (j - 16) = j by omega] at this; exact this
  rcases Nat.lt_or_ge j 48 with q3 | q3
  · have := lTm_el15c (j - 32) (by omega)
    rw [show 32 + (j - 32) = j by omega] at this; exact this
  · have := lTm_el15d (j - 48) (by omega)
    rw [show 48 + (j - 48) = j by omega] at this; exact this
theorem lTm_el (i : Nat) (hi : i < 16) : ∀ j : Nat, j < qsn.getD i 0 → Cond.eq (.elem (.field (lTm i) "java/lang/String" "value" "[B") (.int (Int32.ofNat j))) (.int ((qsb.getD i []).getD j 0)) ∈ lFl := by
  have : i = 0 ∨ i = 1 ∨ i = 2 ∨ i = 3 ∨ i = 4 ∨ i = 5 ∨ i = 6 ∨ i = 7 ∨ i = 8 ∨ i = 9 ∨ i = 10 ∨ i = 11 ∨ i = 12 ∨ i = 13 ∨ i = 14 ∨ i = 15 := by omega
  rcases this with rfl | rfl | rfl | rfl | rfl | rfl | rfl | rfl | rfl | rfl | rfl | rfl | rfl | rfl | rfl | rfl
  · exact lTm_el0
  · exact lTm_el1
  · exact lTm_el2
  · exact lTm_el3
  · exact lTm_el4
  · exact lTm_el5
  · exact lTm_el6
  · exact lTm_el7
  · exact lTm_el8
  · exact lTm_el9
  · exact lTm_el10
  · exact lTm_el11
  · exact lTm_el12
  · exact lTm_el13
  · exact lTm_el14
  · exact lTm_el15
theorem lTm_ne0 : ∀ j : Nat, j < 16 → 0 ≠ j → Cond.not (Cond.eq (lTm 0) (lTm j)) ∈ lFl ∨ Cond.not (Cond.eq (lTm j) (lTm 0)) ∈ lFl := by decide +kernel
theorem lTm_ne1 : ∀ j : Nat, j < 16 → 1 ≠ j → Cond.not (Cond.eq (lTm 1) (lTm j)) ∈ lFl ∨ Cond.not (Cond.eq (lTm j) (lTm 1)) ∈ lFl := by decide +kernel
theorem lTm_ne2 : ∀ j : Nat, j < 16 → 2 ≠ j → Cond.not (Cond.eq (lTm 2) (lTm j)) ∈ lFl ∨ Cond.not (Cond.eq (lTm j) (lTm 2)) ∈ lFl := by decide +kernel
theorem lTm_ne3 : ∀ j : Nat, j < 16 → 3 ≠ j → Cond.not (Cond.eq (lTm 3) (lTm j)) ∈ lFl ∨ Cond.not (Cond.eq (lTm j) (lTm 3)) ∈ lFl := by decide +kernel
theorem lTm_ne4 : ∀ j : Nat, j < 16 → 4 ≠ j → Cond.not (Cond.eq (lTm 4) (lTm j)) ∈ lFl ∨ Cond.not (Cond.eq (lTm j) (lTm 4)) ∈ lFl := by decide +kernel
theorem lTm_ne5 : ∀ j : Nat, j < 16 → 5 ≠ j → Cond.not (Cond.eq (lTm 5) (lTm j)) ∈ lFl ∨ Cond.not (Cond.eq (lTm j) (lTm 5)) ∈ lFl := by decide +kernel
theorem lTm_ne6 : ∀ j : Nat, j < 16 → 6 ≠ j → Cond.not (Cond.eq (lTm 6) (lTm j)) ∈ lFl ∨ Cond.not (Cond.eq (lTm j) (lTm 6)) ∈ lFl := by decide +kernel
theorem lTm_ne7 : ∀ j : Nat, j < 16 → 7 ≠ j → Cond.not (Cond.eq (lTm 7) (lTm j)) ∈ lFl ∨ Cond.not (Cond.eq (lTm j) (lTm 7)) ∈ lFl := by decide +kernel
theorem lTm_ne8 : ∀ j : Nat, j < 16 → 8 ≠ j → Cond.not (Cond.eq (lTm 8) (lTm j)) ∈ lFl ∨ Cond.not (Cond.eq (lTm j) (lTm 8)) ∈ lFl := by decide +kernel
theorem lTm_ne9 : ∀ j : Nat, j < 16 → 9 ≠ j → Cond.not (Cond.eq (lTm 9) (lTm j)) ∈ lFl ∨ Cond.not (Cond.eq (lTm j) (lTm 9)) ∈ lFl := by decide +kernel
theorem lTm_ne10 : ∀ j : Nat, j < 16 → 10 ≠ j → Cond.not (Cond.eq (lTm 10) (lTm j)) ∈ lFl ∨ Cond.not (Cond.eq (lTm j) (lTm 10)) ∈ lFl := by decide +kernel
theorem lTm_ne11 : ∀ j : Nat, j < 16 → 11 ≠ j → Cond.not (Cond.eq (lTm 11) (lTm j)) ∈ lFl ∨ Cond.not (Cond.eq (lTm j) (lTm 11)) ∈ lFl := by decide +kernel
theorem lTm_ne12 : ∀ j : Nat, j < 16 → 12 ≠ j → Cond.not (Cond.eq (lTm 12) (lTm j)) ∈ lFl ∨ Cond.not (Cond.eq (lTm j) (lTm 12)) ∈ lFl := by decide +kernel
theorem lTm_ne13 : ∀ j : Nat, j < 16 → 13 ≠ j → Cond.not (Cond.eq (lTm 13) (lTm j)) ∈ lFl ∨ Cond.not (Cond.eq (lTm j) (lTm 13)) ∈ lFl := by decide +kernel
theorem lTm_ne14 : ∀ j : Nat, j < 16 → 14 ≠ j → Cond.not (Cond.eq (lTm 14) (lTm j)) ∈ lFl ∨ Cond.not (Cond.eq (lTm j) (lTm 14)) ∈ lFl := by decide +kernel
theorem lTm_ne15 : ∀ j : Nat, j < 16 → 15 ≠ j → Cond.not (Cond.eq (lTm 15) (lTm j)) ∈ lFl ∨ Cond.not (Cond.eq (lTm j) (lTm 15)) ∈ lFl := by decide +kernel
theorem lTm_ne (i : Nat) (hi : i < 16) : ∀ j : Nat, j < 16 → i ≠ j → Cond.not (Cond.eq (lTm i) (lTm j)) ∈ lFl ∨ Cond.not (Cond.eq (lTm j) (lTm i)) ∈ lFl := by
  have : i = 0 ∨ i = 1 ∨ i = 2 ∨ i = 3 ∨ i = 4 ∨ i = 5 ∨ i = 6 ∨ i = 7 ∨ i = 8 ∨ i = 9 ∨ i = 10 ∨ i = 11 ∨ i = 12 ∨ i = 13 ∨ i = 14 ∨ i = 15 := by omega
  rcases this with rfl | rfl | rfl | rfl | rfl | rfl | rfl | rfl | rfl | rfl | rfl | rfl | rfl | rfl | rfl | rfl
  · exact lTm_ne0
  · exact lTm_ne1
  · exact lTm_ne2
  · exact lTm_ne3
  · exact lTm_ne4
  · exact lTm_ne5
  · exact lTm_ne6
  · exact lTm_ne7
  · exact lTm_ne8
  · exact lTm_ne9
  · exact lTm_ne10
  · exact lTm_ne11
  · exact lTm_ne12
  · exact lTm_ne13
  · exact lTm_ne14
  · exact lTm_ne15
theorem lTm_sr : ∀ e ∈ qsl, Cond.stringRef (qown e.1) e.2.1 e.2.2.1 ∈ lw_tbl := by decide +kernel
theorem lTm_tm : ∀ e ∈ qsl, e.2.2.2 < 16 ∧ (lTm e.2.2.2 = Term.string (qown e.1) e.2.1 ∨ Cond.eq (lTm e.2.2.2) (Term.string (qown e.1) e.2.1) ∈ lFl) := by decide +kernel
theorem lNw0 : Cond.instantiable RX0 3 ∈ lw_tbl := by decide +kernel
theorem lNw1 : Cond.instantiable RX1 12 ∈ lw_tbl := by decide +kernel
theorem lNw2 : Cond.instantiable RX2 3 ∈ lw_tbl := by decide +kernel
theorem lNw3 : Cond.instantiable RX3 3 ∈ lw_tbl := by decide +kernel
theorem lNw4 : Cond.instantiable RX4 4 ∈ lw_tbl := by decide +kernel
theorem lNw5 : Cond.instantiable RX5 6 ∈ lw_tbl := by decide +kernel
theorem lNw6 : Cond.instantiable RX6 12 ∈ lw_tbl := by decide +kernel
theorem lNw7 : Cond.instantiable RX7 8 ∈ lw_tbl := by decide +kernel
theorem lNw8 : Cond.instantiable RX8 3 ∈ lw_tbl := by decide +kernel
theorem lNw9 : Cond.instantiable RX9 17 ∈ lw_tbl := by decide +kernel
theorem lNw10 : Cond.instantiable RX10 11 ∈ lw_tbl := by decide +kernel
theorem lNw11 : Cond.instantiable RX11 31 ∈ lw_tbl := by decide +kernel
theorem lAoRX6 : Cond.arrayOver (.object RX6) ∈ lw_tbl := by decide +kernel
theorem lAoRX8 : Cond.arrayOver (.object RX8) ∈ lw_tbl := by decide +kernel
theorem lAoRX0 : Cond.arrayOver (.object RX0) ∈ lw_tbl := by decide +kernel
theorem lSt1 : Cond.laysStatic "java/lang/String" "COMPACT_STRINGS" "Z" ∈ lw_tbl := by decide +kernel
theorem lSt2 : Cond.initialized "java/lang/String" ∈ lw_tbl := by decide +kernel
theorem lSt3 : Cond.eq (.static "java/lang/String" "COMPACT_STRINGS" "Z") (.int 1) ∈ lFl := by decide +kernel
theorem lSt4 : Cond.laysStatic "jdk/internal/util/Preconditions" "SIOOBE_FORMATTER" "Ljava/util/function/BiFunction;" ∈ lw_tbl := by decide +kernel
theorem lSt5 : Cond.initialized "jdk/internal/util/Preconditions" ∈ lw_tbl := by decide +kernel
theorem lSt6 : Cond.isRef (.static "jdk/internal/util/Preconditions" "SIOOBE_FORMATTER" "Ljava/util/function/BiFunction;") ∈ lFl := by decide +kernel
