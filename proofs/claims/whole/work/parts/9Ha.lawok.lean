def lF (e : QIns) : Bool := decide (decode (qmc qmL_law) e.1 = .ok e.2) && qlen qmL_law e.1 e.2.1 e.2.2
theorem lF0 : (((qmi qmL_law).drop 0).take 30).all lF = true := by decide +kernel
theorem lF1 : (((qmi qmL_law).drop 30).take 30).all lF = true := by decide +kernel
theorem lF2 : (((qmi qmL_law).drop 60).take 30).all lF = true := by decide +kernel
theorem lF3 : (((qmi qmL_law).drop 90).take 30).all lF = true := by decide +kernel
theorem lF4 : (((qmi qmL_law).drop 120).take 30).all lF = true := by decide +kernel
theorem lF5 : (((qmi qmL_law).drop 150).take 30).all lF = true := by decide +kernel
theorem lF6 : (((qmi qmL_law).drop 180).take 30).all lF = true := by decide +kernel
theorem lF7 : (((qmi qmL_law).drop 210).take 30).all lF = true := by decide +kernel
theorem lF8 : (((qmi qmL_law).drop 240).take 30).all lF = true := by decide +kernel
theorem lF9 : (((qmi qmL_law).drop 270).take 30).all lF = true := by decide +kernel
theorem lF10 : (((qmi qmL_law).drop 300).take 30).all lF = true := by decide +kernel
theorem lF11 : (((qmi qmL_law).drop 330).take 30).all lF = true := by decide +kernel
theorem lF12 : (((qmi qmL_law).drop 360).take 30).all lF = true := by decide +kernel
theorem lF13 : (((qmi qmL_law).drop 390).take 30).all lF = true := by decide +kernel
theorem lF14 : (((qmi qmL_law).drop 420).take 30).all lF = true := by decide +kernel
theorem lF15 : (((qmi qmL_law).drop 450).take 30).all lF = true := by decide +kernel
theorem lF16 : (((qmi qmL_law).drop 480).take 30).all lF = true := by decide +kernel
theorem lF17 : (((qmi qmL_law).drop 510).take 30).all lF = true := by decide +kernel
theorem lF18 : (((qmi qmL_law).drop 540).take 30).all lF = true := by decide +kernel
theorem lF19 : (((qmi qmL_law).drop 570).take 30).all lF = true := by decide +kernel
theorem lF20 : (((qmi qmL_law).drop 600).take 30).all lF = true := by decide +kernel
theorem lF21 : (((qmi qmL_law).drop 630).take 30).all lF = true := by decide +kernel
theorem lF22 : (((qmi qmL_law).drop 660).take 30).all lF = true := by decide +kernel
theorem lF23 : (((qmi qmL_law).drop 690).take 30).all lF = true := by decide +kernel
theorem lF24 : (((qmi qmL_law).drop 720).take 30).all lF = true := by decide +kernel
theorem lF25 : (((qmi qmL_law).drop 750).take 30).all lF = true := by decide +kernel
theorem lF26 : (((qmi qmL_law).drop 780).take 30).all lF = true := by decide +kernel
theorem lF27 : (((qmi qmL_law).drop 810).take 30).all lF = true := by decide +kernel
theorem lF28 : (((qmi qmL_law).drop 840).take 30).all lF = true := by decide +kernel
theorem lF29 : (((qmi qmL_law).drop 870).take 30).all lF = true := by decide +kernel
theorem lF30 : (((qmi qmL_law).drop 900).take 30).all lF = true := by decide +kernel
theorem lF31 : (((qmi qmL_law).drop 930).take 30).all lF = true := by decide +kernel
theorem lF32 : (((qmi qmL_law).drop 960).take 30).all lF = true := by decide +kernel
theorem lF33 : (((qmi qmL_law).drop 990).take 30).all lF = true := by decide +kernel
theorem lF34 : (((qmi qmL_law).drop 1020).take 30).all lF = true := by decide +kernel
theorem lF35 : (((qmi qmL_law).drop 1050).take 30).all lF = true := by decide +kernel
theorem lF36 : (((qmi qmL_law).drop 1080).take 30).all lF = true := by decide +kernel
theorem lF37 : (((qmi qmL_law).drop 1110).take 30).all lF = true := by decide +kernel
theorem lFlen : (qmi qmL_law).length ≤ 1140 := by decide +kernel
theorem all_of {α : Type} {f : α → Bool} {l : List α} (h : ∀ k : Nat, k < 38 → ((l.drop (30 * k)).take 30).all f = true) (hl : l.length ≤ 1140) : ∀ e ∈ l, f e = true := fun e he => by
  obtain ⟨n, hn⟩ := List.mem_iff_getElem?.mp he
  have n0 : n < l.length := by
    rcases Nat.lt_or_ge n l.length with q | q
    · exact q
    · rw [List.getElem?_eq_none q] at hn; cases hn
  have hk := h (n / 30) (by omega)
  refine List.all_eq_true.mp hk e (List.mem_of_getElem? (i := n % 30) ?_)
  rw [List.getElem?_take, if_pos (by omega), List.getElem?_drop, show 30 * (n / 30) + n % 30 = n by omega]; exact hn
theorem qmL_ok : qmok qmL_law := fun e he => by
  have key : ∀ k : Nat, k < 38 → (((qmi qmL_law).drop (30 * k)).take 30).all lF = true := fun k hk => by
    have : k = 0 ∨ k = 1 ∨ k = 2 ∨ k = 3 ∨ k = 4 ∨ k = 5 ∨ k = 6 ∨ k = 7 ∨ k = 8 ∨ k = 9 ∨ k = 10 ∨ k = 11 ∨ k = 12 ∨ k = 13 ∨ k = 14 ∨ k = 15 ∨ k = 16 ∨ k = 17 ∨ k = 18 ∨ k = 19 ∨ k = 20 ∨ k = 21 ∨ k = 22 ∨ k = 23 ∨ k = 24 ∨ k = 25 ∨ k = 26 ∨ k = 27 ∨ k = 28 ∨ k = 29 ∨ k = 30 ∨ k = 31 ∨ k = 32 ∨ k = 33 ∨ k = 34 ∨ k = 35 ∨ k = 36 ∨ k = 37 := by omega
    rcases this with rfl | rfl | rfl | rfl | rfl | rfl | rfl | rfl | rfl | rfl | rfl | rfl | rfl | rfl | rfl | rfl | rfl | rfl | rfl | rfl | rfl | rfl | rfl | rfl | rfl | rfl | rfl | rfl | rfl | rfl | rfl | rfl | rfl | rfl | rfl | rfl | rfl | rfl
    · exact lF0
    · exact lF1
    · exact lF2
    · exact lF3
    · exact lF4
    · exact lF5
    · exact lF6
    · exact lF7
    · exact lF8
    · exact lF9
    · exact lF10
    · exact lF11
    · exact lF12
    · exact lF13
    · exact lF14
    · exact lF15
    · exact lF16
    · exact lF17
    · exact lF18
    · exact lF19
    · exact lF20
    · exact lF21
    · exact lF22
    · exact lF23
    · exact lF24
    · exact lF25
    · exact lF26
    · exact lF27
    · exact lF28
    · exact lF29
    · exact lF30
    · exact lF31
    · exact lF32
    · exact lF33
    · exact lF34
    · exact lF35
    · exact lF36
    · exact lF37
  have := all_of key lFlen e he
  unfold lF at this
  rw [Bool.and_eq_true] at this
  exact ⟨of_decide_eq_true this.1, this.2⟩
