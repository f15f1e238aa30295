theorem QR.st2 {X : QX} {d : Nat} {mx : Nat × Nat} {m : QMeth} {post : Int → QH → Prop} {cs : Nat × Nat} {pc : Nat} {lv : List (Nat × QV)} {st : List QV} {h : QH} {a b : Int} (e : a = b) (g : QR X d mx m post cs pc lv ((2, b) :: (2, b) :: st) h) : QR X d mx m post cs pc lv ((2, a) :: (2, a) :: st) h := e ▸ g
/-- the rows of the reference -/
def kTM : List QRow := [((11, 31), [-1, 216, 217, 218, 219, -1, -1, -1, -1, -1, -1, -1, -1, -1, -1, -1, 220, 221, 222, -1, -1, 223, 224, 225, -1, 226, -1, 227, 228, 229, 230]),
  ((100, 13125), []),
  ((103, 2), []),
  ((100, 900), []),
  ((100, 4375), []),
  ((100, 900), []),
  ((100, 5), []),
  ((100, 311), []),
  ((100, 612), []),
  ((103, 36), []),
  ((100, 36), []),
  ((100, 16), []),
  ((101, 36), []),
  ((100, 4), []),
  ((100, 4), []),
  ((101, 160), [])]
section PlA
variable {X : QX} {x : Int} {d : Nat} {post : Int → QMem → Prop} {M : QMem}
theorem m_plainA (hp : ∀ M1, (∀ a, a ≠ 216 → M1 a = M a) → (∀ j, 0 ≤ j → j < 4375 → M1 216 j = a0L j) → post 0 M1) : QCm X x d 0 yX11_plain [(2, 216)] M post := by
  have two : ∀ k : Int, ∀ M1 : QMem, 0 ≤ k ∧ k ≤ 36 ∧ (∀ a, a ≠ 216 → M1 a = M a) ∧ (∀ j, 0 ≤ j → j < 4375 → M1 216 j = if j = 1 ∨ j = 2 then 2 else if (258 ≤ j ∧ j < 258 + k) ∨ (294 ≤ j ∧ j < 294 + k) then -1 else 0) → QRm X x d qmX11_plain post 29 [(0, (2, 216)), (1, (0, k))] [] M1 := by
    refine int_up 36 (fun k hk M1 h => ?_) (fun k hk ih M1 h => ?_)
    · refine TX11_plain_29 ⟨(i32 (by omega) (by omega)), fun _ => hp M1 h.2.2.1 (fun j j0 j1 => ?_), fun z => absurd hk (by omega)⟩
      rw [h.2.2.2 j j0 j1, show k = 36 by omega]
      unfold a0L
      by_cases y : j = 1 ∨ j = 2
      · rw [if_pos y, if_pos y]
      · rw [if_neg y, if_neg y]
        by_cases w : 258 ≤ j ∧ j < 330
        · rw [if_pos w, if_pos (by omega)]
        · rw [if_neg w, if_neg (by omega)]
    · refine TX11_plain_29 ⟨(i32 (by omega) (by omega)), fun z => absurd hk (by omega), fun _ => ⟨rfl, (by omega), (show 258 + k < 13125 by omega), (by omega), (show 294 + k < 13125 by omega), ih _ ⟨(by omega), (by omega), fun a ha => by rw [qup_row ha, qup_row ha]; exact h.2.2.1 a ha, fun j j0 j1 => ?_⟩⟩⟩
      rw [qup_at, qup_at]
      by_cases y1 : j = 294 + k
      · rw [if_pos y1, if_neg (by omega), if_pos (by omega)]
      · rw [if_neg y1]
        by_cases y2 : j = 258 + k
        · rw [if_pos y2, if_neg (by omega), if_pos (by omega)]
        · rw [if_neg y2, h.2.2.2 j j0 j1]
          by_cases y : j = 1 ∨ j = 2
          · rw [if_pos y, if_pos y]
          · rw [if_neg y, if_neg y]
            by_cases w : (258 ≤ j ∧ j < 258 + k) ∨ (294 ≤ j ∧ j < 294 + k)
            · rw [if_pos w, if_pos (by omega)]
            · rw [if_neg w, if_neg (by omega)]
  have one : ∀ k : Int, ∀ M1 : QMem, 0 ≤ k ∧ k ≤ 4375 ∧ (∀ a, a ≠ 216 → M1 a = M a) ∧ (∀ j, 0 ≤ j → j < k → M1 216 j = 0) → QRm X x d qmX11_plain post 2 [(0, (2, 216)), (1, (0, k))] [] M1 := by
    refine int_up 4375 (fun k hk M1 h => ?_) (fun k hk ih M1 h => ?_)
    · refine TX11_plain_2 ⟨(i32 (by omega) (by omega)), fun _ => ⟨rfl, (show (1 : Int) < 13125 by decide), (show (2 : Int) < 13125 by decide), two 0 _ ⟨(by omega), (by omega), fun a ha => by rw [qup_row ha, qup_row ha]; exact h.2.2.1 a ha, fun j j0 j1 => ?_⟩⟩, fun z => absurd hk (by omega)⟩
      rw [qup_at, qup_at]
      by_cases y2 : j = 2
      · rw [if_pos y2, if_pos (Or.inr y2)]
      · rw [if_neg y2]
        by_cases y1 : j = 1
        · rw [if_pos y1, if_pos (Or.inl y1)]
        · rw [if_neg y1, if_neg (by omega), if_neg (by omega)]; exact h.2.2.2 j j0 (by omega)
    · refine TX11_plain_2 ⟨(i32 (by omega) (by omega)), fun z => absurd hk (by omega), fun _ => ⟨rfl, (by omega), (show k < 13125 by omega), ih _ ⟨(by omega), (by omega), fun a ha => by rw [qup_row ha]; exact h.2.2.1 a ha, fun j j0 j1 => ?_⟩⟩⟩
      rw [qup_at]
      by_cases y : j = k
      · rw [if_pos y]
      · rw [if_neg y]; exact h.2.2.2 j j0 (by omega)
  exact QC.of qmX11_plain_ok rfl (TX11_plain_0 (one 0 M ⟨(by omega), (by omega), fun _ _ => rfl, fun j j0 j1 => absurd j1 (by omega)⟩))
end PlA
section MM
variable {X : QX} {d : Nat} {post : Int → QH → Prop} {M : QMem} {E : List (Int × Int × Int)}
theorem k_MM0 {p s : List QRow} (hc : (p.length : Int) = 215) (hs : (s.length : Int) = 0) (hE : ∀ e ∈ E, e.1 < 216) (k : QR X (d + 2) (15, 20522) qmX11_init post (1, 13125) 13 [(0, (2, 215))] [] (kH (p ++ (((11, 31), [-1, 216, -1, -1, -1, -1, -1, -1, -1, -1, -1, -1, -1, -1, -1, -1, -1, -1, -1, -1, -1, -1, -1, -1, -1, -1, -1, -1, -1, -1, -1]) :: (s ++ [((100, 13125), [])]))) 215 M E)) : QR X (d + 2) (15, 20522) qmX11_init post (0, 0) 0 [(0, (2, 215))] [] (kH (p ++ (((11, 31), [-1, -1, -1, -1, -1, -1, -1, -1, -1, -1, -1, -1, -1, -1, -1, -1, -1, -1, -1, -1, -1, -1, -1, -1, -1, -1, -1, -1, -1, -1, -1]) :: s)) 215 M E) := by
  refine qwp_ok qmX11_init_ok.1 [(13, [0])] 12 ⟨(by decide), (by decide), (by decide), kCnt, kAdd_sh hc, ?_⟩
  refine QR.heq (kAdd 1 [] 216 kNil hc (show 216 = 215 + 1 + (s.length : Int) by omega) (by show 1 < 31; decide) hE (by omega)) ?_
  exact k
theorem k_MM1 {p s : List QRow} (hc : (p.length : Int) = 215) (hs : (s.length : Int) = 1) (hE : ∀ e ∈ E, e.1 < 217) (k : QR X (d + 2) (15, 20522) qmX11_init post (2, 13127) 20 [(0, (2, 215))] [] (kH (p ++ (((11, 31), [-1, 216, 217, -1, -1, -1, -1, -1, -1, -1, -1, -1, -1, -1, -1, -1, -1, -1, -1, -1, -1, -1, -1, -1, -1, -1, -1, -1, -1, -1, -1]) :: (s ++ [((103, 2), [])]))) 215 M E)) : QR X (d + 2) (15, 20522) qmX11_init post (1, 13125) 13 [(0, (2, 215))] [] (kH (p ++ (((11, 31), [-1, 216, -1, -1, -1, -1, -1, -1, -1, -1, -1, -1, -1, -1, -1, -1, -1, -1, -1, -1, -1, -1, -1, -1, -1, -1, -1, -1, -1, -1, -1]) :: s)) 215 M E) := by
  refine qwp_ok qmX11_init_ok.1 [(20, [0])] 12 ⟨(by decide), (by decide), kCnt, kAdd_sh hc, ?_⟩
  refine QR.heq (kAdd 2 [] 217 kNil hc (show 217 = 215 + 1 + (s.length : Int) by omega) (by show 2 < 31; decide) hE (by omega)) ?_
  exact k
theorem k_MM2 {p s : List QRow} (hc : (p.length : Int) = 215) (hs : (s.length : Int) = 2) (hE : ∀ e ∈ E, e.1 < 218) (k : QR X (d + 2) (15, 20522) qmX11_init post (3, 14027) 29 [(0, (2, 215))] [] (kH (p ++ (((11, 31), [-1, 216, 217, 218, -1, -1, -1, -1, -1, -1, -1, -1, -1, -1, -1, -1, -1, -1, -1, -1, -1, -1, -1, -1, -1, -1, -1, -1, -1, -1, -1]) :: (s ++ [((100, 900), [])]))) 215 M E)) : QR X (d + 2) (15, 20522) qmX11_init post (2, 13127) 20 [(0, (2, 215))] [] (kH (p ++ (((11, 31), [-1, 216, 217, -1, -1, -1, -1, -1, -1, -1, -1, -1, -1, -1, -1, -1, -1, -1, -1, -1, -1, -1, -1, -1, -1, -1, -1, -1, -1, -1, -1]) :: s)) 215 M E) := by
  refine qwp_ok qmX11_init_ok.1 [(29, [0])] 12 ⟨(by decide), (by decide), kCnt, kAdd_sh hc, ?_⟩
  refine QR.heq (kAdd 3 [] 218 kNil hc (show 218 = 215 + 1 + (s.length : Int) by omega) (by show 3 < 31; decide) hE (by omega)) ?_
  exact k
theorem k_MM3 {p s : List QRow} (hc : (p.length : Int) = 215) (hs : (s.length : Int) = 3) (hE : ∀ e ∈ E, e.1 < 219) (k : QR X (d + 2) (15, 20522) qmX11_init post (4, 18402) 38 [(0, (2, 215))] [] (kH (p ++ (((11, 31), [-1, 216, 217, 218, 219, -1, -1, -1, -1, -1, -1, -1, -1, -1, -1, -1, -1, -1, -1, -1, -1, -1, -1, -1, -1, -1, -1, -1, -1, -1, -1]) :: (s ++ [((100, 4375), [])]))) 215 M E)) : QR X (d + 2) (15, 20522) qmX11_init post (3, 14027) 29 [(0, (2, 215))] [] (kH (p ++ (((11, 31), [-1, 216, 217, 218, -1, -1, -1, -1, -1, -1, -1, -1, -1, -1, -1, -1, -1, -1, -1, -1, -1, -1, -1, -1, -1, -1, -1, -1, -1, -1, -1]) :: s)) 215 M E) := by
  refine qwp_ok qmX11_init_ok.1 [(38, [0])] 12 ⟨(by decide), (by decide), kCnt, kAdd_sh hc, ?_⟩
  refine QR.heq (kAdd 4 [] 219 kNil hc (show 219 = 215 + 1 + (s.length : Int) by omega) (by show 4 < 31; decide) hE (by omega)) ?_
  exact k
theorem k_MM4 {p s : List QRow} (hc : (p.length : Int) = 215) (k : QR X (d + 2) (15, 20522) qmX11_init post (4, 18402) 43 [(0, (2, 215))] [] (kH (p ++ (((11, 31), [-1, 216, 217, 218, 219, -1, -1, -1, -1, -1, -1, -1, -1, -1, -1, -1, -1, -1, -1, -1, -1, -1, -1, -1, -1, -1, -1, -1, -1, -1, -1]) :: s)) 215 M ((215, 14, -1) :: E))) : QR X (d + 2) (15, 20522) qmX11_init post (4, 18402) 38 [(0, (2, 215))] [] (kH (p ++ (((11, 31), [-1, 216, 217, 218, 219, -1, -1, -1, -1, -1, -1, -1, -1, -1, -1, -1, -1, -1, -1, -1, -1, -1, -1, -1, -1, -1, -1, -1, -1, -1, -1]) :: s)) 215 M E) := by
  refine qwp_ok qmX11_init_ok.1 [(43, [0])] 12 ⟨congrArg Prod.fst (kSh_at hc), ?_⟩
  refine QR.heq (kNum (a := 215) (j := 14) (x := -1) (by omega)) ?_
  exact k
theorem k_MM5 {p s : List QRow} (hc : (p.length : Int) = 215) (hs : (s.length : Int) = 4) (hE : ∀ e ∈ E, e.1 < 220) (k : QR X (d + 2) (15, 20522) qmX11_init post (5, 19302) 52 [(0, (2, 215))] [] (kH (p ++ (((11, 31), [-1, 216, 217, 218, 219, -1, -1, -1, -1, -1, -1, -1, -1, -1, -1, -1, 220, -1, -1, -1, -1, -1, -1, -1, -1, -1, -1, -1, -1, -1, -1]) :: (s ++ [((100, 900), [])]))) 215 M E)) : QR X (d + 2) (15, 20522) qmX11_init post (4, 18402) 43 [(0, (2, 215))] [] (kH (p ++ (((11, 31), [-1, 216, 217, 218, 219, -1, -1, -1, -1, -1, -1, -1, -1, -1, -1, -1, -1, -1, -1, -1, -1, -1, -1, -1, -1, -1, -1, -1, -1, -1, -1]) :: s)) 215 M E) := by
  refine qwp_ok qmX11_init_ok.1 [(52, [0])] 12 ⟨(by decide), (by decide), kCnt, kAdd_sh hc, ?_⟩
  refine QR.heq (kAdd 16 [] 220 kNil hc (show 220 = 215 + 1 + (s.length : Int) by omega) (by show 16 < 31; decide) hE (by omega)) ?_
  exact k
theorem k_MM6 {p s : List QRow} (hc : (p.length : Int) = 215) (hs : (s.length : Int) = 5) (hE : ∀ e ∈ E, e.1 < 221) (k : QR X (d + 2) (15, 20522) qmX11_init post (6, 19307) 59 [(0, (2, 215))] [] (kH (p ++ (((11, 31), [-1, 216, 217, 218, 219, -1, -1, -1, -1, -1, -1, -1, -1, -1, -1, -1, 220, 221, -1, -1, -1, -1, -1, -1, -1, -1, -1, -1, -1, -1, -1]) :: (s ++ [((100, 5), [])]))) 215 M E)) : QR X (d + 2) (15, 20522) qmX11_init post (5, 19302) 52 [(0, (2, 215))] [] (kH (p ++ (((11, 31), [-1, 216, 217, 218, 219, -1, -1, -1, -1, -1, -1, -1, -1, -1, -1, -1, 220, -1, -1, -1, -1, -1, -1, -1, -1, -1, -1, -1, -1, -1, -1]) :: s)) 215 M E) := by
  refine qwp_ok qmX11_init_ok.1 [(59, [0])] 12 ⟨(by decide), (by decide), kCnt, kAdd_sh hc, ?_⟩
  refine QR.heq (kAdd 17 [] 221 kNil hc (show 221 = 215 + 1 + (s.length : Int) by omega) (by show 17 < 31; decide) hE (by omega)) ?_
  exact k
theorem k_MM7 {p s : List QRow} (hc : (p.length : Int) = 215) (hs : (s.length : Int) = 6) (hE : ∀ e ∈ E, e.1 < 222) (k : QR X (d + 2) (15, 20522) qmX11_init post (7, 19618) 68 [(0, (2, 215))] [] (kH (p ++ (((11, 31), [-1, 216, 217, 218, 219, -1, -1, -1, -1, -1, -1, -1, -1, -1, -1, -1, 220, 221, 222, -1, -1, -1, -1, -1, -1, -1, -1, -1, -1, -1, -1]) :: (s ++ [((100, 311), [])]))) 215 M E)) : QR X (d + 2) (15, 20522) qmX11_init post (6, 19307) 59 [(0, (2, 215))] [] (kH (p ++ (((11, 31), [-1, 216, 217, 218, 219, -1, -1, -1, -1, -1, -1, -1, -1, -1, -1, -1, 220, 221, -1, -1, -1, -1, -1, -1, -1, -1, -1, -1, -1, -1, -1]) :: s)) 215 M E) := by
  refine qwp_ok qmX11_init_ok.1 [(68, [0])] 12 ⟨(by decide), (by decide), kCnt, kAdd_sh hc, ?_⟩
  refine QR.heq (kAdd 18 [] 222 kNil hc (show 222 = 215 + 1 + (s.length : Int) by omega) (by show 18 < 31; decide) hE (by omega)) ?_
  exact k
theorem k_MM8 {p s : List QRow} (hc : (p.length : Int) = 215) (hs : (s.length : Int) = 7) (hE : ∀ e ∈ E, e.1 < 223) (k : QR X (d + 2) (15, 20522) qmX11_init post (8, 20230) 77 [(0, (2, 215))] [] (kH (p ++ (((11, 31), [-1, 216, 217, 218, 219, -1, -1, -1, -1, -1, -1, -1, -1, -1, -1, -1, 220, 221, 222, -1, -1, 223, -1, -1, -1, -1, -1, -1, -1, -1, -1]) :: (s ++ [((100, 612), [])]))) 215 M E)) : QR X (d + 2) (15, 20522) qmX11_init post (7, 19618) 68 [(0, (2, 215))] [] (kH (p ++ (((11, 31), [-1, 216, 217, 218, 219, -1, -1, -1, -1, -1, -1, -1, -1, -1, -1, -1, 220, 221, 222, -1, -1, -1, -1, -1, -1, -1, -1, -1, -1, -1, -1]) :: s)) 215 M E) := by
  refine qwp_ok qmX11_init_ok.1 [(77, [0])] 12 ⟨(by decide), (by decide), kCnt, kAdd_sh hc, ?_⟩
  refine QR.heq (kAdd 21 [] 223 kNil hc (show 223 = 215 + 1 + (s.length : Int) by omega) (by show 21 < 31; decide) hE (by omega)) ?_
  exact k
theorem k_MM9 {p s : List QRow} (hc : (p.length : Int) = 215) (hs : (s.length : Int) = 8) (hE : ∀ e ∈ E, e.1 < 224) (k : QR X (d + 2) (15, 20522) qmX11_init post (9, 20266) 85 [(0, (2, 215))] [] (kH (p ++ (((11, 31), [-1, 216, 217, 218, 219, -1, -1, -1, -1, -1, -1, -1, -1, -1, -1, -1, 220, 221, 222, -1, -1, 223, 224, -1, -1, -1, -1, -1, -1, -1, -1]) :: (s ++ [((103, 36), [])]))) 215 M E)) : QR X (d + 2) (15, 20522) qmX11_init post (8, 20230) 77 [(0, (2, 215))] [] (kH (p ++ (((11, 31), [-1, 216, 217, 218, 219, -1, -1, -1, -1, -1, -1, -1, -1, -1, -1, -1, 220, 221, 222, -1, -1, 223, -1, -1, -1, -1, -1, -1, -1, -1, -1]) :: s)) 215 M E) := by
  refine qwp_ok qmX11_init_ok.1 [(85, [0])] 12 ⟨(by decide), (by decide), kCnt, kAdd_sh hc, ?_⟩
  refine QR.heq (kAdd 22 [] 224 kNil hc (show 224 = 215 + 1 + (s.length : Int) by omega) (by show 22 < 31; decide) hE (by omega)) ?_
  exact k
theorem k_MM10 {p s : List QRow} (hc : (p.length : Int) = 215) (hs : (s.length : Int) = 9) (hE : ∀ e ∈ E, e.1 < 225) (k : QR X (d + 2) (15, 20522) qmX11_init post (10, 20302) 93 [(0, (2, 215))] [] (kH (p ++ (((11, 31), [-1, 216, 217, 218, 219, -1, -1, -1, -1, -1, -1, -1, -1, -1, -1, -1, 220, 221, 222, -1, -1, 223, 224, 225, -1, -1, -1, -1, -1, -1, -1]) :: (s ++ [((100, 36), [])]))) 215 M E)) : QR X (d + 2) (15, 20522) qmX11_init post (9, 20266) 85 [(0, (2, 215))] [] (kH (p ++ (((11, 31), [-1, 216, 217, 218, 219, -1, -1, -1, -1, -1, -1, -1, -1, -1, -1, -1, 220, 221, 222, -1, -1, 223, 224, -1, -1, -1, -1, -1, -1, -1, -1]) :: s)) 215 M E) := by
  refine qwp_ok qmX11_init_ok.1 [(93, [0])] 12 ⟨(by decide), (by decide), kCnt, kAdd_sh hc, ?_⟩
  refine QR.heq (kAdd 23 [] 225 kNil hc (show 225 = 215 + 1 + (s.length : Int) by omega) (by show 23 < 31; decide) hE (by omega)) ?_
  exact k
theorem k_MM11 {p s : List QRow} (hc : (p.length : Int) = 215) (k : QR X (d + 2) (15, 20522) qmX11_init post (10, 20302) 98 [(0, (2, 215))] [] (kH (p ++ (((11, 31), [-1, 216, 217, 218, 219, -1, -1, -1, -1, -1, -1, -1, -1, -1, -1, -1, 220, 221, 222, -1, -1, 223, 224, 225, -1, -1, -1, -1, -1, -1, -1]) :: s)) 215 M ((215, 24, -1) :: E))) : QR X (d + 2) (15, 20522) qmX11_init post (10, 20302) 93 [(0, (2, 215))] [] (kH (p ++ (((11, 31), [-1, 216, 217, 218, 219, -1, -1, -1, -1, -1, -1, -1, -1, -1, -1, -1, 220, 221, 222, -1, -1, 223, 224, 225, -1, -1, -1, -1, -1, -1, -1]) :: s)) 215 M E) := by
  refine qwp_ok qmX11_init_ok.1 [(98, [0])] 12 ⟨congrArg Prod.fst (kSh_at hc), ?_⟩
  refine QR.heq (kNum (a := 215) (j := 24) (x := -1) (by omega)) ?_
  exact k
theorem k_MM12 {p s : List QRow} (hc : (p.length : Int) = 215) (hs : (s.length : Int) = 10) (hE : ∀ e ∈ E, e.1 < 226) (k : QR X (d + 2) (15, 20522) qmX11_init post (11, 20318) 106 [(0, (2, 215))] [] (kH (p ++ (((11, 31), [-1, 216, 217, 218, 219, -1, -1, -1, -1, -1, -1, -1, -1, -1, -1, -1, 220, 221, 222, -1, -1, 223, 224, 225, -1, 226, -1, -1, -1, -1, -1]) :: (s ++ [((100, 16), [])]))) 215 M E)) : QR X (d + 2) (15, 20522) qmX11_init post (10, 20302) 98 [(0, (2, 215))] [] (kH (p ++ (((11, 31), [-1, 216, 217, 218, 219, -1, -1, -1, -1, -1, -1, -1, -1, -1, -1, -1, 220, 221, 222, -1, -1, 223, 224, 225, -1, -1, -1, -1, -1, -1, -1]) :: s)) 215 M E) := by
  refine qwp_ok qmX11_init_ok.1 [(106, [0])] 12 ⟨(by decide), (by decide), kCnt, kAdd_sh hc, ?_⟩
  refine QR.heq (kAdd 25 [] 226 kNil hc (show 226 = 215 + 1 + (s.length : Int) by omega) (by show 25 < 31; decide) hE (by omega)) ?_
  exact k
theorem k_MM13 {p s : List QRow} (hc : (p.length : Int) = 215) (hs : (s.length : Int) = 11) (hE : ∀ e ∈ E, e.1 < 227) (k : QR X (d + 2) (15, 20522) qmX11_init post (12, 20354) 114 [(0, (2, 215))] [] (kH (p ++ (((11, 31), [-1, 216, 217, 218, 219, -1, -1, -1, -1, -1, -1, -1, -1, -1, -1, -1, 220, 221, 222, -1, -1, 223, 224, 225, -1, 226, -1, 227, -1, -1, -1]) :: (s ++ [((101, 36), [])]))) 215 M E)) : QR X (d + 2) (15, 20522) qmX11_init post (11, 20318) 106 [(0, (2, 215))] [] (kH (p ++ (((11, 31), [-1, 216, 217, 218, 219, -1, -1, -1, -1, -1, -1, -1, -1, -1, -1, -1, 220, 221, 222, -1, -1, 223, 224, 225, -1, 226, -1, -1, -1, -1, -1]) :: s)) 215 M E) := by
  refine qwp_ok qmX11_init_ok.1 [(114, [0])] 12 ⟨(by decide), (by decide), kCnt, kAdd_sh hc, ?_⟩
  refine QR.heq (kAdd 27 [] 227 kNil hc (show 227 = 215 + 1 + (s.length : Int) by omega) (by show 27 < 31; decide) hE (by omega)) ?_
  exact k
theorem k_MM14 {p s : List QRow} (hc : (p.length : Int) = 215) (hs : (s.length : Int) = 12) (hE : ∀ e ∈ E, e.1 < 228) (k : QR X (d + 2) (15, 20522) qmX11_init post (13, 20358) 137 [(0, (2, 215))] [] (kH (p ++ (((11, 31), [-1, 216, 217, 218, 219, -1, -1, -1, -1, -1, -1, -1, -1, -1, -1, -1, 220, 221, 222, -1, -1, 223, 224, 225, -1, 226, -1, 227, 228, -1, -1]) :: (s ++ [((100, 4), [])]))) 215 M ((228, 3, -1) :: (228, 2, -1) :: (228, 1, -1) :: (228, 0, -1) :: E))) : QR X (d + 2) (15, 20522) qmX11_init post (12, 20354) 114 [(0, (2, 215))] [] (kH (p ++ (((11, 31), [-1, 216, 217, 218, 219, -1, -1, -1, -1, -1, -1, -1, -1, -1, -1, -1, 220, 221, 222, -1, -1, 223, 224, 225, -1, 226, -1, 227, -1, -1, -1]) :: s)) 215 M E) := by
  have hl : ((p ++ (((11, 31), [-1, 216, 217, 218, 219, -1, -1, -1, -1, -1, -1, -1, -1, -1, -1, -1, 220, 221, 222, -1, -1, 223, 224, 225, -1, 226, -1, 227, -1, -1, -1]) :: s)).length : Int) = 228 := kLen (N := 0) (M := M) (E := E) hc (show 228 = 215 + 1 + (s.length : Int) by omega)
  refine qwp_ok qmX11_init_ok.1 [(119, [0])] 6 ⟨(by decide), (by decide), kCnt, ?_⟩
  refine QR.heq (kNew [] kNil (by rw [hl]; exact hE) (by rw [hl]; decide)) ?_
  refine QR.st2 (b := 228) hl ?_
  refine qwp_ok qmX11_init_ok.1 [(122, [0])] 5 ⟨congrArg Prod.fst (kSh_at hl), (by decide), kLt (kSh_at hl) (by decide), ?_⟩
  refine QR.heq (kNum (a := 228) (j := 0) (x := -1) (by omega)) ?_
  refine qwp_ok qmX11_init_ok.1 [(126, [0])] 5 ⟨congrArg Prod.fst (kSh_at hl), (by decide), kLt (kSh_at hl) (by decide), ?_⟩
  refine QR.heq (kNum (a := 228) (j := 1) (x := -1) (by omega)) ?_
  refine qwp_ok qmX11_init_ok.1 [(130, [0])] 5 ⟨congrArg Prod.fst (kSh_at hl), (by decide), kLt (kSh_at hl) (by decide), ?_⟩
  refine QR.heq (kNum (a := 228) (j := 2) (x := -1) (by omega)) ?_
  refine qwp_ok qmX11_init_ok.1 [(134, [0])] 5 ⟨congrArg Prod.fst (kSh_at hl), (by decide), kLt (kSh_at hl) (by decide), ?_⟩
  refine QR.heq (kNum (a := 228) (j := 3) (x := -1) (by omega)) ?_
  refine qwp_ok qmX11_init_ok.1 [(137, [0])] 4 ⟨congrArg Prod.fst (kSh_at2 hc), ?_⟩
  refine QR.heq (kPut2 28 hc (by show 28 < 31; decide) rfl) ?_
  exact k
theorem k_MM15 {p s : List QRow} (hc : (p.length : Int) = 215) (hs : (s.length : Int) = 13) (hE : ∀ e ∈ E, e.1 < 229) (k : QR X (d + 2) (15, 20522) qmX11_init post (14, 20362) 144 [(0, (2, 215))] [] (kH (p ++ (((11, 31), [-1, 216, 217, 218, 219, -1, -1, -1, -1, -1, -1, -1, -1, -1, -1, -1, 220, 221, 222, -1, -1, 223, 224, 225, -1, 226, -1, 227, 228, 229, -1]) :: (s ++ [((100, 4), [])]))) 215 M E)) : QR X (d + 2) (15, 20522) qmX11_init post (13, 20358) 137 [(0, (2, 215))] [] (kH (p ++ (((11, 31), [-1, 216, 217, 218, 219, -1, -1, -1, -1, -1, -1, -1, -1, -1, -1, -1, 220, 221, 222, -1, -1, 223, 224, 225, -1, 226, -1, 227, 228, -1, -1]) :: s)) 215 M E) := by
  refine qwp_ok qmX11_init_ok.1 [(144, [0])] 12 ⟨(by decide), (by decide), kCnt, kAdd_sh hc, ?_⟩
  refine QR.heq (kAdd 29 [] 229 kNil hc (show 229 = 215 + 1 + (s.length : Int) by omega) (by show 29 < 31; decide) hE (by omega)) ?_
  exact k
theorem k_MM16 {p s : List QRow} (hc : (p.length : Int) = 215) (hs : (s.length : Int) = 14) (hE : ∀ e ∈ E, e.1 < 230) (k : QR X (d + 2) (15, 20522) qmX11_init post (15, 20522) 153 [(0, (2, 215))] [] (kH (p ++ (((11, 31), [-1, 216, 217, 218, 219, -1, -1, -1, -1, -1, -1, -1, -1, -1, -1, -1, 220, 221, 222, -1, -1, 223, 224, 225, -1, 226, -1, 227, 228, 229, 230]) :: (s ++ [((101, 160), [])]))) 215 M E)) : QR X (d + 2) (15, 20522) qmX11_init post (14, 20362) 144 [(0, (2, 215))] [] (kH (p ++ (((11, 31), [-1, 216, 217, 218, 219, -1, -1, -1, -1, -1, -1, -1, -1, -1, -1, -1, 220, 221, 222, -1, -1, 223, 224, 225, -1, 226, -1, 227, 228, 229, -1]) :: s)) 215 M E) := by
  refine qwp_ok qmX11_init_ok.1 [(153, [0])] 12 ⟨(by decide), (by decide), kCnt, kAdd_sh hc, ?_⟩
  refine QR.heq (kAdd 30 [] 230 kNil hc (show 230 = 215 + 1 + (s.length : Int) by omega) (by show 30 < 31; decide) hE (by omega)) ?_
  exact k
end MM
def kE11 : List (Int × Int × Int) := [(228, 3, -1), (228, 2, -1), (228, 1, -1), (228, 0, -1), (215, 24, -1), (215, 14, -1)]
theorem kS_qS : kS (kT3 ++ kTM) = qS 7 := by
  have h1 : ((kT3 ++ kTM).length : Int) = 231 := by decide +kernel
  have h2 : ∀ n : Nat, n < 240 → (qnth (kT3 ++ kTM) n kD).1 = qtab qshT n (999, 0) := by decide +kernel
  have h3 : ∀ n : Nat, n < 240 → (qnth (kT3 ++ kTM) n kD).2 = qtab (qrfT 7) n [] := by decide +kernel
  have h4 : ∀ n : Nat, ¬ n < 240 → qnth (kT3 ++ kTM) n kD = kD := fun n hn => qnth_out kD _ n (by omega)
  have h5 : ∀ {α : Type} (t : List (List α)) (n : Nat) (z : α), t.length = 15 → ¬ n < 240 → qtab t n z = z := fun t n z ht hn => by
    unfold qtab
    rw [qnth_out [] t (n / 16) (by omega)]
    exact qnth_out z [] _ (Nat.zero_le _)
  have e2 : kSh (kT3 ++ kTM) = (qS 7).2.1 := by
    funext a
    match a with
    | .ofNat n =>
      show (qnth (kT3 ++ kTM) n kD).1 = qtab qshT n (999, 0)
      by_cases h : n < 240
      · exact h2 n h
      · rw [h4 n h, h5 qshT n _ rfl h]; rfl
    | .negSucc n => rfl
  have e3 : kRf (kT3 ++ kTM) = (qS 7).2.2 := by
    funext a j
    match a, j with
    | .ofNat n, .ofNat k =>
      show qnth (qnth (kT3 ++ kTM) n kD).2 k (-1) = qnth (qtab (qrfT 7) n []) k (-1)
      by_cases h : n < 240
      · rw [h3 n h]
      · rw [h4 n h, h5 (qrfT 7) n _ rfl h]; rfl
    | .negSucc n, j => cases j <;> rfl
    | .ofNat n, .negSucc k => rfl
  show (((kT3 ++ kTM).length : Int), kSh (kT3 ++ kTM), kRf (kT3 ++ kTM)) = (231, (qS 7).2.1, (qS 7).2.2)
  rw [h1, e2, e3]
theorem k_Model {X : QX} {d : Nat} {post : Int → QH → Prop} {M : QMem} (hp : ∀ M1 : QMem, (∀ a, a ≠ 216 → M1 a = kM 215 M kE11 a) → (∀ j, 0 ≤ j → j < 4375 → M1 216 j = a0L j) → post 0 (qS 7, M1)) : QC X (d + 2) 15 20522 0 yX11_init [(2, 215)] (kH (kT3 ++ [((11, 31), [-1, -1, -1, -1, -1, -1, -1, -1, -1, -1, -1, -1, -1, -1, -1, -1, -1, -1, -1, -1, -1, -1, -1, -1, -1, -1, -1, -1, -1, -1, -1])]) 215 M []) post := by
  have hc : (kT3.length : Int) = 215 := by decide +kernel
  refine QC.of qmX11_init_ok rfl ?_
  refine k_MM0 hc (by decide +kernel) (by decide +kernel) ?_
  refine k_MM1 hc (by decide +kernel) (by decide +kernel) ?_
  refine k_MM2 hc (by decide +kernel) (by decide +kernel) ?_
  refine k_MM3 hc (by decide +kernel) (by decide +kernel) ?_
  refine k_MM4 hc ?_
  refine k_MM5 hc (by decide +kernel) (by decide +kernel) ?_
  refine k_MM6 hc (by decide +kernel) (by decide +kernel) ?_
  refine k_MM7 hc (by decide +kernel) (by decide +kernel) ?_
  refine k_MM8 hc (by decide +kernel) (by decide +kernel) ?_
  refine k_MM9 hc (by decide +kernel) (by decide +kernel) ?_
  refine k_MM10 hc (by decide +kernel) (by decide +kernel) ?_
  refine k_MM11 hc ?_
  refine k_MM12 hc (by decide +kernel) (by decide +kernel) ?_
  refine k_MM13 hc (by decide +kernel) (by decide +kernel) ?_
  refine k_MM14 hc (by decide +kernel) (by decide +kernel) ?_
  refine k_MM15 hc (by decide +kernel) (by decide +kernel) ?_
  refine k_MM16 hc (by decide +kernel) (by decide +kernel) ?_
  refine QR.heq (h' := (qS 7, kM 215 M kE11)) ?_ ?_
  · rw [← kS_qS]
    refine congr (congrArg (fun t => kH (kT3 ++ t) 215 M) ?_) ?_
    · decide +kernel
    · decide +kernel
  refine qwp_ok qmX11_init_ok.1 [(157, [0])] 4 ⟨rfl, ?_⟩
  refine QR.top (b := 216) rfl ?_
  exact qwp_ok qmX11_init_ok.1 [] 6 (QC.mono (m_plainA (X := X) (x := 7) (M := kM 215 M kE11) (post := fun _ M1 => post 0 (qS 7, M1)) (fun M1 b1 b2 => hp M1 b1 b2)) (fun x h u => by obtain ⟨M2, rfl, u⟩ := u; exact u))
