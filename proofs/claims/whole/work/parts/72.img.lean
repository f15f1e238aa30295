def cLP (b c : Int) : Prop := (b = 17 ∧ c = 3) ∨ (b = 174 ∧ c = 17) ∨ (b = 195 ∧ c = 17) ∨ (b = 17 ∧ c = 174) ∨ (b = 17 ∧ c = 195)
def cWP (b c : Int) : Prop := (b = 21 ∧ c = 7) ∨ (b = 178 ∧ c = 21) ∨ (b = 199 ∧ c = 21) ∨ (b = 21 ∧ c = 178) ∨ (b = 21 ∧ c = 199) ∨ (b = 24 ∧ c = 10) ∨ (b = 181 ∧ c = 24) ∨ (b = 202 ∧ c = 24) ∨ (b = 24 ∧ c = 181) ∨ (b = 24 ∧ c = 202)
section Img72
variable {X : QX} {x : Int} {d : Nat} {post : Int → QMem → Prop} {M : QMem} {A : Int → Int} {b c : Int}
theorem c_lawCopy (hb : cWP b c) (hn : 0 ≤ M c 2 ∧ M c 2 ≤ 900) (hp : ∀ M1, (∀ a, a ≠ b → a ≠ b + 1 → M1 a = M a) → M1 b 2 = M c 2 → (∀ i, 0 ≤ i → i < M c 2 → M1 (b + 1) i = M (c + 1) i) → post 0 M1) : QCm X x (d + 1) 0 yX2_copyOf [(2, b), (2, c)] M post := by
  have hd : c + 2 < b ∨ b + 2 < c := by rcases hb with ⟨rfl, rfl⟩ | ⟨rfl, rfl⟩ | ⟨rfl, rfl⟩ | ⟨rfl, rfl⟩ | ⟨rfl, rfl⟩ | ⟨rfl, rfl⟩ | ⟨rfl, rfl⟩ | ⟨rfl, rfl⟩ | ⟨rfl, rfl⟩ | ⟨rfl, rfl⟩ <;> decide
  have k : ∀ a, a ≠ b + 1 → qcpy M (c + 1) (b + 1) 0 0 (M c 2) a = M a := fun a ha => by
    funext j; show (if _ then _ else _) = _; rw [if_neg (fun z => ha z.1)]
  refine QC.of qmX2_copyOf_ok rfl (TX2_copyOf_0 hb ⟨(by omega), (by omega), hp _ (fun a a1 a2 => ?_) ?_ (fun i i0 i1 => ?_)⟩)
  · rw [qup_row a1]; exact k a a2
  · rw [qup_at, if_pos rfl, k c (by omega)]
  · rw [qup_row (by omega)]
    show (if _ then _ else _) = _
    rw [if_pos ⟨rfl, i0, (by omega)⟩]; congr 1; omega
theorem c_landCopy (hb : cLP b c) (hL : rLandOk A) (hC : cLand A c M) (hp : ∀ M1 : QMem, (∀ a, a < b ∨ b + 9 < a → M1 a = M a) → cLand A b M1 → (∀ e, 0 ≤ e → e < 6 → M1 (b + 3) e = M (c + 3) e) → M1 b 5 = M c 5 → M1 b 6 = M c 6 → post 0 M1) : QCm X x (d + 2) 0 yX1_copyOf [(2, b), (2, c)] M post := by
  have hd : c + 9 < b ∨ b + 9 < c := by rcases hb with ⟨rfl, rfl⟩ | ⟨rfl, rfl⟩ | ⟨rfl, rfl⟩ | ⟨rfl, rfl⟩ | ⟨rfl, rfl⟩ <;> decide
  have hw4 : cWP (b + 4) (c + 4) := by rcases hb with ⟨rfl, rfl⟩ | ⟨rfl, rfl⟩ | ⟨rfl, rfl⟩ | ⟨rfl, rfl⟩ | ⟨rfl, rfl⟩ <;> (unfold cWP; decide)
  have hw7 : cWP (b + 7) (c + 7) := by rcases hb with ⟨rfl, rfl⟩ | ⟨rfl, rfl⟩ | ⟨rfl, rfl⟩ | ⟨rfl, rfl⟩ | ⟨rfl, rfl⟩ <;> (unfold cWP; decide)
  have a3 := hL.2.2.1
  have cp : ∀ (N : QMem) (i n : Int), 1 ≤ i → i ≤ 9 → (∀ a, a < b ∨ b + 9 < a → N a = M a) → (∀ a, a < b ∨ b + 9 < a → qcpy N (c + i) (b + i) 0 0 n a = M a) ∧ (∀ a, a ≠ b + i → qcpy N (c + i) (b + i) 0 0 n a = N a) ∧ (∀ q, 0 ≤ q → q < n → qcpy N (c + i) (b + i) 0 0 n (b + i) q = M (c + i) q) := by
    intro N i n i0 i1 ho
    have k : ∀ a, a ≠ b + i → qcpy N (c + i) (b + i) 0 0 n a = N a := fun a ha => by
      funext j; show (if _ then _ else _) = _; rw [if_neg (fun z => ha z.1)]
    refine ⟨fun a ha => (k a (by omega)).trans (ho a ha), k, fun q q0 q1 => ?_⟩
    show (if _ then _ else _) = _
    rw [if_pos ⟨rfl, q0, (by omega)⟩, ho (c + i) (by omega)]; congr 1; omega
  have up : ∀ (N : QMem) (i : Int), (∀ a, a < b ∨ b + 9 < a → N a = M a) → (∀ a, a < b ∨ b + 9 < a → qup N b i (N c i) a = M a) ∧ (∀ a, a ≠ b → qup N b i (N c i) a = N a) ∧ qup N b i (N c i) b i = M c i ∧ ∀ j, j ≠ i → qup N b i (N c i) b j = N b j := by
    intro N i ho
    refine ⟨fun a ha => (qup_row (by omega)).trans (ho a ha), fun a ha => qup_row ha, ?_, fun j hj => ?_⟩
    · rw [qup_at, if_pos rfl, ho c (by omega)]
    · rw [qup_at, if_neg hj]
  refine QC.of qmX1_copyOf_ok rfl ?_
  refine TX1_copyOf_0 hb ?_
  obtain ⟨o1, k1, v1, w1⟩ := up M 0 (fun _ _ => rfl)
  generalize qup M b 0 (M c 0) = N1 at *
  refine TX1_copyOf_8 hb ?_
  obtain ⟨o2, k2, v2, w2⟩ := up N1 1 o1
  generalize qup N1 b 1 (N1 c 1) = N2 at *
  refine TX1_copyOf_16 hb ?_
  obtain ⟨o3, k3, v3, w3⟩ := up N2 2 o2
  generalize qup N2 b 2 (N2 c 2) = N3 at *
  refine TX1_copyOf_24 hb ?_
  obtain ⟨o4, k4, v4, w4⟩ := up N3 3 o3
  generalize qup N3 b 3 (N3 c 3) = N4 at *
  refine TX1_copyOf_32 hb ?_
  obtain ⟨o5, k5, v5, w5⟩ := up N4 4 o4
  generalize qup N4 b 4 (N4 c 4) = N5 at *
  refine TX1_copyOf_40 hb ?_
  obtain ⟨o6, k6, v6, w6⟩ := up N5 5 o5
  generalize qup N5 b 5 (N5 c 5) = N6 at *
  refine TX1_copyOf_48 hb ?_
  obtain ⟨o7, k7, v7, w7⟩ := up N6 6 o6
  generalize qup N6 b 6 (N6 c 6) = N7 at *
  refine TX1_copyOf_56 hb ?_
  obtain ⟨o8, k8, v8⟩ := cp N7 1 36 (by decide) (by decide) o7
  generalize qcpy N7 (c + 1) (b + 1) 0 0 36 = N8 at *
  refine TX1_copyOf_71 hb ?_
  obtain ⟨o9, k9, v9⟩ := cp N8 2 6 (by decide) (by decide) o8
  generalize qcpy N8 (c + 2) (b + 2) 0 0 6 = N9 at *
  refine TX1_copyOf_86 hb ?_
  obtain ⟨o10, k10, v10⟩ := cp N9 3 6 (by decide) (by decide) o9
  generalize qcpy N9 (c + 3) (b + 3) 0 0 6 = N10 at *
  have g0 : N10 b 0 = M c 0 := by rw [k10 b (by omega), k9 b (by omega), k8 b (by omega), w7 0 (by decide), w6 0 (by decide), w5 0 (by decide), w4 0 (by decide), w3 0 (by decide), w2 0 (by decide), v1]
  have g1 : N10 b 1 = M c 1 := by rw [k10 b (by omega), k9 b (by omega), k8 b (by omega), w7 1 (by decide), w6 1 (by decide), w5 1 (by decide), w4 1 (by decide), w3 1 (by decide), v2]
  have g2 : N10 b 2 = M c 2 := by rw [k10 b (by omega), k9 b (by omega), k8 b (by omega), w7 2 (by decide), w6 2 (by decide), w5 2 (by decide), w4 2 (by decide), v3]
  have g3 : N10 b 3 = M c 3 := by rw [k10 b (by omega), k9 b (by omega), k8 b (by omega), w7 3 (by decide), w6 3 (by decide), w5 3 (by decide), v4]
  have g4 : N10 b 4 = M c 4 := by rw [k10 b (by omega), k9 b (by omega), k8 b (by omega), w7 4 (by decide), w6 4 (by decide), v5]
  have g5 : N10 b 5 = M c 5 := by rw [k10 b (by omega), k9 b (by omega), k8 b (by omega), w7 5 (by decide), v6]
  have g6 : N10 b 6 = M c 6 := by rw [k10 b (by omega), k9 b (by omega), k8 b (by omega), v7]
  have f1 : N10 (b + 1) = N8 (b + 1) := by rw [k10 _ (by omega), k9 _ (by omega)]
  have f2 : N10 (b + 2) = N9 (b + 2) := by rw [k10 _ (by omega)]
  have wt : ∀ l, l = 0 ∨ l = 1 → (A (4 + l) = 0 → M (c + 4 + 3 * l) 2 = 0) ∧ (A (4 + l) = 1 → M (c + 4 + 3 * l) 2 = A (8 + l) ∧ ∀ i : Nat, (i : Int) < A (8 + l) → M (c + 4 + 3 * l + 1) i = cCode (rCode A l i)) := hC.2.2.2
  have sz : ∀ l, l = 0 ∨ l = 1 → 0 ≤ M (c + 4 + 3 * l) 2 ∧ M (c + 4 + 3 * l) 2 ≤ 900 := by
    intro l hl
    rcases hL.2.2.2.1 l hl with z | ⟨z, ok⟩
    · rw [(wt l hl).1 z]; exact ⟨by decide, by decide⟩
    · rw [((wt l hl).2 z).1]; have := ok.2.1; have := ok.2.2.1; have := ok.1; omega
  have z4 : c + 4 + 3 * 0 = c + 4 := by omega
  have z7 : c + 4 + 3 * 1 = c + 7 := by omega
  have s4 : 0 ≤ M (c + 4) 2 ∧ M (c + 4) 2 ≤ 900 := by have := sz 0 (Or.inl rfl); rw [z4] at this; exact this
  have s7 : 0 ≤ M (c + 7) 2 ∧ M (c + 7) 2 ≤ 900 := by have := sz 1 (Or.inr rfl); rw [z7] at this; exact this
  refine TX1_copyOf_101 hb (c_lawCopy hw4 (by rw [o10 _ (by omega)]; exact s4) (fun P1 p1 p2 p3 => c_lawCopy hw7 (by rw [p1 _ (by omega) (by omega), o10 _ (by omega)]; exact s7) (fun P2 q1 q2 q3 => ?_)))
  rw [o10 _ (by omega)] at p2 p3
  rw [o10 _ (by omega)] at p3
  rw [p1 (c + 7) (by omega) (by omega), o10 _ (by omega)] at q2 q3
  rw [p1 _ (by omega) (by omega), o10 _ (by omega)] at q3
  have r : ∀ a, a ≠ b + 4 → a ≠ b + 5 → a ≠ b + 7 → a ≠ b + 8 → P2 a = N10 a := fun a a1 a2 a3 a4 => by rw [q1 a (by omega) (by omega), p1 a (by omega) (by omega)]
  refine hp P2 (fun a ha => by rw [r a (by omega) (by omega) (by omega) (by omega)]; exact o10 a ha) ⟨⟨?_, ?_, ?_, ?_, ?_⟩, fun k k0 k1 => ?_, fun e e0 e1 => ?_, fun l hl => ?_⟩ (fun e e0 e1 => ?_) ?_ ?_
  · rw [r b (by omega) (by omega) (by omega) (by omega), g0]; exact hC.1.1
  · rw [r b (by omega) (by omega) (by omega) (by omega), g1]; exact hC.1.2.1
  · rw [r b (by omega) (by omega) (by omega) (by omega), g2]; exact hC.1.2.2.1
  · rw [r b (by omega) (by omega) (by omega) (by omega), g3]; exact hC.1.2.2.2.1
  · rw [r b (by omega) (by omega) (by omega) (by omega), g4]; exact hC.1.2.2.2.2
  · rw [r _ (by omega) (by omega) (by omega) (by omega), f1, v8 k k0 k1]; exact hC.2.1 k k0 k1
  · rw [r _ (by omega) (by omega) (by omega) (by omega), f2, v9 e e0 (by omega)]; exact hC.2.2.1 e e0 e1
  · rcases hl with rfl | rfl
    · have h := wt 0 (Or.inl rfl)
      rw [z4] at h
      rw [show b + 4 + 3 * 0 = b + 4 by omega, q1 (b + 4) (by omega) (by omega), q1 (b + 4 + 1) (by omega) (by omega), p2]
      refine ⟨h.1, fun z => ⟨(h.2 z).1, fun i hi => ?_⟩⟩
      rw [p3 i (by omega) (by rw [(h.2 z).1]; exact hi)]; exact (h.2 z).2 i hi
    · have h := wt 1 (Or.inr rfl)
      rw [z7] at h
      rw [show b + 4 + 3 * 1 = b + 7 by omega, q2]
      refine ⟨h.1, fun z => ⟨(h.2 z).1, fun i hi => ?_⟩⟩
      rw [q3 i (by omega) (by rw [(h.2 z).1]; exact hi)]; exact (h.2 z).2 i hi
  · rw [r _ (by omega) (by omega) (by omega) (by omega), v10 e e0 e1]
  · rw [r b (by omega) (by omega) (by omega) (by omega), g5]
  · rw [r b (by omega) (by omega) (by omega) (by omega), g6]
end Img72
theorem lawHi_upto {c c' : Int → Int} {n : Nat} (h : ∀ i : Nat, i < n → c' i = c i) : ∀ m, m ≤ n → lawHi c' m = lawHi c m
  | 0, _ => rfl
  | m + 1, hm => by rw [lawHi, lawHi, h m (by omega), lawHi_upto h m (by omega)]
theorem lawTy_upto {c c' : Int → Int} {n : Nat} (h : ∀ i : Nat, i < n → c' i = c i) : ∀ m, m ≤ n → lawTy c' m = lawTy c m
  | 0, _ => rfl
  | m + 1, hm => by rw [lawTy, lawTy, h m (by omega), lawHi_upto h m (by omega), lawTy_upto h m (by omega)]
theorem lawSt_upto {c c' w : Int → Int} {n : Nat} (h : ∀ i : Nat, i < n → c' i = c i) : ∀ m, m ≤ n → lawSt c' w m = lawSt c w m
  | 0, _ => rfl
  | m + 1, hm => by rw [lawSt, lawSt, h m (by omega), lawSt_upto h m (by omega)]
theorem lawOk_upto {c c' : Int → Int} {n : Nat} (h : ∀ i : Nat, i < n → c' i = c i) (hc : lawOk c n) : lawOk c' n := fun i hi => by
  rw [h i hi, lawHi_upto h i (by omega), lawTy_upto h i (by omega)]; exact hc i hi
/-- what a land is, by the numbers that a state has -/
theorem rLandOk.img {A B : Int → Int} (h : rLandOk A) (he : ∀ j, (0 ≤ j ∧ j < 52) ∨ (3475 ≤ j ∧ j < 4375) → B j = A j) : rLandOk B := by
  have hc : ∀ l, l = 0 ∨ l = 1 → rLawOk A l → ∀ i : Nat, i < (A (8 + l)).toNat → rCode B l i = rCode A l i := fun l hl ok i hi => by
    have o1 := ok.1
    have o2 := ok.2.1
    have o3 := ok.2.2.1
    rw [rCode, rCode, he (6 + l) (by omega), he _ (by omega)]
  obtain ⟨h1, h2, h3, h4, h5, h6, h7⟩ := h
  refine ⟨by rw [he 1 (by omega)]; exact h1, by rw [he 2 (by omega)]; exact h2, by rw [he 3 (by omega)]; exact h3, fun l hl => ?_, fun h i hi => ?_, fun k k0 k1 => ?_, fun e e0 e1 => ?_⟩
  · rw [he (4 + l) (by omega)]
    rcases h4 l hl with z | ⟨z, ok⟩
    · exact Or.inl z
    · refine Or.inr ⟨z, ?_⟩
      unfold rLawOk
      rw [he (6 + l) (by omega), he (8 + l) (by omega), lawHi_upto (hc l hl ok) _ (Nat.le_refl _)]
      exact ⟨ok.1, ok.2.1, ok.2.2.1, lawOk_upto (hc l hl ok) ok.2.2.2.1, ok.2.2.2.2⟩
  · rw [he 4 (by omega)] at h
    rw [he 8 (by omega)] at hi
    rcases h4 0 (Or.inl rfl) with z | ⟨z, ok⟩
    · have : A 4 = 0 := z
      omega
    · rw [hc 0 (Or.inl rfl) ok i (show i < (A 8).toNat by omega)]; exact h5 h i hi
  · rw [he (10 + k) (by omega)]; exact h6 k k0 k1
  · rw [he 3 (by omega)] at e1
    rw [he (46 + e) (by omega), he 1 (by omega), he 2 (by omega)]; exact h7 e e0 e1
theorem cLand.img {A B : Int → Int} {c : Int} {M : QMem} (h : cLand A c M) (hL : rLandOk A) (he : ∀ j, (0 ≤ j ∧ j < 52) ∨ (3475 ≤ j ∧ j < 4375) → B j = A j) : cLand B c M := by
  have hcl := hL.cells
  obtain ⟨⟨h0, h1, h2, h3, h4⟩, hk, hd, hw⟩ := h
  refine ⟨⟨by rw [he 1 (by omega)]; exact h0, by rw [he 2 (by omega)]; exact h1, by rw [he 3 (by omega)]; exact h2, ?_, by rw [he 0 (by omega)]; exact h4⟩, fun k k0 k1 => ?_, fun e e0 e1 => ?_, fun l hl => ?_⟩
  · rw [he 1 (by omega), he 2 (by omega), rSum_congr (fun i hi => he _ (by omega))]; exact h3
  · rw [he (10 + k) (by omega), rHome_congr (fun j hj => he j (by omega)) hL.2.2.1.2]; exact hk k k0 k1
  · rw [he 3 (by omega)] at e1
    have a3 := hL.2.2.1
    rw [he (46 + e) (by omega)]; exact hd e e0 e1
  · rw [he (4 + l) (by omega), he (8 + l) (by omega)]
    refine ⟨(hw l hl).1, fun z => ?_⟩
    have w := (hw l hl).2 z
    refine ⟨w.1, fun i hi => ?_⟩
    rcases hL.2.2.2.1 l hl with y | ⟨y, ok⟩
    · omega
    · have o1 := ok.1
      have o3 := ok.2.2.1
      have : rCode B l i = rCode A l i := by rw [rCode, rCode, he (6 + l) (by omega), he _ (by omega)]
      rw [this]; exact w.2 i hi
theorem qS_img (x : Int) {i : Int} (h : i = 0 ∨ i = 1) : (qS x).2.2 150 i = 173 + 21 * i ∧ ((qS x).2.1 (173 + 21 * i)).1 = 0 ∧ (qS x).2.2 (173 + 21 * i) 1 = 174 + 21 * i ∧ ((qS x).2.1 (174 + 21 * i)).1 = 1 ∧ (qS x).2.2 (173 + 21 * i) 2 = 184 + 21 * i ∧ ((qS x).2.1 (184 + 21 * i)).1 = 6 := by
  rcases h with rfl | rfl <;> exact ⟨rfl, rfl, rfl, rfl, rfl, rfl⟩
section Img72b
variable {X : QX} {x : Int} {d : Nat} {post : Int → QMem → Prop} {M : QMem} {cont : Int → Int → QMem → Prop}
theorem m_image_loop {i : Int} (hi : i = 0 ∨ i = 1) {A : Int → Int} (hp : ∀ M1, (∀ a, a ≠ 216 → M1 a = M a) → (∀ j, M1 216 j = if 4375 * (i + 1) ≤ j ∧ j < 4375 * (i + 1) + 4375 then A (j - 4375 * (i + 1)) else A j) → post 0 (qup M1 217 i 1)) : ∀ k : Int, ∀ M1 : QMem, 0 ≤ k ∧ k ≤ 4375 ∧ (∀ a, a ≠ 216 → M1 a = M a) ∧ (∀ j, M1 216 j = if 4375 * (i + 1) ≤ j ∧ j < 4375 * (i + 1) + k then A (j - 4375 * (i + 1)) else A j) → QRm X x (d + 1) qmX11_image post 20 [(0, (2, 215)), (1, (0, i)), (2, (0, k))] [] M1 := by
  refine int_up 4375 (fun k hk M1 h => ?_) (fun k hk ih M1 h => ?_)
  · refine TX11_image_20 ⟨(i32 (by omega) (by omega)), fun _ => ⟨(by omega), (by omega), hp M1 h.2.2.1 (fun j => ?_)⟩, fun z => absurd hk (by omega)⟩
    rw [h.2.2.2, show k = 4375 by omega]
  · refine TX11_image_20 ⟨(i32 (by omega) (by omega)), fun z => absurd hk (by omega), fun _ => ⟨(by omega), (by omega), (by omega), (by omega), ih _ ⟨(by omega), (by omega), fun a ha => by rw [qup_row ha]; exact h.2.2.1 a ha, fun j => ?_⟩⟩⟩
    rw [qup_at, h.2.2.2, h.2.2.2]
    by_cases z : j = 4375 * (i + 1) + k
    · rw [if_pos z, if_neg (by omega), if_pos (by omega)]; congr 1; omega
    · rw [if_neg z]
      by_cases y : 4375 * (i + 1) ≤ j ∧ j < 4375 * (i + 1) + k
      · rw [if_pos y, if_pos (by omega)]
      · rw [if_neg y, if_neg (by omega : ¬ (4375 * (i + 1) ≤ j ∧ j < 4375 * (i + 1) + (k + 1)))]
theorem rel_image (hR : Rel M) {i : Int} (hi : in32 i) (hp : ∀ v M3, Rel M3 → cont v v M3) : QCm X x (d + 8) 1 yX10_image [(2, 0), (0, i)] M (fun x1 M1 => QCm X x (d + 8) 1 yX11_image [(2, 215), (0, i)] M1 (fun x2 M2 => cont x1 x2 M2)) := by
  have R0 := hR.keep (gT M)
  have hN := hR.2.1.1
  have no : ¬ (0 ≤ i ∧ i < 2) → QCm X x (d + 8) 1 yX11_image [(2, 215), (0, i)] M (fun x2 M2 => cont (-2) x2 M2) := fun z =>
    QC.of qmX11_image_ok rfl (TX11_image_0 ⟨hi, m_within hi.to64 (i64 (by omega) (by omega)) (i64 (by omega) (by omega)) (fun y => absurd (by omega) z) (fun _ => ⟨fun _ => hp _ _ R0, fun q => absurd rfl q⟩)⟩)
  refine QC.of qmX10_image_ok rfl (TX10_image_0 ⟨hi, fun z => no (by omega), fun z => ⟨fun y => ?_, fun y => no (by omega)⟩⟩)
  have i01 : i = 0 ∨ i = 1 := (by omega)
  obtain ⟨s0, s1, s2, s3, s4, s5⟩ := qS_img x i01
  rw [s0, s2, s4]
  have a3 := hR.1.1.2.2.1
  refine ⟨(by omega), (by omega), s1, s3, c_landCopy (c := 17) (by unfold cLP; omega) hR.1.1 hR.1.2.2.1 (fun M1 m1 m2 _ _ _ => ⟨s5, ?_⟩)⟩
  refine c_copyOf (c := 27) (by unfold cPair; omega) (hR.1.2.2.2.congr (fun a a0 a1 => m1 a (by omega))) hR.1.2.1.2.1.1 a3.2 hR.1.2.1.2.2.2.1.2 (fun M2 n1 n2 => ?_)
  generalize hM3 : qup M2 (173 + 21 * i) 0 1 = M3
  have f0 : M3 (173 + 21 * i) 0 = 1 := by rw [← hM3, qup_at, if_pos rfl]
  have fr : ∀ a, a < 173 + 21 * i ∨ 193 + 21 * i < a → M3 a = M a := fun a ha => by rw [← hM3, qup_row (by omega), n1 a (by omega), m1 a (by omega)]
  have fL : cLand (M 216) (174 + 21 * i) M3 := m2.congr (fun a ha => by rw [← hM3, qup_row (by omega), n1 a (by omega)])
  have fS : cSt (M 216) (184 + 21 * i) M3 := n2.congr (fun a a0 a1 => by rw [← hM3, qup_row (by omega)])
  refine QC.of qmX11_image_ok rfl (TX11_image_0 ⟨hi, m_within hi.to64 (i64 (by omega) (by omega)) (i64 (by omega) (by omega)) (fun _ => ⟨fun q => absurd q (by decide), fun _ => ⟨(i32 (by omega) (by omega)), ?_⟩⟩) (fun q => absurd (by omega) q)⟩)
  have e3 : (qup M3 215 0 0) 216 = M 216 := (qup_row (by decide)).trans (fr 216 (by omega))
  refine m_image_loop (M := qup M3 215 0 0) (A := M 216) i01 (fun M4 g1 g2 => hp _ _ ?_) 0 _ ⟨(by omega), (by omega), fun _ _ => rfl, fun j => by rw [e3, if_neg (by omega)]⟩
  generalize hB : (fun j => if 4375 * (i + 1) ≤ j ∧ j < 4375 * (i + 1) + 4375 then M 216 (j - 4375 * (i + 1)) else M 216 j : Int → Int) = B
  have eB : ∀ j, B j = if 4375 * (i + 1) ≤ j ∧ j < 4375 * (i + 1) + 4375 then M 216 (j - 4375 * (i + 1)) else M 216 j := fun j => by rw [← hB]
  have e4 : M4 216 = B := by funext j; rw [g2, eB]
  have low : ∀ j, j < 4375 → B j = M 216 j := fun j hj => by rw [eB, if_neg (by omega)]
  have q4 : ∀ a, a ≠ 215 → a ≠ 216 → a ≠ 217 → (qup M4 217 i 1) a = M3 a := fun a a1 a2 a3 => by rw [qup_row a3, g1 a a2, qup_row a1]
  have q5 : ∀ j, j ≠ 0 → (qup M4 217 i 1) 215 j = M 215 j := fun j hj => by rw [qup_row (by decide), g1 215 (by decide), qup_at, if_neg hj, fr 215 (by omega)]
  have q7 : ∀ u, (qup M4 217 i 1) 217 u = if u = i then 1 else M 217 u := fun u => by rw [qup_at, g1 217 (by decide), qup_row (by decide), fr 217 (by omega)]
  have q6 : (qup M4 217 i 1) 216 = B := (qup_row (by decide)).trans e4
  generalize qup M4 217 i 1 = M5 at q4 q5 q6 q7
  have fr5 : ∀ a, a ≠ 215 → a ≠ 216 → a ≠ 217 → a < 173 + 21 * i ∨ 193 + 21 * i < a → M5 a = M a := fun a a1 a2 a3 a4 => (q4 a a1 a2 a3).trans (fr a a4)
  obtain ⟨h1, h2, h3, h4, h5, h6, h7⟩ := hR
  unfold Rel
  rw [q6]
  have LB : rLandOk B := h1.1.img (fun j hj => low j (by omega))
  refine ⟨⟨LB, h1.2.1.congr (fun j hj => low j (by omega)) h1.1, (h1.2.2.1.congr (fun a ha => fr5 a (by omega) (by omega) (by omega) (by omega))).img h1.1 (fun j hj => low j (by omega)), (h1.2.2.2.of_eq a3.2 h1.2.1.2.1.1 h1.2.1.2.2.2.1.2 (fun j hj => low j (by omega))).congr (fun a a0 a1 => fr5 a (by omega) (by omega) (by omega) (by omega))⟩, ⟨?_, ?_, ?_, fun k k0 k1 => ?_⟩, ⟨?_, ?_, ?_⟩, ⟨?_, ?_⟩, ?_, fun u hu => ?_, ?_⟩
  · rw [low 363 (by omega)]; exact h2.1
  · rw [low 363 (by omega), fr5 47 (by omega) (by omega) (by omega) (by omega)]; exact h2.2.1
  · rw [fr5 47 (by omega) (by omega) (by omega) (by omega)]; exact h2.2.2.1
  · rw [low 363 (by omega)] at k1
    have o := h2.2.2.2 k k0 k1
    have sl : ∀ j, j < 363 → rSlot B k j = rSlot (M 216) k j := fun j hj => by
      unfold rSlot; split
      · exact low _ (by omega)
      · exact low j (by omega)
    have L1 : rLandOk (rSlot (M 216) k) := h1.1.congr (fun j hj => by unfold rSlot; rw [if_neg (by omega)])
    rw [low 363 (by omega), fr5 47 (by omega) (by omega) (by omega) (by omega)]
    exact ⟨o.1.congr (fun j hj => sl j (by omega)) L1, (o.2.of_eq L1.2.2.1.2 o.1.2.1.1 o.1.2.2.2.1.2 (fun j hj => sl j (by omega))).congr (fun a a0 a1 => fr5 a (by omega) (by omega) (by omega) (by omega))⟩
  · rw [fr5 0 (by omega) (by omega) (by omega) (by omega)]; exact h3.1
  · rw [fr5 0 (by omega) (by omega) (by omega) (by omega), q5 5 (by omega)]; exact h3.2.1
  · rw [fr5 1 (by omega) (by omega) (by omega) (by omega), fr5 218 (by omega) (by omega) (by omega) (by omega)]; exact h3.2.2
  · rw [fr5 2 (by omega) (by omega) (by omega) (by omega), q5 13 (by omega)]; exact h4.1
  · rw [fr5 2 (by omega) (by omega) (by omega) (by omega), q5 14 (by omega)]; exact h4.2
  · exact h5.congr (fun a ha => fr5 a (by omega) (by omega) (by omega) (by omega))
  · rw [q7 u]
    by_cases e : u = i
    · subst e
      have im : ∀ j, 0 ≤ j → j < 4375 → rImg B u j = M 216 j := fun j j0 j1 => by
        unfold rImg; rw [eB, if_pos (by omega)]; congr 1; omega
      rw [if_pos rfl, q4 _ (by omega) (by omega) (by omega), f0]
      exact ⟨rfl, Or.inr rfl, fun _ => ⟨h1.1.img (fun j hj => im j (by omega) (by omega)), h1.2.1.congr (fun j hj => im j (by omega) (by omega)) h1.1, (fL.congr (fun a ha => q4 a (by omega) (by omega) (by omega))).img h1.1 (fun j hj => im j (by omega) (by omega)), (fS.of_eq a3.2 h1.2.1.2.1.1 h1.2.1.2.2.2.1.2 (fun j hj => im j (by omega) (by omega))).congr (fun a a0 a1 => q4 a (by omega) (by omega) (by omega))⟩⟩
    · have o := h6 u hu
      have im : ∀ j, 0 ≤ j → j < 4375 → rImg B u j = rImg (M 216) u j := fun j j0 j1 => by
        unfold rImg; rw [eB, if_neg (by omega)]
      rw [if_neg e, fr5 _ (by omega) (by omega) (by omega) (by omega)]
      refine ⟨o.1, o.2.1, fun z => ?_⟩
      obtain ⟨p1, p2, p3, p4⟩ := o.2.2 z
      exact ⟨p1.img (fun j hj => im j (by omega) (by omega)), p2.congr (fun j hj => im j (by omega) (by omega)) p1, (p3.congr (fun a ha => fr5 a (by omega) (by omega) (by omega) (by omega))).img p1 (fun j hj => im j (by omega) (by omega)), (p4.of_eq p1.2.2.1.2 p2.2.1.1 p2.2.2.2.1.2 (fun j hj => im j (by omega) (by omega))).congr (fun a a0 a1 => fr5 a (by omega) (by omega) (by omega) (by omega))⟩
  · rw [q5 24 (by omega)]; exact h7
theorem m_restore_loop {i : Int} (hi : i = 0 ∨ i = 1) {A : Int → Int} (hp : ∀ M1, (∀ a, a ≠ 216 → M1 a = M a) → (∀ j, M1 216 j = if 0 ≤ j ∧ j < 4375 then A (j + 4375 * (i + 1)) else A j) → post 0 (qup M1 216 363 0)) : ∀ k : Int, ∀ M1 : QMem, 0 ≤ k ∧ k ≤ 4375 ∧ (∀ a, a ≠ 216 → M1 a = M a) ∧ (∀ j, M1 216 j = if 0 ≤ j ∧ j < k then A (j + 4375 * (i + 1)) else A j) → QRm X x (d + 1) qmX11_restore post 32 [(0, (2, 215)), (1, (0, i)), (2, (0, k))] [] M1 := by
  refine int_up 4375 (fun k hk M1 h => ?_) (fun k hk ih M1 h => ?_)
  · refine TX11_restore_32 ⟨(i32 (by omega) (by omega)), fun _ => hp M1 h.2.2.1 (fun j => ?_), fun z => absurd hk (by omega)⟩
    rw [h.2.2.2, show k = 4375 by omega]
  · refine TX11_restore_32 ⟨(i32 (by omega) (by omega)), fun z => absurd hk (by omega), fun _ => ⟨(by omega), (by omega), (by omega), (by omega), ih _ ⟨(by omega), (by omega), fun a ha => by rw [qup_row ha]; exact h.2.2.1 a ha, fun j => ?_⟩⟩⟩
    rw [qup_at, h.2.2.2, h.2.2.2]
    by_cases z : j = k
    · rw [if_pos z, if_neg (by omega), if_pos (by omega)]; congr 1; omega
    · rw [if_neg z]
      by_cases y : 0 ≤ j ∧ j < k
      · rw [if_pos y, if_pos (by omega)]
      · rw [if_neg y, if_neg (by omega : ¬ (0 ≤ j ∧ j < k + 1))]
theorem rel_restore (hR : Rel M) {i : Int} (hi : in32 i) (hp : ∀ v M3, Rel M3 → cont v v M3) : QCm X x (d + 8) 1 yX10_restore [(2, 0), (0, i)] M (fun x1 M1 => QCm X x (d + 8) 1 yX11_restore [(2, 215), (0, i)] M1 (fun x2 M2 => cont x1 x2 M2)) := by
  have R0 := hR.keep (gT M)
  have hN := hR.2.1.1
  have no : ¬ (0 ≤ i ∧ i < 2) → QCm X x (d + 8) 1 yX11_restore [(2, 215), (0, i)] M (fun x2 M2 => cont (-2) x2 M2) := fun z =>
    QC.of qmX11_restore_ok rfl (TX11_restore_0 ⟨hi, m_within hi.to64 (i64 (by omega) (by omega)) (i64 (by omega) (by omega)) (fun y => absurd (by omega) z) (fun _ => ⟨fun _ => hp _ _ R0, fun q => absurd rfl q⟩)⟩)
  refine QC.of qmX10_restore_ok rfl (TX10_restore_0 ⟨hi, fun z => no (by omega), fun z => ⟨fun y => ?_, fun y => no (by omega)⟩⟩)
  have i01 : i = 0 ∨ i = 1 := (by omega)
  obtain ⟨s0, s1, s2, s3, s4, s5⟩ := qS_img x i01
  obtain ⟨o1, o2, o3⟩ := hR.2.2.2.2.2.1 i i01
  rw [s0, s2, s4, ← o1]
  have r17 : (qup M 215 0 0) 217 = M 217 := qup_row (by decide)
  refine ⟨(by omega), (by omega), s1, fun z0 => ?_, fun z0 => ⟨(i32 (by omega) (by omega)), ?_⟩⟩
  · refine QC.of qmX11_restore_ok rfl (TX11_restore_0 ⟨hi, m_within hi.to64 (i64 (by omega) (by omega)) (i64 (by omega) (by omega)) (fun _ => ⟨fun q => absurd q (by decide), fun _ => ⟨(i32 (by omega) (by omega)), (by omega), (by omega), ?_⟩⟩) (fun q => absurd (by omega) q)⟩)
    rw [r17]
    exact ⟨fun _ => hp _ _ R0, fun q => absurd z0 q⟩
  obtain ⟨p1, p2, p3, p4⟩ := o3 (by omega)
  generalize hI : rImg (M 216) i = I at *
  refine c_landCopy (b := 17) (c := 174 + 21 * i) (by unfold cLP; omega) p1 p3 (fun M1 m1 m2 _ _ _ => ?_)
  refine c_copyOf (b := 27) (c := 184 + 21 * i) (by unfold cPair; omega) (p4.congr (fun a a0 a1 => m1 a (by omega))) p2.2.1.1 p1.2.2.1.2 p2.2.2.2.1.2 (fun M2 n1 n2 => ?_)
  refine QC.of qmX3_forget_ok rfl (TX3_forget_0 ?_)
  generalize hM3 : qup M2 47 2 0 = M3
  have fr : ∀ a, a ≠ 47 → a < 17 ∨ 36 < a → M3 a = M a := fun a a1 a2 => by rw [← hM3, qup_row a1, n1 a (by omega), m1 a (by omega)]
  have f1 : M3 47 1 = M 47 1 := by rw [← hM3, qup_at, if_neg (by decide), n1 47 (by omega), m1 47 (by omega)]
  have f2 : M3 47 2 = 0 := by rw [← hM3, qup_at, if_pos rfl]
  have fL : cLand I 17 M3 := m2.congr (fun a ha => by rw [← hM3, qup_row (by omega), n1 a (by omega)])
  have fS : cSt I 27 M3 := n2.congr (fun a a0 a1 => by rw [← hM3, qup_row (by omega)])
  have e3 : (qup M3 215 0 0) 216 = M 216 := (qup_row (by decide)).trans (fr 216 (by omega) (by omega))
  refine QC.of qmX11_restore_ok rfl (TX11_restore_0 ⟨hi, m_within hi.to64 (i64 (by omega) (by omega)) (i64 (by omega) (by omega)) (fun _ => ⟨fun q => absurd q (by decide), fun _ => ⟨(i32 (by omega) (by omega)), (by omega), (by omega), ?_⟩⟩) (fun q => absurd (by omega) q)⟩)
  rw [show (qup M3 215 0 0) 217 = M 217 from (qup_row (by decide)).trans (fr 217 (by omega) (by omega))]
  refine ⟨fun q => absurd q z0, fun _ => ⟨(i32 (by omega) (by omega)), ?_⟩⟩
  refine m_restore_loop (M := qup M3 215 0 0) (A := M 216) i01 (fun M4 g1 g2 => hp _ _ ?_) 0 _ ⟨(by omega), (by omega), fun _ _ => rfl, fun j => by rw [e3, if_neg (by omega)]⟩
  have q6 : ∀ j, (qup M4 216 363 0) 216 j = if j = 363 then 0 else if 0 ≤ j ∧ j < 4375 then M 216 (j + 4375 * (i + 1)) else M 216 j := fun j => by rw [qup_at, g2]
  have q4 : ∀ a, a ≠ 215 → a ≠ 216 → (qup M4 216 363 0) a = M3 a := fun a a1 a2 => by rw [qup_row a2, g1 a a2, qup_row a1]
  have q5 : ∀ j, j ≠ 0 → (qup M4 216 363 0) 215 j = M 215 j := fun j hj => by rw [qup_row (by decide), g1 215 (by decide), qup_at, if_neg hj, fr 215 (by omega) (by omega)]
  generalize qup M4 216 363 0 = M5 at q4 q5 q6
  have fr5 : ∀ a, a ≠ 215 → a ≠ 216 → a ≠ 47 → a < 17 ∨ 36 < a → M5 a = M a := fun a a1 a2 a3 a4 => (q4 a a1 a2).trans (fr a a3 a4)
  have eI : ∀ j, 0 ≤ j → j < 4375 → j ≠ 363 → M5 216 j = I j := fun j j0 j1 j2 => by rw [q6, if_neg j2, if_pos ⟨j0, j1⟩, ← hI]; rfl
  obtain ⟨h1, h2, h3, h4, h5, h6, h7⟩ := hR
  refine ⟨⟨p1.img (fun j hj => eI j (by omega) (by omega) (by omega)), p2.congr (fun j hj => eI j (by omega) (by omega) (by omega)) p1, (fL.congr (fun a ha => q4 a (by omega) (by omega))).img p1 (fun j hj => eI j (by omega) (by omega) (by omega)), (fS.of_eq p1.2.2.1.2 p2.2.1.1 p2.2.2.2.1.2 (fun j hj => eI j (by omega) (by omega) (by omega))).congr (fun a a0 a1 => q4 a (by omega) (by omega))⟩, ⟨?_, ?_, ?_, fun k k0 k1 => ?_⟩, ⟨?_, ?_, ?_⟩, ⟨?_, ?_⟩, ?_, ?_, ?_⟩
  · rw [q6, if_pos rfl]; exact ⟨by decide, by decide⟩
  · rw [q6, if_pos rfl, q4 47 (by omega) (by omega)]; exact f2
  · rw [q4 47 (by omega) (by omega), f1]; exact h2.2.2.1
  · rw [q6, if_pos rfl] at k1; omega
  · rw [fr5 0 (by omega) (by omega) (by omega) (by omega)]; exact h3.1
  · rw [fr5 0 (by omega) (by omega) (by omega) (by omega), q5 5 (by omega)]; exact h3.2.1
  · rw [fr5 1 (by omega) (by omega) (by omega) (by omega), fr5 218 (by omega) (by omega) (by omega) (by omega)]; exact h3.2.2
  · rw [fr5 2 (by omega) (by omega) (by omega) (by omega), q5 13 (by omega)]; exact h4.1
  · rw [fr5 2 (by omega) (by omega) (by omega) (by omega), q5 14 (by omega)]; exact h4.2
  · exact h5.congr (fun a ha => fr5 a (by omega) (by omega) (by omega) (by omega))
  · exact (h6.congr (fun a ha => fr5 a (by omega) (by omega) (by omega) (by omega))).of_eq (fun j hj => by rw [q6, if_neg (by omega), if_neg (by omega)])
  · rw [q5 24 (by omega)]; exact h7
end Img72b
