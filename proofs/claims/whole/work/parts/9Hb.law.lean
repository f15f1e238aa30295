theorem xs_in {X : QX} {j : Nat} : in32 ((qxs X j).toInt) := ⟨Int32.minValue_le_toInt _, Int32.toInt_le _⟩
theorem lb {i k : Int} (h0 : 0 ≤ i) (hk : 0 ≤ k) : 0 ≤ i + k := by omega
theorem lu {i k n : Int} (h1 : i + 5 < n) (hk : k ≤ 5) : i + k < n := by omega
def lP : Int → QH → Prop := fun v _ => v = 1
section Law
variable {X : QX} {x i : Int} {d : Nat} {M : QMem}
set_option maxRecDepth 1000000 in
set_option maxHeartbeats 4000000 in
theorem l_feed (hR : Rel M) (h0 : 0 ≤ i) (h1 : i + 5 < (qxL X : Int)) (k : ∀ y N, Rel N → QR X (d + 41) (600000, 7302250) qmL_law lP (231, 37025) 1644 [(0, (2, -2)), (1, (2, 0)), (2, (2, 215)), (3, (0, i))] [] (qS y, N)) : QR X (d + 41) (600000, 7302250) qmL_law lP (231, 37025) 240 [(0, (2, -2)), (1, (2, 0)), (2, (2, 215)), (3, (0, i))] [] (qS x, M) :=
  qwp_ok qmL_ok [(1644, [0, 1, 2, 3])] 90 ⟨rfl, lb (k := 1) h0 (by decide), lu (k := 1) h1 (by decide), rfl, lb (k := 2) h0 (by decide), lu (k := 2) h1 (by decide), rfl, lb (k := 3) h0 (by decide), lu (k := 3) h1 (by decide), rfl, lb (k := 4) h0 (by decide), lu (k := 4) h1 (by decide), rfl, lb (k := 5) h0 (by decide), lu (k := 5) h1 (by decide), rfl, QC.mono (rel_feed (cont := fun a b N => a = b ∧ Rel N) hR (fun v N h => ⟨rfl, h⟩)) (fun x1 e1 u1 => by
    obtain ⟨M1, rfl, u1⟩ := u1
    exact ⟨rfl, lb (k := 1) h0 (by decide), lu (k := 1) h1 (by decide), rfl, lb (k := 2) h0 (by decide), lu (k := 2) h1 (by decide), rfl, lb (k := 3) h0 (by decide), lu (k := 3) h1 (by decide), rfl, lb (k := 4) h0 (by decide), lu (k := 4) h1 (by decide), rfl, lb (k := 5) h0 (by decide), lu (k := 5) h1 (by decide), rfl, QC.mono u1 (fun x2 e2 u2 => by
      obtain ⟨M2, rfl, u2⟩ := u2
      exact ⟨fun _ => k _ _ u2.2, fun z => absurd u2.1 z⟩)⟩)⟩
set_option maxRecDepth 1000000 in
set_option maxHeartbeats 4000000 in
theorem l_land (hR : Rel M) (h0 : 0 ≤ i) (h1 : i + 5 < (qxL X : Int)) (k : ∀ y N, Rel N → QR X (d + 41) (600000, 7302250) qmL_law lP (231, 37025) 1644 [(0, (2, -2)), (1, (2, 0)), (2, (2, 215)), (3, (0, i))] [] (qS y, N)) : QR X (d + 41) (600000, 7302250) qmL_law lP (231, 37025) 303 [(0, (2, -2)), (1, (2, 0)), (2, (2, 215)), (3, (0, i))] [] (qS x, M) :=
  qwp_ok qmL_ok [(1644, [0, 1, 2, 3])] 90 ⟨rfl, lb (k := 1) h0 (by decide), lu (k := 1) h1 (by decide), rfl, QC.mono (rel_land (cont := fun a b _ N => a = b ∧ Rel N) hR xs_in (fun v y N h => ⟨rfl, h⟩)) (fun x1 e1 u1 => by
    obtain ⟨y, M1, rfl, u1⟩ := u1
    exact ⟨rfl, lb (k := 1) h0 (by decide), lu (k := 1) h1 (by decide), rfl, QC.mono u1 (fun x2 e2 u2 => by
      obtain ⟨M2, rfl, u2⟩ := u2
      exact ⟨fun _ => k _ _ u2.2, fun z => absurd u2.1 z⟩)⟩)⟩
set_option maxRecDepth 1000000 in
set_option maxHeartbeats 4000000 in
theorem l_fault (hR : Rel M) (h0 : 0 ≤ i) (h1 : i + 5 < (qxL X : Int)) (k : ∀ y N, Rel N → QR X (d + 41) (600000, 7302250) qmL_law lP (231, 37025) 1644 [(0, (2, -2)), (1, (2, 0)), (2, (2, 215)), (3, (0, i))] [] (qS y, N)) : QR X (d + 41) (600000, 7302250) qmL_law lP (231, 37025) 326 [(0, (2, -2)), (1, (2, 0)), (2, (2, 215)), (3, (0, i))] [] (qS x, M) :=
  qwp_ok qmL_ok [(1644, [0, 1, 2, 3])] 90 ⟨rfl, lb (k := 1) h0 (by decide), lu (k := 1) h1 (by decide), rfl, QC.mono (rel_fault (cont := fun a b N => a = b ∧ Rel N) hR xs_in (fun v N h => ⟨rfl, h⟩)) (fun x1 e1 u1 => by
    obtain ⟨M1, rfl, u1⟩ := u1
    exact ⟨rfl, lb (k := 1) h0 (by decide), lu (k := 1) h1 (by decide), rfl, QC.mono u1 (fun x2 e2 u2 => by
      obtain ⟨M2, rfl, u2⟩ := u2
      exact ⟨fun _ => k _ _ u2.2, fun z => absurd u2.1 z⟩)⟩)⟩
set_option maxRecDepth 1000000 in
set_option maxHeartbeats 4000000 in
theorem l_cell (hR : Rel M) (h0 : 0 ≤ i) (h1 : i + 5 < (qxL X : Int)) (k : ∀ y N, Rel N → QR X (d + 41) (600000, 7302250) qmL_law lP (231, 37025) 1644 [(0, (2, -2)), (1, (2, 0)), (2, (2, 215)), (3, (0, i))] [] (qS y, N)) : QR X (d + 41) (600000, 7302250) qmL_law lP (231, 37025) 349 [(0, (2, -2)), (1, (2, 0)), (2, (2, 215)), (3, (0, i))] [] (qS x, M) :=
  qwp_ok qmL_ok [(1644, [0, 1, 2, 3])] 90 ⟨rfl, lb (k := 1) h0 (by decide), lu (k := 1) h1 (by decide), rfl, lb (k := 2) h0 (by decide), lu (k := 2) h1 (by decide), rfl, QC.mono (rel_cell (cont := fun a b N => a = b ∧ Rel N) hR xs_in xs_in (fun v N h => ⟨rfl, h⟩)) (fun x1 e1 u1 => by
    obtain ⟨M1, rfl, u1⟩ := u1
    exact ⟨rfl, lb (k := 1) h0 (by decide), lu (k := 1) h1 (by decide), rfl, lb (k := 2) h0 (by decide), lu (k := 2) h1 (by decide), rfl, QC.mono u1 (fun x2 e2 u2 => by
      obtain ⟨M2, rfl, u2⟩ := u2
      exact ⟨fun _ => k _ _ u2.2, fun z => absurd u2.1 z⟩)⟩)⟩
set_option maxRecDepth 1000000 in
set_option maxHeartbeats 4000000 in
theorem l_drum (hR : Rel M) (h0 : 0 ≤ i) (h1 : i + 5 < (qxL X : Int)) (k : ∀ y N, Rel N → QR X (d + 41) (600000, 7302250) qmL_law lP (231, 37025) 1644 [(0, (2, -2)), (1, (2, 0)), (2, (2, 215)), (3, (0, i))] [] (qS y, N)) : QR X (d + 41) (600000, 7302250) qmL_law lP (231, 37025) 382 [(0, (2, -2)), (1, (2, 0)), (2, (2, 215)), (3, (0, i))] [] (qS x, M) :=
  qwp_ok qmL_ok [(1644, [0, 1, 2, 3])] 90 ⟨rfl, lb (k := 1) h0 (by decide), lu (k := 1) h1 (by decide), rfl, lb (k := 2) h0 (by decide), lu (k := 2) h1 (by decide), rfl, QC.mono (rel_drum (cont := fun a b N => a = b ∧ Rel N) hR xs_in xs_in (fun v N h => ⟨rfl, h⟩)) (fun x1 e1 u1 => by
    obtain ⟨M1, rfl, u1⟩ := u1
    exact ⟨rfl, lb (k := 1) h0 (by decide), lu (k := 1) h1 (by decide), rfl, lb (k := 2) h0 (by decide), lu (k := 2) h1 (by decide), rfl, QC.mono u1 (fun x2 e2 u2 => by
      obtain ⟨M2, rfl, u2⟩ := u2
      exact ⟨fun _ => k _ _ u2.2, fun z => absurd u2.1 z⟩)⟩)⟩
set_option maxRecDepth 1000000 in
set_option maxHeartbeats 4000000 in
theorem l_lies (hR : Rel M) (h0 : 0 ≤ i) (h1 : i + 5 < (qxL X : Int)) (k : ∀ y N, Rel N → QR X (d + 41) (600000, 7302250) qmL_law lP (231, 37025) 1644 [(0, (2, -2)), (1, (2, 0)), (2, (2, 215)), (3, (0, i))] [] (qS y, N)) : QR X (d + 41) (600000, 7302250) qmL_law lP (231, 37025) 415 [(0, (2, -2)), (1, (2, 0)), (2, (2, 215)), (3, (0, i))] [] (qS x, M) :=
  qwp_ok qmL_ok [(1644, [0, 1, 2, 3])] 90 ⟨rfl, lb (k := 1) h0 (by decide), lu (k := 1) h1 (by decide), rfl, lb (k := 2) h0 (by decide), lu (k := 2) h1 (by decide), rfl, QC.mono (rel_lies (cont := fun a b N => a = b ∧ Rel N) hR xs_in xs_in (fun v N h => ⟨rfl, h⟩)) (fun x1 e1 u1 => by
    obtain ⟨M1, rfl, u1⟩ := u1
    exact ⟨rfl, lb (k := 1) h0 (by decide), lu (k := 1) h1 (by decide), rfl, lb (k := 2) h0 (by decide), lu (k := 2) h1 (by decide), rfl, QC.mono u1 (fun x2 e2 u2 => by
      obtain ⟨M2, rfl, u2⟩ := u2
      exact ⟨fun _ => k _ _ u2.2, fun z => absurd u2.1 z⟩)⟩)⟩
set_option maxRecDepth 1000000 in
set_option maxHeartbeats 4000000 in
theorem l_traveller (hR : Rel M) (h0 : 0 ≤ i) (h1 : i + 5 < (qxL X : Int)) (k : ∀ y N, Rel N → QR X (d + 41) (600000, 7302250) qmL_law lP (231, 37025) 1644 [(0, (2, -2)), (1, (2, 0)), (2, (2, 215)), (3, (0, i))] [] (qS y, N)) : QR X (d + 41) (600000, 7302250) qmL_law lP (231, 37025) 448 [(0, (2, -2)), (1, (2, 0)), (2, (2, 215)), (3, (0, i))] [] (qS x, M) :=
  qwp_ok qmL_ok [(1644, [0, 1, 2, 3])] 90 ⟨rfl, lb (k := 1) h0 (by decide), lu (k := 1) h1 (by decide), rfl, lb (k := 2) h0 (by decide), lu (k := 2) h1 (by decide), rfl, QC.mono (rel_traveller (cont := fun a b N => a = b ∧ Rel N) hR xs_in xs_in (fun v N h => ⟨rfl, h⟩)) (fun x1 e1 u1 => by
    obtain ⟨M1, rfl, u1⟩ := u1
    exact ⟨rfl, lb (k := 1) h0 (by decide), lu (k := 1) h1 (by decide), rfl, lb (k := 2) h0 (by decide), lu (k := 2) h1 (by decide), rfl, QC.mono u1 (fun x2 e2 u2 => by
      obtain ⟨M2, rfl, u2⟩ := u2
      exact ⟨fun _ => k _ _ u2.2, fun z => absurd u2.1 z⟩)⟩)⟩
set_option maxRecDepth 1000000 in
set_option maxHeartbeats 4000000 in
theorem l_takes (hR : Rel M) (h0 : 0 ≤ i) (h1 : i + 5 < (qxL X : Int)) (k : ∀ y N, Rel N → QR X (d + 41) (600000, 7302250) qmL_law lP (231, 37025) 1644 [(0, (2, -2)), (1, (2, 0)), (2, (2, 215)), (3, (0, i))] [] (qS y, N)) : QR X (d + 41) (600000, 7302250) qmL_law lP (231, 37025) 481 [(0, (2, -2)), (1, (2, 0)), (2, (2, 215)), (3, (0, i))] [] (qS x, M) :=
  qwp_ok qmL_ok [(1644, [0, 1, 2, 3])] 90 ⟨rfl, lb (k := 1) h0 (by decide), lu (k := 1) h1 (by decide), rfl, lb (k := 2) h0 (by decide), lu (k := 2) h1 (by decide), rfl, QC.mono (rel_takes (cont := fun a b N => a = b ∧ Rel N) hR xs_in xs_in (fun v N h => ⟨rfl, h⟩)) (fun x1 e1 u1 => by
    obtain ⟨M1, rfl, u1⟩ := u1
    exact ⟨rfl, lb (k := 1) h0 (by decide), lu (k := 1) h1 (by decide), rfl, lb (k := 2) h0 (by decide), lu (k := 2) h1 (by decide), rfl, QC.mono u1 (fun x2 e2 u2 => by
      obtain ⟨M2, rfl, u2⟩ := u2
      exact ⟨fun _ => k _ _ u2.2, fun z => absurd u2.1 z⟩)⟩)⟩
set_option maxRecDepth 1000000 in
set_option maxHeartbeats 4000000 in
theorem l_why (hR : Rel M) (h0 : 0 ≤ i) (h1 : i + 5 < (qxL X : Int)) (k : ∀ y N, Rel N → QR X (d + 41) (600000, 7302250) qmL_law lP (231, 37025) 1644 [(0, (2, -2)), (1, (2, 0)), (2, (2, 215)), (3, (0, i))] [] (qS y, N)) : QR X (d + 41) (600000, 7302250) qmL_law lP (231, 37025) 514 [(0, (2, -2)), (1, (2, 0)), (2, (2, 215)), (3, (0, i))] [] (qS x, M) :=
  qwp_ok qmL_ok [(1644, [0, 1, 2, 3])] 90 ⟨rfl, lb (k := 1) h0 (by decide), lu (k := 1) h1 (by decide), rfl, lb (k := 2) h0 (by decide), lu (k := 2) h1 (by decide), rfl, QC.mono (rel_why (cont := fun a b N => a = b ∧ Rel N) hR xs_in xs_in (fun v N h => ⟨rfl, h⟩)) (fun x1 e1 u1 => by
    obtain ⟨M1, rfl, u1⟩ := u1
    exact ⟨rfl, lb (k := 1) h0 (by decide), lu (k := 1) h1 (by decide), rfl, lb (k := 2) h0 (by decide), lu (k := 2) h1 (by decide), rfl, QC.mono u1 (fun x2 e2 u2 => by
      obtain ⟨M2, rfl, u2⟩ := u2
      exact ⟨fun _ => k _ _ u2.2, fun z => absurd u2.1 z⟩)⟩)⟩
set_option maxRecDepth 1000000 in
set_option maxHeartbeats 4000000 in
theorem l_lay (hR : Rel M) (h0 : 0 ≤ i) (h1 : i + 5 < (qxL X : Int)) (k : ∀ y N, Rel N → QR X (d + 41) (600000, 7302250) qmL_law lP (231, 37025) 1644 [(0, (2, -2)), (1, (2, 0)), (2, (2, 215)), (3, (0, i))] [] (qS y, N)) : QR X (d + 41) (600000, 7302250) qmL_law lP (231, 37025) 547 [(0, (2, -2)), (1, (2, 0)), (2, (2, 215)), (3, (0, i))] [] (qS x, M) :=
  qwp_ok qmL_ok [(1644, [0, 1, 2, 3])] 60 ⟨rfl, lb (k := 1) h0 (by decide), lu (k := 1) h1 (by decide), rfl, lb (k := 2) h0 (by decide), lu (k := 2) h1 (by decide), rfl, lb (k := 3) h0 (by decide), lu (k := 3) h1 (by decide), fun z => ⟨rfl, QC.mono (rel_lay (cont := fun a b N => a = b ∧ Rel N) (o := 0) hR xs_in xs_in (i32 (by decide) (by decide)) (fun v N h => ⟨rfl, h⟩)) (fun x1 e1 u1 => by
    obtain ⟨M1, rfl, u1⟩ := u1
    exact ⟨rfl, lb (k := 1) h0 (by decide), lu (k := 1) h1 (by decide), rfl, lb (k := 2) h0 (by decide), lu (k := 2) h1 (by decide), rfl, lb (k := 3) h0 (by decide), lu (k := 3) h1 (by decide), fun z2 => ⟨rfl, QC.mono u1 (fun x2 e2 u2 => by
      obtain ⟨M2, rfl, u2⟩ := u2
      exact ⟨fun _ => k _ _ u2.2, fun z => absurd u2.1 z⟩)⟩, fun z2 => absurd z z2⟩)⟩, fun z => ⟨xs_in, i32 (by decide) (by decide), rfl, QC.mono (rel_lay (cont := fun a b N => a = b ∧ Rel N) (o := 1) hR xs_in xs_in (i32 (by decide) (by decide)) (fun v N h => ⟨rfl, h⟩)) (fun x1 e1 u1 => by
    obtain ⟨M1, rfl, u1⟩ := u1
    exact ⟨rfl, lb (k := 1) h0 (by decide), lu (k := 1) h1 (by decide), rfl, lb (k := 2) h0 (by decide), lu (k := 2) h1 (by decide), rfl, lb (k := 3) h0 (by decide), lu (k := 3) h1 (by decide), fun z2 => absurd z2 z, fun z2 => ⟨xs_in, i32 (by decide) (by decide), rfl, QC.mono u1 (fun x2 e2 u2 => by
      obtain ⟨M2, rfl, u2⟩ := u2
      exact ⟨fun _ => k _ _ u2.2, fun z => absurd u2.1 z⟩)⟩⟩)⟩⟩
set_option maxRecDepth 1000000 in
set_option maxHeartbeats 4000000 in
theorem l_back (hR : Rel M) (h0 : 0 ≤ i) (h1 : i + 5 < (qxL X : Int)) (k : ∀ y N, Rel N → QR X (d + 41) (600000, 7302250) qmL_law lP (231, 37025) 1644 [(0, (2, -2)), (1, (2, 0)), (2, (2, 215)), (3, (0, i))] [] (qS y, N)) : QR X (d + 41) (600000, 7302250) qmL_law lP (231, 37025) 606 [(0, (2, -2)), (1, (2, 0)), (2, (2, 215)), (3, (0, i))] [] (qS x, M) :=
  qwp_ok qmL_ok [(1644, [0, 1, 2, 3])] 90 ⟨rfl, lb (k := 1) h0 (by decide), lu (k := 1) h1 (by decide), rfl, QC.mono (rel_back (cont := fun a b N => a = b ∧ Rel N) hR xs_in (fun v N h => ⟨rfl, h⟩)) (fun x1 e1 u1 => by
    obtain ⟨M1, rfl, u1⟩ := u1
    exact ⟨rfl, lb (k := 1) h0 (by decide), lu (k := 1) h1 (by decide), rfl, QC.mono u1 (fun x2 e2 u2 => by
      obtain ⟨M2, rfl, u2⟩ := u2
      exact ⟨fun _ => k _ _ u2.2, fun z => absurd u2.1 z⟩)⟩)⟩
set_option maxRecDepth 1000000 in
set_option maxHeartbeats 4000000 in
theorem l_takeIn (hR : Rel M) (h0 : 0 ≤ i) (h1 : i + 5 < (qxL X : Int)) (k : ∀ y N, Rel N → QR X (d + 41) (600000, 7302250) qmL_law lP (231, 37025) 1644 [(0, (2, -2)), (1, (2, 0)), (2, (2, 215)), (3, (0, i))] [] (qS y, N)) : QR X (d + 41) (600000, 7302250) qmL_law lP (231, 37025) 629 [(0, (2, -2)), (1, (2, 0)), (2, (2, 215)), (3, (0, i))] [] (qS x, M) :=
  qwp_ok qmL_ok [(1644, [0, 1, 2, 3])] 90 ⟨rfl, lb (k := 1) h0 (by decide), lu (k := 1) h1 (by decide), rfl, QC.mono (rel_takeIn (cont := fun a b N => a = b ∧ Rel N) hR xs_in (fun v N h => ⟨rfl, h⟩)) (fun x1 e1 u1 => by
    obtain ⟨M1, rfl, u1⟩ := u1
    exact ⟨rfl, lb (k := 1) h0 (by decide), lu (k := 1) h1 (by decide), rfl, QC.mono u1 (fun x2 e2 u2 => by
      obtain ⟨M2, rfl, u2⟩ := u2
      exact ⟨fun _ => k _ _ u2.2, fun z => absurd u2.1 z⟩)⟩)⟩
set_option maxRecDepth 1000000 in
set_option maxHeartbeats 4000000 in
theorem l_setOut (hR : Rel M) (h0 : 0 ≤ i) (h1 : i + 5 < (qxL X : Int)) (k : ∀ y N, Rel N → QR X (d + 41) (600000, 7302250) qmL_law lP (231, 37025) 1644 [(0, (2, -2)), (1, (2, 0)), (2, (2, 215)), (3, (0, i))] [] (qS y, N)) : QR X (d + 41) (600000, 7302250) qmL_law lP (231, 37025) 652 [(0, (2, -2)), (1, (2, 0)), (2, (2, 215)), (3, (0, i))] [] (qS x, M) :=
  qwp_ok qmL_ok [(1644, [0, 1, 2, 3])] 90 ⟨rfl, lb (k := 1) h0 (by decide), lu (k := 1) h1 (by decide), rfl, QC.mono (rel_setOut (cont := fun a b N => a = b ∧ Rel N) hR xs_in (fun v N h => ⟨rfl, h⟩)) (fun x1 e1 u1 => by
    obtain ⟨M1, rfl, u1⟩ := u1
    exact ⟨rfl, lb (k := 1) h0 (by decide), lu (k := 1) h1 (by decide), rfl, QC.mono u1 (fun x2 e2 u2 => by
      obtain ⟨M2, rfl, u2⟩ := u2
      exact ⟨fun _ => k _ _ u2.2, fun z => absurd u2.1 z⟩)⟩)⟩
set_option maxRecDepth 1000000 in
set_option maxHeartbeats 4000000 in
theorem l_turn (hR : Rel M) (h0 : 0 ≤ i) (h1 : i + 5 < (qxL X : Int)) (k : ∀ y N, Rel N → QR X (d + 41) (600000, 7302250) qmL_law lP (231, 37025) 1644 [(0, (2, -2)), (1, (2, 0)), (2, (2, 215)), (3, (0, i))] [] (qS y, N)) : QR X (d + 41) (600000, 7302250) qmL_law lP (231, 37025) 675 [(0, (2, -2)), (1, (2, 0)), (2, (2, 215)), (3, (0, i))] [] (qS x, M) :=
  qwp_ok qmL_ok [(1644, [0, 1, 2, 3])] 90 ⟨rfl, lb (k := 1) h0 (by decide), lu (k := 1) h1 (by decide), rfl, QC.mono (rel_turn (cont := fun a b N => a = b ∧ Rel N) hR xs_in (fun v N h => ⟨rfl, h⟩)) (fun x1 e1 u1 => by
    obtain ⟨M1, rfl, u1⟩ := u1
    exact ⟨rfl, lb (k := 1) h0 (by decide), lu (k := 1) h1 (by decide), rfl, QC.mono u1 (fun x2 e2 u2 => by
      obtain ⟨M2, rfl, u2⟩ := u2
      exact ⟨fun _ => k _ _ u2.2, fun z => absurd u2.1 z⟩)⟩)⟩
set_option maxRecDepth 1000000 in
set_option maxHeartbeats 4000000 in
theorem l_rain (hR : Rel M) (h0 : 0 ≤ i) (h1 : i + 5 < (qxL X : Int)) (k : ∀ y N, Rel N → QR X (d + 41) (600000, 7302250) qmL_law lP (231, 37025) 1644 [(0, (2, -2)), (1, (2, 0)), (2, (2, 215)), (3, (0, i))] [] (qS y, N)) : QR X (d + 41) (600000, 7302250) qmL_law lP (231, 37025) 698 [(0, (2, -2)), (1, (2, 0)), (2, (2, 215)), (3, (0, i))] [] (qS x, M) :=
  qwp_ok qmL_ok [(1644, [0, 1, 2, 3])] 90 ⟨rfl, lb (k := 1) h0 (by decide), lu (k := 1) h1 (by decide), rfl, QC.mono (rel_rain (cont := fun a b N => a = b ∧ Rel N) hR xs_in (fun v N h => ⟨rfl, h⟩)) (fun x1 e1 u1 => by
    obtain ⟨M1, rfl, u1⟩ := u1
    exact ⟨rfl, lb (k := 1) h0 (by decide), lu (k := 1) h1 (by decide), rfl, QC.mono u1 (fun x2 e2 u2 => by
      obtain ⟨M2, rfl, u2⟩ := u2
      exact ⟨fun _ => k _ _ u2.2, fun z => absurd u2.1 z⟩)⟩)⟩
set_option maxRecDepth 1000000 in
set_option maxHeartbeats 4000000 in
theorem l_hours (hR : Rel M) (h0 : 0 ≤ i) (h1 : i + 5 < (qxL X : Int)) (k : ∀ y N, Rel N → QR X (d + 41) (600000, 7302250) qmL_law lP (231, 37025) 1644 [(0, (2, -2)), (1, (2, 0)), (2, (2, 215)), (3, (0, i))] [] (qS y, N)) : QR X (d + 41) (600000, 7302250) qmL_law lP (231, 37025) 721 [(0, (2, -2)), (1, (2, 0)), (2, (2, 215)), (3, (0, i))] [] (qS x, M) :=
  qwp_ok qmL_ok [(1644, [0, 1, 2, 3])] 90 ⟨rfl, lb (k := 1) h0 (by decide), lu (k := 1) h1 (by decide), rfl, QC.mono (rel_hours (cont := fun a b N => a = b ∧ Rel N) hR xs_in (fun v N h => ⟨rfl, h⟩)) (fun x1 e1 u1 => by
    obtain ⟨M1, rfl, u1⟩ := u1
    exact ⟨rfl, lb (k := 1) h0 (by decide), lu (k := 1) h1 (by decide), rfl, QC.mono u1 (fun x2 e2 u2 => by
      obtain ⟨M2, rfl, u2⟩ := u2
      exact ⟨fun _ => k _ _ u2.2, fun z => absurd u2.1 z⟩)⟩)⟩
set_option maxRecDepth 1000000 in
set_option maxHeartbeats 4000000 in
theorem l_undo (hR : Rel M) (h0 : 0 ≤ i) (h1 : i + 5 < (qxL X : Int)) (k : ∀ y N, Rel N → QR X (d + 41) (600000, 7302250) qmL_law lP (231, 37025) 1644 [(0, (2, -2)), (1, (2, 0)), (2, (2, 215)), (3, (0, i))] [] (qS y, N)) : QR X (d + 41) (600000, 7302250) qmL_law lP (231, 37025) 744 [(0, (2, -2)), (1, (2, 0)), (2, (2, 215)), (3, (0, i))] [] (qS x, M) :=
  qwp_ok qmL_ok [(1644, [0, 1, 2, 3])] 90 ⟨rfl, lb (k := 1) h0 (by decide), lu (k := 1) h1 (by decide), rfl, QC.mono (rel_undo (cont := fun a b N => a = b ∧ Rel N) hR xs_in (fun v N h => ⟨rfl, h⟩)) (fun x1 e1 u1 => by
    obtain ⟨M1, rfl, u1⟩ := u1
    exact ⟨rfl, lb (k := 1) h0 (by decide), lu (k := 1) h1 (by decide), rfl, QC.mono u1 (fun x2 e2 u2 => by
      obtain ⟨M2, rfl, u2⟩ := u2
      exact ⟨fun _ => k _ _ u2.2, fun z => absurd u2.1 z⟩)⟩)⟩
set_option maxRecDepth 1000000 in
set_option maxHeartbeats 4000000 in
theorem l_judge (hR : Rel M) (h0 : 0 ≤ i) (h1 : i + 5 < (qxL X : Int)) (k : ∀ y N, Rel N → QR X (d + 41) (600000, 7302250) qmL_law lP (231, 37025) 1644 [(0, (2, -2)), (1, (2, 0)), (2, (2, 215)), (3, (0, i))] [] (qS y, N)) : QR X (d + 41) (600000, 7302250) qmL_law lP (231, 37025) 767 [(0, (2, -2)), (1, (2, 0)), (2, (2, 215)), (3, (0, i))] [] (qS x, M) :=
  qwp_ok qmL_ok [(1644, [0, 1, 2, 3])] 90 ⟨rfl, lb (k := 1) h0 (by decide), lu (k := 1) h1 (by decide), rfl, lb (k := 2) h0 (by decide), lu (k := 2) h1 (by decide), rfl, QC.mono (rel_judge (cont := fun a b N => a = b ∧ Rel N) hR xs_in xs_in (fun v N h => ⟨rfl, h⟩)) (fun x1 e1 u1 => by
    obtain ⟨M1, rfl, u1⟩ := u1
    exact ⟨rfl, lb (k := 1) h0 (by decide), lu (k := 1) h1 (by decide), rfl, lb (k := 2) h0 (by decide), lu (k := 2) h1 (by decide), rfl, QC.mono u1 (fun x2 e2 u2 => by
      obtain ⟨M2, rfl, u2⟩ := u2
      exact ⟨fun _ => k _ _ u2.2, fun z => absurd u2.1 z⟩)⟩)⟩
set_option maxRecDepth 1000000 in
set_option maxHeartbeats 4000000 in
theorem l_perform (hR : Rel M) (h0 : 0 ≤ i) (h1 : i + 5 < (qxL X : Int)) (k : ∀ y N, Rel N → QR X (d + 41) (600000, 7302250) qmL_law lP (231, 37025) 1644 [(0, (2, -2)), (1, (2, 0)), (2, (2, 215)), (3, (0, i))] [] (qS y, N)) : QR X (d + 41) (600000, 7302250) qmL_law lP (231, 37025) 800 [(0, (2, -2)), (1, (2, 0)), (2, (2, 215)), (3, (0, i))] [] (qS x, M) :=
  qwp_ok qmL_ok [(1644, [0, 1, 2, 3])] 90 ⟨rfl, lb (k := 1) h0 (by decide), lu (k := 1) h1 (by decide), rfl, QC.mono (rel_perform (cont := fun a b N => a = b ∧ Rel N) hR xs_in (fun v N h => ⟨rfl, h⟩)) (fun x1 e1 u1 => by
    obtain ⟨M1, rfl, u1⟩ := u1
    exact ⟨rfl, lb (k := 1) h0 (by decide), lu (k := 1) h1 (by decide), rfl, QC.mono u1 (fun x2 e2 u2 => by
      obtain ⟨M2, rfl, u2⟩ := u2
      exact ⟨fun _ => k _ _ u2.2, fun z => absurd u2.1 z⟩)⟩)⟩
set_option maxRecDepth 1000000 in
set_option maxHeartbeats 4000000 in
theorem l_season (hR : Rel M) (h0 : 0 ≤ i) (h1 : i + 5 < (qxL X : Int)) (k : ∀ y N, Rel N → QR X (d + 41) (600000, 7302250) qmL_law lP (231, 37025) 1644 [(0, (2, -2)), (1, (2, 0)), (2, (2, 215)), (3, (0, i))] [] (qS y, N)) : QR X (d + 41) (600000, 7302250) qmL_law lP (231, 37025) 823 [(0, (2, -2)), (1, (2, 0)), (2, (2, 215)), (3, (0, i))] [] (qS x, M) :=
  qwp_ok qmL_ok [(1644, [0, 1, 2, 3])] 90 ⟨rfl, lb (k := 1) h0 (by decide), lu (k := 1) h1 (by decide), rfl, lb (k := 2) h0 (by decide), lu (k := 2) h1 (by decide), rfl, QC.mono (rel_season (cont := fun a b N => a = b ∧ Rel N) hR xs_in xs_in (fun v N h => ⟨rfl, h⟩)) (fun x1 e1 u1 => by
    obtain ⟨M1, rfl, u1⟩ := u1
    exact ⟨rfl, lb (k := 1) h0 (by decide), lu (k := 1) h1 (by decide), rfl, lb (k := 2) h0 (by decide), lu (k := 2) h1 (by decide), rfl, QC.mono u1 (fun x2 e2 u2 => by
      obtain ⟨M2, rfl, u2⟩ := u2
      exact ⟨fun _ => k _ _ u2.2, fun z => absurd u2.1 z⟩)⟩)⟩
set_option maxRecDepth 1000000 in
set_option maxHeartbeats 4000000 in
theorem l_reach (hR : Rel M) (h0 : 0 ≤ i) (h1 : i + 5 < (qxL X : Int)) (k : ∀ y N, Rel N → QR X (d + 41) (600000, 7302250) qmL_law lP (231, 37025) 1644 [(0, (2, -2)), (1, (2, 0)), (2, (2, 215)), (3, (0, i))] [] (qS y, N)) : QR X (d + 41) (600000, 7302250) qmL_law lP (231, 37025) 856 [(0, (2, -2)), (1, (2, 0)), (2, (2, 215)), (3, (0, i))] [] (qS x, M) :=
  qwp_ok qmL_ok [(1644, [0, 1, 2, 3])] 90 ⟨rfl, lb (k := 1) h0 (by decide), lu (k := 1) h1 (by decide), rfl, QC.mono (rel_reach (cont := fun a b N => a = b ∧ Rel N) hR xs_in (fun v N h => ⟨rfl, h⟩)) (fun x1 e1 u1 => by
    obtain ⟨M1, rfl, u1⟩ := u1
    exact ⟨rfl, lb (k := 1) h0 (by decide), lu (k := 1) h1 (by decide), rfl, QC.mono u1 (fun x2 e2 u2 => by
      obtain ⟨M2, rfl, u2⟩ := u2
      exact ⟨fun _ => k _ _ u2.2, fun z => absurd u2.1 z⟩)⟩)⟩
set_option maxRecDepth 1000000 in
set_option maxHeartbeats 4000000 in
theorem l_fewest (hR : Rel M) (h0 : 0 ≤ i) (h1 : i + 5 < (qxL X : Int)) (k : ∀ y N, Rel N → QR X (d + 41) (600000, 7302250) qmL_law lP (231, 37025) 1644 [(0, (2, -2)), (1, (2, 0)), (2, (2, 215)), (3, (0, i))] [] (qS y, N)) : QR X (d + 41) (600000, 7302250) qmL_law lP (231, 37025) 880 [(0, (2, -2)), (1, (2, 0)), (2, (2, 215)), (3, (0, i))] [] (qS x, M) :=
  qwp_ok qmL_ok [(1644, [0, 1, 2, 3])] 90 ⟨rfl, lb (k := 1) h0 (by decide), lu (k := 1) h1 (by decide), rfl, lb (k := 2) h0 (by decide), lu (k := 2) h1 (by decide), rfl, QC.mono (rel_fewest (cont := fun a b N => a = b ∧ Rel N) hR xs_in xs_in (fun v N h => ⟨rfl, h⟩)) (fun x1 e1 u1 => by
    obtain ⟨M1, rfl, u1⟩ := u1
    exact ⟨rfl, lb (k := 1) h0 (by decide), lu (k := 1) h1 (by decide), rfl, lb (k := 2) h0 (by decide), lu (k := 2) h1 (by decide), rfl, QC.mono u1 (fun x2 e2 u2 => by
      obtain ⟨M2, rfl, u2⟩ := u2
      exact ⟨fun _ => k _ _ u2.2, fun z => absurd u2.1 z⟩)⟩)⟩
set_option maxRecDepth 1000000 in
set_option maxHeartbeats 4000000 in
theorem l_way (hR : Rel M) (h0 : 0 ≤ i) (h1 : i + 5 < (qxL X : Int)) (k : ∀ y N, Rel N → QR X (d + 41) (600000, 7302250) qmL_law lP (231, 37025) 1644 [(0, (2, -2)), (1, (2, 0)), (2, (2, 215)), (3, (0, i))] [] (qS y, N)) : QR X (d + 41) (600000, 7302250) qmL_law lP (231, 37025) 913 [(0, (2, -2)), (1, (2, 0)), (2, (2, 215)), (3, (0, i))] [] (qS x, M) :=
  qwp_ok qmL_ok [(1644, [0, 1, 2, 3])] 90 ⟨rfl, lb (k := 1) h0 (by decide), lu (k := 1) h1 (by decide), rfl, lb (k := 2) h0 (by decide), lu (k := 2) h1 (by decide), rfl, lb (k := 3) h0 (by decide), lu (k := 3) h1 (by decide), rfl, QC.mono (rel_way (cont := fun a b N => a = b ∧ Rel N) hR xs_in xs_in xs_in (fun v N h => ⟨rfl, h⟩)) (fun x1 e1 u1 => by
    obtain ⟨M1, rfl, u1⟩ := u1
    exact ⟨rfl, lb (k := 1) h0 (by decide), lu (k := 1) h1 (by decide), rfl, lb (k := 2) h0 (by decide), lu (k := 2) h1 (by decide), rfl, lb (k := 3) h0 (by decide), lu (k := 3) h1 (by decide), rfl, QC.mono u1 (fun x2 e2 u2 => by
      obtain ⟨M2, rfl, u2⟩ := u2
      exact ⟨fun _ => k _ _ u2.2, fun z => absurd u2.1 z⟩)⟩)⟩
set_option maxRecDepth 1000000 in
set_option maxHeartbeats 4000000 in
theorem l_ways (hR : Rel M) (h0 : 0 ≤ i) (h1 : i + 5 < (qxL X : Int)) (k : ∀ y N, Rel N → QR X (d + 41) (600000, 7302250) qmL_law lP (231, 37025) 1644 [(0, (2, -2)), (1, (2, 0)), (2, (2, 215)), (3, (0, i))] [] (qS y, N)) : QR X (d + 41) (600000, 7302250) qmL_law lP (231, 37025) 956 [(0, (2, -2)), (1, (2, 0)), (2, (2, 215)), (3, (0, i))] [] (qS x, M) :=
  qwp_ok qmL_ok [(1644, [0, 1, 2, 3])] 90 ⟨rfl, lb (k := 1) h0 (by decide), lu (k := 1) h1 (by decide), rfl, lb (k := 2) h0 (by decide), lu (k := 2) h1 (by decide), rfl, lb (k := 3) h0 (by decide), lu (k := 3) h1 (by decide), rfl, QC.mono (rel_ways (cont := fun a b N => a = b ∧ Rel N) hR xs_in xs_in xs_in (fun v N h => ⟨rfl, h⟩)) (fun x1 e1 u1 => by
    obtain ⟨M1, rfl, u1⟩ := u1
    exact ⟨rfl, lb (k := 1) h0 (by decide), lu (k := 1) h1 (by decide), rfl, lb (k := 2) h0 (by decide), lu (k := 2) h1 (by decide), rfl, lb (k := 3) h0 (by decide), lu (k := 3) h1 (by decide), rfl, QC.mono u1 (fun x2 e2 u2 => by
      obtain ⟨M2, rfl, u2⟩ := u2
      exact ⟨fun _ => k _ _ u2.2, fun z => absurd u2.1 z⟩)⟩)⟩
set_option maxRecDepth 1000000 in
set_option maxHeartbeats 4000000 in
theorem l_crossings (hR : Rel M) (h0 : 0 ≤ i) (h1 : i + 5 < (qxL X : Int)) (k : ∀ y N, Rel N → QR X (d + 41) (600000, 7302250) qmL_law lP (231, 37025) 1644 [(0, (2, -2)), (1, (2, 0)), (2, (2, 215)), (3, (0, i))] [] (qS y, N)) : QR X (d + 41) (600000, 7302250) qmL_law lP (231, 37025) 999 [(0, (2, -2)), (1, (2, 0)), (2, (2, 215)), (3, (0, i))] [] (qS x, M) :=
  qwp_ok qmL_ok [(1644, [0, 1, 2, 3])] 90 ⟨rfl, lb (k := 1) h0 (by decide), lu (k := 1) h1 (by decide), rfl, lb (k := 2) h0 (by decide), lu (k := 2) h1 (by decide), rfl, QC.mono (rel_crossings (cont := fun a b N => a = b ∧ Rel N) hR xs_in xs_in (fun v N h => ⟨rfl, h⟩)) (fun x1 e1 u1 => by
    obtain ⟨M1, rfl, u1⟩ := u1
    exact ⟨rfl, lb (k := 1) h0 (by decide), lu (k := 1) h1 (by decide), rfl, lb (k := 2) h0 (by decide), lu (k := 2) h1 (by decide), rfl, QC.mono u1 (fun x2 e2 u2 => by
      obtain ⟨M2, rfl, u2⟩ := u2
      exact ⟨fun _ => k _ _ u2.2, fun z => absurd u2.1 z⟩)⟩)⟩
set_option maxRecDepth 1000000 in
set_option maxHeartbeats 4000000 in
theorem l_needed (hR : Rel M) (h0 : 0 ≤ i) (h1 : i + 5 < (qxL X : Int)) (k : ∀ y N, Rel N → QR X (d + 41) (600000, 7302250) qmL_law lP (231, 37025) 1644 [(0, (2, -2)), (1, (2, 0)), (2, (2, 215)), (3, (0, i))] [] (qS y, N)) : QR X (d + 41) (600000, 7302250) qmL_law lP (231, 37025) 1032 [(0, (2, -2)), (1, (2, 0)), (2, (2, 215)), (3, (0, i))] [] (qS x, M) :=
  qwp_ok qmL_ok [(1644, [0, 1, 2, 3])] 90 ⟨rfl, lb (k := 1) h0 (by decide), lu (k := 1) h1 (by decide), rfl, lb (k := 2) h0 (by decide), lu (k := 2) h1 (by decide), rfl, QC.mono (rel_needed (cont := fun a b N => a = b ∧ Rel N) hR xs_in xs_in (fun v N h => ⟨rfl, h⟩)) (fun x1 e1 u1 => by
    obtain ⟨M1, rfl, u1⟩ := u1
    exact ⟨rfl, lb (k := 1) h0 (by decide), lu (k := 1) h1 (by decide), rfl, lb (k := 2) h0 (by decide), lu (k := 2) h1 (by decide), rfl, QC.mono u1 (fun x2 e2 u2 => by
      obtain ⟨M2, rfl, u2⟩ := u2
      exact ⟨fun _ => k _ _ u2.2, fun z => absurd u2.1 z⟩)⟩)⟩
set_option maxRecDepth 1000000 in
set_option maxHeartbeats 4000000 in
theorem l_farthest (hR : Rel M) (h0 : 0 ≤ i) (h1 : i + 5 < (qxL X : Int)) (k : ∀ y N, Rel N → QR X (d + 41) (600000, 7302250) qmL_law lP (231, 37025) 1644 [(0, (2, -2)), (1, (2, 0)), (2, (2, 215)), (3, (0, i))] [] (qS y, N)) : QR X (d + 41) (600000, 7302250) qmL_law lP (231, 37025) 1066 [(0, (2, -2)), (1, (2, 0)), (2, (2, 215)), (3, (0, i))] [] (qS x, M) :=
  qwp_ok qmL_ok [(1644, [0, 1, 2, 3])] 90 ⟨rfl, lb (k := 1) h0 (by decide), lu (k := 1) h1 (by decide), rfl, QC.mono (rel_farthest (cont := fun a b N => a = b ∧ Rel N) hR xs_in (fun v N h => ⟨rfl, h⟩)) (fun x1 e1 u1 => by
    obtain ⟨M1, rfl, u1⟩ := u1
    exact ⟨rfl, lb (k := 1) h0 (by decide), lu (k := 1) h1 (by decide), rfl, QC.mono u1 (fun x2 e2 u2 => by
      obtain ⟨M2, rfl, u2⟩ := u2
      exact ⟨fun _ => k _ _ u2.2, fun z => absurd u2.1 z⟩)⟩)⟩
set_option maxRecDepth 1000000 in
set_option maxHeartbeats 4000000 in
theorem l_above (hR : Rel M) (h0 : 0 ≤ i) (h1 : i + 5 < (qxL X : Int)) (k : ∀ y N, Rel N → QR X (d + 41) (600000, 7302250) qmL_law lP (231, 37025) 1644 [(0, (2, -2)), (1, (2, 0)), (2, (2, 215)), (3, (0, i))] [] (qS y, N)) : QR X (d + 41) (600000, 7302250) qmL_law lP (231, 37025) 1089 [(0, (2, -2)), (1, (2, 0)), (2, (2, 215)), (3, (0, i))] [] (qS x, M) :=
  qwp_ok qmL_ok [(1644, [0, 1, 2, 3])] 90 ⟨rfl, lb (k := 1) h0 (by decide), lu (k := 1) h1 (by decide), rfl, QC.mono (rel_above (cont := fun a b N => a = b ∧ Rel N) hR xs_in (fun v N h => ⟨rfl, h⟩)) (fun x1 e1 u1 => by
    obtain ⟨M1, rfl, u1⟩ := u1
    exact ⟨rfl, lb (k := 1) h0 (by decide), lu (k := 1) h1 (by decide), rfl, QC.mono u1 (fun x2 e2 u2 => by
      obtain ⟨M2, rfl, u2⟩ := u2
      exact ⟨fun _ => k _ _ u2.2, fun z => absurd u2.1 z⟩)⟩)⟩
set_option maxRecDepth 1000000 in
set_option maxHeartbeats 4000000 in
theorem l_ahead (hR : Rel M) (h0 : 0 ≤ i) (h1 : i + 5 < (qxL X : Int)) (k : ∀ y N, Rel N → QR X (d + 41) (600000, 7302250) qmL_law lP (231, 37025) 1644 [(0, (2, -2)), (1, (2, 0)), (2, (2, 215)), (3, (0, i))] [] (qS y, N)) : QR X (d + 41) (600000, 7302250) qmL_law lP (231, 37025) 1112 [(0, (2, -2)), (1, (2, 0)), (2, (2, 215)), (3, (0, i))] [] (qS x, M) :=
  qwp_ok qmL_ok [(1644, [0, 1, 2, 3])] 90 ⟨rfl, lb (k := 1) h0 (by decide), lu (k := 1) h1 (by decide), rfl, QC.mono (rel_ahead (cont := fun a b N => a = b ∧ Rel N) hR xs_in (fun v N h => ⟨rfl, h⟩)) (fun x1 e1 u1 => by
    obtain ⟨M1, rfl, u1⟩ := u1
    exact ⟨rfl, lb (k := 1) h0 (by decide), lu (k := 1) h1 (by decide), rfl, QC.mono u1 (fun x2 e2 u2 => by
      obtain ⟨M2, rfl, u2⟩ := u2
      exact ⟨fun _ => k _ _ u2.2, fun z => absurd u2.1 z⟩)⟩)⟩
set_option maxRecDepth 1000000 in
set_option maxHeartbeats 4000000 in
theorem l_order (hR : Rel M) (h0 : 0 ≤ i) (h1 : i + 5 < (qxL X : Int)) (k : ∀ y N, Rel N → QR X (d + 41) (600000, 7302250) qmL_law lP (231, 37025) 1644 [(0, (2, -2)), (1, (2, 0)), (2, (2, 215)), (3, (0, i))] [] (qS y, N)) : QR X (d + 41) (600000, 7302250) qmL_law lP (231, 37025) 1135 [(0, (2, -2)), (1, (2, 0)), (2, (2, 215)), (3, (0, i))] [] (qS x, M) :=
  qwp_ok qmL_ok [(1644, [0, 1, 2, 3])] 90 ⟨rfl, lb (k := 1) h0 (by decide), lu (k := 1) h1 (by decide), rfl, QC.mono (rel_order (cont := fun a b N => a = b ∧ Rel N) hR xs_in (fun v N h => ⟨rfl, h⟩)) (fun x1 e1 u1 => by
    obtain ⟨M1, rfl, u1⟩ := u1
    exact ⟨rfl, lb (k := 1) h0 (by decide), lu (k := 1) h1 (by decide), rfl, QC.mono u1 (fun x2 e2 u2 => by
      obtain ⟨M2, rfl, u2⟩ := u2
      exact ⟨fun _ => k _ _ u2.2, fun z => absurd u2.1 z⟩)⟩)⟩
set_option maxRecDepth 1000000 in
set_option maxHeartbeats 4000000 in
theorem l_stuck (hR : Rel M) (h0 : 0 ≤ i) (h1 : i + 5 < (qxL X : Int)) (k : ∀ y N, Rel N → QR X (d + 41) (600000, 7302250) qmL_law lP (231, 37025) 1644 [(0, (2, -2)), (1, (2, 0)), (2, (2, 215)), (3, (0, i))] [] (qS y, N)) : QR X (d + 41) (600000, 7302250) qmL_law lP (231, 37025) 1158 [(0, (2, -2)), (1, (2, 0)), (2, (2, 215)), (3, (0, i))] [] (qS x, M) :=
  qwp_ok qmL_ok [(1644, [0, 1, 2, 3])] 90 ⟨rfl, QC.mono (rel_stuck (cont := fun a b N => a = b ∧ Rel N) hR (fun v N h => ⟨rfl, h⟩)) (fun x1 e1 u1 => by
    obtain ⟨M1, rfl, u1⟩ := u1
    exact ⟨rfl, QC.mono u1 (fun x2 e2 u2 => by
      obtain ⟨M2, rfl, u2⟩ := u2
      exact ⟨fun _ => k _ _ u2.2, fun z => absurd u2.1 z⟩)⟩)⟩
set_option maxRecDepth 1000000 in
set_option maxHeartbeats 4000000 in
theorem l_twists (hR : Rel M) (h0 : 0 ≤ i) (h1 : i + 5 < (qxL X : Int)) (k : ∀ y N, Rel N → QR X (d + 41) (600000, 7302250) qmL_law lP (231, 37025) 1644 [(0, (2, -2)), (1, (2, 0)), (2, (2, 215)), (3, (0, i))] [] (qS y, N)) : QR X (d + 41) (600000, 7302250) qmL_law lP (231, 37025) 1171 [(0, (2, -2)), (1, (2, 0)), (2, (2, 215)), (3, (0, i))] [] (qS x, M) :=
  qwp_ok qmL_ok [(1644, [0, 1, 2, 3])] 90 ⟨rfl, QC.mono (rel_twists (cont := fun a b N => a = b ∧ Rel N) hR (fun v N h => ⟨rfl, h⟩)) (fun x1 e1 u1 => by
    obtain ⟨M1, rfl, u1⟩ := u1
    exact ⟨rfl, QC.mono u1 (fun x2 e2 u2 => by
      obtain ⟨M2, rfl, u2⟩ := u2
      exact ⟨fun _ => k _ _ u2.2, fun z => absurd u2.1 z⟩)⟩)⟩
set_option maxRecDepth 1000000 in
set_option maxHeartbeats 4000000 in
theorem l_orders (hR : Rel M) (h0 : 0 ≤ i) (h1 : i + 5 < (qxL X : Int)) (k : ∀ y N, Rel N → QR X (d + 41) (600000, 7302250) qmL_law lP (231, 37025) 1644 [(0, (2, -2)), (1, (2, 0)), (2, (2, 215)), (3, (0, i))] [] (qS y, N)) : QR X (d + 41) (600000, 7302250) qmL_law lP (231, 37025) 1184 [(0, (2, -2)), (1, (2, 0)), (2, (2, 215)), (3, (0, i))] [] (qS x, M) :=
  qwp_ok qmL_ok [(1644, [0, 1, 2, 3])] 90 ⟨rfl, QC.mono (rel_orders (cont := fun a b N => a = b ∧ Rel N) hR (fun v N h => ⟨rfl, h⟩)) (fun x1 e1 u1 => by
    obtain ⟨M1, rfl, u1⟩ := u1
    exact ⟨rfl, QC.mono u1 (fun x2 e2 u2 => by
      obtain ⟨M2, rfl, u2⟩ := u2
      exact ⟨fun _ => k _ _ u2.2, fun z => absurd u2.1 z⟩)⟩)⟩
set_option maxRecDepth 1000000 in
set_option maxHeartbeats 4000000 in
theorem l_arrives (hR : Rel M) (h0 : 0 ≤ i) (h1 : i + 5 < (qxL X : Int)) (k : ∀ y N, Rel N → QR X (d + 41) (600000, 7302250) qmL_law lP (231, 37025) 1644 [(0, (2, -2)), (1, (2, 0)), (2, (2, 215)), (3, (0, i))] [] (qS y, N)) : QR X (d + 41) (600000, 7302250) qmL_law lP (231, 37025) 1197 [(0, (2, -2)), (1, (2, 0)), (2, (2, 215)), (3, (0, i))] [] (qS x, M) :=
  qwp_ok qmL_ok [(1644, [0, 1, 2, 3])] 90 ⟨rfl, lb (k := 1) h0 (by decide), lu (k := 1) h1 (by decide), rfl, QC.mono (rel_arrives (cont := fun a b N => a = b ∧ Rel N) hR xs_in (fun v N h => ⟨rfl, h⟩)) (fun x1 e1 u1 => by
    obtain ⟨M1, rfl, u1⟩ := u1
    exact ⟨rfl, lb (k := 1) h0 (by decide), lu (k := 1) h1 (by decide), rfl, QC.mono u1 (fun x2 e2 u2 => by
      obtain ⟨M2, rfl, u2⟩ := u2
      exact ⟨fun _ => k _ _ u2.2, fun z => absurd u2.1 z⟩)⟩)⟩
set_option maxRecDepth 1000000 in
set_option maxHeartbeats 4000000 in
theorem l_waits (hR : Rel M) (h0 : 0 ≤ i) (h1 : i + 5 < (qxL X : Int)) (k : ∀ y N, Rel N → QR X (d + 41) (600000, 7302250) qmL_law lP (231, 37025) 1644 [(0, (2, -2)), (1, (2, 0)), (2, (2, 215)), (3, (0, i))] [] (qS y, N)) : QR X (d + 41) (600000, 7302250) qmL_law lP (231, 37025) 1220 [(0, (2, -2)), (1, (2, 0)), (2, (2, 215)), (3, (0, i))] [] (qS x, M) :=
  qwp_ok qmL_ok [(1644, [0, 1, 2, 3])] 90 ⟨rfl, lb (k := 1) h0 (by decide), lu (k := 1) h1 (by decide), rfl, QC.mono (rel_waits (cont := fun a b N => a = b ∧ Rel N) hR xs_in (fun v N h => ⟨rfl, h⟩)) (fun x1 e1 u1 => by
    obtain ⟨M1, rfl, u1⟩ := u1
    exact ⟨rfl, lb (k := 1) h0 (by decide), lu (k := 1) h1 (by decide), rfl, QC.mono u1 (fun x2 e2 u2 => by
      obtain ⟨M2, rfl, u2⟩ := u2
      exact ⟨fun _ => k _ _ u2.2, fun z => absurd u2.1 z⟩)⟩)⟩
set_option maxRecDepth 1000000 in
set_option maxHeartbeats 4000000 in
theorem l_allIn (hR : Rel M) (h0 : 0 ≤ i) (h1 : i + 5 < (qxL X : Int)) (k : ∀ y N, Rel N → QR X (d + 41) (600000, 7302250) qmL_law lP (231, 37025) 1644 [(0, (2, -2)), (1, (2, 0)), (2, (2, 215)), (3, (0, i))] [] (qS y, N)) : QR X (d + 41) (600000, 7302250) qmL_law lP (231, 37025) 1243 [(0, (2, -2)), (1, (2, 0)), (2, (2, 215)), (3, (0, i))] [] (qS x, M) :=
  qwp_ok qmL_ok [(1644, [0, 1, 2, 3])] 90 ⟨rfl, QC.mono (rel_allIn (cont := fun a b N => a = b ∧ Rel N) hR (fun v N h => ⟨rfl, h⟩)) (fun x1 e1 u1 => by
    obtain ⟨M1, rfl, u1⟩ := u1
    exact ⟨rfl, QC.mono u1 (fun x2 e2 u2 => by
      obtain ⟨M2, rfl, u2⟩ := u2
      exact ⟨fun _ => k _ _ u2.2, fun z => absurd u2.1 z⟩)⟩)⟩
set_option maxRecDepth 1000000 in
set_option maxHeartbeats 4000000 in
theorem l_free (hR : Rel M) (h0 : 0 ≤ i) (h1 : i + 5 < (qxL X : Int)) (k : ∀ y N, Rel N → QR X (d + 41) (600000, 7302250) qmL_law lP (231, 37025) 1644 [(0, (2, -2)), (1, (2, 0)), (2, (2, 215)), (3, (0, i))] [] (qS y, N)) : QR X (d + 41) (600000, 7302250) qmL_law lP (231, 37025) 1256 [(0, (2, -2)), (1, (2, 0)), (2, (2, 215)), (3, (0, i))] [] (qS x, M) :=
  qwp_ok qmL_ok [(1644, [0, 1, 2, 3])] 90 ⟨rfl, lb (k := 1) h0 (by decide), lu (k := 1) h1 (by decide), rfl, QC.mono (rel_free (cont := fun a b N => a = b ∧ Rel N) hR xs_in (fun v N h => ⟨rfl, h⟩)) (fun x1 e1 u1 => by
    obtain ⟨M1, rfl, u1⟩ := u1
    exact ⟨rfl, lb (k := 1) h0 (by decide), lu (k := 1) h1 (by decide), rfl, QC.mono u1 (fun x2 e2 u2 => by
      obtain ⟨M2, rfl, u2⟩ := u2
      exact ⟨fun _ => k _ _ u2.2, fun z => absurd u2.1 z⟩)⟩)⟩
set_option maxRecDepth 1000000 in
set_option maxHeartbeats 4000000 in
theorem l_busiest (hR : Rel M) (h0 : 0 ≤ i) (h1 : i + 5 < (qxL X : Int)) (k : ∀ y N, Rel N → QR X (d + 41) (600000, 7302250) qmL_law lP (231, 37025) 1644 [(0, (2, -2)), (1, (2, 0)), (2, (2, 215)), (3, (0, i))] [] (qS y, N)) : QR X (d + 41) (600000, 7302250) qmL_law lP (231, 37025) 1279 [(0, (2, -2)), (1, (2, 0)), (2, (2, 215)), (3, (0, i))] [] (qS x, M) :=
  qwp_ok qmL_ok [(1644, [0, 1, 2, 3])] 90 ⟨rfl, QC.mono (rel_busiest (cont := fun a b N => a = b ∧ Rel N) hR (fun v N h => ⟨rfl, h⟩)) (fun x1 e1 u1 => by
    obtain ⟨M1, rfl, u1⟩ := u1
    exact ⟨rfl, QC.mono u1 (fun x2 e2 u2 => by
      obtain ⟨M2, rfl, u2⟩ := u2
      exact ⟨fun _ => k _ _ u2.2, fun z => absurd u2.1 z⟩)⟩)⟩
set_option maxRecDepth 1000000 in
set_option maxHeartbeats 4000000 in
theorem l_wouldArrive (hR : Rel M) (h0 : 0 ≤ i) (h1 : i + 5 < (qxL X : Int)) (k : ∀ y N, Rel N → QR X (d + 41) (600000, 7302250) qmL_law lP (231, 37025) 1644 [(0, (2, -2)), (1, (2, 0)), (2, (2, 215)), (3, (0, i))] [] (qS y, N)) : QR X (d + 41) (600000, 7302250) qmL_law lP (231, 37025) 1292 [(0, (2, -2)), (1, (2, 0)), (2, (2, 215)), (3, (0, i))] [] (qS x, M) :=
  qwp_ok qmL_ok [(1644, [0, 1, 2, 3])] 90 ⟨rfl, lb (k := 1) h0 (by decide), lu (k := 1) h1 (by decide), rfl, QC.mono (rel_wouldArrive (cont := fun a b N => a = b ∧ Rel N) hR xs_in (fun v N h => ⟨rfl, h⟩)) (fun x1 e1 u1 => by
    obtain ⟨M1, rfl, u1⟩ := u1
    exact ⟨rfl, lb (k := 1) h0 (by decide), lu (k := 1) h1 (by decide), rfl, QC.mono u1 (fun x2 e2 u2 => by
      obtain ⟨M2, rfl, u2⟩ := u2
      exact ⟨fun _ => k _ _ u2.2, fun z => absurd u2.1 z⟩)⟩)⟩
set_option maxRecDepth 1000000 in
set_option maxHeartbeats 4000000 in
theorem l_faded (hR : Rel M) (h0 : 0 ≤ i) (h1 : i + 5 < (qxL X : Int)) (k : ∀ y N, Rel N → QR X (d + 41) (600000, 7302250) qmL_law lP (231, 37025) 1644 [(0, (2, -2)), (1, (2, 0)), (2, (2, 215)), (3, (0, i))] [] (qS y, N)) : QR X (d + 41) (600000, 7302250) qmL_law lP (231, 37025) 1315 [(0, (2, -2)), (1, (2, 0)), (2, (2, 215)), (3, (0, i))] [] (qS x, M) :=
  qwp_ok qmL_ok [(1644, [0, 1, 2, 3])] 90 ⟨rfl, lb (k := 1) h0 (by decide), lu (k := 1) h1 (by decide), rfl, lb (k := 2) h0 (by decide), lu (k := 2) h1 (by decide), rfl, QC.mono (rel_faded (cont := fun a b N => a = b ∧ Rel N) hR xs_in xs_in (fun v N h => ⟨rfl, h⟩)) (fun x1 e1 u1 => by
    obtain ⟨M1, rfl, u1⟩ := u1
    exact ⟨rfl, lb (k := 1) h0 (by decide), lu (k := 1) h1 (by decide), rfl, lb (k := 2) h0 (by decide), lu (k := 2) h1 (by decide), rfl, QC.mono u1 (fun x2 e2 u2 => by
      obtain ⟨M2, rfl, u2⟩ := u2
      exact ⟨fun _ => k _ _ u2.2, fun z => absurd u2.1 z⟩)⟩)⟩
set_option maxRecDepth 1000000 in
set_option maxHeartbeats 4000000 in
theorem l_manyFaded (hR : Rel M) (h0 : 0 ≤ i) (h1 : i + 5 < (qxL X : Int)) (k : ∀ y N, Rel N → QR X (d + 41) (600000, 7302250) qmL_law lP (231, 37025) 1644 [(0, (2, -2)), (1, (2, 0)), (2, (2, 215)), (3, (0, i))] [] (qS y, N)) : QR X (d + 41) (600000, 7302250) qmL_law lP (231, 37025) 1349 [(0, (2, -2)), (1, (2, 0)), (2, (2, 215)), (3, (0, i))] [] (qS x, M) :=
  qwp_ok qmL_ok [(1644, [0, 1, 2, 3])] 90 ⟨rfl, lb (k := 1) h0 (by decide), lu (k := 1) h1 (by decide), rfl, lb (k := 2) h0 (by decide), lu (k := 2) h1 (by decide), rfl, QC.mono (rel_manyFaded (cont := fun a b N => a = b ∧ Rel N) hR xs_in xs_in (fun v N h => ⟨rfl, h⟩)) (fun x1 e1 u1 => by
    obtain ⟨M1, rfl, u1⟩ := u1
    exact ⟨rfl, lb (k := 1) h0 (by decide), lu (k := 1) h1 (by decide), rfl, lb (k := 2) h0 (by decide), lu (k := 2) h1 (by decide), rfl, QC.mono u1 (fun x2 e2 u2 => by
      obtain ⟨M2, rfl, u2⟩ := u2
      exact ⟨fun _ => k _ _ u2.2, fun z => absurd u2.1 z⟩)⟩)⟩
set_option maxRecDepth 1000000 in
set_option maxHeartbeats 4000000 in
theorem l_look (hR : Rel M) (h0 : 0 ≤ i) (h1 : i + 5 < (qxL X : Int)) (k : ∀ y N, Rel N → QR X (d + 41) (600000, 7302250) qmL_law lP (231, 37025) 1644 [(0, (2, -2)), (1, (2, 0)), (2, (2, 215)), (3, (0, i))] [] (qS y, N)) : QR X (d + 41) (600000, 7302250) qmL_law lP (231, 37025) 1382 [(0, (2, -2)), (1, (2, 0)), (2, (2, 215)), (3, (0, i))] [] (qS x, M) :=
  qwp_ok qmL_ok [(1644, [0, 1, 2, 3])] 90 ⟨rfl, lb (k := 1) h0 (by decide), lu (k := 1) h1 (by decide), rfl, lb (k := 2) h0 (by decide), lu (k := 2) h1 (by decide), rfl, QC.mono (rel_look (cont := fun a b N => a = b ∧ Rel N) hR xs_in xs_in (fun v N h => ⟨rfl, h⟩)) (fun x1 e1 u1 => by
    obtain ⟨M1, rfl, u1⟩ := u1
    exact ⟨rfl, lb (k := 1) h0 (by decide), lu (k := 1) h1 (by decide), rfl, lb (k := 2) h0 (by decide), lu (k := 2) h1 (by decide), rfl, QC.mono u1 (fun x2 e2 u2 => by
      obtain ⟨M2, rfl, u2⟩ := u2
      exact ⟨fun _ => k _ _ u2.2, fun z => absurd u2.1 z⟩)⟩)⟩
set_option maxRecDepth 1000000 in
set_option maxHeartbeats 4000000 in
theorem l_numbers (hR : Rel M) (h0 : 0 ≤ i) (h1 : i + 5 < (qxL X : Int)) (k : ∀ y N, Rel N → QR X (d + 41) (600000, 7302250) qmL_law lP (231, 37025) 1644 [(0, (2, -2)), (1, (2, 0)), (2, (2, 215)), (3, (0, i))] [] (qS y, N)) : QR X (d + 41) (600000, 7302250) qmL_law lP (231, 37025) 1415 [(0, (2, -2)), (1, (2, 0)), (2, (2, 215)), (3, (0, i))] [] (qS x, M) :=
  qwp_ok qmL_ok [(1644, [0, 1, 2, 3])] 90 ⟨rfl, lb (k := 1) h0 (by decide), lu (k := 1) h1 (by decide), rfl, lb (k := 2) h0 (by decide), lu (k := 2) h1 (by decide), rfl, lb (k := 3) h0 (by decide), lu (k := 3) h1 (by decide), rfl, QC.mono (rel_numbers (cont := fun a b N => a = b ∧ Rel N) hR xs_in xs_in xs_in (fun v N h => ⟨rfl, h⟩)) (fun x1 e1 u1 => by
    obtain ⟨M1, rfl, u1⟩ := u1
    exact ⟨rfl, lb (k := 1) h0 (by decide), lu (k := 1) h1 (by decide), rfl, lb (k := 2) h0 (by decide), lu (k := 2) h1 (by decide), rfl, lb (k := 3) h0 (by decide), lu (k := 3) h1 (by decide), rfl, QC.mono u1 (fun x2 e2 u2 => by
      obtain ⟨M2, rfl, u2⟩ := u2
      exact ⟨fun _ => k _ _ u2.2, fun z => absurd u2.1 z⟩)⟩)⟩
set_option maxRecDepth 1000000 in
set_option maxHeartbeats 4000000 in
theorem l_write (hR : Rel M) (h0 : 0 ≤ i) (h1 : i + 5 < (qxL X : Int)) (k : ∀ y N, Rel N → QR X (d + 41) (600000, 7302250) qmL_law lP (231, 37025) 1644 [(0, (2, -2)), (1, (2, 0)), (2, (2, 215)), (3, (0, i))] [] (qS y, N)) : QR X (d + 41) (600000, 7302250) qmL_law lP (231, 37025) 1458 [(0, (2, -2)), (1, (2, 0)), (2, (2, 215)), (3, (0, i))] [] (qS x, M) :=
  qwp_ok qmL_ok [(1644, [0, 1, 2, 3])] 90 ⟨rfl, lb (k := 1) h0 (by decide), lu (k := 1) h1 (by decide), rfl, lb (k := 2) h0 (by decide), lu (k := 2) h1 (by decide), rfl, lb (k := 3) h0 (by decide), lu (k := 3) h1 (by decide), xs_in, rfl, lb (k := 4) h0 (by decide), lu (k := 4) h1 (by decide), xs_in, rfl, QC.mono (rel_write (cont := fun a b N => a = b ∧ Rel N) hR xs_in xs_in (qlor_in _ _) (fun v N h => ⟨rfl, h⟩)) (fun x1 e1 u1 => by
    obtain ⟨M1, rfl, u1⟩ := u1
    exact ⟨rfl, lb (k := 1) h0 (by decide), lu (k := 1) h1 (by decide), rfl, lb (k := 2) h0 (by decide), lu (k := 2) h1 (by decide), rfl, lb (k := 3) h0 (by decide), lu (k := 3) h1 (by decide), xs_in, rfl, lb (k := 4) h0 (by decide), lu (k := 4) h1 (by decide), xs_in, rfl, QC.mono u1 (fun x2 e2 u2 => by
      obtain ⟨M2, rfl, u2⟩ := u2
      exact ⟨fun _ => k _ _ u2.2, fun z => absurd u2.1 z⟩)⟩)⟩
set_option maxRecDepth 1000000 in
set_option maxHeartbeats 4000000 in
theorem l_lists (hR : Rel M) (h0 : 0 ≤ i) (h1 : i + 5 < (qxL X : Int)) (k : ∀ y N, Rel N → QR X (d + 41) (600000, 7302250) qmL_law lP (231, 37025) 1644 [(0, (2, -2)), (1, (2, 0)), (2, (2, 215)), (3, (0, i))] [] (qS y, N)) : QR X (d + 41) (600000, 7302250) qmL_law lP (231, 37025) 1532 [(0, (2, -2)), (1, (2, 0)), (2, (2, 215)), (3, (0, i))] [] (qS x, M) :=
  qwp_ok qmL_ok [(1644, [0, 1, 2, 3])] 90 ⟨rfl, lb (k := 1) h0 (by decide), lu (k := 1) h1 (by decide), rfl, lb (k := 2) h0 (by decide), lu (k := 2) h1 (by decide), rfl, lb (k := 3) h0 (by decide), lu (k := 3) h1 (by decide), rfl, QC.mono (rel_lists (cont := fun a b N => a = b ∧ Rel N) hR xs_in xs_in xs_in (fun v N h => ⟨rfl, h⟩)) (fun x1 e1 u1 => by
    obtain ⟨M1, rfl, u1⟩ := u1
    exact ⟨rfl, lb (k := 1) h0 (by decide), lu (k := 1) h1 (by decide), rfl, lb (k := 2) h0 (by decide), lu (k := 2) h1 (by decide), rfl, lb (k := 3) h0 (by decide), lu (k := 3) h1 (by decide), rfl, QC.mono u1 (fun x2 e2 u2 => by
      obtain ⟨M2, rfl, u2⟩ := u2
      exact ⟨fun _ => k _ _ u2.2, fun z => absurd u2.1 z⟩)⟩)⟩
set_option maxRecDepth 1000000 in
set_option maxHeartbeats 4000000 in
theorem l_image (hR : Rel M) (h0 : 0 ≤ i) (h1 : i + 5 < (qxL X : Int)) (k : ∀ y N, Rel N → QR X (d + 41) (600000, 7302250) qmL_law lP (231, 37025) 1644 [(0, (2, -2)), (1, (2, 0)), (2, (2, 215)), (3, (0, i))] [] (qS y, N)) : QR X (d + 41) (600000, 7302250) qmL_law lP (231, 37025) 1575 [(0, (2, -2)), (1, (2, 0)), (2, (2, 215)), (3, (0, i))] [] (qS x, M) :=
  qwp_ok qmL_ok [(1644, [0, 1, 2, 3])] 90 ⟨rfl, lb (k := 1) h0 (by decide), lu (k := 1) h1 (by decide), rfl, QC.mono (rel_image (cont := fun a b N => a = b ∧ Rel N) hR xs_in (fun v N h => ⟨rfl, h⟩)) (fun x1 e1 u1 => by
    obtain ⟨M1, rfl, u1⟩ := u1
    exact ⟨rfl, lb (k := 1) h0 (by decide), lu (k := 1) h1 (by decide), rfl, QC.mono u1 (fun x2 e2 u2 => by
      obtain ⟨M2, rfl, u2⟩ := u2
      exact ⟨fun _ => k _ _ u2.2, fun z => absurd u2.1 z⟩)⟩)⟩
set_option maxRecDepth 1000000 in
set_option maxHeartbeats 4000000 in
theorem l_restore (hR : Rel M) (h0 : 0 ≤ i) (h1 : i + 5 < (qxL X : Int)) (k : ∀ y N, Rel N → QR X (d + 41) (600000, 7302250) qmL_law lP (231, 37025) 1644 [(0, (2, -2)), (1, (2, 0)), (2, (2, 215)), (3, (0, i))] [] (qS y, N)) : QR X (d + 41) (600000, 7302250) qmL_law lP (231, 37025) 1598 [(0, (2, -2)), (1, (2, 0)), (2, (2, 215)), (3, (0, i))] [] (qS x, M) :=
  qwp_ok qmL_ok [(1644, [0, 1, 2, 3])] 90 ⟨rfl, lb (k := 1) h0 (by decide), lu (k := 1) h1 (by decide), rfl, QC.mono (rel_restore (cont := fun a b N => a = b ∧ Rel N) hR xs_in (fun v N h => ⟨rfl, h⟩)) (fun x1 e1 u1 => by
    obtain ⟨M1, rfl, u1⟩ := u1
    exact ⟨rfl, lb (k := 1) h0 (by decide), lu (k := 1) h1 (by decide), rfl, QC.mono u1 (fun x2 e2 u2 => by
      obtain ⟨M2, rfl, u2⟩ := u2
      exact ⟨fun _ => k _ _ u2.2, fun z => absurd u2.1 z⟩)⟩)⟩
set_option maxRecDepth 1000000 in
set_option maxHeartbeats 4000000 in
theorem l_count (hR : Rel M) (h0 : 0 ≤ i) (h1 : i + 5 < (qxL X : Int)) (k : ∀ y N, Rel N → QR X (d + 41) (600000, 7302250) qmL_law lP (231, 37025) 1644 [(0, (2, -2)), (1, (2, 0)), (2, (2, 215)), (3, (0, i))] [] (qS y, N)) : QR X (d + 41) (600000, 7302250) qmL_law lP (231, 37025) 1621 [(0, (2, -2)), (1, (2, 0)), (2, (2, 215)), (3, (0, i))] [] (qS x, M) :=
  qwp_ok qmL_ok [(1644, [0, 1, 2, 3])] 90 ⟨rfl, lb (k := 1) h0 (by decide), lu (k := 1) h1 (by decide), rfl, QC.mono (rel_count (cont := fun a b N => a = b ∧ Rel N) hR xs_in (fun v N h => ⟨rfl, h⟩)) (fun x1 e1 u1 => by
    obtain ⟨M1, rfl, u1⟩ := u1
    exact ⟨rfl, lb (k := 1) h0 (by decide), lu (k := 1) h1 (by decide), rfl, QC.mono u1 (fun x2 e2 u2 => by
      obtain ⟨M2, rfl, u2⟩ := u2
      exact ⟨fun _ => k _ _ u2.2, fun z => absurd u2.1 z⟩)⟩)⟩
set_option maxRecDepth 1000000 in
set_option maxHeartbeats 8000000 in
theorem l_loop (hL : qxL X ≤ 3072) : ∀ (n : Nat) (i x : Int) (M : QMem), Rel M → 0 ≤ i → i ≤ 3072 → (qxL X : Int) - i < n → QR X (d + 41) (600000, 7302250) qmL_law lP (231, 37025) 18 [(0, (2, -2)), (1, (2, 0)), (2, (2, 215)), (3, (0, i))] [] (qS x, M) := by
  have fin : ∀ (i x : Int) (M : QMem), (qxL X : Int) - 6 < i → 0 ≤ i → i ≤ 3072 → QR X (d + 41) (600000, 7302250) qmL_law lP (231, 37025) 18 [(0, (2, -2)), (1, (2, 0)), (2, (2, 215)), (3, (0, i))] [] (qS x, M) := fun i x M hi h0 h3 => qwp_ok qmL_ok [] 12 ⟨rfl, (show in32 i from (i32 (by omega) (by omega))), (show in32 ((qxL X : Int) - 6) from (i32 (by omega) (by omega))), fun _ => ⟨Or.inr rfl, rfl⟩, fun z => absurd hi z⟩
  intro n
  induction n with
  | zero => intro i x M hR h0 h3 hn; exact fin i x M (by omega) h0 h3
  | succ n ih =>
    intro i x M hR h0 h3 hn
    by_cases hi : (qxL X : Int) - 6 < i
    · exact fin i x M hi h0 h3
    have h1 : i + 5 < (qxL X : Int) := (by omega)
    have k : ∀ y N, Rel N → QR X (d + 41) (600000, 7302250) qmL_law lP (231, 37025) 1644 [(0, (2, -2)), (1, (2, 0)), (2, (2, 215)), (3, (0, i))] [] (qS y, N) := fun y N hN => qwp_ok qmL_ok [(18, [0, 1, 2, 3])] 3 (ih (i + 6) y N hN (by omega) (by omega) (by omega))
    exact qwp_ok qmL_ok [(240, [0, 1, 2, 3]), (303, [0, 1, 2, 3]), (326, [0, 1, 2, 3]), (349, [0, 1, 2, 3]), (382, [0, 1, 2, 3]), (415, [0, 1, 2, 3]), (448, [0, 1, 2, 3]), (481, [0, 1, 2, 3]), (514, [0, 1, 2, 3]), (547, [0, 1, 2, 3]), (606, [0, 1, 2, 3]), (629, [0, 1, 2, 3]), (652, [0, 1, 2, 3]), (675, [0, 1, 2, 3]), (698, [0, 1, 2, 3]), (721, [0, 1, 2, 3]), (744, [0, 1, 2, 3]), (767, [0, 1, 2, 3]), (800, [0, 1, 2, 3]), (823, [0, 1, 2, 3]), (856, [0, 1, 2, 3]), (880, [0, 1, 2, 3]), (913, [0, 1, 2, 3]), (956, [0, 1, 2, 3]), (999, [0, 1, 2, 3]), (1032, [0, 1, 2, 3]), (1066, [0, 1, 2, 3]), (1089, [0, 1, 2, 3]), (1112, [0, 1, 2, 3]), (1135, [0, 1, 2, 3]), (1158, [0, 1, 2, 3]), (1171, [0, 1, 2, 3]), (1184, [0, 1, 2, 3]), (1197, [0, 1, 2, 3]), (1220, [0, 1, 2, 3]), (1243, [0, 1, 2, 3]), (1256, [0, 1, 2, 3]), (1279, [0, 1, 2, 3]), (1292, [0, 1, 2, 3]), (1315, [0, 1, 2, 3]), (1349, [0, 1, 2, 3]), (1382, [0, 1, 2, 3]), (1415, [0, 1, 2, 3]), (1458, [0, 1, 2, 3]), (1532, [0, 1, 2, 3]), (1575, [0, 1, 2, 3]), (1598, [0, 1, 2, 3]), (1621, [0, 1, 2, 3]), (1644, [0, 1, 2, 3])] 14 ⟨rfl, (show in32 i from (i32 (by omega) (by omega))), (show in32 ((qxL X : Int) - 6) from (i32 (by omega) (by omega))), fun z => absurd z hi, fun _ => ⟨rfl, h0, (show i < (qxL X : Int) by omega), qand_in _ _, ⟨fun _ => l_feed hR h0 h1 k, fun _ => l_land hR h0 h1 k, fun _ => l_fault hR h0 h1 k, fun _ => l_cell hR h0 h1 k, fun _ => l_drum hR h0 h1 k, fun _ => l_lies hR h0 h1 k, fun _ => l_traveller hR h0 h1 k, fun _ => l_takes hR h0 h1 k, fun _ => l_why hR h0 h1 k, fun _ => l_lay hR h0 h1 k, fun _ => l_back hR h0 h1 k, fun _ => l_takeIn hR h0 h1 k, fun _ => l_setOut hR h0 h1 k, fun _ => l_turn hR h0 h1 k, fun _ => l_rain hR h0 h1 k, fun _ => l_hours hR h0 h1 k, fun _ => l_undo hR h0 h1 k, fun _ => l_judge hR h0 h1 k, fun _ => l_perform hR h0 h1 k, fun _ => l_season hR h0 h1 k, fun _ => l_reach hR h0 h1 k, fun _ => l_fewest hR h0 h1 k, fun _ => l_way hR h0 h1 k, fun _ => l_ways hR h0 h1 k, fun _ => l_crossings hR h0 h1 k, fun _ => l_needed hR h0 h1 k, fun _ => l_farthest hR h0 h1 k, fun _ => l_above hR h0 h1 k, fun _ => l_ahead hR h0 h1 k, fun _ => l_order hR h0 h1 k, fun _ => l_stuck hR h0 h1 k, fun _ => l_twists hR h0 h1 k, fun _ => l_orders hR h0 h1 k, fun _ => l_arrives hR h0 h1 k, fun _ => l_waits hR h0 h1 k, fun _ => l_allIn hR h0 h1 k, fun _ => l_free hR h0 h1 k, fun _ => l_busiest hR h0 h1 k, fun _ => l_wouldArrive hR h0 h1 k, fun _ => l_faded hR h0 h1 k, fun _ => l_manyFaded hR h0 h1 k, fun _ => l_look hR h0 h1 k, fun _ => l_numbers hR h0 h1 k, fun _ => l_write hR h0 h1 k, fun _ => l_lists hR h0 h1 k, fun _ => l_image hR h0 h1 k, fun _ => l_restore hR h0 h1 k, fun _ => l_count hR h0 h1 k, trivial⟩, fun _ => k x M hR⟩⟩
end Law
theorem kObj0 {X : QX} {d mc ms : Nat} {y : MethodName} {Q : Int → QH → Prop} {t : List QRow} {N : Int} {M : QMem} {E : List (Int × Int × Int)} {k : Nat} {n v : Int} (w : List Int) (hw : ∀ j : Nat, qnth w j (-1) = -1) (hv : (t.length : Int) = v) (hE : ∀ e ∈ E, e.1 < v) (hN : N ≤ v) (hq : QC X d mc ms 0 y [(2, v)] (kH (t ++ [((k, n), w)]) N M E) Q) : QC X d mc ms 0 y ((2, (kH t N M E).1.1) :: []) (qnew (kH t N M E) k n) Q := by
  have hl : (kH t N M E).1.1 = v := hv
  rw [hl]
  exact QC.heq (kNew w hw (by rw [hv]; exact hE) (by rw [hv]; exact hN)) hq
theorem l_start {X : QX} {d : Nat} (hL : qxL X ≤ 3072) : QR X (d + 41) (600000, 7302250) qmL_law lP (0, 0) 0 [(0, (2, -2))] [] (kH [] 0 (fun _ _ => 0) []) := by
  have hc : (kT3.length : Int) = 215 := by decide +kernel
  refine qwp_ok qmL_ok [(8, [0, 1])] 6 ⟨kCnt2, kCnt2, kObj0 [-1, -1, -1, -1, -1, -1, -1, -1, -1, -1, -1] (kRep 11) (v := 0) rfl (by decide) (by decide) (k_RR (d := d + 34) (fun M1 h1 h2 h3 h4 h5 h6 => ?_))⟩
  have z : ∀ a, 215 ≤ a → ∀ j, M1 a j = 0 := fun a ha j => by
    rw [h1 a (by omega) (by omega)]
    exact kN_no (fun e he => by
      have hh : ∀ e ∈ kE10, e.1 < 215 := by decide +kernel
      have := hh e he
      omega) j
  have e1 : (kS kT3, M1) = kH kT3 215 M1 [] := by
    have : M1 = kM 215 M1 [] := by
      funext a j
      unfold kM
      by_cases q : 215 ≤ a
      · rw [if_pos q, z a q j]; rfl
      · rw [if_neg q]
    show (kS kT3, M1) = (kS kT3, kM 215 M1 [])
    rw [← this]
  refine QR.heq e1 ?_
  refine qwp_ok qmL_ok [(15, [0, 1])] 6 ⟨kCnt2, kCnt2, kObj0 [-1, -1, -1, -1, -1, -1, -1, -1, -1, -1, -1, -1, -1, -1, -1, -1, -1, -1, -1, -1, -1, -1, -1, -1, -1, -1, -1, -1, -1, -1, -1] (kRep 31) hc (by decide) (by decide) (k_Model (d := d + 38) (fun M2 g1 g2 => ?_))⟩
  refine QR.top (b := 215) hc ?_
  exact qwp_ok qmL_ok [(18, [0, 1, 2, 3])] 4 (l_loop hL 4000 0 7 M2 (rel_start h1 h2 h3 h4 h5 h6 g1 g2) (by decide) (by decide) (by omega))
