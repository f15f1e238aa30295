theorem qlay_good {C : String} {T : u_T} {N : Nat} : ∀ w ∈ u_ws C T N, goodWord w = true := by
  intro w hw
  obtain ⟨k, -, rfl⟩ := List.mem_map.mp hw
  unfold u_lay
  split <;> rfl
theorem qlay_in {C : String} {T : u_T} {N : Nat} (h : ∀ w ∈ u_ws C T N, w ∈ lw_tbl) : ∀ w ∈ u_ws C T N, w ∈ qtbl := fun w hw => List.mem_filter.mpr ⟨h w hw, qlay_good w hw⟩
/-- the classes' tables -/
def qcl (ci : Nat) (C : String) (T : u_T) (N : Nat) : Prop := vwCl[ci]? = some (C, T, N) ∧ ci < 100 ∧ (∀ w ∈ u_ws C T N, w ∈ qtbl) ∧ (∀ k, k < N → parseFieldDescriptor (T k).2.2.1 = some (qtyf ci k)) ∧ (∀ a, a < N → ∀ b, b < N → a ≠ b → (T a).2.1 ≠ (T b).2.1)
theorem qcl_of : ∀ (ci : Nat) (C : String) (T : u_T) (N : Nat), vwCl[ci]? = some (C, T, N) → qcl ci C T N := by
  intro ci C T N hc
  match ci, hc with
  | 0, hc => cases hc; exact ⟨rfl, by decide, qlay_in inX0, tyX0_ok, nmX0⟩
  | 1, hc => cases hc; exact ⟨rfl, by decide, qlay_in inX1, tyX1_ok, nmX1⟩
  | 2, hc => cases hc; exact ⟨rfl, by decide, qlay_in inX2, tyX2_ok, nmX2⟩
  | 3, hc => cases hc; exact ⟨rfl, by decide, qlay_in inX3, tyX3_ok, nmX3⟩
  | 4, hc => cases hc; exact ⟨rfl, by decide, qlay_in inX4, tyX4_ok, nmX4⟩
  | 5, hc => cases hc; exact ⟨rfl, by decide, qlay_in inX5, tyX5_ok, nmX5⟩
  | 6, hc => cases hc; exact ⟨rfl, by decide, qlay_in inX6, tyX6_ok, nmX6⟩
  | 7, hc => cases hc; exact ⟨rfl, by decide, qlay_in inX7, tyX7_ok, nmX7⟩
  | 8, hc => cases hc; exact ⟨rfl, by decide, qlay_in inX8, tyX8_ok, nmX8⟩
  | 9, hc => cases hc; exact ⟨rfl, by decide, qlay_in inX9, tyX9_ok, nmX9⟩
  | 10, hc => cases hc; exact ⟨rfl, by decide, qlay_in inX10, tyX10_ok, nmX10⟩
  | 11, hc => cases hc; exact ⟨rfl, by decide, qlay_in inX11, tyX11_ok, nmX11⟩
  | k + 12, hc => simp at hc
theorem qcv_ref {X : QX} {a : Int} (h : 0 ≤ a) : qcv X (2, a) = .ref ((qxH X).size + a.toNat) := by
  show qrv X a = _
  rw [qrv, if_pos h]
def qfit (t : FieldType) (x : Int) : Prop := match t with
  | .boolean => x = 0 ∨ x = 1
  | .int => True | .long => True | .object _ => True | .array _ => True
  | _ => False
theorem qfit_of (X : QX) {t : FieldType} {x : Int} (h : qfit t x) : narrow t (qcv X (qkd t, x)) = qcv X (qkd t, x) ∧ fits t (qcv X (qkd t, x)) = true := by
  cases t with
  | boolean =>
    rcases h with rfl | rfl
    · exact ⟨rfl, rfl⟩
    · exact ⟨rfl, rfl⟩
  | int => exact ⟨rfl, rfl⟩
  | long => exact ⟨rfl, rfl⟩
  | object n =>
    show narrow (.object n) (qrv X x) = qrv X x ∧ fits (.object n) (qrv X x) = true
    unfold qrv
    split
    · exact ⟨rfl, rfl⟩
    · split <;> exact ⟨rfl, rfl⟩
  | array t =>
    show narrow (.array t) (qrv X x) = qrv X x ∧ fits (.array t) (qrv X x) = true
    unfold qrv
    split
    · exact ⟨rfl, rfl⟩
    · split <;> exact ⟨rfl, rfl⟩
  | _ => exact h.elim
theorem qin_ix {i : Int} {n : Nat} (h0 : 0 ≤ i) (hn : i < n) (hb : n < 2147483648) : (Int32.ofInt i).toNatClampNeg = i.toNat ∧ ¬ (Int32.ofInt i < 0 ∨ n ≤ (Int32.ofInt i).toNatClampNeg) := by
  have h32 : in32 i := ⟨by omega, by omega⟩
  have e := q_clamp h32
  refine ⟨e, ?_⟩
  rw [e]
  rintro (z | z)
  · have := (q_lt h32 (show in32 0 from ⟨by decide, by decide⟩)).mp z
    omega
  · omega
/-- reading an array's cell -/
theorem qarr {X : QX} {h : QH} {H : Heap} {a : Int} {kd : Nat} (hH : QHp X h H) (hs : (h.1.2.1 a).1 = kd) (h1 : 100 ≤ kd) (h2 : kd ≤ 106) : 0 ≤ a ∧ a < h.1.1 ∧ 0 ≤ (h.1.2.1 a).2 ∧ (h.1.2.1 a).2 < 2147483648 ∧ H[(qxH X).size + a.toNat]? = some (arrV (qxA X kd) (h.1.2.1 a).2.toNat (fun j => qcv X (qel kd, qval h (qel kd) a j))) := by
  obtain ⟨-, -, g3, g4⟩ := hH
  have ha := g3 a (by omega)
  have g5 := (g4 a.toNat (by omega)).2
  rw [show ((a.toNat : Nat) : Int) = a by omega] at g5
  obtain ⟨-, r2, r3, r4⟩ := g5 (by omega)
  rw [hs] at r4
  exact ⟨ha.1, ha.2, r2, r3, r4⟩
theorem qtys_at (X : QX) : ∀ kd, 100 ≤ kd → kd ≤ 106 → (qtys X)[kd - 100]? = some (qxA X kd, qty kd) := by
  intro kd h1 h2
  rcases (show kd = 100 ∨ kd = 101 ∨ kd = 102 ∨ kd = 103 ∨ kd = 104 ∨ kd = 105 ∨ kd = 106 by omega) with rfl | rfl | rfl | rfl | rfl | rfl | rfl <;> rfl
theorem qarrof {X : QX} {s : State} (hT : QT X s) {kd : Nat} (h1 : 100 ≤ kd) (h2 : kd ≤ 106) : ArrOfT s (qxA X kd) (qty kd) ∧ va_RA s (qxA X kd) (qty kd) := hT.1.2 (kd - 100) _ (qtys_at X kd h1 h2)
section QHeap
variable {X : QX} {d : Nat} {mx : Nat × Nat} {m : QMeth} {post : Int → QH → Prop} {cs : Nat × Nat} {pc : Nat} {lv : List (Nat × QV)} {st : List QV} {h : QH}
theorem qs_getfield {i ci k : Nat} {C : String} {T : u_T} {N : Nat} {a : Int} (hc : vwCl[ci]? = some (C, T, N)) (hk : k < N) (hlink : Cond.fieldLink (qown (qmo m)) i (T k).1 (T k).2.1 (T k).2.2.1 ∈ qtbl) (hs : (h.1.2.1 a).1 = ci) (hd : decode (qmc m) pc = .ok (.getfield i, 3))
    (kk : QR X d mx m post cs (pc + 3) lv ((qfk ci k, qval h (qfk ci k) a k) :: st) h) : QR X d mx m post cs pc lv ((2, a) :: st) h := by
  intro p e R s mi ar be me c H lo ls hR hB hH hL hl
  have kk := kk p e R s mi ar be me c H lo ls hR hB hH hL hl
  obtain ⟨-, hci, hin, hty, hnm⟩ := qcl_of ci C T N hc
  obtain ⟨hx, hb, hml, hr, hlk, hown, hts, hnme, hT⟩ := hB
  have ha := hH.2.2.1 a (by omega)
  have g := (hH.2.2.2 a.toNat (by omega)).1
  rw [show ((a.toNat : Nat) : Int) = a by omega, hs] at g
  obtain ⟨r, r1, cell, q1, q2, q3, q4⟩ := g hci
  have hr : r = (C, T, N) := Option.some.inj (r1.symm.trans hc)
  subst hr
  obtain ⟨hS, hfc, kC, hkC, hkind⟩ := hT.1.1 ci _ hc
  obtain ⟨cf, kf, fi, f, hi, hsl⟩ := hS k hk
  simp only [List.map_cons]
  rw [qcv_ref ha.1]
  refine W.getf hx hb hown (hts _ hlink) hi (u_facts hfc hkC (u_lays hts hin hk) hi).1 q1 (by rw [q3]; exact fun h => by cases h) (v := qcv X (qfk ci k, qval h (qfk ci k) a k)) ?_ rfl rfl hd kk
  rw [hsl, q4 k hk]
/-- what a store into a field leaves -/
def qputf (h : QH) (kd : Nat) (a j x : Int) : QH := match kd with
  | 2 => ((h.1.1, h.1.2.1, qup h.1.2.2 a j x), h.2)
  | _ => (h.1, qup h.2 a j x)
theorem qputf_ne (h : QH) {kd : Nat} (hk : kd ≠ 2) (a j x : Int) : qputf h kd a j x = (h.1, qup h.2 a j x) := by
  unfold qputf
  split
  · contradiction
  · rfl
theorem qval_ne (h : QH) {kd : Nat} (hk : kd ≠ 2) (a j : Int) : qval h kd a j = h.2 a j := by
  unfold qval
  split
  · contradiction
  · rfl
theorem qputf_val (h : QH) (kd : Nat) (a j x : Int) (kd' : Nat) (b i : Int) : qval (qputf h kd a j x) kd' b i = if (kd = 2 ↔ kd' = 2) ∧ b = a ∧ i = j then x else qval h kd' b i := by
  by_cases h1 : kd = 2
  · subst h1
    by_cases h2 : kd' = 2
    · subst h2
      show qup h.1.2.2 a j x b i = _
      unfold qup
      simp
      rfl
    · rw [qval_ne _ h2, qval_ne _ h2, if_neg (by simp [h2])]
      rfl
  · rw [qputf_ne _ h1]
    by_cases h2 : kd' = 2
    · subst h2
      rw [if_neg (by simp [h1])]
      rfl
    · rw [qval_ne _ h2, qval_ne _ h2]
      unfold qup
      simp [h1, h2]
theorem qputf_s (h : QH) (kd : Nat) (a j x : Int) : (qputf h kd a j x).1.1 = h.1.1 ∧ (qputf h kd a j x).1.2.1 = h.1.2.1 ∧ ∀ b : Int, b ≠ a → ∀ i, (qputf h kd a j x).1.2.2 b i = h.1.2.2 b i ∧ (qputf h kd a j x).2 b i = h.2 b i := by
  unfold qputf
  split
  · exact ⟨rfl, rfl, fun b hb i => ⟨by simp [qup, hb], rfl⟩⟩
  · exact ⟨rfl, rfl, fun b hb i => ⟨rfl, by simp [qup, hb]⟩⟩
theorem qs_putfield {i ci k : Nat} {C : String} {T : u_T} {N : Nat} {a x : Int} (hc : vwCl[ci]? = some (C, T, N)) (hk : k < N) (hlink : Cond.fieldLink (qown (qmo m)) i (T k).1 (T k).2.1 (T k).2.2.1 ∈ qtbl) (hs : (h.1.2.1 a).1 = ci) (hfit : qfit (qtyf ci k) x)
    (hfin : (T k).2.2.2 = false ∨ ((qmy m).name = "<init>" ∧ (T k).1 = qown (qmo m))) (hd : decode (qmc m) pc = .ok (.putfield i, 3))
    (kk : QR X d mx m post cs (pc + 3) lv st (qputf h (qfk ci k) a k x)) : QR X d mx m post cs pc lv ((qfk ci k, x) :: (2, a) :: st) h := by
  intro p e R s mi ar be me c H lo ls hR hB hH hL hl
  have hB0 := hB
  obtain ⟨-, hci, hin, hty, hnm⟩ := qcl_of ci C T N hc
  obtain ⟨hx, hb, hml, hr, hlk, hown, hts, hnme, hT⟩ := hB
  have ha := hH.2.2.1 a (by omega)
  have g := (hH.2.2.2 a.toNat (by omega)).1
  rw [show ((a.toNat : Nat) : Int) = a by omega, hs] at g
  obtain ⟨r, r1, cell, q1, q2, q3, q4⟩ := g hci
  have hr : r = (C, T, N) := Option.some.inj (r1.symm.trans hc)
  subst hr
  have hap := va_apart (own := qown (qmo m)) hts hin (qtyf ci) hty hnm hT.1 hc
  obtain ⟨hS, hfc, kC, hkC, hkind⟩ := hT.1.1 ci _ hc
  obtain ⟨cf, kf, fi, f, hi, hsl⟩ := hS k hk
  have hst := (u_facts hfc hkC (u_lays hts hin hk) hi).1
  have hnf := qfit_of X hfit
  have goal : ∀ H' : Heap, H'[(qxH X).size + a.toNat]? = some (cell.setSlot f.slot (qcv X (qfk ci k, x))) → H'.size = H.size → (∀ q, q ≠ (qxH X).size + a.toNat → H'[q]? = H[q]?) → W p (qxl X) e R s mi ar be me c H' (lo ++ [⟨(qxH X).size + a.toNat, f.slot⟩]) cs.1 cs.2 (MQ be (QQc X (qrk (qmr m)) post) ar s mx.1 mx.2 (qA X)) (F0 mi (pc + 3) ls (st.map (qcv X))) := by
    intro H' e1 e2 e3
    refine kk p e R s mi ar be me c H' _ ls hR hB0 ?_ ?_ hl
    · obtain ⟨s1, s2, s3⟩ := qputf_s h (qfk ci k) a k x
      refine qhp_put hH s1 s2 ha s3 e2 e3 ?_
      refine ⟨fun _ => ?_, fun hz => ?_⟩
      · rw [s2, show ((a.toNat : Nat) : Int) = a by omega, hs]
        rw [hsl] at e1
        refine ⟨_, hc, (show t_OB _ _ _ _ _ (updV _ k _) from ⟨_, e1, q2, q3, t_set q4 hap hk (qcv X (qfk ci k, x))⟩).to (fun j hj => ?_)⟩
        unfold updV
        rw [qputf_val]
        by_cases hjk : j = k
        · subst hjk; simp
        · have : ¬ ((j : Int) = k) := by omega
          simp [hjk, this]
      · rw [s2, show ((a.toNat : Nat) : Int) = a by omega, hs] at hz; omega
    · intro q hq
      rcases List.mem_append.mp hq with hq | hq
      · exact hL q hq
      · rw [List.mem_singleton.mp hq]; exact Nat.le_add_right _ _
  simp only [List.map_cons]
  rw [qcv_ref ha.1]
  have hlay := hts _ (hin _ (u_in_lay hk))
  unfold u_lay at hlay
  by_cases hf : (T k).2.2.2 = true
  · rw [if_pos hf] at hlay
    obtain ⟨hin2, hdecl⟩ : (qmy m).name = "<init>" ∧ (T k).1 = qown (qmo m) := by
      rcases hfin with z | z
      · rw [hf] at z; cases z
      · exact z
    have hcf : mi.cls = cf := by
      obtain ⟨_, _, c', _, _, _, -, -, hf', -, -, -, hown2, -⟩ := Cond.laysFinal_spec hlay
      have e1 : c' = cf := by have := hi.symm.trans hf'; simp at this; exact this.1.symm
      rw [hdecl] at hown2
      rw [← e1]; exact Option.some.inj (hown.symm.trans hown2)
    have h6 := u_fits hfc hkC hkind (Or.inr hlay) hi (hty k hk) hnf.1 hnf.2
    exact W.putFinK hx hb hown (hts _ hlink) hi hst hcf (hnme.trans hin2) (by rw [q2]; exact h6) q1 q3 (by rw [hsl]; exact k2_hasslot (q4 k hk)) rfl rfl hd goal
  · rw [if_neg hf] at hlay
    have h6 := u_store hfc hkC hkind hlay hi (hty k hk) hnf.1 hnf.2
    exact W.putK hx hb (f := f) ⟨hown, hts _ hlink, ⟨_, _, _, hi⟩, hst⟩ (by rw [q2]; exact h6) q1 q3 (by rw [hsl]; exact k2_hasslot (q4 k hk)) rfl rfl hd goal
end QHeap
