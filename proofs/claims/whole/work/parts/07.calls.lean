section QCalls
variable {X : QX} {d : Nat} {mx : Nat × Nat} {m : QMeth} {post : Int → QH → Prop} {cs : Nat × Nat} {pc : Nat} {lv : List (Nat × QV)} {st : List QV} {h : QH}
theorem qpc_blind {as : List QV} : FrameBlind (QPc X as h) := fun a U g mk q => ⟨q.1, QT.same (u := U) (U := U.calling g mk a) rfl q.2.1, q.2.2⟩
def qrl (rk : Nat) (x : Int) : List QV := match rk with
  | 0 => [] | k + 1 => [(k, x)]
theorem qret_list (rk : Nat) (x : Int) : (qret X rk x).toList = (qrl rk x).map (qcv X) := by
  cases rk <;> rfl
/-- behind a call -/
theorem qcall_go {p : Program} {e : Env} {R : Room} {s : State} {mi : MethodId} {ar : Array Value} {be : List Frame} {me : Method} {c : Code} {H : Heap} {lo : List Loc} {ls : Array Slot} {mc ms rk : Nat} {st0 : List Value} {a : Array Value} {post' : Int → QH → Prop}
    (hR : d ≤ R.frames ∧ 80 * d ≤ R.locals ∧ R.cells = mx.1 ∧ R.slots = mx.2) (hB : QB X m p s mi ar me c) (hL : ∀ q ∈ lo, (qxH X).size ≤ q.base) (hl : lv_has ls (qmL m) (lv.map fun q => (q.1, qcv X q.2)))
    (hr : va_Run p (qxl X) e R s mi ar be me c H lo cs.1 cs.2 mc ms (F0 mi pc ls st0) (st.map (qcv X)) (QQc X rk post' a) (qA X))
    (k : ∀ (x : Int) (h' : QH), post' x h' → QR X d mx m post (cs.1 + mc, cs.2 + ms) (pc + 3) lv (qrl rk x ++ st) h') :
    W p (qxl X) e R s mi ar be me c H lo cs.1 cs.2 (MQ be (QQc X (qrk (qmr m)) post) ar s mx.1 mx.2 (qA X)) (F0 mi pc ls st0) := by
  intro T hT X0
  obtain ⟨v, st₀, t, T', L, h0, X', hL', e1, e2, ⟨x, h', hv, hp, hT', hH'⟩, go⟩ := hr T hT X0
  cases hv
  obtain ⟨t2, a1, b1⟩ := k x h' hp p e R s mi ar be me c T'.heap (lo ++ L) ls hR hB (by rw [e1]; exact hH') (fun q hq => by
    rcases List.mem_append.mp hq with hq | hq
    · exact hL q hq
    · exact hL' q hq) hl T' rfl X'
  refine ⟨t2, go t2 ?_, b1⟩
  rw [List.map_append, ← qret_list] at a1
  exact a1
/-- what a call's own row of the tables says: kind (0 virtual, 1 static, 2 a constructor), callee, how many parameters, the receiver's class -/
def QLk (o i kd : Nat) (y : MethodName) (na ci : Nat) : Prop :=
  Cond.methodLink (qown o) i y ∈ qtbl ∧ Cond.initialized y.cls ∈ qtbl ∧ (y.cls ≠ "java/lang/invoke/MethodHandle" ∧ y.cls ≠ "java/lang/invoke/VarHandle" ∧ (parseMethodDescriptor y.desc).map (fun d => d.parameters.length) = some na) ∧
  (kd = 0 → Cond.instanceMethod y ∈ qtbl ∧ Cond.selects y.cls y y ∈ qtbl ∧ ∃ r : vw_C, vwCl[ci]? = some r ∧ r.1 = y.cls) ∧ (kd = 1 → Cond.static y ∈ qtbl) ∧ (kd = 2 → y.name = "<init>" ∧ Cond.instanceMethod y ∈ qtbl)
theorem qwsum (X : QX) (l : List QV) : ((l.map (qcv X)).map fun v => v.category).sum = (l.map fun v => if v.1 = 1 then 2 else 1).sum := by
  induction l with
  | nil => rfl
  | cons v l ih =>
    simp only [List.map_cons, List.sum_cons]
    rw [ih]
    congr 1
    by_cases hv : v.1 = 1
    · rw [if_pos hv]
      obtain ⟨k, x⟩ := v
      cases hv
      rfl
    · rw [if_neg hv, qcat1 X hv]
abbrev qwt (l : List QV) : Nat := (l.map fun v => if v.1 = 1 then 2 else 1).sum
theorem qcallB {R : Room} {s : State} {args : Array Value} {o i kd na ci dd mc ms maxL : Nat} {y : MethodName} {cc : ByteArray} {ret : Option FieldType} (hts : ∀ w ∈ qtbl, w.before args s = true) (hk : QLk o i kd y na ci) (hcode : Cond.code y cc maxL ret ∈ qtbl) (hmax : maxL ≤ 60) (hR : dd + 1 ≤ R.frames ∧ 80 * (dd + 1) ≤ R.locals) :
    CallB R s args (qown o) i y cc maxL ret (Cond.code y cc maxL ret :: qtbl) (qroom dd mc ms) mc ms na :=
  callB_of na hts (fun w hw => by
    rcases List.mem_cons.mp hw with rfl | hw
    · exact qtbl_good _ hcode
    · exact qtbl_good _ hw) rfl rfl rfl (hts _ hk.2.1) (hts _ hk.1) hk.2.2.1 ⟨hR.1, by show 8 + (maxL + 11) + 80 * dd ≤ R.locals; omega⟩
theorem qs_invokevirtual {i na ci mc ms rk dd : Nat} {y : MethodName} {as : List QV} {a : Int} (hk : QLk (qmo m) i 0 y na ci) (hdd : d = dd + 1) (hn : as.length = na) (hs : (h.1.2.1 a).1 = ci) (hw : qwt st ≤ 8) (hf : cs.1 + mc ≤ mx.1 ∧ cs.2 + ms ≤ mx.2) (hd : decode (qmc m) pc = .ok (.invokevirtual i, 3))
    (kk : QC X dd mc ms rk y ((2, a) :: as) h (fun x h' => QR X d mx m post (cs.1 + mc, cs.2 + ms) (pc + 3) lv (qrl rk x ++ st) h')) : QR X d mx m post cs pc lv (as.reverse ++ (2, a) :: st) h := by
  intro p e R s mi ar be me c H lo ls hR hB hH hL hl
  have hB0 := hB
  subst hdd
  obtain ⟨cc, maxL, ret, hcode, hmax, hrk, hM⟩ := kk
  obtain ⟨hx, hb, hml, hr, hlk, hown, hts, hnme, hT⟩ := hB
  obtain ⟨hi0, hi1, r, hr0, hr1⟩ := hk.2.2.2.1 rfl
  have hc100 := (qcl_of ci r.1 r.2.1 r.2.2 hr0).2.1
  have ha := hH.2.2.1 a (by omega)
  have g := (hH.2.2.2 a.toNat (by omega)).1
  rw [show ((a.toNat : Nat) : Int) = a by omega, hs] at g
  obtain ⟨r', r1, cell, q1, q2, q3, q4⟩ := g hc100
  have hcls := (hT.1.1 ci _ hr0).2.1
  rw [List.map_append, List.map_reverse, List.map_cons, qcv_ref ha.1]
  refine qcall_go hR hB0 hL hl (va_runV (C := y.cls) (As := as.map (qcv X)) (bytes := cc) (maxL := maxL) (ret := ret) (nL := qmL m) (Ts := qtbl) (own := qown (qmo m)) ⟨hx, hb, hml, hown, hts⟩ hM ⟨qcallB hts hk hcode hmax ⟨hR.1, hR.2.1⟩, hts _ hi0, hts _ hi1⟩ ⟨qpc_blind, ⟨cell, q1, by rw [q3]; rfl, ?_⟩, fun U hU hW => ⟨?_, hT.moved hW, by rw [hU]; exact hH⟩⟩ rfl (by rw [List.length_map]; exact hn) hl.1 rfl (lv_room (by rw [qwsum]; exact hw)) hd ⟨by rw [hR.2.2.1]; exact hf.1, by rw [hR.2.2.2]; exact hf.2⟩) (fun x h' hp => hp)
  · rw [q2, ← hr1]; exact hcls
  · rw [List.map_cons, qcv_ref ha.1]
/-- the receiver is one of the texts -/
theorem qs_invokestr {i na ci mc ms rk dd : Nat} {y : MethodName} {as : List QV} {a : Int} (hk : QLk (qmo m) i 5 y na ci) (hk0 : Cond.instanceMethod y ∈ qtbl ∧ Cond.selects y.cls y y ∈ qtbl ∧ y.cls = "java/lang/String") (hdd : d = dd + 1) (hn : as.length = na) (hs : -19 < a ∧ a ≤ -3) (hw : qwt st ≤ 8) (hf : cs.1 + mc ≤ mx.1 ∧ cs.2 + ms ≤ mx.2) (hd : decode (qmc m) pc = .ok (.invokevirtual i, 3))
    (kk : QC X dd mc ms rk y ((2, a) :: as) h (fun x h' => QR X d mx m post (cs.1 + mc, cs.2 + ms) (pc + 3) lv (qrl rk x ++ st) h')) : QR X d mx m post cs pc lv (as.reverse ++ (2, a) :: st) h := by
  intro p e R s mi ar be me c H lo ls hR hB hH hL hl
  have hB0 := hB
  subst hdd
  obtain ⟨cc, maxL, ret, hcode, hmax, hrk, hM⟩ := kk
  obtain ⟨hx, hb, hml, hr, hlk, hown, hts, hnme, hT⟩ := hB
  obtain ⟨hi0, hi1, hyc⟩ := hk0
  have er : qcv X (2, a) = .ref (qxo X (1 + (-3 - a).toNat)) := by
    show qrv X a = _
    rw [qrv, if_neg (by omega), if_neg (by omega), show (-2 - a).toNat = 1 + (-3 - a).toNat by omega]
  obtain ⟨cell, q1, q2, q3, q4⟩ := ((hT.2.2.2.2.2.1).1 (-3 - a).toNat (by omega)).1.kept (fun q hq _ => hH.2.1 q hq)
  rw [List.map_append, List.map_reverse, List.map_cons, er]
  refine qcall_go hR hB0 hL hl (va_runV (C := y.cls) (As := as.map (qcv X)) (bytes := cc) (maxL := maxL) (ret := ret) (nL := qmL m) (Ts := qtbl) (own := qown (qmo m)) ⟨hx, hb, hml, hown, hts⟩ hM ⟨qcallB hts hk hcode hmax ⟨hR.1, hR.2.1⟩, hts _ hi0, hts _ hi1⟩ ⟨qpc_blind, ⟨cell, q1, q2, by rw [hyc]; exact q3⟩, fun U hU hW => ⟨?_, hT.moved hW, by rw [hU]; exact hH⟩⟩ rfl (by rw [List.length_map]; exact hn) hl.1 rfl (lv_room (by rw [qwsum]; exact hw)) hd ⟨by rw [hR.2.2.1]; exact hf.1, by rw [hR.2.2.2]; exact hf.2⟩) (fun x h' hp => hp)
  rw [List.map_cons, er]
theorem qs_invokestatic {i na ci mc ms rk dd : Nat} {y : MethodName} {as : List QV} (hk : QLk (qmo m) i 1 y na ci) (hdd : d = dd + 1) (hn : as.length = na) (hw : qwt st ≤ 8) (hf : cs.1 + mc ≤ mx.1 ∧ cs.2 + ms ≤ mx.2) (hd : decode (qmc m) pc = .ok (.invokestatic i, 3))
    (kk : QC X dd mc ms rk y as h (fun x h' => QR X d mx m post (cs.1 + mc, cs.2 + ms) (pc + 3) lv (qrl rk x ++ st) h')) : QR X d mx m post cs pc lv (as.reverse ++ st) h := by
  intro p e R s mi ar be me c H lo ls hR hB hH hL hl
  have hB0 := hB
  subst hdd
  obtain ⟨cc, maxL, ret, hcode, hmax, hrk, hM⟩ := kk
  obtain ⟨hx, hb, hml, hr, hlk, hown, hts, hnme, hT⟩ := hB
  rw [List.map_append, List.map_reverse]
  exact qcall_go hR hB0 hL hl (va_runS (As := as.map (qcv X)) (bytes := cc) (maxL := maxL) (ret := ret) (nL := qmL m) (Ts := qtbl) (own := qown (qmo m)) ⟨hx, hb, hml, hown, hts⟩ hM ⟨qcallB hts hk hcode hmax ⟨hR.1, hR.2.1⟩, hts _ (hk.2.2.2.2.1 rfl)⟩ ⟨qpc_blind, fun U hU hW => ⟨rfl, hT.moved hW, by rw [hU]; exact hH⟩⟩ rfl (by rw [List.length_map]; exact hn) hl.1 rfl (lv_room (by rw [qwsum]; exact hw)) hd ⟨by rw [hR.2.2.1]; exact hf.1, by rw [hR.2.2.2]; exact hf.2⟩) (fun x h' hp => hp)
theorem qs_invokeinit {i na ci mc ms dd : Nat} {y : MethodName} {as : List QV} {a : Int} (hk : QLk (qmo m) i 2 y na ci) (hdd : d = dd + 1) (hn : as.length = na) (ha : 0 ≤ a) (hw : qwt st ≤ 8) (hf : cs.1 + mc ≤ mx.1 ∧ cs.2 + ms ≤ mx.2) (hd : decode (qmc m) pc = .ok (.invokespecial i, 3))
    (kk : QC X dd mc ms 0 y ((2, a) :: as) h (fun _ h' => QR X d mx m post (cs.1 + mc, cs.2 + ms) (pc + 3) lv st h')) : QR X d mx m post cs pc lv (as.reverse ++ (2, a) :: st) h := by
  intro p e R s mi ar be me c H lo ls hR hB hH hL hl
  have hB0 := hB
  subst hdd
  obtain ⟨cc, maxL, ret, hcode, hmax, hrk, hM⟩ := kk
  have hret : ret = none := by
    cases ret with
    | none => rfl
    | some t => simp [qrk] at hrk
  subst hret
  obtain ⟨hx, hb, hml, hr, hlk, hown, hts, hnme, hT⟩ := hB
  obtain ⟨hi0, hi1⟩ := hk.2.2.2.2.2 rfl
  rw [List.map_append, List.map_reverse, List.map_cons, qcv_ref ha]
  refine qcall_go (rk := 0) hR hB0 hL hl (va_runI (As := as.map (qcv X)) (bytes := cc) (maxL := maxL) (nL := qmL m) (Ts := qtbl) (own := qown (qmo m)) ⟨hx, hb, hml, hown, hts⟩ hM ⟨qcallB hts hk hcode hmax ⟨hR.1, hR.2.1⟩, hi0, hts _ hi1⟩ ⟨qpc_blind, fun U hU hW => ⟨?_, hT.moved hW, by rw [hU]; exact hH⟩⟩ rfl (by rw [List.length_map]; exact hn) hl.1 rfl (lv_room (by rw [qwsum]; exact hw)) hd ⟨by rw [hR.2.2.1]; exact hf.1, by rw [hR.2.2.2]; exact hf.2⟩) (fun x h' hp => hp)
  rw [List.map_cons, qcv_ref ha]
theorem qs_objinit {i : Nat} {a : Int} (hk : Cond.methodLink (qown (qmo m)) i Lib.objectInit ∈ qtbl) (hk1 : Cond.instanceMethod Lib.objectInit ∈ qtbl) (hk2 : Cond.code Lib.objectInit ⟨#[0xb1]⟩ 1 none ∈ qtbl) (hdd : 1 ≤ d) (ha : 0 ≤ a) (hw : qwt st ≤ 8) (hd : decode (qmc m) pc = .ok (.invokespecial i, 3))
    (kk : QR X d mx m post cs (pc + 3) lv st h) : QR X d mx m post cs pc lv ((2, a) :: st) h := by
  intro p e R s mi ar be me c H lo ls hR hB hH hL hl
  have kk := kk p e R s mi ar be me c H lo ls hR hB hH hL hl
  obtain ⟨hx, hb, hml, hr, hlk, hown, hts, hnme, hT⟩ := hB
  rw [List.map_cons, qcv_ref ha]
  exact W.objInit hx hb hown (hts _ hk) (hts _ hk1) (hts _ hk2) rfl (by rw [hml]; exact hl.1) rfl hd (by omega) (by
    have := lv_room (m := mi) (pc := pc) (ls := ls) (rest := Value.ref ((qxH X).size + a.toNat) :: st.map (qcv X)) (st := st.map (qcv X)) (by rw [qwsum]; exact hw)
    omega) kk
/-- a new cell behind all others -/
def qnew (h : QH) (kd : Nat) (n : Int) : QH := ((h.1.1 + 1, (fun b => if b = h.1.1 then (kd, n) else h.1.2.1 b), (fun b j => if b = h.1.1 then -1 else h.1.2.2 b j)), (fun b j => if b = h.1.1 then 0 else h.2 b j))
theorem qhp_new {H H1 : Heap} {kd : Nat} {n : Int} (hH : QHp X h H) (hkd : kd ≠ 999) (z : H1.size = H.size + 1) (oq : ∀ q : Nat, q < H.size → H1[q]? = H[q]?) (hat : 0 ≤ h.1.1 → qat X (qnew h kd n) h.1.1.toNat H1) (h0 : 0 ≤ h.1.1) : QHp X (qnew h kd n) H1 := by
  obtain ⟨g1, g2, g3, g4⟩ := hH
  refine ⟨by show (H1.size : Int) = _ + (h.1.1 + 1); omega, fun q hq => (oq q (by omega)).trans (g2 q hq), fun a ha => ?_, fun a ha => ?_⟩
  · by_cases e : a = h.1.1
    · show 0 ≤ a ∧ a < h.1.1 + 1
      omega
    · have : ((qnew h kd n).1.2.1 a) = h.1.2.1 a := by show (if a = h.1.1 then _ else _) = _; rw [if_neg e]
      rw [this] at ha
      have := g3 a ha
      show 0 ≤ a ∧ a < h.1.1 + 1
      omega
  · by_cases e : (a : Int) = h.1.1
    · have := hat h0
      rw [show h.1.1.toNat = a by omega] at this
      exact this
    · have ha' : (a : Int) < h.1.1 := by
        have : (a : Int) < h.1.1 + 1 := ha
        omega
      obtain ⟨f1, f2⟩ := g4 a ha'
      have hs : ((qnew h kd n).1.2.1 a) = h.1.2.1 a := by show (if (a : Int) = h.1.1 then _ else _) = _; rw [if_neg e]
      have hv : ∀ k (j : Int), qval (qnew h kd n) k a j = qval h k a j := by
        intro k j
        unfold qval
        split
        · show (if (a : Int) = h.1.1 then _ else _) = _; rw [if_neg e]
        · show (if (a : Int) = h.1.1 then _ else _) = _; rw [if_neg e]
      have hq : H1[(qxH X).size + a]? = H[(qxH X).size + a]? := oq _ (by omega)
      refine ⟨fun hc => ?_, fun hc => ?_⟩
      · rw [hs] at hc ⊢
        obtain ⟨r, r1, r2⟩ := f1 hc
        exact ⟨r, r1, (r2.kept hq).to (fun k _ => by rw [hv])⟩
      · rw [hs] at hc ⊢
        obtain ⟨r1, r2, r3, r4⟩ := f2 hc
        refine ⟨r1, r2, r3, ?_⟩
        rw [hq, r4]
        congr 2
        funext j
        rw [hv]
theorem qdef (X : QX) (t : FieldType) : defaultValue t = qcv X (qkd t, if qkd t = 2 then -1 else 0) ∨ t = .float ∨ t = .double := by
  cases t <;> first | exact Or.inl rfl | exact Or.inr (Or.inl rfl) | exact Or.inr (Or.inr rfl)
theorem qnew_val (h : QH) (kd : Nat) (n : Int) (k : Nat) (j : Int) : qval (qnew h kd n) k h.1.1 j = if k = 2 then -1 else 0 := by
  by_cases hk : k = 2
  · subst hk
    show (if h.1.1 = h.1.1 then (-1 : Int) else _) = _
    simp
  · rw [qval_ne _ hk, if_neg hk]
    show (if h.1.1 = h.1.1 then (0 : Int) else _) = _
    simp
theorem qnew_sh (h : QH) (kd : Nat) (n : Int) : (qnew h kd n).1.2.1 h.1.1 = (kd, n) := by
  show (if h.1.1 = h.1.1 then (kd, n) else _) = _
  simp
theorem qs_new {i ci : Nat} {C : String} {T : u_T} {N : Nat} (hc : vwCl[ci]? = some (C, T, N)) (hcl : Cond.classLink (qown (qmo m)) i C ∈ qtbl) (hins : Cond.instantiable C N ∈ qtbl) (hini : Cond.initialized C ∈ qtbl) (hnf : ∀ k, k < N → qtyf ci k ≠ .float ∧ qtyf ci k ≠ .double) (h0 : 0 ≤ h.1.1) (hf : cs.1 + 1 ≤ mx.1 ∧ cs.2 + N ≤ mx.2) (hd : decode (qmc m) pc = .ok (.new i, 3))
    (kk : QR X d mx m post (cs.1 + 1, cs.2 + N) (pc + 3) lv ((2, h.1.1) :: st) (qnew h ci N)) : QR X d mx m post cs pc lv st h := by
  intro p e R s mi ar be me c H lo ls hR hB hH hL hl
  have hB0 := hB
  obtain ⟨-, hci, hin, hty, hnm⟩ := qcl_of ci C T N hc
  obtain ⟨hx, hb, hml, hr, hlk, hown, hts, hnme, hT⟩ := hB
  have hKn := hT.1.1 ci _ hc
  refine W.newcK hx hb hown (hts _ hcl) (hts _ hins) (hts _ hini) rfl hd (by rw [hR.2.2.1]; exact hf.1) (by rw [hR.2.2.2]; exact hf.2) hKn.2.1 rfl fun H1 kC hkC e1 z1 o1 => ?_
  have hsz : H.size = (qxH X).size + h.1.1.toNat := by have := hH.1; omega
  have hH1 : QHp X (qnew h ci N) H1 := by
    refine qhp_new hH (by omega) z1 o1 (fun _ => ?_) h0
    refine ⟨fun _ => ?_, fun hz => ?_⟩
    · rw [show ((h.1.1.toNat : Nat) : Int) = h.1.1 by omega, qnew_sh, ← hsz]
      refine ⟨_, hc, (u_born (qtyf ci) hts hin hKn hkC e1 hty).to (fun j hj => ?_)⟩
      show _ = qcv X (qfk ci j, qval (qnew h ci N) (qfk ci j) h.1.1 j)
      rw [qnew_val]
      rcases qdef X (qtyf ci j) with q | q | q
      · exact q
      · exact absurd q (hnf j hj).1
      · exact absurd q (hnf j hj).2
    · rw [show ((h.1.1.toNat : Nat) : Int) = h.1.1 by omega, qnew_sh] at hz
      exact absurd hz (by show ¬ 100 ≤ ci; omega)
  have := kk p e R s mi ar be me c H1 lo ls hR hB0 hH1 hL hl
  rw [List.map_cons, qcv_ref h0, ← hsz] at this
  exact this
end QCalls
