section Deed60
variable {X : QX} {x : Int} {d : Nat} {post : Int → QMem → Prop} {M : QMem} {cont : Int → Int → QMem → Prop}
theorem rel_back (hR : Rel M) {e : Int} (he : in32 e) (hp : ∀ v M3, Rel M3 → cont v v M3) : QCm X x (d + 8) 1 yX10_back [(2, 0), (0, e)] M (fun x1 M1 => QCm X x (d + 8) 1 yX11_back [(2, 215), (0, e)] M1 (fun x2 M2 => cont x1 x2 M2)) := by
  have hn := hR.2.1.2.2.1
  have hN := hR.2.1.1
  have hs := hR.2.1.2.1
  have hT := hR.1.2.1.2.2.2.1
  have wb := rWhyBack_b (M 216) e
  have a3 := hR.1.1.2.2.1
  have hcl := hR.1.1.cells
  refine QC.of qmX10_back_ok rfl (TX10_back_0 (c_whyNotBack (Or.inl rfl) hR.1 he ⟨fun z => ?_, fun z => ⟨(i32 (by omega) (by omega)), ?_⟩⟩))
  · have z0 := rWhyBack_zero z
    refine c_keep hR.1 hn (by rw [hs]; exact hN) (fun M2 m1 m2 m3 m4 => ?_)
    have K2 := hR.1.kept hn m1
    refine c_tryBack (Or.inl rfl) K2 he (fun _ M3 s1 s2 => ?_) (fun y => absurd z y)
    have G := rOff_good hR.1.1 hR.1.2.1 z
    have D : dC (M 216) (rOff (M 216) e) M M3 := dC.of hn m1 m2 m3 m4 (oK.sK s1) s2
    refine ⟨(by omega), (by omega), ?_⟩
    have v1 : M3 29 e = rOff (M 216) e (54 + e) := s2.2.1 e z0.1.1 (by rw [G.2 3 (by omega)]; exact z0.1.2)
    rw [v1]
    have e1 : M3 216 = M 216 := D.2.2.2.2 216 (by omega) (by omega) (by omega) (by omega) (by omega) (by omega) (by omega)
    have g : gK M3 (qup M3 215 0 0) := gK.thrown M3 (by decide)
    have e2 : (qup M3 215 0 0) 216 = M 216 := g.all.trans e1
    refine QC.of qmX11_back_ok rfl (TX11_back_0 ⟨he, m_whyBack (by rw [e2]; exact hR.1.1) (by rw [e2]; exact hR.1.2.1) he.to64 ?_⟩)
    rw [e2]
    refine ⟨fun _ => m_keeps (fun Mb b1 b2 => ?_), fun y => absurd z y⟩
    have eb : Mb 216 = M 216 := (b1 216 (by omega)).trans e2
    have hl := hR.1.2.1.2.1.1 e z0.1.1 (by omega)
    have hE := rEnd_b hR.1.1 hR.1.2.1.2.1 z0.1.1 z0.1.2
    have hc := hR.1.2.1.2.2.1 _ hE.1 (by omega)
    rw [rEnd, if_neg z0.2.1] at hE hc
    refine m_takesOff (by omega) (by rw [eb]; omega) (by rw [eb]; omega) (by rw [eb]; exact (i32 (by omega) (by omega))) (fun Mc c0 ec => ?_)
    have c1 : rK Mb Mc := fun a a0 _ _ _ _ => c0 a a0
    rw [eb] at ec
    have n0 : Mc 216 363 = M 216 363 := by rw [ec]; exact G.2 363 (by omega)
    refine m_notes (by rw [n0]; exact hN) (fun Md d1 d2 => ⟨(by omega), (by omega), ?_⟩)
    have DR : dR (M 216) (rOff (M 216) e) M3 Md := dR.of g (dR_thrown (lK.refl _)) e1 b1 b2 c1 ec d1 d2
    have v2 : Md 216 (54 + e) = rOff (M 216) e (54 + e) := by rw [d2, rNote_low (by rw [n0]; exact hN.1) (by omega), ec]
    rw [v2]
    exact hp _ Md (hR.deed G D DR)
  · have g : gK M (qup M 215 0 0) := gK.thrown M (by decide)
    have e2 : (qup M 215 0 0) 216 = M 216 := g.all
    refine QC.of qmX11_back_ok rfl (TX11_back_0 ⟨he, m_whyBack (by rw [e2]; exact hR.1.1) (by rw [e2]; exact hR.1.2.1) he.to64 ?_⟩)
    rw [e2]
    exact ⟨fun y => absurd y z, fun _ => ⟨(i32 (by omega) (by omega)), hp _ _ (hR.keep g)⟩⟩
theorem rel_takeIn (hR : Rel M) {e : Int} (he : in32 e) (hp : ∀ v M3, Rel M3 → cont v v M3) : QCm X x (d + 8) 1 yX10_takeIn [(2, 0), (0, e)] M (fun x1 M1 => QCm X x (d + 8) 1 yX11_takeIn [(2, 215), (0, e)] M1 (fun x2 M2 => cont x1 x2 M2)) := by
  have hn := hR.2.1.2.2.1
  have hN := hR.2.1.1
  have hs := hR.2.1.2.1
  have hT := hR.1.2.1.2.2.2.1
  have wb := rWhyIn_b (M 216) e
  have a3 := hR.1.1.2.2.1
  have hcl := hR.1.1.cells
  refine QC.of qmX10_takeIn_ok rfl (TX10_takeIn_0 (c_whyNotIn (Or.inl rfl) hR.1 he ⟨fun z => ?_, fun z => ⟨(i32 (by omega) (by omega)), ?_⟩⟩))
  · have z0 := rWhyIn_zero z
    refine c_keep hR.1 hn (by rw [hs]; exact hN) (fun M2 m1 m2 m3 m4 => ?_)
    have K2 := hR.1.kept hn m1
    refine c_tryIn (Or.inl rfl) K2 he (fun _ M3 s1 s2 => ?_) (fun y => absurd z y)
    have G := rOffs_good hR.1.1 hR.1.2.1 z
    have D : dC (M 216) (rOffs (M 216) e (M 216 (60 + e)).toNat) M M3 := dC.of hn m1 m2 m3 m4 (oK.sK s1) s2
    refine ⟨(by omega), (by omega), ?_⟩
    have v1 : M3 29 e = rOffs (M 216) e (M 216 (60 + e)).toNat (54 + e) := s2.2.1 e z0.1.1 (by rw [G.2 3 (by omega)]; exact z0.1.2)
    rw [v1]
    have e1 : M3 216 = M 216 := D.2.2.2.2 216 (by omega) (by omega) (by omega) (by omega) (by omega) (by omega) (by omega)
    have g : gK M3 (qup M3 215 0 0) := gK.thrown M3 (by decide)
    have e2 : (qup M3 215 0 0) 216 = M 216 := g.all.trans e1
    refine QC.of qmX11_takeIn_ok rfl (TX11_takeIn_0 ⟨he, m_whyIn (by rw [e2]; exact hR.1.1) (by rw [e2]; exact hR.1.2.1) he.to64 ?_⟩)
    rw [e2]
    refine ⟨fun _ => m_keeps (fun Mb b1 b2 => ?_), fun y => absurd z y⟩
    have eb : Mb 216 = M 216 := (b1 216 (by omega)).trans e2
    refine m_takesAll (by rw [eb]; exact hR.1.1) (by rw [eb]; exact hR.1.2.1) (by rw [eb]; exact z0.1) (by rw [eb]; exact z0.2.2) (fun Mc c0 ec => ?_)
    have c1 : rK Mb Mc := fun a a0 _ _ _ _ => c0 a a0
    rw [eb] at ec
    have n0 : Mc 216 363 = M 216 363 := by rw [ec]; exact G.2 363 (by omega)
    refine m_notes (by rw [n0]; exact hN) (fun Md d1 d2 => ⟨(by omega), (by omega), ?_⟩)
    have DR : dR (M 216) (rOffs (M 216) e (M 216 (60 + e)).toNat) M3 Md := dR.of g (dR_thrown (lK.refl _)) e1 b1 b2 c1 ec d1 d2
    have v2 : Md 216 (54 + e) = rOffs (M 216) e (M 216 (60 + e)).toNat (54 + e) := by rw [d2, rNote_low (by rw [n0]; exact hN.1) (by omega), ec]
    rw [v2]
    exact hp _ Md (hR.deed G D DR)
  · have g : gK M (qup M 215 0 0) := gK.thrown M (by decide)
    have e2 : (qup M 215 0 0) 216 = M 216 := g.all
    refine QC.of qmX11_takeIn_ok rfl (TX11_takeIn_0 ⟨he, m_whyIn (by rw [e2]; exact hR.1.1) (by rw [e2]; exact hR.1.2.1) he.to64 ?_⟩)
    rw [e2]
    exact ⟨fun y => absurd y z, fun _ => ⟨(i32 (by omega) (by omega)), hp _ _ (hR.keep g)⟩⟩
theorem rel_setOut (hR : Rel M) {e : Int} (he : in32 e) (hp : ∀ v M3, Rel M3 → cont v v M3) : QCm X x (d + 8) 1 yX10_setOut [(2, 0), (0, e)] M (fun x1 M1 => QCm X x (d + 8) 1 yX11_setOut [(2, 215), (0, e)] M1 (fun x2 M2 => cont x1 x2 M2)) := by
  have hn := hR.2.1.2.2.1
  have hN := hR.2.1.1
  have hs := hR.2.1.2.1
  have hT := hR.1.2.1.2.2.2.1
  have wb := rWhyOut_b (M 216) e
  have a3 := hR.1.1.2.2.1
  have hcl := hR.1.1.cells
  refine QC.of qmX10_setOut_ok rfl (TX10_setOut_0 (c_whyNotOut (Or.inl rfl) hR.1 he ⟨fun z => ?_, fun z => ⟨(i32 (by omega) (by omega)), ?_⟩⟩))
  · have z0 := rWhyOut_zero z
    refine c_keep hR.1 hn (by rw [hs]; exact hN) (fun M2 m1 m2 m3 m4 => ?_)
    have K2 := hR.1.kept hn m1
    refine c_tryOut (Or.inl rfl) K2 he (fun _ M3 s1 s2 => ?_) (fun y => absurd z y)
    have G := rOut_good hR.1.1 hR.1.2.1 z
    have D : dC (M 216) (rOut (M 216) e) M M3 := dC.of hn m1 m2 m3 m4 (oK.sK s1) s2
    have v1 : M3 27 6 = rOut (M 216) e 330 := s2.2.2.2.2.2.1
    rw [v1]
    have e1 : M3 216 = M 216 := D.2.2.2.2 216 (by omega) (by omega) (by omega) (by omega) (by omega) (by omega) (by omega)
    have g : gK M3 (qup M3 215 0 0) := gK.thrown M3 (by decide)
    have e2 : (qup M3 215 0 0) 216 = M 216 := g.all.trans e1
    refine QC.of qmX11_setOut_ok rfl (TX11_setOut_0 ⟨he, m_whyOut (by rw [e2]; exact hR.1.1) (by rw [e2]; exact hR.1.2.1) he.to64 ?_⟩)
    rw [e2]
    refine ⟨fun _ => m_keeps (fun Mb b1 b2 => ?_), fun y => absurd z y⟩
    have eb : Mb 216 = M 216 := (b1 216 (by omega)).trans e2
    refine m_setsOut (by rw [eb]; omega) (fun Mc c0 ec => ?_)
    have c1 : rK Mb Mc := fun a a0 _ _ _ _ => c0 a a0
    rw [eb] at ec
    have n0 : Mc 216 363 = M 216 363 := by rw [ec]; exact G.2 363 (by omega)
    refine m_notes (by rw [n0]; exact hN) (fun Md d1 d2 => ?_)
    have DR : dR (M 216) (rOut (M 216) e) M3 Md := dR.of g (dR_thrown (lK.refl _)) e1 b1 b2 c1 ec d1 d2
    have v2 : Md 216 330 = rOut (M 216) e 330 := by rw [d2, rNote_low (by rw [n0]; exact hN.1) (by omega), ec]
    rw [v2]
    exact hp _ Md (hR.deed G D DR)
  · have g : gK M (qup M 215 0 0) := gK.thrown M (by decide)
    have e2 : (qup M 215 0 0) 216 = M 216 := g.all
    refine QC.of qmX11_setOut_ok rfl (TX11_setOut_0 ⟨he, m_whyOut (by rw [e2]; exact hR.1.1) (by rw [e2]; exact hR.1.2.1) he.to64 ?_⟩)
    rw [e2]
    exact ⟨fun y => absurd y z, fun _ => ⟨(i32 (by omega) (by omega)), hp _ _ (hR.keep g)⟩⟩
end Deed60
