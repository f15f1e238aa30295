section Deed59
variable {X : QX} {x : Int} {d : Nat} {post : Int → QMem → Prop} {M : QMem} {cont : Int → Int → QMem → Prop}
theorem rel_why (hR : Rel M) {e t : Int} (he : in32 e) (ht : in32 t) (hp : ∀ v M3, Rel M3 → cont v v M3) : QCm X x (d + 8) 1 yX10_why [(2, 0), (0, e), (0, t)] M (fun x1 M1 => QCm X x (d + 8) 1 yX11_why [(2, 215), (0, e), (0, t)] M1 (fun x2 M2 => cont x1 x2 M2)) := by
  refine QC.of qmX10_why_ok rfl (TX10_why_0 (c_whyNotLaid (Or.inl rfl) hR.1 he ht (fun M1 k1 => ?_)))
  have R1 := hR.keep k1.gK
  have e1 : M1 216 = M 216 := k1.all
  have g : gK M1 (qup M1 215 0 0) := gK.thrown M1 (by decide)
  have e2 : (qup M1 215 0 0) 216 = M 216 := g.all.trans e1
  refine QC.of qmX11_why_ok rfl (TX11_why_0 ⟨he, ht, m_whyLay (by rw [e2]; exact hR.1.1) (by rw [e2]; exact hR.1.2.1) he.to64 ht.to64 (fun M2 k2 => ?_)⟩)
  rw [e2]
  exact hp _ M2 (R1.keep (g.trans k2.gK))
theorem rel_lay (hR : Rel M) {e t o : Int} (he : in32 e) (ht : in32 t) (ho : in32 o) (hp : ∀ v M3, Rel M3 → cont v v M3) : QCm X x (d + 8) 1 yX10_lay [(2, 0), (0, e), (0, t), (0, o)] M (fun x1 M1 => QCm X x (d + 8) 1 yX11_lay [(2, 215), (0, e), (0, t), (0, o)] M1 (fun x2 M2 => cont x1 x2 M2)) := by
  have hn := hR.2.1.2.2.1
  have hN := hR.2.1.1
  have hs := hR.2.1.2.1
  have wb := rWhyLay_b (M 216) e t
  have a3 := hR.1.1.2.2.1
  refine QC.of qmX10_lay_ok rfl (TX10_lay_0 (c_whyNotLaid (Or.inl rfl) hR.1 he ht (fun M1 k1 => ⟨fun z => ?_, fun z => ⟨(i32 (by omega) (by omega)), ?_⟩⟩)))
  · have e47 : M1 47 = M 47 := k1 47 (by omega) (by omega) (by omega) (by omega)
    have z0 := rWhyLay_zero z
    refine c_keep (hR.1.keep (Or.inl rfl) k1) (by rw [e47]; exact hn) (by rw [e47, hs]; exact hN) (fun M2 m1 m2 m3 m4 => ?_)
    have K1 := hR.1.keep (Or.inl rfl) k1
    have K2 := K1.kept (by rw [e47]; exact hn) m1
    refine c_tryLaying (Or.inl rfl) K2 he ht ho (fun _ M3 s1 s2 => ⟨(by omega), (by omega), ?_⟩) (fun y => absurd z y)
    have G := rLay_ok (o := o) hR.1.1 hR.1.2.1 z
    have D0 := dC.of (M := M1) (by rw [e47]; exact hn) m1 m2 m3 m4 s1 s2
    have D : dC (M 216) (rLay (M 216) e t o) M M3 := by
      unfold dC at D0 ⊢
      rw [e47] at D0
      exact ⟨D0.1, D0.2.1, D0.2.2.1, D0.2.2.2.1, fun a a1 a2 a3 a4 a5 a6 a7 => (D0.2.2.2.2 a a1 a2 a3 a4 a5 a6 a7).trans (k1 a a6 a7 a4 a5)⟩
    have v1 : M3 29 e = rLay (M 216) e t o (54 + e) := s2.2.1 e z0.1.1.1 (by rw [G.2 3 (by omega)]; exact z0.1.1.2)
    rw [v1]
    have e1 : M3 216 = M 216 := D.2.2.2.2 216 (by omega) (by omega) (by omega) (by omega) (by omega) (by omega) (by omega)
    have g : gK M3 (qup M3 215 0 0) := gK.thrown M3 (by decide)
    have e2 : (qup M3 215 0 0) 216 = M 216 := g.all.trans e1
    refine QC.of qmX11_lay_ok rfl (TX11_lay_0 ⟨he, ht, m_whyLay (by rw [e2]; exact hR.1.1) (by rw [e2]; exact hR.1.2.1) he.to64 ht.to64 (fun Ma ka => ?_)⟩)
    have ea : Ma 216 = M 216 := ka.all.trans e2
    rw [e2]
    refine ⟨fun _ => m_keeps (fun Mb b1 b2 => ?_), fun y => absurd z y⟩
    have eb : Mb 216 = M 216 := (b1 216 (by omega)).trans ea
    refine m_lays (by rw [eb]; exact hR.1.1) (by rw [eb]; exact hR.1.2.1) (by rw [eb]; exact z0.1.1) z0.1.2 ho (by rw [eb]; exact z0.2.1) (by rw [eb]; exact z0.2.2.2.1) (fun Mc c1 c2 => ?_)
    rw [eb] at c2
    have ec : Mc 216 = rLay (M 216) e t o := c2
    have n0 : Mc 216 363 = M 216 363 := by rw [ec]; exact G.2 363 (by omega)
    refine m_notes (by rw [n0]; exact hN) (fun Md d1 d2 => ⟨(by omega), (by omega), ?_⟩)
    have DR : dR (M 216) (rLay (M 216) e t o) M3 Md := dR.of (g.trans ka.gK) (dR_thrown ka) e1 b1 b2 c1 ec d1 d2
    have v2 : Md 216 (54 + e) = rLay (M 216) e t o (54 + e) := by rw [d2, rNote_low (by rw [n0]; exact hN.1) (by omega), ec]
    rw [v2]
    exact hp _ Md (hR.deed G D DR)
  · have R1 := hR.keep k1.gK
    have e1 : M1 216 = M 216 := k1.all
    have g : gK M1 (qup M1 215 0 0) := gK.thrown M1 (by decide)
    have e2 : (qup M1 215 0 0) 216 = M 216 := g.all.trans e1
    refine QC.of qmX11_lay_ok rfl (TX11_lay_0 ⟨he, ht, m_whyLay (by rw [e2]; exact hR.1.1) (by rw [e2]; exact hR.1.2.1) he.to64 ht.to64 (fun M2 k2 => ?_)⟩)
    rw [e2]
    exact ⟨fun y => absurd y z, fun _ => ⟨(i32 (by omega) (by omega)), hp _ M2 (R1.keep (g.trans k2.gK))⟩⟩
end Deed59
