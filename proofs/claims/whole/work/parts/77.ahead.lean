/-- those over one, over one of these, and so on -/
def pAh (A : Int → Int) (e : Int) (k : Nat) : Prop := ∀ S : Nat → Prop, (∀ f, f < 6 → bt (pOv A e) f = true → S f) → (∀ f g : Nat, f < 6 → g < 6 → S f → bt (pOv A f) g = true → S g) → S k
def pClo (A : Int → Int) (v : Int) : Prop := ∀ f g : Nat, f < 6 → g < 6 → bt v f = true → bt (pOv A f) g = true → bt v g = true
theorem pAh_eq {A : Int → Int} {e v w : Int} (hv : 0 ≤ v ∧ v < 64) (hw : 0 ≤ w ∧ w < 64) (v1 : ∀ k, k < 6 → bt (pOv A e) k = true → bt v k = true) (v2 : ∀ k, k < 6 → bt v k = true → pAh A e k) (v3 : pClo A v) (w1 : ∀ k, k < 6 → bt (pOv A e) k = true → bt w k = true) (w2 : ∀ k, k < 6 → bt w k = true → pAh A e k) (w3 : pClo A w) : v = w := by
  refine s_ext hv hw (fun k hk => ?_)
  rw [Bool.eq_iff_iff]
  refine ⟨fun z => ?_, fun z => ?_⟩
  · exact (v2 k hk z (fun k => k < 6 ∧ bt w k = true) (fun f f0 f1 => ⟨f0, w1 f f0 f1⟩) (fun f g f0 g0 f1 f2 => ⟨g0, w3 f g f0 g0 f1.2 f2⟩)).2
  · exact (w2 k hk z (fun k => k < 6 ∧ bt v k = true) (fun f f0 f1 => ⟨f0, v1 f f0 f1⟩) (fun f g f0 g0 f1 f2 => ⟨g0, v3 f g f0 g0 f1.2 f2⟩)).2
theorem pAh_more {A : Int → Int} {e : Int} {f g : Nat} (hf : f < 6) (hg : g < 6) (h : pAh A e f) (z : bt (pOv A f) g = true) : pAh A e g := fun S s1 s2 => s2 f g hf hg (h S s1 s2) z
/-- a set that has grown has more -/
theorem crd_grow {v w : Int} (hv : 0 ≤ v ∧ v < 64) (hw : 0 ≤ w ∧ w < 64) (h : ∀ k, k < 6 → bt v k = true → bt w k = true) : v = w ∨ crd v < crd w := by
  have e : qor v w = w := by
    refine s_ext (s_or hv hw).1 hw (fun k hk => ?_)
    rw [bi_or _ _ (by omega)]
    cases hb : bt v k with
    | false => rfl
    | true => rw [h k hk hb]; rfl
  rcases crd_up hv hw with q | q
  · rw [e] at q; exact Or.inl q.symm
  · rw [e] at q; exact Or.inr q
/-- only drums lie over one -/
theorem ovN_sub {A : Int → Int} (h3 : A 3 ≤ 6) (hS : rCel A) {e : Int} (he : e ≠ -1) : ∀ n : Nat, n ≤ 36 → ∀ k : Nat, k < 6 → bt (pOvN A e n) k = true → (k : Int) < A 3 := by
  intro n
  induction n with
  | zero => intro _ k _ z; rw [pOvN, bt_0] at z; exact absurd z (by decide)
  | succ n ih =>
    intro hn k hk z
    have c := hS n (by omega) (by omega)
    rw [pOvN] at z
    split at z
    · rename_i y
      have c2 := c.2.2 (by omega)
      rw [put_i _ ⟨(by omega), (by omega)⟩ (by omega), Bool.or_eq_true] at z
      rcases z with z | z
      · exact ih (by omega) k hk z
      · have := of_decide_eq_true z; omega
    · exact ih (by omega) k hk z
theorem ov_sub {A : Int → Int} (hL : rLandOk A) (hS : rCel A) {e : Int} (he : e ≠ -1) {k : Nat} (hk : k < 6) (z : bt (pOv A e) k = true) : (k : Int) < A 3 := by
  have := hL.cells
  exact ovN_sub hL.2.2.1.2 hS he _ (by omega) k hk z
section Ahead77
variable {X : QX} {x : Int} {d : Nat} {post : Int → QMem → Prop} {M : QMem} {cont : Int → Int → QMem → Prop}
theorem m_ahead_loop (hL : rLandOk (M 216)) (hS : rStOk (M 216)) {e : Int} (he : e ≠ -1) (hp : ∀ v, 0 ≤ v ∧ v < 64 → (∀ k, k < 6 → bt (pOv (M 216) e) k = true → bt v k = true) → (∀ k, k < 6 → bt v k = true → pAh (M 216) e k) → pClo (M 216) v → post v M) : ∀ n : Nat, ∀ s t : Int, (0 ≤ s ∧ s < 64) → (0 ≤ t ∧ t < 64) → 6 ≤ crd s + n → (∀ k, k < 6 → bt s k = true → bt t k = true) → (∀ k, k < 6 → bt (pOv (M 216) e) k = true → bt t k = true) → (∀ k, k < 6 → bt t k = true → pAh (M 216) e k) → (∀ f g : Nat, f < 6 → g < 6 → bt s f = true → bt (pOv (M 216) f) g = true → bt t g = true) → QRm X x (d + 3) qmX11_ahead post 25 [(0, (2, 215)), (2, (0, s)), (3, (0, t))] [] M := by
  have a3 := hL.2.2.1
  have stop : ∀ s t : Int, (0 ≤ s ∧ s < 64) → s = t → (∀ k, k < 6 → bt (pOv (M 216) e) k = true → bt t k = true) → (∀ k, k < 6 → bt t k = true → pAh (M 216) e k) → (∀ f g : Nat, f < 6 → g < 6 → bt s f = true → bt (pOv (M 216) f) g = true → bt t g = true) → QRm X x (d + 3) qmX11_ahead post 25 [(0, (2, 215)), (2, (0, s)), (3, (0, t))] [] M := fun s t hs hst h2 h3 h4 => by
    subst hst
    exact TX11_ahead_25 ⟨fun _ => hp s hs h2 h3 (fun f g f0 g0 f1 f2 => h4 f g f0 g0 f1 f2), fun y => absurd rfl y⟩
  intro n
  induction n with
  | zero =>
    intro s t hs ht hc h1 h2 h3 h4
    rcases crd_grow hs ht h1 with q | q
    · exact stop s t hs q h2 h3 h4
    · have := crd_b ht; omega
  | succ n ih =>
    intro s t hs ht hc h1 h2 h3 h4
    rcases crd_grow hs ht h1 with q | q
    · exact stop s t hs q h2 h3 h4
    refine TX11_ahead_25 ⟨fun y => absurd q (by rw [y]; omega), fun _ => ⟨(i32 (by omega) (by omega)), (i32 (by omega) (by omega)), ?_⟩⟩
    have key : ∀ i : Int, ∀ u : Int, (0 ≤ i ∧ i ≤ M 216 3) ∧ (0 ≤ u ∧ u < 64) ∧ (∀ k, k < 6 → bt t k = true → bt u k = true) ∧ (∀ k, k < 6 → bt u k = true → pAh (M 216) e k) ∧ (∀ f g : Nat, (f : Int) < i → g < 6 → bt t f = true → bt (pOv (M 216) f) g = true → bt u g = true) → QRm X x (d + 3) qmX11_ahead post 35 [(0, (2, 215)), (2, (0, t)), (3, (0, u)), (4, (0, i))] [] M := by
      refine int_up (M 216 3) (fun i hi u g => ?_) (fun i hi ih2 u g => ?_)
      · obtain ⟨g0, g1, g2, g3, g4⟩ := g
        refine TX11_ahead_35 ⟨(i32 (by omega) (by omega)), (i32 (by omega) (by omega)), fun _ => ih t u ht g1 (by omega) g2 (fun k hk z => g2 k hk (h2 k hk z)) g3 (fun f g f0 g0' f1 f2 => ?_), fun y => absurd hi y⟩
        by_cases fz : (f : Int) < i
        · exact g4 f g fz g0' f1 f2
        · have p := h3 f f0 f1
          have hf : 0 ≤ pOv (M 216) f ∧ pOv (M 216) f < 64 := pOv_b hL hS.2.2.1 (by omega)
          exfalso
          exact absurd (p (fun k => (k : Int) < M 216 3) (fun k k0 k1 => ov_sub hL hS.2.2.1 he k0 k1) (fun k l k0 l0 _ k1 => ov_sub hL hS.2.2.1 (by omega) l0 k1)) (by omega)
      · obtain ⟨g0, g1, g2, g3, g4⟩ := g
        refine TX11_ahead_35 ⟨(i32 (by omega) (by omega)), (i32 (by omega) (by omega)), fun y => absurd hi (by omega), fun _ => ⟨(i32 (by omega) (by omega)), m_isIn ⟨(by omega), (by omega)⟩ (fun b => ⟨fun z => absurd z (by decide), fun _ => ⟨(i32 (by omega) (by omega)), m_aboveOf hL hS ⟨(by omega), (by omega)⟩ ?_⟩⟩) (fun b => ⟨fun _ => ih2 u ⟨⟨(by omega), (by omega)⟩, g1, g2, g3, fun f g f0 g0' f1 f2 => ?_⟩, fun z => absurd rfl z⟩)⟩⟩
        · have hf : 0 ≤ pOv (M 216) i ∧ pOv (M 216) i < 64 := pOv_b hL hS.2.2.1 (by omega)
          have ei : ((i.toNat : Nat) : Int) = i := by omega
          refine ih2 _ ⟨⟨(by omega), (by omega)⟩, (s_or g1 hf).1, fun k hk z => ?_, fun k hk z => ?_, fun f g f0 g0' f1 f2 => ?_⟩
          · rw [bi_or _ _ (by omega), g2 k hk z]; rfl
          · rw [bi_or _ _ (by omega), Bool.or_eq_true] at z
            rcases z with z | z
            · exact g3 k hk z
            · exact pAh_more (by omega) hk (h3 i.toNat (by omega) b) (by rw [ei]; exact z)
          · rw [bi_or _ _ (by omega)]
            by_cases fz : (f : Int) < i
            · rw [g4 f g fz g0' f1 f2]; rfl
            · rw [show (f : Int) = i by omega] at f2
              rw [f2, Bool.or_true]
        · by_cases fz : (f : Int) < i
          · exact g4 f g fz g0' f1 f2
          · rw [show f = i.toNat by omega] at f1
            rw [f1] at b; exact absurd b (by decide)
    exact key 0 t ⟨⟨(by omega), (by omega)⟩, ht, fun k _ z => z, h3, fun f g f0 => absurd f0 (by omega)⟩
theorem c_allOver {A : Int → Int} (hA : rLandOk A) (hS : rCel A) (hL : pLook A M) {e : Int} (he : 0 ≤ e ∧ e < 6) (hp : ∀ v, 0 ≤ v ∧ v < 64 → (∀ k, k < 6 → bt (pOv A e) k = true → bt v k = true) → (∀ k, k < 6 → bt v k = true → pAh A e k) → pClo A v → post v M) : QCm X x d 1 yX4_allOver [(2, 161), (0, e)] M post := by
  have hb : ∀ f : Int, 0 ≤ f → 0 ≤ pOv A f ∧ pOv A f < 64 := fun f f0 => pOv_b hA hS (by omega)
  have key : ∀ r : Int, ∀ v : Int, (0 ≤ r ∧ r ≤ 6) ∧ (0 ≤ v ∧ v < 64) ∧ (∀ k, k < 6 → bt (pOv A e) k = true → bt v k = true) ∧ (∀ k, k < 6 → bt v k = true → pAh A e k) ∧ (pClo A v ∨ r + 1 ≤ crd v) → QRm X x d qmX4_allOver post 9 [(0, (2, 161)), (2, (0, v)), (3, (0, r))] [] M := by
    refine int_up 6 (fun r hr v g => ?_) (fun r hr ih v g => ?_)
    · obtain ⟨g0, g1, g2, g3, g4⟩ := g
      have b := crd_b g1
      exact TX4_allOver_9 ⟨(i32 (by omega) (by omega)), fun _ => hp v g1 g2 g3 (by rcases g4 with q | q; exact q; omega), fun y => absurd hr y⟩
    · obtain ⟨g0, g1, g2, g3, g4⟩ := g
      refine TX4_allOver_9 ⟨(i32 (by omega) (by omega)), fun y => absurd hr (by omega), fun _ => ?_⟩
      have key2 : ∀ i : Int, ∀ u : Int, (0 ≤ i ∧ i ≤ 6) ∧ (0 ≤ u ∧ u < 64) ∧ (∀ k, k < 6 → bt v k = true → bt u k = true) ∧ (∀ k, k < 6 → bt u k = true → pAh A e k) ∧ (∀ f g : Nat, (f : Int) < i → g < 6 → bt v f = true → bt (pOv A f) g = true → bt u g = true) ∧ (pClo A v → u = v) → QRm X x d qmX4_allOver post 18 [(0, (2, 161)), (2, (0, u)), (3, (0, r)), (4, (0, i))] [] M := by
        refine int_up 6 (fun i hi u q => ?_) (fun i hi ih2 u q => ?_)
        · obtain ⟨q0, q1, q2, q3, q4, q5⟩ := q
          refine TX4_allOver_18 ⟨(i32 (by omega) (by omega)), fun _ => ih u ⟨⟨(by omega), (by omega)⟩, q1, fun k hk z => q2 k hk (g2 k hk z), q3, ?_⟩, fun y => absurd hi y⟩
          by_cases c : pClo A v
          · rw [q5 c]; exact Or.inl c
          · rcases g4 with w | w
            · exact absurd w c
            · rcases crd_grow g1 q1 q2 with y | y
              · exact Or.inl (by rw [← y]; exact fun f g f0 g0 f1 f2 => by rw [y]; exact q4 f g (by omega) g0 f1 f2)
              · exact Or.inr (by omega)
        · obtain ⟨q0, q1, q2, q3, q4, q5⟩ := q
          have ei : ((i.toNat : Nat) : Int) = i := by omega
          have hi6 := hb i q0.1
          refine TX4_allOver_18 ?_
          rw [ask_i u ⟨(by omega), (by omega)⟩, hL.2.1 i q0.1 hi]
          refine ⟨(i32 (by omega) (by omega)), fun y => absurd hi (by omega), fun _ => ⟨fun y => ⟨(by omega), (by omega), ih2 _ ⟨⟨(by omega), (by omega)⟩, (s_or q1 hi6).1, fun k hk z => ?_, fun k hk z => ?_, fun f g f0 g0' f1 f2 => ?_, fun c => ?_⟩⟩, fun y => ⟨by split <;> exact ⟨by decide, by decide⟩, ?_⟩⟩⟩
          · rw [bi_or _ _ (by omega), q2 k hk z]; rfl
          · have b : bt u i.toNat = true := by
              apply Classical.byContradiction
              intro w; rw [if_neg w] at y; exact absurd y (by decide)
            rw [bi_or _ _ (by omega), Bool.or_eq_true] at z
            rcases z with z | z
            · exact q3 k hk z
            · exact pAh_more (by omega) hk (q3 i.toNat (by omega) b) (by rw [ei]; exact z)
          · rw [bi_or _ _ (by omega)]
            by_cases fz : (f : Int) < i
            · rw [q4 f g fz g0' f1 f2]; rfl
            · rw [show (f : Int) = i by omega] at f2
              rw [f2, Bool.or_true]
          · have b : bt u i.toNat = true := by
              apply Classical.byContradiction
              intro w; rw [if_neg w] at y; exact absurd y (by decide)
            have uv := q5 c
            rw [uv] at b ⊢
            refine s_ext (s_or g1 hi6).1 g1 (fun k hk => ?_)
            rw [bi_or _ _ (by omega)]
            cases hz : bt (pOv A i) k with
            | false => rw [Bool.or_false]
            | true => rw [c i.toNat k (by omega) hk b (by rw [ei]; exact hz)]; rfl
          · rw [qor_0 (i32 (by omega) (by omega))]
            refine ih2 u ⟨⟨(by omega), (by omega)⟩, q1, q2, q3, fun f g f0 g0' f1 f2 => ?_, q5⟩
            by_cases fz : (f : Int) < i
            · exact q4 f g fz g0' f1 f2
            · rw [show f = i.toNat by omega] at f1
              exact absurd (if_pos (q2 _ (by omega) f1)) y
      exact key2 0 v ⟨⟨(by omega), (by omega)⟩, g1, fun k _ z => z, g3, fun f g f0 => absurd f0 (by omega), fun _ => rfl⟩
  have h0 := hb e he.1
  refine QC.of qmX4_allOver_ok rfl (TX4_allOver_0 ⟨he.1, he.2, ?_⟩)
  rw [hL.2.1 e he.1 he.2]
  refine key 0 _ ⟨⟨(by omega), (by omega)⟩, h0, fun k _ z => z, fun k hk z S s1 s2 => s1 k hk z, ?_⟩
  have b := crd_b h0
  by_cases c : crd (pOv A e) = 0
  · refine Or.inl (fun f g _ _ f1 _ => ?_)
    rw [b.2 c, bt_0] at f1; exact absurd f1 (by decide)
  · exact Or.inr (by omega)
theorem rel_ahead (hR : Rel M) {e : Int} (he : in32 e) (hp : ∀ v M3, Rel M3 → cont v v M3) : QCm X x (d + 8) 1 yX10_ahead [(2, 0), (0, e)] M (fun x1 M1 => QCm X x (d + 8) 1 yX11_ahead [(2, 215), (0, e)] M1 (fun x2 M2 => cont x1 x2 M2)) := by
  have R0 := hR.keep (gT M)
  have e0 := (gT M).all
  have a3 := hR.1.1.2.2.1
  refine QC.of qmX10_ahead_ok rfl (TX10_ahead_0 (k_hasDrum hR he (fun a => ⟨fun z => absurd z (by decide), fun _ => ⟨(i32 (by omega) (by omega)), c_lookAt hR.1 (fun M1 k1 l1 => c_allOver hR.1.1 hR.1.2.1.2.2.1 l1 ⟨(by omega), (by omega)⟩ (fun v v0 v1 v2 v3 => ?_))⟩⟩) (fun a => ⟨fun _ => ?_, fun z => absurd rfl z⟩)))
  rotate_left
  · exact QC.of qmX11_ahead_ok rfl (TX11_ahead_0 ⟨he, n_isDrum R0 he (fun y => absurd (by rw [e0] at y; exact y) a) (fun _ => ⟨fun _ => hp _ _ R0, fun z => absurd rfl z⟩)⟩)
  have g1 : gK M (qup M1 215 0 0) := (look_gK k1).trans (gT M1)
  have R1 := hR.keep g1
  have e1 := g1.all
  refine QC.of qmX11_ahead_ok rfl (TX11_ahead_0 ⟨he, n_isDrum R1 he (fun y => ⟨fun q => absurd q (by decide), fun _ => ⟨(i32 (by omega) (by omega)), m_aboveOf R1.1.1 R1.1.2.1 ⟨(by omega), (by omega)⟩ ?_⟩⟩) (fun q => absurd (by rw [e1]; exact a) q)⟩)
  refine m_ahead_loop R1.1.1 R1.1.2.1 (e := e) (by omega) (fun w w0 w1 w2 w3 => ?_) 6 0 _ ⟨(by omega), (by omega)⟩ (pOv_b R1.1.1 R1.1.2.1.2.2.1 (by omega)) (by have := crd_b (v := 0) ⟨by decide, by decide⟩; omega) (fun k hk z => by rw [bt_0] at z; exact absurd z (by decide)) (fun k _ z => z) (fun k hk z S s1 s2 => s1 k hk z) (fun f g _ _ z => by rw [bt_0] at z; exact absurd z (by decide))
  rw [e1] at w1 w2 w3
  rw [pAh_eq w0 v0 w1 w2 w3 v1 v2 v3]
  exact hp _ _ R1
end Ahead77
