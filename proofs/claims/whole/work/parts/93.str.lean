theorem qshr_0 {a : Int} (h : in32 a) : qshr a 0 = a := ext32 (qshr_in _ _) h (fun k hk => by
  have := bi_shr a (j := 0) (k := k) (by omega)
  rw [Nat.zero_add] at this; exact this)
/-- a text's length and its characters -/
def sl (s : Nat) : Int := (qsn.getD s 0 : Int)
def sc (s : Nat) (i : Int) : Int := ((qsb.getD s []).getD i.toNat 0).toInt
theorem sc_ok : ∀ s : Nat, s < 16 → ∀ i : Nat, i < 61 → qi2c (qand (sc s (i : Int)) 255) = sc s (i : Int) ∧ 0 ≤ sc s (i : Int) ∧ sc s (i : Int) ≤ 127 := by decide +kernel
theorem sl_ok : ∀ s : Nat, s < 16 → 0 ≤ sl s ∧ sl s ≤ 61 := by decide +kernel
section Str93
variable {X : QX} {x : Int} {d : Nat} {post : Int → QMem → Prop} {M : QMem} {cont : Int → Int → QMem → Prop} {A : Int → Int}
theorem TJ3_checkIndex_8e157_0 {v0 v1 f : Int} (h : 0 ≤ v0 ∧ v0 < v1) (h1 : in32 v0) (h2 : in32 v1) (t : post v0 M) : QRm X x d qmJ3_checkIndex_8e157 post 0 [(0, (0, v0)), (1, (0, v1)), (2, (2, f))] [] M := qwp_ok qmJ3_checkIndex_8e157_ok.1 [] 16 (⟨h1, (show in32 0 from ⟨by decide, by decide⟩), fun z => absurd h.1 (Int.not_le.2 z), fun _ => ⟨h1, h2, fun _ => ⟨_, rfl, t⟩, fun z => absurd h.2 z⟩⟩)
theorem j_length {v : Int} {s : Nat} (hs : s < 16) (hv : v = -3 - s) (hp : post (sl s) M) : QCm X x (d + 1) 1 yJ0_length_8abf5 [(2, v)] M post := by
  have b := sl_ok s hs
  refine QC.of qmJ0_length_8abf5_ok rfl (TJ0_length_8abf5_0 ⟨(by omega), (by omega), QC.of qmJ0_coder_7d493_ok rfl (TJ0_coder_7d493_0 ⟨(by omega), ⟨by decide, by decide⟩, ?_⟩)⟩)
  rw [show (-103 - (v - 100)).toNat = s by omega]
  have : qshr (sl s) 0 = sl s := qshr_0 (i32 (by omega) (by omega))
  show post (qshr (sl s) 0) M
  rw [this]; exact hp
theorem j_charAt {v i : Int} {s : Nat} (hs : s < 16) (hv : v = -3 - s) (hi : 0 ≤ i ∧ i < sl s) (hp : post (sc s i) M) : QCm X x (d + 4) 1 yJ0_charAt_5068e [(2, v), (0, i)] M post := by
  have b := sl_ok s hs
  have c := sc_ok s hs i.toNat (by omega)
  rw [show ((i.toNat : Nat) : Int) = i by omega] at c
  refine QC.of qmJ0_charAt_5068e_ok rfl (TJ0_charAt_5068e_0 ⟨(by omega), QC.of qmJ0_isLatin1_aae02_ok rfl (TJ0_isLatin1_aae02_0 ⟨(by omega), fun z => absurd z (by decide), fun _ => ⟨(i32 (by omega) (by omega)), ?_⟩⟩)⟩)
  refine QC.of qmJ1_charAt_3b067_ok rfl (TJ1_charAt_3b067_0 ⟨(by omega), ?_⟩)
  rw [show (-103 - (v - 100)).toNat = s by omega]
  refine QC.of qmJ0_checkIndex_df160_ok rfl (TJ0_checkIndex_df160_0 (QC.of qmJ3_checkIndex_8e157_ok rfl (TJ3_checkIndex_8e157_0 hi (i32 (by omega) (by omega)) (show in32 (sl s) from (i32 (by omega) (by omega))) ?_)))
  show 0 ≤ i ∧ i < sl s ∧ ((0 ≤ qi2c (qand (sc s i) 255) ∧ qi2c (qand (sc s i) 255) ≤ 65535) ∧ ((0 ≤ qi2c (qand (sc s i) 255) ∧ qi2c (qand (sc s i) 255) ≤ 65535) ∧ post (qi2c (qand (sc s i) 255)) M))
  rw [c.1]
  exact ⟨hi.1, hi.2, ⟨(by omega), (by omega)⟩, ⟨(by omega), (by omega)⟩, hp⟩
theorem qi2b_small : ∀ n : Nat, n < 256 → qi2b (n : Int) = if n < 128 then (n : Int) else (n : Int) - 256 := by decide +kernel
theorem qi2c_small : ∀ n : Nat, n < 256 → qi2c (n : Int) = n := by decide +kernel
theorem sg_pos : ∀ i : Nat, i < 12 → 0 ≤ sc 14 (i : Int) ∧ sc 14 (i : Int) ≤ 127 := by decide +kernel
theorem j_sign {c : Int} (hc : 0 ≤ c ∧ c ≤ 255) (h1 : (∃ i, 0 ≤ i ∧ i < 12 ∧ sc 14 i = c) → ∀ V, 0 ≤ V ∧ V < 12 → post V M) (h0 : (∀ i, 0 ≤ i → i < 12 → sc 14 i ≠ c) → post (-1) M) : QCm X x (d + 5) 1 yJ0_indexOf_0f7a4 [(2, (-17)), (0, qi2c c)] M post := by
  have ec : qi2c c = c := by
    have := qi2c_small c.toNat (by omega)
    rw [show ((c.toNat : Nat) : Int) = c by omega] at this; exact this
  have eb : qi2b c = if c < 128 then c else c - 256 := by
    have := qi2b_small c.toNat (by omega)
    rw [show ((c.toNat : Nat) : Int) = c by omega] at this
    rw [this]
    by_cases z : c < 128
    · rw [if_pos z, if_pos (by omega)]
    · rw [if_neg z, if_neg (by omega)]
  rw [ec]
  have key : ∀ i : Int, (0 ≤ i ∧ i ≤ 12) ∧ (∀ j, 0 ≤ j → j < i → sc 14 j ≠ c) → QRm X x (d + 2) qmJ1_indexOfChar_4cfef post 7 [(0, (2, -117)), (3, (0, 12)), (4, (0, qi2b c)), (5, (0, i))] [] M := by
    refine int_up 12 (fun i hi g => ?_) (fun i hi ih g => ?_)
    · exact TJ1_indexOfChar_4cfef_7 ⟨(i32 (by omega) (by omega)), ⟨by decide, by decide⟩, fun _ => h0 (fun j j0 j1 => g.2 j j0 (by omega)), fun z => absurd hi z⟩
    · have sp := sg_pos i.toNat (by omega)
      rw [show ((i.toNat : Nat) : Int) = i by omega] at sp
      refine TJ1_indexOfChar_4cfef_7 ⟨(i32 (by omega) (by omega)), ⟨by decide, by decide⟩, fun z => absurd hi (by omega), fun _ => ⟨(by omega), (by omega), ?_⟩⟩
      show i < (12 : Int) ∧ ((sc 14 i = qi2b c → post i M) ∧ (¬ sc 14 i = qi2b c → in32 (sc 14 i) ∧ in32 (qi2b c) ∧ QRm X x (d + 2) qmJ1_indexOfChar_4cfef post 7 [(0, (2, -117)), (3, (0, 12)), (4, (0, qi2b c)), (5, (0, i + 1))] [] M))
      refine ⟨hi, fun z => h1 ⟨i, g.1.1, hi, ?_⟩ i ⟨g.1.1, hi⟩, fun z => ⟨(i32 (by omega) (by omega)), qi2b_in _, ih ⟨⟨(by omega), (by omega)⟩, fun j j0 j1 => ?_⟩⟩⟩
      · rw [eb] at z; split at z <;> omega
      · by_cases q : j = i
        · intro w
          rw [q] at w
          refine z ?_
          rw [eb, if_pos (by omega)]; exact w
        · exact g.2 j j0 (by omega)
  refine QC.of qmJ0_indexOf_0f7a4_ok rfl (TJ0_indexOf_0f7a4_0 ⟨by decide, QC.of qmJ0_indexOf_7cf53_ok rfl (TJ0_indexOf_7cf53_0 ⟨by decide, QC.of qmJ0_isLatin1_aae02_ok rfl (TJ0_isLatin1_aae02_0 ⟨by decide, fun z => absurd z (by decide), fun _ => ⟨(i32 (by omega) (by omega)), j_length (s := 14) (by decide) (by decide) ?_⟩⟩)⟩)⟩)
  refine QC.of qmJ1_indexOf_4cfef_ok rfl (TJ1_indexOf_4cfef_0 (QC.of qmJ1_canEncode_9a6ad_ok rfl (TJ1_canEncode_9a6ad_0 ⟨(i32 (by omega) (by omega)), fun z => absurd z (by omega), fun _ => ⟨fun z => absurd z (by omega), fun _ => ⟨fun z => absurd z (by decide), fun _ => ⟨(i32 (by omega) (by omega)), ?_⟩⟩⟩⟩)))
  refine j_max ⟨by decide, by decide⟩ ⟨by decide, by decide⟩ (fun z => absurd z (by decide)) (fun _ => ⟨by decide, ?_⟩)
  refine j_min ⟨by decide, by decide⟩ ⟨by decide, by decide⟩ (fun z => absurd z (by decide)) (fun _ => ⟨⟨by decide, by decide⟩, ⟨by decide, by decide⟩, fun _ => ?_, fun z => absurd (by decide) z⟩)
  exact QC.of qmJ1_indexOfChar_4cfef_ok rfl (TJ1_indexOfChar_4cfef_0 (by rw [show (-17 - 100 : Int) = -117 from rfl, show sl 14 = 12 from rfl]; exact key 0 ⟨⟨(by omega), (by omega)⟩, fun j j0 j1 => absurd j1 (by omega)⟩))
end Str93
