def rkU (w p q r s : Int) : Int := if w = 0 then p * s + r * q else if w = 1 then p * s - r * q else if w = 2 then p * r else p * s
def rkD (w q r s : Int) : Int := if w = 3 then q * r else q * s
theorem reck8 {sa sb mu md : Int → Int} (hI : RG sa sb mu md) {Q : Int → (Int → Int) → (Int → Int) → Prop} {to w a b : Int} (ht : 0 ≤ to ∧ to < 8) (hw : 0 ≤ w ∧ w ≤ 3) (ha : 0 ≤ a ∧ a < 8) (hb : 0 ≤ b ∧ b < 8)
    (h : wp_X8_reckon_149 Q mu md to (rkU w (sa a) (sb a) (sa b) (sb b)) (rkD w (sb a) (sa b) (sb b))) : wp_X8_reckon Q mu md to w a b := by
  obtain ⟨e1, e2, p1, p2, p3, p4, -⟩ := hI a ha.1 ha.2
  obtain ⟨e3, e4, q1, q2, q3, q4, -⟩ := hI b hb.1 hb.2
  have m1 := mul_le6 p1 p2 (by omega : 0 ≤ sb b) q4
  have m2 := mul_le6 q1 q2 (by omega : 0 ≤ sb a) p4
  have m3 := mul_le6 p1 p2 q1 q2
  have m4 := mul_le6 (by omega : 0 ≤ sb a) p4 (by omega : 0 ≤ sb b) q4
  have m5 := mul_le6 (by omega : 0 ≤ sb a) p4 q1 q2
  unfold wp_X8_reckon wp_X8_reckon_129
  refine isReg8 ?_
  rw [if_pos ht]
  refine ⟨fun h => absurd h (by omega), fun _ => in8 ?_⟩
  rw [if_pos hw]
  refine ⟨fun h => absurd h (by omega), fun _ => isReg8 ?_⟩
  rw [if_pos ha]
  refine ⟨fun h => absurd h (by omega), fun _ => isReg8 ?_⟩
  rw [if_pos hb]
  refine ⟨fun _ => ⟨ha.1, ha.2, fun x hx => ⟨ha.1, ha.2, fun y hy => ⟨hb.1, hb.2, fun z hz => ⟨hb.1, hb.2, fun t ht2 => ?_⟩⟩⟩⟩, fun h => absurd h (by omega)⟩
  rw [← e1] at hx; rw [← e2] at hy; rw [← e3] at hz; rw [← e4] at ht2
  subst hx; subst hy; subst hz; subst ht2
  unfold rkU rkD at h
  refine ⟨fun h0 => ⟨fun h1 => ⟨fun h2 => ⟨⟨by omega, by omega⟩, fun h3 => absurd h3 (by omega), fun h3 => ⟨⟨by omega, by omega⟩, ?_⟩⟩, fun h2 => ⟨⟨by omega, by omega⟩, fun h3 => ⟨⟨by omega, by omega⟩, ?_⟩, fun h3 => absurd h3 (by omega)⟩⟩, fun h1 => ⟨⟨by omega, by omega⟩, ⟨by omega, by omega⟩, ⟨by omega, by omega⟩, fun h3 => ⟨⟨by omega, by omega⟩, ?_⟩, fun h3 => absurd h3 (by omega)⟩⟩, fun h0 => ⟨⟨by omega, by omega⟩, ⟨by omega, by omega⟩, ⟨by omega, by omega⟩, fun h3 => ⟨⟨by omega, by omega⟩, ?_⟩, fun h3 => absurd h3 (by omega)⟩⟩
  · rw [if_neg h0, if_neg h1, if_neg h2, if_pos h3] at h; exact h
  · rw [if_neg h0, if_neg h1, if_pos h2, if_neg h3] at h; exact h
  · rw [if_neg h0, if_pos h1, if_neg h3] at h; exact h
  · rw [if_pos h0, if_neg h3] at h; exact h
theorem reck_core {sa sb mu md : Int → Int} (hI : RG sa sb mu md) {to u d : Int} (ht : 0 ≤ to ∧ to < 8) (hu : u < 9223372036854775808) (hd0 : 0 ≤ d) (hd : d < 9223372036854775808) {K : Int → (Int → Int) → (Int → Int) → Int → (Int → Int) → (Int → Int) → Prop} (hK : ∀ v sa' sb' mu' md', RG sa' sb' mu' md' → K v sa' sb' v mu' md')
    {Q : Int → (Int → Int) → (Int → Int) → Prop} (hQ : ∀ v sa' sb', wp_X8_reckon_149 (fun v2 mu' md' => K v sa' sb' v2 mu' md') mu md to u d → Q v sa' sb') : wp_X7_put Q sa sb to u d := by
  by_cases hn : u < 0 ∨ d ≤ 0
  · refine put7_neg hn (hQ _ _ _ ?_)
    unfold wp_X8_reckon_149 wp_X8_reckon_165
    exact ⟨fun _ => hK _ _ _ _ _ hI, fun h => ⟨fun h2 => absurd hn (by omega), fun _ => hK _ _ _ _ _ hI⟩⟩
  · obtain ⟨p, rfl⟩ := Int.eq_ofNat_of_zero_le (show 0 ≤ u by omega)
    obtain ⟨q, rfl⟩ := Int.eq_ofNat_of_zero_le hd0
    have hq : 0 < q := by omega
    have hg : 0 < Nat.gcd p q := Nat.gcd_pos_of_pos_right _ hq
    refine put7 ht.1 ht.2 hq (by omega) (fun h => hQ _ _ _ ?_) (fun h1 h2 => hQ _ _ _ ?_)
    · unfold wp_X8_reckon_149 wp_X8_reckon_201
      refine ⟨fun h => absurd h (by omega), fun _ => ⟨fun _ => gcd8 ?_, fun h => absurd h (by omega)⟩⟩
      simp only [nm_tdiv]
      generalize p / Nat.gcd p q = P at h ⊢
      generalize q / Nat.gcd p q = P2 at h ⊢
      exact ⟨by omega, fun _ => hK _ _ _ _ _ hI, fun h1 => ⟨by omega, fun h2 => absurd h (by omega), fun _ => hK _ _ _ _ _ hI⟩⟩
    · unfold wp_X8_reckon_149
      refine ⟨fun h => absurd h (by omega), fun _ => ⟨fun _ => gcd8 ?_, fun h => absurd h (by omega)⟩⟩
      simp only [nm_tdiv]
      refine ⟨by omega, fun h => absurd (Int.ofNat_lt.mp h) (by omega), fun _ => ⟨by omega, fun _ => keep8 ht.1 ht.2 hq h1 h2 (hK _ _ _ _ _ (hI.put hq h1 h2)), fun h => absurd (Int.ofNat_le.mpr h2) h⟩⟩
theorem reckon_ok {sa sb mu md : Int → Int} (hI : RG sa sb mu md) (to w a b : Int) {K : Int → (Int → Int) → (Int → Int) → Int → (Int → Int) → (Int → Int) → Prop} (hK : ∀ v sa' sb' mu' md', RG sa' sb' mu' md' → K v sa' sb' v mu' md') :
    wp_X7_reckon (fun v sa' sb' => wp_X8_reckon (fun v2 mu' md' => K v sa' sb' v2 mu' md') mu md to w a b) sa sb to w a b := by
  by_cases hall : (0 ≤ to ∧ to < 8) ∧ (0 ≤ w ∧ w ≤ 3) ∧ (0 ≤ a ∧ a < 8) ∧ (0 ≤ b ∧ b < 8)
  · obtain ⟨ht, hw, ha, hb⟩ := hall
    obtain ⟨e1, e2, p1, p2, p3, p4, -⟩ := hI a ha.1 ha.2
    obtain ⟨e3, e4, q1, q2, q3, q4, -⟩ := hI b hb.1 hb.2
    have m1 := mul_le6 p1 p2 (by omega : 0 ≤ sb b) q4
    have m2 := mul_le6 q1 q2 (by omega : 0 ≤ sb a) p4
    have m3 := mul_le6 p1 p2 q1 q2
    have m4 := mul_le6 (by omega : 0 ≤ sb a) p4 (by omega : 0 ≤ sb b) q4
    have m5 := mul_le6 (by omega : 0 ≤ sb a) p4 q1 q2
    have key : ∀ u d : Int, u = rkU w (sa a) (sb a) (sa b) (sb b) → d = rkD w (sb a) (sa b) (sb b) → u < 9223372036854775808 → 0 ≤ d → d < 9223372036854775808 → wp_X7_put (fun v sa' sb' => wp_X8_reckon (fun v2 mu' md' => K v sa' sb' v2 mu' md') mu md to w a b) sa sb to u d := by
      intro u d hu hd h1 h2 h3
      refine reck_core hI ht h1 h2 h3 hK (fun v sa' sb' h => reck8 hI ht hw ha hb ?_)
      rw [← hu, ← hd]; exact h
    unfold rkU rkD at key
    unfold wp_X7_reckon
    refine isReg7 ?_
    rw [if_pos ht]
    refine ⟨fun h => absurd h (by omega), fun _ => ⟨fun h => absurd h (by omega), fun _ => ⟨fun h => absurd h (by omega), fun _ => isReg7 ?_⟩⟩⟩
    rw [if_pos ha]
    refine ⟨fun h => absurd h (by omega), fun _ => isReg7 ?_⟩
    rw [if_pos hb]
    refine ⟨fun _ => ⟨ha.1, ha.2, fun x hx => ⟨ha.1, ha.2, fun y hy => ⟨hb.1, hb.2, fun z hz => ⟨hb.1, hb.2, fun t ht2 => ?_⟩⟩⟩⟩, fun h => absurd h (by omega)⟩
    subst hx; subst hy; subst hz; subst ht2
    refine ⟨fun h0 => ⟨⟨by omega, by omega⟩, ⟨by omega, by omega⟩, key _ _ ?_ ?_ (by omega) (by omega) (by omega)⟩, fun h0 => ⟨⟨by omega, by omega⟩, ⟨by omega, by omega⟩, ⟨by omega, by omega⟩, ⟨by omega, by omega⟩, key _ _ ?_ ?_ (by omega) (by omega) (by omega)⟩, fun h0 => ⟨⟨by omega, by omega⟩, ⟨by omega, by omega⟩, ⟨by omega, by omega⟩, ⟨by omega, by omega⟩, key _ _ ?_ ?_ (by omega) (by omega) (by omega)⟩, fun h0 => ⟨⟨by omega, by omega⟩, ⟨by omega, by omega⟩, key _ _ ?_ ?_ (by omega) (by omega) (by omega)⟩⟩
    · rw [if_neg (by omega), if_neg (by omega), if_neg (by omega)]
    · rw [if_pos (by omega)]
    · rw [if_pos h0]
    · rw [if_neg (by omega)]
    · rw [if_neg (by omega), if_pos h0]
    · rw [if_neg (by omega)]
    · rw [if_neg (by omega), if_neg (by omega), if_pos h0]
    · rw [if_neg (by omega)]
  · have key8 : wp_X8_reckon (fun v2 mu' md' => K (-1) sa sb v2 mu' md') mu md to w a b := by
      have fin : K (-1) sa sb (-1) mu md := hK _ _ _ _ _ hI
      unfold wp_X8_reckon wp_X8_reckon_34
      refine isReg8 ⟨fun _ => fin, fun h1 => in8 ⟨fun _ => fin, fun h2 => isReg8 ⟨fun _ => fin, fun h3 => isReg8 ⟨fun h4 => ?_, fun _ => fin⟩⟩⟩⟩
      exfalso
      apply hall
      refine ⟨?_, ?_, ?_, ?_⟩
      · by_cases z : 0 ≤ to ∧ to < 8
        · exact z
        · rw [if_neg z] at h1; exact absurd rfl h1
      · by_cases z : 0 ≤ w ∧ w ≤ 3
        · exact z
        · rw [if_neg z] at h2; exact absurd rfl h2
      · by_cases z : 0 ≤ a ∧ a < 8
        · exact z
        · rw [if_neg z] at h3; exact absurd rfl h3
      · by_cases z : 0 ≤ b ∧ b < 8
        · exact z
        · rw [if_neg z] at h4; exact absurd rfl h4
    unfold wp_X7_reckon wp_X7_reckon_31
    refine isReg7 ⟨fun _ => key8, fun h1 => ⟨fun _ => key8, fun h2 => ⟨fun _ => key8, fun h22 => isReg7 ⟨fun _ => key8, fun h3 => isReg7 ⟨fun h4 => ?_, fun _ => key8⟩⟩⟩⟩⟩
    exfalso
    apply hall
    refine ⟨?_, by omega, ?_, ?_⟩
    · by_cases z : 0 ≤ to ∧ to < 8
      · exact z
      · rw [if_neg z] at h1; exact absurd rfl h1
    · by_cases z : 0 ≤ a ∧ a < 8
      · exact z
      · rw [if_neg z] at h3; exact absurd rfl h3
    · by_cases z : 0 ≤ b ∧ b < 8
      · exact z
      · rw [if_neg z] at h4; exact absurd rfl h4
