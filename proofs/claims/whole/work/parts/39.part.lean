/-! ===== is a register's fraction above 0 and below 1; both sides ===== -/
theorem isProper7 {Q : Int → Prop} {sa sb : Int → Int} {r : Int} (h : Q (if (0 ≤ r ∧ r < 8) ∧ 0 < sa r ∧ sa r < sb r then 1 else 0)) : wp_X7_isProper Q sa sb r := by
  unfold wp_X7_isProper wp_X7_isProper_35 wp_X7_isProper_36
  refine isReg7 ?_
  by_cases hr : 0 ≤ r ∧ r < 8
  · rw [if_pos hr]
    refine ⟨fun z => absurd z (by omega), fun _ => ⟨hr.1, hr.2, fun h1 => ⟨Or.inl rfl, ?_⟩, fun h1 => ⟨hr.1, hr.2, hr.1, hr.2, fun h2 => ⟨Or.inl rfl, ?_⟩, fun h2 => ⟨Or.inr rfl, ?_⟩⟩⟩⟩
    · rw [if_neg (by omega)] at h; exact h
    · rw [if_neg (by omega)] at h; exact h
    · rw [if_pos (by omega)] at h; exact h
  · rw [if_neg hr]
    rw [if_neg (by omega)] at h
    exact ⟨fun _ => ⟨Or.inl rfl, h⟩, fun z => absurd rfl z⟩
theorem isPart8 {Q : Int → Prop} {mu md : Int → Int} {r : Int} (h0 : 0 ≤ r) (h8 : r < 8) (h : Q (if 0 < mu r ∧ mu r < md r then 1 else 0)) : wp_X8_isPart Q mu md r := by
  unfold wp_X8_isPart wp_X8_isPart_28 wp_X8_isPart_29
  refine ⟨h0, h8, fun h1 => ⟨Or.inl rfl, ?_⟩, fun h1 => ⟨h0, h8, h0, h8, fun h2 => ⟨Or.inl rfl, ?_⟩, fun h2 => ⟨Or.inr rfl, ?_⟩⟩⟩
  · rw [if_neg (by omega)] at h; exact h
  · rw [if_neg (by omega)] at h; exact h
  · rw [if_pos (by omega)] at h; exact h
theorem isUpTo8 {Q : Int → Prop} {mu md : Int → Int} {r m : Int} (h0 : 0 ≤ r) (h8 : r < 8) (h : Q (if (0 < mu r ∧ mu r < md r) ∧ md r ≤ m then 1 else 0)) : wp_X8_isUpTo Q mu md r m := by
  unfold wp_X8_isUpTo wp_X8_isUpTo_22 wp_X8_isUpTo_23
  refine isPart8 h0 h8 ?_
  by_cases hp : 0 < mu r ∧ mu r < md r
  · rw [if_pos hp]
    refine ⟨fun z => absurd z (by omega), fun _ => ⟨h0, h8, fun h1 => ⟨Or.inl rfl, ?_⟩, fun h1 => ⟨Or.inr rfl, ?_⟩⟩⟩
    · rw [if_neg (by omega)] at h; exact h
    · rw [if_pos (by omega)] at h; exact h
  · rw [if_neg hp]
    rw [if_neg (by omega)] at h
    exact ⟨fun _ => ⟨Or.inl rfl, h⟩, fun z => absurd rfl z⟩
theorem roundedUp7 {Q : Int → Prop} {a b : Nat} (hb : 0 < b) (ha : a + b < 9223372036854775808) (h : Q ((a + b - 1) / b : Nat)) : wp_X7_roundedUp Q a b := by
  unfold wp_X7_roundedUp wp_X7_roundedUp_17
  refine ⟨fun _ => ?_, fun z => absurd z (by omega)⟩
  have e : (a : Int) + (b : Int) - 1 = ((a + b - 1 : Nat) : Int) := by omega
  rw [e, nm_tdiv]
  exact ⟨⟨by omega, by omega⟩, ⟨by omega, by omega⟩, by omega, h⟩
