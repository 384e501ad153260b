theorem isHalf7 {Q : Int → Prop} {r : Int} (h : Q (if r = 0 ∨ r = 1 then 1 else 0)) : wp_X7_isHalf Q r := by
  unfold wp_X7_isHalf wp_X7_isHalf_9 wp_X7_isHalf_14
  refine ⟨fun h1 => ⟨Or.inr rfl, ?_⟩, fun h1 => ⟨fun h2 => ⟨Or.inl rfl, ?_⟩, fun h2 => ⟨Or.inr rfl, ?_⟩⟩⟩
  · rw [if_pos (Or.inl h1)] at h; exact h
  · rw [if_neg (by omega)] at h; exact h
  · rw [if_pos (Or.inr h2)] at h; exact h
theorem told_ok {sa sb mu md : Int → Int} (hI : RG sa sb mu md) (r part : Int) {K : Int → Int → Prop} (hK : ∀ v, K v v) :
    wp_X7_told (fun v => wp_X8_told (fun v2 => K v v2) mu md r part) sa sb r part := by
  unfold wp_X7_told wp_X7_told_14 wp_X7_told_35 wp_X8_told wp_X8_told_17 wp_X8_told_38
  refine isReg7 ?_
  by_cases hr : 0 ≤ r ∧ r < 8
  · rw [if_pos hr]
    obtain ⟨e1, e2, -⟩ := hI r hr.1 hr.2
    have key8 : ∀ v : Int, (part = 0 ∨ part = 1 → v = if part = 0 then mu r else md r) → (¬ (part = 0 ∨ part = 1) → v = -1) → wp_X8_isRegister (fun x1 => (x1 = 0 → K v (-1)) ∧ (¬ x1 = 0 → wp_X8_in (fun x11 => (¬ x11 = 0 → (¬ part = 0 → 0 ≤ r ∧ r < 8 ∧ K v (md r)) ∧ (part = 0 → 0 ≤ r ∧ r < 8 ∧ K v (mu r))) ∧ (x11 = 0 → K v (-1))) part 0 1)) r := by
      intro v h1 h2
      refine isReg8 ?_
      rw [if_pos hr]
      refine ⟨fun h => absurd h (by omega), fun _ => in8 ?_⟩
      by_cases hp : part = 0 ∨ part = 1
      · rw [if_pos (by omega)]
        refine ⟨fun _ => ⟨fun h3 => ⟨hr.1, hr.2, ?_⟩, fun h3 => ⟨hr.1, hr.2, ?_⟩⟩, fun h => absurd h (by omega)⟩
        · rw [h1 hp, if_neg h3]; exact hK _
        · rw [h1 hp, if_pos h3]; exact hK _
      · rw [if_neg (by omega)]
        exact ⟨fun h => absurd rfl h, fun _ => by rw [h2 hp]; exact hK _⟩
    refine ⟨fun h => absurd h (by omega), fun _ => isHalf7 ?_⟩
    by_cases hp : part = 0 ∨ part = 1
    · rw [if_pos hp]
      refine ⟨fun _ => ⟨fun h3 => ⟨hr.1, hr.2, ?_⟩, fun h3 => ⟨hr.1, hr.2, ?_⟩⟩, fun h => absurd h (by omega)⟩
      · exact key8 _ (fun _ => by rw [if_neg h3, e2]) (fun h => absurd hp h)
      · exact key8 _ (fun _ => by rw [if_pos h3, e1]) (fun h => absurd hp h)
    · rw [if_neg hp]
      exact ⟨fun h => absurd rfl h, fun _ => key8 _ (fun h => absurd h hp) (fun _ => rfl)⟩
  · rw [if_neg hr]
    refine ⟨fun _ => isReg8 ?_, fun h => absurd rfl h⟩
    rw [if_neg hr]
    exact ⟨fun _ => hK _, fun h => absurd rfl h⟩
theorem mul_le6 {a b : Int} (h1 : 0 ≤ a) (h2 : a ≤ 1000000) (h3 : 0 ≤ b) (h4 : b ≤ 1000000) : 0 ≤ a * b ∧ a * b ≤ 1000000000000 := by
  refine ⟨Int.mul_nonneg h1 h3, ?_⟩
  have := Int.mul_le_mul h2 h4 h3 (by omega : (0 : Int) ≤ 1000000)
  omega
theorem against_ok {sa sb mu md : Int → Int} (hI : RG sa sb mu md) (a b : Int) {K : Int → Int → Prop} (hK : ∀ v, K v v) :
    wp_X7_against (fun v => wp_X8_against (fun v2 => K v v2) mu md a b) sa sb a b := by
  unfold wp_X7_against wp_X7_against_14 wp_X7_against_70
  refine isReg7 ?_
  by_cases ha : 0 ≤ a ∧ a < 8
  · rw [if_pos ha]
    refine ⟨fun h => absurd h (by omega), fun _ => isReg7 ?_⟩
    by_cases hb : 0 ≤ b ∧ b < 8
    · rw [if_pos hb]
      obtain ⟨e1, e2, p1, p2, p3, p4, -⟩ := hI a ha.1 ha.2
      obtain ⟨e3, e4, q1, q2, q3, q4, -⟩ := hI b hb.1 hb.2
      have m1 := mul_le6 p1 p2 (by omega : 0 ≤ sb b) q4
      have m2 := mul_le6 q1 q2 (by omega : 0 ≤ sb a) p4
      have key8 : ∀ v : Int, v = (if sa a * sb b = sa b * sb a then 0 else if sa b * sb a < sa a * sb b then 1 else 2) → wp_X8_against (fun v2 => K v v2) mu md a b := by
        intro v hv
        unfold wp_X8_against wp_X8_against_14 wp_X8_against_72
        refine isReg8 ?_
        rw [if_pos ha]
        refine ⟨fun h => absurd h (by omega), fun _ => isReg8 ?_⟩
        rw [if_pos hb, ← e1, ← e2, ← e3, ← e4]
        refine ⟨fun _ => ⟨ha.1, ha.2, hb.1, hb.2, ⟨by omega, by omega⟩, fun x hx => ⟨hb.1, hb.2, ha.1, ha.2, ⟨by omega, by omega⟩, fun y hy => ?_⟩⟩, fun h => absurd h (by omega)⟩
        rw [← hx, ← hy] at hv
        refine ⟨fun h1 => ⟨fun h2 => ?_, fun h2 => ?_⟩, fun h1 => ?_⟩
        · rw [if_neg h2, if_neg (by omega)] at hv; rw [hv]; exact hK _
        · rw [if_pos h2] at hv; rw [hv]; exact hK _
        · rw [if_neg (by omega), if_pos (by omega)] at hv; rw [hv]; exact hK _
      refine ⟨fun _ => ⟨ha.1, ha.2, hb.1, hb.2, ⟨by omega, by omega⟩, fun x hx => ⟨hb.1, hb.2, ha.1, ha.2, ⟨by omega, by omega⟩, fun y hy => ?_⟩⟩, fun h => absurd h (by omega)⟩
      rw [← hx, ← hy] at key8
      refine ⟨fun h1 => ⟨fun h2 => ?_, fun h2 => ?_⟩, fun h1 => ?_⟩
      · exact key8 _ (by rw [if_neg h1, if_neg (by omega)])
      · exact key8 _ (by rw [if_neg h1, if_pos (by omega)])
      · exact key8 _ (by rw [if_pos h1])
    · rw [if_neg hb]
      refine ⟨fun h => absurd rfl h, fun _ => ?_⟩
      unfold wp_X8_against wp_X8_against_14
      refine isReg8 ?_
      rw [if_pos ha]
      refine ⟨fun h => absurd h (by omega), fun _ => isReg8 ?_⟩
      rw [if_neg hb]
      exact ⟨fun h => absurd rfl h, fun _ => hK _⟩
  · rw [if_neg ha]
    refine ⟨fun _ => ?_, fun h => absurd rfl h⟩
    unfold wp_X8_against wp_X8_against_14
    refine isReg8 ?_
    rw [if_neg ha]
    exact ⟨fun _ => hK _, fun h => absurd rfl h⟩
