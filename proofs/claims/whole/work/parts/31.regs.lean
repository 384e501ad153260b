/-! ===== registers: hold, told, reckon, against ===== -/
/-- the registers of class and reference are alike, in lowest terms, within bounds -/
def RG (sa sb mu md : Int → Int) : Prop := ∀ r : Int, 0 ≤ r → r < 8 → sa r = mu r ∧ sb r = md r ∧ 0 ≤ sa r ∧ sa r ≤ 1000000 ∧ 1 ≤ sb r ∧ sb r ≤ 1000000 ∧ Nat.gcd (sa r).toNat (sb r).toNat = 1
theorem isReg7 {Q : Int → Prop} {r : Int} (h : Q (if 0 ≤ r ∧ r < 8 then 1 else 0)) : wp_X7_isRegister Q r := by
  unfold wp_X7_isRegister wp_X7_isRegister_14 wp_X7_isRegister_15
  refine ⟨fun h1 => ⟨Or.inl rfl, ?_⟩, fun h1 => ⟨fun h2 => ⟨Or.inl rfl, ?_⟩, fun h2 => ⟨Or.inr rfl, ?_⟩⟩⟩
  · rw [if_neg (by omega)] at h; exact h
  · rw [if_neg (by omega)] at h; exact h
  · rw [if_pos (by omega)] at h; exact h
theorem in8 {Q : Int → Prop} {v a b : Int} (h : Q (if a ≤ v ∧ v ≤ b then 1 else 0)) : wp_X8_in Q v a b := by
  unfold wp_X8_in wp_X8_in_17 wp_X8_in_18
  refine ⟨fun h1 => ⟨Or.inl rfl, ?_⟩, fun h1 => ⟨fun h2 => ⟨Or.inl rfl, ?_⟩, fun h2 => ⟨Or.inr rfl, ?_⟩⟩⟩
  · rw [if_neg (by omega)] at h; exact h
  · rw [if_neg (by omega)] at h; exact h
  · rw [if_pos (by omega)] at h; exact h
theorem isReg8 {Q : Int → Prop} {r : Int} (h : Q (if 0 ≤ r ∧ r < 8 then 1 else 0)) : wp_X8_isRegister Q r := by
  unfold wp_X8_isRegister
  refine in8 ⟨by split <;> simp, ?_⟩
  have e : (0 ≤ r ∧ r ≤ 7) ↔ (0 ≤ r ∧ r < 8) := by omega
  simpa only [e] using h
theorem put7 {Q : Int → (Int → Int) → (Int → Int) → Prop} {sa sb : Int → Int} {r : Int} (h0 : 0 ≤ r) (h8 : r < 8) {p q : Nat} (hq : 0 < q) (hq2 : q < 9223372036854775808)
    (h1 : 1000000 < p / Nat.gcd p q ∨ 1000000 < q / Nat.gcd p q → Q (-5) sa sb) (h2 : p / Nat.gcd p q ≤ 1000000 → q / Nat.gcd p q ≤ 1000000 → Q 0 (ups sa r (p / Nat.gcd p q : Nat)) (ups sb r (q / Nat.gcd p q : Nat))) : wp_X7_put Q sa sb r p q := by
  have hg : 0 < Nat.gcd p q := Nat.gcd_pos_of_pos_right _ hq
  unfold wp_X7_put
  refine ⟨fun h => absurd h (by omega), fun _ => ⟨fun _ => cd7' hq2 hq ?_, fun h => absurd h (by omega)⟩⟩
  simp only [nm_tdiv]
  generalize p / Nat.gcd p q = P at h1 h2 ⊢
  generalize q / Nat.gcd p q = P2 at h1 h2 ⊢
  refine ⟨by omega, fun h => h1 (Or.inl (by omega)), fun h => ⟨by omega, fun h3 => ?_, fun h3 => h1 (Or.inr (by omega))⟩⟩
  refine isReg7 ?_
  rw [if_pos ⟨h0, h8⟩]
  refine ⟨fun h => absurd h (by omega), fun _ => ⟨by omega, ⟨by omega, by omega⟩, fun x hx => ⟨h0, h8, by omega, ⟨by omega, by omega⟩, fun y hy => ⟨h0, h8, ?_⟩⟩⟩⟩
  rw [hx, hy]
  exact h2 (by omega) (by omega)
theorem put7_neg {Q : Int → (Int → Int) → (Int → Int) → Prop} {sa sb : Int → Int} {r p q : Int} (h : p < 0 ∨ q ≤ 0) (hQ : Q (-2) sa sb) : wp_X7_put Q sa sb r p q := by
  unfold wp_X7_put
  exact ⟨fun _ => hQ, fun h1 => ⟨fun h2 => absurd h (by omega), fun _ => hQ⟩⟩
theorem keep8 {Q : (Int → Int) → (Int → Int) → Prop} {mu md : Int → Int} {r : Int} (h0 : 0 ≤ r) (h8 : r < 8) {p q : Nat} (hq : 0 < q) (hp2 : p / Nat.gcd p q ≤ 1000000) (hq2 : q / Nat.gcd p q ≤ 1000000) (h : Q (ups mu r (p / Nat.gcd p q : Nat)) (ups md r (q / Nat.gcd p q : Nat))) : wp_X8_keep Q mu md r p q := by
  have hg : 0 < Nat.gcd p q := Nat.gcd_pos_of_pos_right _ hq
  unfold wp_X8_keep
  refine gcd8 ?_
  simp only [nm_tdiv]
  generalize p / Nat.gcd p q = P at hp2 h ⊢
  generalize q / Nat.gcd p q = P2 at hq2 h ⊢
  refine ⟨by omega, ⟨by omega, by omega⟩, fun x hx => ⟨h0, h8, by omega, ⟨by omega, by omega⟩, fun y hy => ⟨h0, h8, ?_⟩⟩⟩
  rw [hx, hy]
  exact h
theorem RG.put {sa sb mu md : Int → Int} (h : RG sa sb mu md) {r : Int} {p q : Nat} (hq : 0 < q) (hp2 : p / Nat.gcd p q ≤ 1000000) (hq2 : q / Nat.gcd p q ≤ 1000000) : RG (ups sa r (p / Nat.gcd p q : Nat)) (ups sb r (q / Nat.gcd p q : Nat)) (ups mu r (p / Nat.gcd p q : Nat)) (ups md r (q / Nat.gcd p q : Nat)) := by
  intro j h0 h8
  by_cases e : j = r
  · subst e
    simp only [ups_s]
    have hg : 0 < Nat.gcd p q := Nat.gcd_pos_of_pos_right _ hq
    have h1 : 0 < q / Nat.gcd p q := Nat.div_pos (Nat.le_of_dvd hq (Nat.gcd_dvd_right p q)) hg
    refine ⟨trivial, trivial, Int.natCast_nonneg _, Int.ofNat_le.mpr hp2, Int.ofNat_le.mpr h1, Int.ofNat_le.mpr hq2, ?_⟩
    rw [Int.toNat_natCast, Int.toNat_natCast, Nat.gcd_div (Nat.gcd_dvd_left p q) (Nat.gcd_dvd_right p q)]
    exact Nat.div_self hg
  · simp only [ups_n e]
    exact h j h0 h8
theorem hold_ok {sa sb mu md : Int → Int} (hI : RG sa sb mu md) (r p q : Int) {K : Int → (Int → Int) → (Int → Int) → Int → (Int → Int) → (Int → Int) → Prop} (hK : ∀ v sa' sb' mu' md', RG sa' sb' mu' md' → K v sa' sb' v mu' md') :
    wp_X7_hold (fun v sa' sb' => wp_X8_hold (fun v2 mu' md' => K v sa' sb' v2 mu' md') mu md r p q) sa sb r p q := by
  by_cases hr : 0 ≤ r ∧ r < 8
  · by_cases hp : 0 ≤ p ∧ p ≤ 1000000
    · by_cases hq : 1 ≤ q ∧ q ≤ 1000000
      · obtain ⟨p, rfl⟩ := Int.eq_ofNat_of_zero_le hp.1
        obtain ⟨q, rfl⟩ := Int.eq_ofNat_of_zero_le (show 0 ≤ q by omega)
        have hq0 : 0 < q := by omega
        have hp2 : p / Nat.gcd p q ≤ 1000000 := Nat.le_trans (Nat.div_le_self _ _) (by omega)
        have hq2 : q / Nat.gcd p q ≤ 1000000 := Nat.le_trans (Nat.div_le_self _ _) (by omega)
        unfold wp_X7_hold
        refine isReg7 ?_
        rw [if_pos hr]
        refine ⟨fun h => absurd h (by omega), fun _ => ⟨fun h => absurd h (by omega), fun _ => ⟨fun h => absurd h (by omega), fun _ => ⟨fun h => absurd h (by omega), fun _ => ⟨fun _ => ?_, fun h => absurd h (by omega)⟩⟩⟩⟩⟩
        refine put7 hr.1 hr.2 hq0 (by omega) (fun h => by omega) (fun _ _ => ?_)
        unfold wp_X8_hold
        refine isReg8 ?_
        rw [if_pos hr]
        refine ⟨fun h => absurd h (by omega), fun _ => in8 ?_⟩
        rw [if_pos hp]
        refine ⟨fun h => absurd h (by omega), fun _ => in8 ?_⟩
        rw [if_pos hq]
        refine ⟨fun _ => keep8 hr.1 hr.2 hq0 hp2 hq2 ?_, fun h => absurd h (by omega)⟩
        exact hK _ _ _ _ _ (hI.put hq0 hp2 hq2)
      · unfold wp_X7_hold wp_X7_hold_28
        refine isReg7 ?_
        rw [if_pos hr]
        have key : wp_X8_hold (fun v2 mu' md' => K (-1) sa sb v2 mu' md') mu md r p q := by
          unfold wp_X8_hold wp_X8_hold_31
          refine isReg8 ?_
          rw [if_pos hr]
          refine ⟨fun h => absurd h (by omega), fun _ => in8 ?_⟩
          rw [if_pos hp]
          refine ⟨fun h => absurd h (by omega), fun _ => in8 ?_⟩
          rw [if_neg hq]
          exact ⟨fun h => absurd rfl h, fun _ => hK _ _ _ _ _ hI⟩
        exact ⟨fun _ => key, fun _ => ⟨fun _ => key, fun _ => ⟨fun _ => key, fun _ => ⟨fun _ => key, fun _ => ⟨fun h => absurd hq (by omega), fun _ => key⟩⟩⟩⟩⟩
    · unfold wp_X7_hold wp_X7_hold_28
      refine isReg7 ?_
      rw [if_pos hr]
      have key : wp_X8_hold (fun v2 mu' md' => K (-1) sa sb v2 mu' md') mu md r p q := by
        unfold wp_X8_hold wp_X8_hold_31
        refine isReg8 ?_
        rw [if_pos hr]
        refine ⟨fun h => absurd h (by omega), fun _ => in8 ?_⟩
        rw [if_neg hp]
        exact ⟨fun _ => hK _ _ _ _ _ hI, fun h => absurd rfl h⟩
      exact ⟨fun _ => key, fun _ => ⟨fun _ => key, fun _ => ⟨fun _ => key, fun _ => ⟨fun _ => key, fun _ => ⟨fun h => absurd hp (by omega), fun _ => key⟩⟩⟩⟩⟩
  · unfold wp_X7_hold wp_X7_hold_28
    refine isReg7 ?_
    rw [if_neg hr]
    refine ⟨fun _ => ?_, fun h => absurd rfl h⟩
    unfold wp_X8_hold wp_X8_hold_31
    refine isReg8 ?_
    rw [if_neg hr]
    exact ⟨fun _ => hK _ _ _ _ _ hI, fun h => absurd rfl h⟩
