/-- the reference's road of factors: with the same list, or spent -/
theorem factors8 {Q : Int → (Int → Int) → Int → Prop} {q : Nat} (hq : 0 < q) (hq2 : q ≤ 1000000) : ∀ (f p m : Nat) (l : List Nat) (row : Int → Int), f + l.length = 17 → l.length ≤ 16 → rep row l → p < q → 1 ≤ m → m ≤ 1000000000000 →
    (∀ l' row', factL q f p m l = some l' → rep row' l' → Q (l'.length : Nat) row' 0) → (factL q f p m l = none → ∀ (l' : List Nat) row', l'.length ≤ 16 → Q (l'.length : Nat) row' 1) → wp_X8_factors_6 Q (f + 1) (l.length : Nat) row 0 q p m := by
  intro f
  induction f with
  | zero => intro p m l row hf hl; exact absurd hf (by omega)
  | succ f ih =>
    intro p m l row hf hl hr hp hm hm2 h1 h2
    have spent : ∀ (k : Nat) (p' m' : Int) (l' : List Nat) (row' : Int → Int), l'.length ≤ 16 → factL q (f + 1) p m l = none → wp_X8_factors_6 Q (k + 1) (l'.length : Nat) row' 1 q p' m' := by
      intro k p' m' l' row' hl' e
      rw [wp_X8_factors_6]
      unfold wp_X8_factors_84
      exact ⟨fun _ => h2 e l' row' hl', fun _ => ⟨fun _ => h2 e l' row' hl', fun z => absurd z (by omega)⟩⟩
    rw [wp_X8_factors_6]
    refine ⟨fun z => ?_, fun y => ⟨fun z => absurd rfl z, fun _ => ⟨⟨by omega, by omega⟩, ⟨by omega, by omega⟩, by omega, fun x hx => ?_⟩⟩⟩
    · have : p = 0 := by omega
      subst this
      exact h1 l row factL_0 hr
    · have hp0 : 0 < p := by omega
      have hc := ceil_ge (q := q) hp0
      have ha1 : 1 ≤ (q + p - 1) / p := (Nat.le_div_iff_mul_le hp0).mpr (by omega)
      have hS := @factL_s q f p m l (by omega)
      have hG := @factL_G q f p m l (by omega)
      have h16 := @factL_16 q f p m l (by omega)
      have e0 : (q : Int) + (p : Int) - 1 = ((q + p - 1 : Nat) : Int) := by omega
      rw [e0, nm_tdiv] at hx
      generalize (q + p - 1) / p = a at hc ha1 hS hG hx
      rw [hx]
      have eG : Int.tdiv 1000000000000 (a : Int) = ((1000000000000 / a : Nat) : Int) := nm_tdiv 1000000000000 a
      rw [eG]
      have hdiv : m ≤ 1000000000000 / a ↔ m * a ≤ 1000000000000 := Nat.le_div_iff_mul_le ha1
      unfold wp_X8_factors_49 wp_X8_factors_81
      refine ⟨by omega, fun w => ⟨Or.inl rfl, fun z => absurd rfl z, fun _ => ?_⟩, fun w => ⟨Or.inr rfl, fun _ => ?_, fun z => absurd z (by omega)⟩⟩
      · have w2 : m * a ≤ 1000000000000 := hdiv.mp (Int.ofNat_le.mp w)
        have c1 : (m : Int) * (a : Int) = ((m * a : Nat) : Int) := rfl
        have c2 : (a : Int) * (p : Int) = ((a * p : Nat) : Int) := rfl
        have hm1 : 1 ≤ m * a := Nat.mul_pos hm ha1
        rw [c1, c2]
        refine ⟨⟨by omega, by omega⟩, fun t ht => ?_⟩
        rw [ht]
        refine put8 hr hl (fun b1 b2 row' hr' => ⟨⟨by omega, by omega⟩, ⟨by omega, by omega⟩, fun u hu => ?_⟩) (fun b => ⟨⟨by omega, by omega⟩, ⟨by omega, by omega⟩, fun u hu => ?_⟩)
        · have hS2 := hS (by omega) (by omega)
          have eu : u = ((a * p - q : Nat) : Int) := by omega
          rw [eu]
          exact ih (a * p - q) (m * a) (l ++ [m * a]) row' (by rw [List.length_append, List.length_singleton]; omega) (by rw [List.length_append, List.length_singleton]; omega) hr' (by omega) hm1 w2 (fun l' s2 e r => h1 l' s2 (by rw [hS2]; exact e) r) (fun e => h2 (by rw [hS2]; exact e))
        · exact spent _ _ _ l row hl (h16 (by omega))
      · have w2 : 1000000000000 < m * a := by
          have : ¬ m ≤ 1000000000000 / a := fun z => w (Int.ofNat_le.mpr z)
          rw [hdiv] at this
          omega
        by_cases hlen : 16 ≤ l.length
        · exact spent _ _ _ l row hl (h16 hlen)
        · exact spent _ _ _ l row hl (hG hlen w2)
