/-! ===== the road of middles ===== -/
noncomputable def mInv (p q : Nat) : Nat := Classical.epsilon (fun s : Nat => s < q ∧ (q : Int) ∣ (s : Int) * p - 1)
theorem mInv_eq {p q : Nat} (hg : Nat.gcd p q = 1) {s : Int} (h0 : 0 ≤ s) (h1 : s < q) (hd : (q : Int) ∣ s * p - 1) : s = mInv p q := by
  obtain ⟨k, rfl⟩ := Int.eq_ofNat_of_zero_le h0
  have hs := Classical.epsilon_spec (p := fun s : Nat => s < q ∧ (q : Int) ∣ (s : Int) * p - 1) ⟨k, by omega, hd⟩
  exact inv_one hg h0 h1 (Int.natCast_nonneg _) (by have := hs.1; exact Int.ofNat_lt.mpr this) hd hs.2
noncomputable def middL : Nat → Nat → Nat → List Nat → Option (List Nat)
  | 0, _, _, _ => none
  | f + 1, p, q, l => if p = 0 then some l else if 16 ≤ l.length then none else middL f ((p * mInv p q - 1) / q) (mInv p q) (l ++ [q * mInv p q])
theorem middL_0 {f q : Nat} {l : List Nat} : middL (f + 1) 0 q l = some l := by rw [middL, if_pos rfl]
theorem middL_16 {f p q : Nat} {l : List Nat} (hp : ¬ p = 0) (h : 16 ≤ l.length) : middL (f + 1) p q l = none := by rw [middL, if_neg hp, if_pos h]
theorem middL_s {f p q : Nat} {l : List Nat} (hp : ¬ p = 0) (h : ¬ 16 ≤ l.length) : middL (f + 1) p q l = middL f ((p * mInv p q - 1) / q) (mInv p q) (l ++ [q * mInv p q]) := by rw [middL, if_neg hp, if_neg h]
/-- what one step of the road needs and leaves -/
theorem mid_step {p q s : Nat} (hp : 0 < p) (hpq : p < q) (hs : s < q) (hd : (q : Int) ∣ (s : Int) * p - 1) : 0 < s ∧ 1 ≤ p * s ∧ (p * s - 1) / q * q = p * s - 1 ∧ (p * s - 1) / q < s ∧ Nat.gcd ((p * s - 1) / q) s = 1 := by
  have hs0 : 0 < s := by
    rcases Nat.eq_zero_or_pos s with z | z
    · subst z
      obtain ⟨u, hu⟩ := hd
      have hdv : (q : Int) ∣ 1 := ⟨-u, by grind⟩
      have := Int.le_of_dvd (by omega) hdv
      omega
    · exact z
  have hps : 1 ≤ p * s := Nat.mul_pos hp hs0
  have hdn : q ∣ p * s - 1 := by
    have e : (s : Int) * p - 1 = ((p * s - 1 : Nat) : Int) := by
      rw [Int.natCast_sub hps, Int.natCast_mul]
      grind
    rw [e] at hd
    exact Int.natCast_dvd_natCast.mp hd
  have h3 : (p * s - 1) / q * q = p * s - 1 := Nat.div_mul_cancel hdn
  have h4 : p * s < q * s := Nat.mul_lt_mul_of_pos_right hpq hs0
  refine ⟨hs0, hps, h3, ?_, ?_⟩
  · rw [Nat.div_lt_iff_lt_mul (by omega)]
    rw [Nat.mul_comm s q]
    omega
  · generalize (p * s - 1) / q = r at h3
    have h5 : p * s = r * q + 1 := by omega
    have h6 : Nat.gcd r s ∣ 1 := by
      have a1 : Nat.gcd r s ∣ p * s := Nat.dvd_trans (Nat.gcd_dvd_right r s) (Nat.dvd_mul_left s p)
      have a2 : Nat.gcd r s ∣ r * q := Nat.dvd_trans (Nat.gcd_dvd_left r s) (Nat.dvd_mul_right r q)
      rw [h5] at a1
      exact (Nat.dvd_add_right a2).mp a1
    exact Nat.dvd_one.mp h6
theorem byMiddles3 {Q : Int → (Int → Int) → Int → Prop} : ∀ (f p q : Nat) (l : List Nat) (sh : Int → Int), f + l.length = 17 → l.length ≤ 16 → rep sh l → p < q → q ≤ 1000000 → Nat.gcd p q = 1 →
    (∀ l' sh', middL f p q l = some l' → rep sh' l' → Q 1 sh' (l'.length : Nat)) → (middL f p q l = none → ∀ sh' v, Q 0 sh' v) → wp_X3_byMiddles_9 Q f sh (l.length : Nat) p q (l.length : Nat) := by
  intro f
  induction f with
  | zero => intro p q l sh hf hl; exact absurd hf (by omega)
  | succ f ih =>
    intro p q l sh hf hl hr hpq hq2 hg h1 h2
    rw [wp_X3_byMiddles_9]
    have k75 : (16 ≤ l.length ∨ p = 0) → wp_X3_byMiddles_75 Q sh (l.length : Nat) p := by
      intro hh
      unfold wp_X3_byMiddles_75 wp_X3_byMiddles_87
      refine ⟨fun z => ⟨Or.inl rfl, h2 (middL_16 (by omega) (by omega)) _ _⟩, fun z => ⟨Or.inr rfl, ?_⟩⟩
      have : p = 0 := by omega
      subst this
      exact h1 l sh middL_0 hr
    refine ⟨fun z => k75 (Or.inl (by omega)), fun z => ⟨fun y => k75 (Or.inr (by omega)), fun y => ⟨fun w => absurd w (by omega), fun _ => ?_⟩⟩⟩
    refine inverse7 (by omega) hq2 hg (fun s s0 s1 sd => ?_)
    have es := mInv_eq hg s0 s1 sd
    have hS := @middL_s f p q l (by omega) (by omega)
    generalize mInv p q = S at es hS
    subst es
    have hst := mid_step (by omega) hpq (by omega) sd
    obtain ⟨c1, c2, c3, c4, c5⟩ := hst
    have d1 : (q : Int) * (S : Int) = ((q * S : Nat) : Int) := rfl
    have d2 : (p : Int) * (S : Int) = ((p * S : Nat) : Int) := rfl
    have m1 : q * S ≤ 1000000 * 1000000 := Nat.mul_le_mul hq2 (by omega)
    have m2 : p * S ≤ 1000000 * 1000000 := Nat.mul_le_mul (by omega) (by omega)
    rw [d1, d2]
    have d3 : ((p * S : Nat) : Int) - 1 = ((p * S - 1 : Nat) : Int) := by omega
    rw [d3]
    refine ⟨⟨by omega, by omega⟩, add3 hr (fun b1 b2 sh' hr' => ⟨fun _ => ⟨⟨by omega, by omega⟩, ⟨by omega, by omega⟩, by omega, fun t ht => ⟨⟨by omega, by omega⟩, ?_⟩⟩, fun z => absurd z (by omega)⟩) (fun b => absurd b (by omega))⟩
    rw [nm_tdiv] at ht
    have el : ((l.length : Nat) : Int) + 1 = (((l ++ [q * S]).length : Nat) : Int) := by rw [List.length_append, List.length_singleton]; rfl
    rw [ht, el]
    exact ih _ S (l ++ [q * S]) sh' (by rw [List.length_append, List.length_singleton]; omega) (by rw [List.length_append, List.length_singleton]; omega) hr' c4 (by omega) c5 (fun l' s2 e r => h1 l' s2 (by rw [hS]; exact e) r) (fun e => h2 (by rw [hS]; exact e))
