theorem middles8 {Q : Int → (Int → Int) → Int → Prop} : ∀ (f p q : Nat) (l : List Nat) (row : Int → Int), f + l.length = 17 → l.length ≤ 16 → rep row l → p < q → q ≤ 1000000 → Nat.gcd p q = 1 →
    (∀ l' row', middL f p q l = some l' → rep row' l' → Q (l'.length : Nat) row' 0) → (middL f p q l = none → ∀ (l' : List Nat) row', l'.length ≤ 16 → Q (l'.length : Nat) row' 1) → wp_X8_middles_6 Q (f + 1) (l.length : Nat) row 0 p q := by
  intro f
  induction f with
  | zero => intro p q l row hf hl; exact absurd hf (by omega)
  | succ f ih =>
    intro p q l row hf hl hr hpq hq2 hg h1 h2
    rw [wp_X8_middles_6]
    refine ⟨fun z => ?_, fun y => ⟨fun z => absurd rfl z, fun _ => ?_⟩⟩
    · have : p = 0 := by omega
      subst this
      exact h1 l row middL_0 hr
    · refine mid37 (by omega) hq2 (fun s s0 s1 sd => ?_) q p 0 1 (by omega) (by omega) (Nat.le_refl _) ?_ hg
      · have es := mInv_eq hg (by omega) s1 sd
        have hS := @middL_s f p q l (by omega)
        have h16 := @middL_16 f p q l (by omega)
        generalize mInv p q = S at es hS
        subst es
        obtain ⟨c1, c2, c3, c4, c5⟩ := mid_step (by omega) hpq (by omega) sd
        have d1 : (q : Int) * (S : Int) = ((q * S : Nat) : Int) := rfl
        have d2 : (p : Int) * (S : Int) = ((p * S : Nat) : Int) := rfl
        have m1 : q * S ≤ 1000000 * 1000000 := Nat.mul_le_mul hq2 (by omega)
        have m2 : p * S ≤ 1000000 * 1000000 := Nat.mul_le_mul (by omega) (by omega)
        have d3 : ((p * S : Nat) : Int) - 1 = ((p * S - 1 : Nat) : Int) := by omega
        unfold wp_X8_middles_117
        rw [d1, d2, d3]
        refine ⟨⟨by omega, by omega⟩, put8 hr hl (fun b1 b2 row' hr' => ⟨⟨by omega, by omega⟩, ⟨by omega, by omega⟩, by omega, fun t ht => ?_⟩) (fun b => ⟨⟨by omega, by omega⟩, ⟨by omega, by omega⟩, by omega, fun t ht => ?_⟩)⟩
        · rw [nm_tdiv] at ht
          have hS2 := hS (by omega)
          rw [ht]
          exact ih _ S (l ++ [q * S]) row' (by rw [List.length_append, List.length_singleton]; omega) (by rw [List.length_append, List.length_singleton]; omega) hr' c4 (by omega) c5 (fun l' s2 e r => h1 l' s2 (by rw [hS2]; exact e) r) (fun e => h2 (by rw [hS2]; exact e))
        · have e := h16 (by omega)
          rw [wp_X8_middles_6]
          unfold wp_X8_middles_151
          exact ⟨fun _ => h2 e l row hl, fun _ => ⟨fun _ => h2 e l row hl, fun z => absurd z (by omega)⟩⟩
      · refine ⟨⟨-1, by omega⟩, ⟨0, by omega⟩, Or.inr ⟨by omega, by omega, by omega⟩, by omega, by omega⟩
