/-! ===== handy, the reference's side: each divisor is at most one above the sum of the lesser ones ===== -/
def sdv (n : Nat) : Nat → Nat
  | 0 => 0
  | d + 1 => sdv n d + (if n % (d + 1) = 0 then d + 1 else 0)
def hAll (n : Nat) : Nat → Bool
  | 0 => true
  | d + 1 => hAll n d && (decide (¬ n % (d + 1) = 0) || decide (d + 1 ≤ sdv n d + 1))
theorem sdv_le (n : Nat) : ∀ d, d ≤ 20000 → sdv n d ≤ d * 20000 := by
  intro d
  induction d with
  | zero => intro _; exact Nat.zero_le _
  | succ d ih =>
    intro h
    have h1 := ih (by omega)
    have e1 : sdv n (d + 1) = sdv n d + (if n % (d + 1) = 0 then d + 1 else 0) := rfl
    have h2 : (if n % (d + 1) = 0 then d + 1 else 0) ≤ 20000 := by
      by_cases z : n % (d + 1) = 0
      · rw [if_pos z]; exact h
      · rw [if_neg z]; exact Nat.zero_le _
    rw [e1, Nat.succ_mul]
    exact Nat.add_le_add h1 h2
theorem handy8L {Q : Int → Prop} {n : Nat} (hn : n ≤ 20000) (hQ : Q (if hAll n n = true then 1 else 0)) : ∀ (k d : Nat), d + k = n → wp_X8_handy_22 Q (k + 1) n (sdv n d) (if hAll n d = true then 1 else 0) ((d + 1 : Nat) : Int) := by
  intro k
  induction k with
  | zero =>
    intro d hd
    have : d = n := by omega
    subst this
    rw [wp_X8_handy_22]
    unfold wp_X8_handy_79
    refine ⟨fun _ => ⟨fun h => ?_, fun h => ?_⟩, fun z => absurd z (by omega)⟩
    · split at h
      · exact absurd h (by omega)
      · rename_i h2; rw [if_neg h2] at hQ; exact hQ
    · split at h
      · rename_i h2; rw [if_pos h2] at hQ; exact hQ
      · exact absurd rfl h
  | succ k ih =>
    intro d hd
    have hs := sdv_le n d (by omega)
    have ih1 := ih (d + 1) (by omega)
    have e1 : sdv n (d + 1) = sdv n d + (if n % (d + 1) = 0 then d + 1 else 0) := rfl
    have e2 : hAll n (d + 1) = (hAll n d && (decide (¬ n % (d + 1) = 0) || decide (d + 1 ≤ sdv n d + 1))) := rfl
    rw [wp_X8_handy_22]
    unfold wp_X8_handy_54 wp_X8_handy_55 wp_X8_handy_63
    rw [nm_tmod]
    refine ⟨fun z => absurd z (by omega), fun _ => ⟨by omega, fun h0 => ⟨⟨by omega, by omega⟩, ?_⟩, fun h0 => ?_⟩⟩
    · have h1 : ¬ n % (d + 1) = 0 := fun z => h0 (by rw [z]; rfl)
      rw [e1, e2, if_neg h1, decide_eq_true h1, Bool.true_or, Bool.and_true] at ih1
      exact ih1
    · have h1 : n % (d + 1) = 0 := Int.ofNat.inj h0
      rw [if_pos h1] at e1
      have e3 : hAll n (d + 1) = (hAll n d && decide (d + 1 ≤ sdv n d + 1)) := by rw [e2, h1]; simp
      refine ⟨fun h2 => ⟨⟨by omega, by omega⟩, fun x hx => ⟨⟨by omega, by omega⟩, ?_⟩⟩, fun h2 => ⟨⟨by omega, by omega⟩, fun h3 => ⟨⟨by omega, by omega⟩, fun x hx => ⟨⟨by omega, by omega⟩, ?_⟩⟩, fun h3 => ⟨⟨by omega, by omega⟩, fun x hx => ⟨⟨by omega, by omega⟩, ?_⟩⟩⟩⟩
      · have hf : ¬ hAll n d = true := by intro z; rw [if_pos z] at h2; exact absurd h2 (by omega)
        have hx2 : x = ((sdv n (d + 1) : Nat) : Int) := by rw [hx, e1]; rfl
        have hz : ¬ hAll n (d + 1) = true := by rw [e3]; simp [hf]
        rw [if_neg hz] at ih1
        rw [hx2]; exact ih1
      · have hx2 : x = ((sdv n (d + 1) : Nat) : Int) := by rw [hx, e1]; rfl
        have hz : ¬ hAll n (d + 1) = true := by rw [e3]; simp; intro _; omega
        rw [if_neg hz] at ih1
        rw [hx2]; exact ih1
      · have ht : hAll n d = true := by
          by_cases z : hAll n d = true
          · exact z
          · rw [if_neg z] at h2; exact absurd rfl h2
        have hx2 : x = ((sdv n (d + 1) : Nat) : Int) := by rw [hx, e1]; rfl
        have hz : hAll n (d + 1) = true := by rw [e3, ht]; simp; omega
        rw [if_pos hz] at ih1
        rw [hx2]; exact ih1
theorem handy8 {Q : Int → Prop} {n : Nat} (h1 : 1 ≤ n) (hn : n ≤ 20000) (hQ : Q (if hAll n n = true then 1 else 0)) : wp_X8_handy Q n := by
  unfold wp_X8_handy
  refine in8 ?_
  rw [if_pos (by omega)]
  exact ⟨fun _ => ⟨n + 1, handy8L hn hQ n 0 (by omega)⟩, fun z => absurd z (by omega)⟩
