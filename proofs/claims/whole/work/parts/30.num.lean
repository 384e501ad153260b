/-! ===== whole numbers: the greatest common divisor on both sides ===== -/
theorem nm_tmod (a b : Nat) : (a : Int).tmod (b : Int) = ((a % b : Nat) : Int) := by
  rw [Int.tmod_eq_emod_of_nonneg (Int.natCast_nonneg a)]; rfl
theorem nm_tdiv (a b : Nat) : (a : Int).tdiv (b : Int) = ((a / b : Nat) : Int) := by
  rw [Int.tdiv_eq_ediv_of_nonneg (Int.natCast_nonneg a)]; rfl
theorem nm_gcd (a b : Nat) : Nat.gcd a b = Nat.gcd b (a % b) := by
  rw [Nat.gcd_comm a b, Nat.gcd_rec b a, Nat.gcd_comm]
theorem gcd8_n {Q : Int → Prop} : ∀ (b a : Nat), Q (Nat.gcd a b : Nat) → ∃ n, wp_X8_gcd_6 Q n a b := by
  intro b
  induction b using Nat.strongRecOn with
  | ind b ih =>
    intro a h
    by_cases hb : b = 0
    · subst hb
      refine ⟨1, ?_⟩
      rw [wp_X8_gcd_6]
      exact ⟨fun _ => by simpa using h, fun z => absurd rfl z⟩
    · obtain ⟨n, hn⟩ := ih (a % b) (Nat.mod_lt _ (by omega)) b (by rw [← nm_gcd]; exact h)
      refine ⟨n + 1, ?_⟩
      rw [wp_X8_gcd_6]
      refine ⟨fun z => absurd z (by omega), fun _ => ⟨by omega, fun x hx => ?_⟩⟩
      rw [nm_tmod] at hx
      rw [hx]
      exact hn
theorem gcd8 {Q : Int → Prop} {a b : Nat} (h : Q (Nat.gcd a b : Nat)) : wp_X8_gcd Q a b := gcd8_n b a h
/-- Fibonacci's numbers, two at a time -/
def fp2 : Nat → Nat × Nat
  | 0 => (0, 1)
  | n + 1 => match fp2 n with | (a, b) => (b, a + b)
theorem fp2_s (n : Nat) : (fp2 (n + 1)).1 = (fp2 n).2 ∧ (fp2 (n + 1)).2 = (fp2 n).1 + (fp2 n).2 := by
  cases h : fp2 n with
  | mk a b => simp [fp2, h]
theorem fp2_93 : 9223372036854775808 ≤ (fp2 93).1 := by decide +kernel
theorem fp2_2 (n : Nat) : (fp2 (n + 2)).1 = (fp2 n).1 + (fp2 (n + 1)).1 := by
  rw [(fp2_s (n + 1)).1, (fp2_s n).2, (fp2_s n).1]
theorem cd_0 {Q : Int → Prop} {a : Nat} {i : Int} (h : Q (max 1 (a : Int))) : ∃ n, wp_X7_commonDivisor_9 Q n a 0 i := by
  refine ⟨1, ?_⟩
  rw [wp_X7_commonDivisor_9]
  exact ⟨fun _ => h, fun _ => ⟨fun _ => h, fun z => absurd rfl z⟩⟩
theorem cd_s {Q : Int → Prop} {a b : Nat} {i : Int} (hb : 0 < b) (hi : 0 ≤ i) (hi2 : i < 100) (h : ∃ n, wp_X7_commonDivisor_9 Q n b ((a % b : Nat) : Int) (i + 1)) : ∃ n, wp_X7_commonDivisor_9 Q n a b i := by
  obtain ⟨n, hn⟩ := h
  refine ⟨n + 1, ?_⟩
  rw [wp_X7_commonDivisor_9]
  refine ⟨fun z => absurd z (by omega), fun _ => ⟨fun z => absurd z (by omega), fun _ => ⟨by omega, fun x hx => ⟨⟨by omega, by omega⟩, ?_⟩⟩⟩⟩
  rw [hx, nm_tmod]
  exact hn
theorem cd_fib {Q : Int → Prop} : ∀ (k : Nat), (∀ (a b : Nat) (i : Int), 0 ≤ i → b < (fp2 (k + 1)).1 → i + k ≤ 100 → Q (max 1 ((Nat.gcd a b : Nat) : Int)) → ∃ n, wp_X7_commonDivisor_9 Q n a b i) ∧ (∀ (a b : Nat) (i : Int), 0 ≤ i → b < (fp2 (k + 2)).1 → i + (k + 1) ≤ 100 → Q (max 1 ((Nat.gcd a b : Nat) : Int)) → ∃ n, wp_X7_commonDivisor_9 Q n a b i) := by
  intro k
  induction k with
  | zero =>
    have e1 : (fp2 (0 + 1)).1 = 1 := rfl
    have e2 : (fp2 (0 + 2)).1 = 1 := rfl
    refine ⟨fun a b i hi hb _ h => ?_, fun a b i hi hb _ h => ?_⟩
    · have : b = 0 := by omega
      subst this
      exact cd_0 (by simpa using h)
    · have : b = 0 := by omega
      subst this
      exact cd_0 (by simpa using h)
  | succ k ih =>
    refine ⟨fun a b i hi hb hk h => ih.2 a b i hi hb (by omega) h, fun a b i hi hb hk h => ?_⟩
    by_cases h0 : b = 0
    · subst h0
      exact cd_0 (by simpa using h)
    · refine cd_s (by omega) hi (by omega) ?_
      have hf : (fp2 (k + 1 + 2)).1 = (fp2 (k + 1)).1 + (fp2 (k + 2)).1 := fp2_2 (k + 1)
      by_cases h1 : a % b < (fp2 (k + 2)).1
      · exact ih.2 b (a % b) (i + 1) (by omega) h1 (by omega) (by rw [← nm_gcd]; exact h)
      · by_cases h2 : a % b = 0
        · rw [h2]
          exact cd_0 (by rw [nm_gcd, h2] at h; simpa using h)
        · have hlt : a % b < b := Nat.mod_lt _ (by omega)
          refine cd_s (by omega) (by omega) (by omega) ?_
          refine ih.1 (a % b) (b % (a % b)) (i + 1 + 1) (by omega) ?_ (by omega) (by rw [← nm_gcd, ← nm_gcd]; exact h)
          have h3 : b % (a % b) ≤ b - a % b := by
            rw [Nat.mod_eq_sub_mod (Nat.le_of_lt hlt)]
            exact Nat.mod_le _ _
          omega
theorem cd7 {Q : Int → Prop} {a b : Nat} (hb : b < 9223372036854775808) (h : Q (max 1 ((Nat.gcd a b : Nat) : Int))) : wp_X7_commonDivisor Q a b :=
  (cd_fib 91).2 a b 0 (by omega) (Nat.lt_of_lt_of_le hb fp2_93) (by omega) h
theorem cd7' {Q : Int → Prop} {a b : Nat} (hb : b < 9223372036854775808) (h0 : 0 < b) (h : Q ((Nat.gcd a b : Nat) : Int)) : wp_X7_commonDivisor Q a b := cd7 hb (by
  have : 0 < Nat.gcd a b := Nat.gcd_pos_of_pos_right _ h0
  rw [Int.max_eq_right (by omega)]; exact h)
