/-! ===== greed and odd shares: the class's side ===== -/
def nxt (odd : Bool) (p q last : Nat) : Nat := if odd = true ∧ max ((q + p - 1) / p) (last + 1) % 2 = 0 then max ((q + p - 1) / p) (last + 1) + 1 else max ((q + p - 1) / p) (last + 1)
def grA (p q n : Nat) : Nat := p * (q / Nat.gcd q n * n / q) - q / Nat.gcd q n
def grC (q n : Nat) : Nat := q / Nat.gcd q n * n
def greedL (odd : Bool) : Nat → Nat → Nat → Nat → List Nat → Option (List Nat)
  | 0, _, _, _, _ => none
  | f + 1, p, q, last, l => if p = 0 then some l else if 16 ≤ l.length then none else
      if 1000000000000 < nxt odd p q last then none else
      if 1000000000000000 / nxt odd p q last < q / Nat.gcd q (nxt odd p q last) then none else
      greedL odd f (grA p q (nxt odd p q last) / Nat.gcd (grA p q (nxt odd p q last)) (grC q (nxt odd p q last))) (grC q (nxt odd p q last) / Nat.gcd (grA p q (nxt odd p q last)) (grC q (nxt odd p q last))) (nxt odd p q last) (l ++ [nxt odd p q last])
theorem nxt_ge {odd : Bool} {p q last : Nat} (hp : 0 < p) : last < nxt odd p q last ∧ q ≤ p * nxt odd p q last := by
  have hc := ceil_ge (q := q) hp
  unfold nxt
  generalize hA : (q + p - 1) / p = c at hc ⊢
  have h1 : ∀ n, c ≤ n → q ≤ p * n := by
    intro n hn
    have := Nat.mul_le_mul_right p hn
    rw [Nat.mul_comm p n]
    omega
  split
  · exact ⟨by omega, h1 _ (by omega)⟩
  · exact ⟨by omega, h1 _ (by omega)⟩
/-- one step: the common number below, what is left above -/
theorem gr_step {p q n : Nat} (hp : 0 < p) (hpq : p < q) (hn : 0 < n) (hqn : q ≤ p * n) : 0 < grC q n ∧ q / Nat.gcd q n ≤ p * (grC q n / q) ∧ p * (grC q n / q) < grC q n ∧ grC q n / n = q / Nat.gcd q n := by
  have hg : 0 < Nat.gcd q n := Nat.gcd_pos_of_pos_right _ hn
  obtain ⟨u, hu⟩ := Nat.gcd_dvd_left q n
  obtain ⟨w, hw⟩ := Nat.gcd_dvd_right q n
  unfold grC
  generalize Nat.gcd q n = g at hg hu hw
  have e1 : q / g = u := by rw [hu]; exact Nat.mul_div_cancel_left u hg
  rw [e1]
  have hu0 : 0 < u := by
    rcases Nat.eq_zero_or_pos u with z | z
    · rw [z] at hu; omega
    · exact z
  have hw0 : 0 < w := by
    rcases Nat.eq_zero_or_pos w with z | z
    · rw [z] at hw; omega
    · exact z
  have e2 : u * n = q * w := by rw [hu, hw]; grind
  have e3 : u * n / q = w := by rw [e2]; exact Nat.mul_div_cancel_left w (by omega)
  rw [e3]
  refine ⟨Nat.mul_pos hu0 hn, ?_, ?_, Nat.mul_div_cancel _ hn⟩
  · have h2 : g * u ≤ g * (p * w) := by
      have : p * n = g * (p * w) := by rw [hw]; grind
      rw [← this, ← hu]; exact hqn
    exact Nat.le_of_mul_le_mul_left h2 hg
  · rw [e2]
    exact Nat.mul_lt_mul_of_pos_right hpq hw0
