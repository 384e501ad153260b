theorem eu_step {fx fy x y t m : Int} (h : fx * y - fy * x = m) : (fy - t * fx) * x - fx * (y - t * x) = -m := by grind
theorem eu_dvd {m a fx fy x y t : Int} (h1 : m ∣ fx * a - x) (h2 : m ∣ fy * a - y) : m ∣ (fy - t * fx) * a - (y - t * x) := by
  obtain ⟨u, hu⟩ := h1
  obtain ⟨w, hw⟩ := h2
  exact ⟨w - t * u, by grind⟩
def EuI (m a fx fy : Int) (x y : Nat) : Prop := m ∣ fx * a - x ∧ m ∣ fy * a - y ∧ ((0 ≤ fx ∧ fy ≤ 0 ∧ fx * y - fy * x = m) ∨ (fx ≤ 0 ∧ 0 ≤ fy ∧ fy * x - fx * y = m)) ∧ -m ≤ fy ∧ fy ≤ m
theorem eu_b {m a fx fy : Int} {x y : Nat} (h : EuI m a fx fy x y) (hy : 0 < y) {t : Nat} (ht : t ≤ y) : (-m ≤ fx ∧ fx ≤ m) ∧ (-m ≤ t * fx ∧ t * fx ≤ m) := by
  obtain ⟨-, -, h3, -, -⟩ := h
  have ty : (t : Int) ≤ (y : Int) := by omega
  have y1 : (1 : Int) ≤ (y : Int) := by omega
  have t0 : (0 : Int) ≤ (t : Int) := by omega
  have x0 : (0 : Int) ≤ (x : Int) := by omega
  rcases h3 with ⟨a1, a2, a3⟩ | ⟨a1, a2, a3⟩
  · have b1 : fy * x ≤ 0 := Int.mul_nonpos_of_nonpos_of_nonneg a2 x0
    have b2 : (t : Int) * fx ≤ y * fx := Int.mul_le_mul_of_nonneg_right ty a1
    have b3 : 1 * fx ≤ y * fx := Int.mul_le_mul_of_nonneg_right y1 a1
    have b4 : (y : Int) * fx = fx * y := Int.mul_comm _ _
    have b5 : 0 ≤ (t : Int) * fx := Int.mul_nonneg t0 a1
    omega
  · have b1 : 0 ≤ fy * x := Int.mul_nonneg a2 x0
    have b2 : (t : Int) * (-fx) ≤ y * (-fx) := Int.mul_le_mul_of_nonneg_right ty (by omega)
    have b3 : 1 * (-fx) ≤ y * (-fx) := Int.mul_le_mul_of_nonneg_right y1 (by omega)
    have b4 : (y : Int) * (-fx) = -(fx * y) := by grind
    have b5 : 0 ≤ (t : Int) * (-fx) := Int.mul_nonneg t0 (by omega)
    have b6 : (t : Int) * (-fx) = -((t : Int) * fx) := by grind
    omega
theorem eu_s {m a fx fy : Int} {x y : Nat} (h : EuI m a fx fy x y) (hy : 0 < y) (hx : 0 < x) : EuI m a (fy - (y / x : Nat) * fx) fx (y % x) x := by
  have hb := eu_b h hy (t := 0) (by omega)
  obtain ⟨h1, h2, h3, h4, h5⟩ := h
  have e : ((y % x : Nat) : Int) = (y : Int) - ((y / x : Nat) : Int) * x := by
    have h6 := Nat.div_add_mod y x
    have h7 : ((x * (y / x) + y % x : Nat) : Int) = y := by rw [h6]
    rw [Int.natCast_add, Int.natCast_mul] at h7
    grind
  have t0 : (0 : Int) ≤ ((y / x : Nat) : Int) := Int.natCast_nonneg _
  rw [EuI, e]
  generalize ((y / x : Nat) : Int) = t at t0
  refine ⟨eu_dvd h1 h2, h1, ?_, hb.1.1, hb.1.2⟩
  rcases h3 with ⟨a1, a2, a3⟩ | ⟨a1, a2, a3⟩
  · refine Or.inr ⟨?_, a1, by grind⟩
    have := Int.mul_nonneg t0 a1
    omega
  · refine Or.inl ⟨?_, a1, by grind⟩
    have := Int.mul_nonpos_of_nonneg_of_nonpos t0 a1
    omega
