/-! ===== the class's inverse ===== -/
theorem inv_0 {Q : Int → Prop} {m : Nat} {a : Int} (hm : 1 < m) (hQ : ∀ s : Int, 0 ≤ s → s < m → (m : Int) ∣ s * a - 1 → Q s) {y : Nat} {fx fy i : Int} (h : EuI m a fx fy 0 y) (hg : Nat.gcd y 0 = 1) : ∃ n, wp_X7_inverse_25 Q n m 0 y fx fy i := by
  refine ⟨1, ?_⟩
  rw [wp_X7_inverse_25]
  have k : wp_X7_inverse_88 Q m fy := by
    unfold wp_X7_inverse_88
    refine ⟨by omega, hQ _ (Int.emod_nonneg _ (by omega)) (Int.emod_lt_of_pos _ (by omega)) ?_⟩
    have h2 := h.2.1
    have hy : y = 1 := by simpa using hg
    subst hy
    have e := Int.emod_add_mul_ediv fy m
    obtain ⟨u, hu⟩ := h2
    refine ⟨u - fy / m * a, ?_⟩
    have hu2 : fy * a - 1 = m * u := hu
    generalize fy % (m : Int) = r at e ⊢
    generalize fy / (m : Int) = q at e ⊢
    grind
  exact ⟨fun _ => k, fun _ => ⟨fun _ => k, fun z => absurd z (by omega)⟩⟩
theorem inv_s {Q : Int → Prop} {m : Nat} {a : Int} (hm2 : m ≤ 1000000) {x y : Nat} {fx fy i : Int} (hx : 0 < x) (hy : 0 < y) (hym : y ≤ m) (hi : 0 ≤ i) (hi2 : i < 100) (h : EuI m a fx fy x y) (k : ∃ n, wp_X7_inverse_25 Q n m ((y % x : Nat) : Int) x (fy - (y / x : Nat) * fx) fx (i + 1)) : ∃ n, wp_X7_inverse_25 Q n m x y fx fy i := by
  obtain ⟨n, hn⟩ := k
  refine ⟨n + 1, ?_⟩
  rw [wp_X7_inverse_25]
  have hb := eu_b h hy (t := y / x) (Nat.div_le_self _ _)
  have hf := h.2.2.2
  have e : ((y % x : Nat) : Int) = (y : Int) - ((y / x : Nat) : Int) * x := by
    have h6 := Nat.div_add_mod y x
    have h7 : ((x * (y / x) + y % x : Nat) : Int) = y := by rw [h6]
    rw [Int.natCast_add, Int.natCast_mul] at h7
    grind
  have hlt := Nat.mod_lt y hx
  have hle := Nat.mod_le y x
  rw [nm_tdiv]
  generalize ((y / x : Nat) : Int) = t at hb e hn ⊢
  generalize y % x = z at e hn hlt hle
  refine ⟨fun w => absurd w (by omega), fun _ => ⟨fun w => absurd w (by omega), fun _ => ⟨by omega, fun u hu => ?_⟩⟩⟩
  rw [hu]
  generalize hA : t * (x : Int) = A at e ⊢
  generalize hB : t * fx = B at hb hn ⊢
  refine ⟨⟨by omega, by omega⟩, ⟨by omega, by omega⟩, fun v hv => ⟨⟨by omega, by omega⟩, ⟨by omega, by omega⟩, fun w hw => ⟨⟨by omega, by omega⟩, ?_⟩⟩⟩
  have ev : v = (z : Int) := by omega
  rw [ev, hw]
  exact hn
theorem inv_fib {Q : Int → Prop} {m : Nat} {a : Int} (hm : 1 < m) (hm2 : m ≤ 1000000) (hQ : ∀ s : Int, 0 ≤ s → s < m → (m : Int) ∣ s * a - 1 → Q s) : ∀ (k : Nat), (∀ (x y : Nat) (fx fy i : Int), 0 ≤ i → x < (fp2 (k + 1)).1 → i + k ≤ 100 → 0 < y → y ≤ m → x ≤ m → EuI m a fx fy x y → Nat.gcd y x = 1 → ∃ n, wp_X7_inverse_25 Q n m x y fx fy i) ∧ (∀ (x y : Nat) (fx fy i : Int), 0 ≤ i → x < (fp2 (k + 2)).1 → i + (k + 1) ≤ 100 → 0 < y → y ≤ m → x ≤ m → EuI m a fx fy x y → Nat.gcd y x = 1 → ∃ n, wp_X7_inverse_25 Q n m x y fx fy i) := by
  intro k
  induction k with
  | zero =>
    have e1 : (fp2 (0 + 1)).1 = 1 := rfl
    have e2 : (fp2 (0 + 2)).1 = 1 := rfl
    refine ⟨fun x y fx fy i hi hx _ hy hym hxm h hg => ?_, fun x y fx fy i hi hx _ hy hym hxm h hg => ?_⟩
    · have : x = 0 := by omega
      subst this
      exact inv_0 hm hQ h hg
    · have : x = 0 := by omega
      subst this
      exact inv_0 hm hQ h hg
  | succ k ih =>
    refine ⟨fun x y fx fy i hi hx hk hy hym hxm h hg => ih.2 x y fx fy i hi hx (by omega) hy hym hxm h hg, fun x y fx fy i hi hx hk hy hym hxm h hg => ?_⟩
    by_cases h0 : x = 0
    · subst h0
      exact inv_0 hm hQ h hg
    · have hx0 : 0 < x := by omega
      have hs := eu_s h hy hx0
      have hg2 : Nat.gcd x (y % x) = 1 := by rw [← nm_gcd]; exact hg
      refine inv_s hm2 hx0 hy hym hi (by omega) h ?_
      have hf : (fp2 (k + 1 + 2)).1 = (fp2 (k + 1)).1 + (fp2 (k + 2)).1 := fp2_2 (k + 1)
      by_cases h1 : y % x < (fp2 (k + 2)).1
      · exact ih.2 (y % x) x _ _ (i + 1) (by omega) h1 (by omega) hx0 hxm (Nat.le_trans (Nat.le_of_lt (Nat.mod_lt _ hx0)) hxm) hs hg2
      · by_cases h2 : y % x = 0
        · rw [h2] at hs hg2 ⊢
          exact inv_0 hm hQ hs hg2
        · have hlt : y % x < x := Nat.mod_lt _ hx0
          have hs2 := eu_s hs hx0 (by omega)
          refine inv_s hm2 (by omega) hx0 hxm (by omega) (by omega) hs ?_
          refine ih.1 (x % (y % x)) (y % x) _ _ (i + 1 + 1) (by omega) ?_ (by omega) (by omega) (by omega) (Nat.le_trans (Nat.mod_le _ _) hxm) hs2 (by rw [← nm_gcd]; exact hg2)
          have h3 : x % (y % x) ≤ x - y % x := by
            rw [Nat.mod_eq_sub_mod (Nat.le_of_lt hlt)]
            exact Nat.mod_le _ _
          omega
theorem inverse7 {Q : Int → Prop} {m a : Nat} (hm : 1 < m) (hm2 : m ≤ 1000000) (hg : Nat.gcd a m = 1) (hQ : ∀ s : Int, 0 ≤ s → s < m → (m : Int) ∣ s * a - 1 → Q s) : wp_X7_inverse Q a m := by
  unfold wp_X7_inverse
  refine ⟨fun _ => ⟨by omega, fun x hx => ?_⟩, fun z => absurd z (by omega)⟩
  rw [nm_tmod] at hx
  rw [hx]
  have hlt : a % m < m := Nat.mod_lt _ (by omega)
  have hE : EuI m a 1 0 (a % m) m := by
    refine ⟨?_, ?_, Or.inl ⟨by omega, by omega, by omega⟩, by omega, by omega⟩
    · have h6 := Nat.div_add_mod a m
      have h7 : ((m * (a / m) + a % m : Nat) : Int) = a := by rw [h6]
      rw [Int.natCast_add, Int.natCast_mul] at h7
      exact ⟨((a / m : Nat) : Int), by omega⟩
    · exact ⟨-1, by omega⟩
  have hb : a % m < (fp2 93).1 := Nat.lt_of_lt_of_le (by omega) fp2_93
  exact (inv_fib hm hm2 hQ 91).2 (a % m) m 1 0 0 (by omega) hb (by omega) (by omega) (Nat.le_refl _) (Nat.le_of_lt hlt) hE (by rw [← nm_gcd]; exact hg)
