/-! ===== the reference's inverse, within its road of middles ===== -/
theorem tmod_fix {f m : Int} (hm : 0 < m) : (Int.tmod (f.tmod m + m) m) = f % m := by
  have h1 := tmod_bounds (a := f) hm
  rw [Int.tmod_eq_emod_of_nonneg (by omega), Int.add_emod_right]
  have h2 := Int.tmod_add_mul_tdiv f m
  have h3 : (f.tmod m + m * f.tdiv m) % m = f.tmod m % m := Int.add_mul_emod_self_left _ _ _
  rw [h2] at h3
  exact h3.symm
theorem dvd_emod {m f a : Int} (h : m ∣ f * a - 1) : m ∣ f % m * a - 1 := by
  have e := Int.emod_add_mul_ediv f m
  obtain ⟨u, hu⟩ := h
  refine ⟨u - f / m * a, ?_⟩
  generalize f % m = r at e ⊢
  generalize f / m = q at e ⊢
  grind
theorem mid37 {Q : Int → (Int → Int) → Int → Prop} {K : Int → (Int → Int) → Int → Int → Int → Prop} {many : Int} {row : Int → Int} {sp p : Int} {m : Nat} (hm : 1 < m) (hm2 : m ≤ 1000000) (hQ : ∀ s : Int, 0 < s → s < m → (m : Int) ∣ s * p - 1 → wp_X8_middles_117 Q K many row sp p m s) :
    ∀ (x y : Nat) (fx fy : Int), 0 < y → y ≤ m → x ≤ m → EuI m p fx fy x y → Nat.gcd y x = 1 → ∃ n, wp_X8_middles_37 Q K n many row sp p m y x fy fx := by
  intro x
  induction x using Nat.strongRecOn with
  | ind x ih =>
    intro y fx fy hy hym hxm h hg
    by_cases h0 : x = 0
    · subst h0
      refine ⟨1, ?_⟩
      rw [wp_X8_middles_37]
      have h2 := h.2.1
      have hf := h.2.2.2
      have hy1 : y = 1 := by simpa using hg
      subst hy1
      have hb := tmod_bounds (a := fy) (M := (m : Int)) (by omega)
      refine ⟨fun _ => ⟨by omega, ⟨by omega, by omega⟩, by omega, fun s hs => ?_⟩, fun z => absurd rfl z⟩
      rw [tmod_fix (by omega)] at hs
      have hd := dvd_emod h2
      rw [← hs] at hd
      have s0 : 0 ≤ s := by rw [hs]; exact Int.emod_nonneg _ (by omega)
      have s1 : s < m := by rw [hs]; exact Int.emod_lt_of_pos _ (by omega)
      have hs0 : ¬ s = 0 := by
        intro z
        rw [z] at hd
        obtain ⟨u, hu⟩ := hd
        have hu2 : (m : Int) * u = -1 := by omega
        have hdv : (m : Int) ∣ 1 := ⟨-u, by grind⟩
        have := Int.le_of_dvd (by omega) hdv
        omega
      exact ⟨fun _ => hQ s (by omega) s1 hd, fun z => absurd z hs0⟩
    · have hx0 : 0 < x := by omega
      have hs := eu_s h hy hx0
      have hlt := Nat.mod_lt y hx0
      have hle := Nat.mod_le y x
      have hg2 : Nat.gcd x (y % x) = 1 := by rw [← nm_gcd]; exact hg
      obtain ⟨n, hn⟩ := ih (y % x) hlt x _ _ hx0 hxm (by omega) hs hg2
      refine ⟨n + 1, ?_⟩
      rw [wp_X8_middles_37]
      have hb := eu_b h hy (t := y / x) (Nat.div_le_self _ _)
      have hf := h.2.2.2
      have e : ((y % x : Nat) : Int) = (y : Int) - ((y / x : Nat) : Int) * x := by
        have h6 := Nat.div_add_mod y x
        have h7 : ((x * (y / x) + y % x : Nat) : Int) = y := by rw [h6]
        rw [Int.natCast_add, Int.natCast_mul] at h7
        grind
      rw [nm_tdiv]
      generalize ((y / x : Nat) : Int) = t at hb e hn ⊢
      generalize y % x = z at e hn hlt hle
      refine ⟨fun w => absurd w (by omega), fun _ => ⟨by omega, fun u hu => ?_⟩⟩
      rw [hu]
      generalize hA : t * (x : Int) = A at e ⊢
      generalize hB : t * fx = B at hb hn ⊢
      refine ⟨⟨by omega, by omega⟩, ⟨by omega, by omega⟩, fun v hv => ⟨⟨by omega, by omega⟩, ⟨by omega, by omega⟩, fun w hw => ?_⟩⟩
      have ev : v = (z : Int) := by omega
      rw [ev, hw]
      exact hn
/-- there is one such number at most -/
theorem inv_one {m p : Nat} (hg : Nat.gcd p m = 1) {s t : Int} (h1 : 0 ≤ s) (h2 : s < m) (h3 : 0 ≤ t) (h4 : t < m) (hs : (m : Int) ∣ s * p - 1) (ht : (m : Int) ∣ t * p - 1) : s = t := by
  have h6 : (m : Int) ∣ (s - t) := by
    obtain ⟨u, hu⟩ := hs
    obtain ⟨w, hw⟩ := ht
    refine ⟨s * (u - w) - (s - t) * u, ?_⟩
    have e1 : s * p = m * u + 1 := by omega
    have e2 : (s - t) * p = m * (u - w) := by grind
    have e3 : s - t = (s - t) * (s * p) - (s - t) * (m * u) := by rw [e1]; grind
    have e4 : (s - t) * (s * p) = s * ((s - t) * p) := by grind
    rw [e3, e4, e2]
    grind
  obtain ⟨u, hu⟩ := h6
  have : u = 0 := by
    rcases Int.lt_trichotomy u 0 with z | z | z
    · have : (m : Int) * u ≤ m * (-1) := Int.mul_le_mul_of_nonneg_left (by omega) (by omega)
      omega
    · exact z
    · have : (m : Int) * 1 ≤ m * u := Int.mul_le_mul_of_nonneg_left (by omega) (by omega)
      omega
  rw [this] at hu
  omega
