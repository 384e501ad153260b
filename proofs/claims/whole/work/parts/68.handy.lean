theorem hd37 {Q : Int → Prop} {K : Int → Int → Int → Prop} {P s : Nat} (hP : 2 ≤ P) {R0 : Nat} (hR0 : 1 ≤ R0) (hR : R0 ≤ 20000)
    (h : ∀ (i r : Nat), R0 = P ^ i * r → ¬ P ∣ r → 1 ≤ r → i < 31 → wp_X7_isHandy_68 Q K r s P (geo P i : Nat)) :
    ∀ (d i r : Nat), i + d = 31 → R0 = P ^ i * r → wp_X7_isHandy_37 Q K (d + 1) r s P (geo P i : Nat) i := by
  have hpow : ∀ i r, R0 = P ^ i * r → 1 ≤ r ∧ i < 31 ∧ P ^ i ≤ 20000 := by
    intro i r e
    have hr : 1 ≤ r := by
      rcases Nat.eq_zero_or_pos r with z | z
      · subst z; omega
      · exact z
    have h2 : P ^ i ≤ P ^ i * r := Nat.le_mul_of_pos_right _ hr
    refine ⟨hr, ?_, by omega⟩
    rcases Nat.lt_or_ge i 31 with z | z
    · exact z
    · exfalso
      have h1 : 2 ^ 31 ≤ P ^ i := Nat.le_trans (Nat.pow_le_pow_right (by omega) z) (Nat.pow_le_pow_left hP i)
      omega
  intro d
  induction d with
  | zero =>
    intro i r hi e
    have := (hpow i r e).2.1
    omega
  | succ d ih =>
    intro i r hi e
    rw [wp_X7_isHandy_37]
    obtain ⟨hr, hi31, _⟩ := hpow i r e
    rw [nm_tmod, nm_tdiv]
    refine ⟨fun z => absurd z (by omega), fun _ => ⟨by omega, fun z => h i r e (fun w => z (by rw [Nat.mod_eq_zero_of_dvd w]; rfl)) hr hi31, fun z => ⟨by omega, fun x hx => ?_⟩⟩⟩
    have hd : P ∣ r := Nat.dvd_of_mod_eq_zero (Int.ofNat.inj z)
    obtain ⟨y, hy⟩ := hd
    have ey : r / P = y := by rw [hy, Nat.mul_div_cancel_left y (by omega)]
    have e5 : R0 = P ^ (i + 1) * y := by
      rw [e, hy, Nat.pow_succ]
      grind
    have hg := geo_lt hP (i + 1)
    have hpw := (hpow (i + 1) y e5).2.2
    have eg : geo P (i + 1) = geo P i * P + 1 := rfl
    have c1 : ((geo P i : Nat) : Int) * (P : Int) = ((geo P i * P : Nat) : Int) := rfl
    have e3 : (i : Int) + 1 = ((i + 1 : Nat) : Int) := rfl
    rw [hx, ey, c1, e3]
    have nx := ih (i + 1) y (by omega) e5
    rw [eg] at nx hg
    generalize geo P i * P = G at *
    refine ⟨⟨by omega, by omega⟩, ⟨by omega, by omega⟩, fun w hw => ⟨⟨by omega, by omega⟩, ?_⟩⟩
    rw [hw]
    exact nx
theorem hd6 {Q : Int → Prop} {n : Nat} (hn : n ≤ 20000) (hn1 : 1 ≤ n) (h : Q (if hAll n n = true then 1 else 0)) :
    ∀ (k P m r s : Nat), n + 2 ≤ P + k → 2 ≤ P → P ≤ n + 2 → n = m * r → 1 ≤ r → (∀ x, isPr x → x ∣ r → P ≤ x) → (∀ x, isPr x → x ∣ m → x < P) → hOk m s → wp_X7_isHandy_6 Q (k + 1) r s P := by
  have fin1 : ∀ m s, n = m → hOk m s → Q 1 := by
    intro m s e ho
    subst e
    obtain ⟨⟨l, hl, hs⟩, hR⟩ := ho
    rw [if_pos (rp_hAll hn1 hl hs hR)] at h
    exact h
  have hsb : ∀ m s r, n = m * r → 1 ≤ r → hOk m s → 1 ≤ m ∧ m ≤ n ∧ r ≤ n ∧ s ≤ 400000000 := by
    intro m s r e hr ho
    have hm1 : 1 ≤ m := by
      rcases Nat.eq_zero_or_pos m with z | z
      · subst z; omega
      · exact z
    have h1 : m ≤ m * r := Nat.le_mul_of_pos_right m hr
    have h2 : r ≤ m * r := Nat.le_mul_of_pos_left r hm1
    have h3 := hOk_le hm1 ho
    have h4 : m * m ≤ 20000 * 20000 := Nat.mul_le_mul (by omega) (by omega)
    exact ⟨hm1, by omega, by omega, by omega⟩
  -- a divisor of n below a prime P that all primes of the rest reach, divides m
  have below : ∀ m r P, n = m * r → (∀ x, isPr x → x ∣ r → P ≤ x) → ∀ d, d ∣ n → d < P → d ∣ m := by
    intro m r P e hpr d hd hlt
    have hcop : Nat.Coprime d r := by
      rcases Nat.lt_or_ge (Nat.gcd d r) 2 with w | w
      · have : Nat.gcd d r ≠ 0 := by
          intro z
          have z2 := Nat.eq_zero_of_gcd_eq_zero_right z
          subst z2
          omega
        unfold Nat.Coprime
        omega
      · exfalso
        obtain ⟨x, hx, hxd⟩ := pr_ex _ w
        have h1 := hpr x hx (Nat.dvd_trans hxd (Nat.gcd_dvd_right d r))
        have hd0 : 0 < d := by
          rcases Nat.eq_zero_or_pos d with z | z
          · subst z; have := Nat.eq_zero_of_zero_dvd hd; omega
          · exact z
        have h2 := Nat.le_of_dvd hd0 (Nat.dvd_trans hxd (Nat.gcd_dvd_left d r))
        omega
    rw [e, Nat.mul_comm] at hd
    exact Nat.Coprime.dvd_of_dvd_mul_left hcop hd
  intro k
  induction k with
  | zero =>
    intro P m r s hk hP hPn hne hr hpr hpm ho
    rw [wp_X7_isHandy_6]
    unfold wp_X7_isHandy_91
    obtain ⟨b1, b2, b3, b4⟩ := hsb m s r hne hr ho
    rw [nm_tdiv]
    have hdv : r / P = 0 := Nat.div_eq_of_lt (by omega)
    rw [hdv]
    have hr1 : r < 2 := by
      rcases Nat.lt_or_ge r 2 with z | z
      · exact z
      · obtain ⟨x, hx, hxd⟩ := pr_ex r z
        have := hpr x hx hxd
        have := Nat.le_of_dvd (by omega) hxd
        omega
    have er : r = 1 := by omega
    subst er
    rw [Nat.mul_one] at hne
    exact ⟨by omega, fun _ => ⟨⟨by omega, by omega⟩, fun z => absurd z (by omega), fun _ => ⟨Or.inr rfl, fin1 m s hne ho⟩⟩, fun z => absurd z (by omega)⟩
  | succ k ih =>
    intro P m r s hk hP hPn hne hr hpr hpm ho
    obtain ⟨b1, b2, b3, b4⟩ := hsb m s r hne hr ho
    rw [wp_X7_isHandy_6]
    unfold wp_X7_isHandy_91 wp_X7_isHandy_73
    rw [nm_tdiv, nm_tmod]
    have e3 : (P : Int) + 1 = ((P + 1 : Nat) : Int) := rfl
    rw [e3]
    refine ⟨by omega, fun z => ⟨⟨by omega, by omega⟩, fun z1 => ⟨Or.inl rfl, ?_⟩, fun z1 => ⟨Or.inr rfl, ?_⟩⟩, fun z => ⟨by omega, fun z1 => ⟨⟨by omega, by omega⟩, fun z2 => ⟨32, ?_⟩, fun z2 => ?_⟩, fun z1 => ⟨⟨by omega, by omega⟩, ?_⟩⟩⟩
    · -- the last prime is too great
      have hlt : r < P * P := by
        have h1 : r / P < P := Int.ofNat_lt.mp z
        rw [Nat.div_lt_iff_lt_mul (by omega)] at h1
        exact h1
      have hs1 : 1 ≤ s := by
        obtain ⟨⟨l, hl, hs⟩, _⟩ := ho
        have h1 : 1 ∈ l := (hl.2 1).mpr (Nat.one_dvd _)
        have := sum_erase l 1 h1
        omega
      have hrp := last_pr (by omega) hlt hpr
      obtain ⟨⟨l, hl, hs⟩, hR⟩ := ho
      have hno := not_hAll (n := n) (m := m) (P := r) (s := s) hn1 hrp.1 ⟨m, by rw [hne, Nat.mul_comm]⟩ hl hs (by omega) (below m r r hne (fun x hx hxd => by
        rcases hrp.2 x hxd with w | w
        · have := hx.1; omega
        · omega))
      rw [if_neg hno] at h
      exact h
    · have hlt : r < P * P := by
        have h1 : r / P < P := Int.ofNat_lt.mp z
        rw [Nat.div_lt_iff_lt_mul (by omega)] at h1
        exact h1
      rcases Nat.lt_or_ge r 2 with w | w
      · have er : r = 1 := by omega
        subst er
        rw [Nat.mul_one] at hne
        exact fin1 m s hne ho
      · have hrp := last_pr w hlt hpr
        have hrm : ¬ r ∣ m := fun hd => by
          have h1 := hpm r hrp hd
          have h2 := hpr r hrp (Nat.dvd_refl r)
          omega
        have := hOk_pow hrp hrm (by omega) ho 1
        rw [Nat.pow_one] at this
        exact fin1 (r * m) _ (by rw [hne, Nat.mul_comm]) this
    · -- a prime found, near enough
      have hPd : P ∣ r := Nat.dvd_of_mod_eq_zero (Int.ofNat.inj z1)
      have hPp := trial_pr hP hPd hpr
      have hPm : ¬ P ∣ m := fun hd => by have := hpm P hPp hd; omega
      refine hd37 hP hr (by omega) (fun i r' e1 hnd hr' hi => ?_) 31 0 r (by omega) (by rw [Nat.pow_zero, Nat.one_mul])
      unfold wp_X7_isHandy_68 wp_X7_isHandy_73
      have ho2 := hOk_pow hPp hPm (by omega) ho i
      have hne2 : n = P ^ i * m * r' := by rw [hne, e1]; grind
      obtain ⟨c1, c2, c3, c4⟩ := hsb _ _ _ hne2 hr' ho2
      have cc : (s : Int) * ((geo P i : Nat) : Int) = ((s * geo P i : Nat) : Int) := rfl
      rw [cc, e3]
      refine ⟨⟨by omega, by omega⟩, fun x hx => ⟨⟨by omega, by omega⟩, ?_⟩⟩
      rw [hx]
      refine ih (P + 1) (P ^ i * m) r' (s * geo P i) (by omega) (by omega) (by have := Nat.le_of_dvd (by omega) hPd; omega) hne2 hr' (fun x hx hxd => ?_) (fun x hx hxd => ?_) ho2
      · have h5 := hpr x hx (Nat.dvd_trans hxd ⟨P ^ i, by rw [e1, Nat.mul_comm]⟩)
        have h6 : x ≠ P := fun w => hnd (w ▸ hxd)
        omega
      · by_cases hx2 : x ∣ P ^ i
        · have : x ∣ P := by
            by_cases hxP : x ∣ P
            · exact hxP
            · have h7 : Nat.Coprime (P ^ i) x := Nat.Coprime.pow_left _ (pr_cop hx hxP)
              have h8 : x ∣ Nat.gcd (P ^ i) x := Nat.dvd_gcd hx2 (Nat.dvd_refl x)
              rw [h7] at h8
              have := Nat.dvd_one.mp h8
              have := hx.1
              omega
          have := Nat.le_of_dvd (by omega) this
          omega
        · have h7 : Nat.Coprime x (P ^ i) := (pr_cop hx hx2).symm
          have := hpm x hx (Nat.Coprime.dvd_of_dvd_mul_left h7 hxd)
          omega
    · have hPd : P ∣ r := Nat.dvd_of_mod_eq_zero (Int.ofNat.inj z1)
      obtain ⟨⟨l, hl, hs⟩, hR⟩ := ho
      have hno := not_hAll (n := n) (m := m) (P := P) (s := s) hn1 hP (Nat.dvd_trans hPd ⟨m, by rw [hne, Nat.mul_comm]⟩) hl hs (by omega) (below m r P hne hpr)
      rw [if_neg hno] at h
      exact h
    · have hPle : P ≤ r := by
        have h1 : ¬ r / P < P := fun w => z (Int.ofNat_lt.mpr w)
        have h2 := Nat.div_mul_le_self r P
        have h3 : P * P ≤ r / P * P := Nat.mul_le_mul_right P (by omega)
        have h4 : P ≤ P * P := Nat.le_mul_of_pos_left P (by omega)
        omega
      refine ih (P + 1) m r s (by omega) (by omega) (by omega) hne hr (fun x hx hxd => ?_) (fun x hx hxd => by have := hpm x hx hxd; omega) ho
      have h5 := hpr x hx hxd
      have h6 : x ≠ P := fun w => by subst w; exact z1 (by rw [Nat.mod_eq_zero_of_dvd hxd]; rfl)
      omega
theorem handy_ok (n : Int) {K : Int → Int → Prop} (hK : ∀ v, K v v) : wp_X7_handy (fun v => wp_X8_handy (fun v2 => K v v2) n) n := by
  unfold wp_X7_handy wp_X7_handy_12 wp_X7_handy_26
  have bad : ∀ v, ¬ (1 ≤ n ∧ n ≤ 20000) → v = -1 → wp_X8_handy (fun v2 => K v v2) n := by
    intro v hn hv
    unfold wp_X8_handy
    refine in8 ?_
    rw [if_neg hn, hv]
    exact ⟨fun z => absurd rfl z, fun _ => hK _⟩
  refine ⟨fun z => bad _ (by omega) rfl, fun z => ⟨fun y => ?_, fun y => bad _ (by omega) rfl⟩⟩
  obtain ⟨N, hN⟩ := Int.eq_ofNat_of_zero_le (show 0 ≤ n by omega)
  subst hN
  refine ⟨N + 1, hd6 (n := N) (by omega) (by omega) ?_ N 2 1 N 1 (by omega) (by omega) (by omega) (by rw [Nat.one_mul]) (by omega) (fun x hx _ => hx.1) (fun x hx hd => ?_) hOk_1⟩
  · by_cases hh : hAll N N = true
    · rw [if_pos hh]
      refine ⟨fun w => absurd w (by omega), fun _ => handy8 (by omega) (by omega) ?_⟩
      rw [if_pos hh]
      exact hK 1
    · rw [if_neg hh]
      refine ⟨fun _ => handy8 (by omega) (by omega) ?_, fun w => absurd rfl w⟩
      rw [if_neg hh]
      exact hK 0
  · have := Nat.dvd_one.mp hd
    have := hx.1
    omega
