/-! ===== threes, both sides ===== -/
theorem T3_le {p q : Nat} (hp : 1 ≤ p) (hpq : p < q) (hq : q ≤ 300) : ∀ k, (∀ j, j < k → p * (q / p + 1 + j) < 3 * q) → T3 p q k ≤ 1100 * k := by
  have h0 : q < p * (q / p + 1) := by
    have := Nat.div_add_mod q p
    have h2 := Nat.mod_lt q (show 0 < p by omega)
    rw [Nat.mul_succ]
    omega
  intro k
  induction k with
  | zero => intro _; rw [T3]; omega
  | succ k ih =>
    intro h
    have h1 := ih (fun j hj => h j (by omega))
    have h2 : q < p * (q / p + 1 + k) := Nat.lt_of_lt_of_le h0 (Nat.mul_le_mul_left p (by omega))
    have := cA_le hp hpq hq h2 (h k (by omega))
    rw [T3]
    omega
theorem a_le {p q k : Nat} (hp : 1 ≤ p) (hq : q ≤ 300) (h : ∀ j, j < k → p * (q / p + 1 + j) < 3 * q) : k ≤ 900 := by
  rcases Nat.lt_or_ge 900 k with z | z
  · exfalso
    have := h 900 z
    have h2 : 900 ≤ p * (q / p + 1 + 900) := Nat.le_trans (Nat.le_add_left 900 _) (Nat.le_mul_of_pos_left _ hp)
    omega
  · exact z
theorem ct16 {Q : Int → (Int → Int) → Int → Prop} {p q : Nat} (hp : 1 ≤ p) (hpq : p < q) (hq : q ≤ 300)
    (h : ∀ k, 3 * q ≤ p * (q / p + 1 + k) → (∀ j, j < k → p * (q / p + 1 + j) < 3 * q) → ∀ f s, Q ((T3 p q k : Nat) : Int) f s) :
    ∀ (d k : Nat) (f : Int → Int) (s : Int), k + d = 901 → (∀ j, j < k → p * (q / p + 1 + j) < 3 * q) → wp_X5_countThrees_16 Q (d + 1) f s p q ((T3 p q k : Nat) : Int) ((q / p + 1 + k : Nat) : Int) := by
  have h0 : q < p * (q / p + 1) := by
    have := Nat.div_add_mod q p
    have h2 := Nat.mod_lt q (show 0 < p by omega)
    rw [Nat.mul_succ]
    omega
  have h00 : p * (q / p + 1) ≤ q + p := by
    have := Nat.mul_div_le q p
    rw [Nat.mul_succ]
    omega
  intro d
  induction d with
  | zero =>
    intro k f s hk hj
    have := a_le hp hq hj
    omega
  | succ d ih =>
    intro k f s hk hj
    have hk9 := a_le hp hq hj
    have hT := T3_le hp hpq hq k hj
    have hlow : q < p * (q / p + 1 + k) := Nat.lt_of_lt_of_le h0 (Nat.mul_le_mul_left p (by omega))
    have hup : p * (q / p + 1 + k) < 4 * q := by
      rcases Nat.eq_zero_or_pos k with z | z
      · subst z; rw [Nat.add_zero]; omega
      · have := hj (k - 1) (by omega)
        have e : q / p + 1 + k = (q / p + 1 + (k - 1)) + 1 := by omega
        rw [e, Nat.mul_succ]
        omega
    have nx := ih (k + 1)
    have hh := h k
    have eT : T3 p q (k + 1) = T3 p q k + cA p q (q / p + 1 + k) := rfl
    have ea : q / p + 1 + (k + 1) = (q / p + 1 + k) + 1 := by omega
    rw [eT, ea] at nx
    have hjn : p * (q / p + 1 + k) < 3 * q → ∀ j, j < k + 1 → p * (q / p + 1 + j) < 3 * q := by
      intro w j hj2
      by_cases e : j = k
      · rw [e]; exact w
      · exact hj j (by omega)
    generalize T3 p q k = T at *
    generalize q / p + 1 + k = a at *
    rw [wp_X5_countThrees_16]
    have c1 : (p : Int) * (a : Int) = ((p * a : Nat) : Int) := rfl
    have c2 : (q : Int) * (a : Int) = ((q * a : Nat) : Int) := rfl
    rw [c1, c2]
    refine ⟨⟨by omega, by omega⟩, ⟨by omega, by omega⟩, fun w => hh (by omega) hj f s, fun w => ⟨⟨by omega, by omega⟩, ⟨by omega, by omega⟩, fun x hx => ?_⟩⟩
    have hlt : p * a < 3 * q := by omega
    obtain ⟨a1, a2, a3, a4, a5, a6, a7, a8, a9⟩ := low3 hp hpq hq hlow hlt
    have hc := cA_le hp hpq hq hlow hlt
    have ex : x = ((p * a - q : Nat) : Int) := by omega
    have hcA : cA p q a = (TBn ((p * a - q) / Nat.gcd (p * a - q) (q * a)) (q * a / Nat.gcd (p * a - q) (q * a)) a (q * a / Nat.gcd (p * a - q) (q * a))).length := rfl
    rw [ex]
    refine ⟨⟨by omega, by omega⟩, cd7' (by omega) (by omega) ?_⟩
    rw [nm_tdiv, nm_tdiv]
    have hua : (p * a - q) / Nat.gcd (p * a - q) (q * a) * a ≤ 600 * 900 := Nat.mul_le_mul a9 a7
    generalize (p * a - q) / Nat.gcd (p * a - q) (q * a) = u at *
    generalize q * a / Nat.gcd (p * a - q) (q * a) = n at *
    refine ⟨⟨by omega, by omega⟩, by omega, ⟨by omega, by omega⟩, by omega, cpb5 a3 (by omega) a6 (by omega) (fun f' s' => ?_)⟩
    rw [← hcA]
    refine ⟨⟨by omega, by omega⟩, fun y hy => ⟨⟨by omega, by omega⟩, ?_⟩⟩
    have ey : y = ((T + cA p q a : Nat) : Int) := by omega
    have ea2 : (a : Int) + 1 = ((a + 1 : Nat) : Int) := rfl
    rw [ey, ea2]
    exact nx f' s' (by omega) (hjn hlt)
theorem thr51 {Q : Int → Prop} {mu md : Int → Int} {p q : Nat} (hp : 1 ≤ p) (hpq : p < q) (hq : q ≤ 300)
    (h : ∀ k, 3 * q ≤ p * (q / p + 1 + k) → (∀ j, j < k → p * (q / p + 1 + j) < 3 * q) → Q ((T3 p q k : Nat) : Int)) :
    ∀ (d k : Nat), k + d = 901 → (∀ j, j < k → p * (q / p + 1 + j) < 3 * q) → wp_X8_threes_51 Q mu md (d + 1) p q ((T3 p q k : Nat) : Int) ((q / p + 1 + k : Nat) : Int) := by
  have h0 : q < p * (q / p + 1) := by
    have := Nat.div_add_mod q p
    have h2 := Nat.mod_lt q (show 0 < p by omega)
    rw [Nat.mul_succ]
    omega
  have h00 : p * (q / p + 1) ≤ q + p := by
    have := Nat.mul_div_le q p
    rw [Nat.mul_succ]
    omega
  intro d
  induction d with
  | zero =>
    intro k hk hj
    have := a_le hp hq hj
    omega
  | succ d ih =>
    intro k hk hj
    have hk9 := a_le hp hq hj
    have hT := T3_le hp hpq hq k hj
    have hlow : q < p * (q / p + 1 + k) := Nat.lt_of_lt_of_le h0 (Nat.mul_le_mul_left p (by omega))
    have hup : p * (q / p + 1 + k) < 4 * q := by
      rcases Nat.eq_zero_or_pos k with z | z
      · subst z; rw [Nat.add_zero]; omega
      · have := hj (k - 1) (by omega)
        have e : q / p + 1 + k = (q / p + 1 + (k - 1)) + 1 := by omega
        rw [e, Nat.mul_succ]
        omega
    have nx := ih (k + 1)
    have hh := h k
    have eT : T3 p q (k + 1) = T3 p q k + cA p q (q / p + 1 + k) := rfl
    have ea : q / p + 1 + (k + 1) = (q / p + 1 + k) + 1 := by omega
    rw [eT, ea] at nx
    have hjn : p * (q / p + 1 + k) < 3 * q → ∀ j, j < k + 1 → p * (q / p + 1 + j) < 3 * q := by
      intro w j hj2
      by_cases e : j = k
      · rw [e]; exact w
      · exact hj j (by omega)
    generalize T3 p q k = T at *
    generalize q / p + 1 + k = a at *
    rw [wp_X8_threes_51]
    have c1 : (p : Int) * (a : Int) = ((p * a : Nat) : Int) := rfl
    have c2 : (q : Int) * (a : Int) = ((q * a : Nat) : Int) := rfl
    rw [c1, c2]
    refine ⟨⟨by omega, by omega⟩, ⟨by omega, by omega⟩, fun w => hh (by omega) hj, fun w => ⟨⟨by omega, by omega⟩, ⟨by omega, by omega⟩, fun x hx => ?_⟩⟩
    have hlt : p * a < 3 * q := by omega
    obtain ⟨a1, a2, a3, a4, a5, a6, a7, a8, a9⟩ := low3 hp hpq hq hlow hlt
    have ex : x = ((p * a - q : Nat) : Int) := by omega
    have hcA : cA p q a = (TBn ((p * a - q) / Nat.gcd (p * a - q) (q * a)) (q * a / Nat.gcd (p * a - q) (q * a)) a (q * a / Nat.gcd (p * a - q) (q * a))).length := rfl
    rw [ex]
    refine ⟨⟨by omega, by omega⟩, fun x2 hx2 => ?_⟩
    rw [hx2]
    refine gcd8 ?_
    rw [nm_tdiv, nm_tdiv]
    generalize (p * a - q) / Nat.gcd (p * a - q) (q * a) = u at *
    generalize q * a / Nat.gcd (p * a - q) (q * a) = n at *
    refine ⟨by omega, fun x3 hx3 => ⟨by omega, fun x4 hx4 => ?_⟩⟩
    rw [hx3, hx4, nm_tdiv]
    have hdl := Nat.div_le_self n u
    have goal : ∀ b : Nat, b = max (n / u + 1) (a + 1) → wp_X8_threes_130 Q mu md (wp_X8_threes_51 Q mu md (d + 1)) p q T a u n b := by
      intro b hb
      refine thr130 a3 a4 a5 a6 (by omega) (by omega) hb ?_
      rw [← hcA]
      exact nx (by omega) (hjn hlt)
    generalize n / u = m at *
    refine ⟨by omega, ⟨by omega, by omega⟩, fun x5 hx5 => ⟨fun y => ⟨⟨by omega, by omega⟩, ?_⟩, fun y => ?_⟩⟩
    · have e : (a : Int) + 1 = ((a + 1 : Nat) : Int) := rfl
      rw [e]
      exact goal (a + 1) (by omega)
    · have e : x5 = ((m + 1 : Nat) : Int) := by omega
      rw [e]
      exact goal (m + 1) (by omega)
theorem threes_ok {sa sb mu md : Int → Int} (hI : RG sa sb mu md) {f : Int → Int} {s : Int} (r : Int) {K : Int → (Int → Int) → Int → Int → Prop} (hK : ∀ v f' s', K v f' s' v) :
    wp_X7_threes (fun v f' s' => wp_X8_threes (fun v2 => K v f' s' v2) mu md r) sa sb f s r := by
  unfold wp_X7_threes wp_X7_threes_29
  refine isReg7 ?_
  by_cases hr : 0 ≤ r ∧ r < 8
  · rw [if_pos hr]
    refine ⟨fun _ => isProper7 ?_, fun z => absurd z (by omega)⟩
    obtain ⟨p, q, e1, e2, e3, e4, b1, b2, b3, b4⟩ := reg_nat hI hr.1 hr.2
    rw [e1, e2]
    have ref : ∀ {Q : Int → Prop}, (¬ ((0 < (p : Int) ∧ (p : Int) < q) ∧ (q : Int) ≤ 300) → Q (-2)) → (((0 < (p : Int) ∧ (p : Int) < q) ∧ (q : Int) ≤ 300) → ∃ n0 : Nat, wp_X8_threes_51 Q mu md n0 p q 0 ((q / p + 1 : Nat) : Int)) → wp_X8_threes Q mu md r := by
      intro Q hn hy
      unfold wp_X8_threes
      refine isReg8 ?_
      rw [if_pos hr]
      refine ⟨fun _ => isUpTo8 hr.1 hr.2 ?_, fun z => absurd z (by omega)⟩
      rw [e3, e4]
      by_cases hc : (0 < (p : Int) ∧ (p : Int) < q) ∧ (q : Int) ≤ 300
      · rw [if_pos hc]
        refine ⟨fun _ => ⟨hr.1, hr.2, fun x hx => ⟨hr.1, hr.2, fun y hy2 => ?_⟩⟩, fun z => absurd z (by omega)⟩
        rw [hx, hy2, nm_tdiv]
        have hdl := Nat.div_le_self q p
        have hh := hy hc
        generalize q / p = m at *
        refine ⟨by omega, ⟨by omega, by omega⟩, fun z hz => ?_⟩
        rw [hz]
        exact hh
      · rw [if_neg hc]
        exact ⟨fun z => absurd rfl z, fun _ => hn hc⟩
    by_cases hp : (0 ≤ r ∧ r < 8) ∧ 0 < (p : Int) ∧ (p : Int) < q
    · rw [if_pos hp]
      refine ⟨fun z => absurd z (by omega), fun _ => ⟨hr.1, hr.2, fun h5 => ⟨hr.1, hr.2, hr.1, hr.2, ?_⟩, fun h5 => ref (fun _ => hK _ _ _) (fun z => absurd z (by omega))⟩⟩
      unfold wp_X5_countThrees
      rw [nm_tdiv]
      have hdl := Nat.div_le_self q p
      have key : wp_X5_countThrees_16 (fun v f' s' => wp_X8_threes (fun v2 => K v f' s' v2) mu md r) 902 f s p q 0 ((q / p + 1 : Nat) : Int) := by
        refine ct16 (p := p) (q := q) (by omega) (by omega) (by omega) (fun k h1 h2 f' s' => ?_) 901 0 f s (by omega) (fun j hj => by omega)
        refine ref (fun z => absurd z (by omega)) (fun _ => ⟨902, ?_⟩)
        refine thr51 (p := p) (q := q) (by omega) (by omega) (by omega) (fun k2 h3 h4 => ?_) 901 0 (by omega) (fun j hj => by omega)
        have : k = k2 := by
          rcases Nat.lt_trichotomy k k2 with w | w | w
          · have := h4 k w; omega
          · exact w
          · have := h2 k2 w; omega
        subst this
        exact hK _ _ _
      generalize q / p = m at *
      refine ⟨fun _ => ⟨by omega, ⟨by omega, by omega⟩, fun x hx => ⟨902, ?_⟩⟩, fun z => absurd z (by omega)⟩
      rw [hx]
      exact key
    · rw [if_neg hp]
      exact ⟨fun _ => ref (fun _ => hK _ _ _) (fun z => absurd z (by omega)), fun z => absurd rfl z⟩
  · rw [if_neg hr]
    refine ⟨fun z => absurd rfl z, fun _ => ?_⟩
    unfold wp_X8_threes
    refine isReg8 ?_
    rw [if_neg hr]
    exact ⟨fun z => absurd rfl z, fun _ => hK _ _ _⟩
