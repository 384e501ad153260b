/-! ===== listSquareDivisors ===== -/
theorem two_pow_gt : ∀ n : Nat, n < 2 ^ n := by
  intro n
  induction n with
  | zero => decide
  | succ n ih => rw [Nat.pow_succ]; omega
theorem lsd28 {Q : (Int → Int) → Int → Prop} {K : (Int → Int) → Int → Int → Int → Int → Prop} {f : Int → Int} {n : Int} {q P : Nat} (hP : 2 ≤ P) (hPb : P ≤ 270000) (hq : q ≤ 270000)
    {R0 : Nat} (hR0 : 1 ≤ R0) (hR0q : R0 ≤ q)
    (h : ∀ (i r : Nat), R0 = P ^ i * r → ¬ P ∣ r → 1 ≤ r → i < 31 → wp_X5_listSquareDivisors_54 Q K f n q r P ((2 * i : Nat) : Int)) :
    ∀ (d i r : Nat), i + d = 31 → R0 = P ^ i * r → wp_X5_listSquareDivisors_28 Q K (d + 1) f n q r P ((2 * i : Nat) : Int) i := by
  have hpow : ∀ i r, R0 = P ^ i * r → 1 ≤ r ∧ i < 31 := by
    intro i r e
    have hr : 1 ≤ r := by
      rcases Nat.eq_zero_or_pos r with z | z
      · subst z; omega
      · exact z
    refine ⟨hr, ?_⟩
    rcases Nat.lt_or_ge i 31 with z | z
    · exact z
    · exfalso
      have h1 : 2 ^ 31 ≤ P ^ i := Nat.le_trans (Nat.pow_le_pow_right (by omega) z) (Nat.pow_le_pow_left hP i)
      have h2 : P ^ i ≤ P ^ i * r := Nat.le_mul_of_pos_right _ hr
      omega
  intro d
  induction d with
  | zero =>
    intro i r hi e
    have := (hpow i r e).2
    omega
  | succ d ih =>
    intro i r hi e
    rw [wp_X5_listSquareDivisors_28]
    obtain ⟨hr, hi31⟩ := hpow i r e
    rw [nm_tmod, nm_tdiv]
    refine ⟨fun z => absurd z (by omega), fun _ => ⟨by omega, fun z => h i r e (fun w => z (by rw [Nat.mod_eq_zero_of_dvd w]; rfl)) hr hi31, fun z => ⟨by omega, fun x hx => ⟨⟨by omega, by omega⟩, ⟨by omega, by omega⟩, ?_⟩⟩⟩⟩
    have hd : P ∣ r := Nat.dvd_of_mod_eq_zero (Int.ofNat.inj z)
    obtain ⟨y, hy⟩ := hd
    have ey : r / P = y := by rw [hy, Nat.mul_div_cancel_left y (by omega)]
    have e2 : ((2 * i : Nat) : Int) + 2 = ((2 * (i + 1) : Nat) : Int) := by omega
    have e3 : (i : Int) + 1 = ((i + 1 : Nat) : Int) := rfl
    rw [hx, ey, e2, e3]
    refine ih (i + 1) y (by omega) ?_
    rw [e, hy, Nat.pow_succ]
    grind
theorem lsd15 {Q : (Int → Int) → Int → Prop} {q : Nat} (hq : q ≤ 270000) (hq1 : 1 ≤ q)
    (h : ∀ l f, rep f l → l.Nodup → (∀ d, d ∈ l ↔ d < q ∧ d ∣ q * q) → Q f (l.length : Nat)) :
    ∀ (k P m r : Nat) (l : List Nat) (f : Int → Int), q + 2 ≤ P + k → 2 ≤ P → P ≤ q + 2 → q = m * r → 1 ≤ r → (∀ x, isPr x → x ∣ r → P ≤ x) → (∀ x, isPr x → x ∣ m → x < P) →
    rep f l → l.Nodup → (∀ d, d ∈ l ↔ d < q ∧ d ∣ m * m) → wp_X5_listSquareDivisors_15 Q (k + 1) f (l.length : Nat) q r P := by
  intro k
  induction k with
  | zero =>
    intro P m r l f hk hP hPq hqe hr hpr hpm hrep hn hl
    rw [wp_X5_listSquareDivisors_15]
    unfold wp_X5_listSquareDivisors_80
    rw [nm_tdiv]
    have hm1 : 1 ≤ m := by
      rcases Nat.eq_zero_or_pos m with z | z
      · subst z; omega
      · exact z
    have hrq : r ≤ q := by rw [hqe]; exact Nat.le_mul_of_pos_left r hm1
    have hdv : r / P = 0 := Nat.div_eq_of_lt (by omega)
    rw [hdv]
    have hr1 : r < 2 := by
      rcases Nat.lt_or_ge r 2 with z | z
      · exact z
      · obtain ⟨x, hx, hxd⟩ := pr_ex r z
        have := hpr x hx hxd
        have := Nat.le_of_dvd (by omega) hxd
        omega
    refine ⟨by omega, fun _ => ⟨fun _ => ?_, fun z => absurd z (by omega)⟩, fun z => absurd z (by omega)⟩
    have : r = 1 := by omega
    subst this
    rw [Nat.mul_one] at hqe
    subst hqe
    exact h l f hrep hn hl
  | succ k ih =>
    intro P m r l f hk hP hPq hqe hr hpr hpm hrep hn hl
    have hm1 : 1 ≤ m := by
      rcases Nat.eq_zero_or_pos m with z | z
      · subst z; omega
      · exact z
    have hrq : r ≤ q := by rw [hqe]; exact Nat.le_mul_of_pos_left r hm1
    rw [wp_X5_listSquareDivisors_15]
    unfold wp_X5_listSquareDivisors_80
    rw [nm_tdiv]
    refine ⟨by omega, fun z => ⟨fun z1 => ?_, fun z1 => ?_⟩, fun z => ?_⟩
    · have : r = 1 := by omega
      subst this
      rw [Nat.mul_one] at hqe
      subst hqe
      exact h l f hrep hn hl
    · have hlt : r < P * P := by
        have h1 : r / P < P := Int.ofNat_lt.mp z
        rw [Nat.div_lt_iff_lt_mul (by omega)] at h1
        exact h1
      have hrp := last_pr (by omega) hlt hpr
      have hPr : P ≤ r := hpr r hrp (Nat.dvd_refl r)
      have hnd : ¬ r ∣ m * m := by
        intro hd
        have h2 : r ∣ m := by
          by_cases hm : r ∣ m
          · exact hm
          · exact absurd (Nat.Coprime.dvd_of_dvd_mul_left (pr_cop hrp hm).symm hd) hm
        have := hpm r hrp h2
        omega
      have e : r ^ 2 * (m * m) = q * q := by rw [hqe, Nat.pow_two]; grind
      refine mulD5 (M := m * m) (pw := 2) hq hq1 (by omega) hrp hnd (by omega) (by rw [e]; exact Nat.dvd_refl _) hn hl hrep (fun l' f' a b c => h l' f' a b (fun d => by rw [c, e]))
    · refine ⟨32, ?_⟩
      have hPle : P ≤ r := by
        have h1 : ¬ r / P < P := fun w => z (Int.ofNat_lt.mpr w)
        have h2 := Nat.div_mul_le_self r P
        have h3 : P * P ≤ r / P * P := Nat.mul_le_mul_right P (by omega)
        have h4 : P ≤ P * P := Nat.le_mul_of_pos_left P (by omega)
        omega
      refine lsd28 (R0 := r) hP (by omega) hq hr hrq (fun i r' e1 hnd hr' hi => ?_) 31 0 r (by omega) (by rw [Nat.pow_zero, Nat.one_mul])
      unfold wp_X5_listSquareDivisors_54
      have e3 : (P : Int) + 1 = ((P + 1 : Nat) : Int) := rfl
      rw [e3]
      have fin : ∀ l' f', rep f' l' → l'.Nodup → (∀ d, d ∈ l' ↔ d < q ∧ d ∣ P ^ (2 * i) * (m * m)) → (i = 0 ∨ isPr P) → (r32 ((P + 1 : Nat) : Int) ∧ wp_X5_listSquareDivisors_15 Q (k + 1) f' (l'.length : Nat) q r' ((P + 1 : Nat) : Int)) := by
        intro l' f' a b c hiP
        refine ⟨⟨by omega, by omega⟩, ?_⟩
        have e4 : (P ^ i * m) * (P ^ i * m) = P ^ (2 * i) * (m * m) := by
          rw [Nat.two_mul, Nat.pow_add]; grind
        refine ih (P + 1) (P ^ i * m) r' l' f' (by omega) (by omega) (by omega) (by rw [hqe, e1]; grind) hr' (fun x hx hxd => ?_) (fun x hx hxd => ?_) a b (fun d => by rw [c, e4])
        · have h5 := hpr x hx (Nat.dvd_trans hxd ⟨P ^ i, by rw [e1, Nat.mul_comm]⟩)
          have h6 : x ≠ P := fun w => hnd (w ▸ hxd)
          omega
        · by_cases hx2 : x ∣ P ^ i
          · rcases hiP with w | w
            · subst w
              rw [Nat.pow_zero] at hx2
              have := Nat.dvd_one.mp hx2
              have := hx.1
              omega
            · have : x ∣ P := by
                by_cases hxP : x ∣ P
                · exact hxP
                · have h7 : Nat.Coprime (P ^ i) x := Nat.Coprime.pow_left _ (pr_cop hx hxP)
                  have h8 : x ∣ Nat.gcd (P ^ i) x := Nat.dvd_gcd hx2 (Nat.dvd_refl x)
                  rw [h7] at h8
                  have := Nat.dvd_one.mp h8
                  have := hx.1
                  omega
              have := Nat.le_of_dvd (by omega) this
              omega
          · have h7 : Nat.Coprime x (P ^ i) := (pr_cop hx hx2).symm
            have := hpm x hx (Nat.Coprime.dvd_of_dvd_mul_left h7 hxd)
            omega
      rcases Nat.eq_zero_or_pos i with w | w
      · subst w
        refine ⟨1, ?_⟩
        rw [wp_X5_multiplyDivisors_6]
        exact ⟨fun _ => fin l f hrep hn (fun d => by rw [hl, Nat.mul_zero, Nat.pow_zero, Nat.one_mul]) (Or.inl rfl), fun w => absurd w (by omega)⟩
      · have hPd : P ∣ r := by
          rw [e1]
          exact Nat.dvd_trans (Nat.dvd_trans (by rw [Nat.pow_one]; exact Nat.dvd_refl P) (Nat.pow_dvd_pow P w)) (Nat.dvd_mul_right _ _)
        have hPp := trial_pr hP hPd hpr
        have hPm : ¬ P ∣ m * m := by
          intro hd
          have h2 : P ∣ m := by
            by_cases hm : P ∣ m
            · exact hm
            · exact absurd (Nat.Coprime.dvd_of_dvd_mul_left (pr_cop hPp hm).symm hd) hm
          have := hpm P hPp h2
          omega
        refine mulD5 (M := m * m) (pw := 2 * i) hq hq1 (by omega) hPp hPm (by omega) ?_ hn hl hrep (fun l' f' a b c => fin l' f' a b c (Or.inr hPp))
        have e5 : q * q = P ^ (2 * i) * (m * m) * (r' * r') := by
          rw [hqe, e1, Nat.two_mul, Nat.pow_add]; grind
        rw [e5]
        exact Nat.dvd_mul_right _ _
theorem listSq5 {Q : (Int → Int) → Int → Prop} {q : Nat} {f : Int → Int} {n : Int} (hq : q ≤ 270000) (hq1 : 1 ≤ q)
    (h : ∀ l f, rep f l → l.Nodup → (∀ d, d ∈ l ↔ d < q ∧ d ∣ q * q) → Q f (l.length : Nat)) : wp_X5_listSquareDivisors Q f n q := by
  unfold wp_X5_listSquareDivisors
  refine addD5 (W := []) (d := 1) (rep_nil f) (fun _ => by simp) hq (fun f' hr' => ⟨q + 1, ?_⟩)
  rw [List.nil_append] at hr' ⊢
  refine lsd15 hq hq1 h q 2 1 q _ f' (by omega) (by omega) (by omega) (by rw [Nat.one_mul]) hq1 (fun x hx _ => hx.1) (fun x hx hd => ?_) hr' ?_ (fun d => ?_)
  · have := Nat.dvd_one.mp hd
    have := hx.1
    omega
  · split <;> simp
  · rw [Nat.one_mul]
    by_cases h1 : 1 < q
    · rw [if_pos h1, List.mem_singleton]
      constructor
      · intro e; subst e; exact ⟨h1, Nat.dvd_refl 1⟩
      · rintro ⟨_, b⟩; exact Nat.dvd_one.mp b
    · rw [if_neg h1]
      constructor
      · intro e; simp at e
      · rintro ⟨a, b⟩
        have := Nat.dvd_one.mp b
        omega
