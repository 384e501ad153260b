/-! ===== which multiples of a power of a prime may stand in a sum ===== -/
theorem drop_to {P K e : Nat} (hP : isPr P) {x : Nat} (hx : ¬ P ^ (e + 1) ∣ x) : ∀ s, x ∣ P ^ s * K → x ∣ P ^ e * K := by
  intro s
  induction s with
  | zero =>
    intro h
    exact Nat.dvd_trans h (Nat.mul_dvd_mul_right (Nat.pow_dvd_pow P (Nat.zero_le e)) K)
  | succ s ih =>
    intro h
    rcases Nat.lt_or_ge s e with w | w
    · exact Nat.dvd_trans h (Nat.mul_dvd_mul_right (Nat.pow_dvd_pow P (by omega)) K)
    · refine ih (pr_drop hP s x K h (fun d => hx (Nat.dvd_trans (Nat.pow_dvd_pow P (by omega)) d)))
theorem pr_int {P K : Nat} (hP : isPr P) (hK : ¬ P ∣ K) {Z : Int} (h : (P : Int) ∣ (K : Int) * Z) : (P : Int) ∣ Z := by
  have h1 : P ∣ K * Z.natAbs := by
    have := Int.natAbs_dvd_natAbs.mpr h
    rw [Int.natAbs_mul] at this
    simpa using this
  have h2 := Nat.Coprime.dvd_of_dvd_mul_left (pr_cop hP hK).symm h1
  exact Int.natAbs_dvd_natAbs.mp (by simpa using h2)
theorem stage {P e h K s o p q : Nat} {l : List Nat} (hP : isPr P) (he1 : 1 ≤ e) (hW : WW = P ^ s * K) (hK : ¬ P ∣ K) (hq : q = P ^ h * o) (hq1 : 1 ≤ q) (he : h ≤ e) (hl : ∀ x ∈ l, 2 ≤ x ∧ x ≤ 60 ∧ ¬ P ^ (e + 1) ∣ x) (hsum : (l.map (cw q)).sum = p * WW) (tv : Nat → Nat)
    (htv : ∀ x ∈ l, P ^ e ∣ x → (P : Int) ∣ (tv x : Int) * ((x / P ^ e : Nat) : Int) - 1) : (P : Int) ∣ ((((l.filter (fun x => decide (P ^ e ∣ x))).map tv).sum : Nat) : Int) * (o : Int) - (p : Int) * ((P ^ (e - h) : Nat) : Int) := by
  have hP0 : 0 < P := by have := hP.1; omega
  have hdv : ∀ x ∈ l, x ∣ P ^ e * K := by
    intro x hx
    obtain ⟨a, b, c⟩ := hl x hx
    have h1 := WW_dvd x a b
    rw [hW] at h1
    exact drop_to hP c s h1
  -- the sum in whole numbers
  have hmul : q * (l.map (fun x => P ^ e * K / x)).sum = p * (P ^ e * K) := by
    have key : ∀ (l : List Nat), (∀ x ∈ l, 2 ≤ x ∧ x ≤ 60 ∧ x ∣ P ^ e * K) → P ^ s * (q * (l.map (fun x => P ^ e * K / x)).sum) = P ^ e * (l.map (cw q)).sum := by
      intro l
      induction l with
      | nil => intro _; simp
      | cons x r ih =>
        intro hh
        obtain ⟨a, b, c⟩ := hh x List.mem_cons_self
        have ir := ih (fun y hy => hh y (List.mem_cons_of_mem _ hy))
        rw [List.map_cons, List.sum_cons, List.map_cons, List.sum_cons, Nat.mul_add, Nat.mul_add, Nat.mul_add, ir]
        congr 1
        refine Nat.eq_of_mul_eq_mul_right (show 0 < x by omega) ?_
        have e1 : P ^ s * (q * (P ^ e * K / x)) * x = P ^ s * q * (P ^ e * K / x * x) := by grind
        have e2 : P ^ e * cw q x * x = P ^ e * (cw q x * x) := by grind
        rw [e1, e2, Nat.div_mul_cancel c, cw_mul a b, hW]
        grind
    have h1 := key l (fun x hx => ⟨(hl x hx).1, (hl x hx).2.1, hdv x hx⟩)
    rw [hsum, hW] at h1
    refine Nat.eq_of_mul_eq_mul_left (Nat.pow_pos (n := s) hP0) ?_
    rw [h1]
    grind
  have hmul2 : o * (l.map (fun x => P ^ e * K / x)).sum = p * P ^ (e - h) * K := by
    refine Nat.eq_of_mul_eq_mul_left (Nat.pow_pos (n := h) hP0) ?_
    have e1 : P ^ h * (o * (l.map (fun x => P ^ e * K / x)).sum) = q * (l.map (fun x => P ^ e * K / x)).sum := by rw [hq]; grind
    have e2 : P ^ e = P ^ h * P ^ (e - h) := by rw [← Nat.pow_add]; congr 1; omega
    rw [e1, hmul, e2]
    grind
  -- modulo the prime
  have hmod : ∀ (l : List Nat), (∀ x ∈ l, x ∣ P ^ e * K ∧ 1 ≤ x ∧ (P ^ e ∣ x → (P : Int) ∣ (tv x : Int) * ((x / P ^ e : Nat) : Int) - 1)) → ∃ u : Int, (((l.map (fun x => P ^ e * K / x)).sum : Nat) : Int) = (K : Int) * ((((l.filter (fun x => decide (P ^ e ∣ x))).map tv).sum : Nat) : Int) + (P : Int) * u := by
    intro l
    induction l with
    | nil => intro _; exact ⟨0, by simp⟩
    | cons x r ih =>
      intro hh
      obtain ⟨u, hu⟩ := ih (fun y hy => hh y (List.mem_cons_of_mem _ hy))
      obtain ⟨c1, c2, c3⟩ := hh x List.mem_cons_self
      rw [List.map_cons, List.sum_cons]
      by_cases hd : P ^ e ∣ x
      · rw [List.filter_cons_of_pos (p := fun x => decide (P ^ e ∣ x)) (decide_eq_true hd), List.map_cons, List.sum_cons]
        obtain ⟨m, hm⟩ := hd
        obtain ⟨w, hw⟩ := c3 ⟨m, hm⟩
        have hpe : 0 < P ^ e := Nat.pow_pos hP0
        have em : x / P ^ e = m := by rw [hm, Nat.mul_div_cancel_left m hpe]
        rw [em] at hw
        have hm1 : 0 < m := by
          rcases Nat.eq_zero_or_pos m with z | z
          · subst z; omega
          · exact z
        have ea : P ^ e * K / x * m = K := by
          refine Nat.eq_of_mul_eq_mul_left hpe ?_
          have : P ^ e * (P ^ e * K / x * m) = P ^ e * K / x * x := by rw [hm]; grind
          rw [this, Nat.div_mul_cancel c1]
        generalize P ^ e * K / x = A at ea ⊢
        have ea2 : (K : Int) = (A : Int) * (m : Int) := by rw [← ea]; rfl
        refine ⟨u - (A : Int) * w, ?_⟩
        rw [Int.natCast_add, Int.natCast_add, hu]
        have : (tv x : Int) * (m : Int) = 1 + (P : Int) * w := by omega
        have e3 : (K : Int) * (tv x : Int) = (A : Int) * (1 + (P : Int) * w) := by rw [ea2, ← this]; grind
        rw [Int.mul_add, e3]
        grind
      · rw [List.filter_cons_of_neg (p := fun x => decide (P ^ e ∣ x)) (by rw [decide_eq_true_iff]; exact hd)]
        obtain ⟨e', rfl⟩ : ∃ e', e = e' + 1 := ⟨e - 1, by omega⟩
        have h2 := pr_drop hP e' x K c1 hd
        obtain ⟨m, hm⟩ := h2
        have ea : P ^ (e' + 1) * K / x = P * m := by
          have : P ^ (e' + 1) * K = x * (P * m) := by
            rw [Nat.pow_succ]
            have : P ^ e' * P * K = P * (P ^ e' * K) := by grind
            rw [this, hm]; grind
          rw [this, Nat.mul_div_cancel_left _ (by omega)]
        rw [ea]
        refine ⟨u + (m : Int), ?_⟩
        rw [Int.natCast_add, hu, Int.natCast_mul]
        grind
  obtain ⟨u, hu⟩ := hmod l (fun x hx => ⟨hdv x hx, by have := (hl x hx).1; omega, htv x hx⟩)
  generalize (((l.filter (fun x => decide (P ^ e ∣ x))).map tv).sum) = S at *
  generalize (l.map (fun x => P ^ e * K / x)).sum = A at *
  refine pr_int hP hK ⟨-(o : Int) * u, ?_⟩
  have h3 : (o : Int) * (A : Int) = (p : Int) * ((P ^ (e - h) : Nat) : Int) * (K : Int) := by exact_mod_cast hmul2
  rw [hu] at h3
  grind
/-- every prime to some power in q divides a share -/
theorem sum_q {P g p q : Nat} {l : List Nat} (hg : Nat.gcd p q = 1) (hq1 : 1 ≤ q) (hl : ∀ x ∈ l, 2 ≤ x ∧ x ≤ 60) (hsum : (l.map (cw q)).sum = p * WW) (L : Nat) (hL : ∀ x ∈ l, x ∣ L) (hL1 : 1 ≤ L) : q ∣ L := by
  have key : ∀ (l : List Nat), (∀ x ∈ l, (2 ≤ x ∧ x ≤ 60) ∧ x ∣ L) → WW * (q * (l.map (fun x => L / x)).sum) = L * (l.map (cw q)).sum := by
    intro l
    induction l with
    | nil => intro _; simp
    | cons x r ih =>
      intro hh
      obtain ⟨⟨a, b⟩, c⟩ := hh x List.mem_cons_self
      have ir := ih (fun y hy => hh y (List.mem_cons_of_mem _ hy))
      rw [List.map_cons, List.sum_cons, List.map_cons, List.sum_cons, Nat.mul_add, Nat.mul_add, Nat.mul_add, ir]
      congr 1
      refine Nat.eq_of_mul_eq_mul_right (show 0 < x by omega) ?_
      have e1 : WW * (q * (L / x)) * x = WW * q * (L / x * x) := by grind
      have e2 : L * cw q x * x = L * (cw q x * x) := by grind
      rw [e1, e2, Nat.div_mul_cancel c, cw_mul a b]
      grind
  have h1 := key l (fun x hx => ⟨hl x hx, hL x hx⟩)
  rw [hsum] at h1
  have h2 : q * (l.map (fun x => L / x)).sum = p * L := by
    refine Nat.eq_of_mul_eq_mul_left WW_pos ?_
    rw [h1]; grind
  have h3 : q ∣ p * L := ⟨_, h2.symm⟩
  exact Nat.Coprime.dvd_of_dvd_mul_left (Nat.Coprime.symm hg) h3
