/-! ===== rising, firstAbove ===== -/
def rkS (v p q : Nat) : Nat × Nat := ((p * v + q) / Nat.gcd (p * v + q) (q * v), (q * v) / Nat.gcd (p * v + q) (q * v))
def rkT (v p q : Nat) : Nat × Nat := ((p * (v / Nat.gcd q v) + q / Nat.gcd q v) / Nat.gcd (p * (v / Nat.gcd q v) + q / Nat.gcd q v) (q * (v / Nat.gcd q v)), (q * (v / Nat.gcd q v)) / Nat.gcd (p * (v / Nat.gcd q v) + q / Nat.gcd q v) (q * (v / Nat.gcd q v)))
def rk : Nat → Nat × Nat
  | 0 => (0, 1)
  | i + 1 => match rk i with | (p, q) => rkS (i + 2) p q
theorem rk_s (i : Nat) : rk (i + 1) = rkS (i + 2) (rk i).1 (rk i).2 := by
  cases h : rk i with
  | mk a b => simp [rk, h]
theorem rk_t : ∀ i : Fin 29, rkT (i.1 + 2) (rk i.1).1 (rk i.1).2 = rk (i.1 + 1) := by decide +kernel
theorem rk_b : ∀ i : Fin 30, (rk i.1).1 < 100000000000000 ∧ 0 < (rk i.1).2 ∧ (rk i.1).2 < 100000000000000 := by decide +kernel
theorem rk_b' {i : Nat} (h : i ≤ 29) : (rk i).1 < 100000000000000 ∧ 0 < (rk i).2 ∧ (rk i).2 < 100000000000000 := rk_b ⟨i, by omega⟩
theorem rising7L {Q : Int → Prop} {N : Nat} {part : Int} (hN : N ≤ 29) (hQ : (part = 0 → Q ((rk N).1 / (rk N).2 : Nat)) ∧ (part = 1 → Q ((rk N).1 % (rk N).2 : Nat)) ∧ (¬ part = 0 → ¬ part = 1 → Q (rk N).2)) : ∀ (d i : Nat), i + d = N → wp_X7_rising_32 Q (d + 1) ((N + 1 : Nat) : Int) part (rk i).1 (rk i).2 ((i + 2 : Nat) : Int) := by
  intro d
  induction d with
  | zero =>
    intro i hi
    have : i = N := by omega
    subst this
    have hb := rk_b' hN
    rw [wp_X7_rising_32]
    unfold wp_X7_rising_104
    refine ⟨fun _ => ⟨fun h0 => ⟨fun h1 => hQ.2.2 h0 h1, fun h1 => ⟨by omega, by rw [nm_tmod]; exact hQ.2.1 h1⟩⟩, fun h0 => ⟨by omega, by rw [nm_tdiv]; exact hQ.1 h0⟩⟩, fun z => absurd z (by omega)⟩
  | succ d ih =>
    intro i hi
    have hb := rk_b' (show i ≤ 29 by omega)
    have hs := rk_s i
    have ihi := ih (i + 1) (by omega)
    rw [hs] at ihi
    rw [wp_X7_rising_32]
    generalize (rk i).1 = p at hb ihi ⊢
    generalize (rk i).2 = q at hb ihi ⊢
    have m1 : p * (i + 2) ≤ 100000000000000 * 31 := Nat.mul_le_mul (by omega) (by omega)
    have m2 : q * (i + 2) ≤ 100000000000000 * 31 := Nat.mul_le_mul (by omega) (by omega)
    have m3 : 0 < q * (i + 2) := Nat.mul_pos hb.2.1 (by omega)
    have c1 : (p : Int) * ((i + 2 : Nat) : Int) = ((p * (i + 2) : Nat) : Int) := rfl
    have c2 : (q : Int) * ((i + 2 : Nat) : Int) = ((q * (i + 2) : Nat) : Int) := rfl
    rw [c1, c2]
    unfold rkS at ihi
    generalize p * (i + 2) = A at m1 ihi ⊢
    generalize q * (i + 2) = B at m2 m3 ihi ⊢
    refine ⟨fun z => absurd z (by omega), fun _ => ⟨⟨by omega, by omega⟩, ⟨by omega, by omega⟩, fun x hx => ⟨⟨by omega, by omega⟩, fun y hy => ?_⟩⟩⟩
    have hx2 : x = ((A + q : Nat) : Int) := hx
    rw [hx2, hy]
    refine cd7' (by omega) m3 ?_
    have hg : 0 < Nat.gcd (A + q) B := Nat.gcd_pos_of_pos_right _ m3
    simp only [nm_tdiv]
    refine ⟨by omega, fun u hu => ⟨by omega, fun w hw => ⟨⟨by omega, by omega⟩, ?_⟩⟩⟩
    rw [hu, hw]
    exact ihi
theorem rise8L {Q : Int → Int → Prop} {N : Nat} (hN : N ≤ 29) (hQ : Q (rk N).1 (rk N).2) : ∀ (d i : Nat), i + d = N → wp_X8_rise_12 Q (d + 1) (rk i).1 (rk i).2 ((N + 1 : Nat) : Int) ((i + 2 : Nat) : Int) := by
  intro d
  induction d with
  | zero =>
    intro i hi
    have : i = N := by omega
    subst this
    rw [wp_X8_rise_12]
    exact ⟨fun _ => hQ, fun z => absurd z (by omega)⟩
  | succ d ih =>
    intro i hi
    have hb := rk_b' (show i ≤ 29 by omega)
    have hs := rk_t ⟨i, by omega⟩
    have ihi := ih (i + 1) (by omega)
    rw [← hs] at ihi
    rw [wp_X8_rise_12]
    refine ⟨fun z => absurd z (by omega), fun _ => gcd8 ?_⟩
    have hg : 0 < Nat.gcd (rk i).2 (i + 2) := Nat.gcd_pos_of_pos_right _ (by omega)
    have hV : (i + 2) / Nat.gcd (rk i).2 (i + 2) ≤ 31 := Nat.le_trans (Nat.div_le_self _ _) (by omega)
    have hV0 : 0 < (i + 2) / Nat.gcd (rk i).2 (i + 2) := Nat.div_pos (Nat.le_of_dvd (by omega) (Nat.gcd_dvd_right _ _)) hg
    have hq : (rk i).2 / Nat.gcd (rk i).2 (i + 2) ≤ (rk i).2 := Nat.div_le_self _ _
    simp only [nm_tdiv]
    unfold rkT at ihi
    dsimp only at ihi
    generalize (rk i).1 = p at hb ihi ⊢
    generalize (i + 2) / Nat.gcd (rk i).2 (i + 2) = V at hV hV0 ihi ⊢
    generalize (rk i).2 / Nat.gcd (rk i).2 (i + 2) = q1 at hq ihi ⊢
    generalize Nat.gcd (rk i).2 (i + 2) = g at hg ⊢
    generalize (rk i).2 = q at hb hq ihi ⊢
    have m1 : p * V ≤ 100000000000000 * 31 := Nat.mul_le_mul (by omega) (by omega)
    have m2 : q * V ≤ 100000000000000 * 31 := Nat.mul_le_mul (by omega) (by omega)
    have m3 : 0 < q * V := Nat.mul_pos hb.2.1 hV0
    have c1 : (p : Int) * (V : Int) = ((p * V : Nat) : Int) := rfl
    have c2 : (q : Int) * (V : Int) = ((q * V : Nat) : Int) := rfl
    rw [c1, c2]
    generalize p * V = A at m1 ihi ⊢
    generalize q * V = B at m2 m3 ihi ⊢
    refine ⟨by omega, ⟨by omega, by omega⟩, by omega, ⟨by omega, by omega⟩, fun x hx => ⟨by omega, ⟨by omega, by omega⟩, fun y hy => ?_⟩⟩
    have hx2 : x = ((A + q1 : Nat) : Int) := hx
    rw [hx2, hy]
    refine gcd8 ?_
    have hg2 : 0 < Nat.gcd (A + q1) B := Nat.gcd_pos_of_pos_right _ m3
    simp only [nm_tdiv]
    refine ⟨by omega, fun u hu => ⟨by omega, fun w hw => ⟨⟨by omega, by omega⟩, ?_⟩⟩⟩
    rw [hu, hw]
    exact ihi
theorem rise8 {Q : Int → Int → Prop} {su sd n : Int} (h2 : 2 ≤ n) (h30 : n ≤ 30) (hQ : Q (rk (n.toNat - 1)).1 (rk (n.toNat - 1)).2) : wp_X8_rise Q su sd n := by
  obtain ⟨N, hN⟩ : ∃ N : Nat, n = ((N + 1 : Nat) : Int) := ⟨n.toNat - 1, by omega⟩
  subst hN
  have e : ((N + 1 : Nat) : Int).toNat - 1 = N := by omega
  rw [e] at hQ
  exact ⟨N + 1, rise8L (by omega) hQ N 0 (by omega)⟩
def risV (n part : Int) : Int := if part = 0 then ((rk (n.toNat - 1)).1 / (rk (n.toNat - 1)).2 : Nat) else if part = 1 then ((rk (n.toNat - 1)).1 % (rk (n.toNat - 1)).2 : Nat) else (rk (n.toNat - 1)).2
theorem rising7 {Q : Int → Prop} {n part : Int} (h2 : 2 ≤ n) (h30 : n ≤ 30) (hp : 0 ≤ part) (hp2 : part ≤ 2) (hQ : Q (risV n part)) : wp_X7_rising Q n part := by
  obtain ⟨N, hN⟩ : ∃ N : Nat, n = ((N + 1 : Nat) : Int) := ⟨n.toNat - 1, by omega⟩
  subst hN
  have e : ((N + 1 : Nat) : Int).toNat - 1 = N := by omega
  unfold risV at hQ
  rw [e] at hQ
  unfold wp_X7_rising
  refine ⟨fun z => absurd z (by omega), fun _ => ⟨fun z => absurd z (by omega), fun _ => ⟨fun z => absurd z (by omega), fun _ => ⟨fun _ => ⟨N + 1, rising7L (by omega) ⟨fun h => ?_, fun h => ?_, fun h h1 => ?_⟩ N 0 (by omega)⟩, fun z => absurd z (by omega)⟩⟩⟩⟩
  · rw [if_pos h] at hQ; exact hQ
  · rw [if_neg (by omega), if_pos h] at hQ; exact hQ
  · rw [if_neg h, if_neg h1] at hQ; exact hQ
theorem rising_ok (su sd n part : Int) {K : Int → Int → Int → Int → Prop} (hK : ∀ v su' sd', K v v su' sd') :
    wp_X7_rising (fun v => wp_X8_rising (fun v2 su' sd' => K v v2 su' sd') su sd n part) n part := by
  by_cases hn : 2 ≤ n ∧ n ≤ 30
  · by_cases hp : 0 ≤ part ∧ part ≤ 2
    · refine rising7 hn.1 hn.2 hp.1 hp.2 ?_
      unfold wp_X8_rising wp_X8_rising_72
      refine in8 ?_
      rw [if_pos hn]
      refine ⟨fun z => absurd z (by omega), fun _ => in8 ?_⟩
      rw [if_pos hp]
      refine ⟨fun _ => rise8 hn.1 hn.2 ?_, fun z => absurd z (by omega)⟩
      have hb := rk_b' (show n.toNat - 1 ≤ 29 by omega)
      unfold risV
      refine ⟨fun h0 => ⟨fun h1 => ?_, fun h1 => ⟨by omega, ?_⟩⟩, fun h0 => ⟨by omega, ?_⟩⟩
      · rw [if_neg h0, if_neg h1]; exact hK _ _ _
      · rw [if_neg h0, if_pos h1, nm_tmod]; exact hK _ _ _
      · rw [if_pos h0, nm_tdiv]; exact hK _ _ _
    · have key8 : wp_X8_rising (fun v2 su' sd' => K (-1) v2 su' sd') su sd n part := by
        unfold wp_X8_rising wp_X8_rising_26
        refine in8 ?_
        rw [if_pos hn]
        refine ⟨fun z => absurd z (by omega), fun _ => in8 ?_⟩
        rw [if_neg hp]
        exact ⟨fun z => absurd rfl z, fun _ => hK _ _ _⟩
      unfold wp_X7_rising wp_X7_rising_20
      exact ⟨fun _ => key8, fun _ => ⟨fun _ => key8, fun _ => ⟨fun _ => key8, fun _ => ⟨fun z => absurd hp (by omega), fun _ => key8⟩⟩⟩⟩
  · have key8 : wp_X8_rising (fun v2 su' sd' => K (-1) v2 su' sd') su sd n part := by
      unfold wp_X8_rising wp_X8_rising_26
      refine in8 ?_
      rw [if_neg hn]
      exact ⟨fun _ => hK _ _ _, fun z => absurd rfl z⟩
    unfold wp_X7_rising wp_X7_rising_20
    exact ⟨fun _ => key8, fun _ => ⟨fun _ => key8, fun _ => absurd hn (by omega)⟩⟩
