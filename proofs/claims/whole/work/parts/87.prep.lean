/-! ===== prepare ===== -/
theorem no_sum_pow {p q lm P E h : Nat} {l : List Nat} (hlm : lm ≤ 60) (h2 : 2 ≤ lm) (hg : Nat.gcd p q = 1) (hq1 : 1 ≤ q) (hP : isPr P) (hS : SumL p q lm l) (hd : P ^ h ∣ q) (hE : E < h) (hx : ∀ x, 2 ≤ x → x ≤ lm → ¬ P ^ (E + 1) ∣ x) : False := by
  have hP2 := hP.1
  obtain ⟨s, K, hW, hK⟩ := pfree (P := P) hP2 WW WW_pos
  obtain ⟨_, hb⟩ := SumL_b hlm h2 hS
  have hKp : 1 ≤ P ^ E * K := by
    have : 0 < K := by
      rcases Nat.eq_zero_or_pos K with z | z
      · subst z; exact absurd (Nat.dvd_zero P) hK
      · exact z
    exact Nat.mul_pos (Nat.pow_pos (by omega)) this
  have hqd := sum_q (P := P) (g := 0) hg hq1 (fun x hxl => ⟨(hb x hxl).1, by have := (hb x hxl).2; omega⟩) hS.2 (P ^ E * K) (fun x hxl => by
    have hxb := hb x hxl
    have h1 := WW_dvd x hxb.1 (by omega)
    rw [hW] at h1
    exact drop_to hP (hx x hxb.1 hxb.2) s h1) hKp
  have h3 : P ^ (E + 1) ∣ P ^ E * K := Nat.dvd_trans (Nat.dvd_trans (Nat.pow_dvd_pow P hE) hd) hqd
  rw [Nat.pow_succ] at h3
  exact hK (Nat.dvd_of_mul_dvd_mul_left (Nat.pow_pos (by omega)) h3)
theorem mlt_len {b : Nat → Bool} {w : Nat} : ∀ t, (mlt b w t).length ≤ t := by
  intro t
  induction t with
  | zero => exact Nat.le_refl _
  | succ t ih => rw [mlt, List.length_append]; split <;> simp <;> omega
def spc (P q lm : Nat) (ba : Int) : Prop := ∀ v, 2 ≤ v → v ≤ lm → brd ba v = false → P ^ (fM P + 1) ∣ v → P ^ (fM P + 1) ∣ q
theorem lom36 {Q : Int → (Int → Int) → (Int → Int) → Int → Prop} {p q lm P h o : Nat} (hlm : lm ≤ 60) (h2 : 2 ≤ lm) (hPl : P ∈ prs) (hp1 : 1 ≤ p) (hpb : p ≤ 1000000) (hg : Nat.gcd p q = 1) (hq : q = P ^ h * o) (hq1 : 1 ≤ q) (ho : ¬ P ∣ o) :
    ∀ (e : Nat) (tr le : Int → Int) (ba : Int), h ≤ e → P ^ e ≤ 60 → BI p q lm ba → (∀ v, 2 ≤ v → v ≤ lm → P ^ (e + 1) ∣ v → brd ba v = true) →
      (∀ tr le ba', BI p q lm ba' → (∀ v, 2 ≤ v → v ≤ lm → brd ba v = true → brd ba' v = true) → spc P q lm ba' → Q 1 tr le ba') → ((∀ l, ¬ SumL p q lm l) → ∀ tr le ba', Q 0 tr le ba') →
      wp_X2_leaveOutMultiples_36 Q lm (e + 1) tr le ba P ((P ^ h : Nat) : Int) p o ((P ^ e : Nat) : Int) := by
  have hP := prs_pr P hPl
  have hPb := prs_b P hPl
  intro e
  induction e with
  | zero =>
    intro tr le ba he hP60 hBI hhi h1 h0
    rw [wp_X2_leaveOutMultiples_36]
    unfold wp_X2_leaveOutMultiples_142
    refine ⟨fun z => absurd z (by omega), fun _ => ⟨fun _ => h1 tr le ba hBI (fun v _ _ hb => hb) (fun v v1 v2 hb hd => ?_), fun z => absurd z (by rw [Nat.pow_zero]; omega)⟩⟩
    exfalso
    have := hhi v v1 v2 (Nat.dvd_trans (Nat.pow_dvd_pow P (by omega)) hd)
    rw [hb] at this
    exact absurd this (by decide)
  | succ e ih =>
    intro tr le ba he hP60 hBI hhi h1 h0
    rw [wp_X2_leaveOutMultiples_36]
    have hpe2 : 2 ≤ P ^ (e + 1) := by
      have : P ^ 1 ≤ P ^ (e + 1) := Nat.pow_le_pow_right (by omega) (by omega)
      rw [Nat.pow_one] at this
      omega
    have hpe : 0 < P ^ (e + 1) := by omega
    refine ⟨fun z => absurd z (by omega), fun _ => ⟨fun z => absurd z (by omega), fun _ => gather2 hpe2 hlm (by omega) (by omega) (fun j j1 j2 hb => ?_) (fun hm5 tr' le' hr' hlv' => ⟨fun _ => ?_, fun z => absurd z (by omega)⟩) (fun hm6 tr' le' => ⟨fun z => absurd z (by omega), fun _ => h1 tr' le' ba hBI (fun v _ _ hb => hb) (fun v v1 v2 hb hd => ?_)⟩)⟩⟩
    · refine pr_cop hP (fun d => ?_)
      have hjl : j * P ^ (e + 1) ≤ lm := Nat.le_trans (Nat.mul_le_mul_right _ j2) (Nat.div_mul_le_self lm _)
      have hj2 : 2 ≤ j * P ^ (e + 1) := Nat.le_trans hpe2 (Nat.le_mul_of_pos_left _ j1)
      have := hhi _ hj2 hjl (by
        rw [Nat.pow_succ P (e + 1), Nat.mul_comm (P ^ (e + 1)) P]
        exact Nat.mul_dvd_mul_right d _)
      rw [hb] at this
      exact absurd this (by decide)
    · have hK : ∀ tr le ba', h < e + 1 → BI p q lm ba' → (∀ v, 2 ≤ v → v ≤ lm → brd ba v = true → brd ba' v = true) → (∀ v, 2 ≤ v → v ≤ lm → P ^ (e + 1) ∣ v → brd ba' v = true) → wp_X2_leaveOutMultiples_36 Q lm (e + 1) tr le ba' P ((P ^ h : Nat) : Int) p o ((P ^ (e + 1 - 1) : Nat) : Int) := by
        intro tr2 le2 ba2 hlt hB2 hm2 hh2
        rw [Nat.add_sub_cancel]
        have hle60 : P ^ e ≤ 60 := Nat.le_trans (Nat.pow_le_pow_right (by omega) (by omega)) hP60
        exact ih tr2 le2 ba2 (by omega) hle60 hB2 hh2 (fun tr3 le3 ba3 a b c => h1 tr3 le3 ba3 a (fun v v1 v2 hb => b v v1 v2 (hm2 v v1 v2 hb)) c) h0
      refine ⟨fun w => ?_, fun w => ⟨by omega, ?_⟩⟩
      · have hne : h ≠ e + 1 := fun z => w (by rw [z])
        exact lom90 (due := 0) hlm h2 hPl hp1 hg hq hq1 ho he (by omega) hBI hhi hm5 hr' hlv' (fun _ => rfl) (fun z => absurd z.symm hne) h1 h0 hK
      · have eh : e + 1 = h := pow_lt_inj hPb.1 (Int.ofNat.inj w)
        refine inverse7 (by omega) (by omega) (pr_cop hP ho) (fun s s0 s1 sd => ?_)
        obtain ⟨S, rfl⟩ := Int.eq_ofNat_of_zero_le s0
        rw [nm_tmod]
        have c1 : ((p % P : Nat) : Int) * ((S : Nat) : Int) = ((p % P * S : Nat) : Int) := rfl
        have c1' : ((p % P : Nat) : Int) * Int.ofNat S = ((p % P * S : Nat) : Int) := rfl
        have hpm : p % P < P := Nat.mod_lt _ (by omega)
        have hb : p % P * S ≤ 60 * 60 := Nat.mul_le_mul (by omega) (by omega)
        first
          | rw [c1]
          | rw [c1']
        rw [nm_tmod]
        refine ⟨⟨by omega, by omega⟩, by omega, lom90 (due := p % P * S % P) hlm h2 hPl hp1 hg hq hq1 ho he (by omega) hBI hhi hm5 hr' hlv' (fun z => absurd eh (by omega)) (fun _ => ⟨Nat.mod_lt _ (by omega), ?_⟩) h1 h0 hK⟩
        -- due o = p
        obtain ⟨u, hu⟩ := sd
        have e1 : ((p % P * S % P : Nat) : Int) = ((p % P * S : Nat) : Int) - (P : Int) * ((p % P * S / P : Nat) : Int) := by
          have := Nat.div_add_mod (p % P * S) P
          have h5 : ((P * (p % P * S / P) : Nat) : Int) = (P : Int) * ((p % P * S / P : Nat) : Int) := rfl
          rw [← h5]
          omega
        have e2 : ((p % P : Nat) : Int) = (p : Int) - (P : Int) * ((p / P : Nat) : Int) := by
          have := Nat.div_add_mod p P
          have h5 : ((P * (p / P) : Nat) : Int) = (P : Int) * ((p / P : Nat) : Int) := rfl
          rw [← h5]
          omega
        have hu2 : (S : Int) * (o : Int) = 1 + (P : Int) * u := by
          have : (S : Int) * (o : Int) - 1 = (P : Int) * u := hu
          omega
        rw [e1, ← c1, e2]
        generalize ((p % P * S / P : Nat) : Int) = X1
        generalize ((p / P : Nat) : Int) = X2
        refine ⟨(p : Int) * u - X2 * ((S : Int) * (o : Int)) - X1 * (o : Int), ?_⟩
        have e6 : (((p : Int) - (P : Int) * X2) * (S : Int) - (P : Int) * X1) * (o : Int) - (p : Int) = (p : Int) * ((S : Int) * (o : Int)) - (P : Int) * X2 * ((S : Int) * (o : Int)) - (P : Int) * X1 * (o : Int) - (p : Int) := by grind
        rw [e6, hu2]
        grind
    · exfalso
      have hlen := mlt_len (b := brd ba) (w := P ^ (e + 1)) (lm / P ^ (e + 1))
      rcases Nat.lt_or_ge (e + 1) (fM P + 1) with w | w
      · have := hhi v v1 v2 (Nat.dvd_trans (Nat.pow_dvd_pow P (by omega)) hd)
        rw [hb] at this
        exact absurd this (by decide)
      · have hml : lm / P ^ (e + 1) ≤ 60 / P ^ (fM P + 1) :=
          Nat.le_trans (Nat.div_le_div_right hlm) (Nat.div_le_div_left (Nat.pow_le_pow_right (by omega) w) (Nat.pow_pos (by omega)))
        have := prs_few P hPl
        generalize 60 / P ^ (fM P + 1) = Z at *
        generalize lm / P ^ (e + 1) = Y at *
        omega
theorem lom2 {Q : Int → (Int → Int) → (Int → Int) → Int → Prop} {p q lm P h o : Nat} {tr le : Int → Int} {ba : Int} (hlm : lm ≤ 60) (h2 : 2 ≤ lm) (hPl : P ∈ prs) (hPm : P ≤ lm) (hp1 : 1 ≤ p) (hpb : p ≤ 1000000) (hg : Nat.gcd p q = 1) (hq : q = P ^ h * o) (hq1 : 1 ≤ q) (ho : ¬ P ∣ o) (hBI : BI p q lm ba)
    (h1 : ∀ tr le ba', BI p q lm ba' → (∀ v, 2 ≤ v → v ≤ lm → brd ba v = true → brd ba' v = true) → spc P q lm ba' → Q 1 tr le ba') (h0 : (∀ l, ¬ SumL p q lm l) → ∀ tr le ba', Q 0 tr le ba') :
    wp_X2_leaveOutMultiples Q tr le ba lm P ((P ^ h : Nat) : Int) p o := by
  have hP := prs_pr P hPl
  have hPb := prs_b P hPl
  have loop : ∀ (k i : Nat), i + k = 6 → P ^ i ≤ lm → wp_X2_leaveOutMultiples_3 Q lm (k + 1) tr le ba P ((P ^ h : Nat) : Int) p o ((P ^ i : Nat) : Int) := by
    have h26 : ∀ i, P ^ i ≤ lm → i < 6 := by
      intro i hi
      rcases Nat.lt_or_ge i 6 with w | w
      · exact w
      · have h3 : 2 ^ 6 ≤ P ^ i := Nat.le_trans (Nat.pow_le_pow_right (by omega) w) (Nat.pow_le_pow_left hPb.1 i)
        omega
    intro k
    induction k with
    | zero => intro i hi hl; have := h26 i hl; omega
    | succ k ih =>
      intro i hi hl
      rw [wp_X2_leaveOutMultiples_3]
      unfold wp_X2_leaveOutMultiples_28
      rw [nm_tdiv]
      have c1 : ((P ^ i : Nat) : Int) * (P : Int) = ((P ^ (i + 1) : Nat) : Int) := by rw [Nat.pow_succ]; rfl
      rw [c1]
      have hdiv : P ^ i ≤ lm / P ↔ P ^ (i + 1) ≤ lm := by rw [Nat.le_div_iff_mul_le (by omega), ← Nat.pow_succ]
      refine ⟨fun z => absurd z (by omega), fun _ => ⟨by omega, fun z => ⟨fun w => ⟨i + 1, ?_⟩, fun w => h0 (fun l hS => ?_) _ _ _⟩, fun z => ?_⟩⟩
      · have hgt : ¬ P ^ (i + 1) ≤ lm := by
          rw [← hdiv]
          intro u
          exact absurd z (by have := Int.ofNat_le.mpr u; omega)
        have hhe : h ≤ i := by
          rcases Nat.lt_or_ge i h with u | u
          · have h3 := Nat.pow_lt_pow_right (show 1 < P by omega) u
            have h4 := Int.ofNat_le.mp w
            omega
          · exact u
        exact lom36 hlm h2 hPl hp1 hpb hg hq hq1 ho i tr le ba hhe (by omega) hBI (fun v v1 v2 hd => by have := Nat.le_of_dvd (by omega) hd; omega) h1 h0
      · have hgt : ¬ P ^ (i + 1) ≤ lm := by
          rw [← hdiv]
          intro u
          exact absurd z (by have := Int.ofNat_le.mpr u; omega)
        have hhe : i < h := by
          rcases Nat.lt_or_ge i h with u | u
          · exact u
          · have h3 := Nat.pow_le_pow_right (show 0 < P by omega) u
            exact absurd (Int.ofNat_le.mpr h3) w
        exact no_sum_pow hlm h2 hg hq1 hP hS (by rw [hq]; exact Nat.dvd_mul_right _ _) hhe (fun x x1 x2 hd => by have := Nat.le_of_dvd (by omega) hd; omega)
      · have hle : P ^ (i + 1) ≤ lm := by
          rw [← hdiv]
          rcases Nat.lt_or_ge (lm / P) (P ^ i) with u | u
          · exact absurd (Int.ofNat_lt.mpr u) z
          · exact u
        refine ⟨⟨by omega, by omega⟩, fun x hx => ?_⟩
        rw [hx]
        exact ih (i + 1) (by omega) hle
  refine ⟨7, ?_⟩
  have := loop 6 0 (by omega) (by rw [Nat.pow_zero]; omega)
  rw [Nat.pow_zero] at this
  exact this
theorem powerIn2 {Q : Int → Prop} {P q h o : Nat} (hP : 2 ≤ P) (hP2 : P ≤ 60) (hq : q = P ^ h * o) (hq1 : 1 ≤ q) (hqb : q ≤ 1000000) (ho : ¬ P ∣ o) (hQ : Q ((P ^ h : Nat) : Int)) : wp_X2_powerIn Q q P := by
  have ho1 : 1 ≤ o := by
    rcases Nat.eq_zero_or_pos o with z | z
    · subst z; exact absurd (Nat.dvd_zero P) ho
    · exact z
  have hh : h < 31 := by
    rcases Nat.lt_or_ge h 31 with w | w
    · exact w
    · have h3 : 2 ^ 31 ≤ P ^ h := Nat.le_trans (Nat.pow_le_pow_right (by omega) w) (Nat.pow_le_pow_left hP h)
      have h4 : P ^ h ≤ P ^ h * o := Nat.le_mul_of_pos_right _ ho1
      omega
  have loop : ∀ (d i : Nat), i + d = h → wp_X2_powerIn_7 Q (d + 1) P ((P ^ d * o : Nat) : Int) ((P ^ i : Nat) : Int) i := by
    intro d
    induction d with
    | zero =>
      intro i hi
      have e : i = h := by omega
      subst e
      rw [wp_X2_powerIn_7]
      unfold wp_X2_powerIn_43
      rw [Nat.pow_zero, Nat.one_mul, nm_tmod]
      exact ⟨fun _ => hQ, fun _ => ⟨fun _ => hQ, fun _ => ⟨fun _ => hQ, fun _ => ⟨by omega, fun _ => hQ, fun z => absurd (Nat.dvd_of_mod_eq_zero (Int.ofNat.inj z)) ho⟩⟩⟩⟩
    | succ d ih =>
      intro i hi
      rw [wp_X2_powerIn_7]
      unfold wp_X2_powerIn_43
      have hpos : 0 < P ^ (d + 1) * o := Nat.mul_pos (Nat.pow_pos (by omega)) ho1
      have e1 : P ^ (d + 1) * o = P * (P ^ d * o) := by rw [Nat.pow_succ]; grind
      have hm : P ^ (d + 1) * o % P = 0 := by rw [e1]; exact Nat.mul_mod_right _ _
      have hdv : P ^ (d + 1) * o / P = P ^ d * o := by rw [e1, Nat.mul_div_cancel_left _ (by omega)]
      have hpb : P ^ (i + 1) ≤ 1000000 := by
        have h3 : P ^ (i + 1) ≤ P ^ h := Nat.pow_le_pow_right (by omega) (by omega)
        have h4 : P ^ h ≤ P ^ h * o := Nat.le_mul_of_pos_right _ ho1
        omega
      have c1 : ((P ^ i : Nat) : Int) * (P : Int) = ((P ^ (i + 1) : Nat) : Int) := by rw [Nat.pow_succ]; rfl
      have e3 : (i : Int) + 1 = ((i + 1 : Nat) : Int) := rfl
      rw [nm_tmod, nm_tdiv, hm, hdv, c1, e3]
      refine ⟨fun z => absurd z (by omega), fun _ => ⟨fun z => absurd z (by omega), fun _ => ⟨fun z => absurd z (by omega), fun _ => ⟨by omega, fun z => absurd rfl z, fun _ => ⟨by omega, fun x hx => ⟨⟨by omega, by omega⟩, fun y hy => ⟨⟨by omega, by omega⟩, ?_⟩⟩⟩⟩⟩⟩⟩
      rw [hx, hy]
      exact ih (i + 1) (by omega)
  refine ⟨h + 1, ?_⟩
  have := loop h 0 (by omega)
  rw [← hq, Nat.pow_zero] at this
  exact this
