/-! ===== leaveOutMultiples ===== -/
def BI (p q lm : Nat) (ba : Int) : Prop := r64 ba ∧ ∀ l, SumL p q lm l → ∀ x ∈ l, brd ba x = false
theorem pow_lt_inj {P a b : Nat} (hP : 2 ≤ P) (h : P ^ a = P ^ b) : a = b := by
  rcases Nat.lt_trichotomy a b with w | w | w
  · have := Nat.pow_lt_pow_right (show 1 < P by omega) w; omega
  · exact w
  · have := Nat.pow_lt_pow_right (show 1 < P by omega) w; omega
theorem lom90 {Q : Int → (Int → Int) → (Int → Int) → Int → Prop} {K36 : (Int → Int) → (Int → Int) → Int → Int → Int → Int → Int → Int → Prop} {p q lm P h o e due : Nat} {ba : Int} {tr le : Int → Int} (hlm : lm ≤ 60) (h2 : 2 ≤ lm) (hPl : P ∈ prs) (hp1 : 1 ≤ p) (hg : Nat.gcd p q = 1) (hq : q = P ^ h * o) (hq1 : 1 ≤ q) (ho : ¬ P ∣ o) (he : h ≤ e) (he1 : 1 ≤ e) (hBI : BI p q lm ba)
    (hhi : ∀ v, 2 ≤ v → v ≤ lm → P ^ (e + 1) ∣ v → brd ba v = true)
    (hm5 : (mlt (brd ba) (P ^ e) (lm / P ^ e)).length ≤ 5) (htr : rep tr (mlt (brd ba) (P ^ e) (lm / P ^ e))) (hlvs : lvs P (P ^ e) (mlt (brd ba) (P ^ e) (lm / P ^ e)) le)
    (hdue0 : h < e → due = 0) (hdue1 : e = h → due < P ∧ (P : Int) ∣ (due : Int) * (o : Int) - (p : Int))
    (h1 : ∀ tr le ba', BI p q lm ba' → (∀ v, 2 ≤ v → v ≤ lm → brd ba v = true → brd ba' v = true) → (∀ v, 2 ≤ v → v ≤ lm → brd ba' v = false → P ^ (fM P + 1) ∣ v → P ^ (fM P + 1) ∣ q) → Q 1 tr le ba')
    (h0 : (∀ l, ¬ SumL p q lm l) → ∀ tr le ba', Q 0 tr le ba')
    (hK : ∀ tr le ba', h < e → BI p q lm ba' → (∀ v, 2 ≤ v → v ≤ lm → brd ba v = true → brd ba' v = true) → (∀ v, 2 ≤ v → v ≤ lm → P ^ e ∣ v → brd ba' v = true) → K36 tr le ba' P ((P ^ h : Nat) : Int) p o ((P ^ (e - 1) : Nat) : Int)) :
    wp_X2_leaveOutMultiples_90 Q lm K36 tr le ba P ((P ^ h : Nat) : Int) p o ((P ^ e : Nat) : Int) ((mlt (brd ba) (P ^ e) (lm / P ^ e)).length : Nat) due := by
  have hP := prs_pr P hPl
  have hPb := prs_b P hPl
  have hpe : 0 < P ^ e := Nat.pow_pos (by omega)
  obtain ⟨s, K, hW, hKP⟩ := pfree (P := P) hPb.1 WW WW_pos
  unfold wp_X2_leaveOutMultiples_90 wp_X2_leaveOutMultiples_122 wp_X2_leaveOutMultiples_132
  -- the inverses are the inverses
  have hgetD : ∀ i x : Nat, (mlt (brd ba) (P ^ e) (lm / P ^ e))[i]? = some x → (mlt (brd ba) (P ^ e) (lm / P ^ e)).getD i 0 = x := by
    intro i x hx
    rw [List.getD_eq_getElem?_getD, hx]; rfl
  have hnd : ∀ i x : Nat, (mlt (brd ba) (P ^ e) (lm / P ^ e))[i]? = some x → 2 ≤ x ∧ x ≤ lm ∧ brd ba x = false ∧ P ^ e ∣ x ∧ Nat.gcd (x / P ^ e) P = 1 := by
    intro i x hx
    obtain ⟨j, j1, j2, j3, j4⟩ := (mlt_mem _).mp (List.mem_of_getElem? hx)
    have hxl : x ≤ lm := by
      rw [j3]
      exact Nat.le_trans (Nat.mul_le_mul_right _ j2) (Nat.div_mul_le_self lm _)
    have hpe2 : 2 ≤ P ^ e := by
      have : P ^ 1 ≤ P ^ e := Nat.pow_le_pow_right (by omega) he1
      rw [Nat.pow_one] at this
      omega
    have hx2 : 2 ≤ x := by
      rw [j3]
      have : P ^ e ≤ j * P ^ e := Nat.le_mul_of_pos_left _ j1
      omega
    refine ⟨hx2, hxl, j4, ⟨j, by rw [j3, Nat.mul_comm]⟩, ?_⟩
    have ej : x / P ^ e = j := by rw [j3, Nat.mul_div_cancel j hpe]
    rw [ej]
    refine pr_cop hP (fun d => ?_)
    have : brd ba x = true := hhi x hx2 hxl (by
      rw [j3, Nat.pow_succ, Nat.mul_comm (P ^ e) P]
      exact Nat.mul_dvd_mul_right d _)
    rw [j4] at this
    exact absurd this (by decide)
  have hlv : ∀ i, i < (mlt (brd ba) (P ^ e) (lm / P ^ e)).length → le i = ((mInv ((mlt (brd ba) (P ^ e) (lm / P ^ e)).getD i 0 / P ^ e) P : Nat) : Int) ∧ mInv ((mlt (brd ba) (P ^ e) (lm / P ^ e)).getD i 0 / P ^ e) P < 60 := by
    intro i hi
    have hget := List.getElem?_eq_getElem hi
    obtain ⟨S, s1, s2, s3⟩ := hlvs i _ hget
    have hgc := (hnd i _ hget).2.2.2.2
    have e1 := mInv_eq hgc (Int.natCast_nonneg S) (by omega) s3
    have hlt := (mInv_spec (show 0 < P by omega) hgc).1
    rw [hgetD i _ hget]
    exact ⟨by rw [s1, e1], by omega⟩
  -- a sum's choice
  have hchoice : ∀ l, SumL p q lm l → lsm (fun j => mInv ((mlt (brd ba) (P ^ e) (lm / P ^ e)).getD j 0 / P ^ e) P) (mkc (fun j => decide ((mlt (brd ba) (P ^ e) (lm / P ^ e)).getD j 0 ∈ l)) (mlt (brd ba) (P ^ e) (lm / P ^ e)).length) (mlt (brd ba) (P ^ e) (lm / P ^ e)).length % P = due := by
    intro l hS
    have hsc : (P : Int) ∣ ((lsm (fun j => mInv ((mlt (brd ba) (P ^ e) (lm / P ^ e)).getD j 0 / P ^ e) P) (mkc (fun j => decide ((mlt (brd ba) (P ^ e) (lm / P ^ e)).getD j 0 ∈ l)) (mlt (brd ba) (P ^ e) (lm / P ^ e)).length) (mlt (brd ba) (P ^ e) (lm / P ^ e)).length : Nat) : Int) * (o : Int) - (p : Int) * ((P ^ (e - h) : Nat) : Int) := sum_choice hlm h2 hP he1 hW hKP hq hq1 he hS (hBI.2 l hS) hhi
    generalize lsm (fun j => mInv ((mlt (brd ba) (P ^ e) (lm / P ^ e)).getD j 0 / P ^ e) P) (mkc (fun j => decide ((mlt (brd ba) (P ^ e) (lm / P ^ e)).getD j 0 ∈ l)) (mlt (brd ba) (P ^ e) (lm / P ^ e)).length) (mlt (brd ba) (P ^ e) (lm / P ^ e)).length = S at hsc ⊢
    rcases Nat.lt_or_ge h e with w | w
    · rw [hdue0 w]
      have hd : P ∣ S := by
        have h3 : (P : Int) ∣ (p : Int) * ((P ^ (e - h) : Nat) : Int) := by
          have : P ∣ P ^ (e - h) := by
            have : P ^ 1 ∣ P ^ (e - h) := Nat.pow_dvd_pow P (by omega)
            rw [Nat.pow_one] at this
            exact this
          exact Int.dvd_trans (Int.natCast_dvd_natCast.mpr this) (Int.dvd_mul_left _ _)
        have h4 : (P : Int) ∣ (S : Int) * (o : Int) := by
          obtain ⟨a, ha⟩ := hsc
          obtain ⟨b, hb⟩ := h3
          exact ⟨a + b, by rw [Int.mul_add, ← ha, ← hb]; exact (Int.sub_add_cancel _ _).symm⟩
        rw [Int.mul_comm] at h4
        exact Int.natCast_dvd_natCast.mp (pr_int hP ho h4)
      exact Nat.mod_eq_zero_of_dvd hd
    · have eh : e = h := by omega
      obtain ⟨d1, d2⟩ := hdue1 eh
      subst eh
      rw [Nat.sub_self, Nat.pow_zero] at hsc
      have h5 : (P : Int) ∣ (o : Int) * ((S : Int) - (due : Int)) := by
        obtain ⟨a, ha⟩ := hsc
        obtain ⟨b, hb⟩ := d2
        refine ⟨a - b, ?_⟩
        have : (((1 : Nat)) : Int) = 1 := rfl
        rw [this, Int.mul_one] at ha
        rw [Int.mul_sub, Int.mul_comm (o : Int) (S : Int), Int.mul_comm (o : Int) (due : Int), Int.mul_sub]
        generalize (S : Int) * (o : Int) = A1 at ha ⊢
        generalize (due : Int) * (o : Int) = A2 at hb ⊢
        generalize (P : Int) * a = A3 at ha ⊢
        generalize (P : Int) * b = A4 at hb ⊢
        omega
      have h6 := pr_int hP ho h5
      have h7 : ((S % P : Nat) : Int) = ((due % P : Nat) : Int) := by
        rw [Int.natCast_emod, Int.natCast_emod]
        exact Int.emod_eq_emod_iff_emod_sub_eq_zero.mpr (Int.emod_eq_zero_of_dvd h6)
      have h8 : S % P = due % P := Int.ofNat.inj h7
      rw [h8, Nat.mod_eq_of_lt d1]
  refine usefulOf2 (lv := fun j => mInv ((mlt (brd ba) (P ^ e) (lm / P ^ e)).getD j 0 / P ^ e) P) hm5 (by omega) hlv (fun u hu32 hU1 hU2 => ?_)
  refine bar2 hm5 hu32 htr (fun x hx => ?_) hBI.1 (fun ba' hr' hbv => ?_)
  · obtain ⟨i, hi⟩ := List.mem_iff_getElem?.mp hx
    have := hnd i x hi
    omega
  -- what is barred is in no sum
  have hBI' : BI p q lm ba' := by
    refine ⟨hr', fun l hS x hx => ?_⟩
    obtain ⟨_, hlb⟩ := SumL_b hlm h2 hS
    have hxb := hlb x hx
    cases hb : brd ba' x with
    | false => rfl
    | true =>
      exfalso
      rcases (hbv x hxb.1 (by omega)).mp hb with w | ⟨i, hi, hui⟩
      · rw [hBI.2 l hS x hx] at w; exact absurd w (by decide)
      · have hil := (List.getElem?_eq_some_iff.mp hi).1
        obtain ⟨c1, c2⟩ := mkc_ok (f := fun j => decide ((mlt (brd ba) (P ^ e) (lm / P ^ e)).getD j 0 ∈ l)) (mlt (brd ba) (P ^ e) (lm / P ^ e)).length
        have hbit : (mkc (fun j => decide ((mlt (brd ba) (P ^ e) (lm / P ^ e)).getD j 0 ∈ l)) (mlt (brd ba) (P ^ e) (lm / P ^ e)).length).testBit i = true := by
          rw [c2 i, decide_eq_true hil, Bool.true_and, hgetD i x hi]
          exact decide_eq_true hx
        have hc1 : 1 ≤ mkc (fun j => decide ((mlt (brd ba) (P ^ e) (lm / P ^ e)).getD j 0 ∈ l)) (mlt (brd ba) (P ^ e) (lm / P ^ e)).length := by
          rcases Nat.eq_zero_or_pos (mkc (fun j => decide ((mlt (brd ba) (P ^ e) (lm / P ^ e)).getD j 0 ∈ l)) (mlt (brd ba) (P ^ e) (lm / P ^ e)).length) with z | z
          · rw [z, Nat.zero_testBit] at hbit; exact absurd hbit (by decide)
          · exact z
        have := hU1 _ i hc1 c1 (hchoice l hS) hbit
        rw [hui] at this
        exact absurd this (by decide)
  have hmono : ∀ v, 2 ≤ v → v ≤ lm → brd ba v = true → brd ba' v = true := fun v v1 v2 hb => (hbv v v1 (by omega)).mpr (Or.inl hb)
  have hc1 : ∀ x : Nat, ((x : Int) = 0 ↔ x = 0) := fun x => by omega
  -- the special conditions when something is useful
  have hsp : u ≠ 0 → ∀ v, 2 ≤ v → v ≤ lm → brd ba' v = false → P ^ (fM P + 1) ∣ v → P ^ (fM P + 1) ∣ q := by
    intro hu v v1 v2 hb hd
    rcases Nat.lt_or_ge e (fM P + 1) with w | w
    · exfalso
      have := hmono v v1 v2 (hhi v v1 v2 (Nat.dvd_trans (Nat.pow_dvd_pow P (by omega)) hd))
      rw [hb] at this
      exact absurd this (by decide)
    · rcases Nat.lt_or_ge h e with w2 | w2
      · exfalso
        obtain ⟨c, c1, c2, c3⟩ := hU2 hu
        rw [hdue0 w2] at c3
        have hml : lm / P ^ e ≤ 60 / P ^ (fM P + 1) := by
          refine Nat.le_trans (Nat.div_le_div_right hlm) (Nat.div_le_div_left (Nat.pow_le_pow_right (by omega) w) (Nat.pow_pos (by omega)))
        have hlv2 : ∀ i x : Nat, (mlt (brd ba) (P ^ e) (lm / P ^ e))[i]? = some x → (P : Int) ∣ ((mInv ((mlt (brd ba) (P ^ e) (lm / P ^ e)).getD i 0 / P ^ e) P : Nat) : Int) * ((x / P ^ e : Nat) : Int) - 1 := by
          intro i x hx
          rw [hgetD i x hx]
          exact (mInv_spec (show 0 < P by omega) (hnd i x hx).2.2.2.2).2
        have fin : ∀ R m, m = lm / P ^ e → (∀ j, 1 ≤ j → j ≤ m → j ∣ R ∧ 1 ≤ R / j) → hsm R m < P → False := by
          intro R m hm hR hb2
          subst hm
          exact no_cancel hP hpe hR hb2 hlv2 c1 c2 c3
        generalize hLm : lm / P ^ e = m at *
        have hdec : ∀ m, m ≤ 3 → (∀ j, 1 ≤ j → j ≤ m → j ∣ 6 ∧ 1 ≤ 6 / j) ∧ hsm 6 m ≤ 11 := by
          intro m hm
          have key : ∀ m : Fin 4, (∀ j : Fin 4, 1 ≤ j.1 → j.1 ≤ m.1 → j.1 ∣ 6 ∧ 1 ≤ 6 / j.1) ∧ hsm 6 m.1 ≤ 11 := by decide
          exact ⟨fun j j1 j2 => (key ⟨m, by omega⟩).1 ⟨j, by omega⟩ j1 j2, (key ⟨m, by omega⟩).2⟩
        have hdec2 : ∀ m, m ≤ 2 → (∀ j, 1 ≤ j → j ≤ m → j ∣ 2 ∧ 1 ≤ 2 / j) ∧ hsm 2 m ≤ 3 := by
          intro m hm
          have key : ∀ m : Fin 3, (∀ j : Fin 3, 1 ≤ j.1 → j.1 ≤ m.1 → j.1 ∣ 2 ∧ 1 ≤ 2 / j.1) ∧ hsm 2 m.1 ≤ 3 := by decide
          exact ⟨fun j j1 j2 => (key ⟨m, by omega⟩).1 ⟨j, by omega⟩ j1 j2, (key ⟨m, by omega⟩).2⟩
        have hdec1 : ∀ m, m ≤ 1 → (∀ j, 1 ≤ j → j ≤ m → j ∣ 1 ∧ 1 ≤ 1 / j) ∧ hsm 1 m ≤ 1 := by
          intro m hm
          have key : ∀ m : Fin 2, (∀ j : Fin 2, 1 ≤ j.1 → j.1 ≤ m.1 → j.1 ∣ 1 ∧ 1 ≤ 1 / j.1) ∧ hsm 1 m.1 ≤ 1 := by decide
          exact ⟨fun j j1 j2 => (key ⟨m, by omega⟩).1 ⟨j, by omega⟩ j1 j2, (key ⟨m, by omega⟩).2⟩
        rcases prs_few P hPl with k | k | k
        · have := hdec1 m (by omega)
          exact fin 1 m rfl this.1 (by have := this.2; omega)
        · have := hdec2 m (by omega)
          exact fin 2 m rfl this.1 (by have := this.2; omega)
        · have := hdec m (by omega)
          exact fin 6 m rfl this.1 (by have := this.2; omega)
      · have eh : e = h := by omega
        rw [hq]
        exact Nat.dvd_trans (Nat.pow_dvd_pow P (by omega)) (Nat.dvd_mul_right _ _)
  refine ⟨fun w => ⟨fun z => absurd z w, fun _ => ⟨Or.inr rfl, h1 _ _ _ hBI' hmono (hsp (fun z => w (by rw [z]; rfl)))⟩⟩, fun w => ⟨fun y => ⟨by omega, fun x hx => ?_⟩, fun y => ⟨fun _ => ⟨Or.inl rfl, h0 (fun l hS => ?_) _ _ _⟩, fun z => absurd w z⟩⟩⟩
  · have hne : e ≠ h := fun z => y (by rw [z])
    have e2 : x = ((P ^ (e - 1) : Nat) : Int) := by
      have h3 := nm_tdiv (P ^ e) P
      rw [hx, h3]
      have : P ^ e / P = P ^ (e - 1) := by
        have e3 : P ^ e = P ^ (e - 1) * P := by rw [← Nat.pow_succ]; congr 1; omega
        rw [e3, Nat.mul_div_cancel _ (by omega)]
      rw [this]
    rw [e2]
    have hu0 : u = 0 := by omega
    refine hK _ _ _ (by omega) hBI' hmono (fun v v1 v2 hd => ?_)
    cases hb : brd ba v with
    | true => exact hmono v v1 v2 hb
    | false =>
      refine (hbv v v1 (by omega)).mpr (Or.inr ?_)
      obtain ⟨j, hj⟩ := hd
      have hm : v ∈ mlt (brd ba) (P ^ e) (lm / P ^ e) := by
        refine (mlt_mem _).mpr ⟨j, ?_, ?_, by rw [hj, Nat.mul_comm], hb⟩
        · rcases Nat.eq_zero_or_pos j with z | z
          · rw [z, Nat.mul_zero] at hj; omega
          · exact z
        · exact (Nat.le_div_iff_mul_le hpe).mpr (by rw [Nat.mul_comm, ← hj]; exact v2)
      obtain ⟨i, hi⟩ := List.mem_iff_getElem?.mp hm
      exact ⟨i, hi, by rw [hu0]; exact Nat.zero_testBit i⟩
  · -- no choice is useful, so there is no sum
    have hu0 : u = 0 := by omega
    have eh : e = h := pow_lt_inj hPb.1 (Int.ofNat.inj y)
    have hc := hchoice l hS
    obtain ⟨c1, c2⟩ := mkc_ok (f := fun j => decide ((mlt (brd ba) (P ^ e) (lm / P ^ e)).getD j 0 ∈ l)) (mlt (brd ba) (P ^ e) (lm / P ^ e)).length
    generalize mkc (fun j => decide ((mlt (brd ba) (P ^ e) (lm / P ^ e)).getD j 0 ∈ l)) (mlt (brd ba) (P ^ e) (lm / P ^ e)).length = c at *
    rcases Nat.eq_zero_or_pos c with z | z
    · -- the empty choice leaves 0, which isn't due
      subst z
      have hz : ∀ f n, lsm f 0 n = 0 := by
        intro f n
        induction n with
        | zero => rfl
        | succ n ih => rw [lsm, ih, Nat.zero_testBit]; rfl
      rw [hz, Nat.zero_mod] at hc
      obtain ⟨d1, d2⟩ := hdue1 eh
      rw [← hc] at d2
      have hPp : P ∣ p := by
        have : (P : Int) ∣ (p : Int) := by
          obtain ⟨a, ha⟩ := d2
          exact ⟨-a, by rw [Int.mul_neg, ← ha]; simp⟩
        exact Int.natCast_dvd_natCast.mp this
      have hPq : P ∣ q := by
        rw [hq, ← eh]
        have : P ^ 1 ∣ P ^ e := Nat.pow_dvd_pow P he1
        rw [Nat.pow_one] at this
        exact Nat.dvd_trans this (Nat.dvd_mul_right _ _)
      have := Nat.dvd_gcd hPp hPq
      rw [hg] at this
      have := Nat.dvd_one.mp this
      omega
    · -- a bit would be useful
      have hex : ∃ i, c.testBit i = true := by
        rcases Classical.em (∃ i, c.testBit i = true) with hh | hh
        · exact hh
        · exfalso
          have : c = 0 := by
            apply Nat.eq_of_testBit_eq
            intro i
            rw [Nat.zero_testBit]
            cases hb : c.testBit i with
            | false => rfl
            | true => exact absurd ⟨i, hb⟩ hh
          omega
      obtain ⟨i, hi⟩ := hex
      have := hU1 c i z c1 hc hi
      rw [hu0, Nat.zero_testBit] at this
      exact absurd this (by decide)
