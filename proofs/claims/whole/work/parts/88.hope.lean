/-! ===== all primes; what prepare leaves ===== -/
theorem pr_60 (r : Nat) (hr : isPr r) (h60 : r ≤ 60) : r ∈ prs := by
  have key : ∀ r, r < 61 → 2 ≤ r → r ∈ prs ∨ ∃ d, d < r ∧ d ∣ r ∧ d ≠ 1 := by decide +kernel
  rcases key r (by omega) hr.1 with w | ⟨d, h1, h2, h3⟩
  · exact w
  · rcases hr.2 d h2 with w | w
    · exact absurd w h3
    · omega
theorem prm_eq : ∀ i : Fin 17, prmF ((i.1 : Nat) : Int) = ((prs.getD i.1 0 : Nat) : Int) ∧ prs.getD i.1 0 ∈ prs := by decide +kernel
theorem prs_all : ∀ P ∈ prs, ∃ i, i < 17 ∧ prs.getD i 0 = P := by decide +kernel
theorem prs_nd : ∀ i j : Fin 17, prs.getD i.1 0 = prs.getD j.1 0 → i = j := by decide +kernel
theorem hope2 {Q : Int → (Int → Int) → (Int → Int) → Int → Prop} {p q lm : Nat} {tr le : Int → Int} (hlm : lm ≤ 60) (h2 : 2 ≤ lm) (hp1 : 1 ≤ p) (hpb : p ≤ 1000000) (hg : Nat.gcd p q = 1) (hq1 : 1 ≤ q) (hqb : q ≤ 1000000)
    (h1 : ∀ tr le ba', BI p q lm ba' → (∀ P ∈ prs, P ≤ lm → spc P q lm ba') → Q 1 tr le ba') (h0 : (∀ l, ¬ SumL p q lm l) → ∀ tr le ba', Q 0 tr le ba') :
    wp_X2_leaveOutHopeless Q tr le 0 lm p q := by
  have hBI0 : BI p q lm 0 := ⟨⟨by omega, by omega⟩, fun l _ x _ => bt_0 _⟩
  have loop : ∀ (k i : Nat) (tr le : Int → Int) (ba : Int) (dn rs : Nat), i + k = 17 → BI p q lm ba → q = dn * rs → (∀ j, j < i → prs.getD j 0 ≤ lm → spc (prs.getD j 0) q lm ba ∧ ¬ prs.getD j 0 ∣ rs) → (∀ x, isPr x → x ∣ dn → ∃ j, j < i ∧ x = prs.getD j 0) → wp_X2_leaveOutHopeless_5 Q lm (k + 1) tr le ba p q rs i := by
    intro k
    induction k with
    | zero =>
      intro i tr le ba dn rs hi hB hqe hsp hdn
      rw [wp_X2_leaveOutHopeless_5]
      unfold wp_X2_leaveOutHopeless_78
      refine ⟨fun _ => ⟨fun w => ⟨Or.inl rfl, h0 (fun l hS => ?_) _ _ _⟩, fun w => ⟨Or.inr rfl, h1 _ _ _ hB (fun P hP hPl => ?_)⟩⟩, fun z => absurd z (by omega)⟩
      · -- a prime of q is too great
        have hr2 : 2 ≤ rs := by
          rcases Nat.eq_zero_or_pos rs with z | z
          · rw [z, Nat.mul_zero] at hqe; omega
          · have : rs ≠ 1 := fun z => w (by rw [z]; rfl)
            omega
        obtain ⟨r, hr, hrd⟩ := pr_ex rs hr2
        have hrl : lm < r := by
          rcases Nat.lt_or_ge lm r with z | z
          · exact z
          · obtain ⟨j, hj, hje⟩ := prs_all r (pr_60 r hr (by omega))
            have := (hsp j (by omega) (by rw [hje]; exact z)).2
            rw [hje] at this
            exact absurd hrd this
        have hrq : r ^ 1 ∣ q := by rw [Nat.pow_one, hqe]; exact Nat.dvd_trans hrd (Nat.dvd_mul_left _ _)
        exact no_sum_pow (E := 0) hlm h2 hg hq1 hr hS hrq (by omega) (fun x x1 x2 hd => by
          rw [Nat.zero_add, Nat.pow_one] at hd
          have := Nat.le_of_dvd (by omega) hd
          omega)
      · obtain ⟨j, hj, hje⟩ := prs_all P hP
        have := (hsp j (by omega) (by rw [hje]; exact hPl)).1
        rw [hje] at this
        exact this
    | succ k ih =>
      intro i tr le ba dn rs hi hB hqe hsp hdn
      rw [wp_X2_leaveOutHopeless_5]
      unfold wp_X2_leaveOutHopeless_62
      obtain ⟨e1, e2⟩ := prm_eq ⟨i, by omega⟩
      have e1' : prmF ((i : Nat) : Int) = ((prs.getD i 0 : Nat) : Int) := e1
      have e2' : prs.getD i 0 ∈ prs := e2
      have e3 : (i : Int) + 1 = ((i + 1 : Nat) : Int) := rfl
      rw [e1', e3]
      have nd : ∀ j, j < i → prs.getD i 0 ≠ prs.getD j 0 := fun j hj z => by
        have := prs_nd ⟨i, by omega⟩ ⟨j, by omega⟩ z
        have := Fin.mk.inj_iff.mp this
        omega
      generalize hPP : prs.getD i 0 = P at *
      have hP := prs_pr P e2'
      have hPb := prs_b P e2'
      have hrs1 : 1 ≤ rs := by
        rcases Nat.eq_zero_or_pos rs with z | z
        · rw [z, Nat.mul_zero] at hqe; omega
        · exact z
      refine ⟨fun z => absurd z (by omega), fun _ => ⟨by omega, by omega, fun x hx => ⟨fun w => ⟨⟨by omega, by omega⟩, ih (i + 1) tr le ba dn rs (by omega) hB hqe (fun j hj hjl => ?_) (fun y hy hyd => ?_)⟩, fun w => ?_⟩⟩⟩
      · by_cases ej : j = i
        · subst ej; rw [hPP] at hjl; exact absurd w (by omega)
        · exact hsp j (by omega) hjl
      · obtain ⟨j, hj, e⟩ := hdn y hy hyd
        exact ⟨j, by omega, e⟩
      · obtain ⟨h, o, hqP, hoP⟩ := pfree (P := P) hPb.1 q hq1
        have hPm : P ≤ lm := by omega
        have hPdn : ¬ P ∣ dn := by
          intro d
          obtain ⟨j, hj, e⟩ := hdn P hP d
          exact nd j hj e
        have hPh : P ^ h ∣ rs := by
          have hc : Nat.Coprime (P ^ h) dn := Nat.Coprime.pow_left _ (pr_cop hP hPdn).symm
          exact Nat.Coprime.dvd_of_dvd_mul_left hc (by rw [← hqe, hqP]; exact Nat.dvd_mul_right _ _)
        obtain ⟨r2, hr2⟩ := hPh
        have hph0 : 0 < P ^ h := Nat.pow_pos (by omega)
        rw [hx]
        refine powerIn2 hPb.1 (by omega) hqP hq1 hqb hoP ?_
        have eo : q / P ^ h = o := by rw [hqP, Nat.mul_div_cancel_left _ hph0]
        have er : rs / P ^ h = r2 := by rw [hr2, Nat.mul_div_cancel_left _ hph0]
        rw [nm_tdiv, nm_tdiv, eo, er]
        refine ⟨by omega, fun y hy => ⟨by omega, lom2 hlm h2 e2' hPm hp1 hpb hg hqP hq1 hoP hB (fun tr' le' ba' hB' hm' hs' => ⟨fun _ => ⟨⟨by omega, by omega⟩, ?_⟩, fun z => absurd z (by omega)⟩) (fun hno tr' le' ba' => ⟨fun z => absurd rfl z, fun _ => h0 hno _ _ _⟩)⟩⟩
        rw [hy]
        have hPr2 : ¬ P ∣ r2 := by
          intro d
          apply hoP
          have e5 : P ^ h * o = P ^ h * (dn * r2) := by rw [← hqP, hqe, hr2]; grind
          have e6 := Nat.eq_of_mul_eq_mul_left hph0 e5
          rw [e6]
          exact Nat.dvd_trans d (Nat.dvd_mul_left _ _)
        refine ih (i + 1) tr' le' ba' (dn * P ^ h) r2 (by omega) hB' (by rw [hqe, hr2]; grind) (fun j hj hjl => ?_) (fun y hy hyd => ?_)
        · by_cases ej : j = i
          · subst ej; rw [hPP]; exact ⟨hs', hPr2⟩
          · obtain ⟨a, b⟩ := hsp j (by omega) hjl
            refine ⟨fun v v1 v2 hb hd => a v v1 v2 ?_ hd, fun d => b (by rw [hr2]; exact Nat.dvd_trans d (Nat.dvd_mul_left _ _))⟩
            cases hbv : brd ba v with
            | false => rfl
            | true => rw [hm' v v1 v2 hbv] at hb; exact absurd hb (by decide)
        · by_cases hyP : y = P
          · exact ⟨i, by omega, by rw [hyP, hPP]⟩
          · have hc : Nat.Coprime y (P ^ h) := by
              refine Nat.Coprime.pow_right _ (pr_cop hP (fun d => ?_))
              rcases hy.2 P d with z | z
              · omega
              · exact hyP z.symm
            obtain ⟨j, hj, e⟩ := hdn y hy (Nat.Coprime.dvd_of_dvd_mul_right hc hyd)
            exact ⟨j, by omega, e⟩
  exact ⟨18, loop 17 0 tr le 0 1 q (by omega) hBI0 (by rw [Nat.one_mul]) (fun j hj => by omega) (fun x hx hd => by
    have := Nat.dvd_one.mp hd
    have := hx.1
    omega)⟩
theorem spc_all {q lm : Nat} {ba : Int} (hlm : lm ≤ 60) (h : ∀ P ∈ prs, P ≤ lm → spc P q lm ba) : ∀ v, 2 ≤ v → v ≤ lm → brd ba v = false → v ∣ 2162160 * q := by
  intro v v1 v2 hb
  have key : ∀ v : Fin 61, 2 ≤ v.1 → v.1 / Nat.gcd v.1 2162160 = 1 ∨ ∃ P ∈ prs, P ^ (fM P + 1) ∣ v.1 ∧ (v.1 / Nat.gcd v.1 2162160) ∣ P ^ (fM P + 1) := by decide +kernel
  have hr : v / Nat.gcd v 2162160 ∣ q := by
    rcases key ⟨v, by omega⟩ v1 with w | ⟨P, hP, w1, w2⟩
    · have w' : v / Nat.gcd v 2162160 = 1 := w
      rw [w']; exact Nat.one_dvd q
    · have hPv : P ≤ v := by
        have : P ∣ P ^ (fM P + 1) := by rw [Nat.pow_succ]; exact Nat.dvd_mul_left _ _
        exact Nat.le_of_dvd (by omega) (Nat.dvd_trans this w1)
      exact Nat.dvd_trans w2 (h P hP (by omega) v v1 v2 hb w1)
  have e : Nat.gcd v 2162160 * (v / Nat.gcd v 2162160) = v := Nat.mul_div_cancel' (Nat.gcd_dvd_left v 2162160)
  have hm := Nat.mul_dvd_mul (Nat.gcd_dvd_right v 2162160) hr
  rw [e] at hm
  exact hm
/-- what the finder knows after prepare -/
def FP (p q lm : Nat) (nu we wa gr pf : Int → Int) (n_limit n_size n_parts n_wanted : Int) : Prop :=
  wa 0 = 0 ∧ n_limit = lm ∧ ((n_wanted = 0 ∧ ∀ k, TS p q lm k = []) ∨ ∃ (nums : List Nat) (pt w : Nat), PD nums pt lm nu we wa gr pf ∧ n_size = (nums.length : Nat) ∧ n_parts = pt ∧ n_wanted = w ∧ 1 ≤ w ∧ w < pt ∧ ∀ k, SL (fun v => pt / v) nums k w = TS p q lm k)
theorem TS_Sum {p q lm k : Nat} {l : List Nat} (h : l ∈ TS p q lm k) : SumL p q lm l := by
  obtain ⟨a, _, _, d⟩ := SL_mem _ _ _ _ h
  exact ⟨a, d⟩
theorem prepare2 {Q : (Int → Int) → (Int → Int) → (Int → Int) → (Int → Int) → (Int → Int) → (Int → Int) → (Int → Int) → Int → Int → Int → Int → Int → Prop} {p q n : Nat} {tr le nu we wa gr pf : Int → Int} {ba li si pa wn : Int} (hn : n ≤ 60) (h2 : 2 ≤ n) (hp1 : 1 ≤ p) (hpq : p < q) (hg : Nat.gcd p q = 1) (hqb : q ≤ 1000000) (hwa : wa 0 = 0)
    (h : ∀ tr le nu we wa gr pf ba li si pa wn, FP p q n nu we wa gr pf li si pa wn → Q tr le nu we wa gr pf ba li si pa wn) : wp_X2_prepare Q tr le nu we wa gr pf ba li si pa wn p q n := by
  intro x7 h7
  have e7 : x7 = (n : Int) := by omega
  rw [e7]
  unfold wp_X2_prepare_75
  refine hope2 hn h2 hp1 (by omega) hg (by omega) hqb (fun tr' le' ba' hB hsp => ⟨fun z => absurd z (by omega), fun _ => ?_⟩) (fun hno tr' le' ba' => ⟨fun _ => h _ _ _ _ _ _ _ _ _ _ _ _ ⟨hwa, rfl, Or.inl ⟨rfl, fun k => ?_⟩⟩, fun z => absurd rfl z⟩)
  · have hdv := spc_all hn hsp
    have hlc := fun v => (lcU_ok (b := brd ba') v)
    have hbound : ∀ v, v ≤ n → lcU (brd ba') v ≤ 10000000000000000 := by
      intro v hv
      have hd := (hlc v).2.2 (2162160 * q) (fun x x1 x2 x3 => hdv x x1 (by omega) x3)
      have hle := Nat.le_of_dvd (by omega) hd
      omega
    refine findParts2 hn h2 hbound ⟨fun z => absurd z (by omega), fun _ => ⟨fun z => absurd z (by omega), fun _ => ⟨by omega, fun w => ?_, fun w => ?_⟩⟩⟩
    · refine h _ _ _ _ _ _ _ _ _ _ _ _ ⟨hwa, rfl, Or.inl ⟨rfl, fun k => ?_⟩⟩
      rw [List.eq_nil_iff_forall_not_mem]
      intro l hl
      have hS := TS_Sum hl
      obtain ⟨_, hb⟩ := SumL_b hn h2 hS
      have hqd := sum_q (P := 0) (g := 0) hg (by omega) (fun x hx => ⟨(hb x hx).1, by have := (hb x hx).2; omega⟩) hS.2 (lcU (brd ba') n) (fun x hx => (hlc n).2.1 x (hb x hx).1 (hb x hx).2 (hB.2 l hS x hx)) (hlc n).1
      rw [nm_tmod] at w
      exact w (by rw [Nat.mod_eq_zero_of_dvd hqd]; rfl)
    · rw [nm_tmod] at w
      have hqd : q ∣ lcU (brd ba') n := Nat.dvd_of_mod_eq_zero (Int.ofNat.inj w)
      have hpt1 := (hlc n).1
      have hpt2 := hbound n (Nat.le_refl _)
      have hunb := (hlc n).2.1
      rw [nm_tdiv]
      generalize lcU (brd ba') n = pt at *
      obtain ⟨m, hm⟩ := hqd
      have em : pt / q = m := by rw [hm, Nat.mul_div_cancel_left _ (by omega)]
      rw [em]
      have hm1 : 1 ≤ m := by
        rcases Nat.eq_zero_or_pos m with z | z
        · rw [z, Nat.mul_zero] at hm; omega
        · exact z
      have c1 : (m : Int) * (p : Int) = ((m * p : Nat) : Int) := rfl
      have hw1 : 1 ≤ m * p := Nat.mul_pos hm1 hp1
      have hw2 : m * p < pt := by
        rw [hm, Nat.mul_comm q m]
        exact Nat.mul_lt_mul_of_pos_left hpq hm1
      rw [c1]
      refine ⟨by omega, ⟨by omega, by omega⟩, fun x hx => ?_⟩
      rw [hx]
      refine weigh2 hn h2 hpt1 hpt2 hunb hwa (fun nu' we' wa' gr' pf' hwa' hPD => h _ _ _ _ _ _ _ _ _ _ _ _ ⟨hwa', rfl, Or.inr ⟨_, pt, m * p, hPD, rfl, rfl, rfl, hw1, hw2, fun k => ?_⟩⟩)
      have hpos : ∀ x ∈ rl n (n - 1), 0 < cw q x := by
        intro x hx
        have := (rl_mem (n := n) (n - 1) x (by omega)).mp hx
        exact cw_pos (by omega) (by omega) (by omega)
      have hdrop := SL_drop (c := cw q) (b := fun v => !brd ba' v) (vs := rl n (n - 1)) (k := k) (t := p * WW) hpos (fun l hl => by
        rw [List.all_eq_true]
        intro x hx
        have := hB.2 l (TS_Sum (k := k) hl) x hx
        rw [this]; rfl)
      show _ = SL (cw q) (rl n (n - 1)) k (p * WW)
      rw [hdrop, ← unb_rl n (by omega)]
      refine SL_prop (A := q * WW) (B := pt) (Nat.mul_pos (by omega) WW_pos) (by omega) _ k (m * p) (p * WW) (fun x hx => ?_) ?_
      · have hxm := ((unb_ok (b := brd ba') n).2 x).mp hx
        have hxd := hunb x hxm.1 hxm.2.1 hxm.2.2
        have e1 := cw_mul (q := q) hxm.1 (by omega)
        have e2 := Nat.div_mul_cancel hxd
        rw [← e1]
        generalize pt / x = D at *
        rw [← e2]
        grind
      · rw [hm]; grind
  · rw [List.eq_nil_iff_forall_not_mem]
    intro l hl
    exact hno l (TS_Sum hl)
/-- collecting into rows -/
theorem collect2 {Q : Int → (Int → Int) → Int → Prop} {z : Nat} {p q lm k : Nat} {f nu we wa gr pf : Int → Int} {li si pa wn fo : Int} (hz : z ≤ 2001) (hk : k ≤ 6) (hk1 : 1 ≤ k) (h : FP p q lm nu we wa gr pf li si pa wn)
    (hQ : ∀ f' n', RS z (TS p q lm k) f' n' → Q n' f' n') : wp_X2_collect Q z f nu we wa gr pf li si pa wn fo k := by
  obtain ⟨h0, hl, hor⟩ := h
  unfold wp_X2_collect wp_X2_collect_26
  rcases hor with ⟨hw, hT⟩ | ⟨nums, pt, w, hPD, e1, e2, e3, w1, w2, hT⟩
  · refine ⟨fun _ => hQ f 0 ?_, fun u => absurd u (by omega)⟩
    rw [hT]
    exact ⟨by simp, fun i l hi hl => by simp at hl⟩
  · subst hl e1 e2 e3
    refine ⟨fun u => absurd u (by omega), fun _ => ⟨k, by omega, ?_⟩⟩
    refine extend2 hz hPD k hk1 hk _ f 0 0 0 w [] [] (by omega) w1 w2 ⟨by simp, fun i l hi hl => by simp at hl⟩ isRow_0 (fun f' n' hr => hQ f' n' ?_)
    rw [List.drop_zero, hT] at hr
    simpa using hr
