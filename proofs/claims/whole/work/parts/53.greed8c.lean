/-! ===== greed, the reference's side: one step after another ===== -/
theorem ceil_mono {p q p' q' : Nat} (hp : 0 < p) (hp' : 0 < p') (h : q * p' ≤ q' * p) : (q + p - 1) / p ≤ (q' + p' - 1) / p' := by
  have hc := (ceil_ge (q := q') hp').1
  generalize (q' + p' - 1) / p' = c at hc ⊢
  have h1 : q' * p ≤ c * p' * p := Nat.mul_le_mul_right p hc
  have h2 : q * p' ≤ c * p * p' := by
    have : c * p' * p = c * p * p' := by grind
    omega
  have h3 : q ≤ c * p := Nat.le_of_mul_le_mul_right h2 hp'
  have h4 : (q + p - 1) / p < c + 1 := by
    rw [Nat.div_lt_iff_lt_mul hp, Nat.succ_mul]
    omega
  omega
theorem gr_fall {p q n : Nat} (hq : 0 < q) (hn : 0 < n) : q * grA p q n ≤ grC q n * p := by
  unfold grA grC
  obtain ⟨u, hu⟩ := Nat.gcd_dvd_left q n
  obtain ⟨w, hw⟩ := Nat.gcd_dvd_right q n
  have hg : 0 < Nat.gcd q n := Nat.gcd_pos_of_pos_right _ hn
  generalize Nat.gcd q n = g at hg hu hw
  have e1 : q / g = u := by rw [hu]; exact Nat.mul_div_cancel_left u hg
  have e2 : u * n = q * w := by rw [hu, hw]; grind
  have e3 : u * n / q = w := by rw [e2]; exact Nat.mul_div_cancel_left w (by omega)
  rw [e1, e3, e2, Nat.mul_sub]
  have : q * (p * w) = q * w * p := by grind
  omega
theorem gr_fall2 {p q A C : Nat} (hC : 0 < C) (h : q * A ≤ C * p) : q * (A / Nat.gcd A C) ≤ C / Nat.gcd A C * p := by
  have hg : 0 < Nat.gcd A C := Nat.gcd_pos_of_pos_right _ hC
  obtain ⟨a, ha⟩ := Nat.gcd_dvd_left A C
  obtain ⟨c, hc⟩ := Nat.gcd_dvd_right A C
  generalize Nat.gcd A C = g at hg ha hc ⊢
  rw [ha, hc, Nat.mul_div_cancel_left _ hg, Nat.mul_div_cancel_left _ hg]
  refine Nat.le_of_mul_le_mul_left (c := g) ?_ hg
  have e1 : g * (q * a) = q * A := by rw [ha]; grind
  have e2 : g * (c * p) = C * p := by rw [hc]; grind
  omega
theorem greed8 {Q : Int → (Int → Int) → Int → Prop} {o : Bool} {st : Int} (hst : st = ((if o = true then 2 else 1 : Nat) : Int)) : ∀ (f p q t : Nat) (l : List Nat) (row : Int → Int), f + l.length = 17 → l.length ≤ 16 → rep row l → p < q → q ≤ 1000000000000000 → 1 ≤ t → t ≤ 1000000000000 →
    (∀ v ∈ l, v ≤ t) → (∀ v, (q + p - 1) / p ≤ v → v ≤ t → (o = true → v % 2 = 1) → v ∈ l) →
    (∀ l' row', greedL o f p q t l = some l' → rep row' l' → Q (l'.length : Nat) row' 0) → (greedL o f p q t l = none → ∀ (l' : List Nat) row', l'.length ≤ 16 → Q (l'.length : Nat) row' 1) → wp_X8_greed_6 Q (f + 1) (l.length : Nat) row 0 st p q := by
  intro f
  induction f with
  | zero => intro p q t l row hf hl; exact absurd hf (by omega)
  | succ f ih =>
    intro p q t l row hf hl hr hpq hq2 ht1 ht2 hall hcov h1 h2
    have spent : ∀ (k : Nat) (p' q' : Int) (l' : List Nat) (row' : Int → Int), l'.length ≤ 16 → greedL o (f + 1) p q t l = none → wp_X8_greed_6 Q (k + 1) (l'.length : Nat) row' 1 st p' q' := by
      intro k p' m' l' row' hl' e
      rw [wp_X8_greed_6]
      unfold wp_X8_greed_188
      exact ⟨fun _ => h2 e l' row' hl', fun _ => ⟨fun _ => h2 e l' row' hl', fun z => absurd z (by omega)⟩⟩
    by_cases hp : p = 0
    · subst hp
      rw [wp_X8_greed_6]
      exact ⟨fun _ => h1 l row greedL_0 hr, fun z => absurd z (by omega)⟩
    have hp0 : 0 < p := by omega
    have hge := @nxt_ge o p q t hp0
    obtain ⟨hnot, d, hd, hmem⟩ := gr_reach hall hcov
    have hNb : nxt o p q t ≤ 2000000000000000 := by
      have := Nat.div_le_self (q + p - 1) p
      unfold nxt
      split <;> omega
    -- the step at N
    have main : wp_X8_greed_59 Q (wp_X8_greed_6 Q (f + 1)) 1 (l.length : Nat) row 0 st p q (nxt o p q t : Nat) := by
      have hG := @greedL_G o f p q t l hp
      have hC := @greedL_C o f p q t l hp
      have hS := @greedL_s o f p q t l hp
      have h16 := @greedL_16 o f p q t l hp
      have hcov2 : ∀ v, (q + p - 1) / p ≤ v → v ≤ nxt o p q t → (o = true → v % 2 = 1) → v ∈ l ++ [nxt o p q t] := by
        intro v hv1 hv2 hv3
        by_cases hvt : v ≤ t
        · exact List.mem_append_left _ (hcov v hv1 hvt hv3)
        · have : v = nxt o p q t := by
            have hN := hv2
            unfold nxt at hN ⊢
            split at hN
            · rename_i hc
              rw [if_pos hc]
              have := hv3 hc.1
              omega
            · rename_i hc
              rw [if_neg hc]
              omega
          exact List.mem_append_right _ (List.mem_singleton.mpr this)
      have hall2 : ∀ v ∈ l ++ [nxt o p q t], v ≤ nxt o p q t := by
        intro v hv
        rcases List.mem_append.mp hv with hv | hv
        · have := hall v hv; omega
        · have := List.mem_singleton.mp hv; omega
      generalize nxt o p q t = n at hge hnot hd hNb hG hC hS hcov2 hall2 ⊢
      obtain ⟨g1, g2, g3, g4⟩ := gr_step hp0 hpq (show 0 < n by omega) hge.2
      have hgp : 0 < Nat.gcd q n := Nat.gcd_pos_of_pos_right _ (by omega)
      rw [wp_X8_greed_59]
      unfold wp_X8_greed_117 wp_X8_greed_122 wp_X8_greed_185
      refine has8 hr hl (fun z => absurd z hnot) (fun _ => ⟨fun _ => ?_, fun z => absurd rfl z⟩)
      refine put8 hr hl (fun b1 b2 row' hr' => gcd8 ⟨fun z => absurd rfl z, fun _ => ⟨by omega, by omega, ?_⟩⟩) (fun b => gcd8 ⟨fun _ => ⟨Or.inr rfl, fun _ => ?_, fun z => absurd z (by omega)⟩, fun z => absurd z (by omega)⟩)
      · have eG : Int.tdiv 1000000000000000 (n : Int) = ((1000000000000000 / n : Nat) : Int) := nm_tdiv 1000000000000000 n
        rw [eG, nm_tdiv]
        have hdiv : q / Nat.gcd q n ≤ 1000000000000000 / n ↔ q / Nat.gcd q n * n ≤ 1000000000000000 := Nat.le_div_iff_mul_le (by omega)
        refine ⟨fun w => ⟨Or.inl rfl, fun z => absurd rfl z, fun _ => ⟨by omega, ?_⟩⟩, fun w => ⟨Or.inr rfl, fun _ => ?_, fun z => absurd z (by omega)⟩⟩
        · have w1 : q / Nat.gcd q n ≤ 1000000000000000 / n := Int.ofNat_le.mp w
          have w2 := hdiv.mp w1
          have hS2 := hS (by omega) (by omega) (by omega)
          have hfall := @gr_fall p q n (by omega) (by omega)
          have c1 : ((q / Nat.gcd q n : Nat) : Int) * (n : Int) = ((grC q n : Nat) : Int) := rfl
          have w3 : grC q n ≤ 1000000000000000 := w2
          rw [c1]
          refine ⟨⟨by omega, by omega⟩, fun c hc => ⟨by omega, ?_⟩⟩
          rw [hc, nm_tdiv, nm_tdiv, g4]
          have c2 : (p : Int) * ((grC q n / q : Nat) : Int) = ((p * (grC q n / q) : Nat) : Int) := rfl
          rw [c2]
          have hA : ((p * (grC q n / q) : Nat) : Int) - ((q / Nat.gcd q n : Nat) : Int) = ((grA p q n : Nat) : Int) := by
            have : grA p q n = p * (grC q n / q) - q / Nat.gcd q n := rfl
            rw [this]
            exact (Int.natCast_sub g2).symm
          rw [hA]
          have hAlt : grA p q n < grC q n := Nat.lt_of_le_of_lt (Nat.sub_le _ _) g3
          generalize grA p q n = A at hAlt hS2 hfall ⊢
          generalize grC q n = C at g1 g3 w3 hAlt hS2 hfall ⊢
          generalize p * (C / q) = B at g3 ⊢
          refine ⟨⟨by omega, by omega⟩, by omega, ⟨by omega, by omega⟩, fun a ha => ?_⟩
          rw [ha]
          refine gcd8 ?_
          have hg2 : 0 < Nat.gcd A C := Nat.gcd_pos_of_pos_right _ g1
          simp only [nm_tdiv]
          refine ⟨by omega, fun u hu => ⟨by omega, fun v hv => ?_⟩⟩
          rw [hu, hv]
          have q1 : C / Nat.gcd A C ≤ C := Nat.div_le_self _ _
          have q2 : A / Nat.gcd A C < C / Nat.gcd A C := by
            rw [Nat.div_lt_iff_lt_mul hg2, Nat.div_mul_cancel (Nat.gcd_dvd_right A C)]
            exact hAlt
          have q3 := gr_fall2 g1 hfall
          have hcov3 : ∀ v, (C / Nat.gcd A C + A / Nat.gcd A C - 1) / (A / Nat.gcd A C) ≤ v → v ≤ n → (o = true → v % 2 = 1) → 0 < A / Nat.gcd A C → v ∈ l ++ [n] := by
            intro v hv1 hv2 hv3 hpos
            exact hcov2 v (Nat.le_trans (ceil_mono hp0 hpos q3) hv1) hv2 hv3
          generalize A / Nat.gcd A C = p' at *
          generalize C / Nat.gcd A C = q' at *
          by_cases hz : p' = 0
          · subst hz
            rw [wp_X8_greed_6]
            have hf1 : ∃ f', f = f' + 1 := ⟨f - 1, by omega⟩
            obtain ⟨f', rfl⟩ := hf1
            exact ⟨fun _ => h1 _ _ (by rw [hS2]; exact greedL_0) hr', fun z => absurd z (by omega)⟩
          · exact ih _ _ n (l ++ [n]) row' (by rw [List.length_append, List.length_singleton]; omega) (by rw [List.length_append, List.length_singleton]; omega) hr' q2 (Nat.le_trans q1 w3) (by omega) b2 hall2 (fun v a1 a2 a3 => hcov3 v a1 a2 a3 (by omega)) (fun l' s2 e r => h1 l' s2 (by rw [hS2]; exact e) r) (fun e => h2 (by rw [hS2]; exact e))
        · exact spent _ _ _ (l ++ [n]) row' (by rw [List.length_append, List.length_singleton]; omega) (hC (by omega) (by omega) (Nat.lt_of_not_le (fun u => w (Int.ofNat_le.mpr u))))
      · by_cases hlen : 16 ≤ l.length
        · exact spent _ _ _ l row hl (h16 hlen)
        · exact spent _ _ _ l row hl (hG hlen (by omega))
    have hst2 : (if o = true then 2 else 1 : Nat) ≤ 2 := by split <;> omega
    have hs := hst
    rw [hst] at main
    have go := gr59 (st := if o = true then 2 else 1) hr hl hst2 (by omega) main d _ hd hmem
    rw [← hs] at go
    have hcb : (q + p - 1) / p ≤ q + p - 1 := Nat.div_le_self _ _
    rw [wp_X8_greed_6]
    refine ⟨fun z => absurd z (by omega), fun _ => ⟨fun z => absurd rfl z, fun _ => ⟨⟨by omega, by omega⟩, ⟨by omega, by omega⟩, by omega, fun x hx => ?_⟩⟩⟩
    have e0 : (q : Int) + (p : Int) - 1 = ((q + p - 1 : Nat) : Int) := by omega
    rw [e0, nm_tdiv] at hx
    generalize (q + p - 1) / p = c at hcb go hx
    rw [hx]
    unfold wp_X8_greed_55 wp_X8_greed_56
    have e2 : (c : Int).tmod 2 = ((c % 2 : Nat) : Int) := nm_tmod c 2
    rw [e2]
    cases o with
    | false =>
      have : st = 1 := hs
      rw [if_neg (by simp)] at go
      refine ⟨fun _ => ⟨⟨by omega, by omega⟩, fun y hy => ⟨d + 1, ?_⟩⟩, fun z => absurd z (by omega)⟩
      have : y = (c : Int) := by omega
      rw [this]
      exact go
    | true =>
      have : st = 2 := hs
      refine ⟨fun z => absurd this z, fun _ => ⟨fun w => ⟨⟨by omega, by omega⟩, fun y hy => ⟨d + 1, ?_⟩⟩, fun w => ⟨⟨by omega, by omega⟩, fun y hy => ⟨d + 1, ?_⟩⟩⟩⟩
      · rw [if_neg (by intro z; exact w (by rw [z.2]; rfl))] at go
        have : y = (c : Int) := by omega
        rw [this]
        exact go
      · rw [if_pos ⟨rfl, Int.ofNat.inj w⟩] at go
        have : y = ((c + 1 : Nat) : Int) := by omega
        rw [this]
        exact go
