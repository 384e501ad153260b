theorem greedL_0 {o : Bool} {f q t : Nat} {l : List Nat} : greedL o (f + 1) 0 q t l = some l := by rw [greedL, if_pos rfl]
theorem greedL_16 {o : Bool} {f p q t : Nat} {l : List Nat} (hp : ¬ p = 0) (h : 16 ≤ l.length) : greedL o (f + 1) p q t l = none := by rw [greedL, if_neg hp, if_pos h]
theorem greedL_G {o : Bool} {f p q t : Nat} {l : List Nat} (hp : ¬ p = 0) (h : ¬ 16 ≤ l.length) (hg : 1000000000000 < nxt o p q t) : greedL o (f + 1) p q t l = none := by rw [greedL, if_neg hp, if_neg h, if_pos hg]
theorem greedL_C {o : Bool} {f p q t : Nat} {l : List Nat} (hp : ¬ p = 0) (h : ¬ 16 ≤ l.length) (hg : ¬ 1000000000000 < nxt o p q t) (hc : 1000000000000000 / nxt o p q t < q / Nat.gcd q (nxt o p q t)) : greedL o (f + 1) p q t l = none := by rw [greedL, if_neg hp, if_neg h, if_neg hg, if_pos hc]
theorem greedL_s {o : Bool} {f p q t : Nat} {l : List Nat} (hp : ¬ p = 0) (h : ¬ 16 ≤ l.length) (hg : ¬ 1000000000000 < nxt o p q t) (hc : ¬ 1000000000000000 / nxt o p q t < q / Nat.gcd q (nxt o p q t)) : greedL o (f + 1) p q t l = greedL o f (grA p q (nxt o p q t) / Nat.gcd (grA p q (nxt o p q t)) (grC q (nxt o p q t))) (grC q (nxt o p q t) / Nat.gcd (grA p q (nxt o p q t)) (grC q (nxt o p q t))) (nxt o p q t) (l ++ [nxt o p q t]) := by rw [greedL, if_neg hp, if_neg h, if_neg hg, if_neg hc]
theorem byGreed3 {Q : Int → (Int → Int) → Int → Prop} {o : Bool} {od : Int} (ho : od = if o = true then 1 else 0) : ∀ (f p q t : Nat) (l : List Nat) (sh : Int → Int), f + l.length = 17 → l.length ≤ 16 → rep sh l → p < q → q ≤ 1000000000000000 → 1 ≤ t → t ≤ 1000000000000 →
    (∀ l' sh', greedL o f p q t l = some l' → rep sh' l' → Q 1 sh' (l'.length : Nat)) → (greedL o f p q t l = none → ∀ sh' v, Q 0 sh' v) → wp_X3_byGreed_12 Q f sh (l.length : Nat) od p q t (l.length : Nat) := by
  intro f
  induction f with
  | zero => intro p q t l sh hf hl; exact absurd hf (by omega)
  | succ f ih =>
    intro p q t l sh hf hl hr hpq hq2 ht1 ht2 h1 h2
    rw [wp_X3_byGreed_12]
    have k170 : (16 ≤ l.length ∨ p = 0) → wp_X3_byGreed_170 Q sh (l.length : Nat) p := by
      intro hh
      unfold wp_X3_byGreed_170 wp_X3_byGreed_182
      refine ⟨fun z => ⟨Or.inl rfl, h2 (greedL_16 (by omega) (by omega)) _ _⟩, fun z => ⟨Or.inr rfl, ?_⟩⟩
      have : p = 0 := by omega
      subst this
      exact h1 l sh greedL_0 hr
    refine ⟨fun z => k170 (Or.inl (by omega)), fun z => ⟨fun y => k170 (Or.inr (by omega)), fun y => ?_⟩⟩
    have hp0 : 0 < p := by omega
    have hl16 : ¬ 16 ≤ l.length := by omega
    have hge := @nxt_ge o p q t hp0
    have main : wp_X3_byGreed_64 Q (wp_X3_byGreed_12 Q f) sh (l.length : Nat) od p q (l.length : Nat) (nxt o p q t : Nat) := by
      have hG := @greedL_G o f p q t l (by omega) hl16
      have hC := @greedL_C o f p q t l (by omega) hl16
      have hS := @greedL_s o f p q t l (by omega) hl16
      generalize nxt o p q t = n at hge hG hC hS ⊢
      obtain ⟨g1, g2, g3, g4⟩ := gr_step hp0 hpq (show 0 < n by omega) hge.2
      unfold wp_X3_byGreed_64 wp_X3_byGreed_82 wp_X3_byGreed_115
      refine ⟨fun w => absurd w (by omega), fun _ => add3 hr (fun b1 b2 sh' hr' => ⟨fun _ => cd7' (by omega) (by omega) ?_, fun w => absurd w (by omega)⟩) (fun b sh2 v2 => ⟨fun w => absurd rfl w, fun _ => h2 (hG (by omega)) _ _⟩)⟩
      have hgp : 0 < Nat.gcd q n := Nat.gcd_pos_of_pos_right _ (by omega)
      rw [nm_tdiv]
      refine ⟨by omega, fun x hx => ⟨fun w => absurd w (by omega), fun _ => ⟨by omega, ?_⟩⟩⟩
      rw [hx]
      have eG : Int.tdiv 1000000000000000 (n : Int) = ((1000000000000000 / n : Nat) : Int) := nm_tdiv 1000000000000000 n
      rw [eG]
      have hdiv : q / Nat.gcd q n ≤ 1000000000000000 / n ↔ q / Nat.gcd q n * n ≤ 1000000000000000 := Nat.le_div_iff_mul_le (by omega)
      refine ⟨fun w => ?_, fun w => h2 (hC (by omega) (Nat.lt_of_not_le (fun u => w (Int.ofNat_le.mpr u)))) _ _⟩
      have w1 : q / Nat.gcd q n ≤ 1000000000000000 / n := Int.ofNat_le.mp w
      have w2 := hdiv.mp w1
      have hS2 := hS (by omega) (by omega)
      have c1 : ((q / Nat.gcd q n : Nat) : Int) * (n : Int) = ((grC q n : Nat) : Int) := rfl
      have w3 : grC q n ≤ 1000000000000000 := w2
      rw [c1]
      refine ⟨⟨by omega, by omega⟩, fun c hc => ⟨by omega, ?_⟩⟩
      rw [hc, nm_tdiv]
      have c2 : (p : Int) * ((grC q n / q : Nat) : Int) = ((p * (grC q n / q) : Nat) : Int) := rfl
      rw [c2]
      have hA : ((p * (grC q n / q) : Nat) : Int) - ((q / Nat.gcd q n : Nat) : Int) = ((grA p q n : Nat) : Int) := by
        have : grA p q n = p * (grC q n / q) - q / Nat.gcd q n := rfl
        rw [this]
        exact (Int.natCast_sub g2).symm
      rw [hA]
      have hAlt : grA p q n < grC q n := Nat.lt_of_le_of_lt (Nat.sub_le _ _) g3
      generalize grA p q n = A at hAlt hS2 ⊢
      generalize grC q n = C at g1 g3 w3 hAlt hS2 ⊢
      generalize p * (C / q) = B at g3 ⊢
      refine ⟨⟨by omega, by omega⟩, ⟨by omega, by omega⟩, fun a ha => ?_⟩
      rw [ha]
      refine cd7' (by omega) g1 ?_
      have hg2 : 0 < Nat.gcd A C := Nat.gcd_pos_of_pos_right _ g1
      simp only [nm_tdiv]
      refine ⟨by omega, fun u hu => ⟨by omega, fun v hv => ⟨⟨by omega, by omega⟩, ?_⟩⟩⟩
      have el : ((l.length : Nat) : Int) + 1 = (((l ++ [n]).length : Nat) : Int) := by rw [List.length_append, List.length_singleton]; rfl
      rw [hu, hv, el]
      have q1 : C / Nat.gcd A C ≤ C := Nat.div_le_self _ _
      have q2 : A / Nat.gcd A C < C / Nat.gcd A C := by
        rw [Nat.div_lt_iff_lt_mul hg2, Nat.div_mul_cancel (Nat.gcd_dvd_right A C)]
        exact hAlt
      exact ih _ _ n (l ++ [n]) sh' (by rw [List.length_append, List.length_singleton]; omega) (by rw [List.length_append, List.length_singleton]; omega) hr' q2 (Nat.le_trans q1 w3) (by omega) b2 (fun l' s2 e r => h1 l' s2 (by rw [hS2]; exact e) r) (fun e => h2 (by rw [hS2]; exact e))
    refine roundedUp7 hp0 (by omega) ⟨⟨by omega, by omega⟩, fun x hx => ?_⟩
    have hx2 : x = ((max ((q + p - 1) / p) (t + 1) : Nat) : Int) := by rw [hx]; omega
    have hM : max ((q + p - 1) / p) (t + 1) < 9000000000000000000 := by
      have := Nat.div_le_self (q + p - 1) p
      omega
    unfold nxt at main
    generalize max ((q + p - 1) / p) (t + 1) = M at hx2 main hM
    rw [hx2]
    have e2 : (M : Int).tmod 2 = ((M % 2 : Nat) : Int) := nm_tmod M 2
    rw [e2]
    cases o with
    | false =>
      rw [if_neg (by simp)] at main
      have h0 : od = 0 := by rw [ho]; rfl
      exact ⟨fun _ => main, fun w => absurd h0 w⟩
    | true =>
      have h0 : od = 1 := by rw [ho]; rfl
      refine ⟨fun w => absurd w (by omega), fun _ => ⟨fun v => ?_, fun v => ⟨⟨by omega, by omega⟩, fun u hu => ?_⟩⟩⟩
      · rw [if_neg (by intro z; exact v (by rw [z.2]; rfl))] at main
        exact main
      · rw [if_pos ⟨rfl, Int.ofNat.inj v⟩] at main
        rw [hu]
        exact main
