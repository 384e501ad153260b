/-! ===== the class's divisors, and which numbers they make ===== -/
theorem addDv0 {Q : (Int → Int) → Int → Prop} {f : Int → Int} {v t n e : Nat} (h1 : 1 ≤ v) (hv : v ≤ 5000) (hr : rep f (dvL v (min t n)).reverse) (he : n < e) (hd : v % e = 0) (hs : ∀ d, n < d → d < e → ¬ v % d = 0)
    (h : ∀ f', rep f' (dvL v (min t e)).reverse → Q f' ((dvL v (min t e)).length : Nat)) : wp_X0_addDivisor Q f ((dvL v (min t n)).length : Nat) e t := by
  unfold wp_X0_addDivisor wp_X0_addDivisor_37
  by_cases ht : t < e
  · have e1 : dvL v (min t e) = dvL v (min t n) := by
      have e2 : min t e = min t n + (min t e - min t n) := by omega
      rw [e2]
      exact dvL_skip _ (fun d d1 d2 => hs d (by omega) (by omega))
    rw [e1] at h
    exact ⟨fun _ => h f hr, fun z => absurd z (by omega)⟩
  · have e1 : dvL v (min t e) = e :: dvL v (min t n) := by
      have e2 : min t e = (e - 1) + 1 := by omega
      have e3 : e - 1 + 1 = e := by omega
      rw [e2, dvL_s, e3, if_pos hd]
      have e4 : e - 1 = min t n + (e - 1 - min t n) := by omega
      rw [e4, dvL_skip _ (fun d d1 d2 => hs d (by omega) (by omega))]
    have hb := dvL_48 (v := v) (n := min t e) h1 hv
    rw [e1, List.length_cons] at hb
    rw [e1] at h
    refine ⟨fun z => absurd z (by omega), fun _ => ⟨fun z => absurd z (by omega), fun _ => ⟨by omega, by omega, ⟨by omega, by omega⟩, fun x hx => ?_⟩⟩⟩
    have ex : x = (((e :: dvL v (min t n)).length : Nat) : Int) := by rw [List.length_cons]; omega
    rw [ex]
    refine h _ ?_
    rw [List.reverse_cons]
    have := rep_add (s := e) hr
    rw [List.length_reverse] at this
    exact this
theorem ld45 {Q : (Int → Int) → Int → Prop} {v t R : Nat} (h1 : 1 ≤ v) (hv : v ≤ 5000) (ht : t ≤ v) (hR : R ≤ v) (h : ∀ f', rep f' (dvL v t).reverse → Q f' ((dvL v t).length : Nat)) :
    ∀ (d : Nat) (f : Int → Int), d ≤ R → rep f (dvL v (min t (max R (v / (d + 1))))).reverse → wp_X0_listDivisors_45 Q (d + 1) f ((dvL v (min t (max R (v / (d + 1))))).length : Nat) v t R d := by
  intro d
  induction d with
  | zero =>
    intro f hd hr
    rw [wp_X0_listDivisors_45]
    have e : min t (max R (v / (0 + 1))) = t := by rw [Nat.zero_add, Nat.div_one]; omega
    rw [e] at hr ⊢
    exact ⟨fun _ => h f hr, fun z => absurd z (by omega)⟩
  | succ d ih =>
    intro f hd hr
    rw [wp_X0_listDivisors_45]
    unfold wp_X0_listDivisors_74
    rw [nm_tmod, nm_tdiv]
    have e0 : ((d + 1 : Nat) : Int) + (-1) = (d : Int) := by omega
    rw [e0]
    have nx := ih
    -- between the bounds there is at most v / (d + 1)
    have hbet : ∀ e, v / (d + 1 + 1) < e → e ≤ v / (d + 1) → v % e = 0 → v % (d + 1) = 0 ∧ e = v / (d + 1) := by
      intro e he1 he2 he3
      obtain ⟨c, hc⟩ := Nat.dvd_of_mod_eq_zero he3
      have k1 : v < e * (d + 1 + 1) := by rw [Nat.div_lt_iff_lt_mul (by omega)] at he1; exact he1
      have k2 : e * (d + 1) ≤ v := (Nat.le_div_iff_mul_le (by omega)).mp he2
      have hepos : 0 < e := Nat.lt_of_le_of_lt (Nat.zero_le _) he1
      rw [hc] at k1 k2
      have k3 := Nat.lt_of_mul_lt_mul_left k1
      have k4 := Nat.le_of_mul_le_mul_left k2 hepos
      have k5 : c = d + 1 := by omega
      subst k5
      refine ⟨by rw [hc]; exact Nat.mul_mod_left _ _, ?_⟩
      rw [hc, Nat.mul_div_cancel e (by omega)]
    have hmono : v / (d + 1 + 1) ≤ v / (d + 1) := Nat.div_le_div_left (by omega) (by omega)
    have same : (∀ e, max R (v / (d + 1 + 1)) < e → e ≤ max R (v / (d + 1)) → ¬ v % e = 0) → wp_X0_listDivisors_45 Q (d + 1) f ((dvL v (min t (max R (v / (d + 1 + 1))))).length : Nat) v t R d := by
      intro hs
      have e1 : dvL v (min t (max R (v / (d + 1)))) = dvL v (min t (max R (v / (d + 1 + 1)))) := by
        have e2 : min t (max R (v / (d + 1))) = min t (max R (v / (d + 1 + 1))) + (min t (max R (v / (d + 1))) - min t (max R (v / (d + 1 + 1)))) := by omega
        rw [e2]
        exact dvL_skip _ (fun x x1 x2 => hs x (by omega) (by omega))
      have := nx f (by omega)
      rw [e1] at this
      exact this hr
    refine ⟨fun z => absurd z (by omega), fun _ => ⟨by omega, fun z => ⟨⟨by omega, by omega⟩, same (fun e a b c => ?_)⟩, fun z => ⟨by omega, fun w => ⟨⟨by omega, by omega⟩, same (fun e a b c => ?_)⟩, fun w => ⟨by omega, ?_⟩⟩⟩⟩
    · have := (hbet e (by omega) (by omega) c).1
      exact z (by rw [this]; rfl)
    · have h3 := Int.ofNat_le.mp w
      omega
    · have h3 : R < v / (d + 1) := by
        have : ¬ v / (d + 1) ≤ R := fun u => w (Int.ofNat_le.mpr u)
        omega
      have hdv : v % (d + 1) = 0 := Int.ofNat.inj z
      obtain ⟨c, hc⟩ := Nat.dvd_of_mod_eq_zero hdv
      have ec : v / (d + 1) = c := by rw [hc, Nat.mul_div_cancel_left c (by omega)]
      have hlt : v / (d + 1 + 1) < c := by
        rw [Nat.div_lt_iff_lt_mul (by omega), hc]
        have : c * (d + 1 + 1) = (d + 1) * c + c := by grind
        omega
      have hmod : v % (v / (d + 1)) = 0 := by rw [ec]; rw [hc]; exact Nat.mul_mod_left _ _
      refine addDv0 (t := t) (n := max R (v / (d + 1 + 1))) (e := v / (d + 1)) h1 hv hr (by omega) hmod (fun x x1 x2 x3 => ?_) (fun f' hr' => ⟨⟨by omega, by omega⟩, ?_⟩)
      · have := (hbet x (by omega) (by omega) x3).2
        omega
      · have e5 : max R (v / (d + 1)) = v / (d + 1) := by omega
        have := nx f' (by omega)
        rw [e5] at this
        exact this hr'
theorem ld10 {Q : (Int → Int) → Int → Prop} {v t : Nat} (h1 : 1 ≤ v) (hv : v ≤ 5000) (ht : t ≤ v) (h : ∀ f', rep f' (dvL v t).reverse → Q f' ((dvL v t).length : Nat)) :
    ∀ (k d : Nat) (f : Int → Int), d + k = v → rep f (dvL v (min t d)).reverse → wp_X0_listDivisors_10 Q (k + 1) f ((dvL v (min t d)).length : Nat) v t d ((d + 1 : Nat) : Int) := by
  intro k
  have ex : ∀ (d : Nat) (f : Int → Int), d ≤ v → v / (d + 1) < d + 1 → rep f (dvL v (min t d)).reverse → ∃ n0 : Nat, wp_X0_listDivisors_45 Q n0 f ((dvL v (min t d)).length : Nat) v t d d := by
    intro d f hd hlt hr
    have e : max d (v / (d + 1)) = d := by omega
    have := ld45 (Q := Q) (R := d) h1 hv ht hd h d f (Nat.le_refl _)
    rw [e] at this
    exact ⟨d + 1, this hr⟩
  induction k with
  | zero =>
    intro d f hd hr
    rw [wp_X0_listDivisors_10, nm_tdiv]
    have hlt : v / (d + 1) < d + 1 := by
      have := Nat.div_le_self v (d + 1)
      omega
    exact ⟨by omega, fun _ => ex d f (by omega) hlt hr, fun z => absurd (Int.ofNat_lt.mpr hlt) z⟩
  | succ k ih =>
    intro d f hd hr
    rw [wp_X0_listDivisors_10, nm_tdiv, nm_tmod]
    unfold wp_X0_listDivisors_36
    have e1 : ((d + 1 : Nat) : Int) + 1 = ((d + 1 + 1 : Nat) : Int) := rfl
    rw [e1]
    refine ⟨by omega, fun z => ex d f (by omega) (Int.ofNat_lt.mp z) hr, fun z => ⟨by omega, fun w => ⟨⟨by omega, by omega⟩, ?_⟩, fun w => ?_⟩⟩
    · have hno : ¬ v % (d + 1) = 0 := fun u => w (by rw [u]; rfl)
      have e2 : dvL v (min t (d + 1)) = dvL v (min t d) := by
        have e3 : min t (d + 1) = min t d + (min t (d + 1) - min t d) := by omega
        rw [e3]
        refine dvL_skip _ (fun x x1 x2 => ?_)
        have : x = d + 1 := by omega
        rw [this]; exact hno
      have := ih (d + 1) f (by omega)
      rw [e2] at this
      exact this hr
    · exact addDv0 (t := t) (n := d) (e := d + 1) h1 hv hr (by omega) (Int.ofNat.inj w) (fun x x1 x2 => by omega) (fun f' hr' => ⟨⟨by omega, by omega⟩, ih (d + 1) f' (by omega) hr'⟩)
theorem listDivisors0 {Q : (Int → Int) → Int → Prop} {v t : Nat} {f : Int → Int} {n : Int} (h1 : 1 ≤ v) (hv : v ≤ 5000) (ht : t ≤ v) (h : ∀ f', rep f' (dvL v t).reverse → Q f' ((dvL v t).length : Nat)) : wp_X0_listDivisors Q f n v t := by
  refine ⟨v + 1, ?_⟩
  have e : dvL v (min t 0) = [] := by rw [Nat.min_zero]; rfl
  have := ld10 (Q := Q) h1 hv ht h v 0 f (by omega) (by rw [e]; exact rep_nil f)
  rw [e] at this
  exact this
theorem fillI {Q : (Int → Int) → Prop} {z : Nat} {v : Int} (hz : z < 2147483647) (h : ∀ f, (∀ j : Nat, j < z → f j = v) → Q f) : ∀ f, wp_J7_fill_53178 Q z f v := by
  intro f x hx
  have loop : ∀ (k j : Nat) (f : Int → Int), j + k = z → (∀ i : Nat, i < j → f i = v) → wp_J7_fill_53178_5 Q z (k + 1) f v j z := by
    intro k
    induction k with
    | zero =>
      intro j f hj hf
      rw [wp_J7_fill_53178_5]
      exact ⟨fun _ => h f (fun i hi => hf i (by omega)), fun w => absurd w (by omega)⟩
    | succ k ih =>
      intro j f hj hf
      rw [wp_J7_fill_53178_5]
      have e : (j : Int) + 1 = ((j + 1 : Nat) : Int) := rfl
      rw [e]
      refine ⟨fun w => absurd w (by omega), fun _ => ⟨by omega, by omega, ⟨by omega, by omega⟩, ih (j + 1) _ (by omega) (fun i hi => ?_)⟩⟩
      by_cases ei : i = j
      · rw [ei, ups_s]
      · rw [ups_n (by omega)]; exact hf i (by omega)
  rw [hx]
  exact ⟨z + 1, loop z 0 f (by omega) (fun i hi => by omega)⟩
theorem fillL {Q : (Int → Int) → Prop} {z : Nat} {v : Int} (hz : z < 2147483647) (h : ∀ f, (∀ j : Nat, j < z → f j = v) → Q f) : ∀ f, wp_J7_fill_d0a16 Q z f v := by
  intro f x hx
  have loop : ∀ (k j : Nat) (f : Int → Int), j + k = z → (∀ i : Nat, i < j → f i = v) → wp_J7_fill_d0a16_6 Q z (k + 1) f v j z := by
    intro k
    induction k with
    | zero =>
      intro j f hj hf
      rw [wp_J7_fill_d0a16_6]
      exact ⟨fun _ => h f (fun i hi => hf i (by omega)), fun w => absurd w (by omega)⟩
    | succ k ih =>
      intro j f hj hf
      rw [wp_J7_fill_d0a16_6]
      have e : (j : Int) + 1 = ((j + 1 : Nat) : Int) := rfl
      rw [e]
      refine ⟨fun w => absurd w (by omega), fun _ => ⟨by omega, by omega, ⟨by omega, by omega⟩, ih (j + 1) _ (by omega) (fun i hi => ?_)⟩⟩
      by_cases ei : i = j
      · rw [ei, ups_s]
      · rw [ups_n (by omega)]; exact hf i (by omega)
  rw [hx]
  exact ⟨z + 1, loop z 0 f (by omega) (fun i hi => by omega)⟩
