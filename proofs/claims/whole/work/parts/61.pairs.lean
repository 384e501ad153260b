/-! ===== pairs: d = p a - q runs over the divisors of q q below q ===== -/
abbrev isP (p q d : Nat) : Prop := 1 ≤ d ∧ q * q % d = 0 ∧ (q + d) % p = 0 ∧ (q + q * q / d) % p = 0
def DLn (p q n : Nat) : List Nat := (List.range n).filter (fun d => decide (isP p q d))
theorem DLn_s {p q n : Nat} : DLn p q (n + 1) = DLn p q n ++ (if isP p q n then [n] else []) := by
  unfold DLn
  rw [List.range_succ, List.filter_append]
  by_cases h : isP p q n
  · simp [List.filter_cons, h]
  · simp [List.filter_cons, h]
theorem DLn_skip {p q n : Nat} : ∀ k, (∀ d, n ≤ d → d < n + k → ¬ isP p q d) → DLn p q (n + k) = DLn p q n := by
  intro k
  induction k with
  | zero => intro _; rfl
  | succ k ih =>
    intro h
    rw [← Nat.add_assoc, DLn_s, if_neg (h (n + k) (by omega) (by omega)), List.append_nil, ih (fun d h1 h2 => h d h1 (by omega))]
theorem DLn_mem {p q n d : Nat} (h : d ∈ DLn p q n) : d < n ∧ isP p q d := by
  obtain ⟨h1, h2⟩ := List.mem_filter.mp h
  exact ⟨List.mem_range.mp h1, of_decide_eq_true h2⟩
theorem DLn_nodup {p q n : Nat} : (DLn p q n).Nodup := List.Pairwise.filter _ List.nodup_range
theorem DLn_202 {p q n : Nat} (hq1 : 1 ≤ q) (hq : q ≤ 5000) (hn : n ≤ q) : (DLn p q n).length ≤ 202 :=
  sq_202 hq1 hq DLn_nodup (fun d hd => ⟨by have := (DLn_mem hd).1; omega, Nat.dvd_of_mod_eq_zero (DLn_mem hd).2.2.1⟩)
theorem pair_eq {p q a d : Nat} (hp : 1 ≤ p) (hd : 1 ≤ d) (h : q + d = p * a) : (q * a % d = 0 ↔ isP p q d) ∧ (isP p q d → (q + q * q / d) / p = q * a / d) := by
  have e0 : (q + d) % p = 0 := by rw [h]; exact Nat.mul_mod_right p a
  have key : isP p q d → q * a = d * ((q + q * q / d) / p) := by
    intro hP
    obtain ⟨e, he⟩ := Nat.dvd_of_mod_eq_zero hP.2.1
    have h4 := hP.2.2.2
    rw [he, Nat.mul_div_cancel_left e hd] at h4 ⊢
    obtain ⟨c, hc⟩ := Nat.dvd_of_mod_eq_zero h4
    rw [hc, Nat.mul_div_cancel_left c hp]
    refine Nat.eq_of_mul_eq_mul_left hp ?_
    have e1 : p * (q * a) = q * (p * a) := by grind
    have e2 : p * (d * c) = d * (p * c) := by grind
    rw [e1, e2, ← h, ← hc, Nat.mul_add, Nat.mul_add, he, Nat.mul_comm d q]
    omega
  refine ⟨⟨fun hm => ?_, fun hP => ?_⟩, fun hP => ?_⟩
  · obtain ⟨c, hc⟩ := Nat.dvd_of_mod_eq_zero hm
    have h1 : q * q + q * d = d * (p * c) := by
      have e1 : q * (p * a) = p * (q * a) := by grind
      rw [← Nat.mul_add, h, e1, hc]
      grind
    have h2 : d ∣ q * q := by
      have h3 : d ∣ q * q + q * d := ⟨p * c, h1⟩
      exact (Nat.dvd_add_left (Nat.dvd_mul_left d q)).mp h3
    obtain ⟨e, he⟩ := h2
    refine ⟨hd, Nat.mod_eq_zero_of_dvd ⟨e, he⟩, e0, ?_⟩
    rw [he, Nat.mul_div_cancel_left e hd]
    refine Nat.mod_eq_zero_of_dvd ⟨c, ?_⟩
    rw [he] at h1
    refine Nat.eq_of_mul_eq_mul_left hd ?_
    rw [← h1, Nat.mul_add, Nat.mul_comm d q]
    omega
  · rw [key hP]; exact Nat.mul_mod_right d _
  · rw [key hP, Nat.mul_div_cancel_left _ hd]
/-- between two multiples there is none -/
theorem no_mul {p q a d : Nat} (hp : 1 ≤ p) (h1 : p * a < q + d) (h2 : q + d < p * (a + 1)) : ¬ isP p q d := by
  intro hP
  obtain ⟨x, hx⟩ := Nat.dvd_of_mod_eq_zero hP.2.2.1
  rw [hx] at h1 h2
  have h3 := Nat.lt_of_mul_lt_mul_left h1
  have h4 := Nat.lt_of_mul_lt_mul_left h2
  omega
theorem fp12 {Q : (Int → Int) → Int → Prop} {p q : Nat} (hp : 1 ≤ p) (hpq : p < q) (hq : q ≤ 5000)
    (h : ∀ f, rep f ((DLn p q q).map (fun d => (q + d) / p)) → Q f ((DLn p q q).length : Nat)) :
    ∀ (k a : Nat) (f : Int → Int), 2 * q ≤ a + k → q < p * a → p * a < 3 * q → rep f ((DLn p q (min q (p * a - q))).map (fun d => (q + d) / p)) → wp_X5_findPairs_12 Q (k + 1) f ((DLn p q (min q (p * a - q))).length : Nat) p q a := by
  intro k
  induction k with
  | zero =>
    intro a f hk h1 h2 hr
    rw [wp_X5_findPairs_12]
    have h3 : a ≤ p * a := Nat.le_mul_of_pos_left a hp
    have c1 : (p : Int) * (a : Int) = ((p * a : Nat) : Int) := rfl
    rw [c1]
    have e : min q (p * a - q) = q := by omega
    rw [e] at hr ⊢
    generalize p * a = z at *
    exact ⟨⟨by omega, by omega⟩, ⟨by omega, by omega⟩, fun _ => h f hr, fun w => absurd w (by omega)⟩
  | succ k ih =>
    intro a f hk h1 h2 hr
    rw [wp_X5_findPairs_12]
    unfold wp_X5_findPairs_65
    have h3 : a ≤ p * a := Nat.le_mul_of_pos_left a hp
    have c1 : (p : Int) * (a : Int) = ((p * a : Nat) : Int) := rfl
    have c2 : (q : Int) * (a : Int) = ((q * a : Nat) : Int) := rfl
    have c3 : (a : Int) + 1 = ((a + 1 : Nat) : Int) := rfl
    rw [c1, c2, c3]
    refine ⟨⟨by omega, by omega⟩, ⟨by omega, by omega⟩, fun w => ?_, fun w => ?_⟩
    · have e : min q (p * a - q) = q := by omega
      rw [e] at hr ⊢
      exact h f hr
    · have hlt : p * a < 2 * q := by omega
      have hqa : q * a ≤ 5000 * 10000 := Nat.mul_le_mul hq (by omega)
      have e1 : min q (p * a - q) = p * a - q := by omega
      have hd1 : 1 ≤ p * a - q := by omega
      have hPE := (pair_eq (p := p) (q := q) (a := a) (d := p * a - q) hp hd1 (by omega)).1
      have e2 : p * (a + 1) = p * a + p := Nat.mul_succ p a
      have e3 : DLn p q (min q (p * (a + 1) - q)) = DLn p q (p * a - q) ++ (if isP p q (p * a - q) then [p * a - q] else []) := by
        rw [← DLn_s]
        have h5 : min q (p * (a + 1) - q) = (p * a - q + 1) + (min q (p * (a + 1) - q) - (p * a - q + 1)) := by omega
        rw [h5]
        exact DLn_skip _ (fun d d1 d2 => no_mul (a := a) hp (by omega) (by omega))
      have nx := ih (a + 1)
      rw [e3, e2] at nx
      rw [e1] at hr ⊢
      have e4 : ((p * a : Nat) : Int) - (q : Int) = ((p * a - q : Nat) : Int) := by omega
      rw [e4, nm_tmod]
      refine ⟨⟨by omega, by omega⟩, ⟨by omega, by omega⟩, ⟨by omega, by omega⟩, by omega, fun y => ⟨⟨by omega, by omega⟩, ?_⟩, fun y => ?_⟩
      · have hno : ¬ isP p q (p * a - q) := fun z => y (by rw [hPE.mpr z]; rfl)
        rw [if_neg hno, List.append_nil] at nx
        exact nx f (by omega) (by omega) (by omega) hr
      · have hyes : isP p q (p * a - q) := hPE.mp (by omega)
        rw [if_pos hyes] at nx
        have hb : (DLn p q (p * a - q + 1)).length ≤ 202 := DLn_202 (by omega) hq (by omega)
        rw [DLn_s, if_pos hyes, List.length_append, List.length_singleton] at hb
        refine ⟨fun z => absurd z (by omega), fun _ => ⟨by omega, by omega, ⟨by omega, by omega⟩, fun x hx => ⟨⟨by omega, by omega⟩, ?_⟩⟩⟩
        have ex : x = ((((DLn p q (p * a - q)) ++ [p * a - q]).length : Nat) : Int) := by
          rw [List.length_append, List.length_singleton]; omega
        rw [ex]
        refine nx _ (by omega) (by omega) (by omega) ?_
        rw [List.map_append, List.map_singleton]
        have e5 : (q + (p * a - q)) / p = a := by
          have : q + (p * a - q) = p * a := by omega
          rw [this, Nat.mul_div_cancel_left a hp]
        rw [e5]
        have := rep_add (s := a) hr
        rw [List.length_map] at this
        exact this
theorem findPairs5 {Q : (Int → Int) → Int → Prop} {p q : Nat} {f : Int → Int} (hp : 1 ≤ p) (hpq : p < q) (hq : q ≤ 5000)
    (h : ∀ f, rep f ((DLn p q q).map (fun d => (q + d) / p)) → Q f ((DLn p q q).length : Nat)) : wp_X5_findPairs Q f 0 p q := by
  unfold wp_X5_findPairs
  rw [nm_tdiv]
  have hb := Nat.div_le_self q p
  have hm := Nat.div_add_mod q p
  have hl := Nat.mod_lt q (show 0 < p by omega)
  generalize q % p = rr at hm hl
  generalize q / p = cc at hb hm ⊢
  refine ⟨fun _ => ⟨by omega, ⟨by omega, by omega⟩, fun x hx => ⟨2 * q + 1, ?_⟩⟩, fun z => absurd z (by omega)⟩
  have ex : x = ((cc + 1 : Nat) : Int) := by omega
  have e2 : p * (cc + 1) = p * cc + p := Nat.mul_succ p _
  have e0 : DLn p q (min q (p * (cc + 1) - q)) = [] := by
    have := DLn_skip (p := p) (q := q) (n := 0) (min q (p * (cc + 1) - q)) (fun d d1 d2 => by
      rcases Nat.eq_zero_or_pos d with z | z
      · intro hP; have := hP.1; omega
      · exact no_mul (a := cc) hp (by omega) (by omega))
    rw [Nat.zero_add] at this
    rw [this]
    rfl
  have := fp12 (Q := Q) hp hpq hq h (2 * q) (cc + 1) f (by omega) (by omega) (by omega) (by rw [e0]; exact rep_nil f)
  rw [e0] at this
  rw [ex]
  exact this
def TI (f : Int → Int) (n lp lq : Int) : Prop := ∀ p q : Nat, 1 ≤ p → p < q → q ≤ 5000 → lp = p → lq = q → n = ((DLn p q q).length : Nat) ∧ rep f ((DLn p q q).map (fun d => (q + d) / p))
theorem TI_mk {f : Int → Int} {p q : Nat} (h : rep f ((DLn p q q).map (fun d => (q + d) / p))) : TI f ((DLn p q q).length : Nat) p q := by
  intro p' q' _ _ _ e1 e2
  have e3 : p' = p := by omega
  have e4 : q' = q := by omega
  subst e3 e4
  exact ⟨rfl, h⟩
theorem list5 {Q : Int → (Int → Int) → Int → Int → Int → Prop} {p q : Nat} {f : Int → Int} {n lp lq : Int} (hT : TI f n lp lq) (hp : 1 ≤ p) (hpq : p < q) (hq : q ≤ 5000)
    (h : ∀ f, rep f ((DLn p q q).map (fun d => (q + d) / p)) → Q ((DLn p q q).length : Nat) f ((DLn p q q).length : Nat) p q) : wp_X5_list Q f n lp lq p q := by
  unfold wp_X5_list wp_X5_list_16 wp_X5_list_37
  refine ⟨fun _ => findPairs5 hp hpq hq h, fun e1 => ⟨fun e2 => ?_, fun _ => findPairs5 hp hpq hq h⟩⟩
  obtain ⟨h1, h2⟩ := hT p q hp hpq hq e1.symm e2.symm
  rw [← e1, ← e2, h1]
  exact h f h2
theorem fpr6 {Q : Int → Int → Int → Prop} {p q : Nat} {t : Int} (hp : 1 ≤ p) (hpq : p < q) (hq : q ≤ 5000)
    (h : ∀ one two : Int, (∀ (i v : Nat), t = i → (DLn p q q)[i]? = some v → one = ((q + v) / p : Nat) ∧ two = ((q + q * q / v) / p : Nat)) → Q ((DLn p q q).length : Nat) one two) :
    ∀ (k d : Nat) (one two : Int), d + k = q → 1 ≤ d → (∀ (i v : Nat), t = i → (DLn p q d)[i]? = some v → one = ((q + v) / p : Nat) ∧ two = ((q + q * q / v) / p : Nat)) → wp_X8_findPairs_6 Q (k + 1) one two p q t ((DLn p q d).length : Nat) d := by
  intro k
  induction k with
  | zero =>
    intro d one two hd h1 hi
    have e : d = q := by omega
    subst e
    rw [wp_X8_findPairs_6]
    exact ⟨fun _ => h one two hi, fun z => absurd z (by omega)⟩
  | succ k ih =>
    intro d one two hd h1 hi
    rw [wp_X8_findPairs_6]
    unfold wp_X8_findPairs_54 wp_X8_findPairs_55 wp_X8_findPairs_93 wp_X8_findPairs_105
    have c1 : (q : Int) * (q : Int) = ((q * q : Nat) : Int) := rfl
    have c2 : (q : Int) + (d : Int) = ((q + d : Nat) : Int) := rfl
    have c3 : (q : Int) + ((q * q / d : Nat) : Int) = ((q + q * q / d : Nat) : Int) := rfl
    rw [c1, c2]
    rw [nm_tmod (q * q) d, nm_tmod (q + d) p, nm_tdiv (q * q) d, nm_tdiv (q + d) p, c3, nm_tmod (q + q * q / d) p, nm_tdiv (q + q * q / d) p]
    have hqq : q * q ≤ 5000 * 5000 := Nat.mul_le_mul hq hq
    have hqd : q * q / d ≤ q * q := Nat.div_le_self _ _
    have hlen : (DLn p q d).length ≤ 202 := DLn_202 (by omega) hq (by omega)
    have hR : r64 ((q + q * q / d : Nat) : Int) := by
      generalize q * q / d = z at hqd ⊢
      generalize q * q = y at hqq hqd
      exact ⟨by omega, by omega⟩
    have nx := ih (d + 1)
    rw [DLn_s] at nx
    have no : ¬ isP p q d → wp_X8_findPairs_6 Q (k + 1) one two p q t ((DLn p q d).length : Nat) ((d + 1 : Nat) : Int) := by
      intro hno
      rw [if_neg hno, List.append_nil] at nx
      exact nx one two (by omega) (by omega) hi
    have yes : ∀ one' two' : Int, isP p q d → (∀ (i v : Nat), t = i → (DLn p q d ++ [d])[i]? = some v → one' = ((q + v) / p : Nat) ∧ two' = ((q + q * q / v) / p : Nat)) → wp_X8_findPairs_6 Q (k + 1) one' two' p q t (((DLn p q d).length + 1 : Nat) : Int) ((d + 1 : Nat) : Int) := by
      intro one' two' hy hi'
      rw [if_pos hy] at nx
      have := nx one' two' (by omega) (by omega) hi'
      rw [List.length_append, List.length_singleton] at this
      exact this
    have fin0 : ¬ isP p q d → (((0 : Int) = 0 → r32 (((DLn p q d).length : Nat) + 0) ∧ ∀ x : Int, x = ((DLn p q d).length : Nat) + 0 → r64 ((d : Int) + 1) ∧ ∀ y : Int, y = (d : Int) + 1 → wp_X8_findPairs_6 Q (k + 1) one two p q t x y) ∧ (¬ (0 : Int) = 0 → r32 (((DLn p q d).length : Nat) + 1) ∧ ∀ x : Int, x = ((DLn p q d).length : Nat) + 1 → r64 ((d : Int) + 1) ∧ ∀ y : Int, y = (d : Int) + 1 → wp_X8_findPairs_6 Q (k + 1) one two p q t x y)) := by
      intro hno
      refine ⟨fun _ => ⟨⟨by omega, by omega⟩, fun x hx => ⟨⟨by omega, by omega⟩, fun y hy => ?_⟩⟩, fun z => absurd rfl z⟩
      have ex : x = ((DLn p q d).length : Nat) := by omega
      have ey : y = ((d + 1 : Nat) : Int) := by omega
      rw [ex, ey]
      exact no hno
    refine ⟨fun z => absurd z (by omega), fun _ => ⟨⟨by omega, by omega⟩, by omega, fun z => ⟨fun _ => fin0 (fun w => z (by rw [w.2.1]; rfl)), fun y => absurd rfl y⟩, fun z => ⟨⟨by omega, by omega⟩, by omega, fun y => ⟨fun _ => fin0 (fun w => y (by rw [w.2.2.1]; rfl)), fun y => absurd rfl y⟩, fun y => ⟨⟨by omega, by omega⟩, by omega, hR, by omega, fun u => ⟨fun _ => fin0 (fun w => u (by rw [w.2.2.2]; rfl)), fun y => absurd rfl y⟩, fun u => ⟨fun w => absurd w (by omega), fun _ => ⟨fun w => ⟨fun w => absurd w (by omega), fun _ => ⟨⟨by omega, by omega⟩, fun x hx => ⟨⟨by omega, by omega⟩, fun y hy => ?_⟩⟩⟩, fun w => ⟨⟨by omega, by omega⟩, by omega, fun o1 ho1 => ⟨⟨by omega, by omega⟩, by omega, hR, by omega, fun o2 ho2 => ⟨fun w => absurd w (by omega), fun _ => ⟨⟨by omega, by omega⟩, fun x hx => ⟨⟨by omega, by omega⟩, fun y hy => ?_⟩⟩⟩⟩⟩⟩⟩⟩⟩⟩⟩
    · have hP : isP p q d := ⟨h1, Int.ofNat.inj z, by omega, Int.ofNat.inj u⟩
      have ex : x = (((DLn p q d).length + 1 : Nat) : Int) := by omega
      have ey : y = ((d + 1 : Nat) : Int) := by omega
      rw [ex, ey]
      refine yes one two hP (fun i v hti hv => ?_)
      have hne : i ≠ (DLn p q d).length := by omega
      rcases Nat.lt_or_ge i (DLn p q d).length with w1 | w1
      · rw [List.getElem?_append_left w1] at hv
        exact hi i v hti hv
      · rw [List.getElem?_eq_none (by rw [List.length_append, List.length_singleton]; omega)] at hv
        exact absurd hv (by simp)
    · have hP : isP p q d := ⟨h1, Int.ofNat.inj z, by omega, Int.ofNat.inj u⟩
      have ex : x = (((DLn p q d).length + 1 : Nat) : Int) := by omega
      have ey : y = ((d + 1 : Nat) : Int) := by omega
      rw [ex, ey]
      refine yes o1 o2 hP (fun i v hti hv => ?_)
      have hieq : i = (DLn p q d).length := by omega
      subst hieq
      rw [List.getElem?_append_right (Nat.le_refl _), Nat.sub_self] at hv
      have hv2 : d = v := by simpa using hv
      subst hv2
      exact ⟨ho1, ho2⟩
theorem findPairs8 {Q : Int → Int → Int → Prop} {p q : Nat} {t one two : Int} (hp : 1 ≤ p) (hpq : p < q) (hq : q ≤ 5000)
    (h : ∀ one two : Int, (∀ (i v : Nat), t = i → (DLn p q q)[i]? = some v → one = ((q + v) / p : Nat) ∧ two = ((q + q * q / v) / p : Nat)) → Q ((DLn p q q).length : Nat) one two) : wp_X8_findPairs Q one two p q t := by
  have e0 : DLn p q 1 = [] := by
    have e1 : DLn p q 1 = DLn p q 0 ++ (if isP p q 0 then [0] else []) := DLn_s
    rw [e1, if_neg (fun z => by have := z.1; omega)]
    rfl
  refine ⟨q - 1 + 1, ?_⟩
  have := fpr6 (Q := Q) (t := t) hp hpq hq h (q - 1) 1 one two (by omega) (by omega) (fun i v _ hv => by rw [e0] at hv; simp at hv)
  rw [e0] at this
  exact this
