/-! ===== roads: a row of shares as a list; the road of rising factors ===== -/
def rep (f : Int → Int) (l : List Nat) : Prop := ∀ (i : Nat) (v : Nat), l[i]? = some v → f i = v
theorem rep_nil (f : Int → Int) : rep f [] := fun i v h => by simp at h
theorem rep_add {f : Int → Int} {l : List Nat} {s : Nat} (h : rep f l) : rep (ups f (l.length : Nat) s) (l ++ [s]) := by
  intro i v hv
  by_cases e : i < l.length
  · rw [List.getElem?_append_left e] at hv
    rw [ups_n (by omega)]
    exact h i v hv
  · rw [List.getElem?_append_right (by omega)] at hv
    have h1 : i - l.length < 1 := (List.getElem?_eq_some_iff.mp hv).1
    have h2 : i = l.length := by omega
    subst h2
    rw [Nat.sub_self] at hv
    have h3 : s = v := by simpa using hv
    rw [ups_s, h3]
theorem add3 {Q : Int → (Int → Int) → Int → Prop} {sh : Int → Int} {l : List Nat} {s : Nat} (hr : rep sh l) (h1 : l.length < 16 → s ≤ 1000000000000 → ∀ sh', rep sh' (l ++ [s]) → Q 1 sh' ((l ++ [s]).length : Nat)) (h2 : ¬ (l.length < 16 ∧ s ≤ 1000000000000) → ∀ sh' v, Q 0 sh' v) : wp_X3_add Q sh (l.length : Nat) s := by
  unfold wp_X3_add wp_X3_add_27
  refine ⟨fun z => absurd z (by omega), fun _ => ⟨fun z => h2 (by omega) _ _, fun z => ⟨fun y => ⟨by omega, by omega, ⟨by omega, by omega⟩, fun x hx => ?_⟩, fun y => h2 (by omega) _ _⟩⟩⟩
  have := h1 (by omega) (by omega) _ (rep_add hr)
  rw [List.length_append, List.length_singleton] at this
  have e : x = ((l.length + 1 : Nat) : Int) := by omega
  rw [e]
  exact this
theorem put8 {Q : Int → (Int → Int) → Int → Prop} {row : Int → Int} {l : List Nat} {s : Nat} (hr : rep row l) (hl : l.length ≤ 16) (h1 : l.length < 16 → s ≤ 1000000000000 → ∀ row', rep row' (l ++ [s]) → Q ((l ++ [s]).length : Nat) row' 0) (h2 : ¬ (l.length < 16 ∧ s ≤ 1000000000000) → Q (l.length : Nat) row 1) : wp_X8_put Q (l.length : Nat) row 0 s := by
  unfold wp_X8_put wp_X8_put_25 wp_X8_put_30 wp_X8_put_60
  have k2 : ¬ (l.length < 16 ∧ s ≤ 1000000000000) → ((1 : Int) = 0 ∨ (1 : Int) = 1) ∧ ((¬ (1 : Int) = 0 → Q (l.length : Nat) row 1) ∧ ((1 : Int) = 0 → 0 ≤ ((l.length : Nat) : Int) ∧ ((l.length : Nat) : Int) < 17 ∧ r32 (((l.length : Nat) : Int) + 1) ∧ ∀ x57 : Int, x57 = ((l.length : Nat) : Int) + 1 → Q x57 (ups row (l.length : Nat) s) 1)) := fun z => ⟨Or.inr rfl, fun _ => h2 z, fun y => absurd y (by omega)⟩
  refine ⟨fun z => absurd rfl z, fun _ => ⟨fun z => k2 (by omega), fun z => ⟨fun y => ⟨Or.inl rfl, fun w => absurd rfl w, fun _ => ⟨by omega, by omega, ⟨by omega, by omega⟩, fun x hx => ?_⟩⟩, fun y => k2 (by omega)⟩⟩⟩
  have := h1 (by omega) (by omega) _ (rep_add hr)
  rw [List.length_append, List.length_singleton] at this
  have e : x = ((l.length + 1 : Nat) : Int) := by omega
  rw [e]
  exact this
/-- the road of factors: what is told, or nothing if it is spent -/
def factL (q : Nat) : Nat → Nat → Nat → List Nat → Option (List Nat)
  | 0, _, _, _ => none
  | f + 1, p, m, l => if p = 0 then some l else if 16 ≤ l.length then none else
      if 1000000000000 < m * ((q + p - 1) / p) then none else factL q f ((q + p - 1) / p * p - q) (m * ((q + p - 1) / p)) (l ++ [m * ((q + p - 1) / p)])
theorem ceil_ge {q p : Nat} (hp : 0 < p) : q ≤ (q + p - 1) / p * p ∧ (q + p - 1) / p * p < q + p := by
  have h1 := Nat.div_add_mod (q + p - 1) p
  have h2 := Nat.mod_lt (q + p - 1) hp
  rw [Nat.mul_comm] at h1
  omega
theorem factL_0 {q f m : Nat} {l : List Nat} : factL q (f + 1) 0 m l = some l := by rw [factL, if_pos rfl]
theorem factL_16 {q f p m : Nat} {l : List Nat} (hp : ¬ p = 0) (h : 16 ≤ l.length) : factL q (f + 1) p m l = none := by rw [factL, if_neg hp, if_pos h]
theorem factL_G {q f p m : Nat} {l : List Nat} (hp : ¬ p = 0) (h : ¬ 16 ≤ l.length) (hg : 1000000000000 < m * ((q + p - 1) / p)) : factL q (f + 1) p m l = none := by rw [factL, if_neg hp, if_neg h, if_pos hg]
theorem factL_s {q f p m : Nat} {l : List Nat} (hp : ¬ p = 0) (h : ¬ 16 ≤ l.length) (hg : ¬ 1000000000000 < m * ((q + p - 1) / p)) : factL q (f + 1) p m l = factL q f ((q + p - 1) / p * p - q) (m * ((q + p - 1) / p)) (l ++ [m * ((q + p - 1) / p)]) := by rw [factL, if_neg hp, if_neg h, if_neg hg]
theorem byFactors3 {Q : Int → (Int → Int) → Int → Prop} {q : Nat} (hq : 0 < q) (hq2 : q ≤ 1000000) : ∀ (f p m : Nat) (l : List Nat) (sh : Int → Int), f + l.length = 17 → l.length ≤ 16 → rep sh l → p < q → 1 ≤ m → m ≤ 1000000000000 →
    (∀ l' sh', factL q f p m l = some l' → rep sh' l' → Q 1 sh' (l'.length : Nat)) → (factL q f p m l = none → ∀ sh' v, Q 0 sh' v) → wp_X3_byFactors_9 Q f sh (l.length : Nat) q p m (l.length : Nat) := by
  intro f
  induction f with
  | zero => intro p m l sh hf hl; exact absurd hf (by omega)
  | succ f ih =>
    intro p m l sh hf hl hr hp hm hm2 h1 h2
    rw [wp_X3_byFactors_9]
    have k85 : (16 ≤ l.length ∨ p = 0) → wp_X3_byFactors_85 Q sh (l.length : Nat) p := by
      intro hh
      unfold wp_X3_byFactors_85 wp_X3_byFactors_97
      refine ⟨fun z => ⟨Or.inl rfl, h2 (factL_16 (by omega) (by omega)) _ _⟩, fun z => ⟨Or.inr rfl, ?_⟩⟩
      have : p = 0 := by omega
      subst this
      exact h1 l sh factL_0 hr
    refine ⟨fun z => k85 (Or.inl (by omega)), fun z => ⟨fun y => k85 (Or.inr (by omega)), fun y => ?_⟩⟩
    have hp0 : 0 < p := by omega
    refine roundedUp7 hp0 (by omega) ?_
    have hc := ceil_ge (q := q) hp0
    have ha1 : 1 ≤ (q + p - 1) / p := (Nat.le_div_iff_mul_le hp0).mpr (by omega)
    have hS := @factL_s q f p m l (by omega) (by omega)
    have hG := @factL_G q f p m l (by omega) (by omega)
    generalize (q + p - 1) / p = a at hc ha1 hS hG ⊢
    have eG : Int.tdiv 1000000000000 (m : Int) = ((1000000000000 / m : Nat) : Int) := nm_tdiv 1000000000000 m
    rw [eG]
    have hdiv : a ≤ 1000000000000 / m ↔ a * m ≤ 1000000000000 := Nat.le_div_iff_mul_le hm
    have ecm : a * m = m * a := Nat.mul_comm a m
    refine ⟨fun z => absurd z (by omega), fun _ => ⟨by omega, fun w => ?_, fun w => ?_⟩⟩
    · have w2 : m * a ≤ 1000000000000 := by have := hdiv.mp (Int.ofNat_le.mp w); omega
      have c1 : (m : Int) * (a : Int) = ((m * a : Nat) : Int) := rfl
      have c2 : (a : Int) * (p : Int) = ((a * p : Nat) : Int) := rfl
      have hm1 : 1 ≤ m * a := Nat.mul_pos hm ha1
      rw [c1, c2]
      have hS2 := hS (by omega)
      refine ⟨⟨by omega, by omega⟩, fun x hx => ?_⟩
      rw [hx]
      refine add3 hr (fun b1 b2 sh' hr' => ⟨fun _ => ⟨⟨by omega, by omega⟩, ⟨by omega, by omega⟩, fun t ht => ⟨⟨by omega, by omega⟩, ?_⟩⟩, fun z => absurd z (by omega)⟩) (fun b => absurd b (by omega))
      have et : t = ((a * p - q : Nat) : Int) := by omega
      have el : ((l.length : Nat) : Int) + 1 = (((l ++ [m * a]).length : Nat) : Int) := by rw [List.length_append, List.length_singleton]; rfl
      rw [et, el]
      exact ih (a * p - q) (m * a) (l ++ [m * a]) sh' (by rw [List.length_append, List.length_singleton]; omega) (by rw [List.length_append, List.length_singleton]; omega) hr' (by omega) hm1 w2 (fun l' s2 e r => h1 l' s2 (by rw [hS2]; exact e) r) (fun e => h2 (by rw [hS2]; exact e))
    · unfold wp_X3_byFactors_50
      have w2 : 1000000000000 < m * a := by
        have : ¬ a ≤ 1000000000000 / m := fun z => w (Int.ofNat_le.mpr z)
        rw [hdiv] at this
        omega
      exact h2 (hG w2) _ _
