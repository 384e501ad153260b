/-! ===== greed, the reference's side: its inner loop comes to the first number that isn't in the row ===== -/
theorem gr59 {Q : Int → (Int → Int) → Int → Prop} {K : Int → (Int → Int) → Int → Int → Int → Int → Prop} {row : Int → Int} {l : List Nat} {p q : Int} {st N : Nat} (hr : rep row l) (hl : l.length ≤ 16) (hst : st ≤ 2) (hN : N ≤ 9000000000000000000) (h : wp_X8_greed_59 Q K 1 (l.length : Nat) row 0 st p q N) :
    ∀ (d n : Nat), n + st * d = N → (∀ i, i < d → n + st * i ∈ l) → wp_X8_greed_59 Q K (d + 1) (l.length : Nat) row 0 st p q n := by
  intro d
  induction d with
  | zero =>
    intro n hn _
    have : n = N := by omega
    subst this
    exact h
  | succ d ih =>
    intro n hn hm
    rw [wp_X8_greed_59]
    have e1 : st * (d + 1) = st * d + st := Nat.mul_succ st d
    refine has8 hr hl (fun _ => ⟨fun z => absurd z (by omega), fun _ => ⟨⟨by omega, by omega⟩, fun x hx => ?_⟩⟩) (fun z => absurd (hm 0 (by omega)) z)
    have ex : x = ((n + st : Nat) : Int) := by omega
    rw [ex]
    refine ih (n + st) (by omega) (fun i hi => ?_)
    have := hm (i + 1) (by omega)
    have e2 : st * (i + 1) = st * i + st := Nat.mul_succ st i
    have e3 : n + st + st * i = n + st * (i + 1) := by omega
    rw [e3]
    exact this
