/-- from ceil (made odd) the first number that isn't in the row is the class's choice -/
theorem gr_reach {o : Bool} {p q t : Nat} {l : List Nat} (hall : ∀ v ∈ l, v ≤ t) (hcov : ∀ v, (q + p - 1) / p ≤ v → v ≤ t → (o = true → v % 2 = 1) → v ∈ l) :
    let c := (q + p - 1) / p
    let n0 := if o = true ∧ c % 2 = 0 then c + 1 else c
    let st := if o = true then 2 else 1
    ¬ nxt o p q t ∈ l ∧ ∃ d, n0 + st * d = nxt o p q t ∧ ∀ i, i < d → n0 + st * i ∈ l := by
  intro c n0 st
  have hN : t < nxt o p q t := by unfold nxt; split <;> omega
  refine ⟨fun z => absurd (hall _ z) (by omega), ?_⟩
  cases o with
  | false =>
    have e0 : n0 = c := rfl
    have e1 : st = 1 := rfl
    have eN : nxt false p q t = max c (t + 1) := by unfold nxt; rw [if_neg (by simp)]
    rw [e0, e1, eN]
    refine ⟨max c (t + 1) - c, by omega, fun i hi => hcov _ (by omega) (by omega) (fun z => absurd z (by simp))⟩
  | true =>
    have e1 : st = 2 := rfl
    have hn : n0 % 2 = 1 ∧ c ≤ n0 ∧ n0 ≤ c + 1 := by
      show (if (true = true) ∧ c % 2 = 0 then c + 1 else c) % 2 = 1 ∧ c ≤ (if (true = true) ∧ c % 2 = 0 then c + 1 else c) ∧ (if (true = true) ∧ c % 2 = 0 then c + 1 else c) ≤ c + 1
      by_cases hc : c % 2 = 0
      · rw [if_pos ⟨rfl, hc⟩]; omega
      · rw [if_neg (fun z => hc z.2)]; omega
    obtain ⟨hodd, hn0a, hn0b⟩ := hn
    have hNo : nxt true p q t % 2 = 1 ∧ nxt true p q t ≤ max c (t + 1) + 1 ∧ c ≤ nxt true p q t := by
      show (if (true = true) ∧ max c (t + 1) % 2 = 0 then max c (t + 1) + 1 else max c (t + 1)) % 2 = 1 ∧ (if (true = true) ∧ max c (t + 1) % 2 = 0 then max c (t + 1) + 1 else max c (t + 1)) ≤ max c (t + 1) + 1 ∧ c ≤ (if (true = true) ∧ max c (t + 1) % 2 = 0 then max c (t + 1) + 1 else max c (t + 1))
      generalize hM : max c (t + 1) = M
      by_cases hc : M % 2 = 0
      · rw [if_pos ⟨rfl, hc⟩]; omega
      · rw [if_neg (fun z => hc z.2)]; omega
    have hmin : n0 ≤ nxt true p q t := by omega
    rw [e1]
    refine ⟨(nxt true p q t - n0) / 2, by omega, fun i hi => hcov _ ?_ ?_ (fun _ => by omega)⟩
    · show c ≤ n0 + 2 * i
      omega
    · have : max c (t + 1) = c ∨ max c (t + 1) = t + 1 := by omega
      rcases this with z | z
      · omega
      · omega
