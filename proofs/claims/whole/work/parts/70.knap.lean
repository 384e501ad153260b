/-! ===== sums of divisors: the fewest that make a number, and which ===== -/
def lst : List Nat → Nat → Nat
  | [], x => if x = 0 then 0 else 1000
  | d :: r, x => if (if d ≤ x then lst r (x - d) + 1 else 1000) < lst r x then (if d ≤ x then lst r (x - d) + 1 else 1000) else lst r x
def rch : List Nat → Nat → Bool
  | [], x => decide (x = 0)
  | d :: r, x => rch r x || (decide (d ≤ x) && rch r (x - d))
def chs : List Nat → Nat → List Nat
  | [], _ => []
  | d :: r, x => if x = 0 then [] else if d ≤ x ∧ lst r (x - d) + 1 = lst (d :: r) x then d :: chs r (x - d) else chs r x
theorem lst_le : ∀ (l : List Nat) (x : Nat), lst l x ≤ 1000 := by
  intro l
  induction l with
  | nil => intro x; rw [lst]; split <;> omega
  | cons d r ih =>
    intro x
    have := ih x
    rw [lst]
    split <;> split <;> omega
theorem lst_cons {d : Nat} {r : List Nat} {x : Nat} : lst (d :: r) x = if (if d ≤ x then lst r (x - d) + 1 else 1000) < lst r x then (if d ≤ x then lst r (x - d) + 1 else 1000) else lst r x := rfl
theorem rch_lst : ∀ (l : List Nat) (x : Nat), (rch l x = true → lst l x ≤ l.length) ∧ (rch l x = false → lst l x = 1000) := by
  intro l
  induction l with
  | nil =>
    intro x
    rw [rch, lst]
    refine ⟨fun h => ?_, fun h => ?_⟩
    · rw [if_pos (of_decide_eq_true h)]; simp
    · rw [if_neg (of_decide_eq_false h)]
  | cons d r ih =>
    intro x
    rw [rch, lst_cons, List.length_cons]
    have h1 := ih x
    have h2 := ih (x - d)
    have b1 := lst_le r x
    refine ⟨fun h => ?_, fun h => ?_⟩
    · rcases Bool.or_eq_true _ _ ▸ h with w | w
      · have := h1.1 w
        split <;> split <;> omega
      · obtain ⟨w1, w2⟩ := Bool.and_eq_true _ _ ▸ w
        have := h2.1 w2
        rw [if_pos (of_decide_eq_true w1)]
        split <;> omega
    · have hx : rch r x = false := by cases e : rch r x with
        | false => rfl
        | true => rw [e] at h; simp at h
      have := h1.2 hx
      rw [hx, Bool.false_or] at h
      by_cases hd : d ≤ x
      · have hx2 : rch r (x - d) = false := by cases e : rch r (x - d) with
          | false => rfl
          | true => rw [e, decide_eq_true hd] at h; simp at h
        have := h2.2 hx2
        rw [if_pos hd]
        split <;> omega
      · rw [if_neg hd]
        split <;> omega
theorem rch_sum : ∀ (l : List Nat) (x : Nat), rch l x = true → x ≤ l.sum := by
  intro l
  induction l with
  | nil => intro x h; rw [rch] at h; have := of_decide_eq_true h; omega
  | cons d r ih =>
    intro x h
    rw [rch] at h
    rw [List.sum_cons]
    rcases Bool.or_eq_true _ _ ▸ h with w | w
    · have := ih x w; omega
    · obtain ⟨w1, w2⟩ := Bool.and_eq_true _ _ ▸ w
      have := ih _ w2
      omega
/-- greater ones than the number don't matter -/
theorem lst_big {d : Nat} {r : List Nat} {x : Nat} (h : x < d) : lst (d :: r) x = lst r x := by
  have := lst_le r x
  rw [lst_cons, if_neg (show ¬ d ≤ x by omega), if_neg (by omega)]
theorem chs_big {d : Nat} {r : List Nat} {x : Nat} (h : x < d) : chs (d :: r) x = chs r x := by
  rw [chs]
  by_cases hx : x = 0
  · subst hx
    rw [if_pos rfl]
    cases r with
    | nil => rfl
    | cons e s => rw [chs, if_pos rfl]
  · rw [if_neg hx, if_neg (by omega)]
theorem chs_0 (l : List Nat) : chs l 0 = [] := by
  cases l with
  | nil => rfl
  | cons d r => rw [chs, if_pos rfl]
theorem lst_0 (l : List Nat) : lst l 0 = 0 := by
  induction l with
  | nil => rfl
  | cons d r ih => rw [lst_cons, ih]; split <;> split <;> omega
theorem chs_len : ∀ (l : List Nat) (x : Nat), lst l x < 1000 → (chs l x).length = lst l x := by
  intro l
  induction l with
  | nil =>
    intro x h
    rw [lst] at h ⊢
    by_cases e : x = 0
    · rw [if_pos e]; rfl
    · rw [if_neg e] at h; omega
  | cons d r ih =>
    intro x h
    by_cases hx : x = 0
    · subst hx; rw [chs_0, lst_0]; rfl
    rw [chs, if_neg hx]
    by_cases hc : d ≤ x ∧ lst r (x - d) + 1 = lst (d :: r) x
    · rw [if_pos hc, List.length_cons, ih (x - d) (by omega)]
      exact hc.2
    · rw [if_neg hc]
      have e : lst (d :: r) x = lst r x := by
        rw [lst_cons] at hc ⊢
        by_cases hd : d ≤ x
        · rw [if_pos hd] at hc ⊢
          by_cases hw : lst r (x - d) + 1 < lst r x
          · rw [if_pos hw] at hc; exact absurd ⟨hd, rfl⟩ hc
          · rw [if_neg hw]
        · have := lst_le r x
          rw [if_neg hd, if_neg (by omega)]
      rw [e] at h ⊢
      exact ih x h
theorem chs_lenle : ∀ (l : List Nat) (x : Nat), (chs l x).length ≤ l.length := by
  intro l
  induction l with
  | nil => intro x; exact Nat.le_refl _
  | cons d r ih =>
    intro x
    rw [chs]
    split
    · simp
    · split
      · rw [List.length_cons, List.length_cons]; have := ih (x - d); omega
      · rw [List.length_cons]; have := ih x; omega
/-- the divisors up to n, falling -/
theorem dvL_s {v n : Nat} : dvL v (n + 1) = if v % (n + 1) = 0 then (n + 1) :: dvL v n else dvL v n := rfl
theorem dvL_skip {v n : Nat} : ∀ k, (∀ d, n < d → d ≤ n + k → ¬ v % d = 0) → dvL v (n + k) = dvL v n := by
  intro k
  induction k with
  | zero => intro _; rfl
  | succ k ih =>
    intro h
    rw [← Nat.add_assoc, dvL_s, if_neg (h (n + k + 1) (by omega) (by omega)), ih (fun d h1 h2 => h d h1 (by omega))]
theorem dvL_48 {v n : Nat} (h1 : 1 ≤ v) (h2 : v ≤ 5000) : (dvL v n).length ≤ 48 :=
  dv_48 h1 h2 (dvL_ok v n).2.1 (fun d hd => Nat.dvd_of_mod_eq_zero ((((dvL_ok v n).2.2 d).mp hd).2.2))
theorem lst_dv {v t x : Nat} (hx : x ≤ t) : ∀ n, t ≤ n → lst (dvL v n) x = lst (dvL v t) x ∧ chs (dvL v n) x = chs (dvL v t) x := by
  intro n hn
  obtain ⟨k, rfl⟩ := Nat.exists_eq_add_of_le hn
  induction k with
  | zero => exact ⟨rfl, rfl⟩
  | succ k ih =>
    have := ih (by omega)
    rw [← Nat.add_assoc, dvL_s]
    by_cases e : v % (t + k + 1) = 0
    · rw [if_pos e, lst_big (by omega), chs_big (by omega)]; exact this
    · rw [if_neg e]; exact this
/-- the least m -/
def mfc (p q : Nat) : Nat → Nat → Int
  | 0, _ => -4
  | f + 1, m => if 200 < m then -4 else if 5000 < q * m then -5 else if rch (dvL (q * m) (p * m)) (p * m) = true then m else mfc p q f (m + 1)
