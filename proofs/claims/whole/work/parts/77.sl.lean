/-! ===== all sums, in their order ===== -/
def SL (c : Nat → Nat) : List Nat → Nat → Nat → List (List Nat)
  | [], _, _ => []
  | _ :: _, 0, _ => []
  | v :: vs, k + 1, t => (if c v = t then [[v]] else if c v < t then (SL c vs k (t - c v)).map (fun l => v :: l) else []) ++ SL c vs (k + 1) t
/-- n - m + 1 up to n -/
def rl (n : Nat) : Nat → List Nat
  | 0 => []
  | m + 1 => (n - m) :: rl n m
def WW : Nat := 9690712164777231700912800
theorem WW_dvd : ∀ v, 2 ≤ v → v ≤ 60 → v ∣ WW := by
  have key : ∀ v : Fin 61, 2 ≤ v.1 → v.1 ∣ WW := by decide +kernel
  intro v h1 h2
  exact key ⟨v, by omega⟩ h1
def cw (q v : Nat) : Nat := q * (WW / v)
theorem cw_mul {q v : Nat} (h1 : 2 ≤ v) (h2 : v ≤ 60) : cw q v * v = q * WW := by
  unfold cw
  rw [Nat.mul_assoc, Nat.div_mul_cancel (WW_dvd v h1 h2)]
theorem WW_pos : 0 < WW := by decide
theorem cw_pos {q v : Nat} (hq : 1 ≤ q) (h1 : 2 ≤ v) (h2 : v ≤ 60) : 0 < cw q v := by
  have h := cw_mul (q := q) h1 h2
  have h3 : 0 < q * WW := Nat.mul_pos hq WW_pos
  rcases Nat.eq_zero_or_pos (cw q v) with z | z
  · rw [z] at h; omega
  · exact z
theorem cw_mono {q x v : Nat} (h1 : 2 ≤ v) (h : v ≤ x) : cw q x ≤ cw q v := Nat.mul_le_mul_left q (Nat.div_le_div_left h (by omega))
theorem rl_mem {n : Nat} : ∀ m x, m ≤ n → (x ∈ rl n m ↔ n - m < x ∧ x ≤ n) := by
  intro m
  induction m with
  | zero => intro x _; constructor; (intro h; simp [rl] at h); (intro h; omega)
  | succ m ih =>
    intro x hm
    rw [rl, List.mem_cons, ih x (by omega)]
    omega
theorem SL_0 {c : Nat → Nat} {vs : List Nat} {t : Nat} : SL c vs 0 t = [] := by cases vs <;> rfl
theorem SL_prune {c : Nat → Nat} {m : Nat} : ∀ (vs : List Nat) (k t : Nat), (∀ x ∈ vs, c x ≤ m) → k * m < t → SL c vs k t = [] := by
  intro vs
  induction vs with
  | nil => intro k t _ _; rfl
  | cons v vs ih =>
    intro k t h1 h2
    cases k with
    | zero => rfl
    | succ k =>
      have hv := h1 v List.mem_cons_self
      have h3 : (k + 1) * m = k * m + m := Nat.succ_mul k m
      have hr := ih (k + 1) t (fun x hx => h1 x (List.mem_cons_of_mem _ hx)) h2
      have hr2 := ih k (t - c v) (fun x hx => h1 x (List.mem_cons_of_mem _ hx)) (by omega)
      rw [SL, hr, List.append_nil]
      rw [if_neg (by have : 0 ≤ k * m := Nat.zero_le _; omega)]
      split
      · rw [hr2]; rfl
      · rfl
theorem SL_mem {c : Nat → Nat} : ∀ (vs : List Nat) (k t : Nat) (l : List Nat), l ∈ SL c vs k t → l.Sublist vs ∧ l.length ≤ k ∧ l ≠ [] ∧ (l.map c).sum = t := by
  intro vs
  induction vs with
  | nil => intro k t l h; simp [SL] at h
  | cons v vs ih =>
    intro k t l h
    cases k with
    | zero => rw [SL_0] at h; simp at h
    | succ k =>
      rw [SL, List.mem_append] at h
      rcases h with h | h
      · split at h
        · rename_i e
          have := List.mem_singleton.mp h
          subst this
          refine ⟨List.Sublist.cons_cons v (List.nil_sublist _), by simp, by simp, by simpa using e⟩
        split at h
        · rename_i e1 e2
          obtain ⟨l', hl', rfl⟩ := List.mem_map.mp h
          obtain ⟨a, b, d, e⟩ := ih k (t - c v) l' hl'
          refine ⟨List.Sublist.cons_cons v a, by rw [List.length_cons]; omega, by simp, ?_⟩
          rw [List.map_cons, List.sum_cons, e]
          omega
        · simp at h
      · obtain ⟨a, b, d, e⟩ := ih (k + 1) t l h
        exact ⟨List.Sublist.cons v a, b, d, e⟩
/-- with proportional weights the sums are the same -/
theorem SL_prop {c1 c2 : Nat → Nat} {A B : Nat} (hA : 0 < A) (hB : 0 < B) : ∀ (vs : List Nat) (k t1 t2 : Nat), (∀ x ∈ vs, A * c1 x = B * c2 x) → A * t1 = B * t2 → SL c1 vs k t1 = SL c2 vs k t2 := by
  intro vs
  induction vs with
  | nil => intro k t1 t2 _ _; rfl
  | cons v vs ih =>
    intro k t1 t2 h1 h2
    cases k with
    | zero => rfl
    | succ k =>
      have hv := h1 v List.mem_cons_self
      have hvs := fun x hx => h1 x (List.mem_cons_of_mem v hx)
      rw [SL, SL, ih (k + 1) t1 t2 hvs h2]
      congr 1
      by_cases e1 : c1 v = t1
      · have e2 : c2 v = t2 := Nat.eq_of_mul_eq_mul_left hB (by rw [← hv, ← h2, e1])
        rw [if_pos e1, if_pos e2]
      · have e2 : ¬ c2 v = t2 := fun w => e1 (Nat.eq_of_mul_eq_mul_left hA (by rw [hv, h2, w]))
        rw [if_neg e1, if_neg e2]
        by_cases l1 : c1 v < t1
        · have l2 : c2 v < t2 := by
            have : B * c2 v < B * t2 := by rw [← hv, ← h2]; exact Nat.mul_lt_mul_of_pos_left l1 hA
            exact Nat.lt_of_mul_lt_mul_left this
          rw [if_pos l1, if_pos l2, ih k (t1 - c1 v) (t2 - c2 v) hvs (by rw [Nat.mul_sub, Nat.mul_sub, hv, h2])]
        · have l2 : ¬ c2 v < t2 := by
            intro w
            apply l1
            have : A * c1 v < A * t1 := by rw [hv, h2]; exact Nat.mul_lt_mul_of_pos_left w hB
            exact Nat.lt_of_mul_lt_mul_left this
          rw [if_neg l1, if_neg l2]
/-- all lists of at most k numbers in order -/
def sbl : List Nat → Nat → List (List Nat)
  | [], _ => []
  | _ :: _, 0 => []
  | v :: vs, k + 1 => ([v] :: (sbl vs k).map (fun l => v :: l)) ++ sbl vs (k + 1)
theorem sbl_0 {vs : List Nat} : sbl vs 0 = [] := by cases vs <;> rfl
theorem sbl_ne : ∀ (vs : List Nat) (k : Nat) (l : List Nat), l ∈ sbl vs k → l ≠ [] ∧ ∀ x ∈ l, x ∈ vs := by
  intro vs
  induction vs with
  | nil => intro k l h; simp [sbl] at h
  | cons v vs ih =>
    intro k l h
    cases k with
    | zero => rw [sbl_0] at h; simp at h
    | succ k =>
      rw [sbl, List.mem_append, List.mem_cons] at h
      rcases h with (h | h) | h
      · subst h; exact ⟨by simp, fun x hx => by rw [List.mem_singleton.mp hx]; exact List.mem_cons_self⟩
      · obtain ⟨l', hl', rfl⟩ := List.mem_map.mp h
        refine ⟨by simp, fun x hx => ?_⟩
        rcases List.mem_cons.mp hx with w | w
        · rw [w]; exact List.mem_cons_self
        · exact List.mem_cons_of_mem _ ((ih k l' hl').2 x w)
      · exact ⟨(ih _ l h).1, fun x hx => List.mem_cons_of_mem _ ((ih _ l h).2 x hx)⟩
theorem SL_filter {c : Nat → Nat} : ∀ (vs : List Nat) (k t : Nat), (∀ x ∈ vs, 0 < c x) → SL c vs k t = (sbl vs k).filter (fun l => decide ((l.map c).sum = t)) := by
  intro vs
  induction vs with
  | nil => intro k t _; rfl
  | cons v vs ih =>
    intro k t hp
    cases k with
    | zero => rfl
    | succ k =>
      have hvs := fun x hx => hp x (List.mem_cons_of_mem v hx)
      rw [SL, sbl, List.filter_append, ih (k + 1) t hvs, List.filter_cons, List.filter_map]
      congr 1
      have e1 : ([v].map c).sum = c v := by simp
      rw [e1]
      by_cases h1 : c v = t
      · rw [if_pos h1, if_pos (decide_eq_true h1)]
        congr 1
        symm
        rw [List.map_eq_nil_iff, List.filter_eq_nil_iff]
        intro l hl hd
        have hd2 := of_decide_eq_true hd
        have hne := sbl_ne vs k l hl
        have hpos : 0 < (l.map c).sum := by
          cases l with
          | nil => exact absurd rfl hne.1
          | cons a r => rw [List.map_cons, List.sum_cons]; have := hvs a (hne.2 a List.mem_cons_self); omega
        simp only [List.map_cons, List.sum_cons] at hd2
        omega
      · have hd1 : ¬ decide (c v = t) = true := by rw [decide_eq_true_iff]; exact h1
        rw [if_neg h1, if_neg (c := decide (c v = t) = true) hd1]
        by_cases h2 : c v < t
        · rw [if_pos h2, ih k (t - c v) hvs]
          congr 1
          apply List.filter_congr
          intro l _
          simp only [Function.comp, List.map_cons, List.sum_cons]
          by_cases h3 : (l.map c).sum = t - c v
          · rw [decide_eq_true h3, decide_eq_true (by omega)]
          · rw [decide_eq_false h3, decide_eq_false (by omega)]
        · rw [if_neg h2]
          symm
          rw [List.map_eq_nil_iff, List.filter_eq_nil_iff]
          intro l _ hd
          have hd2 := of_decide_eq_true hd
          simp only [List.map_cons, List.sum_cons] at hd2
          omega
theorem sbl_filter {b : Nat → Bool} : ∀ (vs : List Nat) (k : Nat), (sbl vs k).filter (fun l => l.all b) = sbl (vs.filter b) k := by
  intro vs
  induction vs with
  | nil => intro k; rfl
  | cons v vs ih =>
    intro k
    cases k with
    | zero => rw [sbl_0, sbl_0]; rfl
    | succ k =>
      rw [sbl, List.filter_append, ih (k + 1), List.filter_cons (x := v)]
      by_cases hb : b v = true
      · rw [if_pos hb, sbl]
        congr 1
        rw [List.filter_cons, List.filter_map]
        have e : [v].all b = true := by simp [hb]
        rw [if_pos e, ← ih k]
        congr 2
        apply List.filter_congr
        intro l _
        simp [hb]
      · rw [if_neg hb]
        have e : ([v] :: (sbl vs k).map (fun l => v :: l)).filter (fun l => l.all b) = [] := by
          rw [List.filter_eq_nil_iff]
          intro l hl
          rcases List.mem_cons.mp hl with w | w
          · subst w; simp [hb]
          · obtain ⟨l', _, rfl⟩ := List.mem_map.mp w
            simp [hb]
        rw [e, List.nil_append]
/-- numbers that are in no sum may be left out -/
theorem SL_drop {c : Nat → Nat} {b : Nat → Bool} {vs : List Nat} {k t : Nat} (hp : ∀ x ∈ vs, 0 < c x) (h : ∀ l ∈ SL c vs k t, l.all b = true) : SL c vs k t = SL c (vs.filter b) k t := by
  rw [SL_filter (vs.filter b) k t (fun x hx => hp x (List.mem_filter.mp hx).1), ← sbl_filter, List.filter_filter]
  rw [SL_filter vs k t hp] at h ⊢
  apply List.filter_congr
  intro l hl
  by_cases h1 : (l.map c).sum = t
  · have := h l (List.mem_filter.mpr ⟨hl, decide_eq_true h1⟩)
    rw [this, decide_eq_true h1]; rfl
  · rw [decide_eq_false h1, Bool.false_and]
