/-! ===== cutting up: the least number that stands there twice ===== -/
def tw (l : List Nat) : Option Nat := (l.filter (fun v => decide (2 ≤ l.count v))).min?
theorem tw_some {l : List Nat} {n : Nat} (h1 : 2 ≤ l.count n) (h2 : ∀ m, 2 ≤ l.count m → n ≤ m) : tw l = some n := by
  unfold tw
  rw [List.min?_eq_some_iff]
  refine ⟨List.mem_filter.mpr ⟨List.count_pos_iff.mp (by omega), decide_eq_true h1⟩, fun b hb => h2 b (of_decide_eq_true (List.mem_filter.mp hb).2)⟩
theorem tw_none {l : List Nat} (h : ∀ m, l.count m ≤ 1) : tw l = none := by
  unfold tw
  rw [List.min?_eq_none_iff, List.filter_eq_nil_iff]
  intro a _ hd
  have := of_decide_eq_true hd
  have := h a
  omega
def cutL : Nat → List Nat → Option (List Nat)
  | 0, _ => none
  | f + 1, l => match tw l with
    | none => some l
    | some n => if 16 ≤ l.length then none else if 1000000000000 < n * (n + 1) then none else cutL f ((n + 1) :: (n * (n + 1)) :: l.erase n)
theorem cutL_n {f : Nat} {l : List Nat} (h : tw l = none) : cutL (f + 1) l = some l := by rw [cutL, h]
theorem cutL_16 {f n : Nat} {l : List Nat} (h : tw l = some n) (h2 : 16 ≤ l.length) : cutL (f + 1) l = none := by rw [cutL, h]; exact if_pos h2
theorem cutL_G {f n : Nat} {l : List Nat} (h : tw l = some n) (h3 : 1000000000000 < n * (n + 1)) : cutL (f + 1) l = none := by
  rw [cutL, h]
  show (if 16 ≤ l.length then none else if 1000000000000 < n * (n + 1) then none else cutL f ((n + 1) :: (n * (n + 1)) :: l.erase n)) = none
  by_cases h2 : 16 ≤ l.length
  · rw [if_pos h2]
  · rw [if_neg h2, if_pos h3]
theorem cutL_s {f n : Nat} {l : List Nat} (h : tw l = some n) (h2 : ¬ 16 ≤ l.length) (h3 : ¬ 1000000000000 < n * (n + 1)) : cutL (f + 1) l = cutL f ((n + 1) :: (n * (n + 1)) :: l.erase n) := by
  rw [cutL, h]
  show (if 16 ≤ l.length then none else if 1000000000000 < n * (n + 1) then none else cutL f ((n + 1) :: (n * (n + 1)) :: l.erase n)) = _
  rw [if_neg h2, if_neg h3]
/-- one cut, in the row -/
theorem ms_cut {N : Nat} {f g : Int → Int} {l : List Nat} {t n : Nat} (h : ms N f l) (ht : t < N) (hn : f t = n) (hg : ∀ a, cnt (N + 1) g a + (if f t = a then 1 else 0) = cnt N f a + (if ((n + 1 : Nat) : Int) = a then 1 else 0) + (if ((n * (n + 1) : Nat) : Int) = a then 1 else 0)) : ms (N + 1) g ((n + 1) :: (n * (n + 1)) :: l.erase n) := by
  have hm : n ∈ l := by
    obtain ⟨v, hv, hv2⟩ := ms_mem h ht
    have : n = v := by omega
    rw [this]; exact hv
  have hc1 : 1 ≤ l.count n := List.count_pos_iff.mpr hm
  refine ⟨?_, ?_, ?_⟩
  · rw [List.length_cons, List.length_cons, List.length_erase_of_mem hm]
    have := List.length_pos_of_mem hm
    have := h.1
    omega
  · intro j hj
    have h1 := cnt_mem (f := g) (N + 1) hj
    have h2 := hg (g j)
    by_cases e1 : ((n + 1 : Nat) : Int) = g j
    · omega
    · by_cases e2 : ((n * (n + 1) : Nat) : Int) = g j
      · rw [← e2]; exact Int.natCast_nonneg _
      · rw [if_neg e1, if_neg e2] at h2
        obtain ⟨i, hi, hi2⟩ := cnt_pos N (show 0 < cnt N f (g j) by omega)
        rw [← hi2]
        exact h.2.1 i hi
  · intro a
    have h2 := hg a
    rw [hn, h.2.2 a] at h2
    rw [List.count_cons, List.count_cons, List.count_erase]
    have e1 : (if ((n : Nat) : Int) = (a : Int) then 1 else 0 : Nat) = if n == a then 1 else 0 := by
      by_cases e : n = a
      · rw [if_pos (by omega), if_pos (by rw [beq_iff_eq]; exact e)]
      · rw [if_neg (by omega), if_neg (by rw [beq_iff_eq]; exact e)]
    have e2 : (if ((n + 1 : Nat) : Int) = (a : Int) then 1 else 0 : Nat) = if n + 1 == a then 1 else 0 := by
      by_cases e : n + 1 = a
      · rw [if_pos (by omega), if_pos (by rw [beq_iff_eq]; exact e)]
      · rw [if_neg (by omega), if_neg (by rw [beq_iff_eq]; exact e)]
    have e3 : (if ((n * (n + 1) : Nat) : Int) = (a : Int) then 1 else 0 : Nat) = if n * (n + 1) == a then 1 else 0 := by
      generalize n * (n + 1) = z
      by_cases e : z = a
      · rw [if_pos (by omega), if_pos (by rw [beq_iff_eq]; exact e)]
      · rw [if_neg (by omega), if_neg (by rw [beq_iff_eq]; exact e)]
    rw [e1, e2, e3] at h2
    have e4 : (if n == a then 1 else 0 : Nat) ≤ l.count a := by
      by_cases e : n = a
      · subst e; rw [if_pos (beq_self_eq_true n)]; exact hc1
      · rw [if_neg (by rw [beq_iff_eq]; exact e)]; omega
    omega
theorem ms_end {N : Nat} {f : Int → Int} {l : List Nat} {s : Nat} (h : ms N f l) : ms (N + 1) (ups f N s) (s :: l) := by
  refine ⟨by rw [List.length_cons, h.1], fun j hj => ?_, fun a => ?_⟩
  · by_cases e : j = N
    · subst e; rw [ups_s]; omega
    · rw [ups_n (by omega)]; exact h.2.1 j (by omega)
  · rw [cnt_end, h.2.2 a, List.count_cons]
    by_cases e : s = a
    · rw [if_pos (by omega), if_pos (by rw [beq_iff_eq]; exact e)]
    · rw [if_neg (by omega), if_neg (by rw [beq_iff_eq]; exact e)]
/-- a rising row: neighbours tell the twins -/
theorem up_strict {f : Int → Int} {m : Int} : ∀ i : Nat, (∀ a b : Nat, a < b → b < i → f a < f b) → cnt i f m ≤ 1 := by
  intro i
  induction i with
  | zero => intro _; rw [cnt]; omega
  | succ i ih =>
    intro h
    rw [cnt]
    by_cases e : f i = m
    · rw [if_pos e, cnt_zero i (fun j hj w => by have := h j i hj (by omega); omega)]
      omega
    · rw [if_neg e]
      have := ih (fun a b h1 h2 => h a b h1 (by omega))
      omega
theorem adj_strict {f : Int → Int} {i N : Nat} (hN : i ≤ N) (hu : upw N f) (ha : ∀ j : Nat, 1 ≤ j → j < i → ¬ f ((j : Int) - 1) = f j) : ∀ a b : Nat, a < b → b < i → f a < f b := by
  intro a b hab hb
  have h1 := ha b (by omega) hb
  have e : (b : Int) - 1 = ((b - 1 : Nat) : Int) := by omega
  rw [e] at h1
  have h2 := hu (b - 1) b (by omega) (by omega)
  by_cases e2 : a = b - 1
  · rw [e2]; omega
  · have h3 := hu a (b - 1) (by omega) (by omega)
    omega
theorem cnt_pre {f : Int → Int} {m : Int} {i : Nat} : ∀ N : Nat, i ≤ N → (∀ j : Nat, i ≤ j → j < N → ¬ f j = m) → cnt N f m = cnt i f m := by
  intro N
  induction N with
  | zero => intro h _; have : i = 0 := by omega
            rw [this]
  | succ N ih =>
    intro h h2
    by_cases e : i = N + 1
    · rw [e]
    · rw [cnt, if_neg (h2 N (by omega) (by omega)), ih (by omega) (fun j h3 h4 => h2 j h3 (by omega))]
      omega
theorem tw_adj {N i : Nat} {f : Int → Int} {l : List Nat} (h : ms N f l) (hu : upw N f) (hi : 1 ≤ i) (hiN : i < N) (ha : ∀ j : Nat, 1 ≤ j → j < i → ¬ f ((j : Int) - 1) = f j) (he : f ((i : Int) - 1) = f i) {v : Nat} (hv : f i = v) : tw l = some v := by
  have e : (i : Int) - 1 = ((i - 1 : Nat) : Int) := by omega
  rw [e] at he
  refine tw_some ?_ (fun m hm => ?_)
  · rw [← h.2.2, ← hv]
    exact cnt_ge2 (i := i - 1) (j := i) N (by omega) hiN he rfl
  · rcases Nat.lt_or_ge m v with hlt | hge
    · exfalso
      rw [← h.2.2] at hm
      have h1 : cnt N f (m : Int) = cnt i f m := cnt_pre N (by omega) (fun j h3 h4 w => by
        by_cases ej : j = i
        · rw [ej] at w; omega
        · have := hu i j (by omega) h4; omega)
      have h2 := up_strict (m := (m : Int)) i (adj_strict (by omega) hu ha)
      omega
    · exact hge
theorem tw_no {N : Nat} {f : Int → Int} {l : List Nat} (h : ms N f l) (hu : upw N f) (ha : ∀ j : Nat, 1 ≤ j → j < N → ¬ f ((j : Int) - 1) = f j) : tw l = none := by
  refine tw_none (fun m => ?_)
  rw [← h.2.2]
  exact up_strict N (adj_strict (Nat.le_refl _) hu ha)
