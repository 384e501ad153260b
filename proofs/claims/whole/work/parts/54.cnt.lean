/-! ===== how often a number stands in a row; sorting keeps it, and makes the row rise ===== -/
def cnt : Nat → (Int → Int) → Int → Nat
  | 0, _, _ => 0
  | n + 1, f, a => cnt n f a + if f (n : Int) = a then 1 else 0
theorem cnt_cong {f g : Int → Int} {a : Int} : ∀ n : Nat, (∀ j : Nat, j < n → f j = g j) → cnt n f a = cnt n g a := by
  intro n
  induction n with
  | zero => intro _; rfl
  | succ n ih => intro h; rw [cnt, cnt, ih (fun j hj => h j (by omega)), h n (by omega)]
theorem cnt_ups {f : Int → Int} {v a : Int} {k : Nat} : ∀ n : Nat, k < n → cnt n (ups f k v) a + (if f k = a then 1 else 0) = cnt n f a + (if v = a then 1 else 0) := by
  intro n
  induction n with
  | zero => intro h; omega
  | succ n ih =>
    intro h
    rw [cnt, cnt]
    by_cases hk : k = n
    · subst hk
      rw [ups_s, cnt_cong (f := ups f k v) (g := f) k (fun j hj => ups_n (by omega))]
      omega
    · rw [ups_n (by omega)]
      have := ih (by omega)
      omega
theorem cnt_end {f : Int → Int} {v a : Int} {n : Nat} : cnt (n + 1) (ups f n v) a = cnt n f a + (if v = a then 1 else 0) := by
  rw [cnt, ups_s, cnt_cong (f := ups f n v) (g := f) n (fun j hj => ups_n (by omega))]
theorem cnt_zero {f : Int → Int} {a : Int} : ∀ n : Nat, (∀ j : Nat, j < n → ¬ f j = a) → cnt n f a = 0 := by
  intro n
  induction n with
  | zero => intro _; rfl
  | succ n ih => intro h; rw [cnt, ih (fun j hj => h j (by omega)), if_neg (h n (by omega))]
theorem cnt_pos {f : Int → Int} {a : Int} : ∀ n : Nat, 0 < cnt n f a → ∃ j : Nat, j < n ∧ f j = a := by
  intro n
  induction n with
  | zero => intro h; exact absurd h (by rw [cnt]; omega)
  | succ n ih =>
    intro h
    by_cases e : f n = a
    · exact ⟨n, by omega, e⟩
    · rw [cnt, if_neg e] at h
      obtain ⟨j, hj, hj2⟩ := ih (by omega)
      exact ⟨j, by omega, hj2⟩
theorem cnt_mem {f : Int → Int} {j : Nat} : ∀ n : Nat, j < n → 0 < cnt n f (f j) := by
  intro n
  induction n with
  | zero => intro h; omega
  | succ n ih =>
    intro h
    rw [cnt]
    by_cases e : j = n
    · subst e; rw [if_pos rfl]; omega
    · have := ih (by omega); omega
theorem cnt_ge2 {f : Int → Int} {a : Int} {i j : Nat} : ∀ n : Nat, i < j → j < n → f i = a → f j = a → 2 ≤ cnt n f a := by
  intro n
  induction n with
  | zero => intro _ h; omega
  | succ n ih =>
    intro h1 h2 h3 h4
    rw [cnt]
    by_cases e : j = n
    · subst e
      rw [if_pos h4]
      have := cnt_mem (f := f) (j := i) j (by omega)
      rw [h3] at this
      omega
    · have := ih h1 (by omega) h3 h4; omega
theorem cnt_one {f : Int → Int} {a : Int} {k : Nat} : ∀ n : Nat, k < n → f k = a → (∀ j : Nat, j < n → j ≠ k → ¬ f j = a) → cnt n f a = 1 := by
  intro n
  induction n with
  | zero => intro h; omega
  | succ n ih =>
    intro h1 h2 h3
    rw [cnt]
    by_cases e : k = n
    · subst e
      rw [if_pos h2, cnt_zero k (fun j hj => h3 j (by omega) (by omega))]
    · rw [if_neg (h3 n (by omega) (by omega)), ih (by omega) h2 (fun j hj hk => h3 j (by omega) hk)]
theorem cnt_shv {v a : Int} {n : Nat} : ∀ (k : Nat) (f : Int → Int), k < n → cnt n (shv v k f) a + (if f k = a then 1 else 0) = cnt n f a + (if v = a then 1 else 0) := by
  intro k
  induction k with
  | zero => intro f hk; exact cnt_ups n hk
  | succ k ih =>
    intro f hk
    rw [shv]
    by_cases h : f k ≤ v
    · rw [if_pos h]
      exact cnt_ups n hk
    · rw [if_neg h]
      have h1 := ih (ups f ((k + 1 : Nat) : Int) (f k)) (by omega)
      rw [ups_n (by omega)] at h1
      have h2 := cnt_ups (f := f) (v := f k) (a := a) n hk
      omega
theorem cnt_srt {a : Int} {n : Nat} : ∀ (d i : Nat) (f : Int → Int), i + d ≤ n → cnt n (srt d i f) a = cnt n f a := by
  intro d
  induction d with
  | zero => intro i f h; rfl
  | succ d ih =>
    intro i f h
    rw [srt, ih (i + 1) _ (by omega)]
    have := cnt_shv (v := f i) (a := a) (n := n) i f (by omega)
    omega
theorem cnt_srtN {a : Int} {n : Nat} {f : Int → Int} : cnt n (srtN n f) a = cnt n f a := by
  unfold srtN
  rcases Nat.eq_zero_or_pos n with h | h
  · subst h; rfl
  · exact cnt_srt (n - 1) 1 f (by omega)
def upw (n : Nat) (f : Int → Int) : Prop := ∀ a b : Nat, a < b → b < n → f a ≤ f b
theorem shv_up {v : Int} {i : Nat} : ∀ (k : Nat) (f : Int → Int), k ≤ i → (∀ a b : Nat, a < b → b ≤ i → a ≠ k → b ≠ k → f a ≤ f b) → (∀ b : Nat, k < b → b ≤ i → v ≤ f b) → upw (i + 1) (shv v k f) := by
  intro k
  induction k with
  | zero =>
    intro f hk h1 h2 a b hab hb
    have e : shv v 0 f = ups f (0 : Nat) v := rfl
    rw [e]
    rw [ups_n (by omega : ¬ (b : Int) = ((0 : Nat) : Int))]
    by_cases ha : a = 0
    · subst ha
      rw [ups_s]
      exact h2 b hab (by omega)
    · rw [ups_n (by omega)]
      exact h1 a b hab (by omega) ha (by omega)
  | succ k ih =>
    intro f hk h1 h2
    rw [shv]
    by_cases h : f k ≤ v
    · rw [if_pos h]
      intro a b hab hb
      by_cases ha : a = k + 1
      · subst ha
        rw [ups_s, ups_n (by omega)]
        exact h2 b hab (by omega)
      · rw [ups_n (show ¬ (a : Int) = ((k + 1 : Nat) : Int) by omega)]
        by_cases hb2 : b = k + 1
        · subst hb2
          rw [ups_s]
          by_cases hak : a = k
          · subst hak; exact h
          · exact Int.le_trans (h1 a k (by omega) (by omega) ha (by omega)) h
        · rw [ups_n (by omega)]
          exact h1 a b hab (by omega) ha hb2
    · rw [if_neg h]
      refine ih _ (by omega) ?_ ?_
      · intro a b hab hb ha hb2
        by_cases ha1 : a = k + 1
        · subst ha1
          rw [ups_s, ups_n (by omega)]
          exact h1 k b (by omega) hb (by omega) (by omega)
        · rw [ups_n (show ¬ (a : Int) = ((k + 1 : Nat) : Int) by omega)]
          by_cases hb1 : b = k + 1
          · subst hb1
            rw [ups_s]
            exact h1 a k (by omega) (by omega) ha1 (by omega)
          · rw [ups_n (by omega)]
            exact h1 a b hab hb ha1 hb1
      · intro b hb1 hb2
        by_cases hb3 : b = k + 1
        · subst hb3; rw [ups_s]; omega
        · rw [ups_n (by omega)]
          exact h2 b (by omega) hb2
theorem srt_up : ∀ (d i : Nat) (f : Int → Int), upw i f → upw (i + d) (srt d i f) := by
  intro d
  induction d with
  | zero => intro i f h; exact h
  | succ d ih =>
    intro i f h
    rw [srt]
    have := ih (i + 1) (shv (f i) i f) (shv_up i f (Nat.le_refl _) (fun a b hab hb ha hb2 => h a b hab (by omega)) (fun b h1 h2 => by omega))
    have e : i + 1 + d = i + (d + 1) := by omega
    rw [e] at this
    exact this
theorem srtN_up {n : Nat} {f : Int → Int} : upw n (srtN n f) := by
  unfold srtN
  rcases Nat.eq_zero_or_pos n with h | h
  · subst h; intro a b _ hb; omega
  · have := srt_up (n - 1) 1 f (fun a b h1 h2 => by omega)
    have e : 1 + (n - 1) = n := by omega
    rw [e] at this
    exact this
theorem up_eq {f g : Int → Int} : ∀ n : Nat, upw n f → upw n g → (∀ a, cnt n f a = cnt n g a) → ∀ j : Nat, j < n → f j = g j := by
  intro n
  induction n with
  | zero => intro _ _ _ j hj; omega
  | succ n ih =>
    intro hf hg hc
    have h1 : g n ≤ f n := by
      have := cnt_mem (f := g) (j := n) (n + 1) (by omega)
      rw [← hc] at this
      obtain ⟨j, hj, hj2⟩ := cnt_pos _ this
      rw [← hj2]
      by_cases e : j = n
      · rw [e]; omega
      · exact hf j n (by omega) (by omega)
    have h2 : f n ≤ g n := by
      have := cnt_mem (f := f) (j := n) (n + 1) (by omega)
      rw [hc] at this
      obtain ⟨j, hj, hj2⟩ := cnt_pos _ this
      rw [← hj2]
      by_cases e : j = n
      · rw [e]; omega
      · exact hg j n (by omega) (by omega)
    have h3 : f n = g n := by omega
    intro j hj
    by_cases e : j = n
    · rw [e]; exact h3
    · refine ih (fun a b h4 h5 => hf a b h4 (by omega)) (fun a b h4 h5 => hg a b h4 (by omega)) (fun a => ?_) j (by omega)
      have := hc a
      rw [cnt, cnt, h3] at this
      omega
/-- a row as a heap of numbers -/
def ms (n : Nat) (f : Int → Int) (l : List Nat) : Prop := l.length = n ∧ (∀ j : Nat, j < n → 0 ≤ f j) ∧ ∀ a : Nat, cnt n f a = l.count a
theorem ms_neg {n : Nat} {f : Int → Int} (h : ∀ j : Nat, j < n → 0 ≤ f j) {a : Int} (ha : a < 0) : cnt n f a = 0 := cnt_zero n (fun j hj e => by have := h j hj; omega)
theorem ms_srt {n : Nat} {f g : Int → Int} {l : List Nat} (hf : ms n f l) (hg : ms n g l) : ∀ j : Nat, j < n → srtN n f j = srtN n g j := by
  refine up_eq n srtN_up srtN_up (fun a => ?_)
  rw [cnt_srtN, cnt_srtN]
  by_cases ha : a < 0
  · rw [ms_neg hf.2.1 ha, ms_neg hg.2.1 ha]
  · have e : a = ((a.toNat : Nat) : Int) := by omega
    rw [e, hf.2.2, hg.2.2]
theorem ms_mem {n : Nat} {f : Int → Int} {l : List Nat} (h : ms n f l) {j : Nat} (hj : j < n) : ∃ v : Nat, v ∈ l ∧ f j = v := by
  have h0 := h.2.1 j hj
  refine ⟨(f j).toNat, ?_, by omega⟩
  have h1 := cnt_mem (f := f) n hj
  have e : f j = (((f j).toNat : Nat) : Int) := by omega
  rw [e, h.2.2] at h1
  exact List.count_pos_iff.mp h1
theorem ms_keep {n : Nat} {f g : Int → Int} {l : List Nat} (h : ms n f l) (hc : ∀ a, cnt n g a = cnt n f a) : ms n g l := by
  refine ⟨h.1, fun j hj => ?_, fun a => by rw [hc, h.2.2]⟩
  have h1 := cnt_mem (f := g) n hj
  rw [hc] at h1
  obtain ⟨i, hi, hi2⟩ := cnt_pos n h1
  rw [← hi2]
  exact h.2.1 i hi
theorem ms_srtN {n : Nat} {f : Int → Int} {l : List Nat} (h : ms n f l) : ms n (srtN n f) l := ms_keep h (fun a => cnt_srtN)
theorem ms_rep : ∀ (l : List Nat) (f : Int → Int), rep f l → ms l.length f l := by
  intro l
  have key : ∀ (m : List Nat) (f : Int → Int), rep f m.reverse → ms m.length f m.reverse := by
    intro m
    induction m with
    | nil => intro f _; exact ⟨rfl, fun j hj => absurd hj (Nat.not_lt_zero _), fun a => rfl⟩
    | cons x m ih =>
      intro f h
      have e : (x :: m).reverse = m.reverse ++ [x] := List.reverse_cons
      rw [e] at h ⊢
      have h1 : rep f m.reverse := by
        intro i v hv
        refine h i v ?_
        have hi : i < m.reverse.length := (List.getElem?_eq_some_iff.mp hv).1
        rw [List.getElem?_append_left hi]
        exact hv
      have h2 := ih f h1
      have h3 : f m.length = x := by
        refine h m.length x ?_
        rw [List.getElem?_append_right (by rw [List.length_reverse]; omega), List.length_reverse, Nat.sub_self]
        rfl
      refine ⟨by rw [List.length_append, List.length_reverse]; rfl, fun j hj => ?_, fun a => ?_⟩
      · by_cases ej : j = m.length
        · rw [ej, h3]; omega
        · exact h2.2.1 j (by rw [List.length_cons] at hj; omega)
      · rw [List.length_cons, cnt, h2.2.2 a, h3, List.count_append, List.count_singleton]
        by_cases ea : x = a
        · subst ea; rw [if_pos rfl, if_pos (beq_self_eq_true x)]
        · rw [if_neg (by omega), if_neg (by rw [beq_iff_eq]; exact ea)]
  intro f h
  have := key l.reverse f (by rw [List.reverse_reverse]; exact h)
  rw [List.reverse_reverse, List.length_reverse] at this
  exact this
