/-! ===== both sides sort by the same insertion ===== -/
def shv (v : Int) : Nat → (Int → Int) → (Int → Int)
  | 0, f => ups f 0 v
  | k + 1, f => if f k ≤ v then ups f ((k + 1 : Nat) : Int) v else shv v k (ups f ((k + 1 : Nat) : Int) (f k))
def srt : Nat → Nat → (Int → Int) → (Int → Int)
  | 0, _, f => f
  | d + 1, i, f => srt d (i + 1) (shv (f i) i f)
/-- a row of n sorted -/
def srtN (n : Nat) (f : Int → Int) : Int → Int := srt (n - 1) 1 f
theorem pio29 {Q : (Int → Int) → Prop} {n : Int} {K : (Int → Int) → Int → Prop} {i : Nat} (hi : i < 16) {v : Int} : ∀ (k : Nat) (f : Int → Int), k ≤ i → K (shv v k f) ((i : Int) + 1) → wp_X3_putInOrder_29 Q n K (k + 1) f i v k := by
  intro k
  induction k with
  | zero =>
    intro f hk h
    rw [wp_X3_putInOrder_29]
    unfold wp_X3_putInOrder_70
    exact ⟨fun _ => ⟨by omega, by omega, ⟨by omega, by omega⟩, h⟩, fun z => absurd z (by omega)⟩
  | succ k ih =>
    intro f hk h
    rw [wp_X3_putInOrder_29]
    unfold wp_X3_putInOrder_70
    have e : ((k + 1 : Nat) : Int) - 1 = (k : Int) := by omega
    have e2 : ((k + 1 : Nat) : Int) + (-1) = (k : Int) := by omega
    rw [e, e2]
    rw [shv] at h
    refine ⟨fun z => absurd z (by omega), fun _ => ⟨⟨by omega, by omega⟩, by omega, by omega, fun z => ?_, fun z => ⟨⟨by omega, by omega⟩, by omega, by omega, fun x hx => ⟨by omega, by omega, ⟨by omega, by omega⟩, ?_⟩⟩⟩⟩
    · rw [if_pos z] at h
      exact ⟨by omega, by omega, ⟨by omega, by omega⟩, h⟩
    · rw [if_neg z] at h
      rw [hx]
      exact ih _ (by omega) h
theorem pio2 {Q : (Int → Int) → Prop} {n : Nat} (hn : n ≤ 16) : ∀ (d i : Nat) (f : Int → Int), (d = 0 → n ≤ i) → (0 < d → i + d = n) → Q (srt d i f) → wp_X3_putInOrder_2 Q n (d + 1) f i := by
  intro d
  induction d with
  | zero =>
    intro i f h1 h2 h
    rw [wp_X3_putInOrder_2]
    have := h1 rfl
    exact ⟨fun _ => h, fun z => absurd z (by omega)⟩
  | succ d ih =>
    intro i f h1 h2 h
    have h3 := h2 (by omega)
    rw [wp_X3_putInOrder_2]
    rw [srt] at h
    refine ⟨fun z => absurd z (by omega), fun _ => ⟨fun z => absurd z (by omega), fun _ => ⟨by omega, by omega, fun x hx => ⟨i + 1, ?_⟩⟩⟩⟩
    rw [hx]
    exact pio29 (by omega) i f (Nat.le_refl _) (ih (i + 1) _ (by omega) (by omega) h)
theorem putInOrder3 {Q : (Int → Int) → Prop} {n : Nat} (hn : n ≤ 16) {f : Int → Int} (h : Q (srtN n f)) : wp_X3_putInOrder Q f n := ⟨n - 1 + 1, pio2 hn (n - 1) 1 f (by omega) (by omega) h⟩
theorem so20 {Q : (Int → Int) → Prop} {n : Int} {K : (Int → Int) → Int → Prop} {i : Nat} (hi : i < 17) {v : Int} : ∀ (k : Nat) (f : Int → Int), k ≤ i → K (shv v k f) ((i : Int) + 1) → wp_X8_sort_20 Q n K (k + 1) f i v k := by
  intro k
  induction k with
  | zero =>
    intro f hk h
    rw [wp_X8_sort_20]
    unfold wp_X8_sort_61
    exact ⟨fun _ => ⟨by omega, by omega, ⟨by omega, by omega⟩, h⟩, fun z => absurd z (by omega)⟩
  | succ k ih =>
    intro f hk h
    rw [wp_X8_sort_20]
    unfold wp_X8_sort_61
    have e : ((k + 1 : Nat) : Int) - 1 = (k : Int) := by omega
    have e2 : ((k + 1 : Nat) : Int) + (-1) = (k : Int) := by omega
    rw [e, e2]
    rw [shv] at h
    refine ⟨fun z => absurd z (by omega), fun _ => ⟨⟨by omega, by omega⟩, by omega, by omega, fun z => ?_, fun z => ⟨⟨by omega, by omega⟩, by omega, by omega, fun x hx => ⟨by omega, by omega, ⟨by omega, by omega⟩, ?_⟩⟩⟩⟩
    · rw [if_pos z] at h
      exact ⟨by omega, by omega, ⟨by omega, by omega⟩, h⟩
    · rw [if_neg z] at h
      rw [hx]
      exact ih _ (by omega) h
theorem so2 {Q : (Int → Int) → Prop} {n : Nat} (hn : n ≤ 17) : ∀ (d i : Nat) (f : Int → Int), (d = 0 → n ≤ i) → (0 < d → i + d = n) → Q (srt d i f) → wp_X8_sort_2 Q n (d + 1) f i := by
  intro d
  induction d with
  | zero =>
    intro i f h1 h2 h
    rw [wp_X8_sort_2]
    have := h1 rfl
    exact ⟨fun _ => h, fun z => absurd z (by omega)⟩
  | succ d ih =>
    intro i f h1 h2 h
    have h3 := h2 (by omega)
    rw [wp_X8_sort_2]
    rw [srt] at h
    refine ⟨fun z => absurd z (by omega), fun _ => ⟨by omega, by omega, fun x hx => ⟨i + 1, ?_⟩⟩⟩
    rw [hx]
    exact so20 (by omega) i f (Nat.le_refl _) (ih (i + 1) _ (by omega) (by omega) h)
theorem sort8 {Q : (Int → Int) → Prop} {n : Nat} (hn : n ≤ 17) {f : Int → Int} (h : Q (srtN n f)) : wp_X8_sort Q n f := ⟨n - 1 + 1, so2 hn (n - 1) 1 f (by omega) (by omega) h⟩
/-- it looks at the row's own places alone -/
theorem shv_cong {v : Int} {N : Nat} : ∀ (k : Nat) (f g : Int → Int), k < N → (∀ j : Nat, j < N → f j = g j) → ∀ j : Nat, j < N → shv v k f j = shv v k g j := by
  intro k
  induction k with
  | zero =>
    intro f g hk h j hj
    show ups f 0 v j = ups g 0 v j
    unfold ups
    split
    · rfl
    · exact h j hj
  | succ k ih =>
    intro f g hk h j hj
    rw [shv, shv, h k (by omega)]
    have hu : ∀ w : Int, ∀ i : Nat, i < N → ups f ((k + 1 : Nat) : Int) w i = ups g ((k + 1 : Nat) : Int) w i := by
      intro w i hi
      unfold ups
      split
      · rfl
      · exact h i hi
    split
    · exact hu v j hj
    · exact ih _ _ (by omega) (hu _) j hj
theorem srt_cong {N : Nat} : ∀ (d i : Nat) (f g : Int → Int), i + d ≤ N → (∀ j : Nat, j < N → f j = g j) → ∀ j : Nat, j < N → srt d i f j = srt d i g j := by
  intro d
  induction d with
  | zero => intro i f g hi h j hj; exact h j hj
  | succ d ih =>
    intro i f g hi h j hj
    rw [srt, srt, h i (by omega)]
    exact ih (i + 1) _ _ (by omega) (shv_cong i f g (by omega) h) j hj
theorem srtN_cong {n : Nat} {f g : Int → Int} (h : ∀ j : Nat, j < n → f j = g j) : ∀ j : Nat, j < n → srtN n f j = srtN n g j := by
  intro j hj
  exact srt_cong (n - 1) 1 f g (by omega) h j hj
