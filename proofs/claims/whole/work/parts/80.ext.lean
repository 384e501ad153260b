/-! ===== the class's search: rows of bits, weights ===== -/
def isRow (v : Int) (l : List Nat) : Prop := r64 v ∧ ∀ i, bt v i = decide ((2 ≤ i ∧ i ≤ 60) ∧ 62 - i ∈ l)
theorem isRow_0 : isRow 0 [] := ⟨⟨by omega, by omega⟩, fun i => by rw [bt_0]; simp⟩
theorem isRow_add {v : Int} {P : List Nat} {x : Nat} (h : isRow v P) (h1 : 2 ≤ x) (h2 : x ≤ 60) : isRow (lor64 v (shl64 1 ((62 - x : Nat) : Int))) (P ++ [x]) := by
  refine ⟨r_lor64 _ _, fun i => ?_⟩
  rw [bt_lor, h.2, bt_pow (by omega)]
  by_cases hi : 2 ≤ i ∧ i ≤ 60
  · by_cases a1 : 62 - i ∈ P
    · rw [decide_eq_true (show (2 ≤ i ∧ i ≤ 60) ∧ 62 - i ∈ P from ⟨hi, a1⟩), Bool.true_or]
      exact (decide_eq_true ⟨hi, List.mem_append_left _ a1⟩).symm
    · rw [decide_eq_false (fun w => a1 w.2)]
      by_cases a2 : i = 62 - x
      · rw [decide_eq_true a2, decide_eq_true ⟨hi, List.mem_append_right _ (List.mem_singleton.mpr (by omega))⟩]; rfl
      · rw [decide_eq_false a2, decide_eq_false]; rfl
        rintro ⟨_, w⟩
        rcases List.mem_append.mp w with w | w
        · exact a1 w
        · have := List.mem_singleton.mp w; omega
  · rw [decide_eq_false (fun w => hi w.1), decide_eq_false (by omega), decide_eq_false (fun w => hi w.1)]; rfl
theorem bit4 {Q : Int → Prop} {x : Nat} (h1 : 2 ≤ x) (h2 : x ≤ 60) (h : Q (shl64 1 ((62 - x : Nat) : Int))) : wp_X4_bit Q x := by
  unfold wp_X4_bit wp_X4_bit_11 wp_X4_bit_21
  have e : (62 : Int) - (x : Int) = ((62 - x : Nat) : Int) := by omega
  rw [e]
  exact ⟨fun z => absurd z (by omega), fun _ => ⟨fun _ => ⟨⟨by omega, by omega⟩, h⟩, fun z => absurd z (by omega)⟩⟩
/-- the rows kept so far -/
def RS (z : Nat) (D : List (List Nat)) (f : Int → Int) (n : Int) : Prop := n = ((min D.length z : Nat) : Int) ∧ ∀ (i : Nat) (l : List Nat), i < z → D[i]? = some l → isRow (f i) l
theorem RS_full {z : Nat} {D X : List (List Nat)} {f : Int → Int} {n : Int} (h : RS z D f n) (hz : z ≤ D.length) : RS z (D ++ X) f n := by
  refine ⟨by rw [h.1, List.length_append]; omega, fun i l hi hl => h.2 i l hi ?_⟩
  rw [List.getElem?_append_left (by omega)] at hl
  exact hl
theorem keep2 {Q : (Int → Int) → Int → Prop} {z : Nat} {D : List (List Nat)} {f : Int → Int} {n v : Int} {l : List Nat} (hz : z ≤ 2001) (h : RS z D f n) (hv : isRow v l) (hQ : ∀ f' n', RS z (D ++ [l]) f' n' → Q f' n') : wp_X2_keep Q z f n v := by
  unfold wp_X2_keep wp_X2_keep_33
  have hn := h.1
  refine ⟨fun w => absurd w (by omega), fun _ => ⟨fun w => hQ f n (RS_full h (by omega)), fun w => ⟨by omega, by omega, ⟨by omega, by omega⟩, fun x hx => hQ _ _ ⟨?_, fun i y hi hy => ?_⟩⟩⟩⟩
  · rw [hx, List.length_append, List.length_singleton]; omega
  · have en : n = ((D.length : Nat) : Int) := by omega
    rcases Nat.lt_or_ge i D.length with u | u
    · rw [List.getElem?_append_left u] at hy
      rw [ups_n (by omega)]
      exact h.2 i y hi hy
    · have := (List.getElem?_eq_some_iff.mp hy).1
      rw [List.length_append, List.length_singleton] at this
      have ei : i = D.length := by omega
      subst ei
      rw [List.getElem?_append_right (Nat.le_refl _), Nat.sub_self] at hy
      have : l = y := by simpa using hy
      subst this
      rw [en, ups_s]
      exact hv
theorem SL_skip {c : Nat → Nat} {k t : Nat} : ∀ (A B : List Nat), (∀ x ∈ A, t < c x) → SL c (A ++ B) k t = SL c B k t := by
  intro A
  induction A with
  | nil => intro B _; rfl
  | cons a A ih =>
    intro B h
    cases k with
    | zero => rw [SL_0, SL_0]
    | succ k =>
      have ha := h a List.mem_cons_self
      rw [List.cons_append, SL, if_neg (by omega), if_neg (by omega), List.nil_append]
      exact ih B (fun x hx => h x (List.mem_cons_of_mem _ hx))
theorem top_s {c : Nat → Nat} {m : Nat} : ∀ (vs : List Nat) (k : Nat), (∀ x ∈ vs, c x ≤ m) → ((vs.take (k + 1)).map c).sum ≤ ((vs.take k).map c).sum + m := by
  intro vs
  induction vs with
  | nil => intro k _; simp
  | cons v vs ih =>
    intro k h
    cases k with
    | zero => simp; exact h v List.mem_cons_self
    | succ k =>
      have := ih k (fun x hx => h x (List.mem_cons_of_mem _ hx))
      simp only [List.take_succ_cons, List.map_cons, List.sum_cons] at this ⊢
      omega
theorem SL_top {c : Nat → Nat} : ∀ (vs : List Nat) (k t : Nat), vs.Pairwise (fun x y => c y ≤ c x) → ((vs.take k).map c).sum < t → SL c vs k t = [] := by
  intro vs
  induction vs with
  | nil => intro k t _ _; rfl
  | cons v vs ih =>
    intro k t hp h
    cases k with
    | zero => rfl
    | succ k =>
      obtain ⟨h1, h2⟩ := List.pairwise_cons.mp hp
      have hs := top_s (m := c v) vs k h1
      simp only [List.take_succ_cons, List.map_cons, List.sum_cons] at h
      rw [SL, if_neg (by omega), ih (k + 1) t h2 (by omega), List.append_nil]
      split
      · rw [ih k (t - c v) h2 (by omega)]; rfl
      · rfl
theorem sum_dvd {c : Nat → Nat} {g : Nat} : ∀ l : List Nat, (∀ x ∈ l, g ∣ c x) → g ∣ (l.map c).sum := by
  intro l
  induction l with
  | nil => intro _; exact Nat.dvd_zero g
  | cons a r ih =>
    intro h
    rw [List.map_cons, List.sum_cons]
    exact Nat.dvd_add (h a List.mem_cons_self) (ih (fun x hx => h x (List.mem_cons_of_mem _ hx)))
theorem SL_gcd {c : Nat → Nat} {g k t : Nat} {vs : List Nat} (h : ∀ x ∈ vs, g ∣ c x) (hd : ¬ g ∣ t) : SL c vs k t = [] := by
  rw [List.eq_nil_iff_forall_not_mem]
  intro l hl
  obtain ⟨a, _, _, b⟩ := SL_mem _ _ _ _ hl
  apply hd
  rw [← b]
  exact sum_dvd l (fun x hx => h x (a.subset hx))
/-- what prepare leaves -/
def PD (nums : List Nat) (pt lm : Nat) (nu we wa gr pf : Int → Int) : Prop :=
  nums.Pairwise (fun x y => x < y) ∧ (∀ v ∈ nums, 2 ≤ v ∧ v ≤ lm ∧ v ∣ pt) ∧ lm ≤ 60 ∧ 1 ≤ pt ∧ pt ≤ 10000000000000000 ∧ rep nu nums ∧ rep we (nums.map (fun v => pt / v)) ∧
  (∀ i : Nat, i ≤ nums.length → wa i = (((nums.take i).map (fun v => pt / v)).sum : Nat)) ∧
  (∀ i : Nat, i < nums.length → ∃ g : Nat, gr i = g ∧ 0 < g ∧ ∀ v ∈ nums.drop i, g ∣ pt / v) ∧
  (∀ v : Nat, 2 ≤ v → v ≤ lm → pf v = ((nums.filter (fun x => decide (x < v))).length : Nat))
theorem up_filter : ∀ (l : List Nat) (v : Nat), l.Pairwise (fun x y => x < y) → (∀ x ∈ l.take (l.filter (fun x => decide (x < v))).length, x < v) ∧ ∀ x ∈ l.drop (l.filter (fun x => decide (x < v))).length, v ≤ x := by
  intro l
  induction l with
  | nil => intro v _; simp
  | cons a r ih =>
    intro v hp
    obtain ⟨h1, h2⟩ := List.pairwise_cons.mp hp
    obtain ⟨i1, i2⟩ := ih v h2
    by_cases ha : a < v
    · rw [List.filter_cons_of_pos (p := fun x => decide (x < v)) (by simpa using ha), List.length_cons, List.take_succ_cons, List.drop_succ_cons]
      refine ⟨fun x hx => ?_, i2⟩
      rcases List.mem_cons.mp hx with w | w
      · rw [w]; exact ha
      · exact i1 x w
    · have e : (a :: r).filter (fun x => decide (x < v)) = [] := by
        rw [List.filter_eq_nil_iff]
        intro x hx hd
        have hd2 : x < v := by simpa using hd
        rcases List.mem_cons.mp hx with w | w
        · omega
        · have := h1 x w; omega
      rw [e, List.length_nil, List.take_zero, List.drop_zero]
      refine ⟨fun x hx => by simp at hx, fun x hx => ?_⟩
      rcases List.mem_cons.mp hx with w | w
      · omega
      · have := h1 x w; omega
theorem pt_div {pt v : Nat} (h : v ∣ pt) : pt / v * v = pt := Nat.div_mul_cancel h
/-- where the shares begin that are small enough -/
theorem fna {Q : Int → Prop} {nums : List Nat} {pt lm t : Nat} {nu we wa gr pf : Int → Int} (h : PD nums pt lm nu we wa gr pf) (ht : 1 ≤ t) (htp : t < pt)
    (hQ : ∀ j : Nat, j ≤ nums.length → (∀ x ∈ nums.take j, t < pt / x) → (∀ x ∈ nums.drop j, pt / x ≤ t) → Q j) : wp_X2_firstNotAbove Q pf lm (nums.length : Nat) pt t := by
  obtain ⟨p1, p2, p3, p4, p5, p6, p7, p8, p9, p10⟩ := h
  unfold wp_X2_firstNotAbove wp_X2_firstNotAbove_46 wp_X2_firstNotAbove_50
  have big : ∀ x, x ∣ pt → 1 ≤ x → (x < (pt + t - 1) / t ↔ t < pt / x) := by
    intro x hx hx1
    have e := pt_div hx
    have h1 : (x < (pt + t - 1) / t ↔ x * t < pt) := by
      constructor
      · intro w
        have : (x + 1) * t ≤ pt + t - 1 := (Nat.le_div_iff_mul_le (by omega)).mp w
        rw [Nat.succ_mul] at this
        omega
      · intro w
        have : (x + 1) * t ≤ pt + t - 1 := by rw [Nat.succ_mul]; omega
        exact (Nat.le_div_iff_mul_le (by omega)).mpr this
    rw [h1]
    constructor
    · intro w
      rcases Nat.lt_or_ge t (pt / x) with u | u
      · exact u
      · have : pt / x * x ≤ t * x := Nat.mul_le_mul_right x u
        rw [e, Nat.mul_comm t x] at this
        omega
    · intro w
      have : t * x < pt / x * x := Nat.mul_lt_mul_of_pos_right w hx1
      rw [e, Nat.mul_comm t x] at this
      exact this
  refine roundedUp7 ht (by omega) ?_
  have hc2 : 2 ≤ (pt + t - 1) / t := (Nat.le_div_iff_mul_le (by omega)).mpr (by omega)
  generalize (pt + t - 1) / t = v at big hc2
  have all : (lm < v ∨ 61 ≤ v) → Q ((nums.length : Nat) : Int) := by
    intro hv
    refine hQ nums.length (Nat.le_refl _) (fun x hx => ?_) (fun x hx => by rw [List.drop_length] at hx; simp at hx)
    rw [List.take_length] at hx
    have := p2 x hx
    exact (big x this.2.2 (by omega)).mp (by omega)
  refine ⟨fun w => absurd w (by omega), fun _ => ⟨fun w => all (Or.inl (by omega)), fun w => ⟨fun u => all (Or.inr (by omega)), fun u => ⟨⟨by omega, by omega⟩, by omega, by omega, ?_⟩⟩⟩⟩
  rw [p10 v hc2 (by omega)]
  obtain ⟨u1, u2⟩ := up_filter nums v p1
  refine hQ _ (List.length_filter_le _ _) (fun x hx => ?_) (fun x hx => ?_)
  · have := p2 x (List.mem_of_mem_take hx)
    exact (big x this.2.2 (by omega)).mp (u1 x hx)
  · have := p2 x (List.mem_of_mem_drop hx)
    have h3 := u2 x hx
    rcases Nat.lt_or_ge t (pt / x) with z | z
    · have := (big x this.2.2 (by omega)).mpr z; omega
    · exact z
theorem one_slot {c : Nat → Nat} {t : Nat} : ∀ vs : List Nat, SL c vs 1 t = (vs.filter (fun v => decide (c v = t))).map (fun v => [v]) := by
  intro vs
  induction vs with
  | nil => rfl
  | cons v vs ih =>
    rw [SL, ih]
    by_cases h : c v = t
    · rw [if_pos h, List.filter_cons_of_pos (p := fun v => decide (c v = t)) (decide_eq_true h)]; rfl
    · rw [if_neg h, List.filter_cons_of_neg (p := fun v => decide (c v = t)) (by rw [decide_eq_true_iff]; exact h)]
      split
      · rw [SL_0]; rfl
      · rfl
theorem endWith2 {Q : (Int → Int) → Int → Prop} {z : Nat} {nums : List Nat} {pt lm t fr : Nat} {nu we wa gr pf : Int → Int} {f : Int → Int} {n v : Int} {D : List (List Nat)} {P : List Nat} (hz : z ≤ 2001) (h : PD nums pt lm nu we wa gr pf) (ht : 1 ≤ t) (htp : t < pt) (hS : RS z D f n) (hv : isRow v P)
    (hQ : ∀ f' n', RS z (D ++ (SL (fun v => pt / v) (nums.drop fr) 1 t).map (fun l => P ++ l)) f' n' → Q f' n') : wp_X2_endWith Q z f nu we pf lm (nums.length : Nat) pt n fr t v := by
  unfold wp_X2_endWith wp_X2_endWith_17 wp_X2_endWith_70
  rw [nm_tmod]
  have hpd := h
  obtain ⟨p1, p2, p3, p4, p5, p6, p7, p8, p9, p10⟩ := h
  have none : (∀ x ∈ nums.drop fr, ¬ pt / x = t) → Q f n := by
    intro hno
    have e : SL (fun v => pt / v) (nums.drop fr) 1 t = [] := by
      rw [one_slot, List.map_eq_nil_iff, List.filter_eq_nil_iff]
      intro x hx hd
      exact hno x hx (of_decide_eq_true hd)
    rw [e, List.map_nil, List.append_nil] at hQ
    exact hQ f n hS
  refine ⟨fun w => absurd w (by omega), fun _ => ⟨by omega, fun w => fna hpd ht htp (fun j hj h1 h2 => ?_), fun w => none (fun x hx e => ?_)⟩⟩
  · -- who weighs t stands at j
    have at_j : ∀ i : Nat, i < nums.length → ∀ x, nums[i]? = some x → pt / x = t → i = j := by
      intro i hi x hx e
      have hxm := p2 x (List.mem_of_getElem? hx)
      rcases Nat.lt_trichotomy i j with u | u | u
      · have : x ∈ nums.take j := by
          rw [List.mem_iff_getElem?]
          exact ⟨i, by rw [List.getElem?_take_of_lt u]; exact hx⟩
        have := h1 x this
        omega
      · exact u
      · exfalso
        have hjl : j < nums.length := by omega
        have hy : nums[j] ∈ nums.drop j := by
          rw [List.mem_iff_getElem?]
          exact ⟨0, by rw [List.getElem?_drop, Nat.add_zero]; exact List.getElem?_eq_getElem hjl⟩
        have h3 := h2 _ hy
        have hym := p2 nums[j] (List.getElem_mem hjl)
        have hlt : nums[j] < x := by
          have hx2 := (List.getElem?_eq_some_iff.mp hx)
          obtain ⟨hi2, hx3⟩ := hx2
          rw [← hx3]
          exact List.pairwise_iff_getElem.mp p1 j i hjl hi u
        have e1 := pt_div hym.2.2
        have e2 := pt_div hxm.2.2
        generalize nums[j] = y at *
        have h4 : pt / y * y ≤ t * y := Nat.mul_le_mul_right y h3
        rw [e1] at h4
        rw [e] at e2
        have h5 : t * y < t * x := Nat.mul_lt_mul_of_pos_left hlt ht
        omega
    have none2 : (¬ fr ≤ j ∨ ¬ j < nums.length) → Q f n := by
      intro hor
      refine none (fun x hx e => ?_)
      obtain ⟨i, hi⟩ := List.mem_iff_getElem?.mp hx
      rw [List.getElem?_drop] at hi
      have hil := (List.getElem?_eq_some_iff.mp hi).1
      have := at_j (fr + i) hil x hi e
      omega
    refine ⟨fun u => none2 (Or.inl (by omega)), fun u => ⟨fun y => none2 (Or.inr (by omega)), fun y => ?_⟩⟩
    have hjl : j < nums.length := by omega
    have hget : nums[j]? = some nums[j] := List.getElem?_eq_getElem hjl
    have hwe : we j = ((pt / nums[j] : Nat) : Int) := p7 j _ (by rw [List.getElem?_map, hget]; rfl)
    have hnu : nu j = (nums[j] : Nat) := p6 j _ hget
    have hxm := p2 nums[j] (List.getElem_mem hjl)
    rw [hwe, hnu]
    have hlen60 : nums.length ≤ 59 := by
      have := nodup_le nums (rl lm (lm - 1)) (p1.imp (fun h => Nat.ne_of_lt h)) (fun x hx => by
        have := p2 x hx
        exact (rl_mem (n := lm) (lm - 1) x (by omega)).mpr (by omega))
      have hl : ∀ n m, (rl n m).length = m := by
        intro n m
        induction m with
        | zero => rfl
        | succ m ih => rw [rl, List.length_cons, ih]
      rw [hl] at this
      omega
    generalize hX : nums[j] = X at *
    refine ⟨by omega, by omega, fun e => none (fun x hx e2 => ?_), fun e => ⟨by omega, by omega, bit4 hxm.1 (by omega) (keep2 hz hS (isRow_add hv hxm.1 (by omega)) (fun f' n' hr => hQ f' n' ?_))⟩⟩
    · obtain ⟨i, hi⟩ := List.mem_iff_getElem?.mp hx
      rw [List.getElem?_drop] at hi
      have hil := (List.getElem?_eq_some_iff.mp hi).1
      have hij := at_j (fr + i) hil x hi e2
      rw [hij, hget] at hi
      have := Option.some.inj hi
      subst this
      exact e (by rw [e2])
    · have e3 : pt / X = t := Int.ofNat.inj e
      have efil : (nums.drop fr).filter (fun v => decide (pt / v = t)) = [X] := by
        have hdj : nums.drop fr = (nums.drop fr).take (j - fr) ++ X :: (nums.drop (j + 1)) := by
          have h5 : nums.drop j = X :: nums.drop (j + 1) := by rw [← hX]; exact List.drop_eq_getElem_cons hjl
          have h6 : nums.drop j = (nums.drop fr).drop (j - fr) := by rw [List.drop_drop]; congr 1; omega
          rw [← h5, h6, List.take_append_drop]
        rw [hdj, List.filter_append]
        have z1 : ((nums.drop fr).take (j - fr)).filter (fun v => decide (pt / v = t)) = [] := by
          rw [List.filter_eq_nil_iff]
          intro x hx hd
          have hd2 := of_decide_eq_true hd
          obtain ⟨i, hi⟩ := List.mem_iff_getElem?.mp hx
          have hilt : i < j - fr := by
            have := (List.getElem?_eq_some_iff.mp hi).1
            rw [List.length_take] at this
            omega
          rw [List.getElem?_take_of_lt hilt, List.getElem?_drop] at hi
          have hil := (List.getElem?_eq_some_iff.mp hi).1
          have := at_j (fr + i) hil x hi hd2
          omega
        have z2 : (nums.drop (j + 1)).filter (fun v => decide (pt / v = t)) = [] := by
          rw [List.filter_eq_nil_iff]
          intro x hx hd
          have hd2 := of_decide_eq_true hd
          obtain ⟨i, hi⟩ := List.mem_iff_getElem?.mp hx
          rw [List.getElem?_drop] at hi
          have hil := (List.getElem?_eq_some_iff.mp hi).1
          have := at_j (j + 1 + i) hil x hi hd2
          omega
        rw [z1, List.filter_cons_of_pos (p := fun v => decide (pt / v = t)) (decide_eq_true e3), z2]
        rfl
      rw [one_slot, efil]
      exact hr
  · have hxm := p2 x (List.mem_of_mem_drop hx)
    have := pt_div hxm.2.2
    rw [e] at this
    exact w (by rw [Nat.mod_eq_zero_of_dvd ⟨x, this.symm⟩]; rfl)
