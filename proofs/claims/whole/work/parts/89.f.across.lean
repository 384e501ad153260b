/-! ===== the class: where a row stands; across one swap ===== -/
theorem nat_lt_bit {x y i : Nat} (hx : x.testBit i = false) (hy : y.testBit i = true) (h : ∀ j, i < j → x.testBit j = y.testBit j) : x < y := by
  have e : x / 2 ^ (i + 1) = y / 2 ^ (i + 1) := by
    apply Nat.eq_of_testBit_eq
    intro j
    rw [Nat.testBit_div_two_pow, Nat.testBit_div_two_pow]
    exact h _ (by omega)
  have hx2 : x / 2 ^ i % 2 = 0 := by
    rw [Nat.testBit_eq_decide_div_mod_eq] at hx
    have := of_decide_eq_false hx
    omega
  have hy2 : y / 2 ^ i % 2 = 1 := by
    rw [Nat.testBit_eq_decide_div_mod_eq] at hy
    exact of_decide_eq_true hy
  have ex : x / 2 ^ i / 2 = x / 2 ^ (i + 1) := by rw [Nat.div_div_eq_div_mul, Nat.pow_succ]
  have ey : y / 2 ^ i / 2 = y / 2 ^ (i + 1) := by rw [Nat.div_div_eq_div_mul, Nat.pow_succ]
  rcases Nat.lt_or_ge x y with w | w
  · exact w
  · have := Nat.div_le_div_right (c := 2 ^ i) w
    omega
theorem row_lt {v v' : Int} {l l' : List Nat} (hr : isRow v l) (hr' : isRow v' l') (hu : upL l) (hu' : upL l') (hb : ∀ x ∈ l, 2 ≤ x ∧ x ≤ 60) (h : lx l l') : v' < v := by
  obtain ⟨x, e, _, ht⟩ := row_nat hr
  obtain ⟨y, e', _, ht'⟩ := row_nat hr'
  obtain ⟨pre, r, r', a, b, rfl, rfl, hab⟩ := h
  have ha := hb a (List.mem_append_right _ List.mem_cons_self)
  obtain ⟨_, u2, u3⟩ := List.pairwise_append.mp hu
  obtain ⟨_, w2, w3⟩ := List.pairwise_append.mp hu'
  have u4 := (List.pairwise_cons.mp u2).1
  have w4 := (List.pairwise_cons.mp w2).1
  have : y < x := by
    refine nat_lt_bit (i := 62 - a) ?_ ?_ (fun j hj => ?_)
    · rw [ht']
      refine decide_eq_false (fun z => ?_)
      have z2 := z.2
      rw [show 62 - (62 - a) = a by omega] at z2
      rcases List.mem_append.mp z2 with z3 | z3
      · have := u3 a z3 a List.mem_cons_self; omega
      · rcases List.mem_cons.mp z3 with z4 | z4
        · omega
        · have := w4 a z4; omega
    · rw [ht]
      refine decide_eq_true ⟨⟨by omega, by omega⟩, ?_⟩
      rw [show 62 - (62 - a) = a by omega]
      exact List.mem_append_right _ List.mem_cons_self
    · rw [ht, ht', decide_eq_decide]
      have key : 62 - j < a → ((62 - j ∈ pre ++ b :: r') ↔ (62 - j ∈ pre ++ a :: r)) := by
        intro hlt
        constructor
        · intro z
          rcases List.mem_append.mp z with z3 | z3
          · exact List.mem_append_left _ z3
          · rcases List.mem_cons.mp z3 with z4 | z4
            · omega
            · have := w4 _ z4; omega
        · intro z
          rcases List.mem_append.mp z with z3 | z3
          · exact List.mem_append_left _ z3
          · rcases List.mem_cons.mp z3 with z4 | z4
            · omega
            · have := u4 _ z4; omega
      constructor
      · rintro ⟨z1, z2⟩
        exact ⟨z1, (key (by omega)).mp z2⟩
      · rintro ⟨z1, z2⟩
        exact ⟨z1, (key (by omega)).mpr z2⟩
  omega
theorem row_eq {v v' : Int} {l l' : List Nat} (hr : isRow v l) (hr' : isRow v' l') (hb : ∀ x ∈ l, 2 ≤ x ∧ x ≤ 60) (hb' : ∀ x ∈ l', 2 ≤ x ∧ x ≤ 60) : v = v' ↔ ∀ x, x ∈ l ↔ x ∈ l' := by
  constructor
  · intro e
    subst e
    have key : ∀ m m' : List Nat, isRow v m → isRow v m' → (∀ x ∈ m, 2 ≤ x ∧ x ≤ 60) → ∀ x, x ∈ m → x ∈ m' := by
      intro m m' h1 h2 hb x hx
      have hxb := hb x hx
      have e1 := h1.2 (62 - x)
      have e2 := h2.2 (62 - x)
      rw [e1] at e2
      have ht : decide ((2 ≤ 62 - x ∧ 62 - x ≤ 60) ∧ 62 - (62 - x) ∈ m) = true := decide_eq_true ⟨⟨by omega, by omega⟩, by rw [show 62 - (62 - x) = x by omega]; exact hx⟩
      rw [ht] at e2
      have := (of_decide_eq_true e2.symm).2
      rw [show 62 - (62 - x) = x by omega] at this
      exact this
    intro x
    exact ⟨key l l' hr hr' hb x, key l' l hr' hr hb' x⟩
  · intro h
    refine bt_ext hr.1 hr'.1 (fun i _ => ?_)
    rw [hr.2, hr'.2, decide_eq_decide, h]
def rowsOf (D : List (List Nat)) (rows : Int → Int) : Prop := ∀ (i : Nat) (l : List Nat), D[i]? = some l → isRow (rows i) l
theorem DD_lx {D : List (List Nat)} {k : Nat} (hD : DD D k) {i j : Nat} {l l' : List Nat} (hl : D[i]? = some l) (hl' : D[j]? = some l') (h : i < j) : lx l l' := by
  obtain ⟨h1, e1⟩ := List.getElem?_eq_some_iff.mp hl
  obtain ⟨h2, e2⟩ := List.getElem?_eq_some_iff.mp hl'
  have := List.pairwise_iff_getElem.mp hD.2.2.2.2.1 i j h1 h2 h
  rw [e1, e2] at this
  exact this
theorem rows_fall {D : List (List Nat)} {k : Nat} {rows : Int → Int} (hD : DD D k) (hrow : rowsOf D rows) {i j : Nat} (h : i < j) (hj : j < D.length) : rows j < rows i := by
  obtain ⟨l, hl, _, hg, hu, _⟩ := DD_get hD (show i < D.length by omega)
  obtain ⟨l', hl', _, hg', hu', _⟩ := DD_get hD hj
  exact row_lt (hrow i l hl) (hrow j l' hl') hu hu' hg.2.2 (DD_lx hD hl hl' h)
theorem lx_irr {l : List Nat} : ¬ lx l l := by
  rintro ⟨pre, r, r', x, y, e1, e2, h⟩
  rw [e1] at e2
  have := List.append_cancel_left e2
  injection this with a b
  omega
theorem DD_inj {D : List (List Nat)} {k : Nat} (hD : DD D k) {i j : Nat} {l : List Nat} (hl : D[i]? = some l) (hl' : D[j]? = some l) : i = j := by
  rcases Nat.lt_trichotomy i j with h | h | h
  · exact absurd (DD_lx hD hl hl' h) lx_irr
  · exact h
  · exact absurd (DD_lx hD hl' hl h) lx_irr
theorem placeOf1 {Q : Int → Prop} {D : List (List Nat)} {k : Nat} {rows : Int → Int} {x : Int} (hD : DD D k) (hrow : rowsOf D rows) (h1 : ∀ (t : Nat) (l : List Nat), D[t]? = some l → isRow x l → Q t) (h2 : (∀ (t : Nat) (l : List Nat), D[t]? = some l → ¬ isRow x l) → Q (-1)) : wp_X1_placeOf Q rows (D.length : Nat) x := by
  have hDl := hD.1
  have same : ∀ (t : Nat) (l : List Nat), D[t]? = some l → isRow x l → rows t = x := by
    intro t l hl hx
    exact bt_ext (hrow t l hl).1 hx.1 (fun i _ => by rw [(hrow t l hl).2, hx.2])
  have loop : ∀ (c lo hi tr : Nat), hi ≤ D.length → hi - lo < 2 ^ c → tr + c ≤ 12 → (∀ (t : Nat) (l : List Nat), D[t]? = some l → isRow x l → lo ≤ t ∧ t < hi) → wp_X1_placeOf_13 Q rows (D.length : Nat) (c + 1) x lo ((hi : Int) - 1) tr := by
    intro c
    induction c with
    | zero =>
      intro lo hi tr hh hs ht hin
      rw [wp_X1_placeOf_13]
      unfold wp_X1_placeOf_81
      have : hi ≤ lo := by simp at hs; omega
      refine ⟨fun z => absurd z (by omega), fun _ => ⟨fun _ => h2 (fun t l hl hx => ?_), fun z => absurd z (by omega)⟩⟩
      have := hin t l hl hx
      omega
    | succ c ih =>
      intro lo hi tr hh hs ht hin
      rw [wp_X1_placeOf_13]
      unfold wp_X1_placeOf_81 wp_X1_placeOf_75
      have h2c : 2 ^ (c + 1) = 2 * 2 ^ c := by rw [Nat.pow_succ, Nat.mul_comm]
      refine ⟨fun z => absurd z (by omega), fun _ => ⟨fun z => h2 (fun t l hl hx => ?_), fun z => ⟨⟨by omega, by omega⟩, fun m hm => ?_⟩⟩⟩
      · have := hin t l hl hx
        omega
      · have em : (lo : Int) + ((hi : Int) - 1) = ((lo + hi - 1 : Nat) : Int) := by omega
        rw [em, show (2 : Int) = ((2 : Nat) : Int) from rfl, nm_tdiv] at hm
        generalize hM : (lo + hi - 1) / 2 = M at hm
        subst hm
        have hM1 : lo ≤ M := by omega
        have hM2 : M < hi := by omega
        have e2 : (tr : Int) + 1 = ((tr + 1 : Nat) : Int) := rfl
        rw [e2]
        refine ⟨by omega, by omega, fun hne => ⟨by omega, by omega, fun hle => ⟨⟨by omega, by omega⟩, fun y hy => ⟨⟨by omega, by omega⟩, ?_⟩⟩, fun hgt => ⟨⟨by omega, by omega⟩, fun y hy => ⟨⟨by omega, by omega⟩, ?_⟩⟩⟩, fun he => ?_⟩
        · rw [hy]
          refine ih lo M (tr + 1) (by omega) (by omega) (by omega) (fun t l hl hx => ?_)
          have hb := hin t l hl hx
          have es := same t l hl hx
          refine ⟨hb.1, ?_⟩
          rcases Nat.lt_trichotomy t M with w | w | w
          · exact w
          · rw [w] at es; exact absurd es hne
          · have := rows_fall hD hrow w (by omega); omega
        · rw [hy, show (M : Int) + 1 = ((M + 1 : Nat) : Int) from rfl]
          refine ih (M + 1) hi (tr + 1) hh (by omega) (by omega) (fun t l hl hx => ?_)
          have hb := hin t l hl hx
          have es := same t l hl hx
          refine ⟨?_, hb.2⟩
          rcases Nat.lt_trichotomy t M with w | w | w
          · have := rows_fall hD hrow w (by omega); omega
          · rw [w] at es; exact absurd es hne
          · omega
        · obtain ⟨l, hl, _⟩ := DD_get hD (show M < D.length by omega)
          refine h1 M l hl ?_
          rw [← he]
          exact hrow M l hl
  unfold wp_X1_placeOf
  refine ⟨⟨by omega, by omega⟩, fun y hy => ⟨12 + 1, ?_⟩⟩
  rw [hy]
  exact loop 12 0 D.length 0 (Nat.le_refl _) (by have : 2 ^ 12 = 4096 := by decide
                                                 omega) (by omega) (fun t l hl _ => ⟨by omega, (List.getElem?_eq_some_iff.mp hl).1⟩)
/-- one swap between two sums -/
def hop (s : Nat × Nat × Nat) (l l' : List Nat) : Prop := ((s.1 ∈ l ∧ ¬ s.2.1 ∈ l ∧ ¬ s.2.2 ∈ l) ∨ (¬ s.1 ∈ l ∧ s.2.1 ∈ l ∧ s.2.2 ∈ l)) ∧ ∀ x, x ∈ l' ↔ ((x ∈ l ∧ ¬ (x = s.1 ∨ x = s.2.1 ∨ x = s.2.2)) ∨ (¬ x ∈ l ∧ (x = s.1 ∨ x = s.2.1 ∨ x = s.2.2)))
def swOk (s : Nat × Nat × Nat) : Prop := 2 ≤ s.1 ∧ s.1 < s.2.1 ∧ s.2.1 < s.2.2 ∧ s.2.2 ≤ 60 ∧ s.2.1 * s.2.2 = s.1 * (s.2.1 + s.2.2)
def SR (L : List (Nat × Nat × Nat)) (ones twos : Int → Int) (sw : Int) : Prop := sw = (L.length : Nat) ∧ ∀ (i : Nat) (s : Nat × Nat × Nat), L[i]? = some s → isRow (ones i) [s.1] ∧ isRow (twos i) [s.2.1, s.2.2]
def xrL (l m : List Nat) : List Nat := (rl 60 59).filter (fun x => Bool.xor (decide (x ∈ l)) (decide (x ∈ m)))
theorem xrL_up (l m : List Nat) : upL (xrL l m) := List.Pairwise.filter _ (rl_up 59 (by omega))
theorem xrL_mem {l m : List Nat} (hl : ∀ x ∈ l, 2 ≤ x ∧ x ≤ 60) (hm : ∀ x ∈ m, 2 ≤ x ∧ x ≤ 60) (x : Nat) : x ∈ xrL l m ↔ ((x ∈ l ∧ ¬ x ∈ m) ∨ (¬ x ∈ l ∧ x ∈ m)) := by
  unfold xrL
  rw [List.mem_filter, rl_mem 59 x (by omega)]
  by_cases a : x ∈ l
  · by_cases b : x ∈ m
    · simp [a, b]
    · have := hl x a
      simp [a, b]
      omega
  · by_cases b : x ∈ m
    · have := hm x b
      simp [a, b]
      omega
    · simp [a, b]
theorem xrL_b {l m : List Nat} : ∀ x ∈ xrL l m, 2 ≤ x ∧ x ≤ 60 := by
  intro x hx
  have := (rl_mem (n := 60) 59 x (by omega)).mp (List.mem_filter.mp hx).1
  omega
theorem row_xor {v w : Int} {l m : List Nat} (h : isRow v l) (h' : isRow w m) (hl : ∀ x ∈ l, 2 ≤ x ∧ x ≤ 60) (hm : ∀ x ∈ m, 2 ≤ x ∧ x ≤ 60) : isRow (lxor64 v w) (xrL l m) := by
  refine ⟨r_lxor64 _ _, fun i => ?_⟩
  rw [bt_lxor, h.2, h'.2]
  have := xrL_mem hl hm (62 - i)
  by_cases c : 2 ≤ i ∧ i ≤ 60
  · by_cases a : 62 - i ∈ l
    · by_cases b : 62 - i ∈ m
      · rw [decide_eq_true ⟨c, a⟩, decide_eq_true ⟨c, b⟩, decide_eq_false (fun z => by rcases this.mp z.2 with w | w; (exact w.2 b); (exact w.1 a))]; rfl
      · rw [decide_eq_true ⟨c, a⟩, decide_eq_false (fun z => b z.2), decide_eq_true ⟨c, this.mpr (Or.inl ⟨a, b⟩)⟩]; rfl
    · by_cases b : 62 - i ∈ m
      · rw [decide_eq_false (fun z => a z.2), decide_eq_true ⟨c, b⟩, decide_eq_true ⟨c, this.mpr (Or.inr ⟨a, b⟩)⟩]; rfl
      · rw [decide_eq_false (fun z => a z.2), decide_eq_false (fun z => b z.2), decide_eq_false (fun z => by rcases this.mp z.2 with w | w; (exact a w.1); (exact b w.2))]; rfl
  · rw [decide_eq_false (fun z => c z.1), decide_eq_false (fun z => c z.1), decide_eq_false (fun z => c z.1)]; rfl
theorem row_and {v w : Int} {l m : List Nat} (h : isRow v l) (h' : isRow w m) : isRow (land64 v w) (l.filter (fun x => decide (x ∈ m))) := by
  refine ⟨r_land64 _ _, fun i => ?_⟩
  rw [bt_land, h.2, h'.2, Bool.eq_iff_iff]
  simp only [Bool.and_eq_true, decide_eq_true_eq, List.mem_filter]
  constructor
  · rintro ⟨⟨a, b⟩, c, d⟩; exact ⟨a, b, d⟩
  · rintro ⟨a, b, c⟩; exact ⟨⟨a, b⟩, a, c⟩
theorem row_or {v w : Int} {l m : List Nat} (h : isRow v l) (h' : isRow w m) : isRow (lor64 v w) (l ++ m) := by
  refine ⟨r_lor64 _ _, fun i => ?_⟩
  rw [bt_lor, h.2, h'.2, Bool.eq_iff_iff]
  simp only [Bool.or_eq_true, decide_eq_true_eq, List.mem_append]
  constructor
  · rintro (⟨a, b⟩ | ⟨a, b⟩)
    · exact ⟨a, Or.inl b⟩
    · exact ⟨a, Or.inr b⟩
  · rintro ⟨a, b | b⟩
    · exact Or.inl ⟨a, b⟩
    · exact Or.inr ⟨a, b⟩
theorem across1 {Q : Int → Prop} {D : List (List Nat)} {k : Nat} {rows ones twos : Int → Int} {sw : Int} {L : List (Nat × Nat × Nat)} {v : Int} {l : List Nat} (hD : DD D k) (hrow : rowsOf D rows) (hS : SR L ones twos sw) (hL : L.length ≤ 31) (hv : isRow v l) (hu : upL l) (hb : ∀ x ∈ l, 2 ≤ x ∧ x ≤ 60) {i : Nat} {s : Nat × Nat × Nat} (hs : L[i]? = some s) (hok : swOk s)
    (h1 : ∀ (t : Nat) (l' : List Nat), D[t]? = some l' → hop s l l' → Q t) (h2 : (∀ (t : Nat) (l' : List Nat), D[t]? = some l' → ¬ hop s l l') → Q (-1)) : wp_X1_across Q rows ones twos (D.length : Nat) k v i := by
  have hi := (List.getElem?_eq_some_iff.mp hs).1
  obtain ⟨r1, r2⟩ := hS.2 i s hs
  obtain ⟨n, a, b⟩ := s
  obtain ⟨o1, o2, o3, o4, o5⟩ := hok
  have o1' : 2 ≤ n := o1
  have o2' : n < a := o2
  have o3' : a < b := o3
  have o4' : b ≤ 60 := o4
  have hB := row_or r1 r2
  have hm3 : ∀ x, x ∈ ([n] ++ [a, b] : List Nat) ↔ (x = n ∨ x = a ∨ x = b) := by intro x; simp
  have hb3 : ∀ x ∈ ([n] ++ [a, b] : List Nat), 2 ≤ x ∧ x ≤ 60 := by
    intro x hx
    rcases (hm3 x).mp hx with w | w | w <;> omega
  have hA := row_and hv hB
  have hX := row_xor hv hB hb hb3
  have hAb : ∀ x ∈ l.filter (fun x => decide (x ∈ ([n] ++ [a, b] : List Nat))), 2 ≤ x ∧ x ≤ 60 := fun x hx => hb x (List.mem_filter.mp hx).1
  have hAm : ∀ x, x ∈ l.filter (fun x => decide (x ∈ ([n] ++ [a, b] : List Nat))) ↔ (x ∈ l ∧ (x = n ∨ x = a ∨ x = b)) := by
    intro x
    rw [List.mem_filter, decide_eq_true_eq, hm3]
  have e1 := row_eq hA r1 hAb (fun x hx => by have := List.mem_singleton.mp hx; omega)
  have e2 := row_eq hA r2 hAb (fun x hx => by rcases List.mem_cons.mp hx with w | w; (have : x = a := w; omega); (have := List.mem_singleton.mp w; have : x = b := this; omega))
  have c1 : land64 v (lor64 (ones i) (twos i)) = ones i ↔ (n ∈ l ∧ ¬ a ∈ l ∧ ¬ b ∈ l) := by
    rw [e1]
    constructor
    · intro h
      refine ⟨((hAm n).mp ((h n).mpr (List.mem_singleton.mpr rfl))).1, fun z => ?_, fun z => ?_⟩
      · have := List.mem_singleton.mp ((h a).mp ((hAm a).mpr ⟨z, Or.inr (Or.inl rfl)⟩))
        have : a = n := this
        omega
      · have := List.mem_singleton.mp ((h b).mp ((hAm b).mpr ⟨z, Or.inr (Or.inr rfl)⟩))
        have : b = n := this
        omega
    · rintro ⟨z1, z2, z3⟩ x
      rw [hAm]
      constructor
      · rintro ⟨y1, y2 | y2 | y2⟩
        · exact List.mem_singleton.mpr y2
        · rw [y2] at y1; exact absurd y1 z2
        · rw [y2] at y1; exact absurd y1 z3
      · intro y
        have y' : x = n := List.mem_singleton.mp y
        rw [y']
        exact ⟨z1, Or.inl rfl⟩
  have c2 : land64 v (lor64 (ones i) (twos i)) = twos i ↔ (¬ n ∈ l ∧ a ∈ l ∧ b ∈ l) := by
    rw [e2]
    constructor
    · intro h
      refine ⟨fun z => ?_, ((hAm a).mp ((h a).mpr (by simp))).1, ((hAm b).mp ((h b).mpr (by simp))).1⟩
      have := (h n).mp ((hAm n).mpr ⟨z, Or.inl rfl⟩)
      simp at this
      omega
    · rintro ⟨z1, z2, z3⟩ x
      rw [hAm]
      constructor
      · rintro ⟨y1, y2 | y2 | y2⟩
        · rw [y2] at y1; exact absurd y1 z1
        · simp [y2]
        · simp [y2]
      · intro y
        simp at y
        rcases y with y | y
        · rw [y]; exact ⟨z2, Or.inr (Or.inl rfl)⟩
        · rw [y]; exact ⟨z3, Or.inr (Or.inr rfl)⟩
  have hxm : ∀ x, x ∈ xrL l ([n] ++ [a, b]) ↔ ((x ∈ l ∧ ¬ (x = n ∨ x = a ∨ x = b)) ∨ (¬ x ∈ l ∧ (x = n ∨ x = a ∨ x = b))) := by
    intro x
    rw [xrL_mem hb hb3, hm3]
  have go : ((n ∈ l ∧ ¬ a ∈ l ∧ ¬ b ∈ l) ∨ (¬ n ∈ l ∧ a ∈ l ∧ b ∈ l)) → ∀ x51, x51 = lxor64 v (lor64 (ones i) (twos i)) → wp_J13_bitCount_95d88 (fun (x55 : Int) => ((x55 ≤ (k : Int) → wp_X1_placeOf (fun (x72 : Int) => Q x72) rows (D.length : Nat) x51) ∧ (¬ (x55 ≤ (k : Int)) → Q (-1)))) x51 := by
    intro hc x51 hx
    rw [hx]
    refine bitCount4 hX (xrL_up _ _) xrL_b ⟨fun hle => placeOf1 hD hrow (fun t l' hl' hr' => h1 t l' hl' ⟨hc, fun x => ?_⟩) (fun hno => h2 (fun t l' hl' hh => hno t l' hl' ?_)), fun hgt => h2 (fun t l' hl' hh => ?_)⟩
    · obtain ⟨l2, hl2, _, hg2, hu2, _⟩ := DD_get hD (List.getElem?_eq_some_iff.mp hl').1
      rw [hl'] at hl2
      have := Option.some.inj hl2
      subst this
      rw [← hxm]
      exact (row_eq hr' hX hg2.2.2 xrL_b).mp rfl x
    · obtain ⟨l2, hl2, _, hg2, hu2, _⟩ := DD_get hD (List.getElem?_eq_some_iff.mp hl').1
      rw [hl'] at hl2
      have := Option.some.inj hl2
      subst this
      have := up_ext l' _ hu2 (xrL_up l ([n] ++ [a, b])) (fun x => by rw [hxm]; exact hh.2 x)
      rw [this]
      exact hX
    · obtain ⟨l2, hl2, _, hg2, hu2, _⟩ := DD_get hD (List.getElem?_eq_some_iff.mp hl').1
      rw [hl'] at hl2
      have := Option.some.inj hl2
      subst this
      have := up_ext l' _ hu2 (xrL_up l ([n] ++ [a, b])) (fun x => by rw [hxm]; exact hh.2 x)
      have h3 := hg2.2.1
      rw [this] at h3
      exact absurd (show (((xrL l ([n] ++ [a, b])).length : Nat) : Int) ≤ (k : Int) by omega) hgt
  unfold wp_X1_across wp_X1_across_47 wp_X1_across_75
  refine ⟨by omega, by omega, by omega, by omega, fun x13 h13 x19 h19 => ?_⟩
  rw [h19, h13]
  refine ⟨by omega, by omega, fun hz => go (Or.inl (c1.mp hz)), fun hz => ⟨by omega, by omega, fun hy => go (Or.inr (c2.mp hy)), fun hy => h2 (fun t l' hl' hh => ?_)⟩⟩
  rcases hh.1 with w | w
  · exact hz (c1.mpr w)
  · exact hy (c2.mpr w)
