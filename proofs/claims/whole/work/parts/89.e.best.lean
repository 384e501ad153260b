/-! ===== best: both sides ===== -/
def ev (l : List Nat) : Nat := (l.filter (fun x => decide (x % 2 = 0))).length
def od (l : List Nat) : Nat := (l.filter (fun x => decide (x % 2 = 1))).length
theorem ev_od : ∀ l : List Nat, ev l + od l = l.length := by
  intro l
  induction l with
  | nil => rfl
  | cons a t ih =>
    unfold ev od at ih ⊢
    rw [List.filter_cons, List.filter_cons, List.length_cons]
    by_cases h : a % 2 = 0
    · rw [if_pos (decide_eq_true h), if_neg (by rw [decide_eq_true_iff]; omega), List.length_cons]; omega
    · rw [if_neg (by rw [decide_eq_true_iff]; omega), if_pos (decide_eq_true (by omega)), List.length_cons]; omega
def wth (c : Int) (l : List Nat) : Int := if c = 101 then (ev l : Int) else if c = 102 then -(l.length : Int) else if c = 103 then ((l.getD 0 0 : Nat) : Int) else if c = 108 then -((l.getD (l.length - 1) 0 : Nat) : Int) else if c = 115 then -((l.sum : Nat) : Int) else (od l : Int)
theorem bt_even : ∀ i, bt 6148914691236517205 i = decide (i < 64 ∧ i % 2 = 0) := by
  intro i
  have key : ∀ i : Fin 64, (6148914691236517205 : Nat).testBit i.1 = decide (i.1 < 64 ∧ i.1 % 2 = 0) := by decide +kernel
  by_cases h : i < 64
  · have := bt_nat (n := 6148914691236517205) (by omega) i
    rw [show (6148914691236517205 : Int) = ((6148914691236517205 : Nat) : Int) from rfl, this]
    exact key ⟨i, h⟩
  · rw [bt_ge (by omega), decide_eq_false (by omega)]
theorem bt_odd : ∀ i, bt (-6148914691236517206) i = decide (i < 64 ∧ i % 2 = 1) := by
  intro i
  have key : ∀ i : Fin 64, bt (-6148914691236517206) i.1 = decide (i.1 < 64 ∧ i.1 % 2 = 1) := by decide +kernel
  by_cases h : i < 64
  · exact key ⟨i, h⟩
  · rw [bt_ge (by omega), decide_eq_false (by omega)]
theorem row_even {v : Int} {l : List Nat} (h : isRow v l) : isRow (land64 v 6148914691236517205) (l.filter (fun x => decide (x % 2 = 0))) := by
  refine ⟨r_land64 _ _, fun i => ?_⟩
  rw [bt_land, h.2, bt_even, Bool.eq_iff_iff]
  simp only [Bool.and_eq_true, decide_eq_true_eq, List.mem_filter]
  constructor
  · rintro ⟨⟨a, b⟩, c, d⟩; exact ⟨a, b, by omega⟩
  · rintro ⟨a, b, c⟩; exact ⟨⟨a, b⟩, by omega, by omega⟩
theorem row_odd {v : Int} {l : List Nat} (h : isRow v l) : isRow (land64 v (-6148914691236517206)) (l.filter (fun x => decide (x % 2 = 1))) := by
  refine ⟨r_land64 _ _, fun i => ?_⟩
  rw [bt_land, h.2, bt_odd, Bool.eq_iff_iff]
  simp only [Bool.and_eq_true, decide_eq_true_eq, List.mem_filter]
  constructor
  · rintro ⟨⟨a, b⟩, c, d⟩; exact ⟨a, b, by omega⟩
  · rintro ⟨a, b, c⟩; exact ⟨⟨a, b⟩, by omega, by omega⟩
theorem sum_le60 : ∀ l : List Nat, (∀ x ∈ l, x ≤ 60) → l.sum ≤ 60 * l.length := by
  intro l
  induction l with
  | nil => intro _; simp
  | cons a t ih =>
    intro h
    have := ih (fun x hx => h x (List.mem_cons_of_mem _ hx))
    have ha := h a List.mem_cons_self
    rw [List.sum_cons, List.length_cons]
    omega
theorem worth6 {Q : Int → Prop} {v : Int} {l : List Nat} (c : Int) (hr : isRow v l) (hu : upL l) (hg : gdL 6 l) (h : Q (wth c l)) : wp_X6_worth Q c v := by
  have hb := hg.2.2
  have hl1 := hg.1
  have hl6 := hg.2.1
  have hodd : ¬ c = 101 → ¬ c = 102 → ¬ c = 103 → ¬ c = 108 → ¬ c = 115 → wp_J13_bitCount_95d88 (fun x => Q x) (land64 v (-6148914691236517206)) := by
    intro h1 h2 h3 h4 h5
    refine bitCount4 (row_odd hr) (List.Pairwise.filter _ hu) (fun x hx => hb x (List.mem_filter.mp hx).1) ?_
    unfold wth at h
    rw [if_neg h1, if_neg h2, if_neg h3, if_neg h4, if_neg h5] at h
    exact h
  unfold wp_X6_worth wp_X6_worth_115
  refine ⟨fun e => hodd (by omega) (by omega) (by omega) (by omega) (by omega), fun e => ?_, fun e => ?_, fun e => ?_, fun e => hodd (by omega) (by omega) (by omega) (by omega) (by omega), fun e => hodd (by omega) (by omega) (by omega) (by omega) (by omega), fun e => hodd (by omega) (by omega) (by omega) (by omega) (by omega), fun e => hodd (by omega) (by omega) (by omega) (by omega) (by omega), fun e => ?_, fun e => hodd (by omega) (by omega) (by omega) (by omega) (by omega), fun e => hodd (by omega) (by omega) (by omega) (by omega) (by omega), fun e => hodd (by omega) (by omega) (by omega) (by omega) (by omega), fun e => hodd (by omega) (by omega) (by omega) (by omega) (by omega), fun e => hodd (by omega) (by omega) (by omega) (by omega) (by omega), fun e => hodd (by omega) (by omega) (by omega) (by omega) (by omega), fun e => ?_⟩
  · unfold wth at h
    rw [if_pos e] at h
    exact bitCount4 (row_even hr) (List.Pairwise.filter _ hu) (fun x hx => hb x (List.mem_filter.mp hx).1) h
  · unfold wth at h
    rw [if_neg (by omega), if_pos e] at h
    exact bitCount4 hr hu hb ⟨⟨by omega, by omega⟩, h⟩
  · unfold wth at h
    rw [if_neg (by omega), if_neg (by omega), if_pos e] at h
    have hg0 : l[0]? = some l[0] := List.getElem?_eq_getElem (by omega)
    rw [List.getD_eq_getElem?_getD, hg0] at h
    exact numberAt4 (j := 0) hr hu hb hg0 h
  · unfold wth at h
    rw [if_neg (by omega), if_neg (by omega), if_neg (by omega), if_pos e] at h
    have hg0 : l[l.length - 1]? = some l[l.length - 1] := List.getElem?_eq_getElem (by omega)
    have hx := hb _ (List.mem_of_getElem? hg0)
    rw [List.getD_eq_getElem?_getD, hg0] at h
    have e1 : ((l.length : Nat) : Int) - 1 = ((l.length - 1 : Nat) : Int) := by omega
    refine bitCount4 hr hu hb ?_
    rw [e1]
    exact ⟨⟨by omega, by omega⟩, numberAt4 hr hu hb hg0 ⟨⟨by omega, by omega⟩, h⟩⟩
  · unfold wth at h
    rw [if_neg (by omega), if_neg (by omega), if_neg (by omega), if_neg (by omega), if_pos e] at h
    have hs := sum_le60 l (fun x hx => (hb x hx).2)
    exact total4 hr hu hb (by omega) ⟨⟨by omega, by omega⟩, h⟩
theorem od_s {l : List Nat} {j x : Nat} (h : l[j]? = some x) : od (l.take (j + 1)) = od (l.take j) + x % 2 := by
  unfold od
  rw [List.take_add_one, h, List.filter_append, List.length_append]
  congr 1
  show (List.filter (fun x => decide (x % 2 = 1)) [x]).length = x % 2
  rw [List.filter_cons]
  by_cases c : x % 2 = 1
  · rw [if_pos (decide_eq_true c), c]; rfl
  · rw [if_neg (by rw [decide_eq_true_iff]; exact c)]
    have : x % 2 = 0 := by omega
    rw [this]; rfl
theorem worth8 {Q : Int → Prop} {D : List (List Nat)} {k : Nat} {ma sh st : Int → Int} (c : Int) (hD : DD D k) (hS : Stor D ma sh st) {i : Nat} {l : List Nat} (hl : D[i]? = some l) (h : Q (-(wth c l))) : wp_X8_worth Q ma sh i c := by
  have hi := (List.getElem?_eq_some_iff.mp hl).1
  have hDl := hD.1
  obtain ⟨l', hl', _, hg, hu, hl6⟩ := DD_get hD hi
  rw [hl] at hl'
  have e := Option.some.inj hl'
  subst e
  obtain ⟨s1, s2, _⟩ := hS i l hl
  have hb := hg.2.2
  have hl1 := hg.1
  have heo := ev_od l
  unfold wp_X8_worth
  refine ⟨by omega, by omega, fun x6 h6 => ⟨l.length + 1, ?_⟩⟩
  rw [h6, s1]
  have last : ∀ c', wp_X8_worth_16 Q ma sh (c' + 1) i c (l.length : Nat) (l.sum : Nat) (od l : Nat) (l.length : Nat) := by
    intro c'
    rw [wp_X8_worth_16]
    unfold wp_X8_worth_175
    have hodd : ¬ c = 101 → ¬ c = 102 → ¬ c = 103 → ¬ c = 108 → ¬ c = 115 → r32 (-((od l : Nat) : Int)) ∧ Q (-((od l : Nat) : Int)) := by
      intro h1 h2 h3 h4 h5
      refine ⟨⟨by omega, by omega⟩, ?_⟩
      unfold wth at h
      rw [if_neg h1, if_neg h2, if_neg h3, if_neg h4, if_neg h5] at h
      exact h
    refine ⟨fun _ => ⟨fun e => hodd (by omega) (by omega) (by omega) (by omega) (by omega), fun e => ?_, fun e => ?_, fun e => ?_, fun e => hodd (by omega) (by omega) (by omega) (by omega) (by omega), fun e => hodd (by omega) (by omega) (by omega) (by omega) (by omega), fun e => hodd (by omega) (by omega) (by omega) (by omega) (by omega), fun e => hodd (by omega) (by omega) (by omega) (by omega) (by omega), fun e => ?_, fun e => hodd (by omega) (by omega) (by omega) (by omega) (by omega), fun e => hodd (by omega) (by omega) (by omega) (by omega) (by omega), fun e => hodd (by omega) (by omega) (by omega) (by omega) (by omega), fun e => hodd (by omega) (by omega) (by omega) (by omega) (by omega), fun e => hodd (by omega) (by omega) (by omega) (by omega) (by omega), fun e => hodd (by omega) (by omega) (by omega) (by omega) (by omega), fun e => ?_⟩, fun z => absurd (Int.le_refl _) z⟩
    · unfold wth at h
      rw [if_pos e] at h
      have : ((od l : Nat) : Int) - ((l.length : Nat) : Int) = -((ev l : Nat) : Int) := by omega
      rw [this]
      exact ⟨⟨by omega, by omega⟩, h⟩
    · unfold wth at h
      rw [if_neg (by omega), if_pos e, Int.neg_neg] at h
      exact h
    · unfold wth at h
      rw [if_neg (by omega), if_neg (by omega), if_pos e] at h
      have hg0 : l[0]? = some l[0] := List.getElem?_eq_getElem (by omega)
      have hx := hb _ (List.mem_of_getElem? hg0)
      rw [List.getD_eq_getElem?_getD, hg0] at h
      have s2' := s2 0 _ hg0
      have ei : (6 : Int) * (i : Int) = ((6 * i + 0 : Nat) : Int) := rfl
      rw [ei, s2']
      exact ⟨⟨by omega, by omega⟩, by omega, by omega, ⟨by omega, by omega⟩, h⟩
    · unfold wth at h
      rw [if_neg (by omega), if_neg (by omega), if_neg (by omega), if_pos e, Int.neg_neg] at h
      have hg0 : l[l.length - 1]? = some l[l.length - 1] := List.getElem?_eq_getElem (by omega)
      rw [List.getD_eq_getElem?_getD, hg0] at h
      have s2' := s2 (l.length - 1) _ hg0
      have ei : (6 : Int) * (i : Int) + ((l.length : Nat) : Int) - 1 = ((6 * i + (l.length - 1) : Nat) : Int) := by omega
      refine ⟨⟨by omega, by omega⟩, ⟨by omega, by omega⟩, ?_⟩
      rw [ei, s2']
      exact ⟨⟨by omega, by omega⟩, by omega, by omega, h⟩
    · unfold wth at h
      rw [if_neg (by omega), if_neg (by omega), if_neg (by omega), if_neg (by omega), if_pos e, Int.neg_neg] at h
      exact h
  have loop : ∀ (c' j : Nat), j + c' = l.length → wp_X8_worth_16 Q ma sh (c' + 1) i c (l.length : Nat) ((l.take j).sum : Nat) (od (l.take j) : Nat) j := by
    intro c'
    induction c' with
    | zero =>
      intro j hj
      have e : j = l.length := by omega
      subst e
      rw [List.take_length]
      exact last 0
    | succ c' ih =>
      intro j hj
      have hgj : l[j]? = some l[j] := List.getElem?_eq_getElem (by omega)
      have hx := hb _ (List.mem_of_getElem? hgj)
      have s2' := s2 j _ hgj
      have hn := ih (j + 1) (by omega)
      rw [od_s hgj] at hn
      have es : (l.take (j + 1)).sum = (l.take j).sum + l[j] := by
        rw [List.take_add_one, hgj, List.sum_append]
        simp
      rw [es] at hn
      have b1 := sum_le60 (l.take j) (fun x hx => (hb x (List.mem_of_mem_take hx)).2)
      have b2 := ev_od (l.take j)
      rw [List.length_take] at b1 b2
      generalize l[j] = X at *
      rw [wp_X8_worth_16]
      have ei : (6 : Int) * (i : Int) + (j : Int) = ((6 * i + j : Nat) : Int) := rfl
      rw [ei, s2', show (2 : Int) = ((2 : Nat) : Int) from rfl, nm_tmod]
      have hX2 := Nat.mod_lt X (show 0 < 2 by omega)
      refine ⟨fun z => absurd z (by omega), fun _ => ⟨⟨by omega, by omega⟩, ⟨by omega, by omega⟩, by omega, by omega, ⟨by omega, by omega⟩, fun x37 h37 => ⟨⟨by omega, by omega⟩, ⟨by omega, by omega⟩, by omega, by omega, ⟨by omega, by omega⟩, fun x56 h56 => ⟨⟨by omega, by omega⟩, ?_⟩⟩⟩⟩
      rw [h37, h56]
      exact hn
  have := loop l.length 0 (by omega)
  exact this
def btr (w : Int → Int) (l l' : List Nat) : Nat → Nat → Int
  | 0, _ => 0
  | c + 1, i => if wth (w i) l = wth (w i) l' then btr w l l' c (i + 1) else if wth (w i) l ≤ wth (w i) l' then 0 else 1
theorem isBetter6 {Q : Int → Prop} {wl : Int → Int} {ws : Nat} (hw : ws ≤ 8) {v v' : Int} {l l' : List Nat} (hr : isRow v l) (hu : upL l) (hg : gdL 6 l) (hr' : isRow v' l') (hu' : upL l') (hg' : gdL 6 l') (h : Q (btr wl l l' ws 0)) : wp_X6_isBetter Q wl ws v v' := by
  have loop : ∀ (c i : Nat), i + c = ws → Q (btr wl l l' c i) → wp_X6_isBetter_3 Q wl ws (c + 1) v v' i := by
    intro c
    induction c with
    | zero =>
      intro i hi hq
      rw [wp_X6_isBetter_3]
      exact ⟨fun _ => hq, fun z => absurd z (by omega)⟩
    | succ c ih =>
      intro i hi hq
      rw [wp_X6_isBetter_3]
      unfold wp_X6_isBetter_57
      refine ⟨fun z => absurd z (by omega), fun _ => ⟨by omega, by omega, worth6 _ hr hu hg ⟨by omega, by omega, worth6 _ hr' hu' hg' ⟨fun e => ⟨⟨by omega, by omega⟩, ih (i + 1) (by omega) ?_⟩, fun e => ⟨fun e2 => ⟨Or.inl rfl, ?_⟩, fun e2 => ⟨Or.inr rfl, ?_⟩⟩⟩⟩⟩⟩
      · rw [btr, if_pos e] at hq; exact hq
      · rw [btr, if_neg e, if_pos e2] at hq; exact hq
      · rw [btr, if_neg e, if_neg e2] at hq; exact hq
  exact ⟨_, loop ws 0 (by omega) h⟩
theorem isBetter8 {Q : Int → Prop} {wl mw : Int → Int} {ws : Nat} (hw : ws ≤ 8) (he : ∀ k : Nat, k < 8 → mw k = wl k) {D : List (List Nat)} {k : Nat} {ma sh st : Int → Int} (hD : DD D k) (hS : Stor D ma sh st) {i j : Nat} {l l' : List Nat} (hl : D[i]? = some l) (hl' : D[j]? = some l') (h : Q (btr wl l l' ws 0)) : wp_X8_isBetter Q ma sh ws mw i j := by
  have loop : ∀ (c n : Nat), n + c = ws → Q (btr wl l l' c n) → wp_X8_isBetter_2 Q ma sh ws mw (c + 1) i j n := by
    intro c
    induction c with
    | zero =>
      intro n hn hq
      rw [wp_X8_isBetter_2]
      exact ⟨fun _ => hq, fun z => absurd z (by omega)⟩
    | succ c ih =>
      intro n hn hq
      rw [wp_X8_isBetter_2]
      unfold wp_X8_isBetter_55
      rw [he n (by omega)]
      refine ⟨fun z => absurd z (by omega), fun _ => ⟨by omega, by omega, worth8 _ hD hS hl ⟨by omega, by omega, worth8 _ hD hS hl' ⟨fun e => ⟨⟨by omega, by omega⟩, ih (n + 1) (by omega) ?_⟩, fun e => ⟨fun e2 => ⟨Or.inl rfl, ?_⟩, fun e2 => ⟨Or.inr rfl, ?_⟩⟩⟩⟩⟩⟩
      · rw [btr, if_pos (by omega)] at hq; exact hq
      · rw [btr, if_neg (by omega), if_pos (by omega)] at hq; exact hq
      · rw [btr, if_neg (by omega), if_neg (by omega)] at hq; exact hq
  exact ⟨_, loop ws 0 (by omega) h⟩
def cho (w : Int → Int) (ws : Nat) (D : List (List Nat)) : Nat → Nat
  | 0 => 0
  | i + 1 => if btr w (D.getD (i + 1) []) (D.getD (cho w ws D i) []) ws 0 = 0 then cho w ws D i else i + 1
theorem cho_le {w : Int → Int} {ws : Nat} {D : List (List Nat)} : ∀ i, cho w ws D i ≤ i := by
  intro i
  induction i with
  | zero => exact Nat.le_refl _
  | succ i ih => rw [cho]; split <;> omega
theorem gdL_6 {k : Nat} {l : List Nat} (h : gdL k l) (h6 : l.length ≤ 6) : gdL 6 l := ⟨h.1, h6, h.2.2⟩
theorem choose6 {Q : Int → Prop} {wl : Int → Int} {ws : Nat} (hw : ws ≤ 8) {D : List (List Nat)} {k : Nat} {rows : Int → Int} (hD : DD D k) (h1 : 1 ≤ D.length) (hrow : ∀ (i : Nat) (l : List Nat), D[i]? = some l → isRow (rows i) l) (h : Q (cho wl ws D (D.length - 1) : Nat)) : wp_X6_choose Q rows (D.length : Nat) wl ws := by
  have hDl := hD.1
  have loop : ∀ (c i : Nat), i + 1 + c = D.length → wp_X6_choose_4 Q rows (D.length : Nat) wl ws (c + 1) (cho wl ws D i : Nat) ((i + 1 : Nat) : Int) := by
    intro c
    induction c with
    | zero =>
      intro i hi
      rw [wp_X6_choose_4]
      unfold wp_X1_size
      refine ⟨fun _ => ?_, fun z => absurd z (by omega)⟩
      have e : i = D.length - 1 := by omega
      rw [e]
      exact h
    | succ c ih =>
      intro i hi
      have hn := ih (i + 1) (by omega)
      have hle := cho_le (w := wl) (ws := ws) (D := D) i
      obtain ⟨l, hl, _, hg, hu, hl6⟩ := DD_get hD (show i + 1 < D.length by omega)
      obtain ⟨l', hl', _, hg', hu', hl6'⟩ := DD_get hD (show cho wl ws D i < D.length by omega)
      rw [wp_X6_choose_4]
      unfold wp_X1_size wp_X6_choose_31
      refine ⟨fun z => absurd z (by omega), fun _ => at1 (by omega) (at1 (by omega) (isBetter6 hw (hrow _ _ hl) hu (gdL_6 hg hl6) (hrow _ _ hl') hu' (gdL_6 hg' hl6') ⟨fun z => ⟨⟨by omega, by omega⟩, ?_⟩, fun z => ⟨⟨by omega, by omega⟩, ?_⟩⟩))⟩
      · rw [cho, List.getD_eq_getElem?_getD, hl, List.getD_eq_getElem?_getD, hl'] at hn
        rw [if_pos (show btr wl ((some l).getD []) ((some l').getD []) ws 0 = 0 from z)] at hn
        exact hn
      · rw [cho, List.getD_eq_getElem?_getD, hl, List.getD_eq_getElem?_getD, hl'] at hn
        rw [if_neg (show ¬ btr wl ((some l).getD []) ((some l').getD []) ws 0 = 0 from z)] at hn
        exact hn
  exact ⟨_, loop (D.length - 1) 0 (by omega)⟩
theorem best22 {Q : Int → Prop} {wl mw : Int → Int} {ws : Nat} (hw : ws ≤ 8) (he : ∀ k : Nat, k < 8 → mw k = wl k) {D : List (List Nat)} {k : Nat} {ma sh st : Int → Int} (hD : DD D k) (hS : Stor D ma sh st) (h0 : D.length = 0 → Q (-4)) (h1 : 1 ≤ D.length → Q (cho wl ws D (D.length - 1) : Nat)) : ∃ n0, wp_X8_best_22 Q (D.length : Nat) ma sh ws mw n0 (-4) 0 := by
  have hDl := hD.1
  have loop : ∀ (c i : Nat), i + 1 + c = D.length → wp_X8_best_22 Q (D.length : Nat) ma sh ws mw (c + 1) (cho wl ws D i : Nat) ((i + 1 : Nat) : Int) := by
    intro c
    induction c with
    | zero =>
      intro i hi
      rw [wp_X8_best_22]
      refine ⟨fun _ => ?_, fun z => absurd z (by omega)⟩
      have e : i = D.length - 1 := by omega
      rw [e]
      exact h1 (by omega)
    | succ c ih =>
      intro i hi
      have hn := ih (i + 1) (by omega)
      have hle := cho_le (w := wl) (ws := ws) (D := D) i
      obtain ⟨l, hl, _, hg, hu, hl6⟩ := DD_get hD (show i + 1 < D.length by omega)
      obtain ⟨l', hl', _, hg', hu', hl6'⟩ := DD_get hD (show cho wl ws D i < D.length by omega)
      rw [wp_X8_best_22]
      unfold wp_X8_best_43 wp_X8_best_48
      refine ⟨fun z => absurd z (by omega), fun _ => ⟨fun z => absurd z (by omega), fun _ => isBetter8 hw he hD hS hl hl' ⟨fun z => ⟨⟨by omega, by omega⟩, ?_⟩, fun z => ⟨⟨by omega, by omega⟩, ?_⟩⟩⟩⟩
      · rw [cho, List.getD_eq_getElem?_getD, hl, List.getD_eq_getElem?_getD, hl'] at hn
        rw [if_pos (show btr wl ((some l).getD []) ((some l').getD []) ws 0 = 0 from z)] at hn
        exact hn
      · rw [cho, List.getD_eq_getElem?_getD, hl, List.getD_eq_getElem?_getD, hl'] at hn
        rw [if_neg (show ¬ btr wl ((some l).getD []) ((some l').getD []) ws 0 = 0 from z)] at hn
        exact hn
  rcases Nat.eq_zero_or_pos D.length with z | z
  · refine ⟨1, ?_⟩
    rw [wp_X8_best_22]
    exact ⟨fun _ => h0 z, fun w => absurd w (by omega)⟩
  · refine ⟨(D.length - 1) + 1 + 1, ?_⟩
    rw [wp_X8_best_22]
    unfold wp_X8_best_43 wp_X8_best_48
    exact ⟨fun w => absurd w (by omega), fun _ => ⟨fun _ => ⟨⟨by omega, by omega⟩, loop (D.length - 1) 0 (by omega)⟩, fun w => absurd w (by omega)⟩⟩
theorem best_ok {rows di re : Int → Int} {th sz mo so lo en fo : Int} {ma sh st : Int → Int} (hF : FI rows di re th sz mo so lo en fo ma sh st) {wl mw : Int → Int} {ws ww mn : Int} (hW : WI wl ws ww mn mw) {K : Int → Int → Prop} (hK : ∀ v, K v v) :
    wp_X7_best (fun v => wp_X8_best (fun v2 => K v v2) fo ma sh mn mw) rows th sz wl ws ww := by
  obtain ⟨rfl, h0, h8, he, hf⟩ := hW
  unfold wp_X7_best wp_X7_best_22 wp_X7_best_51 wp_X8_best wp_X8_best_14 wp_X1_isThere wp_X1_size wp_X6_firstWrong
  rcases hF with ⟨rfl, rfl, rfl⟩ | ⟨rfl, D, k, hD, rfl, rfl, rfl, hrow, hS, -⟩
  · exact ⟨Or.inl rfl, fun _ => ⟨fun _ => hK _, fun z => absurd z (by omega)⟩, fun z => absurd rfl z⟩
  · obtain ⟨n, rfl⟩ : ∃ n : Nat, ws = n := ⟨ws.toNat, by omega⟩
    have he' : ∀ k : Nat, k < 8 → mw k = wl k := fun k hk => (he k (by omega) (by omega)).symm
    have ref : ∀ v, (ww = -4 → ∃ n0, wp_X8_best_22 (fun v2 => K v v2) (D.length : Nat) ma sh n mw n0 (-4) 0) → (¬ ww = -4 → K v (-2)) → ((((D.length : Nat) : Int) < 0 → K v (-2)) ∧ (¬ (((D.length : Nat) : Int) < 0) → wp_X8_fault (fun x8 => ((x8 < 0 → (∃ n0 : Nat, wp_X8_best_22 (fun v2 => K v v2) (D.length : Nat) ma sh n mw n0 (-4) 0)) ∧ (¬ (x8 < 0) → K v (-2)))) n mw)) := by
      intro v h1 h2
      refine ⟨fun z => absurd z (by omega), fun _ => fault8 h0 h8 (fun x hx => ?_)⟩
      have ex := hx.one (hf.cong (fun i a b => he i a (by omega)))
      have hx4 : x = -4 ∨ 0 ≤ x := by
        rcases hx with ⟨a, _⟩ | ⟨a, _⟩
        · exact Or.inl a
        · exact Or.inr a
      refine ⟨fun z => h1 (by omega), fun z => h2 (by omega)⟩
    refine ⟨Or.inr rfl, fun z => absurd z (by omega), fun _ => ⟨fun e => ⟨fun hz => ?_, fun hz => ?_⟩, fun e => ref _ (fun z => absurd z e) (fun _ => hK _)⟩⟩
    · refine choose6 (by omega) hD (by omega) hrow (ref _ (fun _ => best22 (by omega) he' hD hS (fun z => by omega) (fun _ => hK _)) (fun z => absurd e z))
    · exact ref _ (fun _ => best22 (by omega) he' hD hS (fun _ => hK _) (fun z => by omega)) (fun z => absurd e z)
