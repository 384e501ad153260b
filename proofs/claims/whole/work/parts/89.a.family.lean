/-! ===== the family: what its lists are, and the rows of bits that stand for them ===== -/
def lx (l l' : List Nat) : Prop := ∃ (pre r r' : List Nat) (x y : Nat), l = pre ++ x :: r ∧ l' = pre ++ y :: r' ∧ x < y
theorem SL_lx {c : Nat → Nat} : ∀ (vs : List Nat) (k t : Nat), vs.Pairwise (fun x y => x < y) → (SL c vs k t).Pairwise lx := by
  intro vs
  induction vs with
  | nil => intro k t _; exact List.Pairwise.nil
  | cons v vs ih =>
    intro k t h
    cases k with
    | zero => rw [SL_0]; exact List.Pairwise.nil
    | succ k =>
      obtain ⟨h1, h2⟩ := List.pairwise_cons.mp h
      rw [SL, List.pairwise_append]
      have hfirst : ∀ l, l ∈ (if c v = t then [[v]] else if c v < t then (SL c vs k (t - c v)).map (fun l => v :: l) else []) → ∃ r, l = v :: r := by
        intro l hl
        split at hl
        · exact ⟨[], List.mem_singleton.mp hl⟩
        split at hl
        · obtain ⟨l', _, rfl⟩ := List.mem_map.mp hl
          exact ⟨l', rfl⟩
        · simp at hl
      refine ⟨?_, ih (k + 1) t h2, ?_⟩
      · split
        · exact List.pairwise_singleton _ _
        split
        · rw [List.pairwise_map]
          refine List.Pairwise.imp ?_ (ih k (t - c v) h2)
          rintro a b ⟨pre, r, r', x, y, rfl, rfl, hxy⟩
          exact ⟨v :: pre, r, r', x, y, rfl, rfl, hxy⟩
        · exact List.Pairwise.nil
      · intro a ha b hb
        obtain ⟨r, rfl⟩ := hfirst a ha
        obtain ⟨s1, _, s3, _⟩ := SL_mem _ _ _ _ hb
        cases b with
        | nil => exact absurd rfl s3
        | cons y r' => exact ⟨[], r, r', v, y, rfl, rfl, h1 y (s1.subset List.mem_cons_self)⟩
def upL (l : List Nat) : Prop := l.Pairwise (fun x y => x < y)
theorem upL_nd {l : List Nat} (h : upL l) : l.Nodup := List.Pairwise.imp (fun {a b} (hab : a < b) => by omega) h
def DD (D : List (List Nat)) (k : Nat) : Prop := D.length ≤ 2000 ∧ 1 ≤ k ∧ k ≤ 6 ∧ (∀ l ∈ D, gdL k l ∧ upL l) ∧ D.Pairwise lx ∧ ∃ q t : Nat, 1 ≤ q ∧ ∀ l ∈ D, (l.map (cw q)).sum = t
theorem DD_TS {p q n k : Nat} (hq : 1 ≤ q) (hn : n ≤ 60) (hn2 : 2 ≤ n) (hk : k ≤ 6) (hk1 : 1 ≤ k) (hl : (TS p q n k).length ≤ 2000) : DD (TS p q n k) k := by
  refine ⟨hl, hk1, hk, fun l h => ?_, SL_lx _ _ _ (rl_up (n - 1) (by omega)), q, p * WW, hq, fun l h => (TS_mem hn hn2 h).2.2⟩
  obtain ⟨a, b, c⟩ := TS_mem hn hn2 h
  exact ⟨a, List.Pairwise.sublist b (rl_up (n - 1) (by omega))⟩
theorem up_ext : ∀ (l l' : List Nat), upL l → upL l' → (∀ x, x ∈ l ↔ x ∈ l') → l = l' := by
  intro l
  induction l with
  | nil =>
    intro l' _ _ h
    cases l' with
    | nil => rfl
    | cons b t => exact absurd ((h b).mpr List.mem_cons_self) (by simp)
  | cons a t ih =>
    intro l' h1 h2 h
    cases l' with
    | nil => exact absurd ((h a).mp List.mem_cons_self) (by simp)
    | cons b t' =>
      obtain ⟨a1, a2⟩ := List.pairwise_cons.mp h1
      obtain ⟨b1, b2⟩ := List.pairwise_cons.mp h2
      have hab : a = b := by
        rcases List.mem_cons.mp ((h a).mp List.mem_cons_self) with w | w
        · exact w
        · have u1 := b1 a w
          rcases List.mem_cons.mp ((h b).mpr List.mem_cons_self) with u | u
          · exact u.symm
          · have := a1 b u; omega
      subst hab
      congr 1
      refine ih t' a2 b2 (fun x => ⟨fun hx => ?_, fun hx => ?_⟩)
      · rcases List.mem_cons.mp ((h x).mp (List.mem_cons_of_mem _ hx)) with w | w
        · have := a1 x hx; omega
        · exact w
      · rcases List.mem_cons.mp ((h x).mpr (List.mem_cons_of_mem _ hx)) with w | w
        · have := b1 x hx; omega
        · exact w
/-- weights of those below n, together -/
def wsn (w : Nat → Nat) (l : List Nat) (n : Nat) : Nat := (l.map (fun y => if y < n then w y else 0)).sum
theorem wsn_s {w : Nat → Nat} {n : Nat} : ∀ l : List Nat, l.Nodup → wsn w l (n + 1) = wsn w l n + (if n ∈ l then w n else 0) := by
  intro l
  induction l with
  | nil => intro _; rfl
  | cons a t ih =>
    intro h
    obtain ⟨h1, h2⟩ := List.nodup_cons.mp h
    have := ih h2
    unfold wsn at this ⊢
    rw [List.map_cons, List.sum_cons, List.map_cons, List.sum_cons, this]
    by_cases e : a = n
    · subst e
      rw [if_pos (show a < a + 1 by omega), if_neg (show ¬ a < a by omega), if_neg h1, if_pos List.mem_cons_self]
      omega
    · have em : (n ∈ a :: t) ↔ n ∈ t := by
        rw [List.mem_cons]
        constructor
        · rintro (w | w)
          · exact absurd w.symm e
          · exact w
        · exact Or.inr
      have e2 : (if a < n + 1 then w a else 0) = if a < n then w a else 0 := by
        by_cases l1 : a < n
        · rw [if_pos l1, if_pos (by omega)]
        · rw [if_neg l1, if_neg (by omega)]
      rw [e2]
      by_cases m : n ∈ t
      · rw [if_pos m, if_pos (em.mpr m)]; omega
      · rw [if_neg m, if_neg (fun z => m (em.mp z))]; omega
theorem wsn_0 {w : Nat → Nat} {n : Nat} : ∀ l : List Nat, (∀ x ∈ l, n ≤ x) → wsn w l n = 0 := by
  intro l
  induction l with
  | nil => intro _; rfl
  | cons a t ih =>
    intro h
    have := ih (fun x hx => h x (List.mem_cons_of_mem _ hx))
    have ha := h a List.mem_cons_self
    unfold wsn at this ⊢
    rw [List.map_cons, List.sum_cons, this, if_neg (by omega)]
theorem wsn_all {w : Nat → Nat} {n : Nat} : ∀ l : List Nat, (∀ x ∈ l, x < n) → wsn w l n = (l.map w).sum := by
  intro l
  induction l with
  | nil => intro _; rfl
  | cons a t ih =>
    intro h
    have := ih (fun x hx => h x (List.mem_cons_of_mem _ hx))
    have ha := h a List.mem_cons_self
    unfold wsn at this ⊢
    rw [List.map_cons, List.sum_cons, this, if_pos ha, List.map_cons, List.sum_cons]
theorem wsn_mono {w : Nat → Nat} {n m : Nat} (h : n ≤ m) : ∀ l : List Nat, wsn w l n ≤ wsn w l m := by
  intro l
  induction l with
  | nil => exact Nat.le_refl _
  | cons a t ih =>
    unfold wsn at ih ⊢
    rw [List.map_cons, List.sum_cons, List.map_cons, List.sum_cons]
    have : (if a < n then w a else 0) ≤ if a < m then w a else 0 := by
      by_cases l1 : a < n
      · rw [if_pos l1, if_pos (by omega)]; exact Nat.le_refl _
      · rw [if_neg l1]; exact Nat.zero_le _
    omega
theorem sum_ones : ∀ l : List Nat, (l.map (fun _ => 1)).sum = l.length := by
  intro l
  induction l with
  | nil => rfl
  | cons a t ih => rw [List.map_cons, List.sum_cons, ih, List.length_cons]; omega
theorem wsn_idx : ∀ (l : List Nat) (j x : Nat), upL l → l[j]? = some x → wsn (fun _ => 1) l x = j := by
  intro l
  induction l with
  | nil => intro j x _ h; simp at h
  | cons a t ih =>
    intro j x hu h
    obtain ⟨a1, a2⟩ := List.pairwise_cons.mp hu
    cases j with
    | zero =>
      have e : a = x := by simpa using h
      subst e
      refine wsn_0 _ (fun y hy => ?_)
      rcases List.mem_cons.mp hy with w | w
      · omega
      · have := a1 y w; omega
    | succ j =>
      have e : t[j]? = some x := by simpa using h
      have h1 := ih j x a2 e
      have h2 := a1 x (List.mem_of_getElem? e)
      unfold wsn at h1 ⊢
      rw [List.map_cons, List.sum_cons, h1, if_pos h2]
      exact Nat.add_comm 1 j
theorem row_nat {v : Int} {l : List Nat} (h : isRow v l) : ∃ x : Nat, v = x ∧ x < 9223372036854775808 ∧ ∀ i, x.testBit i = decide ((2 ≤ i ∧ i ≤ 60) ∧ 62 - i ∈ l) := by
  have h0 := bt_pos h.1 (by rw [h.2]; exact decide_eq_false (fun w => by omega))
  have hr := h.1.2
  refine ⟨v.toNat, by omega, by omega, fun i => ?_⟩
  have e := bt_nat (n := v.toNat) (by omega) i
  rw [← e, show ((v.toNat : Nat) : Int) = v by omega]
  exact h.2 i
theorem nd_62 {l : List Nat} (hu : upL l) (hb : ∀ x ∈ l, 2 ≤ x ∧ x ≤ 60) : (l.map (fun y => 62 - y)).Nodup := by
  refine List.pairwise_map.mpr (List.Pairwise.imp_of_mem ?_ hu)
  intro a b ha hb' hab
  have := hb a ha
  have := hb b hb'
  omega
theorem popN_ws {x : Nat} {m : List Nat} (hm : m.Nodup) (h : ∀ i, x.testBit i = decide (i ∈ m)) : ∀ n, popN x n = wsn (fun _ => 1) m n := by
  intro n
  induction n with
  | zero => rw [wsn_0 m (fun y _ => Nat.zero_le y)]; rfl
  | succ n ih =>
    rw [popN, ih, wsn_s m hm, h n]
    by_cases c : n ∈ m
    · rw [if_pos c, decide_eq_true c, if_pos rfl]
    · rw [if_neg c, decide_eq_false c, if_neg (by simp)]
theorem bitCount4 {Q : Int → Prop} {v : Int} {l : List Nat} (hr : isRow v l) (hu : upL l) (hb : ∀ x ∈ l, 2 ≤ x ∧ x ≤ 60) (h : Q (l.length : Nat)) : wp_J13_bitCount_95d88 Q v := by
  obtain ⟨x, e, hx, ht⟩ := row_nat hr
  rw [e]
  refine bitCountJ hx ?_
  rw [popN_ws (nd_62 hu hb) (fun i => ?_) 64, wsn_all, sum_ones, List.length_map]
  · exact h
  · intro y hy
    obtain ⟨z, hz, rfl⟩ := List.mem_map.mp hy
    have := hb z hz
    omega
  · rw [ht i]
    by_cases c : i ∈ l.map (fun y => 62 - y)
    · rw [decide_eq_true c]
      obtain ⟨z, hz, rfl⟩ := List.mem_map.mp c
      have := hb z hz
      refine decide_eq_true ⟨⟨by omega, by omega⟩, ?_⟩
      rw [show 62 - (62 - z) = z by omega]
      exact hz
    · rw [decide_eq_false c]
      refine decide_eq_false (fun w => c (List.mem_map.mpr ⟨62 - i, w.2, by omega⟩))
theorem at1 {Q : Int → Prop} {f : Int → Int} {i : Nat} (hi : i < 2001) (h : Q (f i)) : wp_X1_at Q f i := by
  unfold wp_X1_at wp_X1_at_22 wp_X1_at_23
  exact ⟨fun z => absurd z (by omega), fun _ => ⟨fun z => absurd z (by omega), fun _ => ⟨by omega, by omega, h⟩⟩⟩
theorem row_bit {v : Int} {l : List Nat} (hr : isRow v l) {y : Nat} (h1 : 2 ≤ y) (h2 : y ≤ 60) : land64 v (shl64 1 ((62 - y : Nat) : Int)) = 0 ↔ ¬ y ∈ l := by
  rw [land_pow (by omega), hr.2]
  rw [show 62 - (62 - y) = y by omega, decide_eq_false_iff_not]
  constructor
  · intro w z; exact w ⟨⟨by omega, by omega⟩, z⟩
  · intro w z; exact w z.2
theorem numberAt4 {Q : Int → Prop} {v : Int} {l : List Nat} (hr : isRow v l) (hu : upL l) (hb : ∀ x ∈ l, 2 ≤ x ∧ x ≤ 60) {j x : Nat} (hj : l[j]? = some x) (h : Q x) : wp_X4_numberAt Q v j := by
  have hx := hb x (List.mem_of_getElem? hj)
  have hix := wsn_idx l j x hu hj
  have hjl := (List.getElem?_eq_some_iff.mp hj).1
  have hlen : l.length ≤ 60 := by
    have := nodup_le l (List.range 61) (upL_nd hu) (fun y hy => List.mem_range.mpr (by have := hb y hy; omega))
    rw [List.length_range] at this
    have h3 := wsn_mono (w := fun _ => 1) (show 0 ≤ 61 by omega) l
    have h4 : 0 ∉ l := fun w => by have := hb 0 w; omega
    rcases Nat.lt_or_ge l.length 61 with u | u
    · omega
    · exfalso
      have := nodup_le (0 :: l) (List.range 61) (List.nodup_cons.mpr ⟨h4, upL_nd hu⟩) (fun y hy => List.mem_range.mpr (by
        rcases List.mem_cons.mp hy with w | w
        · omega
        · have := hb y w; omega))
      rw [List.length_range, List.length_cons] at this
      omega
  have loop : ∀ (c y : Nat), y + c = x → 2 ≤ y → wp_X4_numberAt_5 Q (c + 1) v j (wsn (fun _ => 1) l y : Nat) y := by
    intro c
    induction c with
    | zero =>
      intro y hy h2
      have ey : y = x := by omega
      subst ey
      rw [wp_X4_numberAt_5]
      refine ⟨fun z => absurd z (by omega), fun _ => bit4 (by omega) (by omega) ⟨fun z => ?_, fun _ => ⟨fun z => absurd (by rw [hix]) z, fun _ => h⟩⟩⟩
      exact absurd (List.mem_of_getElem? hj) ((row_bit hr (by omega) (by omega)).mp z)
    | succ c ih =>
      intro y hy h2
      have hs := wsn_s (w := fun _ => 1) (n := y) l (upL_nd hu)
      have hm := wsn_mono (w := fun _ => 1) (show y + 1 ≤ x by omega) l
      have e2 : (y : Int) + 1 = ((y + 1 : Nat) : Int) := rfl
      have hn := ih (y + 1) (by omega) (by omega)
      rw [wp_X4_numberAt_5]
      unfold wp_X4_numberAt_35
      rw [e2]
      refine ⟨fun z => absurd z (by omega), fun _ => bit4 (by omega) (by omega) ⟨fun z => ⟨⟨by omega, by omega⟩, ?_⟩, fun z => ?_⟩⟩
      · rw [if_neg ((row_bit hr (by omega) (by omega)).mp z)] at hs
        rw [hs, Nat.add_zero] at hn
        exact hn
      · have hin : y ∈ l := Classical.byContradiction (fun w => z ((row_bit hr (by omega) (by omega)).mpr w))
        rw [if_pos hin] at hs
        rw [hs] at hn hm
        have e3 : ((wsn (fun _ => 1) l y : Nat) : Int) + 1 = ((wsn (fun _ => 1) l y + 1 : Nat) : Int) := rfl
        rw [e3]
        exact ⟨fun _ => ⟨⟨by omega, by omega⟩, ⟨by omega, by omega⟩, hn⟩, fun w => absurd w (by omega)⟩
  have hl := loop (x - 2) 2 (by omega) (by omega)
  rw [wsn_0 l (fun y hy => (hb y hy).1)] at hl
  exact ⟨_, hl⟩
theorem total4 {Q : Int → Prop} {v : Int} {l : List Nat} (hr : isRow v l) (hu : upL l) (hb : ∀ x ∈ l, 2 ≤ x ∧ x ≤ 60) (hs : l.sum ≤ 100000) (h : Q (l.sum : Nat)) : wp_X4_total Q v := by
  have hall : wsn (fun y => y) l 61 = l.sum := by
    rw [wsn_all l (fun x hx => by have := hb x hx; omega)]
    rw [List.map_id'']
    intro x; rfl
  have loop : ∀ (c y : Nat), y + c = 61 → 2 ≤ y → wp_X4_total_4 Q (c + 1) v (wsn (fun y => y) l y : Nat) y := by
    intro c
    induction c with
    | zero =>
      intro y hy h2
      have ey : y = 61 := by omega
      subst ey
      rw [wp_X4_total_4, hall]
      exact ⟨fun _ => h, fun z => absurd z (by omega)⟩
    | succ c ih =>
      intro y hy h2
      have hs' := wsn_s (w := fun y => y) (n := y) l (upL_nd hu)
      have hm := wsn_mono (w := fun y => y) (show y + 1 ≤ 61 by omega) l
      have e2 : (y : Int) + 1 = ((y + 1 : Nat) : Int) := rfl
      have hn := ih (y + 1) (by omega) (by omega)
      rw [wp_X4_total_4]
      unfold wp_X4_total_25
      rw [e2]
      refine ⟨fun z => absurd z (by omega), fun _ => bit4 (by omega) (by omega) ⟨fun z => ⟨⟨by omega, by omega⟩, ?_⟩, fun z => ?_⟩⟩
      · rw [if_neg ((row_bit hr (by omega) (by omega)).mp z)] at hs'
        rw [hs', Nat.add_zero] at hn
        exact hn
      · have hin : y ∈ l := Classical.byContradiction (fun w => z ((row_bit hr (by omega) (by omega)).mpr w))
        rw [if_pos hin] at hs'
        rw [hs'] at hn hm
        refine ⟨⟨by omega, by omega⟩, fun x hx => ⟨⟨by omega, by omega⟩, ?_⟩⟩
        rw [hx]
        exact hn
  have hl := loop 59 2 (by omega) (by omega)
  rw [wsn_0 l (fun y hy => (hb y hy).1)] at hl
  exact ⟨_, hl⟩
